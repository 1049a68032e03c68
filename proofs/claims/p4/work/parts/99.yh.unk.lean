theorem lkF_bd {r : rM} {c : Nat} {u : Int32} (k n : Nat) (φ : Fr) (j : Nat) (h : CHd r k n φ) (hn : ¬ lkF c (-1) φ j < 0) (hb : j + k ≤ 600) : ∃ X, X < 10000 ∧ lkF c u φ j = nI X := by
  rcases lkF_ud (c := c) (u := u) k n φ j h hb with ⟨e1, -⟩ | ⟨X, hX, -, e2⟩
  · exact absurd (by rw [e1]; decide) hn
  · exact ⟨X, hX, e2⟩
def NM (r : rM) (K i c k : Nat) (φ : Fr) : Prop := r.kind i = 1 ∧ r.value i = nI c ∧ c < 256 ∧ CHd r k i φ ∧ k ≤ K
def cov (r : rM) (K n e : Nat) (T : TL) : Prop := (∀ i, n ≤ i → i < e → r.kind i = 1 → (∃ a, a ≤ 96 ∧ r.at_ i = nI a) ∧ ∃ c k φ, NM r K i c k φ) ∧ (∀ x ∈ T, x.1 = 6 → ∃ i c k φ, n ≤ i ∧ i < e ∧ NM r K i c k φ ∧ x.2 = lkF c (uP (pn r.at_ i)) φ 0)
theorem lst_mem {x : Int32 × Int32} {i : Int32} {t : Tau} {φ : Fr} (h : x ∈ lstT i t φ) (h6 : x.1 = 6) (hi : True) : x ∈ t φ := by
  unfold lstT at h
  rcases List.mem_cons.mp h with w | w
  · rw [w] at h6
    exact absurd h6 (by decide)
  · rcases List.mem_append.mp w with w | w
    · exact w
    · rcases List.mem_cons.mp w with w | w
      · rw [w] at h6
        exact absurd (show (1 : Int32) = 6 from h6) (by decide)
      · rw [List.mem_singleton.mp w] at h6
        exact absurd h6 (by decide)
theorem row_mem {x : Int32 × Int32} {φ : Fr} (h6 : x.1 = 6) : ∀ (ks : List Kd), x ∈ rowT ks φ → ∃ k ∈ ks, x ∈ k.1 φ
  | [], h => by
    have h : x ∈ [((1 : Int32), (1 : Int32)), (0, 0)] := h
    rcases List.mem_cons.mp h with w | w
    · rw [w] at h6
      exact absurd h6 (by decide)
    · rw [List.mem_singleton.mp w] at h6
      exact absurd h6 (by decide)
  | k :: ks, h => by
    have h : x ∈ rowT ks φ ++ (k.1 φ ++ [(1, 13)]) := h
    rcases List.mem_append.mp h with w | w
    · obtain ⟨k2, q1, q2⟩ := row_mem h6 ks w
      exact ⟨k2, List.mem_cons_of_mem _ q1, q2⟩
    · rcases List.mem_append.mp w with w | w
      · exact ⟨k, List.mem_cons_self, w⟩
      · rw [List.mem_singleton.mp w] at h6
        exact absurd h6 (by decide)
theorem one_mem {x : Int32 × Int32} {v : Int32} (h6 : x.1 = 6) (h : x ∈ [((1 : Int32), v)]) : False := by
  rw [List.mem_singleton.mp h] at h6
  exact absurd (show (1 : Int32) = 6 from h6) (by decide)
theorem cKL_all {P : Nat → Nat → Tau → Prop} {nx bo : Nat → Int32} (hlt : ∀ i m t, P i m t → i < m) : ∀ (ks : List Kd) (i l m : Nat), cKL P nx bo ks i l m → (∀ k ∈ ks, ∃ a b, i ≤ a ∧ b ≤ m ∧ P a b k.1) ∧ (∀ j, i ≤ j → j < m → ∃ k ∈ ks, ∃ a b, i ≤ a ∧ a ≤ j ∧ j < b ∧ b ≤ m ∧ P a b k.1)
  | [], _, _, _, h => absurd h id
  | k :: [], i, l, m, h => by
    obtain ⟨rfl, h2, -⟩ := h
    refine ⟨fun k2 hk => ?_, fun j h3 h4 => ⟨k, List.mem_cons_self, i, m, Nat.le_refl _, h3, h4, Nat.le_refl _, h2⟩⟩
    rw [List.mem_singleton.mp hk]
    exact ⟨i, m, Nat.le_refl _, Nat.le_refl _, h2⟩
  | k :: k2 :: ks, i, l, m, h => by
    obtain ⟨j, h1, -, -, h4⟩ := h
    have c1 := hlt _ _ _ h1
    have c2 := cKL_lt hlt (k2 :: ks) j l m h4
    obtain ⟨q1, q2⟩ := cKL_all hlt (k2 :: ks) j l m h4
    refine ⟨fun k3 hk => ?_, fun j2 h5 h6 => ?_⟩
    · rcases List.mem_cons.mp hk with w | w
      · rw [w]
        exact ⟨i, j, Nat.le_refl _, by omega, h1⟩
      · obtain ⟨a, b, w1, w2, w3⟩ := q1 k3 w
        exact ⟨a, b, by omega, w2, w3⟩
    · rcases Nat.lt_or_ge j2 j with w | w
      · exact ⟨k, List.mem_cons_self, i, j, Nat.le_refl _, h5, w, by omega, h1⟩
      · obtain ⟨k3, w1, a, b, w2, w3, w4, w5, w6⟩ := q2 j2 w h6
        exact ⟨k3, List.mem_cons_of_mem _ w1, a, b, by omega, w3, w4, w5, w6⟩
theorem sg_mem {x : Int32 × Int32} {c : Nat} {φ : Fr} (h6 : x.1 = 6) : ∀ (ks : List Kd), x ∈ sgT c ks φ → ∃ k ∈ ks, x ∈ k.1 φ
  | [], h => by cases h
  | [a], h => by
    have h : x ∈ a.1 φ ++ [(1, cdO c)] := h
    rcases List.mem_append.mp h with w | w
    · exact ⟨a, List.mem_cons_self, w⟩
    · exact absurd (one_mem h6 w) id
  | [a, b], h => by
    have h : x ∈ (if c = 46 then b.1 φ ++ (a.1 φ ++ [(1, 13)]) else a.1 φ ++ (b.1 φ ++ [(1, cdO c)])) := h
    split at h
    · rcases List.mem_append.mp h with w | w
      · exact ⟨b, List.mem_cons_of_mem _ List.mem_cons_self, w⟩
      · rcases List.mem_append.mp w with w | w
        · exact ⟨a, List.mem_cons_self, w⟩
        · exact absurd (one_mem h6 w) id
    · rcases List.mem_append.mp h with w | w
      · exact ⟨a, List.mem_cons_self, w⟩
      · rcases List.mem_append.mp w with w | w
        · exact ⟨b, List.mem_cons_of_mem _ List.mem_cons_self, w⟩
        · exact absurd (one_mem h6 w) id
  | [a, b, d], h => by
    have h : x ∈ a.1 φ ++ ((1, 8) :: (lstT 9 b.1 φ ++ lstT 9 d.1 φ)) := h
    rcases List.mem_append.mp h with w | w
    · exact ⟨a, List.mem_cons_self, w⟩
    · rcases List.mem_cons.mp w with w | w
      · rw [w] at h6
        exact absurd h6 (by decide)
      · rcases List.mem_append.mp w with w | w
        · exact ⟨b, List.mem_cons_of_mem _ List.mem_cons_self, lst_mem w h6 trivial⟩
        · exact ⟨d, List.mem_cons_of_mem _ (List.mem_cons_of_mem _ List.mem_cons_self), lst_mem w h6 trivial⟩
  | _ :: _ :: _ :: _ :: _, h => by cases h
theorem bo_mem {x : Int32 × Int32} {a : Kd} {ls : List Nat} {φ : Fr} (h6 : x.1 = 6) (h : x ∈ boT a ls φ) : x ∈ a.1 (ls :: φ) := by
  unfold boT at h
  rcases List.mem_cons.mp h with w | w
  · rw [w] at h6
    exact absurd h6 (by decide)
  · exact lst_mem w h6 trivial
theorem F2_mem {R : Kd → Nat → Prop} {kd : Kd} : ∀ (ks : List Kd) (is : List Nat), F2 R ks is → kd ∈ ks → ∃ j, R kd j
  | [], [], _, hm => by cases hm
  | k :: ks, i :: is, ⟨a, b⟩, hm => by
    rcases List.mem_cons.mp hm with w | w
    · rw [w]
      exact ⟨i, a⟩
    · exact F2_mem ks is b w
  | [], _ :: _, h, _ => absurd h id
  | _ :: _, [], h, _ => absurd h id
section YH
variable {r : rM} {tx : Nat → Nat}
theorem cR_cov {K : Nat} : ∀ (f n e : Nat) (t : Tau) (k : Nat) (φ : Fr), cR tx r f n e t → e ≤ 100 → CHd r k n φ → k + f ≤ K → cov r K n e (t φ)
  | 0, n, e, t, k, φ, h, _, _, _ => absurd h id
  | f + 1, n, e, t, k, φ, h, he, hc, hK => by
    have hlt := cR_lt (f + 1) n e t h
    rcases h with ⟨h1, h2, h3⟩ | ⟨h1, h2, c, a, h3, h4, h5, h6, h7⟩ | ⟨h1, h2, a, a', d, D, h3, h4, h5, h6, h7⟩ | ⟨ks, l, h1, h2, h3, hT⟩
    · refine ⟨fun i q1 q2 q3 => ?_, fun x hx h6 => ?_⟩
      · obtain rfl : i = n := by omega
        rw [h1] at q3
        exact absurd q3 (by decide)
      · rw [h3] at hx
        rcases List.mem_cons.mp hx with w | w
        · rw [w] at h6
          exact absurd h6 (by decide)
        · exact absurd (one_mem h6 w) id
    · refine ⟨fun i q1 q2 q3 => ?_, fun x hx h6' => ?_⟩
      · obtain rfl : i = n := by omega
        exact ⟨⟨a, h4, h5⟩, c, k, φ, h1, h6, h3, hc, by omega⟩
      · rw [h7] at hx
        rcases List.mem_cons.mp hx with w | w
        · rw [w] at h6'
          exact absurd h6' (by decide)
        · rw [List.mem_singleton.mp w]
          have ep : pn r.at_ n = a := by
            unfold pn
            rw [h5]
            exact nI_clamp (by omega)
          exact ⟨n, c, k, φ, Nat.le_refl _, by omega, ⟨h1, h6, h3, hc, by omega⟩, by rw [ep]⟩
    · refine ⟨fun i q1 q2 q3 => ?_, fun x hx h6' => ?_⟩
      · obtain rfl : i = n := by omega
        rw [h1] at q3
        exact absurd q3 (by decide)
      · rw [h7] at hx
        rcases List.mem_cons.mp hx with w | w
        · rw [w] at h6'
          exact absurd h6' (by decide)
        · exact absurd h6' (gD_low _ _ _ _ _ _ _ h5 x w)
    · obtain ⟨A1, A2⟩ := cKL_all (fun i m t w => cR_lt (tx := tx) (r := r) f i m t w.1) ks _ _ _ h1
      have hlt2 := cKL_lt (fun i m t w => cR_lt (tx := tx) (r := r) f i m t w.1) ks _ _ _ h1
      have kid : ∀ (a b : Nat) (t2 : Tau) (φ2 : Fr), n + 1 ≤ a → b ≤ e → (cR tx r f a b t2 ∧ r.parent a = nI n) → CHd r (k + 1) a φ2 → cov r K a b (t2 φ2) := fun a b t2 φ2 q1 q2 q3 q4 => cR_cov f a b t2 (k + 1) φ2 q3.1 (by omega) q4 (by omega)
      have fr : (∀ a, n + 1 ≤ a → a < e → r.parent a = nI n → ∃ φ2, CHd r (k + 1) a φ2) → (∀ x ∈ t φ, x.1 = 6 → ∃ kd ∈ ks, ∃ a b φ2, n + 1 ≤ a ∧ b ≤ e ∧ (cR tx r f a b kd.1 ∧ r.parent a = nI n) ∧ CHd r (k + 1) a φ2 ∧ x ∈ kd.1 φ2) → ¬ r.kind n = 1 → cov r K n e (t φ) := by
        intro g1 g2 g3
        refine ⟨fun i q1 q2 q3 => ?_, fun x hx h6 => ?_⟩
        · by_cases ei : i = n
          · rw [ei] at q3
            exact absurd q3 g3
          · obtain ⟨kd, w1, a, b, w2, w3, w4, w5, w6⟩ := A2 i (by omega) q2
            obtain ⟨φ2, w7⟩ := g1 a w2 (by omega) w6.2
            exact (kid a b kd.1 φ2 w2 w5 w6 w7).1 i w3 w4 q3
        · obtain ⟨kd, w1, a, b, φ2, w2, w3, w4, w5, w6⟩ := g2 x hx h6
          obtain ⟨i, c, k2, φ3, u1, u2, u3, u4⟩ := (kid a b kd.1 φ2 w2 w3 w4 w5).2 x w6 h6
          exact ⟨i, c, k2, φ3, by omega, by omega, u3, u4⟩
      have pick : ∀ (kd : Kd) (φ2 : Fr), kd ∈ ks → (∀ a, n + 1 ≤ a → a < e → r.parent a = nI n → CHd r (k + 1) a φ2) → ∀ x ∈ kd.1 φ2, ∃ kd ∈ ks, ∃ a b φ2, n + 1 ≤ a ∧ b ≤ e ∧ (cR tx r f a b kd.1 ∧ r.parent a = nI n) ∧ CHd r (k + 1) a φ2 ∧ x ∈ kd.1 φ2 := by
        intro kd φ2 hk hch x hx
        obtain ⟨a, b, w1, w2, w3⟩ := A1 kd hk
        have := cR_lt f a b kd.1 w3.1
        exact ⟨kd, hk, a, b, φ2, w1, w2, w3, hch a w1 (by omega) w3.2, hx⟩
      have hlk : ∀ (a : Kd) (args : List Kd), ks = a :: args → (∃ e2, (cR tx r f (n + 1) e2 a.1 ∧ r.parent (n + 1) = nI n) ∧ e2 ≤ e) ∧ ∃ is, chI r.next is (r.next (n + 1)) ∧ F2 (fun k j => n + 1 < j ∧ ∃ e2, (cR tx r f j e2 k.1 ∧ r.parent j = nI n) ∧ e2 ≤ e) args is := by
        intro a args ea
        rw [ea] at h1
        exact cKL_is (fun i m t w => cR_lt (tx := tx) (r := r) f i m t w.1) args a (n + 1) l e h1 h2 (by omega)
      rcases hT with ⟨k1, c, c1, c2, c3, c4, c5⟩ | ⟨k1, a, args, c1, c2, c3⟩ | ⟨k1, a, ls, c1, c2, c3, c4, c5, c6⟩ | ⟨k1, a, args, ls, c1, c2, c3, c4, c5, c6⟩ | ⟨k1, a, args, ls, c1, c2, c3, c4, c5, c6⟩
      · have chn : ∀ a, n + 1 ≤ a → a < e → r.parent a = nI n → CHd r (k + 1) a φ := fun a _ _ hj => CH_no (by omega) hj hc (by rw [k1]; decide) (by rw [k1]; decide) (Or.inl (by rw [k1]; decide))
        refine fr (fun a w1 w2 w3 => ⟨φ, chn a w1 w2 w3⟩) (fun x hx h6 => ?_) (by rw [k1]; decide)
        rw [c5] at hx
        obtain ⟨kd, w1, w2⟩ := sg_mem h6 ks hx
        exact pick kd φ w1 chn x w2
      · have chn : ∀ a, n + 1 ≤ a → a < e → r.parent a = nI n → CHd r (k + 1) a φ := fun a _ _ hj => CH_no (by omega) hj hc (by rw [k1]; decide) (by rw [k1]; decide) (Or.inl (by rw [k1]; decide))
        refine fr (fun a w1 w2 w3 => ⟨φ, chn a w1 w2 w3⟩) (fun x hx h6 => ?_) (by rw [k1]; decide)
        rw [c3] at hx
        have hx : x ∈ rowT args φ ++ (a.1 φ ++ [(1, 4)]) := hx
        rcases List.mem_append.mp hx with w | w
        · obtain ⟨kd, w1, w2⟩ := row_mem h6 args w
          exact pick kd φ (by rw [c1]; exact List.mem_cons_of_mem _ w1) chn x w2
        · rcases List.mem_append.mp w with w | w
          · exact pick a φ (by rw [c1]; exact List.mem_cons_self) chn x w
          · exact absurd (one_mem h6 w) id
      · have chn : ∀ a, n + 1 ≤ a → a < e → r.parent a = nI n → CHd r (k + 1) a (ls :: φ) := fun a _ _ hj => CH_fr (by omega) hj hc (Or.inl ⟨k1, c3, c2, c4, c5⟩)
        refine fr (fun a w1 w2 w3 => ⟨_, chn a w1 w2 w3⟩) (fun x hx h6 => ?_) (by rw [k1]; decide)
        rw [c6] at hx
        exact pick a (ls :: φ) (by rw [c1]; exact List.mem_cons_self) chn x (bo_mem h6 hx)
      · skip
        have hlen : ls.length = args.length := by
          have := congrArg List.length c4
          rw [List.length_map, List.length_map] at this
          exact this.symm
        have hch := h1
        rw [c1] at hch
        have hch2 := cKL_ch (fun i m t w => cR_lt (tx := tx) (r := r) f i m t w.1) args a (n + 1) l e hch h2 (by omega)
        rw [c4] at hch2
        have hF : FRk r n ls := ⟨Or.inl k1, n + 1, by omega, h3, hch2, c5, by omega⟩
        obtain ⟨⟨e2, p1, p2⟩, is, q1, q2⟩ := hlk a args c1
        have cha : CHd r (k + 1) (n + 1) (ls :: φ) := CH_fr (by omega) p1.2 hc (Or.inr ⟨hF, Or.inr h3⟩)
        have cho : ∀ j, n + 1 < j → j < 100 → r.parent j = nI n → CHd r (k + 1) j φ := by
          intro j w1 w2 w3
          refine CH_no (by omega) w3 hc (by rw [k1]; decide) (by rw [k1]; decide) (Or.inr (fun q => ?_))
          have := nIj (by omega) (by omega) (h3.symm.trans q)
          omega
        have oth : ∀ x kd, kd ∈ args → x ∈ kd.1 φ → ∃ kd ∈ ks, ∃ a b φ2, n + 1 ≤ a ∧ b ≤ e ∧ (cR tx r f a b kd.1 ∧ r.parent a = nI n) ∧ CHd r (k + 1) a φ2 ∧ x ∈ kd.1 φ2 := by
          intro x kd hm hx
          obtain ⟨j, w0, e3, w1, w2⟩ := F2_mem args is q2 hm
          have := cR_lt f j e3 kd.1 w1.1
          exact ⟨kd, by rw [c1]; exact List.mem_cons_of_mem _ hm, j, e3, φ, by omega, w2, w1, cho j w0 (by omega) w1.2, hx⟩
        have own : ∀ x, x ∈ a.1 (ls :: φ) → ∃ kd ∈ ks, ∃ a b φ2, n + 1 ≤ a ∧ b ≤ e ∧ (cR tx r f a b kd.1 ∧ r.parent a = nI n) ∧ CHd r (k + 1) a φ2 ∧ x ∈ kd.1 φ2 := fun x hx => ⟨a, by rw [c1]; exact List.mem_cons_self, n + 1, e2, ls :: φ, Nat.le_refl _, p2, p1, cha, hx⟩
        refine fr (fun j w1 w2 w3 => ?_) (fun x hx h6 => ?_) (by rw [k1]; decide)
        · rcases Nat.lt_or_ge (n + 1) j with w | w
          · exact ⟨_, cho j w (by omega) w3⟩
          · obtain rfl : j = n + 1 := by omega
            exact ⟨_, cha⟩
        · rw [c6] at hx
          have hx : x ∈ rowT args φ ++ (boT a ls φ ++ [(1, 4)]) := hx
          rcases List.mem_append.mp hx with w | w
          · obtain ⟨kd, w1, w2⟩ := row_mem h6 args w
            exact oth x kd w1 w2
          · rcases List.mem_append.mp w with w | w
            · exact own x (bo_mem h6 w)
            · exact absurd (one_mem h6 w) id
      · skip
        have hlen : ls.length = args.length := by
          have := congrArg List.length c4
          rw [List.length_map, List.length_map] at this
          exact this.symm
        have hch := h1
        rw [c1] at hch
        have hch2 := cKL_ch (fun i m t w => cR_lt (tx := tx) (r := r) f i m t w.1) args a (n + 1) l e hch h2 (by omega)
        rw [c4] at hch2
        have hF : FRk r n ls := ⟨Or.inr k1, n + 1, by omega, h3, hch2, c5, by omega⟩
        obtain ⟨⟨e2, p1, p2⟩, is, q1, q2⟩ := hlk a args c1
        have cha : CHd r (k + 1) (n + 1) (ls :: φ) := CH_fr (by omega) p1.2 hc (Or.inr ⟨hF, Or.inr h3⟩)
        have cho : ∀ j, n + 1 < j → j < 100 → r.parent j = nI n → CHd r (k + 1) j (ls :: φ) := by
          intro j w1 w2 w3
          exact CH_fr (by omega) w3 hc (Or.inr ⟨hF, Or.inl k1⟩)
        have oth : ∀ x kd, kd ∈ args → x ∈ kd.1 (ls :: φ) → ∃ kd ∈ ks, ∃ a b φ2, n + 1 ≤ a ∧ b ≤ e ∧ (cR tx r f a b kd.1 ∧ r.parent a = nI n) ∧ CHd r (k + 1) a φ2 ∧ x ∈ kd.1 φ2 := by
          intro x kd hm hx
          obtain ⟨j, w0, e3, w1, w2⟩ := F2_mem args is q2 hm
          have := cR_lt f j e3 kd.1 w1.1
          exact ⟨kd, by rw [c1]; exact List.mem_cons_of_mem _ hm, j, e3, (ls :: φ), by omega, w2, w1, cho j w0 (by omega) w1.2, hx⟩
        have own : ∀ x, x ∈ a.1 (ls :: φ) → ∃ kd ∈ ks, ∃ a b φ2, n + 1 ≤ a ∧ b ≤ e ∧ (cR tx r f a b kd.1 ∧ r.parent a = nI n) ∧ CHd r (k + 1) a φ2 ∧ x ∈ kd.1 φ2 := fun x hx => ⟨a, by rw [c1]; exact List.mem_cons_self, n + 1, e2, ls :: φ, Nat.le_refl _, p2, p1, cha, hx⟩
        refine fr (fun j w1 w2 w3 => ?_) (fun x hx h6 => ?_) (by rw [k1]; decide)
        · rcases Nat.lt_or_ge (n + 1) j with w | w
          · exact ⟨_, cho j w (by omega) w3⟩
          · obtain rfl : j = n + 1 := by omega
            exact ⟨_, cha⟩
        · rw [c6] at hx
          have hx : x ∈ (1, 6) :: (rowT args (ls :: φ) ++ (boT a ls φ ++ [(1, 7)])) := hx
          rcases List.mem_cons.mp hx with hx | hx
          · rw [hx] at h6
            exact absurd h6 (by decide)
          rcases List.mem_append.mp hx with w | w
          · obtain ⟨kd, w1, w2⟩ := row_mem h6 args w
            exact oth x kd w1 w2
          · rcases List.mem_append.mp w with w | w
            · exact own x (bo_mem h6 w)
            · exact absurd (one_mem h6 w) id
end YH
