theorem chL_u {nx bo : Nat → Int32} : ∀ (L L' : List Int32) (x : Int32), chL nx bo L x → chL nx bo L' x → L = L'
  | [], [], x, _, _ => rfl
  | [], c :: L', x, h, ⟨j, h1, h2, h3⟩ => by
    have h : x = -1 := h
    rw [h2] at h
    exact absurd h (nI_nn (by omega))
  | c :: L, [], x, ⟨j, h1, h2, h3⟩, h => by
    have h : x = -1 := h
    rw [h2] at h
    exact absurd h (nI_nn (by omega))
  | c :: L, c' :: L', x, ⟨j, h1, h2, h3, h4⟩, ⟨j', h1', h2', h3', h4'⟩ => by
    have ej : j = j' := nIj (by omega) (by omega) (h2.symm.trans h2')
    subst ej
    rw [← h3, ← h3', chL_u L L' _ h4 h4']
theorem map_nI_u : ∀ (l l' : List Nat), (∀ c ∈ l, c < 256) → (∀ c ∈ l', c < 256) → l.map nI = l'.map nI → l = l'
  | [], [], _, _, _ => rfl
  | [], _ :: _, _, _, h => by cases h
  | _ :: _, [], _, _, h => by cases h
  | a :: l, b :: l', h1, h2, h => by
    have e := List.cons.inj h
    have ha := h1 a List.mem_cons_self
    have hb := h2 b List.mem_cons_self
    rw [nIj (by omega) (by omega) e.1, map_nI_u l l' (fun c hc => h1 c (List.mem_cons_of_mem _ hc)) (fun c hc => h2 c (List.mem_cons_of_mem _ hc)) e.2]
theorem FR_u {r : rM} {v : Nat} {ls ls' : List Nat} (h : FRb r v ls ∨ FRk r v ls) (h' : FRb r v ls' ∨ FRk r v ls') : ls = ls' := by
  rcases h with ⟨a1, a2, a3, a4, a5⟩ | ⟨a1, i1, a2, a3, a4, a5, a6⟩
  · rcases h' with ⟨b1, b2, b3, b4, b5⟩ | ⟨b1, i1', b2, b3, b4, b5, b6⟩
    · have el : ls.length = ls'.length := nIj (by omega) (by omega) (a2.symm.trans b2)
      refine List.ext_getElem? (fun i => ?_)
      cases hi : ls[i]? with
      | none =>
        have := List.getElem?_eq_none_iff.mp hi
        exact (List.getElem?_eq_none (by omega)).symm
      | some c =>
        cases hi' : ls'[i]? with
        | none =>
          have := List.getElem?_eq_none_iff.mp hi'
          rw [List.getElem?_eq_none (by omega)] at hi
          cases hi
        | some c' =>
          have h1 := a5 c (List.mem_of_getElem? hi)
          have h2 := b5 c' (List.mem_of_getElem? hi')
          rw [nIj (by omega) (by omega) ((a4 i c hi).symm.trans (b4 i c' hi'))]
    · rw [a1] at b1
      rcases b1 with b1 | b1 <;> exact absurd b1 (by decide)
  · rcases h' with ⟨b1, b2, b3, b4, b5⟩ | ⟨b1, i1', b2, b3, b4, b5, b6⟩
    · rw [b1] at a1
      rcases a1 with a1 | a1 <;> exact absurd a1 (by decide)
    · have ei : i1 = i1' := nIj (by omega) (by omega) (a3.symm.trans b3)
      subst ei
      exact map_nI_u ls ls' a5 b5 (chL_u _ _ _ a4 b4)
theorem CHd_u {r : rM} : ∀ (k k' n : Nat) (φ φ' : Fr), CHd r k n φ → CHd r k' n φ' → φ = φ'
  | 0, 0, n, φ, φ', ⟨_, h⟩, ⟨_, h'⟩ => h.trans h'.symm
  | 0, k' + 1, n, φ, φ', ⟨h, _⟩, ⟨v, ψ, h1, h2, _⟩ => by
    rw [h] at h2
    exact absurd h2.symm (nI_nn (by omega))
  | k + 1, 0, n, φ, φ', ⟨v, ψ, h1, h2, _⟩, ⟨h, _⟩ => by
    rw [h] at h2
    exact absurd h2.symm (nI_nn (by omega))
  | k + 1, k' + 1, n, φ, φ', ⟨v, ψ, h1, h2, h3, h4⟩, ⟨v', ψ', h1', h2', h3', h4'⟩ => by
    have ev : v = v' := nIj (by omega) (by omega) (h2.symm.trans h2')
    subst ev
    have eψ := CHd_u k k' v ψ ψ' h3 h3'
    subst eψ
    rcases h4 with ⟨ls, rfl, hF⟩ | ⟨rfl, n5, n7, n6⟩
    · rcases h4' with ⟨ls', rfl, hF'⟩ | ⟨rfl, n5, n7, n6⟩
      · rw [FR_u (hF.imp id (fun q => q.1)) (hF'.imp id (fun q => q.1))]
      · rcases hF with q | ⟨q, w⟩
        · exact absurd q.1 n5
        · rcases w with w | w
          · exact absurd w n7
          · rcases n6 with n6 | n6
            · exact absurd (q.1.resolve_right n7) n6
            · exact absurd w n6
    · rcases h4' with ⟨ls', rfl, hF'⟩ | ⟨rfl, -⟩
      · rcases hF' with q | ⟨q, w⟩
        · exact absurd q.1 n5
        · rcases w with w | w
          · exact absurd w n7
          · rcases n6 with n6 | n6
            · exact absurd (q.1.resolve_right n7) n6
            · exact absurd w n6
      · rfl
theorem NM_u {r : rM} {K i c k c' k' : Nat} {φ φ' : Fr} (h : NM r K i c k φ) (h' : NM r K i c' k' φ') : c = c' ∧ φ = φ' := by
  obtain ⟨-, h1, h2, h3, -⟩ := h
  obtain ⟨-, h1', h2', h3', -⟩ := h'
  exact ⟨nIj (by omega) (by omega) (h1.symm.trans h1'), CHd_u k k' i φ φ' h3 h3'⟩
theorem in_lst {x : Int32 × Int32} {i : Int32} {t : Tau} {φ : Fr} (h : x ∈ t φ) : x ∈ lstT i t φ := List.mem_cons_of_mem _ (List.mem_append_left _ h)
theorem in_row {x : Int32 × Int32} {φ : Fr} {k : Kd} (hx : x ∈ k.1 φ) : ∀ (ks : List Kd), k ∈ ks → x ∈ rowT ks φ
  | [], h => by cases h
  | k2 :: ks, h => by
    show x ∈ rowT ks φ ++ (k2.1 φ ++ [(1, 13)])
    rcases List.mem_cons.mp h with w | w
    · rw [← w]
      exact List.mem_append_right _ (List.mem_append_left _ hx)
    · exact List.mem_append_left _ (in_row hx ks w)
theorem in_sg {x : Int32 × Int32} {c : Nat} {φ : Fr} {k : Kd} (hx : x ∈ k.1 φ) : ∀ (ks : List Kd), 1 ≤ ks.length → ks.length ≤ 3 → k ∈ ks → x ∈ sgT c ks φ
  | [], h, _, _ => by cases h
  | [a], _, _, h => by
    rw [List.mem_singleton.mp h] at hx
    exact List.mem_append_left _ hx
  | [a, b], _, _, h => by
    show x ∈ (if c = 46 then b.1 φ ++ (a.1 φ ++ [(1, 13)]) else a.1 φ ++ (b.1 φ ++ [(1, cdO c)]))
    rcases List.mem_cons.mp h with w | w
    · rw [w] at hx
      split
      · exact List.mem_append_right _ (List.mem_append_left _ hx)
      · exact List.mem_append_left _ hx
    · rw [List.mem_singleton.mp w] at hx
      split
      · exact List.mem_append_left _ hx
      · exact List.mem_append_right _ (List.mem_append_left _ hx)
  | [a, b, d], _, _, h => by
    show x ∈ a.1 φ ++ ((1, 8) :: (lstT 9 b.1 φ ++ lstT 9 d.1 φ))
    rcases List.mem_cons.mp h with w | w
    · rw [w] at hx
      exact List.mem_append_left _ hx
    · rcases List.mem_cons.mp w with w | w
      · rw [w] at hx
        exact List.mem_append_right _ (List.mem_cons_of_mem _ (List.mem_append_left _ (in_lst hx)))
      · rw [List.mem_singleton.mp w] at hx
        exact List.mem_append_right _ (List.mem_cons_of_mem _ (List.mem_append_right _ (in_lst hx)))
  | _ :: _ :: _ :: _ :: _, _, h, _ => by
    simp only [List.length_cons] at h
    omega
theorem in_bo {x : Int32 × Int32} {a : Kd} {ls : List Nat} {φ : Fr} (h : x ∈ a.1 (ls :: φ)) : x ∈ boT a ls φ := List.mem_cons_of_mem _ (in_lst h)
theorem cKL_rng {P : Nat → Nat → Tau → Prop} {nx bo : Nat → Int32} (hlt : ∀ i m t, P i m t → i < m) {k : Kd} {args : List Kd} {i l m j : Nat} (h : cKL P nx bo (k :: args) i l m) (h1 : i ≤ j) (h2 : j < m) : (∃ e2, j < e2 ∧ e2 ≤ m ∧ P i e2 k.1) ∨ ∃ kd ∈ args, ∃ a b, i < a ∧ a ≤ j ∧ j < b ∧ b ≤ m ∧ P a b kd.1 := by
  cases args with
  | nil =>
    obtain ⟨rfl, q, -⟩ := h
    exact Or.inl ⟨m, h2, Nat.le_refl _, q⟩
  | cons k2 ks =>
    obtain ⟨j0, q1, -, -, q4⟩ := h
    have c1 := hlt _ _ _ q1
    have c2 := cKL_lt hlt (k2 :: ks) j0 l m q4
    rcases Nat.lt_or_ge j j0 with w | w
    · exact Or.inl ⟨j0, w, by omega, q1⟩
    · obtain ⟨kd, w1, a, b, w2, w3, w4, w5, w6⟩ := (cKL_all hlt (k2 :: ks) j0 l m q4).2 j w h2
      exact Or.inr ⟨kd, w1, a, b, by omega, w3, w4, w5, w6⟩
theorem cR_cvr {r : rM} {tx : Nat → Nat} {K : Nat} : ∀ (f n e : Nat) (t : Tau) (k : Nat) (φ : Fr), cR tx r f n e t → e ≤ 100 → CHd r k n φ → k + f ≤ K → ∀ i, n ≤ i → i < e → r.kind i = 1 → ∃ c k2 φ2, NM r K i c k2 φ2 ∧ ((6 : Int32), lkF c (uP (pn r.at_ i)) φ2 0) ∈ t φ
  | 0, n, e, t, k, φ, h, _, _, _ => absurd h id
  | f + 1, n, e, t, k, φ, h, he, hc, hK => by
    intro i hi1 hi2 hi3
    have hlt := cR_lt (f + 1) n e t h
    rcases h with ⟨h1, h2, h3⟩ | ⟨h1, h2, c, a, h3, h4, h5, h6, h7⟩ | ⟨h1, h2, a, a', d, D, h3, h4, h5, h6, h7⟩ | ⟨ks, l, h1, h2, h3, hT⟩
    · obtain rfl : i = n := by omega
      rw [h1] at hi3
      exact absurd hi3 (by decide)
    · obtain rfl : i = n := by omega
      refine ⟨c, k, φ, ⟨h1, h6, h3, hc, by omega⟩, ?_⟩
      have ep : pn r.at_ i = a := by
        unfold pn
        rw [h5]
        exact nI_clamp (by omega)
      rw [h7, ep]
      exact List.mem_cons_of_mem _ List.mem_cons_self
    · obtain rfl : i = n := by omega
      rw [h1] at hi3
      exact absurd hi3 (by decide)
    · have hin : ¬ r.kind n = 1 → n + 1 ≤ i := fun q => by
        rcases Nat.lt_or_ge n i with w | w
        · exact w
        · obtain rfl : i = n := by omega
          exact absurd hi3 q
      have kid : ∀ (a b : Nat) (t2 : Tau) (φ2 : Fr), n + 1 ≤ a → a ≤ i → i < b → b ≤ e → (cR tx r f a b t2 ∧ r.parent a = nI n) → CHd r (k + 1) a φ2 → ∃ c k2 φ3, NM r K i c k2 φ3 ∧ ((6 : Int32), lkF c (uP (pn r.at_ i)) φ3 0) ∈ t2 φ2 := fun a b t2 φ2 q1 q2 q3 q4 q5 q6 => cR_cvr f a b t2 (k + 1) φ2 q5.1 (by omega) q6 (by omega) i q2 q3 hi3
      have cl := fun i m t (w : cR tx r f i m t ∧ r.parent i = nI n) => cR_lt (tx := tx) (r := r) f i m t w.1
      have hlt2 := cKL_lt cl ks _ _ _ h1
      rcases hT with ⟨k1, c, c1, c2, c3, c4, c5⟩ | ⟨k1, a, args, c1, c2, c3⟩ | ⟨k1, a, ls, c1, c2, c3, c4, c5, c6⟩ | ⟨k1, a, args, ls, c1, c2, c3, c4, c5, c6⟩ | ⟨k1, a, args, ls, c1, c2, c3, c4, c5, c6⟩
      · obtain ⟨kd, w1, a, b, w2, w3, w4, w5, w6⟩ := (cKL_all cl ks _ _ _ h1).2 i (hin (by rw [k1]; decide)) hi2
        obtain ⟨c', k2, φ3, u1, u2⟩ := kid a b kd.1 φ w2 w3 w4 w5 w6 (CH_no (by omega) w6.2 hc (by rw [k1]; decide) (by rw [k1]; decide) (Or.inl (by rw [k1]; decide)))
        refine ⟨c', k2, φ3, u1, ?_⟩
        rw [c5]
        exact in_sg u2 ks (by omega) (by have := ar_le c; omega) w1
      · obtain ⟨kd, w1, a', b, w2, w3, w4, w5, w6⟩ := (cKL_all cl ks _ _ _ h1).2 i (hin (by rw [k1]; decide)) hi2
        obtain ⟨c', k2, φ3, u1, u2⟩ := kid a' b kd.1 φ w2 w3 w4 w5 w6 (CH_no (by omega) w6.2 hc (by rw [k1]; decide) (by rw [k1]; decide) (Or.inl (by rw [k1]; decide)))
        refine ⟨c', k2, φ3, u1, ?_⟩
        rw [c3]
        show _ ∈ rowT args φ ++ (a.1 φ ++ [(1, 4)])
        rw [c1] at w1
        rcases List.mem_cons.mp w1 with w | w
        · rw [w] at u2
          exact List.mem_append_right _ (List.mem_append_left _ u2)
        · exact List.mem_append_left _ (in_row u2 args w)
      · obtain ⟨kd, w1, a', b, w2, w3, w4, w5, w6⟩ := (cKL_all cl ks _ _ _ h1).2 i (hin (by rw [k1]; decide)) hi2
        obtain ⟨c', k2, φ3, u1, u2⟩ := kid a' b kd.1 (ls :: φ) w2 w3 w4 w5 w6 (CH_fr (by omega) w6.2 hc (Or.inl ⟨k1, c3, c2, c4, c5⟩))
        refine ⟨c', k2, φ3, u1, ?_⟩
        rw [c6]
        rw [c1] at w1
        rw [List.mem_singleton.mp w1] at u2
        exact in_bo u2
      · have hlen : ls.length = args.length := by
          have := congrArg List.length c4
          rw [List.length_map, List.length_map] at this
          exact this.symm
        have hch := h1
        rw [c1] at hch
        have hch2 := cKL_ch cl args a (n + 1) l e hch h2 (by omega)
        rw [c4] at hch2
        have hF : FRk r n ls := ⟨Or.inl k1, n + 1, by omega, h3, hch2, c5, by omega⟩
        rcases cKL_rng cl hch (hin (by rw [k1]; decide)) hi2 with ⟨e2, p1, p2, p3⟩ | ⟨kd, w1, a', b, w2, w3, w4, w5, w6⟩
        · obtain ⟨c', k2, φ3, u1, u2⟩ := kid (n + 1) e2 a.1 (ls :: φ) (Nat.le_refl _) (hin (by rw [k1]; decide)) p1 p2 p3 (CH_fr (by omega) p3.2 hc (Or.inr ⟨hF, Or.inr h3⟩))
          refine ⟨c', k2, φ3, u1, ?_⟩
          rw [c6]
          exact List.mem_append_right _ (List.mem_append_left _ (in_bo u2))
        · obtain ⟨c', k2, φ3, u1, u2⟩ := kid a' b kd.1 φ (by omega) w3 w4 w5 w6 (CH_no (by omega) w6.2 hc (by rw [k1]; decide) (by rw [k1]; decide) (Or.inr (fun q => by
            have := nIj (by omega) (by omega) (h3.symm.trans q)
            omega)))
          refine ⟨c', k2, φ3, u1, ?_⟩
          rw [c6]
          exact List.mem_append_left _ (in_row u2 args w1)
      · have hlen : ls.length = args.length := by
          have := congrArg List.length c4
          rw [List.length_map, List.length_map] at this
          exact this.symm
        have hch := h1
        rw [c1] at hch
        have hch2 := cKL_ch cl args a (n + 1) l e hch h2 (by omega)
        rw [c4] at hch2
        have hF : FRk r n ls := ⟨Or.inr k1, n + 1, by omega, h3, hch2, c5, by omega⟩
        rcases cKL_rng cl hch (hin (by rw [k1]; decide)) hi2 with ⟨e2, p1, p2, p3⟩ | ⟨kd, w1, a', b, w2, w3, w4, w5, w6⟩
        · obtain ⟨c', k2, φ3, u1, u2⟩ := kid (n + 1) e2 a.1 (ls :: φ) (Nat.le_refl _) (hin (by rw [k1]; decide)) p1 p2 p3 (CH_fr (by omega) p3.2 hc (Or.inr ⟨hF, Or.inr h3⟩))
          refine ⟨c', k2, φ3, u1, ?_⟩
          rw [c6]
          exact List.mem_cons_of_mem _ (List.mem_append_right _ (List.mem_append_left _ (in_bo u2)))
        · obtain ⟨c', k2, φ3, u1, u2⟩ := kid a' b kd.1 (ls :: φ) (by omega) w3 w4 w5 w6 (CH_fr (by omega) w6.2 hc (Or.inr ⟨hF, Or.inl k1⟩))
          refine ⟨c', k2, φ3, u1, ?_⟩
          rw [c6]
          exact List.mem_cons_of_mem _ (List.mem_append_left _ (in_row u2 args w1))
section ZH2
variable {cst : Nat → Option (Nat × (Nat → Int32))} {m b0 b1 : Nat} {op : Bool} {tl : List mj_O} {Q : mj_R → Prop} {s : cS} {r : rM} {K e : Nat}
set_option maxRecDepth 10000
theorem R_firstUnk (he : e ≤ 100) (hp : r.parts = nI e) (hcov : ∀ i, i < e → r.kind i = 1 → (∃ a, a ≤ 96 ∧ r.at_ i = nI a) ∧ ∃ c k φ, NM r K i c k φ) (h1 : (∀ i c k φ, i < e → NM r K i c k φ → ¬ lkF c (-1) φ 0 < 0) → Q (.inl (some (.int (-1))), (cW s (rW r tl), b0, b1, op))) (h2 : ∀ a i c k φ, a ≤ 96 → r.at_ i = nI a → i < e → NM r K i c k φ → lkF c (-1) φ 0 < 0 → (∀ j c k φ, j < i → NM r K j c k φ → ¬ lkF c (-1) φ 0 < 0) → Q (.inl (some (.int (nI a))), (cW s (rW r tl), b0, b1, op))) : mj_Mt gT cst gnw (m + 3) y_R_firstUnknown [.ref 27] (cW s (rW r tl), b0, b1, op) Q := by
  intro J hJ
  have loop : ∀ (j n : Nat), j + n = e → (∀ i c k φ, i < n → NM r K i c k φ → ¬ lkF c (-1) φ 0 < 0) → J 2 [some (.ref 27), some (.int (nI n))] [] (cW s (rW r tl), b0, b1, op) := by
    intro j
    induction j with
    | zero =>
      intro n hn hk
      obtain rfl : n = e := by omega
      refine hJ _ _ _ _ ?_
      refine And.intro (fun _ => h1 hk) (fun (g : ¬ r.parts ≤ nI n) => absurd (by rw [hp]; exact nI_le (Nat.le_refl _) (by omega)) g)
    | succ j ih =>
      intro n hn hk
      have hin : vp_in (nI n) 100 := vp_in_nI (by omega) (by decide)
      have ekn : (nI n).toNatClampNeg = n := nI_clamp (by omega)
      have nxt : (∀ c k φ, NM r K n c k φ → ¬ lkF c (-1) φ 0 < 0) → ∀ x : Int32, x = nI (n + 1) → J 2 [some (.ref 27), some (.int x)] [] (cW s (rW r tl), b0, b1, op) := by
        rintro hk2 x rfl
        refine ih (n + 1) (by omega) (fun i c k φ hi hN => ?_)
        by_cases ei : i = n
        · subst ei
          exact hk2 c k φ hN
        · exact hk i c k φ (by omega) hN
      refine hJ _ _ _ _ ?_
      refine And.intro (fun (g : r.parts ≤ nI n) => absurd g (by rw [hp]; exact nI_ge (by omega) (by omega))) (fun _ => ?_)
      refine And.intro hin ?_
      rw [ekn]
      refine And.intro (fun (g : ¬ r.kind n = 1) => ?_) (fun (g : r.kind n = 1) => ?_)
      · exact nxt (fun c k φ hN => absurd hN.1 g) _ (nI_succ n).symm
      · obtain ⟨⟨a, ha, ea⟩, c, k, φ, hN⟩ := hcov n (by omega) g
        by_cases hbad : ∃ c k φ, NM r K n c k φ ∧ lkF c (-1) φ 0 < 0
        · obtain ⟨c, k, φ, hN, hb⟩ := hbad
          refine R_resolved (by omega) hN.2.1 hN.2.2.1 hN.2.2.2.1 ?_
          refine And.intro (fun (w : 0 ≤ lkF c (-1) φ 0) => absurd hb (Int32.not_lt.mpr w)) (fun _ => ?_)
          refine And.intro hin ?_
          rw [ekn, ea]
          exact h2 a n c k φ ha ea (by omega) hN hb hk
        · have hgood : ∀ c k φ, NM r K n c k φ → ¬ lkF c (-1) φ 0 < 0 := fun c k φ q1 q2 => hbad ⟨c, k, φ, q1, q2⟩
          refine R_resolved (by omega) hN.2.1 hN.2.2.1 hN.2.2.2.1 ?_
          refine And.intro (fun _ => ?_) (fun (w : ¬ 0 ≤ lkF c (-1) φ 0) => absurd (Int32.not_lt.mp (hgood c k φ hN)) w)
          exact nxt hgood _ (nI_succ n).symm
  refine hJ _ _ _ _ ?_
  exact loop e 0 (by omega) (fun i c k φ hi => absurd hi (Nat.not_lt_zero i))
end ZH2
theorem uP_inj {a b : Nat} (ha : a ≤ 96) (hb : b ≤ 96) (h : uP a = uP b) : a = b := by
  have := congrArg (fun y => y + 128) h
  have this : uP a + 128 = uP b + 128 := this
  rw [uP_128, uP_128] at this
  exact nIj (by omega) (by omega) this
theorem uMf_min {a : Nat} (ha : a ≤ 96) : ∀ (T : TL) (u : Int32), (u = -1 ∨ ∃ b, b ≤ 96 ∧ u = nI b ∧ a ≤ b) → (∀ x ∈ T, x.1 = 6 → x.2 < 0 → ∃ b, b ≤ 96 ∧ x.2 = uP b ∧ a ≤ b) → ((∃ x ∈ T, x.1 = 6 ∧ x.2 = uP a) ∨ u = nI a) → uMf T u = nI a
  | [], u, _, _, h3 => by
    rcases h3 with ⟨x, hx, -⟩ | h3
    · cases hx
    · exact h3
  | x :: T, u, h1, h2, h3 => by
    show uMf T (uM1 x u) = nI a
    have h2' : ∀ y ∈ T, y.1 = 6 → y.2 < 0 → ∃ b, b ≤ 96 ∧ y.2 = uP b ∧ a ≤ b := fun y hy => h2 y (List.mem_cons_of_mem _ hy)
    by_cases hx : x.1 = 6 ∧ x.2 < 0
    · obtain ⟨b, hb, eb, hab⟩ := h2 x List.mem_cons_self hx.1 hx.2
      have e1 : uM1 x u = if u = -1 ∨ nI b < u then nI b else u := by
        unfold uM1
        rw [if_pos hx, eb, uP_128]
      rw [e1]
      by_cases hc : u = -1 ∨ nI b < u
      · rw [if_pos hc]
        refine uMf_min ha T (nI b) (Or.inr ⟨b, hb, rfl, hab⟩) h2' ?_
        rcases h3 with ⟨y, hy, y1, y2⟩ | h3
        · rcases List.mem_cons.mp hy with w | w
          · rw [w, eb] at y2
            exact Or.inr (by rw [uP_inj hb ha y2])
          · exact Or.inl ⟨y, w, y1, y2⟩
        · exfalso
          rw [h3] at hc
          rcases hc with hc | hc
          · exact nI_nn (n := a) (by omega) hc
          · have := (nI_ltI (a := b) (b := a) (by omega) (by omega)).mp hc
            omega
      · rw [if_neg hc]
        refine uMf_min ha T u h1 h2' ?_
        rcases h3 with ⟨y, hy, y1, y2⟩ | h3
        · rcases List.mem_cons.mp hy with w | w
          · rw [w, eb] at y2
            have ebb := uP_inj hb ha y2
            subst ebb
            rcases h1 with h1 | ⟨b2, hb2, e2, hab2⟩
            · exact absurd (Or.inl h1) hc
            · refine Or.inr ?_
              rw [e2] at hc ⊢
              have : ¬ b < b2 := fun q => hc (Or.inr ((nI_ltI (by omega) (by omega)).mpr q))
              rw [show b2 = b by omega]
          · exact Or.inl ⟨y, w, y1, y2⟩
        · exact Or.inr h3
    · have e1 : uM1 x u = u := if_neg hx
      rw [e1]
      refine uMf_min ha T u h1 h2' ?_
      rcases h3 with ⟨y, hy, y1, y2⟩ | h3
      · rcases List.mem_cons.mp hy with w | w
        · rw [w] at y1 y2
          exact absurd ⟨y1, by rw [y2]; exact uP_neg ha⟩ hx
        · exact Or.inl ⟨y, w, y1, y2⟩
      · exact Or.inr h3
theorem kr_er {r r' : rM} (h : kr r r') : r'.error = r.error := congrArg (fun q => q.1.2.2.2.2) (show krT r' = krT r from h)
theorem kr_pg {r r' : rM} (h : kr r r') : r'.program = r.program := congrArg (fun q => q.2.2.1.2.2.1) (show krT r' = krT r from h)
section ZHP
variable {cst : Nat → Option (Nat × (Nat → Int32))} {m b0 b1 : Nat} {op : Bool} {tl : List mj_O} {Q : mj_R → Prop} {s : cS} {r : rM} {len : Nat} {tx : Nat → Nat}
set_option maxRecDepth 10000
set_option maxHeartbeats 4000000 in
theorem RR_compile (hx : txOK r.text len tx) (ht : r.typed = nI len) (hI : RMI r) (hQ : ∀ i N y r', GOut tx len r.z i N → r'.error = (if i = 1 then GPos tx len else -1) → r'.thrown = nI i → (i = 0 → y = nI N ∧ ¬ r'.program = 0) → (¬ i = 0 → r'.program = r.program) → RMI r' → r'.z = r.z → r'.typed = nI 0 → Q (.inl (some (.int y)), (cW s (rW r' tl), b0, b1, op))) : mj_Mt gT cst gnw (m + 7) y_R_compile [.ref 27] (cW s (rW r tl), b0, b1, op) Q := by
  have h96 := hx.1
  intro J hJ
  have err : ∀ (r1 : rM) (e : Int32), kr r r1 → GOut tx len r.z 1 0 → e = GPos tx len → Q (.inl (some (.int 0)), (cW s (rW (erR r1 e 1) tl), b0, b1, op)) := fun r1 e k1 hG he => hQ 1 0 0 (erR r1 e 1) hG he rfl (fun q => absurd q (by decide)) (fun _ => show r1.program = r.program from kr_pg k1) (show RMI r1 from RMI_kr k1 hI) (show r1.z = r.z from kr_z k1) rfl
  refine hJ _ _ _ _ ?_
  refine R_read hx ht (fun t e r1 g1 k1 hp he hpa hc hPO => ?_) (fun t a' r1 g1 ne ha k1 => ?_) (fun a' r1 d' g1 ha k1 => ?_)
  rotate_left
  · refine And.intro (fun _ => ?_) (fun g => absurd rfl g)
    refine And.intro (fun (g : nI a' < 0) => absurd g (nI_pos (by omega))) (fun _ => ?_)
    refine And.intro (fun _ => ?_) (fun (g : (1 : Int32) = 0) => absurd g (by decide))
    refine And.intro (fun (g : (1 : Int32) ≤ 0) => absurd g (by decide)) (fun _ => ?_)
    exact err (pdR r1 a' 0) (nI a') k1 (Or.inl ⟨rfl, fun τ h => by rw [g1] at h; cases h; exact absurd rfl ne⟩) (GPos_n g1 ne).symm
  · refine And.intro (fun _ => ?_) (fun g => absurd rfl g)
    refine And.intro (fun (g : nI a' < 0) => absurd g (nI_pos (by omega))) (fun _ => ?_)
    refine And.intro (fun _ => ?_) (fun (g : (1 : Int32) = 0) => absurd g (by decide))
    refine And.intro (fun (g : (1 : Int32) ≤ 0) => absurd g (by decide)) (fun _ => ?_)
    exact err (pdR r1 a' d') (nI a') k1 (Or.inl ⟨rfl, fun τ h => by rw [g1] at h; cases h⟩) (GPos_r g1).symm
  · have hc1 : cR tx (pdR r1 len 0) 10 0 e t := cR_same rfl hc
    have hcov := cR_cov (K := 20) 10 0 e t 0 [] hc1 (by omega) ⟨hpa, rfl⟩ (by decide)
    refine And.intro (fun (g : (1 : Int32) = 0) => absurd g (by decide)) (fun _ => ?_)
    refine R_firstUnk (r := pdR r1 len 0) (K := 20) (e := e) (by omega) hp (fun i hi hk => hcov.1 i (Nat.zero_le _) hi hk) (fun hall => ?_) (fun a i c2 k2 φ2 ha ea w1 w2 w3 hfst => ?_)
    · have hkn : knT (t []) := by
        intro x hx h6
        obtain ⟨i, c2, k2, φ2, w1, w2, w3, w4⟩ := hcov.2 x hx h6
        rw [w4]
        obtain ⟨X, hX, eX⟩ := lkF_bd (u := uP (pn (pdR r1 len 0).at_ i)) k2 i φ2 0 w3.2.2.2.1 (hall i c2 k2 φ2 w2 w3) (by have := w3.2.2.2.2; omega)
        rw [eX]
        exact nI_pos (by omega)
      refine And.intro (fun _ => ?_) (fun (g : ¬ (-1 : Int32) < 0) => absurd (by decide) g)
      refine And.intro (fun (g : ¬ (0 : Int32) = 0) => absurd rfl g) (fun _ => ?_)
      have hkt := kr_text k1
      have hx1 : txOK r1.text len tx := by rw [hkt.1]; exact hx
      have ht1 : r1.typed = nI len := by rw [hkt.2]; exact ht
      have hl : (t []).length + 1 ≤ 1200 := by
        have := (gEx_len hx 10 0 0 t len g1).2 []
        omega
      have hI1 : RMI (etR (pdR r1 len 0) (-1) 0) := show RMI r1 from RMI_kr k1 hI
      refine R_writeCode (r := etR (pdR r1 len 0) (-1) 0) (t := t) (e := e) hx1 ht1 (cR_same rfl hc1) (by omega) hpa hl (fun r3 k3 w3 => ?_)
      have hI3 : RMI r3 := RMI_kr (kw_kr k3) hI1
      have hz3 : r3.z = r.z := (kr_z (kw_kr k3)).trans (show r1.z = r.z from kr_z k1)
      obtain ⟨H9, T9, S9, E9, C9, D9, R9, hX9⟩ := RMI_RX hI3
      have hz250 := hX9.1.1.2
      have hz1 := hX9.1.1.1
      have hcl : cnt (low (t []) ++ [(1, 19)]) ≤ 1200 := by
        have := cnt_le (low (t []) ++ [(1, 19)])
        rw [len_s, low_len] at this
        omega
      have ecell := w3.2.2
      have hcnt : cnt (low (t []) ++ [(1, 19)]) = cnt (t []) + 1 := by
        rw [cnt_app, cnt_low]
        rfl
      refine And.intro (fun (g : r3.cells ≤ nI r3.z) => ?_) (fun (g : ¬ r3.cells ≤ nI r3.z) => ?_)
      rotate_left
      · have hbig : r.z < cnt (t []) + 1 := by
          rw [ecell] at g
          rcases Nat.lt_or_ge r3.z (cnt (low (t []) ++ [(1, 19)])) with w | w
          · omega
          · exact absurd (nI_le w (by omega)) g
        refine And.intro (fun (g : (2 : Int32) ≤ 0) => absurd g (by decide)) (fun _ => ?_)
        exact hQ 2 0 0 (tyR r3 2) (Or.inr ⟨t, g1, hkn, Or.inl ⟨rfl, by omega⟩⟩) (show r3.error = -1 from kr_er (kw_kr k3)) rfl (fun q => absurd q (by decide)) (fun _ => show r3.program = r.program from (kr_pg (kw_kr k3)).trans (show r1.program = r.program from kr_pg k1)) hI3 hz3 rfl
      · rw [ecell] at g
        have hcz : cnt (low (t []) ++ [(1, 19)]) ≤ r3.z := (nI_leI (by omega) (by omega)).mp g
        refine And.intro (fun _ => ?_) (fun (g : ¬ (0 : Int32) ≤ 0) => absurd (by decide) g)
        have fin : ∀ (u g : Nat → Int32) (F : Nat), (∀ i, i < 250 → u i = 0) → (∀ i, i < 4 → g i = -1) → mj_sg (mj_Mt gT cst gnw (m + 6)) cst gnw (mj_hd (mj_off kO_R_compile) kH_R_compile) kC_R_compile J Q (F + 60) false 67 [some (.ref 27), some (.int 1), some (.int (nI 4))] [] (cW s (rW (clU (tyR r3 0) u g) tl), b0, b1, op) := by
          intro u g F hu hg
          have hU : Ur (clU (tyR r3 0) u g) = fun _ => False := by
            funext a
            refine propext ⟨fun w => ?_, fun w => absurd w id⟩
            have w1 : a < r3.z := w.1
            exact w.2 (hu a (by omega))
          have hLI : LI (clU (tyR r3 0) u g) (ppR (clU (tyR r3 0) u g) 0) r3.z [] (H9, T9, fun _ => False, vNil, []) (-1) := by
            refine ⟨⟨⟨⟨rfl, rfl, rfl, rfl, rfl⟩, rfl, rfl, rfl, rfl, rfl⟩, rfl, rfl, rfl, rfl, rfl⟩, ⟨⟨hX9.1.1, fun a ha => ?_, hX9.1.2.2⟩, hU, Or.inl ⟨rfl, rfl⟩⟩, ⟨rfl, fun i P hi => ?_⟩, ?_⟩
            · have : Ur (clU (tyR r3 0) u g) a := ha
              rw [hU] at this
              exact absurd this id
            · have hi : ([] : List Vl)[i]? = some P := hi
              rw [List.getElem?_nil] at hi
              cases hi
            · show czN u r3.z 0 0 + 0 = r3.z
              rw [czN_0 u hu r3.z 0 0 (by omega)]
              omega
          have hkd : ∀ x ∈ low (t []) ++ [(1, 19)], (x.1 = 0 ∧ x.2 = 0) ∨ x.1 = 1 ∨ x.1 = 2 ∨ x.1 = 4 ∨ x.1 = 5 := by
            intro x hx
            rcases List.mem_append.mp hx with w | w
            · exact kd_low (cR_kd 10 0 e t hc1 []) x w
            · rw [List.mem_singleton.mp w]
              exact Or.inr (Or.inl rfl)
          have elow : low (t [] ++ [(1, 19)]) = low (t []) ++ [(1, 19)] := by rw [low_app]; rfl
          have hht : htT (low (t []) ++ [(1, 19)]) = some 0 := by
            rw [← elow, ht_low]
            exact cR_ht 10 0 e t hc1 [] [(1, 19)] 0 (HT_1 [] 0 rfl)
          refine R_lay (z := r3.z) (init := (H9, T9, fun _ => False, vNil, [])) (σ := low (t []) ++ [(1, 19)]) ⟨w3.1, w3.2.1, w3.2.2⟩ (by rw [len_s, low_len]; omega) hkd hht hz250 hcz hLI rfl (fun r6 st x hL6 hY => ?_)
          have i54 : vp_in 4 5 := vp_in_nI (show 4 < 5 by decide) (by decide)
          refine And.intro i54 ?_
          obtain ⟨⟨p1, p2, p3, -, -, p6⟩, ⟨q1, q2, q3⟩, -, -⟩ := hL6
          have p6 : r6.cells = r3.cells := p6
          have pth : r6.thrown = 0 := congrArg Prod.snd p1.1.2.2.2.2
          have ginit : GDl (H9, T9, fun _ => False, vNil, []) := ⟨fun a ha => absurd ha id, ⟨nil_inU, Or.inl rfl⟩, fun P hP => by cases hP⟩
          rw [← elow] at hY
          have hkl : ∀ x ∈ t [] ++ [((1 : Int32), (19 : Int32))], x.1 = 6 → ¬ x.2 < 0 := by
            intro x hx
            rcases List.mem_append.mp hx with w | w
            · exact hkn x w
            · rw [List.mem_singleton.mp w]
              exact fun q => absurd q (by decide)
          obtain ⟨c, y1, y2⟩ := LY_app _ _ _ _ (LY_low _ _ _ hkl hY)
          obtain ⟨gc, -⟩ := LY_gd _ _ _ ginit y1
          obtain ⟨gst, -⟩ := LY_gd _ _ _ gc y2
          have hok : okTt (t []) := by
            intro x hx h6
            obtain ⟨i, c2, k2, φ2, w1, w2, w3, w4⟩ := hcov.2 x hx h6
            rw [w4]
            exact lkF_bd k2 i φ2 0 w3.2.2.2.1 (hall i c2 k2 φ2 w2 w3) (by have := w3.2.2.2.2; omega)
          have hwt := ((cR_ty 10 0 e t hc1 [] hok) c st gc y2).2 [] 0 eStop (o_19 ginit (LY_one y1)).1
          have hz6 : r6.z = r.z := p1.1.1.trans hz3
          have hm6 : mkOK r6 := kp_mk p1 (show mkOK (clU (tyR r3 0) u g) from hI3.1.1)
          have hs6 : shOK r6 := kp_sh p1 (show shOK (clU (tyR r3 0) u g) from hI3.1.2)
          have h9 : Q (.inl (some (.int r6.cells)), (cW s (rW (fiR r6 (upd r6.reg 4 x)) tl), b0, b1, op)) := by
            refine hQ 0 (cnt (t []) + 1) r6.cells (fiR r6 (upd r6.reg 4 x)) (Or.inr ⟨t, g1, hkn, Or.inr ⟨rfl, by omega, rfl⟩⟩) (show r6.error = -1 from p1.1.2.2.2.1.trans (show r3.error = -1 from kr_er (kw_kr k3))) pth (fun _ => ⟨by rw [p6, ecell, hcnt], by show ¬ (1 : Int32) = 0; decide⟩) (fun q => absurd rfl q) ⟨⟨hm6, hs6⟩, Or.inr ⟨by show ¬ (1 : Int32) = 0; decide, st.2.2.2.1, Or.inl ⟨rfl, st.1, st.2.1, ro0, ⟨q1, ?_, ?_, ?_, ?_, q3⟩, ?_⟩⟩⟩ hz6 ?_
            · exact Or.inl ⟨rfl, by show r6.reg 0 = -1; rw [p3]; exact hg 0 (by decide)⟩
            · exact Or.inl ⟨rfl, by show r6.reg 1 = -1; rw [p3]; exact hg 1 (by decide)⟩
            · exact Or.inl ⟨rfl, by show r6.reg 2 = -1; rw [p3]; exact hg 2 (by decide)⟩
            · exact Or.inl ⟨rfl, by show r6.reg 3 = -1; rw [p3]; exact hg 3 (by decide)⟩
            · have eU : Ur (fiR r6 (upd r6.reg 4 x)) = st.2.2.1 := q2
              rw [eU]
              exact ⟨gst.1, gst.2.1.1, hwt⟩
            · show r6.typed = nI 0
              exact p1.1.2.1
          exact And.intro (Or.inr rfl) h9
        have loop2 : ∀ (j k : Nat) (u g : Nat → Int32), j + k = 4 → (∀ i, i < 250 → u i = 0) → (∀ i, i < k → g i = -1) → J 57 [some (.ref 27), some (.int 1), some (.int (nI k))] [] (cW s (rW (clU (tyR r3 0) u g) tl), b0, b1, op) := by
          intro j
          induction j with
          | zero =>
            intro k u g hk hu hg
            obtain rfl : k = 4 := by omega
            refine hJ _ _ _ _ ?_
            refine And.intro (fun _ => fin u g _ hu hg) (fun (w : ¬ (4 : Int32) ≤ nI 4) => absurd (by decide) w)
          | succ j ih =>
            intro k u g hk hu hg
            refine hJ _ _ _ _ ?_
            refine And.intro (fun (w : (4 : Int32) ≤ nI k) => absurd w (nI_ge (b := 4) (by omega) (by decide))) (fun _ => ?_)
            refine And.intro (vp_in_nI (show k < 5 by omega) (by decide)) ?_
            have key : ∀ (i : Nat) (y : Int32), i = k → y = nI (k + 1) → J 57 [some (.ref 27), some (.int 1), some (.int y)] [] (cW s (rW (clU (tyR r3 0) u (upd g i (-1))) tl), b0, b1, op) := by
              rintro i y rfl rfl
              refine ih (i + 1) u _ (by omega) hu (fun a ha => ?_)
              unfold upd
              split
              · rfl
              · exact hg a (by omega)
            exact key _ _ (nI_clamp (by omega)) (nI_succ k).symm
        have loop1 : ∀ (j k : Nat) (u : Nat → Int32), j + k = 250 → (∀ i, i < k → u i = 0) → J 45 [some (.ref 27), some (.int 1), some (.int (nI k))] [] (cW s (rW (clU (tyR r3 0) u r3.reg) tl), b0, b1, op) := by
          intro j
          induction j with
          | zero =>
            intro k u hk hu
            obtain rfl : k = 250 := by omega
            refine hJ _ _ _ _ ?_
            refine And.intro (fun _ => loop2 4 0 u r3.reg (by omega) hu (fun i hi => absurd hi (Nat.not_lt_zero i))) (fun (w : ¬ (250 : Int32) ≤ nI 250) => absurd (by decide) w)
          | succ j ih =>
            intro k u hk hu
            refine hJ _ _ _ _ ?_
            refine And.intro (fun (w : (250 : Int32) ≤ nI k) => absurd w (nI_ge (b := 250) (by omega) (by decide))) (fun _ => ?_)
            refine And.intro (vp_in_nI (show k < 250 by omega) (by decide)) ?_
            have key : ∀ (i : Nat) (y v : Int32), i = k → y = nI (k + 1) → v = 0 → J 45 [some (.ref 27), some (.int 1), some (.int y)] [] (cW s (rW (clU (tyR r3 0) (upd u i v) r3.reg) tl), b0, b1, op) := by
              rintro i y v rfl rfl rfl
              refine ih (i + 1) _ (by omega) (fun a ha => ?_)
              unfold upd
              split
              · rfl
              · exact hu a (by omega)
            exact key _ _ _ (nI_clamp (by omega)) (nI_succ k).symm (by decide)
        exact loop1 250 0 r3.used (by omega) (fun i hi => absurd hi (Nat.not_lt_zero i))
    · have hPO1 : PO (pdR r1 len 0).kind (pdR r1 len 0).at_ 0 e 0 len := hPO
      have epa : pn (pdR r1 len 0).at_ i = a := by
        unfold pn
        rw [ea]
        exact nI_clamp (by omega)
      obtain ⟨c3, k3, φ3, w4, w5⟩ := cR_cvr (K := 20) 10 0 e t 0 [] hc1 (by omega) ⟨hpa, rfl⟩ (by decide) i (Nat.zero_le _) w1 w2.1
      obtain ⟨rfl, rfl⟩ := NM_u w2 w4
      have unk : ∀ (i' c' k' : Nat) (φ' : Fr), NM (pdR r1 len 0) 20 i' c' k' φ' → ∀ u, (lkF c' (-1) φ' 0 = -1 ∧ lkF c' u φ' 0 = u) ∨ ∃ X, X < 10000 ∧ lkF c' (-1) φ' 0 = nI X ∧ lkF c' u φ' 0 = nI X := fun i' c' k' φ' q u => lkF_ud k' i' φ' 0 q.2.2.2.1 (by have := q.2.2.2.2; omega)
      have hin : ((6 : Int32), uP a) ∈ t [] := by
        rcases unk i c2 k2 φ2 w2 (uP (pn (pdR r1 len 0).at_ i)) with ⟨q1, q2⟩ | ⟨X, hX, q1, q2⟩
        · rw [q2, epa] at w5
          exact w5
        · rw [q1] at w3
          exact absurd w3 (nI_pos (by omega))
      have hbad : ¬ knT (t []) := fun q => q _ hin rfl (uP_neg ha)
      have hpos : nI a = GPos tx len := by
        rw [GPos_u g1]
        refine (uMf_min ha (t []) (-1) (Or.inl rfl) (fun x hx h6 hneg => ?_) (Or.inl ⟨_, hin, rfl, rfl⟩)).symm
        obtain ⟨i', c', k', φ', v1, v2, v3, v4⟩ := hcov.2 x hx h6
        obtain ⟨⟨b, hb, eb⟩, -⟩ := hcov.1 i' v1 v2 v3.1
        have epb : pn (pdR r1 len 0).at_ i' = b := by
          unfold pn
          rw [eb]
          exact nI_clamp (by omega)
        rcases unk i' c' k' φ' v3 (uP (pn (pdR r1 len 0).at_ i')) with ⟨q1, q2⟩ | ⟨X, hX, q1, q2⟩
        · refine ⟨b, hb, by rw [v4, q2, epb], ?_⟩
          have hge : i ≤ i' := Nat.le_of_not_lt (fun q => hfst i' c' k' φ' q v3 (by rw [q1]; decide))
          rcases Nat.lt_or_ge i i' with q | q
          · have := hPO1.2.2 i i' (Nat.zero_le _) q v2 w2.1 v3.1
            omega
          · obtain rfl : i' = i := by omega
            omega
        · rw [v4, q2] at hneg
          exact absurd hneg (nI_pos (by omega))
      refine And.intro (fun (g : nI a < 0) => absurd g (nI_pos (by omega))) (fun _ => ?_)
      refine And.intro (fun _ => ?_) (fun (g : (1 : Int32) = 0) => absurd g (by decide))
      refine And.intro (fun (g : (1 : Int32) ≤ 0) => absurd g (by decide)) (fun _ => ?_)
      exact err (pdR r1 len 0) (nI a) k1 (Or.inl ⟨rfl, fun τ h => by rw [g1] at h; cases h; exact hbad⟩) hpos
end ZHP
