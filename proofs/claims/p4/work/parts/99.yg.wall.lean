section YG
variable {cst : Nat → Option (Nat × (Nat → Int32))} {m b0 b1 : Nat} {op : Bool} {tl : List mj_O} {Q : mj_R → Prop} {s : cS} {r0 : rM} {J : Nat → mj_L → List Value → mj_H → Prop} {tx : Nat → Nat} {len : Nat}
set_option maxRecDepth 10000
theorem gD_pos {X : Nat → Int32} {d f o a a' : Nat} {D : TL} (hx : txOK X len tx) (h : gD tx (f + 1) false o d a = .inl (D, a')) : a < len := by
  refine hx.lt (a := a) (fun e => ?_)
  have e0 : gD tx (f + 1) false o d a = if tx a = 40 then (if d + o < 9 then cns (4, 0) (gD tx f (decide (tx (a + 1) = 41)) (o + 1) d (a + 1)) else .inr a) else if cL (tx a) then cns (2, nI (tx a)) (gD tx f true o d (a + 1)) else if cD (tx (pA1 tx a)) then cns (1, pVal tx a) (gD tx f true o d (pDg tx 4 (pA1 tx a) 0).1) else .inr (pA1 tx a) := rfl
  have e1 : pA1 tx a = a := if_neg (by omega)
  rw [e0, e1, e, if_neg (by decide), if_neg (by decide), if_neg (by decide)] at h
  cases h
theorem CH_no {r : rM} {k n j : Nat} {φ : Fr} (hn : n < 100) (hp : r.parent j = nI n) (hc : CHd r k n φ) (h5 : ¬ r.kind n = 5) (h7 : ¬ r.kind n = 7) (h6 : ¬ r.kind n = 6 ∨ ¬ r.first n = nI j) : CHd r (k + 1) j φ := ⟨n, φ, hn, hp, hc, Or.inr ⟨rfl, h5, h7, h6⟩⟩
theorem CH_fr {r : rM} {k n j : Nat} {φ : Fr} {ls : List Nat} (hn : n < 100) (hp : r.parent j = nI n) (hc : CHd r k n φ) (h : FRb r n ls ∨ (FRk r n ls ∧ (r.kind n = 7 ∨ r.first n = nI j))) : CHd r (k + 1) j (ls :: φ) := ⟨n, φ, hn, hp, hc, Or.inl ⟨ls, rfl, h⟩⟩
theorem rowT_len : ∀ (ks : List Kd) (φ : Fr), 2 ≤ (rowT ks φ).length
  | [], φ => Nat.le_refl _
  | k :: ks, φ => by
    have := rowT_len ks φ
    show 2 ≤ (rowT ks φ ++ (k.1 φ ++ [(1, 13)])).length
    rw [List.length_append]
    omega
set_option maxHeartbeats 4000000 in
theorem W_part (hJ : ∀ pc ls st h, mj_sg (mj_Mt gT cst gnw (m + 4)) cst gnw (mj_hd (mj_off kO_R_writeCode) kH_R_writeCode) kC_R_writeCode J Q 400 true pc ls st h → J pc ls st h) (hx : txOK r0.text len tx) (ht : r0.typed = nI len) : ∀ (f n e : Nat) (t : Tau) (k : Nat) (φ : Fr), cR tx r0 f n e t → e ≤ 100 → CHd r0 k n φ → k + f ≤ 600 → WW b0 b1 op tl s r0 J (-1, nI n) (t φ)
  | 0, n, e, t, k, φ, h, _, _, _ => absurd h id
  | f + 1, n, e, t, k, φ, h, he, hc, hkf => by
    have hlt := cR_lt (f + 1) n e t h
    rcases h with ⟨h1, h2, h3⟩ | ⟨h1, h2, c, a, h3, h4, h5, h6, h7⟩ | ⟨h1, h2, a, a', d, D, h3, h4, h5, h6, h7⟩ | ⟨ks, l, h1, h2, h3, hT⟩
    · rw [h3]
      exact W_leaf0 hJ (by omega) h1
    · rw [h7]
      exact W_leaf1 (a := a) h4 (by omega) hJ (by omega) h1 h6 h3 hc
    · rw [h7]
      have := gD_pos hx h5
      exact W_leaf2 hJ hx ht (by omega) h1 h3 h4 (by omega) h5
    · have hlt2 := cKL_lt (fun i m t w => cR_lt (tx := tx) (r := r0) f i m t w.1) ks _ _ _ h1
      have kid : ∀ (j e2 : Nat) (t2 : Tau) (φ2 : Fr), (cR tx r0 f j e2 t2 ∧ r0.parent j = nI n) → e2 ≤ e → CHd r0 (k + 1) j φ2 → WW b0 b1 op tl s r0 J (-1, nI j) (t2 φ2) := fun j e2 t2 φ2 q1 q2 q3 => W_part hJ hx ht f j e2 t2 (k + 1) φ2 q1.1 (by omega) q3 (by omega)
      have hlk : ∀ (a : Kd) (args : List Kd), ks = a :: args → (∃ e2, (cR tx r0 f (n + 1) e2 a.1 ∧ r0.parent (n + 1) = nI n) ∧ e2 ≤ e) ∧ ∃ is, chI r0.next is (r0.next (n + 1)) ∧ F2 (fun k j => n + 1 < j ∧ ∃ e2, (cR tx r0 f j e2 k.1 ∧ r0.parent j = nI n) ∧ e2 ≤ e) args is := by
        intro a args ea
        rw [ea] at h1
        exact cKL_is (fun i m t w => cR_lt (tx := tx) (r := r0) f i m t w.1) args a (n + 1) l e h1 h2 (by omega)
      rcases hT with ⟨k1, c, c1, c2, c3, c4, c5⟩ | ⟨k1, a, args, c1, c2, c3⟩ | ⟨k1, a, ls, c1, c2, c3, c4, c5, c6⟩ | ⟨k1, a, args, ls, c1, c2, c3, c4, c5, c6⟩ | ⟨k1, a, args, ls, c1, c2, c3, c4, c5, c6⟩
      · -- a sign
        have n5 : ¬ r0.kind n = 5 := by rw [k1]; decide
        have n7 : ¬ r0.kind n = 7 := by rw [k1]; decide
        have n6 : ¬ r0.kind n = 6 := by rw [k1]; decide
        have chn : ∀ j, r0.parent j = nI n → CHd r0 (k + 1) j φ := fun j hj => CH_no (by omega) hj hc n5 n7 (Or.inl n6)
        rw [c5]
        rcases ks with _ | ⟨a, args⟩
        · rw [List.length_nil] at c4
          omega
        obtain ⟨⟨e2, p1, p2⟩, is, q1, q2⟩ := hlk a args rfl
        have wa := kid (n + 1) e2 a.1 φ p1 p2 (chn _ p1.2)
        have q3 := F2_mono (fun kd j (w : n + 1 < j ∧ ∃ e2, (cR tx r0 f j e2 kd.1 ∧ r0.parent j = nI n) ∧ e2 ≤ e) => (show WW b0 b1 op tl s r0 J (-1, nI j) (kd.1 φ) by
          obtain ⟨-, e3, w1, w2⟩ := w
          exact kid j e3 kd.1 φ w1 w2 (chn _ w1.2))) args is q2
        have hli := F2_len args is q2
        rw [List.length_cons] at c4
        have hKD := KD_sign (m := m) (b0 := b0) (b1 := b1) (cst := cst) (op := op) (tl := tl) (s := s) (r0 := r0) (n := n) (c := c) (is := is) (by omega) k1 h3 c2 c1 (by omega) q1
        have t1 : ∀ v : Int32, WL b0 b1 op tl s r0 J [(1, v)] [(1, v)] := fun v => WL_snoc WL_nil (W_tok (k := 1) (v := v) hJ (by decide) (by decide))
        have ha3 := ar_le c
        rcases args with _ | ⟨b, _ | ⟨d, _ | ⟨x, args⟩⟩⟩ <;> rcases is with _ | ⟨i, _ | ⟨j, _ | ⟨y, is⟩⟩⟩ <;> first | (exact absurd q3 id) | (exact absurd q3.2 id) | (exact absurd q3.2.2 id) | skip
        · refine W_kids hJ ?_ hKD (WL_snoc (t1 (cdO c)) wa)
          show 1 ≤ (a.1 φ ++ [(1, cdO c)]).length
          rw [List.length_append, List.length_cons]
          omega
        · by_cases e46 : c = 46
          · have e9 : sgT c [a, b] φ = b.1 φ ++ (a.1 φ ++ [(1, 13)]) := if_pos e46
            have e10 : sgK c (n + 1) [i] = [(1, 13), (-1, nI (n + 1)), (-1, nI i)] := if_pos e46
            rw [e10] at hKD
            rw [e9]
            refine W_kids hJ ?_ hKD (WL_snoc (WL_snoc (t1 13) wa) q3.1)
            rw [List.length_append]
            have := q3.1.1
            omega
          · have e9 : sgT c [a, b] φ = a.1 φ ++ (b.1 φ ++ [(1, cdO c)]) := if_neg e46
            have e10 : sgK c (n + 1) [i] = [(1, cdO c), (-1, nI i), (-1, nI (n + 1))] := if_neg e46
            rw [e10] at hKD
            rw [e9]
            refine W_kids hJ ?_ hKD (WL_snoc (WL_snoc (t1 (cdO c)) q3.1) wa)
            rw [List.length_append]
            have := wa.1
            omega
        · have w1 := WL_code (e := 9) hJ WL_nil q3.2.1
          have w2 := WL_code (e := 9) hJ w1 q3.1
          have w3 := WL_snoc (WL_snoc w2 (W_tok (k := 1) (v := 8) hJ (by decide) (by decide))) wa
          rw [List.append_nil] at w3
          refine W_kids hJ ?_ hKD w3
          show 1 ≤ (a.1 φ ++ ((1, 8) :: (lstT 9 b.1 φ ++ lstT 9 d.1 φ))).length
          rw [List.length_append]
          have := wa.1
          omega
        all_goals (rw [List.length_cons, List.length_cons, List.length_cons] at c4; omega)
      · -- a call
        have n5 : ¬ r0.kind n = 5 := by rw [k1]; decide
        have n7 : ¬ r0.kind n = 7 := by rw [k1]; decide
        have n6 : ¬ r0.kind n = 6 := by rw [k1]; decide
        have chn : ∀ j, r0.parent j = nI n → CHd r0 (k + 1) j φ := fun j hj => CH_no (by omega) hj hc n5 n7 (Or.inl n6)
        obtain ⟨⟨e2, p1, p2⟩, is, q1, q2⟩ := hlk a args c1
        have wa := kid (n + 1) e2 a.1 φ p1 p2 (chn _ p1.2)
        have q3 := F2_mono (fun kd j (w : n + 1 < j ∧ ∃ e2, (cR tx r0 f j e2 kd.1 ∧ r0.parent j = nI n) ∧ e2 ≤ e) => (show WW b0 b1 op tl s r0 J (-1, nI j) (kd.1 φ) by
          obtain ⟨-, e3, w1, w2⟩ := w
          exact kid j e3 kd.1 φ w1 w2 (chn _ w1.2))) args is q2
        rw [c3]
        refine W_kids hJ ?_ (KD_call (by omega) k1 h3 q1) (WL_row hJ args is _ _ (WL_snoc (WL_snoc WL_nil (W_tok (k := 1) (v := 4) hJ (by decide) (by decide))) wa) q3)
        show 1 ≤ (rowT args φ ++ (a.1 φ ++ [(1, 4)])).length
        rw [List.length_append]
        have := rowT_len args φ
        omega
      · -- a function
        obtain ⟨⟨e2, p1, p2⟩, is, q1, q2⟩ := hlk a [] c1
        have wa := kid (n + 1) e2 a.1 (ls :: φ) p1 p2 (CH_fr (by omega) p1.2 hc (Or.inl ⟨k1, c3, c2, c4, c5⟩))
        rw [c6]
        have w1 := WL_snoc (WL_code (e := 5) hJ WL_nil wa) (W_tok (k := 1) (v := 3) hJ (by decide) (by decide))
        rw [List.append_nil] at w1
        exact W_kids hJ (by show 1 ≤ ((1, 3) :: lstT 5 a.1 (ls :: φ)).length; rw [List.length_cons]; omega) (KD_body (by omega) k1 h3) w1
      · -- bound
        have hlen : ls.length = args.length := by
          have := congrArg List.length c4
          rw [List.length_map, List.length_map] at this
          exact this.symm
        have hch := h1
        rw [c1] at hch
        have hch2 := cKL_ch (fun i m t w => cR_lt (tx := tx) (r := r0) f i m t w.1) args a (n + 1) l e hch h2 (by omega)
        rw [c4] at hch2
        have hF : FRk r0 n ls := ⟨Or.inl k1, n + 1, by omega, h3, hch2, c5, by omega⟩
        obtain ⟨⟨e2, p1, p2⟩, is, q1, q2⟩ := hlk a args c1
        have wa := kid (n + 1) e2 a.1 (ls :: φ) p1 p2 (CH_fr (by omega) p1.2 hc (Or.inr ⟨hF, Or.inr h3⟩))
        have q3 := F2_mono (fun kd j (w : n + 1 < j ∧ ∃ e2, (cR tx r0 f j e2 kd.1 ∧ r0.parent j = nI n) ∧ e2 ≤ e) => (show WW b0 b1 op tl s r0 J (-1, nI j) (kd.1 φ) by
          obtain ⟨w0, e3, w1, w2⟩ := w
          exact kid j e3 kd.1 φ w1 w2 (CH_no (by omega) w1.2 hc (by rw [k1]; decide) (by rw [k1]; decide) (Or.inr (fun q => by have q := h3.symm.trans q; have q2 := cR_lt f j e3 kd.1 w1.1; have := nIj (by omega) (by omega) q; omega))))) args is q2
        rw [c6]
        have w1 := WL_snoc (WL_code (e := 5) hJ (WL_snoc WL_nil (W_tok (k := 1) (v := 4) hJ (by decide) (by decide))) wa) (W_tok (k := 1) (v := 3) hJ (by decide) (by decide))
        have w2 := WL_row hJ args is _ _ w1 q3
        have hKD := KD_let (m := m) (b0 := b0) (b1 := b1) (cst := cst) (op := op) (tl := tl) (s := s) (r0 := r0) (n := n) (rc := false) (is := is) (by omega) k1 h3 q1
        have e10 : (if false = true then [((1 : Int32), (6 : Int32))] else []) = [] := rfl
        rw [e10, List.append_nil] at hKD
        refine W_kids hJ ?_ hKD w2
        show 1 ≤ (rowT args φ ++ (boT a ls φ ++ [(1, 4)])).length
        rw [List.length_append]
        have := rowT_len args φ
        omega
      · -- bound, in its frame
        have hlen : ls.length = args.length := by
          have := congrArg List.length c4
          rw [List.length_map, List.length_map] at this
          exact this.symm
        have hch := h1
        rw [c1] at hch
        have hch2 := cKL_ch (fun i m t w => cR_lt (tx := tx) (r := r0) f i m t w.1) args a (n + 1) l e hch h2 (by omega)
        rw [c4] at hch2
        have hF : FRk r0 n ls := ⟨Or.inr k1, n + 1, by omega, h3, hch2, c5, by omega⟩
        obtain ⟨⟨e2, p1, p2⟩, is, q1, q2⟩ := hlk a args c1
        have wa := kid (n + 1) e2 a.1 (ls :: φ) p1 p2 (CH_fr (by omega) p1.2 hc (Or.inr ⟨hF, Or.inr h3⟩))
        have q3 := F2_mono (fun kd j (w : n + 1 < j ∧ ∃ e2, (cR tx r0 f j e2 kd.1 ∧ r0.parent j = nI n) ∧ e2 ≤ e) => (show WW b0 b1 op tl s r0 J (-1, nI j) (kd.1 (ls :: φ)) by
          obtain ⟨w0, e3, w1, w2⟩ := w
          exact kid j e3 kd.1 (ls :: φ) w1 w2 (CH_fr (by omega) w1.2 hc (Or.inr ⟨hF, Or.inl k1⟩)))) args is q2
        rw [c6]
        have w1 := WL_snoc (WL_code (e := 5) hJ (WL_snoc WL_nil (W_tok (k := 1) (v := 7) hJ (by decide) (by decide))) wa) (W_tok (k := 1) (v := 3) hJ (by decide) (by decide))
        have w2 := WL_row hJ args is _ _ w1 q3
        have hKD := KD_let (m := m) (b0 := b0) (b1 := b1) (cst := cst) (op := op) (tl := tl) (s := s) (r0 := r0) (n := n) (rc := true) (is := is) (by omega) k1 h3 q1
        have w3 := WL_snoc w2 (W_tok (k := 1) (v := 6) hJ (by decide) (by decide))
        refine W_kids hJ ?_ hKD w3
        show 1 ≤ ((1, 6) :: (rowT args (ls :: φ) ++ (boT a ls φ ++ [(1, 7)]))).length
        rw [List.length_cons]
        omega
theorem R_writeCode {r : rM} {t : Tau} {e : Nat} (hx : txOK r.text len tx) (ht : r.typed = nI len) (hc : cR tx r 10 0 e t) (he : e ≤ 100) (hp : r.parent 0 = -1) (hl : (t []).length + 1 ≤ 1200) (hQ : ∀ r', kw r r' → WSr r' (low (t []) ++ [(1, 19)]) [] → Q (.inl none, (cW s (rW r' tl), b0, b1, op))) : mj_Mt gT cst gnw (m + 5) y_R_writeCode [.ref 27] (cW s (rW r tl), b0, b1, op) Q := by
  intro J hJ
  have wp : WW b0 b1 op tl s r J (-1, nI 0) (t []) := W_part hJ hx ht 10 0 e t 0 [] hc he ⟨hp, rfl⟩ (by decide)
  have wl := WL_snoc (WL_snoc WL_nil (W_tok (b0 := b0) (b1 := b1) (op := op) (tl := tl) (s := s) (r0 := r) (k := 1) (v := 19) hJ (by decide) (by decide))) wp
  have fin : JW b0 b1 op tl s r J ([] ++ low (t [] ++ ([(1, 19)] ++ []))) [] := by
    intro r' k w
    have h0 : r'.tasks = nI 0 := w.2.1.1
    refine hJ _ _ _ _ ?_
    refine And.intro (fun _ => ?_) (fun (g : ¬ r'.tasks ≤ 0) => absurd (by rw [h0]; decide) g)
    refine hQ r' k ?_
    have e1 : [] ++ low (t [] ++ ([(1, 19)] ++ [])) = low (t []) ++ [(1, 19)] := by
      rw [List.append_nil, List.nil_append, low_app]
      rfl
    rw [e1] at w
    exact w
  have main := wl.2 [] [] 0 (by rw [List.length_append]; show 0 + ((t []).length + 1) + 0 ≤ 1200; omega) (Nat.le_refl _) fin
  have w0 : WSr (((r.s_signs 0).s_cells 0).s_tasks 0) [] [] := ⟨⟨rfl, fun i t hi => by rw [List.getElem?_nil] at hi; cases hi⟩, ⟨rfl, fun i t hi => by rw [List.getElem?_nil] at hi; cases hi⟩, rfl⟩
  refine hJ _ _ _ _ ?_
  refine R_later (r := (((r.s_signs 0).s_cells 0).s_tasks 0)) w0 (by decide) (fun r2 k2 w2 => ?_)
  refine R_later w2 (by decide) (fun r3 k3 w3 => ?_)
  have k03 : kw r r3 := kw_tr (r' := (((r.s_signs 0).s_cells 0).s_tasks 0)) rfl (kw_tr k2 k3)
  exact main r3 k03 w3
end YG
