section
def F2 (R : Kd → Nat → Prop) : List Kd → List Nat → Prop
  | [], [] => True
  | k :: ks, i :: is => R k i ∧ F2 R ks is
  | _, _ => False
theorem F2_mono {R R' : Kd → Nat → Prop} (h : ∀ k i, R k i → R' k i) : ∀ (ks : List Kd) (is : List Nat), F2 R ks is → F2 R' ks is
  | [], [], _ => trivial
  | k :: ks, i :: is, ⟨a, b⟩ => ⟨h k i a, F2_mono h ks is b⟩
  | [], _ :: _, h => absurd h id
  | _ :: _, [], h => absurd h id
theorem F2_len {R : Kd → Nat → Prop} : ∀ (ks : List Kd) (is : List Nat), F2 R ks is → is.length = ks.length
  | [], [], _ => rfl
  | k :: ks, i :: is, ⟨a, b⟩ => by rw [List.length_cons, List.length_cons, F2_len ks is b]
  | [], _ :: _, h => absurd h id
  | _ :: _, [], h => absurd h id
theorem cKL_is {P : Nat → Nat → Tau → Prop} {nx bo : Nat → Int32} (hlt : ∀ i m t, P i m t → i < m) : ∀ (ks : List Kd) (k : Kd) (i l m : Nat), cKL P nx bo (k :: ks) i l m → nx l = -1 → m ≤ 100 → (∃ e, P i e k.1 ∧ e ≤ m) ∧ ∃ is, chI nx is (nx i) ∧ F2 (fun k j => i < j ∧ ∃ e, P j e k.1 ∧ e ≤ m) ks is
  | [], k, i, l, m, h, hl, hm => by
    obtain ⟨rfl, h2, -⟩ := h
    exact ⟨⟨m, h2, Nat.le_refl _⟩, [], hl, trivial⟩
  | k2 :: ks, k, i, l, m, h, hl, hm => by
    obtain ⟨j, h1, h2, h3, h4⟩ := h
    have c1 := hlt _ _ _ h1
    have c2 := cKL_lt hlt (k2 :: ks) j l m h4
    obtain ⟨⟨e, e1, e2⟩, is, f1, f2⟩ := cKL_is hlt ks k2 j l m h4 hl hm
    exact ⟨⟨j, h1, by omega⟩, j :: is, ⟨by omega, h3, f1⟩, ⟨c1, e, e1, e2⟩, F2_mono (fun k i2 q => ⟨by omega, q.2⟩) ks is f2⟩
theorem chL_kw {nx bo nx' bo' : Nat → Int32} (h1 : nx' = nx) (h2 : bo' = bo) {L : List Int32} {x : Int32} (h : chL nx bo L x) : chL nx' bo' L x := by
  rw [h1, h2]
  exact h
theorem FRb_kw {r r' : rM} (h : kw r r') {v : Nat} {ls : List Nat} (hF : FRb r v ls) : FRb r' v ls := by
  obtain ⟨⟨e1, e2, e3, e4, e5, e6⟩, ⟨e7, e8, e9, e10⟩, -⟩ := kw_e h
  unfold FRb at hF ⊢
  rw [e2, e5, e9]
  exact hF
theorem FRk_kw {r r' : rM} (h : kw r r') {v : Nat} {ls : List Nat} (hF : FRk r v ls) : FRk r' v ls := by
  obtain ⟨⟨e1, e2, e3, e4, e5, e6⟩, ⟨e7, e8, e9, e10⟩, -⟩ := kw_e h
  unfold FRk at hF ⊢
  rw [e2, e7, e8, e10]
  exact hF
theorem CHd_kw {r r' : rM} (h : kw r r') : ∀ (k n : Nat) (φ : Fr), CHd r k n φ → CHd r' k n φ
  | 0, n, φ, ⟨h1, h2⟩ => ⟨by rw [(kw_e h).1.2.2.2.2.2]; exact h1, h2⟩
  | k + 1, n, φ, ⟨v, φ', hv, h1, h2, h3⟩ => by
    obtain ⟨⟨e1, e2, e3, e4, e5, e6⟩, ⟨e7, e8, e9, e10⟩, -⟩ := kw_e h
    refine ⟨v, φ', hv, by rw [e6]; exact h1, CHd_kw h k v φ' h2, ?_⟩
    rw [e2, e7]
    rcases h3 with ⟨ls, g1, g2⟩ | g
    · refine Or.inl ⟨ls, g1, ?_⟩
      rcases g2 with g2 | ⟨g2, g3⟩
      · exact Or.inl (FRb_kw h g2)
      · exact Or.inr ⟨FRk_kw h g2, g3⟩
    · exact Or.inr g
section YE
variable {cst : Nat → Option (Nat × (Nat → Int32))} {m b0 b1 : Nat} {op : Bool} {tl : List mj_O} {Q : mj_R → Prop} {s : cS} {r0 : rM} {J : Nat → mj_L → List Value → mj_H → Prop} {tx : Nat → Nat} {len : Nat}
set_option maxRecDepth 10000
theorem WL_row (hJ : ∀ pc ls st h, mj_sg (mj_Mt gT cst gnw (m + 4)) cst gnw (mj_hd (mj_off kO_R_writeCode) kH_R_writeCode) kC_R_writeCode J Q 400 true pc ls st h → J pc ls st h) {φ : Fr} : ∀ (ks : List Kd) (is : List Nat) (K0 T0 : TL), WL b0 b1 op tl s r0 J K0 T0 → F2 (fun k i => WW b0 b1 op tl s r0 J (-1, nI i) (k.1 φ)) ks is → WL b0 b1 op tl s r0 J (K0 ++ rowK is) (rowT ks φ ++ T0)
  | [], [], K0, T0, h, _ => by
    have h1 := WL_snoc (WL_snoc h (W_tok (k := 0) (v := 0) hJ (by decide) (by decide))) (W_tok (k := 1) (v := 1) hJ (by decide) (by decide))
    rw [List.append_assoc] at h1
    exact h1
  | k :: ks, i :: is, K0, T0, h, ⟨a, b⟩ => by
    have h1 := WL_snoc (WL_snoc h (W_tok (k := 1) (v := 13) hJ (by decide) (by decide))) a
    have h2 := WL_row hJ ks is _ _ h1 b
    have e1 : K0 ++ [(1, 13)] ++ [(-1, nI i)] ++ rowK is = K0 ++ rowK (i :: is) := by
      rw [List.append_assoc, List.append_assoc]
      rfl
    have e2 : rowT ks φ ++ (k.1 φ ++ ([(1, 13)] ++ T0)) = rowT (k :: ks) φ ++ T0 := by
      show _ = rowT ks φ ++ (k.1 φ ++ [(1, 13)]) ++ T0
      rw [List.append_assoc, List.append_assoc]
    rw [e1, e2] at h2
    exact h2
  | [], _ :: _, _, _, _, h => absurd h id
  | _ :: _, [], _, _, _, h => absurd h id
theorem WL_code (hJ : ∀ pc ls st h, mj_sg (mj_Mt gT cst gnw (m + 4)) cst gnw (mj_hd (mj_off kO_R_writeCode) kH_R_writeCode) kC_R_writeCode J Q 400 true pc ls st h → J pc ls st h) {K0 T0 T : TL} {i : Nat} {e : Int32} (h : WL b0 b1 op tl s r0 J K0 T0) (ha : WW b0 b1 op tl s r0 J (-1, nI i) T) : WL b0 b1 op tl s r0 J (K0 ++ [(5, 0), (1, e), (-1, nI i), (4, 0)]) ((4, 0) :: (T ++ [(1, e), (5, 0)]) ++ T0) := by
  have h1 := WL_snoc (WL_snoc (WL_snoc (WL_snoc h (W_tok (k := 5) (v := 0) hJ (by decide) (by decide))) (W_tok (k := 1) (v := e) hJ (by decide) (by decide))) ha) (W_tok (k := 4) (v := 0) hJ (by decide) (by decide))
  rw [app4] at h1
  have e2 : [((4 : Int32), (0 : Int32))] ++ (T ++ ([((1 : Int32), e)] ++ ([((5 : Int32), (0 : Int32))] ++ T0))) = (4, 0) :: (T ++ [(1, e), (5, 0)]) ++ T0 := by
    show (4, 0) :: (T ++ ((1, e) :: (5, 0) :: T0)) = (4, 0) :: (T ++ [(1, e), (5, 0)] ++ T0)
    rw [List.append_assoc]
    rfl
  rw [e2] at h1
  exact h1
def KD (m b0 b1 : Nat) (cst : Nat → Option (Nat × (Nat → Int32))) (op : Bool) (tl : List mj_O) (s : cS) (r0 : rM) (n : Nat) (K : TL) : Prop := ∀ (r' : rM) (σ τ : TL) (Q' : mj_R → Prop), kw r0 r' → WSr r' σ τ → τ.length + K.length ≤ 1200 → (∀ r2, kw r0 r2 → WSr r2 σ (τ ++ K) → Q' (.inl none, (cW s (rW r2 tl), b0, b1, op))) → mj_Mt gT cst gnw (m + 4) y_R_writePart [.ref 27, .int (nI n)] (cW s (rW r' tl), b0, b1, op) Q'
theorem W_kids {n : Nat} {K T : TL} (hJ : ∀ pc ls st h, mj_sg (mj_Mt gT cst gnw (m + 4)) cst gnw (mj_hd (mj_off kO_R_writeCode) kH_R_writeCode) kC_R_writeCode J Q 400 true pc ls st h → J pc ls st h) (hT : 1 ≤ T.length) (hK : KD m b0 b1 cst op tl s r0 n K) (hL : WL b0 b1 op tl s r0 J K T) : WW b0 b1 op tl s r0 J (-1, nI n) T := by
  refine W_call hJ hT (fun σ τ w hl hw hj r' Q' k1 w1 hQ' => ?_)
  have := hL.1
  exact hK r' σ τ Q' k1 w1 (by omega) (fun r2 k2 w2 => hQ' r2 σ (τ ++ K) k2 w2 (hL.2 σ τ w hl hw hj))
theorem len_s (T : TL) (x : Int32 × Int32) : (T ++ [x]).length = T.length + 1 := by rw [List.length_append]; rfl
theorem KD_call {n : Nat} {is : List Nat} (hn : n + 1 < 100) (hk : r0.kind n = 4) (hf : r0.first n = nI (n + 1)) (hc : chI r0.next is (r0.next (n + 1))) : KD m b0 b1 cst op tl s r0 n ([(1, 4), (-1, nI (n + 1))] ++ rowK is) := by
  intro r' σ τ Q' k1 w1 hl hQ'
  obtain ⟨⟨-, e2, -, -, e5, -⟩, ⟨e7, e8, -, -⟩, -⟩ := kw_e k1
  have hin : vp_in (nI n) 100 := vp_in_nI (by omega) (by decide)
  have ekn : (nI n).toNatClampNeg = n := nI_clamp (by omega)
  have hlr : ∀ is : List Nat, (rowK is).length = 2 * is.length + 2 := by
    intro is
    induction is with
    | nil => rfl
    | cons i is ih =>
      show (rowK is).length + 1 + 1 = _
      rw [ih, List.length_cons]
      omega
  rw [List.length_append, hlr] at hl
  have hl : τ.length + (2 + (2 * is.length + 2)) ≤ 1200 := hl
  intro J hJ
  refine hJ _ _ _ _ ?_
  refine And.intro hin ?_
  rw [ekn, e7, hf]
  refine And.intro hin ?_
  rw [ekn, e2, hk]
  refine And.intro (fun (g : (4 : Int32) = 0) => absurd g (by decide)) (fun _ => And.intro (fun (g : (4 : Int32) = 1) => absurd g (by decide)) (fun _ => And.intro (fun (g : (4 : Int32) = 2) => absurd g (by decide)) (fun _ => And.intro (fun (g : (4 : Int32) = 3) => absurd g (by decide)) (fun _ => And.intro (fun _ => ?_) (fun g => absurd rfl g)))))
  refine R_later w1 (by omega) (fun r2 k2 w2 => ?_)
  refine R_later w2 (by rw [len_s]; omega) (fun r3 k3 w3 => ?_)
  have k13 := kw_tr k1 (kw_tr k2 k3)
  have en : r3.next = r0.next := (kw_e k13).2.1.2.1
  refine And.intro (vp_in_nI (show n + 1 < 100 by omega) (by decide)) ?_
  rw [nI_clamp (by omega), en]
  refine R_laterRow (is := is) (by rw [en]; exact hc) w3 (by rw [len_s, len_s]; omega) (fun r4 k4 w4 => ?_)
  rw [List.append_assoc, List.append_assoc] at w4
  exact hQ' r4 (kw_tr k13 k4) w4
theorem KD_body {n : Nat} (hn : n + 1 < 100) (hk : r0.kind n = 5) (hf : r0.first n = nI (n + 1)) : KD m b0 b1 cst op tl s r0 n ([(5, 0), (1, 5), (-1, nI (n + 1)), (4, 0)] ++ [(1, 3)]) := by
  intro r' σ τ Q' k1 w1 hl hQ'
  obtain ⟨⟨-, e2, -, -, e5, -⟩, ⟨e7, e8, -, -⟩, -⟩ := kw_e k1
  have hin : vp_in (nI n) 100 := vp_in_nI (by omega) (by decide)
  have ekn : (nI n).toNatClampNeg = n := nI_clamp (by omega)
  have hl : τ.length + 5 ≤ 1200 := hl
  intro J hJ
  refine hJ _ _ _ _ ?_
  refine And.intro hin ?_
  rw [ekn, e7, hf]
  refine And.intro hin ?_
  rw [ekn, e2, hk]
  refine And.intro (fun (g : (5 : Int32) = 0) => absurd g (by decide)) (fun _ => And.intro (fun (g : (5 : Int32) = 1) => absurd g (by decide)) (fun _ => And.intro (fun (g : (5 : Int32) = 2) => absurd g (by decide)) (fun _ => And.intro (fun (g : (5 : Int32) = 3) => absurd g (by decide)) (fun _ => And.intro (fun (g : (5 : Int32) = 4) => absurd g (by decide)) (fun _ => And.intro (fun _ => ?_) (fun g => absurd rfl g))))))
  refine R_laterCode w1 (by omega) (fun r2 k2 w2 => ?_)
  refine R_later w2 (by rw [List.length_append]; show τ.length + 4 < 1200; omega) (fun r3 k3 w3 => ?_)
  rw [List.append_assoc] at w3
  exact hQ' r3 (kw_tr k1 (kw_tr k2 k3)) w3
theorem KD_let {n : Nat} {rc : Bool} {is : List Nat} (hn : n + 1 < 100) (hk : r0.kind n = if rc = true then 7 else 6) (hf : r0.first n = nI (n + 1)) (hc : chI r0.next is (r0.next (n + 1))) : KD m b0 b1 cst op tl s r0 n ([(1, if rc = true then 7 else 4)] ++ [(5, 0), (1, 5), (-1, nI (n + 1)), (4, 0)] ++ [(1, 3)] ++ rowK is ++ (if rc = true then [(1, 6)] else [])) := by
  intro r' σ τ Q' k1 w1 hl hQ'
  obtain ⟨⟨-, e2, -, -, e5, -⟩, ⟨e7, e8, -, -⟩, -⟩ := kw_e k1
  have hin : vp_in (nI n) 100 := vp_in_nI (by omega) (by decide)
  have ekn : (nI n).toNatClampNeg = n := nI_clamp (by omega)
  have hlr : ∀ is : List Nat, (rowK is).length = 2 * is.length + 2 := by
    intro is
    induction is with
    | nil => rfl
    | cons i is ih =>
      show (rowK is).length + 1 + 1 = _
      rw [ih, List.length_cons]
      omega
  rw [List.length_append, List.length_append, hlr] at hl
  have hl : τ.length + (6 + (2 * is.length + 2) + (if rc = true then [((1 : Int32), (6 : Int32))] else []).length) ≤ 1200 := hl
  intro J hJ
  have go : ∀ F : Nat, mj_sg (mj_Mt gT cst gnw (m + 3)) cst gnw (mj_hd (mj_off kO_R_writePart) kH_R_writePart) kC_R_writePart J Q' (F + 200) false 65 [some (.ref 27), some (.int (nI n)), some (.int (nI (n + 1)))] [] (cW s (rW r' tl), b0, b1, op) := by
    intro F
    refine And.intro hin ?_
    rw [ekn, e2, hk]
    have rest : ∀ (r2 : rM), kw r0 r2 → WSr r2 σ (τ ++ [(1, if rc = true then 7 else 4)]) → ∀ F : Nat, mj_sg (mj_Mt gT cst gnw (m + 3)) cst gnw (mj_hd (mj_off kO_R_writePart) kH_R_writePart) kC_R_writePart J Q' (F + 100) false 77 [some (.ref 27), some (.int (nI n)), some (.int (nI (n + 1)))] [] (cW s (rW r2 tl), b0, b1, op) := by
      intro r2 k2 w2 F
      refine R_laterCode w2 (by rw [len_s]; omega) (fun r3 k3 w3 => ?_)
      refine R_later w3 (by rw [List.length_append, len_s]; show τ.length + 1 + 4 < 1200; omega) (fun r4 k4 w4 => ?_)
      have k24 := kw_tr k2 (kw_tr k3 k4)
      have en : r4.next = r0.next := (kw_e k24).2.1.2.1
      refine And.intro (vp_in_nI (show n + 1 < 100 by omega) (by decide)) ?_
      rw [nI_clamp (by omega), en]
      refine R_laterRow (is := is) (by rw [en]; exact hc) w4 (by rw [len_s, List.length_append, len_s]; show τ.length + 1 + 4 + 1 + 2 * is.length + 1 < 1200; omega) (fun r5 k5 w5 => ?_)
      have k25 := kw_tr k24 k5
      have ekd : r5.kind = r0.kind := (kw_e k25).1.2.1
      have e9 : τ ++ [(1, if rc = true then 7 else 4)] ++ [(5, 0), (1, 5), (-1, nI (n + 1)), (4, 0)] ++ [(1, 3)] ++ rowK is = τ ++ ([(1, if rc = true then 7 else 4)] ++ [(5, 0), (1, 5), (-1, nI (n + 1)), (4, 0)] ++ [(1, 3)] ++ rowK is) := by
        simp only [List.append_assoc]
      replace w5 : WSr r5 σ (τ ++ [(1, if rc = true then 7 else 4)] ++ [(5, 0), (1, 5), (-1, nI (n + 1)), (4, 0)] ++ [(1, 3)] ++ rowK is) := w5
      rw [e9] at w5
      refine And.intro hin ?_
      rw [ekn, ekd, hk]
      cases rc with
      | false =>
        refine And.intro (fun _ => ?_) (fun (g : (6 : Int32) = 7) => absurd g (by decide))
        refine hQ' r5 k25 ?_
        have e10 : (if false = true then [((1 : Int32), (6 : Int32))] else []) = [] := rfl
        rw [e10, List.append_nil]
        exact w5
      | true =>
        refine And.intro (fun (g : ¬ (7 : Int32) = 7) => absurd rfl g) (fun _ => ?_)
        have hl : τ.length + (6 + (2 * is.length + 2) + 1) ≤ 1200 := hl
        refine R_later w5 (by rw [List.length_append, List.length_append, hlr]; show τ.length + (6 + (2 * is.length + 2)) < 1200; omega) (fun r6 k6 w6 => ?_)
        refine hQ' r6 (kw_tr k25 k6) ?_
        have e10 : (if true = true then [((1 : Int32), (6 : Int32))] else []) = [(1, 6)] := rfl
        rw [e10]
        rw [List.append_assoc] at w6
        exact w6
    cases rc with
    | false =>
      refine And.intro (fun (g : ¬ (6 : Int32) = 6) => absurd rfl g) (fun _ => ?_)
      refine R_later w1 (by omega) (fun r2 k2 w2 => ?_)
      exact rest r2 (kw_tr k1 k2) w2 _
    | true =>
      refine And.intro (fun _ => ?_) (fun (g : (7 : Int32) = 6) => absurd g (by decide))
      refine R_later w1 (by omega) (fun r2 k2 w2 => ?_)
      exact rest r2 (kw_tr k1 k2) w2 _
  refine hJ _ _ _ _ ?_
  refine And.intro hin ?_
  rw [ekn, e7, hf]
  refine And.intro hin ?_
  rw [ekn, e2, hk]
  cases rc with
  | false =>
    refine And.intro (fun (g : (6 : Int32) = 0) => absurd g (by decide)) (fun _ => And.intro (fun (g : (6 : Int32) = 1) => absurd g (by decide)) (fun _ => And.intro (fun (g : (6 : Int32) = 2) => absurd g (by decide)) (fun _ => And.intro (fun (g : (6 : Int32) = 3) => absurd g (by decide)) (fun _ => And.intro (fun (g : (6 : Int32) = 4) => absurd g (by decide)) (fun _ => And.intro (fun (g : (6 : Int32) = 5) => absurd g (by decide)) (fun _ => And.intro (fun _ => ?_) (fun g => absurd rfl g)))))))
    exact go _
  | true =>
    refine And.intro (fun (g : (7 : Int32) = 0) => absurd g (by decide)) (fun _ => And.intro (fun (g : (7 : Int32) = 1) => absurd g (by decide)) (fun _ => And.intro (fun (g : (7 : Int32) = 2) => absurd g (by decide)) (fun _ => And.intro (fun (g : (7 : Int32) = 3) => absurd g (by decide)) (fun _ => And.intro (fun (g : (7 : Int32) = 4) => absurd g (by decide)) (fun _ => And.intro (fun (g : (7 : Int32) = 5) => absurd g (by decide)) (fun _ => And.intro (fun (g : (7 : Int32) = 6) => absurd g (by decide)) (fun _ => And.intro (fun _ => ?_) (fun g => absurd rfl g))))))))
    exact go _
end YE
end
