section
def F2 (R : Kd → Nat → Prop) : List Kd → List Nat → Prop
  | [], [] => True
  | k :: ks, i :: is => R k i ∧ F2 R ks is
  | _, _ => False
theorem F2_mono {R R' : Kd → Nat → Prop} (h : ∀ k i, R k i → R' k i) : ∀ (ks : List Kd) (is : List Nat), F2 R ks is → F2 R' ks is
  | [], [], _ => trivial
  | k :: ks, i :: is, ⟨a, b⟩ => ⟨h k i a, F2_mono h ks is b⟩
  | [], _ :: _, h => absurd h id
  | _ :: _, [], h => absurd h id
theorem F2_len {R : Kd → Nat → Prop} : ∀ (ks : List Kd) (is : List Nat), F2 R ks is → is.length = ks.length
  | [], [], _ => rfl
  | k :: ks, i :: is, ⟨a, b⟩ => by rw [List.length_cons, List.length_cons, F2_len ks is b]
  | [], _ :: _, h => absurd h id
  | _ :: _, [], h => absurd h id
theorem cKL_is {P : Nat → Nat → Tau → Prop} {nx bo : Nat → Int32} (hlt : ∀ i m t, P i m t → i < m) : ∀ (ks : List Kd) (k : Kd) (i l m : Nat), cKL P nx bo (k :: ks) i l m → nx l = -1 → m ≤ 100 → (∃ e, P i e k.1 ∧ e ≤ m) ∧ ∃ is, chI nx is (nx i) ∧ F2 (fun k j => i < j ∧ ∃ e, P j e k.1 ∧ e ≤ m) ks is
  | [], k, i, l, m, h, hl, hm => by
    obtain ⟨rfl, h2, -⟩ := h
    exact ⟨⟨m, h2, Nat.le_refl _⟩, [], hl, trivial⟩
  | k2 :: ks, k, i, l, m, h, hl, hm => by
    obtain ⟨j, h1, h2, h3, h4⟩ := h
    have c1 := hlt _ _ _ h1
    have c2 := cKL_lt hlt (k2 :: ks) j l m h4
    obtain ⟨⟨e, e1, e2⟩, is, f1, f2⟩ := cKL_is hlt ks k2 j l m h4 hl hm
    exact ⟨⟨j, h1, by omega⟩, j :: is, ⟨by omega, h3, f1⟩, ⟨c1, e, e1, e2⟩, F2_mono (fun k i2 q => ⟨by omega, q.2⟩) ks is f2⟩
theorem FRb_kw {r r' : rM} (h : kw r r') {v : Nat} {ls : List Nat} (hF : FRb r v ls) : FRb r' v ls := by
  obtain ⟨⟨e1, e2, e3, e4, e5, e6⟩, ⟨e7, e8, e9, e10⟩, -⟩ := kw_e h
  unfold FRb at hF ⊢
  rw [e2, e5, e9]
  exact hF
theorem FRk_kw {r r' : rM} (h : kw r r') {v : Nat} {ls : List Nat} (hF : FRk r v ls) : FRk r' v ls := by
  obtain ⟨⟨e1, e2, e3, e4, e5, e6⟩, ⟨e7, e8, e9, e10⟩, -⟩ := kw_e h
  unfold FRk at hF ⊢
  rw [e2, e7, e8, e10]
  exact hF
theorem CHd_kw {r r' : rM} (h : kw r r') : ∀ (k n : Nat) (φ : Fr), CHd r k n φ → CHd r' k n φ
  | 0, n, φ, ⟨h1, h2⟩ => ⟨by rw [(kw_e h).1.2.2.2.2.2]; exact h1, h2⟩
  | k + 1, n, φ, ⟨v, φ', hv, h1, h2, h3⟩ => by
    obtain ⟨⟨e1, e2, e3, e4, e5, e6⟩, ⟨e7, e8, e9, e10⟩, -⟩ := kw_e h
    refine ⟨v, φ', hv, by rw [e6]; exact h1, CHd_kw h k v φ' h2, ?_⟩
    rw [e2, e7]
    rcases h3 with ⟨ls, g1, g2⟩ | g
    · refine Or.inl ⟨ls, g1, ?_⟩
      rcases g2 with g2 | ⟨g2, g3⟩
      · exact Or.inl (FRb_kw h g2)
      · exact Or.inr ⟨FRk_kw h g2, g3⟩
    · exact Or.inr g
section YE
variable {cst : Nat → Option (Nat × (Nat → Int32))} {m b0 b1 : Nat} {op : Bool} {tl : List mj_O} {Q : mj_R → Prop} {s : cS} {r0 : rM} {J : Nat → mj_L → List Value → mj_H → Prop} {tx : Nat → Nat} {len : Nat}
set_option maxRecDepth 10000
theorem WL_row (hJ : ∀ pc ls st h, mj_sg (mj_Mt gT cst gnw (m + 4)) cst gnw (mj_hd (mj_off kO_R_writeCode) kH_R_writeCode) kC_R_writeCode J Q 400 true pc ls st h → J pc ls st h) {φ : Fr} : ∀ (ks : List Kd) (is : List Nat) (K0 T0 : TL), WL b0 b1 op tl s r0 J K0 T0 → F2 (fun k i => WW b0 b1 op tl s r0 J (-1, nI i) (k.1 φ)) ks is → WL b0 b1 op tl s r0 J (K0 ++ rowK is) (rowT ks φ ++ T0)
  | [], [], K0, T0, h, _ => by
    have h1 := WL_snoc (WL_snoc h (W_tok (k := 0) (v := 0) hJ (by decide) (by decide))) (W_tok (k := 1) (v := 1) hJ (by decide) (by decide))
    rw [List.append_assoc] at h1
    exact h1
  | k :: ks, i :: is, K0, T0, h, ⟨a, b⟩ => by
    have h1 := WL_snoc (WL_snoc h (W_tok (k := 1) (v := 13) hJ (by decide) (by decide))) a
    have h2 := WL_row hJ ks is _ _ h1 b
    have e1 : K0 ++ [(1, 13)] ++ [(-1, nI i)] ++ rowK is = K0 ++ rowK (i :: is) := by
      rw [List.append_assoc, List.append_assoc]
      rfl
    have e2 : rowT ks φ ++ (k.1 φ ++ ([(1, 13)] ++ T0)) = rowT (k :: ks) φ ++ T0 := by
      show _ = rowT ks φ ++ (k.1 φ ++ [(1, 13)]) ++ T0
      rw [List.append_assoc, List.append_assoc]
    rw [e1, e2] at h2
    exact h2
  | [], _ :: _, _, _, _, h => absurd h id
  | _ :: _, [], _, _, _, h => absurd h id
theorem WL_code (hJ : ∀ pc ls st h, mj_sg (mj_Mt gT cst gnw (m + 4)) cst gnw (mj_hd (mj_off kO_R_writeCode) kH_R_writeCode) kC_R_writeCode J Q 400 true pc ls st h → J pc ls st h) {K0 T0 T : TL} {i : Nat} {e : Int32} (h : WL b0 b1 op tl s r0 J K0 T0) (ha : WW b0 b1 op tl s r0 J (-1, nI i) T) : WL b0 b1 op tl s r0 J (K0 ++ [(5, 0), (1, e), (-1, nI i), (4, 0)]) ((4, 0) :: (T ++ [(1, e), (5, 0)]) ++ T0) := by
  have h1 := WL_snoc (WL_snoc (WL_snoc (WL_snoc h (W_tok (k := 5) (v := 0) hJ (by decide) (by decide))) (W_tok (k := 1) (v := e) hJ (by decide) (by decide))) ha) (W_tok (k := 4) (v := 0) hJ (by decide) (by decide))
  rw [app4] at h1
  have e2 : [((4 : Int32), (0 : Int32))] ++ (T ++ ([((1 : Int32), e)] ++ ([((5 : Int32), (0 : Int32))] ++ T0))) = (4, 0) :: (T ++ [(1, e), (5, 0)]) ++ T0 := by
    show (4, 0) :: (T ++ ((1, e) :: (5, 0) :: T0)) = (4, 0) :: (T ++ [(1, e), (5, 0)] ++ T0)
    rw [List.append_assoc]
    rfl
  rw [e2] at h1
  exact h1
def KD (m b0 b1 : Nat) (cst : Nat → Option (Nat × (Nat → Int32))) (op : Bool) (tl : List mj_O) (s : cS) (r0 : rM) (n : Nat) (K : TL) : Prop := ∀ (r' : rM) (σ τ : TL) (Q' : mj_R → Prop), kw r0 r' → WSr r' σ τ → τ.length + K.length ≤ 1200 → (∀ r2, kw r0 r2 → WSr r2 σ (τ ++ K) → Q' (.inl none, (cW s (rW r2 tl), b0, b1, op))) → mj_Mt gT cst gnw (m + 4) y_R_writePart [.ref 27, .int (nI n)] (cW s (rW r' tl), b0, b1, op) Q'
theorem W_kids {n : Nat} {K T : TL} (hJ : ∀ pc ls st h, mj_sg (mj_Mt gT cst gnw (m + 4)) cst gnw (mj_hd (mj_off kO_R_writeCode) kH_R_writeCode) kC_R_writeCode J Q 400 true pc ls st h → J pc ls st h) (hT : 1 ≤ T.length) (hK : KD m b0 b1 cst op tl s r0 n K) (hL : WL b0 b1 op tl s r0 J K T) : WW b0 b1 op tl s r0 J (-1, nI n) T := by
  refine W_call hJ hT (fun σ τ w hl hw hj r' Q' k1 w1 hQ' => ?_)
  have := hL.1
  exact hK r' σ τ Q' k1 w1 (by omega) (fun r2 k2 w2 => hQ' r2 σ (τ ++ K) k2 w2 (hL.2 σ τ w hl hw hj))
theorem len_s (T : TL) (x : Int32 × Int32) : (T ++ [x]).length = T.length + 1 := by rw [List.length_append]; rfl
theorem KD_call {n : Nat} {is : List Nat} (hn : n + 1 < 100) (hk : r0.kind n = 4) (hf : r0.first n = nI (n + 1)) (hc : chI r0.next is (r0.next (n + 1))) : KD m b0 b1 cst op tl s r0 n ([(1, 4), (-1, nI (n + 1))] ++ rowK is) := by
  intro r' σ τ Q' k1 w1 hl hQ'
  obtain ⟨⟨-, e2, -, -, e5, -⟩, ⟨e7, e8, -, -⟩, -⟩ := kw_e k1
  have hin : vp_in (nI n) 100 := vp_in_nI (by omega) (by decide)
  have ekn : (nI n).toNatClampNeg = n := nI_clamp (by omega)
  have hlr : ∀ is : List Nat, (rowK is).length = 2 * is.length + 2 := by
    intro is
    induction is with
    | nil => rfl
    | cons i is ih =>
      show (rowK is).length + 1 + 1 = _
      rw [ih, List.length_cons]
      omega
  rw [List.length_append, hlr] at hl
  have hl : τ.length + (2 + (2 * is.length + 2)) ≤ 1200 := hl
  intro J hJ
  refine hJ _ _ _ _ ?_
  refine And.intro hin ?_
  rw [ekn, e7, hf]
  refine And.intro hin ?_
  rw [ekn, e2, hk]
  refine And.intro (fun (g : (4 : Int32) = 0) => absurd g (by decide)) (fun _ => And.intro (fun (g : (4 : Int32) = 1) => absurd g (by decide)) (fun _ => And.intro (fun (g : (4 : Int32) = 2) => absurd g (by decide)) (fun _ => And.intro (fun (g : (4 : Int32) = 3) => absurd g (by decide)) (fun _ => And.intro (fun _ => ?_) (fun g => absurd rfl g)))))
  refine R_later w1 (by omega) (fun r2 k2 w2 => ?_)
  refine R_later w2 (by rw [len_s]; omega) (fun r3 k3 w3 => ?_)
  have k13 := kw_tr k1 (kw_tr k2 k3)
  have en : r3.next = r0.next := (kw_e k13).2.1.2.1
  refine And.intro (vp_in_nI (show n + 1 < 100 by omega) (by decide)) ?_
  rw [nI_clamp (by omega), en]
  refine R_laterRow (is := is) (by rw [en]; exact hc) w3 (by rw [len_s, len_s]; omega) (fun r4 k4 w4 => ?_)
  rw [List.append_assoc, List.append_assoc] at w4
  exact hQ' r4 (kw_tr k13 k4) w4
theorem KD_body {n : Nat} (hn : n + 1 < 100) (hk : r0.kind n = 5) (hf : r0.first n = nI (n + 1)) : KD m b0 b1 cst op tl s r0 n ([(5, 0), (1, 5), (-1, nI (n + 1)), (4, 0)] ++ [(1, 3)]) := by
  intro r' σ τ Q' k1 w1 hl hQ'
  obtain ⟨⟨-, e2, -, -, e5, -⟩, ⟨e7, e8, -, -⟩, -⟩ := kw_e k1
  have hin : vp_in (nI n) 100 := vp_in_nI (by omega) (by decide)
  have ekn : (nI n).toNatClampNeg = n := nI_clamp (by omega)
  have hl : τ.length + 5 ≤ 1200 := hl
  intro J hJ
  refine hJ _ _ _ _ ?_
  refine And.intro hin ?_
  rw [ekn, e7, hf]
  refine And.intro hin ?_
  rw [ekn, e2, hk]
  refine And.intro (fun (g : (5 : Int32) = 0) => absurd g (by decide)) (fun _ => And.intro (fun (g : (5 : Int32) = 1) => absurd g (by decide)) (fun _ => And.intro (fun (g : (5 : Int32) = 2) => absurd g (by decide)) (fun _ => And.intro (fun (g : (5 : Int32) = 3) => absurd g (by decide)) (fun _ => And.intro (fun (g : (5 : Int32) = 4) => absurd g (by decide)) (fun _ => And.intro (fun _ => ?_) (fun g => absurd rfl g))))))
  refine R_laterCode w1 (by omega) (fun r2 k2 w2 => ?_)
  refine R_later w2 (by rw [List.length_append]; show τ.length + 4 < 1200; omega) (fun r3 k3 w3 => ?_)
  rw [List.append_assoc] at w3
  exact hQ' r3 (kw_tr k1 (kw_tr k2 k3)) w3
theorem KD_let {n : Nat} {rc : Bool} {is : List Nat} (hn : n + 1 < 100) (hk : r0.kind n = if rc = true then 7 else 6) (hf : r0.first n = nI (n + 1)) (hc : chI r0.next is (r0.next (n + 1))) : KD m b0 b1 cst op tl s r0 n ([(1, if rc = true then 7 else 4)] ++ [(5, 0), (1, 5), (-1, nI (n + 1)), (4, 0)] ++ [(1, 3)] ++ rowK is ++ (if rc = true then [(1, 6)] else [])) := by
  intro r' σ τ Q' k1 w1 hl hQ'
  obtain ⟨⟨-, e2, -, -, e5, -⟩, ⟨e7, e8, -, -⟩, -⟩ := kw_e k1
  have hin : vp_in (nI n) 100 := vp_in_nI (by omega) (by decide)
  have ekn : (nI n).toNatClampNeg = n := nI_clamp (by omega)
  have hlr : ∀ is : List Nat, (rowK is).length = 2 * is.length + 2 := by
    intro is
    induction is with
    | nil => rfl
    | cons i is ih =>
      show (rowK is).length + 1 + 1 = _
      rw [ih, List.length_cons]
      omega
  rw [List.length_append, List.length_append, hlr] at hl
  have hl : τ.length + (6 + (2 * is.length + 2) + (if rc = true then [((1 : Int32), (6 : Int32))] else []).length) ≤ 1200 := hl
  intro J hJ
  have go : ∀ F : Nat, mj_sg (mj_Mt gT cst gnw (m + 3)) cst gnw (mj_hd (mj_off kO_R_writePart) kH_R_writePart) kC_R_writePart J Q' (F + 200) false 65 [some (.ref 27), some (.int (nI n)), some (.int (nI (n + 1)))] [] (cW s (rW r' tl), b0, b1, op) := by
    intro F
    refine And.intro hin ?_
    rw [ekn, e2, hk]
    have rest : ∀ (r2 : rM), kw r0 r2 → WSr r2 σ (τ ++ [(1, if rc = true then 7 else 4)]) → ∀ F : Nat, mj_sg (mj_Mt gT cst gnw (m + 3)) cst gnw (mj_hd (mj_off kO_R_writePart) kH_R_writePart) kC_R_writePart J Q' (F + 100) false 77 [some (.ref 27), some (.int (nI n)), some (.int (nI (n + 1)))] [] (cW s (rW r2 tl), b0, b1, op) := by
      intro r2 k2 w2 F
      refine R_laterCode w2 (by rw [len_s]; omega) (fun r3 k3 w3 => ?_)
      refine R_later w3 (by rw [List.length_append, len_s]; show τ.length + 1 + 4 < 1200; omega) (fun r4 k4 w4 => ?_)
      have k24 := kw_tr k2 (kw_tr k3 k4)
      have en : r4.next = r0.next := (kw_e k24).2.1.2.1
      refine And.intro (vp_in_nI (show n + 1 < 100 by omega) (by decide)) ?_
      rw [nI_clamp (by omega), en]
      refine R_laterRow (is := is) (by rw [en]; exact hc) w4 (by rw [len_s, List.length_append, len_s]; show τ.length + 1 + 4 + 1 + 2 * is.length + 1 < 1200; omega) (fun r5 k5 w5 => ?_)
      have k25 := kw_tr k24 k5
      have ekd : r5.kind = r0.kind := (kw_e k25).1.2.1
      have e9 : τ ++ [(1, if rc = true then 7 else 4)] ++ [(5, 0), (1, 5), (-1, nI (n + 1)), (4, 0)] ++ [(1, 3)] ++ rowK is = τ ++ ([(1, if rc = true then 7 else 4)] ++ [(5, 0), (1, 5), (-1, nI (n + 1)), (4, 0)] ++ [(1, 3)] ++ rowK is) := by
        simp only [List.append_assoc]
      replace w5 : WSr r5 σ (τ ++ [(1, if rc = true then 7 else 4)] ++ [(5, 0), (1, 5), (-1, nI (n + 1)), (4, 0)] ++ [(1, 3)] ++ rowK is) := w5
      rw [e9] at w5
      refine And.intro hin ?_
      rw [ekn, ekd, hk]
      cases rc with
      | false =>
        refine And.intro (fun _ => ?_) (fun (g : (6 : Int32) = 7) => absurd g (by decide))
        refine hQ' r5 k25 ?_
        have e10 : (if false = true then [((1 : Int32), (6 : Int32))] else []) = [] := rfl
        rw [e10, List.append_nil]
        exact w5
      | true =>
        refine And.intro (fun (g : ¬ (7 : Int32) = 7) => absurd rfl g) (fun _ => ?_)
        have hl : τ.length + (6 + (2 * is.length + 2) + 1) ≤ 1200 := hl
        refine R_later w5 (by rw [List.length_append, List.length_append, hlr]; show τ.length + (6 + (2 * is.length + 2)) < 1200; omega) (fun r6 k6 w6 => ?_)
        refine hQ' r6 (kw_tr k25 k6) ?_
        have e10 : (if true = true then [((1 : Int32), (6 : Int32))] else []) = [(1, 6)] := rfl
        rw [e10]
        rw [List.append_assoc] at w6
        exact w6
    cases rc with
    | false =>
      refine And.intro (fun (g : ¬ (6 : Int32) = 6) => absurd rfl g) (fun _ => ?_)
      refine R_later w1 (by omega) (fun r2 k2 w2 => ?_)
      exact rest r2 (kw_tr k1 k2) w2 _
    | true =>
      refine And.intro (fun _ => ?_) (fun (g : (7 : Int32) = 6) => absurd g (by decide))
      refine R_later w1 (by omega) (fun r2 k2 w2 => ?_)
      exact rest r2 (kw_tr k1 k2) w2 _
  refine hJ _ _ _ _ ?_
  refine And.intro hin ?_
  rw [ekn, e7, hf]
  refine And.intro hin ?_
  rw [ekn, e2, hk]
  cases rc with
  | false =>
    refine And.intro (fun (g : (6 : Int32) = 0) => absurd g (by decide)) (fun _ => And.intro (fun (g : (6 : Int32) = 1) => absurd g (by decide)) (fun _ => And.intro (fun (g : (6 : Int32) = 2) => absurd g (by decide)) (fun _ => And.intro (fun (g : (6 : Int32) = 3) => absurd g (by decide)) (fun _ => And.intro (fun (g : (6 : Int32) = 4) => absurd g (by decide)) (fun _ => And.intro (fun (g : (6 : Int32) = 5) => absurd g (by decide)) (fun _ => And.intro (fun _ => ?_) (fun g => absurd rfl g)))))))
    exact go _
  | true =>
    refine And.intro (fun (g : (7 : Int32) = 0) => absurd g (by decide)) (fun _ => And.intro (fun (g : (7 : Int32) = 1) => absurd g (by decide)) (fun _ => And.intro (fun (g : (7 : Int32) = 2) => absurd g (by decide)) (fun _ => And.intro (fun (g : (7 : Int32) = 3) => absurd g (by decide)) (fun _ => And.intro (fun (g : (7 : Int32) = 4) => absurd g (by decide)) (fun _ => And.intro (fun (g : (7 : Int32) = 5) => absurd g (by decide)) (fun _ => And.intro (fun (g : (7 : Int32) = 6) => absurd g (by decide)) (fun _ => And.intro (fun _ => ?_) (fun g => absurd rfl g))))))))
    exact go _
end YE
end
section
section YF
variable {cst : Nat → Option (Nat × (Nat → Int32))} {m b0 b1 : Nat} {op : Bool} {tl : List mj_O} {Q : mj_R → Prop} {s : cS} {r0 : rM} {J : Nat → mj_L → List Value → mj_H → Prop} {tx : Nat → Nat} {len : Nat}
set_option maxRecDepth 10000
def sgK (c a : Nat) : List Nat → TL
  | [] => [(1, cdO c), (-1, nI a)]
  | [b] => if c = 46 then [(1, 13), (-1, nI a), (-1, nI b)] else [(1, cdO c), (-1, nI b), (-1, nI a)]
  | [b, d] => [(5, 0), (1, 9), (-1, nI d), (4, 0)] ++ [(5, 0), (1, 9), (-1, nI b), (4, 0)] ++ [(1, 8)] ++ [(-1, nI a)]
  | _ => []
theorem ar3 {c : Nat} (h : ar c = 3) : c = 63 := by
  unfold ar at h
  split at h
  · omega
  · split at h
    · omega
    · split at h
      · assumption
      · omega
theorem ar63 {c : Nat} (h : ¬ ar c = 3) : ¬ c = 63 := fun e => h (by rw [e]; rfl)
theorem ar46 {c : Nat} (h : ar c = 1) : ¬ c = 46 := fun e => by rw [e] at h; exact absurd h (by decide)
theorem R_writeSign {n c a : Nat} {is : List Nat} {r : rM} {σ τ : TL} (hn : n < 100) (ha : a < 100) (hv : r.value n = nI c) (hc : c < 256) (hl : is.length + 1 = ar c) (hch : chI r.next is (r.next a)) (hW : WSr r σ τ) (hlen : τ.length + 12 ≤ 1200 ∨ τ.length + (sgK c a is).length ≤ 1200) (hQ : ∀ r', kw r r' → WSr r' σ (τ ++ sgK c a is) → Q (.inl none, (cW s (rW r' tl), b0, b1, op))) : mj_Mt gT cst gnw (m + 3) y_R_writeSign [.ref 27, .int (nI n), .int (nI a)] (cW s (rW r tl), b0, b1, op) Q := by
  have hin : vp_in (nI n) 100 := vp_in_nI hn (by decide)
  have ekn : (nI n).toNatClampNeg = n := nI_clamp (by omega)
  have hia : vp_in (nI a) 100 := vp_in_nI ha (by decide)
  have eka : (nI a).toNatClampNeg = a := nI_clamp (by omega)
  have ha3 := ar_le c
  intro J hJ
  refine hJ _ _ _ _ ?_
  refine And.intro hia ?_
  rw [eka]
  refine And.intro hin ?_
  rw [ekn, hv]
  rcases is with _ | ⟨b, _ | ⟨d, _ | ⟨e, is⟩⟩⟩
  · -- one
    have hl : ar c = 1 := hl.symm
    have n63 := ar63 (c := c) (by omega)
    have n46 := ar46 hl
    have hx : r.next a = -1 := hch
    rw [hx]
    refine And.intro (fun _ => ?_) (fun (g : nI c = 63) => absurd (nIj (j := 63) (by omega) (by decide) g) n63)
    refine And.intro hin ?_
    rw [ekn, hv]
    refine R_codeOf (by omega) ?_
    have hlen : τ.length + 2 ≤ 1200 := by
      rcases hlen with w | w
      · omega
      · exact w
    refine R_later hW (by omega) (fun r2 k2 w2 => ?_)
    have e5 : r2.value = r.value := (kw_e k2).1.2.2.2.2.1
    refine And.intro hin ?_
    rw [ekn, e5, hv]
    refine And.intro (fun _ => ?_) (fun (g : nI c = 46) => absurd (nIj (j := 46) (by omega) (by decide) g) n46)
    refine And.intro (fun _ => ?_) (fun (g : ¬ (-1 : Int32) < 0) => absurd (by decide) g)
    refine R_later w2 (by rw [len_s]; omega) (fun r3 k3 w3 => ?_)
    rw [List.append_assoc] at w3
    exact hQ r3 (kw_tr k2 k3) w3
  · -- two
    have hl : ar c = 2 := hl.symm
    have n63 := ar63 (c := c) (by omega)
    obtain ⟨hb, hx, -⟩ := hch
    rw [hx]
    have e0 : sgK c a [b] = if c = 46 then [(1, 13), (-1, nI a), (-1, nI b)] else [(1, cdO c), (-1, nI b), (-1, nI a)] := rfl
    refine And.intro (fun _ => ?_) (fun (g : nI c = 63) => absurd (nIj (j := 63) (by omega) (by decide) g) n63)
    refine And.intro hin ?_
    rw [ekn, hv]
    refine R_codeOf (by omega) ?_
    have hlen : τ.length + 3 ≤ 1200 := by
      rcases hlen with w | w
      · omega
      · rw [e0] at w
        split at w <;> exact w
    rw [e0] at hQ
    refine R_later hW (by omega) (fun r2 k2 w2 => ?_)
    have e5 : r2.value = r.value := (kw_e k2).1.2.2.2.2.1
    refine And.intro hin ?_
    rw [ekn, e5, hv]
    refine And.intro (fun (g : ¬ nI c = 46) => ?_) (fun (g : nI c = 46) => ?_)
    · have n46 : ¬ c = 46 := fun e => g (by rw [e]; rfl)
      rw [if_neg n46] at hQ
      refine And.intro (fun (g : nI b < 0) => absurd g (nI_pos (by omega))) (fun _ => ?_)
      refine R_later w2 (by rw [len_s]; omega) (fun r3 k3 w3 => ?_)
      refine R_later w3 (by rw [len_s, len_s]; omega) (fun r4 k4 w4 => ?_)
      rw [List.append_assoc, List.append_assoc] at w4
      exact hQ r4 (kw_tr k2 (kw_tr k3 k4)) w4
    · have e46 : c = 46 := nIj (j := 46) (by omega) (by decide) g
      rw [if_pos e46] at hQ
      have ecd : cdO c = 13 := by rw [e46]; rfl
      rw [ecd] at w2
      refine R_later w2 (by rw [len_s]; omega) (fun r3 k3 w3 => ?_)
      refine R_later w3 (by rw [len_s, len_s]; omega) (fun r4 k4 w4 => ?_)
      rw [List.append_assoc, List.append_assoc] at w4
      exact hQ r4 (kw_tr k2 (kw_tr k3 k4)) w4
  · -- three
    have hl : ar c = 3 := hl.symm
    have e63 := ar3 hl
    obtain ⟨hb, hx, hd, hx2, -⟩ := hch
    rw [hx]
    refine And.intro (fun (g : ¬ nI c = 63) => absurd (by rw [e63]; rfl) g) (fun _ => ?_)
    refine And.intro (vp_in_nI hb (by decide)) ?_
    rw [nI_clamp (by omega), hx2]
    have hlen : τ.length + 10 ≤ 1200 := by
      rcases hlen with w | w
      · omega
      · exact w
    refine R_laterCode hW (by omega) (fun r2 k2 w2 => ?_)
    refine R_laterCode w2 (by rw [List.length_append]; show τ.length + 4 + 3 < 1200; omega) (fun r3 k3 w3 => ?_)
    refine R_later w3 (by rw [List.length_append, List.length_append]; show τ.length + 4 + 4 < 1200; omega) (fun r4 k4 w4 => ?_)
    refine R_later w4 (by rw [len_s, List.length_append, List.length_append]; show τ.length + 4 + 4 + 1 < 1200; omega) (fun r5 k5 w5 => ?_)
    have e9 : sgK c a [b, d] = [(5, 0), (1, 9), (-1, nI d), (4, 0)] ++ [(5, 0), (1, 9), (-1, nI b), (4, 0)] ++ [(1, 8)] ++ [(-1, nI a)] := rfl
    rw [e9] at hQ
    refine hQ r5 (kw_tr k2 (kw_tr k3 (kw_tr k4 k5))) ?_
    replace w5 : WSr r5 σ (τ ++ [(5, 0), (1, 9), (-1, nI d), (4, 0)] ++ [(5, 0), (1, 9), (-1, nI b), (4, 0)] ++ [(1, 8)] ++ [(-1, nI a)]) := w5
    simp only [List.append_assoc] at w5 ⊢
    exact w5
  · rw [List.length_cons, List.length_cons, List.length_cons] at hl
    omega
theorem KD_sign {n c : Nat} {is : List Nat} (hn : n + 1 < 100) (hk : r0.kind n = 3) (hf : r0.first n = nI (n + 1)) (hv : r0.value n = nI c) (hc : c < 256) (hl : is.length + 1 = ar c) (hch : chI r0.next is (r0.next (n + 1))) : KD m b0 b1 cst op tl s r0 n (sgK c (n + 1) is) := by
  intro r' σ τ Q' k1 w1 hlen hQ'
  obtain ⟨⟨-, e2, -, -, e5, -⟩, ⟨e7, e8, -, -⟩, -⟩ := kw_e k1
  have hin : vp_in (nI n) 100 := vp_in_nI (by omega) (by decide)
  have ekn : (nI n).toNatClampNeg = n := nI_clamp (by omega)
  intro J hJ
  refine hJ _ _ _ _ ?_
  refine And.intro hin ?_
  rw [ekn, e7, hf]
  refine And.intro hin ?_
  rw [ekn, e2, hk]
  refine And.intro (fun (g : (3 : Int32) = 0) => absurd g (by decide)) (fun _ => And.intro (fun (g : (3 : Int32) = 1) => absurd g (by decide)) (fun _ => And.intro (fun (g : (3 : Int32) = 2) => absurd g (by decide)) (fun _ => And.intro (fun _ => ?_) (fun g => absurd rfl g))))
  refine R_writeSign (n := n) (c := c) (a := n + 1) (is := is) (by omega) (by omega) (by rw [e5]; exact hv) hc hl (by rw [e8]; exact hch) w1 (Or.inr hlen) (fun r2 k2 w2 => ?_)
  exact hQ' r2 (kw_tr k1 k2) w2
theorem W_leaf0 {n : Nat} (hJ : ∀ pc ls st h, mj_sg (mj_Mt gT cst gnw (m + 4)) cst gnw (mj_hd (mj_off kO_R_writeCode) kH_R_writeCode) kC_R_writeCode J Q 400 true pc ls st h → J pc ls st h) (hn : n < 100) (hk : r0.kind n = 0) : WW b0 b1 op tl s r0 J (-1, nI n) [(1, 1), (1, r0.value n)] := by
  have hin : vp_in (nI n) 100 := vp_in_nI (by omega) (by decide)
  have ekn : (nI n).toNatClampNeg = n := nI_clamp (by omega)
  refine W_call hJ (show 1 ≤ 2 by decide) (fun σ τ w hl hw hj r' Q' k1 w1 hQ' => ?_)
  have hl : σ.length + 2 + w ≤ 1200 := hl
  obtain ⟨⟨-, e2, -, -, e5, -⟩, ⟨e7, e8, -, -⟩, -⟩ := kw_e k1
  intro J hJ
  refine hJ _ _ _ _ ?_
  refine And.intro hin ?_
  refine And.intro hin ?_
  rw [ekn, e2, hk]
  refine And.intro (fun _ => ?_) (fun g => absurd rfl g)
  refine R_sign w1 (by omega) (fun r2 k2 w2 => ?_)
  have e5' : r2.value = r0.value := (kw_e (kw_tr k1 k2)).1.2.2.2.2.1
  refine And.intro hin ?_
  rw [ekn, e5']
  refine R_sign w2 (by rw [len_s]; omega) (fun r3 k3 w3 => ?_)
  rw [List.append_assoc] at w3
  exact hQ' r3 _ τ (kw_tr k1 (kw_tr k2 k3)) w3 hj
theorem W_leaf1 {n c k : Nat} {φ : Fr} (hJ : ∀ pc ls st h, mj_sg (mj_Mt gT cst gnw (m + 4)) cst gnw (mj_hd (mj_off kO_R_writeCode) kH_R_writeCode) kC_R_writeCode J Q 400 true pc ls st h → J pc ls st h) (hn : n < 100) (hk : r0.kind n = 1) (hv : r0.value n = nI c) (hc : c < 256) (hch : CHd r0 k n φ) : WW b0 b1 op tl s r0 J (-1, nI n) [(1, 2), (6, lkF c φ 0)] := by
  have hin : vp_in (nI n) 100 := vp_in_nI (by omega) (by decide)
  have ekn : (nI n).toNatClampNeg = n := nI_clamp (by omega)
  refine W_call hJ (show 1 ≤ 2 by decide) (fun σ τ w hl hw hj r' Q' k1 w1 hQ' => ?_)
  have hl : σ.length + 2 + w ≤ 1200 := hl
  obtain ⟨⟨-, e2, -, -, e5, -⟩, ⟨e7, e8, -, -⟩, -⟩ := kw_e k1
  intro J hJ
  refine hJ _ _ _ _ ?_
  refine And.intro hin ?_
  refine And.intro hin ?_
  rw [ekn, e2, hk]
  refine And.intro (fun (g : (1 : Int32) = 0) => absurd g (by decide)) (fun _ => And.intro (fun _ => ?_) (fun g => absurd rfl g))
  refine R_sign w1 (by omega) (fun r2 k2 w2 => ?_)
  have e5' : r2.value = r0.value := (kw_e (kw_tr k1 k2)).1.2.2.2.2.1
  refine R_resolved hn (by rw [e5']; exact hv) hc (CHd_kw (kw_tr k1 k2) k n φ hch) ?_
  refine R_sign w2 (by rw [len_s]; omega) (fun r3 k3 w3 => ?_)
  rw [List.append_assoc] at w3
  exact hQ' r3 _ τ (kw_tr k1 (kw_tr k2 k3)) w3 hj
theorem gD_low {tx : Nat → Nat} : ∀ (f : Nat) (b : Bool) (o d a : Nat) (D : TL) (a' : Nat), gD tx f b o d a = .inl (D, a') → ∀ t ∈ D, ¬ t.1 = 6
  | 0, b, o, d, a, D, a', h => by cases h
  | f + 1, false, o, d, a, D, a', h => by
    have e0 : gD tx (f + 1) false o d a = if tx a = 40 then (if d + o < 9 then cns (4, 0) (gD tx f (decide (tx (a + 1) = 41)) (o + 1) d (a + 1)) else .inr a) else if cL (tx a) then cns (2, nI (tx a)) (gD tx f true o d (a + 1)) else if cD (tx (pA1 tx a)) then cns (1, pVal tx a) (gD tx f true o d (pDg tx 4 (pA1 tx a) 0).1) else .inr (pA1 tx a) := rfl
    have sub : ∀ (x : Int32 × Int32) (b : Bool) (o d a2 : Nat), ¬ x.1 = 6 → cns x (gD tx f b o d a2) = .inl (D, a') → ∀ t ∈ D, ¬ t.1 = 6 := by
      intro x b o d a2 hx h t ht
      obtain ⟨D2, q1, q2⟩ := cns_inv h
      rw [q2] at ht
      rcases List.mem_cons.mp ht with w | w
      · rw [w]
        exact hx
      · exact gD_low f b o d a2 D2 a' q1 t w
    rw [e0] at h
    split at h
    · split at h
      · exact sub _ _ _ _ _ (by decide) h
      · cases h
    · split at h
      · exact sub _ _ _ _ _ (show ¬ (2 : Int32) = 6 by decide) h
      · split at h
        · exact sub _ _ _ _ _ (show ¬ (1 : Int32) = 6 by decide) h
        · cases h
  | f + 1, true, 0, d, a, D, a', h => by
    have h : (Sum.inl ([], a) : (TL × Nat) ⊕ Nat) = .inl (D, a') := h
    cases h
    intro t ht
    cases ht
  | f + 1, true, o + 1, d, a, D, a', h => by
    have e1 : gD tx (f + 1) true (o + 1) d a = if tx a = 41 then cns (5, 0) (gD tx f true o d (a + 1)) else if tx a = 32 then gD tx f false (o + 1) d (a + 1) else .inr a := rfl
    rw [e1] at h
    split at h
    · obtain ⟨D2, q1, q2⟩ := cns_inv h
      intro t ht
      rw [q2] at ht
      rcases List.mem_cons.mp ht with w | w
      · rw [w]
        decide
      · exact gD_low f true o d (a + 1) D2 a' q1 t w
    · split at h
      · exact gD_low f false (o + 1) d (a + 1) D a' h
      · cases h
theorem low_id : ∀ (D : TL), (∀ t ∈ D, ¬ t.1 = 6) → low D = D
  | [], _ => rfl
  | t :: D, h => by
    show lw t :: low D = t :: D
    rw [low_id D (fun x hx => h x (List.mem_cons_of_mem _ hx))]
    unfold lw
    rw [if_neg (h t List.mem_cons_self)]
theorem W_leaf2 {n a a' d : Nat} {D : TL} (hJ : ∀ pc ls st h, mj_sg (mj_Mt gT cst gnw (m + 4)) cst gnw (mj_hd (mj_off kO_R_writeCode) kH_R_writeCode) kC_R_writeCode J Q 400 true pc ls st h → J pc ls st h) (hx : txOK r0.text len tx) (ht : r0.typed = nI len) (hn : n < 100) (hk : r0.kind n = 2) (hat : r0.at_ n = nI a) (hu : r0.until_ n = nI a') (ha : a + 1 ≤ len) (hg : gD tx 200 false 0 d (a + 1) = .inl (D, a')) : WW b0 b1 op tl s r0 J (-1, nI n) ((1, 1) :: D) := by
  have hin : vp_in (nI n) 100 := vp_in_nI (by omega) (by decide)
  have ekn : (nI n).toNatClampNeg = n := nI_clamp (by omega)
  have hlow : low ((1, 1) :: D) = (1, 1) :: D := low_id _ (fun t w => by
    rcases List.mem_cons.mp w with w | w
    · rw [w]
      decide
    · exact gD_low _ _ _ _ _ _ _ hg t w)
  refine W_call hJ (by rw [List.length_cons]; omega) (fun σ τ w hl hw hj r' Q' k1 w1 hQ' => ?_)
  rw [hlow] at hj
  rw [List.length_cons] at hl
  obtain ⟨⟨-, e2, -, -, e5, -⟩, ⟨e7, e8, -, -⟩, -⟩ := kw_e k1
  intro J hJ
  refine hJ _ _ _ _ ?_
  refine And.intro hin ?_
  refine And.intro hin ?_
  rw [ekn, e2, hk]
  refine And.intro (fun (g : (2 : Int32) = 0) => absurd g (by decide)) (fun _ => And.intro (fun (g : (2 : Int32) = 1) => absurd g (by decide)) (fun _ => And.intro (fun _ => ?_) (fun g => absurd rfl g)))
  refine R_sign w1 (by omega) (fun r2 k2 w2 => ?_)
  have k12 := kw_tr k1 k2
  obtain ⟨⟨-, -, f3, f4, -, -⟩, -, f6, f7⟩ := kw_e k12
  refine R_writeDatum (d := d) (a := a) (a' := a') (D := D) (by rw [f6]; exact hx) (by rw [f7]; exact ht) hn (by rw [f3]; exact hat) (by rw [f4]; exact hu) ha hg w2 (by rw [len_s]; omega) (fun r3 k3 w3 => ?_)
  rw [List.append_assoc] at w3
  exact hQ' r3 _ τ (kw_tr k12 k3) w3 hj
end YF
end
section
section YG
variable {cst : Nat → Option (Nat × (Nat → Int32))} {m b0 b1 : Nat} {op : Bool} {tl : List mj_O} {Q : mj_R → Prop} {s : cS} {r0 : rM} {J : Nat → mj_L → List Value → mj_H → Prop} {tx : Nat → Nat} {len : Nat}
set_option maxRecDepth 10000
theorem gD_pos {X : Nat → Int32} {d f o a a' : Nat} {D : TL} (hx : txOK X len tx) (h : gD tx (f + 1) false o d a = .inl (D, a')) : a < len := by
  refine hx.lt (a := a) (fun e => ?_)
  have e0 : gD tx (f + 1) false o d a = if tx a = 40 then (if d + o < 9 then cns (4, 0) (gD tx f (decide (tx (a + 1) = 41)) (o + 1) d (a + 1)) else .inr a) else if cL (tx a) then cns (2, nI (tx a)) (gD tx f true o d (a + 1)) else if cD (tx (pA1 tx a)) then cns (1, pVal tx a) (gD tx f true o d (pDg tx 4 (pA1 tx a) 0).1) else .inr (pA1 tx a) := rfl
  have e1 : pA1 tx a = a := if_neg (by omega)
  rw [e0, e1, e, if_neg (by decide), if_neg (by decide), if_neg (by decide)] at h
  cases h
theorem CH_no {r : rM} {k n j : Nat} {φ : Fr} (hn : n < 100) (hp : r.parent j = nI n) (hc : CHd r k n φ) (h5 : ¬ r.kind n = 5) (h7 : ¬ r.kind n = 7) (h6 : ¬ r.kind n = 6 ∨ ¬ r.first n = nI j) : CHd r (k + 1) j φ := ⟨n, φ, hn, hp, hc, Or.inr ⟨rfl, h5, h7, h6⟩⟩
theorem CH_fr {r : rM} {k n j : Nat} {φ : Fr} {ls : List Nat} (hn : n < 100) (hp : r.parent j = nI n) (hc : CHd r k n φ) (h : FRb r n ls ∨ (FRk r n ls ∧ (r.kind n = 7 ∨ r.first n = nI j))) : CHd r (k + 1) j (ls :: φ) := ⟨n, φ, hn, hp, hc, Or.inl ⟨ls, rfl, h⟩⟩
theorem rowT_len : ∀ (ks : List Kd) (φ : Fr), 2 ≤ (rowT ks φ).length
  | [], φ => Nat.le_refl _
  | k :: ks, φ => by
    have := rowT_len ks φ
    show 2 ≤ (rowT ks φ ++ (k.1 φ ++ [(1, 13)])).length
    rw [List.length_append]
    omega
set_option maxHeartbeats 4000000 in
theorem W_part (hJ : ∀ pc ls st h, mj_sg (mj_Mt gT cst gnw (m + 4)) cst gnw (mj_hd (mj_off kO_R_writeCode) kH_R_writeCode) kC_R_writeCode J Q 400 true pc ls st h → J pc ls st h) (hx : txOK r0.text len tx) (ht : r0.typed = nI len) : ∀ (f n e : Nat) (t : Tau) (k : Nat) (φ : Fr), cR tx r0 f n e t → e ≤ 100 → CHd r0 k n φ → WW b0 b1 op tl s r0 J (-1, nI n) (t φ)
  | 0, n, e, t, k, φ, h, _, _ => absurd h id
  | f + 1, n, e, t, k, φ, h, he, hc => by
    have hlt := cR_lt (f + 1) n e t h
    rcases h with ⟨h1, h2, h3⟩ | ⟨h1, h2, c, a, h3, h4, h5, h6, h7⟩ | ⟨h1, h2, a, a', d, D, h3, h4, h5, h6, h7⟩ | ⟨ks, l, h1, h2, h3, hT⟩
    · rw [h3]
      exact W_leaf0 hJ (by omega) h1
    · rw [h7]
      exact W_leaf1 hJ (by omega) h1 h6 h3 hc
    · rw [h7]
      have := gD_pos hx h5
      exact W_leaf2 hJ hx ht (by omega) h1 h3 h4 (by omega) h5
    · have hlt2 := cKL_lt (fun i m t w => cR_lt (tx := tx) (r := r0) f i m t w.1) ks _ _ _ h1
      have kid : ∀ (j e2 : Nat) (t2 : Tau) (φ2 : Fr), (cR tx r0 f j e2 t2 ∧ r0.parent j = nI n) → e2 ≤ e → CHd r0 (k + 1) j φ2 → WW b0 b1 op tl s r0 J (-1, nI j) (t2 φ2) := fun j e2 t2 φ2 q1 q2 q3 => W_part hJ hx ht f j e2 t2 (k + 1) φ2 q1.1 (by omega) q3
      have hlk : ∀ (a : Kd) (args : List Kd), ks = a :: args → (∃ e2, (cR tx r0 f (n + 1) e2 a.1 ∧ r0.parent (n + 1) = nI n) ∧ e2 ≤ e) ∧ ∃ is, chI r0.next is (r0.next (n + 1)) ∧ F2 (fun k j => n + 1 < j ∧ ∃ e2, (cR tx r0 f j e2 k.1 ∧ r0.parent j = nI n) ∧ e2 ≤ e) args is := by
        intro a args ea
        rw [ea] at h1
        exact cKL_is (fun i m t w => cR_lt (tx := tx) (r := r0) f i m t w.1) args a (n + 1) l e h1 h2 (by omega)
      rcases hT with ⟨k1, c, c1, c2, c3, c4, c5⟩ | ⟨k1, a, args, c1, c2, c3⟩ | ⟨k1, a, ls, c1, c2, c3, c4, c5, c6⟩ | ⟨k1, a, args, ls, c1, c2, c3, c4, c5, c6⟩ | ⟨k1, a, args, ls, c1, c2, c3, c4, c5, c6⟩
      · -- a sign
        have n5 : ¬ r0.kind n = 5 := by rw [k1]; decide
        have n7 : ¬ r0.kind n = 7 := by rw [k1]; decide
        have n6 : ¬ r0.kind n = 6 := by rw [k1]; decide
        have chn : ∀ j, r0.parent j = nI n → CHd r0 (k + 1) j φ := fun j hj => CH_no (by omega) hj hc n5 n7 (Or.inl n6)
        rw [c5]
        rcases ks with _ | ⟨a, args⟩
        · rw [List.length_nil] at c4
          omega
        obtain ⟨⟨e2, p1, p2⟩, is, q1, q2⟩ := hlk a args rfl
        have wa := kid (n + 1) e2 a.1 φ p1 p2 (chn _ p1.2)
        have q3 := F2_mono (fun kd j (w : n + 1 < j ∧ ∃ e2, (cR tx r0 f j e2 kd.1 ∧ r0.parent j = nI n) ∧ e2 ≤ e) => (show WW b0 b1 op tl s r0 J (-1, nI j) (kd.1 φ) by
          obtain ⟨-, e3, w1, w2⟩ := w
          exact kid j e3 kd.1 φ w1 w2 (chn _ w1.2))) args is q2
        have hli := F2_len args is q2
        rw [List.length_cons] at c4
        have hKD := KD_sign (m := m) (b0 := b0) (b1 := b1) (cst := cst) (op := op) (tl := tl) (s := s) (r0 := r0) (n := n) (c := c) (is := is) (by omega) k1 h3 c2 c1 (by omega) q1
        have t1 : ∀ v : Int32, WL b0 b1 op tl s r0 J [(1, v)] [(1, v)] := fun v => WL_snoc WL_nil (W_tok (k := 1) (v := v) hJ (by decide) (by decide))
        have ha3 := ar_le c
        rcases args with _ | ⟨b, _ | ⟨d, _ | ⟨x, args⟩⟩⟩ <;> rcases is with _ | ⟨i, _ | ⟨j, _ | ⟨y, is⟩⟩⟩ <;> first | (exact absurd q3 id) | (exact absurd q3.2 id) | (exact absurd q3.2.2 id) | skip
        · refine W_kids hJ ?_ hKD (WL_snoc (t1 (cdO c)) wa)
          show 1 ≤ (a.1 φ ++ [(1, cdO c)]).length
          rw [List.length_append, List.length_cons]
          omega
        · by_cases e46 : c = 46
          · have e9 : sgT c [a, b] φ = b.1 φ ++ (a.1 φ ++ [(1, 13)]) := if_pos e46
            have e10 : sgK c (n + 1) [i] = [(1, 13), (-1, nI (n + 1)), (-1, nI i)] := if_pos e46
            rw [e10] at hKD
            rw [e9]
            refine W_kids hJ ?_ hKD (WL_snoc (WL_snoc (t1 13) wa) q3.1)
            rw [List.length_append]
            have := q3.1.1
            omega
          · have e9 : sgT c [a, b] φ = a.1 φ ++ (b.1 φ ++ [(1, cdO c)]) := if_neg e46
            have e10 : sgK c (n + 1) [i] = [(1, cdO c), (-1, nI i), (-1, nI (n + 1))] := if_neg e46
            rw [e10] at hKD
            rw [e9]
            refine W_kids hJ ?_ hKD (WL_snoc (WL_snoc (t1 (cdO c)) q3.1) wa)
            rw [List.length_append]
            have := wa.1
            omega
        · have w1 := WL_code (e := 9) hJ WL_nil q3.2.1
          have w2 := WL_code (e := 9) hJ w1 q3.1
          have w3 := WL_snoc (WL_snoc w2 (W_tok (k := 1) (v := 8) hJ (by decide) (by decide))) wa
          rw [List.append_nil] at w3
          refine W_kids hJ ?_ hKD w3
          show 1 ≤ (a.1 φ ++ ((1, 8) :: (lstT 9 b.1 φ ++ lstT 9 d.1 φ))).length
          rw [List.length_append]
          have := wa.1
          omega
        all_goals (rw [List.length_cons, List.length_cons, List.length_cons] at c4; omega)
      · -- a call
        have n5 : ¬ r0.kind n = 5 := by rw [k1]; decide
        have n7 : ¬ r0.kind n = 7 := by rw [k1]; decide
        have n6 : ¬ r0.kind n = 6 := by rw [k1]; decide
        have chn : ∀ j, r0.parent j = nI n → CHd r0 (k + 1) j φ := fun j hj => CH_no (by omega) hj hc n5 n7 (Or.inl n6)
        obtain ⟨⟨e2, p1, p2⟩, is, q1, q2⟩ := hlk a args c1
        have wa := kid (n + 1) e2 a.1 φ p1 p2 (chn _ p1.2)
        have q3 := F2_mono (fun kd j (w : n + 1 < j ∧ ∃ e2, (cR tx r0 f j e2 kd.1 ∧ r0.parent j = nI n) ∧ e2 ≤ e) => (show WW b0 b1 op tl s r0 J (-1, nI j) (kd.1 φ) by
          obtain ⟨-, e3, w1, w2⟩ := w
          exact kid j e3 kd.1 φ w1 w2 (chn _ w1.2))) args is q2
        rw [c3]
        refine W_kids hJ ?_ (KD_call (by omega) k1 h3 q1) (WL_row hJ args is _ _ (WL_snoc (WL_snoc WL_nil (W_tok (k := 1) (v := 4) hJ (by decide) (by decide))) wa) q3)
        show 1 ≤ (rowT args φ ++ (a.1 φ ++ [(1, 4)])).length
        rw [List.length_append]
        have := rowT_len args φ
        omega
      · -- a function
        obtain ⟨⟨e2, p1, p2⟩, is, q1, q2⟩ := hlk a [] c1
        have wa := kid (n + 1) e2 a.1 (ls :: φ) p1 p2 (CH_fr (by omega) p1.2 hc (Or.inl ⟨k1, c3, c2, c4, c5⟩))
        rw [c6]
        have w1 := WL_snoc (WL_code (e := 5) hJ WL_nil wa) (W_tok (k := 1) (v := 3) hJ (by decide) (by decide))
        rw [List.append_nil] at w1
        exact W_kids hJ (by show 1 ≤ ((1, 3) :: lstT 5 a.1 (ls :: φ)).length; rw [List.length_cons]; omega) (KD_body (by omega) k1 h3) w1
      · -- bound
        have hlen : ls.length = args.length := by
          have := congrArg List.length c4
          rw [List.length_map, List.length_map] at this
          exact this.symm
        have hch := h1
        rw [c1] at hch
        have hch2 := cKL_ch (fun i m t w => cR_lt (tx := tx) (r := r0) f i m t w.1) args a (n + 1) l e hch h2 (by omega)
        rw [c4] at hch2
        have hF : FRk r0 n ls := ⟨Or.inl k1, n + 1, by omega, h3, hch2, c5, by omega⟩
        obtain ⟨⟨e2, p1, p2⟩, is, q1, q2⟩ := hlk a args c1
        have wa := kid (n + 1) e2 a.1 (ls :: φ) p1 p2 (CH_fr (by omega) p1.2 hc (Or.inr ⟨hF, Or.inr h3⟩))
        have q3 := F2_mono (fun kd j (w : n + 1 < j ∧ ∃ e2, (cR tx r0 f j e2 kd.1 ∧ r0.parent j = nI n) ∧ e2 ≤ e) => (show WW b0 b1 op tl s r0 J (-1, nI j) (kd.1 φ) by
          obtain ⟨w0, e3, w1, w2⟩ := w
          exact kid j e3 kd.1 φ w1 w2 (CH_no (by omega) w1.2 hc (by rw [k1]; decide) (by rw [k1]; decide) (Or.inr (fun q => by have q := h3.symm.trans q; have q2 := cR_lt f j e3 kd.1 w1.1; have := nIj (by omega) (by omega) q; omega))))) args is q2
        rw [c6]
        have w1 := WL_snoc (WL_code (e := 5) hJ (WL_snoc WL_nil (W_tok (k := 1) (v := 4) hJ (by decide) (by decide))) wa) (W_tok (k := 1) (v := 3) hJ (by decide) (by decide))
        have w2 := WL_row hJ args is _ _ w1 q3
        have hKD := KD_let (m := m) (b0 := b0) (b1 := b1) (cst := cst) (op := op) (tl := tl) (s := s) (r0 := r0) (n := n) (rc := false) (is := is) (by omega) k1 h3 q1
        have e10 : (if false = true then [((1 : Int32), (6 : Int32))] else []) = [] := rfl
        rw [e10, List.append_nil] at hKD
        refine W_kids hJ ?_ hKD w2
        show 1 ≤ (rowT args φ ++ (boT a ls φ ++ [(1, 4)])).length
        rw [List.length_append]
        have := rowT_len args φ
        omega
      · -- bound, in its frame
        have hlen : ls.length = args.length := by
          have := congrArg List.length c4
          rw [List.length_map, List.length_map] at this
          exact this.symm
        have hch := h1
        rw [c1] at hch
        have hch2 := cKL_ch (fun i m t w => cR_lt (tx := tx) (r := r0) f i m t w.1) args a (n + 1) l e hch h2 (by omega)
        rw [c4] at hch2
        have hF : FRk r0 n ls := ⟨Or.inr k1, n + 1, by omega, h3, hch2, c5, by omega⟩
        obtain ⟨⟨e2, p1, p2⟩, is, q1, q2⟩ := hlk a args c1
        have wa := kid (n + 1) e2 a.1 (ls :: φ) p1 p2 (CH_fr (by omega) p1.2 hc (Or.inr ⟨hF, Or.inr h3⟩))
        have q3 := F2_mono (fun kd j (w : n + 1 < j ∧ ∃ e2, (cR tx r0 f j e2 kd.1 ∧ r0.parent j = nI n) ∧ e2 ≤ e) => (show WW b0 b1 op tl s r0 J (-1, nI j) (kd.1 (ls :: φ)) by
          obtain ⟨w0, e3, w1, w2⟩ := w
          exact kid j e3 kd.1 (ls :: φ) w1 w2 (CH_fr (by omega) w1.2 hc (Or.inr ⟨hF, Or.inl k1⟩)))) args is q2
        rw [c6]
        have w1 := WL_snoc (WL_code (e := 5) hJ (WL_snoc WL_nil (W_tok (k := 1) (v := 7) hJ (by decide) (by decide))) wa) (W_tok (k := 1) (v := 3) hJ (by decide) (by decide))
        have w2 := WL_row hJ args is _ _ w1 q3
        have hKD := KD_let (m := m) (b0 := b0) (b1 := b1) (cst := cst) (op := op) (tl := tl) (s := s) (r0 := r0) (n := n) (rc := true) (is := is) (by omega) k1 h3 q1
        have w3 := WL_snoc w2 (W_tok (k := 1) (v := 6) hJ (by decide) (by decide))
        refine W_kids hJ ?_ hKD w3
        show 1 ≤ ((1, 6) :: (rowT args (ls :: φ) ++ (boT a ls φ ++ [(1, 7)]))).length
        rw [List.length_cons]
        omega
theorem R_writeCode {r : rM} {t : Tau} {e : Nat} (hx : txOK r.text len tx) (ht : r.typed = nI len) (hc : cR tx r 10 0 e t) (he : e ≤ 100) (hp : r.parent 0 = -1) (hl : (t []).length + 1 ≤ 1200) (hQ : ∀ r', kw r r' → WSr r' (low (t []) ++ [(1, 19)]) [] → Q (.inl none, (cW s (rW r' tl), b0, b1, op))) : mj_Mt gT cst gnw (m + 5) y_R_writeCode [.ref 27] (cW s (rW r tl), b0, b1, op) Q := by
  intro J hJ
  have wp : WW b0 b1 op tl s r J (-1, nI 0) (t []) := W_part hJ hx ht 10 0 e t 0 [] hc he ⟨hp, rfl⟩
  have wl := WL_snoc (WL_snoc WL_nil (W_tok (b0 := b0) (b1 := b1) (op := op) (tl := tl) (s := s) (r0 := r) (k := 1) (v := 19) hJ (by decide) (by decide))) wp
  have fin : JW b0 b1 op tl s r J ([] ++ low (t [] ++ ([(1, 19)] ++ []))) [] := by
    intro r' k w
    have h0 : r'.tasks = nI 0 := w.2.1.1
    refine hJ _ _ _ _ ?_
    refine And.intro (fun _ => ?_) (fun (g : ¬ r'.tasks ≤ 0) => absurd (by rw [h0]; decide) g)
    refine hQ r' k ?_
    have e1 : [] ++ low (t [] ++ ([(1, 19)] ++ [])) = low (t []) ++ [(1, 19)] := by
      rw [List.append_nil, List.nil_append, low_app]
      rfl
    rw [e1] at w
    exact w
  have main := wl.2 [] [] 0 (by rw [List.length_append]; show 0 + ((t []).length + 1) + 0 ≤ 1200; omega) (Nat.le_refl _) fin
  have w0 : WSr (((r.s_signs 0).s_cells 0).s_tasks 0) [] [] := ⟨⟨rfl, fun i t hi => by rw [List.getElem?_nil] at hi; cases hi⟩, ⟨rfl, fun i t hi => by rw [List.getElem?_nil] at hi; cases hi⟩, rfl⟩
  refine hJ _ _ _ _ ?_
  refine R_later (r := (((r.s_signs 0).s_cells 0).s_tasks 0)) w0 (by decide) (fun r2 k2 w2 => ?_)
  refine R_later w2 (by decide) (fun r3 k3 w3 => ?_)
  have k03 : kw r r3 := kw_tr (r' := (((r.s_signs 0).s_cells 0).s_tasks 0)) rfl (kw_tr k2 k3)
  exact main r3 k03 w3
end YG
end
section
theorem lkF_bd {r : rM} {c : Nat} : ∀ (k n : Nat) (φ : Fr) (j : Nat), CHd r k n φ → ¬ lkF c φ j < 0 → j + k ≤ 600 → ∃ X, X < 10000 ∧ lkF c φ j = nI X
  | 0, n, φ, j, h, hn, _ => by
    obtain ⟨-, rfl⟩ := h
    exact absurd (by decide : (-1 : Int32) < 0) hn
  | k + 1, n, φ, j, h, hn, hb => by
    obtain ⟨v, φ', hv, h1, h2, h3⟩ := h
    rcases h3 with ⟨ls, rfl, hF⟩ | ⟨rfl, -⟩
    · have hl : ls.length ≤ 3 := by
        rcases hF with ⟨-, -, w, -⟩ | ⟨⟨-, i1, -, -, -, -, w⟩, -⟩
        · exact w
        · exact w
      have e0 : lkF c (ls :: φ') j = match plc c ls 0 with | some i => nI (16 * j + i) | none => lkF c φ' (j + 1) := rfl
      rw [e0] at hn ⊢
      cases hp : plc c ls 0 with
      | none =>
        rw [hp] at hn
        exact lkF_bd k v φ' (j + 1) h2 hn (by omega)
      | some i =>
        have := plc_lt ls 0 i hp
        exact ⟨16 * j + i, by omega, rfl⟩
    · exact lkF_bd k v φ j h2 hn (by omega)
def NM (r : rM) (K i c k : Nat) (φ : Fr) : Prop := r.kind i = 1 ∧ r.value i = nI c ∧ c < 256 ∧ CHd r k i φ ∧ k ≤ K
def cov (r : rM) (K n e : Nat) (T : TL) : Prop := (∀ i, n ≤ i → i < e → r.kind i = 1 → (∃ a, a ≤ 96 ∧ r.at_ i = nI a) ∧ ∃ c k φ, NM r K i c k φ) ∧ (∀ x ∈ T, x.1 = 6 → ∃ i c k φ, n ≤ i ∧ i < e ∧ NM r K i c k φ ∧ x.2 = lkF c φ 0)
theorem lst_mem {x : Int32 × Int32} {i : Int32} {t : Tau} {φ : Fr} (h : x ∈ lstT i t φ) (h6 : x.1 = 6) (hi : True) : x ∈ t φ := by
  unfold lstT at h
  rcases List.mem_cons.mp h with w | w
  · rw [w] at h6
    exact absurd h6 (by decide)
  · rcases List.mem_append.mp w with w | w
    · exact w
    · rcases List.mem_cons.mp w with w | w
      · rw [w] at h6
        exact absurd (show (1 : Int32) = 6 from h6) (by decide)
      · rw [List.mem_singleton.mp w] at h6
        exact absurd h6 (by decide)
theorem row_mem {x : Int32 × Int32} {φ : Fr} (h6 : x.1 = 6) : ∀ (ks : List Kd), x ∈ rowT ks φ → ∃ k ∈ ks, x ∈ k.1 φ
  | [], h => by
    have h : x ∈ [((1 : Int32), (1 : Int32)), (0, 0)] := h
    rcases List.mem_cons.mp h with w | w
    · rw [w] at h6
      exact absurd h6 (by decide)
    · rw [List.mem_singleton.mp w] at h6
      exact absurd h6 (by decide)
  | k :: ks, h => by
    have h : x ∈ rowT ks φ ++ (k.1 φ ++ [(1, 13)]) := h
    rcases List.mem_append.mp h with w | w
    · obtain ⟨k2, q1, q2⟩ := row_mem h6 ks w
      exact ⟨k2, List.mem_cons_of_mem _ q1, q2⟩
    · rcases List.mem_append.mp w with w | w
      · exact ⟨k, List.mem_cons_self, w⟩
      · rw [List.mem_singleton.mp w] at h6
        exact absurd h6 (by decide)
theorem one_mem {x : Int32 × Int32} {v : Int32} (h6 : x.1 = 6) (h : x ∈ [((1 : Int32), v)]) : False := by
  rw [List.mem_singleton.mp h] at h6
  exact absurd (show (1 : Int32) = 6 from h6) (by decide)
theorem cKL_all {P : Nat → Nat → Tau → Prop} {nx bo : Nat → Int32} (hlt : ∀ i m t, P i m t → i < m) : ∀ (ks : List Kd) (i l m : Nat), cKL P nx bo ks i l m → (∀ k ∈ ks, ∃ a b, i ≤ a ∧ b ≤ m ∧ P a b k.1) ∧ (∀ j, i ≤ j → j < m → ∃ k ∈ ks, ∃ a b, i ≤ a ∧ a ≤ j ∧ j < b ∧ b ≤ m ∧ P a b k.1)
  | [], _, _, _, h => absurd h id
  | k :: [], i, l, m, h => by
    obtain ⟨rfl, h2, -⟩ := h
    refine ⟨fun k2 hk => ?_, fun j h3 h4 => ⟨k, List.mem_cons_self, i, m, Nat.le_refl _, h3, h4, Nat.le_refl _, h2⟩⟩
    rw [List.mem_singleton.mp hk]
    exact ⟨i, m, Nat.le_refl _, Nat.le_refl _, h2⟩
  | k :: k2 :: ks, i, l, m, h => by
    obtain ⟨j, h1, -, -, h4⟩ := h
    have c1 := hlt _ _ _ h1
    have c2 := cKL_lt hlt (k2 :: ks) j l m h4
    obtain ⟨q1, q2⟩ := cKL_all hlt (k2 :: ks) j l m h4
    refine ⟨fun k3 hk => ?_, fun j2 h5 h6 => ?_⟩
    · rcases List.mem_cons.mp hk with w | w
      · rw [w]
        exact ⟨i, j, Nat.le_refl _, by omega, h1⟩
      · obtain ⟨a, b, w1, w2, w3⟩ := q1 k3 w
        exact ⟨a, b, by omega, w2, w3⟩
    · rcases Nat.lt_or_ge j2 j with w | w
      · exact ⟨k, List.mem_cons_self, i, j, Nat.le_refl _, h5, w, by omega, h1⟩
      · obtain ⟨k3, w1, a, b, w2, w3, w4, w5, w6⟩ := q2 j2 w h6
        exact ⟨k3, List.mem_cons_of_mem _ w1, a, b, by omega, w3, w4, w5, w6⟩
theorem sg_mem {x : Int32 × Int32} {c : Nat} {φ : Fr} (h6 : x.1 = 6) : ∀ (ks : List Kd), x ∈ sgT c ks φ → ∃ k ∈ ks, x ∈ k.1 φ
  | [], h => by cases h
  | [a], h => by
    have h : x ∈ a.1 φ ++ [(1, cdO c)] := h
    rcases List.mem_append.mp h with w | w
    · exact ⟨a, List.mem_cons_self, w⟩
    · exact absurd (one_mem h6 w) id
  | [a, b], h => by
    have h : x ∈ (if c = 46 then b.1 φ ++ (a.1 φ ++ [(1, 13)]) else a.1 φ ++ (b.1 φ ++ [(1, cdO c)])) := h
    split at h
    · rcases List.mem_append.mp h with w | w
      · exact ⟨b, List.mem_cons_of_mem _ List.mem_cons_self, w⟩
      · rcases List.mem_append.mp w with w | w
        · exact ⟨a, List.mem_cons_self, w⟩
        · exact absurd (one_mem h6 w) id
    · rcases List.mem_append.mp h with w | w
      · exact ⟨a, List.mem_cons_self, w⟩
      · rcases List.mem_append.mp w with w | w
        · exact ⟨b, List.mem_cons_of_mem _ List.mem_cons_self, w⟩
        · exact absurd (one_mem h6 w) id
  | [a, b, d], h => by
    have h : x ∈ a.1 φ ++ ((1, 8) :: (lstT 9 b.1 φ ++ lstT 9 d.1 φ)) := h
    rcases List.mem_append.mp h with w | w
    · exact ⟨a, List.mem_cons_self, w⟩
    · rcases List.mem_cons.mp w with w | w
      · rw [w] at h6
        exact absurd h6 (by decide)
      · rcases List.mem_append.mp w with w | w
        · exact ⟨b, List.mem_cons_of_mem _ List.mem_cons_self, lst_mem w h6 trivial⟩
        · exact ⟨d, List.mem_cons_of_mem _ (List.mem_cons_of_mem _ List.mem_cons_self), lst_mem w h6 trivial⟩
  | _ :: _ :: _ :: _ :: _, h => by cases h
theorem bo_mem {x : Int32 × Int32} {a : Kd} {ls : List Nat} {φ : Fr} (h6 : x.1 = 6) (h : x ∈ boT a ls φ) : x ∈ a.1 (ls :: φ) := by
  unfold boT at h
  rcases List.mem_cons.mp h with w | w
  · rw [w] at h6
    exact absurd h6 (by decide)
  · exact lst_mem w h6 trivial
theorem F2_mem {R : Kd → Nat → Prop} {kd : Kd} : ∀ (ks : List Kd) (is : List Nat), F2 R ks is → kd ∈ ks → ∃ j, R kd j
  | [], [], _, hm => by cases hm
  | k :: ks, i :: is, ⟨a, b⟩, hm => by
    rcases List.mem_cons.mp hm with w | w
    · rw [w]
      exact ⟨i, a⟩
    · exact F2_mem ks is b w
  | [], _ :: _, h, _ => absurd h id
  | _ :: _, [], h, _ => absurd h id
section YH
variable {r : rM} {tx : Nat → Nat}
theorem cR_cov {K : Nat} : ∀ (f n e : Nat) (t : Tau) (k : Nat) (φ : Fr), cR tx r f n e t → e ≤ 100 → CHd r k n φ → k + f ≤ K → cov r K n e (t φ)
  | 0, n, e, t, k, φ, h, _, _, _ => absurd h id
  | f + 1, n, e, t, k, φ, h, he, hc, hK => by
    have hlt := cR_lt (f + 1) n e t h
    rcases h with ⟨h1, h2, h3⟩ | ⟨h1, h2, c, a, h3, h4, h5, h6, h7⟩ | ⟨h1, h2, a, a', d, D, h3, h4, h5, h6, h7⟩ | ⟨ks, l, h1, h2, h3, hT⟩
    · refine ⟨fun i q1 q2 q3 => ?_, fun x hx h6 => ?_⟩
      · obtain rfl : i = n := by omega
        rw [h1] at q3
        exact absurd q3 (by decide)
      · rw [h3] at hx
        rcases List.mem_cons.mp hx with w | w
        · rw [w] at h6
          exact absurd h6 (by decide)
        · exact absurd (one_mem h6 w) id
    · refine ⟨fun i q1 q2 q3 => ?_, fun x hx h6' => ?_⟩
      · obtain rfl : i = n := by omega
        exact ⟨⟨a, h4, h5⟩, c, k, φ, h1, h6, h3, hc, by omega⟩
      · rw [h7] at hx
        rcases List.mem_cons.mp hx with w | w
        · rw [w] at h6'
          exact absurd h6' (by decide)
        · rw [List.mem_singleton.mp w]
          exact ⟨n, c, k, φ, Nat.le_refl _, by omega, ⟨h1, h6, h3, hc, by omega⟩, rfl⟩
    · refine ⟨fun i q1 q2 q3 => ?_, fun x hx h6' => ?_⟩
      · obtain rfl : i = n := by omega
        rw [h1] at q3
        exact absurd q3 (by decide)
      · rw [h7] at hx
        rcases List.mem_cons.mp hx with w | w
        · rw [w] at h6'
          exact absurd h6' (by decide)
        · exact absurd h6' (gD_low _ _ _ _ _ _ _ h5 x w)
    · obtain ⟨A1, A2⟩ := cKL_all (fun i m t w => cR_lt (tx := tx) (r := r) f i m t w.1) ks _ _ _ h1
      have hlt2 := cKL_lt (fun i m t w => cR_lt (tx := tx) (r := r) f i m t w.1) ks _ _ _ h1
      have kid : ∀ (a b : Nat) (t2 : Tau) (φ2 : Fr), n + 1 ≤ a → b ≤ e → (cR tx r f a b t2 ∧ r.parent a = nI n) → CHd r (k + 1) a φ2 → cov r K a b (t2 φ2) := fun a b t2 φ2 q1 q2 q3 q4 => cR_cov f a b t2 (k + 1) φ2 q3.1 (by omega) q4 (by omega)
      have fr : (∀ a, n + 1 ≤ a → a < e → r.parent a = nI n → ∃ φ2, CHd r (k + 1) a φ2) → (∀ x ∈ t φ, x.1 = 6 → ∃ kd ∈ ks, ∃ a b φ2, n + 1 ≤ a ∧ b ≤ e ∧ (cR tx r f a b kd.1 ∧ r.parent a = nI n) ∧ CHd r (k + 1) a φ2 ∧ x ∈ kd.1 φ2) → ¬ r.kind n = 1 → cov r K n e (t φ) := by
        intro g1 g2 g3
        refine ⟨fun i q1 q2 q3 => ?_, fun x hx h6 => ?_⟩
        · by_cases ei : i = n
          · rw [ei] at q3
            exact absurd q3 g3
          · obtain ⟨kd, w1, a, b, w2, w3, w4, w5, w6⟩ := A2 i (by omega) q2
            obtain ⟨φ2, w7⟩ := g1 a w2 (by omega) w6.2
            exact (kid a b kd.1 φ2 w2 w5 w6 w7).1 i w3 w4 q3
        · obtain ⟨kd, w1, a, b, φ2, w2, w3, w4, w5, w6⟩ := g2 x hx h6
          obtain ⟨i, c, k2, φ3, u1, u2, u3, u4⟩ := (kid a b kd.1 φ2 w2 w3 w4 w5).2 x w6 h6
          exact ⟨i, c, k2, φ3, by omega, by omega, u3, u4⟩
      have pick : ∀ (kd : Kd) (φ2 : Fr), kd ∈ ks → (∀ a, n + 1 ≤ a → a < e → r.parent a = nI n → CHd r (k + 1) a φ2) → ∀ x ∈ kd.1 φ2, ∃ kd ∈ ks, ∃ a b φ2, n + 1 ≤ a ∧ b ≤ e ∧ (cR tx r f a b kd.1 ∧ r.parent a = nI n) ∧ CHd r (k + 1) a φ2 ∧ x ∈ kd.1 φ2 := by
        intro kd φ2 hk hch x hx
        obtain ⟨a, b, w1, w2, w3⟩ := A1 kd hk
        have := cR_lt f a b kd.1 w3.1
        exact ⟨kd, hk, a, b, φ2, w1, w2, w3, hch a w1 (by omega) w3.2, hx⟩
      have hlk : ∀ (a : Kd) (args : List Kd), ks = a :: args → (∃ e2, (cR tx r f (n + 1) e2 a.1 ∧ r.parent (n + 1) = nI n) ∧ e2 ≤ e) ∧ ∃ is, chI r.next is (r.next (n + 1)) ∧ F2 (fun k j => n + 1 < j ∧ ∃ e2, (cR tx r f j e2 k.1 ∧ r.parent j = nI n) ∧ e2 ≤ e) args is := by
        intro a args ea
        rw [ea] at h1
        exact cKL_is (fun i m t w => cR_lt (tx := tx) (r := r) f i m t w.1) args a (n + 1) l e h1 h2 (by omega)
      rcases hT with ⟨k1, c, c1, c2, c3, c4, c5⟩ | ⟨k1, a, args, c1, c2, c3⟩ | ⟨k1, a, ls, c1, c2, c3, c4, c5, c6⟩ | ⟨k1, a, args, ls, c1, c2, c3, c4, c5, c6⟩ | ⟨k1, a, args, ls, c1, c2, c3, c4, c5, c6⟩
      · have chn : ∀ a, n + 1 ≤ a → a < e → r.parent a = nI n → CHd r (k + 1) a φ := fun a _ _ hj => CH_no (by omega) hj hc (by rw [k1]; decide) (by rw [k1]; decide) (Or.inl (by rw [k1]; decide))
        refine fr (fun a w1 w2 w3 => ⟨φ, chn a w1 w2 w3⟩) (fun x hx h6 => ?_) (by rw [k1]; decide)
        rw [c5] at hx
        obtain ⟨kd, w1, w2⟩ := sg_mem h6 ks hx
        exact pick kd φ w1 chn x w2
      · have chn : ∀ a, n + 1 ≤ a → a < e → r.parent a = nI n → CHd r (k + 1) a φ := fun a _ _ hj => CH_no (by omega) hj hc (by rw [k1]; decide) (by rw [k1]; decide) (Or.inl (by rw [k1]; decide))
        refine fr (fun a w1 w2 w3 => ⟨φ, chn a w1 w2 w3⟩) (fun x hx h6 => ?_) (by rw [k1]; decide)
        rw [c3] at hx
        have hx : x ∈ rowT args φ ++ (a.1 φ ++ [(1, 4)]) := hx
        rcases List.mem_append.mp hx with w | w
        · obtain ⟨kd, w1, w2⟩ := row_mem h6 args w
          exact pick kd φ (by rw [c1]; exact List.mem_cons_of_mem _ w1) chn x w2
        · rcases List.mem_append.mp w with w | w
          · exact pick a φ (by rw [c1]; exact List.mem_cons_self) chn x w
          · exact absurd (one_mem h6 w) id
      · have chn : ∀ a, n + 1 ≤ a → a < e → r.parent a = nI n → CHd r (k + 1) a (ls :: φ) := fun a _ _ hj => CH_fr (by omega) hj hc (Or.inl ⟨k1, c3, c2, c4, c5⟩)
        refine fr (fun a w1 w2 w3 => ⟨_, chn a w1 w2 w3⟩) (fun x hx h6 => ?_) (by rw [k1]; decide)
        rw [c6] at hx
        exact pick a (ls :: φ) (by rw [c1]; exact List.mem_cons_self) chn x (bo_mem h6 hx)
      · skip
        have hlen : ls.length = args.length := by
          have := congrArg List.length c4
          rw [List.length_map, List.length_map] at this
          exact this.symm
        have hch := h1
        rw [c1] at hch
        have hch2 := cKL_ch (fun i m t w => cR_lt (tx := tx) (r := r) f i m t w.1) args a (n + 1) l e hch h2 (by omega)
        rw [c4] at hch2
        have hF : FRk r n ls := ⟨Or.inl k1, n + 1, by omega, h3, hch2, c5, by omega⟩
        obtain ⟨⟨e2, p1, p2⟩, is, q1, q2⟩ := hlk a args c1
        have cha : CHd r (k + 1) (n + 1) (ls :: φ) := CH_fr (by omega) p1.2 hc (Or.inr ⟨hF, Or.inr h3⟩)
        have cho : ∀ j, n + 1 < j → j < 100 → r.parent j = nI n → CHd r (k + 1) j φ := by
          intro j w1 w2 w3
          refine CH_no (by omega) w3 hc (by rw [k1]; decide) (by rw [k1]; decide) (Or.inr (fun q => ?_))
          have := nIj (by omega) (by omega) (h3.symm.trans q)
          omega
        have oth : ∀ x kd, kd ∈ args → x ∈ kd.1 φ → ∃ kd ∈ ks, ∃ a b φ2, n + 1 ≤ a ∧ b ≤ e ∧ (cR tx r f a b kd.1 ∧ r.parent a = nI n) ∧ CHd r (k + 1) a φ2 ∧ x ∈ kd.1 φ2 := by
          intro x kd hm hx
          obtain ⟨j, w0, e3, w1, w2⟩ := F2_mem args is q2 hm
          have := cR_lt f j e3 kd.1 w1.1
          exact ⟨kd, by rw [c1]; exact List.mem_cons_of_mem _ hm, j, e3, φ, by omega, w2, w1, cho j w0 (by omega) w1.2, hx⟩
        have own : ∀ x, x ∈ a.1 (ls :: φ) → ∃ kd ∈ ks, ∃ a b φ2, n + 1 ≤ a ∧ b ≤ e ∧ (cR tx r f a b kd.1 ∧ r.parent a = nI n) ∧ CHd r (k + 1) a φ2 ∧ x ∈ kd.1 φ2 := fun x hx => ⟨a, by rw [c1]; exact List.mem_cons_self, n + 1, e2, ls :: φ, Nat.le_refl _, p2, p1, cha, hx⟩
        refine fr (fun j w1 w2 w3 => ?_) (fun x hx h6 => ?_) (by rw [k1]; decide)
        · rcases Nat.lt_or_ge (n + 1) j with w | w
          · exact ⟨_, cho j w (by omega) w3⟩
          · obtain rfl : j = n + 1 := by omega
            exact ⟨_, cha⟩
        · rw [c6] at hx
          have hx : x ∈ rowT args φ ++ (boT a ls φ ++ [(1, 4)]) := hx
          rcases List.mem_append.mp hx with w | w
          · obtain ⟨kd, w1, w2⟩ := row_mem h6 args w
            exact oth x kd w1 w2
          · rcases List.mem_append.mp w with w | w
            · exact own x (bo_mem h6 w)
            · exact absurd (one_mem h6 w) id
      · skip
        have hlen : ls.length = args.length := by
          have := congrArg List.length c4
          rw [List.length_map, List.length_map] at this
          exact this.symm
        have hch := h1
        rw [c1] at hch
        have hch2 := cKL_ch (fun i m t w => cR_lt (tx := tx) (r := r) f i m t w.1) args a (n + 1) l e hch h2 (by omega)
        rw [c4] at hch2
        have hF : FRk r n ls := ⟨Or.inr k1, n + 1, by omega, h3, hch2, c5, by omega⟩
        obtain ⟨⟨e2, p1, p2⟩, is, q1, q2⟩ := hlk a args c1
        have cha : CHd r (k + 1) (n + 1) (ls :: φ) := CH_fr (by omega) p1.2 hc (Or.inr ⟨hF, Or.inr h3⟩)
        have cho : ∀ j, n + 1 < j → j < 100 → r.parent j = nI n → CHd r (k + 1) j (ls :: φ) := by
          intro j w1 w2 w3
          exact CH_fr (by omega) w3 hc (Or.inr ⟨hF, Or.inl k1⟩)
        have oth : ∀ x kd, kd ∈ args → x ∈ kd.1 (ls :: φ) → ∃ kd ∈ ks, ∃ a b φ2, n + 1 ≤ a ∧ b ≤ e ∧ (cR tx r f a b kd.1 ∧ r.parent a = nI n) ∧ CHd r (k + 1) a φ2 ∧ x ∈ kd.1 φ2 := by
          intro x kd hm hx
          obtain ⟨j, w0, e3, w1, w2⟩ := F2_mem args is q2 hm
          have := cR_lt f j e3 kd.1 w1.1
          exact ⟨kd, by rw [c1]; exact List.mem_cons_of_mem _ hm, j, e3, (ls :: φ), by omega, w2, w1, cho j w0 (by omega) w1.2, hx⟩
        have own : ∀ x, x ∈ a.1 (ls :: φ) → ∃ kd ∈ ks, ∃ a b φ2, n + 1 ≤ a ∧ b ≤ e ∧ (cR tx r f a b kd.1 ∧ r.parent a = nI n) ∧ CHd r (k + 1) a φ2 ∧ x ∈ kd.1 φ2 := fun x hx => ⟨a, by rw [c1]; exact List.mem_cons_self, n + 1, e2, ls :: φ, Nat.le_refl _, p2, p1, cha, hx⟩
        refine fr (fun j w1 w2 w3 => ?_) (fun x hx h6 => ?_) (by rw [k1]; decide)
        · rcases Nat.lt_or_ge (n + 1) j with w | w
          · exact ⟨_, cho j w (by omega) w3⟩
          · obtain rfl : j = n + 1 := by omega
            exact ⟨_, cha⟩
        · rw [c6] at hx
          have hx : x ∈ (1, 6) :: (rowT args (ls :: φ) ++ (boT a ls φ ++ [(1, 7)])) := hx
          rcases List.mem_cons.mp hx with hx | hx
          · rw [hx] at h6
            exact absurd h6 (by decide)
          rcases List.mem_append.mp hx with w | w
          · obtain ⟨kd, w1, w2⟩ := row_mem h6 args w
            exact oth x kd w1 w2
          · rcases List.mem_append.mp w with w | w
            · exact own x (bo_mem h6 w)
            · exact absurd (one_mem h6 w) id
end YH
section YH2
variable {cst : Nat → Option (Nat × (Nat → Int32))} {m b0 b1 : Nat} {op : Bool} {tl : List mj_O} {Q : mj_R → Prop} {s : cS} {r : rM} {K e : Nat}
set_option maxRecDepth 10000
end YH2
end
section
theorem gD_tl {tx : Nat → Nat} {X : Nat → Int32} {len : Nat} (hx : txOK X len tx) : ∀ (f : Nat) (b : Bool) (o d a : Nat) (D : TL) (a' : Nat), a ≤ len → gD tx f b o d a = .inl (D, a') → D.length + a ≤ a'
  | 0, b, o, d, a, D, a', _, h => by cases h
  | f + 1, false, o, d, a, D, a', ha, h => by
    have e0 : gD tx (f + 1) false o d a = if tx a = 40 then (if d + o < 9 then cns (4, 0) (gD tx f (decide (tx (a + 1) = 41)) (o + 1) d (a + 1)) else .inr a) else if cL (tx a) then cns (2, nI (tx a)) (gD tx f true o d (a + 1)) else if cD (tx (pA1 tx a)) then cns (1, pVal tx a) (gD tx f true o d (pDg tx 4 (pA1 tx a) 0).1) else .inr (pA1 tx a) := rfl
    have hlt := gD_pos hx h
    have sub : ∀ (x : Int32 × Int32) (b : Bool) (o d a2 : Nat), a < a2 → a2 ≤ len → cns x (gD tx f b o d a2) = .inl (D, a') → D.length + a ≤ a' := by
      intro x b o d a2 h1 h2 h
      obtain ⟨D2, q1, q2⟩ := cns_inv h
      have := gD_tl hx f b o d a2 D2 a' h2 q1
      rw [q2, List.length_cons]
      omega
    rw [e0] at h
    split at h
    · split at h
      · exact sub _ _ _ _ _ (by omega) (by omega) h
      · cases h
    · split at h
      · exact sub _ _ _ _ _ (by omega) (by omega) h
      · split at h
        · next hd =>
          obtain ⟨w1, w2, w3⟩ := num_len hx ha hd
          exact sub _ _ _ _ _ w1 w2 h
        · cases h
  | f + 1, true, 0, d, a, D, a', _, h => by
    have h : (Sum.inl ([], a) : (TL × Nat) ⊕ Nat) = .inl (D, a') := h
    cases h
    show 0 + a ≤ a
    omega
  | f + 1, true, o + 1, d, a, D, a', ha, h => by
    have e1 : gD tx (f + 1) true (o + 1) d a = if tx a = 41 then cns (5, 0) (gD tx f true o d (a + 1)) else if tx a = 32 then gD tx f false (o + 1) d (a + 1) else .inr a := rfl
    rw [e1] at h
    split at h
    · have hlt := hx.lt (a := a) (by omega)
      obtain ⟨D2, q1, q2⟩ := cns_inv h
      have := gD_tl hx f true o d (a + 1) D2 a' (by omega) q1
      rw [q2, List.length_cons]
      omega
    · split at h
      · have hlt := hx.lt (a := a) (by omega)
        have := gD_tl hx f false (o + 1) d (a + 1) D a' (by omega) h
        omega
      · cases h
def tot : List Kd → Fr → Nat
  | [], _ => 0
  | k :: ks, φ => (k.1 φ).length + tot ks φ
theorem tot_app : ∀ (A B : List Kd) (φ : Fr), tot (A ++ B) φ = tot A φ + tot B φ
  | [], B, φ => by show tot B φ = 0 + tot B φ; omega
  | k :: A, B, φ => by
    show (k.1 φ).length + tot (A ++ B) φ = (k.1 φ).length + tot A φ + tot B φ
    rw [tot_app A B φ]
    omega
theorem row_len : ∀ (ks : List Kd) (φ : Fr), (rowT ks φ).length = 2 + ks.length + tot ks φ
  | [], φ => rfl
  | k :: ks, φ => by
    show (rowT ks φ ++ (k.1 φ ++ [(1, 13)])).length = _
    rw [List.length_append, List.length_append, row_len ks φ, List.length_cons, List.length_cons, List.length_nil]
    show _ = 2 + (ks.length + 1) + ((k.1 φ).length + tot ks φ)
    omega
theorem lst_len (i : Int32) (t : Tau) (φ : Fr) : (lstT i t φ).length = (t φ).length + 3 := by
  unfold lstT
  rw [List.length_cons, List.length_append]
  rfl
theorem sg_len (c : Nat) (φ : Fr) : ∀ (ks : List Kd), (sgT c ks φ).length ≤ tot ks φ + 7
  | [] => Nat.zero_le _
  | [a] => by
    show (a.1 φ ++ [(1, cdO c)]).length ≤ (a.1 φ).length + 0 + 7
    rw [List.length_append, List.length_cons, List.length_nil]
    omega
  | [a, b] => by
    show (if c = 46 then b.1 φ ++ (a.1 φ ++ [(1, 13)]) else a.1 φ ++ (b.1 φ ++ [(1, cdO c)])).length ≤ (a.1 φ).length + ((b.1 φ).length + 0) + 7
    split
    · rw [List.length_append, List.length_append, List.length_cons, List.length_nil]
      omega
    · rw [List.length_append, List.length_append, List.length_cons, List.length_nil]
      omega
  | [a, b, d] => by
    show (a.1 φ ++ ((1, 8) :: (lstT 9 b.1 φ ++ lstT 9 d.1 φ))).length ≤ (a.1 φ).length + ((b.1 φ).length + ((d.1 φ).length + 0)) + 7
    rw [List.length_append, List.length_cons, List.length_append, lst_len, lst_len]
    omega
  | _ :: _ :: _ :: _ :: _ => Nat.zero_le _
theorem bo_len (a : Kd) (ls : List Nat) (φ : Fr) : (boT a ls φ).length = (a.1 (ls :: φ)).length + 4 := by
  unfold boT
  rw [List.length_cons, lst_len]
section YI
variable {tx : Nat → Nat} {X : Nat → Int32} {len : Nat}
def PE (pe : Nat → GR) : Prop := ∀ a t a', pe a = .inl (t, a') → a < a' ∧ ∀ φ, (t φ).length ≤ 11 * (a' - a)
theorem gCl_e {t t' : Tau} {a a' : Nat} (h : gCl tx t a = .inl (t', a')) : t' = t ∧ a' = a + 1 := by
  unfold gCl at h
  split at h
  · cases h
    exact ⟨rfl, rfl⟩
  · cases h
theorem gAr_len {pe : Nat → GR} (hp : PE pe) {c : Nat} : ∀ (k a : Nat) (ks : List Kd) (t : Tau) (a' : Nat), gAr tx pe c k a ks = .inl (t, a') → a < a' ∧ ∀ φ, (t φ).length ≤ tot ks φ + 11 * (a' - a)
  | 0, a, ks, t, a', h => by
    obtain ⟨rfl, rfl⟩ := gCl_e h
    refine ⟨by omega, fun φ => ?_⟩
    have := sg_len c φ ks
    omega
  | k + 1, a, ks, t, a', h => by
    unfold gAr at h
    split at h
    · cases hpe : pe (a + 1) with
      | inr e => rw [hpe] at h; cases h
      | inl q =>
        obtain ⟨t2, a2⟩ := q
        rw [hpe] at h
        obtain ⟨q1, q2⟩ := hp _ _ _ hpe
        obtain ⟨q3, q4⟩ := gAr_len hp k a2 (ks ++ [(t2, 0)]) t a' h
        refine ⟨by omega, fun φ => ?_⟩
        have w1 := q2 φ
        have w2 := q4 φ
        rw [tot_app] at w2
        have w2 : (t φ).length ≤ tot ks φ + ((t2 φ).length + 0) + 11 * (a' - a2) := w2
        omega
    · cases h
theorem gMo_len {pe : Nat → GR} (hp : PE pe) {hd : Kd} : ∀ (k a : Nat) (ks : List Kd) (t : Tau) (a' : Nat), k + ks.length = 3 → gMo tx pe hd k a ks = .inl (t, a') → a < a' ∧ ∀ φ, (t φ).length ≤ (hd.1 φ).length + tot ks φ + 11 * (a' - a)
  | k, a, ks, t, a', hk, h => by
    have fin : gCl tx (caT hd ks) a = .inl (t, a') → a < a' ∧ ∀ φ, (t φ).length ≤ (hd.1 φ).length + tot ks φ + 11 * (a' - a) := by
      intro h
      obtain ⟨rfl, rfl⟩ := gCl_e h
      refine ⟨by omega, fun φ => ?_⟩
      unfold caT
      rw [List.length_append, List.length_append, row_len, List.length_cons, List.length_nil]
      omega
    cases k with
    | zero => exact fin h
    | succ k =>
      unfold gMo at h
      split at h
      · cases hpe : pe (a + 1) with
        | inr e => rw [hpe] at h; cases h
        | inl q =>
          obtain ⟨t2, a2⟩ := q
          rw [hpe] at h
          obtain ⟨q1, q2⟩ := hp _ _ _ hpe
          obtain ⟨q3, q4⟩ := gMo_len hp k a2 (ks ++ [(t2, 0)]) t a' (by rw [List.length_append, List.length_cons, List.length_nil]; omega) h
          refine ⟨by omega, fun φ => ?_⟩
          have w1 := q2 φ
          have w2 := q4 φ
          rw [tot_app] at w2
          have w2 : (t φ).length ≤ (hd.1 φ).length + (tot ks φ + ((t2 φ).length + 0)) + 11 * (a' - a2) := w2
          omega
      · exact fin h
theorem gLs_len : ∀ (k a : Nat) (ls ls' : List Nat) (a' : Nat), gLs tx k a ls = .inl (ls', a') → a < a'
  | 0, a, ls, ls', a', h => by cases h
  | k + 1, a, ls, ls', a', h => by
    unfold gLs at h
    split at h
    · split at h
      · have := gLs_len k _ _ _ _ h
        omega
      · split at h
        · split at h
          · cases h
            omega
          · cases h
        · cases h
    · cases h
theorem gPa_len {d a : Nat} {ls : List Nat} {a' : Nat} (h : gPa tx d a = .inl (ls, a')) : a < a' := by
  unfold gPa at h
  split at h
  · split at h
    · split at h
      · have := gLs_len _ _ _ _ _ h
        omega
      · split at h
        · split at h
          · cases h
            omega
          · cases h
        · cases h
    · cases h
  · cases h
theorem gBi_len {pe : Nat → GR} (hp : PE pe) {rc : Bool} {d : Nat} {hd : Kd} {H : Nat} (hH : ∀ φ, (hd.1 φ).length ≤ H) : ∀ (k a : Nat) (ks : List Kd) (bs : List Nat) (B : Nat) (t : Tau) (a' : Nat), k + ks.length = 2 → (∀ φ, tot ks φ ≤ B) → gBi tx pe rc d (fiN rc hd) k a ks bs = .inl (t, a') → a < a' ∧ ∀ φ, (t φ).length ≤ H + B + 11 * (a' - a)
  | k, a, ks, bs, B, t, a', hk, hB, h => by
    rw [gBi_e, gB1_e] at h
    cases h0 : gB0 tx rc d a bs with
    | some e => rw [h0] at h; cases h
    | none =>
      rw [h0] at h
      cases hpe : pe (a + 1 + 1 + 1) with
      | inr e => simp only [hpe] at h; cases h
      | inl q =>
        obtain ⟨t2, a2⟩ := q
        simp only [hpe] at h
        obtain ⟨q1, q2⟩ := hp _ _ _ hpe
        split at h
        · have hB2 : ∀ φ, tot (ks ++ [(t2, nI (tx (a + 1)))]) φ ≤ B + 11 * (a2 - (a + 1 + 1 + 1)) := by
            intro φ
            rw [tot_app]
            have := hB φ
            have := q2 φ
            show tot ks φ + ((t2 φ).length + 0) ≤ _
            omega
          have fin : gCl tx (fiN rc hd (ks ++ [(t2, nI (tx (a + 1)))]) (bs ++ [tx (a + 1)])) (a2 + 1) = .inl (t, a') → a < a' ∧ ∀ φ, (t φ).length ≤ H + B + 11 * (a' - a) := by
            intro h
            obtain ⟨rfl, rfl⟩ := gCl_e h
            refine ⟨by omega, fun φ => ?_⟩
            have hl : (ks ++ [(t2, nI (tx (a + 1)))]).length ≤ 3 := by rw [List.length_append, List.length_cons, List.length_nil]; omega
            cases rc with
            | false =>
              show (leT hd (ks ++ [(t2, nI (tx (a + 1)))]) (bs ++ [tx (a + 1)]) φ).length ≤ _
              unfold leT
              rw [List.length_append, List.length_append, row_len, bo_len, List.length_cons, List.length_nil]
              have := hB2 φ
              have := hH ((bs ++ [tx (a + 1)]) :: φ)
              omega
            | true =>
              show (reT hd (ks ++ [(t2, nI (tx (a + 1)))]) (bs ++ [tx (a + 1)]) φ).length ≤ _
              unfold reT
              rw [List.length_cons, List.length_append, List.length_append, row_len, bo_len, List.length_cons, List.length_nil]
              have := hB2 ((bs ++ [tx (a + 1)]) :: φ)
              have := hH ((bs ++ [tx (a + 1)]) :: φ)
              omega
          cases k with
          | zero => exact fin h
          | succ k =>
            have h : (if tx (a2 + 1) = 32 then gBi tx pe rc d (fiN rc hd) k (a2 + 1 + 1) (ks ++ [(t2, nI (tx (a + 1)))]) (bs ++ [tx (a + 1)]) else gCl tx (fiN rc hd (ks ++ [(t2, nI (tx (a + 1)))]) (bs ++ [tx (a + 1)])) (a2 + 1)) = .inl (t, a') := h
            split at h
            · obtain ⟨q3, q4⟩ := gBi_len hp hH k (a2 + 1 + 1) _ _ _ t a' (by rw [List.length_append, List.length_cons, List.length_nil]; omega) hB2 h
              refine ⟨by omega, fun φ => ?_⟩
              have := q4 φ
              omega
            · exact fin h
        · cases h
theorem gEx_len (hx : txOK X len tx) : ∀ (f d : Nat), PE (gEx tx f d)
  | 0, d => fun a t a' h => by cases h
  | f + 1, d => by
    intro a t a' h
    have p1 := gEx_len hx f (d + 1)
    have p2 := gEx_len hx f (d + 2)
    have e0 : gEx tx (f + 1) d a = if cL (tx a) then .inl (fun φ => [(1, 2), (6, lkF (tx a) φ 0)], a + 1) else if tx a = 39 then (match gD tx 200 false 0 d (a + 1) with | .inr e => .inr e | .inl (D, a2) => .inl (fun _ => (1, 1) :: D, a2)) else if tx a = 40 then (if d < 9 then gBr tx (gEx tx f (d + 1)) (gEx tx f (d + 2)) (d + 1) (a + 1) else .inr a) else if cD (tx (pA1 tx a)) then .inl (fun _ => [(1, 1), (1, pVal tx a)], (pDg tx 4 (pA1 tx a) 0).1) else .inr (pA1 tx a) := rfl
    rw [e0] at h
    split at h
    · cases h
      exact ⟨by omega, fun φ => by show 2 ≤ _; omega⟩
    · split at h
      · cases hg : gD tx 200 false 0 d (a + 1) with
        | inr e => rw [hg] at h; cases h
        | inl q =>
          obtain ⟨D, a2⟩ := q
          rw [hg] at h
          cases h
          have hp := gD_pos hx hg
          have := gD_tl hx 200 false 0 d (a + 1) D a' (by omega) hg
          exact ⟨by omega, fun φ => by show D.length + 1 ≤ _; omega⟩
      · split at h
        · split at h
          · unfold gBr at h
            split at h
            · unfold gSg at h
              split at h
              · cases hpe : gEx tx f (d + 1) (a + 1 + 1 + 1) with
                | inr e => rw [hpe] at h; cases h
                | inl q =>
                  obtain ⟨t2, a2⟩ := q
                  rw [hpe] at h
                  obtain ⟨q1, q2⟩ := p1 _ _ _ hpe
                  obtain ⟨q3, q4⟩ := gAr_len p1 _ _ _ _ _ h
                  refine ⟨by omega, fun φ => ?_⟩
                  have w1 := q2 φ
                  have w2 : (t φ).length ≤ ((t2 φ).length + 0) + 11 * (a' - a2) := q4 φ
                  omega
              · cases h
            · split at h
              · unfold gBo at h
                cases hg : gPa tx (d + 1) (a + 1 + 1) with
                | inr e => rw [hg] at h; cases h
                | inl q =>
                  obtain ⟨ls, a1⟩ := q
                  rw [hg] at h
                  have hl := gPa_len hg
                  cases hpe : gEx tx f (d + 1) a1 with
                  | inr e => simp only [hpe] at h; cases h
                  | inl q =>
                    obtain ⟨t2, a2⟩ := q
                    simp only [hpe] at h
                    obtain ⟨q1, q2⟩ := p1 _ _ _ hpe
                    obtain ⟨rfl, rfl⟩ := gCl_e h
                    refine ⟨by omega, fun φ => ?_⟩
                    rw [bo_len]
                    have := q2 (ls :: φ)
                    show (t2 (ls :: φ)).length + 4 ≤ _
                    omega
              · split at h
                · unfold gLe at h
                  split at h
                  · cases hpe : gEx tx f (d + 1) (a + 1 + 1 + 1) with
                    | inr e => rw [hpe] at h; cases h
                    | inl q =>
                      obtain ⟨t2, a2⟩ := q
                      rw [hpe] at h
                      obtain ⟨q1, q2⟩ := p1 _ _ _ hpe
                      have h : (if tx a2 = 32 then gBi tx (gEx tx f (d + 2)) (decide (tx (a + 1) = 59)) (d + 1) (fiN (decide (tx (a + 1) = 59)) (t2, 0)) 2 (a2 + 1) [] [] else .inr a2) = .inl (t, a') := h
                      split at h
                      · obtain ⟨q3, q4⟩ := gBi_len p2 (hd := (t2, 0)) (H := 11 * (a2 - (a + 1 + 1 + 1))) q2 2 (a2 + 1) [] [] 0 t a' rfl (fun φ => Nat.le_refl _) h
                        refine ⟨by omega, fun φ => ?_⟩
                        have := q4 φ
                        omega
                      · cases h
                  · cases h
                · unfold gCa at h
                  cases hpe : gEx tx f (d + 1) (a + 1) with
                  | inr e => rw [hpe] at h; cases h
                  | inl q =>
                    obtain ⟨t2, a2⟩ := q
                    rw [hpe] at h
                    obtain ⟨q1, q2⟩ := p1 _ _ _ hpe
                    obtain ⟨q3, q4⟩ := gMo_len p1 3 a2 [] t a' rfl h
                    refine ⟨by omega, fun φ => ?_⟩
                    have w1 := q2 φ
                    have w2 : (t φ).length ≤ (t2 φ).length + 0 + 11 * (a' - a2) := q4 φ
                    omega
          · cases h
        · split at h
          · next hd =>
            cases h
            have hl : a < len ∨ ¬ a < len := Nat.lt_or_ge a len |>.imp id (fun w => by omega)
            rcases hl with w | w
            · obtain ⟨w1, w2, w3⟩ := num_len hx (Nat.le_of_lt w) hd
              exact ⟨w1, fun φ => by show 2 ≤ _; omega⟩
            · have e1 : tx a = 0 := hx.2.2 a (by omega)
              have e2 : pA1 tx a = a := if_neg (by omega)
              rw [e2, e1] at hd
              exact absurd hd (by decide)
          · cases h
end YI
end
section
abbrev LSt : Type := (Nat → Vl) × (Nat → Vl) × (Nat → Prop) × Vl × List Vl
def ro0 : Nat → Bool := fun _ => false
theorem upW_ro0 (n : Nat) : upW ro0 n false = ro0 := by
  funext i
  unfold upW ro0
  split <;> rfl
def hvT (t : Int32 × Int32) : Vl := if t.1 = 0 then vNil else if t.1 = 2 then vSym t.2 else vInt t.2
def newL (a : LSt) (k : Nat) (h t : Vl) (ps : List Vl) : LSt := (upW a.1 k h, upW a.2.1 k t, addU a.2.2.1 k, vPr k, ps)
def L1 (t : Int32 × Int32) (a b : LSt) : Prop :=
    (t.1 = 5 ∧ b = (a.1, a.2.1, a.2.2.1, vNil, a.2.2.2.1 :: a.2.2.2.2))
  ∨ (t.1 = 4 ∧ ∃ P ps k, a.2.2.2.2 = P :: ps ∧ ¬ a.2.2.1 k ∧ b = newL a k a.2.2.2.1 P ps)
  ∨ (¬ t.1 = 5 ∧ ¬ t.1 = 4 ∧ ∃ k, ¬ a.2.2.1 k ∧ b = newL a k (hvT t) a.2.2.2.1 a.2.2.2.2)
def LY : TL → LSt → LSt → Prop
  | [], a, b => a = b
  | t :: T, a, b => ∃ c, LY T a c ∧ L1 t c b
theorem LY_app : ∀ (A B : TL) (a b : LSt), LY (A ++ B) a b → ∃ c, LY B a c ∧ LY A c b
  | [], B, a, b, h => ⟨b, h, rfl⟩
  | t :: A, B, a, b, ⟨c, h1, h2⟩ => by
    obtain ⟨d, h3, h4⟩ := LY_app A B a c h1
    exact ⟨d, h3, c, h4, h2⟩
theorem LY_one {t : Int32 × Int32} {a b : LSt} (h : LY [t] a b) : L1 t a b := by
  obtain ⟨c, h1, h2⟩ := h
  have h1 : a = c := h1
  rw [h1]
  exact h2
def GDl (a : LSt) : Prop := SI a.1 a.2.1 ro0 a.2.2.1 ∧ (inU a.2.2.1 a.2.2.2.1 ∧ isL_ a.2.2.2.1) ∧ ∀ P ∈ a.2.2.2.2, inU a.2.2.1 P ∧ isL_ P
def XT (a b : LSt) : Prop := Ext a.2.2.1 a.1 a.2.1 ro0 b.1 b.2.1 ro0 ∧ ∀ x, a.2.2.1 x → b.2.2.1 x
theorem XT_rfl (a : LSt) : XT a a := ⟨fun i _ => ⟨rfl, rfl, fun _ => rfl⟩, fun x h => h⟩
theorem XT_tr {a b c : LSt} (h1 : XT a b) (h2 : XT b c) : XT a c := by
  refine ⟨fun i hi => ?_, fun x h => h2.2 x (h1.2 x h)⟩
  obtain ⟨p1, p2, p3⟩ := h1.1 i hi
  obtain ⟨q1, q2, q3⟩ := h2.1 i (h1.2 i hi)
  exact ⟨q1.trans p1, q2.trans p2, fun w => (q3 (p2.trans w)).trans (p3 w)⟩
theorem isL_gF {H T : Nat → Vl} {ro : Nat → Bool} {v : Vl} (h : isL_ v) : gF H T ro v := by
  rcases h with rfl | ⟨a, rfl⟩
  · exact gF_nil
  · exact gF_pr
theorem hv_ok {H T : Nat → Vl} {ro : Nat → Bool} {U : Nat → Prop} (t : Int32 × Int32) : inU U (hvT t) ∧ gF H T ro (hvT t) := by
  unfold hvT
  split
  · exact ⟨nil_inU, gF_nil⟩
  · split
    · exact ⟨fun b e => (by cases e), fun f e => (by cases e)⟩
    · exact ⟨int_inU, gF_int⟩
theorem new_gd {a : LSt} {k : Nat} {h t : Vl} {ps : List Vl} (ha : GDl a) (hk : ¬ a.2.2.1 k) (h1 : inU a.2.2.1 h ∧ gF a.1 a.2.1 ro0 h) (h2 : inU a.2.2.1 t ∧ isL_ t) (h3 : ∀ P ∈ ps, inU a.2.2.1 P ∧ isL_ P) : GDl (newL a k h t ps) ∧ XT a (newL a k h t ps) := by
  have hs := SI_new (b := false) ha.1 hk h1.1 h2.1 h1.2 (isL_gF h2.2) (fun q => by cases q)
  have hx := Ext_new (H := a.1) (T := a.2.1) (ro := ro0) (h := h) (t := t) (b := false) hk
  rw [upW_ro0] at hs hx
  exact ⟨⟨hs, ⟨pr_inU new_in, Or.inr ⟨k, rfl⟩⟩, fun P hP => ⟨in_new (h3 P hP).1, (h3 P hP).2⟩⟩, hx, fun x hx => Or.inl hx⟩
theorem L1_gd {t : Int32 × Int32} {a b : LSt} (ha : GDl a) (h : L1 t a b) : GDl b ∧ XT a b := by
  rcases h with ⟨-, rfl⟩ | ⟨-, P, ps, k, e, hk, rfl⟩ | ⟨-, -, k, hk, rfl⟩
  · refine ⟨⟨ha.1, ⟨nil_inU, Or.inl rfl⟩, fun P hP => ?_⟩, fun i _ => ⟨rfl, rfl, fun _ => rfl⟩, fun x h => h⟩
    have hP : P ∈ a.2.2.2.1 :: a.2.2.2.2 := hP
    rcases List.mem_cons.mp hP with w | w
    · rw [w]
      exact ha.2.1
    · exact ha.2.2 P w
  · refine new_gd ha hk ⟨ha.2.1.1, isL_gF ha.2.1.2⟩ ?_ (fun P2 hP => ?_)
    · exact ha.2.2 P (by rw [e]; exact List.mem_cons_self)
    · exact ha.2.2 P2 (by rw [e]; exact List.mem_cons_of_mem _ hP)
  · exact new_gd ha hk (hv_ok t) ha.2.1 ha.2.2
theorem LY_gd : ∀ (T : TL) (a b : LSt), GDl a → LY T a b → GDl b ∧ XT a b
  | [], a, b, ha, h => by
    have h : a = b := h
    subst h
    exact ⟨ha, XT_rfl a⟩
  | t :: T, a, b, ha, ⟨c, h1, h2⟩ => by
    obtain ⟨g1, g2⟩ := LY_gd T a c ha h1
    obtain ⟨g3, g4⟩ := L1_gd g1 h2
    exact ⟨g3, XT_tr g2 g4⟩
def WTl (a : LSt) (v : Vl) (k : Sk) (n : Nat) (b : Bool) (e : En) : Prop := wtx a.1 a.2.1 ro0 v k n b e
theorem WT_x {a b : LSt} {v : Vl} {k : Sk} {n : Nat} {β : Bool} {e : En} (ha : GDl a) (hx : XT a b) (hv : inU a.2.2.1 v) (h : WTl a v k n β e) : WTl b v k n β e := wtx_ext ha.1 hx.1 hv h
theorem wt_le {H T : Nat → Vl} {ro : Nat → Bool} {v : Vl} {k : Sk} {n : Nat} {b : Bool} {e : En} {f : Nat} (h : wt H T ro f v k n b e) : ∀ j, wt H T ro (f + j) v k n b e
  | 0 => h
  | j + 1 => wt_mono _ _ _ _ _ _ (wt_le h j)
theorem WT_b {a : LSt} {v : Vl} {k : Sk} {n : Nat} (β : Bool) {e : En} (h : WTl a v k n false e) : WTl a v k n β e := by
  obtain ⟨f, h⟩ := h
  exact ⟨f, wt_b f _ _ _ _ _ h⟩
theorem L1_int {v : Int32} {a b : LSt} (ha : GDl a) (h : L1 (1, v) a b) : ∃ c, b.2.2.2.1 = vPr c ∧ b.1 c = vInt v ∧ b.2.1 c = a.2.2.2.1 ∧ b.2.2.2.2 = a.2.2.2.2 ∧ GDl b ∧ XT a b := by
  obtain ⟨g1, g2⟩ := L1_gd ha h
  rcases h with ⟨q, -⟩ | ⟨q, -⟩ | ⟨-, -, k, hk, rfl⟩
  · exact absurd (show (1 : Int32) = 5 from q) (by decide)
  · exact absurd (show (1 : Int32) = 4 from q) (by decide)
  · exact ⟨k, rfl, if_pos rfl, if_pos rfl, rfl, g1, g2⟩
section YJ
variable {a b : LSt} {k : Sk} {n : Nat} {e : En} {i : Int32}
theorem op_wt (ha : GDl a) (h : L1 (1, i) a b) {k0 : Sk} {n0 : Nat} {β : Bool} {e0 : En} (hw : ∀ c f, wt b.1 b.2.1 ro0 f (b.2.1 c) k n false e → b.2.1 c = a.2.2.2.1 → b.1 c = vInt i → wt b.1 b.2.1 ro0 (f + 1) (vPr c) k0 n0 β e0) (hk : WTl a a.2.2.2.1 k n false e) : WTl b b.2.2.2.1 k0 n0 β e0 ∧ b.2.2.2.2 = a.2.2.2.2 := by
  obtain ⟨c, q1, q2, q3, q4, q5, q6⟩ := L1_int ha h
  obtain ⟨f, hf⟩ := WT_x ha q6 ha.2.1.1 hk
  refine ⟨?_, q4⟩
  rw [q1]
  refine ⟨f + 1, hw c f ?_ q3 q2⟩
  rw [q3]
  exact hf
theorem o_4 (ha : GDl a) (h : L1 (1, 4) a b) (hk : WTl a a.2.2.2.1 (false :: k) n false e) : WTl b b.2.2.2.1 (false :: true :: k) n false e ∧ b.2.2.2.2 = a.2.2.2.2 :=
  op_wt ha h (fun c f hw _ hi => ⟨c, 4, rfl, rfl, hi, Or.inr (Or.inr (Or.inr (Or.inl ⟨rfl, false, k, rfl, hw⟩)))⟩) hk
theorem o_6 (ha : GDl a) (h : L1 (1, 6) a b) (hk : WTl a a.2.2.2.1 k (n + 1) false e) : WTl b b.2.2.2.1 k n false e ∧ b.2.2.2.2 = a.2.2.2.2 :=
  op_wt ha h (fun c f hw _ hi => ⟨c, 6, rfl, rfl, hi, Or.inr (Or.inr (Or.inr (Or.inr (Or.inr (Or.inl ⟨rfl, hw⟩)))))⟩) hk
theorem o_7 (ha : GDl a) (h : L1 (1, 7) a b) (hk : WTl a a.2.2.2.1 (false :: k) n false e) : WTl b b.2.2.2.1 (false :: true :: k) (n + 1) true e ∧ b.2.2.2.2 = a.2.2.2.2 :=
  op_wt ha h (fun c f hw _ hi => ⟨c, 7, rfl, rfl, hi, Or.inr (Or.inr (Or.inr (Or.inr (Or.inr (Or.inr (Or.inl ⟨rfl, false, k, rfl, by omega, rfl, hw⟩))))))⟩) hk
theorem o_1 (ha : GDl a) (hi : i = 10 ∨ i = 11 ∨ i = 12) (h : L1 (1, i) a b) (hk : WTl a a.2.2.2.1 (false :: k) n false e) : WTl b b.2.2.2.1 (false :: k) n false e ∧ b.2.2.2.2 = a.2.2.2.2 :=
  op_wt ha h (fun c f hw _ hh => ⟨c, i, rfl, rfl, hh, Or.inr (Or.inr (Or.inr (Or.inr (Or.inr (Or.inr (Or.inr (Or.inr (Or.inr (Or.inl ⟨hi, false, k, rfl, hw⟩)))))))))⟩) hk
theorem o_2 (ha : GDl a) (hi : i = 13 ∨ i = 14 ∨ i = 15 ∨ i = 16 ∨ i = 17 ∨ i = 18) (h : L1 (1, i) a b) (hk : WTl a a.2.2.2.1 (false :: k) n false e) : WTl b b.2.2.2.1 (false :: false :: k) n false e ∧ b.2.2.2.2 = a.2.2.2.2 :=
  op_wt ha h (fun c f hw _ hh => ⟨c, i, rfl, rfl, hh, Or.inr (Or.inr (Or.inr (Or.inr (Or.inr (Or.inr (Or.inr (Or.inr (Or.inr (Or.inr (Or.inl ⟨hi, false, false, false, k, rfl, fun q => (by cases q), hw⟩))))))))))⟩) hk
theorem o_13 (ha : GDl a) (h : L1 (1, 13) a b) (hk : WTl a a.2.2.2.1 (true :: k) n false e) : WTl b b.2.2.2.1 (false :: true :: k) n false e ∧ b.2.2.2.2 = a.2.2.2.2 :=
  op_wt ha h (fun c f hw _ hh => ⟨c, 13, rfl, rfl, hh, Or.inr (Or.inr (Or.inr (Or.inr (Or.inr (Or.inr (Or.inr (Or.inr (Or.inr (Or.inr (Or.inl ⟨Or.inl rfl, false, true, true, k, rfl, fun _ => ⟨rfl, rfl⟩, hw⟩))))))))))⟩) hk
theorem end_wt (ha : GDl a) (h : L1 (1, i) a b) {k0 : Sk} {n0 : Nat} {e0 : En} (hw : ∀ c, b.1 c = vInt i → wt b.1 b.2.1 ro0 1 (vPr c) k0 n0 false e0) : WTl b b.2.2.2.1 k0 n0 false e0 ∧ b.2.2.2.2 = a.2.2.2.2 := by
  obtain ⟨c, q1, q2, q3, q4, q5, q6⟩ := L1_int ha h
  refine ⟨?_, q4⟩
  rw [q1]
  exact ⟨1, hw c q2⟩
theorem o_5 (ha : GDl a) (h : L1 (1, 5) a b) : WTl b b.2.2.2.1 [false] 1 false eRet ∧ b.2.2.2.2 = a.2.2.2.2 :=
  end_wt ha h (fun c hh => ⟨c, 5, rfl, rfl, hh, Or.inr (Or.inr (Or.inr (Or.inr (Or.inl ⟨rfl, false, [], rfl, rfl⟩))))⟩)
theorem o_9 (ha : GDl a) (h : L1 (1, 9) a b) : WTl b b.2.2.2.1 (false :: k) n false (eJoin (false :: k) n) ∧ b.2.2.2.2 = a.2.2.2.2 :=
  end_wt ha h (fun c hh => ⟨c, 9, rfl, rfl, hh, Or.inr (Or.inr (Or.inr (Or.inr (Or.inr (Or.inr (Or.inr (Or.inr (Or.inl ⟨rfl, rfl⟩))))))))⟩)
theorem o_19 (ha : GDl a) (h : L1 (1, 19) a b) : WTl b b.2.2.2.1 [false] 0 false eStop ∧ b.2.2.2.2 = a.2.2.2.2 :=
  end_wt ha h (fun c hh => ⟨c, 19, rfl, rfl, hh, Or.inr (Or.inr (Or.inr (Or.inr (Or.inr (Or.inr (Or.inr (Or.inr (Or.inr (Or.inr (Or.inr ⟨rfl, false, [], rfl, rfl⟩))))))))))⟩)
end YJ
def LTy (T : TL) : Prop := ∀ a b, GDl a → LY T a b → b.2.2.2.2 = a.2.2.2.2 ∧ ∀ k n e, WTl a a.2.2.2.1 (false :: k) n false e → WTl b b.2.2.2.1 k n false e
theorem lst_wt {i : Int32} {t : Tau} {φ : Fr} {a b : LSt} (ha : GDl a) (h : LY (lstT i t φ) a b) (ht : LTy (t φ)) {k1 : Sk} {n1 : Nat} {e1 : En} (hi : ∀ a' b', GDl a' → L1 (1, i) a' b' → WTl b' b'.2.2.2.1 (false :: k1) n1 false e1 ∧ b'.2.2.2.2 = a'.2.2.2.2) : ∃ c, b.2.2.2.1 = vPr c ∧ b.2.1 c = a.2.2.2.1 ∧ WTl b (b.1 c) k1 n1 false e1 ∧ b.2.2.2.2 = a.2.2.2.2 ∧ GDl b ∧ XT a b := by
  obtain ⟨gb, xb⟩ := LY_gd _ _ _ ha h
  obtain ⟨d, h1, h2⟩ := h
  obtain ⟨a2, h3, h4⟩ := LY_app _ _ _ _ h1
  obtain ⟨a1, h5, h6⟩ := h3
  have h5 := LY_one h5
  obtain ⟨g1, x1⟩ := L1_gd ha h5
  obtain ⟨g2, x2⟩ := L1_gd g1 h6
  obtain ⟨g3, x3⟩ := LY_gd _ _ _ g2 h4
  obtain ⟨w1, w2⟩ := hi a1 a2 g1 h6
  obtain ⟨w3, w4⟩ := ht a2 d g2 h4
  have w5 := w4 k1 n1 e1 w1
  rcases h5 with ⟨-, rfl⟩ | ⟨q, -⟩ | ⟨q, -⟩
  · have ep : d.2.2.2.2 = a.2.2.2.1 :: a.2.2.2.2 := w3.trans w2
    obtain ⟨g4, x4⟩ := L1_gd g3 h2
    rcases h2 with ⟨q, -⟩ | ⟨-, P, ps, c, e, hc, rfl⟩ | ⟨-, q, -⟩
    · exact absurd (show (4 : Int32) = 5 from q) (by decide)
    · rw [ep] at e
      injection e with e1 e2
      have eh : (newL d c d.2.2.2.1 P ps).1 c = d.2.2.2.1 := if_pos rfl
      have et : (newL d c d.2.2.2.1 P ps).2.1 c = P := if_pos rfl
      refine ⟨c, rfl, et.trans e1.symm, ?_, e2.symm, gb, xb⟩
      rw [eh]
      exact WT_x g3 x4 g3.2.1.1 w5
    · exact absurd rfl q
  · exact absurd (show (5 : Int32) = 4 from q) (by decide)
  · exact absurd rfl q
end
section
theorem L1_at {t : Int32 × Int32} {a b : LSt} (ha : GDl a) (h5 : ¬ t.1 = 5) (h4 : ¬ t.1 = 4) (h : L1 t a b) : ∃ c, b.2.2.2.1 = vPr c ∧ b.1 c = hvT t ∧ b.2.1 c = a.2.2.2.1 ∧ b.2.2.2.2 = a.2.2.2.2 ∧ GDl b ∧ XT a b := by
  obtain ⟨g1, g2⟩ := L1_gd ha h
  rcases h with ⟨q, -⟩ | ⟨q, -⟩ | ⟨-, -, k, hk, rfl⟩
  · exact absurd q h5
  · exact absurd q h4
  · exact ⟨k, rfl, if_pos rfl, if_pos rfl, rfl, g1, g2⟩
theorem const_wt {a c b : LSt} {d : Nat} {t : Bool} {k : Sk} {n : Nat} {e : En} (ha : GDl a) (gc : GDl c) (xc : XT a c) (e1 : c.2.2.2.1 = vPr d) (e2 : c.2.1 d = a.2.2.2.1) (hv : t = true → c.1 d = vNil) (h : L1 (1, 1) c b) (hw : WTl a a.2.2.2.1 (t :: k) n false e) : WTl b b.2.2.2.1 k n false e ∧ b.2.2.2.2 = c.2.2.2.2 := by
  obtain ⟨c0, q1, q2, q3, q4, q5, q6⟩ := L1_int gc h
  have ud : c.2.2.1 d := inU_pr (by rw [← e1]; exact gc.2.1.1)
  obtain ⟨y1, -, y3⟩ := q6.1 d ud
  obtain ⟨f, hf⟩ := WT_x ha (XT_tr xc q6) ha.2.1.1 hw
  refine ⟨?_, q4⟩
  rw [q1]
  refine ⟨f + 1, c0, 1, rfl, rfl, q2, Or.inl ⟨rfl, d, t, q3.trans e1, rfl, fun w => (y3 rfl).trans (hv w), ?_⟩⟩
  rw [y1, e2]
  exact hf
def LDy (D : TL) : Prop := ∀ a b, GDl a → LY D a b → b.2.2.2.2 = a.2.2.2.2 ∧ ∃ d, b.2.2.2.1 = vPr d ∧ b.2.1 d = a.2.2.2.1
def SDy (b : Bool) : Nat → TL → Prop
  | 0, D => if b = true then D = [] else LDy D
  | o + 1, D => ∀ x y, GDl x → LY D x y → ∃ xs : List Vl, xs.length = o ∧ y.2.2.2.2 = xs ++ (x.2.2.2.1 :: x.2.2.2.2)
theorem SDy_b {o : Nat} {D : TL} {b b' : Bool} (h : SDy b (o + 1) D) : SDy b' (o + 1) D := h
theorem SD_atom {t : Int32 × Int32} (h5 : ¬ t.1 = 5) (h4 : ¬ t.1 = 4) {D : TL} : ∀ {o : Nat}, SDy true o D → SDy false o (t :: D)
  | 0, h => by
    have h : D = [] := h
    subst h
    intro a b ha hl
    obtain ⟨c, q1, q2, q3, q4, -⟩ := L1_at ha h5 h4 (LY_one hl)
    exact ⟨q4, c, q1, q3⟩
  | o + 1, h => by
    intro x y gx hl
    obtain ⟨c, h1, h2⟩ := hl
    obtain ⟨g1, x1⟩ := LY_gd _ _ _ gx h1
    obtain ⟨xs, q1, q2⟩ := h x c gx h1
    obtain ⟨-, -, -, -, q4, -⟩ := L1_at g1 h5 h4 h2
    exact ⟨xs, q1, q4.trans q2⟩
theorem SD_open {D : TL} {b : Bool} {o : Nat} (h : SDy b (o + 1) D) : SDy false o ((4, 0) :: D) := by
  have key : ∀ x y, GDl x → LY ((4, 0) :: D) x y → ∃ xs : List Vl, xs.length = o ∧ ∃ c P ps k, xs ++ (x.2.2.2.1 :: x.2.2.2.2) = P :: ps ∧ y = newL c k c.2.2.2.1 P ps := by
    intro x y gx hl
    obtain ⟨c, h1, h2⟩ := hl
    obtain ⟨xs, q1, q2⟩ := h x c gx h1
    rcases h2 with ⟨q, -⟩ | ⟨-, P, ps, k, e, hk, rfl⟩ | ⟨-, q, -⟩
    · exact absurd (show (4 : Int32) = 5 from q) (by decide)
    · exact ⟨xs, q1, c, P, ps, k, q2.symm.trans e, rfl⟩
    · exact absurd rfl q
  cases o with
  | zero =>
    intro a b ha hl
    obtain ⟨xs, q1, c, P, ps, k, q2, rfl⟩ := key a b ha hl
    have : xs = [] := List.length_eq_zero_iff.mp q1
    subst this
    injection q2 with e1 e2
    exact ⟨e2.symm, k, rfl, (if_pos rfl : upW c.2.1 k P k = P).trans e1.symm⟩
  | succ o =>
    intro x y gx hl
    obtain ⟨xs, q1, c, P, ps, k, q2, rfl⟩ := key x y gx hl
    cases xs with
    | nil => cases q1
    | cons x0 xs =>
      injection q2 with e1 e2
      exact ⟨xs, by rw [List.length_cons] at q1; omega, e2.symm⟩
theorem SD_close {D : TL} : ∀ {o : Nat}, SDy true o D → SDy true (o + 1) ((5, 0) :: D)
  | 0, h => by
    have h : D = [] := h
    subst h
    intro x y gx hl
    rcases LY_one hl with ⟨-, rfl⟩ | ⟨q, -⟩ | ⟨q, -⟩
    · exact ⟨[], rfl, rfl⟩
    · exact absurd (show (5 : Int32) = 4 from q) (by decide)
    · exact absurd rfl q
  | o + 1, h => by
    intro x y gx hl
    obtain ⟨c, h1, h2⟩ := hl
    obtain ⟨xs, q1, q2⟩ := h x c gx h1
    rcases h2 with ⟨-, rfl⟩ | ⟨q, -⟩ | ⟨q, -⟩
    · refine ⟨c.2.2.2.1 :: xs, by rw [List.length_cons, q1], ?_⟩
      show c.2.2.2.1 :: c.2.2.2.2 = _
      rw [q2]
      rfl
    · exact absurd (show (5 : Int32) = 4 from q) (by decide)
    · exact absurd rfl q
theorem gD_sd {tx : Nat → Nat} : ∀ (f : Nat) (b : Bool) (o d a : Nat) (D : TL) (a' : Nat), gD tx f b o d a = .inl (D, a') → SDy b o D
  | 0, b, o, d, a, D, a', h => by cases h
  | f + 1, false, o, d, a, D, a', h => by
    have e0 : gD tx (f + 1) false o d a = if tx a = 40 then (if d + o < 9 then cns (4, 0) (gD tx f (decide (tx (a + 1) = 41)) (o + 1) d (a + 1)) else .inr a) else if cL (tx a) then cns (2, nI (tx a)) (gD tx f true o d (a + 1)) else if cD (tx (pA1 tx a)) then cns (1, pVal tx a) (gD tx f true o d (pDg tx 4 (pA1 tx a) 0).1) else .inr (pA1 tx a) := rfl
    rw [e0] at h
    split at h
    · split at h
      · obtain ⟨D2, q1, q2⟩ := cns_inv h
        rw [q2]
        exact SD_open (gD_sd f _ _ _ _ _ _ q1)
      · cases h
    · split at h
      · obtain ⟨D2, q1, q2⟩ := cns_inv h
        rw [q2]
        exact SD_atom (show ¬ (2 : Int32) = 5 by decide) (show ¬ (2 : Int32) = 4 by decide) (gD_sd f _ _ _ _ _ _ q1)
      · split at h
        · obtain ⟨D2, q1, q2⟩ := cns_inv h
          rw [q2]
          exact SD_atom (show ¬ (1 : Int32) = 5 by decide) (show ¬ (1 : Int32) = 4 by decide) (gD_sd f _ _ _ _ _ _ q1)
        · cases h
  | f + 1, true, 0, d, a, D, a', h => by
    have h : (Sum.inl ([], a) : (TL × Nat) ⊕ Nat) = .inl (D, a') := h
    cases h
    rfl
  | f + 1, true, o + 1, d, a, D, a', h => by
    have e1 : gD tx (f + 1) true (o + 1) d a = if tx a = 41 then cns (5, 0) (gD tx f true o d (a + 1)) else if tx a = 32 then gD tx f false (o + 1) d (a + 1) else .inr a := rfl
    rw [e1] at h
    split at h
    · obtain ⟨D2, q1, q2⟩ := cns_inv h
      rw [q2]
      exact SD_close (gD_sd f _ _ _ _ _ _ q1)
    · split at h
      · exact SDy_b (gD_sd f false (o + 1) d (a + 1) D a' h)
      · cases h
theorem row_ty {φ : Fr} : ∀ (ks : List Kd), (∀ k ∈ ks, LTy (k.1 φ)) → ∀ a b, GDl a → LY (rowT ks φ) a b → b.2.2.2.2 = a.2.2.2.2 ∧ ∀ k n e, WTl a a.2.2.2.1 (true :: k) n false e → WTl b b.2.2.2.1 k n false e
  | [], _, a, b, ha, h => by
    obtain ⟨c, h1, h2⟩ := h
    obtain ⟨d, q1, q2, q3, q4, q5, q6⟩ := L1_at ha (show ¬ (0 : Int32) = 5 by decide) (show ¬ (0 : Int32) = 4 by decide) (LY_one h1)
    refine ⟨?_, fun k n e hw => ?_⟩
    · obtain ⟨-, -, -, -, w, -⟩ := L1_int q5 h2
      exact w.trans q4
    · exact (const_wt (t := true) ha q5 q6 q1 q3 (fun _ => q2) h2 hw).1
  | k0 :: ks, hks, a, b, ha, h => by
    have h : LY (rowT ks φ ++ (k0.1 φ ++ [(1, 13)])) a b := h
    obtain ⟨c, h1, h2⟩ := LY_app _ _ _ _ h
    obtain ⟨d, h3, h4⟩ := LY_app _ _ _ _ h1
    have h3 := LY_one h3
    obtain ⟨g1, x1⟩ := L1_gd ha h3
    obtain ⟨g2, x2⟩ := LY_gd _ _ _ g1 h4
    obtain ⟨p1, p2⟩ := hks k0 List.mem_cons_self d c g1 h4
    obtain ⟨r1, r2⟩ := row_ty ks (fun k hk => hks k (List.mem_cons_of_mem _ hk)) c b g2 h2
    obtain ⟨-, -, -, -, w, -⟩ := L1_int ha h3
    refine ⟨r1.trans (p1.trans w), fun k n e hw => r2 k n e (p2 (true :: k) n e (o_13 ha h3 hw).1)⟩
theorem bo_ty {a : Kd} {ls : List Nat} {φ : Fr} (ht : LTy (a.1 (ls :: φ))) {x y : LSt} (hx : GDl x) (h : LY (boT a ls φ) x y) : y.2.2.2.2 = x.2.2.2.2 ∧ ∀ k n e, WTl x x.2.2.2.1 (false :: k) n (decide (0 < n)) e → WTl y y.2.2.2.1 k n false e := by
  obtain ⟨c, h1, h2⟩ := h
  obtain ⟨d, q1, q2, q3, q4, q5, q6⟩ := lst_wt hx h1 ht (k1 := []) (n1 := 1) (e1 := eRet) (fun a' b' g w => o_5 g w)
  obtain ⟨c0, p1, p2, p3, p4, p5, p6⟩ := L1_int q5 h2
  refine ⟨p4.trans q4, fun k n e hw => ?_⟩
  have ud : c.2.2.1 d := inU_pr (by rw [← q1]; exact q5.2.1.1)
  obtain ⟨y1, -, y3⟩ := p6.1 d ud
  obtain ⟨f1, hf1⟩ := WT_x q5 p6 (SI_h q5.1 ud) q3
  obtain ⟨f2, hf2⟩ := WT_x hx (XT_tr q6 p6) hx.2.1.1 hw
  rw [p1]
  refine ⟨f1 + f2 + 1, c0, 3, rfl, rfl, p2, Or.inr (Or.inr (Or.inl ⟨rfl, d, p3.trans q1, rfl, ?_, ?_⟩))⟩
  · rw [y3 rfl]
    exact wt_le hf1 f2
  · rw [y1, q2, Nat.add_comm f1 f2]
    exact wt_le hf2 f1
end
