section YF
variable {cst : Nat → Option (Nat × (Nat → Int32))} {m b0 b1 : Nat} {op : Bool} {tl : List mj_O} {Q : mj_R → Prop} {s : cS} {r0 : rM} {J : Nat → mj_L → List Value → mj_H → Prop} {tx : Nat → Nat} {len : Nat}
set_option maxRecDepth 10000
def sgK (c a : Nat) : List Nat → TL
  | [] => [(1, cdO c), (-1, nI a)]
  | [b] => if c = 46 then [(1, 13), (-1, nI a), (-1, nI b)] else [(1, cdO c), (-1, nI b), (-1, nI a)]
  | [b, d] => [(5, 0), (1, 9), (-1, nI d), (4, 0)] ++ [(5, 0), (1, 9), (-1, nI b), (4, 0)] ++ [(1, 8)] ++ [(-1, nI a)]
  | _ => []
theorem ar3 {c : Nat} (h : ar c = 3) : c = 63 := by
  unfold ar at h
  split at h
  · omega
  · split at h
    · omega
    · split at h
      · assumption
      · omega
theorem ar63 {c : Nat} (h : ¬ ar c = 3) : ¬ c = 63 := fun e => h (by rw [e]; rfl)
theorem ar46 {c : Nat} (h : ar c = 1) : ¬ c = 46 := fun e => by rw [e] at h; exact absurd h (by decide)
theorem R_writeSign {n c a : Nat} {is : List Nat} {r : rM} {σ τ : TL} (hn : n < 100) (ha : a < 100) (hv : r.value n = nI c) (hc : c < 256) (hl : is.length + 1 = ar c) (hch : chI r.next is (r.next a)) (hW : WSr r σ τ) (hlen : τ.length + 12 ≤ 1200 ∨ τ.length + (sgK c a is).length ≤ 1200) (hQ : ∀ r', kw r r' → WSr r' σ (τ ++ sgK c a is) → Q (.inl none, (cW s (rW r' tl), b0, b1, op))) : mj_Mt gT cst gnw (m + 3) y_R_writeSign [.ref 27, .int (nI n), .int (nI a)] (cW s (rW r tl), b0, b1, op) Q := by
  have hin : vp_in (nI n) 100 := vp_in_nI hn (by decide)
  have ekn : (nI n).toNatClampNeg = n := nI_clamp (by omega)
  have hia : vp_in (nI a) 100 := vp_in_nI ha (by decide)
  have eka : (nI a).toNatClampNeg = a := nI_clamp (by omega)
  have ha3 := ar_le c
  intro J hJ
  refine hJ _ _ _ _ ?_
  refine And.intro hia ?_
  rw [eka]
  refine And.intro hin ?_
  rw [ekn, hv]
  rcases is with _ | ⟨b, _ | ⟨d, _ | ⟨e, is⟩⟩⟩
  · -- one
    have hl : ar c = 1 := hl.symm
    have n63 := ar63 (c := c) (by omega)
    have n46 := ar46 hl
    have hx : r.next a = -1 := hch
    rw [hx]
    refine And.intro (fun _ => ?_) (fun (g : nI c = 63) => absurd (nIj (j := 63) (by omega) (by decide) g) n63)
    refine And.intro hin ?_
    rw [ekn, hv]
    refine R_codeOf (by omega) ?_
    have hlen : τ.length + 2 ≤ 1200 := by
      rcases hlen with w | w
      · omega
      · exact w
    refine R_later hW (by omega) (fun r2 k2 w2 => ?_)
    have e5 : r2.value = r.value := (kw_e k2).1.2.2.2.2.1
    refine And.intro hin ?_
    rw [ekn, e5, hv]
    refine And.intro (fun _ => ?_) (fun (g : nI c = 46) => absurd (nIj (j := 46) (by omega) (by decide) g) n46)
    refine And.intro (fun _ => ?_) (fun (g : ¬ (-1 : Int32) < 0) => absurd (by decide) g)
    refine R_later w2 (by rw [len_s]; omega) (fun r3 k3 w3 => ?_)
    rw [List.append_assoc] at w3
    exact hQ r3 (kw_tr k2 k3) w3
  · -- two
    have hl : ar c = 2 := hl.symm
    have n63 := ar63 (c := c) (by omega)
    obtain ⟨hb, hx, -⟩ := hch
    rw [hx]
    have e0 : sgK c a [b] = if c = 46 then [(1, 13), (-1, nI a), (-1, nI b)] else [(1, cdO c), (-1, nI b), (-1, nI a)] := rfl
    refine And.intro (fun _ => ?_) (fun (g : nI c = 63) => absurd (nIj (j := 63) (by omega) (by decide) g) n63)
    refine And.intro hin ?_
    rw [ekn, hv]
    refine R_codeOf (by omega) ?_
    have hlen : τ.length + 3 ≤ 1200 := by
      rcases hlen with w | w
      · omega
      · rw [e0] at w
        split at w <;> exact w
    rw [e0] at hQ
    refine R_later hW (by omega) (fun r2 k2 w2 => ?_)
    have e5 : r2.value = r.value := (kw_e k2).1.2.2.2.2.1
    refine And.intro hin ?_
    rw [ekn, e5, hv]
    refine And.intro (fun (g : ¬ nI c = 46) => ?_) (fun (g : nI c = 46) => ?_)
    · have n46 : ¬ c = 46 := fun e => g (by rw [e]; rfl)
      rw [if_neg n46] at hQ
      refine And.intro (fun (g : nI b < 0) => absurd g (nI_pos (by omega))) (fun _ => ?_)
      refine R_later w2 (by rw [len_s]; omega) (fun r3 k3 w3 => ?_)
      refine R_later w3 (by rw [len_s, len_s]; omega) (fun r4 k4 w4 => ?_)
      rw [List.append_assoc, List.append_assoc] at w4
      exact hQ r4 (kw_tr k2 (kw_tr k3 k4)) w4
    · have e46 : c = 46 := nIj (j := 46) (by omega) (by decide) g
      rw [if_pos e46] at hQ
      have ecd : cdO c = 13 := by rw [e46]; rfl
      rw [ecd] at w2
      refine R_later w2 (by rw [len_s]; omega) (fun r3 k3 w3 => ?_)
      refine R_later w3 (by rw [len_s, len_s]; omega) (fun r4 k4 w4 => ?_)
      rw [List.append_assoc, List.append_assoc] at w4
      exact hQ r4 (kw_tr k2 (kw_tr k3 k4)) w4
  · -- three
    have hl : ar c = 3 := hl.symm
    have e63 := ar3 hl
    obtain ⟨hb, hx, hd, hx2, -⟩ := hch
    rw [hx]
    refine And.intro (fun (g : ¬ nI c = 63) => absurd (by rw [e63]; rfl) g) (fun _ => ?_)
    refine And.intro (vp_in_nI hb (by decide)) ?_
    rw [nI_clamp (by omega), hx2]
    have hlen : τ.length + 10 ≤ 1200 := by
      rcases hlen with w | w
      · omega
      · exact w
    refine R_laterCode hW (by omega) (fun r2 k2 w2 => ?_)
    refine R_laterCode w2 (by rw [List.length_append]; show τ.length + 4 + 3 < 1200; omega) (fun r3 k3 w3 => ?_)
    refine R_later w3 (by rw [List.length_append, List.length_append]; show τ.length + 4 + 4 < 1200; omega) (fun r4 k4 w4 => ?_)
    refine R_later w4 (by rw [len_s, List.length_append, List.length_append]; show τ.length + 4 + 4 + 1 < 1200; omega) (fun r5 k5 w5 => ?_)
    have e9 : sgK c a [b, d] = [(5, 0), (1, 9), (-1, nI d), (4, 0)] ++ [(5, 0), (1, 9), (-1, nI b), (4, 0)] ++ [(1, 8)] ++ [(-1, nI a)] := rfl
    rw [e9] at hQ
    refine hQ r5 (kw_tr k2 (kw_tr k3 (kw_tr k4 k5))) ?_
    replace w5 : WSr r5 σ (τ ++ [(5, 0), (1, 9), (-1, nI d), (4, 0)] ++ [(5, 0), (1, 9), (-1, nI b), (4, 0)] ++ [(1, 8)] ++ [(-1, nI a)]) := w5
    simp only [List.append_assoc] at w5 ⊢
    exact w5
  · rw [List.length_cons, List.length_cons, List.length_cons] at hl
    omega
theorem KD_sign {n c : Nat} {is : List Nat} (hn : n + 1 < 100) (hk : r0.kind n = 3) (hf : r0.first n = nI (n + 1)) (hv : r0.value n = nI c) (hc : c < 256) (hl : is.length + 1 = ar c) (hch : chI r0.next is (r0.next (n + 1))) : KD m b0 b1 cst op tl s r0 n (sgK c (n + 1) is) := by
  intro r' σ τ Q' k1 w1 hlen hQ'
  obtain ⟨⟨-, e2, -, -, e5, -⟩, ⟨e7, e8, -, -⟩, -⟩ := kw_e k1
  have hin : vp_in (nI n) 100 := vp_in_nI (by omega) (by decide)
  have ekn : (nI n).toNatClampNeg = n := nI_clamp (by omega)
  intro J hJ
  refine hJ _ _ _ _ ?_
  refine And.intro hin ?_
  rw [ekn, e7, hf]
  refine And.intro hin ?_
  rw [ekn, e2, hk]
  refine And.intro (fun (g : (3 : Int32) = 0) => absurd g (by decide)) (fun _ => And.intro (fun (g : (3 : Int32) = 1) => absurd g (by decide)) (fun _ => And.intro (fun (g : (3 : Int32) = 2) => absurd g (by decide)) (fun _ => And.intro (fun _ => ?_) (fun g => absurd rfl g))))
  refine R_writeSign (n := n) (c := c) (a := n + 1) (is := is) (by omega) (by omega) (by rw [e5]; exact hv) hc hl (by rw [e8]; exact hch) w1 (Or.inr hlen) (fun r2 k2 w2 => ?_)
  exact hQ' r2 (kw_tr k1 k2) w2
theorem W_leaf0 {n : Nat} (hJ : ∀ pc ls st h, mj_sg (mj_Mt gT cst gnw (m + 4)) cst gnw (mj_hd (mj_off kO_R_writeCode) kH_R_writeCode) kC_R_writeCode J Q 400 true pc ls st h → J pc ls st h) (hn : n < 100) (hk : r0.kind n = 0) : WW b0 b1 op tl s r0 J (-1, nI n) [(1, 1), (1, r0.value n)] := by
  have hin : vp_in (nI n) 100 := vp_in_nI (by omega) (by decide)
  have ekn : (nI n).toNatClampNeg = n := nI_clamp (by omega)
  refine W_call hJ (show 1 ≤ 2 by decide) (fun σ τ w hl hw hj r' Q' k1 w1 hQ' => ?_)
  have hl : σ.length + 2 + w ≤ 1200 := hl
  obtain ⟨⟨-, e2, -, -, e5, -⟩, ⟨e7, e8, -, -⟩, -⟩ := kw_e k1
  intro J hJ
  refine hJ _ _ _ _ ?_
  refine And.intro hin ?_
  refine And.intro hin ?_
  rw [ekn, e2, hk]
  refine And.intro (fun _ => ?_) (fun g => absurd rfl g)
  refine R_sign w1 (by omega) (fun r2 k2 w2 => ?_)
  have e5' : r2.value = r0.value := (kw_e (kw_tr k1 k2)).1.2.2.2.2.1
  refine And.intro hin ?_
  rw [ekn, e5']
  refine R_sign w2 (by rw [len_s]; omega) (fun r3 k3 w3 => ?_)
  rw [List.append_assoc] at w3
  exact hQ' r3 _ τ (kw_tr k1 (kw_tr k2 k3)) w3 hj
theorem W_leaf1 {n c k a : Nat} {φ : Fr} (ha : a ≤ 96) (hkk : k ≤ 600) (hJ : ∀ pc ls st h, mj_sg (mj_Mt gT cst gnw (m + 4)) cst gnw (mj_hd (mj_off kO_R_writeCode) kH_R_writeCode) kC_R_writeCode J Q 400 true pc ls st h → J pc ls st h) (hn : n < 100) (hk : r0.kind n = 1) (hv : r0.value n = nI c) (hc : c < 256) (hch : CHd r0 k n φ) : WW b0 b1 op tl s r0 J (-1, nI n) [(1, 2), (6, lkF c (uP a) φ 0)] := by
  have hin : vp_in (nI n) 100 := vp_in_nI (by omega) (by decide)
  have ekn : (nI n).toNatClampNeg = n := nI_clamp (by omega)
  refine W_call hJ (show 1 ≤ 2 by decide) (fun σ τ w hl hw hj r' Q' k1 w1 hQ' => ?_)
  have hl : σ.length + 2 + w ≤ 1200 := hl
  obtain ⟨⟨-, e2, -, -, e5, -⟩, ⟨e7, e8, -, -⟩, -⟩ := kw_e k1
  intro J hJ
  refine hJ _ _ _ _ ?_
  refine And.intro hin ?_
  refine And.intro hin ?_
  rw [ekn, e2, hk]
  refine And.intro (fun (g : (1 : Int32) = 0) => absurd g (by decide)) (fun _ => And.intro (fun _ => ?_) (fun g => absurd rfl g))
  refine R_sign w1 (by omega) (fun r2 k2 w2 => ?_)
  have e5' : r2.value = r0.value := (kw_e (kw_tr k1 k2)).1.2.2.2.2.1
  refine R_resolved hn (by rw [e5']; exact hv) hc (CHd_kw (kw_tr k1 k2) k n φ hch) ?_
  refine R_sign w2 (by rw [len_s]; omega) (fun r3 k3 w3 => ?_)
  rw [List.append_assoc, ← nr_lk (a := a) hch hkk ha] at w3
  exact hQ' r3 _ τ (kw_tr k1 (kw_tr k2 k3)) w3 hj
theorem gD_low {tx : Nat → Nat} : ∀ (f : Nat) (b : Bool) (o d a : Nat) (D : TL) (a' : Nat), gD tx f b o d a = .inl (D, a') → ∀ t ∈ D, ¬ t.1 = 6
  | 0, b, o, d, a, D, a', h => by cases h
  | f + 1, false, o, d, a, D, a', h => by
    have e0 : gD tx (f + 1) false o d a = if tx a = 40 then (if d + o < 9 then cns (4, 0) (gD tx f (decide (tx (a + 1) = 41)) (o + 1) d (a + 1)) else .inr a) else if cL (tx a) then cns (2, nI (tx a)) (gD tx f true o d (a + 1)) else if cD (tx (pA1 tx a)) then cns (1, pVal tx a) (gD tx f true o d (pDg tx 4 (pA1 tx a) 0).1) else .inr (pA1 tx a) := rfl
    have sub : ∀ (x : Int32 × Int32) (b : Bool) (o d a2 : Nat), ¬ x.1 = 6 → cns x (gD tx f b o d a2) = .inl (D, a') → ∀ t ∈ D, ¬ t.1 = 6 := by
      intro x b o d a2 hx h t ht
      obtain ⟨D2, q1, q2⟩ := cns_inv h
      rw [q2] at ht
      rcases List.mem_cons.mp ht with w | w
      · rw [w]
        exact hx
      · exact gD_low f b o d a2 D2 a' q1 t w
    rw [e0] at h
    split at h
    · split at h
      · exact sub _ _ _ _ _ (by decide) h
      · cases h
    · split at h
      · exact sub _ _ _ _ _ (show ¬ (2 : Int32) = 6 by decide) h
      · split at h
        · exact sub _ _ _ _ _ (show ¬ (1 : Int32) = 6 by decide) h
        · cases h
  | f + 1, true, 0, d, a, D, a', h => by
    have h : (Sum.inl ([], a) : (TL × Nat) ⊕ Nat) = .inl (D, a') := h
    cases h
    intro t ht
    cases ht
  | f + 1, true, o + 1, d, a, D, a', h => by
    have e1 : gD tx (f + 1) true (o + 1) d a = if tx a = 41 then cns (5, 0) (gD tx f true o d (a + 1)) else if tx a = 32 then gD tx f false (o + 1) d (a + 1) else .inr a := rfl
    rw [e1] at h
    split at h
    · obtain ⟨D2, q1, q2⟩ := cns_inv h
      intro t ht
      rw [q2] at ht
      rcases List.mem_cons.mp ht with w | w
      · rw [w]
        decide
      · exact gD_low f true o d (a + 1) D2 a' q1 t w
    · split at h
      · exact gD_low f false (o + 1) d (a + 1) D a' h
      · cases h
theorem low_id : ∀ (D : TL), (∀ t ∈ D, ¬ t.1 = 6) → low D = D
  | [], _ => rfl
  | t :: D, h => by
    show lw t :: low D = t :: D
    rw [low_id D (fun x hx => h x (List.mem_cons_of_mem _ hx))]
    unfold lw
    rw [if_neg (h t List.mem_cons_self)]
theorem W_leaf2 {n a a' d : Nat} {D : TL} (hJ : ∀ pc ls st h, mj_sg (mj_Mt gT cst gnw (m + 4)) cst gnw (mj_hd (mj_off kO_R_writeCode) kH_R_writeCode) kC_R_writeCode J Q 400 true pc ls st h → J pc ls st h) (hx : txOK r0.text len tx) (ht : r0.typed = nI len) (hn : n < 100) (hk : r0.kind n = 2) (hat : r0.at_ n = nI a) (hu : r0.until_ n = nI a') (ha : a + 1 ≤ len) (hg : gD tx 200 false 0 d (a + 1) = .inl (D, a')) : WW b0 b1 op tl s r0 J (-1, nI n) ((1, 1) :: D) := by
  have hin : vp_in (nI n) 100 := vp_in_nI (by omega) (by decide)
  have ekn : (nI n).toNatClampNeg = n := nI_clamp (by omega)
  have hlow : low ((1, 1) :: D) = (1, 1) :: D := low_id _ (fun t w => by
    rcases List.mem_cons.mp w with w | w
    · rw [w]
      decide
    · exact gD_low _ _ _ _ _ _ _ hg t w)
  refine W_call hJ (by rw [List.length_cons]; omega) (fun σ τ w hl hw hj r' Q' k1 w1 hQ' => ?_)
  rw [hlow] at hj
  rw [List.length_cons] at hl
  obtain ⟨⟨-, e2, -, -, e5, -⟩, ⟨e7, e8, -, -⟩, -⟩ := kw_e k1
  intro J hJ
  refine hJ _ _ _ _ ?_
  refine And.intro hin ?_
  refine And.intro hin ?_
  rw [ekn, e2, hk]
  refine And.intro (fun (g : (2 : Int32) = 0) => absurd g (by decide)) (fun _ => And.intro (fun (g : (2 : Int32) = 1) => absurd g (by decide)) (fun _ => And.intro (fun _ => ?_) (fun g => absurd rfl g)))
  refine R_sign w1 (by omega) (fun r2 k2 w2 => ?_)
  have k12 := kw_tr k1 k2
  obtain ⟨⟨-, -, f3, f4, -, -⟩, -, f6, f7⟩ := kw_e k12
  refine R_writeDatum (d := d) (a := a) (a' := a') (D := D) (by rw [f6]; exact hx) (by rw [f7]; exact ht) hn (by rw [f3]; exact hat) (by rw [f4]; exact hu) ha hg w2 (by rw [len_s]; omega) (fun r3 k3 w3 => ?_)
  rw [List.append_assoc] at w3
  exact hQ' r3 _ τ (kw_tr k12 k3) w3 hj
end YF
