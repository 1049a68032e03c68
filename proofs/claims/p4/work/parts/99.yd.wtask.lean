def lw (t : Int32 × Int32) : Int32 × Int32 := if t.1 = 6 then (1, nr t.2) else t
abbrev low (T : TL) : TL := T.map lw
theorem low_app (A B : TL) : low (A ++ B) = low A ++ low B := List.map_append
theorem low_len (A : TL) : (low A).length = A.length := List.length_map _
section YD0
variable {cst : Nat → Option (Nat × (Nat → Int32))} {m : Nat} {Q : mj_R → Prop}
set_option maxRecDepth 10000
theorem R_codeOf {h : mj_H} {c : Nat} (hc : c < 2 ^ 31) (hQ : Q (.inl (some (.int (cdO c))), h)) : mj_Mt gT cst gnw (m + 1) y_R_codeOf [.int (nI c)] h Q := by
  intro J hJ
  refine hJ _ _ _ _ ?_
  refine And.intro (fun (g : nI c = 33) => ?_) (fun (g33 : ¬ nI c = 33) => ?_)
  · have e : c = 33 := nIj (j := 33) hc (by decide) g
    subst e
    exact hQ
  refine And.intro (fun (g : nI c = 42) => ?_) (fun (g42 : ¬ nI c = 42) => ?_)
  · have e : c = 42 := nIj (j := 42) hc (by decide) g
    subst e
    exact hQ
  refine And.intro (fun (g : nI c = 43) => ?_) (fun (g43 : ¬ nI c = 43) => ?_)
  · have e : c = 43 := nIj (j := 43) hc (by decide) g
    subst e
    exact hQ
  refine And.intro (fun (g : nI c = 45) => ?_) (fun (g45 : ¬ nI c = 45) => ?_)
  · have e : c = 45 := nIj (j := 45) hc (by decide) g
    subst e
    exact hQ
  refine And.intro (fun (g : nI c = 46) => ?_) (fun (g46 : ¬ nI c = 46) => ?_)
  · have e : c = 46 := nIj (j := 46) hc (by decide) g
    subst e
    exact hQ
  refine And.intro (fun (g : nI c = 61) => ?_) (fun (g61 : ¬ nI c = 61) => ?_)
  · have e : c = 61 := nIj (j := 61) hc (by decide) g
    subst e
    exact hQ
  refine And.intro (fun (g : nI c = 94) => ?_) (fun (g94 : ¬ nI c = 94) => ?_)
  · have e : c = 94 := nIj (j := 94) hc (by decide) g
    subst e
    exact hQ
  refine And.intro (fun (g : nI c = 95) => ?_) (fun (g95 : ¬ nI c = 95) => ?_)
  · have e : c = 95 := nIj (j := 95) hc (by decide) g
    subst e
    exact hQ
  have n33 : ¬ c = 33 := fun e => g33 (by rw [e]; rfl)
  have n42 : ¬ c = 42 := fun e => g42 (by rw [e]; rfl)
  have n43 : ¬ c = 43 := fun e => g43 (by rw [e]; rfl)
  have n45 : ¬ c = 45 := fun e => g45 (by rw [e]; rfl)
  have n46 : ¬ c = 46 := fun e => g46 (by rw [e]; rfl)
  have n61 : ¬ c = 61 := fun e => g61 (by rw [e]; rfl)
  have n94 : ¬ c = 94 := fun e => g94 (by rw [e]; rfl)
  have n95 : ¬ c = 95 := fun e => g95 (by rw [e]; rfl)
  have e : cdO c = 18 := by
    unfold cdO
    rw [if_neg n94, if_neg n95, if_neg n33, if_neg n46, if_neg n61, if_neg n43, if_neg n45, if_neg n42]
  rw [e] at hQ
  exact hQ
end YD0
section YD
variable {cst : Nat → Option (Nat × (Nat → Int32))} {m b0 b1 : Nat} {op : Bool} {tl : List mj_O} {Q : mj_R → Prop} {s : cS} {r0 : rM} {J : Nat → mj_L → List Value → mj_H → Prop}
set_option maxRecDepth 10000
def JW (b0 b1 : Nat) (op : Bool) (tl : List mj_O) (s : cS) (r0 : rM) (J : Nat → mj_L → List Value → mj_H → Prop) (σ τ : TL) : Prop := ∀ r', kw r0 r' → WSr r' σ τ → J 17 [some (.ref 27)] [] (cW s (rW r' tl), b0, b1, op)
def WW (b0 b1 : Nat) (op : Bool) (tl : List mj_O) (s : cS) (r0 : rM) (J : Nat → mj_L → List Value → mj_H → Prop) (X : Int32 × Int32) (T : TL) : Prop := 1 ≤ T.length ∧ ∀ (σ τ : TL) (w : Nat), σ.length + T.length + w ≤ 1200 → τ.length ≤ w → JW b0 b1 op tl s r0 J (σ ++ low T) τ → JW b0 b1 op tl s r0 J σ (τ ++ [X])
def WL (b0 b1 : Nat) (op : Bool) (tl : List mj_O) (s : cS) (r0 : rM) (J : Nat → mj_L → List Value → mj_H → Prop) (K T : TL) : Prop := K.length ≤ T.length ∧ ∀ (σ τ : TL) (w : Nat), σ.length + T.length + w ≤ 1200 → τ.length ≤ w → JW b0 b1 op tl s r0 J (σ ++ low T) τ → JW b0 b1 op tl s r0 J σ (τ ++ K)
theorem WL_nil : WL b0 b1 op tl s r0 J [] [] := ⟨Nat.le_refl _, fun σ τ w _ _ h => by
  rw [List.append_nil]
  have e : σ ++ low [] = σ := List.append_nil σ
  rw [e] at h
  exact h⟩
theorem WL_snoc {K T1 T2 : TL} {X : Int32 × Int32} (h1 : WL b0 b1 op tl s r0 J K T1) (h2 : WW b0 b1 op tl s r0 J X T2) : WL b0 b1 op tl s r0 J (K ++ [X]) (T2 ++ T1) := by
  have l1 := h1.1
  have l2 := h2.1
  refine ⟨by rw [List.length_append, List.length_append, List.length_cons, List.length_nil]; omega, fun σ τ w hl hw h => ?_⟩
  rw [List.length_append] at hl
  rw [← List.append_assoc]
  refine h2.2 σ (τ ++ K) (w + T1.length) (by omega) (by rw [List.length_append]; omega) ?_
  refine h1.2 (σ ++ low T2) τ w (by rw [List.length_append, low_len]; omega) hw ?_
  rw [low_app, ← List.append_assoc] at h
  exact h
theorem last_at (τ : TL) (X : Int32 × Int32) : (τ ++ [X])[τ.length]? = some X := by
  rw [List.getElem?_append_right (Nat.le_refl _), Nat.sub_self]
  rfl
def tkR (r : rM) (x : Int32) : rM := (r.s_tasks x)
theorem W_head {σ τ : TL} {X : Int32 × Int32} (hJ : ∀ pc ls st h, mj_sg (mj_Mt gT cst gnw (m + 4)) cst gnw (mj_hd (mj_off kO_R_writeCode) kH_R_writeCode) kC_R_writeCode J Q 400 true pc ls st h → J pc ls st h) (hl : τ.length < 1200) (h : ∀ r', kw r0 r' → WSr r' σ τ → r'.taskKind τ.length = X.1 → r'.taskValue τ.length = X.2 → ∀ F : Nat, mj_sg (mj_Mt gT cst gnw (m + 4)) cst gnw (mj_hd (mj_off kO_R_writeCode) kH_R_writeCode) kC_R_writeCode J Q (F + 100) false 31 [some (.ref 27)] [.int X.1] (cW s (rW (tkR r' (nI τ.length)) tl), b0, b1, op)) : JW b0 b1 op tl s r0 J σ (τ ++ [X]) := by
  intro r' k w
  obtain ⟨w1, ⟨w2, w3⟩, w4⟩ := w
  have el : (τ ++ [X]).length = τ.length + 1 := by rw [List.length_append]; rfl
  rw [el] at w2
  obtain ⟨x1, x2⟩ := w3 τ.length X (last_at τ X)
  have ep : r'.tasks - Int32.ofInt 1 = nI τ.length := by rw [w2]; exact nI_pred _
  refine hJ _ _ _ _ ?_
  refine And.intro (fun (g : r'.tasks ≤ 0) => absurd g (by rw [w2]; exact nI_nle (by omega) (by omega))) (fun _ => ?_)
  refine And.intro (show vp_in (r'.tasks - Int32.ofInt 1) 1200 by rw [ep]; exact vp_in_nI hl (by decide)) ?_
  have key : ∀ (y z : Int32), y = nI τ.length → z = X.1 → ∀ F : Nat, mj_sg (mj_Mt gT cst gnw (m + 4)) cst gnw (mj_hd (mj_off kO_R_writeCode) kH_R_writeCode) kC_R_writeCode J Q (F + 100) false 31 [some (.ref 27)] [.int z] (cW s (rW (tkR r' y) tl), b0, b1, op) := by
    rintro y z rfl rfl F
    exact h (tkR r' (nI τ.length)) k ⟨w1, ⟨rfl, rwO_pre w3⟩, w4⟩ x1 x2 F
  refine key _ _ ep ?_ _
  show r'.taskKind (r'.tasks - Int32.ofInt 1).toNatClampNeg = X.1
  rw [ep, nI_clamp (by omega)]
  exact x1
theorem W_tok {k v : Int32} (hJ : ∀ pc ls st h, mj_sg (mj_Mt gT cst gnw (m + 4)) cst gnw (mj_hd (mj_off kO_R_writeCode) kH_R_writeCode) kC_R_writeCode J Q 400 true pc ls st h → J pc ls st h) (hk : 0 ≤ k) (h6 : ¬ k = 6) : WW b0 b1 op tl s r0 J (k, v) [(k, v)] := by
  refine ⟨Nat.le_refl _, fun σ τ w hl hw h => ?_⟩
  rw [List.length_cons, List.length_nil] at hl
  have e1 : low [(k, v)] = [(k, v)] := by
    show [lw (k, v)] = _
    unfold lw
    rw [if_neg h6]
  rw [e1] at h
  refine W_head hJ (by omega) (fun r' k1 w1 x1 x2 F => ?_)
  have hin : vp_in (nI τ.length) 1200 := vp_in_nI (by omega) (by decide)
  have ek : (nI τ.length).toNatClampNeg = τ.length := nI_clamp (by omega)
  refine And.intro (fun _ => ?_) (fun (g : ¬ 0 ≤ k) => absurd hk g)
  refine And.intro hin ?_
  refine And.intro hin ?_
  have key : ∀ (y z : Int32), y = k → z = v → ∀ Q' : mj_R → Prop, (∀ r2, kw r0 r2 → WSr r2 (σ ++ [(k, v)]) τ → Q' (.inl none, (cW s (rW r2 tl), b0, b1, op))) → mj_Mt gT cst gnw (m + 4) y_R_sign [.ref 27, .int y, .int z] (cW s (rW (tkR r' (nI τ.length)) tl), b0, b1, op) Q' := by
    rintro y z rfl rfl Q' hQ'
    refine R_sign (r := tkR r' (nI τ.length)) (σ := σ) (τ := τ) ⟨w1.1, ⟨rfl, w1.2.1.2⟩, w1.2.2⟩ (by omega) (fun r2 k2 w2 => hQ' r2 (kw_tr k1 k2) w2)
  refine key _ _ ?_ ?_ _ (fun r2 k2 w2 => ?_)
  · show r'.taskKind (nI τ.length).toNatClampNeg = k
    rw [ek]
    exact x1
  · show r'.taskValue (nI τ.length).toNatClampNeg = v
    rw [ek]
    exact x2
  · exact h r2 k2 w2
theorem W_call {n : Nat} {T : TL} (hJ : ∀ pc ls st h, mj_sg (mj_Mt gT cst gnw (m + 4)) cst gnw (mj_hd (mj_off kO_R_writeCode) kH_R_writeCode) kC_R_writeCode J Q 400 true pc ls st h → J pc ls st h) (hT : 1 ≤ T.length) (h : ∀ (σ τ : TL) (w : Nat), σ.length + T.length + w ≤ 1200 → τ.length ≤ w → JW b0 b1 op tl s r0 J (σ ++ low T) τ → ∀ (r' : rM) (Q' : mj_R → Prop), kw r0 r' → WSr r' σ τ → (∀ r2 σ2 τ2, kw r0 r2 → WSr r2 σ2 τ2 → JW b0 b1 op tl s r0 J σ2 τ2 → Q' (.inl none, (cW s (rW r2 tl), b0, b1, op))) → mj_Mt gT cst gnw (m + 4) y_R_writePart [.ref 27, .int (nI n)] (cW s (rW r' tl), b0, b1, op) Q') : WW b0 b1 op tl s r0 J (-1, nI n) T := by
  refine ⟨hT, fun σ τ w hl hw hj => ?_⟩
  refine W_head hJ (by omega) (fun r' k1 w1 x1 x2 F => ?_)
  refine And.intro (fun (g : (0 : Int32) ≤ -1) => absurd g (by decide)) (fun _ => ?_)
  refine And.intro (vp_in_nI (show τ.length < 1200 by omega) (by decide)) ?_
  have key : ∀ (y : Int32), y = nI n → ∀ Q' : mj_R → Prop, (∀ r2, J 17 [some (.ref 27)] [] (cW s (rW r2 tl), b0, b1, op) → Q' (.inl none, (cW s (rW r2 tl), b0, b1, op))) → mj_Mt gT cst gnw (m + 4) y_R_writePart [.ref 27, .int y] (cW s (rW (tkR r' (nI τ.length)) tl), b0, b1, op) Q' := by
    rintro y rfl Q' hQ'
    exact h σ τ w hl hw hj (tkR r' (nI τ.length)) Q' k1 ⟨w1.1, ⟨rfl, w1.2.1.2⟩, w1.2.2⟩ (fun r2 σ2 τ2 k2 w2 j2 => hQ' r2 (j2 r2 k2 w2))
  refine key _ ?_ _ (fun r2 j2 => ?_)
  · show r'.taskValue (nI τ.length).toNatClampNeg = nI n
    rw [nI_clamp (by omega)]
    exact x2
  · exact j2
end YD
