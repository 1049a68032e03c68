section
def kwT (r : rM) := (krT r, (r.parts, r.kind, r.at_, r.until_, r.value, r.parent), (r.first, r.last, r.next, r.many, r.letters, r.bound), r.p)
def kw (r r' : rM) : Prop := kwT r' = kwT r
theorem kw_tr {r r' r2 : rM} (h1 : kw r r') (h2 : kw r' r2) : kw r r2 := Eq.trans h2 h1
theorem kw_kr {r r' : rM} (h : kw r r') : kr r r' := show krT r' = krT r from congrArg (fun q => q.1) h
theorem kw_e {r r' : rM} (h : kw r r') : (r'.parts = r.parts ∧ r'.kind = r.kind ∧ r'.at_ = r.at_ ∧ r'.until_ = r.until_ ∧ r'.value = r.value ∧ r'.parent = r.parent) ∧ (r'.first = r.first ∧ r'.next = r.next ∧ r'.letters = r.letters ∧ r'.bound = r.bound) ∧ r'.text = r.text ∧ r'.typed = r.typed :=
  ⟨⟨congrArg (fun q => q.2.1.1) h, congrArg (fun q => q.2.1.2.1) h, congrArg (fun q => q.2.1.2.2.1) h, congrArg (fun q => q.2.1.2.2.2.1) h, congrArg (fun q => q.2.1.2.2.2.2.1) h, congrArg (fun q => q.2.1.2.2.2.2.2) h⟩, ⟨congrArg (fun q => q.2.2.1.1) h, congrArg (fun q => q.2.2.1.2.2.1) h, congrArg (fun q => q.2.2.1.2.2.2.2.1) h, congrArg (fun q => q.2.2.1.2.2.2.2.2) h⟩, kr_text (kw_kr h)⟩
def cnt : TL → Nat
  | [] => 0
  | t :: T => (if t.1 = 5 then 0 else 1) + cnt T
theorem cnt_app : ∀ (A B : TL), cnt (A ++ B) = cnt A + cnt B
  | [], B => by show cnt B = 0 + cnt B; omega
  | t :: A, B => by
    show (if t.1 = 5 then 0 else 1) + cnt (A ++ B) = (if t.1 = 5 then 0 else 1) + cnt A + cnt B
    rw [cnt_app A B]
    omega
theorem cnt_le : ∀ (A : TL), cnt A ≤ A.length
  | [] => Nat.le_refl _
  | t :: A => by
    have := cnt_le A
    show (if t.1 = 5 then 0 else 1) + cnt A ≤ A.length + 1
    split <;> omega
def rwO (f g : Nat → Int32) (T : TL) : Prop := ∀ i t, T[i]? = some t → f i = t.1 ∧ g i = t.2
def WSr (r : rM) (σ τ : TL) : Prop := (r.signs = nI σ.length ∧ rwO r.signKind r.signValue σ) ∧ (r.tasks = nI τ.length ∧ rwO r.taskKind r.taskValue τ) ∧ r.cells = nI (cnt σ)
theorem rwO_app {f g : Nat → Int32} {T : TL} {k v : Int32} (h : rwO f g T) : rwO (upd f T.length k) (upd g T.length v) (T ++ [(k, v)]) := by
  intro i t hi
  unfold upd
  by_cases e : i = T.length
  · subst e
    rw [if_pos rfl, if_pos rfl]
    rw [List.getElem?_append_right (Nat.le_refl _), Nat.sub_self] at hi
    cases hi
    exact ⟨rfl, rfl⟩
  · have hlt : i < T.length := by
      rcases Nat.lt_or_ge i T.length with w | w
      · exact w
      · rw [List.getElem?_eq_none (by rw [List.length_append, List.length_cons, List.length_nil]; omega)] at hi
        cases hi
    rw [if_neg e, if_neg e]
    rw [List.getElem?_append_left hlt] at hi
    exact h i t hi
theorem rwO_pre {f g : Nat → Int32} {A B : TL} (h : rwO f g (A ++ B)) : rwO f g A := by
  intro i t hi
  refine h i t ?_
  have hlt : i < A.length := by
    rcases Nat.lt_or_ge i A.length with w | w
    · exact w
    · rw [List.getElem?_eq_none w] at hi
      cases hi
  rw [List.getElem?_append_left hlt]
  exact hi
section YB
variable {cst : Nat → Option (Nat × (Nat → Int32))} {m b0 b1 : Nat} {op : Bool} {tl : List mj_O} {Q : mj_R → Prop} {s : cS} {r : rM} {σ τ : TL}
set_option maxRecDepth 10000
theorem R_sign {k v : Int32} (hW : WSr r σ τ) (hl : σ.length < 1200) (hQ : ∀ r', kw r r' → WSr r' (σ ++ [(k, v)]) τ → Q (.inl none, (cW s (rW r' tl), b0, b1, op))) : mj_Mt gT cst gnw (m + 1) y_R_sign [.ref 27, .int k, .int v] (cW s (rW r tl), b0, b1, op) Q := by
  obtain ⟨⟨h1, h2⟩, ⟨h3, h4⟩, h5⟩ := hW
  have hin : vp_in r.signs 1200 := by rw [h1]; exact vp_in_nI hl (by decide)
  have ek : r.signs.toNatClampNeg = σ.length := by rw [h1]; exact nI_clamp (by omega)
  have e1 : r.signs + Int32.ofInt 1 = nI (σ ++ [(k, v)]).length := by
    rw [h1, List.length_append, List.length_cons, List.length_nil]
    exact (nI_succ _).symm
  have key : ∀ (i1 i2 : Nat) (y z : Int32), i1 = σ.length → i2 = σ.length → y = nI (σ ++ [(k, v)]).length → z = nI (cnt (σ ++ [(k, v)])) → Q (.inl none, (cW s (rW ((((r.s_signKind (upd r.signKind i1 k)).s_signValue (upd r.signValue i2 v)).s_signs y).s_cells z) tl), b0, b1, op)) := by
    intro i1 i2 y z q1 q2 q3 q4
    rw [q1, q2, q3, q4]
    exact hQ ((((r.s_signKind (upd r.signKind σ.length k)).s_signValue (upd r.signValue σ.length v)).s_signs (nI (σ ++ [(k, v)]).length)).s_cells (nI (cnt (σ ++ [(k, v)])))) rfl ⟨⟨rfl, rwO_app h2⟩, ⟨h3, h4⟩, rfl⟩
  have ec : cnt (σ ++ [(k, v)]) = cnt σ + (if k = 5 then 0 else 1) := by
    rw [cnt_app]
    show cnt σ + ((if k = 5 then 0 else 1) + 0) = _
    omega
  intro J hJ
  refine hJ _ _ _ _ ?_
  refine And.intro hin ?_
  refine And.intro hin ?_
  refine And.intro (fun (g : ¬ k = 5) => ?_) (fun (g : k = 5) => ?_)
  · refine key _ _ _ _ ek ek e1 ?_
    show r.cells + Int32.ofInt 1 = _
    rw [ec, if_neg g, h5]
    exact (nI_succ _).symm
  · refine key _ _ _ _ ek ek e1 ?_
    show r.cells = _
    rw [ec, if_pos g, h5]
    rfl
theorem R_later {k v : Int32} (hW : WSr r σ τ) (hl : τ.length < 1200) (hQ : ∀ r', kw r r' → WSr r' σ (τ ++ [(k, v)]) → Q (.inl none, (cW s (rW r' tl), b0, b1, op))) : mj_Mt gT cst gnw (m + 1) y_R_later [.ref 27, .int k, .int v] (cW s (rW r tl), b0, b1, op) Q := by
  obtain ⟨⟨h1, h2⟩, ⟨h3, h4⟩, h5⟩ := hW
  have hin : vp_in r.tasks 1200 := by rw [h3]; exact vp_in_nI hl (by decide)
  have ek : r.tasks.toNatClampNeg = τ.length := by rw [h3]; exact nI_clamp (by omega)
  have e1 : r.tasks + Int32.ofInt 1 = nI (τ ++ [(k, v)]).length := by
    rw [h3, List.length_append, List.length_cons, List.length_nil]
    exact (nI_succ _).symm
  have key : ∀ (i1 i2 : Nat) (y : Int32), i1 = τ.length → i2 = τ.length → y = nI (τ ++ [(k, v)]).length → Q (.inl none, (cW s (rW (((r.s_taskKind (upd r.taskKind i1 k)).s_taskValue (upd r.taskValue i2 v)).s_tasks y) tl), b0, b1, op)) := by
    intro i1 i2 y q1 q2 q3
    rw [q1, q2, q3]
    exact hQ (((r.s_taskKind (upd r.taskKind τ.length k)).s_taskValue (upd r.taskValue τ.length v)).s_tasks (nI (τ ++ [(k, v)]).length)) rfl ⟨⟨h1, h2⟩, ⟨rfl, rwO_app h4⟩, h5⟩
  intro J hJ
  refine hJ _ _ _ _ ?_
  refine And.intro hin ?_
  refine And.intro hin ?_
  exact key _ _ _ ek ek e1
theorem app4 (τ : TL) (a b c d : Int32 × Int32) : τ ++ [a] ++ [b] ++ [c] ++ [d] = τ ++ [a, b, c, d] := by
  rw [List.append_assoc, List.append_assoc, List.append_assoc]
  rfl
theorem R_laterCode {n e : Int32} (hW : WSr r σ τ) (hl : τ.length + 3 < 1200) (hQ : ∀ r', kw r r' → WSr r' σ (τ ++ [(5, 0), (1, e), (-1, n), (4, 0)]) → Q (.inl none, (cW s (rW r' tl), b0, b1, op))) : mj_Mt gT cst gnw (m + 2) y_R_laterCode [.ref 27, .int n, .int e] (cW s (rW r tl), b0, b1, op) Q := by
  have len1 : ∀ (T : TL) (x : Int32 × Int32), (T ++ [x]).length = T.length + 1 := fun T x => by rw [List.length_append]; rfl
  intro J hJ
  refine hJ _ _ _ _ ?_
  refine R_later hW (by omega) (fun r1 k1 w1 => ?_)
  refine R_later w1 (by rw [len1]; omega) (fun r2 k2 w2 => ?_)
  refine R_later w2 (by rw [len1, len1]; omega) (fun r3 k3 w3 => ?_)
  refine R_later w3 (by rw [len1, len1, len1]; omega) (fun r4 k4 w4 => ?_)
  rw [app4] at w4
  exact hQ r4 (kw_tr k1 (kw_tr k2 (kw_tr k3 k4))) w4
def rowK : List Nat → TL
  | [] => [(0, 0), (1, 1)]
  | i :: is => (1, 13) :: (-1, nI i) :: rowK is
def chI (nx : Nat → Int32) : List Nat → Int32 → Prop
  | [], x => x = -1
  | i :: is, x => i < 100 ∧ x = nI i ∧ chI nx is (nx i)
theorem R_laterRow {is : List Nat} {x : Int32} (hc : chI r.next is x) (hW : WSr r σ τ) (hl : τ.length + 2 * is.length + 1 < 1200) (hQ : ∀ r', kw r r' → WSr r' σ (τ ++ rowK is) → Q (.inl none, (cW s (rW r' tl), b0, b1, op))) : mj_Mt gT cst gnw (m + 2) y_R_laterRow [.ref 27, .int x] (cW s (rW r tl), b0, b1, op) Q := by
  have len1 : ∀ (T : TL) (x : Int32 × Int32), (T ++ [x]).length = T.length + 1 := fun T x => by rw [List.length_append]; rfl
  intro J hJ
  have loop : ∀ (is : List Nat) (τ2 : TL) (y : Int32) (r2 : rM), chI r2.next is y → kw r r2 → WSr r2 σ τ2 → τ2.length + 2 * is.length + 1 < 1200 → (∀ r', kw r r' → WSr r' σ (τ2 ++ rowK is) → Q (.inl none, (cW s (rW r' tl), b0, b1, op))) → J 2 [some (.ref 27), some (.int x), some (.int y)] [] (cW s (rW r2 tl), b0, b1, op) := by
    intro is
    induction is with
    | nil =>
      intro τ2 y r2 hc k2 w2 hl hQ
      have hc : y = -1 := hc
      subst hc
      rw [List.length_nil] at hl
      refine hJ _ _ _ _ ?_
      refine And.intro (fun _ => ?_) (fun (g : ¬ (-1 : Int32) < 0) => absurd (by decide) g)
      refine R_later w2 (by omega) (fun r3 k3 w3 => ?_)
      refine R_later w3 (by rw [len1]; omega) (fun r4 k4 w4 => ?_)
      rw [List.append_assoc] at w4
      exact hQ r4 (kw_tr k2 (kw_tr k3 k4)) w4
    | cons i is ih =>
      intro τ2 y r2 hc k2 w2 hl hQ
      obtain ⟨hi, rfl, hc2⟩ := hc
      rw [List.length_cons] at hl
      refine hJ _ _ _ _ ?_
      refine And.intro (fun (g : nI i < 0) => absurd g (nI_pos (by omega))) (fun _ => ?_)
      refine R_later w2 (by omega) (fun r3 k3 w3 => ?_)
      refine R_later w3 (by rw [len1]; omega) (fun r4 k4 w4 => ?_)
      rw [List.append_assoc] at w4
      have k24 := kw_tr k3 k4
      have en : r4.next = r2.next := (kw_e k24).2.1.2.1
      refine And.intro (vp_in_nI hi (by decide)) ?_
      rw [nI_clamp (by omega), en]
      refine ih (τ2 ++ [(1, 13), (-1, nI i)]) _ r4 (by rw [en]; exact hc2) (kw_tr k2 k24) w4 (by rw [List.length_append, List.length_cons, List.length_cons, List.length_nil]; omega) (fun r' q1 q2 => ?_)
      rw [List.append_assoc] at q2
      exact hQ r' q1 q2
  refine hJ _ _ _ _ ?_
  exact loop is τ x r hc rfl hW hl hQ
end YB
end
section
theorem pDg_dig (tx : Nat → Nat) : ∀ (k a : Nat) (v : Int32) (i : Nat), a ≤ i → i < (pDg tx k a v).1 → cD (tx i) = true
  | 0, a, v, i, h1, h2 => by
    have h2 : i < a := h2
    omega
  | k + 1, a, v, i, h1, h2 => by
    unfold pDg at h2
    split at h2
    · next hd =>
      by_cases e : i = a
      · rw [e]
        exact hd
      · exact pDg_dig tx k (a + 1) _ i (by omega) h2
    · have h2 : i < a := h2
      omega
theorem cns_inv {t : Int32 × Int32} {x : (TL × Nat) ⊕ Nat} {D : TL} {a : Nat} (h : cns t x = .inl (D, a)) : ∃ D', x = .inl (D', a) ∧ D = t :: D' := by
  rcases x with ⟨D', a'⟩ | a'
  · cases h
    exact ⟨D', rfl, rfl⟩
  · cases h
section YC
variable {cst : Nat → Option (Nat × (Nat → Int32))} {m b0 b1 : Nat} {op : Bool} {tl : List mj_O} {Q : mj_R → Prop} {s : cS} {r : rM} {σ τ : TL} {tx : Nat → Nat} {len n d a' : Nat} {J : Nat → mj_L → List Value → mj_H → Prop}
set_option maxRecDepth 10000
theorem R_wdLoop (hx : txOK r.text len tx) (ht : r.typed = nI len) (hn : n < 100) (hu : r.until_ n = nI a') (ha' : a' ≤ len) (hJ : ∀ pc ls st h, mj_sg (mj_Mt gT cst gnw (m + 2)) cst gnw (mj_hd (mj_off kO_R_writeDatum) kH_R_writeDatum) kC_R_writeDatum J Q 400 true pc ls st h → J pc ls st h) :
    ∀ (f : Nat) (b : Bool) (o a : Nat) (D σ2 : TL) (r2 : rM) (x3 : Option Value), gD tx f b o d a = .inl (D, a') → a ≤ len → kw r r2 → WSr r2 σ2 τ → σ2.length + D.length ≤ 1200 → (∀ r', kw r r' → WSr r' (σ2 ++ D) τ → Q (.inl none, (cW s (rW r' tl), b0, b1, op))) → J 7 [some (.ref 27), some (.int (nI n)), some (.int (nI a)), x3] [] (cW s (rW r2 tl), b0, b1, op) := by
  have h96 := hx.1
  have hin : vp_in (nI n) 100 := vp_in_nI hn (by decide)
  have ekn : (nI n).toNatClampNeg = n := nI_clamp (by omega)
  have turn : ∀ (a : Nat) (r2 : rM) (x3 : Option Value), kw r r2 → a < a' → (∀ F : Nat, mj_sg (mj_Mt gT cst gnw (m + 2)) cst gnw (mj_hd (mj_off kO_R_writeDatum) kH_R_writeDatum) kC_R_writeDatum J Q (F + 100) false 17 [some (.ref 27), some (.int (nI n)), some (.int (nI a)), x3] [.int (nI (tx a))] (cW s (rW r2 tl), b0, b1, op)) → J 7 [some (.ref 27), some (.int (nI n)), some (.int (nI a)), x3] [] (cW s (rW r2 tl), b0, b1, op) := by
    intro a r2 x3 k2 hlt h
    obtain ⟨⟨-, -, -, e1, -, -⟩, -, e2, e3⟩ := kw_e k2
    refine hJ _ _ _ _ ?_
    refine And.intro hin ?_
    rw [ekn, e1, hu]
    refine And.intro (fun (g : nI a' ≤ nI a) => absurd g (nI_ge hlt (by omega))) (fun _ => ?_)
    refine And.intro (vp_in_nI (show a < 96 by omega) (by decide)) ?_
    have key : ∀ x : Int32, x = nI (tx a) → ∀ F : Nat, mj_sg (mj_Mt gT cst gnw (m + 2)) cst gnw (mj_hd (mj_off kO_R_writeDatum) kH_R_writeDatum) kC_R_writeDatum J Q (F + 100) false 17 [some (.ref 27), some (.int (nI n)), some (.int (nI a)), x3] [.int x] (cW s (rW r2 tl), b0, b1, op) := by
      rintro x rfl F
      exact h F
    refine key _ ?_ _
    show r2.text (nI a).toNatClampNeg = nI (tx a)
    rw [nI_clamp (by omega), e2]
    exact (hx.2.1 a (by omega)).1
  intro f
  induction f with
  | zero => intro b o a D σ2 r2 x3 e; cases e
  | succ f ih =>
    intro b o a D σ2 r2 x3 e ha k2 w2 hl hQ
    have ca := hx.le a
    have nxt : ∀ (a2 : Nat) (x : Int32) (b2 : Bool) (o2 : Nat) (D2 : TL) (r3 : rM) (t : Int32 × Int32) (y3 : Option Value), x = nI a2 → gD tx f b2 o2 d a2 = .inl (D2, a') → D = t :: D2 → a2 ≤ len → kw r2 r3 → WSr r3 (σ2 ++ [t]) τ → J 7 [some (.ref 27), some (.int (nI n)), some (.int x), y3] [] (cW s (rW r3 tl), b0, b1, op) := by
      rintro a2 x b2 o2 D2 r3 t y3 rfl e2 rfl h2 k3 w3
      rw [List.length_cons] at hl
      refine ih b2 o2 a2 D2 (σ2 ++ [t]) r3 y3 e2 h2 (kw_tr k2 k3) w3 (by rw [List.length_append, List.length_cons, List.length_nil]; omega) (fun r' q1 q2 => hQ r' q1 ?_)
      rw [List.append_assoc] at q2
      exact q2
    cases b with
    | false =>
      have e0 : gD tx (f + 1) false o d a = if tx a = 40 then (if d + o < 9 then cns (4, 0) (gD tx f (decide (tx (a + 1) = 41)) (o + 1) d (a + 1)) else .inr a) else if cL (tx a) then cns (2, nI (tx a)) (gD tx f true o d (a + 1)) else if cD (tx (pA1 tx a)) then cns (1, pVal tx a) (gD tx f true o d (pDg tx 4 (pA1 tx a) 0).1) else .inr (pA1 tx a) := rfl
      rw [e0] at e
      split at e
      · next e40 =>
        split at e
        · obtain ⟨D2, q1, q2⟩ := cns_inv e
          have hlt := hx.lt (a := a) (by omega)
          have hle := (gD_len hx f _ (o + 1) d (a + 1) (by omega)).1 D2 a' q1
          refine turn a r2 x3 k2 (by omega) (fun F => ?_)
          refine And.intro (fun (g : ¬ nI (tx a) = 40) => absurd (by rw [e40]; rfl) g) (fun _ => ?_)
          have hl2 : σ2.length < 1200 := by rw [q2, List.length_cons] at hl; omega
          refine R_sign w2 hl2 (fun r3 k3 w3 => ?_)
          exact nxt (a + 1) _ _ _ D2 r3 (4, 0) _ (nI_succ a).symm q1 q2 (by omega) k3 w3
        · cases e
      · next n40 =>
        split at e
        · next hcl =>
          obtain ⟨D2, q1, q2⟩ := cns_inv e
          have hlt := hx.lt (a := a) (fun q => by rw [q] at hcl; exact absurd hcl (by decide))
          have hle := (gD_len hx f true o d (a + 1) (by omega)).1 D2 a' q1
          have hcl2 : 97 ≤ tx a ∧ tx a ≤ 122 := of_decide_eq_true hcl
          refine turn a r2 x3 k2 (by omega) (fun F => ?_)
          refine And.intro (fun _ => ?_) (fun (g : nI (tx a) = 40) => absurd (nIj (j := 40) (by omega) (by decide) g) n40)
          refine And.intro (fun _ => ?_) (fun (g : nI (tx a) = 41) => absurd (nIj (j := 41) (by omega) (by decide) g) (by omega))
          refine R_isLetter (by omega) (fun _ => ?_) (fun w => by rw [hcl] at w; cases w)
          refine And.intro (fun (g : (1 : Int32) = 0) => absurd g (by decide)) (fun _ => ?_)
          have hl2 : σ2.length < 1200 := by rw [q2, List.length_cons] at hl; omega
          refine R_sign w2 hl2 (fun r3 k3 w3 => ?_)
          exact nxt (a + 1) _ _ _ D2 r3 (2, nI (tx a)) _ (nI_succ a).symm q1 q2 (by omega) k3 w3
        · next hcl =>
          split at e
          · next hd =>
            obtain ⟨D2, q1, q2⟩ := cns_inv e
            obtain ⟨w1, w2', w3'⟩ := num_len hx ha hd
            have hle := (gD_len hx f true o d _ w2').1 D2 a' q1
            have hch : tx a = 45 ∨ (48 ≤ tx a ∧ tx a ≤ 57) := by
              by_cases e45 : tx a = 45
              · exact Or.inl e45
              · have e9 : pA1 tx a = a := if_neg e45
                rw [e9] at hd
                exact Or.inr (of_decide_eq_true hd)
            have hclF : cL (tx a) = false := by
              cases hh : cL (tx a) with
              | false => rfl
              | true => exact absurd hh hcl
            refine turn a r2 x3 k2 (by omega) (fun F => ?_)
            refine And.intro (fun _ => ?_) (fun (g : nI (tx a) = 40) => absurd (nIj (j := 40) (by omega) (by decide) g) n40)
            refine And.intro (fun _ => ?_) (fun (g : nI (tx a) = 41) => absurd (nIj (j := 41) (by omega) (by decide) g) (by omega))
            refine R_isLetter (by omega) (fun w => by rw [hclF] at w; cases w) (fun _ => ?_)
            refine And.intro (fun _ => ?_) (fun g => absurd rfl g)
            refine And.intro (fun _ => ?_) (fun (g : nI (tx a) = 32) => absurd (nIj (j := 32) (by omega) (by decide) g) (by omega))
            obtain ⟨-, -, t1, t2⟩ := kw_e k2
            refine R_numberAt (by rw [t1]; exact hx) (by rw [t2]; exact ht) w3' ?_
            have hl2 : σ2.length < 1200 := by rw [q2, List.length_cons] at hl; omega
            refine R_sign w2 hl2 (fun r3 k3 w3 => ?_)
            obtain ⟨⟨-, -, -, u1, -, -⟩, -, u2, u3⟩ := kw_e (kw_tr k2 k3)
            have hdig : ∀ i, a + 1 ≤ i → i < (pDg tx 4 (pA1 tx a) 0).1 → cD (tx i) = true := by
              intro i h1 h2
              refine pDg_dig tx 4 (pA1 tx a) 0 i ?_ h2
              have := (pA1_len hx ha).2.2
              omega
            have hend : (pDg tx 4 (pA1 tx a) 0).1 < a' → cD (tx (pDg tx 4 (pA1 tx a) 0).1) = false := by
              intro hlt
              generalize (pDg tx 4 (pA1 tx a) 0).1 = q at *
              cases f with
              | zero => cases q1
              | succ f =>
                cases o with
                | zero =>
                  cases q1
                  omega
                | succ o =>
                  have e1 : gD tx (f + 1) true (o + 1) d q = if tx q = 41 then cns (5, 0) (gD tx f true o d (q + 1)) else if tx q = 32 then gD tx f false (o + 1) d (q + 1) else .inr q := rfl
                  rw [e1] at q1
                  split at q1
                  · next h => rw [h]; decide
                  · split at q1
                    · next h => rw [h]; decide
                    · cases q1
            have skip : ∀ (j i : Nat), i + j = (pDg tx 4 (pA1 tx a) 0).1 → a + 1 ≤ i → J 57 [some (.ref 27), some (.int (nI n)), some (.int (nI i)), some (.int (nI (tx a)))] [] (cW s (rW r3 tl), b0, b1, op) := by
              intro j
              induction j with
              | zero =>
                intro i hi hi2
                have hi : i = (pDg tx 4 (pA1 tx a) 0).1 := hi
                refine hJ _ _ _ _ ?_
                refine And.intro hin ?_
                rw [ekn, u1, hu]
                have go : J 7 [some (.ref 27), some (.int (nI n)), some (.int (nI i)), some (.int (nI (tx a)))] [] (cW s (rW r3 tl), b0, b1, op) := by
                  rw [hi]
                  exact nxt _ _ _ _ D2 r3 (1, pVal tx a) _ rfl q1 q2 (by omega) k3 w3
                refine And.intro (fun _ => go) (fun (g : ¬ nI a' ≤ nI i) => ?_)
                have hlt : i < a' := Nat.lt_of_not_le (fun w => g (nI_le w (by omega)))
                have ci := hx.le i
                refine And.intro (vp_in_nI (show i < 96 by omega) (by decide)) ?_
                rw [nI_clamp (by omega), u2, (hx.2.1 i (by omega)).1]
                have hcf : cD (tx i) = false := by rw [hi]; exact hend (by omega)
                refine R_isDigit (by omega) (fun w => by rw [hcf] at w; cases w) (fun _ => ?_)
                exact And.intro (fun _ => go) (fun g => absurd rfl g)
              | succ j ihj =>
                intro i hi hi2
                have hlt : i < a' := by omega
                have ci := hx.le i
                refine hJ _ _ _ _ ?_
                refine And.intro hin ?_
                rw [ekn, u1, hu]
                refine And.intro (fun (g : nI a' ≤ nI i) => absurd g (nI_ge hlt (by omega))) (fun _ => ?_)
                refine And.intro (vp_in_nI (show i < 96 by omega) (by decide)) ?_
                rw [nI_clamp (by omega), u2, (hx.2.1 i (by omega)).1]
                have hcf : cD (tx i) = true := hdig i hi2 (by omega)
                refine R_isDigit (by omega) (fun _ => ?_) (fun w => by rw [hcf] at w; cases w)
                refine And.intro (fun (g : (1 : Int32) = 0) => absurd g (by decide)) (fun _ => ?_)
                have key : ∀ x : Int32, x = nI (i + 1) → J 57 [some (.ref 27), some (.int (nI n)), some (.int x), some (.int (nI (tx a)))] [] (cW s (rW r3 tl), b0, b1, op) := by
                  rintro x rfl
                  exact ihj (i + 1) (by omega) (by omega)
                exact key _ (nI_succ i).symm
            have key : ∀ x : Int32, x = nI (a + 1) → J 57 [some (.ref 27), some (.int (nI n)), some (.int x), some (.int (nI (tx a)))] [] (cW s (rW r3 tl), b0, b1, op) := by
              rintro x rfl
              exact skip ((pDg tx 4 (pA1 tx a) 0).1 - (a + 1)) (a + 1) (by omega) (Nat.le_refl _)
            exact key _ (nI_succ a).symm
          · cases e
    | true =>
      cases o with
      | zero =>
        have e : (Sum.inl ([], a) : (TL × Nat) ⊕ Nat) = .inl (D, a') := e
        cases e
        obtain ⟨⟨-, -, -, e1, -, -⟩, -⟩ := kw_e k2
        refine hJ _ _ _ _ ?_
        refine And.intro hin ?_
        rw [ekn, e1, hu]
        refine And.intro (fun _ => ?_) (fun (g : ¬ nI a' ≤ nI a') => absurd (nI_le (Nat.le_refl _) (by omega)) g)
        refine hQ r2 k2 ?_
        rw [List.append_nil]
        exact w2
      | succ o =>
        have e1 : gD tx (f + 1) true (o + 1) d a = if tx a = 41 then cns (5, 0) (gD tx f true o d (a + 1)) else if tx a = 32 then gD tx f false (o + 1) d (a + 1) else .inr a := rfl
        rw [e1] at e
        split at e
        · next e41 =>
          obtain ⟨D2, q1, q2⟩ := cns_inv e
          have hlt := hx.lt (a := a) (by omega)
          have hle := (gD_len hx f true o d (a + 1) (by omega)).1 D2 a' q1
          refine turn a r2 x3 k2 (by omega) (fun F => ?_)
          refine And.intro (fun _ => ?_) (fun (g : nI (tx a) = 40) => absurd (nIj (j := 40) (by omega) (by decide) g) (by omega))
          refine And.intro (fun (g : ¬ nI (tx a) = 41) => absurd (by rw [e41]; rfl) g) (fun _ => ?_)
          have hl2 : σ2.length < 1200 := by rw [q2, List.length_cons] at hl; omega
          refine R_sign w2 hl2 (fun r3 k3 w3 => ?_)
          exact nxt (a + 1) _ _ _ D2 r3 (5, 0) _ (nI_succ a).symm q1 q2 (by omega) k3 w3
        · split at e
          · next n41 e32 =>
            have hlt := hx.lt (a := a) (by omega)
            have hle := (gD_len hx f false (o + 1) d (a + 1) (by omega)).1 D a' e
            refine turn a r2 x3 k2 (by omega) (fun F => ?_)
            refine And.intro (fun _ => ?_) (fun (g : nI (tx a) = 40) => absurd (nIj (j := 40) (by omega) (by decide) g) (by omega))
            refine And.intro (fun _ => ?_) (fun (g : nI (tx a) = 41) => absurd (nIj (j := 41) (by omega) (by decide) g) n41)
            refine R_isLetter (by omega) (fun w => by rw [e32] at w; exact absurd w (by decide)) (fun _ => ?_)
            refine And.intro (fun _ => ?_) (fun g => absurd rfl g)
            refine And.intro (fun (g : ¬ nI (tx a) = 32) => absurd (by rw [e32]; rfl) g) (fun _ => ?_)
            have key : ∀ x : Int32, x = nI (a + 1) → J 7 [some (.ref 27), some (.int (nI n)), some (.int x), some (.int (nI (tx a)))] [] (cW s (rW r2 tl), b0, b1, op) := by
              rintro x rfl
              exact ih false (o + 1) (a + 1) D σ2 r2 _ e (by omega) k2 w2 hl hQ
            exact key _ (nI_succ a).symm
          · cases e
theorem R_writeDatum {a : Nat} {D : TL} (hx : txOK r.text len tx) (ht : r.typed = nI len) (hn : n < 100) (hat : r.at_ n = nI a) (hu : r.until_ n = nI a') (ha : a + 1 ≤ len) (hg : gD tx 200 false 0 d (a + 1) = .inl (D, a')) (hW : WSr r σ τ) (hl : σ.length + D.length ≤ 1200) (hQ : ∀ r', kw r r' → WSr r' (σ ++ D) τ → Q (.inl none, (cW s (rW r' tl), b0, b1, op))) : mj_Mt gT cst gnw (m + 3) y_R_writeDatum [.ref 27, .int (nI n)] (cW s (rW r tl), b0, b1, op) Q := by
  have ha' := ((gD_len hx 200 false 0 d (a + 1) ha).1 D a' hg).2
  intro J hJ
  have loop := R_wdLoop (cst := cst) (m := m) (b0 := b0) (b1 := b1) (op := op) (tl := tl) (s := s) (τ := τ) (d := d) hx ht hn hu ha' hJ 200 false 0 (a + 1) D σ r none hg ha rfl hW hl hQ
  refine hJ _ _ _ _ ?_
  refine And.intro (vp_in_nI hn (by decide)) ?_
  have key : ∀ x : Int32, x = nI (a + 1) → J 7 [some (.ref 27), some (.int (nI n)), some (.int x), none] [] (cW s (rW r tl), b0, b1, op) := by
    rintro x rfl
    exact loop
  refine key _ ?_
  show r.at_ (nI n).toNatClampNeg + Int32.ofInt 1 = nI (a + 1)
  rw [nI_clamp (by omega), hat]
  exact (nI_succ a).symm
end YC
end
