def kwT (r : rM) := (krT r, (r.parts, r.kind, r.at_, r.until_, r.value, r.parent), (r.first, r.last, r.next, r.many, r.letters, r.bound), r.p)
def kw (r r' : rM) : Prop := kwT r' = kwT r
theorem kw_tr {r r' r2 : rM} (h1 : kw r r') (h2 : kw r' r2) : kw r r2 := Eq.trans h2 h1
theorem kw_kr {r r' : rM} (h : kw r r') : kr r r' := show krT r' = krT r from congrArg (fun q => q.1) h
theorem kw_e {r r' : rM} (h : kw r r') : (r'.parts = r.parts ∧ r'.kind = r.kind ∧ r'.at_ = r.at_ ∧ r'.until_ = r.until_ ∧ r'.value = r.value ∧ r'.parent = r.parent) ∧ (r'.first = r.first ∧ r'.next = r.next ∧ r'.letters = r.letters ∧ r'.bound = r.bound) ∧ r'.text = r.text ∧ r'.typed = r.typed :=
  ⟨⟨congrArg (fun q => q.2.1.1) h, congrArg (fun q => q.2.1.2.1) h, congrArg (fun q => q.2.1.2.2.1) h, congrArg (fun q => q.2.1.2.2.2.1) h, congrArg (fun q => q.2.1.2.2.2.2.1) h, congrArg (fun q => q.2.1.2.2.2.2.2) h⟩, ⟨congrArg (fun q => q.2.2.1.1) h, congrArg (fun q => q.2.2.1.2.2.1) h, congrArg (fun q => q.2.2.1.2.2.2.2.1) h, congrArg (fun q => q.2.2.1.2.2.2.2.2) h⟩, kr_text (kw_kr h)⟩
def cnt : TL → Nat
  | [] => 0
  | t :: T => (if t.1 = 5 then 0 else 1) + cnt T
theorem cnt_app : ∀ (A B : TL), cnt (A ++ B) = cnt A + cnt B
  | [], B => by show cnt B = 0 + cnt B; omega
  | t :: A, B => by
    show (if t.1 = 5 then 0 else 1) + cnt (A ++ B) = (if t.1 = 5 then 0 else 1) + cnt A + cnt B
    rw [cnt_app A B]
    omega
theorem cnt_le : ∀ (A : TL), cnt A ≤ A.length
  | [] => Nat.le_refl _
  | t :: A => by
    have := cnt_le A
    show (if t.1 = 5 then 0 else 1) + cnt A ≤ A.length + 1
    split <;> omega
def rwO (f g : Nat → Int32) (T : TL) : Prop := ∀ i t, T[i]? = some t → f i = t.1 ∧ g i = t.2
def WSr (r : rM) (σ τ : TL) : Prop := (r.signs = nI σ.length ∧ rwO r.signKind r.signValue σ) ∧ (r.tasks = nI τ.length ∧ rwO r.taskKind r.taskValue τ) ∧ r.cells = nI (cnt σ)
theorem rwO_app {f g : Nat → Int32} {T : TL} {k v : Int32} (h : rwO f g T) : rwO (upd f T.length k) (upd g T.length v) (T ++ [(k, v)]) := by
  intro i t hi
  unfold upd
  by_cases e : i = T.length
  · subst e
    rw [if_pos rfl, if_pos rfl]
    rw [List.getElem?_append_right (Nat.le_refl _), Nat.sub_self] at hi
    cases hi
    exact ⟨rfl, rfl⟩
  · have hlt : i < T.length := by
      rcases Nat.lt_or_ge i T.length with w | w
      · exact w
      · rw [List.getElem?_eq_none (by rw [List.length_append, List.length_cons, List.length_nil]; omega)] at hi
        cases hi
    rw [if_neg e, if_neg e]
    rw [List.getElem?_append_left hlt] at hi
    exact h i t hi
theorem rwO_pre {f g : Nat → Int32} {A B : TL} (h : rwO f g (A ++ B)) : rwO f g A := by
  intro i t hi
  refine h i t ?_
  have hlt : i < A.length := by
    rcases Nat.lt_or_ge i A.length with w | w
    · exact w
    · rw [List.getElem?_eq_none w] at hi
      cases hi
  rw [List.getElem?_append_left hlt]
  exact hi
section YB
variable {cst : Nat → Option (Nat × (Nat → Int32))} {m b0 b1 : Nat} {op : Bool} {tl : List mj_O} {Q : mj_R → Prop} {s : cS} {r : rM} {σ τ : TL}
set_option maxRecDepth 10000
theorem R_sign {k v : Int32} (hW : WSr r σ τ) (hl : σ.length < 1200) (hQ : ∀ r', kw r r' → WSr r' (σ ++ [(k, v)]) τ → Q (.inl none, (cW s (rW r' tl), b0, b1, op))) : mj_Mt gT cst gnw (m + 1) y_R_sign [.ref 27, .int k, .int v] (cW s (rW r tl), b0, b1, op) Q := by
  obtain ⟨⟨h1, h2⟩, ⟨h3, h4⟩, h5⟩ := hW
  have hin : vp_in r.signs 1200 := by rw [h1]; exact vp_in_nI hl (by decide)
  have ek : r.signs.toNatClampNeg = σ.length := by rw [h1]; exact nI_clamp (by omega)
  have e1 : r.signs + Int32.ofInt 1 = nI (σ ++ [(k, v)]).length := by
    rw [h1, List.length_append, List.length_cons, List.length_nil]
    exact (nI_succ _).symm
  have key : ∀ (i1 i2 : Nat) (y z : Int32), i1 = σ.length → i2 = σ.length → y = nI (σ ++ [(k, v)]).length → z = nI (cnt (σ ++ [(k, v)])) → Q (.inl none, (cW s (rW ((((r.s_signKind (upd r.signKind i1 k)).s_signValue (upd r.signValue i2 v)).s_signs y).s_cells z) tl), b0, b1, op)) := by
    intro i1 i2 y z q1 q2 q3 q4
    rw [q1, q2, q3, q4]
    exact hQ ((((r.s_signKind (upd r.signKind σ.length k)).s_signValue (upd r.signValue σ.length v)).s_signs (nI (σ ++ [(k, v)]).length)).s_cells (nI (cnt (σ ++ [(k, v)])))) rfl ⟨⟨rfl, rwO_app h2⟩, ⟨h3, h4⟩, rfl⟩
  have ec : cnt (σ ++ [(k, v)]) = cnt σ + (if k = 5 then 0 else 1) := by
    rw [cnt_app]
    show cnt σ + ((if k = 5 then 0 else 1) + 0) = _
    omega
  intro J hJ
  refine hJ _ _ _ _ ?_
  refine And.intro hin ?_
  refine And.intro hin ?_
  refine And.intro (fun (g : ¬ k = 5) => ?_) (fun (g : k = 5) => ?_)
  · refine key _ _ _ _ ek ek e1 ?_
    show r.cells + Int32.ofInt 1 = _
    rw [ec, if_neg g, h5]
    exact (nI_succ _).symm
  · refine key _ _ _ _ ek ek e1 ?_
    show r.cells = _
    rw [ec, if_pos g, h5]
    rfl
theorem R_later {k v : Int32} (hW : WSr r σ τ) (hl : τ.length < 1200) (hQ : ∀ r', kw r r' → WSr r' σ (τ ++ [(k, v)]) → Q (.inl none, (cW s (rW r' tl), b0, b1, op))) : mj_Mt gT cst gnw (m + 1) y_R_later [.ref 27, .int k, .int v] (cW s (rW r tl), b0, b1, op) Q := by
  obtain ⟨⟨h1, h2⟩, ⟨h3, h4⟩, h5⟩ := hW
  have hin : vp_in r.tasks 1200 := by rw [h3]; exact vp_in_nI hl (by decide)
  have ek : r.tasks.toNatClampNeg = τ.length := by rw [h3]; exact nI_clamp (by omega)
  have e1 : r.tasks + Int32.ofInt 1 = nI (τ ++ [(k, v)]).length := by
    rw [h3, List.length_append, List.length_cons, List.length_nil]
    exact (nI_succ _).symm
  have key : ∀ (i1 i2 : Nat) (y : Int32), i1 = τ.length → i2 = τ.length → y = nI (τ ++ [(k, v)]).length → Q (.inl none, (cW s (rW (((r.s_taskKind (upd r.taskKind i1 k)).s_taskValue (upd r.taskValue i2 v)).s_tasks y) tl), b0, b1, op)) := by
    intro i1 i2 y q1 q2 q3
    rw [q1, q2, q3]
    exact hQ (((r.s_taskKind (upd r.taskKind τ.length k)).s_taskValue (upd r.taskValue τ.length v)).s_tasks (nI (τ ++ [(k, v)]).length)) rfl ⟨⟨h1, h2⟩, ⟨rfl, rwO_app h4⟩, h5⟩
  intro J hJ
  refine hJ _ _ _ _ ?_
  refine And.intro hin ?_
  refine And.intro hin ?_
  exact key _ _ _ ek ek e1
theorem app4 (τ : TL) (a b c d : Int32 × Int32) : τ ++ [a] ++ [b] ++ [c] ++ [d] = τ ++ [a, b, c, d] := by
  rw [List.append_assoc, List.append_assoc, List.append_assoc]
  rfl
theorem R_laterCode {n e : Int32} (hW : WSr r σ τ) (hl : τ.length + 3 < 1200) (hQ : ∀ r', kw r r' → WSr r' σ (τ ++ [(5, 0), (1, e), (-1, n), (4, 0)]) → Q (.inl none, (cW s (rW r' tl), b0, b1, op))) : mj_Mt gT cst gnw (m + 2) y_R_laterCode [.ref 27, .int n, .int e] (cW s (rW r tl), b0, b1, op) Q := by
  have len1 : ∀ (T : TL) (x : Int32 × Int32), (T ++ [x]).length = T.length + 1 := fun T x => by rw [List.length_append]; rfl
  intro J hJ
  refine hJ _ _ _ _ ?_
  refine R_later hW (by omega) (fun r1 k1 w1 => ?_)
  refine R_later w1 (by rw [len1]; omega) (fun r2 k2 w2 => ?_)
  refine R_later w2 (by rw [len1, len1]; omega) (fun r3 k3 w3 => ?_)
  refine R_later w3 (by rw [len1, len1, len1]; omega) (fun r4 k4 w4 => ?_)
  rw [app4] at w4
  exact hQ r4 (kw_tr k1 (kw_tr k2 (kw_tr k3 k4))) w4
def rowK : List Nat → TL
  | [] => [(0, 0), (1, 1)]
  | i :: is => (1, 13) :: (-1, nI i) :: rowK is
def chI (nx : Nat → Int32) : List Nat → Int32 → Prop
  | [], x => x = -1
  | i :: is, x => i < 100 ∧ x = nI i ∧ chI nx is (nx i)
theorem R_laterRow {is : List Nat} {x : Int32} (hc : chI r.next is x) (hW : WSr r σ τ) (hl : τ.length + 2 * is.length + 1 < 1200) (hQ : ∀ r', kw r r' → WSr r' σ (τ ++ rowK is) → Q (.inl none, (cW s (rW r' tl), b0, b1, op))) : mj_Mt gT cst gnw (m + 2) y_R_laterRow [.ref 27, .int x] (cW s (rW r tl), b0, b1, op) Q := by
  have len1 : ∀ (T : TL) (x : Int32 × Int32), (T ++ [x]).length = T.length + 1 := fun T x => by rw [List.length_append]; rfl
  intro J hJ
  have loop : ∀ (is : List Nat) (τ2 : TL) (y : Int32) (r2 : rM), chI r2.next is y → kw r r2 → WSr r2 σ τ2 → τ2.length + 2 * is.length + 1 < 1200 → (∀ r', kw r r' → WSr r' σ (τ2 ++ rowK is) → Q (.inl none, (cW s (rW r' tl), b0, b1, op))) → J 2 [some (.ref 27), some (.int x), some (.int y)] [] (cW s (rW r2 tl), b0, b1, op) := by
    intro is
    induction is with
    | nil =>
      intro τ2 y r2 hc k2 w2 hl hQ
      have hc : y = -1 := hc
      subst hc
      rw [List.length_nil] at hl
      refine hJ _ _ _ _ ?_
      refine And.intro (fun _ => ?_) (fun (g : ¬ (-1 : Int32) < 0) => absurd (by decide) g)
      refine R_later w2 (by omega) (fun r3 k3 w3 => ?_)
      refine R_later w3 (by rw [len1]; omega) (fun r4 k4 w4 => ?_)
      rw [List.append_assoc] at w4
      exact hQ r4 (kw_tr k2 (kw_tr k3 k4)) w4
    | cons i is ih =>
      intro τ2 y r2 hc k2 w2 hl hQ
      obtain ⟨hi, rfl, hc2⟩ := hc
      rw [List.length_cons] at hl
      refine hJ _ _ _ _ ?_
      refine And.intro (fun (g : nI i < 0) => absurd g (nI_pos (by omega))) (fun _ => ?_)
      refine R_later w2 (by omega) (fun r3 k3 w3 => ?_)
      refine R_later w3 (by rw [len1]; omega) (fun r4 k4 w4 => ?_)
      rw [List.append_assoc] at w4
      have k24 := kw_tr k3 k4
      have en : r4.next = r2.next := (kw_e k24).2.1.2.1
      refine And.intro (vp_in_nI hi (by decide)) ?_
      rw [nI_clamp (by omega), en]
      refine ih (τ2 ++ [(1, 13), (-1, nI i)]) _ r4 (by rw [en]; exact hc2) (kw_tr k2 k24) w4 (by rw [List.length_append, List.length_cons, List.length_cons, List.length_nil]; omega) (fun r' q1 q2 => ?_)
      rw [List.append_assoc] at q2
      exact hQ r' q1 q2
  refine hJ _ _ _ _ ?_
  exact loop is τ x r hc rfl hW hl hQ
end YB
