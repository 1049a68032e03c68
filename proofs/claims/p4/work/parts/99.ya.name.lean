section
def FRb (r : rM) (v : Nat) (ls : List Nat) : Prop := r.kind v = 5 ∧ r.value v = nI ls.length ∧ ls.length ≤ 3 ∧ (∀ i c, ls[i]? = some c → r.letters (3 * v + i) = nI c) ∧ (∀ c ∈ ls, c < 256)
def FRk (r : rM) (v : Nat) (ls : List Nat) : Prop := (r.kind v = 6 ∨ r.kind v = 7) ∧ ∃ i1, i1 < 100 ∧ r.first v = nI i1 ∧ chL r.next r.bound (ls.map nI) (r.next i1) ∧ (∀ c ∈ ls, c < 256) ∧ ls.length ≤ 3
def CHd (r : rM) : Nat → Nat → Fr → Prop
  | 0, n, φ => r.parent n = -1 ∧ φ = []
  | k + 1, n, φ => ∃ v φ', v < 100 ∧ r.parent n = nI v ∧ CHd r k v φ' ∧
      ((∃ ls, φ = ls :: φ' ∧ (FRb r v ls ∨ (FRk r v ls ∧ (r.kind v = 7 ∨ r.first v = nI n)))) ∨ (φ = φ' ∧ ¬ r.kind v = 5 ∧ ¬ r.kind v = 7 ∧ (¬ r.kind v = 6 ∨ ¬ r.first v = nI n)))
section YA
variable {cst : Nat → Option (Nat × (Nat → Int32))} {m b0 b1 : Nat} {op : Bool} {tl : List mj_O} {Q : mj_R → Prop} {s : cS} {r : rM}
set_option maxRecDepth 10000
theorem R_placeIn {v c : Nat} {ls : List Nat} (hv : v < 100) (hc : c < 256) (h : FRb r v ls ∨ FRk r v ls) (hQ : Q (.inl (some (.int (oV (plc c ls 0)))), (cW s (rW r tl), b0, b1, op))) : mj_Mt gT cst gnw (m + 1) y_R_placeIn [.ref 27, .int (nI v), .int (nI c)] (cW s (rW r tl), b0, b1, op) Q := by
  have hiv : vp_in (nI v) 100 := vp_in_nI hv (by decide)
  have ekv : (nI v).toNatClampNeg = v := nI_clamp (by omega)
  intro J hJ
  rcases h with ⟨h1, h2, h3, h4, h5⟩ | ⟨h1, i1, h2, h3, h4, h5, -⟩
  · have loop : ∀ (rest : List Nat) (k : Nat), k + rest.length = ls.length → (∀ i, rest[i]? = ls[k + i]?) → plc c rest k = plc c ls 0 → J 8 [some (.ref 27), some (.int (nI v)), some (.int (nI c)), some (.int (nI k)), none] [] (cW s (rW r tl), b0, b1, op) := by
      intro rest
      induction rest with
      | nil =>
        intro k hk hr e
        have hk : k = ls.length := hk
        refine hJ _ _ _ _ ?_
        refine And.intro hiv ?_
        rw [ekv, h2]
        refine And.intro (fun _ => ?_) (fun (g : ¬ nI ls.length ≤ nI k) => absurd (nI_le (by omega) (by omega)) g)
        rw [← e] at hQ
        exact hQ
      | cons y rest ih =>
        intro k hk hr e
        rw [List.length_cons] at hk
        have hy : ls[k]? = some y := by
          have := hr 0
          rw [Nat.add_zero] at this
          exact this.symm
        have hy256 : y < 256 := h5 y (List.mem_of_getElem? hy)
        have i3 : Int32.ofInt 3 * nI v + nI k = nI (3 * v + k) := by rw [three_n, nI_add]
        refine hJ _ _ _ _ ?_
        refine And.intro hiv ?_
        rw [ekv, h2]
        refine And.intro (fun (g : nI ls.length ≤ nI k) => absurd g (nI_ge (by omega) (by omega))) (fun _ => ?_)
        refine And.intro (show vp_in (Int32.ofInt 3 * nI v + nI k) 300 by rw [i3]; exact vp_in_nI (by omega) (by decide)) ?_
        rw [i3, nI_clamp (by omega), h4 k y hy]
        have e0 : plc c (y :: rest) k = if y = c then some k else plc c rest (k + 1) := rfl
        rw [e0] at e
        refine And.intro (fun (g : ¬ nI y = nI c) => ?_) (fun (g : nI y = nI c) => ?_)
        · have ne : ¬ y = c := fun q => g (by rw [q])
          rw [if_neg ne] at e
          have key : ∀ x : Int32, x = nI (k + 1) → J 8 [some (.ref 27), some (.int (nI v)), some (.int (nI c)), some (.int x), none] [] (cW s (rW r tl), b0, b1, op) := by
            rintro x rfl
            refine ih (k + 1) (by omega) (fun i => ?_) e
            have := hr (i + 1)
            rw [show k + (i + 1) = k + 1 + i by omega] at this
            exact this
          exact key _ (nI_succ k).symm
        · have eq : y = c := nIj (by omega) (by omega) g
          rw [if_pos eq] at e
          rw [← e] at hQ
          exact hQ
    refine hJ _ _ _ _ ?_
    refine And.intro hiv ?_
    rw [ekv, h1]
    refine And.intro (fun (g : ¬ (5 : Int32) = 5) => absurd rfl g) (fun _ => ?_)
    exact loop ls 0 (by omega) (fun i => by rw [Nat.zero_add]) rfl
  · have loop : ∀ (rest : List Nat) (k : Nat) (x : Int32), chL r.next r.bound (rest.map nI) x → (∀ c ∈ rest, c < 256) → plc c rest k = plc c ls 0 → J 40 [some (.ref 27), some (.int (nI v)), some (.int (nI c)), some (.int (nI k)), some (.int x)] [] (cW s (rW r tl), b0, b1, op) := by
      intro rest
      induction rest with
      | nil =>
        intro k x hx hb e
        have hx : x = -1 := hx
        subst hx
        refine hJ _ _ _ _ ?_
        refine And.intro (fun _ => ?_) (fun (g : ¬ (-1 : Int32) < 0) => absurd (by decide) g)
        rw [← e] at hQ
        exact hQ
      | cons y rest ih =>
        intro k x hx hb e
        obtain ⟨i, hi, rfl, hbi, hx2⟩ := hx
        have hii : vp_in (nI i) 100 := vp_in_nI hi (by decide)
        have eki : (nI i).toNatClampNeg = i := nI_clamp (by omega)
        have hy256 : y < 256 := hb y List.mem_cons_self
        refine hJ _ _ _ _ ?_
        refine And.intro (fun (g : nI i < 0) => absurd g (nI_pos (by omega))) (fun _ => ?_)
        refine And.intro hii ?_
        rw [eki, hbi]
        have e0 : plc c (y :: rest) k = if y = c then some k else plc c rest (k + 1) := rfl
        rw [e0] at e
        refine And.intro (fun (g : ¬ nI y = nI c) => ?_) (fun (g : nI y = nI c) => ?_)
        · have ne : ¬ y = c := fun q => g (by rw [q])
          rw [if_neg ne] at e
          refine And.intro hii ?_
          rw [eki]
          have key : ∀ x : Int32, x = nI (k + 1) → J 40 [some (.ref 27), some (.int (nI v)), some (.int (nI c)), some (.int x), some (.int (r.next i))] [] (cW s (rW r tl), b0, b1, op) := by
            rintro x rfl
            exact ih (k + 1) _ hx2 (fun c hc => hb c (List.mem_cons_of_mem _ hc)) e
          exact key _ (nI_succ k).symm
        · have eq : y = c := nIj (by omega) (by omega) g
          rw [if_pos eq] at e
          rw [← e] at hQ
          exact hQ
    refine hJ _ _ _ _ ?_
    refine And.intro hiv ?_
    rw [ekv]
    refine And.intro (fun _ => ?_) (fun (g : r.kind v = 5) => by rcases h1 with w | w <;> rw [w] at g <;> exact absurd g (by decide))
    refine And.intro hiv ?_
    rw [ekv, h3]
    refine And.intro (vp_in_nI h2 (by decide)) ?_
    rw [nI_clamp (by omega)]
    exact loop ls 0 _ h4 h5 rfl
theorem plc_lt {c : Nat} : ∀ (ls : List Nat) (k i : Nat), plc c ls k = some i → k ≤ i ∧ i < k + ls.length
  | [], k, i, h => by cases h
  | y :: ls, k, i, h => by
    have e0 : plc c (y :: ls) k = if y = c then some k else plc c ls (k + 1) := rfl
    rw [e0] at h
    rw [List.length_cons]
    split at h
    · cases h
      omega
    · have := plc_lt ls (k + 1) i h
      omega
theorem R_resolved {nm c k0 : Nat} {φ0 : Fr} (hn : nm < 100) (hv : r.value nm = nI c) (hc : c < 256) (hch : CHd r k0 nm φ0) (hQ : Q (.inl (some (.int (lkF c (-1) φ0 0))), (cW s (rW r tl), b0, b1, op))) : mj_Mt gT cst gnw (m + 2) y_R_resolved [.ref 27, .int (nI nm)] (cW s (rW r tl), b0, b1, op) Q := by
  have hin : vp_in (nI nm) 100 := vp_in_nI hn (by decide)
  have ekn : (nI nm).toNatClampNeg = nm := nI_clamp (by omega)
  intro J hJ
  have loop : ∀ (k fr j : Nat) (φ : Fr) (x5 x6 : Option Value), fr < 100 → CHd r k fr φ → lkF c (-1) φ j = lkF c (-1) φ0 0 → J 9 [some (.ref 27), some (.int (nI nm)), some (.int (nI j)), some (.int (nI fr)), some (.int (r.parent fr)), x5, x6] [] (cW s (rW r tl), b0, b1, op) := by
    intro k
    induction k with
    | zero =>
      intro fr j φ x5 x6 hfr hcd e
      obtain ⟨h1, rfl⟩ := hcd
      rw [h1]
      refine hJ _ _ _ _ ?_
      refine And.intro (fun _ => ?_) (fun (g : ¬ (-1 : Int32) < 0) => absurd (by decide) g)
      rw [← e] at hQ
      exact hQ
    | succ k ih =>
      intro fr j φ x5 x6 hfr hcd e
      obtain ⟨v, φ', hv1, h1, h2, h3⟩ := hcd
      rw [h1]
      have hiv : vp_in (nI v) 100 := vp_in_nI hv1 (by decide)
      have ekv : (nI v).toNatClampNeg = v := nI_clamp (by omega)
      have up : ∀ (j2 : Nat) (z : Int32) (w5 w6 : Int32), z = nI j2 → lkF c (-1) φ' j2 = lkF c (-1) φ0 0 → J 9 [some (.ref 27), some (.int (nI nm)), some (.int z), some (.int (nI v)), some (.int (r.parent v)), some (.int w5), some (.int w6)] [] (cW s (rW r tl), b0, b1, op) := by
        rintro j2 z w5 w6 rfl e2
        exact ih v j2 φ' _ _ hv1 h2 e2
      have fra : ∀ ls, φ = ls :: φ' → (FRb r v ls ∨ FRk r v ls) → ∀ F : Nat, mj_sg (mj_Mt gT cst gnw (m + 1)) cst gnw (mj_hd (mj_off kO_R_resolved) kH_R_resolved) kC_R_resolved J Q (F + 100) false 35 [some (.ref 27), some (.int (nI nm)), some (.int (nI j)), some (.int (nI fr)), some (.int (nI v)), x5, x6] [] (cW s (rW r tl), b0, b1, op) := by
        intro ls eφ hF F
        rw [eφ] at e
        have e0 : lkF c (-1) (ls :: φ') j = match plc c ls 0 with | some i => nI (16 * j + i) | none => lkF c (-1) φ' (j + 1) := rfl
        rw [e0] at e
        refine And.intro (fun (g : (1 : Int32) = 0) => absurd g (by decide)) (fun _ => ?_)
        refine And.intro hin ?_
        rw [ekn, hv]
        refine R_placeIn hv1 hc hF ?_
        cases hp : plc c ls 0 with
        | none =>
          rw [hp] at e
          refine And.intro (fun _ => ?_) (fun (g : ¬ oV none < 0) => absurd (by decide) g)
          refine And.intro (fun (g : (1 : Int32) = 0) => absurd g (by decide)) (fun _ => ?_)
          refine And.intro hiv ?_
          rw [ekv]
          exact up (j + 1) _ _ _ (nI_succ j).symm e
        | some i =>
          rw [hp] at e
          have hi : i < 2 ^ 31 := by
            have := plc_lt ls 0 i hp
            rcases hF with ⟨-, -, w, -⟩ | ⟨-, i1, -, -, -, -, w⟩
            · omega
            · omega
          refine And.intro (fun (g : nI i < 0) => absurd g (nI_pos hi)) (fun _ => ?_)
          have key : ∀ x : Int32, x = lkF c (-1) φ0 0 → Q (.inl (some (.int x)), (cW s (rW r tl), b0, b1, op)) := by
            rintro x rfl
            exact hQ
          refine key _ ?_
          rw [← e]
          show nI 16 * nI j + nI i = nI (16 * j + i)
          have : nI 16 * nI j = nI (16 * j) := (Int32.ofNat_mul 16 j).symm
          rw [this, nI_add]
      have nof : φ = φ' → ∀ F : Nat, mj_sg (mj_Mt gT cst gnw (m + 1)) cst gnw (mj_hd (mj_off kO_R_resolved) kH_R_resolved) kC_R_resolved J Q (F + 60) false 37 [some (.ref 27), some (.int (nI nm)), some (.int (nI j)), some (.int (nI fr)), some (.int (nI v)), x5, x6] [] (cW s (rW r tl), b0, b1, op) := by
        intro eφ F
        rw [eφ] at e
        refine And.intro (fun _ => ?_) (fun g => absurd rfl g)
        refine And.intro (fun _ => ?_) (fun (g : ¬ Int32.ofInt (-1) < 0) => absurd (by decide) g)
        refine And.intro (fun _ => ?_) (fun g => absurd rfl g)
        refine And.intro hiv ?_
        rw [ekv]
        exact up j _ _ _ rfl e
      refine hJ _ _ _ _ ?_
      refine And.intro (fun (g : nI v < 0) => absurd g (nI_pos (by omega))) (fun _ => ?_)
      refine And.intro hiv ?_
      rw [ekv]
      rcases h3 with ⟨ls, eφ, hF⟩ | ⟨eφ, n5, n7, n6⟩
      · have hF2 : FRb r v ls ∨ FRk r v ls := hF.elim Or.inl (fun w => Or.inr w.1)
        refine And.intro (fun _ => fra ls eφ hF2 _) (fun (g5 : ¬ r.kind v = 5) => ?_)
        refine And.intro hiv ?_
        rw [ekv]
        refine And.intro (fun _ => fra ls eφ hF2 _) (fun (g7 : ¬ r.kind v = 7) => ?_)
        have hK : r.kind v = 6 ∧ r.first v = nI fr := by
          rcases hF with w | ⟨⟨w1, -⟩, w2⟩
          · exact absurd w.1 g5
          · exact ⟨w1.resolve_right g7, w2.resolve_left g7⟩
        refine And.intro hiv ?_
        rw [ekv]
        refine And.intro (fun (g6 : ¬ r.kind v = 6) => absurd hK.1 g6) (fun _ => ?_)
        refine And.intro hiv ?_
        rw [ekv, hK.2]
        exact And.intro (fun (g : ¬ nI fr = nI fr) => absurd rfl g) (fun _ => fra ls eφ hF2 _)
      · refine And.intro (fun (g : r.kind v = 5) => absurd g n5) (fun _ => ?_)
        refine And.intro hiv ?_
        rw [ekv]
        refine And.intro (fun (g : r.kind v = 7) => absurd g n7) (fun _ => ?_)
        refine And.intro hiv ?_
        rw [ekv]
        refine And.intro (fun _ => nof eφ _) (fun (g : r.kind v = 6) => ?_)
        refine And.intro hiv ?_
        rw [ekv]
        refine And.intro (fun _ => nof eφ _) (fun (g2 : nI fr = r.first v) => ?_)
        exact n6.elim (fun w => absurd g w) (fun w => absurd g2.symm w)
  refine hJ _ _ _ _ ?_
  refine And.intro hin ?_
  rw [ekn]
  exact loop k0 nm 0 φ0 none none hn hch rfl
end YA
theorem lkF_ud {r : rM} {c : Nat} {u : Int32} : ∀ (k n : Nat) (φ : Fr) (j : Nat), CHd r k n φ → j + k ≤ 600 → (lkF c (-1) φ j = -1 ∧ lkF c u φ j = u) ∨ ∃ X, X < 10000 ∧ lkF c (-1) φ j = nI X ∧ lkF c u φ j = nI X
  | 0, n, φ, j, h, _ => by
    obtain ⟨-, rfl⟩ := h
    exact Or.inl ⟨rfl, rfl⟩
  | k + 1, n, φ, j, h, hb => by
    obtain ⟨v, φ', hv, h1, h2, h3⟩ := h
    rcases h3 with ⟨ls, rfl, hF⟩ | ⟨rfl, -⟩
    · have hl : ls.length ≤ 3 := by
        rcases hF with ⟨-, -, w, -⟩ | ⟨⟨-, i1, -, -, -, -, w⟩, -⟩
        · exact w
        · exact w
      have e0 : ∀ u, lkF c u (ls :: φ') j = match plc c ls 0 with | some i => nI (16 * j + i) | none => lkF c u φ' (j + 1) := fun _ => rfl
      rw [e0, e0]
      cases hp : plc c ls 0 with
      | none => exact lkF_ud k v φ' (j + 1) h2 (by omega)
      | some i =>
        have := plc_lt ls 0 i hp
        exact Or.inr ⟨16 * j + i, by omega, rfl, rfl⟩
    · exact lkF_ud k v φ j h2 (by omega)
theorem nr_lk {r : rM} {c a k n : Nat} {φ : Fr} (h : CHd r k n φ) (hk : k ≤ 600) (ha : a ≤ 96) : nr (lkF c (uP a) φ 0) = lkF c (-1) φ 0 := by
  rcases lkF_ud (c := c) (u := uP a) k n φ 0 h (by omega) with ⟨e1, e2⟩ | ⟨X, hX, e1, e2⟩
  · rw [e1, e2]
    exact if_pos (uP_neg ha)
  · rw [e1, e2]
    exact if_neg (nI_pos (by omega))
end
section
def kwT (r : rM) := (krT r, (r.parts, r.kind, r.at_, r.until_, r.value, r.parent), (r.first, r.last, r.next, r.many, r.letters, r.bound), r.p)
def kw (r r' : rM) : Prop := kwT r' = kwT r
theorem kw_tr {r r' r2 : rM} (h1 : kw r r') (h2 : kw r' r2) : kw r r2 := Eq.trans h2 h1
theorem kw_kr {r r' : rM} (h : kw r r') : kr r r' := show krT r' = krT r from congrArg (fun q => q.1) h
theorem kw_e {r r' : rM} (h : kw r r') : (r'.parts = r.parts ∧ r'.kind = r.kind ∧ r'.at_ = r.at_ ∧ r'.until_ = r.until_ ∧ r'.value = r.value ∧ r'.parent = r.parent) ∧ (r'.first = r.first ∧ r'.next = r.next ∧ r'.letters = r.letters ∧ r'.bound = r.bound) ∧ r'.text = r.text ∧ r'.typed = r.typed :=
  ⟨⟨congrArg (fun q => q.2.1.1) h, congrArg (fun q => q.2.1.2.1) h, congrArg (fun q => q.2.1.2.2.1) h, congrArg (fun q => q.2.1.2.2.2.1) h, congrArg (fun q => q.2.1.2.2.2.2.1) h, congrArg (fun q => q.2.1.2.2.2.2.2) h⟩, ⟨congrArg (fun q => q.2.2.1.1) h, congrArg (fun q => q.2.2.1.2.2.1) h, congrArg (fun q => q.2.2.1.2.2.2.2.1) h, congrArg (fun q => q.2.2.1.2.2.2.2.2) h⟩, kr_text (kw_kr h)⟩
def cnt : TL → Nat
  | [] => 0
  | t :: T => (if t.1 = 5 then 0 else 1) + cnt T
theorem cnt_app : ∀ (A B : TL), cnt (A ++ B) = cnt A + cnt B
  | [], B => by show cnt B = 0 + cnt B; omega
  | t :: A, B => by
    show (if t.1 = 5 then 0 else 1) + cnt (A ++ B) = (if t.1 = 5 then 0 else 1) + cnt A + cnt B
    rw [cnt_app A B]
    omega
theorem cnt_le : ∀ (A : TL), cnt A ≤ A.length
  | [] => Nat.le_refl _
  | t :: A => by
    have := cnt_le A
    show (if t.1 = 5 then 0 else 1) + cnt A ≤ A.length + 1
    split <;> omega
def rwO (f g : Nat → Int32) (T : TL) : Prop := ∀ i t, T[i]? = some t → f i = t.1 ∧ g i = t.2
def WSr (r : rM) (σ τ : TL) : Prop := (r.signs = nI σ.length ∧ rwO r.signKind r.signValue σ) ∧ (r.tasks = nI τ.length ∧ rwO r.taskKind r.taskValue τ) ∧ r.cells = nI (cnt σ)
theorem rwO_app {f g : Nat → Int32} {T : TL} {k v : Int32} (h : rwO f g T) : rwO (upd f T.length k) (upd g T.length v) (T ++ [(k, v)]) := by
  intro i t hi
  unfold upd
  by_cases e : i = T.length
  · subst e
    rw [if_pos rfl, if_pos rfl]
    rw [List.getElem?_append_right (Nat.le_refl _), Nat.sub_self] at hi
    cases hi
    exact ⟨rfl, rfl⟩
  · have hlt : i < T.length := by
      rcases Nat.lt_or_ge i T.length with w | w
      · exact w
      · rw [List.getElem?_eq_none (by rw [List.length_append, List.length_cons, List.length_nil]; omega)] at hi
        cases hi
    rw [if_neg e, if_neg e]
    rw [List.getElem?_append_left hlt] at hi
    exact h i t hi
theorem rwO_pre {f g : Nat → Int32} {A B : TL} (h : rwO f g (A ++ B)) : rwO f g A := by
  intro i t hi
  refine h i t ?_
  have hlt : i < A.length := by
    rcases Nat.lt_or_ge i A.length with w | w
    · exact w
    · rw [List.getElem?_eq_none w] at hi
      cases hi
  rw [List.getElem?_append_left hlt]
  exact hi
section YB
variable {cst : Nat → Option (Nat × (Nat → Int32))} {m b0 b1 : Nat} {op : Bool} {tl : List mj_O} {Q : mj_R → Prop} {s : cS} {r : rM} {σ τ : TL}
set_option maxRecDepth 10000
theorem R_sign {k v : Int32} (hW : WSr r σ τ) (hl : σ.length < 1200) (hQ : ∀ r', kw r r' → WSr r' (σ ++ [(k, v)]) τ → Q (.inl none, (cW s (rW r' tl), b0, b1, op))) : mj_Mt gT cst gnw (m + 1) y_R_sign [.ref 27, .int k, .int v] (cW s (rW r tl), b0, b1, op) Q := by
  obtain ⟨⟨h1, h2⟩, ⟨h3, h4⟩, h5⟩ := hW
  have hin : vp_in r.signs 1200 := by rw [h1]; exact vp_in_nI hl (by decide)
  have ek : r.signs.toNatClampNeg = σ.length := by rw [h1]; exact nI_clamp (by omega)
  have e1 : r.signs + Int32.ofInt 1 = nI (σ ++ [(k, v)]).length := by
    rw [h1, List.length_append, List.length_cons, List.length_nil]
    exact (nI_succ _).symm
  have key : ∀ (i1 i2 : Nat) (y z : Int32), i1 = σ.length → i2 = σ.length → y = nI (σ ++ [(k, v)]).length → z = nI (cnt (σ ++ [(k, v)])) → Q (.inl none, (cW s (rW ((((r.s_signKind (upd r.signKind i1 k)).s_signValue (upd r.signValue i2 v)).s_signs y).s_cells z) tl), b0, b1, op)) := by
    intro i1 i2 y z q1 q2 q3 q4
    rw [q1, q2, q3, q4]
    exact hQ ((((r.s_signKind (upd r.signKind σ.length k)).s_signValue (upd r.signValue σ.length v)).s_signs (nI (σ ++ [(k, v)]).length)).s_cells (nI (cnt (σ ++ [(k, v)])))) rfl ⟨⟨rfl, rwO_app h2⟩, ⟨h3, h4⟩, rfl⟩
  have ec : cnt (σ ++ [(k, v)]) = cnt σ + (if k = 5 then 0 else 1) := by
    rw [cnt_app]
    show cnt σ + ((if k = 5 then 0 else 1) + 0) = _
    omega
  intro J hJ
  refine hJ _ _ _ _ ?_
  refine And.intro hin ?_
  refine And.intro hin ?_
  refine And.intro (fun (g : ¬ k = 5) => ?_) (fun (g : k = 5) => ?_)
  · refine key _ _ _ _ ek ek e1 ?_
    show r.cells + Int32.ofInt 1 = _
    rw [ec, if_neg g, h5]
    exact (nI_succ _).symm
  · refine key _ _ _ _ ek ek e1 ?_
    show r.cells = _
    rw [ec, if_pos g, h5]
    rfl
theorem R_later {k v : Int32} (hW : WSr r σ τ) (hl : τ.length < 1200) (hQ : ∀ r', kw r r' → WSr r' σ (τ ++ [(k, v)]) → Q (.inl none, (cW s (rW r' tl), b0, b1, op))) : mj_Mt gT cst gnw (m + 1) y_R_later [.ref 27, .int k, .int v] (cW s (rW r tl), b0, b1, op) Q := by
  obtain ⟨⟨h1, h2⟩, ⟨h3, h4⟩, h5⟩ := hW
  have hin : vp_in r.tasks 1200 := by rw [h3]; exact vp_in_nI hl (by decide)
  have ek : r.tasks.toNatClampNeg = τ.length := by rw [h3]; exact nI_clamp (by omega)
  have e1 : r.tasks + Int32.ofInt 1 = nI (τ ++ [(k, v)]).length := by
    rw [h3, List.length_append, List.length_cons, List.length_nil]
    exact (nI_succ _).symm
  have key : ∀ (i1 i2 : Nat) (y : Int32), i1 = τ.length → i2 = τ.length → y = nI (τ ++ [(k, v)]).length → Q (.inl none, (cW s (rW (((r.s_taskKind (upd r.taskKind i1 k)).s_taskValue (upd r.taskValue i2 v)).s_tasks y) tl), b0, b1, op)) := by
    intro i1 i2 y q1 q2 q3
    rw [q1, q2, q3]
    exact hQ (((r.s_taskKind (upd r.taskKind τ.length k)).s_taskValue (upd r.taskValue τ.length v)).s_tasks (nI (τ ++ [(k, v)]).length)) rfl ⟨⟨h1, h2⟩, ⟨rfl, rwO_app h4⟩, h5⟩
  intro J hJ
  refine hJ _ _ _ _ ?_
  refine And.intro hin ?_
  refine And.intro hin ?_
  exact key _ _ _ ek ek e1
theorem app4 (τ : TL) (a b c d : Int32 × Int32) : τ ++ [a] ++ [b] ++ [c] ++ [d] = τ ++ [a, b, c, d] := by
  rw [List.append_assoc, List.append_assoc, List.append_assoc]
  rfl
theorem R_laterCode {n e : Int32} (hW : WSr r σ τ) (hl : τ.length + 3 < 1200) (hQ : ∀ r', kw r r' → WSr r' σ (τ ++ [(5, 0), (1, e), (-1, n), (4, 0)]) → Q (.inl none, (cW s (rW r' tl), b0, b1, op))) : mj_Mt gT cst gnw (m + 2) y_R_laterCode [.ref 27, .int n, .int e] (cW s (rW r tl), b0, b1, op) Q := by
  have len1 : ∀ (T : TL) (x : Int32 × Int32), (T ++ [x]).length = T.length + 1 := fun T x => by rw [List.length_append]; rfl
  intro J hJ
  refine hJ _ _ _ _ ?_
  refine R_later hW (by omega) (fun r1 k1 w1 => ?_)
  refine R_later w1 (by rw [len1]; omega) (fun r2 k2 w2 => ?_)
  refine R_later w2 (by rw [len1, len1]; omega) (fun r3 k3 w3 => ?_)
  refine R_later w3 (by rw [len1, len1, len1]; omega) (fun r4 k4 w4 => ?_)
  rw [app4] at w4
  exact hQ r4 (kw_tr k1 (kw_tr k2 (kw_tr k3 k4))) w4
def rowK : List Nat → TL
  | [] => [(0, 0), (1, 1)]
  | i :: is => (1, 13) :: (-1, nI i) :: rowK is
def chI (nx : Nat → Int32) : List Nat → Int32 → Prop
  | [], x => x = -1
  | i :: is, x => i < 100 ∧ x = nI i ∧ chI nx is (nx i)
theorem R_laterRow {is : List Nat} {x : Int32} (hc : chI r.next is x) (hW : WSr r σ τ) (hl : τ.length + 2 * is.length + 1 < 1200) (hQ : ∀ r', kw r r' → WSr r' σ (τ ++ rowK is) → Q (.inl none, (cW s (rW r' tl), b0, b1, op))) : mj_Mt gT cst gnw (m + 2) y_R_laterRow [.ref 27, .int x] (cW s (rW r tl), b0, b1, op) Q := by
  have len1 : ∀ (T : TL) (x : Int32 × Int32), (T ++ [x]).length = T.length + 1 := fun T x => by rw [List.length_append]; rfl
  intro J hJ
  have loop : ∀ (is : List Nat) (τ2 : TL) (y : Int32) (r2 : rM), chI r2.next is y → kw r r2 → WSr r2 σ τ2 → τ2.length + 2 * is.length + 1 < 1200 → (∀ r', kw r r' → WSr r' σ (τ2 ++ rowK is) → Q (.inl none, (cW s (rW r' tl), b0, b1, op))) → J 2 [some (.ref 27), some (.int x), some (.int y)] [] (cW s (rW r2 tl), b0, b1, op) := by
    intro is
    induction is with
    | nil =>
      intro τ2 y r2 hc k2 w2 hl hQ
      have hc : y = -1 := hc
      subst hc
      rw [List.length_nil] at hl
      refine hJ _ _ _ _ ?_
      refine And.intro (fun _ => ?_) (fun (g : ¬ (-1 : Int32) < 0) => absurd (by decide) g)
      refine R_later w2 (by omega) (fun r3 k3 w3 => ?_)
      refine R_later w3 (by rw [len1]; omega) (fun r4 k4 w4 => ?_)
      rw [List.append_assoc] at w4
      exact hQ r4 (kw_tr k2 (kw_tr k3 k4)) w4
    | cons i is ih =>
      intro τ2 y r2 hc k2 w2 hl hQ
      obtain ⟨hi, rfl, hc2⟩ := hc
      rw [List.length_cons] at hl
      refine hJ _ _ _ _ ?_
      refine And.intro (fun (g : nI i < 0) => absurd g (nI_pos (by omega))) (fun _ => ?_)
      refine R_later w2 (by omega) (fun r3 k3 w3 => ?_)
      refine R_later w3 (by rw [len1]; omega) (fun r4 k4 w4 => ?_)
      rw [List.append_assoc] at w4
      have k24 := kw_tr k3 k4
      have en : r4.next = r2.next := (kw_e k24).2.1.2.1
      refine And.intro (vp_in_nI hi (by decide)) ?_
      rw [nI_clamp (by omega), en]
      refine ih (τ2 ++ [(1, 13), (-1, nI i)]) _ r4 (by rw [en]; exact hc2) (kw_tr k2 k24) w4 (by rw [List.length_append, List.length_cons, List.length_cons, List.length_nil]; omega) (fun r' q1 q2 => ?_)
      rw [List.append_assoc] at q2
      exact hQ r' q1 q2
  refine hJ _ _ _ _ ?_
  exact loop is τ x r hc rfl hW hl hQ
end YB
end
section
theorem pDg_dig (tx : Nat → Nat) : ∀ (k a : Nat) (v : Int32) (i : Nat), a ≤ i → i < (pDg tx k a v).1 → cD (tx i) = true
  | 0, a, v, i, h1, h2 => by
    have h2 : i < a := h2
    omega
  | k + 1, a, v, i, h1, h2 => by
    unfold pDg at h2
    split at h2
    · next hd =>
      by_cases e : i = a
      · rw [e]
        exact hd
      · exact pDg_dig tx k (a + 1) _ i (by omega) h2
    · have h2 : i < a := h2
      omega
theorem cns_inv {t : Int32 × Int32} {x : (TL × Nat) ⊕ Nat} {D : TL} {a : Nat} (h : cns t x = .inl (D, a)) : ∃ D', x = .inl (D', a) ∧ D = t :: D' := by
  rcases x with ⟨D', a'⟩ | a'
  · cases h
    exact ⟨D', rfl, rfl⟩
  · cases h
section YC
variable {cst : Nat → Option (Nat × (Nat → Int32))} {m b0 b1 : Nat} {op : Bool} {tl : List mj_O} {Q : mj_R → Prop} {s : cS} {r : rM} {σ τ : TL} {tx : Nat → Nat} {len n d a' : Nat} {J : Nat → mj_L → List Value → mj_H → Prop}
set_option maxRecDepth 10000
theorem R_wdLoop (hx : txOK r.text len tx) (ht : r.typed = nI len) (hn : n < 100) (hu : r.until_ n = nI a') (ha' : a' ≤ len) (hJ : ∀ pc ls st h, mj_sg (mj_Mt gT cst gnw (m + 2)) cst gnw (mj_hd (mj_off kO_R_writeDatum) kH_R_writeDatum) kC_R_writeDatum J Q 400 true pc ls st h → J pc ls st h) :
    ∀ (f : Nat) (b : Bool) (o a : Nat) (D σ2 : TL) (r2 : rM) (x3 : Option Value), gD tx f b o d a = .inl (D, a') → a ≤ len → kw r r2 → WSr r2 σ2 τ → σ2.length + D.length ≤ 1200 → (∀ r', kw r r' → WSr r' (σ2 ++ D) τ → Q (.inl none, (cW s (rW r' tl), b0, b1, op))) → J 7 [some (.ref 27), some (.int (nI n)), some (.int (nI a)), x3] [] (cW s (rW r2 tl), b0, b1, op) := by
  have h96 := hx.1
  have hin : vp_in (nI n) 100 := vp_in_nI hn (by decide)
  have ekn : (nI n).toNatClampNeg = n := nI_clamp (by omega)
  have turn : ∀ (a : Nat) (r2 : rM) (x3 : Option Value), kw r r2 → a < a' → (∀ F : Nat, mj_sg (mj_Mt gT cst gnw (m + 2)) cst gnw (mj_hd (mj_off kO_R_writeDatum) kH_R_writeDatum) kC_R_writeDatum J Q (F + 100) false 17 [some (.ref 27), some (.int (nI n)), some (.int (nI a)), x3] [.int (nI (tx a))] (cW s (rW r2 tl), b0, b1, op)) → J 7 [some (.ref 27), some (.int (nI n)), some (.int (nI a)), x3] [] (cW s (rW r2 tl), b0, b1, op) := by
    intro a r2 x3 k2 hlt h
    obtain ⟨⟨-, -, -, e1, -, -⟩, -, e2, e3⟩ := kw_e k2
    refine hJ _ _ _ _ ?_
    refine And.intro hin ?_
    rw [ekn, e1, hu]
    refine And.intro (fun (g : nI a' ≤ nI a) => absurd g (nI_ge hlt (by omega))) (fun _ => ?_)
    refine And.intro (vp_in_nI (show a < 96 by omega) (by decide)) ?_
    have key : ∀ x : Int32, x = nI (tx a) → ∀ F : Nat, mj_sg (mj_Mt gT cst gnw (m + 2)) cst gnw (mj_hd (mj_off kO_R_writeDatum) kH_R_writeDatum) kC_R_writeDatum J Q (F + 100) false 17 [some (.ref 27), some (.int (nI n)), some (.int (nI a)), x3] [.int x] (cW s (rW r2 tl), b0, b1, op) := by
      rintro x rfl F
      exact h F
    refine key _ ?_ _
    show r2.text (nI a).toNatClampNeg = nI (tx a)
    rw [nI_clamp (by omega), e2]
    exact (hx.2.1 a (by omega)).1
  intro f
  induction f with
  | zero => intro b o a D σ2 r2 x3 e; cases e
  | succ f ih =>
    intro b o a D σ2 r2 x3 e ha k2 w2 hl hQ
    have ca := hx.le a
    have nxt : ∀ (a2 : Nat) (x : Int32) (b2 : Bool) (o2 : Nat) (D2 : TL) (r3 : rM) (t : Int32 × Int32) (y3 : Option Value), x = nI a2 → gD tx f b2 o2 d a2 = .inl (D2, a') → D = t :: D2 → a2 ≤ len → kw r2 r3 → WSr r3 (σ2 ++ [t]) τ → J 7 [some (.ref 27), some (.int (nI n)), some (.int x), y3] [] (cW s (rW r3 tl), b0, b1, op) := by
      rintro a2 x b2 o2 D2 r3 t y3 rfl e2 rfl h2 k3 w3
      rw [List.length_cons] at hl
      refine ih b2 o2 a2 D2 (σ2 ++ [t]) r3 y3 e2 h2 (kw_tr k2 k3) w3 (by rw [List.length_append, List.length_cons, List.length_nil]; omega) (fun r' q1 q2 => hQ r' q1 ?_)
      rw [List.append_assoc] at q2
      exact q2
    cases b with
    | false =>
      have e0 : gD tx (f + 1) false o d a = if tx a = 40 then (if d + o < 9 then cns (4, 0) (gD tx f (decide (tx (a + 1) = 41)) (o + 1) d (a + 1)) else .inr a) else if cL (tx a) then cns (2, nI (tx a)) (gD tx f true o d (a + 1)) else if cD (tx (pA1 tx a)) then cns (1, pVal tx a) (gD tx f true o d (pDg tx 4 (pA1 tx a) 0).1) else .inr (pA1 tx a) := rfl
      rw [e0] at e
      split at e
      · next e40 =>
        split at e
        · obtain ⟨D2, q1, q2⟩ := cns_inv e
          have hlt := hx.lt (a := a) (by omega)
          have hle := (gD_len hx f _ (o + 1) d (a + 1) (by omega)).1 D2 a' q1
          refine turn a r2 x3 k2 (by omega) (fun F => ?_)
          refine And.intro (fun (g : ¬ nI (tx a) = 40) => absurd (by rw [e40]; rfl) g) (fun _ => ?_)
          have hl2 : σ2.length < 1200 := by rw [q2, List.length_cons] at hl; omega
          refine R_sign w2 hl2 (fun r3 k3 w3 => ?_)
          exact nxt (a + 1) _ _ _ D2 r3 (4, 0) _ (nI_succ a).symm q1 q2 (by omega) k3 w3
        · cases e
      · next n40 =>
        split at e
        · next hcl =>
          obtain ⟨D2, q1, q2⟩ := cns_inv e
          have hlt := hx.lt (a := a) (fun q => by rw [q] at hcl; exact absurd hcl (by decide))
          have hle := (gD_len hx f true o d (a + 1) (by omega)).1 D2 a' q1
          have hcl2 : 97 ≤ tx a ∧ tx a ≤ 122 := of_decide_eq_true hcl
          refine turn a r2 x3 k2 (by omega) (fun F => ?_)
          refine And.intro (fun _ => ?_) (fun (g : nI (tx a) = 40) => absurd (nIj (j := 40) (by omega) (by decide) g) n40)
          refine And.intro (fun _ => ?_) (fun (g : nI (tx a) = 41) => absurd (nIj (j := 41) (by omega) (by decide) g) (by omega))
          refine R_isLetter (by omega) (fun _ => ?_) (fun w => by rw [hcl] at w; cases w)
          refine And.intro (fun (g : (1 : Int32) = 0) => absurd g (by decide)) (fun _ => ?_)
          have hl2 : σ2.length < 1200 := by rw [q2, List.length_cons] at hl; omega
          refine R_sign w2 hl2 (fun r3 k3 w3 => ?_)
          exact nxt (a + 1) _ _ _ D2 r3 (2, nI (tx a)) _ (nI_succ a).symm q1 q2 (by omega) k3 w3
        · next hcl =>
          split at e
          · next hd =>
            obtain ⟨D2, q1, q2⟩ := cns_inv e
            obtain ⟨w1, w2', w3'⟩ := num_len hx ha hd
            have hle := (gD_len hx f true o d _ w2').1 D2 a' q1
            have hch : tx a = 45 ∨ (48 ≤ tx a ∧ tx a ≤ 57) := by
              by_cases e45 : tx a = 45
              · exact Or.inl e45
              · have e9 : pA1 tx a = a := if_neg e45
                rw [e9] at hd
                exact Or.inr (of_decide_eq_true hd)
            have hclF : cL (tx a) = false := by
              cases hh : cL (tx a) with
              | false => rfl
              | true => exact absurd hh hcl
            refine turn a r2 x3 k2 (by omega) (fun F => ?_)
            refine And.intro (fun _ => ?_) (fun (g : nI (tx a) = 40) => absurd (nIj (j := 40) (by omega) (by decide) g) n40)
            refine And.intro (fun _ => ?_) (fun (g : nI (tx a) = 41) => absurd (nIj (j := 41) (by omega) (by decide) g) (by omega))
            refine R_isLetter (by omega) (fun w => by rw [hclF] at w; cases w) (fun _ => ?_)
            refine And.intro (fun _ => ?_) (fun g => absurd rfl g)
            refine And.intro (fun _ => ?_) (fun (g : nI (tx a) = 32) => absurd (nIj (j := 32) (by omega) (by decide) g) (by omega))
            obtain ⟨-, -, t1, t2⟩ := kw_e k2
            refine R_numberAt (by rw [t1]; exact hx) (by rw [t2]; exact ht) w3' ?_
            have hl2 : σ2.length < 1200 := by rw [q2, List.length_cons] at hl; omega
            refine R_sign w2 hl2 (fun r3 k3 w3 => ?_)
            obtain ⟨⟨-, -, -, u1, -, -⟩, -, u2, u3⟩ := kw_e (kw_tr k2 k3)
            have hdig : ∀ i, a + 1 ≤ i → i < (pDg tx 4 (pA1 tx a) 0).1 → cD (tx i) = true := by
              intro i h1 h2
              refine pDg_dig tx 4 (pA1 tx a) 0 i ?_ h2
              have := (pA1_len hx ha).2.2
              omega
            have hend : (pDg tx 4 (pA1 tx a) 0).1 < a' → cD (tx (pDg tx 4 (pA1 tx a) 0).1) = false := by
              intro hlt
              generalize (pDg tx 4 (pA1 tx a) 0).1 = q at *
              cases f with
              | zero => cases q1
              | succ f =>
                cases o with
                | zero =>
                  cases q1
                  omega
                | succ o =>
                  have e1 : gD tx (f + 1) true (o + 1) d q = if tx q = 41 then cns (5, 0) (gD tx f true o d (q + 1)) else if tx q = 32 then gD tx f false (o + 1) d (q + 1) else .inr q := rfl
                  rw [e1] at q1
                  split at q1
                  · next h => rw [h]; decide
                  · split at q1
                    · next h => rw [h]; decide
                    · cases q1
            have skip : ∀ (j i : Nat), i + j = (pDg tx 4 (pA1 tx a) 0).1 → a + 1 ≤ i → J 57 [some (.ref 27), some (.int (nI n)), some (.int (nI i)), some (.int (nI (tx a)))] [] (cW s (rW r3 tl), b0, b1, op) := by
              intro j
              induction j with
              | zero =>
                intro i hi hi2
                have hi : i = (pDg tx 4 (pA1 tx a) 0).1 := hi
                refine hJ _ _ _ _ ?_
                refine And.intro hin ?_
                rw [ekn, u1, hu]
                have go : J 7 [some (.ref 27), some (.int (nI n)), some (.int (nI i)), some (.int (nI (tx a)))] [] (cW s (rW r3 tl), b0, b1, op) := by
                  rw [hi]
                  exact nxt _ _ _ _ D2 r3 (1, pVal tx a) _ rfl q1 q2 (by omega) k3 w3
                refine And.intro (fun _ => go) (fun (g : ¬ nI a' ≤ nI i) => ?_)
                have hlt : i < a' := Nat.lt_of_not_le (fun w => g (nI_le w (by omega)))
                have ci := hx.le i
                refine And.intro (vp_in_nI (show i < 96 by omega) (by decide)) ?_
                rw [nI_clamp (by omega), u2, (hx.2.1 i (by omega)).1]
                have hcf : cD (tx i) = false := by rw [hi]; exact hend (by omega)
                refine R_isDigit (by omega) (fun w => by rw [hcf] at w; cases w) (fun _ => ?_)
                exact And.intro (fun _ => go) (fun g => absurd rfl g)
              | succ j ihj =>
                intro i hi hi2
                have hlt : i < a' := by omega
                have ci := hx.le i
                refine hJ _ _ _ _ ?_
                refine And.intro hin ?_
                rw [ekn, u1, hu]
                refine And.intro (fun (g : nI a' ≤ nI i) => absurd g (nI_ge hlt (by omega))) (fun _ => ?_)
                refine And.intro (vp_in_nI (show i < 96 by omega) (by decide)) ?_
                rw [nI_clamp (by omega), u2, (hx.2.1 i (by omega)).1]
                have hcf : cD (tx i) = true := hdig i hi2 (by omega)
                refine R_isDigit (by omega) (fun _ => ?_) (fun w => by rw [hcf] at w; cases w)
                refine And.intro (fun (g : (1 : Int32) = 0) => absurd g (by decide)) (fun _ => ?_)
                have key : ∀ x : Int32, x = nI (i + 1) → J 57 [some (.ref 27), some (.int (nI n)), some (.int x), some (.int (nI (tx a)))] [] (cW s (rW r3 tl), b0, b1, op) := by
                  rintro x rfl
                  exact ihj (i + 1) (by omega) (by omega)
                exact key _ (nI_succ i).symm
            have key : ∀ x : Int32, x = nI (a + 1) → J 57 [some (.ref 27), some (.int (nI n)), some (.int x), some (.int (nI (tx a)))] [] (cW s (rW r3 tl), b0, b1, op) := by
              rintro x rfl
              exact skip ((pDg tx 4 (pA1 tx a) 0).1 - (a + 1)) (a + 1) (by omega) (Nat.le_refl _)
            exact key _ (nI_succ a).symm
          · cases e
    | true =>
      cases o with
      | zero =>
        have e : (Sum.inl ([], a) : (TL × Nat) ⊕ Nat) = .inl (D, a') := e
        cases e
        obtain ⟨⟨-, -, -, e1, -, -⟩, -⟩ := kw_e k2
        refine hJ _ _ _ _ ?_
        refine And.intro hin ?_
        rw [ekn, e1, hu]
        refine And.intro (fun _ => ?_) (fun (g : ¬ nI a' ≤ nI a') => absurd (nI_le (Nat.le_refl _) (by omega)) g)
        refine hQ r2 k2 ?_
        rw [List.append_nil]
        exact w2
      | succ o =>
        have e1 : gD tx (f + 1) true (o + 1) d a = if tx a = 41 then cns (5, 0) (gD tx f true o d (a + 1)) else if tx a = 32 then gD tx f false (o + 1) d (a + 1) else .inr a := rfl
        rw [e1] at e
        split at e
        · next e41 =>
          obtain ⟨D2, q1, q2⟩ := cns_inv e
          have hlt := hx.lt (a := a) (by omega)
          have hle := (gD_len hx f true o d (a + 1) (by omega)).1 D2 a' q1
          refine turn a r2 x3 k2 (by omega) (fun F => ?_)
          refine And.intro (fun _ => ?_) (fun (g : nI (tx a) = 40) => absurd (nIj (j := 40) (by omega) (by decide) g) (by omega))
          refine And.intro (fun (g : ¬ nI (tx a) = 41) => absurd (by rw [e41]; rfl) g) (fun _ => ?_)
          have hl2 : σ2.length < 1200 := by rw [q2, List.length_cons] at hl; omega
          refine R_sign w2 hl2 (fun r3 k3 w3 => ?_)
          exact nxt (a + 1) _ _ _ D2 r3 (5, 0) _ (nI_succ a).symm q1 q2 (by omega) k3 w3
        · split at e
          · next n41 e32 =>
            have hlt := hx.lt (a := a) (by omega)
            have hle := (gD_len hx f false (o + 1) d (a + 1) (by omega)).1 D a' e
            refine turn a r2 x3 k2 (by omega) (fun F => ?_)
            refine And.intro (fun _ => ?_) (fun (g : nI (tx a) = 40) => absurd (nIj (j := 40) (by omega) (by decide) g) (by omega))
            refine And.intro (fun _ => ?_) (fun (g : nI (tx a) = 41) => absurd (nIj (j := 41) (by omega) (by decide) g) n41)
            refine R_isLetter (by omega) (fun w => by rw [e32] at w; exact absurd w (by decide)) (fun _ => ?_)
            refine And.intro (fun _ => ?_) (fun g => absurd rfl g)
            refine And.intro (fun (g : ¬ nI (tx a) = 32) => absurd (by rw [e32]; rfl) g) (fun _ => ?_)
            have key : ∀ x : Int32, x = nI (a + 1) → J 7 [some (.ref 27), some (.int (nI n)), some (.int x), some (.int (nI (tx a)))] [] (cW s (rW r2 tl), b0, b1, op) := by
              rintro x rfl
              exact ih false (o + 1) (a + 1) D σ2 r2 _ e (by omega) k2 w2 hl hQ
            exact key _ (nI_succ a).symm
          · cases e
theorem R_writeDatum {a : Nat} {D : TL} (hx : txOK r.text len tx) (ht : r.typed = nI len) (hn : n < 100) (hat : r.at_ n = nI a) (hu : r.until_ n = nI a') (ha : a + 1 ≤ len) (hg : gD tx 200 false 0 d (a + 1) = .inl (D, a')) (hW : WSr r σ τ) (hl : σ.length + D.length ≤ 1200) (hQ : ∀ r', kw r r' → WSr r' (σ ++ D) τ → Q (.inl none, (cW s (rW r' tl), b0, b1, op))) : mj_Mt gT cst gnw (m + 3) y_R_writeDatum [.ref 27, .int (nI n)] (cW s (rW r tl), b0, b1, op) Q := by
  have ha' := ((gD_len hx 200 false 0 d (a + 1) ha).1 D a' hg).2
  intro J hJ
  have loop := R_wdLoop (cst := cst) (m := m) (b0 := b0) (b1 := b1) (op := op) (tl := tl) (s := s) (τ := τ) (d := d) hx ht hn hu ha' hJ 200 false 0 (a + 1) D σ r none hg ha rfl hW hl hQ
  refine hJ _ _ _ _ ?_
  refine And.intro (vp_in_nI hn (by decide)) ?_
  have key : ∀ x : Int32, x = nI (a + 1) → J 7 [some (.ref 27), some (.int (nI n)), some (.int x), none] [] (cW s (rW r tl), b0, b1, op) := by
    rintro x rfl
    exact loop
  refine key _ ?_
  show r.at_ (nI n).toNatClampNeg + Int32.ofInt 1 = nI (a + 1)
  rw [nI_clamp (by omega), hat]
  exact (nI_succ a).symm
end YC
end
section
def lw (t : Int32 × Int32) : Int32 × Int32 := if t.1 = 6 then (1, nr t.2) else t
abbrev low (T : TL) : TL := T.map lw
theorem low_app (A B : TL) : low (A ++ B) = low A ++ low B := List.map_append
theorem low_len (A : TL) : (low A).length = A.length := List.length_map _
section YD0
variable {cst : Nat → Option (Nat × (Nat → Int32))} {m : Nat} {Q : mj_R → Prop}
set_option maxRecDepth 10000
theorem R_codeOf {h : mj_H} {c : Nat} (hc : c < 2 ^ 31) (hQ : Q (.inl (some (.int (cdO c))), h)) : mj_Mt gT cst gnw (m + 1) y_R_codeOf [.int (nI c)] h Q := by
  intro J hJ
  refine hJ _ _ _ _ ?_
  refine And.intro (fun (g : nI c = 33) => ?_) (fun (g33 : ¬ nI c = 33) => ?_)
  · have e : c = 33 := nIj (j := 33) hc (by decide) g
    subst e
    exact hQ
  refine And.intro (fun (g : nI c = 42) => ?_) (fun (g42 : ¬ nI c = 42) => ?_)
  · have e : c = 42 := nIj (j := 42) hc (by decide) g
    subst e
    exact hQ
  refine And.intro (fun (g : nI c = 43) => ?_) (fun (g43 : ¬ nI c = 43) => ?_)
  · have e : c = 43 := nIj (j := 43) hc (by decide) g
    subst e
    exact hQ
  refine And.intro (fun (g : nI c = 45) => ?_) (fun (g45 : ¬ nI c = 45) => ?_)
  · have e : c = 45 := nIj (j := 45) hc (by decide) g
    subst e
    exact hQ
  refine And.intro (fun (g : nI c = 46) => ?_) (fun (g46 : ¬ nI c = 46) => ?_)
  · have e : c = 46 := nIj (j := 46) hc (by decide) g
    subst e
    exact hQ
  refine And.intro (fun (g : nI c = 61) => ?_) (fun (g61 : ¬ nI c = 61) => ?_)
  · have e : c = 61 := nIj (j := 61) hc (by decide) g
    subst e
    exact hQ
  refine And.intro (fun (g : nI c = 94) => ?_) (fun (g94 : ¬ nI c = 94) => ?_)
  · have e : c = 94 := nIj (j := 94) hc (by decide) g
    subst e
    exact hQ
  refine And.intro (fun (g : nI c = 95) => ?_) (fun (g95 : ¬ nI c = 95) => ?_)
  · have e : c = 95 := nIj (j := 95) hc (by decide) g
    subst e
    exact hQ
  have n33 : ¬ c = 33 := fun e => g33 (by rw [e]; rfl)
  have n42 : ¬ c = 42 := fun e => g42 (by rw [e]; rfl)
  have n43 : ¬ c = 43 := fun e => g43 (by rw [e]; rfl)
  have n45 : ¬ c = 45 := fun e => g45 (by rw [e]; rfl)
  have n46 : ¬ c = 46 := fun e => g46 (by rw [e]; rfl)
  have n61 : ¬ c = 61 := fun e => g61 (by rw [e]; rfl)
  have n94 : ¬ c = 94 := fun e => g94 (by rw [e]; rfl)
  have n95 : ¬ c = 95 := fun e => g95 (by rw [e]; rfl)
  have e : cdO c = 18 := by
    unfold cdO
    rw [if_neg n94, if_neg n95, if_neg n33, if_neg n46, if_neg n61, if_neg n43, if_neg n45, if_neg n42]
  rw [e] at hQ
  exact hQ
end YD0
section YD
variable {cst : Nat → Option (Nat × (Nat → Int32))} {m b0 b1 : Nat} {op : Bool} {tl : List mj_O} {Q : mj_R → Prop} {s : cS} {r0 : rM} {J : Nat → mj_L → List Value → mj_H → Prop}
set_option maxRecDepth 10000
def JW (b0 b1 : Nat) (op : Bool) (tl : List mj_O) (s : cS) (r0 : rM) (J : Nat → mj_L → List Value → mj_H → Prop) (σ τ : TL) : Prop := ∀ r', kw r0 r' → WSr r' σ τ → J 17 [some (.ref 27)] [] (cW s (rW r' tl), b0, b1, op)
def WW (b0 b1 : Nat) (op : Bool) (tl : List mj_O) (s : cS) (r0 : rM) (J : Nat → mj_L → List Value → mj_H → Prop) (X : Int32 × Int32) (T : TL) : Prop := 1 ≤ T.length ∧ ∀ (σ τ : TL) (w : Nat), σ.length + T.length + w ≤ 1200 → τ.length ≤ w → JW b0 b1 op tl s r0 J (σ ++ low T) τ → JW b0 b1 op tl s r0 J σ (τ ++ [X])
def WL (b0 b1 : Nat) (op : Bool) (tl : List mj_O) (s : cS) (r0 : rM) (J : Nat → mj_L → List Value → mj_H → Prop) (K T : TL) : Prop := K.length ≤ T.length ∧ ∀ (σ τ : TL) (w : Nat), σ.length + T.length + w ≤ 1200 → τ.length ≤ w → JW b0 b1 op tl s r0 J (σ ++ low T) τ → JW b0 b1 op tl s r0 J σ (τ ++ K)
theorem WL_nil : WL b0 b1 op tl s r0 J [] [] := ⟨Nat.le_refl _, fun σ τ w _ _ h => by
  rw [List.append_nil]
  have e : σ ++ low [] = σ := List.append_nil σ
  rw [e] at h
  exact h⟩
theorem WL_snoc {K T1 T2 : TL} {X : Int32 × Int32} (h1 : WL b0 b1 op tl s r0 J K T1) (h2 : WW b0 b1 op tl s r0 J X T2) : WL b0 b1 op tl s r0 J (K ++ [X]) (T2 ++ T1) := by
  have l1 := h1.1
  have l2 := h2.1
  refine ⟨by rw [List.length_append, List.length_append, List.length_cons, List.length_nil]; omega, fun σ τ w hl hw h => ?_⟩
  rw [List.length_append] at hl
  rw [← List.append_assoc]
  refine h2.2 σ (τ ++ K) (w + T1.length) (by omega) (by rw [List.length_append]; omega) ?_
  refine h1.2 (σ ++ low T2) τ w (by rw [List.length_append, low_len]; omega) hw ?_
  rw [low_app, ← List.append_assoc] at h
  exact h
theorem last_at (τ : TL) (X : Int32 × Int32) : (τ ++ [X])[τ.length]? = some X := by
  rw [List.getElem?_append_right (Nat.le_refl _), Nat.sub_self]
  rfl
def tkR (r : rM) (x : Int32) : rM := (r.s_tasks x)
theorem W_head {σ τ : TL} {X : Int32 × Int32} (hJ : ∀ pc ls st h, mj_sg (mj_Mt gT cst gnw (m + 4)) cst gnw (mj_hd (mj_off kO_R_writeCode) kH_R_writeCode) kC_R_writeCode J Q 400 true pc ls st h → J pc ls st h) (hl : τ.length < 1200) (h : ∀ r', kw r0 r' → WSr r' σ τ → r'.taskKind τ.length = X.1 → r'.taskValue τ.length = X.2 → ∀ F : Nat, mj_sg (mj_Mt gT cst gnw (m + 4)) cst gnw (mj_hd (mj_off kO_R_writeCode) kH_R_writeCode) kC_R_writeCode J Q (F + 100) false 31 [some (.ref 27)] [.int X.1] (cW s (rW (tkR r' (nI τ.length)) tl), b0, b1, op)) : JW b0 b1 op tl s r0 J σ (τ ++ [X]) := by
  intro r' k w
  obtain ⟨w1, ⟨w2, w3⟩, w4⟩ := w
  have el : (τ ++ [X]).length = τ.length + 1 := by rw [List.length_append]; rfl
  rw [el] at w2
  obtain ⟨x1, x2⟩ := w3 τ.length X (last_at τ X)
  have ep : r'.tasks - Int32.ofInt 1 = nI τ.length := by rw [w2]; exact nI_pred _
  refine hJ _ _ _ _ ?_
  refine And.intro (fun (g : r'.tasks ≤ 0) => absurd g (by rw [w2]; exact nI_nle (by omega) (by omega))) (fun _ => ?_)
  refine And.intro (show vp_in (r'.tasks - Int32.ofInt 1) 1200 by rw [ep]; exact vp_in_nI hl (by decide)) ?_
  have key : ∀ (y z : Int32), y = nI τ.length → z = X.1 → ∀ F : Nat, mj_sg (mj_Mt gT cst gnw (m + 4)) cst gnw (mj_hd (mj_off kO_R_writeCode) kH_R_writeCode) kC_R_writeCode J Q (F + 100) false 31 [some (.ref 27)] [.int z] (cW s (rW (tkR r' y) tl), b0, b1, op) := by
    rintro y z rfl rfl F
    exact h (tkR r' (nI τ.length)) k ⟨w1, ⟨rfl, rwO_pre w3⟩, w4⟩ x1 x2 F
  refine key _ _ ep ?_ _
  show r'.taskKind (r'.tasks - Int32.ofInt 1).toNatClampNeg = X.1
  rw [ep, nI_clamp (by omega)]
  exact x1
theorem W_tok {k v : Int32} (hJ : ∀ pc ls st h, mj_sg (mj_Mt gT cst gnw (m + 4)) cst gnw (mj_hd (mj_off kO_R_writeCode) kH_R_writeCode) kC_R_writeCode J Q 400 true pc ls st h → J pc ls st h) (hk : 0 ≤ k) (h6 : ¬ k = 6) : WW b0 b1 op tl s r0 J (k, v) [(k, v)] := by
  refine ⟨Nat.le_refl _, fun σ τ w hl hw h => ?_⟩
  rw [List.length_cons, List.length_nil] at hl
  have e1 : low [(k, v)] = [(k, v)] := by
    show [lw (k, v)] = _
    unfold lw
    rw [if_neg h6]
  rw [e1] at h
  refine W_head hJ (by omega) (fun r' k1 w1 x1 x2 F => ?_)
  have hin : vp_in (nI τ.length) 1200 := vp_in_nI (by omega) (by decide)
  have ek : (nI τ.length).toNatClampNeg = τ.length := nI_clamp (by omega)
  refine And.intro (fun _ => ?_) (fun (g : ¬ 0 ≤ k) => absurd hk g)
  refine And.intro hin ?_
  refine And.intro hin ?_
  have key : ∀ (y z : Int32), y = k → z = v → ∀ Q' : mj_R → Prop, (∀ r2, kw r0 r2 → WSr r2 (σ ++ [(k, v)]) τ → Q' (.inl none, (cW s (rW r2 tl), b0, b1, op))) → mj_Mt gT cst gnw (m + 4) y_R_sign [.ref 27, .int y, .int z] (cW s (rW (tkR r' (nI τ.length)) tl), b0, b1, op) Q' := by
    rintro y z rfl rfl Q' hQ'
    refine R_sign (r := tkR r' (nI τ.length)) (σ := σ) (τ := τ) ⟨w1.1, ⟨rfl, w1.2.1.2⟩, w1.2.2⟩ (by omega) (fun r2 k2 w2 => hQ' r2 (kw_tr k1 k2) w2)
  refine key _ _ ?_ ?_ _ (fun r2 k2 w2 => ?_)
  · show r'.taskKind (nI τ.length).toNatClampNeg = k
    rw [ek]
    exact x1
  · show r'.taskValue (nI τ.length).toNatClampNeg = v
    rw [ek]
    exact x2
  · exact h r2 k2 w2
theorem W_call {n : Nat} {T : TL} (hJ : ∀ pc ls st h, mj_sg (mj_Mt gT cst gnw (m + 4)) cst gnw (mj_hd (mj_off kO_R_writeCode) kH_R_writeCode) kC_R_writeCode J Q 400 true pc ls st h → J pc ls st h) (hT : 1 ≤ T.length) (h : ∀ (σ τ : TL) (w : Nat), σ.length + T.length + w ≤ 1200 → τ.length ≤ w → JW b0 b1 op tl s r0 J (σ ++ low T) τ → ∀ (r' : rM) (Q' : mj_R → Prop), kw r0 r' → WSr r' σ τ → (∀ r2 σ2 τ2, kw r0 r2 → WSr r2 σ2 τ2 → JW b0 b1 op tl s r0 J σ2 τ2 → Q' (.inl none, (cW s (rW r2 tl), b0, b1, op))) → mj_Mt gT cst gnw (m + 4) y_R_writePart [.ref 27, .int (nI n)] (cW s (rW r' tl), b0, b1, op) Q') : WW b0 b1 op tl s r0 J (-1, nI n) T := by
  refine ⟨hT, fun σ τ w hl hw hj => ?_⟩
  refine W_head hJ (by omega) (fun r' k1 w1 x1 x2 F => ?_)
  refine And.intro (fun (g : (0 : Int32) ≤ -1) => absurd g (by decide)) (fun _ => ?_)
  refine And.intro (vp_in_nI (show τ.length < 1200 by omega) (by decide)) ?_
  have key : ∀ (y : Int32), y = nI n → ∀ Q' : mj_R → Prop, (∀ r2, J 17 [some (.ref 27)] [] (cW s (rW r2 tl), b0, b1, op) → Q' (.inl none, (cW s (rW r2 tl), b0, b1, op))) → mj_Mt gT cst gnw (m + 4) y_R_writePart [.ref 27, .int y] (cW s (rW (tkR r' (nI τ.length)) tl), b0, b1, op) Q' := by
    rintro y rfl Q' hQ'
    exact h σ τ w hl hw hj (tkR r' (nI τ.length)) Q' k1 ⟨w1.1, ⟨rfl, w1.2.1.2⟩, w1.2.2⟩ (fun r2 σ2 τ2 k2 w2 j2 => hQ' r2 (j2 r2 k2 w2))
  refine key _ ?_ _ (fun r2 j2 => ?_)
  · show r'.taskValue (nI τ.length).toNatClampNeg = nI n
    rw [nI_clamp (by omega)]
    exact x2
  · exact j2
end YD
end
section
def F2 (R : Kd → Nat → Prop) : List Kd → List Nat → Prop
  | [], [] => True
  | k :: ks, i :: is => R k i ∧ F2 R ks is
  | _, _ => False
theorem F2_mono {R R' : Kd → Nat → Prop} (h : ∀ k i, R k i → R' k i) : ∀ (ks : List Kd) (is : List Nat), F2 R ks is → F2 R' ks is
  | [], [], _ => trivial
  | k :: ks, i :: is, ⟨a, b⟩ => ⟨h k i a, F2_mono h ks is b⟩
  | [], _ :: _, h => absurd h id
  | _ :: _, [], h => absurd h id
theorem F2_len {R : Kd → Nat → Prop} : ∀ (ks : List Kd) (is : List Nat), F2 R ks is → is.length = ks.length
  | [], [], _ => rfl
  | k :: ks, i :: is, ⟨a, b⟩ => by rw [List.length_cons, List.length_cons, F2_len ks is b]
  | [], _ :: _, h => absurd h id
  | _ :: _, [], h => absurd h id
theorem cKL_is {P : Nat → Nat → Tau → Prop} {nx bo : Nat → Int32} (hlt : ∀ i m t, P i m t → i < m) : ∀ (ks : List Kd) (k : Kd) (i l m : Nat), cKL P nx bo (k :: ks) i l m → nx l = -1 → m ≤ 100 → (∃ e, P i e k.1 ∧ e ≤ m) ∧ ∃ is, chI nx is (nx i) ∧ F2 (fun k j => i < j ∧ ∃ e, P j e k.1 ∧ e ≤ m) ks is
  | [], k, i, l, m, h, hl, hm => by
    obtain ⟨rfl, h2, -⟩ := h
    exact ⟨⟨m, h2, Nat.le_refl _⟩, [], hl, trivial⟩
  | k2 :: ks, k, i, l, m, h, hl, hm => by
    obtain ⟨j, h1, h2, h3, h4⟩ := h
    have c1 := hlt _ _ _ h1
    have c2 := cKL_lt hlt (k2 :: ks) j l m h4
    obtain ⟨⟨e, e1, e2⟩, is, f1, f2⟩ := cKL_is hlt ks k2 j l m h4 hl hm
    exact ⟨⟨j, h1, by omega⟩, j :: is, ⟨by omega, h3, f1⟩, ⟨c1, e, e1, e2⟩, F2_mono (fun k i2 q => ⟨by omega, q.2⟩) ks is f2⟩
theorem chL_kw {nx bo nx' bo' : Nat → Int32} (h1 : nx' = nx) (h2 : bo' = bo) {L : List Int32} {x : Int32} (h : chL nx bo L x) : chL nx' bo' L x := by
  rw [h1, h2]
  exact h
theorem FRb_kw {r r' : rM} (h : kw r r') {v : Nat} {ls : List Nat} (hF : FRb r v ls) : FRb r' v ls := by
  obtain ⟨⟨e1, e2, e3, e4, e5, e6⟩, ⟨e7, e8, e9, e10⟩, -⟩ := kw_e h
  unfold FRb at hF ⊢
  rw [e2, e5, e9]
  exact hF
theorem FRk_kw {r r' : rM} (h : kw r r') {v : Nat} {ls : List Nat} (hF : FRk r v ls) : FRk r' v ls := by
  obtain ⟨⟨e1, e2, e3, e4, e5, e6⟩, ⟨e7, e8, e9, e10⟩, -⟩ := kw_e h
  unfold FRk at hF ⊢
  rw [e2, e7, e8, e10]
  exact hF
theorem CHd_kw {r r' : rM} (h : kw r r') : ∀ (k n : Nat) (φ : Fr), CHd r k n φ → CHd r' k n φ
  | 0, n, φ, ⟨h1, h2⟩ => ⟨by rw [(kw_e h).1.2.2.2.2.2]; exact h1, h2⟩
  | k + 1, n, φ, ⟨v, φ', hv, h1, h2, h3⟩ => by
    obtain ⟨⟨e1, e2, e3, e4, e5, e6⟩, ⟨e7, e8, e9, e10⟩, -⟩ := kw_e h
    refine ⟨v, φ', hv, by rw [e6]; exact h1, CHd_kw h k v φ' h2, ?_⟩
    rw [e2, e7]
    rcases h3 with ⟨ls, g1, g2⟩ | g
    · refine Or.inl ⟨ls, g1, ?_⟩
      rcases g2 with g2 | ⟨g2, g3⟩
      · exact Or.inl (FRb_kw h g2)
      · exact Or.inr ⟨FRk_kw h g2, g3⟩
    · exact Or.inr g
section YE
variable {cst : Nat → Option (Nat × (Nat → Int32))} {m b0 b1 : Nat} {op : Bool} {tl : List mj_O} {Q : mj_R → Prop} {s : cS} {r0 : rM} {J : Nat → mj_L → List Value → mj_H → Prop} {tx : Nat → Nat} {len : Nat}
set_option maxRecDepth 10000
theorem WL_row (hJ : ∀ pc ls st h, mj_sg (mj_Mt gT cst gnw (m + 4)) cst gnw (mj_hd (mj_off kO_R_writeCode) kH_R_writeCode) kC_R_writeCode J Q 400 true pc ls st h → J pc ls st h) {φ : Fr} : ∀ (ks : List Kd) (is : List Nat) (K0 T0 : TL), WL b0 b1 op tl s r0 J K0 T0 → F2 (fun k i => WW b0 b1 op tl s r0 J (-1, nI i) (k.1 φ)) ks is → WL b0 b1 op tl s r0 J (K0 ++ rowK is) (rowT ks φ ++ T0)
  | [], [], K0, T0, h, _ => by
    have h1 := WL_snoc (WL_snoc h (W_tok (k := 0) (v := 0) hJ (by decide) (by decide))) (W_tok (k := 1) (v := 1) hJ (by decide) (by decide))
    rw [List.append_assoc] at h1
    exact h1
  | k :: ks, i :: is, K0, T0, h, ⟨a, b⟩ => by
    have h1 := WL_snoc (WL_snoc h (W_tok (k := 1) (v := 13) hJ (by decide) (by decide))) a
    have h2 := WL_row hJ ks is _ _ h1 b
    have e1 : K0 ++ [(1, 13)] ++ [(-1, nI i)] ++ rowK is = K0 ++ rowK (i :: is) := by
      rw [List.append_assoc, List.append_assoc]
      rfl
    have e2 : rowT ks φ ++ (k.1 φ ++ ([(1, 13)] ++ T0)) = rowT (k :: ks) φ ++ T0 := by
      show _ = rowT ks φ ++ (k.1 φ ++ [(1, 13)]) ++ T0
      rw [List.append_assoc, List.append_assoc]
    rw [e1, e2] at h2
    exact h2
  | [], _ :: _, _, _, _, h => absurd h id
  | _ :: _, [], _, _, _, h => absurd h id
theorem WL_code (hJ : ∀ pc ls st h, mj_sg (mj_Mt gT cst gnw (m + 4)) cst gnw (mj_hd (mj_off kO_R_writeCode) kH_R_writeCode) kC_R_writeCode J Q 400 true pc ls st h → J pc ls st h) {K0 T0 T : TL} {i : Nat} {e : Int32} (h : WL b0 b1 op tl s r0 J K0 T0) (ha : WW b0 b1 op tl s r0 J (-1, nI i) T) : WL b0 b1 op tl s r0 J (K0 ++ [(5, 0), (1, e), (-1, nI i), (4, 0)]) ((4, 0) :: (T ++ [(1, e), (5, 0)]) ++ T0) := by
  have h1 := WL_snoc (WL_snoc (WL_snoc (WL_snoc h (W_tok (k := 5) (v := 0) hJ (by decide) (by decide))) (W_tok (k := 1) (v := e) hJ (by decide) (by decide))) ha) (W_tok (k := 4) (v := 0) hJ (by decide) (by decide))
  rw [app4] at h1
  have e2 : [((4 : Int32), (0 : Int32))] ++ (T ++ ([((1 : Int32), e)] ++ ([((5 : Int32), (0 : Int32))] ++ T0))) = (4, 0) :: (T ++ [(1, e), (5, 0)]) ++ T0 := by
    show (4, 0) :: (T ++ ((1, e) :: (5, 0) :: T0)) = (4, 0) :: (T ++ [(1, e), (5, 0)] ++ T0)
    rw [List.append_assoc]
    rfl
  rw [e2] at h1
  exact h1
def KD (m b0 b1 : Nat) (cst : Nat → Option (Nat × (Nat → Int32))) (op : Bool) (tl : List mj_O) (s : cS) (r0 : rM) (n : Nat) (K : TL) : Prop := ∀ (r' : rM) (σ τ : TL) (Q' : mj_R → Prop), kw r0 r' → WSr r' σ τ → τ.length + K.length ≤ 1200 → (∀ r2, kw r0 r2 → WSr r2 σ (τ ++ K) → Q' (.inl none, (cW s (rW r2 tl), b0, b1, op))) → mj_Mt gT cst gnw (m + 4) y_R_writePart [.ref 27, .int (nI n)] (cW s (rW r' tl), b0, b1, op) Q'
theorem W_kids {n : Nat} {K T : TL} (hJ : ∀ pc ls st h, mj_sg (mj_Mt gT cst gnw (m + 4)) cst gnw (mj_hd (mj_off kO_R_writeCode) kH_R_writeCode) kC_R_writeCode J Q 400 true pc ls st h → J pc ls st h) (hT : 1 ≤ T.length) (hK : KD m b0 b1 cst op tl s r0 n K) (hL : WL b0 b1 op tl s r0 J K T) : WW b0 b1 op tl s r0 J (-1, nI n) T := by
  refine W_call hJ hT (fun σ τ w hl hw hj r' Q' k1 w1 hQ' => ?_)
  have := hL.1
  exact hK r' σ τ Q' k1 w1 (by omega) (fun r2 k2 w2 => hQ' r2 σ (τ ++ K) k2 w2 (hL.2 σ τ w hl hw hj))
theorem len_s (T : TL) (x : Int32 × Int32) : (T ++ [x]).length = T.length + 1 := by rw [List.length_append]; rfl
theorem KD_call {n : Nat} {is : List Nat} (hn : n + 1 < 100) (hk : r0.kind n = 4) (hf : r0.first n = nI (n + 1)) (hc : chI r0.next is (r0.next (n + 1))) : KD m b0 b1 cst op tl s r0 n ([(1, 4), (-1, nI (n + 1))] ++ rowK is) := by
  intro r' σ τ Q' k1 w1 hl hQ'
  obtain ⟨⟨-, e2, -, -, e5, -⟩, ⟨e7, e8, -, -⟩, -⟩ := kw_e k1
  have hin : vp_in (nI n) 100 := vp_in_nI (by omega) (by decide)
  have ekn : (nI n).toNatClampNeg = n := nI_clamp (by omega)
  have hlr : ∀ is : List Nat, (rowK is).length = 2 * is.length + 2 := by
    intro is
    induction is with
    | nil => rfl
    | cons i is ih =>
      show (rowK is).length + 1 + 1 = _
      rw [ih, List.length_cons]
      omega
  rw [List.length_append, hlr] at hl
  have hl : τ.length + (2 + (2 * is.length + 2)) ≤ 1200 := hl
  intro J hJ
  refine hJ _ _ _ _ ?_
  refine And.intro hin ?_
  rw [ekn, e7, hf]
  refine And.intro hin ?_
  rw [ekn, e2, hk]
  refine And.intro (fun (g : (4 : Int32) = 0) => absurd g (by decide)) (fun _ => And.intro (fun (g : (4 : Int32) = 1) => absurd g (by decide)) (fun _ => And.intro (fun (g : (4 : Int32) = 2) => absurd g (by decide)) (fun _ => And.intro (fun (g : (4 : Int32) = 3) => absurd g (by decide)) (fun _ => And.intro (fun _ => ?_) (fun g => absurd rfl g)))))
  refine R_later w1 (by omega) (fun r2 k2 w2 => ?_)
  refine R_later w2 (by rw [len_s]; omega) (fun r3 k3 w3 => ?_)
  have k13 := kw_tr k1 (kw_tr k2 k3)
  have en : r3.next = r0.next := (kw_e k13).2.1.2.1
  refine And.intro (vp_in_nI (show n + 1 < 100 by omega) (by decide)) ?_
  rw [nI_clamp (by omega), en]
  refine R_laterRow (is := is) (by rw [en]; exact hc) w3 (by rw [len_s, len_s]; omega) (fun r4 k4 w4 => ?_)
  rw [List.append_assoc, List.append_assoc] at w4
  exact hQ' r4 (kw_tr k13 k4) w4
theorem KD_body {n : Nat} (hn : n + 1 < 100) (hk : r0.kind n = 5) (hf : r0.first n = nI (n + 1)) : KD m b0 b1 cst op tl s r0 n ([(5, 0), (1, 5), (-1, nI (n + 1)), (4, 0)] ++ [(1, 3)]) := by
  intro r' σ τ Q' k1 w1 hl hQ'
  obtain ⟨⟨-, e2, -, -, e5, -⟩, ⟨e7, e8, -, -⟩, -⟩ := kw_e k1
  have hin : vp_in (nI n) 100 := vp_in_nI (by omega) (by decide)
  have ekn : (nI n).toNatClampNeg = n := nI_clamp (by omega)
  have hl : τ.length + 5 ≤ 1200 := hl
  intro J hJ
  refine hJ _ _ _ _ ?_
  refine And.intro hin ?_
  rw [ekn, e7, hf]
  refine And.intro hin ?_
  rw [ekn, e2, hk]
  refine And.intro (fun (g : (5 : Int32) = 0) => absurd g (by decide)) (fun _ => And.intro (fun (g : (5 : Int32) = 1) => absurd g (by decide)) (fun _ => And.intro (fun (g : (5 : Int32) = 2) => absurd g (by decide)) (fun _ => And.intro (fun (g : (5 : Int32) = 3) => absurd g (by decide)) (fun _ => And.intro (fun (g : (5 : Int32) = 4) => absurd g (by decide)) (fun _ => And.intro (fun _ => ?_) (fun g => absurd rfl g))))))
  refine R_laterCode w1 (by omega) (fun r2 k2 w2 => ?_)
  refine R_later w2 (by rw [List.length_append]; show τ.length + 4 < 1200; omega) (fun r3 k3 w3 => ?_)
  rw [List.append_assoc] at w3
  exact hQ' r3 (kw_tr k1 (kw_tr k2 k3)) w3
theorem KD_let {n : Nat} {rc : Bool} {is : List Nat} (hn : n + 1 < 100) (hk : r0.kind n = if rc = true then 7 else 6) (hf : r0.first n = nI (n + 1)) (hc : chI r0.next is (r0.next (n + 1))) : KD m b0 b1 cst op tl s r0 n ([(1, if rc = true then 7 else 4)] ++ [(5, 0), (1, 5), (-1, nI (n + 1)), (4, 0)] ++ [(1, 3)] ++ rowK is ++ (if rc = true then [(1, 6)] else [])) := by
  intro r' σ τ Q' k1 w1 hl hQ'
  obtain ⟨⟨-, e2, -, -, e5, -⟩, ⟨e7, e8, -, -⟩, -⟩ := kw_e k1
  have hin : vp_in (nI n) 100 := vp_in_nI (by omega) (by decide)
  have ekn : (nI n).toNatClampNeg = n := nI_clamp (by omega)
  have hlr : ∀ is : List Nat, (rowK is).length = 2 * is.length + 2 := by
    intro is
    induction is with
    | nil => rfl
    | cons i is ih =>
      show (rowK is).length + 1 + 1 = _
      rw [ih, List.length_cons]
      omega
  rw [List.length_append, List.length_append, hlr] at hl
  have hl : τ.length + (6 + (2 * is.length + 2) + (if rc = true then [((1 : Int32), (6 : Int32))] else []).length) ≤ 1200 := hl
  intro J hJ
  have go : ∀ F : Nat, mj_sg (mj_Mt gT cst gnw (m + 3)) cst gnw (mj_hd (mj_off kO_R_writePart) kH_R_writePart) kC_R_writePart J Q' (F + 200) false 65 [some (.ref 27), some (.int (nI n)), some (.int (nI (n + 1)))] [] (cW s (rW r' tl), b0, b1, op) := by
    intro F
    refine And.intro hin ?_
    rw [ekn, e2, hk]
    have rest : ∀ (r2 : rM), kw r0 r2 → WSr r2 σ (τ ++ [(1, if rc = true then 7 else 4)]) → ∀ F : Nat, mj_sg (mj_Mt gT cst gnw (m + 3)) cst gnw (mj_hd (mj_off kO_R_writePart) kH_R_writePart) kC_R_writePart J Q' (F + 100) false 77 [some (.ref 27), some (.int (nI n)), some (.int (nI (n + 1)))] [] (cW s (rW r2 tl), b0, b1, op) := by
      intro r2 k2 w2 F
      refine R_laterCode w2 (by rw [len_s]; omega) (fun r3 k3 w3 => ?_)
      refine R_later w3 (by rw [List.length_append, len_s]; show τ.length + 1 + 4 < 1200; omega) (fun r4 k4 w4 => ?_)
      have k24 := kw_tr k2 (kw_tr k3 k4)
      have en : r4.next = r0.next := (kw_e k24).2.1.2.1
      refine And.intro (vp_in_nI (show n + 1 < 100 by omega) (by decide)) ?_
      rw [nI_clamp (by omega), en]
      refine R_laterRow (is := is) (by rw [en]; exact hc) w4 (by rw [len_s, List.length_append, len_s]; show τ.length + 1 + 4 + 1 + 2 * is.length + 1 < 1200; omega) (fun r5 k5 w5 => ?_)
      have k25 := kw_tr k24 k5
      have ekd : r5.kind = r0.kind := (kw_e k25).1.2.1
      have e9 : τ ++ [(1, if rc = true then 7 else 4)] ++ [(5, 0), (1, 5), (-1, nI (n + 1)), (4, 0)] ++ [(1, 3)] ++ rowK is = τ ++ ([(1, if rc = true then 7 else 4)] ++ [(5, 0), (1, 5), (-1, nI (n + 1)), (4, 0)] ++ [(1, 3)] ++ rowK is) := by
        simp only [List.append_assoc]
      replace w5 : WSr r5 σ (τ ++ [(1, if rc = true then 7 else 4)] ++ [(5, 0), (1, 5), (-1, nI (n + 1)), (4, 0)] ++ [(1, 3)] ++ rowK is) := w5
      rw [e9] at w5
      refine And.intro hin ?_
      rw [ekn, ekd, hk]
      cases rc with
      | false =>
        refine And.intro (fun _ => ?_) (fun (g : (6 : Int32) = 7) => absurd g (by decide))
        refine hQ' r5 k25 ?_
        have e10 : (if false = true then [((1 : Int32), (6 : Int32))] else []) = [] := rfl
        rw [e10, List.append_nil]
        exact w5
      | true =>
        refine And.intro (fun (g : ¬ (7 : Int32) = 7) => absurd rfl g) (fun _ => ?_)
        have hl : τ.length + (6 + (2 * is.length + 2) + 1) ≤ 1200 := hl
        refine R_later w5 (by rw [List.length_append, List.length_append, hlr]; show τ.length + (6 + (2 * is.length + 2)) < 1200; omega) (fun r6 k6 w6 => ?_)
        refine hQ' r6 (kw_tr k25 k6) ?_
        have e10 : (if true = true then [((1 : Int32), (6 : Int32))] else []) = [(1, 6)] := rfl
        rw [e10]
        rw [List.append_assoc] at w6
        exact w6
    cases rc with
    | false =>
      refine And.intro (fun (g : ¬ (6 : Int32) = 6) => absurd rfl g) (fun _ => ?_)
      refine R_later w1 (by omega) (fun r2 k2 w2 => ?_)
      exact rest r2 (kw_tr k1 k2) w2 _
    | true =>
      refine And.intro (fun _ => ?_) (fun (g : (7 : Int32) = 6) => absurd g (by decide))
      refine R_later w1 (by omega) (fun r2 k2 w2 => ?_)
      exact rest r2 (kw_tr k1 k2) w2 _
  refine hJ _ _ _ _ ?_
  refine And.intro hin ?_
  rw [ekn, e7, hf]
  refine And.intro hin ?_
  rw [ekn, e2, hk]
  cases rc with
  | false =>
    refine And.intro (fun (g : (6 : Int32) = 0) => absurd g (by decide)) (fun _ => And.intro (fun (g : (6 : Int32) = 1) => absurd g (by decide)) (fun _ => And.intro (fun (g : (6 : Int32) = 2) => absurd g (by decide)) (fun _ => And.intro (fun (g : (6 : Int32) = 3) => absurd g (by decide)) (fun _ => And.intro (fun (g : (6 : Int32) = 4) => absurd g (by decide)) (fun _ => And.intro (fun (g : (6 : Int32) = 5) => absurd g (by decide)) (fun _ => And.intro (fun _ => ?_) (fun g => absurd rfl g)))))))
    exact go _
  | true =>
    refine And.intro (fun (g : (7 : Int32) = 0) => absurd g (by decide)) (fun _ => And.intro (fun (g : (7 : Int32) = 1) => absurd g (by decide)) (fun _ => And.intro (fun (g : (7 : Int32) = 2) => absurd g (by decide)) (fun _ => And.intro (fun (g : (7 : Int32) = 3) => absurd g (by decide)) (fun _ => And.intro (fun (g : (7 : Int32) = 4) => absurd g (by decide)) (fun _ => And.intro (fun (g : (7 : Int32) = 5) => absurd g (by decide)) (fun _ => And.intro (fun (g : (7 : Int32) = 6) => absurd g (by decide)) (fun _ => And.intro (fun _ => ?_) (fun g => absurd rfl g))))))))
    exact go _
end YE
end
section
section YF
variable {cst : Nat → Option (Nat × (Nat → Int32))} {m b0 b1 : Nat} {op : Bool} {tl : List mj_O} {Q : mj_R → Prop} {s : cS} {r0 : rM} {J : Nat → mj_L → List Value → mj_H → Prop} {tx : Nat → Nat} {len : Nat}
set_option maxRecDepth 10000
def sgK (c a : Nat) : List Nat → TL
  | [] => [(1, cdO c), (-1, nI a)]
  | [b] => if c = 46 then [(1, 13), (-1, nI a), (-1, nI b)] else [(1, cdO c), (-1, nI b), (-1, nI a)]
  | [b, d] => [(5, 0), (1, 9), (-1, nI d), (4, 0)] ++ [(5, 0), (1, 9), (-1, nI b), (4, 0)] ++ [(1, 8)] ++ [(-1, nI a)]
  | _ => []
theorem ar3 {c : Nat} (h : ar c = 3) : c = 63 := by
  unfold ar at h
  split at h
  · omega
  · split at h
    · omega
    · split at h
      · assumption
      · omega
theorem ar63 {c : Nat} (h : ¬ ar c = 3) : ¬ c = 63 := fun e => h (by rw [e]; rfl)
theorem ar46 {c : Nat} (h : ar c = 1) : ¬ c = 46 := fun e => by rw [e] at h; exact absurd h (by decide)
theorem R_writeSign {n c a : Nat} {is : List Nat} {r : rM} {σ τ : TL} (hn : n < 100) (ha : a < 100) (hv : r.value n = nI c) (hc : c < 256) (hl : is.length + 1 = ar c) (hch : chI r.next is (r.next a)) (hW : WSr r σ τ) (hlen : τ.length + 12 ≤ 1200 ∨ τ.length + (sgK c a is).length ≤ 1200) (hQ : ∀ r', kw r r' → WSr r' σ (τ ++ sgK c a is) → Q (.inl none, (cW s (rW r' tl), b0, b1, op))) : mj_Mt gT cst gnw (m + 3) y_R_writeSign [.ref 27, .int (nI n), .int (nI a)] (cW s (rW r tl), b0, b1, op) Q := by
  have hin : vp_in (nI n) 100 := vp_in_nI hn (by decide)
  have ekn : (nI n).toNatClampNeg = n := nI_clamp (by omega)
  have hia : vp_in (nI a) 100 := vp_in_nI ha (by decide)
  have eka : (nI a).toNatClampNeg = a := nI_clamp (by omega)
  have ha3 := ar_le c
  intro J hJ
  refine hJ _ _ _ _ ?_
  refine And.intro hia ?_
  rw [eka]
  refine And.intro hin ?_
  rw [ekn, hv]
  rcases is with _ | ⟨b, _ | ⟨d, _ | ⟨e, is⟩⟩⟩
  · -- one
    have hl : ar c = 1 := hl.symm
    have n63 := ar63 (c := c) (by omega)
    have n46 := ar46 hl
    have hx : r.next a = -1 := hch
    rw [hx]
    refine And.intro (fun _ => ?_) (fun (g : nI c = 63) => absurd (nIj (j := 63) (by omega) (by decide) g) n63)
    refine And.intro hin ?_
    rw [ekn, hv]
    refine R_codeOf (by omega) ?_
    have hlen : τ.length + 2 ≤ 1200 := by
      rcases hlen with w | w
      · omega
      · exact w
    refine R_later hW (by omega) (fun r2 k2 w2 => ?_)
    have e5 : r2.value = r.value := (kw_e k2).1.2.2.2.2.1
    refine And.intro hin ?_
    rw [ekn, e5, hv]
    refine And.intro (fun _ => ?_) (fun (g : nI c = 46) => absurd (nIj (j := 46) (by omega) (by decide) g) n46)
    refine And.intro (fun _ => ?_) (fun (g : ¬ (-1 : Int32) < 0) => absurd (by decide) g)
    refine R_later w2 (by rw [len_s]; omega) (fun r3 k3 w3 => ?_)
    rw [List.append_assoc] at w3
    exact hQ r3 (kw_tr k2 k3) w3
  · -- two
    have hl : ar c = 2 := hl.symm
    have n63 := ar63 (c := c) (by omega)
    obtain ⟨hb, hx, -⟩ := hch
    rw [hx]
    have e0 : sgK c a [b] = if c = 46 then [(1, 13), (-1, nI a), (-1, nI b)] else [(1, cdO c), (-1, nI b), (-1, nI a)] := rfl
    refine And.intro (fun _ => ?_) (fun (g : nI c = 63) => absurd (nIj (j := 63) (by omega) (by decide) g) n63)
    refine And.intro hin ?_
    rw [ekn, hv]
    refine R_codeOf (by omega) ?_
    have hlen : τ.length + 3 ≤ 1200 := by
      rcases hlen with w | w
      · omega
      · rw [e0] at w
        split at w <;> exact w
    rw [e0] at hQ
    refine R_later hW (by omega) (fun r2 k2 w2 => ?_)
    have e5 : r2.value = r.value := (kw_e k2).1.2.2.2.2.1
    refine And.intro hin ?_
    rw [ekn, e5, hv]
    refine And.intro (fun (g : ¬ nI c = 46) => ?_) (fun (g : nI c = 46) => ?_)
    · have n46 : ¬ c = 46 := fun e => g (by rw [e]; rfl)
      rw [if_neg n46] at hQ
      refine And.intro (fun (g : nI b < 0) => absurd g (nI_pos (by omega))) (fun _ => ?_)
      refine R_later w2 (by rw [len_s]; omega) (fun r3 k3 w3 => ?_)
      refine R_later w3 (by rw [len_s, len_s]; omega) (fun r4 k4 w4 => ?_)
      rw [List.append_assoc, List.append_assoc] at w4
      exact hQ r4 (kw_tr k2 (kw_tr k3 k4)) w4
    · have e46 : c = 46 := nIj (j := 46) (by omega) (by decide) g
      rw [if_pos e46] at hQ
      have ecd : cdO c = 13 := by rw [e46]; rfl
      rw [ecd] at w2
      refine R_later w2 (by rw [len_s]; omega) (fun r3 k3 w3 => ?_)
      refine R_later w3 (by rw [len_s, len_s]; omega) (fun r4 k4 w4 => ?_)
      rw [List.append_assoc, List.append_assoc] at w4
      exact hQ r4 (kw_tr k2 (kw_tr k3 k4)) w4
  · -- three
    have hl : ar c = 3 := hl.symm
    have e63 := ar3 hl
    obtain ⟨hb, hx, hd, hx2, -⟩ := hch
    rw [hx]
    refine And.intro (fun (g : ¬ nI c = 63) => absurd (by rw [e63]; rfl) g) (fun _ => ?_)
    refine And.intro (vp_in_nI hb (by decide)) ?_
    rw [nI_clamp (by omega), hx2]
    have hlen : τ.length + 10 ≤ 1200 := by
      rcases hlen with w | w
      · omega
      · exact w
    refine R_laterCode hW (by omega) (fun r2 k2 w2 => ?_)
    refine R_laterCode w2 (by rw [List.length_append]; show τ.length + 4 + 3 < 1200; omega) (fun r3 k3 w3 => ?_)
    refine R_later w3 (by rw [List.length_append, List.length_append]; show τ.length + 4 + 4 < 1200; omega) (fun r4 k4 w4 => ?_)
    refine R_later w4 (by rw [len_s, List.length_append, List.length_append]; show τ.length + 4 + 4 + 1 < 1200; omega) (fun r5 k5 w5 => ?_)
    have e9 : sgK c a [b, d] = [(5, 0), (1, 9), (-1, nI d), (4, 0)] ++ [(5, 0), (1, 9), (-1, nI b), (4, 0)] ++ [(1, 8)] ++ [(-1, nI a)] := rfl
    rw [e9] at hQ
    refine hQ r5 (kw_tr k2 (kw_tr k3 (kw_tr k4 k5))) ?_
    replace w5 : WSr r5 σ (τ ++ [(5, 0), (1, 9), (-1, nI d), (4, 0)] ++ [(5, 0), (1, 9), (-1, nI b), (4, 0)] ++ [(1, 8)] ++ [(-1, nI a)]) := w5
    simp only [List.append_assoc] at w5 ⊢
    exact w5
  · rw [List.length_cons, List.length_cons, List.length_cons] at hl
    omega
theorem KD_sign {n c : Nat} {is : List Nat} (hn : n + 1 < 100) (hk : r0.kind n = 3) (hf : r0.first n = nI (n + 1)) (hv : r0.value n = nI c) (hc : c < 256) (hl : is.length + 1 = ar c) (hch : chI r0.next is (r0.next (n + 1))) : KD m b0 b1 cst op tl s r0 n (sgK c (n + 1) is) := by
  intro r' σ τ Q' k1 w1 hlen hQ'
  obtain ⟨⟨-, e2, -, -, e5, -⟩, ⟨e7, e8, -, -⟩, -⟩ := kw_e k1
  have hin : vp_in (nI n) 100 := vp_in_nI (by omega) (by decide)
  have ekn : (nI n).toNatClampNeg = n := nI_clamp (by omega)
  intro J hJ
  refine hJ _ _ _ _ ?_
  refine And.intro hin ?_
  rw [ekn, e7, hf]
  refine And.intro hin ?_
  rw [ekn, e2, hk]
  refine And.intro (fun (g : (3 : Int32) = 0) => absurd g (by decide)) (fun _ => And.intro (fun (g : (3 : Int32) = 1) => absurd g (by decide)) (fun _ => And.intro (fun (g : (3 : Int32) = 2) => absurd g (by decide)) (fun _ => And.intro (fun _ => ?_) (fun g => absurd rfl g))))
  refine R_writeSign (n := n) (c := c) (a := n + 1) (is := is) (by omega) (by omega) (by rw [e5]; exact hv) hc hl (by rw [e8]; exact hch) w1 (Or.inr hlen) (fun r2 k2 w2 => ?_)
  exact hQ' r2 (kw_tr k1 k2) w2
theorem W_leaf0 {n : Nat} (hJ : ∀ pc ls st h, mj_sg (mj_Mt gT cst gnw (m + 4)) cst gnw (mj_hd (mj_off kO_R_writeCode) kH_R_writeCode) kC_R_writeCode J Q 400 true pc ls st h → J pc ls st h) (hn : n < 100) (hk : r0.kind n = 0) : WW b0 b1 op tl s r0 J (-1, nI n) [(1, 1), (1, r0.value n)] := by
  have hin : vp_in (nI n) 100 := vp_in_nI (by omega) (by decide)
  have ekn : (nI n).toNatClampNeg = n := nI_clamp (by omega)
  refine W_call hJ (show 1 ≤ 2 by decide) (fun σ τ w hl hw hj r' Q' k1 w1 hQ' => ?_)
  have hl : σ.length + 2 + w ≤ 1200 := hl
  obtain ⟨⟨-, e2, -, -, e5, -⟩, ⟨e7, e8, -, -⟩, -⟩ := kw_e k1
  intro J hJ
  refine hJ _ _ _ _ ?_
  refine And.intro hin ?_
  refine And.intro hin ?_
  rw [ekn, e2, hk]
  refine And.intro (fun _ => ?_) (fun g => absurd rfl g)
  refine R_sign w1 (by omega) (fun r2 k2 w2 => ?_)
  have e5' : r2.value = r0.value := (kw_e (kw_tr k1 k2)).1.2.2.2.2.1
  refine And.intro hin ?_
  rw [ekn, e5']
  refine R_sign w2 (by rw [len_s]; omega) (fun r3 k3 w3 => ?_)
  rw [List.append_assoc] at w3
  exact hQ' r3 _ τ (kw_tr k1 (kw_tr k2 k3)) w3 hj
theorem W_leaf1 {n c k a : Nat} {φ : Fr} (ha : a ≤ 96) (hkk : k ≤ 600) (hJ : ∀ pc ls st h, mj_sg (mj_Mt gT cst gnw (m + 4)) cst gnw (mj_hd (mj_off kO_R_writeCode) kH_R_writeCode) kC_R_writeCode J Q 400 true pc ls st h → J pc ls st h) (hn : n < 100) (hk : r0.kind n = 1) (hv : r0.value n = nI c) (hc : c < 256) (hch : CHd r0 k n φ) : WW b0 b1 op tl s r0 J (-1, nI n) [(1, 2), (6, lkF c (uP a) φ 0)] := by
  have hin : vp_in (nI n) 100 := vp_in_nI (by omega) (by decide)
  have ekn : (nI n).toNatClampNeg = n := nI_clamp (by omega)
  refine W_call hJ (show 1 ≤ 2 by decide) (fun σ τ w hl hw hj r' Q' k1 w1 hQ' => ?_)
  have hl : σ.length + 2 + w ≤ 1200 := hl
  obtain ⟨⟨-, e2, -, -, e5, -⟩, ⟨e7, e8, -, -⟩, -⟩ := kw_e k1
  intro J hJ
  refine hJ _ _ _ _ ?_
  refine And.intro hin ?_
  refine And.intro hin ?_
  rw [ekn, e2, hk]
  refine And.intro (fun (g : (1 : Int32) = 0) => absurd g (by decide)) (fun _ => And.intro (fun _ => ?_) (fun g => absurd rfl g))
  refine R_sign w1 (by omega) (fun r2 k2 w2 => ?_)
  have e5' : r2.value = r0.value := (kw_e (kw_tr k1 k2)).1.2.2.2.2.1
  refine R_resolved hn (by rw [e5']; exact hv) hc (CHd_kw (kw_tr k1 k2) k n φ hch) ?_
  refine R_sign w2 (by rw [len_s]; omega) (fun r3 k3 w3 => ?_)
  rw [List.append_assoc, ← nr_lk (a := a) hch hkk ha] at w3
  exact hQ' r3 _ τ (kw_tr k1 (kw_tr k2 k3)) w3 hj
theorem gD_low {tx : Nat → Nat} : ∀ (f : Nat) (b : Bool) (o d a : Nat) (D : TL) (a' : Nat), gD tx f b o d a = .inl (D, a') → ∀ t ∈ D, ¬ t.1 = 6
  | 0, b, o, d, a, D, a', h => by cases h
  | f + 1, false, o, d, a, D, a', h => by
    have e0 : gD tx (f + 1) false o d a = if tx a = 40 then (if d + o < 9 then cns (4, 0) (gD tx f (decide (tx (a + 1) = 41)) (o + 1) d (a + 1)) else .inr a) else if cL (tx a) then cns (2, nI (tx a)) (gD tx f true o d (a + 1)) else if cD (tx (pA1 tx a)) then cns (1, pVal tx a) (gD tx f true o d (pDg tx 4 (pA1 tx a) 0).1) else .inr (pA1 tx a) := rfl
    have sub : ∀ (x : Int32 × Int32) (b : Bool) (o d a2 : Nat), ¬ x.1 = 6 → cns x (gD tx f b o d a2) = .inl (D, a') → ∀ t ∈ D, ¬ t.1 = 6 := by
      intro x b o d a2 hx h t ht
      obtain ⟨D2, q1, q2⟩ := cns_inv h
      rw [q2] at ht
      rcases List.mem_cons.mp ht with w | w
      · rw [w]
        exact hx
      · exact gD_low f b o d a2 D2 a' q1 t w
    rw [e0] at h
    split at h
    · split at h
      · exact sub _ _ _ _ _ (by decide) h
      · cases h
    · split at h
      · exact sub _ _ _ _ _ (show ¬ (2 : Int32) = 6 by decide) h
      · split at h
        · exact sub _ _ _ _ _ (show ¬ (1 : Int32) = 6 by decide) h
        · cases h
  | f + 1, true, 0, d, a, D, a', h => by
    have h : (Sum.inl ([], a) : (TL × Nat) ⊕ Nat) = .inl (D, a') := h
    cases h
    intro t ht
    cases ht
  | f + 1, true, o + 1, d, a, D, a', h => by
    have e1 : gD tx (f + 1) true (o + 1) d a = if tx a = 41 then cns (5, 0) (gD tx f true o d (a + 1)) else if tx a = 32 then gD tx f false (o + 1) d (a + 1) else .inr a := rfl
    rw [e1] at h
    split at h
    · obtain ⟨D2, q1, q2⟩ := cns_inv h
      intro t ht
      rw [q2] at ht
      rcases List.mem_cons.mp ht with w | w
      · rw [w]
        decide
      · exact gD_low f true o d (a + 1) D2 a' q1 t w
    · split at h
      · exact gD_low f false (o + 1) d (a + 1) D a' h
      · cases h
theorem low_id : ∀ (D : TL), (∀ t ∈ D, ¬ t.1 = 6) → low D = D
  | [], _ => rfl
  | t :: D, h => by
    show lw t :: low D = t :: D
    rw [low_id D (fun x hx => h x (List.mem_cons_of_mem _ hx))]
    unfold lw
    rw [if_neg (h t List.mem_cons_self)]
theorem W_leaf2 {n a a' d : Nat} {D : TL} (hJ : ∀ pc ls st h, mj_sg (mj_Mt gT cst gnw (m + 4)) cst gnw (mj_hd (mj_off kO_R_writeCode) kH_R_writeCode) kC_R_writeCode J Q 400 true pc ls st h → J pc ls st h) (hx : txOK r0.text len tx) (ht : r0.typed = nI len) (hn : n < 100) (hk : r0.kind n = 2) (hat : r0.at_ n = nI a) (hu : r0.until_ n = nI a') (ha : a + 1 ≤ len) (hg : gD tx 200 false 0 d (a + 1) = .inl (D, a')) : WW b0 b1 op tl s r0 J (-1, nI n) ((1, 1) :: D) := by
  have hin : vp_in (nI n) 100 := vp_in_nI (by omega) (by decide)
  have ekn : (nI n).toNatClampNeg = n := nI_clamp (by omega)
  have hlow : low ((1, 1) :: D) = (1, 1) :: D := low_id _ (fun t w => by
    rcases List.mem_cons.mp w with w | w
    · rw [w]
      decide
    · exact gD_low _ _ _ _ _ _ _ hg t w)
  refine W_call hJ (by rw [List.length_cons]; omega) (fun σ τ w hl hw hj r' Q' k1 w1 hQ' => ?_)
  rw [hlow] at hj
  rw [List.length_cons] at hl
  obtain ⟨⟨-, e2, -, -, e5, -⟩, ⟨e7, e8, -, -⟩, -⟩ := kw_e k1
  intro J hJ
  refine hJ _ _ _ _ ?_
  refine And.intro hin ?_
  refine And.intro hin ?_
  rw [ekn, e2, hk]
  refine And.intro (fun (g : (2 : Int32) = 0) => absurd g (by decide)) (fun _ => And.intro (fun (g : (2 : Int32) = 1) => absurd g (by decide)) (fun _ => And.intro (fun _ => ?_) (fun g => absurd rfl g)))
  refine R_sign w1 (by omega) (fun r2 k2 w2 => ?_)
  have k12 := kw_tr k1 k2
  obtain ⟨⟨-, -, f3, f4, -, -⟩, -, f6, f7⟩ := kw_e k12
  refine R_writeDatum (d := d) (a := a) (a' := a') (D := D) (by rw [f6]; exact hx) (by rw [f7]; exact ht) hn (by rw [f3]; exact hat) (by rw [f4]; exact hu) ha hg w2 (by rw [len_s]; omega) (fun r3 k3 w3 => ?_)
  rw [List.append_assoc] at w3
  exact hQ' r3 _ τ (kw_tr k12 k3) w3 hj
end YF
end
section
section YG
variable {cst : Nat → Option (Nat × (Nat → Int32))} {m b0 b1 : Nat} {op : Bool} {tl : List mj_O} {Q : mj_R → Prop} {s : cS} {r0 : rM} {J : Nat → mj_L → List Value → mj_H → Prop} {tx : Nat → Nat} {len : Nat}
set_option maxRecDepth 10000
theorem gD_pos {X : Nat → Int32} {d f o a a' : Nat} {D : TL} (hx : txOK X len tx) (h : gD tx (f + 1) false o d a = .inl (D, a')) : a < len := by
  refine hx.lt (a := a) (fun e => ?_)
  have e0 : gD tx (f + 1) false o d a = if tx a = 40 then (if d + o < 9 then cns (4, 0) (gD tx f (decide (tx (a + 1) = 41)) (o + 1) d (a + 1)) else .inr a) else if cL (tx a) then cns (2, nI (tx a)) (gD tx f true o d (a + 1)) else if cD (tx (pA1 tx a)) then cns (1, pVal tx a) (gD tx f true o d (pDg tx 4 (pA1 tx a) 0).1) else .inr (pA1 tx a) := rfl
  have e1 : pA1 tx a = a := if_neg (by omega)
  rw [e0, e1, e, if_neg (by decide), if_neg (by decide), if_neg (by decide)] at h
  cases h
theorem CH_no {r : rM} {k n j : Nat} {φ : Fr} (hn : n < 100) (hp : r.parent j = nI n) (hc : CHd r k n φ) (h5 : ¬ r.kind n = 5) (h7 : ¬ r.kind n = 7) (h6 : ¬ r.kind n = 6 ∨ ¬ r.first n = nI j) : CHd r (k + 1) j φ := ⟨n, φ, hn, hp, hc, Or.inr ⟨rfl, h5, h7, h6⟩⟩
theorem CH_fr {r : rM} {k n j : Nat} {φ : Fr} {ls : List Nat} (hn : n < 100) (hp : r.parent j = nI n) (hc : CHd r k n φ) (h : FRb r n ls ∨ (FRk r n ls ∧ (r.kind n = 7 ∨ r.first n = nI j))) : CHd r (k + 1) j (ls :: φ) := ⟨n, φ, hn, hp, hc, Or.inl ⟨ls, rfl, h⟩⟩
theorem rowT_len : ∀ (ks : List Kd) (φ : Fr), 2 ≤ (rowT ks φ).length
  | [], φ => Nat.le_refl _
  | k :: ks, φ => by
    have := rowT_len ks φ
    show 2 ≤ (rowT ks φ ++ (k.1 φ ++ [(1, 13)])).length
    rw [List.length_append]
    omega
set_option maxHeartbeats 4000000 in
theorem W_part (hJ : ∀ pc ls st h, mj_sg (mj_Mt gT cst gnw (m + 4)) cst gnw (mj_hd (mj_off kO_R_writeCode) kH_R_writeCode) kC_R_writeCode J Q 400 true pc ls st h → J pc ls st h) (hx : txOK r0.text len tx) (ht : r0.typed = nI len) : ∀ (f n e : Nat) (t : Tau) (k : Nat) (φ : Fr), cR tx r0 f n e t → e ≤ 100 → CHd r0 k n φ → k + f ≤ 600 → WW b0 b1 op tl s r0 J (-1, nI n) (t φ)
  | 0, n, e, t, k, φ, h, _, _, _ => absurd h id
  | f + 1, n, e, t, k, φ, h, he, hc, hkf => by
    have hlt := cR_lt (f + 1) n e t h
    rcases h with ⟨h1, h2, h3⟩ | ⟨h1, h2, c, a, h3, h4, h5, h6, h7⟩ | ⟨h1, h2, a, a', d, D, h3, h4, h5, h6, h7⟩ | ⟨ks, l, h1, h2, h3, hT⟩
    · rw [h3]
      exact W_leaf0 hJ (by omega) h1
    · rw [h7]
      exact W_leaf1 (a := a) h4 (by omega) hJ (by omega) h1 h6 h3 hc
    · rw [h7]
      have := gD_pos hx h5
      exact W_leaf2 hJ hx ht (by omega) h1 h3 h4 (by omega) h5
    · have hlt2 := cKL_lt (fun i m t w => cR_lt (tx := tx) (r := r0) f i m t w.1) ks _ _ _ h1
      have kid : ∀ (j e2 : Nat) (t2 : Tau) (φ2 : Fr), (cR tx r0 f j e2 t2 ∧ r0.parent j = nI n) → e2 ≤ e → CHd r0 (k + 1) j φ2 → WW b0 b1 op tl s r0 J (-1, nI j) (t2 φ2) := fun j e2 t2 φ2 q1 q2 q3 => W_part hJ hx ht f j e2 t2 (k + 1) φ2 q1.1 (by omega) q3 (by omega)
      have hlk : ∀ (a : Kd) (args : List Kd), ks = a :: args → (∃ e2, (cR tx r0 f (n + 1) e2 a.1 ∧ r0.parent (n + 1) = nI n) ∧ e2 ≤ e) ∧ ∃ is, chI r0.next is (r0.next (n + 1)) ∧ F2 (fun k j => n + 1 < j ∧ ∃ e2, (cR tx r0 f j e2 k.1 ∧ r0.parent j = nI n) ∧ e2 ≤ e) args is := by
        intro a args ea
        rw [ea] at h1
        exact cKL_is (fun i m t w => cR_lt (tx := tx) (r := r0) f i m t w.1) args a (n + 1) l e h1 h2 (by omega)
      rcases hT with ⟨k1, c, c1, c2, c3, c4, c5⟩ | ⟨k1, a, args, c1, c2, c3⟩ | ⟨k1, a, ls, c1, c2, c3, c4, c5, c6⟩ | ⟨k1, a, args, ls, c1, c2, c3, c4, c5, c6⟩ | ⟨k1, a, args, ls, c1, c2, c3, c4, c5, c6⟩
      · -- a sign
        have n5 : ¬ r0.kind n = 5 := by rw [k1]; decide
        have n7 : ¬ r0.kind n = 7 := by rw [k1]; decide
        have n6 : ¬ r0.kind n = 6 := by rw [k1]; decide
        have chn : ∀ j, r0.parent j = nI n → CHd r0 (k + 1) j φ := fun j hj => CH_no (by omega) hj hc n5 n7 (Or.inl n6)
        rw [c5]
        rcases ks with _ | ⟨a, args⟩
        · rw [List.length_nil] at c4
          omega
        obtain ⟨⟨e2, p1, p2⟩, is, q1, q2⟩ := hlk a args rfl
        have wa := kid (n + 1) e2 a.1 φ p1 p2 (chn _ p1.2)
        have q3 := F2_mono (fun kd j (w : n + 1 < j ∧ ∃ e2, (cR tx r0 f j e2 kd.1 ∧ r0.parent j = nI n) ∧ e2 ≤ e) => (show WW b0 b1 op tl s r0 J (-1, nI j) (kd.1 φ) by
          obtain ⟨-, e3, w1, w2⟩ := w
          exact kid j e3 kd.1 φ w1 w2 (chn _ w1.2))) args is q2
        have hli := F2_len args is q2
        rw [List.length_cons] at c4
        have hKD := KD_sign (m := m) (b0 := b0) (b1 := b1) (cst := cst) (op := op) (tl := tl) (s := s) (r0 := r0) (n := n) (c := c) (is := is) (by omega) k1 h3 c2 c1 (by omega) q1
        have t1 : ∀ v : Int32, WL b0 b1 op tl s r0 J [(1, v)] [(1, v)] := fun v => WL_snoc WL_nil (W_tok (k := 1) (v := v) hJ (by decide) (by decide))
        have ha3 := ar_le c
        rcases args with _ | ⟨b, _ | ⟨d, _ | ⟨x, args⟩⟩⟩ <;> rcases is with _ | ⟨i, _ | ⟨j, _ | ⟨y, is⟩⟩⟩ <;> first | (exact absurd q3 id) | (exact absurd q3.2 id) | (exact absurd q3.2.2 id) | skip
        · refine W_kids hJ ?_ hKD (WL_snoc (t1 (cdO c)) wa)
          show 1 ≤ (a.1 φ ++ [(1, cdO c)]).length
          rw [List.length_append, List.length_cons]
          omega
        · by_cases e46 : c = 46
          · have e9 : sgT c [a, b] φ = b.1 φ ++ (a.1 φ ++ [(1, 13)]) := if_pos e46
            have e10 : sgK c (n + 1) [i] = [(1, 13), (-1, nI (n + 1)), (-1, nI i)] := if_pos e46
            rw [e10] at hKD
            rw [e9]
            refine W_kids hJ ?_ hKD (WL_snoc (WL_snoc (t1 13) wa) q3.1)
            rw [List.length_append]
            have := q3.1.1
            omega
          · have e9 : sgT c [a, b] φ = a.1 φ ++ (b.1 φ ++ [(1, cdO c)]) := if_neg e46
            have e10 : sgK c (n + 1) [i] = [(1, cdO c), (-1, nI i), (-1, nI (n + 1))] := if_neg e46
            rw [e10] at hKD
            rw [e9]
            refine W_kids hJ ?_ hKD (WL_snoc (WL_snoc (t1 (cdO c)) q3.1) wa)
            rw [List.length_append]
            have := wa.1
            omega
        · have w1 := WL_code (e := 9) hJ WL_nil q3.2.1
          have w2 := WL_code (e := 9) hJ w1 q3.1
          have w3 := WL_snoc (WL_snoc w2 (W_tok (k := 1) (v := 8) hJ (by decide) (by decide))) wa
          rw [List.append_nil] at w3
          refine W_kids hJ ?_ hKD w3
          show 1 ≤ (a.1 φ ++ ((1, 8) :: (lstT 9 b.1 φ ++ lstT 9 d.1 φ))).length
          rw [List.length_append]
          have := wa.1
          omega
        all_goals (rw [List.length_cons, List.length_cons, List.length_cons] at c4; omega)
      · -- a call
        have n5 : ¬ r0.kind n = 5 := by rw [k1]; decide
        have n7 : ¬ r0.kind n = 7 := by rw [k1]; decide
        have n6 : ¬ r0.kind n = 6 := by rw [k1]; decide
        have chn : ∀ j, r0.parent j = nI n → CHd r0 (k + 1) j φ := fun j hj => CH_no (by omega) hj hc n5 n7 (Or.inl n6)
        obtain ⟨⟨e2, p1, p2⟩, is, q1, q2⟩ := hlk a args c1
        have wa := kid (n + 1) e2 a.1 φ p1 p2 (chn _ p1.2)
        have q3 := F2_mono (fun kd j (w : n + 1 < j ∧ ∃ e2, (cR tx r0 f j e2 kd.1 ∧ r0.parent j = nI n) ∧ e2 ≤ e) => (show WW b0 b1 op tl s r0 J (-1, nI j) (kd.1 φ) by
          obtain ⟨-, e3, w1, w2⟩ := w
          exact kid j e3 kd.1 φ w1 w2 (chn _ w1.2))) args is q2
        rw [c3]
        refine W_kids hJ ?_ (KD_call (by omega) k1 h3 q1) (WL_row hJ args is _ _ (WL_snoc (WL_snoc WL_nil (W_tok (k := 1) (v := 4) hJ (by decide) (by decide))) wa) q3)
        show 1 ≤ (rowT args φ ++ (a.1 φ ++ [(1, 4)])).length
        rw [List.length_append]
        have := rowT_len args φ
        omega
      · -- a function
        obtain ⟨⟨e2, p1, p2⟩, is, q1, q2⟩ := hlk a [] c1
        have wa := kid (n + 1) e2 a.1 (ls :: φ) p1 p2 (CH_fr (by omega) p1.2 hc (Or.inl ⟨k1, c3, c2, c4, c5⟩))
        rw [c6]
        have w1 := WL_snoc (WL_code (e := 5) hJ WL_nil wa) (W_tok (k := 1) (v := 3) hJ (by decide) (by decide))
        rw [List.append_nil] at w1
        exact W_kids hJ (by show 1 ≤ ((1, 3) :: lstT 5 a.1 (ls :: φ)).length; rw [List.length_cons]; omega) (KD_body (by omega) k1 h3) w1
      · -- bound
        have hlen : ls.length = args.length := by
          have := congrArg List.length c4
          rw [List.length_map, List.length_map] at this
          exact this.symm
        have hch := h1
        rw [c1] at hch
        have hch2 := cKL_ch (fun i m t w => cR_lt (tx := tx) (r := r0) f i m t w.1) args a (n + 1) l e hch h2 (by omega)
        rw [c4] at hch2
        have hF : FRk r0 n ls := ⟨Or.inl k1, n + 1, by omega, h3, hch2, c5, by omega⟩
        obtain ⟨⟨e2, p1, p2⟩, is, q1, q2⟩ := hlk a args c1
        have wa := kid (n + 1) e2 a.1 (ls :: φ) p1 p2 (CH_fr (by omega) p1.2 hc (Or.inr ⟨hF, Or.inr h3⟩))
        have q3 := F2_mono (fun kd j (w : n + 1 < j ∧ ∃ e2, (cR tx r0 f j e2 kd.1 ∧ r0.parent j = nI n) ∧ e2 ≤ e) => (show WW b0 b1 op tl s r0 J (-1, nI j) (kd.1 φ) by
          obtain ⟨w0, e3, w1, w2⟩ := w
          exact kid j e3 kd.1 φ w1 w2 (CH_no (by omega) w1.2 hc (by rw [k1]; decide) (by rw [k1]; decide) (Or.inr (fun q => by have q := h3.symm.trans q; have q2 := cR_lt f j e3 kd.1 w1.1; have := nIj (by omega) (by omega) q; omega))))) args is q2
        rw [c6]
        have w1 := WL_snoc (WL_code (e := 5) hJ (WL_snoc WL_nil (W_tok (k := 1) (v := 4) hJ (by decide) (by decide))) wa) (W_tok (k := 1) (v := 3) hJ (by decide) (by decide))
        have w2 := WL_row hJ args is _ _ w1 q3
        have hKD := KD_let (m := m) (b0 := b0) (b1 := b1) (cst := cst) (op := op) (tl := tl) (s := s) (r0 := r0) (n := n) (rc := false) (is := is) (by omega) k1 h3 q1
        have e10 : (if false = true then [((1 : Int32), (6 : Int32))] else []) = [] := rfl
        rw [e10, List.append_nil] at hKD
        refine W_kids hJ ?_ hKD w2
        show 1 ≤ (rowT args φ ++ (boT a ls φ ++ [(1, 4)])).length
        rw [List.length_append]
        have := rowT_len args φ
        omega
      · -- bound, in its frame
        have hlen : ls.length = args.length := by
          have := congrArg List.length c4
          rw [List.length_map, List.length_map] at this
          exact this.symm
        have hch := h1
        rw [c1] at hch
        have hch2 := cKL_ch (fun i m t w => cR_lt (tx := tx) (r := r0) f i m t w.1) args a (n + 1) l e hch h2 (by omega)
        rw [c4] at hch2
        have hF : FRk r0 n ls := ⟨Or.inr k1, n + 1, by omega, h3, hch2, c5, by omega⟩
        obtain ⟨⟨e2, p1, p2⟩, is, q1, q2⟩ := hlk a args c1
        have wa := kid (n + 1) e2 a.1 (ls :: φ) p1 p2 (CH_fr (by omega) p1.2 hc (Or.inr ⟨hF, Or.inr h3⟩))
        have q3 := F2_mono (fun kd j (w : n + 1 < j ∧ ∃ e2, (cR tx r0 f j e2 kd.1 ∧ r0.parent j = nI n) ∧ e2 ≤ e) => (show WW b0 b1 op tl s r0 J (-1, nI j) (kd.1 (ls :: φ)) by
          obtain ⟨w0, e3, w1, w2⟩ := w
          exact kid j e3 kd.1 (ls :: φ) w1 w2 (CH_fr (by omega) w1.2 hc (Or.inr ⟨hF, Or.inl k1⟩)))) args is q2
        rw [c6]
        have w1 := WL_snoc (WL_code (e := 5) hJ (WL_snoc WL_nil (W_tok (k := 1) (v := 7) hJ (by decide) (by decide))) wa) (W_tok (k := 1) (v := 3) hJ (by decide) (by decide))
        have w2 := WL_row hJ args is _ _ w1 q3
        have hKD := KD_let (m := m) (b0 := b0) (b1 := b1) (cst := cst) (op := op) (tl := tl) (s := s) (r0 := r0) (n := n) (rc := true) (is := is) (by omega) k1 h3 q1
        have w3 := WL_snoc w2 (W_tok (k := 1) (v := 6) hJ (by decide) (by decide))
        refine W_kids hJ ?_ hKD w3
        show 1 ≤ ((1, 6) :: (rowT args (ls :: φ) ++ (boT a ls φ ++ [(1, 7)]))).length
        rw [List.length_cons]
        omega
theorem R_writeCode {r : rM} {t : Tau} {e : Nat} (hx : txOK r.text len tx) (ht : r.typed = nI len) (hc : cR tx r 10 0 e t) (he : e ≤ 100) (hp : r.parent 0 = -1) (hl : (t []).length + 1 ≤ 1200) (hQ : ∀ r', kw r r' → WSr r' (low (t []) ++ [(1, 19)]) [] → Q (.inl none, (cW s (rW r' tl), b0, b1, op))) : mj_Mt gT cst gnw (m + 5) y_R_writeCode [.ref 27] (cW s (rW r tl), b0, b1, op) Q := by
  intro J hJ
  have wp : WW b0 b1 op tl s r J (-1, nI 0) (t []) := W_part hJ hx ht 10 0 e t 0 [] hc he ⟨hp, rfl⟩ (by decide)
  have wl := WL_snoc (WL_snoc WL_nil (W_tok (b0 := b0) (b1 := b1) (op := op) (tl := tl) (s := s) (r0 := r) (k := 1) (v := 19) hJ (by decide) (by decide))) wp
  have fin : JW b0 b1 op tl s r J ([] ++ low (t [] ++ ([(1, 19)] ++ []))) [] := by
    intro r' k w
    have h0 : r'.tasks = nI 0 := w.2.1.1
    refine hJ _ _ _ _ ?_
    refine And.intro (fun _ => ?_) (fun (g : ¬ r'.tasks ≤ 0) => absurd (by rw [h0]; decide) g)
    refine hQ r' k ?_
    have e1 : [] ++ low (t [] ++ ([(1, 19)] ++ [])) = low (t []) ++ [(1, 19)] := by
      rw [List.append_nil, List.nil_append, low_app]
      rfl
    rw [e1] at w
    exact w
  have main := wl.2 [] [] 0 (by rw [List.length_append]; show 0 + ((t []).length + 1) + 0 ≤ 1200; omega) (Nat.le_refl _) fin
  have w0 : WSr (((r.s_signs 0).s_cells 0).s_tasks 0) [] [] := ⟨⟨rfl, fun i t hi => by rw [List.getElem?_nil] at hi; cases hi⟩, ⟨rfl, fun i t hi => by rw [List.getElem?_nil] at hi; cases hi⟩, rfl⟩
  refine hJ _ _ _ _ ?_
  refine R_later (r := (((r.s_signs 0).s_cells 0).s_tasks 0)) w0 (by decide) (fun r2 k2 w2 => ?_)
  refine R_later w2 (by decide) (fun r3 k3 w3 => ?_)
  have k03 : kw r r3 := kw_tr (r' := (((r.s_signs 0).s_cells 0).s_tasks 0)) rfl (kw_tr k2 k3)
  exact main r3 k03 w3
end YG
end
