def FRb (r : rM) (v : Nat) (ls : List Nat) : Prop := r.kind v = 5 ∧ r.value v = nI ls.length ∧ ls.length ≤ 3 ∧ (∀ i c, ls[i]? = some c → r.letters (3 * v + i) = nI c) ∧ (∀ c ∈ ls, c < 256)
def FRk (r : rM) (v : Nat) (ls : List Nat) : Prop := (r.kind v = 6 ∨ r.kind v = 7) ∧ ∃ i1, i1 < 100 ∧ r.first v = nI i1 ∧ chL r.next r.bound (ls.map nI) (r.next i1) ∧ (∀ c ∈ ls, c < 256) ∧ ls.length ≤ 3
def CHd (r : rM) : Nat → Nat → Fr → Prop
  | 0, n, φ => r.parent n = -1 ∧ φ = []
  | k + 1, n, φ => ∃ v φ', v < 100 ∧ r.parent n = nI v ∧ CHd r k v φ' ∧
      ((∃ ls, φ = ls :: φ' ∧ (FRb r v ls ∨ (FRk r v ls ∧ (r.kind v = 7 ∨ r.first v = nI n)))) ∨ (φ = φ' ∧ ¬ r.kind v = 5 ∧ ¬ r.kind v = 7 ∧ (¬ r.kind v = 6 ∨ ¬ r.first v = nI n)))
section YA
variable {cst : Nat → Option (Nat × (Nat → Int32))} {m b0 b1 : Nat} {op : Bool} {tl : List mj_O} {Q : mj_R → Prop} {s : cS} {r : rM}
set_option maxRecDepth 10000
theorem R_placeIn {v c : Nat} {ls : List Nat} (hv : v < 100) (hc : c < 256) (h : FRb r v ls ∨ FRk r v ls) (hQ : Q (.inl (some (.int (oV (plc c ls 0)))), (cW s (rW r tl), b0, b1, op))) : mj_Mt gT cst gnw (m + 1) y_R_placeIn [.ref 27, .int (nI v), .int (nI c)] (cW s (rW r tl), b0, b1, op) Q := by
  have hiv : vp_in (nI v) 100 := vp_in_nI hv (by decide)
  have ekv : (nI v).toNatClampNeg = v := nI_clamp (by omega)
  intro J hJ
  rcases h with ⟨h1, h2, h3, h4, h5⟩ | ⟨h1, i1, h2, h3, h4, h5, -⟩
  · have loop : ∀ (rest : List Nat) (k : Nat), k + rest.length = ls.length → (∀ i, rest[i]? = ls[k + i]?) → plc c rest k = plc c ls 0 → J 8 [some (.ref 27), some (.int (nI v)), some (.int (nI c)), some (.int (nI k)), none] [] (cW s (rW r tl), b0, b1, op) := by
      intro rest
      induction rest with
      | nil =>
        intro k hk hr e
        have hk : k = ls.length := hk
        refine hJ _ _ _ _ ?_
        refine And.intro hiv ?_
        rw [ekv, h2]
        refine And.intro (fun _ => ?_) (fun (g : ¬ nI ls.length ≤ nI k) => absurd (nI_le (by omega) (by omega)) g)
        rw [← e] at hQ
        exact hQ
      | cons y rest ih =>
        intro k hk hr e
        rw [List.length_cons] at hk
        have hy : ls[k]? = some y := by
          have := hr 0
          rw [Nat.add_zero] at this
          exact this.symm
        have hy256 : y < 256 := h5 y (List.mem_of_getElem? hy)
        have i3 : Int32.ofInt 3 * nI v + nI k = nI (3 * v + k) := by rw [three_n, nI_add]
        refine hJ _ _ _ _ ?_
        refine And.intro hiv ?_
        rw [ekv, h2]
        refine And.intro (fun (g : nI ls.length ≤ nI k) => absurd g (nI_ge (by omega) (by omega))) (fun _ => ?_)
        refine And.intro (show vp_in (Int32.ofInt 3 * nI v + nI k) 300 by rw [i3]; exact vp_in_nI (by omega) (by decide)) ?_
        rw [i3, nI_clamp (by omega), h4 k y hy]
        have e0 : plc c (y :: rest) k = if y = c then some k else plc c rest (k + 1) := rfl
        rw [e0] at e
        refine And.intro (fun (g : ¬ nI y = nI c) => ?_) (fun (g : nI y = nI c) => ?_)
        · have ne : ¬ y = c := fun q => g (by rw [q])
          rw [if_neg ne] at e
          have key : ∀ x : Int32, x = nI (k + 1) → J 8 [some (.ref 27), some (.int (nI v)), some (.int (nI c)), some (.int x), none] [] (cW s (rW r tl), b0, b1, op) := by
            rintro x rfl
            refine ih (k + 1) (by omega) (fun i => ?_) e
            have := hr (i + 1)
            rw [show k + (i + 1) = k + 1 + i by omega] at this
            exact this
          exact key _ (nI_succ k).symm
        · have eq : y = c := nIj (by omega) (by omega) g
          rw [if_pos eq] at e
          rw [← e] at hQ
          exact hQ
    refine hJ _ _ _ _ ?_
    refine And.intro hiv ?_
    rw [ekv, h1]
    refine And.intro (fun (g : ¬ (5 : Int32) = 5) => absurd rfl g) (fun _ => ?_)
    exact loop ls 0 (by omega) (fun i => by rw [Nat.zero_add]) rfl
  · have loop : ∀ (rest : List Nat) (k : Nat) (x : Int32), chL r.next r.bound (rest.map nI) x → (∀ c ∈ rest, c < 256) → plc c rest k = plc c ls 0 → J 40 [some (.ref 27), some (.int (nI v)), some (.int (nI c)), some (.int (nI k)), some (.int x)] [] (cW s (rW r tl), b0, b1, op) := by
      intro rest
      induction rest with
      | nil =>
        intro k x hx hb e
        have hx : x = -1 := hx
        subst hx
        refine hJ _ _ _ _ ?_
        refine And.intro (fun _ => ?_) (fun (g : ¬ (-1 : Int32) < 0) => absurd (by decide) g)
        rw [← e] at hQ
        exact hQ
      | cons y rest ih =>
        intro k x hx hb e
        obtain ⟨i, hi, rfl, hbi, hx2⟩ := hx
        have hii : vp_in (nI i) 100 := vp_in_nI hi (by decide)
        have eki : (nI i).toNatClampNeg = i := nI_clamp (by omega)
        have hy256 : y < 256 := hb y List.mem_cons_self
        refine hJ _ _ _ _ ?_
        refine And.intro (fun (g : nI i < 0) => absurd g (nI_pos (by omega))) (fun _ => ?_)
        refine And.intro hii ?_
        rw [eki, hbi]
        have e0 : plc c (y :: rest) k = if y = c then some k else plc c rest (k + 1) := rfl
        rw [e0] at e
        refine And.intro (fun (g : ¬ nI y = nI c) => ?_) (fun (g : nI y = nI c) => ?_)
        · have ne : ¬ y = c := fun q => g (by rw [q])
          rw [if_neg ne] at e
          refine And.intro hii ?_
          rw [eki]
          have key : ∀ x : Int32, x = nI (k + 1) → J 40 [some (.ref 27), some (.int (nI v)), some (.int (nI c)), some (.int x), some (.int (r.next i))] [] (cW s (rW r tl), b0, b1, op) := by
            rintro x rfl
            exact ih (k + 1) _ hx2 (fun c hc => hb c (List.mem_cons_of_mem _ hc)) e
          exact key _ (nI_succ k).symm
        · have eq : y = c := nIj (by omega) (by omega) g
          rw [if_pos eq] at e
          rw [← e] at hQ
          exact hQ
    refine hJ _ _ _ _ ?_
    refine And.intro hiv ?_
    rw [ekv]
    refine And.intro (fun _ => ?_) (fun (g : r.kind v = 5) => by rcases h1 with w | w <;> rw [w] at g <;> exact absurd g (by decide))
    refine And.intro hiv ?_
    rw [ekv, h3]
    refine And.intro (vp_in_nI h2 (by decide)) ?_
    rw [nI_clamp (by omega)]
    exact loop ls 0 _ h4 h5 rfl
theorem plc_lt {c : Nat} : ∀ (ls : List Nat) (k i : Nat), plc c ls k = some i → k ≤ i ∧ i < k + ls.length
  | [], k, i, h => by cases h
  | y :: ls, k, i, h => by
    have e0 : plc c (y :: ls) k = if y = c then some k else plc c ls (k + 1) := rfl
    rw [e0] at h
    rw [List.length_cons]
    split at h
    · cases h
      omega
    · have := plc_lt ls (k + 1) i h
      omega
theorem R_resolved {nm c k0 : Nat} {φ0 : Fr} (hn : nm < 100) (hv : r.value nm = nI c) (hc : c < 256) (hch : CHd r k0 nm φ0) (hQ : Q (.inl (some (.int (lkF c (-1) φ0 0))), (cW s (rW r tl), b0, b1, op))) : mj_Mt gT cst gnw (m + 2) y_R_resolved [.ref 27, .int (nI nm)] (cW s (rW r tl), b0, b1, op) Q := by
  have hin : vp_in (nI nm) 100 := vp_in_nI hn (by decide)
  have ekn : (nI nm).toNatClampNeg = nm := nI_clamp (by omega)
  intro J hJ
  have loop : ∀ (k fr j : Nat) (φ : Fr) (x5 x6 : Option Value), fr < 100 → CHd r k fr φ → lkF c (-1) φ j = lkF c (-1) φ0 0 → J 9 [some (.ref 27), some (.int (nI nm)), some (.int (nI j)), some (.int (nI fr)), some (.int (r.parent fr)), x5, x6] [] (cW s (rW r tl), b0, b1, op) := by
    intro k
    induction k with
    | zero =>
      intro fr j φ x5 x6 hfr hcd e
      obtain ⟨h1, rfl⟩ := hcd
      rw [h1]
      refine hJ _ _ _ _ ?_
      refine And.intro (fun _ => ?_) (fun (g : ¬ (-1 : Int32) < 0) => absurd (by decide) g)
      rw [← e] at hQ
      exact hQ
    | succ k ih =>
      intro fr j φ x5 x6 hfr hcd e
      obtain ⟨v, φ', hv1, h1, h2, h3⟩ := hcd
      rw [h1]
      have hiv : vp_in (nI v) 100 := vp_in_nI hv1 (by decide)
      have ekv : (nI v).toNatClampNeg = v := nI_clamp (by omega)
      have up : ∀ (j2 : Nat) (z : Int32) (w5 w6 : Int32), z = nI j2 → lkF c (-1) φ' j2 = lkF c (-1) φ0 0 → J 9 [some (.ref 27), some (.int (nI nm)), some (.int z), some (.int (nI v)), some (.int (r.parent v)), some (.int w5), some (.int w6)] [] (cW s (rW r tl), b0, b1, op) := by
        rintro j2 z w5 w6 rfl e2
        exact ih v j2 φ' _ _ hv1 h2 e2
      have fra : ∀ ls, φ = ls :: φ' → (FRb r v ls ∨ FRk r v ls) → ∀ F : Nat, mj_sg (mj_Mt gT cst gnw (m + 1)) cst gnw (mj_hd (mj_off kO_R_resolved) kH_R_resolved) kC_R_resolved J Q (F + 100) false 35 [some (.ref 27), some (.int (nI nm)), some (.int (nI j)), some (.int (nI fr)), some (.int (nI v)), x5, x6] [] (cW s (rW r tl), b0, b1, op) := by
        intro ls eφ hF F
        rw [eφ] at e
        have e0 : lkF c (-1) (ls :: φ') j = match plc c ls 0 with | some i => nI (16 * j + i) | none => lkF c (-1) φ' (j + 1) := rfl
        rw [e0] at e
        refine And.intro (fun (g : (1 : Int32) = 0) => absurd g (by decide)) (fun _ => ?_)
        refine And.intro hin ?_
        rw [ekn, hv]
        refine R_placeIn hv1 hc hF ?_
        cases hp : plc c ls 0 with
        | none =>
          rw [hp] at e
          refine And.intro (fun _ => ?_) (fun (g : ¬ oV none < 0) => absurd (by decide) g)
          refine And.intro (fun (g : (1 : Int32) = 0) => absurd g (by decide)) (fun _ => ?_)
          refine And.intro hiv ?_
          rw [ekv]
          exact up (j + 1) _ _ _ (nI_succ j).symm e
        | some i =>
          rw [hp] at e
          have hi : i < 2 ^ 31 := by
            have := plc_lt ls 0 i hp
            rcases hF with ⟨-, -, w, -⟩ | ⟨-, i1, -, -, -, -, w⟩
            · omega
            · omega
          refine And.intro (fun (g : nI i < 0) => absurd g (nI_pos hi)) (fun _ => ?_)
          have key : ∀ x : Int32, x = lkF c (-1) φ0 0 → Q (.inl (some (.int x)), (cW s (rW r tl), b0, b1, op)) := by
            rintro x rfl
            exact hQ
          refine key _ ?_
          rw [← e]
          show nI 16 * nI j + nI i = nI (16 * j + i)
          have : nI 16 * nI j = nI (16 * j) := (Int32.ofNat_mul 16 j).symm
          rw [this, nI_add]
      have nof : φ = φ' → ∀ F : Nat, mj_sg (mj_Mt gT cst gnw (m + 1)) cst gnw (mj_hd (mj_off kO_R_resolved) kH_R_resolved) kC_R_resolved J Q (F + 60) false 37 [some (.ref 27), some (.int (nI nm)), some (.int (nI j)), some (.int (nI fr)), some (.int (nI v)), x5, x6] [] (cW s (rW r tl), b0, b1, op) := by
        intro eφ F
        rw [eφ] at e
        refine And.intro (fun _ => ?_) (fun g => absurd rfl g)
        refine And.intro (fun _ => ?_) (fun (g : ¬ Int32.ofInt (-1) < 0) => absurd (by decide) g)
        refine And.intro (fun _ => ?_) (fun g => absurd rfl g)
        refine And.intro hiv ?_
        rw [ekv]
        exact up j _ _ _ rfl e
      refine hJ _ _ _ _ ?_
      refine And.intro (fun (g : nI v < 0) => absurd g (nI_pos (by omega))) (fun _ => ?_)
      refine And.intro hiv ?_
      rw [ekv]
      rcases h3 with ⟨ls, eφ, hF⟩ | ⟨eφ, n5, n7, n6⟩
      · have hF2 : FRb r v ls ∨ FRk r v ls := hF.elim Or.inl (fun w => Or.inr w.1)
        refine And.intro (fun _ => fra ls eφ hF2 _) (fun (g5 : ¬ r.kind v = 5) => ?_)
        refine And.intro hiv ?_
        rw [ekv]
        refine And.intro (fun _ => fra ls eφ hF2 _) (fun (g7 : ¬ r.kind v = 7) => ?_)
        have hK : r.kind v = 6 ∧ r.first v = nI fr := by
          rcases hF with w | ⟨⟨w1, -⟩, w2⟩
          · exact absurd w.1 g5
          · exact ⟨w1.resolve_right g7, w2.resolve_left g7⟩
        refine And.intro hiv ?_
        rw [ekv]
        refine And.intro (fun (g6 : ¬ r.kind v = 6) => absurd hK.1 g6) (fun _ => ?_)
        refine And.intro hiv ?_
        rw [ekv, hK.2]
        exact And.intro (fun (g : ¬ nI fr = nI fr) => absurd rfl g) (fun _ => fra ls eφ hF2 _)
      · refine And.intro (fun (g : r.kind v = 5) => absurd g n5) (fun _ => ?_)
        refine And.intro hiv ?_
        rw [ekv]
        refine And.intro (fun (g : r.kind v = 7) => absurd g n7) (fun _ => ?_)
        refine And.intro hiv ?_
        rw [ekv]
        refine And.intro (fun _ => nof eφ _) (fun (g : r.kind v = 6) => ?_)
        refine And.intro hiv ?_
        rw [ekv]
        refine And.intro (fun _ => nof eφ _) (fun (g2 : nI fr = r.first v) => ?_)
        exact n6.elim (fun w => absurd g w) (fun w => absurd g2.symm w)
  refine hJ _ _ _ _ ?_
  refine And.intro hin ?_
  rw [ekn]
  exact loop k0 nm 0 φ0 none none hn hch rfl
end YA
theorem lkF_ud {r : rM} {c : Nat} {u : Int32} : ∀ (k n : Nat) (φ : Fr) (j : Nat), CHd r k n φ → j + k ≤ 600 → (lkF c (-1) φ j = -1 ∧ lkF c u φ j = u) ∨ ∃ X, X < 10000 ∧ lkF c (-1) φ j = nI X ∧ lkF c u φ j = nI X
  | 0, n, φ, j, h, _ => by
    obtain ⟨-, rfl⟩ := h
    exact Or.inl ⟨rfl, rfl⟩
  | k + 1, n, φ, j, h, hb => by
    obtain ⟨v, φ', hv, h1, h2, h3⟩ := h
    rcases h3 with ⟨ls, rfl, hF⟩ | ⟨rfl, -⟩
    · have hl : ls.length ≤ 3 := by
        rcases hF with ⟨-, -, w, -⟩ | ⟨⟨-, i1, -, -, -, -, w⟩, -⟩
        · exact w
        · exact w
      have e0 : ∀ u, lkF c u (ls :: φ') j = match plc c ls 0 with | some i => nI (16 * j + i) | none => lkF c u φ' (j + 1) := fun _ => rfl
      rw [e0, e0]
      cases hp : plc c ls 0 with
      | none => exact lkF_ud k v φ' (j + 1) h2 (by omega)
      | some i =>
        have := plc_lt ls 0 i hp
        exact Or.inr ⟨16 * j + i, by omega, rfl, rfl⟩
    · exact lkF_ud k v φ j h2 (by omega)
theorem nr_lk {r : rM} {c a k n : Nat} {φ : Fr} (h : CHd r k n φ) (hk : k ≤ 600) (ha : a ≤ 96) : nr (lkF c (uP a) φ 0) = lkF c (-1) φ 0 := by
  rcases lkF_ud (c := c) (u := uP a) k n φ 0 h (by omega) with ⟨e1, e2⟩ | ⟨X, hX, e1, e2⟩
  · rw [e1, e2]
    exact if_pos (uP_neg ha)
  · rw [e1, e2]
    exact if_neg (nI_pos (by omega))
