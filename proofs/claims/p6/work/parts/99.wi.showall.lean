theorem neg_pile : ∀ k, k < 250 → (Int32.ofInt (-1) - nI k : Int32) < 0 := by decide +kernel
theorem neg_neg1 (x : Int32) : Int32.ofInt (-1) - (Int32.ofInt (-1) - x) = x := by
  rw [Int32.sub_eq_iff_eq_add, Int32.add_comm, Int32.sub_add_cancel]
def pOK (n : Nat) (pl : Nat → Int32) : Prop := ∀ i, i < n → (∃ k, k < 250 ∧ pl i = nI k) ∨ (∃ k, k < 250 ∧ pl i = Int32.ofInt (-1) - nI k)
theorem pOK_le {n j : Nat} {pl : Nat → Int32} (h : pOK n pl) (hj : j ≤ n) : pOK j pl := fun i hi => h i (by omega)
theorem pOK_upd {n j : Nat} {pl : Nat → Int32} {x : Int32} (h : pOK n pl) (hj : j ≤ n) (hx : (∃ k, k < 250 ∧ x = nI k) ∨ (∃ k, k < 250 ∧ x = Int32.ofInt (-1) - nI k)) : pOK (max n (j + 1)) (upd pl j x) := by
  intro i hi
  unfold upd
  split
  · exact hx
  · exact h i (by omega)
section RHA
variable {cst : Nat → Option (Nat × (Nat → Int32))} {m b0 b1 : Nat} {op : Bool} {tl : List mj_O} {Q : mj_R → Prop} {s : cS} {r : rM}
set_option maxRecDepth 10000
set_option maxHeartbeats 4000000 in
theorem R_showLoop {J : Nat → mj_L → List Value → mj_H → Prop} (hJ : ∀ pc ls st h, mj_sg (mj_Mt gT cst gnw (m + 3)) cst gnw (mj_hd (mj_off kO_R_showAll) kH_R_showAll) kC_R_showAll J Q 400 true pc ls st h → J pc ls st h) (hr : ∀ a, a < 250 → (r.headKind a = 3 → ∃ j, j < 250 ∧ r.head a = nI j) ∧ (r.tailKind a = 3 → ∃ j, j < 250 ∧ r.tail a = nI j))
    (hQ : ∀ (p : sP) (n : Nat) (pl : Nat → Int32), p.1 ≤ 120 → Q (.inl none, (cW s (rW (phR r p n pl) tl), b0, b1, op))) :
    ∀ (d : Nat) (p : sP) (n : Nat) (pl : Nat → Int32) (x1 x2 : Option Value), 120 - p.1 ≤ d → p.1 ≤ 120 → n ≤ p.1 → pOK n pl → J 15 [some (.ref 27), x1, x2] [] (cW s (rW (phR r p n pl) tl), b0, b1, op) := by
  intro d
  induction d with
  | zero =>
    intro p n pl x1 x2 hd hp hn hl
    refine hJ _ _ _ _ ?_
    refine And.intro (fun _ => hQ p n pl hp) (fun _ => ?_)
    refine And.intro (fun _ => hQ p n pl hp) (fun (g : ¬ (120 : Int32) ≤ nI p.1) => absurd (nI_le (a := 120) (by omega) (by omega)) g)
  | succ d ih =>
    intro p n pl x1 x2 hd hp hn hl
    refine hJ _ _ _ _ ?_
    refine And.intro (fun _ => hQ p n pl hp) (fun (g : ¬ nI n ≤ 0) => ?_)
    cases n with
    | zero => exact absurd (by decide) g
    | succ n =>
    refine And.intro (fun _ => hQ p (n + 1) pl hp) (fun (g1 : ¬ (120 : Int32) ≤ nI p.1) => ?_)
    have hlt : p.1 < 120 := Nat.lt_of_not_le (fun w => g1 (nI_le (a := 120) w (by omega)))
    have e1 : nI (n + 1) - Int32.ofInt 1 = nI n := nI_pred n
    have en : (nI n).toNatClampNeg = n := nI_clamp (by omega)
    have hin : vp_in (nI (n + 1) - Int32.ofInt 1) 260 := by rw [e1]; exact vp_in_nI (by omega) (by decide)
    have hin2 : vp_in (nI n) 260 := vp_in_nI (by omega) (by decide)
    refine And.intro hin ?_
    rcases hl n (by omega) with ⟨k, hk, ek⟩ | ⟨k, hk, ek⟩
    · -- its head
      have kk : (nI k).toNatClampNeg = k := nI_clamp (by omega)
      have hik : vp_in (nI k) 250 := vp_in_nI hk (by decide)
      have key : ∀ (x : Int32), x = nI k → ∀ F : Nat, mj_sg (mj_Mt gT cst gnw (m + 3)) cst gnw (mj_hd (mj_off kO_R_showAll) kH_R_showAll) kC_R_showAll J Q (F + 60) false 29 [some (.ref 27), x1, x2] [.int x] (cW s (rW (phR r p (n + 1) pl) tl), b0, b1, op) := by
        rintro x rfl F
        refine And.intro (fun (g : nI k < 0) => absurd g (nI_pos (by omega))) (fun _ => ?_)
        refine And.intro hin ?_
        refine And.intro hik ?_
        rw [kk]
        refine And.intro hik ?_
        rw [kk]
        have key2 : ∀ (i : Nat) (F : Nat), i = n → mj_sg (mj_Mt gT cst gnw (m + 3)) cst gnw (mj_hd (mj_off kO_R_showAll) kH_R_showAll) kC_R_showAll J Q (F + 5) false 51 [some (.ref 27), some (.int (nI k)), x2] [.int (r.head k), .int (r.headKind k), .ref 27] (cW s (rW (phR r p (n + 1) (upd pl i (Int32.ofInt (-1) - nI k))) tl), b0, b1, op) := by
          rintro i F rfl
          have hl2 : pOK (i + 1) (upd pl i (Int32.ofInt (-1) - nI k)) := by
            have := pOK_upd (j := i) hl (by omega) (x := Int32.ofInt (-1) - nI k) (Or.inr ⟨k, hk, rfl⟩)
            exact pOK_le this (by omega)
          refine R_sayHead hp (by omega) (hr k hk).1 (fun j hj q1 q2 q3 => ?_) (fun _ => ?_)
          · obtain ⟨w1, w2, w3⟩ := sy_le (c := 40) hp
            have w4 := w3 hlt
            refine ih _ _ _ _ _ (by omega) w1 (by omega) ?_
            have := pOK_upd (j := i + 1) hl2 (by omega) (x := r.head k) (Or.inl ⟨j, hj, q2⟩)
            exact pOK_le this (by omega)
          · obtain ⟨w1, w2, w3⟩ := atS_le (kd := r.headKind k) (x := r.head k) hp
            have w4 := w3 hlt
            exact ih (atS (r.headKind k) (r.head k) p) (i + 1) (upd pl i (Int32.ofInt (-1) - nI k)) _ _ (by omega) w1 (by omega) hl2
        exact key2 _ _ (by show (nI (n + 1) - Int32.ofInt 1).toNatClampNeg = n; rw [e1]; exact en)
      exact key _ (by show pl (nI (n + 1) - Int32.ofInt 1).toNatClampNeg = nI k; rw [e1, en]; exact ek) _
    · -- its tail
      have kk : (nI k).toNatClampNeg = k := nI_clamp (by omega)
      have hik : vp_in (nI k) 250 := vp_in_nI hk (by decide)
      have key : ∀ (x : Int32), x = Int32.ofInt (-1) - nI k → ∀ F : Nat, mj_sg (mj_Mt gT cst gnw (m + 3)) cst gnw (mj_hd (mj_off kO_R_showAll) kH_R_showAll) kC_R_showAll J Q (F + 120) false 29 [some (.ref 27), x1, x2] [.int x] (cW s (rW (phR r p (n + 1) pl) tl), b0, b1, op) := by
        rintro x rfl F
        refine And.intro (fun _ => ?_) (fun (g : ¬ Int32.ofInt (-1) - nI k < 0) => absurd (neg_pile k hk) g)
        have hl0 : pOK n pl := pOK_le hl (by omega)
        have key2 : ∀ (y z x : Int32), y = nI k → z = nI n → x = r.tailKind k → ∀ F : Nat, mj_sg (mj_Mt gT cst gnw (m + 3)) cst gnw (mj_hd (mj_off kO_R_showAll) kH_R_showAll) kC_R_showAll J Q (F + 100) false 67 [some (.ref 27), some (.int (Int32.ofInt (-1) - nI k)), some (.int y)] [.int x] (cW s (rW ((phR r p n pl).s_piled z) tl), b0, b1, op) := by
          rintro y z x rfl rfl rfl F
          have other : (¬ r.tailKind k = 3 ∨ ∃ j, j < 250 ∧ r.tail k = nI j ∧ ¬ r.function j = 0) → ∀ F : Nat, mj_sg (mj_Mt gT cst gnw (m + 3)) cst gnw (mj_hd (mj_off kO_R_showAll) kH_R_showAll) kC_R_showAll J Q (F + 60) false 96 [some (.ref 27), some (.int (Int32.ofInt (-1) - nI k)), some (.int (nI k))] [] (cW s (rW (phR r p n pl) tl), b0, b1, op) := by
            intro ho F
            refine And.intro hik ?_
            rw [kk]
            refine And.intro (fun _ => ?_) (fun _ => ?_)
            · refine R_say hp ?_
              obtain ⟨w1, w2, w3⟩ := sy_le (c := Int32.ofInt 41) hp
              have w4 := w3 hlt
              exact ih _ _ _ _ _ (by omega) w1 (by omega) hl0
            · refine R_say hp ?_
              obtain ⟨w1, w2, w3⟩ := sy_le (c := Int32.ofInt 32) hp
              have w4 := w3 hlt
              refine R_say w1 ?_
              obtain ⟨v1, v2, v3⟩ := sy_le (c := Int32.ofInt 46) w1
              refine R_say v1 ?_
              obtain ⟨u1, u2, u3⟩ := sy_le (c := Int32.ofInt 32) v1
              refine And.intro hik ?_
              rw [kk]
              refine And.intro hik ?_
              rw [kk]
              refine R_sayHead u1 (by omega) (hr k hk).2 (fun j hj q1 q2 q3 => ?_) (fun _ => ?_)
              · exfalso
                rcases ho with ho | ⟨j2, hj2, o1, o2⟩
                · exact ho q1
                · have : j = j2 := nIj (by omega) (by omega) (q2.symm.trans o1)
                  subst this
                  exact o2 q3
              · obtain ⟨t1, t2, t3⟩ := atS_le (kd := r.tailKind k) (x := r.tail k) u1
                refine R_say t1 ?_
                obtain ⟨s1, s2, s3⟩ := sy_le (c := Int32.ofInt 41) t1
                exact ih (sy (Int32.ofInt 41) (atS (r.tailKind k) (r.tail k) (sy (Int32.ofInt 32) (sy (Int32.ofInt 46) (sy (Int32.ofInt 32) p))))) n pl _ _ (by omega) s1 (by omega) hl0
          refine And.intro (fun (q : ¬ r.tailKind k = 3) => other (Or.inl q) _) (fun (q : r.tailKind k = 3) => ?_)
          obtain ⟨j, hj, ej⟩ := (hr k hk).2 q
          have jj : (r.tail k).toNatClampNeg = j := by rw [ej]; exact nI_clamp (by omega)
          have hij : vp_in (r.tail k) 250 := by rw [ej]; exact vp_in_nI hj (by decide)
          refine And.intro hik ?_
          rw [kk]
          refine And.intro hij ?_
          refine And.intro (fun (q2 : ¬ r.function (r.tail k).toNatClampNeg = 0) => other (Or.inr ⟨j, hj, ej, by rw [jj] at q2; exact q2⟩) _) (fun _ => ?_)
          refine R_say hp ?_
          obtain ⟨w1, w2, w3⟩ := sy_le (c := Int32.ofInt 32) hp
          have w4 := w3 hlt
          refine And.intro hik ?_
          rw [kk]
          refine And.intro hin2 ?_
          have key3 : ∀ (i : Nat) (y : Int32), i = n → y = nI (n + 1) → J 15 [some (.ref 27), some (.int (Int32.ofInt (-1) - nI k)), some (.int (nI k))] [] (cW s (rW ((phR r (sy (Int32.ofInt 32) p) n (upd pl i (r.tail k))).s_piled y) tl), b0, b1, op) := by
            rintro i y rfl rfl
            refine ih (sy (Int32.ofInt 32) p) (i + 1) (upd pl i (r.tail k)) _ _ (by omega) w1 (by omega) ?_
            have := pOK_upd (j := i) hl (by omega) (x := r.tail k) (Or.inl ⟨j, hj, ej⟩)
            exact pOK_le this (by omega)
          exact key3 _ _ en (nI_succ n).symm
        refine And.intro (show vp_in (Int32.ofInt (-1) - (Int32.ofInt (-1) - nI k)) 250 by rw [neg_neg1]; exact hik) ?_
        exact key2 _ _ _ (neg_neg1 _) e1 (by rw [neg_neg1, kk]; rfl) _
      exact key _ (by show pl (nI (n + 1) - Int32.ofInt 1).toNatClampNeg = Int32.ofInt (-1) - nI k; rw [e1, en]; exact ek) _
theorem R_showAll {a : Nat} (ha : a < 250) (h0 : r.reg 0 = nI a) (hr : ∀ a, a < 250 → (r.headKind a = 3 → ∃ j, j < 250 ∧ r.head a = nI j) ∧ (r.tailKind a = 3 → ∃ j, j < 250 ∧ r.tail a = nI j))
    (hQ : ∀ (p : sP) (n : Nat) (pl : Nat → Int32), p.1 ≤ 120 → Q (.inl none, (cW s (rW (phR (gR r (r.headKind a) (r.head a)) p n pl) tl), b0, b1, op))) : mj_Mt gT cst gnw (m + 4) y_R_showAll [.ref 27] (cW s (rW r tl), b0, b1, op) Q := by
  intro J hJ
  have loop := R_showLoop (r := gR r (r.headKind a) (r.head a)) hJ hr hQ
  refine hJ _ _ _ _ ?_
  refine r_peek0 (r := phR r (0, r.show_) 0 r.pile) ha h0 ?_
  change mj_sg _ _ _ _ _ _ _ _ _ _ _ _ (cW s (rW (phR (gR r (r.headKind a) (r.head a)) (0, r.show_) 0 r.pile) tl), b0, b1, op)
  refine R_sayHead (p := (0, r.show_)) (Nat.zero_le 120) (by decide) (hr a ha).1 (fun k hk q1 q2 q3 => ?_) (fun _ => ?_)
  · obtain ⟨w1, w2, w3⟩ := sy_le (c := 40) (p := (0, r.show_)) (Nat.zero_le 120)
    have w4 := w3 (Nat.lt_of_lt_of_le Nat.zero_lt_one (by decide : 1 ≤ 120))
    refine loop 120 _ _ _ _ _ (by omega) w1 (by have : (0, r.show_).1 = 0 := rfl; omega) ?_
    have := pOK_upd (n := 0) (j := 0) (pl := r.pile) (fun i hi => absurd hi (Nat.not_lt_zero i)) (by omega) (x := r.head a) (Or.inl ⟨k, hk, q2⟩)
    exact pOK_le this (by omega)
  · obtain ⟨w1, w2, w3⟩ := atS_le (kd := r.headKind a) (x := r.head a) (p := (0, r.show_)) (Nat.zero_le 120)
    exact loop 120 _ _ _ _ _ (by omega) w1 (Nat.zero_le _) (fun i hi => absurd hi (Nat.not_lt_zero i))
end RHA
