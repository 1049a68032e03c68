section
theorem neg_pile : ∀ k, k < 250 → (Int32.ofInt (-1) - nI k : Int32) < 0 := by decide +kernel
theorem neg_neg1 (x : Int32) : Int32.ofInt (-1) - (Int32.ofInt (-1) - x) = x := by
  rw [Int32.sub_eq_iff_eq_add, Int32.add_comm, Int32.sub_add_cancel]
def pOK (n : Nat) (pl : Nat → Int32) : Prop := ∀ i, i < n → (∃ k, k < 250 ∧ pl i = nI k) ∨ (∃ k, k < 250 ∧ pl i = Int32.ofInt (-1) - nI k)
theorem pOK_le {n j : Nat} {pl : Nat → Int32} (h : pOK n pl) (hj : j ≤ n) : pOK j pl := fun i hi => h i (by omega)
theorem pOK_upd {n j : Nat} {pl : Nat → Int32} {x : Int32} (h : pOK n pl) (hj : j ≤ n) (hx : (∃ k, k < 250 ∧ x = nI k) ∨ (∃ k, k < 250 ∧ x = Int32.ofInt (-1) - nI k)) : pOK (max n (j + 1)) (upd pl j x) := by
  intro i hi
  unfold upd
  split
  · exact hx
  · exact h i (by omega)
section RHA
variable {cst : Nat → Option (Nat × (Nat → Int32))} {m b0 b1 : Nat} {op : Bool} {tl : List mj_O} {Q : mj_R → Prop} {s : cS} {r : rM}
set_option maxRecDepth 10000
set_option maxHeartbeats 4000000 in
theorem R_showLoop {J : Nat → mj_L → List Value → mj_H → Prop} (hJ : ∀ pc ls st h, mj_sg (mj_Mt gT cst gnw (m + 3)) cst gnw (mj_hd (mj_off kO_R_showAll) kH_R_showAll) kC_R_showAll J Q 400 true pc ls st h → J pc ls st h) (hr : ∀ a, a < 250 → (r.headKind a = 3 → ∃ j, j < 250 ∧ r.head a = nI j) ∧ (r.tailKind a = 3 → ∃ j, j < 250 ∧ r.tail a = nI j))
    (hQ : ∀ (p : sP) (n : Nat) (pl : Nat → Int32), p.1 ≤ 120 → Q (.inl none, (cW s (rW (phR r p n pl) tl), b0, b1, op))) :
    ∀ (d : Nat) (p : sP) (n : Nat) (pl : Nat → Int32) (x1 x2 : Option Value), 120 - p.1 ≤ d → p.1 ≤ 120 → n ≤ p.1 → pOK n pl → J 15 [some (.ref 27), x1, x2] [] (cW s (rW (phR r p n pl) tl), b0, b1, op) := by
  intro d
  induction d with
  | zero =>
    intro p n pl x1 x2 hd hp hn hl
    refine hJ _ _ _ _ ?_
    refine And.intro (fun _ => hQ p n pl hp) (fun _ => ?_)
    refine And.intro (fun _ => hQ p n pl hp) (fun (g : ¬ (120 : Int32) ≤ nI p.1) => absurd (nI_le (a := 120) (by omega) (by omega)) g)
  | succ d ih =>
    intro p n pl x1 x2 hd hp hn hl
    refine hJ _ _ _ _ ?_
    refine And.intro (fun _ => hQ p n pl hp) (fun (g : ¬ nI n ≤ 0) => ?_)
    cases n with
    | zero => exact absurd (by decide) g
    | succ n =>
    refine And.intro (fun _ => hQ p (n + 1) pl hp) (fun (g1 : ¬ (120 : Int32) ≤ nI p.1) => ?_)
    have hlt : p.1 < 120 := Nat.lt_of_not_le (fun w => g1 (nI_le (a := 120) w (by omega)))
    have e1 : nI (n + 1) - Int32.ofInt 1 = nI n := nI_pred n
    have en : (nI n).toNatClampNeg = n := nI_clamp (by omega)
    have hin : vp_in (nI (n + 1) - Int32.ofInt 1) 260 := by rw [e1]; exact vp_in_nI (by omega) (by decide)
    have hin2 : vp_in (nI n) 260 := vp_in_nI (by omega) (by decide)
    refine And.intro hin ?_
    rcases hl n (by omega) with ⟨k, hk, ek⟩ | ⟨k, hk, ek⟩
    · -- its head
      have kk : (nI k).toNatClampNeg = k := nI_clamp (by omega)
      have hik : vp_in (nI k) 250 := vp_in_nI hk (by decide)
      have key : ∀ (x : Int32), x = nI k → ∀ F : Nat, mj_sg (mj_Mt gT cst gnw (m + 3)) cst gnw (mj_hd (mj_off kO_R_showAll) kH_R_showAll) kC_R_showAll J Q (F + 60) false 29 [some (.ref 27), x1, x2] [.int x] (cW s (rW (phR r p (n + 1) pl) tl), b0, b1, op) := by
        rintro x rfl F
        refine And.intro (fun (g : nI k < 0) => absurd g (nI_pos (by omega))) (fun _ => ?_)
        refine And.intro hin ?_
        refine And.intro hik ?_
        rw [kk]
        refine And.intro hik ?_
        rw [kk]
        have key2 : ∀ (i : Nat) (F : Nat), i = n → mj_sg (mj_Mt gT cst gnw (m + 3)) cst gnw (mj_hd (mj_off kO_R_showAll) kH_R_showAll) kC_R_showAll J Q (F + 5) false 51 [some (.ref 27), some (.int (nI k)), x2] [.int (r.head k), .int (r.headKind k), .ref 27] (cW s (rW (phR r p (n + 1) (upd pl i (Int32.ofInt (-1) - nI k))) tl), b0, b1, op) := by
          rintro i F rfl
          have hl2 : pOK (i + 1) (upd pl i (Int32.ofInt (-1) - nI k)) := by
            have := pOK_upd (j := i) hl (by omega) (x := Int32.ofInt (-1) - nI k) (Or.inr ⟨k, hk, rfl⟩)
            exact pOK_le this (by omega)
          refine R_sayHead hp (by omega) (hr k hk).1 (fun j hj q1 q2 q3 => ?_) (fun _ => ?_)
          · obtain ⟨w1, w2, w3⟩ := sy_le (c := 40) hp
            have w4 := w3 hlt
            refine ih _ _ _ _ _ (by omega) w1 (by omega) ?_
            have := pOK_upd (j := i + 1) hl2 (by omega) (x := r.head k) (Or.inl ⟨j, hj, q2⟩)
            exact pOK_le this (by omega)
          · obtain ⟨w1, w2, w3⟩ := atS_le (kd := r.headKind k) (x := r.head k) hp
            have w4 := w3 hlt
            exact ih (atS (r.headKind k) (r.head k) p) (i + 1) (upd pl i (Int32.ofInt (-1) - nI k)) _ _ (by omega) w1 (by omega) hl2
        exact key2 _ _ (by show (nI (n + 1) - Int32.ofInt 1).toNatClampNeg = n; rw [e1]; exact en)
      exact key _ (by show pl (nI (n + 1) - Int32.ofInt 1).toNatClampNeg = nI k; rw [e1, en]; exact ek) _
    · -- its tail
      have kk : (nI k).toNatClampNeg = k := nI_clamp (by omega)
      have hik : vp_in (nI k) 250 := vp_in_nI hk (by decide)
      have key : ∀ (x : Int32), x = Int32.ofInt (-1) - nI k → ∀ F : Nat, mj_sg (mj_Mt gT cst gnw (m + 3)) cst gnw (mj_hd (mj_off kO_R_showAll) kH_R_showAll) kC_R_showAll J Q (F + 120) false 29 [some (.ref 27), x1, x2] [.int x] (cW s (rW (phR r p (n + 1) pl) tl), b0, b1, op) := by
        rintro x rfl F
        refine And.intro (fun _ => ?_) (fun (g : ¬ Int32.ofInt (-1) - nI k < 0) => absurd (neg_pile k hk) g)
        have hl0 : pOK n pl := pOK_le hl (by omega)
        have key2 : ∀ (y z x : Int32), y = nI k → z = nI n → x = r.tailKind k → ∀ F : Nat, mj_sg (mj_Mt gT cst gnw (m + 3)) cst gnw (mj_hd (mj_off kO_R_showAll) kH_R_showAll) kC_R_showAll J Q (F + 100) false 67 [some (.ref 27), some (.int (Int32.ofInt (-1) - nI k)), some (.int y)] [.int x] (cW s (rW ((phR r p n pl).s_piled z) tl), b0, b1, op) := by
          rintro y z x rfl rfl rfl F
          have other : (¬ r.tailKind k = 3 ∨ ∃ j, j < 250 ∧ r.tail k = nI j ∧ ¬ r.function j = 0) → ∀ F : Nat, mj_sg (mj_Mt gT cst gnw (m + 3)) cst gnw (mj_hd (mj_off kO_R_showAll) kH_R_showAll) kC_R_showAll J Q (F + 60) false 96 [some (.ref 27), some (.int (Int32.ofInt (-1) - nI k)), some (.int (nI k))] [] (cW s (rW (phR r p n pl) tl), b0, b1, op) := by
            intro ho F
            refine And.intro hik ?_
            rw [kk]
            refine And.intro (fun _ => ?_) (fun _ => ?_)
            · refine R_say hp ?_
              obtain ⟨w1, w2, w3⟩ := sy_le (c := Int32.ofInt 41) hp
              have w4 := w3 hlt
              exact ih _ _ _ _ _ (by omega) w1 (by omega) hl0
            · refine R_say hp ?_
              obtain ⟨w1, w2, w3⟩ := sy_le (c := Int32.ofInt 32) hp
              have w4 := w3 hlt
              refine R_say w1 ?_
              obtain ⟨v1, v2, v3⟩ := sy_le (c := Int32.ofInt 46) w1
              refine R_say v1 ?_
              obtain ⟨u1, u2, u3⟩ := sy_le (c := Int32.ofInt 32) v1
              refine And.intro hik ?_
              rw [kk]
              refine And.intro hik ?_
              rw [kk]
              refine R_sayHead u1 (by omega) (hr k hk).2 (fun j hj q1 q2 q3 => ?_) (fun _ => ?_)
              · exfalso
                rcases ho with ho | ⟨j2, hj2, o1, o2⟩
                · exact ho q1
                · have : j = j2 := nIj (by omega) (by omega) (q2.symm.trans o1)
                  subst this
                  exact o2 q3
              · obtain ⟨t1, t2, t3⟩ := atS_le (kd := r.tailKind k) (x := r.tail k) u1
                refine R_say t1 ?_
                obtain ⟨s1, s2, s3⟩ := sy_le (c := Int32.ofInt 41) t1
                exact ih (sy (Int32.ofInt 41) (atS (r.tailKind k) (r.tail k) (sy (Int32.ofInt 32) (sy (Int32.ofInt 46) (sy (Int32.ofInt 32) p))))) n pl _ _ (by omega) s1 (by omega) hl0
          refine And.intro (fun (q : ¬ r.tailKind k = 3) => other (Or.inl q) _) (fun (q : r.tailKind k = 3) => ?_)
          obtain ⟨j, hj, ej⟩ := (hr k hk).2 q
          have jj : (r.tail k).toNatClampNeg = j := by rw [ej]; exact nI_clamp (by omega)
          have hij : vp_in (r.tail k) 250 := by rw [ej]; exact vp_in_nI hj (by decide)
          refine And.intro hik ?_
          rw [kk]
          refine And.intro hij ?_
          refine And.intro (fun (q2 : ¬ r.function (r.tail k).toNatClampNeg = 0) => other (Or.inr ⟨j, hj, ej, by rw [jj] at q2; exact q2⟩) _) (fun _ => ?_)
          refine R_say hp ?_
          obtain ⟨w1, w2, w3⟩ := sy_le (c := Int32.ofInt 32) hp
          have w4 := w3 hlt
          refine And.intro hik ?_
          rw [kk]
          refine And.intro hin2 ?_
          have key3 : ∀ (i : Nat) (y : Int32), i = n → y = nI (n + 1) → J 15 [some (.ref 27), some (.int (Int32.ofInt (-1) - nI k)), some (.int (nI k))] [] (cW s (rW ((phR r (sy (Int32.ofInt 32) p) n (upd pl i (r.tail k))).s_piled y) tl), b0, b1, op) := by
            rintro i y rfl rfl
            refine ih (sy (Int32.ofInt 32) p) (i + 1) (upd pl i (r.tail k)) _ _ (by omega) w1 (by omega) ?_
            have := pOK_upd (j := i) hl (by omega) (x := r.tail k) (Or.inl ⟨j, hj, ej⟩)
            exact pOK_le this (by omega)
          exact key3 _ _ en (nI_succ n).symm
        refine And.intro (show vp_in (Int32.ofInt (-1) - (Int32.ofInt (-1) - nI k)) 250 by rw [neg_neg1]; exact hik) ?_
        exact key2 _ _ _ (neg_neg1 _) e1 (by rw [neg_neg1, kk]; rfl) _
      exact key _ (by show pl (nI (n + 1) - Int32.ofInt 1).toNatClampNeg = Int32.ofInt (-1) - nI k; rw [e1, en]; exact ek) _
theorem R_showAll {a : Nat} (ha : a < 250) (h0 : r.reg 0 = nI a) (hr : ∀ a, a < 250 → (r.headKind a = 3 → ∃ j, j < 250 ∧ r.head a = nI j) ∧ (r.tailKind a = 3 → ∃ j, j < 250 ∧ r.tail a = nI j))
    (hQ : ∀ (p : sP) (n : Nat) (pl : Nat → Int32), p.1 ≤ 120 → Q (.inl none, (cW s (rW (phR (gR r (r.headKind a) (r.head a)) p n pl) tl), b0, b1, op))) : mj_Mt gT cst gnw (m + 4) y_R_showAll [.ref 27] (cW s (rW r tl), b0, b1, op) Q := by
  intro J hJ
  have loop := R_showLoop (r := gR r (r.headKind a) (r.head a)) hJ hr hQ
  refine hJ _ _ _ _ ?_
  refine r_peek0 (r := phR r (0, r.show_) 0 r.pile) ha h0 ?_
  change mj_sg _ _ _ _ _ _ _ _ _ _ _ _ (cW s (rW (phR (gR r (r.headKind a) (r.head a)) (0, r.show_) 0 r.pile) tl), b0, b1, op)
  refine R_sayHead (p := (0, r.show_)) (Nat.zero_le 120) (by decide) (hr a ha).1 (fun k hk q1 q2 q3 => ?_) (fun _ => ?_)
  · obtain ⟨w1, w2, w3⟩ := sy_le (c := 40) (p := (0, r.show_)) (Nat.zero_le 120)
    have w4 := w3 (Nat.lt_of_lt_of_le Nat.zero_lt_one (by decide : 1 ≤ 120))
    refine loop 120 _ _ _ _ _ (by omega) w1 (by have : (0, r.show_).1 = 0 := rfl; omega) ?_
    have := pOK_upd (n := 0) (j := 0) (pl := r.pile) (fun i hi => absurd hi (Nat.not_lt_zero i)) (by omega) (x := r.head a) (Or.inl ⟨k, hk, q2⟩)
    exact pOK_le this (by omega)
  · obtain ⟨w1, w2, w3⟩ := atS_le (kd := r.headKind a) (x := r.head a) (p := (0, r.show_)) (Nat.zero_le 120)
    exact loop 120 _ _ _ _ _ (by omega) w1 (Nat.zero_le _) (fun i hi => absurd hi (Nat.not_lt_zero i))
end RHA
end
section
def shOK (r : rM) : Prop := ∃ n, n ≤ 120 ∧ r.shown = nI n
def rnS (r : rM) : Prop := r.state = 1 ∨ r.state = 2 ∨ r.state = 3 ∨ r.state = 4
theorem kp_sh {r r' : rM} (h : kp r r') (hs : shOK r) : shOK r' := by
  obtain ⟨n, hn, e⟩ := hs
  exact ⟨n, hn, h.2.2.2.2.1.trans e⟩
theorem inU_beh {H T : Nat → Vl} {ro : Nat → Bool} {U : Nat → Prop} (hS : SI H T ro U) : ∀ (k : Nat) (v : Vl), inU U v → inU U (behV T k v)
  | 0, v, h => h
  | k + 1, v, h => by
    rcases v with u | x | x | i | i
    · exact h
    · exact h
    · exact h
    · exact inU_beh hS k (T i) (SI_t hS (inU_pr h))
    · exact h
theorem kV_pr {v : Vl} (h : kV v = 3) : ∃ a, v = vPr a := by
  rcases v with u | x | x | i | i
  · cases h
  · cases h
  · cases h
  · exact ⟨i, rfl⟩
  · cases h
section RST
variable {cst : Nat → Option (Nat × (Nat → Int32))} {m b0 b1 : Nat} {op : Bool} {tl : List mj_O} {Q : mj_R → Prop} {s : cS} {r : rM} {H T : Nat → Vl} {ro : Nat → Bool} {S E D R : Vl} {k : Sk} {n : Nat} {b : Bool} {e : En} {J : Nat → mj_L → List Value → mj_H → Prop} {c : Nat}
set_option maxRecDepth 10000
theorem rg_U {v : Vl} {x : Int32} (h : rg r v x) : inU (Ur r) v := by
  intro a ea
  rcases h with ⟨rfl, -⟩ | ⟨i, rfl, -, h3, -⟩
  · cases ea
  · cases ea
    exact h3
theorem rg_pr {a : Nat} {x : Int32} (h : rg r (vPr a) x) : x = nI a ∧ Ur r a := by
  rcases h with ⟨h1, -⟩ | ⟨i, h1, h2, h3, -⟩
  · cases h1
  · cases h1
    exact ⟨h2, h3⟩
theorem A_pushC {r3 : rM} {v X : Vl} {kk : Nat} {y : Int32} (hX : RX r H T S E (vPr c) D R) {S' : Vl} (hm : mkd r r3 H T kk v S') (g : r3.reg = upd r.reg 0 (nI kk)) (hy : rg r3 X y) : RX (sR r3 (upd r3.reg 2 y)) (upW H kk v) (upW T kk S') (vPr kk) E X D R ∧ Ur (sR r3 (upd r3.reg 2 y)) = addU (Ur r) kk := by
  obtain ⟨⟨m1, -⟩, ⟨m2, m3, m4⟩, m5, m6, m7, m8⟩ := hm
  obtain ⟨hB, x0, x1, x2, x3, x4⟩ := hX
  refine ⟨⟨sm_RB sm_sR m5, ?_, ?_, sm_rg sm_sR hy, ?_, ?_⟩, (sm_Ur sm_sR).trans m6⟩
  · show rg _ _ (r3.reg 0)
    rw [g]
    exact sm_rg sm_sR m8
  · show rg _ _ (r3.reg 1)
    rw [g]
    exact sm_rg sm_sR (rg_up m4 x1)
  · show rg _ _ (r3.reg 3)
    rw [g]
    exact sm_rg sm_sR (rg_up m4 x3)
  · show rg _ _ (r3.reg 4)
    rw [g]
    exact sm_rg sm_sR (rg_up m4 x4)
theorem A_rest {r3 : rM} {h t : Vl} {kk d : Nat} (hm : mkd r r3 H T kk h t) (ud : Ur r d) (l : isL_ (T d)) : rg r3 (T d) (rsN r3 d) := by
  obtain ⟨⟨m1, -⟩, ⟨m2, m3, m4⟩, m5, m6, m7, m8⟩ := hm
  have hne : ¬ d = kk := fun e => m1 (e ▸ ud)
  have e1 : upW T kk t d = T d := if_neg hne
  have := rs_rg m5 (m4.2 d ud).1 (by rw [e1]; exact l)
  rwa [e1] at this
end RST
end
section
def rqN (i : Int32) : Nat := if i = 4 then 4 else if i = 7 then 3 else if i = 3 ∨ i = 13 then 2 else if i = 9 ∨ i = 19 then 0 else 1
theorem rnd_rq (i : Int32) : rnd i = nI (rqN i) ∧ rqN i ≤ 4 := by
  unfold rnd rqN
  by_cases h1 : i = 4
  · rw [if_pos h1, if_pos h1]
    exact ⟨rfl, by decide⟩
  · rw [if_neg h1, if_neg h1]
    by_cases h2 : i = 7
    · rw [if_pos h2, if_pos h2]
      exact ⟨rfl, by decide⟩
    · rw [if_neg h2, if_neg h2]
      by_cases h3 : i = 3 ∨ i = 13
      · rw [if_pos h3, if_pos h3]
        exact ⟨rfl, by decide⟩
      · rw [if_neg h3, if_neg h3]
        by_cases h4 : i = 9 ∨ i = 19
        · rw [if_pos h4, if_pos h4]
          exact ⟨rfl, by decide⟩
        · rw [if_neg h4, if_neg h4]
          exact ⟨rfl, by decide⟩
def clR (r : rM) (x : Int32) : rM := (r.s_collections x)
def tbR (r : rM) (x : Int32) : rM := (r.s_takenBack x)
section RSP
variable {cst : Nat → Option (Nat × (Nat → Int32))} {m b0 b1 : Nat} {op : Bool} {tl : List mj_O} {Q : mj_R → Prop} {s : cS} {r : rM} {H T : Nat → Vl} {ro : Nat → Bool} {S E C D R : Vl} {k : Sk} {n : Nat} {b : Bool} {e : En} {J : Nat → mj_L → List Value → mj_H → Prop}
set_option maxRecDepth 10000
end RSP
end
section
def ke (r r' : rM) : Prop := r'.z = r.z ∧ r'.typed = r.typed ∧ r'.text = r.text ∧ r'.error = r.error ∧ r'.program = r.program
theorem ke_tr {r r' r2 : rM} (h1 : ke r r') (h2 : ke r' r2) : ke r r2 := by
  obtain ⟨a1, a2, a3, a4, a5⟩ := h1
  obtain ⟨b1, b2, b3, b4, b5⟩ := h2
  exact ⟨b1.trans a1, b2.trans a2, b3.trans a3, b4.trans a4, b5.trans a5⟩
theorem kc_ke {r r' : rM} (h : kc r r') : ke r r' := by
  obtain ⟨a1, a2, a3, a4, a5⟩ := h
  exact ⟨a1, a2, a3, a4, congrArg Prod.fst a5⟩
def RTx (r : rM) (R : Vl) : Prop := rnS r ∧ ∃ (H T : Nat → Vl) (ro : Nat → Bool) (S E C D : Vl) (k : Sk) (n : Nat) (b : Bool) (e : En), RX r H T S E C D R ∧ TI H T ro (Ur r) S E C D R k n b e
def RCx (r : rM) (R : Vl) : Prop := r.state = 0 ∧ ∃ (H T : Nat → Vl) (ro : Nat → Bool), RX r H T vNil vNil vNil vNil R ∧ TS H T ro (Ur r) R
def RMI (r : rM) : Prop := (mkOK r ∧ shOK r) ∧ ((r.program = 0 ∧ r.state = 0 ∧ ∃ H T : Nat → Vl, RX r H T vNil vNil vNil vNil vNil) ∨ (¬ r.program = 0 ∧ ∃ R, RCx r R ∨ RTx r R))
def thR (r : rM) (x : Int32) : rM := (r.s_thrown x)
def spR (r : rM) (x : Int32) : rM := (r.s_steps x)
section RCL
variable {cst : Nat → Option (Nat × (Nat → Int32))} {m b0 b1 : Nat} {op : Bool} {tl : List mj_O} {Q : mj_R → Prop} {s : cS} {r : rM}
set_option maxRecDepth 10000
theorem RMI_sp {x : Int32} (h : RMI r) : RMI (spR r x) := h
theorem RMI_RX (h : RMI r) : ∃ (H T : Nat → Vl) (S E C D R : Vl), RX r H T S E C D R := by
  rcases h.2 with ⟨-, -, H, T, hX⟩ | ⟨-, R, ⟨-, H, T, ro, hX, -⟩ | ⟨-, H, T, ro, S, E, C, D, k, n, b, e, hX, -⟩⟩
  · exact ⟨H, T, _, _, _, _, _, hX⟩
  · exact ⟨H, T, _, _, _, _, _, hX⟩
  · exact ⟨H, T, _, _, _, _, _, hX⟩
theorem R_state (hI : RMI r) (hQ : Q (.inl (some (.int r.state)), (cW s (rW (thR r 0) tl), b0, b1, op))) : mj_Mt gT cst gnw (m + 1) y_R_state [.ref 27] (cW s (rW r tl), b0, b1, op) Q := by
  intro J hJ
  refine hJ _ _ _ _ ?_
  exact hQ
theorem R_position (hQ : Q (.inl (some (.int r.error)), (cW s (rW (thR r 0) tl), b0, b1, op))) : mj_Mt gT cst gnw (m + 1) y_R_position [.ref 27] (cW s (rW r tl), b0, b1, op) Q := by
  intro J hJ
  refine hJ _ _ _ _ ?_
  exact hQ
theorem R_shown {x : Int32} (hI : RMI r) (hQ : ∀ y, Q (.inl (some (.int y)), (cW s (rW (thR r 0) tl), b0, b1, op))) : mj_Mt gT cst gnw (m + 1) y_R_shown [.ref 27, .int x] (cW s (rW r tl), b0, b1, op) Q := by
  obtain ⟨n, hn, en⟩ := hI.1.2
  intro J hJ
  refine hJ _ _ _ _ ?_
  refine And.intro (fun _ => hQ _) (fun _ => ?_)
  refine And.intro (fun _ => hQ _) (fun (g : ¬ x < 0) => ?_)
  refine And.intro (fun _ => hQ _) (fun (g2 : ¬ r.shown ≤ x) => ?_)
  obtain ⟨j, hj, rfl⟩ := nI_of g
  have hlt : j < n := by
    refine Nat.lt_of_not_le (fun w => g2 ?_)
    rw [en]
    exact nI_le w hj
  refine And.intro (vp_in_nI (show j < 120 by omega) (by decide)) ?_
  exact hQ _
theorem R_lengthOf {n : Nat} {x : Int32} (hc : chN r n x) (hQ : ∀ y, Q (.inl (some (.int y)), (cW s (rW r tl), b0, b1, op))) : mj_Mt gT cst gnw (m + 2) y_R_lengthOf [.ref 27, .int x] (cW s (rW r tl), b0, b1, op) Q := by
  intro J hJ
  have loop : ∀ (j : Nat) (a y : Int32), chN r j y → J 4 [some (.ref 27), some (.int x), some (.int a), some (.int y)] [] (cW s (rW r tl), b0, b1, op) := by
    intro j
    induction j with
    | zero =>
      intro a y hy
      refine hJ _ _ _ _ ?_
      exact And.intro (fun _ => hQ _) (fun g => absurd hy g)
    | succ j ih =>
      intro a y hy
      obtain ⟨k, hk, rfl, h2⟩ := hy
      refine hJ _ _ _ _ ?_
      refine And.intro (fun (g : nI k < 0) => absurd g (nI_pos (by omega))) (fun _ => ?_)
      refine r_rest hk ?_
      exact ih _ _ h2
  refine hJ _ _ _ _ ?_
  exact loop n _ x hc
theorem chN_th {y : Int32} : ∀ (n : Nat) (x : Int32), chN r n x → chN (thR r y) n x
  | 0, x, h => h
  | n + 1, x, ⟨k, h1, h2, h3⟩ => ⟨k, h1, h2, chN_th n _ h3⟩
theorem chN_stk {H T : Nat → Vl} {ro : Nat → Bool} (hB : RB r H T) : ∀ (k : Sk) (v : Vl) (x : Int32), stk H T ro k v → rg r v x → chN r k.length x
  | [], v, x, h, hg => by
    have h : v = vNil := h
    subst h
    rcases hg with ⟨-, e⟩ | ⟨a, e, -⟩
    · rw [e]
      show (-1 : Int32) < 0
      decide
    · cases e
  | y :: k, v, x, h, hg => by
    obtain ⟨a, rfl, -, -, h⟩ := h
    obtain ⟨e, ua⟩ := rg_pr hg
    exact ⟨a, Ur_lt hB ua, e, chN_stk hB k _ _ h (rs_rg hB ua (isL_stk h))⟩
theorem chN_dmp {H T : Nat → Vl} {ro : Nat → Bool} {U : Nat → Prop} (hB : RB r H T) (hS : SI H T ro (Ur r)) : ∀ (f : Nat) (v : Vl) (e : En) (x : Int32), dmp H T ro f v e → rg r v x → ∃ n, chN r n x
  | 0, v, e, x, h, hg => by
    have h : v = vNil := h.2
    subst h
    rcases hg with ⟨-, e⟩ | ⟨a, e, -⟩
    · refine ⟨0, ?_⟩
      rw [e]
      show (-1 : Int32) < 0
      decide
    · cases e
  | f + 1, v, e, x, h, hg => by
    rcases h with ⟨e1, a, b, c, k, n, e', rfl, a1, a2, a3, a4, a5, a6, a7, a8, a9⟩ | ⟨k, n, a, e', e1, rfl, a1, a2, a3⟩
    · obtain ⟨ea, ua⟩ := rg_pr hg
      have ub := SI_tp hS ua a3
      have uc := SI_tp hS ub a6
      obtain ⟨j, hj⟩ := chN_dmp (U := U) hB hS f _ _ _ a9 (rs_rg hB uc (isL_dmx ⟨f, a9⟩))
      exact ⟨j + 3, a, Ur_lt hB ua, ea, b, Ur_lt hB ub, rs_pr hB ua a3, c, Ur_lt hB uc, rs_pr hB ub a6, hj⟩
    · obtain ⟨ea, ua⟩ := rg_pr hg
      obtain ⟨j, hj⟩ := chN_dmp (U := U) hB hS f _ _ _ a3 (rs_rg hB ua (isL_dmx ⟨f, a3⟩))
      exact ⟨j + 1, a, Ur_lt hB ua, ea, hj⟩
theorem chN_nil {x : Int32} (h : rg r vNil x) : ∃ n, chN r n x := by
  rcases h with ⟨-, e⟩ | ⟨a, e, -⟩
  · refine ⟨0, ?_⟩
    rw [e]
    show (-1 : Int32) < 0
    decide
  · cases e
theorem RMI_len (h : RMI r) : (∃ n, chN r n (r.reg 0)) ∧ ∃ n, chN r n (r.reg 3) := by
  rcases h.2 with ⟨-, -, H, T, hX⟩ | ⟨-, R, ⟨-, H, T, ro, hX, -⟩ | ⟨-, H, T, ro, S, E, C, D, k, n, b, e, hX, hT⟩⟩
  · exact ⟨chN_nil hX.2.1, chN_nil hX.2.2.2.2.1⟩
  · exact ⟨chN_nil hX.2.1, chN_nil hX.2.2.2.2.1⟩
  · obtain ⟨hS, ⟨uS, tS_⟩, -, -, ⟨uD, f, tD⟩, -⟩ := hT
    exact ⟨⟨_, chN_stk hX.1 k S _ tS_ hX.2.1⟩, chN_dmp (U := Ur r) hX.1 hS.1 f D _ _ tD hX.2.2.2.2.1⟩
theorem RMI_mp {mk : Nat → Bool} {pl : Nat → Nat} {n : Nat} (h : RMI r) : RMI (mpR r mk pl n) := ⟨⟨⟨mk, rfl⟩, h.1.2⟩, h.2⟩
def s1R (r : rM) : rM := ((((r.s_state 1).s_collections 0).s_takenBack 0).s_steps 0)
theorem R_start (hI : RMI r) (h0 : r.program = 0 → Q (.inl (some (.int 0)), (cW s (rW (thR r 0) tl), b0, b1, op))) (h1 : ∀ r', ¬ r.program = 0 → ke r r' → RMI r' → r'.state = 1 → Q (.inl (some (.int 1)), (cW s (rW r' tl), b0, b1, op))) : mj_Mt gT cst gnw (m + 4) y_R_start [.ref 27] (cW s (rW r tl), b0, b1, op) Q := by
  intro J hJ
  refine hJ _ _ _ _ ?_
  refine And.intro (fun (g : ¬ r.program = 0) => ?_) (fun (g : r.program = 0) => And.intro (Or.inl rfl) (h0 g))
  have hr : ∃ (H T : Nat → Vl) (ro : Nat → Bool) (S E C D R : Vl), RX r H T S E C D R ∧ TS H T ro (Ur r) R := by
    rcases hI.2 with ⟨w, -⟩ | ⟨-, R, ⟨-, H, T, ro, hX, hT⟩ | ⟨-, H, T, ro, S, E, C, D, k, n, b, e, hX, hT⟩⟩
    · exact absurd w g
    · exact ⟨H, T, ro, _, _, _, _, R, hX, hT⟩
    · exact ⟨H, T, ro, _, _, _, _, R, hX, hT.1⟩
  obtain ⟨H, T, ro, S, E, C, D, R, ⟨hB, -, -, -, -, x4⟩, hT⟩ := hr
  have loop : ∀ (j k : Nat) (f : Nat → Int32), j + k = 4 → (∀ i, i < k → f i = -1) → f 4 = r.reg 4 → J 10 [some (.ref 27), some (.int (nI k))] [] (cW s (rW (sR (thR r 0) f) tl), b0, b1, op) := by
    intro j
    induction j with
    | zero =>
      intro k f hk hf h4
      obtain rfl : k = 4 := by omega
      refine hJ _ _ _ _ ?_
      refine And.intro (fun _ => ?_) (fun (w : ¬ (4 : Int32) ≤ nI 4) => absurd (by decide) w)
      have n : ∀ i, i < 4 → rg (sR (thR r 0) f) vNil ((sR (thR r 0) f).reg i) := fun i hi => Or.inl ⟨rfl, hf i hi⟩
      have hX1 : RX (sR (thR r 0) f) H T vNil vNil vNil vNil R := ⟨hB, n 0 (by decide), n 1 (by decide), n 2 (by decide), n 3 (by decide), by
        show rg _ R (f 4)
        rw [h4]
        exact x4⟩
      refine R_sweep hX1 hI.1.1 (fun nn r' hnn q1 q2 q3 q4 q5 q6 q7 q8 q9 q10 => ?_)
      have hke := kc_ke q1
      have i54 : vp_in 4 5 := vp_in_nI (show 4 < 5 by decide) (by decide)
      refine And.intro i54 ?_
      refine And.intro i52 ?_
      have hT' : TS H T ro (Ur r') R := ⟨SI_sub hT.1 q8 q9, q10.2.2.2.2, hT.2.2⟩
      obtain ⟨hB', y0, y1, y2, y3, y4⟩ := q7
      have e : r'.reg 0 = -1 ∧ r'.reg 1 = -1 ∧ r'.reg 3 = -1 := by
        rw [q4]
        exact ⟨hf 0 (by decide), hf 1 (by decide), hf 3 (by decide)⟩
      have h3 : RMI (s1R (sR r' (upd r'.reg 2 (r'.reg 4)))) := by
        refine ⟨⟨q2, ?_⟩, Or.inr ⟨?_, R, Or.inr ⟨Or.inl rfl, H, T, ro, vNil, vNil, R, vNil, [], 0, false, eStop, ⟨hB', y0, y1, y4, y3, y4⟩, TI_start hT'⟩⟩⟩
        · obtain ⟨n, hn, en⟩ := hI.1.2
          exact ⟨n, hn, q5.2.2.2.1.trans en⟩
        · show ¬ r'.program = 0
          rw [hke.2.2.2.2]
          exact g
      refine And.intro (fun (w : nI nn < 0) => absurd w (nI_pos (by omega))) (fun _ => ?_)
      exact And.intro (Or.inr rfl) (h1 (s1R (sR r' (upd r'.reg 2 (r'.reg 4)))) g hke h3 rfl)
    | succ j ih =>
      intro k f hk hf h4
      refine hJ _ _ _ _ ?_
      refine And.intro (fun (w : (4 : Int32) ≤ nI k) => absurd w (nI_ge (b := 4) (by omega) (by decide))) (fun _ => ?_)
      refine And.intro (vp_in_nI (show k < 5 by omega) (by decide)) ?_
      have key : ∀ (i : Nat) (y : Int32), i = k → y = nI (k + 1) → J 10 [some (.ref 27), some (.int y)] [] (cW s (rW (sR (thR r 0) (upd f i (-1))) tl), b0, b1, op) := by
        rintro i y rfl rfl
        refine ih (i + 1) _ (by omega) (fun a ha => ?_) ?_
        · unfold upd
          split
          · rfl
          · exact hf a (by omega)
        · unfold upd
          rw [if_neg (by omega)]
          exact h4
      exact key _ _ (nI_clamp (by omega)) (nI_succ k).symm
  exact loop 4 0 r.reg (by omega) (fun i hi => absurd hi (Nat.not_lt_zero i)) rfl
end RCL
end
