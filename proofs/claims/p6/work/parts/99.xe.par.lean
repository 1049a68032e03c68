theorem three_n (n : Nat) : Int32.ofInt 3 * nI n = nI (3 * n) := by
  show nI 3 * nI n = _
  exact (Int32.ofNat_mul 3 n).symm
theorem upd_2 (f : Nat → Int32) (n : Nat) (x y : Int32) : upd (upd f n x) n y = upd f n y := by
  funext i
  unfold upd
  split <;> rfl
def lvR (r : rM) (n : Nat) (v : Int32) (L : Nat → Int32) : rM := ((r.s_value (upd r.value n v)).s_letters L)
def LT (n : Nat) (L0 L : Nat → Int32) (ls : List Nat) : Prop := (∀ i c, ls[i]? = some c → L (3 * n + i) = nI c) ∧ (∀ i, i < 3 * n → L i = L0 i) ∧ (∀ c ∈ ls, c < 256)
theorem LT_app {n : Nat} {L0 L : Nat → Int32} {ls : List Nat} {c : Nat} (h : LT n L0 L ls) (hc : c < 256) : LT n L0 (upd L (3 * n + ls.length) (nI c)) (ls ++ [c]) := by
  refine ⟨fun i x hi => ?_, fun i hi => ?_, fun x hx => ?_⟩
  · unfold upd
    by_cases e : i = ls.length
    · subst e
      rw [if_pos rfl]
      rw [List.getElem?_append_right (Nat.le_refl _), Nat.sub_self] at hi
      cases hi
      rfl
    · have hlt : i < ls.length := by
        rcases Nat.lt_or_ge i ls.length with w | w
        · exact w
        · rw [List.getElem?_eq_none (by rw [List.length_append, List.length_cons, List.length_nil]; omega)] at hi
          cases hi
      rw [if_neg (by omega)]
      rw [List.getElem?_append_left hlt] at hi
      exact h.1 i x hi
  · unfold upd
    rw [if_neg (by omega)]
    exact h.2.1 i hi
  · rcases List.mem_append.mp hx with w | w
    · exact h.2.2 x w
    · rw [List.mem_singleton.mp w]
      exact hc
section RD3
variable {cst : Nat → Option (Nat × (Nat → Int32))} {m b0 b1 : Nat} {op : Bool} {tl : List mj_O} {Q : mj_R → Prop} {s : cS} {r : rM} {d n len : Nat} {tx : Nat → Nat}
set_option maxRecDepth 10000
theorem R_parEnd {q : Nat} {J : Nat → mj_L → List Value → mj_H → Prop} {x2 x3 : Option Value} (hx : txOK r.text len tx) (ht : r.typed = nI len) (hq : q ≤ 900) (h1 : tx q = 41 → tx (q + 1) = 32 → Q (.inl (some (.int 1)), (cW s (rW (pdR r (q + 1 + 1) d) tl), b0, b1, op))) (h2 : tx q = 41 → ¬ tx (q + 1) = 32 → Q (.inl (some (.int 0)), (cW s (rW (pdR r (q + 1) d) tl), b0, b1, op))) (h3 : ¬ tx q = 41 → Q (.inl (some (.int 0)), (cW s (rW (pdR r q (d + 1)) tl), b0, b1, op))) (F : Nat) :
    mj_sg (mj_Mt gT cst gnw (m + 3)) cst gnw (mj_hd (mj_off kO_R_parameters) kH_R_parameters) kC_R_parameters J Q (F + 20) false 105 [some (.ref 27), some (.int (nI n)), x2, x3] [] (cW s (rW (pdR r q (d + 1)) tl), b0, b1, op) := by
  refine R_closes hx ht (by omega) (fun e => ?_) (fun e => ?_)
  · refine And.intro (fun (g : (1 : Int32) = 0) => absurd g (by decide)) (fun _ => ?_)
    refine R_takes (c := 32) hx ht (by omega) (by decide) (fun e2 => ?_) (fun e2 => ?_)
    · refine And.intro (fun (g : (1 : Int32) = 0) => absurd g (by decide)) (fun _ => ?_)
      exact And.intro (Or.inr rfl) (h1 e e2)
    · refine And.intro (fun _ => ?_) (fun g => absurd rfl g)
      exact And.intro (Or.inl rfl) (h2 e e2)
  · refine And.intro (fun _ => ?_) (fun g => absurd rfl g)
    exact And.intro (Or.inl rfl) (h3 e)
theorem R_parLoop (hx : txOK r.text len tx) (ht : r.typed = nI len) (hn : n < 100) {J : Nat → mj_L → List Value → mj_H → Prop} (hJ : ∀ pc ls st h, mj_sg (mj_Mt gT cst gnw (m + 3)) cst gnw (mj_hd (mj_off kO_R_parameters) kH_R_parameters) kC_R_parameters J Q 400 true pc ls st h → J pc ls st h) :
    ∀ (j q : Nat) (ls : List Nat) (L : Nat → Int32) (x3 : Option Value), j + ls.length = 3 → 0 < j → q ≤ len → LT n r.letters L ls → (∀ ls' a' L', gLs tx j q ls = .inl (ls', a') → ls'.length ≤ 3 → LT n r.letters L' ls' → q < a' → a' ≤ len → Q (.inl (some (.int 1)), (cW s (rW (pdR (lvR r n (nI ls'.length) L') a' d) tl), b0, b1, op))) → (∀ a' v L' d', gLs tx j q ls = .inr a' → a' ≤ len → Q (.inl (some (.int 0)), (cW s (rW (pdR (lvR r n v L') a' d') tl), b0, b1, op))) →
      J 27 [some (.ref 27), some (.int (nI n)), some (.int (nI ls.length)), x3] [] (cW s (rW (pdR (lvR r n (nI ls.length) L) q (d + 1)) tl), b0, b1, op) := by
  have h96 := hx.1
  have hin : vp_in (nI n) 100 := vp_in_nI hn (by decide)
  have ekn : (nI n).toNatClampNeg = n := nI_clamp (by omega)
  intro j
  induction j with
  | zero => intro q ls L x3 _ h0; omega
  | succ j ih =>
    intro q ls L x3 hj _ hq hL hQ1 hQ0
    have e0 : gLs tx (j + 1) q ls = if cL (tx q) = true ∧ ¬ tx q ∈ ls then (if tx (q + 1) = 32 ∧ ¬ j = 0 then gLs tx j (q + 1 + 1) (ls ++ [tx q]) else (if tx (q + 1) = 41 then (if tx (q + 1 + 1) = 32 then .inl (ls ++ [tx q], q + 1 + 1 + 1) else .inr (q + 1 + 1)) else .inr (q + 1))) else .inr q := rfl
    rw [e0] at hQ1 hQ0
    have hcq := hx.le q
    have take : cL (tx q) = true → ¬ tx q ∈ ls → ∀ F : Nat, mj_sg (mj_Mt gT cst gnw (m + 3)) cst gnw (mj_hd (mj_off kO_R_parameters) kH_R_parameters) kC_R_parameters J Q (F + 120) false 68 [some (.ref 27), some (.int (nI n)), some (.int (nI ls.length)), some (.int (nI (tx q)))] [] (cW s (rW (pdR (lvR r n (nI ls.length) L) q (d + 1)) tl), b0, b1, op) := by
      intro hc hm F
      rw [if_pos ⟨hc, hm⟩] at hQ1 hQ0
      have hlt := hx.lt (a := q) (fun w => by rw [w] at hc; exact absurd hc (by decide))
      have hL' := LT_app hL (c := tx q) (by omega)
      have hlen : (ls ++ [tx q]).length = ls.length + 1 := by rw [List.length_append, List.length_cons, List.length_nil]
      have ev : upd r.value n (nI ls.length) n = nI ls.length := if_pos rfl
      have i3 : Int32.ofInt 3 * nI n + nI ls.length = nI (3 * n + ls.length) := by rw [three_n, nI_add]
      refine And.intro hin ?_
      have key : ∀ (v : Int32), v = nI ls.length → ∀ F : Nat, mj_sg (mj_Mt gT cst gnw (m + 3)) cst gnw (mj_hd (mj_off kO_R_parameters) kH_R_parameters) kC_R_parameters J Q (F + 100) false 77 [some (.ref 27), some (.int (nI n)), some (.int (nI ls.length)), some (.int (nI (tx q)))] [.int v, .int (Int32.ofInt 3 * nI n), .ref 38] (cW s (rW (pdR (lvR r n (nI ls.length) L) q (d + 1)) tl), b0, b1, op) := by
        rintro v rfl F
        refine And.intro (show vp_in (Int32.ofInt 3 * nI n + nI ls.length) 300 by rw [i3]; exact vp_in_nI (by omega) (by decide)) ?_
        refine And.intro hin ?_
        refine And.intro hin ?_
        have key2 : ∀ (V L' : Nat → Int32), V = upd r.value n (nI (ls.length + 1)) → L' = upd L (3 * n + ls.length) (nI (tx q)) → ∀ F : Nat, mj_sg (mj_Mt gT cst gnw (m + 3)) cst gnw (mj_hd (mj_off kO_R_parameters) kH_R_parameters) kC_R_parameters J Q (F + 60) false 88 [some (.ref 27), some (.int (nI n)), some (.int (nI ls.length)), some (.int (nI (tx q)))] [] (cW s (rW (((pdR r q (d + 1)).s_value V).s_letters L') tl), b0, b1, op) := by
          rintro V L' rfl rfl F
          rw [← hlen]
          refine sg_pinc (r := lvR r n (nI (ls ++ [tx q]).length) (upd L (3 * n + ls.length) (nI (tx q)))) (a := q) (d := d + 1) rfl rfl rfl rfl rfl rfl rfl ?_
          refine R_here0 (r := lvR r n (nI (ls ++ [tx q]).length) (upd L (3 * n + ls.length) (nI (tx q)))) (a := q + 1) (d := d + 1) hx ht (by omega) ?_
          have hcq1 := hx.le (q + 1)
          have fin : ¬ (tx (q + 1) = 32 ∧ ¬ j = 0) → ∀ F : Nat, mj_sg (mj_Mt gT cst gnw (m + 3)) cst gnw (mj_hd (mj_off kO_R_parameters) kH_R_parameters) kC_R_parameters J Q (F + 20) false 105 [some (.ref 27), some (.int (nI n)), some (.int (nI ls.length)), some (.int (nI (tx q)))] [] (cW s (rW (pdR (lvR r n (nI (ls ++ [tx q]).length) (upd L (3 * n + ls.length) (nI (tx q)))) (q + 1) (d + 1)) tl), b0, b1, op) := by
            intro hne F
            rw [if_neg hne] at hQ1 hQ0
            refine R_parEnd (r := lvR r n (nI (ls ++ [tx q]).length) (upd L (3 * n + ls.length) (nI (tx q)))) hx ht (by omega) (fun w1 w2 => ?_) (fun w1 w2 => ?_) (fun w1 => ?_) F
            · rw [if_pos w1, if_pos w2] at hQ1
              have := hx.lt (a := q + 1 + 1) (by omega)
              exact hQ1 (ls ++ [tx q]) (q + 1 + 1 + 1) _ rfl (by omega) hL' (by omega) (by omega)
            · rw [if_pos w1, if_neg w2] at hQ0
              have := hx.lt (a := q + 1) (by omega)
              exact hQ0 _ _ _ _ rfl (by omega)
            · rw [if_neg w1] at hQ0
              exact hQ0 _ _ _ _ rfl (by omega)
          refine And.intro (fun (g : ¬ nI (tx (q + 1)) = 32) => fin (fun w => g (by rw [w.1]; rfl)) _) (fun (g : nI (tx (q + 1)) = 32) => ?_)
          have e32 : tx (q + 1) = 32 := nIj (j := 32) (by omega) (by decide) g
          refine And.intro hin ?_
          have ev2 : ∀ f : Nat → Int32, upd f n (nI (ls ++ [tx q]).length) n = nI (ls ++ [tx q]).length := fun f => if_pos rfl
          have key4 : ∀ v : Int32, v = nI (ls ++ [tx q]).length → ∀ F : Nat, mj_sg (mj_Mt gT cst gnw (m + 3)) cst gnw (mj_hd (mj_off kO_R_parameters) kH_R_parameters) kC_R_parameters J Q (F + 30) false 103 [some (.ref 27), some (.int (nI n)), some (.int (nI ls.length)), some (.int (nI (tx q)))] [.int v] (cW s (rW (pdR (lvR r n (nI (ls ++ [tx q]).length) (upd L (3 * n + ls.length) (nI (tx q)))) (q + 1) (d + 1)) tl), b0, b1, op) := by
            rintro v rfl F
            refine And.intro (fun (g2 : ¬ nI (ls ++ [tx q]).length = 3) => ?_) (fun (g2 : nI (ls ++ [tx q]).length = 3) => ?_)
            · have hj0 : ¬ j = 0 := fun w => g2 (by rw [hlen, show ls.length + 1 = 3 by omega]; rfl)
              rw [if_pos ⟨e32, hj0⟩] at hQ1 hQ0
              have hlt2 := hx.lt (a := q + 1) (by omega)
              refine sg_pinc (r := lvR r n (nI (ls ++ [tx q]).length) (upd L (3 * n + ls.length) (nI (tx q)))) (a := q + 1) (d := d + 1) rfl rfl rfl rfl rfl rfl rfl ?_
              have key5 : ∀ z : Int32, z = nI (ls ++ [tx q]).length → J 27 [some (.ref 27), some (.int (nI n)), some (.int z), some (.int (nI (tx q)))] [] (cW s (rW (pdR (lvR r n (nI (ls ++ [tx q]).length) (upd L (3 * n + ls.length) (nI (tx q)))) (q + 1 + 1) (d + 1)) tl), b0, b1, op) := by
                rintro z rfl
                exact ih (q + 1 + 1) (ls ++ [tx q]) (upd L (3 * n + ls.length) (nI (tx q))) _ (by omega) (by omega) (by omega) hL' (fun ls' a' L' w1 w2 w3 w4 w5 => hQ1 ls' a' L' w1 w2 w3 (by omega) w5) hQ0
              exact key5 _ (by rw [hlen]; exact (nI_succ ls.length).symm)
            · have hj0 : j = 0 := by
                have := nIj (i := (ls ++ [tx q]).length) (j := 3) (by omega) (by decide) g2
                omega
              exact fin (fun w => w.2 hj0) _
          refine key4 _ ?_ _
          show upd r.value n (nI (ls ++ [tx q]).length) (nI n).toNatClampNeg = _
          rw [ekn]
          exact ev2 _
        refine key2 (upd (upd r.value n (nI ls.length)) (nI n).toNatClampNeg (upd r.value n (nI ls.length) (nI n).toNatClampNeg + Int32.ofInt 1)) (upd L (Int32.ofInt 3 * nI n + nI ls.length).toNatClampNeg (nI (tx q))) ?_ ?_ _
        · rw [ekn, ev, upd_2]
          congr 1
          exact (nI_succ ls.length).symm
        · rw [i3, nI_clamp (by omega)]
      refine key _ ?_ _
      show upd r.value n (nI ls.length) (nI n).toNatClampNeg = _
      rw [ekn]
      exact ev
    refine hJ _ _ _ _ ?_
    refine And.intro (fun (g : (3 : Int32) ≤ nI ls.length) => absurd g (nI_ge (b := 3) (by omega) (by decide))) (fun _ => ?_)
    refine R_here0 (r := lvR r n (nI ls.length) L) (a := q) (d := d + 1) hx ht (by omega) ?_
    have no : ¬ (cL (tx q) = true ∧ ¬ tx q ∈ ls) → Q (.inl (some (.int 0)), (cW s (rW (pdR (lvR r n (nI ls.length) L) q (d + 1)) tl), b0, b1, op)) := by
      intro w
      rw [if_neg w] at hQ0
      exact hQ0 _ _ _ _ rfl hq
    refine R_isLetter (by omega) (fun hc => ?_) (fun hc => ?_)
    · refine And.intro (fun (g : (1 : Int32) = 0) => absurd g (by decide)) (fun _ => ?_)
      refine And.intro hin ?_
      have ev : upd r.value n (nI ls.length) n = nI ls.length := if_pos rfl
      have i3 : Int32.ofInt 3 * nI n = nI (3 * n) := three_n n
      have ck3 : (nI (3 * n)).toNatClampNeg = 3 * n := nI_clamp (by omega)
      have ck4 : (nI (3 * n + 1)).toNatClampNeg = 3 * n + 1 := nI_clamp (by omega)
      have hi3 : vp_in (Int32.ofInt 3 * nI n) 300 := by rw [i3]; exact vp_in_nI (by omega) (by decide)
      have i4 : Int32.ofInt 3 * nI n + Int32.ofInt 1 = nI (3 * n + 1) := by rw [i3]; exact (nI_succ (3 * n)).symm
      have hi4 : vp_in (Int32.ofInt 3 * nI n + Int32.ofInt 1) 300 := by rw [i4]; exact vp_in_nI (by omega) (by decide)
      have out : tx q ∈ ls → ∀ F : Nat, mj_sg (mj_Mt gT cst gnw (m + 3)) cst gnw (mj_hd (mj_off kO_R_parameters) kH_R_parameters) kC_R_parameters J Q (F + 10) false 66 [some (.ref 27), some (.int (nI n)), some (.int (nI ls.length)), some (.int (nI (tx q)))] [] (cW s (rW (pdR (lvR r n (nI ls.length) L) q (d + 1)) tl), b0, b1, op) := fun hm F => And.intro (Or.inl rfl) (no (fun w => w.2 hm))
      have two : (∀ c, ls[0]? = some c → ¬ c = tx q) → ∀ F : Nat, mj_sg (mj_Mt gT cst gnw (m + 3)) cst gnw (mj_hd (mj_off kO_R_parameters) kH_R_parameters) kC_R_parameters J Q (F + 200) false 50 [some (.ref 27), some (.int (nI n)), some (.int (nI ls.length)), some (.int (nI (tx q)))] [] (cW s (rW (pdR (lvR r n (nI ls.length) L) q (d + 1)) tl), b0, b1, op) := by
        intro hne F
        refine And.intro hin ?_
        have key : ∀ v : Int32, v = nI ls.length → ∀ F : Nat, mj_sg (mj_Mt gT cst gnw (m + 3)) cst gnw (mj_hd (mj_off kO_R_parameters) kH_R_parameters) kC_R_parameters J Q (F + 180) false 54 [some (.ref 27), some (.int (nI n)), some (.int (nI ls.length)), some (.int (nI (tx q)))] [.int v] (cW s (rW (pdR (lvR r n (nI ls.length) L) q (d + 1)) tl), b0, b1, op) := by
          rintro v rfl F
          refine And.intro (fun (g : nI ls.length ≤ 1) => ?_) (fun (g : ¬ nI ls.length ≤ 1) => ?_)
          · refine take hc (fun hm => ?_) _
            have hl1 := (nI_leI (b := 1) (by omega) (by decide)).mp g
            obtain ⟨i, hi⟩ := List.getElem?_of_mem hm
            have : i < ls.length := by
              rcases Nat.lt_or_ge i ls.length with w | w
              · exact w
              · rw [List.getElem?_eq_none w] at hi
                cases hi
            obtain rfl : i = 0 := by omega
            exact hne _ hi rfl
          · have hl2 : ls.length = 2 := by
              have : ¬ ls.length ≤ 1 := fun w => g (nI_le (b := 1) w (by decide))
              omega
            refine And.intro hi4 ?_
            obtain ⟨c1, hc1⟩ : ∃ c, ls[1]? = some c := ⟨_, List.getElem?_eq_getElem (by omega)⟩
            have hb1 : c1 < 256 := hL.2.2 c1 (List.mem_of_getElem? hc1)
            have key2 : ∀ v : Int32, v = nI c1 → ∀ F : Nat, mj_sg (mj_Mt gT cst gnw (m + 3)) cst gnw (mj_hd (mj_off kO_R_parameters) kH_R_parameters) kC_R_parameters J Q (F + 160) false 64 [some (.ref 27), some (.int (nI n)), some (.int (nI ls.length)), some (.int (nI (tx q)))] [.int v] (cW s (rW (pdR (lvR r n (nI ls.length) L) q (d + 1)) tl), b0, b1, op) := by
              rintro v rfl F
              refine And.intro (fun (g2 : ¬ nI c1 = nI (tx q)) => ?_) (fun (g2 : nI c1 = nI (tx q)) => ?_)
              · refine take hc (fun hm => ?_) _
                obtain ⟨i, hi⟩ := List.getElem?_of_mem hm
                have : i < ls.length := by
                  rcases Nat.lt_or_ge i ls.length with w | w
                  · exact w
                  · rw [List.getElem?_eq_none w] at hi
                    cases hi
                rcases Nat.lt_or_ge i 1 with w | w
                · obtain rfl : i = 0 := by omega
                  exact hne _ hi rfl
                · obtain rfl : i = 1 := by omega
                  rw [hi] at hc1
                  cases hc1
                  exact g2 rfl
              · have := nIj (by omega) (by omega) g2
                subst this
                exact And.intro (Or.inl rfl) (no (fun w => w.2 (List.mem_of_getElem? hc1)))
            refine key2 _ ?_ _
            show L (Int32.ofInt 3 * nI n + Int32.ofInt 1).toNatClampNeg = nI c1
            rw [i4, ck4]
            exact hL.1 1 c1 hc1
        refine key _ ?_ _
        show upd r.value n (nI ls.length) (nI n).toNatClampNeg = _
        rw [ekn]
        exact ev
      have key : ∀ v : Int32, v = nI ls.length → ∀ F : Nat, mj_sg (mj_Mt gT cst gnw (m + 3)) cst gnw (mj_hd (mj_off kO_R_parameters) kH_R_parameters) kC_R_parameters J Q (F + 300) false 41 [some (.ref 27), some (.int (nI n)), some (.int (nI ls.length)), some (.int (nI (tx q)))] [.int v] (cW s (rW (pdR (lvR r n (nI ls.length) L) q (d + 1)) tl), b0, b1, op) := by
        rintro v rfl F
        refine And.intro (fun (g : nI ls.length ≤ 0) => ?_) (fun (g : ¬ nI ls.length ≤ 0) => ?_)
        · refine two (fun c hc0 => ?_) _
          have := (nI_leI (b := 0) (by omega) (by decide)).mp g
          rw [List.getElem?_eq_none (by omega)] at hc0
          cases hc0
        · have hl1 : 1 ≤ ls.length := Nat.pos_of_ne_zero (fun w => g (by rw [w]; decide))
          refine And.intro hi3 ?_
          obtain ⟨c0, hc0⟩ : ∃ c, ls[0]? = some c := ⟨_, List.getElem?_eq_getElem (by omega)⟩
          have hb0 : c0 < 256 := hL.2.2 c0 (List.mem_of_getElem? hc0)
          have key2 : ∀ v : Int32, v = nI c0 → ∀ F : Nat, mj_sg (mj_Mt gT cst gnw (m + 3)) cst gnw (mj_hd (mj_off kO_R_parameters) kH_R_parameters) kC_R_parameters J Q (F + 250) false 48 [some (.ref 27), some (.int (nI n)), some (.int (nI ls.length)), some (.int (nI (tx q)))] [.int v] (cW s (rW (pdR (lvR r n (nI ls.length) L) q (d + 1)) tl), b0, b1, op) := by
            rintro v rfl F
            refine And.intro (fun (g2 : nI c0 = nI (tx q)) => ?_) (fun (g2 : ¬ nI c0 = nI (tx q)) => ?_)
            · have := nIj (by omega) (by omega) g2
              subst this
              exact out (List.mem_of_getElem? hc0) _
            · refine two (fun c hcc w => ?_) _
              rw [hcc] at hc0
              cases hc0
              exact g2 (by rw [w])
          refine key2 _ ?_ _
          show L (Int32.ofInt 3 * nI n).toNatClampNeg = nI c0
          rw [i3, ck3]
          exact hL.1 0 c0 hc0
      refine key _ ?_ _
      show upd r.value n (nI ls.length) (nI n).toNatClampNeg = _
      rw [ekn]
      exact ev
    · refine And.intro (fun _ => ?_) (fun g => absurd rfl g)
      exact And.intro (Or.inl rfl) (no (fun w => by rw [hc] at w; exact absurd w.1 (by decide)))
theorem R_parameters {a : Nat} (hx : txOK r.text len tx) (ht : r.typed = nI len) (hn : n < 100) (hd : d ≤ 9) (ha : a ≤ len) (hv : r.value n = 0) (h1 : ∀ ls a' L, gPa tx d a = .inl (ls, a') → ls.length ≤ 3 → LT n r.letters L ls → a < a' → a' ≤ len → Q (.inl (some (.int 1)), (cW s (rW (pdR (lvR r n (nI ls.length) L) a' d) tl), b0, b1, op))) (h0 : ∀ a' v L d', gPa tx d a = .inr a' → a' ≤ len → Q (.inl (some (.int 0)), (cW s (rW (pdR (lvR r n v L) a' d') tl), b0, b1, op))) : mj_Mt gT cst gnw (m + 4) y_R_parameters [.ref 27, .int (nI n)] (cW s (rW (pdR r a d) tl), b0, b1, op) Q := by
  have h96 := hx.1
  have e0 : gPa tx d a = if tx a = 32 then (if tx (a + 1) = 40 ∧ d < 9 then (if cL (tx (a + 1 + 1)) then gLs tx 3 (a + 1 + 1) [] else (if tx (a + 1 + 1) = 41 then (if tx (a + 1 + 1 + 1) = 32 then .inl ([], a + 1 + 1 + 1 + 1) else .inr (a + 1 + 1 + 1)) else .inr (a + 1 + 1))) else .inr (a + 1)) else .inr a := rfl
  rw [e0] at h1 h0
  have er : r = lvR r n (nI 0) r.letters := by
    have e1 : upd r.value n (nI 0) = r.value := by
      funext i
      unfold upd
      split
      · next e => rw [e, hv]; rfl
      · rfl
    unfold lvR
    rw [e1]
    rfl
  have L0 : LT n r.letters r.letters [] := ⟨fun i c hi => absurd hi (by rw [List.getElem?_nil]; intro w; cases w), fun i _ => rfl, fun c hc => absurd hc (List.not_mem_nil)⟩
  intro J hJ
  refine hJ _ _ _ _ ?_
  refine R_takes (c := 32) hx ht (by omega) (by decide) (fun e => ?_) (fun e => ?_)
  · rw [if_pos e] at h1 h0
    have hlt := hx.lt (a := a) (by omega)
    refine And.intro (fun (g : (1 : Int32) = 0) => absurd g (by decide)) (fun _ => ?_)
    refine R_opens hx ht (by omega) hd (fun e2 h9 => ?_) (fun e2 => ?_)
    · rw [if_pos ⟨e2, h9⟩] at h1 h0
      have hlt2 := hx.lt (a := a + 1) (by omega)
      refine And.intro (fun _ => ?_) (fun (g : (1 : Int32) = 0) => absurd g (by decide))
      refine R_here0 hx ht (by omega) ?_
      have hcq := hx.le (a + 1 + 1)
      refine R_isLetter (by omega) (fun hc => ?_) (fun hc => ?_)
      · rw [if_pos hc] at h1 h0
        refine And.intro (fun _ => ?_) (fun (g : (1 : Int32) = 0) => absurd g (by decide))
        have := R_parLoop (cst := cst) (m := m) (b0 := b0) (b1 := b1) (op := op) (tl := tl) (Q := Q) (s := s) (d := d) hx ht hn hJ 3 (a + 1 + 1) [] r.letters none rfl (by decide) (by omega) L0 (fun ls' a' L' w1 w2 w3 w4 w5 => h1 ls' a' L' w1 w2 w3 (by omega) w5) h0
        have e9 : pdR (lvR r n (nI ([] : List Nat).length) r.letters) (a + 1 + 1) (d + 1) = pdR r (a + 1 + 1) (d + 1) := by
          show pdR (lvR r n (nI 0) r.letters) _ _ = _
          rw [← er]
        rw [e9] at this
        exact this
      · rw [if_neg (by rw [hc]; decide)] at h1 h0
        refine And.intro (fun g => absurd rfl g) (fun _ => ?_)
        refine R_closes hx ht (by omega) (fun e3 => ?_) (fun e3 => ?_)
        · rw [if_pos e3] at h1 h0
          have hlt3 := hx.lt (a := a + 1 + 1) (by omega)
          refine And.intro (fun (g : (1 : Int32) = 0) => absurd g (by decide)) (fun _ => ?_)
          refine R_takes (c := 32) hx ht (by omega) (by decide) (fun e4 => ?_) (fun e4 => ?_)
          · rw [if_pos e4] at h1
            have hlt4 := hx.lt (a := a + 1 + 1 + 1) (by omega)
            refine And.intro (fun (g : (1 : Int32) = 0) => absurd g (by decide)) (fun _ => ?_)
            have h9 := h1 [] (a + 1 + 1 + 1 + 1) r.letters rfl (by decide) L0 (by omega) (by omega)
            have e9 : lvR r n (nI ([] : List Nat).length) r.letters = r := er.symm
            rw [e9] at h9
            exact And.intro (Or.inr rfl) h9
          · rw [if_neg e4] at h0
            refine And.intro (fun _ => ?_) (fun g => absurd rfl g)
            have h9 := h0 (a + 1 + 1 + 1) (nI 0) r.letters d rfl (by omega)
            rw [← er] at h9
            exact And.intro (Or.inl rfl) h9
        · rw [if_neg e3] at h0
          refine And.intro (fun _ => ?_) (fun g => absurd rfl g)
          have h9 := h0 (a + 1 + 1) (nI 0) r.letters (d + 1) rfl (by omega)
          rw [← er] at h9
          exact And.intro (Or.inl rfl) h9
    · rw [if_neg e2] at h0
      refine And.intro (fun g => absurd rfl g) (fun _ => ?_)
      have h9 := h0 (a + 1) (nI 0) r.letters d rfl (by omega)
      rw [← er] at h9
      exact And.intro (Or.inl rfl) h9
  · rw [if_neg e] at h0
    refine And.intro (fun _ => ?_) (fun g => absurd rfl g)
    have h9 := h0 a (nI 0) r.letters d rfl ha
    rw [← er] at h9
    exact And.intro (Or.inl rfl) h9
end RD3
