theorem gEx_br {tx : Nat → Nat} {f d a : Nat} (h : tx a = 40) (h9 : d < 9) : gEx tx (f + 1) d a = gBr tx (gEx tx f (d + 1)) (gEx tx f (d + 2)) (d + 1) (a + 1) := by
  have e0 : gEx tx (f + 1) d a = if cL (tx a) then .inl (fun φ => [(1, 2), (6, lkF (tx a) (uP a) φ 0)], a + 1) else if tx a = 39 then (match gD tx 200 false 0 d (a + 1) with | .inr e => .inr e | .inl (D, a2) => .inl (fun _ => (1, 1) :: D, a2)) else if tx a = 40 then (if d < 9 then gBr tx (gEx tx f (d + 1)) (gEx tx f (d + 2)) (d + 1) (a + 1) else .inr a) else if cD (tx (pA1 tx a)) then .inl (fun _ => [(1, 1), (1, pVal tx a)], (pDg tx 4 (pA1 tx a) 0).1) else .inr (pA1 tx a) := rfl
  rw [e0, if_neg (by rw [h]; decide), if_neg (by omega), if_pos h, if_pos h9]
section RD9
variable {cst : Nat → Option (Nat × (Nat → Int32))} {m b0 b1 : Nat} {op : Bool} {tl : List mj_O} {Q : mj_R → Prop} {s : cS} {r0 r r1 : rM} {len : Nat} {tx : Nat → Nat} {J : Nat → mj_L → List Value → mj_H → Prop}
set_option maxRecDepth 10000
theorem BG_hu {a n : Nat} {u : Option Nat} {kd : Int32} (h : BG r0 r1 n a u kd) : ∀ v, (some n) = some v → v < n + 1 ∧ (r1.first v < 0 ∨ ∃ l, l < n + 1 ∧ r1.last v = nI l ∧ ¬ r1.first v < 0) := by
  intro v hv
  cases hv
  refine ⟨by omega, Or.inl ?_⟩
  rw [h.2.2.2.1]
  decide
set_option maxHeartbeats 4000000 in
theorem R_ex (hJ : ∀ pc ls st h, mj_sg (mj_Mt gT cst gnw (m + 5)) cst gnw (mj_hd (mj_off kO_R_read) kH_R_read) kC_R_read J Q 400 true pc ls st h → J pc ls st h) : ∀ f : Nat, EXP tx len b0 b1 op tl s Q J f
  | 0 => by
    intro d a n u r x3 x4 x5 hx ht ha hd hfd
    omega
  | f + 1 => by
    have hE := R_ex hJ f
    intro d a n u r x3 x4 x5 hx ht ha hd hfd hna hn hu hs hf
    have h96 := hx.1
    refine hJ _ _ _ _ ?_
    refine And.intro (fun (g : (100 : Int32) ≤ nI n) => absurd g (nI_ge (b := 100) (by omega) (by decide))) (fun _ => ?_)
    have down : ∀ (r1 : rM) (a' : Nat), (∀ z : Int32, J 13 [some (.ref 27), some (.int (nI n)), some (.int (nI (n + 1))), some (.int z), some (.int 1), x5] [] (cW s (rW (pdR r1 a' (d + 1)) tl), b0, b1, op)) → ∀ F : Nat, ∀ z : Int32, z = nI n → mj_sg (mj_Mt gT cst gnw (m + 5)) cst gnw (mj_hd (mj_off kO_R_read) kH_R_read) kC_R_read J Q (F + 30) false 22 [some (.ref 27), some (.int (oV u)), some (.int (nI n)), some (.int z), x4, x5] [.int 1] (cW s (rW (pdR r1 a' (d + 1)) tl), b0, b1, op) := by
      rintro r1 a' h F z rfl
      refine And.intro (fun _ => ?_) (fun (g : ¬ (0 : Int32) ≤ 1) => absurd (by decide) g)
      refine And.intro (fun (g : ¬ (1 : Int32) = 1) => absurd rfl g) (fun _ => ?_)
      have key : ∀ y : Int32, y = nI (n + 1) → J 13 [some (.ref 27), some (.int (nI n)), some (.int y), some (.int (nI n)), some (.int 1), x5] [] (cW s (rW (pdR r1 a' (d + 1)) tl), b0, b1, op) := by
        rintro y rfl
        exact h _
      exact key _ (nI_succ n).symm
    have suc : ∀ (t : Tau) (a' : Nat), gEx tx (f + 1) d a = .inl (t, a') → SUC tx f b0 b1 op tl s J r n d len u t a' a := fun t a' e0 e r' w3 w4 g1 g2 g3 g4 g5 g6 g7 g8 g9 => hs t a' e r' w3 w4 e0 g1 g2 g3 g4 g5 g6 g7 g8 g9
    have fai : ∀ a', gEx tx (f + 1) d a = .inr a' → FAI b0 b1 op tl s Q r len a' := fun a' e0 d' r' g1 g2 => hf a' d' r' e0 g1 g2
    refine R_begin (f := f) hx ht ha hd hn (by omega) hu (fun t a' r' e0 hb hc h1 h2 => ?_) (fun a' r' d' e0 h1 h2 => ?_) (fun r1 e40 h9 hS e32 hb hv => ?_) (fun r1 ls a2 e40 h9 nS e92 hg hl1 hl2 hb hlen hv hlet h256 => ?_) (fun r1 e40 h9 nS n92 hbo e32 hb => ?_) (fun r1 e40 h9 nS n92 nbo hb => ?_)
    · obtain ⟨k, hb⟩ := hb
      refine And.intro (fun _ => ?_) (fun (g : ¬ (0 : Int32) ≤ 0) => absurd (by decide) g)
      refine And.intro (fun _ => ?_) (fun (g : (0 : Int32) = 1) => absurd g (by decide))
      exact hs t a' (n + 1) r' _ _ e0 hb.1 hb.2.1 hb.2.2.1.1 hb.2.2.2.2.2.1 hb.2.2.2.2.2.2.2 hc h2 (by omega) (PO_leaf hb.2.2.1.2.2 (by omega) h1)
    · refine And.intro (fun (g : (0 : Int32) ≤ -1) => absurd g (by decide)) (fun _ => ?_)
      exact And.intro (Or.inl rfl) (hf a' d' r' e0 h1 h2)
    · -- a sign
      have hk1 := kr_text hb.1.1
      have hl2 := hx.lt (a := a + 1 + 1) (by omega)
      have hcc := hx.le (a + 1)
      have eG : gEx tx (f + 1) d a = gSg tx (gEx tx f (d + 1)) (a + 1) := by
        rw [gEx_br e40 h9]
        exact if_pos hS
      unfold gSg at eG
      rw [if_pos e32] at eG
      refine down r1 _ (fun z => ?_) _ _ hn
      refine hE (d + 1) (a + 1 + 1 + 1) (n + 1) (some n) r1 _ _ _ (by rw [hk1.1]; exact hx) (by rw [hk1.2]; exact ht) (by omega) (by omega) (by omega) (by omega) hb.2.1 (BG_hu hb) (fun t a' e2 r' w3 w4 g1 g2 g3 g4 g5 g6 g7 g9 g10 g11 => ?_) (fun a' d' r' g1 g2 g3 => ?_)
      · rw [g1] at eG
        obtain ⟨i1, i2, i3⟩ := IN_first (by omega) hb g2 g3 g7 g4 g5 g6
        have hkx := kr_text g2.1
        exact X_sign hJ hE (c := tx (a + 1)) (by omega) hS.1 (by omega) (by omega) (ar (tx (a + 1)) - 1) a' (n + 1) e2 [(t, 0)] r' w3 w4 (by rw [hkx.1, hk1.1]; exact hx) (by rw [hkx.2, hk1.2]; exact ht) g9 g10 i1 (PO_up g11 (by omega)) (i2.trans hv) (by have := hS.1; rw [List.length_cons, List.length_nil]; omega) (fun t' a'' q => suc t' a'' (eG.trans q)) (fun a'' q => fai a'' (eG.trans q))
      · rw [g1] at eG
        exact hf a' d' r' eG g2 (kr_tr hb.1.1 g3)
    · -- a function
      have hk1 := kr_text hb.1.1
      have eG : gEx tx (f + 1) d a = gBo tx (gEx tx f (d + 1)) (d + 1) (a + 1) := by
        rw [gEx_br e40 h9]
        unfold gBr
        rw [if_neg (show ¬ (0 < ar (tx (a + 1)) ∧ ¬ (tx (a + 1) = 45 ∧ cD (tx (a + 1 + 1)) = true)) from nS), if_pos e92]
      unfold gBo at eG
      rw [hg] at eG
      refine down r1 _ (fun z => ?_) _ _ hn
      refine hE (d + 1) a2 (n + 1) (some n) r1 _ _ _ (by rw [hk1.1]; exact hx) (by rw [hk1.2]; exact ht) (by omega) (by omega) (by omega) (by omega) hb.2.1 (BG_hu hb) (fun t a' e2 r' w3 w4 g1 g2 g3 g4 g5 g6 g7 g9 g10 g11 => ?_) (fun a' d' r' g1 g2 g3 => ?_)
      · simp only [g1] at eG
        obtain ⟨i1, i2, i3⟩ := IN_first (by omega) hb g2 g3 g7 g4 g5 g6
        have hkx := kr_text g2.1
        have hx' : txOK r'.text len tx := by rw [hkx.1, hk1.1]; exact hx
        have ht' : r'.typed = nI len := by rw [hkx.2, hk1.2]; exact ht
        have hlt := IN_lt i1
        refine X_go hJ (by omega) (fun Q' hQ' => ?_)
        unfold gCl at eG
        refine R_go5 (by omega) i1.2.2.2.1 hx' ht' (by omega) (fun e => ?_) (fun e => ?_)
        · rw [if_pos e] at eG
          have hl3 := hx.lt (a := a') (by omega)
          refine hQ' 0 _ (fun F => X_0 hJ (by omega) i1.2.2.2.2.1 ?_ F)
          refine suc _ _ eG e2 r' w3 w4 i1.1 i1.2.1 i1.2.2.2.2.1 i1.2.2.2.2.2.1 i1.2.2.2.2.2.2 (IN_cR i1 (Or.inr (Or.inr (Or.inl ⟨i1.2.2.2.1, (t, 0), ls, rfl, hlen, i2.trans hv, fun i c hi => ?_, h256, rfl⟩)))) (by omega) (by omega) (PO_own (by rw [i1.2.2.2.1]; decide) (PO_up g11 (by omega)) (by omega))
          have : i < ls.length := by
            rcases Nat.lt_or_ge i ls.length with w | w
            · exact w
            · rw [List.getElem?_eq_none w] at hi
              cases hi
          rw [i3 _ (by omega)]
          exact hlet i c hi
        · rw [if_neg e] at eG
          refine hQ' (-1) _ (fun F => X_f ?_ F)
          exact fai _ eG _ _ g9 (IN_kr i1)
      · simp only [g1] at eG
        exact hf a' d' r' eG g2 (kr_tr hb.1.1 g3)
    · -- bound
      have hk1 := kr_text hb.1.1
      have hl2 := hx.lt (a := a + 1 + 1) (by omega)
      have eG : gEx tx (f + 1) d a = gLe tx (gEx tx f (d + 1)) (gEx tx f (d + 2)) (decide (tx (a + 1) = 59)) (d + 1) (a + 1) := by
        rw [gEx_br e40 h9]
        unfold gBr
        rw [if_neg (show ¬ (0 < ar (tx (a + 1)) ∧ ¬ (tx (a + 1) = 45 ∧ cD (tx (a + 1 + 1)) = true)) from nS), if_neg n92, if_pos hbo]
      have ekd : (if tx (a + 1) = 58 then (6 : Int32) else 7) = if decide (tx (a + 1) = 59) = true then 7 else 6 := by
        rcases hbo with e | e
        · rw [if_pos e, if_neg (by rw [e]; decide)]
        · rw [if_neg (by omega), if_pos (by rw [e]; decide)]
      rw [ekd] at hb
      generalize decide (tx (a + 1) = 59) = rc at eG hb
      unfold gLe at eG
      rw [if_pos e32] at eG
      refine down r1 _ (fun z => ?_) _ _ hn
      refine hE (d + 1) (a + 1 + 1 + 1) (n + 1) (some n) r1 _ _ _ (by rw [hk1.1]; exact hx) (by rw [hk1.2]; exact ht) (by omega) (by omega) (by omega) (by omega) hb.2.1 (BG_hu hb) (fun t a' e2 r' w3 w4 g1 g2 g3 g4 g5 g6 g7 g9 g10 g11 => ?_) (fun a' d' r' g1 g2 g3 => ?_)
      · simp only [g1] at eG
        obtain ⟨i1, i2, i3⟩ := IN_first (by omega) hb g2 g3 g7 g4 g5 g6
        have hkx := kr_text g2.1
        exact X_let hJ hE (rc := rc) (h := (t, 0)) (by omega) (by omega) (by rw [hkx.1, hk1.1]; exact hx) (by rw [hkx.2, hk1.2]; exact ht) g9 g10 i1 (PO_up g11 (by omega)) (fun t' a'' q => suc t' a'' (eG.trans q)) (fun a'' q => fai a'' (eG.trans q))
      · simp only [g1] at eG
        exact hf a' d' r' eG g2 (kr_tr hb.1.1 g3)
    · -- a call
      have hk1 := kr_text hb.1.1
      have hl2 := hx.lt (a := a) (by omega)
      have eG : gEx tx (f + 1) d a = gCa tx (gEx tx f (d + 1)) (a + 1) := by
        rw [gEx_br e40 h9]
        unfold gBr
        rw [if_neg (show ¬ (0 < ar (tx (a + 1)) ∧ ¬ (tx (a + 1) = 45 ∧ cD (tx (a + 1 + 1)) = true)) from nS), if_neg n92, if_neg nbo]
      unfold gCa at eG
      refine down r1 _ (fun z => ?_) _ _ hn
      refine hE (d + 1) (a + 1) (n + 1) (some n) r1 _ _ _ (by rw [hk1.1]; exact hx) (by rw [hk1.2]; exact ht) (by omega) (by omega) (by omega) (by omega) hb.2.1 (BG_hu hb) (fun t a' e2 r' w3 w4 g1 g2 g3 g4 g5 g6 g7 g9 g10 g11 => ?_) (fun a' d' r' g1 g2 g3 => ?_)
      · simp only [g1] at eG
        obtain ⟨i1, i2, i3⟩ := IN_first (by omega) hb g2 g3 g7 g4 g5 g6
        have hkx := kr_text g2.1
        exact X_call hJ hE (h := (t, 0)) (by omega) (by omega) 3 a' (n + 1) e2 [] r' w3 w4 (by rw [hkx.1, hk1.1]; exact hx) (by rw [hkx.2, hk1.2]; exact ht) g9 g10 i1 (PO_up g11 (by omega)) rfl (fun t' a'' q => suc t' a'' (eG.trans q)) (fun a'' q => fai a'' (eG.trans q))
      · simp only [g1] at eG
        exact hf a' d' r' eG g2 (kr_tr hb.1.1 g3)
theorem R_read (hx : txOK r.text len tx) (ht : r.typed = nI len)
    (h1 : ∀ t e r', gEx tx 10 0 0 = .inl (t, len) → kr r r' → r'.parts = nI e → e ≤ len → r'.parent 0 = -1 → cR tx r' 10 0 e t → PO r'.kind r'.at_ 0 e 0 len → Q (.inl (some (.int 1)), (cW s (rW (pdR r' len 0) tl), b0, b1, op)))
    (h2 : ∀ t a' r', gEx tx 10 0 0 = .inl (t, a') → ¬ a' = len → a' ≤ len → kr r r' → Q (.inl (some (.int 0)), (cW s (rW (pdR r' a' 0) tl), b0, b1, op)))
    (h0 : ∀ a' r' d', gEx tx 10 0 0 = .inr a' → a' ≤ len → kr r r' → Q (.inl (some (.int 0)), (cW s (rW (pdR r' a' d') tl), b0, b1, op))) : mj_Mt gT cst gnw (m + 6) y_R_read [.ref 27] (cW s (rW r tl), b0, b1, op) Q := by
  have h96 := hx.1
  intro J hJ
  have main := R_ex (tx := tx) (len := len) (b0 := b0) (b1 := b1) (op := op) (tl := tl) (s := s) hJ 10 0 0 0 none (r.s_parts (nI 0)) none none none hx ht (Nat.zero_le _) (by decide) (by decide) (Nat.le_refl _) rfl (fun v hv => by cases hv) (fun t a' e r' w3 w4 g1 g2 g3 g4 g5 g6 g7 g9 g10 g11 => ?_) (fun a' d' r' g1 g2 g3 => h0 a' r' d' g1 g2 g3)
  · refine hJ _ _ _ _ ?_
    exact main
  · have hkx := kr_text g2.1
    have ht' : r'.typed = nI len := hkx.2.trans ht
    refine hJ _ _ _ _ ?_
    refine And.intro (fun (g : ¬ (0 : Int32) = 0) => absurd rfl g) (fun _ => ?_)
    refine And.intro (fun (g : (0 : Int32) ≤ oV none) => absurd g (by decide)) (fun _ => ?_)
    refine And.intro (fun (g : ¬ nI a' = r'.typed) => ?_) (fun (g : nI a' = r'.typed) => ?_)
    · rw [ht'] at g
      exact And.intro (Or.inl rfl) (h2 t a' r' g1 (fun e => g (by rw [e])) g9 g2.1)
    · rw [ht'] at g
      have e : a' = len := nIj (by omega) (by omega) g
      subst e
      exact And.intro (Or.inr rfl) (h1 t e r' g1 g2.1 g3 g10 g4 g7 g11)
end RD9
