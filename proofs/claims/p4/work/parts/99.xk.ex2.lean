def gCT (tx : Nat → Nat) (pe : Nat → GR) (rc : Bool) (d : Nat) (fin : List Kd → List Nat → Tau) (ks : List Kd) (bs : List Nat) (t : Tau) (c : Nat) : Nat → Nat → GR
  | 0, a => gCl tx (fin (ks ++ [(t, nI c)]) (bs ++ [c])) a
  | k + 1, a => if tx a = 32 then gBi tx pe rc d fin k (a + 1) (ks ++ [(t, nI c)]) (bs ++ [c]) else gCl tx (fin (ks ++ [(t, nI c)]) (bs ++ [c])) a
theorem gBi_e (tx : Nat → Nat) (pe : Nat → GR) (rc : Bool) (d : Nat) (fin : List Kd → List Nat → Tau) (k a : Nat) (ks : List Kd) (bs : List Nat) : gBi tx pe rc d fin k a ks bs = gB1 tx pe rc d a bs (fun t a4 => gCT tx pe rc d fin ks bs t (tx (a + 1)) k a4) := by
  cases k <;> rfl
theorem gB0_c {tx : Nat → Nat} {rc : Bool} {d a : Nat} {bs : List Nat} (h : gB0 tx rc d a bs = none) : cL (tx (a + 1)) = true ∧ d < 9 ∧ tx (a + 1 + 1) = 32 := by
  unfold gB0 at h
  split at h
  · next h1 =>
    split at h
    · next h2 =>
      split at h
      · next h3 => exact ⟨h2.1, h1.2, h3⟩
      · cases h
    · cases h
  · cases h
section RD8
variable {cst : Nat → Option (Nat × (Nat → Int32))} {m b0 b1 : Nat} {op : Bool} {tl : List mj_O} {Q : mj_R → Prop} {s : cS} {r0 r r1 : rM} {a a0 d n len mm l f : Nat} {tx : Nat → Nat} {J : Nat → mj_L → List Value → mj_H → Prop} {u : Option Nat} {ks : List Kd} {kd : Int32}
set_option maxRecDepth 10000
def fiN (rc : Bool) (h : Kd) (ks : List Kd) (ls : List Nat) : Tau := if rc = true then reT h ks ls else leT h ks ls
theorem cT_bi {rc : Bool} {h : Kd} {ls : List Nat} (hk : r.kind n = if rc = true then 7 else 6) (h1 : 1 ≤ ks.length) (h3 : ks.length ≤ 3) (hm : ks.map (fun k => k.2) = ls.map nI) (hl : ∀ c ∈ ls, c < 256) : cT r n (h :: ks) (fiN rc h ks ls) := by
  cases rc with
  | false => exact Or.inr (Or.inr (Or.inr (Or.inl ⟨hk, h, ks, ls, rfl, h1, h3, hm, hl, rfl⟩)))
  | true => exact Or.inr (Or.inr (Or.inr (Or.inr ⟨hk, h, ks, ls, rfl, h1, h3, hm, hl, rfl⟩)))
set_option maxHeartbeats 4000000 in
theorem X_bi (hJ : ∀ pc ls st h, mj_sg (mj_Mt gT cst gnw (m + 5)) cst gnw (mj_hd (mj_off kO_R_read) kH_R_read) kC_R_read J Q 400 true pc ls st h → J pc ls st h) (hE : EXP tx len b0 b1 op tl s Q J f) {rc : Bool} {h : Kd} (hd : d + 1 ≤ 9) (hfd : 10 ≤ f + (d + 1 + 1)) :
    ∀ (j a l mm c : Nat) (ks : List Kd) (bs : List Nat) (t : Tau) (r : rM) (w3 w4 : Int32), txOK r.text len tx → r.typed = nI len → a ≤ len → mm ≤ a → IN tx f r0 r n u (h :: (ks ++ [(t, 0)])) l mm (if rc = true then 7 else 6) → PO r.kind r.at_ (n + 1) mm a0 a → r.letters (3 * n) = nI c → c < 256 → ks.map (fun k => k.2) = bs.map nI → (∀ c ∈ bs, c < 256) → ks.length + j = 2 →
      (∀ t' a', (if tx a = 41 then gCT tx (gEx tx f (d + 2)) rc (d + 1) (fiN rc h) ks bs t c j (a + 1) else .inr a) = .inl (t', a') → SUC tx f b0 b1 op tl s J r0 n d len u t' a' a0) → (∀ a', (if tx a = 41 then gCT tx (gEx tx f (d + 2)) rc (d + 1) (fiN rc h) ks bs t c j (a + 1) else .inr a) = .inr a' → FAI b0 b1 op tl s Q r0 len a') →
      J 35 [some (.ref 27), some (.int (nI n)), some (.int (nI (mm - 1))), some (.int w3), some (.int w4), some (.int 0)] [] (cW s (rW (pdR r a (d + 1 + 1)) tl), b0, b1, op) := by
  intro j
  induction j with
  | zero =>
    intro a l mm c ks bs t r w3 w4 hx ht ha hma hI hP hlt3 hc hmap hbs hk hs hf
    have h96 := hx.1
    have hlt := IN_lt hI
    have hkl : (h :: (ks ++ [(t, 0)])).length = ks.length + 2 := by rw [List.length_cons, List.length_append]; rfl
    have hI0 := hI
    rw [← List.cons_append] at hI0
    have hI2 := IN_bo (x := nI c) hI0
    rw [List.cons_append] at hI2
    have hmap2 : (ks ++ [(t, nI c)]).map (fun k => k.2) = (bs ++ [c]).map nI := by rw [List.map_append, List.map_append, hmap]; rfl
    have hbs2 : ∀ x ∈ bs ++ [c], x < 256 := by
      intro x hx
      rcases List.mem_append.mp hx with w | w
      · exact hbs x w
      · rw [List.mem_singleton.mp w]
        exact hc
    have hch := cKL_ch (fun i m t w => cR_lt (tx := tx) (r := boR r l (nI c)) f i m t w.1) (ks ++ [(t, nI c)]) h _ _ _ hI2.2.2.1.1 hI2.2.2.1.2.1 (by omega)
    rw [hmap2] at hch
    rw [← hlt3] at hch hI2
    refine X_go hJ (by omega) (fun Q' hQ' => ?_)
    refine R_go6b (rc := rc) (i1 := n + 1) (l := l) (k := ks.length + 2) (bs := bs ++ [c]) hx ht ha hd (by omega) hI.2.2.2.1 (by rw [hI.2.2.1.2.2.2.2, hkl]) (by omega) (by omega) hI.2.2.1.2.2.1 (by omega) hI.2.2.1.2.2.2.1 (by omega) hch hbs2 (fun e => ?_) (fun _ w => by omega) (fun _ _ _ _ w => by omega) (fun e _ e2 => ?_) (fun e _ e2 => ?_)
    · rw [if_neg e] at hf
      refine hQ' (-1) _ (fun F => X_f ?_ F)
      exact hf a rfl _ _ ha (IN_kr hI2)
    · rw [if_pos e] at hs
      have hl2 := hx.lt (a := a) (by omega)
      have hl3 := hx.lt (a := a + 1) (by omega)
      have e3 : gCT tx (gEx tx f (d + 2)) rc (d + 1) (fiN rc h) ks bs t c 0 (a + 1) = .inl (fiN rc h (ks ++ [(t, nI c)]) (bs ++ [c]), a + 1 + 1) := if_pos e2
      refine hQ' 0 _ (fun F => X_0 hJ (by omega) hI2.2.2.2.2.1 ?_ F)
      rw [hlt3] at hI2 ⊢
      exact hs _ _ e3 mm (boR r l (nI c)) w3 w4 hI2.1 hI2.2.1 hI2.2.2.2.2.1 hI2.2.2.2.2.2.1 hI2.2.2.2.2.2.2 (IN_cR hI2 (cT_bi hI2.2.2.2.1 (by rw [List.length_append, List.length_cons, List.length_nil]; omega) (by rw [List.length_append, List.length_cons, List.length_nil]; omega) hmap2 hbs2)) (by omega) (by omega) (PO_own (by rw [hI2.2.2.2.1]; cases rc <;> decide) hP (by omega))
    · rw [if_pos e] at hf
      have hl2 := hx.lt (a := a) (by omega)
      have e3 : gCT tx (gEx tx f (d + 2)) rc (d + 1) (fiN rc h) ks bs t c 0 (a + 1) = .inr (a + 1) := if_neg e2
      refine hQ' (-1) _ (fun F => X_f ?_ F)
      exact hf (a + 1) e3 _ _ (by omega) (IN_kr hI2)
  | succ j ih =>
    intro a l mm c ks bs t r w3 w4 hx ht ha hma hI hP hlt3 hc hmap hbs hk hs hf
    have h96 := hx.1
    have hlt := IN_lt hI
    have hkl : (h :: (ks ++ [(t, 0)])).length = ks.length + 2 := by rw [List.length_cons, List.length_append]; rfl
    have hI0 := hI
    rw [← List.cons_append] at hI0
    have hI2 := IN_bo (x := nI c) hI0
    rw [List.cons_append] at hI2
    have hmap2 : (ks ++ [(t, nI c)]).map (fun k => k.2) = (bs ++ [c]).map nI := by rw [List.map_append, List.map_append, hmap]; rfl
    have hbs2 : ∀ x ∈ bs ++ [c], x < 256 := by
      intro x hx
      rcases List.mem_append.mp hx with w | w
      · exact hbs x w
      · rw [List.mem_singleton.mp w]
        exact hc
    have hch := cKL_ch (fun i m t w => cR_lt (tx := tx) (r := boR r l (nI c)) f i m t w.1) (ks ++ [(t, nI c)]) h _ _ _ hI2.2.2.1.1 hI2.2.2.1.2.1 (by omega)
    rw [hmap2] at hch
    rw [← hlt3] at hch hI2
    refine X_go hJ (by omega) (fun Q' hQ' => ?_)
    have e9 : gCT tx (gEx tx f (d + 2)) rc (d + 1) (fiN rc h) ks bs t c (j + 1) (a + 1) = if tx (a + 1) = 32 then gBi tx (gEx tx f (d + 2)) rc (d + 1) (fiN rc h) j (a + 1 + 1) (ks ++ [(t, nI c)]) (bs ++ [c]) else gCl tx (fiN rc h (ks ++ [(t, nI c)]) (bs ++ [c])) (a + 1) := rfl
    rw [e9] at hs hf
    refine R_go6b (rc := rc) (i1 := n + 1) (l := l) (k := ks.length + 2) (bs := bs ++ [c]) hx ht ha hd (by omega) hI.2.2.2.1 (by rw [hI.2.2.1.2.2.2.2, hkl]) (by omega) (by omega) hI.2.2.1.2.2.1 (by omega) hI.2.2.1.2.2.2.1 (by omega) hch hbs2 (fun e => ?_) (fun e _ e2 g0 => ?_) (fun a' r' d' e _ e2 g0 g1 g2 => ?_) (fun e w e2 => ?_) (fun e w e2 => ?_)
    · rw [if_neg e] at hf
      refine hQ' (-1) _ (fun F => X_f ?_ F)
      exact hf a rfl _ _ ha (IN_kr hI2)
    · rw [if_pos e, if_pos e2, gBi_e, gB1_e, g0] at hs hf
      obtain ⟨q1, q2, q3⟩ := gB0_c g0
      have hl2 := hx.lt (a := a + 1 + 1 + 1 + 1) (by omega)
      have hcc := hx.le (a + 1 + 1 + 1)
      have hI3 := IN_lt3 (x := nI (tx (a + 1 + 1 + 1))) hI2
      have hl0 : (ltR (boR r l (r.letters (3 * n))) (3 * n) (nI (tx (a + 1 + 1 + 1)))).letters (3 * n) = nI (tx (a + 1 + 1 + 1)) := if_pos rfl
      refine hQ' 1 _ (fun F => X_1 hJ (by omega) (fun x3 x4 x5 => ?_) F)
      refine hE (d + 1 + 1) (a + 1 + 1 + 1 + 1 + 1) mm (some n) (ltR (boR r l (r.letters (3 * n))) (3 * n) (nI (tx (a + 1 + 1 + 1)))) x3 x4 x5 hx ht (by omega) (by omega) hfd (by omega) hI3.2.1 (IN_hu hI3 (by omega)) (fun t2 a' e3 r' w3 w4 g1 g2 g3 g4 g5 g6 g7 g9 g10 g11 => ?_) (fun a' d' r' g1 g2 g3 => ?_)
      · have g1 : gEx tx f (d + 2) (a + 1 + 1 + 1 + 1 + 1) = .inl (t2, a') := g1
        rw [g1] at hs hf
        obtain ⟨i1, i2, i3⟩ := IN_next (by omega) hI3 g2 g3 g7 g4 g5 g6
        have hkx := kr_text g2.1
        rw [hlt3] at i1
        rw [List.cons_append] at i1
        exact ih a' mm e3 (tx (a + 1 + 1 + 1)) (ks ++ [(t, nI c)]) (bs ++ [c]) t2 r' w3 w4 (by rw [hkx.1]; exact hx) (by rw [hkx.2]; exact ht) g9 g10 i1 (PO_app g2 hP g11 (by omega)) ((i3 (3 * n) (by omega)).trans hl0) (by omega) hmap2 hbs2 (by rw [List.length_append, List.length_cons, List.length_nil]; omega) hs hf
      · have g1 : gEx tx f (d + 2) (a + 1 + 1 + 1 + 1 + 1) = .inr a' := g1
        rw [g1] at hf
        exact hf a' rfl d' r' g2 (kr_tr (IN_kr hI3) g3)
    · rw [if_pos e, if_pos e2, gBi_e, gB1_e, g0] at hf
      refine hQ' (-1) _ (fun F => X_f ?_ F)
      exact hf a' rfl _ _ g1 (kr_tr (IN_kr hI) g2)
    · have n32 : ¬ tx (a + 1) = 32 := fun q => w ⟨by omega, q⟩
      rw [if_pos e, if_neg n32] at hs
      have hl2 := hx.lt (a := a) (by omega)
      have hl3 := hx.lt (a := a + 1) (by omega)
      have e3 : gCl tx (fiN rc h (ks ++ [(t, nI c)]) (bs ++ [c])) (a + 1) = .inl (fiN rc h (ks ++ [(t, nI c)]) (bs ++ [c]), a + 1 + 1) := if_pos e2
      refine hQ' 0 _ (fun F => X_0 hJ (by omega) hI2.2.2.2.2.1 ?_ F)
      rw [hlt3] at hI2 ⊢
      exact hs _ _ e3 mm (boR r l (nI c)) w3 w4 hI2.1 hI2.2.1 hI2.2.2.2.2.1 hI2.2.2.2.2.2.1 hI2.2.2.2.2.2.2 (IN_cR hI2 (cT_bi hI2.2.2.2.1 (by rw [List.length_append, List.length_cons, List.length_nil]; omega) (by rw [List.length_append, List.length_cons, List.length_nil]; omega) hmap2 hbs2)) (by omega) (by omega) (PO_own (by rw [hI2.2.2.2.1]; cases rc <;> decide) hP (by omega))
    · have n32 : ¬ tx (a + 1) = 32 := fun q => w ⟨by omega, q⟩
      rw [if_pos e, if_neg n32] at hf
      have hl2 := hx.lt (a := a) (by omega)
      have e3 : gCl tx (fiN rc h (ks ++ [(t, nI c)]) (bs ++ [c])) (a + 1) = .inr (a + 1) := if_neg e2
      refine hQ' (-1) _ (fun F => X_f ?_ F)
      exact hf (a + 1) e3 _ _ (by omega) (IN_kr hI2)
theorem X_let (hJ : ∀ pc ls st h, mj_sg (mj_Mt gT cst gnw (m + 5)) cst gnw (mj_hd (mj_off kO_R_read) kH_R_read) kC_R_read J Q 400 true pc ls st h → J pc ls st h) (hE : EXP tx len b0 b1 op tl s Q J f) {rc : Bool} {h : Kd} (hd : d + 1 ≤ 9) (hfd : 10 ≤ f + (d + 1)) {w3 w4 : Int32} (hx : txOK r.text len tx) (ht : r.typed = nI len) (ha : a ≤ len) (hma : mm ≤ a) (hI : IN tx f r0 r n u [h] l mm (if rc = true then 7 else 6)) (hP : PO r.kind r.at_ (n + 1) mm a0 a)
    (hs : ∀ t' a', (if tx a = 32 then gBi tx (gEx tx f (d + 2)) rc (d + 1) (fiN rc h) 2 (a + 1) [] [] else .inr a) = .inl (t', a') → SUC tx f b0 b1 op tl s J r0 n d len u t' a' a0) (hf : ∀ a', (if tx a = 32 then gBi tx (gEx tx f (d + 2)) rc (d + 1) (fiN rc h) 2 (a + 1) [] [] else .inr a) = .inr a' → FAI b0 b1 op tl s Q r0 len a') :
    J 35 [some (.ref 27), some (.int (nI n)), some (.int (nI (mm - 1))), some (.int w3), some (.int w4), some (.int 0)] [] (cW s (rW (pdR r a (d + 1)) tl), b0, b1, op) := by
  have h96 := hx.1
  have hlt := IN_lt hI
  have hl1 : n + 1 = l := hI.2.2.1.1.1
  refine X_go hJ (by omega) (fun Q' hQ' => ?_)
  refine R_go6a (rc := rc) (i1 := n + 1) hx ht ha hd (by omega) hI.2.2.2.1 hI.2.2.1.2.2.2.2 hI.2.2.1.2.2.1 (by omega) (by rw [hl1]; exact hI.2.2.1.2.1) (fun e g0 => ?_) (fun a' r' d' e g0 g1 g2 => ?_) (fun e => ?_)
  · rw [if_pos e, gBi_e, gB1_e, g0] at hs hf
    obtain ⟨q1, q2, q3⟩ := gB0_c g0
    have hl2 := hx.lt (a := a + 1 + 1 + 1) (by omega)
    have hcc := hx.le (a + 1 + 1)
    have hI3 := IN_lt3 (x := nI (tx (a + 1 + 1))) hI
    have hl0 : (ltR r (3 * n) (nI (tx (a + 1 + 1)))).letters (3 * n) = nI (tx (a + 1 + 1)) := if_pos rfl
    refine hQ' 1 _ (fun F => X_1 hJ (by omega) (fun x3 x4 x5 => ?_) F)
    refine hE (d + 1 + 1) (a + 1 + 1 + 1 + 1) mm (some n) (ltR r (3 * n) (nI (tx (a + 1 + 1)))) x3 x4 x5 hx ht (by omega) (by omega) (by omega) (by omega) hI3.2.1 (IN_hu hI3 (by omega)) (fun t2 a' e3 r' w3 w4 g1 g2 g3 g4 g5 g6 g7 g9 g10 g11 => ?_) (fun a' d' r' g1 g2 g3 => ?_)
    · have g1 : gEx tx f (d + 2) (a + 1 + 1 + 1 + 1) = .inl (t2, a') := g1
      rw [g1] at hs hf
      obtain ⟨i1, i2, i3⟩ := IN_next (by omega) hI3 g2 g3 g7 g4 g5 g6
      have hkx := kr_text g2.1
      exact X_bi hJ hE hd (by omega) 2 a' mm e3 (tx (a + 1 + 1)) [] [] t2 r' w3 w4 (by rw [hkx.1]; exact hx) (by rw [hkx.2]; exact ht) g9 g10 i1 (PO_app g2 hP g11 (by omega)) ((i3 (3 * n) (by omega)).trans hl0) (by omega) rfl (fun c hc => absurd hc List.not_mem_nil) rfl hs hf
    · have g1 : gEx tx f (d + 2) (a + 1 + 1 + 1 + 1) = .inr a' := g1
      rw [g1] at hf
      exact hf a' rfl d' r' g2 (kr_tr (IN_kr hI3) g3)
  · rw [if_pos e, gBi_e, gB1_e, g0] at hf
    refine hQ' (-1) _ (fun F => X_f ?_ F)
    exact hf a' rfl _ _ g1 (kr_tr (IN_kr hI) g2)
  · rw [if_neg e] at hf
    refine hQ' (-1) _ (fun F => X_f ?_ F)
    exact hf a rfl _ _ ha (IN_kr hI)
end RD8
