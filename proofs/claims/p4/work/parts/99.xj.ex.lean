def PO (kd at_ : Nat → Int32) (n e a a' : Nat) : Prop := a ≤ a' ∧ (∀ i, n ≤ i → i < e → kd i = 1 → a ≤ pn at_ i ∧ pn at_ i < a') ∧ (∀ i j, n ≤ i → i < j → j < e → kd i = 1 → kd j = 1 → pn at_ i < pn at_ j)
theorem PO_leaf {kd at_ : Nat → Int32} {n a a' : Nat} (h : at_ n = nI a) (ha : a ≤ 96) (h1 : a < a') : PO kd at_ n (n + 1) a a' := by
  refine ⟨by omega, fun i q1 q2 _ => ?_, fun i j q1 q2 q3 _ _ => by omega⟩
  obtain rfl : i = n := by omega
  unfold pn
  rw [h, nI_clamp (by omega)]
  exact ⟨Nat.le_refl _, h1⟩
theorem PO_up {kd at_ : Nat → Int32} {n e a b a' : Nat} (h : PO kd at_ n e b a') (hb : a ≤ b) : PO kd at_ n e a a' := ⟨Nat.le_trans hb h.1, fun i q1 q2 q3 => ⟨Nat.le_trans hb (h.2.1 i q1 q2 q3).1, (h.2.1 i q1 q2 q3).2⟩, h.2.2⟩
theorem PO_own {kd at_ : Nat → Int32} {n e a0 a a2 : Nat} (hk : ¬ kd n = 1) (h : PO kd at_ (n + 1) e a0 a) (ha : a ≤ a2) : PO kd at_ n e a0 a2 := by
  obtain ⟨h0, h1, h2⟩ := h
  refine ⟨by omega, fun i q1 q2 q3 => ?_, fun i j q1 q2 q3 q4 q5 => ?_⟩
  · have w : ¬ i = n := fun w => hk (by rw [← w]; exact q3)
    have := h1 i (by omega) q2 q3
    omega
  · have w : ¬ i = n := fun w => hk (by rw [← w]; exact q4)
    exact h2 i j (by omega) q2 q3 q4 q5
theorem PO_app {r r' : rM} {n mm e a0 a b a' : Nat} {u : Option Nat} (g : FM r r' mm u) (h1 : PO r.kind r.at_ (n + 1) mm a0 a) (h2 : PO r'.kind r'.at_ mm e b a') (hb : a ≤ b) : PO r'.kind r'.at_ (n + 1) e a0 a' := by
  have hk : ∀ i, i < mm → r'.kind i = r.kind i ∧ pn r'.at_ i = pn r.at_ i := fun i hi => by
    obtain ⟨w1, -, w2, -⟩ := g.2.1 i hi
    refine ⟨w1, ?_⟩
    unfold pn
    rw [w2]
  obtain ⟨p0, p1, p2⟩ := h1
  obtain ⟨s0, s1, s2⟩ := h2
  refine ⟨by omega, fun i q1 q2 q3 => ?_, fun i j q1 q2 q3 q4 q5 => ?_⟩
  · rcases Nat.lt_or_ge i mm with w | w
    · obtain ⟨k1, k2⟩ := hk i w
      rw [k1] at q3
      have := p1 i q1 w q3
      omega
    · have := s1 i w q2 q3
      omega
  · rcases Nat.lt_or_ge i mm with w | w
    · obtain ⟨k1, k2⟩ := hk i w
      rw [k1] at q4
      have e1 := p1 i q1 w q4
      rcases Nat.lt_or_ge j mm with v | v
      · obtain ⟨k3, k4⟩ := hk j v
        rw [k3] at q5
        have := p2 i j q1 q2 v q4 q5
        omega
      · have := s1 j v q3 q5
        omega
    · exact s2 i j w q2 q3 q4 q5
def EXP (tx : Nat → Nat) (len b0 b1 : Nat) (op : Bool) (tl : List mj_O) (s : cS) (Q : mj_R → Prop) (J : Nat → mj_L → List Value → mj_H → Prop) (f : Nat) : Prop := ∀ (d a n : Nat) (u : Option Nat) (r : rM) (x3 x4 x5 : Option Value), txOK r.text len tx → r.typed = nI len → a ≤ len → d ≤ 9 → 10 ≤ f + d → n ≤ a → r.parts = nI n → (∀ v, u = some v → v < n ∧ (r.first v < 0 ∨ ∃ l, l < n ∧ r.last v = nI l ∧ ¬ r.first v < 0)) →
  (∀ (t : Tau) (a' e : Nat) (r' : rM) (w3 w4 : Int32), gEx tx f d a = .inl (t, a') → FM r r' n u → r'.parts = nI e → r'.parent n = oV u → r'.next n = -1 → r'.bound n = 0 → cR tx r' f n e t → a' ≤ len → e ≤ a' → PO r'.kind r'.at_ n e a a' → J 35 [some (.ref 27), some (.int (oV u)), some (.int (nI (e - 1))), some (.int w3), some (.int w4), some (.int 0)] [] (cW s (rW (pdR r' a' d) tl), b0, b1, op)) →
  (∀ (a' d' : Nat) (r' : rM), gEx tx f d a = .inr a' → a' ≤ len → kr r r' → Q (.inl (some (.int 0)), (cW s (rW (pdR r' a' d') tl), b0, b1, op))) →
  J 13 [some (.ref 27), some (.int (oV u)), some (.int (nI n)), x3, x4, x5] [] (cW s (rW (pdR r a d) tl), b0, b1, op)
section RD7
variable {cst : Nat → Option (Nat × (Nat → Int32))} {m b0 b1 : Nat} {op : Bool} {tl : List mj_O} {Q : mj_R → Prop} {s : cS} {r0 r r1 : rM} {a a0 d n len mm l f : Nat} {tx : Nat → Nat} {J : Nat → mj_L → List Value → mj_H → Prop} {u : Option Nat} {ks : List Kd} {kd : Int32}
set_option maxRecDepth 10000
theorem X_1 {W : mj_H} {w3 w4 : Int32} (hJ : ∀ pc ls st h, mj_sg (mj_Mt gT cst gnw (m + 5)) cst gnw (mj_hd (mj_off kO_R_read) kH_R_read) kC_R_read J Q 400 true pc ls st h → J pc ls st h) (hm : 1 ≤ mm) (h : ∀ x3 x4 x5, J 13 [some (.ref 27), some (.int (nI n)), some (.int (nI mm)), x3, x4, x5] [] W) (F : Nat) :
    mj_sg (mj_Mt gT cst gnw (m + 5)) cst gnw (mj_hd (mj_off kO_R_read) kH_R_read) kC_R_read J Q (F + 20) false 51 [some (.ref 27), some (.int (nI n)), some (.int (nI (mm - 1))), some (.int w3), some (.int w4), some (.int 0)] [.int 1] W := by
  refine And.intro (fun _ => ?_) (fun (g : ¬ (0 : Int32) ≤ 1) => absurd (by decide) g)
  refine And.intro (fun _ => ?_) (fun (g : (1 : Int32) = 0) => absurd g (by decide))
  refine hJ _ _ _ _ ?_
  refine And.intro (fun _ => ?_) (fun (g : (1 : Int32) = 0) => absurd g (by decide))
  have key : ∀ x : Int32, x = nI mm → J 13 [some (.ref 27), some (.int (nI n)), some (.int x), some (.int w3), some (.int w4), some (.int 1)] [] W := by
    rintro x rfl
    exact h _ _ _
  refine key _ ?_
  have e := nI_succ (mm - 1)
  rw [show mm - 1 + 1 = mm by omega] at e
  exact e.symm
theorem X_0 {x2 : Int32} {w3 w4 : Int32} (hJ : ∀ pc ls st h, mj_sg (mj_Mt gT cst gnw (m + 5)) cst gnw (mj_hd (mj_off kO_R_read) kH_R_read) kC_R_read J Q 400 true pc ls st h → J pc ls st h) (hn : n < 100) (hp : r.parent n = oV u) (h : J 35 [some (.ref 27), some (.int (oV u)), some (.int x2), some (.int w3), some (.int w4), some (.int 0)] [] (cW s (rW (pdR r a d) tl), b0, b1, op)) (F : Nat) :
    mj_sg (mj_Mt gT cst gnw (m + 5)) cst gnw (mj_hd (mj_off kO_R_read) kH_R_read) kC_R_read J Q (F + 20) false 51 [some (.ref 27), some (.int (nI n)), some (.int x2), some (.int w3), some (.int w4), some (.int 0)] [.int 0] (cW s (rW (pdR r a d) tl), b0, b1, op) := by
  refine And.intro (fun _ => ?_) (fun (g : ¬ (0 : Int32) ≤ 0) => absurd (by decide) g)
  refine And.intro (fun (g : ¬ (0 : Int32) = 0) => absurd rfl g) (fun _ => ?_)
  refine And.intro (vp_in_nI hn (by decide)) ?_
  have key : ∀ x : Int32, x = oV u → J 35 [some (.ref 27), some (.int x), some (.int x2), some (.int w3), some (.int w4), some (.int 0)] [] (cW s (rW (pdR r a d) tl), b0, b1, op) := by
    rintro x rfl
    exact h
  refine key _ ?_
  show r.parent (nI n).toNatClampNeg = oV u
  rw [nI_clamp (by omega)]
  exact hp
theorem X_f {W : mj_H} {x2 : Int32} {w3 w4 : Int32} (h : Q (.inl (some (.int 0)), W)) (F : Nat) :
    mj_sg (mj_Mt gT cst gnw (m + 5)) cst gnw (mj_hd (mj_off kO_R_read) kH_R_read) kC_R_read J Q (F + 20) false 51 [some (.ref 27), some (.int (nI n)), some (.int x2), some (.int w3), some (.int w4), some (.int 0)] [.int (-1)] W := by
  refine And.intro (fun (g : (0 : Int32) ≤ -1) => absurd g (by decide)) (fun _ => ?_)
  exact And.intro (Or.inl rfl) h
theorem X_go {x2 : Int32} {w3 w4 : Int32} (hJ : ∀ pc ls st h, mj_sg (mj_Mt gT cst gnw (m + 5)) cst gnw (mj_hd (mj_off kO_R_read) kH_R_read) kC_R_read J Q 400 true pc ls st h → J pc ls st h) (hn : n < 100) (h : ∀ Q' : mj_R → Prop, (∀ (x : Int32) (W' : mj_H), (∀ F : Nat, mj_sg (mj_Mt gT cst gnw (m + 5)) cst gnw (mj_hd (mj_off kO_R_read) kH_R_read) kC_R_read J Q (F + 20) false 51 [some (.ref 27), some (.int (nI n)), some (.int x2), some (.int w3), some (.int w4), some (.int 0)] [.int x] W') → Q' (.inl (some (.int x)), W')) → mj_Mt gT cst gnw (m + 5) y_R_goOn [.ref 27, .int (nI n)] (cW s (rW (pdR r a d) tl), b0, b1, op) Q') : J 35 [some (.ref 27), some (.int (nI n)), some (.int x2), some (.int w3), some (.int w4), some (.int 0)] [] (cW s (rW (pdR r a d) tl), b0, b1, op) := by
  refine hJ _ _ _ _ ?_
  refine And.intro (fun (g : ¬ (0 : Int32) = 0) => absurd rfl g) (fun _ => ?_)
  refine And.intro (fun _ => ?_) (fun (g : ¬ (0 : Int32) ≤ nI n) => absurd (nI_le (a := 0) (Nat.zero_le _) (by omega)) g)
  refine h _ (fun x W' hh => ?_)
  exact hh _
theorem IN_kr {tx : Nat → Nat} (h : IN tx f r0 r n u ks l mm kd) : kr r0 r := h.1.1
theorem IN_hu {tx : Nat → Nat} (h : IN tx f r0 r n u ks l mm kd) (hm : mm ≤ 100) : ∀ v, (some n) = some v → v < mm ∧ (r.first v < 0 ∨ ∃ l, l < mm ∧ r.last v = nI l ∧ ¬ r.first v < 0) := by
  intro v hv
  cases hv
  have := IN_lt h
  refine ⟨by omega, Or.inr ⟨l, this.2, h.2.2.1.2.2.2.1, ?_⟩⟩
  rw [h.2.2.1.2.2.1]
  exact nI_pos (by omega)
def SUC (tx : Nat → Nat) (f b0 b1 : Nat) (op : Bool) (tl : List mj_O) (s : cS) (J : Nat → mj_L → List Value → mj_H → Prop) (r0 : rM) (n d len : Nat) (u : Option Nat) (t : Tau) (a' a0 : Nat) : Prop := ∀ (e : Nat) (r' : rM) (w3 w4 : Int32), FM r0 r' n u → r'.parts = nI e → r'.parent n = oV u → r'.next n = -1 → r'.bound n = 0 → cR tx r' (f + 1) n e t → a' ≤ len → e ≤ a' → PO r'.kind r'.at_ n e a0 a' → J 35 [some (.ref 27), some (.int (oV u)), some (.int (nI (e - 1))), some (.int w3), some (.int w4), some (.int 0)] [] (cW s (rW (pdR r' a' d) tl), b0, b1, op)
def FAI (b0 b1 : Nat) (op : Bool) (tl : List mj_O) (s : cS) (Q : mj_R → Prop) (r0 : rM) (len a' : Nat) : Prop := ∀ (d' : Nat) (r' : rM), a' ≤ len → kr r0 r' → Q (.inl (some (.int 0)), (cW s (rW (pdR r' a' d') tl), b0, b1, op))
theorem X_sign (hJ : ∀ pc ls st h, mj_sg (mj_Mt gT cst gnw (m + 5)) cst gnw (mj_hd (mj_off kO_R_read) kH_R_read) kC_R_read J Q 400 true pc ls st h → J pc ls st h) (hE : EXP tx len b0 b1 op tl s Q J f) {c : Nat} (hc : c < 256) (hcp : 0 < ar c) (hd : d + 1 ≤ 9) (hfd : 10 ≤ f + (d + 1)) :
    ∀ (j a l mm : Nat) (ks : List Kd) (r : rM) (w3 w4 : Int32), txOK r.text len tx → r.typed = nI len → a ≤ len → mm ≤ a → IN tx f r0 r n u ks l mm 3 → PO r.kind r.at_ (n + 1) mm a0 a → r.value n = nI c → ks.length + j = ar c → (∀ t a', gAr tx (gEx tx f (d + 1)) c j a ks = .inl (t, a') → SUC tx f b0 b1 op tl s J r0 n d len u t a' a0) → (∀ a', gAr tx (gEx tx f (d + 1)) c j a ks = .inr a' → FAI b0 b1 op tl s Q r0 len a') →
      J 35 [some (.ref 27), some (.int (nI n)), some (.int (nI (mm - 1))), some (.int w3), some (.int w4), some (.int 0)] [] (cW s (rW (pdR r a (d + 1)) tl), b0, b1, op) := by
  have ha3 := ar_le c
  intro j
  induction j with
  | zero =>
    intro a l mm ks r w3 w4 hx ht ha hma hI hP hv hk hs hf
    have h96 := hx.1
    have hlt := IN_lt hI
    refine X_go hJ (by omega) (fun Q' hQ' => ?_)
    have e0 : gAr tx (gEx tx f (d + 1)) c 0 a ks = gCl tx (sgT c ks) a := rfl
    rw [e0] at hs hf
    unfold gCl at hs hf
    refine R_go3 (k := ks.length) (c := c) (by omega) hI.2.2.2.1 hv hc hI.2.2.1.2.2.2.2 (by omega) hx ht (by omega) (fun w => by omega) (fun w => by omega) (fun _ e => ?_) (fun _ e => ?_)
    · rw [if_pos e] at hs
      have hlt2 := hx.lt (a := a) (by omega)
      refine hQ' 0 _ (fun F => X_0 hJ (by omega) hI.2.2.2.2.1 ?_ F)
      exact hs _ _ rfl mm r w3 w4 hI.1 hI.2.1 hI.2.2.2.2.1 hI.2.2.2.2.2.1 hI.2.2.2.2.2.2 (IN_cR hI (Or.inl ⟨hI.2.2.2.1, c, hc, hv, hcp, by omega, rfl⟩)) (by omega) (by omega) (PO_own (by rw [hI.2.2.2.1]; decide) hP (by omega))
    · rw [if_neg e] at hf
      refine hQ' (-1) _ (fun F => X_f ?_ F)
      exact hf a rfl _ _ ha (IN_kr hI)
  | succ j ih =>
    intro a l mm ks r w3 w4 hx ht ha hma hI hP hv hk hs hf
    have h96 := hx.1
    have hlt := IN_lt hI
    refine X_go hJ (by omega) (fun Q' hQ' => ?_)
    have e0 : gAr tx (gEx tx f (d + 1)) c (j + 1) a ks = if tx a = 32 then (match gEx tx f (d + 1) (a + 1) with | .inr e => .inr e | .inl (t, a2) => gAr tx (gEx tx f (d + 1)) c j a2 (ks ++ [(t, 0)])) else .inr a := rfl
    rw [e0] at hs hf
    refine R_go3 (k := ks.length) (c := c) (by omega) hI.2.2.2.1 hv hc hI.2.2.1.2.2.2.2 (by omega) hx ht (by omega) (fun _ e => ?_) (fun _ e => ?_) (fun w => absurd (by omega) w) (fun w => absurd (by omega) w)
    · rw [if_pos e] at hs hf
      have hlt2 := hx.lt (a := a) (by omega)
      refine hQ' 1 _ (fun F => X_1 hJ (by omega) (fun x3 x4 x5 => ?_) F)
      refine hE (d + 1) (a + 1) mm (some n) r x3 x4 x5 hx ht (by omega) hd hfd (by omega) hI.2.1 (IN_hu hI (by omega)) (fun t a' e2 r' w3 w4 g1 g2 g3 g4 g5 g6 g7 g9 g10 g11 => ?_) (fun a' d' r' g1 g2 g3 => ?_)
      · rw [g1] at hs hf
        obtain ⟨i1, i2, i3⟩ := IN_next (by omega) hI g2 g3 g7 g4 g5 g6
        have hkx := kr_text g2.1
        exact ih a' mm e2 (ks ++ [(t, 0)]) r' w3 w4 (by rw [hkx.1]; exact hx) (by rw [hkx.2]; exact ht) g9 g10 i1 (PO_app g2 hP g11 (by omega)) (i2.trans hv) (by rw [List.length_append, List.length_cons, List.length_nil]; omega) hs hf
      · rw [g1] at hf
        exact hf a' rfl d' r' g2 (kr_tr (IN_kr hI) g3)
    · rw [if_neg e] at hf
      refine hQ' (-1) _ (fun F => X_f ?_ F)
      exact hf a rfl _ _ ha (IN_kr hI)
theorem X_call (hJ : ∀ pc ls st h, mj_sg (mj_Mt gT cst gnw (m + 5)) cst gnw (mj_hd (mj_off kO_R_read) kH_R_read) kC_R_read J Q 400 true pc ls st h → J pc ls st h) (hE : EXP tx len b0 b1 op tl s Q J f) {h : Kd} (hd : d + 1 ≤ 9) (hfd : 10 ≤ f + (d + 1)) :
    ∀ (j a l mm : Nat) (ks : List Kd) (r : rM) (w3 w4 : Int32), txOK r.text len tx → r.typed = nI len → a ≤ len → mm ≤ a → IN tx f r0 r n u (h :: ks) l mm 4 → PO r.kind r.at_ (n + 1) mm a0 a → ks.length + j = 3 → (∀ t a', gMo tx (gEx tx f (d + 1)) h j a ks = .inl (t, a') → SUC tx f b0 b1 op tl s J r0 n d len u t a' a0) → (∀ a', gMo tx (gEx tx f (d + 1)) h j a ks = .inr a' → FAI b0 b1 op tl s Q r0 len a') →
      J 35 [some (.ref 27), some (.int (nI n)), some (.int (nI (mm - 1))), some (.int w3), some (.int w4), some (.int 0)] [] (cW s (rW (pdR r a (d + 1)) tl), b0, b1, op) := by
  intro j
  induction j with
  | zero =>
    intro a l mm ks r w3 w4 hx ht ha hma hI hP hk hs hf
    have h96 := hx.1
    have hlt := IN_lt hI
    have hkl : (h :: ks).length = ks.length + 1 := rfl
    refine X_go hJ (by omega) (fun Q' hQ' => ?_)
    have e0 : gMo tx (gEx tx f (d + 1)) h 0 a ks = gCl tx (caT h ks) a := rfl
    rw [e0] at hs hf
    unfold gCl at hs hf
    refine R_go4 (k := ks.length + 1) (by omega) hI.2.2.2.1 hI.2.2.1.2.2.2.2 (by omega) hx ht (by omega) (fun w => by omega) (fun _ e => ?_) (fun _ e => ?_)
    · rw [if_pos e] at hs
      have hlt2 := hx.lt (a := a) (by omega)
      refine hQ' 0 _ (fun F => X_0 hJ (by omega) hI.2.2.2.2.1 ?_ F)
      exact hs _ _ rfl mm r w3 w4 hI.1 hI.2.1 hI.2.2.2.2.1 hI.2.2.2.2.2.1 hI.2.2.2.2.2.2 (IN_cR hI (Or.inr (Or.inl ⟨hI.2.2.2.1, h, ks, rfl, by omega, rfl⟩))) (by omega) (by omega) (PO_own (by rw [hI.2.2.2.1]; decide) hP (by omega))
    · rw [if_neg e] at hf
      refine hQ' (-1) _ (fun F => X_f ?_ F)
      exact hf a rfl _ _ ha (IN_kr hI)
  | succ j ih =>
    intro a l mm ks r w3 w4 hx ht ha hma hI hP hk hs hf
    have h96 := hx.1
    have hlt := IN_lt hI
    refine X_go hJ (by omega) (fun Q' hQ' => ?_)
    have e0 : gMo tx (gEx tx f (d + 1)) h (j + 1) a ks = if tx a = 32 then (match gEx tx f (d + 1) (a + 1) with | .inr e => .inr e | .inl (t, a2) => gMo tx (gEx tx f (d + 1)) h j a2 (ks ++ [(t, 0)])) else gCl tx (caT h ks) a := rfl
    rw [e0] at hs hf
    refine R_go4 (k := ks.length + 1) (by omega) hI.2.2.2.1 hI.2.2.1.2.2.2.2 (by omega) hx ht (by omega) (fun _ e => ?_) (fun w e => ?_) (fun w e => ?_)
    · rw [if_pos e] at hs hf
      have hlt2 := hx.lt (a := a) (by omega)
      refine hQ' 1 _ (fun F => X_1 hJ (by omega) (fun x3 x4 x5 => ?_) F)
      refine hE (d + 1) (a + 1) mm (some n) r x3 x4 x5 hx ht (by omega) hd hfd (by omega) hI.2.1 (IN_hu hI (by omega)) (fun t a' e2 r' w3 w4 g1 g2 g3 g4 g5 g6 g7 g9 g10 g11 => ?_) (fun a' d' r' g1 g2 g3 => ?_)
      · rw [g1] at hs hf
        obtain ⟨i1, i2, i3⟩ := IN_next (by omega) hI g2 g3 g7 g4 g5 g6
        have hkx := kr_text g2.1
        exact ih a' mm e2 (ks ++ [(t, 0)]) r' w3 w4 (by rw [hkx.1]; exact hx) (by rw [hkx.2]; exact ht) g9 g10 (by have q := i1; rw [List.cons_append] at q; exact q) (PO_app g2 hP g11 (by omega)) (by rw [List.length_append, List.length_cons, List.length_nil]; omega) hs hf
      · rw [g1] at hf
        exact hf a' rfl d' r' g2 (kr_tr (IN_kr hI) g3)
    · have n32 : ¬ tx a = 32 := fun q => w ⟨by omega, q⟩
      rw [if_neg n32] at hs
      unfold gCl at hs
      rw [if_pos e] at hs
      have hlt2 := hx.lt (a := a) (by omega)
      refine hQ' 0 _ (fun F => X_0 hJ (by omega) hI.2.2.2.2.1 ?_ F)
      exact hs _ _ rfl mm r w3 w4 hI.1 hI.2.1 hI.2.2.2.2.1 hI.2.2.2.2.2.1 hI.2.2.2.2.2.2 (IN_cR hI (Or.inr (Or.inl ⟨hI.2.2.2.1, h, ks, rfl, by omega, rfl⟩))) (by omega) (by omega) (PO_own (by rw [hI.2.2.2.1]; decide) hP (by omega))
    · have n32 : ¬ tx a = 32 := fun q => w ⟨by omega, q⟩
      rw [if_neg n32] at hf
      unfold gCl at hf
      rw [if_neg e] at hf
      refine hQ' (-1) _ (fun F => X_f ?_ F)
      exact hf a rfl _ _ ha (IN_kr hI)
end RD7
