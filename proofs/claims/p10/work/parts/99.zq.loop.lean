theorem nI_sub3 {L i : Nat} (hL : L ≤ 2000) (hi : i ≤ 2000) (g : ¬ Int32.ofNat L - Int32.ofInt 3 < nI i) : i + 3 ≤ L := by
  rcases Nat.lt_or_ge L (i + 3) with h | h
  · refine absurd ?_ g
    rw [Int32.lt_iff_toInt_lt, Int32.toInt_sub]
    have e1 : (Int32.ofNat L).toInt = (L : Int) := Int32.toInt_ofNat_of_lt (by omega)
    have e2 : (nI i).toInt = (i : Int) := Int32.toInt_ofNat_of_lt (by omega)
    have e3 : (Int32.ofInt 3).toInt = 3 := by decide
    rw [e1, e2, e3, Int.bmod_eq_of_le (by omega) (by omega)]
    omega
  · exact h
def bgt (n : Nat) (mode : Int32) (b0 b1 : Nat) : Prop := (200 * n ≤ b0 ∧ 14000 * n ≤ b1) ∧ (mode = 1 → 200 * (n + 1) ≤ b0 ∧ 14000 * (n + 1) ≤ b1)
theorem bgt_to {n b0 b1 b0' b1' : Nat} {mode mode' : Int32} (h : bgt (n + 1) mode b0 b1) (h0 : b0 ≤ b0' + 2) (h1 : b1 ≤ b1' + 12) (hm : mode' = 1 → mode' = mode) : bgt n mode' b0' b1' := by
  obtain ⟨⟨a1, a2⟩, a3⟩ := h
  refine ⟨⟨by omega, by omega⟩, fun e => ?_⟩
  have := a3 ((hm e).symm.trans e)
  omega
def JV (z len : Nat) (tx : Nat → Nat) (c : Nat) (σ : KS) (r : rM) : Prop := RY len tx r ∧ r.z = z ∧ JNT z c σ r
theorem JV_ke {z len c : Nat} {tx : Nat → Nat} {σ σ' : KS} {r r' : rM} (h : JV z len tx c σ r) (hk : ke r r') (hI : RMI r') (hj : JNT z c σ' r') : JV z len tx c σ' r' := by
  have hk0 := hk
  obtain ⟨q0, -⟩ := hk
  exact ⟨RY_ke h.1 hk0 hI, q0.trans h.2.1, hj⟩
theorem JV_th {z len c : Nat} {tx : Nat → Nat} {σ : KS} {r : rM} {x : Int32} (h : JV z len tx c σ r) : JV z len tx c σ (thR r x) := h
section LIV
variable {m b0 b1 z len c : Nat} {tx : Nat → Nat} {σ : KS} {op : Bool} {Q : mj_R → Prop} {s : cS} {r : rM} {tl : List mj_O} {cst : Nat → Option (Nat × (Nat → Int32))}
set_option maxRecDepth 10000
theorem JY_write {w : Int64} (h : JV z len tx c σ r) (h1 : wR w len = none → ∀ r', JV z len tx c σ r' → Q (.inl (some (.int 0)), (cW s (rW r' tl), b0, b1, op))) (h2 : ∀ k r', wR w len = some k → JV z k (txW w len k tx) c σ r' → Q (.inl (some (.int 1)), (cW s (rW r' tl), b0, b1, op))) : mj_Mt gT cst gnw (m + 1) y_R_write [.ref 27, .long w] (cW s (rW r tl), b0, b1, op) Q := by
  refine r_write h.1.2.1.1 h.1.2.2 (fun e => h1 e _ ?_) (fun k e => h2 k _ e ?_)
  · exact h
  · exact ⟨⟨h.1.1, txW_ok h.1.2.1 e, rfl⟩, h.2⟩
end LIV
theorem JNT_c0 {z c : Nat} {σ : KS} {r : rM} (h : JNT z c σ r) (e : c = 0) : r.program = 0 := by
  rcases h.2 with ⟨-, w, -⟩ | ⟨w, -⟩ | ⟨w, -⟩
  · exact w
  · omega
  · omega
section LLP
variable {m : Nat} {xs : List Int32}
set_option maxRecDepth 10000
set_option maxHeartbeats 8000000 in
theorem L_loop (hx : xs.length ≤ 1537) {J : Nat → mj_L → List Value → mj_H → Prop} (hJ : ∀ pc ls st h, mj_sg (mj_Mt gT (law_cst xs) gnw (m + 130)) (law_cst xs) gnw (mj_hd (mj_off oM_0) hM_0) cM_0 J (fun r => r.1 = .inl (some (.int 1))) 400 true pc ls st h → J pc ls st h) :
    ∀ (n i : Nat) (x5 x6 : Option Value) (s : cS) (r : rM) (f : Nat → Int64) (b0 b1 : Nat) (op : Bool) (z len : Nat) (tx : Nat → Nat) (mode : Int32) (c : Nat) (err : Int32) (H T : Nat → Vl) (S E C D : Vl) (fr : Nat → Nat) (fq nn : Nat) (fb : Nat → Nat), xs.length ≤ i + 3 * n → i ≤ 1600 → CY z len tx mode c err H T S E C D fr fq nn fb s → JV z len tx c (H, T, (S, E, C, D), fr, fq, mode) r → DSP H T S mode nn fb → bgt n mode b0 b1 →
      J 19 [some (.ref 1001), some (.ref 0), some (.ref 27), some (.ref 54), some (.int (nI i)), x5, x6] [] (cW s (rW r [oJ 1 f]), b0, b1, op) := by
  intro n
  induction n with
  | zero =>
    intro i x5 x6 s r f b0 b1 op z len tx mode c err H T S E C D fr fq nn fb hi hi2 hc hr hds hb
    refine hJ _ _ _ _ ?_
    refine And.intro (fun _ => And.intro (Or.inr rfl) rfl) (fun g => ?_)
    have := nI_sub3 (by omega) (by omega) g
    omega
  | succ n ih =>
    intro i x5 x6 s r f b0 b1 op z len tx mode c err H T S E C D fr fq nn fb hi hi2 hc hr hds hb
    refine hJ _ _ _ _ ?_
    refine And.intro (fun _ => And.intro (Or.inr rfl) rfl) (fun g => ?_)
    have hL := nI_sub3 (by omega) (by omega) g
    have e1 : nI i + Int32.ofInt 1 = nI (i + 1) := (Int32.ofNat_add i 1).symm
    have e2 : nI i + Int32.ofInt 2 = nI (i + 2) := (Int32.ofNat_add i 2).symm
    have e3 : nI i + Int32.ofInt 3 = nI (i + 3) := (Int32.ofNat_add i 3).symm
    have i1 : vp_in (nI i) xs.length := vp_in_nI (by omega) (by omega)
    have i2 : vp_in (nI i + Int32.ofInt 1) xs.length := by rw [e1]; exact vp_in_nI (by omega) (by omega)
    have i3 : vp_in (nI i + Int32.ofInt 2) xs.length := by rw [e2]; exact vp_in_nI (by omega) (by omega)
    have fin : ∀ (x5 x6 : Option Value) (s : cS) (r : rM) (f : Nat → Int64) (b0' b1' : Nat) (op : Bool) (z len : Nat) (tx : Nat → Nat) (mode : Int32) (c : Nat) (err : Int32) (H T : Nat → Vl) (S E C D : Vl) (fr : Nat → Nat) (fq nn : Nat) (fb : Nat → Nat), CY z len tx mode c err H T S E C D fr fq nn fb s → JV z len tx c (H, T, (S, E, C, D), fr, fq, mode) r → DSP H T S mode nn fb → bgt n mode b0' b1' → J 19 [some (.ref 1001), some (.ref 0), some (.ref 27), some (.ref 54), some (.int (nI i + Int32.ofInt 3)), x5, x6] [] (cW s (rW r [oJ 1 f]), b0', b1', op) := by
      intro x5 x6 s r f b0' b1' op z len tx mode c err H T S E C D fr fq nn fb q1 q2 q3 q4
      rw [e3]
      exact ih (i + 3) x5 x6 s r f b0' b1' op z len tx mode c err H T S E C D fr fq nn fb (by omega) (by omega) q1 q2 q3 q4
    obtain ⟨hcz, hz250⟩ := CJ_c (hc [])
    have same : bgt n mode b0 b1 := bgt_to hb (by omega) (by omega) (fun _ => rfl)
    obtain ⟨c0, rfl⟩ : ∃ k, b0 = k + 2 := ⟨b0 - 2, by have := hb.1.1; omega⟩
    have hb1 : 14000 ≤ b1 := by have := hb.1.2; omega
    refine And.intro i1 ?_
    refine And.intro (fun _ => ?_) (fun _ => And.intro (fun _ => ?_) (fun _ => And.intro (fun _ => ?_) (fun _ => And.intro (fun _ => ?_) (fun _ => And.intro (fun _ => ?_) (fun _ => And.intro (fun _ => ?_) (fun _ => And.intro (fun _ => ?_) (fun _ => And.intro (fun _ => ?_) (fun _ => And.intro (fun _ => ?_) (fun _ => ?_)))))))))
    · refine And.intro i2 (And.intro i3 ?_)
      refine J_write (hc _) (fun e => ?_) (fun k W' e q => ?_)
      · refine And.intro i2 (And.intro i3 ?_)
        refine JY_write hr (fun e2 r' q2 => ?_) (fun k2 r' e2 _ => absurd (e.symm.trans e2) (by simp))
        exact fin x5 x6 s r' f _ _ op _ _ _ _ _ _ _ _ _ _ _ _ _ _ _ _ hc q2 hds same
      · obtain ⟨s', rfl, hs⟩ := CJ_CY q
        refine And.intro i2 (And.intro i3 ?_)
        refine JY_write hr (fun e2 _ _ => absurd (e.symm.trans e2) (by simp)) (fun k2 r' e2 q2 => ?_)
        have ek : k = k2 := Option.some.inj (e.symm.trans e2)
        subst ek
        exact fin x5 x6 s' r' f _ _ op _ _ _ _ _ _ _ _ _ _ _ _ _ _ _ _ hs q2 hds same
    · refine LJ_compile (l := m + 128) (by omega) hc (by omega) (fun ic s' b0' b1' op' err' hG hi12 q g0 g1 => ?_) (fun N s' f' τ H0 T0 Hf Tf lf bf H2 T2 fr2 hG hN1 hN2 hgx hly hag q ef => ?_)
      · refine RR_compileE hr.1.2.1 hr.1.2.2 hr.1.1 (fun ir N2 y r' hG2 d1 d2 d3 d4 hI hz ht => ?_)
        have hz2 := hr.2.1
        subst hz2
        obtain ⟨rfl, -⟩ := GOut_u hG hG2
        have hiv : JV r.z 0 (fun _ => 0) c (H, T, (S, E, C, D), fr, fq, mode) r' := ⟨RY_typed hI ht, hz, (d3 (by omega)).2 _ _ _ hr.2.2⟩
        have bb : bgt n mode b0' b1' := bgt_to hb (by omega) (by omega) (fun _ => rfl)
        exact fin _ _ s' r' f b0' b1' op' _ _ _ _ _ _ _ _ _ _ _ _ _ _ _ _ q hiv hds bb
      · refine RR_compileE hr.1.2.1 hr.1.2.2 hr.1.1 (fun ir N2 y r' hG2 d1 d2 d3 d4 hI hz ht => ?_)
        have hz2 := hr.2.1
        subst hz2
        obtain ⟨rfl, eN⟩ := GOut_u hG hG2
        obtain ⟨hst0, t, Hi, Ti, st, k1, k2, k3, k4, k5, k6⟩ := d4 rfl
        rw [hgx] at k1
        cases k1
        have hcnt : cnt (τ [] ++ [(1, 19)]) ≤ r.z := by
          have := lyS_cn r.z (τ [] ++ [(1, 19)]) ((H0, T0, 0, none, false), [])
          rw [hly] at this
          have this : N = 0 + cnt (τ [] ++ [(1, 19)]) := this
          have := (CJ_c (q [])).1
          omega
        obtain ⟨ρ, hCOD⟩ := code_joint k2 hcnt (by omega) hly hag k3 k4 k5
        have hTS := k3 st Hi Ti k4
        have hjn : JNT r.z N (H2, T2, (vNil, vNil, vNil, vNil), fr2, r.z - N, 0) r' := ⟨hst0, Or.inr (Or.inl ⟨by omega, (d2 rfl).2, rfl, _, _, _, ro0, ρ, k6, by rw [k5]; exact hTS, hCOD⟩)⟩
        have bb : bgt n 0 (c0 + 2) b1 := bgt_to hb (by omega) (by omega) (fun e => absurd e (by decide))
        exact fin _ _ s' r' f' _ _ op _ _ _ _ _ _ _ _ _ _ _ _ _ _ _ _ q ⟨RY_typed hI ht, hz, hjn⟩ (fun e => absurd e (by decide)) bb
    · refine J_position (hc _) ?_
      refine R_position ?_
      exact fin x5 x6 s _ f _ _ op _ _ _ _ _ _ _ _ _ _ _ _ _ _ _ _ hc (JV_th hr) hds same
    · refine J_start (hc _) (fun ec => ?_) (fun W' ec q => ?_)
      · refine R_start hr.1.1 (fun _ => ?_) (fun r' np hk hI _ => absurd (JNT_c0 hr.2.2 ec) np)
        exact fin x5 x6 s _ f _ _ op _ _ _ _ _ _ _ _ _ _ _ _ _ _ _ _ hc (JV_th hr) hds same
      · obtain ⟨s', rfl, hs⟩ := CJ_CY q
        have b : bgt n 1 (c0 + 2) b1 := ⟨same.1, fun _ => hb.1⟩
        refine R_startE hr.1.1 hr.2.2 ec hcz hr.2.1 (fun r' hk hI hj => ?_)
        exact fin x5 x6 s' _ f _ _ op _ _ _ _ _ _ _ _ _ _ _ _ _ _ _ _ hs (JV_ke hr hk hI hj) (fun e => absurd e (by decide)) b
    · refine And.intro i2 ?_
      refine LJ_run (m := m + 116) hc (JNT_KRN hr.2.2) hds (by omega) (by omega) (fun e => by have := hb.2 e; omega) (fun b0' b1' op' hx0 g0 g1 => ?_) (fun N k mode' s' f' H' T' S' E' C' D' fr' fq' n' fb' b0' b1' op' ex hN hkN hC q hD' ef hq => ?_)
      · refine And.intro i2 ?_
        refine R_runX hx0 ?_
        exact fin _ _ s _ f b0' b1' op' _ _ _ _ _ _ _ _ _ _ _ _ _ _ _ _ hc (JV_th hr) hds (bgt_to hb (by omega) (by omega) (fun _ => rfl))
      · have bb : bgt n mode' b0' b1' := by
          rcases hq with ⟨q0, q1, q2⟩ | ⟨q0, q1, q2, q3⟩
          · refine bgt_to hb (by omega) (by omega) (fun e => ?_)
            rcases q2 with q2 | q2
            · exact e.trans q2.symm
            · exact q2
          · have := hb.2 q1
            exact ⟨⟨by omega, by omega⟩, fun e => absurd e q0⟩
        refine And.intro i2 ?_
        refine R_runE hr.1.1 hr.2.2 hr.2.1 ex hN hC (fun r' hk hI hth hj => ?_)
        exact fin _ _ s' r' f' b0' b1' op' _ _ _ _ _ _ _ _ _ _ _ _ _ _ _ _ q (JV_ke hr hk hI hj) hD' bb
    · refine J_state (hc _) ?_
      refine R_state hr.1.1 ?_
      exact fin x5 x6 s _ f _ _ op _ _ _ _ _ _ _ _ _ _ _ _ _ _ _ _ hc (JV_th hr) hds same
    · refine And.intro i2 ?_
      refine J_count (hc _) (fun y W' h => ?_)
      obtain ⟨s', rfl, hs⟩ := CJ_CY h
      refine And.intro i2 ?_
      refine R_countE hr.1.1 (fun y2 r' hk hI hj => ?_)
      exact fin x5 x6 s' _ f _ _ op _ _ _ _ _ _ _ _ _ _ _ _ _ _ _ _ hs (JV_ke hr hk hI (hj _ _ _ hr.2.2)) hds same
    · refine J_next (hc _) (fun w => ?_) (fun w => ?_)
      · refine R_nextE hr.2.2 ?_
        rw [if_neg w]
        exact fin x5 x6 s _ f _ _ op _ _ _ _ _ _ _ _ _ _ _ _ _ _ _ _ hc (JV_th hr) hds same
      · refine R_nextE hr.2.2 ?_
        rw [if_pos w]
        exact fin x5 x6 s _ f _ _ op _ _ _ _ _ _ _ _ _ _ _ _ _ _ _ _ hc (JV_th hr) hds same
    · refine And.intro i2 ?_
      refine J_shownE (b0 := c0 + 1) (hc _) hds (fun y op' hy => ?_)
      refine And.intro i2 ?_
      refine R_shownE hr.2.2 (CJ_M (hc [])) hy ?_
      exact And.intro (fun _ => fin x5 x6 s _ f _ _ op' _ _ _ _ _ _ _ _ _ _ _ _ _ _ _ _ hc (JV_th hr) hds same) (fun g => absurd rfl g)
    · exact fin x5 x6 s _ f _ _ op _ _ _ _ _ _ _ _ _ _ _ _ _ _ _ _ hc hr hds same
end LLP
