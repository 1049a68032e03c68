def nwU (U : Nat → Prop) (kk : Nat → Nat) (n : Nat) : Nat → Prop := fun a => U a ∨ ∃ j, j < n ∧ a = kk j
def frN (U : Nat → Prop) (kk : Nat → Nat) (n : Nat) : Prop := ∀ j, j < n → ¬ U (kk j) ∧ ∀ l, l < n → ¬ l = j → ¬ kk l = kk j
section ZKG
variable {H T : Nat → Vl} {ro : Nat → Bool} {U : Nat → Prop} {S E C D R S' E' C' D' : Vl} {k : Sk} {n : Nat} {b : Bool} {e : En} {i : Int32} {kk : Nat → Nat} {al : List (Vl × Vl)} {sh : Option (Vl × Vl)}
theorem nw_0 : nwU U kk 0 = U := by
  funext a
  exact propext ⟨fun q => q.elim id (fun ⟨j, hj, _⟩ => absurd hj (Nat.not_lt_zero j)), Or.inl⟩
theorem nw_s (m : Nat) : nwU U kk (m + 1) = addU (nwU U kk m) (kk m) := by
  funext a
  refine propext ⟨fun q => ?_, fun q => ?_⟩
  · rcases q with q | ⟨j, hj, q⟩
    · exact Or.inl (Or.inl q)
    · rcases Nat.lt_or_ge j m with w | w
      · exact Or.inl (Or.inr ⟨j, w, q⟩)
      · obtain rfl : j = m := by omega
        exact Or.inr q
  · rcases q with (q | ⟨j, hj, q⟩) | q
    · exact Or.inl q
    · exact Or.inr ⟨j, by omega, q⟩
    · exact Or.inr ⟨m, by omega, q⟩
theorem fr_n {m : Nat} (h : frN U kk m) {j : Nat} (hj : j < m) : ¬ nwU U kk j (kk j) := by
  rintro (q | ⟨l, hl, q⟩)
  · exact (h j hj).1 q
  · exact (h j hj).2 l (by omega) (by omega) q.symm
theorem Ext_cmp {U1 : Nat → Prop} {H1 T1 H2 T2 : Nat → Vl} {ro1 ro2 : Nat → Bool} (h1 : Ext U H T ro H1 T1 ro1) (h2 : Ext U1 H1 T1 ro1 H2 T2 ro2) (hU : ∀ a, U a → U1 a) : Ext U H T ro H2 T2 ro2 := fun a ha => by
  obtain ⟨p1, p2, p3⟩ := h1 a ha
  obtain ⟨q1, q2, q3⟩ := h2 a (hU a ha)
  exact ⟨q1.trans p1, q2.trans p2, fun w => (q3 (p2.trans w)).trans (p3 w)⟩
theorem stp_TI (hT : TI H T ro U S E C D R k n b e) (hi : ofV H C = vInt i) (hk : frN U kk (rqN i)) (h19 : ¬ i = 19) (h : stp kk H T S E C D i = some (al, sh, S', E', C', D')) : ∃ ro' k' n' b' e', TI (stH sh (alH kk 0 al H)) (alT kk 0 al T) ro' (nwU U kk (rqN i)) S' E' C' D' R k' n' b' e' ∧ Ext U H T ro (stH sh (alH kk 0 al H)) (alT kk 0 al T) ro' := by
  obtain ⟨hS, ⟨uS, tS_⟩, ⟨uE, tE⟩, ⟨uC, f, hw⟩, ⟨uD, tD⟩, tb⟩ := hT
  cases f with
  | zero => exact absurd hw id
  | succ f =>
  obtain ⟨c, i', rfl, -, hH, hw⟩ := hw
  have uc := inU_pr uC
  have hi : H c = vInt i := hi
  rw [hi] at hH
  cases hH
  rcases hw with ⟨e1, d, t, a1, a2, a0, a3⟩ | ⟨e1, d, x, a1, a2, a3, a4⟩ | ⟨e1, d, a1, a2, a3, a4⟩ | ⟨e1, x, k', a1, a2⟩ | ⟨e1, x, k', a1, a2⟩ | ⟨e1, a1⟩ | ⟨e1, x, k', a1, a2, a3, a4⟩ | ⟨e1, x, k', d, q, a1, a2, a3, a4, a5, a6, a7, a8⟩ | ⟨e1, a1⟩ | ⟨e1, x, k', a1, a2⟩ | ⟨e1, x, y, t, k', a1, a0, a2⟩ | ⟨e1, x, k', a1, a2⟩
  · subst e1
    have n0 := fr_n hk (show 0 < rqN 1 by decide)
    rw [nw_0] at n0
    rw [stp_1] at h
    cases h
    have ud := SI_tp hS.1 uc a1
    have e1 : ofV H (ofV T (vPr c)) = H d := by show ofV H (T c) = H d; rw [a1]; rfl
    have e2 : ofV T (ofV T (vPr c)) = T d := by show ofV T (T c) = T d; rw [a1]; rfl
    rw [e1, e2, show rqN 1 = 0 + 1 from rfl, nw_s, nw_0]
    exact ⟨_, _, _, _, _, T_push hS n0 (SI_h hS.1 ud) (hS.1 d ud).2.1.1 (fun q => ⟨0, a0 q⟩) ⟨uS, tS_⟩ ⟨uE, tE⟩ ⟨SI_t hS.1 ud, f, a3⟩ ⟨uD, tD⟩, Ext_new n0⟩
  · subst e1
    have n0 := fr_n hk (show 0 < rqN 2 by decide)
    rw [nw_0] at n0
    have ud := SI_tp hS.1 uc a1
    have ei : (iV (ofV H (ofV T (vPr c)))).toNatClampNeg = x := by
      show (iV (ofV H (T c))).toNatClampNeg = x
      rw [a1]
      show (iV (H d)).toNatClampNeg = x
      rw [a3.2]
      exact nI_clamp (by have := a3.1; omega)
    have e2 : ofV T (ofV T (vPr c)) = T d := by show ofV T (T c) = T d; rw [a1]; rfl
    rw [stp_2, ei] at h
    split at h
    rotate_left
    · cases h
    next q5 =>
    split at h
    rotate_left
    · cases h
    next q6 =>
    cases h
    obtain ⟨a, ea⟩ := kV_pr q6
    have ue := inU_beh hS.1 (x / 16) E uE
    obtain ⟨g0, eg0⟩ := kV_pr q5
    rw [eg0] at ue
    have ug0 := inU_pr ue
    have uv : inU U (behV T (x % 16) (ofV H (behV T (x / 16) E))) := by
      rw [eg0]
      exact inU_beh hS.1 _ _ (SI_h hS.1 ug0)
    rw [ea] at uv
    have ua := inU_pr uv
    have e9 : ofV H (behV T (x % 16) (ofV H (behV T (x / 16) E))) = H a := by rw [ea]; rfl
    rw [e9, e2, show rqN 2 = 0 + 1 from rfl, nw_s, nw_0]
    exact ⟨_, _, _, _, _, T_push hS n0 (SI_h hS.1 ua) (hS.1 a ua).2.1.1 (fun q => by cases q) ⟨uS, tS_⟩ ⟨uE, tE⟩ ⟨SI_t hS.1 ud, f, a4⟩ ⟨uD, tD⟩, Ext_new n0⟩
  · subst e1
    have n0 := fr_n hk (show 0 < rqN 3 by decide)
    have n1 := fr_n hk (show 1 < rqN 3 by decide)
    rw [nw_s, nw_0] at n1
    rw [nw_0] at n0
    rw [stp_3] at h
    cases h
    have ud := SI_tp hS.1 uc a1
    have e1 : ofV H (ofV T (vPr c)) = H d := by show ofV H (T c) = H d; rw [a1]; rfl
    have e2 : ofV T (ofV T (vPr c)) = T d := by show ofV T (T c) = T d; rw [a1]; rfl
    rw [e1, e2, show rqN 3 = 0 + 1 + 1 from rfl, nw_s, nw_s, nw_0]
    exact ⟨_, _, _, _, _, T_fun hS n0 n1 (SI_h hS.1 ud) ⟨f, a3⟩ ⟨uS, tS_⟩ ⟨uE, tE⟩ ⟨SI_t hS.1 ud, f, a4⟩ ⟨uD, tD⟩, Ext_cmp (Ext_new n0) (Ext_new n1) (fun a ha => Or.inl ha)⟩
  · subst e1
    subst a1
    have n0 := fr_n hk (show 0 < rqN 4 by decide)
    have n1 := fr_n hk (show 1 < rqN 4 by decide)
    have n2 := fr_n hk (show 2 < rqN 4 by decide)
    have n3 := fr_n hk (show 3 < rqN 4 by decide)
    rw [nw_s, nw_s, nw_s, nw_0] at n3
    rw [nw_s, nw_s, nw_0] at n2
    rw [nw_s, nw_0] at n1
    rw [nw_0] at n0
    obtain ⟨a, rfl, ua, ⟨uTa, tTa⟩, ⟨uHa, gHa⟩, -⟩ := stk_top hS.1 ⟨uS, tS_⟩
    obtain ⟨b2, eTa, ub, ⟨uTb, tTb⟩, ⟨uHb, gHb⟩, lHb⟩ := stk_top hS.1 ⟨uTa, tTa⟩
    rw [stp_4] at h
    split at h
    rotate_left
    · cases h
    next q4 =>
    cases h
    have q4 : kV (H a) = 4 := q4
    obtain ⟨g, eg⟩ : ∃ g, H a = vFn g := by
      generalize H a = v at q4
      rcases v with u | y | y | j | j <;> first | exact ⟨j, rfl⟩ | (simp [kV] at q4)
    have ug : U g := by rw [eg] at uHa; exact inU_fn uHa
    have e1 : ofV T (ofV T (vPr a)) = T b2 := by show ofV T (T a) = T b2; rw [eTa]; rfl
    have e2 : ofV H (ofV T (vPr a)) = H b2 := by show ofV H (T a) = H b2; rw [eTa]; rfl
    have e3 : ofV T (ofV H (vPr a)) = T g := by show ofV T (H a) = T g; rw [eg]; rfl
    have e4 : ofV H (ofV H (vPr a)) = H g := by show ofV H (H a) = H g; rw [eg]; rfl
    rw [e1, e2, e3, e4, show rqN 4 = 0 + 1 + 1 + 1 + 1 from rfl, nw_s, nw_s, nw_s, nw_s, nw_0]
    exact ⟨_, _, _, _, _, T_call (X := T c) hS n0 n1 n2 n3 ⟨uTb, tTb⟩ ⟨uE, tE⟩ ⟨SI_t hS.1 uc, f, a2⟩ ⟨uD, tD⟩ ⟨uHb, gHb⟩ (lHb rfl) ug (by rw [← eg]; exact gHa), Ext_cmp (Ext_new n0) (Ext_cmp (Ext_new n1) (Ext_cmp (Ext_new n2) (Ext_new n3) (fun a ha => Or.inl ha)) (fun a ha => Or.inl ha)) (fun a ha => Or.inl ha)⟩
  · subst e1
    subst a1
    subst a2
    have n0 := fr_n hk (show 0 < rqN 5 by decide)
    rw [nw_0] at n0
    obtain ⟨a, rfl, ua, ⟨uTa, tTa⟩, ⟨uHa, gHa⟩, lHa⟩ := stk_top hS.1 ⟨uS, tS_⟩
    obtain ⟨d1, d2, d3, k2, n2, e2, rfl, eD1, eD2, ud1, ud2, ud3, ⟨u1, t1⟩, ⟨u2, t2⟩, ⟨u3, t3⟩, ⟨u4, t4⟩⟩ := dmx_ret hS.1 ⟨uD, tD⟩
    rw [stp_5] at h
    cases h
    have g1 : ofV H (ofV T (vPr d1)) = H d2 := by show ofV H (T d1) = H d2; rw [eD1]; rfl
    have g2 : ofV T (ofV T (vPr d1)) = vPr d3 := by show ofV T (T d1) = vPr d3; rw [eD1]; exact eD2
    rw [g1, g2, show rqN 5 = 0 + 1 from rfl, nw_s, nw_0]
    exact ⟨_, _, _, _, _, T_push hS n0 uHa gHa (fun q => by cases q) ⟨u1, t1⟩ ⟨u2, t2⟩ ⟨u3, t3⟩ ⟨u4, t4⟩, Ext_new n0⟩
  · subst e1
    have n0 := fr_n hk (show 0 < rqN 6 by decide)
    rw [nw_0] at n0
    rw [stp_6] at h
    cases h
    rw [show rqN 6 = 0 + 1 from rfl, nw_s, nw_0]
    exact ⟨_, _, _, _, _, T_frame hS n0 ⟨uS, tS_⟩ ⟨uE, tE⟩ ⟨SI_t hS.1 uc, f, a1⟩ ⟨uD, tD⟩, Ext_new n0⟩
  · subst e1
    subst a1
    subst a3
    have n0 := fr_n hk (show 0 < rqN 7 by decide)
    have n1 := fr_n hk (show 1 < rqN 7 by decide)
    have n2 := fr_n hk (show 2 < rqN 7 by decide)
    rw [nw_s, nw_s, nw_0] at n2
    rw [nw_s, nw_0] at n1
    rw [nw_0] at n0
    obtain ⟨a, rfl, ua, ⟨uTa, tTa⟩, ⟨uHa, gHa⟩, -⟩ := stk_top hS.1 ⟨uS, tS_⟩
    obtain ⟨b2, eTa, ub, ⟨uTb, tTb⟩, ⟨uHb, gHb⟩, lHb⟩ := stk_top hS.1 ⟨uTa, tTa⟩
    obtain ⟨n, rfl⟩ : ∃ j, n = j + 1 := ⟨n - 1, by omega⟩
    obtain ⟨g0, rfl, rg0, tE0⟩ := tE
    have ug0 := inU_pr uE
    obtain ⟨a', f', g', ea', ef', eg', rg'⟩ := tb rfl
    cases ea'
    rw [stp_7] at h
    split at h
    rotate_left
    · cases h
    cases h
    have ug : U f' := by rw [ef'] at uHa; exact inU_fn uHa
    have e1 : ofV T (ofV T (vPr a)) = T b2 := by show ofV T (T a) = T b2; rw [eTa]; rfl
    have e2 : ofV H (ofV T (vPr a)) = H b2 := by show ofV H (T a) = H b2; rw [eTa]; rfl
    have e3 : ofV T (ofV H (vPr a)) = vPr g' := by show ofV T (H a) = vPr g'; rw [ef']; exact eg'
    have e4 : ofV H (ofV H (vPr a)) = H f' := by show ofV H (H a) = H f'; rw [ef']; rfl
    rw [e1, e2, e3, e4, show rqN 7 = 0 + 1 + 1 + 1 from rfl, nw_s, nw_s, nw_s, nw_0]
    refine ⟨_, _, _, _, _, T_call7 (X := T c) (V := T g0) hS n0 n1 n2 ⟨uTb, tTb⟩ ⟨SI_t hS.1 ug0, tE0⟩ ⟨SI_t hS.1 uc, f, a4⟩ ⟨uD, tD⟩ ⟨uHb, gHb⟩ (lHb rfl) ug (by rw [← ef']; exact gHa) eg' rg', ?_⟩
    have x1 : Ext U H T ro (upW (upW (upW H (kk 0) (T c)) (kk 1) (T g0)) (kk 2) (T b2)) (upW (upW (upW T (kk 0) D) (kk 1) (vPr (kk 0))) (kk 2) (vPr (kk 1))) (upW (upW (upW ro (kk 0) false) (kk 1) false) (kk 2) false) := Ext_cmp (Ext_new n0) (Ext_cmp (Ext_new n1) (Ext_new n2) (fun a ha => Or.inl ha)) (fun a ha => Or.inl ha)
    have ug2 : U g' := SI_tp hS.1 ug eg'
    exact Ext_cmp x1 (U1 := U) (Ext_set ((x1 g' ug2).2.1.trans rg')) (fun a ha => ha)
  · subst e1
    subst a1
    have n0 := fr_n hk (show 0 < rqN 8 by decide)
    rw [nw_0] at n0
    obtain ⟨a, rfl, ua, ⟨uTa, tTa⟩, ⟨uHa, gHa⟩, lHa⟩ := stk_top hS.1 ⟨uS, tS_⟩
    have ud := SI_tp hS.1 uc a2
    have uq := SI_tp hS.1 ud a4
    rw [stp_8] at h
    split at h
    rotate_left
    · cases h
    cases h
    have e1 : ofV T (ofV T (ofV T (vPr c))) = T q := by show ofV T (ofV T (T c)) = T q; rw [a2]; show ofV T (T d) = T q; rw [a4]; rfl
    have e2 : ofV H (ofV T (ofV T (vPr c))) = H q := by show ofV H (ofV T (T c)) = H q; rw [a2]; show ofV H (T d) = H q; rw [a4]; rfl
    have e3 : ofV H (ofV T (vPr c)) = H d := by show ofV H (T c) = H d; rw [a2]; rfl
    rw [e1, e2, e3, show rqN 8 = 0 + 1 from rfl, nw_s, nw_0]
    refine ⟨_, _, _, _, _, T_choose (k' := false :: k') (n' := n) hS n0 ⟨uTa, tTa⟩ ⟨uE, tE⟩ ?_ ⟨uD, tD⟩ ⟨SI_t hS.1 uq, f, a8⟩, Ext_new n0⟩
    split
    · exact ⟨SI_h hS.1 uq, f, a7⟩
    · exact ⟨SI_h hS.1 ud, f, a6⟩
  · subst e1
    subst a1
    obtain ⟨a, e2, rfl, ua, ⟨u1, t1⟩, ⟨u2, t2⟩⟩ := dmx_join hS.1 ⟨uD, tD⟩
    rw [stp_9] at h
    cases h
    rw [show rqN 9 = 0 from rfl, nw_0]
    exact ⟨ro, _, _, false, _, ⟨hS, ⟨uS, tS_⟩, ⟨uE, tE⟩, ⟨u1, t1⟩, ⟨u2, t2⟩, fun q => (by cases q)⟩, fun a _ => ⟨rfl, rfl, fun _ => rfl⟩⟩
  · subst a1
    obtain ⟨a, rfl, ua, ⟨uTa, tTa⟩, ⟨uHa, gHa⟩, lHa⟩ := stk_top hS.1 ⟨uS, tS_⟩
    have pushed : ∀ (kq : Nat) (w : Vl), ¬ U kq → inU U w → gF H T ro w → ∃ ro' k2 n' b' e', TI (upW H kq w) (upW T kq (T a)) ro' (addU U kq) (vPr kq) E (T c) D R k2 n' b' e' ∧ Ext U H T ro (upW H kq w) (upW T kq (T a)) ro' := fun kq w n0 q1 q2 => ⟨_, _, _, _, _, T_push hS n0 q1 q2 (fun q => by cases q) ⟨uTa, tTa⟩ ⟨uE, tE⟩ ⟨SI_t hS.1 uc, f, a2⟩ ⟨uD, tD⟩, Ext_new n0⟩
    rcases e1 with rfl | rfl | rfl
    · have n0 := fr_n hk (show 0 < rqN 10 by decide)
      rw [nw_0] at n0
      rw [stp_10] at h
      split at h
      rotate_left
      · cases h
      next q3 =>
      cases h
      have q3 : kV (H a) = 3 := q3
      obtain ⟨j, ej⟩ := kV_pr q3
      rw [ej] at uHa
      have uj := inU_pr uHa
      have e9 : ofV H (ofV H (vPr a)) = H j := by show ofV H (H a) = H j; rw [ej]; rfl
      rw [e9, show rqN 10 = 0 + 1 from rfl, nw_s, nw_0]
      exact pushed _ _ n0 (SI_h hS.1 uj) (hS.1 j uj).2.1.1
    · have n0 := fr_n hk (show 0 < rqN 11 by decide)
      rw [nw_0] at n0
      rw [stp_11] at h
      split at h
      rotate_left
      · cases h
      next q3 =>
      cases h
      have q3 : kV (H a) = 3 := q3
      obtain ⟨j, ej⟩ := kV_pr q3
      rw [ej] at uHa
      have uj := inU_pr uHa
      have e9 : ofV T (ofV H (vPr a)) = T j := by show ofV T (H a) = T j; rw [ej]; rfl
      rw [e9, show rqN 11 = 0 + 1 from rfl, nw_s, nw_0]
      exact pushed _ _ n0 (SI_t hS.1 uj) (hS.1 j uj).2.1.2
    · have n0 := fr_n hk (show 0 < rqN 12 by decide)
      rw [nw_0] at n0
      rw [stp_12] at h
      cases h
      rw [show rqN 12 = 0 + 1 from rfl, nw_s, nw_0]
      exact pushed _ _ n0 int_inU gF_int
  · subst a1
    obtain ⟨a, rfl, ua, ⟨uTa, tTa⟩, ⟨uHa, gHa⟩, -⟩ := stk_top hS.1 ⟨uS, tS_⟩
    obtain ⟨b2, eTa, ub, ⟨uTb, tTb⟩, ⟨uHb, gHb⟩, lHb⟩ := stk_top hS.1 ⟨uTa, tTa⟩
    have g1 : ofV T (ofV T (vPr a)) = T b2 := by show ofV T (T a) = T b2; rw [eTa]; rfl
    have g2 : ofV H (ofV T (vPr a)) = H b2 := by show ofV H (T a) = H b2; rw [eTa]; rfl
    have pushed : ∀ (kq : Nat) (v : Int32), t = false → ¬ U kq → ∃ ro' k2 n' b' e', TI (upW H kq (vInt v)) (upW T kq (T b2)) ro' (addU U kq) (vPr kq) E (T c) D R k2 n' b' e' ∧ Ext U H T ro (upW H kq (vInt v)) (upW T kq (T b2)) ro' := fun kq v ht n0 => ⟨_, _, _, _, _, T_push (t := t) hS n0 int_inU gF_int (fun q => by rw [ht] at q; cases q) ⟨uTb, tTb⟩ ⟨uE, tE⟩ ⟨SI_t hS.1 uc, f, a2⟩ ⟨uD, tD⟩, Ext_new n0⟩
    have tf : ¬ i = 13 → t = false := fun q => by
      cases t with
      | false => rfl
      | true => exact absurd (a0 rfl).1 q
    rcases e1 with rfl | rfl | rfl | rfl | rfl | rfl
    · have n0 := fr_n hk (show 0 < rqN 13 by decide)
      have n1 := fr_n hk (show 1 < rqN 13 by decide)
      rw [nw_s, nw_0] at n1
      rw [nw_0] at n0
      rw [stp_13] at h
      cases h
      rw [g1, g2, show rqN 13 = 0 + 1 + 1 from rfl, nw_s, nw_s, nw_0]
      have hx1 : Ext U H T ro (upW H (kk 0) (H a)) (upW T (kk 0) (H b2)) (upW ro (kk 0) false) := Ext_new n0
      have hS1 : TS (upW H (kk 0) (H a)) (upW T (kk 0) (H b2)) (upW ro (kk 0) false) (addU U (kk 0)) R := TS_new hS n0 uHa uHb gHa gHb (fun q => by cases q)
      refine ⟨_, _, _, _, _, T_push (t := t) hS1 n1 (pr_inU new_in) gF_pr (fun q => ?_) ⟨in_new uTb, stk_ext hS.1 hx1 _ _ uTb tTb⟩ ⟨in_new uE, env_ext hS.1 hx1 _ _ uE tE⟩ ⟨in_new (SI_t hS.1 uc), wtx_ext hS.1 hx1 (SI_t hS.1 uc) ⟨f, a2⟩⟩ ⟨in_new uD, dmx_ext hS.1 hx1 uD tD⟩, Ext_cmp hx1 (Ext_new n1) (fun a ha => Or.inl ha)⟩
      obtain ⟨mm, hl⟩ := lst_ext hS.1 hx1 uHb (lHb (a0 q).2)
      refine ⟨mm + 1, kk 0, rfl, ?_⟩
      have e1 : upW T (kk 0) (H b2) (kk 0) = H b2 := if_pos rfl
      rw [e1]
      exact hl
    · have n0 := fr_n hk (show 0 < rqN 14 by decide)
      rw [nw_0] at n0
      rw [stp_14] at h
      cases h
      rw [g1, show rqN 14 = 0 + 1 from rfl, nw_s, nw_0]
      exact pushed _ _ (tf (by decide)) n0
    · have n0 := fr_n hk (show 0 < rqN 15 by decide)
      rw [nw_0] at n0
      rw [stp_15] at h
      split at h
      rotate_left
      · cases h
      cases h
      rw [g1, show rqN 15 = 0 + 1 from rfl, nw_s, nw_0]
      exact pushed _ _ (tf (by decide)) n0
    · have n0 := fr_n hk (show 0 < rqN 16 by decide)
      rw [nw_0] at n0
      rw [stp_16] at h
      split at h
      rotate_left
      · cases h
      cases h
      rw [g1, show rqN 16 = 0 + 1 from rfl, nw_s, nw_0]
      exact pushed _ _ (tf (by decide)) n0
    · have n0 := fr_n hk (show 0 < rqN 17 by decide)
      rw [nw_0] at n0
      rw [stp_17] at h
      split at h
      rotate_left
      · cases h
      cases h
      rw [g1, show rqN 17 = 0 + 1 from rfl, nw_s, nw_0]
      exact pushed _ _ (tf (by decide)) n0
    · have n0 := fr_n hk (show 0 < rqN 18 by decide)
      rw [nw_0] at n0
      rw [stp_18] at h
      split at h
      rotate_left
      · cases h
      cases h
      rw [g1, show rqN 18 = 0 + 1 from rfl, nw_s, nw_0]
      exact pushed _ _ (tf (by decide)) n0
  · exact absurd e1 h19
theorem TI_AX (hT : TI H T ro U S E C D R k n b e) : ∃ c i, C = vPr c ∧ U c ∧ H c = vInt i ∧ (1 ≤ i ∧ i ≤ 19) ∧ AX U H T S E C D i := by
  obtain ⟨hS, ⟨uS, tS_⟩, ⟨uE, tE⟩, ⟨uC, f, hw⟩, ⟨uD, tD⟩, tb⟩ := hT
  cases f with
  | zero => exact absurd hw id
  | succ f =>
  obtain ⟨c, i, rfl, -, hH, hw⟩ := hw
  have uc := inU_pr uC
  have hcl : clo U H T := fun a ua => ⟨SI_h hS.1 ua, SI_t hS.1 ua⟩
  have lS : isL_ S ∧ isL_ (ofV T S) := by
    cases k with
    | nil =>
      cases tS_
      exact ⟨Or.inl rfl, Or.inl rfl⟩
    | cons x k =>
      obtain ⟨a, rfl, -, -, t2⟩ := tS_
      exact ⟨Or.inr ⟨a, rfl⟩, isL_stk t2⟩
  refine ⟨c, i, rfl, uc, hH, ?_, hcl, ⟨uS, uE, uC, uD⟩, lS, fun e2 => ?_, fun e7 => ?_⟩
  · rcases hw with ⟨e1, -⟩ | ⟨e1, -⟩ | ⟨e1, -⟩ | ⟨e1, -⟩ | ⟨e1, -⟩ | ⟨e1, -⟩ | ⟨e1, -⟩ | ⟨e1, -⟩ | ⟨e1, -⟩ | ⟨e1, -⟩ | ⟨e1, -⟩ | ⟨e1, -⟩
    · rw [e1]; decide
    · rw [e1]; decide
    · rw [e1]; decide
    · rw [e1]; decide
    · rw [e1]; decide
    · rw [e1]; decide
    · rw [e1]; decide
    · rw [e1]; decide
    · rw [e1]; decide
    · rcases e1 with e1 | e1 | e1 <;> rw [e1] <;> decide
    · rcases e1 with e1 | e1 | e1 | e1 | e1 | e1 <;> rw [e1] <;> decide
    · rw [e1]; decide
  · subst e2
    rcases hw with ⟨e1, -⟩ | ⟨e1, d, x, a1, a2, a3, a4⟩ | ⟨e1, -⟩ | ⟨e1, -⟩ | ⟨e1, -⟩ | ⟨e1, -⟩ | ⟨e1, -⟩ | ⟨e1, -⟩ | ⟨e1, -⟩ | ⟨e1, -⟩ | ⟨e1, -⟩ | ⟨e1, -⟩
    · exact absurd e1 (by decide)
    · refine ⟨x, a3.1, ?_⟩
      show ofV H (T c) = _
      rw [a1]
      exact a3.2
    · exact absurd e1 (by decide)
    · exact absurd e1 (by decide)
    · exact absurd e1 (by decide)
    · exact absurd e1 (by decide)
    · exact absurd e1 (by decide)
    · exact absurd e1 (by decide)
    · exact absurd e1 (by decide)
    · rcases e1 with e1 | e1 | e1 <;> exact absurd e1 (by decide)
    · rcases e1 with e1 | e1 | e1 | e1 | e1 | e1 <;> exact absurd e1 (by decide)
    · exact absurd e1 (by decide)
  · subst e7
    have h7 : b = true := by
      rcases hw with ⟨e1, -⟩ | ⟨e1, -⟩ | ⟨e1, -⟩ | ⟨e1, -⟩ | ⟨e1, -⟩ | ⟨e1, -⟩ | ⟨e1, x, k', a1, a2, a3, a4⟩ | ⟨e1, -⟩ | ⟨e1, -⟩ | ⟨e1, -⟩ | ⟨e1, -⟩ | ⟨e1, -⟩
      · exact absurd e1 (by decide)
      · exact absurd e1 (by decide)
      · exact absurd e1 (by decide)
      · exact absurd e1 (by decide)
      · exact absurd e1 (by decide)
      · exact absurd e1 (by decide)
      · exact a3
      · exact absurd e1 (by decide)
      · exact absurd e1 (by decide)
      · rcases e1 with e1 | e1 | e1 <;> exact absurd e1 (by decide)
      · rcases e1 with e1 | e1 | e1 | e1 | e1 | e1 <;> exact absurd e1 (by decide)
      · exact absurd e1 (by decide)
    obtain ⟨a, f2, g2, rfl, ef, eg, rg2⟩ := tb h7
    have ua := inU_pr uS
    have gHa := (hS.1 a ua).2.1.1
    obtain ⟨r1, -, -⟩ := gHa f2 ef
    have e3 : ofV T (ofV H (vPr a)) = vPr g2 := by show ofV T (H a) = _; rw [ef]; exact eg
    rw [e3]
    refine ⟨Or.inr ⟨g2, rfl⟩, fun j hj hj2 => ?_⟩
    have hj : ceV (H a) = some j := hj
    rw [ef] at hj
    cases hj
    cases hj2
    rw [r1] at rg2
    exact absurd rg2 (by decide)
end ZKG
