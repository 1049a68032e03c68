section
def clo (A : Nat → Prop) (H T : Nat → Vl) : Prop := ∀ a, A a → inU A (H a) ∧ inU A (T a)
section ZKC
variable {A : Nat → Prop} {H T g : Nat → Vl} {v x : Vl} {k : Nat}
theorem ofV_ne (h : ¬ ceV v = some k) : ofV (upW g k x) v = ofV g v := by
  rcases v with u | y | y | i | i
  · rfl
  · rfl
  · rfl
  · exact if_neg (fun e => h (by rw [← e]; rfl))
  · exact if_neg (fun e => h (by rw [← e]; rfl))
theorem ofV_nf (hv : inU A v) (hk : ¬ A k) : ofV (upW g k x) v = ofV g v := ofV_ne (fun e => hk (hv k e))
theorem clo_H (hc : clo A H T) (hv : inU A v) : inU A (ofV H v) := by
  rcases v with u | y | y | i | i
  · exact nil_inU
  · exact nil_inU
  · exact nil_inU
  · exact (hc i (hv i rfl)).1
  · exact (hc i (hv i rfl)).1
theorem clo_T (hc : clo A H T) (hv : inU A v) : inU A (ofV T v) := by
  rcases v with u | y | y | i | i
  · exact nil_inU
  · exact nil_inU
  · exact nil_inU
  · exact (hc i (hv i rfl)).2
  · exact (hc i (hv i rfl)).2
theorem beh_1 (h : isL_ v) : behV T 1 v = ofV T v := by
  rcases h with rfl | ⟨a, rfl⟩ <;> rfl
theorem beh_2 (h : isL_ v) (h2 : isL_ (ofV T v)) : behV T 2 v = ofV T (ofV T v) := by
  rcases h with rfl | ⟨a, rfl⟩
  · rfl
  · show behV T 1 (T a) = _
    exact beh_1 h2
theorem beh_nf (hc : clo A H T) (hk : ¬ A k) : ∀ (n : Nat) (v : Vl), inU A v → behV (upW T k x) n v = behV T n v
  | 0, v, _ => rfl
  | n + 1, v, hv => by
    rcases v with u | y | y | i | i
    · rfl
    · rfl
    · rfl
    · show behV (upW T k x) n (upW T k x i) = behV T n (T i)
      have e : upW T k x i = T i := if_neg (fun (e : i = k) => hk (by rw [← e]; exact hv i rfl))
      rw [e]
      exact beh_nf hc hk n (T i) (hc i (hv i rfl)).2
    · rfl
theorem iV_enc {y : Int32} (h : v = vInt y) : (encV v).toInt32 = y := by
  rw [h]
  exact eK_int 1 (by decide) y
theorem kV_int (h : kV v = 1) : v = vInt (iV v) ∧ (encV v).toInt32 = iV v := by
  rcases v with u | y | y | i | i
  · cases h
  · exact ⟨rfl, eK_int 1 (by decide) y⟩
  · cases h
  · cases h
  · cases h
theorem sm_same (a b : Vl) (ha : ∀ i, ceV a = some i → i < 250) : sameV a b = smV a b := by
  have enc : ∀ v : Vl, ∃ j x, j ≤ 4 ∧ kV v = j ∧ (1 ≤ j → encV v = eK j x) := fun v => by
    rcases v with u | y | y | i | i
    · exact ⟨0, 0, by decide, rfl, fun h => absurd h (by decide)⟩
    · exact ⟨1, y, by decide, rfl, fun _ => rfl⟩
    · exact ⟨2, y, by decide, rfl, fun _ => rfl⟩
    · exact ⟨3, nI i, by decide, rfl, fun _ => rfl⟩
    · exact ⟨4, nI i, by decide, rfl, fun _ => rfl⟩
  have shr : ∀ v w : Vl, encV v = encV w → kV v = kV w := fun v w e => by
    have h1 := encV_shr v
    have h2 := encV_shr w
    rw [e, h2] at h1
    have l1 := kV_le v
    have l2 := kV_le w
    have := congrArg (fun q : Int64 => q.toBitVec.toNat) h1
    have e1 : (Int64.ofNat (kV w)).toBitVec.toNat = kV w := by
      show (BitVec.ofNat 64 (kV w)).toNat = kV w
      rw [BitVec.toNat_ofNat]
      omega
    have e2 : (Int64.ofNat (kV v)).toBitVec.toNat = kV v := by
      show (BitVec.ofNat 64 (kV v)).toNat = kV v
      rw [BitVec.toNat_ofNat]
      omega
    have this : (Int64.ofNat (kV w)).toBitVec.toNat = (Int64.ofNat (kV v)).toBitVec.toNat := this
    omega
  have ff : ∀ {p q : Prop} {ip : Decidable p} {iq : Decidable q}, ¬ p → (decide p && decide q) = false := fun {p q} {_} {_} hp => by simp [hp]
  have fg : ∀ {p q : Prop} {ip : Decidable p} {iq : Decidable q}, ¬ q → (decide p && decide q) = false := fun {p q} {_} {_} hq => by simp [hq]
  unfold sameV
  rcases a with u | y | y | i | i <;> rcases b with u' | w | w | j | j
  case inl.inl => rfl
  case inr.inl.inr.inl =>
    show (decide (eK 1 y = eK 1 w) && decide (cV (vInt y) = -1)) = decide (y = w)
    by_cases e : y = w
    · subst e
      simp [cV]
    · rw [ff (fun q => e (eK_ne (by decide) (by decide) q).2), decide_eq_false e]
  case inr.inr.inl.inr.inr.inl =>
    show (decide (eK 2 y = eK 2 w) && decide (cV (vSym y) = -1)) = decide (y = w)
    by_cases e : y = w
    · subst e
      simp [cV]
    · rw [ff (fun q => e (eK_ne (by decide) (by decide) q).2), decide_eq_false e]
  case inr.inr.inr.inl.inr.inr.inr.inl => exact fg (fun q => nI_nn (by have := ha i rfl; omega) q)
  case inr.inr.inr.inr.inr.inr.inr.inr => exact fg (fun q => nI_nn (by have := ha i rfl; omega) q)
  all_goals exact ff (fun q => by have h := shr _ _ q; simp [kV] at h)
end ZKC
section ZKD
variable {k : Nat → Nat} {H T : Nat → Vl} {S E C D S' E' C' D' : Vl} {z : Nat} {al : List (Vl × Vl)} {sh : Option (Vl × Vl)}

theorem okA_st {x y : Vl} (h : okA z H) (hy : okV z y) : okA z (stH (some (x, y)) H) := by
  rcases x with u | w | w | i | i
  · exact h
  · exact h
  · exact h
  · exact okA_upd h hy
  · exact h
theorem OK_1 (hM : mOK z S E C D H T) (hk : ∀ j, j < ndI 1 → k j < z) (h : stp k H T S E C D 1 = some (al, sh, S', E', C', D')) : al.length = ndI 1 ∧ mOK z S' E' C' D' (stH sh (alH k 0 al H)) (alT k 0 al T) := by
  obtain ⟨oH, oT, oS, oE, oC, oD⟩ := hM
  rw [stp_1] at h
  cases h
  exact ⟨rfl, (okA_upd oH (okV_of oH (okV_of oT oC))), (okA_upd oT oS), (hk 0 (by decide)), oE, (okV_of oT (okV_of oT oC)), oD⟩
theorem OK_2 (hM : mOK z S E C D H T) (hk : ∀ j, j < ndI 2 → k j < z) (h : stp k H T S E C D 2 = some (al, sh, S', E', C', D')) : al.length = ndI 2 ∧ mOK z S' E' C' D' (stH sh (alH k 0 al H)) (alT k 0 al T) := by
  obtain ⟨oH, oT, oS, oE, oC, oD⟩ := hM
  rw [stp_2] at h
  split at h
  rotate_left
  · cases h
  split at h
  rotate_left
  · cases h
  cases h
  exact ⟨rfl, (okA_upd oH (okV_of oH (okV_beh oT _ _ (okV_of oH (okV_beh oT _ _ oE))))), (okA_upd oT oS), (hk 0 (by decide)), oE, (okV_of oT (okV_of oT oC)), oD⟩
theorem OK_3 (hM : mOK z S E C D H T) (hk : ∀ j, j < ndI 3 → k j < z) (h : stp k H T S E C D 3 = some (al, sh, S', E', C', D')) : al.length = ndI 3 ∧ mOK z S' E' C' D' (stH sh (alH k 0 al H)) (alT k 0 al T) := by
  obtain ⟨oH, oT, oS, oE, oC, oD⟩ := hM
  rw [stp_3] at h
  cases h
  exact ⟨rfl, (okA_upd (okA_upd oH (okV_of oH (okV_of oT oC))) (hk 0 (by decide))), (okA_upd (okA_upd oT oE) oS), (hk 1 (by decide)), oE, (okV_of oT (okV_of oT oC)), oD⟩
theorem OK_4 (hM : mOK z S E C D H T) (hk : ∀ j, j < ndI 4 → k j < z) (h : stp k H T S E C D 4 = some (al, sh, S', E', C', D')) : al.length = ndI 4 ∧ mOK z S' E' C' D' (stH sh (alH k 0 al H)) (alT k 0 al T) := by
  obtain ⟨oH, oT, oS, oE, oC, oD⟩ := hM
  rw [stp_4] at h
  split at h
  rotate_left
  · cases h
  cases h
  exact ⟨rfl, (okA_upd (okA_upd (okA_upd (okA_upd oH (okV_of oT oC)) oE) (okV_of oT (okV_of oT oS))) (okV_of oH (okV_of oT oS))), (okA_upd (okA_upd (okA_upd (okA_upd oT oD) (hk 0 (by decide))) (hk 1 (by decide))) (okV_of oT (okV_of oH oS))), trivial, (hk 3 (by decide)), (okV_of oH (okV_of oH oS)), (hk 2 (by decide))⟩
theorem OK_5 (hM : mOK z S E C D H T) (hk : ∀ j, j < ndI 5 → k j < z) (h : stp k H T S E C D 5 = some (al, sh, S', E', C', D')) : al.length = ndI 5 ∧ mOK z S' E' C' D' (stH sh (alH k 0 al H)) (alT k 0 al T) := by
  obtain ⟨oH, oT, oS, oE, oC, oD⟩ := hM
  rw [stp_5] at h
  cases h
  exact ⟨rfl, (okA_upd oH (okV_of oH oS)), (okA_upd oT (okV_of oH oD)), (hk 0 (by decide)), (okV_of oH (okV_of oT oD)), (okV_of oH (okV_of oT (okV_of oT oD))), (okV_of oT (okV_of oT (okV_of oT oD)))⟩
theorem OK_6 (hM : mOK z S E C D H T) (hk : ∀ j, j < ndI 6 → k j < z) (h : stp k H T S E C D 6 = some (al, sh, S', E', C', D')) : al.length = ndI 6 ∧ mOK z S' E' C' D' (stH sh (alH k 0 al H)) (alT k 0 al T) := by
  obtain ⟨oH, oT, oS, oE, oC, oD⟩ := hM
  rw [stp_6] at h
  cases h
  exact ⟨rfl, (okA_upd oH trivial), (okA_upd oT oE), oS, (hk 0 (by decide)), (okV_of oT oC), oD⟩
theorem OK_7 (hM : mOK z S E C D H T) (hk : ∀ j, j < ndI 7 → k j < z) (h : stp k H T S E C D 7 = some (al, sh, S', E', C', D')) : al.length = ndI 7 ∧ mOK z S' E' C' D' (stH sh (alH k 0 al H)) (alT k 0 al T) := by
  obtain ⟨oH, oT, oS, oE, oC, oD⟩ := hM
  rw [stp_7] at h
  split at h
  rotate_left
  · cases h
  cases h
  exact ⟨rfl, (okA_st (okA_upd (okA_upd (okA_upd oH (okV_of oT oC)) (okV_of oT oE)) (okV_of oT (okV_of oT oS))) (okV_of oH (okV_of oT oS))), (okA_upd (okA_upd (okA_upd oT oD) (hk 0 (by decide))) (hk 1 (by decide))), trivial, (okV_of oT (okV_of oH oS)), (okV_of oH (okV_of oH oS)), (hk 2 (by decide))⟩
theorem OK_8 (hM : mOK z S E C D H T) (hk : ∀ j, j < ndI 8 → k j < z) (h : stp k H T S E C D 8 = some (al, sh, S', E', C', D')) : al.length = ndI 8 ∧ mOK z S' E' C' D' (stH sh (alH k 0 al H)) (alT k 0 al T) := by
  obtain ⟨oH, oT, oS, oE, oC, oD⟩ := hM
  rw [stp_8] at h
  split at h
  rotate_left
  · cases h
  cases h
  exact ⟨rfl, (okA_upd oH (okV_of oT (okV_of oT (okV_of oT oC)))), (okA_upd oT oD), (okV_of oT oS), oE, (by split; exact okV_of oH (okV_of oT (okV_of oT oC)); exact okV_of oH (okV_of oT oC)), (hk 0 (by decide))⟩
theorem OK_9 (hM : mOK z S E C D H T) (hk : ∀ j, j < ndI 9 → k j < z) (h : stp k H T S E C D 9 = some (al, sh, S', E', C', D')) : al.length = ndI 9 ∧ mOK z S' E' C' D' (stH sh (alH k 0 al H)) (alT k 0 al T) := by
  obtain ⟨oH, oT, oS, oE, oC, oD⟩ := hM
  rw [stp_9] at h
  cases h
  exact ⟨rfl, oH, oT, oS, oE, (okV_of oH oD), (okV_of oT oD)⟩
theorem OK_10 (hM : mOK z S E C D H T) (hk : ∀ j, j < ndI 10 → k j < z) (h : stp k H T S E C D 10 = some (al, sh, S', E', C', D')) : al.length = ndI 10 ∧ mOK z S' E' C' D' (stH sh (alH k 0 al H)) (alT k 0 al T) := by
  obtain ⟨oH, oT, oS, oE, oC, oD⟩ := hM
  rw [stp_10] at h
  split at h
  rotate_left
  · cases h
  cases h
  exact ⟨rfl, (okA_upd oH (okV_of oH (okV_of oH oS))), (okA_upd oT (okV_of oT oS)), (hk 0 (by decide)), oE, (okV_of oT oC), oD⟩
theorem OK_11 (hM : mOK z S E C D H T) (hk : ∀ j, j < ndI 11 → k j < z) (h : stp k H T S E C D 11 = some (al, sh, S', E', C', D')) : al.length = ndI 11 ∧ mOK z S' E' C' D' (stH sh (alH k 0 al H)) (alT k 0 al T) := by
  obtain ⟨oH, oT, oS, oE, oC, oD⟩ := hM
  rw [stp_11] at h
  split at h
  rotate_left
  · cases h
  cases h
  exact ⟨rfl, (okA_upd oH (okV_of oT (okV_of oH oS))), (okA_upd oT (okV_of oT oS)), (hk 0 (by decide)), oE, (okV_of oT oC), oD⟩
theorem OK_12 (hM : mOK z S E C D H T) (hk : ∀ j, j < ndI 12 → k j < z) (h : stp k H T S E C D 12 = some (al, sh, S', E', C', D')) : al.length = ndI 12 ∧ mOK z S' E' C' D' (stH sh (alH k 0 al H)) (alT k 0 al T) := by
  obtain ⟨oH, oT, oS, oE, oC, oD⟩ := hM
  rw [stp_12] at h
  cases h
  exact ⟨rfl, (okA_upd oH trivial), (okA_upd oT (okV_of oT oS)), (hk 0 (by decide)), oE, (okV_of oT oC), oD⟩
theorem OK_13 (hM : mOK z S E C D H T) (hk : ∀ j, j < ndI 13 → k j < z) (h : stp k H T S E C D 13 = some (al, sh, S', E', C', D')) : al.length = ndI 13 ∧ mOK z S' E' C' D' (stH sh (alH k 0 al H)) (alT k 0 al T) := by
  obtain ⟨oH, oT, oS, oE, oC, oD⟩ := hM
  rw [stp_13] at h
  cases h
  exact ⟨rfl, (okA_upd (okA_upd oH (okV_of oH oS)) (hk 0 (by decide))), (okA_upd (okA_upd oT (okV_of oH (okV_of oT oS))) (okV_of oT (okV_of oT oS))), (hk 1 (by decide)), oE, (okV_of oT oC), oD⟩
theorem OK_14 (hM : mOK z S E C D H T) (hk : ∀ j, j < ndI 14 → k j < z) (h : stp k H T S E C D 14 = some (al, sh, S', E', C', D')) : al.length = ndI 14 ∧ mOK z S' E' C' D' (stH sh (alH k 0 al H)) (alT k 0 al T) := by
  obtain ⟨oH, oT, oS, oE, oC, oD⟩ := hM
  rw [stp_14] at h
  cases h
  exact ⟨rfl, (okA_upd oH trivial), (okA_upd oT (okV_of oT (okV_of oT oS))), (hk 0 (by decide)), oE, (okV_of oT oC), oD⟩
theorem OK_15 (hM : mOK z S E C D H T) (hk : ∀ j, j < ndI 15 → k j < z) (h : stp k H T S E C D 15 = some (al, sh, S', E', C', D')) : al.length = ndI 15 ∧ mOK z S' E' C' D' (stH sh (alH k 0 al H)) (alT k 0 al T) := by
  obtain ⟨oH, oT, oS, oE, oC, oD⟩ := hM
  rw [stp_15] at h
  split at h
  rotate_left
  · cases h
  cases h
  exact ⟨rfl, (okA_upd oH trivial), (okA_upd oT (okV_of oT (okV_of oT oS))), (hk 0 (by decide)), oE, (okV_of oT oC), oD⟩
theorem OK_16 (hM : mOK z S E C D H T) (hk : ∀ j, j < ndI 16 → k j < z) (h : stp k H T S E C D 16 = some (al, sh, S', E', C', D')) : al.length = ndI 16 ∧ mOK z S' E' C' D' (stH sh (alH k 0 al H)) (alT k 0 al T) := by
  obtain ⟨oH, oT, oS, oE, oC, oD⟩ := hM
  rw [stp_16] at h
  split at h
  rotate_left
  · cases h
  cases h
  exact ⟨rfl, (okA_upd oH trivial), (okA_upd oT (okV_of oT (okV_of oT oS))), (hk 0 (by decide)), oE, (okV_of oT oC), oD⟩
theorem OK_17 (hM : mOK z S E C D H T) (hk : ∀ j, j < ndI 17 → k j < z) (h : stp k H T S E C D 17 = some (al, sh, S', E', C', D')) : al.length = ndI 17 ∧ mOK z S' E' C' D' (stH sh (alH k 0 al H)) (alT k 0 al T) := by
  obtain ⟨oH, oT, oS, oE, oC, oD⟩ := hM
  rw [stp_17] at h
  split at h
  rotate_left
  · cases h
  cases h
  exact ⟨rfl, (okA_upd oH trivial), (okA_upd oT (okV_of oT (okV_of oT oS))), (hk 0 (by decide)), oE, (okV_of oT oC), oD⟩
theorem OK_18 (hM : mOK z S E C D H T) (hk : ∀ j, j < ndI 18 → k j < z) (h : stp k H T S E C D 18 = some (al, sh, S', E', C', D')) : al.length = ndI 18 ∧ mOK z S' E' C' D' (stH sh (alH k 0 al H)) (alT k 0 al T) := by
  obtain ⟨oH, oT, oS, oE, oC, oD⟩ := hM
  rw [stp_18] at h
  split at h
  rotate_left
  · cases h
  cases h
  exact ⟨rfl, (okA_upd oH trivial), (okA_upd oT (okV_of oT (okV_of oT oS))), (hk 0 (by decide)), oE, (okV_of oT oC), oD⟩
theorem OK_all {x : Int32} (hx : 1 ≤ x ∧ x ≤ 18) (hM : mOK z S E C D H T) (hk : ∀ j, j < ndI x → k j < z) (h : stp k H T S E C D x = some (al, sh, S', E', C', D')) : al.length = ndI x ∧ mOK z S' E' C' D' (stH sh (alH k 0 al H)) (alT k 0 al T) := by
  obtain ⟨h1, h2⟩ := hx
  obtain ⟨j, hj, rfl⟩ := nI_of (Int32.not_lt.mpr (Int32.le_trans (by decide : (0 : Int32) ≤ 1) h1))
  have g1 : 1 ≤ j := (nI_leI (a := 1) (by decide) hj).mp h1
  have g2 : j ≤ 18 := (nI_leI (b := 18) hj (by decide)).mp h2
  have : j = 1 ∨ j = 2 ∨ j = 3 ∨ j = 4 ∨ j = 5 ∨ j = 6 ∨ j = 7 ∨ j = 8 ∨ j = 9 ∨ j = 10 ∨ j = 11 ∨ j = 12 ∨ j = 13 ∨ j = 14 ∨ j = 15 ∨ j = 16 ∨ j = 17 ∨ j = 18 := by omega
  rcases this with rfl | rfl | rfl | rfl | rfl | rfl | rfl | rfl | rfl | rfl | rfl | rfl | rfl | rfl | rfl | rfl | rfl | rfl
  · exact OK_1 hM hk h
  · exact OK_2 hM hk h
  · exact OK_3 hM hk h
  · exact OK_4 hM hk h
  · exact OK_5 hM hk h
  · exact OK_6 hM hk h
  · exact OK_7 hM hk h
  · exact OK_8 hM hk h
  · exact OK_9 hM hk h
  · exact OK_10 hM hk h
  · exact OK_11 hM hk h
  · exact OK_12 hM hk h
  · exact OK_13 hM hk h
  · exact OK_14 hM hk h
  · exact OK_15 hM hk h
  · exact OK_16 hM hk h
  · exact OK_17 hM hk h
  · exact OK_18 hM hk h
end ZKD
def AX (A : Nat → Prop) (H T : Nat → Vl) (S E C D : Vl) (x : Int32) : Prop := clo A H T ∧ (inU A S ∧ inU A E ∧ inU A C ∧ inU A D) ∧ (isL_ S ∧ isL_ (ofV T S)) ∧ (x = 2 → ∃ n, n < 10000 ∧ ofV H (ofV T C) = vInt (nI n)) ∧ (x = 7 → isL_ (ofV T (ofV H S)) ∧ ∀ a, ceV (ofV H S) = some a → ¬ ceV (ofV T (ofV H S)) = some a)
section ZKE
variable {m b0 b1 : Nat} {op : Bool} {tl : List mj_O} {Q : mj_R → Prop} {xs : List Int32} {o0 o1 o2 o3 o4 o5 o6 o7 o8 o9 o10 o11 o12 o13 o14 o15 : mj_O} {S E C D : Vl} {mode colls taken steps : Int32} {z : Nat} {H T : Nat → Vl} {fr : Nat → Nat} {g : gS} {f c : Nat} {k : Int32} {n : Nat} {fb : Nat → Nat} {R : Nat → Vl} {A : Nat → Prop} {kk : Nat → Nat}
set_option maxRecDepth 10000
theorem X_constant (hX : AX A H T S E C D 1) (hk : ∀ j, j < 1 → kk j = fr (f + 1 - 1 - j) ∧ ¬ A (kk j)) (hz : z ≤ 250) (hM : mOK z S E C D H T) (hfr : ∀ j, j < z → fr j < z) (hf : f + 1 ≤ z) (h0 : stp kk H T S E C D 1 = none → Q (.inl (some (.int 0)), (fW o0 o1 o2 o3 o4 o5 o6 o7 o8 o9 o10 o11 o12 o13 o14 o15 S E C D mode colls taken steps z H T fr g (f + 1) c k n fb R tl, b0, b1, op))) (h1 : ∀ al sh S' E' C' D', stp kk H T S E C D 1 = some (al, sh, S', E', C', D') → Q (.inl (some (.int 1)), (fW o0 o1 o2 o3 o4 o5 o6 o7 o8 o9 o10 o11 o12 o13 o14 o15 S' E' C' D' mode colls taken steps z (stH sh (alH kk 0 al H)) (alT kk 0 al T) fr g f c k n fb R tl, b0, b1, op))) : mj_Mt gT (law_cst xs) gnw (m + 3) y_Machine_constant [.ref 16] (fW o0 o1 o2 o3 o4 o5 o6 o7 o8 o9 o10 o11 o12 o13 o14 o15 S E C D mode colls taken steps z H T fr g (f + 1) c k n fb R tl, b0, b1, op) Q := by
  obtain ⟨hc, ⟨uS, uE, uC, uD⟩, ⟨l1, l2⟩, a2, a7⟩ := hX
  obtain ⟨hA, hB, hS, hE, hC, hD⟩ := hM
  have uTC := clo_T hc uC
  have k0 : kk 0 = fr f := by rw [(hk 0 (by decide)).1, show f + 1 - 1 - 0 = f by omega]
  have n0 : ¬ A (fr f) := by rw [← k0]; exact (hk 0 (by decide)).2
  refine k_constant hz hA hB hfr hS hE hC hD (by omega) ?_
  have hq := h1 _ _ _ _ _ _ stp_1
  rw [ofV_nf uTC n0]
  rw [← k0]
  exact hq
theorem X_variable (hX : AX A H T S E C D 2) (hk : ∀ j, j < 1 → kk j = fr (f + 1 - 1 - j) ∧ ¬ A (kk j)) (hz : z ≤ 250) (hM : mOK z S E C D H T) (hfr : ∀ j, j < z → fr j < z) (hf : f + 1 ≤ z) (h0 : stp kk H T S E C D 2 = none → Q (.inl (some (.int 0)), (fW o0 o1 o2 o3 o4 o5 o6 o7 o8 o9 o10 o11 o12 o13 o14 o15 S E C D mode colls taken steps z H T fr g (f + 1) c k n fb R tl, b0, b1, op))) (h1 : ∀ al sh S' E' C' D', stp kk H T S E C D 2 = some (al, sh, S', E', C', D') → Q (.inl (some (.int 1)), (fW o0 o1 o2 o3 o4 o5 o6 o7 o8 o9 o10 o11 o12 o13 o14 o15 S' E' C' D' mode colls taken steps z (stH sh (alH kk 0 al H)) (alT kk 0 al T) fr g f c k n fb R tl, b0, b1, op))) : mj_Mt gT (law_cst xs) gnw (m + 4) y_Machine_variable [.ref 16] (fW o0 o1 o2 o3 o4 o5 o6 o7 o8 o9 o10 o11 o12 o13 o14 o15 S E C D mode colls taken steps z H T fr g (f + 1) c k n fb R tl, b0, b1, op) Q := by
  obtain ⟨hc, ⟨uS, uE, uC, uD⟩, ⟨l1, l2⟩, a2, a7⟩ := hX
  obtain ⟨hA, hB, hS, hE, hC, hD⟩ := hM
  have uTC := clo_T hc uC
  have k0 : kk 0 = fr f := by rw [(hk 0 (by decide)).1, show f + 1 - 1 - 0 = f by omega]
  have n0 : ¬ A (fr f) := by rw [← k0]; exact (hk 0 (by decide)).2
  obtain ⟨nn, hn, en⟩ := a2 rfl
  have ei : (iV (ofV H (ofV T C))).toNatClampNeg = nn := by rw [en]; exact nI_clamp (by omega)
  have sp := stp_2 (k := kk) (H := H) (T := T) (S := S) (E := E) (C := C) (D := D)
  rw [ei] at sp
  refine k_variable (n := nn) hn (iV_enc en) hz hA hB hfr hS hE hC hD (by omega) (fun q => ?_) (fun q1 q2 => ?_) (fun q1 q2 => ?_)
  · exact h0 (by rw [sp, if_neg q])
  · exact h0 (by rw [sp, if_pos q1, if_neg q2])
  · have hq := h1 _ _ _ _ _ _ (by rw [sp, if_pos q1, if_pos q2])
    rw [ofV_nf uTC n0]
    rw [← k0]
    exact hq
theorem X_function (hX : AX A H T S E C D 3) (hk : ∀ j, j < 2 → kk j = fr (f + 2 - 1 - j) ∧ ¬ A (kk j)) (hz : z ≤ 250) (hM : mOK z S E C D H T) (hfr : ∀ j, j < z → fr j < z) (hf : f + 2 ≤ z) (h0 : stp kk H T S E C D 3 = none → Q (.inl (some (.int 0)), (fW o0 o1 o2 o3 o4 o5 o6 o7 o8 o9 o10 o11 o12 o13 o14 o15 S E C D mode colls taken steps z H T fr g (f + 2) c k n fb R tl, b0, b1, op))) (h1 : ∀ al sh S' E' C' D', stp kk H T S E C D 3 = some (al, sh, S', E', C', D') → Q (.inl (some (.int 1)), (fW o0 o1 o2 o3 o4 o5 o6 o7 o8 o9 o10 o11 o12 o13 o14 o15 S' E' C' D' mode colls taken steps z (stH sh (alH kk 0 al H)) (alT kk 0 al T) fr g f c k n fb R tl, b0, b1, op))) : mj_Mt gT (law_cst xs) gnw (m + 3) y_Machine_function [.ref 16] (fW o0 o1 o2 o3 o4 o5 o6 o7 o8 o9 o10 o11 o12 o13 o14 o15 S E C D mode colls taken steps z H T fr g (f + 2) c k n fb R tl, b0, b1, op) Q := by
  obtain ⟨hc, ⟨uS, uE, uC, uD⟩, ⟨l1, l2⟩, a2, a7⟩ := hX
  obtain ⟨hA, hB, hS, hE, hC, hD⟩ := hM
  have uTC := clo_T hc uC
  have k0 : kk 0 = fr (f + 1) := by rw [(hk 0 (by decide)).1, show f + 2 - 1 - 0 = f + 1 by omega]
  have n0 : ¬ A (fr (f + 1)) := by rw [← k0]; exact (hk 0 (by decide)).2
  have k1 : kk 1 = fr f := by rw [(hk 1 (by decide)).1, show f + 2 - 1 - 1 = f by omega]
  have n1 : ¬ A (fr f) := by rw [← k1]; exact (hk 1 (by decide)).2
  refine k_function hz hA hB hfr hS hE hC hD (by omega) ?_
  have hq := h1 _ _ _ _ _ _ stp_3
  rw [ofV_nf uTC n1, ofV_nf uTC n0]
  rw [← k1, ← k0]
  exact hq
theorem X_apply (hX : AX A H T S E C D 4) (hk : ∀ j, j < 4 → kk j = fr (f + 4 - 1 - j) ∧ ¬ A (kk j)) (hz : z ≤ 250) (hM : mOK z S E C D H T) (hfr : ∀ j, j < z → fr j < z) (hf : f + 4 ≤ z) (h0 : stp kk H T S E C D 4 = none → Q (.inl (some (.int 0)), (fW o0 o1 o2 o3 o4 o5 o6 o7 o8 o9 o10 o11 o12 o13 o14 o15 S E C D mode colls taken steps z H T fr g (f + 4) c k n fb R tl, b0, b1, op))) (h1 : ∀ al sh S' E' C' D', stp kk H T S E C D 4 = some (al, sh, S', E', C', D') → Q (.inl (some (.int 1)), (fW o0 o1 o2 o3 o4 o5 o6 o7 o8 o9 o10 o11 o12 o13 o14 o15 S' E' C' D' mode colls taken steps z (stH sh (alH kk 0 al H)) (alT kk 0 al T) fr g f c k n fb R tl, b0, b1, op))) : mj_Mt gT (law_cst xs) gnw (m + 4) y_Machine_apply [.ref 16] (fW o0 o1 o2 o3 o4 o5 o6 o7 o8 o9 o10 o11 o12 o13 o14 o15 S E C D mode colls taken steps z H T fr g (f + 4) c k n fb R tl, b0, b1, op) Q := by
  obtain ⟨hc, ⟨uS, uE, uC, uD⟩, ⟨l1, l2⟩, a2, a7⟩ := hX
  obtain ⟨hA, hB, hS, hE, hC, hD⟩ := hM
  have uHS := clo_H hc uS
  have k0 : kk 0 = fr (f + 3) := by rw [(hk 0 (by decide)).1, show f + 4 - 1 - 0 = f + 3 by omega]
  have n0 : ¬ A (fr (f + 3)) := by rw [← k0]; exact (hk 0 (by decide)).2
  have k1 : kk 1 = fr (f + 2) := by rw [(hk 1 (by decide)).1, show f + 4 - 1 - 1 = f + 2 by omega]
  have n1 : ¬ A (fr (f + 2)) := by rw [← k1]; exact (hk 1 (by decide)).2
  have k2 : kk 2 = fr (f + 1) := by rw [(hk 2 (by decide)).1, show f + 4 - 1 - 2 = f + 1 by omega]
  have n2 : ¬ A (fr (f + 1)) := by rw [← k2]; exact (hk 2 (by decide)).2
  have k3 : kk 3 = fr f := by rw [(hk 3 (by decide)).1, show f + 4 - 1 - 3 = f by omega]
  have n3 : ¬ A (fr f) := by rw [← k3]; exact (hk 3 (by decide)).2
  refine k_apply hz hA hB hfr hS hE hC hD (by omega) (fun q => ?_) (fun q => ?_)
  · exact h0 (by rw [stp_4, if_neg q])
  · have hq := h1 _ _ _ _ _ _ (by rw [stp_4, if_pos q])
    rw [ofV_nf uHS n3, ofV_nf uHS n2, ofV_nf uHS n1, ofV_nf uHS n0, ofV_nf uHS n2, ofV_nf uHS n1, ofV_nf uHS n0]
    rw [← k3, ← k2, ← k1, ← k0]
    exact hq
theorem X_giveBack (hX : AX A H T S E C D 5) (hk : ∀ j, j < 1 → kk j = fr (f + 1 - 1 - j) ∧ ¬ A (kk j)) (hz : z ≤ 250) (hM : mOK z S E C D H T) (hfr : ∀ j, j < z → fr j < z) (hf : f + 1 ≤ z) (h0 : stp kk H T S E C D 5 = none → Q (.inl (some (.int 0)), (fW o0 o1 o2 o3 o4 o5 o6 o7 o8 o9 o10 o11 o12 o13 o14 o15 S E C D mode colls taken steps z H T fr g (f + 1) c k n fb R tl, b0, b1, op))) (h1 : ∀ al sh S' E' C' D', stp kk H T S E C D 5 = some (al, sh, S', E', C', D') → Q (.inl (some (.int 1)), (fW o0 o1 o2 o3 o4 o5 o6 o7 o8 o9 o10 o11 o12 o13 o14 o15 S' E' C' D' mode colls taken steps z (stH sh (alH kk 0 al H)) (alT kk 0 al T) fr g f c k n fb R tl, b0, b1, op))) : mj_Mt gT (law_cst xs) gnw (m + 3) y_Machine_giveBack [.ref 16] (fW o0 o1 o2 o3 o4 o5 o6 o7 o8 o9 o10 o11 o12 o13 o14 o15 S E C D mode colls taken steps z H T fr g (f + 1) c k n fb R tl, b0, b1, op) Q := by
  obtain ⟨hc, ⟨uS, uE, uC, uD⟩, ⟨l1, l2⟩, a2, a7⟩ := hX
  obtain ⟨hA, hB, hS, hE, hC, hD⟩ := hM
  have uTD := clo_T hc uD
  have uTTD := clo_T hc uTD
  have k0 : kk 0 = fr f := by rw [(hk 0 (by decide)).1, show f + 1 - 1 - 0 = f by omega]
  have n0 : ¬ A (fr f) := by rw [← k0]; exact (hk 0 (by decide)).2
  refine k_giveBack hz hA hB hfr hS hE hC hD (by omega) ?_
  have hq := h1 _ _ _ _ _ _ stp_5
  rw [ofV_nf uTD n0, ofV_nf uTTD n0, ofV_nf uTTD n0]
  rw [← k0]
  exact hq
theorem X_frame (hX : AX A H T S E C D 6) (hk : ∀ j, j < 1 → kk j = fr (f + 1 - 1 - j) ∧ ¬ A (kk j)) (hz : z ≤ 250) (hM : mOK z S E C D H T) (hfr : ∀ j, j < z → fr j < z) (hf : f + 1 ≤ z) (h0 : stp kk H T S E C D 6 = none → Q (.inl (some (.int 0)), (fW o0 o1 o2 o3 o4 o5 o6 o7 o8 o9 o10 o11 o12 o13 o14 o15 S E C D mode colls taken steps z H T fr g (f + 1) c k n fb R tl, b0, b1, op))) (h1 : ∀ al sh S' E' C' D', stp kk H T S E C D 6 = some (al, sh, S', E', C', D') → Q (.inl (some (.int 1)), (fW o0 o1 o2 o3 o4 o5 o6 o7 o8 o9 o10 o11 o12 o13 o14 o15 S' E' C' D' mode colls taken steps z (stH sh (alH kk 0 al H)) (alT kk 0 al T) fr g f c k n fb R tl, b0, b1, op))) : mj_Mt gT (law_cst xs) gnw (m + 3) y_Machine_frame [.ref 16] (fW o0 o1 o2 o3 o4 o5 o6 o7 o8 o9 o10 o11 o12 o13 o14 o15 S E C D mode colls taken steps z H T fr g (f + 1) c k n fb R tl, b0, b1, op) Q := by
  obtain ⟨hc, ⟨uS, uE, uC, uD⟩, ⟨l1, l2⟩, a2, a7⟩ := hX
  obtain ⟨hA, hB, hS, hE, hC, hD⟩ := hM
  have k0 : kk 0 = fr f := by rw [(hk 0 (by decide)).1, show f + 1 - 1 - 0 = f by omega]
  have n0 : ¬ A (fr f) := by rw [← k0]; exact (hk 0 (by decide)).2
  refine k_frame hz hA hB hfr hS hE hC hD (by omega) ?_
  have hq := h1 _ _ _ _ _ _ stp_6
  rw [ofV_nf uC n0]
  rw [← k0]
  exact hq
theorem X_applyInFrame (hX : AX A H T S E C D 7) (hk : ∀ j, j < 3 → kk j = fr (f + 3 - 1 - j) ∧ ¬ A (kk j)) (hz : z ≤ 250) (hM : mOK z S E C D H T) (hfr : ∀ j, j < z → fr j < z) (hf : f + 3 ≤ z) (h0 : stp kk H T S E C D 7 = none → Q (.inl (some (.int 0)), (fW o0 o1 o2 o3 o4 o5 o6 o7 o8 o9 o10 o11 o12 o13 o14 o15 S E C D mode colls taken steps z H T fr g (f + 3) c k n fb R tl, b0, b1, op))) (h1 : ∀ al sh S' E' C' D', stp kk H T S E C D 7 = some (al, sh, S', E', C', D') → Q (.inl (some (.int 1)), (fW o0 o1 o2 o3 o4 o5 o6 o7 o8 o9 o10 o11 o12 o13 o14 o15 S' E' C' D' mode colls taken steps z (stH sh (alH kk 0 al H)) (alT kk 0 al T) fr g f c k n fb R tl, b0, b1, op))) : mj_Mt gT (law_cst xs) gnw (m + 4) y_Machine_applyInFrame [.ref 16] (fW o0 o1 o2 o3 o4 o5 o6 o7 o8 o9 o10 o11 o12 o13 o14 o15 S E C D mode colls taken steps z H T fr g (f + 3) c k n fb R tl, b0, b1, op) Q := by
  obtain ⟨hc, ⟨uS, uE, uC, uD⟩, ⟨l1, l2⟩, a2, a7⟩ := hX
  obtain ⟨hA, hB, hS, hE, hC, hD⟩ := hM
  have uHS := clo_H hc uS
  have k0 : kk 0 = fr (f + 2) := by rw [(hk 0 (by decide)).1, show f + 3 - 1 - 0 = f + 2 by omega]
  have n0 : ¬ A (fr (f + 2)) := by rw [← k0]; exact (hk 0 (by decide)).2
  have k1 : kk 1 = fr (f + 1) := by rw [(hk 1 (by decide)).1, show f + 3 - 1 - 1 = f + 1 by omega]
  have n1 : ¬ A (fr (f + 1)) := by rw [← k1]; exact (hk 1 (by decide)).2
  have k2 : kk 2 = fr f := by rw [(hk 2 (by decide)).1, show f + 3 - 1 - 2 = f by omega]
  have n2 : ¬ A (fr f) := by rw [← k2]; exact (hk 2 (by decide)).2
  obtain ⟨l7, d7⟩ := a7 rfl
  have eT : ofV (upW (upW (upW T (fr (f + 2)) D) (fr (f + 1)) (vPr (fr (f + 2)))) (fr f) (vPr (fr (f + 1)))) (ofV H S) = ofV T (ofV H S) := by rw [ofV_nf uHS n2, ofV_nf uHS n1, ofV_nf uHS n0]
  have eC : ofV (upW (upW (upW H (fr (f + 2)) (ofV T C)) (fr (f + 1)) (ofV T E)) (fr f) (ofV T (ofV T S))) (ofV H S) = ofV H (ofV H S) := by rw [ofV_nf uHS n2, ofV_nf uHS n1, ofV_nf uHS n0]
  refine k_applyInFrame hz hA hB hfr hS hE hC hD (by omega) (fun q => ?_) (fun q i hi hiz => ?_) (fun q hi => ?_)
  · exact h0 (by rw [stp_7, if_neg q])
  · have hq := h1 _ _ _ _ _ _ (by rw [stp_7, if_pos q])
    rw [eT] at hi
    have ei : ofV T (ofV H S) = vPr i := by
      rcases l7 with e | ⟨j, e⟩
      · rw [e] at hi
        exact absurd hi.symm (nI_nn (by omega))
      · rw [e] at hi ⊢
        have hj : j < z := by
          have := okV_of hB (okV_of hA hS)
          rw [e] at this
          exact this
        rw [nIj (i := j) (j := i) (by omega) (by omega) hi]
    have ne : ¬ ceV (ofV H S) = some i := fun w => d7 i w (by rw [ei]; rfl)
    rw [eT, ofV_ne ne, eC]
    rw [← k2, ← k1, ← k0]
    rw [ei] at hq ⊢
    exact hq
  · have hq := h1 _ _ _ _ _ _ (by rw [stp_7, if_pos q])
    rw [eT] at hi
    have ei : ofV T (ofV H S) = vNil := by
      rcases l7 with e | ⟨j, e⟩
      · exact e
      · rw [e] at hi
        have hj : j < z := by
          have := okV_of hB (okV_of hA hS)
          rw [e] at this
          exact this
        exact absurd hi (nI_nn (by omega))
    rw [eT, eC]
    rw [← k2, ← k1, ← k0]
    rw [ei] at hq ⊢
    exact hq
theorem X_choose (hX : AX A H T S E C D 8) (hk : ∀ j, j < 1 → kk j = fr (f + 1 - 1 - j) ∧ ¬ A (kk j)) (hz : z ≤ 250) (hM : mOK z S E C D H T) (hfr : ∀ j, j < z → fr j < z) (hf : f + 1 ≤ z) (h0 : stp kk H T S E C D 8 = none → Q (.inl (some (.int 0)), (fW o0 o1 o2 o3 o4 o5 o6 o7 o8 o9 o10 o11 o12 o13 o14 o15 S E C D mode colls taken steps z H T fr g (f + 1) c k n fb R tl, b0, b1, op))) (h1 : ∀ al sh S' E' C' D', stp kk H T S E C D 8 = some (al, sh, S', E', C', D') → Q (.inl (some (.int 1)), (fW o0 o1 o2 o3 o4 o5 o6 o7 o8 o9 o10 o11 o12 o13 o14 o15 S' E' C' D' mode colls taken steps z (stH sh (alH kk 0 al H)) (alT kk 0 al T) fr g f c k n fb R tl, b0, b1, op))) : mj_Mt gT (law_cst xs) gnw (m + 3) y_Machine_choose [.ref 16] (fW o0 o1 o2 o3 o4 o5 o6 o7 o8 o9 o10 o11 o12 o13 o14 o15 S E C D mode colls taken steps z H T fr g (f + 1) c k n fb R tl, b0, b1, op) Q := by
  obtain ⟨hc, ⟨uS, uE, uC, uD⟩, ⟨l1, l2⟩, a2, a7⟩ := hX
  obtain ⟨hA, hB, hS, hE, hC, hD⟩ := hM
  have uTC := clo_T hc uC
  have uTTC := clo_T hc uTC
  have k0 : kk 0 = fr f := by rw [(hk 0 (by decide)).1, show f + 1 - 1 - 0 = f by omega]
  have n0 : ¬ A (fr f) := by rw [← k0]; exact (hk 0 (by decide)).2
  refine k_choose hz hA hB hfr hS hE hC hD (by omega) (fun q => ?_) (fun q w => ?_) (fun q w => ?_)
  · exact h0 (by rw [stp_8, if_neg q])
  · have hq := h1 _ _ _ _ _ _ (by rw [stp_8, if_pos q])
    rw [(kV_int q).2] at w
    rw [if_neg w] at hq
    rw [ofV_nf uTC n0]
    rw [← k0]
    exact hq
  · have hq := h1 _ _ _ _ _ _ (by rw [stp_8, if_pos q])
    rw [(kV_int q).2] at w
    rw [if_pos w] at hq
    rw [ofV_nf uTTC n0]
    rw [← k0]
    exact hq
theorem X_rejoin (hX : AX A H T S E C D 9) (hk : ∀ j, j < 0 → kk j = fr (f + 0 - 1 - j) ∧ ¬ A (kk j)) (hz : z ≤ 250) (hM : mOK z S E C D H T) (hfr : ∀ j, j < z → fr j < z) (hf : f ≤ z) (h0 : stp kk H T S E C D 9 = none → Q (.inl (some (.int 0)), (fW o0 o1 o2 o3 o4 o5 o6 o7 o8 o9 o10 o11 o12 o13 o14 o15 S E C D mode colls taken steps z H T fr g f c k n fb R tl, b0, b1, op))) (h1 : ∀ al sh S' E' C' D', stp kk H T S E C D 9 = some (al, sh, S', E', C', D') → Q (.inl (some (.int 1)), (fW o0 o1 o2 o3 o4 o5 o6 o7 o8 o9 o10 o11 o12 o13 o14 o15 S' E' C' D' mode colls taken steps z (stH sh (alH kk 0 al H)) (alT kk 0 al T) fr g f c k n fb R tl, b0, b1, op))) : mj_Mt gT (law_cst xs) gnw (m + 3) y_Machine_rejoin [.ref 16] (fW o0 o1 o2 o3 o4 o5 o6 o7 o8 o9 o10 o11 o12 o13 o14 o15 S E C D mode colls taken steps z H T fr g f c k n fb R tl, b0, b1, op) Q := by
  obtain ⟨hc, ⟨uS, uE, uC, uD⟩, ⟨l1, l2⟩, a2, a7⟩ := hX
  obtain ⟨hA, hB, hS, hE, hC, hD⟩ := hM
  refine k_rejoin hz hA hB hfr hS hE hC hD ?_
  have hq := h1 _ _ _ _ _ _ stp_9
  exact hq
theorem X_partOfPair10 (hX : AX A H T S E C D 10) (hk : ∀ j, j < 1 → kk j = fr (f + 1 - 1 - j) ∧ ¬ A (kk j)) (hz : z ≤ 250) (hM : mOK z S E C D H T) (hfr : ∀ j, j < z → fr j < z) (hf : f + 1 ≤ z) (h0 : stp kk H T S E C D 10 = none → Q (.inl (some (.int 0)), (fW o0 o1 o2 o3 o4 o5 o6 o7 o8 o9 o10 o11 o12 o13 o14 o15 S E C D mode colls taken steps z H T fr g (f + 1) c k n fb R tl, b0, b1, op))) (h1 : ∀ al sh S' E' C' D', stp kk H T S E C D 10 = some (al, sh, S', E', C', D') → Q (.inl (some (.int 1)), (fW o0 o1 o2 o3 o4 o5 o6 o7 o8 o9 o10 o11 o12 o13 o14 o15 S' E' C' D' mode colls taken steps z (stH sh (alH kk 0 al H)) (alT kk 0 al T) fr g f c k n fb R tl, b0, b1, op))) : mj_Mt gT (law_cst xs) gnw (m + 5) y_Machine_partOfPair [.ref 16, .int 10] (fW o0 o1 o2 o3 o4 o5 o6 o7 o8 o9 o10 o11 o12 o13 o14 o15 S E C D mode colls taken steps z H T fr g (f + 1) c k n fb R tl, b0, b1, op) Q := by
  obtain ⟨hc, ⟨uS, uE, uC, uD⟩, ⟨l1, l2⟩, a2, a7⟩ := hX
  obtain ⟨hA, hB, hS, hE, hC, hD⟩ := hM
  have k0 : kk 0 = fr f := by rw [(hk 0 (by decide)).1, show f + 1 - 1 - 0 = f by omega]
  have n0 : ¬ A (fr f) := by rw [← k0]; exact (hk 0 (by decide)).2
  refine k_partOfPair hz hA hB hfr hS hE hC hD (by omega) (fun q => ?_) (fun q w => ?_) (fun q w => ?_)
  · exact h0 (by rw [stp_10, if_neg q])
  · have hq := h1 _ _ _ _ _ _ (by rw [stp_10, if_pos q])
    rw [beh_1 l1, ofV_nf uC n0]
    rw [← k0]
    exact hq
  · exact absurd rfl w
theorem X_partOfPair11 (hX : AX A H T S E C D 11) (hk : ∀ j, j < 1 → kk j = fr (f + 1 - 1 - j) ∧ ¬ A (kk j)) (hz : z ≤ 250) (hM : mOK z S E C D H T) (hfr : ∀ j, j < z → fr j < z) (hf : f + 1 ≤ z) (h0 : stp kk H T S E C D 11 = none → Q (.inl (some (.int 0)), (fW o0 o1 o2 o3 o4 o5 o6 o7 o8 o9 o10 o11 o12 o13 o14 o15 S E C D mode colls taken steps z H T fr g (f + 1) c k n fb R tl, b0, b1, op))) (h1 : ∀ al sh S' E' C' D', stp kk H T S E C D 11 = some (al, sh, S', E', C', D') → Q (.inl (some (.int 1)), (fW o0 o1 o2 o3 o4 o5 o6 o7 o8 o9 o10 o11 o12 o13 o14 o15 S' E' C' D' mode colls taken steps z (stH sh (alH kk 0 al H)) (alT kk 0 al T) fr g f c k n fb R tl, b0, b1, op))) : mj_Mt gT (law_cst xs) gnw (m + 5) y_Machine_partOfPair [.ref 16, .int 11] (fW o0 o1 o2 o3 o4 o5 o6 o7 o8 o9 o10 o11 o12 o13 o14 o15 S E C D mode colls taken steps z H T fr g (f + 1) c k n fb R tl, b0, b1, op) Q := by
  obtain ⟨hc, ⟨uS, uE, uC, uD⟩, ⟨l1, l2⟩, a2, a7⟩ := hX
  obtain ⟨hA, hB, hS, hE, hC, hD⟩ := hM
  have k0 : kk 0 = fr f := by rw [(hk 0 (by decide)).1, show f + 1 - 1 - 0 = f by omega]
  have n0 : ¬ A (fr f) := by rw [← k0]; exact (hk 0 (by decide)).2
  refine k_partOfPair hz hA hB hfr hS hE hC hD (by omega) (fun q => ?_) (fun q w => ?_) (fun q w => ?_)
  · exact h0 (by rw [stp_11, if_neg q])
  · exact absurd w (by decide)
  · have hq := h1 _ _ _ _ _ _ (by rw [stp_11, if_pos q])
    rw [beh_1 l1, ofV_nf uC n0]
    rw [← k0]
    exact hq
theorem X_isNoPair (hX : AX A H T S E C D 12) (hk : ∀ j, j < 1 → kk j = fr (f + 1 - 1 - j) ∧ ¬ A (kk j)) (hz : z ≤ 250) (hM : mOK z S E C D H T) (hfr : ∀ j, j < z → fr j < z) (hf : f + 1 ≤ z) (h0 : stp kk H T S E C D 12 = none → Q (.inl (some (.int 0)), (fW o0 o1 o2 o3 o4 o5 o6 o7 o8 o9 o10 o11 o12 o13 o14 o15 S E C D mode colls taken steps z H T fr g (f + 1) c k n fb R tl, b0, b1, op))) (h1 : ∀ al sh S' E' C' D', stp kk H T S E C D 12 = some (al, sh, S', E', C', D') → Q (.inl (some (.int 1)), (fW o0 o1 o2 o3 o4 o5 o6 o7 o8 o9 o10 o11 o12 o13 o14 o15 S' E' C' D' mode colls taken steps z (stH sh (alH kk 0 al H)) (alT kk 0 al T) fr g f c k n fb R tl, b0, b1, op))) : mj_Mt gT (law_cst xs) gnw (m + 5) y_Machine_isNoPair [.ref 16] (fW o0 o1 o2 o3 o4 o5 o6 o7 o8 o9 o10 o11 o12 o13 o14 o15 S E C D mode colls taken steps z H T fr g (f + 1) c k n fb R tl, b0, b1, op) Q := by
  obtain ⟨hc, ⟨uS, uE, uC, uD⟩, ⟨l1, l2⟩, a2, a7⟩ := hX
  obtain ⟨hA, hB, hS, hE, hC, hD⟩ := hM
  have k0 : kk 0 = fr f := by rw [(hk 0 (by decide)).1, show f + 1 - 1 - 0 = f by omega]
  have n0 : ¬ A (fr f) := by rw [← k0]; exact (hk 0 (by decide)).2
  refine k_isNoPair hz hA hB hfr hS hE hC hD (by omega) (fun q => ?_) (fun q => ?_)
  · have hq := h1 _ _ _ _ _ _ (by rw [stp_12, if_pos q])
    rw [beh_1 l1, ofV_nf uC n0]
    rw [← k0]
    exact hq
  · have hq := h1 _ _ _ _ _ _ (by rw [stp_12, if_neg q])
    rw [beh_1 l1, ofV_nf uC n0]
    rw [← k0]
    exact hq
theorem X_pair (hX : AX A H T S E C D 13) (hk : ∀ j, j < 2 → kk j = fr (f + 2 - 1 - j) ∧ ¬ A (kk j)) (hz : z ≤ 250) (hM : mOK z S E C D H T) (hfr : ∀ j, j < z → fr j < z) (hf : f + 2 ≤ z) (h0 : stp kk H T S E C D 13 = none → Q (.inl (some (.int 0)), (fW o0 o1 o2 o3 o4 o5 o6 o7 o8 o9 o10 o11 o12 o13 o14 o15 S E C D mode colls taken steps z H T fr g (f + 2) c k n fb R tl, b0, b1, op))) (h1 : ∀ al sh S' E' C' D', stp kk H T S E C D 13 = some (al, sh, S', E', C', D') → Q (.inl (some (.int 1)), (fW o0 o1 o2 o3 o4 o5 o6 o7 o8 o9 o10 o11 o12 o13 o14 o15 S' E' C' D' mode colls taken steps z (stH sh (alH kk 0 al H)) (alT kk 0 al T) fr g f c k n fb R tl, b0, b1, op))) : mj_Mt gT (law_cst xs) gnw (m + 5) y_Machine_pair [.ref 16] (fW o0 o1 o2 o3 o4 o5 o6 o7 o8 o9 o10 o11 o12 o13 o14 o15 S E C D mode colls taken steps z H T fr g (f + 2) c k n fb R tl, b0, b1, op) Q := by
  obtain ⟨hc, ⟨uS, uE, uC, uD⟩, ⟨l1, l2⟩, a2, a7⟩ := hX
  obtain ⟨hA, hB, hS, hE, hC, hD⟩ := hM
  have k0 : kk 0 = fr (f + 1) := by rw [(hk 0 (by decide)).1, show f + 2 - 1 - 0 = f + 1 by omega]
  have n0 : ¬ A (fr (f + 1)) := by rw [← k0]; exact (hk 0 (by decide)).2
  have k1 : kk 1 = fr f := by rw [(hk 1 (by decide)).1, show f + 2 - 1 - 1 = f by omega]
  have n1 : ¬ A (fr f) := by rw [← k1]; exact (hk 1 (by decide)).2
  refine k_pair hz hA hB hfr hS hE hC hD (by omega) ?_
  have hq := h1 _ _ _ _ _ _ stp_13
  rw [beh_nf hc n0 2 S uS, beh_2 l1 l2, ofV_nf uC n1, ofV_nf uC n0]
  rw [← k1, ← k0]
  exact hq
theorem X_same (hX : AX A H T S E C D 14) (hk : ∀ j, j < 1 → kk j = fr (f + 1 - 1 - j) ∧ ¬ A (kk j)) (hz : z ≤ 250) (hM : mOK z S E C D H T) (hfr : ∀ j, j < z → fr j < z) (hf : f + 1 ≤ z) (h0 : stp kk H T S E C D 14 = none → Q (.inl (some (.int 0)), (fW o0 o1 o2 o3 o4 o5 o6 o7 o8 o9 o10 o11 o12 o13 o14 o15 S E C D mode colls taken steps z H T fr g (f + 1) c k n fb R tl, b0, b1, op))) (h1 : ∀ al sh S' E' C' D', stp kk H T S E C D 14 = some (al, sh, S', E', C', D') → Q (.inl (some (.int 1)), (fW o0 o1 o2 o3 o4 o5 o6 o7 o8 o9 o10 o11 o12 o13 o14 o15 S' E' C' D' mode colls taken steps z (stH sh (alH kk 0 al H)) (alT kk 0 al T) fr g f c k n fb R tl, b0, b1, op))) : mj_Mt gT (law_cst xs) gnw (m + 5) y_Machine_same [.ref 16] (fW o0 o1 o2 o3 o4 o5 o6 o7 o8 o9 o10 o11 o12 o13 o14 o15 S E C D mode colls taken steps z H T fr g (f + 1) c k n fb R tl, b0, b1, op) Q := by
  obtain ⟨hc, ⟨uS, uE, uC, uD⟩, ⟨l1, l2⟩, a2, a7⟩ := hX
  obtain ⟨hA, hB, hS, hE, hC, hD⟩ := hM
  have k0 : kk 0 = fr f := by rw [(hk 0 (by decide)).1, show f + 1 - 1 - 0 = f by omega]
  have n0 : ¬ A (fr f) := by rw [← k0]; exact (hk 0 (by decide)).2
  have cb : ∀ i, ceV (ofV H (ofV T S)) = some i → i < 250 := fun i hi => by
    have := okV_of hA (okV_of hB hS)
    have h9 : ∀ v : Vl, okV z v → ceV v = some i → i < 250 := fun v q1 q2 => by
      rcases v with u | y | y | j | j
      · cases q2
      · cases q2
      · cases q2
      · cases q2
        exact Nat.lt_of_lt_of_le q1 hz
      · cases q2
        exact Nat.lt_of_lt_of_le q1 hz
    exact h9 _ this hi
  refine k_same hz hA hB hfr hS hE hC hD (by omega) (fun q => ?_) (fun q => ?_)
  · rw [sm_same _ _ cb] at q
    have hq := h1 _ _ _ _ _ _ (by rw [stp_14, if_pos q])
    rw [beh_2 l1 l2, ofV_nf uC n0]
    rw [← k0]
    exact hq
  · rw [sm_same _ _ cb] at q
    have hq := h1 _ _ _ _ _ _ (by rw [stp_14, if_neg (by rw [q]; decide)])
    rw [beh_2 l1 l2, ofV_nf uC n0]
    rw [← k0]
    exact hq
theorem X_calculate15 (hX : AX A H T S E C D 15) (hk : ∀ j, j < 1 → kk j = fr (f + 1 - 1 - j) ∧ ¬ A (kk j)) (hz : z ≤ 250) (hM : mOK z S E C D H T) (hfr : ∀ j, j < z → fr j < z) (hf : f + 1 ≤ z) (h0 : stp kk H T S E C D 15 = none → Q (.inl (some (.int 0)), (fW o0 o1 o2 o3 o4 o5 o6 o7 o8 o9 o10 o11 o12 o13 o14 o15 S E C D mode colls taken steps z H T fr g (f + 1) c k n fb R tl, b0, b1, op))) (h1 : ∀ al sh S' E' C' D', stp kk H T S E C D 15 = some (al, sh, S', E', C', D') → Q (.inl (some (.int 1)), (fW o0 o1 o2 o3 o4 o5 o6 o7 o8 o9 o10 o11 o12 o13 o14 o15 S' E' C' D' mode colls taken steps z (stH sh (alH kk 0 al H)) (alT kk 0 al T) fr g f c k n fb R tl, b0, b1, op))) : mj_Mt gT (law_cst xs) gnw (m + 5) y_Machine_calculate [.ref 16, .int 15] (fW o0 o1 o2 o3 o4 o5 o6 o7 o8 o9 o10 o11 o12 o13 o14 o15 S E C D mode colls taken steps z H T fr g (f + 1) c k n fb R tl, b0, b1, op) Q := by
  obtain ⟨hc, ⟨uS, uE, uC, uD⟩, ⟨l1, l2⟩, a2, a7⟩ := hX
  obtain ⟨hA, hB, hS, hE, hC, hD⟩ := hM
  have k0 : kk 0 = fr f := by rw [(hk 0 (by decide)).1, show f + 1 - 1 - 0 = f by omega]
  have n0 : ¬ A (fr f) := by rw [← k0]; exact (hk 0 (by decide)).2
  refine k_calculate hz hA hB hfr hS hE hC hD (by omega) (fun q => ?_) (fun q1 q2 => ?_)
  · exact h0 (by rw [stp_15, if_neg q])
  · have hq := h1 _ _ _ _ _ _ (by rw [stp_15, if_pos ⟨q1, q2⟩])
    rw [(kV_int q1).2, (kV_int q2).2, beh_2 l1 l2, ofV_nf uC n0]
    rw [← k0]
    exact hq
theorem X_calculate16 (hX : AX A H T S E C D 16) (hk : ∀ j, j < 1 → kk j = fr (f + 1 - 1 - j) ∧ ¬ A (kk j)) (hz : z ≤ 250) (hM : mOK z S E C D H T) (hfr : ∀ j, j < z → fr j < z) (hf : f + 1 ≤ z) (h0 : stp kk H T S E C D 16 = none → Q (.inl (some (.int 0)), (fW o0 o1 o2 o3 o4 o5 o6 o7 o8 o9 o10 o11 o12 o13 o14 o15 S E C D mode colls taken steps z H T fr g (f + 1) c k n fb R tl, b0, b1, op))) (h1 : ∀ al sh S' E' C' D', stp kk H T S E C D 16 = some (al, sh, S', E', C', D') → Q (.inl (some (.int 1)), (fW o0 o1 o2 o3 o4 o5 o6 o7 o8 o9 o10 o11 o12 o13 o14 o15 S' E' C' D' mode colls taken steps z (stH sh (alH kk 0 al H)) (alT kk 0 al T) fr g f c k n fb R tl, b0, b1, op))) : mj_Mt gT (law_cst xs) gnw (m + 5) y_Machine_calculate [.ref 16, .int 16] (fW o0 o1 o2 o3 o4 o5 o6 o7 o8 o9 o10 o11 o12 o13 o14 o15 S E C D mode colls taken steps z H T fr g (f + 1) c k n fb R tl, b0, b1, op) Q := by
  obtain ⟨hc, ⟨uS, uE, uC, uD⟩, ⟨l1, l2⟩, a2, a7⟩ := hX
  obtain ⟨hA, hB, hS, hE, hC, hD⟩ := hM
  have k0 : kk 0 = fr f := by rw [(hk 0 (by decide)).1, show f + 1 - 1 - 0 = f by omega]
  have n0 : ¬ A (fr f) := by rw [← k0]; exact (hk 0 (by decide)).2
  refine k_calculate hz hA hB hfr hS hE hC hD (by omega) (fun q => ?_) (fun q1 q2 => ?_)
  · exact h0 (by rw [stp_16, if_neg q])
  · have hq := h1 _ _ _ _ _ _ (by rw [stp_16, if_pos ⟨q1, q2⟩])
    rw [(kV_int q1).2, (kV_int q2).2, beh_2 l1 l2, ofV_nf uC n0]
    rw [← k0]
    exact hq
theorem X_calculate17 (hX : AX A H T S E C D 17) (hk : ∀ j, j < 1 → kk j = fr (f + 1 - 1 - j) ∧ ¬ A (kk j)) (hz : z ≤ 250) (hM : mOK z S E C D H T) (hfr : ∀ j, j < z → fr j < z) (hf : f + 1 ≤ z) (h0 : stp kk H T S E C D 17 = none → Q (.inl (some (.int 0)), (fW o0 o1 o2 o3 o4 o5 o6 o7 o8 o9 o10 o11 o12 o13 o14 o15 S E C D mode colls taken steps z H T fr g (f + 1) c k n fb R tl, b0, b1, op))) (h1 : ∀ al sh S' E' C' D', stp kk H T S E C D 17 = some (al, sh, S', E', C', D') → Q (.inl (some (.int 1)), (fW o0 o1 o2 o3 o4 o5 o6 o7 o8 o9 o10 o11 o12 o13 o14 o15 S' E' C' D' mode colls taken steps z (stH sh (alH kk 0 al H)) (alT kk 0 al T) fr g f c k n fb R tl, b0, b1, op))) : mj_Mt gT (law_cst xs) gnw (m + 5) y_Machine_calculate [.ref 16, .int 17] (fW o0 o1 o2 o3 o4 o5 o6 o7 o8 o9 o10 o11 o12 o13 o14 o15 S E C D mode colls taken steps z H T fr g (f + 1) c k n fb R tl, b0, b1, op) Q := by
  obtain ⟨hc, ⟨uS, uE, uC, uD⟩, ⟨l1, l2⟩, a2, a7⟩ := hX
  obtain ⟨hA, hB, hS, hE, hC, hD⟩ := hM
  have k0 : kk 0 = fr f := by rw [(hk 0 (by decide)).1, show f + 1 - 1 - 0 = f by omega]
  have n0 : ¬ A (fr f) := by rw [← k0]; exact (hk 0 (by decide)).2
  refine k_calculate hz hA hB hfr hS hE hC hD (by omega) (fun q => ?_) (fun q1 q2 => ?_)
  · exact h0 (by rw [stp_17, if_neg q])
  · have hq := h1 _ _ _ _ _ _ (by rw [stp_17, if_pos ⟨q1, q2⟩])
    rw [(kV_int q1).2, (kV_int q2).2, beh_2 l1 l2, ofV_nf uC n0]
    rw [← k0]
    exact hq
theorem X_calculate18 (hX : AX A H T S E C D 18) (hk : ∀ j, j < 1 → kk j = fr (f + 1 - 1 - j) ∧ ¬ A (kk j)) (hz : z ≤ 250) (hM : mOK z S E C D H T) (hfr : ∀ j, j < z → fr j < z) (hf : f + 1 ≤ z) (h0 : stp kk H T S E C D 18 = none → Q (.inl (some (.int 0)), (fW o0 o1 o2 o3 o4 o5 o6 o7 o8 o9 o10 o11 o12 o13 o14 o15 S E C D mode colls taken steps z H T fr g (f + 1) c k n fb R tl, b0, b1, op))) (h1 : ∀ al sh S' E' C' D', stp kk H T S E C D 18 = some (al, sh, S', E', C', D') → Q (.inl (some (.int 1)), (fW o0 o1 o2 o3 o4 o5 o6 o7 o8 o9 o10 o11 o12 o13 o14 o15 S' E' C' D' mode colls taken steps z (stH sh (alH kk 0 al H)) (alT kk 0 al T) fr g f c k n fb R tl, b0, b1, op))) : mj_Mt gT (law_cst xs) gnw (m + 5) y_Machine_calculate [.ref 16, .int 18] (fW o0 o1 o2 o3 o4 o5 o6 o7 o8 o9 o10 o11 o12 o13 o14 o15 S E C D mode colls taken steps z H T fr g (f + 1) c k n fb R tl, b0, b1, op) Q := by
  obtain ⟨hc, ⟨uS, uE, uC, uD⟩, ⟨l1, l2⟩, a2, a7⟩ := hX
  obtain ⟨hA, hB, hS, hE, hC, hD⟩ := hM
  have k0 : kk 0 = fr f := by rw [(hk 0 (by decide)).1, show f + 1 - 1 - 0 = f by omega]
  have n0 : ¬ A (fr f) := by rw [← k0]; exact (hk 0 (by decide)).2
  refine k_calculate hz hA hB hfr hS hE hC hD (by omega) (fun q => ?_) (fun q1 q2 => ?_)
  · exact h0 (by rw [stp_18, if_neg q])
  · have hq := h1 _ _ _ _ _ _ (by rw [stp_18, if_pos ⟨q1, q2⟩])
    rw [(kV_int q1).2, (kV_int q2).2, beh_2 l1 l2, ofV_nf uC n0]
    rw [← k0]
    exact hq
theorem k_actX {x : Int32} (hx : 1 ≤ x ∧ x ≤ 18) (hX : AX A H T S E C D x) (hk : ∀ j, j < ndI x → kk j = fr (f - 1 - j) ∧ ¬ A (kk j)) (hn : ndI x ≤ f) (hz : z ≤ 250) (hM : mOK z S E C D H T) (hfr : ∀ j, j < z → fr j < z) (hf : f ≤ z) (h0 : stp kk H T S E C D x = none → Q (.inl (some (.int 0)), (fW o0 o1 o2 o3 o4 o5 o6 o7 o8 o9 o10 o11 o12 o13 o14 o15 S E C D mode colls taken steps z H T fr g f c k n fb R tl, b0, b1, op))) (h1 : ∀ al sh S' E' C' D' f', stp kk H T S E C D x = some (al, sh, S', E', C', D') → f' + ndI x = f → Q (.inl (some (.int 1)), (fW o0 o1 o2 o3 o4 o5 o6 o7 o8 o9 o10 o11 o12 o13 o14 o15 S' E' C' D' mode colls taken steps z (stH sh (alH kk 0 al H)) (alT kk 0 al T) fr g f' c k n fb R tl, b0, b1, op))) : mj_Mt gT (law_cst xs) gnw (m + 10) y_Machine_act [.ref 16, .int x] (fW o0 o1 o2 o3 o4 o5 o6 o7 o8 o9 o10 o11 o12 o13 o14 o15 S E C D mode colls taken steps z H T fr g f c k n fb R tl, b0, b1, op) Q := by
  intro J hJ
  refine hJ _ _ _ _ ?_
  refine And.intro (fun hx => ?_) (fun hx1 => ?_)
  · have hx : x = 1 := hx
    subst hx
    have hn9 : ndI 1 = 1 := by decide
    rw [hn9] at hk hn h1
    obtain ⟨f, rfl⟩ : ∃ f0, f = f0 + 1 := ⟨f - 1, by omega⟩
    exact X_constant hX hk hz hM hfr hf (fun q => And.intro (Or.inl rfl) (h0 q)) (fun al sh S' E' C' D' q => And.intro (Or.inr rfl) (h1 al sh S' E' C' D' f q rfl))
  refine And.intro (fun hx => ?_) (fun hx2 => ?_)
  · have hx : x = 2 := hx
    subst hx
    have hn9 : ndI 2 = 1 := by decide
    rw [hn9] at hk hn h1
    obtain ⟨f, rfl⟩ : ∃ f0, f = f0 + 1 := ⟨f - 1, by omega⟩
    exact X_variable hX hk hz hM hfr hf (fun q => And.intro (Or.inl rfl) (h0 q)) (fun al sh S' E' C' D' q => And.intro (Or.inr rfl) (h1 al sh S' E' C' D' f q rfl))
  refine And.intro (fun hx => ?_) (fun hx3 => ?_)
  · have hx : x = 3 := hx
    subst hx
    have hn9 : ndI 3 = 2 := by decide
    rw [hn9] at hk hn h1
    obtain ⟨f, rfl⟩ : ∃ f0, f = f0 + 2 := ⟨f - 2, by omega⟩
    exact X_function hX hk hz hM hfr hf (fun q => And.intro (Or.inl rfl) (h0 q)) (fun al sh S' E' C' D' q => And.intro (Or.inr rfl) (h1 al sh S' E' C' D' f q rfl))
  refine And.intro (fun hx => ?_) (fun hx4 => ?_)
  · have hx : x = 4 := hx
    subst hx
    have hn9 : ndI 4 = 4 := by decide
    rw [hn9] at hk hn h1
    obtain ⟨f, rfl⟩ : ∃ f0, f = f0 + 4 := ⟨f - 4, by omega⟩
    exact X_apply hX hk hz hM hfr hf (fun q => And.intro (Or.inl rfl) (h0 q)) (fun al sh S' E' C' D' q => And.intro (Or.inr rfl) (h1 al sh S' E' C' D' f q rfl))
  refine And.intro (fun hx => ?_) (fun hx5 => ?_)
  · have hx : x = 5 := hx
    subst hx
    have hn9 : ndI 5 = 1 := by decide
    rw [hn9] at hk hn h1
    obtain ⟨f, rfl⟩ : ∃ f0, f = f0 + 1 := ⟨f - 1, by omega⟩
    exact X_giveBack hX hk hz hM hfr hf (fun q => And.intro (Or.inl rfl) (h0 q)) (fun al sh S' E' C' D' q => And.intro (Or.inr rfl) (h1 al sh S' E' C' D' f q rfl))
  refine And.intro (fun hx => ?_) (fun hx6 => ?_)
  · have hx : x = 6 := hx
    subst hx
    have hn9 : ndI 6 = 1 := by decide
    rw [hn9] at hk hn h1
    obtain ⟨f, rfl⟩ : ∃ f0, f = f0 + 1 := ⟨f - 1, by omega⟩
    exact X_frame hX hk hz hM hfr hf (fun q => And.intro (Or.inl rfl) (h0 q)) (fun al sh S' E' C' D' q => And.intro (Or.inr rfl) (h1 al sh S' E' C' D' f q rfl))
  refine And.intro (fun hx => ?_) (fun hx7 => ?_)
  · have hx : x = 7 := hx
    subst hx
    have hn9 : ndI 7 = 3 := by decide
    rw [hn9] at hk hn h1
    obtain ⟨f, rfl⟩ : ∃ f0, f = f0 + 3 := ⟨f - 3, by omega⟩
    exact X_applyInFrame hX hk hz hM hfr hf (fun q => And.intro (Or.inl rfl) (h0 q)) (fun al sh S' E' C' D' q => And.intro (Or.inr rfl) (h1 al sh S' E' C' D' f q rfl))
  refine And.intro (fun hx => ?_) (fun hx8 => ?_)
  · have hx : x = 8 := hx
    subst hx
    have hn9 : ndI 8 = 1 := by decide
    rw [hn9] at hk hn h1
    obtain ⟨f, rfl⟩ : ∃ f0, f = f0 + 1 := ⟨f - 1, by omega⟩
    exact X_choose hX hk hz hM hfr hf (fun q => And.intro (Or.inl rfl) (h0 q)) (fun al sh S' E' C' D' q => And.intro (Or.inr rfl) (h1 al sh S' E' C' D' f q rfl))
  refine And.intro (fun hx => ?_) (fun hx9 => ?_)
  · have hx : x = 9 := hx
    subst hx
    have hn9 : ndI 9 = 0 := by decide
    rw [hn9] at hk hn h1
    exact X_rejoin hX hk hz hM hfr hf (fun q => And.intro (Or.inl rfl) (h0 q)) (fun al sh S' E' C' D' q => And.intro (Or.inr rfl) (h1 al sh S' E' C' D' f q rfl))
  refine And.intro (fun hx => ?_) (fun hx10 => ?_)
  · have hx : x = 10 := hx
    subst hx
    have hn9 : ndI 10 = 1 := by decide
    rw [hn9] at hk hn h1
    obtain ⟨f, rfl⟩ : ∃ f0, f = f0 + 1 := ⟨f - 1, by omega⟩
    exact X_partOfPair10 hX hk hz hM hfr hf (fun q => And.intro (Or.inl rfl) (h0 q)) (fun al sh S' E' C' D' q => And.intro (Or.inr rfl) (h1 al sh S' E' C' D' f q rfl))
  refine And.intro (fun hx => ?_) (fun hx11 => ?_)
  · have hx : x = 11 := hx
    subst hx
    have hn9 : ndI 11 = 1 := by decide
    rw [hn9] at hk hn h1
    obtain ⟨f, rfl⟩ : ∃ f0, f = f0 + 1 := ⟨f - 1, by omega⟩
    exact X_partOfPair11 hX hk hz hM hfr hf (fun q => And.intro (Or.inl rfl) (h0 q)) (fun al sh S' E' C' D' q => And.intro (Or.inr rfl) (h1 al sh S' E' C' D' f q rfl))
  refine And.intro (fun hx => ?_) (fun hx12 => ?_)
  · have hx : x = 12 := hx
    subst hx
    have hn9 : ndI 12 = 1 := by decide
    rw [hn9] at hk hn h1
    obtain ⟨f, rfl⟩ : ∃ f0, f = f0 + 1 := ⟨f - 1, by omega⟩
    exact X_isNoPair hX hk hz hM hfr hf (fun q => And.intro (Or.inl rfl) (h0 q)) (fun al sh S' E' C' D' q => And.intro (Or.inr rfl) (h1 al sh S' E' C' D' f q rfl))
  refine And.intro (fun hx => ?_) (fun hx13 => ?_)
  · have hx : x = 13 := hx
    subst hx
    have hn9 : ndI 13 = 2 := by decide
    rw [hn9] at hk hn h1
    obtain ⟨f, rfl⟩ : ∃ f0, f = f0 + 2 := ⟨f - 2, by omega⟩
    exact X_pair hX hk hz hM hfr hf (fun q => And.intro (Or.inl rfl) (h0 q)) (fun al sh S' E' C' D' q => And.intro (Or.inr rfl) (h1 al sh S' E' C' D' f q rfl))
  refine And.intro (fun hx => ?_) (fun hx14 => ?_)
  · have hx : x = 14 := hx
    subst hx
    have hn9 : ndI 14 = 1 := by decide
    rw [hn9] at hk hn h1
    obtain ⟨f, rfl⟩ : ∃ f0, f = f0 + 1 := ⟨f - 1, by omega⟩
    exact X_same hX hk hz hM hfr hf (fun q => And.intro (Or.inl rfl) (h0 q)) (fun al sh S' E' C' D' q => And.intro (Or.inr rfl) (h1 al sh S' E' C' D' f q rfl))
  refine And.intro (fun hx => ?_) (fun hx15 => ?_)
  · have hx : x = 15 := hx
    subst hx
    have hn9 : ndI 15 = 1 := by decide
    rw [hn9] at hk hn h1
    obtain ⟨f, rfl⟩ : ∃ f0, f = f0 + 1 := ⟨f - 1, by omega⟩
    exact X_calculate15 hX hk hz hM hfr hf (fun q => And.intro (Or.inl rfl) (h0 q)) (fun al sh S' E' C' D' q => And.intro (Or.inr rfl) (h1 al sh S' E' C' D' f q rfl))
  refine And.intro (fun hx => ?_) (fun hx16 => ?_)
  · have hx : x = 16 := hx
    subst hx
    have hn9 : ndI 16 = 1 := by decide
    rw [hn9] at hk hn h1
    obtain ⟨f, rfl⟩ : ∃ f0, f = f0 + 1 := ⟨f - 1, by omega⟩
    exact X_calculate16 hX hk hz hM hfr hf (fun q => And.intro (Or.inl rfl) (h0 q)) (fun al sh S' E' C' D' q => And.intro (Or.inr rfl) (h1 al sh S' E' C' D' f q rfl))
  refine And.intro (fun hx => ?_) (fun hx17 => ?_)
  · have hx : x = 17 := hx
    subst hx
    have hn9 : ndI 17 = 1 := by decide
    rw [hn9] at hk hn h1
    obtain ⟨f, rfl⟩ : ∃ f0, f = f0 + 1 := ⟨f - 1, by omega⟩
    exact X_calculate17 hX hk hz hM hfr hf (fun q => And.intro (Or.inl rfl) (h0 q)) (fun al sh S' E' C' D' q => And.intro (Or.inr rfl) (h1 al sh S' E' C' D' f q rfl))
  refine And.intro (fun hx => ?_) (fun hx18 => ?_)
  · have hx : x = 18 := hx
    subst hx
    have hn9 : ndI 18 = 1 := by decide
    rw [hn9] at hk hn h1
    obtain ⟨f, rfl⟩ : ∃ f0, f = f0 + 1 := ⟨f - 1, by omega⟩
    exact X_calculate18 hX hk hz hM hfr hf (fun q => And.intro (Or.inl rfl) (h0 q)) (fun al sh S' E' C' D' q => And.intro (Or.inr rfl) (h1 al sh S' E' C' D' f q rfl))
  exfalso
  obtain ⟨h1, h2⟩ := hx
  obtain ⟨j, hj, rfl⟩ := nI_of (Int32.not_lt.mpr (Int32.le_trans (by decide : (0 : Int32) ≤ 1) h1))
  have g1 : 1 ≤ j := (nI_leI (a := 1) (by decide) hj).mp h1
  have g2 : j ≤ 18 := (nI_leI (b := 18) hj (by decide)).mp h2
  have : j = 1 ∨ j = 2 ∨ j = 3 ∨ j = 4 ∨ j = 5 ∨ j = 6 ∨ j = 7 ∨ j = 8 ∨ j = 9 ∨ j = 10 ∨ j = 11 ∨ j = 12 ∨ j = 13 ∨ j = 14 ∨ j = 15 ∨ j = 16 ∨ j = 17 ∨ j = 18 := by omega
  rcases this with rfl | rfl | rfl | rfl | rfl | rfl | rfl | rfl | rfl | rfl | rfl | rfl | rfl | rfl | rfl | rfl | rfl | rfl
  · exact hx1 rfl
  · exact hx2 rfl
  · exact hx3 rfl
  · exact hx4 rfl
  · exact hx5 rfl
  · exact hx6 rfl
  · exact hx7 rfl
  · exact hx8 rfl
  · exact hx9 rfl
  · exact hx10 rfl
  · exact hx11 rfl
  · exact hx12 rfl
  · exact hx13 rfl
  · exact hx14 rfl
  · exact hx15 rfl
  · exact hx16 rfl
  · exact hx17 rfl
  · exact hx18 rfl
end ZKE
end
