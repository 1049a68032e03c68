theorem lyS_cn (z : Nat) : ∀ (T : TL) (p : cC × List Nat), cn (lyS z T p).1 = cn p.1 + cnt T
  | [], p => rfl
  | x :: T, p => by
    show cn (lyS z T (ly1 z x p)).1 = cn p.1 + ((if x.1 = 5 then 0 else 1) + cnt T)
    rw [lyS_cn z T (ly1 z x p)]
    have e : cn (ly1 z x p).1 = cn p.1 + (if x.1 = 5 then 0 else 1) := by
      unfold ly1
      by_cases h5 : x.1 = 5
      · rw [if_pos h5, if_pos h5]
        obtain ⟨c, st⟩ := p
        cases st <;> rfl
      · rw [if_neg h5, if_neg h5]
        by_cases h4 : x.1 = 4
        · rw [if_pos h4]
          exact (cAp_n z p.1 vNil).1
        · rw [if_neg h4]
          by_cases h0 : x.1 = 0
          · rw [if_pos h0]
            exact (cAp_n z p.1 _).1
          · rw [if_neg h0]
            by_cases h2 : x.1 = 2
            · rw [if_pos h2]
              exact (cAp_n z p.1 _).1
            · rw [if_neg h2]
              exact (cAp_n z p.1 _).1
    omega
theorem cnt_low : ∀ T : TL, cnt (low T) = cnt T
  | [] => rfl
  | x :: T => by
    show (if (lw x).1 = 5 then 0 else 1) + cnt (low T) = (if x.1 = 5 then 0 else 1) + cnt T
    rw [cnt_low T]
    unfold lw
    by_cases h : x.1 = 6
    · rw [if_pos h, h]
      rfl
    · rw [if_neg h]
def GOut (tx : Nat → Nat) (len z i N : Nat) : Prop := (i = 1 ∧ ∀ τ, gEx tx 10 0 0 = .inl (τ, len) → ¬ knT (τ [])) ∨ (∃ τ, gEx tx 10 0 0 = .inl (τ, len) ∧ knT (τ []) ∧ ((i = 2 ∧ z < cnt (τ []) + 1) ∨ (i = 0 ∧ cnt (τ []) + 1 ≤ z ∧ N = cnt (τ []) + 1)))
def GPos (tx : Nat → Nat) (len : Nat) : Int32 := match gEx tx 10 0 0 with
  | .inr a => nI a
  | .inl (τ, a') => if a' = len then uMf (τ []) (-1) else nI a'
theorem GPos_r {tx : Nat → Nat} {len a : Nat} (h : gEx tx 10 0 0 = .inr a) : GPos tx len = nI a := by
  unfold GPos
  rw [h]
theorem GPos_n {tx : Nat → Nat} {len a' : Nat} {τ : Tau} (h : gEx tx 10 0 0 = .inl (τ, a')) (hn : ¬ a' = len) : GPos tx len = nI a' := by
  unfold GPos
  rw [h]
  exact if_neg hn
theorem GPos_u {tx : Nat → Nat} {len : Nat} {τ : Tau} (h : gEx tx 10 0 0 = .inl (τ, len)) : GPos tx len = uMf (τ []) (-1) := by
  unfold GPos
  rw [h]
  exact if_pos rfl
theorem GOut_u {tx : Nat → Nat} {len z i N i' N' : Nat} (h : GOut tx len z i N) (h' : GOut tx len z i' N') : i = i' ∧ (i = 0 → N = N') := by
  rcases h with ⟨rfl, h⟩ | ⟨τ, e, k, h⟩
  · rcases h' with ⟨rfl, h'⟩ | ⟨τ, e, k, h'⟩
    · exact ⟨rfl, fun q => absurd q (by decide)⟩
    · exact absurd k (h τ e)
  · rcases h' with ⟨rfl, h'⟩ | ⟨τ', e', k', h'⟩
    · exact absurd k (h' τ e)
    · rw [e] at e'
      cases e'
      rcases h with ⟨rfl, h⟩ | ⟨rfl, h, hN⟩
      · rcases h' with ⟨rfl, h'⟩ | ⟨rfl, h', hN'⟩
        · exact ⟨rfl, fun q => absurd q (by decide)⟩
        · omega
      · rcases h' with ⟨rfl, h'⟩ | ⟨rfl, h', hN'⟩
        · omega
        · exact ⟨rfl, fun _ => hN.trans hN'.symm⟩
section ZG
variable {tx : Nat → Nat} {X : Nat → Int32} {len z : Nat} {t : tS} {s : cD_}
theorem cls_bad (hx : txOK X len tx) (ht : tOK t) {a' : Nat} {t' : tS} (e : pEx tx 10 0 0 (0, t.2) = .inr (a', t')) : gEx tx 10 0 0 = .inr a' := by
  have ht0 : tOK (0, t.2) := ⟨Nat.zero_le _, ht.2.1, ⟨ht.2.2.1.1, fun i hi => absurd hi (Nat.not_lt_zero i)⟩, ht.2.2.2⟩
  have h := al_ex (z := 0) hx 10 10 0 (by omega) (by omega) (by omega) 0 (0, t.2) ht0 (Nat.le_refl _) (Nat.zero_le _)
  rw [e] at h
  exact h
theorem cls_good (hx : txOK X len tx) (ht : tOK t) {nd a' : Nat} {t' : tS} (e : pEx tx 10 0 0 (0, t.2) = .inl (nd, a', t')) : ∃ τ, gEx tx 10 0 0 = .inl (τ, a') ∧ a' ≤ len ∧ RES z (τ []) (dZ s) (dEx z t' 11 0 (some 0) (dZ s)) := by
  have ht0 : tOK (0, t.2) := ⟨Nat.zero_le _, ht.2.1, ⟨ht.2.2.1.1, fun i hi => absurd hi (Nat.not_lt_zero i)⟩, ht.2.2.2⟩
  have h := al_ex (z := z) hx 10 10 0 (by omega) (by omega) (by omega) 0 (0, t.2) ht0 (Nat.le_refl _) (Nat.zero_le _)
  have hg := g_ex hx 10 0 0 (0, t.2) ht0 (Nat.le_refl _) (Nat.zero_le _)
  rw [e] at h hg
  obtain ⟨τ, q1, q2, q3, -⟩ := h
  have q3 := q3 t' ⟨fun _ _ _ => ⟨rfl, rfl, rfl, rfl⟩, fun _ _ _ => rfl⟩ (Nat.le_refl _)
  exact ⟨τ, q1, hg.2.2.2.2, q3 11 0 (dZ s) [] (Nat.le_refl _) (by decide) (Nat.le_refl _) rfl⟩
theorem cls_cn {τ : Tau} (h : RES z (τ []) (dZ s) (dEx z t 11 0 (some 0) (dZ s))) : (knT (τ []) → cn (dC (dI z (dEx z t 11 0 (some 0) (dZ s)) 19)) = cnt (τ []) + 1) ∧ (dU (dEx z t 11 0 (some 0) (dZ s)) = -1 ↔ knT (τ [])) ∧ dU (dEx z t 11 0 (some 0) (dZ s)) = uMf (τ []) (-1) := by
  obtain ⟨h1, -, -, h4, h5⟩ := h
  refine ⟨fun hk => ?_, ?_, h5⟩
  · rw [cn_I]
    have := lyS_cn z (τ []) (dC (dZ s), [])
    rw [h1 hk] at this
    have e : cn (dC (dZ s)) = 0 := rfl
    have this : cn (dC (dEx z t 11 0 (some 0) (dZ s))) = cn (dC (dZ s)) + cnt (τ []) := this
    omega
  · rw [h4]
    exact ⟨fun q => q.2, fun q => ⟨rfl, q⟩⟩
end ZG
section ZG2
variable {err : Int32} {m b0 b1 z len c : Nat} {tx : Nat → Nat} {mode : Int32} {op : Bool} {Q : mj_R → Prop} {xs : List Int32} {tl : List mj_O}
set_option maxRecDepth 10000
theorem CC_compile {W : List mj_O} {l : Nat} (hl : 120 ≤ l) (h : CI err z len tx mode c tl W) (hb : 12 ≤ b1)
    (h1 : ∀ (i : Nat) W' b0' b1' (er : Int32), ((i = 0 ∧ GOut tx len z 1 0 ∧ er = GPos tx len) ∨ (i = 1 ∧ GOut tx len z 2 0 ∧ er = -1)) → CI er z 0 (fun _ => 0) mode c tl W' → b0 ≤ b0' → b1 ≤ b1' + 12 → Q (.inr i, (W', b0', b1', false)))
    (h2 : ∀ N W', GOut tx len z 0 N → 1 ≤ N → N ≤ 250 → CI (-1) z 0 (fun _ => 0) 0 N tl W' → Q (.inl (some (.int (nI N))), (W', b0 + 2, b1, op))) :
    mj_Mt gT (law_cst xs) gnw (l + 1) y_P_compile [.ref 0] (W, b0 + 2, b1, op) Q := by
  obtain ⟨t, X, a, s, S, E, C, D, colls, taken, steps, H, T, fr, g, f, k, n, fb, R, rfl, hz, ht, hx, hF, hO, hM, hfr, hf, hc, hd⟩ := h
  have ht0 : tOK (0, t.2) := ⟨Nat.zero_le _, ht.2.1, ⟨ht.2.2.1.1, fun i hi => absurd hi (Nat.not_lt_zero i)⟩, ht.2.2.2⟩
  have hg := g_ex hx 10 0 0 (0, t.2) ht0 (Nat.le_refl _) (Nat.zero_le _)
  refine P_compile hl hz ht hx hF hb (fun a' t' e => ?_) (fun nd a' t' e q => ?_) (fun nd a' t' e q u => ?_) (fun nd a' t' s' e q u es v => ?_) (fun nd a' t' s' e q u es v => ?_)
  · have hG : GOut tx len z 1 0 := Or.inl ⟨rfl, fun τ h => by rw [cls_bad hx ht e] at h; cases h⟩
    rw [e] at hg
    exact h1 0 _ _ _ (nI a') (Or.inl ⟨rfl, hG, (GPos_r (cls_bad hx ht e)).symm⟩) ⟨t', X, a', s, S, E, C, D, colls, taken, steps, H, T, fr, g, f, k, n, fb, R, rfl, hz, hg.1, txOK_0, hF, hO, hM, hfr, hf, hc, hd⟩ (by omega) (by omega)
  · obtain ⟨τ, w1, w2, w3⟩ := cls_good (z := z) (s := s) hx ht e
    have hG : GOut tx len z 1 0 := Or.inl ⟨rfl, fun τ h => by rw [w1] at h; cases h; omega⟩
    rw [e] at hg
    exact h1 0 _ _ _ (nI a') (Or.inl ⟨rfl, hG, (GPos_n w1 (by omega)).symm⟩) ⟨t', X, a', s, S, E, C, D, colls, taken, steps, H, T, fr, g, f, k, n, fb, R, rfl, hz, hg.2.1, txOK_0, hF, hO, hM, hfr, hf, hc, hd⟩ (by omega) (by omega)
  · obtain ⟨τ, w1, w2, w3⟩ := cls_good (z := z) (s := s) hx ht e
    obtain rfl : a' = len := by omega
    obtain ⟨-, c2, c3⟩ := cls_cn w3
    have hG : GOut tx a' z 1 0 := Or.inl ⟨rfl, fun τ h => by rw [w1] at h; cases h; exact fun q => u (c2.mpr q)⟩
    rw [e] at hg
    have hl2 := lay_F (z := z) hg.2.1 hF hO
    exact h1 0 _ _ _ _ (Or.inl ⟨rfl, hG, c3.trans (GPos_u w1).symm⟩) ⟨t', X, a', _, S, E, C, D, colls, taken, steps, H, T, fr, g, f, k, n, fb, R, rfl, hz, hg.2.1, txOK_0, hl2.1, hl2.2, hM, hfr, hf, hc, hd⟩ (by omega) (by omega)
  · obtain ⟨τ, w1, w2, w3⟩ := cls_good (z := z) (s := s) hx ht e
    obtain rfl : a' = len := by omega
    obtain ⟨c1, c2, -⟩ := cls_cn w3
    have c1 := c1 (c2.mp u)
    rw [← es] at c1
    have hG : GOut tx a' z 2 0 := Or.inr ⟨τ, w1, c2.mp u, Or.inl ⟨rfl, by omega⟩⟩
    rw [e] at hg
    have hl2 := lay_F (z := z) hg.2.1 hF hO
    rw [← es] at hl2
    exact h1 1 _ _ _ _ (Or.inr ⟨rfl, hG, rfl⟩) ⟨t', X, a', _, S, E, C, D, colls, taken, steps, H, T, fr, g, f, k, n, fb, R, rfl, hz, hg.2.1, txOK_0, hl2.1, hl2.2, hM, hfr, hf, hc, hd⟩ (by omega) (by omega)
  · obtain ⟨τ, w1, w2, w3⟩ := cls_good (z := z) (s := s) hx ht e
    obtain rfl : a' = len := by omega
    obtain ⟨c1, c2, -⟩ := cls_cn w3
    have c1 := c1 (c2.mp u)
    rw [← es] at c1
    have hG : GOut tx a' z 0 (cn (dC s')) := Or.inr ⟨τ, w1, c2.mp u, Or.inr ⟨rfl, by omega, by omega⟩⟩
    rw [e] at hg
    have hl2 := lay_F (z := z) hg.2.1 hF hO
    rw [← es] at hl2
    have hfa := faN_fr (z := z) (z - cn (dC s')) (cn (dC s')) (fr, 0) (by omega) hfr
    have hf2 : (faN (z - cn (dC s')) (cn (dC s')) (fr, 0)).2 = 0 + (z - cn (dC s')) := hfa.2
    exact h2 (cn (dC s')) _ hG (by omega) (by omega) ⟨t', X, a', s', vNil, vNil, vNil, vNil, colls, taken, steps, _, _, _, g, _, k, n, fb, R, rfl, hz, hg.2.1, txOK_0, hl2.1, hl2.2, ⟨okA_cp hl2.2.1 hM.1, okA_cp hl2.2.2 hM.2.1, trivial, trivial, trivial, trivial⟩, hfa.1, by omega, v, hd⟩
end ZG2
section ZG3
variable {err : Int32} {b0 b1 z len c : Nat} {tx : Nat → Nat} {mode : Int32} {op : Bool} {Q : mj_R → Prop} {s : cS} {r : rM} {xs : List Int32} {f : Nat → Int64}
set_option maxRecDepth 10000
theorem LL_compile {l : Nat} (hl : 120 ≤ l) (h : CX err z len tx mode c s) (hb : 12 ≤ b1)
    (hQ : ∀ i N mode' c' s' f' b0' b1' op' (er : Int32), GOut tx len z i N → er = (if i = 1 then GPos tx len else -1) → CX er z 0 (fun _ => 0) mode' c' s' → ((¬ i = 0 ∧ mode' = mode ∧ c' = c) ∨ (i = 0 ∧ mode' = 0 ∧ c' = N ∧ 1 ≤ N ∧ N ≤ 250 ∧ f' 0 = (nI N).toInt64)) → b0 ≤ b0' → b1 ≤ b1' + 12 → Q (.inl (some (.int (nI i))), (cW s' (rW r [oJ 1 f']), b0', b1', op'))) :
    mj_Mt gT (law_cst xs) gnw (l + 2) y_Law_compile [.ref 0, .ref 54] (cW s (rW r [oJ 1 f]), b0 + 2, b1, op) Q := by
  intro J hJ
  refine hJ _ _ _ _ ?_
  refine CC_compile hl (h _) hb (fun i W' b0' b1' er hi hc q0 q1 => ?_) (fun N W' hG h1 h2 hc => ?_)
  · obtain ⟨s', rfl, hs⟩ := CI_CX hc
    rcases hi with ⟨rfl, hG, he⟩ | ⟨rfl, hG, he⟩
    · exact hQ 1 0 _ _ s' _ _ _ _ er hG he hs (Or.inl ⟨by decide, rfl, rfl⟩) q0 q1
    · exact hQ 2 0 _ _ s' _ _ _ _ er hG he hs (Or.inl ⟨by decide, rfl, rfl⟩) q0 q1
  · obtain ⟨s', rfl, hs⟩ := CI_CX hc
    refine And.intro (in0 (by decide)) ?_
    refine hQ 0 N _ _ s' _ _ _ _ _ hG rfl hs (Or.inr ⟨rfl, rfl, rfl, h1, h2, ?_⟩) (by omega) (by omega)
    show vp_updL f _ _ 0 = _
    exact if_pos rfl
end ZG3
