def GI (z : Nat) (M : Nat → Prop) (g : gS) : Prop := g.2.2 + cu g.1 z = z ∧ (∀ i, i < g.2.2 → g.2.1 i < z ∧ g.1 (g.2.1 i) = true) ∧ (∀ a, a < z → g.1 a = true → M a ∧ ∃ i, i < g.2.2 ∧ g.2.1 i = a)
def GG (g g2 : gS) : Prop := (∀ a, g.1 a = true → g2.1 a = true) ∧ g.2.2 ≤ g2.2.2 ∧ ∀ i, i < g.2.2 → g2.2.1 i = g.2.1 i
section ZKH
variable {z : Nat} {M : Nat → Prop} {H T : Nat → Vl} {v : Vl} {g g2 g3 : gS}
theorem GG.rf : GG g g := ⟨fun _ h => h, Nat.le_refl _, fun _ _ => rfl⟩
theorem GG.tr (h1 : GG g g2) (h2 : GG g2 g3) : GG g g3 := ⟨fun a h => h2.1 a (h1.1 a h), Nat.le_trans h1.2.1 h2.2.1, fun i hi => (h2.2.2 i (by have := h1.2.1; omega)).trans (h1.2.2 i hi)⟩
theorem rtM_mono {mk mk2 : Nat → Bool} (h : ∀ a, mk a = true → mk2 a = true) (q : rtM mk v) : rtM mk2 v := fun b e => h b (q b e)
theorem rch_GI (hv : okV z v) (hM : inU M v) (h : GI z M g) : GI z M (rch z v g) ∧ GG g (rch z v g) ∧ rtM (rch z v g).1 v := by
  obtain ⟨h1, h2, h3⟩ := h
  rcases ceV_cases z v hv with ⟨-, e⟩ | ⟨i, hi, -, e⟩
  · have e0 : rch z v g = g := by
      unfold rch
      rw [e]
    rw [e0]
    exact ⟨⟨h1, h2, h3⟩, GG.rf, fun b q => by rw [e] at q; cases q⟩
  · have mi := hM i e
    have key : rch z v g = (if g.1 i = false ∧ g.2.2 < z then ((upW g.1 i true, upW g.2.1 g.2.2 i, g.2.2 + 1) : gS) else g) := by
      unfold rch
      rw [e]
    rw [key]
    by_cases hf : g.1 i = false
    · have hcu := cu_upd g.1 i hf z hi
      have hc : g.1 i = false ∧ g.2.2 < z := ⟨hf, by omega⟩
      rw [if_pos hc]
      refine ⟨⟨by show g.2.2 + 1 + cu (upW g.1 i true) z = z; omega, fun j hj => ?_, fun a ha hm => ?_⟩, ⟨fun a ha => ?_, Nat.le_succ _, fun j hj => if_neg (by omega)⟩, fun b q => ?_⟩
      · have hj : j < g.2.2 + 1 := hj
        show upW g.2.1 g.2.2 i j < z ∧ upW g.1 i true (upW g.2.1 g.2.2 i j) = true
        by_cases ej : j = g.2.2
        · have e1 : upW g.2.1 g.2.2 i j = i := if_pos ej
          rw [e1]
          exact ⟨hi, if_pos rfl⟩
        · have e1 : upW g.2.1 g.2.2 i j = g.2.1 j := if_neg ej
          rw [e1]
          refine ⟨(h2 j (by omega)).1, ?_⟩
          show (if g.2.1 j = i then true else g.1 (g.2.1 j)) = true
          split
          · rfl
          · exact (h2 j (by omega)).2
      · have hm : (if a = i then true else g.1 a) = true := hm
        by_cases ea : a = i
        · subst ea
          exact ⟨mi, g.2.2, Nat.lt_succ_self _, if_pos rfl⟩
        · rw [if_neg ea] at hm
          obtain ⟨q1, j, q2, q3⟩ := h3 a ha hm
          exact ⟨q1, j, by show j < g.2.2 + 1; omega, (if_neg (by omega)).trans q3⟩
      · show (if a = i then true else g.1 a) = true
        split
        · rfl
        · exact ha
      · rw [e] at q
        cases q
        exact if_pos rfl
    · have hc : ¬ (g.1 i = false ∧ g.2.2 < z) := fun q => hf q.1
      rw [if_neg hc]
      refine ⟨⟨h1, h2, h3⟩, GG.rf, fun b q => ?_⟩
      rw [e] at q
      cases q
      cases hg : g.1 i with
      | true => rfl
      | false => exact absurd hg hf
theorem bfs_GI (hA : okA z H) (hB : okA z T) (hM : clo M H T) : ∀ (n k : Nat) (g : gS), k + n = z → GI z M g → (∀ i, i < k → i < g.2.2 → rtM g.1 (H (g.2.1 i)) ∧ rtM g.1 (T (g.2.1 i))) → GI z M (bfs z H T n k g) ∧ GG g (bfs z H T n k g) ∧ ∀ i, i < (bfs z H T n k g).2.2 → rtM (bfs z H T n k g).1 (H ((bfs z H T n k g).2.1 i)) ∧ rtM (bfs z H T n k g).1 (T ((bfs z H T n k g).2.1 i))
  | 0, k, g, hk, h, hp => ⟨h, GG.rf, fun i hi => hp i (by have := h.1; show i < k; have hi : i < g.2.2 := hi; omega) hi⟩
  | n + 1, k, g, hk, h, hp => by
    have e : bfs z H T (n + 1) k g = if k < g.2.2 then bfs z H T n (k + 1) (rch z (T ((rch z (H (g.2.1 k)) g).2.1 k)) (rch z (H (g.2.1 k)) g)) else g := rfl
    rw [e]
    by_cases hc : k < g.2.2
    · rw [if_pos hc]
      obtain ⟨a1, a2⟩ := h.2.1 k hc
      have mA := (h.2.2 _ a1 a2).1
      obtain ⟨i1, i2, i3⟩ := rch_GI (hA _ a1) (hM _ mA).1 h
      have ek := i2.2.2 k hc
      rw [ek]
      obtain ⟨j1, j2, j3⟩ := rch_GI (v := T (g.2.1 k)) (hB _ a1) (hM _ mA).2 i1
      have hgg := i2.tr j2
      obtain ⟨r1, r2, r3⟩ := bfs_GI hA hB hM n (k + 1) _ (by omega) j1 (fun i hi1 hi2 => by
        by_cases ei : i = k
        · subst ei
          rw [hgg.2.2 i hc]
          exact ⟨rtM_mono j2.1 i3, j3⟩
        · have hik : i < g.2.2 := by omega
          rw [hgg.2.2 i hik]
          obtain ⟨p1, p2⟩ := hp i (by omega) hik
          exact ⟨rtM_mono hgg.1 p1, rtM_mono hgg.1 p2⟩)
      exact ⟨r1, hgg.tr r2, r3⟩
    · rw [if_neg hc]
      exact ⟨h, GG.rf, fun i hi => hp i (by omega) hi⟩
theorem cu_clr (f : Nat → Bool) : ∀ n, n ≤ z → cu (clr z f) n = n
  | 0, _ => rfl
  | n + 1, h => by
    have e : cu (clr z f) (n + 1) = cu (clr z f) n + (if clr z f n = false then 1 else 0) := rfl
    have e2 : clr z f n = false := if_pos (by omega)
    rw [e, cu_clr f n (by omega), if_pos e2]
theorem mrk_ok {S E C D K : Vl} (hA : okA z H) (hB : okA z T) (hS : okV z S) (hE : okV z E) (hC : okV z C) (hD : okV z D) (hK : okV z K) (hM : clo M H T) (mS : inU M S) (mE : inU M E) (mC : inU M C) (mD : inU M D) (mK : inU M K) : (∀ a, a < z → (mrk z H T S E C D K g).1 a = true → M a ∧ rtM (mrk z H T S E C D K g).1 (H a) ∧ rtM (mrk z H T S E C D K g).1 (T a)) ∧ (rtM (mrk z H T S E C D K g).1 S ∧ rtM (mrk z H T S E C D K g).1 E ∧ rtM (mrk z H T S E C D K g).1 C ∧ rtM (mrk z H T S E C D K g).1 D ∧ rtM (mrk z H T S E C D K g).1 K) := by
  have h0 : GI z M (clr z g.1, g.2.1, 0) := ⟨by show 0 + cu (clr z g.1) z = z; rw [cu_clr g.1 z (Nat.le_refl _)]; omega, fun i hi => absurd hi (Nat.not_lt_zero i), fun a ha hm => by
    have hm : clr z g.1 a = true := hm
    rw [show clr z g.1 a = false from if_pos ha] at hm
    cases hm⟩
  obtain ⟨a1, a2, a3⟩ := rch_GI hS mS h0
  obtain ⟨b1, b2, b3⟩ := rch_GI hE mE a1
  obtain ⟨c1, c2, c3⟩ := rch_GI hC mC b1
  obtain ⟨d1, d2, d3⟩ := rch_GI hD mD c1
  obtain ⟨e1, e2, e3⟩ := rch_GI hK mK d1
  obtain ⟨r1, r2, r3⟩ := bfs_GI hA hB hM z 0 _ (by omega) e1 (fun i hi => absurd hi (Nat.not_lt_zero i))
  have eq : mrk z H T S E C D K g = bfs z H T z 0 (rch z K (rch z D (rch z C (rch z E (rch z S (clr z g.1, g.2.1, 0)))))) := rfl
  rw [← eq] at r1 r2 r3
  refine ⟨fun a ha hm => ?_, rtM_mono (b2.tr (c2.tr (d2.tr (e2.tr r2)))).1 a3, rtM_mono (c2.tr (d2.tr (e2.tr r2))).1 b3, rtM_mono (d2.tr (e2.tr r2)).1 c3, rtM_mono (e2.tr r2).1 d3, rtM_mono r2.1 e3⟩
  obtain ⟨q1, i, q2, q3⟩ := r1.2.2 a ha hm
  have := r3 i q2
  rw [q3] at this
  exact ⟨q1, this⟩
end ZKH
theorem cu_s (mk : Nat → Bool) (n : Nat) : cu mk (n + 1) = if mk n = true then cu mk n else cu mk n + 1 := by
  have e : cu mk (n + 1) = cu mk n + (if mk n = false then 1 else 0) := rfl
  rw [e]
  cases mk n with
  | true => rfl
  | false => rfl
theorem fuN_ok (mk : Nat → Bool) : ∀ (n c : Nat) (p : (Nat → Nat) × Nat), (∀ j, j < p.2 → p.1 j < c ∧ mk (p.1 j) = false) → (∀ i j, i < j → j < p.2 → p.1 i < p.1 j) → (fuN mk n c p).2 + cu mk c = p.2 + cu mk (c + n) ∧ (∀ j, j < (fuN mk n c p).2 → (fuN mk n c p).1 j < c + n ∧ mk ((fuN mk n c p).1 j) = false) ∧ (∀ i j, i < j → j < (fuN mk n c p).2 → (fuN mk n c p).1 i < (fuN mk n c p).1 j)
  | 0, c, p, h1, h2 => ⟨rfl, h1, h2⟩
  | n + 1, c, p, h1, h2 => by
    have e : fuN mk (n + 1) c p = if mk c then fuN mk n (c + 1) p else fuN mk n (c + 1) (upW p.1 p.2 c, p.2 + 1) := rfl
    rw [e]
    have hcu := cu_s mk c
    by_cases hc : mk c = true
    · rw [if_pos hc] at hcu ⊢
      obtain ⟨g1, g2, g3⟩ := fuN_ok mk n (c + 1) p (fun j hj => ⟨by have := (h1 j hj).1; omega, (h1 j hj).2⟩) h2
      rw [show c + 1 + n = c + (n + 1) by omega] at g1 g2
      exact ⟨by omega, g2, g3⟩
    · rw [if_neg hc] at hcu ⊢
      have hcf : mk c = false := by
        cases hm : mk c with
        | true => exact absurd hm hc
        | false => rfl
      obtain ⟨g1, g2, g3⟩ := fuN_ok mk n (c + 1) (upW p.1 p.2 c, p.2 + 1) (fun j hj => by
        have hj : j < p.2 + 1 := hj
        show upW p.1 p.2 c j < c + 1 ∧ mk (upW p.1 p.2 c j) = false
        by_cases ej : j = p.2
        · rw [show upW p.1 p.2 c j = c from if_pos ej]
          exact ⟨by omega, hcf⟩
        · rw [show upW p.1 p.2 c j = p.1 j from if_neg ej]
          have := h1 j (by omega)
          exact ⟨by omega, this.2⟩) (fun i j hij hj => by
        have hj : j < p.2 + 1 := hj
        show upW p.1 p.2 c i < upW p.1 p.2 c j
        rw [show upW p.1 p.2 c i = p.1 i from if_neg (by omega)]
        by_cases ej : j = p.2
        · rw [show upW p.1 p.2 c j = c from if_pos ej]
          exact (h1 i (by omega)).1
        · rw [show upW p.1 p.2 c j = p.1 j from if_neg ej]
          exact h2 i j hij (by omega))
      rw [show c + 1 + n = c + (n + 1) by omega] at g1 g2
      have g1 : (fuN mk n (c + 1) (upW p.1 p.2 c, p.2 + 1)).2 + cu mk (c + 1) = p.2 + 1 + cu mk (c + (n + 1)) := g1
      exact ⟨by omega, g2, g3⟩
theorem faN_ok : ∀ (n c : Nat) (p : (Nat → Nat) × Nat), (faN n c p).2 = p.2 + n ∧ (∀ j, j < p.2 → (faN n c p).1 j = p.1 j) ∧ (∀ j, j < n → (faN n c p).1 (p.2 + j) = c + j)
  | 0, c, p => ⟨rfl, fun _ _ => rfl, fun j hj => absurd hj (Nat.not_lt_zero j)⟩
  | n + 1, c, p => by
    have e : faN (n + 1) c p = faN n (c + 1) (upW p.1 p.2 c, p.2 + 1) := rfl
    rw [e]
    obtain ⟨g1, g2, g3⟩ := faN_ok n (c + 1) (upW p.1 p.2 c, p.2 + 1)
    have g1 : (faN n (c + 1) (upW p.1 p.2 c, p.2 + 1)).2 = p.2 + 1 + n := g1
    refine ⟨by omega, fun j hj => ?_, fun j hj => ?_⟩
    · rw [g2 j (show j < p.2 + 1 by omega)]
      exact if_neg (by omega)
    · cases j with
      | zero =>
        show (faN n (c + 1) (upW p.1 p.2 c, p.2 + 1)).1 p.2 = c
        rw [g2 p.2 (Nat.lt_succ_self _)]
        exact if_pos rfl
      | succ j =>
        have := g3 j (by omega)
        have this : (faN n (c + 1) (upW p.1 p.2 c, p.2 + 1)).1 (p.2 + 1 + j) = c + 1 + j := this
        rw [show p.2 + (j + 1) = p.2 + 1 + j by omega, this]
        omega
theorem cu_inj {ρ : Nat → Nat → Prop} {z z' : Nat} : ∀ (n : Nat) (gk gk_ : Nat → Bool), (∀ a, a < n → gk a = false → ∃ b, b < z' ∧ gk_ b = false ∧ ρ a b) → (∀ a a' b, ρ a b → ρ a' b → a = a') → cu gk n ≤ cu gk_ z'
  | 0, gk, gk_, _, _ => Nat.zero_le _
  | n + 1, gk, gk_, h, hi => by
    rw [cu_s]
    by_cases hc : gk n = true
    · rw [if_pos hc]
      exact cu_inj (z := z) n gk gk_ (fun a ha hm => h a (by omega) hm) hi
    · rw [if_neg hc]
      have hcf : gk n = false := by
        cases hm : gk n with
        | true => exact absurd hm hc
        | false => rfl
      obtain ⟨b, b1, b2, b3⟩ := h n (Nat.lt_succ_self n) hcf
      have hcu := cu_upd gk_ b b2 z' b1
      have := cu_inj (ρ := ρ) (z := z) (z' := z') n gk (upW gk_ b true) (fun a ha hm => by
        obtain ⟨b', c1, c2, c3⟩ := h a (by omega) hm
        refine ⟨b', c1, ?_, c3⟩
        show (if b' = b then true else gk_ b') = false
        rw [if_neg (fun e => by subst e; have := hi a n b' c3 b3; omega)]
        exact c2) hi
      omega
