def pfx (D : TL) : (TL × Nat) ⊕ Nat → (TL × Nat) ⊕ Nat
  | .inl (E, a) => .inl (D ++ E, a)
  | .inr a => .inr a
theorem cns_pfx {x : Int32 × Int32} {D : TL} {r : (TL × Nat) ⊕ Nat} : cns x (pfx D r) = pfx (x :: D) r := by
  rcases r with ⟨E, a⟩ | a <;> rfl
theorem cns_one {x : Int32 × Int32} {r : (TL × Nat) ⊕ Nat} : cns x r = pfx [x] r := by
  rcases r with ⟨E, a⟩ | a <;> rfl
theorem pfx_pfx {A B : TL} {r : (TL × Nat) ⊕ Nat} : pfx A (pfx B r) = pfx (A ++ B) r := by
  rcases r with ⟨E, a⟩ | a
  · show Sum.inl (A ++ (B ++ E), a) = Sum.inl (A ++ B ++ E, a)
    rw [List.append_assoc]
  · rfl
theorem catL_app : ∀ (A B : List TL), catL (A ++ B) = catL A ++ catL B
  | [], B => rfl
  | D :: A, B => by
    show D ++ catL (A ++ B) = D ++ catL A ++ catL B
    rw [catL_app A B, List.append_assoc]
section ZD
variable {tx : Nat → Nat} {X : Nat → Int32} {len z : Nat}
theorem gD_F (tx : Nat → Nat) (f o d a : Nat) : gD tx (f + 1) false o d a = if tx a = 40 then (if d + o < 9 then cns (4, 0) (gD tx f (decide (tx (a + 1) = 41)) (o + 1) d (a + 1)) else .inr a) else if cL (tx a) then cns (2, nI (tx a)) (gD tx f true o d (a + 1)) else if cD (tx (pA1 tx a)) then cns (1, pVal tx a) (gD tx f true o d (pDg tx 4 (pA1 tx a) 0).1) else .inr (pA1 tx a) := rfl
theorem gD_T (tx : Nat → Nat) (f o d a : Nat) : gD tx (f + 1) true (o + 1) d a = if tx a = 41 then cns (5, 0) (gD tx f true o d (a + 1)) else if tx a = 32 then gD tx f false (o + 1) d (a + 1) else .inr a := rfl
theorem gD_fu (hx : txOK X len tx) : ∀ (F F' : Nat) (b : Bool) (o d a : Nat), a ≤ len → len - a < F → len - a < F' → gD tx F b o d a = gD tx F' b o d a
  | 0, F', b, o, d, a, _, h, _ => absurd h (Nat.not_lt_zero _)
  | F + 1, 0, b, o, d, a, _, _, h => absurd h (Nat.not_lt_zero _)
  | F + 1, F' + 1, false, o, d, a, ha, h1, h2 => by
    rw [gD_F, gD_F]
    by_cases e40 : tx a = 40
    · have := hx.lt (a := a) (by omega)
      rw [if_pos e40, if_pos e40, gD_fu hx F F' (decide (tx (a + 1) = 41)) (o + 1) d (a + 1) (by omega) (by omega) (by omega)]
    · rw [if_neg e40, if_neg e40]
      by_cases eL : cL (tx a) = true
      · have := hx.lt (cL_ne eL)
        rw [if_pos eL, if_pos eL, gD_fu hx F F' true o d (a + 1) (by omega) (by omega) (by omega)]
      · rw [if_neg eL, if_neg eL]
        by_cases eD : cD (tx (pA1 tx a)) = true
        · obtain ⟨w1, w2, w3⟩ := num_len hx ha eD
          rw [if_pos eD, if_pos eD, gD_fu hx F F' true o d _ w2 (by omega) (by omega)]
        · rw [if_neg eD, if_neg eD]
  | F + 1, F' + 1, true, 0, d, a, ha, h1, h2 => rfl
  | F + 1, F' + 1, true, o + 1, d, a, ha, h1, h2 => by
    rw [gD_T, gD_T]
    by_cases e41 : tx a = 41
    · have := hx.lt (a := a) (by omega)
      rw [if_pos e41, if_pos e41, gD_fu hx F F' true o d (a + 1) (by omega) (by omega) (by omega)]
    · rw [if_neg e41, if_neg e41]
      by_cases e32 : tx a = 32
      · have := hx.lt (a := a) (by omega)
        rw [if_pos e32, if_pos e32, gD_fu hx F F' false (o + 1) d (a + 1) (by omega) (by omega) (by omega)]
      · rw [if_neg e32, if_neg e32]
def AD (len z : Nat) (tx : Nat → Nat) (d a o d0 : Nat) (t : tS) : PR → Prop
  | .inr (e, _) => ∀ F, len - a < F → gD tx F false o d0 a = .inr e
  | .inl (c, a', t') => ∃ D, (∀ F, len - a < F → gD tx F false o d0 a = pfx D (gD tx 200 true o d0 a')) ∧ WR t (DP z d D) c t'
theorem al_dm (hx : txOK X len tx) {pe : Nat → tS → PR} {d o d0 : Nat} (hd : d + 1 ≤ 9) (hg : GE len pe) (hp : ∀ a t, tOK t → tn t ≤ a → a ≤ len → 1 ≤ tn t → AD len z tx (d + 1) a (o + 1) d0 t (pe a t)) {t0 : tS} {n : Nat} {p : Int32} : ∀ (k a : Nat) (t : tS) (Ds : List TL), OpQ t0 t n 3 0 p (Ds.map (DP z (d + 1))) → tOK t → tn t ≤ a → a ≤ len → 97 ≤ tn t + k → (match pMore tx pe n k a t with
    | .inr (e, _) => gD tx 200 true (o + 1) d0 a = .inr e
    | .inl (c, a', t') => ∃ D2, gD tx 200 true (o + 1) d0 a = pfx D2 (gD tx 200 true o d0 a') ∧ WR t0 (DP z d ((4, 0) :: (catL Ds ++ D2))) c t')
  | 0, a, t, Ds, hO, ht, h1, h2, h3 => by
    have := hx.1
    omega
  | k + 1, a, t, Ds, hO, ht, h1, h2, h3 => by
    have h96 := hx.1
    rw [show (200 : Nat) = 199 + 1 from rfl, gD_T]
    unfold pMore
    by_cases e32 : tx a = 32
    · have hlt := hx.lt (a := a) (by omega)
      rw [if_pos e32, if_neg (by omega), if_pos e32]
      have ha := hp (a + 1) t ht (by omega) (by omega) (by have := hO.2.1; omega)
      have hgd := hg (a + 1) t ht (by omega) (by omega)
      generalize pe (a + 1) t = r at ha hgd
      rcases r with ⟨c, a2, t2⟩ | ⟨e, t2⟩
      · obtain ⟨D1, q1, q2⟩ := ha
        obtain ⟨g0, g1, g2, g3, g4⟩ := hgd
        have hO2 := opq_part hO q2
        rw [show Ds.map (DP z (d + 1)) ++ [DP z (d + 1) D1] = (Ds ++ [D1]).map (DP z (d + 1)) by rw [List.map_append]; rfl] at hO2
        have hn := hO.2.1
        have ih := al_dm hx hd hg hp k a2 (tPart t2 n c) (Ds ++ [D1]) hO2 (tOK_part g1 (by omega)) (by rw [tn_part]; exact g3) g4 (by rw [tn_part]; omega)
        rw [q1 199 (by omega)]
        show (match pMore tx pe n k a2 (tPart t2 n c) with | .inr (e, _) => _ | .inl (c, a', t') => _)
        generalize pMore tx pe n k a2 (tPart t2 n c) = r at ih
        rcases r with ⟨c3, a3, t3⟩ | ⟨e, t3⟩
        · obtain ⟨D2, i1, i2⟩ := ih
          refine ⟨D1 ++ D2, ?_, ?_⟩
          · rw [i1, pfx_pfx]
          · rw [catL_app, show catL [D1] = D1 ++ [] from rfl, List.append_nil, List.append_assoc] at i2
            exact i2
        · have ih : gD tx 200 true (o + 1) d0 a2 = .inr e := ih
          show pfx D1 (gD tx 200 true (o + 1) d0 a2) = .inr e
          rw [ih]
          rfl
      · exact ha 199 (by omega)
    · rw [if_neg e32, if_neg e32]
      unfold pClose
      by_cases e41 : tx a = 41
      · have hlt := hx.lt (a := a) (by omega)
        rw [if_pos e41, if_pos e41]
        refine ⟨[(5, 0)], ?_, opq_done hO ht.1 (fun t' hN => D_lst hd hN)⟩
        rw [cns_one, gD_fu hx 199 200 true o d0 (a + 1) (by omega) (by omega) (by omega)]
      · rw [if_neg e41, if_neg e41]
theorem al_dat (hx : txOK X len tx) : ∀ (f d : Nat), 10 ≤ f + d → d ≤ 9 → ∀ (a : Nat) (t : tS) (o d0 : Nat), d0 + o = d → tOK t → tn t ≤ a → a ≤ len → 1 ≤ tn t → AD len z tx d a o d0 t (pDat tx f d a t)
  | 0, d, h, h9 => by omega
  | f + 1, d, h, h9 => by
    intro a t o d0 hd ht h1 h2 hn1
    have h96 := hx.1
    unfold pDat
    by_cases e40 : tx a = 40
    · have hlt := hx.lt (a := a) (by omega)
      rw [if_pos e40]
      by_cases hd9 : 9 ≤ d
      · rw [if_pos hd9]
        intro F hF
        obtain ⟨F, rfl⟩ : ∃ F', F = F' + 1 := ⟨F - 1, by omega⟩
        rw [gD_F, if_pos e40, if_neg (by omega)]
      · rw [if_neg hd9]
        have ht1 : tOK (tAdd t 3 0 (nI a)) := tOK_add ht (by omega)
        have hO : OpQ t (tAdd t 3 0 (nI a)) (tn t) 3 0 (nI a) (([] : List TL).map (DP z (d + 1))) := opq_new
        have gF : ∀ F, len - a < F → gD tx F false o d0 a = cns (4, 0) (gD tx 200 (decide (tx (a + 1) = 41)) (o + 1) d0 (a + 1)) := by
          intro F hF
          obtain ⟨F, rfl⟩ : ∃ F', F = F' + 1 := ⟨F - 1, by omega⟩
          rw [gD_F, if_pos e40, if_pos (by omega), gD_fu hx F 200 _ (o + 1) d0 (a + 1) (by omega) (by omega) (by omega)]
        by_cases e41 : tx (a + 1) = 41
        · have hlt2 := hx.lt (a := a + 1) (by omega)
          rw [if_pos e41]
          refine ⟨[(4, 0), (5, 0)], fun F hF => ?_, opq_done hO ht1.1 (fun t' hN => D_lst (Ds := []) (by omega) hN)⟩
          rw [gF F hF, decide_eq_true e41, show (200 : Nat) = 199 + 1 from rfl, gD_T, if_pos e41, gD_fu hx 199 (199 + 1) true o d0 (a + 1 + 1) (by omega) (by omega) (by omega), cns_one, cns_one, pfx_pfx]
          rfl
        · rw [if_neg e41]
          have ha := al_dat hx f (d + 1) (by omega) (by omega) (a + 1) (tAdd t 3 0 (nI a)) (o + 1) d0 (by omega) ht1 (by rw [tn_add]; omega) (by omega) (by rw [tn_add]; omega)
          have hgd := g_dat hx f (d + 1) (a + 1) (tAdd t 3 0 (nI a)) ht1 (by rw [tn_add]; omega) (by omega)
          rw [tn_add] at hgd
          have hpe : ∀ a t, tOK t → tn t ≤ a → a ≤ len → 1 ≤ tn t → AD len z tx (d + 1) a (o + 1) d0 t (pDat tx f (d + 1) a t) := fun a t q1 q2 q3 q4 => al_dat hx f (d + 1) (by omega) (by omega) a t (o + 1) d0 (by omega) q1 q2 q3 q4
          have hGE := g_dat hx f (d + 1)
          generalize pDat tx f (d + 1) = pe at ha hgd hpe hGE
          generalize pe (a + 1) (tAdd t 3 0 (nI a)) = r at ha hgd
          rcases r with ⟨c, a2, t2⟩ | ⟨e, t2⟩
          · obtain ⟨D1, q1, q2⟩ := ha
            obtain ⟨g0, g1, g2, g3, g4⟩ := hgd
            have hO2 : OpQ t (tPart t2 (tn t) c) (tn t) 3 0 (nI a) ([D1].map (DP z (d + 1))) := opq_part hO q2
            have ih := al_dm hx (by omega) hGE hpe 95 a2 (tPart t2 (tn t) c) [D1] hO2 (tOK_part g1 (by omega)) (by rw [tn_part]; exact g3) g4 (by rw [tn_part]; omega)
            show AD len z tx d a o d0 t (pMore tx pe (tn t) 95 a2 (tPart t2 (tn t) c))
            generalize pMore tx pe (tn t) 95 a2 (tPart t2 (tn t) c) = r at ih
            rcases r with ⟨c3, a3, t3⟩ | ⟨e, t3⟩
            · obtain ⟨D2, i1, i2⟩ := ih
              refine ⟨(4, 0) :: (catL [D1] ++ D2), fun F hF => ?_, i2⟩
              rw [gF F hF, decide_eq_false e41, q1 200 (by omega), i1, pfx_pfx, cns_pfx, show catL [D1] = D1 ++ [] from rfl, List.append_nil]
            · have ih : gD tx 200 true (o + 1) d0 a2 = .inr e := ih
              intro F hF
              rw [gF F hF, decide_eq_false e41, q1 200 (by omega), ih]
              rfl
          · intro F hF
            rw [gF F hF, decide_eq_false e41, ha 200 (by omega)]
            rfl
    · rw [if_neg e40]
      unfold pAtom
      by_cases eL : cL (tx a) = true
      · have hlt := hx.lt (cL_ne eL)
        rw [if_pos eL]
        refine ⟨[(2, nI (tx a))], fun F hF => ?_, opq_done opq_new (by rw [tn_add]; omega) (fun t' hN => D_sym h9 hN)⟩
        obtain ⟨F, rfl⟩ : ∃ F', F = F' + 1 := ⟨F - 1, by omega⟩
        rw [gD_F, if_neg e40, if_pos eL, cns_one, gD_fu hx F 200 true o d0 (a + 1) (by omega) (by omega) (by omega)]
      · rw [if_neg eL]
        unfold pNum
        by_cases eD : cD (tx (pA1 tx a)) = true
        · obtain ⟨w1, w2, w3⟩ := num_len hx h2 eD
          rw [if_pos eD]
          refine ⟨[(1, pVal tx a)], fun F hF => ?_, opq_done opq_new (by rw [tn_add]; omega) (fun t' hN => D_num h9 hN)⟩
          obtain ⟨F, rfl⟩ : ∃ F', F = F' + 1 := ⟨F - 1, by omega⟩
          rw [gD_F, if_neg e40, if_neg eL, if_pos eD, cns_one, gD_fu hx F 200 true o d0 _ w2 (by omega) (by omega)]
        · rw [if_neg eD]
          intro F hF
          obtain ⟨F, rfl⟩ : ∃ F', F = F' + 1 := ⟨F - 1, by omega⟩
          rw [gD_F, if_neg e40, if_neg eL, if_neg eD]
end ZD
