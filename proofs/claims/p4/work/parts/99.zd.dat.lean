section
def pfx (D : TL) : (TL × Nat) ⊕ Nat → (TL × Nat) ⊕ Nat
  | .inl (E, a) => .inl (D ++ E, a)
  | .inr a => .inr a
theorem cns_pfx {x : Int32 × Int32} {D : TL} {r : (TL × Nat) ⊕ Nat} : cns x (pfx D r) = pfx (x :: D) r := by
  rcases r with ⟨E, a⟩ | a <;> rfl
theorem cns_one {x : Int32 × Int32} {r : (TL × Nat) ⊕ Nat} : cns x r = pfx [x] r := by
  rcases r with ⟨E, a⟩ | a <;> rfl
theorem pfx_pfx {A B : TL} {r : (TL × Nat) ⊕ Nat} : pfx A (pfx B r) = pfx (A ++ B) r := by
  rcases r with ⟨E, a⟩ | a
  · show Sum.inl (A ++ (B ++ E), a) = Sum.inl (A ++ B ++ E, a)
    rw [List.append_assoc]
  · rfl
theorem catL_app : ∀ (A B : List TL), catL (A ++ B) = catL A ++ catL B
  | [], B => rfl
  | D :: A, B => by
    show D ++ catL (A ++ B) = D ++ catL A ++ catL B
    rw [catL_app A B, List.append_assoc]
section ZD
variable {tx : Nat → Nat} {X : Nat → Int32} {len z : Nat}
theorem gD_F (tx : Nat → Nat) (f o d a : Nat) : gD tx (f + 1) false o d a = if tx a = 40 then (if d + o < 9 then cns (4, 0) (gD tx f (decide (tx (a + 1) = 41)) (o + 1) d (a + 1)) else .inr a) else if cL (tx a) then cns (2, nI (tx a)) (gD tx f true o d (a + 1)) else if cD (tx (pA1 tx a)) then cns (1, pVal tx a) (gD tx f true o d (pDg tx 4 (pA1 tx a) 0).1) else .inr (pA1 tx a) := rfl
theorem gD_T (tx : Nat → Nat) (f o d a : Nat) : gD tx (f + 1) true (o + 1) d a = if tx a = 41 then cns (5, 0) (gD tx f true o d (a + 1)) else if tx a = 32 then gD tx f false (o + 1) d (a + 1) else .inr a := rfl
theorem gD_fu (hx : txOK X len tx) : ∀ (F F' : Nat) (b : Bool) (o d a : Nat), a ≤ len → len - a < F → len - a < F' → gD tx F b o d a = gD tx F' b o d a
  | 0, F', b, o, d, a, _, h, _ => absurd h (Nat.not_lt_zero _)
  | F + 1, 0, b, o, d, a, _, _, h => absurd h (Nat.not_lt_zero _)
  | F + 1, F' + 1, false, o, d, a, ha, h1, h2 => by
    rw [gD_F, gD_F]
    by_cases e40 : tx a = 40
    · have := hx.lt (a := a) (by omega)
      rw [if_pos e40, if_pos e40, gD_fu hx F F' (decide (tx (a + 1) = 41)) (o + 1) d (a + 1) (by omega) (by omega) (by omega)]
    · rw [if_neg e40, if_neg e40]
      by_cases eL : cL (tx a) = true
      · have := hx.lt (cL_ne eL)
        rw [if_pos eL, if_pos eL, gD_fu hx F F' true o d (a + 1) (by omega) (by omega) (by omega)]
      · rw [if_neg eL, if_neg eL]
        by_cases eD : cD (tx (pA1 tx a)) = true
        · obtain ⟨w1, w2, w3⟩ := num_len hx ha eD
          rw [if_pos eD, if_pos eD, gD_fu hx F F' true o d _ w2 (by omega) (by omega)]
        · rw [if_neg eD, if_neg eD]
  | F + 1, F' + 1, true, 0, d, a, ha, h1, h2 => rfl
  | F + 1, F' + 1, true, o + 1, d, a, ha, h1, h2 => by
    rw [gD_T, gD_T]
    by_cases e41 : tx a = 41
    · have := hx.lt (a := a) (by omega)
      rw [if_pos e41, if_pos e41, gD_fu hx F F' true o d (a + 1) (by omega) (by omega) (by omega)]
    · rw [if_neg e41, if_neg e41]
      by_cases e32 : tx a = 32
      · have := hx.lt (a := a) (by omega)
        rw [if_pos e32, if_pos e32, gD_fu hx F F' false (o + 1) d (a + 1) (by omega) (by omega) (by omega)]
      · rw [if_neg e32, if_neg e32]
def AD (len z : Nat) (tx : Nat → Nat) (d a o d0 : Nat) (t : tS) : PR → Prop
  | .inr (e, _) => ∀ F, len - a < F → gD tx F false o d0 a = .inr e
  | .inl (c, a', t') => ∃ D, (∀ F, len - a < F → gD tx F false o d0 a = pfx D (gD tx 200 true o d0 a')) ∧ WR t (DP z d D) c t'
theorem al_dm (hx : txOK X len tx) {pe : Nat → tS → PR} {d o d0 : Nat} (hd : d + 1 ≤ 9) (hg : GE len pe) (hp : ∀ a t, tOK t → tn t ≤ a → a ≤ len → 1 ≤ tn t → AD len z tx (d + 1) a (o + 1) d0 t (pe a t)) {t0 : tS} {n : Nat} {p : Int32} : ∀ (k a : Nat) (t : tS) (Ds : List TL), OpQ t0 t n 3 0 p (Ds.map (DP z (d + 1))) → tOK t → tn t ≤ a → a ≤ len → 97 ≤ tn t + k → (match pMore tx pe n k a t with
    | .inr (e, _) => gD tx 200 true (o + 1) d0 a = .inr e
    | .inl (c, a', t') => ∃ D2, gD tx 200 true (o + 1) d0 a = pfx D2 (gD tx 200 true o d0 a') ∧ WR t0 (DP z d ((4, 0) :: (catL Ds ++ D2))) c t')
  | 0, a, t, Ds, hO, ht, h1, h2, h3 => by
    have := hx.1
    omega
  | k + 1, a, t, Ds, hO, ht, h1, h2, h3 => by
    have h96 := hx.1
    rw [show (200 : Nat) = 199 + 1 from rfl, gD_T]
    unfold pMore
    by_cases e32 : tx a = 32
    · have hlt := hx.lt (a := a) (by omega)
      rw [if_pos e32, if_neg (by omega), if_pos e32]
      have ha := hp (a + 1) t ht (by omega) (by omega) (by have := hO.2.1; omega)
      have hgd := hg (a + 1) t ht (by omega) (by omega)
      generalize pe (a + 1) t = r at ha hgd
      rcases r with ⟨c, a2, t2⟩ | ⟨e, t2⟩
      · obtain ⟨D1, q1, q2⟩ := ha
        obtain ⟨g0, g1, g2, g3, g4⟩ := hgd
        have hO2 := opq_part hO q2
        rw [show Ds.map (DP z (d + 1)) ++ [DP z (d + 1) D1] = (Ds ++ [D1]).map (DP z (d + 1)) by rw [List.map_append]; rfl] at hO2
        have hn := hO.2.1
        have ih := al_dm hx hd hg hp k a2 (tPart t2 n c) (Ds ++ [D1]) hO2 (tOK_part g1 (by omega)) (by rw [tn_part]; exact g3) g4 (by rw [tn_part]; omega)
        rw [q1 199 (by omega)]
        show (match pMore tx pe n k a2 (tPart t2 n c) with | .inr (e, _) => _ | .inl (c, a', t') => _)
        generalize pMore tx pe n k a2 (tPart t2 n c) = r at ih
        rcases r with ⟨c3, a3, t3⟩ | ⟨e, t3⟩
        · obtain ⟨D2, i1, i2⟩ := ih
          refine ⟨D1 ++ D2, ?_, ?_⟩
          · rw [i1, pfx_pfx]
          · rw [catL_app, show catL [D1] = D1 ++ [] from rfl, List.append_nil, List.append_assoc] at i2
            exact i2
        · have ih : gD tx 200 true (o + 1) d0 a2 = .inr e := ih
          show pfx D1 (gD tx 200 true (o + 1) d0 a2) = .inr e
          rw [ih]
          rfl
      · exact ha 199 (by omega)
    · rw [if_neg e32, if_neg e32]
      unfold pClose
      by_cases e41 : tx a = 41
      · have hlt := hx.lt (a := a) (by omega)
        rw [if_pos e41, if_pos e41]
        refine ⟨[(5, 0)], ?_, opq_done hO ht.1 (fun t' hN => D_lst hd hN)⟩
        rw [cns_one, gD_fu hx 199 200 true o d0 (a + 1) (by omega) (by omega) (by omega)]
      · rw [if_neg e41, if_neg e41]
theorem al_dat (hx : txOK X len tx) : ∀ (f d : Nat), 10 ≤ f + d → d ≤ 9 → ∀ (a : Nat) (t : tS) (o d0 : Nat), d0 + o = d → tOK t → tn t ≤ a → a ≤ len → 1 ≤ tn t → AD len z tx d a o d0 t (pDat tx f d a t)
  | 0, d, h, h9 => by omega
  | f + 1, d, h, h9 => by
    intro a t o d0 hd ht h1 h2 hn1
    have h96 := hx.1
    unfold pDat
    by_cases e40 : tx a = 40
    · have hlt := hx.lt (a := a) (by omega)
      rw [if_pos e40]
      by_cases hd9 : 9 ≤ d
      · rw [if_pos hd9]
        intro F hF
        obtain ⟨F, rfl⟩ : ∃ F', F = F' + 1 := ⟨F - 1, by omega⟩
        rw [gD_F, if_pos e40, if_neg (by omega)]
      · rw [if_neg hd9]
        have ht1 : tOK (tAdd t 3 0 (nI a)) := tOK_add ht (by omega)
        have hO : OpQ t (tAdd t 3 0 (nI a)) (tn t) 3 0 (nI a) (([] : List TL).map (DP z (d + 1))) := opq_new
        have gF : ∀ F, len - a < F → gD tx F false o d0 a = cns (4, 0) (gD tx 200 (decide (tx (a + 1) = 41)) (o + 1) d0 (a + 1)) := by
          intro F hF
          obtain ⟨F, rfl⟩ : ∃ F', F = F' + 1 := ⟨F - 1, by omega⟩
          rw [gD_F, if_pos e40, if_pos (by omega), gD_fu hx F 200 _ (o + 1) d0 (a + 1) (by omega) (by omega) (by omega)]
        by_cases e41 : tx (a + 1) = 41
        · have hlt2 := hx.lt (a := a + 1) (by omega)
          rw [if_pos e41]
          refine ⟨[(4, 0), (5, 0)], fun F hF => ?_, opq_done hO ht1.1 (fun t' hN => D_lst (Ds := []) (by omega) hN)⟩
          rw [gF F hF, decide_eq_true e41, show (200 : Nat) = 199 + 1 from rfl, gD_T, if_pos e41, gD_fu hx 199 (199 + 1) true o d0 (a + 1 + 1) (by omega) (by omega) (by omega), cns_one, cns_one, pfx_pfx]
          rfl
        · rw [if_neg e41]
          have ha := al_dat hx f (d + 1) (by omega) (by omega) (a + 1) (tAdd t 3 0 (nI a)) (o + 1) d0 (by omega) ht1 (by rw [tn_add]; omega) (by omega) (by rw [tn_add]; omega)
          have hgd := g_dat hx f (d + 1) (a + 1) (tAdd t 3 0 (nI a)) ht1 (by rw [tn_add]; omega) (by omega)
          rw [tn_add] at hgd
          have hpe : ∀ a t, tOK t → tn t ≤ a → a ≤ len → 1 ≤ tn t → AD len z tx (d + 1) a (o + 1) d0 t (pDat tx f (d + 1) a t) := fun a t q1 q2 q3 q4 => al_dat hx f (d + 1) (by omega) (by omega) a t (o + 1) d0 (by omega) q1 q2 q3 q4
          have hGE := g_dat hx f (d + 1)
          generalize pDat tx f (d + 1) = pe at ha hgd hpe hGE
          generalize pe (a + 1) (tAdd t 3 0 (nI a)) = r at ha hgd
          rcases r with ⟨c, a2, t2⟩ | ⟨e, t2⟩
          · obtain ⟨D1, q1, q2⟩ := ha
            obtain ⟨g0, g1, g2, g3, g4⟩ := hgd
            have hO2 : OpQ t (tPart t2 (tn t) c) (tn t) 3 0 (nI a) ([D1].map (DP z (d + 1))) := opq_part hO q2
            have ih := al_dm hx (by omega) hGE hpe 95 a2 (tPart t2 (tn t) c) [D1] hO2 (tOK_part g1 (by omega)) (by rw [tn_part]; exact g3) g4 (by rw [tn_part]; omega)
            show AD len z tx d a o d0 t (pMore tx pe (tn t) 95 a2 (tPart t2 (tn t) c))
            generalize pMore tx pe (tn t) 95 a2 (tPart t2 (tn t) c) = r at ih
            rcases r with ⟨c3, a3, t3⟩ | ⟨e, t3⟩
            · obtain ⟨D2, i1, i2⟩ := ih
              refine ⟨(4, 0) :: (catL [D1] ++ D2), fun F hF => ?_, i2⟩
              rw [gF F hF, decide_eq_false e41, q1 200 (by omega), i1, pfx_pfx, cns_pfx, show catL [D1] = D1 ++ [] from rfl, List.append_nil]
            · have ih : gD tx 200 true (o + 1) d0 a2 = .inr e := ih
              intro F hF
              rw [gF F hF, decide_eq_false e41, q1 200 (by omega), ih]
              rfl
          · intro F hF
            rw [gF F hF, decide_eq_false e41, ha 200 (by omega)]
            rfl
    · rw [if_neg e40]
      unfold pAtom
      by_cases eL : cL (tx a) = true
      · have hlt := hx.lt (cL_ne eL)
        rw [if_pos eL]
        refine ⟨[(2, nI (tx a))], fun F hF => ?_, opq_done opq_new (by rw [tn_add]; omega) (fun t' hN => D_sym h9 hN)⟩
        obtain ⟨F, rfl⟩ : ∃ F', F = F' + 1 := ⟨F - 1, by omega⟩
        rw [gD_F, if_neg e40, if_pos eL, cns_one, gD_fu hx F 200 true o d0 (a + 1) (by omega) (by omega) (by omega)]
      · rw [if_neg eL]
        unfold pNum
        by_cases eD : cD (tx (pA1 tx a)) = true
        · obtain ⟨w1, w2, w3⟩ := num_len hx h2 eD
          rw [if_pos eD]
          refine ⟨[(1, pVal tx a)], fun F hF => ?_, opq_done opq_new (by rw [tn_add]; omega) (fun t' hN => D_num h9 hN)⟩
          obtain ⟨F, rfl⟩ : ∃ F', F = F' + 1 := ⟨F - 1, by omega⟩
          rw [gD_F, if_neg e40, if_neg eL, if_pos eD, cns_one, gD_fu hx F 200 true o d0 _ w2 (by omega) (by omega)]
        · rw [if_neg eD]
          intro F hF
          obtain ⟨F, rfl⟩ : ∃ F', F = F' + 1 := ⟨F - 1, by omega⟩
          rw [gD_F, if_neg e40, if_neg eL, if_neg eD]
end ZD
end
section
def AL (z d : Nat) (t : tS) (G : GR) : PR → Prop
  | .inr (e, _) => G = .inr e
  | .inl (c, a', t') => ∃ τ, G = .inl (τ, a') ∧ WR t (XP z d τ) c t'
def AE (len z d : Nat) (pe : Nat → tS → PR) (ge : Nat → GR) : Prop := ∀ a t, tOK t → tn t ≤ a → a ≤ len → AL z d t (ge a) (pe a t)
section ZE
variable {tx : Nat → Nat} {X : Nat → Int32} {len z d : Nat}
theorem al_close {t0 t : tS} {n a : Nat} {k v p : Int32} {Ps : List KP} {τ : Tau} (hO : OpQ t0 t n k v p Ps) (h96 : tn t ≤ 96) (hX : ∀ t', NODE k v p Ps t' n → XP z d τ t' n) : AL z d t0 (gCl tx τ a) (pClose tx n a t) := by
  unfold gCl pClose
  by_cases e : tx a = 41
  · rw [if_pos e, if_pos e]
    exact ⟨τ, rfl, opq_done hO h96 hX⟩
  · rw [if_neg e, if_neg e]
    exact rfl
theorem map_snoc {ks : List Kd} {τ : Tau} : (ks.map (fun k : Kd => XP z d k.1)) ++ [XP z d τ] = (ks ++ [((τ, 0) : Kd)]).map (fun k => XP z d k.1) := by
  rw [List.map_append]
  rfl
theorem al_more (hx : txOK X len tx) {pe : Nat → tS → PR} {ge : Nat → GR} (hd : d + 1 ≤ 9) (hg : GE len pe) (hp : AE len z (d + 1) pe ge) {t0 : tS} {n : Nat} {p : Int32} {h0 : Kd} : ∀ (k a : Nat) (t : tS) (ks : List Kd), OpQ t0 t n 11 0 p ((h0 :: ks).map (fun k => XP z (d + 1) k.1)) → tOK t → tn t ≤ a → a ≤ len → AL z d t0 (gMo tx ge h0 k a ks) (pMore tx pe n k a t)
  | 0, a, t, ks, hO, ht, h1, h2 => al_close hO ht.1 (fun t' hN => E_call hd hN)
  | k + 1, a, t, ks, hO, ht, h1, h2 => by
    have h96 := hx.1
    unfold gMo pMore
    by_cases e : tx a = 32
    · have hlt := hx.lt (a := a) (by omega)
      rw [if_pos e, if_pos e]
      have ha := hp (a + 1) t ht (by omega) (by omega)
      have hgd := hg (a + 1) t ht (by omega) (by omega)
      generalize ge (a + 1) = G at ha
      generalize pe (a + 1) t = r at ha hgd
      rcases r with ⟨c, a2, t2⟩ | ⟨e, t2⟩
      · obtain ⟨τ, rfl, q2⟩ := ha
        obtain ⟨g0, g1, g2, g3, g4⟩ := hgd
        have hO2 := opq_part hO q2
        rw [map_snoc] at hO2
        have hn := hO.2.1
        exact al_more hx hd hg hp k a2 (tPart t2 n c) (ks ++ [(τ, 0)]) hO2 (tOK_part g1 (by omega)) (by rw [tn_part]; exact g3) g4
      · have ha : G = .inr e := ha
        subst ha
        exact rfl
    · rw [if_neg e, if_neg e]
      exact al_close hO ht.1 (fun t' hN => E_call hd hN)
theorem al_args (hx : txOK X len tx) {pe : Nat → tS → PR} {ge : Nat → GR} (hd : d + 1 ≤ 9) (hg : GE len pe) (hp : AE len z (d + 1) pe ge) {t0 : tS} {n c0 o : Nat} {p : Int32} (ho : opO c0 = some o) : ∀ (k a : Nat) (t : tS) (ks : List Kd), ks.length + k = ar c0 → OpQ t0 t n 5 (nI o) p (ks.map (fun k => XP z (d + 1) k.1)) → tOK t → tn t ≤ a → a ≤ len → AL z d t0 (gAr tx ge c0 k a ks) (pArgs tx pe n k a t)
  | 0, a, t, ks, hk, hO, ht, h1, h2 => al_close hO ht.1 (fun t' hN => E_op hd ho hk hN)
  | k + 1, a, t, ks, hk, hO, ht, h1, h2 => by
    have h96 := hx.1
    unfold gAr pArgs
    by_cases e : tx a = 32
    · have hlt := hx.lt (a := a) (by omega)
      rw [if_pos e, if_pos e]
      have ha := hp (a + 1) t ht (by omega) (by omega)
      have hgd := hg (a + 1) t ht (by omega) (by omega)
      generalize ge (a + 1) = G at ha
      generalize pe (a + 1) t = r at ha hgd
      rcases r with ⟨c, a2, t2⟩ | ⟨e, t2⟩
      · obtain ⟨τ, rfl, q2⟩ := ha
        obtain ⟨g0, g1, g2, g3, g4⟩ := hgd
        have hO2 := opq_part hO q2
        rw [map_snoc] at hO2
        have hn := hO.2.1
        exact al_args hx hd hg hp ho k a2 (tPart t2 n c) (ks ++ [(τ, 0)]) (by rw [List.length_append]; show ks.length + 1 + k = ar c0; omega) hO2 (tOK_part g1 (by omega)) (by rw [tn_part]; exact g3) g4
      · have ha : G = .inr e := ha
        subst ha
        exact rfl
    · rw [if_neg e, if_neg e]
      exact rfl
theorem al_op (hx : txOK X len tx) {pe : Nat → tS → PR} {ge : Nat → GR} (hd : d + 1 ≤ 9) (hg : GE len pe) (hp : AE len z (d + 1) pe ge) {o a : Nat} {t : tS} (ho : opO (tx a) = some o) (ht : tOK t) (h1 : tn t + 1 ≤ a) (h2 : a < len) : AL z d t (gSg tx ge a) (pOp tx pe o a t) := by
  have h96 := hx.1
  have hpos : 0 < ar (tx a) := ar_op.mpr ⟨o, ho⟩
  have e : gSg tx ge a = gAr tx ge (tx a) (ar (tx a)) (a + 1) [] := by
    obtain ⟨j, hj⟩ : ∃ j, ar (tx a) = j + 1 := ⟨ar (tx a) - 1, by omega⟩
    unfold gSg
    rw [hj]
    rfl
  rw [e]
  unfold pOp
  rw [opN_ar ho]
  exact al_args hx hd hg hp ho _ _ _ [] (by simp) opq_new (tOK_add ht (by omega)) (by rw [tn_add]; omega) (by omega)
theorem al_call (hx : txOK X len tx) {pe : Nat → tS → PR} {ge : Nat → GR} (hd : d + 1 ≤ 9) (hg : GE len pe) (hp : AE len z (d + 1) pe ge) {a : Nat} {t : tS} (ht : tOK t) (h1 : tn t + 1 ≤ a) (h2 : a ≤ len) : AL z d t (gCa tx ge a) (pCall tx pe a t) := by
  have h96 := hx.1
  have ht1 : tOK (tAdd t 11 0 (nI a)) := tOK_add ht (by omega)
  have ha := hp a _ ht1 (by rw [tn_add]; omega) h2
  have hgd := hg a _ ht1 (by rw [tn_add]; omega) h2
  unfold gCa pCall
  generalize ge a = G at ha
  generalize pe a (tAdd t 11 0 (nI a)) = r at ha hgd
  rcases r with ⟨c, a2, t2⟩ | ⟨e, t2⟩
  · obtain ⟨τ, rfl, q2⟩ := ha
    rw [tn_add] at hgd
    obtain ⟨g0, g1, g2, g3, g4⟩ := hgd
    have hO2 : OpQ t (tPart t2 (tn t) c) (tn t) 11 0 (nI a) ((((τ, 0) : Kd) :: []).map (fun k => XP z (d + 1) k.1)) := opq_part opq_new q2
    exact al_more hx hd hg hp 3 a2 (tPart t2 (tn t) c) [] hO2 (tOK_part g1 (by omega)) (by rw [tn_part]; exact g3) g4
  · have ha : G = .inr e := ha
    subst ha
    exact rfl
theorem plc_none {c : Nat} : ∀ (ls : List Nat) (i : Nat), plc c ls i = none ↔ ¬ c ∈ ls
  | [], i => by simp [plc]
  | y :: ls, i => by
    have e : plc c (y :: ls) i = if y = c then some i else plc c ls (i + 1) := rfl
    rw [e]
    by_cases h : y = c
    · rw [if_pos h, h]
      simp
    · rw [if_neg h, plc_none ls (i + 1), List.mem_cons]
      exact ⟨fun q w => w.elim (fun w => h w.symm) q, fun q w => q (Or.inr w)⟩
theorem let_cur {t0 t : tS} {n c : Nat} {p : Int32} {ls : List Nat} (hO : OpQ t0 t n 7 0 p (ls.map LtP)) (h96 : tn t ≤ 96) (hc : c < 256) (hl : ls.length ≤ 3) (hls : ∀ y ∈ ls, y < 256) : (tPl t (nI c) 96 (tEn t (tF t) (some n)) = none ↔ ¬ c ∈ ls) := by
  obtain ⟨h1, -, -, cs, c1, c2⟩ := opq_cur hO h96
  rw [tEn_in h1, tPl_plc hc ls (tF t n) 96 (LTR_LtP c1 c2) hls (by omega)]
  exact plc_none ls 0
def AP (t0 : tS) (G : (List Nat × Nat) ⊕ Nat) (tx : Nat → Nat) : PR → Prop
  | .inr (e, _) => G = .inr e
  | .inl (c, a', t') => ∃ ls, G = (if tx a' = 32 then .inl (ls, a' + 1) else .inr a') ∧ ls.length ≤ 3 ∧ (∀ y ∈ ls, y < 256) ∧ WR t0 (PP ls) c t'
theorem PP_of {t : tS} {n : Nat} {p : Int32} {ls : List Nat} (h : NODE 7 0 p (ls.map LtP) t n) : PP ls t n := by
  obtain ⟨h1, -, -, cs, c1, c2⟩ := h
  exact ⟨h1, LTR_LtP c1 c2⟩
theorem al_ls (hx : txOK X len tx) {t0 : tS} {n : Nat} {p : Int32} : ∀ (k a : Nat) (t : tS) (ls : List Nat), ls.length + k = 2 → OpQ t0 t n 7 0 p (ls.map LtP) → (∀ y ∈ ls, y < 256) → tOK t → tn t ≤ a → a ≤ len → AP t0 (gLs tx (k + 1) a ls) tx (match pLet tx n a t with
    | .inr e => .inr e
    | .inl (a2, t2) => pLs tx n k a2 t2) := by
  intro k
  induction k with
  | zero =>
    intro a t ls hk hO hls ht h1 h2
    have h96 := hx.1
    have h256 := hx.le a
    have hcur := let_cur hO ht.1 (c := tx a) (by omega) (by omega) hls
    have e1 : gLs tx (0 + 1) a ls = if cL (tx a) = true ∧ ¬ tx a ∈ ls then (if tx (a + 1) = 32 ∧ ¬ 0 = 0 then gLs tx 0 (a + 1 + 1) (ls ++ [tx a]) else (if tx (a + 1) = 41 then (if tx (a + 1 + 1) = 32 then .inl (ls ++ [tx a], a + 1 + 1 + 1) else .inr (a + 1 + 1)) else .inr (a + 1))) else .inr a := rfl
    rw [e1]
    unfold pLet
    by_cases h : cL (tx a) = true ∧ ¬ tx a ∈ ls
    · have hlt := hx.lt (cL_ne h.1)
      have hc2 : cL (tx a) = true ∧ tPl t (nI (tx a)) 96 (tEn t (tF t) (some n)) = none := ⟨h.1, hcur.mpr h.2⟩
      have hc3 : ¬ (tx (a + 1) = 32 ∧ ¬ 0 = 0) := fun q => q.2 rfl
      rw [if_pos h, if_pos hc2, if_neg hc3]
      have hw : WR t (LtP (tx a)) (tn t) (tAdd t 2 (nI (tx a)) (nI a)) := opq_done opq_new (by rw [tn_add]; omega) (fun t' hN => hN.2.1.2.1)
      have hO2 := opq_part hO hw
      rw [show ls.map LtP ++ [LtP (tx a)] = (ls ++ [tx a]).map LtP by rw [List.map_append]; rfl] at hO2
      show AP t0 _ tx (pClose tx n (a + 1) (tPart (tAdd t 2 (nI (tx a)) (nI a)) n (tn t)))
      unfold pClose
      by_cases e41 : tx (a + 1) = 41
      · rw [if_pos e41, if_pos e41]
        refine ⟨ls ++ [tx a], rfl, by rw [List.length_append]; show ls.length + 1 ≤ 3; omega, fun y hy => ?_, opq_done hO2 (by rw [tn_part, tn_add]; omega) (fun t' hN => PP_of hN)⟩
        rcases List.mem_append.mp hy with w | w
        · exact hls y w
        · rw [List.mem_singleton.mp w]
          omega
      · rw [if_neg e41, if_neg e41]
        exact rfl
    · have hc2 : ¬ (cL (tx a) = true ∧ tPl t (nI (tx a)) 96 (tEn t (tF t) (some n)) = none) := fun q => h ⟨q.1, hcur.mp q.2⟩
      rw [if_neg h, if_neg hc2]
      exact rfl
  | succ k ih =>
    intro a t ls hk hO hls ht h1 h2
    have h96 := hx.1
    have h256 := hx.le a
    have hcur := let_cur hO ht.1 (c := tx a) (by omega) (by omega) hls
    have e1 : gLs tx (k + 1 + 1) a ls = if cL (tx a) = true ∧ ¬ tx a ∈ ls then (if tx (a + 1) = 32 ∧ ¬ k + 1 = 0 then gLs tx (k + 1) (a + 1 + 1) (ls ++ [tx a]) else (if tx (a + 1) = 41 then (if tx (a + 1 + 1) = 32 then .inl (ls ++ [tx a], a + 1 + 1 + 1) else .inr (a + 1 + 1)) else .inr (a + 1))) else .inr a := rfl
    rw [e1]
    unfold pLet
    by_cases h : cL (tx a) = true ∧ ¬ tx a ∈ ls
    · have hlt := hx.lt (cL_ne h.1)
      have hc2 : cL (tx a) = true ∧ tPl t (nI (tx a)) 96 (tEn t (tF t) (some n)) = none := ⟨h.1, hcur.mpr h.2⟩
      rw [if_pos h, if_pos hc2]
      have hw : WR t (LtP (tx a)) (tn t) (tAdd t 2 (nI (tx a)) (nI a)) := opq_done opq_new (by rw [tn_add]; omega) (fun t' hN => hN.2.1.2.1)
      have hO2 := opq_part hO hw
      rw [show ls.map LtP ++ [LtP (tx a)] = (ls ++ [tx a]).map LtP by rw [List.map_append]; rfl] at hO2
      have hn := hO.2.1
      have ht2 : tOK (tPart (tAdd t 2 (nI (tx a)) (nI a)) n (tn t)) := tOK_part (tOK_add ht (by omega) (fun _ => ⟨_, by omega, rfl⟩)) (by omega)
      have hls2 : ∀ y ∈ ls ++ [tx a], y < 256 := fun y hy => by
        rcases List.mem_append.mp hy with w | w
        · exact hls y w
        · rw [List.mem_singleton.mp w]
          omega
      show AP t0 _ tx (pLs tx n (k + 1) (a + 1) (tPart (tAdd t 2 (nI (tx a)) (nI a)) n (tn t)))
      unfold pLs
      by_cases e32 : tx (a + 1) = 32
      · have hlt2 := hx.lt (a := a + 1) (by omega)
        have hc3 : tx (a + 1) = 32 ∧ ¬ k + 1 = 0 := ⟨e32, Nat.succ_ne_zero k⟩
        rw [if_pos hc3, if_pos e32]
        exact ih (a + 1 + 1) _ (ls ++ [tx a]) (by rw [List.length_append]; show ls.length + 1 + k = 2; omega) hO2 hls2 ht2 (by rw [tn_part, tn_add]; omega) (by omega)
      · have hc3 : ¬ (tx (a + 1) = 32 ∧ ¬ k + 1 = 0) := fun q => e32 q.1
        rw [if_neg hc3, if_neg e32]
        unfold pClose
        by_cases e41 : tx (a + 1) = 41
        · rw [if_pos e41, if_pos e41]
          exact ⟨ls ++ [tx a], rfl, by rw [List.length_append]; show ls.length + 1 ≤ 3; omega, hls2, opq_done hO2 ht2.1 (fun t' hN => PP_of hN)⟩
        · rw [if_neg e41, if_neg e41]
          exact rfl
    · have hc2 : ¬ (cL (tx a) = true ∧ tPl t (nI (tx a)) 96 (tEn t (tF t) (some n)) = none) := fun q => h ⟨q.1, hcur.mp q.2⟩
      rw [if_neg h, if_neg hc2]
      exact rfl
theorem al_par (hx : txOK X len tx) {a : Nat} {t : tS} (e32 : tx a = 32) (ht : tOK t) (h1 : tn t + 1 ≤ a + 1) (h2 : a + 1 ≤ len) : AP t (gPa tx d a) tx (pPar tx d (a + 1) t) := by
  have h96 := hx.1
  have ha := hx.lt (a := a) (by omega)
  by_cases e40 : tx (a + 1) = 40 ∧ d < 9
  · have hlt := hx.lt (a := a + 1) (by omega)
    have e40' : d < 9 ∧ tx (a + 1) = 40 := ⟨e40.2, e40.1⟩
    have ht1 : tOK (tAdd t 7 0 (nI (a + 1))) := tOK_add ht (by omega)
    have hO : OpQ t (tAdd t 7 0 (nI (a + 1))) (tn t) 7 0 (nI (a + 1)) (([] : List Nat).map LtP) := opq_new
    have eG : gPa tx d a = if cL (tx (a + 1 + 1)) then gLs tx 3 (a + 1 + 1) [] else (if tx (a + 1 + 1) = 41 then (if tx (a + 1 + 1 + 1) = 32 then .inl ([], a + 1 + 1 + 1 + 1) else .inr (a + 1 + 1 + 1)) else .inr (a + 1 + 1)) := by
      unfold gPa
      rw [if_pos e32, if_pos e40]
    have eP : pPar tx d (a + 1) t = if tx (a + 1 + 1) = 41 then .inl (tn t, a + 1 + 1 + 1, tAdd t 7 0 (nI (a + 1))) else match pLet tx (tn t) (a + 1 + 1) (tAdd t 7 0 (nI (a + 1))) with | .inr e => .inr e | .inl (a2, t2) => pLs tx (tn t) 2 a2 t2 := if_pos e40'
    rw [eG, eP]
    by_cases e41 : tx (a + 1 + 1) = 41
    · have nL : ¬ cL (tx (a + 1 + 1)) = true := by rw [e41]; decide
      rw [if_neg nL, if_pos e41, if_pos e41]
      exact ⟨[], rfl, by decide, fun y hy => (by cases hy), opq_done hO ht1.1 (fun t' hN => PP_of hN)⟩
    · by_cases eL : cL (tx (a + 1 + 1)) = true
      · rw [if_pos eL, if_neg e41]
        exact al_ls hx 2 (a + 1 + 1) _ [] rfl hO (fun y hy => by cases hy) ht1 (by rw [tn_add]; omega) (by omega)
      · rw [if_neg eL, if_neg e41, if_neg e41]
        unfold pLet
        have nL : ¬ (cL (tx (a + 1 + 1)) = true ∧ tPl (tAdd t 7 0 (nI (a + 1))) (nI (tx (a + 1 + 1))) 96 (tEn (tAdd t 7 0 (nI (a + 1))) (tF (tAdd t 7 0 (nI (a + 1)))) (some (tn t))) = none) := fun q => eL q.1
        rw [if_neg nL]
        exact rfl
  · have n40 : ¬ (d < 9 ∧ tx (a + 1) = 40) := fun q => e40 ⟨q.2, q.1⟩
    unfold gPa pPar
    rw [if_pos e32, if_neg e40, if_neg n40]
    exact rfl
theorem al_fun (hx : txOK X len tx) {pe : Nat → tS → PR} {ge : Nat → GR} (hd : d + 1 ≤ 9) (hg : GE len pe) (hp : AE len z (d + 1) pe ge) {a : Nat} {t : tS} (e92 : tx a = 92) (ht : tOK t) (h1 : tn t + 1 ≤ a) (h2 : a ≤ len) : AL z d t (gBo tx ge (d + 1) a) (pFun tx pe (d + 1) a t) := by
  have h96 := hx.1
  have hlt := hx.lt (a := a) (by omega)
  have ht1 : tOK (tAdd t 6 0 (nI a)) := tOK_add ht (by omega)
  unfold gBo pFun
  rw [if_pos e92]
  by_cases e32 : tx (a + 1) = 32
  · have hlt2 := hx.lt (a := a + 1) (by omega)
    rw [if_pos e32]
    have ha := al_par (d := d + 1) hx e32 ht1 (by rw [tn_add]; omega) (by omega)
    have hgd := g_par hx (d := d + 1) (a := a + 1 + 1) ht1 (by rw [tn_add]; omega) (by omega)
    rw [tn_add] at hgd
    generalize gPa tx (d + 1) (a + 1) = G at ha
    generalize pPar tx (d + 1) (a + 1 + 1) (tAdd t 6 0 (nI a)) = r at ha hgd
    rcases r with ⟨c, a2, t2⟩ | ⟨e, t2⟩
    · obtain ⟨ls, rfl, l3, l4, q2⟩ := ha
      obtain ⟨g0, g1, g2, g3, g4⟩ := hgd
      have hO1 : OpQ t (tPart t2 (tn t) c) (tn t) 6 0 (nI a) [PP ls] := opq_part opq_new q2
      have ht2 : tOK (tPart t2 (tn t) c) := tOK_part g1 (by omega)
      show AL z d t _ (if tx a2 = 32 then (match pe (a2 + 1) (tPart t2 (tn t) c) with | .inr e => .inr e | .inl (c, a4, t4) => pClose tx (tn t) a4 (tPart t4 (tn t) c)) else .inr (a2, tPart t2 (tn t) c))
      by_cases e3 : tx a2 = 32
      · have hlt3 := hx.lt (a := a2) (by omega)
        rw [if_pos e3, if_pos e3]
        have hb := hp (a2 + 1) _ ht2 (by rw [tn_part]; omega) (by omega)
        have hgd2 := hg (a2 + 1) _ ht2 (by rw [tn_part]; omega) (by omega)
        show AL z d t (match ge (a2 + 1) with | .inr e => .inr e | .inl (t, a3) => gCl tx (boT (t, 0) ls) a3) _
        generalize ge (a2 + 1) = G at hb
        generalize pe (a2 + 1) (tPart t2 (tn t) c) = r at hb hgd2
        rcases r with ⟨c3, a3, t3⟩ | ⟨e, t3⟩
        · obtain ⟨τ, rfl, q3⟩ := hb
          rw [tn_part] at hgd2
          obtain ⟨i0, i1, i2, i3, i4⟩ := hgd2
          exact al_close (opq_part hO1 q3) (tOK_part i1 (by omega)).1 (fun t' hN => E_fun hd l3 l4 hN)
        · have hb : G = .inr e := hb
          subst hb
          exact rfl
      · rw [if_neg e3, if_neg e3]
        exact rfl
    · have ha : G = .inr e := ha
      subst ha
      exact rfl
  · rw [if_neg e32]
    have : gPa tx (d + 1) (a + 1) = .inr (a + 1) := if_neg e32
    rw [this]
    exact rfl
end ZE
end
