section
def AL (z d : Nat) (t : tS) (G : GR) : PR → Prop
  | .inr (e, _) => G = .inr e
  | .inl (c, a', t') => ∃ τ, G = .inl (τ, a') ∧ WR t (XP z d τ) c t'
def AE (len z d : Nat) (pe : Nat → tS → PR) (ge : Nat → GR) : Prop := ∀ a t, tOK t → tn t ≤ a → a ≤ len → AL z d t (ge a) (pe a t)
section ZE
variable {tx : Nat → Nat} {X : Nat → Int32} {len z d : Nat}
theorem al_close {t0 t : tS} {n a : Nat} {k v p : Int32} {Ps : List KP} {τ : Tau} (hO : OpQ t0 t n k v p Ps) (h96 : tn t ≤ 96) (hX : ∀ t', NODE k v p Ps t' n → XP z d τ t' n) : AL z d t0 (gCl tx τ a) (pClose tx n a t) := by
  unfold gCl pClose
  by_cases e : tx a = 41
  · rw [if_pos e, if_pos e]
    exact ⟨τ, rfl, opq_done hO h96 hX⟩
  · rw [if_neg e, if_neg e]
    exact rfl
theorem map_snoc {ks : List Kd} {τ : Tau} : (ks.map (fun k : Kd => XP z d k.1)) ++ [XP z d τ] = (ks ++ [((τ, 0) : Kd)]).map (fun k => XP z d k.1) := by
  rw [List.map_append]
  rfl
theorem al_more (hx : txOK X len tx) {pe : Nat → tS → PR} {ge : Nat → GR} (hd : d + 1 ≤ 9) (hg : GE len pe) (hp : AE len z (d + 1) pe ge) {t0 : tS} {n : Nat} {p : Int32} {h0 : Kd} : ∀ (k a : Nat) (t : tS) (ks : List Kd), OpQ t0 t n 11 0 p ((h0 :: ks).map (fun k => XP z (d + 1) k.1)) → tOK t → tn t ≤ a → a ≤ len → AL z d t0 (gMo tx ge h0 k a ks) (pMore tx pe n k a t)
  | 0, a, t, ks, hO, ht, h1, h2 => al_close hO ht.1 (fun t' hN => E_call hd hN)
  | k + 1, a, t, ks, hO, ht, h1, h2 => by
    have h96 := hx.1
    unfold gMo pMore
    by_cases e : tx a = 32
    · have hlt := hx.lt (a := a) (by omega)
      rw [if_pos e, if_pos e]
      have ha := hp (a + 1) t ht (by omega) (by omega)
      have hgd := hg (a + 1) t ht (by omega) (by omega)
      generalize ge (a + 1) = G at ha
      generalize pe (a + 1) t = r at ha hgd
      rcases r with ⟨c, a2, t2⟩ | ⟨e, t2⟩
      · obtain ⟨τ, rfl, q2⟩ := ha
        obtain ⟨g0, g1, g2, g3, g4⟩ := hgd
        have hO2 := opq_part hO q2
        rw [map_snoc] at hO2
        have hn := hO.2.1
        exact al_more hx hd hg hp k a2 (tPart t2 n c) (ks ++ [(τ, 0)]) hO2 (tOK_part g1 (by omega)) (by rw [tn_part]; exact g3) g4
      · have ha : G = .inr e := ha
        subst ha
        exact rfl
    · rw [if_neg e, if_neg e]
      exact al_close hO ht.1 (fun t' hN => E_call hd hN)
theorem al_args (hx : txOK X len tx) {pe : Nat → tS → PR} {ge : Nat → GR} (hd : d + 1 ≤ 9) (hg : GE len pe) (hp : AE len z (d + 1) pe ge) {t0 : tS} {n c0 o : Nat} {p : Int32} (ho : opO c0 = some o) : ∀ (k a : Nat) (t : tS) (ks : List Kd), ks.length + k = ar c0 → OpQ t0 t n 5 (nI o) p (ks.map (fun k => XP z (d + 1) k.1)) → tOK t → tn t ≤ a → a ≤ len → AL z d t0 (gAr tx ge c0 k a ks) (pArgs tx pe n k a t)
  | 0, a, t, ks, hk, hO, ht, h1, h2 => al_close hO ht.1 (fun t' hN => E_op hd ho hk hN)
  | k + 1, a, t, ks, hk, hO, ht, h1, h2 => by
    have h96 := hx.1
    unfold gAr pArgs
    by_cases e : tx a = 32
    · have hlt := hx.lt (a := a) (by omega)
      rw [if_pos e, if_pos e]
      have ha := hp (a + 1) t ht (by omega) (by omega)
      have hgd := hg (a + 1) t ht (by omega) (by omega)
      generalize ge (a + 1) = G at ha
      generalize pe (a + 1) t = r at ha hgd
      rcases r with ⟨c, a2, t2⟩ | ⟨e, t2⟩
      · obtain ⟨τ, rfl, q2⟩ := ha
        obtain ⟨g0, g1, g2, g3, g4⟩ := hgd
        have hO2 := opq_part hO q2
        rw [map_snoc] at hO2
        have hn := hO.2.1
        exact al_args hx hd hg hp ho k a2 (tPart t2 n c) (ks ++ [(τ, 0)]) (by rw [List.length_append]; show ks.length + 1 + k = ar c0; omega) hO2 (tOK_part g1 (by omega)) (by rw [tn_part]; exact g3) g4
      · have ha : G = .inr e := ha
        subst ha
        exact rfl
    · rw [if_neg e, if_neg e]
      exact rfl
theorem al_op (hx : txOK X len tx) {pe : Nat → tS → PR} {ge : Nat → GR} (hd : d + 1 ≤ 9) (hg : GE len pe) (hp : AE len z (d + 1) pe ge) {o a : Nat} {t : tS} (ho : opO (tx a) = some o) (ht : tOK t) (h1 : tn t + 1 ≤ a) (h2 : a < len) : AL z d t (gSg tx ge a) (pOp tx pe o a t) := by
  have h96 := hx.1
  have hpos : 0 < ar (tx a) := ar_op.mpr ⟨o, ho⟩
  have e : gSg tx ge a = gAr tx ge (tx a) (ar (tx a)) (a + 1) [] := by
    obtain ⟨j, hj⟩ : ∃ j, ar (tx a) = j + 1 := ⟨ar (tx a) - 1, by omega⟩
    unfold gSg
    rw [hj]
    rfl
  rw [e]
  unfold pOp
  rw [opN_ar ho]
  exact al_args hx hd hg hp ho _ _ _ [] (by simp) opq_new (tOK_add ht (by omega)) (by rw [tn_add]; omega) (by omega)
theorem al_call (hx : txOK X len tx) {pe : Nat → tS → PR} {ge : Nat → GR} (hd : d + 1 ≤ 9) (hg : GE len pe) (hp : AE len z (d + 1) pe ge) {a : Nat} {t : tS} (ht : tOK t) (h1 : tn t + 1 ≤ a) (h2 : a ≤ len) : AL z d t (gCa tx ge a) (pCall tx pe a t) := by
  have h96 := hx.1
  have ht1 : tOK (tAdd t 11 0 (nI a)) := tOK_add ht (by omega)
  have ha := hp a _ ht1 (by rw [tn_add]; omega) h2
  have hgd := hg a _ ht1 (by rw [tn_add]; omega) h2
  unfold gCa pCall
  generalize ge a = G at ha
  generalize pe a (tAdd t 11 0 (nI a)) = r at ha hgd
  rcases r with ⟨c, a2, t2⟩ | ⟨e, t2⟩
  · obtain ⟨τ, rfl, q2⟩ := ha
    rw [tn_add] at hgd
    obtain ⟨g0, g1, g2, g3, g4⟩ := hgd
    have hO2 : OpQ t (tPart t2 (tn t) c) (tn t) 11 0 (nI a) ((((τ, 0) : Kd) :: []).map (fun k => XP z (d + 1) k.1)) := opq_part opq_new q2
    exact al_more hx hd hg hp 3 a2 (tPart t2 (tn t) c) [] hO2 (tOK_part g1 (by omega)) (by rw [tn_part]; exact g3) g4
  · have ha : G = .inr e := ha
    subst ha
    exact rfl
theorem plc_none {c : Nat} : ∀ (ls : List Nat) (i : Nat), plc c ls i = none ↔ ¬ c ∈ ls
  | [], i => by simp [plc]
  | y :: ls, i => by
    have e : plc c (y :: ls) i = if y = c then some i else plc c ls (i + 1) := rfl
    rw [e]
    by_cases h : y = c
    · rw [if_pos h, h]
      simp
    · rw [if_neg h, plc_none ls (i + 1), List.mem_cons]
      exact ⟨fun q w => w.elim (fun w => h w.symm) q, fun q w => q (Or.inr w)⟩
theorem let_cur {t0 t : tS} {n c : Nat} {p : Int32} {ls : List Nat} (hO : OpQ t0 t n 7 0 p (ls.map LtP)) (h96 : tn t ≤ 96) (hc : c < 256) (hl : ls.length ≤ 3) (hls : ∀ y ∈ ls, y < 256) : (tPl t (nI c) 96 (tEn t (tF t) (some n)) = none ↔ ¬ c ∈ ls) := by
  obtain ⟨h1, -, -, cs, c1, c2⟩ := opq_cur hO h96
  rw [tEn_in h1, tPl_plc hc ls (tF t n) 96 (LTR_LtP c1 c2) hls (by omega)]
  exact plc_none ls 0
def AP (t0 : tS) (G : (List Nat × Nat) ⊕ Nat) (tx : Nat → Nat) : PR → Prop
  | .inr (e, _) => G = .inr e
  | .inl (c, a', t') => ∃ ls, G = (if tx a' = 32 then .inl (ls, a' + 1) else .inr a') ∧ ls.length ≤ 3 ∧ (∀ y ∈ ls, y < 256) ∧ WR t0 (PP ls) c t'
theorem PP_of {t : tS} {n : Nat} {p : Int32} {ls : List Nat} (h : NODE 7 0 p (ls.map LtP) t n) : PP ls t n := by
  obtain ⟨h1, -, -, cs, c1, c2⟩ := h
  exact ⟨h1, LTR_LtP c1 c2⟩
theorem al_ls (hx : txOK X len tx) {t0 : tS} {n : Nat} {p : Int32} : ∀ (k a : Nat) (t : tS) (ls : List Nat), ls.length + k = 2 → OpQ t0 t n 7 0 p (ls.map LtP) → (∀ y ∈ ls, y < 256) → tOK t → tn t ≤ a → a ≤ len → AP t0 (gLs tx (k + 1) a ls) tx (match pLet tx n a t with
    | .inr e => .inr e
    | .inl (a2, t2) => pLs tx n k a2 t2) := by
  intro k
  induction k with
  | zero =>
    intro a t ls hk hO hls ht h1 h2
    have h96 := hx.1
    have h256 := hx.le a
    have hcur := let_cur hO ht.1 (c := tx a) (by omega) (by omega) hls
    have e1 : gLs tx (0 + 1) a ls = if cL (tx a) = true ∧ ¬ tx a ∈ ls then (if tx (a + 1) = 32 ∧ ¬ 0 = 0 then gLs tx 0 (a + 1 + 1) (ls ++ [tx a]) else (if tx (a + 1) = 41 then (if tx (a + 1 + 1) = 32 then .inl (ls ++ [tx a], a + 1 + 1 + 1) else .inr (a + 1 + 1)) else .inr (a + 1))) else .inr a := rfl
    rw [e1]
    unfold pLet
    by_cases h : cL (tx a) = true ∧ ¬ tx a ∈ ls
    · have hlt := hx.lt (cL_ne h.1)
      have hc2 : cL (tx a) = true ∧ tPl t (nI (tx a)) 96 (tEn t (tF t) (some n)) = none := ⟨h.1, hcur.mpr h.2⟩
      have hc3 : ¬ (tx (a + 1) = 32 ∧ ¬ 0 = 0) := fun q => q.2 rfl
      rw [if_pos h, if_pos hc2, if_neg hc3]
      have hw : WR t (LtP (tx a)) (tn t) (tAdd t 2 (nI (tx a)) (nI a)) := opq_done opq_new (by rw [tn_add]; omega) (fun t' hN => hN.2.1.2.1)
      have hO2 := opq_part hO hw
      rw [show ls.map LtP ++ [LtP (tx a)] = (ls ++ [tx a]).map LtP by rw [List.map_append]; rfl] at hO2
      show AP t0 _ tx (pClose tx n (a + 1) (tPart (tAdd t 2 (nI (tx a)) (nI a)) n (tn t)))
      unfold pClose
      by_cases e41 : tx (a + 1) = 41
      · rw [if_pos e41, if_pos e41]
        refine ⟨ls ++ [tx a], rfl, by rw [List.length_append]; show ls.length + 1 ≤ 3; omega, fun y hy => ?_, opq_done hO2 (by rw [tn_part, tn_add]; omega) (fun t' hN => PP_of hN)⟩
        rcases List.mem_append.mp hy with w | w
        · exact hls y w
        · rw [List.mem_singleton.mp w]
          omega
      · rw [if_neg e41, if_neg e41]
        exact rfl
    · have hc2 : ¬ (cL (tx a) = true ∧ tPl t (nI (tx a)) 96 (tEn t (tF t) (some n)) = none) := fun q => h ⟨q.1, hcur.mp q.2⟩
      rw [if_neg h, if_neg hc2]
      exact rfl
  | succ k ih =>
    intro a t ls hk hO hls ht h1 h2
    have h96 := hx.1
    have h256 := hx.le a
    have hcur := let_cur hO ht.1 (c := tx a) (by omega) (by omega) hls
    have e1 : gLs tx (k + 1 + 1) a ls = if cL (tx a) = true ∧ ¬ tx a ∈ ls then (if tx (a + 1) = 32 ∧ ¬ k + 1 = 0 then gLs tx (k + 1) (a + 1 + 1) (ls ++ [tx a]) else (if tx (a + 1) = 41 then (if tx (a + 1 + 1) = 32 then .inl (ls ++ [tx a], a + 1 + 1 + 1) else .inr (a + 1 + 1)) else .inr (a + 1))) else .inr a := rfl
    rw [e1]
    unfold pLet
    by_cases h : cL (tx a) = true ∧ ¬ tx a ∈ ls
    · have hlt := hx.lt (cL_ne h.1)
      have hc2 : cL (tx a) = true ∧ tPl t (nI (tx a)) 96 (tEn t (tF t) (some n)) = none := ⟨h.1, hcur.mpr h.2⟩
      rw [if_pos h, if_pos hc2]
      have hw : WR t (LtP (tx a)) (tn t) (tAdd t 2 (nI (tx a)) (nI a)) := opq_done opq_new (by rw [tn_add]; omega) (fun t' hN => hN.2.1.2.1)
      have hO2 := opq_part hO hw
      rw [show ls.map LtP ++ [LtP (tx a)] = (ls ++ [tx a]).map LtP by rw [List.map_append]; rfl] at hO2
      have hn := hO.2.1
      have ht2 : tOK (tPart (tAdd t 2 (nI (tx a)) (nI a)) n (tn t)) := tOK_part (tOK_add ht (by omega) (fun _ => ⟨_, by omega, rfl⟩)) (by omega)
      have hls2 : ∀ y ∈ ls ++ [tx a], y < 256 := fun y hy => by
        rcases List.mem_append.mp hy with w | w
        · exact hls y w
        · rw [List.mem_singleton.mp w]
          omega
      show AP t0 _ tx (pLs tx n (k + 1) (a + 1) (tPart (tAdd t 2 (nI (tx a)) (nI a)) n (tn t)))
      unfold pLs
      by_cases e32 : tx (a + 1) = 32
      · have hlt2 := hx.lt (a := a + 1) (by omega)
        have hc3 : tx (a + 1) = 32 ∧ ¬ k + 1 = 0 := ⟨e32, Nat.succ_ne_zero k⟩
        rw [if_pos hc3, if_pos e32]
        exact ih (a + 1 + 1) _ (ls ++ [tx a]) (by rw [List.length_append]; show ls.length + 1 + k = 2; omega) hO2 hls2 ht2 (by rw [tn_part, tn_add]; omega) (by omega)
      · have hc3 : ¬ (tx (a + 1) = 32 ∧ ¬ k + 1 = 0) := fun q => e32 q.1
        rw [if_neg hc3, if_neg e32]
        unfold pClose
        by_cases e41 : tx (a + 1) = 41
        · rw [if_pos e41, if_pos e41]
          exact ⟨ls ++ [tx a], rfl, by rw [List.length_append]; show ls.length + 1 ≤ 3; omega, hls2, opq_done hO2 ht2.1 (fun t' hN => PP_of hN)⟩
        · rw [if_neg e41, if_neg e41]
          exact rfl
    · have hc2 : ¬ (cL (tx a) = true ∧ tPl t (nI (tx a)) 96 (tEn t (tF t) (some n)) = none) := fun q => h ⟨q.1, hcur.mp q.2⟩
      rw [if_neg h, if_neg hc2]
      exact rfl
theorem al_par (hx : txOK X len tx) {a : Nat} {t : tS} (e32 : tx a = 32) (ht : tOK t) (h1 : tn t + 1 ≤ a + 1) (h2 : a + 1 ≤ len) : AP t (gPa tx d a) tx (pPar tx d (a + 1) t) := by
  have h96 := hx.1
  have ha := hx.lt (a := a) (by omega)
  by_cases e40 : tx (a + 1) = 40 ∧ d < 9
  · have hlt := hx.lt (a := a + 1) (by omega)
    have e40' : d < 9 ∧ tx (a + 1) = 40 := ⟨e40.2, e40.1⟩
    have ht1 : tOK (tAdd t 7 0 (nI (a + 1))) := tOK_add ht (by omega)
    have hO : OpQ t (tAdd t 7 0 (nI (a + 1))) (tn t) 7 0 (nI (a + 1)) (([] : List Nat).map LtP) := opq_new
    have eG : gPa tx d a = if cL (tx (a + 1 + 1)) then gLs tx 3 (a + 1 + 1) [] else (if tx (a + 1 + 1) = 41 then (if tx (a + 1 + 1 + 1) = 32 then .inl ([], a + 1 + 1 + 1 + 1) else .inr (a + 1 + 1 + 1)) else .inr (a + 1 + 1)) := by
      unfold gPa
      rw [if_pos e32, if_pos e40]
    have eP : pPar tx d (a + 1) t = if tx (a + 1 + 1) = 41 then .inl (tn t, a + 1 + 1 + 1, tAdd t 7 0 (nI (a + 1))) else match pLet tx (tn t) (a + 1 + 1) (tAdd t 7 0 (nI (a + 1))) with | .inr e => .inr e | .inl (a2, t2) => pLs tx (tn t) 2 a2 t2 := if_pos e40'
    rw [eG, eP]
    by_cases e41 : tx (a + 1 + 1) = 41
    · have nL : ¬ cL (tx (a + 1 + 1)) = true := by rw [e41]; decide
      rw [if_neg nL, if_pos e41, if_pos e41]
      exact ⟨[], rfl, by decide, fun y hy => (by cases hy), opq_done hO ht1.1 (fun t' hN => PP_of hN)⟩
    · by_cases eL : cL (tx (a + 1 + 1)) = true
      · rw [if_pos eL, if_neg e41]
        exact al_ls hx 2 (a + 1 + 1) _ [] rfl hO (fun y hy => by cases hy) ht1 (by rw [tn_add]; omega) (by omega)
      · rw [if_neg eL, if_neg e41, if_neg e41]
        unfold pLet
        have nL : ¬ (cL (tx (a + 1 + 1)) = true ∧ tPl (tAdd t 7 0 (nI (a + 1))) (nI (tx (a + 1 + 1))) 96 (tEn (tAdd t 7 0 (nI (a + 1))) (tF (tAdd t 7 0 (nI (a + 1)))) (some (tn t))) = none) := fun q => eL q.1
        rw [if_neg nL]
        exact rfl
  · have n40 : ¬ (d < 9 ∧ tx (a + 1) = 40) := fun q => e40 ⟨q.2, q.1⟩
    unfold gPa pPar
    rw [if_pos e32, if_neg e40, if_neg n40]
    exact rfl
theorem al_fun (hx : txOK X len tx) {pe : Nat → tS → PR} {ge : Nat → GR} (hd : d + 1 ≤ 9) (hg : GE len pe) (hp : AE len z (d + 1) pe ge) {a : Nat} {t : tS} (e92 : tx a = 92) (ht : tOK t) (h1 : tn t + 1 ≤ a) (h2 : a ≤ len) : AL z d t (gBo tx ge (d + 1) a) (pFun tx pe (d + 1) a t) := by
  have h96 := hx.1
  have hlt := hx.lt (a := a) (by omega)
  have ht1 : tOK (tAdd t 6 0 (nI a)) := tOK_add ht (by omega)
  unfold gBo pFun
  rw [if_pos e92]
  by_cases e32 : tx (a + 1) = 32
  · have hlt2 := hx.lt (a := a + 1) (by omega)
    rw [if_pos e32]
    have ha := al_par (d := d + 1) hx e32 ht1 (by rw [tn_add]; omega) (by omega)
    have hgd := g_par hx (d := d + 1) (a := a + 1 + 1) ht1 (by rw [tn_add]; omega) (by omega)
    rw [tn_add] at hgd
    generalize gPa tx (d + 1) (a + 1) = G at ha
    generalize pPar tx (d + 1) (a + 1 + 1) (tAdd t 6 0 (nI a)) = r at ha hgd
    rcases r with ⟨c, a2, t2⟩ | ⟨e, t2⟩
    · obtain ⟨ls, rfl, l3, l4, q2⟩ := ha
      obtain ⟨g0, g1, g2, g3, g4⟩ := hgd
      have hO1 : OpQ t (tPart t2 (tn t) c) (tn t) 6 0 (nI a) [PP ls] := opq_part opq_new q2
      have ht2 : tOK (tPart t2 (tn t) c) := tOK_part g1 (by omega)
      show AL z d t _ (if tx a2 = 32 then (match pe (a2 + 1) (tPart t2 (tn t) c) with | .inr e => .inr e | .inl (c, a4, t4) => pClose tx (tn t) a4 (tPart t4 (tn t) c)) else .inr (a2, tPart t2 (tn t) c))
      by_cases e3 : tx a2 = 32
      · have hlt3 := hx.lt (a := a2) (by omega)
        rw [if_pos e3, if_pos e3]
        have hb := hp (a2 + 1) _ ht2 (by rw [tn_part]; omega) (by omega)
        have hgd2 := hg (a2 + 1) _ ht2 (by rw [tn_part]; omega) (by omega)
        show AL z d t (match ge (a2 + 1) with | .inr e => .inr e | .inl (t, a3) => gCl tx (boT (t, 0) ls) a3) _
        generalize ge (a2 + 1) = G at hb
        generalize pe (a2 + 1) (tPart t2 (tn t) c) = r at hb hgd2
        rcases r with ⟨c3, a3, t3⟩ | ⟨e, t3⟩
        · obtain ⟨τ, rfl, q3⟩ := hb
          rw [tn_part] at hgd2
          obtain ⟨i0, i1, i2, i3, i4⟩ := hgd2
          exact al_close (opq_part hO1 q3) (tOK_part i1 (by omega)).1 (fun t' hN => E_fun hd l3 l4 hN)
        · have hb : G = .inr e := hb
          subst hb
          exact rfl
      · rw [if_neg e3, if_neg e3]
        exact rfl
    · have ha : G = .inr e := ha
      subst ha
      exact rfl
  · rw [if_neg e32]
    have : gPa tx (d + 1) (a + 1) = .inr (a + 1) := if_neg e32
    rw [this]
    exact rfl
end ZE
end
section
section ZF
variable {tx : Nat → Nat} {X : Nat → Int32} {len z d : Nat}
theorem BP_of {D c : Nat} {p : Int32} {τ : Tau} {t : tS} {n : Nat} (h : NODE 10 (nI c) p [XP z D τ] t n) : BP z D c τ t n := by
  obtain ⟨h1, ⟨-, h2, -⟩, -, cs, c1, c2⟩ := h
  refine ⟨h1, h2, ?_⟩
  cases cs with
  | nil => exact absurd c2 id
  | cons j cs => exact ⟨j, c1.1, c2.1.2⟩
def AB (t0 : tS) (n z D len : Nat) (kd p : Int32) (h0 : Kd) (ks : List Kd) (ls : List Nat) (x : Nat) (G : (Tau → Nat → GR) → GR) (w : Nat) : PU → Prop
  | .inr (e, _) => ∀ ct, G ct = .inr e
  | .inl (a', t') => ∃ τ, (∀ ct, G ct = ct τ a') ∧ OpQ t0 t' n kd 0 p (XP z w h0.1 :: BPs z D (ks ++ [(τ, nI x)]) (ls ++ [x])) ∧ tOK t' ∧ tn t' ≤ a' ∧ a' ≤ len ∧ x < 256
theorem al_bind (hx : txOK X len tx) {pe pf : Nat → tS → PR} {ge : Nat → GR} {rc : Bool} (hd : d + 1 ≤ 9) (hg : GE len pe) (hgf : ∀ a t, tOK t → tn t + 1 ≤ a → a ≤ len → gd len (tn t) (pf a t)) (hp : d + 1 < 9 → AE len z (d + 2) pe ge) (hfN : ∀ a t, ¬ tx a = 92 → ∃ t', pf a t = .inr (a, t')) (hfR : ∀ a t, tx a = 40 → tx (a + 1) = 92 → d + 2 < 9 → tOK t → tn t + 1 ≤ a + 1 → a + 1 ≤ len → AL z (d + 2) t (ge a) (pf (a + 1) t))
    {t0 t : tS} {n a : Nat} {p : Int32} {h0 : Kd} {ks : List Kd} {ls : List Nat} (hO : OpQ t0 t n (if rc = true then 9 else 8) 0 p (XP z (d + 1) h0.1 :: BPs z (d + 2) ks ls)) (hl : ks.length = ls.length) (hk : ls.length ≤ 2) (hls : ∀ y ∈ ls, y < 256) (ht : tOK t) (h1 : tn t ≤ a) (h2 : a ≤ len) :
    AB t0 n z (d + 2) len (if rc = true then 9 else 8) p h0 ks ls (tx (a + 1)) (fun ct => gB1 tx ge rc (d + 1) a ls ct) (d + 1) (pBind tx pe pf (d + 1) n a t) := by
  have h96 := hx.1
  have hcur := opq_cur hO ht.1
  have hn := hO.2.1
  have hltr := (bnd (g := 11) (δ := 0) hl hcur (by omega) (Nat.zero_le _) (by omega)).2.1
  have h256 := hx.le (a + 1)
  have hpl : tPl t (nI (tx (a + 1))) 96 (tPt t 1 (tEn t (tF t) (some n))) = none ↔ ¬ tx (a + 1) ∈ ls := by
    rw [show tPt t 1 (tEn t (tF t) (some n)) = dPt t 1 (some n) from rfl, tPl_plc (by omega) ls _ 96 hltr hls (by omega)]
    exact plc_none ls 0
  have hgb := g_bind hx hg hgf (d := d + 1) (n := n) (a := a) ht h1 h2
  unfold pBind at hgb ⊢
  by_cases e40 : tx a = 40 ∧ d + 1 < 9
  rotate_left
  · have n40 : ¬ (d + 1 < 9 ∧ tx a = 40) := fun q => e40 ⟨q.2, q.1⟩
    rw [if_neg n40]
    intro ct
    show gB1 tx ge rc (d + 1) a ls ct = .inr a
    unfold gB1
    rw [if_neg e40]
  have hlt := hx.lt (a := a) (by omega)
  have c40 : d + 1 < 9 ∧ tx a = 40 := ⟨e40.2, e40.1⟩
  rw [if_pos c40] at hgb ⊢
  by_cases eL : cL (tx (a + 1)) = true ∧ ¬ tx (a + 1) ∈ ls
  rotate_left
  · have nL : ¬ (cL (tx (a + 1)) = true ∧ tPl t (nI (tx (a + 1))) 96 (tPt t 1 (tEn t (tF t) (some n))) = none) := fun q => eL ⟨q.1, hpl.mp q.2⟩
    rw [if_neg nL]
    intro ct
    show gB1 tx ge rc (d + 1) a ls ct = .inr (a + 1)
    unfold gB1
    rw [if_pos e40, if_neg eL]
  have hlt1 := hx.lt (cL_ne eL.1)
  have c41 : cL (tx (a + 1)) = true ∧ tPl t (nI (tx (a + 1))) 96 (tPt t 1 (tEn t (tF t) (some n))) = none := ⟨eL.1, hpl.mpr eL.2⟩
  rw [if_pos c41] at hgb ⊢
  by_cases e32 : tx (a + 1 + 1) = 32
  rotate_left
  · rw [if_neg e32]
    intro ct
    show gB1 tx ge rc (d + 1) a ls ct = .inr (a + 1 + 1)
    unfold gB1
    rw [if_pos e40, if_pos eL, if_neg e32]
  have hlt2 := hx.lt (a := a + 1 + 1) (by omega)
  rw [if_pos e32] at hgb ⊢
  have ht1 : tOK (tAdd t 10 (nI (tx (a + 1))) (nI (a + 1))) := tOK_add ht (by omega)
  have hv : (∃ e t', pBv tx pe pf (d + 1) n (a + 1 + 1 + 1) (tAdd t 10 (nI (tx (a + 1))) (nI (a + 1))) = .inr (e, t') ∧ ∀ ct, gB1 tx ge rc (d + 1) a ls ct = .inr e) ∨ (∃ c a2 t2 τ, pBv tx pe pf (d + 1) n (a + 1 + 1 + 1) (tAdd t 10 (nI (tx (a + 1))) (nI (a + 1))) = .inl (c, a2, t2) ∧ (∀ ct, gB1 tx ge rc (d + 1) a ls ct = if tx a2 = 41 then ct τ (a2 + 1) else .inr a2) ∧ WR (tAdd t 10 (nI (tx (a + 1))) (nI (a + 1))) (XP z (d + 2) τ) c t2) := by
    have ek : tEi (tAdd t 10 (nI (tx (a + 1))) (nI (a + 1))) (tK (tAdd t 10 (nI (tx (a + 1))) (nI (a + 1)))) (some n) = if rc = true then 9 else 8 := by
      have e1 : tEi (tAdd t 10 (nI (tx (a + 1))) (nI (a + 1))) (tK (tAdd t 10 (nI (tx (a + 1))) (nI (a + 1)))) (some n) = upd (tK t) (tn t) 10 n := if_pos (show n < tn t + 1 by omega)
      rw [e1]
      exact (if_neg (by omega)).trans hO.2.2.1.1
    have gb : ∀ ct, gB1 tx ge rc (d + 1) a ls ct = (if rc = true ∧ ¬ (tx (a + 1 + 1 + 1) = 40 ∧ d + 1 + 1 < 9) then .inr (a + 1 + 1 + 1) else if rc = true ∧ ¬ tx (a + 1 + 1 + 1 + 1) = 92 then .inr (a + 1 + 1 + 1 + 1) else match ge (a + 1 + 1 + 1) with | .inr e => .inr e | .inl (t, a3) => if tx a3 = 41 then ct t (a3 + 1) else .inr a3) := by
      intro ct
      unfold gB1
      rw [if_pos e40, if_pos eL, if_pos e32]
      rfl
    have both : ∀ r : PR, AL z (d + 2) (tAdd t 10 (nI (tx (a + 1))) (nI (a + 1))) (ge (a + 1 + 1 + 1)) r → (∀ ct, gB1 tx ge rc (d + 1) a ls ct = match ge (a + 1 + 1 + 1) with | .inr e => .inr e | .inl (t, a3) => if tx a3 = 41 then ct t (a3 + 1) else .inr a3) → (∃ e t', r = .inr (e, t') ∧ ∀ ct, gB1 tx ge rc (d + 1) a ls ct = .inr e) ∨ (∃ c a2 t2 τ, r = .inl (c, a2, t2) ∧ (∀ ct, gB1 tx ge rc (d + 1) a ls ct = if tx a2 = 41 then ct τ (a2 + 1) else .inr a2) ∧ WR (tAdd t 10 (nI (tx (a + 1))) (nI (a + 1))) (XP z (d + 2) τ) c t2) := by
      intro r hr hgr
      rcases r with ⟨c, a2, t2⟩ | ⟨e, t2⟩
      · obtain ⟨τ, q1, q2⟩ := hr
        refine Or.inr ⟨c, a2, t2, τ, rfl, fun ct => ?_, q2⟩
        rw [hgr ct, q1]
      · have hr : ge (a + 1 + 1 + 1) = .inr e := hr
        refine Or.inl ⟨e, t2, rfl, fun ct => ?_⟩
        rw [hgr ct, hr]
    unfold pBv
    rw [ek]
    cases rc with
    | false =>
      rw [if_neg (show ¬ (if false = true then (9 : Int32) else 8) = 9 by decide)]
      refine both _ (hp e40.2 _ _ ht1 (by rw [tn_add]; omega) (by omega)) (fun ct => ?_)
      rw [gb ct, if_neg (fun q => absurd q.1 (by decide)), if_neg (fun q => absurd q.1 (by decide))]
    | true =>
      rw [if_pos (show (if true = true then (9 : Int32) else 8) = 9 by decide)]
      by_cases e4 : tx (a + 1 + 1 + 1) = 40 ∧ d + 1 + 1 < 9
      · have hlt3 := hx.lt (a := a + 1 + 1 + 1) (by omega)
        rw [if_pos ⟨e4.2, e4.1⟩]
        by_cases e92 : tx (a + 1 + 1 + 1 + 1) = 92
        · refine both _ (hfR _ _ e4.1 e92 (by omega) ht1 (by rw [tn_add]; omega) (by omega)) (fun ct => ?_)
          rw [gb ct, if_neg (fun q => q.2 e4), if_neg (fun q => q.2 e92)]
        · obtain ⟨t', et⟩ := hfN (a + 1 + 1 + 1 + 1) (tAdd t 10 (nI (tx (a + 1))) (nI (a + 1))) e92
          refine Or.inl ⟨_, t', et, fun ct => ?_⟩
          rw [gb ct, if_neg (fun q => q.2 e4), if_pos ⟨rfl, e92⟩]
      · rw [if_neg (fun q => e4 ⟨q.2, q.1⟩)]
        refine Or.inl ⟨_, _, rfl, fun ct => ?_⟩
        rw [gb ct, if_pos ⟨rfl, e4⟩]
  rcases hv with ⟨e, t', v1, v2⟩ | ⟨c, a2, t2, τ, v1, v2, v3⟩
  · rw [v1]
    exact v2
  · rw [v1] at hgb ⊢
    have hO1 : OpQ t (tPart t2 (tn t) c) (tn t) 10 (nI (tx (a + 1))) (nI (a + 1)) [XP z (d + 2) τ] := opq_part opq_new v3
    show AB t0 n z (d + 2) len _ p h0 ks ls (tx (a + 1)) _ (d + 1) (if tx a2 = 41 then .inl (a2 + 1, tPart (tPart t2 (tn t) c) n (tn t)) else .inr (a2, tPart t2 (tn t) c))
    have hgb : gu len (tn t) (if tx a2 = 41 then .inl (a2 + 1, tPart (tPart t2 (tn t) c) n (tn t)) else .inr (a2, tPart t2 (tn t) c)) := hgb
    by_cases e41 : tx a2 = 41
    · rw [if_pos e41] at hgb ⊢
      obtain ⟨g1, g2, g3, g4⟩ := hgb
      have h2n : tn (tPart t2 (tn t) c) ≤ 96 := by
        have := g1.1
        rw [tn_part] at this
        exact this
      have hw : WR t (BP z (d + 2) (tx (a + 1)) τ) (tn t) (tPart t2 (tn t) c) := opq_done hO1 h2n (fun t' hN => BP_of hN)
      have hO2 := opq_part hO hw
      rw [List.cons_append, ← BPs_app (k := (τ, nI (tx (a + 1)))) hl] at hO2
      exact ⟨τ, fun ct => by show gB1 tx ge rc (d + 1) a ls ct = _; rw [v2 ct, if_pos e41], hO2, g1, g3, g4, by omega⟩
    · rw [if_neg e41]
      intro ct
      show gB1 tx ge rc (d + 1) a ls ct = _
      rw [v2 ct, if_neg e41]
theorem al_bi (hx : txOK X len tx) {pe pf : Nat → tS → PR} {ge : Nat → GR} {rc : Bool} (hd : d + 1 ≤ 9) (hg : GE len pe) (hgf : ∀ a t, tOK t → tn t + 1 ≤ a → a ≤ len → gd len (tn t) (pf a t)) (hp : d + 1 < 9 → AE len z (d + 2) pe ge) (hfN : ∀ a t, ¬ tx a = 92 → ∃ t', pf a t = .inr (a, t')) (hfR : ∀ a t, tx a = 40 → tx (a + 1) = 92 → d + 2 < 9 → tOK t → tn t + 1 ≤ a + 1 → a + 1 ≤ len → AL z (d + 2) t (ge a) (pf (a + 1) t))
    {t0 : tS} {n : Nat} {p : Int32} {h0 : Kd} : ∀ (k a : Nat) (t : tS) (ks : List Kd) (ls : List Nat), ls.length + k = 2 → OpQ t0 t n (if rc = true then 9 else 8) 0 p (XP z (d + 1) h0.1 :: BPs z (d + 2) ks ls) → ks.length = ls.length → (∀ y ∈ ls, y < 256) → tOK t → tn t ≤ a → a ≤ len →
      AL z d t0 (gBi tx ge rc (d + 1) (fun ks ls => if rc = true then reT h0 ks ls else leT h0 ks ls) k a ks ls) (match pBind tx pe pf (d + 1) n a t with
        | .inr e => .inr e
        | .inl (a2, t2) => pBs tx (pBind tx pe pf (d + 1) n) n k a2 t2) := by
  have done : ∀ (a : Nat) (t : tS) (ks : List Kd) (ls : List Nat), OpQ t0 t n (if rc = true then 9 else 8) 0 p (XP z (d + 1) h0.1 :: BPs z (d + 2) ks ls) → ks.length = ls.length → ls.length ≤ 3 → (∀ y ∈ ls, y < 256) → tOK t → AL z d t0 (gCl tx (if rc = true then reT h0 ks ls else leT h0 ks ls) a) (pClose tx n a t) := by
    intro a t ks ls hO hl h3 hls ht
    refine al_close hO ht.1 (fun t' hN => ?_)
    cases rc with
    | false => exact E_let hd (by omega) hl h3 hls hN
    | true => exact E_rec hd (by omega) hl h3 hls hN
  intro k
  induction k with
  | zero =>
    intro a t ks ls hk hO hl hls ht h1 h2
    have hb := al_bind hx hd hg hgf hp hfN hfR hO hl (by omega) hls ht h1 h2
    unfold gBi
    generalize pBind tx pe pf (d + 1) n a t = r at hb
    rcases r with ⟨a2, t2⟩ | ⟨e, t2⟩
    · obtain ⟨τ, q1, q2, q3, q4, q5, q6⟩ := hb
      have q1 := q1 (fun t a4 => gCl tx (if rc = true then reT h0 (ks ++ [(t, nI (tx (a + 1)))]) (ls ++ [tx (a + 1)]) else leT h0 (ks ++ [(t, nI (tx (a + 1)))]) (ls ++ [tx (a + 1)])) a4)
      have q1 : gB1 tx ge rc (d + 1) a ls (fun t a4 => gCl tx (if rc = true then reT h0 (ks ++ [(t, nI (tx (a + 1)))]) (ls ++ [tx (a + 1)]) else leT h0 (ks ++ [(t, nI (tx (a + 1)))]) (ls ++ [tx (a + 1)])) a4) = gCl tx (if rc = true then reT h0 (ks ++ [(τ, nI (tx (a + 1)))]) (ls ++ [tx (a + 1)]) else leT h0 (ks ++ [(τ, nI (tx (a + 1)))]) (ls ++ [tx (a + 1)])) a2 := q1
      rw [q1]
      refine done a2 t2 _ _ q2 ?_ ?_ ?_ q3
      · rw [List.length_append, List.length_append, hl]
        rfl
      · rw [List.length_append]
        show ls.length + 1 ≤ 3
        omega
      · intro y hy
        rcases List.mem_append.mp hy with w | w
        · exact hls y w
        · rw [List.mem_singleton.mp w]
          exact q6
    · have q1 := hb (fun t a4 => gCl tx (if rc = true then reT h0 (ks ++ [(t, nI (tx (a + 1)))]) (ls ++ [tx (a + 1)]) else leT h0 (ks ++ [(t, nI (tx (a + 1)))]) (ls ++ [tx (a + 1)])) a4)
      exact q1
  | succ k ih =>
    intro a t ks ls hk hO hl hls ht h1 h2
    have hb := al_bind hx hd hg hgf hp hfN hfR hO hl (by omega) hls ht h1 h2
    unfold gBi
    generalize pBind tx pe pf (d + 1) n a t = r at hb
    rcases r with ⟨a2, t2⟩ | ⟨e, t2⟩
    · obtain ⟨τ, q1, q2, q3, q4, q5, q6⟩ := hb
      have q1 := q1 (fun t a4 => if tx a4 = 32 then gBi tx ge rc (d + 1) (fun ks ls => if rc = true then reT h0 ks ls else leT h0 ks ls) k (a4 + 1) (ks ++ [(t, nI (tx (a + 1)))]) (ls ++ [tx (a + 1)]) else gCl tx (if rc = true then reT h0 (ks ++ [(t, nI (tx (a + 1)))]) (ls ++ [tx (a + 1)]) else leT h0 (ks ++ [(t, nI (tx (a + 1)))]) (ls ++ [tx (a + 1)])) a4)
      have q1 : gB1 tx ge rc (d + 1) a ls (fun t a4 => if tx a4 = 32 then gBi tx ge rc (d + 1) (fun ks ls => if rc = true then reT h0 ks ls else leT h0 ks ls) k (a4 + 1) (ks ++ [(t, nI (tx (a + 1)))]) (ls ++ [tx (a + 1)]) else gCl tx (if rc = true then reT h0 (ks ++ [(t, nI (tx (a + 1)))]) (ls ++ [tx (a + 1)]) else leT h0 (ks ++ [(t, nI (tx (a + 1)))]) (ls ++ [tx (a + 1)])) a4) = (if tx a2 = 32 then gBi tx ge rc (d + 1) (fun ks ls => if rc = true then reT h0 ks ls else leT h0 ks ls) k (a2 + 1) (ks ++ [(τ, nI (tx (a + 1)))]) (ls ++ [tx (a + 1)]) else gCl tx (if rc = true then reT h0 (ks ++ [(τ, nI (tx (a + 1)))]) (ls ++ [tx (a + 1)]) else leT h0 (ks ++ [(τ, nI (tx (a + 1)))]) (ls ++ [tx (a + 1)])) a2) := q1
      rw [q1]
      have l1 : (ks ++ [((τ, nI (tx (a + 1))) : Kd)]).length = (ls ++ [tx (a + 1)]).length := by
        rw [List.length_append, List.length_append, hl]
        rfl
      have l2 : (ls ++ [tx (a + 1)]).length = ls.length + 1 := by
        rw [List.length_append]
        rfl
      have l3 : ∀ y ∈ ls ++ [tx (a + 1)], y < 256 := by
        intro y hy
        rcases List.mem_append.mp hy with w | w
        · exact hls y w
        · rw [List.mem_singleton.mp w]
          exact q6
      show AL z d t0 _ (pBs tx (pBind tx pe pf (d + 1) n) n (k + 1) a2 t2)
      unfold pBs
      by_cases e32 : tx a2 = 32
      · have hlt := hx.lt (a := a2) (by omega)
        rw [if_pos e32, if_pos e32]
        exact ih (a2 + 1) t2 _ _ (by omega) q2 l1 l3 q3 (by omega) (by omega)
      · rw [if_neg e32, if_neg e32]
        exact done a2 t2 _ _ q2 l1 (by omega) l3 q3
    · have q1 := hb (fun t a4 => if tx a4 = 32 then gBi tx ge rc (d + 1) (fun ks ls => if rc = true then reT h0 ks ls else leT h0 ks ls) k (a4 + 1) (ks ++ [(t, nI (tx (a + 1)))]) (ls ++ [tx (a + 1)]) else gCl tx (if rc = true then reT h0 (ks ++ [(t, nI (tx (a + 1)))]) (ls ++ [tx (a + 1)]) else leT h0 (ks ++ [(t, nI (tx (a + 1)))]) (ls ++ [tx (a + 1)])) a4)
      exact q1
theorem al_bou (hx : txOK X len tx) {pe pe2 pf : Nat → tS → PR} {ge ge2 : Nat → GR} {rc : Bool} (hd : d + 1 ≤ 9) (hg1 : GE len pe) (hp1 : AE len z (d + 1) pe ge) (hg : GE len pe2) (hgf : ∀ a t, tOK t → tn t + 1 ≤ a → a ≤ len → gd len (tn t) (pf a t)) (hp : d + 1 < 9 → AE len z (d + 2) pe2 ge2) (hfN : ∀ a t, ¬ tx a = 92 → ∃ t', pf a t = .inr (a, t')) (hfR : ∀ a t, tx a = 40 → tx (a + 1) = 92 → d + 2 < 9 → tOK t → tn t + 1 ≤ a + 1 → a + 1 ≤ len → AL z (d + 2) t (ge2 a) (pf (a + 1) t))
    {a : Nat} {t : tS} (h0 : ¬ tx a = 0) (ht : tOK t) (h1 : tn t + 1 ≤ a) (h2 : a ≤ len) : AL z d t (gLe tx ge ge2 rc (d + 1) a) (pBou tx pe (pBind tx pe2 pf (d + 1)) (if rc = true then 9 else 8) a t) := by
  have h96 := hx.1
  have hlt := hx.lt h0
  have ht1 : tOK (tAdd t (if rc = true then 9 else 8) 0 (nI a)) := tOK_add ht (by omega) (fun h => by cases rc <;> exact absurd h (by decide))
  unfold gLe pBou
  by_cases e32 : tx (a + 1) = 32
  · have hlt2 := hx.lt (a := a + 1) (by omega)
    rw [if_pos e32, if_pos e32]
    have ha := hp1 (a + 1 + 1) _ ht1 (by rw [tn_add]; omega) (by omega)
    have hgd := hg1 (a + 1 + 1) _ ht1 (by rw [tn_add]; omega) (by omega)
    rw [tn_add] at hgd
    generalize ge (a + 1 + 1) = G at ha
    generalize pe (a + 1 + 1) (tAdd t (if rc = true then 9 else 8) 0 (nI a)) = r at ha hgd
    rcases r with ⟨c, a2, t2⟩ | ⟨e, t2⟩
    · obtain ⟨τ, rfl, q2⟩ := ha
      obtain ⟨g0, g1, g2, g3, g4⟩ := hgd
      have hO : OpQ t (tPart t2 (tn t) c) (tn t) (if rc = true then 9 else 8) 0 (nI a) (XP z (d + 1) ((τ, 0) : Kd).1 :: BPs z (d + 2) [] []) := opq_part opq_new q2
      have ht2 : tOK (tPart t2 (tn t) c) := tOK_part g1 (by omega)
      show AL z d t (if tx a2 = 32 then gBi tx ge2 rc (d + 1) (fun ks ls => if rc = true then reT (τ, 0) ks ls else leT (τ, 0) ks ls) 2 (a2 + 1) [] [] else .inr a2) (if tx a2 = 32 then (match pBind tx pe2 pf (d + 1) (tn t) (a2 + 1) (tPart t2 (tn t) c) with | .inr e => .inr e | .inl (a4, t4) => pBs tx (pBind tx pe2 pf (d + 1) (tn t)) (tn t) 2 a4 t4) else .inr (a2, tPart t2 (tn t) c))
      by_cases e3 : tx a2 = 32
      · have hlt3 := hx.lt (a := a2) (by omega)
        rw [if_pos e3, if_pos e3]
        exact al_bi hx hd hg hgf hp hfN hfR 2 (a2 + 1) _ [] [] rfl hO rfl (fun y hy => by cases hy) ht2 (by rw [tn_part]; omega) (by omega)
      · rw [if_neg e3, if_neg e3]
        exact rfl
    · have ha : G = .inr e := ha
      subst ha
      exact rfl
  · rw [if_neg e32, if_neg e32]
    exact rfl
theorem gEx_e (tx : Nat → Nat) (f d a : Nat) : gEx tx (f + 1) d a = if cL (tx a) then .inl (fun φ => [(1, 2), (6, lkF (tx a) (uP a) φ 0)], a + 1) else if tx a = 39 then (match gD tx 200 false 0 d (a + 1) with | .inr e => .inr e | .inl (D, a2) => .inl (fun _ => (1, 1) :: D, a2)) else if tx a = 40 then (if d < 9 then gBr tx (gEx tx f (d + 1)) (gEx tx f (d + 2)) (d + 1) (a + 1) else .inr a) else if cD (tx (pA1 tx a)) then .inl (fun _ => [(1, 1), (1, pVal tx a)], (pDg tx 4 (pA1 tx a) 0).1) else .inr (pA1 tx a) := rfl
theorem pEx_e (tx : Nat → Nat) (f d a : Nat) (t : tS) : pEx tx (f + 1) d a t = if tx a = 40 then (if d < 9 then pBra tx (pEx tx f (d + 1)) (pEx tx f (d + 2)) (pEx tx f (d + 3)) (d + 1) (a + 1) t else .inr (a, t)) else if tx a = 39 then (match pDat tx 11 d (a + 1) (tAdd t 4 0 (nI a)) with | .inr e => .inr e | .inl (c, a2, t2) => .inl (tn t, a2, tPart t2 (tn t) c)) else pAtom tx a t := rfl
theorem pFun_no {pe : Nat → tS → PR} {D a : Nat} {t : tS} (h : ¬ tx a = 92) : ∃ t', pFun tx pe D a t = .inr (a, t') := ⟨_, if_neg h⟩
theorem gBr_fun {ge ge2 : Nat → GR} {D a : Nat} (h : tx a = 92) : gBr tx ge ge2 D a = gBo tx ge D a := by
  unfold gBr
  rw [if_neg (fun q => absurd q.1 (by rw [h]; decide)), if_pos h]
theorem al_ex (hx : txOK X len tx) : ∀ (f f' d : Nat), 10 ≤ f + d → 10 ≤ f' + d → d ≤ 9 → AE len z d (pEx tx f d) (gEx tx f' d)
  | 0, f', d, h, _, h9 => by omega
  | f + 1, 0, d, _, h, h9 => by omega
  | f + 1, f' + 1, d, hf, hf', h9 => by
    intro a t ht h1 h2
    have h96 := hx.1
    have h256 := hx.le a
    rw [pEx_e]
    by_cases e40 : tx a = 40
    · have hlt := hx.lt (a := a) (by omega)
      have nL : ¬ cL (tx a) = true := by rw [e40]; decide
      have n39 : ¬ tx a = 39 := by omega
      rw [if_pos e40, gEx_e, if_neg nL, if_neg n39, if_pos e40]
      by_cases hd : d < 9
      · rw [if_pos hd, if_pos hd]
        have A1 := al_ex hx f f' (d + 1) (by omega) (by omega) (by omega)
        have G1 := g_ex hx f (d + 1)
        unfold pBra
        by_cases e92 : tx (a + 1) = 92
        · rw [if_pos e92, gBr_fun e92]
          exact al_fun hx (by omega) G1 A1 e92 ht (by omega) (by omega)
        · rw [if_neg e92]
          by_cases e58 : tx (a + 1) = 58 ∨ tx (a + 1) = 59
          · rw [if_pos e58]
            have har : ¬ (0 < ar (tx (a + 1)) ∧ ¬ (tx (a + 1) = 45 ∧ cD (tx (a + 1 + 1)) = true)) := fun q => by
              rcases e58 with e | e <;> exact absurd q.1 (by rw [e]; decide)
            have eg : gBr tx (gEx tx f' (d + 1)) (gEx tx f' (d + 2)) (d + 1) (a + 1) = gLe tx (gEx tx f' (d + 1)) (gEx tx f' (d + 2)) (decide (tx (a + 1) = 59)) (d + 1) (a + 1) := by
              unfold gBr
              rw [if_neg har, if_neg e92, if_pos e58]
            have ek : (if tx (a + 1) = 59 then (9 : Int32) else 8) = if decide (tx (a + 1) = 59) = true then 9 else 8 := by
              by_cases e : tx (a + 1) = 59
              · rw [if_pos e, if_pos (decide_eq_true e)]
              · rw [if_neg e, if_neg (by simp [e])]
            rw [eg, ek]
            refine al_bou hx (by omega) G1 A1 (g_ex hx f (d + 2)) (fun a t q1 q2 q3 => g_fun hx (g_ex hx f (d + 3)) q1 q2 q3) (fun q => al_ex hx f f' (d + 2) (by omega) (by omega) (by omega)) (fun a t q => pFun_no q) (fun a t q1 q2 q3 q4 q5 q6 => ?_) (by omega) ht (by omega) (by omega)
            obtain ⟨g, rfl⟩ : ∃ g, f' = g + 1 := ⟨f' - 1, by omega⟩
            rw [gEx_br q1 (by omega), gBr_fun q2]
            exact al_fun (d := d + 2) hx (by omega) (g_ex hx f (d + 3)) (al_ex hx f g (d + 3) (by omega) (by omega) (by omega)) q2 q4 (by omega) q6
          · rw [if_neg e58]
            cases ho : opO (tx (a + 1)) with
            | none =>
              have har : ¬ (0 < ar (tx (a + 1)) ∧ ¬ (tx (a + 1) = 45 ∧ cD (tx (a + 1 + 1)) = true)) := fun q => by
                obtain ⟨o, h⟩ := ar_op.mp q.1
                rw [ho] at h
                cases h
              have eg : gBr tx (gEx tx f' (d + 1)) (gEx tx f' (d + 2)) (d + 1) (a + 1) = gCa tx (gEx tx f' (d + 1)) (a + 1) := by
                unfold gBr
                rw [if_neg har, if_neg e92, if_neg e58]
              rw [eg]
              exact al_call hx (by omega) G1 A1 ht (by omega) (by omega)
            | some o =>
              show AL z d t _ (if tx (a + 1) = 45 ∧ cD (tx (a + 1 + 1)) = true then pCall tx (pEx tx f (d + 1)) (a + 1) t else pOp tx (pEx tx f (d + 1)) o (a + 1) t)
              by_cases em : tx (a + 1) = 45 ∧ cD (tx (a + 1 + 1)) = true
              · rw [if_pos em]
                have eg : gBr tx (gEx tx f' (d + 1)) (gEx tx f' (d + 2)) (d + 1) (a + 1) = gCa tx (gEx tx f' (d + 1)) (a + 1) := by
                  unfold gBr
                  rw [if_neg (fun q => q.2 em), if_neg e92, if_neg e58]
                rw [eg]
                exact al_call hx (by omega) G1 A1 ht (by omega) (by omega)
              · rw [if_neg em]
                have eg : gBr tx (gEx tx f' (d + 1)) (gEx tx f' (d + 2)) (d + 1) (a + 1) = gSg tx (gEx tx f' (d + 1)) (a + 1) := by
                  unfold gBr
                  rw [if_pos ⟨ar_op.mpr ⟨o, ho⟩, em⟩]
                rw [eg]
                have h0 : ¬ tx (a + 1) = 0 := fun e => by rw [e, opO_0] at ho; cases ho
                exact al_op hx (by omega) G1 A1 ho ht (by omega) (hx.lt h0)
      · rw [if_neg hd, if_neg hd]
        exact rfl
    · rw [if_neg e40]
      by_cases e39 : tx a = 39
      · have hlt := hx.lt (a := a) (by omega)
        have nL : ¬ cL (tx a) = true := by rw [e39]; decide
        rw [if_pos e39, gEx_e, if_neg nL, if_pos e39]
        have ht1 : tOK (tAdd t 4 0 (nI a)) := tOK_add ht (by omega)
        have ha := al_dat (z := z) hx 11 d (by omega) h9 (a + 1) (tAdd t 4 0 (nI a)) 0 d rfl ht1 (by rw [tn_add]; omega) (by omega) (by rw [tn_add]; omega)
        have hgd := g_dat hx 11 d (a + 1) _ ht1 (by rw [tn_add]; omega) (by omega)
        rw [tn_add] at hgd
        generalize pDat tx 11 d (a + 1) (tAdd t 4 0 (nI a)) = r at ha hgd
        rcases r with ⟨c, a2, t2⟩ | ⟨e, t2⟩
        · obtain ⟨D, q1, q2⟩ := ha
          obtain ⟨g0, g1, g2, g3, g4⟩ := hgd
          have q1 : gD tx 200 false 0 d (a + 1) = .inl (D ++ [], a2) := q1 200 (by omega)
          rw [List.append_nil] at q1
          rw [q1]
          have hO : OpQ t (tPart t2 (tn t) c) (tn t) 4 0 (nI a) [DP z d D] := opq_part opq_new q2
          exact ⟨_, rfl, opq_done hO (tOK_part g1 (by omega)).1 (fun t' hN => E_quo h9 hN)⟩
        · rw [ha 200 (by omega)]
          exact rfl
      · rw [if_neg e39]
        unfold pAtom
        by_cases eL : cL (tx a) = true
        · have hlt := hx.lt (cL_ne eL)
          rw [if_pos eL, gEx_e, if_pos eL]
          exact ⟨_, rfl, opq_done opq_new (by rw [tn_add]; omega) (fun t' hN => E_var h9 (by omega) (by omega) hN)⟩
        · rw [if_neg eL, gEx_e, if_neg eL, if_neg e39, if_neg e40]
          unfold pNum
          by_cases eD : cD (tx (pA1 tx a)) = true
          · obtain ⟨w1, w2, w3⟩ := num_len hx h2 eD
            rw [if_pos eD, if_pos eD]
            exact ⟨_, rfl, opq_done opq_new (by rw [tn_add]; omega) (fun t' hN => E_num h9 hN)⟩
          · rw [if_neg eD, if_neg eD]
            exact rfl
end ZF
end
section
theorem lyS_cn (z : Nat) : ∀ (T : TL) (p : cC × List Nat), cn (lyS z T p).1 = cn p.1 + cnt T
  | [], p => rfl
  | x :: T, p => by
    show cn (lyS z T (ly1 z x p)).1 = cn p.1 + ((if x.1 = 5 then 0 else 1) + cnt T)
    rw [lyS_cn z T (ly1 z x p)]
    have e : cn (ly1 z x p).1 = cn p.1 + (if x.1 = 5 then 0 else 1) := by
      unfold ly1
      by_cases h5 : x.1 = 5
      · rw [if_pos h5, if_pos h5]
        obtain ⟨c, st⟩ := p
        cases st <;> rfl
      · rw [if_neg h5, if_neg h5]
        by_cases h4 : x.1 = 4
        · rw [if_pos h4]
          exact (cAp_n z p.1 vNil).1
        · rw [if_neg h4]
          by_cases h0 : x.1 = 0
          · rw [if_pos h0]
            exact (cAp_n z p.1 _).1
          · rw [if_neg h0]
            by_cases h2 : x.1 = 2
            · rw [if_pos h2]
              exact (cAp_n z p.1 _).1
            · rw [if_neg h2]
              exact (cAp_n z p.1 _).1
    omega
theorem cnt_low : ∀ T : TL, cnt (low T) = cnt T
  | [] => rfl
  | x :: T => by
    show (if (lw x).1 = 5 then 0 else 1) + cnt (low T) = (if x.1 = 5 then 0 else 1) + cnt T
    rw [cnt_low T]
    unfold lw
    by_cases h : x.1 = 6
    · rw [if_pos h, h]
      rfl
    · rw [if_neg h]
def GOut (tx : Nat → Nat) (len z i N : Nat) : Prop := (i = 1 ∧ ∀ τ, gEx tx 10 0 0 = .inl (τ, len) → ¬ knT (τ [])) ∨ (∃ τ, gEx tx 10 0 0 = .inl (τ, len) ∧ knT (τ []) ∧ ((i = 2 ∧ z < cnt (τ []) + 1) ∨ (i = 0 ∧ cnt (τ []) + 1 ≤ z ∧ N = cnt (τ []) + 1)))
def GPos (tx : Nat → Nat) (len : Nat) : Int32 := match gEx tx 10 0 0 with
  | .inr a => nI a
  | .inl (τ, a') => if a' = len then uMf (τ []) (-1) else nI a'
theorem GPos_r {tx : Nat → Nat} {len a : Nat} (h : gEx tx 10 0 0 = .inr a) : GPos tx len = nI a := by
  unfold GPos
  rw [h]
theorem GPos_n {tx : Nat → Nat} {len a' : Nat} {τ : Tau} (h : gEx tx 10 0 0 = .inl (τ, a')) (hn : ¬ a' = len) : GPos tx len = nI a' := by
  unfold GPos
  rw [h]
  exact if_neg hn
theorem GPos_u {tx : Nat → Nat} {len : Nat} {τ : Tau} (h : gEx tx 10 0 0 = .inl (τ, len)) : GPos tx len = uMf (τ []) (-1) := by
  unfold GPos
  rw [h]
  exact if_pos rfl
theorem GOut_u {tx : Nat → Nat} {len z i N i' N' : Nat} (h : GOut tx len z i N) (h' : GOut tx len z i' N') : i = i' ∧ (i = 0 → N = N') := by
  rcases h with ⟨rfl, h⟩ | ⟨τ, e, k, h⟩
  · rcases h' with ⟨rfl, h'⟩ | ⟨τ, e, k, h'⟩
    · exact ⟨rfl, fun q => absurd q (by decide)⟩
    · exact absurd k (h τ e)
  · rcases h' with ⟨rfl, h'⟩ | ⟨τ', e', k', h'⟩
    · exact absurd k (h' τ e)
    · rw [e] at e'
      cases e'
      rcases h with ⟨rfl, h⟩ | ⟨rfl, h, hN⟩
      · rcases h' with ⟨rfl, h'⟩ | ⟨rfl, h', hN'⟩
        · exact ⟨rfl, fun q => absurd q (by decide)⟩
        · omega
      · rcases h' with ⟨rfl, h'⟩ | ⟨rfl, h', hN'⟩
        · omega
        · exact ⟨rfl, fun _ => hN.trans hN'.symm⟩
section ZG
variable {tx : Nat → Nat} {X : Nat → Int32} {len z : Nat} {t : tS} {s : cD_}
theorem cls_bad (hx : txOK X len tx) (ht : tOK t) {a' : Nat} {t' : tS} (e : pEx tx 10 0 0 (0, t.2) = .inr (a', t')) : gEx tx 10 0 0 = .inr a' := by
  have ht0 : tOK (0, t.2) := ⟨Nat.zero_le _, ht.2.1, ⟨ht.2.2.1.1, fun i hi => absurd hi (Nat.not_lt_zero i)⟩, ht.2.2.2⟩
  have h := al_ex (z := 0) hx 10 10 0 (by omega) (by omega) (by omega) 0 (0, t.2) ht0 (Nat.le_refl _) (Nat.zero_le _)
  rw [e] at h
  exact h
theorem cls_good (hx : txOK X len tx) (ht : tOK t) {nd a' : Nat} {t' : tS} (e : pEx tx 10 0 0 (0, t.2) = .inl (nd, a', t')) : ∃ τ, gEx tx 10 0 0 = .inl (τ, a') ∧ a' ≤ len ∧ RES z (τ []) (dZ s) (dEx z t' 11 0 (some 0) (dZ s)) := by
  have ht0 : tOK (0, t.2) := ⟨Nat.zero_le _, ht.2.1, ⟨ht.2.2.1.1, fun i hi => absurd hi (Nat.not_lt_zero i)⟩, ht.2.2.2⟩
  have h := al_ex (z := z) hx 10 10 0 (by omega) (by omega) (by omega) 0 (0, t.2) ht0 (Nat.le_refl _) (Nat.zero_le _)
  have hg := g_ex hx 10 0 0 (0, t.2) ht0 (Nat.le_refl _) (Nat.zero_le _)
  rw [e] at h hg
  obtain ⟨τ, q1, q2, q3, -⟩ := h
  have q3 := q3 t' ⟨fun _ _ _ => ⟨rfl, rfl, rfl, rfl⟩, fun _ _ _ => rfl⟩ (Nat.le_refl _)
  exact ⟨τ, q1, hg.2.2.2.2, q3 11 0 (dZ s) [] (Nat.le_refl _) (by decide) (Nat.le_refl _) rfl⟩
theorem cls_cn {τ : Tau} (h : RES z (τ []) (dZ s) (dEx z t 11 0 (some 0) (dZ s))) : (knT (τ []) → cn (dC (dI z (dEx z t 11 0 (some 0) (dZ s)) 19)) = cnt (τ []) + 1) ∧ (dU (dEx z t 11 0 (some 0) (dZ s)) = -1 ↔ knT (τ [])) ∧ dU (dEx z t 11 0 (some 0) (dZ s)) = uMf (τ []) (-1) := by
  obtain ⟨h1, -, -, h4, h5⟩ := h
  refine ⟨fun hk => ?_, ?_, h5⟩
  · rw [cn_I]
    have := lyS_cn z (τ []) (dC (dZ s), [])
    rw [h1 hk] at this
    have e : cn (dC (dZ s)) = 0 := rfl
    have this : cn (dC (dEx z t 11 0 (some 0) (dZ s))) = cn (dC (dZ s)) + cnt (τ []) := this
    omega
  · rw [h4]
    exact ⟨fun q => q.2, fun q => ⟨rfl, q⟩⟩
end ZG
section ZG2
variable {err : Int32} {m b0 b1 z len c : Nat} {tx : Nat → Nat} {mode : Int32} {op : Bool} {Q : mj_R → Prop} {xs : List Int32} {tl : List mj_O}
set_option maxRecDepth 10000
theorem CC_compile {W : List mj_O} {l : Nat} (hl : 120 ≤ l) (h : CI err z len tx mode c tl W) (hb : 12 ≤ b1)
    (h1 : ∀ (i : Nat) W' b0' b1' (er : Int32), ((i = 0 ∧ GOut tx len z 1 0 ∧ er = GPos tx len) ∨ (i = 1 ∧ GOut tx len z 2 0 ∧ er = -1)) → CI er z 0 (fun _ => 0) mode c tl W' → b0 ≤ b0' → b1 ≤ b1' + 12 → Q (.inr i, (W', b0', b1', false)))
    (h2 : ∀ N W', GOut tx len z 0 N → 1 ≤ N → N ≤ 250 → CI (-1) z 0 (fun _ => 0) 0 N tl W' → Q (.inl (some (.int (nI N))), (W', b0 + 2, b1, op))) :
    mj_Mt gT (law_cst xs) gnw (l + 1) y_P_compile [.ref 0] (W, b0 + 2, b1, op) Q := by
  obtain ⟨t, X, a, s, S, E, C, D, colls, taken, steps, H, T, fr, g, f, k, n, fb, R, rfl, hz, ht, hx, hF, hO, hM, hfr, hf, hc, hd⟩ := h
  have ht0 : tOK (0, t.2) := ⟨Nat.zero_le _, ht.2.1, ⟨ht.2.2.1.1, fun i hi => absurd hi (Nat.not_lt_zero i)⟩, ht.2.2.2⟩
  have hg := g_ex hx 10 0 0 (0, t.2) ht0 (Nat.le_refl _) (Nat.zero_le _)
  refine P_compile hl hz ht hx hF hb (fun a' t' e => ?_) (fun nd a' t' e q => ?_) (fun nd a' t' e q u => ?_) (fun nd a' t' s' e q u es v => ?_) (fun nd a' t' s' e q u es v => ?_)
  · have hG : GOut tx len z 1 0 := Or.inl ⟨rfl, fun τ h => by rw [cls_bad hx ht e] at h; cases h⟩
    rw [e] at hg
    exact h1 0 _ _ _ (nI a') (Or.inl ⟨rfl, hG, (GPos_r (cls_bad hx ht e)).symm⟩) ⟨t', X, a', s, S, E, C, D, colls, taken, steps, H, T, fr, g, f, k, n, fb, R, rfl, hz, hg.1, txOK_0, hF, hO, hM, hfr, hf, hc, hd⟩ (by omega) (by omega)
  · obtain ⟨τ, w1, w2, w3⟩ := cls_good (z := z) (s := s) hx ht e
    have hG : GOut tx len z 1 0 := Or.inl ⟨rfl, fun τ h => by rw [w1] at h; cases h; omega⟩
    rw [e] at hg
    exact h1 0 _ _ _ (nI a') (Or.inl ⟨rfl, hG, (GPos_n w1 (by omega)).symm⟩) ⟨t', X, a', s, S, E, C, D, colls, taken, steps, H, T, fr, g, f, k, n, fb, R, rfl, hz, hg.2.1, txOK_0, hF, hO, hM, hfr, hf, hc, hd⟩ (by omega) (by omega)
  · obtain ⟨τ, w1, w2, w3⟩ := cls_good (z := z) (s := s) hx ht e
    obtain rfl : a' = len := by omega
    obtain ⟨-, c2, c3⟩ := cls_cn w3
    have hG : GOut tx a' z 1 0 := Or.inl ⟨rfl, fun τ h => by rw [w1] at h; cases h; exact fun q => u (c2.mpr q)⟩
    rw [e] at hg
    have hl2 := lay_F (z := z) hg.2.1 hF hO
    exact h1 0 _ _ _ _ (Or.inl ⟨rfl, hG, c3.trans (GPos_u w1).symm⟩) ⟨t', X, a', _, S, E, C, D, colls, taken, steps, H, T, fr, g, f, k, n, fb, R, rfl, hz, hg.2.1, txOK_0, hl2.1, hl2.2, hM, hfr, hf, hc, hd⟩ (by omega) (by omega)
  · obtain ⟨τ, w1, w2, w3⟩ := cls_good (z := z) (s := s) hx ht e
    obtain rfl : a' = len := by omega
    obtain ⟨c1, c2, -⟩ := cls_cn w3
    have c1 := c1 (c2.mp u)
    rw [← es] at c1
    have hG : GOut tx a' z 2 0 := Or.inr ⟨τ, w1, c2.mp u, Or.inl ⟨rfl, by omega⟩⟩
    rw [e] at hg
    have hl2 := lay_F (z := z) hg.2.1 hF hO
    rw [← es] at hl2
    exact h1 1 _ _ _ _ (Or.inr ⟨rfl, hG, rfl⟩) ⟨t', X, a', _, S, E, C, D, colls, taken, steps, H, T, fr, g, f, k, n, fb, R, rfl, hz, hg.2.1, txOK_0, hl2.1, hl2.2, hM, hfr, hf, hc, hd⟩ (by omega) (by omega)
  · obtain ⟨τ, w1, w2, w3⟩ := cls_good (z := z) (s := s) hx ht e
    obtain rfl : a' = len := by omega
    obtain ⟨c1, c2, -⟩ := cls_cn w3
    have c1 := c1 (c2.mp u)
    rw [← es] at c1
    have hG : GOut tx a' z 0 (cn (dC s')) := Or.inr ⟨τ, w1, c2.mp u, Or.inr ⟨rfl, by omega, by omega⟩⟩
    rw [e] at hg
    have hl2 := lay_F (z := z) hg.2.1 hF hO
    rw [← es] at hl2
    have hfa := faN_fr (z := z) (z - cn (dC s')) (cn (dC s')) (fr, 0) (by omega) hfr
    have hf2 : (faN (z - cn (dC s')) (cn (dC s')) (fr, 0)).2 = 0 + (z - cn (dC s')) := hfa.2
    exact h2 (cn (dC s')) _ hG (by omega) (by omega) ⟨t', X, a', s', vNil, vNil, vNil, vNil, colls, taken, steps, _, _, _, g, _, k, n, fb, R, rfl, hz, hg.2.1, txOK_0, hl2.1, hl2.2, ⟨okA_cp hl2.2.1 hM.1, okA_cp hl2.2.2 hM.2.1, trivial, trivial, trivial, trivial⟩, hfa.1, by omega, v, hd⟩
end ZG2
section ZG3
variable {err : Int32} {b0 b1 z len c : Nat} {tx : Nat → Nat} {mode : Int32} {op : Bool} {Q : mj_R → Prop} {s : cS} {r : rM} {xs : List Int32} {f : Nat → Int64}
set_option maxRecDepth 10000
theorem LL_compile {l : Nat} (hl : 120 ≤ l) (h : CX err z len tx mode c s) (hb : 12 ≤ b1)
    (hQ : ∀ i N mode' c' s' f' b0' b1' op' (er : Int32), GOut tx len z i N → er = (if i = 1 then GPos tx len else -1) → CX er z 0 (fun _ => 0) mode' c' s' → ((¬ i = 0 ∧ mode' = mode ∧ c' = c) ∨ (i = 0 ∧ mode' = 0 ∧ c' = N ∧ 1 ≤ N ∧ N ≤ 250 ∧ f' 0 = (nI N).toInt64)) → b0 ≤ b0' → b1 ≤ b1' + 12 → Q (.inl (some (.int (nI i))), (cW s' (rW r [oJ 1 f']), b0', b1', op'))) :
    mj_Mt gT (law_cst xs) gnw (l + 2) y_Law_compile [.ref 0, .ref 54] (cW s (rW r [oJ 1 f]), b0 + 2, b1, op) Q := by
  intro J hJ
  refine hJ _ _ _ _ ?_
  refine CC_compile hl (h _) hb (fun i W' b0' b1' er hi hc q0 q1 => ?_) (fun N W' hG h1 h2 hc => ?_)
  · obtain ⟨s', rfl, hs⟩ := CI_CX hc
    rcases hi with ⟨rfl, hG, he⟩ | ⟨rfl, hG, he⟩
    · exact hQ 1 0 _ _ s' _ _ _ _ er hG he hs (Or.inl ⟨by decide, rfl, rfl⟩) q0 q1
    · exact hQ 2 0 _ _ s' _ _ _ _ er hG he hs (Or.inl ⟨by decide, rfl, rfl⟩) q0 q1
  · obtain ⟨s', rfl, hs⟩ := CI_CX hc
    refine And.intro (in0 (by decide)) ?_
    refine hQ 0 N _ _ s' _ _ _ _ _ hG rfl hs (Or.inr ⟨rfl, rfl, rfl, h1, h2, ?_⟩) (by omega) (by omega)
    show vp_updL f _ _ 0 = _
    exact if_pos rfl
end ZG3
end
section
theorem chL_u {nx bo : Nat → Int32} : ∀ (L L' : List Int32) (x : Int32), chL nx bo L x → chL nx bo L' x → L = L'
  | [], [], x, _, _ => rfl
  | [], c :: L', x, h, ⟨j, h1, h2, h3⟩ => by
    have h : x = -1 := h
    rw [h2] at h
    exact absurd h (nI_nn (by omega))
  | c :: L, [], x, ⟨j, h1, h2, h3⟩, h => by
    have h : x = -1 := h
    rw [h2] at h
    exact absurd h (nI_nn (by omega))
  | c :: L, c' :: L', x, ⟨j, h1, h2, h3, h4⟩, ⟨j', h1', h2', h3', h4'⟩ => by
    have ej : j = j' := nIj (by omega) (by omega) (h2.symm.trans h2')
    subst ej
    rw [← h3, ← h3', chL_u L L' _ h4 h4']
theorem map_nI_u : ∀ (l l' : List Nat), (∀ c ∈ l, c < 256) → (∀ c ∈ l', c < 256) → l.map nI = l'.map nI → l = l'
  | [], [], _, _, _ => rfl
  | [], _ :: _, _, _, h => by cases h
  | _ :: _, [], _, _, h => by cases h
  | a :: l, b :: l', h1, h2, h => by
    have e := List.cons.inj h
    have ha := h1 a List.mem_cons_self
    have hb := h2 b List.mem_cons_self
    rw [nIj (by omega) (by omega) e.1, map_nI_u l l' (fun c hc => h1 c (List.mem_cons_of_mem _ hc)) (fun c hc => h2 c (List.mem_cons_of_mem _ hc)) e.2]
theorem FR_u {r : rM} {v : Nat} {ls ls' : List Nat} (h : FRb r v ls ∨ FRk r v ls) (h' : FRb r v ls' ∨ FRk r v ls') : ls = ls' := by
  rcases h with ⟨a1, a2, a3, a4, a5⟩ | ⟨a1, i1, a2, a3, a4, a5, a6⟩
  · rcases h' with ⟨b1, b2, b3, b4, b5⟩ | ⟨b1, i1', b2, b3, b4, b5, b6⟩
    · have el : ls.length = ls'.length := nIj (by omega) (by omega) (a2.symm.trans b2)
      refine List.ext_getElem? (fun i => ?_)
      cases hi : ls[i]? with
      | none =>
        have := List.getElem?_eq_none_iff.mp hi
        exact (List.getElem?_eq_none (by omega)).symm
      | some c =>
        cases hi' : ls'[i]? with
        | none =>
          have := List.getElem?_eq_none_iff.mp hi'
          rw [List.getElem?_eq_none (by omega)] at hi
          cases hi
        | some c' =>
          have h1 := a5 c (List.mem_of_getElem? hi)
          have h2 := b5 c' (List.mem_of_getElem? hi')
          rw [nIj (by omega) (by omega) ((a4 i c hi).symm.trans (b4 i c' hi'))]
    · rw [a1] at b1
      rcases b1 with b1 | b1 <;> exact absurd b1 (by decide)
  · rcases h' with ⟨b1, b2, b3, b4, b5⟩ | ⟨b1, i1', b2, b3, b4, b5, b6⟩
    · rw [b1] at a1
      rcases a1 with a1 | a1 <;> exact absurd a1 (by decide)
    · have ei : i1 = i1' := nIj (by omega) (by omega) (a3.symm.trans b3)
      subst ei
      exact map_nI_u ls ls' a5 b5 (chL_u _ _ _ a4 b4)
theorem CHd_u {r : rM} : ∀ (k k' n : Nat) (φ φ' : Fr), CHd r k n φ → CHd r k' n φ' → φ = φ'
  | 0, 0, n, φ, φ', ⟨_, h⟩, ⟨_, h'⟩ => h.trans h'.symm
  | 0, k' + 1, n, φ, φ', ⟨h, _⟩, ⟨v, ψ, h1, h2, _⟩ => by
    rw [h] at h2
    exact absurd h2.symm (nI_nn (by omega))
  | k + 1, 0, n, φ, φ', ⟨v, ψ, h1, h2, _⟩, ⟨h, _⟩ => by
    rw [h] at h2
    exact absurd h2.symm (nI_nn (by omega))
  | k + 1, k' + 1, n, φ, φ', ⟨v, ψ, h1, h2, h3, h4⟩, ⟨v', ψ', h1', h2', h3', h4'⟩ => by
    have ev : v = v' := nIj (by omega) (by omega) (h2.symm.trans h2')
    subst ev
    have eψ := CHd_u k k' v ψ ψ' h3 h3'
    subst eψ
    rcases h4 with ⟨ls, rfl, hF⟩ | ⟨rfl, n5, n7, n6⟩
    · rcases h4' with ⟨ls', rfl, hF'⟩ | ⟨rfl, n5, n7, n6⟩
      · rw [FR_u (hF.imp id (fun q => q.1)) (hF'.imp id (fun q => q.1))]
      · rcases hF with q | ⟨q, w⟩
        · exact absurd q.1 n5
        · rcases w with w | w
          · exact absurd w n7
          · rcases n6 with n6 | n6
            · exact absurd (q.1.resolve_right n7) n6
            · exact absurd w n6
    · rcases h4' with ⟨ls', rfl, hF'⟩ | ⟨rfl, -⟩
      · rcases hF' with q | ⟨q, w⟩
        · exact absurd q.1 n5
        · rcases w with w | w
          · exact absurd w n7
          · rcases n6 with n6 | n6
            · exact absurd (q.1.resolve_right n7) n6
            · exact absurd w n6
      · rfl
theorem NM_u {r : rM} {K i c k c' k' : Nat} {φ φ' : Fr} (h : NM r K i c k φ) (h' : NM r K i c' k' φ') : c = c' ∧ φ = φ' := by
  obtain ⟨-, h1, h2, h3, -⟩ := h
  obtain ⟨-, h1', h2', h3', -⟩ := h'
  exact ⟨nIj (by omega) (by omega) (h1.symm.trans h1'), CHd_u k k' i φ φ' h3 h3'⟩
theorem in_lst {x : Int32 × Int32} {i : Int32} {t : Tau} {φ : Fr} (h : x ∈ t φ) : x ∈ lstT i t φ := List.mem_cons_of_mem _ (List.mem_append_left _ h)
theorem in_row {x : Int32 × Int32} {φ : Fr} {k : Kd} (hx : x ∈ k.1 φ) : ∀ (ks : List Kd), k ∈ ks → x ∈ rowT ks φ
  | [], h => by cases h
  | k2 :: ks, h => by
    show x ∈ rowT ks φ ++ (k2.1 φ ++ [(1, 13)])
    rcases List.mem_cons.mp h with w | w
    · rw [← w]
      exact List.mem_append_right _ (List.mem_append_left _ hx)
    · exact List.mem_append_left _ (in_row hx ks w)
theorem in_sg {x : Int32 × Int32} {c : Nat} {φ : Fr} {k : Kd} (hx : x ∈ k.1 φ) : ∀ (ks : List Kd), 1 ≤ ks.length → ks.length ≤ 3 → k ∈ ks → x ∈ sgT c ks φ
  | [], h, _, _ => by cases h
  | [a], _, _, h => by
    rw [List.mem_singleton.mp h] at hx
    exact List.mem_append_left _ hx
  | [a, b], _, _, h => by
    show x ∈ (if c = 46 then b.1 φ ++ (a.1 φ ++ [(1, 13)]) else a.1 φ ++ (b.1 φ ++ [(1, cdO c)]))
    rcases List.mem_cons.mp h with w | w
    · rw [w] at hx
      split
      · exact List.mem_append_right _ (List.mem_append_left _ hx)
      · exact List.mem_append_left _ hx
    · rw [List.mem_singleton.mp w] at hx
      split
      · exact List.mem_append_left _ hx
      · exact List.mem_append_right _ (List.mem_append_left _ hx)
  | [a, b, d], _, _, h => by
    show x ∈ a.1 φ ++ ((1, 8) :: (lstT 9 b.1 φ ++ lstT 9 d.1 φ))
    rcases List.mem_cons.mp h with w | w
    · rw [w] at hx
      exact List.mem_append_left _ hx
    · rcases List.mem_cons.mp w with w | w
      · rw [w] at hx
        exact List.mem_append_right _ (List.mem_cons_of_mem _ (List.mem_append_left _ (in_lst hx)))
      · rw [List.mem_singleton.mp w] at hx
        exact List.mem_append_right _ (List.mem_cons_of_mem _ (List.mem_append_right _ (in_lst hx)))
  | _ :: _ :: _ :: _ :: _, _, h, _ => by
    simp only [List.length_cons] at h
    omega
theorem in_bo {x : Int32 × Int32} {a : Kd} {ls : List Nat} {φ : Fr} (h : x ∈ a.1 (ls :: φ)) : x ∈ boT a ls φ := List.mem_cons_of_mem _ (in_lst h)
theorem cKL_rng {P : Nat → Nat → Tau → Prop} {nx bo : Nat → Int32} (hlt : ∀ i m t, P i m t → i < m) {k : Kd} {args : List Kd} {i l m j : Nat} (h : cKL P nx bo (k :: args) i l m) (h1 : i ≤ j) (h2 : j < m) : (∃ e2, j < e2 ∧ e2 ≤ m ∧ P i e2 k.1) ∨ ∃ kd ∈ args, ∃ a b, i < a ∧ a ≤ j ∧ j < b ∧ b ≤ m ∧ P a b kd.1 := by
  cases args with
  | nil =>
    obtain ⟨rfl, q, -⟩ := h
    exact Or.inl ⟨m, h2, Nat.le_refl _, q⟩
  | cons k2 ks =>
    obtain ⟨j0, q1, -, -, q4⟩ := h
    have c1 := hlt _ _ _ q1
    have c2 := cKL_lt hlt (k2 :: ks) j0 l m q4
    rcases Nat.lt_or_ge j j0 with w | w
    · exact Or.inl ⟨j0, w, by omega, q1⟩
    · obtain ⟨kd, w1, a, b, w2, w3, w4, w5, w6⟩ := (cKL_all hlt (k2 :: ks) j0 l m q4).2 j w h2
      exact Or.inr ⟨kd, w1, a, b, by omega, w3, w4, w5, w6⟩
theorem cR_cvr {r : rM} {tx : Nat → Nat} {K : Nat} : ∀ (f n e : Nat) (t : Tau) (k : Nat) (φ : Fr), cR tx r f n e t → e ≤ 100 → CHd r k n φ → k + f ≤ K → ∀ i, n ≤ i → i < e → r.kind i = 1 → ∃ c k2 φ2, NM r K i c k2 φ2 ∧ ((6 : Int32), lkF c (uP (pn r.at_ i)) φ2 0) ∈ t φ
  | 0, n, e, t, k, φ, h, _, _, _ => absurd h id
  | f + 1, n, e, t, k, φ, h, he, hc, hK => by
    intro i hi1 hi2 hi3
    have hlt := cR_lt (f + 1) n e t h
    rcases h with ⟨h1, h2, h3⟩ | ⟨h1, h2, c, a, h3, h4, h5, h6, h7⟩ | ⟨h1, h2, a, a', d, D, h3, h4, h5, h6, h7⟩ | ⟨ks, l, h1, h2, h3, hT⟩
    · obtain rfl : i = n := by omega
      rw [h1] at hi3
      exact absurd hi3 (by decide)
    · obtain rfl : i = n := by omega
      refine ⟨c, k, φ, ⟨h1, h6, h3, hc, by omega⟩, ?_⟩
      have ep : pn r.at_ i = a := by
        unfold pn
        rw [h5]
        exact nI_clamp (by omega)
      rw [h7, ep]
      exact List.mem_cons_of_mem _ List.mem_cons_self
    · obtain rfl : i = n := by omega
      rw [h1] at hi3
      exact absurd hi3 (by decide)
    · have hin : ¬ r.kind n = 1 → n + 1 ≤ i := fun q => by
        rcases Nat.lt_or_ge n i with w | w
        · exact w
        · obtain rfl : i = n := by omega
          exact absurd hi3 q
      have kid : ∀ (a b : Nat) (t2 : Tau) (φ2 : Fr), n + 1 ≤ a → a ≤ i → i < b → b ≤ e → (cR tx r f a b t2 ∧ r.parent a = nI n) → CHd r (k + 1) a φ2 → ∃ c k2 φ3, NM r K i c k2 φ3 ∧ ((6 : Int32), lkF c (uP (pn r.at_ i)) φ3 0) ∈ t2 φ2 := fun a b t2 φ2 q1 q2 q3 q4 q5 q6 => cR_cvr f a b t2 (k + 1) φ2 q5.1 (by omega) q6 (by omega) i q2 q3 hi3
      have cl := fun i m t (w : cR tx r f i m t ∧ r.parent i = nI n) => cR_lt (tx := tx) (r := r) f i m t w.1
      have hlt2 := cKL_lt cl ks _ _ _ h1
      rcases hT with ⟨k1, c, c1, c2, c3, c4, c5⟩ | ⟨k1, a, args, c1, c2, c3⟩ | ⟨k1, a, ls, c1, c2, c3, c4, c5, c6⟩ | ⟨k1, a, args, ls, c1, c2, c3, c4, c5, c6⟩ | ⟨k1, a, args, ls, c1, c2, c3, c4, c5, c6⟩
      · obtain ⟨kd, w1, a, b, w2, w3, w4, w5, w6⟩ := (cKL_all cl ks _ _ _ h1).2 i (hin (by rw [k1]; decide)) hi2
        obtain ⟨c', k2, φ3, u1, u2⟩ := kid a b kd.1 φ w2 w3 w4 w5 w6 (CH_no (by omega) w6.2 hc (by rw [k1]; decide) (by rw [k1]; decide) (Or.inl (by rw [k1]; decide)))
        refine ⟨c', k2, φ3, u1, ?_⟩
        rw [c5]
        exact in_sg u2 ks (by omega) (by have := ar_le c; omega) w1
      · obtain ⟨kd, w1, a', b, w2, w3, w4, w5, w6⟩ := (cKL_all cl ks _ _ _ h1).2 i (hin (by rw [k1]; decide)) hi2
        obtain ⟨c', k2, φ3, u1, u2⟩ := kid a' b kd.1 φ w2 w3 w4 w5 w6 (CH_no (by omega) w6.2 hc (by rw [k1]; decide) (by rw [k1]; decide) (Or.inl (by rw [k1]; decide)))
        refine ⟨c', k2, φ3, u1, ?_⟩
        rw [c3]
        show _ ∈ rowT args φ ++ (a.1 φ ++ [(1, 4)])
        rw [c1] at w1
        rcases List.mem_cons.mp w1 with w | w
        · rw [w] at u2
          exact List.mem_append_right _ (List.mem_append_left _ u2)
        · exact List.mem_append_left _ (in_row u2 args w)
      · obtain ⟨kd, w1, a', b, w2, w3, w4, w5, w6⟩ := (cKL_all cl ks _ _ _ h1).2 i (hin (by rw [k1]; decide)) hi2
        obtain ⟨c', k2, φ3, u1, u2⟩ := kid a' b kd.1 (ls :: φ) w2 w3 w4 w5 w6 (CH_fr (by omega) w6.2 hc (Or.inl ⟨k1, c3, c2, c4, c5⟩))
        refine ⟨c', k2, φ3, u1, ?_⟩
        rw [c6]
        rw [c1] at w1
        rw [List.mem_singleton.mp w1] at u2
        exact in_bo u2
      · have hlen : ls.length = args.length := by
          have := congrArg List.length c4
          rw [List.length_map, List.length_map] at this
          exact this.symm
        have hch := h1
        rw [c1] at hch
        have hch2 := cKL_ch cl args a (n + 1) l e hch h2 (by omega)
        rw [c4] at hch2
        have hF : FRk r n ls := ⟨Or.inl k1, n + 1, by omega, h3, hch2, c5, by omega⟩
        rcases cKL_rng cl hch (hin (by rw [k1]; decide)) hi2 with ⟨e2, p1, p2, p3⟩ | ⟨kd, w1, a', b, w2, w3, w4, w5, w6⟩
        · obtain ⟨c', k2, φ3, u1, u2⟩ := kid (n + 1) e2 a.1 (ls :: φ) (Nat.le_refl _) (hin (by rw [k1]; decide)) p1 p2 p3 (CH_fr (by omega) p3.2 hc (Or.inr ⟨hF, Or.inr h3⟩))
          refine ⟨c', k2, φ3, u1, ?_⟩
          rw [c6]
          exact List.mem_append_right _ (List.mem_append_left _ (in_bo u2))
        · obtain ⟨c', k2, φ3, u1, u2⟩ := kid a' b kd.1 φ (by omega) w3 w4 w5 w6 (CH_no (by omega) w6.2 hc (by rw [k1]; decide) (by rw [k1]; decide) (Or.inr (fun q => by
            have := nIj (by omega) (by omega) (h3.symm.trans q)
            omega)))
          refine ⟨c', k2, φ3, u1, ?_⟩
          rw [c6]
          exact List.mem_append_left _ (in_row u2 args w1)
      · have hlen : ls.length = args.length := by
          have := congrArg List.length c4
          rw [List.length_map, List.length_map] at this
          exact this.symm
        have hch := h1
        rw [c1] at hch
        have hch2 := cKL_ch cl args a (n + 1) l e hch h2 (by omega)
        rw [c4] at hch2
        have hF : FRk r n ls := ⟨Or.inr k1, n + 1, by omega, h3, hch2, c5, by omega⟩
        rcases cKL_rng cl hch (hin (by rw [k1]; decide)) hi2 with ⟨e2, p1, p2, p3⟩ | ⟨kd, w1, a', b, w2, w3, w4, w5, w6⟩
        · obtain ⟨c', k2, φ3, u1, u2⟩ := kid (n + 1) e2 a.1 (ls :: φ) (Nat.le_refl _) (hin (by rw [k1]; decide)) p1 p2 p3 (CH_fr (by omega) p3.2 hc (Or.inr ⟨hF, Or.inr h3⟩))
          refine ⟨c', k2, φ3, u1, ?_⟩
          rw [c6]
          exact List.mem_cons_of_mem _ (List.mem_append_right _ (List.mem_append_left _ (in_bo u2)))
        · obtain ⟨c', k2, φ3, u1, u2⟩ := kid a' b kd.1 (ls :: φ) (by omega) w3 w4 w5 w6 (CH_fr (by omega) w6.2 hc (Or.inr ⟨hF, Or.inl k1⟩))
          refine ⟨c', k2, φ3, u1, ?_⟩
          rw [c6]
          exact List.mem_cons_of_mem _ (List.mem_append_left _ (in_row u2 args w1))
section ZH2
variable {cst : Nat → Option (Nat × (Nat → Int32))} {m b0 b1 : Nat} {op : Bool} {tl : List mj_O} {Q : mj_R → Prop} {s : cS} {r : rM} {K e : Nat}
set_option maxRecDepth 10000
theorem R_firstUnk (he : e ≤ 100) (hp : r.parts = nI e) (hcov : ∀ i, i < e → r.kind i = 1 → (∃ a, a ≤ 96 ∧ r.at_ i = nI a) ∧ ∃ c k φ, NM r K i c k φ) (h1 : (∀ i c k φ, i < e → NM r K i c k φ → ¬ lkF c (-1) φ 0 < 0) → Q (.inl (some (.int (-1))), (cW s (rW r tl), b0, b1, op))) (h2 : ∀ a i c k φ, a ≤ 96 → r.at_ i = nI a → i < e → NM r K i c k φ → lkF c (-1) φ 0 < 0 → (∀ j c k φ, j < i → NM r K j c k φ → ¬ lkF c (-1) φ 0 < 0) → Q (.inl (some (.int (nI a))), (cW s (rW r tl), b0, b1, op))) : mj_Mt gT cst gnw (m + 3) y_R_firstUnknown [.ref 27] (cW s (rW r tl), b0, b1, op) Q := by
  intro J hJ
  have loop : ∀ (j n : Nat), j + n = e → (∀ i c k φ, i < n → NM r K i c k φ → ¬ lkF c (-1) φ 0 < 0) → J 2 [some (.ref 27), some (.int (nI n))] [] (cW s (rW r tl), b0, b1, op) := by
    intro j
    induction j with
    | zero =>
      intro n hn hk
      obtain rfl : n = e := by omega
      refine hJ _ _ _ _ ?_
      refine And.intro (fun _ => h1 hk) (fun (g : ¬ r.parts ≤ nI n) => absurd (by rw [hp]; exact nI_le (Nat.le_refl _) (by omega)) g)
    | succ j ih =>
      intro n hn hk
      have hin : vp_in (nI n) 100 := vp_in_nI (by omega) (by decide)
      have ekn : (nI n).toNatClampNeg = n := nI_clamp (by omega)
      have nxt : (∀ c k φ, NM r K n c k φ → ¬ lkF c (-1) φ 0 < 0) → ∀ x : Int32, x = nI (n + 1) → J 2 [some (.ref 27), some (.int x)] [] (cW s (rW r tl), b0, b1, op) := by
        rintro hk2 x rfl
        refine ih (n + 1) (by omega) (fun i c k φ hi hN => ?_)
        by_cases ei : i = n
        · subst ei
          exact hk2 c k φ hN
        · exact hk i c k φ (by omega) hN
      refine hJ _ _ _ _ ?_
      refine And.intro (fun (g : r.parts ≤ nI n) => absurd g (by rw [hp]; exact nI_ge (by omega) (by omega))) (fun _ => ?_)
      refine And.intro hin ?_
      rw [ekn]
      refine And.intro (fun (g : ¬ r.kind n = 1) => ?_) (fun (g : r.kind n = 1) => ?_)
      · exact nxt (fun c k φ hN => absurd hN.1 g) _ (nI_succ n).symm
      · obtain ⟨⟨a, ha, ea⟩, c, k, φ, hN⟩ := hcov n (by omega) g
        by_cases hbad : ∃ c k φ, NM r K n c k φ ∧ lkF c (-1) φ 0 < 0
        · obtain ⟨c, k, φ, hN, hb⟩ := hbad
          refine R_resolved (by omega) hN.2.1 hN.2.2.1 hN.2.2.2.1 ?_
          refine And.intro (fun (w : 0 ≤ lkF c (-1) φ 0) => absurd hb (Int32.not_lt.mpr w)) (fun _ => ?_)
          refine And.intro hin ?_
          rw [ekn, ea]
          exact h2 a n c k φ ha ea (by omega) hN hb hk
        · have hgood : ∀ c k φ, NM r K n c k φ → ¬ lkF c (-1) φ 0 < 0 := fun c k φ q1 q2 => hbad ⟨c, k, φ, q1, q2⟩
          refine R_resolved (by omega) hN.2.1 hN.2.2.1 hN.2.2.2.1 ?_
          refine And.intro (fun _ => ?_) (fun (w : ¬ 0 ≤ lkF c (-1) φ 0) => absurd (Int32.not_lt.mp (hgood c k φ hN)) w)
          exact nxt hgood _ (nI_succ n).symm
  refine hJ _ _ _ _ ?_
  exact loop e 0 (by omega) (fun i c k φ hi => absurd hi (Nat.not_lt_zero i))
end ZH2
theorem uP_inj {a b : Nat} (ha : a ≤ 96) (hb : b ≤ 96) (h : uP a = uP b) : a = b := by
  have := congrArg (fun y => y + 128) h
  have this : uP a + 128 = uP b + 128 := this
  rw [uP_128, uP_128] at this
  exact nIj (by omega) (by omega) this
theorem uMf_min {a : Nat} (ha : a ≤ 96) : ∀ (T : TL) (u : Int32), (u = -1 ∨ ∃ b, b ≤ 96 ∧ u = nI b ∧ a ≤ b) → (∀ x ∈ T, x.1 = 6 → x.2 < 0 → ∃ b, b ≤ 96 ∧ x.2 = uP b ∧ a ≤ b) → ((∃ x ∈ T, x.1 = 6 ∧ x.2 = uP a) ∨ u = nI a) → uMf T u = nI a
  | [], u, _, _, h3 => by
    rcases h3 with ⟨x, hx, -⟩ | h3
    · cases hx
    · exact h3
  | x :: T, u, h1, h2, h3 => by
    show uMf T (uM1 x u) = nI a
    have h2' : ∀ y ∈ T, y.1 = 6 → y.2 < 0 → ∃ b, b ≤ 96 ∧ y.2 = uP b ∧ a ≤ b := fun y hy => h2 y (List.mem_cons_of_mem _ hy)
    by_cases hx : x.1 = 6 ∧ x.2 < 0
    · obtain ⟨b, hb, eb, hab⟩ := h2 x List.mem_cons_self hx.1 hx.2
      have e1 : uM1 x u = if u = -1 ∨ nI b < u then nI b else u := by
        unfold uM1
        rw [if_pos hx, eb, uP_128]
      rw [e1]
      by_cases hc : u = -1 ∨ nI b < u
      · rw [if_pos hc]
        refine uMf_min ha T (nI b) (Or.inr ⟨b, hb, rfl, hab⟩) h2' ?_
        rcases h3 with ⟨y, hy, y1, y2⟩ | h3
        · rcases List.mem_cons.mp hy with w | w
          · rw [w, eb] at y2
            exact Or.inr (by rw [uP_inj hb ha y2])
          · exact Or.inl ⟨y, w, y1, y2⟩
        · exfalso
          rw [h3] at hc
          rcases hc with hc | hc
          · exact nI_nn (n := a) (by omega) hc
          · have := (nI_ltI (a := b) (b := a) (by omega) (by omega)).mp hc
            omega
      · rw [if_neg hc]
        refine uMf_min ha T u h1 h2' ?_
        rcases h3 with ⟨y, hy, y1, y2⟩ | h3
        · rcases List.mem_cons.mp hy with w | w
          · rw [w, eb] at y2
            have ebb := uP_inj hb ha y2
            subst ebb
            rcases h1 with h1 | ⟨b2, hb2, e2, hab2⟩
            · exact absurd (Or.inl h1) hc
            · refine Or.inr ?_
              rw [e2] at hc ⊢
              have : ¬ b < b2 := fun q => hc (Or.inr ((nI_ltI (by omega) (by omega)).mpr q))
              rw [show b2 = b by omega]
          · exact Or.inl ⟨y, w, y1, y2⟩
        · exact Or.inr h3
    · have e1 : uM1 x u = u := if_neg hx
      rw [e1]
      refine uMf_min ha T u h1 h2' ?_
      rcases h3 with ⟨y, hy, y1, y2⟩ | h3
      · rcases List.mem_cons.mp hy with w | w
        · rw [w] at y1 y2
          exact absurd ⟨y1, by rw [y2]; exact uP_neg ha⟩ hx
        · exact Or.inl ⟨y, w, y1, y2⟩
      · exact Or.inr h3
theorem kr_er {r r' : rM} (h : kr r r') : r'.error = r.error := congrArg (fun q => q.1.2.2.2.2) (show krT r' = krT r from h)
theorem kr_pg {r r' : rM} (h : kr r r') : r'.program = r.program := congrArg (fun q => q.2.2.1.2.2.1) (show krT r' = krT r from h)
section ZHP
variable {cst : Nat → Option (Nat × (Nat → Int32))} {m b0 b1 : Nat} {op : Bool} {tl : List mj_O} {Q : mj_R → Prop} {s : cS} {r : rM} {len : Nat} {tx : Nat → Nat}
set_option maxRecDepth 10000
set_option maxHeartbeats 4000000 in
theorem RR_compile (hx : txOK r.text len tx) (ht : r.typed = nI len) (hI : RMI r) (hQ : ∀ i N y r', GOut tx len r.z i N → r'.error = (if i = 1 then GPos tx len else -1) → r'.thrown = nI i → (i = 0 → y = nI N ∧ ¬ r'.program = 0) → (¬ i = 0 → r'.program = r.program) → RMI r' → r'.z = r.z → r'.typed = nI 0 → Q (.inl (some (.int y)), (cW s (rW r' tl), b0, b1, op))) : mj_Mt gT cst gnw (m + 7) y_R_compile [.ref 27] (cW s (rW r tl), b0, b1, op) Q := by
  have h96 := hx.1
  intro J hJ
  have err : ∀ (r1 : rM) (e : Int32), kr r r1 → GOut tx len r.z 1 0 → e = GPos tx len → Q (.inl (some (.int 0)), (cW s (rW (erR r1 e 1) tl), b0, b1, op)) := fun r1 e k1 hG he => hQ 1 0 0 (erR r1 e 1) hG he rfl (fun q => absurd q (by decide)) (fun _ => show r1.program = r.program from kr_pg k1) (show RMI r1 from RMI_kr k1 hI) (show r1.z = r.z from kr_z k1) rfl
  refine hJ _ _ _ _ ?_
  refine R_read hx ht (fun t e r1 g1 k1 hp he hpa hc hPO => ?_) (fun t a' r1 g1 ne ha k1 => ?_) (fun a' r1 d' g1 ha k1 => ?_)
  rotate_left
  · refine And.intro (fun _ => ?_) (fun g => absurd rfl g)
    refine And.intro (fun (g : nI a' < 0) => absurd g (nI_pos (by omega))) (fun _ => ?_)
    refine And.intro (fun _ => ?_) (fun (g : (1 : Int32) = 0) => absurd g (by decide))
    refine And.intro (fun (g : (1 : Int32) ≤ 0) => absurd g (by decide)) (fun _ => ?_)
    exact err (pdR r1 a' 0) (nI a') k1 (Or.inl ⟨rfl, fun τ h => by rw [g1] at h; cases h; exact absurd rfl ne⟩) (GPos_n g1 ne).symm
  · refine And.intro (fun _ => ?_) (fun g => absurd rfl g)
    refine And.intro (fun (g : nI a' < 0) => absurd g (nI_pos (by omega))) (fun _ => ?_)
    refine And.intro (fun _ => ?_) (fun (g : (1 : Int32) = 0) => absurd g (by decide))
    refine And.intro (fun (g : (1 : Int32) ≤ 0) => absurd g (by decide)) (fun _ => ?_)
    exact err (pdR r1 a' d') (nI a') k1 (Or.inl ⟨rfl, fun τ h => by rw [g1] at h; cases h⟩) (GPos_r g1).symm
  · have hc1 : cR tx (pdR r1 len 0) 10 0 e t := cR_same rfl hc
    have hcov := cR_cov (K := 20) 10 0 e t 0 [] hc1 (by omega) ⟨hpa, rfl⟩ (by decide)
    refine And.intro (fun (g : (1 : Int32) = 0) => absurd g (by decide)) (fun _ => ?_)
    refine R_firstUnk (r := pdR r1 len 0) (K := 20) (e := e) (by omega) hp (fun i hi hk => hcov.1 i (Nat.zero_le _) hi hk) (fun hall => ?_) (fun a i c2 k2 φ2 ha ea w1 w2 w3 hfst => ?_)
    · have hkn : knT (t []) := by
        intro x hx h6
        obtain ⟨i, c2, k2, φ2, w1, w2, w3, w4⟩ := hcov.2 x hx h6
        rw [w4]
        obtain ⟨X, hX, eX⟩ := lkF_bd (u := uP (pn (pdR r1 len 0).at_ i)) k2 i φ2 0 w3.2.2.2.1 (hall i c2 k2 φ2 w2 w3) (by have := w3.2.2.2.2; omega)
        rw [eX]
        exact nI_pos (by omega)
      refine And.intro (fun _ => ?_) (fun (g : ¬ (-1 : Int32) < 0) => absurd (by decide) g)
      refine And.intro (fun (g : ¬ (0 : Int32) = 0) => absurd rfl g) (fun _ => ?_)
      have hkt := kr_text k1
      have hx1 : txOK r1.text len tx := by rw [hkt.1]; exact hx
      have ht1 : r1.typed = nI len := by rw [hkt.2]; exact ht
      have hl : (t []).length + 1 ≤ 1200 := by
        have := (gEx_len hx 10 0 0 t len g1).2 []
        omega
      have hI1 : RMI (etR (pdR r1 len 0) (-1) 0) := show RMI r1 from RMI_kr k1 hI
      refine R_writeCode (r := etR (pdR r1 len 0) (-1) 0) (t := t) (e := e) hx1 ht1 (cR_same rfl hc1) (by omega) hpa hl (fun r3 k3 w3 => ?_)
      have hI3 : RMI r3 := RMI_kr (kw_kr k3) hI1
      have hz3 : r3.z = r.z := (kr_z (kw_kr k3)).trans (show r1.z = r.z from kr_z k1)
      obtain ⟨H9, T9, S9, E9, C9, D9, R9, hX9⟩ := RMI_RX hI3
      have hz250 := hX9.1.1.2
      have hz1 := hX9.1.1.1
      have hcl : cnt (low (t []) ++ [(1, 19)]) ≤ 1200 := by
        have := cnt_le (low (t []) ++ [(1, 19)])
        rw [len_s, low_len] at this
        omega
      have ecell := w3.2.2
      have hcnt : cnt (low (t []) ++ [(1, 19)]) = cnt (t []) + 1 := by
        rw [cnt_app, cnt_low]
        rfl
      refine And.intro (fun (g : r3.cells ≤ nI r3.z) => ?_) (fun (g : ¬ r3.cells ≤ nI r3.z) => ?_)
      rotate_left
      · have hbig : r.z < cnt (t []) + 1 := by
          rw [ecell] at g
          rcases Nat.lt_or_ge r3.z (cnt (low (t []) ++ [(1, 19)])) with w | w
          · omega
          · exact absurd (nI_le w (by omega)) g
        refine And.intro (fun (g : (2 : Int32) ≤ 0) => absurd g (by decide)) (fun _ => ?_)
        exact hQ 2 0 0 (tyR r3 2) (Or.inr ⟨t, g1, hkn, Or.inl ⟨rfl, by omega⟩⟩) (show r3.error = -1 from kr_er (kw_kr k3)) rfl (fun q => absurd q (by decide)) (fun _ => show r3.program = r.program from (kr_pg (kw_kr k3)).trans (show r1.program = r.program from kr_pg k1)) hI3 hz3 rfl
      · rw [ecell] at g
        have hcz : cnt (low (t []) ++ [(1, 19)]) ≤ r3.z := (nI_leI (by omega) (by omega)).mp g
        refine And.intro (fun _ => ?_) (fun (g : ¬ (0 : Int32) ≤ 0) => absurd (by decide) g)
        have fin : ∀ (u g : Nat → Int32) (F : Nat), (∀ i, i < 250 → u i = 0) → (∀ i, i < 4 → g i = -1) → mj_sg (mj_Mt gT cst gnw (m + 6)) cst gnw (mj_hd (mj_off kO_R_compile) kH_R_compile) kC_R_compile J Q (F + 60) false 67 [some (.ref 27), some (.int 1), some (.int (nI 4))] [] (cW s (rW (clU (tyR r3 0) u g) tl), b0, b1, op) := by
          intro u g F hu hg
          have hU : Ur (clU (tyR r3 0) u g) = fun _ => False := by
            funext a
            refine propext ⟨fun w => ?_, fun w => absurd w id⟩
            have w1 : a < r3.z := w.1
            exact w.2 (hu a (by omega))
          have hLI : LI (clU (tyR r3 0) u g) (ppR (clU (tyR r3 0) u g) 0) r3.z [] (H9, T9, fun _ => False, vNil, []) (-1) := by
            refine ⟨⟨⟨⟨rfl, rfl, rfl, rfl, rfl⟩, rfl, rfl, rfl, rfl, rfl⟩, rfl, rfl, rfl, rfl, rfl⟩, ⟨⟨hX9.1.1, fun a ha => ?_, hX9.1.2.2⟩, hU, Or.inl ⟨rfl, rfl⟩⟩, ⟨rfl, fun i P hi => ?_⟩, ?_⟩
            · have : Ur (clU (tyR r3 0) u g) a := ha
              rw [hU] at this
              exact absurd this id
            · have hi : ([] : List Vl)[i]? = some P := hi
              rw [List.getElem?_nil] at hi
              cases hi
            · show czN u r3.z 0 0 + 0 = r3.z
              rw [czN_0 u hu r3.z 0 0 (by omega)]
              omega
          have hkd : ∀ x ∈ low (t []) ++ [(1, 19)], (x.1 = 0 ∧ x.2 = 0) ∨ x.1 = 1 ∨ x.1 = 2 ∨ x.1 = 4 ∨ x.1 = 5 := by
            intro x hx
            rcases List.mem_append.mp hx with w | w
            · exact kd_low (cR_kd 10 0 e t hc1 []) x w
            · rw [List.mem_singleton.mp w]
              exact Or.inr (Or.inl rfl)
          have elow : low (t [] ++ [(1, 19)]) = low (t []) ++ [(1, 19)] := by rw [low_app]; rfl
          have hht : htT (low (t []) ++ [(1, 19)]) = some 0 := by
            rw [← elow, ht_low]
            exact cR_ht 10 0 e t hc1 [] [(1, 19)] 0 (HT_1 [] 0 rfl)
          refine R_lay (z := r3.z) (init := (H9, T9, fun _ => False, vNil, [])) (σ := low (t []) ++ [(1, 19)]) ⟨w3.1, w3.2.1, w3.2.2⟩ (by rw [len_s, low_len]; omega) hkd hht hz250 hcz hLI rfl (fun r6 st x hL6 hY => ?_)
          have i54 : vp_in 4 5 := vp_in_nI (show 4 < 5 by decide) (by decide)
          refine And.intro i54 ?_
          obtain ⟨⟨p1, p2, p3, -, -, p6⟩, ⟨q1, q2, q3⟩, -, -⟩ := hL6
          have p6 : r6.cells = r3.cells := p6
          have pth : r6.thrown = 0 := congrArg Prod.snd p1.1.2.2.2.2
          have ginit : GDl (H9, T9, fun _ => False, vNil, []) := ⟨fun a ha => absurd ha id, ⟨nil_inU, Or.inl rfl⟩, fun P hP => by cases hP⟩
          rw [← elow] at hY
          have hkl : ∀ x ∈ t [] ++ [((1 : Int32), (19 : Int32))], x.1 = 6 → ¬ x.2 < 0 := by
            intro x hx
            rcases List.mem_append.mp hx with w | w
            · exact hkn x w
            · rw [List.mem_singleton.mp w]
              exact fun q => absurd q (by decide)
          obtain ⟨c, y1, y2⟩ := LY_app _ _ _ _ (LY_low _ _ _ hkl hY)
          obtain ⟨gc, -⟩ := LY_gd _ _ _ ginit y1
          obtain ⟨gst, -⟩ := LY_gd _ _ _ gc y2
          have hok : okTt (t []) := by
            intro x hx h6
            obtain ⟨i, c2, k2, φ2, w1, w2, w3, w4⟩ := hcov.2 x hx h6
            rw [w4]
            exact lkF_bd k2 i φ2 0 w3.2.2.2.1 (hall i c2 k2 φ2 w2 w3) (by have := w3.2.2.2.2; omega)
          have hwt := ((cR_ty 10 0 e t hc1 [] hok) c st gc y2).2 [] 0 eStop (o_19 ginit (LY_one y1)).1
          have hz6 : r6.z = r.z := p1.1.1.trans hz3
          have hm6 : mkOK r6 := kp_mk p1 (show mkOK (clU (tyR r3 0) u g) from hI3.1.1)
          have hs6 : shOK r6 := kp_sh p1 (show shOK (clU (tyR r3 0) u g) from hI3.1.2)
          have h9 : Q (.inl (some (.int r6.cells)), (cW s (rW (fiR r6 (upd r6.reg 4 x)) tl), b0, b1, op)) := by
            refine hQ 0 (cnt (t []) + 1) r6.cells (fiR r6 (upd r6.reg 4 x)) (Or.inr ⟨t, g1, hkn, Or.inr ⟨rfl, by omega, rfl⟩⟩) (show r6.error = -1 from p1.1.2.2.2.1.trans (show r3.error = -1 from kr_er (kw_kr k3))) pth (fun _ => ⟨by rw [p6, ecell, hcnt], by show ¬ (1 : Int32) = 0; decide⟩) (fun q => absurd rfl q) ⟨⟨hm6, hs6⟩, Or.inr ⟨by show ¬ (1 : Int32) = 0; decide, st.2.2.2.1, Or.inl ⟨rfl, st.1, st.2.1, ro0, ⟨q1, ?_, ?_, ?_, ?_, q3⟩, ?_⟩⟩⟩ hz6 ?_
            · exact Or.inl ⟨rfl, by show r6.reg 0 = -1; rw [p3]; exact hg 0 (by decide)⟩
            · exact Or.inl ⟨rfl, by show r6.reg 1 = -1; rw [p3]; exact hg 1 (by decide)⟩
            · exact Or.inl ⟨rfl, by show r6.reg 2 = -1; rw [p3]; exact hg 2 (by decide)⟩
            · exact Or.inl ⟨rfl, by show r6.reg 3 = -1; rw [p3]; exact hg 3 (by decide)⟩
            · have eU : Ur (fiR r6 (upd r6.reg 4 x)) = st.2.2.1 := q2
              rw [eU]
              exact ⟨gst.1, gst.2.1.1, hwt⟩
            · show r6.typed = nI 0
              exact p1.1.2.1
          exact And.intro (Or.inr rfl) h9
        have loop2 : ∀ (j k : Nat) (u g : Nat → Int32), j + k = 4 → (∀ i, i < 250 → u i = 0) → (∀ i, i < k → g i = -1) → J 57 [some (.ref 27), some (.int 1), some (.int (nI k))] [] (cW s (rW (clU (tyR r3 0) u g) tl), b0, b1, op) := by
          intro j
          induction j with
          | zero =>
            intro k u g hk hu hg
            obtain rfl : k = 4 := by omega
            refine hJ _ _ _ _ ?_
            refine And.intro (fun _ => fin u g _ hu hg) (fun (w : ¬ (4 : Int32) ≤ nI 4) => absurd (by decide) w)
          | succ j ih =>
            intro k u g hk hu hg
            refine hJ _ _ _ _ ?_
            refine And.intro (fun (w : (4 : Int32) ≤ nI k) => absurd w (nI_ge (b := 4) (by omega) (by decide))) (fun _ => ?_)
            refine And.intro (vp_in_nI (show k < 5 by omega) (by decide)) ?_
            have key : ∀ (i : Nat) (y : Int32), i = k → y = nI (k + 1) → J 57 [some (.ref 27), some (.int 1), some (.int y)] [] (cW s (rW (clU (tyR r3 0) u (upd g i (-1))) tl), b0, b1, op) := by
              rintro i y rfl rfl
              refine ih (i + 1) u _ (by omega) hu (fun a ha => ?_)
              unfold upd
              split
              · rfl
              · exact hg a (by omega)
            exact key _ _ (nI_clamp (by omega)) (nI_succ k).symm
        have loop1 : ∀ (j k : Nat) (u : Nat → Int32), j + k = 250 → (∀ i, i < k → u i = 0) → J 45 [some (.ref 27), some (.int 1), some (.int (nI k))] [] (cW s (rW (clU (tyR r3 0) u r3.reg) tl), b0, b1, op) := by
          intro j
          induction j with
          | zero =>
            intro k u hk hu
            obtain rfl : k = 250 := by omega
            refine hJ _ _ _ _ ?_
            refine And.intro (fun _ => loop2 4 0 u r3.reg (by omega) hu (fun i hi => absurd hi (Nat.not_lt_zero i))) (fun (w : ¬ (250 : Int32) ≤ nI 250) => absurd (by decide) w)
          | succ j ih =>
            intro k u hk hu
            refine hJ _ _ _ _ ?_
            refine And.intro (fun (w : (250 : Int32) ≤ nI k) => absurd w (nI_ge (b := 250) (by omega) (by decide))) (fun _ => ?_)
            refine And.intro (vp_in_nI (show k < 250 by omega) (by decide)) ?_
            have key : ∀ (i : Nat) (y v : Int32), i = k → y = nI (k + 1) → v = 0 → J 45 [some (.ref 27), some (.int 1), some (.int y)] [] (cW s (rW (clU (tyR r3 0) (upd u i v) r3.reg) tl), b0, b1, op) := by
              rintro i y v rfl rfl rfl
              refine ih (i + 1) _ (by omega) (fun a ha => ?_)
              unfold upd
              split
              · rfl
              · exact hu a (by omega)
            exact key _ _ _ (nI_clamp (by omega)) (nI_succ k).symm (by decide)
        exact loop1 250 0 r3.used (by omega) (fun i hi => absurd hi (Nat.not_lt_zero i))
    · have hPO1 : PO (pdR r1 len 0).kind (pdR r1 len 0).at_ 0 e 0 len := hPO
      have epa : pn (pdR r1 len 0).at_ i = a := by
        unfold pn
        rw [ea]
        exact nI_clamp (by omega)
      obtain ⟨c3, k3, φ3, w4, w5⟩ := cR_cvr (K := 20) 10 0 e t 0 [] hc1 (by omega) ⟨hpa, rfl⟩ (by decide) i (Nat.zero_le _) w1 w2.1
      obtain ⟨rfl, rfl⟩ := NM_u w2 w4
      have unk : ∀ (i' c' k' : Nat) (φ' : Fr), NM (pdR r1 len 0) 20 i' c' k' φ' → ∀ u, (lkF c' (-1) φ' 0 = -1 ∧ lkF c' u φ' 0 = u) ∨ ∃ X, X < 10000 ∧ lkF c' (-1) φ' 0 = nI X ∧ lkF c' u φ' 0 = nI X := fun i' c' k' φ' q u => lkF_ud k' i' φ' 0 q.2.2.2.1 (by have := q.2.2.2.2; omega)
      have hin : ((6 : Int32), uP a) ∈ t [] := by
        rcases unk i c2 k2 φ2 w2 (uP (pn (pdR r1 len 0).at_ i)) with ⟨q1, q2⟩ | ⟨X, hX, q1, q2⟩
        · rw [q2, epa] at w5
          exact w5
        · rw [q1] at w3
          exact absurd w3 (nI_pos (by omega))
      have hbad : ¬ knT (t []) := fun q => q _ hin rfl (uP_neg ha)
      have hpos : nI a = GPos tx len := by
        rw [GPos_u g1]
        refine (uMf_min ha (t []) (-1) (Or.inl rfl) (fun x hx h6 hneg => ?_) (Or.inl ⟨_, hin, rfl, rfl⟩)).symm
        obtain ⟨i', c', k', φ', v1, v2, v3, v4⟩ := hcov.2 x hx h6
        obtain ⟨⟨b, hb, eb⟩, -⟩ := hcov.1 i' v1 v2 v3.1
        have epb : pn (pdR r1 len 0).at_ i' = b := by
          unfold pn
          rw [eb]
          exact nI_clamp (by omega)
        rcases unk i' c' k' φ' v3 (uP (pn (pdR r1 len 0).at_ i')) with ⟨q1, q2⟩ | ⟨X, hX, q1, q2⟩
        · refine ⟨b, hb, by rw [v4, q2, epb], ?_⟩
          have hge : i ≤ i' := Nat.le_of_not_lt (fun q => hfst i' c' k' φ' q v3 (by rw [q1]; decide))
          rcases Nat.lt_or_ge i i' with q | q
          · have := hPO1.2.2 i i' (Nat.zero_le _) q v2 w2.1 v3.1
            omega
          · obtain rfl : i' = i := by omega
            omega
        · rw [v4, q2] at hneg
          exact absurd hneg (nI_pos (by omega))
      refine And.intro (fun (g : nI a < 0) => absurd g (nI_pos (by omega))) (fun _ => ?_)
      refine And.intro (fun _ => ?_) (fun (g : (1 : Int32) = 0) => absurd g (by decide))
      refine And.intro (fun (g : (1 : Int32) ≤ 0) => absurd g (by decide)) (fun _ => ?_)
      exact err (pdR r1 len 0) (nI a) k1 (Or.inl ⟨rfl, fun τ h => by rw [g1] at h; cases h; exact hbad⟩) hpos
end ZHP
end
