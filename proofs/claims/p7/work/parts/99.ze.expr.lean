section
def AL (z d : Nat) (t : tS) (G : GR) : PR → Prop
  | .inr (e, _) => G = .inr e
  | .inl (c, a', t') => ∃ τ, G = .inl (τ, a') ∧ WR t (XP z d τ) c t'
def AE (len z d : Nat) (pe : Nat → tS → PR) (ge : Nat → GR) : Prop := ∀ a t, tOK t → tn t ≤ a → a ≤ len → AL z d t (ge a) (pe a t)
section ZE
variable {tx : Nat → Nat} {X : Nat → Int32} {len z d : Nat}
theorem al_close {t0 t : tS} {n a : Nat} {k v p : Int32} {Ps : List KP} {τ : Tau} (hO : OpQ t0 t n k v p Ps) (h96 : tn t ≤ 96) (hX : ∀ t', NODE k v p Ps t' n → XP z d τ t' n) : AL z d t0 (gCl tx τ a) (pClose tx n a t) := by
  unfold gCl pClose
  by_cases e : tx a = 41
  · rw [if_pos e, if_pos e]
    exact ⟨τ, rfl, opq_done hO h96 hX⟩
  · rw [if_neg e, if_neg e]
    exact rfl
theorem map_snoc {ks : List Kd} {τ : Tau} : (ks.map (fun k : Kd => XP z d k.1)) ++ [XP z d τ] = (ks ++ [((τ, 0) : Kd)]).map (fun k => XP z d k.1) := by
  rw [List.map_append]
  rfl
theorem al_more (hx : txOK X len tx) {pe : Nat → tS → PR} {ge : Nat → GR} (hd : d + 1 ≤ 9) (hg : GE len pe) (hp : AE len z (d + 1) pe ge) {t0 : tS} {n : Nat} {p : Int32} {h0 : Kd} : ∀ (k a : Nat) (t : tS) (ks : List Kd), OpQ t0 t n 11 0 p ((h0 :: ks).map (fun k => XP z (d + 1) k.1)) → tOK t → tn t ≤ a → a ≤ len → AL z d t0 (gMo tx ge h0 k a ks) (pMore tx pe n k a t)
  | 0, a, t, ks, hO, ht, h1, h2 => al_close hO ht.1 (fun t' hN => E_call hd hN)
  | k + 1, a, t, ks, hO, ht, h1, h2 => by
    have h96 := hx.1
    unfold gMo pMore
    by_cases e : tx a = 32
    · have hlt := hx.lt (a := a) (by omega)
      rw [if_pos e, if_pos e]
      have ha := hp (a + 1) t ht (by omega) (by omega)
      have hgd := hg (a + 1) t ht (by omega) (by omega)
      generalize ge (a + 1) = G at ha
      generalize pe (a + 1) t = r at ha hgd
      rcases r with ⟨c, a2, t2⟩ | ⟨e, t2⟩
      · obtain ⟨τ, rfl, q2⟩ := ha
        obtain ⟨g0, g1, g2, g3, g4⟩ := hgd
        have hO2 := opq_part hO q2
        rw [map_snoc] at hO2
        have hn := hO.2.1
        exact al_more hx hd hg hp k a2 (tPart t2 n c) (ks ++ [(τ, 0)]) hO2 (tOK_part g1 (by omega)) (by rw [tn_part]; exact g3) g4
      · have ha : G = .inr e := ha
        subst ha
        exact rfl
    · rw [if_neg e, if_neg e]
      exact al_close hO ht.1 (fun t' hN => E_call hd hN)
theorem al_args (hx : txOK X len tx) {pe : Nat → tS → PR} {ge : Nat → GR} (hd : d + 1 ≤ 9) (hg : GE len pe) (hp : AE len z (d + 1) pe ge) {t0 : tS} {n c0 o : Nat} {p : Int32} (ho : opO c0 = some o) : ∀ (k a : Nat) (t : tS) (ks : List Kd), ks.length + k = ar c0 → OpQ t0 t n 5 (nI o) p (ks.map (fun k => XP z (d + 1) k.1)) → tOK t → tn t ≤ a → a ≤ len → AL z d t0 (gAr tx ge c0 k a ks) (pArgs tx pe n k a t)
  | 0, a, t, ks, hk, hO, ht, h1, h2 => al_close hO ht.1 (fun t' hN => E_op hd ho hk hN)
  | k + 1, a, t, ks, hk, hO, ht, h1, h2 => by
    have h96 := hx.1
    unfold gAr pArgs
    by_cases e : tx a = 32
    · have hlt := hx.lt (a := a) (by omega)
      rw [if_pos e, if_pos e]
      have ha := hp (a + 1) t ht (by omega) (by omega)
      have hgd := hg (a + 1) t ht (by omega) (by omega)
      generalize ge (a + 1) = G at ha
      generalize pe (a + 1) t = r at ha hgd
      rcases r with ⟨c, a2, t2⟩ | ⟨e, t2⟩
      · obtain ⟨τ, rfl, q2⟩ := ha
        obtain ⟨g0, g1, g2, g3, g4⟩ := hgd
        have hO2 := opq_part hO q2
        rw [map_snoc] at hO2
        have hn := hO.2.1
        exact al_args hx hd hg hp ho k a2 (tPart t2 n c) (ks ++ [(τ, 0)]) (by rw [List.length_append]; show ks.length + 1 + k = ar c0; omega) hO2 (tOK_part g1 (by omega)) (by rw [tn_part]; exact g3) g4
      · have ha : G = .inr e := ha
        subst ha
        exact rfl
    · rw [if_neg e, if_neg e]
      exact rfl
theorem al_op (hx : txOK X len tx) {pe : Nat → tS → PR} {ge : Nat → GR} (hd : d + 1 ≤ 9) (hg : GE len pe) (hp : AE len z (d + 1) pe ge) {o a : Nat} {t : tS} (ho : opO (tx a) = some o) (ht : tOK t) (h1 : tn t + 1 ≤ a) (h2 : a < len) : AL z d t (gSg tx ge a) (pOp tx pe o a t) := by
  have h96 := hx.1
  have hpos : 0 < ar (tx a) := ar_op.mpr ⟨o, ho⟩
  have e : gSg tx ge a = gAr tx ge (tx a) (ar (tx a)) (a + 1) [] := by
    obtain ⟨j, hj⟩ : ∃ j, ar (tx a) = j + 1 := ⟨ar (tx a) - 1, by omega⟩
    unfold gSg
    rw [hj]
    rfl
  rw [e]
  unfold pOp
  rw [opN_ar ho]
  exact al_args hx hd hg hp ho _ _ _ [] (by simp) opq_new (tOK_add ht (by omega)) (by rw [tn_add]; omega) (by omega)
theorem al_call (hx : txOK X len tx) {pe : Nat → tS → PR} {ge : Nat → GR} (hd : d + 1 ≤ 9) (hg : GE len pe) (hp : AE len z (d + 1) pe ge) {a : Nat} {t : tS} (ht : tOK t) (h1 : tn t + 1 ≤ a) (h2 : a ≤ len) : AL z d t (gCa tx ge a) (pCall tx pe a t) := by
  have h96 := hx.1
  have ht1 : tOK (tAdd t 11 0 (nI a)) := tOK_add ht (by omega)
  have ha := hp a _ ht1 (by rw [tn_add]; omega) h2
  have hgd := hg a _ ht1 (by rw [tn_add]; omega) h2
  unfold gCa pCall
  generalize ge a = G at ha
  generalize pe a (tAdd t 11 0 (nI a)) = r at ha hgd
  rcases r with ⟨c, a2, t2⟩ | ⟨e, t2⟩
  · obtain ⟨τ, rfl, q2⟩ := ha
    rw [tn_add] at hgd
    obtain ⟨g0, g1, g2, g3, g4⟩ := hgd
    have hO2 : OpQ t (tPart t2 (tn t) c) (tn t) 11 0 (nI a) ((((τ, 0) : Kd) :: []).map (fun k => XP z (d + 1) k.1)) := opq_part opq_new q2
    exact al_more hx hd hg hp 3 a2 (tPart t2 (tn t) c) [] hO2 (tOK_part g1 (by omega)) (by rw [tn_part]; exact g3) g4
  · have ha : G = .inr e := ha
    subst ha
    exact rfl
theorem plc_none {c : Nat} : ∀ (ls : List Nat) (i : Nat), plc c ls i = none ↔ ¬ c ∈ ls
  | [], i => by simp [plc]
  | y :: ls, i => by
    have e : plc c (y :: ls) i = if y = c then some i else plc c ls (i + 1) := rfl
    rw [e]
    by_cases h : y = c
    · rw [if_pos h, h]
      simp
    · rw [if_neg h, plc_none ls (i + 1), List.mem_cons]
      exact ⟨fun q w => w.elim (fun w => h w.symm) q, fun q w => q (Or.inr w)⟩
theorem let_cur {t0 t : tS} {n c : Nat} {p : Int32} {ls : List Nat} (hO : OpQ t0 t n 7 0 p (ls.map LtP)) (h96 : tn t ≤ 96) (hc : c < 256) (hl : ls.length ≤ 3) (hls : ∀ y ∈ ls, y < 256) : (tPl t (nI c) 96 (tEn t (tF t) (some n)) = none ↔ ¬ c ∈ ls) := by
  obtain ⟨h1, -, -, cs, c1, c2⟩ := opq_cur hO h96
  rw [tEn_in h1, tPl_plc hc ls (tF t n) 96 (LTR_LtP c1 c2) hls (by omega)]
  exact plc_none ls 0
def AP (t0 : tS) (G : (List Nat × Nat) ⊕ Nat) (tx : Nat → Nat) : PR → Prop
  | .inr (e, _) => G = .inr e
  | .inl (c, a', t') => ∃ ls, G = (if tx a' = 32 then .inl (ls, a' + 1) else .inr a') ∧ ls.length ≤ 3 ∧ (∀ y ∈ ls, y < 256) ∧ WR t0 (PP ls) c t'
theorem PP_of {t : tS} {n : Nat} {p : Int32} {ls : List Nat} (h : NODE 7 0 p (ls.map LtP) t n) : PP ls t n := by
  obtain ⟨h1, -, -, cs, c1, c2⟩ := h
  exact ⟨h1, LTR_LtP c1 c2⟩
theorem al_ls (hx : txOK X len tx) {t0 : tS} {n : Nat} {p : Int32} : ∀ (k a : Nat) (t : tS) (ls : List Nat), ls.length + k = 2 → OpQ t0 t n 7 0 p (ls.map LtP) → (∀ y ∈ ls, y < 256) → tOK t → tn t ≤ a → a ≤ len → AP t0 (gLs tx (k + 1) a ls) tx (match pLet tx n a t with
    | .inr e => .inr e
    | .inl (a2, t2) => pLs tx n k a2 t2) := by
  intro k
  induction k with
  | zero =>
    intro a t ls hk hO hls ht h1 h2
    have h96 := hx.1
    have h256 := hx.le a
    have hcur := let_cur hO ht.1 (c := tx a) (by omega) (by omega) hls
    have e1 : gLs tx (0 + 1) a ls = if cL (tx a) = true ∧ ¬ tx a ∈ ls then (if tx (a + 1) = 32 ∧ ¬ 0 = 0 then gLs tx 0 (a + 1 + 1) (ls ++ [tx a]) else (if tx (a + 1) = 41 then (if tx (a + 1 + 1) = 32 then .inl (ls ++ [tx a], a + 1 + 1 + 1) else .inr (a + 1 + 1)) else .inr (a + 1))) else .inr a := rfl
    rw [e1]
    unfold pLet
    by_cases h : cL (tx a) = true ∧ ¬ tx a ∈ ls
    · have hlt := hx.lt (cL_ne h.1)
      have hc2 : cL (tx a) = true ∧ tPl t (nI (tx a)) 96 (tEn t (tF t) (some n)) = none := ⟨h.1, hcur.mpr h.2⟩
      have hc3 : ¬ (tx (a + 1) = 32 ∧ ¬ 0 = 0) := fun q => q.2 rfl
      rw [if_pos h, if_pos hc2, if_neg hc3]
      have hw : WR t (LtP (tx a)) (tn t) (tAdd t 2 (nI (tx a)) (nI a)) := opq_done opq_new (by rw [tn_add]; omega) (fun t' hN => hN.2.1.2.1)
      have hO2 := opq_part hO hw
      rw [show ls.map LtP ++ [LtP (tx a)] = (ls ++ [tx a]).map LtP by rw [List.map_append]; rfl] at hO2
      show AP t0 _ tx (pClose tx n (a + 1) (tPart (tAdd t 2 (nI (tx a)) (nI a)) n (tn t)))
      unfold pClose
      by_cases e41 : tx (a + 1) = 41
      · rw [if_pos e41, if_pos e41]
        refine ⟨ls ++ [tx a], rfl, by rw [List.length_append]; show ls.length + 1 ≤ 3; omega, fun y hy => ?_, opq_done hO2 (by rw [tn_part, tn_add]; omega) (fun t' hN => PP_of hN)⟩
        rcases List.mem_append.mp hy with w | w
        · exact hls y w
        · rw [List.mem_singleton.mp w]
          omega
      · rw [if_neg e41, if_neg e41]
        exact rfl
    · have hc2 : ¬ (cL (tx a) = true ∧ tPl t (nI (tx a)) 96 (tEn t (tF t) (some n)) = none) := fun q => h ⟨q.1, hcur.mp q.2⟩
      rw [if_neg h, if_neg hc2]
      exact rfl
  | succ k ih =>
    intro a t ls hk hO hls ht h1 h2
    have h96 := hx.1
    have h256 := hx.le a
    have hcur := let_cur hO ht.1 (c := tx a) (by omega) (by omega) hls
    have e1 : gLs tx (k + 1 + 1) a ls = if cL (tx a) = true ∧ ¬ tx a ∈ ls then (if tx (a + 1) = 32 ∧ ¬ k + 1 = 0 then gLs tx (k + 1) (a + 1 + 1) (ls ++ [tx a]) else (if tx (a + 1) = 41 then (if tx (a + 1 + 1) = 32 then .inl (ls ++ [tx a], a + 1 + 1 + 1) else .inr (a + 1 + 1)) else .inr (a + 1))) else .inr a := rfl
    rw [e1]
    unfold pLet
    by_cases h : cL (tx a) = true ∧ ¬ tx a ∈ ls
    · have hlt := hx.lt (cL_ne h.1)
      have hc2 : cL (tx a) = true ∧ tPl t (nI (tx a)) 96 (tEn t (tF t) (some n)) = none := ⟨h.1, hcur.mpr h.2⟩
      rw [if_pos h, if_pos hc2]
      have hw : WR t (LtP (tx a)) (tn t) (tAdd t 2 (nI (tx a)) (nI a)) := opq_done opq_new (by rw [tn_add]; omega) (fun t' hN => hN.2.1.2.1)
      have hO2 := opq_part hO hw
      rw [show ls.map LtP ++ [LtP (tx a)] = (ls ++ [tx a]).map LtP by rw [List.map_append]; rfl] at hO2
      have hn := hO.2.1
      have ht2 : tOK (tPart (tAdd t 2 (nI (tx a)) (nI a)) n (tn t)) := tOK_part (tOK_add ht (by omega) (fun _ => ⟨_, by omega, rfl⟩)) (by omega)
      have hls2 : ∀ y ∈ ls ++ [tx a], y < 256 := fun y hy => by
        rcases List.mem_append.mp hy with w | w
        · exact hls y w
        · rw [List.mem_singleton.mp w]
          omega
      show AP t0 _ tx (pLs tx n (k + 1) (a + 1) (tPart (tAdd t 2 (nI (tx a)) (nI a)) n (tn t)))
      unfold pLs
      by_cases e32 : tx (a + 1) = 32
      · have hlt2 := hx.lt (a := a + 1) (by omega)
        have hc3 : tx (a + 1) = 32 ∧ ¬ k + 1 = 0 := ⟨e32, Nat.succ_ne_zero k⟩
        rw [if_pos hc3, if_pos e32]
        exact ih (a + 1 + 1) _ (ls ++ [tx a]) (by rw [List.length_append]; show ls.length + 1 + k = 2; omega) hO2 hls2 ht2 (by rw [tn_part, tn_add]; omega) (by omega)
      · have hc3 : ¬ (tx (a + 1) = 32 ∧ ¬ k + 1 = 0) := fun q => e32 q.1
        rw [if_neg hc3, if_neg e32]
        unfold pClose
        by_cases e41 : tx (a + 1) = 41
        · rw [if_pos e41, if_pos e41]
          exact ⟨ls ++ [tx a], rfl, by rw [List.length_append]; show ls.length + 1 ≤ 3; omega, hls2, opq_done hO2 ht2.1 (fun t' hN => PP_of hN)⟩
        · rw [if_neg e41, if_neg e41]
          exact rfl
    · have hc2 : ¬ (cL (tx a) = true ∧ tPl t (nI (tx a)) 96 (tEn t (tF t) (some n)) = none) := fun q => h ⟨q.1, hcur.mp q.2⟩
      rw [if_neg h, if_neg hc2]
      exact rfl
theorem al_par (hx : txOK X len tx) {a : Nat} {t : tS} (e32 : tx a = 32) (ht : tOK t) (h1 : tn t + 1 ≤ a + 1) (h2 : a + 1 ≤ len) : AP t (gPa tx d a) tx (pPar tx d (a + 1) t) := by
  have h96 := hx.1
  have ha := hx.lt (a := a) (by omega)
  by_cases e40 : tx (a + 1) = 40 ∧ d < 9
  · have hlt := hx.lt (a := a + 1) (by omega)
    have e40' : d < 9 ∧ tx (a + 1) = 40 := ⟨e40.2, e40.1⟩
    have ht1 : tOK (tAdd t 7 0 (nI (a + 1))) := tOK_add ht (by omega)
    have hO : OpQ t (tAdd t 7 0 (nI (a + 1))) (tn t) 7 0 (nI (a + 1)) (([] : List Nat).map LtP) := opq_new
    have eG : gPa tx d a = if cL (tx (a + 1 + 1)) then gLs tx 3 (a + 1 + 1) [] else (if tx (a + 1 + 1) = 41 then (if tx (a + 1 + 1 + 1) = 32 then .inl ([], a + 1 + 1 + 1 + 1) else .inr (a + 1 + 1 + 1)) else .inr (a + 1 + 1)) := by
      unfold gPa
      rw [if_pos e32, if_pos e40]
    have eP : pPar tx d (a + 1) t = if tx (a + 1 + 1) = 41 then .inl (tn t, a + 1 + 1 + 1, tAdd t 7 0 (nI (a + 1))) else match pLet tx (tn t) (a + 1 + 1) (tAdd t 7 0 (nI (a + 1))) with | .inr e => .inr e | .inl (a2, t2) => pLs tx (tn t) 2 a2 t2 := if_pos e40'
    rw [eG, eP]
    by_cases e41 : tx (a + 1 + 1) = 41
    · have nL : ¬ cL (tx (a + 1 + 1)) = true := by rw [e41]; decide
      rw [if_neg nL, if_pos e41, if_pos e41]
      exact ⟨[], rfl, by decide, fun y hy => (by cases hy), opq_done hO ht1.1 (fun t' hN => PP_of hN)⟩
    · by_cases eL : cL (tx (a + 1 + 1)) = true
      · rw [if_pos eL, if_neg e41]
        exact al_ls hx 2 (a + 1 + 1) _ [] rfl hO (fun y hy => by cases hy) ht1 (by rw [tn_add]; omega) (by omega)
      · rw [if_neg eL, if_neg e41, if_neg e41]
        unfold pLet
        have nL : ¬ (cL (tx (a + 1 + 1)) = true ∧ tPl (tAdd t 7 0 (nI (a + 1))) (nI (tx (a + 1 + 1))) 96 (tEn (tAdd t 7 0 (nI (a + 1))) (tF (tAdd t 7 0 (nI (a + 1)))) (some (tn t))) = none) := fun q => eL q.1
        rw [if_neg nL]
        exact rfl
  · have n40 : ¬ (d < 9 ∧ tx (a + 1) = 40) := fun q => e40 ⟨q.2, q.1⟩
    unfold gPa pPar
    rw [if_pos e32, if_neg e40, if_neg n40]
    exact rfl
theorem al_fun (hx : txOK X len tx) {pe : Nat → tS → PR} {ge : Nat → GR} (hd : d + 1 ≤ 9) (hg : GE len pe) (hp : AE len z (d + 1) pe ge) {a : Nat} {t : tS} (e92 : tx a = 92) (ht : tOK t) (h1 : tn t + 1 ≤ a) (h2 : a ≤ len) : AL z d t (gBo tx ge (d + 1) a) (pFun tx pe (d + 1) a t) := by
  have h96 := hx.1
  have hlt := hx.lt (a := a) (by omega)
  have ht1 : tOK (tAdd t 6 0 (nI a)) := tOK_add ht (by omega)
  unfold gBo pFun
  rw [if_pos e92]
  by_cases e32 : tx (a + 1) = 32
  · have hlt2 := hx.lt (a := a + 1) (by omega)
    rw [if_pos e32]
    have ha := al_par (d := d + 1) hx e32 ht1 (by rw [tn_add]; omega) (by omega)
    have hgd := g_par hx (d := d + 1) (a := a + 1 + 1) ht1 (by rw [tn_add]; omega) (by omega)
    rw [tn_add] at hgd
    generalize gPa tx (d + 1) (a + 1) = G at ha
    generalize pPar tx (d + 1) (a + 1 + 1) (tAdd t 6 0 (nI a)) = r at ha hgd
    rcases r with ⟨c, a2, t2⟩ | ⟨e, t2⟩
    · obtain ⟨ls, rfl, l3, l4, q2⟩ := ha
      obtain ⟨g0, g1, g2, g3, g4⟩ := hgd
      have hO1 : OpQ t (tPart t2 (tn t) c) (tn t) 6 0 (nI a) [PP ls] := opq_part opq_new q2
      have ht2 : tOK (tPart t2 (tn t) c) := tOK_part g1 (by omega)
      show AL z d t _ (if tx a2 = 32 then (match pe (a2 + 1) (tPart t2 (tn t) c) with | .inr e => .inr e | .inl (c, a4, t4) => pClose tx (tn t) a4 (tPart t4 (tn t) c)) else .inr (a2, tPart t2 (tn t) c))
      by_cases e3 : tx a2 = 32
      · have hlt3 := hx.lt (a := a2) (by omega)
        rw [if_pos e3, if_pos e3]
        have hb := hp (a2 + 1) _ ht2 (by rw [tn_part]; omega) (by omega)
        have hgd2 := hg (a2 + 1) _ ht2 (by rw [tn_part]; omega) (by omega)
        show AL z d t (match ge (a2 + 1) with | .inr e => .inr e | .inl (t, a3) => gCl tx (boT (t, 0) ls) a3) _
        generalize ge (a2 + 1) = G at hb
        generalize pe (a2 + 1) (tPart t2 (tn t) c) = r at hb hgd2
        rcases r with ⟨c3, a3, t3⟩ | ⟨e, t3⟩
        · obtain ⟨τ, rfl, q3⟩ := hb
          rw [tn_part] at hgd2
          obtain ⟨i0, i1, i2, i3, i4⟩ := hgd2
          exact al_close (opq_part hO1 q3) (tOK_part i1 (by omega)).1 (fun t' hN => E_fun hd l3 l4 hN)
        · have hb : G = .inr e := hb
          subst hb
          exact rfl
      · rw [if_neg e3, if_neg e3]
        exact rfl
    · have ha : G = .inr e := ha
      subst ha
      exact rfl
  · rw [if_neg e32]
    have : gPa tx (d + 1) (a + 1) = .inr (a + 1) := if_neg e32
    rw [this]
    exact rfl
end ZE
end
section
section ZF
variable {tx : Nat → Nat} {X : Nat → Int32} {len z d : Nat}
theorem BP_of {D c : Nat} {p : Int32} {τ : Tau} {t : tS} {n : Nat} (h : NODE 10 (nI c) p [XP z D τ] t n) : BP z D c τ t n := by
  obtain ⟨h1, ⟨-, h2, -⟩, -, cs, c1, c2⟩ := h
  refine ⟨h1, h2, ?_⟩
  cases cs with
  | nil => exact absurd c2 id
  | cons j cs => exact ⟨j, c1.1, c2.1.2⟩
def AB (t0 : tS) (n z D len : Nat) (kd p : Int32) (h0 : Kd) (ks : List Kd) (ls : List Nat) (x : Nat) (G : (Tau → Nat → GR) → GR) (w : Nat) : PU → Prop
  | .inr (e, _) => ∀ ct, G ct = .inr e
  | .inl (a', t') => ∃ τ, (∀ ct, G ct = ct τ a') ∧ OpQ t0 t' n kd 0 p (XP z w h0.1 :: BPs z D (ks ++ [(τ, nI x)]) (ls ++ [x])) ∧ tOK t' ∧ tn t' ≤ a' ∧ a' ≤ len ∧ x < 256
theorem al_bind (hx : txOK X len tx) {pe pf : Nat → tS → PR} {ge : Nat → GR} {rc : Bool} (hd : d + 1 ≤ 9) (hg : GE len pe) (hgf : ∀ a t, tOK t → tn t + 1 ≤ a → a ≤ len → gd len (tn t) (pf a t)) (hp : d + 1 < 9 → AE len z (d + 2) pe ge) (hfN : ∀ a t, ¬ tx a = 92 → ∃ t', pf a t = .inr (a, t')) (hfR : ∀ a t, tx a = 40 → tx (a + 1) = 92 → d + 2 < 9 → tOK t → tn t + 1 ≤ a + 1 → a + 1 ≤ len → AL z (d + 2) t (ge a) (pf (a + 1) t))
    {t0 t : tS} {n a : Nat} {p : Int32} {h0 : Kd} {ks : List Kd} {ls : List Nat} (hO : OpQ t0 t n (if rc = true then 9 else 8) 0 p (XP z (d + 1) h0.1 :: BPs z (d + 2) ks ls)) (hl : ks.length = ls.length) (hk : ls.length ≤ 2) (hls : ∀ y ∈ ls, y < 256) (ht : tOK t) (h1 : tn t ≤ a) (h2 : a ≤ len) :
    AB t0 n z (d + 2) len (if rc = true then 9 else 8) p h0 ks ls (tx (a + 1)) (fun ct => gB1 tx ge rc (d + 1) a ls ct) (d + 1) (pBind tx pe pf (d + 1) n a t) := by
  have h96 := hx.1
  have hcur := opq_cur hO ht.1
  have hn := hO.2.1
  have hltr := (bnd (g := 11) (δ := 0) hl hcur (by omega) (Nat.zero_le _) (by omega)).2.1
  have h256 := hx.le (a + 1)
  have hpl : tPl t (nI (tx (a + 1))) 96 (tPt t 1 (tEn t (tF t) (some n))) = none ↔ ¬ tx (a + 1) ∈ ls := by
    rw [show tPt t 1 (tEn t (tF t) (some n)) = dPt t 1 (some n) from rfl, tPl_plc (by omega) ls _ 96 hltr hls (by omega)]
    exact plc_none ls 0
  have hgb := g_bind hx hg hgf (d := d + 1) (n := n) (a := a) ht h1 h2
  unfold pBind at hgb ⊢
  by_cases e40 : tx a = 40 ∧ d + 1 < 9
  rotate_left
  · have n40 : ¬ (d + 1 < 9 ∧ tx a = 40) := fun q => e40 ⟨q.2, q.1⟩
    rw [if_neg n40]
    intro ct
    show gB1 tx ge rc (d + 1) a ls ct = .inr a
    unfold gB1
    rw [if_neg e40]
  have hlt := hx.lt (a := a) (by omega)
  have c40 : d + 1 < 9 ∧ tx a = 40 := ⟨e40.2, e40.1⟩
  rw [if_pos c40] at hgb ⊢
  by_cases eL : cL (tx (a + 1)) = true ∧ ¬ tx (a + 1) ∈ ls
  rotate_left
  · have nL : ¬ (cL (tx (a + 1)) = true ∧ tPl t (nI (tx (a + 1))) 96 (tPt t 1 (tEn t (tF t) (some n))) = none) := fun q => eL ⟨q.1, hpl.mp q.2⟩
    rw [if_neg nL]
    intro ct
    show gB1 tx ge rc (d + 1) a ls ct = .inr (a + 1)
    unfold gB1
    rw [if_pos e40, if_neg eL]
  have hlt1 := hx.lt (cL_ne eL.1)
  have c41 : cL (tx (a + 1)) = true ∧ tPl t (nI (tx (a + 1))) 96 (tPt t 1 (tEn t (tF t) (some n))) = none := ⟨eL.1, hpl.mpr eL.2⟩
  rw [if_pos c41] at hgb ⊢
  by_cases e32 : tx (a + 1 + 1) = 32
  rotate_left
  · rw [if_neg e32]
    intro ct
    show gB1 tx ge rc (d + 1) a ls ct = .inr (a + 1 + 1)
    unfold gB1
    rw [if_pos e40, if_pos eL, if_neg e32]
  have hlt2 := hx.lt (a := a + 1 + 1) (by omega)
  rw [if_pos e32] at hgb ⊢
  have ht1 : tOK (tAdd t 10 (nI (tx (a + 1))) (nI (a + 1))) := tOK_add ht (by omega)
  have hv : (∃ e t', pBv tx pe pf (d + 1) n (a + 1 + 1 + 1) (tAdd t 10 (nI (tx (a + 1))) (nI (a + 1))) = .inr (e, t') ∧ ∀ ct, gB1 tx ge rc (d + 1) a ls ct = .inr e) ∨ (∃ c a2 t2 τ, pBv tx pe pf (d + 1) n (a + 1 + 1 + 1) (tAdd t 10 (nI (tx (a + 1))) (nI (a + 1))) = .inl (c, a2, t2) ∧ (∀ ct, gB1 tx ge rc (d + 1) a ls ct = if tx a2 = 41 then ct τ (a2 + 1) else .inr a2) ∧ WR (tAdd t 10 (nI (tx (a + 1))) (nI (a + 1))) (XP z (d + 2) τ) c t2) := by
    have ek : tEi (tAdd t 10 (nI (tx (a + 1))) (nI (a + 1))) (tK (tAdd t 10 (nI (tx (a + 1))) (nI (a + 1)))) (some n) = if rc = true then 9 else 8 := by
      have e1 : tEi (tAdd t 10 (nI (tx (a + 1))) (nI (a + 1))) (tK (tAdd t 10 (nI (tx (a + 1))) (nI (a + 1)))) (some n) = upd (tK t) (tn t) 10 n := if_pos (show n < tn t + 1 by omega)
      rw [e1]
      exact (if_neg (by omega)).trans hO.2.2.1.1
    have gb : ∀ ct, gB1 tx ge rc (d + 1) a ls ct = (if rc = true ∧ ¬ (tx (a + 1 + 1 + 1) = 40 ∧ d + 1 + 1 < 9) then .inr (a + 1 + 1 + 1) else if rc = true ∧ ¬ tx (a + 1 + 1 + 1 + 1) = 92 then .inr (a + 1 + 1 + 1 + 1) else match ge (a + 1 + 1 + 1) with | .inr e => .inr e | .inl (t, a3) => if tx a3 = 41 then ct t (a3 + 1) else .inr a3) := by
      intro ct
      unfold gB1
      rw [if_pos e40, if_pos eL, if_pos e32]
      rfl
    have both : ∀ r : PR, AL z (d + 2) (tAdd t 10 (nI (tx (a + 1))) (nI (a + 1))) (ge (a + 1 + 1 + 1)) r → (∀ ct, gB1 tx ge rc (d + 1) a ls ct = match ge (a + 1 + 1 + 1) with | .inr e => .inr e | .inl (t, a3) => if tx a3 = 41 then ct t (a3 + 1) else .inr a3) → (∃ e t', r = .inr (e, t') ∧ ∀ ct, gB1 tx ge rc (d + 1) a ls ct = .inr e) ∨ (∃ c a2 t2 τ, r = .inl (c, a2, t2) ∧ (∀ ct, gB1 tx ge rc (d + 1) a ls ct = if tx a2 = 41 then ct τ (a2 + 1) else .inr a2) ∧ WR (tAdd t 10 (nI (tx (a + 1))) (nI (a + 1))) (XP z (d + 2) τ) c t2) := by
      intro r hr hgr
      rcases r with ⟨c, a2, t2⟩ | ⟨e, t2⟩
      · obtain ⟨τ, q1, q2⟩ := hr
        refine Or.inr ⟨c, a2, t2, τ, rfl, fun ct => ?_, q2⟩
        rw [hgr ct, q1]
      · have hr : ge (a + 1 + 1 + 1) = .inr e := hr
        refine Or.inl ⟨e, t2, rfl, fun ct => ?_⟩
        rw [hgr ct, hr]
    unfold pBv
    rw [ek]
    cases rc with
    | false =>
      rw [if_neg (show ¬ (if false = true then (9 : Int32) else 8) = 9 by decide)]
      refine both _ (hp e40.2 _ _ ht1 (by rw [tn_add]; omega) (by omega)) (fun ct => ?_)
      rw [gb ct, if_neg (fun q => absurd q.1 (by decide)), if_neg (fun q => absurd q.1 (by decide))]
    | true =>
      rw [if_pos (show (if true = true then (9 : Int32) else 8) = 9 by decide)]
      by_cases e4 : tx (a + 1 + 1 + 1) = 40 ∧ d + 1 + 1 < 9
      · have hlt3 := hx.lt (a := a + 1 + 1 + 1) (by omega)
        rw [if_pos ⟨e4.2, e4.1⟩]
        by_cases e92 : tx (a + 1 + 1 + 1 + 1) = 92
        · refine both _ (hfR _ _ e4.1 e92 (by omega) ht1 (by rw [tn_add]; omega) (by omega)) (fun ct => ?_)
          rw [gb ct, if_neg (fun q => q.2 e4), if_neg (fun q => q.2 e92)]
        · obtain ⟨t', et⟩ := hfN (a + 1 + 1 + 1 + 1) (tAdd t 10 (nI (tx (a + 1))) (nI (a + 1))) e92
          refine Or.inl ⟨_, t', et, fun ct => ?_⟩
          rw [gb ct, if_neg (fun q => q.2 e4), if_pos ⟨rfl, e92⟩]
      · rw [if_neg (fun q => e4 ⟨q.2, q.1⟩)]
        refine Or.inl ⟨_, _, rfl, fun ct => ?_⟩
        rw [gb ct, if_pos ⟨rfl, e4⟩]
  rcases hv with ⟨e, t', v1, v2⟩ | ⟨c, a2, t2, τ, v1, v2, v3⟩
  · rw [v1]
    exact v2
  · rw [v1] at hgb ⊢
    have hO1 : OpQ t (tPart t2 (tn t) c) (tn t) 10 (nI (tx (a + 1))) (nI (a + 1)) [XP z (d + 2) τ] := opq_part opq_new v3
    show AB t0 n z (d + 2) len _ p h0 ks ls (tx (a + 1)) _ (d + 1) (if tx a2 = 41 then .inl (a2 + 1, tPart (tPart t2 (tn t) c) n (tn t)) else .inr (a2, tPart t2 (tn t) c))
    have hgb : gu len (tn t) (if tx a2 = 41 then .inl (a2 + 1, tPart (tPart t2 (tn t) c) n (tn t)) else .inr (a2, tPart t2 (tn t) c)) := hgb
    by_cases e41 : tx a2 = 41
    · rw [if_pos e41] at hgb ⊢
      obtain ⟨g1, g2, g3, g4⟩ := hgb
      have h2n : tn (tPart t2 (tn t) c) ≤ 96 := by
        have := g1.1
        rw [tn_part] at this
        exact this
      have hw : WR t (BP z (d + 2) (tx (a + 1)) τ) (tn t) (tPart t2 (tn t) c) := opq_done hO1 h2n (fun t' hN => BP_of hN)
      have hO2 := opq_part hO hw
      rw [List.cons_append, ← BPs_app (k := (τ, nI (tx (a + 1)))) hl] at hO2
      exact ⟨τ, fun ct => by show gB1 tx ge rc (d + 1) a ls ct = _; rw [v2 ct, if_pos e41], hO2, g1, g3, g4, by omega⟩
    · rw [if_neg e41]
      intro ct
      show gB1 tx ge rc (d + 1) a ls ct = _
      rw [v2 ct, if_neg e41]
theorem al_bi (hx : txOK X len tx) {pe pf : Nat → tS → PR} {ge : Nat → GR} {rc : Bool} (hd : d + 1 ≤ 9) (hg : GE len pe) (hgf : ∀ a t, tOK t → tn t + 1 ≤ a → a ≤ len → gd len (tn t) (pf a t)) (hp : d + 1 < 9 → AE len z (d + 2) pe ge) (hfN : ∀ a t, ¬ tx a = 92 → ∃ t', pf a t = .inr (a, t')) (hfR : ∀ a t, tx a = 40 → tx (a + 1) = 92 → d + 2 < 9 → tOK t → tn t + 1 ≤ a + 1 → a + 1 ≤ len → AL z (d + 2) t (ge a) (pf (a + 1) t))
    {t0 : tS} {n : Nat} {p : Int32} {h0 : Kd} : ∀ (k a : Nat) (t : tS) (ks : List Kd) (ls : List Nat), ls.length + k = 2 → OpQ t0 t n (if rc = true then 9 else 8) 0 p (XP z (d + 1) h0.1 :: BPs z (d + 2) ks ls) → ks.length = ls.length → (∀ y ∈ ls, y < 256) → tOK t → tn t ≤ a → a ≤ len →
      AL z d t0 (gBi tx ge rc (d + 1) (fun ks ls => if rc = true then reT h0 ks ls else leT h0 ks ls) k a ks ls) (match pBind tx pe pf (d + 1) n a t with
        | .inr e => .inr e
        | .inl (a2, t2) => pBs tx (pBind tx pe pf (d + 1) n) n k a2 t2) := by
  have done : ∀ (a : Nat) (t : tS) (ks : List Kd) (ls : List Nat), OpQ t0 t n (if rc = true then 9 else 8) 0 p (XP z (d + 1) h0.1 :: BPs z (d + 2) ks ls) → ks.length = ls.length → ls.length ≤ 3 → (∀ y ∈ ls, y < 256) → tOK t → AL z d t0 (gCl tx (if rc = true then reT h0 ks ls else leT h0 ks ls) a) (pClose tx n a t) := by
    intro a t ks ls hO hl h3 hls ht
    refine al_close hO ht.1 (fun t' hN => ?_)
    cases rc with
    | false => exact E_let hd (by omega) hl h3 hls hN
    | true => exact E_rec hd (by omega) hl h3 hls hN
  intro k
  induction k with
  | zero =>
    intro a t ks ls hk hO hl hls ht h1 h2
    have hb := al_bind hx hd hg hgf hp hfN hfR hO hl (by omega) hls ht h1 h2
    unfold gBi
    generalize pBind tx pe pf (d + 1) n a t = r at hb
    rcases r with ⟨a2, t2⟩ | ⟨e, t2⟩
    · obtain ⟨τ, q1, q2, q3, q4, q5, q6⟩ := hb
      have q1 := q1 (fun t a4 => gCl tx (if rc = true then reT h0 (ks ++ [(t, nI (tx (a + 1)))]) (ls ++ [tx (a + 1)]) else leT h0 (ks ++ [(t, nI (tx (a + 1)))]) (ls ++ [tx (a + 1)])) a4)
      have q1 : gB1 tx ge rc (d + 1) a ls (fun t a4 => gCl tx (if rc = true then reT h0 (ks ++ [(t, nI (tx (a + 1)))]) (ls ++ [tx (a + 1)]) else leT h0 (ks ++ [(t, nI (tx (a + 1)))]) (ls ++ [tx (a + 1)])) a4) = gCl tx (if rc = true then reT h0 (ks ++ [(τ, nI (tx (a + 1)))]) (ls ++ [tx (a + 1)]) else leT h0 (ks ++ [(τ, nI (tx (a + 1)))]) (ls ++ [tx (a + 1)])) a2 := q1
      rw [q1]
      refine done a2 t2 _ _ q2 ?_ ?_ ?_ q3
      · rw [List.length_append, List.length_append, hl]
        rfl
      · rw [List.length_append]
        show ls.length + 1 ≤ 3
        omega
      · intro y hy
        rcases List.mem_append.mp hy with w | w
        · exact hls y w
        · rw [List.mem_singleton.mp w]
          exact q6
    · have q1 := hb (fun t a4 => gCl tx (if rc = true then reT h0 (ks ++ [(t, nI (tx (a + 1)))]) (ls ++ [tx (a + 1)]) else leT h0 (ks ++ [(t, nI (tx (a + 1)))]) (ls ++ [tx (a + 1)])) a4)
      exact q1
  | succ k ih =>
    intro a t ks ls hk hO hl hls ht h1 h2
    have hb := al_bind hx hd hg hgf hp hfN hfR hO hl (by omega) hls ht h1 h2
    unfold gBi
    generalize pBind tx pe pf (d + 1) n a t = r at hb
    rcases r with ⟨a2, t2⟩ | ⟨e, t2⟩
    · obtain ⟨τ, q1, q2, q3, q4, q5, q6⟩ := hb
      have q1 := q1 (fun t a4 => if tx a4 = 32 then gBi tx ge rc (d + 1) (fun ks ls => if rc = true then reT h0 ks ls else leT h0 ks ls) k (a4 + 1) (ks ++ [(t, nI (tx (a + 1)))]) (ls ++ [tx (a + 1)]) else gCl tx (if rc = true then reT h0 (ks ++ [(t, nI (tx (a + 1)))]) (ls ++ [tx (a + 1)]) else leT h0 (ks ++ [(t, nI (tx (a + 1)))]) (ls ++ [tx (a + 1)])) a4)
      have q1 : gB1 tx ge rc (d + 1) a ls (fun t a4 => if tx a4 = 32 then gBi tx ge rc (d + 1) (fun ks ls => if rc = true then reT h0 ks ls else leT h0 ks ls) k (a4 + 1) (ks ++ [(t, nI (tx (a + 1)))]) (ls ++ [tx (a + 1)]) else gCl tx (if rc = true then reT h0 (ks ++ [(t, nI (tx (a + 1)))]) (ls ++ [tx (a + 1)]) else leT h0 (ks ++ [(t, nI (tx (a + 1)))]) (ls ++ [tx (a + 1)])) a4) = (if tx a2 = 32 then gBi tx ge rc (d + 1) (fun ks ls => if rc = true then reT h0 ks ls else leT h0 ks ls) k (a2 + 1) (ks ++ [(τ, nI (tx (a + 1)))]) (ls ++ [tx (a + 1)]) else gCl tx (if rc = true then reT h0 (ks ++ [(τ, nI (tx (a + 1)))]) (ls ++ [tx (a + 1)]) else leT h0 (ks ++ [(τ, nI (tx (a + 1)))]) (ls ++ [tx (a + 1)])) a2) := q1
      rw [q1]
      have l1 : (ks ++ [((τ, nI (tx (a + 1))) : Kd)]).length = (ls ++ [tx (a + 1)]).length := by
        rw [List.length_append, List.length_append, hl]
        rfl
      have l2 : (ls ++ [tx (a + 1)]).length = ls.length + 1 := by
        rw [List.length_append]
        rfl
      have l3 : ∀ y ∈ ls ++ [tx (a + 1)], y < 256 := by
        intro y hy
        rcases List.mem_append.mp hy with w | w
        · exact hls y w
        · rw [List.mem_singleton.mp w]
          exact q6
      show AL z d t0 _ (pBs tx (pBind tx pe pf (d + 1) n) n (k + 1) a2 t2)
      unfold pBs
      by_cases e32 : tx a2 = 32
      · have hlt := hx.lt (a := a2) (by omega)
        rw [if_pos e32, if_pos e32]
        exact ih (a2 + 1) t2 _ _ (by omega) q2 l1 l3 q3 (by omega) (by omega)
      · rw [if_neg e32, if_neg e32]
        exact done a2 t2 _ _ q2 l1 (by omega) l3 q3
    · have q1 := hb (fun t a4 => if tx a4 = 32 then gBi tx ge rc (d + 1) (fun ks ls => if rc = true then reT h0 ks ls else leT h0 ks ls) k (a4 + 1) (ks ++ [(t, nI (tx (a + 1)))]) (ls ++ [tx (a + 1)]) else gCl tx (if rc = true then reT h0 (ks ++ [(t, nI (tx (a + 1)))]) (ls ++ [tx (a + 1)]) else leT h0 (ks ++ [(t, nI (tx (a + 1)))]) (ls ++ [tx (a + 1)])) a4)
      exact q1
theorem al_bou (hx : txOK X len tx) {pe pe2 pf : Nat → tS → PR} {ge ge2 : Nat → GR} {rc : Bool} (hd : d + 1 ≤ 9) (hg1 : GE len pe) (hp1 : AE len z (d + 1) pe ge) (hg : GE len pe2) (hgf : ∀ a t, tOK t → tn t + 1 ≤ a → a ≤ len → gd len (tn t) (pf a t)) (hp : d + 1 < 9 → AE len z (d + 2) pe2 ge2) (hfN : ∀ a t, ¬ tx a = 92 → ∃ t', pf a t = .inr (a, t')) (hfR : ∀ a t, tx a = 40 → tx (a + 1) = 92 → d + 2 < 9 → tOK t → tn t + 1 ≤ a + 1 → a + 1 ≤ len → AL z (d + 2) t (ge2 a) (pf (a + 1) t))
    {a : Nat} {t : tS} (h0 : ¬ tx a = 0) (ht : tOK t) (h1 : tn t + 1 ≤ a) (h2 : a ≤ len) : AL z d t (gLe tx ge ge2 rc (d + 1) a) (pBou tx pe (pBind tx pe2 pf (d + 1)) (if rc = true then 9 else 8) a t) := by
  have h96 := hx.1
  have hlt := hx.lt h0
  have ht1 : tOK (tAdd t (if rc = true then 9 else 8) 0 (nI a)) := tOK_add ht (by omega) (fun h => by cases rc <;> exact absurd h (by decide))
  unfold gLe pBou
  by_cases e32 : tx (a + 1) = 32
  · have hlt2 := hx.lt (a := a + 1) (by omega)
    rw [if_pos e32, if_pos e32]
    have ha := hp1 (a + 1 + 1) _ ht1 (by rw [tn_add]; omega) (by omega)
    have hgd := hg1 (a + 1 + 1) _ ht1 (by rw [tn_add]; omega) (by omega)
    rw [tn_add] at hgd
    generalize ge (a + 1 + 1) = G at ha
    generalize pe (a + 1 + 1) (tAdd t (if rc = true then 9 else 8) 0 (nI a)) = r at ha hgd
    rcases r with ⟨c, a2, t2⟩ | ⟨e, t2⟩
    · obtain ⟨τ, rfl, q2⟩ := ha
      obtain ⟨g0, g1, g2, g3, g4⟩ := hgd
      have hO : OpQ t (tPart t2 (tn t) c) (tn t) (if rc = true then 9 else 8) 0 (nI a) (XP z (d + 1) ((τ, 0) : Kd).1 :: BPs z (d + 2) [] []) := opq_part opq_new q2
      have ht2 : tOK (tPart t2 (tn t) c) := tOK_part g1 (by omega)
      show AL z d t (if tx a2 = 32 then gBi tx ge2 rc (d + 1) (fun ks ls => if rc = true then reT (τ, 0) ks ls else leT (τ, 0) ks ls) 2 (a2 + 1) [] [] else .inr a2) (if tx a2 = 32 then (match pBind tx pe2 pf (d + 1) (tn t) (a2 + 1) (tPart t2 (tn t) c) with | .inr e => .inr e | .inl (a4, t4) => pBs tx (pBind tx pe2 pf (d + 1) (tn t)) (tn t) 2 a4 t4) else .inr (a2, tPart t2 (tn t) c))
      by_cases e3 : tx a2 = 32
      · have hlt3 := hx.lt (a := a2) (by omega)
        rw [if_pos e3, if_pos e3]
        exact al_bi hx hd hg hgf hp hfN hfR 2 (a2 + 1) _ [] [] rfl hO rfl (fun y hy => by cases hy) ht2 (by rw [tn_part]; omega) (by omega)
      · rw [if_neg e3, if_neg e3]
        exact rfl
    · have ha : G = .inr e := ha
      subst ha
      exact rfl
  · rw [if_neg e32, if_neg e32]
    exact rfl
theorem gEx_e (tx : Nat → Nat) (f d a : Nat) : gEx tx (f + 1) d a = if cL (tx a) then .inl (fun φ => [(1, 2), (6, lkF (tx a) φ 0)], a + 1) else if tx a = 39 then (match gD tx 200 false 0 d (a + 1) with | .inr e => .inr e | .inl (D, a2) => .inl (fun _ => (1, 1) :: D, a2)) else if tx a = 40 then (if d < 9 then gBr tx (gEx tx f (d + 1)) (gEx tx f (d + 2)) (d + 1) (a + 1) else .inr a) else if cD (tx (pA1 tx a)) then .inl (fun _ => [(1, 1), (1, pVal tx a)], (pDg tx 4 (pA1 tx a) 0).1) else .inr (pA1 tx a) := rfl
theorem pEx_e (tx : Nat → Nat) (f d a : Nat) (t : tS) : pEx tx (f + 1) d a t = if tx a = 40 then (if d < 9 then pBra tx (pEx tx f (d + 1)) (pEx tx f (d + 2)) (pEx tx f (d + 3)) (d + 1) (a + 1) t else .inr (a, t)) else if tx a = 39 then (match pDat tx 11 d (a + 1) (tAdd t 4 0 (nI a)) with | .inr e => .inr e | .inl (c, a2, t2) => .inl (tn t, a2, tPart t2 (tn t) c)) else pAtom tx a t := rfl
theorem pFun_no {pe : Nat → tS → PR} {D a : Nat} {t : tS} (h : ¬ tx a = 92) : ∃ t', pFun tx pe D a t = .inr (a, t') := ⟨_, if_neg h⟩
theorem gBr_fun {ge ge2 : Nat → GR} {D a : Nat} (h : tx a = 92) : gBr tx ge ge2 D a = gBo tx ge D a := by
  unfold gBr
  rw [if_neg (fun q => absurd q.1 (by rw [h]; decide)), if_pos h]
theorem al_ex (hx : txOK X len tx) : ∀ (f f' d : Nat), 10 ≤ f + d → 10 ≤ f' + d → d ≤ 9 → AE len z d (pEx tx f d) (gEx tx f' d)
  | 0, f', d, h, _, h9 => by omega
  | f + 1, 0, d, _, h, h9 => by omega
  | f + 1, f' + 1, d, hf, hf', h9 => by
    intro a t ht h1 h2
    have h96 := hx.1
    have h256 := hx.le a
    rw [pEx_e]
    by_cases e40 : tx a = 40
    · have hlt := hx.lt (a := a) (by omega)
      have nL : ¬ cL (tx a) = true := by rw [e40]; decide
      have n39 : ¬ tx a = 39 := by omega
      rw [if_pos e40, gEx_e, if_neg nL, if_neg n39, if_pos e40]
      by_cases hd : d < 9
      · rw [if_pos hd, if_pos hd]
        have A1 := al_ex hx f f' (d + 1) (by omega) (by omega) (by omega)
        have G1 := g_ex hx f (d + 1)
        unfold pBra
        by_cases e92 : tx (a + 1) = 92
        · rw [if_pos e92, gBr_fun e92]
          exact al_fun hx (by omega) G1 A1 e92 ht (by omega) (by omega)
        · rw [if_neg e92]
          by_cases e58 : tx (a + 1) = 58 ∨ tx (a + 1) = 59
          · rw [if_pos e58]
            have har : ¬ (0 < ar (tx (a + 1)) ∧ ¬ (tx (a + 1) = 45 ∧ cD (tx (a + 1 + 1)) = true)) := fun q => by
              rcases e58 with e | e <;> exact absurd q.1 (by rw [e]; decide)
            have eg : gBr tx (gEx tx f' (d + 1)) (gEx tx f' (d + 2)) (d + 1) (a + 1) = gLe tx (gEx tx f' (d + 1)) (gEx tx f' (d + 2)) (decide (tx (a + 1) = 59)) (d + 1) (a + 1) := by
              unfold gBr
              rw [if_neg har, if_neg e92, if_pos e58]
            have ek : (if tx (a + 1) = 59 then (9 : Int32) else 8) = if decide (tx (a + 1) = 59) = true then 9 else 8 := by
              by_cases e : tx (a + 1) = 59
              · rw [if_pos e, if_pos (decide_eq_true e)]
              · rw [if_neg e, if_neg (by simp [e])]
            rw [eg, ek]
            refine al_bou hx (by omega) G1 A1 (g_ex hx f (d + 2)) (fun a t q1 q2 q3 => g_fun hx (g_ex hx f (d + 3)) q1 q2 q3) (fun q => al_ex hx f f' (d + 2) (by omega) (by omega) (by omega)) (fun a t q => pFun_no q) (fun a t q1 q2 q3 q4 q5 q6 => ?_) (by omega) ht (by omega) (by omega)
            obtain ⟨g, rfl⟩ : ∃ g, f' = g + 1 := ⟨f' - 1, by omega⟩
            rw [gEx_br q1 (by omega), gBr_fun q2]
            exact al_fun (d := d + 2) hx (by omega) (g_ex hx f (d + 3)) (al_ex hx f g (d + 3) (by omega) (by omega) (by omega)) q2 q4 (by omega) q6
          · rw [if_neg e58]
            cases ho : opO (tx (a + 1)) with
            | none =>
              have har : ¬ (0 < ar (tx (a + 1)) ∧ ¬ (tx (a + 1) = 45 ∧ cD (tx (a + 1 + 1)) = true)) := fun q => by
                obtain ⟨o, h⟩ := ar_op.mp q.1
                rw [ho] at h
                cases h
              have eg : gBr tx (gEx tx f' (d + 1)) (gEx tx f' (d + 2)) (d + 1) (a + 1) = gCa tx (gEx tx f' (d + 1)) (a + 1) := by
                unfold gBr
                rw [if_neg har, if_neg e92, if_neg e58]
              rw [eg]
              exact al_call hx (by omega) G1 A1 ht (by omega) (by omega)
            | some o =>
              show AL z d t _ (if tx (a + 1) = 45 ∧ cD (tx (a + 1 + 1)) = true then pCall tx (pEx tx f (d + 1)) (a + 1) t else pOp tx (pEx tx f (d + 1)) o (a + 1) t)
              by_cases em : tx (a + 1) = 45 ∧ cD (tx (a + 1 + 1)) = true
              · rw [if_pos em]
                have eg : gBr tx (gEx tx f' (d + 1)) (gEx tx f' (d + 2)) (d + 1) (a + 1) = gCa tx (gEx tx f' (d + 1)) (a + 1) := by
                  unfold gBr
                  rw [if_neg (fun q => q.2 em), if_neg e92, if_neg e58]
                rw [eg]
                exact al_call hx (by omega) G1 A1 ht (by omega) (by omega)
              · rw [if_neg em]
                have eg : gBr tx (gEx tx f' (d + 1)) (gEx tx f' (d + 2)) (d + 1) (a + 1) = gSg tx (gEx tx f' (d + 1)) (a + 1) := by
                  unfold gBr
                  rw [if_pos ⟨ar_op.mpr ⟨o, ho⟩, em⟩]
                rw [eg]
                have h0 : ¬ tx (a + 1) = 0 := fun e => by rw [e, opO_0] at ho; cases ho
                exact al_op hx (by omega) G1 A1 ho ht (by omega) (hx.lt h0)
      · rw [if_neg hd, if_neg hd]
        exact rfl
    · rw [if_neg e40]
      by_cases e39 : tx a = 39
      · have hlt := hx.lt (a := a) (by omega)
        have nL : ¬ cL (tx a) = true := by rw [e39]; decide
        rw [if_pos e39, gEx_e, if_neg nL, if_pos e39]
        have ht1 : tOK (tAdd t 4 0 (nI a)) := tOK_add ht (by omega)
        have ha := al_dat (z := z) hx 11 d (by omega) h9 (a + 1) (tAdd t 4 0 (nI a)) 0 d rfl ht1 (by rw [tn_add]; omega) (by omega) (by rw [tn_add]; omega)
        have hgd := g_dat hx 11 d (a + 1) _ ht1 (by rw [tn_add]; omega) (by omega)
        rw [tn_add] at hgd
        generalize pDat tx 11 d (a + 1) (tAdd t 4 0 (nI a)) = r at ha hgd
        rcases r with ⟨c, a2, t2⟩ | ⟨e, t2⟩
        · obtain ⟨D, q1, q2⟩ := ha
          obtain ⟨g0, g1, g2, g3, g4⟩ := hgd
          have q1 : gD tx 200 false 0 d (a + 1) = .inl (D ++ [], a2) := q1 200 (by omega)
          rw [List.append_nil] at q1
          rw [q1]
          have hO : OpQ t (tPart t2 (tn t) c) (tn t) 4 0 (nI a) [DP z d D] := opq_part opq_new q2
          exact ⟨_, rfl, opq_done hO (tOK_part g1 (by omega)).1 (fun t' hN => E_quo h9 hN)⟩
        · rw [ha 200 (by omega)]
          exact rfl
      · rw [if_neg e39]
        unfold pAtom
        by_cases eL : cL (tx a) = true
        · have hlt := hx.lt (cL_ne eL)
          rw [if_pos eL, gEx_e, if_pos eL]
          exact ⟨_, rfl, opq_done opq_new (by rw [tn_add]; omega) (fun t' hN => E_var h9 (by omega) (by omega) hN)⟩
        · rw [if_neg eL, gEx_e, if_neg eL, if_neg e39, if_neg e40]
          unfold pNum
          by_cases eD : cD (tx (pA1 tx a)) = true
          · obtain ⟨w1, w2, w3⟩ := num_len hx h2 eD
            rw [if_pos eD, if_pos eD]
            exact ⟨_, rfl, opq_done opq_new (by rw [tn_add]; omega) (fun t' hN => E_num h9 hN)⟩
          · rw [if_neg eD, if_neg eD]
            exact rfl
end ZF
end
section
theorem lyS_cn (z : Nat) : ∀ (T : TL) (p : cC × List Nat), cn (lyS z T p).1 = cn p.1 + cnt T
  | [], p => rfl
  | x :: T, p => by
    show cn (lyS z T (ly1 z x p)).1 = cn p.1 + ((if x.1 = 5 then 0 else 1) + cnt T)
    rw [lyS_cn z T (ly1 z x p)]
    have e : cn (ly1 z x p).1 = cn p.1 + (if x.1 = 5 then 0 else 1) := by
      unfold ly1
      by_cases h5 : x.1 = 5
      · rw [if_pos h5, if_pos h5]
        obtain ⟨c, st⟩ := p
        cases st <;> rfl
      · rw [if_neg h5, if_neg h5]
        by_cases h4 : x.1 = 4
        · rw [if_pos h4]
          exact (cAp_n z p.1 vNil).1
        · rw [if_neg h4]
          by_cases h0 : x.1 = 0
          · rw [if_pos h0]
            exact (cAp_n z p.1 _).1
          · rw [if_neg h0]
            by_cases h2 : x.1 = 2
            · rw [if_pos h2]
              exact (cAp_n z p.1 _).1
            · rw [if_neg h2]
              exact (cAp_n z p.1 _).1
    omega
theorem cnt_low : ∀ T : TL, cnt (low T) = cnt T
  | [] => rfl
  | x :: T => by
    show (if (lw x).1 = 5 then 0 else 1) + cnt (low T) = (if x.1 = 5 then 0 else 1) + cnt T
    rw [cnt_low T]
    unfold lw
    by_cases h : x.1 = 6
    · rw [if_pos h, h]
      rfl
    · rw [if_neg h]
def GOut (tx : Nat → Nat) (len z i N : Nat) : Prop := (i = 1 ∧ ∀ τ, gEx tx 10 0 0 = .inl (τ, len) → ¬ knT (τ [])) ∨ (∃ τ, gEx tx 10 0 0 = .inl (τ, len) ∧ knT (τ []) ∧ ((i = 2 ∧ z < cnt (τ []) + 1) ∨ (i = 0 ∧ cnt (τ []) + 1 ≤ z ∧ N = cnt (τ []) + 1)))
theorem GOut_u {tx : Nat → Nat} {len z i N i' N' : Nat} (h : GOut tx len z i N) (h' : GOut tx len z i' N') : i = i' ∧ (i = 0 → N = N') := by
  rcases h with ⟨rfl, h⟩ | ⟨τ, e, k, h⟩
  · rcases h' with ⟨rfl, h'⟩ | ⟨τ, e, k, h'⟩
    · exact ⟨rfl, fun q => absurd q (by decide)⟩
    · exact absurd k (h τ e)
  · rcases h' with ⟨rfl, h'⟩ | ⟨τ', e', k', h'⟩
    · exact absurd k (h' τ e)
    · rw [e] at e'
      cases e'
      rcases h with ⟨rfl, h⟩ | ⟨rfl, h, hN⟩
      · rcases h' with ⟨rfl, h'⟩ | ⟨rfl, h', hN'⟩
        · exact ⟨rfl, fun q => absurd q (by decide)⟩
        · omega
      · rcases h' with ⟨rfl, h'⟩ | ⟨rfl, h', hN'⟩
        · omega
        · exact ⟨rfl, fun _ => hN.trans hN'.symm⟩
section ZG
variable {tx : Nat → Nat} {X : Nat → Int32} {len z : Nat} {t : tS} {s : cD_}
theorem cls_bad (hx : txOK X len tx) (ht : tOK t) {a' : Nat} {t' : tS} (e : pEx tx 10 0 0 (0, t.2) = .inr (a', t')) : gEx tx 10 0 0 = .inr a' := by
  have ht0 : tOK (0, t.2) := ⟨Nat.zero_le _, ht.2.1, ⟨ht.2.2.1.1, fun i hi => absurd hi (Nat.not_lt_zero i)⟩, ht.2.2.2⟩
  have h := al_ex (z := 0) hx 10 10 0 (by omega) (by omega) (by omega) 0 (0, t.2) ht0 (Nat.le_refl _) (Nat.zero_le _)
  rw [e] at h
  exact h
theorem cls_good (hx : txOK X len tx) (ht : tOK t) {nd a' : Nat} {t' : tS} (e : pEx tx 10 0 0 (0, t.2) = .inl (nd, a', t')) : ∃ τ, gEx tx 10 0 0 = .inl (τ, a') ∧ a' ≤ len ∧ RES z (τ []) (dZ s) (dEx z t' 11 0 (some 0) (dZ s)) := by
  have ht0 : tOK (0, t.2) := ⟨Nat.zero_le _, ht.2.1, ⟨ht.2.2.1.1, fun i hi => absurd hi (Nat.not_lt_zero i)⟩, ht.2.2.2⟩
  have h := al_ex (z := z) hx 10 10 0 (by omega) (by omega) (by omega) 0 (0, t.2) ht0 (Nat.le_refl _) (Nat.zero_le _)
  have hg := g_ex hx 10 0 0 (0, t.2) ht0 (Nat.le_refl _) (Nat.zero_le _)
  rw [e] at h hg
  obtain ⟨τ, q1, q2, q3, -⟩ := h
  have q3 := q3 t' ⟨fun _ _ _ => ⟨rfl, rfl, rfl, rfl⟩, fun _ _ _ => rfl⟩ (Nat.le_refl _)
  exact ⟨τ, q1, hg.2.2.2.2, q3 11 0 (dZ s) [] (Nat.le_refl _) (by decide) (Nat.le_refl _) rfl⟩
theorem cls_cn {τ : Tau} (h : RES z (τ []) (dZ s) (dEx z t 11 0 (some 0) (dZ s))) : cn (dC (dI z (dEx z t 11 0 (some 0) (dZ s)) 19)) = cnt (τ []) + 1 ∧ (dU (dEx z t 11 0 (some 0) (dZ s)) = -1 ↔ knT (τ [])) := by
  obtain ⟨h1, -, -, h4⟩ := h
  refine ⟨?_, ?_⟩
  · rw [cn_I]
    have := lyS_cn z (τ []) (dC (dZ s), [])
    rw [h1] at this
    have e : cn (dC (dZ s)) = 0 := rfl
    have this : cn (dC (dEx z t 11 0 (some 0) (dZ s))) = cn (dC (dZ s)) + cnt (τ []) := this
    omega
  · rw [h4]
    exact ⟨fun q => q.2, fun q => ⟨rfl, q⟩⟩
end ZG
section ZG2
variable {m b0 b1 z len c : Nat} {tx : Nat → Nat} {mode : Int32} {op : Bool} {Q : mj_R → Prop} {xs : List Int32} {tl : List mj_O}
set_option maxRecDepth 10000
end ZG2
section ZG3
variable {b0 b1 z len c : Nat} {tx : Nat → Nat} {mode : Int32} {op : Bool} {Q : mj_R → Prop} {s : cS} {r : rM} {xs : List Int32} {f : Nat → Int64}
set_option maxRecDepth 10000
end ZG3
end
section
theorem chL_u {nx bo : Nat → Int32} : ∀ (L L' : List Int32) (x : Int32), chL nx bo L x → chL nx bo L' x → L = L'
  | [], [], x, _, _ => rfl
  | [], c :: L', x, h, ⟨j, h1, h2, h3⟩ => by
    have h : x = -1 := h
    rw [h2] at h
    exact absurd h (nI_nn (by omega))
  | c :: L, [], x, ⟨j, h1, h2, h3⟩, h => by
    have h : x = -1 := h
    rw [h2] at h
    exact absurd h (nI_nn (by omega))
  | c :: L, c' :: L', x, ⟨j, h1, h2, h3, h4⟩, ⟨j', h1', h2', h3', h4'⟩ => by
    have ej : j = j' := nIj (by omega) (by omega) (h2.symm.trans h2')
    subst ej
    rw [← h3, ← h3', chL_u L L' _ h4 h4']
theorem map_nI_u : ∀ (l l' : List Nat), (∀ c ∈ l, c < 256) → (∀ c ∈ l', c < 256) → l.map nI = l'.map nI → l = l'
  | [], [], _, _, _ => rfl
  | [], _ :: _, _, _, h => by cases h
  | _ :: _, [], _, _, h => by cases h
  | a :: l, b :: l', h1, h2, h => by
    have e := List.cons.inj h
    have ha := h1 a List.mem_cons_self
    have hb := h2 b List.mem_cons_self
    rw [nIj (by omega) (by omega) e.1, map_nI_u l l' (fun c hc => h1 c (List.mem_cons_of_mem _ hc)) (fun c hc => h2 c (List.mem_cons_of_mem _ hc)) e.2]
theorem FR_u {r : rM} {v : Nat} {ls ls' : List Nat} (h : FRb r v ls ∨ FRk r v ls) (h' : FRb r v ls' ∨ FRk r v ls') : ls = ls' := by
  rcases h with ⟨a1, a2, a3, a4, a5⟩ | ⟨a1, i1, a2, a3, a4, a5, a6⟩
  · rcases h' with ⟨b1, b2, b3, b4, b5⟩ | ⟨b1, i1', b2, b3, b4, b5, b6⟩
    · have el : ls.length = ls'.length := nIj (by omega) (by omega) (a2.symm.trans b2)
      refine List.ext_getElem? (fun i => ?_)
      cases hi : ls[i]? with
      | none =>
        have := List.getElem?_eq_none_iff.mp hi
        exact (List.getElem?_eq_none (by omega)).symm
      | some c =>
        cases hi' : ls'[i]? with
        | none =>
          have := List.getElem?_eq_none_iff.mp hi'
          rw [List.getElem?_eq_none (by omega)] at hi
          cases hi
        | some c' =>
          have h1 := a5 c (List.mem_of_getElem? hi)
          have h2 := b5 c' (List.mem_of_getElem? hi')
          rw [nIj (by omega) (by omega) ((a4 i c hi).symm.trans (b4 i c' hi'))]
    · rw [a1] at b1
      rcases b1 with b1 | b1 <;> exact absurd b1 (by decide)
  · rcases h' with ⟨b1, b2, b3, b4, b5⟩ | ⟨b1, i1', b2, b3, b4, b5, b6⟩
    · rw [b1] at a1
      rcases a1 with a1 | a1 <;> exact absurd a1 (by decide)
    · have ei : i1 = i1' := nIj (by omega) (by omega) (a3.symm.trans b3)
      subst ei
      exact map_nI_u ls ls' a5 b5 (chL_u _ _ _ a4 b4)
theorem CHd_u {r : rM} : ∀ (k k' n : Nat) (φ φ' : Fr), CHd r k n φ → CHd r k' n φ' → φ = φ'
  | 0, 0, n, φ, φ', ⟨_, h⟩, ⟨_, h'⟩ => h.trans h'.symm
  | 0, k' + 1, n, φ, φ', ⟨h, _⟩, ⟨v, ψ, h1, h2, _⟩ => by
    rw [h] at h2
    exact absurd h2.symm (nI_nn (by omega))
  | k + 1, 0, n, φ, φ', ⟨v, ψ, h1, h2, _⟩, ⟨h, _⟩ => by
    rw [h] at h2
    exact absurd h2.symm (nI_nn (by omega))
  | k + 1, k' + 1, n, φ, φ', ⟨v, ψ, h1, h2, h3, h4⟩, ⟨v', ψ', h1', h2', h3', h4'⟩ => by
    have ev : v = v' := nIj (by omega) (by omega) (h2.symm.trans h2')
    subst ev
    have eψ := CHd_u k k' v ψ ψ' h3 h3'
    subst eψ
    rcases h4 with ⟨ls, rfl, hF⟩ | ⟨rfl, n5, n7, n6⟩
    · rcases h4' with ⟨ls', rfl, hF'⟩ | ⟨rfl, n5, n7, n6⟩
      · rw [FR_u (hF.imp id (fun q => q.1)) (hF'.imp id (fun q => q.1))]
      · rcases hF with q | ⟨q, w⟩
        · exact absurd q.1 n5
        · rcases w with w | w
          · exact absurd w n7
          · rcases n6 with n6 | n6
            · exact absurd (q.1.resolve_right n7) n6
            · exact absurd w n6
    · rcases h4' with ⟨ls', rfl, hF'⟩ | ⟨rfl, -⟩
      · rcases hF' with q | ⟨q, w⟩
        · exact absurd q.1 n5
        · rcases w with w | w
          · exact absurd w n7
          · rcases n6 with n6 | n6
            · exact absurd (q.1.resolve_right n7) n6
            · exact absurd w n6
      · rfl
theorem NM_u {r : rM} {K i c k c' k' : Nat} {φ φ' : Fr} (h : NM r K i c k φ) (h' : NM r K i c' k' φ') : c = c' ∧ φ = φ' := by
  obtain ⟨-, h1, h2, h3, -⟩ := h
  obtain ⟨-, h1', h2', h3', -⟩ := h'
  exact ⟨nIj (by omega) (by omega) (h1.symm.trans h1'), CHd_u k k' i φ φ' h3 h3'⟩
theorem in_lst {x : Int32 × Int32} {i : Int32} {t : Tau} {φ : Fr} (h : x ∈ t φ) : x ∈ lstT i t φ := List.mem_cons_of_mem _ (List.mem_append_left _ h)
theorem in_row {x : Int32 × Int32} {φ : Fr} {k : Kd} (hx : x ∈ k.1 φ) : ∀ (ks : List Kd), k ∈ ks → x ∈ rowT ks φ
  | [], h => by cases h
  | k2 :: ks, h => by
    show x ∈ rowT ks φ ++ (k2.1 φ ++ [(1, 13)])
    rcases List.mem_cons.mp h with w | w
    · rw [← w]
      exact List.mem_append_right _ (List.mem_append_left _ hx)
    · exact List.mem_append_left _ (in_row hx ks w)
theorem in_sg {x : Int32 × Int32} {c : Nat} {φ : Fr} {k : Kd} (hx : x ∈ k.1 φ) : ∀ (ks : List Kd), 1 ≤ ks.length → ks.length ≤ 3 → k ∈ ks → x ∈ sgT c ks φ
  | [], h, _, _ => by cases h
  | [a], _, _, h => by
    rw [List.mem_singleton.mp h] at hx
    exact List.mem_append_left _ hx
  | [a, b], _, _, h => by
    show x ∈ (if c = 46 then b.1 φ ++ (a.1 φ ++ [(1, 13)]) else a.1 φ ++ (b.1 φ ++ [(1, cdO c)]))
    rcases List.mem_cons.mp h with w | w
    · rw [w] at hx
      split
      · exact List.mem_append_right _ (List.mem_append_left _ hx)
      · exact List.mem_append_left _ hx
    · rw [List.mem_singleton.mp w] at hx
      split
      · exact List.mem_append_left _ hx
      · exact List.mem_append_right _ (List.mem_append_left _ hx)
  | [a, b, d], _, _, h => by
    show x ∈ a.1 φ ++ ((1, 8) :: (lstT 9 b.1 φ ++ lstT 9 d.1 φ))
    rcases List.mem_cons.mp h with w | w
    · rw [w] at hx
      exact List.mem_append_left _ hx
    · rcases List.mem_cons.mp w with w | w
      · rw [w] at hx
        exact List.mem_append_right _ (List.mem_cons_of_mem _ (List.mem_append_left _ (in_lst hx)))
      · rw [List.mem_singleton.mp w] at hx
        exact List.mem_append_right _ (List.mem_cons_of_mem _ (List.mem_append_right _ (in_lst hx)))
  | _ :: _ :: _ :: _ :: _, _, h, _ => by
    simp only [List.length_cons] at h
    omega
theorem in_bo {x : Int32 × Int32} {a : Kd} {ls : List Nat} {φ : Fr} (h : x ∈ a.1 (ls :: φ)) : x ∈ boT a ls φ := List.mem_cons_of_mem _ (in_lst h)
theorem cKL_rng {P : Nat → Nat → Tau → Prop} {nx bo : Nat → Int32} (hlt : ∀ i m t, P i m t → i < m) {k : Kd} {args : List Kd} {i l m j : Nat} (h : cKL P nx bo (k :: args) i l m) (h1 : i ≤ j) (h2 : j < m) : (∃ e2, j < e2 ∧ e2 ≤ m ∧ P i e2 k.1) ∨ ∃ kd ∈ args, ∃ a b, i < a ∧ a ≤ j ∧ j < b ∧ b ≤ m ∧ P a b kd.1 := by
  cases args with
  | nil =>
    obtain ⟨rfl, q, -⟩ := h
    exact Or.inl ⟨m, h2, Nat.le_refl _, q⟩
  | cons k2 ks =>
    obtain ⟨j0, q1, -, -, q4⟩ := h
    have c1 := hlt _ _ _ q1
    have c2 := cKL_lt hlt (k2 :: ks) j0 l m q4
    rcases Nat.lt_or_ge j j0 with w | w
    · exact Or.inl ⟨j0, w, by omega, q1⟩
    · obtain ⟨kd, w1, a, b, w2, w3, w4, w5, w6⟩ := (cKL_all hlt (k2 :: ks) j0 l m q4).2 j w h2
      exact Or.inr ⟨kd, w1, a, b, by omega, w3, w4, w5, w6⟩
theorem cR_cvr {r : rM} {tx : Nat → Nat} {K : Nat} : ∀ (f n e : Nat) (t : Tau) (k : Nat) (φ : Fr), cR tx r f n e t → e ≤ 100 → CHd r k n φ → k + f ≤ K → ∀ i, n ≤ i → i < e → r.kind i = 1 → ∃ c k2 φ2, NM r K i c k2 φ2 ∧ ((6 : Int32), lkF c φ2 0) ∈ t φ
  | 0, n, e, t, k, φ, h, _, _, _ => absurd h id
  | f + 1, n, e, t, k, φ, h, he, hc, hK => by
    intro i hi1 hi2 hi3
    have hlt := cR_lt (f + 1) n e t h
    rcases h with ⟨h1, h2, h3⟩ | ⟨h1, h2, c, a, h3, h4, h5, h6, h7⟩ | ⟨h1, h2, a, a', d, D, h3, h4, h5, h6, h7⟩ | ⟨ks, l, h1, h2, h3, hT⟩
    · obtain rfl : i = n := by omega
      rw [h1] at hi3
      exact absurd hi3 (by decide)
    · obtain rfl : i = n := by omega
      refine ⟨c, k, φ, ⟨h1, h6, h3, hc, by omega⟩, ?_⟩
      rw [h7]
      exact List.mem_cons_of_mem _ List.mem_cons_self
    · obtain rfl : i = n := by omega
      rw [h1] at hi3
      exact absurd hi3 (by decide)
    · have hin : ¬ r.kind n = 1 → n + 1 ≤ i := fun q => by
        rcases Nat.lt_or_ge n i with w | w
        · exact w
        · obtain rfl : i = n := by omega
          exact absurd hi3 q
      have kid : ∀ (a b : Nat) (t2 : Tau) (φ2 : Fr), n + 1 ≤ a → a ≤ i → i < b → b ≤ e → (cR tx r f a b t2 ∧ r.parent a = nI n) → CHd r (k + 1) a φ2 → ∃ c k2 φ3, NM r K i c k2 φ3 ∧ ((6 : Int32), lkF c φ3 0) ∈ t2 φ2 := fun a b t2 φ2 q1 q2 q3 q4 q5 q6 => cR_cvr f a b t2 (k + 1) φ2 q5.1 (by omega) q6 (by omega) i q2 q3 hi3
      have cl := fun i m t (w : cR tx r f i m t ∧ r.parent i = nI n) => cR_lt (tx := tx) (r := r) f i m t w.1
      have hlt2 := cKL_lt cl ks _ _ _ h1
      rcases hT with ⟨k1, c, c1, c2, c3, c4, c5⟩ | ⟨k1, a, args, c1, c2, c3⟩ | ⟨k1, a, ls, c1, c2, c3, c4, c5, c6⟩ | ⟨k1, a, args, ls, c1, c2, c3, c4, c5, c6⟩ | ⟨k1, a, args, ls, c1, c2, c3, c4, c5, c6⟩
      · obtain ⟨kd, w1, a, b, w2, w3, w4, w5, w6⟩ := (cKL_all cl ks _ _ _ h1).2 i (hin (by rw [k1]; decide)) hi2
        obtain ⟨c', k2, φ3, u1, u2⟩ := kid a b kd.1 φ w2 w3 w4 w5 w6 (CH_no (by omega) w6.2 hc (by rw [k1]; decide) (by rw [k1]; decide) (Or.inl (by rw [k1]; decide)))
        refine ⟨c', k2, φ3, u1, ?_⟩
        rw [c5]
        exact in_sg u2 ks (by omega) (by have := ar_le c; omega) w1
      · obtain ⟨kd, w1, a', b, w2, w3, w4, w5, w6⟩ := (cKL_all cl ks _ _ _ h1).2 i (hin (by rw [k1]; decide)) hi2
        obtain ⟨c', k2, φ3, u1, u2⟩ := kid a' b kd.1 φ w2 w3 w4 w5 w6 (CH_no (by omega) w6.2 hc (by rw [k1]; decide) (by rw [k1]; decide) (Or.inl (by rw [k1]; decide)))
        refine ⟨c', k2, φ3, u1, ?_⟩
        rw [c3]
        show _ ∈ rowT args φ ++ (a.1 φ ++ [(1, 4)])
        rw [c1] at w1
        rcases List.mem_cons.mp w1 with w | w
        · rw [w] at u2
          exact List.mem_append_right _ (List.mem_append_left _ u2)
        · exact List.mem_append_left _ (in_row u2 args w)
      · obtain ⟨kd, w1, a', b, w2, w3, w4, w5, w6⟩ := (cKL_all cl ks _ _ _ h1).2 i (hin (by rw [k1]; decide)) hi2
        obtain ⟨c', k2, φ3, u1, u2⟩ := kid a' b kd.1 (ls :: φ) w2 w3 w4 w5 w6 (CH_fr (by omega) w6.2 hc (Or.inl ⟨k1, c3, c2, c4, c5⟩))
        refine ⟨c', k2, φ3, u1, ?_⟩
        rw [c6]
        rw [c1] at w1
        rw [List.mem_singleton.mp w1] at u2
        exact in_bo u2
      · have hlen : ls.length = args.length := by
          have := congrArg List.length c4
          rw [List.length_map, List.length_map] at this
          exact this.symm
        have hch := h1
        rw [c1] at hch
        have hch2 := cKL_ch cl args a (n + 1) l e hch h2 (by omega)
        rw [c4] at hch2
        have hF : FRk r n ls := ⟨Or.inl k1, n + 1, by omega, h3, hch2, c5, by omega⟩
        rcases cKL_rng cl hch (hin (by rw [k1]; decide)) hi2 with ⟨e2, p1, p2, p3⟩ | ⟨kd, w1, a', b, w2, w3, w4, w5, w6⟩
        · obtain ⟨c', k2, φ3, u1, u2⟩ := kid (n + 1) e2 a.1 (ls :: φ) (Nat.le_refl _) (hin (by rw [k1]; decide)) p1 p2 p3 (CH_fr (by omega) p3.2 hc (Or.inr ⟨hF, Or.inr h3⟩))
          refine ⟨c', k2, φ3, u1, ?_⟩
          rw [c6]
          exact List.mem_append_right _ (List.mem_append_left _ (in_bo u2))
        · obtain ⟨c', k2, φ3, u1, u2⟩ := kid a' b kd.1 φ (by omega) w3 w4 w5 w6 (CH_no (by omega) w6.2 hc (by rw [k1]; decide) (by rw [k1]; decide) (Or.inr (fun q => by
            have := nIj (by omega) (by omega) (h3.symm.trans q)
            omega)))
          refine ⟨c', k2, φ3, u1, ?_⟩
          rw [c6]
          exact List.mem_append_left _ (in_row u2 args w1)
      · have hlen : ls.length = args.length := by
          have := congrArg List.length c4
          rw [List.length_map, List.length_map] at this
          exact this.symm
        have hch := h1
        rw [c1] at hch
        have hch2 := cKL_ch cl args a (n + 1) l e hch h2 (by omega)
        rw [c4] at hch2
        have hF : FRk r n ls := ⟨Or.inr k1, n + 1, by omega, h3, hch2, c5, by omega⟩
        rcases cKL_rng cl hch (hin (by rw [k1]; decide)) hi2 with ⟨e2, p1, p2, p3⟩ | ⟨kd, w1, a', b, w2, w3, w4, w5, w6⟩
        · obtain ⟨c', k2, φ3, u1, u2⟩ := kid (n + 1) e2 a.1 (ls :: φ) (Nat.le_refl _) (hin (by rw [k1]; decide)) p1 p2 p3 (CH_fr (by omega) p3.2 hc (Or.inr ⟨hF, Or.inr h3⟩))
          refine ⟨c', k2, φ3, u1, ?_⟩
          rw [c6]
          exact List.mem_cons_of_mem _ (List.mem_append_right _ (List.mem_append_left _ (in_bo u2)))
        · obtain ⟨c', k2, φ3, u1, u2⟩ := kid a' b kd.1 (ls :: φ) (by omega) w3 w4 w5 w6 (CH_fr (by omega) w6.2 hc (Or.inr ⟨hF, Or.inl k1⟩))
          refine ⟨c', k2, φ3, u1, ?_⟩
          rw [c6]
          exact List.mem_cons_of_mem _ (List.mem_append_left _ (in_row u2 args w1))
section ZH2
variable {cst : Nat → Option (Nat × (Nat → Int32))} {m b0 b1 : Nat} {op : Bool} {tl : List mj_O} {Q : mj_R → Prop} {s : cS} {r : rM} {K e : Nat}
set_option maxRecDepth 10000
theorem R_firstUnk (he : e ≤ 100) (hp : r.parts = nI e) (hcov : ∀ i, i < e → r.kind i = 1 → (∃ a, a ≤ 96 ∧ r.at_ i = nI a) ∧ ∃ c k φ, NM r K i c k φ) (h1 : (∀ i c k φ, i < e → NM r K i c k φ → ¬ lkF c φ 0 < 0) → Q (.inl (some (.int (-1))), (cW s (rW r tl), b0, b1, op))) (h2 : ∀ a, a ≤ 96 → (∃ i c k φ, i < e ∧ NM r K i c k φ ∧ lkF c φ 0 < 0) → Q (.inl (some (.int (nI a))), (cW s (rW r tl), b0, b1, op))) : mj_Mt gT cst gnw (m + 3) y_R_firstUnknown [.ref 27] (cW s (rW r tl), b0, b1, op) Q := by
  intro J hJ
  have loop : ∀ (j n : Nat), j + n = e → (∀ i c k φ, i < n → NM r K i c k φ → ¬ lkF c φ 0 < 0) → J 2 [some (.ref 27), some (.int (nI n))] [] (cW s (rW r tl), b0, b1, op) := by
    intro j
    induction j with
    | zero =>
      intro n hn hk
      obtain rfl : n = e := by omega
      refine hJ _ _ _ _ ?_
      refine And.intro (fun _ => h1 hk) (fun (g : ¬ r.parts ≤ nI n) => absurd (by rw [hp]; exact nI_le (Nat.le_refl _) (by omega)) g)
    | succ j ih =>
      intro n hn hk
      have hin : vp_in (nI n) 100 := vp_in_nI (by omega) (by decide)
      have ekn : (nI n).toNatClampNeg = n := nI_clamp (by omega)
      have nxt : (∀ c k φ, NM r K n c k φ → ¬ lkF c φ 0 < 0) → ∀ x : Int32, x = nI (n + 1) → J 2 [some (.ref 27), some (.int x)] [] (cW s (rW r tl), b0, b1, op) := by
        rintro hk2 x rfl
        refine ih (n + 1) (by omega) (fun i c k φ hi hN => ?_)
        by_cases ei : i = n
        · subst ei
          exact hk2 c k φ hN
        · exact hk i c k φ (by omega) hN
      refine hJ _ _ _ _ ?_
      refine And.intro (fun (g : r.parts ≤ nI n) => absurd g (by rw [hp]; exact nI_ge (by omega) (by omega))) (fun _ => ?_)
      refine And.intro hin ?_
      rw [ekn]
      refine And.intro (fun (g : ¬ r.kind n = 1) => ?_) (fun (g : r.kind n = 1) => ?_)
      · exact nxt (fun c k φ hN => absurd hN.1 g) _ (nI_succ n).symm
      · obtain ⟨⟨a, ha, ea⟩, c, k, φ, hN⟩ := hcov n (by omega) g
        by_cases hbad : ∃ c k φ, NM r K n c k φ ∧ lkF c φ 0 < 0
        · obtain ⟨c, k, φ, hN, hb⟩ := hbad
          refine R_resolved (by omega) hN.2.1 hN.2.2.1 hN.2.2.2.1 ?_
          refine And.intro (fun (w : 0 ≤ lkF c φ 0) => absurd hb (Int32.not_lt.mpr w)) (fun _ => ?_)
          refine And.intro hin ?_
          rw [ekn, ea]
          exact h2 a ha ⟨n, c, k, φ, by omega, hN, hb⟩
        · have hgood : ∀ c k φ, NM r K n c k φ → ¬ lkF c φ 0 < 0 := fun c k φ q1 q2 => hbad ⟨c, k, φ, q1, q2⟩
          refine R_resolved (by omega) hN.2.1 hN.2.2.1 hN.2.2.2.1 ?_
          refine And.intro (fun _ => ?_) (fun (w : ¬ 0 ≤ lkF c φ 0) => absurd (Int32.not_lt.mp (hgood c k φ hN)) w)
          exact nxt hgood _ (nI_succ n).symm
  refine hJ _ _ _ _ ?_
  exact loop e 0 (by omega) (fun i c k φ hi => absurd hi (Nat.not_lt_zero i))
end ZH2
theorem kr_pg {r r' : rM} (h : kr r r') : r'.program = r.program := congrArg (fun q => q.2.2.1.2.2.1) (show krT r' = krT r from h)
section ZHP
variable {cst : Nat → Option (Nat × (Nat → Int32))} {m b0 b1 : Nat} {op : Bool} {tl : List mj_O} {Q : mj_R → Prop} {s : cS} {r : rM} {len : Nat} {tx : Nat → Nat}
set_option maxRecDepth 10000
end ZHP
end
section
def iV : Vl → Int32
  | .inr (.inl x) => x
  | _ => 0
def smV : Vl → Vl → Bool
  | .inl _, .inl _ => true
  | .inr (.inl x), .inr (.inl y) => decide (x = y)
  | .inr (.inr (.inl x)), .inr (.inr (.inl y)) => decide (x = y)
  | _, _ => false
abbrev ndI (i : Int32) : Nat := rqN i
abbrev StpT : Type := List (Vl × Vl) × Option (Vl × Vl) × Vl × Vl × Vl × Vl
def stp (k : Nat → Nat) (H T : Nat → Vl) (S E C D : Vl) : Int32 → Option StpT := fun i =>
  if i = 1 then some ([(ofV H (ofV T C), S)], none, vPr (k 0), E, ofV T (ofV T C), D)
  else if i = 2 then
    (if kV (behV T ((iV (ofV H (ofV T C))).toNatClampNeg / 16) E) = 3 then
      (if kV (behV T ((iV (ofV H (ofV T C))).toNatClampNeg % 16) (ofV H (behV T ((iV (ofV H (ofV T C))).toNatClampNeg / 16) E))) = 3 then
        some ([(ofV H (behV T ((iV (ofV H (ofV T C))).toNatClampNeg % 16) (ofV H (behV T ((iV (ofV H (ofV T C))).toNatClampNeg / 16) E))), S)], none, vPr (k 0), E, ofV T (ofV T C), D)
      else none)
    else none)
  else if i = 3 then some ([(ofV H (ofV T C), E), (vFn (k 0), S)], none, vPr (k 1), E, ofV T (ofV T C), D)
  else if i = 4 then
    (if kV (ofV H S) = 4 then some ([(ofV T C, D), (E, vPr (k 0)), (ofV T (ofV T S), vPr (k 1)), (ofV H (ofV T S), ofV T (ofV H S))], none, vNil, vPr (k 3), ofV H (ofV H S), vPr (k 2)) else none)
  else if i = 5 then some ([(ofV H S, ofV H D)], none, vPr (k 0), ofV H (ofV T D), ofV H (ofV T (ofV T D)), ofV T (ofV T (ofV T D)))
  else if i = 6 then some ([(vNil, E)], none, S, vPr (k 0), ofV T C, D)
  else if i = 7 then
    (if kV (ofV H S) = 4 then some ([(ofV T C, D), (ofV T E, vPr (k 0)), (ofV T (ofV T S), vPr (k 1))], some (ofV T (ofV H S), ofV H (ofV T S)), vNil, ofV T (ofV H S), ofV H (ofV H S), vPr (k 2)) else none)
  else if i = 8 then
    (if kV (ofV H S) = 1 then some ([(ofV T (ofV T (ofV T C)), D)], none, ofV T S, E, if iV (ofV H S) = 0 then ofV H (ofV T (ofV T C)) else ofV H (ofV T C), vPr (k 0)) else none)
  else if i = 9 then some ([], none, S, E, ofV H D, ofV T D)
  else if i = 10 then (if kV (ofV H S) = 3 then some ([(ofV H (ofV H S), ofV T S)], none, vPr (k 0), E, ofV T C, D) else none)
  else if i = 11 then (if kV (ofV H S) = 3 then some ([(ofV T (ofV H S), ofV T S)], none, vPr (k 0), E, ofV T C, D) else none)
  else if i = 12 then some ([(vInt (if kV (ofV H S) = 3 then 0 else 1), ofV T S)], none, vPr (k 0), E, ofV T C, D)
  else if i = 13 then some ([(ofV H S, ofV H (ofV T S)), (vPr (k 0), ofV T (ofV T S))], none, vPr (k 1), E, ofV T C, D)
  else if i = 14 then some ([(vInt (if smV (ofV H (ofV T S)) (ofV H S) = true then 1 else 0), ofV T (ofV T S))], none, vPr (k 0), E, ofV T C, D)
  else (if kV (ofV H (ofV T S)) = 1 ∧ kV (ofV H S) = 1 then some ([(vInt (calV i (iV (ofV H (ofV T S))) (iV (ofV H S))), ofV T (ofV T S))], none, vPr (k 0), E, ofV T C, D) else none)
def alH (k : Nat → Nat) : Nat → List (Vl × Vl) → (Nat → Vl) → Nat → Vl
  | _, [], H => H
  | j, x :: l, H => alH k (j + 1) l (upW H (k j) x.1)
def alT (k : Nat → Nat) : Nat → List (Vl × Vl) → (Nat → Vl) → Nat → Vl
  | _, [], T => T
  | j, x :: l, T => alT k (j + 1) l (upW T (k j) x.2)
def stH : Option (Vl × Vl) → (Nat → Vl) → Nat → Vl
  | some (.inr (.inr (.inr (.inl i))), v), H => upW H i v
  | _, H => H
def VR (ρ : Nat → Nat → Prop) : Vl → Vl → Prop
  | .inl _, .inl _ => True
  | .inr (.inl x), .inr (.inl y) => x = y
  | .inr (.inr (.inl x)), .inr (.inr (.inl y)) => x = y
  | .inr (.inr (.inr (.inl a))), .inr (.inr (.inr (.inl b))) => ρ a b
  | .inr (.inr (.inr (.inr a))), .inr (.inr (.inr (.inr b))) => ρ a b
  | _, _ => False
def BH (ρ : Nat → Nat → Prop) (H T H' T' : Nat → Vl) : Prop := ∀ a b, ρ a b → VR ρ (H a) (H' b) ∧ VR ρ (T a) (T' b)
def FI (ρ : Nat → Nat → Prop) : Prop := (∀ a b b', ρ a b → ρ a b' → b = b') ∧ ∀ a a' b, ρ a b → ρ a' b → a = a'
def exR (ρ : Nat → Nat → Prop) (k k' : Nat → Nat) (n : Nat) : Nat → Nat → Prop := fun a b => ρ a b ∨ ∃ j, j < n ∧ a = k j ∧ b = k' j
def FRS (ρ : Nat → Nat → Prop) (k k' : Nat → Nat) (n : Nat) : Prop := ∀ j, j < n → ((∀ b, ¬ ρ (k j) b) ∧ ∀ a, ¬ ρ a (k' j)) ∧ ∀ i, i < n → ¬ i = j → ¬ k i = k j ∧ ¬ k' i = k' j
section ZKA
variable {ρ ρ' : Nat → Nat → Prop} {H T H' T' : Nat → Vl} {v w : Vl}
theorem VR_mono (h : ∀ a b, ρ a b → ρ' a b) : ∀ (v w : Vl), VR ρ v w → VR ρ' v w := by
  intro v w q
  rcases v with u | x | x | a | a <;> rcases w with u | y | y | b | b <;> first | exact q | exact h _ _ q | exact absurd q id
theorem VR_k (q : VR ρ v w) : kV v = kV w := by
  rcases v with u | x | x | a | a <;> rcases w with u | y | y | b | b <;> first | rfl | exact absurd q id
theorem VR_i (q : VR ρ v w) : iV v = iV w := by
  rcases v with u | x | x | a | a <;> rcases w with u | y | y | b | b <;> first | rfl | exact q | exact absurd q id
theorem VR_H (hB : BH ρ H T H' T') (q : VR ρ v w) : VR ρ (ofV H v) (ofV H' w) := by
  rcases v with u | x | x | a | a <;> rcases w with u | y | y | b | b <;> first | exact trivial | exact (hB _ _ q).1 | exact absurd q id
theorem VR_T (hB : BH ρ H T H' T') (q : VR ρ v w) : VR ρ (ofV T v) (ofV T' w) := by
  rcases v with u | x | x | a | a <;> rcases w with u | y | y | b | b <;> first | exact trivial | exact (hB _ _ q).2 | exact absurd q id
theorem VR_beh (hB : BH ρ H T H' T') : ∀ (n : Nat) (v w : Vl), VR ρ v w → VR ρ (behV T n v) (behV T' n w)
  | 0, v, w, q => q
  | n + 1, v, w, q => by
    rcases v with u | x | x | a | a <;> rcases w with u | y | y | b | b <;> first | exact VR_beh hB n _ _ (hB _ _ q).2 | exact q | exact absurd q id
theorem VR_sm {x y x' y' : Vl} (hF : FI ρ) (q : VR ρ x x') (p : VR ρ y y') : smV x y = smV x' y' := by
  rcases x with u | a | a | a | a <;> rcases x' with u | b | b | b | b <;> first | exact absurd q id | skip
  all_goals rcases y with u | c | c | c | c <;> rcases y' with u | d | d | d | d <;> first | exact absurd p id | rfl | skip
  · have q : a = b := q
    have p : c = d := p
    rw [q, p]
  · have q : a = b := q
    have p : c = d := p
    rw [q, p]
theorem alH_out {k : Nat → Nat} {a : Nat} : ∀ (l : List (Vl × Vl)) (j : Nat) (H : Nat → Vl), (∀ i, i < l.length → ¬ a = k (j + i)) → alH k j l H a = H a
  | [], j, H, _ => rfl
  | x :: l, j, H, h => by
    show alH k (j + 1) l (upW H (k j) x.1) a = H a
    rw [alH_out l (j + 1) _ (fun i hi => by
      have := h (i + 1) (Nat.succ_lt_succ hi)
      rw [show j + 1 + i = j + (i + 1) by omega]
      exact this)]
    exact if_neg (h 0 (Nat.succ_pos _))
theorem alT_out {k : Nat → Nat} {a : Nat} : ∀ (l : List (Vl × Vl)) (j : Nat) (H : Nat → Vl), (∀ i, i < l.length → ¬ a = k (j + i)) → alT k j l H a = H a
  | [], j, H, _ => rfl
  | x :: l, j, H, h => by
    show alT k (j + 1) l (upW H (k j) x.2) a = H a
    rw [alT_out l (j + 1) _ (fun i hi => by
      have := h (i + 1) (Nat.succ_lt_succ hi)
      rw [show j + 1 + i = j + (i + 1) by omega]
      exact this)]
    exact if_neg (h 0 (Nat.succ_pos _))
theorem alH_in {k : Nat → Nat} : ∀ (l : List (Vl × Vl)) (j : Nat) (H : Nat → Vl) (i : Nat) (x : Vl × Vl), l[i]? = some x → (∀ i i', i < l.length → i' < l.length → ¬ i = i' → ¬ k (j + i) = k (j + i')) → alH k j l H (k (j + i)) = x.1 ∧ alT k j l H (k (j + i)) = x.2
  | [], j, H, i, x, h, _ => by cases h
  | y :: l, j, H, 0, x, h, hd => by
    cases h
    have hne : ∀ i, i < l.length → ¬ k (j + 0) = k (j + 1 + i) := fun i hi => by
      have := hd 0 (i + 1) (Nat.succ_pos _) (Nat.succ_lt_succ hi) (by omega)
      rw [show j + 1 + i = j + (i + 1) by omega]
      exact this
    constructor
    · show alH k (j + 1) l (upW H (k j) y.1) (k (j + 0)) = y.1
      rw [alH_out l (j + 1) _ hne]
      exact if_pos rfl
    · show alT k (j + 1) l (upW H (k j) y.2) (k (j + 0)) = y.2
      rw [alT_out l (j + 1) _ hne]
      exact if_pos rfl
  | y :: l, j, H, i + 1, x, h, hd => by
    have hd2 : ∀ i i', i < l.length → i' < l.length → ¬ i = i' → ¬ k (j + 1 + i) = k (j + 1 + i') := fun a b ha hb hab => by
      have := hd (a + 1) (b + 1) (Nat.succ_lt_succ ha) (Nat.succ_lt_succ hb) (by omega)
      rw [show j + 1 + a = j + (a + 1) by omega, show j + 1 + b = j + (b + 1) by omega]
      exact this
    have e : j + (i + 1) = j + 1 + i := by omega
    rw [e]
    exact ⟨(alH_in l (j + 1) (upW H (k j) y.1) i x h hd2).1, (alH_in l (j + 1) (upW H (k j) y.2) i x h hd2).2⟩
theorem BH_al {k k' : Nat → Nat} {al al' : List (Vl × Vl)} (hB : BH ρ H T H' T') (hF : FRS ρ k k' al.length) (hl : al.length = al'.length) (hv : ∀ (i : Nat) (x x' : Vl × Vl), al[i]? = some x → al'[i]? = some x' → VR (exR ρ k k' al.length) x.1 x'.1 ∧ VR (exR ρ k k' al.length) x.2 x'.2) : BH (exR ρ k k' al.length) (alH k 0 al H) (alT k 0 al T) (alH k' 0 al' H') (alT k' 0 al' T') := by
  intro a b hab
  rcases hab with h | ⟨j, hj, rfl, rfl⟩
  · have n1 : ∀ i, i < al.length → ¬ a = k (0 + i) := fun i hi e => by
      rw [Nat.zero_add] at e
      exact (hF i hi).1.1 b (e ▸ h)
    have n2 : ∀ i, i < al'.length → ¬ b = k' (0 + i) := fun i hi e => by
      rw [Nat.zero_add] at e
      exact (hF i (by omega)).1.2 a (e ▸ h)
    rw [alH_out al 0 H n1, alT_out al 0 T n1, alH_out al' 0 H' n2, alT_out al' 0 T' n2]
    exact ⟨VR_mono (fun _ _ => Or.inl) _ _ (hB a b h).1, VR_mono (fun _ _ => Or.inl) _ _ (hB a b h).2⟩
  · have g1 : al[j]? = some al[j] := List.getElem?_eq_getElem hj
    have g2 : al'[j]? = some al'[j] := List.getElem?_eq_getElem (by omega)
    have d1 : ∀ i i', i < al.length → i' < al.length → ¬ i = i' → ¬ k (0 + i) = k (0 + i') := fun i i' p1 p2 p3 => by
      rw [Nat.zero_add, Nat.zero_add]
      exact ((hF i' p2).2 i p1 p3).1
    have d2 : ∀ i i', i < al'.length → i' < al'.length → ¬ i = i' → ¬ k' (0 + i) = k' (0 + i') := fun i i' p1 p2 p3 => by
      rw [Nat.zero_add, Nat.zero_add]
      exact ((hF i' (by omega)).2 i (by omega) p3).2
    have q1 := (alH_in al 0 H j _ g1 d1).1
    have q2 := (alH_in al 0 T j _ g1 d1).2
    have q3 := (alH_in al' 0 H' j _ g2 d2).1
    have q4 := (alH_in al' 0 T' j _ g2 d2).2
    rw [Nat.zero_add] at q1 q2 q3 q4
    rw [q1, q2, q3, q4]
    exact hv j _ _ g1 g2
theorem FI_ex {k k' : Nat → Nat} {n : Nat} (hI : FI ρ) (hF : FRS ρ k k' n) : FI (exR ρ k k' n) := by
  constructor
  · rintro a b b' (h | ⟨j, hj, rfl, rfl⟩) (h' | ⟨j', hj', e, rfl⟩)
    · exact hI.1 a b b' h h'
    · rw [e] at h
      exact absurd h ((hF j' hj').1.1 b)
    · exact absurd h' ((hF j hj).1.1 b')
    · by_cases q : j = j'
      · rw [q]
      · exact absurd e ((hF j' hj').2 j hj q).1
  · rintro a a' b (h | ⟨j, hj, rfl, rfl⟩) (h' | ⟨j', hj', rfl, e⟩)
    · exact hI.2 a a' b h h'
    · rw [e] at h
      exact absurd h ((hF j' hj').1.2 a)
    · exact absurd h' ((hF j hj).1.2 a')
    · by_cases q : j = j'
      · rw [q]
      · exact absurd e ((hF j' hj').2 j hj q).2
theorem BH_st {x x' y y' : Vl} (hI : FI ρ) (hB : BH ρ H T H' T') (q : VR ρ x x') (p : VR ρ y y') : BH ρ (stH (some (x, y)) H) T (stH (some (x', y')) H') T' := by
  rcases x with u | c | c | c | c <;> rcases x' with u | d | d | d | d <;> first | exact absurd q id | exact hB | skip
  intro a b hab
  refine ⟨?_, (hB a b hab).2⟩
  show VR ρ (upW H c y a) (upW H' d y' b)
  unfold upW
  by_cases e : a = c
  · subst e
    rw [if_pos rfl, if_pos (hI.1 a b d hab q)]
    exact p
  · rw [if_neg e, if_neg (fun e2 => e (by subst e2; exact hI.2 a c b hab q))]
    exact (hB a b hab).1
end ZKA
end
