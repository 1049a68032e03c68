def shOK (r : rM) : Prop := ∃ n, n ≤ 120 ∧ r.shown = nI n
def rnS (r : rM) : Prop := r.state = 1 ∨ r.state = 2 ∨ r.state = 3 ∨ r.state = 4
theorem kp_sh {r r' : rM} (h : kp r r') (hs : shOK r) : shOK r' := by
  obtain ⟨n, hn, e⟩ := hs
  exact ⟨n, hn, h.2.2.2.2.1.trans e⟩
def stG (b0 b1 : Nat) (op : Bool) (tl : List mj_O) (Q : mj_R → Prop) (s : cS) (r : rM) (R : Vl) : Prop := ∀ (r' : rM) (H' T' : Nat → Vl) (ro' : Nat → Bool) (S' E' C' D' : Vl) (k' : Sk) (n' : Nat) (b' : Bool) (e' : En), kc r r' → mkOK r' → rnS r' → shOK r' → RX r' H' T' S' E' C' D' R → TI H' T' ro' (Ur r') S' E' C' D' R k' n' b' e' → Q (.inl none, (cW s (rW r' tl), b0, b1, op))
theorem inU_beh {H T : Nat → Vl} {ro : Nat → Bool} {U : Nat → Prop} (hS : SI H T ro U) : ∀ (k : Nat) (v : Vl), inU U v → inU U (behV T k v)
  | 0, v, h => h
  | k + 1, v, h => by
    rcases v with u | x | x | i | i
    · exact h
    · exact h
    · exact h
    · exact inU_beh hS k (T i) (SI_t hS (inU_pr h))
    · exact h
theorem kV_pr {v : Vl} (h : kV v = 3) : ∃ a, v = vPr a := by
  rcases v with u | x | x | i | i
  · cases h
  · cases h
  · cases h
  · exact ⟨i, rfl⟩
  · cases h
section RST
variable {cst : Nat → Option (Nat × (Nat → Int32))} {m b0 b1 : Nat} {op : Bool} {tl : List mj_O} {Q : mj_R → Prop} {s : cS} {r : rM} {H T : Nat → Vl} {ro : Nat → Bool} {S E D R : Vl} {k : Sk} {n : Nat} {b : Bool} {e : En} {J : Nat → mj_L → List Value → mj_H → Prop} {c : Nat}
set_option maxRecDepth 10000
theorem rg_U {v : Vl} {x : Int32} (h : rg r v x) : inU (Ur r) v := by
  intro a ea
  rcases h with ⟨rfl, -⟩ | ⟨i, rfl, -, h3, -⟩
  · cases ea
  · cases ea
    exact h3
theorem rg_pr {a : Nat} {x : Int32} (h : rg r (vPr a) x) : x = nI a ∧ Ur r a := by
  rcases h with ⟨h1, -⟩ | ⟨i, h1, h2, h3, -⟩
  · cases h1
  · cases h1
    exact ⟨h2, h3⟩
theorem A_pushC {r3 : rM} {v X : Vl} {kk : Nat} {y : Int32} (hX : RX r H T S E (vPr c) D R) {S' : Vl} (hm : mkd r r3 H T kk v S') (g : r3.reg = upd r.reg 0 (nI kk)) (hy : rg r3 X y) : RX (sR r3 (upd r3.reg 2 y)) (upW H kk v) (upW T kk S') (vPr kk) E X D R ∧ Ur (sR r3 (upd r3.reg 2 y)) = addU (Ur r) kk := by
  obtain ⟨⟨m1, -⟩, ⟨m2, m3, m4⟩, m5, m6, m7, m8⟩ := hm
  obtain ⟨hB, x0, x1, x2, x3, x4⟩ := hX
  refine ⟨⟨sm_RB sm_sR m5, ?_, ?_, sm_rg sm_sR hy, ?_, ?_⟩, (sm_Ur sm_sR).trans m6⟩
  · show rg _ _ (r3.reg 0)
    rw [g]
    exact sm_rg sm_sR m8
  · show rg _ _ (r3.reg 1)
    rw [g]
    exact sm_rg sm_sR (rg_up m4 x1)
  · show rg _ _ (r3.reg 3)
    rw [g]
    exact sm_rg sm_sR (rg_up m4 x3)
  · show rg _ _ (r3.reg 4)
    rw [g]
    exact sm_rg sm_sR (rg_up m4 x4)
theorem A_rest {r3 : rM} {h t : Vl} {kk d : Nat} (hm : mkd r r3 H T kk h t) (ud : Ur r d) (l : isL_ (T d)) : rg r3 (T d) (rsN r3 d) := by
  obtain ⟨⟨m1, -⟩, ⟨m2, m3, m4⟩, m5, m6, m7, m8⟩ := hm
  have hne : ¬ d = kk := fun e => m1 (e ▸ ud)
  have e1 : upW T kk t d = T d := if_neg hne
  have := rs_rg m5 (m4.2 d ud).1 (by rw [e1]; exact l)
  rwa [e1] at this
theorem A_1 (hX : RX r H T S E (vPr c) D R) (hT : TI H T ro (Ur r) S E (vPr c) D R k n b e) (hst : r.state = 1) (hmk : mkOK r) (hsh : shOK r) {d : Nat} {t : Bool} {f : Nat} (eT : T c = vPr d) (hH : t = true → H d = vNil) (hw : wt H T ro f (T d) (t :: k) n false e) (hf : 1 ≤ fz r) (hQ : stG b0 b1 op tl Q s r R) (F : Nat) : mj_sg (mj_Mt gT cst gnw (m + 4)) cst gnw (mj_hd (mj_off kO_R_step) kH_R_step) kC_R_step J Q (F + 150) false 40 [some (.ref 27), some (.int (nI c)), some (.int 1), none, none] [.int (rsN r c)] (cW s (rW r tl), b0, b1, op) := by
  obtain ⟨hS, ⟨uS, tS_⟩, ⟨uE, tE⟩, ⟨uC, tC⟩, ⟨uD, tD⟩, tb⟩ := hT
  have hT0 : TI H T ro (Ur r) S E (vPr c) D R k n b e := ⟨hS, ⟨uS, tS_⟩, ⟨uE, tE⟩, ⟨uC, tC⟩, ⟨uD, tD⟩, tb⟩
  have hX0 := hX
  obtain ⟨hB, x0, x1, x2, x3, x4⟩ := hX
  have uc := inU_pr uC
  clear tC
  refine And.intro (fun (g : ¬ (1 : Int32) = 1) => absurd rfl g) (fun _ => ?_)
  have ud := SI_tp hS.1 uc eT
  have hd := Ur_lt hB ud
  have ed : rsN r c = nI d := rs_pr hB uc eT
  rw [ed]
  have ek : (nI d).toNatClampNeg = d := nI_clamp (by omega)
  refine And.intro (vp_in_nI hd (by decide)) ?_
  rw [ek]
  refine And.intro (vp_in_nI hd (by decide)) ?_
  rw [ek]
  refine R_push (S := S) (h := H d) hB hf (hB.2.1 d ud).1 x0 (fun kk r3 hm g3 => ?_)
  refine R_rest rfl hd ?_
  refine And.intro i52 ?_
  have hl : isL_ (T d) := isL_wtx ⟨f, hw⟩
  obtain ⟨w1, w2⟩ := A_pushC hX0 hm g3 (A_rest hm ud hl)
  obtain ⟨⟨m1, -⟩, ⟨m2, m3, m4⟩, -⟩ := hm
  have kk2 := kp_tr m2 (kp_sR (r := r3) (f := upd r3.reg 2 (rsN r3 d)))
  refine hQ _ _ _ (upW ro kk false) _ _ _ _ (t :: k) n false e (kp_kc kk2) (kp_mk kk2 hmk) (Or.inl (m3.trans hst)) (kp_sh kk2 hsh) w1 ?_
  rw [w2]
  exact T_push hS m1 (SI_h hS.1 ud) (hS.1 d ud).2.1.1 (fun q => ⟨0, hH q⟩) ⟨uS, tS_⟩ ⟨uE, tE⟩ ⟨SI_t hS.1 ud, f, hw⟩ ⟨uD, tD⟩
theorem A_2 (hX : RX r H T S E (vPr c) D R) (hT : TI H T ro (Ur r) S E (vPr c) D R k n b e) (hst : r.state = 1) (hmk : mkOK r) (hsh : shOK r) {d x f : Nat} (eT : T c = vPr d) (hx : x < 10000) (hH : H d = vInt (nI x)) (hw : wt H T ro f (T d) (false :: k) n false e) (hf : 1 ≤ fz r) (hQ : stG b0 b1 op tl Q s r R) (F : Nat) : mj_sg (mj_Mt gT cst gnw (m + 4)) cst gnw (mj_hd (mj_off kO_R_step) kH_R_step) kC_R_step J Q (F + 150) false 40 [some (.ref 27), some (.int (nI c)), some (.int 2), none, none] [.int (rsN r c)] (cW s (rW r tl), b0, b1, op) := by
  obtain ⟨hS, ⟨uS, tS_⟩, ⟨uE, tE⟩, ⟨uC, tC⟩, ⟨uD, tD⟩, tb⟩ := hT
  have hT0 : TI H T ro (Ur r) S E (vPr c) D R k n b e := ⟨hS, ⟨uS, tS_⟩, ⟨uE, tE⟩, ⟨uC, tC⟩, ⟨uD, tD⟩, tb⟩
  have hX0 := hX
  obtain ⟨hB, x0, x1, x2, x3, x4⟩ := hX
  have uc := inU_pr uC
  clear tC
  refine And.intro (fun _ => ?_) (fun (g : (2 : Int32) = 1) => absurd g (by decide))
  refine And.intro (fun (g : ¬ (2 : Int32) = 2) => absurd rfl g) (fun _ => ?_)
  have ud := SI_tp hS.1 uc eT
  have hd := Ur_lt hB ud
  have ed : rsN r c = nI d := rs_pr hB uc eT
  rw [ed]
  have ek : (nI d).toNatClampNeg = d := nI_clamp (by omega)
  refine And.intro (vp_in_nI hd (by decide)) ?_
  rw [ek]
  have eh : r.head d = nI x := by
    have := (hB.2.1 d ud).1
    rw [hH] at this
    exact this.2
  rw [eh]
  refine R_rest rfl hd ?_
  have hl : isL_ (T d) := isL_wtx ⟨f, hw⟩
  refine R_look (C' := T d) (ro := ro) hx hX0 hf (env_0 tE) (fun a ua hra => (hS.1 a ua).2.2 hra) (rs_rg hB ud hl) (fun r' q1 q2 q3 q4 _ => ?_) (fun kk r' m1 q1 q2 q5 q6 q3 q4 => ?_)
  · exact hQ r' H T ro _ _ _ _ k n b e (kp_kc q1) (kp_mk q1 hmk) (Or.inr (Or.inr (Or.inl q2))) (kp_sh q1 hsh) q3 (by rw [q4]; exact hT0)
  · obtain ⟨a, ea⟩ := kV_pr q6
    have ue := inU_beh hS.1 (x / 16) E uE
    obtain ⟨a0, ea0⟩ := kV_pr q5
    rw [ea0] at ue
    have ua0 := inU_pr ue
    have uv : inU (Ur r) (behV T (x % 16) (ofV H (behV T (x / 16) E))) := by
      rw [ea0]
      exact inU_beh hS.1 _ _ (SI_h hS.1 ua0)
    rw [ea] at uv
    have ua := inU_pr uv
    have e9 : ofV H (behV T (x % 16) (ofV H (behV T (x / 16) E))) = H a := by rw [ea]; rfl
    rw [e9] at q3
    refine hQ r' _ _ (upW ro kk false) _ _ _ _ (false :: k) n false e (kp_kc q1) (kp_mk q1 hmk) (Or.inl (q2.trans hst)) (kp_sh q1 hsh) q3 ?_
    rw [q4]
    exact T_push hS m1 (SI_h hS.1 ua) (hS.1 a ua).2.1.1 (fun q => by cases q) ⟨uS, tS_⟩ ⟨uE, tE⟩ ⟨SI_t hS.1 ud, f, hw⟩ ⟨uD, tD⟩
theorem A_3 (hX : RX r H T S E (vPr c) D R) (hT : TI H T ro (Ur r) S E (vPr c) D R k n b e) (hst : r.state = 1) (hmk : mkOK r) (hsh : shOK r) {d f : Nat} (eT : T c = vPr d) (hv : wt H T ro f (H d) [] 1 false eRet) (hw : wt H T ro f (T d) (false :: k) n (decide (0 < n)) e) (hf : 2 ≤ fz r) (hQ : stG b0 b1 op tl Q s r R) (F : Nat) : mj_sg (mj_Mt gT cst gnw (m + 4)) cst gnw (mj_hd (mj_off kO_R_step) kH_R_step) kC_R_step J Q (F + 150) false 40 [some (.ref 27), some (.int (nI c)), some (.int 3), none, none] [.int (rsN r c)] (cW s (rW r tl), b0, b1, op) := by
  obtain ⟨hS, ⟨uS, tS_⟩, ⟨uE, tE⟩, ⟨uC, tC⟩, ⟨uD, tD⟩, tb⟩ := hT
  have hT0 : TI H T ro (Ur r) S E (vPr c) D R k n b e := ⟨hS, ⟨uS, tS_⟩, ⟨uE, tE⟩, ⟨uC, tC⟩, ⟨uD, tD⟩, tb⟩
  have hX0 := hX
  obtain ⟨hB, x0, x1, x2, x3, x4⟩ := hX
  have uc := inU_pr uC
  clear tC
  refine And.intro (fun _ => ?_) (fun (g : (3 : Int32) = 1) => absurd g (by decide))
  refine And.intro (fun _ => ?_) (fun (g : (3 : Int32) = 2) => absurd g (by decide))
  refine And.intro (fun (g : ¬ (3 : Int32) = 3) => absurd rfl g) (fun _ => ?_)
  have ud := SI_tp hS.1 uc eT
  have hd := Ur_lt hB ud
  have ed : rsN r c = nI d := rs_pr hB uc eT
  rw [ed]
  have hlH : isL_ (H d) := isL_wtx ⟨f, hv⟩
  have hlT : isL_ (T d) := isL_wtx ⟨f, hw⟩
  refine R_headList rfl hd ?_
  refine And.intro i51 ?_
  refine R_makeOf (h := H d) (t := E) hB (by omega) (hl_rg hB ud hlH) x1 (fun k1 r1 hm g1 _ => ?_)
  have hm0 := hm
  obtain ⟨⟨m1, mk1⟩, ⟨m2, m3, m4⟩, m5, m6, m7, m8⟩ := hm
  have ek : (nI k1).toNatClampNeg = k1 := nI_clamp (by omega)
  refine And.intro (vp_in_nI mk1 (by decide)) ?_
  rw [ek]
  change mj_sg _ _ _ _ _ _ _ _ _ 93 _ _ (cW s (rW (fnR r1 k1) tl), b0, b1, op)
  have nk : ∀ {v : Vl}, inU (Ur r) v → ¬ ceV v = some k1 := fun hv q => m1 (hv k1 q)
  have uk1 : Ur r1 k1 := by rw [m6]; exact Or.inr rfl
  obtain ⟨f1, f2, f3, f4, f5⟩ := fn_ok (k := k1) m5 uk1 (fun i hi => by
    rw [m6] at hi
    by_cases ei : i = k1
    · subst ei
      have e1 : upW H i (H d) i = H d := if_pos rfl
      have e2 : upW T i E i = E := if_pos rfl
      rw [e1, e2]
      exact ⟨nk (SI_h hS.1 ud), nk uE⟩
    · have ui := hi.resolve_right ei
      have e1 : upW H k1 (H d) i = H i := if_neg ei
      have e2 : upW T k1 E i = T i := if_neg ei
      rw [e1, e2]
      exact ⟨nk (SI_h hS.1 ui), nk (SI_t hS.1 ui)⟩)
  have ux : ∀ {v : Vl} {x : Int32}, rg r v x → rg (fnR r1 k1) v x := fun h => f5 _ _ (rg_up m4 h) (nk (rg_U h))
  have hX1 : RX (fnR r1 k1) (upW H k1 (H d)) (upW T k1 E) S E (vPr c) D R := by
    refine ⟨f1, ?_, ?_, ?_, ?_, ?_⟩
    · show rg _ _ (r1.reg 0)
      rw [g1]
      exact ux x0
    · show rg _ _ (r1.reg 1)
      rw [g1]
      exact ux x1
    · show rg _ _ (r1.reg 2)
      rw [g1]
      exact ux x2
    · show rg _ _ (r1.reg 3)
      rw [g1]
      exact ux x3
    · show rg _ _ (r1.reg 4)
      rw [g1]
      exact ux x4
  have kp1 : kp r (fnR r1 k1) := kp_tr m2 ⟨⟨rfl, rfl, rfl, rfl, rfl⟩, rfl, rfl, rfl, rfl, rfl⟩
  have st1 : (fnR r1 k1).state = 1 := m3.trans hst
  have U1 : Ur (fnR r1 k1) = addU (Ur r) k1 := f2.trans m6
  have fz1 : 1 ≤ fz (fnR r1 k1) := by rw [f3]; omega
  obtain ⟨r2, hr2⟩ : ∃ r2, r2 = fnR r1 k1 := ⟨_, rfl⟩
  rw [← hr2]
  rw [← hr2] at hX1 kp1 st1 U1 fz1 f4
  clear hr2 f1 f2 f3 f5 ux m5 m8
  refine R_push (S := S) (h := vFn k1) hX1.1 fz1 f4 hX1.2.1 (fun k2 r3 hm g3 => ?_)
  refine R_rest rfl hd ?_
  refine And.intro i52 ?_
  have hne : ¬ d = k1 := fun q => m1 (q ▸ ud)
  have e1 : upW T k1 E d = T d := if_neg hne
  have ud2 : Ur r2 d := by rw [U1]; exact Or.inl ud
  have hrs : rg r3 (T d) (rsN r3 d) := by
    have := A_rest hm ud2 (by rw [e1]; exact hlT)
    rwa [e1] at this
  obtain ⟨w1, w2⟩ := A_pushC hX1 hm g3 hrs
  obtain ⟨⟨n1, -⟩, ⟨n2, n3, n4⟩, -⟩ := hm
  rw [U1] at n1 w2
  have kk2 := kp_tr kp1 (kp_tr n2 (kp_sR (r := r3) (f := upd r3.reg 2 (rsN r3 d))))
  refine hQ _ _ _ (upW (upW ro k1 false) k2 false) _ _ _ _ (false :: k) n (decide (0 < n)) e (kp_kc kk2) (kp_mk kk2 hmk) (Or.inl (n3.trans st1)) (kp_sh kk2 hsh) w1 ?_
  rw [w2]
  exact T_fun hS m1 n1 (SI_h hS.1 ud) ⟨f, hv⟩ ⟨uS, tS_⟩ ⟨uE, tE⟩ ⟨SI_t hS.1 ud, f, hw⟩ ⟨uD, tD⟩
theorem A_4 (hX : RX r H T S E (vPr c) D R) (hT : TI H T ro (Ur r) S E (vPr c) D R k n b e) (hst : r.state = 1) (hmk : mkOK r) (hsh : shOK r) {x : Bool} {k' : Sk} {f : Nat} (hk : k = x :: true :: k') (hw : wt H T ro f (T c) (false :: k') n false e) (hf : 4 ≤ fz r) (hQ : stG b0 b1 op tl Q s r R) (F : Nat) : mj_sg (mj_Mt gT cst gnw (m + 4)) cst gnw (mj_hd (mj_off kO_R_step) kH_R_step) kC_R_step J Q (F + 150) false 40 [some (.ref 27), some (.int (nI c)), some (.int 4), none, none] [.int (rsN r c)] (cW s (rW r tl), b0, b1, op) := by
  obtain ⟨hS, ⟨uS, tS_⟩, ⟨uE, tE⟩, ⟨uC, tC⟩, ⟨uD, tD⟩, tb⟩ := hT
  have hT0 : TI H T ro (Ur r) S E (vPr c) D R k n b e := ⟨hS, ⟨uS, tS_⟩, ⟨uE, tE⟩, ⟨uC, tC⟩, ⟨uD, tD⟩, tb⟩
  have hX0 := hX
  obtain ⟨hB, x0, x1, x2, x3, x4⟩ := hX
  have uc := inU_pr uC
  clear tC
  refine And.intro (fun _ => ?_) (fun (g : (4 : Int32) = 1) => absurd g (by decide))
  refine And.intro (fun _ => ?_) (fun (g : (4 : Int32) = 2) => absurd g (by decide))
  refine And.intro (fun _ => ?_) (fun (g : (4 : Int32) = 3) => absurd g (by decide))
  refine And.intro (fun _ => ?_) (fun (g : ¬ (4 : Int32) = 4) => absurd rfl g)
  refine And.intro (fun _ => ?_) (fun (g : (4 : Int32) = 7) => absurd g (by decide))
  subst hk
  obtain ⟨a, rfl, ua, ⟨uTa, tTa⟩, ⟨uHa, gHa⟩, -⟩ := stk_top hS.1 ⟨uS, tS_⟩
  obtain ⟨a2, eTa, ua2, ⟨uTa2, tTa2⟩, ⟨uHa2, gHa2⟩, lHa2⟩ := stk_top hS.1 ⟨uTa, tTa⟩
  have hlT : isL_ (T a2) := isL_stk tTa2
  refine R_call4 (C' := T c) hX0 hf eTa hlT (rs_rg hB uc (isL_wtx ⟨f, hw⟩)) (fun g eg => ?_) (fun r' q1 q2 q3 q4 _ => ?_) (fun k1 k2 k3 k4 g r' n1 n2 n3 n4 q1 q2 eg ug q3 q4 => ?_)
  · rw [eg] at gHa
    obtain ⟨-, g2, g3⟩ := gHa g rfl
    exact ⟨isL_isE g3, isL_wtx g2⟩
  · exact hQ r' H T ro _ _ _ _ (x :: true :: k') n b e (kp_kc q1) (kp_mk q1 hmk) (Or.inr (Or.inr (Or.inl q2))) (kp_sh q1 hsh) q3 (by rw [q4]; exact hT0)
  · refine hQ r' _ _ (upW (upW (upW (upW ro k1 false) k2 false) k3 false) k4 true) _ _ _ _ [] 1 false eRet (kp_kc q1) (kp_mk q1 hmk) (Or.inl (q2.trans hst)) (kp_sh q1 hsh) q3 ?_
    rw [q4]
    exact T_call hS n1 n2 n3 n4 ⟨uTa2, tTa2⟩ ⟨uE, tE⟩ ⟨SI_t hS.1 uc, f, hw⟩ ⟨uD, tD⟩ ⟨uHa2, gHa2⟩ (lHa2 rfl) ug (by rw [← eg]; exact gHa)
theorem A_7 (hX : RX r H T S E (vPr c) D R) (hT : TI H T ro (Ur r) S E (vPr c) D R k n b e) (hst : r.state = 1) (hmk : mkOK r) (hsh : shOK r) {x : Bool} {k' : Sk} {f : Nat} (hk : k = x :: true :: k') (hn : 1 ≤ n) (hb : b = true) (hw : wt H T ro f (T c) (false :: k') (n - 1) false e) (hf : 3 ≤ fz r) (hQ : stG b0 b1 op tl Q s r R) (F : Nat) : mj_sg (mj_Mt gT cst gnw (m + 4)) cst gnw (mj_hd (mj_off kO_R_step) kH_R_step) kC_R_step J Q (F + 150) false 40 [some (.ref 27), some (.int (nI c)), some (.int 7), none, none] [.int (rsN r c)] (cW s (rW r tl), b0, b1, op) := by
  obtain ⟨hS, ⟨uS, tS_⟩, ⟨uE, tE⟩, ⟨uC, tC⟩, ⟨uD, tD⟩, tb⟩ := hT
  have hT0 : TI H T ro (Ur r) S E (vPr c) D R k n b e := ⟨hS, ⟨uS, tS_⟩, ⟨uE, tE⟩, ⟨uC, tC⟩, ⟨uD, tD⟩, tb⟩
  have hX0 := hX
  obtain ⟨hB, x0, x1, x2, x3, x4⟩ := hX
  have uc := inU_pr uC
  clear tC
  refine And.intro (fun _ => ?_) (fun (g : (7 : Int32) = 1) => absurd g (by decide))
  refine And.intro (fun _ => ?_) (fun (g : (7 : Int32) = 2) => absurd g (by decide))
  refine And.intro (fun _ => ?_) (fun (g : (7 : Int32) = 3) => absurd g (by decide))
  refine And.intro (fun (g : (7 : Int32) = 4) => absurd g (by decide)) (fun _ => ?_)
  refine And.intro (fun (g : ¬ (7 : Int32) = 7) => absurd rfl g) (fun _ => ?_)
  refine And.intro (fun (g : ¬ (7 : Int32) = 7) => absurd rfl g) (fun _ => ?_)
  subst hk
  subst hb
  obtain ⟨a, rfl, ua, ⟨uTa, tTa⟩, ⟨uHa, gHa⟩, -⟩ := stk_top hS.1 ⟨uS, tS_⟩
  obtain ⟨a2, eTa, ua2, ⟨uTa2, tTa2⟩, ⟨uHa2, gHa2⟩, lHa2⟩ := stk_top hS.1 ⟨uTa, tTa⟩
  have hlT : isL_ (T a2) := isL_stk tTa2
  obtain ⟨n, rfl⟩ : ∃ j, n = j + 1 := ⟨n - 1, by omega⟩
  obtain ⟨g0, rfl, rg0, tE0⟩ := tE
  have ug0 := inU_pr uE
  obtain ⟨a', f', g', ea', ef', eg', rg'⟩ := tb rfl
  cases ea'
  refine R_call7 (C' := T c) hX0 hf eTa hlT (rs_rg hB uc (isL_wtx ⟨f, hw⟩)) (isL_env tE0) (fun g eg => ?_) (fun r' q1 q2 q3 q4 _ => ?_) (fun k1 k2 k3 g h r' n1 n2 n3 q1 q2 eg ug eh q3 q4 => ?_)
  · rw [ef'] at eg
    cases eg
    rw [ef'] at gHa
    obtain ⟨-, g2, g3⟩ := gHa f' rfl
    exact ⟨⟨g', eg'⟩, isL_wtx g2⟩
  · exact hQ r' H T ro _ _ _ _ (x :: true :: k') (n + 1) true e (kp_kc q1) (kp_mk q1 hmk) (Or.inr (Or.inr (Or.inl q2))) (kp_sh q1 hsh) q3 (by rw [q4]; exact hT0)
  · rw [ef'] at eg
    cases eg
    rw [eg'] at eh
    cases eh
    refine hQ r' _ _ (upW (upW (upW ro k1 false) k2 false) k3 false) _ _ _ _ [] 1 false eRet (kp_kc q1) (kp_mk q1 hmk) (Or.inl (q2.trans hst)) (kp_sh q1 hsh) q3 ?_
    rw [q4]
    exact T_call7 hS n1 n2 n3 ⟨uTa2, tTa2⟩ ⟨SI_t hS.1 ug0, tE0⟩ ⟨SI_t hS.1 uc, f, hw⟩ ⟨uD, tD⟩ ⟨uHa2, gHa2⟩ (lHa2 rfl) ug (by rw [← ef']; exact gHa) eg' rg'
theorem A_5 (hX : RX r H T S E (vPr c) D R) (hT : TI H T ro (Ur r) S E (vPr c) D R k n b e) (hst : r.state = 1) (hmk : mkOK r) (hsh : shOK r) {x : Bool} {k' : Sk} (hk : k = x :: k') (he : e = eRet) (hf : 1 ≤ fz r) (hQ : stG b0 b1 op tl Q s r R) (F : Nat) : mj_sg (mj_Mt gT cst gnw (m + 4)) cst gnw (mj_hd (mj_off kO_R_step) kH_R_step) kC_R_step J Q (F + 150) false 40 [some (.ref 27), some (.int (nI c)), some (.int 5), none, none] [.int (rsN r c)] (cW s (rW r tl), b0, b1, op) := by
  obtain ⟨hS, ⟨uS, tS_⟩, ⟨uE, tE⟩, ⟨uC, tC⟩, ⟨uD, tD⟩, tb⟩ := hT
  have hT0 : TI H T ro (Ur r) S E (vPr c) D R k n b e := ⟨hS, ⟨uS, tS_⟩, ⟨uE, tE⟩, ⟨uC, tC⟩, ⟨uD, tD⟩, tb⟩
  have hX0 := hX
  obtain ⟨hB, x0, x1, x2, x3, x4⟩ := hX
  have uc := inU_pr uC
  clear tC
  refine And.intro (fun _ => ?_) (fun (g : (5 : Int32) = 1) => absurd g (by decide))
  refine And.intro (fun _ => ?_) (fun (g : (5 : Int32) = 2) => absurd g (by decide))
  refine And.intro (fun _ => ?_) (fun (g : (5 : Int32) = 3) => absurd g (by decide))
  refine And.intro (fun (g : (5 : Int32) = 4) => absurd g (by decide)) (fun _ => ?_)
  refine And.intro (fun _ => ?_) (fun (g : (5 : Int32) = 7) => absurd g (by decide))
  refine And.intro (fun (g : ¬ (5 : Int32) = 5) => absurd rfl g) (fun _ => ?_)
  subst hk
  subst he
  obtain ⟨a, rfl, ua, ⟨uTa, tTa⟩, ⟨uHa, gHa⟩, lHa⟩ := stk_top hS.1 ⟨uS, tS_⟩
  have hlT : isL_ (T a) := isL_stk tTa
  obtain ⟨d1, d2, d3, k2, n2, e2, rfl, eD1, eD2, ud1, ud2, ud3, ⟨u1, t1⟩, ⟨u2, t2⟩, ⟨u3, t3⟩, ⟨u4, t4⟩⟩ := dmx_ret hS.1 ⟨uD, tD⟩
  refine R_comeBack (a := a) (d1 := d1) (d2 := d2) (d3 := d3) hB hf (rg_pr x0).1 ua (rg_pr x3).1 ud1 eD1 ud2 eD2 ud3 (isL_stk t1) (isL_env t2) (isL_wtx t3) (isL_dmx t4) x4 (fun kk r' n1 q1 q2 q3 q4 => ?_)
  refine hQ r' _ _ (upW ro kk false) _ _ _ _ (false :: k2) n2 false e2 (kp_kc q1) (kp_mk q1 hmk) (Or.inl (q2.trans hst)) (kp_sh q1 hsh) q3 ?_
  rw [q4]
  exact T_push hS n1 uHa gHa (fun q => by cases q) ⟨u1, t1⟩ ⟨u2, t2⟩ ⟨u3, t3⟩ ⟨u4, t4⟩
theorem A_6 (hX : RX r H T S E (vPr c) D R) (hT : TI H T ro (Ur r) S E (vPr c) D R k n b e) (hst : r.state = 1) (hmk : mkOK r) (hsh : shOK r) {f : Nat} (hw : wt H T ro f (T c) k (n + 1) false e) (hf : 1 ≤ fz r) (hQ : stG b0 b1 op tl Q s r R) (F : Nat) : mj_sg (mj_Mt gT cst gnw (m + 4)) cst gnw (mj_hd (mj_off kO_R_step) kH_R_step) kC_R_step J Q (F + 150) false 40 [some (.ref 27), some (.int (nI c)), some (.int 6), none, none] [.int (rsN r c)] (cW s (rW r tl), b0, b1, op) := by
  obtain ⟨hS, ⟨uS, tS_⟩, ⟨uE, tE⟩, ⟨uC, tC⟩, ⟨uD, tD⟩, tb⟩ := hT
  have hT0 : TI H T ro (Ur r) S E (vPr c) D R k n b e := ⟨hS, ⟨uS, tS_⟩, ⟨uE, tE⟩, ⟨uC, tC⟩, ⟨uD, tD⟩, tb⟩
  have hX0 := hX
  obtain ⟨hB, x0, x1, x2, x3, x4⟩ := hX
  have uc := inU_pr uC
  clear tC
  refine And.intro (fun _ => ?_) (fun (g : (6 : Int32) = 1) => absurd g (by decide))
  refine And.intro (fun _ => ?_) (fun (g : (6 : Int32) = 2) => absurd g (by decide))
  refine And.intro (fun _ => ?_) (fun (g : (6 : Int32) = 3) => absurd g (by decide))
  refine And.intro (fun (g : (6 : Int32) = 4) => absurd g (by decide)) (fun _ => ?_)
  refine And.intro (fun _ => ?_) (fun (g : (6 : Int32) = 7) => absurd g (by decide))
  refine And.intro (fun _ => ?_) (fun (g : (6 : Int32) = 5) => absurd g (by decide))
  refine And.intro (fun (g : ¬ (6 : Int32) = 6) => absurd rfl g) (fun _ => ?_)
  refine And.intro i51 ?_
  refine R_make (h := vNil) (t := E) hB hf ⟨rfl, rfl⟩ x1 (fun kk r1 hm g1 => ?_)
  have hrs := A_rest hm uc (isL_wtx ⟨f, hw⟩)
  obtain ⟨⟨m1, -⟩, ⟨m2, m3, m4⟩, m5, m6, m7, m8⟩ := hm
  refine And.intro i51 ?_
  refine And.intro i52 ?_
  have hrr : rg r1 (T c) (rsN r c) := rg_up m4 (rs_rg hB uc (isL_wtx ⟨f, hw⟩))
  have kk2 := kp_tr m2 (kp_sR (r := r1) (f := upd (upd r1.reg 1 (nI kk)) 2 (rsN r c)))
  refine hQ (sR r1 (upd (upd r1.reg 1 (nI kk)) 2 (rsN r c))) (upW H kk vNil) (upW T kk E) (upW ro kk true) S (vPr kk) (T c) D k (n + 1) false e (kp_kc kk2) (kp_mk kk2 hmk) (Or.inl (m3.trans hst)) (kp_sh kk2 hsh) ⟨sm_RB sm_sR m5, ?_, sm_rg sm_sR m8, sm_rg sm_sR hrr, ?_, ?_⟩ ?_
  · show rg _ _ (r1.reg 0)
    rw [g1]
    exact sm_rg sm_sR (rg_up m4 x0)
  · show rg _ _ (r1.reg 3)
    rw [g1]
    exact sm_rg sm_sR (rg_up m4 x3)
  · show rg _ _ (r1.reg 4)
    rw [g1]
    exact sm_rg sm_sR (rg_up m4 x4)
  · have eU : Ur (sR r1 (upd (upd r1.reg 1 (nI kk)) 2 (rsN r c))) = addU (Ur r) kk := (sm_Ur sm_sR).trans m6
    rw [eU]
    exact T_frame hS m1 ⟨uS, tS_⟩ ⟨uE, tE⟩ ⟨SI_t hS.1 uc, f, hw⟩ ⟨uD, tD⟩
theorem A_8 (hX : RX r H T S E (vPr c) D R) (hT : TI H T ro (Ur r) S E (vPr c) D R k n b e) (hst : r.state = 1) (hmk : mkOK r) (hsh : shOK r) {x : Bool} {k' : Sk} {d q f : Nat} (hk : k = x :: k') (eT : T c = vPr d) (eQ : T d = vPr q) (w1 : wt H T ro f (H d) k' n false (eJoin (false :: k') n)) (w2 : wt H T ro f (H q) k' n false (eJoin (false :: k') n)) (w3 : wt H T ro f (T q) (false :: k') n false e) (hf : 1 ≤ fz r) (hQ : stG b0 b1 op tl Q s r R) (F : Nat) : mj_sg (mj_Mt gT cst gnw (m + 4)) cst gnw (mj_hd (mj_off kO_R_step) kH_R_step) kC_R_step J Q (F + 150) false 40 [some (.ref 27), some (.int (nI c)), some (.int 8), none, none] [.int (rsN r c)] (cW s (rW r tl), b0, b1, op) := by
  obtain ⟨hS, ⟨uS, tS_⟩, ⟨uE, tE⟩, ⟨uC, tC⟩, ⟨uD, tD⟩, tb⟩ := hT
  have hT0 : TI H T ro (Ur r) S E (vPr c) D R k n b e := ⟨hS, ⟨uS, tS_⟩, ⟨uE, tE⟩, ⟨uC, tC⟩, ⟨uD, tD⟩, tb⟩
  have hX0 := hX
  obtain ⟨hB, x0, x1, x2, x3, x4⟩ := hX
  have uc := inU_pr uC
  clear tC
  refine And.intro (fun _ => ?_) (fun (g : (8 : Int32) = 1) => absurd g (by decide))
  refine And.intro (fun _ => ?_) (fun (g : (8 : Int32) = 2) => absurd g (by decide))
  refine And.intro (fun _ => ?_) (fun (g : (8 : Int32) = 3) => absurd g (by decide))
  refine And.intro (fun (g : (8 : Int32) = 4) => absurd g (by decide)) (fun _ => ?_)
  refine And.intro (fun _ => ?_) (fun (g : (8 : Int32) = 7) => absurd g (by decide))
  refine And.intro (fun _ => ?_) (fun (g : (8 : Int32) = 5) => absurd g (by decide))
  refine And.intro (fun _ => ?_) (fun (g : (8 : Int32) = 6) => absurd g (by decide))
  refine And.intro (fun (g : ¬ (8 : Int32) = 8) => absurd rfl g) (fun _ => ?_)
  subst hk
  obtain ⟨a, rfl, ua, ⟨uTa, tTa⟩, ⟨uHa, gHa⟩, lHa⟩ := stk_top hS.1 ⟨uS, tS_⟩
  have hlT : isL_ (T a) := isL_stk tTa
  have ud := SI_tp hS.1 uc eT
  have uq := SI_tp hS.1 ud eQ
  refine R_choose (d := d) (q := q) hX0 hf hlT (rs_pr hB uc eT) ud eQ uq (isL_wtx ⟨f, w3⟩) (isL_wtx ⟨f, w1⟩) (isL_wtx ⟨f, w2⟩) (fun r' q1 q2 q3 q4 _ => ?_) (fun kk r' y n1 q1 q2 _ q3 q4 => ?_)
  · exact hQ r' H T ro _ _ _ _ (x :: k') n b e (kp_kc q1) (kp_mk q1 hmk) (Or.inr (Or.inr (Or.inl q2))) (kp_sh q1 hsh) q3 (by rw [q4]; exact hT0)
  · refine hQ r' _ _ (upW ro kk false) _ _ _ _ k' n false (eJoin (false :: k') n) (kp_kc q1) (kp_mk q1 hmk) (Or.inl (q2.trans hst)) (kp_sh q1 hsh) q3 ?_
    rw [q4]
    refine T_choose hS n1 ⟨uTa, tTa⟩ ⟨uE, tE⟩ ?_ ⟨uD, tD⟩ ⟨SI_t hS.1 uq, f, w3⟩
    split
    · exact ⟨SI_h hS.1 uq, f, w2⟩
    · exact ⟨SI_h hS.1 ud, f, w1⟩
theorem A_9 (hX : RX r H T S E (vPr c) D R) (hT : TI H T ro (Ur r) S E (vPr c) D R k n b e) (hst : r.state = 1) (hmk : mkOK r) (hsh : shOK r) (he : e = eJoin k n) (hQ : stG b0 b1 op tl Q s r R) (F : Nat) : mj_sg (mj_Mt gT cst gnw (m + 4)) cst gnw (mj_hd (mj_off kO_R_step) kH_R_step) kC_R_step J Q (F + 150) false 40 [some (.ref 27), some (.int (nI c)), some (.int 9), none, none] [.int (rsN r c)] (cW s (rW r tl), b0, b1, op) := by
  obtain ⟨hS, ⟨uS, tS_⟩, ⟨uE, tE⟩, ⟨uC, tC⟩, ⟨uD, tD⟩, tb⟩ := hT
  have hT0 : TI H T ro (Ur r) S E (vPr c) D R k n b e := ⟨hS, ⟨uS, tS_⟩, ⟨uE, tE⟩, ⟨uC, tC⟩, ⟨uD, tD⟩, tb⟩
  have hX0 := hX
  obtain ⟨hB, x0, x1, x2, x3, x4⟩ := hX
  have uc := inU_pr uC
  clear tC
  refine And.intro (fun _ => ?_) (fun (g : (9 : Int32) = 1) => absurd g (by decide))
  refine And.intro (fun _ => ?_) (fun (g : (9 : Int32) = 2) => absurd g (by decide))
  refine And.intro (fun _ => ?_) (fun (g : (9 : Int32) = 3) => absurd g (by decide))
  refine And.intro (fun (g : (9 : Int32) = 4) => absurd g (by decide)) (fun _ => ?_)
  refine And.intro (fun _ => ?_) (fun (g : (9 : Int32) = 7) => absurd g (by decide))
  refine And.intro (fun _ => ?_) (fun (g : (9 : Int32) = 5) => absurd g (by decide))
  refine And.intro (fun _ => ?_) (fun (g : (9 : Int32) = 6) => absurd g (by decide))
  refine And.intro (fun _ => ?_) (fun (g : (9 : Int32) = 8) => absurd g (by decide))
  refine And.intro (fun (g : ¬ (9 : Int32) = 9) => absurd rfl g) (fun _ => ?_)
  subst he
  obtain ⟨a, e2, rfl, ua, ⟨u1, t1⟩, ⟨u2, t2⟩⟩ := dmx_join hS.1 ⟨uD, tD⟩
  have h3 := (rg_pr x3).1
  have ha := Ur_lt hB ua
  refine And.intro i53 ?_
  refine R_headList h3 ha ?_
  refine And.intro i52 ?_
  change mj_sg _ _ _ _ _ _ _ _ _ 168 _ _ (cW s (rW (sR r (upd r.reg 2 (hlN r a))) tl), b0, b1, op)
  refine And.intro i53 ?_
  refine R_rest h3 ha ?_
  refine And.intro i53 ?_
  have kk2 := kp_sR (r := r) (f := upd (upd r.reg 2 (hlN r a)) 3 (rsN r a))
  refine hQ (sR r (upd (upd r.reg 2 (hlN r a)) 3 (rsN r a))) H T ro S E (H a) (T a) k n false e2 (kp_kc kk2) (kp_mk kk2 hmk) (Or.inl hst) (kp_sh kk2 hsh) ⟨sm_RB sm_sR hB, sm_rg sm_sR x0, sm_rg sm_sR x1, sm_rg sm_sR (hl_rg hB ua (isL_wtx t1)), sm_rg sm_sR (rs_rg hB ua (isL_dmx t2)), sm_rg sm_sR x4⟩ ?_
  exact ⟨hS, ⟨uS, tS_⟩, ⟨uE, tE⟩, ⟨u1, t1⟩, ⟨u2, t2⟩, fun q => by cases q⟩
theorem A_10 (hX : RX r H T S E (vPr c) D R) (hT : TI H T ro (Ur r) S E (vPr c) D R k n b e) (hst : r.state = 1) (hmk : mkOK r) (hsh : shOK r) {i : Int32} {x : Bool} {k' : Sk} {f : Nat} (hi : i = 10 ∨ i = 11 ∨ i = 12) (hk : k = x :: k') (hw : wt H T ro f (T c) (false :: k') n false e) (hf : 1 ≤ fz r) (hQ : stG b0 b1 op tl Q s r R) (F : Nat) : mj_sg (mj_Mt gT cst gnw (m + 4)) cst gnw (mj_hd (mj_off kO_R_step) kH_R_step) kC_R_step J Q (F + 150) false 40 [some (.ref 27), some (.int (nI c)), some (.int i), none, none] [.int (rsN r c)] (cW s (rW r tl), b0, b1, op) := by
  obtain ⟨hS, ⟨uS, tS_⟩, ⟨uE, tE⟩, ⟨uC, tC⟩, ⟨uD, tD⟩, tb⟩ := hT
  have hT0 : TI H T ro (Ur r) S E (vPr c) D R k n b e := ⟨hS, ⟨uS, tS_⟩, ⟨uE, tE⟩, ⟨uC, tC⟩, ⟨uD, tD⟩, tb⟩
  have hX0 := hX
  obtain ⟨hB, x0, x1, x2, x3, x4⟩ := hX
  have uc := inU_pr uC
  clear tC
  refine And.intro (fun _ => ?_) (fun (g : i = 1) => absurd g (by rcases hi with rfl | rfl | rfl <;> decide))
  refine And.intro (fun _ => ?_) (fun (g : i = 2) => absurd g (by rcases hi with rfl | rfl | rfl <;> decide))
  refine And.intro (fun _ => ?_) (fun (g : i = 3) => absurd g (by rcases hi with rfl | rfl | rfl <;> decide))
  refine And.intro (fun (g : i = 4) => absurd g (by rcases hi with rfl | rfl | rfl <;> decide)) (fun _ => ?_)
  refine And.intro (fun _ => ?_) (fun (g : i = 7) => absurd g (by rcases hi with rfl | rfl | rfl <;> decide))
  refine And.intro (fun _ => ?_) (fun (g : i = 5) => absurd g (by rcases hi with rfl | rfl | rfl <;> decide))
  refine And.intro (fun _ => ?_) (fun (g : i = 6) => absurd g (by rcases hi with rfl | rfl | rfl <;> decide))
  refine And.intro (fun _ => ?_) (fun (g : i = 8) => absurd g (by rcases hi with rfl | rfl | rfl <;> decide))
  refine And.intro (fun _ => ?_) (fun (g : i = 9) => absurd g (by rcases hi with rfl | rfl | rfl <;> decide))
  refine And.intro (fun (g : (13 : Int32) ≤ i) => absurd g (by rcases hi with rfl | rfl | rfl <;> decide)) (fun _ => ?_)
  subst hk
  obtain ⟨a, rfl, ua, ⟨uTa, tTa⟩, ⟨uHa, gHa⟩, lHa⟩ := stk_top hS.1 ⟨uS, tS_⟩
  have hlT : isL_ (T a) := isL_stk tTa
  refine R_ofOne (C' := T c) hi hX0 hf hlT (rs_rg hB uc (isL_wtx ⟨f, hw⟩)) (fun r' q1 q2 q3 q4 _ _ => ?_) (fun kk r' w n1 q1 q2 hw2 q3 q4 => ?_)
  · exact hQ r' H T ro _ _ _ _ (x :: k') n b e (kp_kc q1) (kp_mk q1 hmk) (Or.inr (Or.inr (Or.inl q2))) (kp_sh q1 hsh) q3 (by rw [q4]; exact hT0)
  · have hv : inU (Ur r) w ∧ gF H T ro w := by
      rcases hw2 with ⟨-, w1, rfl⟩ | ⟨-, w1, rfl⟩ | ⟨-, rfl⟩
      · obtain ⟨j, ej⟩ := kV_pr w1
        rw [ej] at uHa
        have uj := inU_pr uHa
        have e9 : ofV H (H a) = H j := by rw [ej]; rfl
        rw [e9]
        exact ⟨SI_h hS.1 uj, (hS.1 j uj).2.1.1⟩
      · obtain ⟨j, ej⟩ := kV_pr w1
        rw [ej] at uHa
        have uj := inU_pr uHa
        have e9 : ofV T (H a) = T j := by rw [ej]; rfl
        rw [e9]
        exact ⟨SI_t hS.1 uj, (hS.1 j uj).2.1.2⟩
      · exact ⟨int_inU, gF_int⟩
    refine hQ r' _ _ (upW ro kk false) _ _ _ _ (false :: k') n false e (kp_kc q1) (kp_mk q1 hmk) (Or.inl (q2.trans hst)) (kp_sh q1 hsh) q3 ?_
    rw [q4]
    exact T_push hS n1 hv.1 hv.2 (fun q => by cases q) ⟨uTa, tTa⟩ ⟨uE, tE⟩ ⟨SI_t hS.1 uc, f, hw⟩ ⟨uD, tD⟩
theorem A_13 (hX : RX r H T S E (vPr c) D R) (hT : TI H T ro (Ur r) S E (vPr c) D R k n b e) (hst : r.state = 1) (hmk : mkOK r) (hsh : shOK r) {i : Int32} {x y t : Bool} {k' : Sk} {f : Nat} (hi : i = 13 ∨ i = 14 ∨ i = 15 ∨ i = 16 ∨ i = 17 ∨ i = 18) (hk : k = x :: y :: k') (ht : t = true → i = 13 ∧ y = true) (hw : wt H T ro f (T c) (t :: k') n false e) (hf : 1 ≤ fz r) (hf2 : i = 13 → 2 ≤ fz r) (hQ : stG b0 b1 op tl Q s r R) (F : Nat) : mj_sg (mj_Mt gT cst gnw (m + 4)) cst gnw (mj_hd (mj_off kO_R_step) kH_R_step) kC_R_step J Q (F + 150) false 40 [some (.ref 27), some (.int (nI c)), some (.int i), none, none] [.int (rsN r c)] (cW s (rW r tl), b0, b1, op) := by
  obtain ⟨hS, ⟨uS, tS_⟩, ⟨uE, tE⟩, ⟨uC, tC⟩, ⟨uD, tD⟩, tb⟩ := hT
  have hT0 : TI H T ro (Ur r) S E (vPr c) D R k n b e := ⟨hS, ⟨uS, tS_⟩, ⟨uE, tE⟩, ⟨uC, tC⟩, ⟨uD, tD⟩, tb⟩
  have hX0 := hX
  obtain ⟨hB, x0, x1, x2, x3, x4⟩ := hX
  have uc := inU_pr uC
  clear tC
  refine And.intro (fun _ => ?_) (fun (g : i = 1) => absurd g (by rcases hi with rfl | rfl | rfl | rfl | rfl | rfl <;> decide))
  refine And.intro (fun _ => ?_) (fun (g : i = 2) => absurd g (by rcases hi with rfl | rfl | rfl | rfl | rfl | rfl <;> decide))
  refine And.intro (fun _ => ?_) (fun (g : i = 3) => absurd g (by rcases hi with rfl | rfl | rfl | rfl | rfl | rfl <;> decide))
  refine And.intro (fun (g : i = 4) => absurd g (by rcases hi with rfl | rfl | rfl | rfl | rfl | rfl <;> decide)) (fun _ => ?_)
  refine And.intro (fun _ => ?_) (fun (g : i = 7) => absurd g (by rcases hi with rfl | rfl | rfl | rfl | rfl | rfl <;> decide))
  refine And.intro (fun _ => ?_) (fun (g : i = 5) => absurd g (by rcases hi with rfl | rfl | rfl | rfl | rfl | rfl <;> decide))
  refine And.intro (fun _ => ?_) (fun (g : i = 6) => absurd g (by rcases hi with rfl | rfl | rfl | rfl | rfl | rfl <;> decide))
  refine And.intro (fun _ => ?_) (fun (g : i = 8) => absurd g (by rcases hi with rfl | rfl | rfl | rfl | rfl | rfl <;> decide))
  refine And.intro (fun _ => ?_) (fun (g : i = 9) => absurd g (by rcases hi with rfl | rfl | rfl | rfl | rfl | rfl <;> decide))
  refine And.intro (fun _ => ?_) (fun (g : ¬ (13 : Int32) ≤ i) => absurd (by rcases hi with rfl | rfl | rfl | rfl | rfl | rfl <;> decide) g)
  refine And.intro (fun (g : (19 : Int32) ≤ i) => absurd g (by rcases hi with rfl | rfl | rfl | rfl | rfl | rfl <;> decide)) (fun _ => ?_)
  subst hk
  obtain ⟨a, rfl, ua, ⟨uTa, tTa⟩, ⟨uHa, gHa⟩, -⟩ := stk_top hS.1 ⟨uS, tS_⟩
  obtain ⟨a2, eTa, ua2, ⟨uTa2, tTa2⟩, ⟨uHa2, gHa2⟩, lHa2⟩ := stk_top hS.1 ⟨uTa, tTa⟩
  have hlT : isL_ (T a2) := isL_stk tTa2
  refine R_ofTwo (C' := T c) hi hX0 hf hf2 eTa hlT (rs_rg hB uc (isL_wtx ⟨f, hw⟩)) (fun r' q1 q2 q3 q4 _ _ _ => ?_) (fun kk r' v n1 q1 q2 hv q3 q4 => ?_) (fun k1 k2 r' n1 n2 q1 q2 ei q3 q4 => ?_)
  · exact hQ r' H T ro _ _ _ _ (x :: y :: k') n b e (kp_kc q1) (kp_mk q1 hmk) (Or.inr (Or.inr (Or.inl q2))) (kp_sh q1 hsh) q3 (by rw [q4]; exact hT0)
  · refine hQ r' _ _ (upW ro kk false) _ _ _ _ (t :: k') n false e (kp_kc q1) (kp_mk q1 hmk) (Or.inl (q2.trans hst)) (kp_sh q1 hsh) q3 ?_
    rw [q4]
    refine T_push hS n1 int_inU gF_int (fun q => ?_) ⟨uTa2, tTa2⟩ ⟨uE, tE⟩ ⟨SI_t hS.1 uc, f, hw⟩ ⟨uD, tD⟩
    have := (ht q).1
    rcases hv with ⟨w, -⟩ | ⟨w, -⟩
    · rw [this] at w
      exact absurd w (by decide)
    · exact absurd this w
  · refine hQ r' _ _ (upW (upW ro k1 false) k2 false) _ _ _ _ (t :: k') n false e (kp_kc q1) (kp_mk q1 hmk) (Or.inl (q2.trans hst)) (kp_sh q1 hsh) q3 ?_
    rw [q4]
    have hx1 : Ext (Ur r) H T ro (upW H k1 (H a)) (upW T k1 (H a2)) (upW ro k1 false) := Ext_new n1
    have hS1 : TS (upW H k1 (H a)) (upW T k1 (H a2)) (upW ro k1 false) (addU (Ur r) k1) R := TS_new hS n1 uHa uHa2 gHa gHa2 (fun q => by cases q)
    refine T_push hS1 n2 (pr_inU new_in) gF_pr (fun q => ?_) ⟨in_new uTa2, stk_ext hS.1 hx1 _ _ uTa2 tTa2⟩ ⟨in_new uE, env_ext hS.1 hx1 _ _ uE tE⟩ ⟨in_new (SI_t hS.1 uc), wtx_ext hS.1 hx1 (SI_t hS.1 uc) ⟨f, hw⟩⟩ ⟨in_new uD, dmx_ext hS.1 hx1 uD tD⟩
    obtain ⟨mm, hl⟩ := lst_ext hS.1 hx1 uHa2 (lHa2 (ht q).2)
    refine ⟨mm + 1, k1, rfl, ?_⟩
    have e1 : upW T k1 (H a2) k1 = H a2 := if_pos rfl
    rw [e1]
    exact hl
theorem A_19 (hX : RX r H T S E (vPr c) D R) (hT : TI H T ro (Ur r) S E (vPr c) D R k n b e) (hst : r.state = 1) (hmk : mkOK r) (hsh : shOK r) {x : Bool} {k' : Sk} (hk : k = x :: k') (hQ : stG b0 b1 op tl Q s r R) (F : Nat) : mj_sg (mj_Mt gT cst gnw (m + 4)) cst gnw (mj_hd (mj_off kO_R_step) kH_R_step) kC_R_step J Q (F + 150) false 40 [some (.ref 27), some (.int (nI c)), some (.int 19), none, none] [.int (rsN r c)] (cW s (rW r tl), b0, b1, op) := by
  obtain ⟨hS, ⟨uS, tS_⟩, ⟨uE, tE⟩, ⟨uC, tC⟩, ⟨uD, tD⟩, tb⟩ := hT
  have hT0 : TI H T ro (Ur r) S E (vPr c) D R k n b e := ⟨hS, ⟨uS, tS_⟩, ⟨uE, tE⟩, ⟨uC, tC⟩, ⟨uD, tD⟩, tb⟩
  have hX0 := hX
  obtain ⟨hB, x0, x1, x2, x3, x4⟩ := hX
  have uc := inU_pr uC
  clear tC
  refine And.intro (fun _ => ?_) (fun (g : (19 : Int32) = 1) => absurd g (by decide))
  refine And.intro (fun _ => ?_) (fun (g : (19 : Int32) = 2) => absurd g (by decide))
  refine And.intro (fun _ => ?_) (fun (g : (19 : Int32) = 3) => absurd g (by decide))
  refine And.intro (fun (g : (19 : Int32) = 4) => absurd g (by decide)) (fun _ => ?_)
  refine And.intro (fun _ => ?_) (fun (g : (19 : Int32) = 7) => absurd g (by decide))
  refine And.intro (fun _ => ?_) (fun (g : (19 : Int32) = 5) => absurd g (by decide))
  refine And.intro (fun _ => ?_) (fun (g : (19 : Int32) = 6) => absurd g (by decide))
  refine And.intro (fun _ => ?_) (fun (g : (19 : Int32) = 8) => absurd g (by decide))
  refine And.intro (fun _ => ?_) (fun (g : (19 : Int32) = 9) => absurd g (by decide))
  refine And.intro (fun _ => ?_) (fun (g : ¬ (13 : Int32) ≤ (19 : Int32)) => absurd (by decide) g)
  refine And.intro (fun _ => ?_) (fun (g : ¬ (19 : Int32) ≤ (19 : Int32)) => absurd (by decide) g)
  subst hk
  obtain ⟨a, rfl, ua, -⟩ := stk_top hS.1 ⟨uS, tS_⟩
  have ha := Ur_lt hB ua
  refine R_stop (fun r' c1 c2 c3 c4 c5 c6 => ?_)
  have hB' := c6 H T hB
  have hz := hB'.1.2
  have raw' := hB'.2.2
  refine R_showAll (a := a) ha (by rw [c5]; exact (rg_pr x0).1) (fun i hi => ⟨fun q => ?_, fun q => ?_⟩) (fun p n2 pl hp => ?_)
  · obtain ⟨j, j1, j2⟩ := (raw' i hi).1 q
    exact ⟨j, by omega, j2⟩
  · obtain ⟨j, j1, j2⟩ := (raw' i hi).2 q
    exact ⟨j, by omega, j2⟩
  · have hX1 : RX r' H T (vPr a) E (vPr c) D R := ⟨hB', by rw [c5]; exact rg_up c3 x0, by rw [c5]; exact rg_up c3 x1, by rw [c5]; exact rg_up c3 x2, by rw [c5]; exact rg_up c3 x3, by rw [c5]; exact rg_up c3 x4⟩
    have hk1 : kc r (phR (gR r' (r'.headKind a) (r'.head a)) p n2 pl) := kc_tr (kp_kc c1) ⟨rfl, rfl, rfl, rfl, rfl⟩
    have hm1 : mkOK (phR (gR r' (r'.headKind a) (r'.head a)) p n2 pl) := by
      obtain ⟨mk, em⟩ := kp_mk c1 hmk
      exact ⟨mk, em⟩
    refine hQ (phR (gR r' (r'.headKind a) (r'.head a)) p n2 pl) H T ro (vPr a) E (vPr c) D (x :: k') n b e hk1 hm1 (Or.inr (Or.inl c2)) ⟨p.1, hp, rfl⟩ hX1 ?_
    have eU : Ur (phR (gR r' (r'.headKind a) (r'.head a)) p n2 pl) = Ur r := c4
    rw [eU]
    exact hT0
end RST
