section
def shOK (r : rM) : Prop := ∃ n, n ≤ 120 ∧ r.shown = nI n
def rnS (r : rM) : Prop := r.state = 1 ∨ r.state = 2 ∨ r.state = 3 ∨ r.state = 4
theorem kp_sh {r r' : rM} (h : kp r r') (hs : shOK r) : shOK r' := by
  obtain ⟨n, hn, e⟩ := hs
  exact ⟨n, hn, h.2.2.2.2.1.trans e⟩
def stG (b0 b1 : Nat) (op : Bool) (tl : List mj_O) (Q : mj_R → Prop) (s : cS) (r : rM) (R : Vl) : Prop := ∀ (r' : rM) (H' T' : Nat → Vl) (ro' : Nat → Bool) (S' E' C' D' : Vl) (k' : Sk) (n' : Nat) (b' : Bool) (e' : En), kc r r' → mkOK r' → rnS r' → shOK r' → RX r' H' T' S' E' C' D' R → TI H' T' ro' (Ur r') S' E' C' D' R k' n' b' e' → Q (.inl none, (cW s (rW r' tl), b0, b1, op))
theorem inU_beh {H T : Nat → Vl} {ro : Nat → Bool} {U : Nat → Prop} (hS : SI H T ro U) : ∀ (k : Nat) (v : Vl), inU U v → inU U (behV T k v)
  | 0, v, h => h
  | k + 1, v, h => by
    rcases v with u | x | x | i | i
    · exact h
    · exact h
    · exact h
    · exact inU_beh hS k (T i) (SI_t hS (inU_pr h))
    · exact h
theorem kV_pr {v : Vl} (h : kV v = 3) : ∃ a, v = vPr a := by
  rcases v with u | x | x | i | i
  · cases h
  · cases h
  · cases h
  · exact ⟨i, rfl⟩
  · cases h
section RST
variable {cst : Nat → Option (Nat × (Nat → Int32))} {m b0 b1 : Nat} {op : Bool} {tl : List mj_O} {Q : mj_R → Prop} {s : cS} {r : rM} {H T : Nat → Vl} {ro : Nat → Bool} {S E D R : Vl} {k : Sk} {n : Nat} {b : Bool} {e : En} {J : Nat → mj_L → List Value → mj_H → Prop} {c : Nat}
set_option maxRecDepth 10000
theorem rg_U {v : Vl} {x : Int32} (h : rg r v x) : inU (Ur r) v := by
  intro a ea
  rcases h with ⟨rfl, -⟩ | ⟨i, rfl, -, h3, -⟩
  · cases ea
  · cases ea
    exact h3
theorem rg_pr {a : Nat} {x : Int32} (h : rg r (vPr a) x) : x = nI a ∧ Ur r a := by
  rcases h with ⟨h1, -⟩ | ⟨i, h1, h2, h3, -⟩
  · cases h1
  · cases h1
    exact ⟨h2, h3⟩
theorem A_pushC {r3 : rM} {v X : Vl} {kk : Nat} {y : Int32} (hX : RX r H T S E (vPr c) D R) {S' : Vl} (hm : mkd r r3 H T kk v S') (g : r3.reg = upd r.reg 0 (nI kk)) (hy : rg r3 X y) : RX (sR r3 (upd r3.reg 2 y)) (upW H kk v) (upW T kk S') (vPr kk) E X D R ∧ Ur (sR r3 (upd r3.reg 2 y)) = addU (Ur r) kk := by
  obtain ⟨⟨m1, -⟩, ⟨m2, m3, m4⟩, m5, m6, m7, m8⟩ := hm
  obtain ⟨hB, x0, x1, x2, x3, x4⟩ := hX
  refine ⟨⟨sm_RB sm_sR m5, ?_, ?_, sm_rg sm_sR hy, ?_, ?_⟩, (sm_Ur sm_sR).trans m6⟩
  · show rg _ _ (r3.reg 0)
    rw [g]
    exact sm_rg sm_sR m8
  · show rg _ _ (r3.reg 1)
    rw [g]
    exact sm_rg sm_sR (rg_up m4 x1)
  · show rg _ _ (r3.reg 3)
    rw [g]
    exact sm_rg sm_sR (rg_up m4 x3)
  · show rg _ _ (r3.reg 4)
    rw [g]
    exact sm_rg sm_sR (rg_up m4 x4)
theorem A_rest {r3 : rM} {h t : Vl} {kk d : Nat} (hm : mkd r r3 H T kk h t) (ud : Ur r d) (l : isL_ (T d)) : rg r3 (T d) (rsN r3 d) := by
  obtain ⟨⟨m1, -⟩, ⟨m2, m3, m4⟩, m5, m6, m7, m8⟩ := hm
  have hne : ¬ d = kk := fun e => m1 (e ▸ ud)
  have e1 : upW T kk t d = T d := if_neg hne
  have := rs_rg m5 (m4.2 d ud).1 (by rw [e1]; exact l)
  rwa [e1] at this
theorem A_1 (hX : RX r H T S E (vPr c) D R) (hT : TI H T ro (Ur r) S E (vPr c) D R k n b e) (hst : r.state = 1) (hmk : mkOK r) (hsh : shOK r) {d : Nat} {t : Bool} {f : Nat} (eT : T c = vPr d) (hH : t = true → H d = vNil) (hw : wt H T ro f (T d) (t :: k) n false e) (hf : 1 ≤ fz r) (hQ : stG b0 b1 op tl Q s r R) (F : Nat) : mj_sg (mj_Mt gT cst gnw (m + 4)) cst gnw (mj_hd (mj_off kO_R_step) kH_R_step) kC_R_step J Q (F + 150) false 40 [some (.ref 27), some (.int (nI c)), some (.int 1), none, none] [.int (rsN r c)] (cW s (rW r tl), b0, b1, op) := by
  obtain ⟨hS, ⟨uS, tS_⟩, ⟨uE, tE⟩, ⟨uC, tC⟩, ⟨uD, tD⟩, tb⟩ := hT
  have hT0 : TI H T ro (Ur r) S E (vPr c) D R k n b e := ⟨hS, ⟨uS, tS_⟩, ⟨uE, tE⟩, ⟨uC, tC⟩, ⟨uD, tD⟩, tb⟩
  have hX0 := hX
  obtain ⟨hB, x0, x1, x2, x3, x4⟩ := hX
  have uc := inU_pr uC
  clear tC
  refine And.intro (fun (g : ¬ (1 : Int32) = 1) => absurd rfl g) (fun _ => ?_)
  have ud := SI_tp hS.1 uc eT
  have hd := Ur_lt hB ud
  have ed : rsN r c = nI d := rs_pr hB uc eT
  rw [ed]
  have ek : (nI d).toNatClampNeg = d := nI_clamp (by omega)
  refine And.intro (vp_in_nI hd (by decide)) ?_
  rw [ek]
  refine And.intro (vp_in_nI hd (by decide)) ?_
  rw [ek]
  refine R_push (S := S) (h := H d) hB hf (hB.2.1 d ud).1 x0 (fun kk r3 hm g3 => ?_)
  refine R_rest rfl hd ?_
  refine And.intro i52 ?_
  have hl : isL_ (T d) := isL_wtx ⟨f, hw⟩
  obtain ⟨w1, w2⟩ := A_pushC hX0 hm g3 (A_rest hm ud hl)
  obtain ⟨⟨m1, -⟩, ⟨m2, m3, m4⟩, -⟩ := hm
  have kk2 := kp_tr m2 (kp_sR (r := r3) (f := upd r3.reg 2 (rsN r3 d)))
  refine hQ _ _ _ (upW ro kk false) _ _ _ _ (t :: k) n false e (kp_kc kk2) (kp_mk kk2 hmk) (Or.inl (m3.trans hst)) (kp_sh kk2 hsh) w1 ?_
  rw [w2]
  exact T_push hS m1 (SI_h hS.1 ud) (hS.1 d ud).2.1.1 (fun q => ⟨0, hH q⟩) ⟨uS, tS_⟩ ⟨uE, tE⟩ ⟨SI_t hS.1 ud, f, hw⟩ ⟨uD, tD⟩
theorem A_2 (hX : RX r H T S E (vPr c) D R) (hT : TI H T ro (Ur r) S E (vPr c) D R k n b e) (hst : r.state = 1) (hmk : mkOK r) (hsh : shOK r) {d x f : Nat} (eT : T c = vPr d) (hx : x < 10000) (hH : H d = vInt (nI x)) (hw : wt H T ro f (T d) (false :: k) n false e) (hf : 1 ≤ fz r) (hQ : stG b0 b1 op tl Q s r R) (F : Nat) : mj_sg (mj_Mt gT cst gnw (m + 4)) cst gnw (mj_hd (mj_off kO_R_step) kH_R_step) kC_R_step J Q (F + 150) false 40 [some (.ref 27), some (.int (nI c)), some (.int 2), none, none] [.int (rsN r c)] (cW s (rW r tl), b0, b1, op) := by
  obtain ⟨hS, ⟨uS, tS_⟩, ⟨uE, tE⟩, ⟨uC, tC⟩, ⟨uD, tD⟩, tb⟩ := hT
  have hT0 : TI H T ro (Ur r) S E (vPr c) D R k n b e := ⟨hS, ⟨uS, tS_⟩, ⟨uE, tE⟩, ⟨uC, tC⟩, ⟨uD, tD⟩, tb⟩
  have hX0 := hX
  obtain ⟨hB, x0, x1, x2, x3, x4⟩ := hX
  have uc := inU_pr uC
  clear tC
  refine And.intro (fun _ => ?_) (fun (g : (2 : Int32) = 1) => absurd g (by decide))
  refine And.intro (fun (g : ¬ (2 : Int32) = 2) => absurd rfl g) (fun _ => ?_)
  have ud := SI_tp hS.1 uc eT
  have hd := Ur_lt hB ud
  have ed : rsN r c = nI d := rs_pr hB uc eT
  rw [ed]
  have ek : (nI d).toNatClampNeg = d := nI_clamp (by omega)
  refine And.intro (vp_in_nI hd (by decide)) ?_
  rw [ek]
  have eh : r.head d = nI x := by
    have := (hB.2.1 d ud).1
    rw [hH] at this
    exact this.2
  rw [eh]
  refine R_rest rfl hd ?_
  have hl : isL_ (T d) := isL_wtx ⟨f, hw⟩
  refine R_look (C' := T d) (ro := ro) hx hX0 hf (env_0 tE) (fun a ua hra => (hS.1 a ua).2.2 hra) (rs_rg hB ud hl) (fun r' q1 q2 q3 q4 _ => ?_) (fun kk r' m1 q1 q2 q5 q6 q3 q4 => ?_)
  · exact hQ r' H T ro _ _ _ _ k n b e (kp_kc q1) (kp_mk q1 hmk) (Or.inr (Or.inr (Or.inl q2))) (kp_sh q1 hsh) q3 (by rw [q4]; exact hT0)
  · obtain ⟨a, ea⟩ := kV_pr q6
    have ue := inU_beh hS.1 (x / 16) E uE
    obtain ⟨a0, ea0⟩ := kV_pr q5
    rw [ea0] at ue
    have ua0 := inU_pr ue
    have uv : inU (Ur r) (behV T (x % 16) (ofV H (behV T (x / 16) E))) := by
      rw [ea0]
      exact inU_beh hS.1 _ _ (SI_h hS.1 ua0)
    rw [ea] at uv
    have ua := inU_pr uv
    have e9 : ofV H (behV T (x % 16) (ofV H (behV T (x / 16) E))) = H a := by rw [ea]; rfl
    rw [e9] at q3
    refine hQ r' _ _ (upW ro kk false) _ _ _ _ (false :: k) n false e (kp_kc q1) (kp_mk q1 hmk) (Or.inl (q2.trans hst)) (kp_sh q1 hsh) q3 ?_
    rw [q4]
    exact T_push hS m1 (SI_h hS.1 ua) (hS.1 a ua).2.1.1 (fun q => by cases q) ⟨uS, tS_⟩ ⟨uE, tE⟩ ⟨SI_t hS.1 ud, f, hw⟩ ⟨uD, tD⟩
theorem A_3 (hX : RX r H T S E (vPr c) D R) (hT : TI H T ro (Ur r) S E (vPr c) D R k n b e) (hst : r.state = 1) (hmk : mkOK r) (hsh : shOK r) {d f : Nat} (eT : T c = vPr d) (hv : wt H T ro f (H d) [] 1 false eRet) (hw : wt H T ro f (T d) (false :: k) n (decide (0 < n)) e) (hf : 2 ≤ fz r) (hQ : stG b0 b1 op tl Q s r R) (F : Nat) : mj_sg (mj_Mt gT cst gnw (m + 4)) cst gnw (mj_hd (mj_off kO_R_step) kH_R_step) kC_R_step J Q (F + 150) false 40 [some (.ref 27), some (.int (nI c)), some (.int 3), none, none] [.int (rsN r c)] (cW s (rW r tl), b0, b1, op) := by
  obtain ⟨hS, ⟨uS, tS_⟩, ⟨uE, tE⟩, ⟨uC, tC⟩, ⟨uD, tD⟩, tb⟩ := hT
  have hT0 : TI H T ro (Ur r) S E (vPr c) D R k n b e := ⟨hS, ⟨uS, tS_⟩, ⟨uE, tE⟩, ⟨uC, tC⟩, ⟨uD, tD⟩, tb⟩
  have hX0 := hX
  obtain ⟨hB, x0, x1, x2, x3, x4⟩ := hX
  have uc := inU_pr uC
  clear tC
  refine And.intro (fun _ => ?_) (fun (g : (3 : Int32) = 1) => absurd g (by decide))
  refine And.intro (fun _ => ?_) (fun (g : (3 : Int32) = 2) => absurd g (by decide))
  refine And.intro (fun (g : ¬ (3 : Int32) = 3) => absurd rfl g) (fun _ => ?_)
  have ud := SI_tp hS.1 uc eT
  have hd := Ur_lt hB ud
  have ed : rsN r c = nI d := rs_pr hB uc eT
  rw [ed]
  have hlH : isL_ (H d) := isL_wtx ⟨f, hv⟩
  have hlT : isL_ (T d) := isL_wtx ⟨f, hw⟩
  refine R_headList rfl hd ?_
  refine And.intro i51 ?_
  refine R_makeOf (h := H d) (t := E) hB (by omega) (hl_rg hB ud hlH) x1 (fun k1 r1 hm g1 _ => ?_)
  have hm0 := hm
  obtain ⟨⟨m1, mk1⟩, ⟨m2, m3, m4⟩, m5, m6, m7, m8⟩ := hm
  have ek : (nI k1).toNatClampNeg = k1 := nI_clamp (by omega)
  refine And.intro (vp_in_nI mk1 (by decide)) ?_
  rw [ek]
  change mj_sg _ _ _ _ _ _ _ _ _ 93 _ _ (cW s (rW (fnR r1 k1) tl), b0, b1, op)
  have nk : ∀ {v : Vl}, inU (Ur r) v → ¬ ceV v = some k1 := fun hv q => m1 (hv k1 q)
  have uk1 : Ur r1 k1 := by rw [m6]; exact Or.inr rfl
  obtain ⟨f1, f2, f3, f4, f5⟩ := fn_ok (k := k1) m5 uk1 (fun i hi => by
    rw [m6] at hi
    by_cases ei : i = k1
    · subst ei
      have e1 : upW H i (H d) i = H d := if_pos rfl
      have e2 : upW T i E i = E := if_pos rfl
      rw [e1, e2]
      exact ⟨nk (SI_h hS.1 ud), nk uE⟩
    · have ui := hi.resolve_right ei
      have e1 : upW H k1 (H d) i = H i := if_neg ei
      have e2 : upW T k1 E i = T i := if_neg ei
      rw [e1, e2]
      exact ⟨nk (SI_h hS.1 ui), nk (SI_t hS.1 ui)⟩)
  have ux : ∀ {v : Vl} {x : Int32}, rg r v x → rg (fnR r1 k1) v x := fun h => f5 _ _ (rg_up m4 h) (nk (rg_U h))
  have hX1 : RX (fnR r1 k1) (upW H k1 (H d)) (upW T k1 E) S E (vPr c) D R := by
    refine ⟨f1, ?_, ?_, ?_, ?_, ?_⟩
    · show rg _ _ (r1.reg 0)
      rw [g1]
      exact ux x0
    · show rg _ _ (r1.reg 1)
      rw [g1]
      exact ux x1
    · show rg _ _ (r1.reg 2)
      rw [g1]
      exact ux x2
    · show rg _ _ (r1.reg 3)
      rw [g1]
      exact ux x3
    · show rg _ _ (r1.reg 4)
      rw [g1]
      exact ux x4
  have kp1 : kp r (fnR r1 k1) := kp_tr m2 ⟨⟨rfl, rfl, rfl, rfl, rfl⟩, rfl, rfl, rfl, rfl, rfl⟩
  have st1 : (fnR r1 k1).state = 1 := m3.trans hst
  have U1 : Ur (fnR r1 k1) = addU (Ur r) k1 := f2.trans m6
  have fz1 : 1 ≤ fz (fnR r1 k1) := by rw [f3]; omega
  obtain ⟨r2, hr2⟩ : ∃ r2, r2 = fnR r1 k1 := ⟨_, rfl⟩
  rw [← hr2]
  rw [← hr2] at hX1 kp1 st1 U1 fz1 f4
  clear hr2 f1 f2 f3 f5 ux m5 m8
  refine R_push (S := S) (h := vFn k1) hX1.1 fz1 f4 hX1.2.1 (fun k2 r3 hm g3 => ?_)
  refine R_rest rfl hd ?_
  refine And.intro i52 ?_
  have hne : ¬ d = k1 := fun q => m1 (q ▸ ud)
  have e1 : upW T k1 E d = T d := if_neg hne
  have ud2 : Ur r2 d := by rw [U1]; exact Or.inl ud
  have hrs : rg r3 (T d) (rsN r3 d) := by
    have := A_rest hm ud2 (by rw [e1]; exact hlT)
    rwa [e1] at this
  obtain ⟨w1, w2⟩ := A_pushC hX1 hm g3 hrs
  obtain ⟨⟨n1, -⟩, ⟨n2, n3, n4⟩, -⟩ := hm
  rw [U1] at n1 w2
  have kk2 := kp_tr kp1 (kp_tr n2 (kp_sR (r := r3) (f := upd r3.reg 2 (rsN r3 d))))
  refine hQ _ _ _ (upW (upW ro k1 false) k2 false) _ _ _ _ (false :: k) n (decide (0 < n)) e (kp_kc kk2) (kp_mk kk2 hmk) (Or.inl (n3.trans st1)) (kp_sh kk2 hsh) w1 ?_
  rw [w2]
  exact T_fun hS m1 n1 (SI_h hS.1 ud) ⟨f, hv⟩ ⟨uS, tS_⟩ ⟨uE, tE⟩ ⟨SI_t hS.1 ud, f, hw⟩ ⟨uD, tD⟩
theorem A_4 (hX : RX r H T S E (vPr c) D R) (hT : TI H T ro (Ur r) S E (vPr c) D R k n b e) (hst : r.state = 1) (hmk : mkOK r) (hsh : shOK r) {x : Bool} {k' : Sk} {f : Nat} (hk : k = x :: true :: k') (hw : wt H T ro f (T c) (false :: k') n false e) (hf : 4 ≤ fz r) (hQ : stG b0 b1 op tl Q s r R) (F : Nat) : mj_sg (mj_Mt gT cst gnw (m + 4)) cst gnw (mj_hd (mj_off kO_R_step) kH_R_step) kC_R_step J Q (F + 150) false 40 [some (.ref 27), some (.int (nI c)), some (.int 4), none, none] [.int (rsN r c)] (cW s (rW r tl), b0, b1, op) := by
  obtain ⟨hS, ⟨uS, tS_⟩, ⟨uE, tE⟩, ⟨uC, tC⟩, ⟨uD, tD⟩, tb⟩ := hT
  have hT0 : TI H T ro (Ur r) S E (vPr c) D R k n b e := ⟨hS, ⟨uS, tS_⟩, ⟨uE, tE⟩, ⟨uC, tC⟩, ⟨uD, tD⟩, tb⟩
  have hX0 := hX
  obtain ⟨hB, x0, x1, x2, x3, x4⟩ := hX
  have uc := inU_pr uC
  clear tC
  refine And.intro (fun _ => ?_) (fun (g : (4 : Int32) = 1) => absurd g (by decide))
  refine And.intro (fun _ => ?_) (fun (g : (4 : Int32) = 2) => absurd g (by decide))
  refine And.intro (fun _ => ?_) (fun (g : (4 : Int32) = 3) => absurd g (by decide))
  refine And.intro (fun _ => ?_) (fun (g : ¬ (4 : Int32) = 4) => absurd rfl g)
  refine And.intro (fun _ => ?_) (fun (g : (4 : Int32) = 7) => absurd g (by decide))
  subst hk
  obtain ⟨a, rfl, ua, ⟨uTa, tTa⟩, ⟨uHa, gHa⟩, -⟩ := stk_top hS.1 ⟨uS, tS_⟩
  obtain ⟨a2, eTa, ua2, ⟨uTa2, tTa2⟩, ⟨uHa2, gHa2⟩, lHa2⟩ := stk_top hS.1 ⟨uTa, tTa⟩
  have hlT : isL_ (T a2) := isL_stk tTa2
  refine R_call4 (C' := T c) hX0 hf eTa hlT (rs_rg hB uc (isL_wtx ⟨f, hw⟩)) (fun g eg => ?_) (fun r' q1 q2 q3 q4 _ => ?_) (fun k1 k2 k3 k4 g r' n1 n2 n3 n4 q1 q2 eg ug q3 q4 => ?_)
  · rw [eg] at gHa
    obtain ⟨-, g2, g3⟩ := gHa g rfl
    exact ⟨isL_isE g3, isL_wtx g2⟩
  · exact hQ r' H T ro _ _ _ _ (x :: true :: k') n b e (kp_kc q1) (kp_mk q1 hmk) (Or.inr (Or.inr (Or.inl q2))) (kp_sh q1 hsh) q3 (by rw [q4]; exact hT0)
  · refine hQ r' _ _ (upW (upW (upW (upW ro k1 false) k2 false) k3 false) k4 true) _ _ _ _ [] 1 false eRet (kp_kc q1) (kp_mk q1 hmk) (Or.inl (q2.trans hst)) (kp_sh q1 hsh) q3 ?_
    rw [q4]
    exact T_call hS n1 n2 n3 n4 ⟨uTa2, tTa2⟩ ⟨uE, tE⟩ ⟨SI_t hS.1 uc, f, hw⟩ ⟨uD, tD⟩ ⟨uHa2, gHa2⟩ (lHa2 rfl) ug (by rw [← eg]; exact gHa)
theorem A_7 (hX : RX r H T S E (vPr c) D R) (hT : TI H T ro (Ur r) S E (vPr c) D R k n b e) (hst : r.state = 1) (hmk : mkOK r) (hsh : shOK r) {x : Bool} {k' : Sk} {f : Nat} (hk : k = x :: true :: k') (hn : 1 ≤ n) (hb : b = true) (hw : wt H T ro f (T c) (false :: k') (n - 1) false e) (hf : 3 ≤ fz r) (hQ : stG b0 b1 op tl Q s r R) (F : Nat) : mj_sg (mj_Mt gT cst gnw (m + 4)) cst gnw (mj_hd (mj_off kO_R_step) kH_R_step) kC_R_step J Q (F + 150) false 40 [some (.ref 27), some (.int (nI c)), some (.int 7), none, none] [.int (rsN r c)] (cW s (rW r tl), b0, b1, op) := by
  obtain ⟨hS, ⟨uS, tS_⟩, ⟨uE, tE⟩, ⟨uC, tC⟩, ⟨uD, tD⟩, tb⟩ := hT
  have hT0 : TI H T ro (Ur r) S E (vPr c) D R k n b e := ⟨hS, ⟨uS, tS_⟩, ⟨uE, tE⟩, ⟨uC, tC⟩, ⟨uD, tD⟩, tb⟩
  have hX0 := hX
  obtain ⟨hB, x0, x1, x2, x3, x4⟩ := hX
  have uc := inU_pr uC
  clear tC
  refine And.intro (fun _ => ?_) (fun (g : (7 : Int32) = 1) => absurd g (by decide))
  refine And.intro (fun _ => ?_) (fun (g : (7 : Int32) = 2) => absurd g (by decide))
  refine And.intro (fun _ => ?_) (fun (g : (7 : Int32) = 3) => absurd g (by decide))
  refine And.intro (fun (g : (7 : Int32) = 4) => absurd g (by decide)) (fun _ => ?_)
  refine And.intro (fun (g : ¬ (7 : Int32) = 7) => absurd rfl g) (fun _ => ?_)
  refine And.intro (fun (g : ¬ (7 : Int32) = 7) => absurd rfl g) (fun _ => ?_)
  subst hk
  subst hb
  obtain ⟨a, rfl, ua, ⟨uTa, tTa⟩, ⟨uHa, gHa⟩, -⟩ := stk_top hS.1 ⟨uS, tS_⟩
  obtain ⟨a2, eTa, ua2, ⟨uTa2, tTa2⟩, ⟨uHa2, gHa2⟩, lHa2⟩ := stk_top hS.1 ⟨uTa, tTa⟩
  have hlT : isL_ (T a2) := isL_stk tTa2
  obtain ⟨n, rfl⟩ : ∃ j, n = j + 1 := ⟨n - 1, by omega⟩
  obtain ⟨g0, rfl, rg0, tE0⟩ := tE
  have ug0 := inU_pr uE
  obtain ⟨a', f', g', ea', ef', eg', rg'⟩ := tb rfl
  cases ea'
  refine R_call7 (C' := T c) hX0 hf eTa hlT (rs_rg hB uc (isL_wtx ⟨f, hw⟩)) (isL_env tE0) (fun g eg => ?_) (fun r' q1 q2 q3 q4 _ => ?_) (fun k1 k2 k3 g h r' n1 n2 n3 q1 q2 eg ug eh q3 q4 => ?_)
  · rw [ef'] at eg
    cases eg
    rw [ef'] at gHa
    obtain ⟨-, g2, g3⟩ := gHa f' rfl
    exact ⟨⟨g', eg'⟩, isL_wtx g2⟩
  · exact hQ r' H T ro _ _ _ _ (x :: true :: k') (n + 1) true e (kp_kc q1) (kp_mk q1 hmk) (Or.inr (Or.inr (Or.inl q2))) (kp_sh q1 hsh) q3 (by rw [q4]; exact hT0)
  · rw [ef'] at eg
    cases eg
    rw [eg'] at eh
    cases eh
    refine hQ r' _ _ (upW (upW (upW ro k1 false) k2 false) k3 false) _ _ _ _ [] 1 false eRet (kp_kc q1) (kp_mk q1 hmk) (Or.inl (q2.trans hst)) (kp_sh q1 hsh) q3 ?_
    rw [q4]
    exact T_call7 hS n1 n2 n3 ⟨uTa2, tTa2⟩ ⟨SI_t hS.1 ug0, tE0⟩ ⟨SI_t hS.1 uc, f, hw⟩ ⟨uD, tD⟩ ⟨uHa2, gHa2⟩ (lHa2 rfl) ug (by rw [← ef']; exact gHa) eg' rg'
theorem A_5 (hX : RX r H T S E (vPr c) D R) (hT : TI H T ro (Ur r) S E (vPr c) D R k n b e) (hst : r.state = 1) (hmk : mkOK r) (hsh : shOK r) {x : Bool} {k' : Sk} (hk : k = x :: k') (he : e = eRet) (hf : 1 ≤ fz r) (hQ : stG b0 b1 op tl Q s r R) (F : Nat) : mj_sg (mj_Mt gT cst gnw (m + 4)) cst gnw (mj_hd (mj_off kO_R_step) kH_R_step) kC_R_step J Q (F + 150) false 40 [some (.ref 27), some (.int (nI c)), some (.int 5), none, none] [.int (rsN r c)] (cW s (rW r tl), b0, b1, op) := by
  obtain ⟨hS, ⟨uS, tS_⟩, ⟨uE, tE⟩, ⟨uC, tC⟩, ⟨uD, tD⟩, tb⟩ := hT
  have hT0 : TI H T ro (Ur r) S E (vPr c) D R k n b e := ⟨hS, ⟨uS, tS_⟩, ⟨uE, tE⟩, ⟨uC, tC⟩, ⟨uD, tD⟩, tb⟩
  have hX0 := hX
  obtain ⟨hB, x0, x1, x2, x3, x4⟩ := hX
  have uc := inU_pr uC
  clear tC
  refine And.intro (fun _ => ?_) (fun (g : (5 : Int32) = 1) => absurd g (by decide))
  refine And.intro (fun _ => ?_) (fun (g : (5 : Int32) = 2) => absurd g (by decide))
  refine And.intro (fun _ => ?_) (fun (g : (5 : Int32) = 3) => absurd g (by decide))
  refine And.intro (fun (g : (5 : Int32) = 4) => absurd g (by decide)) (fun _ => ?_)
  refine And.intro (fun _ => ?_) (fun (g : (5 : Int32) = 7) => absurd g (by decide))
  refine And.intro (fun (g : ¬ (5 : Int32) = 5) => absurd rfl g) (fun _ => ?_)
  subst hk
  subst he
  obtain ⟨a, rfl, ua, ⟨uTa, tTa⟩, ⟨uHa, gHa⟩, lHa⟩ := stk_top hS.1 ⟨uS, tS_⟩
  have hlT : isL_ (T a) := isL_stk tTa
  obtain ⟨d1, d2, d3, k2, n2, e2, rfl, eD1, eD2, ud1, ud2, ud3, ⟨u1, t1⟩, ⟨u2, t2⟩, ⟨u3, t3⟩, ⟨u4, t4⟩⟩ := dmx_ret hS.1 ⟨uD, tD⟩
  refine R_comeBack (a := a) (d1 := d1) (d2 := d2) (d3 := d3) hB hf (rg_pr x0).1 ua (rg_pr x3).1 ud1 eD1 ud2 eD2 ud3 (isL_stk t1) (isL_env t2) (isL_wtx t3) (isL_dmx t4) x4 (fun kk r' n1 q1 q2 q3 q4 => ?_)
  refine hQ r' _ _ (upW ro kk false) _ _ _ _ (false :: k2) n2 false e2 (kp_kc q1) (kp_mk q1 hmk) (Or.inl (q2.trans hst)) (kp_sh q1 hsh) q3 ?_
  rw [q4]
  exact T_push hS n1 uHa gHa (fun q => by cases q) ⟨u1, t1⟩ ⟨u2, t2⟩ ⟨u3, t3⟩ ⟨u4, t4⟩
theorem A_6 (hX : RX r H T S E (vPr c) D R) (hT : TI H T ro (Ur r) S E (vPr c) D R k n b e) (hst : r.state = 1) (hmk : mkOK r) (hsh : shOK r) {f : Nat} (hw : wt H T ro f (T c) k (n + 1) false e) (hf : 1 ≤ fz r) (hQ : stG b0 b1 op tl Q s r R) (F : Nat) : mj_sg (mj_Mt gT cst gnw (m + 4)) cst gnw (mj_hd (mj_off kO_R_step) kH_R_step) kC_R_step J Q (F + 150) false 40 [some (.ref 27), some (.int (nI c)), some (.int 6), none, none] [.int (rsN r c)] (cW s (rW r tl), b0, b1, op) := by
  obtain ⟨hS, ⟨uS, tS_⟩, ⟨uE, tE⟩, ⟨uC, tC⟩, ⟨uD, tD⟩, tb⟩ := hT
  have hT0 : TI H T ro (Ur r) S E (vPr c) D R k n b e := ⟨hS, ⟨uS, tS_⟩, ⟨uE, tE⟩, ⟨uC, tC⟩, ⟨uD, tD⟩, tb⟩
  have hX0 := hX
  obtain ⟨hB, x0, x1, x2, x3, x4⟩ := hX
  have uc := inU_pr uC
  clear tC
  refine And.intro (fun _ => ?_) (fun (g : (6 : Int32) = 1) => absurd g (by decide))
  refine And.intro (fun _ => ?_) (fun (g : (6 : Int32) = 2) => absurd g (by decide))
  refine And.intro (fun _ => ?_) (fun (g : (6 : Int32) = 3) => absurd g (by decide))
  refine And.intro (fun (g : (6 : Int32) = 4) => absurd g (by decide)) (fun _ => ?_)
  refine And.intro (fun _ => ?_) (fun (g : (6 : Int32) = 7) => absurd g (by decide))
  refine And.intro (fun _ => ?_) (fun (g : (6 : Int32) = 5) => absurd g (by decide))
  refine And.intro (fun (g : ¬ (6 : Int32) = 6) => absurd rfl g) (fun _ => ?_)
  refine And.intro i51 ?_
  refine R_make (h := vNil) (t := E) hB hf ⟨rfl, rfl⟩ x1 (fun kk r1 hm g1 => ?_)
  have hrs := A_rest hm uc (isL_wtx ⟨f, hw⟩)
  obtain ⟨⟨m1, -⟩, ⟨m2, m3, m4⟩, m5, m6, m7, m8⟩ := hm
  refine And.intro i51 ?_
  refine And.intro i52 ?_
  have hrr : rg r1 (T c) (rsN r c) := rg_up m4 (rs_rg hB uc (isL_wtx ⟨f, hw⟩))
  have kk2 := kp_tr m2 (kp_sR (r := r1) (f := upd (upd r1.reg 1 (nI kk)) 2 (rsN r c)))
  refine hQ (sR r1 (upd (upd r1.reg 1 (nI kk)) 2 (rsN r c))) (upW H kk vNil) (upW T kk E) (upW ro kk true) S (vPr kk) (T c) D k (n + 1) false e (kp_kc kk2) (kp_mk kk2 hmk) (Or.inl (m3.trans hst)) (kp_sh kk2 hsh) ⟨sm_RB sm_sR m5, ?_, sm_rg sm_sR m8, sm_rg sm_sR hrr, ?_, ?_⟩ ?_
  · show rg _ _ (r1.reg 0)
    rw [g1]
    exact sm_rg sm_sR (rg_up m4 x0)
  · show rg _ _ (r1.reg 3)
    rw [g1]
    exact sm_rg sm_sR (rg_up m4 x3)
  · show rg _ _ (r1.reg 4)
    rw [g1]
    exact sm_rg sm_sR (rg_up m4 x4)
  · have eU : Ur (sR r1 (upd (upd r1.reg 1 (nI kk)) 2 (rsN r c))) = addU (Ur r) kk := (sm_Ur sm_sR).trans m6
    rw [eU]
    exact T_frame hS m1 ⟨uS, tS_⟩ ⟨uE, tE⟩ ⟨SI_t hS.1 uc, f, hw⟩ ⟨uD, tD⟩
theorem A_8 (hX : RX r H T S E (vPr c) D R) (hT : TI H T ro (Ur r) S E (vPr c) D R k n b e) (hst : r.state = 1) (hmk : mkOK r) (hsh : shOK r) {x : Bool} {k' : Sk} {d q f : Nat} (hk : k = x :: k') (eT : T c = vPr d) (eQ : T d = vPr q) (w1 : wt H T ro f (H d) k' n false (eJoin (false :: k') n)) (w2 : wt H T ro f (H q) k' n false (eJoin (false :: k') n)) (w3 : wt H T ro f (T q) (false :: k') n false e) (hf : 1 ≤ fz r) (hQ : stG b0 b1 op tl Q s r R) (F : Nat) : mj_sg (mj_Mt gT cst gnw (m + 4)) cst gnw (mj_hd (mj_off kO_R_step) kH_R_step) kC_R_step J Q (F + 150) false 40 [some (.ref 27), some (.int (nI c)), some (.int 8), none, none] [.int (rsN r c)] (cW s (rW r tl), b0, b1, op) := by
  obtain ⟨hS, ⟨uS, tS_⟩, ⟨uE, tE⟩, ⟨uC, tC⟩, ⟨uD, tD⟩, tb⟩ := hT
  have hT0 : TI H T ro (Ur r) S E (vPr c) D R k n b e := ⟨hS, ⟨uS, tS_⟩, ⟨uE, tE⟩, ⟨uC, tC⟩, ⟨uD, tD⟩, tb⟩
  have hX0 := hX
  obtain ⟨hB, x0, x1, x2, x3, x4⟩ := hX
  have uc := inU_pr uC
  clear tC
  refine And.intro (fun _ => ?_) (fun (g : (8 : Int32) = 1) => absurd g (by decide))
  refine And.intro (fun _ => ?_) (fun (g : (8 : Int32) = 2) => absurd g (by decide))
  refine And.intro (fun _ => ?_) (fun (g : (8 : Int32) = 3) => absurd g (by decide))
  refine And.intro (fun (g : (8 : Int32) = 4) => absurd g (by decide)) (fun _ => ?_)
  refine And.intro (fun _ => ?_) (fun (g : (8 : Int32) = 7) => absurd g (by decide))
  refine And.intro (fun _ => ?_) (fun (g : (8 : Int32) = 5) => absurd g (by decide))
  refine And.intro (fun _ => ?_) (fun (g : (8 : Int32) = 6) => absurd g (by decide))
  refine And.intro (fun (g : ¬ (8 : Int32) = 8) => absurd rfl g) (fun _ => ?_)
  subst hk
  obtain ⟨a, rfl, ua, ⟨uTa, tTa⟩, ⟨uHa, gHa⟩, lHa⟩ := stk_top hS.1 ⟨uS, tS_⟩
  have hlT : isL_ (T a) := isL_stk tTa
  have ud := SI_tp hS.1 uc eT
  have uq := SI_tp hS.1 ud eQ
  refine R_choose (d := d) (q := q) hX0 hf hlT (rs_pr hB uc eT) ud eQ uq (isL_wtx ⟨f, w3⟩) (isL_wtx ⟨f, w1⟩) (isL_wtx ⟨f, w2⟩) (fun r' q1 q2 q3 q4 _ => ?_) (fun kk r' y n1 q1 q2 _ q3 q4 => ?_)
  · exact hQ r' H T ro _ _ _ _ (x :: k') n b e (kp_kc q1) (kp_mk q1 hmk) (Or.inr (Or.inr (Or.inl q2))) (kp_sh q1 hsh) q3 (by rw [q4]; exact hT0)
  · refine hQ r' _ _ (upW ro kk false) _ _ _ _ k' n false (eJoin (false :: k') n) (kp_kc q1) (kp_mk q1 hmk) (Or.inl (q2.trans hst)) (kp_sh q1 hsh) q3 ?_
    rw [q4]
    refine T_choose hS n1 ⟨uTa, tTa⟩ ⟨uE, tE⟩ ?_ ⟨uD, tD⟩ ⟨SI_t hS.1 uq, f, w3⟩
    split
    · exact ⟨SI_h hS.1 uq, f, w2⟩
    · exact ⟨SI_h hS.1 ud, f, w1⟩
theorem A_9 (hX : RX r H T S E (vPr c) D R) (hT : TI H T ro (Ur r) S E (vPr c) D R k n b e) (hst : r.state = 1) (hmk : mkOK r) (hsh : shOK r) (he : e = eJoin k n) (hQ : stG b0 b1 op tl Q s r R) (F : Nat) : mj_sg (mj_Mt gT cst gnw (m + 4)) cst gnw (mj_hd (mj_off kO_R_step) kH_R_step) kC_R_step J Q (F + 150) false 40 [some (.ref 27), some (.int (nI c)), some (.int 9), none, none] [.int (rsN r c)] (cW s (rW r tl), b0, b1, op) := by
  obtain ⟨hS, ⟨uS, tS_⟩, ⟨uE, tE⟩, ⟨uC, tC⟩, ⟨uD, tD⟩, tb⟩ := hT
  have hT0 : TI H T ro (Ur r) S E (vPr c) D R k n b e := ⟨hS, ⟨uS, tS_⟩, ⟨uE, tE⟩, ⟨uC, tC⟩, ⟨uD, tD⟩, tb⟩
  have hX0 := hX
  obtain ⟨hB, x0, x1, x2, x3, x4⟩ := hX
  have uc := inU_pr uC
  clear tC
  refine And.intro (fun _ => ?_) (fun (g : (9 : Int32) = 1) => absurd g (by decide))
  refine And.intro (fun _ => ?_) (fun (g : (9 : Int32) = 2) => absurd g (by decide))
  refine And.intro (fun _ => ?_) (fun (g : (9 : Int32) = 3) => absurd g (by decide))
  refine And.intro (fun (g : (9 : Int32) = 4) => absurd g (by decide)) (fun _ => ?_)
  refine And.intro (fun _ => ?_) (fun (g : (9 : Int32) = 7) => absurd g (by decide))
  refine And.intro (fun _ => ?_) (fun (g : (9 : Int32) = 5) => absurd g (by decide))
  refine And.intro (fun _ => ?_) (fun (g : (9 : Int32) = 6) => absurd g (by decide))
  refine And.intro (fun _ => ?_) (fun (g : (9 : Int32) = 8) => absurd g (by decide))
  refine And.intro (fun (g : ¬ (9 : Int32) = 9) => absurd rfl g) (fun _ => ?_)
  subst he
  obtain ⟨a, e2, rfl, ua, ⟨u1, t1⟩, ⟨u2, t2⟩⟩ := dmx_join hS.1 ⟨uD, tD⟩
  have h3 := (rg_pr x3).1
  have ha := Ur_lt hB ua
  refine And.intro i53 ?_
  refine R_headList h3 ha ?_
  refine And.intro i52 ?_
  change mj_sg _ _ _ _ _ _ _ _ _ 168 _ _ (cW s (rW (sR r (upd r.reg 2 (hlN r a))) tl), b0, b1, op)
  refine And.intro i53 ?_
  refine R_rest h3 ha ?_
  refine And.intro i53 ?_
  have kk2 := kp_sR (r := r) (f := upd (upd r.reg 2 (hlN r a)) 3 (rsN r a))
  refine hQ (sR r (upd (upd r.reg 2 (hlN r a)) 3 (rsN r a))) H T ro S E (H a) (T a) k n false e2 (kp_kc kk2) (kp_mk kk2 hmk) (Or.inl hst) (kp_sh kk2 hsh) ⟨sm_RB sm_sR hB, sm_rg sm_sR x0, sm_rg sm_sR x1, sm_rg sm_sR (hl_rg hB ua (isL_wtx t1)), sm_rg sm_sR (rs_rg hB ua (isL_dmx t2)), sm_rg sm_sR x4⟩ ?_
  exact ⟨hS, ⟨uS, tS_⟩, ⟨uE, tE⟩, ⟨u1, t1⟩, ⟨u2, t2⟩, fun q => by cases q⟩
theorem A_10 (hX : RX r H T S E (vPr c) D R) (hT : TI H T ro (Ur r) S E (vPr c) D R k n b e) (hst : r.state = 1) (hmk : mkOK r) (hsh : shOK r) {i : Int32} {x : Bool} {k' : Sk} {f : Nat} (hi : i = 10 ∨ i = 11 ∨ i = 12) (hk : k = x :: k') (hw : wt H T ro f (T c) (false :: k') n false e) (hf : 1 ≤ fz r) (hQ : stG b0 b1 op tl Q s r R) (F : Nat) : mj_sg (mj_Mt gT cst gnw (m + 4)) cst gnw (mj_hd (mj_off kO_R_step) kH_R_step) kC_R_step J Q (F + 150) false 40 [some (.ref 27), some (.int (nI c)), some (.int i), none, none] [.int (rsN r c)] (cW s (rW r tl), b0, b1, op) := by
  obtain ⟨hS, ⟨uS, tS_⟩, ⟨uE, tE⟩, ⟨uC, tC⟩, ⟨uD, tD⟩, tb⟩ := hT
  have hT0 : TI H T ro (Ur r) S E (vPr c) D R k n b e := ⟨hS, ⟨uS, tS_⟩, ⟨uE, tE⟩, ⟨uC, tC⟩, ⟨uD, tD⟩, tb⟩
  have hX0 := hX
  obtain ⟨hB, x0, x1, x2, x3, x4⟩ := hX
  have uc := inU_pr uC
  clear tC
  refine And.intro (fun _ => ?_) (fun (g : i = 1) => absurd g (by rcases hi with rfl | rfl | rfl <;> decide))
  refine And.intro (fun _ => ?_) (fun (g : i = 2) => absurd g (by rcases hi with rfl | rfl | rfl <;> decide))
  refine And.intro (fun _ => ?_) (fun (g : i = 3) => absurd g (by rcases hi with rfl | rfl | rfl <;> decide))
  refine And.intro (fun (g : i = 4) => absurd g (by rcases hi with rfl | rfl | rfl <;> decide)) (fun _ => ?_)
  refine And.intro (fun _ => ?_) (fun (g : i = 7) => absurd g (by rcases hi with rfl | rfl | rfl <;> decide))
  refine And.intro (fun _ => ?_) (fun (g : i = 5) => absurd g (by rcases hi with rfl | rfl | rfl <;> decide))
  refine And.intro (fun _ => ?_) (fun (g : i = 6) => absurd g (by rcases hi with rfl | rfl | rfl <;> decide))
  refine And.intro (fun _ => ?_) (fun (g : i = 8) => absurd g (by rcases hi with rfl | rfl | rfl <;> decide))
  refine And.intro (fun _ => ?_) (fun (g : i = 9) => absurd g (by rcases hi with rfl | rfl | rfl <;> decide))
  refine And.intro (fun (g : (13 : Int32) ≤ i) => absurd g (by rcases hi with rfl | rfl | rfl <;> decide)) (fun _ => ?_)
  subst hk
  obtain ⟨a, rfl, ua, ⟨uTa, tTa⟩, ⟨uHa, gHa⟩, lHa⟩ := stk_top hS.1 ⟨uS, tS_⟩
  have hlT : isL_ (T a) := isL_stk tTa
  refine R_ofOne (C' := T c) hi hX0 hf hlT (rs_rg hB uc (isL_wtx ⟨f, hw⟩)) (fun r' q1 q2 q3 q4 _ _ => ?_) (fun kk r' w n1 q1 q2 hw2 q3 q4 => ?_)
  · exact hQ r' H T ro _ _ _ _ (x :: k') n b e (kp_kc q1) (kp_mk q1 hmk) (Or.inr (Or.inr (Or.inl q2))) (kp_sh q1 hsh) q3 (by rw [q4]; exact hT0)
  · have hv : inU (Ur r) w ∧ gF H T ro w := by
      rcases hw2 with ⟨-, w1, rfl⟩ | ⟨-, w1, rfl⟩ | ⟨-, rfl⟩
      · obtain ⟨j, ej⟩ := kV_pr w1
        rw [ej] at uHa
        have uj := inU_pr uHa
        have e9 : ofV H (H a) = H j := by rw [ej]; rfl
        rw [e9]
        exact ⟨SI_h hS.1 uj, (hS.1 j uj).2.1.1⟩
      · obtain ⟨j, ej⟩ := kV_pr w1
        rw [ej] at uHa
        have uj := inU_pr uHa
        have e9 : ofV T (H a) = T j := by rw [ej]; rfl
        rw [e9]
        exact ⟨SI_t hS.1 uj, (hS.1 j uj).2.1.2⟩
      · exact ⟨int_inU, gF_int⟩
    refine hQ r' _ _ (upW ro kk false) _ _ _ _ (false :: k') n false e (kp_kc q1) (kp_mk q1 hmk) (Or.inl (q2.trans hst)) (kp_sh q1 hsh) q3 ?_
    rw [q4]
    exact T_push hS n1 hv.1 hv.2 (fun q => by cases q) ⟨uTa, tTa⟩ ⟨uE, tE⟩ ⟨SI_t hS.1 uc, f, hw⟩ ⟨uD, tD⟩
theorem A_13 (hX : RX r H T S E (vPr c) D R) (hT : TI H T ro (Ur r) S E (vPr c) D R k n b e) (hst : r.state = 1) (hmk : mkOK r) (hsh : shOK r) {i : Int32} {x y t : Bool} {k' : Sk} {f : Nat} (hi : i = 13 ∨ i = 14 ∨ i = 15 ∨ i = 16 ∨ i = 17 ∨ i = 18) (hk : k = x :: y :: k') (ht : t = true → i = 13 ∧ y = true) (hw : wt H T ro f (T c) (t :: k') n false e) (hf : 1 ≤ fz r) (hf2 : i = 13 → 2 ≤ fz r) (hQ : stG b0 b1 op tl Q s r R) (F : Nat) : mj_sg (mj_Mt gT cst gnw (m + 4)) cst gnw (mj_hd (mj_off kO_R_step) kH_R_step) kC_R_step J Q (F + 150) false 40 [some (.ref 27), some (.int (nI c)), some (.int i), none, none] [.int (rsN r c)] (cW s (rW r tl), b0, b1, op) := by
  obtain ⟨hS, ⟨uS, tS_⟩, ⟨uE, tE⟩, ⟨uC, tC⟩, ⟨uD, tD⟩, tb⟩ := hT
  have hT0 : TI H T ro (Ur r) S E (vPr c) D R k n b e := ⟨hS, ⟨uS, tS_⟩, ⟨uE, tE⟩, ⟨uC, tC⟩, ⟨uD, tD⟩, tb⟩
  have hX0 := hX
  obtain ⟨hB, x0, x1, x2, x3, x4⟩ := hX
  have uc := inU_pr uC
  clear tC
  refine And.intro (fun _ => ?_) (fun (g : i = 1) => absurd g (by rcases hi with rfl | rfl | rfl | rfl | rfl | rfl <;> decide))
  refine And.intro (fun _ => ?_) (fun (g : i = 2) => absurd g (by rcases hi with rfl | rfl | rfl | rfl | rfl | rfl <;> decide))
  refine And.intro (fun _ => ?_) (fun (g : i = 3) => absurd g (by rcases hi with rfl | rfl | rfl | rfl | rfl | rfl <;> decide))
  refine And.intro (fun (g : i = 4) => absurd g (by rcases hi with rfl | rfl | rfl | rfl | rfl | rfl <;> decide)) (fun _ => ?_)
  refine And.intro (fun _ => ?_) (fun (g : i = 7) => absurd g (by rcases hi with rfl | rfl | rfl | rfl | rfl | rfl <;> decide))
  refine And.intro (fun _ => ?_) (fun (g : i = 5) => absurd g (by rcases hi with rfl | rfl | rfl | rfl | rfl | rfl <;> decide))
  refine And.intro (fun _ => ?_) (fun (g : i = 6) => absurd g (by rcases hi with rfl | rfl | rfl | rfl | rfl | rfl <;> decide))
  refine And.intro (fun _ => ?_) (fun (g : i = 8) => absurd g (by rcases hi with rfl | rfl | rfl | rfl | rfl | rfl <;> decide))
  refine And.intro (fun _ => ?_) (fun (g : i = 9) => absurd g (by rcases hi with rfl | rfl | rfl | rfl | rfl | rfl <;> decide))
  refine And.intro (fun _ => ?_) (fun (g : ¬ (13 : Int32) ≤ i) => absurd (by rcases hi with rfl | rfl | rfl | rfl | rfl | rfl <;> decide) g)
  refine And.intro (fun (g : (19 : Int32) ≤ i) => absurd g (by rcases hi with rfl | rfl | rfl | rfl | rfl | rfl <;> decide)) (fun _ => ?_)
  subst hk
  obtain ⟨a, rfl, ua, ⟨uTa, tTa⟩, ⟨uHa, gHa⟩, -⟩ := stk_top hS.1 ⟨uS, tS_⟩
  obtain ⟨a2, eTa, ua2, ⟨uTa2, tTa2⟩, ⟨uHa2, gHa2⟩, lHa2⟩ := stk_top hS.1 ⟨uTa, tTa⟩
  have hlT : isL_ (T a2) := isL_stk tTa2
  refine R_ofTwo (C' := T c) hi hX0 hf hf2 eTa hlT (rs_rg hB uc (isL_wtx ⟨f, hw⟩)) (fun r' q1 q2 q3 q4 _ _ _ => ?_) (fun kk r' v n1 q1 q2 hv q3 q4 => ?_) (fun k1 k2 r' n1 n2 q1 q2 ei q3 q4 => ?_)
  · exact hQ r' H T ro _ _ _ _ (x :: y :: k') n b e (kp_kc q1) (kp_mk q1 hmk) (Or.inr (Or.inr (Or.inl q2))) (kp_sh q1 hsh) q3 (by rw [q4]; exact hT0)
  · refine hQ r' _ _ (upW ro kk false) _ _ _ _ (t :: k') n false e (kp_kc q1) (kp_mk q1 hmk) (Or.inl (q2.trans hst)) (kp_sh q1 hsh) q3 ?_
    rw [q4]
    refine T_push hS n1 int_inU gF_int (fun q => ?_) ⟨uTa2, tTa2⟩ ⟨uE, tE⟩ ⟨SI_t hS.1 uc, f, hw⟩ ⟨uD, tD⟩
    have := (ht q).1
    rcases hv with ⟨w, -⟩ | ⟨w, -⟩
    · rw [this] at w
      exact absurd w (by decide)
    · exact absurd this w
  · refine hQ r' _ _ (upW (upW ro k1 false) k2 false) _ _ _ _ (t :: k') n false e (kp_kc q1) (kp_mk q1 hmk) (Or.inl (q2.trans hst)) (kp_sh q1 hsh) q3 ?_
    rw [q4]
    have hx1 : Ext (Ur r) H T ro (upW H k1 (H a)) (upW T k1 (H a2)) (upW ro k1 false) := Ext_new n1
    have hS1 : TS (upW H k1 (H a)) (upW T k1 (H a2)) (upW ro k1 false) (addU (Ur r) k1) R := TS_new hS n1 uHa uHa2 gHa gHa2 (fun q => by cases q)
    refine T_push hS1 n2 (pr_inU new_in) gF_pr (fun q => ?_) ⟨in_new uTa2, stk_ext hS.1 hx1 _ _ uTa2 tTa2⟩ ⟨in_new uE, env_ext hS.1 hx1 _ _ uE tE⟩ ⟨in_new (SI_t hS.1 uc), wtx_ext hS.1 hx1 (SI_t hS.1 uc) ⟨f, hw⟩⟩ ⟨in_new uD, dmx_ext hS.1 hx1 uD tD⟩
    obtain ⟨mm, hl⟩ := lst_ext hS.1 hx1 uHa2 (lHa2 (ht q).2)
    refine ⟨mm + 1, k1, rfl, ?_⟩
    have e1 : upW T k1 (H a2) k1 = H a2 := if_pos rfl
    rw [e1]
    exact hl
theorem A_19 (hX : RX r H T S E (vPr c) D R) (hT : TI H T ro (Ur r) S E (vPr c) D R k n b e) (hst : r.state = 1) (hmk : mkOK r) (hsh : shOK r) {x : Bool} {k' : Sk} (hk : k = x :: k') (hQ : stG b0 b1 op tl Q s r R) (F : Nat) : mj_sg (mj_Mt gT cst gnw (m + 4)) cst gnw (mj_hd (mj_off kO_R_step) kH_R_step) kC_R_step J Q (F + 150) false 40 [some (.ref 27), some (.int (nI c)), some (.int 19), none, none] [.int (rsN r c)] (cW s (rW r tl), b0, b1, op) := by
  obtain ⟨hS, ⟨uS, tS_⟩, ⟨uE, tE⟩, ⟨uC, tC⟩, ⟨uD, tD⟩, tb⟩ := hT
  have hT0 : TI H T ro (Ur r) S E (vPr c) D R k n b e := ⟨hS, ⟨uS, tS_⟩, ⟨uE, tE⟩, ⟨uC, tC⟩, ⟨uD, tD⟩, tb⟩
  have hX0 := hX
  obtain ⟨hB, x0, x1, x2, x3, x4⟩ := hX
  have uc := inU_pr uC
  clear tC
  refine And.intro (fun _ => ?_) (fun (g : (19 : Int32) = 1) => absurd g (by decide))
  refine And.intro (fun _ => ?_) (fun (g : (19 : Int32) = 2) => absurd g (by decide))
  refine And.intro (fun _ => ?_) (fun (g : (19 : Int32) = 3) => absurd g (by decide))
  refine And.intro (fun (g : (19 : Int32) = 4) => absurd g (by decide)) (fun _ => ?_)
  refine And.intro (fun _ => ?_) (fun (g : (19 : Int32) = 7) => absurd g (by decide))
  refine And.intro (fun _ => ?_) (fun (g : (19 : Int32) = 5) => absurd g (by decide))
  refine And.intro (fun _ => ?_) (fun (g : (19 : Int32) = 6) => absurd g (by decide))
  refine And.intro (fun _ => ?_) (fun (g : (19 : Int32) = 8) => absurd g (by decide))
  refine And.intro (fun _ => ?_) (fun (g : (19 : Int32) = 9) => absurd g (by decide))
  refine And.intro (fun _ => ?_) (fun (g : ¬ (13 : Int32) ≤ (19 : Int32)) => absurd (by decide) g)
  refine And.intro (fun _ => ?_) (fun (g : ¬ (19 : Int32) ≤ (19 : Int32)) => absurd (by decide) g)
  subst hk
  obtain ⟨a, rfl, ua, -⟩ := stk_top hS.1 ⟨uS, tS_⟩
  have ha := Ur_lt hB ua
  refine R_stop (fun r' c1 c2 c3 c4 c5 c6 => ?_)
  have hB' := c6 H T hB
  have hz := hB'.1.2
  have raw' := hB'.2.2
  refine R_showAll (a := a) ha (by rw [c5]; exact (rg_pr x0).1) (fun i hi => ⟨fun q => ?_, fun q => ?_⟩) (fun p n2 pl hp => ?_)
  · obtain ⟨j, j1, j2⟩ := (raw' i hi).1 q
    exact ⟨j, by omega, j2⟩
  · obtain ⟨j, j1, j2⟩ := (raw' i hi).2 q
    exact ⟨j, by omega, j2⟩
  · have hX1 : RX r' H T (vPr a) E (vPr c) D R := ⟨hB', by rw [c5]; exact rg_up c3 x0, by rw [c5]; exact rg_up c3 x1, by rw [c5]; exact rg_up c3 x2, by rw [c5]; exact rg_up c3 x3, by rw [c5]; exact rg_up c3 x4⟩
    have hk1 : kc r (phR (gR r' (r'.headKind a) (r'.head a)) p n2 pl) := kc_tr (kp_kc c1) ⟨rfl, rfl, rfl, rfl, rfl⟩
    have hm1 : mkOK (phR (gR r' (r'.headKind a) (r'.head a)) p n2 pl) := by
      obtain ⟨mk, em⟩ := kp_mk c1 hmk
      exact ⟨mk, em⟩
    refine hQ (phR (gR r' (r'.headKind a) (r'.head a)) p n2 pl) H T ro (vPr a) E (vPr c) D (x :: k') n b e hk1 hm1 (Or.inr (Or.inl c2)) ⟨p.1, hp, rfl⟩ hX1 ?_
    have eU : Ur (phR (gR r' (r'.headKind a) (r'.head a)) p n2 pl) = Ur r := c4
    rw [eU]
    exact hT0
end RST
end
section
def rqN (i : Int32) : Nat := if i = 4 then 4 else if i = 7 then 3 else if i = 3 ∨ i = 13 then 2 else if i = 9 ∨ i = 19 then 0 else 1
theorem rnd_rq (i : Int32) : rnd i = nI (rqN i) ∧ rqN i ≤ 4 := by
  unfold rnd rqN
  by_cases h1 : i = 4
  · rw [if_pos h1, if_pos h1]
    exact ⟨rfl, by decide⟩
  · rw [if_neg h1, if_neg h1]
    by_cases h2 : i = 7
    · rw [if_pos h2, if_pos h2]
      exact ⟨rfl, by decide⟩
    · rw [if_neg h2, if_neg h2]
      by_cases h3 : i = 3 ∨ i = 13
      · rw [if_pos h3, if_pos h3]
        exact ⟨rfl, by decide⟩
      · rw [if_neg h3, if_neg h3]
        by_cases h4 : i = 9 ∨ i = 19
        · rw [if_pos h4, if_pos h4]
          exact ⟨rfl, by decide⟩
        · rw [if_neg h4, if_neg h4]
          exact ⟨rfl, by decide⟩
def clR (r : rM) (x : Int32) : rM := (r.s_collections x)
def tbR (r : rM) (x : Int32) : rM := (r.s_takenBack x)
section RSP
variable {cst : Nat → Option (Nat × (Nat → Int32))} {m b0 b1 : Nat} {op : Bool} {tl : List mj_O} {Q : mj_R → Prop} {s : cS} {r : rM} {H T : Nat → Vl} {ro : Nat → Bool} {S E C D R : Vl} {k : Sk} {n : Nat} {b : Bool} {e : En} {J : Nat → mj_L → List Value → mj_H → Prop}
set_option maxRecDepth 10000
theorem stG_kc {r' : rM} (h : kc r r') (hQ : stG b0 b1 op tl Q s r R) : stG b0 b1 op tl Q s r' R := fun r2 H' T' ro' S' E' C' D' k' n' b' e' h1 h2 h3 h4 h5 h6 => hQ r2 H' T' ro' S' E' C' D' k' n' b' e' (kc_tr h h1) h2 h3 h4 h5 h6
theorem R_act {c f : Nat} {i : Int32} (hX : RX r H T S E (vPr c) D R) (hT : TI H T ro (Ur r) S E (vPr c) D R k n b e) (hst : r.state = 1) (hmk : mkOK r) (hsh : shOK r) (hQ : stG b0 b1 op tl Q s r R) (hi : rqN i ≤ fz r) (hw : wt H T ro (f + 1) (vPr c) k n b e) (hH : H c = vInt i) (F : Nat) :
    mj_sg (mj_Mt gT cst gnw (m + 4)) cst gnw (mj_hd (mj_off kO_R_step) kH_R_step) kC_R_step J Q (F + 160) false 37 [some (.ref 27), some (.int (nI c)), some (.int i), none, none] [] (cW s (rW r tl), b0, b1, op) := by
  have hc : c < 250 := Ur_lt hX.1 (rg_pr hX.2.2.2.1).2
  refine R_rest rfl hc ?_
  obtain ⟨c', i', ec, -, hH', h⟩ := hw
  cases ec
  rw [hH] at hH'
  cases hH'
  rcases h with ⟨e1, d, t, a1, a2, a0, a3⟩ | ⟨e1, d, x, a1, a2, a3, a4⟩ | ⟨e1, d, a1, a2, a3, a4⟩ | ⟨e1, x, k', a1, a2⟩ | ⟨e1, x, k', a1, a2⟩ | ⟨e1, a1⟩ | ⟨e1, x, k', a1, a2, a3, a4⟩ | ⟨e1, x, k', d, q, a1, a2, a3, a4, a5, a6, a7, a8⟩ | ⟨e1, a1⟩ | ⟨e1, x, k', a1, a2⟩ | ⟨e1, x, y, t, k', a1, a0, a2⟩ | ⟨e1, x, k', a1, a2⟩
  · subst e1
    exact A_1 hX hT hst hmk hsh a1 a0 a3 hi hQ _
  · subst e1
    exact A_2 hX hT hst hmk hsh a1 a3.1 a3.2 a4 hi hQ _
  · subst e1
    exact A_3 hX hT hst hmk hsh a1 a3 a4 hi hQ _
  · subst e1
    exact A_4 hX hT hst hmk hsh a1 a2 hi hQ _
  · subst e1
    exact A_5 hX hT hst hmk hsh a1 a2 hi hQ _
  · subst e1
    exact A_6 hX hT hst hmk hsh a1 hi hQ _
  · subst e1
    exact A_7 hX hT hst hmk hsh a1 a2 a3 a4 hi hQ _
  · subst e1
    exact A_8 hX hT hst hmk hsh a1 a2 a4 a6 a7 a8 hi hQ _
  · subst e1
    exact A_9 hX hT hst hmk hsh a1 hQ _
  · refine A_10 hX hT hst hmk hsh e1 a1 a2 ?_ hQ _
    rcases e1 with rfl | rfl | rfl <;> exact hi
  · refine A_13 hX hT hst hmk hsh e1 a1 a0 a2 ?_ (fun q => ?_) hQ _
    · rcases e1 with rfl | rfl | rfl | rfl | rfl | rfl
      · exact Nat.le_trans (by decide) hi
      · exact hi
      · exact hi
      · exact hi
      · exact hi
      · exact hi
    · subst q
      exact hi
  · subst e1
    exact A_19 hX hT hst hmk hsh a1 hQ _
theorem R_step (hX : RX r H T S E C D R) (hT : TI H T ro (Ur r) S E C D R k n b e) (hst : r.state = 1) (hmk : mkOK r) (hsh : shOK r) (hQ : stG b0 b1 op tl Q s r R) : mj_Mt gT cst gnw (m + 5) y_R_step [.ref 27] (cW s (rW r tl), b0, b1, op) Q := by
  obtain ⟨f, hw⟩ : ∃ f, wt H T ro f C k n b e := hT.2.2.2.1.2
  cases f with
  | zero => exact absurd hw id
  | succ f =>
  have hw0 := hw
  obtain ⟨c, i, rfl, -, hH, -⟩ := hw
  have hB := hX.1
  have hz := hB.1.2
  obtain ⟨h2, uc⟩ := rg_pr hX.2.2.2.1
  have hc : c < 250 := Ur_lt hB uc
  have ek : (nI c).toNatClampNeg = c := nI_clamp (by omega)
  have eh : r.head c = i := by
    have := (hB.2.1 c uc).1
    rw [hH] at this
    exact this.2
  obtain ⟨en, hn4⟩ := rnd_rq i
  have hfz : ∀ r' : rM, r'.z ≤ 250 → fz r' ≤ 250 := fun r' h => by
    have := czN_le r'.used r'.z 0 0
    unfold fz
    omega
  intro J hJ
  have key1 : ∀ x : Int32, x = nI c → ∀ F : Nat, mj_sg (mj_Mt gT cst gnw (m + 4)) cst gnw (mj_hd (mj_off kO_R_step) kH_R_step) kC_R_step J Q (F + 300) false 4 [some (.ref 27), none, none, none, none] [.int x] (cW s (rW r tl), b0, b1, op) := by
    rintro x rfl F
    refine And.intro (vp_in_nI hc (by decide)) ?_
    rw [ek, eh]
    refine r_free hz ?_
    refine r_needs ?_
    refine And.intro (fun (g : rnd i ≤ nI (fz r)) => ?_) (fun (g : ¬ rnd i ≤ nI (fz r)) => ?_)
    · rw [en] at g
      have hle := (nI_leI (by omega) (by have := hfz r hz; omega)).mp g
      exact R_act hX hT hst hmk hsh hQ hle hw0 hH _
    · refine R_sweep (r := clR r (r.collections + Int32.ofInt 1)) (H := H) (T := T) (S := S) (E := E) (C := vPr c) (D := D) (R := R) hX hmk (fun nn r' hnn q1 q2 q3 q4 q5 q6 q7 q8 q9 q10 => ?_)
      obtain ⟨p1, p2, p3, p4, p5⟩ := q10
      have hT' : TI H T ro (Ur r') S E (vPr c) D R k n b e := TI_sub hT q8 q9 p1 p2 p3 p4 p5
      have hst' : r'.state = 1 := q3.trans hst
      have hsh' : shOK r' := by
        obtain ⟨j, hj, ej⟩ := hsh
        exact ⟨j, hj, q5.2.2.2.1.trans ej⟩
      have hkc : kc r r' := kc_tr (r' := clR r (r.collections + Int32.ofInt 1)) ⟨rfl, rfl, rfl, rfl, rfl⟩ q1
      have hz' := q7.1.1.2
      have key2 : ∀ y0 y1 : Int32, ∀ F : Nat, mj_sg (mj_Mt gT cst gnw (m + 4)) cst gnw (mj_hd (mj_off kO_R_step) kH_R_step) kC_R_step J Q (F + 200) false 26 [some (.ref 27), some (.int (nI c)), some (.int i), none, none] [.int y1, .int y0, .ref 27] (cW s (rW r' tl), b0, b1, op) := by
        intro y0 y1 F
        have hX2 : RX (tbR r' (y0 + y1)) H T S E (vPr c) D R := q7
        have hT2 : TI H T ro (Ur (tbR r' (y0 + y1))) S E (vPr c) D R k n b e := hT'
        have hkc2 : kc r (tbR r' (y0 + y1)) := hkc
        have hst2 : (tbR r' (y0 + y1)).state = 1 := hst'
        have hmk2 : mkOK (tbR r' (y0 + y1)) := q2
        have hsh2 : shOK (tbR r' (y0 + y1)) := hsh'
        have hz2 : (tbR r' (y0 + y1)).z ≤ 250 := hz'
        refine r_free (r := tbR r' (y0 + y1)) hz2 ?_
        refine r_needs ?_
        refine And.intro (fun (g : rnd i ≤ nI (fz (tbR r' (y0 + y1)))) => ?_) (fun (g : ¬ rnd i ≤ nI (fz (tbR r' (y0 + y1)))) => ?_)
        · rw [en] at g
          have hle := (nI_leI (by omega) (by have := hfz (tbR r' (y0 + y1)) hz2; omega)).mp g
          exact R_act hX2 hT2 hst2 hmk2 hsh2 (stG_kc hkc2 hQ) hle hw0 hH _
        · refine R_stop (fun r3 c1 c2 c3 c4 c5 c6 => ?_)
          obtain ⟨hB2, x0, x1, x2, x3, x4⟩ := hX2
          refine hQ r3 H T ro S E (vPr c) D k n b e (kc_tr hkc2 (kp_kc c1)) (kp_mk c1 hmk2) (Or.inr (Or.inr (Or.inr c2))) (kp_sh c1 hsh2) ⟨c6 H T hB2, by rw [c5]; exact rg_up c3 x0, by rw [c5]; exact rg_up c3 x1, by rw [c5]; exact rg_up c3 x2, by rw [c5]; exact rg_up c3 x3, by rw [c5]; exact rg_up c3 x4⟩ ?_
          rw [c4]
          exact hT2
      exact key2 _ _ _
  refine hJ _ _ _ _ ?_
  refine And.intro i52 ?_
  exact key1 _ h2 _
end RSP
end
section
def ke (r r' : rM) : Prop := r'.z = r.z ∧ r'.typed = r.typed ∧ r'.text = r.text ∧ r'.error = r.error ∧ r'.program = r.program
theorem ke_tr {r r' r2 : rM} (h1 : ke r r') (h2 : ke r' r2) : ke r r2 := by
  obtain ⟨a1, a2, a3, a4, a5⟩ := h1
  obtain ⟨b1, b2, b3, b4, b5⟩ := h2
  exact ⟨b1.trans a1, b2.trans a2, b3.trans a3, b4.trans a4, b5.trans a5⟩
theorem kc_ke {r r' : rM} (h : kc r r') : ke r r' := by
  obtain ⟨a1, a2, a3, a4, a5⟩ := h
  exact ⟨a1, a2, a3, a4, congrArg Prod.fst a5⟩
def RTx (r : rM) (R : Vl) : Prop := rnS r ∧ ∃ (H T : Nat → Vl) (ro : Nat → Bool) (S E C D : Vl) (k : Sk) (n : Nat) (b : Bool) (e : En), RX r H T S E C D R ∧ TI H T ro (Ur r) S E C D R k n b e
def RCx (r : rM) (R : Vl) : Prop := r.state = 0 ∧ ∃ (H T : Nat → Vl) (ro : Nat → Bool), RX r H T vNil vNil vNil vNil R ∧ TS H T ro (Ur r) R
def RMI (r : rM) : Prop := (mkOK r ∧ shOK r) ∧ ((r.program = 0 ∧ r.state = 0 ∧ ∃ H T : Nat → Vl, RX r H T vNil vNil vNil vNil vNil) ∨ (¬ r.program = 0 ∧ ∃ R, RCx r R ∨ RTx r R))
def thR (r : rM) (x : Int32) : rM := (r.s_thrown x)
def spR (r : rM) (x : Int32) : rM := (r.s_steps x)
section RCL
variable {cst : Nat → Option (Nat × (Nat → Int32))} {m b0 b1 : Nat} {op : Bool} {tl : List mj_O} {Q : mj_R → Prop} {s : cS} {r : rM}
set_option maxRecDepth 10000
theorem RMI_th {x : Int32} (h : RMI r) : RMI (thR r x) := h
theorem RMI_sp {x : Int32} (h : RMI r) : RMI (spR r x) := h
theorem RMI_RX (h : RMI r) : ∃ (H T : Nat → Vl) (S E C D R : Vl), RX r H T S E C D R := by
  rcases h.2 with ⟨-, -, H, T, hX⟩ | ⟨-, R, ⟨-, H, T, ro, hX, -⟩ | ⟨-, H, T, ro, S, E, C, D, k, n, b, e, hX, -⟩⟩
  · exact ⟨H, T, _, _, _, _, _, hX⟩
  · exact ⟨H, T, _, _, _, _, _, hX⟩
  · exact ⟨H, T, _, _, _, _, _, hX⟩
theorem R_run {x : Int32} (hI : RMI r) (hQ : ∀ y r', ke r r' → RMI r' → Q (.inl (some (.int y)), (cW s (rW r' tl), b0, b1, op))) : mj_Mt gT cst gnw (m + 6) y_R_run [.ref 27, .int x] (cW s (rW r tl), b0, b1, op) Q := by
  intro J hJ
  have loop : ∀ (j k N : Nat) (r1 : rM), x = nI N → N ≤ 200 → j + k = N → ke r r1 → RMI r1 → J 12 [some (.ref 27), some (.int x), some (.int (nI k))] [] (cW s (rW r1 tl), b0, b1, op) := by
    intro j
    induction j with
    | zero =>
      intro k N r1 ex hN hk h1 h2
      refine hJ _ _ _ _ ?_
      refine And.intro (fun _ => hQ _ r1 h1 h2) (fun _ => ?_)
      refine And.intro (fun _ => hQ _ r1 h1 h2) (fun (g : ¬ x ≤ nI k) => absurd (by rw [ex]; exact nI_le (by omega) (by omega)) g)
    | succ j ih =>
      intro k N r1 ex hN hk h1 h2
      refine hJ _ _ _ _ ?_
      refine And.intro (fun _ => hQ _ r1 h1 h2) (fun _ => ?_)
      refine And.intro (fun _ => hQ _ r1 h1 h2) (fun _ => ?_)
      refine And.intro (fun _ => hQ _ r1 h1 h2) (fun (g : r1.state = 1) => ?_)
      have hr : ¬ r1.program = 0 ∧ ∃ R, RTx r1 R := by
        rcases h2.2 with ⟨-, w, -⟩ | ⟨w0, R, ⟨w, -⟩ | w⟩
        · rw [g] at w
          exact absurd w (by decide)
        · rw [g] at w
          exact absurd w (by decide)
        · exact ⟨w0, R, w⟩
      obtain ⟨hp, R, -, H, T, ro, S, E, C, D, k0, n0, b0', e0, hX, hT⟩ := hr
      refine R_step hX hT g h2.1.1 h2.1.2 (fun r' H' T' ro' S' E' C' D' k' n' b' e' q1 q2 q3 q4 q5 q6 => ?_)
      have hke := kc_ke q1
      have h3 : RMI r' := ⟨⟨q2, q4⟩, Or.inr ⟨by rw [hke.2.2.2.2]; exact hp, R, Or.inr ⟨q3, H', T', ro', S', E', C', D', k', n', b', e', q5, q6⟩⟩⟩
      have key : ∀ y z : Int32, y = nI (k + 1) → J 12 [some (.ref 27), some (.int x), some (.int y)] [] (cW s (rW (spR r' z) tl), b0, b1, op) := by
        rintro y z rfl
        exact ih (k + 1) N (spR r' z) ex hN (by omega) (ke_tr h1 hke) (RMI_sp h3)
      exact key _ (r'.steps + Int32.ofInt 1) (nI_succ k).symm
  have out : ∀ (r1 : rM), ke r r1 → RMI r1 → r1.thrown = 1 → J 12 [some (.ref 27), some (.int x), some (.int (nI 0))] [] (cW s (rW r1 tl), b0, b1, op) := by
    intro r1 h1 h2 ht
    refine hJ _ _ _ _ ?_
    refine And.intro (fun _ => hQ _ r1 h1 h2) (fun (g : r1.thrown = 0) => absurd (ht.symm.trans g) (by decide))
  refine hJ _ _ _ _ ?_
  refine And.intro (fun _ => ?_) (fun (g : ¬ x < 0) => ?_)
  · exact out (thR r 1) ⟨rfl, rfl, rfl, rfl, rfl⟩ hI rfl
  · refine And.intro (fun (g2 : x ≤ 200) => ?_) (fun _ => ?_)
    · obtain ⟨N, hN, ex⟩ := nI_of2 (M := 200) (n := 200) (by decide) g g2
      exact loop N 0 N (thR r 0) ex hN (by omega) ⟨rfl, rfl, rfl, rfl, rfl⟩ hI
    · exact out (thR r 1) ⟨rfl, rfl, rfl, rfl, rfl⟩ hI rfl
theorem R_state (hI : RMI r) (hQ : Q (.inl (some (.int r.state)), (cW s (rW (thR r 0) tl), b0, b1, op))) : mj_Mt gT cst gnw (m + 1) y_R_state [.ref 27] (cW s (rW r tl), b0, b1, op) Q := by
  intro J hJ
  refine hJ _ _ _ _ ?_
  exact hQ
theorem R_position (hQ : Q (.inl (some (.int r.error)), (cW s (rW (thR r 0) tl), b0, b1, op))) : mj_Mt gT cst gnw (m + 1) y_R_position [.ref 27] (cW s (rW r tl), b0, b1, op) Q := by
  intro J hJ
  refine hJ _ _ _ _ ?_
  exact hQ
theorem R_next (hI : RMI r) (hQ : ∀ y, Q (.inl (some (.int y)), (cW s (rW (thR r 0) tl), b0, b1, op))) : mj_Mt gT cst gnw (m + 1) y_R_next [.ref 27] (cW s (rW r tl), b0, b1, op) Q := by
  intro J hJ
  refine hJ _ _ _ _ ?_
  refine And.intro (fun _ => hQ _) (fun (g : r.state = 1) => ?_)
  have hr : ∃ R, RTx r R := by
    rcases hI.2 with ⟨-, w, -⟩ | ⟨w0, R, ⟨w, -⟩ | w⟩
    · rw [g] at w
      exact absurd w (by decide)
    · rw [g] at w
      exact absurd w (by decide)
    · exact ⟨R, w⟩
  obtain ⟨R, -, H, T, ro, S, E, C, D, k0, n0, b0', e0, hX, hT⟩ := hr
  obtain ⟨f, hw⟩ : ∃ f, wt H T ro f C k0 n0 b0' e0 := hT.2.2.2.1.2
  cases f with
  | zero => exact absurd hw id
  | succ f =>
  obtain ⟨c, i, rfl, -⟩ := hw
  obtain ⟨h2, uc⟩ := rg_pr hX.2.2.2.1
  refine And.intro i52 ?_
  refine And.intro (show vp_in (r.reg 2) 250 by rw [h2]; exact vp_in_nI (Ur_lt hX.1 uc) (by decide)) ?_
  exact hQ _
theorem R_shown {x : Int32} (hI : RMI r) (hQ : ∀ y, Q (.inl (some (.int y)), (cW s (rW (thR r 0) tl), b0, b1, op))) : mj_Mt gT cst gnw (m + 1) y_R_shown [.ref 27, .int x] (cW s (rW r tl), b0, b1, op) Q := by
  obtain ⟨n, hn, en⟩ := hI.1.2
  intro J hJ
  refine hJ _ _ _ _ ?_
  refine And.intro (fun _ => hQ _) (fun _ => ?_)
  refine And.intro (fun _ => hQ _) (fun (g : ¬ x < 0) => ?_)
  refine And.intro (fun _ => hQ _) (fun (g2 : ¬ r.shown ≤ x) => ?_)
  obtain ⟨j, hj, rfl⟩ := nI_of g
  have hlt : j < n := by
    refine Nat.lt_of_not_le (fun w => g2 ?_)
    rw [en]
    exact nI_le w hj
  refine And.intro (vp_in_nI (show j < 120 by omega) (by decide)) ?_
  exact hQ _
theorem R_lengthOf {n : Nat} {x : Int32} (hc : chN r n x) (hQ : ∀ y, Q (.inl (some (.int y)), (cW s (rW r tl), b0, b1, op))) : mj_Mt gT cst gnw (m + 2) y_R_lengthOf [.ref 27, .int x] (cW s (rW r tl), b0, b1, op) Q := by
  intro J hJ
  have loop : ∀ (j : Nat) (a y : Int32), chN r j y → J 4 [some (.ref 27), some (.int x), some (.int a), some (.int y)] [] (cW s (rW r tl), b0, b1, op) := by
    intro j
    induction j with
    | zero =>
      intro a y hy
      refine hJ _ _ _ _ ?_
      exact And.intro (fun _ => hQ _) (fun g => absurd hy g)
    | succ j ih =>
      intro a y hy
      obtain ⟨k, hk, rfl, h2⟩ := hy
      refine hJ _ _ _ _ ?_
      refine And.intro (fun (g : nI k < 0) => absurd g (nI_pos (by omega))) (fun _ => ?_)
      refine r_rest hk ?_
      exact ih _ _ h2
  refine hJ _ _ _ _ ?_
  exact loop n _ x hc
theorem chN_th {y : Int32} : ∀ (n : Nat) (x : Int32), chN r n x → chN (thR r y) n x
  | 0, x, h => h
  | n + 1, x, ⟨k, h1, h2, h3⟩ => ⟨k, h1, h2, chN_th n _ h3⟩
theorem chN_stk {H T : Nat → Vl} {ro : Nat → Bool} (hB : RB r H T) : ∀ (k : Sk) (v : Vl) (x : Int32), stk H T ro k v → rg r v x → chN r k.length x
  | [], v, x, h, hg => by
    have h : v = vNil := h
    subst h
    rcases hg with ⟨-, e⟩ | ⟨a, e, -⟩
    · rw [e]
      show (-1 : Int32) < 0
      decide
    · cases e
  | y :: k, v, x, h, hg => by
    obtain ⟨a, rfl, -, -, h⟩ := h
    obtain ⟨e, ua⟩ := rg_pr hg
    exact ⟨a, Ur_lt hB ua, e, chN_stk hB k _ _ h (rs_rg hB ua (isL_stk h))⟩
theorem chN_dmp {H T : Nat → Vl} {ro : Nat → Bool} {U : Nat → Prop} (hB : RB r H T) (hS : SI H T ro (Ur r)) : ∀ (f : Nat) (v : Vl) (e : En) (x : Int32), dmp H T ro f v e → rg r v x → ∃ n, chN r n x
  | 0, v, e, x, h, hg => by
    have h : v = vNil := h.2
    subst h
    rcases hg with ⟨-, e⟩ | ⟨a, e, -⟩
    · refine ⟨0, ?_⟩
      rw [e]
      show (-1 : Int32) < 0
      decide
    · cases e
  | f + 1, v, e, x, h, hg => by
    rcases h with ⟨e1, a, b, c, k, n, e', rfl, a1, a2, a3, a4, a5, a6, a7, a8, a9⟩ | ⟨k, n, a, e', e1, rfl, a1, a2, a3⟩
    · obtain ⟨ea, ua⟩ := rg_pr hg
      have ub := SI_tp hS ua a3
      have uc := SI_tp hS ub a6
      obtain ⟨j, hj⟩ := chN_dmp (U := U) hB hS f _ _ _ a9 (rs_rg hB uc (isL_dmx ⟨f, a9⟩))
      exact ⟨j + 3, a, Ur_lt hB ua, ea, b, Ur_lt hB ub, rs_pr hB ua a3, c, Ur_lt hB uc, rs_pr hB ub a6, hj⟩
    · obtain ⟨ea, ua⟩ := rg_pr hg
      obtain ⟨j, hj⟩ := chN_dmp (U := U) hB hS f _ _ _ a3 (rs_rg hB ua (isL_dmx ⟨f, a3⟩))
      exact ⟨j + 1, a, Ur_lt hB ua, ea, hj⟩
theorem chN_nil {x : Int32} (h : rg r vNil x) : ∃ n, chN r n x := by
  rcases h with ⟨-, e⟩ | ⟨a, e, -⟩
  · refine ⟨0, ?_⟩
    rw [e]
    show (-1 : Int32) < 0
    decide
  · cases e
theorem RMI_len (h : RMI r) : (∃ n, chN r n (r.reg 0)) ∧ ∃ n, chN r n (r.reg 3) := by
  rcases h.2 with ⟨-, -, H, T, hX⟩ | ⟨-, R, ⟨-, H, T, ro, hX, -⟩ | ⟨-, H, T, ro, S, E, C, D, k, n, b, e, hX, hT⟩⟩
  · exact ⟨chN_nil hX.2.1, chN_nil hX.2.2.2.2.1⟩
  · exact ⟨chN_nil hX.2.1, chN_nil hX.2.2.2.2.1⟩
  · obtain ⟨hS, ⟨uS, tS_⟩, -, -, ⟨uD, f, tD⟩, -⟩ := hT
    exact ⟨⟨_, chN_stk hX.1 k S _ tS_ hX.2.1⟩, chN_dmp (U := Ur r) hX.1 hS.1 f D _ _ tD hX.2.2.2.2.1⟩
theorem RMI_mp {mk : Nat → Bool} {pl : Nat → Nat} {n : Nat} (h : RMI r) : RMI (mpR r mk pl n) := ⟨⟨⟨mk, rfl⟩, h.1.2⟩, h.2⟩
theorem R_count {x : Int32} (hI : RMI r) (hQ : ∀ y r', ke r r' → RMI r' → Q (.inl (some (.int y)), (cW s (rW r' tl), b0, b1, op))) : mj_Mt gT cst gnw (m + 3) y_R_count [.ref 27, .int x] (cW s (rW r tl), b0, b1, op) Q := by
  obtain ⟨H, T, S, E, C, D, R, hX⟩ := RMI_RX hI
  have hz := hX.1.1.2
  obtain ⟨⟨n1, c1⟩, ⟨n2, c2⟩⟩ := RMI_len hI
  have k0 : ke r (thR r 0) := ⟨rfl, rfl, rfl, rfl, rfl⟩
  have h0 : RMI (thR r 0) := hI
  intro J hJ
  refine hJ _ _ _ _ ?_
  refine And.intro (fun _ => ?_) (fun _ => And.intro (fun _ => ?_) (fun _ => And.intro (fun _ => ?_) (fun _ => And.intro (fun _ => ?_) (fun _ => And.intro (fun _ => ?_) (fun _ => And.intro (fun _ => ?_) (fun _ => And.intro (fun _ => ?_) (fun _ => ?_)))))))
  · refine r_free (r := thR r 0) hz ?_
    exact hQ _ (thR r 0) k0 h0
  · refine R_reach (r := thR r 0) (H := H) (T := T) (S := S) (E := E) (C := C) (D := D) (R := R) hX hI.1.1 (fun c mk pl n _ _ _ _ _ _ _ => ?_)
    exact hQ _ (mpR (thR r 0) mk pl n) ⟨rfl, rfl, rfl, rfl, rfl⟩ (RMI_mp h0)
  · exact hQ _ (thR r 0) k0 h0
  · exact hQ _ (thR r 0) k0 h0
  · exact hQ _ (thR r 0) k0 h0
  · refine And.intro (in0 (by decide)) ?_
    refine R_lengthOf (r := thR r 0) (n := n1) (chN_th _ _ c1) (fun y => ?_)
    exact hQ _ (thR r 0) k0 h0
  · refine And.intro i53 ?_
    refine R_lengthOf (r := thR r 0) (n := n2) (chN_th _ _ c2) (fun y => ?_)
    exact hQ _ (thR r 0) k0 h0
  · exact hQ _ (thR r 0) k0 h0
def s1R (r : rM) : rM := ((((r.s_state 1).s_collections 0).s_takenBack 0).s_steps 0)
theorem R_start (hI : RMI r) (h0 : r.program = 0 → Q (.inl (some (.int 0)), (cW s (rW (thR r 0) tl), b0, b1, op))) (h1 : ∀ r', ¬ r.program = 0 → ke r r' → RMI r' → r'.state = 1 → Q (.inl (some (.int 1)), (cW s (rW r' tl), b0, b1, op))) : mj_Mt gT cst gnw (m + 4) y_R_start [.ref 27] (cW s (rW r tl), b0, b1, op) Q := by
  intro J hJ
  refine hJ _ _ _ _ ?_
  refine And.intro (fun (g : ¬ r.program = 0) => ?_) (fun (g : r.program = 0) => And.intro (Or.inl rfl) (h0 g))
  have hr : ∃ (H T : Nat → Vl) (ro : Nat → Bool) (S E C D R : Vl), RX r H T S E C D R ∧ TS H T ro (Ur r) R := by
    rcases hI.2 with ⟨w, -⟩ | ⟨-, R, ⟨-, H, T, ro, hX, hT⟩ | ⟨-, H, T, ro, S, E, C, D, k, n, b, e, hX, hT⟩⟩
    · exact absurd w g
    · exact ⟨H, T, ro, _, _, _, _, R, hX, hT⟩
    · exact ⟨H, T, ro, _, _, _, _, R, hX, hT.1⟩
  obtain ⟨H, T, ro, S, E, C, D, R, ⟨hB, -, -, -, -, x4⟩, hT⟩ := hr
  have loop : ∀ (j k : Nat) (f : Nat → Int32), j + k = 4 → (∀ i, i < k → f i = -1) → f 4 = r.reg 4 → J 10 [some (.ref 27), some (.int (nI k))] [] (cW s (rW (sR (thR r 0) f) tl), b0, b1, op) := by
    intro j
    induction j with
    | zero =>
      intro k f hk hf h4
      obtain rfl : k = 4 := by omega
      refine hJ _ _ _ _ ?_
      refine And.intro (fun _ => ?_) (fun (w : ¬ (4 : Int32) ≤ nI 4) => absurd (by decide) w)
      have n : ∀ i, i < 4 → rg (sR (thR r 0) f) vNil ((sR (thR r 0) f).reg i) := fun i hi => Or.inl ⟨rfl, hf i hi⟩
      have hX1 : RX (sR (thR r 0) f) H T vNil vNil vNil vNil R := ⟨hB, n 0 (by decide), n 1 (by decide), n 2 (by decide), n 3 (by decide), by
        show rg _ R (f 4)
        rw [h4]
        exact x4⟩
      refine R_sweep hX1 hI.1.1 (fun nn r' hnn q1 q2 q3 q4 q5 q6 q7 q8 q9 q10 => ?_)
      have hke := kc_ke q1
      have i54 : vp_in 4 5 := vp_in_nI (show 4 < 5 by decide) (by decide)
      refine And.intro i54 ?_
      refine And.intro i52 ?_
      have hT' : TS H T ro (Ur r') R := ⟨SI_sub hT.1 q8 q9, q10.2.2.2.2, hT.2.2⟩
      obtain ⟨hB', y0, y1, y2, y3, y4⟩ := q7
      have e : r'.reg 0 = -1 ∧ r'.reg 1 = -1 ∧ r'.reg 3 = -1 := by
        rw [q4]
        exact ⟨hf 0 (by decide), hf 1 (by decide), hf 3 (by decide)⟩
      have h3 : RMI (s1R (sR r' (upd r'.reg 2 (r'.reg 4)))) := by
        refine ⟨⟨q2, ?_⟩, Or.inr ⟨?_, R, Or.inr ⟨Or.inl rfl, H, T, ro, vNil, vNil, R, vNil, [], 0, false, eStop, ⟨hB', y0, y1, y4, y3, y4⟩, TI_start hT'⟩⟩⟩
        · obtain ⟨n, hn, en⟩ := hI.1.2
          exact ⟨n, hn, q5.2.2.2.1.trans en⟩
        · show ¬ r'.program = 0
          rw [hke.2.2.2.2]
          exact g
      refine And.intro (fun (w : nI nn < 0) => absurd w (nI_pos (by omega))) (fun _ => ?_)
      exact And.intro (Or.inr rfl) (h1 (s1R (sR r' (upd r'.reg 2 (r'.reg 4)))) g hke h3 rfl)
    | succ j ih =>
      intro k f hk hf h4
      refine hJ _ _ _ _ ?_
      refine And.intro (fun (w : (4 : Int32) ≤ nI k) => absurd w (nI_ge (b := 4) (by omega) (by decide))) (fun _ => ?_)
      refine And.intro (vp_in_nI (show k < 5 by omega) (by decide)) ?_
      have key : ∀ (i : Nat) (y : Int32), i = k → y = nI (k + 1) → J 10 [some (.ref 27), some (.int y)] [] (cW s (rW (sR (thR r 0) (upd f i (-1))) tl), b0, b1, op) := by
        rintro i y rfl rfl
        refine ih (i + 1) _ (by omega) (fun a ha => ?_) ?_
        · unfold upd
          split
          · rfl
          · exact hf a (by omega)
        · unfold upd
          rw [if_neg (by omega)]
          exact h4
      exact key _ _ (nI_clamp (by omega)) (nI_succ k).symm
  exact loop 4 0 r.reg (by omega) (fun i hi => absurd hi (Nat.not_lt_zero i)) rfl
end RCL
end
section
def pdR (r : rM) (a d : Nat) : rM := ((r.s_p (nI a)).s_depth (nI d))
theorem nI_eqI {a b : Nat} (ha : a < 2 ^ 31) (hb : b < 2 ^ 31) : nI a = nI b ↔ a = b := ⟨nIj ha hb, fun h => by rw [h]⟩
theorem pDg_v (tx : Nat → Nat) : ∀ (k a : Nat) (v w : Int32), (pDg tx k a v).1 = (pDg tx k a w).1
  | 0, a, v, w => rfl
  | k + 1, a, v, w => by
    unfold pDg
    split
    · exact pDg_v tx k (a + 1) _ _
    · rfl
theorem pDg_le (tx : Nat → Nat) : ∀ (k a : Nat) (v : Int32), a ≤ (pDg tx k a v).1 ∧ (pDg tx k a v).1 ≤ a + k
  | 0, a, v => ⟨Nat.le_refl _, Nat.le_refl _⟩
  | k + 1, a, v => by
    unfold pDg
    split
    · have := pDg_le tx k (a + 1) (Int32.ofInt 10 * v + nI (tx a) - Int32.ofInt 48)
      omega
    · exact ⟨Nat.le_refl _, by show a ≤ a + (k + 1); omega⟩
theorem pDg_len {X : Nat → Int32} {len : Nat} {tx : Nat → Nat} (hx : txOK X len tx) : ∀ (k a : Nat) (v : Int32), a ≤ len → (pDg tx k a v).1 ≤ len
  | 0, a, v, h => h
  | k + 1, a, v, h => by
    unfold pDg
    split
    · next hd =>
      refine pDg_len hx k (a + 1) _ ?_
      have := hx.lt (a := a) (fun q => by rw [q] at hd; exact absurd hd (by decide))
      omega
    · exact h
section RD1
variable {cst : Nat → Option (Nat × (Nat → Int32))} {m b0 b1 : Nat} {op : Bool} {tl : List mj_O} {Q : mj_R → Prop} {s : cS} {r : rM} {a d len : Nat} {tx : Nat → Nat}
set_option maxRecDepth 10000
theorem R_here {k : Nat} (hx : txOK r.text len tx) (ht : r.typed = nI len) (ha : a + k ≤ 2000) (hQ : Q (.inl (some (.int (nI (tx (a + k))))), (cW s (rW (pdR r a d) tl), b0, b1, op))) : mj_Mt gT cst gnw (m + 1) y_R_here [.ref 27, .int (nI k)] (cW s (rW (pdR r a d) tl), b0, b1, op) Q := by
  have h96 := hx.1
  have hc := hx.le (a + k)
  have e1 : nI a + nI k = nI (a + k) := nI_add a k
  intro J hJ
  refine hJ _ _ _ _ ?_
  refine And.intro (fun (g : r.typed ≤ nI a + nI k) => ?_) (fun (g : ¬ r.typed ≤ nI a + nI k) => ?_)
  · rw [ht, e1] at g
    have : tx (a + k) = 0 := hx.2.2 _ ((nI_leI (by omega) (by omega)).mp g)
    rw [this] at hQ
    exact And.intro rfl hQ
  · rw [ht, e1] at g
    have hlt : a + k < len := Nat.lt_of_not_le (fun w => g (nI_le w (by omega)))
    obtain ⟨ec, -⟩ := hx.2.1 _ hlt
    refine And.intro (show vp_in (nI a + nI k) 96 by rw [e1]; exact vp_in_nI (by omega) (by decide)) ?_
    have key : ∀ x : Int32, x = nI (tx (a + k)) → narrow .char (.int x) = .int x ∧ Q (.inl (some (.int x)), (cW s (rW (pdR r a d) tl), b0, b1, op)) := by
      rintro x rfl
      exact ⟨(pk_charN (q := tx (a + k)) (by omega)).1, hQ⟩
    refine key _ ?_
    show r.text (nI a + nI k).toNatClampNeg = nI (tx (a + k))
    rw [e1, nI_clamp (by omega), ec]
theorem R_here0 (hx : txOK r.text len tx) (ht : r.typed = nI len) (ha : a ≤ 2000) (hQ : Q (.inl (some (.int (nI (tx a)))), (cW s (rW (pdR r a d) tl), b0, b1, op))) : mj_Mt gT cst gnw (m + 1) y_R_here [.ref 27, .int 0] (cW s (rW (pdR r a d) tl), b0, b1, op) Q := R_here (k := 0) hx ht ha hQ
theorem R_takes {c : Nat} (hx : txOK r.text len tx) (ht : r.typed = nI len) (ha : a ≤ 1000) (hc : c < 2 ^ 31) (h1 : tx a = c → Q (.inl (some (.int 1)), (cW s (rW (pdR r (a + 1) d) tl), b0, b1, op))) (h0 : ¬ tx a = c → Q (.inl (some (.int 0)), (cW s (rW (pdR r a d) tl), b0, b1, op))) : mj_Mt gT cst gnw (m + 2) y_R_takes [.ref 27, .int (nI c)] (cW s (rW (pdR r a d) tl), b0, b1, op) Q := by
  have hcc := hx.le a
  intro J hJ
  refine hJ _ _ _ _ ?_
  refine R_here0 hx ht (by omega) ?_
  refine And.intro (fun (g : ¬ nI (tx a) = nI c) => ?_) (fun (g : nI (tx a) = nI c) => ?_)
  · refine And.intro (fun _ => ?_) (fun g => absurd rfl g)
    exact And.intro (Or.inl rfl) (h0 (fun e => g (by rw [e])))
  · refine And.intro (fun (g : (1 : Int32) = 0) => absurd g (by decide)) (fun _ => ?_)
    have e : tx a = c := nIj (by omega) hc g
    have key : ∀ x : Int32, x = nI (a + 1) → Q (.inl (some (.int 1)), (cW s (rW ((pdR r a d).s_p x) tl), b0, b1, op)) := by
      rintro x rfl
      exact h1 e
    exact And.intro (Or.inr rfl) (key _ (nI_succ a).symm)
theorem R_opens (hx : txOK r.text len tx) (ht : r.typed = nI len) (ha : a ≤ 1000) (hd : d ≤ 9) (h1 : tx a = 40 → d < 9 → Q (.inl (some (.int 1)), (cW s (rW (pdR r (a + 1) (d + 1)) tl), b0, b1, op))) (h0 : ¬ (tx a = 40 ∧ d < 9) → Q (.inl (some (.int 0)), (cW s (rW (pdR r a d) tl), b0, b1, op))) : mj_Mt gT cst gnw (m + 2) y_R_opens [.ref 27] (cW s (rW (pdR r a d) tl), b0, b1, op) Q := by
  have hcc := hx.le a
  intro J hJ
  refine hJ _ _ _ _ ?_
  refine R_here0 hx ht (by omega) ?_
  refine And.intro (fun (g : ¬ nI (tx a) = 40) => ?_) (fun (g : nI (tx a) = 40) => ?_)
  · exact And.intro (Or.inl rfl) (h0 (fun e => g (by rw [e.1]; rfl)))
  · have e : tx a = 40 := nIj (j := 40) (by omega) (by decide) g
    refine And.intro (fun (g2 : ¬ nI d = 9) => ?_) (fun (g2 : nI d = 9) => ?_)
    · have hd9 : d < 9 := by
        rcases Nat.lt_or_ge d 9 with w | w
        · exact w
        · obtain rfl : d = 9 := by omega
          exact absurd rfl g2
      have key : ∀ x y : Int32, x = nI (a + 1) → y = nI (d + 1) → Q (.inl (some (.int 1)), (cW s (rW ((r.s_p x).s_depth y) tl), b0, b1, op)) := by
        rintro x y rfl rfl
        exact h1 e hd9
      exact And.intro (Or.inr rfl) (key _ _ (nI_succ a).symm (nI_succ d).symm)
    · exact And.intro (Or.inl rfl) (h0 (fun w => by
        have := nIj (i := d) (j := 9) (by omega) (by decide) g2
        omega))
theorem R_closes (hx : txOK r.text len tx) (ht : r.typed = nI len) (ha : a ≤ 1000) (h1 : tx a = 41 → Q (.inl (some (.int 1)), (cW s (rW (pdR r (a + 1) d) tl), b0, b1, op))) (h0 : ¬ tx a = 41 → Q (.inl (some (.int 0)), (cW s (rW (pdR r a (d + 1)) tl), b0, b1, op))) : mj_Mt gT cst gnw (m + 3) y_R_closes [.ref 27] (cW s (rW (pdR r a (d + 1)) tl), b0, b1, op) Q := by
  intro J hJ
  refine hJ _ _ _ _ ?_
  refine R_takes (c := 41) hx ht ha (by decide) (fun e => ?_) (fun e => ?_)
  · refine And.intro (fun (g : (1 : Int32) = 0) => absurd g (by decide)) (fun _ => ?_)
    have key : ∀ y : Int32, y = nI d → Q (.inl (some (.int 1)), (cW s (rW ((pdR r (a + 1) (d + 1)).s_depth y) tl), b0, b1, op)) := by
      rintro y rfl
      exact h1 e
    exact And.intro (Or.inr rfl) (key _ (nI_pred d))
  · refine And.intro (fun _ => ?_) (fun g => absurd rfl g)
    exact And.intro (Or.inl rfl) (h0 e)
theorem R_isDigit {h : mj_H} {c : Nat} (hc : c < 2 ^ 31) (h1 : cD c = true → Q (.inl (some (.int 1)), h)) (h0 : cD c = false → Q (.inl (some (.int 0)), h)) : mj_Mt gT cst gnw (m + 1) y_R_isDigit [.int (nI c)] h Q := by
  intro J hJ
  refine hJ _ _ _ _ ?_
  refine And.intro (fun (g : nI c < 48) => ?_) (fun (g : ¬ nI c < 48) => ?_)
  · have w : c < 48 := (nI_ltI (b := 48) hc (by decide)).mp g
    exact And.intro (Or.inl rfl) (h0 (decide_eq_false (by omega)))
  · have w : ¬ c < 48 := fun q => g (nI_lt (b := 48) q (by decide))
    refine And.intro (fun (g2 : 57 < nI c) => ?_) (fun (g2 : ¬ 57 < nI c) => ?_)
    · have w2 : 57 < c := (nI_ltI (a := 57) (by decide) hc).mp g2
      exact And.intro (Or.inl rfl) (h0 (decide_eq_false (by omega)))
    · have w2 : ¬ 57 < c := fun q => g2 (nI_lt (a := 57) q hc)
      exact And.intro (Or.inr rfl) (h1 (decide_eq_true (by omega)))
theorem R_isLetter {h : mj_H} {c : Nat} (hc : c < 2 ^ 31) (h1 : cL c = true → Q (.inl (some (.int 1)), h)) (h0 : cL c = false → Q (.inl (some (.int 0)), h)) : mj_Mt gT cst gnw (m + 1) y_R_isLetter [.int (nI c)] h Q := by
  intro J hJ
  refine hJ _ _ _ _ ?_
  refine And.intro (fun (g : nI c < 97) => ?_) (fun (g : ¬ nI c < 97) => ?_)
  · have w : c < 97 := (nI_ltI (b := 97) hc (by decide)).mp g
    exact And.intro (Or.inl rfl) (h0 (decide_eq_false (by omega)))
  · have w : ¬ c < 97 := fun q => g (nI_lt (b := 97) q (by decide))
    refine And.intro (fun (g2 : 122 < nI c) => ?_) (fun (g2 : ¬ 122 < nI c) => ?_)
    · have w2 : 122 < c := (nI_ltI (a := 122) (by decide) hc).mp g2
      exact And.intro (Or.inl rfl) (h0 (decide_eq_false (by omega)))
    · have w2 : ¬ 122 < c := fun q => g2 (nI_lt (a := 122) q hc)
      exact And.intro (Or.inr rfl) (h1 (decide_eq_true (by omega)))
theorem R_number (hx : txOK r.text len tx) (ht : r.typed = nI len) (ha : a ≤ 500) (h1 : cD (tx (pA1 tx a)) = true → Q (.inl (some (.int 1)), (cW s (rW (pdR r (pDg tx 4 (pA1 tx a) 0).1 d) tl), b0, b1, op))) (h0 : cD (tx (pA1 tx a)) = false → Q (.inl (some (.int 0)), (cW s (rW (pdR r (pA1 tx a) d) tl), b0, b1, op))) : mj_Mt gT cst gnw (m + 3) y_R_number [.ref 27] (cW s (rW (pdR r a d) tl), b0, b1, op) Q := by
  intro J hJ
  have fin : ∀ (n q : Nat) (x : Int32), n ≤ 4 → (0 < n → cD (tx (pA1 tx a)) = true ∧ q = (pDg tx 4 (pA1 tx a) 0).1) → (n = 0 → cD (tx (pA1 tx a)) = false ∧ q = pA1 tx a) → ∀ F : Nat, mj_sg (mj_Mt gT cst gnw (m + 2)) cst gnw (mj_hd (mj_off kO_R_number) kH_R_number) kC_R_number J Q (F + 20) false 22 [some (.ref 27), some (.int x), some (.int (nI n))] [] (cW s (rW (pdR r q d) tl), b0, b1, op) := by
    intro n q x hn hp hz F
    refine And.intro (fun (g : nI n ≤ 0) => ?_) (fun (g : ¬ nI n ≤ 0) => ?_)
    · have : n = 0 := by
        have := (nI_leI (b := 0) (by omega) (by decide)).mp g
        omega
      obtain ⟨e1, e2⟩ := hz this
      subst e2
      exact And.intro (Or.inl rfl) (h0 e1)
    · have : 0 < n := Nat.pos_of_ne_zero (fun e => g (by rw [e]; decide))
      obtain ⟨e1, e2⟩ := hp this
      subst e2
      refine And.intro (fun _ => ?_) (fun _ => ?_)
      · exact And.intro (Or.inr rfl) (h1 e1)
      · exact And.intro (Or.inr rfl) (h1 e1)
  have loop : ∀ (j n q : Nat) (x : Int32), j + n = 4 → q ≤ 501 + n → (pDg tx j q 0).1 = (pDg tx 4 (pA1 tx a) 0).1 → (0 < n → cD (tx (pA1 tx a)) = true) → (n = 0 → q = pA1 tx a) → J 6 [some (.ref 27), some (.int x), some (.int (nI n))] [] (cW s (rW (pdR r q d) tl), b0, b1, op) := by
    intro j
    induction j with
    | zero =>
      intro n q x hn hq e hp hz
      obtain rfl : n = 4 := by omega
      refine hJ _ _ _ _ ?_
      refine And.intro (fun _ => ?_) (fun (g : ¬ (4 : Int32) ≤ nI 4) => absurd (by decide) g)
      exact fin 4 q x (by omega) (fun w => ⟨hp w, e⟩) (fun w => by omega) _
    | succ j ih =>
      intro n q x hn hq e hp hz
      refine hJ _ _ _ _ ?_
      refine And.intro (fun (g : (4 : Int32) ≤ nI n) => absurd g (nI_ge (b := 4) (by omega) (by decide))) (fun _ => ?_)
      refine R_here0 hx ht (by omega) ?_
      have hcc := hx.le q
      have e0 : (pDg tx (j + 1) q 0).1 = if cD (tx q) then (pDg tx j (q + 1) (Int32.ofInt 10 * 0 + nI (tx q) - Int32.ofInt 48)).1 else q := by
        show (if cD (tx q) then pDg tx j (q + 1) (Int32.ofInt 10 * 0 + nI (tx q) - Int32.ofInt 48) else (q, 0)).1 = _
        split <;> rfl
      rw [e0] at e
      refine R_isDigit (by omega) (fun hd => ?_) (fun hd => ?_)
      · rw [if_pos hd, pDg_v tx j (q + 1) _ 0] at e
        refine And.intro (fun (g : (1 : Int32) = 0) => absurd g (by decide)) (fun _ => ?_)
        have key : ∀ y z : Int32, y = nI (q + 1) → z = nI (n + 1) → J 6 [some (.ref 27), some (.int x), some (.int z)] [] (cW s (rW ((pdR r q d).s_p y) tl), b0, b1, op) := by
          rintro y z rfl rfl
          refine ih (n + 1) (q + 1) x (by omega) (by omega) e (fun _ => ?_) (fun w => by omega)
          rcases Nat.eq_zero_or_pos n with w | w
          · rw [← hz w]
            exact hd
          · exact hp w
        exact key _ _ (nI_succ q).symm (nI_succ n).symm
      · rw [if_neg (by rw [hd]; decide)] at e
        refine And.intro (fun _ => ?_) (fun g => absurd rfl g)
        refine fin n q x (by omega) (fun w => ⟨hp w, e⟩) (fun w => ?_) _
        rw [← hz w]
        exact ⟨hd, rfl⟩
  refine hJ _ _ _ _ ?_
  refine R_takes (c := 45) hx ht (by omega) (by decide) (fun e => ?_) (fun e => ?_)
  · have e1 : pA1 tx a = a + 1 := if_pos e
    exact loop 4 0 (a + 1) _ (by omega) (by omega) (by rw [e1]) (fun w => absurd w (Nat.lt_irrefl 0)) (fun _ => e1.symm)
  · have e1 : pA1 tx a = a := if_neg e
    exact loop 4 0 a _ (by omega) (by omega) (by rw [e1]) (fun w => absurd w (Nat.lt_irrefl 0)) (fun _ => e1.symm)
theorem R_numberAt (hx : txOK r.text len tx) (ht : r.typed = nI len) (ha : a < len) (hQ : Q (.inl (some (.int (pVal tx a))), (cW s (rW r tl), b0, b1, op))) : mj_Mt gT cst gnw (m + 2) y_R_numberAt [.ref 27, .int (nI a)] (cW s (rW r tl), b0, b1, op) Q := by
  have h96 := hx.1
  have hca := hx.le a
  obtain ⟨ea, -⟩ := hx.2.1 a ha
  have eka : (nI a).toNatClampNeg = a := nI_clamp (by omega)
  intro J hJ
  have fin : ∀ (v x3 x5 : Int32) (b : Nat), b ≤ 1 → (b = 1 ↔ tx a = 45) → v = (pDg tx 4 (pA1 tx a) 0).2 → ∀ F : Nat, mj_sg (mj_Mt gT cst gnw (m + 1)) cst gnw (mj_hd (mj_off kO_R_numberAt) kH_R_numberAt) kC_R_numberAt J Q (F + 20) false 49 [some (.ref 27), some (.int (nI a)), some (.int (nI b)), some (.int x3), some (.int v), some (.int x5)] [] (cW s (rW r tl), b0, b1, op) := by
    intro v x3 x5 b hb hbt hv F
    subst hv
    have e0 : pVal tx a = if tx a = 45 then -(pDg tx 4 (pA1 tx a) 0).2 else (pDg tx 4 (pA1 tx a) 0).2 := rfl
    rw [e0] at hQ
    refine And.intro (fun (g : nI b = 0) => ?_) (fun (g : ¬ nI b = 0) => ?_)
    · have : b = 0 := nIj (j := 0) (by omega) (by decide) g
      rw [if_neg (fun w => by have := hbt.mpr w; omega)] at hQ
      exact hQ
    · have : b = 1 := by
        rcases Nat.lt_or_ge b 1 with w | w
        · obtain rfl : b = 0 := by omega
          exact absurd rfl g
        · omega
      rw [if_pos (hbt.mp this)] at hQ
      exact hQ
  have loop : ∀ (j n q b : Nat) (v : Int32), j + n = 4 → q ≤ 97 + n → b ≤ 1 → (b = 1 ↔ tx a = 45) → (pDg tx j q v).2 = (pDg tx 4 (pA1 tx a) 0).2 → J 22 [some (.ref 27), some (.int (nI a)), some (.int (nI b)), some (.int (nI q)), some (.int v), some (.int (nI n))] [] (cW s (rW r tl), b0, b1, op) := by
    intro j
    induction j with
    | zero =>
      intro n q b v hn hq hb hbt e
      obtain rfl : n = 4 := by omega
      refine hJ _ _ _ _ ?_
      refine And.intro (fun _ => ?_) (fun (g : ¬ (4 : Int32) ≤ nI 4) => absurd (by decide) g)
      exact fin v _ _ b hb hbt e _
    | succ j ih =>
      intro n q b v hn hq hb hbt e
      have e0 : (pDg tx (j + 1) q v).2 = if cD (tx q) then (pDg tx j (q + 1) (Int32.ofInt 10 * v + nI (tx q) - Int32.ofInt 48)).2 else v := by
        show (if cD (tx q) then pDg tx j (q + 1) (Int32.ofInt 10 * v + nI (tx q) - Int32.ofInt 48) else (q, v)).2 = _
        split <;> rfl
      rw [e0] at e
      refine hJ _ _ _ _ ?_
      refine And.intro (fun (g : (4 : Int32) ≤ nI n) => absurd g (nI_ge (b := 4) (by omega) (by decide))) (fun _ => ?_)
      refine And.intro (fun (g : r.typed ≤ nI q) => ?_) (fun (g : ¬ r.typed ≤ nI q) => ?_)
      · rw [ht] at g
        have : tx q = 0 := hx.2.2 _ ((nI_leI (by omega) (by omega)).mp g)
        rw [this, if_neg (by decide)] at e
        exact fin v _ _ b hb hbt e _
      · rw [ht] at g
        have hlt : q < len := Nat.lt_of_not_le (fun w => g (nI_le w (by omega)))
        obtain ⟨eq, -⟩ := hx.2.1 q hlt
        have hcq := hx.le q
        have ekq : (nI q).toNatClampNeg = q := nI_clamp (by omega)
        have hin : vp_in (nI q) 96 := vp_in_nI (by omega) (by decide)
        refine And.intro hin ?_
        rw [ekq, eq]
        refine R_isDigit (by omega) (fun hd => ?_) (fun hd => ?_)
        · rw [if_pos hd] at e
          refine And.intro (fun (g : (1 : Int32) = 0) => absurd g (by decide)) (fun _ => ?_)
          refine And.intro hin ?_
          rw [ekq, eq]
          have key : ∀ y z : Int32, y = nI (q + 1) → z = nI (n + 1) → J 22 [some (.ref 27), some (.int (nI a)), some (.int (nI b)), some (.int y), some (.int (Int32.ofInt 10 * v + nI (tx q) - Int32.ofInt 48)), some (.int z)] [] (cW s (rW r tl), b0, b1, op) := by
            rintro y z rfl rfl
            exact ih (n + 1) (q + 1) b _ (by omega) (by omega) hb hbt e
          exact key _ _ (nI_succ q).symm (nI_succ n).symm
        · rw [if_neg (by rw [hd]; decide)] at e
          refine And.intro (fun _ => ?_) (fun g => absurd rfl g)
          exact fin v _ _ b hb hbt e _
  refine hJ _ _ _ _ ?_
  refine And.intro (vp_in_nI (show a < 96 by omega) (by decide)) ?_
  rw [eka, ea]
  refine And.intro (fun (g : ¬ nI (tx a) = 45) => ?_) (fun (g : nI (tx a) = 45) => ?_)
  · have hne : ¬ tx a = 45 := fun e => g (by rw [e]; rfl)
    have e1 : pA1 tx a = a := if_neg hne
    refine And.intro (fun _ => ?_) (fun g => absurd rfl g)
    exact loop 4 0 a 0 0 (by omega) (by omega) (by omega) ⟨fun w => by omega, fun w => absurd w hne⟩ (by rw [e1])
  · have he : tx a = 45 := nIj (j := 45) (by omega) (by decide) g
    have e1 : pA1 tx a = a + 1 := if_pos he
    refine And.intro (fun (g : (1 : Int32) = 0) => absurd g (by decide)) (fun _ => ?_)
    have key : ∀ y : Int32, y = nI (a + 1) → J 22 [some (.ref 27), some (.int (nI a)), some (.int (nI 1)), some (.int y), some (.int 0), some (.int (nI 0))] [] (cW s (rW r tl), b0, b1, op) := by
      rintro y rfl
      exact loop 4 0 (a + 1) 1 0 (by omega) (by omega) (by omega) ⟨fun _ => he, fun _ => rfl⟩ (by rw [e1])
    exact key _ (nI_succ a).symm
end RD1
end
section
abbrev TL : Type := List (Int32 × Int32)
def cns (t : Int32 × Int32) : (TL × Nat) ⊕ Nat → (TL × Nat) ⊕ Nat
  | .inl (D, a) => .inl (t :: D, a)
  | .inr a => .inr a
def gD (tx : Nat → Nat) : Nat → Bool → Nat → Nat → Nat → (TL × Nat) ⊕ Nat
  | 0, _, _, _, a => .inr a
  | f + 1, false, o, d, a => if tx a = 40 then (if d + o < 9 then cns (4, 0) (gD tx f (decide (tx (a + 1) = 41)) (o + 1) d (a + 1)) else .inr a)
      else if cL (tx a) then cns (2, nI (tx a)) (gD tx f true o d (a + 1))
      else if cD (tx (pA1 tx a)) then cns (1, pVal tx a) (gD tx f true o d (pDg tx 4 (pA1 tx a) 0).1) else .inr (pA1 tx a)
  | _ + 1, true, 0, _, a => .inl ([], a)
  | f + 1, true, o + 1, d, a => if tx a = 41 then cns (5, 0) (gD tx f true o d (a + 1)) else if tx a = 32 then gD tx f false (o + 1) d (a + 1) else .inr a
theorem nI_dec (n : Nat) : nI (n + 1) + Int32.ofInt (-1) = nI n := by
  rw [nI_succ, Int32.add_assoc, show (1 : Int32) + Int32.ofInt (-1) = 0 by decide, Int32.add_zero]
theorem cns_l {t : Int32 × Int32} {x : (TL × Nat) ⊕ Nat} {D : TL} {a : Nat} (h : x = .inl (D, a)) : cns t x = .inl (t :: D, a) := by rw [h]; rfl
theorem cns_r {t : Int32 × Int32} {x : (TL × Nat) ⊕ Nat} {a : Nat} (h : x = .inr a) : cns t x = .inr a := by rw [h]; rfl
theorem pA1_len {X : Nat → Int32} {len : Nat} {tx : Nat → Nat} (hx : txOK X len tx) {a : Nat} (h : a ≤ len) : a ≤ pA1 tx a ∧ pA1 tx a ≤ len ∧ pA1 tx a ≤ a + 1 := by
  unfold pA1
  split
  · next e =>
    have := hx.lt (a := a) (by omega)
    omega
  · omega
theorem num_len {X : Nat → Int32} {len : Nat} {tx : Nat → Nat} (hx : txOK X len tx) {a : Nat} (h : a ≤ len) (hd : cD (tx (pA1 tx a)) = true) : a < (pDg tx 4 (pA1 tx a) 0).1 ∧ (pDg tx 4 (pA1 tx a) 0).1 ≤ len ∧ a < len := by
  obtain ⟨h1, h2, h3⟩ := pA1_len hx h
  have hl := pDg_len hx 4 (pA1 tx a) 0 h2
  have e : (pDg tx 4 (pA1 tx a) 0) = pDg tx 3 (pA1 tx a + 1) (Int32.ofInt 10 * 0 + nI (tx (pA1 tx a)) - Int32.ofInt 48) := by
    show (if cD (tx (pA1 tx a)) then _ else _) = _
    rw [if_pos hd]
  have hp := pDg_le tx 3 (pA1 tx a + 1) (Int32.ofInt 10 * 0 + nI (tx (pA1 tx a)) - Int32.ofInt 48)
  rw [← e] at hp
  omega
section RDD
variable {cst : Nat → Option (Nat × (Nat → Int32))} {m b0 b1 : Nat} {op : Bool} {tl : List mj_O} {Q : mj_R → Prop} {s : cS} {r : rM} {d len : Nat} {tx : Nat → Nat}
set_option maxRecDepth 10000
theorem R_datLoop (hx : txOK r.text len tx) (ht : r.typed = nI len) {J : Nat → mj_L → List Value → mj_H → Prop} (hJ : ∀ pc ls st h, mj_sg (mj_Mt gT cst gnw (m + 3)) cst gnw (mj_hd (mj_off kO_R_datum) kH_R_datum) kC_R_datum J Q 400 true pc ls st h → J pc ls st h) :
    ∀ (f : Nat) (b : Bool) (o k a : Nat), a ≤ len → k ≤ a → d + o ≤ 9 → len - a < f → (∀ D a', gD tx f b o d a = .inl (D, a') → Q (.inl (some (.int 1)), (cW s (rW (pdR r a' d) tl), b0, b1, op))) → (∀ a' d', gD tx f b o d a = .inr a' → Q (.inl (some (.int 0)), (cW s (rW (pdR r a' d') tl), b0, b1, op))) →
      (b = false → ∀ x3, J 4 [some (.ref 27), some (.int (nI o)), some (.int (nI k)), x3] [] (cW s (rW (pdR r a (d + o)) tl), b0, b1, op)) ∧ (b = true → J 51 [some (.ref 27), some (.int (nI o)), some (.int (nI k)), some (.int 1)] [] (cW s (rW (pdR r a (d + o)) tl), b0, b1, op)) := by
  have h96 := hx.1
  have j0 : ∀ (o k a dd : Nat), (∀ x3, J 4 [some (.ref 27), some (.int (nI o)), some (.int (nI (k + 1))), x3] [] (cW s (rW (pdR r a dd) tl), b0, b1, op)) → J 51 [some (.ref 27), some (.int (nI o)), some (.int (nI k)), some (.int 0)] [] (cW s (rW (pdR r a dd) tl), b0, b1, op) := by
    intro o k a dd h
    refine hJ _ _ _ _ ?_
    refine And.intro (fun _ => ?_) (fun g => absurd rfl g)
    have key : ∀ y : Int32, y = nI (k + 1) → J 4 [some (.ref 27), some (.int (nI o)), some (.int y), some (.int 0)] [] (cW s (rW (pdR r a dd) tl), b0, b1, op) := by
      rintro y rfl
      exact h _
    exact key _ (nI_succ k).symm
  intro f
  induction f with
  | zero => intro b o k a _ _ _ hf; omega
  | succ f ih =>
    intro b o k a ha hk hd hf hQ1 hQ0
    refine ⟨fun eb x3 => ?_, fun eb => ?_⟩
    · subst eb
      have e0 : gD tx (f + 1) false o d a = if tx a = 40 then (if d + o < 9 then cns (4, 0) (gD tx f (decide (tx (a + 1) = 41)) (o + 1) d (a + 1)) else .inr a) else if cL (tx a) then cns (2, nI (tx a)) (gD tx f true o d (a + 1)) else if cD (tx (pA1 tx a)) then cns (1, pVal tx a) (gD tx f true o d (pDg tx 4 (pA1 tx a) 0).1) else .inr (pA1 tx a) := rfl
      rw [e0] at hQ1 hQ0
      have hca := hx.le a
      refine hJ _ _ _ _ ?_
      refine And.intro (fun (g : (100 : Int32) ≤ nI k) => absurd g (nI_ge (b := 100) (by omega) (by decide))) (fun _ => ?_)
      refine R_here0 hx ht (by omega) ?_
      refine And.intro (fun (g : ¬ nI (tx a) = 40) => ?_) (fun (g : nI (tx a) = 40) => ?_)
      · have n40 : ¬ tx a = 40 := fun e => g (by rw [e]; rfl)
        rw [if_neg n40] at hQ1 hQ0
        refine R_here0 hx ht (by omega) ?_
        refine R_isLetter (by omega) (fun hl => ?_) (fun hl => ?_)
        · rw [if_pos hl] at hQ1 hQ0
          refine And.intro (fun (g : (1 : Int32) = 0) => absurd g (by decide)) (fun _ => ?_)
          have hlt := hx.lt (a := a) (fun q => by rw [q] at hl; exact absurd hl (by decide))
          have key : ∀ y : Int32, y = nI (a + 1) → J 51 [some (.ref 27), some (.int (nI o)), some (.int (nI k)), some (.int 1)] [] (cW s (rW ((pdR r a (d + o)).s_p y) tl), b0, b1, op) := by
            rintro y rfl
            exact (ih true o k (a + 1) (by omega) (by omega) hd (by omega) (fun D a' e => hQ1 _ a' (cns_l e)) (fun a' d' e => hQ0 a' d' (cns_r e))).2 rfl
          exact key _ (nI_succ a).symm
        · rw [if_neg (by rw [hl]; decide)] at hQ1 hQ0
          refine And.intro (fun _ => ?_) (fun g => absurd rfl g)
          refine R_number hx ht (by omega) (fun hn => ?_) (fun hn => ?_)
          · rw [if_pos hn] at hQ1 hQ0
            obtain ⟨w1, w2, w3⟩ := num_len hx ha hn
            refine And.intro (fun _ => ?_) (fun (g : (1 : Int32) = 0) => absurd g (by decide))
            exact (ih true o k _ w2 (by omega) hd (by omega) (fun D a' e => hQ1 _ a' (cns_l e)) (fun a' d' e => hQ0 a' d' (cns_r e))).2 rfl
          · rw [if_neg (by rw [hn]; decide)] at hQ1 hQ0
            refine And.intro (fun g => absurd rfl g) (fun _ => ?_)
            exact And.intro (Or.inl rfl) (hQ0 _ _ rfl)
      · have e40 : tx a = 40 := nIj (j := 40) (by omega) (by decide) g
        rw [if_pos e40] at hQ1 hQ0
        have hlt := hx.lt (a := a) (by omega)
        refine R_opens hx ht (by omega) hd (fun _ h9 => ?_) (fun h9 => ?_)
        · rw [if_pos h9] at hQ1 hQ0
          refine And.intro (fun _ => ?_) (fun (g : (1 : Int32) = 0) => absurd g (by decide))
          refine R_here0 hx ht (by omega) ?_
          have hc1 := hx.le (a + 1)
          have go : ∀ (b : Bool), decide (tx (a + 1) = 41) = b → ∀ y : Int32, y = nI (o + 1) → (b = false → ∀ x3, J 4 [some (.ref 27), some (.int y), some (.int (nI (k + 1))), x3] [] (cW s (rW (pdR r (a + 1) (d + o + 1)) tl), b0, b1, op)) ∧ (b = true → J 51 [some (.ref 27), some (.int y), some (.int (nI (k + 1))), some (.int 1)] [] (cW s (rW (pdR r (a + 1) (d + o + 1)) tl), b0, b1, op)) := by
            rintro b eb y rfl
            rw [eb] at hQ1 hQ0
            exact ih b (o + 1) (k + 1) (a + 1) (by omega) (by omega) (by omega) (by omega) (fun D a' e => hQ1 _ a' (cns_l e)) (fun a' d' e => hQ0 a' d' (cns_r e))
          have go2 : ∀ y : Int32, y = nI (o + 1) → tx (a + 1) = 41 → J 51 [some (.ref 27), some (.int y), some (.int (nI k)), some (.int 1)] [] (cW s (rW (pdR r (a + 1) (d + o + 1)) tl), b0, b1, op) := by
            rintro y rfl e41
            have eb : decide (tx (a + 1) = 41) = true := decide_eq_true e41
            rw [eb] at hQ1 hQ0
            exact (ih true (o + 1) k (a + 1) (by omega) (by omega) (by omega) (by omega) (fun D a' e => hQ1 _ a' (cns_l e)) (fun a' d' e => hQ0 a' d' (cns_r e))).2 rfl
          refine And.intro (fun (g2 : ¬ nI (tx (a + 1)) = 41) => ?_) (fun (g2 : nI (tx (a + 1)) = 41) => ?_)
          · have n41 : ¬ tx (a + 1) = 41 := fun e => g2 (by rw [e]; rfl)
            have key : ∀ y : Int32, y = nI (o + 1) → J 51 [some (.ref 27), some (.int y), some (.int (nI k)), some (.int 0)] [] (cW s (rW (pdR r (a + 1) (d + o + 1)) tl), b0, b1, op) := by
              rintro y rfl
              exact j0 _ _ _ _ ((go false (decide_eq_false n41) _ rfl).1 rfl)
            exact key _ (nI_succ o).symm
          · have e41 : tx (a + 1) = 41 := nIj (j := 41) (by omega) (by decide) g2
            exact go2 _ (nI_succ o).symm e41
        · have h9' : ¬ d + o < 9 := fun w => h9 ⟨e40, w⟩
          rw [if_neg h9'] at hQ1 hQ0
          refine And.intro (fun g => absurd rfl g) (fun _ => ?_)
          exact And.intro (Or.inl rfl) (hQ0 _ _ rfl)
    · subst eb
      cases o with
      | zero =>
        refine hJ _ _ _ _ ?_
        refine And.intro (fun (g : (1 : Int32) = 0) => absurd g (by decide)) (fun _ => ?_)
        refine And.intro (fun (g : ¬ nI 0 = 0) => absurd rfl g) (fun _ => ?_)
        exact And.intro (Or.inr rfl) (hQ1 [] a rfl)
      | succ o =>
        have e0 : gD tx (f + 1) true (o + 1) d a = if tx a = 41 then cns (5, 0) (gD tx f true o d (a + 1)) else if tx a = 32 then gD tx f false (o + 1) d (a + 1) else .inr a := rfl
        rw [e0] at hQ1 hQ0
        have hca := hx.le a
        refine hJ _ _ _ _ ?_
        refine And.intro (fun (g : (1 : Int32) = 0) => absurd g (by decide)) (fun _ => ?_)
        refine And.intro (fun _ => ?_) (fun (g : nI (o + 1) = 0) => absurd (nIj (j := 0) (by omega) (by decide) g) (by omega))
        refine R_here0 hx ht (by omega) ?_
        refine And.intro (fun (g : ¬ nI (tx a) = 41) => ?_) (fun (g : nI (tx a) = 41) => ?_)
        · have n41 : ¬ tx a = 41 := fun e => g (by rw [e]; rfl)
          rw [if_neg n41] at hQ1 hQ0
          refine R_takes (c := 32) hx ht (by omega) (by decide) (fun e => ?_) (fun e => ?_)
          · rw [if_pos e] at hQ1 hQ0
            have hlt := hx.lt (a := a) (by omega)
            refine And.intro (fun _ => ?_) (fun (g : (1 : Int32) = 0) => absurd g (by decide))
            exact j0 _ _ _ _ ((ih false (o + 1) (k + 1) (a + 1) (by omega) (by omega) hd (by omega) hQ1 hQ0).1 rfl)
          · rw [if_neg e] at hQ1 hQ0
            refine And.intro (fun g => absurd rfl g) (fun _ => ?_)
            exact And.intro (Or.inl rfl) (hQ0 _ _ rfl)
        · have e41 : tx a = 41 := nIj (j := 41) (by omega) (by decide) g
          rw [if_pos e41] at hQ1 hQ0
          have hlt := hx.lt (a := a) (by omega)
          have key : ∀ x y z : Int32, x = nI (a + 1) → y = nI (d + o) → z = nI o → J 51 [some (.ref 27), some (.int z), some (.int (nI k)), some (.int 1)] [] (cW s (rW ((r.s_p x).s_depth y) tl), b0, b1, op) := by
            rintro x y z rfl rfl rfl
            exact (ih true o k (a + 1) (by omega) (by omega) (by omega) (by omega) (fun D a' e => hQ1 _ a' (cns_l e)) (fun a' d' e => hQ0 a' d' (cns_r e))).2 rfl
          exact key _ _ _ (nI_succ a).symm (nI_pred (d + o)) (nI_dec o)
theorem R_datum {a : Nat} (hx : txOK r.text len tx) (ht : r.typed = nI len) (ha : a ≤ len) (hd : d ≤ 9) (h1 : ∀ D a', gD tx 200 false 0 d a = .inl (D, a') → Q (.inl (some (.int 1)), (cW s (rW (pdR r a' d) tl), b0, b1, op))) (h0 : ∀ a' d', gD tx 200 false 0 d a = .inr a' → Q (.inl (some (.int 0)), (cW s (rW (pdR r a' d') tl), b0, b1, op))) : mj_Mt gT cst gnw (m + 4) y_R_datum [.ref 27] (cW s (rW (pdR r a d) tl), b0, b1, op) Q := by
  intro J hJ
  have h96 := hx.1
  refine hJ _ _ _ _ ?_
  exact (R_datLoop hx ht hJ 200 false 0 0 a ha (Nat.zero_le _) (by omega) (by omega) h1 h0).1 rfl _
end RDD
end
