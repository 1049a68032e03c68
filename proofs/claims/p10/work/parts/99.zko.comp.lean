section
theorem LY_rch : ∀ (L : TL) (a b : LSt), LY L a b → ∀ M : Nat → Prop, inU M b.2.2.2.1 → (∀ P ∈ b.2.2.2.2, inU M P) → (∀ x, b.2.2.1 x → M x → inU M (b.1 x) ∧ inU M (b.2.1 x)) → (∀ x, b.2.2.1 x → a.2.2.1 x ∨ M x) ∧ inU M a.2.2.2.1 ∧ (∀ P ∈ a.2.2.2.2, inU M P) ∧ (∀ x, a.2.2.1 x → M x → inU M (a.1 x) ∧ inU M (a.2.1 x))
  | [], a, b, h, M, h1, h2, h3 => by
    have h : a = b := h
    subst h
    exact ⟨fun x hx => Or.inl hx, h1, h2, h3⟩
  | t :: L, a, b, ⟨c, h, q⟩, M, h1, h2, h3 => by
    have cell : ∀ (k : Nat) (hd tl' : Vl) (ps : List Vl), ¬ c.2.2.1 k → b = newL c k hd tl' ps → (M k → inU M hd → inU M tl' → inU M c.2.2.2.1 ∧ ∀ P ∈ c.2.2.2.2, inU M P) → (∀ x, b.2.2.1 x → a.2.2.1 x ∨ M x) ∧ inU M a.2.2.2.1 ∧ (∀ P ∈ a.2.2.2.2, inU M P) ∧ (∀ x, a.2.2.1 x → M x → inU M (a.1 x) ∧ inU M (a.2.1 x)) := by
      rintro k hd tl' ps hk rfl hn
      have mk : M k := h1 k rfl
      have uk : (newL c k hd tl' ps).2.2.1 k := Or.inr rfl
      obtain ⟨w1, w2⟩ := h3 k uk mk
      have e1 : (newL c k hd tl' ps).1 k = hd := if_pos rfl
      have e2 : (newL c k hd tl' ps).2.1 k = tl' := if_pos rfl
      rw [e1] at w1
      rw [e2] at w2
      obtain ⟨n1, n2⟩ := hn mk w1 w2
      obtain ⟨r1, r2, r3, r4⟩ := LY_rch L a c h M n1 n2 (fun x hx mx => by
        have ne : ¬ x = k := fun e => hk (e ▸ hx)
        obtain ⟨v1, v2⟩ := h3 x (Or.inl hx) mx
        have e3 : (newL c k hd tl' ps).1 x = c.1 x := if_neg ne
        have e4 : (newL c k hd tl' ps).2.1 x = c.2.1 x := if_neg ne
        rw [e3] at v1
        rw [e4] at v2
        exact ⟨v1, v2⟩)
      refine ⟨fun x hx => ?_, r2, r3, r4⟩
      rcases hx with hx | hx
      · exact r1 x hx
      · rw [hx]
        exact Or.inr mk
    rcases q with ⟨-, rfl⟩ | ⟨-, P, ps, k, ep, hk, e⟩ | ⟨-, -, k, hk, e⟩
    · exact LY_rch L a c h M (h2 _ List.mem_cons_self) (fun P hP => h2 P (List.mem_cons_of_mem _ hP)) h3
    · refine cell k _ _ _ hk e (fun _ w1 w2 => ⟨w1, fun P' hP' => ?_⟩)
      rw [ep] at hP'
      rcases List.mem_cons.mp hP' with w | w
      · rw [w]
        exact w2
      · rw [e] at h2
        exact h2 P' w
    · refine cell k _ _ _ hk e (fun _ w1 w2 => ⟨w2, fun P' hP' => ?_⟩)
      rw [e] at h2
      exact h2 P' hP'
def LTYP (L : TL) : Prop := ∀ st : LSt, ∀ H T : Nat → Vl, LY L (H, T, fun _ => False, vNil, []) st → TS st.1 st.2.1 ro0 st.2.2.1 st.2.2.2.1
theorem GD_0 (H T : Nat → Vl) : GDl (H, T, fun _ => False, vNil, []) := ⟨fun a ha => absurd ha id, ⟨nil_inU, Or.inl rfl⟩, fun P hP => by cases hP⟩
theorem TS_ag {H T H2 T2 : Nat → Vl} {ro : Nat → Bool} {U : Nat → Prop} {R : Vl} (h : TS H T ro U R) (hH : ∀ a, U a → H2 a = H a ∧ T2 a = T a) : TS H2 T2 ro U R := by
  have hx : Ext U H T ro H2 T2 ro := fun a ha => ⟨(hH a ha).2, rfl, fun _ => (hH a ha).1⟩
  refine ⟨fun a ha => ?_, h.2.1, wtx_ext h.1 hx h.2.1 h.2.2⟩
  obtain ⟨⟨a1, a2⟩, ⟨a3, a4⟩, a5⟩ := h.1 a ha
  rw [(hH a ha).1, (hH a ha).2]
  refine ⟨⟨a1, a2⟩, ⟨gF_ext h.1 hx a1 a3, gF_ext h.1 hx a2 a4⟩, fun w => ⟨(a5 w).1, lst_ext h.1 hx a1 (a5 w).2⟩⟩
theorem code_joint {z N : Nat} {L : TL} {H0 T0 Hf Tf H2 T2 : Nat → Vl} {lf : Option Nat} {bf : Bool} {stf : List Nat} {r : rM} {Hi Ti : Nat → Vl} {st : LSt} (hht : htT L = some 0) (hz : cnt L ≤ z) (hpos : 0 < N) (hl : lyS z L ((H0, T0, 0, none, false), []) = ((Hf, Tf, N, lf, bf), stf)) (h2 : ∀ i, i < N → H2 i = Hf i ∧ T2 i = Tf i) (hty : LTYP L) (hY : LY L (Hi, Ti, fun _ => False, vNil, []) st) (hU : Ur r = st.2.2.1) : ∃ ρ, COD N H2 T2 r st.1 st.2.1 st.2.2.2.1 ρ := by
  obtain ⟨cu, pl, f1, -, f3, f4, -, f6⟩ := FW z L H0 T0 0 none false [] hht (by omega) (fun q hq => by cases hq) List.nodup_nil (fun k e => by cases e) (fun _ => rfl) Hf Tf N lf bf stf hl
  have hpl : pl = [] := by
    cases pl with
    | nil => rfl
    | cons P pl => exact absurd f3 id
  subst hpl
  have eU : (fun i => 0 ≤ i ∧ i < N) = fun i => i < N := by
    funext i
    exact propext ⟨fun q => q.2, fun q => ⟨Nat.zero_le _, q⟩⟩
  rw [eU] at f1
  have hTS := hty _ Hf Tf f1
  obtain ⟨gd, -⟩ := LY_gd L _ _ (GD_0 Hf Tf) f1
  have hcu : cu = vPr 0 := by
    rcases f6 with e | e
    · exfalso
      have := (LY_rch L _ _ f1 (fun _ => False) (by rw [show ((Hf, Tf, (fun i => i < N), cu, ([] : List Vl)) : LSt).2.2.2.1 = cu from rfl, e]; exact nil_inU) (fun P hP => by cases hP) (fun x _ q => absurd q id)).1 0 hpos
      rcases this with q | q <;> exact q
    · exact e
  subst hcu
  have hR : LR (fun _ _ => False) ((Hf, Tf, fun _ => False, vNil, []) : LSt) ((Hi, Ti, fun _ => False, vNil, []) : LSt) := ⟨⟨fun a b b' q => absurd q id, fun a a' b q => absurd q id⟩, fun a b q => absurd q id, fun x y q => absurd q id, trivial, trivial⟩
  obtain ⟨ρ, l1, l2, l3, l4, -⟩ := LY_bis L _ _ _ _ _ hR f1 hY
  have hcl : ∀ i, i < N → inU (fun a => a < N) (Hf i) ∧ inU (fun a => a < N) (Tf i) := fun i hi => ⟨SI_h gd.1 hi, SI_t gd.1 hi⟩
  have hrc : ∀ M : Nat → Prop, M 0 → (∀ i, i < N → M i → inU M (Hf i) ∧ inU M (Tf i)) → ∀ i, i < N → M i := fun M m0 hM i hi => by
    have := (LY_rch L _ _ f1 M (pr_inU m0) (fun P hP => by cases hP) (fun x hx mx => hM x hx mx)).1 i hi
    rcases this with q | q
    · exact absurd q id
    · exact q
  have l2 : BH ρ Hf Tf st.1 st.2.1 := l2
  have l4 : VR ρ (vPr 0) st.2.2.2.1 := l4
  have l3 : ∀ x y, ρ x y → x < N ∧ st.2.2.1 y := l3
  refine ⟨ρ, ⟨ro0, TS_ag hTS h2, fun _ _ => rfl⟩, ⟨fun i hi => ?_, fun M m0 hM => hrc M m0 (fun i hi mi => ?_)⟩, l1, fun a b q => ?_, l4, fun a b q => ⟨(l3 a b q).1, by rw [hU]; exact (l3 a b q).2⟩, ?_⟩
  · rw [(h2 i hi).1, (h2 i hi).2]
    exact hcl i hi
  · rw [← (h2 i hi).1, ← (h2 i hi).2]
    exact hM i hi mi
  · obtain ⟨w1, w2⟩ := h2 a (l3 a b q).1
    rw [w1, w2]
    exact l2 a b q
  · refine hrc (fun a => ∃ b, ρ a b) ?_ (fun i hi mi => ?_)
    · obtain ⟨b, -, w⟩ := cellV l4 (show ceV (vPr 0) = some 0 from rfl)
      exact ⟨b, w⟩
    · obtain ⟨b, q⟩ := mi
      obtain ⟨w1, w2⟩ := l2 i b q
      refine ⟨fun a e => ?_, fun a e => ?_⟩
      · obtain ⟨b2, -, w⟩ := cellV w1 e
        exact ⟨b2, w⟩
      · obtain ⟨b2, -, w⟩ := cellV w2 e
        exact ⟨b2, w⟩
end
section
def cpS (r r' : rM) : rM := ((cpR r r').s_show_ r.show_)
theorem kr_cs {r r' : rM} (h : kr r r') : r' = cpS r r' := by
  have e : r'.show_ = r.show_ := congrArg (fun q => q.2.2.2.2.2.2.2) (show krT r' = krT r from h)
  have e1 := kr_cp h
  have e2 : cpS r r' = ((cpR r r').s_show_ r'.show_) := by
    unfold cpS
    rw [e]
  rw [e2, ← e1]
  all_goals rfl
theorem JNT_kr {r r' : rM} {z c : Nat} {σ : KS} (h : kr r r') (hj : JNT z c σ r) : JNT z c σ r' := by
  rw [kr_cs h]
  exact hj
section ZKP
variable {cst : Nat → Option (Nat × (Nat → Int32))} {m b0 b1 : Nat} {op : Bool} {tl : List mj_O} {Q : mj_R → Prop} {s : cS} {r : rM} {len : Nat} {tx : Nat → Nat}
set_option maxRecDepth 10000
set_option maxHeartbeats 4000000 in
theorem RR_compileE (hx : txOK r.text len tx) (ht : r.typed = nI len) (hI : RMI r) (hQ : ∀ i N y r', GOut tx len r.z i N → r'.thrown = nI i → (i = 0 → y = nI N ∧ ¬ r'.program = 0) → (¬ i = 0 → r'.program = r.program ∧ ∀ z c σ, JNT z c σ r → JNT z c σ r') → (i = 0 → r'.state = 0 ∧ ∃ (t : Tau) (Hi Ti : Nat → Vl) (st : LSt), gEx tx 10 0 0 = .inl (t, len) ∧ htT (t [] ++ [(1, 19)]) = some 0 ∧ LTYP (t [] ++ [(1, 19)]) ∧ LY (t [] ++ [(1, 19)]) (Hi, Ti, fun _ => False, vNil, []) st ∧ Ur r' = st.2.2.1 ∧ RX r' st.1 st.2.1 vNil vNil vNil vNil st.2.2.2.1) → RMI r' → r'.z = r.z → r'.typed = nI 0 → Q (.inl (some (.int y)), (cW s (rW r' tl), b0, b1, op))) : mj_Mt gT cst gnw (m + 7) y_R_compile [.ref 27] (cW s (rW r tl), b0, b1, op) Q := by
  have h96 := hx.1
  intro J hJ
  have err : ∀ (r1 : rM) (e : Int32), kr r r1 → GOut tx len r.z 1 0 → Q (.inl (some (.int 0)), (cW s (rW (erR r1 e 1) tl), b0, b1, op)) := fun r1 e k1 hG => hQ 1 0 0 (erR r1 e 1) hG rfl (fun q => absurd q (by decide)) (fun _ => ⟨show r1.program = r.program from kr_pg k1, fun z c σ hj => show JNT z c σ r1 from JNT_kr k1 hj⟩) (fun q => absurd q (by decide)) (show RMI r1 from RMI_kr k1 hI) (show r1.z = r.z from kr_z k1) rfl
  refine hJ _ _ _ _ ?_
  refine R_read hx ht (fun t e r1 g1 k1 hp he hpa hc => ?_) (fun t a' r1 g1 ne ha k1 => ?_) (fun a' r1 d' g1 ha k1 => ?_)
  rotate_left
  · refine And.intro (fun _ => ?_) (fun g => absurd rfl g)
    refine And.intro (fun (g : nI a' < 0) => absurd g (nI_pos (by omega))) (fun _ => ?_)
    refine And.intro (fun _ => ?_) (fun (g : (1 : Int32) = 0) => absurd g (by decide))
    refine And.intro (fun (g : (1 : Int32) ≤ 0) => absurd g (by decide)) (fun _ => ?_)
    exact err (pdR r1 a' 0) (nI a') k1 (Or.inl ⟨rfl, fun τ h => by rw [g1] at h; cases h; exact absurd rfl ne⟩)
  · refine And.intro (fun _ => ?_) (fun g => absurd rfl g)
    refine And.intro (fun (g : nI a' < 0) => absurd g (nI_pos (by omega))) (fun _ => ?_)
    refine And.intro (fun _ => ?_) (fun (g : (1 : Int32) = 0) => absurd g (by decide))
    refine And.intro (fun (g : (1 : Int32) ≤ 0) => absurd g (by decide)) (fun _ => ?_)
    exact err (pdR r1 a' d') (nI a') k1 (Or.inl ⟨rfl, fun τ h => by rw [g1] at h; cases h⟩)
  · have hc1 : cR tx (pdR r1 len 0) 10 0 e t := cR_same rfl hc
    have hcov := cR_cov (K := 20) 10 0 e t 0 [] hc1 (by omega) ⟨hpa, rfl⟩ (by decide)
    refine And.intro (fun (g : (1 : Int32) = 0) => absurd g (by decide)) (fun _ => ?_)
    refine R_firstUnk (r := pdR r1 len 0) (K := 20) (e := e) (by omega) hp (fun i hi hk => hcov.1 i (Nat.zero_le _) hi hk) (fun hall => ?_) (fun a ha hub => ?_)
    · have hkn : knT (t []) := by
        intro x hx h6
        obtain ⟨i, c2, k2, φ2, w1, w2, w3, w4⟩ := hcov.2 x hx h6
        rw [w4]
        exact hall i c2 k2 φ2 w2 w3
      refine And.intro (fun _ => ?_) (fun (g : ¬ (-1 : Int32) < 0) => absurd (by decide) g)
      refine And.intro (fun (g : ¬ (0 : Int32) = 0) => absurd rfl g) (fun _ => ?_)
      have hkt := kr_text k1
      have hx1 : txOK r1.text len tx := by rw [hkt.1]; exact hx
      have ht1 : r1.typed = nI len := by rw [hkt.2]; exact ht
      have hl : (t []).length + 1 ≤ 1200 := by
        have := (gEx_len hx 10 0 0 t len g1).2 []
        omega
      have hI1 : RMI (etR (pdR r1 len 0) (-1) 0) := show RMI r1 from RMI_kr k1 hI
      refine R_writeCode (r := etR (pdR r1 len 0) (-1) 0) (t := t) (e := e) hx1 ht1 (cR_same rfl hc1) (by omega) hpa hl (fun r3 k3 w3 => ?_)
      have hI3 : RMI r3 := RMI_kr (kw_kr k3) hI1
      have hz3 : r3.z = r.z := (kr_z (kw_kr k3)).trans (show r1.z = r.z from kr_z k1)
      obtain ⟨H9, T9, S9, E9, C9, D9, R9, hX9⟩ := RMI_RX hI3
      have hz250 := hX9.1.1.2
      have hz1 := hX9.1.1.1
      have hcl : cnt (low (t []) ++ [(1, 19)]) ≤ 1200 := by
        have := cnt_le (low (t []) ++ [(1, 19)])
        rw [len_s, low_len] at this
        omega
      have ecell := w3.2.2
      have hcnt : cnt (low (t []) ++ [(1, 19)]) = cnt (t []) + 1 := by
        rw [cnt_app, cnt_low]
        rfl
      refine And.intro (fun (g : r3.cells ≤ nI r3.z) => ?_) (fun (g : ¬ r3.cells ≤ nI r3.z) => ?_)
      rotate_left
      · have hbig : r.z < cnt (t []) + 1 := by
          rw [ecell] at g
          rcases Nat.lt_or_ge r3.z (cnt (low (t []) ++ [(1, 19)])) with w | w
          · omega
          · exact absurd (nI_le w (by omega)) g
        refine And.intro (fun (g : (2 : Int32) ≤ 0) => absurd g (by decide)) (fun _ => ?_)
        exact hQ 2 0 0 (tyR r3 2) (Or.inr ⟨t, g1, hkn, Or.inl ⟨rfl, by omega⟩⟩) rfl (fun q => absurd q (by decide)) (fun _ => ⟨show r3.program = r.program from (kr_pg (kw_kr k3)).trans (show r1.program = r.program from kr_pg k1), fun z c σ hj => show JNT z c σ r3 from JNT_kr (kw_kr k3) (show JNT z c σ (etR (pdR r1 len 0) (-1) 0) from show JNT z c σ r1 from JNT_kr k1 hj)⟩) (fun q => absurd q (by decide)) hI3 hz3 rfl
      · rw [ecell] at g
        have hcz : cnt (low (t []) ++ [(1, 19)]) ≤ r3.z := (nI_leI (by omega) (by omega)).mp g
        refine And.intro (fun _ => ?_) (fun (g : ¬ (0 : Int32) ≤ 0) => absurd (by decide) g)
        have fin : ∀ (u g : Nat → Int32) (F : Nat), (∀ i, i < 250 → u i = 0) → (∀ i, i < 4 → g i = -1) → mj_sg (mj_Mt gT cst gnw (m + 6)) cst gnw (mj_hd (mj_off kO_R_compile) kH_R_compile) kC_R_compile J Q (F + 60) false 67 [some (.ref 27), some (.int 1), some (.int (nI 4))] [] (cW s (rW (clU (tyR r3 0) u g) tl), b0, b1, op) := by
          intro u g F hu hg
          have hU : Ur (clU (tyR r3 0) u g) = fun _ => False := by
            funext a
            refine propext ⟨fun w => ?_, fun w => absurd w id⟩
            have w1 : a < r3.z := w.1
            exact w.2 (hu a (by omega))
          have hLI : LI (clU (tyR r3 0) u g) (ppR (clU (tyR r3 0) u g) 0) r3.z [] (H9, T9, fun _ => False, vNil, []) (-1) := by
            refine ⟨⟨⟨⟨rfl, rfl, rfl, rfl, rfl⟩, rfl, rfl, rfl, rfl, rfl⟩, rfl, rfl, rfl, rfl, rfl⟩, ⟨⟨hX9.1.1, fun a ha => ?_, hX9.1.2.2⟩, hU, Or.inl ⟨rfl, rfl⟩⟩, ⟨rfl, fun i P hi => ?_⟩, ?_⟩
            · have : Ur (clU (tyR r3 0) u g) a := ha
              rw [hU] at this
              exact absurd this id
            · have hi : ([] : List Vl)[i]? = some P := hi
              rw [List.getElem?_nil] at hi
              cases hi
            · show czN u r3.z 0 0 + 0 = r3.z
              rw [czN_0 u hu r3.z 0 0 (by omega)]
              omega
          have hkd : ∀ x ∈ low (t []) ++ [(1, 19)], (x.1 = 0 ∧ x.2 = 0) ∨ x.1 = 1 ∨ x.1 = 2 ∨ x.1 = 4 ∨ x.1 = 5 := by
            intro x hx
            rcases List.mem_append.mp hx with w | w
            · exact kd_low (cR_kd 10 0 e t hc1 []) x w
            · rw [List.mem_singleton.mp w]
              exact Or.inr (Or.inl rfl)
          have elow : low (t [] ++ [(1, 19)]) = low (t []) ++ [(1, 19)] := by rw [low_app]; rfl
          have hht : htT (low (t []) ++ [(1, 19)]) = some 0 := by
            rw [← elow, ht_low]
            exact cR_ht 10 0 e t hc1 [] [(1, 19)] 0 (HT_1 [] 0 rfl)
          refine R_lay (z := r3.z) (init := (H9, T9, fun _ => False, vNil, [])) (σ := low (t []) ++ [(1, 19)]) ⟨w3.1, w3.2.1, w3.2.2⟩ (by rw [len_s, low_len]; omega) hkd hht hz250 hcz hLI rfl (fun r6 st x hL6 hY => ?_)
          have i54 : vp_in 4 5 := vp_in_nI (show 4 < 5 by decide) (by decide)
          refine And.intro i54 ?_
          obtain ⟨⟨p1, p2, p3, -, -, p6⟩, ⟨q1, q2, q3⟩, -, -⟩ := hL6
          have p6 : r6.cells = r3.cells := p6
          have pth : r6.thrown = 0 := congrArg Prod.snd p1.1.2.2.2.2
          have ginit : GDl (H9, T9, fun _ => False, vNil, []) := ⟨fun a ha => absurd ha id, ⟨nil_inU, Or.inl rfl⟩, fun P hP => by cases hP⟩
          rw [← elow] at hY
          have hYt := LY_low _ _ _ hY
          obtain ⟨c, y1, y2⟩ := LY_app _ _ _ _ hYt
          obtain ⟨gc, -⟩ := LY_gd _ _ _ ginit y1
          obtain ⟨gst, -⟩ := LY_gd _ _ _ gc y2
          have hok : okTt (t []) := by
            intro x hx h6
            obtain ⟨i, c2, k2, φ2, w1, w2, w3, w4⟩ := hcov.2 x hx h6
            rw [w4]
            exact lkF_bd k2 i φ2 0 w3.2.2.2.1 (hall i c2 k2 φ2 w2 w3) (by have := w3.2.2.2.2; omega)
          have hwt := ((cR_ty 10 0 e t hc1 [] hok) c st gc y2).2 [] 0 eStop (o_19 ginit (LY_one y1)).1
          have hz6 : r6.z = r.z := p1.1.1.trans hz3
          have hm6 : mkOK r6 := kp_mk p1 (show mkOK (clU (tyR r3 0) u g) from hI3.1.1)
          have hs6 : shOK r6 := kp_sh p1 (show shOK (clU (tyR r3 0) u g) from hI3.1.2)
          have h9 : Q (.inl (some (.int r6.cells)), (cW s (rW (fiR r6 (upd r6.reg 4 x)) tl), b0, b1, op)) := by
            refine hQ 0 (cnt (t []) + 1) r6.cells (fiR r6 (upd r6.reg 4 x)) (Or.inr ⟨t, g1, hkn, Or.inr ⟨rfl, by omega, rfl⟩⟩) pth (fun _ => ⟨by rw [p6, ecell, hcnt], by show ¬ (1 : Int32) = 0; decide⟩) (fun q => absurd rfl q) (fun _ => ⟨rfl, t, H9, T9, st, g1, by rw [← ht_low, elow]; exact hht, fun st' H T hY' => ?_, hYt, q2, ?_⟩) ⟨⟨hm6, hs6⟩, Or.inr ⟨by show ¬ (1 : Int32) = 0; decide, st.2.2.2.1, Or.inl ⟨rfl, st.1, st.2.1, ro0, ⟨q1, ?_, ?_, ?_, ?_, q3⟩, ?_⟩⟩⟩ hz6 ?_
            · obtain ⟨c', z1, z2⟩ := LY_app _ _ _ _ hY'
              obtain ⟨gc', -⟩ := LY_gd _ _ _ (GD_0 H T) z1
              obtain ⟨gst', -⟩ := LY_gd _ _ _ gc' z2
              exact ⟨gst'.1, gst'.2.1.1, ((cR_ty 10 0 e t hc1 [] hok) c' st' gc' z2).2 [] 0 eStop (o_19 (GD_0 H T) (LY_one z1)).1⟩
            · exact ⟨q1, Or.inl ⟨rfl, by show r6.reg 0 = -1; rw [p3]; exact hg 0 (by decide)⟩, Or.inl ⟨rfl, by show r6.reg 1 = -1; rw [p3]; exact hg 1 (by decide)⟩, Or.inl ⟨rfl, by show r6.reg 2 = -1; rw [p3]; exact hg 2 (by decide)⟩, Or.inl ⟨rfl, by show r6.reg 3 = -1; rw [p3]; exact hg 3 (by decide)⟩, q3⟩
            · exact Or.inl ⟨rfl, by show r6.reg 0 = -1; rw [p3]; exact hg 0 (by decide)⟩
            · exact Or.inl ⟨rfl, by show r6.reg 1 = -1; rw [p3]; exact hg 1 (by decide)⟩
            · exact Or.inl ⟨rfl, by show r6.reg 2 = -1; rw [p3]; exact hg 2 (by decide)⟩
            · exact Or.inl ⟨rfl, by show r6.reg 3 = -1; rw [p3]; exact hg 3 (by decide)⟩
            · have eU : Ur (fiR r6 (upd r6.reg 4 x)) = st.2.2.1 := q2
              rw [eU]
              exact ⟨gst.1, gst.2.1.1, hwt⟩
            · show r6.typed = nI 0
              exact p1.1.2.1
          exact And.intro (Or.inr rfl) h9
        have loop2 : ∀ (j k : Nat) (u g : Nat → Int32), j + k = 4 → (∀ i, i < 250 → u i = 0) → (∀ i, i < k → g i = -1) → J 57 [some (.ref 27), some (.int 1), some (.int (nI k))] [] (cW s (rW (clU (tyR r3 0) u g) tl), b0, b1, op) := by
          intro j
          induction j with
          | zero =>
            intro k u g hk hu hg
            obtain rfl : k = 4 := by omega
            refine hJ _ _ _ _ ?_
            refine And.intro (fun _ => fin u g _ hu hg) (fun (w : ¬ (4 : Int32) ≤ nI 4) => absurd (by decide) w)
          | succ j ih =>
            intro k u g hk hu hg
            refine hJ _ _ _ _ ?_
            refine And.intro (fun (w : (4 : Int32) ≤ nI k) => absurd w (nI_ge (b := 4) (by omega) (by decide))) (fun _ => ?_)
            refine And.intro (vp_in_nI (show k < 5 by omega) (by decide)) ?_
            have key : ∀ (i : Nat) (y : Int32), i = k → y = nI (k + 1) → J 57 [some (.ref 27), some (.int 1), some (.int y)] [] (cW s (rW (clU (tyR r3 0) u (upd g i (-1))) tl), b0, b1, op) := by
              rintro i y rfl rfl
              refine ih (i + 1) u _ (by omega) hu (fun a ha => ?_)
              unfold upd
              split
              · rfl
              · exact hg a (by omega)
            exact key _ _ (nI_clamp (by omega)) (nI_succ k).symm
        have loop1 : ∀ (j k : Nat) (u : Nat → Int32), j + k = 250 → (∀ i, i < k → u i = 0) → J 45 [some (.ref 27), some (.int 1), some (.int (nI k))] [] (cW s (rW (clU (tyR r3 0) u r3.reg) tl), b0, b1, op) := by
          intro j
          induction j with
          | zero =>
            intro k u hk hu
            obtain rfl : k = 250 := by omega
            refine hJ _ _ _ _ ?_
            refine And.intro (fun _ => loop2 4 0 u r3.reg (by omega) hu (fun i hi => absurd hi (Nat.not_lt_zero i))) (fun (w : ¬ (250 : Int32) ≤ nI 250) => absurd (by decide) w)
          | succ j ih =>
            intro k u hk hu
            refine hJ _ _ _ _ ?_
            refine And.intro (fun (w : (250 : Int32) ≤ nI k) => absurd w (nI_ge (b := 250) (by omega) (by decide))) (fun _ => ?_)
            refine And.intro (vp_in_nI (show k < 250 by omega) (by decide)) ?_
            have key : ∀ (i : Nat) (y v : Int32), i = k → y = nI (k + 1) → v = 0 → J 45 [some (.ref 27), some (.int 1), some (.int y)] [] (cW s (rW (clU (tyR r3 0) (upd u i v) r3.reg) tl), b0, b1, op) := by
              rintro i y v rfl rfl rfl
              refine ih (i + 1) _ (by omega) (fun a ha => ?_)
              unfold upd
              split
              · rfl
              · exact hu a (by omega)
            exact key _ _ _ (nI_clamp (by omega)) (nI_succ k).symm (by decide)
        exact loop1 250 0 r3.used (by omega) (fun i hi => absurd hi (Nat.not_lt_zero i))
    · have hbad : ¬ knT (t []) := by
        obtain ⟨i, c2, k2, φ2, w1, w2, w3⟩ := hub
        obtain ⟨c3, k3, φ3, w4, w5⟩ := cR_cvr (K := 20) 10 0 e t 0 [] hc1 (by omega) ⟨hpa, rfl⟩ (by decide) i (Nat.zero_le _) w1 w2.1
        obtain ⟨rfl, rfl⟩ := NM_u w2 w4
        exact fun q => q _ w5 rfl w3
      refine And.intro (fun (g : nI a < 0) => absurd g (nI_pos (by omega))) (fun _ => ?_)
      refine And.intro (fun _ => ?_) (fun (g : (1 : Int32) = 0) => absurd g (by decide))
      refine And.intro (fun (g : (1 : Int32) ≤ 0) => absurd g (by decide)) (fun _ => ?_)
      exact err (pdR r1 len 0) (nI a) k1 (Or.inl ⟨rfl, fun τ h => by rw [g1] at h; cases h; exact hbad⟩)
end ZKP
section ZKQ
variable {m b0 b1 : Nat} {op : Bool} {tl W : List mj_O} {Q : mj_R → Prop} {xs : List Int32} {z len c : Nat} {tx : Nat → Nat} {mode err : Int32} {H T : Nat → Vl} {S E C D : Vl} {fr : Nat → Nat} {f n : Nat} {fb : Nat → Nat}
set_option maxRecDepth 10000
theorem J_compile {l : Nat} (hl : 120 ≤ l) (h : CJ z len tx mode c err H T S E C D fr f n fb tl W) (hb : 12 ≤ b1)
    (h1 : ∀ (i : Nat) W' b0' b1' err', ((i = 0 ∧ GOut tx len z 1 0) ∨ (i = 1 ∧ GOut tx len z 2 0)) → CJ z 0 (fun _ => 0) mode c err' H T S E C D fr f n fb tl W' → b0 ≤ b0' → b1 ≤ b1' + 12 → Q (.inr i, (W', b0', b1', false)))
    (h2 : ∀ N W' (τ : Tau) H0 T0 Hf Tf lf bf H2 T2 fr2, GOut tx len z 0 N → 1 ≤ N → N ≤ 250 → gEx tx 10 0 0 = .inl (τ, len) → lyS z (τ [] ++ [(1, 19)]) ((H0, T0, 0, none, false), []) = ((Hf, Tf, N, lf, bf), []) → (∀ i, i < N → H2 i = Hf i ∧ T2 i = Tf i) → CJ z 0 (fun _ => 0) 0 N (-1) H2 T2 vNil vNil vNil vNil fr2 (z - N) n fb tl W' → Q (.inl (some (.int (nI N))), (W', b0 + 2, b1, op))) :
    mj_Mt gT (law_cst xs) gnw (l + 1) y_P_compile [.ref 0] (W, b0 + 2, b1, op) Q := by
  obtain ⟨t, X, a, s, colls, taken, steps, g, k, R, rfl, hz, ht, hx, hF, hO, hM, hfr, hf, hc, hd⟩ := h
  have ht0 : tOK (0, t.2) := ⟨Nat.zero_le _, ht.2.1, ⟨ht.2.2.1.1, fun i hi => absurd hi (Nat.not_lt_zero i)⟩, ht.2.2.2⟩
  have hg := g_ex hx 10 0 0 (0, t.2) ht0 (Nat.le_refl _) (Nat.zero_le _)
  refine P_compile hl hz ht hx hF hb (fun a' t' e => ?_) (fun nd a' t' e q => ?_) (fun nd a' t' e q u => ?_) (fun nd a' t' s' e q u es v => ?_) (fun nd a' t' s' e q u es v => ?_)
  · have hG : GOut tx len z 1 0 := Or.inl ⟨rfl, fun τ h => by rw [cls_bad hx ht e] at h; cases h⟩
    rw [e] at hg
    exact h1 0 _ _ _ _ (Or.inl ⟨rfl, hG⟩) ⟨t', X, a', s, colls, taken, steps, g, k, R, rfl, hz, hg.1, txOK_0, hF, hO, hM, hfr, hf, hc, hd⟩ (by omega) (by omega)
  · obtain ⟨τ, w1, w2, w3⟩ := cls_good (z := z) (s := s) hx ht e
    have hG : GOut tx len z 1 0 := Or.inl ⟨rfl, fun τ h => by rw [w1] at h; cases h; omega⟩
    rw [e] at hg
    exact h1 0 _ _ _ _ (Or.inl ⟨rfl, hG⟩) ⟨t', X, a', s, colls, taken, steps, g, k, R, rfl, hz, hg.2.1, txOK_0, hF, hO, hM, hfr, hf, hc, hd⟩ (by omega) (by omega)
  · obtain ⟨τ, w1, w2, w3⟩ := cls_good (z := z) (s := s) hx ht e
    obtain rfl : a' = len := by omega
    obtain ⟨c1, c2⟩ := cls_cn w3
    have hG : GOut tx a' z 1 0 := Or.inl ⟨rfl, fun τ h => by rw [w1] at h; cases h; exact fun q => u (c2.mpr q)⟩
    rw [e] at hg
    have hl2 := lay_F (z := z) hg.2.1 hF hO
    exact h1 0 _ _ _ _ (Or.inl ⟨rfl, hG⟩) ⟨t', X, a', _, colls, taken, steps, g, k, R, rfl, hz, hg.2.1, txOK_0, hl2.1, hl2.2, hM, hfr, hf, hc, hd⟩ (by omega) (by omega)
  · obtain ⟨τ, w1, w2, w3⟩ := cls_good (z := z) (s := s) hx ht e
    obtain rfl : a' = len := by omega
    obtain ⟨c1, c2⟩ := cls_cn w3
    rw [← es] at c1
    have hG : GOut tx a' z 2 0 := Or.inr ⟨τ, w1, c2.mp u, Or.inl ⟨rfl, by omega⟩⟩
    rw [e] at hg
    have hl2 := lay_F (z := z) hg.2.1 hF hO
    rw [← es] at hl2
    exact h1 1 _ _ _ _ (Or.inr ⟨rfl, hG⟩) ⟨t', X, a', _, colls, taken, steps, g, k, R, rfl, hz, hg.2.1, txOK_0, hl2.1, hl2.2, hM, hfr, hf, hc, hd⟩ (by omega) (by omega)
  · obtain ⟨τ, w1, w2, w3⟩ := cls_good (z := z) (s := s) hx ht e
    obtain rfl : a' = len := by omega
    obtain ⟨c1, c2⟩ := cls_cn w3
    rw [← es] at c1
    have hG : GOut tx a' z 0 (cn (dC s')) := Or.inr ⟨τ, w1, c2.mp u, Or.inr ⟨rfl, by omega, by omega⟩⟩
    rw [e] at hg
    have hl2 := lay_F (z := z) hg.2.1 hF hO
    rw [← es] at hl2
    have hfa := faN_fr (z := z) (z - cn (dC s')) (cn (dC s')) (fr, 0) (by omega) hfr
    have hf2 : (faN (z - cn (dC s')) (cn (dC s')) (fr, 0)).2 = z - cn (dC s') := by
      have : (faN (z - cn (dC s')) (cn (dC s')) (fr, 0)).2 = 0 + (z - cn (dC s')) := hfa.2
      omega
    have hlay := (RES_app w3 (RES_I (z := z) 19)).1 []
    rw [← es] at hlay
    rw [hf2]
    refine h2 (cn (dC s')) _ τ (cH_ (dC s)) (cT_ (dC s)) (cH_ (dC s')) (cT_ (dC s')) (cl (dC s')) (ci (dC s')) _ _ _ hG (by omega) (by omega) w1 hlay (fun i hi => ⟨if_pos hi, if_pos hi⟩) ⟨t', X, a', s', colls, taken, steps, g, k, R, rfl, hz, hg.2.1, txOK_0, hl2.1, hl2.2, ⟨okA_cp hl2.2.1 hM.1, okA_cp hl2.2.2 hM.2.1, trivial, trivial, trivial, trivial⟩, hfa.1, by omega, v, hd⟩
end ZKQ
end
section
section ZKR
variable {cst : Nat → Option (Nat × (Nat → Int32))} {m b0 b1 : Nat} {op : Bool} {tl : List mj_O} {Q : mj_R → Prop} {s : cS} {r : rM} {z c : Nat} {H T : Nat → Vl} {S E C D : Vl} {fr : Nat → Nat} {f : Nat} {mode : Int32}
set_option maxRecDepth 10000
theorem R_countE {x : Int32} (hI : RMI r) (hQ : ∀ y r', ke r r' → RMI r' → (∀ z c σ, JNT z c σ r → JNT z c σ r') → Q (.inl (some (.int y)), (cW s (rW r' tl), b0, b1, op))) : mj_Mt gT cst gnw (m + 3) y_R_count [.ref 27, .int x] (cW s (rW r tl), b0, b1, op) Q := by
  obtain ⟨H, T, S, E, C, D, R, hX⟩ := RMI_RX hI
  have hz := hX.1.1.2
  obtain ⟨⟨n1, c1⟩, ⟨n2, c2⟩⟩ := RMI_len hI
  have k0 : ke r (thR r 0) := ⟨rfl, rfl, rfl, rfl, rfl⟩
  have h0 : RMI (thR r 0) := hI
  intro J hJ
  refine hJ _ _ _ _ ?_
  refine And.intro (fun _ => ?_) (fun _ => And.intro (fun _ => ?_) (fun _ => And.intro (fun _ => ?_) (fun _ => And.intro (fun _ => ?_) (fun _ => And.intro (fun _ => ?_) (fun _ => And.intro (fun _ => ?_) (fun _ => And.intro (fun _ => ?_) (fun _ => ?_)))))))
  · refine r_free (r := thR r 0) hz ?_
    exact hQ _ (thR r 0) k0 h0 (fun _ _ _ hj => hj)
  · refine R_reach (r := thR r 0) (H := H) (T := T) (S := S) (E := E) (C := C) (D := D) (R := R) hX hI.1.1 (fun c mk pl n _ _ _ _ _ _ _ => ?_)
    exact hQ _ (mpR (thR r 0) mk pl n) ⟨rfl, rfl, rfl, rfl, rfl⟩ (RMI_mp h0) (fun _ _ _ hj => hj)
  · exact hQ _ (thR r 0) k0 h0 (fun _ _ _ hj => hj)
  · exact hQ _ (thR r 0) k0 h0 (fun _ _ _ hj => hj)
  · exact hQ _ (thR r 0) k0 h0 (fun _ _ _ hj => hj)
  · refine And.intro (in0 (by decide)) ?_
    refine R_lengthOf (r := thR r 0) (n := n1) (chN_th _ _ c1) (fun y => ?_)
    exact hQ _ (thR r 0) k0 h0 (fun _ _ _ hj => hj)
  · refine And.intro i53 ?_
    refine R_lengthOf (r := thR r 0) (n := n2) (chN_th _ _ c2) (fun y => ?_)
    exact hQ _ (thR r 0) k0 h0 (fun _ _ _ hj => hj)
  · exact hQ _ (thR r 0) k0 h0 (fun _ _ _ hj => hj)
theorem R_nextE (hJN : JNT z c (H, T, (S, E, C, D), fr, f, mode) r) (hQ : Q (.inl (some (.int (if mode = 1 then (encV (ofV H C)).toInt32 else -1))), (cW s (rW (thR r 0) tl), b0, b1, op))) : mj_Mt gT cst gnw (m + 1) y_R_next [.ref 27] (cW s (rW r tl), b0, b1, op) Q := by
  intro J hJ
  refine hJ _ _ _ _ ?_
  have hst : r.state = mode := hJN.1
  refine And.intro (fun (g : ¬ r.state = 1) => ?_) (fun (g : r.state = 1) => ?_)
  · rw [if_neg (fun e => g (hst.trans e))] at hQ
    exact hQ
  · have hm : mode = 1 := hst.symm.trans g
    subst hm
    rw [if_pos rfl] at hQ
    rcases hJN.2 with ⟨-, -, w⟩ | ⟨-, -, w, -⟩ | ⟨hc, hp, -, hCD, R', H', T', S', E', C', D', ro', k0, n0, b0', e0, U, ρ, hX, hT, hK, hB⟩
    · exact absurd (show (1 : Int32) = 0 from w) (by decide)
    · exact absurd (show (1 : Int32) = 0 from w) (by decide)
    obtain ⟨f0, hw⟩ : ∃ f, wt H' T' ro' f C' k0 n0 b0' e0 := hT.2.2.2.1.2
    cases f0 with
    | zero => exact absurd hw id
    | succ f0 =>
    obtain ⟨c', i, rfl, -, hi, -⟩ := hw
    obtain ⟨h2, uc⟩ := rg_pr hX.2.2.2.1
    have hc' := Ur_lt hX.1 uc
    have eh : r.head c' = i := by
      have := (hX.1.2.1 c' uc).1
      rw [hi] at this
      exact this.2
    have hx : ofV H C = vInt i := by
      have q := VR_H hB.2.1 hB.2.2.1.2.2.1
      have q : VR ρ (ofV H C) (H' c') := q
      rw [hi] at q
      generalize ofV H C = v at q
      rcases v with u | y | y | j | j <;> first | exact absurd q id | (have q : y = i := q; rw [q])
    rw [iV_enc hx] at hQ
    refine And.intro i52 ?_
    refine And.intro (show vp_in (r.reg 2) 250 by rw [h2]; exact vp_in_nI hc' (by decide)) ?_
    have key : ∀ j : Nat, j = c' → Q (.inl (some (.int (r.head j))), (cW s (rW (thR r 0) tl), b0, b1, op)) := by
      rintro j rfl
      rw [eh]
      exact hQ
    exact key _ (by show (r.reg 2).toNatClampNeg = c'; rw [h2]; exact nI_clamp (by omega))
end ZKR
theorem JNT_KRN {z c : Nat} {H T : Nat → Vl} {S E C D : Vl} {fr : Nat → Nat} {f : Nat} {mode : Int32} {r : rM} (h : JNT z c (H, T, (S, E, C, D), fr, f, mode) r) : KRN z c mode H T S E C D fr f := by
  rintro rfl
  rcases h.2 with ⟨-, -, w⟩ | ⟨-, -, w, -⟩ | ⟨hc, hp, -, hCD, R', H', T', S', E', C', D', ro', k0, n0, b0', e0, U, ρ, hX, hT, hK, hB⟩
  · exact absurd (show (1 : Int32) = 0 from w) (by decide)
  · exact absurd (show (1 : Int32) = 0 from w) (by decide)
  · exact ⟨hc, hCD, U, hK⟩
theorem CJ_c {z len : Nat} {tx : Nat → Nat} {mode : Int32} {c : Nat} {err : Int32} {H T : Nat → Vl} {S E C D : Vl} {fr : Nat → Nat} {f n : Nat} {fb : Nat → Nat} {tl W : List mj_O} (h : CJ z len tx mode c err H T S E C D fr f n fb tl W) : c ≤ z ∧ z ≤ 250 := by
  obtain ⟨t, X, a, s, colls, taken, steps, g, k, R, rfl, hz, ht, hx, hF, hO, hM, hfr, hf, hc, hd⟩ := h
  exact ⟨hc, hz⟩
section ZKS
variable {m b0 b1 z len c : Nat} {tx : Nat → Nat} {mode err : Int32} {op : Bool} {Q : mj_R → Prop} {s : cS} {r : rM} {xs : List Int32} {fo : Nat → Int64} {H T : Nat → Vl} {S E C D : Vl} {fr : Nat → Nat} {f n : Nat} {fb : Nat → Nat}
set_option maxRecDepth 10000
theorem LJ_compile {l : Nat} (hl : 120 ≤ l) (h : CY z len tx mode c err H T S E C D fr f n fb s) (hb : 12 ≤ b1)
    (h1 : ∀ i s' b0' b1' op' err', GOut tx len z i 0 → (i = 1 ∨ i = 2) → CY z 0 (fun _ => 0) mode c err' H T S E C D fr f n fb s' → b0 ≤ b0' → b1 ≤ b1' + 12 → Q (.inl (some (.int (nI i))), (cW s' (rW r [oJ 1 fo]), b0', b1', op')))
    (h2 : ∀ N s' f' (τ : Tau) H0 T0 Hf Tf lf bf H2 T2 fr2, GOut tx len z 0 N → 1 ≤ N → N ≤ 250 → gEx tx 10 0 0 = .inl (τ, len) → lyS z (τ [] ++ [(1, 19)]) ((H0, T0, 0, none, false), []) = ((Hf, Tf, N, lf, bf), []) → (∀ i, i < N → H2 i = Hf i ∧ T2 i = Tf i) → CY z 0 (fun _ => 0) 0 N (-1) H2 T2 vNil vNil vNil vNil fr2 (z - N) n fb s' → f' 0 = (nI N).toInt64 → Q (.inl (some (.int (nI 0))), (cW s' (rW r [oJ 1 f']), b0 + 2, b1, op))) :
    mj_Mt gT (law_cst xs) gnw (l + 2) y_Law_compile [.ref 0, .ref 54] (cW s (rW r [oJ 1 fo]), b0 + 2, b1, op) Q := by
  intro J hJ
  refine hJ _ _ _ _ ?_
  refine J_compile hl (h _) hb (fun i W' b0' b1' err' hi hc q0 q1 => ?_) (fun N W' τ H0 T0 Hf Tf lf bf H2 T2 fr2 hG g1 g2 e1 e2 e3 hc => ?_)
  · obtain ⟨s', rfl, hs⟩ := CJ_CY hc
    rcases hi with ⟨rfl, hG⟩ | ⟨rfl, hG⟩
    · exact h1 1 s' _ _ _ err' hG (Or.inl rfl) hs q0 q1
    · exact h1 2 s' _ _ _ err' hG (Or.inr rfl) hs q0 q1
  · obtain ⟨s', rfl, hs⟩ := CJ_CY hc
    refine And.intro (in0 (by decide)) ?_
    refine h2 N s' _ τ H0 T0 Hf Tf lf bf H2 T2 fr2 hG g1 g2 e1 e2 e3 hs ?_
    show vp_updL fo _ _ 0 = _
    exact if_pos rfl
theorem LJ_run {x : Int32} (h : CY z len tx mode c err H T S E C D fr f n fb s) (hK : KRN z c mode H T S E C D fr f) (hD0 : DSP H T S mode n fb) (hb0 : 1 ≤ b0) (hb1 : 6 ≤ b1) (hb2 : mode = 1 → 200 ≤ b0 ∧ 20000 ≤ b1)
    (h1 : ∀ b0' b1' op', (x < 0 ∨ 200 < x) → b0 ≤ b0' + 1 → b1 ≤ b1' + 6 → Q (.inl (some (.int (nI 1))), (cW s (rW r [oJ 1 fo]), b0', b1', op')))
    (h2 : ∀ N k mode' s' f' H' T' S' E' C' D' fr' fq n' fb' b0' b1' op', x = nI N → N ≤ 200 → k ≤ N → CRUN z N (H, T, (S, E, C, D), fr, f, mode) k (H', T', (S', E', C', D'), fr', fq, mode') → CY z len tx mode' c err H' T' S' E' C' D' fr' fq n' fb' s' → DSP H' T' S' mode' n' fb' → f' 0 = (nI k).toInt64 → (b0' = b0 ∧ b1' = b1 ∧ (mode = 1 ∨ mode' = mode)) ∨ (¬ mode' = 1 ∧ mode = 1 ∧ b0 ≤ b0' + 140 ∧ b1 ≤ b1' + 19740) → Q (.inl (some (.int (nI 0))), (cW s' (rW r [oJ 1 f']), b0', b1', op'))) :
    mj_Mt gT (law_cst xs) gnw (m + 14) y_Law_run [.ref 0, .int x, .ref 54] (cW s (rW r [oJ 1 fo]), b0, b1, op) Q := by
  intro J hJ
  refine hJ _ _ _ _ ?_
  refine J_run (h _) hK hD0 hb0 hb1 hb2 (fun b0' b1' hx q0 q1 => ?_) (fun N k mode' W' H' T' S' E' C' D' fr' f' n' fb' b0' b1' op' ex hN hkN hC hc hK' hD' hq => ?_)
  · exact h1 b0' b1' _ hx q0 q1
  · obtain ⟨s', rfl, hs⟩ := CJ_CY hc
    refine And.intro (in0 (by decide)) ?_
    refine h2 N k mode' s' _ H' T' S' E' C' D' fr' f' n' fb' b0' b1' op' ex hN hkN hC hs hD' ?_ hq
    show vp_updL fo _ _ 0 = _
    exact if_pos rfl
end ZKS
end
section
def SHQ (H T : Nat → Vl) (S : Vl) (mode x y : Int32) : Prop := (¬ mode = 2 ∧ y = -1) ∨ (mode = 2 ∧ ∃ l : List Nat, l.length ≤ 140 ∧ (∃ R0 : Nat → Vl, l = (shw H T 120 [] R0 0 (ofV H S)).1) ∧ y = if 0 ≤ x ∧ x < 120 ∧ x < nI l.length then nI (l.getD x.toNatClampNeg 0) else -1)
section ZKR
variable {m b0 b1 : Nat} {op : Bool} {tl W : List mj_O} {Q : mj_R → Prop} {xs : List Int32} {z len c : Nat} {tx : Nat → Nat} {mode err : Int32} {H T : Nat → Vl} {S E C D : Vl} {fr : Nat → Nat} {f n : Nat} {fb : Nat → Nat}
set_option maxRecDepth 10000
theorem CJ_M (h : CJ z len tx mode c err H T S E C D fr f n fb tl W) : mOK z S E C D H T := by
  obtain ⟨t, X, a, s, colls, taken, steps, g, k, R, rfl, hz, ht, hx, hF, hO, hM, hfr, hf, hc, hd⟩ := h
  exact hM
theorem M_shownE {err : Int32} {t : tS} {X : Nat → Int32} {a : Nat} {s : cD_} {S E C D : Vl} {colls taken steps : Int32} {H T : Nat → Vl} {fr : Nat → Nat} {g : gS} {f : Nat} {k : Int32} {n : Nat} {fb : Nat → Nat} {R : Nat → Vl} {x : Int32} {l : List Nat} (hn : n = l.length) (hl : l.length ≤ 140) (hag : agr l fb) (hQ : ∀ op', Q (.inl (some (.int (if 0 ≤ x ∧ x < 120 ∧ x < nI l.length then nI (l.getD x.toNatClampNeg 0) else -1))), (WC z err t X len a s S E C D mode colls taken steps H T fr g f c k n fb R tl, b0 + 1, b1, op'))) : mj_Mt gT (law_cst xs) gnw (m + 6) y_Machine_shownCode [.ref 16, .int x] (WC z err t X len a s S E C D mode colls taken steps H T fr g f c k n fb R tl, b0 + 1, b1, op) Q := by
  subst hn
  intro J hJ
  refine hJ _ _ _ _ ?_
  refine d_codeAt hl hag (fun op' => ?_)
  exact hQ op'
theorem J_shownE {x : Int32} (h : CJ z len tx mode c err H T S E C D fr f n fb tl W) (hds : DSP H T S mode n fb) (hQ : ∀ y op', SHQ H T S mode x y → Q (.inl (some (.int y)), (W, b0 + 1, b1, op'))) : mj_Mt gT (law_cst xs) gnw (m + 7) y_P_shown [.ref 0, .int x] (W, b0 + 1, b1, op) Q := by
  obtain ⟨t, X, a, s, colls, taken, steps, g, k, R, rfl, hz, ht, hx, hF, hO, hM, hfr, hf, hc, hd⟩ := h
  intro J hJ
  refine hJ _ _ _ _ ?_
  refine M_mode ?_
  refine And.intro (fun (g : ¬ mode = 2) => ?_) (fun (g : mode = 2) => ?_)
  · exact hQ _ op (Or.inl ⟨g, rfl⟩)
  · obtain ⟨R0, e1, e2⟩ := hds g
    obtain ⟨⟨l', el, hl, -⟩, -⟩ := hd
    have hl2 : (shw H T 120 [] R0 0 (ofV H S)).1.length ≤ 140 := by omega
    refine M_shownE e1 hl2 e2 (fun op' => ?_)
    exact hQ _ op' (Or.inr ⟨g, _, hl2, ⟨R0, rfl⟩, rfl⟩)
theorem sOK_VR {ρ : Nat → Nat → Prop} {v w : Vl} (hv : okV z v) (q : VR ρ v w) : sOKv w := by
  intro y e
  subst e
  rcases v with u | x | x | a | a <;> first | exact absurd q id | skip
  obtain ⟨c, hc, rfl⟩ := hv
  have q : nI c = y := q
  exact ⟨c, hc, q.symm⟩
end ZKR
section ZKS
variable {cst : Nat → Option (Nat × (Nat → Int32))} {m b0 b1 : Nat} {op : Bool} {tl : List mj_O} {Q : mj_R → Prop} {s : cS} {r : rM} {z c : Nat} {H T : Nat → Vl} {S E C D : Vl} {fr : Nat → Nat} {f : Nat} {mode : Int32}
set_option maxRecDepth 10000
theorem JNT_PRC {R0 : Nat → Vl} (hJN : JNT z c (H, T, (S, E, C, D), fr, f, mode) r) (hM : mOK z S E C D H T) (h2 : mode = 2) : ∃ p : sP, (r.shown = nI p.1 ∧ r.show_ = p.2) ∧ PRC (shw H T 120 [] R0 0 (ofV H S)).1 p := by
  obtain ⟨hst, hJN⟩ := hJN
  have hst : r.state = mode := hst
  obtain ⟨hA, hB, -⟩ := hM
  rcases hJN with ⟨-, -, w⟩ | ⟨-, -, w, -⟩ | ⟨hc, hp, -, hCD, R', H', T', S', E', C', D', ro', k0, n0, b0', e0, U, ρ, hX, hT, hK, hBI⟩
  · have w : mode = 0 := w
    exact absurd (h2.symm.trans w) (by decide)
  · have w : mode = 0 := w
    exact absurd (h2.symm.trans w) (by decide)
  · obtain ⟨hI, hBH, ⟨qS, qE, qC, qD, qR⟩, hdom, hf, hcR, hSh⟩ := hBI
    have hBH : BH ρ H T H' T' := hBH
    have qS : VR ρ S S' := qS
    have hUz : ∀ a, U a → a < z := hK.2.1
    have hSM : SMc r H' T' (fun b => ∃ a, ρ a b) := by
      refine ⟨hX.1.1.2, fun b hb => ?_⟩
      obtain ⟨a, q⟩ := hb
      obtain ⟨ua, ub⟩ := hdom a b q
      obtain ⟨q1, q2⟩ := hBH a b q
      refine ⟨ub, hX.1.2.1 b ub, ⟨sOK_VR (hA a (hUz a ua)) q1, sOK_VR (hB a (hUz a ua)) q2⟩, fun b2 e2 => ?_, fun b2 e2 => ?_⟩
      · obtain ⟨a3, e3, w3⟩ := cellW q1 e2
        exact ⟨a3, w3⟩
      · obtain ⟨a3, e3, w3⟩ := cellW q2 e2
        exact ⟨a3, w3⟩
    have hin : inU (fun b => ∃ a, ρ a b) S' := fun b eb => by
      obtain ⟨a3, e3, w3⟩ := cellW qS eb
      exact ⟨a3, w3⟩
    obtain ⟨p, hp1, hp2⟩ := hSh (hst.trans h2) ⟨_, hSM, hin⟩
    refine ⟨p, hp1, ?_⟩
    rw [shw_VR hBH 120 [] R0 (fun _ => vNil) 0 _ _ (fun i hi => absurd hi (Nat.not_lt_zero i)) (VR_H hBH qS)]
    exact hp2
theorem R_shownE {x y : Int32} (hJN : JNT z c (H, T, (S, E, C, D), fr, f, mode) r) (hM : mOK z S E C D H T) (hy : SHQ H T S mode x y) (hQ : Q (.inl (some (.int y)), (cW s (rW (thR r 0) tl), b0, b1, op))) : mj_Mt gT cst gnw (m + 1) y_R_shown [.ref 27, .int x] (cW s (rW r tl), b0, b1, op) Q := by
  have hst : r.state = mode := hJN.1
  intro J hJ
  refine hJ _ _ _ _ ?_
  rcases hy with ⟨g, rfl⟩ | ⟨g, l, hl, ⟨R0, el⟩, hy⟩
  · refine And.intro (fun _ => hQ) (fun (w : r.state = 2) => absurd (hst.symm.trans w) g)
  · obtain ⟨p, ⟨p1, p2⟩, hp⟩ := JNT_PRC (R0 := R0) hJN hM g
    rw [← el] at hp
    have hp1 := hp.1
    refine And.intro (fun (w : ¬ r.state = 2) => absurd (hst.trans g) w) (fun _ => ?_)
    refine And.intro (fun (w : x < 0) => ?_) (fun (w : ¬ x < 0) => ?_)
    · rw [if_neg (fun q => absurd w (Int32.not_lt.mpr q.1))] at hy
      rw [hy] at hQ
      exact hQ
    · obtain ⟨j, hj, rfl⟩ := nI_of w
      refine And.intro (fun (w2 : r.shown ≤ nI j) => ?_) (fun (w2 : ¬ r.shown ≤ nI j) => ?_)
      · rw [p1] at w2
        have w3 : p.1 ≤ j := (nI_leI (by omega) hj).mp w2
        rw [if_neg (fun q => by
          have q1 : j < 120 := (nI_ltI (b := 120) hj (by decide)).mp q.2.1
          have q2 : j < l.length := (nI_ltI hj (by omega)).mp q.2.2
          omega)] at hy
        rw [hy] at hQ
        exact hQ
      · have w3 : j < p.1 := Nat.lt_of_not_le (fun q => w2 (by rw [p1]; exact nI_le q hj))
        have e : r.show_ (nI j).toNatClampNeg = y := by
          rw [nI_clamp hj, p2, hp.2 j w3, hy, if_pos ⟨Int32.not_lt.mp w, (nI_ltI (b := 120) hj (by decide)).mpr (by omega), (nI_ltI hj (by omega)).mpr (by omega)⟩, nI_clamp hj]
        refine And.intro (vp_in_nI (show j < 120 by omega) (by decide)) ?_
        show Q (.inl (some (.int (r.show_ (nI j).toNatClampNeg))), (cW s (rW (thR r 0) tl), b0, b1, op))
        rw [e]
        exact hQ
end ZKS
end
