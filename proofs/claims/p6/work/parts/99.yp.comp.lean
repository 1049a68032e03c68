def cpR (r r' : rM) : rM := ((((((((((((r'.s_z r.z).s_used r.used).s_function r.function).s_headKind r.headKind).s_head r.head).s_tailKind r.tailKind).s_tail r.tail).s_marked r.marked).s_reg r.reg).s_program r.program).s_state r.state).s_shown r.shown)
theorem kr_cp {r r' : rM} (h : kr r r') : r' = cpR r r' := by
  have h : krT r' = krT r := h
  have e1 : r'.z = r.z := congrArg (fun q => q.1.1) h
  have e2 : r'.used = r.used := congrArg (fun q => q.2.1.1) h
  have e3 : r'.function = r.function := congrArg (fun q => q.2.1.2.1) h
  have e4 : r'.headKind = r.headKind := congrArg (fun q => q.2.1.2.2.1) h
  have e5 : r'.head = r.head := congrArg (fun q => q.2.1.2.2.2.1) h
  have e6 : r'.tailKind = r.tailKind := congrArg (fun q => q.2.1.2.2.2.2.1) h
  have e7 : r'.tail = r.tail := congrArg (fun q => q.2.1.2.2.2.2.2) h
  have e8 : r'.marked = r.marked := congrArg (fun q => q.2.2.1.1) h
  have e9 : r'.reg = r.reg := congrArg (fun q => q.2.2.1.2.1) h
  have e10 : r'.program = r.program := congrArg (fun q => q.2.2.1.2.2.1) h
  have e11 : r'.state = r.state := congrArg (fun q => q.2.2.1.2.2.2) h
  have e12 : r'.shown = r.shown := congrArg (fun q => q.2.2.2.2.2.2.1) h
  unfold cpR
  rw [← e1, ← e2, ← e3, ← e4, ← e5, ← e6, ← e7, ← e8, ← e9, ← e10, ← e11, ← e12]
  rfl
theorem RMI_kr {r r' : rM} (h : kr r r') (hI : RMI r) : RMI r' := by
  rw [kr_cp h]
  exact hI
theorem kr_z {r r' : rM} (h : kr r r') : r'.z = r.z := congrArg (fun q => q.1.1) (show krT r' = krT r from h)
theorem czN_0 (u : Nat → Int32) (hu : ∀ i, i < 250 → u i = 0) : ∀ n k a, k + n ≤ 250 → czN u n k a = a + n
  | 0, k, a, _ => rfl
  | n + 1, k, a, h => by
    have e : czN u (n + 1) k a = czN u n (k + 1) (if u k = 0 then a + 1 else a) := rfl
    rw [e, if_pos (hu k (by omega)), czN_0 u hu n (k + 1) (a + 1) (by omega)]
    omega
def erR (r : rM) (e t : Int32) : rM := (((r.s_error e).s_thrown t).s_typed 0)
def clU (r : rM) (u g : Nat → Int32) : rM := ((r.s_used u).s_reg g)
def etR (r : rM) (e t : Int32) : rM := ((r.s_error e).s_thrown t)
def tyR (r : rM) (t : Int32) : rM := ((r.s_thrown t).s_typed 0)
def fiR (r : rM) (g : Nat → Int32) : rM := ((((((r.s_reg g).s_program 1).s_state 0).s_collections 0).s_takenBack 0).s_steps 0)
section YP
variable {cst : Nat → Option (Nat × (Nat → Int32))} {m b0 b1 : Nat} {op : Bool} {tl : List mj_O} {Q : mj_R → Prop} {s : cS} {r : rM} {len : Nat} {tx : Nat → Nat}
set_option maxRecDepth 10000
theorem cR_same {tx : Nat → Nat} {r r' : rM} {f n e : Nat} {t : Tau} (h : (r'.kind, r'.value, r'.at_, r'.until_, r'.first, r'.letters, r'.next, r'.bound, r'.parent) = (r.kind, r.value, r.at_, r.until_, r.first, r.letters, r.next, r.bound, r.parent)) (hc : cR tx r f n e t) : cR tx r' f n e t := by
  have e1 : r'.kind = r.kind := congrArg (fun q => q.1) h
  have e2 : r'.value = r.value := congrArg (fun q => q.2.1) h
  have e3 : r'.at_ = r.at_ := congrArg (fun q => q.2.2.1) h
  have e4 : r'.until_ = r.until_ := congrArg (fun q => q.2.2.2.1) h
  have e5 : r'.first = r.first := congrArg (fun q => q.2.2.2.2.1) h
  have e6 : r'.letters = r.letters := congrArg (fun q => q.2.2.2.2.2.1) h
  have e7 : r'.next = r.next := congrArg (fun q => q.2.2.2.2.2.2.1) h
  have e8 : r'.bound = r.bound := congrArg (fun q => q.2.2.2.2.2.2.2.1) h
  have e9 : r'.parent = r.parent := congrArg (fun q => q.2.2.2.2.2.2.2.2) h
  refine cR_ag f n e t ⟨fun i _ _ => ?_, fun i _ _ => by rw [e6], fun i _ _ => by rw [e7, e8, e9]; exact ⟨rfl, rfl, rfl⟩⟩ hc
  rw [e1, e2, e3, e4, e5]
  exact ⟨rfl, rfl, rfl, rfl, rfl⟩
set_option maxHeartbeats 4000000 in
theorem R_compile (hx : txOK r.text len tx) (ht : r.typed = nI len) (hI : RMI r) (hQ : ∀ y r', RMI r' → r'.z = r.z → r'.typed = nI 0 → Q (.inl (some (.int y)), (cW s (rW r' tl), b0, b1, op))) : mj_Mt gT cst gnw (m + 7) y_R_compile [.ref 27] (cW s (rW r tl), b0, b1, op) Q := by
  have h96 := hx.1
  intro J hJ
  have err : ∀ (r1 : rM) (e t : Int32), kr r r1 → Q (.inl (some (.int 0)), (cW s (rW (erR r1 e t) tl), b0, b1, op)) := fun r1 e t k1 => hQ 0 (erR r1 e t) (show RMI r1 from RMI_kr k1 hI) (show r1.z = r.z from kr_z k1) rfl
  refine hJ _ _ _ _ ?_
  refine R_read hx ht (fun t e r1 g1 k1 hp he hpa hc => ?_) (fun t a' r1 g1 ne ha k1 => ?_) (fun a' r1 d' g1 ha k1 => ?_)
  rotate_left
  · refine And.intro (fun _ => ?_) (fun g => absurd rfl g)
    refine And.intro (fun (g : nI a' < 0) => absurd g (nI_pos (by omega))) (fun _ => ?_)
    refine And.intro (fun _ => ?_) (fun (g : (1 : Int32) = 0) => absurd g (by decide))
    refine And.intro (fun (g : (1 : Int32) ≤ 0) => absurd g (by decide)) (fun _ => ?_)
    exact err (pdR r1 a' 0) (nI a') 1 k1
  · refine And.intro (fun _ => ?_) (fun g => absurd rfl g)
    refine And.intro (fun (g : nI a' < 0) => absurd g (nI_pos (by omega))) (fun _ => ?_)
    refine And.intro (fun _ => ?_) (fun (g : (1 : Int32) = 0) => absurd g (by decide))
    refine And.intro (fun (g : (1 : Int32) ≤ 0) => absurd g (by decide)) (fun _ => ?_)
    exact err (pdR r1 a' d') (nI a') 1 k1
  · have hc1 : cR tx (pdR r1 len 0) 10 0 e t := cR_same rfl hc
    have hcov := cR_cov (K := 20) 10 0 e t 0 [] hc1 (by omega) ⟨hpa, rfl⟩ (by decide)
    refine And.intro (fun (g : (1 : Int32) = 0) => absurd g (by decide)) (fun _ => ?_)
    refine R_firstUnknown (r := pdR r1 len 0) (K := 20) (e := e) (by omega) hp (fun i hi hk => hcov.1 i (Nat.zero_le _) hi hk) (fun hall => ?_) (fun a ha => ?_)
    · refine And.intro (fun _ => ?_) (fun (g : ¬ (-1 : Int32) < 0) => absurd (by decide) g)
      refine And.intro (fun (g : ¬ (0 : Int32) = 0) => absurd rfl g) (fun _ => ?_)
      have hkt := kr_text k1
      have hx1 : txOK r1.text len tx := by rw [hkt.1]; exact hx
      have ht1 : r1.typed = nI len := by rw [hkt.2]; exact ht
      have hl : (t []).length + 1 ≤ 1200 := by
        have := (gEx_len hx 10 0 0 t len g1).2 []
        omega
      have hI1 : RMI (etR (pdR r1 len 0) (-1) 0) := show RMI r1 from RMI_kr k1 hI
      refine R_writeCode (r := etR (pdR r1 len 0) (-1) 0) (t := t) (e := e) hx1 ht1 (cR_same rfl hc1) (by omega) hpa hl (fun r3 k3 w3 => ?_)
      have hI3 : RMI r3 := RMI_kr (kw_kr k3) hI1
      have hz3 : r3.z = r.z := (kr_z (kw_kr k3)).trans (show r1.z = r.z from kr_z k1)
      obtain ⟨H9, T9, S9, E9, C9, D9, R9, hX9⟩ := RMI_RX hI3
      have hz250 := hX9.1.1.2
      have hz1 := hX9.1.1.1
      have hcl : cnt (low (t []) ++ [(1, 19)]) ≤ 1200 := by
        have := cnt_le (low (t []) ++ [(1, 19)])
        rw [len_s, low_len] at this
        omega
      have ecell := w3.2.2
      refine And.intro (fun (g : r3.cells ≤ nI r3.z) => ?_) (fun _ => ?_)
      rotate_left
      · refine And.intro (fun (g : (2 : Int32) ≤ 0) => absurd g (by decide)) (fun _ => ?_)
        exact hQ 0 (tyR r3 2) hI3 hz3 rfl
      · rw [ecell] at g
        have hcz : cnt (low (t []) ++ [(1, 19)]) ≤ r3.z := (nI_leI (by omega) (by omega)).mp g
        refine And.intro (fun _ => ?_) (fun (g : ¬ (0 : Int32) ≤ 0) => absurd (by decide) g)
        have fin : ∀ (u g : Nat → Int32) (F : Nat), (∀ i, i < 250 → u i = 0) → (∀ i, i < 4 → g i = -1) → mj_sg (mj_Mt gT cst gnw (m + 6)) cst gnw (mj_hd (mj_off kO_R_compile) kH_R_compile) kC_R_compile J Q (F + 60) false 67 [some (.ref 27), some (.int 1), some (.int (nI 4))] [] (cW s (rW (clU (tyR r3 0) u g) tl), b0, b1, op) := by
          intro u g F hu hg
          have hU : Ur (clU (tyR r3 0) u g) = fun _ => False := by
            funext a
            refine propext ⟨fun w => ?_, fun w => absurd w id⟩
            have w1 : a < r3.z := w.1
            exact w.2 (hu a (by omega))
          have hLI : LI (clU (tyR r3 0) u g) (ppR (clU (tyR r3 0) u g) 0) r3.z [] (H9, T9, fun _ => False, vNil, []) (-1) := by
            refine ⟨⟨⟨⟨rfl, rfl, rfl, rfl, rfl⟩, rfl, rfl, rfl, rfl, rfl⟩, rfl, rfl, rfl, rfl, rfl⟩, ⟨⟨hX9.1.1, fun a ha => ?_, hX9.1.2.2⟩, hU, Or.inl ⟨rfl, rfl⟩⟩, ⟨rfl, fun i P hi => ?_⟩, ?_⟩
            · have : Ur (clU (tyR r3 0) u g) a := ha
              rw [hU] at this
              exact absurd this id
            · have hi : ([] : List Vl)[i]? = some P := hi
              rw [List.getElem?_nil] at hi
              cases hi
            · show czN u r3.z 0 0 + 0 = r3.z
              rw [czN_0 u hu r3.z 0 0 (by omega)]
              omega
          have hkd : ∀ x ∈ low (t []) ++ [(1, 19)], (x.1 = 0 ∧ x.2 = 0) ∨ x.1 = 1 ∨ x.1 = 2 ∨ x.1 = 4 ∨ x.1 = 5 := by
            intro x hx
            rcases List.mem_append.mp hx with w | w
            · exact kd_low (cR_kd 10 0 e t hc1 []) x w
            · rw [List.mem_singleton.mp w]
              exact Or.inr (Or.inl rfl)
          have elow : low (t [] ++ [(1, 19)]) = low (t []) ++ [(1, 19)] := by rw [low_app]; rfl
          have hht : htT (low (t []) ++ [(1, 19)]) = some 0 := by
            rw [← elow, ht_low]
            exact cR_ht 10 0 e t hc1 [] [(1, 19)] 0 (HT_1 [] 0 rfl)
          refine R_lay (z := r3.z) (init := (H9, T9, fun _ => False, vNil, [])) (σ := low (t []) ++ [(1, 19)]) ⟨w3.1, w3.2.1, w3.2.2⟩ (by rw [len_s, low_len]; omega) hkd hht hz250 hcz hLI rfl (fun r6 st x hL6 hY => ?_)
          have i54 : vp_in 4 5 := vp_in_nI (show 4 < 5 by decide) (by decide)
          refine And.intro i54 ?_
          obtain ⟨⟨p1, p2, p3, -, -, p6⟩, ⟨q1, q2, q3⟩, -, -⟩ := hL6
          have ginit : GDl (H9, T9, fun _ => False, vNil, []) := ⟨fun a ha => absurd ha id, ⟨nil_inU, Or.inl rfl⟩, fun P hP => by cases hP⟩
          rw [← elow] at hY
          obtain ⟨c, y1, y2⟩ := LY_app _ _ _ _ (LY_low _ _ _ hY)
          obtain ⟨gc, -⟩ := LY_gd _ _ _ ginit y1
          obtain ⟨gst, -⟩ := LY_gd _ _ _ gc y2
          have hok : okTt (t []) := by
            intro x hx h6
            obtain ⟨i, c2, k2, φ2, w1, w2, w3, w4⟩ := hcov.2 x hx h6
            rw [w4]
            exact lkF_bd k2 i φ2 0 w3.2.2.2.1 (hall i c2 k2 φ2 w2 w3) (by have := w3.2.2.2.2; omega)
          have hwt := ((cR_ty 10 0 e t hc1 [] hok) c st gc y2).2 [] 0 eStop (o_19 ginit (LY_one y1)).1
          have hz6 : r6.z = r.z := p1.1.1.trans hz3
          have hm6 : mkOK r6 := kp_mk p1 (show mkOK (clU (tyR r3 0) u g) from hI3.1.1)
          have hs6 : shOK r6 := kp_sh p1 (show shOK (clU (tyR r3 0) u g) from hI3.1.2)
          have h9 : Q (.inl (some (.int r6.cells)), (cW s (rW (fiR r6 (upd r6.reg 4 x)) tl), b0, b1, op)) := by
            refine hQ r6.cells (fiR r6 (upd r6.reg 4 x)) ⟨⟨hm6, hs6⟩, Or.inr ⟨by show ¬ (1 : Int32) = 0; decide, st.2.2.2.1, Or.inl ⟨rfl, st.1, st.2.1, ro0, ⟨q1, ?_, ?_, ?_, ?_, q3⟩, ?_⟩⟩⟩ hz6 ?_
            · exact Or.inl ⟨rfl, by show r6.reg 0 = -1; rw [p3]; exact hg 0 (by decide)⟩
            · exact Or.inl ⟨rfl, by show r6.reg 1 = -1; rw [p3]; exact hg 1 (by decide)⟩
            · exact Or.inl ⟨rfl, by show r6.reg 2 = -1; rw [p3]; exact hg 2 (by decide)⟩
            · exact Or.inl ⟨rfl, by show r6.reg 3 = -1; rw [p3]; exact hg 3 (by decide)⟩
            · have eU : Ur (fiR r6 (upd r6.reg 4 x)) = st.2.2.1 := q2
              rw [eU]
              exact ⟨gst.1, gst.2.1.1, hwt⟩
            · show r6.typed = nI 0
              exact p1.1.2.1
          exact And.intro (Or.inr rfl) h9
        have loop2 : ∀ (j k : Nat) (u g : Nat → Int32), j + k = 4 → (∀ i, i < 250 → u i = 0) → (∀ i, i < k → g i = -1) → J 57 [some (.ref 27), some (.int 1), some (.int (nI k))] [] (cW s (rW (clU (tyR r3 0) u g) tl), b0, b1, op) := by
          intro j
          induction j with
          | zero =>
            intro k u g hk hu hg
            obtain rfl : k = 4 := by omega
            refine hJ _ _ _ _ ?_
            refine And.intro (fun _ => fin u g _ hu hg) (fun (w : ¬ (4 : Int32) ≤ nI 4) => absurd (by decide) w)
          | succ j ih =>
            intro k u g hk hu hg
            refine hJ _ _ _ _ ?_
            refine And.intro (fun (w : (4 : Int32) ≤ nI k) => absurd w (nI_ge (b := 4) (by omega) (by decide))) (fun _ => ?_)
            refine And.intro (vp_in_nI (show k < 5 by omega) (by decide)) ?_
            have key : ∀ (i : Nat) (y : Int32), i = k → y = nI (k + 1) → J 57 [some (.ref 27), some (.int 1), some (.int y)] [] (cW s (rW (clU (tyR r3 0) u (upd g i (-1))) tl), b0, b1, op) := by
              rintro i y rfl rfl
              refine ih (i + 1) u _ (by omega) hu (fun a ha => ?_)
              unfold upd
              split
              · rfl
              · exact hg a (by omega)
            exact key _ _ (nI_clamp (by omega)) (nI_succ k).symm
        have loop1 : ∀ (j k : Nat) (u : Nat → Int32), j + k = 250 → (∀ i, i < k → u i = 0) → J 45 [some (.ref 27), some (.int 1), some (.int (nI k))] [] (cW s (rW (clU (tyR r3 0) u r3.reg) tl), b0, b1, op) := by
          intro j
          induction j with
          | zero =>
            intro k u hk hu
            obtain rfl : k = 250 := by omega
            refine hJ _ _ _ _ ?_
            refine And.intro (fun _ => loop2 4 0 u r3.reg (by omega) hu (fun i hi => absurd hi (Nat.not_lt_zero i))) (fun (w : ¬ (250 : Int32) ≤ nI 250) => absurd (by decide) w)
          | succ j ih =>
            intro k u hk hu
            refine hJ _ _ _ _ ?_
            refine And.intro (fun (w : (250 : Int32) ≤ nI k) => absurd w (nI_ge (b := 250) (by omega) (by decide))) (fun _ => ?_)
            refine And.intro (vp_in_nI (show k < 250 by omega) (by decide)) ?_
            have key : ∀ (i : Nat) (y v : Int32), i = k → y = nI (k + 1) → v = 0 → J 45 [some (.ref 27), some (.int 1), some (.int y)] [] (cW s (rW (clU (tyR r3 0) (upd u i v) r3.reg) tl), b0, b1, op) := by
              rintro i y v rfl rfl rfl
              refine ih (i + 1) _ (by omega) (fun a ha => ?_)
              unfold upd
              split
              · rfl
              · exact hu a (by omega)
            exact key _ _ _ (nI_clamp (by omega)) (nI_succ k).symm (by decide)
        exact loop1 250 0 r3.used (by omega) (fun i hi => absurd hi (Nat.not_lt_zero i))
    · refine And.intro (fun (g : nI a < 0) => absurd g (nI_pos (by omega))) (fun _ => ?_)
      refine And.intro (fun _ => ?_) (fun (g : (1 : Int32) = 0) => absurd g (by decide))
      refine And.intro (fun (g : (1 : Int32) ≤ 0) => absurd g (by decide)) (fun _ => ?_)
      exact err (pdR r1 len 0) (nI a) 1 k1
end YP
