def mj_okM (G : mj_G) (T : mj_T) : Prop := ∀ y code nL os hxl, T y = some (code, nL, os, hxl) → nL = mj_ml G y ∧ mj_off os 0 = 0 ∧ plainFor (mj_mn G y) = true ∧ mj_okH G (mj_mn G y).cls (mj_mb G y) nL (mj_off os) hxl (mj_mh G y) ∧ ∀ pc b i, mj_nth code pc = some (b, i) → mj_OK G (mj_mn G y).cls (mj_mb G y) nL (mj_off os) (mj_mr G y) (decide ((mj_mn G y).name = "<init>")) hxl.isEmpty pc i
def mj_okI (G : mj_G) (own : String) (cc : ByteArray) (nL : Nat) (off : Nat → Nat) (rt : Option FieldType) (ini nh : Bool) : Nat → mj_C → Prop
  | _, [] => True
  | k, (_, i) :: r => mj_OK G own cc nL off rt ini nh k i ∧ mj_okI G own cc nL off rt ini nh (k + 1) r
theorem mj_okI_at {G : mj_G} {own : String} {cc : ByteArray} {nL : Nat} {off : Nat → Nat} {rt : Option FieldType} {ini nh : Bool} {code : mj_C} {k : Nat} (h : mj_okI G own cc nL off rt ini nh k code) : ∀ pc b i, mj_nth code pc = some (b, i) → mj_OK G own cc nL off rt ini nh (k + pc) i := by
  induction code generalizing k with
  | nil => intro pc b i hi; cases pc <;> cases hi
  | cons a r ih =>
    obtain ⟨b0, i0⟩ := a
    intro pc b i hi
    cases pc with
    | zero => cases hi; exact h.1
    | succ pc =>
      have := ih h.2 pc b i hi
      rw [show k + 1 + pc = k + (pc + 1) by omega] at this
      exact this
def mj_okE (G : mj_G) (y : Nat) (x : mj_C × Nat × List Nat × mj_X) : Prop := x.2.1 = mj_ml G y ∧ mj_off x.2.2.1 0 = 0 ∧ plainFor (mj_mn G y) = true ∧ mj_okH G (mj_mn G y).cls (mj_mb G y) x.2.1 (mj_off x.2.2.1) x.2.2.2 (mj_mh G y) ∧ mj_okI G (mj_mn G y).cls (mj_mb G y) x.2.1 (mj_off x.2.2.1) (mj_mr G y) (decide ((mj_mn G y).name = "<init>")) x.2.2.2.isEmpty 0 x.1
def mj_okL (G : mj_G) : Nat → List (Option (mj_C × Nat × List Nat × mj_X)) → Prop
  | _, [] => True
  | k, none :: r => True ∧ mj_okL G (k + 1) r
  | k, some x :: r => mj_okE G k x ∧ mj_okL G (k + 1) r
theorem mj_okL_at {G : mj_G} {L : List (Option (mj_C × Nat × List Nat × mj_X))} {k : Nat} (h : mj_okL G k L) : ∀ y x, mj_nth L y = some (some x) → mj_okE G (k + y) x := by
  induction L generalizing k with
  | nil => intro y x hy; cases y <;> cases hy
  | cons a r ih =>
    intro y x hy
    have h2 : mj_okL G (k + 1) r := by cases a <;> exact h.2
    cases y with
    | zero => cases hy; exact h.1
    | succ y =>
      have := ih h2 y x hy
      rw [show k + 1 + y = k + (y + 1) by omega] at this
      exact this
theorem mj_okM_of {G : mj_G} {L : List (Option (mj_C × Nat × List Nat × mj_X))} (h : mj_okL G 0 L) : mj_okM G (fun y => (mj_nth L y).getD none) := by
  intro y code nL os hxl hy
  have hy : (mj_nth L y).getD none = some (code, nL, os, hxl) := hy
  have h1 : mj_nth L y = some (some (code, nL, os, hxl)) := by
    cases e : mj_nth L y with
    | none => rw [e] at hy; cases hy
    | some w => rw [e] at hy; cases w with
      | none => cases hy
      | some v => exact congrArg some hy
  obtain ⟨g1, g2, g3, g4, g5⟩ := mj_okL_at h y _ h1
  rw [Nat.zero_add] at g1 g3 g4 g5
  refine ⟨g1, g2, g3, g4, fun pc b i hi => ?_⟩
  have := mj_okI_at g5 pc b i hi
  rw [Nat.zero_add] at this
  exact this
theorem mj_wt_sl (vs : List Value) : (lg_sl vs).length = mj_wt vs := by
  unfold mj_wt
  induction vs with
  | nil => rfl
  | cons v vs ih =>
    rw [List.map_cons, List.sum_cons, ← ih]
    cases v <;> simp [lg_sl, Value.category] <;> omega
theorem mj_okH_nil {G : mj_G} {own : String} {cc : ByteArray} {nL : Nat} {off : Nat → Nat} {L : List (Nat × Nat × Nat × Nat)} (h : mj_okH G own cc nL off [] L) : L = [] := by
  cases L with
  | nil => rfl
  | cons a L => exact h.elim
theorem mj_sound {l : Launch} {G : mj_G} {T : mj_T} {D : va_G} {tys : List (ClassId × FieldType)} {bi : Nat} {cst : Nat → Option (Nat × (Nat → Int32))} (hT : mj_okM G T) (hgood : ∀ w ∈ mj_TS G, mj_gw w = true) (hty : mj_ty5 tys) (had : mj_c9 bi cst (mj_nc G)) (htr : ∀ e, l.admits e → e.platform.stackTraces = false) :
    ∀ (n : Nat) (ad : Nat → Nat) (z : Nat → Prop) (y : Nat) (as : List Value) (h : mj_H) (Q : mj_R → Prop), mj_Mt T cst (mj_nw G) n y as h Q → MetFree l (mj_mn G y) (headSpec (mj_cw G y :: mj_TS G) (mj_rm n h)) (mj_Pc D (mj_cl G) tys ad bi z cst (mj_nc G) as h) (fun _ _ _ _ _ => True) (fun _ => mj_Qc D (mj_cl G) tys ad bi z (mj_xn G) h.2.1 h.2.2.1 Q) := by
  intro n
  induction n with
  | zero => intro ad z y as h Q hM; exact False.elim hM
  | succ n ih =>
    intro ad z y as h Q hM
    simp only [mj_Mt] at hM
    split at hM
    · exact hM.elim
    · next code nL os hxl hTy =>
      split at hM
      · next hw =>
        have hw := Nat.le_of_ble_eq_true hw
        obtain ⟨g1, g2, g3, g5, g6⟩ := hT y code nL os hxl hTy
        refine MetFree.of_bodySF (code := mj_mb G y) (maxLocals := mj_ml G y) (ret := mj_mr G y) g3 ?_ ?_
        · intro args s m hp hn
          have h9 := atoms_spec (ws := mj_cw G y :: mj_TS G) hp _ List.mem_cons_self
          rcases mj_cd_or h9 with h9 | h9
          · obtain ⟨meth, c, h1, h2, h3, h4, h5, h6, -, -⟩ := Cond.code_spec hn h9
            exact ⟨meth, c, h1, h2, h3, h4, h5, h6⟩
          · obtain ⟨m9, meth, c, hn9, h1, h2, h3, h4, -, h5, h6, -⟩ := Cond.codeWith_spec h9
            cases hn.symm.trans hn9
            exact ⟨meth, c, h1, h2, h3, h4, h5, h6⟩
        · intro p e s m args below meth c s₁ B hml hP _
          obtain ⟨rfl, hrep, hK, hSt⟩ := hP
          have hts := atoms_spec (ws := mj_cw G y :: mj_TS G) B.pre
          have hexc : c.exceptionTable.toList.map mj_ent = mj_mh G y := by
            have h9 := hts _ List.mem_cons_self
            have hc : meth.code = some c := (Stand.of_body B).code
            unfold mj_cw mj_cd at h9
            split at h9
            · next hh =>
              have := B.noHandlers h9
              rw [hh]
              have e : c.exceptionTable = #[] := by simpa using this
              rw [e]
              rfl
            · obtain ⟨m9, meth9, c9, hn9, h1, h2, -, -, h3, -⟩ := Cond.codeWith_spec h9
              cases B.named.symm.trans hn9
              cases B.method.symm.trans h1
              cases hc.symm.trans h2
              exact h3
          have hh0 : s₁.heap = s.heap := by rw [B.state]; rfl
          have Cx : mj_Cx p l e (headSpec (mj_cw G y :: mj_TS G) (mj_rm (n + 1) h)).room s m (as.map (mj_tr ad)).toArray below meth c G D tys ad bi z nL (mj_Z below s (mj_Qc D (mj_cl G) tys ad bi z (mj_xn G) h.2.1 h.2.2.1 Q s)) h.2.1 h.2.2.1 (mj_mb G y) cst (mj_mn G y).cls (mj_mr G y) (decide ((mj_mn G y).name = "<init>")) hxl.isEmpty n Q := by
            refine ⟨B.exec, B.bytes, by rw [g1]; exact hml, findClass_of_methodNamed B.named, fun w hw => hts w (List.mem_cons_of_mem _ hw), hgood, hK, hSt, ⟨rfl, rfl⟩, rfl, rfl, B.notSynchronized, B.returns, fun h9 => ?_, fun h9 => ?_, htr e, hty, had, rfl⟩
            · rw [(name_of_methodNamed B.named B.method).1]
              exact of_decide_eq_true h9
            · have : hxl = [] := by simpa using h9
              subst this
              have h8 := mj_okH_nil g5
              rw [h8] at hexc
              simpa using hexc
          have key := hM (mj_J p l e (headSpec (mj_cw G y :: mj_TS G) (mj_rm (n + 1) h)).room s m (as.map (mj_tr ad)).toArray below meth c D (mj_cl G) tys ad bi z nL (mj_off os) (mj_Z below s (mj_Qc D (mj_cl G) tys ad bi z (mj_xn G) h.2.1 h.2.2.1 Q s)) h.2.1 h.2.2.1)
            (fun pc ls st h9 hs => mj_sg_ok Cx (by rw [hexc]; exact g5) (fun h9 => by simpa using h9) (fun ad2 z2 y as h Qp hq => ih ad2 z2 y as h Qp hq) (fun pc b i hi => g6 pc b i hi) (fun _ _ _ _ hJ => hJ) 400 true pc ls st h9 hs)
          have hle : (lg_sl (as.map (mj_tr ad))).length ≤ nL := by rw [mj_wt_sl, mj_wt_tr]; exact hw
          have hl := lv_entry (as.map (mj_tr ad)) (n := nL) hle
          rw [← mj_lv_lay ad as 0 nL] at hl
          have hW := key s.heap [] 0 0 _ hl hrep va_S.rf (by omega) (by omega)
          rw [g2] at hW
          obtain ⟨t, a1, o, b1, b2, b3⟩ := hW s₁ hh0 (Stand.of_body B)
          refine ⟨t, o, ?_, b1, b2, b3⟩
          rw [← g1, lg_entry_eq]
          exact a1
      · exact hM.elim
