section
section MJB2
variable {p : Program} {l : Launch} {e : Env} {R : Room} {s : State} {m : MethodId} {args : Array Value} {below : List Frame} {meth : Method} {c : Code}
variable {G : mj_G} {D : va_G} {tys : List (ClassId × FieldType)} {ad : Nat → Nat} {bi : Nat} {z : Nat → Prop} {nL : Nat} {off : Nat → Nat} {QQ : State → Prop} {b0 b1 : Nat} {cc : ByteArray} {pc : Nat} {ls : mj_L} {st r : List Value} {h : mj_H}
variable {cst : Nat → Option (Nat × (Nat → Int32))} {own : String} {rt : Option FieldType} {ini nh : Bool} {n : Nat} {Q : mj_R → Prop} {hd : Nat → Nat → Option (Option (Nat × Nat))} {k : Nat → mj_L → List Value → mj_H → Prop} {call : Nat → List Value → mj_H → (mj_R → Prop) → Prop}
theorem mj_putv {kk : mj_O → Prop} {ci j t : Nat} {fs : List Value} {ty : FieldType} {v : Value} (ad : Nat → Nat) (h : mj_put kk ci fs j t v) (ht : mj_okT t ty) : kk (.inr (.inl (ci, mj_stn fs j v))) ∧ narrow ty (mj_tr ad v) = mj_tr ad v ∧ fits ty (mj_tr ad v) = true := by
  unfold mj_put at h
  split at h
  · have ht : ty = .int := ht
    subst ht
    exact ⟨h, rfl, rfl⟩
  · have ht : ty = .long := ht
    subst ht
    exact ⟨h, rfl, rfl⟩
  · rcases ht with ⟨n, rfl⟩ | ⟨a, rfl⟩
    · exact ⟨h, rfl, rfl⟩
    · exact ⟨h, rfl, rfl⟩
  · rcases ht with rfl | rfl
    · rcases h.1 with rfl | rfl
      · exact ⟨h.2, rfl, rfl⟩
      · exact ⟨h.2, rfl, rfl⟩
    · rcases h.1 with rfl | rfl
      · exact ⟨h.2, rfl, rfl⟩
      · exact ⟨h.2, rfl, rfl⟩
  · exact h.elim
theorem mj_st_putfield (Cx : mj_Cx p l e R s m args below meth c G D tys ad bi z nL QQ b0 b1 cc cst own rt ini nh n Q) (hk : ∀ pc ls st h, k pc ls st h → mj_J p l e R s m args below meth c D (mj_cl G) tys ad bi z nL off QQ b0 b1 pc ls st h) {f : Nat} (hok : mj_OK G own cc nL off rt ini nh pc (.putfield f)) (hs : mj_stp call cst (mj_nw G) hd Q k (.putfield f) pc ls st h) : mj_J p l e R s m args below meth c D (mj_cl G) tys ad bi z nL off QQ b0 b1 pc ls st h := by
  obtain ⟨hx, hb, hml, hown, hts, hgood, hK, hSt, hR, hRf, hRl, hlocks, hrt, hini, hnh, htr, hty, had, hQQ⟩ := Cx
  obtain ⟨j, C, T, N, hd, ho, ⟨g1, g2, g3, g4⟩, g5, g6, g7, g8⟩ := hok
  simp only [mj_stp] at hs
  split at hs
  · next v a r =>
    split at hs
    · next ci fs ha =>
      split at hs
      · next hc hlen =>
        have hc : ci = f / 256 := Nat.eq_of_beq_eq_true hc
        have hlen : f / 4 % 64 < fs.length := Nat.le_of_ble_eq_true hlen
        subst hc
        obtain ⟨q1, q2, q3⟩ := mj_putv ad hs g7
        rcases g8 with g8 | ⟨g8, g9, g10⟩
        · exact mj_so_put hx hb hown hts hK (mj_tf G (f / 256)) g3 g4 ha g1 g5 g6 g2 g8 q2 q3 hlen hd ho (hk _ _ _ _ q1)
        · exact mj_so_putF hx hb hown hts hK (mj_tf G (f / 256)) g3 g4 ha g1 g5 g6 g2 g8 (hini g9) g10 q2 q3 hlen hd ho (hk _ _ _ _ q1)
      · exact hs.elim
    · exact hs.elim
  · exact hs.elim
theorem mj_st_new (Cx : mj_Cx p l e R s m args below meth c G D tys ad bi z nL QQ b0 b1 cc cst own rt ini nh n Q) (hk : ∀ pc ls st h, k pc ls st h → mj_J p l e R s m args below meth c D (mj_cl G) tys ad bi z nL off QQ b0 b1 pc ls st h) {w : Nat} (hok : mj_OK G own cc nL off rt ini nh pc (.new w)) (hs : mj_stp call cst (mj_nw G) hd Q k (.new w) pc ls st h) : mj_J p l e R s m args below meth c D (mj_cl G) tys ad bi z nL off QQ b0 b1 pc ls st h := by
  obtain ⟨hx, hb, hml, hown, hts, hgood, hK, hSt, hR, hRf, hRl, hlocks, hrt, hini, hnh, htr, hty, had, hQQ⟩ := Cx
  obtain ⟨j, C, T, N, fs, hd, ho, ⟨g1, g2, g3, g4⟩, g5, g6, g7, g8, g9, g10⟩ := hok
  simp only [mj_stp, g5] at hs
  split at hs
  · next fs' os bc bs e1 =>
    cases e1
    obtain ⟨q1, q2, q3⟩ := hs
    refine mj_so_new hx hb trivial hown hts hK hR (mj_tf G w) g3 g1 g8 g9 g10 g2 (fun k hk => ?_) g6 q1 q2 hd ho (hk _ _ _ _ q3)
    have e2 := g7 k hk
    unfold vp_V
    rw [List.getD_eq_getElem?_getD, List.getElem?_map, e2]
    cases mj_tf G w k <;> rfl
  · exact hs.elim
theorem mj_st_newarray (Cx : mj_Cx p l e R s m args below meth c G D tys ad bi z nL QQ b0 b1 cc cst own rt ini nh n Q) (hk : ∀ pc ls st h, k pc ls st h → mj_J p l e R s m args below meth c D (mj_cl G) tys ad bi z nL off QQ b0 b1 pc ls st h) {t : ArrayType} (hok : mj_OK G own cc nL off rt ini nh pc (.newarray t)) (hs : mj_stp call cst (mj_nw G) hd Q k (.newarray t) pc ls st h) : mj_J p l e R s m args below meth c D (mj_cl G) tys ad bi z nL off QQ b0 b1 pc ls st h := by
  obtain ⟨hx, hb, hml, hown, hts, hgood, hK, hSt, hR, hRf, hRl, hlocks, hrt, hini, hnh, htr, hty, had, hQQ⟩ := Cx
  obtain ⟨c0, c1, c2, c3, c4, hty⟩ := hty
  subst hty
  obtain ⟨hd, ho, g1⟩ := hok
  simp only [mj_stp] at hs
  split at hs
  · next g w r os bc bs e1 =>
    split at hs
    · next a e2 =>
      obtain ⟨q1, q2, q3, q4, q5⟩ := hs
      cases t <;> simp only [mj_tag, Option.some.injEq, reduceCtorEq] at e1 <;> subst e1 <;> simp only [mj_fresh, Option.some.injEq] at e2 <;> subst e2
      · exact mj_so_newa (cA := c3) (ty := .boolean) (t := 3) hx hb trivial hK hR hts rfl g1 rfl rfl (fun cA => rfl) q2 q4 (by decide) q1 q3 hd ho (hk _ _ _ _ q5)
      · exact mj_so_newa (cA := c2) (ty := .char) (t := 2) hx hb trivial hK hR hts rfl g1 rfl rfl (fun cA => rfl) q2 q4 (by decide) q1 q3 hd ho (hk _ _ _ _ q5)
      · exact mj_so_newa (cA := c4) (ty := .byte) (t := 4) hx hb trivial hK hR hts rfl g1 rfl rfl (fun cA => rfl) q2 q4 (by decide) q1 q3 hd ho (hk _ _ _ _ q5)
      · exact mj_so_newa (cA := c0) (ty := .int) (t := 0) hx hb trivial hK hR hts rfl g1 rfl rfl (fun cA => rfl) q2 q4 (by decide) q1 q3 hd ho (hk _ _ _ _ q5)
      · exact mj_so_newa (cA := c1) (ty := .long) (t := 1) hx hb trivial hK hR hts rfl g1 rfl rfl (fun cA => rfl) q2 q4 (by decide) q1 q3 hd ho (hk _ _ _ _ q5)
    · exact hs.elim
  · exact hs.elim
theorem mj_st_iaload (Cx : mj_Cx p l e R s m args below meth c G D tys ad bi z nL QQ b0 b1 cc cst own rt ini nh n Q) (hk : ∀ pc ls st h, k pc ls st h → mj_J p l e R s m args below meth c D (mj_cl G) tys ad bi z nL off QQ b0 b1 pc ls st h) (hok : mj_OK G own cc nL off rt ini nh pc (.iaload)) (hs : mj_stp call cst (mj_nw G) hd Q k (.iaload) pc ls st h) : mj_J p l e R s m args below meth c D (mj_cl G) tys ad bi z nL off QQ b0 b1 pc ls st h := by
  obtain ⟨hx, hb, hml, hown, hts, hgood, hK, hSt, hR, hRf, hRl, hlocks, hrt, hini, hnh, htr, hty, had, hQQ⟩ := Cx
  obtain ⟨c0, c1, c2, c3, c4, hty⟩ := hty
  subst hty
  simp only [mj_stp] at hs
  split at hs
  · split at hs
    · split at hs
      · next e1 e2 =>
        exact mj_so_cald0 hx hb ((hSt.1 _ _ _ e1).1 (Nat.le_of_ble_eq_true e2)) hs.1 hok.1 hok.2 (hk _ _ _ _ hs.2)
      · exact hs.elim
    · split at hs
      · next ha => exact mj_so_iald hx hb hK rfl ha hs.1 hok.1 hok.2 (hk _ _ _ _ hs.2)
      · exact hs.elim
  · exact hs.elim
theorem mj_st_laload (Cx : mj_Cx p l e R s m args below meth c G D tys ad bi z nL QQ b0 b1 cc cst own rt ini nh n Q) (hk : ∀ pc ls st h, k pc ls st h → mj_J p l e R s m args below meth c D (mj_cl G) tys ad bi z nL off QQ b0 b1 pc ls st h) (hok : mj_OK G own cc nL off rt ini nh pc (.laload)) (hs : mj_stp call cst (mj_nw G) hd Q k (.laload) pc ls st h) : mj_J p l e R s m args below meth c D (mj_cl G) tys ad bi z nL off QQ b0 b1 pc ls st h := by
  obtain ⟨hx, hb, hml, hown, hts, hgood, hK, hSt, hR, hRf, hRl, hlocks, hrt, hini, hnh, htr, hty, had, hQQ⟩ := Cx
  obtain ⟨c0, c1, c2, c3, c4, hty⟩ := hty
  subst hty
  simp only [mj_stp] at hs
  split at hs
  · split at hs
    · next ha => exact mj_so_lald hx hb hK rfl ha hs.1 hok.1 hok.2 (hk _ _ _ _ hs.2)
    · exact hs.elim
  · exact hs.elim
theorem mj_st_caload (Cx : mj_Cx p l e R s m args below meth c G D tys ad bi z nL QQ b0 b1 cc cst own rt ini nh n Q) (hk : ∀ pc ls st h, k pc ls st h → mj_J p l e R s m args below meth c D (mj_cl G) tys ad bi z nL off QQ b0 b1 pc ls st h) (hok : mj_OK G own cc nL off rt ini nh pc (.caload)) (hs : mj_stp call cst (mj_nw G) hd Q k (.caload) pc ls st h) : mj_J p l e R s m args below meth c D (mj_cl G) tys ad bi z nL off QQ b0 b1 pc ls st h := by
  obtain ⟨hx, hb, hml, hown, hts, hgood, hK, hSt, hR, hRf, hRl, hlocks, hrt, hini, hnh, htr, hty, had, hQQ⟩ := Cx
  obtain ⟨c0, c1, c2, c3, c4, hty⟩ := hty
  subst hty
  simp only [mj_stp] at hs
  split at hs
  · split at hs
    · next ha => exact mj_so_cald hx hb hK rfl ha hs.1 hok.1 hok.2 (hk _ _ _ _ hs.2)
    · exact hs.elim
  · exact hs.elim
theorem mj_st_baload (Cx : mj_Cx p l e R s m args below meth c G D tys ad bi z nL QQ b0 b1 cc cst own rt ini nh n Q) (hk : ∀ pc ls st h, k pc ls st h → mj_J p l e R s m args below meth c D (mj_cl G) tys ad bi z nL off QQ b0 b1 pc ls st h) (hok : mj_OK G own cc nL off rt ini nh pc (.baload)) (hs : mj_stp call cst (mj_nw G) hd Q k (.baload) pc ls st h) : mj_J p l e R s m args below meth c D (mj_cl G) tys ad bi z nL off QQ b0 b1 pc ls st h := by
  obtain ⟨hx, hb, hml, hown, hts, hgood, hK, hSt, hR, hRf, hRl, hlocks, hrt, hini, hnh, htr, hty, had, hQQ⟩ := Cx
  obtain ⟨c0, c1, c2, c3, c4, hty⟩ := hty
  subst hty
  simp only [mj_stp] at hs
  split at hs
  · split at hs
    · split at hs
      · next e1 e2 e3 =>
        exact mj_so_cbld hx hb ((hSt.1 _ _ _ e1).2.1 (Nat.le_of_ble_eq_true e2) (Nat.le_of_ble_eq_true e3)) hs.1 hok.1 hok.2 (hk _ _ _ _ hs.2)
      · exact hs.elim
    · split at hs
      · next ha => exact mj_so_zald hx hb hK rfl ha hs.1 hok.1 hok.2 (hk _ _ _ _ hs.2)
      · next ha => exact mj_so_bald hx hb hK rfl ha hs.1 hok.1 hok.2 (hk _ _ _ _ hs.2)
      · exact hs.elim
  · exact hs.elim
theorem mj_st_iastore (Cx : mj_Cx p l e R s m args below meth c G D tys ad bi z nL QQ b0 b1 cc cst own rt ini nh n Q) (hk : ∀ pc ls st h, k pc ls st h → mj_J p l e R s m args below meth c D (mj_cl G) tys ad bi z nL off QQ b0 b1 pc ls st h) (hok : mj_OK G own cc nL off rt ini nh pc (.iastore)) (hs : mj_stp call cst (mj_nw G) hd Q k (.iastore) pc ls st h) : mj_J p l e R s m args below meth c D (mj_cl G) tys ad bi z nL off QQ b0 b1 pc ls st h := by
  obtain ⟨hx, hb, hml, hown, hts, hgood, hK, hSt, hR, hRf, hRl, hlocks, hrt, hini, hnh, htr, hty, had, hQQ⟩ := Cx
  obtain ⟨c0, c1, c2, c3, c4, hty⟩ := hty
  subst hty
  simp only [mj_stp] at hs
  split at hs
  · split at hs
    · next ha => exact mj_so_iast hx hb hK rfl ha hs.1 hok.1 hok.2 (hk _ _ _ _ hs.2)
    · exact hs.elim
  · exact hs.elim
theorem mj_st_lastore (Cx : mj_Cx p l e R s m args below meth c G D tys ad bi z nL QQ b0 b1 cc cst own rt ini nh n Q) (hk : ∀ pc ls st h, k pc ls st h → mj_J p l e R s m args below meth c D (mj_cl G) tys ad bi z nL off QQ b0 b1 pc ls st h) (hok : mj_OK G own cc nL off rt ini nh pc (.lastore)) (hs : mj_stp call cst (mj_nw G) hd Q k (.lastore) pc ls st h) : mj_J p l e R s m args below meth c D (mj_cl G) tys ad bi z nL off QQ b0 b1 pc ls st h := by
  obtain ⟨hx, hb, hml, hown, hts, hgood, hK, hSt, hR, hRf, hRl, hlocks, hrt, hini, hnh, htr, hty, had, hQQ⟩ := Cx
  obtain ⟨c0, c1, c2, c3, c4, hty⟩ := hty
  subst hty
  simp only [mj_stp] at hs
  split at hs
  · split at hs
    · next ha => exact mj_so_last hx hb hK rfl ha hs.1 hok.1 hok.2 (hk _ _ _ _ hs.2)
    · exact hs.elim
  · exact hs.elim
theorem mj_st_castore (Cx : mj_Cx p l e R s m args below meth c G D tys ad bi z nL QQ b0 b1 cc cst own rt ini nh n Q) (hk : ∀ pc ls st h, k pc ls st h → mj_J p l e R s m args below meth c D (mj_cl G) tys ad bi z nL off QQ b0 b1 pc ls st h) (hok : mj_OK G own cc nL off rt ini nh pc (.castore)) (hs : mj_stp call cst (mj_nw G) hd Q k (.castore) pc ls st h) : mj_J p l e R s m args below meth c D (mj_cl G) tys ad bi z nL off QQ b0 b1 pc ls st h := by
  obtain ⟨hx, hb, hml, hown, hts, hgood, hK, hSt, hR, hRf, hRl, hlocks, hrt, hini, hnh, htr, hty, had, hQQ⟩ := Cx
  obtain ⟨c0, c1, c2, c3, c4, hty⟩ := hty
  subst hty
  simp only [mj_stp] at hs
  split at hs
  · split at hs
    · next ha => exact mj_so_cast hx hb hK rfl ha hs.1 hok.1 hok.2 (hk _ _ _ _ hs.2)
    · exact hs.elim
  · exact hs.elim
theorem mj_st_bastore (Cx : mj_Cx p l e R s m args below meth c G D tys ad bi z nL QQ b0 b1 cc cst own rt ini nh n Q) (hk : ∀ pc ls st h, k pc ls st h → mj_J p l e R s m args below meth c D (mj_cl G) tys ad bi z nL off QQ b0 b1 pc ls st h) (hok : mj_OK G own cc nL off rt ini nh pc (.bastore)) (hs : mj_stp call cst (mj_nw G) hd Q k (.bastore) pc ls st h) : mj_J p l e R s m args below meth c D (mj_cl G) tys ad bi z nL off QQ b0 b1 pc ls st h := by
  obtain ⟨hx, hb, hml, hown, hts, hgood, hK, hSt, hR, hRf, hRl, hlocks, hrt, hini, hnh, htr, hty, had, hQQ⟩ := Cx
  obtain ⟨c0, c1, c2, c3, c4, hty⟩ := hty
  subst hty
  simp only [mj_stp] at hs
  split at hs
  · split at hs
    · next ha => exact mj_so_zast hx hb hK rfl ha hs.1 hok.1 hok.2 (hk _ _ _ _ hs.2)
    · next ha => exact mj_so_bast hx hb hK rfl ha hs.1 hok.1 hok.2 (hk _ _ _ _ hs.2)
    · exact hs.elim
  · exact hs.elim
theorem mj_st_monitorenter (Cx : mj_Cx p l e R s m args below meth c G D tys ad bi z nL QQ b0 b1 cc cst own rt ini nh n Q) (hk : ∀ pc ls st h, k pc ls st h → mj_J p l e R s m args below meth c D (mj_cl G) tys ad bi z nL off QQ b0 b1 pc ls st h) (hok : mj_OK G own cc nL off rt ini nh pc (.monitorenter)) (hs : mj_stp call cst (mj_nw G) hd Q k (.monitorenter) pc ls st h) : mj_J p l e R s m args below meth c D (mj_cl G) tys ad bi z nL off QQ b0 b1 pc ls st h := by
  obtain ⟨hx, hb, hml, hown, hts, hgood, hK, hSt, hR, hRf, hRl, hlocks, hrt, hini, hnh, htr, hty, had, hQQ⟩ := Cx
  obtain ⟨j, hd, ho, g1, g2, g3⟩ := hok
  simp only [mj_stp] at hs
  split at hs
  · split at hs
    · next hw =>
      have hw := Nat.le_of_ble_eq_true hw
      exact mj_so_obj hx hb hown hts hml g1 g2 g3 (by omega) (by omega) hd ho (hk _ _ _ _ hs)
    · exact hs.elim
  · exact hs.elim
theorem mj_st_math (Cx : mj_Cx p l e R s m args below meth c G D tys ad bi z nL QQ b0 b1 cc cst own rt ini nh n Q) (hk : ∀ pc ls st h, k pc ls st h → mj_J p l e R s m args below meth c D (mj_cl G) tys ad bi z nL off QQ b0 b1 pc ls st h) {w : Nat} (hok : mj_OK G own cc nL off rt ini nh pc (.invokedynamic w)) (hs : mj_stp call cst (mj_nw G) hd Q k (.invokedynamic w) pc ls st h) : mj_J p l e R s m args below meth c D (mj_cl G) tys ad bi z nL off QQ b0 b1 pc ls st h := by
  obtain ⟨hx, hb, hml, hown, hts, hgood, hK, hSt, hR, hRf, hRl, hlocks, hrt, hini, hnh, htr, hty, had, hQQ⟩ := Cx
  obtain ⟨j, hd, ho, g1, g2⟩ := hok
  simp only [mj_stp] at hs
  split at hs
  · split at hs
    · next hw =>
      have hw := Nat.le_of_ble_eq_true hw
      exact mj_so_max hx hb hml hown hts hR g2.1 g2.2.1 g1 g2.2.2 (by omega) (by omega) hd ho (hk _ _ _ _ hs)
    · exact hs.elim
  · split at hs
    · next hw =>
      have hw := Nat.le_of_ble_eq_true hw
      exact mj_so_min hx hb hml hown hts hR g2.1 g2.2.1 g1 g2.2.2 (by omega) (by omega) hd ho (hk _ _ _ _ hs)
    · exact hs.elim
  · exact hs.elim
theorem mj_st_arraylength (Cx : mj_Cx p l e R s m args below meth c G D tys ad bi z nL QQ b0 b1 cc cst own rt ini nh n Q) (hk : ∀ pc ls st h, k pc ls st h → mj_J p l e R s m args below meth c D (mj_cl G) tys ad bi z nL off QQ b0 b1 pc ls st h) (hok : mj_OK G own cc nL off rt ini nh pc (.arraylength)) (hs : mj_stp call cst (mj_nw G) hd Q k (.arraylength) pc ls st h) : mj_J p l e R s m args below meth c D (mj_cl G) tys ad bi z nL off QQ b0 b1 pc ls st h := by
  obtain ⟨hx, hb, hml, hown, hts, hgood, hK, hSt, hR, hRf, hRl, hlocks, hrt, hini, hnh, htr, hty, had, hQQ⟩ := Cx
  obtain ⟨c0, c1, c2, c3, c4, hty⟩ := hty
  subst hty
  simp only [mj_stp] at hs
  split at hs
  · split at hs
    · split at hs
      · next e1 e2 =>
        obtain ⟨ty, hT⟩ := (hSt.1 _ _ _ e1).row (Nat.le_of_ble_eq_true e2)
        exact mj_so_clen0 hx hb hT hok.1 hok.2 (hk _ _ _ _ hs)
      · exact hs.elim
    · split at hs
      · next t w y ha =>
        split at hs
        · next ht =>
          have ht : t < 5 := Nat.le_of_ble_eq_true ht
          obtain ⟨x, hx5⟩ : ∃ x, ([(c0, FieldType.int), (c1, .long), (c2, .char), (c3, .boolean), (c4, .byte)] : List (ClassId × FieldType))[t]? = some x := ⟨_, List.getElem?_eq_getElem ht⟩
          exact mj_so_alen hx hb hK (cA := x.1) (ty := x.2) hx5 ha hok.1 hok.2 (hk _ _ _ _ hs)
        · exact hs.elim
      · exact hs.elim
  · exact hs.elim
theorem mj_st_throw (Cx : mj_Cx p l e R s m args below meth c G D tys ad bi z nL QQ b0 b1 cc cst own rt ini nh n Q) (hk : ∀ pc ls st h, k pc ls st h → mj_J p l e R s m args below meth c D (mj_cl G) tys ad bi z nL off QQ b0 b1 pc ls st h) {q : Nat} (hnd : nh = true → ∀ pc q, hd pc q = some none) (hok : mj_OK G own cc nL off rt ini nh pc (.checkcast q)) (hs : mj_stp call cst (mj_nw G) hd Q k (.checkcast q) pc ls st h) : mj_J p l e R s m args below meth c D (mj_cl G) tys ad bi z nL off QQ b0 b1 pc ls st h := by
  obtain ⟨hx, hb, hml, hown, hts, hgood, hK, hSt, hR, hRf, hRl, hlocks, hrt, hini, hnh, htr, hty, had, hQQ⟩ := Cx
  obtain ⟨g0, ia, ib, ic, tx, g1, g2, g3, g4, g5, g6, g7, g8, g9, g10, g11, g12, g13⟩ := hok
  simp only [mj_stp] at hs
  split at hs
  · next hw =>
    have hw := Nat.le_of_ble_eq_true hw
    obtain ⟨q1, q2⟩ := hs
    unfold mj_thr at q2
    rw [hnd g0] at q2
    exact mj_so_throw hx hb hml hown hlocks htr hts hSt hR (by omega) (by omega) hQQ g6 g7 g8 g9 g10 g11 g12 g13 hw q1 g1 g2 g3 g4 g5 (fun x hx9 => by rw [hnh g0] at hx9; cases hx9) q2
  · exact hs.elim
theorem mj_st_copy (Cx : mj_Cx p l e R s m args below meth c G D tys ad bi z nL QQ b0 b1 cc cst own rt ini nh n Q) (hk : ∀ pc ls st h, k pc ls st h → mj_J p l e R s m args below meth c D (mj_cl G) tys ad bi z nL off QQ b0 b1 pc ls st h) {w : Nat} (hok : mj_OK G own cc nL off rt ini nh pc (.invokestatic w)) (hs : mj_stp call cst (mj_nw G) hd Q k (.invokestatic w) pc ls st h) : mj_J p l e R s m args below meth c D (mj_cl G) tys ad bi z nL off QQ b0 b1 pc ls st h := by
  obtain ⟨hx, hb, hml, hown, hts, hgood, hK, hSt, hR, hRf, hRl, hlocks, hrt, hini, hnh, htr, hty, had, hQQ⟩ := Cx
  obtain ⟨c0, c1, c2, c3, c4, hty⟩ := hty
  subst hty
  obtain ⟨j, hd, ho, g1, g2, g3, g4⟩ := hok
  simp only [mj_stp] at hs
  split at hs
  · next n dp a sp a0 r =>
    split at hs
    · next n0 f n1 g hw ha0 ha =>
      have hw := Nat.le_of_ble_eq_true hw
      obtain ⟨q1, q2, q3, q4, q5, q6, q7⟩ := hs
      have e : nativeFrameWords "java/lang/System" "arraycopy" 5 ≤ 200 := by decide +kernel
      have hlo : mj_wt r + (nativeFrameWords "java/lang/System" "arraycopy" 5 + 11) ≤ R.locals := by rw [hRl]; omega
      have hfr : 1 ≤ R.frames := by rw [hRf]; omega
      exact mj_so_copy (cA := c4) hx hb hml hown hts hK g1 g2 g3 g4 rfl ha0 ha q1 q2 q3 q4 q5 q6 hfr hlo hd ho (hk _ _ _ _ q7)
    · exact hs.elim
  · exact hs.elim
theorem mj_st_ccopy (Cx : mj_Cx p l e R s m args below meth c G D tys ad bi z nL QQ b0 b1 cc cst own rt ini nh n Q) (hk : ∀ pc ls st h, k pc ls st h → mj_J p l e R s m args below meth c D (mj_cl G) tys ad bi z nL off QQ b0 b1 pc ls st h) {w : Nat} (hok : mj_OK G own cc nL off rt ini nh pc (.fload w)) (hs : mj_stp call cst (mj_nw G) hd Q k (.fload w) pc ls st h) : mj_J p l e R s m args below meth c D (mj_cl G) tys ad bi z nL off QQ b0 b1 pc ls st h := by
  obtain ⟨hx, hb, hml, hown, hts, hgood, hK, hSt, hR, hRf, hRl, hlocks, hrt, hini, hnh, htr, hty, had, hQQ⟩ := Cx
  obtain ⟨c0, c1, c2, c3, c4, hty⟩ := hty
  subst hty
  obtain ⟨j, hd, ho, g1, g2, g3, g4⟩ := hok
  simp only [mj_stp] at hs
  split at hs
  · next n dp a sp a0 r =>
    split at hs
    · next n0 f n1 g hw ha0 ha =>
      have hw := Nat.le_of_ble_eq_true hw
      obtain ⟨q8, q9, q1, q2, q3, q4, q5, q6, q7⟩ := hs
      have e : nativeFrameWords "java/lang/System" "arraycopy" 5 ≤ 200 := by decide +kernel
      have hlo : mj_wt r + (nativeFrameWords "java/lang/System" "arraycopy" 5 + 11) ≤ R.locals := by rw [hRl]; omega
      have hfr : 1 ≤ R.frames := by rw [hRf]; omega
      exact mj_so_ccopy (cA := c4) hx hb hml hown hts hK g1 g2 g3 g4 rfl ((hSt.1 _ _ _ ha0).2.1 q8 q9) ha q1 q2 q3 q4 q5 q6 hfr hlo hd ho (hk _ _ _ _ q7)
    · exact hs.elim
  · exact hs.elim
theorem mj_st_scall (Cx : mj_Cx p l e R s m args below meth c G D tys ad bi z nL QQ b0 b1 cc cst own rt ini nh n Q) (hk : ∀ pc ls st h, k pc ls st h → mj_J p l e R s m args below meth c D (mj_cl G) tys ad bi z nL off QQ b0 b1 pc ls st h) {w : Nat} (hM : ∀ y as h Qp, call y as h Qp → MetFree l (mj_mn G y) (headSpec (mj_cw G y :: mj_TS G) (mj_rm n h)) (mj_Pc D (mj_cl G) tys ad bi z cst (mj_nc G) as h) (fun _ _ _ _ _ => True) (fun _ => mj_Qc D (mj_cl G) tys ad bi z (mj_xn G) h.2.1 h.2.2.1 Qp)) (hH : ∀ q ls h, mj_thr hd Q k pc ls q h → mj_JT p l e R s m args below meth c D (mj_cl G) tys ad bi z nL off QQ b0 b1 (mj_xn G) pc ls q h) (hok : mj_OK G own cc nL off rt ini nh pc (.instanceof w)) (hs : mj_stp call cst (mj_nw G) hd Q k (.instanceof w) pc ls st h) : mj_J p l e R s m args below meth c D (mj_cl G) tys ad bi z nL off QQ b0 b1 pc ls st h := by
  obtain ⟨hx, hb, hml, hown, hts, hgood, hK, hSt, hR, hRf, hRl, hlocks, hrt, hini, hnh, htr, hty, had, hQQ⟩ := Cx
  obtain ⟨ho, g1, g2, g3, g4, j, g5, hdc, g7, g9, g10⟩ := hok
  simp only [mj_stp] at hs
  split at hs
  · next a as r hp =>
    split at hs
    · next x ec he hw =>
      have hw := Nat.le_of_ble_eq_true hw
      obtain ⟨f, e1, e2, e3⟩ := mj_pop_eq hp
      rw [List.append_nil] at e2
      generalize w / 1024 = y at *
      have hws : ∀ v ∈ mj_cw G y :: mj_TS G, ∀ (a' : Array Value) (U : State), s.WarmedH U.vm → v.before a' U = true := fun v hv a' U hW => by
        rcases List.mem_cons.mp hv with rfl | hv
        · exact mj_wat hW (hgood _ g1) (hts _ g1)
        · exact mj_wat hW (hgood _ hv) (hts _ hv)
      have hin9 : ∀ (a' : Array Value) (U : State), s.WarmedH U.vm → (Cond.initialized (mj_mn G y).cls).before a' U = true := fun a' U hW => mj_wat hW (hgood _ g3) (hts _ g3)
      have kret : ∀ v h', mj_after hd Q k pc ls r (.inl v, h') → mj_J p l e R s m args below meth c D (mj_cl G) tys ad bi z nL off QQ b0 b1 (pc + 1) ls (v.toList ++ r) h' := fun v h' h9 => by
        cases v with
        | none => exact hk _ _ _ _ h9
        | some v => exact hk _ _ _ _ h9
      have hcd : mj_cd (mj_mn G y) (mj_mb G y) (mj_ml G y) (mj_mr G y) (mj_mh G y) ∈ mj_cw G y :: mj_TS G := List.mem_cons_self
      have hcs : (mj_cd (mj_mn G y) (mj_mb G y) (mj_ml G y) (mj_mr G y) (mj_mh G y)).before args s = true := hts _ g1
      have hfr : (mj_rm n h).frames + 1 ≤ R.frames := by rw [hRf]; exact Nat.le_refl _
      have hlo : 8 + (mj_ml G y + 11) + (mj_rm n h).locals ≤ R.locals := by rw [hRl]; show 8 + (mj_ml G y + 11) + (300 + 64 * n) ≤ _; omega
      have ef : f = as.reverse ++ [.ref a] := by rw [← List.reverse_reverse f, ← e2]; simp
      have hO := ((hSt.1 a x.1 x.2 ec).2.2 (Nat.le_of_ble_eq_true he)).1
      have hM2 := hM _ _ _ _ hs
      refine mj_so_call hx hb hml hK hSt hR hM2 rfl rfl hfr hlo hw hws hcd hin9 hdc ho (fun T9 H9 locs9 k9 n9 L9 hT9 hr9 hS9 X9 => ?_) kret (fun q h' h9 => hH q ls h' h9)
      obtain ⟨cellB, c1, c2, c3, -⟩ := hO.kept hS9.2.1
      refine mj_invV (C := "java/lang/String") X9 hx hown (hts _ g5) (hts _ g7) (hts _ g9) hcs g4 (b := ad a) (cellB := cellB) (by rw [hT9]; exact c1) c2 c3 (As := as.map (mj_tr ad)) rfl ?_ ?_ (by rw [hb]; exact hdc)
      · have e5 : as.length + 1 = w / 4 % 16 := by rw [← e3, ef]; simp
        rw [List.length_map]
        cases hpd : parseMethodDescriptor (mj_mn G y).desc with
        | none => rw [hpd] at g10; cases g10
        | some sg => rw [hpd] at g10; have this : sg.parameters.length + 1 = w / 4 % 16 := Option.some.inj g10; simp only [Option.map_some, Option.some.injEq]; omega
      · show st.map (mj_tr ad) = _
        rw [e1, ef]
        simp [mj_tr]
    · exact hs.elim
  · exact hs.elim
theorem mj_st_binit (Cx : mj_Cx p l e R s m args below meth c G D tys ad bi z nL QQ b0 b1 cc cst own rt ini nh n Q) (hk : ∀ pc ls st h, k pc ls st h → mj_J p l e R s m args below meth c D (mj_cl G) tys ad bi z nL off QQ b0 b1 pc ls st h) {w : Nat} (hM : ∀ y as h Qp, call y as h Qp → MetFree l (mj_mn G y) (headSpec (mj_cw G y :: mj_TS G) (mj_rm n h)) (mj_Pc D (mj_cl G) tys ad bi z cst (mj_nc G) as h) (fun _ _ _ _ _ => True) (fun _ => mj_Qc D (mj_cl G) tys ad bi z (mj_xn G) h.2.1 h.2.2.1 Qp)) (hok : mj_OK G own cc nL off rt ini nh pc (.invokespecial w)) (hs : mj_stp call cst (mj_nw G) hd Q k (.invokespecial w) pc ls st h) : mj_J p l e R s m args below meth c D (mj_cl G) tys ad bi z nL off QQ b0 b1 pc ls st h := by
  obtain ⟨hx, hb, hml, hown, hts, hgood, hK, hSt, hR, hRf, hRl, hlocks, hrt, hini, hnh, htr, hty, had, hQQ⟩ := Cx
  obtain ⟨ho, ⟨g1, g2, g3, g4, j, g5, g6⟩, gw, gn⟩ := hok
  obtain ⟨rfl, h9⟩ := id had
  simp only [mj_stp] at hs
  split at hs
  · next a r =>
    split at hs
    · next hw =>
      have hw := Nat.le_of_ble_eq_true hw
      have h4 : w % 1024 % 4 = 2 := by omega
      have h16 : w % 1024 / 4 % 16 = 1 := by omega
      generalize w / 1024 = y at *
      have hws : ∀ v ∈ mj_cw G y :: mj_TS G, ∀ (a' : Array Value) (U : State), s.WarmedH U.vm → v.before a' U = true := fun v hv a' U hW => by
        rcases List.mem_cons.mp hv with rfl | hv
        · exact mj_wat hW (hgood _ g1) (hts _ g1)
        · exact mj_wat hW (hgood _ hv) (hts _ hv)
      have hin9 : ∀ (a' : Array Value) (U : State), s.WarmedH U.vm → (Cond.initialized (mj_mn G y).cls).before a' U = true := fun a' U hW => mj_wat hW (hgood _ g3) (hts _ g3)
      have hcd : mj_cd (mj_mn G y) (mj_mb G y) (mj_ml G y) (mj_mr G y) (mj_mh G y) ∈ mj_cw G y :: mj_TS G := List.mem_cons_self
      have hcs : (mj_cd (mj_mn G y) (mj_mb G y) (mj_ml G y) (mj_mr G y) (mj_mh G y)).before args s = true := hts _ g1
      have hfr : (mj_rm n h).frames + 1 ≤ R.frames := by rw [hRf]; exact Nat.le_refl _
      have hlo : 8 + (mj_ml G y + 11) + (mj_rm n h).locals ≤ R.locals := by rw [hRl]; show 8 + (mj_ml G y + 11) + (300 + 64 * n) ≤ _; omega
      simp only [h4] at g6
      obtain ⟨hdc, g7, g8, g9, g9r, g10⟩ := g6
      rw [h16] at g10
      have kret : ∀ v h', mj_ip k pc ls r a (.inl v, h') → mj_J p l e R s m args below meth c D (mj_cl G) tys ad 9 z nL off QQ b0 b1 (pc + 1) ls (v.toList ++ r) h' := fun v h' q9 => by
        obtain ⟨os, bc, bs, fl⟩ := h'
        cases v with
        | none =>
          obtain ⟨N, g, ml, q1, q2, q3, q4, q5⟩ := q9
          exact fun H9 locs9 k9 n9 L9 f1 f2 f3 f4 f5 => hk _ _ _ _ q5 H9 locs9 k9 n9 L9 f1 (mj_rep_cv f2 q1 q2 q3 q4) f3 f4 f5
        | some v => exact q9.elim
      have hM2 := hM y [.ref a] h _ hs
      refine mj_so_call (y := mj_mn G y) (ws := mj_cw G y :: mj_TS G) (rm := mj_rm n h) hx hb hml hK hSt hR hM2 rfl rfl hfr hlo hw hws hcd hin9 hdc ho (fun T9 H9 locs9 k9 n9 L9 hT9 hr9 hS9 X9 => ?_) kret (fun q h' q9 => False.elim (by obtain ⟨os, bc, bs, fl⟩ := h'; exact q9))
      have hcs' : (Cond.code (mj_mn G y) (mj_mb G y) (mj_ml G y) none).before args s = true := by
        have := hcs
        unfold mj_cd at this
        rw [if_pos g9, g9r] at this
        exact this
      refine mj_invI X9 hx hown g8 (hts _ g5) (hts _ g7) hcs' g4 (As := ([] : List Value).map (mj_tr ad)) (b := ad a) rfl ?_ ?_ (by rw [hb]; exact hdc)
      · rw [List.length_map]
        cases hpd : parseMethodDescriptor (mj_mn G y).desc with
        | none => rw [hpd] at g10; cases g10
        | some sg => rw [hpd] at g10; have this : sg.parameters.length + 1 = 1 := Option.some.inj g10; simp only [Option.map_some, Option.some.injEq]; show sg.parameters.length = 0; omega
      · rfl
    · exact hs.elim
  · exact hs.elim
theorem mj_st_bcall (Cx : mj_Cx p l e R s m args below meth c G D tys ad bi z nL QQ b0 b1 cc cst own rt ini nh n Q) (hk : ∀ pc ls st h, k pc ls st h → mj_J p l e R s m args below meth c D (mj_cl G) tys ad bi z nL off QQ b0 b1 pc ls st h) {w : Nat} (hM : ∀ (ad2 : Nat → Nat) (z2 : Nat → Prop) y as h Qp, call y as h Qp → MetFree l (mj_mn G y) (headSpec (mj_cw G y :: mj_TS G) (mj_rm n h)) (mj_Pc D (mj_cl G) tys ad2 bi z2 cst (mj_nc G) as h) (fun _ _ _ _ _ => True) (fun _ => mj_Qc D (mj_cl G) tys ad2 bi z2 (mj_xn G) h.2.1 h.2.2.1 Qp)) (hok : mj_OK G own cc nL off rt ini nh pc (.invokevirtual w)) (hs : mj_stp call cst (mj_nw G) hd Q k (.invokevirtual w) pc ls st h) : mj_J p l e R s m args below meth c D (mj_cl G) tys ad bi z nL off QQ b0 b1 pc ls st h := by
  obtain ⟨hx, hb, hml, hown, hts, hgood, hK, hSt, hR, hRf, hRl, hlocks, hrt, hini, hnh, htr, hty, had, hQQ⟩ := Cx
  obtain ⟨ho, ⟨g1, g2, g3, g4, j, g5, g6⟩, gc, gw⟩ := hok
  obtain ⟨rfl, h9⟩ := id had
  simp only [mj_stp] at hs
  split at hs
  · next a as r hp =>
    split at hs
    · next nb fb ha hni hw =>
      have hw := Nat.le_of_ble_eq_true hw
      obtain ⟨f, e1, e2, e3⟩ := mj_pop_eq hp
      rw [List.append_nil] at e2
      have hws : ∀ v ∈ mj_cw G (w / 1024) :: mj_TS G, ∀ (a' : Array Value) (U : State), s.WarmedH U.vm → v.before a' U = true := fun v hv a' U hW => by
        rcases List.mem_cons.mp hv with rfl | hv
        · exact mj_wat hW (hgood _ g1) (hts _ g1)
        · exact mj_wat hW (hgood _ hv) (hts _ hv)
      have hin9 : ∀ (a' : Array Value) (U : State), s.WarmedH U.vm → (Cond.initialized (mj_mn G (w / 1024)).cls).before a' U = true := fun a' U hW => mj_wat hW (hgood _ g3) (hts _ g3)
      have hcd : mj_cd (mj_mn G (w / 1024)) (mj_mb G (w / 1024)) (mj_ml G (w / 1024)) (mj_mr G (w / 1024)) (mj_mh G (w / 1024)) ∈ mj_cw G (w / 1024) :: mj_TS G := List.mem_cons_self
      have hcs : (mj_cd (mj_mn G (w / 1024)) (mj_mb G (w / 1024)) (mj_ml G (w / 1024)) (mj_mr G (w / 1024)) (mj_mh G (w / 1024))).before args s = true := hts _ g1
      have hfr : (mj_rm n h).frames + 1 ≤ R.frames := by rw [hRf]; exact Nat.le_refl _
      have hlo : 8 + (mj_ml G (w / 1024) + 11) + (mj_rm n h).locals ≤ R.locals := by rw [hRl]; show 8 + (mj_ml G (w / 1024) + 11) + (300 + 64 * n) ≤ _; omega
      have h4 : w % 1024 % 4 = 0 := by omega
      have h16 : w % 1024 / 4 % 16 = w / 4 % 16 := by omega
      simp only [h4] at g6
      obtain ⟨hdc, g7, ⟨C, T, N, g8, g9⟩, g10⟩ := g6
      rw [gc] at g8
      rw [h16] at g10
      have ef : f = as.reverse ++ [.ref a] := by rw [← List.reverse_reverse f, ← e2]; simp
      generalize w / 1024 = y at *
      have hM2 : ∀ (ad2 : Nat → Nat) (z2 : Nat → Prop) (ml : Int32) (N : Nat) (g : Nat → Int32), nb ≤ N → N ≤ 65536 → sb_Lat fb nb g → sb_Fit g → MetFree l (mj_mn G y) (headSpec (mj_cw G y :: mj_TS G) (mj_rm n h)) (mj_Pc D (mj_cl G) tys ad2 9 z2 cst (mj_nc G) (.ref 0 :: as) (mj_lo ml nb N g, h.2.1, h.2.2.1, true)) (fun _ _ _ _ _ => True) (fun _ => mj_Qc D (mj_cl G) tys ad2 9 z2 (mj_xn G) h.2.1 h.2.2.1 (mj_bp k pc ls r h a)) := fun ad2 z2 ml N g q1 q2 q3 q4 => hM ad2 z2 y (.ref 0 :: as) (mj_lo ml nb N g, h.2.1, h.2.2.1, true) _ (hs ml N g q1 q2 q3 q4)
      refine mj_so_bcall (y := mj_mn G y) (ws := mj_cw G y :: mj_TS G) (rm := mj_rm n h) hx hb hml hK hSt hR ⟨rfl, h9⟩ ha hni hM2 rfl rfl hfr hlo hw hws hcd hin9 hdc ho (fun T9 H9 locs9 k9 n9 L9 hT9 hr9 X9 => ?_) hk
      obtain ⟨⟨b, hP, hD, hB⟩, -, -⟩ := hr9
      obtain ⟨cellB, c1, c2, c3⟩ := va_recv hK hP g8 (mj_b0 (tys := tys) (ad := ad) (b := b) ha)
      refine mj_invV (C := C) X9 hx hown (hts _ g5) (hts _ g7) (hts _ g9) hcs g4 (b := ad a) (cellB := cellB) (by rw [hT9]; exact c1) c2 c3 (As := as.map (mj_tr ad)) rfl ?_ ?_ (by rw [hb]; exact hdc)
      · have e5 : as.length + 1 = w / 4 % 16 := by rw [← e3, ef]; simp
        rw [List.length_map]
        cases hpd : parseMethodDescriptor (mj_mn G y).desc with
        | none => rw [hpd] at g10; cases g10
        | some sg => rw [hpd] at g10; have this : sg.parameters.length + 1 = w / 4 % 16 := Option.some.inj g10; simp only [Option.map_some, Option.some.injEq]; omega
      · show st.map (mj_tr ad) = _
        rw [e1, ef]
        simp [mj_tr]
    · exact hs.elim
  · exact hs.elim
theorem mj_st_call (Cx : mj_Cx p l e R s m args below meth c G D tys ad bi z nL QQ b0 b1 cc cst own rt ini nh n Q) (hk : ∀ pc ls st h, k pc ls st h → mj_J p l e R s m args below meth c D (mj_cl G) tys ad bi z nL off QQ b0 b1 pc ls st h) {y w : Nat} (hM : ∀ y as h Qp, call y as h Qp → MetFree l (mj_mn G y) (headSpec (mj_cw G y :: mj_TS G) (mj_rm n h)) (mj_Pc D (mj_cl G) tys ad bi z cst (mj_nc G) as h) (fun _ _ _ _ _ => True) (fun _ => mj_Qc D (mj_cl G) tys ad bi z (mj_xn G) h.2.1 h.2.2.1 Qp)) (hH : ∀ q ls h, mj_thr hd Q k pc ls q h → mj_JT p l e R s m args below meth c D (mj_cl G) tys ad bi z nL off QQ b0 b1 (mj_xn G) pc ls q h) (hok : mj_OK G own cc nL off rt ini nh pc (.invokeinterface y w)) (hs : mj_stp call cst (mj_nw G) hd Q k (.invokeinterface y w) pc ls st h) : mj_J p l e R s m args below meth c D (mj_cl G) tys ad bi z nL off QQ b0 b1 pc ls st h := by
  obtain ⟨hx, hb, hml, hown, hts, hgood, hK, hSt, hR, hRf, hRl, hlocks, hrt, hini, hnh, htr, hty, had, hQQ⟩ := Cx
  obtain ⟨ho, g1, g2, g3, g4, j, g5, g6⟩ := hok
  simp only [mj_stp] at hs
  split at hs
  · next as r hp =>
    split at hs
    · next hrc hw =>
      have hw := Nat.le_of_ble_eq_true hw
      obtain ⟨f, e1, e2, e3⟩ := mj_pop_eq hp
      rw [List.append_nil] at e2
      have hws : ∀ w ∈ mj_cw G y :: mj_TS G, ∀ (a' : Array Value) (U : State), s.WarmedH U.vm → w.before a' U = true := fun w hw a' U hW => by
        rcases List.mem_cons.mp hw with rfl | hw
        · exact mj_wat hW (hgood _ g1) (hts _ g1)
        · exact mj_wat hW (hgood _ hw) (hts _ hw)
      have hin9 : ∀ (a' : Array Value) (U : State), s.WarmedH U.vm → (Cond.initialized (mj_mn G y).cls).before a' U = true := fun a' U hW => mj_wat hW (hgood _ g3) (hts _ g3)
      have kret : ∀ v h', mj_after hd Q k pc ls r (.inl v, h') → mj_J p l e R s m args below meth c D (mj_cl G) tys ad bi z nL off QQ b0 b1 (pc + 1) ls (v.toList ++ r) h' := fun v h' h9 => by
        cases v with
        | none => exact hk _ _ _ _ h9
        | some v => exact hk _ _ _ _ h9
      have hcd : mj_cd (mj_mn G y) (mj_mb G y) (mj_ml G y) (mj_mr G y) (mj_mh G y) ∈ mj_cw G y :: mj_TS G := List.mem_cons_self
      have hcs : (mj_cd (mj_mn G y) (mj_mb G y) (mj_ml G y) (mj_mr G y) (mj_mh G y)).before args s = true := hts _ g1
      have hfr : (mj_rm n h).frames + 1 ≤ R.frames := by rw [hRf]; exact Nat.le_refl _
      have hlo : 8 + (mj_ml G y + 11) + (mj_rm n h).locals ≤ R.locals := by rw [hRl]; show 8 + (mj_ml G y + 11) + (300 + 64 * n) ≤ _; omega
      rcases (show w % 4 = 0 ∨ w % 4 = 1 ∨ w % 4 = 2 ∨ w % 4 = 3 by omega) with h4 | h4 | h4 | h4
      · simp only [h4] at g6
        obtain ⟨hdc, g7, ⟨C, T, N, g8, g9⟩, g10⟩ := g6
        simp only [mj_recv, h4] at hrc
        split at hrc
        · next a As =>
          split at hrc
          · next ci fs ha =>
            have hci : ci = w / 64 := Nat.eq_of_beq_eq_true hrc
            subst hci
            have ef : f = As.reverse ++ [.ref a] := by rw [← List.reverse_reverse f, ← e2]; simp
            refine mj_so_call hx hb hml hK hSt hR (hM _ _ _ _ hs) rfl rfl hfr hlo hw hws hcd hin9 hdc ho (fun T9 H9 locs9 k9 n9 L9 hT9 hr9 hS9 X9 => ?_) kret (fun q h' h9 => hH q ls h' h9)
            obtain ⟨⟨b, hP, hD, hB⟩, -, -⟩ := hr9
            obtain ⟨cellB, c1, c2, c3⟩ := va_recv hK hP g8 (mj_at (tys := tys) (ad := ad) (bi := bi) (b := b) ha)
            refine mj_invV (C := C) X9 hx hown (hts _ g5) (hts _ g7) (hts _ g9) hcs g4 (b := ad a) (cellB := cellB) (by rw [hT9]; exact c1) c2 c3 (As := As.map (mj_tr ad)) rfl ?_ ?_ (by rw [hb]; exact hdc)
            · have e5 : As.length + 1 = w / 4 % 16 := by rw [← e3, ef]; simp
              rw [List.length_map]
              cases hpd : parseMethodDescriptor (mj_mn G y).desc with
              | none => rw [hpd] at g10; cases g10
              | some sg => rw [hpd] at g10; have this : sg.parameters.length + 1 = w / 4 % 16 := Option.some.inj g10; simp only [Option.map_some, Option.some.injEq]; omega
            · show st.map (mj_tr ad) = _
              rw [e1, ef]
              simp [mj_tr]
          · cases hrc
        · cases hrc
      · simp only [h4] at g6
        obtain ⟨hdc, g7, g10⟩ := g6
        have ef : f = as.reverse := by rw [e2]; simp
        refine mj_so_call hx hb hml hK hSt hR (hM _ _ _ _ hs) rfl rfl hfr hlo hw hws hcd hin9 hdc ho (fun T9 H9 locs9 k9 n9 L9 hT9 hr9 hS9 X9 => ?_) kret (fun q h' h9 => hH q ls h' h9)
        refine mj_invS X9 hx hown (hts _ g5) (hts _ g7) (hts _ g3) hcs g4 (As := as.map (mj_tr ad)) rfl ?_ ?_ (by rw [hb]; exact hdc)
        · rw [List.length_map, g10]
          rw [← e3, ef]
          simp
        · show st.map (mj_tr ad) = _
          rw [e1, ef]
          simp
      · simp only [h4] at g6
        obtain ⟨hdc, g7, g8, g9, g9r, g10⟩ := g6
        simp only [mj_recv, h4] at hrc
        split at hrc
        · next a As =>
          have ef : f = As.reverse ++ [.ref a] := by rw [← List.reverse_reverse f, ← e2]; simp
          refine mj_so_call hx hb hml hK hSt hR (hM _ _ _ _ hs) rfl rfl hfr hlo hw hws hcd hin9 hdc ho (fun T9 H9 locs9 k9 n9 L9 hT9 hr9 hS9 X9 => ?_) kret (fun q h' h9 => hH q ls h' h9)
          have hcs' : (Cond.code (mj_mn G y) (mj_mb G y) (mj_ml G y) none).before args s = true := by
            have := hcs
            unfold mj_cd at this
            rw [if_pos g9, g9r] at this
            exact this
          refine mj_invI X9 hx hown g8 (hts _ g5) (hts _ g7) hcs' g4 (As := As.map (mj_tr ad)) (b := ad a) rfl ?_ ?_ (by rw [hb]; exact hdc)
          · have e5 : As.length + 1 = w / 4 % 16 := by rw [← e3, ef]; simp
            rw [List.length_map]
            cases hpd : parseMethodDescriptor (mj_mn G y).desc with
            | none => rw [hpd] at g10; cases g10
            | some sg => rw [hpd] at g10; have this : sg.parameters.length + 1 = w / 4 % 16 := Option.some.inj g10; simp only [Option.map_some, Option.some.injEq]; omega
          · show st.map (mj_tr ad) = _
            rw [e1, ef]
            simp [mj_tr]
        · cases hrc
      · simp only [h4] at g6
        obtain ⟨hdc, g7, gs, gp, gn, ⟨C, T, N, g8, g9⟩, g10⟩ := g6
        simp only [mj_recv, h4] at hrc
        split at hrc
        · next a As =>
          split at hrc
          · next ci fs ha =>
            have hci : ci = w / 64 := Nat.eq_of_beq_eq_true hrc
            subst hci
            have ef : f = As.reverse ++ [.ref a] := by rw [← List.reverse_reverse f, ← e2]; simp
            refine mj_so_call hx hb hml hK hSt hR (hM _ _ _ _ hs) rfl rfl hfr hlo hw hws hcd hin9 hdc ho (fun T9 H9 locs9 k9 n9 L9 hT9 hr9 hS9 X9 => ?_) kret (fun q h' h9 => hH q ls h' h9)
            obtain ⟨⟨b, hP, hD, hB⟩, -, -⟩ := hr9
            obtain ⟨cellB, c1, c2, c3⟩ := va_recv hK hP g8 (mj_at (tys := tys) (ad := ad) (bi := bi) (b := b) ha)
            obtain ⟨cX, kX, hfX, hkX, -⟩ := Cond.instantiable_spec (hts _ g9)
            have e9 : cX = cellB.cls := Option.some.inj (hfX.symm.trans c3)
            subst e9
            refine mj_invU X9 hx hown (hts _ g5) (hts _ gs) (hts _ gp) (hts _ g7) hcs gn (b := ad a) (cellB := cellB) (by rw [hT9]; exact c1) c2 hkX (As := As.map (mj_tr ad)) rfl ?_ ?_ (by rw [hb]; exact hdc)
            · have e5 : As.length + 1 = w / 4 % 16 := by rw [← e3, ef]; simp
              rw [List.length_map]
              cases hpd : parseMethodDescriptor (mj_mn G y).desc with
              | none => rw [hpd] at g10; cases g10
              | some sg => rw [hpd] at g10; have this : sg.parameters.length + 1 = w / 4 % 16 := Option.some.inj g10; simp only [Option.map_some, Option.some.injEq]; omega
            · show st.map (mj_tr ad) = _
              rw [e1, ef]
              simp [mj_tr]
          · cases hrc
        · cases hrc
    · exact hs.elim
  · exact hs.elim
end MJB2
end
section
def mj_okH (G : mj_G) (own : String) (cc : ByteArray) (nL : Nat) (off : Nat → Nat) : mj_X → List (Nat × Nat × Nat × Nat) → Prop
  | [], [] => True
  | (a, b, t, j, q0) :: r, (a', b', hp, ct) :: r' => (a = a' ∧ b = b' ∧ hp = off t ∧ ct ≠ 0 ∧ j < nL ∧ ((∃ f : Fin 4, (f : Nat) = j ∧ decode cc (off t) = .ok (.astore_n f, 1) ∧ off (t + 1) = off t + 1) ∨ (decode cc (off t) = .ok (.astore j, 2) ∧ off (t + 1) = off t + 2)) ∧ Jvm.Cond.classLink own ct (mj_xn G q0) ∈ mj_TS G ∧ (mj_xn G q0, mj_xn G q0) ∈ (mj_nc G).2.1 ∧ ∀ q, q < 2 → q ≠ q0 → (mj_xn G q, mj_xn G q0) ∈ (mj_nc G).1) ∧ mj_okH G own cc nL off r r'
  | _, _ => False
section MJF
variable {p : Program} {l : Launch} {e : Env} {R : Room} {s : State} {m : MethodId} {args : Array Value} {below : List Frame} {meth : Method} {c : Code}
variable {G : mj_G} {D : va_G} {tys : List (ClassId × FieldType)} {ad : Nat → Nat} {bi : Nat} {z : Nat → Prop} {nL : Nat} {off : Nat → Nat} {QQ : State → Prop} {b0 b1 : Nat} {cc : ByteArray} {pc : Nat} {ls : mj_L} {st r : List Value} {h : mj_H}
variable {cst : Nat → Option (Nat × (Nat → Int32))} {own : String} {rt : Option FieldType} {ini nh : Bool} {n : Nat} {Q : mj_R → Prop} {hd : Nat → Nat → Option (Option (Nat × Nat))} {k : Nat → mj_L → List Value → mj_H → Prop} {call : Nat → List Value → mj_H → (mj_R → Prop) → Prop}
def mj_ent (x : ExceptionTableEntry) : Nat × Nat × Nat × Nat := (x.startPc, x.endPc, x.handlerPc, x.catchType)
theorem mj_cov (x : ExceptionTableEntry) (b : Nat) : covers x b = (Nat.ble x.startPc b && Nat.blt b x.endPc) := by
  unfold covers
  rw [Bool.eq_iff_iff]
  simp [Nat.ble_eq, Nat.blt_eq]
theorem mj_hd_none (hx : mj_X) {q : Nat} : ∀ L : List ExceptionTableEntry, mj_okH G own cc nL off hx (L.map mj_ent) → mj_hd off hx pc q = some none → ∀ x ∈ L, covers x (off pc) = false := by
  induction hx with
  | nil =>
    intro L h1 h2 x hx
    cases L with
    | nil => cases hx
    | cons y L => exact h1.elim
  | cons w hx ih =>
    obtain ⟨a, b, t, j, q0⟩ := w
    intro L h1 h2 x hm
    cases L with
    | nil => cases hm
    | cons y L =>
      obtain ⟨⟨ea, eb, -⟩, h1'⟩ := h1
      have hcv : covers y (off pc) = (Nat.ble a (off pc) && Nat.blt (off pc) b) := by rw [mj_cov, ea, eb]
      simp only [mj_hd] at h2
      split at h2
      · split at h2
        · cases h2
        · split at h2 <;> cases h2
      · next hf =>
        rcases List.mem_cons.mp hm with rfl | hm
        · rw [hcv, hf]
        · exact ih L h1' h2 x hm
theorem mj_hd_some (hx : mj_X) {q t j : Nat} : ∀ L : List ExceptionTableEntry, mj_okH G own cc nL off hx (L.map mj_ent) → mj_hd off hx pc q = some (some (t, j)) → ∃ pre x rest, L = pre ++ x :: rest ∧ (∀ y ∈ pre, covers y (off pc) = false ∨ (y.catchType ≠ 0 ∧ ∃ q1, Jvm.Cond.classLink own y.catchType (mj_xn G q1) ∈ mj_TS G ∧ (mj_xn G q, mj_xn G q1) ∈ (mj_nc G).1)) ∧ covers x (off pc) = true ∧ x.catchType ≠ 0 ∧ x.handlerPc = off t ∧ j < nL ∧ ((∃ f : Fin 4, (f : Nat) = j ∧ decode cc (off t) = .ok (.astore_n f, 1) ∧ off (t + 1) = off t + 1) ∨ (decode cc (off t) = .ok (.astore j, 2) ∧ off (t + 1) = off t + 2)) ∧ Jvm.Cond.classLink own x.catchType (mj_xn G q) ∈ mj_TS G ∧ (mj_xn G q, mj_xn G q) ∈ (mj_nc G).2.1 := by
  induction hx with
  | nil => intro L h1 h2; cases h2
  | cons w hx ih =>
    obtain ⟨a, b, t0, j0, q0⟩ := w
    intro L h1 h2
    cases L with
    | nil => exact h1.elim
    | cons y L =>
      obtain ⟨⟨ea, eb, e1, e2, e3, e4, e5, e6, e7⟩, h1'⟩ := h1
      have hcv : covers y (off pc) = (Nat.ble a (off pc) && Nat.blt (off pc) b) := by rw [mj_cov, ea, eb]
      simp only [mj_hd] at h2
      split at h2
      · next hf =>
        split at h2
        · next hq =>
          have hq : q = q0 := Nat.eq_of_beq_eq_true hq
          subst hq
          cases h2
          exact ⟨[], y, L, rfl, (fun z hz => by cases hz), by rw [hcv, hf], e2, e1, e3, e4, e5, e6⟩
        · next hq =>
          split at h2
          · next x9 hl hr =>
            cases h2
            obtain ⟨pre, x, rest, g1, g2, g3⟩ := ih L h1' hr
            refine ⟨y :: pre, x, rest, by rw [g1]; rfl, fun z hz => ?_, g3⟩
            rcases List.mem_cons.mp hz with rfl | hz
            · exact Or.inr ⟨e2, q0, e5, e7 q (Nat.le_of_ble_eq_true hl) (fun e => by subst e; rw [Nat.beq_refl] at hq; cases hq)⟩
            · exact g2 z hz
          · cases h2
      · next hf =>
        obtain ⟨pre, x, rest, g1, g2, g3⟩ := ih L h1' h2
        refine ⟨y :: pre, x, rest, by rw [g1]; rfl, fun z hz => ?_, g3⟩
        rcases List.mem_cons.mp hz with rfl | hz
        · exact Or.inl (by rw [hcv, hf])
        · exact g2 z hz
theorem mj_thr_ok (Cx : mj_Cx p l e R s m args below meth c G D tys ad bi z nL QQ b0 b1 cc cst own rt ini nh n Q) {hxl : mj_X} (hH : mj_okH G own cc nL off hxl (c.exceptionTable.toList.map mj_ent)) (hk : ∀ pc ls st h, k pc ls st h → mj_J p l e R s m args below meth c D (mj_cl G) tys ad bi z nL off QQ b0 b1 pc ls st h) {q : Nat} (ht : mj_thr (mj_hd off hxl) Q k pc ls q h) : mj_JT p l e R s m args below meth c D (mj_cl G) tys ad bi z nL off QQ b0 b1 (mj_xn G) pc ls q h := by
  obtain ⟨hx, hb, hml, hown, hts, hgood, hK, hSt, hR, hRf, hRl, hlocks, hrt, hini, hnh, htr, hty, had, hQQ⟩ := Cx
  unfold mj_thr at ht
  split at ht
  · next t j hh =>
    obtain ⟨pre, x, rest, g1, g2, g3, g4, g5, g6, g7, g8, g9⟩ := mj_hd_some hxl _ hH hh
    obtain ⟨c1, c2, f1, f2, f3⟩ := hSt.2.2.2.1 _ g9
    have e12 : c1 = c2 := Option.some.inj (f1.symm.trans f2)
    subst e12
    refine mj_so_handler hx hb pre x rest g1 (fun ha cX hX y hy => ?_) g3 g4 (cT := c1) (fun ha => ?_) (fun cX hX => ?_) g5 g6 g7 (hk _ _ _ _ ht)
    · rcases g2 y hy with g | ⟨g, q1, gl, gn⟩
      · exact Or.inl g
      · have hpl : e.platform.magicAccessors = ({} : Platform).magicAccessors := by rw [ha.platform]
        obtain ⟨c', hc', hcl⟩ := Cond.classLink_spec hown (hts _ gl) e.platform hpl
        exact Or.inr ⟨g, c', hcl, hSt.2.2.1 _ gn cX c' hX hc'⟩
    · have hpl : e.platform.magicAccessors = ({} : Platform).magicAccessors := by rw [ha.platform]
      obtain ⟨c', hc', hcl⟩ := Cond.classLink_spec hown (hts _ g8) e.platform hpl
      have : c' = c1 := Option.some.inj (hc'.symm.trans f1)
      subst this
      exact hcl
    · have : cX = c1 := Option.some.inj (hX.symm.trans f1)
      subst this
      exact f3
  · next hh => exact mj_so_out hlocks hQQ (mj_hd_none hxl _ hH hh) ht
  · exact ht.elim
theorem mj_step (Cx : mj_Cx p l e R s m args below meth c G D tys ad bi z nL QQ b0 b1 cc cst own rt ini nh n Q) {hxl : mj_X} (hH : mj_okH G own cc nL off hxl (c.exceptionTable.toList.map mj_ent)) (hnd : nh = true → hxl = []) (hk : ∀ pc ls st h, k pc ls st h → mj_J p l e R s m args below meth c D (mj_cl G) tys ad bi z nL off QQ b0 b1 pc ls st h) (hM : ∀ (ad2 : Nat → Nat) (z2 : Nat → Prop) y as h Qp, call y as h Qp → MetFree l (mj_mn G y) (headSpec (mj_cw G y :: mj_TS G) (mj_rm n h)) (mj_Pc D (mj_cl G) tys ad2 bi z2 cst (mj_nc G) as h) (fun _ _ _ _ _ => True) (fun _ => mj_Qc D (mj_cl G) tys ad2 bi z2 (mj_xn G) h.2.1 h.2.2.1 Qp)) {i : Instr} (hok : mj_OK G own cc nL off rt ini nh pc i) (hs : mj_stp call cst (mj_nw G) (mj_hd off hxl) Q k i pc ls st h) : mj_J p l e R s m args below meth c D (mj_cl G) tys ad bi z nL off QQ b0 b1 pc ls st h := by
  cases i
  case iconst v => exact mj_st_iconst Cx hk hok hs
  case ldc2_w v => exact mj_st_ldc2 Cx hk hok hs
  case iload i => exact mj_st_iload Cx hk hok hs
  case lload i => exact mj_st_lload Cx hk hok hs
  case aload i => exact mj_st_aload Cx hk hok hs
  case istore i => exact mj_st_istore Cx hk hok hs
  case lstore i => exact mj_st_lstore Cx hk hok hs
  case astore i => exact mj_st_astore Cx hk hok hs
  case iinc i v => exact mj_st_iinc Cx hk hok hs
  case iadd => exact mj_st_iadd Cx hk hok hs
  case isub => exact mj_st_isub Cx hk hok hs
  case imul => exact mj_st_imul Cx hk hok hs
  case iand => exact mj_st_iand Cx hk hok hs
  case ior => exact mj_st_ior Cx hk hok hs
  case ixor => exact mj_st_ixor Cx hk hok hs
  case ishl => exact mj_st_ishl Cx hk hok hs
  case ishr => exact mj_st_ishr Cx hk hok hs
  case iushr => exact mj_st_iushr Cx hk hok hs
  case ineg => exact mj_st_ineg Cx hk hok hs
  case lneg => exact mj_st_lneg Cx hk hok hs
  case ladd => exact mj_st_ladd Cx hk hok hs
  case lsub => exact mj_st_lsub Cx hk hok hs
  case land => exact mj_st_land Cx hk hok hs
  case lor => exact mj_st_lor Cx hk hok hs
  case lshl => exact mj_st_lshl Cx hk hok hs
  case lshr => exact mj_st_lshr Cx hk hok hs
  case lushr => exact mj_st_lushr Cx hk hok hs
  case lcmp => exact mj_st_lcmp Cx hk hok hs
  case i2l => exact mj_st_i2l Cx hk hok hs
  case l2i => exact mj_st_l2i Cx hk hok hs
  case i2c => exact mj_st_i2c Cx hk hok hs
  case i2b => exact mj_st_i2b Cx hk hok hs
  case idiv => exact mj_st_idiv Cx hk hok hs
  case irem => exact mj_st_irem Cx hk hok hs
  case dup => exact mj_st_dup Cx hk hok hs
  case dup_x1 => exact mj_st_dup_x1 Cx hk hok hs
  case dup2 => exact mj_st_dup2 Cx hk hok hs
  case pop => exact mj_st_pop Cx hk hok hs
  case pop2 => exact mj_st_pop2 Cx hk hok hs
  case ireturn => exact mj_st_ireturn Cx hk hok hs
  case lreturn => exact mj_st_lreturn Cx hk hok hs
  case iaload => exact mj_st_iaload Cx hk hok hs
  case laload => exact mj_st_laload Cx hk hok hs
  case caload => exact mj_st_caload Cx hk hok hs
  case baload => exact mj_st_baload Cx hk hok hs
  case iastore => exact mj_st_iastore Cx hk hok hs
  case lastore => exact mj_st_lastore Cx hk hok hs
  case castore => exact mj_st_castore Cx hk hok hs
  case bastore => exact mj_st_bastore Cx hk hok hs
  case arraylength => exact mj_st_arraylength Cx hk hok hs
  case monitorenter => exact mj_st_monitorenter Cx hk hok hs
  case lmul => exact mj_st_lmul Cx hk hok hs
  case ldiv => exact mj_st_ldiv Cx hk hok hs
  case lrem => exact mj_st_lrem Cx hk hok hs
  case freturn => exact mj_st_zreturn Cx hk hok hs
  case dreturn => exact mj_st_creturn Cx hk hok hs
  case return_ => exact mj_st_return Cx hk hok hs
  case ifCond q t => exact mj_st_ifCond Cx hk hok hs
  case if_icmp q t => exact mj_st_if_icmp Cx hk hok hs
  case goto t => exact mj_st_goto Cx hk hok hs
  case lookupswitch d ps => exact mj_st_sw Cx hk hok hs
  case getfield f => exact mj_st_getfield Cx hk hok hs
  case putfield f => exact mj_st_putfield Cx hk hok hs
  case getstatic w => exact mj_st_getstatic Cx hk hok hs
  case new w => exact mj_st_new Cx hk hok hs
  case newarray t => exact mj_st_newarray Cx hk hok hs
  case invokedynamic w => exact mj_st_math Cx hk hok hs
  case checkcast q => exact mj_st_throw Cx hk (fun h9 pc q => by rw [hnd h9]; rfl) hok hs
  case athrow => exact mj_st_breturn Cx hk hok hs
  case ifnonnull t => exact mj_st_ifnn Cx hk hok hs
  case dload w => exact mj_st_gets0 Cx hk hok hs
  case ldc w => exact mj_st_ldcS Cx hk hok hs
  case anewarray w => exact mj_st_sget Cx hk hok hs
  case fload w => exact mj_st_ccopy Cx hk hok hs
  case instanceof w => exact mj_st_scall Cx hk (hM ad z) (fun q ls h h9 => mj_thr_ok Cx hH hk h9) hok hs
  case invokevirtual w => exact mj_st_bcall Cx hk hM hok hs
  case invokespecial w => exact mj_st_binit Cx hk (hM ad z) hok hs
  case areturn => exact mj_st_areturn Cx hk hok hs
  case invokestatic w => exact mj_st_copy Cx hk hok hs
  case invokeinterface y w => exact mj_st_call Cx hk (hM ad z) (fun q ls h h9 => mj_thr_ok Cx hH hk h9) hok hs
  all_goals exact False.elim hs
theorem mj_sg_ok (Cx : mj_Cx p l e R s m args below meth c G D tys ad bi z nL QQ b0 b1 cc cst own rt ini nh n Q) {hxl : mj_X} (hH : mj_okH G own cc nL off hxl (c.exceptionTable.toList.map mj_ent)) (hnd : nh = true → hxl = []) (hM : ∀ (ad2 : Nat → Nat) (z2 : Nat → Prop) y as h Qp, call y as h Qp → MetFree l (mj_mn G y) (headSpec (mj_cw G y :: mj_TS G) (mj_rm n h)) (mj_Pc D (mj_cl G) tys ad2 bi z2 cst (mj_nc G) as h) (fun _ _ _ _ _ => True) (fun _ => mj_Qc D (mj_cl G) tys ad2 bi z2 (mj_xn G) h.2.1 h.2.2.1 Qp)) {code : mj_C} (hcode : ∀ pc b i, mj_nth code pc = some (b, i) → mj_OK G own cc nL off rt ini nh pc i) {J : Nat → mj_L → List Value → mj_H → Prop} (hJ : ∀ pc ls st h, J pc ls st h → mj_J p l e R s m args below meth c D (mj_cl G) tys ad bi z nL off QQ b0 b1 pc ls st h) : ∀ (f : Nat) (fst : Bool) (pc : Nat) (ls : mj_L) (st : List Value) (h : mj_H), mj_sg call cst (mj_nw G) (mj_hd off hxl) code J Q f fst pc ls st h → mj_J p l e R s m args below meth c D (mj_cl G) tys ad bi z nL off QQ b0 b1 pc ls st h := by
  intro f
  induction f with
  | zero => intro fst pc ls st h hs; exact False.elim hs
  | succ f ih =>
    intro fst pc ls st h hs
    simp only [mj_sg] at hs
    split at hs
    · exact hs.elim
    · next cu i he =>
      split at hs
      · exact hJ _ _ _ _ hs
      · exact mj_step Cx hH hnd (ih false) hM (hcode _ _ _ he) hs
end MJF
end
section
def mj_okM (G : mj_G) (T : mj_T) : Prop := ∀ y code nL os hxl, T y = some (code, nL, os, hxl) → nL = mj_ml G y ∧ mj_off os 0 = 0 ∧ plainFor (mj_mn G y) = true ∧ mj_okH G (mj_mn G y).cls (mj_mb G y) nL (mj_off os) hxl (mj_mh G y) ∧ ∀ pc b i, mj_nth code pc = some (b, i) → mj_OK G (mj_mn G y).cls (mj_mb G y) nL (mj_off os) (mj_mr G y) (decide ((mj_mn G y).name = "<init>")) hxl.isEmpty pc i
def mj_okI (G : mj_G) (own : String) (cc : ByteArray) (nL : Nat) (off : Nat → Nat) (rt : Option FieldType) (ini nh : Bool) : Nat → mj_C → Prop
  | _, [] => True
  | k, (_, i) :: r => mj_OK G own cc nL off rt ini nh k i ∧ mj_okI G own cc nL off rt ini nh (k + 1) r
theorem mj_okI_at {G : mj_G} {own : String} {cc : ByteArray} {nL : Nat} {off : Nat → Nat} {rt : Option FieldType} {ini nh : Bool} {code : mj_C} {k : Nat} (h : mj_okI G own cc nL off rt ini nh k code) : ∀ pc b i, mj_nth code pc = some (b, i) → mj_OK G own cc nL off rt ini nh (k + pc) i := by
  induction code generalizing k with
  | nil => intro pc b i hi; cases pc <;> cases hi
  | cons a r ih =>
    obtain ⟨b0, i0⟩ := a
    intro pc b i hi
    cases pc with
    | zero => cases hi; exact h.1
    | succ pc =>
      have := ih h.2 pc b i hi
      rw [show k + 1 + pc = k + (pc + 1) by omega] at this
      exact this
def mj_okE (G : mj_G) (y : Nat) (x : mj_C × Nat × List Nat × mj_X) : Prop := x.2.1 = mj_ml G y ∧ mj_off x.2.2.1 0 = 0 ∧ plainFor (mj_mn G y) = true ∧ mj_okH G (mj_mn G y).cls (mj_mb G y) x.2.1 (mj_off x.2.2.1) x.2.2.2 (mj_mh G y) ∧ mj_okI G (mj_mn G y).cls (mj_mb G y) x.2.1 (mj_off x.2.2.1) (mj_mr G y) (decide ((mj_mn G y).name = "<init>")) x.2.2.2.isEmpty 0 x.1
def mj_okL (G : mj_G) : Nat → List (Option (mj_C × Nat × List Nat × mj_X)) → Prop
  | _, [] => True
  | k, none :: r => True ∧ mj_okL G (k + 1) r
  | k, some x :: r => mj_okE G k x ∧ mj_okL G (k + 1) r
theorem mj_okL_at {G : mj_G} {L : List (Option (mj_C × Nat × List Nat × mj_X))} {k : Nat} (h : mj_okL G k L) : ∀ y x, mj_nth L y = some (some x) → mj_okE G (k + y) x := by
  induction L generalizing k with
  | nil => intro y x hy; cases y <;> cases hy
  | cons a r ih =>
    intro y x hy
    have h2 : mj_okL G (k + 1) r := by cases a <;> exact h.2
    cases y with
    | zero => cases hy; exact h.1
    | succ y =>
      have := ih h2 y x hy
      rw [show k + 1 + y = k + (y + 1) by omega] at this
      exact this
theorem mj_okM_of {G : mj_G} {L : List (Option (mj_C × Nat × List Nat × mj_X))} (h : mj_okL G 0 L) : mj_okM G (fun y => (mj_nth L y).getD none) := by
  intro y code nL os hxl hy
  have hy : (mj_nth L y).getD none = some (code, nL, os, hxl) := hy
  have h1 : mj_nth L y = some (some (code, nL, os, hxl)) := by
    cases e : mj_nth L y with
    | none => rw [e] at hy; cases hy
    | some w => rw [e] at hy; cases w with
      | none => cases hy
      | some v => exact congrArg some hy
  obtain ⟨g1, g2, g3, g4, g5⟩ := mj_okL_at h y _ h1
  rw [Nat.zero_add] at g1 g3 g4 g5
  refine ⟨g1, g2, g3, g4, fun pc b i hi => ?_⟩
  have := mj_okI_at g5 pc b i hi
  rw [Nat.zero_add] at this
  exact this
theorem mj_wt_sl (vs : List Value) : (lg_sl vs).length = mj_wt vs := by
  unfold mj_wt
  induction vs with
  | nil => rfl
  | cons v vs ih =>
    rw [List.map_cons, List.sum_cons, ← ih]
    cases v <;> simp [lg_sl, Value.category] <;> omega
theorem mj_okH_nil {G : mj_G} {own : String} {cc : ByteArray} {nL : Nat} {off : Nat → Nat} {L : List (Nat × Nat × Nat × Nat)} (h : mj_okH G own cc nL off [] L) : L = [] := by
  cases L with
  | nil => rfl
  | cons a L => exact h.elim
theorem mj_sound {l : Launch} {G : mj_G} {T : mj_T} {D : va_G} {tys : List (ClassId × FieldType)} {bi : Nat} {cst : Nat → Option (Nat × (Nat → Int32))} (hT : mj_okM G T) (hgood : ∀ w ∈ mj_TS G, mj_gw w = true) (hty : mj_ty5 tys) (had : mj_c9 bi cst (mj_nc G)) (htr : ∀ e, l.admits e → e.platform.stackTraces = false) :
    ∀ (n : Nat) (ad : Nat → Nat) (z : Nat → Prop) (y : Nat) (as : List Value) (h : mj_H) (Q : mj_R → Prop), mj_Mt T cst (mj_nw G) n y as h Q → MetFree l (mj_mn G y) (headSpec (mj_cw G y :: mj_TS G) (mj_rm n h)) (mj_Pc D (mj_cl G) tys ad bi z cst (mj_nc G) as h) (fun _ _ _ _ _ => True) (fun _ => mj_Qc D (mj_cl G) tys ad bi z (mj_xn G) h.2.1 h.2.2.1 Q) := by
  intro n
  induction n with
  | zero => intro ad z y as h Q hM; exact False.elim hM
  | succ n ih =>
    intro ad z y as h Q hM
    simp only [mj_Mt] at hM
    split at hM
    · exact hM.elim
    · next code nL os hxl hTy =>
      split at hM
      · next hw =>
        have hw := Nat.le_of_ble_eq_true hw
        obtain ⟨g1, g2, g3, g5, g6⟩ := hT y code nL os hxl hTy
        refine MetFree.of_bodySF (code := mj_mb G y) (maxLocals := mj_ml G y) (ret := mj_mr G y) g3 ?_ ?_
        · intro args s m hp hn
          have h9 := atoms_spec (ws := mj_cw G y :: mj_TS G) hp _ List.mem_cons_self
          rcases mj_cd_or h9 with h9 | h9
          · obtain ⟨meth, c, h1, h2, h3, h4, h5, h6, -, -⟩ := Cond.code_spec hn h9
            exact ⟨meth, c, h1, h2, h3, h4, h5, h6⟩
          · obtain ⟨m9, meth, c, hn9, h1, h2, h3, h4, -, h5, h6, -⟩ := Cond.codeWith_spec h9
            cases hn.symm.trans hn9
            exact ⟨meth, c, h1, h2, h3, h4, h5, h6⟩
        · intro p e s m args below meth c s₁ B hml hP _
          obtain ⟨rfl, hrep, hK, hSt⟩ := hP
          have hts := atoms_spec (ws := mj_cw G y :: mj_TS G) B.pre
          have hexc : c.exceptionTable.toList.map mj_ent = mj_mh G y := by
            have h9 := hts _ List.mem_cons_self
            have hc : meth.code = some c := (Stand.of_body B).code
            unfold mj_cw mj_cd at h9
            split at h9
            · next hh =>
              have := B.noHandlers h9
              rw [hh]
              have e : c.exceptionTable = #[] := by simpa using this
              rw [e]
              rfl
            · obtain ⟨m9, meth9, c9, hn9, h1, h2, -, -, h3, -⟩ := Cond.codeWith_spec h9
              cases B.named.symm.trans hn9
              cases B.method.symm.trans h1
              cases hc.symm.trans h2
              exact h3
          have hh0 : s₁.heap = s.heap := by rw [B.state]; rfl
          have Cx : mj_Cx p l e (headSpec (mj_cw G y :: mj_TS G) (mj_rm (n + 1) h)).room s m (as.map (mj_tr ad)).toArray below meth c G D tys ad bi z nL (mj_Z below s (mj_Qc D (mj_cl G) tys ad bi z (mj_xn G) h.2.1 h.2.2.1 Q s)) h.2.1 h.2.2.1 (mj_mb G y) cst (mj_mn G y).cls (mj_mr G y) (decide ((mj_mn G y).name = "<init>")) hxl.isEmpty n Q := by
            refine ⟨B.exec, B.bytes, by rw [g1]; exact hml, findClass_of_methodNamed B.named, fun w hw => hts w (List.mem_cons_of_mem _ hw), hgood, hK, hSt, ⟨rfl, rfl⟩, rfl, rfl, B.notSynchronized, B.returns, fun h9 => ?_, fun h9 => ?_, htr e, hty, had, rfl⟩
            · rw [(name_of_methodNamed B.named B.method).1]
              exact of_decide_eq_true h9
            · have : hxl = [] := by simpa using h9
              subst this
              have h8 := mj_okH_nil g5
              rw [h8] at hexc
              simpa using hexc
          have key := hM (mj_J p l e (headSpec (mj_cw G y :: mj_TS G) (mj_rm (n + 1) h)).room s m (as.map (mj_tr ad)).toArray below meth c D (mj_cl G) tys ad bi z nL (mj_off os) (mj_Z below s (mj_Qc D (mj_cl G) tys ad bi z (mj_xn G) h.2.1 h.2.2.1 Q s)) h.2.1 h.2.2.1)
            (fun pc ls st h9 hs => mj_sg_ok Cx (by rw [hexc]; exact g5) (fun h9 => by simpa using h9) (fun ad2 z2 y as h Qp hq => ih ad2 z2 y as h Qp hq) (fun pc b i hi => g6 pc b i hi) (fun _ _ _ _ hJ => hJ) 400 true pc ls st h9 hs)
          have hle : (lg_sl (as.map (mj_tr ad))).length ≤ nL := by rw [mj_wt_sl, mj_wt_tr]; exact hw
          have hl := lv_entry (as.map (mj_tr ad)) (n := nL) hle
          rw [← mj_lv_lay ad as 0 nL] at hl
          have hW := key s.heap [] 0 0 _ hl hrep va_S.rf (by omega) (by omega)
          rw [g2] at hW
          obtain ⟨t, a1, o, b1, b2, b3⟩ := hW s₁ hh0 (Stand.of_body B)
          refine ⟨t, o, ?_, b1, b2, b3⟩
          rw [← g1, lg_entry_eq]
          exact a1
      · exact hM.elim
end
