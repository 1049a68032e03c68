section MJB2
variable {p : Program} {l : Launch} {e : Env} {R : Room} {s : State} {m : MethodId} {args : Array Value} {below : List Frame} {meth : Method} {c : Code}
variable {G : mj_G} {D : va_G} {tys : List (ClassId × FieldType)} {ad : Nat → Nat} {bi : Nat} {z : Nat → Prop} {nL : Nat} {off : Nat → Nat} {QQ : State → Prop} {b0 b1 : Nat} {cc : ByteArray} {pc : Nat} {ls : mj_L} {st r : List Value} {h : mj_H}
variable {cst : Nat → Option (Nat × (Nat → Int32))} {own : String} {rt : Option FieldType} {ini nh : Bool} {n : Nat} {Q : mj_R → Prop} {hd : Nat → Nat → Option (Option (Nat × Nat))} {k : Nat → mj_L → List Value → mj_H → Prop} {call : Nat → List Value → mj_H → (mj_R → Prop) → Prop}
theorem mj_putv {kk : mj_O → Prop} {ci j t : Nat} {fs : List Value} {ty : FieldType} {v : Value} (ad : Nat → Nat) (h : mj_put kk ci fs j t v) (ht : mj_okT t ty) : kk (.inr (.inl (ci, mj_stn fs j v))) ∧ narrow ty (mj_tr ad v) = mj_tr ad v ∧ fits ty (mj_tr ad v) = true := by
  unfold mj_put at h
  split at h
  · have ht : ty = .int := ht
    subst ht
    exact ⟨h, rfl, rfl⟩
  · have ht : ty = .long := ht
    subst ht
    exact ⟨h, rfl, rfl⟩
  · rcases ht with ⟨n, rfl⟩ | ⟨a, rfl⟩
    · exact ⟨h, rfl, rfl⟩
    · exact ⟨h, rfl, rfl⟩
  · rcases ht with rfl | rfl
    · rcases h.1 with rfl | rfl
      · exact ⟨h.2, rfl, rfl⟩
      · exact ⟨h.2, rfl, rfl⟩
    · rcases h.1 with rfl | rfl
      · exact ⟨h.2, rfl, rfl⟩
      · exact ⟨h.2, rfl, rfl⟩
  · exact h.elim
theorem mj_st_putfield (Cx : mj_Cx p l e R s m args below meth c G D tys ad bi z nL QQ b0 b1 cc cst own rt ini nh n Q) (hk : ∀ pc ls st h, k pc ls st h → mj_J p l e R s m args below meth c D (mj_cl G) tys ad bi z nL off QQ b0 b1 pc ls st h) {f : Nat} (hok : mj_OK G own cc nL off rt ini nh pc (.putfield f)) (hs : mj_stp call cst (mj_nw G) hd Q k (.putfield f) pc ls st h) : mj_J p l e R s m args below meth c D (mj_cl G) tys ad bi z nL off QQ b0 b1 pc ls st h := by
  obtain ⟨hx, hb, hml, hown, hts, hgood, hK, hSt, hR, hRf, hRl, hlocks, hrt, hini, hnh, htr, hty, had, hQQ⟩ := Cx
  obtain ⟨j, C, T, N, hd, ho, ⟨g1, g2, g3, g4⟩, g5, g6, g7, g8⟩ := hok
  simp only [mj_stp] at hs
  split at hs
  · next v a r =>
    split at hs
    · next ci fs ha =>
      split at hs
      · next hc hlen =>
        have hc : ci = f / 256 := Nat.eq_of_beq_eq_true hc
        have hlen : f / 4 % 64 < fs.length := Nat.le_of_ble_eq_true hlen
        subst hc
        obtain ⟨q1, q2, q3⟩ := mj_putv ad hs g7
        rcases g8 with g8 | ⟨g8, g9, g10⟩
        · exact mj_so_put hx hb hown hts hK (mj_tf G (f / 256)) g3 g4 ha g1 g5 g6 g2 g8 q2 q3 hlen hd ho (hk _ _ _ _ q1)
        · exact mj_so_putF hx hb hown hts hK (mj_tf G (f / 256)) g3 g4 ha g1 g5 g6 g2 g8 (hini g9) g10 q2 q3 hlen hd ho (hk _ _ _ _ q1)
      · exact hs.elim
    · exact hs.elim
  · exact hs.elim
theorem mj_st_new (Cx : mj_Cx p l e R s m args below meth c G D tys ad bi z nL QQ b0 b1 cc cst own rt ini nh n Q) (hk : ∀ pc ls st h, k pc ls st h → mj_J p l e R s m args below meth c D (mj_cl G) tys ad bi z nL off QQ b0 b1 pc ls st h) {w : Nat} (hok : mj_OK G own cc nL off rt ini nh pc (.new w)) (hs : mj_stp call cst (mj_nw G) hd Q k (.new w) pc ls st h) : mj_J p l e R s m args below meth c D (mj_cl G) tys ad bi z nL off QQ b0 b1 pc ls st h := by
  obtain ⟨hx, hb, hml, hown, hts, hgood, hK, hSt, hR, hRf, hRl, hlocks, hrt, hini, hnh, htr, hty, had, hQQ⟩ := Cx
  obtain ⟨j, C, T, N, fs, hd, ho, ⟨g1, g2, g3, g4⟩, g5, g6, g7, g8, g9, g10⟩ := hok
  simp only [mj_stp, g5] at hs
  split at hs
  · next fs' os bc bs e1 =>
    cases e1
    obtain ⟨q1, q2, q3⟩ := hs
    refine mj_so_new hx hb trivial hown hts hK hR (mj_tf G w) g3 g1 g8 g9 g10 g2 (fun k hk => ?_) g6 q1 q2 hd ho (hk _ _ _ _ q3)
    have e2 := g7 k hk
    unfold vp_V
    rw [List.getD_eq_getElem?_getD, List.getElem?_map, e2]
    cases mj_tf G w k <;> rfl
  · exact hs.elim
theorem mj_st_newarray (Cx : mj_Cx p l e R s m args below meth c G D tys ad bi z nL QQ b0 b1 cc cst own rt ini nh n Q) (hk : ∀ pc ls st h, k pc ls st h → mj_J p l e R s m args below meth c D (mj_cl G) tys ad bi z nL off QQ b0 b1 pc ls st h) {t : ArrayType} (hok : mj_OK G own cc nL off rt ini nh pc (.newarray t)) (hs : mj_stp call cst (mj_nw G) hd Q k (.newarray t) pc ls st h) : mj_J p l e R s m args below meth c D (mj_cl G) tys ad bi z nL off QQ b0 b1 pc ls st h := by
  obtain ⟨hx, hb, hml, hown, hts, hgood, hK, hSt, hR, hRf, hRl, hlocks, hrt, hini, hnh, htr, hty, had, hQQ⟩ := Cx
  obtain ⟨c0, c1, c2, c3, c4, hty⟩ := hty
  subst hty
  obtain ⟨hd, ho, g1⟩ := hok
  simp only [mj_stp] at hs
  split at hs
  · next g w r os bc bs e1 =>
    split at hs
    · next a e2 =>
      obtain ⟨q1, q2, q3, q4, q5⟩ := hs
      cases t <;> simp only [mj_tag, Option.some.injEq, reduceCtorEq] at e1 <;> subst e1 <;> simp only [mj_fresh, Option.some.injEq] at e2 <;> subst e2
      · exact mj_so_newa (cA := c3) (ty := .boolean) (t := 3) hx hb trivial hK hR hts rfl g1 rfl rfl (fun cA => rfl) q2 q4 (by decide) q1 q3 hd ho (hk _ _ _ _ q5)
      · exact mj_so_newa (cA := c2) (ty := .char) (t := 2) hx hb trivial hK hR hts rfl g1 rfl rfl (fun cA => rfl) q2 q4 (by decide) q1 q3 hd ho (hk _ _ _ _ q5)
      · exact mj_so_newa (cA := c4) (ty := .byte) (t := 4) hx hb trivial hK hR hts rfl g1 rfl rfl (fun cA => rfl) q2 q4 (by decide) q1 q3 hd ho (hk _ _ _ _ q5)
      · exact mj_so_newa (cA := c0) (ty := .int) (t := 0) hx hb trivial hK hR hts rfl g1 rfl rfl (fun cA => rfl) q2 q4 (by decide) q1 q3 hd ho (hk _ _ _ _ q5)
      · exact mj_so_newa (cA := c1) (ty := .long) (t := 1) hx hb trivial hK hR hts rfl g1 rfl rfl (fun cA => rfl) q2 q4 (by decide) q1 q3 hd ho (hk _ _ _ _ q5)
    · exact hs.elim
  · exact hs.elim
theorem mj_st_iaload (Cx : mj_Cx p l e R s m args below meth c G D tys ad bi z nL QQ b0 b1 cc cst own rt ini nh n Q) (hk : ∀ pc ls st h, k pc ls st h → mj_J p l e R s m args below meth c D (mj_cl G) tys ad bi z nL off QQ b0 b1 pc ls st h) (hok : mj_OK G own cc nL off rt ini nh pc (.iaload)) (hs : mj_stp call cst (mj_nw G) hd Q k (.iaload) pc ls st h) : mj_J p l e R s m args below meth c D (mj_cl G) tys ad bi z nL off QQ b0 b1 pc ls st h := by
  obtain ⟨hx, hb, hml, hown, hts, hgood, hK, hSt, hR, hRf, hRl, hlocks, hrt, hini, hnh, htr, hty, had, hQQ⟩ := Cx
  obtain ⟨c0, c1, c2, c3, c4, hty⟩ := hty
  subst hty
  simp only [mj_stp] at hs
  split at hs
  · split at hs
    · split at hs
      · next e1 e2 =>
        exact mj_so_cald0 hx hb ((hSt.1 _ _ _ e1).1 (Nat.le_of_ble_eq_true e2)) hs.1 hok.1 hok.2 (hk _ _ _ _ hs.2)
      · exact hs.elim
    · split at hs
      · next ha => exact mj_so_iald hx hb hK rfl ha hs.1 hok.1 hok.2 (hk _ _ _ _ hs.2)
      · exact hs.elim
  · exact hs.elim
theorem mj_st_laload (Cx : mj_Cx p l e R s m args below meth c G D tys ad bi z nL QQ b0 b1 cc cst own rt ini nh n Q) (hk : ∀ pc ls st h, k pc ls st h → mj_J p l e R s m args below meth c D (mj_cl G) tys ad bi z nL off QQ b0 b1 pc ls st h) (hok : mj_OK G own cc nL off rt ini nh pc (.laload)) (hs : mj_stp call cst (mj_nw G) hd Q k (.laload) pc ls st h) : mj_J p l e R s m args below meth c D (mj_cl G) tys ad bi z nL off QQ b0 b1 pc ls st h := by
  obtain ⟨hx, hb, hml, hown, hts, hgood, hK, hSt, hR, hRf, hRl, hlocks, hrt, hini, hnh, htr, hty, had, hQQ⟩ := Cx
  obtain ⟨c0, c1, c2, c3, c4, hty⟩ := hty
  subst hty
  simp only [mj_stp] at hs
  split at hs
  · split at hs
    · next ha => exact mj_so_lald hx hb hK rfl ha hs.1 hok.1 hok.2 (hk _ _ _ _ hs.2)
    · exact hs.elim
  · exact hs.elim
theorem mj_st_caload (Cx : mj_Cx p l e R s m args below meth c G D tys ad bi z nL QQ b0 b1 cc cst own rt ini nh n Q) (hk : ∀ pc ls st h, k pc ls st h → mj_J p l e R s m args below meth c D (mj_cl G) tys ad bi z nL off QQ b0 b1 pc ls st h) (hok : mj_OK G own cc nL off rt ini nh pc (.caload)) (hs : mj_stp call cst (mj_nw G) hd Q k (.caload) pc ls st h) : mj_J p l e R s m args below meth c D (mj_cl G) tys ad bi z nL off QQ b0 b1 pc ls st h := by
  obtain ⟨hx, hb, hml, hown, hts, hgood, hK, hSt, hR, hRf, hRl, hlocks, hrt, hini, hnh, htr, hty, had, hQQ⟩ := Cx
  obtain ⟨c0, c1, c2, c3, c4, hty⟩ := hty
  subst hty
  simp only [mj_stp] at hs
  split at hs
  · split at hs
    · next ha => exact mj_so_cald hx hb hK rfl ha hs.1 hok.1 hok.2 (hk _ _ _ _ hs.2)
    · exact hs.elim
  · exact hs.elim
theorem mj_st_baload (Cx : mj_Cx p l e R s m args below meth c G D tys ad bi z nL QQ b0 b1 cc cst own rt ini nh n Q) (hk : ∀ pc ls st h, k pc ls st h → mj_J p l e R s m args below meth c D (mj_cl G) tys ad bi z nL off QQ b0 b1 pc ls st h) (hok : mj_OK G own cc nL off rt ini nh pc (.baload)) (hs : mj_stp call cst (mj_nw G) hd Q k (.baload) pc ls st h) : mj_J p l e R s m args below meth c D (mj_cl G) tys ad bi z nL off QQ b0 b1 pc ls st h := by
  obtain ⟨hx, hb, hml, hown, hts, hgood, hK, hSt, hR, hRf, hRl, hlocks, hrt, hini, hnh, htr, hty, had, hQQ⟩ := Cx
  obtain ⟨c0, c1, c2, c3, c4, hty⟩ := hty
  subst hty
  simp only [mj_stp] at hs
  split at hs
  · split at hs
    · split at hs
      · next e1 e2 e3 =>
        exact mj_so_cbld hx hb ((hSt.1 _ _ _ e1).2.1 (Nat.le_of_ble_eq_true e2) (Nat.le_of_ble_eq_true e3)) hs.1 hok.1 hok.2 (hk _ _ _ _ hs.2)
      · exact hs.elim
    · split at hs
      · next ha => exact mj_so_zald hx hb hK rfl ha hs.1 hok.1 hok.2 (hk _ _ _ _ hs.2)
      · next ha => exact mj_so_bald hx hb hK rfl ha hs.1 hok.1 hok.2 (hk _ _ _ _ hs.2)
      · exact hs.elim
  · exact hs.elim
theorem mj_st_iastore (Cx : mj_Cx p l e R s m args below meth c G D tys ad bi z nL QQ b0 b1 cc cst own rt ini nh n Q) (hk : ∀ pc ls st h, k pc ls st h → mj_J p l e R s m args below meth c D (mj_cl G) tys ad bi z nL off QQ b0 b1 pc ls st h) (hok : mj_OK G own cc nL off rt ini nh pc (.iastore)) (hs : mj_stp call cst (mj_nw G) hd Q k (.iastore) pc ls st h) : mj_J p l e R s m args below meth c D (mj_cl G) tys ad bi z nL off QQ b0 b1 pc ls st h := by
  obtain ⟨hx, hb, hml, hown, hts, hgood, hK, hSt, hR, hRf, hRl, hlocks, hrt, hini, hnh, htr, hty, had, hQQ⟩ := Cx
  obtain ⟨c0, c1, c2, c3, c4, hty⟩ := hty
  subst hty
  simp only [mj_stp] at hs
  split at hs
  · split at hs
    · next ha => exact mj_so_iast hx hb hK rfl ha hs.1 hok.1 hok.2 (hk _ _ _ _ hs.2)
    · exact hs.elim
  · exact hs.elim
theorem mj_st_lastore (Cx : mj_Cx p l e R s m args below meth c G D tys ad bi z nL QQ b0 b1 cc cst own rt ini nh n Q) (hk : ∀ pc ls st h, k pc ls st h → mj_J p l e R s m args below meth c D (mj_cl G) tys ad bi z nL off QQ b0 b1 pc ls st h) (hok : mj_OK G own cc nL off rt ini nh pc (.lastore)) (hs : mj_stp call cst (mj_nw G) hd Q k (.lastore) pc ls st h) : mj_J p l e R s m args below meth c D (mj_cl G) tys ad bi z nL off QQ b0 b1 pc ls st h := by
  obtain ⟨hx, hb, hml, hown, hts, hgood, hK, hSt, hR, hRf, hRl, hlocks, hrt, hini, hnh, htr, hty, had, hQQ⟩ := Cx
  obtain ⟨c0, c1, c2, c3, c4, hty⟩ := hty
  subst hty
  simp only [mj_stp] at hs
  split at hs
  · split at hs
    · next ha => exact mj_so_last hx hb hK rfl ha hs.1 hok.1 hok.2 (hk _ _ _ _ hs.2)
    · exact hs.elim
  · exact hs.elim
theorem mj_st_castore (Cx : mj_Cx p l e R s m args below meth c G D tys ad bi z nL QQ b0 b1 cc cst own rt ini nh n Q) (hk : ∀ pc ls st h, k pc ls st h → mj_J p l e R s m args below meth c D (mj_cl G) tys ad bi z nL off QQ b0 b1 pc ls st h) (hok : mj_OK G own cc nL off rt ini nh pc (.castore)) (hs : mj_stp call cst (mj_nw G) hd Q k (.castore) pc ls st h) : mj_J p l e R s m args below meth c D (mj_cl G) tys ad bi z nL off QQ b0 b1 pc ls st h := by
  obtain ⟨hx, hb, hml, hown, hts, hgood, hK, hSt, hR, hRf, hRl, hlocks, hrt, hini, hnh, htr, hty, had, hQQ⟩ := Cx
  obtain ⟨c0, c1, c2, c3, c4, hty⟩ := hty
  subst hty
  simp only [mj_stp] at hs
  split at hs
  · split at hs
    · next ha => exact mj_so_cast hx hb hK rfl ha hs.1 hok.1 hok.2 (hk _ _ _ _ hs.2)
    · exact hs.elim
  · exact hs.elim
theorem mj_st_bastore (Cx : mj_Cx p l e R s m args below meth c G D tys ad bi z nL QQ b0 b1 cc cst own rt ini nh n Q) (hk : ∀ pc ls st h, k pc ls st h → mj_J p l e R s m args below meth c D (mj_cl G) tys ad bi z nL off QQ b0 b1 pc ls st h) (hok : mj_OK G own cc nL off rt ini nh pc (.bastore)) (hs : mj_stp call cst (mj_nw G) hd Q k (.bastore) pc ls st h) : mj_J p l e R s m args below meth c D (mj_cl G) tys ad bi z nL off QQ b0 b1 pc ls st h := by
  obtain ⟨hx, hb, hml, hown, hts, hgood, hK, hSt, hR, hRf, hRl, hlocks, hrt, hini, hnh, htr, hty, had, hQQ⟩ := Cx
  obtain ⟨c0, c1, c2, c3, c4, hty⟩ := hty
  subst hty
  simp only [mj_stp] at hs
  split at hs
  · split at hs
    · next ha => exact mj_so_zast hx hb hK rfl ha hs.1 hok.1 hok.2 (hk _ _ _ _ hs.2)
    · next ha => exact mj_so_bast hx hb hK rfl ha hs.1 hok.1 hok.2 (hk _ _ _ _ hs.2)
    · exact hs.elim
  · exact hs.elim
theorem mj_st_monitorenter (Cx : mj_Cx p l e R s m args below meth c G D tys ad bi z nL QQ b0 b1 cc cst own rt ini nh n Q) (hk : ∀ pc ls st h, k pc ls st h → mj_J p l e R s m args below meth c D (mj_cl G) tys ad bi z nL off QQ b0 b1 pc ls st h) (hok : mj_OK G own cc nL off rt ini nh pc (.monitorenter)) (hs : mj_stp call cst (mj_nw G) hd Q k (.monitorenter) pc ls st h) : mj_J p l e R s m args below meth c D (mj_cl G) tys ad bi z nL off QQ b0 b1 pc ls st h := by
  obtain ⟨hx, hb, hml, hown, hts, hgood, hK, hSt, hR, hRf, hRl, hlocks, hrt, hini, hnh, htr, hty, had, hQQ⟩ := Cx
  obtain ⟨j, hd, ho, g1, g2, g3⟩ := hok
  simp only [mj_stp] at hs
  split at hs
  · split at hs
    · next hw =>
      have hw := Nat.le_of_ble_eq_true hw
      exact mj_so_obj hx hb hown hts hml g1 g2 g3 (by omega) (by omega) hd ho (hk _ _ _ _ hs)
    · exact hs.elim
  · exact hs.elim
theorem mj_st_math (Cx : mj_Cx p l e R s m args below meth c G D tys ad bi z nL QQ b0 b1 cc cst own rt ini nh n Q) (hk : ∀ pc ls st h, k pc ls st h → mj_J p l e R s m args below meth c D (mj_cl G) tys ad bi z nL off QQ b0 b1 pc ls st h) {w : Nat} (hok : mj_OK G own cc nL off rt ini nh pc (.invokedynamic w)) (hs : mj_stp call cst (mj_nw G) hd Q k (.invokedynamic w) pc ls st h) : mj_J p l e R s m args below meth c D (mj_cl G) tys ad bi z nL off QQ b0 b1 pc ls st h := by
  obtain ⟨hx, hb, hml, hown, hts, hgood, hK, hSt, hR, hRf, hRl, hlocks, hrt, hini, hnh, htr, hty, had, hQQ⟩ := Cx
  obtain ⟨j, hd, ho, g1, g2⟩ := hok
  simp only [mj_stp] at hs
  split at hs
  · split at hs
    · next hw =>
      have hw := Nat.le_of_ble_eq_true hw
      exact mj_so_max hx hb hml hown hts hR g2.1 g2.2.1 g1 g2.2.2 (by omega) (by omega) hd ho (hk _ _ _ _ hs)
    · exact hs.elim
  · split at hs
    · next hw =>
      have hw := Nat.le_of_ble_eq_true hw
      exact mj_so_min hx hb hml hown hts hR g2.1 g2.2.1 g1 g2.2.2 (by omega) (by omega) hd ho (hk _ _ _ _ hs)
    · exact hs.elim
  · exact hs.elim
theorem mj_st_arraylength (Cx : mj_Cx p l e R s m args below meth c G D tys ad bi z nL QQ b0 b1 cc cst own rt ini nh n Q) (hk : ∀ pc ls st h, k pc ls st h → mj_J p l e R s m args below meth c D (mj_cl G) tys ad bi z nL off QQ b0 b1 pc ls st h) (hok : mj_OK G own cc nL off rt ini nh pc (.arraylength)) (hs : mj_stp call cst (mj_nw G) hd Q k (.arraylength) pc ls st h) : mj_J p l e R s m args below meth c D (mj_cl G) tys ad bi z nL off QQ b0 b1 pc ls st h := by
  obtain ⟨hx, hb, hml, hown, hts, hgood, hK, hSt, hR, hRf, hRl, hlocks, hrt, hini, hnh, htr, hty, had, hQQ⟩ := Cx
  obtain ⟨c0, c1, c2, c3, c4, hty⟩ := hty
  subst hty
  simp only [mj_stp] at hs
  split at hs
  · split at hs
    · split at hs
      · next e1 e2 =>
        obtain ⟨ty, hT⟩ := (hSt.1 _ _ _ e1).row (Nat.le_of_ble_eq_true e2)
        exact mj_so_clen0 hx hb hT hok.1 hok.2 (hk _ _ _ _ hs)
      · exact hs.elim
    · split at hs
      · next t w y ha =>
        split at hs
        · next ht =>
          have ht : t < 5 := Nat.le_of_ble_eq_true ht
          obtain ⟨x, hx5⟩ : ∃ x, ([(c0, FieldType.int), (c1, .long), (c2, .char), (c3, .boolean), (c4, .byte)] : List (ClassId × FieldType))[t]? = some x := ⟨_, List.getElem?_eq_getElem ht⟩
          exact mj_so_alen hx hb hK (cA := x.1) (ty := x.2) hx5 ha hok.1 hok.2 (hk _ _ _ _ hs)
        · exact hs.elim
      · exact hs.elim
  · exact hs.elim
theorem mj_st_throw (Cx : mj_Cx p l e R s m args below meth c G D tys ad bi z nL QQ b0 b1 cc cst own rt ini nh n Q) (hk : ∀ pc ls st h, k pc ls st h → mj_J p l e R s m args below meth c D (mj_cl G) tys ad bi z nL off QQ b0 b1 pc ls st h) {q : Nat} (hnd : nh = true → ∀ pc q, hd pc q = some none) (hok : mj_OK G own cc nL off rt ini nh pc (.checkcast q)) (hs : mj_stp call cst (mj_nw G) hd Q k (.checkcast q) pc ls st h) : mj_J p l e R s m args below meth c D (mj_cl G) tys ad bi z nL off QQ b0 b1 pc ls st h := by
  obtain ⟨hx, hb, hml, hown, hts, hgood, hK, hSt, hR, hRf, hRl, hlocks, hrt, hini, hnh, htr, hty, had, hQQ⟩ := Cx
  obtain ⟨g0, ia, ib, ic, tx, g1, g2, g3, g4, g5, g6, g7, g8, g9, g10, g11, g12, g13⟩ := hok
  simp only [mj_stp] at hs
  split at hs
  · next hw =>
    have hw := Nat.le_of_ble_eq_true hw
    obtain ⟨q1, q2⟩ := hs
    unfold mj_thr at q2
    rw [hnd g0] at q2
    exact mj_so_throw hx hb hml hown hlocks htr hts hSt hR (by omega) (by omega) hQQ g6 g7 g8 g9 g10 g11 g12 g13 hw q1 g1 g2 g3 g4 g5 (fun x hx9 => by rw [hnh g0] at hx9; cases hx9) q2
  · exact hs.elim
theorem mj_st_copy (Cx : mj_Cx p l e R s m args below meth c G D tys ad bi z nL QQ b0 b1 cc cst own rt ini nh n Q) (hk : ∀ pc ls st h, k pc ls st h → mj_J p l e R s m args below meth c D (mj_cl G) tys ad bi z nL off QQ b0 b1 pc ls st h) {w : Nat} (hok : mj_OK G own cc nL off rt ini nh pc (.invokestatic w)) (hs : mj_stp call cst (mj_nw G) hd Q k (.invokestatic w) pc ls st h) : mj_J p l e R s m args below meth c D (mj_cl G) tys ad bi z nL off QQ b0 b1 pc ls st h := by
  obtain ⟨hx, hb, hml, hown, hts, hgood, hK, hSt, hR, hRf, hRl, hlocks, hrt, hini, hnh, htr, hty, had, hQQ⟩ := Cx
  obtain ⟨c0, c1, c2, c3, c4, hty⟩ := hty
  subst hty
  obtain ⟨j, hd, ho, g1, g2, g3, g4⟩ := hok
  simp only [mj_stp] at hs
  split at hs
  · next n dp a sp a0 r =>
    split at hs
    · next n0 f n1 g hw ha0 ha =>
      have hw := Nat.le_of_ble_eq_true hw
      obtain ⟨q1, q2, q3, q4, q5, q6, q7⟩ := hs
      have e : nativeFrameWords "java/lang/System" "arraycopy" 5 ≤ 200 := by decide +kernel
      have hlo : mj_wt r + (nativeFrameWords "java/lang/System" "arraycopy" 5 + 11) ≤ R.locals := by rw [hRl]; omega
      have hfr : 1 ≤ R.frames := by rw [hRf]; omega
      exact mj_so_copy (cA := c4) hx hb hml hown hts hK g1 g2 g3 g4 rfl ha0 ha q1 q2 q3 q4 q5 q6 hfr hlo hd ho (hk _ _ _ _ q7)
    · exact hs.elim
  · exact hs.elim
theorem mj_st_ccopy (Cx : mj_Cx p l e R s m args below meth c G D tys ad bi z nL QQ b0 b1 cc cst own rt ini nh n Q) (hk : ∀ pc ls st h, k pc ls st h → mj_J p l e R s m args below meth c D (mj_cl G) tys ad bi z nL off QQ b0 b1 pc ls st h) {w : Nat} (hok : mj_OK G own cc nL off rt ini nh pc (.fload w)) (hs : mj_stp call cst (mj_nw G) hd Q k (.fload w) pc ls st h) : mj_J p l e R s m args below meth c D (mj_cl G) tys ad bi z nL off QQ b0 b1 pc ls st h := by
  obtain ⟨hx, hb, hml, hown, hts, hgood, hK, hSt, hR, hRf, hRl, hlocks, hrt, hini, hnh, htr, hty, had, hQQ⟩ := Cx
  obtain ⟨c0, c1, c2, c3, c4, hty⟩ := hty
  subst hty
  obtain ⟨j, hd, ho, g1, g2, g3, g4⟩ := hok
  simp only [mj_stp] at hs
  split at hs
  · next n dp a sp a0 r =>
    split at hs
    · next n0 f n1 g hw ha0 ha =>
      have hw := Nat.le_of_ble_eq_true hw
      obtain ⟨q8, q9, q1, q2, q3, q4, q5, q6, q7⟩ := hs
      have e : nativeFrameWords "java/lang/System" "arraycopy" 5 ≤ 200 := by decide +kernel
      have hlo : mj_wt r + (nativeFrameWords "java/lang/System" "arraycopy" 5 + 11) ≤ R.locals := by rw [hRl]; omega
      have hfr : 1 ≤ R.frames := by rw [hRf]; omega
      exact mj_so_ccopy (cA := c4) hx hb hml hown hts hK g1 g2 g3 g4 rfl ((hSt.1 _ _ _ ha0).2.1 q8 q9) ha q1 q2 q3 q4 q5 q6 hfr hlo hd ho (hk _ _ _ _ q7)
    · exact hs.elim
  · exact hs.elim
theorem mj_st_scall (Cx : mj_Cx p l e R s m args below meth c G D tys ad bi z nL QQ b0 b1 cc cst own rt ini nh n Q) (hk : ∀ pc ls st h, k pc ls st h → mj_J p l e R s m args below meth c D (mj_cl G) tys ad bi z nL off QQ b0 b1 pc ls st h) {w : Nat} (hM : ∀ y as h Qp, call y as h Qp → MetFree l (mj_mn G y) (headSpec (mj_cw G y :: mj_TS G) (mj_rm n h)) (mj_Pc D (mj_cl G) tys ad bi z cst (mj_nc G) as h) (fun _ _ _ _ _ => True) (fun _ => mj_Qc D (mj_cl G) tys ad bi z (mj_xn G) h.2.1 h.2.2.1 Qp)) (hH : ∀ q ls h, mj_thr hd Q k pc ls q h → mj_JT p l e R s m args below meth c D (mj_cl G) tys ad bi z nL off QQ b0 b1 (mj_xn G) pc ls q h) (hok : mj_OK G own cc nL off rt ini nh pc (.instanceof w)) (hs : mj_stp call cst (mj_nw G) hd Q k (.instanceof w) pc ls st h) : mj_J p l e R s m args below meth c D (mj_cl G) tys ad bi z nL off QQ b0 b1 pc ls st h := by
  obtain ⟨hx, hb, hml, hown, hts, hgood, hK, hSt, hR, hRf, hRl, hlocks, hrt, hini, hnh, htr, hty, had, hQQ⟩ := Cx
  obtain ⟨ho, g1, g2, g3, g4, j, g5, hdc, g7, g9, g10⟩ := hok
  simp only [mj_stp] at hs
  split at hs
  · next a as r hp =>
    split at hs
    · next x ec he hw =>
      have hw := Nat.le_of_ble_eq_true hw
      obtain ⟨f, e1, e2, e3⟩ := mj_pop_eq hp
      rw [List.append_nil] at e2
      generalize w / 1024 = y at *
      have hws : ∀ v ∈ mj_cw G y :: mj_TS G, ∀ (a' : Array Value) (U : State), s.WarmedH U.vm → v.before a' U = true := fun v hv a' U hW => by
        rcases List.mem_cons.mp hv with rfl | hv
        · exact mj_wat hW (hgood _ g1) (hts _ g1)
        · exact mj_wat hW (hgood _ hv) (hts _ hv)
      have hin9 : ∀ (a' : Array Value) (U : State), s.WarmedH U.vm → (Cond.initialized (mj_mn G y).cls).before a' U = true := fun a' U hW => mj_wat hW (hgood _ g3) (hts _ g3)
      have kret : ∀ v h', mj_after hd Q k pc ls r (.inl v, h') → mj_J p l e R s m args below meth c D (mj_cl G) tys ad bi z nL off QQ b0 b1 (pc + 1) ls (v.toList ++ r) h' := fun v h' h9 => by
        cases v with
        | none => exact hk _ _ _ _ h9
        | some v => exact hk _ _ _ _ h9
      have hcd : mj_cd (mj_mn G y) (mj_mb G y) (mj_ml G y) (mj_mr G y) (mj_mh G y) ∈ mj_cw G y :: mj_TS G := List.mem_cons_self
      have hcs : (mj_cd (mj_mn G y) (mj_mb G y) (mj_ml G y) (mj_mr G y) (mj_mh G y)).before args s = true := hts _ g1
      have hfr : (mj_rm n h).frames + 1 ≤ R.frames := by rw [hRf]; exact Nat.le_refl _
      have hlo : 8 + (mj_ml G y + 11) + (mj_rm n h).locals ≤ R.locals := by rw [hRl]; show 8 + (mj_ml G y + 11) + (300 + 64 * n) ≤ _; omega
      have ef : f = as.reverse ++ [.ref a] := by rw [← List.reverse_reverse f, ← e2]; simp
      have hO := ((hSt.1 a x.1 x.2 ec).2.2 (Nat.le_of_ble_eq_true he)).1
      have hM2 := hM _ _ _ _ hs
      refine mj_so_call hx hb hml hK hSt hR hM2 rfl rfl hfr hlo hw hws hcd hin9 hdc ho (fun T9 H9 locs9 k9 n9 L9 hT9 hr9 hS9 X9 => ?_) kret (fun q h' h9 => hH q ls h' h9)
      obtain ⟨cellB, c1, c2, c3, -⟩ := hO.kept hS9.2.1
      refine mj_invV (C := "java/lang/String") X9 hx hown (hts _ g5) (hts _ g7) (hts _ g9) hcs g4 (b := ad a) (cellB := cellB) (by rw [hT9]; exact c1) c2 c3 (As := as.map (mj_tr ad)) rfl ?_ ?_ (by rw [hb]; exact hdc)
      · have e5 : as.length + 1 = w / 4 % 16 := by rw [← e3, ef]; simp
        rw [List.length_map]
        cases hpd : parseMethodDescriptor (mj_mn G y).desc with
        | none => rw [hpd] at g10; cases g10
        | some sg => rw [hpd] at g10; have this : sg.parameters.length + 1 = w / 4 % 16 := Option.some.inj g10; simp only [Option.map_some, Option.some.injEq]; omega
      · show st.map (mj_tr ad) = _
        rw [e1, ef]
        simp [mj_tr]
    · exact hs.elim
  · exact hs.elim
theorem mj_st_binit (Cx : mj_Cx p l e R s m args below meth c G D tys ad bi z nL QQ b0 b1 cc cst own rt ini nh n Q) (hk : ∀ pc ls st h, k pc ls st h → mj_J p l e R s m args below meth c D (mj_cl G) tys ad bi z nL off QQ b0 b1 pc ls st h) {w : Nat} (hM : ∀ y as h Qp, call y as h Qp → MetFree l (mj_mn G y) (headSpec (mj_cw G y :: mj_TS G) (mj_rm n h)) (mj_Pc D (mj_cl G) tys ad bi z cst (mj_nc G) as h) (fun _ _ _ _ _ => True) (fun _ => mj_Qc D (mj_cl G) tys ad bi z (mj_xn G) h.2.1 h.2.2.1 Qp)) (hok : mj_OK G own cc nL off rt ini nh pc (.invokespecial w)) (hs : mj_stp call cst (mj_nw G) hd Q k (.invokespecial w) pc ls st h) : mj_J p l e R s m args below meth c D (mj_cl G) tys ad bi z nL off QQ b0 b1 pc ls st h := by
  obtain ⟨hx, hb, hml, hown, hts, hgood, hK, hSt, hR, hRf, hRl, hlocks, hrt, hini, hnh, htr, hty, had, hQQ⟩ := Cx
  obtain ⟨ho, ⟨g1, g2, g3, g4, j, g5, g6⟩, gw, gn⟩ := hok
  obtain ⟨rfl, h9⟩ := id had
  simp only [mj_stp] at hs
  split at hs
  · next a r =>
    split at hs
    · next hw =>
      have hw := Nat.le_of_ble_eq_true hw
      have h4 : w % 1024 % 4 = 2 := by omega
      have h16 : w % 1024 / 4 % 16 = 1 := by omega
      generalize w / 1024 = y at *
      have hws : ∀ v ∈ mj_cw G y :: mj_TS G, ∀ (a' : Array Value) (U : State), s.WarmedH U.vm → v.before a' U = true := fun v hv a' U hW => by
        rcases List.mem_cons.mp hv with rfl | hv
        · exact mj_wat hW (hgood _ g1) (hts _ g1)
        · exact mj_wat hW (hgood _ hv) (hts _ hv)
      have hin9 : ∀ (a' : Array Value) (U : State), s.WarmedH U.vm → (Cond.initialized (mj_mn G y).cls).before a' U = true := fun a' U hW => mj_wat hW (hgood _ g3) (hts _ g3)
      have hcd : mj_cd (mj_mn G y) (mj_mb G y) (mj_ml G y) (mj_mr G y) (mj_mh G y) ∈ mj_cw G y :: mj_TS G := List.mem_cons_self
      have hcs : (mj_cd (mj_mn G y) (mj_mb G y) (mj_ml G y) (mj_mr G y) (mj_mh G y)).before args s = true := hts _ g1
      have hfr : (mj_rm n h).frames + 1 ≤ R.frames := by rw [hRf]; exact Nat.le_refl _
      have hlo : 8 + (mj_ml G y + 11) + (mj_rm n h).locals ≤ R.locals := by rw [hRl]; show 8 + (mj_ml G y + 11) + (300 + 64 * n) ≤ _; omega
      simp only [h4] at g6
      obtain ⟨hdc, g7, g8, g9, g9r, g10⟩ := g6
      rw [h16] at g10
      have kret : ∀ v h', mj_ip k pc ls r a (.inl v, h') → mj_J p l e R s m args below meth c D (mj_cl G) tys ad 9 z nL off QQ b0 b1 (pc + 1) ls (v.toList ++ r) h' := fun v h' q9 => by
        obtain ⟨os, bc, bs, fl⟩ := h'
        cases v with
        | none =>
          obtain ⟨N, g, ml, q1, q2, q3, q4, q5⟩ := q9
          exact fun H9 locs9 k9 n9 L9 f1 f2 f3 f4 f5 => hk _ _ _ _ q5 H9 locs9 k9 n9 L9 f1 (mj_rep_cv f2 q1 q2 q3 q4) f3 f4 f5
        | some v => exact q9.elim
      have hM2 := hM y [.ref a] h _ hs
      refine mj_so_call (y := mj_mn G y) (ws := mj_cw G y :: mj_TS G) (rm := mj_rm n h) hx hb hml hK hSt hR hM2 rfl rfl hfr hlo hw hws hcd hin9 hdc ho (fun T9 H9 locs9 k9 n9 L9 hT9 hr9 hS9 X9 => ?_) kret (fun q h' q9 => False.elim (by obtain ⟨os, bc, bs, fl⟩ := h'; exact q9))
      have hcs' : (Cond.code (mj_mn G y) (mj_mb G y) (mj_ml G y) none).before args s = true := by
        have := hcs
        unfold mj_cd at this
        rw [if_pos g9, g9r] at this
        exact this
      refine mj_invI X9 hx hown g8 (hts _ g5) (hts _ g7) hcs' g4 (As := ([] : List Value).map (mj_tr ad)) (b := ad a) rfl ?_ ?_ (by rw [hb]; exact hdc)
      · rw [List.length_map]
        cases hpd : parseMethodDescriptor (mj_mn G y).desc with
        | none => rw [hpd] at g10; cases g10
        | some sg => rw [hpd] at g10; have this : sg.parameters.length + 1 = 1 := Option.some.inj g10; simp only [Option.map_some, Option.some.injEq]; show sg.parameters.length = 0; omega
      · rfl
    · exact hs.elim
  · exact hs.elim
theorem mj_st_bcall (Cx : mj_Cx p l e R s m args below meth c G D tys ad bi z nL QQ b0 b1 cc cst own rt ini nh n Q) (hk : ∀ pc ls st h, k pc ls st h → mj_J p l e R s m args below meth c D (mj_cl G) tys ad bi z nL off QQ b0 b1 pc ls st h) {w : Nat} (hM : ∀ (ad2 : Nat → Nat) (z2 : Nat → Prop) y as h Qp, call y as h Qp → MetFree l (mj_mn G y) (headSpec (mj_cw G y :: mj_TS G) (mj_rm n h)) (mj_Pc D (mj_cl G) tys ad2 bi z2 cst (mj_nc G) as h) (fun _ _ _ _ _ => True) (fun _ => mj_Qc D (mj_cl G) tys ad2 bi z2 (mj_xn G) h.2.1 h.2.2.1 Qp)) (hok : mj_OK G own cc nL off rt ini nh pc (.invokevirtual w)) (hs : mj_stp call cst (mj_nw G) hd Q k (.invokevirtual w) pc ls st h) : mj_J p l e R s m args below meth c D (mj_cl G) tys ad bi z nL off QQ b0 b1 pc ls st h := by
  obtain ⟨hx, hb, hml, hown, hts, hgood, hK, hSt, hR, hRf, hRl, hlocks, hrt, hini, hnh, htr, hty, had, hQQ⟩ := Cx
  obtain ⟨ho, ⟨g1, g2, g3, g4, j, g5, g6⟩, gc, gw⟩ := hok
  obtain ⟨rfl, h9⟩ := id had
  simp only [mj_stp] at hs
  split at hs
  · next a as r hp =>
    split at hs
    · next nb fb ha hni hw =>
      have hw := Nat.le_of_ble_eq_true hw
      obtain ⟨f, e1, e2, e3⟩ := mj_pop_eq hp
      rw [List.append_nil] at e2
      have hws : ∀ v ∈ mj_cw G (w / 1024) :: mj_TS G, ∀ (a' : Array Value) (U : State), s.WarmedH U.vm → v.before a' U = true := fun v hv a' U hW => by
        rcases List.mem_cons.mp hv with rfl | hv
        · exact mj_wat hW (hgood _ g1) (hts _ g1)
        · exact mj_wat hW (hgood _ hv) (hts _ hv)
      have hin9 : ∀ (a' : Array Value) (U : State), s.WarmedH U.vm → (Cond.initialized (mj_mn G (w / 1024)).cls).before a' U = true := fun a' U hW => mj_wat hW (hgood _ g3) (hts _ g3)
      have hcd : mj_cd (mj_mn G (w / 1024)) (mj_mb G (w / 1024)) (mj_ml G (w / 1024)) (mj_mr G (w / 1024)) (mj_mh G (w / 1024)) ∈ mj_cw G (w / 1024) :: mj_TS G := List.mem_cons_self
      have hcs : (mj_cd (mj_mn G (w / 1024)) (mj_mb G (w / 1024)) (mj_ml G (w / 1024)) (mj_mr G (w / 1024)) (mj_mh G (w / 1024))).before args s = true := hts _ g1
      have hfr : (mj_rm n h).frames + 1 ≤ R.frames := by rw [hRf]; exact Nat.le_refl _
      have hlo : 8 + (mj_ml G (w / 1024) + 11) + (mj_rm n h).locals ≤ R.locals := by rw [hRl]; show 8 + (mj_ml G (w / 1024) + 11) + (300 + 64 * n) ≤ _; omega
      have h4 : w % 1024 % 4 = 0 := by omega
      have h16 : w % 1024 / 4 % 16 = w / 4 % 16 := by omega
      simp only [h4] at g6
      obtain ⟨hdc, g7, ⟨C, T, N, g8, g9⟩, g10⟩ := g6
      rw [gc] at g8
      rw [h16] at g10
      have ef : f = as.reverse ++ [.ref a] := by rw [← List.reverse_reverse f, ← e2]; simp
      generalize w / 1024 = y at *
      have hM2 : ∀ (ad2 : Nat → Nat) (z2 : Nat → Prop) (ml : Int32) (N : Nat) (g : Nat → Int32), nb ≤ N → N ≤ 65536 → sb_Lat fb nb g → sb_Fit g → MetFree l (mj_mn G y) (headSpec (mj_cw G y :: mj_TS G) (mj_rm n h)) (mj_Pc D (mj_cl G) tys ad2 9 z2 cst (mj_nc G) (.ref 0 :: as) (mj_lo ml nb N g, h.2.1, h.2.2.1, true)) (fun _ _ _ _ _ => True) (fun _ => mj_Qc D (mj_cl G) tys ad2 9 z2 (mj_xn G) h.2.1 h.2.2.1 (mj_bp k pc ls r h a)) := fun ad2 z2 ml N g q1 q2 q3 q4 => hM ad2 z2 y (.ref 0 :: as) (mj_lo ml nb N g, h.2.1, h.2.2.1, true) _ (hs ml N g q1 q2 q3 q4)
      refine mj_so_bcall (y := mj_mn G y) (ws := mj_cw G y :: mj_TS G) (rm := mj_rm n h) hx hb hml hK hSt hR ⟨rfl, h9⟩ ha hni hM2 rfl rfl hfr hlo hw hws hcd hin9 hdc ho (fun T9 H9 locs9 k9 n9 L9 hT9 hr9 X9 => ?_) hk
      obtain ⟨⟨b, hP, hD, hB⟩, -, -⟩ := hr9
      obtain ⟨cellB, c1, c2, c3⟩ := va_recv hK hP g8 (mj_b0 (tys := tys) (ad := ad) (b := b) ha)
      refine mj_invV (C := C) X9 hx hown (hts _ g5) (hts _ g7) (hts _ g9) hcs g4 (b := ad a) (cellB := cellB) (by rw [hT9]; exact c1) c2 c3 (As := as.map (mj_tr ad)) rfl ?_ ?_ (by rw [hb]; exact hdc)
      · have e5 : as.length + 1 = w / 4 % 16 := by rw [← e3, ef]; simp
        rw [List.length_map]
        cases hpd : parseMethodDescriptor (mj_mn G y).desc with
        | none => rw [hpd] at g10; cases g10
        | some sg => rw [hpd] at g10; have this : sg.parameters.length + 1 = w / 4 % 16 := Option.some.inj g10; simp only [Option.map_some, Option.some.injEq]; omega
      · show st.map (mj_tr ad) = _
        rw [e1, ef]
        simp [mj_tr]
    · exact hs.elim
  · exact hs.elim
theorem mj_st_call (Cx : mj_Cx p l e R s m args below meth c G D tys ad bi z nL QQ b0 b1 cc cst own rt ini nh n Q) (hk : ∀ pc ls st h, k pc ls st h → mj_J p l e R s m args below meth c D (mj_cl G) tys ad bi z nL off QQ b0 b1 pc ls st h) {y w : Nat} (hM : ∀ y as h Qp, call y as h Qp → MetFree l (mj_mn G y) (headSpec (mj_cw G y :: mj_TS G) (mj_rm n h)) (mj_Pc D (mj_cl G) tys ad bi z cst (mj_nc G) as h) (fun _ _ _ _ _ => True) (fun _ => mj_Qc D (mj_cl G) tys ad bi z (mj_xn G) h.2.1 h.2.2.1 Qp)) (hH : ∀ q ls h, mj_thr hd Q k pc ls q h → mj_JT p l e R s m args below meth c D (mj_cl G) tys ad bi z nL off QQ b0 b1 (mj_xn G) pc ls q h) (hok : mj_OK G own cc nL off rt ini nh pc (.invokeinterface y w)) (hs : mj_stp call cst (mj_nw G) hd Q k (.invokeinterface y w) pc ls st h) : mj_J p l e R s m args below meth c D (mj_cl G) tys ad bi z nL off QQ b0 b1 pc ls st h := by
  obtain ⟨hx, hb, hml, hown, hts, hgood, hK, hSt, hR, hRf, hRl, hlocks, hrt, hini, hnh, htr, hty, had, hQQ⟩ := Cx
  obtain ⟨ho, g1, g2, g3, g4, j, g5, g6⟩ := hok
  simp only [mj_stp] at hs
  split at hs
  · next as r hp =>
    split at hs
    · next hrc hw =>
      have hw := Nat.le_of_ble_eq_true hw
      obtain ⟨f, e1, e2, e3⟩ := mj_pop_eq hp
      rw [List.append_nil] at e2
      have hws : ∀ w ∈ mj_cw G y :: mj_TS G, ∀ (a' : Array Value) (U : State), s.WarmedH U.vm → w.before a' U = true := fun w hw a' U hW => by
        rcases List.mem_cons.mp hw with rfl | hw
        · exact mj_wat hW (hgood _ g1) (hts _ g1)
        · exact mj_wat hW (hgood _ hw) (hts _ hw)
      have hin9 : ∀ (a' : Array Value) (U : State), s.WarmedH U.vm → (Cond.initialized (mj_mn G y).cls).before a' U = true := fun a' U hW => mj_wat hW (hgood _ g3) (hts _ g3)
      have kret : ∀ v h', mj_after hd Q k pc ls r (.inl v, h') → mj_J p l e R s m args below meth c D (mj_cl G) tys ad bi z nL off QQ b0 b1 (pc + 1) ls (v.toList ++ r) h' := fun v h' h9 => by
        cases v with
        | none => exact hk _ _ _ _ h9
        | some v => exact hk _ _ _ _ h9
      have hcd : mj_cd (mj_mn G y) (mj_mb G y) (mj_ml G y) (mj_mr G y) (mj_mh G y) ∈ mj_cw G y :: mj_TS G := List.mem_cons_self
      have hcs : (mj_cd (mj_mn G y) (mj_mb G y) (mj_ml G y) (mj_mr G y) (mj_mh G y)).before args s = true := hts _ g1
      have hfr : (mj_rm n h).frames + 1 ≤ R.frames := by rw [hRf]; exact Nat.le_refl _
      have hlo : 8 + (mj_ml G y + 11) + (mj_rm n h).locals ≤ R.locals := by rw [hRl]; show 8 + (mj_ml G y + 11) + (300 + 64 * n) ≤ _; omega
      rcases (show w % 4 = 0 ∨ w % 4 = 1 ∨ w % 4 = 2 ∨ w % 4 = 3 by omega) with h4 | h4 | h4 | h4
      · simp only [h4] at g6
        obtain ⟨hdc, g7, ⟨C, T, N, g8, g9⟩, g10⟩ := g6
        simp only [mj_recv, h4] at hrc
        split at hrc
        · next a As =>
          split at hrc
          · next ci fs ha =>
            have hci : ci = w / 64 := Nat.eq_of_beq_eq_true hrc
            subst hci
            have ef : f = As.reverse ++ [.ref a] := by rw [← List.reverse_reverse f, ← e2]; simp
            refine mj_so_call hx hb hml hK hSt hR (hM _ _ _ _ hs) rfl rfl hfr hlo hw hws hcd hin9 hdc ho (fun T9 H9 locs9 k9 n9 L9 hT9 hr9 hS9 X9 => ?_) kret (fun q h' h9 => hH q ls h' h9)
            obtain ⟨⟨b, hP, hD, hB⟩, -, -⟩ := hr9
            obtain ⟨cellB, c1, c2, c3⟩ := va_recv hK hP g8 (mj_at (tys := tys) (ad := ad) (bi := bi) (b := b) ha)
            refine mj_invV (C := C) X9 hx hown (hts _ g5) (hts _ g7) (hts _ g9) hcs g4 (b := ad a) (cellB := cellB) (by rw [hT9]; exact c1) c2 c3 (As := As.map (mj_tr ad)) rfl ?_ ?_ (by rw [hb]; exact hdc)
            · have e5 : As.length + 1 = w / 4 % 16 := by rw [← e3, ef]; simp
              rw [List.length_map]
              cases hpd : parseMethodDescriptor (mj_mn G y).desc with
              | none => rw [hpd] at g10; cases g10
              | some sg => rw [hpd] at g10; have this : sg.parameters.length + 1 = w / 4 % 16 := Option.some.inj g10; simp only [Option.map_some, Option.some.injEq]; omega
            · show st.map (mj_tr ad) = _
              rw [e1, ef]
              simp [mj_tr]
          · cases hrc
        · cases hrc
      · simp only [h4] at g6
        obtain ⟨hdc, g7, g10⟩ := g6
        have ef : f = as.reverse := by rw [e2]; simp
        refine mj_so_call hx hb hml hK hSt hR (hM _ _ _ _ hs) rfl rfl hfr hlo hw hws hcd hin9 hdc ho (fun T9 H9 locs9 k9 n9 L9 hT9 hr9 hS9 X9 => ?_) kret (fun q h' h9 => hH q ls h' h9)
        refine mj_invS X9 hx hown (hts _ g5) (hts _ g7) (hts _ g3) hcs g4 (As := as.map (mj_tr ad)) rfl ?_ ?_ (by rw [hb]; exact hdc)
        · rw [List.length_map, g10]
          rw [← e3, ef]
          simp
        · show st.map (mj_tr ad) = _
          rw [e1, ef]
          simp
      · simp only [h4] at g6
        obtain ⟨hdc, g7, g8, g9, g9r, g10⟩ := g6
        simp only [mj_recv, h4] at hrc
        split at hrc
        · next a As =>
          have ef : f = As.reverse ++ [.ref a] := by rw [← List.reverse_reverse f, ← e2]; simp
          refine mj_so_call hx hb hml hK hSt hR (hM _ _ _ _ hs) rfl rfl hfr hlo hw hws hcd hin9 hdc ho (fun T9 H9 locs9 k9 n9 L9 hT9 hr9 hS9 X9 => ?_) kret (fun q h' h9 => hH q ls h' h9)
          have hcs' : (Cond.code (mj_mn G y) (mj_mb G y) (mj_ml G y) none).before args s = true := by
            have := hcs
            unfold mj_cd at this
            rw [if_pos g9, g9r] at this
            exact this
          refine mj_invI X9 hx hown g8 (hts _ g5) (hts _ g7) hcs' g4 (As := As.map (mj_tr ad)) (b := ad a) rfl ?_ ?_ (by rw [hb]; exact hdc)
          · have e5 : As.length + 1 = w / 4 % 16 := by rw [← e3, ef]; simp
            rw [List.length_map]
            cases hpd : parseMethodDescriptor (mj_mn G y).desc with
            | none => rw [hpd] at g10; cases g10
            | some sg => rw [hpd] at g10; have this : sg.parameters.length + 1 = w / 4 % 16 := Option.some.inj g10; simp only [Option.map_some, Option.some.injEq]; omega
          · show st.map (mj_tr ad) = _
            rw [e1, ef]
            simp [mj_tr]
        · cases hrc
      · simp only [h4] at g6
        obtain ⟨hdc, g7, gs, gp, gn, ⟨C, T, N, g8, g9⟩, g10⟩ := g6
        simp only [mj_recv, h4] at hrc
        split at hrc
        · next a As =>
          split at hrc
          · next ci fs ha =>
            have hci : ci = w / 64 := Nat.eq_of_beq_eq_true hrc
            subst hci
            have ef : f = As.reverse ++ [.ref a] := by rw [← List.reverse_reverse f, ← e2]; simp
            refine mj_so_call hx hb hml hK hSt hR (hM _ _ _ _ hs) rfl rfl hfr hlo hw hws hcd hin9 hdc ho (fun T9 H9 locs9 k9 n9 L9 hT9 hr9 hS9 X9 => ?_) kret (fun q h' h9 => hH q ls h' h9)
            obtain ⟨⟨b, hP, hD, hB⟩, -, -⟩ := hr9
            obtain ⟨cellB, c1, c2, c3⟩ := va_recv hK hP g8 (mj_at (tys := tys) (ad := ad) (bi := bi) (b := b) ha)
            obtain ⟨cX, kX, hfX, hkX, -⟩ := Cond.instantiable_spec (hts _ g9)
            have e9 : cX = cellB.cls := Option.some.inj (hfX.symm.trans c3)
            subst e9
            refine mj_invU X9 hx hown (hts _ g5) (hts _ gs) (hts _ gp) (hts _ g7) hcs gn (b := ad a) (cellB := cellB) (by rw [hT9]; exact c1) c2 hkX (As := As.map (mj_tr ad)) rfl ?_ ?_ (by rw [hb]; exact hdc)
            · have e5 : As.length + 1 = w / 4 % 16 := by rw [← e3, ef]; simp
              rw [List.length_map]
              cases hpd : parseMethodDescriptor (mj_mn G y).desc with
              | none => rw [hpd] at g10; cases g10
              | some sg => rw [hpd] at g10; have this : sg.parameters.length + 1 = w / 4 % 16 := Option.some.inj g10; simp only [Option.map_some, Option.some.injEq]; omega
            · show st.map (mj_tr ad) = _
              rw [e1, ef]
              simp [mj_tr]
          · cases hrc
        · cases hrc
    · exact hs.elim
  · exact hs.elim
end MJB2
