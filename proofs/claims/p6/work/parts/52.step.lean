def mj_okH (G : mj_G) (own : String) (cc : ByteArray) (nL : Nat) (off : Nat → Nat) : mj_X → List (Nat × Nat × Nat × Nat) → Prop
  | [], [] => True
  | (a, b, t, j, q0) :: r, (a', b', hp, ct) :: r' => (a = a' ∧ b = b' ∧ hp = off t ∧ ct ≠ 0 ∧ j < nL ∧ ((∃ f : Fin 4, (f : Nat) = j ∧ decode cc (off t) = .ok (.astore_n f, 1) ∧ off (t + 1) = off t + 1) ∨ (decode cc (off t) = .ok (.astore j, 2) ∧ off (t + 1) = off t + 2)) ∧ Jvm.Cond.classLink own ct (mj_xn G q0) ∈ mj_TS G ∧ (mj_xn G q0, mj_xn G q0) ∈ (mj_nc G).2.1 ∧ ∀ q, q < 2 → q ≠ q0 → (mj_xn G q, mj_xn G q0) ∈ (mj_nc G).1) ∧ mj_okH G own cc nL off r r'
  | _, _ => False
section MJF
variable {p : Program} {l : Launch} {e : Env} {R : Room} {s : State} {m : MethodId} {args : Array Value} {below : List Frame} {meth : Method} {c : Code}
variable {G : mj_G} {D : va_G} {tys : List (ClassId × FieldType)} {ad : Nat → Nat} {bi : Nat} {z : Nat → Prop} {nL : Nat} {off : Nat → Nat} {QQ : State → Prop} {b0 b1 : Nat} {cc : ByteArray} {pc : Nat} {ls : mj_L} {st r : List Value} {h : mj_H}
variable {cst : Nat → Option (Nat × (Nat → Int32))} {own : String} {rt : Option FieldType} {ini nh : Bool} {n : Nat} {Q : mj_R → Prop} {hd : Nat → Nat → Option (Option (Nat × Nat))} {k : Nat → mj_L → List Value → mj_H → Prop} {call : Nat → List Value → mj_H → (mj_R → Prop) → Prop}
def mj_ent (x : ExceptionTableEntry) : Nat × Nat × Nat × Nat := (x.startPc, x.endPc, x.handlerPc, x.catchType)
theorem mj_cov (x : ExceptionTableEntry) (b : Nat) : covers x b = (Nat.ble x.startPc b && Nat.blt b x.endPc) := by
  unfold covers
  rw [Bool.eq_iff_iff]
  simp [Nat.ble_eq, Nat.blt_eq]
theorem mj_hd_none (hx : mj_X) {q : Nat} : ∀ L : List ExceptionTableEntry, mj_okH G own cc nL off hx (L.map mj_ent) → mj_hd off hx pc q = some none → ∀ x ∈ L, covers x (off pc) = false := by
  induction hx with
  | nil =>
    intro L h1 h2 x hx
    cases L with
    | nil => cases hx
    | cons y L => exact h1.elim
  | cons w hx ih =>
    obtain ⟨a, b, t, j, q0⟩ := w
    intro L h1 h2 x hm
    cases L with
    | nil => cases hm
    | cons y L =>
      obtain ⟨⟨ea, eb, -⟩, h1'⟩ := h1
      have hcv : covers y (off pc) = (Nat.ble a (off pc) && Nat.blt (off pc) b) := by rw [mj_cov, ea, eb]
      simp only [mj_hd] at h2
      split at h2
      · split at h2
        · cases h2
        · split at h2 <;> cases h2
      · next hf =>
        rcases List.mem_cons.mp hm with rfl | hm
        · rw [hcv, hf]
        · exact ih L h1' h2 x hm
theorem mj_hd_some (hx : mj_X) {q t j : Nat} : ∀ L : List ExceptionTableEntry, mj_okH G own cc nL off hx (L.map mj_ent) → mj_hd off hx pc q = some (some (t, j)) → ∃ pre x rest, L = pre ++ x :: rest ∧ (∀ y ∈ pre, covers y (off pc) = false ∨ (y.catchType ≠ 0 ∧ ∃ q1, Jvm.Cond.classLink own y.catchType (mj_xn G q1) ∈ mj_TS G ∧ (mj_xn G q, mj_xn G q1) ∈ (mj_nc G).1)) ∧ covers x (off pc) = true ∧ x.catchType ≠ 0 ∧ x.handlerPc = off t ∧ j < nL ∧ ((∃ f : Fin 4, (f : Nat) = j ∧ decode cc (off t) = .ok (.astore_n f, 1) ∧ off (t + 1) = off t + 1) ∨ (decode cc (off t) = .ok (.astore j, 2) ∧ off (t + 1) = off t + 2)) ∧ Jvm.Cond.classLink own x.catchType (mj_xn G q) ∈ mj_TS G ∧ (mj_xn G q, mj_xn G q) ∈ (mj_nc G).2.1 := by
  induction hx with
  | nil => intro L h1 h2; cases h2
  | cons w hx ih =>
    obtain ⟨a, b, t0, j0, q0⟩ := w
    intro L h1 h2
    cases L with
    | nil => exact h1.elim
    | cons y L =>
      obtain ⟨⟨ea, eb, e1, e2, e3, e4, e5, e6, e7⟩, h1'⟩ := h1
      have hcv : covers y (off pc) = (Nat.ble a (off pc) && Nat.blt (off pc) b) := by rw [mj_cov, ea, eb]
      simp only [mj_hd] at h2
      split at h2
      · next hf =>
        split at h2
        · next hq =>
          have hq : q = q0 := Nat.eq_of_beq_eq_true hq
          subst hq
          cases h2
          exact ⟨[], y, L, rfl, (fun z hz => by cases hz), by rw [hcv, hf], e2, e1, e3, e4, e5, e6⟩
        · next hq =>
          split at h2
          · next x9 hl hr =>
            cases h2
            obtain ⟨pre, x, rest, g1, g2, g3⟩ := ih L h1' hr
            refine ⟨y :: pre, x, rest, by rw [g1]; rfl, fun z hz => ?_, g3⟩
            rcases List.mem_cons.mp hz with rfl | hz
            · exact Or.inr ⟨e2, q0, e5, e7 q (Nat.le_of_ble_eq_true hl) (fun e => by subst e; rw [Nat.beq_refl] at hq; cases hq)⟩
            · exact g2 z hz
          · cases h2
      · next hf =>
        obtain ⟨pre, x, rest, g1, g2, g3⟩ := ih L h1' h2
        refine ⟨y :: pre, x, rest, by rw [g1]; rfl, fun z hz => ?_, g3⟩
        rcases List.mem_cons.mp hz with rfl | hz
        · exact Or.inl (by rw [hcv, hf])
        · exact g2 z hz
theorem mj_thr_ok (Cx : mj_Cx p l e R s m args below meth c G D tys ad bi z nL QQ b0 b1 cc cst own rt ini nh n Q) {hxl : mj_X} (hH : mj_okH G own cc nL off hxl (c.exceptionTable.toList.map mj_ent)) (hk : ∀ pc ls st h, k pc ls st h → mj_J p l e R s m args below meth c D (mj_cl G) tys ad bi z nL off QQ b0 b1 pc ls st h) {q : Nat} (ht : mj_thr (mj_hd off hxl) Q k pc ls q h) : mj_JT p l e R s m args below meth c D (mj_cl G) tys ad bi z nL off QQ b0 b1 (mj_xn G) pc ls q h := by
  obtain ⟨hx, hb, hml, hown, hts, hgood, hK, hSt, hR, hRf, hRl, hlocks, hrt, hini, hnh, htr, hty, had, hQQ⟩ := Cx
  unfold mj_thr at ht
  split at ht
  · next t j hh =>
    obtain ⟨pre, x, rest, g1, g2, g3, g4, g5, g6, g7, g8, g9⟩ := mj_hd_some hxl _ hH hh
    obtain ⟨c1, c2, f1, f2, f3⟩ := hSt.2.2.2.1 _ g9
    have e12 : c1 = c2 := Option.some.inj (f1.symm.trans f2)
    subst e12
    refine mj_so_handler hx hb pre x rest g1 (fun ha cX hX y hy => ?_) g3 g4 (cT := c1) (fun ha => ?_) (fun cX hX => ?_) g5 g6 g7 (hk _ _ _ _ ht)
    · rcases g2 y hy with g | ⟨g, q1, gl, gn⟩
      · exact Or.inl g
      · have hpl : e.platform.magicAccessors = ({} : Platform).magicAccessors := by rw [ha.platform]
        obtain ⟨c', hc', hcl⟩ := Cond.classLink_spec hown (hts _ gl) e.platform hpl
        exact Or.inr ⟨g, c', hcl, hSt.2.2.1 _ gn cX c' hX hc'⟩
    · have hpl : e.platform.magicAccessors = ({} : Platform).magicAccessors := by rw [ha.platform]
      obtain ⟨c', hc', hcl⟩ := Cond.classLink_spec hown (hts _ g8) e.platform hpl
      have : c' = c1 := Option.some.inj (hc'.symm.trans f1)
      subst this
      exact hcl
    · have : cX = c1 := Option.some.inj (hX.symm.trans f1)
      subst this
      exact f3
  · next hh => exact mj_so_out hlocks hQQ (mj_hd_none hxl _ hH hh) ht
  · exact ht.elim
theorem mj_step (Cx : mj_Cx p l e R s m args below meth c G D tys ad bi z nL QQ b0 b1 cc cst own rt ini nh n Q) {hxl : mj_X} (hH : mj_okH G own cc nL off hxl (c.exceptionTable.toList.map mj_ent)) (hnd : nh = true → hxl = []) (hk : ∀ pc ls st h, k pc ls st h → mj_J p l e R s m args below meth c D (mj_cl G) tys ad bi z nL off QQ b0 b1 pc ls st h) (hM : ∀ (ad2 : Nat → Nat) (z2 : Nat → Prop) y as h Qp, call y as h Qp → MetFree l (mj_mn G y) (headSpec (mj_cw G y :: mj_TS G) (mj_rm n h)) (mj_Pc D (mj_cl G) tys ad2 bi z2 cst (mj_nc G) as h) (fun _ _ _ _ _ => True) (fun _ => mj_Qc D (mj_cl G) tys ad2 bi z2 (mj_xn G) h.2.1 h.2.2.1 Qp)) {i : Instr} (hok : mj_OK G own cc nL off rt ini nh pc i) (hs : mj_stp call cst (mj_nw G) (mj_hd off hxl) Q k i pc ls st h) : mj_J p l e R s m args below meth c D (mj_cl G) tys ad bi z nL off QQ b0 b1 pc ls st h := by
  cases i
  case iconst v => exact mj_st_iconst Cx hk hok hs
  case ldc2_w v => exact mj_st_ldc2 Cx hk hok hs
  case iload i => exact mj_st_iload Cx hk hok hs
  case lload i => exact mj_st_lload Cx hk hok hs
  case aload i => exact mj_st_aload Cx hk hok hs
  case istore i => exact mj_st_istore Cx hk hok hs
  case lstore i => exact mj_st_lstore Cx hk hok hs
  case astore i => exact mj_st_astore Cx hk hok hs
  case iinc i v => exact mj_st_iinc Cx hk hok hs
  case iadd => exact mj_st_iadd Cx hk hok hs
  case isub => exact mj_st_isub Cx hk hok hs
  case imul => exact mj_st_imul Cx hk hok hs
  case iand => exact mj_st_iand Cx hk hok hs
  case ior => exact mj_st_ior Cx hk hok hs
  case ixor => exact mj_st_ixor Cx hk hok hs
  case ishl => exact mj_st_ishl Cx hk hok hs
  case ishr => exact mj_st_ishr Cx hk hok hs
  case iushr => exact mj_st_iushr Cx hk hok hs
  case ineg => exact mj_st_ineg Cx hk hok hs
  case lneg => exact mj_st_lneg Cx hk hok hs
  case ladd => exact mj_st_ladd Cx hk hok hs
  case lsub => exact mj_st_lsub Cx hk hok hs
  case land => exact mj_st_land Cx hk hok hs
  case lor => exact mj_st_lor Cx hk hok hs
  case lshl => exact mj_st_lshl Cx hk hok hs
  case lshr => exact mj_st_lshr Cx hk hok hs
  case lushr => exact mj_st_lushr Cx hk hok hs
  case lcmp => exact mj_st_lcmp Cx hk hok hs
  case i2l => exact mj_st_i2l Cx hk hok hs
  case l2i => exact mj_st_l2i Cx hk hok hs
  case i2c => exact mj_st_i2c Cx hk hok hs
  case i2b => exact mj_st_i2b Cx hk hok hs
  case idiv => exact mj_st_idiv Cx hk hok hs
  case irem => exact mj_st_irem Cx hk hok hs
  case dup => exact mj_st_dup Cx hk hok hs
  case dup_x1 => exact mj_st_dup_x1 Cx hk hok hs
  case dup2 => exact mj_st_dup2 Cx hk hok hs
  case pop => exact mj_st_pop Cx hk hok hs
  case pop2 => exact mj_st_pop2 Cx hk hok hs
  case ireturn => exact mj_st_ireturn Cx hk hok hs
  case lreturn => exact mj_st_lreturn Cx hk hok hs
  case iaload => exact mj_st_iaload Cx hk hok hs
  case laload => exact mj_st_laload Cx hk hok hs
  case caload => exact mj_st_caload Cx hk hok hs
  case baload => exact mj_st_baload Cx hk hok hs
  case iastore => exact mj_st_iastore Cx hk hok hs
  case lastore => exact mj_st_lastore Cx hk hok hs
  case castore => exact mj_st_castore Cx hk hok hs
  case bastore => exact mj_st_bastore Cx hk hok hs
  case arraylength => exact mj_st_arraylength Cx hk hok hs
  case monitorenter => exact mj_st_monitorenter Cx hk hok hs
  case lmul => exact mj_st_lmul Cx hk hok hs
  case ldiv => exact mj_st_ldiv Cx hk hok hs
  case lrem => exact mj_st_lrem Cx hk hok hs
  case freturn => exact mj_st_zreturn Cx hk hok hs
  case dreturn => exact mj_st_creturn Cx hk hok hs
  case return_ => exact mj_st_return Cx hk hok hs
  case ifCond q t => exact mj_st_ifCond Cx hk hok hs
  case if_icmp q t => exact mj_st_if_icmp Cx hk hok hs
  case goto t => exact mj_st_goto Cx hk hok hs
  case lookupswitch d ps => exact mj_st_sw Cx hk hok hs
  case getfield f => exact mj_st_getfield Cx hk hok hs
  case putfield f => exact mj_st_putfield Cx hk hok hs
  case getstatic w => exact mj_st_getstatic Cx hk hok hs
  case new w => exact mj_st_new Cx hk hok hs
  case newarray t => exact mj_st_newarray Cx hk hok hs
  case invokedynamic w => exact mj_st_math Cx hk hok hs
  case checkcast q => exact mj_st_throw Cx hk (fun h9 pc q => by rw [hnd h9]; rfl) hok hs
  case athrow => exact mj_st_breturn Cx hk hok hs
  case ifnonnull t => exact mj_st_ifnn Cx hk hok hs
  case dload w => exact mj_st_gets0 Cx hk hok hs
  case ldc w => exact mj_st_ldcS Cx hk hok hs
  case anewarray w => exact mj_st_sget Cx hk hok hs
  case fload w => exact mj_st_ccopy Cx hk hok hs
  case instanceof w => exact mj_st_scall Cx hk (hM ad z) (fun q ls h h9 => mj_thr_ok Cx hH hk h9) hok hs
  case invokevirtual w => exact mj_st_bcall Cx hk hM hok hs
  case invokespecial w => exact mj_st_binit Cx hk (hM ad z) hok hs
  case areturn => exact mj_st_areturn Cx hk hok hs
  case invokestatic w => exact mj_st_copy Cx hk hok hs
  case invokeinterface y w => exact mj_st_call Cx hk (hM ad z) (fun q ls h h9 => mj_thr_ok Cx hH hk h9) hok hs
  all_goals exact False.elim hs
theorem mj_sg_ok (Cx : mj_Cx p l e R s m args below meth c G D tys ad bi z nL QQ b0 b1 cc cst own rt ini nh n Q) {hxl : mj_X} (hH : mj_okH G own cc nL off hxl (c.exceptionTable.toList.map mj_ent)) (hnd : nh = true → hxl = []) (hM : ∀ (ad2 : Nat → Nat) (z2 : Nat → Prop) y as h Qp, call y as h Qp → MetFree l (mj_mn G y) (headSpec (mj_cw G y :: mj_TS G) (mj_rm n h)) (mj_Pc D (mj_cl G) tys ad2 bi z2 cst (mj_nc G) as h) (fun _ _ _ _ _ => True) (fun _ => mj_Qc D (mj_cl G) tys ad2 bi z2 (mj_xn G) h.2.1 h.2.2.1 Qp)) {code : mj_C} (hcode : ∀ pc b i, mj_nth code pc = some (b, i) → mj_OK G own cc nL off rt ini nh pc i) {J : Nat → mj_L → List Value → mj_H → Prop} (hJ : ∀ pc ls st h, J pc ls st h → mj_J p l e R s m args below meth c D (mj_cl G) tys ad bi z nL off QQ b0 b1 pc ls st h) : ∀ (f : Nat) (fst : Bool) (pc : Nat) (ls : mj_L) (st : List Value) (h : mj_H), mj_sg call cst (mj_nw G) (mj_hd off hxl) code J Q f fst pc ls st h → mj_J p l e R s m args below meth c D (mj_cl G) tys ad bi z nL off QQ b0 b1 pc ls st h := by
  intro f
  induction f with
  | zero => intro fst pc ls st h hs; exact False.elim hs
  | succ f ih =>
    intro fst pc ls st h hs
    simp only [mj_sg] at hs
    split at hs
    · exact hs.elim
    · next cu i he =>
      split at hs
      · exact hJ _ _ _ _ hs
      · exact mj_step Cx hH hnd (ih false) hM (hcode _ _ _ he) hs
end MJF
