section
abbrev mj_G : Type := List Cond × List vw_C × (Nat → Nat → FieldType) × (Nat → MethodName) × (Nat → ByteArray) × (Nat → Nat) × (Nat → Option FieldType) × (Nat → List (Nat × Nat × Nat × Nat)) × (Nat → String) × (Nat → List String) × mj_K × mj_N
abbrev mj_TS (G : mj_G) : List Cond := G.1
abbrev mj_cl (G : mj_G) : List vw_C := G.2.1
abbrev mj_tf (G : mj_G) : Nat → Nat → FieldType := G.2.2.1
abbrev mj_mn (G : mj_G) : Nat → MethodName := G.2.2.2.1
abbrev mj_mb (G : mj_G) : Nat → ByteArray := G.2.2.2.2.1
abbrev mj_ml (G : mj_G) : Nat → Nat := G.2.2.2.2.2.1
abbrev mj_mr (G : mj_G) : Nat → Option FieldType := G.2.2.2.2.2.2.1
abbrev mj_mh (G : mj_G) : Nat → List (Nat × Nat × Nat × Nat) := G.2.2.2.2.2.2.2.1
abbrev mj_xn (G : mj_G) : Nat → String := G.2.2.2.2.2.2.2.2.1
abbrev mj_xs (G : mj_G) : Nat → List String := G.2.2.2.2.2.2.2.2.2.1
abbrev mj_nc (G : mj_G) : mj_K := G.2.2.2.2.2.2.2.2.2.2.1
abbrev mj_nw (G : mj_G) : mj_N := G.2.2.2.2.2.2.2.2.2.2.2
def mj_cw (G : mj_G) (y : Nat) : Cond := mj_cd (mj_mn G y) (mj_mb G y) (mj_ml G y) (mj_mr G y) (mj_mh G y)
def mj_okC (G : mj_G) (ci : Nat) (C : String) (T : u_T) (N : Nat) : Prop := (mj_cl G)[ci]? = some (C, T, N) ∧ (∀ w ∈ u_ws C T N, w ∈ mj_TS G) ∧ (∀ k, k < N → parseFieldDescriptor (T k).2.2.1 = some (mj_tf G ci k)) ∧ ∀ a, a < N → ∀ b, b < N → a ≠ b → (T a).2.1 ≠ (T b).2.1
def mj_okT (t : Nat) (ty : FieldType) : Prop := match t with
  | 0 => ty = .int
  | 1 => ty = .long
  | 2 => (∃ n, ty = .object n) ∨ ∃ a, ty = .array a
  | 3 => ty = .boolean ∨ ty = .byte
  | _ => False
def mj_okY (G : mj_G) (own : String) (cc : ByteArray) (b y n : Nat) : Prop := mj_cw G y ∈ mj_TS G ∧ mj_ml G y ≤ 40 ∧ Jvm.Cond.initialized (mj_mn G y).cls ∈ mj_TS G ∧ ((mj_mn G y).cls ≠ "java/lang/invoke/MethodHandle" ∧ (mj_mn G y).cls ≠ "java/lang/invoke/VarHandle") ∧
  ∃ j : Nat, Jvm.Cond.methodLink own j (mj_mn G y) ∈ mj_TS G ∧ match n % 4 with
    | 0 => decode cc b = .ok (.invokevirtual j, 3) ∧ Jvm.Cond.instanceMethod (mj_mn G y) ∈ mj_TS G ∧ (∃ C T N, (mj_cl G)[n / 64]? = some (C, T, N) ∧ Jvm.Cond.selects C (mj_mn G y) (mj_mn G y) ∈ mj_TS G) ∧ (parseMethodDescriptor (mj_mn G y).desc).map (fun d => d.parameters.length + 1) = some (n / 4 % 16)
    | 1 => decode cc b = .ok (.invokestatic j, 3) ∧ Jvm.Cond.static (mj_mn G y) ∈ mj_TS G ∧ (parseMethodDescriptor (mj_mn G y).desc).map (fun d => d.parameters.length) = some (n / 4 % 16)
    | 2 => decode cc b = .ok (.invokespecial j, 3) ∧ Jvm.Cond.instanceMethod (mj_mn G y) ∈ mj_TS G ∧ (mj_mn G y).name = "<init>" ∧ mj_mh G y = [] ∧ mj_mr G y = none ∧ (parseMethodDescriptor (mj_mn G y).desc).map (fun d => d.parameters.length + 1) = some (n / 4 % 16)
    | 3 => decode cc b = .ok (.invokespecial j, 3) ∧ Jvm.Cond.instanceMethod (mj_mn G y) ∈ mj_TS G ∧ Jvm.Cond.sameMethod (mj_mn G y).cls (mj_mn G y).cls (mj_mn G y).name (mj_mn G y).desc ∈ mj_TS G ∧ Jvm.Cond.superclass own (mj_mn G y).cls ∈ mj_TS G ∧ (mj_mn G y).name ≠ "<init>" ∧ (∃ C T N, (mj_cl G)[n / 64]? = some (C, T, N) ∧ Jvm.Cond.instantiable C N ∈ mj_TS G) ∧ (parseMethodDescriptor (mj_mn G y).desc).map (fun d => d.parameters.length + 1) = some (n / 4 % 16)
    | _ => False
def mj_OK (G : mj_G) (own : String) (cc : ByteArray) (nL : Nat) (off : Nat → Nat) (rt : Option FieldType) (ini nh : Bool) (pc : Nat) (i : Instr) : Prop := match i with
  | .iconst v => mj_ok (mj_TS G) own cc nL off rt pc (.iconst v) ∨ ∃ j C f d, decode cc (off pc) = .ok (.getstatic j, 3) ∧ off (pc + 1) = off pc + 3 ∧ (C, f, d, Value.int (Int32.ofInt v)) ∈ (mj_nc G).2.2.2.2 ∧ Jvm.Cond.fieldLink own j C f d ∈ mj_TS G
  | .getstatic k => ∃ j C f d, decode cc (off pc) = .ok (.getstatic j, 3) ∧ off (pc + 1) = off pc + 3 ∧ (C, f, d, Value.ref k) ∈ (mj_nc G).2.2.2.2 ∧ Jvm.Cond.fieldLink own j C f d ∈ mj_TS G
  | .getfield f => ∃ j C T N, decode cc (off pc) = .ok (.getfield j, 3) ∧ off (pc + 1) = off pc + 3 ∧ mj_okC G (f / 256) C T N ∧ f / 4 % 64 < N ∧ Jvm.Cond.fieldLink own j (T (f / 4 % 64)).1 (T (f / 4 % 64)).2.1 (T (f / 4 % 64)).2.2.1 ∈ mj_TS G
  | .putfield f => ∃ j C T N, decode cc (off pc) = .ok (.putfield j, 3) ∧ off (pc + 1) = off pc + 3 ∧ mj_okC G (f / 256) C T N ∧ f / 4 % 64 < N ∧ Jvm.Cond.fieldLink own j (T (f / 4 % 64)).1 (T (f / 4 % 64)).2.1 (T (f / 4 % 64)).2.2.1 ∈ mj_TS G ∧ mj_okT (f % 4) (mj_tf G (f / 256) (f / 4 % 64)) ∧ ((T (f / 4 % 64)).2.2.2 = false ∨ ((T (f / 4 % 64)).2.2.2 = true ∧ ini = true ∧ (T (f / 4 % 64)).1 = own))
  | .new ci => ∃ j C T N fs, decode cc (off pc) = .ok (.new j, 3) ∧ off (pc + 1) = off pc + 3 ∧ mj_okC G ci C T N ∧ mj_nw G ci = some fs ∧ fs.length = N ∧ (∀ k, k < N → fs[k]? = some (defaultValue (mj_tf G ci k))) ∧ Jvm.Cond.classLink own j C ∈ mj_TS G ∧ Jvm.Cond.instantiable C N ∈ mj_TS G ∧ Jvm.Cond.initialized C ∈ mj_TS G
  | .newarray t => decode cc (off pc) = .ok (.newarray t, 2) ∧ off (pc + 1) = off pc + 2 ∧ Jvm.Cond.arrayClass (newarray.typeOf t) ∈ mj_TS G
  | .invokeinterface y n => off (pc + 1) = off pc + 3 ∧ mj_okY G own cc (off pc) y n
  | .invokestatic _ => ∃ j, decode cc (off pc) = .ok (.invokestatic j, 3) ∧ off (pc + 1) = off pc + 3 ∧ Jvm.Cond.methodLink own j arraycopyName ∈ mj_TS G ∧ Jvm.Cond.native arraycopyName ∈ mj_TS G ∧ Jvm.Cond.static arraycopyName ∈ mj_TS G ∧ Jvm.Cond.initialized "java/lang/System" ∈ mj_TS G
  | .areturn => decode cc (off pc) = .ok (.areturn, 1) ∧ ∃ ty, rt = some ty ∧ ty.isReference = true
  | .invokespecial w => off (pc + 1) = off pc + 3 ∧ mj_okY G own cc (off pc) (w / 1024) (w % 1024) ∧ w % 4 = 2 ∧ w / 4 % 16 = 1
  | .invokevirtual w => off (pc + 1) = off pc + 3 ∧ mj_okY G own cc (off pc) (w / 1024) (w % 1024) ∧ w % 1024 / 64 = 9 ∧ w % 4 = 0
  | .invokedynamic w => ∃ j, decode cc (off pc) = .ok (.invokestatic j, 3) ∧ off (pc + 1) = off pc + 3 ∧ Jvm.Cond.initialized "java/lang/Math" ∈ mj_TS G ∧ match w with
    | 0 => Jvm.Cond.methodLink own j Lib.Math.max.name ∈ mj_TS G ∧ Jvm.Cond.static Lib.Math.max.name ∈ mj_TS G ∧ Jvm.Cond.code Lib.Math.max.name Lib.Math.max.code 2 (some .int) ∈ mj_TS G
    | 1 => Jvm.Cond.methodLink own j Lib.Math.min.name ∈ mj_TS G ∧ Jvm.Cond.static Lib.Math.min.name ∈ mj_TS G ∧ Jvm.Cond.code Lib.Math.min.name Lib.Math.min.code 2 (some .int) ∈ mj_TS G
    | _ => False
  | .monitorenter => ∃ j, decode cc (off pc) = .ok (.invokespecial j, 3) ∧ off (pc + 1) = off pc + 3 ∧ Jvm.Cond.methodLink own j objectInit ∈ mj_TS G ∧ Jvm.Cond.instanceMethod objectInit ∈ mj_TS G ∧ Jvm.Cond.code objectInit ⟨#[0xb1]⟩ 1 none ∈ mj_TS G
  | .checkcast q => nh = true ∧ ∃ ia ib ic tx, decode cc (off pc) = .ok (.new ia, 3) ∧ decode cc (off pc + 3) = .ok (.dup, 1) ∧ decode cc (off pc + 3 + 1) = .ok (.ldc ib, 2) ∧ decode cc (off pc + 3 + 1 + 2) = .ok (.invokespecial ic, 3) ∧ decode cc (off pc + 3 + 1 + 2 + 3) = .ok (.athrow, 1) ∧ Bundle.fit (mj_xn G q) = true ∧ (∀ n ∈ mj_xs G q, Bundle.fit n = true) ∧ (mj_xs G q).length ≤ 3 ∧ mj_wok (mj_TS G) (mj_nc G) (.classLink own ia (mj_xn G q)) = true ∧ mj_wok (mj_TS G) (mj_nc G) (.instantiable (mj_xn G q) 6) = true ∧ mj_wok (mj_TS G) (mj_nc G) (.initialized (mj_xn G q)) = true ∧ (∀ a ∈ Bundle.ownAtoms own ic (mj_xn G q) (mj_xs G q), mj_wok (mj_TS G) (mj_nc G) a = true) ∧ (own, ib, tx, 0) ∈ (mj_nc G).2.2.2.1
  | .jsr _ => True
  | .athrow => decode cc (off pc) = .ok (.ireturn, 1) ∧ rt = some .byte
  | .ifnonnull t => ∃ o : Int, decode cc (off pc) = .ok (.ifnonnull o, 3) ∧ (off pc : Int) + o = (off t.toNat : Int)
  | .dload _ => ∃ j C f d, decode cc (off pc) = .ok (.getstatic j, 3) ∧ off (pc + 1) = off pc + 3 ∧ (C, f, d, Value.retAddr 0) ∈ (mj_nc G).2.2.2.2 ∧ Jvm.Cond.fieldLink own j C f d ∈ mj_TS G
  | .ldc w => ∃ j tx, decode cc (off pc) = .ok (.ldc j, 2) ∧ off (pc + 1) = off pc + 2 ∧ (own, j, tx, w) ∈ (mj_nc G).2.2.2.1 ∧ w ≠ 0
  | .anewarray w => ∃ j, decode cc (off pc) = .ok (.getfield j, 3) ∧ off (pc + 1) = off pc + 3 ∧ match w with
    | 0 => Jvm.Cond.fieldLink own j "java/lang/String" "value" "[B" ∈ mj_TS G
    | _ => Jvm.Cond.fieldLink own j "java/lang/String" "coder" "B" ∈ mj_TS G
  | .instanceof w => off (pc + 1) = off pc + 3 ∧ mj_cw G (w / 1024) ∈ mj_TS G ∧ mj_ml G (w / 1024) ≤ 40 ∧ Jvm.Cond.initialized (mj_mn G (w / 1024)).cls ∈ mj_TS G ∧ ((mj_mn G (w / 1024)).cls ≠ "java/lang/invoke/MethodHandle" ∧ (mj_mn G (w / 1024)).cls ≠ "java/lang/invoke/VarHandle") ∧
      ∃ j : Nat, Jvm.Cond.methodLink own j (mj_mn G (w / 1024)) ∈ mj_TS G ∧ decode cc (off pc) = .ok (.invokevirtual j, 3) ∧ Jvm.Cond.instanceMethod (mj_mn G (w / 1024)) ∈ mj_TS G ∧ Jvm.Cond.selects "java/lang/String" (mj_mn G (w / 1024)) (mj_mn G (w / 1024)) ∈ mj_TS G ∧ (parseMethodDescriptor (mj_mn G (w / 1024)).desc).map (fun d => d.parameters.length + 1) = some (w / 4 % 16)
  | .fload _ => ∃ j, decode cc (off pc) = .ok (.invokestatic j, 3) ∧ off (pc + 1) = off pc + 3 ∧ Jvm.Cond.methodLink own j arraycopyName ∈ mj_TS G ∧ Jvm.Cond.native arraycopyName ∈ mj_TS G ∧ Jvm.Cond.static arraycopyName ∈ mj_TS G ∧ Jvm.Cond.initialized "java/lang/System" ∈ mj_TS G
  | i => mj_ok (mj_TS G) own cc nL off rt pc i
def mj_rm (n : Nat) (h : mj_H) : Room := { frames := 10 + n, cells := h.2.1, slots := h.2.2.1, locals := 300 + 64 * n }
def mj_ty5 (tys : List (ClassId × FieldType)) : Prop := ∃ c0 c1 c2 c3 c4, tys = [(c0, .int), (c1, .long), (c2, .char), (c3, .boolean), (c4, .byte)]
section MJB
variable {p : Program} {l : Launch} {e : Env} {R : Room} {s : State} {m : MethodId} {args : Array Value} {below : List Frame} {meth : Method} {c : Code}
variable {G : mj_G} {D : va_G} {tys : List (ClassId × FieldType)} {ad : Nat → Nat} {bi : Nat} {z : Nat → Prop} {nL : Nat} {off : Nat → Nat} {QQ : State → Prop} {b0 b1 : Nat} {cc : ByteArray} {pc : Nat} {ls : mj_L} {st r : List Value} {h : mj_H}
variable {cst : Nat → Option (Nat × (Nat → Int32))} {own : String} {rt : Option FieldType} {ini nh : Bool} {n : Nat} {Q : mj_R → Prop} {hd : Nat → Nat → Option (Option (Nat × Nat))} {k : Nat → mj_L → List Value → mj_H → Prop} {call : Nat → List Value → mj_H → (mj_R → Prop) → Prop}
def mj_Cx (p : Program) (l : Launch) (e : Env) (R : Room) (s : State) (m : MethodId) (args : Array Value) (below : List Frame) (meth : Method) (c : Code) (G : mj_G) (D : va_G) (tys : List (ClassId × FieldType)) (ad : Nat → Nat) (bi : Nat) (z : Nat → Prop) (nL : Nat) (QQ : State → Prop) (b0 b1 : Nat) (cc : ByteArray) (cst : Nat → Option (Nat × (Nat → Int32))) (own : String) (rt : Option FieldType) (ini nh : Bool) (n : Nat) (Q : mj_R → Prop) : Prop :=
  p.tables.exec = Jvm.exec ∧ c.code = cc ∧ c.maxLocals = nL ∧ s.vm.findClass own = some m.cls ∧ (∀ w ∈ mj_TS G, w.before args s = true) ∧ (∀ w ∈ mj_TS G, mj_gw w = true) ∧ va_K D (mj_cl G) tys s ∧ mj_St cst ad z (mj_nc G) s ∧ (R.cells = b0 ∧ R.slots = b1) ∧ R.frames = 10 + n + 1 ∧ R.locals = 300 + 64 * (n + 1) ∧ meth.locks = false ∧ meth.sig.returnType = rt ∧ (ini = true → meth.name = "<init>") ∧ (nh = true → c.exceptionTable.toList = []) ∧ (l.admits e → e.platform.stackTraces = false) ∧ mj_ty5 tys ∧ mj_c9 bi cst (mj_nc G) ∧ QQ = mj_Z below s (mj_Qc D (mj_cl G) tys ad bi z (mj_xn G) b0 b1 Q s)
theorem mj_st_iconst (Cx : mj_Cx p l e R s m args below meth c G D tys ad bi z nL QQ b0 b1 cc cst own rt ini nh n Q) (hk : ∀ pc ls st h, k pc ls st h → mj_J p l e R s m args below meth c D (mj_cl G) tys ad bi z nL off QQ b0 b1 pc ls st h) {v : Int} (hok : mj_OK G own cc nL off rt ini nh pc (.iconst v)) (hs : mj_stp call cst (mj_nw G) hd Q k (.iconst v) pc ls st h) : mj_J p l e R s m args below meth c D (mj_cl G) tys ad bi z nL off QQ b0 b1 pc ls st h := by
  obtain ⟨hx, hb, hml, hown, hts, hgood, hK, hSt, hR, hRf, hRl, hlocks, hrt, hini, hnh, htr, hty, had, hQQ⟩ := Cx
  rcases hok with hok | ⟨j, C, f, d, g1, g2, g3, g4⟩
  · exact mj_so_iconst hx hb hown hts hok (hk _ _ _ _ hs)
  · exact mj_so_gets hx hb hown hts hSt g3 g4 g1 g2 (hk _ _ _ _ hs)
theorem mj_st_ldc2 (Cx : mj_Cx p l e R s m args below meth c G D tys ad bi z nL QQ b0 b1 cc cst own rt ini nh n Q) (hk : ∀ pc ls st h, k pc ls st h → mj_J p l e R s m args below meth c D (mj_cl G) tys ad bi z nL off QQ b0 b1 pc ls st h) {v : Nat} (hok : mj_OK G own cc nL off rt ini nh pc (.ldc2_w v)) (hs : mj_stp call cst (mj_nw G) hd Q k (.ldc2_w v) pc ls st h) : mj_J p l e R s m args below meth c D (mj_cl G) tys ad bi z nL off QQ b0 b1 pc ls st h := by
  obtain ⟨hx, hb, hml, hown, hts, hgood, hK, hSt, hR, hRf, hRl, hlocks, hrt, hini, hnh, htr, hty, had, hQQ⟩ := Cx
  exact mj_so_lconst (rt := rt) hx hb hown hts hok (hk _ _ _ _ hs)
theorem mj_st_iload (Cx : mj_Cx p l e R s m args below meth c G D tys ad bi z nL QQ b0 b1 cc cst own rt ini nh n Q) (hk : ∀ pc ls st h, k pc ls st h → mj_J p l e R s m args below meth c D (mj_cl G) tys ad bi z nL off QQ b0 b1 pc ls st h) {i : Nat} (hok : mj_OK G own cc nL off rt ini nh pc (.iload i)) (hs : mj_stp call cst (mj_nw G) hd Q k (.iload i) pc ls st h) : mj_J p l e R s m args below meth c D (mj_cl G) tys ad bi z nL off QQ b0 b1 pc ls st h := by
  obtain ⟨hx, hb, hml, hown, hts, hgood, hK, hSt, hR, hRf, hRl, hlocks, hrt, hini, hnh, htr, hty, had, hQQ⟩ := Cx
  simp only [mj_stp] at hs
  split at hs
  · next x hv =>
    rcases hok with ⟨f, hf, hd, ho⟩ | ⟨hd, ho⟩
    · exact mj_so_iload_n hx hb hf hv hd ho (hk _ _ _ _ hs)
    · exact mj_so_iload hx hb hv hd ho (hk _ _ _ _ hs)
  · exact hs.elim
theorem mj_st_lload (Cx : mj_Cx p l e R s m args below meth c G D tys ad bi z nL QQ b0 b1 cc cst own rt ini nh n Q) (hk : ∀ pc ls st h, k pc ls st h → mj_J p l e R s m args below meth c D (mj_cl G) tys ad bi z nL off QQ b0 b1 pc ls st h) {i : Nat} (hok : mj_OK G own cc nL off rt ini nh pc (.lload i)) (hs : mj_stp call cst (mj_nw G) hd Q k (.lload i) pc ls st h) : mj_J p l e R s m args below meth c D (mj_cl G) tys ad bi z nL off QQ b0 b1 pc ls st h := by
  obtain ⟨hx, hb, hml, hown, hts, hgood, hK, hSt, hR, hRf, hRl, hlocks, hrt, hini, hnh, htr, hty, had, hQQ⟩ := Cx
  simp only [mj_stp] at hs
  split at hs
  · next x hv =>
    rcases hok with ⟨f, hf, hd, ho⟩ | ⟨hd, ho⟩
    · exact mj_so_lload_n hx hb hf hv hd ho (hk _ _ _ _ hs)
    · exact mj_so_lload hx hb hv hd ho (hk _ _ _ _ hs)
  · exact hs.elim
theorem mj_st_aload (Cx : mj_Cx p l e R s m args below meth c G D tys ad bi z nL QQ b0 b1 cc cst own rt ini nh n Q) (hk : ∀ pc ls st h, k pc ls st h → mj_J p l e R s m args below meth c D (mj_cl G) tys ad bi z nL off QQ b0 b1 pc ls st h) {i : Nat} (hok : mj_OK G own cc nL off rt ini nh pc (.aload i)) (hs : mj_stp call cst (mj_nw G) hd Q k (.aload i) pc ls st h) : mj_J p l e R s m args below meth c D (mj_cl G) tys ad bi z nL off QQ b0 b1 pc ls st h := by
  obtain ⟨hx, hb, hml, hown, hts, hgood, hK, hSt, hR, hRf, hRl, hlocks, hrt, hini, hnh, htr, hty, had, hQQ⟩ := Cx
  simp only [mj_stp] at hs
  split at hs
  · next x hv =>
    rcases hok with ⟨f, hf, hd, ho⟩ | ⟨hd, ho⟩
    · exact mj_so_aload_n hx hb hf hv hd ho (hk _ _ _ _ hs)
    · exact mj_so_aload hx hb hv hd ho (hk _ _ _ _ hs)
  · exact hs.elim
theorem mj_st_istore (Cx : mj_Cx p l e R s m args below meth c G D tys ad bi z nL QQ b0 b1 cc cst own rt ini nh n Q) (hk : ∀ pc ls st h, k pc ls st h → mj_J p l e R s m args below meth c D (mj_cl G) tys ad bi z nL off QQ b0 b1 pc ls st h) {i : Nat} (hok : mj_OK G own cc nL off rt ini nh pc (.istore i)) (hs : mj_stp call cst (mj_nw G) hd Q k (.istore i) pc ls st h) : mj_J p l e R s m args below meth c D (mj_cl G) tys ad bi z nL off QQ b0 b1 pc ls st h := by
  obtain ⟨hx, hb, hml, hown, hts, hgood, hK, hSt, hR, hRf, hRl, hlocks, hrt, hini, hnh, htr, hty, had, hQQ⟩ := Cx
  simp only [mj_stp] at hs
  split at hs
  · obtain ⟨hi, hok⟩ := hok
    rcases hok with ⟨f, hf, hd, ho⟩ | ⟨hd, ho⟩
    · exact mj_so_istore_n hx hb hf hi hd ho (hk _ _ _ _ hs)
    · exact mj_so_istore hx hb hi hd ho (hk _ _ _ _ hs)
  · exact hs.elim
theorem mj_st_lstore (Cx : mj_Cx p l e R s m args below meth c G D tys ad bi z nL QQ b0 b1 cc cst own rt ini nh n Q) (hk : ∀ pc ls st h, k pc ls st h → mj_J p l e R s m args below meth c D (mj_cl G) tys ad bi z nL off QQ b0 b1 pc ls st h) {i : Nat} (hok : mj_OK G own cc nL off rt ini nh pc (.lstore i)) (hs : mj_stp call cst (mj_nw G) hd Q k (.lstore i) pc ls st h) : mj_J p l e R s m args below meth c D (mj_cl G) tys ad bi z nL off QQ b0 b1 pc ls st h := by
  obtain ⟨hx, hb, hml, hown, hts, hgood, hK, hSt, hR, hRf, hRl, hlocks, hrt, hini, hnh, htr, hty, had, hQQ⟩ := Cx
  simp only [mj_stp] at hs
  split at hs
  · obtain ⟨hi, hok⟩ := hok
    rcases hok with ⟨f, hf, hd, ho⟩ | ⟨hd, ho⟩
    · exact mj_so_lstore_n hx hb hf hi hd ho (hk _ _ _ _ hs)
    · exact mj_so_lstore hx hb hi hd ho (hk _ _ _ _ hs)
  · exact hs.elim
theorem mj_st_astore (Cx : mj_Cx p l e R s m args below meth c G D tys ad bi z nL QQ b0 b1 cc cst own rt ini nh n Q) (hk : ∀ pc ls st h, k pc ls st h → mj_J p l e R s m args below meth c D (mj_cl G) tys ad bi z nL off QQ b0 b1 pc ls st h) {i : Nat} (hok : mj_OK G own cc nL off rt ini nh pc (.astore i)) (hs : mj_stp call cst (mj_nw G) hd Q k (.astore i) pc ls st h) : mj_J p l e R s m args below meth c D (mj_cl G) tys ad bi z nL off QQ b0 b1 pc ls st h := by
  obtain ⟨hx, hb, hml, hown, hts, hgood, hK, hSt, hR, hRf, hRl, hlocks, hrt, hini, hnh, htr, hty, had, hQQ⟩ := Cx
  simp only [mj_stp] at hs
  split at hs
  · obtain ⟨hi, hok⟩ := hok
    rcases hok with ⟨f, hf, hd, ho⟩ | ⟨hd, ho⟩
    · exact mj_so_astore_n hx hb hf hi hd ho (hk _ _ _ _ hs)
    · exact mj_so_astore hx hb hi hd ho (hk _ _ _ _ hs)
  · exact hs.elim
theorem mj_st_iinc (Cx : mj_Cx p l e R s m args below meth c G D tys ad bi z nL QQ b0 b1 cc cst own rt ini nh n Q) (hk : ∀ pc ls st h, k pc ls st h → mj_J p l e R s m args below meth c D (mj_cl G) tys ad bi z nL off QQ b0 b1 pc ls st h) {i : Nat} {v : Int} (hok : mj_OK G own cc nL off rt ini nh pc (.iinc i v)) (hs : mj_stp call cst (mj_nw G) hd Q k (.iinc i v) pc ls st h) : mj_J p l e R s m args below meth c D (mj_cl G) tys ad bi z nL off QQ b0 b1 pc ls st h := by
  obtain ⟨hx, hb, hml, hown, hts, hgood, hK, hSt, hR, hRf, hRl, hlocks, hrt, hini, hnh, htr, hty, had, hQQ⟩ := Cx
  simp only [mj_stp] at hs
  split at hs
  · next x hv =>
    obtain ⟨hi, hd, ho⟩ := hok
    exact mj_so_iinc hx hb hi hv hd ho (hk _ _ _ _ hs)
  · exact hs.elim
theorem mj_st_iadd (Cx : mj_Cx p l e R s m args below meth c G D tys ad bi z nL QQ b0 b1 cc cst own rt ini nh n Q) (hk : ∀ pc ls st h, k pc ls st h → mj_J p l e R s m args below meth c D (mj_cl G) tys ad bi z nL off QQ b0 b1 pc ls st h) (hok : mj_OK G own cc nL off rt ini nh pc (.iadd)) (hs : mj_stp call cst (mj_nw G) hd Q k (.iadd) pc ls st h) : mj_J p l e R s m args below meth c D (mj_cl G) tys ad bi z nL off QQ b0 b1 pc ls st h := by
  obtain ⟨hx, hb, hml, hown, hts, hgood, hK, hSt, hR, hRf, hRl, hlocks, hrt, hini, hnh, htr, hty, had, hQQ⟩ := Cx
  simp only [mj_stp] at hs
  split at hs
  · exact mj_so_iadd hx hb hok.1 hok.2 (hk _ _ _ _ hs)
  · exact hs.elim
theorem mj_st_isub (Cx : mj_Cx p l e R s m args below meth c G D tys ad bi z nL QQ b0 b1 cc cst own rt ini nh n Q) (hk : ∀ pc ls st h, k pc ls st h → mj_J p l e R s m args below meth c D (mj_cl G) tys ad bi z nL off QQ b0 b1 pc ls st h) (hok : mj_OK G own cc nL off rt ini nh pc (.isub)) (hs : mj_stp call cst (mj_nw G) hd Q k (.isub) pc ls st h) : mj_J p l e R s m args below meth c D (mj_cl G) tys ad bi z nL off QQ b0 b1 pc ls st h := by
  obtain ⟨hx, hb, hml, hown, hts, hgood, hK, hSt, hR, hRf, hRl, hlocks, hrt, hini, hnh, htr, hty, had, hQQ⟩ := Cx
  simp only [mj_stp] at hs
  split at hs
  · exact mj_so_isub hx hb hok.1 hok.2 (hk _ _ _ _ hs)
  · exact hs.elim
theorem mj_st_imul (Cx : mj_Cx p l e R s m args below meth c G D tys ad bi z nL QQ b0 b1 cc cst own rt ini nh n Q) (hk : ∀ pc ls st h, k pc ls st h → mj_J p l e R s m args below meth c D (mj_cl G) tys ad bi z nL off QQ b0 b1 pc ls st h) (hok : mj_OK G own cc nL off rt ini nh pc (.imul)) (hs : mj_stp call cst (mj_nw G) hd Q k (.imul) pc ls st h) : mj_J p l e R s m args below meth c D (mj_cl G) tys ad bi z nL off QQ b0 b1 pc ls st h := by
  obtain ⟨hx, hb, hml, hown, hts, hgood, hK, hSt, hR, hRf, hRl, hlocks, hrt, hini, hnh, htr, hty, had, hQQ⟩ := Cx
  simp only [mj_stp] at hs
  split at hs
  · exact mj_so_imul hx hb hok.1 hok.2 (hk _ _ _ _ hs)
  · exact hs.elim
theorem mj_st_iand (Cx : mj_Cx p l e R s m args below meth c G D tys ad bi z nL QQ b0 b1 cc cst own rt ini nh n Q) (hk : ∀ pc ls st h, k pc ls st h → mj_J p l e R s m args below meth c D (mj_cl G) tys ad bi z nL off QQ b0 b1 pc ls st h) (hok : mj_OK G own cc nL off rt ini nh pc (.iand)) (hs : mj_stp call cst (mj_nw G) hd Q k (.iand) pc ls st h) : mj_J p l e R s m args below meth c D (mj_cl G) tys ad bi z nL off QQ b0 b1 pc ls st h := by
  obtain ⟨hx, hb, hml, hown, hts, hgood, hK, hSt, hR, hRf, hRl, hlocks, hrt, hini, hnh, htr, hty, had, hQQ⟩ := Cx
  simp only [mj_stp] at hs
  split at hs
  · exact mj_so_iand hx hb hok.1 hok.2 (hk _ _ _ _ hs)
  · exact hs.elim
theorem mj_st_ior (Cx : mj_Cx p l e R s m args below meth c G D tys ad bi z nL QQ b0 b1 cc cst own rt ini nh n Q) (hk : ∀ pc ls st h, k pc ls st h → mj_J p l e R s m args below meth c D (mj_cl G) tys ad bi z nL off QQ b0 b1 pc ls st h) (hok : mj_OK G own cc nL off rt ini nh pc (.ior)) (hs : mj_stp call cst (mj_nw G) hd Q k (.ior) pc ls st h) : mj_J p l e R s m args below meth c D (mj_cl G) tys ad bi z nL off QQ b0 b1 pc ls st h := by
  obtain ⟨hx, hb, hml, hown, hts, hgood, hK, hSt, hR, hRf, hRl, hlocks, hrt, hini, hnh, htr, hty, had, hQQ⟩ := Cx
  simp only [mj_stp] at hs
  split at hs
  · exact mj_so_ior hx hb hok.1 hok.2 (hk _ _ _ _ hs)
  · exact hs.elim
theorem mj_st_ixor (Cx : mj_Cx p l e R s m args below meth c G D tys ad bi z nL QQ b0 b1 cc cst own rt ini nh n Q) (hk : ∀ pc ls st h, k pc ls st h → mj_J p l e R s m args below meth c D (mj_cl G) tys ad bi z nL off QQ b0 b1 pc ls st h) (hok : mj_OK G own cc nL off rt ini nh pc (.ixor)) (hs : mj_stp call cst (mj_nw G) hd Q k (.ixor) pc ls st h) : mj_J p l e R s m args below meth c D (mj_cl G) tys ad bi z nL off QQ b0 b1 pc ls st h := by
  obtain ⟨hx, hb, hml, hown, hts, hgood, hK, hSt, hR, hRf, hRl, hlocks, hrt, hini, hnh, htr, hty, had, hQQ⟩ := Cx
  simp only [mj_stp] at hs
  split at hs
  · exact mj_so_ixor hx hb hok.1 hok.2 (hk _ _ _ _ hs)
  · exact hs.elim
theorem mj_st_ishl (Cx : mj_Cx p l e R s m args below meth c G D tys ad bi z nL QQ b0 b1 cc cst own rt ini nh n Q) (hk : ∀ pc ls st h, k pc ls st h → mj_J p l e R s m args below meth c D (mj_cl G) tys ad bi z nL off QQ b0 b1 pc ls st h) (hok : mj_OK G own cc nL off rt ini nh pc (.ishl)) (hs : mj_stp call cst (mj_nw G) hd Q k (.ishl) pc ls st h) : mj_J p l e R s m args below meth c D (mj_cl G) tys ad bi z nL off QQ b0 b1 pc ls st h := by
  obtain ⟨hx, hb, hml, hown, hts, hgood, hK, hSt, hR, hRf, hRl, hlocks, hrt, hini, hnh, htr, hty, had, hQQ⟩ := Cx
  simp only [mj_stp] at hs
  split at hs
  · exact mj_so_ishl hx hb hok.1 hok.2 (hk _ _ _ _ hs)
  · exact hs.elim
theorem mj_st_ishr (Cx : mj_Cx p l e R s m args below meth c G D tys ad bi z nL QQ b0 b1 cc cst own rt ini nh n Q) (hk : ∀ pc ls st h, k pc ls st h → mj_J p l e R s m args below meth c D (mj_cl G) tys ad bi z nL off QQ b0 b1 pc ls st h) (hok : mj_OK G own cc nL off rt ini nh pc (.ishr)) (hs : mj_stp call cst (mj_nw G) hd Q k (.ishr) pc ls st h) : mj_J p l e R s m args below meth c D (mj_cl G) tys ad bi z nL off QQ b0 b1 pc ls st h := by
  obtain ⟨hx, hb, hml, hown, hts, hgood, hK, hSt, hR, hRf, hRl, hlocks, hrt, hini, hnh, htr, hty, had, hQQ⟩ := Cx
  simp only [mj_stp] at hs
  split at hs
  · exact mj_so_ishr hx hb hok.1 hok.2 (hk _ _ _ _ hs)
  · exact hs.elim
theorem mj_st_iushr (Cx : mj_Cx p l e R s m args below meth c G D tys ad bi z nL QQ b0 b1 cc cst own rt ini nh n Q) (hk : ∀ pc ls st h, k pc ls st h → mj_J p l e R s m args below meth c D (mj_cl G) tys ad bi z nL off QQ b0 b1 pc ls st h) (hok : mj_OK G own cc nL off rt ini nh pc (.iushr)) (hs : mj_stp call cst (mj_nw G) hd Q k (.iushr) pc ls st h) : mj_J p l e R s m args below meth c D (mj_cl G) tys ad bi z nL off QQ b0 b1 pc ls st h := by
  obtain ⟨hx, hb, hml, hown, hts, hgood, hK, hSt, hR, hRf, hRl, hlocks, hrt, hini, hnh, htr, hty, had, hQQ⟩ := Cx
  simp only [mj_stp] at hs
  split at hs
  · exact mj_so_iushr hx hb hok.1 hok.2 (hk _ _ _ _ hs)
  · exact hs.elim
theorem mj_st_ineg (Cx : mj_Cx p l e R s m args below meth c G D tys ad bi z nL QQ b0 b1 cc cst own rt ini nh n Q) (hk : ∀ pc ls st h, k pc ls st h → mj_J p l e R s m args below meth c D (mj_cl G) tys ad bi z nL off QQ b0 b1 pc ls st h) (hok : mj_OK G own cc nL off rt ini nh pc (.ineg)) (hs : mj_stp call cst (mj_nw G) hd Q k (.ineg) pc ls st h) : mj_J p l e R s m args below meth c D (mj_cl G) tys ad bi z nL off QQ b0 b1 pc ls st h := by
  obtain ⟨hx, hb, hml, hown, hts, hgood, hK, hSt, hR, hRf, hRl, hlocks, hrt, hini, hnh, htr, hty, had, hQQ⟩ := Cx
  simp only [mj_stp] at hs
  split at hs
  · exact mj_so_ineg hx hb hok.1 hok.2 (hk _ _ _ _ hs)
  · exact hs.elim
theorem mj_st_lneg (Cx : mj_Cx p l e R s m args below meth c G D tys ad bi z nL QQ b0 b1 cc cst own rt ini nh n Q) (hk : ∀ pc ls st h, k pc ls st h → mj_J p l e R s m args below meth c D (mj_cl G) tys ad bi z nL off QQ b0 b1 pc ls st h) (hok : mj_OK G own cc nL off rt ini nh pc (.lneg)) (hs : mj_stp call cst (mj_nw G) hd Q k (.lneg) pc ls st h) : mj_J p l e R s m args below meth c D (mj_cl G) tys ad bi z nL off QQ b0 b1 pc ls st h := by
  obtain ⟨hx, hb, hml, hown, hts, hgood, hK, hSt, hR, hRf, hRl, hlocks, hrt, hini, hnh, htr, hty, had, hQQ⟩ := Cx
  simp only [mj_stp] at hs
  split at hs
  · exact mj_so_lneg hx hb hok.1 hok.2 (hk _ _ _ _ hs)
  · exact hs.elim
theorem mj_st_ladd (Cx : mj_Cx p l e R s m args below meth c G D tys ad bi z nL QQ b0 b1 cc cst own rt ini nh n Q) (hk : ∀ pc ls st h, k pc ls st h → mj_J p l e R s m args below meth c D (mj_cl G) tys ad bi z nL off QQ b0 b1 pc ls st h) (hok : mj_OK G own cc nL off rt ini nh pc (.ladd)) (hs : mj_stp call cst (mj_nw G) hd Q k (.ladd) pc ls st h) : mj_J p l e R s m args below meth c D (mj_cl G) tys ad bi z nL off QQ b0 b1 pc ls st h := by
  obtain ⟨hx, hb, hml, hown, hts, hgood, hK, hSt, hR, hRf, hRl, hlocks, hrt, hini, hnh, htr, hty, had, hQQ⟩ := Cx
  simp only [mj_stp] at hs
  split at hs
  · exact mj_so_ladd hx hb hok.1 hok.2 (hk _ _ _ _ hs)
  · exact hs.elim
theorem mj_st_lsub (Cx : mj_Cx p l e R s m args below meth c G D tys ad bi z nL QQ b0 b1 cc cst own rt ini nh n Q) (hk : ∀ pc ls st h, k pc ls st h → mj_J p l e R s m args below meth c D (mj_cl G) tys ad bi z nL off QQ b0 b1 pc ls st h) (hok : mj_OK G own cc nL off rt ini nh pc (.lsub)) (hs : mj_stp call cst (mj_nw G) hd Q k (.lsub) pc ls st h) : mj_J p l e R s m args below meth c D (mj_cl G) tys ad bi z nL off QQ b0 b1 pc ls st h := by
  obtain ⟨hx, hb, hml, hown, hts, hgood, hK, hSt, hR, hRf, hRl, hlocks, hrt, hini, hnh, htr, hty, had, hQQ⟩ := Cx
  simp only [mj_stp] at hs
  split at hs
  · exact mj_so_lsub hx hb hok.1 hok.2 (hk _ _ _ _ hs)
  · exact hs.elim
theorem mj_st_land (Cx : mj_Cx p l e R s m args below meth c G D tys ad bi z nL QQ b0 b1 cc cst own rt ini nh n Q) (hk : ∀ pc ls st h, k pc ls st h → mj_J p l e R s m args below meth c D (mj_cl G) tys ad bi z nL off QQ b0 b1 pc ls st h) (hok : mj_OK G own cc nL off rt ini nh pc (.land)) (hs : mj_stp call cst (mj_nw G) hd Q k (.land) pc ls st h) : mj_J p l e R s m args below meth c D (mj_cl G) tys ad bi z nL off QQ b0 b1 pc ls st h := by
  obtain ⟨hx, hb, hml, hown, hts, hgood, hK, hSt, hR, hRf, hRl, hlocks, hrt, hini, hnh, htr, hty, had, hQQ⟩ := Cx
  simp only [mj_stp] at hs
  split at hs
  · exact mj_so_land hx hb hok.1 hok.2 (hk _ _ _ _ hs)
  · exact hs.elim
theorem mj_st_lor (Cx : mj_Cx p l e R s m args below meth c G D tys ad bi z nL QQ b0 b1 cc cst own rt ini nh n Q) (hk : ∀ pc ls st h, k pc ls st h → mj_J p l e R s m args below meth c D (mj_cl G) tys ad bi z nL off QQ b0 b1 pc ls st h) (hok : mj_OK G own cc nL off rt ini nh pc (.lor)) (hs : mj_stp call cst (mj_nw G) hd Q k (.lor) pc ls st h) : mj_J p l e R s m args below meth c D (mj_cl G) tys ad bi z nL off QQ b0 b1 pc ls st h := by
  obtain ⟨hx, hb, hml, hown, hts, hgood, hK, hSt, hR, hRf, hRl, hlocks, hrt, hini, hnh, htr, hty, had, hQQ⟩ := Cx
  simp only [mj_stp] at hs
  split at hs
  · exact mj_so_lor hx hb hok.1 hok.2 (hk _ _ _ _ hs)
  · exact hs.elim
theorem mj_st_lshl (Cx : mj_Cx p l e R s m args below meth c G D tys ad bi z nL QQ b0 b1 cc cst own rt ini nh n Q) (hk : ∀ pc ls st h, k pc ls st h → mj_J p l e R s m args below meth c D (mj_cl G) tys ad bi z nL off QQ b0 b1 pc ls st h) (hok : mj_OK G own cc nL off rt ini nh pc (.lshl)) (hs : mj_stp call cst (mj_nw G) hd Q k (.lshl) pc ls st h) : mj_J p l e R s m args below meth c D (mj_cl G) tys ad bi z nL off QQ b0 b1 pc ls st h := by
  obtain ⟨hx, hb, hml, hown, hts, hgood, hK, hSt, hR, hRf, hRl, hlocks, hrt, hini, hnh, htr, hty, had, hQQ⟩ := Cx
  simp only [mj_stp] at hs
  split at hs
  · exact mj_so_lshl hx hb hok.1 hok.2 (hk _ _ _ _ hs)
  · exact hs.elim
theorem mj_st_lshr (Cx : mj_Cx p l e R s m args below meth c G D tys ad bi z nL QQ b0 b1 cc cst own rt ini nh n Q) (hk : ∀ pc ls st h, k pc ls st h → mj_J p l e R s m args below meth c D (mj_cl G) tys ad bi z nL off QQ b0 b1 pc ls st h) (hok : mj_OK G own cc nL off rt ini nh pc (.lshr)) (hs : mj_stp call cst (mj_nw G) hd Q k (.lshr) pc ls st h) : mj_J p l e R s m args below meth c D (mj_cl G) tys ad bi z nL off QQ b0 b1 pc ls st h := by
  obtain ⟨hx, hb, hml, hown, hts, hgood, hK, hSt, hR, hRf, hRl, hlocks, hrt, hini, hnh, htr, hty, had, hQQ⟩ := Cx
  simp only [mj_stp] at hs
  split at hs
  · exact mj_so_lshr hx hb hok.1 hok.2 (hk _ _ _ _ hs)
  · exact hs.elim
theorem mj_st_lushr (Cx : mj_Cx p l e R s m args below meth c G D tys ad bi z nL QQ b0 b1 cc cst own rt ini nh n Q) (hk : ∀ pc ls st h, k pc ls st h → mj_J p l e R s m args below meth c D (mj_cl G) tys ad bi z nL off QQ b0 b1 pc ls st h) (hok : mj_OK G own cc nL off rt ini nh pc (.lushr)) (hs : mj_stp call cst (mj_nw G) hd Q k (.lushr) pc ls st h) : mj_J p l e R s m args below meth c D (mj_cl G) tys ad bi z nL off QQ b0 b1 pc ls st h := by
  obtain ⟨hx, hb, hml, hown, hts, hgood, hK, hSt, hR, hRf, hRl, hlocks, hrt, hini, hnh, htr, hty, had, hQQ⟩ := Cx
  simp only [mj_stp] at hs
  split at hs
  · exact mj_so_lushr hx hb hok.1 hok.2 (hk _ _ _ _ hs)
  · exact hs.elim
theorem mj_st_lcmp (Cx : mj_Cx p l e R s m args below meth c G D tys ad bi z nL QQ b0 b1 cc cst own rt ini nh n Q) (hk : ∀ pc ls st h, k pc ls st h → mj_J p l e R s m args below meth c D (mj_cl G) tys ad bi z nL off QQ b0 b1 pc ls st h) (hok : mj_OK G own cc nL off rt ini nh pc (.lcmp)) (hs : mj_stp call cst (mj_nw G) hd Q k (.lcmp) pc ls st h) : mj_J p l e R s m args below meth c D (mj_cl G) tys ad bi z nL off QQ b0 b1 pc ls st h := by
  obtain ⟨hx, hb, hml, hown, hts, hgood, hK, hSt, hR, hRf, hRl, hlocks, hrt, hini, hnh, htr, hty, had, hQQ⟩ := Cx
  simp only [mj_stp] at hs
  split at hs
  · exact mj_so_lcmp hx hb hok.1 hok.2 (hk _ _ _ _ hs)
  · exact hs.elim
theorem mj_st_i2l (Cx : mj_Cx p l e R s m args below meth c G D tys ad bi z nL QQ b0 b1 cc cst own rt ini nh n Q) (hk : ∀ pc ls st h, k pc ls st h → mj_J p l e R s m args below meth c D (mj_cl G) tys ad bi z nL off QQ b0 b1 pc ls st h) (hok : mj_OK G own cc nL off rt ini nh pc (.i2l)) (hs : mj_stp call cst (mj_nw G) hd Q k (.i2l) pc ls st h) : mj_J p l e R s m args below meth c D (mj_cl G) tys ad bi z nL off QQ b0 b1 pc ls st h := by
  obtain ⟨hx, hb, hml, hown, hts, hgood, hK, hSt, hR, hRf, hRl, hlocks, hrt, hini, hnh, htr, hty, had, hQQ⟩ := Cx
  simp only [mj_stp] at hs
  split at hs
  · exact mj_so_i2l hx hb hok.1 hok.2 (hk _ _ _ _ hs)
  · exact hs.elim
theorem mj_st_l2i (Cx : mj_Cx p l e R s m args below meth c G D tys ad bi z nL QQ b0 b1 cc cst own rt ini nh n Q) (hk : ∀ pc ls st h, k pc ls st h → mj_J p l e R s m args below meth c D (mj_cl G) tys ad bi z nL off QQ b0 b1 pc ls st h) (hok : mj_OK G own cc nL off rt ini nh pc (.l2i)) (hs : mj_stp call cst (mj_nw G) hd Q k (.l2i) pc ls st h) : mj_J p l e R s m args below meth c D (mj_cl G) tys ad bi z nL off QQ b0 b1 pc ls st h := by
  obtain ⟨hx, hb, hml, hown, hts, hgood, hK, hSt, hR, hRf, hRl, hlocks, hrt, hini, hnh, htr, hty, had, hQQ⟩ := Cx
  simp only [mj_stp] at hs
  split at hs
  · exact mj_so_l2i hx hb hok.1 hok.2 (hk _ _ _ _ hs)
  · exact hs.elim
theorem mj_st_i2c (Cx : mj_Cx p l e R s m args below meth c G D tys ad bi z nL QQ b0 b1 cc cst own rt ini nh n Q) (hk : ∀ pc ls st h, k pc ls st h → mj_J p l e R s m args below meth c D (mj_cl G) tys ad bi z nL off QQ b0 b1 pc ls st h) (hok : mj_OK G own cc nL off rt ini nh pc (.i2c)) (hs : mj_stp call cst (mj_nw G) hd Q k (.i2c) pc ls st h) : mj_J p l e R s m args below meth c D (mj_cl G) tys ad bi z nL off QQ b0 b1 pc ls st h := by
  obtain ⟨hx, hb, hml, hown, hts, hgood, hK, hSt, hR, hRf, hRl, hlocks, hrt, hini, hnh, htr, hty, had, hQQ⟩ := Cx
  simp only [mj_stp] at hs
  split at hs
  · exact mj_so_i2c hx hb hok.1 hok.2 (hk _ _ _ _ hs)
  · exact hs.elim
theorem mj_st_i2b (Cx : mj_Cx p l e R s m args below meth c G D tys ad bi z nL QQ b0 b1 cc cst own rt ini nh n Q) (hk : ∀ pc ls st h, k pc ls st h → mj_J p l e R s m args below meth c D (mj_cl G) tys ad bi z nL off QQ b0 b1 pc ls st h) (hok : mj_OK G own cc nL off rt ini nh pc (.i2b)) (hs : mj_stp call cst (mj_nw G) hd Q k (.i2b) pc ls st h) : mj_J p l e R s m args below meth c D (mj_cl G) tys ad bi z nL off QQ b0 b1 pc ls st h := by
  obtain ⟨hx, hb, hml, hown, hts, hgood, hK, hSt, hR, hRf, hRl, hlocks, hrt, hini, hnh, htr, hty, had, hQQ⟩ := Cx
  simp only [mj_stp] at hs
  split at hs
  · exact mj_so_i2b hx hb hok.1 hok.2 (hk _ _ _ _ hs)
  · exact hs.elim
theorem mj_st_lmul (Cx : mj_Cx p l e R s m args below meth c G D tys ad bi z nL QQ b0 b1 cc cst own rt ini nh n Q) (hk : ∀ pc ls st h, k pc ls st h → mj_J p l e R s m args below meth c D (mj_cl G) tys ad bi z nL off QQ b0 b1 pc ls st h) (hok : mj_OK G own cc nL off rt ini nh pc (.lmul)) (hs : mj_stp call cst (mj_nw G) hd Q k (.lmul) pc ls st h) : mj_J p l e R s m args below meth c D (mj_cl G) tys ad bi z nL off QQ b0 b1 pc ls st h := by
  obtain ⟨hx, hb, hml, hown, hts, hgood, hK, hSt, hR, hRf, hRl, hlocks, hrt, hini, hnh, htr, hty, had, hQQ⟩ := Cx
  simp only [mj_stp] at hs
  split at hs
  · exact mj_so_lmul hx hb hok.1 hok.2 (hk _ _ _ _ hs)
  · exact hs.elim
theorem mj_st_idiv (Cx : mj_Cx p l e R s m args below meth c G D tys ad bi z nL QQ b0 b1 cc cst own rt ini nh n Q) (hk : ∀ pc ls st h, k pc ls st h → mj_J p l e R s m args below meth c D (mj_cl G) tys ad bi z nL off QQ b0 b1 pc ls st h) (hok : mj_OK G own cc nL off rt ini nh pc (.idiv)) (hs : mj_stp call cst (mj_nw G) hd Q k (.idiv) pc ls st h) : mj_J p l e R s m args below meth c D (mj_cl G) tys ad bi z nL off QQ b0 b1 pc ls st h := by
  obtain ⟨hx, hb, hml, hown, hts, hgood, hK, hSt, hR, hRf, hRl, hlocks, hrt, hini, hnh, htr, hty, had, hQQ⟩ := Cx
  simp only [mj_stp] at hs
  split at hs
  · exact mj_so_idiv hx hb hok.1 hok.2 hs.1 (hk _ _ _ _ hs.2)
  · exact hs.elim
theorem mj_st_irem (Cx : mj_Cx p l e R s m args below meth c G D tys ad bi z nL QQ b0 b1 cc cst own rt ini nh n Q) (hk : ∀ pc ls st h, k pc ls st h → mj_J p l e R s m args below meth c D (mj_cl G) tys ad bi z nL off QQ b0 b1 pc ls st h) (hok : mj_OK G own cc nL off rt ini nh pc (.irem)) (hs : mj_stp call cst (mj_nw G) hd Q k (.irem) pc ls st h) : mj_J p l e R s m args below meth c D (mj_cl G) tys ad bi z nL off QQ b0 b1 pc ls st h := by
  obtain ⟨hx, hb, hml, hown, hts, hgood, hK, hSt, hR, hRf, hRl, hlocks, hrt, hini, hnh, htr, hty, had, hQQ⟩ := Cx
  simp only [mj_stp] at hs
  split at hs
  · exact mj_so_irem hx hb hok.1 hok.2 hs.1 (hk _ _ _ _ hs.2)
  · exact hs.elim
theorem mj_st_ldiv (Cx : mj_Cx p l e R s m args below meth c G D tys ad bi z nL QQ b0 b1 cc cst own rt ini nh n Q) (hk : ∀ pc ls st h, k pc ls st h → mj_J p l e R s m args below meth c D (mj_cl G) tys ad bi z nL off QQ b0 b1 pc ls st h) (hok : mj_OK G own cc nL off rt ini nh pc (.ldiv)) (hs : mj_stp call cst (mj_nw G) hd Q k (.ldiv) pc ls st h) : mj_J p l e R s m args below meth c D (mj_cl G) tys ad bi z nL off QQ b0 b1 pc ls st h := by
  obtain ⟨hx, hb, hml, hown, hts, hgood, hK, hSt, hR, hRf, hRl, hlocks, hrt, hini, hnh, htr, hty, had, hQQ⟩ := Cx
  simp only [mj_stp] at hs
  split at hs
  · exact mj_so_ldiv hx hb hok.1 hok.2 hs.1 (hk _ _ _ _ hs.2)
  · exact hs.elim
theorem mj_st_lrem (Cx : mj_Cx p l e R s m args below meth c G D tys ad bi z nL QQ b0 b1 cc cst own rt ini nh n Q) (hk : ∀ pc ls st h, k pc ls st h → mj_J p l e R s m args below meth c D (mj_cl G) tys ad bi z nL off QQ b0 b1 pc ls st h) (hok : mj_OK G own cc nL off rt ini nh pc (.lrem)) (hs : mj_stp call cst (mj_nw G) hd Q k (.lrem) pc ls st h) : mj_J p l e R s m args below meth c D (mj_cl G) tys ad bi z nL off QQ b0 b1 pc ls st h := by
  obtain ⟨hx, hb, hml, hown, hts, hgood, hK, hSt, hR, hRf, hRl, hlocks, hrt, hini, hnh, htr, hty, had, hQQ⟩ := Cx
  simp only [mj_stp] at hs
  split at hs
  · exact mj_so_lrem hx hb hok.1 hok.2 hs.1 (hk _ _ _ _ hs.2)
  · exact hs.elim
theorem mj_st_dup (Cx : mj_Cx p l e R s m args below meth c G D tys ad bi z nL QQ b0 b1 cc cst own rt ini nh n Q) (hk : ∀ pc ls st h, k pc ls st h → mj_J p l e R s m args below meth c D (mj_cl G) tys ad bi z nL off QQ b0 b1 pc ls st h) (hok : mj_OK G own cc nL off rt ini nh pc (.dup)) (hs : mj_stp call cst (mj_nw G) hd Q k (.dup) pc ls st h) : mj_J p l e R s m args below meth c D (mj_cl G) tys ad bi z nL off QQ b0 b1 pc ls st h := by
  obtain ⟨hx, hb, hml, hown, hts, hgood, hK, hSt, hR, hRf, hRl, hlocks, hrt, hini, hnh, htr, hty, had, hQQ⟩ := Cx
  simp only [mj_stp] at hs
  split at hs
  · exact mj_so_dup hx hb hok.1 hok.2 rfl (hk _ _ _ _ hs)
  · exact mj_so_dup hx hb hok.1 hok.2 rfl (hk _ _ _ _ hs)
  · exact hs.elim
theorem mj_st_dup_x1 (Cx : mj_Cx p l e R s m args below meth c G D tys ad bi z nL QQ b0 b1 cc cst own rt ini nh n Q) (hk : ∀ pc ls st h, k pc ls st h → mj_J p l e R s m args below meth c D (mj_cl G) tys ad bi z nL off QQ b0 b1 pc ls st h) (hok : mj_OK G own cc nL off rt ini nh pc (.dup_x1)) (hs : mj_stp call cst (mj_nw G) hd Q k (.dup_x1) pc ls st h) : mj_J p l e R s m args below meth c D (mj_cl G) tys ad bi z nL off QQ b0 b1 pc ls st h := by
  obtain ⟨hx, hb, hml, hown, hts, hgood, hK, hSt, hR, hRf, hRl, hlocks, hrt, hini, hnh, htr, hty, had, hQQ⟩ := Cx
  simp only [mj_stp] at hs
  split at hs
  · exact mj_so_dup_x1 hx hb hok.1 hok.2 rfl rfl (hk _ _ _ _ hs)
  · exact mj_so_dup_x1 hx hb hok.1 hok.2 rfl rfl (hk _ _ _ _ hs)
  · exact hs.elim
theorem mj_st_dup2 (Cx : mj_Cx p l e R s m args below meth c G D tys ad bi z nL QQ b0 b1 cc cst own rt ini nh n Q) (hk : ∀ pc ls st h, k pc ls st h → mj_J p l e R s m args below meth c D (mj_cl G) tys ad bi z nL off QQ b0 b1 pc ls st h) (hok : mj_OK G own cc nL off rt ini nh pc (.dup2)) (hs : mj_stp call cst (mj_nw G) hd Q k (.dup2) pc ls st h) : mj_J p l e R s m args below meth c D (mj_cl G) tys ad bi z nL off QQ b0 b1 pc ls st h := by
  obtain ⟨hx, hb, hml, hown, hts, hgood, hK, hSt, hR, hRf, hRl, hlocks, hrt, hini, hnh, htr, hty, had, hQQ⟩ := Cx
  simp only [mj_stp] at hs
  split at hs
  · exact mj_so_dup2 hx hb hok.1 hok.2 rfl rfl (hk _ _ _ _ hs)
  · exact mj_so_dup2 hx hb hok.1 hok.2 rfl rfl (hk _ _ _ _ hs)
  · exact mj_so_dup2l hx hb hok.1 hok.2 rfl (hk _ _ _ _ hs)
  · exact hs.elim
theorem mj_st_pop (Cx : mj_Cx p l e R s m args below meth c G D tys ad bi z nL QQ b0 b1 cc cst own rt ini nh n Q) (hk : ∀ pc ls st h, k pc ls st h → mj_J p l e R s m args below meth c D (mj_cl G) tys ad bi z nL off QQ b0 b1 pc ls st h) (hok : mj_OK G own cc nL off rt ini nh pc (.pop)) (hs : mj_stp call cst (mj_nw G) hd Q k (.pop) pc ls st h) : mj_J p l e R s m args below meth c D (mj_cl G) tys ad bi z nL off QQ b0 b1 pc ls st h := by
  obtain ⟨hx, hb, hml, hown, hts, hgood, hK, hSt, hR, hRf, hRl, hlocks, hrt, hini, hnh, htr, hty, had, hQQ⟩ := Cx
  simp only [mj_stp] at hs
  split at hs
  · exact mj_so_pop hx hb hok.1 hok.2 rfl (hk _ _ _ _ hs)
  · exact mj_so_pop hx hb hok.1 hok.2 rfl (hk _ _ _ _ hs)
  · exact hs.elim
theorem mj_st_pop2 (Cx : mj_Cx p l e R s m args below meth c G D tys ad bi z nL QQ b0 b1 cc cst own rt ini nh n Q) (hk : ∀ pc ls st h, k pc ls st h → mj_J p l e R s m args below meth c D (mj_cl G) tys ad bi z nL off QQ b0 b1 pc ls st h) (hok : mj_OK G own cc nL off rt ini nh pc (.pop2)) (hs : mj_stp call cst (mj_nw G) hd Q k (.pop2) pc ls st h) : mj_J p l e R s m args below meth c D (mj_cl G) tys ad bi z nL off QQ b0 b1 pc ls st h := by
  obtain ⟨hx, hb, hml, hown, hts, hgood, hK, hSt, hR, hRf, hRl, hlocks, hrt, hini, hnh, htr, hty, had, hQQ⟩ := Cx
  simp only [mj_stp] at hs
  split at hs
  · exact mj_so_pop2 hx hb hok.1 hok.2 rfl (hk _ _ _ _ hs)
  · exact hs.elim
theorem mj_st_ifCond (Cx : mj_Cx p l e R s m args below meth c G D tys ad bi z nL QQ b0 b1 cc cst own rt ini nh n Q) (hk : ∀ pc ls st h, k pc ls st h → mj_J p l e R s m args below meth c D (mj_cl G) tys ad bi z nL off QQ b0 b1 pc ls st h) {q : ClassFile.Cond} {t : Int} (hok : mj_OK G own cc nL off rt ini nh pc (.ifCond q t)) (hs : mj_stp call cst (mj_nw G) hd Q k (.ifCond q t) pc ls st h) : mj_J p l e R s m args below meth c D (mj_cl G) tys ad bi z nL off QQ b0 b1 pc ls st h := by
  obtain ⟨hx, hb, hml, hown, hts, hgood, hK, hSt, hR, hRf, hRl, hlocks, hrt, hini, hnh, htr, hty, had, hQQ⟩ := Cx
  obtain ⟨o, hd, ho, ht⟩ := hok
  cases q
  · simp only [mj_stp] at hs
    split at hs
    · exact mj_so_if_eq hx hb hd ho ht (fun g => hk _ _ _ _ (hs.1 g)) (fun g => hk _ _ _ _ (hs.2 g))
    · exact hs.elim
  · simp only [mj_stp] at hs
    split at hs
    · exact mj_so_if_ne hx hb hd ho ht (fun g => hk _ _ _ _ (hs.1 g)) (fun g => hk _ _ _ _ (hs.2 g))
    · exact hs.elim
  · simp only [mj_stp] at hs
    split at hs
    · exact mj_so_if_lt hx hb hd ho ht (fun g => hk _ _ _ _ (hs.1 g)) (fun g => hk _ _ _ _ (hs.2 g))
    · exact hs.elim
  · simp only [mj_stp] at hs
    split at hs
    · exact mj_so_if_ge hx hb hd ho ht (fun g => hk _ _ _ _ (hs.1 g)) (fun g => hk _ _ _ _ (hs.2 g))
    · exact hs.elim
  · simp only [mj_stp] at hs
    split at hs
    · exact mj_so_if_gt hx hb hd ho ht (fun g => hk _ _ _ _ (hs.1 g)) (fun g => hk _ _ _ _ (hs.2 g))
    · exact hs.elim
  · simp only [mj_stp] at hs
    split at hs
    · exact mj_so_if_le hx hb hd ho ht (fun g => hk _ _ _ _ (hs.1 g)) (fun g => hk _ _ _ _ (hs.2 g))
    · exact hs.elim
theorem mj_st_if_icmp (Cx : mj_Cx p l e R s m args below meth c G D tys ad bi z nL QQ b0 b1 cc cst own rt ini nh n Q) (hk : ∀ pc ls st h, k pc ls st h → mj_J p l e R s m args below meth c D (mj_cl G) tys ad bi z nL off QQ b0 b1 pc ls st h) {q : ClassFile.Cond} {t : Int} (hok : mj_OK G own cc nL off rt ini nh pc (.if_icmp q t)) (hs : mj_stp call cst (mj_nw G) hd Q k (.if_icmp q t) pc ls st h) : mj_J p l e R s m args below meth c D (mj_cl G) tys ad bi z nL off QQ b0 b1 pc ls st h := by
  obtain ⟨hx, hb, hml, hown, hts, hgood, hK, hSt, hR, hRf, hRl, hlocks, hrt, hini, hnh, htr, hty, had, hQQ⟩ := Cx
  obtain ⟨o, hd, ho, ht⟩ := hok
  cases q
  · simp only [mj_stp] at hs
    split at hs
    · exact mj_so_ic_eq hx hb hd ho ht (fun g => hk _ _ _ _ (hs.1 g)) (fun g => hk _ _ _ _ (hs.2 g))
    · exact hs.elim
  · simp only [mj_stp] at hs
    split at hs
    · exact mj_so_ic_ne hx hb hd ho ht (fun g => hk _ _ _ _ (hs.1 g)) (fun g => hk _ _ _ _ (hs.2 g))
    · exact hs.elim
  · simp only [mj_stp] at hs
    split at hs
    · exact mj_so_ic_lt hx hb hd ho ht (fun g => hk _ _ _ _ (hs.1 g)) (fun g => hk _ _ _ _ (hs.2 g))
    · exact hs.elim
  · simp only [mj_stp] at hs
    split at hs
    · exact mj_so_ic_ge hx hb hd ho ht (fun g => hk _ _ _ _ (hs.1 g)) (fun g => hk _ _ _ _ (hs.2 g))
    · exact hs.elim
  · simp only [mj_stp] at hs
    split at hs
    · exact mj_so_ic_gt hx hb hd ho ht (fun g => hk _ _ _ _ (hs.1 g)) (fun g => hk _ _ _ _ (hs.2 g))
    · exact hs.elim
  · simp only [mj_stp] at hs
    split at hs
    · exact mj_so_ic_le hx hb hd ho ht (fun g => hk _ _ _ _ (hs.1 g)) (fun g => hk _ _ _ _ (hs.2 g))
    · exact hs.elim
theorem mj_st_goto (Cx : mj_Cx p l e R s m args below meth c G D tys ad bi z nL QQ b0 b1 cc cst own rt ini nh n Q) (hk : ∀ pc ls st h, k pc ls st h → mj_J p l e R s m args below meth c D (mj_cl G) tys ad bi z nL off QQ b0 b1 pc ls st h) {t : Int} (hok : mj_OK G own cc nL off rt ini nh pc (.goto t)) (hs : mj_stp call cst (mj_nw G) hd Q k (.goto t) pc ls st h) : mj_J p l e R s m args below meth c D (mj_cl G) tys ad bi z nL off QQ b0 b1 pc ls st h := by
  obtain ⟨hx, hb, hml, hown, hts, hgood, hK, hSt, hR, hRf, hRl, hlocks, hrt, hini, hnh, htr, hty, had, hQQ⟩ := Cx
  obtain ⟨o, hd, ht⟩ := hok
  exact mj_so_goto hx hb hd ht (hk _ _ _ _ hs)
theorem mj_sw_mono {go go2 : Int → Prop} (hg : ∀ t, go t → go2 t) {d : Int} {x : Int32} : ∀ l : List (Int × Int), mj_sw go d x l → mj_sw go2 d x l
  | [], h => hg _ h
  | (_, _) :: l, h => ⟨fun e => hg _ (h.1 e), fun e => mj_sw_mono hg l (h.2 e)⟩
theorem mj_st_sw (Cx : mj_Cx p l e R s m args below meth c G D tys ad bi z nL QQ b0 b1 cc cst own rt ini nh n Q) (hk : ∀ pc ls st h, k pc ls st h → mj_J p l e R s m args below meth c D (mj_cl G) tys ad bi z nL off QQ b0 b1 pc ls st h) {d : Int} {ps : Array (Int × Int)} (hok : mj_OK G own cc nL off rt ini nh pc (.lookupswitch d ps)) (hs : mj_stp call cst (mj_nw G) hd Q k (.lookupswitch d ps) pc ls st h) : mj_J p l e R s m args below meth c D (mj_cl G) tys ad bi z nL off QQ b0 b1 pc ls st h := by
  obtain ⟨hx, hb, hml, hown, hts, hgood, hK, hSt, hR, hRf, hRl, hlocks, hrt, hini, hnh, htr, hty, had, hQQ⟩ := Cx
  simp only [mj_stp] at hs
  split at hs
  · exact mj_so_sw (TS := mj_TS G) (own := own) (rt := rt) hx hb hok (mj_sw_mono (fun t ht => hk _ _ _ _ ht) _ hs)
  · exact hs.elim
theorem mj_st_ireturn (Cx : mj_Cx p l e R s m args below meth c G D tys ad bi z nL QQ b0 b1 cc cst own rt ini nh n Q) (hk : ∀ pc ls st h, k pc ls st h → mj_J p l e R s m args below meth c D (mj_cl G) tys ad bi z nL off QQ b0 b1 pc ls st h) (hok : mj_OK G own cc nL off rt ini nh pc (.ireturn)) (hs : mj_stp call cst (mj_nw G) hd Q k (.ireturn) pc ls st h) : mj_J p l e R s m args below meth c D (mj_cl G) tys ad bi z nL off QQ b0 b1 pc ls st h := by
  obtain ⟨hx, hb, hml, hown, hts, hgood, hK, hSt, hR, hRf, hRl, hlocks, hrt, hini, hnh, htr, hty, had, hQQ⟩ := Cx
  simp only [mj_stp] at hs
  split at hs
  · exact mj_so_iret hx hb hlocks rfl (hrt.trans hok.2) hQQ hok.1 hs
  · exact hs.elim
theorem mj_st_areturn (Cx : mj_Cx p l e R s m args below meth c G D tys ad bi z nL QQ b0 b1 cc cst own rt ini nh n Q) (hk : ∀ pc ls st h, k pc ls st h → mj_J p l e R s m args below meth c D (mj_cl G) tys ad bi z nL off QQ b0 b1 pc ls st h) (hok : mj_OK G own cc nL off rt ini nh pc (.areturn)) (hs : mj_stp call cst (mj_nw G) hd Q k (.areturn) pc ls st h) : mj_J p l e R s m args below meth c D (mj_cl G) tys ad bi z nL off QQ b0 b1 pc ls st h := by
  obtain ⟨hx, hb, hml, hown, hts, hgood, hK, hSt, hR, hRf, hRl, hlocks, hrt, hini, hnh, htr, hty, had, hQQ⟩ := Cx
  simp only [mj_stp] at hs
  split at hs
  · obtain ⟨g1, ty, g2, g3⟩ := hok
    exact mj_so_aret (ty := ty) hx hb hlocks g3 (hrt.trans g2) hQQ g1 hs
  · exact hs.elim
theorem mj_st_zreturn (Cx : mj_Cx p l e R s m args below meth c G D tys ad bi z nL QQ b0 b1 cc cst own rt ini nh n Q) (hk : ∀ pc ls st h, k pc ls st h → mj_J p l e R s m args below meth c D (mj_cl G) tys ad bi z nL off QQ b0 b1 pc ls st h) (hok : mj_OK G own cc nL off rt ini nh pc (.freturn)) (hs : mj_stp call cst (mj_nw G) hd Q k (.freturn) pc ls st h) : mj_J p l e R s m args below meth c D (mj_cl G) tys ad bi z nL off QQ b0 b1 pc ls st h := by
  obtain ⟨hx, hb, hml, hown, hts, hgood, hK, hSt, hR, hRf, hRl, hlocks, hrt, hini, hnh, htr, hty, had, hQQ⟩ := Cx
  simp only [mj_stp] at hs
  split at hs
  · next x =>
    refine mj_so_iret (ty := .boolean) hx hb hlocks ?_ (hrt.trans hok.2) hQQ hok.1 hs.2
    rcases hs.1 with rfl | rfl <;> rfl
  · exact hs.elim
theorem mj_st_creturn (Cx : mj_Cx p l e R s m args below meth c G D tys ad bi z nL QQ b0 b1 cc cst own rt ini nh n Q) (hk : ∀ pc ls st h, k pc ls st h → mj_J p l e R s m args below meth c D (mj_cl G) tys ad bi z nL off QQ b0 b1 pc ls st h) (hok : mj_OK G own cc nL off rt ini nh pc (.dreturn)) (hs : mj_stp call cst (mj_nw G) hd Q k (.dreturn) pc ls st h) : mj_J p l e R s m args below meth c D (mj_cl G) tys ad bi z nL off QQ b0 b1 pc ls st h := by
  obtain ⟨hx, hb, hml, hown, hts, hgood, hK, hSt, hR, hRf, hRl, hlocks, hrt, hini, hnh, htr, hty, had, hQQ⟩ := Cx
  simp only [mj_stp] at hs
  split at hs
  · exact mj_so_iret (ty := .char) hx hb hlocks hs.1 (hrt.trans hok.2) hQQ hok.1 hs.2
  · exact hs.elim
theorem mj_st_breturn (Cx : mj_Cx p l e R s m args below meth c G D tys ad bi z nL QQ b0 b1 cc cst own rt ini nh n Q) (hk : ∀ pc ls st h, k pc ls st h → mj_J p l e R s m args below meth c D (mj_cl G) tys ad bi z nL off QQ b0 b1 pc ls st h) (hok : mj_OK G own cc nL off rt ini nh pc (.athrow)) (hs : mj_stp call cst (mj_nw G) hd Q k (.athrow) pc ls st h) : mj_J p l e R s m args below meth c D (mj_cl G) tys ad bi z nL off QQ b0 b1 pc ls st h := by
  obtain ⟨hx, hb, hml, hown, hts, hgood, hK, hSt, hR, hRf, hRl, hlocks, hrt, hini, hnh, htr, hty, had, hQQ⟩ := Cx
  simp only [mj_stp] at hs
  split at hs
  · exact mj_so_iret (ty := .byte) hx hb hlocks hs.1 (hrt.trans hok.2) hQQ hok.1 hs.2
  · exact hs.elim
theorem mj_st_ifnn (Cx : mj_Cx p l e R s m args below meth c G D tys ad bi z nL QQ b0 b1 cc cst own rt ini nh n Q) (hk : ∀ pc ls st h, k pc ls st h → mj_J p l e R s m args below meth c D (mj_cl G) tys ad bi z nL off QQ b0 b1 pc ls st h) {t : Int} (hok : mj_OK G own cc nL off rt ini nh pc (.ifnonnull t)) (hs : mj_stp call cst (mj_nw G) hd Q k (.ifnonnull t) pc ls st h) : mj_J p l e R s m args below meth c D (mj_cl G) tys ad bi z nL off QQ b0 b1 pc ls st h := by
  obtain ⟨hx, hb, hml, hown, hts, hgood, hK, hSt, hR, hRf, hRl, hlocks, hrt, hini, hnh, htr, hty, had, hQQ⟩ := Cx
  obtain ⟨o, hd, ht⟩ := hok
  simp only [mj_stp] at hs
  split at hs
  · exact mj_so_ifnn hx hb hd ht (hk _ _ _ _ hs)
  · exact hs.elim
theorem mj_st_gets0 (Cx : mj_Cx p l e R s m args below meth c G D tys ad bi z nL QQ b0 b1 cc cst own rt ini nh n Q) (hk : ∀ pc ls st h, k pc ls st h → mj_J p l e R s m args below meth c D (mj_cl G) tys ad bi z nL off QQ b0 b1 pc ls st h) {w : Nat} (hok : mj_OK G own cc nL off rt ini nh pc (.dload w)) (hs : mj_stp call cst (mj_nw G) hd Q k (.dload w) pc ls st h) : mj_J p l e R s m args below meth c D (mj_cl G) tys ad bi z nL off QQ b0 b1 pc ls st h := by
  obtain ⟨hx, hb, hml, hown, hts, hgood, hK, hSt, hR, hRf, hRl, hlocks, hrt, hini, hnh, htr, hty, had, hQQ⟩ := Cx
  obtain ⟨j, C, f, d, g1, g2, g3, g4⟩ := hok
  exact mj_so_gets hx hb hown hts hSt g3 g4 g1 g2 (hk _ _ _ _ hs)
theorem mj_st_ldcS (Cx : mj_Cx p l e R s m args below meth c G D tys ad bi z nL QQ b0 b1 cc cst own rt ini nh n Q) (hk : ∀ pc ls st h, k pc ls st h → mj_J p l e R s m args below meth c D (mj_cl G) tys ad bi z nL off QQ b0 b1 pc ls st h) {w : Nat} (hok : mj_OK G own cc nL off rt ini nh pc (.ldc w)) (hs : mj_stp call cst (mj_nw G) hd Q k (.ldc w) pc ls st h) : mj_J p l e R s m args below meth c D (mj_cl G) tys ad bi z nL off QQ b0 b1 pc ls st h := by
  obtain ⟨hx, hb, hml, hown, hts, hgood, hK, hSt, hR, hRf, hRl, hlocks, hrt, hini, hnh, htr, hty, had, hQQ⟩ := Cx
  obtain ⟨j, tx, g1, g2, g3, g4⟩ := hok
  exact mj_so_ldcS hx hb hown hSt g3 g4 g1 g2 (hk _ _ _ _ hs)
theorem mj_st_sget (Cx : mj_Cx p l e R s m args below meth c G D tys ad bi z nL QQ b0 b1 cc cst own rt ini nh n Q) (hk : ∀ pc ls st h, k pc ls st h → mj_J p l e R s m args below meth c D (mj_cl G) tys ad bi z nL off QQ b0 b1 pc ls st h) {w : Nat} (hok : mj_OK G own cc nL off rt ini nh pc (.anewarray w)) (hs : mj_stp call cst (mj_nw G) hd Q k (.anewarray w) pc ls st h) : mj_J p l e R s m args below meth c D (mj_cl G) tys ad bi z nL off QQ b0 b1 pc ls st h := by
  obtain ⟨hx, hb, hml, hown, hts, hgood, hK, hSt, hR, hRf, hRl, hlocks, hrt, hini, hnh, htr, hty, had, hQQ⟩ := Cx
  obtain ⟨j, g1, g2, g3⟩ := hok
  simp only [mj_stp] at hs
  split at hs
  · next a r =>
    split at hs
    · next x ec he =>
      exact mj_so_sget hx hb hown hts (v := .ref (a - 900)) ((hSt.1 a x.1 x.2 ec).2.2 (Nat.le_of_ble_eq_true he)).2.2 g3 g1 g2 (hk _ _ _ _ hs)
    · next x ec he =>
      exact mj_so_sget hx hb hown hts (v := .int 0) ((hSt.1 a x.1 x.2 ec).2.2 (Nat.le_of_ble_eq_true he)).2.1 g3 g1 g2 (hk _ _ _ _ hs)
    · exact hs.elim
  · exact hs.elim
theorem mj_st_lreturn (Cx : mj_Cx p l e R s m args below meth c G D tys ad bi z nL QQ b0 b1 cc cst own rt ini nh n Q) (hk : ∀ pc ls st h, k pc ls st h → mj_J p l e R s m args below meth c D (mj_cl G) tys ad bi z nL off QQ b0 b1 pc ls st h) (hok : mj_OK G own cc nL off rt ini nh pc (.lreturn)) (hs : mj_stp call cst (mj_nw G) hd Q k (.lreturn) pc ls st h) : mj_J p l e R s m args below meth c D (mj_cl G) tys ad bi z nL off QQ b0 b1 pc ls st h := by
  obtain ⟨hx, hb, hml, hown, hts, hgood, hK, hSt, hR, hRf, hRl, hlocks, hrt, hini, hnh, htr, hty, had, hQQ⟩ := Cx
  simp only [mj_stp] at hs
  split at hs
  · exact mj_so_lret hx hb hlocks (hrt.trans hok.2) hQQ hok.1 hs
  · exact hs.elim
theorem mj_st_return (Cx : mj_Cx p l e R s m args below meth c G D tys ad bi z nL QQ b0 b1 cc cst own rt ini nh n Q) (hk : ∀ pc ls st h, k pc ls st h → mj_J p l e R s m args below meth c D (mj_cl G) tys ad bi z nL off QQ b0 b1 pc ls st h) (hok : mj_OK G own cc nL off rt ini nh pc (.return_)) (hs : mj_stp call cst (mj_nw G) hd Q k (.return_) pc ls st h) : mj_J p l e R s m args below meth c D (mj_cl G) tys ad bi z nL off QQ b0 b1 pc ls st h := by
  obtain ⟨hx, hb, hml, hown, hts, hgood, hK, hSt, hR, hRf, hRl, hlocks, hrt, hini, hnh, htr, hty, had, hQQ⟩ := Cx
  simp only [mj_stp] at hs
  split at hs
  · exact mj_so_vret hx hb hlocks (hrt.trans hok.2) hQQ hok.1 hs
  · exact hs.elim
theorem mj_st_getfield (Cx : mj_Cx p l e R s m args below meth c G D tys ad bi z nL QQ b0 b1 cc cst own rt ini nh n Q) (hk : ∀ pc ls st h, k pc ls st h → mj_J p l e R s m args below meth c D (mj_cl G) tys ad bi z nL off QQ b0 b1 pc ls st h) {f : Nat} (hok : mj_OK G own cc nL off rt ini nh pc (.getfield f)) (hs : mj_stp call cst (mj_nw G) hd Q k (.getfield f) pc ls st h) : mj_J p l e R s m args below meth c D (mj_cl G) tys ad bi z nL off QQ b0 b1 pc ls st h := by
  obtain ⟨hx, hb, hml, hown, hts, hgood, hK, hSt, hR, hRf, hRl, hlocks, hrt, hini, hnh, htr, hty, had, hQQ⟩ := Cx
  obtain ⟨j, C, T, N, hd, ho, ⟨g1, g2, g3, g4⟩, g5, g6⟩ := hok
  simp only [mj_stp] at hs
  split at hs
  · split at hs
    · next ci fs ha =>
      split at hs
      · next v hc hv =>
        have hc : ci = f / 256 := Nat.eq_of_beq_eq_true hc
        subst hc
        exact mj_so_get hx hb hown hts hK ha g1 g5 g6 g2 hv hd ho (hk _ _ _ _ hs)
      · exact hs.elim
    · exact hs.elim
  · exact hs.elim
theorem mj_st_getstatic (Cx : mj_Cx p l e R s m args below meth c G D tys ad bi z nL QQ b0 b1 cc cst own rt ini nh n Q) (hk : ∀ pc ls st h, k pc ls st h → mj_J p l e R s m args below meth c D (mj_cl G) tys ad bi z nL off QQ b0 b1 pc ls st h) {w : Nat} (hok : mj_OK G own cc nL off rt ini nh pc (.getstatic w)) (hs : mj_stp call cst (mj_nw G) hd Q k (.getstatic w) pc ls st h) : mj_J p l e R s m args below meth c D (mj_cl G) tys ad bi z nL off QQ b0 b1 pc ls st h := by
  obtain ⟨hx, hb, hml, hown, hts, hgood, hK, hSt, hR, hRf, hRl, hlocks, hrt, hini, hnh, htr, hty, had, hQQ⟩ := Cx
  obtain ⟨j, C, f, d, g1, g2, g3, g4⟩ := hok
  exact mj_so_gets hx hb hown hts hSt g3 g4 g1 g2 (hk _ _ _ _ hs)
end MJB
end
