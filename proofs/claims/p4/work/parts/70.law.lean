def lw_P (b : Addr) (xs : List Int32) (args : Array Value) (s : State) : Prop := args = #[.ref b] ∧ s.IntsAt b xs ∧ xs.length ≤ 1537 ∧ (Jvm.Cond.and given_1 narrow_1).before args s = true
theorem lw_pre_spec {args : Array Value} {s : State} (h : (Jvm.Cond.and given_1 narrow_1).before args s = true) (hr : rest_1_c.before args s = true) : ∃ (b : Addr) (xs : List Int32), lw_P b xs args s := by
  have hs := flat_of_before _ h
  have hq := flat_of_before _ hr
  have hc : (Cond.count 1).before args s = true := hs _ (by decide +kernel)
  have harr : (Cond.arrayOf (.arg 0) .int).before args s = true := hs _ (by decide +kernel)
  have hle : (Cond.le (.length (.arg 0)) (.int 1537)).before args s = true := hs _ (by decide +kernel)
  have hlen : (Cond.isInt (.length (.arg 0))).before args s = true := hq _ (by decide +kernel)
  have hall : (Cond.all (.arg 0) (.isInt (.elem (.arg 0) (.index 0)))).before args s = true := hq _ (by decide +kernel)
  obtain ⟨b, xs, hb, hx⟩ := State.ints_of_pre rfl harr hlen hall
  have hsm : xs.length < 2 ^ 31 := hx.choose_spec.2.2.2
  have hev : (Term.length (.arg 0)).eval args s none [] s = some (.int xs.length.toInt32) := hx.length_eval hb
  have hv := Cond.le_ints hev (show (Term.int 1537).eval args s none [] s = some (.int 1537) from rfl)
  have hd : xs.length.toInt32 ≤ 1537 := by
    simpa [Cond.before, Cond.holds, hv] using hle
  have hN : xs.length ≤ 1537 := (Int32.ofNat_le_ofNat hsm (by decide)).mp (show Int32.ofNat xs.length ≤ Int32.ofNat 1537 from hd)
  exact ⟨b, xs, Cond.one_arg hc (show args[0]? = some (.ref b) from hb), hx, hN, h⟩
theorem law_arr {ty : FieldType} {args : Array Value} {s : State} (h : (Cond.arrayClass ty).before args s = true) : ∃ cA, ArrOfT s cA ty ∧ s.vm.findClass ("[" ++ ty.toString) = some cA := by
  simp only [Cond.before, Cond.holds, Cond.value] at h
  cases hf : s.vm.findClass ("[" ++ ty.toString) with
  | none => simp [hf] at h
  | some cA =>
    cases hk : s.vm.classes[cA]? with
    | none => simp [hf, hk] at h
    | some kA =>
      simp only [hf, hk, Option.bind_some, Option.map_some, beq_iff_eq, Option.some.injEq] at h
      split at h
      · next comp ty' e =>
        have e9 : ty' = ty := of_decide_eq_true h
        subst e9
        exact ⟨cA, fun n z => ⟨fun k h => (by cases h), kA, hk, comp, e⟩, rfl⟩
      · cases h
theorem law_c9 (xs : List Int32) : mj_c9 9 (law_cst xs) gnc := by
  refine ⟨rfl, fun a x h => ?_, by decide +kernel, by decide +kernel⟩
  unfold law_cst at h
  split at h
  · decide
  · decide
  · decide
  · decide
  · decide
  · decide
  · decide
  · decide
  · decide
  · decide
  · cases h
theorem law_good : ∀ w ∈ gTS, mj_gw w = true := fun w h => (List.mem_filter.mp h).2
def law_z (s : State) : Nat → Prop := fun q => s.heap.size ≤ q
def law_ad (z : Nat) (f : Nat → Nat) : Nat → Nat := fun i => if i < 1000 then z + i else f i
theorem law_ade {z : Nat} {f : Nat → Nat} {i : Nat} (h : 1000 ≤ i) : law_ad z f i = f i := if_neg (by omega)
theorem law_selp {y : MethodName} {s : State} {args : Array Value} {n : Nat} (hy : y.cls = "java/lang/AbstractStringBuilder") (hins : (Cond.instantiable "java/lang/StringBuilder" n).before args s = true) (hpriv : (Cond.privateMethod y).before args s = true) (hinst : (Cond.instanceMethod y).before args s = true) (hsel : (Cond.selects "java/lang/StringBuilder" ⟨"java/lang/AbstractStringBuilder", "isLatin1", "()Z"⟩ ⟨"java/lang/AbstractStringBuilder", "isLatin1", "()Z"⟩).before args s = true) : (Cond.selects "java/lang/StringBuilder" y y).before args s = true := by
  obtain ⟨c, k, hc, hk, -⟩ := Cond.instantiable_spec hins
  obtain ⟨mk, methM, hnamed, hmethM, -, -⟩ := Cond.instanceMethod_spec hinst
  have hfound : s.methodFound? y.cls y.name y.desc = some mk := State.methodFound?_of_named hnamed ⟨by rw [hy]; decide, by rw [hy]; decide⟩
  have hsl : selectMethod {} s.vm c mk = .method mk := selectMethod_private hmethM (Cond.privateMethod_at hpriv mk methM hnamed hmethM)
  have hni : (s.vm.classes[mk.cls]?).any (!·.isInterface) = true := by
    simp only [Cond.before, Cond.holds, Cond.value, hc] at hsel
    cases h1 : s.methodFound? "java/lang/AbstractStringBuilder" "isLatin1" "()Z" with
    | none => simp [h1] at hsel
    | some r1 =>
      cases h2 : s.methodNamed? ⟨"java/lang/AbstractStringBuilder", "isLatin1", "()Z"⟩ with
      | none => simp [h1, h2] at hsel
      | some m2 =>
        have e2 := findClass_of_methodNamed h2
        have e1 := findClass_of_methodNamed hnamed
        rw [hy] at e1
        have e : m2.cls = mk.cls := Option.some.inj (e2.symm.trans e1)
        simp only [h1, h2, beq_iff_eq, Option.some.injEq] at hsel
        split at hsel
        · rw [Bool.and_eq_true] at hsel
          rw [← e]
          exact hsel.2
        · cases hsel
  simp only [Cond.before, Cond.holds, Cond.value, hc, hfound, hnamed, hsl]
  simpa using hni
theorem law_str {tm : Term} {args : Array Value} {s : State} {len : Nat} {f : Nat → Int32} {A : Nat → Prop} (hN : len < 2 ^ 31) (hex : (Cond.exactly tm "java/lang/String").before args s = true) (hco : (Cond.eq (.field tm "java/lang/String" "coder" "B") (.int 0)).before args s = true) (har : (Cond.arrayOf (.field tm "java/lang/String" "value" "[B") .byte).before args s = true) (hle : (Cond.eq (.length (.field tm "java/lang/String" "value" "[B")) (.int (Int32.ofNat len))).before args s = true) (hel : ∀ j : Nat, j < len → (Cond.eq (.elem (.field tm "java/lang/String" "value" "[B") (.int (Int32.ofNat j))) (.int (f j))).before args s = true) (hA : ∀ a : Nat, a < s.heap.size → ¬ A a) :
    ∃ a t : Nat, tm.eval args s none [] s = some (.ref a) ∧ va_O "java/lang/String" a A s s.heap ∧ va_OF "java/lang/String" "coder" "B" (.int 0) a A s s.heap ∧ va_OF "java/lang/String" "value" "[B" (.ref t) a A s s.heap ∧ va_T .byte t len (fun j => .int (f j)) A s s.heap := by
  obtain ⟨a, c, cA, kA, q1, q2, q3, q4, q5, q6, -⟩ := Cond.exactly_spec (args := args) (first := s) (o := none) (s := s) (idx := []) (t := tm) (cls := "java/lang/String") hex
  obtain ⟨t, ht, hT⟩ := va_Tof (f := fun j => .int (f j)) (A := A) hN har (va_eqt hle) (fun j hj => va_eqt (hel j hj)) hA
  exact ⟨a, t, q1, ⟨cA, q3, q5, by rw [q6]; exact q2, hA a (Array.getElem?_eq_some_iff.mp q3).1⟩, vk_OFof q1 (va_eqt hco) hA, vk_OFof q1 ht hA, hT⟩
theorem law_so {args : Array Value} {s : State} {C n d : String} {A : Nat → Prop} (hl : (Cond.laysStatic C n d).before args s = true) (hi : (Cond.initialized C).before args s = true) (h : (Cond.isRef (.static C n d)).before args s = true) (hA : ∀ a : Nat, a < s.heap.size → ¬ A a) : ∃ w : Nat, va_Z C n d (if w = 0 then .null else .ref (w - 1)) A s s.heap := by
  cases hv : (Term.static C n d).eval args s none [] s with
  | none => simp [Cond.before, Cond.holds, Cond.value, hv] at h
  | some w =>
    cases w with
    | null => exact ⟨0, va_Zof hl hi hv hA⟩
    | ref a => exact ⟨a + 1, va_Zof hl hi hv hA⟩
    | _ => simp [Cond.before, Cond.holds, Cond.value, hv] at h
theorem law_K {s : State} {args : Array Value} (hts : ∀ w ∈ gTS, w.before args s = true) : ∃ (D : va_G) (tys : List (ClassId × FieldType)), mj_ty5 tys ∧ va_K D gcl tys s := by
  obtain ⟨a0, p0, q0⟩ := law_arr (hts _ tw_232)
  obtain ⟨a1, p1, q1⟩ := law_arr (hts _ tw_16)
  obtain ⟨a2, p2, q2⟩ := law_arr (hts _ tw_222)
  obtain ⟨a3, p3, q3⟩ := law_arr (hts _ tw_701)
  obtain ⟨a4, p4, q4⟩ := law_arr (hts _ tw_1074)
  obtain ⟨c0, i0, k0⟩ := u_known (C := "PairMachine") (T := fT0) (N := 7) (n := 7) hts fw_0 (hts _ tw_1)
  obtain ⟨c1, i1, k1⟩ := u_known (C := "PairMachine$Text") (T := fT1) (N := 2) (n := 2) hts fw_1 (hts _ tw_114)
  obtain ⟨c2, i2, k2⟩ := u_known (C := "PairMachine$Tree") (T := fT2) (N := 7) (n := 7) hts fw_2 (hts _ tw_108)
  obtain ⟨c3, i3, k3⟩ := u_known (C := "PairMachine$Reader") (T := fT3) (N := 3) (n := 3) hts fw_3 (hts _ tw_121)
  obtain ⟨c4, i4, k4⟩ := u_known (C := "PairMachine$Code") (T := fT4) (N := 5) (n := 5) hts fw_4 (hts _ tw_128)
  obtain ⟨c5, i5, k5⟩ := u_known (C := "PairMachine$Coder") (T := fT5) (N := 5) (n := 5) hts fw_5 (hts _ tw_135)
  obtain ⟨c6, i6, k6⟩ := u_known (C := "PairMachine$Machine") (T := fT6) (N := 10) (n := 10) hts fw_6 (hts _ tw_142)
  obtain ⟨c7, i7, k7⟩ := u_known (C := "PairMachine$Store") (T := fT7) (N := 9) (n := 9) hts fw_7 (hts _ tw_508)
  obtain ⟨c8, i8, k8⟩ := u_known (C := "PairMachine$Display") (T := fT8) (N := 4) (n := 4) hts fw_8 (hts _ tw_515)
  obtain ⟨c9, i9, k9⟩ := u_known (C := "java/lang/StringBuilder") (T := fT9) (N := 4) (n := 4) hts fw_9 (hts _ tw_737)
  obtain ⟨c10, i10, k10⟩ := u_known (C := "PairMachineModel") (T := fT10) (N := 45) (n := 45) hts fw_10 (hts _ tw_11)
  refine ⟨(fun k => match k with
    | 0 => c0
    | 1 => c1
    | 2 => c2
    | 3 => c3
    | 4 => c4
    | 5 => c5
    | 6 => c6
    | 7 => c7
    | 8 => c8
    | 9 => c9
    | _ => c10,
    fun k => match k with
    | 0 => i0
    | 1 => i1
    | 2 => i2
    | 3 => i3
    | 4 => i4
    | 5 => i5
    | 6 => i6
    | 7 => i7
    | 8 => i8
    | 9 => i9
    | _ => i10), [(a0, .int), (a1, .long), (a2, .char), (a3, .boolean), (a4, .byte)], ⟨a0, a1, a2, a3, a4, rfl⟩, fun k x hx => ?_, fun k x hx => ?_⟩
  · match k, hx with
    | 0, hx => cases hx; exact k0
    | 1, hx => cases hx; exact k1
    | 2, hx => cases hx; exact k2
    | 3, hx => cases hx; exact k3
    | 4, hx => cases hx; exact k4
    | 5, hx => cases hx; exact k5
    | 6, hx => cases hx; exact k6
    | 7, hx => cases hx; exact k7
    | 8, hx => cases hx; exact k8
    | 9, hx => cases hx; exact k9
    | 10, hx => cases hx; exact k10
    | k + 11, hx => simp [gcl] at hx
  · match k, hx with
    | 0, hx => cases hx; exact ⟨p0, q0⟩
    | 1, hx => cases hx; exact ⟨p1, q1⟩
    | 2, hx => cases hx; exact ⟨p2, q2⟩
    | 3, hx => cases hx; exact ⟨p3, q3⟩
    | 4, hx => cases hx; exact ⟨p4, q4⟩
    | k + 5, hx => simp at hx
theorem law_sr {s : State} {args : Array Value} {C n d : String} (hl : (Cond.laysStatic C n d).before args s = true) (h : (Cond.isRef (.static C n d)).before args s = true) : mj_sr C n d (law_z s) s := by
  obtain ⟨c, k, i, f, a, cell, hc, hi, hst, ha, hcell, hs, hcls, hlt, hty⟩ := Cond.laysStatic_spec hl
  cases hv : (Term.static C n d).eval args s none [] s with
  | none => simp [Cond.before, Cond.holds, Cond.value, hv] at h
  | some w =>
    obtain ⟨hst', a', cell', ha', hcell', -, hslot⟩ := Term.static_spec hi hv
    cases ha.symm.trans ha'
    cases hcell.symm.trans hcell'
    simp only [Cond.before, Cond.holds, Cond.value, hv] at h
    refine ⟨c, k, i, f, a, cell, w, hc, hi, hst, ha, hcell, hs, hcls, hlt, hty, hslot, ?_, Nat.not_le.mpr (Array.getElem?_eq_some_iff.mp hcell).1⟩
    cases w <;> simp at h <;> rfl
theorem law_nc {s : State} {args : Array Value} {x y : String} (h : (Cond.not (.castable x y)).before args s = true) : ∀ c1 c2, s.vm.findClass x = some c1 → s.vm.findClass y = some c2 → s.vm.assignable c1 c2 = false := by
  intro c1 c2 h1 h2
  have hv := Cond.holds_not_iff.mp h
  simp only [Cond.value, h1, h2] at hv
  exact Option.some.inj hv
theorem law_sk {s : State} {args : Array Value} {own tx : String} {i : Nat} (h : (Cond.stringRef own i tx).before args s = true) : ∃ a, vk_R own i tx a s := by
  have hcur : ∃ cur, s.vm.findClass own = some cur := by
    have h1 := h
    simp only [Cond.before, Cond.holds, Cond.value] at h1
    cases hc : s.vm.findClass own with
    | none => simp [hc] at h1
    | some cur => exact ⟨cur, rfl⟩
  obtain ⟨cur, hcur⟩ := hcur
  obtain ⟨k, cf, i, a, -, -, -, -, -, hev⟩ := Cond.stringRef_spec hcur h
  exact ⟨a, vk_R.of h hev⟩
theorem law_St {s : State} {b : Nat} {xs : List Int32} (hts : ∀ w ∈ lw_tbl, w.before #[Value.ref b] s = true) (hgv : (Jvm.Cond.and given_1 narrow_1).before #[Value.ref b] s = true) (hX : va_T .int b xs.length (fun j => .int (xs.getD j 0)) (mj_A (law_z s)) s s.heap) : ∃ f, f 1001 = b ∧ mj_St (law_cst xs) (law_ad s.heap.size f) (law_z s) gnc s := by
  have hs := flat_of_before _ hgv
  have hA : ∀ a : Nat, a < s.heap.size → ¬ mj_A (law_z s) a := fun a h => Nat.not_le.mpr h
  have hin0 : ∀ j : Nat, j < 20 → (Term.elem (.static "PairMachine$Op" "NEEDS" "[I") (.int (Int32.ofNat j))).eval #[Value.ref b] s none [] s = some (.int (law_nd.getD j 0)) := by
    intro j hj
    match j, hj with
    | 0, _ => exact va_eqt (z := 0) (hs _ (by decide +kernel))
    | 1, _ => exact va_eqt (z := 1) (hs _ (by decide +kernel))
    | 2, _ => exact va_eqt (z := 1) (hs _ (by decide +kernel))
    | 3, _ => exact va_eqt (z := 2) (hs _ (by decide +kernel))
    | 4, _ => exact va_eqt (z := 4) (hs _ (by decide +kernel))
    | 5, _ => exact va_eqt (z := 1) (hs _ (by decide +kernel))
    | 6, _ => exact va_eqt (z := 1) (hs _ (by decide +kernel))
    | 7, _ => exact va_eqt (z := 3) (hs _ (by decide +kernel))
    | 8, _ => exact va_eqt (z := 1) (hs _ (by decide +kernel))
    | 9, _ => exact va_eqt (z := 0) (hs _ (by decide +kernel))
    | 10, _ => exact va_eqt (z := 1) (hs _ (by decide +kernel))
    | 11, _ => exact va_eqt (z := 1) (hs _ (by decide +kernel))
    | 12, _ => exact va_eqt (z := 1) (hs _ (by decide +kernel))
    | 13, _ => exact va_eqt (z := 2) (hs _ (by decide +kernel))
    | 14, _ => exact va_eqt (z := 1) (hs _ (by decide +kernel))
    | 15, _ => exact va_eqt (z := 1) (hs _ (by decide +kernel))
    | 16, _ => exact va_eqt (z := 1) (hs _ (by decide +kernel))
    | 17, _ => exact va_eqt (z := 1) (hs _ (by decide +kernel))
    | 18, _ => exact va_eqt (z := 1) (hs _ (by decide +kernel))
    | 19, _ => exact va_eqt (z := 0) (hs _ (by decide +kernel))
    | j + 20, h => omega
  obtain ⟨nd, nde, ndT⟩ := va_Tof (tm := .static "PairMachine$Op" "NEEDS" "[I") (ty := .int) (N := 20) (f := fun j => .int (law_nd.getD j 0)) (by decide) (hs _ (by decide +kernel)) (va_eqt (hs (Cond.eq (.length (.static "PairMachine$Op" "NEEDS" "[I")) (.int 20)) (by decide +kernel))) hin0 hA
  have hin1 : ∀ j : Nat, j < 100 → (Term.elem (.static "java/lang/Integer" "DigitOnes" "[B") (.int (Int32.ofNat j))).eval #[Value.ref b] s none [] s = some (.int (law_d1.getD j 0)) := by
    intro j hj
    match j, hj with
    | 0, _ => exact va_eqt (z := 48) (hs _ (by decide +kernel))
    | 1, _ => exact va_eqt (z := 49) (hs _ (by decide +kernel))
    | 2, _ => exact va_eqt (z := 50) (hs _ (by decide +kernel))
    | 3, _ => exact va_eqt (z := 51) (hs _ (by decide +kernel))
    | 4, _ => exact va_eqt (z := 52) (hs _ (by decide +kernel))
    | 5, _ => exact va_eqt (z := 53) (hs _ (by decide +kernel))
    | 6, _ => exact va_eqt (z := 54) (hs _ (by decide +kernel))
    | 7, _ => exact va_eqt (z := 55) (hs _ (by decide +kernel))
    | 8, _ => exact va_eqt (z := 56) (hs _ (by decide +kernel))
    | 9, _ => exact va_eqt (z := 57) (hs _ (by decide +kernel))
    | 10, _ => exact va_eqt (z := 48) (hs _ (by decide +kernel))
    | 11, _ => exact va_eqt (z := 49) (hs _ (by decide +kernel))
    | 12, _ => exact va_eqt (z := 50) (hs _ (by decide +kernel))
    | 13, _ => exact va_eqt (z := 51) (hs _ (by decide +kernel))
    | 14, _ => exact va_eqt (z := 52) (hs _ (by decide +kernel))
    | 15, _ => exact va_eqt (z := 53) (hs _ (by decide +kernel))
    | 16, _ => exact va_eqt (z := 54) (hs _ (by decide +kernel))
    | 17, _ => exact va_eqt (z := 55) (hs _ (by decide +kernel))
    | 18, _ => exact va_eqt (z := 56) (hs _ (by decide +kernel))
    | 19, _ => exact va_eqt (z := 57) (hs _ (by decide +kernel))
    | 20, _ => exact va_eqt (z := 48) (hs _ (by decide +kernel))
    | 21, _ => exact va_eqt (z := 49) (hs _ (by decide +kernel))
    | 22, _ => exact va_eqt (z := 50) (hs _ (by decide +kernel))
    | 23, _ => exact va_eqt (z := 51) (hs _ (by decide +kernel))
    | 24, _ => exact va_eqt (z := 52) (hs _ (by decide +kernel))
    | 25, _ => exact va_eqt (z := 53) (hs _ (by decide +kernel))
    | 26, _ => exact va_eqt (z := 54) (hs _ (by decide +kernel))
    | 27, _ => exact va_eqt (z := 55) (hs _ (by decide +kernel))
    | 28, _ => exact va_eqt (z := 56) (hs _ (by decide +kernel))
    | 29, _ => exact va_eqt (z := 57) (hs _ (by decide +kernel))
    | 30, _ => exact va_eqt (z := 48) (hs _ (by decide +kernel))
    | 31, _ => exact va_eqt (z := 49) (hs _ (by decide +kernel))
    | 32, _ => exact va_eqt (z := 50) (hs _ (by decide +kernel))
    | 33, _ => exact va_eqt (z := 51) (hs _ (by decide +kernel))
    | 34, _ => exact va_eqt (z := 52) (hs _ (by decide +kernel))
    | 35, _ => exact va_eqt (z := 53) (hs _ (by decide +kernel))
    | 36, _ => exact va_eqt (z := 54) (hs _ (by decide +kernel))
    | 37, _ => exact va_eqt (z := 55) (hs _ (by decide +kernel))
    | 38, _ => exact va_eqt (z := 56) (hs _ (by decide +kernel))
    | 39, _ => exact va_eqt (z := 57) (hs _ (by decide +kernel))
    | 40, _ => exact va_eqt (z := 48) (hs _ (by decide +kernel))
    | 41, _ => exact va_eqt (z := 49) (hs _ (by decide +kernel))
    | 42, _ => exact va_eqt (z := 50) (hs _ (by decide +kernel))
    | 43, _ => exact va_eqt (z := 51) (hs _ (by decide +kernel))
    | 44, _ => exact va_eqt (z := 52) (hs _ (by decide +kernel))
    | 45, _ => exact va_eqt (z := 53) (hs _ (by decide +kernel))
    | 46, _ => exact va_eqt (z := 54) (hs _ (by decide +kernel))
    | 47, _ => exact va_eqt (z := 55) (hs _ (by decide +kernel))
    | 48, _ => exact va_eqt (z := 56) (hs _ (by decide +kernel))
    | 49, _ => exact va_eqt (z := 57) (hs _ (by decide +kernel))
    | 50, _ => exact va_eqt (z := 48) (hs _ (by decide +kernel))
    | 51, _ => exact va_eqt (z := 49) (hs _ (by decide +kernel))
    | 52, _ => exact va_eqt (z := 50) (hs _ (by decide +kernel))
    | 53, _ => exact va_eqt (z := 51) (hs _ (by decide +kernel))
    | 54, _ => exact va_eqt (z := 52) (hs _ (by decide +kernel))
    | 55, _ => exact va_eqt (z := 53) (hs _ (by decide +kernel))
    | 56, _ => exact va_eqt (z := 54) (hs _ (by decide +kernel))
    | 57, _ => exact va_eqt (z := 55) (hs _ (by decide +kernel))
    | 58, _ => exact va_eqt (z := 56) (hs _ (by decide +kernel))
    | 59, _ => exact va_eqt (z := 57) (hs _ (by decide +kernel))
    | 60, _ => exact va_eqt (z := 48) (hs _ (by decide +kernel))
    | 61, _ => exact va_eqt (z := 49) (hs _ (by decide +kernel))
    | 62, _ => exact va_eqt (z := 50) (hs _ (by decide +kernel))
    | 63, _ => exact va_eqt (z := 51) (hs _ (by decide +kernel))
    | 64, _ => exact va_eqt (z := 52) (hs _ (by decide +kernel))
    | 65, _ => exact va_eqt (z := 53) (hs _ (by decide +kernel))
    | 66, _ => exact va_eqt (z := 54) (hs _ (by decide +kernel))
    | 67, _ => exact va_eqt (z := 55) (hs _ (by decide +kernel))
    | 68, _ => exact va_eqt (z := 56) (hs _ (by decide +kernel))
    | 69, _ => exact va_eqt (z := 57) (hs _ (by decide +kernel))
    | 70, _ => exact va_eqt (z := 48) (hs _ (by decide +kernel))
    | 71, _ => exact va_eqt (z := 49) (hs _ (by decide +kernel))
    | 72, _ => exact va_eqt (z := 50) (hs _ (by decide +kernel))
    | 73, _ => exact va_eqt (z := 51) (hs _ (by decide +kernel))
    | 74, _ => exact va_eqt (z := 52) (hs _ (by decide +kernel))
    | 75, _ => exact va_eqt (z := 53) (hs _ (by decide +kernel))
    | 76, _ => exact va_eqt (z := 54) (hs _ (by decide +kernel))
    | 77, _ => exact va_eqt (z := 55) (hs _ (by decide +kernel))
    | 78, _ => exact va_eqt (z := 56) (hs _ (by decide +kernel))
    | 79, _ => exact va_eqt (z := 57) (hs _ (by decide +kernel))
    | 80, _ => exact va_eqt (z := 48) (hs _ (by decide +kernel))
    | 81, _ => exact va_eqt (z := 49) (hs _ (by decide +kernel))
    | 82, _ => exact va_eqt (z := 50) (hs _ (by decide +kernel))
    | 83, _ => exact va_eqt (z := 51) (hs _ (by decide +kernel))
    | 84, _ => exact va_eqt (z := 52) (hs _ (by decide +kernel))
    | 85, _ => exact va_eqt (z := 53) (hs _ (by decide +kernel))
    | 86, _ => exact va_eqt (z := 54) (hs _ (by decide +kernel))
    | 87, _ => exact va_eqt (z := 55) (hs _ (by decide +kernel))
    | 88, _ => exact va_eqt (z := 56) (hs _ (by decide +kernel))
    | 89, _ => exact va_eqt (z := 57) (hs _ (by decide +kernel))
    | 90, _ => exact va_eqt (z := 48) (hs _ (by decide +kernel))
    | 91, _ => exact va_eqt (z := 49) (hs _ (by decide +kernel))
    | 92, _ => exact va_eqt (z := 50) (hs _ (by decide +kernel))
    | 93, _ => exact va_eqt (z := 51) (hs _ (by decide +kernel))
    | 94, _ => exact va_eqt (z := 52) (hs _ (by decide +kernel))
    | 95, _ => exact va_eqt (z := 53) (hs _ (by decide +kernel))
    | 96, _ => exact va_eqt (z := 54) (hs _ (by decide +kernel))
    | 97, _ => exact va_eqt (z := 55) (hs _ (by decide +kernel))
    | 98, _ => exact va_eqt (z := 56) (hs _ (by decide +kernel))
    | 99, _ => exact va_eqt (z := 57) (hs _ (by decide +kernel))
    | j + 100, h => omega
  obtain ⟨d1, d1e, d1T⟩ := va_Tof (tm := .static "java/lang/Integer" "DigitOnes" "[B") (ty := .byte) (N := 100) (f := fun j => .int (law_d1.getD j 0)) (by decide) (hs _ (by decide +kernel)) (va_eqt (hs (Cond.eq (.length (.static "java/lang/Integer" "DigitOnes" "[B")) (.int 100)) (by decide +kernel))) hin1 hA
  have hin2 : ∀ j : Nat, j < 100 → (Term.elem (.static "java/lang/Integer" "DigitTens" "[B") (.int (Int32.ofNat j))).eval #[Value.ref b] s none [] s = some (.int (law_d2.getD j 0)) := by
    intro j hj
    match j, hj with
    | 0, _ => exact va_eqt (z := 48) (hs _ (by decide +kernel))
    | 1, _ => exact va_eqt (z := 48) (hs _ (by decide +kernel))
    | 2, _ => exact va_eqt (z := 48) (hs _ (by decide +kernel))
    | 3, _ => exact va_eqt (z := 48) (hs _ (by decide +kernel))
    | 4, _ => exact va_eqt (z := 48) (hs _ (by decide +kernel))
    | 5, _ => exact va_eqt (z := 48) (hs _ (by decide +kernel))
    | 6, _ => exact va_eqt (z := 48) (hs _ (by decide +kernel))
    | 7, _ => exact va_eqt (z := 48) (hs _ (by decide +kernel))
    | 8, _ => exact va_eqt (z := 48) (hs _ (by decide +kernel))
    | 9, _ => exact va_eqt (z := 48) (hs _ (by decide +kernel))
    | 10, _ => exact va_eqt (z := 49) (hs _ (by decide +kernel))
    | 11, _ => exact va_eqt (z := 49) (hs _ (by decide +kernel))
    | 12, _ => exact va_eqt (z := 49) (hs _ (by decide +kernel))
    | 13, _ => exact va_eqt (z := 49) (hs _ (by decide +kernel))
    | 14, _ => exact va_eqt (z := 49) (hs _ (by decide +kernel))
    | 15, _ => exact va_eqt (z := 49) (hs _ (by decide +kernel))
    | 16, _ => exact va_eqt (z := 49) (hs _ (by decide +kernel))
    | 17, _ => exact va_eqt (z := 49) (hs _ (by decide +kernel))
    | 18, _ => exact va_eqt (z := 49) (hs _ (by decide +kernel))
    | 19, _ => exact va_eqt (z := 49) (hs _ (by decide +kernel))
    | 20, _ => exact va_eqt (z := 50) (hs _ (by decide +kernel))
    | 21, _ => exact va_eqt (z := 50) (hs _ (by decide +kernel))
    | 22, _ => exact va_eqt (z := 50) (hs _ (by decide +kernel))
    | 23, _ => exact va_eqt (z := 50) (hs _ (by decide +kernel))
    | 24, _ => exact va_eqt (z := 50) (hs _ (by decide +kernel))
    | 25, _ => exact va_eqt (z := 50) (hs _ (by decide +kernel))
    | 26, _ => exact va_eqt (z := 50) (hs _ (by decide +kernel))
    | 27, _ => exact va_eqt (z := 50) (hs _ (by decide +kernel))
    | 28, _ => exact va_eqt (z := 50) (hs _ (by decide +kernel))
    | 29, _ => exact va_eqt (z := 50) (hs _ (by decide +kernel))
    | 30, _ => exact va_eqt (z := 51) (hs _ (by decide +kernel))
    | 31, _ => exact va_eqt (z := 51) (hs _ (by decide +kernel))
    | 32, _ => exact va_eqt (z := 51) (hs _ (by decide +kernel))
    | 33, _ => exact va_eqt (z := 51) (hs _ (by decide +kernel))
    | 34, _ => exact va_eqt (z := 51) (hs _ (by decide +kernel))
    | 35, _ => exact va_eqt (z := 51) (hs _ (by decide +kernel))
    | 36, _ => exact va_eqt (z := 51) (hs _ (by decide +kernel))
    | 37, _ => exact va_eqt (z := 51) (hs _ (by decide +kernel))
    | 38, _ => exact va_eqt (z := 51) (hs _ (by decide +kernel))
    | 39, _ => exact va_eqt (z := 51) (hs _ (by decide +kernel))
    | 40, _ => exact va_eqt (z := 52) (hs _ (by decide +kernel))
    | 41, _ => exact va_eqt (z := 52) (hs _ (by decide +kernel))
    | 42, _ => exact va_eqt (z := 52) (hs _ (by decide +kernel))
    | 43, _ => exact va_eqt (z := 52) (hs _ (by decide +kernel))
    | 44, _ => exact va_eqt (z := 52) (hs _ (by decide +kernel))
    | 45, _ => exact va_eqt (z := 52) (hs _ (by decide +kernel))
    | 46, _ => exact va_eqt (z := 52) (hs _ (by decide +kernel))
    | 47, _ => exact va_eqt (z := 52) (hs _ (by decide +kernel))
    | 48, _ => exact va_eqt (z := 52) (hs _ (by decide +kernel))
    | 49, _ => exact va_eqt (z := 52) (hs _ (by decide +kernel))
    | 50, _ => exact va_eqt (z := 53) (hs _ (by decide +kernel))
    | 51, _ => exact va_eqt (z := 53) (hs _ (by decide +kernel))
    | 52, _ => exact va_eqt (z := 53) (hs _ (by decide +kernel))
    | 53, _ => exact va_eqt (z := 53) (hs _ (by decide +kernel))
    | 54, _ => exact va_eqt (z := 53) (hs _ (by decide +kernel))
    | 55, _ => exact va_eqt (z := 53) (hs _ (by decide +kernel))
    | 56, _ => exact va_eqt (z := 53) (hs _ (by decide +kernel))
    | 57, _ => exact va_eqt (z := 53) (hs _ (by decide +kernel))
    | 58, _ => exact va_eqt (z := 53) (hs _ (by decide +kernel))
    | 59, _ => exact va_eqt (z := 53) (hs _ (by decide +kernel))
    | 60, _ => exact va_eqt (z := 54) (hs _ (by decide +kernel))
    | 61, _ => exact va_eqt (z := 54) (hs _ (by decide +kernel))
    | 62, _ => exact va_eqt (z := 54) (hs _ (by decide +kernel))
    | 63, _ => exact va_eqt (z := 54) (hs _ (by decide +kernel))
    | 64, _ => exact va_eqt (z := 54) (hs _ (by decide +kernel))
    | 65, _ => exact va_eqt (z := 54) (hs _ (by decide +kernel))
    | 66, _ => exact va_eqt (z := 54) (hs _ (by decide +kernel))
    | 67, _ => exact va_eqt (z := 54) (hs _ (by decide +kernel))
    | 68, _ => exact va_eqt (z := 54) (hs _ (by decide +kernel))
    | 69, _ => exact va_eqt (z := 54) (hs _ (by decide +kernel))
    | 70, _ => exact va_eqt (z := 55) (hs _ (by decide +kernel))
    | 71, _ => exact va_eqt (z := 55) (hs _ (by decide +kernel))
    | 72, _ => exact va_eqt (z := 55) (hs _ (by decide +kernel))
    | 73, _ => exact va_eqt (z := 55) (hs _ (by decide +kernel))
    | 74, _ => exact va_eqt (z := 55) (hs _ (by decide +kernel))
    | 75, _ => exact va_eqt (z := 55) (hs _ (by decide +kernel))
    | 76, _ => exact va_eqt (z := 55) (hs _ (by decide +kernel))
    | 77, _ => exact va_eqt (z := 55) (hs _ (by decide +kernel))
    | 78, _ => exact va_eqt (z := 55) (hs _ (by decide +kernel))
    | 79, _ => exact va_eqt (z := 55) (hs _ (by decide +kernel))
    | 80, _ => exact va_eqt (z := 56) (hs _ (by decide +kernel))
    | 81, _ => exact va_eqt (z := 56) (hs _ (by decide +kernel))
    | 82, _ => exact va_eqt (z := 56) (hs _ (by decide +kernel))
    | 83, _ => exact va_eqt (z := 56) (hs _ (by decide +kernel))
    | 84, _ => exact va_eqt (z := 56) (hs _ (by decide +kernel))
    | 85, _ => exact va_eqt (z := 56) (hs _ (by decide +kernel))
    | 86, _ => exact va_eqt (z := 56) (hs _ (by decide +kernel))
    | 87, _ => exact va_eqt (z := 56) (hs _ (by decide +kernel))
    | 88, _ => exact va_eqt (z := 56) (hs _ (by decide +kernel))
    | 89, _ => exact va_eqt (z := 56) (hs _ (by decide +kernel))
    | 90, _ => exact va_eqt (z := 57) (hs _ (by decide +kernel))
    | 91, _ => exact va_eqt (z := 57) (hs _ (by decide +kernel))
    | 92, _ => exact va_eqt (z := 57) (hs _ (by decide +kernel))
    | 93, _ => exact va_eqt (z := 57) (hs _ (by decide +kernel))
    | 94, _ => exact va_eqt (z := 57) (hs _ (by decide +kernel))
    | 95, _ => exact va_eqt (z := 57) (hs _ (by decide +kernel))
    | 96, _ => exact va_eqt (z := 57) (hs _ (by decide +kernel))
    | 97, _ => exact va_eqt (z := 57) (hs _ (by decide +kernel))
    | 98, _ => exact va_eqt (z := 57) (hs _ (by decide +kernel))
    | 99, _ => exact va_eqt (z := 57) (hs _ (by decide +kernel))
    | j + 100, h => omega
  obtain ⟨d2, d2e, d2T⟩ := va_Tof (tm := .static "java/lang/Integer" "DigitTens" "[B") (ty := .byte) (N := 100) (f := fun j => .int (law_d2.getD j 0)) (by decide) (hs _ (by decide +kernel)) (va_eqt (hs (Cond.eq (.length (.static "java/lang/Integer" "DigitTens" "[B")) (.int 100)) (by decide +kernel))) hin2 hA
  obtain ⟨k2010, t2010, e2010, o2010, c2010, v2010, T2010⟩ := law_str (tm := .string "PairMachine$Display" 64) (len := 3) (f := fun j => law_s2010.getD j 0) (by decide) (hs _ (by decide +kernel)) (hs _ (by decide +kernel)) (hs _ (by decide +kernel)) (hs (Cond.eq (.length (.field (.string "PairMachine$Display" 64) "java/lang/String" "value" "[B")) (.int 3)) (by decide +kernel)) (fun j hj => by
    match j, hj with
    | 0, _ => exact hs (Cond.eq (.elem (.field (.string "PairMachine$Display" 64) "java/lang/String" "value" "[B") (.int 0)) (.int 32)) (by decide +kernel)
    | 1, _ => exact hs (Cond.eq (.elem (.field (.string "PairMachine$Display" 64) "java/lang/String" "value" "[B") (.int 1)) (.int 46)) (by decide +kernel)
    | 2, _ => exact hs (Cond.eq (.elem (.field (.string "PairMachine$Display" 64) "java/lang/String" "value" "[B") (.int 2)) (.int 32)) (by decide +kernel)
    | j + 3, h => omega) hA
  have r2010 := vk_R.of (tx := " . ") (hts _ (tin_tables_1_6 _ (List.mem_of_getElem? (i := 89) (by decide +kernel)))) e2010
  obtain ⟨k2011, t2011, e2011, o2011, c2011, v2011, T2011⟩ := law_str (tm := .string "PairMachine$Display" 85) (len := 2) (f := fun j => law_s2011.getD j 0) (by decide) (hs _ (by decide +kernel)) (hs _ (by decide +kernel)) (hs _ (by decide +kernel)) (hs (Cond.eq (.length (.field (.string "PairMachine$Display" 85) "java/lang/String" "value" "[B")) (.int 2)) (by decide +kernel)) (fun j hj => by
    match j, hj with
    | 0, _ => exact hs (Cond.eq (.elem (.field (.string "PairMachine$Display" 85) "java/lang/String" "value" "[B") (.int 0)) (.int 40)) (by decide +kernel)
    | 1, _ => exact hs (Cond.eq (.elem (.field (.string "PairMachine$Display" 85) "java/lang/String" "value" "[B") (.int 1)) (.int 41)) (by decide +kernel)
    | j + 2, h => omega) hA
  have r2011 := vk_R.of (tx := "()") (hts _ (tin_tables_1_6 _ (List.mem_of_getElem? (i := 83) (by decide +kernel)))) e2011
  obtain ⟨k2012, t2012, e2012, o2012, c2012, v2012, T2012⟩ := law_str (tm := .string "PairMachine$Op" 15) (len := 9) (f := fun j => law_s2012.getD j 0) (by decide) (hs _ (by decide +kernel)) (hs _ (by decide +kernel)) (hs _ (by decide +kernel)) (hs (Cond.eq (.length (.field (.string "PairMachine$Op" 15) "java/lang/String" "value" "[B")) (.int 9)) (by decide +kernel)) (fun j hj => by
    match j, hj with
    | 0, _ => exact hs (Cond.eq (.elem (.field (.string "PairMachine$Op" 15) "java/lang/String" "value" "[B") (.int 0)) (.int 94)) (by decide +kernel)
    | 1, _ => exact hs (Cond.eq (.elem (.field (.string "PairMachine$Op" 15) "java/lang/String" "value" "[B") (.int 1)) (.int 95)) (by decide +kernel)
    | 2, _ => exact hs (Cond.eq (.elem (.field (.string "PairMachine$Op" 15) "java/lang/String" "value" "[B") (.int 2)) (.int 33)) (by decide +kernel)
    | 3, _ => exact hs (Cond.eq (.elem (.field (.string "PairMachine$Op" 15) "java/lang/String" "value" "[B") (.int 3)) (.int 46)) (by decide +kernel)
    | 4, _ => exact hs (Cond.eq (.elem (.field (.string "PairMachine$Op" 15) "java/lang/String" "value" "[B") (.int 4)) (.int 61)) (by decide +kernel)
    | 5, _ => exact hs (Cond.eq (.elem (.field (.string "PairMachine$Op" 15) "java/lang/String" "value" "[B") (.int 5)) (.int 43)) (by decide +kernel)
    | 6, _ => exact hs (Cond.eq (.elem (.field (.string "PairMachine$Op" 15) "java/lang/String" "value" "[B") (.int 6)) (.int 45)) (by decide +kernel)
    | 7, _ => exact hs (Cond.eq (.elem (.field (.string "PairMachine$Op" 15) "java/lang/String" "value" "[B") (.int 7)) (.int 42)) (by decide +kernel)
    | 8, _ => exact hs (Cond.eq (.elem (.field (.string "PairMachine$Op" 15) "java/lang/String" "value" "[B") (.int 8)) (.int 60)) (by decide +kernel)
    | j + 9, h => omega) hA
  have r2012 := vk_R.of (tx := "^_!.=+-*<") (hts _ (tin_tables_1_3 _ (List.mem_of_getElem? (i := 162) (by decide +kernel)))) e2012
  obtain ⟨w9, hw9⟩ := law_so (C := "jdk/internal/util/Preconditions") (n := "SIOOBE_FORMATTER") (d := "Ljava/util/function/BiFunction;") (A := mj_A (law_z s)) (hts _ (tin_tables_1_2 _ (List.mem_of_getElem? (i := 211) (by decide +kernel)))) (hts _ (tin_tables_1_1 _ (List.mem_of_getElem? (i := 22) (by decide +kernel)))) (hs _ (by decide +kernel)) hA
  refine ⟨fun i => match i with
    | 1000 => nd
    | 1001 => b
    | 1101 => d1
    | 1102 => d2
    | 1999 => w9
    | 1110 => t2010
    | 2010 => k2010
    | 1111 => t2011
    | 2011 => k2011
    | 1112 => t2012
    | 2012 => k2012
    | _ => 0, rfl, fun a n g ha => ?_, fun q hq => hq, fun q hq => ?_, fun q hq => ?_, fun q hq => ?_, fun q hq => ?_, fun q hq => ?_⟩
  · unfold law_cst at ha
    split at ha
    · cases ha; exact ⟨fun _ => ndT, fun h => absurd h (by decide), fun h => absurd h (by decide)⟩
    · cases ha; exact ⟨fun _ => hX, fun h => absurd h (by decide), fun h => absurd h (by decide)⟩
    · cases ha; exact ⟨fun h => absurd h (by decide), fun _ _ => d1T, fun h => absurd h (by decide)⟩
    · cases ha; exact ⟨fun h => absurd h (by decide), fun _ _ => d2T, fun h => absurd h (by decide)⟩
    · cases ha; exact ⟨fun h => absurd h (by decide), fun _ _ => T2010, fun h => absurd h (by decide)⟩
    · cases ha; exact ⟨fun h => absurd h (by decide), fun _ h => absurd h (by decide), fun _ => ⟨o2010, c2010, v2010⟩⟩
    · cases ha; exact ⟨fun h => absurd h (by decide), fun _ _ => T2011, fun h => absurd h (by decide)⟩
    · cases ha; exact ⟨fun h => absurd h (by decide), fun _ h => absurd h (by decide), fun _ => ⟨o2011, c2011, v2011⟩⟩
    · cases ha; exact ⟨fun h => absurd h (by decide), fun _ _ => T2012, fun h => absurd h (by decide)⟩
    · cases ha; exact ⟨fun h => absurd h (by decide), fun _ h => absurd h (by decide), fun _ => ⟨o2012, c2012, v2012⟩⟩
    · cases ha
  · simp only [gnc, List.mem_cons, List.not_mem_nil, or_false] at hq
    rcases hq with rfl | rfl
    · exact law_nc (hs _ (by decide +kernel))
    · exact law_nc (hs _ (by decide +kernel))
  · simp only [gnc, List.mem_cons, List.not_mem_nil, or_false] at hq
    rcases hq with rfl | rfl
    · obtain ⟨c1, c2, g1, g2, g3⟩ := Cond.castable_spec (hts (.castable "java/lang/IllegalArgumentException" "java/lang/IllegalArgumentException") (tin_tables_1_3 _ (List.mem_of_getElem? (i := 28) (by decide +kernel))))
      exact ⟨c1, c2, g1, g2, g3⟩
    · obtain ⟨c1, c2, g1, g2, g3⟩ := Cond.castable_spec (hts (.castable "java/lang/IllegalStateException" "java/lang/IllegalStateException") (tin_tables_1_4 _ (List.mem_of_getElem? (i := 163) (by decide +kernel))))
      exact ⟨c1, c2, g1, g2, g3⟩
  · simp only [gnc, List.mem_cons, List.not_mem_nil, or_false] at hq
    rcases hq with rfl | rfl
    · exact law_sr (hts _ (tin_tables_1_3 _ (List.mem_of_getElem? (i := 53) (by decide +kernel)))) (hs _ (by decide +kernel))
    · exact law_sr (hts _ (tin_tables_1_3 _ (List.mem_of_getElem? (i := 55) (by decide +kernel)))) (hs _ (by decide +kernel))
  · simp only [gnc, List.mem_cons, List.not_mem_nil, or_false] at hq
    rcases hq with rfl | rfl | rfl | rfl | rfl | rfl | rfl
    · obtain ⟨a9, h9⟩ := law_sk (own := "PairMachine") (i := 85) (tx := "the text is no program, or a variable is not known") (hts _ (tin_tables_1_4 _ (List.mem_of_getElem? (i := 155) (by decide +kernel))))
      exact ⟨a9, h9, fun h => absurd rfl h⟩
    · obtain ⟨a9, h9⟩ := law_sk (own := "PairMachine") (i := 95) (tx := "the code has more cells than the store") (hts _ (tin_tables_1_4 _ (List.mem_of_getElem? (i := 170) (by decide +kernel))))
      exact ⟨a9, h9, fun h => absurd rfl h⟩
    · obtain ⟨a9, h9⟩ := law_sk (own := "PairMachine") (i := 106) (tx := "the number of steps is not 0 .. 200") (hts _ (tin_tables_1_4 _ (List.mem_of_getElem? (i := 203) (by decide +kernel))))
      exact ⟨a9, h9, fun h => absurd rfl h⟩
    · obtain ⟨a9, h9⟩ := law_sk (own := "PairMachine$Reader") (i := 125) (tx := "no program goes on like this") (hts _ (tin_tables_1_3 _ (List.mem_of_getElem? (i := 66) (by decide +kernel))))
      exact ⟨a9, h9, fun h => absurd rfl h⟩
    · exact ⟨k2010, r2010, fun _ => rfl⟩
    · exact ⟨k2011, r2011, fun _ => rfl⟩
    · exact ⟨k2012, r2012, fun _ => rfl⟩
  · simp only [gnc, List.mem_cons, List.not_mem_nil, or_false] at hq
    rcases hq with rfl | rfl | rfl | rfl | rfl
    · exact va_Zof (hts _ (tin_tables_1_1 _ (List.mem_of_getElem? (i := 205) (by decide +kernel)))) (hts _ (tin_tables_1_1 _ (List.mem_of_getElem? (i := 13) (by decide +kernel)))) (va_eqi (hs _ (by decide +kernel))) hA
    · exact va_Zof (hts _ (tin_tables_1_4 _ (List.mem_of_getElem? (i := 213) (by decide +kernel)))) (hts _ (tin_tables_1_1 _ (List.mem_of_getElem? (i := 20) (by decide +kernel)))) nde hA
    · exact va_Zof (hts _ (tin_tables_1_5 _ (List.mem_of_getElem? (i := 222) (by decide +kernel)))) (hts _ (tin_tables_1_1 _ (List.mem_of_getElem? (i := 29) (by decide +kernel)))) d1e hA
    · exact va_Zof (hts _ (tin_tables_1_5 _ (List.mem_of_getElem? (i := 224) (by decide +kernel)))) (hts _ (tin_tables_1_1 _ (List.mem_of_getElem? (i := 29) (by decide +kernel)))) d2e hA
    · exact hw9
theorem law_xw_ok {s : State} {args : Array Value} (hts : ∀ w ∈ lw_tbl, w.before args s = true) : ∀ w ∈ law_xw, w.before args s = true := by
  intro w hw
  have h0 := hts (.instantiable "java/lang/StringBuilder" 4) (tin_tables_1_1 _ (List.mem_of_getElem? (i := 196) (by decide +kernel)))
  have h1 := hts (.selects "java/lang/StringBuilder" ⟨"java/lang/AbstractStringBuilder", "isLatin1", "()Z"⟩ ⟨"java/lang/AbstractStringBuilder", "isLatin1", "()Z"⟩) (tin_tables_1_5 _ (List.mem_of_getElem? (i := 141) (by decide +kernel)))
  simp only [law_xw, List.mem_cons, List.not_mem_nil, or_false] at hw
  rcases hw with rfl | rfl | rfl | rfl
  · exact law_selp rfl h0 (hts _ (tin_tables_1_5 _ (List.mem_of_getElem? (i := 108) (by decide +kernel)))) (hts _ (tin_tables_1_5 _ (List.mem_of_getElem? (i := 109) (by decide +kernel)))) h1
  · exact law_selp rfl h0 (hts _ (tin_tables_1_5 _ (List.mem_of_getElem? (i := 112) (by decide +kernel)))) (hts _ (tin_tables_1_5 _ (List.mem_of_getElem? (i := 113) (by decide +kernel)))) h1
  · exact law_selp rfl h0 (hts _ (tin_tables_1_5 _ (List.mem_of_getElem? (i := 175) (by decide +kernel)))) (hts _ (tin_tables_1_5 _ (List.mem_of_getElem? (i := 176) (by decide +kernel)))) h1
  · exact law_selp rfl h0 (hts _ (tin_tables_1_5 _ (List.mem_of_getElem? (i := 179) (by decide +kernel)))) (hts _ (tin_tables_1_5 _ (List.mem_of_getElem? (i := 180) (by decide +kernel)))) h1
theorem law_of (hlaw : ∀ xs : List Int32, xs.length ≤ 1537 → mj_Mt gT (law_cst xs) gnw 1200 0 [.ref 1001] ([], 601024, 7293000, true) (fun r => r.1 = .inl (some (.int 1)))) (L : Cond) (hL : ∀ (args : Array Value) (s t : State), L.after args s (.returned (some (.int 1))) t = true) :
    ArmFor flags0 classFile x code maxLocals ret World_1 tables_1 room_1 Calls_1 rest_1 Pre_1
      (fun tb e a s o t => postC L tb e a s o t ∧ Framed s o t (fieldLocs frame_1_writes a s ++ arrayLocs frame_1_arrays a s ++ staticLocs frame_1_statics s) 601024 7293000) := by
  intro l hfl _ _ p e ha hc hk s m args below hf hfit hheap happ hpre
  obtain ⟨b, xs, rfl, hx, hbd, hgv⟩ := lw_pre_spec hpre.2.2 hpre.2.1
  have htr : ∀ e, l.admits e → e.platform.stackTraces = false := fun e h => by
    have h1 : e.platform.stackTraces = l.stackTraces := by rw [h.platform]
    rw [h1]
    unfold Launch.stackTraces
    rw [hfl]
    decide +kernel
  obtain ⟨g1, g2, g3, g4, g5, g6, g7, g8⟩ := (Spec.appliesLoose_iff hf).mp ((Spec.applies_iff_loose hf).mp happ).1
  have hts0 : ∀ c ∈ (Jvm.Cond.code x code maxLocals ret :: tables_1), c.before #[Value.ref b] s = true := atoms_spec (ws := Jvm.Cond.code x code maxLocals ret :: tables_1) g8
  have hts : ∀ w ∈ lw_tbl, w.before #[Value.ref b] s = true := k2_hts_sels lw_privs (fun w hw => hts0 w (List.mem_cons_of_mem _ hw)) lw_privs_ok
  have hts2 : ∀ w ∈ gTS, w.before #[Value.ref b] s = true := fun w hw => by
    rcases List.mem_append.mp (List.mem_filter.mp hw).1 with h9 | h9
    · exact law_xw_ok hts w h9
    · exact hts w h9
  have hX : va_T .int b xs.length (fun j => .int (xs.getD j 0)) (mj_A (law_z s)) s s.heap := by
    obtain ⟨scr, harrAt, hlist, hof, hsmall⟩ := hx
    obtain ⟨hcb, hkn, -, -⟩ := State.arrayAt?_spec harrAt
    have hsz : scr.slots.size = xs.length := by rw [← Array.length_toList, hlist, List.length_map]
    refine ⟨scr, hcb, hof, hkn, by rw [hsz]; exact Nat.le_refl _, by rw [hsz], fun j hj => ?_, Nat.not_le.mpr (Array.getElem?_eq_some_iff.mp hcb).1⟩
    rw [← Array.getElem?_toList, hlist]
    simp [hj]
  obtain ⟨D, tys, hty, hK⟩ := law_K hts2
  obtain ⟨nd, hfb, hSt⟩ := law_St hts hgv hX
  have hM := mj_sound (l := l) (G := gG) (T := gT) (D := D) (bi := 9) (cst := law_cst xs) okT law_good hty (law_c9 xs) htr 1200 (law_ad s.heap.size nd) (law_z s) 0 [.ref 1001] ([], 601024, 7293000, true) _ (hlaw xs hbd)
  have hroom : s.hasRoom e.platform (mj_rm 1200 ([], 601024, 7293000, true)) = true := by
    have h1 : s.hasRoom e.platform room_1 = true := g7
    have e1 : room_1.frames = 2048 := rfl
    have e2 : room_1.locals = 84000 := rfl
    have e3 : room_1.cells = 601024 := rfl
    have e4 : room_1.slots = 7293000 := rfl
    obtain ⟨rm, hrm⟩ : ∃ rm, rm = mj_rm 1200 ([], 601024, 7293000, true) := ⟨_, rfl⟩
    have f1 : rm.frames = 1210 := by rw [hrm]; rfl
    have f2 : rm.locals = 77100 := by rw [hrm]; rfl
    have f3 : rm.cells = 601024 := by rw [hrm]; rfl
    have f4 : rm.slots = 7293000 := by rw [hrm]; rfl
    rw [← hrm]
    simp only [State.hasRoom, Bool.and_eq_true, decide_eq_true_eq] at h1 ⊢
    rw [e1, e2, e3, e4] at h1
    rw [f1, f2, f3, f4]
    obtain ⟨⟨⟨⟨r1, r2, r3, r4, r5, r6⟩, r7⟩, r8⟩, r9⟩ := h1
    exact ⟨⟨⟨⟨by omega, by omega, by omega, by omega, by omega, r6⟩, r7⟩, r8⟩, r9⟩
  have happ2 : (headSpec (mj_cw gG 0 :: gTS) (mj_rm 1200 ([], 601024, 7293000, true))).appliesLoose x e.platform s = true :=
    (Spec.appliesLoose_iff hf).mpr ⟨g1, g2, g3, g4, g5, g6, hroom, atoms_intro fun w hw => by
      rcases List.mem_cons.mp hw with rfl | hw
      · exact hts0 _ List.mem_cons_self
      · exact hts2 w hw⟩
  obtain ⟨n9, o, h1, h2, h3, r, hr, hout, -, -, LL, k9, n8, hfe, hLL, hk9, hn9⟩ := hM p e ha hc hk s m #[Value.ref b] below hf happ2 ⟨by show #[Value.ref b] = #[Value.ref (law_ad s.heap.size nd 1001)]; rw [law_ade (by decide), hfb], ⟨⟨(fun _ => 0, fun _ => 0, fun _ _ => 0, fun _ => 0), fun k q h => by simp [mj_ws] at h, ⟨fun i j p q h => by simp [mj_ws] at h, fun k q h => by simp [mj_ws] at h⟩, fun i n f h => by cases i <;> cases h⟩, fun _ => ⟨rfl, fun i _ hi => by unfold law_ad; rw [if_pos (by omega), if_pos (by omega)]; omega⟩, fun q cell h1 h2 => absurd (Array.getElem?_eq_some_iff.mp h2).1 (Nat.not_lt.mpr h1), fun q hq => hq⟩, hK, hSt⟩ trivial
  have ho : o = .returned (some (.int 1)) := by
    obtain ⟨r1, r2⟩ := r
    have hr : r1 = .inl (some (.int 1)) := hr
    subst hr
    exact hout
  subst ho
  refine ⟨n9, _, h1, h2, h3, hL _ s _, ⟨_, rfl⟩, hfe.1, ?_⟩
  have hk9' : k9 ≤ 601024 := Nat.le_trans (Nat.le_add_right _ _) hk9
  have hn9' : n8 ≤ 7293000 := Nat.le_trans (Nat.le_add_right _ _) hn9
  exact hfe.2.weaken (fun y hy hlt => absurd hlt (Nat.not_lt.mpr (hLL y hy))) hk9' hn9'
theorem i_vc_of (hlaw : ∀ xs : List Int32, xs.length ≤ 1537 → mj_Mt gT (law_cst xs) gnw 1200 0 [.ref 1001] ([], 601024, 7293000, true) (fun r => r.1 = .inl (some (.int 1)))) : Claimed_1_1 ∧ Claimed_1_2 := ⟨law_of hlaw limb_1_1 (fun args s t => by simp [limb_1_1, Cond.after, Cond.holds, Cond.value]), law_of hlaw limb_1_2 (fun args s t => Cond.after_iff.mpr (by
  first | (rw [show limb_1_2 = Cond.eq .result (.int 1) from rfl, Cond.eq_ints (x := 1) (y := 1) rfl rfl]; simp; done) | (simp [limb_1_2, Cond.value, Term.eval]; done)))⟩
