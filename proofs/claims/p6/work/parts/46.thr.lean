def mj_xo (xn : Nat → String) (q : Nat) (x : Addr) (t : State) : Prop := ∃ cell : Cell, t.heap[x]? = some cell ∧ (∀ k, cell.vm ≠ .statics k) ∧ t.vm.findClass (xn q) = some cell.cls ∧ ∃ k, t.vm.classes[cell.cls]? = some k
theorem mj_xo.moved {xn : Nat → String} {q : Nat} {x : Addr} {t u : State} (h : mj_xo xn q x t) (hh : u.heap = t.heap) (hv : u.vm = t.vm) : mj_xo xn q x u := by
  obtain ⟨cell, h1, h2, h3, h4⟩ := h
  exact ⟨cell, by rw [hh]; exact h1, h2, by rw [hv]; exact h3, by rw [hv]; exact h4⟩
def mj_out (ad : Nat → Nat) (xn : Nat → String) (r : Option Value ⊕ Nat) (o : Outcome) (t : State) : Prop := match r with
  | .inl v => o = .returned (v.map (mj_tr ad))
  | .inr q => ∃ x : Addr, o = .threw x ∧ mj_xo xn q x t
def mj_sr (C n d : String) (z : Nat → Prop) (U : State) : Prop := ∃ (cf : ClassId) (kf : Class) (fi : Nat) (f : Field) (a : Nat) (cell : Cell) (v : Value), U.vm.findClass C = some cf ∧ U.fieldFound? C n d = some (cf, kf, fi, f) ∧ f.isStatic = true ∧ kf.statics = some a ∧ U.heap[a]? = some cell ∧ cell.vm.isStatics = true ∧ cell.cls = cf ∧ f.slot < cell.slots.size ∧ kf.staticTypes[f.slot]? = some f.type ∧ cell.slots[f.slot]? = some v ∧ v.isRef = true ∧ ¬ z a
theorem mj_sr.go {C n d : String} {z : Nat → Prop} {s U : State} (h : mj_sr C n d z s) (hv : s.vm.Alike U.vm) (hq : ∀ q, ¬ z q → U.heap[q]? = s.heap[q]?) : mj_sr C n d z U := by
  obtain ⟨cf, kf, fi, f, a, cell, v, h1, h2, h3, h4, h5, h6, h7, h8, h9, h10, h11, h12⟩ := h
  obtain ⟨k', hi', he⟩ := State.fieldFound?_setVm hv h2
  exact ⟨cf, k', fi, f, a, cell, v, by rw [hv.findClass]; exact h1, hi', h3, by rw [he]; exact h4, by rw [hq a h12]; exact h5, h6, h7, h8, by rw [he]; exact h9, h10, h11, h12⟩
theorem mj_sr.lays {C n d : String} {z : Nat → Prop} {U : State} (h : mj_sr C n d z U) (A : Array Value) : (Cond.laysStatic C n d).before A U = true := by
  obtain ⟨cf, kf, fi, f, a, cell, v, h1, h2, h3, h4, h5, h6, h7, h8, h9, h10, h11, h12⟩ := h
  simp [Cond.before, Cond.holds, Cond.value, h1, h2, h3, h4, h5, h6, h7, h8, h9]
theorem mj_sr.isRef {C n d : String} {z : Nat → Prop} {U : State} (h : mj_sr C n d z U) (A : Array Value) : (Cond.isRef (.static C n d)).before A U = true := by
  obtain ⟨cf, kf, fi, f, a, cell, v, h1, h2, h3, h4, h5, h6, h7, h8, h9, h10, h11, h12⟩ := h
  have he : (Term.static C n d).eval A U none [] U = some v := by
    simp [Term.eval, State.fieldNamed?, h2, h3, h4, h5, h6, h10]
  cases v <;> simp [Cond.before, Cond.holds, Cond.value, he] <;> simp [Value.isRef] at h11
abbrev mj_K : Type := List (String × String) × List (String × String) × List (String × String × String) × List (String × Nat × String × Nat) × List (String × String × String × Value)
def mj_cs (ad : Nat → Nat) (A : Nat → Prop) (U : State) (a n : Nat) (g : Nat → Int32) : Prop := (a < 1100 → va_T .int (ad a) n (fun j => .int (g j)) A U U.heap) ∧ (1100 ≤ a → a < 2000 → va_T .byte (ad a) n (fun j => .int (g j)) A U U.heap) ∧ (2000 ≤ a → va_O "java/lang/String" (ad a) A U U.heap ∧ va_OF "java/lang/String" "coder" "B" (.int 0) (ad a) A U U.heap ∧ va_OF "java/lang/String" "value" "[B" (.ref (ad (a - 900))) (ad a) A U U.heap)
theorem mj_cs.go {ad : Nat → Nat} {A : Nat → Prop} {s U : State} {a n : Nat} {g : Nat → Int32} (h : mj_cs ad A s a n g) (hv : s.vm.Alike U.vm) (hq : ∀ q, ¬ A q → U.heap[q]? = s.heap[q]?) : mj_cs ad A U a n g :=
  ⟨fun g1 => ((h.1 g1).moved hv).kept fun a _ ha => hq a ha, fun g1 g2 => ((h.2.1 g1 g2).moved hv).kept fun a _ ha => hq a ha, fun g1 => ⟨((h.2.2 g1).1.moved hv).kept fun a _ ha => hq a ha, ((h.2.2 g1).2.1.moved hv).kept fun a _ ha => hq a ha, ((h.2.2 g1).2.2.moved hv).kept fun a _ ha => hq a ha⟩⟩
theorem mj_cs.row {ad : Nat → Nat} {A : Nat → Prop} {s : State} {a n : Nat} {g : Nat → Int32} (h : mj_cs ad A s a n g) (ha : a < 2000) : ∃ ty, va_T ty (ad a) n (fun j => .int (g j)) A s s.heap := by
  by_cases e : a < 1100
  · exact ⟨_, h.1 e⟩
  · exact ⟨_, h.2.1 (by omega) ha⟩
def mj_St (cst : Nat → Option (Nat × (Nat → Int32))) (ad : Nat → Nat) (z : Nat → Prop) (ncs : mj_K) (U : State) : Prop := (∀ a n g, cst a = some (n, g) → mj_cs ad (mj_A z) U a n g) ∧ (∀ q : Nat, U.heap.size ≤ q → z q) ∧ (∀ q ∈ ncs.1, ∀ c1 c2, U.vm.findClass q.1 = some c1 → U.vm.findClass q.2 = some c2 → U.vm.assignable c1 c2 = false) ∧ (∀ q ∈ ncs.2.1, ∃ c1 c2, U.vm.findClass q.1 = some c1 ∧ U.vm.findClass q.2 = some c2 ∧ U.vm.assignable c1 c2 = true) ∧ (∀ q ∈ ncs.2.2.1, mj_sr q.1 q.2.1 q.2.2 z U) ∧ (∀ q ∈ ncs.2.2.2.1, ∃ a, vk_R q.1 q.2.1 q.2.2.1 a U ∧ (q.2.2.2 ≠ 0 → a = ad q.2.2.2)) ∧ ∀ q ∈ ncs.2.2.2.2, va_Z q.1 q.2.1 q.2.2.1 (mj_tr ad q.2.2.2) (mj_A z) U U.heap
theorem mj_St.go {cst : Nat → Option (Nat × (Nat → Int32))} {ad : Nat → Nat} {z : Nat → Prop} {ncs : mj_K} {s U : State} (h : mj_St cst ad z ncs s) (hW : s.WarmedH U.vm) (hq : ∀ q, ¬ z q → U.heap[q]? = s.heap[q]?) (hz : s.heap.size ≤ U.heap.size) : mj_St cst ad z ncs U := by
  obtain ⟨h1, h2, h3, h4, h5, h6, h7⟩ := h
  have hv := hW.alike
  refine ⟨fun a n g ha => ?_, fun q hq9 => h2 q (Nat.le_trans hz hq9), fun q hq c1 c2 g1 g2 => ?_, fun q hq => ?_, fun q hm => (h5 q hm).go hv hq, fun q hm => ?_, fun q hm => ?_⟩
  · exact (h1 a n g ha).go hv hq
  · rw [hv.findClass] at g1 g2
    rw [hv.assignable]
    exact h3 q hq c1 c2 g1 g2
  · obtain ⟨c1, c2, g1, g2, g3⟩ := h4 q hq
    exact ⟨c1, c2, by rw [hv.findClass]; exact g1, by rw [hv.findClass]; exact g2, by rw [hv.assignable]; exact g3⟩
  · obtain ⟨a, ha, hb⟩ := h6 q hm
    exact ⟨a, ha.warm hW, hb⟩
  · exact (va_Z.moved hv (h7 q hm)).kept fun a _ ha => hq a ha
def mj_Pc (D : va_G) (cl : List vw_C) (tys : List (ClassId × FieldType)) (ad : Nat → Nat) (bi : Nat) (z : Nat → Prop) (cst : Nat → Option (Nat × (Nat → Int32))) (ncs : mj_K) (as : List Value) (h : mj_H) : Array Value → State → Prop := fun v U => v = (as.map (mj_tr ad)).toArray ∧ mj_rep D cl tys ad bi z h U.heap ∧ va_K D cl tys U ∧ mj_St cst ad z ncs U
def mj_Qc (D : va_G) (cl : List vw_C) (tys : List (ClassId × FieldType)) (ad : Nat → Nat) (bi : Nat) (z : Nat → Prop) (xn : Nat → String) (b0 b1 : Nat) (Q : mj_R → Prop) : State → Outcome → State → Prop := fun st o t => ∃ r : mj_R, Q r ∧ mj_out ad xn r.1 o t ∧ mj_rep D cl tys ad bi z r.2 t.heap ∧ va_F (mj_A z) st t ∧ ∃ (L : List Loc) (k n : Nat), mj_fe st t L k n ∧ (∀ q ∈ L, z q.base) ∧ k + r.2.2.1 ≤ b0 ∧ n + r.2.2.2.1 ≤ b1
section MJX
variable {p : Program} {l : Launch} {e : Env} {R : Room} {s : State} {m : MethodId} {args : Array Value} {below : List Frame} {meth : Method} {c : Code}
variable {D : va_G} {cl : List vw_C} {tys : List (ClassId × FieldType)} {ad : Nat → Nat} {bi : Nat} {z : Nat → Prop} {nL : Nat} {off : Nat → Nat} {QQ : State → Prop} {b0 b1 : Nat} {cc : ByteArray} {pc : Nat} {ls : mj_L} {r : List Value} {h : mj_H}
variable {cst : Nat → Option (Nat × (Nat → Int32))} {ncs : mj_K} {xn : Nat → String}
def mj_JT (p : Program) (l : Launch) (e : Env) (R : Room) (s : State) (m : MethodId) (args : Array Value) (below : List Frame) (meth : Method) (c : Code) (D : va_G) (cl : List vw_C) (tys : List (ClassId × FieldType)) (ad : Nat → Nat) (bi : Nat) (z : Nat → Prop) (nL : Nat) (off : Nat → Nat) (QQ : State → Prop) (b0 b1 : Nat) (xn : Nat → String) (pc : Nat) (ls : mj_L) (q : Nat) (h : mj_H) : Prop :=
  ∀ (H : Heap) (locs : List Loc) (k n : Nat) (L : Array Slot) (st : List Value), lv_has L nL (mj_lv ad 0 ls) → mj_rep D cl tys ad bi z h H → va_S (mj_A z) s.heap H locs → k + h.2.1 ≤ b0 → n + h.2.2.1 ≤ b1 → ∀ (T : State) (x : Addr), T.heap = H → Stand p l e R s m args below meth c T locs k n → mj_xo xn q x T → ∃ t, Steps p.tables e below ((T.setTop (F0 m (off pc) L st)).pushFrame (.throwing x)) t ∧ QQ t
theorem mj_so_call (hx : p.tables.exec = Jvm.exec) (hb : c.code = cc) (hml : c.maxLocals = nL) (hK : va_K D cl tys s) (hSt : mj_St cst ad z ncs s) (hR : R.cells = b0 ∧ R.slots = b1)
    {y : MethodName} {ws : List Cond} {rm : Room} {bytes : ByteArray} {maxL : Nat} {ret : Option FieldType} {hh : List (Nat × Nat × Nat × Nat)} {ig : Instr} {as st : List Value} {Qp : mj_R → Prop}
    (hM : MetFree l y (headSpec ws rm) (mj_Pc D cl tys ad bi z cst ncs as h) (fun _ _ _ _ _ => True) (fun _ => mj_Qc D cl tys ad bi z xn h.2.1 h.2.2.1 Qp))
    (hrc : rm.cells = h.2.1) (hrs : rm.slots = h.2.2.1) (hfr : rm.frames + 1 ≤ R.frames) (hlo : 8 + (maxL + 11) + rm.locals ≤ R.locals) (hwt : mj_wt r ≤ 8)
    (hws : ∀ w ∈ ws, ∀ (a' : Array Value) (U : State), s.WarmedH U.vm → w.before a' U = true) (hcd : mj_cd y bytes maxL ret hh ∈ ws) (hini : ∀ (a' : Array Value) (U : State), s.WarmedH U.vm → (Cond.initialized y.cls).before a' U = true)
    (hd : decode cc (off pc) = .ok (ig, 3)) (ho : off (pc + 1) = off pc + 3)
    (hinv : ∀ (T : State) (H : Heap) (locs : List Loc) (k n : Nat) (L : Array Slot), T.heap = H → mj_rep D cl tys ad bi z h H → va_S (mj_A z) s.heap H locs → Stand p l e R s m args below meth c T locs k n → mj_Inv p l e R s m args below meth c T locs k n (F0 m (off pc) L (st.map (mj_tr ad))) (r.map (mj_tr ad)) y (as.map (mj_tr ad)).toArray)
    (kret : ∀ v h', Qp (.inl v, h') → mj_J p l e R s m args below meth c D cl tys ad bi z nL off QQ b0 b1 (pc + 1) ls (v.toList ++ r) h')
    (kthr : ∀ q h', Qp (.inr q, h') → mj_JT p l e R s m args below meth c D cl tys ad bi z nL off QQ b0 b1 xn pc ls q h') : mj_J p l e R s m args below meth c D cl tys ad bi z nL off QQ b0 b1 pc ls st h := by
  intro H locs k n L hl hr hS h1 h2 T hT X
  obtain ⟨vm₁, mk, hW₁, X₁, hnm, hstep⟩ := hinv T H locs k n L hT hr hS X
  have hzs : ∀ q : Nat, s.heap.size ≤ q → z q := hSt.2.1
  have hSt1 : mj_St cst ad z ncs (T.setVm vm₁) := by
    refine hSt.go (U := T.setVm vm₁) hW₁ (fun q hq => ?_) ?_
    · show T.heap[q]? = s.heap[q]?
      rw [hT]
      exact hS.2.1 q (Nat.lt_of_not_le (fun g => hq (hzs q g))) hq
    · show s.heap.size ≤ T.heap.size
      rw [hT]
      exact hS.1
  have hwt' : 2 * (F0 m (off pc) L (r.map (mj_tr ad))).monitorRoom + ((F0 m (off pc) L (r.map (mj_tr ad))).stack.map fun v => v.category).sum ≤ 8 := by
    have := mj_wt_tr ad r
    unfold mj_wt at this hwt
    show 2 * 0 + ((r.map (mj_tr ad)).map fun v => v.category).sum ≤ 8
    rw [this]
    omega
  obtain ⟨o, t, hq, hgo⟩ := mj_back (hh := hh) (bytes := bytes) (maxL := maxL) (ret := ret) (Wt := 8) (len := 3) (ig := ig) (U := T.setVm vm₁) (g := F0 m (off pc) L (r.map (mj_tr ad))) (a := (as.map (mj_tr ad)).toArray) (mk := mk) hM hfr hlo X₁ rfl (by show L.size = c.maxLocals; rw [hml]; exact hl.1) (by rw [hb]; exact hd) hwt' hnm (fun w hw => hws w hw _ _ hW₁) (mj_cd_or (hws _ hcd _ _ hW₁)) (hini _ _ hW₁) (by rw [hrc, hR.1]; exact h1) (by rw [hrs, hR.2]; exact h2)
    ⟨rfl, by show mj_rep D cl tys ad bi z h T.heap; rw [hT]; exact hr, va_K.moved hW₁.alike hK, hSt1⟩ (fun o t hq => by
      obtain ⟨r9, -, -, -, -, L9, k9, n9, hf, -⟩ := hq
      exact ⟨L9, k9, n9, hf⟩)
  obtain ⟨⟨rv, h'⟩, hQ, hout, hrep, hF, L9, k9, n9, hfe, hL9, hk9, hn9⟩ := hq
  obtain ⟨U', e1, e2, XU, hret, hthr⟩ := hgo L9 k9 n9 hfe
  have hF' : T.heap.size ≤ t.heap.size ∧ ∀ q : Nat, q < T.heap.size → ¬ mj_A z q → t.heap[q]? = T.heap[q]? := hF
  rw [hT] at hF'
  have hS' : va_S (mj_A z) s.heap t.heap (locs ++ L9) := by
    refine ⟨Nat.le_trans hS.1 hF'.1, fun q g1 g2 => ?_, fun q hq => ?_⟩
    · rw [hF'.2 q (Nat.lt_of_lt_of_le g1 hS.1) g2]
      exact hS.2.1 q g1 g2
    · rcases List.mem_append.mp hq with g | g
      · exact hS.2.2 q g
      · exact hL9 q g
  have c1 : k + k9 + h'.2.1 ≤ b0 := by
    have := h1
    have := hk9
    simp only at *
    omega
  have c2 : n + n9 + h'.2.2.1 ≤ b1 := by
    have := h2
    have := hn9
    simp only at *
    omega
  cases rv with
  | inl v =>
    have ho1 : o = .returned (v.map (mj_tr ad)) := hout
    obtain ⟨t2, a1, b1⟩ := kret v h' hQ t.heap (locs ++ L9) (k + k9) (n + n9) L hl hrep hS' c1 c2 U' e1 XU
    refine ⟨t2, hstep t2 (hret _ ho1 t2 ?_), b1⟩
    rw [ho] at a1
    have e9 : (v.map (mj_tr ad)).toList ++ r.map (mj_tr ad) = (v.toList ++ r).map (mj_tr ad) := by cases v <;> rfl
    show Steps p.tables e below (U'.setTop (F0 m (off pc + 3) L ((v.map (mj_tr ad)).toList ++ r.map (mj_tr ad)))) t2
    rw [e9]
    exact a1
  | inr q =>
    obtain ⟨x, ho1, hxo⟩ := hout
    obtain ⟨t2, a1, b1⟩ := kthr q h' hQ t.heap (locs ++ L9) (k + k9) (n + n9) L (r.map (mj_tr ad)) hl hrep hS' c1 c2 U' x e1 XU (hxo.moved e1 e2)
    exact ⟨t2, hstep t2 (hthr x ho1 t2 a1), b1⟩
theorem mj_so_out (hlocks : meth.locks = false) {Q : mj_R → Prop} {q : Nat} (hQQ : QQ = mj_Z below s (mj_Qc D cl tys ad bi z xn b0 b1 Q s)) (hout : ∀ x ∈ c.exceptionTable.toList, covers x (off pc) = false) (hq : Q (.inr q, h)) : mj_JT p l e R s m args below meth c D cl tys ad bi z nL off QQ b0 b1 xn pc ls q h := by
  intro H locs k n L st hl hr hS h1 h2 T x hT X hxo
  obtain ⟨hw, hrun, hend, hwm, hsm⟩ := X.leaveThrown x (g := F0 m (off pc) L st) rfl rfl rfl hout hlocks
  refine ⟨_, hw, ?_⟩
  rw [hQQ]
  refine ⟨.threw x, hrun, hend, (.inr q, h), hq, ⟨x, rfl, hxo.moved rfl rfl⟩, ?_, ?_, locs, k, n, ⟨hwm, hsm⟩, fun q hq => hS.2.2 q hq, h1, h2⟩
  · show mj_rep D cl tys ad bi z h T.heap
    rw [hT]; exact hr
  · show s.heap.size ≤ T.heap.size ∧ ∀ q : Nat, q < s.heap.size → ¬ mj_A z q → T.heap[q]? = s.heap[q]?
    rw [hT]
    exact ⟨hS.1, hS.2.1⟩
theorem mj_so_handler (hx : p.tables.exec = Jvm.exec) (hb : c.code = cc) {q t j : Nat} (pre : List ExceptionTableEntry) (x : ExceptionTableEntry) (rest : List ExceptionTableEntry) (hsplit : c.exceptionTable.toList = pre ++ x :: rest)
    (hpass : l.admits e → ∀ cX, s.vm.findClass (xn q) = some cX → ∀ y ∈ pre, mj_pass e.platform s m.cls (off pc) cX y) (hcov : covers x (off pc) = true) (h0 : x.catchType ≠ 0) {cT : ClassId} (hlk : l.admits e → s.vm.ClassLinks e.platform m.cls x.catchType cT) (hfit : ∀ cX, s.vm.findClass (xn q) = some cX → s.vm.assignable cX cT = true) (hpc : x.handlerPc = off t) (hj : j < nL)
    (hd : (∃ f : Fin 4, (f : Nat) = j ∧ decode cc (off t) = .ok (.astore_n f, 1) ∧ off (t + 1) = off t + 1) ∨ (decode cc (off t) = .ok (.astore j, 2) ∧ off (t + 1) = off t + 2))
    (kk : mj_J p l e R s m args below meth c D cl tys ad bi z nL off QQ b0 b1 (t + 1) (mj_stn (mj_kill ls j) j none) [] h) : mj_JT p l e R s m args below meth c D cl tys ad bi z nL off QQ b0 b1 xn pc ls q h := by
  intro H locs k n L st hl hr hS h1 h2 T a hT X hxo
  obtain ⟨cell, hc1, hc2, hc3, hc4⟩ := hxo
  have hal := X.warmed.alike
  have hc3' : s.vm.findClass (xn q) = some cell.cls := by rw [← hal.findClass]; exact hc3
  have hk0 : ∃ k, s.vm.classes[cell.cls]? = some k := by
    obtain ⟨kk9, hkk⟩ := hc4
    obtain ⟨k', hk', -⟩ := hal.symm.2.2 _ _ hkk
    exact ⟨k', hk'⟩
  obtain ⟨vm', hW', X', hgo⟩ := mj_caught X a (g := F0 m (off pc) L st) rfl hc1 hc2 hk0 pre x rest hsplit (hpass X.admits _ hc3') hcov h0 (hlk X.admits) (hfit _ hc3')
  have key : W p l e R s m args below meth c H locs k n QQ (F0 m (off t) L [.ref a]) := by
    rcases hd with ⟨f, hf, hd, ho⟩ | ⟨hd, ho⟩
    · refine lv_astore_n hx hb hd hf hl hj rfl fun L1 hl1 => ?_
      have K := kk H locs k n L1 (mj_lv_stx hl1) hr hS h1 h2
      rw [ho] at K
      exact K
    · refine lv_astore hx hb hd hl hj rfl fun L1 hl1 => ?_
      have K := kk H locs k n L1 (mj_lv_stx hl1) hr hS h1 h2
      rw [ho] at K
      exact K
  obtain ⟨t2, a1, b1⟩ := key (T.setVm vm') hT X'
  refine ⟨t2, hgo t2 ?_, b1⟩
  rw [hpc]
  exact a1
end MJX
