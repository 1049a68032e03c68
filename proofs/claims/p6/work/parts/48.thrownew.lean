section MJV
variable {p : Program} {l : Launch} {e : Env} {R : Room} {s : State} {m : MethodId} {args : Array Value} {below : List Frame} {meth : Method} {c : Code}
variable {D : va_G} {cl : List vw_C} {tys : List (ClassId × FieldType)} {ad : Nat → Nat} {bi : Nat} {z : Nat → Prop} {nL : Nat} {off : Nat → Nat} {QQ : State → Prop} {b0 b1 : Nat} {cc : ByteArray} {pc : Nat} {ls : mj_L} {r : List Value} {h : mj_H}
variable {cst : Nat → Option (Nat × (Nat → Int32))} {ncs : mj_K} {xn : Nat → String}
def mj_gw (w : Cond) : Bool := goodWord w || (match w with
  | .declares _ => true
  | _ => false)
theorem mj_wat {s U : State} {args a' : Array Value} (hW : s.WarmedH U.vm) {w : Cond} (hg : mj_gw w = true) (h : w.before args s = true) : w.before a' U = true := by
  unfold mj_gw at hg
  rw [Bool.or_eq_true] at hg
  rcases hg with hg | hg
  · exact word_at hW (good_of_word hg) h
  · split at hg
    · next x =>
      have h1 : (Cond.declares x).before args (s.setVm U.vm) = true := by rw [Cond.declares_setVm hW.alike]; exact h
      have e := Cond.onTables_vm (A := args) (A' := a') (U := s) (U' := U) U.vm (.declares x) rfl
      rw [e] at h1
      exact h1
    · cases hg
def mj_wok (TS : List Cond) (ncs : mj_K) (a : Cond) : Bool := (decide (a ∈ TS) && mj_gw a) || (match a with
  | .castable x y => decide ((x, y) ∈ ncs.2.1)
  | .laysStatic x y d => decide ((x, y, d) ∈ ncs.2.2.1)
  | .isRef (.static x y d) => decide ((x, y, d) ∈ ncs.2.2.1)
  | _ => false)
theorem mj_wok_ok {TS : List Cond} {a : Cond} {U : State} (ha : mj_wok TS ncs a = true) (hts : ∀ w ∈ TS, w.before args s = true) (hW : s.WarmedH U.vm) (hSt : mj_St cst ad z ncs U) (A : Array Value) : a.before A U = true := by
  unfold mj_wok at ha
  rw [Bool.or_eq_true] at ha
  rcases ha with ha | ha
  · rw [Bool.and_eq_true, decide_eq_true_eq] at ha
    exact mj_wat hW ha.2 (hts _ ha.1)
  · split at ha
    · obtain ⟨c1, c2, g1, g2, g3⟩ := hSt.2.2.2.1 _ (of_decide_eq_true ha)
      simp [Cond.before, Cond.holds, Cond.value, g1, g2, g3]
    · exact (hSt.2.2.2.2.1 _ (of_decide_eq_true ha)).lays A
    · exact (hSt.2.2.2.2.1 _ (of_decide_eq_true ha)).isRef A
    · cases ha
theorem mj_same_cells {s U : State} {k n : Nat} (h : s.sameButNew U [] k n) {q : Nat} (hq : q < s.heap.size) : U.heap[q]? = s.heap[q]? := by
  obtain ⟨-, -, -, -, -, h6⟩ := h
  obtain ⟨cell, hc⟩ : ∃ cell, s.heap[q]? = some cell := ⟨s.heap[q], by simp [hq]⟩
  obtain ⟨c', h1, h2, h3, h4⟩ := h6 q cell hc
  rw [h1, hc]
  have e : c'.slots = cell.slots := by
    apply Array.ext
    · exact h3
    · intro i hi hj
      have := h4 i (by simp)
      rw [Array.getElem?_eq_getElem hi, Array.getElem?_eq_getElem hj] at this
      exact Option.some.inj this
  rw [h2, e]
theorem mj_so_throw (hx : p.tables.exec = Jvm.exec) (hb : c.code = cc) (hml : c.maxLocals = nL) {own : String} (hown : s.vm.findClass own = some m.cls) (hlocks : meth.locks = false) (htr : l.admits e → e.platform.stackTraces = false) {TS : List Cond} (hts : ∀ w ∈ TS, w.before args s = true) (hSt : mj_St cst ad z ncs s) (hR : R.cells = b0 ∧ R.slots = b1) (hRf : 10 ≤ R.frames) (hRl : 200 ≤ R.locals)
    {q ia ib ic k0 k1 : Nat} {os : List mj_O} {op : Bool} {tx : String} {names : List String} {Q : mj_R → Prop} (hQQ : QQ = mj_Z below s (mj_Qc D cl tys ad bi z xn b0 b1 Q s))
    (hcls : Bundle.fit (xn q) = true) (hnames : ∀ n ∈ names, Bundle.fit n = true) (hlen : names.length ≤ 3) (hw1 : mj_wok TS ncs (.classLink own ia (xn q)) = true) (hw2 : mj_wok TS ncs (.instantiable (xn q) 6) = true) (hw3 : mj_wok TS ncs (.initialized (xn q)) = true) (hwa : ∀ a ∈ Bundle.ownAtoms own ic (xn q) names, mj_wok TS ncs a = true) (hsk : (own, ib, tx, 0) ∈ ncs.2.2.2.1)
    (hwt : mj_wt r ≤ 8) (hk1 : 6 ≤ k1)
    (hd0 : decode cc (off pc) = .ok (.new ia, 3)) (hd3 : decode cc (off pc + 3) = .ok (.dup, 1)) (hd4 : decode cc (off pc + 3 + 1) = .ok (.ldc ib, 2)) (hd6 : decode cc (off pc + 3 + 1 + 2) = .ok (.invokespecial ic, 3)) (hd9 : decode cc (off pc + 3 + 1 + 2 + 3) = .ok (.athrow, 1)) (hout : ∀ x ∈ c.exceptionTable.toList, covers x (off pc + 3 + 1 + 2 + 3) = false)
    (hq : Q (.inr q, (os, k0, k1 - 6, false))) : mj_J p l e R s m args below meth c D cl tys ad bi z nL off QQ b0 b1 pc ls r (os, k0 + 1, k1, op) := by
  intro H locs k n L hl hr hS h1 h2 T hT X
  have h1' : k + (k0 + 1) ≤ b0 := h1
  have h2' : n + k1 ≤ b1 := h2
  have hzs : ∀ q : Nat, s.heap.size ≤ q → z q := hSt.2.1
  obtain ⟨R', hR'⟩ : ∃ R' : Room, R' = { frames := R.frames, cells := 1, slots := 6, locals := R.locals } := ⟨_, rfl⟩
  have X' := mj_rebase X (R' := R') (by rw [hR']; exact Nat.le_refl _) (by rw [hR']; exact Nat.le_refl _) (by rw [hR', hR.1]; show k + 1 ≤ b0; omega) (by rw [hR', hR.2]; show n + 6 ≤ b1; omega)
  have hsT : (T.setFrames (.invoking m args :: below)).heap = H := hT
  have hWs : s.WarmedH (T.setFrames (.invoking m args :: below)).vm := X.warmed
  have hSt1 : mj_St cst ad z ncs (T.setFrames (.invoking m args :: below)) := by
    refine hSt.go hWs (fun q hq => ?_) ?_
    · rw [hsT]
      exact hS.2.1 q (Nat.lt_of_not_le (fun g => hq (hzs q g))) hq
    · rw [hsT]
      exact hS.1
  have hown' : (T.setFrames (.invoking m args :: below)).vm.findClass own = some m.cls := by
    rw [hWs.alike.findClass]
    exact hown
  have hTs : T.sameButNew T [] 0 0 := by
    have := X'.same
    obtain ⟨g₀, hfr⟩ := X.frames_eq
    obtain ⟨t, ht, -⟩ := State.frames_cons hfr
    exact ⟨by show T = { T.setFrames T.frames with heap := T.heap, slotsUsed := T.slotsUsed }; rw [State.setFrames_self ht], this.2⟩
  generalize hs' : T.setFrames (.invoking m args :: below) = s' at *
  have hs'f : ∀ F, s'.setFrames F = T.setFrames F := fun F => by rw [← hs', State.setFrames_setFrames]
  have hs'v : s'.vm = T.vm := by rw [← hs']; rfl
  have hs'u : s'.slotsUsed = T.slotsUsed := by rw [← hs']; rfl
  have key : W p l e R' s' m args below meth c H [] 0 0 QQ (F0 m (off pc) L (r.map (mj_tr ad))) := by
    obtain ⟨cX, kX, hfX, hkX, -⟩ := Cond.instantiable_spec (mj_wok_ok hw2 hts hWs hSt1 args)
    refine W.newcK hx hb hown' (mj_wok_ok hw1 hts hWs hSt1 _) (mj_wok_ok hw2 hts hWs hSt1 _) (mj_wok_ok hw3 hts hWs hSt1 _) rfl hd0 (by rw [hR']; exact Nat.le_refl 1) (by rw [hR']; exact Nat.le_refl 6) hfX rfl fun H1 kC hkC e1 z1 o1 => ?_
    refine lv_dup hx hb hd3 rfl ?_
    obtain ⟨am, ham, -⟩ := hSt1.2.2.2.2.2.1 _ hsk
    refine va_ldcS hx hb hown' ham hd4 ?_
    intro T1 hT1 X1
    have hw9 : mj_wt (r.map (mj_tr ad)) ≤ 8 := by rw [mj_wt_tr]; exact hwt
    unfold mj_wt at hw9
    obtain ⟨U, u1, u2, u3, u4, u5, ce, u6, u7⟩ := X1.ctorThrowS hx (htr X.admits) hown' hcls hnames (fun a ha => mj_wok_ok (hwa a ha) hts hWs hSt1 args) (fun x hx => by cases hx) hfX hkC (a := H.size) (msg := .ref am) (by rw [hT1]; exact e1) (by rw [hsT]; exact Nat.le_refl _) rfl (g := F0 m (off pc + 3 + 1 + 2) L (.ref am :: .ref H.size :: .ref H.size :: r.map (mj_tr ad))) (rest := r.map (mj_tr ad)) rfl (by show L.size = c.maxLocals; rw [hml]; exact hl.1) rfl rfl rfl (by rw [hb]; exact hd6) (by rw [hb]; exact hd9) hout (by rw [hR']; show names.length + 3 < R.frames; omega) (by
      rw [hR']
      show 2 * 0 + ((Value.ref H.size :: r.map (mj_tr ad)).map fun v => v.category).sum + (13 * (names.length + 1) + 42) ≤ R.locals
      rw [List.map_cons, List.sum_cons]
      have : (Value.ref H.size).category = 1 := rfl
      omega) hlocks
    refine ⟨U, u1, ?_⟩
    rw [hQQ]
    have c1 : ∀ q : Nat, q < H.size → U.heap[q]? = H[q]? := fun q hq => by
      have := mj_same_cells u5 (q := q) (by rw [hsT]; exact hq)
      rw [hsT] at this
      exact this
    have c2 : U.heap.size ≤ H.size + 1 := by
      have := u5.2.2.1
      rw [hsT] at this
      exact this
    have c3 : H.size < U.heap.size := (Array.getElem?_eq_some_iff.mp u6).1
    have u5' : T.sameButNew ({ U with vm := T.vm } : State) [] 1 6 := by
      obtain ⟨a1, a2, a3, a4, a5, a6⟩ := u5
      rw [hsT, ← hT] at a2 a3 a4 a5 a6
      rw [hs'u] at a4
      refine ⟨?_, a2, a3, a4, a5, a6⟩
      rw [hs'f, hs'v] at a1
      exact a1
    refine ⟨.threw H.size, u2, u3, (.inr q, (os, k0, k1 - 6, false)), hq, ⟨H.size, rfl, ce, u6, fun k hk => ?_, ?_, ?_⟩, ?_, ⟨?_, fun q g1 g2 => ?_⟩, locs, k + 1, n + 6, ⟨?_, ?_⟩, fun q hq => hS.2.2 q hq, by show k + 1 + k0 ≤ b0; omega, by show n + 6 + (k1 - 6) ≤ b1; omega⟩
    · rw [u7.vm] at hk; cases hk
    · rw [u4.alike.findClass]; exact u7.cls
    · have e9 : ce.cls = cX := Option.some.inj (u7.cls.symm.trans hfX)
      obtain ⟨k9, hk9, -⟩ := u4.alike.2.2 _ _ hkC
      exact ⟨k9, by rw [e9]; exact hk9⟩
    · obtain ⟨⟨b, hP, hD, hB⟩, -, hvs⟩ := hr
      refine ⟨⟨b, hP.kept fun k x hx => c1 x.1 (hP k x hx).lt, hD, hB⟩, (fun h => by cases h), fun q cell g1 g2 => ?_, fun q hq9 => hvs.2 q (by omega)⟩
      rcases Nat.lt_or_ge q H.size with g | g
      · rw [c1 q g] at g2
        exact hvs.1 q cell g1 g2
      · have g3 : q < U.heap.size := (Array.getElem?_eq_some_iff.mp g2).1
        have g4 : q = H.size := by omega
        subst g4
        have : cell = ce := Option.some.inj (g2.symm.trans u6)
        rw [this, u7.vm]
        rfl
    · exact Nat.le_trans hS.1 (by omega)
    · rw [c1 q (Nat.lt_of_lt_of_le g1 hS.1)]
      exact hS.2.1 q g1 g2
    · exact State.WarmedH.trans hWs u4
    · have := X.same.trans (u5'.setVm s.vm)
      rw [List.append_nil] at this
      exact this
  exact key T hT X'
end MJV
