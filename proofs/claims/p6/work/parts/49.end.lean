section MJE
variable {p : Program} {l : Launch} {e : Env} {R : Room} {s : State} {m : MethodId} {args : Array Value} {below : List Frame} {meth : Method} {c : Code}
variable {D : va_G} {cl : List vw_C} {tys : List (ClassId × FieldType)} {ad : Nat → Nat} {bi : Nat} {z : Nat → Prop} {nL : Nat} {off : Nat → Nat} {QQ : State → Prop} {b0 b1 : Nat} {cc : ByteArray} {pc : Nat} {ls : mj_L} {r : List Value} {h : mj_H}
variable {cst : Nat → Option (Nat × (Nat → Int32))} {ncs : mj_K} {xn : Nat → String}
theorem mj_so_iret (hx : p.tables.exec = Jvm.exec) (hb : c.code = cc) (hlocks : meth.locks = false) {x : Int32} {ty : FieldType} (hn : narrow ty (.int x) = .int x) (hrt : meth.sig.returnType = some ty) {Q : mj_R → Prop} (hQQ : QQ = mj_Z below s (mj_Qc D cl tys ad bi z xn b0 b1 Q s)) (hd : decode cc (off pc) = .ok (.ireturn, 1)) (hq : Q (.inl (some (.int x)), h)) : mj_J p l e R s m args below meth c D cl tys ad bi z nL off QQ b0 b1 pc ls [.int x] h := by
  intro H locs k n L hl hr9 hS h1 h2
  rw [hQQ]
  exact mj_iret hx hb hrt hn hlocks (fun t ht hfe => ⟨(.inl (some (.int x)), h), hq, rfl, by rw [ht]; exact hr9, ⟨by rw [ht]; exact hS.1, fun q g1 g2 => by rw [ht]; exact hS.2.1 q g1 g2⟩, locs, k, n, hfe, hS.2.2, h1, h2⟩) hd
theorem mj_so_lret (hx : p.tables.exec = Jvm.exec) (hb : c.code = cc) (hlocks : meth.locks = false) {x : Int64} (hrt : meth.sig.returnType = some .long) {Q : mj_R → Prop} (hQQ : QQ = mj_Z below s (mj_Qc D cl tys ad bi z xn b0 b1 Q s)) (hd : decode cc (off pc) = .ok (.lreturn, 1)) (hq : Q (.inl (some (.long x)), h)) : mj_J p l e R s m args below meth c D cl tys ad bi z nL off QQ b0 b1 pc ls [.long x] h := by
  intro H locs k n L hl hr9 hS h1 h2
  rw [hQQ]
  exact mj_lret hx hb hrt hlocks (fun t ht hfe => ⟨(.inl (some (.long x)), h), hq, rfl, by rw [ht]; exact hr9, ⟨by rw [ht]; exact hS.1, fun q g1 g2 => by rw [ht]; exact hS.2.1 q g1 g2⟩, locs, k, n, hfe, hS.2.2, h1, h2⟩) hd
theorem mj_so_vret (hx : p.tables.exec = Jvm.exec) (hb : c.code = cc) (hlocks : meth.locks = false) (hrt : meth.sig.returnType = none) {Q : mj_R → Prop} (hQQ : QQ = mj_Z below s (mj_Qc D cl tys ad bi z xn b0 b1 Q s)) (hd : decode cc (off pc) = .ok (.return_, 1)) (hq : Q (.inl (none), h)) : mj_J p l e R s m args below meth c D cl tys ad bi z nL off QQ b0 b1 pc ls [] h := by
  intro H locs k n L hl hr9 hS h1 h2
  rw [hQQ]
  exact mj_vret hx hb hrt hlocks (fun t ht hfe => ⟨(.inl (none), h), hq, rfl, by rw [ht]; exact hr9, ⟨by rw [ht]; exact hS.1, fun q g1 g2 => by rw [ht]; exact hS.2.1 q g1 g2⟩, locs, k, n, hfe, hS.2.2, h1, h2⟩) hd
theorem mj_so_aret (hx : p.tables.exec = Jvm.exec) (hb : c.code = cc) (hlocks : meth.locks = false) {x : Nat} {ty : FieldType} (hn : ty.isReference = true) (hrt : meth.sig.returnType = some ty) {Q : mj_R → Prop} (hQQ : QQ = mj_Z below s (mj_Qc D cl tys ad bi z xn b0 b1 Q s)) (hd : decode cc (off pc) = .ok (.areturn, 1)) (hq : Q (.inl (some (.ref x)), h)) : mj_J p l e R s m args below meth c D cl tys ad bi z nL off QQ b0 b1 pc ls [.ref x] h := by
  intro H locs k n L hl hr9 hS h1 h2
  rw [hQQ]
  exact mj_aret hx hb hrt hn hlocks (fun t ht hfe => ⟨(.inl (some (.ref x)), h), hq, rfl, by rw [ht]; exact hr9, ⟨by rw [ht]; exact hS.1, fun q g1 g2 => by rw [ht]; exact hS.2.1 q g1 g2⟩, locs, k, n, hfe, hS.2.2, h1, h2⟩) hd
theorem mj_so_gets (hx : p.tables.exec = Jvm.exec) (hb : c.code = cc) {own : String} (hown : s.vm.findClass own = some m.cls) {TS : List Cond} (hts : ∀ w ∈ TS, w.before args s = true) (hSt : mj_St cst ad z ncs s) {j : Nat} {C f d : String} {v : Value} (hm : (C, f, d, v) ∈ ncs.2.2.2.2) (hlink : Jvm.Cond.fieldLink own j C f d ∈ TS) (hd : decode cc (off pc) = .ok (.getstatic j, 3)) (ho : off (pc + 1) = off pc + 3) (kk : mj_J p l e R s m args below meth c D cl tys ad bi z nL off QQ b0 b1 (pc + 1) ls (v :: r) h) : mj_J p l e R s m args below meth c D cl tys ad bi z nL off QQ b0 b1 pc ls r h := by
  intro H locs k n L hl hr hS h1 h2
  have K := kk H locs k n L hl hr hS h1 h2
  rw [ho] at K
  exact va_gets hx hb (hSt.2.2.2.2.2.2 _ hm) hS hown (hts _ hlink) (fun _ h9 => h9) hd K
theorem mj_so_max (hx : p.tables.exec = Jvm.exec) (hb : c.code = cc) (hml : c.maxLocals = nL) {own : String} (hown : s.vm.findClass own = some m.cls) {TS : List Cond} (hts : ∀ w ∈ TS, w.before args s = true) (hR : R.cells = b0 ∧ R.slots = b1) {idx : Nat} {x y : Int32} (g1 : Jvm.Cond.methodLink own idx Lib.Math.max.name ∈ TS) (g2 : Jvm.Cond.static Lib.Math.max.name ∈ TS) (g3 : Jvm.Cond.initialized "java/lang/Math" ∈ TS) (g4 : Jvm.Cond.code Lib.Math.max.name Lib.Math.max.code 2 (some .int) ∈ TS) (hf : 1 ≤ R.frames) (hw : mj_wt r + 13 ≤ R.locals) (hd : decode cc (off pc) = .ok (.invokestatic idx, 3)) (ho : off (pc + 1) = off pc + 3) (kk : mj_J p l e R s m args below meth c D cl tys ad bi z nL off QQ b0 b1 (pc + 1) ls (.int (if x < y then y else x) :: r) h) : mj_J p l e R s m args below meth c D cl tys ad bi z nL off QQ b0 b1 pc ls (.int y :: .int x :: r) h := by
  intro H locs k n L hl hr hS h1 h2
  have K := kk H locs k n L hl hr hS h1 h2
  rw [ho] at K
  have := mj_wt_tr ad r
  unfold mj_wt at this hw
  exact va_mmax hx hb (by rw [hml]; exact hl.1.symm) hown (hts _ g1) (hts _ g2) (hts _ g3) (hts _ g4) hf (by rw [this]; exact hw) (by rw [hR.1]; omega) (by rw [hR.2]; omega) hd K
theorem mj_so_min (hx : p.tables.exec = Jvm.exec) (hb : c.code = cc) (hml : c.maxLocals = nL) {own : String} (hown : s.vm.findClass own = some m.cls) {TS : List Cond} (hts : ∀ w ∈ TS, w.before args s = true) (hR : R.cells = b0 ∧ R.slots = b1) {idx : Nat} {x y : Int32} (g1 : Jvm.Cond.methodLink own idx Lib.Math.min.name ∈ TS) (g2 : Jvm.Cond.static Lib.Math.min.name ∈ TS) (g3 : Jvm.Cond.initialized "java/lang/Math" ∈ TS) (g4 : Jvm.Cond.code Lib.Math.min.name Lib.Math.min.code 2 (some .int) ∈ TS) (hf : 1 ≤ R.frames) (hw : mj_wt r + 13 ≤ R.locals) (hd : decode cc (off pc) = .ok (.invokestatic idx, 3)) (ho : off (pc + 1) = off pc + 3) (kk : mj_J p l e R s m args below meth c D cl tys ad bi z nL off QQ b0 b1 (pc + 1) ls (.int (if y < x then y else x) :: r) h) : mj_J p l e R s m args below meth c D cl tys ad bi z nL off QQ b0 b1 pc ls (.int y :: .int x :: r) h := by
  intro H locs k n L hl hr hS h1 h2
  have K := kk H locs k n L hl hr hS h1 h2
  rw [ho] at K
  have := mj_wt_tr ad r
  unfold mj_wt at this hw
  exact va_mmin hx hb (by rw [hml]; exact hl.1.symm) hown (hts _ g1) (hts _ g2) (hts _ g3) (hts _ g4) hf (by rw [this]; exact hw) (by rw [hR.1]; omega) (by rw [hR.2]; omega) hd K
theorem mj_sw_cases {go : Int → Prop} {d : Int} {x : Int32} {l : List (Int × Int)} (hk : mj_sw go d x l) : (∃ (j : Nat) (v t : Int), l[j]? = some (v, t) ∧ x = Int32.ofInt v ∧ go t) ∨ ((∀ (j : Nat) (v t : Int), l[j]? = some (v, t) → ¬ x = Int32.ofInt v) ∧ go d) := by
  induction l with
  | nil => exact Or.inr ⟨fun j v t h => by simp at h, hk⟩
  | cons a l ih =>
    obtain ⟨v0, t0⟩ := a
    obtain ⟨k1, k2⟩ := hk
    by_cases hx : x = Int32.ofInt v0
    · exact Or.inl ⟨0, v0, t0, rfl, hx, k1 hx⟩
    · rcases ih (k2 hx) with ⟨j, v, t, g1, g2, g3⟩ | ⟨g1, g2⟩
      · exact Or.inl ⟨j + 1, v, t, g1, g2, g3⟩
      · refine Or.inr ⟨fun j v t hj => ?_, g2⟩
        cases j with
        | zero =>
          have hj' : (v0, t0) = (v, t) := Option.some.inj hj
          cases hj'
          exact hx
        | succ j => exact g1 j v t hj
theorem mj_sw_off {go : Int → Prop} {d d' : Int} {x : Int32} {pc0 : Int} {tg : Int → Int} (hd : pc0 + d' = tg d) : ∀ (A B : List (Int × Int)), A.length = B.length → (∀ q ∈ A.zip B, q.1.1 = q.2.1 ∧ (Int32.ofInt q.1.1).toInt = q.1.1 ∧ pc0 + q.1.2 = tg q.2.2) → mj_sw go d x B → ∃ t, pc0 + Op.lookupswitch.offset A d' x.toInt = tg t ∧ go t := by
  intro A
  induction A with
  | nil =>
    intro B hl _ hk
    have : B = [] := List.eq_nil_of_length_eq_zero (by simpa using hl.symm)
    subst this
    exact ⟨d, by simpa [Op.lookupswitch.offset] using hd, hk⟩
  | cons a A ih =>
    intro B hl hq hk
    cases B with
    | nil => simp at hl
    | cons b B =>
      obtain ⟨a1, a2⟩ := a
      obtain ⟨b1, b2⟩ := b
      obtain ⟨q1, q2, q3⟩ := hq ((a1, a2), (b1, b2)) (by simp)
      simp only at q1 q2 q3
      subst q1
      obtain ⟨k1, k2⟩ := hk
      by_cases hx : x = Int32.ofInt a1
      · refine ⟨b2, ?_, k1 hx⟩
        rw [Op.lookupswitch.offset_cons, if_pos (by rw [hx, q2])]
        exact q3
      · obtain ⟨t, h1, h2⟩ := ih B (by simpa using hl) (fun q hq' => hq q (by simp [hq'])) (k2 hx)
        refine ⟨t, ?_, h2⟩
        rw [lv_osw hx q2]
        exact h1
theorem mj_so_sw (hx : p.tables.exec = Jvm.exec) (hb : c.code = cc) {TS : List Cond} {own : String} {rt : Option FieldType} {d : Int} {ps : Array (Int × Int)} {x : Int32} (hok : mj_ok TS own cc nL off rt pc (.lookupswitch d ps)) (kk : mj_sw (fun t => mj_J p l e R s m args below meth c D cl tys ad bi z nL off QQ b0 b1 t.toNat ls r h) d x ps.toList) : mj_J p l e R s m args below meth c D cl tys ad bi z nL off QQ b0 b1 pc ls (.int x :: r) h := by
  intro H locs k n L hl hr hS h1 h2
  rcases hok with ⟨d', ps', len, hd, hp, hdf, hlen, hq⟩ | ⟨d', lo, os, len, hd, hdf, hlen, hq⟩
  · obtain ⟨t, g1, g2⟩ := mj_sw_off (tg := fun t => (off t.toNat : Int)) hdf ps'.toList ps.toList hlen hq kk
    exact lv_lookup hx hb hd hp rfl g1 (g2 H locs k n L hl hr hS h1 h2)
  · rcases mj_sw_cases kk with ⟨j, v, t, g1, g2, g3⟩ | ⟨g1, g2⟩
    · have hj : j < os.size := by
        have := (List.getElem?_eq_some_iff.mp g1).1
        rw [← hlen] at this
        simpa using this
      obtain ⟨o, t', e1, e2, e3, e4⟩ := hq j hj
      rw [g1] at e2
      have e5 : (v, t) = (lo + (j : Int), t') := Option.some.inj e2
      cases e5
      have hxi : x.toInt = lo + j := by rw [g2]; exact e3
      refine lv_tableIn hx hb hd (by omega) (by omega) (off := o) ?_ e4 (g3 H locs k n L hl hr hS h1 h2)
      rw [show (x.toInt - lo).toNat = j by omega]
      exact e1
    · refine lv_tableOut hx hb hd ?_ hdf (g2 H locs k n L hl hr hS h1 h2)
      by_cases q : x.toInt < lo
      · exact Or.inl q
      · right
        by_cases q2 : lo + os.size - 1 < x.toInt
        · exact q2
        · exfalso
          have hj : (x.toInt - lo).toNat < os.size := by omega
          obtain ⟨o, t', e1, e2, e3, e4⟩ := hq _ hj
          refine g1 _ _ _ e2 (Int32.toInt_inj.mp ?_)
          rw [e3]
          omega
end MJE
