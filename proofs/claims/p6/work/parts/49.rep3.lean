section MJY
variable {p : Program} {l : Launch} {e : Env} {R : Room} {s : State} {m : MethodId} {args : Array Value} {below : List Frame} {meth : Method} {c : Code}
variable {D : va_G} {cl : List vw_C} {tys : List (ClassId × FieldType)} {ad : Nat → Nat} {z : Nat → Prop} {nL : Nat} {off : Nat → Nat} {QQ : State → Prop} {b0 b1 : Nat} {cc : ByteArray} {pc : Nat} {ls : mj_L} {r : List Value} {h : mj_H}
variable {cst : Nat → Option (Nat × (Nat → Int32))} {ncs : mj_K} {xn : Nat → String}
def mj_c9 (bi : Nat) (cst : Nat → Option (Nat × (Nat → Int32))) (ncs : mj_K) : Prop := bi = 9 ∧ (∀ a x, cst a = some x → 1000 ≤ a) ∧ (∀ q ∈ ncs.2.2.2.2, mj_ni [q.2.2.2] = true) ∧ ∀ q ∈ ncs.2.2.2.1, q.2.2.2 ≠ 0 → 1000 ≤ q.2.2.2
theorem mj_ni_tr {x y sz : Nat} : ∀ {as : List Value}, mj_ni as = true → as.map (mj_tr (mj_lad ad x y sz)) = as.map (mj_tr ad) := by
  intro as
  induction as with
  | nil => intro _; rfl
  | cons v r ih =>
    intro h
    cases v with
    | int x => rw [List.map_cons, List.map_cons, ih h]; rfl
    | retAddr x =>
      rw [List.map_cons, List.map_cons, ih h]
      congr 1
    | ref w =>
      unfold mj_ni at h
      split at h
      · next hw =>
        have hw := Nat.le_of_ble_eq_true hw
        rw [List.map_cons, List.map_cons, ih h]
        congr 1
        show Value.ref (mj_lad ad x y sz w) = Value.ref (ad w)
        rw [mj_ladc hw]
      · cases h
    | _ => cases h
theorem mj_St_in {x y : Nat} {U : State} {bi : Nat} (h9 : mj_c9 bi cst ncs) (h : mj_St cst ad z ncs U) (hx : z x) (hy : z y) : mj_St cst (mj_lad ad x y U.heap.size) (mj_lz x y U.heap.size) ncs U := by
  obtain ⟨h1, h2, h3, h4, h5, h6, h7⟩ := h
  have hs : ∀ q, mj_lz x y U.heap.size q → z q := by
    rintro q (h | h | h)
    · rw [h]; exact hx
    · rw [h]; exact hy
    · exact h2 q h
  refine ⟨fun a n g ha => ?_, fun q h => Or.inr (Or.inr h), h3, h4, fun q hq => ?_, fun q hq => ?_, fun q hq => ?_⟩
  · have h8 := h1 a n g ha
    have e := mj_ladc (ad := ad) (x := x) (y := y) (sz := U.heap.size) (h9.2.1 a _ ha)
    refine ⟨fun g1 => ?_, fun g1 g2 => ?_, fun g1 => ?_⟩
    · rw [e]
      exact (h8.1 g1).narrow hs
    · rw [e]
      exact (h8.2.1 g1 g2).narrow hs
    · rw [e, mj_ladc (i := a - 900) (by omega)]
      exact ⟨(h8.2.2 g1).1.narrow hs, (h8.2.2 g1).2.1.narrow hs, (h8.2.2 g1).2.2.narrow hs⟩
  · obtain ⟨cf, kf, fi, f, a, cell, v, g1, g2, g3, g4, g5, g6, g7, g8, g9, g10, g11, g12⟩ := h5 q hq
    exact ⟨cf, kf, fi, f, a, cell, v, g1, g2, g3, g4, g5, g6, g7, g8, g9, g10, g11, fun g => g12 (hs a g)⟩
  · obtain ⟨w, g1, g2⟩ := h6 q hq
    refine ⟨w, g1, fun g3 => ?_⟩
    rw [mj_ladc (h9.2.2.2 q hq g3)]
    exact g2 g3
  · have e := mj_ni_tr (ad := ad) (x := x) (y := y) (sz := U.heap.size) (h9.2.2.1 q hq)
    have e' : mj_tr (mj_lad ad x y U.heap.size) q.2.2.2 = mj_tr ad q.2.2.2 := by simpa using e
    rw [e']
    exact (h7 q hq).narrow hs
theorem mj_so_bcall (hx : p.tables.exec = Jvm.exec) (hb : c.code = cc) (hml : c.maxLocals = nL) (hK : va_K D cl tys s) (hSt : mj_St cst ad z ncs s) (hR : R.cells = b0 ∧ R.slots = b1) (h9 : mj_c9 9 cst ncs)
    {y : MethodName} {ws : List Cond} {rm : Room} {bytes : ByteArray} {maxL : Nat} {ret : Option FieldType} {hh : List (Nat × Nat × Nat × Nat)} {ig : Instr} {as st : List Value} {kq : Nat → mj_L → List Value → mj_H → Prop} {a nb : Nat} {fb : Nat → Nat}
    (ha : mj_nth h.1 a = some (.inr (.inr (.inl (nb, fb))))) (hni : mj_ni as = true)
    (hM : ∀ (ad2 : Nat → Nat) (z2 : Nat → Prop) (ml : Int32) (N : Nat) (g : Nat → Int32), nb ≤ N → N ≤ 65536 → sb_Lat fb nb g → sb_Fit g → MetFree l y (headSpec ws rm) (mj_Pc D cl tys ad2 9 z2 cst ncs (.ref 0 :: as) (mj_lo ml nb N g, h.2.1, h.2.2.1, true)) (fun _ _ _ _ _ => True) (fun _ => mj_Qc D cl tys ad2 9 z2 xn h.2.1 h.2.2.1 (mj_bp kq pc ls r h a)))
    (hrc : rm.cells = h.2.1) (hrs : rm.slots = h.2.2.1) (hfr : rm.frames + 1 ≤ R.frames) (hlo : 8 + (maxL + 11) + rm.locals ≤ R.locals) (hwt : mj_wt r ≤ 8)
    (hws : ∀ w ∈ ws, ∀ (a' : Array Value) (U : State), s.WarmedH U.vm → w.before a' U = true) (hcd : mj_cd y bytes maxL ret hh ∈ ws) (hini : ∀ (a' : Array Value) (U : State), s.WarmedH U.vm → (Cond.initialized y.cls).before a' U = true)
    (hd : decode cc (off pc) = .ok (ig, 3)) (ho : off (pc + 1) = off pc + 3)
    (hinv : ∀ (T : State) (H : Heap) (locs : List Loc) (k n : Nat) (L : Array Slot), T.heap = H → mj_rep D cl tys ad 9 z h H → Stand p l e R s m args below meth c T locs k n → mj_Inv p l e R s m args below meth c T locs k n (F0 m (off pc) L (st.map (mj_tr ad))) (r.map (mj_tr ad)) y ((.ref a :: as).map (mj_tr ad)).toArray)
    (hk : ∀ pc ls st h, kq pc ls st h → mj_J p l e R s m args below meth c D cl tys ad 9 z nL off QQ b0 b1 pc ls st h) : mj_J p l e R s m args below meth c D cl tys ad 9 z nL off QQ b0 b1 pc ls st h := by
  intro H locs k n L hl hr hS h1 h2 T hT X
  obtain ⟨vm₁, mk, hW₁, X₁, hnm, hstep⟩ := hinv T H locs k n L hT hr X
  obtain ⟨⟨b, hP, hD, hB⟩, -, hvs1, hvs2⟩ := hr
  have hzs : ∀ q : Nat, s.heap.size ≤ q → z q := hSt.2.1
  have hSt1 : mj_St cst ad z ncs (T.setVm vm₁) := by
    refine hSt.go (U := T.setVm vm₁) hW₁ (fun q hq => ?_) ?_
    · show T.heap[q]? = s.heap[q]?
      rw [hT]
      exact hS.2.1 q (Nat.lt_of_not_le (fun g => hq (hzs q g))) hq
    · show s.heap.size ≤ T.heap.size
      rw [hT]
      exact hS.1
  have e0 := mj_b0 (tys := tys) (ad := ad) (b := b) ha
  have e1 := mj_b1 (tys := tys) (ad := ad) hB ha
  have zx : z (ad a) := hD.2 a _ e0
  have zy : z (b.1 a) := hD.2 (a + 1) _ e1
  have hlz : ∀ q, mj_lz (ad a) (b.1 a) H.size q → z q := by
    rintro q (g | g | g)
    · rw [g]; exact zx
    · rw [g]; exact zy
    · exact hvs2 q g
  have hSt2 : mj_St cst (mj_lad ad (ad a) (b.1 a) H.size) (mj_lz (ad a) (b.1 a) H.size) ncs (T.setVm vm₁) := by
    have := mj_St_in h9 hSt1 zx zy
    have e : (T.setVm vm₁).heap.size = H.size := by rw [← hT]; rfl
    rw [e] at this
    exact this
  obtain ⟨-, n1, n2, n3, n4⟩ := hB a nb fb ha
  have hwt' : 2 * (F0 m (off pc) L (r.map (mj_tr ad))).monitorRoom + ((F0 m (off pc) L (r.map (mj_tr ad))).stack.map fun v => v.category).sum ≤ 8 := by
    have := mj_wt_tr ad r
    unfold mj_wt at this hwt
    show 2 * 0 + ((r.map (mj_tr ad)).map fun v => v.category).sum ≤ 8
    rw [this]
    omega
  have eas : ((.ref a :: as).map (mj_tr ad)) = ((.ref 0 :: as).map (mj_tr (mj_lad ad (ad a) (b.1 a) H.size))) := by
    rw [List.map_cons, List.map_cons, mj_ni_tr hni]
    congr 1
  obtain ⟨o, t, hq, hgo⟩ := mj_back (hh := hh) (bytes := bytes) (maxL := maxL) (ret := ret) (Wt := 8) (len := 3) (ig := ig) (U := T.setVm vm₁) (g := F0 m (off pc) L (r.map (mj_tr ad))) (a := ((.ref a :: as).map (mj_tr ad)).toArray) (mk := mk) (hM (mj_lad ad (ad a) (b.1 a) H.size) (mj_lz (ad a) (b.1 a) H.size) (b.2.2.2 a) (b.2.1 a) (b.2.2.1 a) n1 n2 n3 n4) hfr hlo X₁ rfl (by show L.size = c.maxLocals; rw [hml]; exact hl.1) (by rw [hb]; exact hd) hwt' hnm (fun w hw => hws w hw _ _ hW₁) (mj_cd_or (hws _ hcd _ _ hW₁)) (hini _ _ hW₁) (by rw [hrc, hR.1]; exact h1) (by rw [hrs, hR.2]; exact h2)
    ⟨by rw [eas], by show mj_rep D cl tys _ 9 _ _ T.heap; rw [hT]; exact mj_rep_in hP hD hB hvs1 ha, va_K.moved hW₁.alike hK, hSt2⟩ (fun o t hq => by
      obtain ⟨r9, -, -, -, -, L9, k9, n9, hf, -⟩ := hq
      exact ⟨L9, k9, n9, hf⟩)
  obtain ⟨⟨rv, h'⟩, hQ, hout, hrep, hF, L9, k9, n9, hfe, hL9, hk9, hn9⟩ := hq
  obtain ⟨U', e1', e2', XU, hret, hthr⟩ := hgo L9 k9 n9 hfe
  have hF' : T.heap.size ≤ t.heap.size ∧ ∀ q : Nat, q < T.heap.size → ¬ mj_lz (ad a) (b.1 a) H.size q → t.heap[q]? = T.heap[q]? := hF
  rw [hT] at hF'
  have hS' : va_S (mj_A z) s.heap t.heap (locs ++ L9) := by
    refine ⟨Nat.le_trans hS.1 hF'.1, fun q g1 g2 => ?_, fun q hq => ?_⟩
    · rw [hF'.2 q (Nat.lt_of_lt_of_le g1 hS.1) (fun g => g2 (hlz q g))]
      exact hS.2.1 q g1 g2
    · rcases List.mem_append.mp hq with g | g
      · exact hS.2.2 q g
      · exact hlz _ (hL9 q g)
  have c1 : k + k9 + h'.2.1 ≤ b0 := by
    have := h1
    have := hk9
    simp only at *
    omega
  have c2 : n + n9 + h'.2.2.1 ≤ b1 := by
    have := h2
    have := hn9
    simp only at *
    omega
  obtain ⟨os1, bc1, bs1, fl1⟩ := h'
  cases rv with
  | inl v =>
    have ho1 : o = .returned (v.map (mj_tr (mj_lad ad (ad a) (b.1 a) H.size))) := hout
    obtain ⟨j, N, g, n5, f5, ml, q1, q2, q3, q4, q5, q6, q7, q8⟩ := hQ
    have hrep' : mj_rep D cl tys ad 9 z (mj_stn h.1 a (.inr (.inr (.inl (n5, f5)))), bc1, bs1, false) t.heap := mj_rep_out hP hD hB hvs1 hvs2 ha hF'.1 hF'.2 hrep q1 q2 q3 q4 q5 q6 q7
    have fin : ∀ w : Option Value, v.map (mj_tr (mj_lad ad (ad a) (b.1 a) H.size)) = w.map (mj_tr ad) → kq (pc + 1) ls (w.toList ++ r) (mj_stn h.1 a (.inr (.inr (.inl (n5, f5)))), bc1, bs1, false) → ∃ t2, Steps p.tables e below (T.setTop (F0 m (off pc) L (st.map (mj_tr ad)))) t2 ∧ QQ t2 := by
      intro w ew q9
      rw [ew] at ho1
      obtain ⟨t2, a1, b1⟩ := hk _ _ _ _ q9 t.heap (locs ++ L9) (k + k9) (n + n9) L hl hrep' hS' c1 c2 U' e1' XU
      refine ⟨t2, hstep t2 (hret _ ho1 t2 ?_), b1⟩
      rw [ho] at a1
      have e9 : (w.map (mj_tr ad)).toList ++ r.map (mj_tr ad) = (w.toList ++ r).map (mj_tr ad) := by cases w <;> rfl
      show Steps p.tables e below (U'.setTop (F0 m (off pc + 3) L ((w.map (mj_tr ad)).toList ++ r.map (mj_tr ad)))) t2
      rw [e9]
      exact a1
    split at q8
    · exact fin none rfl q8
    · next x => exact fin (some (.int x)) rfl q8
    · refine fin (some (.ref a)) ?_ q8
      show some (Value.ref (mj_lad ad (ad a) (b.1 a) H.size 0)) = some (Value.ref (ad a))
      rw [mj_lad0]
    · exact q8.elim
  | inr q => exact hQ.elim
theorem mj_nn {w : Int32} (h : ¬ w < 0) : w.toInt = (w.toNatClampNeg : Int) := by
  obtain ⟨j, hj, rfl⟩ := nI_of h
  rw [nI_toInt hj, nI_clamp hj]
theorem mj_so_copy {bi : Nat} (hx : p.tables.exec = Jvm.exec) (hb : c.code = cc) (hml : c.maxLocals = nL) {own : String} (hown : s.vm.findClass own = some m.cls) {TS : List Cond} (hts : ∀ w ∈ TS, w.before args s = true) (hK : va_K D cl tys s) {idx : Nat} (g1 : Jvm.Cond.methodLink own idx arraycopyName ∈ TS) (g2 : Jvm.Cond.native arraycopyName ∈ TS) (g3 : Jvm.Cond.static arraycopyName ∈ TS) (g4 : Jvm.Cond.initialized "java/lang/System" ∈ TS)
    {a0 a n0 n1 : Nat} {f g : Nat → Int32} {sp dp w : Int32} {cA : ClassId} (ht : tys[4]? = some (cA, .byte)) (ha0 : mj_nth h.1 a0 = some (.inl (4, n0, .inl f))) (ha : mj_nth h.1 a = some (.inl (4, n1, .inl g))) (h1 : ¬ sp < 0) (h2 : ¬ dp < 0) (h3 : ¬ w < 0) (h4 : sp.toNatClampNeg + w.toNatClampNeg ≤ n0) (h5 : dp.toNatClampNeg + w.toNatClampNeg ≤ n1) (hfit : sb_Fit f)
    (hfr : 1 ≤ R.frames) (hlo : mj_wt r + (nativeFrameWords "java/lang/System" "arraycopy" 5 + 11) ≤ R.locals) (hd : decode cc (off pc) = .ok (.invokestatic idx, 3)) (ho : off (pc + 1) = off pc + 3)
    (kk : mj_J p l e R s m args below meth c D cl tys ad bi z nL off QQ b0 b1 (pc + 1) ls r (mj_set h a (.inl (4, n1, .inl (va_cpy f g sp.toNatClampNeg dp.toNatClampNeg w.toNatClampNeg))))) : mj_J p l e R s m args below meth c D cl tys ad bi z nL off QQ b0 b1 pc ls (.int w :: .int dp :: .ref a :: .int sp :: .ref a0 :: r) h := by
  intro H locs k n L hl hr hS h1' h2' T hT X
  have hc0 := mj_cellA ht hr ha0
  have hc1 := mj_cellA ht hr ha
  have hA : mj_A z (ad a) := mj_in_A hr ha trivial
  obtain ⟨-, k0, hk0, cm0, hkk0⟩ := (hK.2 4 _ ht).1 n0 (fun j => .int (f j))
  obtain ⟨-, k1, hk1, cm1, hkk1⟩ := (hK.2 4 _ ht).1 n1 (fun j => .int (g j))
  have hwt := mj_wt_tr ad r
  unfold mj_wt at hwt hlo
  obtain ⟨vm', X', step⟩ := X.arraycopy hx hown (hts _ g1) (hts _ g2) (hts _ g3) (hts _ g4) (src := ad a0) (dst := ad a) (cs := vp_cell cA (n0, .inl f)) (cd := vp_cell cA (n1, .inl g)) (srcPos := sp) (destPos := dp) (n := w) (by rw [hT]; exact hc0) (by rw [hT]; exact hc1)
    (fun _ h => by cases h) (fun _ h => by cases h) (fun h => by cases h) (fun h => by cases h) hk0 hk1 hkk0 hkk1 (by show ((refKind FieldType.byte != refKind FieldType.byte) || (!refKind FieldType.byte && FieldType.byte != FieldType.byte)) = false; decide) h1 h2 h3
    (by rw [mj_nn h1, mj_nn h3]; show ¬ _ > ((arrV cA n0 (fun j => .int (f j))).slots.size : Int); rw [arrV_size]; omega)
    (by rw [mj_nn h2, mj_nn h3]; show ¬ _ > ((arrV cA n1 (fun j => .int (g j))).slots.size : Int); rw [arrV_size]; omega)
    (fun vm₁ _ i hi => by
      have e : (vp_cell cA (n0, .inl f)).slots.getD (sp.toNatClampNeg + i) .null = .int (f (sp.toNatClampNeg + i)) := by
        show (arrV cA n0 (fun j => .int (f j))).slots.getD _ _ = _
        rw [Array.getD_eq_getD_getElem?, arrV_read _ _ (by omega)]
        rfl
      exact ⟨by rw [e]; exact hfit _, by rw [e]; exact trivial⟩)
    (g := F0 m (off pc) L ((.int w :: .int dp :: .ref a :: .int sp :: .ref a0 :: r).map (mj_tr ad))) rfl (by rw [hml]; exact hl.1) (rest := r.map (mj_tr ad)) rfl (by rw [hb]; exact hd) hfr (by show 2 * 0 + _ + _ ≤ _; rw [hwt]; omega)
  have e1 : copied (vp_cell cA (n0, .inl f)) (vp_cell cA (n1, .inl g)) sp dp w = vp_cell cA (n1, .inl (va_cpy f g sp.toNatClampNeg dp.toNatClampNeg w.toNatClampNeg)) := va_copied (fun z => .int z) cA cA f g h4
  rw [e1] at X' step
  generalize va_cpy f g sp.toNatClampNeg dp.toNatClampNeg w.toNatClampNeg = g5 at *
  have hlt : ad a < H.size := (Array.getElem?_eq_some_iff.mp hc1).1
  have hheap : ((T.setVm vm').setCell (ad a) (vp_cell cA (n1, .inl g5))).heap = H.setIfInBounds (ad a) (vp_cell cA (n1, .inl g5)) := by rw [← hT]; rfl
  have oq : ∀ q : Nat, q ≠ ad a → (H.setIfInBounds (ad a) (vp_cell cA (n1, .inl g5)))[q]? = H[q]? := fun q hq => by simp [Array.getElem?_setIfInBounds, Ne.symm hq]
  have hrep : mj_rep D cl tys ad bi z (mj_set h a (.inl (4, n1, .inl g5))) (H.setIfInBounds (ad a) (vp_cell cA (n1, .inl g5))) := mj_rep_put hr ha trivial trivial (fun b => by
    show (H.setIfInBounds (ad a) (vp_cell cA (n1, .inl g5)))[ad a]? = some (vp_cell (mj_tc tys 4) (n1, .inl g5))
    simp only [mj_tc, ht, Option.map_some, Option.getD_some]
    simp [Array.getElem?_setIfInBounds, hlt]) (by simp) oq
  have hS' : va_S (mj_A z) s.heap (H.setIfInBounds (ad a) (vp_cell cA (n1, .inl g5))) (locs ++ ((vp_cell cA (n0, .inl f)).stretch sp.toNatClampNeg w.toNatClampNeg).zipIdx.map fun q => ⟨ad a, dp.toNatClampNeg + q.2⟩) := by
    refine ⟨by simp; exact hS.1, fun q g1 g2 => ?_, fun q hq => ?_⟩
    · rw [oq q (fun e => g2 (by rw [e]; exact hA))]
      exact hS.2.1 q g1 g2
    · rcases List.mem_append.mp hq with h | h
      · exact hS.2.2 q h
      · obtain ⟨y, -, hy⟩ := List.mem_map.mp h
        rw [← hy]
        exact hA
  obtain ⟨t, a1, b1⟩ := kk _ _ k n L hl hrep hS' h1' h2' _ hheap X'
  rw [ho] at a1
  exact ⟨t, step t a1, b1⟩
theorem mj_so_ccopy {bi : Nat} (hx : p.tables.exec = Jvm.exec) (hb : c.code = cc) (hml : c.maxLocals = nL) {own : String} (hown : s.vm.findClass own = some m.cls) {TS : List Cond} (hts : ∀ w ∈ TS, w.before args s = true) (hK : va_K D cl tys s) {idx : Nat} (g1 : Jvm.Cond.methodLink own idx arraycopyName ∈ TS) (g2 : Jvm.Cond.native arraycopyName ∈ TS) (g3 : Jvm.Cond.static arraycopyName ∈ TS) (g4 : Jvm.Cond.initialized "java/lang/System" ∈ TS)
    {a0 a n0 n1 : Nat} {f g : Nat → Int32} {sp dp w : Int32} {cA : ClassId} (ht : tys[4]? = some (cA, .byte)) (hX : va_T .byte (ad a0) n0 (fun j => .int (f j)) (mj_A z) s s.heap) (ha : mj_nth h.1 a = some (.inl (4, n1, .inl g))) (h1 : ¬ sp < 0) (h2 : ¬ dp < 0) (h3 : ¬ w < 0) (h4 : sp.toNatClampNeg + w.toNatClampNeg ≤ n0) (h5 : dp.toNatClampNeg + w.toNatClampNeg ≤ n1) (hfit : sb_Fit f)
    (hfr : 1 ≤ R.frames) (hlo : mj_wt r + (nativeFrameWords "java/lang/System" "arraycopy" 5 + 11) ≤ R.locals) (hd : decode cc (off pc) = .ok (.invokestatic idx, 3)) (ho : off (pc + 1) = off pc + 3)
    (kk : mj_J p l e R s m args below meth c D cl tys ad bi z nL off QQ b0 b1 (pc + 1) ls r (mj_set h a (.inl (4, n1, .inl (va_cpy f g sp.toNatClampNeg dp.toNatClampNeg w.toNatClampNeg))))) : mj_J p l e R s m args below meth c D cl tys ad bi z nL off QQ b0 b1 pc ls (.int w :: .int dp :: .ref a :: .int sp :: .ref a0 :: r) h := by
  intro H locs k n L hl hr hS h1' h2' T hT X
  obtain ⟨scr, hs1, hs2, hs3, hs4, -, hs5, hs7⟩ := hX
  have hc0 : H[ad a0]? = some scr := by rw [hS.2.1 _ (Array.getElem?_eq_some_iff.mp hs1).1 hs7]; exact hs1
  have hc1 := mj_cellA ht hr ha
  have hA : mj_A z (ad a) := mj_in_A hr ha trivial
  obtain ⟨hs6, k0, hk0, cm0, hkk0⟩ := hs2
  obtain ⟨-, k1, hk1, cm1, hkk1⟩ := (hK.2 4 _ ht).1 n1 (fun j => .int (g j))
  have hwt := mj_wt_tr ad r
  unfold mj_wt at hwt hlo
  obtain ⟨vm', X', step⟩ := X.arraycopy hx hown (hts _ g1) (hts _ g2) (hts _ g3) (hts _ g4) (src := ad a0) (dst := ad a) (cs := scr) (cd := vp_cell cA (n1, .inl g)) (srcPos := sp) (destPos := dp) (n := w) (by rw [hT]; exact hc0) (by rw [hT]; exact hc1)
    hs6 (fun _ h => by cases h) hs3 (fun h => by cases h) hk0 hk1 hkk0 hkk1 (by simp [refKind]) h1 h2 h3
    (by rw [mj_nn h1, mj_nn h3]; omega)
    (by rw [mj_nn h2, mj_nn h3]; show ¬ _ > ((arrV cA n1 (fun j => .int (g j))).slots.size : Int); rw [arrV_size]; omega)
    (fun vm₁ _ i hi => by
      have e : scr.slots.getD (sp.toNatClampNeg + i) .null = .int (f (sp.toNatClampNeg + i)) := by
        rw [Array.getD_eq_getD_getElem?, hs5 _ (by omega)]
        rfl
      exact ⟨by rw [e]; exact hfit _, by rw [e]; exact trivial⟩)
    (g := F0 m (off pc) L ((.int w :: .int dp :: .ref a :: .int sp :: .ref a0 :: r).map (mj_tr ad))) rfl (by rw [hml]; exact hl.1) (rest := r.map (mj_tr ad)) rfl (by rw [hb]; exact hd) hfr (by show 2 * 0 + _ + _ ≤ _; rw [hwt]; omega)
  have e1 : copied scr (vp_cell cA (n1, .inl g)) sp dp w = vp_cell cA (n1, .inl (va_cpy f g sp.toNatClampNeg dp.toNatClampNeg w.toNatClampNeg)) := va_copiedX (fun z => .int z) scr cA f g hs5 h4
  rw [e1] at X' step
  generalize va_cpy f g sp.toNatClampNeg dp.toNatClampNeg w.toNatClampNeg = g5 at *
  have hlt : ad a < H.size := (Array.getElem?_eq_some_iff.mp hc1).1
  have hheap : ((T.setVm vm').setCell (ad a) (vp_cell cA (n1, .inl g5))).heap = H.setIfInBounds (ad a) (vp_cell cA (n1, .inl g5)) := by rw [← hT]; rfl
  have oq : ∀ q : Nat, q ≠ ad a → (H.setIfInBounds (ad a) (vp_cell cA (n1, .inl g5)))[q]? = H[q]? := fun q hq => by simp [Array.getElem?_setIfInBounds, Ne.symm hq]
  have hrep : mj_rep D cl tys ad bi z (mj_set h a (.inl (4, n1, .inl g5))) (H.setIfInBounds (ad a) (vp_cell cA (n1, .inl g5))) := mj_rep_put hr ha trivial trivial (fun b => by
    show (H.setIfInBounds (ad a) (vp_cell cA (n1, .inl g5)))[ad a]? = some (vp_cell (mj_tc tys 4) (n1, .inl g5))
    simp only [mj_tc, ht, Option.map_some, Option.getD_some]
    simp [Array.getElem?_setIfInBounds, hlt]) (by simp) oq
  have hS' : va_S (mj_A z) s.heap (H.setIfInBounds (ad a) (vp_cell cA (n1, .inl g5))) (locs ++ (scr.stretch sp.toNatClampNeg w.toNatClampNeg).zipIdx.map fun q => ⟨ad a, dp.toNatClampNeg + q.2⟩) := by
    refine ⟨by simp; exact hS.1, fun q g1 g2 => ?_, fun q hq => ?_⟩
    · rw [oq q (fun e => g2 (by rw [e]; exact hA))]
      exact hS.2.1 q g1 g2
    · rcases List.mem_append.mp hq with h | h
      · exact hS.2.2 q h
      · obtain ⟨y, -, hy⟩ := List.mem_map.mp h
        rw [← hy]
        exact hA
  obtain ⟨t, a1, b1⟩ := kk _ _ k n L hl hrep hS' h1' h2' _ hheap X'
  rw [ho] at a1
  exact ⟨t, step t a1, b1⟩
theorem mj_so_ldcS {bi : Nat} (hx : p.tables.exec = Jvm.exec) (hb : c.code = cc) {own : String} (hown : s.vm.findClass own = some m.cls) (hSt : mj_St cst ad z ncs s) {j w : Nat} {tx : String} (hm : (own, j, tx, w) ∈ ncs.2.2.2.1) (hw : w ≠ 0) (hd : decode cc (off pc) = .ok (.ldc j, 2)) (ho : off (pc + 1) = off pc + 2) (kk : mj_J p l e R s m args below meth c D cl tys ad bi z nL off QQ b0 b1 (pc + 1) ls (.ref w :: r) h) : mj_J p l e R s m args below meth c D cl tys ad bi z nL off QQ b0 b1 pc ls r h := by
  intro H locs k n L hl hr hS h1 h2
  have K := kk H locs k n L hl hr hS h1 h2
  rw [ho] at K
  obtain ⟨a, g1, g2⟩ := hSt.2.2.2.2.2.1 _ hm
  have g2 := g2 hw
  have g1 : vk_R own j tx a s := g1
  rw [g2] at g1
  exact va_ldcS hx hb hown g1 hd K
theorem mj_so_sget {bi : Nat} (hx : p.tables.exec = Jvm.exec) (hb : c.code = cc) {own : String} (hown : s.vm.findClass own = some m.cls) {TS : List Cond} (hts : ∀ w ∈ TS, w.before args s = true) {a idx : Nat} {nm d : String} {v : Value} (hE : va_OF "java/lang/String" nm d (mj_tr ad v) (ad a) (mj_A z) s s.heap) (hlink : Jvm.Cond.fieldLink own idx "java/lang/String" nm d ∈ TS) (hd : decode cc (off pc) = .ok (.getfield idx, 3)) (ho : off (pc + 1) = off pc + 3) (kk : mj_J p l e R s m args below meth c D cl tys ad bi z nL off QQ b0 b1 (pc + 1) ls (v :: r) h) : mj_J p l e R s m args below meth c D cl tys ad bi z nL off QQ b0 b1 pc ls (.ref a :: r) h := by
  intro H locs k n L hl hr hS h1 h2
  have K := kk H locs k n L hl hr hS h1 h2
  rw [ho] at K
  exact vk_getf hx hb hE hS hown (hts _ hlink) (fun _ h9 => h9) hd K
end MJY
