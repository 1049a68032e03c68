section
theorem mj_at {tys : List (ClassId × FieldType)} {ad : Nat → Nat} {bi : Nat} {b : mj_B} {os : List mj_O} {a : Nat} {o : mj_O} (h : mj_nth os a = some o) : (mj_ws tys ad bi b 0 os)[a]? = some (mj_en tys ad bi b a o) := by
  have h1 := mj_ws_at (tys := tys) (ad := ad) (bi := bi) (b := b) (k := 0) h
  rw [Nat.zero_add] at h1
  exact h1
def mj_nb (o : mj_O) : Prop := match o with
  | .inr (.inr _) => False
  | _ => True
theorem mj_en_nb {tys : List (ClassId × FieldType)} {ad : Nat → Nat} {bi a : Nat} {b : mj_B} {o : mj_O} (h : mj_nb o) : (mj_en tys ad bi b a o).1 = ad a := by
  rcases o with o | o | o
  · rfl
  · rfl
  · exact h.elim
theorem mj_bd_set {b : mj_B} {os : List mj_O} {a : Nat} {o o' : mj_O} (h : mj_bd b os) (ha : mj_nth os a = some o) (ho : mj_nb o) (ho' : mj_nb o') : mj_bd b (mj_stn os a o') := by
  intro i n f hi
  rw [mj_nth_get, mj_stn_set] at hi
  rw [mj_nth_get] at ha
  have ne : i ≠ a := by
    intro e
    subst e
    rw [List.getElem?_set_self (List.getElem?_eq_some_iff.mp ha).1] at hi
    cases hi
    exact ho'.elim
  rw [List.getElem?_set_ne (fun q => ne q.symm)] at hi
  obtain ⟨h1, h2⟩ := h i n f (by rw [mj_nth_get]; exact hi)
  refine ⟨?_, h2⟩
  rw [mj_nth_get] at h1
  have ne2 : i + 1 ≠ a := by
    intro e
    subst e
    rw [ha] at h1
    cases h1
    exact ho.elim
  rw [mj_nth_get, mj_stn_set, List.getElem?_set_ne (fun q => ne2 q.symm)]
  exact h1
theorem mj_rep_put {D : va_G} {cl : List vw_C} {tys : List (ClassId × FieldType)} {ad : Nat → Nat} {bi a : Nat} {z : Nat → Prop} {h : mj_H} {H H1 : Heap} {o o' : mj_O} (hr : mj_rep D cl tys ad bi z h H) (ho : mj_nth h.1 a = some o) (hm : mj_nb o) (hn : mj_nb o') (hat : ∀ b, va_at D cl (mj_en tys ad bi b a o') H1) (hz : H1.size = H.size) (hq : ∀ q : Nat, q ≠ ad a → H1[q]? = H[q]?) : mj_rep D cl tys ad bi z (mj_set h a o') H1 := by
  obtain ⟨⟨b, hP, hD, hB⟩, hs, hvs⟩ := hr
  have he := mj_at (tys := tys) (ad := ad) (bi := bi) (b := b) ho
  have e1 : (mj_ws tys ad bi b 0 h.1).set a (mj_en tys ad bi b a o') = mj_ws tys ad bi b 0 (mj_stn h.1 a o') := by
    have := mj_ws_set (tys := tys) (ad := ad) (bi := bi) (b := b) (k := 0) (i := a) (os := h.1) (o := o')
    rw [Nat.zero_add] at this
    exact this
  have f1 : mj_en tys ad bi b a o = (ad a, (mj_en tys ad bi b a o).2) := Prod.ext (mj_en_nb hm) rfl
  have f2 : mj_en tys ad bi b a o' = (ad a, (mj_en tys ad bi b a o').2) := Prod.ext (mj_en_nb hn) rfl
  rw [f1] at he
  refine ⟨⟨b, ?_, ?_, mj_bd_set hB ho hm hn⟩, fun hop => ?_, fun q cell hq1 hq2 => ?_, fun q hq9 => hvs.2 q (by rw [← hz]; exact hq9)⟩
  · show va_P D cl (mj_ws tys ad bi b 0 (mj_stn h.1 a o')) H1
    rw [← e1, f2]
    exact hP.set hD he (by rw [← f2]; exact hat b) hq
  · show va_D (mj_A z) (mj_ws tys ad bi b 0 (mj_stn h.1 a o'))
    rw [← e1, f2]
    exact hD.set he
  · have h9 := hs hop
    show mj_nu ad (mj_stn h.1 a o').length H1
    rw [mj_stn_set, List.length_set]
    exact ⟨hz.trans h9.1, h9.2⟩
  · by_cases hqa : q = ad a
    · subst hqa
      exact mj_at_vm (hat b) (by rw [mj_en_nb hn]; exact hq2)
    · rw [hq q hqa] at hq2
      exact hvs.1 q cell hq1 hq2
theorem mj_in_A {D : va_G} {cl : List vw_C} {tys : List (ClassId × FieldType)} {ad : Nat → Nat} {bi a : Nat} {z : Nat → Prop} {h : mj_H} {H : Heap} {o : mj_O} (hr : mj_rep D cl tys ad bi z h H) (ho : mj_nth h.1 a = some o) (hm : mj_nb o) : mj_A z (ad a) := by
  obtain ⟨⟨b, hP, hD, hB⟩, hs, hvs⟩ := hr
  have := hD.2 a _ (mj_at ho)
  rw [mj_en_nb hm] at this
  exact this
theorem mj_cellA {D : va_G} {cl : List vw_C} {tys : List (ClassId × FieldType)} {ad : Nat → Nat} {bi a t : Nat} {z : Nat → Prop} {h : mj_H} {H : Heap} {x : vp_A} {cA : ClassId} {ty : FieldType} (ht : tys[t]? = some (cA, ty)) (hr : mj_rep D cl tys ad bi z h H) (ho : mj_nth h.1 a = some (.inl (t, x))) : H[ad a]? = some (vp_cell cA x) := by
  obtain ⟨⟨b, hP, hD, hB⟩, hs, hvs⟩ := hr
  have := hP a _ (mj_at ho)
  simp only [mj_en, va_at, mj_tc, ht, Option.map_some, Option.getD_some] at this
  exact this
section MJQ
variable {p : Program} {l : Launch} {e : Env} {R : Room} {s : State} {m : MethodId} {args : Array Value} {below : List Frame} {meth : Method} {c : Code}
variable {D : va_G} {cl : List vw_C} {tys : List (ClassId × FieldType)} {ad : Nat → Nat} {bi : Nat} {z : Nat → Prop} {nL : Nat} {off : Nat → Nat} {QQ : State → Prop} {b0 b1 : Nat} {cc : ByteArray} {pc : Nat} {ls : mj_L} {r : List Value} {h : mj_H}
theorem mj_so_iald (hx : p.tables.exec = Jvm.exec) (hb : c.code = cc) (hK : va_K D cl tys s) {cA : ClassId} (ht : tys[0]? = some (cA, .int)) {a w : Nat} {g : Nat → Int32} {i : Int32} (ha : mj_nth h.1 a = some (.inl (0, w, .inl g))) (hin : vp_in i w) (hd : decode cc (off pc) = .ok (.iaload, 1)) (ho : off (pc + 1) = off pc + 1) (kk : mj_J p l e R s m args below meth c D cl tys ad bi z nL off QQ b0 b1 (pc + 1) ls (.int (g i.toNatClampNeg) :: r) h) : mj_J p l e R s m args below meth c D cl tys ad bi z nL off QQ b0 b1 pc ls (.int i :: .ref a :: r) h := by
  intro H locs k n L hl hr hS h1 h2
  have K := kk H locs k n L hl hr hS h1 h2
  rw [ho] at K
  have hlt : i.toNatClampNeg < w := Nat.not_le.mp fun q => hin (Or.inr q)
  have hc := mj_cellA ht hr ha
  rw [vp_cell_i] at hc
  exact W.iald (v := .int (g i.toNatClampNeg)) hx hb hc ((hK.2 0 _ ht).1 w (fun j => .int (g j))) (fun q => by cases q) (by rw [arrV_size]; exact hin) (by rw [arrV_read _ _ hlt]) rfl rfl hd K
theorem mj_so_iast (hx : p.tables.exec = Jvm.exec) (hb : c.code = cc) (hK : va_K D cl tys s) {cA : ClassId} (ht : tys[0]? = some (cA, .int)) {a w : Nat} {g : Nat → Int32} {i : Int32} {x : Int32} (ha : mj_nth h.1 a = some (.inl (0, w, .inl g))) (hin : vp_in i w) (hd : decode cc (off pc) = .ok (.iastore, 1)) (ho : off (pc + 1) = off pc + 1) (kk : mj_J p l e R s m args below meth c D cl tys ad bi z nL off QQ b0 b1 (pc + 1) ls r (mj_set h a (.inl (0, w, .inl (upd g i.toNatClampNeg (x)))))) : mj_J p l e R s m args below meth c D cl tys ad bi z nL off QQ b0 b1 pc ls (.int x :: .int i :: .ref a :: r) h := by
  intro H locs k n L hl hr hS h1 h2
  have hc := mj_cellA ht hr ha
  rw [vp_cell_i] at hc
  refine W.iast hx hb hc ((hK.2 0 _ ht).1 w (fun j => .int (g j))) (fun q => by cases q) (by rw [arrV_size]; exact hin) rfl rfl hd fun H1 e9 z9 o9 => ?_
  have hA := mj_in_A hr ha trivial
  have hr1 : mj_rep D cl tys ad bi z (mj_set h a (.inl (0, w, .inl (upd g i.toNatClampNeg (x))))) H1 := by
    refine mj_rep_put hr ha trivial trivial (fun b => ?_) z9 o9
    show H1[ad a]? = some (vp_cell _ _)
    rw [e9, arrV_store]
    simp only [mj_tc, ht, Option.map_some, Option.getD_some]
    rw [vp_cell_i]
    congr 2
    funext q
    by_cases hq : q = i.toNatClampNeg
    · subst hq
      simp [updV, upd, vp_nar]
      try rfl
    · simp [updV, upd, hq]
  have K := kk H1 (locs ++ [⟨ad a, i.toNatClampNeg⟩]) k n L hl hr1 (hS.put z9 o9 hA) h1 h2
  rw [ho] at K
  exact K
theorem mj_so_lald (hx : p.tables.exec = Jvm.exec) (hb : c.code = cc) (hK : va_K D cl tys s) {cA : ClassId} (ht : tys[1]? = some (cA, .long)) {a w : Nat} {g : Nat → Int64} {i : Int32} (ha : mj_nth h.1 a = some (.inl (1, w, .inr (.inl g)))) (hin : vp_in i w) (hd : decode cc (off pc) = .ok (.laload, 1)) (ho : off (pc + 1) = off pc + 1) (kk : mj_J p l e R s m args below meth c D cl tys ad bi z nL off QQ b0 b1 (pc + 1) ls (.long (g i.toNatClampNeg) :: r) h) : mj_J p l e R s m args below meth c D cl tys ad bi z nL off QQ b0 b1 pc ls (.int i :: .ref a :: r) h := by
  intro H locs k n L hl hr hS h1 h2
  have K := kk H locs k n L hl hr hS h1 h2
  rw [ho] at K
  have hlt : i.toNatClampNeg < w := Nat.not_le.mp fun q => hin (Or.inr q)
  have hc := mj_cellA ht hr ha
  rw [vp_cell_l] at hc
  exact W.lald (v := .long (g i.toNatClampNeg)) hx hb hc ((hK.2 1 _ ht).1 w (fun j => .long (g j))) (fun q => by cases q) (by rw [arrV_size]; exact hin) (by rw [arrV_read _ _ hlt]) rfl rfl hd K
theorem mj_so_last (hx : p.tables.exec = Jvm.exec) (hb : c.code = cc) (hK : va_K D cl tys s) {cA : ClassId} (ht : tys[1]? = some (cA, .long)) {a w : Nat} {g : Nat → Int64} {i : Int32} {x : Int64} (ha : mj_nth h.1 a = some (.inl (1, w, .inr (.inl g)))) (hin : vp_in i w) (hd : decode cc (off pc) = .ok (.lastore, 1)) (ho : off (pc + 1) = off pc + 1) (kk : mj_J p l e R s m args below meth c D cl tys ad bi z nL off QQ b0 b1 (pc + 1) ls r (mj_set h a (.inl (1, w, .inr (.inl (vp_updL g i.toNatClampNeg (x))))))) : mj_J p l e R s m args below meth c D cl tys ad bi z nL off QQ b0 b1 pc ls (.long x :: .int i :: .ref a :: r) h := by
  intro H locs k n L hl hr hS h1 h2
  have hc := mj_cellA ht hr ha
  rw [vp_cell_l] at hc
  refine W.last hx hb hc ((hK.2 1 _ ht).1 w (fun j => .long (g j))) (fun q => by cases q) (by rw [arrV_size]; exact hin) rfl rfl hd fun H1 e9 z9 o9 => ?_
  have hA := mj_in_A hr ha trivial
  have hr1 : mj_rep D cl tys ad bi z (mj_set h a (.inl (1, w, .inr (.inl (vp_updL g i.toNatClampNeg (x)))))) H1 := by
    refine mj_rep_put hr ha trivial trivial (fun b => ?_) z9 o9
    show H1[ad a]? = some (vp_cell _ _)
    rw [e9, arrV_store]
    simp only [mj_tc, ht, Option.map_some, Option.getD_some]
    rw [vp_cell_l]
    congr 2
    funext q
    by_cases hq : q = i.toNatClampNeg
    · subst hq
      simp [updV, vp_updL, vp_nar]
      try rfl
    · simp [updV, vp_updL, hq]
  have K := kk H1 (locs ++ [⟨ad a, i.toNatClampNeg⟩]) k n L hl hr1 (hS.put z9 o9 hA) h1 h2
  rw [ho] at K
  exact K
theorem mj_so_cald (hx : p.tables.exec = Jvm.exec) (hb : c.code = cc) (hK : va_K D cl tys s) {cA : ClassId} (ht : tys[2]? = some (cA, .char)) {a w : Nat} {g : Nat → Int32} {i : Int32} (ha : mj_nth h.1 a = some (.inl (2, w, .inl g))) (hin : vp_in i w) (hd : decode cc (off pc) = .ok (.caload, 1)) (ho : off (pc + 1) = off pc + 1) (kk : mj_J p l e R s m args below meth c D cl tys ad bi z nL off QQ b0 b1 (pc + 1) ls (.int (g i.toNatClampNeg) :: r) h) : mj_J p l e R s m args below meth c D cl tys ad bi z nL off QQ b0 b1 pc ls (.int i :: .ref a :: r) h := by
  intro H locs k n L hl hr hS h1 h2
  have K := kk H locs k n L hl hr hS h1 h2
  rw [ho] at K
  have hlt : i.toNatClampNeg < w := Nat.not_le.mp fun q => hin (Or.inr q)
  have hc := mj_cellA ht hr ha
  rw [vp_cell_i] at hc
  exact W.cald (v := .int (g i.toNatClampNeg)) hx hb hc ((hK.2 2 _ ht).1 w (fun j => .int (g j))) (fun q => by cases q) (by rw [arrV_size]; exact hin) (by rw [arrV_read _ _ hlt]) rfl rfl hd K
theorem mj_so_cast (hx : p.tables.exec = Jvm.exec) (hb : c.code = cc) (hK : va_K D cl tys s) {cA : ClassId} (ht : tys[2]? = some (cA, .char)) {a w : Nat} {g : Nat → Int32} {i : Int32} {x : Int32} (ha : mj_nth h.1 a = some (.inl (2, w, .inl g))) (hin : vp_in i w) (hd : decode cc (off pc) = .ok (.castore, 1)) (ho : off (pc + 1) = off pc + 1) (kk : mj_J p l e R s m args below meth c D cl tys ad bi z nL off QQ b0 b1 (pc + 1) ls r (mj_set h a (.inl (2, w, .inl (upd g i.toNatClampNeg (vp_nar .char x)))))) : mj_J p l e R s m args below meth c D cl tys ad bi z nL off QQ b0 b1 pc ls (.int x :: .int i :: .ref a :: r) h := by
  intro H locs k n L hl hr hS h1 h2
  have hc := mj_cellA ht hr ha
  rw [vp_cell_i] at hc
  refine W.cast hx hb hc ((hK.2 2 _ ht).1 w (fun j => .int (g j))) (fun q => by cases q) (by rw [arrV_size]; exact hin) rfl rfl hd fun H1 e9 z9 o9 => ?_
  have hA := mj_in_A hr ha trivial
  have hr1 : mj_rep D cl tys ad bi z (mj_set h a (.inl (2, w, .inl (upd g i.toNatClampNeg (vp_nar .char x))))) H1 := by
    refine mj_rep_put hr ha trivial trivial (fun b => ?_) z9 o9
    show H1[ad a]? = some (vp_cell _ _)
    rw [e9, arrV_store]
    simp only [mj_tc, ht, Option.map_some, Option.getD_some]
    rw [vp_cell_i]
    congr 2
    funext q
    by_cases hq : q = i.toNatClampNeg
    · subst hq
      simp [updV, upd, vp_nar]
      try rfl
    · simp [updV, upd, hq]
  have K := kk H1 (locs ++ [⟨ad a, i.toNatClampNeg⟩]) k n L hl hr1 (hS.put z9 o9 hA) h1 h2
  rw [ho] at K
  exact K
theorem mj_so_zald (hx : p.tables.exec = Jvm.exec) (hb : c.code = cc) (hK : va_K D cl tys s) {cA : ClassId} (ht : tys[3]? = some (cA, .boolean)) {a w : Nat} {g : Nat → Int32} {i : Int32} (ha : mj_nth h.1 a = some (.inl (3, w, .inl g))) (hin : vp_in i w) (hd : decode cc (off pc) = .ok (.baload, 1)) (ho : off (pc + 1) = off pc + 1) (kk : mj_J p l e R s m args below meth c D cl tys ad bi z nL off QQ b0 b1 (pc + 1) ls (.int (g i.toNatClampNeg) :: r) h) : mj_J p l e R s m args below meth c D cl tys ad bi z nL off QQ b0 b1 pc ls (.int i :: .ref a :: r) h := by
  intro H locs k n L hl hr hS h1 h2
  have K := kk H locs k n L hl hr hS h1 h2
  rw [ho] at K
  have hlt : i.toNatClampNeg < w := Nat.not_le.mp fun q => hin (Or.inr q)
  have hc := mj_cellA ht hr ha
  rw [vp_cell_i] at hc
  exact W.zald (v := .int (g i.toNatClampNeg)) hx hb hc ((hK.2 3 _ ht).1 w (fun j => .int (g j))) (fun q => by cases q) (by rw [arrV_size]; exact hin) (by rw [arrV_read _ _ hlt]) rfl rfl hd K
theorem mj_so_zast (hx : p.tables.exec = Jvm.exec) (hb : c.code = cc) (hK : va_K D cl tys s) {cA : ClassId} (ht : tys[3]? = some (cA, .boolean)) {a w : Nat} {g : Nat → Int32} {i : Int32} {x : Int32} (ha : mj_nth h.1 a = some (.inl (3, w, .inl g))) (hin : vp_in i w) (hd : decode cc (off pc) = .ok (.bastore, 1)) (ho : off (pc + 1) = off pc + 1) (kk : mj_J p l e R s m args below meth c D cl tys ad bi z nL off QQ b0 b1 (pc + 1) ls r (mj_set h a (.inl (3, w, .inl (upd g i.toNatClampNeg (vp_nar .boolean x)))))) : mj_J p l e R s m args below meth c D cl tys ad bi z nL off QQ b0 b1 pc ls (.int x :: .int i :: .ref a :: r) h := by
  intro H locs k n L hl hr hS h1 h2
  have hc := mj_cellA ht hr ha
  rw [vp_cell_i] at hc
  refine W.zast hx hb hc ((hK.2 3 _ ht).1 w (fun j => .int (g j))) (fun q => by cases q) (by rw [arrV_size]; exact hin) rfl rfl hd fun H1 e9 z9 o9 => ?_
  have hA := mj_in_A hr ha trivial
  have hr1 : mj_rep D cl tys ad bi z (mj_set h a (.inl (3, w, .inl (upd g i.toNatClampNeg (vp_nar .boolean x))))) H1 := by
    refine mj_rep_put hr ha trivial trivial (fun b => ?_) z9 o9
    show H1[ad a]? = some (vp_cell _ _)
    rw [e9, arrV_store]
    simp only [mj_tc, ht, Option.map_some, Option.getD_some]
    rw [vp_cell_i]
    congr 2
    funext q
    by_cases hq : q = i.toNatClampNeg
    · subst hq
      simp [updV, upd, vp_nar]
      try rfl
    · simp [updV, upd, hq]
  have K := kk H1 (locs ++ [⟨ad a, i.toNatClampNeg⟩]) k n L hl hr1 (hS.put z9 o9 hA) h1 h2
  rw [ho] at K
  exact K
theorem mj_so_bald (hx : p.tables.exec = Jvm.exec) (hb : c.code = cc) (hK : va_K D cl tys s) {cA : ClassId} (ht : tys[4]? = some (cA, .byte)) {a w : Nat} {g : Nat → Int32} {i : Int32} (ha : mj_nth h.1 a = some (.inl (4, w, .inl g))) (hin : vp_in i w) (hd : decode cc (off pc) = .ok (.baload, 1)) (ho : off (pc + 1) = off pc + 1) (kk : mj_J p l e R s m args below meth c D cl tys ad bi z nL off QQ b0 b1 (pc + 1) ls (.int (g i.toNatClampNeg) :: r) h) : mj_J p l e R s m args below meth c D cl tys ad bi z nL off QQ b0 b1 pc ls (.int i :: .ref a :: r) h := by
  intro H locs k n L hl hr hS h1 h2
  have K := kk H locs k n L hl hr hS h1 h2
  rw [ho] at K
  have hlt : i.toNatClampNeg < w := Nat.not_le.mp fun q => hin (Or.inr q)
  have hc := mj_cellA ht hr ha
  rw [vp_cell_i] at hc
  exact W.bald (v := .int (g i.toNatClampNeg)) hx hb hc ((hK.2 4 _ ht).1 w (fun j => .int (g j))) (fun q => by cases q) (by rw [arrV_size]; exact hin) (by rw [arrV_read _ _ hlt]) rfl rfl hd K
theorem mj_so_bast (hx : p.tables.exec = Jvm.exec) (hb : c.code = cc) (hK : va_K D cl tys s) {cA : ClassId} (ht : tys[4]? = some (cA, .byte)) {a w : Nat} {g : Nat → Int32} {i : Int32} {x : Int32} (ha : mj_nth h.1 a = some (.inl (4, w, .inl g))) (hin : vp_in i w) (hd : decode cc (off pc) = .ok (.bastore, 1)) (ho : off (pc + 1) = off pc + 1) (kk : mj_J p l e R s m args below meth c D cl tys ad bi z nL off QQ b0 b1 (pc + 1) ls r (mj_set h a (.inl (4, w, .inl (upd g i.toNatClampNeg (vp_nar .byte x)))))) : mj_J p l e R s m args below meth c D cl tys ad bi z nL off QQ b0 b1 pc ls (.int x :: .int i :: .ref a :: r) h := by
  intro H locs k n L hl hr hS h1 h2
  have hc := mj_cellA ht hr ha
  rw [vp_cell_i] at hc
  refine W.bast hx hb hc ((hK.2 4 _ ht).1 w (fun j => .int (g j))) (fun q => by cases q) (by rw [arrV_size]; exact hin) rfl rfl hd fun H1 e9 z9 o9 => ?_
  have hA := mj_in_A hr ha trivial
  have hr1 : mj_rep D cl tys ad bi z (mj_set h a (.inl (4, w, .inl (upd g i.toNatClampNeg (vp_nar .byte x))))) H1 := by
    refine mj_rep_put hr ha trivial trivial (fun b => ?_) z9 o9
    show H1[ad a]? = some (vp_cell _ _)
    rw [e9, arrV_store]
    simp only [mj_tc, ht, Option.map_some, Option.getD_some]
    rw [vp_cell_i]
    congr 2
    funext q
    by_cases hq : q = i.toNatClampNeg
    · subst hq
      simp [updV, upd, vp_nar]
      try rfl
    · simp [updV, upd, hq]
  have K := kk H1 (locs ++ [⟨ad a, i.toNatClampNeg⟩]) k n L hl hr1 (hS.put z9 o9 hA) h1 h2
  rw [ho] at K
  exact K
theorem mj_so_alen (hx : p.tables.exec = Jvm.exec) (hb : c.code = cc) (hK : va_K D cl tys s) {cA : ClassId} {t : Nat} {ty : FieldType} (ht : tys[t]? = some (cA, ty)) {a w : Nat} {y : (Nat → Int32) ⊕ (Nat → Int64) ⊕ (Nat → UInt32) ⊕ (Nat → UInt64) ⊕ (Nat → Option Nat)} (ha : mj_nth h.1 a = some (.inl (t, w, y))) (hd : decode cc (off pc) = .ok (.arraylength, 1)) (ho : off (pc + 1) = off pc + 1) (kk : mj_J p l e R s m args below meth c D cl tys ad bi z nL off QQ b0 b1 (pc + 1) ls (.int (Int32.ofNat w) :: r) h) : mj_J p l e R s m args below meth c D cl tys ad bi z nL off QQ b0 b1 pc ls (.ref a :: r) h := by
  intro H locs k n L hl hr hS h1 h2
  have K := kk H locs k n L hl hr hS h1 h2
  rw [ho] at K
  obtain ⟨⟨b, hP, hD, hB⟩, hs, hvs⟩ := hr
  have he := mj_at (tys := tys) (ad := ad) (bi := bi) (b := b) ha
  simp only [mj_en, mj_tc, ht, Option.map_some, Option.getD_some] at he
  exact va_alen hx hb hK hP a t he ht rfl hd K
theorem mj_so_get (hx : p.tables.exec = Jvm.exec) (hb : c.code = cc) {own : String} (hown : s.vm.findClass own = some m.cls) {TS : List Cond} (hts : ∀ w ∈ TS, w.before args s = true) (hK : va_K D cl tys s) {a ci j idx N : Nat} {C : String} {T : u_T} {fs : List Value} {v : Value} (ha : mj_nth h.1 a = some (.inr (.inl (ci, fs)))) (hc : cl[ci]? = some (C, T, N)) (hj : j < N) (hlink : Jvm.Cond.fieldLink own idx (T j).1 (T j).2.1 (T j).2.2.1 ∈ TS) (hin : ∀ w ∈ u_ws C T N, w ∈ TS) (hv : mj_nth fs j = some v) (hd : decode cc (off pc) = .ok (.getfield idx, 3)) (ho : off (pc + 1) = off pc + 3) (kk : mj_J p l e R s m args below meth c D cl tys ad bi z nL off QQ b0 b1 (pc + 1) ls (v :: r) h) : mj_J p l e R s m args below meth c D cl tys ad bi z nL off QQ b0 b1 pc ls (.ref a :: r) h := by
  intro H locs k n L hl hr hS h1 h2
  have K := kk H locs k n L hl hr hS h1 h2
  rw [ho] at K
  obtain ⟨⟨b, hP, hD, hB⟩, hs, hvs⟩ := hr
  have he := mj_at (tys := tys) (ad := ad) (bi := bi) (b := b) ha
  exact va_get hx hb hts hin hown hK hP a he hc j hj (hts _ hlink) (fun _ h9 => h9) (by rw [List.getElem?_map, ← mj_nth_get, hv]; rfl) hd K
end MJQ
end
section
section MJN
variable {p : Program} {l : Launch} {e : Env} {R : Room} {s : State} {m : MethodId} {args : Array Value} {below : List Frame} {meth : Method} {c : Code}
variable {D : va_G} {cl : List vw_C} {tys : List (ClassId × FieldType)} {ad : Nat → Nat} {bi : Nat} {z : Nat → Prop} {nL : Nat} {off : Nat → Nat} {QQ : State → Prop} {b0 b1 : Nat} {cc : ByteArray} {pc : Nat} {ls : mj_L} {r : List Value} {h : mj_H}
theorem mj_so_put (hx : p.tables.exec = Jvm.exec) (hb : c.code = cc) {own : String} (hown : s.vm.findClass own = some m.cls) {TS : List Cond} (hts : ∀ w ∈ TS, w.before args s = true) (hK : va_K D cl tys s) {a ci j idx N : Nat} {C : String} {T : u_T} {fs : List Value} {v : Value} (ty0 : Nat → FieldType) (hty : ∀ k, k < N → parseFieldDescriptor (T k).2.2.1 = some (ty0 k)) (hnm : ∀ a, a < N → ∀ b, b < N → a ≠ b → (T a).2.1 ≠ (T b).2.1) (ha : mj_nth h.1 a = some (.inr (.inl (ci, fs)))) (hc : cl[ci]? = some (C, T, N)) (hj : j < N) (hlink : Jvm.Cond.fieldLink own idx (T j).1 (T j).2.1 (T j).2.2.1 ∈ TS) (hin : ∀ w ∈ u_ws C T N, w ∈ TS) (hfin : (T j).2.2.2 = false) (hn : narrow (ty0 j) (mj_tr ad v) = mj_tr ad v) (hfit : fits (ty0 j) (mj_tr ad v) = true) (hlen : j < fs.length) (hd : decode cc (off pc) = .ok (.putfield idx, 3)) (ho : off (pc + 1) = off pc + 3) (kk : mj_J p l e R s m args below meth c D cl tys ad bi z nL off QQ b0 b1 (pc + 1) ls r (mj_set h a (.inr (.inl (ci, mj_stn fs j v))))) : mj_J p l e R s m args below meth c D cl tys ad bi z nL off QQ b0 b1 pc ls (v :: .ref a :: r) h := by
  intro H locs k n L hl hr hS h1 h2
  have hA := mj_in_A hr ha trivial
  have hr0 := hr
  obtain ⟨⟨b, hP, hD, hB⟩, hs, hvs⟩ := hr
  have he := mj_at (tys := tys) (ad := ad) (bi := bi) (b := b) ha
  have hap := va_apart (own := own) hts hin ty0 hty hnm hK hc
  obtain ⟨q, g1, cell, q1, q2, q3, q4⟩ := hP a _ he
  have hq : q = (C, T, N) := Option.some.inj (g1.symm.trans hc)
  subst hq
  obtain ⟨hSl, hfc, kC, hkC, hkind⟩ := hK.1 ci _ hc
  obtain ⟨cf, kf, fi, f, hi, hsl⟩ := hSl j hj
  have hlay := hts _ (hin _ (u_in_lay hj))
  have hst := (u_facts hfc hkC (u_lays hts hin hj) hi).1
  unfold u_lay at hlay
  rw [if_neg (by rw [hfin]; decide)] at hlay
  have h6 := u_store hfc hkC hkind hlay hi (hty j hj) hn hfit
  refine W.putK hx hb (f := f) ⟨hown, hts _ hlink, ⟨_, _, _, hi⟩, hst⟩ (by rw [q2]; exact h6) q1 q3 (by rw [hsl]; exact k2_hasslot (q4 j hj)) rfl rfl hd fun H' e1 e2 e3 => ?_
  rw [hsl] at e1 ⊢
  have hr1 : mj_rep D cl tys ad bi z (mj_set h a (.inr (.inl (ci, mj_stn fs j v)))) H' := by
    refine mj_rep_put hr0 ha trivial trivial (fun b => ⟨_, hc, ?_⟩) e2 e3
    refine t_OB.to (V := updV (vp_V (fs.map (mj_tr ad))) j (mj_tr ad v)) ⟨_, e1, q2, q3, t_set q4 hap hj _⟩ (fun i _ => ?_)
    rw [vp_updV_set (by simpa using hlen), mj_stn_set, List.map_set]
  have K := kk H' (locs ++ [⟨ad a, D.2 ci j⟩]) k n L hl hr1 (hS.put e2 e3 hA) h1 h2
  rw [ho] at K
  exact K
theorem mj_so_putF (hx : p.tables.exec = Jvm.exec) (hb : c.code = cc) {own : String} (hown : s.vm.findClass own = some m.cls) {TS : List Cond} (hts : ∀ w ∈ TS, w.before args s = true) (hK : va_K D cl tys s) {a ci j idx N : Nat} {C : String} {T : u_T} {fs : List Value} {v : Value} (ty0 : Nat → FieldType) (hty : ∀ k, k < N → parseFieldDescriptor (T k).2.2.1 = some (ty0 k)) (hnm : ∀ a, a < N → ∀ b, b < N → a ≠ b → (T a).2.1 ≠ (T b).2.1) (ha : mj_nth h.1 a = some (.inr (.inl (ci, fs)))) (hc : cl[ci]? = some (C, T, N)) (hj : j < N) (hlink : Jvm.Cond.fieldLink own idx (T j).1 (T j).2.1 (T j).2.2.1 ∈ TS) (hin : ∀ w ∈ u_ws C T N, w ∈ TS) (hfin : (T j).2.2.2 = true) (hin2 : meth.name = "<init>") (hdecl : (T j).1 = own) (hn : narrow (ty0 j) (mj_tr ad v) = mj_tr ad v) (hfit : fits (ty0 j) (mj_tr ad v) = true) (hlen : j < fs.length) (hd : decode cc (off pc) = .ok (.putfield idx, 3)) (ho : off (pc + 1) = off pc + 3) (kk : mj_J p l e R s m args below meth c D cl tys ad bi z nL off QQ b0 b1 (pc + 1) ls r (mj_set h a (.inr (.inl (ci, mj_stn fs j v))))) : mj_J p l e R s m args below meth c D cl tys ad bi z nL off QQ b0 b1 pc ls (v :: .ref a :: r) h := by
  intro H locs k n L hl hr hS h1 h2
  have hA := mj_in_A hr ha trivial
  have hr0 := hr
  obtain ⟨⟨b, hP, hD, hB⟩, hs, hvs⟩ := hr
  have he := mj_at (tys := tys) (ad := ad) (bi := bi) (b := b) ha
  have hap := va_apart (own := own) hts hin ty0 hty hnm hK hc
  obtain ⟨q, g1, cell, q1, q2, q3, q4⟩ := hP a _ he
  have hq : q = (C, T, N) := Option.some.inj (g1.symm.trans hc)
  subst hq
  obtain ⟨hSl, hfc, kC, hkC, hkind⟩ := hK.1 ci _ hc
  obtain ⟨cf, kf, fi, f, hi, hsl⟩ := hSl j hj
  have hlay := hts _ (hin _ (u_in_lay hj))
  have hst := (u_facts hfc hkC (u_lays hts hin hj) hi).1
  unfold u_lay at hlay
  rw [if_pos hfin] at hlay
  have hcf : m.cls = cf := by
    obtain ⟨_, _, c', _, _, _, -, -, hf', -, -, -, hown2, -⟩ := Cond.laysFinal_spec hlay
    have e1 : c' = cf := by have := hi.symm.trans hf'; simp at this; exact this.1.symm
    rw [hdecl] at hown2
    rw [← e1]
    exact Option.some.inj (hown.symm.trans hown2)
  have h6 := u_fits hfc hkC hkind (Or.inr hlay) hi (hty j hj) hn hfit
  refine W.putFinK hx hb hown (hts _ hlink) hi hst hcf hin2 (by rw [q2]; exact h6) q1 q3 (by rw [hsl]; exact k2_hasslot (q4 j hj)) rfl rfl hd fun H' e1 e2 e3 => ?_
  rw [hsl] at e1 ⊢
  have hr1 : mj_rep D cl tys ad bi z (mj_set h a (.inr (.inl (ci, mj_stn fs j v)))) H' := by
    refine mj_rep_put hr0 ha trivial trivial (fun b => ⟨_, hc, ?_⟩) e2 e3
    refine t_OB.to (V := updV (vp_V (fs.map (mj_tr ad))) j (mj_tr ad v)) ⟨_, e1, q2, q3, t_set q4 hap hj _⟩ (fun i _ => ?_)
    rw [vp_updV_set (by simpa using hlen), mj_stn_set, List.map_set]
  have K := kk H' (locs ++ [⟨ad a, D.2 ci j⟩]) k n L hl hr1 (hS.put e2 e3 hA) h1 h2
  rw [ho] at K
  exact K
theorem mj_bd_app {b : mj_B} {os : List mj_O} {o : mj_O} (h : mj_bd b os) (ho : mj_nb o) : mj_bd b (os ++ [o]) := by
  intro i n f hi
  rw [mj_nth_get] at hi
  have hl : i < os.length := by
    rcases Nat.lt_or_ge i os.length with q | q
    · exact q
    · rw [List.getElem?_append_right q] at hi
      have : i - os.length = 0 := by
        have := (List.getElem?_eq_some_iff.mp hi).1
        simpa using this
      rw [this] at hi
      simp only [List.getElem?_cons_zero, Option.some.injEq] at hi
      subst hi
      exact ho.elim
  rw [List.getElem?_append_left hl] at hi
  obtain ⟨g1, g2⟩ := h i n f (by rw [mj_nth_get]; exact hi)
  refine ⟨?_, g2⟩
  rw [mj_nth_get] at g1 ⊢
  rw [List.getElem?_append_left (List.getElem?_eq_some_iff.mp g1).1]
  exact g1
theorem mj_rep_new {os : List mj_O} {k0 k1 k2 k3 : Nat} {o : mj_O} {H H1 : Heap} (had : True) (hlt : os.length < 999) (hr : mj_rep D cl tys ad bi z (os, k0, k1, true) H) (hn : mj_nb o) (hat : ∀ b, va_at D cl (mj_en tys ad bi b os.length o) H1) (hz : H1.size = H.size + 1) (hq : ∀ q : Nat, q < H.size → H1[q]? = H[q]?) : mj_rep D cl tys ad bi z (os ++ [o], k2, k3, true) H1 ∧ ad os.length = H.size := by
  obtain ⟨⟨b, hP, hD, hB⟩, hs, hvs⟩ := hr
  have hsz : H.size = ad os.length := (hs rfl).1
  have hadd : ad os.length = H.size := hsz.symm
  have e1 : mj_ws tys ad bi b 0 (os ++ [o]) = mj_ws tys ad bi b 0 os ++ [(ad os.length, (mj_en tys ad bi b os.length o).2)] := by
    rw [mj_ws_app, Nat.zero_add]
    congr 2
    exact Prod.ext (mj_en_nb hn) rfl
  refine ⟨⟨⟨b, ?_, ?_, mj_bd_app hB hn⟩, fun _ => ?_, fun q cell hq1 hq2 => ?_, fun q hq9 => hvs.2 q (by omega)⟩, hadd⟩
  · show va_P D cl (mj_ws tys ad bi b 0 (os ++ [o])) H1
    rw [e1]
    refine (hP.kept fun k x hx => hq x.1 (hP k x hx).lt).app (fun k x hx => ?_)
    have hz : k < 1 := (List.getElem?_eq_some_iff.mp hx).1
    rw [show k = 0 by omega] at hx
    cases hx
    have := hat b
    rw [show mj_en tys ad bi b os.length o = (ad os.length, (mj_en tys ad bi b os.length o).2) from Prod.ext (mj_en_nb hn) rfl] at this
    exact this
  · show va_D (mj_A z) (mj_ws tys ad bi b 0 (os ++ [o]))
    rw [e1]
    exact hD.push hP hadd (by show z (ad os.length); rw [hadd]; exact hvs.2 _ (Nat.le_refl _))
  · show mj_nu ad (os ++ [o]).length H1
    have h9 := (hs rfl).2
    rw [List.length_append, List.length_singleton]
    refine ⟨?_, fun i hi => h9 i (Nat.le_trans (Nat.le_succ _) hi)⟩
    rw [hz, hsz]
    exact (h9 os.length (Nat.le_refl _) hlt).symm
  · rcases Nat.lt_or_ge q H.size with g | g
    · rw [hq q g] at hq2
      exact hvs.1 q cell hq1 hq2
    · have hlt2 : q < H1.size := (Array.getElem?_eq_some_iff.mp hq2).1
      have e9 : q = ad os.length := by rw [hadd]; omega
      subst e9
      exact mj_at_vm (hat b) (by rw [mj_en_nb hn]; exact hq2)
theorem mj_so_new (hx : p.tables.exec = Jvm.exec) (hb : c.code = cc) (had : True) {own : String} (hown : s.vm.findClass own = some m.cls) {TS : List Cond} (hts : ∀ w ∈ TS, w.before args s = true) (hK : va_K D cl tys s) (hR : R.cells = b0 ∧ R.slots = b1) {ci idx N : Nat} {C : String} {T : u_T} {fs : List Value} {os : List mj_O} {k0 k1 : Nat} (ty0 : Nat → FieldType) (hty : ∀ k, k < N → parseFieldDescriptor (T k).2.2.1 = some (ty0 k)) (hc : cl[ci]? = some (C, T, N)) (hcl : Jvm.Cond.classLink own idx C ∈ TS) (hins : Jvm.Cond.instantiable C N ∈ TS) (hini : Jvm.Cond.initialized C ∈ TS) (hin : ∀ w ∈ u_ws C T N, w ∈ TS) (hfs : ∀ j, j < N → defaultValue (ty0 j) = vp_V (fs.map (mj_tr ad)) j) (hN : fs.length = N) (hlt : os.length < 999) (hsl : fs.length ≤ k1) (hd : decode cc (off pc) = .ok (.new idx, 3)) (ho : off (pc + 1) = off pc + 3) (kk : mj_J p l e R s m args below meth c D cl tys ad bi z nL off QQ b0 b1 (pc + 1) ls (.ref os.length :: r) (os ++ [.inr (.inl (ci, fs))], k0, k1 - fs.length, true)) : mj_J p l e R s m args below meth c D cl tys ad bi z nL off QQ b0 b1 pc ls r (os, k0 + 1, k1, true) := by
  intro H locs k n L hl hr hS h1 h2
  have h1' : k + (k0 + 1) ≤ b0 := h1
  have h2' : n + k1 ≤ b1 := h2
  have hKn := hK.1 ci _ hc
  refine W.newcK hx hb hown (hts _ hcl) (hts _ hins) (hts _ hini) rfl hd (by rw [hR.1]; omega) (by rw [hR.2]; omega) hKn.2.1 rfl fun H1 kC hkC e1 z1 o1 => ?_
  obtain ⟨hr1, hadd⟩ := mj_rep_new (o := .inr (.inl (ci, fs))) (k2 := k0) (k3 := k1 - fs.length) had hlt hr trivial (fun b => ⟨_, hc, by
    have := (u_born ty0 hts hin hKn hkC e1 hty).to hfs
    have hsz : H.size = ad os.length := (hr.2.1 rfl).1
    show t_OB (ad os.length) (D.1 ci) N (D.2 ci) H1 (vp_V (fs.map (mj_tr ad)))
    rw [← hsz]
    exact this⟩) z1 o1
  have K := kk H1 locs (k + 1) (n + N) L hl hr1 ⟨Nat.le_trans hS.1 (by omega), fun x g1 g2 => (o1 x (Nat.lt_of_lt_of_le g1 hS.1)).trans (hS.2.1 x g1 g2), hS.2.2⟩ (by show k + 1 + k0 ≤ b0; omega) (by show n + N + (k1 - fs.length) ≤ b1; omega)
  rw [ho] at K
  simp only [List.map_cons, mj_tr, hadd] at K
  exact K
theorem mj_so_newa (hx : p.tables.exec = Jvm.exec) (hb : c.code = cc) (had : True) (hK : va_K D cl tys s) (hR : R.cells = b0 ∧ R.slots = b1) {TS : List Cond} (hts : ∀ w ∈ TS, w.before args s = true) {at_ : ArrayType} {t : Nat} {cA : ClassId} {ty : FieldType} (hty : newarray.typeOf at_ = ty) (harr : Jvm.Cond.arrayClass ty ∈ TS) (ht : tys[t]? = some (cA, ty)) (hpr : va_RA s cA ty = (s.vm.findClass ("[" ++ ty.toString) = some cA)) {w : Int32} {a0 : vp_A} {os : List mj_O} {k0 k1 : Nat} (ha : ∀ cA : ClassId, vp_cell cA a0 = arrV cA w.toNatClampNeg (fun _ => defaultValue ty)) (hn : ¬ w < 0) (hw : w.toNatClampNeg ≤ 2000) (hcb : componentBytes ty ≤ 8) (hlt : os.length < 999) (hsl : w.toNatClampNeg ≤ k1) (hd : decode cc (off pc) = .ok (.newarray at_, 2)) (ho : off (pc + 1) = off pc + 2) (kk : mj_J p l e R s m args below meth c D cl tys ad bi z nL off QQ b0 b1 (pc + 1) ls (.ref os.length :: r) (os ++ [.inl (t, a0)], k0, k1 - w.toNatClampNeg, true)) : mj_J p l e R s m args below meth c D cl tys ad bi z nL off QQ b0 b1 pc ls (.int w :: r) (os, k0 + 1, k1, true) := by
  intro H locs k n L hl hr hS h1 h2
  have h1' : k + (k0 + 1) ≤ b0 := h1
  have h2' : n + k1 ≤ b1 := h2
  subst hty
  have hbytes : w.toNatClampNeg * componentBytes (newarray.typeOf at_) ≤ 536870912 := by
    have := Nat.mul_le_mul hw hcb
    omega
  refine va_newaK hx hb (hts _ harr) rfl hd rfl hn rfl hbytes (by rw [hR.1]; omega) (by rw [hR.2]; omega) rfl fun H1 cB e1 z1 o1 hAr hNm => ?_
  have hcc : cB = cA := by
    have h3 := (hK.2 t _ ht).2
    rw [hpr] at h3
    exact Option.some.inj (hNm.symm.trans h3)
  subst hcc
  have hsz : H.size = ad os.length := (hr.2.1 rfl).1
  obtain ⟨hr1, hadd⟩ := mj_rep_new (o := .inl (t, a0)) (k2 := k0) (k3 := k1 - w.toNatClampNeg) had hlt hr trivial (fun b => by
    show H1[ad os.length]? = some (vp_cell (mj_tc tys t) a0)
    simp only [mj_tc, ht, Option.map_some, Option.getD_some]
    rw [ha, ← hsz]
    exact e1) z1 o1
  have K := kk H1 locs (k + 1) (n + w.toNatClampNeg) L hl hr1 ⟨Nat.le_trans hS.1 (by omega), fun x g1 g2 => (o1 x (Nat.lt_of_lt_of_le g1 hS.1)).trans (hS.2.1 x g1 g2), hS.2.2⟩ (by show k + 1 + k0 ≤ b0; omega) (by show n + w.toNatClampNeg + (k1 - w.toNatClampNeg) ≤ b1; omega)
  rw [ho] at K
  simp only [List.map_cons, mj_tr, hadd] at K
  exact K
theorem mj_so_cald0 (hx : p.tables.exec = Jvm.exec) (hb : c.code = cc) {a w : Nat} {g : Nat → Int32} {i : Int32} (hT : va_T .int (ad a) w (fun j => .int (g j)) (mj_A z) s s.heap) (hin : vp_in i w) (hd : decode cc (off pc) = .ok (.iaload, 1)) (ho : off (pc + 1) = off pc + 1) (kk : mj_J p l e R s m args below meth c D cl tys ad bi z nL off QQ b0 b1 (pc + 1) ls (.int (g i.toNatClampNeg) :: r) h) : mj_J p l e R s m args below meth c D cl tys ad bi z nL off QQ b0 b1 pc ls (.int i :: .ref a :: r) h := by
  intro H locs k n L hl hr hS h1 h2
  have K := kk H locs k n L hl hr hS h1 h2
  rw [ho] at K
  exact va_ti hx hb hT hS hin rfl hd K
theorem mj_so_cbld (hx : p.tables.exec = Jvm.exec) (hb : c.code = cc) {a w : Nat} {g : Nat → Int32} {i : Int32} (hT : va_T .byte (ad a) w (fun j => .int (g j)) (mj_A z) s s.heap) (hin : vp_in i w) (hd : decode cc (off pc) = .ok (.baload, 1)) (ho : off (pc + 1) = off pc + 1) (kk : mj_J p l e R s m args below meth c D cl tys ad bi z nL off QQ b0 b1 (pc + 1) ls (.int (g i.toNatClampNeg) :: r) h) : mj_J p l e R s m args below meth c D cl tys ad bi z nL off QQ b0 b1 pc ls (.int i :: .ref a :: r) h := by
  intro H locs k n L hl hr hS h1 h2
  have K := kk H locs k n L hl hr hS h1 h2
  rw [ho] at K
  exact va_tb hx hb hT hS hin rfl hd K
theorem mj_so_clen0 (hx : p.tables.exec = Jvm.exec) (hb : c.code = cc) {a w : Nat} {g : Nat → Int32} {ty : FieldType} (hT : va_T ty (ad a) w (fun j => .int (g j)) (mj_A z) s s.heap) (hd : decode cc (off pc) = .ok (.arraylength, 1)) (ho : off (pc + 1) = off pc + 1) (kk : mj_J p l e R s m args below meth c D cl tys ad bi z nL off QQ b0 b1 (pc + 1) ls (.int (Int32.ofNat w) :: r) h) : mj_J p l e R s m args below meth c D cl tys ad bi z nL off QQ b0 b1 pc ls (.ref a :: r) h := by
  intro H locs k n L hl hr hS h1 h2
  have K := kk H locs k n L hl hr hS h1 h2
  rw [ho] at K
  exact va_tlen hx hb hT hS rfl hd K
theorem mj_so_obj (hx : p.tables.exec = Jvm.exec) (hb : c.code = cc) {own : String} (hown : s.vm.findClass own = some m.cls) {TS : List Cond} (hts : ∀ w ∈ TS, w.before args s = true) (hml : c.maxLocals = nL) {idx : Nat} {a : Nat} (h1 : Jvm.Cond.methodLink own idx objectInit ∈ TS) (h2 : Jvm.Cond.instanceMethod objectInit ∈ TS) (h3 : Jvm.Cond.code objectInit ⟨#[0xb1]⟩ 1 none ∈ TS) (hf : 1 ≤ R.frames) (hw : mj_wt r + 12 ≤ R.locals) (hd : decode cc (off pc) = .ok (.invokespecial idx, 3)) (ho : off (pc + 1) = off pc + 3) (kk : mj_J p l e R s m args below meth c D cl tys ad bi z nL off QQ b0 b1 (pc + 1) ls r h) : mj_J p l e R s m args below meth c D cl tys ad bi z nL off QQ b0 b1 pc ls (.ref a :: r) h := by
  intro H locs k n L hl hr hS g1 g2
  have K := kk H locs k n L hl hr hS g1 g2
  rw [ho] at K
  refine W.objInit hx hb hown (hts _ h1) (hts _ h2) (hts _ h3) rfl (by rw [hml]; exact hl.1) rfl hd hf ?_ K
  have := mj_wt_tr ad r
  unfold mj_wt at this hw
  show 2 * 0 + _ + 12 ≤ R.locals
  rw [this]
  omega
end MJN
end
section
section MJC
variable {p : Program} {l : Launch} {e : Env} {R : Room} {s : State} {m : MethodId} {args : Array Value} {below : List Frame} {meth : Method} {c : Code}
def mj_cd (y : MethodName) (bytes : ByteArray) (maxL : Nat) (ret : Option FieldType) (hh : List (Nat × Nat × Nat × Nat)) : Cond := if hh = [] then .code y bytes maxL ret else .codeWith y bytes maxL ret hh
theorem mj_cd_or {y : MethodName} {bytes : ByteArray} {maxL : Nat} {ret : Option FieldType} {hh : List (Nat × Nat × Nat × Nat)} {a : Array Value} {U : State} (h : (mj_cd y bytes maxL ret hh).before a U = true) : (Cond.code y bytes maxL ret).before a U = true ∨ (Cond.codeWith y bytes maxL ret hh).before a U = true := by
  unfold mj_cd at h
  split at h
  · exact Or.inl h
  · exact Or.inr h
theorem mj_sig {y : MethodName} {bytes : ByteArray} {maxL : Nat} {ret : Option FieldType} {hh : List (Nat × Nat × Nat × Nat)} {a : Array Value} {U : State} {mk : MethodId} (hn : U.methodNamed? y = some mk) (h : (mj_cd y bytes maxL ret hh).before a U = true) : ∃ methM, U.vm.method? mk = some methM ∧ parseMethodDescriptor y.desc = some methM.sig := by
  rcases mj_cd_or h with h | h
  · obtain ⟨methM, cM, h1, -, -, -, -, -, -, h2⟩ := Cond.code_spec hn h
    exact ⟨methM, h1, h2⟩
  · obtain ⟨m9, methM, cM, hn9, h1, -, -, -, -, -, -, h2⟩ := Cond.codeWith_spec h
    cases hn.symm.trans hn9
    exact ⟨methM, h1, h2⟩
theorem mj_named {y : MethodName} {bytes : ByteArray} {maxL : Nat} {ret : Option FieldType} {hh : List (Nat × Nat × Nat × Nat)} {a : Array Value} {U : State} (h : (mj_cd y bytes maxL ret hh).before a U = true) : ∃ mk, U.methodNamed? y = some mk := by
  rcases mj_cd_or h with h | h
  · exact Cond.code_named h
  · obtain ⟨m9, methM, cM, hn9, -⟩ := Cond.codeWith_spec h
    exact ⟨m9, hn9⟩
def mj_Inv (p : Program) (l : Launch) (e : Env) (R : Room) (s : State) (m : MethodId) (args : Array Value) (below : List Frame) (meth : Method) (c : Code) (T : State) (locs : List Loc) (k n : Nat) (g : JFrame) (rest : List Value) (y : MethodName) (a : Array Value) : Prop :=
  ∃ (vm₁ : Vm) (mk : MethodId), s.WarmedH vm₁ ∧ Stand p l e R s m args below meth c (T.setVm vm₁) locs k n ∧ (T.setVm vm₁).methodNamed? y = some mk ∧
    ∀ target, Steps p.tables e below (doInvoke e ((T.setVm vm₁).setTop { g with stack := rest }) [] mk a).1 target → Steps p.tables e below (T.setTop g) target
variable {T : State} {locs : List Loc} {k n : Nat}
theorem mj_invS (X : Stand p l e R s m args below meth c T locs k n) (hexec : p.tables.exec = Jvm.exec) {own : String} {index maxL : Nat} {y : MethodName} {bytes : ByteArray} {ret : Option FieldType} {hh : List (Nat × Nat × Nat × Nat)}
    (hown : s.vm.findClass own = some m.cls) (hlink : (Cond.methodLink own index y).before args s = true) (hstat : (Cond.static y).before args s = true) (hinit : (Cond.initialized y.cls).before args s = true) (hcode : (mj_cd y bytes maxL ret hh).before args s = true) (hy : y.cls ≠ "java/lang/invoke/MethodHandle" ∧ y.cls ≠ "java/lang/invoke/VarHandle")
    {g : JFrame} (hg : g.method = m) {As rest : List Value} (hlen : (parseMethodDescriptor y.desc).map (fun d => d.parameters.length) = some As.length) (hstack : g.stack = As.reverse ++ rest) (hdg : decode c.code g.pc = .ok (.invokestatic index, 3)) : mj_Inv p l e R s m args below meth c T locs k n g rest y As.toArray := by
  obtain ⟨mk, hnamed⟩ := mj_named hcode
  obtain ⟨methM, hmethM, hsigM⟩ := mj_sig hnamed hcode
  have hstatic : methM.isStatic = true := Cond.static_spec hnamed hmethM hstat
  obtain ⟨kP, hkP, -⟩ := className_of_methodNamed hnamed
  have hinitP : kP.init = .initialized := Cond.initialized_spec (findClass_of_methodNamed hnamed) hkP hinit
  have hl : As.length = methM.sig.parameters.length := by rw [hsigM] at hlen; exact (Option.some.inj hlen).symm
  obtain ⟨vm₁, X₁, hstep₁⟩ := X.invokestatic hexec hown hlink hnamed hmethM hstatic hkP hinitP hy (g := g) hg (argsL := As) (rest := rest) hl hstack hdg
  exact ⟨vm₁, mk, X₁.warmed, X₁, X₁.named hnamed, fun target h => hstep₁ _ fun acts => by rw [doInvoke_state]; exact h⟩
theorem mj_invV (X : Stand p l e R s m args below meth c T locs k n) (hexec : p.tables.exec = Jvm.exec) {own C : String} {index maxL : Nat} {y : MethodName} {bytes : ByteArray} {ret : Option FieldType} {hh : List (Nat × Nat × Nat × Nat)}
    (hown : s.vm.findClass own = some m.cls) (hlink : (Cond.methodLink own index y).before args s = true) (hinst : (Cond.instanceMethod y).before args s = true) (hsel : (Cond.selects C y y).before args s = true) (hcode : (mj_cd y bytes maxL ret hh).before args s = true) (hy : y.cls ≠ "java/lang/invoke/MethodHandle" ∧ y.cls ≠ "java/lang/invoke/VarHandle")
    {b : Addr} {cellB : Cell} (hcell : T.heap[b]? = some cellB) (hobj : cellB.vm.isStatics = false) (hcls : s.vm.findClass C = some cellB.cls)
    {g : JFrame} (hg : g.method = m) {As rest : List Value} (hlen : (parseMethodDescriptor y.desc).map (fun d => d.parameters.length) = some As.length) (hstack : g.stack = As.reverse ++ .ref b :: rest) (hdg : decode c.code g.pc = .ok (.invokevirtual index, 3)) : mj_Inv p l e R s m args below meth c T locs k n g rest y (Value.ref b :: As).toArray := by
  obtain ⟨mk, methM, hnamed, hmethM, hstM, habM⟩ := Cond.instanceMethod_spec hinst
  obtain ⟨methM', hmethM', hsigM⟩ := mj_sig hnamed hcode
  cases hmethM.symm.trans hmethM'
  obtain ⟨c2, r2, m2, q1, q2, q3, q4, kP, hkP, hkPi⟩ := Cond.selects_spec hsel
  cases hcls.symm.trans q1
  cases (State.methodFound?_of_named hnamed hy).symm.trans q2
  cases hnamed.symm.trans q3
  have hselP : selectMethod e.platform s.vm cellB.cls mk = .method mk := by rw [Launch.admits_selectMethod X.admits]; exact q4
  have hl : As.length = methM.sig.parameters.length := by rw [hsigM] at hlen; exact (Option.some.inj hlen).symm
  obtain ⟨vm₁, X₁, hstep₁⟩ := X.invokevirtual hexec hown hlink hnamed hmethM hstM hkP hkPi hy (a := b) (cell := cellB) hcell
    (fun z h => by rw [h] at hobj; cases hobj) hselP hmethM habM hkP hkPi (g := g) hg (argsL := As) (rest := rest) hl hstack hdg
  exact ⟨vm₁, mk, X₁.warmed, X₁, X₁.named hnamed, fun target h => hstep₁ _ fun acts => by rw [doInvoke_state]; exact h⟩
theorem mj_invI (X : Stand p l e R s m args below meth c T locs k n) (hexec : p.tables.exec = Jvm.exec) {own : String} {index maxL : Nat} {y : MethodName} {bytes : ByteArray}
    (hown : s.vm.findClass own = some m.cls) (hy1 : y.name = "<init>") (hlink : (Cond.methodLink own index y).before args s = true) (hinst : (Cond.instanceMethod y).before args s = true) (hcode : (Cond.code y bytes maxL none).before args s = true) (hy : y.cls ≠ "java/lang/invoke/MethodHandle" ∧ y.cls ≠ "java/lang/invoke/VarHandle")
    {g : JFrame} (hg : g.method = m) {b : Addr} {As rest : List Value} (hlen : (parseMethodDescriptor y.desc).map (fun d => d.parameters.length) = some As.length) (hstack : g.stack = As.reverse ++ .ref b :: rest) (hdg : decode c.code g.pc = .ok (.invokespecial index, 3)) : mj_Inv p l e R s m args below meth c T locs k n g rest y (Value.ref b :: As).toArray := by
  subst hg
  have hpl : e.platform.magicAccessors = ({} : Platform).magicAccessors := by rw [X.admits.platform]
  obtain ⟨mk, methM, cM, kP, vm₁, hnamed, hmethM, hcodeM, -, hlocalsM, -, hkP, -, hW₁, hstep₁⟩ := Steps.initColdArgs (e := e) X.here hexec X.warmed hpl hown hy1 hy hlink hinst hcode (f := g) rfl (fun sig h => by rw [h] at hlen; exact (Option.some.inj hlen).symm) hstack hdg
  have X₁ := X.noted hW₁
  exact ⟨vm₁, mk, X₁.warmed, X₁, X₁.named hnamed, fun target h => hstep₁ _ fun acts => by rw [doInvoke_state]; exact h⟩
theorem mj_invU (X : Stand p l e R s m args below meth c T locs k n) (hexec : p.tables.exec = Jvm.exec) {own : String} {index maxL : Nat} {y : MethodName} {bytes : ByteArray} {ret : Option FieldType} {hh : List (Nat × Nat × Nat × Nat)}
    (hown : s.vm.findClass own = some m.cls) (hlink : (Cond.methodLink own index y).before args s = true) (hsame : (Cond.sameMethod y.cls y.cls y.name y.desc).before args s = true) (hsup : (Cond.superclass own y.cls).before args s = true) (hinst : (Cond.instanceMethod y).before args s = true) (hcode : (mj_cd y bytes maxL ret hh).before args s = true) (hno : y.name ≠ "<init>")
    {b : Addr} {cellB : Cell} {kB : Class} (hcell : T.heap[b]? = some cellB) (hobj : cellB.vm.isStatics = false) (hkB : s.vm.classes[cellB.cls]? = some kB)
    {g : JFrame} (hg : g.method = m) {As rest : List Value} (hlen : (parseMethodDescriptor y.desc).map (fun d => d.parameters.length) = some As.length) (hstack : g.stack = As.reverse ++ .ref b :: rest) (hdg : decode c.code g.pc = .ok (.invokespecial index, 3)) : mj_Inv p l e R s m args below meth c T locs k n g rest y (Value.ref b :: As).toArray := by
  obtain ⟨mk, methM, hnamed, hmethM, hstM, habM⟩ := Cond.instanceMethod_spec hinst
  obtain ⟨methM', hmethM', hsigM⟩ := mj_sig hnamed hcode
  cases hmethM.symm.trans hmethM'
  have hl : As.length = methM.sig.parameters.length := by rw [hsigM] at hlen; exact (Option.some.inj hlen).symm
  obtain ⟨ps, dk, kp, hps, hdk, hkp, hsuper, -, -, hnid⟩ := Cond.superclass_spec hown hsup
  have hpm : ps = mk.cls := Option.some.inj (hps.symm.trans (findClass_of_methodNamed hnamed))
  have hsub : s.vm.isSubclass ps mk.cls = true := by rw [hpm]; simp [Vm.isSubclass, Vm.isSubclassAux]
  obtain ⟨vm₁, X₁, hstep₁⟩ := X.invokespecialUp hexec hown hlink hsame (show s.methodNamed? ⟨y.cls, y.name, y.desc⟩ = some mk from hnamed) hmethM hstM habM hno hdk hnid hps hsuper hsub (a := b) (cell := cellB) hcell
    (fun z h => by rw [h] at hobj; cases hobj) hkB (g := g) hg (argsL := As) (rest := rest) hl hstack hdg
  exact ⟨vm₁, mk, X₁.warmed, X₁, X₁.named hnamed, fun target h => hstep₁ _ (by rw [doInvoke_state]; exact h)⟩
end MJC
end
section
section MJH
theorem mj_fh {Q : Handler → Pre} {E : CtlPost} {e : Env} {d : Bool} {acts : List Action} {s : State} {f : JFrame} {a : Addr} {x : ExceptionTableEntry} {t : List ExceptionTableEntry} {cT : ClassId} {cell : Cell} (hx : covers x f.pc = true) (h0 : x.catchType ≠ 0)
    (hl : s.vm.ClassLinks e.platform f.method.cls x.catchType cT) (hcell : s.heap[a]? = some cell) (hobj : ∀ k, cell.vm ≠ .statics k)
    (hk : ∃ k, s.vm.classes[cell.cls]? = some k) (hc : ∃ k, s.vm.classes[cT]? = some k) :
    wp (findHandler.go f a (x :: t)) Q E e d acts s ↔ (if s.vm.assignable cell.cls cT = true then Q (.found x.handlerPc) d acts (s.setVm (s.vm.noted f.method.cls x.catchType (.cls cT))) else wp (findHandler.go f a t) Q E e d acts (s.setVm (s.vm.noted f.method.cls x.catchType (.cls cT)))) := by
  have hal : s.vm.Alike (s.vm.noted f.method.cls x.catchType (.cls cT)) := (Vm.Alike.refl s.vm).noted _ _ _
  obtain ⟨ha, ht⟩ := (resolveClass_links e.toSetting hl).op (op := VmOp.resolveClass f.method.cls x.catchType) rfl
  obtain ⟨u, hu⟩ := hk
  obtain ⟨v, hv⟩ := hc
  obtain ⟨u', hu', -⟩ := hal.2.2 _ _ hu
  obtain ⟨v', hv', -⟩ := hal.2.2 _ _ hv
  have e1 : (s.vm.noted f.method.cls x.catchType (.cls cT)).assignable cell.cls cT = s.vm.assignable cell.cls cT := hal.assignable ..
  simp only [covers] at hx
  by_cases hf : s.vm.assignable cell.cls cT = true
  · rw [if_pos hf]
    simp [findHandler.go, hx, h0, ha, ht, hcell, hobj, hu', hv', e1, hf, VmOp.dirties, VmOp.acts]
  · rw [if_neg hf]
    have hf' : s.vm.assignable cell.cls cT = false := by simpa using hf
    simp [findHandler.go, hx, h0, ha, ht, hcell, hobj, hu', hv', e1, hf', VmOp.dirties, VmOp.acts]
def mj_pass (pl : Platform) (s : State) (d : ClassId) (pc : Nat) (th : ClassId) (y : ExceptionTableEntry) : Prop := covers y pc = false ∨ (y.catchType ≠ 0 ∧ ∃ cT, s.vm.ClassLinks pl d y.catchType cT ∧ s.vm.assignable th cT = false)
theorem mj_search {e : Env} {s : State} {f : JFrame} {a : Addr} {cell : Cell} (hobj : ∀ k, cell.vm ≠ .statics k) (hk0 : ∃ k, s.vm.classes[cell.cls]? = some k) {x : ExceptionTableEntry} {rest : List ExceptionTableEntry} {cT : ClassId} (hx : covers x f.pc = true) (h0 : x.catchType ≠ 0) (hl : s.vm.ClassLinks e.platform f.method.cls x.catchType cT) (hfit : s.vm.assignable cell.cls cT = true) (pre : List ExceptionTableEntry) :
    ∀ S : State, s.WarmedH S.vm → S.heap[a]? = some cell → (∀ y ∈ pre, mj_pass e.platform s f.method.cls f.pc cell.cls y) → ∃ vm', s.WarmedH vm' ∧ ∀ (Q : Handler → Pre) (E : CtlPost) (d : Bool) (acts : List Action), wp (findHandler.go f a (pre ++ x :: rest)) Q E e d acts S ↔ Q (.found x.handlerPc) d acts (S.setVm vm') := by
  obtain ⟨k0, hk0⟩ := hk0
  induction pre with
  | nil =>
    intro S hW hcell _
    obtain ⟨k1, hk1, -⟩ := hW.alike.2.2 _ _ hk0
    obtain ⟨dk, _, _, kt, hd, _, _, _, _, hkt, _, hopen⟩ := hl.here
    obtain ⟨k2, hk2, -⟩ := hW.alike.2.2 _ _ hkt
    refine ⟨_, hW.noted hd hopen (State.rightAt_cls hl), fun Q E d acts => ?_⟩
    rw [List.nil_append, mj_fh hx h0 (hW.classLinks hl) hcell hobj ⟨k1, hk1⟩ ⟨k2, hk2⟩, if_pos (by rw [hW.alike.assignable]; exact hfit)]
  | cons y ys ih =>
    intro S hW hcell hp
    have hp' : ∀ z ∈ ys, mj_pass e.platform s f.method.cls f.pc cell.cls z := fun z hz => hp z (List.mem_cons_of_mem _ hz)
    rcases hp y List.mem_cons_self with h | ⟨g0, cY, gl, gno⟩
    · obtain ⟨vm', h1, h2⟩ := ih S hW hcell hp'
      exact ⟨vm', h1, fun Q E d acts => by rw [List.cons_append, W.findHandler_go_skip h]; exact h2 Q E d acts⟩
    · by_cases hcov : covers y f.pc = true
      · obtain ⟨k1, hk1, -⟩ := hW.alike.2.2 _ _ hk0
        obtain ⟨dk, _, _, kt, hd, _, _, _, _, hkt, _, hopen⟩ := gl.here
        obtain ⟨k2, hk2, -⟩ := hW.alike.2.2 _ _ hkt
        obtain ⟨vm', h1, h2⟩ := ih (S.setVm (S.vm.noted f.method.cls y.catchType (.cls cY))) (hW.noted hd hopen (State.rightAt_cls gl)) hcell hp'
        refine ⟨vm', h1, fun Q E d acts => ?_⟩
        rw [List.cons_append, mj_fh hcov g0 (hW.classLinks gl) hcell hobj ⟨k1, hk1⟩ ⟨k2, hk2⟩, if_neg (by rw [hW.alike.assignable, gno]; decide)]
        exact h2 Q E d acts
      · obtain ⟨vm', h1, h2⟩ := ih S hW hcell hp'
        exact ⟨vm', h1, fun Q E d acts => by rw [List.cons_append, W.findHandler_go_skip (by simpa using hcov)]; exact h2 Q E d acts⟩
variable {p : Program} {l : Launch} {e : Env} {R : Room} {s : State} {m : MethodId} {args : Array Value} {below : List Frame} {meth : Method} {c : Code} {T : State} {locs : List Loc} {k n : Nat}
theorem mj_caught (X : Stand p l e R s m args below meth c T locs k n) (a : Addr) {g : JFrame} (hg : g.method = m) {cell : Cell} (hcell : T.heap[a]? = some cell) (hobj : ∀ k, cell.vm ≠ .statics k) (hk0 : ∃ k, s.vm.classes[cell.cls]? = some k) (pre : List ExceptionTableEntry) (x : ExceptionTableEntry) (rest : List ExceptionTableEntry) (hsplit : c.exceptionTable.toList = pre ++ x :: rest) (hpass : ∀ y ∈ pre, mj_pass e.platform s m.cls g.pc cell.cls y) (hx : covers x g.pc = true) (h0 : x.catchType ≠ 0) {cT : ClassId} (hl : s.vm.ClassLinks e.platform m.cls x.catchType cT) (hfit : s.vm.assignable cell.cls cT = true) :
    ∃ vm', s.WarmedH vm' ∧ Stand p l e R s m args below meth c (T.setVm vm') locs k n ∧ ∀ target, Steps p.tables e below ((T.setVm vm').setTop { g with pc := x.handlerPc, stack := [.ref a] }) target → Steps p.tables e below ((T.setTop g).pushFrame (.throwing a)) target := by
  subst hg
  obtain ⟨vm', hW', hq⟩ := mj_search (e := e) (f := g) (a := a) hobj hk0 (rest := rest) hx h0 hl hfit pre ((T.setTop g).pushFrame (.throwing a)) X.warmed hcell hpass
  refine ⟨vm', hW', X.noted hW', fun target hrest => ?_⟩
  obtain ⟨hgo, hw⟩ := X.here.throwing a
  refine Steps.head hgo hw ?_
  obtain ⟨g₀, hg0⟩ := Option.isSome_iff_exists.mp X.here.top
  obtain ⟨r, hr⟩ := State.topJava?_eq_some.mp hg0
  have hr' : (T.setVm vm').frames = .java g₀ :: r := hr
  rw [stepThread_throwing (frames_entered X.here.top _)]
  have hs : (stepThrowing e ((T.setTop g).pushFrame (.throwing a)) a (.java g :: T.frames.tail)).1 = (((T.setTop g).pushFrame (.throwing a)).setVm vm').setFrames (.java { g with pc := x.handlerPc, stack := [.ref a] } :: T.frames.tail) := by
    simp only [stepThrowing, searchFrame, vmDo]
    generalize hres : Sem.go _ e false [] _ = res
    obtain ⟨as, rfl, -⟩ := Sem.eq_ok_of hres (a := Handler.found x.handlerPc) (s' := ((T.setTop g).pushFrame (.throwing a)).setVm vm') (acts' := []) (by
      have h9 := fun (Q : Handler → Pre) (E : CtlPost) (d : Bool) (acts : List Action) => (show wp (findHandler g a) Q E e d acts ((T.setTop g).pushFrame (.throwing a)) ↔ Q (.found x.handlerPc) d acts (((T.setTop g).pushFrame (.throwing a)).setVm vm') from by
        rw [W.findHandler_eq (s := (T.setTop g).pushFrame (.throwing a)) (f := g) X.method' X.code, hsplit]; exact hq Q E d acts)
      simp [h9])
    rfl
  rw [hs, hr, List.tail_cons]
  rw [State.setTop_of_frames _ hr'] at hrest
  have e1 : ∀ (F G : List Frame), ((T.setFrames F).setVm vm').setFrames G = (T.setVm vm').setFrames G := fun F G => by
    rw [show (T.setFrames F).setVm vm' = (T.setVm vm').setFrames F from rfl, State.setFrames_setFrames]
  rw [State.pushFrame, State.setTop_of_frames _ hr, State.setFrames_setFrames, e1]
  exact hrest
end MJH
end
section
def mj_xo (xn : Nat → String) (q : Nat) (x : Addr) (t : State) : Prop := ∃ cell : Cell, t.heap[x]? = some cell ∧ (∀ k, cell.vm ≠ .statics k) ∧ t.vm.findClass (xn q) = some cell.cls ∧ ∃ k, t.vm.classes[cell.cls]? = some k
theorem mj_xo.moved {xn : Nat → String} {q : Nat} {x : Addr} {t u : State} (h : mj_xo xn q x t) (hh : u.heap = t.heap) (hv : u.vm = t.vm) : mj_xo xn q x u := by
  obtain ⟨cell, h1, h2, h3, h4⟩ := h
  exact ⟨cell, by rw [hh]; exact h1, h2, by rw [hv]; exact h3, by rw [hv]; exact h4⟩
def mj_out (ad : Nat → Nat) (xn : Nat → String) (r : Option Value ⊕ Nat) (o : Outcome) (t : State) : Prop := match r with
  | .inl v => o = .returned (v.map (mj_tr ad))
  | .inr q => ∃ x : Addr, o = .threw x ∧ mj_xo xn q x t
def mj_sr (C n d : String) (z : Nat → Prop) (U : State) : Prop := ∃ (cf : ClassId) (kf : Class) (fi : Nat) (f : Field) (a : Nat) (cell : Cell) (v : Value), U.vm.findClass C = some cf ∧ U.fieldFound? C n d = some (cf, kf, fi, f) ∧ f.isStatic = true ∧ kf.statics = some a ∧ U.heap[a]? = some cell ∧ cell.vm.isStatics = true ∧ cell.cls = cf ∧ f.slot < cell.slots.size ∧ kf.staticTypes[f.slot]? = some f.type ∧ cell.slots[f.slot]? = some v ∧ v.isRef = true ∧ ¬ z a
theorem mj_sr.go {C n d : String} {z : Nat → Prop} {s U : State} (h : mj_sr C n d z s) (hv : s.vm.Alike U.vm) (hq : ∀ q, ¬ z q → U.heap[q]? = s.heap[q]?) : mj_sr C n d z U := by
  obtain ⟨cf, kf, fi, f, a, cell, v, h1, h2, h3, h4, h5, h6, h7, h8, h9, h10, h11, h12⟩ := h
  obtain ⟨k', hi', he⟩ := State.fieldFound?_setVm hv h2
  exact ⟨cf, k', fi, f, a, cell, v, by rw [hv.findClass]; exact h1, hi', h3, by rw [he]; exact h4, by rw [hq a h12]; exact h5, h6, h7, h8, by rw [he]; exact h9, h10, h11, h12⟩
theorem mj_sr.lays {C n d : String} {z : Nat → Prop} {U : State} (h : mj_sr C n d z U) (A : Array Value) : (Cond.laysStatic C n d).before A U = true := by
  obtain ⟨cf, kf, fi, f, a, cell, v, h1, h2, h3, h4, h5, h6, h7, h8, h9, h10, h11, h12⟩ := h
  simp [Cond.before, Cond.holds, Cond.value, h1, h2, h3, h4, h5, h6, h7, h8, h9]
theorem mj_sr.isRef {C n d : String} {z : Nat → Prop} {U : State} (h : mj_sr C n d z U) (A : Array Value) : (Cond.isRef (.static C n d)).before A U = true := by
  obtain ⟨cf, kf, fi, f, a, cell, v, h1, h2, h3, h4, h5, h6, h7, h8, h9, h10, h11, h12⟩ := h
  have he : (Term.static C n d).eval A U none [] U = some v := by
    simp [Term.eval, State.fieldNamed?, h2, h3, h4, h5, h6, h10]
  cases v <;> simp [Cond.before, Cond.holds, Cond.value, he] <;> simp [Value.isRef] at h11
abbrev mj_K : Type := List (String × String) × List (String × String) × List (String × String × String) × List (String × Nat × String × Nat) × List (String × String × String × Value)
def mj_cs (ad : Nat → Nat) (A : Nat → Prop) (U : State) (a n : Nat) (g : Nat → Int32) : Prop := (a < 1100 → va_T .int (ad a) n (fun j => .int (g j)) A U U.heap) ∧ (1100 ≤ a → a < 2000 → va_T .byte (ad a) n (fun j => .int (g j)) A U U.heap) ∧ (2000 ≤ a → va_O "java/lang/String" (ad a) A U U.heap ∧ va_OF "java/lang/String" "coder" "B" (.int 0) (ad a) A U U.heap ∧ va_OF "java/lang/String" "value" "[B" (.ref (ad (a - 900))) (ad a) A U U.heap)
theorem mj_cs.go {ad : Nat → Nat} {A : Nat → Prop} {s U : State} {a n : Nat} {g : Nat → Int32} (h : mj_cs ad A s a n g) (hv : s.vm.Alike U.vm) (hq : ∀ q, ¬ A q → U.heap[q]? = s.heap[q]?) : mj_cs ad A U a n g :=
  ⟨fun g1 => ((h.1 g1).moved hv).kept fun a _ ha => hq a ha, fun g1 g2 => ((h.2.1 g1 g2).moved hv).kept fun a _ ha => hq a ha, fun g1 => ⟨((h.2.2 g1).1.moved hv).kept fun a _ ha => hq a ha, ((h.2.2 g1).2.1.moved hv).kept fun a _ ha => hq a ha, ((h.2.2 g1).2.2.moved hv).kept fun a _ ha => hq a ha⟩⟩
theorem mj_cs.row {ad : Nat → Nat} {A : Nat → Prop} {s : State} {a n : Nat} {g : Nat → Int32} (h : mj_cs ad A s a n g) (ha : a < 2000) : ∃ ty, va_T ty (ad a) n (fun j => .int (g j)) A s s.heap := by
  by_cases e : a < 1100
  · exact ⟨_, h.1 e⟩
  · exact ⟨_, h.2.1 (by omega) ha⟩
def mj_St (cst : Nat → Option (Nat × (Nat → Int32))) (ad : Nat → Nat) (z : Nat → Prop) (ncs : mj_K) (U : State) : Prop := (∀ a n g, cst a = some (n, g) → mj_cs ad (mj_A z) U a n g) ∧ (∀ q : Nat, U.heap.size ≤ q → z q) ∧ (∀ q ∈ ncs.1, ∀ c1 c2, U.vm.findClass q.1 = some c1 → U.vm.findClass q.2 = some c2 → U.vm.assignable c1 c2 = false) ∧ (∀ q ∈ ncs.2.1, ∃ c1 c2, U.vm.findClass q.1 = some c1 ∧ U.vm.findClass q.2 = some c2 ∧ U.vm.assignable c1 c2 = true) ∧ (∀ q ∈ ncs.2.2.1, mj_sr q.1 q.2.1 q.2.2 z U) ∧ (∀ q ∈ ncs.2.2.2.1, ∃ a, vk_R q.1 q.2.1 q.2.2.1 a U ∧ (q.2.2.2 ≠ 0 → a = ad q.2.2.2)) ∧ ∀ q ∈ ncs.2.2.2.2, va_Z q.1 q.2.1 q.2.2.1 (mj_tr ad q.2.2.2) (mj_A z) U U.heap
theorem mj_St.go {cst : Nat → Option (Nat × (Nat → Int32))} {ad : Nat → Nat} {z : Nat → Prop} {ncs : mj_K} {s U : State} (h : mj_St cst ad z ncs s) (hW : s.WarmedH U.vm) (hq : ∀ q, ¬ z q → U.heap[q]? = s.heap[q]?) (hz : s.heap.size ≤ U.heap.size) : mj_St cst ad z ncs U := by
  obtain ⟨h1, h2, h3, h4, h5, h6, h7⟩ := h
  have hv := hW.alike
  refine ⟨fun a n g ha => ?_, fun q hq9 => h2 q (Nat.le_trans hz hq9), fun q hq c1 c2 g1 g2 => ?_, fun q hq => ?_, fun q hm => (h5 q hm).go hv hq, fun q hm => ?_, fun q hm => ?_⟩
  · exact (h1 a n g ha).go hv hq
  · rw [hv.findClass] at g1 g2
    rw [hv.assignable]
    exact h3 q hq c1 c2 g1 g2
  · obtain ⟨c1, c2, g1, g2, g3⟩ := h4 q hq
    exact ⟨c1, c2, by rw [hv.findClass]; exact g1, by rw [hv.findClass]; exact g2, by rw [hv.assignable]; exact g3⟩
  · obtain ⟨a, ha, hb⟩ := h6 q hm
    exact ⟨a, ha.warm hW, hb⟩
  · exact (va_Z.moved hv (h7 q hm)).kept fun a _ ha => hq a ha
def mj_Pc (D : va_G) (cl : List vw_C) (tys : List (ClassId × FieldType)) (ad : Nat → Nat) (bi : Nat) (z : Nat → Prop) (cst : Nat → Option (Nat × (Nat → Int32))) (ncs : mj_K) (as : List Value) (h : mj_H) : Array Value → State → Prop := fun v U => v = (as.map (mj_tr ad)).toArray ∧ mj_rep D cl tys ad bi z h U.heap ∧ va_K D cl tys U ∧ mj_St cst ad z ncs U
def mj_Qc (D : va_G) (cl : List vw_C) (tys : List (ClassId × FieldType)) (ad : Nat → Nat) (bi : Nat) (z : Nat → Prop) (xn : Nat → String) (b0 b1 : Nat) (Q : mj_R → Prop) : State → Outcome → State → Prop := fun st o t => ∃ r : mj_R, Q r ∧ mj_out ad xn r.1 o t ∧ mj_rep D cl tys ad bi z r.2 t.heap ∧ va_F (mj_A z) st t ∧ ∃ (L : List Loc) (k n : Nat), mj_fe st t L k n ∧ (∀ q ∈ L, z q.base) ∧ k + r.2.2.1 ≤ b0 ∧ n + r.2.2.2.1 ≤ b1
section MJX
variable {p : Program} {l : Launch} {e : Env} {R : Room} {s : State} {m : MethodId} {args : Array Value} {below : List Frame} {meth : Method} {c : Code}
variable {D : va_G} {cl : List vw_C} {tys : List (ClassId × FieldType)} {ad : Nat → Nat} {bi : Nat} {z : Nat → Prop} {nL : Nat} {off : Nat → Nat} {QQ : State → Prop} {b0 b1 : Nat} {cc : ByteArray} {pc : Nat} {ls : mj_L} {r : List Value} {h : mj_H}
variable {cst : Nat → Option (Nat × (Nat → Int32))} {ncs : mj_K} {xn : Nat → String}
def mj_JT (p : Program) (l : Launch) (e : Env) (R : Room) (s : State) (m : MethodId) (args : Array Value) (below : List Frame) (meth : Method) (c : Code) (D : va_G) (cl : List vw_C) (tys : List (ClassId × FieldType)) (ad : Nat → Nat) (bi : Nat) (z : Nat → Prop) (nL : Nat) (off : Nat → Nat) (QQ : State → Prop) (b0 b1 : Nat) (xn : Nat → String) (pc : Nat) (ls : mj_L) (q : Nat) (h : mj_H) : Prop :=
  ∀ (H : Heap) (locs : List Loc) (k n : Nat) (L : Array Slot) (st : List Value), lv_has L nL (mj_lv ad 0 ls) → mj_rep D cl tys ad bi z h H → va_S (mj_A z) s.heap H locs → k + h.2.1 ≤ b0 → n + h.2.2.1 ≤ b1 → ∀ (T : State) (x : Addr), T.heap = H → Stand p l e R s m args below meth c T locs k n → mj_xo xn q x T → ∃ t, Steps p.tables e below ((T.setTop (F0 m (off pc) L st)).pushFrame (.throwing x)) t ∧ QQ t
theorem mj_so_call (hx : p.tables.exec = Jvm.exec) (hb : c.code = cc) (hml : c.maxLocals = nL) (hK : va_K D cl tys s) (hSt : mj_St cst ad z ncs s) (hR : R.cells = b0 ∧ R.slots = b1)
    {y : MethodName} {ws : List Cond} {rm : Room} {bytes : ByteArray} {maxL : Nat} {ret : Option FieldType} {hh : List (Nat × Nat × Nat × Nat)} {ig : Instr} {as st : List Value} {Qp : mj_R → Prop}
    (hM : MetFree l y (headSpec ws rm) (mj_Pc D cl tys ad bi z cst ncs as h) (fun _ _ _ _ _ => True) (fun _ => mj_Qc D cl tys ad bi z xn h.2.1 h.2.2.1 Qp))
    (hrc : rm.cells = h.2.1) (hrs : rm.slots = h.2.2.1) (hfr : rm.frames + 1 ≤ R.frames) (hlo : 8 + (maxL + 11) + rm.locals ≤ R.locals) (hwt : mj_wt r ≤ 8)
    (hws : ∀ w ∈ ws, ∀ (a' : Array Value) (U : State), s.WarmedH U.vm → w.before a' U = true) (hcd : mj_cd y bytes maxL ret hh ∈ ws) (hini : ∀ (a' : Array Value) (U : State), s.WarmedH U.vm → (Cond.initialized y.cls).before a' U = true)
    (hd : decode cc (off pc) = .ok (ig, 3)) (ho : off (pc + 1) = off pc + 3)
    (hinv : ∀ (T : State) (H : Heap) (locs : List Loc) (k n : Nat) (L : Array Slot), T.heap = H → mj_rep D cl tys ad bi z h H → va_S (mj_A z) s.heap H locs → Stand p l e R s m args below meth c T locs k n → mj_Inv p l e R s m args below meth c T locs k n (F0 m (off pc) L (st.map (mj_tr ad))) (r.map (mj_tr ad)) y (as.map (mj_tr ad)).toArray)
    (kret : ∀ v h', Qp (.inl v, h') → mj_J p l e R s m args below meth c D cl tys ad bi z nL off QQ b0 b1 (pc + 1) ls (v.toList ++ r) h')
    (kthr : ∀ q h', Qp (.inr q, h') → mj_JT p l e R s m args below meth c D cl tys ad bi z nL off QQ b0 b1 xn pc ls q h') : mj_J p l e R s m args below meth c D cl tys ad bi z nL off QQ b0 b1 pc ls st h := by
  intro H locs k n L hl hr hS h1 h2 T hT X
  obtain ⟨vm₁, mk, hW₁, X₁, hnm, hstep⟩ := hinv T H locs k n L hT hr hS X
  have hzs : ∀ q : Nat, s.heap.size ≤ q → z q := hSt.2.1
  have hSt1 : mj_St cst ad z ncs (T.setVm vm₁) := by
    refine hSt.go (U := T.setVm vm₁) hW₁ (fun q hq => ?_) ?_
    · show T.heap[q]? = s.heap[q]?
      rw [hT]
      exact hS.2.1 q (Nat.lt_of_not_le (fun g => hq (hzs q g))) hq
    · show s.heap.size ≤ T.heap.size
      rw [hT]
      exact hS.1
  have hwt' : 2 * (F0 m (off pc) L (r.map (mj_tr ad))).monitorRoom + ((F0 m (off pc) L (r.map (mj_tr ad))).stack.map fun v => v.category).sum ≤ 8 := by
    have := mj_wt_tr ad r
    unfold mj_wt at this hwt
    show 2 * 0 + ((r.map (mj_tr ad)).map fun v => v.category).sum ≤ 8
    rw [this]
    omega
  obtain ⟨o, t, hq, hgo⟩ := mj_back (hh := hh) (bytes := bytes) (maxL := maxL) (ret := ret) (Wt := 8) (len := 3) (ig := ig) (U := T.setVm vm₁) (g := F0 m (off pc) L (r.map (mj_tr ad))) (a := (as.map (mj_tr ad)).toArray) (mk := mk) hM hfr hlo X₁ rfl (by show L.size = c.maxLocals; rw [hml]; exact hl.1) (by rw [hb]; exact hd) hwt' hnm (fun w hw => hws w hw _ _ hW₁) (mj_cd_or (hws _ hcd _ _ hW₁)) (hini _ _ hW₁) (by rw [hrc, hR.1]; exact h1) (by rw [hrs, hR.2]; exact h2)
    ⟨rfl, by show mj_rep D cl tys ad bi z h T.heap; rw [hT]; exact hr, va_K.moved hW₁.alike hK, hSt1⟩ (fun o t hq => by
      obtain ⟨r9, -, -, -, -, L9, k9, n9, hf, -⟩ := hq
      exact ⟨L9, k9, n9, hf⟩)
  obtain ⟨⟨rv, h'⟩, hQ, hout, hrep, hF, L9, k9, n9, hfe, hL9, hk9, hn9⟩ := hq
  obtain ⟨U', e1, e2, XU, hret, hthr⟩ := hgo L9 k9 n9 hfe
  have hF' : T.heap.size ≤ t.heap.size ∧ ∀ q : Nat, q < T.heap.size → ¬ mj_A z q → t.heap[q]? = T.heap[q]? := hF
  rw [hT] at hF'
  have hS' : va_S (mj_A z) s.heap t.heap (locs ++ L9) := by
    refine ⟨Nat.le_trans hS.1 hF'.1, fun q g1 g2 => ?_, fun q hq => ?_⟩
    · rw [hF'.2 q (Nat.lt_of_lt_of_le g1 hS.1) g2]
      exact hS.2.1 q g1 g2
    · rcases List.mem_append.mp hq with g | g
      · exact hS.2.2 q g
      · exact hL9 q g
  have c1 : k + k9 + h'.2.1 ≤ b0 := by
    have := h1
    have := hk9
    simp only at *
    omega
  have c2 : n + n9 + h'.2.2.1 ≤ b1 := by
    have := h2
    have := hn9
    simp only at *
    omega
  cases rv with
  | inl v =>
    have ho1 : o = .returned (v.map (mj_tr ad)) := hout
    obtain ⟨t2, a1, b1⟩ := kret v h' hQ t.heap (locs ++ L9) (k + k9) (n + n9) L hl hrep hS' c1 c2 U' e1 XU
    refine ⟨t2, hstep t2 (hret _ ho1 t2 ?_), b1⟩
    rw [ho] at a1
    have e9 : (v.map (mj_tr ad)).toList ++ r.map (mj_tr ad) = (v.toList ++ r).map (mj_tr ad) := by cases v <;> rfl
    show Steps p.tables e below (U'.setTop (F0 m (off pc + 3) L ((v.map (mj_tr ad)).toList ++ r.map (mj_tr ad)))) t2
    rw [e9]
    exact a1
  | inr q =>
    obtain ⟨x, ho1, hxo⟩ := hout
    obtain ⟨t2, a1, b1⟩ := kthr q h' hQ t.heap (locs ++ L9) (k + k9) (n + n9) L (r.map (mj_tr ad)) hl hrep hS' c1 c2 U' x e1 XU (hxo.moved e1 e2)
    exact ⟨t2, hstep t2 (hthr x ho1 t2 a1), b1⟩
theorem mj_so_out (hlocks : meth.locks = false) {Q : mj_R → Prop} {q : Nat} (hQQ : QQ = mj_Z below s (mj_Qc D cl tys ad bi z xn b0 b1 Q s)) (hout : ∀ x ∈ c.exceptionTable.toList, covers x (off pc) = false) (hq : Q (.inr q, h)) : mj_JT p l e R s m args below meth c D cl tys ad bi z nL off QQ b0 b1 xn pc ls q h := by
  intro H locs k n L st hl hr hS h1 h2 T x hT X hxo
  obtain ⟨hw, hrun, hend, hwm, hsm⟩ := X.leaveThrown x (g := F0 m (off pc) L st) rfl rfl rfl hout hlocks
  refine ⟨_, hw, ?_⟩
  rw [hQQ]
  refine ⟨.threw x, hrun, hend, (.inr q, h), hq, ⟨x, rfl, hxo.moved rfl rfl⟩, ?_, ?_, locs, k, n, ⟨hwm, hsm⟩, fun q hq => hS.2.2 q hq, h1, h2⟩
  · show mj_rep D cl tys ad bi z h T.heap
    rw [hT]; exact hr
  · show s.heap.size ≤ T.heap.size ∧ ∀ q : Nat, q < s.heap.size → ¬ mj_A z q → T.heap[q]? = s.heap[q]?
    rw [hT]
    exact ⟨hS.1, hS.2.1⟩
theorem mj_so_handler (hx : p.tables.exec = Jvm.exec) (hb : c.code = cc) {q t j : Nat} (pre : List ExceptionTableEntry) (x : ExceptionTableEntry) (rest : List ExceptionTableEntry) (hsplit : c.exceptionTable.toList = pre ++ x :: rest)
    (hpass : l.admits e → ∀ cX, s.vm.findClass (xn q) = some cX → ∀ y ∈ pre, mj_pass e.platform s m.cls (off pc) cX y) (hcov : covers x (off pc) = true) (h0 : x.catchType ≠ 0) {cT : ClassId} (hlk : l.admits e → s.vm.ClassLinks e.platform m.cls x.catchType cT) (hfit : ∀ cX, s.vm.findClass (xn q) = some cX → s.vm.assignable cX cT = true) (hpc : x.handlerPc = off t) (hj : j < nL)
    (hd : (∃ f : Fin 4, (f : Nat) = j ∧ decode cc (off t) = .ok (.astore_n f, 1) ∧ off (t + 1) = off t + 1) ∨ (decode cc (off t) = .ok (.astore j, 2) ∧ off (t + 1) = off t + 2))
    (kk : mj_J p l e R s m args below meth c D cl tys ad bi z nL off QQ b0 b1 (t + 1) (mj_stn (mj_kill ls j) j none) [] h) : mj_JT p l e R s m args below meth c D cl tys ad bi z nL off QQ b0 b1 xn pc ls q h := by
  intro H locs k n L st hl hr hS h1 h2 T a hT X hxo
  obtain ⟨cell, hc1, hc2, hc3, hc4⟩ := hxo
  have hal := X.warmed.alike
  have hc3' : s.vm.findClass (xn q) = some cell.cls := by rw [← hal.findClass]; exact hc3
  have hk0 : ∃ k, s.vm.classes[cell.cls]? = some k := by
    obtain ⟨kk9, hkk⟩ := hc4
    obtain ⟨k', hk', -⟩ := hal.symm.2.2 _ _ hkk
    exact ⟨k', hk'⟩
  obtain ⟨vm', hW', X', hgo⟩ := mj_caught X a (g := F0 m (off pc) L st) rfl hc1 hc2 hk0 pre x rest hsplit (hpass X.admits _ hc3') hcov h0 (hlk X.admits) (hfit _ hc3')
  have key : W p l e R s m args below meth c H locs k n QQ (F0 m (off t) L [.ref a]) := by
    rcases hd with ⟨f, hf, hd, ho⟩ | ⟨hd, ho⟩
    · refine lv_astore_n hx hb hd hf hl hj rfl fun L1 hl1 => ?_
      have K := kk H locs k n L1 (mj_lv_stx hl1) hr hS h1 h2
      rw [ho] at K
      exact K
    · refine lv_astore hx hb hd hl hj rfl fun L1 hl1 => ?_
      have K := kk H locs k n L1 (mj_lv_stx hl1) hr hS h1 h2
      rw [ho] at K
      exact K
  obtain ⟨t2, a1, b1⟩ := key (T.setVm vm') hT X'
  refine ⟨t2, hgo t2 ?_, b1⟩
  rw [hpc]
  exact a1
end MJX
end
section
section MJW
variable {p : Program} {l : Launch} {e : Env} {R : Room} {s : State} {m : MethodId} {args : Array Value} {below : List Frame} {meth : Method} {c : Code} {T : State} {locs : List Loc} {k n : Nat}
theorem mj_rebase (X : Stand p l e R s m args below meth c T locs k n) {R' : Room} (hf : R'.frames ≤ R.frames) (hl : R'.locals ≤ R.locals) (hc : k + R'.cells ≤ R.cells) (hs : n + R'.slots ≤ R.slots) : Stand p l e R' (T.setFrames (.invoking m args :: below)) m args below meth c T [] 0 0 := by
  obtain ⟨g₀, hfr⟩ := X.frames_eq
  have hcur : T.cur < T.threads.size := State.cur_lt_of_frames hfr
  have hF : (T.setFrames (.invoking m args :: below)).frames = .invoking m args :: below := State.frames_setFrames _ hcur
  have hm : (T.setFrames (.invoking m args :: below)).vm.method? m = some meth := X.method'
  have hr := X.room
  simp only [State.hasRoom, Bool.and_eq_true, decide_eq_true_eq] at hr
  obtain ⟨⟨⟨⟨r1, r2, r3, r4, r5, r6⟩, r7⟩, r8⟩, r9⟩ := hr
  rw [State.localsInUse_invoking X.frames X.method X.code] at r1 r4 r5
  rw [X.frames] at r2 r3
  have hb := X.book
  have h1 := X.cellsAbove hc
  have h2 := X.slotsAbove hs
  refine ⟨X.admits, X.cas, X.clock, hF, ?_, ?_, hm, X.code, X.here, X.tail, State.WarmedH.refl _, ?_, ?_, ?_⟩
  · simp only [State.hasRoom, Bool.and_eq_true, decide_eq_true_eq]
    rw [State.localsInUse_invoking hF hm X.code, hF, State.stackLimits_setFrames, State.stackBytes_setFrames, X.limits, X.bytes]
    exact ⟨⟨⟨⟨by omega, by omega, by omega, by omega, by omega, r6⟩, h1⟩, h2⟩, hb⟩
  · have hh := X.hears
    have hal := X.warmed.alike
    cases below with
    | nil => simp only [State.hears] at hh ⊢; rw [hm]; rw [X.method] at hh; exact hh
    | cons b bs =>
      cases b with
      | java g =>
        simp only [State.hears] at hh ⊢
        have e1 : (T.setFrames (.invoking m args :: .java g :: bs)).code? g.method = s.code? g.method := by
          rw [State.code?_eq, State.code?_eq]
          show (T.vm.method? g.method).bind _ = _
          rw [hal.method?]
        rw [e1]
        exact hh
      | native _ => rfl
      | proc _ => rfl
      | _ => simp only [State.hears] at hh ⊢; rw [hm]; rw [X.method] at hh; exact hh
  · rw [State.stackLimits_setFrames]
  · rw [State.stackBytes_setFrames]
  · obtain ⟨t, ht, -⟩ := State.frames_cons hfr
    have h3 : T.setVm (T.setFrames (.invoking m args :: below)).vm = T := rfl
    rw [h3]
    refine ⟨?_, Nat.le_refl _, Nat.le_refl _, ?_, ?_, fun a cl ha => ⟨cl, ha, rfl, rfl, fun _ _ => rfl⟩⟩
    · rw [State.setFrames_setFrames]
      show T = { T.setFrames T.frames with heap := T.heap, slotsUsed := T.slotsUsed }
      rw [State.setFrames_self ht]
    · show T.slotsUsed = T.slotsUsed + ((T.heap.toList.drop T.heap.size).map (·.slots.size)).sum
      have : T.heap.toList.drop T.heap.size = [] := List.drop_eq_nil_of_le (by simp)
      rw [this]
      rfl
    · show ((T.heap.toList.drop T.heap.size).map (·.slots.size)).sum ≤ 0
      have : T.heap.toList.drop T.heap.size = [] := List.drop_eq_nil_of_le (by simp)
      rw [this]
      exact Nat.le_refl 0
end MJW
end
section
section MJV
variable {p : Program} {l : Launch} {e : Env} {R : Room} {s : State} {m : MethodId} {args : Array Value} {below : List Frame} {meth : Method} {c : Code}
variable {D : va_G} {cl : List vw_C} {tys : List (ClassId × FieldType)} {ad : Nat → Nat} {bi : Nat} {z : Nat → Prop} {nL : Nat} {off : Nat → Nat} {QQ : State → Prop} {b0 b1 : Nat} {cc : ByteArray} {pc : Nat} {ls : mj_L} {r : List Value} {h : mj_H}
variable {cst : Nat → Option (Nat × (Nat → Int32))} {ncs : mj_K} {xn : Nat → String}
def mj_gw (w : Cond) : Bool := goodWord w || (match w with
  | .declares _ => true
  | _ => false)
theorem mj_wat {s U : State} {args a' : Array Value} (hW : s.WarmedH U.vm) {w : Cond} (hg : mj_gw w = true) (h : w.before args s = true) : w.before a' U = true := by
  unfold mj_gw at hg
  rw [Bool.or_eq_true] at hg
  rcases hg with hg | hg
  · exact word_at hW (good_of_word hg) h
  · split at hg
    · next x =>
      have h1 : (Cond.declares x).before args (s.setVm U.vm) = true := by rw [Cond.declares_setVm hW.alike]; exact h
      have e := Cond.onTables_vm (A := args) (A' := a') (U := s) (U' := U) U.vm (.declares x) rfl
      rw [e] at h1
      exact h1
    · cases hg
def mj_wok (TS : List Cond) (ncs : mj_K) (a : Cond) : Bool := (decide (a ∈ TS) && mj_gw a) || (match a with
  | .castable x y => decide ((x, y) ∈ ncs.2.1)
  | .laysStatic x y d => decide ((x, y, d) ∈ ncs.2.2.1)
  | .isRef (.static x y d) => decide ((x, y, d) ∈ ncs.2.2.1)
  | _ => false)
theorem mj_wok_ok {TS : List Cond} {a : Cond} {U : State} (ha : mj_wok TS ncs a = true) (hts : ∀ w ∈ TS, w.before args s = true) (hW : s.WarmedH U.vm) (hSt : mj_St cst ad z ncs U) (A : Array Value) : a.before A U = true := by
  unfold mj_wok at ha
  rw [Bool.or_eq_true] at ha
  rcases ha with ha | ha
  · rw [Bool.and_eq_true, decide_eq_true_eq] at ha
    exact mj_wat hW ha.2 (hts _ ha.1)
  · split at ha
    · obtain ⟨c1, c2, g1, g2, g3⟩ := hSt.2.2.2.1 _ (of_decide_eq_true ha)
      simp [Cond.before, Cond.holds, Cond.value, g1, g2, g3]
    · exact (hSt.2.2.2.2.1 _ (of_decide_eq_true ha)).lays A
    · exact (hSt.2.2.2.2.1 _ (of_decide_eq_true ha)).isRef A
    · cases ha
theorem mj_same_cells {s U : State} {k n : Nat} (h : s.sameButNew U [] k n) {q : Nat} (hq : q < s.heap.size) : U.heap[q]? = s.heap[q]? := by
  obtain ⟨-, -, -, -, -, h6⟩ := h
  obtain ⟨cell, hc⟩ : ∃ cell, s.heap[q]? = some cell := ⟨s.heap[q], by simp [hq]⟩
  obtain ⟨c', h1, h2, h3, h4⟩ := h6 q cell hc
  rw [h1, hc]
  have e : c'.slots = cell.slots := by
    apply Array.ext
    · exact h3
    · intro i hi hj
      have := h4 i (by simp)
      rw [Array.getElem?_eq_getElem hi, Array.getElem?_eq_getElem hj] at this
      exact Option.some.inj this
  rw [h2, e]
theorem mj_so_throw (hx : p.tables.exec = Jvm.exec) (hb : c.code = cc) (hml : c.maxLocals = nL) {own : String} (hown : s.vm.findClass own = some m.cls) (hlocks : meth.locks = false) (htr : l.admits e → e.platform.stackTraces = false) {TS : List Cond} (hts : ∀ w ∈ TS, w.before args s = true) (hSt : mj_St cst ad z ncs s) (hR : R.cells = b0 ∧ R.slots = b1) (hRf : 10 ≤ R.frames) (hRl : 200 ≤ R.locals)
    {q ia ib ic k0 k1 : Nat} {os : List mj_O} {op : Bool} {tx : String} {names : List String} {Q : mj_R → Prop} (hQQ : QQ = mj_Z below s (mj_Qc D cl tys ad bi z xn b0 b1 Q s))
    (hcls : Bundle.fit (xn q) = true) (hnames : ∀ n ∈ names, Bundle.fit n = true) (hlen : names.length ≤ 3) (hw1 : mj_wok TS ncs (.classLink own ia (xn q)) = true) (hw2 : mj_wok TS ncs (.instantiable (xn q) 6) = true) (hw3 : mj_wok TS ncs (.initialized (xn q)) = true) (hwa : ∀ a ∈ Bundle.ownAtoms own ic (xn q) names, mj_wok TS ncs a = true) (hsk : (own, ib, tx, 0) ∈ ncs.2.2.2.1)
    (hwt : mj_wt r ≤ 8) (hk1 : 6 ≤ k1)
    (hd0 : decode cc (off pc) = .ok (.new ia, 3)) (hd3 : decode cc (off pc + 3) = .ok (.dup, 1)) (hd4 : decode cc (off pc + 3 + 1) = .ok (.ldc ib, 2)) (hd6 : decode cc (off pc + 3 + 1 + 2) = .ok (.invokespecial ic, 3)) (hd9 : decode cc (off pc + 3 + 1 + 2 + 3) = .ok (.athrow, 1)) (hout : ∀ x ∈ c.exceptionTable.toList, covers x (off pc + 3 + 1 + 2 + 3) = false)
    (hq : Q (.inr q, (os, k0, k1 - 6, false))) : mj_J p l e R s m args below meth c D cl tys ad bi z nL off QQ b0 b1 pc ls r (os, k0 + 1, k1, op) := by
  intro H locs k n L hl hr hS h1 h2 T hT X
  have h1' : k + (k0 + 1) ≤ b0 := h1
  have h2' : n + k1 ≤ b1 := h2
  have hzs : ∀ q : Nat, s.heap.size ≤ q → z q := hSt.2.1
  obtain ⟨R', hR'⟩ : ∃ R' : Room, R' = { frames := R.frames, cells := 1, slots := 6, locals := R.locals } := ⟨_, rfl⟩
  have X' := mj_rebase X (R' := R') (by rw [hR']; exact Nat.le_refl _) (by rw [hR']; exact Nat.le_refl _) (by rw [hR', hR.1]; show k + 1 ≤ b0; omega) (by rw [hR', hR.2]; show n + 6 ≤ b1; omega)
  have hsT : (T.setFrames (.invoking m args :: below)).heap = H := hT
  have hWs : s.WarmedH (T.setFrames (.invoking m args :: below)).vm := X.warmed
  have hSt1 : mj_St cst ad z ncs (T.setFrames (.invoking m args :: below)) := by
    refine hSt.go hWs (fun q hq => ?_) ?_
    · rw [hsT]
      exact hS.2.1 q (Nat.lt_of_not_le (fun g => hq (hzs q g))) hq
    · rw [hsT]
      exact hS.1
  have hown' : (T.setFrames (.invoking m args :: below)).vm.findClass own = some m.cls := by
    rw [hWs.alike.findClass]
    exact hown
  have hTs : T.sameButNew T [] 0 0 := by
    have := X'.same
    obtain ⟨g₀, hfr⟩ := X.frames_eq
    obtain ⟨t, ht, -⟩ := State.frames_cons hfr
    exact ⟨by show T = { T.setFrames T.frames with heap := T.heap, slotsUsed := T.slotsUsed }; rw [State.setFrames_self ht], this.2⟩
  generalize hs' : T.setFrames (.invoking m args :: below) = s' at *
  have hs'f : ∀ F, s'.setFrames F = T.setFrames F := fun F => by rw [← hs', State.setFrames_setFrames]
  have hs'v : s'.vm = T.vm := by rw [← hs']; rfl
  have hs'u : s'.slotsUsed = T.slotsUsed := by rw [← hs']; rfl
  have key : W p l e R' s' m args below meth c H [] 0 0 QQ (F0 m (off pc) L (r.map (mj_tr ad))) := by
    obtain ⟨cX, kX, hfX, hkX, -⟩ := Cond.instantiable_spec (mj_wok_ok hw2 hts hWs hSt1 args)
    refine W.newcK hx hb hown' (mj_wok_ok hw1 hts hWs hSt1 _) (mj_wok_ok hw2 hts hWs hSt1 _) (mj_wok_ok hw3 hts hWs hSt1 _) rfl hd0 (by rw [hR']; exact Nat.le_refl 1) (by rw [hR']; exact Nat.le_refl 6) hfX rfl fun H1 kC hkC e1 z1 o1 => ?_
    refine lv_dup hx hb hd3 rfl ?_
    obtain ⟨am, ham, -⟩ := hSt1.2.2.2.2.2.1 _ hsk
    refine va_ldcS hx hb hown' ham hd4 ?_
    intro T1 hT1 X1
    have hw9 : mj_wt (r.map (mj_tr ad)) ≤ 8 := by rw [mj_wt_tr]; exact hwt
    unfold mj_wt at hw9
    obtain ⟨U, u1, u2, u3, u4, u5, ce, u6, u7⟩ := X1.ctorThrowS hx (htr X.admits) hown' hcls hnames (fun a ha => mj_wok_ok (hwa a ha) hts hWs hSt1 args) (fun x hx => by cases hx) hfX hkC (a := H.size) (msg := .ref am) (by rw [hT1]; exact e1) (by rw [hsT]; exact Nat.le_refl _) rfl (g := F0 m (off pc + 3 + 1 + 2) L (.ref am :: .ref H.size :: .ref H.size :: r.map (mj_tr ad))) (rest := r.map (mj_tr ad)) rfl (by show L.size = c.maxLocals; rw [hml]; exact hl.1) rfl rfl rfl (by rw [hb]; exact hd6) (by rw [hb]; exact hd9) hout (by rw [hR']; show names.length + 3 < R.frames; omega) (by
      rw [hR']
      show 2 * 0 + ((Value.ref H.size :: r.map (mj_tr ad)).map fun v => v.category).sum + (13 * (names.length + 1) + 42) ≤ R.locals
      rw [List.map_cons, List.sum_cons]
      have : (Value.ref H.size).category = 1 := rfl
      omega) hlocks
    refine ⟨U, u1, ?_⟩
    rw [hQQ]
    have c1 : ∀ q : Nat, q < H.size → U.heap[q]? = H[q]? := fun q hq => by
      have := mj_same_cells u5 (q := q) (by rw [hsT]; exact hq)
      rw [hsT] at this
      exact this
    have c2 : U.heap.size ≤ H.size + 1 := by
      have := u5.2.2.1
      rw [hsT] at this
      exact this
    have c3 : H.size < U.heap.size := (Array.getElem?_eq_some_iff.mp u6).1
    have u5' : T.sameButNew ({ U with vm := T.vm } : State) [] 1 6 := by
      obtain ⟨a1, a2, a3, a4, a5, a6⟩ := u5
      rw [hsT, ← hT] at a2 a3 a4 a5 a6
      rw [hs'u] at a4
      refine ⟨?_, a2, a3, a4, a5, a6⟩
      rw [hs'f, hs'v] at a1
      exact a1
    refine ⟨.threw H.size, u2, u3, (.inr q, (os, k0, k1 - 6, false)), hq, ⟨H.size, rfl, ce, u6, fun k hk => ?_, ?_, ?_⟩, ?_, ⟨?_, fun q g1 g2 => ?_⟩, locs, k + 1, n + 6, ⟨?_, ?_⟩, fun q hq => hS.2.2 q hq, by show k + 1 + k0 ≤ b0; omega, by show n + 6 + (k1 - 6) ≤ b1; omega⟩
    · rw [u7.vm] at hk; cases hk
    · rw [u4.alike.findClass]; exact u7.cls
    · have e9 : ce.cls = cX := Option.some.inj (u7.cls.symm.trans hfX)
      obtain ⟨k9, hk9, -⟩ := u4.alike.2.2 _ _ hkC
      exact ⟨k9, by rw [e9]; exact hk9⟩
    · obtain ⟨⟨b, hP, hD, hB⟩, -, hvs⟩ := hr
      refine ⟨⟨b, hP.kept fun k x hx => c1 x.1 (hP k x hx).lt, hD, hB⟩, (fun h => by cases h), fun q cell g1 g2 => ?_, fun q hq9 => hvs.2 q (by omega)⟩
      rcases Nat.lt_or_ge q H.size with g | g
      · rw [c1 q g] at g2
        exact hvs.1 q cell g1 g2
      · have g3 : q < U.heap.size := (Array.getElem?_eq_some_iff.mp g2).1
        have g4 : q = H.size := by omega
        subst g4
        have : cell = ce := Option.some.inj (g2.symm.trans u6)
        rw [this, u7.vm]
        rfl
    · exact Nat.le_trans hS.1 (by omega)
    · rw [c1 q (Nat.lt_of_lt_of_le g1 hS.1)]
      exact hS.2.1 q g1 g2
    · exact State.WarmedH.trans hWs u4
    · have := X.same.trans (u5'.setVm s.vm)
      rw [List.append_nil] at this
      exact this
  exact key T hT X'
end MJV
end
section
section MJE
variable {p : Program} {l : Launch} {e : Env} {R : Room} {s : State} {m : MethodId} {args : Array Value} {below : List Frame} {meth : Method} {c : Code}
variable {D : va_G} {cl : List vw_C} {tys : List (ClassId × FieldType)} {ad : Nat → Nat} {bi : Nat} {z : Nat → Prop} {nL : Nat} {off : Nat → Nat} {QQ : State → Prop} {b0 b1 : Nat} {cc : ByteArray} {pc : Nat} {ls : mj_L} {r : List Value} {h : mj_H}
variable {cst : Nat → Option (Nat × (Nat → Int32))} {ncs : mj_K} {xn : Nat → String}
theorem mj_so_iret (hx : p.tables.exec = Jvm.exec) (hb : c.code = cc) (hlocks : meth.locks = false) {x : Int32} {ty : FieldType} (hn : narrow ty (.int x) = .int x) (hrt : meth.sig.returnType = some ty) {Q : mj_R → Prop} (hQQ : QQ = mj_Z below s (mj_Qc D cl tys ad bi z xn b0 b1 Q s)) (hd : decode cc (off pc) = .ok (.ireturn, 1)) (hq : Q (.inl (some (.int x)), h)) : mj_J p l e R s m args below meth c D cl tys ad bi z nL off QQ b0 b1 pc ls [.int x] h := by
  intro H locs k n L hl hr9 hS h1 h2
  rw [hQQ]
  exact mj_iret hx hb hrt hn hlocks (fun t ht hfe => ⟨(.inl (some (.int x)), h), hq, rfl, by rw [ht]; exact hr9, ⟨by rw [ht]; exact hS.1, fun q g1 g2 => by rw [ht]; exact hS.2.1 q g1 g2⟩, locs, k, n, hfe, hS.2.2, h1, h2⟩) hd
theorem mj_so_lret (hx : p.tables.exec = Jvm.exec) (hb : c.code = cc) (hlocks : meth.locks = false) {x : Int64} (hrt : meth.sig.returnType = some .long) {Q : mj_R → Prop} (hQQ : QQ = mj_Z below s (mj_Qc D cl tys ad bi z xn b0 b1 Q s)) (hd : decode cc (off pc) = .ok (.lreturn, 1)) (hq : Q (.inl (some (.long x)), h)) : mj_J p l e R s m args below meth c D cl tys ad bi z nL off QQ b0 b1 pc ls [.long x] h := by
  intro H locs k n L hl hr9 hS h1 h2
  rw [hQQ]
  exact mj_lret hx hb hrt hlocks (fun t ht hfe => ⟨(.inl (some (.long x)), h), hq, rfl, by rw [ht]; exact hr9, ⟨by rw [ht]; exact hS.1, fun q g1 g2 => by rw [ht]; exact hS.2.1 q g1 g2⟩, locs, k, n, hfe, hS.2.2, h1, h2⟩) hd
theorem mj_so_vret (hx : p.tables.exec = Jvm.exec) (hb : c.code = cc) (hlocks : meth.locks = false) (hrt : meth.sig.returnType = none) {Q : mj_R → Prop} (hQQ : QQ = mj_Z below s (mj_Qc D cl tys ad bi z xn b0 b1 Q s)) (hd : decode cc (off pc) = .ok (.return_, 1)) (hq : Q (.inl (none), h)) : mj_J p l e R s m args below meth c D cl tys ad bi z nL off QQ b0 b1 pc ls [] h := by
  intro H locs k n L hl hr9 hS h1 h2
  rw [hQQ]
  exact mj_vret hx hb hrt hlocks (fun t ht hfe => ⟨(.inl (none), h), hq, rfl, by rw [ht]; exact hr9, ⟨by rw [ht]; exact hS.1, fun q g1 g2 => by rw [ht]; exact hS.2.1 q g1 g2⟩, locs, k, n, hfe, hS.2.2, h1, h2⟩) hd
theorem mj_so_aret (hx : p.tables.exec = Jvm.exec) (hb : c.code = cc) (hlocks : meth.locks = false) {x : Nat} {ty : FieldType} (hn : ty.isReference = true) (hrt : meth.sig.returnType = some ty) {Q : mj_R → Prop} (hQQ : QQ = mj_Z below s (mj_Qc D cl tys ad bi z xn b0 b1 Q s)) (hd : decode cc (off pc) = .ok (.areturn, 1)) (hq : Q (.inl (some (.ref x)), h)) : mj_J p l e R s m args below meth c D cl tys ad bi z nL off QQ b0 b1 pc ls [.ref x] h := by
  intro H locs k n L hl hr9 hS h1 h2
  rw [hQQ]
  exact mj_aret hx hb hrt hn hlocks (fun t ht hfe => ⟨(.inl (some (.ref x)), h), hq, rfl, by rw [ht]; exact hr9, ⟨by rw [ht]; exact hS.1, fun q g1 g2 => by rw [ht]; exact hS.2.1 q g1 g2⟩, locs, k, n, hfe, hS.2.2, h1, h2⟩) hd
theorem mj_so_gets (hx : p.tables.exec = Jvm.exec) (hb : c.code = cc) {own : String} (hown : s.vm.findClass own = some m.cls) {TS : List Cond} (hts : ∀ w ∈ TS, w.before args s = true) (hSt : mj_St cst ad z ncs s) {j : Nat} {C f d : String} {v : Value} (hm : (C, f, d, v) ∈ ncs.2.2.2.2) (hlink : Jvm.Cond.fieldLink own j C f d ∈ TS) (hd : decode cc (off pc) = .ok (.getstatic j, 3)) (ho : off (pc + 1) = off pc + 3) (kk : mj_J p l e R s m args below meth c D cl tys ad bi z nL off QQ b0 b1 (pc + 1) ls (v :: r) h) : mj_J p l e R s m args below meth c D cl tys ad bi z nL off QQ b0 b1 pc ls r h := by
  intro H locs k n L hl hr hS h1 h2
  have K := kk H locs k n L hl hr hS h1 h2
  rw [ho] at K
  exact va_gets hx hb (hSt.2.2.2.2.2.2 _ hm) hS hown (hts _ hlink) (fun _ h9 => h9) hd K
theorem mj_so_max (hx : p.tables.exec = Jvm.exec) (hb : c.code = cc) (hml : c.maxLocals = nL) {own : String} (hown : s.vm.findClass own = some m.cls) {TS : List Cond} (hts : ∀ w ∈ TS, w.before args s = true) (hR : R.cells = b0 ∧ R.slots = b1) {idx : Nat} {x y : Int32} (g1 : Jvm.Cond.methodLink own idx Lib.Math.max.name ∈ TS) (g2 : Jvm.Cond.static Lib.Math.max.name ∈ TS) (g3 : Jvm.Cond.initialized "java/lang/Math" ∈ TS) (g4 : Jvm.Cond.code Lib.Math.max.name Lib.Math.max.code 2 (some .int) ∈ TS) (hf : 1 ≤ R.frames) (hw : mj_wt r + 13 ≤ R.locals) (hd : decode cc (off pc) = .ok (.invokestatic idx, 3)) (ho : off (pc + 1) = off pc + 3) (kk : mj_J p l e R s m args below meth c D cl tys ad bi z nL off QQ b0 b1 (pc + 1) ls (.int (if x < y then y else x) :: r) h) : mj_J p l e R s m args below meth c D cl tys ad bi z nL off QQ b0 b1 pc ls (.int y :: .int x :: r) h := by
  intro H locs k n L hl hr hS h1 h2
  have K := kk H locs k n L hl hr hS h1 h2
  rw [ho] at K
  have := mj_wt_tr ad r
  unfold mj_wt at this hw
  exact va_mmax hx hb (by rw [hml]; exact hl.1.symm) hown (hts _ g1) (hts _ g2) (hts _ g3) (hts _ g4) hf (by rw [this]; exact hw) (by rw [hR.1]; omega) (by rw [hR.2]; omega) hd K
theorem mj_so_min (hx : p.tables.exec = Jvm.exec) (hb : c.code = cc) (hml : c.maxLocals = nL) {own : String} (hown : s.vm.findClass own = some m.cls) {TS : List Cond} (hts : ∀ w ∈ TS, w.before args s = true) (hR : R.cells = b0 ∧ R.slots = b1) {idx : Nat} {x y : Int32} (g1 : Jvm.Cond.methodLink own idx Lib.Math.min.name ∈ TS) (g2 : Jvm.Cond.static Lib.Math.min.name ∈ TS) (g3 : Jvm.Cond.initialized "java/lang/Math" ∈ TS) (g4 : Jvm.Cond.code Lib.Math.min.name Lib.Math.min.code 2 (some .int) ∈ TS) (hf : 1 ≤ R.frames) (hw : mj_wt r + 13 ≤ R.locals) (hd : decode cc (off pc) = .ok (.invokestatic idx, 3)) (ho : off (pc + 1) = off pc + 3) (kk : mj_J p l e R s m args below meth c D cl tys ad bi z nL off QQ b0 b1 (pc + 1) ls (.int (if y < x then y else x) :: r) h) : mj_J p l e R s m args below meth c D cl tys ad bi z nL off QQ b0 b1 pc ls (.int y :: .int x :: r) h := by
  intro H locs k n L hl hr hS h1 h2
  have K := kk H locs k n L hl hr hS h1 h2
  rw [ho] at K
  have := mj_wt_tr ad r
  unfold mj_wt at this hw
  exact va_mmin hx hb (by rw [hml]; exact hl.1.symm) hown (hts _ g1) (hts _ g2) (hts _ g3) (hts _ g4) hf (by rw [this]; exact hw) (by rw [hR.1]; omega) (by rw [hR.2]; omega) hd K
theorem mj_sw_cases {go : Int → Prop} {d : Int} {x : Int32} {l : List (Int × Int)} (hk : mj_sw go d x l) : (∃ (j : Nat) (v t : Int), l[j]? = some (v, t) ∧ x = Int32.ofInt v ∧ go t) ∨ ((∀ (j : Nat) (v t : Int), l[j]? = some (v, t) → ¬ x = Int32.ofInt v) ∧ go d) := by
  induction l with
  | nil => exact Or.inr ⟨fun j v t h => by simp at h, hk⟩
  | cons a l ih =>
    obtain ⟨v0, t0⟩ := a
    obtain ⟨k1, k2⟩ := hk
    by_cases hx : x = Int32.ofInt v0
    · exact Or.inl ⟨0, v0, t0, rfl, hx, k1 hx⟩
    · rcases ih (k2 hx) with ⟨j, v, t, g1, g2, g3⟩ | ⟨g1, g2⟩
      · exact Or.inl ⟨j + 1, v, t, g1, g2, g3⟩
      · refine Or.inr ⟨fun j v t hj => ?_, g2⟩
        cases j with
        | zero =>
          have hj' : (v0, t0) = (v, t) := Option.some.inj hj
          cases hj'
          exact hx
        | succ j => exact g1 j v t hj
theorem mj_sw_off {go : Int → Prop} {d d' : Int} {x : Int32} {pc0 : Int} {tg : Int → Int} (hd : pc0 + d' = tg d) : ∀ (A B : List (Int × Int)), A.length = B.length → (∀ q ∈ A.zip B, q.1.1 = q.2.1 ∧ (Int32.ofInt q.1.1).toInt = q.1.1 ∧ pc0 + q.1.2 = tg q.2.2) → mj_sw go d x B → ∃ t, pc0 + Op.lookupswitch.offset A d' x.toInt = tg t ∧ go t := by
  intro A
  induction A with
  | nil =>
    intro B hl _ hk
    have : B = [] := List.eq_nil_of_length_eq_zero (by simpa using hl.symm)
    subst this
    exact ⟨d, by simpa [Op.lookupswitch.offset] using hd, hk⟩
  | cons a A ih =>
    intro B hl hq hk
    cases B with
    | nil => simp at hl
    | cons b B =>
      obtain ⟨a1, a2⟩ := a
      obtain ⟨b1, b2⟩ := b
      obtain ⟨q1, q2, q3⟩ := hq ((a1, a2), (b1, b2)) (by simp)
      simp only at q1 q2 q3
      subst q1
      obtain ⟨k1, k2⟩ := hk
      by_cases hx : x = Int32.ofInt a1
      · refine ⟨b2, ?_, k1 hx⟩
        rw [Op.lookupswitch.offset_cons, if_pos (by rw [hx, q2])]
        exact q3
      · obtain ⟨t, h1, h2⟩ := ih B (by simpa using hl) (fun q hq' => hq q (by simp [hq'])) (k2 hx)
        refine ⟨t, ?_, h2⟩
        rw [lv_osw hx q2]
        exact h1
theorem mj_so_sw (hx : p.tables.exec = Jvm.exec) (hb : c.code = cc) {TS : List Cond} {own : String} {rt : Option FieldType} {d : Int} {ps : Array (Int × Int)} {x : Int32} (hok : mj_ok TS own cc nL off rt pc (.lookupswitch d ps)) (kk : mj_sw (fun t => mj_J p l e R s m args below meth c D cl tys ad bi z nL off QQ b0 b1 t.toNat ls r h) d x ps.toList) : mj_J p l e R s m args below meth c D cl tys ad bi z nL off QQ b0 b1 pc ls (.int x :: r) h := by
  intro H locs k n L hl hr hS h1 h2
  rcases hok with ⟨d', ps', len, hd, hp, hdf, hlen, hq⟩ | ⟨d', lo, os, len, hd, hdf, hlen, hq⟩
  · obtain ⟨t, g1, g2⟩ := mj_sw_off (tg := fun t => (off t.toNat : Int)) hdf ps'.toList ps.toList hlen hq kk
    exact lv_lookup hx hb hd hp rfl g1 (g2 H locs k n L hl hr hS h1 h2)
  · rcases mj_sw_cases kk with ⟨j, v, t, g1, g2, g3⟩ | ⟨g1, g2⟩
    · have hj : j < os.size := by
        have := (List.getElem?_eq_some_iff.mp g1).1
        rw [← hlen] at this
        simpa using this
      obtain ⟨o, t', e1, e2, e3, e4⟩ := hq j hj
      rw [g1] at e2
      have e5 : (v, t) = (lo + (j : Int), t') := Option.some.inj e2
      cases e5
      have hxi : x.toInt = lo + j := by rw [g2]; exact e3
      refine lv_tableIn hx hb hd (by omega) (by omega) (off := o) ?_ e4 (g3 H locs k n L hl hr hS h1 h2)
      rw [show (x.toInt - lo).toNat = j by omega]
      exact e1
    · refine lv_tableOut hx hb hd ?_ hdf (g2 H locs k n L hl hr hS h1 h2)
      by_cases q : x.toInt < lo
      · exact Or.inl q
      · right
        by_cases q2 : lo + os.size - 1 < x.toInt
        · exact q2
        · exfalso
          have hj : (x.toInt - lo).toNat < os.size := by omega
          obtain ⟨o, t', e1, e2, e3, e4⟩ := hq _ hj
          refine g1 _ _ _ e2 (Int32.toInt_inj.mp ?_)
          rw [e3]
          omega
end MJE
end
