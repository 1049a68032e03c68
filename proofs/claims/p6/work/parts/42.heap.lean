theorem mj_at {tys : List (ClassId × FieldType)} {ad : Nat → Nat} {bi : Nat} {b : mj_B} {os : List mj_O} {a : Nat} {o : mj_O} (h : mj_nth os a = some o) : (mj_ws tys ad bi b 0 os)[a]? = some (mj_en tys ad bi b a o) := by
  have h1 := mj_ws_at (tys := tys) (ad := ad) (bi := bi) (b := b) (k := 0) h
  rw [Nat.zero_add] at h1
  exact h1
def mj_nb (o : mj_O) : Prop := match o with
  | .inr (.inr _) => False
  | _ => True
theorem mj_en_nb {tys : List (ClassId × FieldType)} {ad : Nat → Nat} {bi a : Nat} {b : mj_B} {o : mj_O} (h : mj_nb o) : (mj_en tys ad bi b a o).1 = ad a := by
  rcases o with o | o | o
  · rfl
  · rfl
  · exact h.elim
theorem mj_bd_set {b : mj_B} {os : List mj_O} {a : Nat} {o o' : mj_O} (h : mj_bd b os) (ha : mj_nth os a = some o) (ho : mj_nb o) (ho' : mj_nb o') : mj_bd b (mj_stn os a o') := by
  intro i n f hi
  rw [mj_nth_get, mj_stn_set] at hi
  rw [mj_nth_get] at ha
  have ne : i ≠ a := by
    intro e
    subst e
    rw [List.getElem?_set_self (List.getElem?_eq_some_iff.mp ha).1] at hi
    cases hi
    exact ho'.elim
  rw [List.getElem?_set_ne (fun q => ne q.symm)] at hi
  obtain ⟨h1, h2⟩ := h i n f (by rw [mj_nth_get]; exact hi)
  refine ⟨?_, h2⟩
  rw [mj_nth_get] at h1
  have ne2 : i + 1 ≠ a := by
    intro e
    subst e
    rw [ha] at h1
    cases h1
    exact ho.elim
  rw [mj_nth_get, mj_stn_set, List.getElem?_set_ne (fun q => ne2 q.symm)]
  exact h1
theorem mj_rep_put {D : va_G} {cl : List vw_C} {tys : List (ClassId × FieldType)} {ad : Nat → Nat} {bi a : Nat} {z : Nat → Prop} {h : mj_H} {H H1 : Heap} {o o' : mj_O} (hr : mj_rep D cl tys ad bi z h H) (ho : mj_nth h.1 a = some o) (hm : mj_nb o) (hn : mj_nb o') (hat : ∀ b, va_at D cl (mj_en tys ad bi b a o') H1) (hz : H1.size = H.size) (hq : ∀ q : Nat, q ≠ ad a → H1[q]? = H[q]?) : mj_rep D cl tys ad bi z (mj_set h a o') H1 := by
  obtain ⟨⟨b, hP, hD, hB⟩, hs, hvs⟩ := hr
  have he := mj_at (tys := tys) (ad := ad) (bi := bi) (b := b) ho
  have e1 : (mj_ws tys ad bi b 0 h.1).set a (mj_en tys ad bi b a o') = mj_ws tys ad bi b 0 (mj_stn h.1 a o') := by
    have := mj_ws_set (tys := tys) (ad := ad) (bi := bi) (b := b) (k := 0) (i := a) (os := h.1) (o := o')
    rw [Nat.zero_add] at this
    exact this
  have f1 : mj_en tys ad bi b a o = (ad a, (mj_en tys ad bi b a o).2) := Prod.ext (mj_en_nb hm) rfl
  have f2 : mj_en tys ad bi b a o' = (ad a, (mj_en tys ad bi b a o').2) := Prod.ext (mj_en_nb hn) rfl
  rw [f1] at he
  refine ⟨⟨b, ?_, ?_, mj_bd_set hB ho hm hn⟩, fun hop => ?_, fun q cell hq1 hq2 => ?_, fun q hq9 => hvs.2 q (by rw [← hz]; exact hq9)⟩
  · show va_P D cl (mj_ws tys ad bi b 0 (mj_stn h.1 a o')) H1
    rw [← e1, f2]
    exact hP.set hD he (by rw [← f2]; exact hat b) hq
  · show va_D (mj_A z) (mj_ws tys ad bi b 0 (mj_stn h.1 a o'))
    rw [← e1, f2]
    exact hD.set he
  · have h9 := hs hop
    show mj_nu ad (mj_stn h.1 a o').length H1
    rw [mj_stn_set, List.length_set]
    exact ⟨hz.trans h9.1, h9.2⟩
  · by_cases hqa : q = ad a
    · subst hqa
      exact mj_at_vm (hat b) (by rw [mj_en_nb hn]; exact hq2)
    · rw [hq q hqa] at hq2
      exact hvs.1 q cell hq1 hq2
theorem mj_in_A {D : va_G} {cl : List vw_C} {tys : List (ClassId × FieldType)} {ad : Nat → Nat} {bi a : Nat} {z : Nat → Prop} {h : mj_H} {H : Heap} {o : mj_O} (hr : mj_rep D cl tys ad bi z h H) (ho : mj_nth h.1 a = some o) (hm : mj_nb o) : mj_A z (ad a) := by
  obtain ⟨⟨b, hP, hD, hB⟩, hs, hvs⟩ := hr
  have := hD.2 a _ (mj_at ho)
  rw [mj_en_nb hm] at this
  exact this
theorem mj_cellA {D : va_G} {cl : List vw_C} {tys : List (ClassId × FieldType)} {ad : Nat → Nat} {bi a t : Nat} {z : Nat → Prop} {h : mj_H} {H : Heap} {x : vp_A} {cA : ClassId} {ty : FieldType} (ht : tys[t]? = some (cA, ty)) (hr : mj_rep D cl tys ad bi z h H) (ho : mj_nth h.1 a = some (.inl (t, x))) : H[ad a]? = some (vp_cell cA x) := by
  obtain ⟨⟨b, hP, hD, hB⟩, hs, hvs⟩ := hr
  have := hP a _ (mj_at ho)
  simp only [mj_en, va_at, mj_tc, ht, Option.map_some, Option.getD_some] at this
  exact this
section MJQ
variable {p : Program} {l : Launch} {e : Env} {R : Room} {s : State} {m : MethodId} {args : Array Value} {below : List Frame} {meth : Method} {c : Code}
variable {D : va_G} {cl : List vw_C} {tys : List (ClassId × FieldType)} {ad : Nat → Nat} {bi : Nat} {z : Nat → Prop} {nL : Nat} {off : Nat → Nat} {QQ : State → Prop} {b0 b1 : Nat} {cc : ByteArray} {pc : Nat} {ls : mj_L} {r : List Value} {h : mj_H}
theorem mj_so_iald (hx : p.tables.exec = Jvm.exec) (hb : c.code = cc) (hK : va_K D cl tys s) {cA : ClassId} (ht : tys[0]? = some (cA, .int)) {a w : Nat} {g : Nat → Int32} {i : Int32} (ha : mj_nth h.1 a = some (.inl (0, w, .inl g))) (hin : vp_in i w) (hd : decode cc (off pc) = .ok (.iaload, 1)) (ho : off (pc + 1) = off pc + 1) (kk : mj_J p l e R s m args below meth c D cl tys ad bi z nL off QQ b0 b1 (pc + 1) ls (.int (g i.toNatClampNeg) :: r) h) : mj_J p l e R s m args below meth c D cl tys ad bi z nL off QQ b0 b1 pc ls (.int i :: .ref a :: r) h := by
  intro H locs k n L hl hr hS h1 h2
  have K := kk H locs k n L hl hr hS h1 h2
  rw [ho] at K
  have hlt : i.toNatClampNeg < w := Nat.not_le.mp fun q => hin (Or.inr q)
  have hc := mj_cellA ht hr ha
  rw [vp_cell_i] at hc
  exact W.iald (v := .int (g i.toNatClampNeg)) hx hb hc ((hK.2 0 _ ht).1 w (fun j => .int (g j))) (fun q => by cases q) (by rw [arrV_size]; exact hin) (by rw [arrV_read _ _ hlt]) rfl rfl hd K
theorem mj_so_iast (hx : p.tables.exec = Jvm.exec) (hb : c.code = cc) (hK : va_K D cl tys s) {cA : ClassId} (ht : tys[0]? = some (cA, .int)) {a w : Nat} {g : Nat → Int32} {i : Int32} {x : Int32} (ha : mj_nth h.1 a = some (.inl (0, w, .inl g))) (hin : vp_in i w) (hd : decode cc (off pc) = .ok (.iastore, 1)) (ho : off (pc + 1) = off pc + 1) (kk : mj_J p l e R s m args below meth c D cl tys ad bi z nL off QQ b0 b1 (pc + 1) ls r (mj_set h a (.inl (0, w, .inl (upd g i.toNatClampNeg (x)))))) : mj_J p l e R s m args below meth c D cl tys ad bi z nL off QQ b0 b1 pc ls (.int x :: .int i :: .ref a :: r) h := by
  intro H locs k n L hl hr hS h1 h2
  have hc := mj_cellA ht hr ha
  rw [vp_cell_i] at hc
  refine W.iast hx hb hc ((hK.2 0 _ ht).1 w (fun j => .int (g j))) (fun q => by cases q) (by rw [arrV_size]; exact hin) rfl rfl hd fun H1 e9 z9 o9 => ?_
  have hA := mj_in_A hr ha trivial
  have hr1 : mj_rep D cl tys ad bi z (mj_set h a (.inl (0, w, .inl (upd g i.toNatClampNeg (x))))) H1 := by
    refine mj_rep_put hr ha trivial trivial (fun b => ?_) z9 o9
    show H1[ad a]? = some (vp_cell _ _)
    rw [e9, arrV_store]
    simp only [mj_tc, ht, Option.map_some, Option.getD_some]
    rw [vp_cell_i]
    congr 2
    funext q
    by_cases hq : q = i.toNatClampNeg
    · subst hq
      simp [updV, upd, vp_nar]
      try rfl
    · simp [updV, upd, hq]
  have K := kk H1 (locs ++ [⟨ad a, i.toNatClampNeg⟩]) k n L hl hr1 (hS.put z9 o9 hA) h1 h2
  rw [ho] at K
  exact K
theorem mj_so_lald (hx : p.tables.exec = Jvm.exec) (hb : c.code = cc) (hK : va_K D cl tys s) {cA : ClassId} (ht : tys[1]? = some (cA, .long)) {a w : Nat} {g : Nat → Int64} {i : Int32} (ha : mj_nth h.1 a = some (.inl (1, w, .inr (.inl g)))) (hin : vp_in i w) (hd : decode cc (off pc) = .ok (.laload, 1)) (ho : off (pc + 1) = off pc + 1) (kk : mj_J p l e R s m args below meth c D cl tys ad bi z nL off QQ b0 b1 (pc + 1) ls (.long (g i.toNatClampNeg) :: r) h) : mj_J p l e R s m args below meth c D cl tys ad bi z nL off QQ b0 b1 pc ls (.int i :: .ref a :: r) h := by
  intro H locs k n L hl hr hS h1 h2
  have K := kk H locs k n L hl hr hS h1 h2
  rw [ho] at K
  have hlt : i.toNatClampNeg < w := Nat.not_le.mp fun q => hin (Or.inr q)
  have hc := mj_cellA ht hr ha
  rw [vp_cell_l] at hc
  exact W.lald (v := .long (g i.toNatClampNeg)) hx hb hc ((hK.2 1 _ ht).1 w (fun j => .long (g j))) (fun q => by cases q) (by rw [arrV_size]; exact hin) (by rw [arrV_read _ _ hlt]) rfl rfl hd K
theorem mj_so_last (hx : p.tables.exec = Jvm.exec) (hb : c.code = cc) (hK : va_K D cl tys s) {cA : ClassId} (ht : tys[1]? = some (cA, .long)) {a w : Nat} {g : Nat → Int64} {i : Int32} {x : Int64} (ha : mj_nth h.1 a = some (.inl (1, w, .inr (.inl g)))) (hin : vp_in i w) (hd : decode cc (off pc) = .ok (.lastore, 1)) (ho : off (pc + 1) = off pc + 1) (kk : mj_J p l e R s m args below meth c D cl tys ad bi z nL off QQ b0 b1 (pc + 1) ls r (mj_set h a (.inl (1, w, .inr (.inl (vp_updL g i.toNatClampNeg (x))))))) : mj_J p l e R s m args below meth c D cl tys ad bi z nL off QQ b0 b1 pc ls (.long x :: .int i :: .ref a :: r) h := by
  intro H locs k n L hl hr hS h1 h2
  have hc := mj_cellA ht hr ha
  rw [vp_cell_l] at hc
  refine W.last hx hb hc ((hK.2 1 _ ht).1 w (fun j => .long (g j))) (fun q => by cases q) (by rw [arrV_size]; exact hin) rfl rfl hd fun H1 e9 z9 o9 => ?_
  have hA := mj_in_A hr ha trivial
  have hr1 : mj_rep D cl tys ad bi z (mj_set h a (.inl (1, w, .inr (.inl (vp_updL g i.toNatClampNeg (x)))))) H1 := by
    refine mj_rep_put hr ha trivial trivial (fun b => ?_) z9 o9
    show H1[ad a]? = some (vp_cell _ _)
    rw [e9, arrV_store]
    simp only [mj_tc, ht, Option.map_some, Option.getD_some]
    rw [vp_cell_l]
    congr 2
    funext q
    by_cases hq : q = i.toNatClampNeg
    · subst hq
      simp [updV, vp_updL, vp_nar]
      try rfl
    · simp [updV, vp_updL, hq]
  have K := kk H1 (locs ++ [⟨ad a, i.toNatClampNeg⟩]) k n L hl hr1 (hS.put z9 o9 hA) h1 h2
  rw [ho] at K
  exact K
theorem mj_so_cald (hx : p.tables.exec = Jvm.exec) (hb : c.code = cc) (hK : va_K D cl tys s) {cA : ClassId} (ht : tys[2]? = some (cA, .char)) {a w : Nat} {g : Nat → Int32} {i : Int32} (ha : mj_nth h.1 a = some (.inl (2, w, .inl g))) (hin : vp_in i w) (hd : decode cc (off pc) = .ok (.caload, 1)) (ho : off (pc + 1) = off pc + 1) (kk : mj_J p l e R s m args below meth c D cl tys ad bi z nL off QQ b0 b1 (pc + 1) ls (.int (g i.toNatClampNeg) :: r) h) : mj_J p l e R s m args below meth c D cl tys ad bi z nL off QQ b0 b1 pc ls (.int i :: .ref a :: r) h := by
  intro H locs k n L hl hr hS h1 h2
  have K := kk H locs k n L hl hr hS h1 h2
  rw [ho] at K
  have hlt : i.toNatClampNeg < w := Nat.not_le.mp fun q => hin (Or.inr q)
  have hc := mj_cellA ht hr ha
  rw [vp_cell_i] at hc
  exact W.cald (v := .int (g i.toNatClampNeg)) hx hb hc ((hK.2 2 _ ht).1 w (fun j => .int (g j))) (fun q => by cases q) (by rw [arrV_size]; exact hin) (by rw [arrV_read _ _ hlt]) rfl rfl hd K
theorem mj_so_cast (hx : p.tables.exec = Jvm.exec) (hb : c.code = cc) (hK : va_K D cl tys s) {cA : ClassId} (ht : tys[2]? = some (cA, .char)) {a w : Nat} {g : Nat → Int32} {i : Int32} {x : Int32} (ha : mj_nth h.1 a = some (.inl (2, w, .inl g))) (hin : vp_in i w) (hd : decode cc (off pc) = .ok (.castore, 1)) (ho : off (pc + 1) = off pc + 1) (kk : mj_J p l e R s m args below meth c D cl tys ad bi z nL off QQ b0 b1 (pc + 1) ls r (mj_set h a (.inl (2, w, .inl (upd g i.toNatClampNeg (vp_nar .char x)))))) : mj_J p l e R s m args below meth c D cl tys ad bi z nL off QQ b0 b1 pc ls (.int x :: .int i :: .ref a :: r) h := by
  intro H locs k n L hl hr hS h1 h2
  have hc := mj_cellA ht hr ha
  rw [vp_cell_i] at hc
  refine W.cast hx hb hc ((hK.2 2 _ ht).1 w (fun j => .int (g j))) (fun q => by cases q) (by rw [arrV_size]; exact hin) rfl rfl hd fun H1 e9 z9 o9 => ?_
  have hA := mj_in_A hr ha trivial
  have hr1 : mj_rep D cl tys ad bi z (mj_set h a (.inl (2, w, .inl (upd g i.toNatClampNeg (vp_nar .char x))))) H1 := by
    refine mj_rep_put hr ha trivial trivial (fun b => ?_) z9 o9
    show H1[ad a]? = some (vp_cell _ _)
    rw [e9, arrV_store]
    simp only [mj_tc, ht, Option.map_some, Option.getD_some]
    rw [vp_cell_i]
    congr 2
    funext q
    by_cases hq : q = i.toNatClampNeg
    · subst hq
      simp [updV, upd, vp_nar]
      try rfl
    · simp [updV, upd, hq]
  have K := kk H1 (locs ++ [⟨ad a, i.toNatClampNeg⟩]) k n L hl hr1 (hS.put z9 o9 hA) h1 h2
  rw [ho] at K
  exact K
theorem mj_so_zald (hx : p.tables.exec = Jvm.exec) (hb : c.code = cc) (hK : va_K D cl tys s) {cA : ClassId} (ht : tys[3]? = some (cA, .boolean)) {a w : Nat} {g : Nat → Int32} {i : Int32} (ha : mj_nth h.1 a = some (.inl (3, w, .inl g))) (hin : vp_in i w) (hd : decode cc (off pc) = .ok (.baload, 1)) (ho : off (pc + 1) = off pc + 1) (kk : mj_J p l e R s m args below meth c D cl tys ad bi z nL off QQ b0 b1 (pc + 1) ls (.int (g i.toNatClampNeg) :: r) h) : mj_J p l e R s m args below meth c D cl tys ad bi z nL off QQ b0 b1 pc ls (.int i :: .ref a :: r) h := by
  intro H locs k n L hl hr hS h1 h2
  have K := kk H locs k n L hl hr hS h1 h2
  rw [ho] at K
  have hlt : i.toNatClampNeg < w := Nat.not_le.mp fun q => hin (Or.inr q)
  have hc := mj_cellA ht hr ha
  rw [vp_cell_i] at hc
  exact W.zald (v := .int (g i.toNatClampNeg)) hx hb hc ((hK.2 3 _ ht).1 w (fun j => .int (g j))) (fun q => by cases q) (by rw [arrV_size]; exact hin) (by rw [arrV_read _ _ hlt]) rfl rfl hd K
theorem mj_so_zast (hx : p.tables.exec = Jvm.exec) (hb : c.code = cc) (hK : va_K D cl tys s) {cA : ClassId} (ht : tys[3]? = some (cA, .boolean)) {a w : Nat} {g : Nat → Int32} {i : Int32} {x : Int32} (ha : mj_nth h.1 a = some (.inl (3, w, .inl g))) (hin : vp_in i w) (hd : decode cc (off pc) = .ok (.bastore, 1)) (ho : off (pc + 1) = off pc + 1) (kk : mj_J p l e R s m args below meth c D cl tys ad bi z nL off QQ b0 b1 (pc + 1) ls r (mj_set h a (.inl (3, w, .inl (upd g i.toNatClampNeg (vp_nar .boolean x)))))) : mj_J p l e R s m args below meth c D cl tys ad bi z nL off QQ b0 b1 pc ls (.int x :: .int i :: .ref a :: r) h := by
  intro H locs k n L hl hr hS h1 h2
  have hc := mj_cellA ht hr ha
  rw [vp_cell_i] at hc
  refine W.zast hx hb hc ((hK.2 3 _ ht).1 w (fun j => .int (g j))) (fun q => by cases q) (by rw [arrV_size]; exact hin) rfl rfl hd fun H1 e9 z9 o9 => ?_
  have hA := mj_in_A hr ha trivial
  have hr1 : mj_rep D cl tys ad bi z (mj_set h a (.inl (3, w, .inl (upd g i.toNatClampNeg (vp_nar .boolean x))))) H1 := by
    refine mj_rep_put hr ha trivial trivial (fun b => ?_) z9 o9
    show H1[ad a]? = some (vp_cell _ _)
    rw [e9, arrV_store]
    simp only [mj_tc, ht, Option.map_some, Option.getD_some]
    rw [vp_cell_i]
    congr 2
    funext q
    by_cases hq : q = i.toNatClampNeg
    · subst hq
      simp [updV, upd, vp_nar]
      try rfl
    · simp [updV, upd, hq]
  have K := kk H1 (locs ++ [⟨ad a, i.toNatClampNeg⟩]) k n L hl hr1 (hS.put z9 o9 hA) h1 h2
  rw [ho] at K
  exact K
theorem mj_so_bald (hx : p.tables.exec = Jvm.exec) (hb : c.code = cc) (hK : va_K D cl tys s) {cA : ClassId} (ht : tys[4]? = some (cA, .byte)) {a w : Nat} {g : Nat → Int32} {i : Int32} (ha : mj_nth h.1 a = some (.inl (4, w, .inl g))) (hin : vp_in i w) (hd : decode cc (off pc) = .ok (.baload, 1)) (ho : off (pc + 1) = off pc + 1) (kk : mj_J p l e R s m args below meth c D cl tys ad bi z nL off QQ b0 b1 (pc + 1) ls (.int (g i.toNatClampNeg) :: r) h) : mj_J p l e R s m args below meth c D cl tys ad bi z nL off QQ b0 b1 pc ls (.int i :: .ref a :: r) h := by
  intro H locs k n L hl hr hS h1 h2
  have K := kk H locs k n L hl hr hS h1 h2
  rw [ho] at K
  have hlt : i.toNatClampNeg < w := Nat.not_le.mp fun q => hin (Or.inr q)
  have hc := mj_cellA ht hr ha
  rw [vp_cell_i] at hc
  exact W.bald (v := .int (g i.toNatClampNeg)) hx hb hc ((hK.2 4 _ ht).1 w (fun j => .int (g j))) (fun q => by cases q) (by rw [arrV_size]; exact hin) (by rw [arrV_read _ _ hlt]) rfl rfl hd K
theorem mj_so_bast (hx : p.tables.exec = Jvm.exec) (hb : c.code = cc) (hK : va_K D cl tys s) {cA : ClassId} (ht : tys[4]? = some (cA, .byte)) {a w : Nat} {g : Nat → Int32} {i : Int32} {x : Int32} (ha : mj_nth h.1 a = some (.inl (4, w, .inl g))) (hin : vp_in i w) (hd : decode cc (off pc) = .ok (.bastore, 1)) (ho : off (pc + 1) = off pc + 1) (kk : mj_J p l e R s m args below meth c D cl tys ad bi z nL off QQ b0 b1 (pc + 1) ls r (mj_set h a (.inl (4, w, .inl (upd g i.toNatClampNeg (vp_nar .byte x)))))) : mj_J p l e R s m args below meth c D cl tys ad bi z nL off QQ b0 b1 pc ls (.int x :: .int i :: .ref a :: r) h := by
  intro H locs k n L hl hr hS h1 h2
  have hc := mj_cellA ht hr ha
  rw [vp_cell_i] at hc
  refine W.bast hx hb hc ((hK.2 4 _ ht).1 w (fun j => .int (g j))) (fun q => by cases q) (by rw [arrV_size]; exact hin) rfl rfl hd fun H1 e9 z9 o9 => ?_
  have hA := mj_in_A hr ha trivial
  have hr1 : mj_rep D cl tys ad bi z (mj_set h a (.inl (4, w, .inl (upd g i.toNatClampNeg (vp_nar .byte x))))) H1 := by
    refine mj_rep_put hr ha trivial trivial (fun b => ?_) z9 o9
    show H1[ad a]? = some (vp_cell _ _)
    rw [e9, arrV_store]
    simp only [mj_tc, ht, Option.map_some, Option.getD_some]
    rw [vp_cell_i]
    congr 2
    funext q
    by_cases hq : q = i.toNatClampNeg
    · subst hq
      simp [updV, upd, vp_nar]
      try rfl
    · simp [updV, upd, hq]
  have K := kk H1 (locs ++ [⟨ad a, i.toNatClampNeg⟩]) k n L hl hr1 (hS.put z9 o9 hA) h1 h2
  rw [ho] at K
  exact K
theorem mj_so_alen (hx : p.tables.exec = Jvm.exec) (hb : c.code = cc) (hK : va_K D cl tys s) {cA : ClassId} {t : Nat} {ty : FieldType} (ht : tys[t]? = some (cA, ty)) {a w : Nat} {y : (Nat → Int32) ⊕ (Nat → Int64) ⊕ (Nat → UInt32) ⊕ (Nat → UInt64) ⊕ (Nat → Option Nat)} (ha : mj_nth h.1 a = some (.inl (t, w, y))) (hd : decode cc (off pc) = .ok (.arraylength, 1)) (ho : off (pc + 1) = off pc + 1) (kk : mj_J p l e R s m args below meth c D cl tys ad bi z nL off QQ b0 b1 (pc + 1) ls (.int (Int32.ofNat w) :: r) h) : mj_J p l e R s m args below meth c D cl tys ad bi z nL off QQ b0 b1 pc ls (.ref a :: r) h := by
  intro H locs k n L hl hr hS h1 h2
  have K := kk H locs k n L hl hr hS h1 h2
  rw [ho] at K
  obtain ⟨⟨b, hP, hD, hB⟩, hs, hvs⟩ := hr
  have he := mj_at (tys := tys) (ad := ad) (bi := bi) (b := b) ha
  simp only [mj_en, mj_tc, ht, Option.map_some, Option.getD_some] at he
  exact va_alen hx hb hK hP a t he ht rfl hd K
theorem mj_so_get (hx : p.tables.exec = Jvm.exec) (hb : c.code = cc) {own : String} (hown : s.vm.findClass own = some m.cls) {TS : List Cond} (hts : ∀ w ∈ TS, w.before args s = true) (hK : va_K D cl tys s) {a ci j idx N : Nat} {C : String} {T : u_T} {fs : List Value} {v : Value} (ha : mj_nth h.1 a = some (.inr (.inl (ci, fs)))) (hc : cl[ci]? = some (C, T, N)) (hj : j < N) (hlink : Jvm.Cond.fieldLink own idx (T j).1 (T j).2.1 (T j).2.2.1 ∈ TS) (hin : ∀ w ∈ u_ws C T N, w ∈ TS) (hv : mj_nth fs j = some v) (hd : decode cc (off pc) = .ok (.getfield idx, 3)) (ho : off (pc + 1) = off pc + 3) (kk : mj_J p l e R s m args below meth c D cl tys ad bi z nL off QQ b0 b1 (pc + 1) ls (v :: r) h) : mj_J p l e R s m args below meth c D cl tys ad bi z nL off QQ b0 b1 pc ls (.ref a :: r) h := by
  intro H locs k n L hl hr hS h1 h2
  have K := kk H locs k n L hl hr hS h1 h2
  rw [ho] at K
  obtain ⟨⟨b, hP, hD, hB⟩, hs, hvs⟩ := hr
  have he := mj_at (tys := tys) (ad := ad) (bi := bi) (b := b) ha
  exact va_get hx hb hts hin hown hK hP a he hc j hj (hts _ hlink) (fun _ h9 => h9) (by rw [List.getElem?_map, ← mj_nth_get, hv]; rfl) hd K
end MJQ
