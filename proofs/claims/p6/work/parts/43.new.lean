section MJN
variable {p : Program} {l : Launch} {e : Env} {R : Room} {s : State} {m : MethodId} {args : Array Value} {below : List Frame} {meth : Method} {c : Code}
variable {D : va_G} {cl : List vw_C} {tys : List (ClassId × FieldType)} {ad : Nat → Nat} {bi : Nat} {z : Nat → Prop} {nL : Nat} {off : Nat → Nat} {QQ : State → Prop} {b0 b1 : Nat} {cc : ByteArray} {pc : Nat} {ls : mj_L} {r : List Value} {h : mj_H}
theorem mj_so_put (hx : p.tables.exec = Jvm.exec) (hb : c.code = cc) {own : String} (hown : s.vm.findClass own = some m.cls) {TS : List Cond} (hts : ∀ w ∈ TS, w.before args s = true) (hK : va_K D cl tys s) {a ci j idx N : Nat} {C : String} {T : u_T} {fs : List Value} {v : Value} (ty0 : Nat → FieldType) (hty : ∀ k, k < N → parseFieldDescriptor (T k).2.2.1 = some (ty0 k)) (hnm : ∀ a, a < N → ∀ b, b < N → a ≠ b → (T a).2.1 ≠ (T b).2.1) (ha : mj_nth h.1 a = some (.inr (.inl (ci, fs)))) (hc : cl[ci]? = some (C, T, N)) (hj : j < N) (hlink : Jvm.Cond.fieldLink own idx (T j).1 (T j).2.1 (T j).2.2.1 ∈ TS) (hin : ∀ w ∈ u_ws C T N, w ∈ TS) (hfin : (T j).2.2.2 = false) (hn : narrow (ty0 j) (mj_tr ad v) = mj_tr ad v) (hfit : fits (ty0 j) (mj_tr ad v) = true) (hlen : j < fs.length) (hd : decode cc (off pc) = .ok (.putfield idx, 3)) (ho : off (pc + 1) = off pc + 3) (kk : mj_J p l e R s m args below meth c D cl tys ad bi z nL off QQ b0 b1 (pc + 1) ls r (mj_set h a (.inr (.inl (ci, mj_stn fs j v))))) : mj_J p l e R s m args below meth c D cl tys ad bi z nL off QQ b0 b1 pc ls (v :: .ref a :: r) h := by
  intro H locs k n L hl hr hS h1 h2
  have hA := mj_in_A hr ha trivial
  have hr0 := hr
  obtain ⟨⟨b, hP, hD, hB⟩, hs, hvs⟩ := hr
  have he := mj_at (tys := tys) (ad := ad) (bi := bi) (b := b) ha
  have hap := va_apart (own := own) hts hin ty0 hty hnm hK hc
  obtain ⟨q, g1, cell, q1, q2, q3, q4⟩ := hP a _ he
  have hq : q = (C, T, N) := Option.some.inj (g1.symm.trans hc)
  subst hq
  obtain ⟨hSl, hfc, kC, hkC, hkind⟩ := hK.1 ci _ hc
  obtain ⟨cf, kf, fi, f, hi, hsl⟩ := hSl j hj
  have hlay := hts _ (hin _ (u_in_lay hj))
  have hst := (u_facts hfc hkC (u_lays hts hin hj) hi).1
  unfold u_lay at hlay
  rw [if_neg (by rw [hfin]; decide)] at hlay
  have h6 := u_store hfc hkC hkind hlay hi (hty j hj) hn hfit
  refine W.putK hx hb (f := f) ⟨hown, hts _ hlink, ⟨_, _, _, hi⟩, hst⟩ (by rw [q2]; exact h6) q1 q3 (by rw [hsl]; exact k2_hasslot (q4 j hj)) rfl rfl hd fun H' e1 e2 e3 => ?_
  rw [hsl] at e1 ⊢
  have hr1 : mj_rep D cl tys ad bi z (mj_set h a (.inr (.inl (ci, mj_stn fs j v)))) H' := by
    refine mj_rep_put hr0 ha trivial trivial (fun b => ⟨_, hc, ?_⟩) e2 e3
    refine t_OB.to (V := updV (vp_V (fs.map (mj_tr ad))) j (mj_tr ad v)) ⟨_, e1, q2, q3, t_set q4 hap hj _⟩ (fun i _ => ?_)
    rw [vp_updV_set (by simpa using hlen), mj_stn_set, List.map_set]
  have K := kk H' (locs ++ [⟨ad a, D.2 ci j⟩]) k n L hl hr1 (hS.put e2 e3 hA) h1 h2
  rw [ho] at K
  exact K
theorem mj_so_putF (hx : p.tables.exec = Jvm.exec) (hb : c.code = cc) {own : String} (hown : s.vm.findClass own = some m.cls) {TS : List Cond} (hts : ∀ w ∈ TS, w.before args s = true) (hK : va_K D cl tys s) {a ci j idx N : Nat} {C : String} {T : u_T} {fs : List Value} {v : Value} (ty0 : Nat → FieldType) (hty : ∀ k, k < N → parseFieldDescriptor (T k).2.2.1 = some (ty0 k)) (hnm : ∀ a, a < N → ∀ b, b < N → a ≠ b → (T a).2.1 ≠ (T b).2.1) (ha : mj_nth h.1 a = some (.inr (.inl (ci, fs)))) (hc : cl[ci]? = some (C, T, N)) (hj : j < N) (hlink : Jvm.Cond.fieldLink own idx (T j).1 (T j).2.1 (T j).2.2.1 ∈ TS) (hin : ∀ w ∈ u_ws C T N, w ∈ TS) (hfin : (T j).2.2.2 = true) (hin2 : meth.name = "<init>") (hdecl : (T j).1 = own) (hn : narrow (ty0 j) (mj_tr ad v) = mj_tr ad v) (hfit : fits (ty0 j) (mj_tr ad v) = true) (hlen : j < fs.length) (hd : decode cc (off pc) = .ok (.putfield idx, 3)) (ho : off (pc + 1) = off pc + 3) (kk : mj_J p l e R s m args below meth c D cl tys ad bi z nL off QQ b0 b1 (pc + 1) ls r (mj_set h a (.inr (.inl (ci, mj_stn fs j v))))) : mj_J p l e R s m args below meth c D cl tys ad bi z nL off QQ b0 b1 pc ls (v :: .ref a :: r) h := by
  intro H locs k n L hl hr hS h1 h2
  have hA := mj_in_A hr ha trivial
  have hr0 := hr
  obtain ⟨⟨b, hP, hD, hB⟩, hs, hvs⟩ := hr
  have he := mj_at (tys := tys) (ad := ad) (bi := bi) (b := b) ha
  have hap := va_apart (own := own) hts hin ty0 hty hnm hK hc
  obtain ⟨q, g1, cell, q1, q2, q3, q4⟩ := hP a _ he
  have hq : q = (C, T, N) := Option.some.inj (g1.symm.trans hc)
  subst hq
  obtain ⟨hSl, hfc, kC, hkC, hkind⟩ := hK.1 ci _ hc
  obtain ⟨cf, kf, fi, f, hi, hsl⟩ := hSl j hj
  have hlay := hts _ (hin _ (u_in_lay hj))
  have hst := (u_facts hfc hkC (u_lays hts hin hj) hi).1
  unfold u_lay at hlay
  rw [if_pos hfin] at hlay
  have hcf : m.cls = cf := by
    obtain ⟨_, _, c', _, _, _, -, -, hf', -, -, -, hown2, -⟩ := Cond.laysFinal_spec hlay
    have e1 : c' = cf := by have := hi.symm.trans hf'; simp at this; exact this.1.symm
    rw [hdecl] at hown2
    rw [← e1]
    exact Option.some.inj (hown.symm.trans hown2)
  have h6 := u_fits hfc hkC hkind (Or.inr hlay) hi (hty j hj) hn hfit
  refine W.putFinK hx hb hown (hts _ hlink) hi hst hcf hin2 (by rw [q2]; exact h6) q1 q3 (by rw [hsl]; exact k2_hasslot (q4 j hj)) rfl rfl hd fun H' e1 e2 e3 => ?_
  rw [hsl] at e1 ⊢
  have hr1 : mj_rep D cl tys ad bi z (mj_set h a (.inr (.inl (ci, mj_stn fs j v)))) H' := by
    refine mj_rep_put hr0 ha trivial trivial (fun b => ⟨_, hc, ?_⟩) e2 e3
    refine t_OB.to (V := updV (vp_V (fs.map (mj_tr ad))) j (mj_tr ad v)) ⟨_, e1, q2, q3, t_set q4 hap hj _⟩ (fun i _ => ?_)
    rw [vp_updV_set (by simpa using hlen), mj_stn_set, List.map_set]
  have K := kk H' (locs ++ [⟨ad a, D.2 ci j⟩]) k n L hl hr1 (hS.put e2 e3 hA) h1 h2
  rw [ho] at K
  exact K
theorem mj_bd_app {b : mj_B} {os : List mj_O} {o : mj_O} (h : mj_bd b os) (ho : mj_nb o) : mj_bd b (os ++ [o]) := by
  intro i n f hi
  rw [mj_nth_get] at hi
  have hl : i < os.length := by
    rcases Nat.lt_or_ge i os.length with q | q
    · exact q
    · rw [List.getElem?_append_right q] at hi
      have : i - os.length = 0 := by
        have := (List.getElem?_eq_some_iff.mp hi).1
        simpa using this
      rw [this] at hi
      simp only [List.getElem?_cons_zero, Option.some.injEq] at hi
      subst hi
      exact ho.elim
  rw [List.getElem?_append_left hl] at hi
  obtain ⟨g1, g2⟩ := h i n f (by rw [mj_nth_get]; exact hi)
  refine ⟨?_, g2⟩
  rw [mj_nth_get] at g1 ⊢
  rw [List.getElem?_append_left (List.getElem?_eq_some_iff.mp g1).1]
  exact g1
theorem mj_rep_new {os : List mj_O} {k0 k1 k2 k3 : Nat} {o : mj_O} {H H1 : Heap} (had : True) (hlt : os.length < 999) (hr : mj_rep D cl tys ad bi z (os, k0, k1, true) H) (hn : mj_nb o) (hat : ∀ b, va_at D cl (mj_en tys ad bi b os.length o) H1) (hz : H1.size = H.size + 1) (hq : ∀ q : Nat, q < H.size → H1[q]? = H[q]?) : mj_rep D cl tys ad bi z (os ++ [o], k2, k3, true) H1 ∧ ad os.length = H.size := by
  obtain ⟨⟨b, hP, hD, hB⟩, hs, hvs⟩ := hr
  have hsz : H.size = ad os.length := (hs rfl).1
  have hadd : ad os.length = H.size := hsz.symm
  have e1 : mj_ws tys ad bi b 0 (os ++ [o]) = mj_ws tys ad bi b 0 os ++ [(ad os.length, (mj_en tys ad bi b os.length o).2)] := by
    rw [mj_ws_app, Nat.zero_add]
    congr 2
    exact Prod.ext (mj_en_nb hn) rfl
  refine ⟨⟨⟨b, ?_, ?_, mj_bd_app hB hn⟩, fun _ => ?_, fun q cell hq1 hq2 => ?_, fun q hq9 => hvs.2 q (by omega)⟩, hadd⟩
  · show va_P D cl (mj_ws tys ad bi b 0 (os ++ [o])) H1
    rw [e1]
    refine (hP.kept fun k x hx => hq x.1 (hP k x hx).lt).app (fun k x hx => ?_)
    have hz : k < 1 := (List.getElem?_eq_some_iff.mp hx).1
    rw [show k = 0 by omega] at hx
    cases hx
    have := hat b
    rw [show mj_en tys ad bi b os.length o = (ad os.length, (mj_en tys ad bi b os.length o).2) from Prod.ext (mj_en_nb hn) rfl] at this
    exact this
  · show va_D (mj_A z) (mj_ws tys ad bi b 0 (os ++ [o]))
    rw [e1]
    exact hD.push hP hadd (by show z (ad os.length); rw [hadd]; exact hvs.2 _ (Nat.le_refl _))
  · show mj_nu ad (os ++ [o]).length H1
    have h9 := (hs rfl).2
    rw [List.length_append, List.length_singleton]
    refine ⟨?_, fun i hi => h9 i (Nat.le_trans (Nat.le_succ _) hi)⟩
    rw [hz, hsz]
    exact (h9 os.length (Nat.le_refl _) hlt).symm
  · rcases Nat.lt_or_ge q H.size with g | g
    · rw [hq q g] at hq2
      exact hvs.1 q cell hq1 hq2
    · have hlt2 : q < H1.size := (Array.getElem?_eq_some_iff.mp hq2).1
      have e9 : q = ad os.length := by rw [hadd]; omega
      subst e9
      exact mj_at_vm (hat b) (by rw [mj_en_nb hn]; exact hq2)
theorem mj_so_new (hx : p.tables.exec = Jvm.exec) (hb : c.code = cc) (had : True) {own : String} (hown : s.vm.findClass own = some m.cls) {TS : List Cond} (hts : ∀ w ∈ TS, w.before args s = true) (hK : va_K D cl tys s) (hR : R.cells = b0 ∧ R.slots = b1) {ci idx N : Nat} {C : String} {T : u_T} {fs : List Value} {os : List mj_O} {k0 k1 : Nat} (ty0 : Nat → FieldType) (hty : ∀ k, k < N → parseFieldDescriptor (T k).2.2.1 = some (ty0 k)) (hc : cl[ci]? = some (C, T, N)) (hcl : Jvm.Cond.classLink own idx C ∈ TS) (hins : Jvm.Cond.instantiable C N ∈ TS) (hini : Jvm.Cond.initialized C ∈ TS) (hin : ∀ w ∈ u_ws C T N, w ∈ TS) (hfs : ∀ j, j < N → defaultValue (ty0 j) = vp_V (fs.map (mj_tr ad)) j) (hN : fs.length = N) (hlt : os.length < 999) (hsl : fs.length ≤ k1) (hd : decode cc (off pc) = .ok (.new idx, 3)) (ho : off (pc + 1) = off pc + 3) (kk : mj_J p l e R s m args below meth c D cl tys ad bi z nL off QQ b0 b1 (pc + 1) ls (.ref os.length :: r) (os ++ [.inr (.inl (ci, fs))], k0, k1 - fs.length, true)) : mj_J p l e R s m args below meth c D cl tys ad bi z nL off QQ b0 b1 pc ls r (os, k0 + 1, k1, true) := by
  intro H locs k n L hl hr hS h1 h2
  have h1' : k + (k0 + 1) ≤ b0 := h1
  have h2' : n + k1 ≤ b1 := h2
  have hKn := hK.1 ci _ hc
  refine W.newcK hx hb hown (hts _ hcl) (hts _ hins) (hts _ hini) rfl hd (by rw [hR.1]; omega) (by rw [hR.2]; omega) hKn.2.1 rfl fun H1 kC hkC e1 z1 o1 => ?_
  obtain ⟨hr1, hadd⟩ := mj_rep_new (o := .inr (.inl (ci, fs))) (k2 := k0) (k3 := k1 - fs.length) had hlt hr trivial (fun b => ⟨_, hc, by
    have := (u_born ty0 hts hin hKn hkC e1 hty).to hfs
    have hsz : H.size = ad os.length := (hr.2.1 rfl).1
    show t_OB (ad os.length) (D.1 ci) N (D.2 ci) H1 (vp_V (fs.map (mj_tr ad)))
    rw [← hsz]
    exact this⟩) z1 o1
  have K := kk H1 locs (k + 1) (n + N) L hl hr1 ⟨Nat.le_trans hS.1 (by omega), fun x g1 g2 => (o1 x (Nat.lt_of_lt_of_le g1 hS.1)).trans (hS.2.1 x g1 g2), hS.2.2⟩ (by show k + 1 + k0 ≤ b0; omega) (by show n + N + (k1 - fs.length) ≤ b1; omega)
  rw [ho] at K
  simp only [List.map_cons, mj_tr, hadd] at K
  exact K
theorem mj_so_newa (hx : p.tables.exec = Jvm.exec) (hb : c.code = cc) (had : True) (hK : va_K D cl tys s) (hR : R.cells = b0 ∧ R.slots = b1) {TS : List Cond} (hts : ∀ w ∈ TS, w.before args s = true) {at_ : ArrayType} {t : Nat} {cA : ClassId} {ty : FieldType} (hty : newarray.typeOf at_ = ty) (harr : Jvm.Cond.arrayClass ty ∈ TS) (ht : tys[t]? = some (cA, ty)) (hpr : va_RA s cA ty = (s.vm.findClass ("[" ++ ty.toString) = some cA)) {w : Int32} {a0 : vp_A} {os : List mj_O} {k0 k1 : Nat} (ha : ∀ cA : ClassId, vp_cell cA a0 = arrV cA w.toNatClampNeg (fun _ => defaultValue ty)) (hn : ¬ w < 0) (hw : w.toNatClampNeg ≤ 2000) (hcb : componentBytes ty ≤ 8) (hlt : os.length < 999) (hsl : w.toNatClampNeg ≤ k1) (hd : decode cc (off pc) = .ok (.newarray at_, 2)) (ho : off (pc + 1) = off pc + 2) (kk : mj_J p l e R s m args below meth c D cl tys ad bi z nL off QQ b0 b1 (pc + 1) ls (.ref os.length :: r) (os ++ [.inl (t, a0)], k0, k1 - w.toNatClampNeg, true)) : mj_J p l e R s m args below meth c D cl tys ad bi z nL off QQ b0 b1 pc ls (.int w :: r) (os, k0 + 1, k1, true) := by
  intro H locs k n L hl hr hS h1 h2
  have h1' : k + (k0 + 1) ≤ b0 := h1
  have h2' : n + k1 ≤ b1 := h2
  subst hty
  have hbytes : w.toNatClampNeg * componentBytes (newarray.typeOf at_) ≤ 536870912 := by
    have := Nat.mul_le_mul hw hcb
    omega
  refine va_newaK hx hb (hts _ harr) rfl hd rfl hn rfl hbytes (by rw [hR.1]; omega) (by rw [hR.2]; omega) rfl fun H1 cB e1 z1 o1 hAr hNm => ?_
  have hcc : cB = cA := by
    have h3 := (hK.2 t _ ht).2
    rw [hpr] at h3
    exact Option.some.inj (hNm.symm.trans h3)
  subst hcc
  have hsz : H.size = ad os.length := (hr.2.1 rfl).1
  obtain ⟨hr1, hadd⟩ := mj_rep_new (o := .inl (t, a0)) (k2 := k0) (k3 := k1 - w.toNatClampNeg) had hlt hr trivial (fun b => by
    show H1[ad os.length]? = some (vp_cell (mj_tc tys t) a0)
    simp only [mj_tc, ht, Option.map_some, Option.getD_some]
    rw [ha, ← hsz]
    exact e1) z1 o1
  have K := kk H1 locs (k + 1) (n + w.toNatClampNeg) L hl hr1 ⟨Nat.le_trans hS.1 (by omega), fun x g1 g2 => (o1 x (Nat.lt_of_lt_of_le g1 hS.1)).trans (hS.2.1 x g1 g2), hS.2.2⟩ (by show k + 1 + k0 ≤ b0; omega) (by show n + w.toNatClampNeg + (k1 - w.toNatClampNeg) ≤ b1; omega)
  rw [ho] at K
  simp only [List.map_cons, mj_tr, hadd] at K
  exact K
theorem mj_so_cald0 (hx : p.tables.exec = Jvm.exec) (hb : c.code = cc) {a w : Nat} {g : Nat → Int32} {i : Int32} (hT : va_T .int (ad a) w (fun j => .int (g j)) (mj_A z) s s.heap) (hin : vp_in i w) (hd : decode cc (off pc) = .ok (.iaload, 1)) (ho : off (pc + 1) = off pc + 1) (kk : mj_J p l e R s m args below meth c D cl tys ad bi z nL off QQ b0 b1 (pc + 1) ls (.int (g i.toNatClampNeg) :: r) h) : mj_J p l e R s m args below meth c D cl tys ad bi z nL off QQ b0 b1 pc ls (.int i :: .ref a :: r) h := by
  intro H locs k n L hl hr hS h1 h2
  have K := kk H locs k n L hl hr hS h1 h2
  rw [ho] at K
  exact va_ti hx hb hT hS hin rfl hd K
theorem mj_so_cbld (hx : p.tables.exec = Jvm.exec) (hb : c.code = cc) {a w : Nat} {g : Nat → Int32} {i : Int32} (hT : va_T .byte (ad a) w (fun j => .int (g j)) (mj_A z) s s.heap) (hin : vp_in i w) (hd : decode cc (off pc) = .ok (.baload, 1)) (ho : off (pc + 1) = off pc + 1) (kk : mj_J p l e R s m args below meth c D cl tys ad bi z nL off QQ b0 b1 (pc + 1) ls (.int (g i.toNatClampNeg) :: r) h) : mj_J p l e R s m args below meth c D cl tys ad bi z nL off QQ b0 b1 pc ls (.int i :: .ref a :: r) h := by
  intro H locs k n L hl hr hS h1 h2
  have K := kk H locs k n L hl hr hS h1 h2
  rw [ho] at K
  exact va_tb hx hb hT hS hin rfl hd K
theorem mj_so_clen0 (hx : p.tables.exec = Jvm.exec) (hb : c.code = cc) {a w : Nat} {g : Nat → Int32} {ty : FieldType} (hT : va_T ty (ad a) w (fun j => .int (g j)) (mj_A z) s s.heap) (hd : decode cc (off pc) = .ok (.arraylength, 1)) (ho : off (pc + 1) = off pc + 1) (kk : mj_J p l e R s m args below meth c D cl tys ad bi z nL off QQ b0 b1 (pc + 1) ls (.int (Int32.ofNat w) :: r) h) : mj_J p l e R s m args below meth c D cl tys ad bi z nL off QQ b0 b1 pc ls (.ref a :: r) h := by
  intro H locs k n L hl hr hS h1 h2
  have K := kk H locs k n L hl hr hS h1 h2
  rw [ho] at K
  exact va_tlen hx hb hT hS rfl hd K
theorem mj_so_obj (hx : p.tables.exec = Jvm.exec) (hb : c.code = cc) {own : String} (hown : s.vm.findClass own = some m.cls) {TS : List Cond} (hts : ∀ w ∈ TS, w.before args s = true) (hml : c.maxLocals = nL) {idx : Nat} {a : Nat} (h1 : Jvm.Cond.methodLink own idx objectInit ∈ TS) (h2 : Jvm.Cond.instanceMethod objectInit ∈ TS) (h3 : Jvm.Cond.code objectInit ⟨#[0xb1]⟩ 1 none ∈ TS) (hf : 1 ≤ R.frames) (hw : mj_wt r + 12 ≤ R.locals) (hd : decode cc (off pc) = .ok (.invokespecial idx, 3)) (ho : off (pc + 1) = off pc + 3) (kk : mj_J p l e R s m args below meth c D cl tys ad bi z nL off QQ b0 b1 (pc + 1) ls r h) : mj_J p l e R s m args below meth c D cl tys ad bi z nL off QQ b0 b1 pc ls (.ref a :: r) h := by
  intro H locs k n L hl hr hS g1 g2
  have K := kk H locs k n L hl hr hS g1 g2
  rw [ho] at K
  refine W.objInit hx hb hown (hts _ h1) (hts _ h2) (hts _ h3) rfl (by rw [hml]; exact hl.1) rfl hd hf ?_ K
  have := mj_wt_tr ad r
  unfold mj_wt at this hw
  show 2 * 0 + _ + 12 ≤ R.locals
  rw [this]
  omega
end MJN
