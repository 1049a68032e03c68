section MJP
variable {p : Program} {l : Launch} {e : Env} {R : Room} {s : State} {m : MethodId} {args : Array Value} {below : List Frame} {meth : Method} {c : Code}
variable {D : va_G} {cl : List vw_C} {tys : List (ClassId × FieldType)} {ad : Nat → Nat} {bi : Nat} {z : Nat → Prop} {nL : Nat} {off : Nat → Nat} {QQ : State → Prop} {b0 b1 : Nat} {cc : ByteArray} {pc : Nat} {ls : mj_L} {r : List Value} {h : mj_H}
theorem mj_so_iadd (hx : p.tables.exec = Jvm.exec) (hb : c.code = cc) {x y : Int32} (hd : decode cc (off pc) = .ok (.iadd, 1)) (ho : off (pc + 1) = off pc + 1) (kk : mj_J p l e R s m args below meth c D cl tys ad bi z nL off QQ b0 b1 (pc + 1) ls (.int (x + y) :: r) h) : mj_J p l e R s m args below meth c D cl tys ad bi z nL off QQ b0 b1 pc ls (.int y :: .int x :: r) h := by
  intro H locs k n L hl hr hS h1 h2
  have K := kk H locs k n L hl hr hS h1 h2
  rw [ho] at K
  exact lv_iadd hx hb hd K
theorem mj_so_isub (hx : p.tables.exec = Jvm.exec) (hb : c.code = cc) {x y : Int32} (hd : decode cc (off pc) = .ok (.isub, 1)) (ho : off (pc + 1) = off pc + 1) (kk : mj_J p l e R s m args below meth c D cl tys ad bi z nL off QQ b0 b1 (pc + 1) ls (.int (x - y) :: r) h) : mj_J p l e R s m args below meth c D cl tys ad bi z nL off QQ b0 b1 pc ls (.int y :: .int x :: r) h := by
  intro H locs k n L hl hr hS h1 h2
  have K := kk H locs k n L hl hr hS h1 h2
  rw [ho] at K
  exact lv_isub hx hb hd K
theorem mj_so_imul (hx : p.tables.exec = Jvm.exec) (hb : c.code = cc) {x y : Int32} (hd : decode cc (off pc) = .ok (.imul, 1)) (ho : off (pc + 1) = off pc + 1) (kk : mj_J p l e R s m args below meth c D cl tys ad bi z nL off QQ b0 b1 (pc + 1) ls (.int (x * y) :: r) h) : mj_J p l e R s m args below meth c D cl tys ad bi z nL off QQ b0 b1 pc ls (.int y :: .int x :: r) h := by
  intro H locs k n L hl hr hS h1 h2
  have K := kk H locs k n L hl hr hS h1 h2
  rw [ho] at K
  exact lv_imul hx hb hd K
theorem mj_so_iand (hx : p.tables.exec = Jvm.exec) (hb : c.code = cc) {x y : Int32} (hd : decode cc (off pc) = .ok (.iand, 1)) (ho : off (pc + 1) = off pc + 1) (kk : mj_J p l e R s m args below meth c D cl tys ad bi z nL off QQ b0 b1 (pc + 1) ls (.int (x &&& y) :: r) h) : mj_J p l e R s m args below meth c D cl tys ad bi z nL off QQ b0 b1 pc ls (.int y :: .int x :: r) h := by
  intro H locs k n L hl hr hS h1 h2
  have K := kk H locs k n L hl hr hS h1 h2
  rw [ho] at K
  exact lv_iand hx hb hd K
theorem mj_so_ior (hx : p.tables.exec = Jvm.exec) (hb : c.code = cc) {x y : Int32} (hd : decode cc (off pc) = .ok (.ior, 1)) (ho : off (pc + 1) = off pc + 1) (kk : mj_J p l e R s m args below meth c D cl tys ad bi z nL off QQ b0 b1 (pc + 1) ls (.int (x ||| y) :: r) h) : mj_J p l e R s m args below meth c D cl tys ad bi z nL off QQ b0 b1 pc ls (.int y :: .int x :: r) h := by
  intro H locs k n L hl hr hS h1 h2
  have K := kk H locs k n L hl hr hS h1 h2
  rw [ho] at K
  exact lv_ior hx hb hd K
theorem mj_so_ixor (hx : p.tables.exec = Jvm.exec) (hb : c.code = cc) {x y : Int32} (hd : decode cc (off pc) = .ok (.ixor, 1)) (ho : off (pc + 1) = off pc + 1) (kk : mj_J p l e R s m args below meth c D cl tys ad bi z nL off QQ b0 b1 (pc + 1) ls (.int (x ^^^ y) :: r) h) : mj_J p l e R s m args below meth c D cl tys ad bi z nL off QQ b0 b1 pc ls (.int y :: .int x :: r) h := by
  intro H locs k n L hl hr hS h1 h2
  have K := kk H locs k n L hl hr hS h1 h2
  rw [ho] at K
  exact lv_ixor hx hb hd K
theorem mj_so_ishl (hx : p.tables.exec = Jvm.exec) (hb : c.code = cc) {x y : Int32} (hd : decode cc (off pc) = .ok (.ishl, 1)) (ho : off (pc + 1) = off pc + 1) (kk : mj_J p l e R s m args below meth c D cl tys ad bi z nL off QQ b0 b1 (pc + 1) ls (.int (x <<< (y &&& 31)) :: r) h) : mj_J p l e R s m args below meth c D cl tys ad bi z nL off QQ b0 b1 pc ls (.int y :: .int x :: r) h := by
  intro H locs k n L hl hr hS h1 h2
  have K := kk H locs k n L hl hr hS h1 h2
  rw [ho] at K
  exact lv_ishl hx hb hd K
theorem mj_so_ishr (hx : p.tables.exec = Jvm.exec) (hb : c.code = cc) {x y : Int32} (hd : decode cc (off pc) = .ok (.ishr, 1)) (ho : off (pc + 1) = off pc + 1) (kk : mj_J p l e R s m args below meth c D cl tys ad bi z nL off QQ b0 b1 (pc + 1) ls (.int (x >>> (y &&& 31)) :: r) h) : mj_J p l e R s m args below meth c D cl tys ad bi z nL off QQ b0 b1 pc ls (.int y :: .int x :: r) h := by
  intro H locs k n L hl hr hS h1 h2
  have K := kk H locs k n L hl hr hS h1 h2
  rw [ho] at K
  exact lv_ishr hx hb hd K
theorem mj_so_iushr (hx : p.tables.exec = Jvm.exec) (hb : c.code = cc) {x y : Int32} (hd : decode cc (off pc) = .ok (.iushr, 1)) (ho : off (pc + 1) = off pc + 1) (kk : mj_J p l e R s m args below meth c D cl tys ad bi z nL off QQ b0 b1 (pc + 1) ls (.int (x.toUInt32 >>> (y.toUInt32 &&& Int32.toUInt32 31)).toInt32 :: r) h) : mj_J p l e R s m args below meth c D cl tys ad bi z nL off QQ b0 b1 pc ls (.int y :: .int x :: r) h := by
  intro H locs k n L hl hr hS h1 h2
  have K := kk H locs k n L hl hr hS h1 h2
  rw [ho] at K
  exact lv_iushr hx hb hd rfl K
theorem mj_so_idiv (hx : p.tables.exec = Jvm.exec) (hb : c.code = cc) {x y : Int32} (hd : decode cc (off pc) = .ok (.idiv, 1)) (ho : off (pc + 1) = off pc + 1) (hne : ¬ y = 0) (kk : mj_J p l e R s m args below meth c D cl tys ad bi z nL off QQ b0 b1 (pc + 1) ls (.int (x / y) :: r) h) : mj_J p l e R s m args below meth c D cl tys ad bi z nL off QQ b0 b1 pc ls (.int y :: .int x :: r) h := by
  intro H locs k n L hl hr hS h1 h2
  have K := kk H locs k n L hl hr hS h1 h2
  rw [ho] at K
  exact lv_idiv hx hb hd hne K
theorem mj_so_irem (hx : p.tables.exec = Jvm.exec) (hb : c.code = cc) {x y : Int32} (hd : decode cc (off pc) = .ok (.irem, 1)) (ho : off (pc + 1) = off pc + 1) (hne : ¬ y = 0) (kk : mj_J p l e R s m args below meth c D cl tys ad bi z nL off QQ b0 b1 (pc + 1) ls (.int (x - x / y * y) :: r) h) : mj_J p l e R s m args below meth c D cl tys ad bi z nL off QQ b0 b1 pc ls (.int y :: .int x :: r) h := by
  intro H locs k n L hl hr hS h1 h2
  have K := kk H locs k n L hl hr hS h1 h2
  rw [ho] at K
  exact lv_irem hx hb hd hne K
theorem mj_so_ineg (hx : p.tables.exec = Jvm.exec) (hb : c.code = cc) {x : Int32} (hd : decode cc (off pc) = .ok (.ineg, 1)) (ho : off (pc + 1) = off pc + 1) (kk : mj_J p l e R s m args below meth c D cl tys ad bi z nL off QQ b0 b1 (pc + 1) ls (.int (-x) :: r) h) : mj_J p l e R s m args below meth c D cl tys ad bi z nL off QQ b0 b1 pc ls (.int x :: r) h := by
  intro H locs k n L hl hr hS h1 h2
  have K := kk H locs k n L hl hr hS h1 h2
  rw [ho] at K
  exact lv_ineg hx hb hd K
theorem mj_so_ladd (hx : p.tables.exec = Jvm.exec) (hb : c.code = cc) {x y : Int64} (hd : decode cc (off pc) = .ok (.ladd, 1)) (ho : off (pc + 1) = off pc + 1) (kk : mj_J p l e R s m args below meth c D cl tys ad bi z nL off QQ b0 b1 (pc + 1) ls (.long (x + y) :: r) h) : mj_J p l e R s m args below meth c D cl tys ad bi z nL off QQ b0 b1 pc ls (.long y :: .long x :: r) h := by
  intro H locs k n L hl hr hS h1 h2
  have K := kk H locs k n L hl hr hS h1 h2
  rw [ho] at K
  exact lv_ladd hx hb hd K
theorem mj_so_lsub (hx : p.tables.exec = Jvm.exec) (hb : c.code = cc) {x y : Int64} (hd : decode cc (off pc) = .ok (.lsub, 1)) (ho : off (pc + 1) = off pc + 1) (kk : mj_J p l e R s m args below meth c D cl tys ad bi z nL off QQ b0 b1 (pc + 1) ls (.long (x - y) :: r) h) : mj_J p l e R s m args below meth c D cl tys ad bi z nL off QQ b0 b1 pc ls (.long y :: .long x :: r) h := by
  intro H locs k n L hl hr hS h1 h2
  have K := kk H locs k n L hl hr hS h1 h2
  rw [ho] at K
  exact lv_lsub hx hb hd K
theorem mj_so_land (hx : p.tables.exec = Jvm.exec) (hb : c.code = cc) {x y : Int64} (hd : decode cc (off pc) = .ok (.land, 1)) (ho : off (pc + 1) = off pc + 1) (kk : mj_J p l e R s m args below meth c D cl tys ad bi z nL off QQ b0 b1 (pc + 1) ls (.long (x &&& y) :: r) h) : mj_J p l e R s m args below meth c D cl tys ad bi z nL off QQ b0 b1 pc ls (.long y :: .long x :: r) h := by
  intro H locs k n L hl hr hS h1 h2
  have K := kk H locs k n L hl hr hS h1 h2
  rw [ho] at K
  exact lv_land hx hb hd K
theorem mj_so_lor (hx : p.tables.exec = Jvm.exec) (hb : c.code = cc) {x y : Int64} (hd : decode cc (off pc) = .ok (.lor, 1)) (ho : off (pc + 1) = off pc + 1) (kk : mj_J p l e R s m args below meth c D cl tys ad bi z nL off QQ b0 b1 (pc + 1) ls (.long (x ||| y) :: r) h) : mj_J p l e R s m args below meth c D cl tys ad bi z nL off QQ b0 b1 pc ls (.long y :: .long x :: r) h := by
  intro H locs k n L hl hr hS h1 h2
  have K := kk H locs k n L hl hr hS h1 h2
  rw [ho] at K
  exact lv_lor hx hb hd K
theorem mj_so_lmul (hx : p.tables.exec = Jvm.exec) (hb : c.code = cc) {x y : Int64} (hd : decode cc (off pc) = .ok (.lmul, 1)) (ho : off (pc + 1) = off pc + 1) (kk : mj_J p l e R s m args below meth c D cl tys ad bi z nL off QQ b0 b1 (pc + 1) ls (.long (x * y) :: r) h) : mj_J p l e R s m args below meth c D cl tys ad bi z nL off QQ b0 b1 pc ls (.long y :: .long x :: r) h := by
  intro H locs k n L hl hr hS h1 h2
  have K := kk H locs k n L hl hr hS h1 h2
  rw [ho] at K
  exact lv_lmul hx hb hd K
theorem mj_so_ldiv (hx : p.tables.exec = Jvm.exec) (hb : c.code = cc) {x y : Int64} (hd : decode cc (off pc) = .ok (.ldiv, 1)) (ho : off (pc + 1) = off pc + 1) (hne : ¬ y = 0) (kk : mj_J p l e R s m args below meth c D cl tys ad bi z nL off QQ b0 b1 (pc + 1) ls (.long (x / y) :: r) h) : mj_J p l e R s m args below meth c D cl tys ad bi z nL off QQ b0 b1 pc ls (.long y :: .long x :: r) h := by
  intro H locs k n L hl hr hS h1 h2
  have K := kk H locs k n L hl hr hS h1 h2
  rw [ho] at K
  exact lv_ldiv hx hb hd hne K
theorem mj_so_lrem (hx : p.tables.exec = Jvm.exec) (hb : c.code = cc) {x y : Int64} (hd : decode cc (off pc) = .ok (.lrem, 1)) (ho : off (pc + 1) = off pc + 1) (hne : ¬ y = 0) (kk : mj_J p l e R s m args below meth c D cl tys ad bi z nL off QQ b0 b1 (pc + 1) ls (.long (x - x / y * y) :: r) h) : mj_J p l e R s m args below meth c D cl tys ad bi z nL off QQ b0 b1 pc ls (.long y :: .long x :: r) h := by
  intro H locs k n L hl hr hS h1 h2
  have K := kk H locs k n L hl hr hS h1 h2
  rw [ho] at K
  exact lv_lrem hx hb hd hne K
theorem mj_so_lneg (hx : p.tables.exec = Jvm.exec) (hb : c.code = cc) {x : Int64} (hd : decode cc (off pc) = .ok (.lneg, 1)) (ho : off (pc + 1) = off pc + 1) (kk : mj_J p l e R s m args below meth c D cl tys ad bi z nL off QQ b0 b1 (pc + 1) ls (.long (-x) :: r) h) : mj_J p l e R s m args below meth c D cl tys ad bi z nL off QQ b0 b1 pc ls (.long x :: r) h := by
  intro H locs k n L hl hr hS h1 h2
  have K := kk H locs k n L hl hr hS h1 h2
  rw [ho] at K
  exact lv_lneg hx hb hd K
theorem mj_so_lshl (hx : p.tables.exec = Jvm.exec) (hb : c.code = cc) {x : Int64} {y : Int32} (hd : decode cc (off pc) = .ok (.lshl, 1)) (ho : off (pc + 1) = off pc + 1) (kk : mj_J p l e R s m args below meth c D cl tys ad bi z nL off QQ b0 b1 (pc + 1) ls (.long (x <<< (y.toInt64 &&& 63)) :: r) h) : mj_J p l e R s m args below meth c D cl tys ad bi z nL off QQ b0 b1 pc ls (.int y :: .long x :: r) h := by
  intro H locs k n L hl hr hS h1 h2
  have K := kk H locs k n L hl hr hS h1 h2
  rw [ho] at K
  exact lv_lshl hx hb hd rfl K
theorem mj_so_lshr (hx : p.tables.exec = Jvm.exec) (hb : c.code = cc) {x : Int64} {y : Int32} (hd : decode cc (off pc) = .ok (.lshr, 1)) (ho : off (pc + 1) = off pc + 1) (kk : mj_J p l e R s m args below meth c D cl tys ad bi z nL off QQ b0 b1 (pc + 1) ls (.long (x >>> (y.toInt64 &&& 63)) :: r) h) : mj_J p l e R s m args below meth c D cl tys ad bi z nL off QQ b0 b1 pc ls (.int y :: .long x :: r) h := by
  intro H locs k n L hl hr hS h1 h2
  have K := kk H locs k n L hl hr hS h1 h2
  rw [ho] at K
  exact lv_lshr hx hb hd rfl K
theorem mj_so_lushr (hx : p.tables.exec = Jvm.exec) (hb : c.code = cc) {x : Int64} {y : Int32} (hd : decode cc (off pc) = .ok (.lushr, 1)) (ho : off (pc + 1) = off pc + 1) (kk : mj_J p l e R s m args below meth c D cl tys ad bi z nL off QQ b0 b1 (pc + 1) ls (.long (x.toUInt64 >>> (y.toInt64.toUInt64 &&& Int64.toUInt64 63)).toInt64 :: r) h) : mj_J p l e R s m args below meth c D cl tys ad bi z nL off QQ b0 b1 pc ls (.int y :: .long x :: r) h := by
  intro H locs k n L hl hr hS h1 h2
  have K := kk H locs k n L hl hr hS h1 h2
  rw [ho] at K
  exact lv_lushr hx hb hd rfl K
theorem mj_so_lcmp (hx : p.tables.exec = Jvm.exec) (hb : c.code = cc) {x y : Int64} (hd : decode cc (off pc) = .ok (.lcmp, 1)) (ho : off (pc + 1) = off pc + 1) (kk : mj_J p l e R s m args below meth c D cl tys ad bi z nL off QQ b0 b1 (pc + 1) ls (.int (lg_cmp x y) :: r) h) : mj_J p l e R s m args below meth c D cl tys ad bi z nL off QQ b0 b1 pc ls (.long y :: .long x :: r) h := by
  intro H locs k n L hl hr hS h1 h2
  have K := kk H locs k n L hl hr hS h1 h2
  rw [ho] at K
  exact W.lcmp hx hb hd K
theorem mj_so_i2l (hx : p.tables.exec = Jvm.exec) (hb : c.code = cc) {x : Int32} (hd : decode cc (off pc) = .ok (.i2l, 1)) (ho : off (pc + 1) = off pc + 1) (kk : mj_J p l e R s m args below meth c D cl tys ad bi z nL off QQ b0 b1 (pc + 1) ls (.long x.toInt64 :: r) h) : mj_J p l e R s m args below meth c D cl tys ad bi z nL off QQ b0 b1 pc ls (.int x :: r) h := by
  intro H locs k n L hl hr hS h1 h2
  have K := kk H locs k n L hl hr hS h1 h2
  rw [ho] at K
  exact lv_i2l hx hb hd rfl K
theorem mj_so_l2i (hx : p.tables.exec = Jvm.exec) (hb : c.code = cc) {x : Int64} (hd : decode cc (off pc) = .ok (.l2i, 1)) (ho : off (pc + 1) = off pc + 1) (kk : mj_J p l e R s m args below meth c D cl tys ad bi z nL off QQ b0 b1 (pc + 1) ls (.int x.toInt32 :: r) h) : mj_J p l e R s m args below meth c D cl tys ad bi z nL off QQ b0 b1 pc ls (.long x :: r) h := by
  intro H locs k n L hl hr hS h1 h2
  have K := kk H locs k n L hl hr hS h1 h2
  rw [ho] at K
  exact lv_l2i hx hb hd rfl K
theorem mj_so_i2c (hx : p.tables.exec = Jvm.exec) (hb : c.code = cc) {x : Int32} (hd : decode cc (off pc) = .ok (.i2c, 1)) (ho : off (pc + 1) = off pc + 1) (kk : mj_J p l e R s m args below meth c D cl tys ad bi z nL off QQ b0 b1 (pc + 1) ls (.int (x.toUInt32 % 65536).toInt32 :: r) h) : mj_J p l e R s m args below meth c D cl tys ad bi z nL off QQ b0 b1 pc ls (.int x :: r) h := by
  intro H locs k n L hl hr hS h1 h2
  have K := kk H locs k n L hl hr hS h1 h2
  rw [ho] at K
  exact lv_i2c hx hb hd rfl K
theorem mj_so_i2b (hx : p.tables.exec = Jvm.exec) (hb : c.code = cc) {x : Int32} (hd : decode cc (off pc) = .ok (.i2b, 1)) (ho : off (pc + 1) = off pc + 1) (kk : mj_J p l e R s m args below meth c D cl tys ad bi z nL off QQ b0 b1 (pc + 1) ls (.int x.toInt8.toInt32 :: r) h) : mj_J p l e R s m args below meth c D cl tys ad bi z nL off QQ b0 b1 pc ls (.int x :: r) h := by
  intro H locs k n L hl hr hS h1 h2
  have K := kk H locs k n L hl hr hS h1 h2
  rw [ho] at K
  exact lv_i2b hx hb hd rfl K
theorem mj_so_dup (hx : p.tables.exec = Jvm.exec) (hb : c.code = cc) {v : Value} (hd : decode cc (off pc) = .ok (.dup, 1)) (ho : off (pc + 1) = off pc + 1) (h9 : v.category = 1) (kk : mj_J p l e R s m args below meth c D cl tys ad bi z nL off QQ b0 b1 (pc + 1) ls (v :: v :: r) h) : mj_J p l e R s m args below meth c D cl tys ad bi z nL off QQ b0 b1 pc ls (v :: r) h := by
  intro H locs k n L hl hr hS h1 h2
  have K := kk H locs k n L hl hr hS h1 h2
  rw [ho] at K
  exact lv_dup hx hb hd (by rw [mj_tr_cat]; exact h9) K
theorem mj_so_dup_x1 (hx : p.tables.exec = Jvm.exec) (hb : c.code = cc) {v w : Value} (hd : decode cc (off pc) = .ok (.dup_x1, 1)) (ho : off (pc + 1) = off pc + 1) (h9 : v.category = 1) (h8 : w.category = 1) (kk : mj_J p l e R s m args below meth c D cl tys ad bi z nL off QQ b0 b1 (pc + 1) ls (v :: w :: v :: r) h) : mj_J p l e R s m args below meth c D cl tys ad bi z nL off QQ b0 b1 pc ls (v :: w :: r) h := by
  intro H locs k n L hl hr hS h1 h2
  have K := kk H locs k n L hl hr hS h1 h2
  rw [ho] at K
  exact lv_dup_x1 hx hb hd (by rw [mj_tr_cat]; exact h9) (by rw [mj_tr_cat]; exact h8) K

theorem mj_so_dup2 (hx : p.tables.exec = Jvm.exec) (hb : c.code = cc) {v w : Value} (hd : decode cc (off pc) = .ok (.dup2, 1)) (ho : off (pc + 1) = off pc + 1) (h9 : v.category = 1) (h8 : w.category = 1) (kk : mj_J p l e R s m args below meth c D cl tys ad bi z nL off QQ b0 b1 (pc + 1) ls (v :: w :: v :: w :: r) h) : mj_J p l e R s m args below meth c D cl tys ad bi z nL off QQ b0 b1 pc ls (v :: w :: r) h := by
  intro H locs k n L hl hr hS h1 h2
  have K := kk H locs k n L hl hr hS h1 h2
  rw [ho] at K
  exact lv_dup2_11 hx hb hd (by rw [mj_tr_cat]; exact h9) (by rw [mj_tr_cat]; exact h8) K
theorem mj_so_dup2l (hx : p.tables.exec = Jvm.exec) (hb : c.code = cc) {v : Value} (hd : decode cc (off pc) = .ok (.dup2, 1)) (ho : off (pc + 1) = off pc + 1) (h9 : v.category = 2) (kk : mj_J p l e R s m args below meth c D cl tys ad bi z nL off QQ b0 b1 (pc + 1) ls (v :: v :: r) h) : mj_J p l e R s m args below meth c D cl tys ad bi z nL off QQ b0 b1 pc ls (v :: r) h := by
  intro H locs k n L hl hr hS h1 h2
  have K := kk H locs k n L hl hr hS h1 h2
  rw [ho] at K
  exact lv_dup2_2 hx hb hd (by rw [mj_tr_cat]; exact h9) K
theorem mj_so_pop (hx : p.tables.exec = Jvm.exec) (hb : c.code = cc) {v : Value} (hd : decode cc (off pc) = .ok (.pop, 1)) (ho : off (pc + 1) = off pc + 1) (h9 : v.category = 1) (kk : mj_J p l e R s m args below meth c D cl tys ad bi z nL off QQ b0 b1 (pc + 1) ls (r) h) : mj_J p l e R s m args below meth c D cl tys ad bi z nL off QQ b0 b1 pc ls (v :: r) h := by
  intro H locs k n L hl hr hS h1 h2
  have K := kk H locs k n L hl hr hS h1 h2
  rw [ho] at K
  exact lv_pop hx hb hd (by rw [mj_tr_cat]; exact h9) K
theorem mj_so_pop2 (hx : p.tables.exec = Jvm.exec) (hb : c.code = cc) {v : Value} (hd : decode cc (off pc) = .ok (.pop2, 1)) (ho : off (pc + 1) = off pc + 1) (h9 : v.category = 2) (kk : mj_J p l e R s m args below meth c D cl tys ad bi z nL off QQ b0 b1 (pc + 1) ls (r) h) : mj_J p l e R s m args below meth c D cl tys ad bi z nL off QQ b0 b1 pc ls (v :: r) h := by
  intro H locs k n L hl hr hS h1 h2
  have K := kk H locs k n L hl hr hS h1 h2
  rw [ho] at K
  exact lv_pop2_2 hx hb hd (by rw [mj_tr_cat]; exact h9) K
theorem mj_so_if_eq (hx : p.tables.exec = Jvm.exec) (hb : c.code = cc) {x : Int32} {o : Int} {t : Nat} (hd : decode cc (off pc) = .ok (.ifCond .eq o, 3)) (ho : off (pc + 1) = off pc + 3) (ht : (off pc : Int) + o = (off t : Int)) (ka : x = 0 → mj_J p l e R s m args below meth c D cl tys ad bi z nL off QQ b0 b1 t ls r h) (kb : ¬ x = 0 → mj_J p l e R s m args below meth c D cl tys ad bi z nL off QQ b0 b1 (pc + 1) ls r h) : mj_J p l e R s m args below meth c D cl tys ad bi z nL off QQ b0 b1 pc ls (.int x :: r) h := by
  intro H locs k n L hl hr hS h1 h2
  refine lv_if_eq (tgt := off t) hx hb hd ht (fun g => ka g H locs k n L hl hr hS h1 h2) (fun g => ?_)
  have K := kb g H locs k n L hl hr hS h1 h2
  rw [ho] at K
  exact K
theorem mj_so_if_ne (hx : p.tables.exec = Jvm.exec) (hb : c.code = cc) {x : Int32} {o : Int} {t : Nat} (hd : decode cc (off pc) = .ok (.ifCond .ne o, 3)) (ho : off (pc + 1) = off pc + 3) (ht : (off pc : Int) + o = (off t : Int)) (ka : ¬ x = 0 → mj_J p l e R s m args below meth c D cl tys ad bi z nL off QQ b0 b1 t ls r h) (kb : x = 0 → mj_J p l e R s m args below meth c D cl tys ad bi z nL off QQ b0 b1 (pc + 1) ls r h) : mj_J p l e R s m args below meth c D cl tys ad bi z nL off QQ b0 b1 pc ls (.int x :: r) h := by
  intro H locs k n L hl hr hS h1 h2
  refine lv_if_ne (tgt := off t) hx hb hd ht (fun g => ka g H locs k n L hl hr hS h1 h2) (fun g => ?_)
  have K := kb g H locs k n L hl hr hS h1 h2
  rw [ho] at K
  exact K
theorem mj_so_if_lt (hx : p.tables.exec = Jvm.exec) (hb : c.code = cc) {x : Int32} {o : Int} {t : Nat} (hd : decode cc (off pc) = .ok (.ifCond .lt o, 3)) (ho : off (pc + 1) = off pc + 3) (ht : (off pc : Int) + o = (off t : Int)) (ka : x < 0 → mj_J p l e R s m args below meth c D cl tys ad bi z nL off QQ b0 b1 t ls r h) (kb : ¬ x < 0 → mj_J p l e R s m args below meth c D cl tys ad bi z nL off QQ b0 b1 (pc + 1) ls r h) : mj_J p l e R s m args below meth c D cl tys ad bi z nL off QQ b0 b1 pc ls (.int x :: r) h := by
  intro H locs k n L hl hr hS h1 h2
  refine lv_if_lt (tgt := off t) hx hb hd ht (fun g => ka g H locs k n L hl hr hS h1 h2) (fun g => ?_)
  have K := kb g H locs k n L hl hr hS h1 h2
  rw [ho] at K
  exact K
theorem mj_so_if_ge (hx : p.tables.exec = Jvm.exec) (hb : c.code = cc) {x : Int32} {o : Int} {t : Nat} (hd : decode cc (off pc) = .ok (.ifCond .ge o, 3)) (ho : off (pc + 1) = off pc + 3) (ht : (off pc : Int) + o = (off t : Int)) (ka : 0 ≤ x → mj_J p l e R s m args below meth c D cl tys ad bi z nL off QQ b0 b1 t ls r h) (kb : ¬ 0 ≤ x → mj_J p l e R s m args below meth c D cl tys ad bi z nL off QQ b0 b1 (pc + 1) ls r h) : mj_J p l e R s m args below meth c D cl tys ad bi z nL off QQ b0 b1 pc ls (.int x :: r) h := by
  intro H locs k n L hl hr hS h1 h2
  refine lv_if_ge (tgt := off t) hx hb hd ht (fun g => ka g H locs k n L hl hr hS h1 h2) (fun g => ?_)
  have K := kb g H locs k n L hl hr hS h1 h2
  rw [ho] at K
  exact K
theorem mj_so_if_gt (hx : p.tables.exec = Jvm.exec) (hb : c.code = cc) {x : Int32} {o : Int} {t : Nat} (hd : decode cc (off pc) = .ok (.ifCond .gt o, 3)) (ho : off (pc + 1) = off pc + 3) (ht : (off pc : Int) + o = (off t : Int)) (ka : 0 < x → mj_J p l e R s m args below meth c D cl tys ad bi z nL off QQ b0 b1 t ls r h) (kb : ¬ 0 < x → mj_J p l e R s m args below meth c D cl tys ad bi z nL off QQ b0 b1 (pc + 1) ls r h) : mj_J p l e R s m args below meth c D cl tys ad bi z nL off QQ b0 b1 pc ls (.int x :: r) h := by
  intro H locs k n L hl hr hS h1 h2
  refine lv_if_gt (tgt := off t) hx hb hd ht (fun g => ka g H locs k n L hl hr hS h1 h2) (fun g => ?_)
  have K := kb g H locs k n L hl hr hS h1 h2
  rw [ho] at K
  exact K
theorem mj_so_if_le (hx : p.tables.exec = Jvm.exec) (hb : c.code = cc) {x : Int32} {o : Int} {t : Nat} (hd : decode cc (off pc) = .ok (.ifCond .le o, 3)) (ho : off (pc + 1) = off pc + 3) (ht : (off pc : Int) + o = (off t : Int)) (ka : x ≤ 0 → mj_J p l e R s m args below meth c D cl tys ad bi z nL off QQ b0 b1 t ls r h) (kb : ¬ x ≤ 0 → mj_J p l e R s m args below meth c D cl tys ad bi z nL off QQ b0 b1 (pc + 1) ls r h) : mj_J p l e R s m args below meth c D cl tys ad bi z nL off QQ b0 b1 pc ls (.int x :: r) h := by
  intro H locs k n L hl hr hS h1 h2
  refine lv_if_le (tgt := off t) hx hb hd ht (fun g => ka g H locs k n L hl hr hS h1 h2) (fun g => ?_)
  have K := kb g H locs k n L hl hr hS h1 h2
  rw [ho] at K
  exact K
theorem mj_so_ic_eq (hx : p.tables.exec = Jvm.exec) (hb : c.code = cc) {x y : Int32} {o : Int} {t : Nat} (hd : decode cc (off pc) = .ok (.if_icmp .eq o, 3)) (ho : off (pc + 1) = off pc + 3) (ht : (off pc : Int) + o = (off t : Int)) (ka : x = y → mj_J p l e R s m args below meth c D cl tys ad bi z nL off QQ b0 b1 t ls r h) (kb : ¬ x = y → mj_J p l e R s m args below meth c D cl tys ad bi z nL off QQ b0 b1 (pc + 1) ls r h) : mj_J p l e R s m args below meth c D cl tys ad bi z nL off QQ b0 b1 pc ls (.int y :: .int x :: r) h := by
  intro H locs k n L hl hr hS h1 h2
  refine lv_icmp_eq (tgt := off t) hx hb hd ht (fun g => ka g H locs k n L hl hr hS h1 h2) (fun g => ?_)
  have K := kb g H locs k n L hl hr hS h1 h2
  rw [ho] at K
  exact K
theorem mj_so_ic_ne (hx : p.tables.exec = Jvm.exec) (hb : c.code = cc) {x y : Int32} {o : Int} {t : Nat} (hd : decode cc (off pc) = .ok (.if_icmp .ne o, 3)) (ho : off (pc + 1) = off pc + 3) (ht : (off pc : Int) + o = (off t : Int)) (ka : ¬ x = y → mj_J p l e R s m args below meth c D cl tys ad bi z nL off QQ b0 b1 t ls r h) (kb : x = y → mj_J p l e R s m args below meth c D cl tys ad bi z nL off QQ b0 b1 (pc + 1) ls r h) : mj_J p l e R s m args below meth c D cl tys ad bi z nL off QQ b0 b1 pc ls (.int y :: .int x :: r) h := by
  intro H locs k n L hl hr hS h1 h2
  refine lv_icmp_ne (tgt := off t) hx hb hd ht (fun g => ka g H locs k n L hl hr hS h1 h2) (fun g => ?_)
  have K := kb g H locs k n L hl hr hS h1 h2
  rw [ho] at K
  exact K
theorem mj_so_ic_lt (hx : p.tables.exec = Jvm.exec) (hb : c.code = cc) {x y : Int32} {o : Int} {t : Nat} (hd : decode cc (off pc) = .ok (.if_icmp .lt o, 3)) (ho : off (pc + 1) = off pc + 3) (ht : (off pc : Int) + o = (off t : Int)) (ka : x < y → mj_J p l e R s m args below meth c D cl tys ad bi z nL off QQ b0 b1 t ls r h) (kb : ¬ x < y → mj_J p l e R s m args below meth c D cl tys ad bi z nL off QQ b0 b1 (pc + 1) ls r h) : mj_J p l e R s m args below meth c D cl tys ad bi z nL off QQ b0 b1 pc ls (.int y :: .int x :: r) h := by
  intro H locs k n L hl hr hS h1 h2
  refine lv_icmp_lt (tgt := off t) hx hb hd ht (fun g => ka g H locs k n L hl hr hS h1 h2) (fun g => ?_)
  have K := kb g H locs k n L hl hr hS h1 h2
  rw [ho] at K
  exact K
theorem mj_so_ic_ge (hx : p.tables.exec = Jvm.exec) (hb : c.code = cc) {x y : Int32} {o : Int} {t : Nat} (hd : decode cc (off pc) = .ok (.if_icmp .ge o, 3)) (ho : off (pc + 1) = off pc + 3) (ht : (off pc : Int) + o = (off t : Int)) (ka : y ≤ x → mj_J p l e R s m args below meth c D cl tys ad bi z nL off QQ b0 b1 t ls r h) (kb : ¬ y ≤ x → mj_J p l e R s m args below meth c D cl tys ad bi z nL off QQ b0 b1 (pc + 1) ls r h) : mj_J p l e R s m args below meth c D cl tys ad bi z nL off QQ b0 b1 pc ls (.int y :: .int x :: r) h := by
  intro H locs k n L hl hr hS h1 h2
  refine lv_icmp_ge (tgt := off t) hx hb hd ht (fun g => ka g H locs k n L hl hr hS h1 h2) (fun g => ?_)
  have K := kb g H locs k n L hl hr hS h1 h2
  rw [ho] at K
  exact K
theorem mj_so_ic_gt (hx : p.tables.exec = Jvm.exec) (hb : c.code = cc) {x y : Int32} {o : Int} {t : Nat} (hd : decode cc (off pc) = .ok (.if_icmp .gt o, 3)) (ho : off (pc + 1) = off pc + 3) (ht : (off pc : Int) + o = (off t : Int)) (ka : y < x → mj_J p l e R s m args below meth c D cl tys ad bi z nL off QQ b0 b1 t ls r h) (kb : ¬ y < x → mj_J p l e R s m args below meth c D cl tys ad bi z nL off QQ b0 b1 (pc + 1) ls r h) : mj_J p l e R s m args below meth c D cl tys ad bi z nL off QQ b0 b1 pc ls (.int y :: .int x :: r) h := by
  intro H locs k n L hl hr hS h1 h2
  refine lv_icmp_gt (tgt := off t) hx hb hd ht (fun g => ka g H locs k n L hl hr hS h1 h2) (fun g => ?_)
  have K := kb g H locs k n L hl hr hS h1 h2
  rw [ho] at K
  exact K
theorem mj_so_ic_le (hx : p.tables.exec = Jvm.exec) (hb : c.code = cc) {x y : Int32} {o : Int} {t : Nat} (hd : decode cc (off pc) = .ok (.if_icmp .le o, 3)) (ho : off (pc + 1) = off pc + 3) (ht : (off pc : Int) + o = (off t : Int)) (ka : x ≤ y → mj_J p l e R s m args below meth c D cl tys ad bi z nL off QQ b0 b1 t ls r h) (kb : ¬ x ≤ y → mj_J p l e R s m args below meth c D cl tys ad bi z nL off QQ b0 b1 (pc + 1) ls r h) : mj_J p l e R s m args below meth c D cl tys ad bi z nL off QQ b0 b1 pc ls (.int y :: .int x :: r) h := by
  intro H locs k n L hl hr hS h1 h2
  refine lv_icmp_le (tgt := off t) hx hb hd ht (fun g => ka g H locs k n L hl hr hS h1 h2) (fun g => ?_)
  have K := kb g H locs k n L hl hr hS h1 h2
  rw [ho] at K
  exact K
theorem mj_so_ifnn (hx : p.tables.exec = Jvm.exec) (hb : c.code = cc) {a : Nat} {o : Int} {t : Nat} (hd : decode cc (off pc) = .ok (.ifnonnull o, 3)) (ht : (off pc : Int) + o = (off t : Int)) (kk : mj_J p l e R s m args below meth c D cl tys ad bi z nL off QQ b0 b1 t ls r h) : mj_J p l e R s m args below meth c D cl tys ad bi z nL off QQ b0 b1 pc ls (.ref a :: r) h := by
  intro H locs k n L hl hr hS h1 h2
  exact lv_ifnonnull (tgt := off t) hx hb hd ht (kk H locs k n L hl hr hS h1 h2)
theorem mj_so_goto (hx : p.tables.exec = Jvm.exec) (hb : c.code = cc) {o : Int} {t : Nat} (hd : decode cc (off pc) = .ok (.goto o, 3)) (ht : (off pc : Int) + o = (off t : Int)) (kk : mj_J p l e R s m args below meth c D cl tys ad bi z nL off QQ b0 b1 t ls r h) : mj_J p l e R s m args below meth c D cl tys ad bi z nL off QQ b0 b1 pc ls r h := by
  intro H locs k n L hl hr hS h1 h2
  exact lv_goto (tgt := off t) hx hb hd ht (kk H locs k n L hl hr hS h1 h2)
theorem mj_so_iload_n (hx : p.tables.exec = Jvm.exec) (hb : c.code = cc) {i : Nat} {f : Fin 4} (hf : (f : Nat) = i) {x : Int32} (hv : mj_nth ls i = some (some (.int x))) (hd : decode cc (off pc) = .ok (.iload_n f, 1)) (ho : off (pc + 1) = off pc + 1) (kk : mj_J p l e R s m args below meth c D cl tys ad bi z nL off QQ b0 b1 (pc + 1) ls (.int x :: r) h) : mj_J p l e R s m args below meth c D cl tys ad bi z nL off QQ b0 b1 pc ls r h := by
  intro H locs k n L hl hr hS h1 h2
  have K := kk H locs k n L hl hr hS h1 h2
  have G := mj_loc hl hv
  rw [ho] at K
  exact lv_iload_n hx hb hd hf G K
theorem mj_so_iload (hx : p.tables.exec = Jvm.exec) (hb : c.code = cc) {i : Nat} {x : Int32} (hv : mj_nth ls i = some (some (.int x))) (hd : decode cc (off pc) = .ok (.iload i, 2)) (ho : off (pc + 1) = off pc + 2) (kk : mj_J p l e R s m args below meth c D cl tys ad bi z nL off QQ b0 b1 (pc + 1) ls (.int x :: r) h) : mj_J p l e R s m args below meth c D cl tys ad bi z nL off QQ b0 b1 pc ls r h := by
  intro H locs k n L hl hr hS h1 h2
  have K := kk H locs k n L hl hr hS h1 h2
  have G := mj_loc hl hv
  rw [ho] at K
  exact lv_iload hx hb hd G K
theorem mj_so_lload_n (hx : p.tables.exec = Jvm.exec) (hb : c.code = cc) {i : Nat} {f : Fin 4} (hf : (f : Nat) = i) {x : Int64} (hv : mj_nth ls i = some (some (.long x))) (hd : decode cc (off pc) = .ok (.lload_n f, 1)) (ho : off (pc + 1) = off pc + 1) (kk : mj_J p l e R s m args below meth c D cl tys ad bi z nL off QQ b0 b1 (pc + 1) ls (.long x :: r) h) : mj_J p l e R s m args below meth c D cl tys ad bi z nL off QQ b0 b1 pc ls r h := by
  intro H locs k n L hl hr hS h1 h2
  have K := kk H locs k n L hl hr hS h1 h2
  have G := mj_loc hl hv
  rw [ho] at K
  exact lv_lload_n hx hb hd hf G K
theorem mj_so_lload (hx : p.tables.exec = Jvm.exec) (hb : c.code = cc) {i : Nat} {x : Int64} (hv : mj_nth ls i = some (some (.long x))) (hd : decode cc (off pc) = .ok (.lload i, 2)) (ho : off (pc + 1) = off pc + 2) (kk : mj_J p l e R s m args below meth c D cl tys ad bi z nL off QQ b0 b1 (pc + 1) ls (.long x :: r) h) : mj_J p l e R s m args below meth c D cl tys ad bi z nL off QQ b0 b1 pc ls r h := by
  intro H locs k n L hl hr hS h1 h2
  have K := kk H locs k n L hl hr hS h1 h2
  have G := mj_loc hl hv
  rw [ho] at K
  exact lv_lload hx hb hd G K
theorem mj_so_aload_n (hx : p.tables.exec = Jvm.exec) (hb : c.code = cc) {i : Nat} {f : Fin 4} (hf : (f : Nat) = i) {x : Nat} (hv : mj_nth ls i = some (some (.ref x))) (hd : decode cc (off pc) = .ok (.aload_n f, 1)) (ho : off (pc + 1) = off pc + 1) (kk : mj_J p l e R s m args below meth c D cl tys ad bi z nL off QQ b0 b1 (pc + 1) ls (.ref x :: r) h) : mj_J p l e R s m args below meth c D cl tys ad bi z nL off QQ b0 b1 pc ls r h := by
  intro H locs k n L hl hr hS h1 h2
  have K := kk H locs k n L hl hr hS h1 h2
  have G := mj_loc hl hv
  rw [ho] at K
  exact lv_aload_n hx hb hd hf G K
theorem mj_so_aload (hx : p.tables.exec = Jvm.exec) (hb : c.code = cc) {i : Nat} {x : Nat} (hv : mj_nth ls i = some (some (.ref x))) (hd : decode cc (off pc) = .ok (.aload i, 2)) (ho : off (pc + 1) = off pc + 2) (kk : mj_J p l e R s m args below meth c D cl tys ad bi z nL off QQ b0 b1 (pc + 1) ls (.ref x :: r) h) : mj_J p l e R s m args below meth c D cl tys ad bi z nL off QQ b0 b1 pc ls r h := by
  intro H locs k n L hl hr hS h1 h2
  have K := kk H locs k n L hl hr hS h1 h2
  have G := mj_loc hl hv
  rw [ho] at K
  exact lv_aload hx hb hd G K
theorem mj_so_istore_n (hx : p.tables.exec = Jvm.exec) (hb : c.code = cc) {i : Nat} {f : Fin 4} (hf : (f : Nat) = i) {x : Int32} (hi : i < nL) (hd : decode cc (off pc) = .ok (.istore_n f, 1)) (ho : off (pc + 1) = off pc + 1) (kk : mj_J p l e R s m args below meth c D cl tys ad bi z nL off QQ b0 b1 (pc + 1) (mj_st1 ls i (.int x)) r h) : mj_J p l e R s m args below meth c D cl tys ad bi z nL off QQ b0 b1 pc ls (.int x :: r) h := by
  intro H locs k n L hl hr hS h1 h2
  refine lv_istore_n hx hb hd hf hl hi rfl fun L1 hl1 => ?_
  have K := kk H locs k n L1 (mj_lv_st1 (v := .int x) hl1) hr hS h1 h2
  rw [ho] at K
  exact K
theorem mj_so_istore (hx : p.tables.exec = Jvm.exec) (hb : c.code = cc) {i : Nat} {x : Int32} (hi : i < nL) (hd : decode cc (off pc) = .ok (.istore i, 2)) (ho : off (pc + 1) = off pc + 2) (kk : mj_J p l e R s m args below meth c D cl tys ad bi z nL off QQ b0 b1 (pc + 1) (mj_st1 ls i (.int x)) r h) : mj_J p l e R s m args below meth c D cl tys ad bi z nL off QQ b0 b1 pc ls (.int x :: r) h := by
  intro H locs k n L hl hr hS h1 h2
  refine lv_istore hx hb hd hl hi rfl fun L1 hl1 => ?_
  have K := kk H locs k n L1 (mj_lv_st1 (v := .int x) hl1) hr hS h1 h2
  rw [ho] at K
  exact K
theorem mj_so_lstore_n (hx : p.tables.exec = Jvm.exec) (hb : c.code = cc) {i : Nat} {f : Fin 4} (hf : (f : Nat) = i) {x : Int64} (hi : i + 1 < nL) (hd : decode cc (off pc) = .ok (.lstore_n f, 1)) (ho : off (pc + 1) = off pc + 1) (kk : mj_J p l e R s m args below meth c D cl tys ad bi z nL off QQ b0 b1 (pc + 1) (mj_st2 ls i (.long x)) r h) : mj_J p l e R s m args below meth c D cl tys ad bi z nL off QQ b0 b1 pc ls (.long x :: r) h := by
  intro H locs k n L hl hr hS h1 h2
  refine lv_lstore_n hx hb hd hf hl hi rfl fun L1 hl1 => ?_
  have K := kk H locs k n L1 (mj_lv_st2 (v := .long x) hl1) hr hS h1 h2
  rw [ho] at K
  exact K
theorem mj_so_lstore (hx : p.tables.exec = Jvm.exec) (hb : c.code = cc) {i : Nat} {x : Int64} (hi : i + 1 < nL) (hd : decode cc (off pc) = .ok (.lstore i, 2)) (ho : off (pc + 1) = off pc + 2) (kk : mj_J p l e R s m args below meth c D cl tys ad bi z nL off QQ b0 b1 (pc + 1) (mj_st2 ls i (.long x)) r h) : mj_J p l e R s m args below meth c D cl tys ad bi z nL off QQ b0 b1 pc ls (.long x :: r) h := by
  intro H locs k n L hl hr hS h1 h2
  refine lv_lstore hx hb hd hl hi rfl fun L1 hl1 => ?_
  have K := kk H locs k n L1 (mj_lv_st2 (v := .long x) hl1) hr hS h1 h2
  rw [ho] at K
  exact K
theorem mj_so_astore_n (hx : p.tables.exec = Jvm.exec) (hb : c.code = cc) {i : Nat} {f : Fin 4} (hf : (f : Nat) = i) {x : Nat} (hi : i < nL) (hd : decode cc (off pc) = .ok (.astore_n f, 1)) (ho : off (pc + 1) = off pc + 1) (kk : mj_J p l e R s m args below meth c D cl tys ad bi z nL off QQ b0 b1 (pc + 1) (mj_st1 ls i (.ref x)) r h) : mj_J p l e R s m args below meth c D cl tys ad bi z nL off QQ b0 b1 pc ls (.ref x :: r) h := by
  intro H locs k n L hl hr hS h1 h2
  refine lv_astore_n hx hb hd hf hl hi rfl fun L1 hl1 => ?_
  have K := kk H locs k n L1 (mj_lv_st1 (v := .ref x) hl1) hr hS h1 h2
  rw [ho] at K
  exact K
theorem mj_so_astore (hx : p.tables.exec = Jvm.exec) (hb : c.code = cc) {i : Nat} {x : Nat} (hi : i < nL) (hd : decode cc (off pc) = .ok (.astore i, 2)) (ho : off (pc + 1) = off pc + 2) (kk : mj_J p l e R s m args below meth c D cl tys ad bi z nL off QQ b0 b1 (pc + 1) (mj_st1 ls i (.ref x)) r h) : mj_J p l e R s m args below meth c D cl tys ad bi z nL off QQ b0 b1 pc ls (.ref x :: r) h := by
  intro H locs k n L hl hr hS h1 h2
  refine lv_astore hx hb hd hl hi rfl fun L1 hl1 => ?_
  have K := kk H locs k n L1 (mj_lv_st1 (v := .ref x) hl1) hr hS h1 h2
  rw [ho] at K
  exact K
theorem mj_so_iinc (hx : p.tables.exec = Jvm.exec) (hb : c.code = cc) {i : Nat} {v : Int} {x : Int32} (hi : i < nL) (hv : mj_nth ls i = some (some (.int x))) (hd : decode cc (off pc) = .ok (.iinc i v, 3)) (ho : off (pc + 1) = off pc + 3) (kk : mj_J p l e R s m args below meth c D cl tys ad bi z nL off QQ b0 b1 (pc + 1) (mj_st1 ls i (.int (x + Int32.ofInt v))) r h) : mj_J p l e R s m args below meth c D cl tys ad bi z nL off QQ b0 b1 pc ls r h := by
  intro H locs k n L hl hr hS h1 h2
  obtain ⟨j, hj⟩ := mj_locAt (ad := ad) hv
  refine lv_iinc hx hb hd hl (k := j) hj rfl hi rfl fun L1 hl1 => ?_
  have K := kk H locs k n L1 (mj_lv_st1 (v := .int (x + Int32.ofInt v)) hl1) hr hS h1 h2
  rw [ho] at K
  exact K
theorem mj_so_iconst (hx : p.tables.exec = Jvm.exec) (hb : c.code = cc) {own : String} (hown : s.vm.findClass own = some m.cls) {TS : List Cond} (hts : ∀ w ∈ TS, w.before args s = true) {rt : Option FieldType} {v : Int} (hok : mj_ok TS own cc nL off rt pc (.iconst v)) (kk : mj_J p l e R s m args below meth c D cl tys ad bi z nL off QQ b0 b1 (pc + 1) ls (.int (Int32.ofInt v) :: r) h) : mj_J p l e R s m args below meth c D cl tys ad bi z nL off QQ b0 b1 pc ls r h := by
  intro H locs k n L hl hr hS h1 h2
  have K := kk H locs k n L hl hr hS h1 h2
  rcases hok with ⟨hd, ho⟩ | ⟨hd, ho, hv⟩ | ⟨hd, ho, hv⟩ | ⟨j, hd, ho, hw⟩
  · rw [ho] at K
    exact lv_iconst hx hb hd rfl K
  · rw [ho] at K
    exact lv_bipush hx hb hd hv K
  · rw [ho] at K
    exact lv_sipush hx hb hd hv K
  · rw [ho] at K
    exact lv_ldc hx hb hown (hts _ hw) hd K
theorem mj_so_lconst (hx : p.tables.exec = Jvm.exec) (hb : c.code = cc) {own : String} (hown : s.vm.findClass own = some m.cls) {TS : List Cond} (hts : ∀ w ∈ TS, w.before args s = true) {rt : Option FieldType} {v : Nat} (hok : mj_ok TS own cc nL off rt pc (.ldc2_w v)) (kk : mj_J p l e R s m args below meth c D cl tys ad bi z nL off QQ b0 b1 (pc + 1) ls (.long (Int64.ofNat v) :: r) h) : mj_J p l e R s m args below meth c D cl tys ad bi z nL off QQ b0 b1 pc ls r h := by
  intro H locs k n L hl hr hS h1 h2
  have K := kk H locs k n L hl hr hS h1 h2
  rcases hok with ⟨f, hf, hd, ho⟩ | ⟨j, hd, ho, hw⟩
  · rw [ho] at K
    exact lv_lconst hx hb hd (by rw [hf]) K
  · rw [ho] at K
    exact lv_ldc2 hx hb hown (hts _ hw) hd K
end MJP
