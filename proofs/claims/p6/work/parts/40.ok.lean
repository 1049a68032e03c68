def mj_ok (TS : List Cond) (own : String) (cc : ByteArray) (nL : Nat) (off : Nat → Nat) (rt : Option FieldType) (pc : Nat) (i : Instr) : Prop := match i with
  | .iconst v => (decode cc (off pc) = .ok (.iconst v, 1) ∧ off (pc + 1) = off pc + 1) ∨ (decode cc (off pc) = .ok (.bipush v, 2) ∧ off (pc + 1) = off pc + 2 ∧ (Int8.ofInt v).toInt32 = Int32.ofInt v) ∨ (decode cc (off pc) = .ok (.sipush v, 3) ∧ off (pc + 1) = off pc + 3 ∧ (Int16.ofInt v).toInt32 = Int32.ofInt v) ∨ (∃ j, decode cc (off pc) = .ok (.ldc j, 2) ∧ off (pc + 1) = off pc + 2 ∧ Jvm.Cond.constant own j (Int32.ofInt v) ∈ TS)
  | .ldc2_w n => (∃ f : Fin 2, (f : Nat) = n ∧ decode cc (off pc) = .ok (.lconst f, 1) ∧ off (pc + 1) = off pc + 1) ∨ (∃ j, decode cc (off pc) = .ok (.ldc2_w j, 3) ∧ off (pc + 1) = off pc + 3 ∧ Jvm.Cond.constantLong own j (Int64.ofNat n) ∈ TS)
  | .iload n => (∃ f : Fin 4, (f : Nat) = n ∧ decode cc (off pc) = .ok (.iload_n f, 1) ∧ off (pc + 1) = off pc + 1) ∨ (decode cc (off pc) = .ok (.iload n, 2) ∧ off (pc + 1) = off pc + 2)
  | .lload n => (∃ f : Fin 4, (f : Nat) = n ∧ decode cc (off pc) = .ok (.lload_n f, 1) ∧ off (pc + 1) = off pc + 1) ∨ (decode cc (off pc) = .ok (.lload n, 2) ∧ off (pc + 1) = off pc + 2)
  | .aload n => (∃ f : Fin 4, (f : Nat) = n ∧ decode cc (off pc) = .ok (.aload_n f, 1) ∧ off (pc + 1) = off pc + 1) ∨ (decode cc (off pc) = .ok (.aload n, 2) ∧ off (pc + 1) = off pc + 2)
  | .istore n => n < nL ∧ ((∃ f : Fin 4, (f : Nat) = n ∧ decode cc (off pc) = .ok (.istore_n f, 1) ∧ off (pc + 1) = off pc + 1) ∨ (decode cc (off pc) = .ok (.istore n, 2) ∧ off (pc + 1) = off pc + 2))
  | .lstore n => n + 1 < nL ∧ ((∃ f : Fin 4, (f : Nat) = n ∧ decode cc (off pc) = .ok (.lstore_n f, 1) ∧ off (pc + 1) = off pc + 1) ∨ (decode cc (off pc) = .ok (.lstore n, 2) ∧ off (pc + 1) = off pc + 2))
  | .astore n => n < nL ∧ ((∃ f : Fin 4, (f : Nat) = n ∧ decode cc (off pc) = .ok (.astore_n f, 1) ∧ off (pc + 1) = off pc + 1) ∨ (decode cc (off pc) = .ok (.astore n, 2) ∧ off (pc + 1) = off pc + 2))
  | .iinc n v => n < nL ∧ decode cc (off pc) = .ok (.iinc n v, 3) ∧ off (pc + 1) = off pc + 3
  | .ifCond q t => ∃ o : Int, decode cc (off pc) = .ok (.ifCond q o, 3) ∧ off (pc + 1) = off pc + 3 ∧ (off pc : Int) + o = (off t.toNat : Int)
  | .if_icmp q t => ∃ o : Int, decode cc (off pc) = .ok (.if_icmp q o, 3) ∧ off (pc + 1) = off pc + 3 ∧ (off pc : Int) + o = (off t.toNat : Int)
  | .goto t => ∃ o : Int, decode cc (off pc) = .ok (.goto o, 3) ∧ (off pc : Int) + o = (off t.toNat : Int)
  | .lookupswitch d ps => (∃ (d' : Int) (ps' : Array (Int × Int)) (len : Nat), decode cc (off pc) = .ok (.lookupswitch d' ps', len) ∧ (ps'.toList.zip (ps'.toList.drop 1)).all (fun (a, b) => a.1 < b.1) = true ∧ (off pc : Int) + d' = (off d.toNat : Int) ∧ ps'.toList.length = ps.toList.length ∧ ∀ x ∈ ps'.toList.zip ps.toList, x.1.1 = x.2.1 ∧ (Int32.ofInt x.1.1).toInt = x.1.1 ∧ (off pc : Int) + x.1.2 = (off x.2.2.toNat : Int)) ∨
      (∃ (d' lo : Int) (os : Array Int) (len : Nat), decode cc (off pc) = .ok (.tableswitch d' lo (lo + os.size - 1) os, len) ∧ (off pc : Int) + d' = (off d.toNat : Int) ∧ os.toList.length = ps.toList.length ∧ ∀ j : Nat, j < os.size → ∃ (o t : Int), os[j]? = some o ∧ ps.toList[j]? = some (lo + j, t) ∧ (Int32.ofInt (lo + j)).toInt = lo + j ∧ (off pc : Int) + o = (off t.toNat : Int))
  | .ireturn => decode cc (off pc) = .ok (.ireturn, 1) ∧ rt = some .int
  | .freturn => decode cc (off pc) = .ok (.ireturn, 1) ∧ rt = some .boolean
  | .dreturn => decode cc (off pc) = .ok (.ireturn, 1) ∧ rt = some .char
  | .lreturn => decode cc (off pc) = .ok (.lreturn, 1) ∧ rt = some .long
  | .return_ => decode cc (off pc) = .ok (.return_, 1) ∧ rt = none
  | i => decode cc (off pc) = .ok (i, 1) ∧ off (pc + 1) = off pc + 1
section MJS
variable {p : Program} {l : Launch} {e : Env} {R : Room} {s : State} {m : MethodId} {args : Array Value} {below : List Frame} {meth : Method} {c : Code}
def mj_J (p : Program) (l : Launch) (e : Env) (R : Room) (s : State) (m : MethodId) (args : Array Value) (below : List Frame) (meth : Method) (c : Code) (D : va_G) (cl : List vw_C) (tys : List (ClassId × FieldType)) (ad : Nat → Nat) (bi : Nat) (z : Nat → Prop) (nL : Nat) (off : Nat → Nat) (QQ : State → Prop) (b0 b1 : Nat) (pc : Nat) (ls : mj_L) (st : List Value) (h : mj_H) : Prop :=
  ∀ (H : Heap) (locs : List Loc) (k n : Nat) (L : Array Slot), lv_has L nL (mj_lv ad 0 ls) → mj_rep D cl tys ad bi z h H → va_S (mj_A z) s.heap H locs → k + h.2.1 ≤ b0 → n + h.2.2.1 ≤ b1 →
    W p l e R s m args below meth c H locs k n QQ (F0 m (off pc) L (st.map (mj_tr ad)))
theorem mj_loc {ad : Nat → Nat} {L : Array Slot} {nL n : Nat} {ls : mj_L} {v : Value} (hl : lv_has L nL (mj_lv ad 0 ls)) (h : mj_nth ls n = some (some v)) : L[n]? = some (.val (mj_tr ad v)) := by
  rw [mj_nth_get] at h
  have := hl.2.2 (0 + n, mj_tr ad v) (mj_lv_mem.mpr ⟨n, v, h, rfl⟩)
  simpa using this
theorem mj_locAt {ad : Nat → Nat} {n : Nat} {ls : mj_L} {v : Value} (h : mj_nth ls n = some (some v)) : ∃ k : Nat, (mj_lv ad 0 ls)[k]? = some (n, mj_tr ad v) := by
  rw [mj_nth_get] at h
  have := mj_lv_mem (ad := ad) (i := 0).mpr ⟨n, v, h, rfl⟩
  rw [Nat.zero_add] at this
  exact List.mem_iff_getElem?.mp this
end MJS
