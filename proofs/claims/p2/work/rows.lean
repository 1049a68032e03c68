section
def mj_nth {α : Type} : List α → Nat → Option α
  | [], _ => none
  | a :: _, 0 => some a
  | _ :: l, n + 1 => mj_nth l n
def mj_stn {α : Type} : List α → Nat → α → List α
  | [], _, _ => []
  | _ :: l, 0, b => b :: l
  | a :: l, n + 1, b => a :: mj_stn l n b
abbrev mj_O : Type := (Nat × vp_A) ⊕ (Nat × List Value) ⊕ (Nat × (Nat → Nat)) ⊕ Unit
abbrev mj_H : Type := List mj_O × Nat × Nat × Bool
abbrev mj_R : Type := (Option Value ⊕ Nat) × mj_H
abbrev mj_L : Type := List (Option Value)
abbrev mj_C : Type := List (Bool × Instr)
def mj_obj (o : Nat × List Value) : mj_O := .inr (.inl o)
def mj_set (h : mj_H) (i : Nat) (o : mj_O) : mj_H := (mj_stn h.1 i o, h.2)
def mj_kill : mj_L → Nat → mj_L
  | ls, 0 => ls
  | ls, k + 1 => match mj_nth ls k with
    | some (some (.long _)) => mj_stn ls k none
    | some (some (.double _)) => mj_stn ls k none
    | _ => ls
def mj_st1 (ls : mj_L) (k : Nat) (v : Value) : mj_L := mj_stn (mj_kill ls k) k (some v)
def mj_st2 (ls : mj_L) (k : Nat) (v : Value) : mj_L := mj_stn (mj_stn (mj_kill ls k) k (some v)) (k + 1) none
def mj_lay : List Value → Nat → mj_L
  | [], n => List.replicate n none
  | .long x :: r, n => some (.long x) :: none :: mj_lay r (n - 2)
  | .double x :: r, n => some (.double x) :: none :: mj_lay r (n - 2)
  | v :: r, n => some v :: mj_lay r (n - 1)
def mj_pop : Nat → List Value → List Value → Option (List Value × List Value)
  | 0, st, as => some (as, st)
  | _ + 1, [], _ => none
  | n + 1, v :: st, as => mj_pop n st (v :: as)
abbrev mj_N : Type := Nat → Option (List Value)
def mj_fresh (t n : Nat) : Option vp_A := match t with
  | 1 => some (n, .inr (.inl (fun _ => 0)))
  | 0 => some (n, .inl (fun _ => 0))
  | 2 => some (n, .inl (fun _ => 0))
  | 3 => some (n, .inl (fun _ => 0))
  | 4 => some (n, .inl (fun _ => 0))
  | _ => none
def mj_tag : ArrayType → Option Nat
  | .int => some 0
  | .long => some 1
  | .char => some 2
  | .boolean => some 3
  | .byte => some 4
  | _ => none
def mj_wt (st : List Value) : Nat := (st.map fun v => v.category).sum
def mj_sw (go : Int → Prop) (d : Int) (x : Int32) : List (Int × Int) → Prop
  | [] => go d
  | (v, t) :: l => (x = Int32.ofInt v → go t) ∧ (¬ x = Int32.ofInt v → mj_sw go d x l)
def mj_thr (hd : Nat → Nat → Option (Option (Nat × Nat))) (Q : mj_R → Prop) (k : Nat → mj_L → List Value → mj_H → Prop) (pc : Nat) (ls : mj_L) (c : Nat) (h : mj_H) : Prop := match hd pc c with
  | some (some (t, j)) => k (t + 1) (mj_stn (mj_kill ls j) j none) [] h
  | some none => Q (.inr c, h)
  | none => False
def mj_after (hd : Nat → Nat → Option (Option (Nat × Nat))) (Q : mj_R → Prop) (k : Nat → mj_L → List Value → mj_H → Prop) (pc : Nat) (ls : mj_L) (r : List Value) : mj_R → Prop
  | (.inl none, h) => k (pc + 1) ls r h
  | (.inl (some v), h) => k (pc + 1) ls (v :: r) h
  | (.inr c, h) => mj_thr hd Q k pc ls c h
def mj_recv (n : Nat) (as : List Value) (h : mj_H) : Bool := match n % 4 with
  | 0 => match as with
    | .ref a :: _ => match mj_nth h.1 a with
      | some (.inr (.inl (ci, _))) => Nat.beq ci (n / 64)
      | _ => false
    | _ => false
  | 2 => match as with
    | .ref a :: _ => match mj_nth h.1 a with
      | some (.inr (.inl (ci, _))) => Nat.beq ci (n / 64)
      | _ => false
    | _ => false
  | 3 => match as with
    | .ref a :: _ => match mj_nth h.1 a with
      | some (.inr (.inl (ci, _))) => Nat.beq ci (n / 64)
      | _ => false
    | _ => false
  | _ => true
def mj_put (k : mj_O → Prop) (ci : Nat) (fs : List Value) (j ty : Nat) (v : Value) : Prop := match ty, v with
  | 0, .int x => k (.inr (.inl (ci, mj_stn fs j (.int x))))
  | 1, .long x => k (.inr (.inl (ci, mj_stn fs j (.long x))))
  | 2, .ref x => k (.inr (.inl (ci, mj_stn fs j (.ref x))))
  | 3, .int x => (x = 0 ∨ x = 1) ∧ k (.inr (.inl (ci, mj_stn fs j (.int x))))
  | _, _ => False
def mj_ni : List Value → Bool
  | [] => true
  | .int _ :: r => mj_ni r
  | .retAddr _ :: r => mj_ni r
  | .ref a :: r => match Nat.ble 1000 a with
    | true => mj_ni r
    | false => false
  | _ => false
def mj_bp (k : Nat → mj_L → List Value → mj_H → Prop) (pc : Nat) (ls : mj_L) (r : List Value) (h : mj_H) (a : Nat) : mj_R → Prop
  | (.inl v, os, bc, bs, _) => ∃ (j N : Nat) (g : Nat → Int32) (n : Nat) (f : Nat → Nat) (ml : Int32), mj_nth os 0 = some (.inr (.inl (9, [.ref j, .int 0, .int ml, .int (nI n)]))) ∧ mj_nth os j = some (.inl (4, N, .inl g)) ∧ 0 < j ∧ n ≤ N ∧ N ≤ 65536 ∧ sb_Lat f n g ∧ sb_Fit g ∧ match v with
    | none => k (pc + 1) ls r (mj_stn h.1 a (.inr (.inr (.inl (n, f)))), bc, bs, false)
    | some (.int x) => k (pc + 1) ls (.int x :: r) (mj_stn h.1 a (.inr (.inr (.inl (n, f)))), bc, bs, false)
    | some (.ref 0) => k (pc + 1) ls (.ref a :: r) (mj_stn h.1 a (.inr (.inr (.inl (n, f)))), bc, bs, false)
    | _ => False
  | _ => False
def mj_ip (k : Nat → mj_L → List Value → mj_H → Prop) (pc : Nat) (ls : mj_L) (r : List Value) (a : Nat) : mj_R → Prop
  | (.inl none, os, bc, bs, fl) => ∃ (N : Nat) (g : Nat → Int32) (ml : Int32), mj_nth os a = some (.inr (.inl (9, [.ref (a + 1), .int 0, .int ml, .int (nI 0)]))) ∧ mj_nth os (a + 1) = some (.inl (4, N, .inl g)) ∧ N ≤ 65536 ∧ sb_Fit g ∧ k (pc + 1) ls r (mj_stn (mj_stn os a (.inr (.inr (.inl (0, fun _ => 0))))) (a + 1) (.inr (.inr (.inr ()))), bc, bs, fl)
  | _ => False
section MJ
variable (call : Nat → List Value → mj_H → (mj_R → Prop) → Prop) (cst : Nat → Option (Nat × (Nat → Int32))) (nw : mj_N) (hd : Nat → Nat → Option (Option (Nat × Nat))) (Q : mj_R → Prop) (k : Nat → mj_L → List Value → mj_H → Prop)
def mj_stp (i : Instr) (pc : Nat) (ls : mj_L) (st : List Value) (h : mj_H) : Prop := match i with
  | .iconst v => k (pc + 1) ls (.int (Int32.ofInt v) :: st) h
  | .ldc2_w n => k (pc + 1) ls (.long (Int64.ofNat n) :: st) h
  | .iload n => match mj_nth ls n with
    | some (some (.int x)) => k (pc + 1) ls (.int x :: st) h
    | _ => False
  | .lload n => match mj_nth ls n with
    | some (some (.long x)) => k (pc + 1) ls (.long x :: st) h
    | _ => False
  | .aload n => match mj_nth ls n with
    | some (some (.ref x)) => k (pc + 1) ls (.ref x :: st) h
    | _ => False
  | .istore n => match st with
    | .int x :: r => k (pc + 1) (mj_st1 ls n (.int x)) r h
    | _ => False
  | .lstore n => match st with
    | .long x :: r => k (pc + 1) (mj_st2 ls n (.long x)) r h
    | _ => False
  | .astore n => match st with
    | .ref x :: r => k (pc + 1) (mj_st1 ls n (.ref x)) r h
    | _ => False
  | .iinc n c => match mj_nth ls n with
    | some (some (.int x)) => k (pc + 1) (mj_st1 ls n (.int (x + Int32.ofInt c))) st h
    | _ => False
  | .iadd => match st with
    | .int y :: .int x :: r => k (pc + 1) ls (.int (x + y) :: r) h
    | _ => False
  | .isub => match st with
    | .int y :: .int x :: r => k (pc + 1) ls (.int (x - y) :: r) h
    | _ => False
  | .imul => match st with
    | .int y :: .int x :: r => k (pc + 1) ls (.int (x * y) :: r) h
    | _ => False
  | .iand => match st with
    | .int y :: .int x :: r => k (pc + 1) ls (.int (x &&& y) :: r) h
    | _ => False
  | .ior => match st with
    | .int y :: .int x :: r => k (pc + 1) ls (.int (x ||| y) :: r) h
    | _ => False
  | .ixor => match st with
    | .int y :: .int x :: r => k (pc + 1) ls (.int (x ^^^ y) :: r) h
    | _ => False
  | .ishl => match st with
    | .int y :: .int x :: r => k (pc + 1) ls (.int (x <<< (y &&& 31)) :: r) h
    | _ => False
  | .ishr => match st with
    | .int y :: .int x :: r => k (pc + 1) ls (.int (x >>> (y &&& 31)) :: r) h
    | _ => False
  | .iushr => match st with
    | .int y :: .int x :: r => k (pc + 1) ls (.int (x.toUInt32 >>> (y.toUInt32 &&& Int32.toUInt32 31)).toInt32 :: r) h
    | _ => False
  | .idiv => match st with
    | .int y :: .int x :: r => ¬ y = 0 ∧ k (pc + 1) ls (.int (x / y) :: r) h
    | _ => False
  | .irem => match st with
    | .int y :: .int x :: r => ¬ y = 0 ∧ k (pc + 1) ls (.int (x - x / y * y) :: r) h
    | _ => False
  | .ineg => match st with
    | .int x :: r => k (pc + 1) ls (.int (-x) :: r) h
    | _ => False
  | .ladd => match st with
    | .long y :: .long x :: r => k (pc + 1) ls (.long (x + y) :: r) h
    | _ => False
  | .lsub => match st with
    | .long y :: .long x :: r => k (pc + 1) ls (.long (x - y) :: r) h
    | _ => False
  | .land => match st with
    | .long y :: .long x :: r => k (pc + 1) ls (.long (x &&& y) :: r) h
    | _ => False
  | .lor => match st with
    | .long y :: .long x :: r => k (pc + 1) ls (.long (x ||| y) :: r) h
    | _ => False
  | .lshl => match st with
    | .int y :: .long x :: r => k (pc + 1) ls (.long (x <<< (y.toInt64 &&& 63)) :: r) h
    | _ => False
  | .lshr => match st with
    | .int y :: .long x :: r => k (pc + 1) ls (.long (x >>> (y.toInt64 &&& 63)) :: r) h
    | _ => False
  | .lushr => match st with
    | .int y :: .long x :: r => k (pc + 1) ls (.long (x.toUInt64 >>> (y.toInt64.toUInt64 &&& Int64.toUInt64 63)).toInt64 :: r) h
    | _ => False
  | .lcmp => match st with
    | .long y :: .long x :: r => k (pc + 1) ls (.int (lg_cmp x y) :: r) h
    | _ => False
  | .i2l => match st with
    | .int x :: r => k (pc + 1) ls (.long x.toInt64 :: r) h
    | _ => False
  | .l2i => match st with
    | .long x :: r => k (pc + 1) ls (.int x.toInt32 :: r) h
    | _ => False
  | .i2c => match st with
    | .int x :: r => k (pc + 1) ls (.int (x.toUInt32 % 65536).toInt32 :: r) h
    | _ => False
  | .i2b => match st with
    | .int x :: r => k (pc + 1) ls (.int x.toInt8.toInt32 :: r) h
    | _ => False
  | .dup => match st with
    | .int x :: r => k (pc + 1) ls (.int x :: .int x :: r) h
    | .ref x :: r => k (pc + 1) ls (.ref x :: .ref x :: r) h
    | _ => False
  | .dup_x1 => match st with
    | .int x :: .ref y :: r => k (pc + 1) ls (.int x :: .ref y :: .int x :: r) h
    | .int x :: .int y :: r => k (pc + 1) ls (.int x :: .int y :: .int x :: r) h
    | _ => False
  | .dup2 => match st with
    | .int x :: .ref y :: r => k (pc + 1) ls (.int x :: .ref y :: .int x :: .ref y :: r) h
    | .int x :: .int y :: r => k (pc + 1) ls (.int x :: .int y :: .int x :: .int y :: r) h
    | .long x :: r => k (pc + 1) ls (.long x :: .long x :: r) h
    | _ => False
  | .pop => match st with
    | .int _ :: r => k (pc + 1) ls r h
    | .ref _ :: r => k (pc + 1) ls r h
    | _ => False
  | .monitorenter => match st with
    | .ref _ :: r => match Nat.ble (mj_wt r) 8 with
      | true => k (pc + 1) ls r h
      | false => False
    | _ => False
  | .pop2 => match st with
    | .long _ :: r => k (pc + 1) ls r h
    | _ => False
  | .ifCond c t => match st with
    | .int x :: r => match c with
      | .eq => (x = 0 → k t.toNat ls r h) ∧ (¬ x = 0 → k (pc + 1) ls r h)
      | .ne => (¬ x = 0 → k t.toNat ls r h) ∧ (x = 0 → k (pc + 1) ls r h)
      | .lt => (x < 0 → k t.toNat ls r h) ∧ (¬ x < 0 → k (pc + 1) ls r h)
      | .ge => (0 ≤ x → k t.toNat ls r h) ∧ (¬ 0 ≤ x → k (pc + 1) ls r h)
      | .gt => (0 < x → k t.toNat ls r h) ∧ (¬ 0 < x → k (pc + 1) ls r h)
      | .le => (x ≤ 0 → k t.toNat ls r h) ∧ (¬ x ≤ 0 → k (pc + 1) ls r h)
    | _ => False
  | .if_icmp c t => match st with
    | .int y :: .int x :: r => match c with
      | .eq => (x = y → k t.toNat ls r h) ∧ (¬ x = y → k (pc + 1) ls r h)
      | .ne => (¬ x = y → k t.toNat ls r h) ∧ (x = y → k (pc + 1) ls r h)
      | .lt => (x < y → k t.toNat ls r h) ∧ (¬ x < y → k (pc + 1) ls r h)
      | .ge => (y ≤ x → k t.toNat ls r h) ∧ (¬ y ≤ x → k (pc + 1) ls r h)
      | .gt => (y < x → k t.toNat ls r h) ∧ (¬ y < x → k (pc + 1) ls r h)
      | .le => (x ≤ y → k t.toNat ls r h) ∧ (¬ x ≤ y → k (pc + 1) ls r h)
    | _ => False
  | .goto t => k t.toNat ls st h
  | .lookupswitch d ps => match st with
    | .int x :: r => mj_sw (fun t => k t.toNat ls r h) d x ps.toList
    | _ => False
  | .ireturn => match st with
    | [.int x] => Q (.inl (some (.int x)), h)
    | _ => False
  | .freturn => match st with
    | [.int x] => (x = 0 ∨ x = 1) ∧ Q (.inl (some (.int x)), h)
    | _ => False
  | .dreturn => match st with
    | [.int x] => narrow .char (.int x) = .int x ∧ Q (.inl (some (.int x)), h)
    | _ => False
  | .lneg => match st with
    | .long x :: r => k (pc + 1) ls (.long (-x) :: r) h
    | _ => False
  | .athrow => match st with
    | [.int x] => narrow .byte (.int x) = .int x ∧ Q (.inl (some (.int x)), h)
    | _ => False
  | .lmul => match st with
    | .long y :: .long x :: r => k (pc + 1) ls (.long (x * y) :: r) h
    | _ => False
  | .ldiv => match st with
    | .long y :: .long x :: r => ¬ y = 0 ∧ k (pc + 1) ls (.long (x / y) :: r) h
    | _ => False
  | .lrem => match st with
    | .long y :: .long x :: r => ¬ y = 0 ∧ k (pc + 1) ls (.long (x - x / y * y) :: r) h
    | _ => False
  | .ifnonnull t => match st with
    | .ref _ :: r => k t.toNat ls r h
    | _ => False
  | .dload _ => k (pc + 1) ls (.retAddr 0 :: st) h
  | .ldc w => k (pc + 1) ls (.ref w :: st) h
  | .anewarray w => match st with
    | .ref a :: r => match cst a, Nat.ble 2000 a, w with
      | some _, true, 0 => k (pc + 1) ls (.ref (a - 900) :: r) h
      | some _, true, 1 => k (pc + 1) ls (.int 0 :: r) h
      | _, _, _ => False
    | _ => False
  | .instanceof w => match mj_pop (w / 4 % 16) st [] with
    | some (.ref a :: as, r) => match cst a, Nat.ble 2000 a, Nat.ble (mj_wt r) 8 with
      | some _, true, true => call (w / 1024) (.ref a :: as) h (mj_after hd Q k pc ls r)
      | _, _, _ => False
    | _ => False
  | .fload _ => match st with
    | .int n :: .int dp :: .ref a :: .int sp :: .ref a0 :: r => match Nat.ble (mj_wt r) 8, cst a0, mj_nth h.1 a with
      | true, some (n0, f), some (.inl (4, n1, .inl g)) => 1100 ≤ a0 ∧ a0 < 2000 ∧ ¬ sp < 0 ∧ ¬ dp < 0 ∧ ¬ n < 0 ∧ sp.toNatClampNeg + n.toNatClampNeg ≤ n0 ∧ dp.toNatClampNeg + n.toNatClampNeg ≤ n1 ∧ sb_Fit f ∧ k (pc + 1) ls r (mj_set h a (.inl (4, n1, .inl (va_cpy f g sp.toNatClampNeg dp.toNatClampNeg n.toNatClampNeg))))
      | _, _, _ => False
    | _ => False
  | .lreturn => match st with
    | [.long x] => Q (.inl (some (.long x)), h)
    | _ => False
  | .return_ => match st with
    | [] => Q (.inl none, h)
    | _ => False
  | .getfield f => match st with
    | .ref a :: r => match mj_nth h.1 a with
      | some (.inr (.inl (ci, fs))) => match Nat.beq ci (f / 256), mj_nth fs (f / 4 % 64) with
        | true, some v => k (pc + 1) ls (v :: r) h
        | _, _ => False
      | _ => False
    | _ => False
  | .putfield f => match st with
    | v :: .ref a :: r => match mj_nth h.1 a with
      | some (.inr (.inl (ci, fs))) => match Nat.beq ci (f / 256), Nat.blt (f / 4 % 64) fs.length with
        | true, true => mj_put (fun o => k (pc + 1) ls r (mj_set h a o)) ci fs (f / 4 % 64) (f % 4) v
        | _, _ => False
      | _ => False
    | _ => False
  | .getstatic j => k (pc + 1) ls (.ref j :: st) h
  | .iaload => match st with
    | .int i :: .ref a :: r => match Nat.ble 1000 a with
      | true => match cst a, Nat.blt a 1100 with
        | some (n, g), true => vp_in i n ∧ k (pc + 1) ls (.int (g i.toNatClampNeg) :: r) h
        | _, _ => False
      | false => match mj_nth h.1 a with
        | some (.inl (0, n, .inl g)) => vp_in i n ∧ k (pc + 1) ls (.int (g i.toNatClampNeg) :: r) h
        | _ => False
    | _ => False
  | .laload => match st with
    | .int i :: .ref a :: r => match mj_nth h.1 a with
      | some (.inl (1, n, .inr (.inl g))) => vp_in i n ∧ k (pc + 1) ls (.long (g i.toNatClampNeg) :: r) h
      | _ => False
    | _ => False
  | .caload => match st with
    | .int i :: .ref a :: r => match mj_nth h.1 a with
      | some (.inl (2, n, .inl g)) => vp_in i n ∧ k (pc + 1) ls (.int (g i.toNatClampNeg) :: r) h
      | _ => False
    | _ => False
  | .baload => match st with
    | .int i :: .ref a :: r => match Nat.ble 1000 a with
      | true => match cst a, Nat.ble 1100 a, Nat.blt a 2000 with
        | some (n, g), true, true => vp_in i n ∧ k (pc + 1) ls (.int (g i.toNatClampNeg) :: r) h
        | _, _, _ => False
      | false => match mj_nth h.1 a with
        | some (.inl (3, n, .inl g)) => vp_in i n ∧ k (pc + 1) ls (.int (g i.toNatClampNeg) :: r) h
        | some (.inl (4, n, .inl g)) => vp_in i n ∧ k (pc + 1) ls (.int (g i.toNatClampNeg) :: r) h
        | _ => False
    | _ => False
  | .iastore => match st with
    | .int x :: .int i :: .ref a :: r => match mj_nth h.1 a with
      | some (.inl (0, n, .inl g)) => vp_in i n ∧ k (pc + 1) ls r (mj_set h a (.inl (0, n, .inl (upd g i.toNatClampNeg x))))
      | _ => False
    | _ => False
  | .lastore => match st with
    | .long x :: .int i :: .ref a :: r => match mj_nth h.1 a with
      | some (.inl (1, n, .inr (.inl g))) => vp_in i n ∧ k (pc + 1) ls r (mj_set h a (.inl (1, n, .inr (.inl (vp_updL g i.toNatClampNeg x)))))
      | _ => False
    | _ => False
  | .castore => match st with
    | .int x :: .int i :: .ref a :: r => match mj_nth h.1 a with
      | some (.inl (2, n, .inl g)) => vp_in i n ∧ k (pc + 1) ls r (mj_set h a (.inl (2, n, .inl (upd g i.toNatClampNeg (vp_nar .char x)))))
      | _ => False
    | _ => False
  | .bastore => match st with
    | .int x :: .int i :: .ref a :: r => match mj_nth h.1 a with
      | some (.inl (3, n, .inl g)) => vp_in i n ∧ k (pc + 1) ls r (mj_set h a (.inl (3, n, .inl (upd g i.toNatClampNeg (vp_nar .boolean x)))))
      | some (.inl (4, n, .inl g)) => vp_in i n ∧ k (pc + 1) ls r (mj_set h a (.inl (4, n, .inl (upd g i.toNatClampNeg (vp_nar .byte x)))))
      | _ => False
    | _ => False
  | .arraylength => match st with
    | .ref a :: r => match Nat.ble 1000 a with
      | true => match cst a, Nat.blt a 2000 with
        | some (n, _), true => k (pc + 1) ls (.int (Int32.ofNat n) :: r) h
        | _, _ => False
      | false => match mj_nth h.1 a with
        | some (.inl (t, n, _)) => match Nat.blt t 5 with
          | true => k (pc + 1) ls (.int (Int32.ofNat n) :: r) h
          | false => False
        | _ => False
    | _ => False
  | .new c => match nw c, h with
    | some fs, (os, bc + 1, bs, true) => os.length < 999 ∧ fs.length ≤ bs ∧ k (pc + 1) ls (.ref os.length :: st) (os ++ [.inr (.inl (c, fs))], bc, bs - fs.length, true)
    | _, _ => False
  | .newarray t => match mj_tag t, st, h with
    | some g, .int n :: r, (os, bc + 1, bs, true) => match mj_fresh g n.toNatClampNeg with
      | some a => os.length < 999 ∧ ¬ n < 0 ∧ n.toNatClampNeg ≤ bs ∧ n.toNatClampNeg ≤ 2000 ∧ k (pc + 1) ls (.ref os.length :: r) (os ++ [.inl (g, a)], bc, bs - n.toNatClampNeg, true)
      | none => False
    | _, _, _ => False
  | .invokeinterface y n => match mj_pop (n / 4 % 16) st [] with
    | some (as, r) => match mj_recv n as h, Nat.ble (mj_wt r) 8 with
      | true, true => call y as h (mj_after hd Q k pc ls r)
      | _, _ => False
    | none => False
  | .areturn => match st with
    | [.ref x] => Q (.inl (some (.ref x)), h)
    | _ => False
  | .invokestatic _ => match st with
    | .int n :: .int dp :: .ref a :: .int sp :: .ref a0 :: r => match Nat.ble (mj_wt r) 8, mj_nth h.1 a0, mj_nth h.1 a with
      | true, some (.inl (4, n0, .inl f)), some (.inl (4, n1, .inl g)) => ¬ sp < 0 ∧ ¬ dp < 0 ∧ ¬ n < 0 ∧ sp.toNatClampNeg + n.toNatClampNeg ≤ n0 ∧ dp.toNatClampNeg + n.toNatClampNeg ≤ n1 ∧ sb_Fit f ∧ k (pc + 1) ls r (mj_set h a (.inl (4, n1, .inl (va_cpy f g sp.toNatClampNeg dp.toNatClampNeg n.toNatClampNeg))))
      | _, _, _ => False
    | _ => False
  | .invokespecial w => match st with
    | .ref a :: r => match Nat.ble (mj_wt r) 8 with
      | true => call (w / 1024) [.ref a] h (mj_ip k pc ls r a)
      | false => False
    | _ => False
  | .invokevirtual w => match mj_pop (w / 4 % 16) st [] with
    | some (.ref a :: as, r) => match mj_nth h.1 a, mj_ni as, Nat.ble (mj_wt r) 8 with
      | some (.inr (.inr (.inl (n, f)))), true, true => ∀ (ml : Int32) (N : Nat) (g : Nat → Int32), n ≤ N → N ≤ 65536 → sb_Lat f n g → sb_Fit g → call (w / 1024) (.ref 0 :: as) ([.inr (.inl (9, [.ref 1, .int 0, .int ml, .int (nI n)])), .inl (4, N, .inl g)], h.2.1, h.2.2.1, true) (mj_bp k pc ls r h a)
      | _, _, _ => False
    | _ => False
  | .invokedynamic w => match st, w with
    | .int y :: .int x :: r, 0 => match Nat.ble (mj_wt r) 8 with
      | true => k (pc + 1) ls (.int (if x < y then y else x) :: r) h
      | false => False
    | .int y :: .int x :: r, 1 => match Nat.ble (mj_wt r) 8 with
      | true => k (pc + 1) ls (.int (if y < x then y else x) :: r) h
      | false => False
    | _, _ => False
  | .checkcast c => match Nat.ble (mj_wt st) 8, h with
    | true, (os, bc + 1, bs, _) => 6 ≤ bs ∧ mj_thr hd Q k pc ls c (os, bc, bs - 6, false)
    | _, _ => False
  | _ => False
end MJ
def mj_sg (call : Nat → List Value → mj_H → (mj_R → Prop) → Prop) (cst : Nat → Option (Nat × (Nat → Int32))) (nw : mj_N) (hd : Nat → Nat → Option (Option (Nat × Nat))) (code : mj_C) (J : Nat → mj_L → List Value → mj_H → Prop) (Q : mj_R → Prop) : Nat → Bool → Nat → mj_L → List Value → mj_H → Prop
  | 0, _, _, _, _, _ => False
  | f + 1, fst, pc, ls, st, h => match mj_nth code pc with
    | none => False
    | some (cu, i) => match cu, fst with
      | true, false => J pc ls st h
      | _, _ => mj_stp call cst nw hd Q (mj_sg call cst nw hd code J Q f false) i pc ls st h
def mj_Wp (call : Nat → List Value → mj_H → (mj_R → Prop) → Prop) (cst : Nat → Option (Nat × (Nat → Int32))) (nw : mj_N) (hd : Nat → Nat → Option (Option (Nat × Nat))) (code : mj_C) (Q : mj_R → Prop) (pc : Nat) (ls : mj_L) (st : List Value) (h : mj_H) : Prop :=
  ∀ J : Nat → mj_L → List Value → mj_H → Prop, (∀ pc ls st h, mj_sg call cst nw hd code J Q 400 true pc ls st h → J pc ls st h) → J pc ls st h
abbrev mj_X : Type := List (Nat × Nat × Nat × Nat × Nat)
def mj_hd (off : Nat → Nat) : mj_X → Nat → Nat → Option (Option (Nat × Nat))
  | [], _, _ => some none
  | (a, b, t, j, q0) :: r, pc, q => match Nat.ble a (off pc) && Nat.blt (off pc) b with
    | true => match Nat.beq q q0 with
      | true => some (some (t, j))
      | false => match Nat.blt q 2, mj_hd off r pc q with
        | true, some (some x) => some (some x)
        | _, _ => none
    | false => mj_hd off r pc q
def mj_off (os : List Nat) (pc : Nat) : Nat := (mj_nth os pc).getD 0
abbrev mj_T : Type := Nat → Option (mj_C × Nat × List Nat × mj_X)
def mj_Mt (T : mj_T) (cst : Nat → Option (Nat × (Nat → Int32))) (nw : mj_N) : Nat → Nat → List Value → mj_H → (mj_R → Prop) → Prop
  | 0, _, _, _, _ => False
  | n + 1, y, as, h, Q => match T y with
    | none => False
    | some (code, nL, os, hx) => match Nat.ble (mj_wt as) nL with
      | true => mj_Wp (mj_Mt T cst nw n) cst nw (mj_hd (mj_off os) hx) code Q 0 (mj_lay as nL) [] h
      | false => False
end
section
def fN0 : List Value := [.int 0, .null, .null, .null, .null, .null, .int 0]
def fN1 : List Value := [.null, .int 0]
def fN2 : List Value := [.null, .null, .null, .null, .null, .null, .int 0]
def fN3 : List Value := [.null, .null, .int 0]
def fN4 : List Value := [.null, .null, .int 0, .int 0, .int 0]
def fN5 : List Value := [.null, .null, .null, .int 0, .int 0]
def fN6 : List Value := [.null, .null, .long 0, .long 0, .long 0, .long 0, .int 0, .int 0, .int 0, .int 0]
def fN7 : List Value := [.int 0, .null, .null, .null, .null, .null, .int 0, .int 0, .int 0]
def fN8 : List Value := [.null, .null, .null, .int 0]
def fN9 : List Value := [.null, .int 0, .int 0, .int 0]
def fN10 : List Value := [.int 0, .int 0, .int 0, .null, .int 0, .int 0, .int 0, .null, .null, .null, .null, .null, .null, .null, .null, .null, .null, .null, .int 0, .int 0, .null, .null, .int 0, .int 0, .null, .null, .null, .null, .null, .null, .null, .null, .null, .int 0, .null, .null, .int 0, .int 0, .int 0, .int 0, .int 0, .int 0, .int 0, .int 0, .null]
def gnw : mj_N := fun c => match c with
  | 0 => some fN0
  | 1 => some fN1
  | 2 => some fN2
  | 3 => some fN3
  | 4 => some fN4
  | 5 => some fN5
  | 6 => some fN6
  | 7 => some fN7
  | 8 => some fN8
  | 9 => some fN9
  | 10 => some fN10
  | _ => none
end
section
def law_nd : List Int32 := [0, 1, 1, 2, 4, 1, 1, 3, 1, 0, 1, 1, 1, 2, 1, 1, 1, 1, 1, 0]
def law_d1 : List Int32 := [48, 49, 50, 51, 52, 53, 54, 55, 56, 57, 48, 49, 50, 51, 52, 53, 54, 55, 56, 57, 48, 49, 50, 51, 52, 53, 54, 55, 56, 57, 48, 49, 50, 51, 52, 53, 54, 55, 56, 57, 48, 49, 50, 51, 52, 53, 54, 55, 56, 57, 48, 49, 50, 51, 52, 53, 54, 55, 56, 57, 48, 49, 50, 51, 52, 53, 54, 55, 56, 57, 48, 49, 50, 51, 52, 53, 54, 55, 56, 57, 48, 49, 50, 51, 52, 53, 54, 55, 56, 57, 48, 49, 50, 51, 52, 53, 54, 55, 56, 57]
def law_d2 : List Int32 := [48, 48, 48, 48, 48, 48, 48, 48, 48, 48, 49, 49, 49, 49, 49, 49, 49, 49, 49, 49, 50, 50, 50, 50, 50, 50, 50, 50, 50, 50, 51, 51, 51, 51, 51, 51, 51, 51, 51, 51, 52, 52, 52, 52, 52, 52, 52, 52, 52, 52, 53, 53, 53, 53, 53, 53, 53, 53, 53, 53, 54, 54, 54, 54, 54, 54, 54, 54, 54, 54, 55, 55, 55, 55, 55, 55, 55, 55, 55, 55, 56, 56, 56, 56, 56, 56, 56, 56, 56, 56, 57, 57, 57, 57, 57, 57, 57, 57, 57, 57]
def law_s2010 : List Int32 := [32, 46, 32]
def law_s2011 : List Int32 := [40, 41]
def law_s2012 : List Int32 := [94, 95, 33, 46, 61, 43, 45, 42, 60]
def law_cst (xs : List Int32) : Nat → Option (Nat × (Nat → Int32)) := fun a => match a with
  | 1000 => some (20, fun j => law_nd.getD j 0)
  | 1001 => some (xs.length, fun j => xs.getD j 0)
  | 1101 => some (100, fun j => law_d1.getD j 0)
  | 1102 => some (100, fun j => law_d2.getD j 0)
  | 1110 => some (3, fun j => law_s2010.getD j 0)
  | 2010 => some (0, fun _ => 0)
  | 1111 => some (2, fun j => law_s2011.getD j 0)
  | 2011 => some (0, fun _ => 0)
  | 1112 => some (9, fun j => law_s2012.getD j 0)
  | 2012 => some (0, fun _ => 0)
  | _ => none
end
section
def cM_0 : mj_C := [(false, .new 0), (false, .dup), (false, .aload 0), (false, .iconst 0), (false, .invokeinterface 1 9), (false, .invokeinterface 4 10), (false, .astore 1), (false, .new 10), (false, .dup), (false, .aload 0), (false, .iconst 0), (false, .invokeinterface 1 9), (false, .invokeinterface 155 650), (false, .astore 2), (false, .iconst 1), (false, .newarray .long), (false, .astore 3), (false, .iconst 1), (false, .istore 4), (true, .iload 4), (false, .aload 0), (false, .arraylength), (false, .iconst 3), (false, .isub), (false, .if_icmp .gt 162), (false, .aload 0), (false, .iload 4), (false, .iaload), (false, .iconst 15), (false, .iand), (false, .lookupswitch 160 #[(0, 31), (1, 72), (2, 80), (3, 87), (4, 94), (5, 112), (6, 119), (7, 136), (8, 143)]), (false, .aload 1), (false, .aload 0), (false, .iload 4), (false, .iconst 1), (false, .iadd), (false, .iaload), (false, .i2l), (false, .iconst 32), (false, .lshl), (false, .aload 0), (false, .iload 4), (false, .iconst 2), (false, .iadd), (false, .iaload), (false, .i2l), (false, .ldc2_w 4294967295), (false, .land), (false, .lor), (false, .invokeinterface 5 8), (false, .aload 2), (false, .aload 0), (false, .iload 4), (false, .iconst 1), (false, .iadd), (false, .iaload), (false, .i2l), (false, .iconst 32), (false, .lshl), (false, .aload 0), (false, .iload 4), (false, .iconst 2), (false, .iadd), (false, .iaload), (false, .i2l), (false, .ldc2_w 4294967295), (false, .land), (false, .lor), (false, .invokeinterface 156 648), (false, .if_icmp .eq 160), (false, .iconst 0), (false, .freturn), (false, .aload 1), (false, .aload 3), (false, .invokeinterface 2 9), (false, .istore 5), (false, .aload 2), (false, .invokeinterface 192 644), (false, .istore 6), (false, .goto 160), (false, .aload 1), (false, .invokeinterface 7 4), (false, .pop), (false, .aload 2), (false, .invokeinterface 193 644), (false, .pop), (false, .goto 160), (false, .aload 1), (false, .invokeinterface 8 4), (false, .pop), (false, .aload 2), (false, .invokeinterface 194 644), (false, .pop), (false, .goto 160), (false, .aload 1), (false, .aload 0), (false, .iload 4), (false, .iconst 1), (false, .iadd), (false, .iaload), (false, .aload 3), (false, .invokeinterface 3 13), (false, .istore 5), (false, .aload 2), (false, .aload 0), (false, .iload 4), (false, .iconst 1), (false, .iadd), (false, .iaload), (false, .invokeinterface 211 648), (false, .istore 6), (false, .goto 160), (false, .aload 1), (false, .invokeinterface 10 4), (false, .pop), (false, .aload 2), (false, .invokeinterface 216 644), (false, .pop), (false, .goto 160), (false, .aload 1), (false, .aload 0), (false, .iload 4), (false, .iconst 1), (false, .iadd), (false, .iaload), (false, .invokeinterface 11 8), (false, .pop), (false, .aload 2), (false, .aload 0), (false, .iload 4), (false, .iconst 1), (false, .iadd), (false, .iaload), (false, .invokeinterface 218 648), (false, .pop), (false, .goto 160), (false, .aload 1), (false, .invokeinterface 12 4), (false, .pop), (false, .aload 2), (false, .invokeinterface 219 644), (false, .pop), (false, .goto 160), (false, .aload 1), (false, .aload 0), (false, .iload 4), (false, .iconst 1), (false, .iadd), (false, .iaload), (false, .invokeinterface 13 8), (false, .pop), (false, .aload 2), (false, .aload 0), (false, .iload 4), (false, .iconst 1), (false, .iadd), (false, .iaload), (false, .invokeinterface 220 648), (false, .pop), (false, .goto 160), (false, .iinc 4 3), (false, .goto 19), (false, .iconst 1), (false, .freturn)]
def oM_0 : List Nat := [0, 3, 4, 5, 6, 9, 12, 13, 16, 17, 18, 19, 22, 25, 26, 27, 29, 30, 31, 33, 35, 36, 37, 38, 39, 42, 43, 45, 46, 48, 49, 100, 101, 102, 104, 105, 106, 107, 108, 110, 111, 112, 114, 115, 116, 117, 118, 121, 122, 123, 126, 127, 128, 130, 131, 132, 133, 134, 136, 137, 138, 140, 141, 142, 143, 144, 147, 148, 149, 152, 155, 156, 157, 158, 159, 162, 164, 165, 168, 170, 173, 174, 177, 178, 179, 182, 183, 186, 187, 190, 191, 192, 195, 196, 199, 200, 201, 203, 204, 205, 206, 207, 210, 212, 213, 214, 216, 217, 218, 219, 222, 224, 227, 228, 231, 232, 233, 236, 237, 240, 241, 242, 244, 245, 246, 247, 250, 251, 252, 253, 255, 256, 257, 258, 261, 262, 265, 266, 269, 270, 271, 274, 275, 278, 279, 280, 282, 283, 284, 285, 288, 289, 290, 291, 293, 294, 295, 296, 299, 300, 303, 306, 309, 310]
def hM_0 : mj_X := []
def cM_1 : mj_C := [(false, .iload 1), (false, .aload 0), (false, .arraylength), (false, .if_icmp .ge 8), (false, .aload 0), (false, .iload 1), (false, .iaload), (false, .goto 9), (false, .iconst 0), (false, .ireturn)]
def oM_1 : List Nat := [0, 1, 2, 3, 6, 7, 8, 9, 12, 13]
def hM_1 : mj_X := []
def cM_2 : mj_C := [(false, .aload 1), (false, .iconst 0), (false, .aload 0), (false, .invokeinterface 6 4), (false, .i2l), (false, .lastore), (false, .goto 13), (false, .astore 2), (false, .iconst 1), (false, .ireturn), (false, .astore 2), (false, .iconst 2), (false, .ireturn), (false, .iconst 0), (false, .ireturn)]
def oM_2 : List Nat := [0, 1, 2, 3, 6, 7, 8, 11, 12, 13, 14, 15, 16, 17, 18]
def hM_2 : mj_X := [(0, 8, 7, 2, 0), (0, 8, 10, 2, 1)]
def cM_3 : mj_C := [(false, .aload 2), (false, .iconst 0), (false, .aload 0), (false, .iload 1), (false, .invokeinterface 9 8), (false, .i2l), (false, .lastore), (false, .goto 11), (false, .astore 3), (false, .iconst 1), (false, .ireturn), (false, .iconst 0), (false, .ireturn)]
def oM_3 : List Nat := [0, 1, 2, 3, 4, 7, 8, 9, 12, 13, 14, 15, 16]
def hM_3 : mj_X := [(0, 9, 8, 3, 0)]
def cM_4 : mj_C := [(false, .aload 0), (false, .monitorenter), (false, .aload 0), (false, .iconst 20), (false, .iconst 250), (false, .iload 1), (false, .invokedynamic 1), (false, .invokedynamic 0), (false, .putfield 0), (false, .new 2), (false, .dup), (false, .invokeinterface 21 134), (false, .astore 2), (false, .aload 0), (false, .new 1), (false, .dup), (false, .invokeinterface 14 70), (false, .putfield 6), (false, .aload 0), (false, .new 3), (false, .dup), (false, .aload 0), (false, .getfield 6), (false, .aload 2), (false, .invokeinterface 34 206), (false, .putfield 10), (false, .aload 0), (false, .new 4), (false, .dup), (false, .aload 0), (false, .getfield 0), (false, .invokeinterface 54 266), (false, .putfield 14), (false, .aload 0), (false, .new 5), (false, .dup), (false, .aload 2), (false, .aload 0), (false, .getfield 14), (false, .invokeinterface 64 334), (false, .putfield 18), (false, .aload 0), (false, .new 6), (false, .dup), (false, .aload 0), (false, .getfield 0), (false, .invokeinterface 85 394), (false, .putfield 22), (false, .aload 0), (false, .iconst (-1)), (false, .putfield 24), (false, .return_)]
def oM_4 : List Nat := [0, 1, 4, 5, 7, 10, 11, 14, 17, 20, 23, 24, 27, 28, 29, 32, 33, 36, 39, 40, 43, 44, 45, 48, 49, 52, 55, 56, 59, 60, 61, 64, 67, 70, 71, 74, 75, 76, 77, 80, 83, 86, 87, 90, 91, 92, 95, 98, 101, 102, 103, 106]
def hM_4 : mj_X := []
def cM_5 : mj_C := [(false, .aload 0), (false, .getfield 6), (false, .lload 1), (false, .invokeinterface 15 72), (false, .freturn)]
def oM_5 : List Nat := [0, 1, 4, 5, 8]
def hM_5 : mj_X := []
def cM_6 : mj_C := [(false, .aload 0), (false, .aload 0), (false, .getfield 10), (false, .invokeinterface 35 196), (false, .putfield 24), (false, .aload 0), (false, .getfield 6), (false, .invokeinterface 20 68), (false, .aload 0), (false, .getfield 24), (false, .iconst (-1)), (false, .if_icmp .ne 17), (false, .aload 0), (false, .aload 0), (false, .getfield 18), (false, .invokeinterface 65 324), (false, .putfield 24), (false, .aload 0), (false, .getfield 24), (false, .iconst (-1)), (false, .if_icmp .eq 22), (false, .checkcast 0), (false, .aload 0), (false, .getfield 14), (false, .invokeinterface 61 260), (false, .aload 0), (false, .getfield 0), (false, .if_icmp .le 29), (false, .checkcast 1), (false, .aload 0), (false, .getfield 22), (false, .aload 0), (false, .getfield 14), (false, .invokeinterface 86 392), (false, .aload 0), (false, .getfield 14), (false, .invokeinterface 61 260), (false, .ireturn)]
def oM_6 : List Nat := [0, 1, 2, 5, 8, 11, 12, 15, 18, 19, 22, 23, 26, 27, 28, 31, 34, 37, 38, 41, 42, 45, 55, 56, 59, 62, 63, 66, 69, 79, 80, 83, 84, 87, 90, 91, 94, 97]
def hM_6 : mj_X := []
def cM_7 : mj_C := [(false, .aload 0), (false, .getfield 24), (false, .ireturn)]
def oM_7 : List Nat := [0, 1, 4]
def hM_7 : mj_X := []
def cM_8 : mj_C := [(false, .aload 0), (false, .getfield 22), (false, .invokeinterface 87 388), (false, .freturn)]
def oM_8 : List Nat := [0, 1, 4, 7]
def hM_8 : mj_X := []
def cM_9 : mj_C := [(false, .iload 1), (false, .ifCond .lt 5), (false, .iload 1), (false, .iconst 200), (false, .if_icmp .le 6), (false, .checkcast 0), (false, .iconst 0), (false, .istore 2), (true, .iload 2), (false, .iload 1), (false, .if_icmp .ge 21), (false, .aload 0), (false, .getfield 22), (false, .invokeinterface 111 388), (false, .iconst 1), (false, .if_icmp .ne 21), (false, .aload 0), (false, .getfield 22), (false, .invokeinterface 89 388), (false, .iinc 2 1), (false, .goto 8), (false, .iload 2), (false, .ireturn)]
def oM_9 : List Nat := [0, 1, 4, 5, 8, 11, 21, 22, 23, 24, 25, 28, 29, 32, 35, 36, 39, 40, 43, 46, 49, 52, 53]
def hM_9 : mj_X := []
def cM_10 : mj_C := [(false, .aload 0), (false, .getfield 22), (false, .invokeinterface 111 388), (false, .ireturn)]
def oM_10 : List Nat := [0, 1, 4, 7]
def hM_10 : mj_X := []
def cM_11 : mj_C := [(false, .iload 1), (false, .lookupswitch 30 #[(0, 2), (1, 6), (2, 10), (3, 14), (4, 18), (5, 22), (6, 26)]), (false, .aload 0), (false, .getfield 22), (false, .invokeinterface 112 388), (false, .ireturn), (false, .aload 0), (false, .getfield 22), (false, .invokeinterface 113 388), (false, .ireturn), (false, .aload 0), (false, .getfield 22), (false, .invokeinterface 114 388), (false, .ireturn), (false, .aload 0), (false, .getfield 22), (false, .invokeinterface 115 388), (false, .ireturn), (false, .aload 0), (false, .getfield 22), (false, .invokeinterface 116 388), (false, .ireturn), (false, .aload 0), (false, .getfield 22), (false, .invokeinterface 117 388), (false, .ireturn), (false, .aload 0), (false, .getfield 22), (false, .invokeinterface 118 388), (false, .ireturn), (false, .iconst (-1)), (false, .ireturn)]
def oM_11 : List Nat := [0, 1, 44, 45, 48, 51, 52, 53, 56, 59, 60, 61, 64, 67, 68, 69, 72, 75, 76, 77, 80, 83, 84, 85, 88, 91, 92, 93, 96, 99, 100, 101]
def hM_11 : mj_X := []
def cM_12 : mj_C := [(false, .aload 0), (false, .getfield 22), (false, .invokeinterface 111 388), (false, .iconst 1), (false, .if_icmp .ne 9), (false, .aload 0), (false, .getfield 22), (false, .invokeinterface 110 388), (false, .goto 10), (false, .iconst (-1)), (false, .ireturn)]
def oM_12 : List Nat := [0, 1, 4, 7, 8, 11, 12, 15, 18, 21, 22]
def hM_12 : mj_X := []
def cM_13 : mj_C := [(false, .aload 0), (false, .getfield 22), (false, .invokeinterface 111 388), (false, .iconst 2), (false, .if_icmp .ne 10), (false, .aload 0), (false, .getfield 22), (false, .iload 1), (false, .invokeinterface 119 392), (false, .goto 11), (false, .iconst (-1)), (false, .ireturn)]
def oM_13 : List Nat := [0, 1, 4, 7, 8, 11, 12, 15, 16, 19, 22, 23]
def hM_13 : mj_X := []
def cM_14 : mj_C := [(false, .aload 0), (false, .monitorenter), (false, .aload 0), (false, .iconst 96), (false, .newarray .char), (false, .putfield 258), (false, .return_)]
def oM_14 : List Nat := [0, 1, 4, 5, 7, 9, 12]
def hM_14 : mj_X := []
def cM_15 : mj_C := [(false, .lload 1), (false, .invokeinterface 17 5), (false, .istore 3), (false, .iload 3), (false, .iconst (-1)), (false, .if_icmp .eq 12), (false, .aload 0), (false, .getfield 260), (false, .iload 3), (false, .iadd), (false, .iconst 96), (false, .if_icmp .le 14), (false, .iconst 0), (false, .freturn), (false, .iconst 56), (false, .istore 4), (true, .iload 4), (false, .ifCond .lt 43), (false, .lload 1), (false, .iload 4), (false, .invokeinterface 16 9), (false, .istore 5), (false, .iload 5), (false, .ifCond .eq 41), (false, .aload 0), (false, .getfield 260), (false, .iconst 96), (false, .if_icmp .ge 41), (false, .aload 0), (false, .getfield 258), (false, .aload 0), (false, .getfield 260), (false, .iload 5), (false, .i2c), (false, .castore), (false, .aload 0), (false, .dup), (false, .getfield 260), (false, .iconst 1), (false, .iadd), (false, .putfield 260), (false, .iinc 4 (-8)), (false, .goto 16), (false, .iconst 1), (false, .freturn)]
def oM_15 : List Nat := [0, 1, 4, 5, 6, 7, 10, 11, 14, 15, 16, 18, 21, 22, 23, 25, 27, 29, 32, 33, 35, 38, 40, 42, 45, 46, 49, 51, 54, 55, 58, 59, 62, 64, 65, 66, 67, 68, 71, 72, 73, 76, 79, 82, 83]
def hM_15 : mj_X := []
def cM_16 : mj_C := [(false, .lload 0), (false, .iload 2), (false, .lushr), (false, .l2i), (false, .iconst 255), (false, .iand), (false, .ireturn)]
def oM_16 : List Nat := [0, 1, 2, 3, 4, 7, 8]
def hM_16 : mj_X := []
def cM_17 : mj_C := [(false, .iconst 0), (false, .istore 2), (false, .iconst 56), (false, .istore 3), (true, .iload 3), (false, .ifCond .lt 23), (false, .lload 0), (false, .iload 3), (false, .invokeinterface 16 9), (false, .istore 4), (false, .iload 4), (false, .ifCond .eq 21), (false, .iload 4), (false, .iconst 32), (false, .if_icmp .lt 18), (false, .iload 4), (false, .iconst 126), (false, .if_icmp .le 20), (false, .iconst (-1)), (false, .ireturn), (false, .iinc 2 1), (false, .iinc 3 (-8)), (false, .goto 4), (false, .iload 2), (false, .ireturn)]
def oM_17 : List Nat := [0, 1, 2, 4, 5, 6, 9, 10, 11, 14, 16, 18, 21, 23, 25, 28, 30, 32, 35, 36, 37, 40, 43, 46, 47]
def hM_17 : mj_X := []
def cM_18 : mj_C := [(false, .aload 0), (false, .getfield 260), (false, .ireturn)]
def oM_18 : List Nat := [0, 1, 4]
def hM_18 : mj_X := []
def cM_19 : mj_C := [(false, .iload 1), (false, .ifCond .lt 11), (false, .iload 1), (false, .aload 0), (false, .getfield 260), (false, .if_icmp .ge 11), (false, .aload 0), (false, .getfield 258), (false, .iload 1), (false, .caload), (false, .goto 12), (false, .iconst 0), (false, .ireturn)]
def oM_19 : List Nat := [0, 1, 4, 5, 6, 9, 12, 13, 16, 17, 18, 21, 22]
def hM_19 : mj_X := []
def cM_20 : mj_C := [(false, .aload 0), (false, .iconst 0), (false, .putfield 260), (false, .return_)]
def oM_20 : List Nat := [0, 1, 2, 5]
def hM_20 : mj_X := []
def cM_21 : mj_C := [(false, .aload 0), (false, .monitorenter), (false, .aload 0), (false, .iconst 96), (false, .newarray .int), (false, .putfield 514), (false, .aload 0), (false, .iconst 96), (false, .newarray .int), (false, .putfield 518), (false, .aload 0), (false, .iconst 96), (false, .newarray .int), (false, .putfield 522), (false, .aload 0), (false, .iconst 96), (false, .newarray .int), (false, .putfield 526), (false, .aload 0), (false, .iconst 96), (false, .newarray .int), (false, .putfield 530), (false, .aload 0), (false, .iconst 96), (false, .newarray .int), (false, .putfield 534), (false, .return_)]
def oM_21 : List Nat := [0, 1, 4, 5, 7, 9, 12, 13, 15, 17, 20, 21, 23, 25, 28, 29, 31, 33, 36, 37, 39, 41, 44, 45, 47, 49, 52]
def hM_21 : mj_X := []
def cM_22 : mj_C := [(false, .aload 0), (false, .iconst 0), (false, .putfield 536), (false, .return_)]
def oM_22 : List Nat := [0, 1, 2, 5]
def hM_22 : mj_X := []
def cM_23 : mj_C := [(false, .aload 0), (false, .getfield 536), (false, .iconst 96), (false, .if_icmp .lt 6), (false, .iconst (-1)), (false, .ireturn), (false, .aload 0), (false, .getfield 536), (false, .istore 4), (false, .aload 0), (false, .dup), (false, .getfield 536), (false, .iconst 1), (false, .iadd), (false, .putfield 536), (false, .aload 0), (false, .getfield 514), (false, .iload 4), (false, .iload 1), (false, .iastore), (false, .aload 0), (false, .getfield 518), (false, .iload 4), (false, .iload 2), (false, .iastore), (false, .aload 0), (false, .getfield 522), (false, .iload 4), (false, .iload 3), (false, .iastore), (false, .aload 0), (false, .getfield 526), (false, .iload 4), (false, .iconst (-1)), (false, .iastore), (false, .aload 0), (false, .getfield 530), (false, .iload 4), (false, .iconst (-1)), (false, .iastore), (false, .aload 0), (false, .getfield 534), (false, .iload 4), (false, .iconst (-1)), (false, .iastore), (false, .iload 4), (false, .ireturn)]
def oM_23 : List Nat := [0, 1, 4, 6, 9, 10, 11, 12, 15, 17, 18, 19, 22, 23, 24, 27, 28, 31, 33, 34, 35, 36, 39, 41, 42, 43, 44, 47, 49, 50, 51, 52, 55, 57, 58, 59, 60, 63, 65, 66, 67, 68, 71, 73, 74, 75, 77]
def hM_23 : mj_X := []
def cM_24 : mj_C := [(false, .iload 1), (false, .ifCond .lt 6), (false, .iload 1), (false, .aload 0), (false, .getfield 536), (false, .if_icmp .lt 7), (false, .return_), (false, .aload 0), (false, .getfield 530), (false, .iload 1), (false, .iaload), (false, .istore 3), (false, .iload 3), (false, .iconst (-1)), (false, .if_icmp .ne 21), (false, .aload 0), (false, .getfield 526), (false, .iload 1), (false, .iload 2), (false, .iastore), (false, .goto 26), (false, .aload 0), (false, .getfield 534), (false, .iload 3), (false, .iload 2), (false, .iastore), (false, .aload 0), (false, .getfield 530), (false, .iload 1), (false, .iload 2), (false, .iastore), (false, .return_)]
def oM_24 : List Nat := [0, 1, 4, 5, 6, 9, 12, 13, 14, 17, 18, 19, 20, 21, 22, 25, 26, 29, 30, 31, 32, 35, 36, 39, 40, 41, 42, 43, 46, 47, 48, 49]
def hM_24 : mj_X := []
def cM_25 : mj_C := [(false, .iload 2), (false, .ifCond .lt 10), (false, .iload 2), (false, .aload 0), (false, .getfield 536), (false, .if_icmp .ge 10), (false, .aload 1), (false, .iload 2), (false, .iaload), (false, .goto 11), (false, .iconst (-1)), (false, .ireturn)]
def oM_25 : List Nat := [0, 1, 4, 5, 6, 9, 12, 13, 14, 15, 18, 19]
def hM_25 : mj_X := []
def cM_26 : mj_C := [(false, .aload 0), (false, .aload 0), (false, .getfield 514), (false, .iload 1), (false, .invokeinterface 25 140), (false, .ireturn)]
def oM_26 : List Nat := [0, 1, 2, 5, 6, 9]
def hM_26 : mj_X := []
def cM_27 : mj_C := [(false, .aload 0), (false, .aload 0), (false, .getfield 518), (false, .iload 1), (false, .invokeinterface 25 140), (false, .ireturn)]
def oM_27 : List Nat := [0, 1, 2, 5, 6, 9]
def hM_27 : mj_X := []
def cM_28 : mj_C := [(false, .aload 0), (false, .aload 0), (false, .getfield 522), (false, .iload 1), (false, .invokeinterface 25 140), (false, .ireturn)]
def oM_28 : List Nat := [0, 1, 2, 5, 6, 9]
def hM_28 : mj_X := []
def cM_29 : mj_C := [(false, .aload 0), (false, .aload 0), (false, .getfield 526), (false, .iload 1), (false, .invokeinterface 25 140), (false, .ireturn)]
def oM_29 : List Nat := [0, 1, 2, 5, 6, 9]
def hM_29 : mj_X := []
def cM_30 : mj_C := [(false, .aload 0), (false, .aload 0), (false, .getfield 534), (false, .iload 1), (false, .invokeinterface 25 140), (false, .ireturn)]
def oM_30 : List Nat := [0, 1, 2, 5, 6, 9]
def hM_30 : mj_X := []
def cM_31 : mj_C := [(false, .aload 0), (false, .iload 1), (false, .invokeinterface 29 136), (false, .istore 3), (false, .iconst 0), (false, .istore 4), (true, .iload 4), (false, .iload 2), (false, .if_icmp .ge 15), (false, .aload 0), (false, .iload 3), (false, .invokeinterface 30 136), (false, .istore 3), (false, .iinc 4 1), (false, .goto 6), (false, .iload 3), (false, .ireturn)]
def oM_31 : List Nat := [0, 1, 2, 5, 6, 7, 9, 11, 12, 15, 16, 17, 20, 21, 24, 27, 28]
def hM_31 : mj_X := []
def cM_32 : mj_C := [(false, .iconst 0), (false, .istore 2), (false, .aload 0), (false, .iload 1), (false, .invokeinterface 29 136), (false, .istore 3), (true, .iload 3), (false, .iconst (-1)), (false, .if_icmp .eq 18), (false, .iload 2), (false, .iconst 96), (false, .if_icmp .ge 18), (false, .iinc 2 1), (false, .aload 0), (false, .iload 3), (false, .invokeinterface 30 136), (false, .istore 3), (false, .goto 6), (false, .iload 2), (false, .ireturn)]
def oM_32 : List Nat := [0, 1, 2, 3, 4, 7, 8, 9, 10, 13, 14, 16, 19, 22, 23, 24, 27, 28, 31, 32]
def hM_32 : mj_X := []
def cM_33 : mj_C := [(false, .iconst 0), (false, .istore 3), (false, .iload 2), (false, .istore 4), (true, .iload 4), (false, .ifCond .lt 28), (false, .iload 4), (false, .aload 0), (false, .getfield 536), (false, .if_icmp .ge 28), (false, .iload 3), (false, .iconst 96), (false, .if_icmp .ge 28), (false, .aload 0), (false, .getfield 518), (false, .iload 4), (false, .iaload), (false, .iload 1), (false, .if_icmp .ne 21), (false, .iload 3), (false, .ireturn), (false, .iinc 3 1), (false, .aload 0), (false, .getfield 534), (false, .iload 4), (false, .iaload), (false, .istore 4), (false, .goto 4), (false, .iconst (-1)), (false, .ireturn)]
def oM_33 : List Nat := [0, 1, 2, 3, 5, 7, 10, 12, 13, 16, 19, 20, 22, 25, 26, 29, 31, 32, 33, 36, 37, 38, 41, 42, 45, 47, 48, 50, 53, 54]
def hM_33 : mj_X := []
def cM_34 : mj_C := [(false, .aload 0), (false, .monitorenter), (false, .aload 0), (false, .aload 1), (false, .putfield 770), (false, .aload 0), (false, .aload 2), (false, .putfield 774), (false, .return_)]
def oM_34 : List Nat := [0, 1, 4, 5, 6, 9, 10, 11, 14]
def hM_34 : mj_X := []
def cM_35 : mj_C := [(false, .aload 0), (false, .getfield 774), (false, .invokeinterface 22 132), (false, .aload 0), (false, .iconst 0), (false, .putfield 776), (false, .aload 0), (false, .iconst 0), (false, .invokeinterface 36 200), (false, .pop), (false, .goto 15), (false, .astore 1), (false, .aload 0), (false, .getfield 776), (false, .ireturn), (false, .aload 0), (false, .getfield 776), (false, .aload 0), (false, .getfield 770), (false, .invokeinterface 18 68), (false, .if_icmp .ge 24), (false, .aload 0), (false, .getfield 776), (false, .goto 25), (false, .iconst (-1)), (false, .ireturn)]
def oM_35 : List Nat := [0, 1, 4, 7, 8, 9, 12, 13, 14, 17, 18, 21, 22, 23, 26, 27, 28, 31, 32, 35, 38, 41, 42, 45, 48, 49]
def hM_35 : mj_X := [(12, 18, 11, 1, 0)]
def cM_36 : mj_C := [(false, .aload 0), (false, .getfield 770), (false, .aload 0), (false, .getfield 776), (false, .invokeinterface 19 72), (false, .istore 2), (false, .iload 2), (false, .iconst 40), (false, .if_icmp .ne 13), (false, .aload 0), (false, .iload 1), (false, .invokeinterface 37 200), (false, .ireturn), (false, .iload 2), (false, .iconst 39), (false, .if_icmp .eq 19), (false, .aload 0), (false, .invokeinterface 46 196), (false, .ireturn), (false, .aload 0), (false, .getfield 774), (false, .iconst 4), (false, .iconst 0), (false, .aload 0), (false, .getfield 776), (false, .invokeinterface 23 144), (false, .istore 3), (false, .aload 0), (false, .dup), (false, .getfield 776), (false, .iconst 1), (false, .iadd), (false, .putfield 776), (false, .aload 0), (false, .getfield 774), (false, .iload 3), (false, .aload 0), (false, .iload 1), (false, .invokeinterface 45 200), (false, .invokeinterface 24 140), (false, .iload 3), (false, .ireturn)]
def oM_36 : List Nat := [0, 1, 4, 5, 8, 11, 12, 13, 15, 18, 19, 20, 23, 24, 25, 27, 30, 31, 34, 35, 36, 39, 40, 41, 42, 45, 48, 49, 50, 51, 54, 55, 56, 59, 60, 63, 64, 65, 66, 69, 72, 73]
def hM_36 : mj_X := []
def cM_37 : mj_C := [(false, .aload 0), (false, .iload 1), (false, .invokeinterface 49 200), (false, .aload 0), (false, .getfield 770), (false, .aload 0), (false, .getfield 776), (false, .invokeinterface 19 72), (false, .istore 2), (false, .iload 2), (false, .iconst 92), (false, .if_icmp .ne 18), (false, .aload 0), (false, .iload 1), (false, .iconst 1), (false, .iadd), (false, .invokeinterface 40 200), (false, .ireturn), (false, .iload 2), (false, .iconst 58), (false, .if_icmp .eq 24), (false, .iload 2), (false, .iconst 59), (false, .if_icmp .ne 31), (false, .aload 0), (false, .iload 2), (false, .iload 1), (false, .iconst 1), (false, .iadd), (false, .invokeinterface 43 204), (false, .ireturn), (false, .iload 2), (false, .iconst 45), (false, .if_icmp .ne 45), (false, .aload 0), (false, .getfield 770), (false, .aload 0), (false, .getfield 776), (false, .iconst 1), (false, .iadd), (false, .invokeinterface 19 72), (false, .invokeinterface 53 5), (false, .ifCond .eq 45), (false, .iconst 1), (false, .goto 46), (false, .iconst 0), (false, .istore 3), (false, .iload 2), (false, .invokeinterface 143 5), (false, .istore 4), (false, .iload 4), (false, .iconst (-1)), (false, .if_icmp .eq 55), (false, .iload 3), (false, .ifCond .eq 61), (false, .aload 0), (false, .iload 1), (false, .iconst 1), (false, .iadd), (false, .invokeinterface 39 200), (false, .goto 67), (false, .aload 0), (false, .iload 4), (false, .iload 1), (false, .iconst 1), (false, .iadd), (false, .invokeinterface 38 204), (false, .ireturn)]
def oM_37 : List Nat := [0, 1, 2, 5, 6, 9, 10, 13, 16, 17, 18, 20, 23, 24, 25, 26, 27, 30, 31, 32, 34, 37, 38, 40, 43, 44, 45, 46, 47, 48, 51, 52, 53, 55, 58, 59, 62, 63, 66, 67, 68, 71, 74, 77, 78, 81, 82, 83, 84, 87, 89, 91, 92, 95, 96, 99, 100, 101, 102, 103, 106, 109, 110, 112, 113, 114, 115, 118]
def hM_37 : mj_X := []
def cM_38 : mj_C := [(false, .aload 0), (false, .getfield 774), (false, .iconst 5), (false, .iload 1), (false, .aload 0), (false, .getfield 776), (false, .invokeinterface 23 144), (false, .istore 3), (false, .aload 0), (false, .dup), (false, .getfield 776), (false, .iconst 1), (false, .iadd), (false, .putfield 776), (false, .iconst 0), (false, .istore 4), (true, .iload 4), (false, .iload 1), (false, .invokeinterface 144 5), (false, .if_icmp .ge 32), (false, .aload 0), (false, .iconst 32), (false, .invokeinterface 50 200), (false, .aload 0), (false, .getfield 774), (false, .iload 3), (false, .aload 0), (false, .iload 2), (false, .invokeinterface 36 200), (false, .invokeinterface 24 140), (false, .iinc 4 1), (false, .goto 16), (false, .aload 0), (false, .iconst 41), (false, .invokeinterface 50 200), (false, .iload 3), (false, .ireturn)]
def oM_38 : List Nat := [0, 1, 4, 5, 6, 7, 10, 13, 14, 15, 16, 19, 20, 21, 24, 25, 27, 29, 30, 33, 36, 37, 39, 42, 43, 46, 47, 48, 49, 52, 55, 58, 61, 62, 64, 67, 68]
def hM_38 : mj_X := []
def cM_39 : mj_C := [(false, .aload 0), (false, .getfield 774), (false, .iconst 11), (false, .iconst 0), (false, .aload 0), (false, .getfield 776), (false, .invokeinterface 23 144), (false, .istore 2), (false, .aload 0), (false, .getfield 774), (false, .iload 2), (false, .aload 0), (false, .iload 1), (false, .invokeinterface 36 200), (false, .invokeinterface 24 140), (false, .iconst 0), (false, .istore 3), (true, .iload 3), (false, .iconst 3), (false, .if_icmp .ge 42), (false, .aload 0), (false, .getfield 770), (false, .aload 0), (false, .getfield 776), (false, .invokeinterface 19 72), (false, .iconst 32), (false, .if_icmp .ne 42), (false, .aload 0), (false, .dup), (false, .getfield 776), (false, .iconst 1), (false, .iadd), (false, .putfield 776), (false, .aload 0), (false, .getfield 774), (false, .iload 2), (false, .aload 0), (false, .iload 1), (false, .invokeinterface 36 200), (false, .invokeinterface 24 140), (false, .iinc 3 1), (false, .goto 17), (false, .aload 0), (false, .iconst 41), (false, .invokeinterface 50 200), (false, .iload 2), (false, .ireturn)]
def oM_39 : List Nat := [0, 1, 4, 6, 7, 8, 11, 14, 15, 16, 19, 20, 21, 22, 25, 28, 29, 30, 31, 32, 35, 36, 39, 40, 43, 46, 48, 51, 52, 53, 56, 57, 58, 61, 62, 65, 66, 67, 68, 71, 74, 77, 80, 81, 83, 86, 87]
def hM_39 : mj_X := []
def cM_40 : mj_C := [(false, .aload 0), (false, .getfield 774), (false, .iconst 6), (false, .iconst 0), (false, .aload 0), (false, .getfield 776), (false, .invokeinterface 23 144), (false, .istore 2), (false, .aload 0), (false, .iconst 92), (false, .invokeinterface 50 200), (false, .aload 0), (false, .iconst 32), (false, .invokeinterface 50 200), (false, .aload 0), (false, .getfield 774), (false, .iload 2), (false, .aload 0), (false, .iload 1), (false, .invokeinterface 41 200), (false, .invokeinterface 24 140), (false, .aload 0), (false, .iconst 32), (false, .invokeinterface 50 200), (false, .aload 0), (false, .getfield 774), (false, .iload 2), (false, .aload 0), (false, .iload 1), (false, .invokeinterface 36 200), (false, .invokeinterface 24 140), (false, .aload 0), (false, .iconst 41), (false, .invokeinterface 50 200), (false, .iload 2), (false, .ireturn)]
def oM_40 : List Nat := [0, 1, 4, 6, 7, 8, 11, 14, 15, 16, 18, 21, 22, 24, 27, 28, 31, 32, 33, 34, 37, 40, 41, 43, 46, 47, 50, 51, 52, 53, 56, 59, 60, 62, 65, 66]
def hM_40 : mj_X := []
def cM_41 : mj_C := [(false, .aload 0), (false, .getfield 774), (false, .iconst 7), (false, .iconst 0), (false, .aload 0), (false, .getfield 776), (false, .invokeinterface 23 144), (false, .istore 2), (false, .aload 0), (false, .iload 1), (false, .invokeinterface 49 200), (false, .aload 0), (false, .getfield 770), (false, .aload 0), (false, .getfield 776), (false, .invokeinterface 19 72), (false, .iconst 41), (false, .if_icmp .eq 44), (false, .aload 0), (false, .iload 2), (false, .invokeinterface 42 200), (false, .iconst 1), (false, .istore 3), (true, .iload 3), (false, .iconst 3), (false, .if_icmp .ge 44), (false, .aload 0), (false, .getfield 770), (false, .aload 0), (false, .getfield 776), (false, .invokeinterface 19 72), (false, .iconst 32), (false, .if_icmp .ne 44), (false, .aload 0), (false, .dup), (false, .getfield 776), (false, .iconst 1), (false, .iadd), (false, .putfield 776), (false, .aload 0), (false, .iload 2), (false, .invokeinterface 42 200), (false, .iinc 3 1), (false, .goto 23), (false, .aload 0), (false, .iconst 41), (false, .invokeinterface 50 200), (false, .iload 2), (false, .ireturn)]
def oM_41 : List Nat := [0, 1, 4, 6, 7, 8, 11, 14, 15, 16, 17, 20, 21, 24, 25, 28, 31, 33, 36, 37, 38, 41, 42, 43, 44, 45, 48, 49, 52, 53, 56, 59, 61, 64, 65, 66, 69, 70, 71, 74, 75, 76, 79, 82, 85, 86, 88, 91, 92]
def hM_41 : mj_X := []
def cM_42 : mj_C := [(false, .aload 0), (false, .aload 0), (false, .getfield 774), (false, .iload 1), (false, .invokeinterface 29 136), (false, .invokeinterface 48 200), (false, .istore 2), (false, .aload 0), (false, .getfield 774), (false, .iload 1), (false, .aload 0), (false, .getfield 774), (false, .iconst 2), (false, .iload 2), (false, .aload 0), (false, .getfield 776), (false, .invokeinterface 23 144), (false, .invokeinterface 24 140), (false, .aload 0), (false, .dup), (false, .getfield 776), (false, .iconst 1), (false, .iadd), (false, .putfield 776), (false, .return_)]
def oM_42 : List Nat := [0, 1, 2, 5, 6, 9, 12, 13, 14, 17, 18, 19, 22, 23, 24, 25, 28, 31, 34, 35, 36, 39, 40, 41, 44]
def hM_42 : mj_X := []
def cM_43 : mj_C := [(false, .iload 1), (false, .iconst 59), (false, .if_icmp .ne 5), (false, .iconst 9), (false, .goto 6), (false, .iconst 8), (false, .istore 3), (false, .aload 0), (false, .getfield 774), (false, .iload 3), (false, .iconst 0), (false, .aload 0), (false, .getfield 776), (false, .invokeinterface 23 144), (false, .istore 4), (false, .aload 0), (false, .dup), (false, .getfield 776), (false, .iconst 1), (false, .iadd), (false, .putfield 776), (false, .aload 0), (false, .iconst 32), (false, .invokeinterface 50 200), (false, .aload 0), (false, .getfield 774), (false, .iload 4), (false, .aload 0), (false, .iload 2), (false, .invokeinterface 36 200), (false, .invokeinterface 24 140), (false, .aload 0), (false, .iconst 32), (false, .invokeinterface 50 200), (false, .aload 0), (false, .iload 4), (false, .iload 2), (false, .invokeinterface 44 204), (false, .iconst 1), (false, .istore 5), (true, .iload 5), (false, .iconst 3), (false, .if_icmp .ge 62), (false, .aload 0), (false, .getfield 770), (false, .aload 0), (false, .getfield 776), (false, .invokeinterface 19 72), (false, .iconst 32), (false, .if_icmp .ne 62), (false, .aload 0), (false, .dup), (false, .getfield 776), (false, .iconst 1), (false, .iadd), (false, .putfield 776), (false, .aload 0), (false, .iload 4), (false, .iload 2), (false, .invokeinterface 44 204), (false, .iinc 5 1), (false, .goto 40), (false, .aload 0), (false, .iconst 41), (false, .invokeinterface 50 200), (false, .iload 4), (false, .ireturn)]
def oM_43 : List Nat := [0, 1, 3, 6, 8, 11, 13, 14, 15, 18, 19, 20, 21, 24, 27, 29, 30, 31, 34, 35, 36, 39, 40, 42, 45, 46, 49, 51, 52, 53, 56, 59, 60, 62, 65, 66, 68, 69, 72, 73, 75, 77, 78, 81, 82, 85, 86, 89, 92, 94, 97, 98, 99, 102, 103, 104, 107, 108, 110, 111, 114, 117, 120, 121, 123, 126, 128]
def hM_43 : mj_X := []
def cM_44 : mj_C := [(false, .aload 0), (false, .iload 2), (false, .invokeinterface 49 200), (false, .aload 0), (false, .aload 0), (false, .getfield 774), (false, .iload 1), (false, .iconst 1), (false, .invokeinterface 31 140), (false, .invokeinterface 48 200), (false, .istore 3), (false, .aload 0), (false, .getfield 774), (false, .iconst 10), (false, .iload 3), (false, .aload 0), (false, .getfield 776), (false, .invokeinterface 23 144), (false, .istore 4), (false, .aload 0), (false, .dup), (false, .getfield 776), (false, .iconst 1), (false, .iadd), (false, .putfield 776), (false, .aload 0), (false, .iconst 32), (false, .invokeinterface 50 200), (false, .aload 0), (false, .getfield 774), (false, .iload 1), (false, .invokeinterface 26 136), (false, .iconst 9), (false, .if_icmp .ne 49), (false, .aload 0), (false, .iload 2), (false, .iconst 1), (false, .iadd), (false, .invokeinterface 49 200), (false, .aload 0), (false, .getfield 774), (false, .iload 4), (false, .aload 0), (false, .iload 2), (false, .iconst 2), (false, .iadd), (false, .invokeinterface 40 200), (false, .invokeinterface 24 140), (false, .goto 58), (false, .aload 0), (false, .getfield 774), (false, .iload 4), (false, .aload 0), (false, .iload 2), (false, .iconst 1), (false, .iadd), (false, .invokeinterface 36 200), (false, .invokeinterface 24 140), (false, .aload 0), (false, .iconst 41), (false, .invokeinterface 50 200), (false, .aload 0), (false, .getfield 774), (false, .iload 1), (false, .iload 4), (false, .invokeinterface 24 140), (false, .return_)]
def oM_44 : List Nat := [0, 1, 2, 5, 6, 7, 10, 11, 12, 15, 18, 19, 20, 23, 25, 26, 27, 30, 33, 35, 36, 37, 40, 41, 42, 45, 46, 48, 51, 52, 55, 56, 59, 61, 64, 65, 66, 67, 68, 71, 72, 75, 77, 78, 79, 80, 81, 84, 87, 90, 91, 94, 96, 97, 98, 99, 100, 103, 106, 107, 109, 112, 113, 116, 117, 119, 122]
def hM_44 : mj_X := []
def cM_45 : mj_C := [(false, .aload 0), (false, .getfield 770), (false, .aload 0), (false, .getfield 776), (false, .invokeinterface 19 72), (false, .iconst 40), (false, .if_icmp .eq 10), (false, .aload 0), (false, .invokeinterface 46 196), (false, .ireturn), (false, .aload 0), (false, .getfield 774), (false, .iconst 3), (false, .iconst 0), (false, .aload 0), (false, .getfield 776), (false, .invokeinterface 23 144), (false, .istore 2), (false, .aload 0), (false, .iload 1), (false, .invokeinterface 49 200), (false, .aload 0), (false, .getfield 770), (false, .aload 0), (false, .getfield 776), (false, .invokeinterface 19 72), (false, .iconst 41), (false, .if_icmp .eq 66), (false, .aload 0), (false, .getfield 774), (false, .iload 2), (false, .aload 0), (false, .iload 1), (false, .iconst 1), (false, .iadd), (false, .invokeinterface 45 200), (false, .invokeinterface 24 140), (false, .iconst 1), (false, .istore 3), (true, .iload 3), (false, .iconst 96), (false, .if_icmp .ge 66), (false, .aload 0), (false, .getfield 770), (false, .aload 0), (false, .getfield 776), (false, .invokeinterface 19 72), (false, .iconst 32), (false, .if_icmp .ne 66), (false, .aload 0), (false, .dup), (false, .getfield 776), (false, .iconst 1), (false, .iadd), (false, .putfield 776), (false, .aload 0), (false, .getfield 774), (false, .iload 2), (false, .aload 0), (false, .iload 1), (false, .iconst 1), (false, .iadd), (false, .invokeinterface 45 200), (false, .invokeinterface 24 140), (false, .iinc 3 1), (false, .goto 39), (false, .aload 0), (false, .iconst 41), (false, .invokeinterface 50 200), (false, .iload 2), (false, .ireturn)]
def oM_45 : List Nat := [0, 1, 4, 5, 8, 11, 13, 16, 17, 20, 21, 22, 25, 26, 27, 28, 31, 34, 35, 36, 37, 40, 41, 44, 45, 48, 51, 53, 56, 57, 60, 61, 62, 63, 64, 65, 68, 71, 72, 73, 74, 76, 79, 80, 83, 84, 87, 90, 92, 95, 96, 97, 100, 101, 102, 105, 106, 109, 110, 111, 112, 113, 114, 117, 120, 123, 126, 127, 129, 132, 133]
def hM_45 : mj_X := []
def cM_46 : mj_C := [(false, .aload 0), (false, .getfield 770), (false, .aload 0), (false, .getfield 776), (false, .invokeinterface 19 72), (false, .istore 1), (false, .iload 1), (false, .invokeinterface 52 5), (false, .ifCond .ne 12), (false, .aload 0), (false, .invokeinterface 47 196), (false, .ireturn), (false, .aload 0), (false, .getfield 774), (false, .iconst 2), (false, .iload 1), (false, .aload 0), (false, .getfield 776), (false, .invokeinterface 23 144), (false, .istore 2), (false, .aload 0), (false, .dup), (false, .getfield 776), (false, .iconst 1), (false, .iadd), (false, .putfield 776), (false, .iload 2), (false, .ireturn)]
def oM_46 : List Nat := [0, 1, 4, 5, 8, 11, 12, 13, 16, 19, 20, 23, 24, 25, 28, 29, 30, 31, 34, 37, 38, 39, 40, 43, 44, 45, 48, 49]
def hM_46 : mj_X := []
def cM_47 : mj_C := [(false, .aload 0), (false, .getfield 776), (false, .istore 1), (false, .aload 0), (false, .getfield 770), (false, .aload 0), (false, .getfield 776), (false, .invokeinterface 19 72), (false, .iconst 45), (false, .if_icmp .ne 12), (false, .iconst 1), (false, .goto 13), (false, .iconst 0), (false, .istore 2), (false, .iload 2), (false, .ifCond .eq 22), (false, .aload 0), (false, .dup), (false, .getfield 776), (false, .iconst 1), (false, .iadd), (false, .putfield 776), (false, .aload 0), (false, .getfield 770), (false, .aload 0), (false, .getfield 776), (false, .invokeinterface 19 72), (false, .invokeinterface 53 5), (false, .ifCond .ne 30), (false, .invokeinterface 51 1), (false, .iconst 0), (false, .istore 3), (false, .iconst 0), (false, .istore 4), (true, .iload 4), (false, .iconst 4), (false, .if_icmp .ge 64), (false, .aload 0), (false, .getfield 770), (false, .aload 0), (false, .getfield 776), (false, .invokeinterface 19 72), (false, .invokeinterface 53 5), (false, .ifCond .eq 64), (false, .iconst 10), (false, .iload 3), (false, .imul), (false, .aload 0), (false, .getfield 770), (false, .aload 0), (false, .getfield 776), (false, .invokeinterface 19 72), (false, .iadd), (false, .iconst 48), (false, .isub), (false, .istore 3), (false, .aload 0), (false, .dup), (false, .getfield 776), (false, .iconst 1), (false, .iadd), (false, .putfield 776), (false, .iinc 4 1), (false, .goto 34), (false, .aload 0), (false, .getfield 774), (false, .iconst 1), (false, .iload 2), (false, .ifCond .eq 72), (false, .iload 3), (false, .ineg), (false, .goto 73), (false, .iload 3), (false, .iload 1), (false, .invokeinterface 23 144), (false, .ireturn)]
def oM_47 : List Nat := [0, 1, 4, 5, 6, 9, 10, 13, 16, 18, 21, 22, 25, 26, 27, 28, 31, 32, 33, 36, 37, 38, 41, 42, 45, 46, 49, 52, 55, 58, 61, 62, 63, 64, 66, 68, 69, 72, 73, 76, 77, 80, 83, 86, 89, 91, 92, 93, 94, 97, 98, 101, 104, 105, 107, 108, 109, 110, 111, 114, 115, 116, 119, 122, 125, 126, 129, 130, 131, 134, 135, 136, 139, 140, 141, 144]
def hM_47 : mj_X := []
def cM_48 : mj_C := [(false, .aload 0), (false, .getfield 770), (false, .aload 0), (false, .getfield 776), (false, .invokeinterface 19 72), (false, .istore 2), (false, .iload 2), (false, .invokeinterface 52 5), (false, .ifCond .eq 16), (false, .aload 0), (false, .getfield 774), (false, .iload 2), (false, .iload 1), (false, .invokeinterface 33 140), (false, .iconst (-1)), (false, .if_icmp .eq 17), (false, .invokeinterface 51 1), (false, .iload 2), (false, .ireturn)]
def oM_48 : List Nat := [0, 1, 4, 5, 8, 11, 12, 13, 16, 19, 20, 23, 24, 25, 28, 29, 32, 35, 36]
def hM_48 : mj_X := []
def cM_49 : mj_C := [(false, .iload 1), (false, .iconst 9), (false, .if_icmp .lt 4), (false, .invokeinterface 51 1), (false, .aload 0), (false, .iconst 40), (false, .invokeinterface 50 200), (false, .return_)]
def oM_49 : List Nat := [0, 1, 3, 6, 9, 10, 12, 15]
def hM_49 : mj_X := []
def cM_50 : mj_C := [(false, .aload 0), (false, .getfield 770), (false, .aload 0), (false, .getfield 776), (false, .invokeinterface 19 72), (false, .iload 1), (false, .if_icmp .eq 8), (false, .invokeinterface 51 1), (false, .aload 0), (false, .dup), (false, .getfield 776), (false, .iconst 1), (false, .iadd), (false, .putfield 776), (false, .return_)]
def oM_50 : List Nat := [0, 1, 4, 5, 8, 11, 12, 15, 18, 19, 20, 23, 24, 25, 28]
def hM_50 : mj_X := []
def cM_51 : mj_C := [(false, .checkcast 0)]
def oM_51 : List Nat := [0]
def hM_51 : mj_X := []
def cM_52 : mj_C := [(false, .iload 0), (false, .iconst 97), (false, .if_icmp .lt 8), (false, .iload 0), (false, .iconst 122), (false, .if_icmp .gt 8), (false, .iconst 1), (false, .goto 9), (false, .iconst 0), (false, .freturn)]
def oM_52 : List Nat := [0, 1, 3, 6, 7, 9, 12, 13, 16, 17]
def hM_52 : mj_X := []
def cM_53 : mj_C := [(false, .iload 0), (false, .iconst 48), (false, .if_icmp .lt 8), (false, .iload 0), (false, .iconst 57), (false, .if_icmp .gt 8), (false, .iconst 1), (false, .goto 9), (false, .iconst 0), (false, .freturn)]
def oM_53 : List Nat := [0, 1, 3, 6, 7, 9, 12, 13, 16, 17]
def hM_53 : mj_X := []
def cM_54 : mj_C := [(false, .aload 0), (false, .monitorenter), (false, .aload 0), (false, .iload 1), (false, .newarray .long), (false, .putfield 1026), (false, .aload 0), (false, .iload 1), (false, .newarray .long), (false, .putfield 1030), (false, .return_)]
def oM_54 : List Nat := [0, 1, 4, 5, 6, 8, 11, 12, 13, 15, 18]
def hM_54 : mj_X := []
def cM_55 : mj_C := [(false, .aload 0), (false, .iconst 0), (false, .putfield 1032), (false, .aload 0), (false, .iconst (-1)), (false, .putfield 1036), (false, .aload 0), (false, .iconst 0), (false, .putfield 1043), (false, .return_)]
def oM_55 : List Nat := [0, 1, 2, 5, 6, 7, 10, 11, 12, 15]
def hM_55 : mj_X := []
def cM_56 : mj_C := [(false, .aload 0), (false, .getfield 1032), (false, .istore 3), (false, .aload 0), (false, .dup), (false, .getfield 1032), (false, .iconst 1), (false, .iadd), (false, .putfield 1032), (false, .iload 3), (false, .aload 0), (false, .getfield 1026), (false, .arraylength), (false, .if_icmp .ge 28), (false, .aload 0), (false, .getfield 1026), (false, .iload 3), (false, .lload 1), (false, .lastore), (false, .aload 0), (false, .getfield 1030), (false, .iload 3), (false, .ldc2_w 0), (false, .lastore), (false, .aload 0), (false, .iload 3), (false, .invokeinterface 147 5), (false, .invokeinterface 57 264), (false, .aload 0), (false, .iload 3), (false, .putfield 1036), (false, .aload 0), (false, .iconst 0), (false, .putfield 1043), (false, .return_)]
def oM_56 : List Nat := [0, 1, 4, 5, 6, 7, 10, 11, 12, 15, 16, 17, 20, 21, 24, 25, 28, 29, 30, 31, 32, 35, 36, 37, 38, 39, 40, 43, 46, 47, 48, 51, 52, 53, 56]
def hM_56 : mj_X := []
def cM_57 : mj_C := [(false, .aload 0), (false, .getfield 1036), (false, .ifCond .lt 9), (false, .aload 0), (false, .getfield 1036), (false, .aload 0), (false, .getfield 1026), (false, .arraylength), (false, .if_icmp .lt 10), (false, .return_), (false, .aload 0), (false, .getfield 1043), (false, .ifCond .eq 20), (false, .aload 0), (false, .getfield 1026), (false, .aload 0), (false, .getfield 1036), (false, .lload 1), (false, .lastore), (false, .goto 26), (false, .aload 0), (false, .getfield 1030), (false, .aload 0), (false, .getfield 1036), (false, .lload 1), (false, .lastore), (false, .return_)]
def oM_57 : List Nat := [0, 1, 4, 7, 8, 11, 12, 15, 16, 19, 20, 21, 24, 27, 28, 31, 32, 35, 36, 37, 40, 41, 44, 45, 48, 49, 50]
def hM_57 : mj_X := []
def cM_58 : mj_C := [(false, .aload 0), (false, .iload 1), (false, .invokeinterface 145 5), (false, .invokeinterface 56 264), (false, .return_)]
def oM_58 : List Nat := [0, 1, 2, 5, 8]
def hM_58 : mj_X := []
def cM_59 : mj_C := [(false, .aload 0), (false, .ldc2_w 0), (false, .invokeinterface 56 264), (false, .aload 0), (false, .iconst 1), (false, .putfield 1043), (false, .aload 0), (false, .getfield 1036), (false, .ireturn)]
def oM_59 : List Nat := [0, 1, 2, 5, 6, 7, 10, 11, 14]
def hM_59 : mj_X := []
def cM_60 : mj_C := [(false, .aload 0), (false, .iload 1), (false, .putfield 1036), (false, .aload 0), (false, .iconst 0), (false, .putfield 1043), (false, .return_)]
def oM_60 : List Nat := [0, 1, 2, 5, 6, 7, 10]
def hM_60 : mj_X := []
def cM_61 : mj_C := [(false, .aload 0), (false, .getfield 1032), (false, .ireturn)]
def oM_61 : List Nat := [0, 1, 4]
def hM_61 : mj_X := []
def cM_62 : mj_C := [(false, .iload 1), (false, .ifCond .lt 12), (false, .iload 1), (false, .aload 0), (false, .getfield 1026), (false, .arraylength), (false, .if_icmp .ge 12), (false, .aload 0), (false, .getfield 1026), (false, .iload 1), (false, .laload), (false, .goto 13), (false, .ldc2_w 0), (false, .lreturn)]
def oM_62 : List Nat := [0, 1, 4, 5, 6, 9, 10, 13, 14, 17, 18, 19, 22, 23]
def hM_62 : mj_X := []
def cM_63 : mj_C := [(false, .iload 1), (false, .ifCond .lt 12), (false, .iload 1), (false, .aload 0), (false, .getfield 1030), (false, .arraylength), (false, .if_icmp .ge 12), (false, .aload 0), (false, .getfield 1030), (false, .iload 1), (false, .laload), (false, .goto 13), (false, .ldc2_w 0), (false, .lreturn)]
def oM_63 : List Nat := [0, 1, 4, 5, 6, 9, 10, 13, 14, 17, 18, 19, 22, 23]
def hM_63 : mj_X := []
def cM_64 : mj_C := [(false, .aload 0), (false, .monitorenter), (false, .aload 0), (false, .aload 1), (false, .putfield 1282), (false, .aload 0), (false, .aload 2), (false, .putfield 1286), (false, .aload 0), (false, .iconst 9), (false, .newarray .int), (false, .putfield 1290), (false, .return_)]
def oM_64 : List Nat := [0, 1, 4, 5, 6, 9, 10, 11, 14, 15, 17, 19, 22]
def hM_64 : mj_X := []
def cM_65 : mj_C := [(false, .aload 0), (false, .getfield 1286), (false, .invokeinterface 55 260), (false, .aload 0), (false, .iconst 0), (false, .putfield 1292), (false, .aload 0), (false, .iconst (-1)), (false, .putfield 1296), (false, .aload 0), (false, .iconst 0), (false, .iconst 0), (false, .invokeinterface 66 332), (false, .aload 0), (false, .getfield 1286), (false, .iconst 19), (false, .invokeinterface 58 264), (false, .aload 0), (false, .getfield 1296), (false, .ireturn)]
def oM_65 : List Nat := [0, 1, 4, 7, 8, 9, 12, 13, 14, 17, 18, 19, 20, 23, 24, 27, 29, 32, 33, 36]
def hM_65 : mj_X := []
def cM_66 : mj_C := [(false, .iload 2), (false, .iconst 9), (false, .if_icmp .le 4), (false, .return_), (false, .aload 0), (false, .getfield 1282), (false, .iload 1), (false, .invokeinterface 26 136), (false, .lookupswitch 51 #[(1, 9), (2, 22), (3, 51), (4, 14), (5, 26), (6, 31), (7, 51), (8, 41), (9, 46), (10, 51), (11, 36)]), (false, .aload 0), (false, .iload 1), (false, .iload 2), (false, .invokeinterface 67 332), (false, .goto 51), (false, .aload 0), (false, .aload 0), (false, .getfield 1282), (false, .iload 1), (false, .invokeinterface 29 136), (false, .iload 2), (false, .invokeinterface 67 332), (false, .goto 51), (false, .aload 0), (false, .iload 1), (false, .invokeinterface 69 328), (false, .goto 51), (false, .aload 0), (false, .iload 1), (false, .iload 2), (false, .invokeinterface 74 332), (false, .goto 51), (false, .aload 0), (false, .iload 1), (false, .iload 2), (false, .invokeinterface 77 332), (false, .goto 51), (false, .aload 0), (false, .iload 1), (false, .iload 2), (false, .invokeinterface 79 332), (false, .goto 51), (false, .aload 0), (false, .iload 1), (false, .iload 2), (false, .invokeinterface 80 332), (false, .goto 51), (false, .aload 0), (false, .iload 1), (false, .iload 2), (false, .invokeinterface 81 332), (false, .goto 51), (false, .return_)]
def oM_66 : List Nat := [0, 1, 3, 6, 7, 8, 11, 12, 15, 72, 73, 74, 75, 78, 81, 82, 83, 86, 87, 90, 91, 94, 97, 98, 99, 102, 105, 106, 107, 108, 111, 114, 115, 116, 117, 120, 123, 124, 125, 126, 129, 132, 133, 134, 135, 138, 141, 142, 143, 144, 147, 150]
def hM_66 : mj_X := []
def cM_67 : mj_C := [(false, .aload 0), (false, .getfield 1286), (false, .iconst 1), (false, .invokeinterface 58 264), (false, .aload 0), (false, .iload 1), (false, .iload 2), (false, .invokeinterface 68 332), (false, .return_)]
def oM_67 : List Nat := [0, 1, 4, 5, 8, 9, 10, 11, 14]
def hM_67 : mj_X := []
def cM_68 : mj_C := [(false, .iload 2), (false, .iconst 9), (false, .if_icmp .le 4), (false, .return_), (false, .aload 0), (false, .getfield 1282), (false, .iload 1), (false, .invokeinterface 26 136), (false, .istore 3), (false, .iload 3), (false, .iconst 1), (false, .if_icmp .ne 21), (false, .aload 0), (false, .getfield 1286), (false, .aload 0), (false, .getfield 1282), (false, .iload 1), (false, .invokeinterface 27 136), (false, .invokeinterface 145 5), (false, .invokeinterface 56 264), (false, .goto 67), (false, .iload 3), (false, .iconst 2), (false, .if_icmp .ne 33), (false, .aload 0), (false, .getfield 1286), (false, .aload 0), (false, .getfield 1282), (false, .iload 1), (false, .invokeinterface 27 136), (false, .invokeinterface 146 5), (false, .invokeinterface 56 264), (false, .goto 67), (false, .aload 0), (false, .getfield 1286), (false, .invokeinterface 59 260), (false, .istore 4), (false, .aload 0), (false, .getfield 1282), (false, .iload 1), (false, .invokeinterface 29 136), (false, .istore 5), (false, .iconst 0), (false, .istore 6), (true, .iload 6), (false, .iconst 96), (false, .if_icmp .ge 63), (false, .iload 5), (false, .iconst (-1)), (false, .if_icmp .eq 63), (false, .aload 0), (false, .iload 5), (false, .iload 2), (false, .iconst 1), (false, .iadd), (false, .invokeinterface 68 332), (false, .aload 0), (false, .getfield 1282), (false, .iload 5), (false, .invokeinterface 30 136), (false, .istore 5), (false, .iinc 6 1), (false, .goto 44), (false, .aload 0), (false, .getfield 1286), (false, .iload 4), (false, .invokeinterface 60 264), (false, .return_)]
def oM_68 : List Nat := [0, 1, 3, 6, 7, 8, 11, 12, 15, 16, 17, 18, 21, 22, 25, 26, 29, 30, 33, 36, 39, 42, 43, 44, 47, 48, 51, 52, 55, 56, 59, 62, 65, 68, 69, 72, 75, 77, 78, 81, 82, 85, 87, 88, 90, 92, 94, 97, 99, 100, 103, 104, 106, 107, 108, 109, 112, 113, 116, 118, 121, 123, 126, 129, 130, 133, 135, 138]
def hM_68 : mj_X := []
def cM_69 : mj_C := [(false, .aload 0), (false, .aload 0), (false, .getfield 1282), (false, .iload 1), (false, .invokeinterface 27 136), (false, .invokeinterface 71 328), (false, .istore 2), (false, .iload 2), (false, .iconst (-1)), (false, .if_icmp .ne 16), (false, .aload 0), (false, .aload 0), (false, .getfield 1282), (false, .iload 1), (false, .invokeinterface 28 136), (false, .invokeinterface 70 328), (false, .aload 0), (false, .getfield 1286), (false, .iconst 2), (false, .invokeinterface 58 264), (false, .aload 0), (false, .getfield 1286), (false, .iload 2), (false, .invokeinterface 145 5), (false, .invokeinterface 56 264), (false, .return_)]
def oM_69 : List Nat := [0, 1, 2, 5, 6, 9, 12, 13, 14, 15, 18, 19, 20, 23, 24, 27, 30, 31, 34, 35, 38, 39, 42, 43, 46, 49]
def hM_69 : mj_X := []
def cM_70 : mj_C := [(false, .aload 0), (false, .getfield 1296), (false, .iconst (-1)), (false, .if_icmp .eq 8), (false, .iload 1), (false, .aload 0), (false, .getfield 1296), (false, .if_icmp .ge 11), (false, .aload 0), (false, .iload 1), (false, .putfield 1296), (false, .return_)]
def oM_70 : List Nat := [0, 1, 4, 5, 8, 9, 10, 13, 16, 17, 18, 21]
def hM_70 : mj_X := []
def cM_71 : mj_C := [(false, .iconst 0), (false, .istore 2), (true, .iload 2), (false, .aload 0), (false, .getfield 1292), (false, .if_icmp .ge 31), (false, .aload 0), (false, .getfield 1282), (false, .iload 1), (false, .aload 0), (false, .getfield 1290), (false, .aload 0), (false, .getfield 1292), (false, .iconst 1), (false, .isub), (false, .iload 2), (false, .isub), (false, .iaload), (false, .invokeinterface 33 140), (false, .istore 3), (false, .iload 3), (false, .iconst (-1)), (false, .if_icmp .eq 29), (false, .iconst 16), (false, .iload 2), (false, .imul), (false, .iload 3), (false, .iadd), (false, .ireturn), (false, .iinc 2 1), (false, .goto 2), (false, .iconst (-1)), (false, .ireturn)]
def oM_71 : List Nat := [0, 1, 2, 3, 4, 7, 10, 11, 14, 15, 16, 19, 20, 23, 24, 25, 26, 27, 28, 31, 32, 33, 34, 37, 39, 40, 41, 42, 43, 44, 47, 50, 51]
def hM_71 : mj_X := []
def cM_72 : mj_C := [(false, .aload 0), (false, .getfield 1292), (false, .aload 0), (false, .getfield 1290), (false, .arraylength), (false, .if_icmp .ge 18), (false, .aload 0), (false, .getfield 1290), (false, .aload 0), (false, .getfield 1292), (false, .iload 1), (false, .iastore), (false, .aload 0), (false, .dup), (false, .getfield 1292), (false, .iconst 1), (false, .iadd), (false, .putfield 1292), (false, .return_)]
def oM_72 : List Nat := [0, 1, 4, 5, 8, 9, 12, 13, 16, 17, 20, 21, 22, 23, 24, 27, 28, 29, 32]
def hM_72 : mj_X := []
def cM_73 : mj_C := [(false, .aload 0), (false, .getfield 1292), (false, .ifCond .le 9), (false, .aload 0), (false, .dup), (false, .getfield 1292), (false, .iconst 1), (false, .isub), (false, .putfield 1292), (false, .return_)]
def oM_73 : List Nat := [0, 1, 4, 7, 8, 9, 12, 13, 14, 17]
def hM_73 : mj_X := []
def cM_74 : mj_C := [(false, .aload 0), (false, .getfield 1282), (false, .iload 1), (false, .invokeinterface 27 136), (false, .istore 3), (false, .iload 3), (false, .iconst 8), (false, .if_icmp .ne 13), (false, .aload 0), (false, .iload 1), (false, .iload 2), (false, .invokeinterface 75 332), (false, .return_), (false, .aload 0), (false, .getfield 1282), (false, .iload 1), (false, .invokeinterface 32 136), (false, .istore 4), (false, .iconst 0), (false, .istore 5), (true, .iload 5), (false, .iload 4), (false, .if_icmp .ge 46), (false, .iload 3), (false, .iconst 13), (false, .if_icmp .ne 32), (false, .iload 4), (false, .iconst 1), (false, .isub), (false, .iload 5), (false, .isub), (false, .goto 33), (false, .iload 5), (false, .istore 6), (false, .aload 0), (false, .aload 0), (false, .getfield 1282), (false, .iload 1), (false, .iload 6), (false, .invokeinterface 31 140), (false, .iload 2), (false, .iconst 1), (false, .iadd), (false, .invokeinterface 66 332), (false, .iinc 5 1), (false, .goto 20), (false, .aload 0), (false, .getfield 1286), (false, .iload 3), (false, .invokeinterface 58 264), (false, .return_)]
def oM_74 : List Nat := [0, 1, 4, 5, 8, 9, 10, 12, 15, 16, 17, 18, 21, 22, 23, 26, 27, 30, 32, 33, 35, 37, 39, 42, 43, 45, 48, 50, 51, 52, 54, 55, 58, 60, 62, 63, 64, 67, 68, 70, 73, 74, 75, 76, 79, 82, 85, 86, 89, 90, 93]
def hM_74 : mj_X := []
def cM_75 : mj_C := [(false, .aload 0), (false, .aload 0), (false, .getfield 1282), (false, .iload 1), (false, .iconst 0), (false, .invokeinterface 31 140), (false, .iload 2), (false, .iconst 1), (false, .iadd), (false, .invokeinterface 66 332), (false, .aload 0), (false, .getfield 1286), (false, .iconst 8), (false, .invokeinterface 58 264), (false, .aload 0), (false, .aload 0), (false, .getfield 1282), (false, .iload 1), (false, .iconst 1), (false, .invokeinterface 31 140), (false, .iconst 9), (false, .iload 2), (false, .invokeinterface 76 336), (false, .aload 0), (false, .aload 0), (false, .getfield 1282), (false, .iload 1), (false, .iconst 2), (false, .invokeinterface 31 140), (false, .iconst 9), (false, .iload 2), (false, .invokeinterface 76 336), (false, .return_)]
def oM_75 : List Nat := [0, 1, 2, 5, 6, 7, 10, 11, 12, 13, 16, 17, 20, 22, 25, 26, 27, 30, 31, 32, 35, 37, 38, 41, 42, 43, 46, 47, 48, 51, 53, 54, 57]
def hM_75 : mj_X := []
def cM_76 : mj_C := [(false, .aload 0), (false, .getfield 1286), (false, .invokeinterface 59 260), (false, .istore 4), (false, .aload 0), (false, .iload 1), (false, .iload 3), (false, .iconst 1), (false, .iadd), (false, .invokeinterface 66 332), (false, .aload 0), (false, .getfield 1286), (false, .iload 2), (false, .invokeinterface 58 264), (false, .aload 0), (false, .getfield 1286), (false, .iload 4), (false, .invokeinterface 60 264), (false, .return_)]
def oM_76 : List Nat := [0, 1, 4, 7, 9, 10, 11, 12, 13, 14, 17, 18, 21, 22, 25, 26, 29, 31, 34]
def hM_76 : mj_X := []
def cM_77 : mj_C := [(false, .aload 0), (false, .aload 0), (false, .getfield 1282), (false, .iload 1), (false, .iconst 1), (false, .invokeinterface 31 140), (false, .aload 0), (false, .getfield 1282), (false, .aload 0), (false, .getfield 1282), (false, .iload 1), (false, .iconst 0), (false, .invokeinterface 31 140), (false, .invokeinterface 29 136), (false, .iload 2), (false, .invokeinterface 78 336), (false, .return_)]
def oM_77 : List Nat := [0, 1, 2, 5, 6, 7, 10, 11, 14, 15, 18, 19, 20, 23, 26, 27, 30]
def hM_77 : mj_X := []
def cM_78 : mj_C := [(false, .aload 0), (false, .getfield 1286), (false, .iconst 3), (false, .invokeinterface 58 264), (false, .aload 0), (false, .iload 2), (false, .invokeinterface 72 328), (false, .aload 0), (false, .iload 1), (false, .iconst 5), (false, .iload 3), (false, .invokeinterface 76 336), (false, .aload 0), (false, .invokeinterface 73 324), (false, .return_)]
def oM_78 : List Nat := [0, 1, 4, 5, 8, 9, 10, 13, 14, 15, 16, 17, 20, 21, 24]
def hM_78 : mj_X := []
def cM_79 : mj_C := [(false, .aload 0), (false, .invokeinterface 83 324), (false, .aload 0), (false, .getfield 1282), (false, .iload 1), (false, .invokeinterface 32 136), (false, .iconst 1), (false, .isub), (false, .istore 3), (true, .iload 3), (false, .iconst 1), (false, .if_icmp .lt 22), (false, .aload 0), (false, .aload 0), (false, .getfield 1282), (false, .iload 1), (false, .iload 3), (false, .invokeinterface 31 140), (false, .iload 2), (false, .invokeinterface 84 332), (false, .iinc 3 (-1)), (false, .goto 9), (false, .aload 0), (false, .aload 0), (false, .getfield 1282), (false, .iload 1), (false, .iconst 0), (false, .invokeinterface 31 140), (false, .iload 2), (false, .iconst 1), (false, .iadd), (false, .invokeinterface 66 332), (false, .aload 0), (false, .getfield 1286), (false, .iconst 4), (false, .invokeinterface 58 264), (false, .return_)]
def oM_79 : List Nat := [0, 1, 4, 5, 8, 9, 12, 13, 14, 15, 16, 17, 20, 21, 22, 25, 26, 27, 30, 31, 34, 37, 40, 41, 42, 45, 46, 47, 50, 51, 52, 53, 56, 57, 60, 61, 64]
def hM_79 : mj_X := []
def cM_80 : mj_C := [(false, .aload 0), (false, .iload 1), (false, .iload 2), (false, .invokeinterface 82 332), (false, .aload 0), (false, .aload 0), (false, .getfield 1282), (false, .iload 1), (false, .iconst 0), (false, .invokeinterface 31 140), (false, .aload 0), (false, .getfield 1282), (false, .iload 1), (false, .iconst 1), (false, .invokeinterface 31 140), (false, .iload 2), (false, .invokeinterface 78 336), (false, .aload 0), (false, .getfield 1286), (false, .iconst 4), (false, .invokeinterface 58 264), (false, .return_)]
def oM_80 : List Nat := [0, 1, 2, 3, 6, 7, 8, 11, 12, 13, 16, 17, 20, 21, 22, 25, 26, 29, 30, 33, 34, 37]
def hM_80 : mj_X := []
def cM_81 : mj_C := [(false, .aload 0), (false, .getfield 1286), (false, .iconst 6), (false, .invokeinterface 58 264), (false, .aload 0), (false, .aload 0), (false, .getfield 1282), (false, .iload 1), (false, .iconst 1), (false, .invokeinterface 31 140), (false, .invokeinterface 72 328), (false, .aload 0), (false, .iload 1), (false, .iload 2), (false, .invokeinterface 82 332), (false, .aload 0), (false, .invokeinterface 73 324), (false, .aload 0), (false, .aload 0), (false, .getfield 1282), (false, .iload 1), (false, .iconst 0), (false, .invokeinterface 31 140), (false, .aload 0), (false, .getfield 1282), (false, .iload 1), (false, .iconst 1), (false, .invokeinterface 31 140), (false, .iload 2), (false, .invokeinterface 78 336), (false, .aload 0), (false, .getfield 1286), (false, .iconst 7), (false, .invokeinterface 58 264), (false, .return_)]
def oM_81 : List Nat := [0, 1, 4, 6, 9, 10, 11, 14, 15, 16, 19, 22, 23, 24, 25, 28, 29, 32, 33, 34, 37, 38, 39, 42, 43, 46, 47, 48, 51, 52, 55, 56, 59, 61, 64]
def hM_81 : mj_X := []
def cM_82 : mj_C := [(false, .aload 0), (false, .invokeinterface 83 324), (false, .aload 0), (false, .getfield 1282), (false, .iload 1), (false, .invokeinterface 32 136), (false, .iconst 1), (false, .isub), (false, .istore 3), (true, .iload 3), (false, .iconst 1), (false, .if_icmp .lt 25), (false, .aload 0), (false, .aload 0), (false, .getfield 1282), (false, .aload 0), (false, .getfield 1282), (false, .iload 1), (false, .iload 3), (false, .invokeinterface 31 140), (false, .invokeinterface 29 136), (false, .iload 2), (false, .invokeinterface 84 332), (false, .iinc 3 (-1)), (false, .goto 9), (false, .return_)]
def oM_82 : List Nat := [0, 1, 4, 5, 8, 9, 12, 13, 14, 15, 16, 17, 20, 21, 22, 25, 26, 29, 30, 31, 34, 37, 38, 41, 44, 47]
def hM_82 : mj_X := []
def cM_83 : mj_C := [(false, .aload 0), (false, .getfield 1286), (false, .iconst 1), (false, .invokeinterface 58 264), (false, .aload 0), (false, .getfield 1286), (false, .ldc2_w 0), (false, .invokeinterface 56 264), (false, .return_)]
def oM_83 : List Nat := [0, 1, 4, 5, 8, 9, 12, 13, 16]
def hM_83 : mj_X := []
def cM_84 : mj_C := [(false, .aload 0), (false, .iload 1), (false, .iload 2), (false, .iconst 1), (false, .iadd), (false, .invokeinterface 66 332), (false, .aload 0), (false, .getfield 1286), (false, .iconst 13), (false, .invokeinterface 58 264), (false, .return_)]
def oM_84 : List Nat := [0, 1, 2, 3, 4, 5, 8, 9, 12, 14, 17]
def hM_84 : mj_X := []
def cM_85 : mj_C := [(false, .aload 0), (false, .monitorenter), (false, .aload 0), (false, .new 7), (false, .dup), (false, .iload 1), (false, .invokeinterface 120 458), (false, .putfield 1538), (false, .aload 0), (false, .new 8), (false, .dup), (false, .aload 0), (false, .getfield 1538), (false, .invokeinterface 137 522), (false, .putfield 1542), (false, .aload 0), (false, .iconst 0), (false, .putfield 1560), (false, .return_)]
def oM_85 : List Nat := [0, 1, 4, 5, 8, 9, 10, 13, 16, 17, 20, 21, 22, 25, 28, 31, 32, 33, 36]
def hM_85 : mj_X := []
def cM_86 : mj_C := [(false, .aload 0), (false, .getfield 1538), (false, .aload 1), (false, .invokeinterface 121 456), (false, .aload 0), (false, .ldc2_w 0), (false, .invokeinterface 88 392), (false, .aload 0), (false, .iconst 0), (false, .putfield 1560), (false, .return_)]
def oM_86 : List Nat := [0, 1, 4, 5, 8, 9, 10, 13, 14, 15, 18]
def hM_86 : mj_X := []
def cM_87 : mj_C := [(false, .aload 0), (false, .getfield 1538), (false, .invokeinterface 123 452), (false, .ldc2_w 0), (false, .lcmp), (false, .ifCond .ne 8), (false, .iconst 0), (false, .freturn), (false, .aload 0), (false, .getfield 1538), (false, .invokeinterface 122 452), (false, .aload 0), (false, .aload 0), (false, .getfield 1538), (false, .invokeinterface 123 452), (false, .invokeinterface 88 392), (false, .aload 0), (false, .iconst 0), (false, .putfield 1564), (false, .aload 0), (false, .iconst 0), (false, .putfield 1568), (false, .aload 0), (false, .iconst 0), (false, .putfield 1572), (false, .aload 0), (false, .iconst 1), (false, .putfield 1560), (false, .iconst 1), (false, .freturn)]
def oM_87 : List Nat := [0, 1, 4, 7, 8, 9, 12, 13, 14, 15, 18, 21, 22, 23, 26, 29, 32, 33, 34, 37, 38, 39, 42, 43, 44, 47, 48, 49, 52, 53]
def hM_87 : mj_X := []
def cM_88 : mj_C := [(false, .aload 0), (false, .ldc2_w 0), (false, .putfield 1545), (false, .aload 0), (false, .ldc2_w 0), (false, .putfield 1549), (false, .aload 0), (false, .lload 1), (false, .putfield 1553), (false, .aload 0), (false, .ldc2_w 0), (false, .putfield 1557), (false, .return_)]
def oM_88 : List Nat := [0, 1, 2, 5, 6, 7, 10, 11, 12, 15, 16, 17, 20]
def hM_88 : mj_X := []
def cM_89 : mj_C := [(false, .aload 0), (false, .dup), (false, .getfield 1572), (false, .iconst 1), (false, .iadd), (false, .putfield 1572), (false, .aload 0), (false, .invokeinterface 110 388), (false, .istore 1), (false, .iload 1), (false, .invokeinterface 142 5), (false, .istore 2), (false, .aload 0), (false, .getfield 1538), (false, .invokeinterface 124 452), (false, .iload 2), (false, .if_icmp .ge 19), (false, .aload 0), (false, .invokeinterface 90 388), (false, .aload 0), (false, .getfield 1538), (false, .invokeinterface 124 452), (false, .iload 2), (false, .if_icmp .ge 28), (false, .aload 0), (false, .iconst 4), (false, .putfield 1560), (false, .goto 35), (false, .aload 0), (false, .iload 1), (false, .invokeinterface 91 392), (false, .ifCond .ne 35), (false, .aload 0), (false, .iconst 3), (false, .putfield 1560), (false, .return_)]
def oM_89 : List Nat := [0, 1, 2, 5, 6, 7, 10, 11, 14, 15, 16, 19, 20, 21, 24, 27, 28, 31, 32, 35, 36, 39, 42, 43, 46, 47, 48, 51, 54, 55, 56, 59, 62, 63, 64, 67]
def hM_89 : mj_X := []
def cM_90 : mj_C := [(false, .aload 0), (false, .getfield 1538), (false, .aload 0), (false, .getfield 1545), (false, .aload 0), (false, .getfield 1549), (false, .aload 0), (false, .getfield 1553), (false, .aload 0), (false, .getfield 1557), (false, .invokeinterface 134 468), (false, .pop), (false, .aload 0), (false, .dup), (false, .getfield 1568), (false, .aload 0), (false, .getfield 1538), (false, .invokeinterface 136 452), (false, .iadd), (false, .putfield 1568), (false, .aload 0), (false, .dup), (false, .getfield 1564), (false, .iconst 1), (false, .iadd), (false, .putfield 1564), (false, .return_)]
def oM_90 : List Nat := [0, 1, 4, 5, 8, 9, 12, 13, 16, 17, 20, 23, 24, 25, 26, 29, 30, 33, 36, 37, 40, 41, 42, 45, 46, 47, 50]
def hM_90 : mj_X := []
def cM_91 : mj_C := [(false, .iload 1), (false, .lookupswitch 49 #[(1, 2), (2, 5), (3, 8), (4, 11), (5, 14), (6, 17), (7, 20), (8, 23), (9, 26), (10, 29), (11, 29), (12, 33), (13, 36), (14, 39), (15, 42), (16, 42), (17, 42), (18, 42), (19, 46)]), (false, .aload 0), (false, .invokeinterface 92 388), (false, .freturn), (false, .aload 0), (false, .invokeinterface 93 388), (false, .freturn), (false, .aload 0), (false, .invokeinterface 94 388), (false, .freturn), (false, .aload 0), (false, .invokeinterface 95 388), (false, .freturn), (false, .aload 0), (false, .invokeinterface 98 388), (false, .freturn), (false, .aload 0), (false, .invokeinterface 99 388), (false, .freturn), (false, .aload 0), (false, .invokeinterface 96 388), (false, .freturn), (false, .aload 0), (false, .invokeinterface 100 388), (false, .freturn), (false, .aload 0), (false, .invokeinterface 101 388), (false, .freturn), (false, .aload 0), (false, .iload 1), (false, .invokeinterface 102 392), (false, .freturn), (false, .aload 0), (false, .invokeinterface 103 388), (false, .freturn), (false, .aload 0), (false, .invokeinterface 104 388), (false, .freturn), (false, .aload 0), (false, .invokeinterface 105 388), (false, .freturn), (false, .aload 0), (false, .iload 1), (false, .invokeinterface 106 392), (false, .freturn), (false, .aload 0), (false, .invokeinterface 109 388), (false, .freturn), (false, .iconst 0), (false, .freturn)]
def oM_91 : List Nat := [0, 1, 92, 93, 96, 97, 98, 101, 102, 103, 106, 107, 108, 111, 112, 113, 116, 117, 118, 121, 122, 123, 126, 127, 128, 131, 132, 133, 136, 137, 138, 139, 142, 143, 144, 147, 148, 149, 152, 153, 154, 157, 158, 159, 160, 163, 164, 165, 168, 169, 170]
def hM_91 : mj_X := []
def cM_92 : mj_C := [(false, .aload 0), (false, .getfield 1538), (false, .aload 0), (false, .getfield 1553), (false, .invokeinterface 130 456), (false, .lstore 1), (false, .aload 0), (false, .aload 0), (false, .getfield 1538), (false, .aload 0), (false, .getfield 1538), (false, .lload 1), (false, .invokeinterface 129 456), (false, .aload 0), (false, .getfield 1545), (false, .invokeinterface 126 460), (false, .putfield 1545), (false, .aload 0), (false, .aload 0), (false, .getfield 1538), (false, .lload 1), (false, .invokeinterface 130 456), (false, .putfield 1553), (false, .iconst 1), (false, .freturn)]
def oM_92 : List Nat := [0, 1, 4, 5, 8, 11, 12, 13, 14, 17, 18, 21, 22, 25, 26, 29, 32, 35, 36, 37, 40, 41, 44, 47, 48]
def hM_92 : mj_X := []
def cM_93 : mj_C := [(false, .aload 0), (false, .getfield 1538), (false, .aload 0), (false, .getfield 1553), (false, .invokeinterface 130 456), (false, .lstore 1), (false, .aload 0), (false, .getfield 1538), (false, .lload 1), (false, .invokeinterface 129 456), (false, .invokeinterface 154 5), (false, .istore 3), (false, .aload 0), (false, .getfield 1538), (false, .aload 0), (false, .getfield 1549), (false, .iload 3), (false, .iconst 16), (false, .idiv), (false, .invokeinterface 132 460), (false, .lstore 4), (false, .lload 4), (false, .invokeinterface 150 5), (false, .ifCond .ne 26), (false, .iconst 0), (false, .freturn), (false, .aload 0), (false, .getfield 1538), (false, .aload 0), (false, .getfield 1538), (false, .lload 4), (false, .invokeinterface 129 456), (false, .iload 3), (false, .iconst 16), (false, .irem), (false, .invokeinterface 132 460), (false, .lstore 6), (false, .lload 6), (false, .invokeinterface 150 5), (false, .ifCond .ne 42), (false, .iconst 0), (false, .freturn), (false, .aload 0), (false, .aload 0), (false, .getfield 1538), (false, .aload 0), (false, .getfield 1538), (false, .lload 6), (false, .invokeinterface 129 456), (false, .aload 0), (false, .getfield 1545), (false, .invokeinterface 126 460), (false, .putfield 1545), (false, .aload 0), (false, .aload 0), (false, .getfield 1538), (false, .lload 1), (false, .invokeinterface 130 456), (false, .putfield 1553), (false, .iconst 1), (false, .freturn)]
def oM_93 : List Nat := [0, 1, 4, 5, 8, 11, 12, 13, 16, 17, 20, 23, 24, 25, 28, 29, 32, 33, 35, 36, 39, 41, 43, 46, 49, 50, 51, 52, 55, 56, 59, 61, 64, 65, 67, 68, 71, 73, 75, 78, 81, 82, 83, 84, 85, 88, 89, 92, 94, 97, 98, 101, 104, 107, 108, 109, 112, 113, 116, 119, 120]
def hM_93 : mj_X := []
def cM_94 : mj_C := [(false, .aload 0), (false, .getfield 1538), (false, .aload 0), (false, .getfield 1553), (false, .invokeinterface 130 456), (false, .lstore 1), (false, .aload 0), (false, .aload 0), (false, .getfield 1538), (false, .aload 0), (false, .getfield 1538), (false, .aload 0), (false, .getfield 1538), (false, .lload 1), (false, .invokeinterface 129 456), (false, .aload 0), (false, .getfield 1549), (false, .invokeinterface 127 460), (false, .aload 0), (false, .getfield 1545), (false, .invokeinterface 126 460), (false, .putfield 1545), (false, .aload 0), (false, .aload 0), (false, .getfield 1538), (false, .lload 1), (false, .invokeinterface 130 456), (false, .putfield 1553), (false, .iconst 1), (false, .freturn)]
def oM_94 : List Nat := [0, 1, 4, 5, 8, 11, 12, 13, 14, 17, 18, 21, 22, 25, 26, 29, 30, 33, 36, 37, 40, 43, 46, 47, 48, 51, 52, 55, 58, 59]
def hM_94 : mj_X := []
def cM_95 : mj_C := [(false, .aload 0), (false, .getfield 1538), (false, .aload 0), (false, .getfield 1545), (false, .invokeinterface 129 456), (false, .lstore 1), (false, .lload 1), (false, .invokeinterface 151 5), (false, .ifCond .ne 11), (false, .iconst 0), (false, .freturn), (false, .aload 0), (false, .getfield 1538), (false, .aload 0), (false, .getfield 1538), (false, .aload 0), (false, .getfield 1545), (false, .invokeinterface 130 456), (false, .invokeinterface 129 456), (false, .lstore 3), (false, .aload 0), (false, .aload 0), (false, .getfield 1549), (false, .invokeinterface 97 392), (false, .aload 0), (false, .aload 0), (false, .getfield 1538), (false, .lload 3), (false, .aload 0), (false, .getfield 1538), (false, .lload 1), (false, .invokeinterface 130 456), (false, .invokeinterface 126 460), (false, .putfield 1549), (false, .aload 0), (false, .aload 0), (false, .getfield 1538), (false, .lload 1), (false, .invokeinterface 129 456), (false, .putfield 1553), (false, .iconst 1), (false, .freturn)]
def oM_95 : List Nat := [0, 1, 4, 5, 8, 11, 12, 13, 16, 19, 20, 21, 22, 25, 26, 29, 30, 33, 36, 39, 40, 41, 42, 45, 48, 49, 50, 53, 54, 55, 58, 59, 62, 65, 68, 69, 70, 73, 74, 77, 80, 81]
def hM_95 : mj_X := []
def cM_96 : mj_C := [(false, .aload 0), (false, .getfield 1538), (false, .aload 0), (false, .getfield 1545), (false, .invokeinterface 129 456), (false, .lstore 1), (false, .lload 1), (false, .invokeinterface 151 5), (false, .ifCond .ne 11), (false, .iconst 0), (false, .freturn), (false, .aload 0), (false, .getfield 1538), (false, .aload 0), (false, .getfield 1538), (false, .aload 0), (false, .getfield 1545), (false, .invokeinterface 130 456), (false, .invokeinterface 129 456), (false, .lstore 3), (false, .aload 0), (false, .aload 0), (false, .getfield 1538), (false, .aload 0), (false, .getfield 1549), (false, .invokeinterface 130 456), (false, .invokeinterface 97 392), (false, .aload 0), (false, .aload 0), (false, .getfield 1538), (false, .lload 1), (false, .invokeinterface 130 456), (false, .putfield 1549), (false, .aload 0), (false, .getfield 1538), (false, .aload 0), (false, .getfield 1549), (false, .lload 3), (false, .invokeinterface 131 460), (false, .aload 0), (false, .aload 0), (false, .getfield 1538), (false, .lload 1), (false, .invokeinterface 129 456), (false, .putfield 1553), (false, .iconst 1), (false, .freturn)]
def oM_96 : List Nat := [0, 1, 4, 5, 8, 11, 12, 13, 16, 19, 20, 21, 22, 25, 26, 29, 30, 33, 36, 39, 40, 41, 42, 45, 46, 49, 52, 55, 56, 57, 60, 61, 64, 67, 68, 71, 72, 75, 76, 79, 80, 81, 84, 85, 88, 91, 92]
def hM_96 : mj_X := []
def cM_97 : mj_C := [(false, .aload 0), (false, .getfield 1538), (false, .aload 0), (false, .getfield 1538), (false, .aload 0), (false, .getfield 1545), (false, .invokeinterface 130 456), (false, .invokeinterface 130 456), (false, .lstore 3), (false, .aload 0), (false, .aload 0), (false, .getfield 1538), (false, .aload 0), (false, .getfield 1538), (false, .aload 0), (false, .getfield 1553), (false, .invokeinterface 130 456), (false, .aload 0), (false, .getfield 1557), (false, .invokeinterface 126 460), (false, .putfield 1557), (false, .aload 0), (false, .aload 0), (false, .getfield 1538), (false, .lload 1), (false, .aload 0), (false, .getfield 1557), (false, .invokeinterface 126 460), (false, .putfield 1557), (false, .aload 0), (false, .aload 0), (false, .getfield 1538), (false, .lload 3), (false, .aload 0), (false, .getfield 1557), (false, .invokeinterface 126 460), (false, .putfield 1557), (false, .aload 0), (false, .ldc2_w 0), (false, .putfield 1545), (false, .return_)]
def oM_97 : List Nat := [0, 1, 4, 5, 8, 9, 12, 15, 18, 19, 20, 21, 24, 25, 28, 29, 32, 35, 36, 39, 42, 45, 46, 47, 50, 51, 52, 55, 58, 61, 62, 63, 66, 67, 68, 71, 74, 77, 78, 79, 82]
def hM_97 : mj_X := []
def cM_98 : mj_C := [(false, .aload 0), (false, .getfield 1538), (false, .aload 0), (false, .getfield 1545), (false, .invokeinterface 129 456), (false, .lstore 1), (false, .aload 0), (false, .getfield 1538), (false, .aload 0), (false, .getfield 1557), (false, .invokeinterface 130 456), (false, .lstore 3), (false, .aload 0), (false, .getfield 1538), (false, .lload 3), (false, .invokeinterface 130 456), (false, .lstore 5), (false, .aload 0), (false, .aload 0), (false, .getfield 1538), (false, .lload 1), (false, .aload 0), (false, .getfield 1538), (false, .aload 0), (false, .getfield 1557), (false, .invokeinterface 129 456), (false, .invokeinterface 126 460), (false, .putfield 1545), (false, .aload 0), (false, .aload 0), (false, .getfield 1538), (false, .lload 3), (false, .invokeinterface 129 456), (false, .putfield 1549), (false, .aload 0), (false, .aload 0), (false, .getfield 1538), (false, .lload 5), (false, .invokeinterface 129 456), (false, .putfield 1553), (false, .aload 0), (false, .aload 0), (false, .getfield 1538), (false, .lload 5), (false, .invokeinterface 130 456), (false, .putfield 1557), (false, .iconst 1), (false, .freturn)]
def oM_98 : List Nat := [0, 1, 4, 5, 8, 11, 12, 13, 16, 17, 20, 23, 24, 25, 28, 29, 32, 34, 35, 36, 39, 40, 41, 44, 45, 48, 51, 54, 57, 58, 59, 62, 63, 66, 69, 70, 71, 74, 76, 79, 82, 83, 84, 87, 89, 92, 95, 96]
def hM_98 : mj_X := []
def cM_99 : mj_C := [(false, .aload 0), (false, .aload 0), (false, .getfield 1538), (false, .ldc2_w 0), (false, .aload 0), (false, .getfield 1549), (false, .invokeinterface 126 460), (false, .putfield 1549), (false, .aload 0), (false, .aload 0), (false, .getfield 1538), (false, .aload 0), (false, .getfield 1553), (false, .invokeinterface 130 456), (false, .putfield 1553), (false, .iconst 1), (false, .freturn)]
def oM_99 : List Nat := [0, 1, 2, 5, 6, 7, 10, 13, 16, 17, 18, 21, 22, 25, 28, 31, 32]
def hM_99 : mj_X := []
def cM_100 : mj_C := [(false, .aload 0), (false, .getfield 1538), (false, .aload 0), (false, .getfield 1545), (false, .invokeinterface 129 456), (false, .lstore 1), (false, .lload 1), (false, .invokeinterface 149 5), (false, .ifCond .ne 11), (false, .iconst 0), (false, .freturn), (false, .aload 0), (false, .getfield 1538), (false, .aload 0), (false, .getfield 1553), (false, .invokeinterface 130 456), (false, .lstore 3), (false, .aload 0), (false, .getfield 1538), (false, .lload 3), (false, .invokeinterface 130 456), (false, .lstore 5), (false, .aload 0), (false, .aload 0), (false, .getfield 1538), (false, .aload 0), (false, .getfield 1545), (false, .invokeinterface 130 456), (false, .putfield 1545), (false, .aload 0), (false, .aload 0), (false, .getfield 1538), (false, .aload 0), (false, .getfield 1538), (false, .lload 5), (false, .invokeinterface 130 456), (false, .aload 0), (false, .getfield 1557), (false, .invokeinterface 126 460), (false, .putfield 1557), (false, .aload 0), (false, .aload 0), (false, .getfield 1538), (false, .lload 1), (false, .invokeinterface 154 5), (false, .ifCond .eq 48), (false, .lload 3), (false, .goto 49), (false, .lload 5), (false, .invokeinterface 129 456), (false, .putfield 1553), (false, .iconst 1), (false, .freturn)]
def oM_100 : List Nat := [0, 1, 4, 5, 8, 11, 12, 13, 16, 19, 20, 21, 22, 25, 26, 29, 32, 33, 34, 37, 38, 41, 43, 44, 45, 48, 49, 52, 55, 58, 59, 60, 63, 64, 67, 69, 72, 73, 76, 79, 82, 83, 84, 87, 88, 91, 94, 95, 98, 100, 103, 106, 107]
def hM_100 : mj_X := []
def cM_101 : mj_C := [(false, .aload 0), (false, .aload 0), (false, .getfield 1538), (false, .aload 0), (false, .getfield 1557), (false, .invokeinterface 129 456), (false, .putfield 1553), (false, .aload 0), (false, .aload 0), (false, .getfield 1538), (false, .aload 0), (false, .getfield 1557), (false, .invokeinterface 130 456), (false, .putfield 1557), (false, .iconst 1), (false, .freturn)]
def oM_101 : List Nat := [0, 1, 2, 5, 6, 9, 12, 15, 16, 17, 20, 21, 24, 27, 30, 31]
def hM_101 : mj_X := []
def cM_102 : mj_C := [(false, .aload 0), (false, .getfield 1538), (false, .aload 0), (false, .getfield 1545), (false, .invokeinterface 129 456), (false, .lstore 2), (false, .lload 2), (false, .invokeinterface 150 5), (false, .ifCond .ne 11), (false, .iconst 0), (false, .freturn), (false, .aload 0), (false, .iconst 1), (false, .iload 1), (false, .iconst 10), (false, .if_icmp .ne 21), (false, .aload 0), (false, .getfield 1538), (false, .lload 2), (false, .invokeinterface 129 456), (false, .goto 25), (false, .aload 0), (false, .getfield 1538), (false, .lload 2), (false, .invokeinterface 130 456), (false, .invokeinterface 108 396), (false, .iconst 1), (false, .freturn)]
def oM_102 : List Nat := [0, 1, 4, 5, 8, 11, 12, 13, 16, 19, 20, 21, 22, 23, 24, 26, 29, 30, 33, 34, 37, 40, 41, 44, 45, 48, 51, 52]
def hM_102 : mj_X := []
def cM_103 : mj_C := [(false, .aload 0), (false, .iconst 1), (false, .aload 0), (false, .getfield 1538), (false, .aload 0), (false, .getfield 1545), (false, .invokeinterface 129 456), (false, .invokeinterface 150 5), (false, .ifCond .eq 11), (false, .iconst 0), (false, .goto 12), (false, .iconst 1), (false, .invokeinterface 145 5), (false, .invokeinterface 108 396), (false, .iconst 1), (false, .freturn)]
def oM_103 : List Nat := [0, 1, 2, 3, 6, 7, 10, 13, 16, 19, 20, 23, 24, 27, 30, 31]
def hM_103 : mj_X := []
def cM_104 : mj_C := [(false, .aload 0), (false, .getfield 1538), (false, .aload 0), (false, .getfield 1545), (false, .invokeinterface 129 456), (false, .lstore 1), (false, .aload 0), (false, .getfield 1538), (false, .aload 0), (false, .getfield 1538), (false, .aload 0), (false, .getfield 1545), (false, .invokeinterface 130 456), (false, .invokeinterface 129 456), (false, .lstore 3), (false, .aload 0), (false, .iconst 2), (false, .aload 0), (false, .getfield 1538), (false, .lload 1), (false, .lload 3), (false, .invokeinterface 126 460), (false, .invokeinterface 108 396), (false, .iconst 1), (false, .freturn)]
def oM_104 : List Nat := [0, 1, 4, 5, 8, 11, 12, 13, 16, 17, 20, 21, 24, 27, 30, 31, 32, 33, 34, 37, 38, 39, 42, 45, 46]
def hM_104 : mj_X := []
def cM_105 : mj_C := [(false, .aload 0), (false, .getfield 1538), (false, .aload 0), (false, .getfield 1545), (false, .invokeinterface 129 456), (false, .lstore 1), (false, .aload 0), (false, .getfield 1538), (false, .aload 0), (false, .getfield 1538), (false, .aload 0), (false, .getfield 1545), (false, .invokeinterface 130 456), (false, .invokeinterface 129 456), (false, .lstore 3), (false, .lload 3), (false, .lload 1), (false, .lcmp), (false, .ifCond .ne 25), (false, .lload 3), (false, .invokeinterface 153 5), (false, .iconst (-1)), (false, .if_icmp .ne 25), (false, .iconst 1), (false, .goto 26), (false, .iconst 0), (false, .istore 5), (false, .aload 0), (false, .iconst 2), (false, .iload 5), (false, .ifCond .eq 33), (false, .iconst 1), (false, .goto 34), (false, .iconst 0), (false, .invokeinterface 145 5), (false, .invokeinterface 108 396), (false, .iconst 1), (false, .freturn)]
def oM_105 : List Nat := [0, 1, 4, 5, 8, 11, 12, 13, 16, 17, 20, 21, 24, 27, 30, 31, 32, 33, 34, 37, 38, 41, 42, 45, 46, 49, 50, 52, 53, 54, 56, 59, 60, 63, 64, 67, 70, 71]
def hM_105 : mj_X := []
def cM_106 : mj_C := [(false, .aload 0), (false, .getfield 1538), (false, .aload 0), (false, .getfield 1545), (false, .invokeinterface 129 456), (false, .lstore 2), (false, .aload 0), (false, .getfield 1538), (false, .aload 0), (false, .getfield 1538), (false, .aload 0), (false, .getfield 1545), (false, .invokeinterface 130 456), (false, .invokeinterface 129 456), (false, .lstore 4), (false, .lload 4), (false, .invokeinterface 149 5), (false, .ifCond .eq 21), (false, .lload 2), (false, .invokeinterface 149 5), (false, .ifCond .ne 23), (false, .iconst 0), (false, .freturn), (false, .aload 0), (false, .iconst 2), (false, .iload 1), (false, .lload 4), (false, .invokeinterface 154 5), (false, .lload 2), (false, .invokeinterface 154 5), (false, .invokeinterface 107 13), (false, .invokeinterface 145 5), (false, .invokeinterface 108 396), (false, .iconst 1), (false, .freturn)]
def oM_106 : List Nat := [0, 1, 4, 5, 8, 11, 12, 13, 16, 17, 20, 21, 24, 27, 30, 32, 34, 37, 40, 41, 44, 47, 48, 49, 50, 51, 52, 54, 57, 58, 61, 64, 67, 70, 71]
def hM_106 : mj_X := []
def cM_107 : mj_C := [(false, .iload 0), (false, .lookupswitch 14 #[(15, 2), (16, 6), (17, 10)]), (false, .iload 1), (false, .iload 2), (false, .iadd), (false, .ireturn), (false, .iload 1), (false, .iload 2), (false, .isub), (false, .ireturn), (false, .iload 1), (false, .iload 2), (false, .imul), (false, .ireturn), (false, .iload 1), (false, .iload 2), (false, .if_icmp .ge 19), (false, .iconst 1), (false, .goto 20), (false, .iconst 0), (false, .ireturn)]
def oM_107 : List Nat := [0, 1, 28, 29, 30, 31, 32, 33, 34, 35, 36, 37, 38, 39, 40, 41, 42, 45, 46, 49, 50]
def hM_107 : mj_X := []
def cM_108 : mj_C := [(false, .aload 0), (false, .aload 0), (false, .getfield 1538), (false, .lload 2), (false, .aload 0), (false, .getfield 1538), (false, .aload 0), (false, .getfield 1545), (false, .iload 1), (false, .invokeinterface 132 460), (false, .invokeinterface 126 460), (false, .putfield 1545), (false, .aload 0), (false, .aload 0), (false, .getfield 1538), (false, .aload 0), (false, .getfield 1553), (false, .invokeinterface 130 456), (false, .putfield 1553), (false, .return_)]
def oM_108 : List Nat := [0, 1, 2, 5, 6, 7, 10, 11, 14, 15, 18, 21, 24, 25, 26, 29, 30, 33, 36, 39]
def hM_108 : mj_X := []
def cM_109 : mj_C := [(false, .aload 0), (false, .iconst 2), (false, .putfield 1560), (false, .aload 0), (false, .getfield 1542), (false, .aload 0), (false, .getfield 1538), (false, .aload 0), (false, .getfield 1545), (false, .invokeinterface 129 456), (false, .invokeinterface 138 520), (false, .iconst 1), (false, .freturn)]
def oM_109 : List Nat := [0, 1, 2, 5, 6, 9, 10, 13, 14, 17, 20, 23, 24]
def hM_109 : mj_X := []
def cM_110 : mj_C := [(false, .aload 0), (false, .getfield 1538), (false, .aload 0), (false, .getfield 1553), (false, .invokeinterface 129 456), (false, .invokeinterface 154 5), (false, .ireturn)]
def oM_110 : List Nat := [0, 1, 4, 5, 8, 11, 14]
def hM_110 : mj_X := []
def cM_111 : mj_C := [(false, .aload 0), (false, .getfield 1560), (false, .ireturn)]
def oM_111 : List Nat := [0, 1, 4]
def hM_111 : mj_X := []
def cM_112 : mj_C := [(false, .aload 0), (false, .getfield 1538), (false, .invokeinterface 125 452), (false, .ireturn)]
def oM_112 : List Nat := [0, 1, 4, 7]
def hM_112 : mj_X := []
def cM_113 : mj_C := [(false, .aload 0), (false, .getfield 1538), (false, .aload 0), (false, .getfield 1545), (false, .aload 0), (false, .getfield 1549), (false, .aload 0), (false, .getfield 1553), (false, .aload 0), (false, .getfield 1557), (false, .invokeinterface 134 468), (false, .ireturn)]
def oM_113 : List Nat := [0, 1, 4, 5, 8, 9, 12, 13, 16, 17, 20, 23]
def hM_113 : mj_X := []
def cM_114 : mj_C := [(false, .aload 0), (false, .getfield 1564), (false, .ireturn)]
def oM_114 : List Nat := [0, 1, 4]
def hM_114 : mj_X := []
def cM_115 : mj_C := [(false, .aload 0), (false, .getfield 1568), (false, .ireturn)]
def oM_115 : List Nat := [0, 1, 4]
def hM_115 : mj_X := []
def cM_116 : mj_C := [(false, .aload 0), (false, .getfield 1572), (false, .ireturn)]
def oM_116 : List Nat := [0, 1, 4]
def hM_116 : mj_X := []
def cM_117 : mj_C := [(false, .aload 0), (false, .getfield 1538), (false, .aload 0), (false, .getfield 1545), (false, .invokeinterface 133 456), (false, .ireturn)]
def oM_117 : List Nat := [0, 1, 4, 5, 8, 11]
def hM_117 : mj_X := []
def cM_118 : mj_C := [(false, .aload 0), (false, .getfield 1538), (false, .aload 0), (false, .getfield 1557), (false, .invokeinterface 133 456), (false, .ireturn)]
def oM_118 : List Nat := [0, 1, 4, 5, 8, 11]
def hM_118 : mj_X := []
def cM_119 : mj_C := [(false, .aload 0), (false, .getfield 1542), (false, .iload 1), (false, .invokeinterface 141 520), (false, .ireturn)]
def oM_119 : List Nat := [0, 1, 4, 5, 8]
def hM_119 : mj_X := []
def cM_120 : mj_C := [(false, .aload 0), (false, .monitorenter), (false, .aload 0), (false, .iload 1), (false, .putfield 1792), (false, .aload 0), (false, .iload 1), (false, .newarray .long), (false, .putfield 1798), (false, .aload 0), (false, .iload 1), (false, .newarray .long), (false, .putfield 1802), (false, .aload 0), (false, .iload 1), (false, .newarray .int), (false, .putfield 1806), (false, .aload 0), (false, .iload 1), (false, .newarray .boolean), (false, .putfield 1810), (false, .aload 0), (false, .iload 1), (false, .newarray .int), (false, .putfield 1814), (false, .iconst 0), (false, .istore 2), (true, .iload 2), (false, .iload 1), (false, .if_icmp .ge 37), (false, .aload 0), (false, .getfield 1806), (false, .iload 2), (false, .iload 2), (false, .iastore), (false, .iinc 2 1), (false, .goto 27), (false, .aload 0), (false, .iload 1), (false, .putfield 1816), (false, .return_)]
def oM_120 : List Nat := [0, 1, 4, 5, 6, 9, 10, 11, 13, 16, 17, 18, 20, 23, 24, 25, 27, 30, 31, 32, 34, 37, 38, 39, 41, 44, 45, 46, 47, 48, 51, 52, 55, 56, 57, 58, 61, 64, 65, 66, 69]
def hM_120 : mj_X := []
def cM_121 : mj_C := [(false, .aload 0), (false, .aload 1), (false, .invokeinterface 61 260), (false, .aload 0), (false, .getfield 1792), (false, .invokedynamic 1), (false, .putfield 1824), (false, .iconst 0), (false, .istore 2), (true, .iload 2), (false, .aload 0), (false, .getfield 1824), (false, .if_icmp .ge 29), (false, .aload 0), (false, .getfield 1798), (false, .iload 2), (false, .aload 1), (false, .iload 2), (false, .invokeinterface 62 264), (false, .lastore), (false, .aload 0), (false, .getfield 1802), (false, .iload 2), (false, .aload 1), (false, .iload 2), (false, .invokeinterface 63 264), (false, .lastore), (false, .iinc 2 1), (false, .goto 9), (false, .aload 0), (false, .invokeinterface 122 452), (false, .return_)]
def oM_121 : List Nat := [0, 1, 2, 5, 6, 9, 12, 15, 16, 17, 18, 19, 22, 25, 26, 29, 30, 31, 32, 35, 36, 37, 40, 41, 42, 43, 46, 47, 50, 53, 54, 57]
def hM_121 : mj_X := []
def cM_122 : mj_C := [(false, .aload 0), (false, .iconst 0), (false, .putfield 1816), (false, .aload 0), (false, .getfield 1824), (false, .istore 1), (true, .iload 1), (false, .aload 0), (false, .getfield 1792), (false, .if_icmp .ge 24), (false, .aload 0), (false, .getfield 1806), (false, .aload 0), (false, .getfield 1816), (false, .iload 1), (false, .iastore), (false, .aload 0), (false, .dup), (false, .getfield 1816), (false, .iconst 1), (false, .iadd), (false, .putfield 1816), (false, .iinc 1 1), (false, .goto 6), (false, .return_)]
def oM_122 : List Nat := [0, 1, 2, 5, 6, 9, 10, 11, 12, 15, 18, 19, 22, 23, 26, 27, 28, 29, 30, 33, 34, 35, 38, 41, 44]
def hM_122 : mj_X := []
def cM_123 : mj_C := [(false, .aload 0), (false, .getfield 1824), (false, .ifCond .le 6), (false, .iconst 0), (false, .invokeinterface 147 5), (false, .goto 7), (false, .ldc2_w 0), (false, .lreturn)]
def oM_123 : List Nat := [0, 1, 4, 7, 8, 11, 14, 15]
def hM_123 : mj_X := []
def cM_124 : mj_C := [(false, .aload 0), (false, .getfield 1816), (false, .ireturn)]
def oM_124 : List Nat := [0, 1, 4]
def hM_124 : mj_X := []
def cM_125 : mj_C := [(false, .aload 0), (false, .getfield 1792), (false, .aload 0), (false, .getfield 1816), (false, .isub), (false, .ireturn)]
def oM_125 : List Nat := [0, 1, 4, 5, 8, 9]
def hM_125 : mj_X := []
def cM_126 : mj_C := [(false, .aload 0), (false, .lload 1), (false, .lload 3), (false, .invokeinterface 128 460), (false, .invokeinterface 147 5), (false, .lreturn)]
def oM_126 : List Nat := [0, 1, 2, 3, 6, 9]
def hM_126 : mj_X := []
def cM_127 : mj_C := [(false, .aload 0), (false, .lload 1), (false, .lload 3), (false, .invokeinterface 128 460), (false, .invokeinterface 148 5), (false, .lreturn)]
def oM_127 : List Nat := [0, 1, 2, 3, 6, 9]
def hM_127 : mj_X := []
def cM_128 : mj_C := [(false, .aload 0), (false, .getfield 1816), (false, .ifCond .gt 5), (false, .iconst (-1)), (false, .ireturn), (false, .aload 0), (false, .dup), (false, .getfield 1816), (false, .iconst 1), (false, .isub), (false, .putfield 1816), (false, .aload 0), (false, .getfield 1806), (false, .aload 0), (false, .getfield 1816), (false, .iaload), (false, .istore 5), (false, .aload 0), (false, .getfield 1798), (false, .iload 5), (false, .lload 1), (false, .lastore), (false, .aload 0), (false, .getfield 1802), (false, .iload 5), (false, .lload 3), (false, .lastore), (false, .iload 5), (false, .ireturn)]
def oM_128 : List Nat := [0, 1, 4, 7, 8, 9, 10, 11, 14, 15, 16, 19, 20, 23, 24, 27, 28, 30, 31, 34, 36, 37, 38, 39, 42, 44, 45, 46, 48]
def hM_128 : mj_X := []
def cM_129 : mj_C := [(false, .lload 1), (false, .invokeinterface 153 5), (false, .istore 3), (false, .iload 3), (false, .ifCond .lt 14), (false, .iload 3), (false, .aload 0), (false, .getfield 1792), (false, .if_icmp .ge 14), (false, .aload 0), (false, .getfield 1798), (false, .iload 3), (false, .laload), (false, .goto 15), (false, .ldc2_w 0), (false, .lreturn)]
def oM_129 : List Nat := [0, 1, 4, 5, 6, 9, 10, 11, 14, 17, 18, 21, 22, 23, 26, 27]
def hM_129 : mj_X := []
def cM_130 : mj_C := [(false, .lload 1), (false, .invokeinterface 153 5), (false, .istore 3), (false, .iload 3), (false, .ifCond .lt 14), (false, .iload 3), (false, .aload 0), (false, .getfield 1792), (false, .if_icmp .ge 14), (false, .aload 0), (false, .getfield 1802), (false, .iload 3), (false, .laload), (false, .goto 15), (false, .ldc2_w 0), (false, .lreturn)]
def oM_130 : List Nat := [0, 1, 4, 5, 6, 9, 10, 11, 14, 17, 18, 21, 22, 23, 26, 27]
def hM_130 : mj_X := []
def cM_131 : mj_C := [(false, .lload 1), (false, .invokeinterface 153 5), (false, .istore 5), (false, .iload 5), (false, .ifCond .lt 14), (false, .iload 5), (false, .aload 0), (false, .getfield 1792), (false, .if_icmp .ge 14), (false, .aload 0), (false, .getfield 1798), (false, .iload 5), (false, .lload 3), (false, .lastore), (false, .return_)]
def oM_131 : List Nat := [0, 1, 4, 6, 8, 11, 13, 14, 17, 20, 21, 24, 26, 27, 28]
def hM_131 : mj_X := []
def cM_132 : mj_C := [(false, .lload 1), (false, .lstore 4), (false, .iconst 0), (false, .istore 6), (true, .iload 6), (false, .iload 3), (false, .if_icmp .ge 16), (false, .lload 4), (false, .invokeinterface 150 5), (false, .ifCond .eq 16), (false, .aload 0), (false, .lload 4), (false, .invokeinterface 130 456), (false, .lstore 4), (false, .iinc 6 1), (false, .goto 4), (false, .lload 4), (false, .lreturn)]
def oM_132 : List Nat := [0, 1, 3, 4, 6, 8, 9, 12, 14, 17, 20, 21, 23, 26, 28, 31, 34, 36]
def hM_132 : mj_X := []
def cM_133 : mj_C := [(false, .iconst 0), (false, .istore 3), (false, .lload 1), (false, .lstore 4), (true, .lload 4), (false, .invokeinterface 150 5), (false, .ifCond .eq 17), (false, .iload 3), (false, .aload 0), (false, .getfield 1792), (false, .if_icmp .ge 17), (false, .iinc 3 1), (false, .aload 0), (false, .lload 4), (false, .invokeinterface 130 456), (false, .lstore 4), (false, .goto 4), (false, .iload 3), (false, .ireturn)]
def oM_133 : List Nat := [0, 1, 2, 3, 5, 7, 10, 13, 14, 15, 18, 21, 24, 25, 27, 30, 32, 35, 36]
def hM_133 : mj_X := []
def cM_134 : mj_C := [(false, .iconst 0), (false, .istore 9), (true, .iload 9), (false, .aload 0), (false, .getfield 1792), (false, .if_icmp .ge 13), (false, .aload 0), (false, .getfield 1810), (false, .iload 9), (false, .iconst 0), (false, .bastore), (false, .iinc 9 1), (false, .goto 2), (false, .aload 0), (false, .iconst 0), (false, .putfield 1820), (false, .aload 0), (false, .lload 1), (false, .invokeinterface 135 456), (false, .aload 0), (false, .lload 3), (false, .invokeinterface 135 456), (false, .aload 0), (false, .lload 5), (false, .invokeinterface 135 456), (false, .aload 0), (false, .lload 7), (false, .invokeinterface 135 456), (false, .aload 0), (false, .aload 0), (false, .invokeinterface 123 452), (false, .invokeinterface 135 456), (false, .iconst 0), (false, .istore 9), (true, .iload 9), (false, .aload 0), (false, .getfield 1820), (false, .if_icmp .ge 62), (false, .iload 9), (false, .aload 0), (false, .getfield 1792), (false, .if_icmp .ge 62), (false, .aload 0), (false, .aload 0), (false, .getfield 1798), (false, .aload 0), (false, .getfield 1814), (false, .iload 9), (false, .iaload), (false, .laload), (false, .invokeinterface 135 456), (false, .aload 0), (false, .aload 0), (false, .getfield 1802), (false, .aload 0), (false, .getfield 1814), (false, .iload 9), (false, .iaload), (false, .laload), (false, .invokeinterface 135 456), (false, .iinc 9 1), (false, .goto 34), (false, .aload 0), (false, .getfield 1820), (false, .ireturn)]
def oM_134 : List Nat := [0, 1, 3, 5, 6, 9, 12, 13, 16, 18, 19, 20, 23, 26, 27, 28, 31, 32, 33, 36, 37, 38, 41, 42, 44, 47, 48, 50, 53, 54, 55, 58, 61, 62, 64, 66, 67, 70, 73, 75, 76, 79, 82, 83, 84, 87, 88, 91, 93, 94, 95, 98, 99, 100, 103, 104, 107, 109, 110, 111, 114, 117, 120, 121, 124]
def hM_134 : mj_X := []
def cM_135 : mj_C := [(false, .lload 1), (false, .invokeinterface 153 5), (false, .istore 3), (false, .iload 3), (false, .ifCond .lt 36), (false, .iload 3), (false, .aload 0), (false, .getfield 1792), (false, .if_icmp .ge 36), (false, .aload 0), (false, .getfield 1810), (false, .iload 3), (false, .baload), (false, .ifCond .ne 36), (false, .aload 0), (false, .getfield 1820), (false, .aload 0), (false, .getfield 1792), (false, .if_icmp .ge 36), (false, .aload 0), (false, .getfield 1810), (false, .iload 3), (false, .iconst 1), (false, .bastore), (false, .aload 0), (false, .getfield 1814), (false, .aload 0), (false, .getfield 1820), (false, .iload 3), (false, .iastore), (false, .aload 0), (false, .dup), (false, .getfield 1820), (false, .iconst 1), (false, .iadd), (false, .putfield 1820), (false, .return_)]
def oM_135 : List Nat := [0, 1, 4, 5, 6, 9, 10, 11, 14, 17, 18, 21, 22, 23, 26, 27, 30, 31, 34, 37, 38, 41, 42, 43, 44, 45, 48, 49, 52, 53, 54, 55, 56, 59, 60, 61, 64]
def hM_135 : mj_X := []
def cM_136 : mj_C := [(false, .aload 0), (false, .getfield 1816), (false, .istore 1), (false, .aload 0), (false, .iconst 0), (false, .putfield 1816), (false, .iconst 0), (false, .istore 2), (true, .iload 2), (false, .aload 0), (false, .getfield 1792), (false, .if_icmp .ge 31), (false, .aload 0), (false, .getfield 1810), (false, .iload 2), (false, .baload), (false, .ifCond .ne 29), (false, .aload 0), (false, .getfield 1806), (false, .aload 0), (false, .getfield 1816), (false, .iload 2), (false, .iastore), (false, .aload 0), (false, .dup), (false, .getfield 1816), (false, .iconst 1), (false, .iadd), (false, .putfield 1816), (false, .iinc 2 1), (false, .goto 8), (false, .aload 0), (false, .getfield 1816), (false, .iload 1), (false, .isub), (false, .ireturn)]
def oM_136 : List Nat := [0, 1, 4, 5, 6, 7, 10, 11, 12, 13, 14, 17, 20, 21, 24, 25, 26, 29, 30, 33, 34, 37, 38, 39, 40, 41, 44, 45, 46, 49, 52, 55, 56, 59, 60, 61]
def hM_136 : mj_X := []
def cM_137 : mj_C := [(false, .aload 0), (false, .monitorenter), (false, .aload 0), (false, .aload 1), (false, .putfield 2050), (false, .aload 0), (false, .new 9), (false, .dup), (false, .invokespecial 226886), (false, .putfield 2054), (false, .aload 0), (false, .iconst 120), (false, .newarray .long), (false, .putfield 2058), (false, .return_)]
def oM_137 : List Nat := [0, 1, 4, 5, 6, 9, 10, 13, 14, 17, 20, 21, 23, 25, 28]
def hM_137 : mj_X := []
def cM_138 : mj_C := [(false, .aload 0), (false, .getfield 2054), (false, .iconst 0), (false, .invokevirtual 243272), (false, .aload 0), (false, .iconst 0), (false, .putfield 2060), (false, .lload 1), (false, .lstore 3), (false, .iconst 0), (false, .istore 5), (true, .iload 5), (false, .iconst 120), (false, .if_icmp .ge 96), (false, .aload 0), (false, .getfield 2054), (false, .invokevirtual 228932), (false, .iconst 120), (false, .if_icmp .ge 96), (false, .lload 3), (false, .invokeinterface 150 5), (false, .ifCond .eq 52), (false, .aload 0), (false, .getfield 2060), (false, .iconst 120), (false, .if_icmp .ge 52), (false, .aload 0), (false, .getfield 2054), (false, .iconst 40), (false, .invokevirtual 250440), (false, .pop), (false, .aload 0), (false, .getfield 2058), (false, .aload 0), (false, .getfield 2060), (false, .aload 0), (false, .getfield 2050), (false, .lload 3), (false, .invokeinterface 130 456), (false, .lastore), (false, .aload 0), (false, .dup), (false, .getfield 2060), (false, .iconst 1), (false, .iadd), (false, .putfield 2060), (false, .aload 0), (false, .getfield 2050), (false, .lload 3), (false, .invokeinterface 129 456), (false, .lstore 3), (false, .goto 94), (false, .aload 0), (false, .lload 3), (false, .invokeinterface 140 520), (false, .aload 0), (false, .invokeinterface 139 516), (false, .aload 0), (false, .getfield 2060), (false, .ifCond .ne 61), (false, .return_), (false, .aload 0), (false, .getfield 2054), (false, .iconst 32), (false, .invokevirtual 250440), (false, .pop), (false, .aload 0), (false, .getfield 2050), (false, .aload 0), (false, .getfield 2058), (false, .aload 0), (false, .getfield 2060), (false, .iconst 1), (false, .isub), (false, .laload), (false, .invokeinterface 129 456), (false, .lstore 3), (false, .aload 0), (false, .getfield 2058), (false, .aload 0), (false, .getfield 2060), (false, .iconst 1), (false, .isub), (false, .aload 0), (false, .getfield 2050), (false, .aload 0), (false, .getfield 2058), (false, .aload 0), (false, .getfield 2060), (false, .iconst 1), (false, .isub), (false, .laload), (false, .invokeinterface 130 456), (false, .lastore), (false, .iinc 5 1), (false, .goto 11), (false, .return_)]
def oM_138 : List Nat := [0, 1, 4, 5, 8, 9, 10, 13, 14, 15, 16, 18, 20, 22, 25, 26, 29, 32, 34, 37, 38, 41, 44, 45, 48, 50, 53, 54, 57, 59, 62, 63, 64, 67, 68, 71, 72, 75, 76, 79, 80, 81, 82, 85, 86, 87, 90, 91, 94, 95, 98, 99, 102, 103, 104, 107, 108, 111, 112, 115, 118, 119, 120, 123, 125, 128, 129, 130, 133, 134, 137, 138, 141, 142, 143, 144, 147, 148, 149, 152, 153, 156, 157, 158, 159, 162, 163, 166, 167, 170, 171, 172, 173, 176, 177, 180, 183]
def hM_138 : mj_X := []
def cM_139 : mj_C := [(true, .aload 0), (false, .getfield 2060), (false, .ifCond .le 49), (false, .aload 0), (false, .getfield 2058), (false, .aload 0), (false, .getfield 2060), (false, .iconst 1), (false, .isub), (false, .laload), (false, .invokeinterface 150 5), (false, .ifCond .ne 49), (false, .aload 0), (false, .getfield 2054), (false, .invokevirtual 228932), (false, .iconst 120), (false, .if_icmp .ge 49), (false, .aload 0), (false, .dup), (false, .getfield 2060), (false, .iconst 1), (false, .isub), (false, .putfield 2060), (false, .aload 0), (false, .getfield 2058), (false, .aload 0), (false, .getfield 2060), (false, .laload), (false, .ldc2_w 0), (false, .lcmp), (false, .ifCond .eq 43), (false, .aload 0), (false, .getfield 2054), (false, .ldc 2010), (false, .invokevirtual 257608), (false, .pop), (false, .aload 0), (false, .aload 0), (false, .getfield 2058), (false, .aload 0), (false, .getfield 2060), (false, .laload), (false, .invokeinterface 140 520), (false, .aload 0), (false, .getfield 2054), (false, .iconst 41), (false, .invokevirtual 250440), (false, .pop), (false, .goto 0), (false, .return_)]
def oM_139 : List Nat := [0, 1, 4, 7, 8, 11, 12, 15, 16, 17, 18, 21, 24, 25, 28, 31, 33, 36, 37, 38, 41, 42, 43, 46, 47, 50, 51, 54, 55, 56, 57, 60, 61, 64, 66, 69, 70, 71, 72, 75, 76, 79, 80, 83, 84, 87, 89, 92, 93, 96]
def hM_139 : mj_X := []
def cM_140 : mj_C := [(false, .lload 1), (false, .invokeinterface 149 5), (false, .ifCond .eq 10), (false, .aload 0), (false, .getfield 2054), (false, .lload 1), (false, .invokeinterface 154 5), (false, .invokevirtual 253512), (false, .pop), (false, .goto 35), (false, .lload 1), (false, .invokeinterface 152 5), (false, .ifCond .eq 21), (false, .aload 0), (false, .getfield 2054), (false, .lload 1), (false, .invokeinterface 154 5), (false, .i2c), (false, .invokevirtual 250440), (false, .pop), (false, .goto 35), (false, .lload 1), (false, .invokeinterface 151 5), (false, .ifCond .eq 30), (false, .aload 0), (false, .getfield 2054), (false, .iconst 35), (false, .invokevirtual 250440), (false, .pop), (false, .goto 35), (false, .aload 0), (false, .getfield 2054), (false, .ldc 2011), (false, .invokevirtual 257608), (false, .pop), (false, .return_)]
def oM_140 : List Nat := [0, 1, 4, 7, 8, 11, 12, 15, 18, 19, 22, 23, 26, 29, 30, 33, 34, 37, 38, 41, 42, 45, 46, 49, 52, 53, 56, 58, 61, 62, 65, 66, 69, 71, 74, 75]
def hM_140 : mj_X := []
def cM_141 : mj_C := [(false, .iload 1), (false, .ifCond .lt 15), (false, .iload 1), (false, .iconst 120), (false, .if_icmp .ge 15), (false, .iload 1), (false, .aload 0), (false, .getfield 2054), (false, .invokevirtual 228932), (false, .if_icmp .ge 15), (false, .aload 0), (false, .getfield 2054), (false, .iload 1), (false, .invokevirtual 230984), (false, .goto 16), (false, .iconst (-1)), (false, .ireturn)]
def oM_141 : List Nat := [0, 1, 4, 5, 7, 10, 11, 12, 15, 18, 21, 22, 25, 26, 29, 32, 33]
def hM_141 : mj_X := []
def cM_142 : mj_C := [(false, .iload 0), (false, .ifCond .lt 10), (false, .iload 0), (false, .getstatic 1000), (false, .arraylength), (false, .if_icmp .ge 10), (false, .getstatic 1000), (false, .iload 0), (false, .iaload), (false, .goto 11), (false, .iconst 0), (false, .ireturn)]
def oM_142 : List Nat := [0, 1, 4, 5, 8, 9, 12, 15, 16, 17, 20, 21]
def hM_142 : mj_X := []
def cM_143 : mj_C := [(false, .iload 0), (false, .iconst 63), (false, .if_icmp .ne 5), (false, .iconst 8), (false, .ireturn), (false, .ldc 2012), (false, .iload 0), (false, .i2c), (false, .instanceof 234504), (false, .istore 1), (false, .iload 1), (false, .ifCond .ge 14), (false, .iconst (-1)), (false, .goto 17), (false, .iconst 10), (false, .iload 1), (false, .iadd), (false, .ireturn)]
def oM_143 : List Nat := [0, 1, 3, 6, 8, 9, 11, 12, 13, 16, 17, 18, 21, 22, 25, 27, 28, 29]
def hM_143 : mj_X := []
def cM_144 : mj_C := [(false, .iload 0), (false, .iconst 8), (false, .if_icmp .ne 5), (false, .iconst 3), (false, .ireturn), (false, .iload 0), (false, .iconst 12), (false, .if_icmp .gt 10), (false, .iconst 1), (false, .goto 11), (false, .iconst 2), (false, .ireturn)]
def oM_144 : List Nat := [0, 1, 3, 6, 7, 8, 9, 11, 14, 15, 18, 19]
def hM_144 : mj_X := []
def cM_145 : mj_C := [(false, .ldc2_w 4294967296), (false, .iload 0), (false, .i2l), (false, .ldc2_w 4294967295), (false, .land), (false, .lor), (false, .lreturn)]
def oM_145 : List Nat := [0, 3, 4, 5, 8, 9, 10]
def hM_145 : mj_X := []
def cM_146 : mj_C := [(false, .ldc2_w 8589934592), (false, .iload 0), (false, .i2l), (false, .ldc2_w 4294967295), (false, .land), (false, .lor), (false, .lreturn)]
def oM_146 : List Nat := [0, 3, 4, 5, 8, 9, 10]
def hM_146 : mj_X := []
def cM_147 : mj_C := [(false, .ldc2_w 12884901888), (false, .iload 0), (false, .i2l), (false, .ldc2_w 4294967295), (false, .land), (false, .lor), (false, .lreturn)]
def oM_147 : List Nat := [0, 3, 4, 5, 8, 9, 10]
def hM_147 : mj_X := []
def cM_148 : mj_C := [(false, .ldc2_w 17179869184), (false, .iload 0), (false, .i2l), (false, .ldc2_w 4294967295), (false, .land), (false, .lor), (false, .lreturn)]
def oM_148 : List Nat := [0, 3, 4, 5, 8, 9, 10]
def hM_148 : mj_X := []
def cM_149 : mj_C := [(false, .lload 0), (false, .iconst 32), (false, .lshr), (false, .ldc2_w 1), (false, .lcmp), (false, .ifCond .ne 8), (false, .iconst 1), (false, .goto 9), (false, .iconst 0), (false, .freturn)]
def oM_149 : List Nat := [0, 1, 3, 4, 5, 6, 9, 10, 13, 14]
def hM_149 : mj_X := []
def cM_150 : mj_C := [(false, .lload 0), (false, .iconst 32), (false, .lshr), (false, .ldc2_w 3), (false, .lcmp), (false, .ifCond .ne 8), (false, .iconst 1), (false, .goto 9), (false, .iconst 0), (false, .freturn)]
def oM_150 : List Nat := [0, 1, 3, 4, 7, 8, 11, 12, 15, 16]
def hM_150 : mj_X := []
def cM_151 : mj_C := [(false, .lload 0), (false, .iconst 32), (false, .lshr), (false, .ldc2_w 4), (false, .lcmp), (false, .ifCond .ne 8), (false, .iconst 1), (false, .goto 9), (false, .iconst 0), (false, .freturn)]
def oM_151 : List Nat := [0, 1, 3, 4, 7, 8, 11, 12, 15, 16]
def hM_151 : mj_X := []
def cM_152 : mj_C := [(false, .lload 0), (false, .iconst 32), (false, .lshr), (false, .ldc2_w 2), (false, .lcmp), (false, .ifCond .ne 8), (false, .iconst 1), (false, .goto 9), (false, .iconst 0), (false, .freturn)]
def oM_152 : List Nat := [0, 1, 3, 4, 7, 8, 11, 12, 15, 16]
def hM_152 : mj_X := []
def cM_153 : mj_C := [(false, .lload 0), (false, .iconst 32), (false, .lshr), (false, .ldc2_w 3), (false, .lcmp), (false, .ifCond .lt 9), (false, .lload 0), (false, .l2i), (false, .goto 10), (false, .iconst (-1)), (false, .ireturn)]
def oM_153 : List Nat := [0, 1, 3, 4, 7, 8, 11, 12, 13, 16, 17]
def hM_153 : mj_X := []
def cM_154 : mj_C := [(false, .lload 0), (false, .l2i), (false, .ireturn)]
def oM_154 : List Nat := [0, 1, 2]
def hM_154 : mj_X := []
def cM_155 : mj_C := [(false, .aload 0), (false, .monitorenter), (false, .aload 0), (false, .iconst 96), (false, .newarray .char), (false, .putfield 2574), (false, .aload 0), (false, .iconst (-1)), (false, .putfield 2580), (false, .aload 0), (false, .iconst 100), (false, .newarray .int), (false, .putfield 2590), (false, .aload 0), (false, .iconst 100), (false, .newarray .int), (false, .putfield 2594), (false, .aload 0), (false, .iconst 100), (false, .newarray .int), (false, .putfield 2598), (false, .aload 0), (false, .iconst 100), (false, .newarray .int), (false, .putfield 2602), (false, .aload 0), (false, .iconst 100), (false, .newarray .int), (false, .putfield 2606), (false, .aload 0), (false, .iconst 100), (false, .newarray .int), (false, .putfield 2610), (false, .aload 0), (false, .iconst 100), (false, .newarray .int), (false, .putfield 2614), (false, .aload 0), (false, .iconst 100), (false, .newarray .int), (false, .putfield 2618), (false, .aload 0), (false, .iconst 100), (false, .newarray .int), (false, .putfield 2622), (false, .aload 0), (false, .iconst 300), (false, .newarray .int), (false, .putfield 2626), (false, .aload 0), (false, .iconst 100), (false, .newarray .int), (false, .putfield 2630), (false, .aload 0), (false, .iconst 1200), (false, .newarray .int), (false, .putfield 2642), (false, .aload 0), (false, .iconst 1200), (false, .newarray .int), (false, .putfield 2646), (false, .aload 0), (false, .iconst 1200), (false, .newarray .int), (false, .putfield 2658), (false, .aload 0), (false, .iconst 1200), (false, .newarray .int), (false, .putfield 2662), (false, .aload 0), (false, .iconst 250), (false, .newarray .boolean), (false, .putfield 2666), (false, .aload 0), (false, .iconst 250), (false, .newarray .boolean), (false, .putfield 2670), (false, .aload 0), (false, .iconst 250), (false, .newarray .int), (false, .putfield 2674), (false, .aload 0), (false, .iconst 250), (false, .newarray .int), (false, .putfield 2678), (false, .aload 0), (false, .iconst 250), (false, .newarray .int), (false, .putfield 2682), (false, .aload 0), (false, .iconst 250), (false, .newarray .int), (false, .putfield 2686), (false, .aload 0), (false, .iconst 250), (false, .newarray .boolean), (false, .putfield 2690), (false, .aload 0), (false, .iconst 260), (false, .newarray .int), (false, .putfield 2698), (false, .aload 0), (false, .iconst 5), (false, .newarray .int), (false, .dup), (false, .iconst 0), (false, .iconst (-1)), (false, .iastore), (false, .dup), (false, .iconst 1), (false, .iconst (-1)), (false, .iastore), (false, .dup), (false, .iconst 2), (false, .iconst (-1)), (false, .iastore), (false, .dup), (false, .iconst 3), (false, .iconst (-1)), (false, .iastore), (false, .dup), (false, .iconst 4), (false, .iconst (-1)), (false, .iastore), (false, .putfield 2702), (false, .aload 0), (false, .iconst 120), (false, .newarray .char), (false, .putfield 2738), (false, .aload 0), (false, .iload 1), (false, .iconst 20), (false, .if_icmp .ge 135), (false, .iconst 20), (false, .goto 141), (false, .iload 1), (false, .iconst 250), (false, .if_icmp .le 140), (false, .iconst 250), (false, .goto 141), (false, .iload 1), (false, .putfield 2560), (false, .return_)]
def oM_155 : List Nat := [0, 1, 4, 5, 7, 9, 12, 13, 14, 17, 18, 20, 22, 25, 26, 28, 30, 33, 34, 36, 38, 41, 42, 44, 46, 49, 50, 52, 54, 57, 58, 60, 62, 65, 66, 68, 70, 73, 74, 76, 78, 81, 82, 84, 86, 89, 90, 93, 95, 98, 99, 101, 103, 106, 107, 110, 112, 115, 116, 119, 121, 124, 125, 128, 130, 133, 134, 137, 139, 142, 143, 146, 148, 151, 152, 155, 157, 160, 161, 164, 166, 169, 170, 173, 175, 178, 179, 182, 184, 187, 188, 191, 193, 196, 197, 200, 202, 205, 206, 209, 211, 214, 215, 216, 218, 219, 220, 221, 222, 223, 224, 225, 226, 227, 228, 229, 230, 231, 232, 233, 234, 235, 236, 237, 238, 241, 242, 244, 246, 249, 250, 251, 253, 256, 258, 261, 262, 265, 268, 271, 274, 275, 278]
def hM_155 : mj_X := []
def cM_156 : mj_C := [(false, .aload 0), (false, .iconst 0), (false, .putfield 2564), (false, .iconst 0), (false, .istore 3), (false, .iconst 56), (false, .istore 4), (true, .iload 4), (false, .ifCond .lt 39), (false, .lload 1), (false, .iload 4), (false, .lushr), (false, .ldc2_w 255), (false, .land), (false, .l2i), (false, .istore 5), (false, .iload 5), (false, .ifCond .eq 26), (false, .iload 5), (false, .iconst 32), (false, .if_icmp .lt 24), (false, .iload 5), (false, .iconst 126), (false, .if_icmp .le 26), (false, .iconst 0), (false, .freturn), (false, .iload 5), (false, .ifCond .eq 32), (false, .iload 3), (false, .iconst 1), (false, .iadd), (false, .goto 33), (false, .iload 3), (false, .istore 3), (false, .iload 4), (false, .iconst 8), (false, .isub), (false, .istore 4), (false, .goto 7), (false, .aload 0), (false, .getfield 2568), (false, .iload 3), (false, .iadd), (false, .iconst 96), (false, .if_icmp .le 47), (false, .iconst 0), (false, .freturn), (false, .iconst 56), (false, .istore 4), (true, .iload 4), (false, .ifCond .lt 78), (false, .lload 1), (false, .iload 4), (false, .lushr), (false, .ldc2_w 255), (false, .land), (false, .l2i), (false, .istore 5), (false, .iload 5), (false, .ifCond .eq 73), (false, .aload 0), (false, .getfield 2574), (false, .aload 0), (false, .getfield 2568), (false, .iload 5), (false, .i2c), (false, .castore), (false, .aload 0), (false, .dup), (false, .getfield 2568), (false, .iconst 1), (false, .iadd), (false, .putfield 2568), (false, .iload 4), (false, .iconst 8), (false, .isub), (false, .istore 4), (false, .goto 49), (false, .iconst 1), (false, .freturn)]
def oM_156 : List Nat := [0, 1, 2, 5, 6, 7, 9, 11, 13, 16, 17, 19, 20, 23, 24, 25, 27, 29, 32, 34, 36, 39, 41, 43, 46, 47, 48, 50, 53, 54, 55, 56, 59, 60, 61, 63, 65, 66, 68, 71, 72, 75, 76, 77, 79, 82, 83, 84, 86, 88, 90, 93, 94, 96, 97, 100, 101, 102, 104, 106, 109, 110, 113, 114, 117, 119, 120, 121, 122, 123, 126, 127, 128, 131, 133, 135, 136, 138, 141, 142]
def hM_156 : mj_X := []
def cM_157 : mj_C := [(false, .aload 0), (false, .getfield 2576), (false, .iload 1), (false, .iadd), (false, .aload 0), (false, .getfield 2568), (false, .if_icmp .ge 15), (false, .aload 0), (false, .getfield 2574), (false, .aload 0), (false, .getfield 2576), (false, .iload 1), (false, .iadd), (false, .caload), (false, .goto 16), (false, .iconst 0), (false, .dreturn)]
def oM_157 : List Nat := [0, 1, 4, 5, 6, 7, 10, 13, 14, 17, 18, 21, 22, 23, 24, 27, 28]
def hM_157 : mj_X := []
def cM_158 : mj_C := [(false, .aload 0), (false, .iconst 0), (false, .invokeinterface 157 648), (false, .iload 1), (false, .if_icmp .ne 7), (false, .iconst 1), (false, .goto 8), (false, .iconst 0), (false, .istore 2), (false, .aload 0), (false, .iload 2), (false, .ifCond .eq 17), (false, .aload 0), (false, .getfield 2576), (false, .iconst 1), (false, .iadd), (false, .goto 19), (false, .aload 0), (false, .getfield 2576), (false, .putfield 2576), (false, .iload 2), (false, .freturn)]
def oM_158 : List Nat := [0, 1, 2, 5, 6, 9, 10, 13, 14, 15, 16, 17, 20, 21, 24, 25, 26, 29, 30, 33, 36, 37]
def hM_158 : mj_X := []
def cM_159 : mj_C := [(false, .iload 0), (false, .iconst 48), (false, .if_icmp .lt 8), (false, .iload 0), (false, .iconst 57), (false, .if_icmp .gt 8), (false, .iconst 1), (false, .goto 9), (false, .iconst 0), (false, .freturn)]
def oM_159 : List Nat := [0, 1, 3, 6, 7, 9, 12, 13, 16, 17]
def hM_159 : mj_X := []
def cM_160 : mj_C := [(false, .iload 0), (false, .iconst 97), (false, .if_icmp .lt 8), (false, .iload 0), (false, .iconst 122), (false, .if_icmp .gt 8), (false, .iconst 1), (false, .goto 9), (false, .iconst 0), (false, .freturn)]
def oM_160 : List Nat := [0, 1, 3, 6, 7, 9, 12, 13, 16, 17]
def hM_160 : mj_X := []
def cM_161 : mj_C := [(false, .aload 0), (false, .iconst 0), (false, .invokeinterface 157 648), (false, .iconst 40), (false, .if_icmp .ne 9), (false, .aload 0), (false, .getfield 2632), (false, .iconst 9), (false, .if_icmp .ne 11), (false, .iconst 0), (false, .freturn), (false, .aload 0), (false, .dup), (false, .getfield 2632), (false, .iconst 1), (false, .iadd), (false, .putfield 2632), (false, .aload 0), (false, .dup), (false, .getfield 2576), (false, .iconst 1), (false, .iadd), (false, .putfield 2576), (false, .iconst 1), (false, .freturn)]
def oM_161 : List Nat := [0, 1, 2, 5, 7, 10, 11, 14, 16, 19, 20, 21, 22, 23, 26, 27, 28, 31, 32, 33, 36, 37, 38, 41, 42]
def hM_161 : mj_X := []
def cM_162 : mj_C := [(false, .aload 0), (false, .iconst 41), (false, .invokeinterface 158 648), (false, .istore 1), (false, .aload 0), (false, .iload 1), (false, .ifCond .eq 12), (false, .aload 0), (false, .getfield 2632), (false, .iconst 1), (false, .isub), (false, .goto 14), (false, .aload 0), (false, .getfield 2632), (false, .putfield 2632), (false, .iload 1), (false, .freturn)]
def oM_162 : List Nat := [0, 1, 3, 6, 7, 8, 9, 12, 13, 16, 17, 18, 21, 22, 25, 28, 29]
def hM_162 : mj_X := []
def cM_163 : mj_C := [(false, .aload 0), (false, .getfield 2584), (false, .istore 3), (false, .aload 0), (false, .dup), (false, .getfield 2584), (false, .iconst 1), (false, .iadd), (false, .putfield 2584), (false, .aload 0), (false, .getfield 2590), (false, .iload 3), (false, .iload 1), (false, .iastore), (false, .aload 0), (false, .getfield 2594), (false, .iload 3), (false, .aload 0), (false, .getfield 2576), (false, .iastore), (false, .aload 0), (false, .getfield 2598), (false, .iload 3), (false, .aload 0), (false, .getfield 2576), (false, .iastore), (false, .aload 0), (false, .getfield 2602), (false, .iload 3), (false, .iconst 0), (false, .iastore), (false, .aload 0), (false, .getfield 2606), (false, .iload 3), (false, .iload 2), (false, .iastore), (false, .aload 0), (false, .getfield 2610), (false, .iload 3), (false, .iconst (-1)), (false, .iastore), (false, .aload 0), (false, .getfield 2614), (false, .iload 3), (false, .iconst (-1)), (false, .iastore), (false, .aload 0), (false, .getfield 2618), (false, .iload 3), (false, .iconst (-1)), (false, .iastore), (false, .aload 0), (false, .getfield 2622), (false, .iload 3), (false, .iconst 0), (false, .iastore), (false, .aload 0), (false, .getfield 2630), (false, .iload 3), (false, .iconst 0), (false, .iastore), (false, .iload 2), (false, .ifCond .lt 95), (false, .aload 0), (false, .getfield 2610), (false, .iload 2), (false, .iaload), (false, .ifCond .ge 74), (false, .aload 0), (false, .getfield 2610), (false, .iload 2), (false, .iload 3), (false, .iastore), (false, .goto 82), (false, .aload 0), (false, .getfield 2618), (false, .aload 0), (false, .getfield 2614), (false, .iload 2), (false, .iaload), (false, .iload 3), (false, .iastore), (false, .aload 0), (false, .getfield 2614), (false, .iload 2), (false, .iload 3), (false, .iastore), (false, .aload 0), (false, .getfield 2622), (false, .iload 2), (false, .dup2), (false, .iaload), (false, .iconst 1), (false, .iadd), (false, .iastore), (false, .iload 3), (false, .ireturn)]
def oM_163 : List Nat := [0, 1, 4, 5, 6, 7, 10, 11, 12, 15, 16, 19, 20, 21, 22, 23, 26, 27, 28, 31, 32, 33, 36, 37, 38, 41, 42, 43, 46, 47, 48, 49, 50, 53, 54, 55, 56, 57, 60, 61, 62, 63, 64, 67, 68, 69, 70, 71, 74, 75, 76, 77, 78, 81, 82, 83, 84, 85, 88, 89, 90, 91, 92, 95, 96, 99, 100, 101, 104, 105, 108, 109, 110, 111, 114, 115, 118, 119, 122, 123, 124, 125, 126, 127, 130, 131, 132, 133, 134, 137, 138, 139, 140, 141, 142, 143, 144]
def hM_163 : mj_X := []
def cM_164 : mj_C := [(false, .aload 0), (false, .iconst 45), (false, .invokeinterface 158 648), (false, .istore 1), (false, .iconst 0), (false, .istore 2), (true, .iload 2), (false, .iconst 4), (false, .if_icmp .ge 22), (false, .aload 0), (false, .iconst 0), (false, .invokeinterface 157 648), (false, .invokeinterface 159 5), (false, .ifCond .eq 22), (false, .aload 0), (false, .dup), (false, .getfield 2576), (false, .iconst 1), (false, .iadd), (false, .putfield 2576), (false, .iinc 2 1), (false, .goto 6), (false, .iload 2), (false, .ifCond .le 28), (false, .iload 1), (false, .ifCond .ne 26), (false, .iconst 1), (false, .goto 29), (false, .iconst 0), (false, .freturn)]
def oM_164 : List Nat := [0, 1, 3, 6, 7, 8, 9, 10, 11, 14, 15, 16, 19, 22, 25, 26, 27, 30, 31, 32, 35, 38, 41, 42, 45, 46, 49, 50, 53, 54]
def hM_164 : mj_X := []
def cM_165 : mj_C := [(false, .aload 0), (false, .getfield 2574), (false, .iload 1), (false, .caload), (false, .iconst 45), (false, .if_icmp .ne 8), (false, .iconst 1), (false, .goto 9), (false, .iconst 0), (false, .istore 2), (false, .iload 2), (false, .ifCond .eq 16), (false, .iload 1), (false, .iconst 1), (false, .iadd), (false, .goto 17), (false, .iload 1), (false, .istore 3), (false, .iconst 0), (false, .istore 4), (false, .iconst 0), (false, .istore 5), (true, .iload 5), (false, .iconst 4), (false, .if_icmp .ge 49), (false, .iload 3), (false, .aload 0), (false, .getfield 2568), (false, .if_icmp .ge 49), (false, .aload 0), (false, .getfield 2574), (false, .iload 3), (false, .caload), (false, .invokeinterface 159 5), (false, .ifCond .eq 49), (false, .iconst 10), (false, .iload 4), (false, .imul), (false, .aload 0), (false, .getfield 2574), (false, .iload 3), (false, .caload), (false, .iadd), (false, .iconst 48), (false, .isub), (false, .istore 4), (false, .iinc 3 1), (false, .iinc 5 1), (false, .goto 22), (false, .iload 2), (false, .ifCond .eq 54), (false, .iload 4), (false, .ineg), (false, .goto 55), (false, .iload 4), (false, .ireturn)]
def oM_165 : List Nat := [0, 1, 4, 5, 6, 8, 11, 12, 15, 16, 17, 18, 21, 22, 23, 24, 27, 28, 29, 30, 32, 33, 35, 37, 38, 41, 42, 43, 46, 49, 50, 53, 54, 55, 58, 61, 63, 65, 66, 67, 70, 71, 72, 73, 75, 76, 78, 81, 84, 87, 88, 91, 93, 94, 97, 99]
def hM_165 : mj_X := []
def cM_166 : mj_C := [(false, .iconst 0), (false, .istore 1), (false, .iconst 0), (false, .istore 2), (true, .iload 2), (false, .iconst 100), (false, .if_icmp .ge 87), (false, .iconst 0), (false, .istore 3), (false, .aload 0), (false, .iconst 0), (false, .invokeinterface 157 648), (false, .iconst 40), (false, .if_icmp .ne 30), (false, .aload 0), (false, .invokeinterface 161 644), (false, .ifCond .ne 19), (false, .iconst 0), (false, .freturn), (false, .iinc 1 1), (false, .aload 0), (false, .iconst 0), (false, .invokeinterface 157 648), (false, .iconst 41), (false, .if_icmp .ne 27), (false, .iconst 1), (false, .goto 28), (false, .iconst 0), (false, .istore 3), (false, .goto 51), (false, .aload 0), (false, .iconst 0), (false, .invokeinterface 157 648), (false, .invokeinterface 160 5), (false, .ifCond .eq 44), (false, .aload 0), (false, .dup), (false, .getfield 2576), (false, .iconst 1), (false, .iadd), (false, .putfield 2576), (false, .iconst 1), (false, .istore 3), (false, .goto 51), (false, .aload 0), (false, .invokeinterface 164 644), (false, .ifCond .ne 49), (false, .iconst 0), (false, .freturn), (false, .iconst 1), (false, .istore 3), (true, .iload 3), (false, .ifCond .eq 85), (false, .iload 1), (false, .ifCond .ne 57), (false, .iconst 1), (false, .freturn), (false, .aload 0), (false, .iconst 0), (false, .invokeinterface 157 648), (false, .iconst 41), (false, .if_icmp .ne 76), (false, .aload 0), (false, .dup), (false, .getfield 2576), (false, .iconst 1), (false, .iadd), (false, .putfield 2576), (false, .aload 0), (false, .dup), (false, .getfield 2632), (false, .iconst 1), (false, .isub), (false, .putfield 2632), (false, .iinc 1 (-1)), (false, .goto 51), (false, .aload 0), (false, .iconst 32), (false, .invokeinterface 158 648), (false, .ifCond .ne 82), (false, .iconst 0), (false, .freturn), (false, .iconst 0), (false, .istore 3), (false, .goto 51), (false, .iinc 2 1), (false, .goto 4), (false, .iconst 0), (false, .freturn)]
def oM_166 : List Nat := [0, 1, 2, 3, 4, 5, 7, 10, 11, 12, 13, 14, 17, 19, 22, 23, 26, 29, 30, 31, 34, 35, 36, 39, 41, 44, 45, 48, 49, 50, 53, 54, 55, 58, 61, 64, 65, 66, 69, 70, 71, 74, 75, 76, 79, 80, 83, 86, 87, 88, 89, 90, 91, 94, 95, 98, 99, 100, 101, 102, 105, 107, 110, 111, 112, 115, 116, 117, 120, 121, 122, 125, 126, 127, 130, 133, 136, 137, 139, 142, 145, 146, 147, 148, 149, 152, 155, 158, 159]
def hM_166 : mj_X := []
def cM_167 : mj_C := [(false, .aload 0), (false, .iconst 32), (false, .invokeinterface 158 648), (false, .ifCond .eq 7), (false, .aload 0), (false, .invokeinterface 161 644), (false, .ifCond .ne 9), (false, .iconst 0), (false, .freturn), (false, .aload 0), (false, .iconst 0), (false, .invokeinterface 157 648), (false, .invokeinterface 160 5), (false, .ifCond .ne 25), (false, .aload 0), (false, .invokeinterface 162 644), (false, .ifCond .eq 23), (false, .aload 0), (false, .iconst 32), (false, .invokeinterface 158 648), (false, .ifCond .eq 23), (false, .iconst 1), (false, .goto 24), (false, .iconst 0), (false, .freturn), (false, .iconst 0), (false, .istore 2), (true, .iload 2), (false, .iconst 3), (false, .if_icmp .ge 124), (false, .aload 0), (false, .iconst 0), (false, .invokeinterface 157 648), (false, .istore 3), (false, .iload 3), (false, .invokeinterface 160 5), (false, .ifCond .eq 66), (false, .aload 0), (false, .getfield 2602), (false, .iload 1), (false, .iaload), (false, .ifCond .le 50), (false, .aload 0), (false, .getfield 2626), (false, .iconst 3), (false, .iload 1), (false, .imul), (false, .iaload), (false, .iload 3), (false, .if_icmp .eq 66), (false, .aload 0), (false, .getfield 2602), (false, .iload 1), (false, .iaload), (false, .iconst 1), (false, .if_icmp .le 68), (false, .aload 0), (false, .getfield 2626), (false, .iconst 3), (false, .iload 1), (false, .imul), (false, .iconst 1), (false, .iadd), (false, .iaload), (false, .iload 3), (false, .if_icmp .ne 68), (false, .iconst 0), (false, .freturn), (false, .aload 0), (false, .getfield 2626), (false, .iconst 3), (false, .iload 1), (false, .imul), (false, .aload 0), (false, .getfield 2602), (false, .iload 1), (false, .iaload), (false, .iadd), (false, .iload 3), (false, .iastore), (false, .aload 0), (false, .getfield 2602), (false, .iload 1), (false, .dup2), (false, .iaload), (false, .iconst 1), (false, .iadd), (false, .iastore), (false, .aload 0), (false, .dup), (false, .getfield 2576), (false, .iconst 1), (false, .iadd), (false, .putfield 2576), (false, .aload 0), (false, .iconst 0), (false, .invokeinterface 157 648), (false, .iconst 32), (false, .if_icmp .ne 105), (false, .aload 0), (false, .getfield 2602), (false, .iload 1), (false, .iaload), (false, .iconst 3), (false, .if_icmp .ne 116), (false, .aload 0), (false, .invokeinterface 162 644), (false, .ifCond .eq 114), (false, .aload 0), (false, .iconst 32), (false, .invokeinterface 158 648), (false, .ifCond .eq 114), (false, .iconst 1), (false, .goto 115), (false, .iconst 0), (false, .freturn), (false, .aload 0), (false, .dup), (false, .getfield 2576), (false, .iconst 1), (false, .iadd), (false, .putfield 2576), (false, .iinc 2 1), (false, .goto 27), (false, .iconst 0), (false, .freturn)]
def oM_167 : List Nat := [0, 1, 3, 6, 9, 10, 13, 16, 17, 18, 19, 20, 23, 26, 29, 30, 33, 36, 37, 39, 42, 45, 46, 49, 50, 51, 52, 53, 54, 55, 58, 59, 60, 63, 64, 65, 68, 71, 72, 75, 76, 77, 80, 81, 84, 85, 86, 87, 88, 89, 92, 93, 96, 97, 98, 99, 102, 103, 106, 107, 108, 109, 110, 111, 112, 113, 116, 117, 118, 119, 122, 123, 124, 125, 126, 129, 130, 131, 132, 133, 134, 135, 138, 139, 140, 141, 142, 143, 144, 145, 146, 149, 150, 151, 154, 155, 156, 159, 161, 164, 165, 168, 169, 170, 171, 174, 175, 178, 181, 182, 184, 187, 190, 191, 194, 195, 196, 197, 198, 201, 202, 203, 206, 209, 212, 213]
def hM_167 : mj_X := []
def cM_168 : mj_C := [(false, .iload 0), (false, .lookupswitch 8 #[(33, 4), (42, 2), (43, 2), (45, 2), (46, 2), (60, 2), (61, 2), (63, 6), (94, 4), (95, 4)]), (false, .iconst 2), (false, .ireturn), (false, .iconst 1), (false, .ireturn), (false, .iconst 3), (false, .ireturn), (false, .iconst 0), (false, .ireturn)]
def oM_168 : List Nat := [0, 1, 92, 93, 94, 95, 96, 97, 98, 99]
def hM_168 : mj_X := []
def cM_169 : mj_C := [(false, .aload 0), (false, .iconst 0), (false, .iload 1), (false, .invokeinterface 163 652), (false, .istore 2), (false, .aload 0), (false, .iconst 0), (false, .invokeinterface 157 648), (false, .istore 3), (false, .iload 3), (false, .invokeinterface 160 5), (false, .ifCond .eq 30), (false, .aload 0), (false, .getfield 2590), (false, .iload 2), (false, .iconst 1), (false, .iastore), (false, .aload 0), (false, .getfield 2602), (false, .iload 2), (false, .iload 3), (false, .iastore), (false, .aload 0), (false, .dup), (false, .getfield 2576), (false, .iconst 1), (false, .iadd), (false, .putfield 2576), (false, .iconst 0), (false, .ireturn), (false, .iload 3), (false, .iconst 39), (false, .if_icmp .ne 59), (false, .aload 0), (false, .getfield 2590), (false, .iload 2), (false, .iconst 2), (false, .iastore), (false, .aload 0), (false, .dup), (false, .getfield 2576), (false, .iconst 1), (false, .iadd), (false, .putfield 2576), (false, .aload 0), (false, .invokeinterface 166 644), (false, .istore 4), (false, .aload 0), (false, .getfield 2598), (false, .iload 2), (false, .aload 0), (false, .getfield 2576), (false, .iastore), (false, .iload 4), (false, .ifCond .eq 57), (false, .iconst 0), (false, .goto 58), (false, .iconst (-1)), (false, .ireturn), (false, .iload 3), (false, .iconst 40), (false, .if_icmp .eq 85), (false, .aload 0), (false, .invokeinterface 164 644), (false, .istore 4), (false, .aload 0), (false, .getfield 2602), (false, .iload 2), (false, .iload 4), (false, .ifCond .eq 77), (false, .aload 0), (false, .aload 0), (false, .getfield 2594), (false, .iload 2), (false, .iaload), (false, .invokeinterface 165 648), (false, .goto 78), (false, .iconst 0), (false, .iastore), (false, .iload 4), (false, .ifCond .eq 83), (false, .iconst 0), (false, .goto 84), (false, .iconst (-1)), (false, .ireturn), (false, .aload 0), (false, .invokeinterface 161 644), (false, .ifCond .ne 90), (false, .iconst (-1)), (false, .ireturn), (false, .aload 0), (false, .iconst 0), (false, .invokeinterface 157 648), (false, .istore 3), (false, .iload 3), (false, .invokeinterface 168 5), (false, .ifCond .le 129), (false, .iload 3), (false, .iconst 45), (false, .if_icmp .ne 105), (false, .aload 0), (false, .iconst 1), (false, .invokeinterface 157 648), (false, .invokeinterface 159 5), (false, .ifCond .ne 129), (false, .aload 0), (false, .getfield 2590), (false, .iload 2), (false, .iconst 3), (false, .iastore), (false, .aload 0), (false, .getfield 2602), (false, .iload 2), (false, .iload 3), (false, .iastore), (false, .aload 0), (false, .dup), (false, .getfield 2576), (false, .iconst 1), (false, .iadd), (false, .putfield 2576), (false, .aload 0), (false, .iconst 32), (false, .invokeinterface 158 648), (false, .ifCond .eq 127), (false, .iconst 1), (false, .goto 128), (false, .iconst (-1)), (false, .ireturn), (false, .iload 3), (false, .iconst 92), (false, .if_icmp .ne 151), (false, .aload 0), (false, .getfield 2590), (false, .iload 2), (false, .iconst 5), (false, .iastore), (false, .aload 0), (false, .dup), (false, .getfield 2576), (false, .iconst 1), (false, .iadd), (false, .putfield 2576), (false, .aload 0), (false, .iload 2), (false, .invokeinterface 167 648), (false, .ifCond .eq 149), (false, .iconst 1), (false, .goto 150), (false, .iconst (-1)), (false, .ireturn), (false, .iload 3), (false, .iconst 58), (false, .if_icmp .eq 157), (false, .iload 3), (false, .iconst 59), (false, .if_icmp .ne 181), (false, .aload 0), (false, .getfield 2590), (false, .iload 2), (false, .iload 3), (false, .iconst 58), (false, .if_icmp .ne 165), (false, .iconst 6), (false, .goto 166), (false, .iconst 7), (false, .iastore), (false, .aload 0), (false, .dup), (false, .getfield 2576), (false, .iconst 1), (false, .iadd), (false, .putfield 2576), (false, .aload 0), (false, .iconst 32), (false, .invokeinterface 158 648), (false, .ifCond .eq 179), (false, .iconst 1), (false, .goto 180), (false, .iconst (-1)), (false, .ireturn), (false, .aload 0), (false, .getfield 2590), (false, .iload 2), (false, .iconst 4), (false, .iastore), (false, .iconst 1), (false, .ireturn)]
def oM_169 : List Nat := [0, 1, 2, 3, 6, 7, 8, 9, 12, 13, 14, 17, 20, 21, 24, 25, 26, 27, 28, 31, 32, 33, 34, 35, 36, 39, 40, 41, 44, 45, 46, 47, 49, 52, 53, 56, 57, 58, 59, 60, 61, 64, 65, 66, 69, 70, 73, 75, 76, 79, 80, 81, 84, 85, 87, 90, 91, 94, 95, 96, 97, 99, 102, 103, 106, 108, 109, 112, 113, 115, 118, 119, 120, 123, 124, 125, 128, 131, 132, 133, 135, 138, 139, 142, 143, 144, 145, 148, 151, 152, 153, 154, 155, 158, 159, 160, 163, 166, 167, 169, 172, 173, 174, 177, 180, 183, 184, 187, 188, 189, 190, 191, 194, 195, 196, 197, 198, 199, 202, 203, 204, 207, 208, 210, 213, 216, 217, 220, 221, 222, 223, 225, 228, 229, 232, 233, 234, 235, 236, 237, 240, 241, 242, 245, 246, 247, 250, 253, 254, 257, 258, 259, 260, 262, 265, 266, 268, 271, 272, 275, 276, 277, 279, 282, 284, 287, 289, 290, 291, 292, 295, 296, 297, 300, 301, 303, 306, 309, 310, 313, 314, 315, 316, 319, 320, 321, 322, 323]
def hM_169 : mj_X := []
def cM_170 : mj_C := [(false, .aload 0), (false, .invokeinterface 161 644), (false, .ifCond .ne 5), (false, .iconst 0), (false, .freturn), (false, .aload 0), (false, .iconst 0), (false, .invokeinterface 157 648), (false, .istore 2), (false, .iload 2), (false, .invokeinterface 160 5), (false, .istore 3), (false, .aload 0), (false, .getfield 2618), (false, .aload 0), (false, .getfield 2610), (false, .iload 1), (false, .iaload), (false, .iaload), (false, .istore 4), (true, .iload 4), (false, .ifCond .lt 40), (false, .iload 3), (false, .ifCond .eq 32), (false, .aload 0), (false, .getfield 2630), (false, .iload 4), (false, .iaload), (false, .iload 2), (false, .if_icmp .eq 32), (false, .iconst 1), (false, .goto 33), (false, .iconst 0), (false, .istore 3), (false, .aload 0), (false, .getfield 2618), (false, .iload 4), (false, .iaload), (false, .istore 4), (false, .goto 20), (false, .iload 3), (false, .ifCond .ne 44), (false, .iconst 0), (false, .freturn), (false, .aload 0), (false, .getfield 2626), (false, .iconst 3), (false, .iload 1), (false, .imul), (false, .iload 2), (false, .iastore), (false, .aload 0), (false, .dup), (false, .getfield 2576), (false, .iconst 1), (false, .iadd), (false, .putfield 2576), (false, .aload 0), (false, .iconst 32), (false, .invokeinterface 158 648), (false, .ifCond .ne 63), (false, .iconst 0), (false, .freturn), (false, .aload 0), (false, .getfield 2590), (false, .iload 1), (false, .iaload), (false, .iconst 7), (false, .if_icmp .ne 91), (false, .aload 0), (false, .iconst 0), (false, .invokeinterface 157 648), (false, .iconst 40), (false, .if_icmp .ne 91), (false, .aload 0), (false, .getfield 2632), (false, .iconst 9), (false, .if_icmp .ge 91), (false, .aload 0), (false, .iconst 1), (false, .invokeinterface 157 648), (false, .iconst 92), (false, .if_icmp .eq 91), (false, .aload 0), (false, .dup), (false, .getfield 2576), (false, .iconst 1), (false, .iadd), (false, .putfield 2576), (false, .iconst 0), (false, .freturn), (false, .aload 0), (false, .getfield 2590), (false, .iload 1), (false, .iaload), (false, .iconst 6), (false, .if_icmp .eq 106), (false, .aload 0), (false, .iconst 0), (false, .invokeinterface 157 648), (false, .iconst 40), (false, .if_icmp .ne 108), (false, .aload 0), (false, .getfield 2632), (false, .iconst 9), (false, .if_icmp .ge 108), (false, .iconst 1), (false, .goto 109), (false, .iconst 0), (false, .freturn)]
def oM_170 : List Nat := [0, 1, 4, 7, 8, 9, 10, 11, 14, 15, 16, 19, 20, 21, 24, 25, 28, 29, 30, 31, 33, 35, 38, 39, 42, 43, 46, 48, 49, 50, 53, 54, 57, 58, 59, 60, 63, 65, 66, 68, 71, 72, 75, 76, 77, 78, 81, 82, 83, 84, 85, 86, 87, 88, 91, 92, 93, 96, 97, 99, 102, 105, 106, 107, 108, 111, 112, 113, 115, 118, 119, 120, 123, 125, 128, 129, 132, 134, 137, 138, 139, 142, 144, 147, 148, 149, 152, 153, 154, 157, 158, 159, 160, 163, 164, 165, 167, 170, 171, 172, 175, 177, 180, 181, 184, 186, 189, 190, 193, 194]
def hM_170 : mj_X := []
def cM_171 : mj_C := [(false, .aload 0), (false, .getfield 2590), (false, .iload 1), (false, .iaload), (false, .iconst 3), (false, .if_icmp .ne 25), (false, .aload 0), (false, .getfield 2622), (false, .iload 1), (false, .iaload), (false, .aload 0), (false, .getfield 2602), (false, .iload 1), (false, .iaload), (false, .i2c), (false, .invokeinterface 168 5), (false, .if_icmp .ge 25), (false, .aload 0), (false, .iconst 32), (false, .invokeinterface 158 648), (false, .ifCond .eq 23), (false, .iconst 1), (false, .goto 24), (false, .iconst (-1)), (false, .ireturn), (false, .aload 0), (false, .getfield 2590), (false, .iload 1), (false, .iaload), (false, .iconst 4), (false, .if_icmp .ne 43), (false, .aload 0), (false, .getfield 2622), (false, .iload 1), (false, .iaload), (false, .iconst 4), (false, .if_icmp .ge 43), (false, .aload 0), (false, .iconst 32), (false, .invokeinterface 158 648), (false, .ifCond .eq 43), (false, .iconst 1), (false, .ireturn), (false, .aload 0), (false, .getfield 2590), (false, .iload 1), (false, .iaload), (false, .iconst 6), (false, .if_icmp .eq 55), (false, .aload 0), (false, .getfield 2590), (false, .iload 1), (false, .iaload), (false, .iconst 7), (false, .if_icmp .ne 108), (false, .aload 0), (false, .getfield 2622), (false, .iload 1), (false, .iaload), (false, .iconst 1), (false, .if_icmp .le 79), (false, .aload 0), (false, .getfield 2630), (false, .aload 0), (false, .getfield 2614), (false, .iload 1), (false, .iaload), (false, .aload 0), (false, .getfield 2626), (false, .iconst 3), (false, .iload 1), (false, .imul), (false, .iaload), (false, .iastore), (false, .aload 0), (false, .invokeinterface 162 644), (false, .ifCond .ne 79), (false, .iconst (-1)), (false, .ireturn), (false, .aload 0), (false, .getfield 2622), (false, .iload 1), (false, .iaload), (false, .iconst 1), (false, .if_icmp .eq 96), (false, .aload 0), (false, .getfield 2622), (false, .iload 1), (false, .iaload), (false, .iconst 4), (false, .if_icmp .ge 108), (false, .aload 0), (false, .iconst 0), (false, .invokeinterface 157 648), (false, .iconst 32), (false, .if_icmp .ne 108), (false, .aload 0), (false, .iconst 32), (false, .invokeinterface 158 648), (false, .ifCond .eq 106), (false, .aload 0), (false, .iload 1), (false, .invokeinterface 170 648), (false, .ifCond .eq 106), (false, .iconst 1), (false, .goto 107), (false, .iconst (-1)), (false, .ireturn), (false, .aload 0), (false, .invokeinterface 162 644), (false, .ifCond .eq 113), (false, .iconst 0), (false, .goto 114), (false, .iconst (-1)), (false, .ireturn)]
def oM_171 : List Nat := [0, 1, 4, 5, 6, 7, 10, 11, 14, 15, 16, 17, 20, 21, 22, 23, 26, 29, 30, 32, 35, 38, 39, 42, 43, 44, 45, 48, 49, 50, 51, 54, 55, 58, 59, 60, 61, 64, 65, 67, 70, 73, 74, 75, 76, 79, 80, 81, 83, 86, 87, 90, 91, 92, 94, 97, 98, 101, 102, 103, 104, 107, 108, 111, 112, 115, 116, 117, 118, 121, 122, 123, 124, 125, 126, 127, 130, 133, 134, 135, 136, 139, 140, 141, 142, 145, 146, 149, 150, 151, 152, 155, 156, 157, 160, 162, 165, 166, 168, 171, 174, 175, 176, 179, 182, 183, 186, 187, 188, 189, 192, 195, 196, 199, 200]
def hM_171 : mj_X := []
def cM_172 : mj_C := [(false, .aload 0), (false, .iconst 0), (false, .putfield 2576), (false, .aload 0), (false, .iconst 0), (false, .putfield 2584), (false, .aload 0), (false, .iconst 0), (false, .putfield 2632), (false, .iconst (-1)), (false, .istore 1), (false, .iconst 0), (false, .istore 2), (true, .iload 2), (false, .iconst 100), (false, .if_icmp .ge 68), (false, .aload 0), (false, .getfield 2584), (false, .istore 3), (false, .aload 0), (false, .iload 1), (false, .invokeinterface 169 648), (false, .istore 4), (false, .iload 4), (false, .ifCond .ge 27), (false, .iconst 0), (false, .freturn), (false, .iload 4), (false, .iconst 1), (false, .if_icmp .ne 33), (false, .iload 3), (false, .istore 1), (false, .goto 66), (false, .iconst 0), (false, .istore 5), (true, .iload 5), (false, .ifCond .ne 66), (false, .iload 1), (false, .ifCond .ge 48), (false, .aload 0), (false, .getfield 2576), (false, .aload 0), (false, .getfield 2568), (false, .if_icmp .ne 46), (false, .iconst 1), (false, .goto 47), (false, .iconst 0), (false, .freturn), (false, .aload 0), (false, .iload 1), (false, .invokeinterface 171 648), (false, .istore 5), (false, .iload 5), (false, .ifCond .ge 56), (false, .iconst 0), (false, .freturn), (false, .iload 5), (false, .ifCond .ne 63), (false, .aload 0), (false, .getfield 2606), (false, .iload 1), (false, .iaload), (false, .goto 64), (false, .iload 1), (false, .istore 1), (false, .goto 35), (false, .iinc 2 1), (false, .goto 13), (false, .iconst 0), (false, .freturn)]
def oM_172 : List Nat := [0, 1, 2, 5, 6, 7, 10, 11, 12, 15, 16, 17, 18, 19, 20, 22, 25, 26, 29, 30, 31, 32, 35, 37, 39, 42, 43, 44, 46, 47, 50, 51, 52, 55, 56, 58, 60, 63, 64, 67, 68, 71, 72, 75, 78, 79, 82, 83, 84, 85, 86, 89, 91, 93, 96, 97, 98, 100, 103, 104, 107, 108, 109, 112, 113, 114, 117, 120, 123, 124]
def hM_172 : mj_X := []
def cM_173 : mj_C := [(false, .aload 0), (false, .getfield 2590), (false, .iload 1), (false, .iaload), (false, .iconst 5), (false, .if_icmp .ne 30), (false, .iconst 0), (false, .istore 3), (true, .iload 3), (false, .aload 0), (false, .getfield 2602), (false, .iload 1), (false, .iaload), (false, .if_icmp .ge 28), (false, .aload 0), (false, .getfield 2626), (false, .iconst 3), (false, .iload 1), (false, .imul), (false, .iload 3), (false, .iadd), (false, .iaload), (false, .iload 2), (false, .if_icmp .ne 26), (false, .iload 3), (false, .ireturn), (false, .iinc 3 1), (false, .goto 8), (false, .iconst (-1)), (false, .ireturn), (false, .iconst 0), (false, .istore 3), (false, .aload 0), (false, .getfield 2618), (false, .aload 0), (false, .getfield 2610), (false, .iload 1), (false, .iaload), (false, .iaload), (false, .istore 4), (true, .iload 4), (false, .ifCond .lt 57), (false, .aload 0), (false, .getfield 2630), (false, .iload 4), (false, .iaload), (false, .iload 2), (false, .if_icmp .ne 50), (false, .iload 3), (false, .ireturn), (false, .iinc 3 1), (false, .aload 0), (false, .getfield 2618), (false, .iload 4), (false, .iaload), (false, .istore 4), (false, .goto 40), (false, .iconst (-1)), (false, .ireturn)]
def oM_173 : List Nat := [0, 1, 4, 5, 6, 7, 10, 11, 12, 13, 14, 17, 18, 19, 22, 23, 26, 27, 28, 29, 30, 31, 32, 33, 36, 37, 38, 41, 44, 45, 46, 47, 48, 49, 52, 53, 56, 57, 58, 59, 61, 63, 66, 67, 70, 72, 73, 74, 77, 78, 79, 82, 83, 86, 88, 89, 91, 94, 95]
def hM_173 : mj_X := []
def cM_174 : mj_C := [(false, .iconst 0), (false, .istore 2), (false, .iload 1), (false, .istore 3), (false, .aload 0), (false, .getfield 2606), (false, .iload 1), (false, .iaload), (false, .istore 4), (true, .iload 4), (false, .ifCond .lt 75), (false, .aload 0), (false, .getfield 2590), (false, .iload 4), (false, .iaload), (false, .iconst 5), (false, .if_icmp .eq 35), (false, .aload 0), (false, .getfield 2590), (false, .iload 4), (false, .iaload), (false, .iconst 7), (false, .if_icmp .eq 35), (false, .aload 0), (false, .getfield 2590), (false, .iload 4), (false, .iaload), (false, .iconst 6), (false, .if_icmp .ne 37), (false, .iload 3), (false, .aload 0), (false, .getfield 2610), (false, .iload 4), (false, .iaload), (false, .if_icmp .ne 37), (false, .iconst 1), (false, .goto 38), (false, .iconst 0), (false, .istore 5), (false, .iload 5), (false, .ifCond .eq 49), (false, .aload 0), (false, .iload 4), (false, .aload 0), (false, .getfield 2602), (false, .iload 1), (false, .iaload), (false, .invokeinterface 173 652), (false, .goto 50), (false, .iconst (-1)), (false, .istore 6), (false, .iload 6), (false, .ifCond .lt 59), (false, .iconst 16), (false, .iload 2), (false, .imul), (false, .iload 6), (false, .iadd), (false, .ireturn), (false, .iload 5), (false, .ifCond .eq 65), (false, .iload 2), (false, .iconst 1), (false, .iadd), (false, .goto 66), (false, .iload 2), (false, .istore 2), (false, .iload 4), (false, .istore 3), (false, .aload 0), (false, .getfield 2606), (false, .iload 4), (false, .iaload), (false, .istore 4), (false, .goto 9), (false, .iconst (-1)), (false, .ireturn)]
def oM_174 : List Nat := [0, 1, 2, 3, 4, 5, 8, 9, 10, 12, 14, 17, 18, 21, 23, 24, 25, 28, 29, 32, 34, 35, 37, 40, 41, 44, 46, 47, 49, 52, 53, 54, 57, 59, 60, 63, 64, 67, 68, 70, 72, 75, 76, 78, 79, 82, 83, 84, 87, 90, 91, 93, 95, 98, 100, 101, 102, 104, 105, 106, 108, 111, 112, 113, 114, 117, 118, 119, 121, 122, 123, 126, 128, 129, 131, 134, 135]
def hM_174 : mj_X := []
def cM_175 : mj_C := [(false, .iconst 0), (false, .istore 1), (true, .iload 1), (false, .aload 0), (false, .getfield 2584), (false, .if_icmp .ge 23), (false, .aload 0), (false, .getfield 2590), (false, .iload 1), (false, .iaload), (false, .iconst 1), (false, .if_icmp .ne 21), (false, .aload 0), (false, .iload 1), (false, .invokeinterface 174 648), (false, .ifCond .ge 21), (false, .aload 0), (false, .getfield 2594), (false, .iload 1), (false, .iaload), (false, .ireturn), (false, .iinc 1 1), (false, .goto 2), (false, .iconst (-1)), (false, .ireturn)]
def oM_175 : List Nat := [0, 1, 2, 3, 4, 7, 10, 11, 14, 15, 16, 17, 20, 21, 22, 25, 28, 29, 32, 33, 34, 35, 38, 41, 42]
def hM_175 : mj_X := []
def cM_176 : mj_C := [(false, .aload 0), (false, .getfield 2642), (false, .aload 0), (false, .getfield 2636), (false, .iload 1), (false, .iastore), (false, .aload 0), (false, .getfield 2646), (false, .aload 0), (false, .getfield 2636), (false, .iload 2), (false, .iastore), (false, .aload 0), (false, .dup), (false, .getfield 2636), (false, .iconst 1), (false, .iadd), (false, .putfield 2636), (false, .aload 0), (false, .iload 1), (false, .iconst 5), (false, .if_icmp .ne 25), (false, .aload 0), (false, .getfield 2648), (false, .goto 29), (false, .aload 0), (false, .getfield 2648), (false, .iconst 1), (false, .iadd), (false, .putfield 2648), (false, .return_)]
def oM_176 : List Nat := [0, 1, 4, 5, 8, 9, 10, 11, 14, 15, 18, 19, 20, 21, 22, 25, 26, 27, 30, 31, 32, 33, 36, 37, 40, 43, 44, 47, 48, 49, 52]
def hM_176 : mj_X := []
def cM_177 : mj_C := [(false, .aload 0), (false, .getfield 2658), (false, .aload 0), (false, .getfield 2652), (false, .iload 1), (false, .iastore), (false, .aload 0), (false, .getfield 2662), (false, .aload 0), (false, .getfield 2652), (false, .iload 2), (false, .iastore), (false, .aload 0), (false, .dup), (false, .getfield 2652), (false, .iconst 1), (false, .iadd), (false, .putfield 2652), (false, .return_)]
def oM_177 : List Nat := [0, 1, 4, 5, 8, 9, 10, 11, 14, 15, 18, 19, 20, 21, 22, 25, 26, 27, 30]
def hM_177 : mj_X := []
def cM_178 : mj_C := [(false, .aload 0), (false, .getfield 2594), (false, .iload 1), (false, .iaload), (false, .iconst 1), (false, .iadd), (false, .istore 2), (true, .iload 2), (false, .aload 0), (false, .getfield 2598), (false, .iload 1), (false, .iaload), (false, .if_icmp .ge 72), (false, .aload 0), (false, .getfield 2574), (false, .iload 2), (false, .caload), (false, .istore 3), (false, .iload 3), (false, .iconst 40), (false, .if_icmp .ne 27), (false, .aload 0), (false, .iconst 4), (false, .iconst 0), (false, .invokeinterface 176 652), (false, .iinc 2 1), (false, .goto 71), (false, .iload 3), (false, .iconst 41), (false, .if_icmp .ne 36), (false, .aload 0), (false, .iconst 5), (false, .iconst 0), (false, .invokeinterface 176 652), (false, .iinc 2 1), (false, .goto 71), (false, .iload 3), (false, .invokeinterface 160 5), (false, .ifCond .eq 45), (false, .aload 0), (false, .iconst 2), (false, .iload 3), (false, .invokeinterface 176 652), (false, .iinc 2 1), (false, .goto 71), (false, .iload 3), (false, .iconst 32), (false, .if_icmp .ne 50), (false, .iinc 2 1), (false, .goto 71), (false, .aload 0), (false, .iconst 1), (false, .aload 0), (false, .iload 2), (false, .invokeinterface 165 648), (false, .invokeinterface 176 652), (false, .iinc 2 1), (true, .iload 2), (false, .aload 0), (false, .getfield 2598), (false, .iload 1), (false, .iaload), (false, .if_icmp .ge 71), (false, .aload 0), (false, .getfield 2574), (false, .iload 2), (false, .caload), (false, .invokeinterface 159 5), (false, .ifCond .eq 71), (false, .iinc 2 1), (false, .goto 57), (false, .goto 7), (false, .return_)]
def oM_178 : List Nat := [0, 1, 4, 5, 6, 7, 8, 9, 10, 11, 14, 15, 16, 19, 20, 23, 24, 25, 26, 27, 29, 32, 33, 34, 35, 38, 41, 44, 45, 47, 50, 51, 52, 53, 56, 59, 62, 63, 66, 69, 70, 71, 72, 75, 78, 81, 82, 84, 87, 90, 93, 94, 95, 96, 97, 100, 103, 106, 107, 108, 111, 112, 113, 116, 117, 120, 121, 122, 125, 128, 131, 134, 137]
def hM_178 : mj_X := []
def cM_179 : mj_C := [(false, .iload 0), (false, .lookupswitch 18 #[(33, 6), (42, 16), (43, 12), (45, 14), (46, 8), (61, 10), (94, 2), (95, 4)]), (false, .iconst 10), (false, .ireturn), (false, .iconst 11), (false, .ireturn), (false, .iconst 12), (false, .ireturn), (false, .iconst 13), (false, .ireturn), (false, .iconst 14), (false, .ireturn), (false, .iconst 15), (false, .ireturn), (false, .iconst 16), (false, .ireturn), (false, .iconst 17), (false, .ireturn), (false, .iconst 18), (false, .ireturn)]
def oM_179 : List Nat := [0, 1, 76, 78, 79, 81, 82, 84, 85, 87, 88, 90, 91, 93, 94, 96, 97, 99, 100, 102]
def hM_179 : mj_X := []
def cM_180 : mj_C := [(false, .aload 0), (false, .iconst 5), (false, .iconst 0), (false, .invokeinterface 177 652), (false, .aload 0), (false, .iconst 1), (false, .iload 2), (false, .invokeinterface 177 652), (false, .aload 0), (false, .iconst (-1)), (false, .iload 1), (false, .invokeinterface 177 652), (false, .aload 0), (false, .iconst 4), (false, .iconst 0), (false, .invokeinterface 177 652), (false, .return_)]
def oM_180 : List Nat := [0, 1, 2, 3, 6, 7, 8, 9, 12, 13, 14, 15, 18, 19, 20, 21, 24]
def hM_180 : mj_X := []
def cM_181 : mj_C := [(false, .iload 1), (false, .istore 2), (true, .iload 2), (false, .ifCond .lt 18), (false, .aload 0), (false, .iconst 1), (false, .iconst 13), (false, .invokeinterface 177 652), (false, .aload 0), (false, .iconst (-1)), (false, .iload 2), (false, .invokeinterface 177 652), (false, .aload 0), (false, .getfield 2618), (false, .iload 2), (false, .iaload), (false, .istore 2), (false, .goto 2), (false, .aload 0), (false, .iconst 0), (false, .iconst 0), (false, .invokeinterface 177 652), (false, .aload 0), (false, .iconst 1), (false, .iconst 1), (false, .invokeinterface 177 652), (false, .return_)]
def oM_181 : List Nat := [0, 1, 2, 3, 6, 7, 8, 10, 13, 14, 15, 16, 19, 20, 23, 24, 25, 26, 29, 30, 31, 32, 35, 36, 37, 38, 41]
def hM_181 : mj_X := []
def cM_182 : mj_C := [(false, .aload 0), (false, .getfield 2610), (false, .iload 1), (false, .iaload), (false, .istore 2), (false, .aload 0), (false, .getfield 2590), (false, .iload 1), (false, .iaload), (false, .lookupswitch 102 #[(0, 10), (1, 22), (2, 33), (3, 102), (4, 41), (5, 56), (6, 65), (7, 65)]), (false, .aload 0), (false, .iconst 1), (false, .iconst 1), (false, .invokeinterface 176 652), (false, .aload 0), (false, .iconst 1), (false, .aload 0), (false, .getfield 2602), (false, .iload 1), (false, .iaload), (false, .invokeinterface 176 652), (false, .goto 106), (false, .aload 0), (false, .iconst 1), (false, .iconst 2), (false, .invokeinterface 176 652), (false, .aload 0), (false, .iconst 1), (false, .aload 0), (false, .iload 1), (false, .invokeinterface 174 648), (false, .invokeinterface 176 652), (false, .goto 106), (false, .aload 0), (false, .iconst 1), (false, .iconst 1), (false, .invokeinterface 176 652), (false, .aload 0), (false, .iload 1), (false, .invokeinterface 178 648), (false, .goto 106), (false, .aload 0), (false, .iconst 1), (false, .iconst 4), (false, .invokeinterface 177 652), (false, .aload 0), (false, .iconst (-1)), (false, .iload 2), (false, .invokeinterface 177 652), (false, .aload 0), (false, .aload 0), (false, .getfield 2618), (false, .iload 2), (false, .iaload), (false, .invokeinterface 181 648), (false, .goto 106), (false, .aload 0), (false, .iload 2), (false, .iconst 5), (false, .invokeinterface 180 652), (false, .aload 0), (false, .iconst 1), (false, .iconst 3), (false, .invokeinterface 177 652), (false, .goto 106), (false, .aload 0), (false, .iconst 1), (false, .aload 0), (false, .getfield 2590), (false, .iload 1), (false, .iaload), (false, .iconst 6), (false, .if_icmp .ne 75), (false, .iconst 4), (false, .goto 76), (false, .iconst 7), (false, .invokeinterface 177 652), (false, .aload 0), (false, .iload 2), (false, .iconst 5), (false, .invokeinterface 180 652), (false, .aload 0), (false, .iconst 1), (false, .iconst 3), (false, .invokeinterface 177 652), (false, .aload 0), (false, .aload 0), (false, .getfield 2618), (false, .iload 2), (false, .iaload), (false, .invokeinterface 181 648), (false, .aload 0), (false, .getfield 2590), (false, .iload 1), (false, .iaload), (false, .iconst 7), (false, .if_icmp .ne 106), (false, .aload 0), (false, .iconst 1), (false, .iconst 6), (false, .invokeinterface 177 652), (false, .goto 106), (false, .aload 0), (false, .iload 1), (false, .iload 2), (false, .invokeinterface 183 652), (false, .return_)]
def oM_182 : List Nat := [0, 1, 4, 5, 6, 7, 8, 11, 12, 13, 60, 61, 62, 63, 66, 67, 68, 69, 72, 73, 74, 77, 80, 81, 82, 83, 86, 87, 88, 89, 90, 93, 96, 99, 100, 101, 102, 105, 106, 107, 110, 113, 114, 115, 116, 119, 120, 121, 122, 125, 126, 127, 130, 131, 132, 135, 138, 139, 140, 141, 144, 145, 146, 147, 150, 153, 154, 155, 156, 159, 160, 161, 163, 166, 167, 170, 172, 175, 176, 177, 178, 181, 182, 183, 184, 187, 188, 189, 192, 193, 194, 197, 198, 201, 202, 203, 205, 208, 209, 210, 212, 215, 218, 219, 220, 221, 224]
def hM_182 : mj_X := []
def cM_183 : mj_C := [(false, .aload 0), (false, .getfield 2618), (false, .iload 2), (false, .iaload), (false, .istore 3), (false, .aload 0), (false, .getfield 2602), (false, .iload 1), (false, .iaload), (false, .iconst 63), (false, .if_icmp .ne 31), (false, .aload 0), (false, .aload 0), (false, .getfield 2618), (false, .iload 3), (false, .iaload), (false, .iconst 9), (false, .invokeinterface 180 652), (false, .aload 0), (false, .iload 3), (false, .iconst 9), (false, .invokeinterface 180 652), (false, .aload 0), (false, .iconst 1), (false, .iconst 8), (false, .invokeinterface 177 652), (false, .aload 0), (false, .iconst (-1)), (false, .iload 2), (false, .invokeinterface 177 652), (false, .return_), (false, .aload 0), (false, .iconst 1), (false, .aload 0), (false, .getfield 2602), (false, .iload 1), (false, .iaload), (false, .invokeinterface 179 5), (false, .invokeinterface 177 652), (false, .aload 0), (false, .getfield 2602), (false, .iload 1), (false, .iaload), (false, .iconst 46), (false, .if_icmp .ne 54), (false, .aload 0), (false, .iconst (-1)), (false, .iload 2), (false, .invokeinterface 177 652), (false, .aload 0), (false, .iconst (-1)), (false, .iload 3), (false, .invokeinterface 177 652), (false, .goto 64), (false, .iload 3), (false, .ifCond .lt 60), (false, .aload 0), (false, .iconst (-1)), (false, .iload 3), (false, .invokeinterface 177 652), (false, .aload 0), (false, .iconst (-1)), (false, .iload 2), (false, .invokeinterface 177 652), (false, .return_)]
def oM_183 : List Nat := [0, 1, 4, 5, 6, 7, 8, 11, 12, 13, 15, 18, 19, 20, 23, 24, 25, 27, 30, 31, 32, 34, 37, 38, 39, 41, 44, 45, 46, 47, 50, 51, 52, 53, 54, 57, 58, 59, 62, 65, 66, 69, 70, 71, 73, 76, 77, 78, 79, 82, 83, 84, 85, 88, 91, 92, 95, 96, 97, 98, 101, 102, 103, 104, 107]
def hM_183 : mj_X := []
def cM_184 : mj_C := [(false, .aload 0), (false, .iconst 0), (false, .putfield 2636), (false, .aload 0), (false, .iconst 0), (false, .putfield 2648), (false, .aload 0), (false, .iconst 0), (false, .putfield 2652), (false, .aload 0), (false, .iconst 1), (false, .iconst 19), (false, .invokeinterface 177 652), (false, .aload 0), (false, .iconst (-1)), (false, .iconst 0), (false, .invokeinterface 177 652), (true, .aload 0), (false, .getfield 2652), (false, .ifCond .le 53), (false, .aload 0), (false, .dup), (false, .getfield 2652), (false, .iconst 1), (false, .isub), (false, .putfield 2652), (false, .aload 0), (false, .getfield 2658), (false, .aload 0), (false, .getfield 2652), (false, .iaload), (false, .ifCond .ge 40), (false, .aload 0), (false, .aload 0), (false, .getfield 2662), (false, .aload 0), (false, .getfield 2652), (false, .iaload), (false, .invokeinterface 182 648), (false, .goto 17), (false, .aload 0), (false, .aload 0), (false, .getfield 2658), (false, .aload 0), (false, .getfield 2652), (false, .iaload), (false, .aload 0), (false, .getfield 2662), (false, .aload 0), (false, .getfield 2652), (false, .iaload), (false, .invokeinterface 176 652), (false, .goto 17), (false, .return_)]
def oM_184 : List Nat := [0, 1, 2, 5, 6, 7, 10, 11, 12, 15, 16, 17, 19, 22, 23, 24, 25, 28, 29, 32, 35, 36, 37, 40, 41, 42, 45, 46, 49, 50, 53, 54, 57, 58, 59, 62, 63, 66, 67, 70, 73, 74, 75, 78, 79, 82, 83, 84, 87, 88, 91, 92, 95, 98]
def hM_184 : mj_X := []
def cM_185 : mj_C := [(false, .iconst 0), (false, .istore 1), (false, .iconst 0), (false, .istore 2), (true, .iload 2), (false, .aload 0), (false, .getfield 2560), (false, .if_icmp .ge 21), (false, .aload 0), (false, .getfield 2666), (false, .iload 2), (false, .baload), (false, .ifCond .eq 15), (false, .iload 1), (false, .goto 18), (false, .iload 1), (false, .iconst 1), (false, .iadd), (false, .istore 1), (false, .iinc 2 1), (false, .goto 4), (false, .iload 1), (false, .ireturn)]
def oM_185 : List Nat := [0, 1, 2, 3, 4, 5, 6, 9, 12, 13, 16, 17, 18, 21, 22, 25, 26, 27, 28, 29, 32, 35, 36]
def hM_185 : mj_X := []
def cM_186 : mj_C := [(false, .iconst 0), (false, .istore 4), (true, .iload 4), (false, .aload 0), (false, .getfield 2560), (false, .iconst 1), (false, .isub), (false, .if_icmp .ge 15), (false, .aload 0), (false, .getfield 2666), (false, .iload 4), (false, .baload), (false, .ifCond .eq 15), (false, .iinc 4 1), (false, .goto 2), (false, .aload 0), (false, .getfield 2666), (false, .iload 4), (false, .iconst 1), (false, .bastore), (false, .aload 0), (false, .getfield 2670), (false, .iload 4), (false, .iconst 0), (false, .bastore), (false, .aload 0), (false, .getfield 2674), (false, .iload 4), (false, .iload 1), (false, .iastore), (false, .aload 0), (false, .getfield 2678), (false, .iload 4), (false, .iload 2), (false, .iastore), (false, .aload 0), (false, .getfield 2682), (false, .iload 4), (false, .iload 3), (false, .ifCond .ge 42), (false, .iconst 0), (false, .goto 43), (false, .iconst 3), (false, .iastore), (false, .aload 0), (false, .getfield 2686), (false, .iload 4), (false, .iload 3), (false, .ifCond .ge 51), (false, .iconst 0), (false, .goto 52), (false, .iload 3), (false, .iastore), (false, .iload 4), (false, .ireturn)]
def oM_186 : List Nat := [0, 1, 3, 5, 6, 9, 10, 11, 14, 15, 18, 20, 21, 24, 27, 30, 31, 34, 36, 37, 38, 39, 42, 44, 45, 46, 47, 50, 52, 53, 54, 55, 58, 60, 61, 62, 63, 66, 68, 69, 72, 73, 76, 77, 78, 79, 82, 84, 85, 88, 89, 92, 93, 94, 96]
def hM_186 : mj_X := []
def cM_187 : mj_C := [(false, .aload 0), (false, .iload 1), (false, .ifCond .ge 5), (false, .iconst 0), (false, .goto 6), (false, .iconst 3), (false, .iload 1), (false, .ifCond .ge 10), (false, .iconst 0), (false, .goto 11), (false, .iload 1), (false, .iload 2), (false, .invokeinterface 186 656), (false, .ireturn)]
def oM_187 : List Nat := [0, 1, 2, 5, 6, 9, 10, 11, 14, 15, 18, 19, 20, 23]
def hM_187 : mj_X := []
def cM_188 : mj_C := [(false, .iconst (-1)), (false, .istore 1), (false, .aload 0), (false, .iconst 0), (false, .putfield 2692), (false, .aload 0), (false, .getfield 2636), (false, .iconst 1), (false, .isub), (false, .istore 2), (true, .iload 2), (false, .ifCond .lt 69), (false, .aload 0), (false, .getfield 2642), (false, .iload 2), (false, .iaload), (false, .iconst 5), (false, .if_icmp .ne 33), (false, .aload 0), (false, .getfield 2698), (false, .aload 0), (false, .getfield 2692), (false, .iload 1), (false, .iastore), (false, .aload 0), (false, .dup), (false, .getfield 2692), (false, .iconst 1), (false, .iadd), (false, .putfield 2692), (false, .iconst (-1)), (false, .istore 1), (false, .goto 67), (false, .aload 0), (false, .getfield 2642), (false, .iload 2), (false, .iaload), (false, .iconst 4), (false, .if_icmp .ne 55), (false, .aload 0), (false, .dup), (false, .getfield 2692), (false, .iconst 1), (false, .isub), (false, .putfield 2692), (false, .aload 0), (false, .iload 1), (false, .aload 0), (false, .getfield 2698), (false, .aload 0), (false, .getfield 2692), (false, .iaload), (false, .invokeinterface 187 652), (false, .istore 1), (false, .goto 67), (false, .aload 0), (false, .aload 0), (false, .getfield 2642), (false, .iload 2), (false, .iaload), (false, .aload 0), (false, .getfield 2646), (false, .iload 2), (false, .iaload), (false, .iload 1), (false, .invokeinterface 186 656), (false, .istore 1), (false, .iinc 2 (-1)), (false, .goto 10), (false, .iload 1), (false, .ireturn)]
def oM_188 : List Nat := [0, 1, 2, 3, 4, 7, 8, 11, 12, 13, 14, 15, 18, 19, 22, 23, 24, 25, 28, 29, 32, 33, 36, 37, 38, 39, 40, 43, 44, 45, 48, 49, 50, 53, 54, 57, 58, 59, 60, 63, 64, 65, 68, 69, 70, 73, 74, 75, 76, 79, 80, 83, 84, 87, 88, 91, 92, 93, 96, 97, 98, 99, 102, 103, 104, 105, 108, 109, 112, 115, 116]
def hM_188 : mj_X := []
def cM_189 : mj_C := [(false, .iload 1), (false, .iconst 3), (false, .if_icmp .ne 25), (false, .aload 0), (false, .getfield 2690), (false, .iload 2), (false, .baload), (false, .ifCond .ne 25), (false, .aload 0), (false, .getfield 2690), (false, .iload 2), (false, .iconst 1), (false, .bastore), (false, .aload 0), (false, .getfield 2698), (false, .aload 0), (false, .getfield 2692), (false, .iload 2), (false, .iastore), (false, .aload 0), (false, .dup), (false, .getfield 2692), (false, .iconst 1), (false, .iadd), (false, .putfield 2692), (false, .return_)]
def oM_189 : List Nat := [0, 1, 2, 5, 6, 9, 10, 11, 14, 15, 18, 19, 20, 21, 22, 25, 26, 29, 30, 31, 32, 33, 36, 37, 38, 41]
def hM_189 : mj_X := []
def cM_190 : mj_C := [(false, .iconst 0), (false, .istore 1), (true, .iload 1), (false, .aload 0), (false, .getfield 2560), (false, .if_icmp .ge 13), (false, .aload 0), (false, .getfield 2690), (false, .iload 1), (false, .iconst 0), (false, .bastore), (false, .iinc 1 1), (false, .goto 2), (false, .aload 0), (false, .iconst 0), (false, .putfield 2692), (false, .iconst 0), (false, .istore 1), (true, .iload 1), (false, .iconst 5), (false, .if_icmp .ge 37), (false, .aload 0), (false, .aload 0), (false, .getfield 2702), (false, .iload 1), (false, .iaload), (false, .ifCond .ge 29), (false, .iconst 0), (false, .goto 30), (false, .iconst 3), (false, .aload 0), (false, .getfield 2702), (false, .iload 1), (false, .iaload), (false, .invokeinterface 189 652), (false, .iinc 1 1), (false, .goto 18), (false, .iconst 0), (false, .istore 1), (true, .aload 0), (false, .getfield 2692), (false, .ifCond .le 76), (false, .aload 0), (false, .dup), (false, .getfield 2692), (false, .iconst 1), (false, .isub), (false, .putfield 2692), (false, .aload 0), (false, .getfield 2698), (false, .aload 0), (false, .getfield 2692), (false, .iaload), (false, .istore 2), (false, .iinc 1 1), (false, .aload 0), (false, .aload 0), (false, .getfield 2674), (false, .iload 2), (false, .iaload), (false, .aload 0), (false, .getfield 2678), (false, .iload 2), (false, .iaload), (false, .invokeinterface 189 652), (false, .aload 0), (false, .aload 0), (false, .getfield 2682), (false, .iload 2), (false, .iaload), (false, .aload 0), (false, .getfield 2686), (false, .iload 2), (false, .iaload), (false, .invokeinterface 189 652), (false, .goto 39), (false, .iload 1), (false, .ireturn)]
def oM_190 : List Nat := [0, 1, 2, 3, 4, 7, 10, 11, 14, 15, 16, 17, 20, 23, 24, 25, 28, 29, 30, 31, 32, 35, 36, 37, 40, 41, 42, 45, 46, 49, 50, 51, 54, 55, 56, 59, 62, 65, 66, 67, 68, 71, 74, 75, 76, 79, 80, 81, 84, 85, 88, 89, 92, 93, 94, 97, 98, 99, 102, 103, 104, 105, 108, 109, 110, 113, 114, 115, 118, 119, 120, 121, 124, 125, 126, 129, 132, 133]
def hM_190 : mj_X := []
def cM_191 : mj_C := [(false, .aload 0), (false, .invokeinterface 190 644), (false, .istore 1), (false, .iconst 0), (false, .istore 2), (false, .iconst 0), (false, .istore 3), (true, .iload 3), (false, .aload 0), (false, .getfield 2560), (false, .if_icmp .ge 37), (false, .aload 0), (false, .getfield 2666), (false, .iload 3), (false, .baload), (false, .ifCond .eq 25), (false, .aload 0), (false, .getfield 2690), (false, .iload 3), (false, .baload), (false, .ifCond .ne 25), (false, .iload 2), (false, .iconst 1), (false, .iadd), (false, .goto 26), (false, .iload 2), (false, .istore 2), (false, .aload 0), (false, .getfield 2666), (false, .iload 3), (false, .aload 0), (false, .getfield 2690), (false, .iload 3), (false, .baload), (false, .bastore), (false, .iinc 3 1), (false, .goto 7), (false, .iload 1), (false, .ifCond .lt 41), (false, .iload 2), (false, .goto 42), (false, .iconst 0), (false, .ireturn)]
def oM_191 : List Nat := [0, 1, 4, 5, 6, 7, 8, 9, 10, 11, 14, 17, 18, 21, 22, 23, 26, 27, 30, 31, 32, 35, 36, 37, 38, 41, 42, 43, 44, 47, 48, 49, 52, 53, 54, 55, 58, 61, 62, 65, 66, 69, 70]
def hM_191 : mj_X := []
def cM_192 : mj_C := [(false, .aload 0), (false, .invokeinterface 172 644), (false, .istore 1), (false, .aload 0), (false, .iload 1), (false, .ifCond .eq 9), (false, .aload 0), (false, .invokeinterface 175 644), (false, .goto 11), (false, .aload 0), (false, .getfield 2576), (false, .putfield 2580), (false, .aload 0), (false, .aload 0), (false, .getfield 2580), (false, .ifCond .lt 18), (false, .iconst 1), (false, .goto 19), (false, .iconst 0), (false, .putfield 2564), (false, .aload 0), (false, .getfield 2564), (false, .ifCond .ne 35), (false, .aload 0), (false, .invokeinterface 184 644), (false, .aload 0), (false, .aload 0), (false, .getfield 2648), (false, .aload 0), (false, .getfield 2560), (false, .if_icmp .le 33), (false, .iconst 2), (false, .goto 34), (false, .iconst 0), (false, .putfield 2564), (false, .aload 0), (false, .iconst 0), (false, .putfield 2568), (false, .aload 0), (false, .getfield 2564), (false, .ifCond .le 43), (false, .iconst 0), (false, .ireturn), (false, .iconst 0), (false, .istore 2), (true, .iload 2), (false, .iconst 250), (false, .if_icmp .ge 55), (false, .aload 0), (false, .getfield 2666), (false, .iload 2), (false, .iconst 0), (false, .bastore), (false, .iinc 2 1), (false, .goto 45), (false, .iconst 0), (false, .istore 2), (true, .iload 2), (false, .iconst 4), (false, .if_icmp .ge 67), (false, .aload 0), (false, .getfield 2702), (false, .iload 2), (false, .iconst (-1)), (false, .iastore), (false, .iinc 2 1), (false, .goto 57), (false, .aload 0), (false, .getfield 2702), (false, .iconst 4), (false, .aload 0), (false, .invokeinterface 188 644), (false, .iastore), (false, .aload 0), (false, .iconst 1), (false, .putfield 2707), (false, .aload 0), (false, .iconst 0), (false, .putfield 2708), (false, .aload 0), (false, .iconst 0), (false, .putfield 2712), (false, .aload 0), (false, .iconst 0), (false, .putfield 2716), (false, .aload 0), (false, .iconst 0), (false, .putfield 2720), (false, .aload 0), (false, .getfield 2648), (false, .ireturn)]
def oM_192 : List Nat := [0, 1, 4, 5, 6, 7, 10, 11, 14, 17, 18, 21, 24, 25, 26, 29, 32, 33, 36, 37, 40, 41, 44, 47, 48, 51, 52, 53, 56, 57, 60, 63, 64, 67, 68, 71, 72, 73, 76, 77, 80, 83, 84, 85, 86, 87, 88, 91, 94, 95, 98, 99, 100, 101, 104, 107, 108, 109, 110, 111, 114, 115, 118, 119, 120, 121, 124, 127, 128, 131, 132, 133, 136, 137, 138, 139, 142, 143, 144, 147, 148, 149, 152, 153, 154, 157, 158, 159, 162, 163, 166]
def hM_192 : mj_X := []
def cM_193 : mj_C := [(false, .aload 0), (false, .iconst 0), (false, .putfield 2564), (false, .aload 0), (false, .getfield 2580), (false, .ireturn)]
def oM_193 : List Nat := [0, 1, 2, 5, 6, 9]
def hM_193 : mj_X := []
def cM_194 : mj_C := [(false, .aload 0), (false, .iconst 0), (false, .putfield 2564), (false, .aload 0), (false, .getfield 2707), (false, .ifCond .ne 8), (false, .iconst 0), (false, .freturn), (false, .iconst 0), (false, .istore 1), (true, .iload 1), (false, .iconst 4), (false, .if_icmp .ge 20), (false, .aload 0), (false, .getfield 2702), (false, .iload 1), (false, .iconst (-1)), (false, .iastore), (false, .iinc 1 1), (false, .goto 10), (false, .aload 0), (false, .invokeinterface 191 644), (false, .istore 1), (false, .aload 0), (false, .getfield 2702), (false, .iconst 2), (false, .aload 0), (false, .getfield 2702), (false, .iconst 4), (false, .iaload), (false, .iastore), (false, .aload 0), (false, .iconst 1), (false, .putfield 2708), (false, .aload 0), (false, .iconst 0), (false, .putfield 2712), (false, .aload 0), (false, .iconst 0), (false, .putfield 2716), (false, .aload 0), (false, .iconst 0), (false, .putfield 2720), (false, .iload 1), (false, .ifCond .lt 47), (false, .iconst 1), (false, .goto 48), (false, .iconst 0), (false, .freturn)]
def oM_194 : List Nat := [0, 1, 2, 5, 6, 9, 12, 13, 14, 15, 16, 17, 18, 21, 22, 25, 26, 27, 28, 31, 34, 35, 38, 39, 40, 43, 44, 45, 48, 49, 50, 51, 52, 53, 56, 57, 58, 61, 62, 63, 66, 67, 68, 71, 72, 75, 76, 79, 80]
def hM_194 : mj_X := []
def cM_195 : mj_C := [(false, .iload 0), (false, .iconst 4), (false, .if_icmp .ne 5), (false, .iconst 4), (false, .goto 27), (false, .iload 0), (false, .iconst 7), (false, .if_icmp .ne 10), (false, .iconst 3), (false, .goto 27), (false, .iload 0), (false, .iconst 3), (false, .if_icmp .eq 16), (false, .iload 0), (false, .iconst 13), (false, .if_icmp .ne 18), (false, .iconst 2), (false, .goto 27), (false, .iload 0), (false, .iconst 9), (false, .if_icmp .eq 24), (false, .iload 0), (false, .iconst 19), (false, .if_icmp .ne 26), (false, .iconst 0), (false, .goto 27), (false, .iconst 1), (false, .ireturn)]
def oM_195 : List Nat := [0, 1, 2, 5, 6, 9, 10, 12, 15, 16, 19, 20, 21, 24, 25, 27, 30, 31, 34, 35, 37, 40, 41, 43, 46, 47, 50, 51]
def hM_195 : mj_X := []
def cM_196 : mj_C := [(false, .aload 0), (false, .getfield 2682), (false, .iload 1), (false, .iaload), (false, .iconst 3), (false, .if_icmp .ne 11), (false, .aload 0), (false, .getfield 2686), (false, .iload 1), (false, .iaload), (false, .goto 12), (false, .iconst (-1)), (false, .ireturn)]
def oM_196 : List Nat := [0, 1, 4, 5, 6, 7, 10, 11, 14, 15, 16, 19, 20]
def hM_196 : mj_X := []
def cM_197 : mj_C := [(false, .aload 0), (false, .getfield 2674), (false, .iload 1), (false, .iaload), (false, .iconst 3), (false, .if_icmp .ne 11), (false, .aload 0), (false, .getfield 2678), (false, .iload 1), (false, .iaload), (false, .goto 12), (false, .iconst (-1)), (false, .ireturn)]
def oM_197 : List Nat := [0, 1, 4, 5, 6, 7, 10, 11, 14, 15, 16, 19, 20]
def hM_197 : mj_X := []
def cM_198 : mj_C := [(false, .aload 0), (false, .getfield 2702), (false, .iconst 0), (false, .iaload), (false, .istore 2), (false, .iconst 0), (false, .istore 3), (true, .iload 3), (false, .iload 1), (false, .if_icmp .ge 16), (false, .aload 0), (false, .iload 2), (false, .invokeinterface 196 648), (false, .istore 2), (false, .iinc 3 1), (false, .goto 7), (false, .aload 0), (false, .aload 0), (false, .getfield 2674), (false, .iload 2), (false, .iaload), (false, .putfield 2724), (false, .aload 0), (false, .aload 0), (false, .getfield 2678), (false, .iload 2), (false, .iaload), (false, .putfield 2728), (false, .return_)]
def oM_198 : List Nat := [0, 1, 4, 5, 6, 7, 8, 9, 10, 11, 14, 15, 16, 19, 20, 23, 26, 27, 28, 31, 32, 33, 36, 37, 38, 41, 42, 43, 46]
def hM_198 : mj_X := []
def cM_199 : mj_C := [(false, .aload 0), (false, .getfield 2702), (false, .iconst 0), (false, .aload 0), (false, .aload 0), (false, .getfield 2702), (false, .iconst 0), (false, .iaload), (false, .invokeinterface 196 648), (false, .iastore), (false, .return_)]
def oM_199 : List Nat := [0, 1, 4, 5, 6, 7, 10, 11, 12, 15, 16]
def hM_199 : mj_X := []
def cM_200 : mj_C := [(false, .aload 0), (false, .getfield 2702), (false, .iconst 0), (false, .aload 0), (false, .iload 1), (false, .iload 2), (false, .aload 0), (false, .getfield 2702), (false, .iconst 0), (false, .iaload), (false, .invokeinterface 186 656), (false, .iastore), (false, .return_)]
def oM_200 : List Nat := [0, 1, 4, 5, 6, 7, 8, 9, 12, 13, 14, 17, 18]
def hM_200 : mj_X := []
def cM_201 : mj_C := [(false, .aload 0), (false, .getfield 2724), (false, .iconst 3), (false, .if_icmp .ne 12), (false, .aload 0), (false, .getfield 2670), (false, .aload 0), (false, .getfield 2728), (false, .baload), (false, .ifCond .eq 12), (false, .iconst 1), (false, .goto 13), (false, .iconst 0), (false, .freturn)]
def oM_201 : List Nat := [0, 1, 4, 5, 8, 9, 12, 13, 16, 17, 20, 21, 24, 25]
def hM_201 : mj_X := []
def cM_202 : mj_C := [(false, .aload 0), (false, .getfield 2724), (false, .iconst 3), (false, .if_icmp .ne 12), (false, .aload 0), (false, .getfield 2670), (false, .aload 0), (false, .getfield 2728), (false, .baload), (false, .ifCond .ne 12), (false, .iconst 1), (false, .goto 13), (false, .iconst 0), (false, .freturn)]
def oM_202 : List Nat := [0, 1, 4, 5, 8, 9, 12, 13, 16, 17, 20, 21, 24, 25]
def hM_202 : mj_X := []
def cM_203 : mj_C := [(false, .aload 0), (false, .iload 1), (false, .putfield 2708), (false, .return_)]
def oM_203 : List Nat := [0, 1, 2, 5]
def hM_203 : mj_X := []
def cM_204 : mj_C := [(false, .aload 0), (false, .getfield 2702), (false, .iconst 2), (false, .iaload), (false, .istore 1), (false, .aload 0), (false, .getfield 2678), (false, .iload 1), (false, .iaload), (false, .istore 2), (false, .aload 0), (false, .invokeinterface 185 644), (false, .iload 2), (false, .invokeinterface 195 5), (false, .if_icmp .ge 37), (false, .aload 0), (false, .dup), (false, .getfield 2712), (false, .iconst 1), (false, .iadd), (false, .putfield 2712), (false, .aload 0), (false, .dup), (false, .getfield 2716), (false, .aload 0), (false, .invokeinterface 191 644), (false, .iadd), (false, .putfield 2716), (false, .aload 0), (false, .invokeinterface 185 644), (false, .iload 2), (false, .invokeinterface 195 5), (false, .if_icmp .ge 37), (false, .aload 0), (false, .iconst 4), (false, .invokeinterface 203 648), (false, .return_), (false, .aload 0), (false, .iload 1), (false, .invokeinterface 196 648), (false, .istore 3), (false, .iload 2), (false, .iconst 1), (false, .if_icmp .ne 62), (false, .aload 0), (false, .aload 0), (false, .getfield 2674), (false, .iload 3), (false, .iaload), (false, .aload 0), (false, .getfield 2678), (false, .iload 3), (false, .iaload), (false, .invokeinterface 200 652), (false, .aload 0), (false, .getfield 2702), (false, .iconst 2), (false, .aload 0), (false, .iload 3), (false, .invokeinterface 196 648), (false, .iastore), (false, .goto 200), (false, .iload 2), (false, .iconst 2), (false, .if_icmp .ne 75), (false, .aload 0), (false, .aload 0), (false, .getfield 2678), (false, .iload 3), (false, .iaload), (false, .aload 0), (false, .iload 3), (false, .invokeinterface 196 648), (false, .invokeinterface 205 652), (false, .goto 200), (false, .iload 2), (false, .iconst 3), (false, .if_icmp .ne 105), (false, .aload 0), (false, .aload 0), (false, .iload 3), (false, .invokeinterface 197 648), (false, .aload 0), (false, .getfield 2702), (false, .iconst 1), (false, .iaload), (false, .invokeinterface 187 652), (false, .istore 4), (false, .aload 0), (false, .getfield 2670), (false, .iload 4), (false, .iconst 1), (false, .bastore), (false, .aload 0), (false, .iconst 3), (false, .iload 4), (false, .invokeinterface 200 652), (false, .aload 0), (false, .getfield 2702), (false, .iconst 2), (false, .aload 0), (false, .iload 3), (false, .invokeinterface 196 648), (false, .iastore), (false, .goto 200), (false, .iload 2), (false, .iconst 4), (false, .if_icmp .eq 111), (false, .iload 2), (false, .iconst 7), (false, .if_icmp .ne 121), (false, .aload 0), (false, .iload 2), (false, .iconst 7), (false, .if_icmp .ne 117), (false, .iconst 1), (false, .goto 118), (false, .iconst 0), (false, .iload 3), (false, .invokeinterface 206 652), (false, .goto 200), (false, .iload 2), (false, .iconst 5), (false, .if_icmp .ne 127), (false, .aload 0), (false, .invokeinterface 207 644), (false, .goto 200), (false, .iload 2), (false, .iconst 6), (false, .if_icmp .ne 148), (false, .aload 0), (false, .getfield 2702), (false, .iconst 1), (false, .aload 0), (false, .iconst 0), (false, .iconst 0), (false, .aload 0), (false, .getfield 2702), (false, .iconst 1), (false, .iaload), (false, .invokeinterface 186 656), (false, .iastore), (false, .aload 0), (false, .getfield 2702), (false, .iconst 2), (false, .iload 3), (false, .iastore), (false, .goto 200), (false, .iload 2), (false, .iconst 8), (false, .if_icmp .ne 155), (false, .aload 0), (false, .iload 3), (false, .invokeinterface 208 648), (false, .goto 200), (false, .iload 2), (false, .iconst 9), (false, .if_icmp .ne 179), (false, .aload 0), (false, .getfield 2702), (false, .iconst 2), (false, .aload 0), (false, .aload 0), (false, .getfield 2702), (false, .iconst 3), (false, .iaload), (false, .invokeinterface 197 648), (false, .iastore), (false, .aload 0), (false, .getfield 2702), (false, .iconst 3), (false, .aload 0), (false, .aload 0), (false, .getfield 2702), (false, .iconst 3), (false, .iaload), (false, .invokeinterface 196 648), (false, .iastore), (false, .goto 200), (false, .iload 2), (false, .iconst 13), (false, .if_icmp .ge 187), (false, .aload 0), (false, .iload 2), (false, .iload 3), (false, .invokeinterface 209 652), (false, .goto 200), (false, .iload 2), (false, .iconst 19), (false, .if_icmp .ge 195), (false, .aload 0), (false, .iload 2), (false, .iload 3), (false, .invokeinterface 210 652), (false, .goto 200), (false, .aload 0), (false, .iconst 2), (false, .invokeinterface 203 648), (false, .aload 0), (false, .invokeinterface 215 644), (false, .return_)]
def oM_204 : List Nat := [0, 1, 4, 5, 6, 7, 8, 11, 12, 13, 14, 15, 18, 19, 22, 25, 26, 27, 30, 31, 32, 35, 36, 37, 40, 41, 44, 45, 48, 49, 52, 53, 56, 59, 60, 61, 64, 65, 66, 67, 70, 71, 72, 73, 76, 77, 78, 81, 82, 83, 84, 87, 88, 89, 92, 93, 96, 97, 98, 99, 102, 103, 106, 107, 108, 111, 112, 113, 116, 117, 118, 119, 120, 123, 126, 129, 130, 131, 134, 135, 136, 137, 140, 141, 144, 145, 146, 149, 151, 152, 155, 157, 158, 159, 160, 161, 163, 166, 167, 170, 171, 172, 173, 176, 177, 180, 181, 182, 185, 186, 188, 191, 192, 193, 195, 198, 199, 202, 203, 204, 207, 210, 211, 212, 215, 216, 219, 222, 223, 225, 228, 229, 232, 233, 234, 235, 236, 237, 240, 241, 242, 245, 246, 247, 250, 251, 252, 253, 256, 257, 259, 262, 263, 264, 267, 270, 271, 273, 276, 277, 280, 281, 282, 283, 286, 287, 288, 291, 292, 293, 296, 297, 298, 299, 302, 303, 304, 307, 308, 311, 312, 314, 317, 318, 319, 320, 323, 326, 327, 329, 332, 333, 334, 335, 338, 341, 342, 343, 346, 347, 350]
def hM_204 : mj_X := []
def cM_205 : mj_C := [(false, .aload 0), (false, .getfield 2702), (false, .iconst 1), (false, .iaload), (false, .istore 3), (false, .iconst 0), (false, .istore 4), (true, .iload 4), (false, .iload 1), (false, .iconst 16), (false, .idiv), (false, .if_icmp .ge 20), (false, .iload 3), (false, .ifCond .lt 20), (false, .aload 0), (false, .iload 3), (false, .invokeinterface 196 648), (false, .istore 3), (false, .iinc 4 1), (false, .goto 7), (false, .iload 3), (false, .ifCond .ge 24), (false, .iconst (-1)), (false, .goto 27), (false, .aload 0), (false, .iload 3), (false, .invokeinterface 197 648), (false, .istore 4), (false, .iconst 0), (false, .istore 5), (true, .iload 5), (false, .iload 1), (false, .iconst 16), (false, .irem), (false, .if_icmp .ge 43), (false, .iload 4), (false, .ifCond .lt 43), (false, .aload 0), (false, .iload 4), (false, .invokeinterface 196 648), (false, .istore 4), (false, .iinc 5 1), (false, .goto 30), (false, .iload 4), (false, .ifCond .ge 49), (false, .aload 0), (false, .iconst 3), (false, .invokeinterface 203 648), (false, .return_), (false, .aload 0), (false, .aload 0), (false, .getfield 2674), (false, .iload 4), (false, .iaload), (false, .aload 0), (false, .getfield 2678), (false, .iload 4), (false, .iaload), (false, .invokeinterface 200 652), (false, .aload 0), (false, .getfield 2702), (false, .iconst 2), (false, .iload 2), (false, .iastore), (false, .return_)]
def oM_205 : List Nat := [0, 1, 4, 5, 6, 7, 8, 10, 12, 13, 15, 16, 19, 20, 23, 24, 25, 28, 29, 32, 35, 36, 39, 40, 43, 44, 45, 48, 50, 51, 53, 55, 56, 58, 59, 62, 64, 67, 68, 70, 73, 75, 78, 81, 83, 86, 87, 88, 91, 92, 93, 94, 97, 99, 100, 101, 104, 106, 107, 110, 111, 114, 115, 116, 117]
def hM_205 : mj_X := []
def cM_206 : mj_C := [(false, .aload 0), (false, .iconst 0), (false, .invokeinterface 198 648), (false, .aload 0), (false, .invokeinterface 201 644), (false, .ifCond .ne 10), (false, .aload 0), (false, .iconst 3), (false, .invokeinterface 203 648), (false, .return_), (false, .aload 0), (false, .getfield 2728), (false, .istore 3), (false, .aload 0), (false, .iconst 1), (false, .invokeinterface 198 648), (false, .aload 0), (false, .getfield 2724), (false, .istore 4), (false, .aload 0), (false, .getfield 2728), (false, .istore 5), (false, .aload 0), (false, .invokeinterface 199 644), (false, .aload 0), (false, .invokeinterface 199 644), (false, .iload 1), (false, .ifCond .eq 35), (false, .aload 0), (false, .aload 0), (false, .getfield 2702), (false, .iconst 1), (false, .iaload), (false, .invokeinterface 196 648), (false, .goto 39), (false, .aload 0), (false, .getfield 2702), (false, .iconst 1), (false, .iaload), (false, .istore 6), (false, .aload 0), (false, .getfield 2702), (false, .iconst 3), (false, .aload 0), (false, .aload 0), (false, .getfield 2702), (false, .iconst 0), (false, .iaload), (false, .aload 0), (false, .iload 6), (false, .aload 0), (false, .iload 2), (false, .aload 0), (false, .getfield 2702), (false, .iconst 3), (false, .iaload), (false, .invokeinterface 187 652), (false, .invokeinterface 187 652), (false, .invokeinterface 187 652), (false, .iastore), (false, .aload 0), (false, .getfield 2702), (false, .iconst 0), (false, .iconst (-1)), (false, .iastore), (false, .iload 1), (false, .ifCond .eq 91), (false, .aload 0), (false, .getfield 2702), (false, .iconst 1), (false, .aload 0), (false, .iload 3), (false, .invokeinterface 196 648), (false, .iastore), (false, .aload 0), (false, .getfield 2674), (false, .aload 0), (false, .getfield 2702), (false, .iconst 1), (false, .iaload), (false, .iload 4), (false, .iastore), (false, .aload 0), (false, .getfield 2678), (false, .aload 0), (false, .getfield 2702), (false, .iconst 1), (false, .iaload), (false, .iload 5), (false, .iastore), (false, .goto 102), (false, .aload 0), (false, .getfield 2702), (false, .iconst 1), (false, .aload 0), (false, .iload 4), (false, .iload 5), (false, .aload 0), (false, .iload 3), (false, .invokeinterface 196 648), (false, .invokeinterface 186 656), (false, .iastore), (false, .aload 0), (false, .getfield 2702), (false, .iconst 2), (false, .aload 0), (false, .iload 3), (false, .invokeinterface 197 648), (false, .iastore), (false, .return_)]
def oM_206 : List Nat := [0, 1, 2, 5, 6, 9, 12, 13, 14, 17, 18, 19, 22, 23, 24, 25, 28, 29, 32, 34, 35, 38, 40, 41, 44, 45, 48, 49, 52, 53, 54, 57, 58, 59, 62, 65, 66, 69, 70, 71, 73, 74, 77, 78, 79, 80, 83, 84, 85, 86, 88, 89, 90, 91, 94, 95, 96, 99, 102, 105, 106, 107, 110, 111, 112, 113, 114, 117, 118, 121, 122, 123, 124, 127, 128, 129, 132, 133, 136, 137, 138, 140, 141, 142, 145, 146, 149, 150, 151, 153, 154, 157, 158, 161, 162, 163, 165, 167, 168, 169, 172, 175, 176, 177, 180, 181, 182, 183, 186, 187]
def hM_206 : mj_X := []
def cM_207 : mj_C := [(false, .aload 0), (false, .iconst 0), (false, .invokeinterface 198 648), (false, .aload 0), (false, .getfield 2702), (false, .iconst 3), (false, .iaload), (false, .istore 1), (false, .aload 0), (false, .getfield 2702), (false, .iconst 0), (false, .aload 0), (false, .iload 1), (false, .invokeinterface 197 648), (false, .iastore), (false, .aload 0), (false, .iload 1), (false, .invokeinterface 196 648), (false, .istore 1), (false, .aload 0), (false, .getfield 2702), (false, .iconst 1), (false, .aload 0), (false, .iload 1), (false, .invokeinterface 197 648), (false, .iastore), (false, .aload 0), (false, .iload 1), (false, .invokeinterface 196 648), (false, .istore 1), (false, .aload 0), (false, .getfield 2702), (false, .iconst 2), (false, .aload 0), (false, .iload 1), (false, .invokeinterface 197 648), (false, .iastore), (false, .aload 0), (false, .getfield 2702), (false, .iconst 3), (false, .aload 0), (false, .iload 1), (false, .invokeinterface 196 648), (false, .iastore), (false, .aload 0), (false, .aload 0), (false, .getfield 2724), (false, .aload 0), (false, .getfield 2728), (false, .invokeinterface 200 652), (false, .return_)]
def oM_207 : List Nat := [0, 1, 2, 5, 6, 9, 10, 11, 12, 13, 16, 17, 18, 19, 22, 23, 24, 25, 28, 29, 30, 33, 34, 35, 36, 39, 40, 41, 42, 45, 46, 47, 50, 51, 52, 53, 56, 57, 58, 61, 62, 63, 64, 67, 68, 69, 70, 73, 74, 77, 80]
def hM_207 : mj_X := []
def cM_208 : mj_C := [(false, .aload 0), (false, .iconst 0), (false, .invokeinterface 198 648), (false, .aload 0), (false, .getfield 2724), (false, .iconst 1), (false, .if_icmp .eq 11), (false, .aload 0), (false, .iconst 3), (false, .invokeinterface 203 648), (false, .return_), (false, .aload 0), (false, .invokeinterface 199 644), (false, .aload 0), (false, .iload 1), (false, .invokeinterface 196 648), (false, .istore 2), (false, .aload 0), (false, .getfield 2702), (false, .iconst 3), (false, .aload 0), (false, .aload 0), (false, .iload 2), (false, .invokeinterface 196 648), (false, .aload 0), (false, .getfield 2702), (false, .iconst 3), (false, .iaload), (false, .invokeinterface 187 652), (false, .iastore), (false, .aload 0), (false, .getfield 2702), (false, .iconst 2), (false, .aload 0), (false, .getfield 2728), (false, .ifCond .eq 40), (false, .aload 0), (false, .iload 1), (false, .invokeinterface 197 648), (false, .goto 43), (false, .aload 0), (false, .iload 2), (false, .invokeinterface 197 648), (false, .iastore), (false, .return_)]
def oM_208 : List Nat := [0, 1, 2, 5, 6, 9, 10, 13, 14, 15, 18, 19, 20, 23, 24, 25, 28, 29, 30, 33, 34, 35, 36, 37, 40, 41, 44, 45, 46, 49, 50, 51, 54, 55, 56, 59, 62, 63, 64, 67, 70, 71, 72, 75, 76]
def hM_208 : mj_X := []
def cM_209 : mj_C := [(false, .aload 0), (false, .iconst 0), (false, .invokeinterface 198 648), (false, .iload 1), (false, .iconst 12), (false, .if_icmp .ge 13), (false, .aload 0), (false, .invokeinterface 202 644), (false, .ifCond .ne 13), (false, .aload 0), (false, .iconst 3), (false, .invokeinterface 203 648), (false, .return_), (false, .aload 0), (false, .getfield 2728), (false, .istore 3), (false, .aload 0), (false, .invokeinterface 202 644), (false, .istore 4), (false, .aload 0), (false, .invokeinterface 199 644), (false, .iload 1), (false, .iconst 10), (false, .if_icmp .ne 35), (false, .aload 0), (false, .aload 0), (false, .getfield 2674), (false, .iload 3), (false, .iaload), (false, .aload 0), (false, .getfield 2678), (false, .iload 3), (false, .iaload), (false, .invokeinterface 200 652), (false, .goto 57), (false, .iload 1), (false, .iconst 11), (false, .if_icmp .ne 49), (false, .aload 0), (false, .aload 0), (false, .getfield 2682), (false, .iload 3), (false, .iaload), (false, .aload 0), (false, .getfield 2686), (false, .iload 3), (false, .iaload), (false, .invokeinterface 200 652), (false, .goto 57), (false, .aload 0), (false, .iconst 1), (false, .iload 4), (false, .ifCond .eq 55), (false, .iconst 0), (false, .goto 56), (false, .iconst 1), (false, .invokeinterface 200 652), (false, .aload 0), (false, .getfield 2702), (false, .iconst 2), (false, .iload 2), (false, .iastore), (false, .return_)]
def oM_209 : List Nat := [0, 1, 2, 5, 6, 8, 11, 12, 15, 18, 19, 20, 23, 24, 25, 28, 29, 30, 33, 35, 36, 39, 40, 42, 45, 46, 47, 50, 51, 52, 53, 56, 57, 58, 61, 64, 65, 67, 70, 71, 72, 75, 76, 77, 78, 81, 82, 83, 86, 89, 90, 91, 93, 96, 97, 100, 101, 104, 105, 108, 109, 110, 111]
def hM_209 : mj_X := []
def cM_210 : mj_C := [(false, .aload 0), (false, .iconst 0), (false, .invokeinterface 198 648), (false, .aload 0), (false, .getfield 2724), (false, .istore 3), (false, .aload 0), (false, .getfield 2728), (false, .istore 4), (false, .aload 0), (false, .iconst 1), (false, .invokeinterface 198 648), (false, .aload 0), (false, .getfield 2724), (false, .istore 5), (false, .aload 0), (false, .getfield 2728), (false, .istore 6), (false, .iload 1), (false, .iconst 14), (false, .if_icmp .le 31), (false, .iload 5), (false, .iconst 1), (false, .if_icmp .ne 27), (false, .iload 3), (false, .iconst 1), (false, .if_icmp .eq 31), (false, .aload 0), (false, .iconst 3), (false, .invokeinterface 203 648), (false, .return_), (false, .aload 0), (false, .invokeinterface 199 644), (false, .aload 0), (false, .invokeinterface 199 644), (false, .iload 1), (false, .iconst 13), (false, .if_icmp .ne 59), (false, .aload 0), (false, .iload 3), (false, .iload 4), (false, .iconst (-1)), (false, .invokeinterface 186 656), (false, .istore 7), (false, .aload 0), (false, .getfield 2682), (false, .iload 7), (false, .iload 5), (false, .iastore), (false, .aload 0), (false, .getfield 2686), (false, .iload 7), (false, .iload 6), (false, .iastore), (false, .aload 0), (false, .iconst 3), (false, .iload 7), (false, .invokeinterface 200 652), (false, .goto 113), (false, .iload 5), (false, .iload 3), (false, .if_icmp .ne 72), (false, .iload 5), (false, .iconst 3), (false, .if_icmp .eq 72), (false, .iload 5), (false, .ifCond .eq 70), (false, .iload 6), (false, .iload 4), (false, .if_icmp .ne 72), (false, .iconst 1), (false, .goto 73), (false, .iconst 0), (false, .istore 7), (false, .aload 0), (false, .iconst 1), (false, .iload 1), (false, .iconst 14), (false, .if_icmp .ne 85), (false, .iload 7), (false, .ifCond .eq 83), (false, .iconst 1), (false, .goto 112), (false, .iconst 0), (false, .goto 112), (false, .iload 1), (false, .iconst 15), (false, .if_icmp .ne 92), (false, .iload 6), (false, .iload 4), (false, .iadd), (false, .goto 112), (false, .iload 1), (false, .iconst 16), (false, .if_icmp .ne 99), (false, .iload 6), (false, .iload 4), (false, .isub), (false, .goto 112), (false, .iload 1), (false, .iconst 17), (false, .if_icmp .ne 106), (false, .iload 6), (false, .iload 4), (false, .imul), (false, .goto 112), (false, .iload 6), (false, .iload 4), (false, .if_icmp .ge 111), (false, .iconst 1), (false, .goto 112), (false, .iconst 0), (false, .invokeinterface 200 652), (false, .aload 0), (false, .getfield 2702), (false, .iconst 2), (false, .iload 2), (false, .iastore), (false, .return_)]
def oM_210 : List Nat := [0, 1, 2, 5, 6, 9, 10, 11, 14, 16, 17, 18, 21, 22, 25, 27, 28, 31, 33, 34, 36, 39, 41, 42, 45, 46, 47, 50, 51, 52, 55, 56, 57, 60, 61, 64, 65, 67, 70, 71, 72, 74, 75, 78, 80, 81, 84, 86, 88, 89, 90, 93, 95, 97, 98, 99, 100, 102, 105, 108, 110, 111, 114, 116, 117, 120, 122, 125, 127, 129, 132, 133, 136, 137, 139, 140, 141, 142, 144, 147, 149, 152, 153, 156, 157, 160, 161, 163, 166, 168, 170, 171, 174, 175, 177, 180, 182, 184, 185, 188, 189, 191, 194, 196, 198, 199, 202, 204, 206, 209, 210, 213, 214, 217, 218, 221, 222, 223, 224]
def hM_210 : mj_X := []
def cM_211 : mj_C := [(false, .aload 0), (false, .iload 1), (false, .ifCond .lt 6), (false, .iload 1), (false, .iconst 200), (false, .if_icmp .le 8), (false, .iconst 1), (false, .goto 9), (false, .iconst 0), (false, .putfield 2564), (false, .iconst 0), (false, .istore 2), (true, .aload 0), (false, .getfield 2564), (false, .ifCond .ne 32), (false, .iload 2), (false, .iload 1), (false, .if_icmp .ge 32), (false, .aload 0), (false, .getfield 2708), (false, .iconst 1), (false, .if_icmp .ne 32), (false, .aload 0), (false, .invokeinterface 204 644), (false, .aload 0), (false, .dup), (false, .getfield 2720), (false, .iconst 1), (false, .iadd), (false, .putfield 2720), (false, .iinc 2 1), (false, .goto 12), (false, .iload 2), (false, .ireturn)]
def oM_211 : List Nat := [0, 1, 2, 5, 6, 9, 12, 13, 16, 17, 20, 21, 22, 23, 26, 29, 30, 31, 34, 35, 38, 39, 42, 43, 46, 47, 48, 51, 52, 53, 56, 59, 62, 63]
def hM_211 : mj_X := []
def cM_212 : mj_C := [(false, .aload 0), (false, .getfield 2732), (false, .iconst 120), (false, .if_icmp .ge 17), (false, .aload 0), (false, .getfield 2738), (false, .aload 0), (false, .getfield 2732), (false, .iload 1), (false, .i2c), (false, .castore), (false, .aload 0), (false, .dup), (false, .getfield 2732), (false, .iconst 1), (false, .iadd), (false, .putfield 2732), (false, .return_)]
def oM_212 : List Nat := [0, 1, 4, 6, 9, 10, 13, 14, 17, 18, 19, 20, 21, 22, 25, 26, 27, 30]
def hM_212 : mj_X := []
def cM_213 : mj_C := [(false, .iload 1), (false, .ifCond .ge 6), (false, .iload 1), (false, .i2l), (false, .lneg), (false, .goto 8), (false, .iload 1), (false, .i2l), (false, .lstore 2), (false, .iload 1), (false, .ifCond .ge 14), (false, .aload 0), (false, .iconst 45), (false, .invokeinterface 212 648), (false, .ldc2_w 1), (false, .lstore 4), (true, .lload 2), (false, .lload 4), (false, .ldiv), (false, .ldc2_w 9), (false, .lcmp), (false, .ifCond .le 27), (false, .lload 4), (false, .ldc2_w 10), (false, .lmul), (false, .lstore 4), (false, .goto 16), (true, .lload 4), (false, .ldc2_w 0), (false, .lcmp), (false, .ifCond .le 46), (false, .aload 0), (false, .iconst 48), (false, .lload 2), (false, .lload 4), (false, .ldiv), (false, .ldc2_w 10), (false, .lrem), (false, .l2i), (false, .iadd), (false, .invokeinterface 212 648), (false, .lload 4), (false, .ldc2_w 10), (false, .ldiv), (false, .lstore 4), (false, .goto 27), (false, .return_)]
def oM_213 : List Nat := [0, 1, 4, 5, 6, 7, 10, 11, 12, 13, 14, 17, 18, 20, 23, 24, 26, 27, 29, 30, 33, 34, 37, 39, 42, 43, 45, 48, 50, 51, 52, 55, 56, 58, 59, 61, 62, 65, 66, 67, 68, 71, 73, 76, 77, 79, 82]
def hM_213 : mj_X := []
def cM_214 : mj_C := [(false, .iload 1), (false, .iconst 3), (false, .if_icmp .ne 24), (false, .aload 0), (false, .getfield 2670), (false, .iload 2), (false, .baload), (false, .ifCond .ne 24), (false, .aload 0), (false, .iconst 40), (false, .invokeinterface 212 648), (false, .aload 0), (false, .getfield 2698), (false, .aload 0), (false, .getfield 2692), (false, .iload 2), (false, .iastore), (false, .aload 0), (false, .dup), (false, .getfield 2692), (false, .iconst 1), (false, .iadd), (false, .putfield 2692), (false, .return_), (false, .iload 1), (false, .iconst 1), (false, .if_icmp .ne 31), (false, .aload 0), (false, .iload 2), (false, .invokeinterface 213 648), (false, .goto 50), (false, .iload 1), (false, .iconst 2), (false, .if_icmp .ne 38), (false, .aload 0), (false, .iload 2), (false, .invokeinterface 212 648), (false, .goto 50), (false, .iload 1), (false, .ifCond .ne 47), (false, .aload 0), (false, .iconst 40), (false, .invokeinterface 212 648), (false, .aload 0), (false, .iconst 41), (false, .invokeinterface 212 648), (false, .goto 50), (false, .aload 0), (false, .iconst 35), (false, .invokeinterface 212 648), (false, .return_)]
def oM_214 : List Nat := [0, 1, 2, 5, 6, 9, 10, 11, 14, 15, 17, 20, 21, 24, 25, 28, 29, 30, 31, 32, 35, 36, 37, 40, 41, 42, 43, 46, 47, 48, 51, 54, 55, 56, 59, 60, 61, 64, 67, 68, 71, 72, 74, 77, 78, 80, 83, 86, 87, 89, 92]
def hM_214 : mj_X := []
def cM_215 : mj_C := [(false, .aload 0), (false, .iconst 0), (false, .putfield 2732), (false, .aload 0), (false, .iconst 0), (false, .putfield 2692), (false, .aload 0), (false, .iconst 0), (false, .invokeinterface 198 648), (false, .aload 0), (false, .aload 0), (false, .getfield 2724), (false, .aload 0), (false, .getfield 2728), (false, .invokeinterface 214 652), (true, .aload 0), (false, .getfield 2692), (false, .ifCond .le 124), (false, .aload 0), (false, .getfield 2732), (false, .iconst 120), (false, .if_icmp .ge 124), (false, .aload 0), (false, .getfield 2698), (false, .aload 0), (false, .getfield 2692), (false, .iconst 1), (false, .isub), (false, .iaload), (false, .istore 1), (false, .iload 1), (false, .ifCond .lt 53), (false, .aload 0), (false, .getfield 2698), (false, .aload 0), (false, .getfield 2692), (false, .iconst 1), (false, .isub), (false, .iconst (-1)), (false, .iload 1), (false, .isub), (false, .iastore), (false, .aload 0), (false, .aload 0), (false, .getfield 2674), (false, .iload 1), (false, .iaload), (false, .aload 0), (false, .getfield 2678), (false, .iload 1), (false, .iaload), (false, .invokeinterface 214 652), (false, .goto 123), (false, .iconst (-1)), (false, .iload 1), (false, .isub), (false, .istore 2), (false, .aload 0), (false, .dup), (false, .getfield 2692), (false, .iconst 1), (false, .isub), (false, .putfield 2692), (false, .aload 0), (false, .getfield 2682), (false, .iload 2), (false, .iaload), (false, .iconst 3), (false, .if_icmp .ne 96), (false, .aload 0), (false, .getfield 2670), (false, .aload 0), (false, .getfield 2686), (false, .iload 2), (false, .iaload), (false, .baload), (false, .ifCond .ne 96), (false, .aload 0), (false, .iconst 32), (false, .invokeinterface 212 648), (false, .aload 0), (false, .getfield 2698), (false, .aload 0), (false, .getfield 2692), (false, .aload 0), (false, .getfield 2686), (false, .iload 2), (false, .iaload), (false, .iastore), (false, .aload 0), (false, .dup), (false, .getfield 2692), (false, .iconst 1), (false, .iadd), (false, .putfield 2692), (false, .goto 123), (false, .aload 0), (false, .getfield 2682), (false, .iload 2), (false, .iaload), (false, .ifCond .eq 120), (false, .aload 0), (false, .iconst 32), (false, .invokeinterface 212 648), (false, .aload 0), (false, .iconst 46), (false, .invokeinterface 212 648), (false, .aload 0), (false, .iconst 32), (false, .invokeinterface 212 648), (false, .aload 0), (false, .aload 0), (false, .getfield 2682), (false, .iload 2), (false, .iaload), (false, .aload 0), (false, .getfield 2686), (false, .iload 2), (false, .iaload), (false, .invokeinterface 214 652), (false, .aload 0), (false, .iconst 41), (false, .invokeinterface 212 648), (false, .goto 15), (false, .return_)]
def oM_215 : List Nat := [0, 1, 2, 5, 6, 7, 10, 11, 12, 15, 16, 17, 20, 21, 24, 27, 28, 31, 34, 35, 38, 40, 43, 44, 47, 48, 51, 52, 53, 54, 55, 56, 59, 60, 63, 64, 67, 68, 69, 70, 71, 72, 73, 74, 75, 78, 79, 80, 81, 84, 85, 86, 89, 92, 93, 94, 95, 96, 97, 98, 101, 102, 103, 106, 107, 110, 111, 112, 113, 116, 117, 120, 121, 124, 125, 126, 127, 130, 131, 133, 136, 137, 140, 141, 144, 145, 148, 149, 150, 151, 152, 153, 156, 157, 158, 161, 164, 165, 168, 169, 170, 173, 174, 176, 179, 180, 182, 185, 186, 188, 191, 192, 193, 196, 197, 198, 199, 202, 203, 204, 207, 208, 210, 213, 216]
def hM_215 : mj_X := []
def cM_216 : mj_C := [(false, .aload 0), (false, .iconst 0), (false, .putfield 2564), (false, .aload 0), (false, .getfield 2708), (false, .ireturn)]
def oM_216 : List Nat := [0, 1, 2, 5, 6, 9]
def hM_216 : mj_X := []
def cM_217 : mj_C := [(false, .iconst 0), (false, .istore 2), (false, .iload 1), (false, .istore 3), (true, .iload 3), (false, .ifCond .lt 12), (false, .iinc 2 1), (false, .aload 0), (false, .iload 3), (false, .invokeinterface 196 648), (false, .istore 3), (false, .goto 4), (false, .iload 2), (false, .ireturn)]
def oM_217 : List Nat := [0, 1, 2, 3, 4, 5, 8, 11, 12, 13, 16, 17, 20, 21]
def hM_217 : mj_X := []
def cM_218 : mj_C := [(false, .aload 0), (false, .iconst 0), (false, .putfield 2564), (false, .iload 1), (false, .lookupswitch 37 #[(0, 5), (1, 11), (2, 14), (3, 17), (4, 20), (5, 23), (6, 30)]), (false, .aload 0), (false, .getfield 2560), (false, .aload 0), (false, .invokeinterface 185 644), (false, .isub), (false, .ireturn), (false, .aload 0), (false, .invokeinterface 190 644), (false, .ireturn), (false, .aload 0), (false, .getfield 2712), (false, .ireturn), (false, .aload 0), (false, .getfield 2716), (false, .ireturn), (false, .aload 0), (false, .getfield 2720), (false, .ireturn), (false, .aload 0), (false, .aload 0), (false, .getfield 2702), (false, .iconst 0), (false, .iaload), (false, .invokeinterface 217 648), (false, .ireturn), (false, .aload 0), (false, .aload 0), (false, .getfield 2702), (false, .iconst 3), (false, .iaload), (false, .invokeinterface 217 648), (false, .ireturn), (false, .iconst (-1)), (false, .ireturn)]
def oM_218 : List Nat := [0, 1, 2, 5, 6, 48, 49, 52, 53, 56, 57, 58, 59, 62, 63, 64, 67, 68, 69, 72, 73, 74, 77, 78, 79, 80, 83, 84, 85, 88, 89, 90, 91, 94, 95, 96, 99, 100, 101]
def hM_218 : mj_X := []
def cM_219 : mj_C := [(false, .aload 0), (false, .iconst 0), (false, .putfield 2564), (false, .aload 0), (false, .getfield 2708), (false, .iconst 1), (false, .if_icmp .ne 15), (false, .aload 0), (false, .getfield 2678), (false, .aload 0), (false, .getfield 2702), (false, .iconst 2), (false, .iaload), (false, .iaload), (false, .goto 16), (false, .iconst (-1)), (false, .ireturn)]
def oM_219 : List Nat := [0, 1, 2, 5, 6, 9, 10, 13, 14, 17, 18, 21, 22, 23, 24, 27, 28]
def hM_219 : mj_X := []
def cM_220 : mj_C := [(false, .aload 0), (false, .iconst 0), (false, .putfield 2564), (false, .aload 0), (false, .getfield 2708), (false, .iconst 2), (false, .if_icmp .ne 18), (false, .iload 1), (false, .ifCond .lt 18), (false, .iload 1), (false, .aload 0), (false, .getfield 2732), (false, .if_icmp .ge 18), (false, .aload 0), (false, .getfield 2738), (false, .iload 1), (false, .caload), (false, .goto 19), (false, .iconst (-1)), (false, .ireturn)]
def oM_220 : List Nat := [0, 1, 2, 5, 6, 9, 10, 13, 14, 17, 18, 19, 22, 25, 26, 29, 30, 31, 34, 35]
def hM_220 : mj_X := []
def cM_221 : mj_C := [(false, .aload 0), (false, .iconst 16), (false, .invokeinterface 222 586), (false, .return_)]
def oM_221 : List Nat := [0, 1, 3, 6]
def hM_221 : mj_X := []
def cM_222 : mj_C := [(false, .aload 0), (false, .monitorenter), (false, .iconst 1), (false, .ifCond .eq 12), (false, .aload 0), (false, .iload 1), (false, .newarray .byte), (false, .putfield 2306), (false, .aload 0), (false, .iconst 0), (false, .putfield 2311), (false, .goto 19), (false, .aload 0), (false, .iload 1), (false, .jsr 0), (false, .putfield 2306), (false, .aload 0), (false, .iconst 1), (false, .putfield 2311), (false, .return_)]
def oM_222 : List Nat := [0, 1, 4, 7, 10, 11, 12, 14, 17, 18, 19, 22, 25, 26, 27, 30, 33, 34, 35, 38]
def hM_222 : mj_X := []
def cM_223 : mj_C := [(false, .aload 0), (false, .invokeinterface 224 583), (false, .ireturn)]
def oM_223 : List Nat := [0, 1, 4]
def hM_223 : mj_X := []
def cM_224 : mj_C := [(false, .aload 0), (false, .getfield 2316), (false, .ireturn)]
def oM_224 : List Nat := [0, 1, 4]
def hM_224 : mj_X := []
def cM_225 : mj_C := [(false, .aload 0), (false, .iload 1), (false, .invokeinterface 226 587), (false, .dreturn)]
def oM_225 : List Nat := [0, 1, 2, 5]
def hM_225 : mj_X := []
def cM_226 : mj_C := [(false, .aload 0), (false, .getfield 2311), (false, .istore 2), (false, .aload 0), (false, .getfield 2306), (false, .astore 3), (false, .aload 0), (false, .getfield 2316), (false, .aload 3), (false, .arraylength), (false, .iload 2), (false, .ishr), (false, .invokedynamic 1), (false, .istore 4), (false, .iload 1), (false, .iload 4), (false, .invokeinterface 227 9), (false, .iload 2), (false, .ifCond .ne 26), (false, .aload 3), (false, .iload 1), (false, .baload), (false, .iconst 255), (false, .iand), (false, .i2c), (false, .dreturn), (false, .aload 3), (false, .iload 1), (false, .jsr 0), (false, .dreturn)]
def oM_226 : List Nat := [0, 1, 4, 5, 6, 9, 10, 11, 14, 15, 16, 17, 18, 21, 23, 24, 26, 29, 30, 33, 34, 35, 36, 39, 40, 41, 42, 43, 44, 47]
def hM_226 : mj_X := []
def cM_227 : mj_C := [(false, .iload 0), (false, .iload 1), (false, .dload 0), (false, .invokeinterface 228 13), (false, .pop), (false, .return_)]
def oM_227 : List Nat := [0, 1, 2, 5, 8, 9]
def hM_227 : mj_X := []
def cM_228 : mj_C := [(false, .iload 0), (false, .ifCond .lt 5), (false, .iload 0), (false, .iload 1), (false, .if_icmp .lt 10), (false, .aload 2), (false, .iload 0), (false, .iload 1), (false, .jsr 0), (false, .jsr 0), (false, .iload 0), (false, .ireturn)]
def oM_228 : List Nat := [0, 1, 4, 5, 6, 9, 10, 11, 12, 15, 16, 17]
def hM_228 : mj_X := []
def cM_229 : mj_C := [(false, .aload 0), (false, .iload 1), (false, .iconst 0), (false, .instanceof 235532), (false, .ireturn)]
def oM_229 : List Nat := [0, 1, 2, 3, 6]
def hM_229 : mj_X := []
def cM_230 : mj_C := [(false, .aload 0), (false, .instanceof 236548), (false, .ifCond .eq 11), (false, .aload 0), (false, .anewarray 0), (false, .iload 1), (false, .iload 2), (false, .aload 0), (false, .instanceof 237572), (false, .invokeinterface 234 17), (false, .goto 18), (false, .aload 0), (false, .anewarray 0), (false, .iload 1), (false, .iload 2), (false, .aload 0), (false, .instanceof 237572), (false, .jsr 0), (false, .ireturn)]
def oM_230 : List Nat := [0, 1, 4, 7, 8, 11, 12, 13, 14, 17, 20, 23, 24, 27, 28, 29, 30, 33, 36]
def hM_230 : mj_X := []
def cM_231 : mj_C := [(false, .iconst 1), (false, .ifCond .eq 7), (false, .aload 0), (false, .anewarray 1), (false, .ifCond .ne 7), (false, .iconst 1), (false, .goto 8), (false, .iconst 0), (false, .freturn)]
def oM_231 : List Nat := [0, 3, 6, 7, 10, 13, 14, 17, 18]
def hM_231 : mj_X := []
def cM_232 : mj_C := [(false, .aload 0), (false, .anewarray 0), (false, .arraylength), (false, .aload 0), (false, .instanceof 238596), (false, .ishr), (false, .ireturn)]
def oM_232 : List Nat := [0, 1, 4, 5, 6, 9, 10]
def hM_232 : mj_X := []
def cM_233 : mj_C := [(false, .iconst 1), (false, .ifCond .eq 5), (false, .aload 0), (false, .anewarray 1), (false, .goto 6), (false, .iconst 1), (false, .athrow)]
def oM_233 : List Nat := [0, 3, 6, 7, 10, 13, 14]
def hM_233 : mj_X := []
def cM_234 : mj_C := [(false, .iload 1), (false, .invokeinterface 235 5), (false, .ifCond .ne 5), (false, .iconst (-1)), (false, .ireturn), (false, .iload 2), (false, .iconst 0), (false, .invokedynamic 0), (false, .istore 2), (false, .iload 3), (false, .aload 0), (false, .arraylength), (false, .invokedynamic 1), (false, .istore 3), (false, .iload 2), (false, .iload 3), (false, .if_icmp .lt 19), (false, .iconst (-1)), (false, .ireturn), (false, .aload 0), (false, .iload 1), (false, .iload 2), (false, .iload 3), (false, .invokeinterface 236 17), (false, .ireturn)]
def oM_234 : List Nat := [0, 1, 4, 7, 8, 9, 10, 11, 14, 15, 16, 17, 18, 21, 22, 23, 24, 27, 28, 29, 30, 31, 32, 33, 36]
def hM_234 : mj_X := []
def cM_235 : mj_C := [(false, .iload 0), (false, .ifCond .lt 7), (false, .iload 0), (false, .iconst 255), (false, .if_icmp .gt 7), (false, .iconst 1), (false, .goto 8), (false, .iconst 0), (false, .freturn)]
def oM_235 : List Nat := [0, 1, 4, 5, 8, 11, 12, 15, 16]
def hM_235 : mj_X := []
def cM_236 : mj_C := [(false, .iload 1), (false, .i2b), (false, .istore 4), (false, .iload 2), (false, .istore 5), (true, .iload 5), (false, .iload 3), (false, .if_icmp .ge 17), (false, .aload 0), (false, .iload 5), (false, .baload), (false, .iload 4), (false, .if_icmp .ne 15), (false, .iload 5), (false, .ireturn), (false, .iinc 5 1), (false, .goto 5), (false, .iconst (-1)), (false, .ireturn)]
def oM_236 : List Nat := [0, 1, 2, 4, 5, 7, 9, 10, 13, 14, 16, 17, 19, 22, 24, 25, 28, 31, 32]
def hM_236 : mj_X := []
def cM_237 : mj_C := [(false, .aload 0), (false, .iload 1), (false, .invokeinterface 238 587), (false, .return_)]
def oM_237 : List Nat := [0, 1, 2, 5]
def hM_237 : mj_X := []
def cM_238 : mj_C := [(false, .iload 1), (false, .ifCond .ge 7), (false, .jsr 0), (false, .dup), (false, .iload 1), (false, .jsr 0), (false, .jsr 0), (false, .aload 0), (false, .iload 1), (false, .invokeinterface 239 584), (false, .aload 0), (false, .getfield 2316), (false, .iload 1), (false, .if_icmp .ge 31), (false, .aload 0), (false, .invokeinterface 243 580), (false, .ifCond .eq 24), (false, .aload 0), (false, .getfield 2306), (false, .aload 0), (false, .getfield 2316), (false, .iload 1), (false, .jsr 0), (false, .goto 38), (false, .aload 0), (false, .getfield 2306), (false, .aload 0), (false, .getfield 2316), (false, .iload 1), (false, .jsr 0), (false, .goto 38), (false, .aload 0), (false, .getfield 2316), (false, .iload 1), (false, .if_icmp .le 38), (false, .aload 0), (false, .iconst 1), (false, .putfield 2315), (false, .aload 0), (false, .iload 1), (false, .putfield 2316), (false, .return_)]
def oM_238 : List Nat := [0, 1, 4, 7, 8, 9, 12, 13, 14, 15, 18, 19, 22, 23, 26, 27, 30, 33, 34, 37, 38, 41, 42, 45, 48, 49, 52, 53, 56, 57, 60, 63, 64, 67, 68, 71, 72, 73, 76, 77, 78, 81]
def hM_238 : mj_X := []
def cM_239 : mj_C := [(false, .aload 0), (false, .getfield 2306), (false, .arraylength), (false, .aload 0), (false, .getfield 2311), (false, .ishr), (false, .istore 2), (false, .iload 1), (false, .iload 2), (false, .isub), (false, .ifCond .le 22), (false, .aload 0), (false, .aload 0), (false, .getfield 2306), (false, .aload 0), (false, .iload 1), (false, .invokeinterface 240 584), (false, .aload 0), (false, .getfield 2311), (false, .ishl), (false, .invokeinterface 242 9), (false, .putfield 2306), (false, .return_)]
def oM_239 : List Nat := [0, 1, 4, 5, 6, 9, 10, 11, 12, 13, 14, 17, 18, 19, 22, 23, 24, 27, 28, 31, 32, 35, 38]
def hM_239 : mj_X := []
def cM_240 : mj_C := [(false, .aload 0), (false, .getfield 2306), (false, .arraylength), (false, .istore 2), (false, .iload 1), (false, .aload 0), (false, .getfield 2311), (false, .ishl), (false, .istore 3), (false, .iload 3), (false, .iload 2), (false, .isub), (false, .istore 4), (false, .iload 2), (false, .iload 4), (false, .iload 2), (false, .iconst 2), (false, .aload 0), (false, .getfield 2311), (false, .ishl), (false, .iadd), (false, .invokeinterface 241 13), (false, .istore 5), (false, .iload 5), (false, .iconst 2147483647), (false, .if_icmp .ne 27), (false, .jsr 0), (false, .iload 5), (false, .aload 0), (false, .getfield 2311), (false, .ishr), (false, .ireturn)]
def oM_240 : List Nat := [0, 1, 4, 5, 6, 7, 8, 11, 12, 13, 14, 15, 16, 18, 19, 21, 22, 23, 24, 27, 28, 29, 32, 34, 36, 38, 41, 51, 53, 54, 57, 58]
def hM_240 : mj_X := []
def cM_241 : mj_C := [(false, .iload 0), (false, .iload 1), (false, .iload 2), (false, .invokedynamic 0), (false, .iadd), (false, .istore 3), (false, .iconst 0), (false, .iload 3), (false, .if_icmp .ge 14), (false, .iload 3), (false, .iconst 2147483639), (false, .if_icmp .gt 14), (false, .iload 3), (false, .ireturn), (false, .iload 0), (false, .iload 1), (false, .jsr 0), (false, .ireturn)]
def oM_241 : List Nat := [0, 1, 2, 3, 6, 7, 8, 9, 10, 13, 14, 16, 19, 20, 21, 22, 23, 26]
def hM_241 : mj_X := []
def cM_242 : mj_C := [(false, .iload 1), (false, .aload 0), (false, .arraylength), (false, .if_icmp .ne 8), (false, .aload 0), (false, .jsr 0), (false, .jsr 0), (false, .areturn), (false, .iload 1), (false, .newarray .byte), (false, .astore 2), (false, .aload 0), (false, .iconst 0), (false, .aload 2), (false, .iconst 0), (false, .aload 0), (false, .arraylength), (false, .iload 1), (false, .invokedynamic 1), (false, .invokestatic 0), (false, .aload 2), (false, .areturn)]
def oM_242 : List Nat := [0, 1, 2, 3, 6, 7, 10, 13, 14, 15, 17, 18, 19, 20, 21, 22, 23, 24, 25, 28, 31, 32]
def hM_242 : mj_X := []
def cM_243 : mj_C := [(false, .iconst 1), (false, .ifCond .eq 7), (false, .aload 0), (false, .getfield 2311), (false, .ifCond .ne 7), (false, .iconst 1), (false, .goto 8), (false, .iconst 0), (false, .freturn)]
def oM_243 : List Nat := [0, 3, 6, 7, 10, 13, 14, 17, 18]
def hM_243 : mj_X := []
def cM_244 : mj_C := [(false, .aload 0), (false, .iload 1), (false, .invokeinterface 245 587), (false, .pop), (false, .aload 0), (false, .areturn)]
def oM_244 : List Nat := [0, 1, 2, 5, 6, 7]
def hM_244 : mj_X := []
def cM_245 : mj_C := [(false, .aload 0), (false, .aload 0), (false, .getfield 2316), (false, .iconst 1), (false, .iadd), (false, .invokeinterface 239 584), (false, .aload 0), (false, .invokeinterface 243 580), (false, .ifCond .eq 25), (false, .iload 1), (false, .invokeinterface 246 5), (false, .ifCond .eq 25), (false, .aload 0), (false, .getfield 2306), (false, .aload 0), (false, .dup), (false, .getfield 2316), (false, .dup_x1), (false, .iconst 1), (false, .iadd), (false, .putfield 2316), (false, .iload 1), (false, .i2b), (false, .bastore), (false, .goto 41), (false, .aload 0), (false, .invokeinterface 243 580), (false, .ifCond .eq 30), (false, .aload 0), (false, .jsr 0), (false, .aload 0), (false, .getfield 2306), (false, .aload 0), (false, .dup), (false, .getfield 2316), (false, .dup_x1), (false, .iconst 1), (false, .iadd), (false, .putfield 2316), (false, .iload 1), (false, .jsr 0), (false, .aload 0), (false, .areturn)]
def oM_245 : List Nat := [0, 1, 2, 5, 6, 7, 10, 11, 14, 17, 18, 21, 24, 25, 28, 29, 30, 33, 34, 35, 36, 39, 40, 41, 42, 45, 46, 49, 52, 53, 56, 57, 60, 61, 62, 65, 66, 67, 68, 71, 72, 75, 76]
def hM_245 : mj_X := []
def cM_246 : mj_C := [(false, .iload 0), (false, .iconst 255), (false, .if_icmp .gt 5), (false, .iconst 1), (false, .goto 6), (false, .iconst 0), (false, .freturn)]
def oM_246 : List Nat := [0, 1, 4, 7, 8, 11, 12]
def hM_246 : mj_X := []
def cM_247 : mj_C := [(false, .aload 0), (false, .iload 1), (false, .invokeinterface 248 587), (false, .pop), (false, .aload 0), (false, .areturn)]
def oM_247 : List Nat := [0, 1, 2, 5, 6, 7]
def hM_247 : mj_X := []
def cM_248 : mj_C := [(false, .aload 0), (false, .getfield 2316), (false, .istore 2), (false, .iload 2), (false, .iload 1), (false, .invokeinterface 249 5), (false, .iadd), (false, .istore 3), (false, .aload 0), (false, .iload 3), (false, .invokeinterface 239 584), (false, .aload 0), (false, .invokeinterface 243 580), (false, .ifCond .eq 21), (false, .iload 1), (false, .iload 3), (false, .aload 0), (false, .getfield 2306), (false, .invokeinterface 250 13), (false, .pop), (false, .goto 28), (false, .iload 1), (false, .iload 2), (false, .iload 3), (false, .aload 0), (false, .getfield 2306), (false, .jsr 0), (false, .pop), (false, .aload 0), (false, .iload 3), (false, .putfield 2316), (false, .aload 0), (false, .areturn)]
def oM_248 : List Nat := [0, 1, 4, 5, 6, 7, 10, 11, 12, 13, 14, 17, 18, 21, 24, 25, 26, 27, 30, 33, 34, 37, 38, 39, 40, 41, 44, 47, 48, 49, 50, 53, 54]
def hM_248 : mj_X := []
def cM_249 : mj_C := [(false, .iconst 1), (false, .istore 1), (false, .iload 0), (false, .ifCond .lt 9), (false, .iconst 0), (false, .istore 1), (false, .iload 0), (false, .ineg), (false, .istore 0), (false, .iconst (-10)), (false, .istore 2), (false, .iconst 1), (false, .istore 3), (true, .iload 3), (false, .iconst 10), (false, .if_icmp .ge 29), (false, .iload 0), (false, .iload 2), (false, .if_icmp .le 23), (false, .iload 3), (false, .iload 1), (false, .iadd), (false, .ireturn), (false, .iconst 10), (false, .iload 2), (false, .imul), (false, .istore 2), (false, .iinc 3 1), (false, .goto 13), (false, .iconst 10), (false, .iload 1), (false, .iadd), (false, .ireturn)]
def oM_249 : List Nat := [0, 1, 2, 3, 6, 7, 8, 9, 10, 11, 13, 14, 15, 16, 17, 19, 22, 23, 24, 27, 28, 29, 30, 31, 33, 34, 35, 36, 39, 42, 44, 45, 46]
def hM_249 : mj_X := []
def cM_250 : mj_C := [(false, .iload 1), (false, .istore 5), (false, .iload 0), (false, .ifCond .ge 6), (false, .iconst 1), (false, .goto 7), (false, .iconst 0), (false, .istore 6), (false, .iload 6), (false, .ifCond .ne 13), (false, .iload 0), (false, .ineg), (false, .istore 0), (true, .iload 0), (false, .iconst (-100)), (false, .if_icmp .gt 43), (false, .iload 0), (false, .iconst 100), (false, .idiv), (false, .istore 3), (false, .iload 3), (false, .iconst 100), (false, .imul), (false, .iload 0), (false, .isub), (false, .istore 4), (false, .iload 3), (false, .istore 0), (false, .aload 2), (false, .iinc 5 (-1)), (false, .iload 5), (false, .getstatic 1101), (false, .iload 4), (false, .baload), (false, .bastore), (false, .aload 2), (false, .iinc 5 (-1)), (false, .iload 5), (false, .getstatic 1102), (false, .iload 4), (false, .baload), (false, .bastore), (false, .goto 13), (false, .aload 2), (false, .iinc 5 (-1)), (false, .iload 5), (false, .getstatic 1101), (false, .iload 0), (false, .ineg), (false, .baload), (false, .bastore), (false, .iload 0), (false, .iconst (-9)), (false, .if_icmp .ge 62), (false, .aload 2), (false, .iinc 5 (-1)), (false, .iload 5), (false, .getstatic 1102), (false, .iload 0), (false, .ineg), (false, .baload), (false, .bastore), (false, .iload 6), (false, .ifCond .eq 69), (false, .aload 2), (false, .iinc 5 (-1)), (false, .iload 5), (false, .iconst 45), (false, .bastore), (false, .iload 5), (false, .ireturn)]
def oM_250 : List Nat := [0, 1, 3, 4, 7, 8, 11, 12, 14, 16, 19, 20, 21, 22, 23, 25, 28, 29, 31, 32, 33, 34, 36, 37, 38, 39, 41, 42, 43, 44, 47, 49, 52, 54, 55, 56, 57, 60, 62, 65, 67, 68, 69, 72, 73, 76, 78, 81, 82, 83, 84, 85, 86, 88, 91, 92, 95, 97, 100, 101, 102, 103, 104, 106, 109, 110, 113, 115, 117, 118, 120]
def hM_250 : mj_X := []
def cM_251 : mj_C := [(false, .aload 0), (false, .aload 1), (false, .invokeinterface 252 587), (false, .pop), (false, .aload 0), (false, .areturn)]
def oM_251 : List Nat := [0, 1, 2, 5, 6, 7]
def hM_251 : mj_X := []
def cM_252 : mj_C := [(false, .aload 1), (false, .ifnonnull 5), (false, .aload 0), (false, .jsr 0), (false, .areturn), (false, .aload 1), (false, .instanceof 237572), (false, .istore 2), (false, .aload 0), (false, .aload 0), (false, .getfield 2316), (false, .iload 2), (false, .iadd), (false, .invokeinterface 239 584), (false, .aload 0), (false, .aload 0), (false, .getfield 2316), (false, .aload 1), (false, .invokeinterface 253 588), (false, .aload 0), (false, .dup), (false, .getfield 2316), (false, .iload 2), (false, .iadd), (false, .putfield 2316), (false, .aload 0), (false, .areturn)]
def oM_252 : List Nat := [0, 1, 4, 5, 8, 9, 10, 13, 14, 15, 16, 19, 20, 21, 24, 25, 26, 29, 30, 33, 34, 35, 38, 39, 40, 43, 44]
def hM_252 : mj_X := []
def cM_253 : mj_C := [(false, .aload 0), (false, .aload 2), (false, .invokeinterface 254 584), (false, .aload 2), (false, .aload 0), (false, .getfield 2306), (false, .iload 1), (false, .aload 0), (false, .getfield 2311), (false, .instanceof 261136), (false, .return_)]
def oM_253 : List Nat := [0, 1, 2, 5, 6, 7, 10, 11, 12, 15, 18]
def hM_253 : mj_X := []
def cM_254 : mj_C := [(false, .iconst 1), (false, .ifCond .eq 9), (false, .aload 0), (false, .getfield 2311), (false, .aload 1), (false, .instanceof 238596), (false, .if_icmp .eq 9), (false, .aload 0), (false, .jsr 0), (false, .return_)]
def oM_254 : List Nat := [0, 3, 6, 7, 10, 11, 14, 17, 18, 21]
def hM_254 : mj_X := []
def cM_255 : mj_C := [(false, .aload 0), (false, .instanceof 238596), (false, .iload 3), (false, .if_icmp .ne 16), (false, .aload 0), (false, .anewarray 0), (false, .iconst 0), (false, .aload 1), (false, .iload 2), (false, .iload 3), (false, .ishl), (false, .aload 0), (false, .anewarray 0), (false, .arraylength), (false, .fload 0), (false, .goto 25), (false, .aload 0), (false, .anewarray 0), (false, .iconst 0), (false, .aload 1), (false, .iload 2), (false, .aload 0), (false, .anewarray 0), (false, .arraylength), (false, .jsr 0), (false, .return_)]
def oM_255 : List Nat := [0, 1, 4, 5, 8, 9, 12, 13, 14, 15, 16, 17, 18, 21, 22, 25, 28, 29, 32, 33, 34, 35, 36, 39, 40, 43]
def hM_255 : mj_X := []
def gTL : List (Option (mj_C × Nat × List Nat × mj_X)) := [some (cM_0, 7, oM_0, hM_0), some (cM_1, 2, oM_1, hM_1), some (cM_2, 3, oM_2, hM_2), some (cM_3, 4, oM_3, hM_3), some (cM_4, 3, oM_4, hM_4), some (cM_5, 3, oM_5, hM_5), some (cM_6, 1, oM_6, hM_6), some (cM_7, 1, oM_7, hM_7), some (cM_8, 1, oM_8, hM_8), some (cM_9, 3, oM_9, hM_9), some (cM_10, 1, oM_10, hM_10), some (cM_11, 2, oM_11, hM_11), some (cM_12, 1, oM_12, hM_12), some (cM_13, 2, oM_13, hM_13), some (cM_14, 1, oM_14, hM_14), some (cM_15, 6, oM_15, hM_15), some (cM_16, 3, oM_16, hM_16), some (cM_17, 5, oM_17, hM_17), some (cM_18, 1, oM_18, hM_18), some (cM_19, 2, oM_19, hM_19), some (cM_20, 1, oM_20, hM_20), some (cM_21, 1, oM_21, hM_21), some (cM_22, 1, oM_22, hM_22), some (cM_23, 5, oM_23, hM_23), some (cM_24, 4, oM_24, hM_24), some (cM_25, 3, oM_25, hM_25), some (cM_26, 2, oM_26, hM_26), some (cM_27, 2, oM_27, hM_27), some (cM_28, 2, oM_28, hM_28), some (cM_29, 2, oM_29, hM_29), some (cM_30, 2, oM_30, hM_30), some (cM_31, 5, oM_31, hM_31), some (cM_32, 4, oM_32, hM_32), some (cM_33, 5, oM_33, hM_33), some (cM_34, 3, oM_34, hM_34), some (cM_35, 2, oM_35, hM_35), some (cM_36, 4, oM_36, hM_36), some (cM_37, 5, oM_37, hM_37), some (cM_38, 5, oM_38, hM_38), some (cM_39, 4, oM_39, hM_39), some (cM_40, 3, oM_40, hM_40), some (cM_41, 4, oM_41, hM_41), some (cM_42, 3, oM_42, hM_42), some (cM_43, 6, oM_43, hM_43), some (cM_44, 5, oM_44, hM_44), some (cM_45, 4, oM_45, hM_45), some (cM_46, 3, oM_46, hM_46), some (cM_47, 5, oM_47, hM_47), some (cM_48, 3, oM_48, hM_48), some (cM_49, 2, oM_49, hM_49), some (cM_50, 2, oM_50, hM_50), some (cM_51, 0, oM_51, hM_51), some (cM_52, 1, oM_52, hM_52), some (cM_53, 1, oM_53, hM_53), some (cM_54, 2, oM_54, hM_54), some (cM_55, 1, oM_55, hM_55), some (cM_56, 4, oM_56, hM_56), some (cM_57, 3, oM_57, hM_57), some (cM_58, 2, oM_58, hM_58), some (cM_59, 1, oM_59, hM_59), some (cM_60, 2, oM_60, hM_60), some (cM_61, 1, oM_61, hM_61), some (cM_62, 2, oM_62, hM_62), some (cM_63, 2, oM_63, hM_63), some (cM_64, 3, oM_64, hM_64), some (cM_65, 1, oM_65, hM_65), some (cM_66, 3, oM_66, hM_66), some (cM_67, 3, oM_67, hM_67), some (cM_68, 7, oM_68, hM_68), some (cM_69, 3, oM_69, hM_69), some (cM_70, 2, oM_70, hM_70), some (cM_71, 4, oM_71, hM_71), some (cM_72, 2, oM_72, hM_72), some (cM_73, 1, oM_73, hM_73), some (cM_74, 7, oM_74, hM_74), some (cM_75, 3, oM_75, hM_75), some (cM_76, 5, oM_76, hM_76), some (cM_77, 3, oM_77, hM_77), some (cM_78, 4, oM_78, hM_78), some (cM_79, 4, oM_79, hM_79), some (cM_80, 3, oM_80, hM_80), some (cM_81, 3, oM_81, hM_81), some (cM_82, 4, oM_82, hM_82), some (cM_83, 1, oM_83, hM_83), some (cM_84, 3, oM_84, hM_84), some (cM_85, 2, oM_85, hM_85), some (cM_86, 2, oM_86, hM_86), some (cM_87, 1, oM_87, hM_87), some (cM_88, 3, oM_88, hM_88), some (cM_89, 3, oM_89, hM_89), some (cM_90, 1, oM_90, hM_90), some (cM_91, 2, oM_91, hM_91), some (cM_92, 3, oM_92, hM_92), some (cM_93, 8, oM_93, hM_93), some (cM_94, 3, oM_94, hM_94), some (cM_95, 5, oM_95, hM_95), some (cM_96, 5, oM_96, hM_96), some (cM_97, 5, oM_97, hM_97), some (cM_98, 7, oM_98, hM_98), some (cM_99, 1, oM_99, hM_99), some (cM_100, 7, oM_100, hM_100), some (cM_101, 1, oM_101, hM_101), some (cM_102, 4, oM_102, hM_102), some (cM_103, 1, oM_103, hM_103), some (cM_104, 5, oM_104, hM_104), some (cM_105, 6, oM_105, hM_105), some (cM_106, 6, oM_106, hM_106), some (cM_107, 3, oM_107, hM_107), some (cM_108, 4, oM_108, hM_108), some (cM_109, 1, oM_109, hM_109), some (cM_110, 1, oM_110, hM_110), some (cM_111, 1, oM_111, hM_111), some (cM_112, 1, oM_112, hM_112), some (cM_113, 1, oM_113, hM_113), some (cM_114, 1, oM_114, hM_114), some (cM_115, 1, oM_115, hM_115), some (cM_116, 1, oM_116, hM_116), some (cM_117, 1, oM_117, hM_117), some (cM_118, 1, oM_118, hM_118), some (cM_119, 2, oM_119, hM_119), some (cM_120, 3, oM_120, hM_120), some (cM_121, 3, oM_121, hM_121), some (cM_122, 2, oM_122, hM_122), some (cM_123, 1, oM_123, hM_123), some (cM_124, 1, oM_124, hM_124), some (cM_125, 1, oM_125, hM_125), some (cM_126, 5, oM_126, hM_126), some (cM_127, 5, oM_127, hM_127), some (cM_128, 6, oM_128, hM_128), some (cM_129, 4, oM_129, hM_129), some (cM_130, 4, oM_130, hM_130), some (cM_131, 6, oM_131, hM_131), some (cM_132, 7, oM_132, hM_132), some (cM_133, 6, oM_133, hM_133), some (cM_134, 10, oM_134, hM_134), some (cM_135, 4, oM_135, hM_135), some (cM_136, 3, oM_136, hM_136), some (cM_137, 2, oM_137, hM_137), some (cM_138, 6, oM_138, hM_138), some (cM_139, 1, oM_139, hM_139), some (cM_140, 3, oM_140, hM_140), some (cM_141, 2, oM_141, hM_141), some (cM_142, 1, oM_142, hM_142), some (cM_143, 2, oM_143, hM_143), some (cM_144, 1, oM_144, hM_144), some (cM_145, 1, oM_145, hM_145), some (cM_146, 1, oM_146, hM_146), some (cM_147, 1, oM_147, hM_147), some (cM_148, 1, oM_148, hM_148), some (cM_149, 2, oM_149, hM_149), some (cM_150, 2, oM_150, hM_150), some (cM_151, 2, oM_151, hM_151), some (cM_152, 2, oM_152, hM_152), some (cM_153, 2, oM_153, hM_153), some (cM_154, 2, oM_154, hM_154), some (cM_155, 2, oM_155, hM_155), some (cM_156, 6, oM_156, hM_156), some (cM_157, 2, oM_157, hM_157), some (cM_158, 3, oM_158, hM_158), some (cM_159, 1, oM_159, hM_159), some (cM_160, 1, oM_160, hM_160), some (cM_161, 1, oM_161, hM_161), some (cM_162, 2, oM_162, hM_162), some (cM_163, 4, oM_163, hM_163), some (cM_164, 3, oM_164, hM_164), some (cM_165, 6, oM_165, hM_165), some (cM_166, 4, oM_166, hM_166), some (cM_167, 4, oM_167, hM_167), some (cM_168, 1, oM_168, hM_168), some (cM_169, 5, oM_169, hM_169), some (cM_170, 5, oM_170, hM_170), some (cM_171, 2, oM_171, hM_171), some (cM_172, 6, oM_172, hM_172), some (cM_173, 5, oM_173, hM_173), some (cM_174, 7, oM_174, hM_174), some (cM_175, 2, oM_175, hM_175), some (cM_176, 3, oM_176, hM_176), some (cM_177, 3, oM_177, hM_177), some (cM_178, 4, oM_178, hM_178), some (cM_179, 1, oM_179, hM_179), some (cM_180, 3, oM_180, hM_180), some (cM_181, 3, oM_181, hM_181), some (cM_182, 3, oM_182, hM_182), some (cM_183, 4, oM_183, hM_183), some (cM_184, 1, oM_184, hM_184), some (cM_185, 3, oM_185, hM_185), some (cM_186, 5, oM_186, hM_186), some (cM_187, 3, oM_187, hM_187), some (cM_188, 3, oM_188, hM_188), some (cM_189, 3, oM_189, hM_189), some (cM_190, 3, oM_190, hM_190), some (cM_191, 4, oM_191, hM_191), some (cM_192, 3, oM_192, hM_192), some (cM_193, 1, oM_193, hM_193), some (cM_194, 2, oM_194, hM_194), some (cM_195, 1, oM_195, hM_195), some (cM_196, 2, oM_196, hM_196), some (cM_197, 2, oM_197, hM_197), some (cM_198, 4, oM_198, hM_198), some (cM_199, 1, oM_199, hM_199), some (cM_200, 3, oM_200, hM_200), some (cM_201, 1, oM_201, hM_201), some (cM_202, 1, oM_202, hM_202), some (cM_203, 2, oM_203, hM_203), some (cM_204, 5, oM_204, hM_204), some (cM_205, 6, oM_205, hM_205), some (cM_206, 7, oM_206, hM_206), some (cM_207, 2, oM_207, hM_207), some (cM_208, 3, oM_208, hM_208), some (cM_209, 5, oM_209, hM_209), some (cM_210, 8, oM_210, hM_210), some (cM_211, 3, oM_211, hM_211), some (cM_212, 2, oM_212, hM_212), some (cM_213, 6, oM_213, hM_213), some (cM_214, 3, oM_214, hM_214), some (cM_215, 3, oM_215, hM_215), some (cM_216, 1, oM_216, hM_216), some (cM_217, 4, oM_217, hM_217), some (cM_218, 2, oM_218, hM_218), some (cM_219, 1, oM_219, hM_219), some (cM_220, 2, oM_220, hM_220), some (cM_221, 1, oM_221, hM_221), some (cM_222, 2, oM_222, hM_222), some (cM_223, 1, oM_223, hM_223), some (cM_224, 1, oM_224, hM_224), some (cM_225, 2, oM_225, hM_225), some (cM_226, 5, oM_226, hM_226), some (cM_227, 2, oM_227, hM_227), some (cM_228, 3, oM_228, hM_228), some (cM_229, 2, oM_229, hM_229), some (cM_230, 3, oM_230, hM_230), some (cM_231, 1, oM_231, hM_231), some (cM_232, 1, oM_232, hM_232), some (cM_233, 1, oM_233, hM_233), some (cM_234, 4, oM_234, hM_234), some (cM_235, 1, oM_235, hM_235), some (cM_236, 6, oM_236, hM_236), some (cM_237, 2, oM_237, hM_237), some (cM_238, 2, oM_238, hM_238), some (cM_239, 3, oM_239, hM_239), some (cM_240, 6, oM_240, hM_240), some (cM_241, 4, oM_241, hM_241), some (cM_242, 3, oM_242, hM_242), some (cM_243, 1, oM_243, hM_243), some (cM_244, 2, oM_244, hM_244), some (cM_245, 2, oM_245, hM_245), some (cM_246, 1, oM_246, hM_246), some (cM_247, 2, oM_247, hM_247), some (cM_248, 4, oM_248, hM_248), some (cM_249, 4, oM_249, hM_249), some (cM_250, 7, oM_250, hM_250), some (cM_251, 2, oM_251, hM_251), some (cM_252, 3, oM_252, hM_252), some (cM_253, 3, oM_253, hM_253), some (cM_254, 2, oM_254, hM_254), some (cM_255, 4, oM_255, hM_255)]
def gT : mj_T := fun y => (mj_nth gTL y).getD none
abbrev y_Law_law : Nat := 0
abbrev kC_Law_law : mj_C := cM_0
abbrev kO_Law_law : List Nat := oM_0
abbrev kH_Law_law : mj_X := hM_0
abbrev y_Law_cell : Nat := 1
abbrev kC_Law_cell : mj_C := cM_1
abbrev kO_Law_cell : List Nat := oM_1
abbrev kH_Law_cell : mj_X := hM_1
abbrev y_Law_compile : Nat := 2
abbrev kC_Law_compile : mj_C := cM_2
abbrev kO_Law_compile : List Nat := oM_2
abbrev kH_Law_compile : mj_X := hM_2
abbrev y_Law_run : Nat := 3
abbrev kC_Law_run : mj_C := cM_3
abbrev kO_Law_run : List Nat := oM_3
abbrev kH_Law_run : mj_X := hM_3
abbrev y_P_init : Nat := 4
abbrev kC_P_init : mj_C := cM_4
abbrev kO_P_init : List Nat := oM_4
abbrev kH_P_init : mj_X := hM_4
abbrev y_P_write : Nat := 5
abbrev kC_P_write : mj_C := cM_5
abbrev kO_P_write : List Nat := oM_5
abbrev kH_P_write : mj_X := hM_5
abbrev y_P_compile : Nat := 6
abbrev kC_P_compile : mj_C := cM_6
abbrev kO_P_compile : List Nat := oM_6
abbrev kH_P_compile : mj_X := hM_6
abbrev y_P_position : Nat := 7
abbrev kC_P_position : mj_C := cM_7
abbrev kO_P_position : List Nat := oM_7
abbrev kH_P_position : mj_X := hM_7
abbrev y_P_start : Nat := 8
abbrev kC_P_start : mj_C := cM_8
abbrev kO_P_start : List Nat := oM_8
abbrev kH_P_start : mj_X := hM_8
abbrev y_P_run : Nat := 9
abbrev kC_P_run : mj_C := cM_9
abbrev kO_P_run : List Nat := oM_9
abbrev kH_P_run : mj_X := hM_9
abbrev y_P_state : Nat := 10
abbrev kC_P_state : mj_C := cM_10
abbrev kO_P_state : List Nat := oM_10
abbrev kH_P_state : mj_X := hM_10
abbrev y_P_count : Nat := 11
abbrev kC_P_count : mj_C := cM_11
abbrev kO_P_count : List Nat := oM_11
abbrev kH_P_count : mj_X := hM_11
abbrev y_P_next : Nat := 12
abbrev kC_P_next : mj_C := cM_12
abbrev kO_P_next : List Nat := oM_12
abbrev kH_P_next : mj_X := hM_12
abbrev y_P_shown : Nat := 13
abbrev kC_P_shown : mj_C := cM_13
abbrev kO_P_shown : List Nat := oM_13
abbrev kH_P_shown : mj_X := hM_13
abbrev y_Text_init : Nat := 14
abbrev kC_Text_init : mj_C := cM_14
abbrev kO_Text_init : List Nat := oM_14
abbrev kH_Text_init : mj_X := hM_14
abbrev y_Text_append : Nat := 15
abbrev kC_Text_append : mj_C := cM_15
abbrev kO_Text_append : List Nat := oM_15
abbrev kH_Text_append : mj_X := hM_15
abbrev y_Text_codeIn : Nat := 16
abbrev kC_Text_codeIn : mj_C := cM_16
abbrev kO_Text_codeIn : List Nat := oM_16
abbrev kH_Text_codeIn : mj_X := hM_16
abbrev y_Text_charactersIn : Nat := 17
abbrev kC_Text_charactersIn : mj_C := cM_17
abbrev kO_Text_charactersIn : List Nat := oM_17
abbrev kH_Text_charactersIn : mj_X := hM_17
abbrev y_Text_length : Nat := 18
abbrev kC_Text_length : mj_C := cM_18
abbrev kO_Text_length : List Nat := oM_18
abbrev kH_Text_length : mj_X := hM_18
abbrev y_Text_codeAt : Nat := 19
abbrev kC_Text_codeAt : mj_C := cM_19
abbrev kO_Text_codeAt : List Nat := oM_19
abbrev kH_Text_codeAt : mj_X := hM_19
abbrev y_Text_clear : Nat := 20
abbrev kC_Text_clear : mj_C := cM_20
abbrev kO_Text_clear : List Nat := oM_20
abbrev kH_Text_clear : mj_X := hM_20
abbrev y_Tree_init : Nat := 21
abbrev kC_Tree_init : mj_C := cM_21
abbrev kO_Tree_init : List Nat := oM_21
abbrev kH_Tree_init : mj_X := hM_21
abbrev y_Tree_clear : Nat := 22
abbrev kC_Tree_clear : mj_C := cM_22
abbrev kO_Tree_clear : List Nat := oM_22
abbrev kH_Tree_clear : mj_X := hM_22
abbrev y_Tree_add : Nat := 23
abbrev kC_Tree_add : mj_C := cM_23
abbrev kO_Tree_add : List Nat := oM_23
abbrev kH_Tree_add : mj_X := hM_23
abbrev y_Tree_addPart : Nat := 24
abbrev kC_Tree_addPart : mj_C := cM_24
abbrev kO_Tree_addPart : List Nat := oM_24
abbrev kH_Tree_addPart : mj_X := hM_24
abbrev y_Tree_entry : Nat := 25
abbrev kC_Tree_entry : mj_C := cM_25
abbrev kO_Tree_entry : List Nat := oM_25
abbrev kH_Tree_entry : mj_X := hM_25
abbrev y_Tree_kind : Nat := 26
abbrev kC_Tree_kind : mj_C := cM_26
abbrev kO_Tree_kind : List Nat := oM_26
abbrev kH_Tree_kind : mj_X := hM_26
abbrev y_Tree_value : Nat := 27
abbrev kC_Tree_value : mj_C := cM_27
abbrev kO_Tree_value : List Nat := oM_27
abbrev kH_Tree_value : mj_X := hM_27
abbrev y_Tree_positionOf : Nat := 28
abbrev kC_Tree_positionOf : mj_C := cM_28
abbrev kO_Tree_positionOf : List Nat := oM_28
abbrev kH_Tree_positionOf : mj_X := hM_28
abbrev y_Tree_firstPart : Nat := 29
abbrev kC_Tree_firstPart : mj_C := cM_29
abbrev kO_Tree_firstPart : List Nat := oM_29
abbrev kH_Tree_firstPart : mj_X := hM_29
abbrev y_Tree_follower : Nat := 30
abbrev kC_Tree_follower : mj_C := cM_30
abbrev kO_Tree_follower : List Nat := oM_30
abbrev kH_Tree_follower : mj_X := hM_30
abbrev y_Tree_part : Nat := 31
abbrev kC_Tree_part : mj_C := cM_31
abbrev kO_Tree_part : List Nat := oM_31
abbrev kH_Tree_part : mj_X := hM_31
abbrev y_Tree_parts : Nat := 32
abbrev kC_Tree_parts : mj_C := cM_32
abbrev kO_Tree_parts : List Nat := oM_32
abbrev kH_Tree_parts : mj_X := hM_32
abbrev y_Tree_placeOf : Nat := 33
abbrev kC_Tree_placeOf : mj_C := cM_33
abbrev kO_Tree_placeOf : List Nat := oM_33
abbrev kH_Tree_placeOf : mj_X := hM_33
abbrev y_Reader_init : Nat := 34
abbrev kC_Reader_init : mj_C := cM_34
abbrev kO_Reader_init : List Nat := oM_34
abbrev kH_Reader_init : mj_X := hM_34
abbrev y_Reader_read : Nat := 35
abbrev kC_Reader_read : mj_C := cM_35
abbrev kO_Reader_read : List Nat := oM_35
abbrev kH_Reader_read : mj_X := hM_35
abbrev y_Reader_expression : Nat := 36
abbrev kC_Reader_expression : mj_C := cM_36
abbrev kO_Reader_expression : List Nat := oM_36
abbrev kH_Reader_expression : mj_X := hM_36
abbrev y_Reader_bracketed : Nat := 37
abbrev kC_Reader_bracketed : mj_C := cM_37
abbrev kO_Reader_bracketed : List Nat := oM_37
abbrev kH_Reader_bracketed : mj_X := hM_37
abbrev y_Reader_operation : Nat := 38
abbrev kC_Reader_operation : mj_C := cM_38
abbrev kO_Reader_operation : List Nat := oM_38
abbrev kH_Reader_operation : mj_X := hM_38
abbrev y_Reader_call : Nat := 39
abbrev kC_Reader_call : mj_C := cM_39
abbrev kO_Reader_call : List Nat := oM_39
abbrev kH_Reader_call : mj_X := hM_39
abbrev y_Reader_function : Nat := 40
abbrev kC_Reader_function : mj_C := cM_40
abbrev kO_Reader_function : List Nat := oM_40
abbrev kH_Reader_function : mj_X := hM_40
abbrev y_Reader_parameters : Nat := 41
abbrev kC_Reader_parameters : mj_C := cM_41
abbrev kO_Reader_parameters : List Nat := oM_41
abbrev kH_Reader_parameters : mj_X := hM_41
abbrev y_Reader_parameter : Nat := 42
abbrev kC_Reader_parameter : mj_C := cM_42
abbrev kO_Reader_parameter : List Nat := oM_42
abbrev kH_Reader_parameter : mj_X := hM_42
abbrev y_Reader_bound : Nat := 43
abbrev kC_Reader_bound : mj_C := cM_43
abbrev kO_Reader_bound : List Nat := oM_43
abbrev kH_Reader_bound : mj_X := hM_43
abbrev y_Reader_binding : Nat := 44
abbrev kC_Reader_binding : mj_C := cM_44
abbrev kO_Reader_binding : List Nat := oM_44
abbrev kH_Reader_binding : mj_X := hM_44
abbrev y_Reader_datum : Nat := 45
abbrev kC_Reader_datum : mj_C := cM_45
abbrev kO_Reader_datum : List Nat := oM_45
abbrev kH_Reader_datum : mj_X := hM_45
abbrev y_Reader_atom : Nat := 46
abbrev kC_Reader_atom : mj_C := cM_46
abbrev kO_Reader_atom : List Nat := oM_46
abbrev kH_Reader_atom : mj_X := hM_46
abbrev y_Reader_number : Nat := 47
abbrev kC_Reader_number : mj_C := cM_47
abbrev kO_Reader_number : List Nat := oM_47
abbrev kH_Reader_number : mj_X := hM_47
abbrev y_Reader_letterNotAmong : Nat := 48
abbrev kC_Reader_letterNotAmong : mj_C := cM_48
abbrev kO_Reader_letterNotAmong : List Nat := oM_48
abbrev kH_Reader_letterNotAmong : mj_X := hM_48
abbrev y_Reader_open : Nat := 49
abbrev kC_Reader_open : mj_C := cM_49
abbrev kO_Reader_open : List Nat := oM_49
abbrev kH_Reader_open : mj_X := hM_49
abbrev y_Reader_need : Nat := 50
abbrev kC_Reader_need : mj_C := cM_50
abbrev kO_Reader_need : List Nat := oM_50
abbrev kH_Reader_need : mj_X := hM_50
abbrev y_Reader_fail : Nat := 51
abbrev kC_Reader_fail : mj_C := cM_51
abbrev kO_Reader_fail : List Nat := oM_51
abbrev kH_Reader_fail : mj_X := hM_51
abbrev y_Reader_isLetter : Nat := 52
abbrev kC_Reader_isLetter : mj_C := cM_52
abbrev kO_Reader_isLetter : List Nat := oM_52
abbrev kH_Reader_isLetter : mj_X := hM_52
abbrev y_Reader_isDigit : Nat := 53
abbrev kC_Reader_isDigit : mj_C := cM_53
abbrev kO_Reader_isDigit : List Nat := oM_53
abbrev kH_Reader_isDigit : mj_X := hM_53
abbrev y_Code_init : Nat := 54
abbrev kC_Code_init : mj_C := cM_54
abbrev kO_Code_init : List Nat := oM_54
abbrev kH_Code_init : mj_X := hM_54
abbrev y_Code_clear : Nat := 55
abbrev kC_Code_clear : mj_C := cM_55
abbrev kO_Code_clear : List Nat := oM_55
abbrev kH_Code_clear : mj_X := hM_55
abbrev y_Code_append : Nat := 56
abbrev kC_Code_append : mj_C := cM_56
abbrev kO_Code_append : List Nat := oM_56
abbrev kH_Code_append : mj_X := hM_56
abbrev y_Code_link : Nat := 57
abbrev kC_Code_link : mj_C := cM_57
abbrev kO_Code_link : List Nat := oM_57
abbrev kH_Code_link : mj_X := hM_57
abbrev y_Code_instruction : Nat := 58
abbrev kC_Code_instruction : mj_C := cM_58
abbrev kO_Code_instruction : List Nat := oM_58
abbrev kH_Code_instruction : mj_X := hM_58
abbrev y_Code_beginList : Nat := 59
abbrev kC_Code_beginList : mj_C := cM_59
abbrev kO_Code_beginList : List Nat := oM_59
abbrev kH_Code_beginList : mj_X := hM_59
abbrev y_Code_endList : Nat := 60
abbrev kC_Code_endList : mj_C := cM_60
abbrev kO_Code_endList : List Nat := oM_60
abbrev kH_Code_endList : mj_X := hM_60
abbrev y_Code_cells : Nat := 61
abbrev kC_Code_cells : mj_C := cM_61
abbrev kO_Code_cells : List Nat := oM_61
abbrev kH_Code_cells : mj_X := hM_61
abbrev y_Code_head : Nat := 62
abbrev kC_Code_head : mj_C := cM_62
abbrev kO_Code_head : List Nat := oM_62
abbrev kH_Code_head : mj_X := hM_62
abbrev y_Code_tail : Nat := 63
abbrev kC_Code_tail : mj_C := cM_63
abbrev kO_Code_tail : List Nat := oM_63
abbrev kH_Code_tail : mj_X := hM_63
abbrev y_Coder_init : Nat := 64
abbrev kC_Coder_init : mj_C := cM_64
abbrev kO_Coder_init : List Nat := oM_64
abbrev kH_Coder_init : mj_X := hM_64
abbrev y_Coder_layDown : Nat := 65
abbrev kC_Coder_layDown : mj_C := cM_65
abbrev kO_Coder_layDown : List Nat := oM_65
abbrev kH_Coder_layDown : mj_X := hM_65
abbrev y_Coder_expression : Nat := 66
abbrev kC_Coder_expression : mj_C := cM_66
abbrev kO_Coder_expression : List Nat := oM_66
abbrev kH_Coder_expression : mj_X := hM_66
abbrev y_Coder_constant : Nat := 67
abbrev kC_Coder_constant : mj_C := cM_67
abbrev kO_Coder_constant : List Nat := oM_67
abbrev kH_Coder_constant : mj_X := hM_67
abbrev y_Coder_datum : Nat := 68
abbrev kC_Coder_datum : mj_C := cM_68
abbrev kO_Coder_datum : List Nat := oM_68
abbrev kH_Coder_datum : mj_X := hM_68
abbrev y_Coder_variable : Nat := 69
abbrev kC_Coder_variable : mj_C := cM_69
abbrev kO_Coder_variable : List Nat := oM_69
abbrev kH_Coder_variable : mj_X := hM_69
abbrev y_Coder_noteUnknown : Nat := 70
abbrev kC_Coder_noteUnknown : mj_C := cM_70
abbrev kO_Coder_noteUnknown : List Nat := oM_70
abbrev kH_Coder_noteUnknown : mj_X := hM_70
abbrev y_Coder_placeOf : Nat := 71
abbrev kC_Coder_placeOf : mj_C := cM_71
abbrev kO_Coder_placeOf : List Nat := oM_71
abbrev kH_Coder_placeOf : mj_X := hM_71
abbrev y_Coder_enter : Nat := 72
abbrev kC_Coder_enter : mj_C := cM_72
abbrev kO_Coder_enter : List Nat := oM_72
abbrev kH_Coder_enter : mj_X := hM_72
abbrev y_Coder_leave : Nat := 73
abbrev kC_Coder_leave : mj_C := cM_73
abbrev kO_Coder_leave : List Nat := oM_73
abbrev kH_Coder_leave : mj_X := hM_73
abbrev y_Coder_operation : Nat := 74
abbrev kC_Coder_operation : mj_C := cM_74
abbrev kO_Coder_operation : List Nat := oM_74
abbrev kH_Coder_operation : mj_X := hM_74
abbrev y_Coder_choice : Nat := 75
abbrev kC_Coder_choice : mj_C := cM_75
abbrev kO_Coder_choice : List Nat := oM_75
abbrev kH_Coder_choice : mj_X := hM_75
abbrev y_Coder_list : Nat := 76
abbrev kC_Coder_list : mj_C := cM_76
abbrev kO_Coder_list : List Nat := oM_76
abbrev kH_Coder_list : mj_X := hM_76
abbrev y_Coder_function : Nat := 77
abbrev kC_Coder_function : mj_C := cM_77
abbrev kO_Coder_function : List Nat := oM_77
abbrev kH_Coder_function : mj_X := hM_77
abbrev y_Coder_body : Nat := 78
abbrev kC_Coder_body : mj_C := cM_78
abbrev kO_Coder_body : List Nat := oM_78
abbrev kH_Coder_body : mj_X := hM_78
abbrev y_Coder_call : Nat := 79
abbrev kC_Coder_call : mj_C := cM_79
abbrev kO_Coder_call : List Nat := oM_79
abbrev kH_Coder_call : mj_X := hM_79
abbrev y_Coder_bound : Nat := 80
abbrev kC_Coder_bound : mj_C := cM_80
abbrev kO_Coder_bound : List Nat := oM_80
abbrev kH_Coder_bound : mj_X := hM_80
abbrev y_Coder_boundInFrame : Nat := 81
abbrev kC_Coder_boundInFrame : mj_C := cM_81
abbrev kO_Coder_boundInFrame : List Nat := oM_81
abbrev kH_Coder_boundInFrame : mj_X := hM_81
abbrev y_Coder_boundArguments : Nat := 82
abbrev kC_Coder_boundArguments : mj_C := cM_82
abbrev kO_Coder_boundArguments : List Nat := oM_82
abbrev kH_Coder_boundArguments : mj_X := hM_82
abbrev y_Coder_beginArguments : Nat := 83
abbrev kC_Coder_beginArguments : mj_C := cM_83
abbrev kO_Coder_beginArguments : List Nat := oM_83
abbrev kH_Coder_beginArguments : mj_X := hM_83
abbrev y_Coder_argument : Nat := 84
abbrev kC_Coder_argument : mj_C := cM_84
abbrev kO_Coder_argument : List Nat := oM_84
abbrev kH_Coder_argument : mj_X := hM_84
abbrev y_Machine_init : Nat := 85
abbrev kC_Machine_init : mj_C := cM_85
abbrev kO_Machine_init : List Nat := oM_85
abbrev kH_Machine_init : mj_X := hM_85
abbrev y_Machine_load : Nat := 86
abbrev kC_Machine_load : mj_C := cM_86
abbrev kO_Machine_load : List Nat := oM_86
abbrev kH_Machine_load : mj_X := hM_86
abbrev y_Machine_begin : Nat := 87
abbrev kC_Machine_begin : mj_C := cM_87
abbrev kO_Machine_begin : List Nat := oM_87
abbrev kH_Machine_begin : mj_X := hM_87
abbrev y_Machine_setRegisters : Nat := 88
abbrev kC_Machine_setRegisters : mj_C := cM_88
abbrev kO_Machine_setRegisters : List Nat := oM_88
abbrev kH_Machine_setRegisters : mj_X := hM_88
abbrev y_Machine_step : Nat := 89
abbrev kC_Machine_step : mj_C := cM_89
abbrev kO_Machine_step : List Nat := oM_89
abbrev kH_Machine_step : mj_X := hM_89
abbrev y_Machine_collect : Nat := 90
abbrev kC_Machine_collect : mj_C := cM_90
abbrev kO_Machine_collect : List Nat := oM_90
abbrev kH_Machine_collect : mj_X := hM_90
abbrev y_Machine_act : Nat := 91
abbrev kC_Machine_act : mj_C := cM_91
abbrev kO_Machine_act : List Nat := oM_91
abbrev kH_Machine_act : mj_X := hM_91
abbrev y_Machine_constant : Nat := 92
abbrev kC_Machine_constant : mj_C := cM_92
abbrev kO_Machine_constant : List Nat := oM_92
abbrev kH_Machine_constant : mj_X := hM_92
abbrev y_Machine_variable : Nat := 93
abbrev kC_Machine_variable : mj_C := cM_93
abbrev kO_Machine_variable : List Nat := oM_93
abbrev kH_Machine_variable : mj_X := hM_93
abbrev y_Machine_function : Nat := 94
abbrev kC_Machine_function : mj_C := cM_94
abbrev kO_Machine_function : List Nat := oM_94
abbrev kH_Machine_function : mj_X := hM_94
abbrev y_Machine_apply : Nat := 95
abbrev kC_Machine_apply : mj_C := cM_95
abbrev kO_Machine_apply : List Nat := oM_95
abbrev kH_Machine_apply : mj_X := hM_95
abbrev y_Machine_applyInFrame : Nat := 96
abbrev kC_Machine_applyInFrame : mj_C := cM_96
abbrev kO_Machine_applyInFrame : List Nat := oM_96
abbrev kH_Machine_applyInFrame : mj_X := hM_96
abbrev y_Machine_save : Nat := 97
abbrev kC_Machine_save : mj_C := cM_97
abbrev kO_Machine_save : List Nat := oM_97
abbrev kH_Machine_save : mj_X := hM_97
abbrev y_Machine_giveBack : Nat := 98
abbrev kC_Machine_giveBack : mj_C := cM_98
abbrev kO_Machine_giveBack : List Nat := oM_98
abbrev kH_Machine_giveBack : mj_X := hM_98
abbrev y_Machine_frame : Nat := 99
abbrev kC_Machine_frame : mj_C := cM_99
abbrev kO_Machine_frame : List Nat := oM_99
abbrev kH_Machine_frame : mj_X := hM_99
abbrev y_Machine_choose : Nat := 100
abbrev kC_Machine_choose : mj_C := cM_100
abbrev kO_Machine_choose : List Nat := oM_100
abbrev kH_Machine_choose : mj_X := hM_100
abbrev y_Machine_rejoin : Nat := 101
abbrev kC_Machine_rejoin : mj_C := cM_101
abbrev kO_Machine_rejoin : List Nat := oM_101
abbrev kH_Machine_rejoin : mj_X := hM_101
abbrev y_Machine_partOfPair : Nat := 102
abbrev kC_Machine_partOfPair : mj_C := cM_102
abbrev kO_Machine_partOfPair : List Nat := oM_102
abbrev kH_Machine_partOfPair : mj_X := hM_102
abbrev y_Machine_isNoPair : Nat := 103
abbrev kC_Machine_isNoPair : mj_C := cM_103
abbrev kO_Machine_isNoPair : List Nat := oM_103
abbrev kH_Machine_isNoPair : mj_X := hM_103
abbrev y_Machine_pair : Nat := 104
abbrev kC_Machine_pair : mj_C := cM_104
abbrev kO_Machine_pair : List Nat := oM_104
abbrev kH_Machine_pair : mj_X := hM_104
abbrev y_Machine_same : Nat := 105
abbrev kC_Machine_same : mj_C := cM_105
abbrev kO_Machine_same : List Nat := oM_105
abbrev kH_Machine_same : mj_X := hM_105
abbrev y_Machine_calculate : Nat := 106
abbrev kC_Machine_calculate : mj_C := cM_106
abbrev kO_Machine_calculate : List Nat := oM_106
abbrev kH_Machine_calculate : mj_X := hM_106
abbrev y_Machine_calculated : Nat := 107
abbrev kC_Machine_calculated : mj_C := cM_107
abbrev kO_Machine_calculated : List Nat := oM_107
abbrev kH_Machine_calculated : mj_X := hM_107
abbrev y_Machine_replace : Nat := 108
abbrev kC_Machine_replace : mj_C := cM_108
abbrev kO_Machine_replace : List Nat := oM_108
abbrev kH_Machine_replace : mj_X := hM_108
abbrev y_Machine_stop : Nat := 109
abbrev kC_Machine_stop : mj_C := cM_109
abbrev kO_Machine_stop : List Nat := oM_109
abbrev kH_Machine_stop : mj_X := hM_109
abbrev y_Machine_instruction : Nat := 110
abbrev kC_Machine_instruction : mj_C := cM_110
abbrev kO_Machine_instruction : List Nat := oM_110
abbrev kH_Machine_instruction : mj_X := hM_110
abbrev y_Machine_mode : Nat := 111
abbrev kC_Machine_mode : mj_C := cM_111
abbrev kO_Machine_mode : List Nat := oM_111
abbrev kH_Machine_mode : mj_X := hM_111
abbrev y_Machine_usedCells : Nat := 112
abbrev kC_Machine_usedCells : mj_C := cM_112
abbrev kO_Machine_usedCells : List Nat := oM_112
abbrev kH_Machine_usedCells : mj_X := hM_112
abbrev y_Machine_reachableCells : Nat := 113
abbrev kC_Machine_reachableCells : mj_C := cM_113
abbrev kO_Machine_reachableCells : List Nat := oM_113
abbrev kH_Machine_reachableCells : mj_X := hM_113
abbrev y_Machine_collections : Nat := 114
abbrev kC_Machine_collections : mj_C := cM_114
abbrev kO_Machine_collections : List Nat := oM_114
abbrev kH_Machine_collections : mj_X := hM_114
abbrev y_Machine_takenBack : Nat := 115
abbrev kC_Machine_takenBack : mj_C := cM_115
abbrev kO_Machine_takenBack : List Nat := oM_115
abbrev kH_Machine_takenBack : mj_X := hM_115
abbrev y_Machine_steps : Nat := 116
abbrev kC_Machine_steps : mj_C := cM_116
abbrev kO_Machine_steps : List Nat := oM_116
abbrev kH_Machine_steps : mj_X := hM_116
abbrev y_Machine_stackLength : Nat := 117
abbrev kC_Machine_stackLength : mj_C := cM_117
abbrev kO_Machine_stackLength : List Nat := oM_117
abbrev kH_Machine_stackLength : mj_X := hM_117
abbrev y_Machine_dumpLength : Nat := 118
abbrev kC_Machine_dumpLength : mj_C := cM_118
abbrev kO_Machine_dumpLength : List Nat := oM_118
abbrev kH_Machine_dumpLength : mj_X := hM_118
abbrev y_Machine_shownCode : Nat := 119
abbrev kC_Machine_shownCode : mj_C := cM_119
abbrev kO_Machine_shownCode : List Nat := oM_119
abbrev kH_Machine_shownCode : mj_X := hM_119
abbrev y_Store_init : Nat := 120
abbrev kC_Store_init : mj_C := cM_120
abbrev kO_Store_init : List Nat := oM_120
abbrev kH_Store_init : mj_X := hM_120
abbrev y_Store_load : Nat := 121
abbrev kC_Store_load : mj_C := cM_121
abbrev kO_Store_load : List Nat := oM_121
abbrev kH_Store_load : mj_X := hM_121
abbrev y_Store_freeAllButCode : Nat := 122
abbrev kC_Store_freeAllButCode : mj_C := cM_122
abbrev kO_Store_freeAllButCode : List Nat := oM_122
abbrev kH_Store_freeAllButCode : mj_X := hM_122
abbrev y_Store_code : Nat := 123
abbrev kC_Store_code : mj_C := cM_123
abbrev kO_Store_code : List Nat := oM_123
abbrev kH_Store_code : mj_X := hM_123
abbrev y_Store_freeCells : Nat := 124
abbrev kC_Store_freeCells : mj_C := cM_124
abbrev kO_Store_freeCells : List Nat := oM_124
abbrev kH_Store_freeCells : mj_X := hM_124
abbrev y_Store_usedCells : Nat := 125
abbrev kC_Store_usedCells : mj_C := cM_125
abbrev kO_Store_usedCells : List Nat := oM_125
abbrev kH_Store_usedCells : mj_X := hM_125
abbrev y_Store_newPair : Nat := 126
abbrev kC_Store_newPair : mj_C := cM_126
abbrev kO_Store_newPair : List Nat := oM_126
abbrev kH_Store_newPair : mj_X := hM_126
abbrev y_Store_newFunction : Nat := 127
abbrev kC_Store_newFunction : mj_C := cM_127
abbrev kO_Store_newFunction : List Nat := oM_127
abbrev kH_Store_newFunction : mj_X := hM_127
abbrev y_Store_newCell : Nat := 128
abbrev kC_Store_newCell : mj_C := cM_128
abbrev kO_Store_newCell : List Nat := oM_128
abbrev kH_Store_newCell : mj_X := hM_128
abbrev y_Store_head : Nat := 129
abbrev kC_Store_head : mj_C := cM_129
abbrev kO_Store_head : List Nat := oM_129
abbrev kH_Store_head : mj_X := hM_129
abbrev y_Store_tail : Nat := 130
abbrev kC_Store_tail : mj_C := cM_130
abbrev kO_Store_tail : List Nat := oM_130
abbrev kH_Store_tail : mj_X := hM_130
abbrev y_Store_setHead : Nat := 131
abbrev kC_Store_setHead : mj_C := cM_131
abbrev kO_Store_setHead : List Nat := oM_131
abbrev kH_Store_setHead : mj_X := hM_131
abbrev y_Store_behind : Nat := 132
abbrev kC_Store_behind : mj_C := cM_132
abbrev kO_Store_behind : List Nat := oM_132
abbrev kH_Store_behind : mj_X := hM_132
abbrev y_Store_length : Nat := 133
abbrev kC_Store_length : mj_C := cM_133
abbrev kO_Store_length : List Nat := oM_133
abbrev kH_Store_length : mj_X := hM_133
abbrev y_Store_mark : Nat := 134
abbrev kC_Store_mark : mj_C := cM_134
abbrev kO_Store_mark : List Nat := oM_134
abbrev kH_Store_mark : mj_X := hM_134
abbrev y_Store_reach : Nat := 135
abbrev kC_Store_reach : mj_C := cM_135
abbrev kO_Store_reach : List Nat := oM_135
abbrev kH_Store_reach : mj_X := hM_135
abbrev y_Store_freeUnmarked : Nat := 136
abbrev kC_Store_freeUnmarked : mj_C := cM_136
abbrev kO_Store_freeUnmarked : List Nat := oM_136
abbrev kH_Store_freeUnmarked : mj_X := hM_136
abbrev y_Display_init : Nat := 137
abbrev kC_Display_init : mj_C := cM_137
abbrev kO_Display_init : List Nat := oM_137
abbrev kH_Display_init : mj_X := hM_137
abbrev y_Display_show : Nat := 138
abbrev kC_Display_show : mj_C := cM_138
abbrev kO_Display_show : List Nat := oM_138
abbrev kH_Display_show : mj_X := hM_138
abbrev y_Display_endLists : Nat := 139
abbrev kC_Display_endLists : mj_C := cM_139
abbrev kO_Display_endLists : List Nat := oM_139
abbrev kH_Display_endLists : mj_X := hM_139
abbrev y_Display_showAtom : Nat := 140
abbrev kC_Display_showAtom : mj_C := cM_140
abbrev kO_Display_showAtom : List Nat := oM_140
abbrev kH_Display_showAtom : mj_X := hM_140
abbrev y_Display_codeAt : Nat := 141
abbrev kC_Display_codeAt : mj_C := cM_141
abbrev kO_Display_codeAt : List Nat := oM_141
abbrev kH_Display_codeAt : mj_X := hM_141
abbrev y_Op_needs : Nat := 142
abbrev kC_Op_needs : mj_C := cM_142
abbrev kO_Op_needs : List Nat := oM_142
abbrev kH_Op_needs : mj_X := hM_142
abbrev y_Op_of : Nat := 143
abbrev kC_Op_of : mj_C := cM_143
abbrev kO_Op_of : List Nat := oM_143
abbrev kH_Op_of : mj_X := hM_143
abbrev y_Op_operands : Nat := 144
abbrev kC_Op_operands : mj_C := cM_144
abbrev kO_Op_operands : List Nat := oM_144
abbrev kH_Op_operands : mj_X := hM_144
abbrev y_Value_number : Nat := 145
abbrev kC_Value_number : mj_C := cM_145
abbrev kO_Value_number : List Nat := oM_145
abbrev kH_Value_number : mj_X := hM_145
abbrev y_Value_symbol : Nat := 146
abbrev kC_Value_symbol : mj_C := cM_146
abbrev kO_Value_symbol : List Nat := oM_146
abbrev kH_Value_symbol : mj_X := hM_146
abbrev y_Value_pair : Nat := 147
abbrev kC_Value_pair : mj_C := cM_147
abbrev kO_Value_pair : List Nat := oM_147
abbrev kH_Value_pair : mj_X := hM_147
abbrev y_Value_function : Nat := 148
abbrev kC_Value_function : mj_C := cM_148
abbrev kO_Value_function : List Nat := oM_148
abbrev kH_Value_function : mj_X := hM_148
abbrev y_Value_isNumber : Nat := 149
abbrev kC_Value_isNumber : mj_C := cM_149
abbrev kO_Value_isNumber : List Nat := oM_149
abbrev kH_Value_isNumber : mj_X := hM_149
abbrev y_Value_isPair : Nat := 150
abbrev kC_Value_isPair : mj_C := cM_150
abbrev kO_Value_isPair : List Nat := oM_150
abbrev kH_Value_isPair : mj_X := hM_150
abbrev y_Value_isFunction : Nat := 151
abbrev kC_Value_isFunction : mj_C := cM_151
abbrev kO_Value_isFunction : List Nat := oM_151
abbrev kH_Value_isFunction : mj_X := hM_151
abbrev y_Value_isSymbol : Nat := 152
abbrev kC_Value_isSymbol : mj_C := cM_152
abbrev kO_Value_isSymbol : List Nat := oM_152
abbrev kH_Value_isSymbol : mj_X := hM_152
abbrev y_Value_cell : Nat := 153
abbrev kC_Value_cell : mj_C := cM_153
abbrev kO_Value_cell : List Nat := oM_153
abbrev kH_Value_cell : mj_X := hM_153
abbrev y_Value_content : Nat := 154
abbrev kC_Value_content : mj_C := cM_154
abbrev kO_Value_content : List Nat := oM_154
abbrev kH_Value_content : mj_X := hM_154
abbrev y_R_init : Nat := 155
abbrev kC_R_init : mj_C := cM_155
abbrev kO_R_init : List Nat := oM_155
abbrev kH_R_init : mj_X := hM_155
abbrev y_R_write : Nat := 156
abbrev kC_R_write : mj_C := cM_156
abbrev kO_R_write : List Nat := oM_156
abbrev kH_R_write : mj_X := hM_156
abbrev y_R_here : Nat := 157
abbrev kC_R_here : mj_C := cM_157
abbrev kO_R_here : List Nat := oM_157
abbrev kH_R_here : mj_X := hM_157
abbrev y_R_takes : Nat := 158
abbrev kC_R_takes : mj_C := cM_158
abbrev kO_R_takes : List Nat := oM_158
abbrev kH_R_takes : mj_X := hM_158
abbrev y_R_isDigit : Nat := 159
abbrev kC_R_isDigit : mj_C := cM_159
abbrev kO_R_isDigit : List Nat := oM_159
abbrev kH_R_isDigit : mj_X := hM_159
abbrev y_R_isLetter : Nat := 160
abbrev kC_R_isLetter : mj_C := cM_160
abbrev kO_R_isLetter : List Nat := oM_160
abbrev kH_R_isLetter : mj_X := hM_160
abbrev y_R_opens : Nat := 161
abbrev kC_R_opens : mj_C := cM_161
abbrev kO_R_opens : List Nat := oM_161
abbrev kH_R_opens : mj_X := hM_161
abbrev y_R_closes : Nat := 162
abbrev kC_R_closes : mj_C := cM_162
abbrev kO_R_closes : List Nat := oM_162
abbrev kH_R_closes : mj_X := hM_162
abbrev y_R_part : Nat := 163
abbrev kC_R_part : mj_C := cM_163
abbrev kO_R_part : List Nat := oM_163
abbrev kH_R_part : mj_X := hM_163
abbrev y_R_number : Nat := 164
abbrev kC_R_number : mj_C := cM_164
abbrev kO_R_number : List Nat := oM_164
abbrev kH_R_number : mj_X := hM_164
abbrev y_R_numberAt : Nat := 165
abbrev kC_R_numberAt : mj_C := cM_165
abbrev kO_R_numberAt : List Nat := oM_165
abbrev kH_R_numberAt : mj_X := hM_165
abbrev y_R_datum : Nat := 166
abbrev kC_R_datum : mj_C := cM_166
abbrev kO_R_datum : List Nat := oM_166
abbrev kH_R_datum : mj_X := hM_166
abbrev y_R_parameters : Nat := 167
abbrev kC_R_parameters : mj_C := cM_167
abbrev kO_R_parameters : List Nat := oM_167
abbrev kH_R_parameters : mj_X := hM_167
abbrev y_R_arity : Nat := 168
abbrev kC_R_arity : mj_C := cM_168
abbrev kO_R_arity : List Nat := oM_168
abbrev kH_R_arity : mj_X := hM_168
abbrev y_R_begin : Nat := 169
abbrev kC_R_begin : mj_C := cM_169
abbrev kO_R_begin : List Nat := oM_169
abbrev kH_R_begin : mj_X := hM_169
abbrev y_R_binding : Nat := 170
abbrev kC_R_binding : mj_C := cM_170
abbrev kO_R_binding : List Nat := oM_170
abbrev kH_R_binding : mj_X := hM_170
abbrev y_R_goOn : Nat := 171
abbrev kC_R_goOn : mj_C := cM_171
abbrev kO_R_goOn : List Nat := oM_171
abbrev kH_R_goOn : mj_X := hM_171
abbrev y_R_read : Nat := 172
abbrev kC_R_read : mj_C := cM_172
abbrev kO_R_read : List Nat := oM_172
abbrev kH_R_read : mj_X := hM_172
abbrev y_R_placeIn : Nat := 173
abbrev kC_R_placeIn : mj_C := cM_173
abbrev kO_R_placeIn : List Nat := oM_173
abbrev kH_R_placeIn : mj_X := hM_173
abbrev y_R_resolved : Nat := 174
abbrev kC_R_resolved : mj_C := cM_174
abbrev kO_R_resolved : List Nat := oM_174
abbrev kH_R_resolved : mj_X := hM_174
abbrev y_R_firstUnknown : Nat := 175
abbrev kC_R_firstUnknown : mj_C := cM_175
abbrev kO_R_firstUnknown : List Nat := oM_175
abbrev kH_R_firstUnknown : mj_X := hM_175
abbrev y_R_sign : Nat := 176
abbrev kC_R_sign : mj_C := cM_176
abbrev kO_R_sign : List Nat := oM_176
abbrev kH_R_sign : mj_X := hM_176
abbrev y_R_later : Nat := 177
abbrev kC_R_later : mj_C := cM_177
abbrev kO_R_later : List Nat := oM_177
abbrev kH_R_later : mj_X := hM_177
abbrev y_R_writeDatum : Nat := 178
abbrev kC_R_writeDatum : mj_C := cM_178
abbrev kO_R_writeDatum : List Nat := oM_178
abbrev kH_R_writeDatum : mj_X := hM_178
abbrev y_R_codeOf : Nat := 179
abbrev kC_R_codeOf : mj_C := cM_179
abbrev kO_R_codeOf : List Nat := oM_179
abbrev kH_R_codeOf : mj_X := hM_179
abbrev y_R_laterCode : Nat := 180
abbrev kC_R_laterCode : mj_C := cM_180
abbrev kO_R_laterCode : List Nat := oM_180
abbrev kH_R_laterCode : mj_X := hM_180
abbrev y_R_laterRow : Nat := 181
abbrev kC_R_laterRow : mj_C := cM_181
abbrev kO_R_laterRow : List Nat := oM_181
abbrev kH_R_laterRow : mj_X := hM_181
abbrev y_R_writePart : Nat := 182
abbrev kC_R_writePart : mj_C := cM_182
abbrev kO_R_writePart : List Nat := oM_182
abbrev kH_R_writePart : mj_X := hM_182
abbrev y_R_writeSign : Nat := 183
abbrev kC_R_writeSign : mj_C := cM_183
abbrev kO_R_writeSign : List Nat := oM_183
abbrev kH_R_writeSign : mj_X := hM_183
abbrev y_R_writeCode : Nat := 184
abbrev kC_R_writeCode : mj_C := cM_184
abbrev kO_R_writeCode : List Nat := oM_184
abbrev kH_R_writeCode : mj_X := hM_184
abbrev y_R_free : Nat := 185
abbrev kC_R_free : mj_C := cM_185
abbrev kO_R_free : List Nat := oM_185
abbrev kH_R_free : mj_X := hM_185
abbrev y_R_make : Nat := 186
abbrev kC_R_make : mj_C := cM_186
abbrev kO_R_make : List Nat := oM_186
abbrev kH_R_make : mj_X := hM_186
abbrev y_R_makeOf : Nat := 187
abbrev kC_R_makeOf : mj_C := cM_187
abbrev kO_R_makeOf : List Nat := oM_187
abbrev kH_R_makeOf : mj_X := hM_187
abbrev y_R_lay : Nat := 188
abbrev kC_R_lay : mj_C := cM_188
abbrev kO_R_lay : List Nat := oM_188
abbrev kH_R_lay : mj_X := hM_188
abbrev y_R_mark : Nat := 189
abbrev kC_R_mark : mj_C := cM_189
abbrev kO_R_mark : List Nat := oM_189
abbrev kH_R_mark : mj_X := hM_189
abbrev y_R_reach : Nat := 190
abbrev kC_R_reach : mj_C := cM_190
abbrev kO_R_reach : List Nat := oM_190
abbrev kH_R_reach : mj_X := hM_190
abbrev y_R_sweep : Nat := 191
abbrev kC_R_sweep : mj_C := cM_191
abbrev kO_R_sweep : List Nat := oM_191
abbrev kH_R_sweep : mj_X := hM_191
abbrev y_R_compile : Nat := 192
abbrev kC_R_compile : mj_C := cM_192
abbrev kO_R_compile : List Nat := oM_192
abbrev kH_R_compile : mj_X := hM_192
abbrev y_R_position : Nat := 193
abbrev kC_R_position : mj_C := cM_193
abbrev kO_R_position : List Nat := oM_193
abbrev kH_R_position : mj_X := hM_193
abbrev y_R_start : Nat := 194
abbrev kC_R_start : mj_C := cM_194
abbrev kO_R_start : List Nat := oM_194
abbrev kH_R_start : mj_X := hM_194
abbrev y_R_needs : Nat := 195
abbrev kC_R_needs : mj_C := cM_195
abbrev kO_R_needs : List Nat := oM_195
abbrev kH_R_needs : mj_X := hM_195
abbrev y_R_rest : Nat := 196
abbrev kC_R_rest : mj_C := cM_196
abbrev kO_R_rest : List Nat := oM_196
abbrev kH_R_rest : mj_X := hM_196
abbrev y_R_headList : Nat := 197
abbrev kC_R_headList : mj_C := cM_197
abbrev kO_R_headList : List Nat := oM_197
abbrev kH_R_headList : mj_X := hM_197
abbrev y_R_peek : Nat := 198
abbrev kC_R_peek : mj_C := cM_198
abbrev kO_R_peek : List Nat := oM_198
abbrev kH_R_peek : mj_X := hM_198
abbrev y_R_drop : Nat := 199
abbrev kC_R_drop : mj_C := cM_199
abbrev kO_R_drop : List Nat := oM_199
abbrev kH_R_drop : mj_X := hM_199
abbrev y_R_push : Nat := 200
abbrev kC_R_push : mj_C := cM_200
abbrev kO_R_push : List Nat := oM_200
abbrev kH_R_push : mj_X := hM_200
abbrev y_R_isFunction : Nat := 201
abbrev kC_R_isFunction : mj_C := cM_201
abbrev kO_R_isFunction : List Nat := oM_201
abbrev kH_R_isFunction : mj_X := hM_201
abbrev y_R_isPair : Nat := 202
abbrev kC_R_isPair : mj_C := cM_202
abbrev kO_R_isPair : List Nat := oM_202
abbrev kH_R_isPair : mj_X := hM_202
abbrev y_R_stop : Nat := 203
abbrev kC_R_stop : mj_C := cM_203
abbrev kO_R_stop : List Nat := oM_203
abbrev kH_R_stop : mj_X := hM_203
abbrev y_R_step : Nat := 204
abbrev kC_R_step : mj_C := cM_204
abbrev kO_R_step : List Nat := oM_204
abbrev kH_R_step : mj_X := hM_204
abbrev y_R_look : Nat := 205
abbrev kC_R_look : mj_C := cM_205
abbrev kO_R_look : List Nat := oM_205
abbrev kH_R_look : mj_X := hM_205
abbrev y_R_call : Nat := 206
abbrev kC_R_call : mj_C := cM_206
abbrev kO_R_call : List Nat := oM_206
abbrev kH_R_call : mj_X := hM_206
abbrev y_R_comeBack : Nat := 207
abbrev kC_R_comeBack : mj_C := cM_207
abbrev kO_R_comeBack : List Nat := oM_207
abbrev kH_R_comeBack : mj_X := hM_207
abbrev y_R_choose : Nat := 208
abbrev kC_R_choose : mj_C := cM_208
abbrev kO_R_choose : List Nat := oM_208
abbrev kH_R_choose : mj_X := hM_208
abbrev y_R_ofOne : Nat := 209
abbrev kC_R_ofOne : mj_C := cM_209
abbrev kO_R_ofOne : List Nat := oM_209
abbrev kH_R_ofOne : mj_X := hM_209
abbrev y_R_ofTwo : Nat := 210
abbrev kC_R_ofTwo : mj_C := cM_210
abbrev kO_R_ofTwo : List Nat := oM_210
abbrev kH_R_ofTwo : mj_X := hM_210
abbrev y_R_run : Nat := 211
abbrev kC_R_run : mj_C := cM_211
abbrev kO_R_run : List Nat := oM_211
abbrev kH_R_run : mj_X := hM_211
abbrev y_R_say : Nat := 212
abbrev kC_R_say : mj_C := cM_212
abbrev kO_R_say : List Nat := oM_212
abbrev kH_R_say : mj_X := hM_212
abbrev y_R_sayNumber : Nat := 213
abbrev kC_R_sayNumber : mj_C := cM_213
abbrev kO_R_sayNumber : List Nat := oM_213
abbrev kH_R_sayNumber : mj_X := hM_213
abbrev y_R_sayHead : Nat := 214
abbrev kC_R_sayHead : mj_C := cM_214
abbrev kO_R_sayHead : List Nat := oM_214
abbrev kH_R_sayHead : mj_X := hM_214
abbrev y_R_showAll : Nat := 215
abbrev kC_R_showAll : mj_C := cM_215
abbrev kO_R_showAll : List Nat := oM_215
abbrev kH_R_showAll : mj_X := hM_215
abbrev y_R_state : Nat := 216
abbrev kC_R_state : mj_C := cM_216
abbrev kO_R_state : List Nat := oM_216
abbrev kH_R_state : mj_X := hM_216
abbrev y_R_lengthOf : Nat := 217
abbrev kC_R_lengthOf : mj_C := cM_217
abbrev kO_R_lengthOf : List Nat := oM_217
abbrev kH_R_lengthOf : mj_X := hM_217
abbrev y_R_count : Nat := 218
abbrev kC_R_count : mj_C := cM_218
abbrev kO_R_count : List Nat := oM_218
abbrev kH_R_count : mj_X := hM_218
abbrev y_R_next : Nat := 219
abbrev kC_R_next : mj_C := cM_219
abbrev kO_R_next : List Nat := oM_219
abbrev kH_R_next : mj_X := hM_219
abbrev y_R_shown : Nat := 220
abbrev kC_R_shown : mj_C := cM_220
abbrev kO_R_shown : List Nat := oM_220
abbrev kH_R_shown : mj_X := hM_220
abbrev y_StringBuilder_init : Nat := 221
abbrev kC_StringBuilder_init : mj_C := cM_221
abbrev kO_StringBuilder_init : List Nat := oM_221
abbrev kH_StringBuilder_init : mj_X := hM_221
abbrev y_AbstractStringBuilder_init : Nat := 222
abbrev kC_AbstractStringBuilder_init : mj_C := cM_222
abbrev kO_AbstractStringBuilder_init : List Nat := oM_222
abbrev kH_AbstractStringBuilder_init : mj_X := hM_222
abbrev y_StringBuilder_length : Nat := 223
abbrev kC_StringBuilder_length : mj_C := cM_223
abbrev kO_StringBuilder_length : List Nat := oM_223
abbrev kH_StringBuilder_length : mj_X := hM_223
abbrev y_AbstractStringBuilder_length : Nat := 224
abbrev kC_AbstractStringBuilder_length : mj_C := cM_224
abbrev kO_AbstractStringBuilder_length : List Nat := oM_224
abbrev kH_AbstractStringBuilder_length : mj_X := hM_224
abbrev y_StringBuilder_charAt : Nat := 225
abbrev kC_StringBuilder_charAt : mj_C := cM_225
abbrev kO_StringBuilder_charAt : List Nat := oM_225
abbrev kH_StringBuilder_charAt : mj_X := hM_225
abbrev y_AbstractStringBuilder_charAt : Nat := 226
abbrev kC_AbstractStringBuilder_charAt : mj_C := cM_226
abbrev kO_AbstractStringBuilder_charAt : List Nat := oM_226
abbrev kH_AbstractStringBuilder_charAt : mj_X := hM_226
abbrev y_String_checkIndex : Nat := 227
abbrev kC_String_checkIndex : mj_C := cM_227
abbrev kO_String_checkIndex : List Nat := oM_227
abbrev kH_String_checkIndex : mj_X := hM_227
abbrev y_Preconditions_checkIndex : Nat := 228
abbrev kC_Preconditions_checkIndex : mj_C := cM_228
abbrev kO_Preconditions_checkIndex : List Nat := oM_228
abbrev kH_Preconditions_checkIndex : mj_X := hM_228
abbrev y_String_indexOf_I : Nat := 229
abbrev kC_String_indexOf_I : mj_C := cM_229
abbrev kO_String_indexOf_I : List Nat := oM_229
abbrev kH_String_indexOf_I : mj_X := hM_229
abbrev y_String_indexOf_II : Nat := 230
abbrev kC_String_indexOf_II : mj_C := cM_230
abbrev kO_String_indexOf_II : List Nat := oM_230
abbrev kH_String_indexOf_II : mj_X := hM_230
abbrev y_String_isLatin1 : Nat := 231
abbrev kC_String_isLatin1 : mj_C := cM_231
abbrev kO_String_isLatin1 : List Nat := oM_231
abbrev kH_String_isLatin1 : mj_X := hM_231
abbrev y_String_length : Nat := 232
abbrev kC_String_length : mj_C := cM_232
abbrev kO_String_length : List Nat := oM_232
abbrev kH_String_length : mj_X := hM_232
abbrev y_String_coder : Nat := 233
abbrev kC_String_coder : mj_C := cM_233
abbrev kO_String_coder : List Nat := oM_233
abbrev kH_String_coder : mj_X := hM_233
abbrev y_StringLatin1_indexOf : Nat := 234
abbrev kC_StringLatin1_indexOf : mj_C := cM_234
abbrev kO_StringLatin1_indexOf : List Nat := oM_234
abbrev kH_StringLatin1_indexOf : mj_X := hM_234
abbrev y_StringLatin1_canEncode_I : Nat := 235
abbrev kC_StringLatin1_canEncode_I : mj_C := cM_235
abbrev kO_StringLatin1_canEncode_I : List Nat := oM_235
abbrev kH_StringLatin1_canEncode_I : mj_X := hM_235
abbrev y_StringLatin1_indexOfChar : Nat := 236
abbrev kC_StringLatin1_indexOfChar : mj_C := cM_236
abbrev kO_StringLatin1_indexOfChar : List Nat := oM_236
abbrev kH_StringLatin1_indexOfChar : mj_X := hM_236
abbrev y_StringBuilder_setLength : Nat := 237
abbrev kC_StringBuilder_setLength : mj_C := cM_237
abbrev kO_StringBuilder_setLength : List Nat := oM_237
abbrev kH_StringBuilder_setLength : mj_X := hM_237
abbrev y_AbstractStringBuilder_setLength : Nat := 238
abbrev kC_AbstractStringBuilder_setLength : mj_C := cM_238
abbrev kO_AbstractStringBuilder_setLength : List Nat := oM_238
abbrev kH_AbstractStringBuilder_setLength : mj_X := hM_238
abbrev y_AbstractStringBuilder_ensureCapacityInternal : Nat := 239
abbrev kC_AbstractStringBuilder_ensureCapacityInternal : mj_C := cM_239
abbrev kO_AbstractStringBuilder_ensureCapacityInternal : List Nat := oM_239
abbrev kH_AbstractStringBuilder_ensureCapacityInternal : mj_X := hM_239
abbrev y_AbstractStringBuilder_newCapacity : Nat := 240
abbrev kC_AbstractStringBuilder_newCapacity : mj_C := cM_240
abbrev kO_AbstractStringBuilder_newCapacity : List Nat := oM_240
abbrev kH_AbstractStringBuilder_newCapacity : mj_X := hM_240
abbrev y_ArraysSupport_newLength : Nat := 241
abbrev kC_ArraysSupport_newLength : mj_C := cM_241
abbrev kO_ArraysSupport_newLength : List Nat := oM_241
abbrev kH_ArraysSupport_newLength : mj_X := hM_241
abbrev y_Arrays_copyOf : Nat := 242
abbrev kC_Arrays_copyOf : mj_C := cM_242
abbrev kO_Arrays_copyOf : List Nat := oM_242
abbrev kH_Arrays_copyOf : mj_X := hM_242
abbrev y_AbstractStringBuilder_isLatin1 : Nat := 243
abbrev kC_AbstractStringBuilder_isLatin1 : mj_C := cM_243
abbrev kO_AbstractStringBuilder_isLatin1 : List Nat := oM_243
abbrev kH_AbstractStringBuilder_isLatin1 : mj_X := hM_243
abbrev y_StringBuilder_append_C : Nat := 244
abbrev kC_StringBuilder_append_C : mj_C := cM_244
abbrev kO_StringBuilder_append_C : List Nat := oM_244
abbrev kH_StringBuilder_append_C : mj_X := hM_244
abbrev y_AbstractStringBuilder_append_C : Nat := 245
abbrev kC_AbstractStringBuilder_append_C : mj_C := cM_245
abbrev kO_AbstractStringBuilder_append_C : List Nat := oM_245
abbrev kH_AbstractStringBuilder_append_C : mj_X := hM_245
abbrev y_StringLatin1_canEncode_C : Nat := 246
abbrev kC_StringLatin1_canEncode_C : mj_C := cM_246
abbrev kO_StringLatin1_canEncode_C : List Nat := oM_246
abbrev kH_StringLatin1_canEncode_C : mj_X := hM_246
abbrev y_StringBuilder_append_I : Nat := 247
abbrev kC_StringBuilder_append_I : mj_C := cM_247
abbrev kO_StringBuilder_append_I : List Nat := oM_247
abbrev kH_StringBuilder_append_I : mj_X := hM_247
abbrev y_AbstractStringBuilder_append_I : Nat := 248
abbrev kC_AbstractStringBuilder_append_I : mj_C := cM_248
abbrev kO_AbstractStringBuilder_append_I : List Nat := oM_248
abbrev kH_AbstractStringBuilder_append_I : mj_X := hM_248
abbrev y_Integer_stringSize : Nat := 249
abbrev kC_Integer_stringSize : mj_C := cM_249
abbrev kO_Integer_stringSize : List Nat := oM_249
abbrev kH_Integer_stringSize : mj_X := hM_249
abbrev y_Integer_getChars : Nat := 250
abbrev kC_Integer_getChars : mj_C := cM_250
abbrev kO_Integer_getChars : List Nat := oM_250
abbrev kH_Integer_getChars : mj_X := hM_250
abbrev y_StringBuilder_append_S : Nat := 251
abbrev kC_StringBuilder_append_S : mj_C := cM_251
abbrev kO_StringBuilder_append_S : List Nat := oM_251
abbrev kH_StringBuilder_append_S : mj_X := hM_251
abbrev y_AbstractStringBuilder_append_S : Nat := 252
abbrev kC_AbstractStringBuilder_append_S : mj_C := cM_252
abbrev kO_AbstractStringBuilder_append_S : List Nat := oM_252
abbrev kH_AbstractStringBuilder_append_S : mj_X := hM_252
abbrev y_AbstractStringBuilder_putStringAt : Nat := 253
abbrev kC_AbstractStringBuilder_putStringAt : mj_C := cM_253
abbrev kO_AbstractStringBuilder_putStringAt : List Nat := oM_253
abbrev kH_AbstractStringBuilder_putStringAt : mj_X := hM_253
abbrev y_AbstractStringBuilder_inflateIfNeededFor : Nat := 254
abbrev kC_AbstractStringBuilder_inflateIfNeededFor : mj_C := cM_254
abbrev kO_AbstractStringBuilder_inflateIfNeededFor : List Nat := oM_254
abbrev kH_AbstractStringBuilder_inflateIfNeededFor : mj_X := hM_254
abbrev y_String_getBytes : Nat := 255
abbrev kC_String_getBytes : mj_C := cM_255
abbrev kO_String_getBytes : List Nat := oM_255
abbrev kH_String_getBytes : mj_X := hM_255
end
section
abbrev cS : Type := (((((Nat × Int32) × (Nat → Int32)) × ((Nat → Int32) × (Nat → Int32))) × ((((Nat → Int32) × (Nat → Int32)) × (Nat → Int32)) × (Int32 × (Nat → Int32)))) × ((((Int32 × Int32) × (Nat → Int64)) × ((Nat → Int64) × Int32)) × (((Int32 × Int32) × (Nat → Int32)) × (Int32 × Int32)))) × (((((Int64 × Int64) × Int64) × (Int64 × Int32)) × (((Int32 × Int32) × Int32) × ((Nat → Int64) × (Nat → Int64)))) × (((((Nat → Int32) × (Nat → Int32)) × (Nat → Int32)) × (Int32 × Int32)) × (((Int32 × Int32) × mj_O) × (mj_O × (Nat → Int64)))))
def cS.z (s : cS) : Nat := s.1.1.1.1.1.1
def cS.err (s : cS) : Int32 := s.1.1.1.1.1.2
def cS.kinds (s : cS) : Nat → Int32 := s.1.1.1.1.2
def cS.vals (s : cS) : Nat → Int32 := s.1.1.1.2.1
def cS.poss (s : cS) : Nat → Int32 := s.1.1.1.2.2
def cS.firsts (s : cS) : Nat → Int32 := s.1.1.2.1.1.1
def cS.lasts (s : cS) : Nat → Int32 := s.1.1.2.1.1.2
def cS.folls (s : cS) : Nat → Int32 := s.1.1.2.1.2
def cS.nodes (s : cS) : Int32 := s.1.1.2.2.1
def cS.txt (s : cS) : Nat → Int32 := s.1.1.2.2.2
def cS.len (s : cS) : Int32 := s.1.2.1.1.1.1
def cS.at_ (s : cS) : Int32 := s.1.2.1.1.1.2
def cS.cH (s : cS) : Nat → Int64 := s.1.2.1.1.2
def cS.cT (s : cS) : Nat → Int64 := s.1.2.1.2.1
def cS.cells (s : cS) : Int32 := s.1.2.1.2.2
def cS.last (s : cS) : Int32 := s.1.2.2.1.1.1
def cS.inside (s : cS) : Int32 := s.1.2.2.1.1.2
def cS.frames (s : cS) : Nat → Int32 := s.1.2.2.1.2
def cS.known (s : cS) : Int32 := s.1.2.2.2.1
def cS.unk (s : cS) : Int32 := s.1.2.2.2.2
def cS.rS (s : cS) : Int64 := s.2.1.1.1.1.1
def cS.rE (s : cS) : Int64 := s.2.1.1.1.1.2
def cS.rC (s : cS) : Int64 := s.2.1.1.1.2
def cS.rD (s : cS) : Int64 := s.2.1.1.2.1
def cS.mode (s : cS) : Int32 := s.2.1.1.2.2
def cS.colls (s : cS) : Int32 := s.2.1.2.1.1.1
def cS.taken (s : cS) : Int32 := s.2.1.2.1.1.2
def cS.steps (s : cS) : Int32 := s.2.1.2.1.2
def cS.sH (s : cS) : Nat → Int64 := s.2.1.2.2.1
def cS.sT (s : cS) : Nat → Int64 := s.2.1.2.2.2
def cS.free (s : cS) : Nat → Int32 := s.2.2.1.1.1.1
def cS.marked (s : cS) : Nat → Int32 := s.2.2.1.1.1.2
def cS.reached (s : cS) : Nat → Int32 := s.2.2.1.1.2
def cS.freeN (s : cS) : Int32 := s.2.2.1.2.1
def cS.reachN (s : cS) : Int32 := s.2.2.1.2.2
def cS.codeN (s : cS) : Int32 := s.2.2.2.1.1.1
def cS.opn (s : cS) : Int32 := s.2.2.2.1.1.2
def cS.sb0 (s : cS) : mj_O := s.2.2.2.1.2
def cS.sb1 (s : cS) : mj_O := s.2.2.2.2.1
def cS.rests (s : cS) : Nat → Int64 := s.2.2.2.2.2
def cS.s_z (s : cS) (x : Nat) : cS := ((((((x, s.1.1.1.1.1.2), s.1.1.1.1.2), s.1.1.1.2), s.1.1.2), s.1.2), s.2)
def cS.s_err (s : cS) (x : Int32) : cS := ((((((s.1.1.1.1.1.1, x), s.1.1.1.1.2), s.1.1.1.2), s.1.1.2), s.1.2), s.2)
def cS.s_kinds (s : cS) (x : Nat → Int32) : cS := (((((s.1.1.1.1.1, x), s.1.1.1.2), s.1.1.2), s.1.2), s.2)
def cS.s_vals (s : cS) (x : Nat → Int32) : cS := ((((s.1.1.1.1, (x, s.1.1.1.2.2)), s.1.1.2), s.1.2), s.2)
def cS.s_poss (s : cS) (x : Nat → Int32) : cS := ((((s.1.1.1.1, (s.1.1.1.2.1, x)), s.1.1.2), s.1.2), s.2)
def cS.s_firsts (s : cS) (x : Nat → Int32) : cS := (((s.1.1.1, (((x, s.1.1.2.1.1.2), s.1.1.2.1.2), s.1.1.2.2)), s.1.2), s.2)
def cS.s_lasts (s : cS) (x : Nat → Int32) : cS := (((s.1.1.1, (((s.1.1.2.1.1.1, x), s.1.1.2.1.2), s.1.1.2.2)), s.1.2), s.2)
def cS.s_folls (s : cS) (x : Nat → Int32) : cS := (((s.1.1.1, ((s.1.1.2.1.1, x), s.1.1.2.2)), s.1.2), s.2)
def cS.s_nodes (s : cS) (x : Int32) : cS := (((s.1.1.1, (s.1.1.2.1, (x, s.1.1.2.2.2))), s.1.2), s.2)
def cS.s_txt (s : cS) (x : Nat → Int32) : cS := (((s.1.1.1, (s.1.1.2.1, (s.1.1.2.2.1, x))), s.1.2), s.2)
def cS.s_len (s : cS) (x : Int32) : cS := ((s.1.1, ((((x, s.1.2.1.1.1.2), s.1.2.1.1.2), s.1.2.1.2), s.1.2.2)), s.2)
def cS.s_at_ (s : cS) (x : Int32) : cS := ((s.1.1, ((((s.1.2.1.1.1.1, x), s.1.2.1.1.2), s.1.2.1.2), s.1.2.2)), s.2)
def cS.s_cH (s : cS) (x : Nat → Int64) : cS := ((s.1.1, (((s.1.2.1.1.1, x), s.1.2.1.2), s.1.2.2)), s.2)
def cS.s_cT (s : cS) (x : Nat → Int64) : cS := ((s.1.1, ((s.1.2.1.1, (x, s.1.2.1.2.2)), s.1.2.2)), s.2)
def cS.s_cells (s : cS) (x : Int32) : cS := ((s.1.1, ((s.1.2.1.1, (s.1.2.1.2.1, x)), s.1.2.2)), s.2)
def cS.s_last (s : cS) (x : Int32) : cS := ((s.1.1, (s.1.2.1, (((x, s.1.2.2.1.1.2), s.1.2.2.1.2), s.1.2.2.2))), s.2)
def cS.s_inside (s : cS) (x : Int32) : cS := ((s.1.1, (s.1.2.1, (((s.1.2.2.1.1.1, x), s.1.2.2.1.2), s.1.2.2.2))), s.2)
def cS.s_frames (s : cS) (x : Nat → Int32) : cS := ((s.1.1, (s.1.2.1, ((s.1.2.2.1.1, x), s.1.2.2.2))), s.2)
def cS.s_known (s : cS) (x : Int32) : cS := ((s.1.1, (s.1.2.1, (s.1.2.2.1, (x, s.1.2.2.2.2)))), s.2)
def cS.s_unk (s : cS) (x : Int32) : cS := ((s.1.1, (s.1.2.1, (s.1.2.2.1, (s.1.2.2.2.1, x)))), s.2)
def cS.s_rS (s : cS) (x : Int64) : cS := (s.1, (((((x, s.2.1.1.1.1.2), s.2.1.1.1.2), s.2.1.1.2), s.2.1.2), s.2.2))
def cS.s_rE (s : cS) (x : Int64) : cS := (s.1, (((((s.2.1.1.1.1.1, x), s.2.1.1.1.2), s.2.1.1.2), s.2.1.2), s.2.2))
def cS.s_rC (s : cS) (x : Int64) : cS := (s.1, ((((s.2.1.1.1.1, x), s.2.1.1.2), s.2.1.2), s.2.2))
def cS.s_rD (s : cS) (x : Int64) : cS := (s.1, (((s.2.1.1.1, (x, s.2.1.1.2.2)), s.2.1.2), s.2.2))
def cS.s_mode (s : cS) (x : Int32) : cS := (s.1, (((s.2.1.1.1, (s.2.1.1.2.1, x)), s.2.1.2), s.2.2))
def cS.s_colls (s : cS) (x : Int32) : cS := (s.1, ((s.2.1.1, (((x, s.2.1.2.1.1.2), s.2.1.2.1.2), s.2.1.2.2)), s.2.2))
def cS.s_taken (s : cS) (x : Int32) : cS := (s.1, ((s.2.1.1, (((s.2.1.2.1.1.1, x), s.2.1.2.1.2), s.2.1.2.2)), s.2.2))
def cS.s_steps (s : cS) (x : Int32) : cS := (s.1, ((s.2.1.1, ((s.2.1.2.1.1, x), s.2.1.2.2)), s.2.2))
def cS.s_sH (s : cS) (x : Nat → Int64) : cS := (s.1, ((s.2.1.1, (s.2.1.2.1, (x, s.2.1.2.2.2))), s.2.2))
def cS.s_sT (s : cS) (x : Nat → Int64) : cS := (s.1, ((s.2.1.1, (s.2.1.2.1, (s.2.1.2.2.1, x))), s.2.2))
def cS.s_free (s : cS) (x : Nat → Int32) : cS := (s.1, (s.2.1, ((((x, s.2.2.1.1.1.2), s.2.2.1.1.2), s.2.2.1.2), s.2.2.2)))
def cS.s_marked (s : cS) (x : Nat → Int32) : cS := (s.1, (s.2.1, ((((s.2.2.1.1.1.1, x), s.2.2.1.1.2), s.2.2.1.2), s.2.2.2)))
def cS.s_reached (s : cS) (x : Nat → Int32) : cS := (s.1, (s.2.1, (((s.2.2.1.1.1, x), s.2.2.1.2), s.2.2.2)))
def cS.s_freeN (s : cS) (x : Int32) : cS := (s.1, (s.2.1, ((s.2.2.1.1, (x, s.2.2.1.2.2)), s.2.2.2)))
def cS.s_reachN (s : cS) (x : Int32) : cS := (s.1, (s.2.1, ((s.2.2.1.1, (s.2.2.1.2.1, x)), s.2.2.2)))
def cS.s_codeN (s : cS) (x : Int32) : cS := (s.1, (s.2.1, (s.2.2.1, (((x, s.2.2.2.1.1.2), s.2.2.2.1.2), s.2.2.2.2))))
def cS.s_opn (s : cS) (x : Int32) : cS := (s.1, (s.2.1, (s.2.2.1, (((s.2.2.2.1.1.1, x), s.2.2.2.1.2), s.2.2.2.2))))
def cS.s_sb0 (s : cS) (x : mj_O) : cS := (s.1, (s.2.1, (s.2.2.1, ((s.2.2.2.1.1, x), s.2.2.2.2))))
def cS.s_sb1 (s : cS) (x : mj_O) : cS := (s.1, (s.2.1, (s.2.2.1, (s.2.2.2.1, (x, s.2.2.2.2.2)))))
def cS.s_rests (s : cS) (x : Nat → Int64) : cS := (s.1, (s.2.1, (s.2.2.1, (s.2.2.2.1, (s.2.2.2.2.1, x)))))
abbrev oI (n : Nat) (f : Nat → Int32) : mj_O := .inl (0, n, .inl f)
abbrev oJ (n : Nat) (f : Nat → Int64) : mj_O := .inl (1, n, .inr (.inl f))
abbrev oC (n : Nat) (f : Nat → Int32) : mj_O := .inl (2, n, .inl f)
abbrev oZ (n : Nat) (f : Nat → Int32) : mj_O := .inl (3, n, .inl f)
abbrev oF (c : Nat) (fs : List Value) : mj_O := .inr (.inl (c, fs))
def cW (s : cS) (tl : List mj_O) : List mj_O :=
  oF 0 [.int (nI s.z), .ref 8, .ref 10, .ref 11, .ref 14, .ref 16, .int s.err] ::
  oF 2 [.ref 2, .ref 3, .ref 4, .ref 5, .ref 6, .ref 7, .int s.nodes] ::
  oI 96 s.kinds :: oI 96 s.vals :: oI 96 s.poss :: oI 96 s.firsts :: oI 96 s.lasts :: oI 96 s.folls ::
  oF 1 [.ref 9, .int s.len] :: oC 96 s.txt ::
  oF 3 [.ref 8, .ref 1, .int s.at_] ::
  oF 4 [.ref 12, .ref 13, .int s.cells, .int s.last, .int s.inside] :: oJ s.z s.cH :: oJ s.z s.cT ::
  oF 5 [.ref 1, .ref 11, .ref 15, .int s.known, .int s.unk] :: oI 9 s.frames ::
  oF 6 [.ref 17, .ref 23, .long s.rS, .long s.rE, .long s.rC, .long s.rD, .int s.mode, .int s.colls, .int s.taken, .int s.steps] ::
  oF 7 [.int (nI s.z), .ref 18, .ref 19, .ref 20, .ref 21, .ref 22, .int s.freeN, .int s.reachN, .int s.codeN] :: oJ s.z s.sH :: oJ s.z s.sT :: oI s.z s.free :: oZ s.z s.marked :: oI s.z s.reached ::
  oF 8 [.ref 17, .ref 24, .ref 26, .int s.opn] :: s.sb0 :: s.sb1 :: oJ 120 s.rests :: tl
abbrev rM : Type := (((((Nat × Int32) × Int32) × (((Nat → Int32) × Int32) × Int32)) × (((Int32 × (Nat → Int32)) × (Nat → Int32)) × (((Nat → Int32) × (Nat → Int32)) × (Nat → Int32)))) × (((((Nat → Int32) × (Nat → Int32)) × (Nat → Int32)) × (((Nat → Int32) × (Nat → Int32)) × (Nat → Int32))) × (((Int32 × Int32) × (Nat → Int32)) × ((Nat → Int32) × Int32)))) × (((((Int32 × (Nat → Int32)) × (Nat → Int32)) × (((Nat → Int32) × (Nat → Int32)) × (Nat → Int32))) × ((((Nat → Int32) × (Nat → Int32)) × (Nat → Int32)) × ((Nat → Int32) × Int32))) × (((((Nat → Int32) × (Nat → Int32)) × Int32) × ((Int32 × Int32) × Int32)) × (((Int32 × Int32) × Int32) × (Int32 × (Nat → Int32)))))
def rM.z (s : rM) : Nat := s.1.1.1.1.1.1
def rM.thrown (s : rM) : Int32 := s.1.1.1.1.1.2
def rM.typed (s : rM) : Int32 := s.1.1.1.1.2
def rM.text (s : rM) : Nat → Int32 := s.1.1.1.2.1.1
def rM.p (s : rM) : Int32 := s.1.1.1.2.1.2
def rM.error (s : rM) : Int32 := s.1.1.1.2.2
def rM.parts (s : rM) : Int32 := s.1.1.2.1.1.1
def rM.kind (s : rM) : Nat → Int32 := s.1.1.2.1.1.2
def rM.at_ (s : rM) : Nat → Int32 := s.1.1.2.1.2
def rM.until_ (s : rM) : Nat → Int32 := s.1.1.2.2.1.1
def rM.value (s : rM) : Nat → Int32 := s.1.1.2.2.1.2
def rM.parent (s : rM) : Nat → Int32 := s.1.1.2.2.2
def rM.first (s : rM) : Nat → Int32 := s.1.2.1.1.1.1
def rM.last (s : rM) : Nat → Int32 := s.1.2.1.1.1.2
def rM.next (s : rM) : Nat → Int32 := s.1.2.1.1.2
def rM.many (s : rM) : Nat → Int32 := s.1.2.1.2.1.1
def rM.letters (s : rM) : Nat → Int32 := s.1.2.1.2.1.2
def rM.bound (s : rM) : Nat → Int32 := s.1.2.1.2.2
def rM.depth (s : rM) : Int32 := s.1.2.2.1.1.1
def rM.signs (s : rM) : Int32 := s.1.2.2.1.1.2
def rM.signKind (s : rM) : Nat → Int32 := s.1.2.2.1.2
def rM.signValue (s : rM) : Nat → Int32 := s.1.2.2.2.1
def rM.cells (s : rM) : Int32 := s.1.2.2.2.2
def rM.tasks (s : rM) : Int32 := s.2.1.1.1.1.1
def rM.taskKind (s : rM) : Nat → Int32 := s.2.1.1.1.1.2
def rM.taskValue (s : rM) : Nat → Int32 := s.2.1.1.1.2
def rM.used (s : rM) : Nat → Int32 := s.2.1.1.2.1.1
def rM.function (s : rM) : Nat → Int32 := s.2.1.1.2.1.2
def rM.headKind (s : rM) : Nat → Int32 := s.2.1.1.2.2
def rM.head (s : rM) : Nat → Int32 := s.2.1.2.1.1.1
def rM.tailKind (s : rM) : Nat → Int32 := s.2.1.2.1.1.2
def rM.tail (s : rM) : Nat → Int32 := s.2.1.2.1.2
def rM.marked (s : rM) : Nat → Int32 := s.2.1.2.2.1
def rM.piled (s : rM) : Int32 := s.2.1.2.2.2
def rM.pile (s : rM) : Nat → Int32 := s.2.2.1.1.1.1
def rM.reg (s : rM) : Nat → Int32 := s.2.2.1.1.1.2
def rM.program (s : rM) : Int32 := s.2.2.1.1.2
def rM.state (s : rM) : Int32 := s.2.2.1.2.1.1
def rM.collections (s : rM) : Int32 := s.2.2.1.2.1.2
def rM.takenBack (s : rM) : Int32 := s.2.2.1.2.2
def rM.steps (s : rM) : Int32 := s.2.2.2.1.1.1
def rM.gotKind (s : rM) : Int32 := s.2.2.2.1.1.2
def rM.got (s : rM) : Int32 := s.2.2.2.1.2
def rM.shown (s : rM) : Int32 := s.2.2.2.2.1
def rM.show_ (s : rM) : Nat → Int32 := s.2.2.2.2.2
def rM.s_z (s : rM) (x : Nat) : rM := ((((((x, s.1.1.1.1.1.2), s.1.1.1.1.2), s.1.1.1.2), s.1.1.2), s.1.2), s.2)
def rM.s_thrown (s : rM) (x : Int32) : rM := ((((((s.1.1.1.1.1.1, x), s.1.1.1.1.2), s.1.1.1.2), s.1.1.2), s.1.2), s.2)
def rM.s_typed (s : rM) (x : Int32) : rM := (((((s.1.1.1.1.1, x), s.1.1.1.2), s.1.1.2), s.1.2), s.2)
def rM.s_text (s : rM) (x : Nat → Int32) : rM := ((((s.1.1.1.1, ((x, s.1.1.1.2.1.2), s.1.1.1.2.2)), s.1.1.2), s.1.2), s.2)
def rM.s_p (s : rM) (x : Int32) : rM := ((((s.1.1.1.1, ((s.1.1.1.2.1.1, x), s.1.1.1.2.2)), s.1.1.2), s.1.2), s.2)
def rM.s_error (s : rM) (x : Int32) : rM := ((((s.1.1.1.1, (s.1.1.1.2.1, x)), s.1.1.2), s.1.2), s.2)
def rM.s_parts (s : rM) (x : Int32) : rM := (((s.1.1.1, (((x, s.1.1.2.1.1.2), s.1.1.2.1.2), s.1.1.2.2)), s.1.2), s.2)
def rM.s_kind (s : rM) (x : Nat → Int32) : rM := (((s.1.1.1, (((s.1.1.2.1.1.1, x), s.1.1.2.1.2), s.1.1.2.2)), s.1.2), s.2)
def rM.s_at_ (s : rM) (x : Nat → Int32) : rM := (((s.1.1.1, ((s.1.1.2.1.1, x), s.1.1.2.2)), s.1.2), s.2)
def rM.s_until_ (s : rM) (x : Nat → Int32) : rM := (((s.1.1.1, (s.1.1.2.1, ((x, s.1.1.2.2.1.2), s.1.1.2.2.2))), s.1.2), s.2)
def rM.s_value (s : rM) (x : Nat → Int32) : rM := (((s.1.1.1, (s.1.1.2.1, ((s.1.1.2.2.1.1, x), s.1.1.2.2.2))), s.1.2), s.2)
def rM.s_parent (s : rM) (x : Nat → Int32) : rM := (((s.1.1.1, (s.1.1.2.1, (s.1.1.2.2.1, x))), s.1.2), s.2)
def rM.s_first (s : rM) (x : Nat → Int32) : rM := ((s.1.1, ((((x, s.1.2.1.1.1.2), s.1.2.1.1.2), s.1.2.1.2), s.1.2.2)), s.2)
def rM.s_last (s : rM) (x : Nat → Int32) : rM := ((s.1.1, ((((s.1.2.1.1.1.1, x), s.1.2.1.1.2), s.1.2.1.2), s.1.2.2)), s.2)
def rM.s_next (s : rM) (x : Nat → Int32) : rM := ((s.1.1, (((s.1.2.1.1.1, x), s.1.2.1.2), s.1.2.2)), s.2)
def rM.s_many (s : rM) (x : Nat → Int32) : rM := ((s.1.1, ((s.1.2.1.1, ((x, s.1.2.1.2.1.2), s.1.2.1.2.2)), s.1.2.2)), s.2)
def rM.s_letters (s : rM) (x : Nat → Int32) : rM := ((s.1.1, ((s.1.2.1.1, ((s.1.2.1.2.1.1, x), s.1.2.1.2.2)), s.1.2.2)), s.2)
def rM.s_bound (s : rM) (x : Nat → Int32) : rM := ((s.1.1, ((s.1.2.1.1, (s.1.2.1.2.1, x)), s.1.2.2)), s.2)
def rM.s_depth (s : rM) (x : Int32) : rM := ((s.1.1, (s.1.2.1, (((x, s.1.2.2.1.1.2), s.1.2.2.1.2), s.1.2.2.2))), s.2)
def rM.s_signs (s : rM) (x : Int32) : rM := ((s.1.1, (s.1.2.1, (((s.1.2.2.1.1.1, x), s.1.2.2.1.2), s.1.2.2.2))), s.2)
def rM.s_signKind (s : rM) (x : Nat → Int32) : rM := ((s.1.1, (s.1.2.1, ((s.1.2.2.1.1, x), s.1.2.2.2))), s.2)
def rM.s_signValue (s : rM) (x : Nat → Int32) : rM := ((s.1.1, (s.1.2.1, (s.1.2.2.1, (x, s.1.2.2.2.2)))), s.2)
def rM.s_cells (s : rM) (x : Int32) : rM := ((s.1.1, (s.1.2.1, (s.1.2.2.1, (s.1.2.2.2.1, x)))), s.2)
def rM.s_tasks (s : rM) (x : Int32) : rM := (s.1, (((((x, s.2.1.1.1.1.2), s.2.1.1.1.2), s.2.1.1.2), s.2.1.2), s.2.2))
def rM.s_taskKind (s : rM) (x : Nat → Int32) : rM := (s.1, (((((s.2.1.1.1.1.1, x), s.2.1.1.1.2), s.2.1.1.2), s.2.1.2), s.2.2))
def rM.s_taskValue (s : rM) (x : Nat → Int32) : rM := (s.1, ((((s.2.1.1.1.1, x), s.2.1.1.2), s.2.1.2), s.2.2))
def rM.s_used (s : rM) (x : Nat → Int32) : rM := (s.1, (((s.2.1.1.1, ((x, s.2.1.1.2.1.2), s.2.1.1.2.2)), s.2.1.2), s.2.2))
def rM.s_function (s : rM) (x : Nat → Int32) : rM := (s.1, (((s.2.1.1.1, ((s.2.1.1.2.1.1, x), s.2.1.1.2.2)), s.2.1.2), s.2.2))
def rM.s_headKind (s : rM) (x : Nat → Int32) : rM := (s.1, (((s.2.1.1.1, (s.2.1.1.2.1, x)), s.2.1.2), s.2.2))
def rM.s_head (s : rM) (x : Nat → Int32) : rM := (s.1, ((s.2.1.1, (((x, s.2.1.2.1.1.2), s.2.1.2.1.2), s.2.1.2.2)), s.2.2))
def rM.s_tailKind (s : rM) (x : Nat → Int32) : rM := (s.1, ((s.2.1.1, (((s.2.1.2.1.1.1, x), s.2.1.2.1.2), s.2.1.2.2)), s.2.2))
def rM.s_tail (s : rM) (x : Nat → Int32) : rM := (s.1, ((s.2.1.1, ((s.2.1.2.1.1, x), s.2.1.2.2)), s.2.2))
def rM.s_marked (s : rM) (x : Nat → Int32) : rM := (s.1, ((s.2.1.1, (s.2.1.2.1, (x, s.2.1.2.2.2))), s.2.2))
def rM.s_piled (s : rM) (x : Int32) : rM := (s.1, ((s.2.1.1, (s.2.1.2.1, (s.2.1.2.2.1, x))), s.2.2))
def rM.s_pile (s : rM) (x : Nat → Int32) : rM := (s.1, (s.2.1, ((((x, s.2.2.1.1.1.2), s.2.2.1.1.2), s.2.2.1.2), s.2.2.2)))
def rM.s_reg (s : rM) (x : Nat → Int32) : rM := (s.1, (s.2.1, ((((s.2.2.1.1.1.1, x), s.2.2.1.1.2), s.2.2.1.2), s.2.2.2)))
def rM.s_program (s : rM) (x : Int32) : rM := (s.1, (s.2.1, (((s.2.2.1.1.1, x), s.2.2.1.2), s.2.2.2)))
def rM.s_state (s : rM) (x : Int32) : rM := (s.1, (s.2.1, ((s.2.2.1.1, ((x, s.2.2.1.2.1.2), s.2.2.1.2.2)), s.2.2.2)))
def rM.s_collections (s : rM) (x : Int32) : rM := (s.1, (s.2.1, ((s.2.2.1.1, ((s.2.2.1.2.1.1, x), s.2.2.1.2.2)), s.2.2.2)))
def rM.s_takenBack (s : rM) (x : Int32) : rM := (s.1, (s.2.1, ((s.2.2.1.1, (s.2.2.1.2.1, x)), s.2.2.2)))
def rM.s_steps (s : rM) (x : Int32) : rM := (s.1, (s.2.1, (s.2.2.1, (((x, s.2.2.2.1.1.2), s.2.2.2.1.2), s.2.2.2.2))))
def rM.s_gotKind (s : rM) (x : Int32) : rM := (s.1, (s.2.1, (s.2.2.1, (((s.2.2.2.1.1.1, x), s.2.2.2.1.2), s.2.2.2.2))))
def rM.s_got (s : rM) (x : Int32) : rM := (s.1, (s.2.1, (s.2.2.1, ((s.2.2.2.1.1, x), s.2.2.2.2))))
def rM.s_shown (s : rM) (x : Int32) : rM := (s.1, (s.2.1, (s.2.2.1, (s.2.2.2.1, (x, s.2.2.2.2.2)))))
def rM.s_show_ (s : rM) (x : Nat → Int32) : rM := (s.1, (s.2.1, (s.2.2.1, (s.2.2.2.1, (s.2.2.2.2.1, x)))))
def rW (r : rM) (tl : List mj_O) : List mj_O :=
  oF 10 [.int (nI r.z), .int r.thrown, .int r.typed, .ref 28, .int r.p, .int r.error, .int r.parts, .ref 29, .ref 30, .ref 31, .ref 32, .ref 33, .ref 34, .ref 35, .ref 36, .ref 37, .ref 38, .ref 39, .int r.depth, .int r.signs, .ref 40, .ref 41, .int r.cells, .int r.tasks, .ref 42, .ref 43, .ref 44, .ref 45, .ref 46, .ref 47, .ref 48, .ref 49, .ref 50, .int r.piled, .ref 51, .ref 52, .int r.program, .int r.state, .int r.collections, .int r.takenBack, .int r.steps, .int r.gotKind, .int r.got, .int r.shown, .ref 53] ::
  oC 96 r.text :: oI 100 r.kind :: oI 100 r.at_ :: oI 100 r.until_ :: oI 100 r.value :: oI 100 r.parent :: oI 100 r.first :: oI 100 r.last :: oI 100 r.next :: oI 100 r.many :: oI 300 r.letters :: oI 100 r.bound ::
  oI 1200 r.signKind :: oI 1200 r.signValue :: oI 1200 r.taskKind :: oI 1200 r.taskValue ::
  oZ 250 r.used :: oZ 250 r.function :: oI 250 r.headKind :: oI 250 r.head :: oI 250 r.tailKind :: oI 250 r.tail :: oZ 250 r.marked :: oI 260 r.pile :: oI 5 r.reg :: oC 120 r.show_ :: tl
end
section
section P1
variable {cst : Nat → Option (Nat × (Nat → Int32))} {m bc bs : Nat} {Q : mj_R → Prop}
abbrev z0 : Nat → Int32 := fun _ => 0
abbrev l0 : Nat → Int64 := fun _ => 0
set_option maxRecDepth 10000
theorem e96 : (Int32.ofInt 96).toNatClampNeg = 96 := by decide
theorem e9 : (Int32.ofInt 9).toNatClampNeg = 9 := by decide
theorem e120 : (Int32.ofInt 120).toNatClampNeg = 120 := by decide
theorem e16 : (Int32.ofInt 16).toNatClampNeg = 16 := by decide
theorem c_tree_init {o0 : mj_O} (hb : 576 ≤ bs) (hQ : ∀ b, bs ≤ b + 576 → Q (.inl none, ([o0, oF 2 [.ref 2, .ref 3, .ref 4, .ref 5, .ref 6, .ref 7, .int 0], oI 96 z0, oI 96 z0, oI 96 z0, oI 96 z0, oI 96 z0, oI 96 z0], bc, b, true))) :
    mj_Mt gT cst gnw (m + 1) y_Tree_init [.ref 1] ([o0, oF 2 fN2], bc + 6, bs, true) Q := by
  intro J hJ
  refine hJ _ _ _ _ ?_
  refine And.intro (Nat.le_of_ble_eq_true rfl) (And.intro (by decide) (And.intro (by rw [e96]; omega) (And.intro (by decide) ?_)))
  refine And.intro (Nat.le_of_ble_eq_true rfl) (And.intro (by decide) (And.intro (by rw [e96]; omega) (And.intro (by decide) ?_)))
  refine And.intro (Nat.le_of_ble_eq_true rfl) (And.intro (by decide) (And.intro (by rw [e96]; omega) (And.intro (by decide) ?_)))
  refine And.intro (Nat.le_of_ble_eq_true rfl) (And.intro (by decide) (And.intro (by rw [e96]; omega) (And.intro (by decide) ?_)))
  refine And.intro (Nat.le_of_ble_eq_true rfl) (And.intro (by decide) (And.intro (by rw [e96]; omega) (And.intro (by decide) ?_)))
  refine And.intro (Nat.le_of_ble_eq_true rfl) (And.intro (by decide) (And.intro (by rw [e96]; omega) (And.intro (by decide) ?_)))
  exact hQ _ (by rw [e96]; omega)
theorem c_text_init {o0 o1 o2 o3 o4 o5 o6 o7 : mj_O} (hb : 96 ≤ bs) (hQ : ∀ b, bs ≤ b + 96 → Q (.inl none, ([o0, o1, o2, o3, o4, o5, o6, o7, oF 1 [.ref 9, .int 0], oC 96 z0], bc, b, true))) :
    mj_Mt gT cst gnw (m + 1) y_Text_init [.ref 8] ([o0, o1, o2, o3, o4, o5, o6, o7, oF 1 fN1], bc + 1, bs, true) Q := by
  intro J hJ
  refine hJ _ _ _ _ ?_
  refine And.intro (Nat.le_of_ble_eq_true rfl) (And.intro (by decide) (And.intro (by rw [e96]; omega) (And.intro (by decide) ?_)))
  exact hQ _ (by rw [e96]; omega)
theorem c_reader_init {o0 o1 o2 o3 o4 o5 o6 o7 o8 o9 : mj_O}  (hQ : ∀ b, bs ≤ b + 0 → Q (.inl none, ([o0, o1, o2, o3, o4, o5, o6, o7, o8, o9, oF 3 [.ref 8, .ref 1, .int 0]], bc, b, true))) :
    mj_Mt gT cst gnw (m + 1) y_Reader_init [.ref 10, .ref 8, .ref 1] ([o0, o1, o2, o3, o4, o5, o6, o7, o8, o9, oF 3 fN3], bc + 0, bs, true) Q := by
  intro J hJ
  refine hJ _ _ _ _ ?_
  exact hQ _ (Nat.le_refl _)
theorem c_code_init {o0 o1 o2 o3 o4 o5 o6 o7 o8 o9 o10 : mj_O} {x : Int32} (hx : ¬ x < 0) (h5 : x.toNatClampNeg ≤ 250) (hb : 2 * x.toNatClampNeg ≤ bs) (hQ : ∀ b, bs ≤ b + 2 * x.toNatClampNeg → Q (.inl none, ([o0, o1, o2, o3, o4, o5, o6, o7, o8, o9, o10, oF 4 [.ref 12, .ref 13, .int 0, .int 0, .int 0], oJ x.toNatClampNeg l0, oJ x.toNatClampNeg l0], bc, b, true))) :
    mj_Mt gT cst gnw (m + 1) y_Code_init [.ref 11, .int x] ([o0, o1, o2, o3, o4, o5, o6, o7, o8, o9, o10, oF 4 fN4], bc + 2, bs, true) Q := by
  intro J hJ
  refine hJ _ _ _ _ ?_
  refine And.intro (Nat.le_of_ble_eq_true rfl) (And.intro hx (And.intro (by omega) (And.intro (by omega) ?_)))
  refine And.intro (Nat.le_of_ble_eq_true rfl) (And.intro hx (And.intro (by omega) (And.intro (by omega) ?_)))
  exact hQ _ (by omega)
theorem c_coder_init {o0 o1 o2 o3 o4 o5 o6 o7 o8 o9 o10 o11 o12 o13 : mj_O} (hb : 9 ≤ bs) (hQ : ∀ b, bs ≤ b + 9 → Q (.inl none, ([o0, o1, o2, o3, o4, o5, o6, o7, o8, o9, o10, o11, o12, o13, oF 5 [.ref 1, .ref 11, .ref 15, .int 0, .int 0], oI 9 z0], bc, b, true))) :
    mj_Mt gT cst gnw (m + 1) y_Coder_init [.ref 14, .ref 1, .ref 11] ([o0, o1, o2, o3, o4, o5, o6, o7, o8, o9, o10, o11, o12, o13, oF 5 fN5], bc + 1, bs, true) Q := by
  intro J hJ
  refine hJ _ _ _ _ ?_
  refine And.intro (Nat.le_of_ble_eq_true rfl) (And.intro (by decide) (And.intro (by rw [e9]; omega) (And.intro (by decide) ?_)))
  exact hQ _ (by rw [e9]; omega)
def fillU (f : Nat → Int32) : Nat → Nat → (Nat → Int32)
  | _, 0 => f
  | k, n + 1 => fillU (upd f k (nI k)) (k + 1) n
def fillF (f : Nat → Int32) (k z : Nat) : Nat → Int32 := fillU f k (z - k)
theorem fillF_step (f : Nat → Int32) {k z : Nat} (h : k < z) : fillF (upd f k (nI k)) (k + 1) z = fillF f k z := by
  unfold fillF
  rw [show z - k = (z - (k + 1)) + 1 by omega]
  rfl
theorem fillF_end (f : Nat → Int32) {k z : Nat} (h : ¬ k < z) : fillF f k z = f := by
  unfold fillF
  rw [show z - k = 0 by omega]
  rfl
set_option maxHeartbeats 2000000 in
theorem c_store_init {o0 o1 o2 o3 o4 o5 o6 o7 o8 o9 o10 o11 o12 o13 o14 o15 o16 : mj_O} {z : Nat} (h5 : z ≤ 250) (hb : 5 * z ≤ bs) (hQ : ∀ b, bs ≤ b + 5 * z → Q (.inl none, ([o0, o1, o2, o3, o4, o5, o6, o7, o8, o9, o10, o11, o12, o13, o14, o15, o16, oF 7 [.int (nI z), .ref 18, .ref 19, .ref 20, .ref 21, .ref 22, .int (nI z), .int 0, .int 0], oJ z l0, oJ z l0, oI z (fillF z0 0 z), oZ z z0, oI z z0], bc, b, true))) :
    mj_Mt gT cst gnw (m + 1) y_Store_init [.ref 17, .int (nI z)] ([o0, o1, o2, o3, o4, o5, o6, o7, o8, o9, o10, o11, o12, o13, o14, o15, o16, oF 7 fN7], bc + 5, bs, true) Q := by
  have hx : ¬ nI z < 0 := nI_pos (by omega)
  have ec : (nI z).toNatClampNeg = z := nI_clamp (by omega)
  intro J hJ
  have loop : ∀ (b : Nat), bs ≤ b + 5 * z → ∀ (n k : Nat) (f : Nat → Int32), n = z - k → k ≤ z → fillF f k z = fillF z0 0 z → J 27 [some (.ref 17), some (.int (nI z)), some (.int (nI k))] [] ([o0, o1, o2, o3, o4, o5, o6, o7, o8, o9, o10, o11, o12, o13, o14, o15, o16, oF 7 [.int (nI z), .ref 18, .ref 19, .ref 20, .ref 21, .ref 22, .int 0, .int 0, .int 0], oJ z l0, oJ z l0, oI z f, oZ z z0, oI z z0], bc, b, true) := by
    intro b hb2 n
    induction n with
    | zero =>
      intro k f hn hk hf
      refine hJ _ _ _ _ ?_
      refine And.intro (fun _ => ?_) (fun h => absurd (nI_le (by omega) (by omega)) h)
      have e : f = fillF z0 0 z := by rw [← hf, fillF_end f (by omega)]
      subst e
      exact hQ b hb2
    | succ n ih =>
      intro k f hn hk hf
      refine hJ _ _ _ _ ?_
      refine And.intro (fun h => absurd h (nI_ge (by omega) (by omega))) (fun _ => ?_)
      refine And.intro (vp_in_nI (by omega) (by omega)) ?_
      have key : ∀ (i : Nat) (x : Int32), i = k → x = nI (k + 1) → J 27 [some (.ref 17), some (.int (nI z)), some (.int x)] [] ([o0, o1, o2, o3, o4, o5, o6, o7, o8, o9, o10, o11, o12, o13, o14, o15, o16, oF 7 [.int (nI z), .ref 18, .ref 19, .ref 20, .ref 21, .ref 22, .int 0, .int 0, .int 0], oJ z l0, oJ z l0, oI z (upd f i (nI k)), oZ z z0, oI z z0], bc, b, true) := by
        rintro i x rfl rfl
        exact ih (i + 1) _ (by omega) (by omega) (by rw [fillF_step f (by omega)]; exact hf)
      exact key _ _ (nI_clamp (by omega)) (nI_succ k).symm
  have key : ∀ (a b0 b1 b2 b3 b4 : Nat), bs ≤ a + 5 * z → b0 = z → b1 = z → b2 = z → b3 = z → b4 = z → J 27 [some (.ref 17), some (.int (nI z)), some (.int 0)] [] ([o0, o1, o2, o3, o4, o5, o6, o7, o8, o9, o10, o11, o12, o13, o14, o15, o16, oF 7 [.int (nI z), .ref 18, .ref 19, .ref 20, .ref 21, .ref 22, .int 0, .int 0, .int 0], oJ b0 l0, oJ b1 l0, oI b2 z0, oZ b3 z0, oI b4 z0], bc, a, true) := by
    rintro a b0 b1 b2 b3 b4 hb2 rfl rfl rfl rfl rfl
    exact loop a hb2 _ 0 z0 rfl (by omega) rfl
  refine hJ _ _ _ _ ?_
  refine And.intro (Nat.le_of_ble_eq_true rfl) (And.intro hx (And.intro (by rw [ec]; omega) (And.intro (by rw [ec]; omega) ?_)))
  refine And.intro (Nat.le_of_ble_eq_true rfl) (And.intro hx (And.intro (by rw [ec]; omega) (And.intro (by rw [ec]; omega) ?_)))
  refine And.intro (Nat.le_of_ble_eq_true rfl) (And.intro hx (And.intro (by rw [ec]; omega) (And.intro (by rw [ec]; omega) ?_)))
  refine And.intro (Nat.le_of_ble_eq_true rfl) (And.intro hx (And.intro (by rw [ec]; omega) (And.intro (by rw [ec]; omega) ?_)))
  refine And.intro (Nat.le_of_ble_eq_true rfl) (And.intro hx (And.intro (by rw [ec]; omega) (And.intro (by rw [ec]; omega) ?_)))
  exact key _ _ _ _ _ _ (by rw [ec]; omega) ec ec ec ec ec
abbrev sbP : mj_O := oF 9 [.ref 25, .int 0, .int 0, .int 0]
abbrev sbR : mj_O := .inl (4, 16, .inl z0)
def sbO : mj_O := .inr (.inr (.inl (0, fun _ => 0)))
def sbB : mj_O := .inr (.inr (.inr ()))
theorem c_asb_init {o0 o1 o2 o3 o4 o5 o6 o7 o8 o9 o10 o11 o12 o13 o14 o15 o16 o17 o18 o19 o20 o21 o22 o23 : mj_O} (hb : 16 ≤ bs) (hQ : ∀ b, bs ≤ b + 16 → Q (.inl none, ([o0, o1, o2, o3, o4, o5, o6, o7, o8, o9, o10, o11, o12, o13, o14, o15, o16, o17, o18, o19, o20, o21, o22, o23, sbP, sbR], bc, b, true))) :
    mj_Mt gT cst gnw (m + 1) y_AbstractStringBuilder_init [.ref 24, .int 16] ([o0, o1, o2, o3, o4, o5, o6, o7, o8, o9, o10, o11, o12, o13, o14, o15, o16, o17, o18, o19, o20, o21, o22, o23, oF 9 fN9], bc + 1, bs, true) Q := by
  intro J hJ
  refine hJ _ _ _ _ ?_
  refine And.intro (fun h => absurd h (by decide)) (fun _ => ?_)
  refine And.intro (Nat.le_of_ble_eq_true rfl) (And.intro (by decide) (And.intro (by rw [show (16 : Int32).toNatClampNeg = 16 by decide]; omega) (And.intro (by decide) ?_)))
  refine And.intro (Or.inl rfl) ?_
  have key : ∀ (a b : Nat), a = 16 → bs ≤ b + 16 → Q (.inl none, ([o0, o1, o2, o3, o4, o5, o6, o7, o8, o9, o10, o11, o12, o13, o14, o15, o16, o17, o18, o19, o20, o21, o22, o23, sbP, .inl (4, a, .inl z0)], bc, b, true)) := by
    rintro a b rfl h
    exact hQ b h
  exact key _ _ (by decide) (by rw [show (16 : Int32).toNatClampNeg = 16 by decide]; omega)
theorem c_sb_init {o0 o1 o2 o3 o4 o5 o6 o7 o8 o9 o10 o11 o12 o13 o14 o15 o16 o17 o18 o19 o20 o21 o22 o23 : mj_O} (hb : 16 ≤ bs) (hQ : ∀ b, bs ≤ b + 16 → Q (.inl none, ([o0, o1, o2, o3, o4, o5, o6, o7, o8, o9, o10, o11, o12, o13, o14, o15, o16, o17, o18, o19, o20, o21, o22, o23, sbP, sbR], bc, b, true))) :
    mj_Mt gT cst gnw (m + 2) y_StringBuilder_init [.ref 24] ([o0, o1, o2, o3, o4, o5, o6, o7, o8, o9, o10, o11, o12, o13, o14, o15, o16, o17, o18, o19, o20, o21, o22, o23, oF 9 fN9], bc + 1, bs, true) Q := by
  intro J hJ
  refine hJ _ _ _ _ ?_
  exact c_asb_init hb hQ
theorem c_display_init {o0 o1 o2 o3 o4 o5 o6 o7 o8 o9 o10 o11 o12 o13 o14 o15 o16 o17 o18 o19 o20 o21 o22 : mj_O} (hb : 140 ≤ bs) (hQ : ∀ b, bs ≤ b + 140 → Q (.inl none, ([o0, o1, o2, o3, o4, o5, o6, o7, o8, o9, o10, o11, o12, o13, o14, o15, o16, o17, o18, o19, o20, o21, o22, oF 8 [.ref 17, .ref 24, .ref 26, .int 0], sbO, sbB, oJ 120 l0], bc, b, true))) :
    mj_Mt gT cst gnw (m + 3) y_Display_init [.ref 23, .ref 17] ([o0, o1, o2, o3, o4, o5, o6, o7, o8, o9, o10, o11, o12, o13, o14, o15, o16, o17, o18, o19, o20, o21, o22, oF 8 fN8], bc + 3, bs, true) Q := by
  intro J hJ
  refine hJ _ _ _ _ ?_
  refine And.intro (Nat.le_of_ble_eq_true rfl) (And.intro (show 4 ≤ bs by omega) ?_)
  refine c_sb_init (show 16 ≤ bs - 4 by omega) (fun b1 (h1 : bs - 4 ≤ b1 + 16) => ?_)
  refine Exists.intro 16 (Exists.intro z0 (Exists.intro 0 (And.intro rfl (And.intro rfl (And.intro (by decide) (And.intro sb_fit0 ?_))))))
  refine And.intro (Nat.le_of_ble_eq_true rfl) (And.intro (by decide) (And.intro (by rw [e120]; omega) (And.intro (by decide) ?_)))
  exact hQ _ (by rw [e120]; omega)
theorem c_machine_init {o0 o1 o2 o3 o4 o5 o6 o7 o8 o9 o10 o11 o12 o13 o14 o15 : mj_O} {z : Nat} (h5 : z ≤ 250) (hb : 153 + 5 * z ≤ bs) (hQ : ∀ b, bs ≤ b + (153 + 5 * z) → Q (.inl none, ([o0, o1, o2, o3, o4, o5, o6, o7, o8, o9, o10, o11, o12, o13, o14, o15, oF 6 [.ref 17, .ref 23, .long 0, .long 0, .long 0, .long 0, .int 0, .int 0, .int 0, .int 0], oF 7 [.int (nI z), .ref 18, .ref 19, .ref 20, .ref 21, .ref 22, .int (nI z), .int 0, .int 0], oJ z l0, oJ z l0, oI z (fillF z0 0 z), oZ z z0, oI z z0, oF 8 [.ref 17, .ref 24, .ref 26, .int 0], sbO, sbB, oJ 120 l0], bc, b, true))) :
    mj_Mt gT cst gnw (m + 4) y_Machine_init [.ref 16, .int (nI z)] ([o0, o1, o2, o3, o4, o5, o6, o7, o8, o9, o10, o11, o12, o13, o14, o15, oF 6 fN6], bc + 10, bs, true) Q := by
  intro J hJ
  refine hJ _ _ _ _ ?_
  refine And.intro (Nat.le_of_ble_eq_true rfl) (And.intro (show 9 ≤ bs by omega) ?_)
  refine c_store_init h5 (show 5 * z ≤ bs - 9 by omega) (fun b1 (h1 : bs - 9 ≤ b1 + 5 * z) => ?_)
  refine And.intro (Nat.le_of_ble_eq_true rfl) (And.intro (show 4 ≤ b1 by omega) ?_)
  refine c_display_init (show 140 ≤ b1 - 4 by omega) (fun b2 (h2 : b1 - 4 ≤ b2 + 140) => ?_)
  exact hQ _ (by omega)
end P1
end
section
section P1b
variable {cst : Nat → Option (Nat × (Nat → Int32))} {m bc bs : Nat} {Q : mj_R → Prop}
set_option maxRecDepth 10000
def c0 (z : Nat) : cS := ((((((z, -1), z0), (z0, z0)), (((z0, z0), z0), (0, z0))), ((((0, 0), l0), (l0, 0)), (((0, 0), z0), (0, 0)))), (((((0, 0), 0), (0, 0)), (((0, 0), 0), (l0, l0))), ((((fillF z0 0 z, z0), z0), (nI z, 0)), (((0, 0), sbO), (sbB, l0)))))
def clZ (x : Int32) : Nat := if x < 20 then 20 else if 250 < x then 250 else x.toNatClampNeg
theorem clZ_le (x : Int32) : 20 ≤ clZ x ∧ clZ x ≤ 250 := by
  unfold clZ
  split
  · omega
  · split
    · omega
    · rename_i h1 h2
      obtain ⟨j, hj, rfl⟩ := nI_of (x := x) (fun h => h1 (Int32.lt_of_lt_of_le h (by decide)))
      rw [nI_clamp (by omega)]
      have a : ¬ j < 20 := fun h => h1 ((nI_ltI (b := 20) hj (by decide)).mpr h)
      have b : ¬ 250 < j := fun h => h2 ((nI_ltI (a := 250) (by decide) hj).mpr h)
      omega
theorem clZ_nI (x : Int32) : nI (clZ x) = if x < 20 then 20 else if 250 < x then 250 else x := by
  unfold clZ
  split
  · decide
  · split
    · decide
    · rename_i h1 h2
      obtain ⟨j, hj, rfl⟩ := nI_of (x := x) (fun h => h1 (Int32.lt_of_lt_of_le h (by decide)))
      rw [nI_clamp (by omega)]
theorem clZ_mm (x : Int32) : (if Int32.ofInt 20 < (if x < Int32.ofInt 250 then x else Int32.ofInt 250) then (if x < Int32.ofInt 250 then x else Int32.ofInt 250) else Int32.ofInt 20) = nI (clZ x) := by
  rw [clZ_nI]
  have e20 : Int32.ofInt 20 = 20 := by decide
  have e250 : Int32.ofInt 250 = 250 := by decide
  rw [e20, e250]
  by_cases h1 : x < 20
  · have h2 : x < 250 := Int32.lt_trans h1 (by decide)
    have h3 : ¬ 20 < x := fun h => Int32.lt_irrefl (Int32.lt_trans h h1)
    rw [if_pos h1, if_pos h2, if_neg h3]
  · rw [if_neg h1]
    by_cases h2 : 250 < x
    · have h3 : ¬ x < 250 := fun h => Int32.lt_irrefl (Int32.lt_trans h h2)
      rw [if_pos h2, if_neg h3]
      decide
    · rw [if_neg h2]
      by_cases h3 : x < 250
      · rw [if_pos h3]
        by_cases h4 : 20 < x
        · rw [if_pos h4]
        · rw [if_neg h4]
          exact Int32.le_antisymm (Int32.not_lt.mp h1) (Int32.not_lt.mp h4)
      · rw [if_neg h3]
        have : x = 250 := Int32.le_antisymm (Int32.not_lt.mp h2) (Int32.not_lt.mp h3)
        subst this
        decide
set_option maxHeartbeats 2000000 in
theorem c_pm_init {x : Int32} (hb : 4000 ≤ bs) (hQ : ∀ b, bs - 4000 ≤ b → Q (.inl none, (cW (c0 (clZ x)) [], bc, b, true))) :
    mj_Mt gT cst gnw (m + 5) y_P_init [.ref 0, .int x] ([oF 0 fN0], bc + 26, bs, true) Q := by
  have hv := clZ_mm x
  have h5 := (clZ_le x).2
  have ec : ∀ z : Nat, z ≤ 250 → (nI z).toNatClampNeg = z := fun z hz => nI_clamp (by omega)
  revert hv h5 hQ
  generalize clZ x = z
  intro hQ hv h5
  intro J hJ
  refine hJ _ _ _ _ ?_
  refine And.intro (Nat.le_of_ble_eq_true rfl) (And.intro (show 7 ≤ bs by omega) ?_)
  rw [hv]
  refine c_tree_init (show 576 ≤ bs - 7 by omega) (fun b1 (h1 : bs - 7 ≤ b1 + 576) => ?_)
  refine And.intro (Nat.le_of_ble_eq_true rfl) (And.intro (show 2 ≤ b1 by omega) ?_)
  refine c_text_init (show 96 ≤ b1 - 2 by omega) (fun b2 (h2 : b1 - 2 ≤ b2 + 96) => ?_)
  refine And.intro (Nat.le_of_ble_eq_true rfl) (And.intro (show 3 ≤ b2 by omega) ?_)
  refine c_reader_init (fun b3 (h3 : b2 - 3 ≤ b3 + 0) => ?_)
  refine And.intro (Nat.le_of_ble_eq_true rfl) (And.intro (show 5 ≤ b3 by omega) ?_)
  refine c_code_init (nI_pos (by omega)) (by rw [ec z h5]; exact h5) (by rw [ec z h5]; show 2 * z ≤ b3 - 5; omega) (fun b4 (h4 : b3 - 5 ≤ b4 + 2 * (nI z).toNatClampNeg) => ?_)
  rw [ec z h5] at h4 ⊢
  refine And.intro (Nat.le_of_ble_eq_true rfl) (And.intro (show 5 ≤ b4 by omega) ?_)
  refine c_coder_init (show 9 ≤ b4 - 5 by omega) (fun b5 (h5_ : b4 - 5 ≤ b5 + 9) => ?_)
  refine And.intro (Nat.le_of_ble_eq_true rfl) (And.intro (show 10 ≤ b5 by omega) ?_)
  refine c_machine_init h5 (show 153 + 5 * z ≤ b5 - 10 by omega) (fun b6 (h6 : b5 - 10 ≤ b6 + (153 + 5 * z)) => ?_)
  exact hQ _ (by omega)
end P1b
end
section
section P1c
variable {cst : Nat → Option (Nat × (Nat → Int32))} {m b0 b1 : Nat} {op : Bool} {tl : List mj_O} {Q : mj_R → Prop}
set_option maxRecDepth 10000
def shI (j : Nat) : Int32 := nI (8 * j) - 8
def wB (w : Int64) (j : Nat) : Int32 := (w.toUInt64 >>> ((shI (j + 1)).toInt64.toUInt64 &&& Int64.toUInt64 63)).toInt64.toInt32 &&& 255
def wC (w : Int64) : Nat → Nat → Option Nat
  | 0, a => some a
  | j + 1, a => if wB w j = 0 then wC w j a else if wB w j < 32 ∨ 126 < wB w j then none else wC w j (a + 1)
def wT (w : Int64) : Nat → Nat → (Nat → Int32) → Nat → Int32
  | 0, _, t => t
  | j + 1, n, t => if wB w j = 0 then wT w j n t else wT w j (n + 1) (upd t n (vp_nar .char ((wB w j).toUInt32 % 65536).toInt32))
theorem wC_succ (w : Int64) (j a : Nat) : wC w (j + 1) a = if wB w j = 0 then wC w j a else if wB w j < 32 ∨ 126 < wB w j then none else wC w j (a + 1) := rfl
theorem wT_succ (w : Int64) (j n : Nat) (t : Nat → Int32) : wT w (j + 1) n t = if wB w j = 0 then wT w j n t else wT w j (n + 1) (upd t n (vp_nar .char ((wB w j).toUInt32 % 65536).toInt32)) := rfl
def wO : Option Nat → Int32
  | none => -1
  | some n => nI n
theorem shI_8 : shI 8 = Int32.ofInt 56 := by decide
theorem shI_sub (j : Nat) : shI (j + 1) + Int32.ofInt (-8) = shI j := by
  unfold shI
  rw [show 8 * (j + 1) = 8 * j + 8 by omega, ← nI_add]
  have e : nI 8 = 8 := by decide
  have e2 : Int32.ofInt (-8) = -8 := by decide
  rw [e, e2, Int32.add_sub_cancel, ← Int32.sub_eq_add_neg]
theorem shI_sub' (j : Nat) : shI (j + 1) - 8 = shI j := by
  have h := shI_sub j
  rw [show Int32.ofInt (-8) = -8 by decide, ← Int32.sub_eq_add_neg] at h
  exact h
theorem shI_lt {j : Nat} (h : j < 8) : ¬ shI (j + 1) < 0 := by
  match j, h with
  | 0, _ => decide
  | 1, _ => decide
  | 2, _ => decide
  | 3, _ => decide
  | 4, _ => decide
  | 5, _ => decide
  | 6, _ => decide
  | 7, _ => decide
theorem shI_0 : shI 0 < 0 := by decide
theorem wC_le (w : Int64) : ∀ (j a n : Nat), wC w j a = some n → a ≤ n ∧ n ≤ a + j := by
  intro j
  induction j with
  | zero =>
    intro a n h
    cases h
    omega
  | succ j ih =>
    intro a n h
    unfold wC at h
    split at h
    · have := ih a n h
      omega
    · split at h
      · cases h
      · have := ih (a + 1) n h
        omega
theorem wC_shift (w : Int64) : ∀ (j a n k : Nat), wC w j a = some k → wC w j (n + a) = some (n + k) := by
  intro j
  induction j with
  | zero =>
    intro a n k h
    cases h
    rfl
  | succ j ih =>
    intro a n k h
    rw [wC_succ] at h ⊢
    split
    · rename_i g
      rw [if_pos g] at h
      exact ih a n k h
    · rename_i g
      rw [if_neg g] at h
      split
      · rename_i g2
        rw [if_pos g2] at h
        cases h
      · rename_i g2
        rw [if_neg g2] at h
        exact ih (a + 1) n k h
theorem wC_add {w : Int64} {k : Nat} (h : wC w 8 0 = some k) (n : Nat) : wC w 8 n = some (n + k) := wC_shift w 8 0 n k h
theorem c_codeIn {h : mj_H} {x : Int64} {y : Int32} (hQ : Q (.inl (some (.int ((x.toUInt64 >>> (y.toInt64.toUInt64 &&& Int64.toUInt64 63)).toInt64.toInt32 &&& 255))), h)) : mj_Mt gT cst gnw (m + 1) y_Text_codeIn [.long x, .int y] h Q := by
  intro J hJ
  refine hJ _ _ _ _ ?_
  exact hQ
theorem c_charactersIn {h : mj_H} {w : Int64} (hQ : Q (.inl (some (.int (wO (wC w 8 0)))), h)) : mj_Mt gT cst gnw (m + 2) y_Text_charactersIn [.long w] h Q := by
  intro J hJ
  have loop : ∀ (j a : Nat) (x : Option Value), j ≤ 8 → wC w j a = wC w 8 0 → J 4 [some (.long w), none, some (.int (nI a)), some (.int (shI j)), x] [] h := by
    intro j
    induction j with
    | zero =>
      intro a x hj e
      refine hJ _ _ _ _ ?_
      refine And.intro (fun _ => ?_) (fun g => absurd shI_0 g)
      rw [← e] at hQ
      exact hQ
    | succ j ih =>
      intro a x hj e
      refine hJ _ _ _ _ ?_
      refine And.intro (fun g => absurd g (shI_lt (by omega))) (fun _ => ?_)
      refine c_codeIn ?_
      rw [wC_succ w j a] at e
      refine And.intro (fun (g : wB w j = 0) => ?_) (fun (g : ¬ wB w j = 0) => ?_)
      · rw [if_pos g] at e
        have key : ∀ x : Int32, x = shI j → J 4 [some (.long w), none, some (.int (nI a)), some (.int x), some (.int (wB w j))] [] h := by
          rintro x rfl
          exact ih a _ (by omega) e
        exact key _ (shI_sub j)
      · rw [if_neg g] at e
        refine And.intro (fun (g2 : wB w j < 32) => ?_) (fun (g2 : ¬ wB w j < 32) => ?_)
        · rw [if_pos (Or.inl g2)] at e
          rw [← e] at hQ
          exact hQ
        · refine And.intro (fun (g3 : wB w j ≤ 126) => ?_) (fun (g3 : ¬ wB w j ≤ 126) => ?_)
          · have g4 : ¬ (wB w j < 32 ∨ 126 < wB w j) := fun g => g.elim g2 (fun q => (Int32.not_lt.mpr g3) q)
            rw [if_neg g4] at e
            have key : ∀ x y : Int32, x = shI j → y = nI (a + 1) → J 4 [some (.long w), none, some (.int y), some (.int x), some (.int (wB w j))] [] h := by
              rintro x y rfl rfl
              exact ih (a + 1) _ (by omega) e
            exact key _ _ (shI_sub j) (nI_succ a).symm
          · rw [if_pos (Or.inr (Int32.not_le.mp g3))] at e
            rw [← e] at hQ
            exact hQ
  refine hJ _ _ _ _ ?_
  have key : ∀ x : Int32, x = shI 8 → J 4 [some (.long w), none, some (.int 0), some (.int x), none] [] h := by
    rintro x rfl
    exact loop 8 0 none (by omega) rfl
  exact key _ shI_8.symm
theorem nI_ne_1 {k : Nat} (h : k < 2 ^ 31) : ¬ nI k = -1 := by
  intro e
  have := nI_toInt h
  rw [e, show (-1 : Int32).toInt = -1 by decide] at this
  omega
def wR (w : Int64) (n : Nat) : Option Nat := match wC w 8 0 with
  | none => none
  | some k => if n + k ≤ 96 then some (n + k) else none
theorem c_append {s : cS} {w : Int64} {n : Nat} (hn : n ≤ 96) (hs : s.len = nI n)
    (h1 : wR w n = none → Q (.inl (some (.int 0)), (cW s tl, b0, b1, op)))
    (h2 : ∀ k, wR w n = some k → Q (.inl (some (.int 1)), (cW ((s.s_len (nI k)).s_txt (wT w 8 n s.txt)) tl, b0, b1, op))) :
    mj_Mt gT cst gnw (m + 3) y_Text_append [.ref 8, .long w] (cW s tl, b0, b1, op) Q := by
  intro J hJ
  have loop : ∀ (k j a : Nat) (t : Nat → Int32) (x0 : Int32) (x : Option Value), wR w n = some k → j ≤ 8 → wC w j a = some k → wT w j a t = wT w 8 n s.txt → J 16 [some (.ref 8), some (.long w), none, some (.int x0), some (.int (shI j)), x] [] (cW ((s.s_len (nI a)).s_txt t) tl, b0, b1, op) := by
    intro k j
    induction j with
    | zero =>
      intro a t x0 x hk hj e et
      have e' : a = k := Option.some.inj e
      subst e'
      change t = _ at et
      subst et
      refine hJ _ _ _ _ ?_
      refine And.intro (fun _ => ?_) (fun g => absurd shI_0 g)
      exact And.intro (Or.inr rfl) (h2 a hk)
    | succ j ih =>
      intro a t x0 x hk hj e et
      have hle := wC_le w (j + 1) a k e
      have hk96 : k ≤ 96 := by
        unfold wR at hk
        split at hk
        · cases hk
        · split at hk
          · cases hk
            assumption
          · cases hk
      refine hJ _ _ _ _ ?_
      refine And.intro (fun g => absurd g (shI_lt (by omega))) (fun _ => ?_)
      refine c_codeIn ?_
      rw [wC_succ w j a] at e
      rw [wT_succ w j a t] at et
      refine And.intro (fun (g : wB w j = 0) => ?_) (fun (g : ¬ wB w j = 0) => ?_)
      · rw [if_pos g] at e et
        have key : ∀ x : Int32, x = shI j → J 16 [some (.ref 8), some (.long w), none, some (.int x0), some (.int x), some (.int (wB w j))] [] (cW ((s.s_len (nI a)).s_txt t) tl, b0, b1, op) := by
          rintro x rfl
          exact ih a t x0 _ hk (by omega) e et
        exact key _ (shI_sub j)
      · rw [if_neg g] at e et
        by_cases g4 : wB w j < 32 ∨ 126 < wB w j
        · rw [if_pos g4] at e
          cases e
        · rw [if_neg g4] at e
          have hle2 := wC_le w j (a + 1) k e
          refine And.intro (fun g5 => absurd g5 (nI_ge (b := 96) (by omega) (by decide))) (fun _ => ?_)
          refine And.intro (vp_in_nI (by omega) (by decide)) ?_
          have key : ∀ (i : Nat) (x y : Int32), i = a → x = shI j → y = nI (a + 1) → J 16 [some (.ref 8), some (.long w), none, some (.int x0), some (.int x), some (.int (wB w j))] [] (cW ((s.s_len y).s_txt (upd t i (vp_nar .char ((wB w j).toUInt32 % 65536).toInt32))) tl, b0, b1, op) := by
            rintro i x y rfl rfl rfl
            exact ih (i + 1) _ x0 _ hk (by omega) e et
          exact key _ _ _ (nI_clamp (by omega)) (shI_sub j) (nI_succ a).symm
  refine hJ _ _ _ _ ?_
  refine c_charactersIn ?_
  cases hc : wC w 8 0 with
  | none =>
    have hr : wR w n = none := by
      unfold wR
      rw [hc]
    refine And.intro (fun _ => ?_) (fun g => absurd rfl g)
    exact And.intro (Or.inl rfl) (h1 hr)
  | some k =>
    have hk := wC_le w 8 0 k hc
    refine And.intro (fun g => absurd g (nI_ne_1 (by omega))) (fun _ => ?_)
    have hr : wR w n = if n + k ≤ 96 then some (n + k) else none := by
      unfold wR
      rw [hc]
    by_cases h96 : n + k ≤ 96
    · rw [if_pos h96] at hr
      have hle : s.len + nI k ≤ nI 96 := by
        rw [hs, nI_add]
        exact nI_le h96 (by decide)
      refine And.intro (fun _ => ?_) (fun g => absurd hle g)
      have key : ∀ (x : Int32) (y : Int32), x = shI 8 → y = nI n → J 16 [some (.ref 8), some (.long w), none, some (.int (nI k)), some (.int x), none] [] (cW (s.s_len y) tl, b0, b1, op) := by
        rintro x y rfl rfl
        exact loop (n + k) 8 n s.txt _ none hr (by omega) (wC_add hc n) rfl
      exact key _ _ shI_8.symm hs
    · rw [if_neg h96] at hr
      have hle : ¬ s.len + nI k ≤ nI 96 := by
        rw [hs, nI_add]
        exact nI_ge (by omega) (by omega)
      refine And.intro (fun g => absurd g hle) (fun _ => ?_)
      exact And.intro (Or.inl rfl) (h1 hr)
end P1c
end
section
section P1d
variable {cst : Nat → Option (Nat × (Nat → Int32))} {m b0 b1 : Nat} {op : Bool} {tl : List mj_O} {Q : mj_R → Prop}
set_option maxRecDepth 10000
theorem c_write {s : cS} {w : Int64} {n : Nat} (hn : n ≤ 96) (hs : s.len = nI n)
    (h1 : wR w n = none → Q (.inl (some (.int 0)), (cW s tl, b0, b1, op)))
    (h2 : ∀ k, wR w n = some k → Q (.inl (some (.int 1)), (cW ((s.s_len (nI k)).s_txt (wT w 8 n s.txt)) tl, b0, b1, op))) :
    mj_Mt gT cst gnw (m + 4) y_P_write [.ref 0, .long w] (cW s tl, b0, b1, op) Q := by
  intro J hJ
  refine hJ _ _ _ _ ?_
  refine c_append hn hs (fun h => ?_) (fun k h => ?_)
  · exact And.intro (Or.inl rfl) (h1 h)
  · exact And.intro (Or.inr rfl) (h2 k h)
theorem and255 (x : Int64) : (x &&& Int64.ofNat 255).toInt32 = x.toInt32 &&& 255 := by
  rw [Int64.toInt32_and]
  rfl
theorem r_write {s : cS} {r : rM} {w : Int64} {n : Nat} (hn : n ≤ 96) (hs : r.typed = nI n)
    (h1 : wR w n = none → Q (.inl (some (.int 0)), (cW s (rW (r.s_thrown 0) tl), b0, b1, op)))
    (h2 : ∀ k, wR w n = some k → Q (.inl (some (.int 1)), (cW s (rW (((r.s_thrown 0).s_typed (nI k)).s_text (wT w 8 n r.text)) tl), b0, b1, op))) :
    mj_Mt gT cst gnw (m + 1) y_R_write [.ref 27, .long w] (cW s (rW r tl), b0, b1, op) Q := by
  intro J hJ
  have bw : ∀ j, ((w.toUInt64 >>> ((shI (j + 1)).toInt64.toUInt64 &&& Int64.toUInt64 63)).toInt64 &&& Int64.ofNat 255).toInt32 = wB w j := fun j => and255 _
  have loop2 : ∀ (k j a : Nat) (t : Nat → Int32) (x0 : Int32) (x : Option Value), wR w n = some k → j ≤ 8 → wC w j a = some k → wT w j a t = wT w 8 n r.text → J 49 [some (.ref 27), some (.long w), none, some (.int x0), some (.int (shI j)), x] [] (cW s (rW (((r.s_thrown 0).s_typed (nI a)).s_text t) tl), b0, b1, op) := by
    intro k j
    induction j with
    | zero =>
      intro a t x0 x hk hj e et
      have e' : a = k := Option.some.inj e
      subst e'
      change t = _ at et
      subst et
      refine hJ _ _ _ _ ?_
      refine And.intro (fun _ => ?_) (fun g => absurd shI_0 g)
      exact And.intro (Or.inr rfl) (h2 a hk)
    | succ j ih =>
      intro a t x0 x hk hj e et
      have hle := wC_le w (j + 1) a k e
      have hk96 : k ≤ 96 := by
        unfold wR at hk
        split at hk
        · cases hk
        · split at hk
          · cases hk
            assumption
          · cases hk
      refine hJ _ _ _ _ ?_
      refine And.intro (fun g => absurd g (shI_lt (by omega))) (fun _ => ?_)
      rw [wC_succ w j a] at e
      rw [wT_succ w j a t] at et
      have key : ∀ (i : Nat) (c x y : Int32), i = a → c = wB w j → x = shI j → y = nI (a + 1) → ¬ wB w j = 0 → J 49 [some (.ref 27), some (.long w), none, some (.int x0), some (.int x), some (.int c)] [] (cW s (rW (((r.s_thrown 0).s_typed y).s_text (upd t i (vp_nar .char (c.toUInt32 % 65536).toInt32))) tl), b0, b1, op) := by
        rintro i c x y rfl rfl rfl rfl g
        rw [if_neg g] at e et
        by_cases g4 : wB w j < 32 ∨ 126 < wB w j
        · rw [if_pos g4] at e
          cases e
        · rw [if_neg g4] at e
          exact ih (i + 1) _ x0 _ hk (by omega) e et
      have key0 : ∀ (c x : Int32), c = wB w j → x = shI j → wB w j = 0 → J 49 [some (.ref 27), some (.long w), none, some (.int x0), some (.int x), some (.int c)] [] (cW s (rW (((r.s_thrown 0).s_typed (nI a)).s_text t) tl), b0, b1, op) := by
        rintro c x rfl rfl g
        rw [if_pos g] at e et
        exact ih a t x0 _ hk (by omega) e et
      refine And.intro (fun g => ?_) (fun g => ?_)
      · exact key0 _ _ (bw j) (shI_sub' j) ((bw j).symm.trans g)
      · have g' : ¬ wB w j = 0 := fun q => g ((bw j).trans q)
        have hlt : a < 96 := by
          rw [if_neg g'] at e
          by_cases g4 : wB w j < 32 ∨ 126 < wB w j
          · rw [if_pos g4] at e
            cases e
          · rw [if_neg g4] at e
            have := wC_le w j (a + 1) k e
            omega
        refine And.intro (vp_in_nI hlt (by decide)) ?_
        exact key _ _ _ _ (nI_clamp (by omega)) (bw j) (shI_sub' j) (nI_succ a).symm g'
  have loop1 : ∀ (j a : Nat) (x : Option Value), j ≤ 8 → a + j ≤ 8 → wC w j a = wC w 8 0 → J 7 [some (.ref 27), some (.long w), none, some (.int (nI a)), some (.int (shI j)), x] [] (cW s (rW (r.s_thrown 0) tl), b0, b1, op) := by
    intro j
    induction j with
    | zero =>
      intro a x hj ha e
      have hc : wC w 8 0 = some a := e.symm
      have hr : wR w n = if n + a ≤ 96 then some (n + a) else none := by
        unfold wR
        rw [hc]
      refine hJ _ _ _ _ ?_
      refine And.intro (fun _ => ?_) (fun g => absurd shI_0 g)
      by_cases h96 : n + a ≤ 96
      · rw [if_pos h96] at hr
        have hle : r.typed + nI a ≤ nI 96 := by
          rw [hs, nI_add]
          exact nI_le h96 (by decide)
        refine And.intro (fun _ => ?_) (fun g => absurd hle g)
        have key : ∀ (x : Option Value) (y z : Int32), y = shI 8 → z = nI n → J 49 [some (.ref 27), some (.long w), none, some (.int (nI a)), some (.int y), x] [] (cW s (rW ((r.s_thrown 0).s_typed z) tl), b0, b1, op) := by
          rintro x y z rfl rfl
          exact loop2 (n + a) 8 n r.text _ _ hr (by omega) (wC_add hc n) rfl
        exact key _ _ _ shI_8.symm hs
      · rw [if_neg h96] at hr
        have hle : ¬ r.typed + nI a ≤ nI 96 := by
          rw [hs, nI_add]
          exact nI_ge (by omega) (by omega)
        refine And.intro (fun g => absurd g hle) (fun _ => ?_)
        exact And.intro (Or.inl rfl) (h1 hr)
    | succ j ih =>
      intro a x hj ha e
      refine hJ _ _ _ _ ?_
      refine And.intro (fun g => absurd g (shI_lt (by omega))) (fun _ => ?_)
      rw [wC_succ w j a] at e
      have key0 : ∀ (c x : Int32), c = wB w j → x = shI j → wB w j = 0 → J 7 [some (.ref 27), some (.long w), none, some (.int (nI a)), some (.int x), some (.int c)] [] (cW s (rW (r.s_thrown 0) tl), b0, b1, op) := by
        rintro c x rfl rfl g
        rw [if_pos g] at e
        exact ih a _ (by omega) (by omega) e
      have key1 : ∀ (c x y : Int32), c = wB w j → x = shI j → y = nI (a + 1) → ¬ wB w j = 0 → ¬ (wB w j < 32 ∨ 126 < wB w j) → J 7 [some (.ref 27), some (.long w), none, some (.int y), some (.int x), some (.int c)] [] (cW s (rW (r.s_thrown 0) tl), b0, b1, op) := by
        rintro c x y rfl rfl rfl g g4
        rw [if_neg g, if_neg g4] at e
        exact ih (a + 1) _ (by omega) (by omega) e
      have key2 : ¬ wB w j = 0 → (wB w j < 32 ∨ 126 < wB w j) → wR w n = none := by
        intro g g4
        rw [if_neg g, if_pos g4] at e
        unfold wR
        rw [← e]
      refine And.intro (fun g => ?_) (fun g => ?_)
      · refine And.intro (fun _ => ?_) (fun q => absurd g q)
        exact key0 _ _ (bw j) (shI_sub' j) ((bw j).symm.trans g)
      · have g' : ¬ wB w j = 0 := fun q => g ((bw j).trans q)
        refine And.intro (fun g2 => ?_) (fun g2 => ?_)
        · exact And.intro (Or.inl rfl) (h1 (key2 g' (Or.inl (by rw [← bw j]; exact g2))))
        · refine And.intro (fun g3 => ?_) (fun g3 => ?_)
          · refine And.intro (fun q => absurd q g) (fun _ => ?_)
            exact key1 _ _ _ (bw j) (shI_sub' j) (nI_succ a).symm g' (by rw [← bw j]; exact fun q => q.elim g2 (fun q => (Int32.not_lt.mpr g3) q))
          · exact And.intro (Or.inl rfl) (h1 (key2 g' (Or.inr (by rw [← bw j]; exact Int32.not_le.mp g3))))
  refine hJ _ _ _ _ ?_
  have key : ∀ x : Int32, x = shI 8 → J 7 [some (.ref 27), some (.long w), none, some (.int 0), some (.int x), none] [] (cW s (rW (r.s_thrown 0) tl), b0, b1, op) := by
    rintro x rfl
    exact loop1 8 0 none (by omega) (by omega) rfl
  exact key _ shI_8.symm
end P1d
end
section
section P1e
variable {cst : Nat → Option (Nat × (Nat → Int32))} {m b0 b1 : Nat} {op : Bool} {tl : List mj_O} {Q : mj_R → Prop} {s : cS}
set_option maxRecDepth 10000
theorem c_treeClear (hQ : Q (.inl none, (cW (s.s_nodes 0) tl, b0, b1, op))) : mj_Mt gT cst gnw (m + 1) y_Tree_clear [.ref 1] (cW s tl, b0, b1, op) Q := by
  intro J hJ
  refine hJ _ _ _ _ ?_
  exact hQ
theorem c_textClear (hQ : Q (.inl none, (cW (s.s_len 0) tl, b0, b1, op))) : mj_Mt gT cst gnw (m + 1) y_Text_clear [.ref 8] (cW s tl, b0, b1, op) Q := by
  intro J hJ
  refine hJ _ _ _ _ ?_
  exact hQ
theorem c_textLength (hQ : Q (.inl (some (.int s.len)), (cW s tl, b0, b1, op))) : mj_Mt gT cst gnw (m + 1) y_Text_length [.ref 8] (cW s tl, b0, b1, op) Q := by
  intro J hJ
  refine hJ _ _ _ _ ?_
  exact hQ
def cAt (s : cS) (i : Int32) : Int32 := if ¬ i < 0 ∧ i < s.len then s.txt i.toNatClampNeg else 0
theorem c_codeAt {i : Int32} {n : Nat} (hn : n ≤ 96) (hs : s.len = nI n) (hQ : Q (.inl (some (.int (cAt s i))), (cW s tl, b0, b1, op))) : mj_Mt gT cst gnw (m + 1) y_Text_codeAt [.ref 8, .int i] (cW s tl, b0, b1, op) Q := by
  intro J hJ
  refine hJ _ _ _ _ ?_
  refine And.intro (fun (g : i < 0) => ?_) (fun (g : ¬ i < 0) => ?_)
  · unfold cAt at hQ
    rw [if_neg (fun q => q.1 g)] at hQ
    exact hQ
  · refine And.intro (fun (g2 : s.len ≤ i) => ?_) (fun (g2 : ¬ s.len ≤ i) => ?_)
    · unfold cAt at hQ
      rw [if_neg (fun q => Int32.not_le.mpr q.2 g2)] at hQ
      exact hQ
    · unfold cAt at hQ
      have g3 := Int32.not_le.mp g2
      rw [if_pos ⟨g, g3⟩] at hQ
      refine And.intro ?_ hQ
      rw [hs] at g3
      obtain ⟨j, hj, rfl⟩ := nI_of g
      exact vp_in_nI (by have := (nI_ltI hj (by omega)).mp g3; omega) (by decide)
def isL (c : Int32) : Bool := decide (97 ≤ c) && decide (c ≤ 122)
def isD (c : Int32) : Bool := decide (48 ≤ c) && decide (c ≤ 57)
def bI (b : Bool) : Int32 := if b then 1 else 0
theorem bI_01 (b : Bool) : bI b = 0 ∨ bI b = 1 := by cases b <;> simp [bI]
theorem c_isLetter {h : mj_H} {c : Int32} (hQ : Q (.inl (some (.int (bI (isL c)))), h)) : mj_Mt gT cst gnw (m + 1) y_Reader_isLetter [.int c] h Q := by
  intro J hJ
  refine hJ _ _ _ _ ?_
  refine And.intro (fun (g : c < 97) => ?_) (fun (g : ¬ c < 97) => ?_)
  · have e : isL c = false := by simp [isL, Int32.not_le.mpr g]
    rw [e] at hQ
    exact And.intro (Or.inl rfl) hQ
  · refine And.intro (fun (g2 : 122 < c) => ?_) (fun (g2 : ¬ 122 < c) => ?_)
    · have e : isL c = false := by simp [isL, Int32.not_le.mpr g2]
      rw [e] at hQ
      exact And.intro (Or.inl rfl) hQ
    · have e : isL c = true := by simp [isL, Int32.not_lt.mp g, Int32.not_lt.mp g2]
      rw [e] at hQ
      exact And.intro (Or.inr rfl) hQ
theorem c_isDigit {h : mj_H} {c : Int32} (hQ : Q (.inl (some (.int (bI (isD c)))), h)) : mj_Mt gT cst gnw (m + 1) y_Reader_isDigit [.int c] h Q := by
  intro J hJ
  refine hJ _ _ _ _ ?_
  refine And.intro (fun (g : c < 48) => ?_) (fun (g : ¬ c < 48) => ?_)
  · have e : isD c = false := by simp [isD, Int32.not_le.mpr g]
    rw [e] at hQ
    exact And.intro (Or.inl rfl) hQ
  · refine And.intro (fun (g2 : 57 < c) => ?_) (fun (g2 : ¬ 57 < c) => ?_)
    · have e : isD c = false := by simp [isD, Int32.not_le.mpr g2]
      rw [e] at hQ
      exact And.intro (Or.inl rfl) hQ
    · have e : isD c = true := by simp [isD, Int32.not_lt.mp g, Int32.not_lt.mp g2]
      rw [e] at hQ
      exact And.intro (Or.inr rfl) hQ
theorem c_fail {os : List mj_O} (hb : 6 ≤ b1) (hQ : Q (.inr 0, (os, b0, b1 - 6, false))) : mj_Mt gT cst gnw (m + 1) y_Reader_fail [] (os, b0 + 1, b1, op) Q := by
  intro J hJ
  refine hJ _ _ _ _ ?_
  exact And.intro hb hQ
theorem cAt_0 {i : Int32} (hs : s.len = 0) : cAt s i = 0 := by
  unfold cAt
  rw [if_neg]
  rw [hs]
  exact fun q => q.1 q.2
theorem c_number0 (hs : s.len = 0) (hb : 6 ≤ b1) (hQ : Q (.inr 0, (cW s tl, b0, b1 - 6, false))) : mj_Mt gT cst gnw (m + 2) y_Reader_number [.ref 10] (cW s tl, b0 + 1, b1, op) Q := by
  intro J hJ
  refine hJ _ _ _ _ ?_
  refine c_codeAt (n := 0) (by omega) hs ?_
  rw [cAt_0 hs]
  refine And.intro (fun _ => ?_) (fun g => absurd g (by decide))
  refine And.intro (fun _ => ?_) (fun g => absurd rfl g)
  refine c_codeAt (n := 0) (by omega) hs ?_
  rw [cAt_0 hs]
  refine c_isDigit ?_
  refine And.intro (fun g => absurd rfl g) (fun _ => ?_)
  exact c_fail hb hQ
theorem c_atom0 (hs : s.len = 0) (hb : 6 ≤ b1) (hQ : Q (.inr 0, (cW s tl, b0, b1 - 6, false))) : mj_Mt gT cst gnw (m + 3) y_Reader_atom [.ref 10] (cW s tl, b0 + 1, b1, op) Q := by
  intro J hJ
  refine hJ _ _ _ _ ?_
  refine c_codeAt (n := 0) (by omega) hs ?_
  rw [cAt_0 hs]
  refine c_isLetter ?_
  refine And.intro (fun g => absurd rfl g) (fun _ => ?_)
  exact c_number0 hs hb hQ
theorem c_expression0 {d : Int32} (hs : s.len = 0) (hb : 6 ≤ b1) (hQ : Q (.inr 0, (cW s tl, b0, b1 - 6, false))) : mj_Mt gT cst gnw (m + 4) y_Reader_expression [.ref 10, .int d] (cW s tl, b0 + 1, b1, op) Q := by
  intro J hJ
  refine hJ _ _ _ _ ?_
  refine c_codeAt (n := 0) (by omega) hs ?_
  rw [cAt_0 hs]
  refine And.intro (fun _ => ?_) (fun g => absurd g (by decide))
  refine And.intro (fun g => absurd g (by decide)) (fun _ => ?_)
  exact c_atom0 hs hb hQ
theorem c_read0 (hs : s.len = 0) (hb : 6 ≤ b1) (hQ : Q (.inl (some (.int 0)), (cW ((s.s_nodes 0).s_at_ 0) tl, b0, b1 - 6, false))) : mj_Mt gT cst gnw (m + 5) y_Reader_read [.ref 10] (cW s tl, b0 + 1, b1, op) Q := by
  intro J hJ
  refine hJ _ _ _ _ ?_
  refine c_treeClear ?_
  exact c_expression0 (s := ((s.s_nodes 0).s_at_ 0)) hs hb hQ
theorem c_compile0 (hs : s.len = 0) (hb : 12 ≤ b1) (hQ : Q (.inr 0, (cW ((((s.s_nodes 0).s_at_ 0).s_err 0).s_len 0) tl, b0, b1 - 6 - 6, false))) : mj_Mt gT cst gnw (m + 6) y_P_compile [.ref 0] (cW s tl, b0 + 2, b1, op) Q := by
  intro J hJ
  refine hJ _ _ _ _ ?_
  refine c_read0 (b0 := b0 + 1) hs (by omega) ?_
  refine c_textClear (s := (((s.s_nodes 0).s_at_ 0).s_err 0)) ?_
  refine And.intro (fun _ => ?_) (fun (g : (0 : Int32) = -1) => absurd g (by decide))
  refine And.intro (fun (g : (0 : Int32) = -1) => absurd g (by decide)) (fun _ => ?_)
  exact And.intro (by omega) hQ
theorem c_position (hQ : Q (.inl (some (.int s.err)), (cW s tl, b0, b1, op))) : mj_Mt gT cst gnw (m + 1) y_P_position [.ref 0] (cW s tl, b0, b1, op) Q := by
  intro J hJ
  refine hJ _ _ _ _ ?_
  exact hQ
theorem c_storeCode0 (hs : s.codeN = 0) (hQ : Q (.inl (some (.long 0)), (cW s tl, b0, b1, op))) : mj_Mt gT cst gnw (m + 1) y_Store_code [.ref 17] (cW s tl, b0, b1, op) Q := by
  intro J hJ
  refine hJ _ _ _ _ ?_
  refine And.intro (fun _ => ?_) (fun (g : ¬ s.codeN ≤ 0) => absurd (by rw [hs]; decide) g)
  exact hQ
theorem c_begin0 (hs : s.codeN = 0) (hQ : Q (.inl (some (.int 0)), (cW s tl, b0, b1, op))) : mj_Mt gT cst gnw (m + 2) y_Machine_begin [.ref 16] (cW s tl, b0, b1, op) Q := by
  intro J hJ
  refine hJ _ _ _ _ ?_
  refine c_storeCode0 hs ?_
  refine And.intro (fun g => absurd (by decide) g) (fun _ => ?_)
  exact And.intro (Or.inl rfl) hQ
theorem c_start0 (hs : s.codeN = 0) (hQ : Q (.inl (some (.int 0)), (cW s tl, b0, b1, op))) : mj_Mt gT cst gnw (m + 3) y_P_start [.ref 0] (cW s tl, b0, b1, op) Q := by
  intro J hJ
  refine hJ _ _ _ _ ?_
  refine c_begin0 hs ?_
  exact And.intro (Or.inl rfl) hQ
theorem c_mode (hQ : Q (.inl (some (.int s.mode)), (cW s tl, b0, b1, op))) : mj_Mt gT cst gnw (m + 1) y_Machine_mode [.ref 16] (cW s tl, b0, b1, op) Q := by
  intro J hJ
  refine hJ _ _ _ _ ?_
  exact hQ
theorem c_state (hQ : Q (.inl (some (.int s.mode)), (cW s tl, b0, b1, op))) : mj_Mt gT cst gnw (m + 2) y_P_state [.ref 0] (cW s tl, b0, b1, op) Q := by
  intro J hJ
  refine hJ _ _ _ _ ?_
  exact c_mode hQ
theorem c_run0 {n : Int32} (hs : s.mode = 0) (hb : 6 ≤ b1) (h1 : n < 0 ∨ 200 < n → Q (.inr 0, (cW s tl, b0, b1 - 6, false))) (h2 : ¬ (n < 0 ∨ 200 < n) → Q (.inl (some (.int 0)), (cW s tl, b0 + 1, b1, op))) : mj_Mt gT cst gnw (m + 2) y_P_run [.ref 0, .int n] (cW s tl, b0 + 1, b1, op) Q := by
  intro J hJ
  refine hJ _ _ _ _ ?_
  refine And.intro (fun (g : n < 0) => ?_) (fun (g : ¬ n < 0) => ?_)
  · exact And.intro hb (h1 (Or.inl g))
  · refine And.intro (fun (g2 : n ≤ 200) => ?_) (fun (g2 : ¬ n ≤ 200) => ?_)
    · have h3 := h2 (fun q => q.elim g (fun q => Int32.not_lt.mpr g2 q))
      refine hJ _ _ _ _ ?_
      refine And.intro (fun _ => h3) (fun _ => ?_)
      refine c_mode ?_
      rw [hs]
      refine And.intro (fun _ => h3) (fun g => absurd g (by decide))
    · exact And.intro hb (h1 (Or.inr (Int32.not_le.mp g2)))
theorem c_next0 (hs : s.mode = 0) (hQ : Q (.inl (some (.int (-1))), (cW s tl, b0, b1, op))) : mj_Mt gT cst gnw (m + 2) y_P_next [.ref 0] (cW s tl, b0, b1, op) Q := by
  intro J hJ
  refine hJ _ _ _ _ ?_
  refine c_mode ?_
  rw [hs]
  exact And.intro (fun _ => hQ) (fun g => absurd g (by decide))
theorem c_shown0 {k : Int32} (hs : s.mode = 0) (hQ : Q (.inl (some (.int (-1))), (cW s tl, b0, b1, op))) : mj_Mt gT cst gnw (m + 2) y_P_shown [.ref 0, .int k] (cW s tl, b0, b1, op) Q := by
  intro J hJ
  refine hJ _ _ _ _ ?_
  refine c_mode ?_
  rw [hs]
  exact And.intro (fun _ => hQ) (fun g => absurd g (by decide))
theorem c_cell0 {h : mj_H} (hQ : Q (.inl (some (.int (-1))), h)) : mj_Mt gT cst gnw (m + 1) y_Value_cell [.long 0] h Q := by
  intro J hJ
  refine hJ _ _ _ _ ?_
  exact And.intro (fun _ => hQ) (fun g => absurd (by decide) g)
theorem c_isPair0 {h : mj_H} (hQ : Q (.inl (some (.int 0)), h)) : mj_Mt gT cst gnw (m + 1) y_Value_isPair [.long 0] h Q := by
  intro J hJ
  refine hJ _ _ _ _ ?_
  exact And.intro (fun _ => And.intro (Or.inl rfl) hQ) (fun g => absurd g (by decide))
theorem c_length0 (hQ : Q (.inl (some (.int 0)), (cW s tl, b0, b1, op))) : mj_Mt gT cst gnw (m + 2) y_Store_length [.ref 17, .long 0] (cW s tl, b0, b1, op) Q := by
  intro J hJ
  refine hJ _ _ _ _ ?_
  refine hJ _ _ _ _ ?_
  refine c_isPair0 ?_
  exact And.intro (fun _ => hQ) (fun g => absurd rfl g)
theorem c_reach0 (hQ : Q (.inl none, (cW s tl, b0, b1, op))) : mj_Mt gT cst gnw (m + 2) y_Store_reach [.ref 17, .long 0] (cW s tl, b0, b1, op) Q := by
  intro J hJ
  refine hJ _ _ _ _ ?_
  refine c_cell0 ?_
  exact And.intro (fun _ => hQ) (fun g => absurd (by decide) g)
theorem c_mark0 (hz : s.z ≤ 250) (hs : s.codeN = 0) (hQ : ∀ f, Q (.inl (some (.int 0)), (cW ((s.s_marked f).s_reachN 0) tl, b0, b1, op))) : mj_Mt gT cst gnw (m + 3) y_Store_mark [.ref 17, .long 0, .long 0, .long 0, .long 0] (cW s tl, b0, b1, op) Q := by
  intro J hJ
  have loop : ∀ (n k : Nat) (f : Nat → Int32), n = s.z - k → k ≤ s.z → J 2 [some (.ref 17), some (.long 0), none, some (.long 0), none, some (.long 0), none, some (.long 0), none, some (.int (nI k))] [] (cW (s.s_marked f) tl, b0, b1, op) := by
    intro n
    induction n with
    | zero =>
      intro k f hn hk
      refine hJ _ _ _ _ ?_
      refine And.intro (fun _ => ?_) (fun (g : ¬ nI s.z ≤ nI k) => absurd (nI_le (by omega) (by omega)) g)
      refine c_reach0 (s := ((s.s_marked f).s_reachN 0)) ?_
      refine c_reach0 (s := ((s.s_marked f).s_reachN 0)) ?_
      refine c_reach0 (s := ((s.s_marked f).s_reachN 0)) ?_
      refine c_reach0 (s := ((s.s_marked f).s_reachN 0)) ?_
      refine c_storeCode0 (s := ((s.s_marked f).s_reachN 0)) hs ?_
      refine c_reach0 (s := ((s.s_marked f).s_reachN 0)) ?_
      refine hJ _ _ _ _ ?_
      refine And.intro (fun _ => ?_) (fun (g : ¬ (0 : Int32) ≤ 0) => absurd (by decide) g)
      exact hQ f
    | succ n ih =>
      intro k f hn hk
      refine hJ _ _ _ _ ?_
      refine And.intro (fun (g : nI s.z ≤ nI k) => absurd g (nI_ge (by omega) (by omega))) (fun _ => ?_)
      refine And.intro (vp_in_nI (show k < s.z by omega) (show s.z < 2 ^ 31 by omega)) ?_
      have key : ∀ (f : Nat → Int32) (x : Int32), x = nI (k + 1) → J 2 [some (.ref 17), some (.long 0), none, some (.long 0), none, some (.long 0), none, some (.long 0), none, some (.int x)] [] (cW (s.s_marked f) tl, b0, b1, op) := by
        rintro f x rfl
        exact ih (k + 1) f (by omega) (by omega)
      exact key (upd f (nI k).toNatClampNeg (vp_nar .boolean (Int32.ofInt 0))) _ (nI_succ k).symm
  refine hJ _ _ _ _ ?_
  exact loop s.z 0 s.marked (by omega) (by omega)
theorem c_mark0' {a b c d : Int64} (ha : a = 0) (hb : b = 0) (hc : c = 0) (hd : d = 0) (hz : s.z ≤ 250) (hs : s.codeN = 0) (hQ : ∀ f, Q (.inl (some (.int 0)), (cW ((s.s_marked f).s_reachN 0) tl, b0, b1, op))) : mj_Mt gT cst gnw (m + 3) y_Store_mark [.ref 17, .long a, .long b, .long c, .long d] (cW s tl, b0, b1, op) Q := by
  subst ha hb hc hd
  exact c_mark0 hz hs hQ
theorem c_length0' {a : Int64} (ha : a = 0) (hQ : Q (.inl (some (.int 0)), (cW s tl, b0, b1, op))) : mj_Mt gT cst gnw (m + 2) y_Store_length [.ref 17, .long a] (cW s tl, b0, b1, op) Q := by
  subst ha
  exact c_length0 hQ
theorem c_used (hQ : Q (.inl (some (.int (nI s.z - s.freeN))), (cW s tl, b0, b1, op))) : mj_Mt gT cst gnw (m + 2) y_Machine_usedCells [.ref 16] (cW s tl, b0, b1, op) Q := by
  intro J hJ
  refine hJ _ _ _ _ ?_
  intro J2 hJ2
  refine hJ2 _ _ _ _ ?_
  exact hQ
theorem c_colls (hQ : Q (.inl (some (.int s.colls)), (cW s tl, b0, b1, op))) : mj_Mt gT cst gnw (m + 1) y_Machine_collections [.ref 16] (cW s tl, b0, b1, op) Q := by
  intro J hJ
  refine hJ _ _ _ _ ?_
  exact hQ
theorem c_taken (hQ : Q (.inl (some (.int s.taken)), (cW s tl, b0, b1, op))) : mj_Mt gT cst gnw (m + 1) y_Machine_takenBack [.ref 16] (cW s tl, b0, b1, op) Q := by
  intro J hJ
  refine hJ _ _ _ _ ?_
  exact hQ
theorem c_steps (hQ : Q (.inl (some (.int s.steps)), (cW s tl, b0, b1, op))) : mj_Mt gT cst gnw (m + 1) y_Machine_steps [.ref 16] (cW s tl, b0, b1, op) Q := by
  intro J hJ
  refine hJ _ _ _ _ ?_
  exact hQ
def cnt0 (w : Int32) : Int32 := if w = 0 ∨ w = 1 ∨ w = 2 ∨ w = 3 ∨ w = 4 ∨ w = 5 ∨ w = 6 then 0 else -1
theorem c_count0 {w : Int32} (hz : s.z ≤ 250) (hs : s.codeN = 0) (hf : s.freeN = nI s.z) (h1 : s.rS = 0) (h2 : s.rE = 0) (h3 : s.rC = 0) (h4 : s.rD = 0) (h5 : s.colls = 0) (h6 : s.taken = 0) (h7 : s.steps = 0)
    (hQ : ∀ s' : cS, Q (.inl (some (.int (cnt0 w))), (cW s' tl, b0, b1, op))) : mj_Mt gT cst gnw (m + 6) y_P_count [.ref 0, .int w] (cW s tl, b0, b1, op) Q := by
  intro J hJ
  refine hJ _ _ _ _ ?_
  have key : ∀ x : Int32, x = cnt0 w → Q (.inl (some (.int x)), (cW s tl, b0, b1, op)) := by
    rintro x rfl
    exact hQ s
  refine And.intro (fun g => ?_) (fun g0 => And.intro (fun g => ?_) (fun g1 => And.intro (fun g => ?_) (fun g2 => And.intro (fun g => ?_) (fun g3 => And.intro (fun g => ?_) (fun g4 => And.intro (fun g => ?_) (fun g5 => And.intro (fun g => ?_) (fun g6 => ?_)))))))
  · subst g
    exact c_used (key _ (by rw [hf, Int32.sub_self]; rfl))
  · subst g
    intro J1 hJ1
    refine hJ1 _ _ _ _ ?_
    exact c_mark0' h1 h2 h3 h4 hz hs (fun f => hQ _)
  · subst g
    exact c_colls (key _ (by rw [h5]; rfl))
  · subst g
    exact c_taken (key _ (by rw [h6]; rfl))
  · subst g
    exact c_steps (key _ (by rw [h7]; rfl))
  · subst g
    intro J1 hJ1
    refine hJ1 _ _ _ _ ?_
    exact c_length0' h1 (hQ _)
  · subst g
    intro J1 hJ1
    refine hJ1 _ _ _ _ ?_
    exact c_length0' h4 (hQ _)
  · refine key _ ?_
    unfold cnt0
    rw [if_neg]
    · rfl
    · rintro (g | g | g | g | g | g | g)
      · exact g0 g
      · exact g1 g
      · exact g2 g
      · exact g3 g
      · exact g4 g
      · exact g5 g
      · exact g6 g
end P1e
end
section
section P1f
variable {cst : Nat → Option (Nat × (Nat → Int32))} {m bc bs : Nat} {Q : mj_R → Prop}
set_option maxRecDepth 10000
def r0 (z : Nat) : rM := ((((((z, 0), 0), ((z0, 0), -1)), (((0, z0), z0), ((z0, z0), z0))), ((((z0, z0), z0), ((z0, z0), z0)), (((0, 0), z0), (z0, 0)))), (((((0, z0), z0), ((z0, z0), z0)), (((z0, z0), z0), (z0, 0))), ((((z0, upd (upd (upd (upd (upd z0 0 (-1)) 1 (-1)) 2 (-1)) 3 (-1)) 4 (-1)), 0), ((0, 0), 0)), (((0, 0), 0), (0, z0)))))
theorem e100 : (Int32.ofInt 100).toNatClampNeg = 100 := by decide
theorem e300 : (Int32.ofInt 300).toNatClampNeg = 300 := by decide
theorem e1200 : (Int32.ofInt 1200).toNatClampNeg = 1200 := by decide
theorem e250 : (Int32.ofInt 250).toNatClampNeg = 250 := by decide
theorem e260 : (Int32.ofInt 260).toNatClampNeg = 260 := by decide
theorem e5 : (Int32.ofInt 5).toNatClampNeg = 5 := by decide
set_option maxHeartbeats 2000000 in
theorem r_init {s : cS} {x : Int32} (hb : 12000 ≤ bs) (hQ : ∀ b, bs ≤ b + 12000 → Q (.inl none, (cW s (rW (r0 (clZ x)) []), bc, b, true))) :
    mj_Mt gT cst gnw (m + 1) y_R_init [.ref 27, .int x] (cW s [oF 10 fN10], bc + 26, bs, true) Q := by
  have hv := clZ_nI x
  revert hv hQ
  generalize clZ x = z
  intro hQ hv
  intro J hJ
  refine hJ _ _ _ _ ?_
  refine And.intro (Nat.le_of_ble_eq_true rfl) (And.intro (by decide) (And.intro (by rw [e96]; omega) (And.intro (by decide) ?_)))
  generalize hb0 : bs - (Int32.ofInt 96).toNatClampNeg = b0
  replace hb0 : bs ≤ b0 + 96 := by rw [← hb0, e96]; omega
  change mj_sg _ _ _ _ _ _ _ _ _ 5 [some (.ref 27), some (.int x)] [.ref 28, .ref 27] (cW s [oF 10 [.int 0, .int 0, .int 0, .null, .int 0, .int 0, .int 0, .null, .null, .null, .null, .null, .null, .null, .null, .null, .null, .null, .int 0, .int 0, .null, .null, .int 0, .int 0, .null, .null, .null, .null, .null, .null, .null, .null, .null, .int 0, .null, .null, .int 0, .int 0, .int 0, .int 0, .int 0, .int 0, .int 0, .int 0, .null], oC 96 z0], bc + 25, b0, true)
  refine And.intro (Nat.le_of_ble_eq_true rfl) (And.intro (by decide) (And.intro (by rw [e100]; omega) (And.intro (by decide) ?_)))
  generalize hb1 : b0 - (Int32.ofInt 100).toNatClampNeg = b1
  replace hb1 : b0 ≤ b1 + 100 := by rw [← hb1, e100]; omega
  change mj_sg _ _ _ _ _ _ _ _ _ 12 [some (.ref 27), some (.int x)] [.ref 29, .ref 27] (cW s [oF 10 [.int 0, .int 0, .int 0, .ref 28, .int 0, .int (-1), .int 0, .null, .null, .null, .null, .null, .null, .null, .null, .null, .null, .null, .int 0, .int 0, .null, .null, .int 0, .int 0, .null, .null, .null, .null, .null, .null, .null, .null, .null, .int 0, .null, .null, .int 0, .int 0, .int 0, .int 0, .int 0, .int 0, .int 0, .int 0, .null], oC 96 z0, oI 100 z0], bc + 24, b1, true)
  refine And.intro (Nat.le_of_ble_eq_true rfl) (And.intro (by decide) (And.intro (by rw [e100]; omega) (And.intro (by decide) ?_)))
  generalize hb2 : b1 - (Int32.ofInt 100).toNatClampNeg = b2
  replace hb2 : b1 ≤ b2 + 100 := by rw [← hb2, e100]; omega
  change mj_sg _ _ _ _ _ _ _ _ _ 16 [some (.ref 27), some (.int x)] [.ref 30, .ref 27] (cW s [oF 10 [.int 0, .int 0, .int 0, .ref 28, .int 0, .int (-1), .int 0, .ref 29, .null, .null, .null, .null, .null, .null, .null, .null, .null, .null, .int 0, .int 0, .null, .null, .int 0, .int 0, .null, .null, .null, .null, .null, .null, .null, .null, .null, .int 0, .null, .null, .int 0, .int 0, .int 0, .int 0, .int 0, .int 0, .int 0, .int 0, .null], oC 96 z0, oI 100 z0, oI 100 z0], bc + 23, b2, true)
  refine And.intro (Nat.le_of_ble_eq_true rfl) (And.intro (by decide) (And.intro (by rw [e100]; omega) (And.intro (by decide) ?_)))
  generalize hb3 : b2 - (Int32.ofInt 100).toNatClampNeg = b3
  replace hb3 : b2 ≤ b3 + 100 := by rw [← hb3, e100]; omega
  change mj_sg _ _ _ _ _ _ _ _ _ 20 [some (.ref 27), some (.int x)] [.ref 31, .ref 27] (cW s [oF 10 [.int 0, .int 0, .int 0, .ref 28, .int 0, .int (-1), .int 0, .ref 29, .ref 30, .null, .null, .null, .null, .null, .null, .null, .null, .null, .int 0, .int 0, .null, .null, .int 0, .int 0, .null, .null, .null, .null, .null, .null, .null, .null, .null, .int 0, .null, .null, .int 0, .int 0, .int 0, .int 0, .int 0, .int 0, .int 0, .int 0, .null], oC 96 z0, oI 100 z0, oI 100 z0, oI 100 z0], bc + 22, b3, true)
  refine And.intro (Nat.le_of_ble_eq_true rfl) (And.intro (by decide) (And.intro (by rw [e100]; omega) (And.intro (by decide) ?_)))
  generalize hb4 : b3 - (Int32.ofInt 100).toNatClampNeg = b4
  replace hb4 : b3 ≤ b4 + 100 := by rw [← hb4, e100]; omega
  change mj_sg _ _ _ _ _ _ _ _ _ 24 [some (.ref 27), some (.int x)] [.ref 32, .ref 27] (cW s [oF 10 [.int 0, .int 0, .int 0, .ref 28, .int 0, .int (-1), .int 0, .ref 29, .ref 30, .ref 31, .null, .null, .null, .null, .null, .null, .null, .null, .int 0, .int 0, .null, .null, .int 0, .int 0, .null, .null, .null, .null, .null, .null, .null, .null, .null, .int 0, .null, .null, .int 0, .int 0, .int 0, .int 0, .int 0, .int 0, .int 0, .int 0, .null], oC 96 z0, oI 100 z0, oI 100 z0, oI 100 z0, oI 100 z0], bc + 21, b4, true)
  refine And.intro (Nat.le_of_ble_eq_true rfl) (And.intro (by decide) (And.intro (by rw [e100]; omega) (And.intro (by decide) ?_)))
  generalize hb5 : b4 - (Int32.ofInt 100).toNatClampNeg = b5
  replace hb5 : b4 ≤ b5 + 100 := by rw [← hb5, e100]; omega
  change mj_sg _ _ _ _ _ _ _ _ _ 28 [some (.ref 27), some (.int x)] [.ref 33, .ref 27] (cW s [oF 10 [.int 0, .int 0, .int 0, .ref 28, .int 0, .int (-1), .int 0, .ref 29, .ref 30, .ref 31, .ref 32, .null, .null, .null, .null, .null, .null, .null, .int 0, .int 0, .null, .null, .int 0, .int 0, .null, .null, .null, .null, .null, .null, .null, .null, .null, .int 0, .null, .null, .int 0, .int 0, .int 0, .int 0, .int 0, .int 0, .int 0, .int 0, .null], oC 96 z0, oI 100 z0, oI 100 z0, oI 100 z0, oI 100 z0, oI 100 z0], bc + 20, b5, true)
  refine And.intro (Nat.le_of_ble_eq_true rfl) (And.intro (by decide) (And.intro (by rw [e100]; omega) (And.intro (by decide) ?_)))
  generalize hb6 : b5 - (Int32.ofInt 100).toNatClampNeg = b6
  replace hb6 : b5 ≤ b6 + 100 := by rw [← hb6, e100]; omega
  change mj_sg _ _ _ _ _ _ _ _ _ 32 [some (.ref 27), some (.int x)] [.ref 34, .ref 27] (cW s [oF 10 [.int 0, .int 0, .int 0, .ref 28, .int 0, .int (-1), .int 0, .ref 29, .ref 30, .ref 31, .ref 32, .ref 33, .null, .null, .null, .null, .null, .null, .int 0, .int 0, .null, .null, .int 0, .int 0, .null, .null, .null, .null, .null, .null, .null, .null, .null, .int 0, .null, .null, .int 0, .int 0, .int 0, .int 0, .int 0, .int 0, .int 0, .int 0, .null], oC 96 z0, oI 100 z0, oI 100 z0, oI 100 z0, oI 100 z0, oI 100 z0, oI 100 z0], bc + 19, b6, true)
  refine And.intro (Nat.le_of_ble_eq_true rfl) (And.intro (by decide) (And.intro (by rw [e100]; omega) (And.intro (by decide) ?_)))
  generalize hb7 : b6 - (Int32.ofInt 100).toNatClampNeg = b7
  replace hb7 : b6 ≤ b7 + 100 := by rw [← hb7, e100]; omega
  change mj_sg _ _ _ _ _ _ _ _ _ 36 [some (.ref 27), some (.int x)] [.ref 35, .ref 27] (cW s [oF 10 [.int 0, .int 0, .int 0, .ref 28, .int 0, .int (-1), .int 0, .ref 29, .ref 30, .ref 31, .ref 32, .ref 33, .ref 34, .null, .null, .null, .null, .null, .int 0, .int 0, .null, .null, .int 0, .int 0, .null, .null, .null, .null, .null, .null, .null, .null, .null, .int 0, .null, .null, .int 0, .int 0, .int 0, .int 0, .int 0, .int 0, .int 0, .int 0, .null], oC 96 z0, oI 100 z0, oI 100 z0, oI 100 z0, oI 100 z0, oI 100 z0, oI 100 z0, oI 100 z0], bc + 18, b7, true)
  refine And.intro (Nat.le_of_ble_eq_true rfl) (And.intro (by decide) (And.intro (by rw [e100]; omega) (And.intro (by decide) ?_)))
  generalize hb8 : b7 - (Int32.ofInt 100).toNatClampNeg = b8
  replace hb8 : b7 ≤ b8 + 100 := by rw [← hb8, e100]; omega
  change mj_sg _ _ _ _ _ _ _ _ _ 40 [some (.ref 27), some (.int x)] [.ref 36, .ref 27] (cW s [oF 10 [.int 0, .int 0, .int 0, .ref 28, .int 0, .int (-1), .int 0, .ref 29, .ref 30, .ref 31, .ref 32, .ref 33, .ref 34, .ref 35, .null, .null, .null, .null, .int 0, .int 0, .null, .null, .int 0, .int 0, .null, .null, .null, .null, .null, .null, .null, .null, .null, .int 0, .null, .null, .int 0, .int 0, .int 0, .int 0, .int 0, .int 0, .int 0, .int 0, .null], oC 96 z0, oI 100 z0, oI 100 z0, oI 100 z0, oI 100 z0, oI 100 z0, oI 100 z0, oI 100 z0, oI 100 z0], bc + 17, b8, true)
  refine And.intro (Nat.le_of_ble_eq_true rfl) (And.intro (by decide) (And.intro (by rw [e100]; omega) (And.intro (by decide) ?_)))
  generalize hb9 : b8 - (Int32.ofInt 100).toNatClampNeg = b9
  replace hb9 : b8 ≤ b9 + 100 := by rw [← hb9, e100]; omega
  change mj_sg _ _ _ _ _ _ _ _ _ 44 [some (.ref 27), some (.int x)] [.ref 37, .ref 27] (cW s [oF 10 [.int 0, .int 0, .int 0, .ref 28, .int 0, .int (-1), .int 0, .ref 29, .ref 30, .ref 31, .ref 32, .ref 33, .ref 34, .ref 35, .ref 36, .null, .null, .null, .int 0, .int 0, .null, .null, .int 0, .int 0, .null, .null, .null, .null, .null, .null, .null, .null, .null, .int 0, .null, .null, .int 0, .int 0, .int 0, .int 0, .int 0, .int 0, .int 0, .int 0, .null], oC 96 z0, oI 100 z0, oI 100 z0, oI 100 z0, oI 100 z0, oI 100 z0, oI 100 z0, oI 100 z0, oI 100 z0, oI 100 z0], bc + 16, b9, true)
  refine And.intro (Nat.le_of_ble_eq_true rfl) (And.intro (by decide) (And.intro (by rw [e300]; omega) (And.intro (by decide) ?_)))
  generalize hb10 : b9 - (Int32.ofInt 300).toNatClampNeg = b10
  replace hb10 : b9 ≤ b10 + 300 := by rw [← hb10, e300]; omega
  change mj_sg _ _ _ _ _ _ _ _ _ 48 [some (.ref 27), some (.int x)] [.ref 38, .ref 27] (cW s [oF 10 [.int 0, .int 0, .int 0, .ref 28, .int 0, .int (-1), .int 0, .ref 29, .ref 30, .ref 31, .ref 32, .ref 33, .ref 34, .ref 35, .ref 36, .ref 37, .null, .null, .int 0, .int 0, .null, .null, .int 0, .int 0, .null, .null, .null, .null, .null, .null, .null, .null, .null, .int 0, .null, .null, .int 0, .int 0, .int 0, .int 0, .int 0, .int 0, .int 0, .int 0, .null], oC 96 z0, oI 100 z0, oI 100 z0, oI 100 z0, oI 100 z0, oI 100 z0, oI 100 z0, oI 100 z0, oI 100 z0, oI 100 z0, oI 300 z0], bc + 15, b10, true)
  refine And.intro (Nat.le_of_ble_eq_true rfl) (And.intro (by decide) (And.intro (by rw [e100]; omega) (And.intro (by decide) ?_)))
  generalize hb11 : b10 - (Int32.ofInt 100).toNatClampNeg = b11
  replace hb11 : b10 ≤ b11 + 100 := by rw [← hb11, e100]; omega
  change mj_sg _ _ _ _ _ _ _ _ _ 52 [some (.ref 27), some (.int x)] [.ref 39, .ref 27] (cW s [oF 10 [.int 0, .int 0, .int 0, .ref 28, .int 0, .int (-1), .int 0, .ref 29, .ref 30, .ref 31, .ref 32, .ref 33, .ref 34, .ref 35, .ref 36, .ref 37, .ref 38, .null, .int 0, .int 0, .null, .null, .int 0, .int 0, .null, .null, .null, .null, .null, .null, .null, .null, .null, .int 0, .null, .null, .int 0, .int 0, .int 0, .int 0, .int 0, .int 0, .int 0, .int 0, .null], oC 96 z0, oI 100 z0, oI 100 z0, oI 100 z0, oI 100 z0, oI 100 z0, oI 100 z0, oI 100 z0, oI 100 z0, oI 100 z0, oI 300 z0, oI 100 z0], bc + 14, b11, true)
  refine And.intro (Nat.le_of_ble_eq_true rfl) (And.intro (by decide) (And.intro (by rw [e1200]; omega) (And.intro (by decide) ?_)))
  generalize hb12 : b11 - (Int32.ofInt 1200).toNatClampNeg = b12
  replace hb12 : b11 ≤ b12 + 1200 := by rw [← hb12, e1200]; omega
  change mj_sg _ _ _ _ _ _ _ _ _ 56 [some (.ref 27), some (.int x)] [.ref 40, .ref 27] (cW s [oF 10 [.int 0, .int 0, .int 0, .ref 28, .int 0, .int (-1), .int 0, .ref 29, .ref 30, .ref 31, .ref 32, .ref 33, .ref 34, .ref 35, .ref 36, .ref 37, .ref 38, .ref 39, .int 0, .int 0, .null, .null, .int 0, .int 0, .null, .null, .null, .null, .null, .null, .null, .null, .null, .int 0, .null, .null, .int 0, .int 0, .int 0, .int 0, .int 0, .int 0, .int 0, .int 0, .null], oC 96 z0, oI 100 z0, oI 100 z0, oI 100 z0, oI 100 z0, oI 100 z0, oI 100 z0, oI 100 z0, oI 100 z0, oI 100 z0, oI 300 z0, oI 100 z0, oI 1200 z0], bc + 13, b12, true)
  refine And.intro (Nat.le_of_ble_eq_true rfl) (And.intro (by decide) (And.intro (by rw [e1200]; omega) (And.intro (by decide) ?_)))
  generalize hb13 : b12 - (Int32.ofInt 1200).toNatClampNeg = b13
  replace hb13 : b12 ≤ b13 + 1200 := by rw [← hb13, e1200]; omega
  change mj_sg _ _ _ _ _ _ _ _ _ 60 [some (.ref 27), some (.int x)] [.ref 41, .ref 27] (cW s [oF 10 [.int 0, .int 0, .int 0, .ref 28, .int 0, .int (-1), .int 0, .ref 29, .ref 30, .ref 31, .ref 32, .ref 33, .ref 34, .ref 35, .ref 36, .ref 37, .ref 38, .ref 39, .int 0, .int 0, .ref 40, .null, .int 0, .int 0, .null, .null, .null, .null, .null, .null, .null, .null, .null, .int 0, .null, .null, .int 0, .int 0, .int 0, .int 0, .int 0, .int 0, .int 0, .int 0, .null], oC 96 z0, oI 100 z0, oI 100 z0, oI 100 z0, oI 100 z0, oI 100 z0, oI 100 z0, oI 100 z0, oI 100 z0, oI 100 z0, oI 300 z0, oI 100 z0, oI 1200 z0, oI 1200 z0], bc + 12, b13, true)
  refine And.intro (Nat.le_of_ble_eq_true rfl) (And.intro (by decide) (And.intro (by rw [e1200]; omega) (And.intro (by decide) ?_)))
  generalize hb14 : b13 - (Int32.ofInt 1200).toNatClampNeg = b14
  replace hb14 : b13 ≤ b14 + 1200 := by rw [← hb14, e1200]; omega
  change mj_sg _ _ _ _ _ _ _ _ _ 64 [some (.ref 27), some (.int x)] [.ref 42, .ref 27] (cW s [oF 10 [.int 0, .int 0, .int 0, .ref 28, .int 0, .int (-1), .int 0, .ref 29, .ref 30, .ref 31, .ref 32, .ref 33, .ref 34, .ref 35, .ref 36, .ref 37, .ref 38, .ref 39, .int 0, .int 0, .ref 40, .ref 41, .int 0, .int 0, .null, .null, .null, .null, .null, .null, .null, .null, .null, .int 0, .null, .null, .int 0, .int 0, .int 0, .int 0, .int 0, .int 0, .int 0, .int 0, .null], oC 96 z0, oI 100 z0, oI 100 z0, oI 100 z0, oI 100 z0, oI 100 z0, oI 100 z0, oI 100 z0, oI 100 z0, oI 100 z0, oI 300 z0, oI 100 z0, oI 1200 z0, oI 1200 z0, oI 1200 z0], bc + 11, b14, true)
  refine And.intro (Nat.le_of_ble_eq_true rfl) (And.intro (by decide) (And.intro (by rw [e1200]; omega) (And.intro (by decide) ?_)))
  generalize hb15 : b14 - (Int32.ofInt 1200).toNatClampNeg = b15
  replace hb15 : b14 ≤ b15 + 1200 := by rw [← hb15, e1200]; omega
  change mj_sg _ _ _ _ _ _ _ _ _ 68 [some (.ref 27), some (.int x)] [.ref 43, .ref 27] (cW s [oF 10 [.int 0, .int 0, .int 0, .ref 28, .int 0, .int (-1), .int 0, .ref 29, .ref 30, .ref 31, .ref 32, .ref 33, .ref 34, .ref 35, .ref 36, .ref 37, .ref 38, .ref 39, .int 0, .int 0, .ref 40, .ref 41, .int 0, .int 0, .ref 42, .null, .null, .null, .null, .null, .null, .null, .null, .int 0, .null, .null, .int 0, .int 0, .int 0, .int 0, .int 0, .int 0, .int 0, .int 0, .null], oC 96 z0, oI 100 z0, oI 100 z0, oI 100 z0, oI 100 z0, oI 100 z0, oI 100 z0, oI 100 z0, oI 100 z0, oI 100 z0, oI 300 z0, oI 100 z0, oI 1200 z0, oI 1200 z0, oI 1200 z0, oI 1200 z0], bc + 10, b15, true)
  refine And.intro (Nat.le_of_ble_eq_true rfl) (And.intro (by decide) (And.intro (by rw [e250]; omega) (And.intro (by decide) ?_)))
  generalize hb16 : b15 - (Int32.ofInt 250).toNatClampNeg = b16
  replace hb16 : b15 ≤ b16 + 250 := by rw [← hb16, e250]; omega
  change mj_sg _ _ _ _ _ _ _ _ _ 72 [some (.ref 27), some (.int x)] [.ref 44, .ref 27] (cW s [oF 10 [.int 0, .int 0, .int 0, .ref 28, .int 0, .int (-1), .int 0, .ref 29, .ref 30, .ref 31, .ref 32, .ref 33, .ref 34, .ref 35, .ref 36, .ref 37, .ref 38, .ref 39, .int 0, .int 0, .ref 40, .ref 41, .int 0, .int 0, .ref 42, .ref 43, .null, .null, .null, .null, .null, .null, .null, .int 0, .null, .null, .int 0, .int 0, .int 0, .int 0, .int 0, .int 0, .int 0, .int 0, .null], oC 96 z0, oI 100 z0, oI 100 z0, oI 100 z0, oI 100 z0, oI 100 z0, oI 100 z0, oI 100 z0, oI 100 z0, oI 100 z0, oI 300 z0, oI 100 z0, oI 1200 z0, oI 1200 z0, oI 1200 z0, oI 1200 z0, oZ 250 z0], bc + 9, b16, true)
  refine And.intro (Nat.le_of_ble_eq_true rfl) (And.intro (by decide) (And.intro (by rw [e250]; omega) (And.intro (by decide) ?_)))
  generalize hb17 : b16 - (Int32.ofInt 250).toNatClampNeg = b17
  replace hb17 : b16 ≤ b17 + 250 := by rw [← hb17, e250]; omega
  change mj_sg _ _ _ _ _ _ _ _ _ 76 [some (.ref 27), some (.int x)] [.ref 45, .ref 27] (cW s [oF 10 [.int 0, .int 0, .int 0, .ref 28, .int 0, .int (-1), .int 0, .ref 29, .ref 30, .ref 31, .ref 32, .ref 33, .ref 34, .ref 35, .ref 36, .ref 37, .ref 38, .ref 39, .int 0, .int 0, .ref 40, .ref 41, .int 0, .int 0, .ref 42, .ref 43, .ref 44, .null, .null, .null, .null, .null, .null, .int 0, .null, .null, .int 0, .int 0, .int 0, .int 0, .int 0, .int 0, .int 0, .int 0, .null], oC 96 z0, oI 100 z0, oI 100 z0, oI 100 z0, oI 100 z0, oI 100 z0, oI 100 z0, oI 100 z0, oI 100 z0, oI 100 z0, oI 300 z0, oI 100 z0, oI 1200 z0, oI 1200 z0, oI 1200 z0, oI 1200 z0, oZ 250 z0, oZ 250 z0], bc + 8, b17, true)
  refine And.intro (Nat.le_of_ble_eq_true rfl) (And.intro (by decide) (And.intro (by rw [e250]; omega) (And.intro (by decide) ?_)))
  generalize hb18 : b17 - (Int32.ofInt 250).toNatClampNeg = b18
  replace hb18 : b17 ≤ b18 + 250 := by rw [← hb18, e250]; omega
  change mj_sg _ _ _ _ _ _ _ _ _ 80 [some (.ref 27), some (.int x)] [.ref 46, .ref 27] (cW s [oF 10 [.int 0, .int 0, .int 0, .ref 28, .int 0, .int (-1), .int 0, .ref 29, .ref 30, .ref 31, .ref 32, .ref 33, .ref 34, .ref 35, .ref 36, .ref 37, .ref 38, .ref 39, .int 0, .int 0, .ref 40, .ref 41, .int 0, .int 0, .ref 42, .ref 43, .ref 44, .ref 45, .null, .null, .null, .null, .null, .int 0, .null, .null, .int 0, .int 0, .int 0, .int 0, .int 0, .int 0, .int 0, .int 0, .null], oC 96 z0, oI 100 z0, oI 100 z0, oI 100 z0, oI 100 z0, oI 100 z0, oI 100 z0, oI 100 z0, oI 100 z0, oI 100 z0, oI 300 z0, oI 100 z0, oI 1200 z0, oI 1200 z0, oI 1200 z0, oI 1200 z0, oZ 250 z0, oZ 250 z0, oI 250 z0], bc + 7, b18, true)
  refine And.intro (Nat.le_of_ble_eq_true rfl) (And.intro (by decide) (And.intro (by rw [e250]; omega) (And.intro (by decide) ?_)))
  generalize hb19 : b18 - (Int32.ofInt 250).toNatClampNeg = b19
  replace hb19 : b18 ≤ b19 + 250 := by rw [← hb19, e250]; omega
  change mj_sg _ _ _ _ _ _ _ _ _ 84 [some (.ref 27), some (.int x)] [.ref 47, .ref 27] (cW s [oF 10 [.int 0, .int 0, .int 0, .ref 28, .int 0, .int (-1), .int 0, .ref 29, .ref 30, .ref 31, .ref 32, .ref 33, .ref 34, .ref 35, .ref 36, .ref 37, .ref 38, .ref 39, .int 0, .int 0, .ref 40, .ref 41, .int 0, .int 0, .ref 42, .ref 43, .ref 44, .ref 45, .ref 46, .null, .null, .null, .null, .int 0, .null, .null, .int 0, .int 0, .int 0, .int 0, .int 0, .int 0, .int 0, .int 0, .null], oC 96 z0, oI 100 z0, oI 100 z0, oI 100 z0, oI 100 z0, oI 100 z0, oI 100 z0, oI 100 z0, oI 100 z0, oI 100 z0, oI 300 z0, oI 100 z0, oI 1200 z0, oI 1200 z0, oI 1200 z0, oI 1200 z0, oZ 250 z0, oZ 250 z0, oI 250 z0, oI 250 z0], bc + 6, b19, true)
  refine And.intro (Nat.le_of_ble_eq_true rfl) (And.intro (by decide) (And.intro (by rw [e250]; omega) (And.intro (by decide) ?_)))
  generalize hb20 : b19 - (Int32.ofInt 250).toNatClampNeg = b20
  replace hb20 : b19 ≤ b20 + 250 := by rw [← hb20, e250]; omega
  change mj_sg _ _ _ _ _ _ _ _ _ 88 [some (.ref 27), some (.int x)] [.ref 48, .ref 27] (cW s [oF 10 [.int 0, .int 0, .int 0, .ref 28, .int 0, .int (-1), .int 0, .ref 29, .ref 30, .ref 31, .ref 32, .ref 33, .ref 34, .ref 35, .ref 36, .ref 37, .ref 38, .ref 39, .int 0, .int 0, .ref 40, .ref 41, .int 0, .int 0, .ref 42, .ref 43, .ref 44, .ref 45, .ref 46, .ref 47, .null, .null, .null, .int 0, .null, .null, .int 0, .int 0, .int 0, .int 0, .int 0, .int 0, .int 0, .int 0, .null], oC 96 z0, oI 100 z0, oI 100 z0, oI 100 z0, oI 100 z0, oI 100 z0, oI 100 z0, oI 100 z0, oI 100 z0, oI 100 z0, oI 300 z0, oI 100 z0, oI 1200 z0, oI 1200 z0, oI 1200 z0, oI 1200 z0, oZ 250 z0, oZ 250 z0, oI 250 z0, oI 250 z0, oI 250 z0], bc + 5, b20, true)
  refine And.intro (Nat.le_of_ble_eq_true rfl) (And.intro (by decide) (And.intro (by rw [e250]; omega) (And.intro (by decide) ?_)))
  generalize hb21 : b20 - (Int32.ofInt 250).toNatClampNeg = b21
  replace hb21 : b20 ≤ b21 + 250 := by rw [← hb21, e250]; omega
  change mj_sg _ _ _ _ _ _ _ _ _ 92 [some (.ref 27), some (.int x)] [.ref 49, .ref 27] (cW s [oF 10 [.int 0, .int 0, .int 0, .ref 28, .int 0, .int (-1), .int 0, .ref 29, .ref 30, .ref 31, .ref 32, .ref 33, .ref 34, .ref 35, .ref 36, .ref 37, .ref 38, .ref 39, .int 0, .int 0, .ref 40, .ref 41, .int 0, .int 0, .ref 42, .ref 43, .ref 44, .ref 45, .ref 46, .ref 47, .ref 48, .null, .null, .int 0, .null, .null, .int 0, .int 0, .int 0, .int 0, .int 0, .int 0, .int 0, .int 0, .null], oC 96 z0, oI 100 z0, oI 100 z0, oI 100 z0, oI 100 z0, oI 100 z0, oI 100 z0, oI 100 z0, oI 100 z0, oI 100 z0, oI 300 z0, oI 100 z0, oI 1200 z0, oI 1200 z0, oI 1200 z0, oI 1200 z0, oZ 250 z0, oZ 250 z0, oI 250 z0, oI 250 z0, oI 250 z0, oI 250 z0], bc + 4, b21, true)
  refine And.intro (Nat.le_of_ble_eq_true rfl) (And.intro (by decide) (And.intro (by rw [e250]; omega) (And.intro (by decide) ?_)))
  generalize hb22 : b21 - (Int32.ofInt 250).toNatClampNeg = b22
  replace hb22 : b21 ≤ b22 + 250 := by rw [← hb22, e250]; omega
  change mj_sg _ _ _ _ _ _ _ _ _ 96 [some (.ref 27), some (.int x)] [.ref 50, .ref 27] (cW s [oF 10 [.int 0, .int 0, .int 0, .ref 28, .int 0, .int (-1), .int 0, .ref 29, .ref 30, .ref 31, .ref 32, .ref 33, .ref 34, .ref 35, .ref 36, .ref 37, .ref 38, .ref 39, .int 0, .int 0, .ref 40, .ref 41, .int 0, .int 0, .ref 42, .ref 43, .ref 44, .ref 45, .ref 46, .ref 47, .ref 48, .ref 49, .null, .int 0, .null, .null, .int 0, .int 0, .int 0, .int 0, .int 0, .int 0, .int 0, .int 0, .null], oC 96 z0, oI 100 z0, oI 100 z0, oI 100 z0, oI 100 z0, oI 100 z0, oI 100 z0, oI 100 z0, oI 100 z0, oI 100 z0, oI 300 z0, oI 100 z0, oI 1200 z0, oI 1200 z0, oI 1200 z0, oI 1200 z0, oZ 250 z0, oZ 250 z0, oI 250 z0, oI 250 z0, oI 250 z0, oI 250 z0, oZ 250 z0], bc + 3, b22, true)
  refine And.intro (Nat.le_of_ble_eq_true rfl) (And.intro (by decide) (And.intro (by rw [e260]; omega) (And.intro (by decide) ?_)))
  generalize hb23 : b22 - (Int32.ofInt 260).toNatClampNeg = b23
  replace hb23 : b22 ≤ b23 + 260 := by rw [← hb23, e260]; omega
  change mj_sg _ _ _ _ _ _ _ _ _ 100 [some (.ref 27), some (.int x)] [.ref 51, .ref 27] (cW s [oF 10 [.int 0, .int 0, .int 0, .ref 28, .int 0, .int (-1), .int 0, .ref 29, .ref 30, .ref 31, .ref 32, .ref 33, .ref 34, .ref 35, .ref 36, .ref 37, .ref 38, .ref 39, .int 0, .int 0, .ref 40, .ref 41, .int 0, .int 0, .ref 42, .ref 43, .ref 44, .ref 45, .ref 46, .ref 47, .ref 48, .ref 49, .ref 50, .int 0, .null, .null, .int 0, .int 0, .int 0, .int 0, .int 0, .int 0, .int 0, .int 0, .null], oC 96 z0, oI 100 z0, oI 100 z0, oI 100 z0, oI 100 z0, oI 100 z0, oI 100 z0, oI 100 z0, oI 100 z0, oI 100 z0, oI 300 z0, oI 100 z0, oI 1200 z0, oI 1200 z0, oI 1200 z0, oI 1200 z0, oZ 250 z0, oZ 250 z0, oI 250 z0, oI 250 z0, oI 250 z0, oI 250 z0, oZ 250 z0, oI 260 z0], bc + 2, b23, true)
  refine And.intro (Nat.le_of_ble_eq_true rfl) (And.intro (by decide) (And.intro (by rw [e5]; omega) (And.intro (by decide) ?_)))
  generalize hb24 : b23 - (Int32.ofInt 5).toNatClampNeg = b24
  replace hb24 : b23 ≤ b24 + 5 := by rw [← hb24, e5]; omega
  change mj_sg _ _ _ _ _ _ _ _ _ 104 [some (.ref 27), some (.int x)] [.ref 52, .ref 27] (cW s [oF 10 [.int 0, .int 0, .int 0, .ref 28, .int 0, .int (-1), .int 0, .ref 29, .ref 30, .ref 31, .ref 32, .ref 33, .ref 34, .ref 35, .ref 36, .ref 37, .ref 38, .ref 39, .int 0, .int 0, .ref 40, .ref 41, .int 0, .int 0, .ref 42, .ref 43, .ref 44, .ref 45, .ref 46, .ref 47, .ref 48, .ref 49, .ref 50, .int 0, .ref 51, .null, .int 0, .int 0, .int 0, .int 0, .int 0, .int 0, .int 0, .int 0, .null], oC 96 z0, oI 100 z0, oI 100 z0, oI 100 z0, oI 100 z0, oI 100 z0, oI 100 z0, oI 100 z0, oI 100 z0, oI 100 z0, oI 300 z0, oI 100 z0, oI 1200 z0, oI 1200 z0, oI 1200 z0, oI 1200 z0, oZ 250 z0, oZ 250 z0, oI 250 z0, oI 250 z0, oI 250 z0, oI 250 z0, oZ 250 z0, oI 260 z0, oI 5 z0], bc + 1, b24, true)
  refine And.intro (by unfold vp_in; decide) ?_
  refine And.intro (by unfold vp_in; decide) ?_
  refine And.intro (by unfold vp_in; decide) ?_
  refine And.intro (by unfold vp_in; decide) ?_
  refine And.intro (by unfold vp_in; decide) ?_
  refine And.intro (Nat.le_of_ble_eq_true rfl) (And.intro (by decide) (And.intro (by rw [e120]; omega) (And.intro (by decide) ?_)))
  generalize hb25 : b24 - (Int32.ofInt 120).toNatClampNeg = b25
  replace hb25 : b24 ≤ b25 + 120 := by rw [← hb25, e120]; omega
  change mj_sg _ _ _ _ _ _ _ _ _ 128 [some (.ref 27), some (.int x)] [.ref 53, .ref 27] (cW s [oF 10 [.int 0, .int 0, .int 0, .ref 28, .int 0, .int (-1), .int 0, .ref 29, .ref 30, .ref 31, .ref 32, .ref 33, .ref 34, .ref 35, .ref 36, .ref 37, .ref 38, .ref 39, .int 0, .int 0, .ref 40, .ref 41, .int 0, .int 0, .ref 42, .ref 43, .ref 44, .ref 45, .ref 46, .ref 47, .ref 48, .ref 49, .ref 50, .int 0, .ref 51, .ref 52, .int 0, .int 0, .int 0, .int 0, .int 0, .int 0, .int 0, .int 0, .null], oC 96 z0, oI 100 z0, oI 100 z0, oI 100 z0, oI 100 z0, oI 100 z0, oI 100 z0, oI 100 z0, oI 100 z0, oI 100 z0, oI 300 z0, oI 100 z0, oI 1200 z0, oI 1200 z0, oI 1200 z0, oI 1200 z0, oZ 250 z0, oZ 250 z0, oI 250 z0, oI 250 z0, oI 250 z0, oI 250 z0, oZ 250 z0, oI 260 z0, oI 5 (upd (upd (upd (upd (upd z0 0 (-1)) 1 (-1)) 2 (-1)) 3 (-1)) 4 (-1)), oC 120 z0], bc + 0, b25, true)
  have key : ∀ v : Int32, v = nI z → Q (.inl none, (cW s [oF 10 [.int v, .int 0, .int 0, .ref 28, .int 0, .int (-1), .int 0, .ref 29, .ref 30, .ref 31, .ref 32, .ref 33, .ref 34, .ref 35, .ref 36, .ref 37, .ref 38, .ref 39, .int 0, .int 0, .ref 40, .ref 41, .int 0, .int 0, .ref 42, .ref 43, .ref 44, .ref 45, .ref 46, .ref 47, .ref 48, .ref 49, .ref 50, .int 0, .ref 51, .ref 52, .int 0, .int 0, .int 0, .int 0, .int 0, .int 0, .int 0, .int 0, .ref 53], oC 96 z0, oI 100 z0, oI 100 z0, oI 100 z0, oI 100 z0, oI 100 z0, oI 100 z0, oI 100 z0, oI 100 z0, oI 100 z0, oI 300 z0, oI 100 z0, oI 1200 z0, oI 1200 z0, oI 1200 z0, oI 1200 z0, oZ 250 z0, oZ 250 z0, oI 250 z0, oI 250 z0, oI 250 z0, oI 250 z0, oZ 250 z0, oI 260 z0, oI 5 (upd (upd (upd (upd (upd z0 0 (-1)) 1 (-1)) 2 (-1)) 3 (-1)) 4 (-1)), oC 120 z0], bc, b25, true)) := by
    rintro v rfl
    exact hQ _ (by omega)
  refine And.intro (fun (g : 20 ≤ x) => ?_) (fun (g : ¬ 20 ≤ x) => ?_)
  · rw [if_neg (Int32.not_lt.mpr g)] at hv
    refine And.intro (fun (g2 : x ≤ 250) => ?_) (fun (g2 : ¬ x ≤ 250) => ?_)
    · rw [if_neg (Int32.not_lt.mpr g2)] at hv
      exact key _ hv.symm
    · rw [if_pos (Int32.not_le.mp g2)] at hv
      exact key _ hv.symm
  · rw [if_pos (Int32.not_le.mp g)] at hv
    exact key _ hv.symm
end P1f
end
section
section P1g
variable {cst : Nat → Option (Nat × (Nat → Int32))} {m b0 b1 : Nat} {op : Bool} {tl : List mj_O} {Q : mj_R → Prop} {s : cS} {r : rM}
set_option maxRecDepth 10000
theorem r_here0 (hp : r.p = 0) (ht : r.typed = 0) (hQ : Q (.inl (some (.int 0)), (cW s (rW r tl), b0, b1, op))) : mj_Mt gT cst gnw (m + 1) y_R_here [.ref 27, .int 0] (cW s (rW r tl), b0, b1, op) Q := by
  intro J hJ
  refine hJ _ _ _ _ ?_
  refine And.intro (fun _ => ?_) (fun (g : ¬ r.typed ≤ r.p + 0) => absurd (by rw [hp, ht]; decide) g)
  exact And.intro rfl hQ
theorem r_takes0 {c : Int32} (hp : r.p = 0) (ht : r.typed = 0) (hc : ¬ 0 = c) (hQ : Q (.inl (some (.int 0)), (cW s (rW r tl), b0, b1, op))) : mj_Mt gT cst gnw (m + 2) y_R_takes [.ref 27, .int c] (cW s (rW r tl), b0, b1, op) Q := by
  intro J hJ
  refine hJ _ _ _ _ ?_
  refine r_here0 hp ht ?_
  refine And.intro (fun _ => ?_) (fun (g : 0 = c) => absurd g hc)
  refine And.intro (fun _ => ?_) (fun g => absurd rfl g)
  exact And.intro (Or.inl rfl) hQ
theorem r_isDigit {h : mj_H} {c : Int32} (hQ : Q (.inl (some (.int (bI (isD c)))), h)) : mj_Mt gT cst gnw (m + 1) y_R_isDigit [.int c] h Q := by
  intro J hJ
  refine hJ _ _ _ _ ?_
  refine And.intro (fun (g : c < 48) => ?_) (fun (g : ¬ c < 48) => ?_)
  · have e : isD c = false := by simp [isD, Int32.not_le.mpr g]
    rw [e] at hQ
    exact And.intro (Or.inl rfl) hQ
  · refine And.intro (fun (g2 : 57 < c) => ?_) (fun (g2 : ¬ 57 < c) => ?_)
    · have e : isD c = false := by simp [isD, Int32.not_le.mpr g2]
      rw [e] at hQ
      exact And.intro (Or.inl rfl) hQ
    · have e : isD c = true := by simp [isD, Int32.not_lt.mp g, Int32.not_lt.mp g2]
      rw [e] at hQ
      exact And.intro (Or.inr rfl) hQ
theorem r_isLetter {h : mj_H} {c : Int32} (hQ : Q (.inl (some (.int (bI (isL c)))), h)) : mj_Mt gT cst gnw (m + 1) y_R_isLetter [.int c] h Q := by
  intro J hJ
  refine hJ _ _ _ _ ?_
  refine And.intro (fun (g : c < 97) => ?_) (fun (g : ¬ c < 97) => ?_)
  · have e : isL c = false := by simp [isL, Int32.not_le.mpr g]
    rw [e] at hQ
    exact And.intro (Or.inl rfl) hQ
  · refine And.intro (fun (g2 : 122 < c) => ?_) (fun (g2 : ¬ 122 < c) => ?_)
    · have e : isL c = false := by simp [isL, Int32.not_le.mpr g2]
      rw [e] at hQ
      exact And.intro (Or.inl rfl) hQ
    · have e : isL c = true := by simp [isL, Int32.not_lt.mp g, Int32.not_lt.mp g2]
      rw [e] at hQ
      exact And.intro (Or.inr rfl) hQ
theorem r_number0 (hp : r.p = 0) (ht : r.typed = 0) (hQ : Q (.inl (some (.int 0)), (cW s (rW r tl), b0, b1, op))) : mj_Mt gT cst gnw (m + 3) y_R_number [.ref 27] (cW s (rW r tl), b0, b1, op) Q := by
  intro J hJ
  refine hJ _ _ _ _ ?_
  refine r_takes0 hp ht (by decide) ?_
  refine hJ _ _ _ _ ?_
  refine And.intro (fun g => absurd g (by decide)) (fun _ => ?_)
  refine r_here0 hp ht ?_
  refine r_isDigit ?_
  refine And.intro (fun _ => ?_) (fun g => absurd rfl g)
  refine And.intro (fun _ => ?_) (fun g => absurd (by decide) g)
  exact And.intro (Or.inl rfl) hQ
theorem in0 {n : Nat} (h : 0 < n) : vp_in 0 n := by
  rintro (g | g)
  · exact absurd g (by decide)
  · exact absurd g (by rw [show (0 : Int32).toNatClampNeg = 0 by decide]; omega)
theorem r_part0 {a : Int32} (hp : r.parts = 0) (hQ : Q (.inl (some (.int 0)), (cW s (rW (((((((((((r.s_parts 1).s_kind (upd r.kind 0 a)).s_at_ (upd r.at_ 0 r.p)).s_until_ (upd r.until_ 0 r.p)).s_value (upd r.value 0 0)).s_parent (upd r.parent 0 (-1))).s_first (upd r.first 0 (-1))).s_last (upd r.last 0 (-1))).s_next (upd r.next 0 (-1))).s_many (upd r.many 0 0)).s_bound (upd r.bound 0 0)) tl), b0, b1, op))) : mj_Mt gT cst gnw (m + 1) y_R_part [.ref 27, .int a, .int (-1)] (cW s (rW r tl), b0, b1, op) Q := by
  have e : r = (r.s_parts r.parts) := rfl
  rw [hp] at e
  rw [e]
  intro J hJ
  refine hJ _ _ _ _ ?_
  refine And.intro (in0 (by decide)) ?_
  change mj_sg _ _ _ _ _ _ _ _ _ 14 [some (.ref 27), some (.int a), some (.int (-1)), some (.int 0)] [] (cW s (rW ((r.s_parts 1).s_kind (upd r.kind 0 a)) tl), b0, b1, op)
  refine And.intro (in0 (by decide)) ?_
  change mj_sg _ _ _ _ _ _ _ _ _ 20 [some (.ref 27), some (.int a), some (.int (-1)), some (.int 0)] [] (cW s (rW (((r.s_parts 1).s_kind (upd r.kind 0 a)).s_at_ (upd r.at_ 0 r.p)) tl), b0, b1, op)
  refine And.intro (in0 (by decide)) ?_
  change mj_sg _ _ _ _ _ _ _ _ _ 26 [some (.ref 27), some (.int a), some (.int (-1)), some (.int 0)] [] (cW s (rW ((((r.s_parts 1).s_kind (upd r.kind 0 a)).s_at_ (upd r.at_ 0 r.p)).s_until_ (upd r.until_ 0 r.p)) tl), b0, b1, op)
  refine And.intro (in0 (by decide)) ?_
  change mj_sg _ _ _ _ _ _ _ _ _ 31 [some (.ref 27), some (.int a), some (.int (-1)), some (.int 0)] [] (cW s (rW (((((r.s_parts 1).s_kind (upd r.kind 0 a)).s_at_ (upd r.at_ 0 r.p)).s_until_ (upd r.until_ 0 r.p)).s_value (upd r.value 0 0)) tl), b0, b1, op)
  refine And.intro (in0 (by decide)) ?_
  change mj_sg _ _ _ _ _ _ _ _ _ 36 [some (.ref 27), some (.int a), some (.int (-1)), some (.int 0)] [] (cW s (rW ((((((r.s_parts 1).s_kind (upd r.kind 0 a)).s_at_ (upd r.at_ 0 r.p)).s_until_ (upd r.until_ 0 r.p)).s_value (upd r.value 0 0)).s_parent (upd r.parent 0 (-1))) tl), b0, b1, op)
  refine And.intro (in0 (by decide)) ?_
  change mj_sg _ _ _ _ _ _ _ _ _ 41 [some (.ref 27), some (.int a), some (.int (-1)), some (.int 0)] [] (cW s (rW (((((((r.s_parts 1).s_kind (upd r.kind 0 a)).s_at_ (upd r.at_ 0 r.p)).s_until_ (upd r.until_ 0 r.p)).s_value (upd r.value 0 0)).s_parent (upd r.parent 0 (-1))).s_first (upd r.first 0 (-1))) tl), b0, b1, op)
  refine And.intro (in0 (by decide)) ?_
  change mj_sg _ _ _ _ _ _ _ _ _ 46 [some (.ref 27), some (.int a), some (.int (-1)), some (.int 0)] [] (cW s (rW ((((((((r.s_parts 1).s_kind (upd r.kind 0 a)).s_at_ (upd r.at_ 0 r.p)).s_until_ (upd r.until_ 0 r.p)).s_value (upd r.value 0 0)).s_parent (upd r.parent 0 (-1))).s_first (upd r.first 0 (-1))).s_last (upd r.last 0 (-1))) tl), b0, b1, op)
  refine And.intro (in0 (by decide)) ?_
  change mj_sg _ _ _ _ _ _ _ _ _ 51 [some (.ref 27), some (.int a), some (.int (-1)), some (.int 0)] [] (cW s (rW (((((((((r.s_parts 1).s_kind (upd r.kind 0 a)).s_at_ (upd r.at_ 0 r.p)).s_until_ (upd r.until_ 0 r.p)).s_value (upd r.value 0 0)).s_parent (upd r.parent 0 (-1))).s_first (upd r.first 0 (-1))).s_last (upd r.last 0 (-1))).s_next (upd r.next 0 (-1))) tl), b0, b1, op)
  refine And.intro (in0 (by decide)) ?_
  change mj_sg _ _ _ _ _ _ _ _ _ 56 [some (.ref 27), some (.int a), some (.int (-1)), some (.int 0)] [] (cW s (rW ((((((((((r.s_parts 1).s_kind (upd r.kind 0 a)).s_at_ (upd r.at_ 0 r.p)).s_until_ (upd r.until_ 0 r.p)).s_value (upd r.value 0 0)).s_parent (upd r.parent 0 (-1))).s_first (upd r.first 0 (-1))).s_last (upd r.last 0 (-1))).s_next (upd r.next 0 (-1))).s_many (upd r.many 0 0)) tl), b0, b1, op)
  refine And.intro (in0 (by decide)) ?_
  change mj_sg _ _ _ _ _ _ _ _ _ 61 [some (.ref 27), some (.int a), some (.int (-1)), some (.int 0)] [] (cW s (rW (((((((((((r.s_parts 1).s_kind (upd r.kind 0 a)).s_at_ (upd r.at_ 0 r.p)).s_until_ (upd r.until_ 0 r.p)).s_value (upd r.value 0 0)).s_parent (upd r.parent 0 (-1))).s_first (upd r.first 0 (-1))).s_last (upd r.last 0 (-1))).s_next (upd r.next 0 (-1))).s_many (upd r.many 0 0)).s_bound (upd r.bound 0 0)) tl), b0, b1, op)
  refine And.intro (fun _ => ?_) (fun g => absurd (by decide) g)
  exact hQ
theorem r_begin0 (hp : r.p = 0) (ht : r.typed = 0) (hn : r.parts = 0) (hQ : ∀ r' : rM, r'.p = 0 → Q (.inl (some (.int (-1))), (cW s (rW r' tl), b0, b1, op))) : mj_Mt gT cst gnw (m + 4) y_R_begin [.ref 27, .int (-1)] (cW s (rW r tl), b0, b1, op) Q := by
  intro J hJ
  refine hJ _ _ _ _ ?_
  refine r_part0 hn ?_
  refine r_here0 hp ht ?_
  refine r_isLetter ?_
  refine And.intro (fun _ => ?_) (fun g => absurd rfl g)
  refine And.intro (fun _ => ?_) (fun g => absurd g (by decide))
  refine And.intro (fun g => absurd g (by decide)) (fun _ => ?_)
  refine r_number0 hp ht ?_
  refine And.intro (fun _ => ?_) (fun g => absurd rfl g)
  refine And.intro (in0 (by decide)) ?_
  refine And.intro (fun _ => ?_) (fun g => absurd rfl g)
  exact hQ (((((((((((r.s_parts 1).s_kind (upd r.kind 0 0)).s_at_ (upd r.at_ 0 r.p)).s_until_ (upd r.until_ 0 r.p)).s_value (upd (upd r.value 0 0) 0 0)).s_parent (upd r.parent 0 (-1))).s_first (upd r.first 0 (-1))).s_last (upd r.last 0 (-1))).s_next (upd r.next 0 (-1))).s_many (upd r.many 0 0)).s_bound (upd r.bound 0 0)) hp
theorem r_read0 (ht : r.typed = 0) (hQ : ∀ r' : rM, r'.p = 0 → Q (.inl (some (.int 0)), (cW s (rW r' tl), b0, b1, op))) : mj_Mt gT cst gnw (m + 5) y_R_read [.ref 27] (cW s (rW r tl), b0, b1, op) Q := by
  intro J hJ
  refine hJ _ _ _ _ ?_
  refine hJ _ _ _ _ ?_
  refine And.intro (fun g => absurd g (by decide)) (fun _ => ?_)
  refine r_begin0 (r := (((r.s_p 0).s_parts 0).s_depth 0)) rfl ht rfl (fun r' hr => ?_)
  refine And.intro (fun g => absurd g (by decide)) (fun _ => ?_)
  exact And.intro (Or.inl rfl) (hQ r' hr)
theorem r_compile0 (ht : r.typed = 0) (hQ : ∀ r' : rM, r'.thrown = 1 → Q (.inl (some (.int 0)), (cW s (rW r' tl), b0, b1, op))) : mj_Mt gT cst gnw (m + 6) y_R_compile [.ref 27] (cW s (rW r tl), b0, b1, op) Q := by
  intro J hJ
  refine hJ _ _ _ _ ?_
  refine r_read0 ht (fun r' hr => ?_)
  refine And.intro (fun _ => ?_) (fun g => absurd rfl g)
  refine And.intro (fun (g : r'.p < 0) => absurd g (by rw [hr]; decide)) (fun _ => ?_)
  refine And.intro (fun _ => ?_) (fun (g : (1 : Int32) = 0) => absurd g (by decide))
  refine And.intro (fun (g : (1 : Int32) ≤ 0) => absurd g (by decide)) (fun _ => ?_)
  exact hQ (((r'.s_error r'.p).s_thrown 1).s_typed 0) rfl
theorem r_position (hQ : Q (.inl (some (.int r.error)), (cW s (rW (r.s_thrown 0) tl), b0, b1, op))) : mj_Mt gT cst gnw (m + 1) y_R_position [.ref 27] (cW s (rW r tl), b0, b1, op) Q := by
  intro J hJ
  refine hJ _ _ _ _ ?_
  exact hQ
theorem r_start0 (hs : r.program = 0) (hQ : Q (.inl (some (.int 0)), (cW s (rW (r.s_thrown 0) tl), b0, b1, op))) : mj_Mt gT cst gnw (m + 1) y_R_start [.ref 27] (cW s (rW r tl), b0, b1, op) Q := by
  intro J hJ
  refine hJ _ _ _ _ ?_
  refine And.intro (fun (g : ¬ r.program = 0) => absurd hs g) (fun _ => ?_)
  exact And.intro (Or.inl rfl) hQ
theorem r_state (hQ : Q (.inl (some (.int r.state)), (cW s (rW (r.s_thrown 0) tl), b0, b1, op))) : mj_Mt gT cst gnw (m + 1) y_R_state [.ref 27] (cW s (rW r tl), b0, b1, op) Q := by
  intro J hJ
  refine hJ _ _ _ _ ?_
  exact hQ
theorem r_next0 (hs : r.state = 0) (hQ : Q (.inl (some (.int (-1))), (cW s (rW (r.s_thrown 0) tl), b0, b1, op))) : mj_Mt gT cst gnw (m + 1) y_R_next [.ref 27] (cW s (rW r tl), b0, b1, op) Q := by
  intro J hJ
  refine hJ _ _ _ _ ?_
  exact And.intro (fun _ => hQ) (fun (g : r.state = 1) => absurd (hs.symm.trans g) (by decide))
theorem r_shown0 {k : Int32} (hs : r.state = 0) (hQ : Q (.inl (some (.int (-1))), (cW s (rW (r.s_thrown 0) tl), b0, b1, op))) : mj_Mt gT cst gnw (m + 1) y_R_shown [.ref 27, .int k] (cW s (rW r tl), b0, b1, op) Q := by
  intro J hJ
  refine hJ _ _ _ _ ?_
  exact And.intro (fun _ => hQ) (fun (g : r.state = 2) => absurd (hs.symm.trans g) (by decide))
theorem r_run0 {n : Int32} (hs : r.state = 0) (h1 : n < 0 ∨ 200 < n → Q (.inl (some (.int 0)), (cW s (rW (r.s_thrown 1) tl), b0, b1, op))) (h2 : ¬ (n < 0 ∨ 200 < n) → Q (.inl (some (.int 0)), (cW s (rW (r.s_thrown 0) tl), b0, b1, op))) : mj_Mt gT cst gnw (m + 1) y_R_run [.ref 27, .int n] (cW s (rW r tl), b0, b1, op) Q := by
  intro J hJ
  have bad : n < 0 ∨ 200 < n → J 12 [some (.ref 27), some (.int n), some (.int 0)] [] (cW s (rW (r.s_thrown 1) tl), b0, b1, op) := by
    intro g
    refine hJ _ _ _ _ ?_
    exact And.intro (fun _ => h1 g) (fun (g : (1 : Int32) = 0) => absurd g (by decide))
  refine hJ _ _ _ _ ?_
  refine And.intro (fun (g : n < 0) => bad (Or.inl g)) (fun (g : ¬ n < 0) => ?_)
  refine And.intro (fun (g2 : n ≤ 200) => ?_) (fun (g2 : ¬ n ≤ 200) => bad (Or.inr (Int32.not_le.mp g2)))
  have h3 := h2 (fun q => q.elim g (fun q => Int32.not_lt.mpr g2 q))
  refine hJ _ _ _ _ ?_
  refine And.intro (fun (g : ¬ (0 : Int32) = 0) => absurd rfl g) (fun _ => ?_)
  refine And.intro (fun _ => h3) (fun _ => ?_)
  exact And.intro (fun _ => h3) (fun (g : r.state = 1) => absurd (hs.symm.trans g) (by decide))
theorem r_free0 (hz : r.z ≤ 250) (hu : r.used = z0) (hQ : Q (.inl (some (.int (nI r.z))), (cW s (rW r tl), b0, b1, op))) : mj_Mt gT cst gnw (m + 1) y_R_free [.ref 27] (cW s (rW r tl), b0, b1, op) Q := by
  intro J hJ
  have loop : ∀ (n k : Nat), n = r.z - k → k ≤ r.z → J 4 [some (.ref 27), some (.int (nI k)), some (.int (nI k))] [] (cW s (rW r tl), b0, b1, op) := by
    intro n
    induction n with
    | zero =>
      intro k hn hk
      have e : k = r.z := by omega
      subst e
      refine hJ _ _ _ _ ?_
      refine And.intro (fun _ => hQ) (fun (g : ¬ nI r.z ≤ nI r.z) => absurd (nI_le (by omega) (by omega)) g)
    | succ n ih =>
      intro k hn hk
      refine hJ _ _ _ _ ?_
      refine And.intro (fun (g : nI r.z ≤ nI k) => absurd g (nI_ge (by omega) (by omega))) (fun _ => ?_)
      refine And.intro (vp_in_nI (show k < 250 by omega) (by decide)) ?_
      refine And.intro (fun _ => ?_) (fun g => absurd (by rw [hu]) g)
      have key : ∀ x : Int32, x = nI (k + 1) → J 4 [some (.ref 27), some (.int x), some (.int x)] [] (cW s (rW r tl), b0, b1, op) := by
        rintro x rfl
        exact ih (k + 1) (by omega) (by omega)
      exact key _ (nI_succ k).symm
  refine hJ _ _ _ _ ?_
  exact loop r.z 0 (by omega) (by omega)
theorem r_mark0 {k : Int32} (hQ : Q (.inl none, (cW s (rW r tl), b0, b1, op))) : mj_Mt gT cst gnw (m + 1) y_R_mark [.ref 27, .int 0, .int k] (cW s (rW r tl), b0, b1, op) Q := by
  intro J hJ
  refine hJ _ _ _ _ ?_
  exact And.intro (fun _ => hQ) (fun g => absurd g (by decide))
theorem r_reach0 (hz : r.z ≤ 250) (hr : ∀ k, k < 5 → r.reg k = -1) (hQ : ∀ r' : rM, Q (.inl (some (.int 0)), (cW s (rW r' tl), b0, b1, op))) : mj_Mt gT cst gnw (m + 2) y_R_reach [.ref 27] (cW s (rW r tl), b0, b1, op) Q := by
  intro J hJ
  have loop2 : ∀ (f : Nat → Int32) (n k : Nat), n = 5 - k → k ≤ 5 → J 18 [some (.ref 27), some (.int (nI k)), none] [] (cW s (rW ((r.s_marked f).s_piled 0) tl), b0, b1, op) := by
    intro f n
    induction n with
    | zero =>
      intro k hn hk
      have e : k = 5 := by omega
      subst e
      refine hJ _ _ _ _ ?_
      refine And.intro (fun _ => ?_) (fun (g : ¬ nI 5 ≤ nI 5) => absurd (by decide) g)
      refine hJ _ _ _ _ ?_
      exact And.intro (fun _ => hQ _) (fun (g : ¬ (0 : Int32) ≤ 0) => absurd (by decide) g)
    | succ n ih =>
      intro k hn hk
      refine hJ _ _ _ _ ?_
      refine And.intro (fun (g : nI 5 ≤ nI k) => absurd g (nI_ge (by omega) (by omega))) (fun _ => ?_)
      refine And.intro (vp_in_nI (show k < 5 by omega) (by decide)) ?_
      have ek : (nI k).toNatClampNeg = k := nI_clamp (by omega)
      refine And.intro (fun (g : 0 ≤ r.reg (nI k).toNatClampNeg) => absurd g (by rw [ek, hr k (by omega)]; decide)) (fun _ => ?_)
      refine And.intro (vp_in_nI (show k < 5 by omega) (by decide)) ?_
      refine r_mark0 (r := ((r.s_marked f).s_piled 0)) ?_
      have key : ∀ x : Int32, x = nI (k + 1) → J 18 [some (.ref 27), some (.int x), none] [] (cW s (rW ((r.s_marked f).s_piled 0) tl), b0, b1, op) := by
        rintro x rfl
        exact ih (k + 1) (by omega) (by omega)
      exact key _ (nI_succ k).symm
  have loop : ∀ (n k : Nat) (f : Nat → Int32), n = r.z - k → k ≤ r.z → J 2 [some (.ref 27), some (.int (nI k)), none] [] (cW s (rW (r.s_marked f) tl), b0, b1, op) := by
    intro n
    induction n with
    | zero =>
      intro k f hn hk
      refine hJ _ _ _ _ ?_
      refine And.intro (fun _ => ?_) (fun (g : ¬ nI r.z ≤ nI k) => absurd (nI_le (by omega) (by omega)) g)
      exact loop2 f 5 0 rfl (by omega)
    | succ n ih =>
      intro k f hn hk
      refine hJ _ _ _ _ ?_
      refine And.intro (fun (g : nI r.z ≤ nI k) => absurd g (nI_ge (by omega) (by omega))) (fun _ => ?_)
      refine And.intro (vp_in_nI (show k < 250 by omega) (by decide)) ?_
      have key : ∀ (f : Nat → Int32) (x : Int32), x = nI (k + 1) → J 2 [some (.ref 27), some (.int x), none] [] (cW s (rW (r.s_marked f) tl), b0, b1, op) := by
        rintro f x rfl
        exact ih (k + 1) f (by omega) (by omega)
      exact key (upd f (nI k).toNatClampNeg (vp_nar .boolean (Int32.ofInt 0))) _ (nI_succ k).symm
  refine hJ _ _ _ _ ?_
  exact loop r.z 0 r.marked (by omega) (by omega)
theorem r_lengthOf0 {x : Int32} (hx : x = -1) (hQ : Q (.inl (some (.int 0)), (cW s (rW r tl), b0, b1, op))) : mj_Mt gT cst gnw (m + 1) y_R_lengthOf [.ref 27, .int x] (cW s (rW r tl), b0, b1, op) Q := by
  subst hx
  intro J hJ
  refine hJ _ _ _ _ ?_
  refine hJ _ _ _ _ ?_
  exact And.intro (fun _ => hQ) (fun g => absurd (by decide) g)
theorem r_count0 {w : Int32} (hz : r.z ≤ 250) (hu : r.used = z0) (hr : ∀ k, k < 5 → r.reg k = -1) (h5 : r.collections = 0) (h6 : r.takenBack = 0) (h7 : r.steps = 0)
    (hQ : ∀ r' : rM, Q (.inl (some (.int (cnt0 w))), (cW s (rW r' tl), b0, b1, op))) : mj_Mt gT cst gnw (m + 3) y_R_count [.ref 27, .int w] (cW s (rW r tl), b0, b1, op) Q := by
  intro J hJ
  refine hJ _ _ _ _ ?_
  have key : ∀ x : Int32, x = cnt0 w → Q (.inl (some (.int x)), (cW s (rW (r.s_thrown 0) tl), b0, b1, op)) := by
    rintro x rfl
    exact hQ _
  refine And.intro (fun g => ?_) (fun g0 => And.intro (fun g => ?_) (fun g1 => And.intro (fun g => ?_) (fun g2 => And.intro (fun g => ?_) (fun g3 => And.intro (fun g => ?_) (fun g4 => And.intro (fun g => ?_) (fun g5 => And.intro (fun g => ?_) (fun g6 => ?_)))))))
  · subst g
    refine r_free0 (r := (r.s_thrown 0)) hz hu ?_
    exact key _ (Int32.sub_self _)
  · subst g
    exact r_reach0 (r := (r.s_thrown 0)) hz hr (fun r' => hQ r')
  · subst g
    exact key _ h5
  · subst g
    exact key _ h6
  · subst g
    exact key _ h7
  · subst g
    refine And.intro (in0 (by decide)) ?_
    exact r_lengthOf0 (r := (r.s_thrown 0)) (hr 0 (by decide)) (hQ _)
  · subst g
    refine And.intro (vp_in_nI (show 3 < 5 by decide) (by decide)) ?_
    exact r_lengthOf0 (r := (r.s_thrown 0)) (hr 3 (by decide)) (hQ _)
  · refine key _ ?_
    unfold cnt0
    rw [if_neg]
    · rfl
    · rintro (g | g | g | g | g | g | g)
      · exact g0 g
      · exact g1 g
      · exact g2 g
      · exact g3 g
      · exact g4 g
      · exact g5 g
      · exact g6 g
end P1g
end
section
abbrev bO (j : Nat) (ml : Int32) (n : Nat) : mj_O := .inr (.inl (9, [.ref j, .int 0, .int ml, .int (nI n)]))
abbrev bB (N : Nat) (g : Nat → Int32) : mj_O := .inl (4, N, .inl g)
section J1
variable {cst : Nat → Option (Nat × (Nat → Int32))} {m bc bs : Nat} {op : Bool} {Q : mj_R → Prop} {ml : Int32} {n N : Nat} {g : Nat → Int32} {os : List mj_O}
set_option maxRecDepth 10000
theorem j_isLatin1 {j : Nat} (hQ : Q (.inl (some (.int 1)), (bO j ml n :: os, bc, bs, op))) : mj_Mt gT cst gnw (m + 1) y_AbstractStringBuilder_isLatin1 [.ref 0] (bO j ml n :: os, bc, bs, op) Q := by
  intro J hJ
  refine hJ _ _ _ _ ?_
  refine And.intro (fun h => absurd h (by decide)) (fun _ => ?_)
  refine And.intro (fun h => absurd rfl h) (fun _ => ?_)
  exact And.intro (Or.inr rfl) hQ
theorem j_canEncodeC {c : Nat} (hc : c < 256) (hQ : Q (.inl (some (.int 1)), (os, bc, bs, op))) : mj_Mt gT cst gnw (m + 1) y_StringLatin1_canEncode_C [.int (nI c)] (os, bc, bs, op) Q := by
  intro J hJ
  refine hJ _ _ _ _ ?_
  refine And.intro (fun h => absurd h (show ¬ nI 255 < nI c from nI_nlt (by omega) (by decide))) (fun _ => ?_)
  exact And.intro (Or.inr rfl) hQ
theorem j_newLength {x y z : Int32} {q : Nat} (h : N < q) (hq : q ≤ 1000) (hx : x = nI N) (hy : y = nI (q - N)) (hz : z = nI (N + 2)) (hQ : Q (.inl (some (.int (nI (sb_cap q N)))), (os, bc, bs, op))) : mj_Mt gT cst gnw (m + 1) y_ArraysSupport_newLength [.int x, .int y, .int z] (os, bc, bs, op) Q := by
  have hc : sb_cap q N = N + (if q - N < N + 2 then N + 2 else q - N) := by
    unfold sb_cap
    rw [if_neg (by omega)]
    split <;> split <;> omega
  have hg := sb_cap_ge q N
  have hl : sb_cap q N ≤ 2002 := by
    unfold sb_cap
    split
    · omega
    · split <;> omega
  have e : x + (if y < z then z else y) = nI (sb_cap q N) := by
    rw [hc, hx, hy, hz]
    by_cases h2 : q - N < N + 2
    · rw [if_pos h2, if_pos (nI_lt h2 (by omega))]
      exact nI_add N (N + 2)
    · rw [if_neg h2, if_neg (nI_nlt (by omega) (by omega))]
      exact nI_add N (q - N)
  rw [← e] at hQ
  intro J hJ
  refine hJ _ _ _ _ ?_
  refine And.intro (fun h9 => absurd (show nI (sb_cap q N) ≤ 0 by rw [← e]; exact h9) (nI_nle (by omega) (by omega))) (fun _ => ?_)
  refine And.intro (fun h9 => absurd (show nI 2147483639 < nI (sb_cap q N) by rw [← e]; exact h9) (nI_nlt (by omega) (by decide))) (fun _ => ?_)
  exact hQ
theorem j_newCapacity {q : Nat} (h : N < q) (hq : q ≤ 1000) (hQ : Q (.inl (some (.int (nI (sb_cap q N)))), (bO 1 ml n :: bB N g :: os, bc, bs, op))) : mj_Mt gT cst gnw (m + 2) y_AbstractStringBuilder_newCapacity [.ref 0, .int (nI q)] (bO 1 ml n :: bB N g :: os, bc, bs, op) Q := by
  have hl : sb_cap q N ≤ 2002 := by
    unfold sb_cap
    split
    · omega
    · split <;> omega
  intro J hJ
  refine hJ _ _ _ _ ?_
  refine j_newLength (N := N) (q := q) h hq rfl (by rw [sb_shl0]; exact pk_sub (by omega)) (by rw [sb_shl0]; exact nI_add N 2) ?_
  refine And.intro (fun _ => ?_) (fun h9 => absurd ((nI_eq (a := sb_cap q N) (b := 2147483647) (by omega) (by decide)).mp h9) (by omega))
  rw [← sb_shr0 (nI (sb_cap q N))] at hQ
  exact hQ
theorem j_copyOf {o0 : mj_O} {x : Int32} {q : Nat} (hx : x = nI q) (h : N < q) (hq : q ≤ 2000) (hf : sb_Fit g) (hb : q ≤ bs) (hQ : Q (.inl (some (.ref 2)), ([o0, bB N g, bB q (va_cpy g (fun _ => 0) 0 0 N)], bc, bs - q, true))) : mj_Mt gT cst gnw (m + 1) y_Arrays_copyOf [.ref 1, .int x] ([o0, bB N g], bc + 1, bs, true) Q := by
  subst hx
  have ec : (nI q).toNatClampNeg = q := nI_clamp (by omega)
  have em : (if nI q < Int32.ofNat N then nI q else Int32.ofNat N) = nI N := if_neg (nI_nlt (by omega) (by omega))
  have e0 : (Int32.ofInt 0).toNatClampNeg = 0 := by decide
  have en : (nI N).toNatClampNeg = N := nI_clamp (by omega)
  intro J hJ
  refine hJ _ _ _ _ ?_
  refine And.intro (fun _ => ?_) (fun h9 => absurd ((nI_eq (a := q) (b := N) (by omega) (by omega)).mp h9) (by omega))
  refine And.intro (Nat.le_of_ble_eq_true rfl) (And.intro (nI_pos (by omega)) (And.intro (by rw [ec]; omega) (And.intro (by rw [ec]; omega) ?_)))
  refine And.intro (by decide) (And.intro (by decide) (And.intro (by rw [em]; exact nI_pos (by omega)) (And.intro (by rw [em, e0, en]; omega) (And.intro (by rw [em, e0, en, ec]; omega) (And.intro hf ?_)))))
  have key : ∀ (a c1 c2 c3 b : Nat), a = q → c1 = 0 → c2 = 0 → c3 = N → b = q → Q (.inl (some (.ref 2)), ([o0, bB N g, bB a (va_cpy g (fun _ => 0) c1 c2 c3)], bc, bs - b, true)) := by
    rintro a c1 c2 c3 b rfl rfl rfl rfl rfl
    exact hQ
  exact key _ _ _ _ _ ec e0 e0 (by rw [em]; exact en) ec
theorem j_ensure {x : Int32} {q : Nat} (hx : x = nI q) (hq : q ≤ 900) (hN : N ≤ 65536) (hf : sb_Fit g) (hb : 2 * q ≤ bs)
    (h1 : q ≤ N → Q (.inl none, ([bO 1 ml n, bB N g], bc + 1, bs, true)))
    (h2 : N < q → sb_cap q N ≤ 2 * q → Q (.inl none, ([bO 2 ml n, bB N g, bB (sb_cap q N) (va_cpy g (fun _ => 0) 0 0 N)], bc, bs - sb_cap q N, true))) :
    mj_Mt gT cst gnw (m + 3) y_AbstractStringBuilder_ensureCapacityInternal [.ref 0, .int x] ([bO 1 ml n, bB N g], bc + 1, bs, true) Q := by
  subst hx
  have e1 : (nI q - nI N).toInt = (q : Int) - N := pk_sub_toInt (by omega) (by omega)
  have es : nI q - (Int32.ofNat N >>> ((0 : Int32) &&& 31)) = nI q - nI N := by rw [sb_shr0]; rfl
  intro J hJ
  refine hJ _ _ _ _ ?_
  refine And.intro (fun h9 => ?_) (fun h9 => ?_)
  · have h9 : nI q - nI N ≤ 0 := by rw [← es]; exact h9
    refine h1 ?_
    rw [Int32.le_iff_toInt_le, e1, Int32.toInt_zero] at h9
    omega
  · have h9 : ¬ nI q - nI N ≤ 0 := by rw [← es]; exact h9
    rw [Int32.le_iff_toInt_le, e1, Int32.toInt_zero] at h9
    have hl : N < q := by omega
    have hg := sb_cap_ge q N
    have hc : sb_cap q N ≤ 2 * q := by
      unfold sb_cap
      rw [if_neg (by omega)]
      split <;> omega
    refine j_newCapacity hl (by omega) ?_
    refine j_copyOf (q := sb_cap q N) (sb_shl0 _) (by omega) (by omega) hf (by omega) ?_
    exact h2 hl hc
theorem j_asb_length {j : Nat} (hQ : Q (.inl (some (.int (nI n))), (bO j ml n :: os, bc, bs, op))) : mj_Mt gT cst gnw (m + 1) y_AbstractStringBuilder_length [.ref 0] (bO j ml n :: os, bc, bs, op) Q := by
  intro J hJ
  refine hJ _ _ _ _ ?_
  exact hQ
theorem j_length {j : Nat} (hQ : Q (.inl (some (.int (nI n))), (bO j ml n :: os, bc, bs, op))) : mj_Mt gT cst gnw (m + 2) y_StringBuilder_length [.ref 0] (bO j ml n :: os, bc, bs, op) Q := by
  intro J hJ
  refine hJ _ _ _ _ ?_
  refine j_asb_length ?_
  exact hQ
theorem j_pcheck {i k : Nat} {v : Value} (hi : i < k) (hk : k < 2 ^ 31) (hQ : Q (.inl (some (.int (nI i))), (os, bc, bs, op))) : mj_Mt gT cst gnw (m + 1) y_Preconditions_checkIndex [.int (nI i), .int (nI k), .retAddr 0] (os, bc, bs, op) Q := by
  intro J hJ
  refine hJ _ _ _ _ ?_
  refine And.intro (fun h => absurd h (nI_pos (by omega))) (fun _ => ?_)
  refine And.intro (fun _ => ?_) (fun h => absurd (nI_lt hi hk) h)
  exact hQ
theorem j_check {i k : Nat} (hi : i < k) (hk : k < 2 ^ 31) (hQ : Q (.inl none, (os, bc, bs, op))) : mj_Mt gT cst gnw (m + 2) y_String_checkIndex [.int (nI i), .int (nI k)] (os, bc, bs, op) Q := by
  intro J hJ
  refine hJ _ _ _ _ ?_
  refine j_pcheck (v := .null) hi hk ?_
  exact hQ
theorem j_asb_charAt {f : Nat → Nat} {i : Nat} (hn : n ≤ N) (hN : N ≤ 65536) (hL : sb_Lat f n g) (hi : i < n) (hQ : Q (.inl (some (.int (nI (f i)))), (bO 1 ml n :: bB N g :: os, bc, bs, op))) : mj_Mt gT cst gnw (m + 3) y_AbstractStringBuilder_charAt [.ref 0, .int (nI i)] (bO 1 ml n :: bB N g :: os, bc, bs, op) Q := by
  obtain ⟨h1, h2⟩ := hL i hi
  obtain ⟨b1, b2, -⟩ := sb_byte _ h1
  have hc := (pk_charN (q := f i) (by omega)).1
  have em : (if (Int32.ofNat N >>> ((0 : Int32) &&& 31)) < nI n then (Int32.ofNat N >>> ((0 : Int32) &&& 31)) else nI n) = nI n := by
    rw [sb_shr0]
    exact if_neg (nI_nlt (a := N) (b := n) hn (by omega))
  intro J hJ
  refine hJ _ _ _ _ ?_
  have key : ∀ x : Int32, x = nI n → mj_Mt gT cst gnw (m + 2) y_String_checkIndex [.int (nI i), .int x] (bO 1 ml n :: bB N g :: os, bc, bs, op) (mj_after (mj_hd (mj_off kO_AbstractStringBuilder_charAt) kH_AbstractStringBuilder_charAt) Q (mj_sg (mj_Mt gT cst gnw (m + 2)) cst gnw (mj_hd (mj_off kO_AbstractStringBuilder_charAt) kH_AbstractStringBuilder_charAt) kC_AbstractStringBuilder_charAt J Q 383 false) 16 [some (.ref 0), some (.int (nI i)), some (.int 0), some (.ref 1), some (.int x)] []) := by
    rintro x rfl
    refine j_check hi (by omega) ?_
    refine And.intro (fun h => absurd rfl h) (fun _ => ?_)
    refine And.intro (vp_in_nI (by omega) (by omega)) ?_
    have ev : ((g (nI i).toNatClampNeg &&& Int32.ofInt 255).toUInt32 % 65536).toInt32 = nI (f i) := by
      rw [nI_clamp (by omega), h2, show Int32.ofInt 255 = 255 by decide, b1, b2]
    rw [← ev] at hc hQ
    exact And.intro hc hQ
  exact key _ em
theorem j_charAt {f : Nat → Nat} {i : Nat} (hn : n ≤ N) (hN : N ≤ 65536) (hL : sb_Lat f n g) (hi : i < n) (hQ : Q (.inl (some (.int (nI (f i)))), (bO 1 ml n :: bB N g :: os, bc, bs, op))) : mj_Mt gT cst gnw (m + 4) y_StringBuilder_charAt [.ref 0, .int (nI i)] (bO 1 ml n :: bB N g :: os, bc, bs, op) Q := by
  obtain ⟨h1, -⟩ := hL i hi
  intro J hJ
  refine hJ _ _ _ _ ?_
  refine j_asb_charAt hn hN hL hi ?_
  exact And.intro (pk_charN (q := f i) (by omega)).1 hQ
theorem j_asb_setLength (hn : n ≤ N) (hN : N ≤ 65536) (hf : sb_Fit g) (hQ : ∀ ml', Q (.inl none, ([bO 1 ml' 0, bB N g], bc + 1, bs, true))) : mj_Mt gT cst gnw (m + 4) y_AbstractStringBuilder_setLength [.ref 0, .int 0] ([bO 1 ml n, bB N g], bc + 1, bs, true) Q := by
  intro J hJ
  refine hJ _ _ _ _ ?_
  refine And.intro (fun _ => ?_) (fun h => absurd (by decide) h)
  refine j_ensure (q := 0) rfl (by omega) hN hf (by omega) (fun _ => ?_) (fun h => absurd h (by omega))
  refine And.intro (fun _ => ?_) (fun h9 => absurd (nI_pos' (by omega)) h9)
  refine And.intro (fun _ => ?_) (fun _ => ?_)
  · exact hQ ml
  · refine And.intro (Or.inr rfl) ?_
    exact hQ 1
theorem j_setLength (hn : n ≤ N) (hN : N ≤ 65536) (hf : sb_Fit g) (hQ : ∀ ml', Q (.inl none, ([bO 1 ml' 0, bB N g], bc + 1, bs, true))) : mj_Mt gT cst gnw (m + 5) y_StringBuilder_setLength [.ref 0, .int 0] ([bO 1 ml n, bB N g], bc + 1, bs, true) Q := by
  intro J hJ
  refine hJ _ _ _ _ ?_
  refine j_asb_setLength hn hN hf (fun ml' => ?_)
  exact hQ ml'
end J1
end
section
section J2
variable {cst : Nat → Option (Nat × (Nat → Int32))} {m bc bs : Nat} {op : Bool} {Q : mj_R → Prop} {ml : Int32} {n N : Nat} {g : Nat → Int32} {os : List mj_O} {xs : List Int32}
set_option maxRecDepth 10000
def aw (x : Int32) : Nat := x.toInt.natAbs
def isz (x : Int32) : Nat := sb_dg (aw x) + (if x < 0 then 1 else 0)
def ich (x : Int32) : Nat → Nat := fun i => if x < 0 then (if i = 0 then 45 else sb_dec (aw x) (i - 1)) else sb_dec (aw x) i
theorem aw_le (x : Int32) : aw x ≤ 2 ^ 31 := by
  have h1 := x.toInt_lt
  have h2 := x.le_toInt
  unfold aw
  omega
theorem isz_in (x : Int32) : 1 ≤ isz x ∧ isz x ≤ 11 := by
  have := sb_dg_in (aw x)
  unfold isz
  split <;> omega
theorem sb_dg_eq {w : Nat} : ∀ i, 1 ≤ i → i ≤ 9 → (i = 1 ∨ 10 ^ (i - 1) ≤ w) → w < 10 ^ i → sb_dg w = i
  | 0, h, _, _, _ => by omega
  | 1, _, _, h1, h2 => by unfold sb_dg; (repeat' split) <;> omega
  | 2, _, _, h1, h2 => by unfold sb_dg; (repeat' split) <;> omega
  | 3, _, _, h1, h2 => by unfold sb_dg; (repeat' split) <;> omega
  | 4, _, _, h1, h2 => by unfold sb_dg; (repeat' split) <;> omega
  | 5, _, _, h1, h2 => by unfold sb_dg; (repeat' split) <;> omega
  | 6, _, _, h1, h2 => by unfold sb_dg; (repeat' split) <;> omega
  | 7, _, _, h1, h2 => by unfold sb_dg; (repeat' split) <;> omega
  | 8, _, _, h1, h2 => by unfold sb_dg; (repeat' split) <;> omega
  | 9, _, _, h1, h2 => by unfold sb_dg; (repeat' split) <;> omega
  | i + 10, _, h, _, _ => by omega
theorem sb_dg_10 {w : Nat} (h : 10 ^ 9 ≤ w) : sb_dg w = 10 := by unfold sb_dg; (repeat' split) <;> omega
theorem j_pow {i : Nat} (h : i ≤ 9) : 10 ^ i ≤ 1000000000 := Nat.pow_le_pow_right (n := 10) (by decide) h
theorem j_sizeLoop {J : Nat → mj_L → List Value → mj_H → Prop} (hJ : ∀ pc ls st h, mj_sg (mj_Mt gT cst gnw m) cst gnw (mj_hd (mj_off kO_Integer_stringSize) kH_Integer_stringSize) kC_Integer_stringSize J Q 400 true pc ls st h → J pc ls st h) {y : Int32} {w d : Nat} (hy : y.toInt = -(w : Int)) (hd : d ≤ 1) (hQ : Q (.inl (some (.int (nI (sb_dg w + d)))), (os, bc, bs, op))) :
    ∀ (k i : Nat) (p x : Int32), k + i = 10 → 1 ≤ i → (i = 1 ∨ 10 ^ (i - 1) ≤ w) → (i < 10 → p.toInt = -((10 ^ i : Nat) : Int)) → x = nI i → J 13 [some (.int y), some (.int (nI d)), some (.int p), some (.int x)] [] (os, bc, bs, op) := by
  intro k
  induction k with
  | zero =>
    intro i p x hk h1 hl hp hx
    subst hx
    obtain rfl : i = 10 := by omega
    refine hJ _ _ _ _ ?_
    refine And.intro (fun _ => ?_) (fun h => absurd (by decide) h)
    have e : Int32.ofInt 10 + nI d = nI (sb_dg w + d) := by
      rw [sb_dg_10 (by simpa using hl)]
      exact nI_add 10 d
    rw [← e] at hQ
    exact hQ
  | succ k ih =>
    intro i p x hk h1 hl hp hx
    subst hx
    have hp := hp (by omega)
    have h9 := j_pow (i := i) (by omega)
    refine hJ _ _ _ _ ?_
    refine And.intro (fun h => absurd h (nI_ge (a := i) (b := 10) (by omega) (by decide))) (fun _ => ?_)
    refine And.intro (fun h => ?_) (fun h => ?_)
    · have hw : 10 ^ i ≤ w := by
        rw [Int32.le_iff_toInt_le, hy, hp] at h
        omega
      refine ih (i + 1) _ _ (by omega) (by omega) (Or.inr hw) (fun hi => ?_) (nI_1 i)
      have h8 := j_pow (i := i + 1) (by omega)
      rw [Int32.toInt_mul, hp, show (Int32.ofInt 10).toInt = 10 by decide]
      rw [Nat.pow_succ] at h8 ⊢
      rw [show (10 : Int) * -((10 ^ i : Nat) : Int) = -((10 ^ i * 10 : Nat) : Int) by push_cast; omega]
      apply Int.bmod_eq_of_le <;> omega
    · have hw : w < 10 ^ i := by
        rw [Int32.le_iff_toInt_le, hy, hp] at h
        omega
      have e : nI i + nI d = nI (sb_dg w + d) := by
        rw [sb_dg_eq i h1 (by omega) hl hw]
        exact nI_add i d
      rw [← e] at hQ
      exact hQ
theorem j_stringSize {x : Int32} (hQ : Q (.inl (some (.int (nI (isz x)))), (os, bc, bs, op))) : mj_Mt gT cst gnw (m + 1) y_Integer_stringSize [.int x] (os, bc, bs, op) Q := by
  intro J hJ
  refine hJ _ _ _ _ ?_
  refine And.intro (fun h => ?_) (fun h => ?_)
  · have hw : x.toInt = -((aw x : Nat) : Int) := by
      rw [Int32.lt_iff_toInt_lt, Int32.toInt_zero] at h
      unfold aw
      omega
    have hQ' : Q (.inl (some (.int (nI (sb_dg (aw x) + 1)))), (os, bc, bs, op)) := by
      have e : isz x = sb_dg (aw x) + 1 := by unfold isz; rw [if_pos h]
      rw [← e]
      exact hQ
    exact j_sizeLoop hJ hw (Nat.le_refl 1) hQ' 9 1 _ _ rfl (Nat.le_refl 1) (Or.inl rfl) (fun _ => by decide) rfl
  · have hw : (-x).toInt = -((aw x : Nat) : Int) := by
      rw [Int32.lt_iff_toInt_lt, Int32.toInt_zero] at h
      have h1 := x.toInt_lt
      unfold aw
      rw [Int32.toInt_neg]
      rw [show (x.toInt.natAbs : Int) = x.toInt by omega]
      apply Int.bmod_eq_of_le <;> omega
    have hQ' : Q (.inl (some (.int (nI (sb_dg (aw x) + 0)))), (os, bc, bs, op)) := by
      have e : isz x = sb_dg (aw x) + 0 := by unfold isz; rw [if_neg h]
      rw [← e]
      exact hQ
    exact j_sizeLoop hJ hw (Nat.zero_le 1) hQ' 9 1 _ _ rfl (Nat.le_refl 1) (Or.inl rfl) (fun _ => by decide) rfl
theorem j_tab : ∀ k, k < 100 → vp_nar .byte (law_d1.getD k 0) = sb_b (48 + k % 10) ∧ vp_nar .byte (law_d2.getD k 0) = sb_b (48 + k / 10) := by decide +kernel
theorem j_neg {y : Int32} {w : Nat} (hy : y.toInt = -(w : Int)) (h : w < 2 ^ 31) : -y = nI w := by
  apply Int32.toInt_inj.mp
  rw [Int32.toInt_neg, hy, nI_toInt h, Int.neg_neg]
  apply Int.bmod_eq_of_le <;> omega
theorem j_div {y : Int32} {w : Nat} (hy : y.toInt = -(w : Int)) (h : w ≤ 2 ^ 31) : (y / Int32.ofInt 100).toInt = -((w / 100 : Nat) : Int) := by
  rw [Int32.toInt_div, hy, show (Int32.ofInt 100).toInt = 100 by decide, Int.neg_tdiv, show ((w : Int).tdiv 100) = ((w / 100 : Nat) : Int) by rw [Int.tdiv_eq_ediv_of_nonneg (by omega)]; rfl]
  apply Int.bmod_eq_of_le <;> omega
theorem j_rem {y : Int32} {w : Nat} (hy : y.toInt = -(w : Int)) (h : w ≤ 2 ^ 31) : y / Int32.ofInt 100 * Int32.ofInt 100 - y = nI (w % 100) := by
  have h1 := j_div hy h
  apply Int32.toInt_inj.mp
  rw [Int32.toInt_sub, Int32.toInt_mul, h1, hy, show (Int32.ofInt 100).toInt = 100 by decide, nI_toInt (by omega), Int.bmod_sub_bmod]
  have : -((w / 100 : Nat) : Int) * 100 - -(w : Int) = ((w % 100 : Nat) : Int) := by omega
  rw [this]
  apply Int.bmod_eq_of_le <;> omega
theorem j_charsLoop1 {o0 : mj_O} {J : Nat → mj_L → List Value → mj_H → Prop} (hJ : ∀ pc ls st h, mj_sg (mj_Mt gT (law_cst xs) gnw m) (law_cst xs) gnw (mj_hd (mj_off kO_Integer_getChars) kH_Integer_getChars) kC_Integer_getChars J Q 400 true pc ls st h → J pc ls st h) {x1 : Int32} {sg n0 : Nat} (hsg : sg ≤ 1) (hN : N ≤ 65536) :
    ∀ (f w p : Nat) (y : Int32) (g : Nat → Int32) (a3 a4 : Option Value), (a3 = none ∧ a4 = none ∨ ∃ u v : Int32, a3 = some (.int u) ∧ a4 = some (.int v)) → w < f → w ≤ 2 ^ 31 → y.toInt = -(w : Int) → p = n0 + sg + sb_dg w → p ≤ N →
    (∀ g', (∀ j, j < n0 ∨ p ≤ j → g' j = g j) → (∀ i, i < sb_dg w → g' (p - 1 - i) = sb_b (48 + w / 10 ^ i % 10)) → (sg = 1 → g' n0 = sb_b 45) → (sb_Fit g → sb_Fit g') → Q (.inl (some (.int (nI n0))), ([o0, bB N g'], bc, bs, op))) →
    J 13 [some (.int y), some (.int x1), some (.ref 1), a3, a4, some (.int (nI p)), some (.int (nI sg))] [] ([o0, bB N g], bc, bs, op) := by
  intro f
  induction f with
  | zero =>
    intro w p y g a3 a4 ha h
    omega
  | succ f ih =>
    intro w p y g a3 a4 ha hwf hw hy hp hpN hP
    have hd1 := (sb_dg_in w).1
    have fin : ∀ (F q : Nat) (g2 : Nat → Int32), q = n0 + sg → (∀ g', (∀ j, j < n0 ∨ q ≤ j → g' j = g2 j) → (sg = 1 → g' n0 = sb_b 45) → (sb_Fit g2 → sb_Fit g') → Q (.inl (some (.int (nI n0))), ([o0, bB N g'], bc, bs, op))) → ∀ (a3 a4 : Option Value), (a3 = none ∧ a4 = none ∨ ∃ u v : Int32, a3 = some (.int u) ∧ a4 = some (.int v)) → mj_sg (mj_Mt gT (law_cst xs) gnw m) (law_cst xs) gnw (mj_hd (mj_off kO_Integer_getChars) kH_Integer_getChars) kC_Integer_getChars J Q (F + 20) false 62 [some (.int y), some (.int x1), some (.ref 1), a3, a4, some (.int (nI q)), some (.int (nI sg))] [] ([o0, bB N g2], bc, bs, op) := by
      intro F q g2 hq hP2 a3 a4 ha
      refine And.intro (fun h0 => ?_) (fun h0 => ?_)
      · have h0 : sg = 0 := (nI_eq (a := sg) (b := 0) (by omega) (by decide)).mp h0
        subst h0
        obtain rfl : q = n0 := by omega
        exact hP2 g2 (fun _ _ => rfl) (fun h => by omega) (fun h => h)
      · have h1 : sg = 1 := by
          rcases (show sg = 0 ∨ sg = 1 by omega) with e | e
          · subst e
            exact absurd rfl h0
          · exact e
        subst h1
        subst hq
        rcases ha with ⟨rfl, rfl⟩ | ⟨u, v, rfl, rfl⟩
        all_goals
          refine And.intro (show vp_in (nI (n0 + 1) + (-1)) N by rw [pk_m1]; exact vp_in_nI (by omega) (by omega)) ?_
          have key : ∀ (z : Int32) (i : Nat) (c : Int32), z = nI n0 → i = n0 → c = sb_b 45 → Q (.inl (some (.int z)), ([o0, bB N (upd g2 i c)], bc, bs, op)) := by
            rintro z i c rfl rfl rfl
            exact hP2 _ (fun j hj => pk_un (by omega)) (fun _ => pk_us) (fun hf => sb_fitU hf (sb_fitB _))
          exact key _ _ _ (pk_m1 n0) (by rw [show nI (n0 + 1) + Int32.ofInt (-1) = nI n0 from pk_m1 n0, nI_clamp (by omega)]) (by decide)
    by_cases h100 : w < 100
    · obtain ⟨t1, t2⟩ := j_tab w h100
      have e1 := j_neg hy (by omega)
      have ew : (-y).toNatClampNeg = w := by rw [e1]; exact nI_clamp (by omega)
      have ep : nI p + Int32.ofInt (-1) = nI (p - 1) := sb_m1 (by omega)
      have ec : (nI p + Int32.ofInt (-1)).toNatClampNeg = p - 1 := by rw [ep]; exact nI_clamp (by omega)
      by_cases h9 : w < 10
      · have hd : sb_dg w = 1 := if_pos h9
        have go : ∀ (F : Nat) (z : Int32) (i : Nat) (c : Int32), z = nI (p - 1) → i = p - 1 → c = sb_b (48 + w % 10) → ∀ (a3 a4 : Option Value), (a3 = none ∧ a4 = none ∨ ∃ u v : Int32, a3 = some (.int u) ∧ a4 = some (.int v)) → mj_sg (mj_Mt gT (law_cst xs) gnw m) (law_cst xs) gnw (mj_hd (mj_off kO_Integer_getChars) kH_Integer_getChars) kC_Integer_getChars J Q (F + 20) false 62 [some (.int y), some (.int x1), some (.ref 1), a3, a4, some (.int z), some (.int (nI sg))] [] ([o0, bB N (upd g i c)], bc, bs, op) := by
          rintro F z i c rfl rfl rfl a3 a4 ha
          refine fin F (p - 1) _ (by omega) (fun g' h1 h2 h3 => hP g' (fun j hj => ?_) (fun i hi => ?_) h2 (fun hf => h3 (sb_fitU hf (sb_fitB _)))) a3 a4 ha
          · rw [h1 j (by omega), pk_un (by omega)]
          · obtain rfl : i = 0 := by omega
            rw [Nat.sub_zero, h1 _ (by omega), pk_us, Nat.pow_zero, Nat.div_one]
        rcases ha with ⟨rfl, rfl⟩ | ⟨u, v, rfl, rfl⟩
        · refine hJ _ _ _ _ ?_
          refine And.intro (fun _ => ?_) (fun h => absurd (show Int32.ofInt (-100) < y by rw [Int32.lt_iff_toInt_lt, hy, show (Int32.ofInt (-100)).toInt = -100 by decide]; omega) h)
          refine And.intro (show vp_in (-y) 100 by rw [e1]; exact vp_in_nI h100 (by decide)) ?_
          refine And.intro (show vp_in (nI p + Int32.ofInt (-1)) N by rw [ep]; exact vp_in_nI (by omega) (by omega)) ?_
          refine And.intro (fun _ => ?_) (fun h => absurd (show Int32.ofInt (-9) ≤ y by rw [Int32.le_iff_toInt_le, hy, show (Int32.ofInt (-9)).toInt = -9 by decide]; omega) h)
          exact go _ _ _ _ ep ec (by rw [ew]; exact t1) _ _ (Or.inl ⟨rfl, rfl⟩)
        · refine hJ _ _ _ _ ?_
          refine And.intro (fun _ => ?_) (fun h => absurd (show Int32.ofInt (-100) < y by rw [Int32.lt_iff_toInt_lt, hy, show (Int32.ofInt (-100)).toInt = -100 by decide]; omega) h)
          refine And.intro (show vp_in (-y) 100 by rw [e1]; exact vp_in_nI h100 (by decide)) ?_
          refine And.intro (show vp_in (nI p + Int32.ofInt (-1)) N by rw [ep]; exact vp_in_nI (by omega) (by omega)) ?_
          refine And.intro (fun _ => ?_) (fun h => absurd (show Int32.ofInt (-9) ≤ y by rw [Int32.le_iff_toInt_le, hy, show (Int32.ofInt (-9)).toInt = -9 by decide]; omega) h)
          exact go _ _ _ _ ep ec (by rw [ew]; exact t1) _ _ (Or.inr ⟨u, v, rfl, rfl⟩)
      · have hd : sb_dg w = 2 := by rw [sb_dg, if_neg h9, if_pos h100]
        have d2 : w / 10 % 10 = w / 10 := by omega
        have ep2 : nI p + Int32.ofInt (-1) + Int32.ofInt (-1) = nI (p - 1 - 1) := by rw [ep]; exact sb_m1 (by omega)
        have ec2 : (nI p + Int32.ofInt (-1) + Int32.ofInt (-1)).toNatClampNeg = p - 1 - 1 := by rw [ep2]; exact nI_clamp (by omega)
        have go : ∀ (F : Nat) (z : Int32) (i i2 : Nat) (c c2 : Int32), z = nI (p - 1 - 1) → i = p - 1 → i2 = p - 1 - 1 → c = sb_b (48 + w % 10) → c2 = sb_b (48 + w / 10) → ∀ (a3 a4 : Option Value), (a3 = none ∧ a4 = none ∨ ∃ u v : Int32, a3 = some (.int u) ∧ a4 = some (.int v)) → mj_sg (mj_Mt gT (law_cst xs) gnw m) (law_cst xs) gnw (mj_hd (mj_off kO_Integer_getChars) kH_Integer_getChars) kC_Integer_getChars J Q (F + 20) false 62 [some (.int y), some (.int x1), some (.ref 1), a3, a4, some (.int z), some (.int (nI sg))] [] ([o0, bB N (upd (upd g i c) i2 c2)], bc, bs, op) := by
          rintro F z i i2 c c2 rfl rfl rfl rfl rfl a3 a4 ha
          refine fin F (p - 1 - 1) _ (by omega) (fun g' h1 h2 h3 => hP g' (fun j hj => ?_) (fun i hi => ?_) h2 (fun hf => h3 (sb_fitU (sb_fitU hf (sb_fitB _)) (sb_fitB _)))) a3 a4 ha
          · rw [h1 j (by omega), pk_un (by omega), pk_un (by omega)]
          · obtain rfl | rfl : i = 0 ∨ i = 1 := by omega
            · rw [Nat.sub_zero, h1 _ (by omega), pk_un (by omega), pk_us, Nat.pow_zero, Nat.div_one]
            · rw [h1 _ (by omega), pk_us, Nat.pow_one, d2]
        rcases ha with ⟨rfl, rfl⟩ | ⟨u, v, rfl, rfl⟩
        · refine hJ _ _ _ _ ?_
          refine And.intro (fun _ => ?_) (fun h => absurd (show Int32.ofInt (-100) < y by rw [Int32.lt_iff_toInt_lt, hy, show (Int32.ofInt (-100)).toInt = -100 by decide]; omega) h)
          refine And.intro (show vp_in (-y) 100 by rw [e1]; exact vp_in_nI h100 (by decide)) ?_
          refine And.intro (show vp_in (nI p + Int32.ofInt (-1)) N by rw [ep]; exact vp_in_nI (by omega) (by omega)) ?_
          refine And.intro (fun h => absurd (show Int32.ofInt (-9) ≤ y from h) (by rw [Int32.le_iff_toInt_le, hy, show (Int32.ofInt (-9)).toInt = -9 by decide]; omega)) (fun _ => ?_)
          refine And.intro (show vp_in (-y) 100 by rw [e1]; exact vp_in_nI h100 (by decide)) ?_
          refine And.intro (show vp_in (nI p + Int32.ofInt (-1) + Int32.ofInt (-1)) N by rw [ep2]; exact vp_in_nI (by omega) (by omega)) ?_
          exact go _ _ _ _ _ _ ep2 ec ec2 (by rw [ew]; exact t1) (by rw [ew]; exact t2) _ _ (Or.inl ⟨rfl, rfl⟩)
        · refine hJ _ _ _ _ ?_
          refine And.intro (fun _ => ?_) (fun h => absurd (show Int32.ofInt (-100) < y by rw [Int32.lt_iff_toInt_lt, hy, show (Int32.ofInt (-100)).toInt = -100 by decide]; omega) h)
          refine And.intro (show vp_in (-y) 100 by rw [e1]; exact vp_in_nI h100 (by decide)) ?_
          refine And.intro (show vp_in (nI p + Int32.ofInt (-1)) N by rw [ep]; exact vp_in_nI (by omega) (by omega)) ?_
          refine And.intro (fun h => absurd (show Int32.ofInt (-9) ≤ y from h) (by rw [Int32.le_iff_toInt_le, hy, show (Int32.ofInt (-9)).toInt = -9 by decide]; omega)) (fun _ => ?_)
          refine And.intro (show vp_in (-y) 100 by rw [e1]; exact vp_in_nI h100 (by decide)) ?_
          refine And.intro (show vp_in (nI p + Int32.ofInt (-1) + Int32.ofInt (-1)) N by rw [ep2]; exact vp_in_nI (by omega) (by omega)) ?_
          exact go _ _ _ _ _ _ ep2 ec ec2 (by rw [ew]; exact t1) (by rw [ew]; exact t2) _ _ (Or.inr ⟨u, v, rfl, rfl⟩)
    · obtain ⟨t1, t2⟩ := j_tab (w % 100) (Nat.mod_lt _ (by decide))
      have hd : sb_dg w = sb_dg (w / 100) + 2 := by
        by_cases e : w < 2 ^ 31
        · exact sb_dg100 (by omega) e
        · obtain rfl : w = 2 ^ 31 := by omega
          decide
      have hd2 := (sb_dg_in (w / 100)).1
      have er := j_rem hy hw
      have er2 : (y / Int32.ofInt 100 * Int32.ofInt 100 - y).toNatClampNeg = w % 100 := by rw [er]; exact nI_clamp (by omega)
      rw [show w % 100 % 10 = w % 10 by omega] at t1
      rw [show w % 100 / 10 = w / 10 % 10 by omega] at t2
      have ep : nI p + Int32.ofInt (-1) = nI (p - 1) := sb_m1 (by omega)
      have ec : (nI p + Int32.ofInt (-1)).toNatClampNeg = p - 1 := by rw [ep]; exact nI_clamp (by omega)
      have ep2 : nI p + Int32.ofInt (-1) + Int32.ofInt (-1) = nI (p - 1 - 1) := by rw [ep]; exact sb_m1 (by omega)
      have ec2 : (nI p + Int32.ofInt (-1) + Int32.ofInt (-1)).toNatClampNeg = p - 1 - 1 := by rw [ep2]; exact nI_clamp (by omega)
      have go : ∀ (z : Int32) (i i2 : Nat) (c c2 u v : Int32), z = nI (p - 1 - 1) → i = p - 1 → i2 = p - 1 - 1 → c = sb_b (48 + w % 10) → c2 = sb_b (48 + w / 10 % 10) → J 13 [some (.int (y / Int32.ofInt 100)), some (.int x1), some (.ref 1), some (.int u), some (.int v), some (.int z), some (.int (nI sg))] [] ([o0, bB N (upd (upd g i c) i2 c2)], bc, bs, op) := by
        rintro z i i2 c c2 u v rfl rfl rfl rfl rfl
        refine ih (w / 100) (p - 1 - 1) _ _ _ _ (Or.inr ⟨u, v, rfl, rfl⟩) (by omega) (by omega) (j_div hy hw) (by omega) (by omega) (fun g' h1 h2 h4 h3 => ?_)
        refine hP g' (fun j hj => by rw [h1 j (by omega), pk_un (by omega), pk_un (by omega)]) (fun i hi => ?_) h4 (fun hf => h3 (sb_fitU (sb_fitU hf (sb_fitB _)) (sb_fitB _)))
        match i, hi with
        | 0, _ => rw [Nat.sub_zero, h1 _ (by omega), pk_un (by omega), pk_us, Nat.pow_zero, Nat.div_one]
        | 1, _ => rw [h1 _ (by omega), pk_us, Nat.pow_one]
        | k + 2, hi =>
          rw [show p - 1 - (k + 2) = p - 1 - 1 - 1 - k by omega, h2 k (by omega), Nat.div_div_eq_div_mul, show 100 * 10 ^ k = 10 ^ (k + 2) by rw [show k + 2 = k + 1 + 1 from rfl, Nat.pow_succ, Nat.pow_succ]; omega]
      rcases ha with ⟨rfl, rfl⟩ | ⟨u, v, rfl, rfl⟩
      · refine hJ _ _ _ _ ?_
        refine And.intro (fun h => absurd (show Int32.ofInt (-100) < y from h) (by rw [Int32.lt_iff_toInt_lt, hy, show (Int32.ofInt (-100)).toInt = -100 by decide]; omega)) (fun _ => ?_)
        refine And.intro (by decide) ?_
        refine And.intro (show vp_in (y / Int32.ofInt 100 * Int32.ofInt 100 - y) 100 by rw [er]; exact vp_in_nI (by omega) (by decide)) ?_
        refine And.intro (show vp_in (nI p + Int32.ofInt (-1)) N by rw [ep]; exact vp_in_nI (by omega) (by omega)) ?_
        refine And.intro (show vp_in (y / Int32.ofInt 100 * Int32.ofInt 100 - y) 100 by rw [er]; exact vp_in_nI (by omega) (by decide)) ?_
        refine And.intro (show vp_in (nI p + Int32.ofInt (-1) + Int32.ofInt (-1)) N by rw [ep2]; exact vp_in_nI (by omega) (by omega)) ?_
        exact go _ _ _ _ _ _ _ ep2 ec ec2 (by rw [er2]; exact t1) (by rw [er2]; exact t2)
      · refine hJ _ _ _ _ ?_
        refine And.intro (fun h => absurd (show Int32.ofInt (-100) < y from h) (by rw [Int32.lt_iff_toInt_lt, hy, show (Int32.ofInt (-100)).toInt = -100 by decide]; omega)) (fun _ => ?_)
        refine And.intro (by decide) ?_
        refine And.intro (show vp_in (y / Int32.ofInt 100 * Int32.ofInt 100 - y) 100 by rw [er]; exact vp_in_nI (by omega) (by decide)) ?_
        refine And.intro (show vp_in (nI p + Int32.ofInt (-1)) N by rw [ep]; exact vp_in_nI (by omega) (by omega)) ?_
        refine And.intro (show vp_in (y / Int32.ofInt 100 * Int32.ofInt 100 - y) 100 by rw [er]; exact vp_in_nI (by omega) (by decide)) ?_
        refine And.intro (show vp_in (nI p + Int32.ofInt (-1) + Int32.ofInt (-1)) N by rw [ep2]; exact vp_in_nI (by omega) (by omega)) ?_
        exact go _ _ _ _ _ _ _ ep2 ec ec2 (by rw [er2]; exact t1) (by rw [er2]; exact t2)
theorem j_getChars1 {o0 : mj_O} {x px : Int32} {n0 p : Nat} (hpx : px = nI p) (hN : N ≤ 65536) (hp : p = n0 + isz x) (hpN : p ≤ N)
    (hP : ∀ g', (∀ j, j < n0 ∨ p ≤ j → g' j = g j) → (∀ i, i < isz x → g' (n0 + i) = sb_b (ich x i)) → (sb_Fit g → sb_Fit g') → Q (.inl (some (.int (nI n0))), ([o0, bB N g'], bc, bs, op))) :
    mj_Mt gT (law_cst xs) gnw (m + 1) y_Integer_getChars [.int x, .int px, .ref 1] ([o0, bB N g], bc, bs, op) Q := by
  subst hpx
  have hw := aw_le x
  have hdi := sb_dg_in (aw x)
  intro J hJ
  refine hJ _ _ _ _ ?_
  refine And.intro (fun (h : 0 ≤ x) => ?_) (fun (h : ¬ 0 ≤ x) => ?_)
  · have hn : ¬ x < 0 := Int32.not_lt.mpr h
    have e : isz x = sb_dg (aw x) := by unfold isz; rw [if_neg hn]; omega
    have hy : (-x).toInt = -((aw x : Nat) : Int) := by
      rw [Int32.lt_iff_toInt_lt, Int32.toInt_zero] at hn
      have h1 := x.toInt_lt
      unfold aw
      rw [Int32.toInt_neg]
      rw [show (x.toInt.natAbs : Int) = x.toInt by omega]
      apply Int.bmod_eq_of_le <;> omega
    refine And.intro (fun h9 => absurd rfl h9) (fun _ => ?_)
    refine j_charsLoop1 hJ (sg := 0) (n0 := n0) (by omega) hN (aw x + 1) (aw x) p (-x) g none none (Or.inl ⟨rfl, rfl⟩) (by omega) hw hy (by omega) hpN (fun g' h1 h2 _ h3 => hP g' h1 (fun i hi => ?_) h3)
    have h9 := h2 (sb_dg (aw x) - 1 - i) (by omega)
    rw [show p - 1 - (sb_dg (aw x) - 1 - i) = n0 + i by omega] at h9
    rw [h9]
    unfold ich sb_dec
    rw [if_neg hn]
  · have hn : x < 0 := Int32.not_le.mp h
    have e : isz x = sb_dg (aw x) + 1 := by unfold isz; rw [if_pos hn]
    have hy : x.toInt = -((aw x : Nat) : Int) := by
      have hn2 := hn
      rw [Int32.lt_iff_toInt_lt, Int32.toInt_zero] at hn2
      unfold aw
      omega
    refine And.intro (fun _ => ?_) (fun h9 => absurd h9 (by decide))
    refine j_charsLoop1 hJ (sg := 1) (n0 := n0) (by omega) hN (aw x + 1) (aw x) p x g none none (Or.inl ⟨rfl, rfl⟩) (by omega) hw hy (by omega) hpN (fun g' h1 h2 h4 h3 => hP g' h1 (fun i hi => ?_) h3)
    by_cases hi0 : i = 0
    · subst hi0
      rw [Nat.add_zero, h4 rfl]
      unfold ich
      rw [if_pos hn, if_pos rfl]
    · have h9 := h2 (sb_dg (aw x) - 1 - (i - 1)) (by omega)
      rw [show p - 1 - (sb_dg (aw x) - 1 - (i - 1)) = n0 + i by omega] at h9
      rw [h9]
      unfold ich sb_dec
      rw [if_pos hn, if_neg hi0]
theorem j_charsLoop2 {o0 o1 : mj_O} {J : Nat → mj_L → List Value → mj_H → Prop} (hJ : ∀ pc ls st h, mj_sg (mj_Mt gT (law_cst xs) gnw m) (law_cst xs) gnw (mj_hd (mj_off kO_Integer_getChars) kH_Integer_getChars) kC_Integer_getChars J Q 400 true pc ls st h → J pc ls st h) {x1 : Int32} {sg n0 : Nat} (hsg : sg ≤ 1) (hN : N ≤ 65536) :
    ∀ (f w p : Nat) (y : Int32) (g : Nat → Int32) (a3 a4 : Option Value), (a3 = none ∧ a4 = none ∨ ∃ u v : Int32, a3 = some (.int u) ∧ a4 = some (.int v)) → w < f → w ≤ 2 ^ 31 → y.toInt = -(w : Int) → p = n0 + sg + sb_dg w → p ≤ N →
    (∀ g', (∀ j, j < n0 ∨ p ≤ j → g' j = g j) → (∀ i, i < sb_dg w → g' (p - 1 - i) = sb_b (48 + w / 10 ^ i % 10)) → (sg = 1 → g' n0 = sb_b 45) → (sb_Fit g → sb_Fit g') → Q (.inl (some (.int (nI n0))), ([o0, o1, bB N g'], bc, bs, op))) →
    J 13 [some (.int y), some (.int x1), some (.ref 2), a3, a4, some (.int (nI p)), some (.int (nI sg))] [] ([o0, o1, bB N g], bc, bs, op) := by
  intro f
  induction f with
  | zero =>
    intro w p y g a3 a4 ha h
    omega
  | succ f ih =>
    intro w p y g a3 a4 ha hwf hw hy hp hpN hP
    have hd1 := (sb_dg_in w).1
    have fin : ∀ (F q : Nat) (g2 : Nat → Int32), q = n0 + sg → (∀ g', (∀ j, j < n0 ∨ q ≤ j → g' j = g2 j) → (sg = 1 → g' n0 = sb_b 45) → (sb_Fit g2 → sb_Fit g') → Q (.inl (some (.int (nI n0))), ([o0, o1, bB N g'], bc, bs, op))) → ∀ (a3 a4 : Option Value), (a3 = none ∧ a4 = none ∨ ∃ u v : Int32, a3 = some (.int u) ∧ a4 = some (.int v)) → mj_sg (mj_Mt gT (law_cst xs) gnw m) (law_cst xs) gnw (mj_hd (mj_off kO_Integer_getChars) kH_Integer_getChars) kC_Integer_getChars J Q (F + 20) false 62 [some (.int y), some (.int x1), some (.ref 2), a3, a4, some (.int (nI q)), some (.int (nI sg))] [] ([o0, o1, bB N g2], bc, bs, op) := by
      intro F q g2 hq hP2 a3 a4 ha
      refine And.intro (fun h0 => ?_) (fun h0 => ?_)
      · have h0 : sg = 0 := (nI_eq (a := sg) (b := 0) (by omega) (by decide)).mp h0
        subst h0
        obtain rfl : q = n0 := by omega
        exact hP2 g2 (fun _ _ => rfl) (fun h => by omega) (fun h => h)
      · have h1 : sg = 1 := by
          rcases (show sg = 0 ∨ sg = 1 by omega) with e | e
          · subst e
            exact absurd rfl h0
          · exact e
        subst h1
        subst hq
        rcases ha with ⟨rfl, rfl⟩ | ⟨u, v, rfl, rfl⟩
        all_goals
          refine And.intro (show vp_in (nI (n0 + 1) + (-1)) N by rw [pk_m1]; exact vp_in_nI (by omega) (by omega)) ?_
          have key : ∀ (z : Int32) (i : Nat) (c : Int32), z = nI n0 → i = n0 → c = sb_b 45 → Q (.inl (some (.int z)), ([o0, o1, bB N (upd g2 i c)], bc, bs, op)) := by
            rintro z i c rfl rfl rfl
            exact hP2 _ (fun j hj => pk_un (by omega)) (fun _ => pk_us) (fun hf => sb_fitU hf (sb_fitB _))
          exact key _ _ _ (pk_m1 n0) (by rw [show nI (n0 + 1) + Int32.ofInt (-1) = nI n0 from pk_m1 n0, nI_clamp (by omega)]) (by decide)
    by_cases h100 : w < 100
    · obtain ⟨t1, t2⟩ := j_tab w h100
      have e1 := j_neg hy (by omega)
      have ew : (-y).toNatClampNeg = w := by rw [e1]; exact nI_clamp (by omega)
      have ep : nI p + Int32.ofInt (-1) = nI (p - 1) := sb_m1 (by omega)
      have ec : (nI p + Int32.ofInt (-1)).toNatClampNeg = p - 1 := by rw [ep]; exact nI_clamp (by omega)
      by_cases h9 : w < 10
      · have hd : sb_dg w = 1 := if_pos h9
        have go : ∀ (F : Nat) (z : Int32) (i : Nat) (c : Int32), z = nI (p - 1) → i = p - 1 → c = sb_b (48 + w % 10) → ∀ (a3 a4 : Option Value), (a3 = none ∧ a4 = none ∨ ∃ u v : Int32, a3 = some (.int u) ∧ a4 = some (.int v)) → mj_sg (mj_Mt gT (law_cst xs) gnw m) (law_cst xs) gnw (mj_hd (mj_off kO_Integer_getChars) kH_Integer_getChars) kC_Integer_getChars J Q (F + 20) false 62 [some (.int y), some (.int x1), some (.ref 2), a3, a4, some (.int z), some (.int (nI sg))] [] ([o0, o1, bB N (upd g i c)], bc, bs, op) := by
          rintro F z i c rfl rfl rfl a3 a4 ha
          refine fin F (p - 1) _ (by omega) (fun g' h1 h2 h3 => hP g' (fun j hj => ?_) (fun i hi => ?_) h2 (fun hf => h3 (sb_fitU hf (sb_fitB _)))) a3 a4 ha
          · rw [h1 j (by omega), pk_un (by omega)]
          · obtain rfl : i = 0 := by omega
            rw [Nat.sub_zero, h1 _ (by omega), pk_us, Nat.pow_zero, Nat.div_one]
        rcases ha with ⟨rfl, rfl⟩ | ⟨u, v, rfl, rfl⟩
        · refine hJ _ _ _ _ ?_
          refine And.intro (fun _ => ?_) (fun h => absurd (show Int32.ofInt (-100) < y by rw [Int32.lt_iff_toInt_lt, hy, show (Int32.ofInt (-100)).toInt = -100 by decide]; omega) h)
          refine And.intro (show vp_in (-y) 100 by rw [e1]; exact vp_in_nI h100 (by decide)) ?_
          refine And.intro (show vp_in (nI p + Int32.ofInt (-1)) N by rw [ep]; exact vp_in_nI (by omega) (by omega)) ?_
          refine And.intro (fun _ => ?_) (fun h => absurd (show Int32.ofInt (-9) ≤ y by rw [Int32.le_iff_toInt_le, hy, show (Int32.ofInt (-9)).toInt = -9 by decide]; omega) h)
          exact go _ _ _ _ ep ec (by rw [ew]; exact t1) _ _ (Or.inl ⟨rfl, rfl⟩)
        · refine hJ _ _ _ _ ?_
          refine And.intro (fun _ => ?_) (fun h => absurd (show Int32.ofInt (-100) < y by rw [Int32.lt_iff_toInt_lt, hy, show (Int32.ofInt (-100)).toInt = -100 by decide]; omega) h)
          refine And.intro (show vp_in (-y) 100 by rw [e1]; exact vp_in_nI h100 (by decide)) ?_
          refine And.intro (show vp_in (nI p + Int32.ofInt (-1)) N by rw [ep]; exact vp_in_nI (by omega) (by omega)) ?_
          refine And.intro (fun _ => ?_) (fun h => absurd (show Int32.ofInt (-9) ≤ y by rw [Int32.le_iff_toInt_le, hy, show (Int32.ofInt (-9)).toInt = -9 by decide]; omega) h)
          exact go _ _ _ _ ep ec (by rw [ew]; exact t1) _ _ (Or.inr ⟨u, v, rfl, rfl⟩)
      · have hd : sb_dg w = 2 := by rw [sb_dg, if_neg h9, if_pos h100]
        have d2 : w / 10 % 10 = w / 10 := by omega
        have ep2 : nI p + Int32.ofInt (-1) + Int32.ofInt (-1) = nI (p - 1 - 1) := by rw [ep]; exact sb_m1 (by omega)
        have ec2 : (nI p + Int32.ofInt (-1) + Int32.ofInt (-1)).toNatClampNeg = p - 1 - 1 := by rw [ep2]; exact nI_clamp (by omega)
        have go : ∀ (F : Nat) (z : Int32) (i i2 : Nat) (c c2 : Int32), z = nI (p - 1 - 1) → i = p - 1 → i2 = p - 1 - 1 → c = sb_b (48 + w % 10) → c2 = sb_b (48 + w / 10) → ∀ (a3 a4 : Option Value), (a3 = none ∧ a4 = none ∨ ∃ u v : Int32, a3 = some (.int u) ∧ a4 = some (.int v)) → mj_sg (mj_Mt gT (law_cst xs) gnw m) (law_cst xs) gnw (mj_hd (mj_off kO_Integer_getChars) kH_Integer_getChars) kC_Integer_getChars J Q (F + 20) false 62 [some (.int y), some (.int x1), some (.ref 2), a3, a4, some (.int z), some (.int (nI sg))] [] ([o0, o1, bB N (upd (upd g i c) i2 c2)], bc, bs, op) := by
          rintro F z i i2 c c2 rfl rfl rfl rfl rfl a3 a4 ha
          refine fin F (p - 1 - 1) _ (by omega) (fun g' h1 h2 h3 => hP g' (fun j hj => ?_) (fun i hi => ?_) h2 (fun hf => h3 (sb_fitU (sb_fitU hf (sb_fitB _)) (sb_fitB _)))) a3 a4 ha
          · rw [h1 j (by omega), pk_un (by omega), pk_un (by omega)]
          · obtain rfl | rfl : i = 0 ∨ i = 1 := by omega
            · rw [Nat.sub_zero, h1 _ (by omega), pk_un (by omega), pk_us, Nat.pow_zero, Nat.div_one]
            · rw [h1 _ (by omega), pk_us, Nat.pow_one, d2]
        rcases ha with ⟨rfl, rfl⟩ | ⟨u, v, rfl, rfl⟩
        · refine hJ _ _ _ _ ?_
          refine And.intro (fun _ => ?_) (fun h => absurd (show Int32.ofInt (-100) < y by rw [Int32.lt_iff_toInt_lt, hy, show (Int32.ofInt (-100)).toInt = -100 by decide]; omega) h)
          refine And.intro (show vp_in (-y) 100 by rw [e1]; exact vp_in_nI h100 (by decide)) ?_
          refine And.intro (show vp_in (nI p + Int32.ofInt (-1)) N by rw [ep]; exact vp_in_nI (by omega) (by omega)) ?_
          refine And.intro (fun h => absurd (show Int32.ofInt (-9) ≤ y from h) (by rw [Int32.le_iff_toInt_le, hy, show (Int32.ofInt (-9)).toInt = -9 by decide]; omega)) (fun _ => ?_)
          refine And.intro (show vp_in (-y) 100 by rw [e1]; exact vp_in_nI h100 (by decide)) ?_
          refine And.intro (show vp_in (nI p + Int32.ofInt (-1) + Int32.ofInt (-1)) N by rw [ep2]; exact vp_in_nI (by omega) (by omega)) ?_
          exact go _ _ _ _ _ _ ep2 ec ec2 (by rw [ew]; exact t1) (by rw [ew]; exact t2) _ _ (Or.inl ⟨rfl, rfl⟩)
        · refine hJ _ _ _ _ ?_
          refine And.intro (fun _ => ?_) (fun h => absurd (show Int32.ofInt (-100) < y by rw [Int32.lt_iff_toInt_lt, hy, show (Int32.ofInt (-100)).toInt = -100 by decide]; omega) h)
          refine And.intro (show vp_in (-y) 100 by rw [e1]; exact vp_in_nI h100 (by decide)) ?_
          refine And.intro (show vp_in (nI p + Int32.ofInt (-1)) N by rw [ep]; exact vp_in_nI (by omega) (by omega)) ?_
          refine And.intro (fun h => absurd (show Int32.ofInt (-9) ≤ y from h) (by rw [Int32.le_iff_toInt_le, hy, show (Int32.ofInt (-9)).toInt = -9 by decide]; omega)) (fun _ => ?_)
          refine And.intro (show vp_in (-y) 100 by rw [e1]; exact vp_in_nI h100 (by decide)) ?_
          refine And.intro (show vp_in (nI p + Int32.ofInt (-1) + Int32.ofInt (-1)) N by rw [ep2]; exact vp_in_nI (by omega) (by omega)) ?_
          exact go _ _ _ _ _ _ ep2 ec ec2 (by rw [ew]; exact t1) (by rw [ew]; exact t2) _ _ (Or.inr ⟨u, v, rfl, rfl⟩)
    · obtain ⟨t1, t2⟩ := j_tab (w % 100) (Nat.mod_lt _ (by decide))
      have hd : sb_dg w = sb_dg (w / 100) + 2 := by
        by_cases e : w < 2 ^ 31
        · exact sb_dg100 (by omega) e
        · obtain rfl : w = 2 ^ 31 := by omega
          decide
      have hd2 := (sb_dg_in (w / 100)).1
      have er := j_rem hy hw
      have er2 : (y / Int32.ofInt 100 * Int32.ofInt 100 - y).toNatClampNeg = w % 100 := by rw [er]; exact nI_clamp (by omega)
      rw [show w % 100 % 10 = w % 10 by omega] at t1
      rw [show w % 100 / 10 = w / 10 % 10 by omega] at t2
      have ep : nI p + Int32.ofInt (-1) = nI (p - 1) := sb_m1 (by omega)
      have ec : (nI p + Int32.ofInt (-1)).toNatClampNeg = p - 1 := by rw [ep]; exact nI_clamp (by omega)
      have ep2 : nI p + Int32.ofInt (-1) + Int32.ofInt (-1) = nI (p - 1 - 1) := by rw [ep]; exact sb_m1 (by omega)
      have ec2 : (nI p + Int32.ofInt (-1) + Int32.ofInt (-1)).toNatClampNeg = p - 1 - 1 := by rw [ep2]; exact nI_clamp (by omega)
      have go : ∀ (z : Int32) (i i2 : Nat) (c c2 u v : Int32), z = nI (p - 1 - 1) → i = p - 1 → i2 = p - 1 - 1 → c = sb_b (48 + w % 10) → c2 = sb_b (48 + w / 10 % 10) → J 13 [some (.int (y / Int32.ofInt 100)), some (.int x1), some (.ref 2), some (.int u), some (.int v), some (.int z), some (.int (nI sg))] [] ([o0, o1, bB N (upd (upd g i c) i2 c2)], bc, bs, op) := by
        rintro z i i2 c c2 u v rfl rfl rfl rfl rfl
        refine ih (w / 100) (p - 1 - 1) _ _ _ _ (Or.inr ⟨u, v, rfl, rfl⟩) (by omega) (by omega) (j_div hy hw) (by omega) (by omega) (fun g' h1 h2 h4 h3 => ?_)
        refine hP g' (fun j hj => by rw [h1 j (by omega), pk_un (by omega), pk_un (by omega)]) (fun i hi => ?_) h4 (fun hf => h3 (sb_fitU (sb_fitU hf (sb_fitB _)) (sb_fitB _)))
        match i, hi with
        | 0, _ => rw [Nat.sub_zero, h1 _ (by omega), pk_un (by omega), pk_us, Nat.pow_zero, Nat.div_one]
        | 1, _ => rw [h1 _ (by omega), pk_us, Nat.pow_one]
        | k + 2, hi =>
          rw [show p - 1 - (k + 2) = p - 1 - 1 - 1 - k by omega, h2 k (by omega), Nat.div_div_eq_div_mul, show 100 * 10 ^ k = 10 ^ (k + 2) by rw [show k + 2 = k + 1 + 1 from rfl, Nat.pow_succ, Nat.pow_succ]; omega]
      rcases ha with ⟨rfl, rfl⟩ | ⟨u, v, rfl, rfl⟩
      · refine hJ _ _ _ _ ?_
        refine And.intro (fun h => absurd (show Int32.ofInt (-100) < y from h) (by rw [Int32.lt_iff_toInt_lt, hy, show (Int32.ofInt (-100)).toInt = -100 by decide]; omega)) (fun _ => ?_)
        refine And.intro (by decide) ?_
        refine And.intro (show vp_in (y / Int32.ofInt 100 * Int32.ofInt 100 - y) 100 by rw [er]; exact vp_in_nI (by omega) (by decide)) ?_
        refine And.intro (show vp_in (nI p + Int32.ofInt (-1)) N by rw [ep]; exact vp_in_nI (by omega) (by omega)) ?_
        refine And.intro (show vp_in (y / Int32.ofInt 100 * Int32.ofInt 100 - y) 100 by rw [er]; exact vp_in_nI (by omega) (by decide)) ?_
        refine And.intro (show vp_in (nI p + Int32.ofInt (-1) + Int32.ofInt (-1)) N by rw [ep2]; exact vp_in_nI (by omega) (by omega)) ?_
        exact go _ _ _ _ _ _ _ ep2 ec ec2 (by rw [er2]; exact t1) (by rw [er2]; exact t2)
      · refine hJ _ _ _ _ ?_
        refine And.intro (fun h => absurd (show Int32.ofInt (-100) < y from h) (by rw [Int32.lt_iff_toInt_lt, hy, show (Int32.ofInt (-100)).toInt = -100 by decide]; omega)) (fun _ => ?_)
        refine And.intro (by decide) ?_
        refine And.intro (show vp_in (y / Int32.ofInt 100 * Int32.ofInt 100 - y) 100 by rw [er]; exact vp_in_nI (by omega) (by decide)) ?_
        refine And.intro (show vp_in (nI p + Int32.ofInt (-1)) N by rw [ep]; exact vp_in_nI (by omega) (by omega)) ?_
        refine And.intro (show vp_in (y / Int32.ofInt 100 * Int32.ofInt 100 - y) 100 by rw [er]; exact vp_in_nI (by omega) (by decide)) ?_
        refine And.intro (show vp_in (nI p + Int32.ofInt (-1) + Int32.ofInt (-1)) N by rw [ep2]; exact vp_in_nI (by omega) (by omega)) ?_
        exact go _ _ _ _ _ _ _ ep2 ec ec2 (by rw [er2]; exact t1) (by rw [er2]; exact t2)
theorem j_getChars2 {o0 o1 : mj_O} {x px : Int32} {n0 p : Nat} (hpx : px = nI p) (hN : N ≤ 65536) (hp : p = n0 + isz x) (hpN : p ≤ N)
    (hP : ∀ g', (∀ j, j < n0 ∨ p ≤ j → g' j = g j) → (∀ i, i < isz x → g' (n0 + i) = sb_b (ich x i)) → (sb_Fit g → sb_Fit g') → Q (.inl (some (.int (nI n0))), ([o0, o1, bB N g'], bc, bs, op))) :
    mj_Mt gT (law_cst xs) gnw (m + 1) y_Integer_getChars [.int x, .int px, .ref 2] ([o0, o1, bB N g], bc, bs, op) Q := by
  subst hpx
  have hw := aw_le x
  have hdi := sb_dg_in (aw x)
  intro J hJ
  refine hJ _ _ _ _ ?_
  refine And.intro (fun (h : 0 ≤ x) => ?_) (fun (h : ¬ 0 ≤ x) => ?_)
  · have hn : ¬ x < 0 := Int32.not_lt.mpr h
    have e : isz x = sb_dg (aw x) := by unfold isz; rw [if_neg hn]; omega
    have hy : (-x).toInt = -((aw x : Nat) : Int) := by
      rw [Int32.lt_iff_toInt_lt, Int32.toInt_zero] at hn
      have h1 := x.toInt_lt
      unfold aw
      rw [Int32.toInt_neg]
      rw [show (x.toInt.natAbs : Int) = x.toInt by omega]
      apply Int.bmod_eq_of_le <;> omega
    refine And.intro (fun h9 => absurd rfl h9) (fun _ => ?_)
    refine j_charsLoop2 hJ (sg := 0) (n0 := n0) (by omega) hN (aw x + 1) (aw x) p (-x) g none none (Or.inl ⟨rfl, rfl⟩) (by omega) hw hy (by omega) hpN (fun g' h1 h2 _ h3 => hP g' h1 (fun i hi => ?_) h3)
    have h9 := h2 (sb_dg (aw x) - 1 - i) (by omega)
    rw [show p - 1 - (sb_dg (aw x) - 1 - i) = n0 + i by omega] at h9
    rw [h9]
    unfold ich sb_dec
    rw [if_neg hn]
  · have hn : x < 0 := Int32.not_le.mp h
    have e : isz x = sb_dg (aw x) + 1 := by unfold isz; rw [if_pos hn]
    have hy : x.toInt = -((aw x : Nat) : Int) := by
      have hn2 := hn
      rw [Int32.lt_iff_toInt_lt, Int32.toInt_zero] at hn2
      unfold aw
      omega
    refine And.intro (fun _ => ?_) (fun h9 => absurd h9 (by decide))
    refine j_charsLoop2 hJ (sg := 1) (n0 := n0) (by omega) hN (aw x + 1) (aw x) p x g none none (Or.inl ⟨rfl, rfl⟩) (by omega) hw hy (by omega) hpN (fun g' h1 h2 h4 h3 => hP g' h1 (fun i hi => ?_) h3)
    by_cases hi0 : i = 0
    · subst hi0
      rw [Nat.add_zero, h4 rfl]
      unfold ich
      rw [if_pos hn, if_pos rfl]
    · have h9 := h2 (sb_dg (aw x) - 1 - (i - 1)) (by omega)
      rw [show p - 1 - (sb_dg (aw x) - 1 - (i - 1)) = n0 + i by omega] at h9
      rw [h9]
      unfold ich sb_dec
      rw [if_pos hn, if_neg hi0]
end J2
end
section
section J3
variable {cst : Nat → Option (Nat × (Nat → Int32))} {m bc bs : Nat} {op : Bool} {Q : mj_R → Prop} {ml : Int32} {n N : Nat} {g : Nat → Int32} {os : List mj_O} {xs : List Int32}
set_option maxRecDepth 10000
theorem j_asb_appendC {c : Nat} (hc : c < 256) (hn : n ≤ N) (hN : N ≤ 65536) (hq : n + 1 ≤ 900) (hf : sb_Fit g) (hb : 2 * (n + 1) ≤ bs) (h1 : n + 1 ≤ N → Q (.inl (some (.ref 0)), ([bO 1 ml (n + 1), bB N (upd g n (sb_b c))], bc + 1, bs, true))) (h2 : N < n + 1 → sb_cap (n + 1) N ≤ 2 * (n + 1) → Q (.inl (some (.ref 0)), ([bO 2 ml (n + 1), bB N g, bB (sb_cap (n + 1) N) (upd (va_cpy g (fun _ => 0) 0 0 N) n (sb_b c))], bc, bs - sb_cap (n + 1) N, true))) : mj_Mt gT cst gnw (m + 4) y_AbstractStringBuilder_append_C [.ref 0, .int (nI c)] ([bO 1 ml n, bB N g], bc + 1, bs, true) Q := by
  have ec : (nI n).toNatClampNeg = n := nI_clamp (by omega)
  have ev : vp_nar .byte (nI c).toInt8.toInt32 = sb_b c := pk_vb (nI c)
  intro J hJ
  refine hJ _ _ _ _ ?_
  refine j_ensure (q := n + 1) (nI_1 n) hq hN hf hb (fun hl => ?_) (fun hl hk => ?_)
  · have hcg := sb_cap_ge (n + 1) N
    refine j_isLatin1 ?_
    refine And.intro (fun h => absurd h (by decide)) (fun _ => ?_)
    refine j_canEncodeC hc ?_
    refine And.intro (fun h => absurd h (by decide)) (fun _ => ?_)
    refine And.intro (vp_in_nI (by omega) (by omega)) ?_
    have key : ∀ (x : Int32) (i : Nat) (y : Int32), x = nI (n + 1) → i = n → y = sb_b c → Q (.inl (some (.ref 0)), ([.inr (.inl (9, [.ref 1, .int 0, .int ml, .int x])), bB N (upd g i y)], bc + 1, bs, true)) := by
      rintro x i y rfl rfl rfl
      exact h1 hl
    exact key _ _ _ (nI_1 n) ec ev
  · have hcg := sb_cap_ge (n + 1) N
    refine j_isLatin1 ?_
    refine And.intro (fun h => absurd h (by decide)) (fun _ => ?_)
    refine j_canEncodeC hc ?_
    refine And.intro (fun h => absurd h (by decide)) (fun _ => ?_)
    refine And.intro (vp_in_nI (by omega) (by omega)) ?_
    have key : ∀ (x : Int32) (i : Nat) (y : Int32), x = nI (n + 1) → i = n → y = sb_b c → Q (.inl (some (.ref 0)), ([.inr (.inl (9, [.ref 2, .int 0, .int ml, .int x])), bB N g, bB (sb_cap (n + 1) N) (upd (va_cpy g (fun _ => 0) 0 0 N) i y)], bc, bs - sb_cap (n + 1) N, true)) := by
      rintro x i y rfl rfl rfl
      exact h2 hl hk
    exact key _ _ _ (nI_1 n) ec ev
theorem j_appendC {c : Nat} (hc : c < 256) (hn : n ≤ N) (hN : N ≤ 65536) (hq : n + 1 ≤ 900) (hf : sb_Fit g) (hb : 2 * (n + 1) ≤ bs) (h1 : n + 1 ≤ N → Q (.inl (some (.ref 0)), ([bO 1 ml (n + 1), bB N (upd g n (sb_b c))], bc + 1, bs, true))) (h2 : N < n + 1 → sb_cap (n + 1) N ≤ 2 * (n + 1) → Q (.inl (some (.ref 0)), ([bO 2 ml (n + 1), bB N g, bB (sb_cap (n + 1) N) (upd (va_cpy g (fun _ => 0) 0 0 N) n (sb_b c))], bc, bs - sb_cap (n + 1) N, true))) : mj_Mt gT cst gnw (m + 5) y_StringBuilder_append_C [.ref 0, .int (nI c)] ([bO 1 ml n, bB N g], bc + 1, bs, true) Q := by
  intro J hJ
  refine hJ _ _ _ _ ?_
  refine j_asb_appendC hc hn hN hq hf hb (fun hl => ?_) (fun hl hk => ?_)
  · exact h1 hl
  · exact h2 hl hk
theorem j_asb_appendI {x : Int32} (hn : n ≤ N) (hN : N ≤ 65536) (hq : n + isz x ≤ 900) (hf : sb_Fit g) (hb : 2 * (n + isz x) ≤ bs) (h1 : n + isz x ≤ N → ∀ g', (∀ j, j < n → g' j = g j) → (∀ i, i < isz x → g' (n + i) = sb_b (ich x i)) → sb_Fit g' → Q (.inl (some (.ref 0)), ([bO 1 ml (n + isz x), bB N g'], bc + 1, bs, true))) (h2 : N < n + isz x → sb_cap (n + isz x) N ≤ 2 * (n + isz x) → ∀ g', (∀ j, j < n → g' j = g j) → (∀ i, i < isz x → g' (n + i) = sb_b (ich x i)) → sb_Fit g' → Q (.inl (some (.ref 0)), ([bO 2 ml (n + isz x), bB N g, bB (sb_cap (n + isz x) N) g'], bc, bs - sb_cap (n + isz x) N, true))) : mj_Mt gT (law_cst xs) gnw (m + 4) y_AbstractStringBuilder_append_I [.ref 0, .int x] ([bO 1 ml n, bB N g], bc + 1, bs, true) Q := by
  have hsz := isz_in x
  have ea : nI n + nI (isz x) = nI (n + isz x) := nI_add n (isz x)
  intro J hJ
  refine hJ _ _ _ _ ?_
  refine j_stringSize ?_
  refine j_ensure (q := n + isz x) ea hq hN hf hb (fun hl => ?_) (fun hl hk => ?_)
  · have hcg := sb_cap_ge (n + isz x) N
    refine j_isLatin1 ?_
    refine And.intro (fun h => absurd h (by decide)) (fun _ => ?_)
    refine j_getChars1 (n0 := n) (p := n + isz x) ea (by omega) rfl (by omega) (fun g' q1 q2 q3 => ?_)
    have key : ∀ (z : Int32), z = nI (n + isz x) → Q (.inl (some (.ref 0)), ([.inr (.inl (9, [.ref 1, .int 0, .int ml, .int z])), bB N g'], bc + 1, bs, true)) := by
      rintro z rfl
      refine h1 hl g' (fun j hj => ?_) q2 (q3 hf)
      rw [q1 j (Or.inl hj)]
    exact key _ ea
  · have hcg := sb_cap_ge (n + isz x) N
    refine j_isLatin1 ?_
    refine And.intro (fun h => absurd h (by decide)) (fun _ => ?_)
    refine j_getChars2 (n0 := n) (p := n + isz x) ea (by omega) rfl (by omega) (fun g' q1 q2 q3 => ?_)
    have key : ∀ (z : Int32), z = nI (n + isz x) → Q (.inl (some (.ref 0)), ([.inr (.inl (9, [.ref 2, .int 0, .int ml, .int z])), bB N g, bB (sb_cap (n + isz x) N) g'], bc, bs - sb_cap (n + isz x) N, true)) := by
      rintro z rfl
      refine h2 hl hk g' (fun j hj => ?_) q2 (q3 (sb_fitC hf sb_fit0))
      rw [q1 j (Or.inl hj), sb_cpy0 (by omega)]
    exact key _ ea
theorem j_appendI {x : Int32} (hn : n ≤ N) (hN : N ≤ 65536) (hq : n + isz x ≤ 900) (hf : sb_Fit g) (hb : 2 * (n + isz x) ≤ bs) (h1 : n + isz x ≤ N → ∀ g', (∀ j, j < n → g' j = g j) → (∀ i, i < isz x → g' (n + i) = sb_b (ich x i)) → sb_Fit g' → Q (.inl (some (.ref 0)), ([bO 1 ml (n + isz x), bB N g'], bc + 1, bs, true))) (h2 : N < n + isz x → sb_cap (n + isz x) N ≤ 2 * (n + isz x) → ∀ g', (∀ j, j < n → g' j = g j) → (∀ i, i < isz x → g' (n + i) = sb_b (ich x i)) → sb_Fit g' → Q (.inl (some (.ref 0)), ([bO 2 ml (n + isz x), bB N g, bB (sb_cap (n + isz x) N) g'], bc, bs - sb_cap (n + isz x) N, true))) : mj_Mt gT (law_cst xs) gnw (m + 5) y_StringBuilder_append_I [.ref 0, .int x] ([bO 1 ml n, bB N g], bc + 1, bs, true) Q := by
  intro J hJ
  refine hJ _ _ _ _ ?_
  refine j_asb_appendI hn hN hq hf hb (fun hl g' q1 q2 q3 => ?_) (fun hl hk g' q1 q2 q3 => ?_)
  · exact h1 hl g' q1 q2 q3
  · exact h2 hl hk g' q1 q2 q3
def stx2010 : Nat → Nat := fun i => ([32, 46, 32] : List Nat).getD i 0
theorem j_lat2010 : ∀ i, i < 3 → stx2010 i < 256 ∧ law_s2010.getD i 0 = sb_b (stx2010 i) := by decide +kernel
theorem j_fit2010 : sb_Fit (fun j => law_s2010.getD j 0) := fun j => by
  match j with
  | 0 => decide
  | 1 => decide
  | 2 => decide
  | j + 3 => exact (by decide : fits .byte (.int 0) = true)
theorem j_coder2010 (hQ : Q (.inl (some (.int 0)), (os, bc, bs, op))) : mj_Mt gT (law_cst xs) gnw (m + 1) y_String_coder [.ref 2010] (os, bc, bs, op) Q := by
  intro J hJ
  refine hJ _ _ _ _ ?_
  refine And.intro (fun h => absurd h (by decide)) (fun _ => ?_)
  exact And.intro (by decide) hQ
theorem j_slen2010 (hQ : Q (.inl (some (.int (nI 3))), (os, bc, bs, op))) : mj_Mt gT (law_cst xs) gnw (m + 2) y_String_length [.ref 2010] (os, bc, bs, op) Q := by
  intro J hJ
  refine hJ _ _ _ _ ?_
  refine j_coder2010 ?_
  rw [← sb_shr0 (nI 3)] at hQ
  exact hQ
theorem j_infl2010 {j : Nat} (hQ : Q (.inl none, (bO j ml n :: os, bc, bs, op))) : mj_Mt gT (law_cst xs) gnw (m + 2) y_AbstractStringBuilder_inflateIfNeededFor [.ref 0, .ref 2010] (bO j ml n :: os, bc, bs, op) Q := by
  intro J hJ
  refine hJ _ _ _ _ ?_
  refine And.intro (fun h => absurd h (by decide)) (fun _ => ?_)
  refine j_coder2010 ?_
  refine And.intro (fun _ => ?_) (fun h => absurd rfl h)
  exact hQ
theorem j_gb2010_1 (h : n + 3 ≤ N) (hN : N ≤ 65536) (hQ : Q (.inl none, ([bO 1 ml n, bB N (va_cpy (fun j => law_s2010.getD j 0) g 0 n 3)], bc, bs, op))) : mj_Mt gT (law_cst xs) gnw (m + 2) y_String_getBytes [.ref 2010, .ref 1, .int (nI n), .int 0] ([bO 1 ml n, bB N g], bc, bs, op) Q := by
  have e1 : (nI n <<< ((0 : Int32) &&& 31)).toNatClampNeg = n := by rw [sb_shl0]; exact nI_clamp (by omega)
  have e2 : (Int32.ofNat 3).toNatClampNeg = 3 := by decide
  have e0 : (Int32.ofInt 0).toNatClampNeg = 0 := by decide
  intro J hJ
  refine hJ _ _ _ _ ?_
  refine j_coder2010 ?_
  refine And.intro (fun h => absurd rfl h) (fun _ => ?_)
  refine And.intro (by decide) (And.intro (by decide) (And.intro (by decide) (And.intro (by rw [sb_shl0]; exact nI_pos (by omega)) (And.intro (by decide) (And.intro (by decide) (And.intro (by rw [e1, e2]; omega) (And.intro j_fit2010 ?_)))))))
  have key : ∀ (a b c : Nat), a = 0 → b = n → c = 3 → Q (.inl none, ([bO 1 ml n, bB N (va_cpy (fun j => law_s2010.getD j 0) g a b c)], bc, bs, op)) := by
    rintro a b c rfl rfl rfl
    exact hQ
  exact key _ _ _ e0 e1 e2
theorem j_pa2010_1 (h : n + 3 ≤ N) (hN : N ≤ 65536) (hQ : Q (.inl none, ([bO 1 ml n, bB N (va_cpy (fun j => law_s2010.getD j 0) g 0 n 3)], bc, bs, op))) : mj_Mt gT (law_cst xs) gnw (m + 3) y_AbstractStringBuilder_putStringAt [.ref 0, .int (nI n), .ref 2010] ([bO 1 ml n, bB N g], bc, bs, op) Q := by
  intro J hJ
  refine hJ _ _ _ _ ?_
  refine j_infl2010 ?_
  refine j_gb2010_1 h hN ?_
  exact hQ
theorem j_gb2010_2 {o1 : mj_O} (h : n + 3 ≤ N) (hN : N ≤ 65536) (hQ : Q (.inl none, ([bO 2 ml n, o1, bB N (va_cpy (fun j => law_s2010.getD j 0) g 0 n 3)], bc, bs, op))) : mj_Mt gT (law_cst xs) gnw (m + 2) y_String_getBytes [.ref 2010, .ref 2, .int (nI n), .int 0] ([bO 2 ml n, o1, bB N g], bc, bs, op) Q := by
  have e1 : (nI n <<< ((0 : Int32) &&& 31)).toNatClampNeg = n := by rw [sb_shl0]; exact nI_clamp (by omega)
  have e2 : (Int32.ofNat 3).toNatClampNeg = 3 := by decide
  have e0 : (Int32.ofInt 0).toNatClampNeg = 0 := by decide
  intro J hJ
  refine hJ _ _ _ _ ?_
  refine j_coder2010 ?_
  refine And.intro (fun h => absurd rfl h) (fun _ => ?_)
  refine And.intro (by decide) (And.intro (by decide) (And.intro (by decide) (And.intro (by rw [sb_shl0]; exact nI_pos (by omega)) (And.intro (by decide) (And.intro (by decide) (And.intro (by rw [e1, e2]; omega) (And.intro j_fit2010 ?_)))))))
  have key : ∀ (a b c : Nat), a = 0 → b = n → c = 3 → Q (.inl none, ([bO 2 ml n, o1, bB N (va_cpy (fun j => law_s2010.getD j 0) g a b c)], bc, bs, op)) := by
    rintro a b c rfl rfl rfl
    exact hQ
  exact key _ _ _ e0 e1 e2
theorem j_pa2010_2 {o1 : mj_O} (h : n + 3 ≤ N) (hN : N ≤ 65536) (hQ : Q (.inl none, ([bO 2 ml n, o1, bB N (va_cpy (fun j => law_s2010.getD j 0) g 0 n 3)], bc, bs, op))) : mj_Mt gT (law_cst xs) gnw (m + 3) y_AbstractStringBuilder_putStringAt [.ref 0, .int (nI n), .ref 2010] ([bO 2 ml n, o1, bB N g], bc, bs, op) Q := by
  intro J hJ
  refine hJ _ _ _ _ ?_
  refine j_infl2010 ?_
  refine j_gb2010_2 h hN ?_
  exact hQ
theorem j_asb_appendS2010 (hn : n ≤ N) (hN : N ≤ 65536) (hq : n + 3 ≤ 900) (hf : sb_Fit g) (hb : 2 * (n + 3) ≤ bs) (h1 : n + 3 ≤ N → Q (.inl (some (.ref 0)), ([bO 1 ml (n + 3), bB N (va_cpy (fun j => law_s2010.getD j 0) g 0 n 3)], bc + 1, bs, true))) (h2 : N < n + 3 → sb_cap (n + 3) N ≤ 2 * (n + 3) → Q (.inl (some (.ref 0)), ([bO 2 ml (n + 3), bB N g, bB (sb_cap (n + 3) N) (va_cpy (fun j => law_s2010.getD j 0) (va_cpy g (fun _ => 0) 0 0 N) 0 n 3)], bc, bs - sb_cap (n + 3) N, true))) : mj_Mt gT (law_cst xs) gnw (m + 4) y_AbstractStringBuilder_append_S [.ref 0, .ref 2010] ([bO 1 ml n, bB N g], bc + 1, bs, true) Q := by
  have ea : nI n + nI 3 = nI (n + 3) := nI_add n 3
  intro J hJ
  refine hJ _ _ _ _ ?_
  refine j_slen2010 ?_
  refine j_ensure (q := n + 3) ea hq hN hf hb (fun hl => ?_) (fun hl hk => ?_)
  · have hcg := sb_cap_ge (n + 3) N
    refine j_pa2010_1 (by omega) (by omega) ?_
    have key : ∀ (z : Int32), z = nI (n + 3) → Q (.inl (some (.ref 0)), ([.inr (.inl (9, [.ref 1, .int 0, .int ml, .int z])), bB N (va_cpy (fun j => law_s2010.getD j 0) g 0 n 3)], bc + 1, bs, true)) := by
      rintro z rfl
      exact h1 hl
    exact key _ ea
  · have hcg := sb_cap_ge (n + 3) N
    refine j_pa2010_2 (by omega) (by omega) ?_
    have key : ∀ (z : Int32), z = nI (n + 3) → Q (.inl (some (.ref 0)), ([.inr (.inl (9, [.ref 2, .int 0, .int ml, .int z])), bB N g, bB (sb_cap (n + 3) N) (va_cpy (fun j => law_s2010.getD j 0) (va_cpy g (fun _ => 0) 0 0 N) 0 n 3)], bc, bs - sb_cap (n + 3) N, true)) := by
      rintro z rfl
      exact h2 hl hk
    exact key _ ea
theorem j_appendS2010 (hn : n ≤ N) (hN : N ≤ 65536) (hq : n + 3 ≤ 900) (hf : sb_Fit g) (hb : 2 * (n + 3) ≤ bs) (h1 : n + 3 ≤ N → Q (.inl (some (.ref 0)), ([bO 1 ml (n + 3), bB N (va_cpy (fun j => law_s2010.getD j 0) g 0 n 3)], bc + 1, bs, true))) (h2 : N < n + 3 → sb_cap (n + 3) N ≤ 2 * (n + 3) → Q (.inl (some (.ref 0)), ([bO 2 ml (n + 3), bB N g, bB (sb_cap (n + 3) N) (va_cpy (fun j => law_s2010.getD j 0) (va_cpy g (fun _ => 0) 0 0 N) 0 n 3)], bc, bs - sb_cap (n + 3) N, true))) : mj_Mt gT (law_cst xs) gnw (m + 5) y_StringBuilder_append_S [.ref 0, .ref 2010] ([bO 1 ml n, bB N g], bc + 1, bs, true) Q := by
  intro J hJ
  refine hJ _ _ _ _ ?_
  refine j_asb_appendS2010 hn hN hq hf hb (fun hl => ?_) (fun hl hk => ?_)
  · exact h1 hl
  · exact h2 hl hk
def stx2011 : Nat → Nat := fun i => ([40, 41] : List Nat).getD i 0
theorem j_lat2011 : ∀ i, i < 2 → stx2011 i < 256 ∧ law_s2011.getD i 0 = sb_b (stx2011 i) := by decide +kernel
theorem j_fit2011 : sb_Fit (fun j => law_s2011.getD j 0) := fun j => by
  match j with
  | 0 => decide
  | 1 => decide
  | j + 2 => exact (by decide : fits .byte (.int 0) = true)
theorem j_coder2011 (hQ : Q (.inl (some (.int 0)), (os, bc, bs, op))) : mj_Mt gT (law_cst xs) gnw (m + 1) y_String_coder [.ref 2011] (os, bc, bs, op) Q := by
  intro J hJ
  refine hJ _ _ _ _ ?_
  refine And.intro (fun h => absurd h (by decide)) (fun _ => ?_)
  exact And.intro (by decide) hQ
theorem j_slen2011 (hQ : Q (.inl (some (.int (nI 2))), (os, bc, bs, op))) : mj_Mt gT (law_cst xs) gnw (m + 2) y_String_length [.ref 2011] (os, bc, bs, op) Q := by
  intro J hJ
  refine hJ _ _ _ _ ?_
  refine j_coder2011 ?_
  rw [← sb_shr0 (nI 2)] at hQ
  exact hQ
theorem j_infl2011 {j : Nat} (hQ : Q (.inl none, (bO j ml n :: os, bc, bs, op))) : mj_Mt gT (law_cst xs) gnw (m + 2) y_AbstractStringBuilder_inflateIfNeededFor [.ref 0, .ref 2011] (bO j ml n :: os, bc, bs, op) Q := by
  intro J hJ
  refine hJ _ _ _ _ ?_
  refine And.intro (fun h => absurd h (by decide)) (fun _ => ?_)
  refine j_coder2011 ?_
  refine And.intro (fun _ => ?_) (fun h => absurd rfl h)
  exact hQ
theorem j_gb2011_1 (h : n + 2 ≤ N) (hN : N ≤ 65536) (hQ : Q (.inl none, ([bO 1 ml n, bB N (va_cpy (fun j => law_s2011.getD j 0) g 0 n 2)], bc, bs, op))) : mj_Mt gT (law_cst xs) gnw (m + 2) y_String_getBytes [.ref 2011, .ref 1, .int (nI n), .int 0] ([bO 1 ml n, bB N g], bc, bs, op) Q := by
  have e1 : (nI n <<< ((0 : Int32) &&& 31)).toNatClampNeg = n := by rw [sb_shl0]; exact nI_clamp (by omega)
  have e2 : (Int32.ofNat 2).toNatClampNeg = 2 := by decide
  have e0 : (Int32.ofInt 0).toNatClampNeg = 0 := by decide
  intro J hJ
  refine hJ _ _ _ _ ?_
  refine j_coder2011 ?_
  refine And.intro (fun h => absurd rfl h) (fun _ => ?_)
  refine And.intro (by decide) (And.intro (by decide) (And.intro (by decide) (And.intro (by rw [sb_shl0]; exact nI_pos (by omega)) (And.intro (by decide) (And.intro (by decide) (And.intro (by rw [e1, e2]; omega) (And.intro j_fit2011 ?_)))))))
  have key : ∀ (a b c : Nat), a = 0 → b = n → c = 2 → Q (.inl none, ([bO 1 ml n, bB N (va_cpy (fun j => law_s2011.getD j 0) g a b c)], bc, bs, op)) := by
    rintro a b c rfl rfl rfl
    exact hQ
  exact key _ _ _ e0 e1 e2
theorem j_pa2011_1 (h : n + 2 ≤ N) (hN : N ≤ 65536) (hQ : Q (.inl none, ([bO 1 ml n, bB N (va_cpy (fun j => law_s2011.getD j 0) g 0 n 2)], bc, bs, op))) : mj_Mt gT (law_cst xs) gnw (m + 3) y_AbstractStringBuilder_putStringAt [.ref 0, .int (nI n), .ref 2011] ([bO 1 ml n, bB N g], bc, bs, op) Q := by
  intro J hJ
  refine hJ _ _ _ _ ?_
  refine j_infl2011 ?_
  refine j_gb2011_1 h hN ?_
  exact hQ
theorem j_gb2011_2 {o1 : mj_O} (h : n + 2 ≤ N) (hN : N ≤ 65536) (hQ : Q (.inl none, ([bO 2 ml n, o1, bB N (va_cpy (fun j => law_s2011.getD j 0) g 0 n 2)], bc, bs, op))) : mj_Mt gT (law_cst xs) gnw (m + 2) y_String_getBytes [.ref 2011, .ref 2, .int (nI n), .int 0] ([bO 2 ml n, o1, bB N g], bc, bs, op) Q := by
  have e1 : (nI n <<< ((0 : Int32) &&& 31)).toNatClampNeg = n := by rw [sb_shl0]; exact nI_clamp (by omega)
  have e2 : (Int32.ofNat 2).toNatClampNeg = 2 := by decide
  have e0 : (Int32.ofInt 0).toNatClampNeg = 0 := by decide
  intro J hJ
  refine hJ _ _ _ _ ?_
  refine j_coder2011 ?_
  refine And.intro (fun h => absurd rfl h) (fun _ => ?_)
  refine And.intro (by decide) (And.intro (by decide) (And.intro (by decide) (And.intro (by rw [sb_shl0]; exact nI_pos (by omega)) (And.intro (by decide) (And.intro (by decide) (And.intro (by rw [e1, e2]; omega) (And.intro j_fit2011 ?_)))))))
  have key : ∀ (a b c : Nat), a = 0 → b = n → c = 2 → Q (.inl none, ([bO 2 ml n, o1, bB N (va_cpy (fun j => law_s2011.getD j 0) g a b c)], bc, bs, op)) := by
    rintro a b c rfl rfl rfl
    exact hQ
  exact key _ _ _ e0 e1 e2
theorem j_pa2011_2 {o1 : mj_O} (h : n + 2 ≤ N) (hN : N ≤ 65536) (hQ : Q (.inl none, ([bO 2 ml n, o1, bB N (va_cpy (fun j => law_s2011.getD j 0) g 0 n 2)], bc, bs, op))) : mj_Mt gT (law_cst xs) gnw (m + 3) y_AbstractStringBuilder_putStringAt [.ref 0, .int (nI n), .ref 2011] ([bO 2 ml n, o1, bB N g], bc, bs, op) Q := by
  intro J hJ
  refine hJ _ _ _ _ ?_
  refine j_infl2011 ?_
  refine j_gb2011_2 h hN ?_
  exact hQ
theorem j_asb_appendS2011 (hn : n ≤ N) (hN : N ≤ 65536) (hq : n + 2 ≤ 900) (hf : sb_Fit g) (hb : 2 * (n + 2) ≤ bs) (h1 : n + 2 ≤ N → Q (.inl (some (.ref 0)), ([bO 1 ml (n + 2), bB N (va_cpy (fun j => law_s2011.getD j 0) g 0 n 2)], bc + 1, bs, true))) (h2 : N < n + 2 → sb_cap (n + 2) N ≤ 2 * (n + 2) → Q (.inl (some (.ref 0)), ([bO 2 ml (n + 2), bB N g, bB (sb_cap (n + 2) N) (va_cpy (fun j => law_s2011.getD j 0) (va_cpy g (fun _ => 0) 0 0 N) 0 n 2)], bc, bs - sb_cap (n + 2) N, true))) : mj_Mt gT (law_cst xs) gnw (m + 4) y_AbstractStringBuilder_append_S [.ref 0, .ref 2011] ([bO 1 ml n, bB N g], bc + 1, bs, true) Q := by
  have ea : nI n + nI 2 = nI (n + 2) := nI_add n 2
  intro J hJ
  refine hJ _ _ _ _ ?_
  refine j_slen2011 ?_
  refine j_ensure (q := n + 2) ea hq hN hf hb (fun hl => ?_) (fun hl hk => ?_)
  · have hcg := sb_cap_ge (n + 2) N
    refine j_pa2011_1 (by omega) (by omega) ?_
    have key : ∀ (z : Int32), z = nI (n + 2) → Q (.inl (some (.ref 0)), ([.inr (.inl (9, [.ref 1, .int 0, .int ml, .int z])), bB N (va_cpy (fun j => law_s2011.getD j 0) g 0 n 2)], bc + 1, bs, true)) := by
      rintro z rfl
      exact h1 hl
    exact key _ ea
  · have hcg := sb_cap_ge (n + 2) N
    refine j_pa2011_2 (by omega) (by omega) ?_
    have key : ∀ (z : Int32), z = nI (n + 2) → Q (.inl (some (.ref 0)), ([.inr (.inl (9, [.ref 2, .int 0, .int ml, .int z])), bB N g, bB (sb_cap (n + 2) N) (va_cpy (fun j => law_s2011.getD j 0) (va_cpy g (fun _ => 0) 0 0 N) 0 n 2)], bc, bs - sb_cap (n + 2) N, true)) := by
      rintro z rfl
      exact h2 hl hk
    exact key _ ea
theorem j_appendS2011 (hn : n ≤ N) (hN : N ≤ 65536) (hq : n + 2 ≤ 900) (hf : sb_Fit g) (hb : 2 * (n + 2) ≤ bs) (h1 : n + 2 ≤ N → Q (.inl (some (.ref 0)), ([bO 1 ml (n + 2), bB N (va_cpy (fun j => law_s2011.getD j 0) g 0 n 2)], bc + 1, bs, true))) (h2 : N < n + 2 → sb_cap (n + 2) N ≤ 2 * (n + 2) → Q (.inl (some (.ref 0)), ([bO 2 ml (n + 2), bB N g, bB (sb_cap (n + 2) N) (va_cpy (fun j => law_s2011.getD j 0) (va_cpy g (fun _ => 0) 0 0 N) 0 n 2)], bc, bs - sb_cap (n + 2) N, true))) : mj_Mt gT (law_cst xs) gnw (m + 5) y_StringBuilder_append_S [.ref 0, .ref 2011] ([bO 1 ml n, bB N g], bc + 1, bs, true) Q := by
  intro J hJ
  refine hJ _ _ _ _ ?_
  refine j_asb_appendS2011 hn hN hq hf hb (fun hl => ?_) (fun hl hk => ?_)
  · exact h1 hl
  · exact h2 hl hk
variable {k : Nat → mj_L → List Value → mj_H → Prop} {pc : Nat} {ls : mj_L} {r : List Value} {osx : List mj_O} {a : Nat} {opx : Bool} {f : Nat → Nat}
theorem x_length (hk : k (pc + 1) ls (.int (nI n) :: r) ((mj_stn osx a (.inr (.inr (.inl (n, f))))), bc + 1, bs, false)) : ∀ (ml : Int32) (N : Nat) (g : Nat → Int32), n ≤ N → N ≤ 65536 → sb_Lat f n g → sb_Fit g → mj_Mt gT cst gnw (m + 2) y_StringBuilder_length (.ref 0 :: []) ([.inr (.inl (9, [.ref 1, .int 0, .int ml, .int (nI n)])), .inl (4, N, .inl g)], bc + 1, bs, true) (mj_bp k pc ls r (osx, bc + 1, bs, opx) a) := by
  intro ml N g hn hN hL hf
  refine j_length ?_
  refine Exists.intro 1 (Exists.intro N (Exists.intro g (Exists.intro n (Exists.intro f (Exists.intro ml (And.intro rfl (And.intro rfl (And.intro (by decide) (And.intro (by omega) (And.intro (by omega) (And.intro ?_ (And.intro ?_ ?_))))))))))))
  · exact hL
  · exact hf
  · exact hk
theorem x_charAt {i : Nat} (hi : i < n) (hk : k (pc + 1) ls (.int (nI (f i)) :: r) ((mj_stn osx a (.inr (.inr (.inl (n, f))))), bc + 1, bs, false)) : ∀ (ml : Int32) (N : Nat) (g : Nat → Int32), n ≤ N → N ≤ 65536 → sb_Lat f n g → sb_Fit g → mj_Mt gT cst gnw (m + 4) y_StringBuilder_charAt (.ref 0 :: [.int (nI i)]) ([.inr (.inl (9, [.ref 1, .int 0, .int ml, .int (nI n)])), .inl (4, N, .inl g)], bc + 1, bs, true) (mj_bp k pc ls r (osx, bc + 1, bs, opx) a) := by
  intro ml N g hn hN hL hf
  refine j_charAt hn hN hL hi ?_
  refine Exists.intro 1 (Exists.intro N (Exists.intro g (Exists.intro n (Exists.intro f (Exists.intro ml (And.intro rfl (And.intro rfl (And.intro (by decide) (And.intro (by omega) (And.intro (by omega) (And.intro ?_ (And.intro ?_ ?_))))))))))))
  · exact hL
  · exact hf
  · exact hk
theorem x_setLength (hk : ∀ f', k (pc + 1) ls r ((mj_stn osx a (.inr (.inr (.inl (0, f'))))), bc + 1, bs, false)) : ∀ (ml : Int32) (N : Nat) (g : Nat → Int32), n ≤ N → N ≤ 65536 → sb_Lat f n g → sb_Fit g → mj_Mt gT cst gnw (m + 5) y_StringBuilder_setLength (.ref 0 :: [.int 0]) ([.inr (.inl (9, [.ref 1, .int 0, .int ml, .int (nI n)])), .inl (4, N, .inl g)], bc + 1, bs, true) (mj_bp k pc ls r (osx, bc + 1, bs, opx) a) := by
  intro ml N g hn hN hL hf
  refine j_setLength hn hN hf (fun ml' => ?_)
  refine Exists.intro 1 (Exists.intro N (Exists.intro g (Exists.intro 0 (Exists.intro f (Exists.intro ml' (And.intro rfl (And.intro rfl (And.intro (by decide) (And.intro (by omega) (And.intro (by omega) (And.intro ?_ (And.intro ?_ ?_))))))))))))
  · exact fun j hj => absurd hj (by omega)
  · exact hf
  · exact hk f
theorem x_appendC {c : Nat} {y : Int32} (hy : y = nI c) (hc : c < 256) (hq : n + 1 ≤ 900) (hb : 2 * (n + 1) ≤ bs) (hk : ∀ b0 b1, bc ≤ b0 → bs ≤ b1 + 2 * (n + 1) → k (pc + 1) ls (.ref a :: r) ((mj_stn osx a (.inr (.inr (.inl (n + 1, sb_cat f n (fun _ => c)))))), b0, b1, false)) : ∀ (ml : Int32) (N : Nat) (g : Nat → Int32), n ≤ N → N ≤ 65536 → sb_Lat f n g → sb_Fit g → mj_Mt gT cst gnw (m + 5) y_StringBuilder_append_C (.ref 0 :: [.int y]) ([.inr (.inl (9, [.ref 1, .int 0, .int ml, .int (nI n)])), .inl (4, N, .inl g)], bc + 1, bs, true) (mj_bp k pc ls r (osx, bc + 1, bs, opx) a) := by
  subst hy
  intro ml N g hn hN hL hf
  refine j_appendC hc hn hN hq hf hb (fun hl => ?_) (fun hl h9 => ?_)
  · refine Exists.intro 1 (Exists.intro N (Exists.intro (upd g n (sb_b c)) (Exists.intro (n + 1) (Exists.intro (sb_cat f n (fun _ => c)) (Exists.intro ml (And.intro rfl (And.intro rfl (And.intro (by decide) (And.intro (by omega) (And.intro (by omega) (And.intro ?_ (And.intro ?_ ?_))))))))))))
    · refine sb_latPut hL (fun j hj => pk_un (by omega)) (fun i hi => ?_)
      obtain rfl : i = 0 := by omega
      exact ⟨hc, pk_us⟩
    · exact sb_fitU hf (sb_fitB _)
    · exact hk _ _ (by omega) (by omega)
  · have hcg := sb_cap_ge (n + 1) N
    refine Exists.intro 2 (Exists.intro (sb_cap (n + 1) N) (Exists.intro (upd (va_cpy g (fun _ => 0) 0 0 N) n (sb_b c)) (Exists.intro (n + 1) (Exists.intro (sb_cat f n (fun _ => c)) (Exists.intro ml (And.intro rfl (And.intro rfl (And.intro (by decide) (And.intro (by omega) (And.intro (by omega) (And.intro ?_ (And.intro ?_ ?_))))))))))))
    · refine sb_latPut hL (fun j hj => by rw [pk_un (by omega), sb_cpy0 (by omega)]) (fun i hi => ?_)
      obtain rfl : i = 0 := by omega
      exact ⟨hc, pk_us⟩
    · exact sb_fitU (sb_fitC hf sb_fit0) (sb_fitB _)
    · exact hk _ _ (by omega) (by omega)
theorem ich_lt (x : Int32) (i : Nat) : ich x i < 256 := by
  unfold ich sb_dec
  split
  · split
    · decide
    · omega
  · omega
theorem x_appendI {x : Int32} (hq : n + isz x ≤ 900) (hb : 2 * (n + isz x) ≤ bs) (hk : ∀ b0 b1, bc ≤ b0 → bs ≤ b1 + 2 * (n + isz x) → k (pc + 1) ls (.ref a :: r) ((mj_stn osx a (.inr (.inr (.inl (n + isz x, sb_cat f n (ich x)))))), b0, b1, false)) : ∀ (ml : Int32) (N : Nat) (g : Nat → Int32), n ≤ N → N ≤ 65536 → sb_Lat f n g → sb_Fit g → mj_Mt gT (law_cst xs) gnw (m + 5) y_StringBuilder_append_I (.ref 0 :: [.int x]) ([.inr (.inl (9, [.ref 1, .int 0, .int ml, .int (nI n)])), .inl (4, N, .inl g)], bc + 1, bs, true) (mj_bp k pc ls r (osx, bc + 1, bs, opx) a) := by
  intro ml N g hn hN hL hf
  refine j_appendI hn hN hq hf hb (fun hl g' q1 q2 q3 => ?_) (fun hl h9 g' q1 q2 q3 => ?_)
  · refine Exists.intro 1 (Exists.intro N (Exists.intro g' (Exists.intro (n + isz x) (Exists.intro (sb_cat f n (ich x)) (Exists.intro ml (And.intro rfl (And.intro rfl (And.intro (by decide) (And.intro (by omega) (And.intro (by omega) (And.intro ?_ (And.intro ?_ ?_))))))))))))
    · exact sb_latPut hL q1 (fun i hi => ⟨ich_lt x i, q2 i hi⟩)
    · exact q3
    · exact hk _ _ (by omega) (by omega)
  · have hcg := sb_cap_ge (n + isz x) N
    refine Exists.intro 2 (Exists.intro (sb_cap (n + isz x) N) (Exists.intro g' (Exists.intro (n + isz x) (Exists.intro (sb_cat f n (ich x)) (Exists.intro ml (And.intro rfl (And.intro rfl (And.intro (by decide) (And.intro (by omega) (And.intro (by omega) (And.intro ?_ (And.intro ?_ ?_))))))))))))
    · exact sb_latPut hL q1 (fun i hi => ⟨ich_lt x i, q2 i hi⟩)
    · exact q3
    · exact hk _ _ (by omega) (by omega)
theorem x_appendS2010 (hq : n + 3 ≤ 900) (hb : 2 * (n + 3) ≤ bs) (hk : ∀ b0 b1, bc ≤ b0 → bs ≤ b1 + 2 * (n + 3) → k (pc + 1) ls (.ref a :: r) ((mj_stn osx a (.inr (.inr (.inl (n + 3, sb_cat f n stx2010))))), b0, b1, false)) : ∀ (ml : Int32) (N : Nat) (g : Nat → Int32), n ≤ N → N ≤ 65536 → sb_Lat f n g → sb_Fit g → mj_Mt gT (law_cst xs) gnw (m + 5) y_StringBuilder_append_S (.ref 0 :: [.ref 2010]) ([.inr (.inl (9, [.ref 1, .int 0, .int ml, .int (nI n)])), .inl (4, N, .inl g)], bc + 1, bs, true) (mj_bp k pc ls r (osx, bc + 1, bs, opx) a) := by
  intro ml N g hn hN hL hf
  refine j_appendS2010 hn hN hq hf hb (fun hl => ?_) (fun hl h9 => ?_)
  · refine Exists.intro 1 (Exists.intro N (Exists.intro (va_cpy (fun j => law_s2010.getD j 0) g 0 n 3) (Exists.intro (n + 3) (Exists.intro (sb_cat f n stx2010) (Exists.intro ml (And.intro rfl (And.intro rfl (And.intro (by decide) (And.intro (by omega) (And.intro (by omega) (And.intro ?_ (And.intro ?_ ?_))))))))))))
    · refine sb_latPut hL (fun j hj => pk_cpy_out (Or.inl hj)) (fun i hi => ⟨(j_lat2010 i hi).1, ?_⟩)
      rw [pk_cpy_in (by omega) (by omega), show 0 + (n + i - n) = i by omega]
      exact (j_lat2010 i hi).2
    · exact sb_fitC j_fit2010 hf
    · exact hk _ _ (by omega) (by omega)
  · have hcg := sb_cap_ge (n + 3) N
    refine Exists.intro 2 (Exists.intro (sb_cap (n + 3) N) (Exists.intro (va_cpy (fun j => law_s2010.getD j 0) (va_cpy g (fun _ => 0) 0 0 N) 0 n 3) (Exists.intro (n + 3) (Exists.intro (sb_cat f n stx2010) (Exists.intro ml (And.intro rfl (And.intro rfl (And.intro (by decide) (And.intro (by omega) (And.intro (by omega) (And.intro ?_ (And.intro ?_ ?_))))))))))))
    · refine sb_latPut hL (fun j hj => by rw [pk_cpy_out (Or.inl hj), sb_cpy0 (by omega)]) (fun i hi => ⟨(j_lat2010 i hi).1, ?_⟩)
      rw [pk_cpy_in (by omega) (by omega), show 0 + (n + i - n) = i by omega]
      exact (j_lat2010 i hi).2
    · exact sb_fitC j_fit2010 (sb_fitC hf sb_fit0)
    · exact hk _ _ (by omega) (by omega)
theorem x_appendS2011 (hq : n + 2 ≤ 900) (hb : 2 * (n + 2) ≤ bs) (hk : ∀ b0 b1, bc ≤ b0 → bs ≤ b1 + 2 * (n + 2) → k (pc + 1) ls (.ref a :: r) ((mj_stn osx a (.inr (.inr (.inl (n + 2, sb_cat f n stx2011))))), b0, b1, false)) : ∀ (ml : Int32) (N : Nat) (g : Nat → Int32), n ≤ N → N ≤ 65536 → sb_Lat f n g → sb_Fit g → mj_Mt gT (law_cst xs) gnw (m + 5) y_StringBuilder_append_S (.ref 0 :: [.ref 2011]) ([.inr (.inl (9, [.ref 1, .int 0, .int ml, .int (nI n)])), .inl (4, N, .inl g)], bc + 1, bs, true) (mj_bp k pc ls r (osx, bc + 1, bs, opx) a) := by
  intro ml N g hn hN hL hf
  refine j_appendS2011 hn hN hq hf hb (fun hl => ?_) (fun hl h9 => ?_)
  · refine Exists.intro 1 (Exists.intro N (Exists.intro (va_cpy (fun j => law_s2011.getD j 0) g 0 n 2) (Exists.intro (n + 2) (Exists.intro (sb_cat f n stx2011) (Exists.intro ml (And.intro rfl (And.intro rfl (And.intro (by decide) (And.intro (by omega) (And.intro (by omega) (And.intro ?_ (And.intro ?_ ?_))))))))))))
    · refine sb_latPut hL (fun j hj => pk_cpy_out (Or.inl hj)) (fun i hi => ⟨(j_lat2011 i hi).1, ?_⟩)
      rw [pk_cpy_in (by omega) (by omega), show 0 + (n + i - n) = i by omega]
      exact (j_lat2011 i hi).2
    · exact sb_fitC j_fit2011 hf
    · exact hk _ _ (by omega) (by omega)
  · have hcg := sb_cap_ge (n + 2) N
    refine Exists.intro 2 (Exists.intro (sb_cap (n + 2) N) (Exists.intro (va_cpy (fun j => law_s2011.getD j 0) (va_cpy g (fun _ => 0) 0 0 N) 0 n 2) (Exists.intro (n + 2) (Exists.intro (sb_cat f n stx2011) (Exists.intro ml (And.intro rfl (And.intro rfl (And.intro (by decide) (And.intro (by omega) (And.intro (by omega) (And.intro ?_ (And.intro ?_ ?_))))))))))))
    · refine sb_latPut hL (fun j hj => by rw [pk_cpy_out (Or.inl hj), sb_cpy0 (by omega)]) (fun i hi => ⟨(j_lat2011 i hi).1, ?_⟩)
      rw [pk_cpy_in (by omega) (by omega), show 0 + (n + i - n) = i by omega]
      exact (j_lat2011 i hi).2
    · exact sb_fitC j_fit2011 (sb_fitC hf sb_fit0)
    · exact hk _ _ (by omega) (by omega)
end J3
end
section
abbrev Vl : Type := Unit ⊕ Int32 ⊕ Int32 ⊕ Nat ⊕ Nat
abbrev vNil : Vl := .inl ()
abbrev vInt (x : Int32) : Vl := .inr (.inl x)
abbrev vSym (x : Int32) : Vl := .inr (.inr (.inl x))
abbrev vPr (a : Nat) : Vl := .inr (.inr (.inr (.inl a)))
abbrev vFn (a : Nat) : Vl := .inr (.inr (.inr (.inr a)))
def eK (k : Nat) (x : Int32) : Int64 := Int64.ofNat (k * 4294967296) ||| (x.toInt64 &&& Int64.ofNat 4294967295)
def encV : Vl → Int64
  | .inl _ => 0
  | .inr (.inl x) => eK 1 x
  | .inr (.inr (.inl x)) => eK 2 x
  | .inr (.inr (.inr (.inl a))) => eK 3 (nI a)
  | .inr (.inr (.inr (.inr a))) => eK 4 (nI a)
theorem eK_nat (k : Nat) (hk : k ≤ 4) (x : Int32) : (eK k x).toBitVec.toNat = k * 4294967296 + x.toBitVec.toNat := by
  unfold eK
  have hx : x.toBitVec.toNat < 2 ^ 32 := x.toBitVec.isLt
  have hz : x.toBitVec.signExtend 64 &&& 4294967295#64 = x.toBitVec.setWidth 64 := by
    apply BitVec.eq_of_getLsbD_eq
    intro i hi
    have hm : (4294967295#64).getLsbD i = decide (i < 32) := by
      rw [BitVec.getLsbD_ofNat]
      rw [show (4294967295 : Nat) = 2 ^ 32 - 1 by decide, Nat.testBit_two_pow_sub_one]
      simp [hi]
    rw [BitVec.getLsbD_and, hm, BitVec.getLsbD_signExtend, BitVec.getLsbD_setWidth]
    by_cases h : i < 32
    · simp [h, hi]
    · simp [h, hi, BitVec.getLsbD_of_ge x.toBitVec i (by omega)]
  have e : (Int64.ofNat (k * 4294967296) ||| (x.toInt64 &&& Int64.ofNat 4294967295)).toBitVec = BitVec.ofNat 64 (k * 4294967296) ||| x.toBitVec.setWidth 64 := by
    rw [← hz]
    rfl
  rw [e, BitVec.toNat_or, BitVec.toNat_ofNat, BitVec.toNat_setWidth, Nat.mod_eq_of_lt (by omega : k * 4294967296 < 2 ^ 64), Nat.mod_eq_of_lt (by omega : x.toBitVec.toNat < 2 ^ 64)]
  rw [show k * 4294967296 = 2 ^ 32 * k by omega]
  exact (Nat.two_pow_add_eq_or_of_lt hx k).symm
theorem i64_ext {a b : Int64} (h : a.toBitVec.toNat = b.toBitVec.toNat) : a = b := Int64.toBitVec_inj.mp (BitVec.eq_of_toNat_eq h)
theorem i32_ext {a b : Int32} (h : a.toBitVec.toNat = b.toBitVec.toNat) : a = b := Int32.toBitVec_inj.mp (BitVec.eq_of_toNat_eq h)
theorem eK_shr (k : Nat) (hk : k ≤ 4) (x : Int32) : (eK k x) >>> ((Int32.ofInt 32).toInt64 &&& 63) = Int64.ofNat k := by
  have hn := eK_nat k hk x
  have hx : x.toBitVec.toNat < 2 ^ 32 := x.toBitVec.isLt
  have e1 : ((eK k x) >>> ((Int32.ofInt 32).toInt64 &&& 63)).toBitVec = (eK k x).toBitVec.sshiftRight 32 := by
    have : (Int32.ofInt 32).toInt64 &&& 63 = 32 := by decide
    rw [this, Int64.toBitVec_shiftRight]
    rfl
  apply i64_ext
  rw [e1, BitVec.sshiftRight_eq_of_msb_false, BitVec.toNat_ushiftRight, hn]
  · rw [Nat.shiftRight_eq_div_pow, show k * 4294967296 + x.toBitVec.toNat = x.toBitVec.toNat + 2 ^ 32 * k by omega, Nat.add_mul_div_left _ _ (by decide), Nat.div_eq_of_lt hx]
    show 0 + k = k % 2 ^ 64
    omega
  · rw [BitVec.msb_eq_false_iff_two_mul_lt, hn]
    omega
theorem eK_int (k : Nat) (hk : k ≤ 4) (x : Int32) : (eK k x).toInt32 = x := by
  have hn := eK_nat k hk x
  have hx : x.toBitVec.toNat < 2 ^ 32 := x.toBitVec.isLt
  apply i32_ext
  have e1 : (eK k x).toInt32.toBitVec = (eK k x).toBitVec.setWidth 32 := by
    rw [Int64.toBitVec_toInt32, BitVec.signExtend_eq_setWidth_of_le _ (by decide)]
  rw [e1, BitVec.toNat_setWidth, hn]
  omega
theorem eK_ne {j k : Nat} (hj : j ≤ 4) (hk : k ≤ 4) {x y : Int32} (h : eK j x = eK k y) : j = k ∧ x = y := by
  have h1 := eK_nat j hj x
  have h2 := eK_nat k hk y
  have hx : x.toBitVec.toNat < 2 ^ 32 := x.toBitVec.isLt
  have hy : y.toBitVec.toNat < 2 ^ 32 := y.toBitVec.isLt
  rw [h, h2] at h1
  exact ⟨by omega, i32_ext (by omega)⟩
def kV : Vl → Nat
  | .inl _ => 0
  | .inr (.inl _) => 1
  | .inr (.inr (.inl _)) => 2
  | .inr (.inr (.inr (.inl _))) => 3
  | .inr (.inr (.inr (.inr _))) => 4
theorem encV_shr (v : Vl) : encV v >>> ((Int32.ofInt 32).toInt64 &&& 63) = Int64.ofNat (kV v) := by
  rcases v with u | x | x | x | x
  · exact (by decide : (0 : Int64) >>> ((Int32.ofInt 32).toInt64 &&& 63) = Int64.ofNat 0)
  · exact eK_shr 1 (by decide) x
  · exact eK_shr 2 (by decide) x
  · exact eK_shr 3 (by decide) (nI x)
  · exact eK_shr 4 (by decide) (nI x)
theorem kV_le (v : Vl) : kV v ≤ 4 := by rcases v with u | x | x | x | x <;> simp [kV]
def cV : Vl → Int32
  | .inr (.inr (.inr (.inl a))) => nI a
  | .inr (.inr (.inr (.inr a))) => nI a
  | _ => -1
section P2a
variable {cst : Nat → Option (Nat × (Nat → Int32))} {m : Nat} {Q : mj_R → Prop} {h : mj_H}
set_option maxRecDepth 10000
theorem v_number {x : Int32} (hQ : Q (.inl (some (.long (encV (vInt x)))), h)) : mj_Mt gT cst gnw (m + 1) y_Value_number [.int x] h Q := by
  intro J hJ
  refine hJ _ _ _ _ ?_
  exact hQ
theorem v_symbol {x : Int32} (hQ : Q (.inl (some (.long (encV (vSym x)))), h)) : mj_Mt gT cst gnw (m + 1) y_Value_symbol [.int x] h Q := by
  intro J hJ
  refine hJ _ _ _ _ ?_
  exact hQ
theorem v_pair {a : Nat} (hQ : Q (.inl (some (.long (encV (vPr a)))), h)) : mj_Mt gT cst gnw (m + 1) y_Value_pair [.int (nI a)] h Q := by
  intro J hJ
  refine hJ _ _ _ _ ?_
  exact hQ
theorem v_function {a : Nat} (hQ : Q (.inl (some (.long (encV (vFn a)))), h)) : mj_Mt gT cst gnw (m + 1) y_Value_function [.int (nI a)] h Q := by
  intro J hJ
  refine hJ _ _ _ _ ?_
  exact hQ
theorem lg0 {j k : Nat} (hj : j ≤ 4) (hk : k ≤ 4) : (¬ lg_cmp (Int64.ofNat j) (Int64.ofNat k) = 0) ↔ ¬ j = k := by
  match j, k, hj, hk with
  | 0, 0, _, _ | 0, 1, _, _ | 0, 2, _, _ | 0, 3, _, _ | 0, 4, _, _
  | 1, 0, _, _ | 1, 1, _, _ | 1, 2, _, _ | 1, 3, _, _ | 1, 4, _, _
  | 2, 0, _, _ | 2, 1, _, _ | 2, 2, _, _ | 2, 3, _, _ | 2, 4, _, _
  | 3, 0, _, _ | 3, 1, _, _ | 3, 2, _, _ | 3, 3, _, _ | 3, 4, _, _
  | 4, 0, _, _ | 4, 1, _, _ | 4, 2, _, _ | 4, 3, _, _ | 4, 4, _, _ => decide
theorem lg3 {j : Nat} (hj : j ≤ 4) : lg_cmp (Int64.ofNat j) (Int64.ofNat 3) < 0 ↔ j < 3 := by
  match j, hj with
  | 0, _ | 1, _ | 2, _ | 3, _ | 4, _ => decide
def bJ (b : Bool) : Int32 := if b then 1 else 0
theorem v_is (k y : Nat) (hk : k ≤ 4) (hy : (y = y_Value_isNumber ∧ k = 1) ∨ (y = y_Value_isSymbol ∧ k = 2) ∨ (y = y_Value_isPair ∧ k = 3) ∨ (y = y_Value_isFunction ∧ k = 4)) {v : Vl} (hQ : Q (.inl (some (.int (bJ (kV v == k)))), h)) : mj_Mt gT cst gnw (m + 1) y [.long (encV v)] h Q := by
  have hb : ∀ b : Bool, (kV v == k) = b → Q (.inl (some (.int (bJ b))), h) := by
    rintro b rfl
    exact hQ
  have key : ∀ x : Int64, x = Int64.ofNat (kV v) → (¬ lg_cmp x (Int64.ofNat k) = 0 → (0 : Int32) = 0 ∨ (0 : Int32) = 1) := fun _ _ _ => Or.inl rfl
  have e := encV_shr v
  have hl := lg0 (kV_le v) hk
  rcases hy with ⟨rfl, rfl⟩ | ⟨rfl, rfl⟩ | ⟨rfl, rfl⟩ | ⟨rfl, rfl⟩ <;>
  · intro J hJ
    refine hJ _ _ _ _ ?_
    refine And.intro (fun g => ?_) (fun g => ?_)
    · rw [e] at g
      exact And.intro (Or.inl rfl) (hb false (by simpa using hl.mp g))
    · rw [e] at g
      exact And.intro (Or.inr rfl) (hb true (by simpa using fun q => (hl.mpr q) g))
theorem v_isNumber {v : Vl} (hQ : Q (.inl (some (.int (bJ (kV v == 1)))), h)) : mj_Mt gT cst gnw (m + 1) y_Value_isNumber [.long (encV v)] h Q := v_is 1 _ (by decide) (Or.inl ⟨rfl, rfl⟩) hQ
theorem v_isSymbol {v : Vl} (hQ : Q (.inl (some (.int (bJ (kV v == 2)))), h)) : mj_Mt gT cst gnw (m + 1) y_Value_isSymbol [.long (encV v)] h Q := v_is 2 _ (by decide) (Or.inr (Or.inl ⟨rfl, rfl⟩)) hQ
theorem v_isPair {v : Vl} (hQ : Q (.inl (some (.int (bJ (kV v == 3)))), h)) : mj_Mt gT cst gnw (m + 1) y_Value_isPair [.long (encV v)] h Q := v_is 3 _ (by decide) (Or.inr (Or.inr (Or.inl ⟨rfl, rfl⟩))) hQ
theorem v_isFunction {v : Vl} (hQ : Q (.inl (some (.int (bJ (kV v == 4)))), h)) : mj_Mt gT cst gnw (m + 1) y_Value_isFunction [.long (encV v)] h Q := v_is 4 _ (by decide) (Or.inr (Or.inr (Or.inr ⟨rfl, rfl⟩))) hQ
theorem v_cell {v : Vl} (hQ : Q (.inl (some (.int (cV v))), h)) : mj_Mt gT cst gnw (m + 1) y_Value_cell [.long (encV v)] h Q := by
  have e := encV_shr v
  intro J hJ
  refine hJ _ _ _ _ ?_
  refine And.intro (fun g => ?_) (fun g => ?_)
  · rw [e] at g
    have h3 := (lg3 (kV_le v)).mp g
    rcases v with u | x | x | x | x
    · exact hQ
    · exact hQ
    · exact hQ
    · exact absurd h3 (by simp [kV])
    · exact absurd h3 (by simp [kV])
  · rw [e] at g
    have h3 : ¬ kV v < 3 := fun q => g ((lg3 (kV_le v)).mpr q)
    have key : ∀ x : Int32, x = cV v → Q (.inl (some (.int x)), h) := by
      rintro x rfl
      exact hQ
    rcases v with u | x | x | x | x
    · exact absurd (by simp [kV]) h3
    · exact absurd (by simp [kV]) h3
    · exact absurd (by simp [kV]) h3
    · exact key _ (eK_int 3 (by decide) (nI x))
    · exact key _ (eK_int 4 (by decide) (nI x))
theorem v_content {x : Int64} (hQ : Q (.inl (some (.int x.toInt32)), h)) : mj_Mt gT cst gnw (m + 1) y_Value_content [.long x] h Q := by
  intro J hJ
  refine hJ _ _ _ _ ?_
  exact hQ
end P2a
end
section
def upW {α : Type} (g : Nat → α) (k : Nat) (x : α) : Nat → α := fun j => if j = k then x else g j
abbrev eH (g : Nat → Vl) : Nat → Int64 := fun i => encV (g i)
abbrev eN (g : Nat → Nat) : Nat → Int32 := fun i => nI (g i)
def sW (o0 o1 o2 o3 o4 o5 o6 o7 o8 o9 o10 o11 o12 o13 o14 o15 o16 : mj_O) (z : Nat) (H T : Nat → Int64) (fr mk rc : Nat → Int32) (fN rN cN : Int32) (tl : List mj_O) : List mj_O :=
  o0 :: o1 :: o2 :: o3 :: o4 :: o5 :: o6 :: o7 :: o8 :: o9 :: o10 :: o11 :: o12 :: o13 :: o14 :: o15 :: o16 :: oF 7 [.int (nI z), .ref 18, .ref 19, .ref 20, .ref 21, .ref 22, .int fN, .int rN, .int cN] :: oJ z H :: oJ z T :: oI z fr :: oZ z mk :: oI z rc :: tl
def ofV (g : Nat → Vl) : Vl → Vl
  | .inr (.inr (.inr (.inl i))) => g i
  | .inr (.inr (.inr (.inr i))) => g i
  | _ => vNil
def okV (z : Nat) : Vl → Prop
  | .inr (.inr (.inr (.inl i))) => i < z
  | .inr (.inr (.inr (.inr i))) => i < z
  | .inr (.inr (.inl x)) => ∃ c : Nat, c < 256 ∧ x = nI c
  | _ => True
theorem updL_enc (g : Nat → Vl) (k : Nat) (v : Vl) : vp_updL (eH g) k (encV v) = eH (upW g k v) := by
  funext j
  show (if j = k then encV v else encV (g j)) = encV (if j = k then v else g j)
  split <;> rfl
theorem upd_nI (g : Nat → Nat) (k x : Nat) : upd (eN g) k (nI x) = eN (upW g k x) := by
  funext j
  show (if j = k then nI x else nI (g j)) = nI (if j = k then x else g j)
  split <;> rfl
theorem cV_cases (z : Nat) (v : Vl) (hv : okV z v) : (cV v = -1 ∧ ∀ g, ofV g v = vNil) ∨ ∃ i, i < z ∧ cV v = nI i ∧ ∀ g, ofV g v = g i := by
  rcases v with u | x | x | i | i
  · exact Or.inl ⟨rfl, fun _ => rfl⟩
  · exact Or.inl ⟨rfl, fun _ => rfl⟩
  · exact Or.inl ⟨rfl, fun _ => rfl⟩
  · exact Or.inr ⟨i, hv, rfl, fun _ => rfl⟩
  · exact Or.inr ⟨i, hv, rfl, fun _ => rfl⟩
section P2b
variable {cst : Nat → Option (Nat × (Nat → Int32))} {m b0 b1 : Nat} {op : Bool} {tl : List mj_O} {Q : mj_R → Prop}
variable {o0 o1 o2 o3 o4 o5 o6 o7 o8 o9 o10 o11 o12 o13 o14 o15 o16 : mj_O} {z : Nat} {H T : Nat → Vl} {hR tR : Nat → Int64} {fr : Nat → Nat} {frR mk rc : Nat → Int32} {f : Nat} {fN rN cN : Int32}
set_option maxRecDepth 10000
theorem s_head {v : Vl} (hz : z ≤ 250) (hv : okV z v) (hQ : Q (.inl (some (.long (encV (ofV H v)))), (sW o0 o1 o2 o3 o4 o5 o6 o7 o8 o9 o10 o11 o12 o13 o14 o15 o16 z (eH H) tR frR mk rc fN rN cN tl, b0, b1, op))) : mj_Mt gT cst gnw (m + 2) y_Store_head [.ref 17, .long (encV v)] (sW o0 o1 o2 o3 o4 o5 o6 o7 o8 o9 o10 o11 o12 o13 o14 o15 o16 z (eH H) tR frR mk rc fN rN cN tl, b0, b1, op) Q := by
  intro J hJ
  refine hJ _ _ _ _ ?_
  refine v_cell ?_
  rcases cV_cases z v hv with ⟨e, e2⟩ | ⟨i, hi, e, e2⟩
  · rw [e]
    rw [e2] at hQ
    exact And.intro (fun _ => hQ) (fun g => absurd (by decide) g)
  · rw [e]
    rw [e2] at hQ
    refine And.intro (fun (g : nI i < 0) => absurd g (nI_pos (by omega))) (fun _ => ?_)
    refine And.intro (fun (g : nI z ≤ nI i) => absurd g (nI_ge hi (by omega))) (fun _ => ?_)
    refine And.intro (vp_in_nI hi (by omega)) ?_
    have key : ∀ j, j = i → Q (.inl (some (.long (encV (H j)))), (sW o0 o1 o2 o3 o4 o5 o6 o7 o8 o9 o10 o11 o12 o13 o14 o15 o16 z (eH H) tR frR mk rc fN rN cN tl, b0, b1, op)) := by
      rintro j rfl
      exact hQ
    exact key _ (nI_clamp (by omega))
theorem s_tail {v : Vl} (hz : z ≤ 250) (hv : okV z v) (hQ : Q (.inl (some (.long (encV (ofV T v)))), (sW o0 o1 o2 o3 o4 o5 o6 o7 o8 o9 o10 o11 o12 o13 o14 o15 o16 z hR (eH T) frR mk rc fN rN cN tl, b0, b1, op))) : mj_Mt gT cst gnw (m + 2) y_Store_tail [.ref 17, .long (encV v)] (sW o0 o1 o2 o3 o4 o5 o6 o7 o8 o9 o10 o11 o12 o13 o14 o15 o16 z hR (eH T) frR mk rc fN rN cN tl, b0, b1, op) Q := by
  intro J hJ
  refine hJ _ _ _ _ ?_
  refine v_cell ?_
  rcases cV_cases z v hv with ⟨e, e2⟩ | ⟨i, hi, e, e2⟩
  · rw [e]
    rw [e2] at hQ
    exact And.intro (fun _ => hQ) (fun g => absurd (by decide) g)
  · rw [e]
    rw [e2] at hQ
    refine And.intro (fun (g : nI i < 0) => absurd g (nI_pos (by omega))) (fun _ => ?_)
    refine And.intro (fun (g : nI z ≤ nI i) => absurd g (nI_ge hi (by omega))) (fun _ => ?_)
    refine And.intro (vp_in_nI hi (by omega)) ?_
    have key : ∀ j, j = i → Q (.inl (some (.long (encV (T j)))), (sW o0 o1 o2 o3 o4 o5 o6 o7 o8 o9 o10 o11 o12 o13 o14 o15 o16 z hR (eH T) frR mk rc fN rN cN tl, b0, b1, op)) := by
      rintro j rfl
      exact hQ
    exact key _ (nI_clamp (by omega))
theorem s_setHead {v x : Vl} (hz : z ≤ 250) (hv : okV z v) (hQ : ∀ i, cV v = nI i → i < z → Q (.inl none, (sW o0 o1 o2 o3 o4 o5 o6 o7 o8 o9 o10 o11 o12 o13 o14 o15 o16 z (eH (upW H i x)) tR frR mk rc fN rN cN tl, b0, b1, op))) (h0 : cV v = -1 → Q (.inl none, (sW o0 o1 o2 o3 o4 o5 o6 o7 o8 o9 o10 o11 o12 o13 o14 o15 o16 z (eH H) tR frR mk rc fN rN cN tl, b0, b1, op))) : mj_Mt gT cst gnw (m + 2) y_Store_setHead [.ref 17, .long (encV v), .long (encV x)] (sW o0 o1 o2 o3 o4 o5 o6 o7 o8 o9 o10 o11 o12 o13 o14 o15 o16 z (eH H) tR frR mk rc fN rN cN tl, b0, b1, op) Q := by
  intro J hJ
  refine hJ _ _ _ _ ?_
  refine v_cell ?_
  rcases cV_cases z v hv with ⟨e, e2⟩ | ⟨i, hi, e, e2⟩
  · have h1 := h0 e
    rw [e]
    exact And.intro (fun _ => h1) (fun g => absurd (by decide) g)
  · have h1 := hQ i e hi
    rw [e]
    refine And.intro (fun (g : nI i < 0) => absurd g (nI_pos (by omega))) (fun _ => ?_)
    refine And.intro (fun (g : nI z ≤ nI i) => absurd g (nI_ge hi (by omega))) (fun _ => ?_)
    refine And.intro (vp_in_nI hi (by omega)) ?_
    have key : ∀ j, j = i → Q (.inl none, (sW o0 o1 o2 o3 o4 o5 o6 o7 o8 o9 o10 o11 o12 o13 o14 o15 o16 z (vp_updL (eH H) j (encV x)) tR frR mk rc fN rN cN tl, b0, b1, op)) := by
      rintro j rfl
      rw [updL_enc]
      exact h1
    exact key _ (nI_clamp (by omega))
theorem s_newCell {h t : Vl} (hz : z ≤ 250) (hfz : f < z) (hc : fr f < z) (hQ : Q (.inl (some (.int (nI (fr f)))), (sW o0 o1 o2 o3 o4 o5 o6 o7 o8 o9 o10 o11 o12 o13 o14 o15 o16 z (eH (upW H (fr f) h)) (eH (upW T (fr f) t)) (eN fr) mk rc (nI f) rN cN tl, b0, b1, op))) : mj_Mt gT cst gnw (m + 1) y_Store_newCell [.ref 17, .long (encV h), .long (encV t)] (sW o0 o1 o2 o3 o4 o5 o6 o7 o8 o9 o10 o11 o12 o13 o14 o15 o16 z (eH H) (eH T) (eN fr) mk rc (nI (f + 1)) rN cN tl, b0, b1, op) Q := by
  intro J hJ
  refine hJ _ _ _ _ ?_
  refine And.intro (fun _ => ?_) (fun (g : ¬ 0 < nI (f + 1)) => absurd (nI_lt (a := 0) (by omega) (by omega)) g)
  have ef : nI (f + 1) - Int32.ofInt 1 = nI f := nI_pred f
  have ec : (nI (f + 1) - Int32.ofInt 1).toNatClampNeg = f := by
    rw [ef]
    exact nI_clamp (by omega)
  have hin : vp_in (nI (f + 1) - Int32.ofInt 1) z := by
    rw [ef]
    exact vp_in_nI hfz (by omega)
  refine And.intro hin ?_
  rw [ec, ef]
  refine And.intro (vp_in_nI hc (by omega)) ?_
  refine And.intro (vp_in_nI hc (by omega)) ?_
  have key2 : ∀ (j : Nat), j = fr f → Q (.inl (some (.int (nI (fr f)))), (sW o0 o1 o2 o3 o4 o5 o6 o7 o8 o9 o10 o11 o12 o13 o14 o15 o16 z (vp_updL (eH H) j (encV h)) (vp_updL (eH T) j (encV t)) (eN fr) mk rc (nI f) rN cN tl, b0, b1, op)) := by
    rintro j rfl
    rw [updL_enc, updL_enc]
    exact hQ
  exact key2 _ (nI_clamp (by omega))
theorem s_newPair {h t : Vl} (hz : z ≤ 250) (hfz : f < z) (hc : fr f < z) (hQ : Q (.inl (some (.long (encV (vPr (fr f))))), (sW o0 o1 o2 o3 o4 o5 o6 o7 o8 o9 o10 o11 o12 o13 o14 o15 o16 z (eH (upW H (fr f) h)) (eH (upW T (fr f) t)) (eN fr) mk rc (nI f) rN cN tl, b0, b1, op))) : mj_Mt gT cst gnw (m + 2) y_Store_newPair [.ref 17, .long (encV h), .long (encV t)] (sW o0 o1 o2 o3 o4 o5 o6 o7 o8 o9 o10 o11 o12 o13 o14 o15 o16 z (eH H) (eH T) (eN fr) mk rc (nI (f + 1)) rN cN tl, b0, b1, op) Q := by
  intro J hJ
  refine hJ _ _ _ _ ?_
  refine s_newCell hz hfz hc ?_
  exact v_pair hQ
theorem s_newFunction {h t : Vl} (hz : z ≤ 250) (hfz : f < z) (hc : fr f < z) (hQ : Q (.inl (some (.long (encV (vFn (fr f))))), (sW o0 o1 o2 o3 o4 o5 o6 o7 o8 o9 o10 o11 o12 o13 o14 o15 o16 z (eH (upW H (fr f) h)) (eH (upW T (fr f) t)) (eN fr) mk rc (nI f) rN cN tl, b0, b1, op))) : mj_Mt gT cst gnw (m + 2) y_Store_newFunction [.ref 17, .long (encV h), .long (encV t)] (sW o0 o1 o2 o3 o4 o5 o6 o7 o8 o9 o10 o11 o12 o13 o14 o15 o16 z (eH H) (eH T) (eN fr) mk rc (nI (f + 1)) rN cN tl, b0, b1, op) Q := by
  intro J hJ
  refine hJ _ _ _ _ ?_
  refine s_newCell hz hfz hc ?_
  exact v_function hQ
def behV (T : Nat → Vl) : Nat → Vl → Vl
  | 0, v => v
  | n + 1, v => match v with
    | .inr (.inr (.inr (.inl i))) => behV T n (T i)
    | _ => v
theorem behV_stop {T : Nat → Vl} {v : Vl} (h : ¬ kV v = 3) : ∀ n, behV T n v = v := by
  intro n
  cases n with
  | zero => rfl
  | succ n =>
    rcases v with u | x | x | i | i
    · rfl
    · rfl
    · rfl
    · exact absurd rfl h
    · rfl
theorem okV_beh {T : Nat → Vl} {z : Nat} (hT : ∀ i, i < z → okV z (T i)) : ∀ (n : Nat) (v : Vl), okV z v → okV z (behV T n v) := by
  intro n
  induction n with
  | zero => exact fun v h => h
  | succ n ih =>
    intro v h
    rcases v with u | x | x | i | i
    · exact h
    · exact h
    · exact h
    · exact ih _ (hT i h)
    · exact h
theorem s_behind {v : Vl} {n : Nat} (hz : z ≤ 250) (hn : n < 2 ^ 31) (hT : ∀ i, i < z → okV z (T i)) (hv : okV z v) (hQ : Q (.inl (some (.long (encV (behV T n v)))), (sW o0 o1 o2 o3 o4 o5 o6 o7 o8 o9 o10 o11 o12 o13 o14 o15 o16 z hR (eH T) frR mk rc fN rN cN tl, b0, b1, op))) : mj_Mt gT cst gnw (m + 3) y_Store_behind [.ref 17, .long (encV v), .int (nI n)] (sW o0 o1 o2 o3 o4 o5 o6 o7 o8 o9 o10 o11 o12 o13 o14 o15 o16 z hR (eH T) frR mk rc fN rN cN tl, b0, b1, op) Q := by
  intro J hJ
  have loop : ∀ (j k : Nat) (u : Vl), j + k = n → okV z u → behV T j u = behV T n v → J 4 [some (.ref 17), some (.long (encV v)), none, some (.int (nI n)), some (.long (encV u)), none, some (.int (nI k))] [] (sW o0 o1 o2 o3 o4 o5 o6 o7 o8 o9 o10 o11 o12 o13 o14 o15 o16 z hR (eH T) frR mk rc fN rN cN tl, b0, b1, op) := by
    intro j
    induction j with
    | zero =>
      intro k u hk hu e
      change u = _ at e
      subst e
      refine hJ _ _ _ _ ?_
      exact And.intro (fun _ => hQ) (fun (g : ¬ nI n ≤ nI k) => absurd (nI_le (by omega) (by omega)) g)
    | succ j ih =>
      intro k u hk hu e
      refine hJ _ _ _ _ ?_
      refine And.intro (fun (g : nI n ≤ nI k) => absurd g (nI_ge (by omega) (by omega))) (fun _ => ?_)
      refine v_isPair ?_
      by_cases h3 : kV u = 3
      · rw [show (kV u == 3) = true by simp [h3]]
        refine And.intro (fun g => absurd g (by decide)) (fun _ => ?_)
        refine s_tail hz hu ?_
        rcases u with u | x | x | i | i
        · exact absurd h3 (by simp [kV])
        · exact absurd h3 (by simp [kV])
        · exact absurd h3 (by simp [kV])
        · have key : ∀ x : Int32, x = nI (k + 1) → J 4 [some (.ref 17), some (.long (encV v)), none, some (.int (nI n)), some (.long (encV (T i))), none, some (.int x)] [] (sW o0 o1 o2 o3 o4 o5 o6 o7 o8 o9 o10 o11 o12 o13 o14 o15 o16 z hR (eH T) frR mk rc fN rN cN tl, b0, b1, op) := by
            rintro x rfl
            exact ih (k + 1) (T i) (by omega) (hT i hu) e
          exact key _ (nI_succ k).symm
        · exact absurd h3 (by simp [kV])
      · rw [show (kV u == 3) = false by simp [h3]]
        rw [behV_stop h3] at e
        subst e
        exact And.intro (fun _ => hQ) (fun g => absurd rfl g)
  refine hJ _ _ _ _ ?_
  exact loop n 0 v rfl hv rfl
end P2b
end
section
def mW (o0 o1 o2 o3 o4 o5 o6 o7 o8 o9 o10 o11 o12 o13 o14 o15 : mj_O) (S E C D : Int64) (mode colls taken steps : Int32) (z : Nat) (H T : Nat → Int64) (fr mk rc : Nat → Int32) (fN rN cN : Int32) (tl : List mj_O) : List mj_O :=
  sW o0 o1 o2 o3 o4 o5 o6 o7 o8 o9 o10 o11 o12 o13 o14 o15 (oF 6 [.ref 17, .ref 23, .long S, .long E, .long C, .long D, .int mode, .int colls, .int taken, .int steps]) z H T fr mk rc fN rN cN tl
def okA (z : Nat) (g : Nat → Vl) : Prop := ∀ i, i < z → okV z (g i)
theorem okV_of {z : Nat} {g : Nat → Vl} {v : Vl} (hg : okA z g) (hv : okV z v) : okV z (ofV g v) := by
  rcases v with u | x | x | i | i
  · exact trivial
  · exact trivial
  · exact trivial
  · exact hg i hv
  · exact hg i hv
theorem okA_upd {z k : Nat} {g : Nat → Vl} {x : Vl} (hg : okA z g) (hx : okV z x) : okA z (upW g k x) := by
  intro i hi
  unfold upW
  split
  · exact hx
  · exact hg i hi
theorem nI_16 {n : Nat} (h : n < 2 ^ 31) : nI n / Int32.ofInt 16 = nI (n / 16) ∧ nI n - nI n / Int32.ofInt 16 * Int32.ofInt 16 = nI (n % 16) := by
  have h1 : nI n / Int32.ofInt 16 = nI (n / 16) := by
    apply Int32.toInt_inj.mp
    rw [Int32.toInt_div, nI_toInt h, nI_toInt (by omega), show (Int32.ofInt 16).toInt = 16 by decide]
    rw [show ((n : Int).tdiv 16) = ((n / 16 : Nat) : Int) by rw [Int.tdiv_eq_ediv_of_nonneg (by omega)]; rfl]
    apply Int.bmod_eq_of_le <;> omega
  refine ⟨h1, ?_⟩
  rw [h1, show Int32.ofInt 16 = nI 16 by decide]
  have h2 : nI (n / 16) * nI 16 = nI (n / 16 * 16) := (Int32.ofNat_mul _ _).symm
  rw [h2]
  have h3 : nI n = nI (n % 16) + nI (n / 16 * 16) := by
    rw [nI_add]
    congr 1
    omega
  rw [h3, Int32.add_sub_cancel]
section P2c
variable {cst : Nat → Option (Nat × (Nat → Int32))} {m b0 b1 : Nat} {op : Bool} {tl : List mj_O} {Q : mj_R → Prop}
variable {o0 o1 o2 o3 o4 o5 o6 o7 o8 o9 o10 o11 o12 o13 o14 o15 : mj_O} {S E C D : Vl} {mode colls taken steps : Int32} {z : Nat} {H T : Nat → Vl} {fr : Nat → Nat} {mk rc : Nat → Int32} {f : Nat} {rN cN : Int32}
set_option maxRecDepth 10000
theorem k_constant (hz : z ≤ 250) (hA : okA z H) (hB : okA z T) (hfr : ∀ j, j < z → fr j < z) (hS : okV z S) (hE : okV z E) (hC : okV z C) (hD : okV z D) (hf : f + 1 ≤ z) (hQ : Q (.inl (some (.int 1)), (mW o0 o1 o2 o3 o4 o5 o6 o7 o8 o9 o10 o11 o12 o13 o14 o15 (encV (vPr (fr f))) (encV E) (encV (ofV (upW T (fr f) S) (ofV T C))) (encV D) mode colls taken steps z (eH (upW H (fr f) (ofV H (ofV T C)))) (eH (upW T (fr f) S)) (eN fr) mk rc (nI f) rN cN tl, b0, b1, op))) : mj_Mt gT cst gnw (m + 3) y_Machine_constant [.ref 16] (mW o0 o1 o2 o3 o4 o5 o6 o7 o8 o9 o10 o11 o12 o13 o14 o15 (encV S) (encV E) (encV C) (encV D) mode colls taken steps z (eH H) (eH T) (eN fr) mk rc (nI (f + 1)) rN cN tl, b0, b1, op) Q := by
  intro J hJ
  refine hJ _ _ _ _ ?_
  refine s_tail hz hC ?_
  refine s_head hz (okV_of hB hC) ?_
  refine s_newPair hz (by omega) (hfr _ (by omega)) ?_
  refine s_tail hz (okV_of hB hC) ?_
  exact And.intro (Or.inr rfl) hQ
theorem k_function (hz : z ≤ 250) (hA : okA z H) (hB : okA z T) (hfr : ∀ j, j < z → fr j < z) (hS : okV z S) (hE : okV z E) (hC : okV z C) (hD : okV z D) (hf : f + 2 ≤ z) (hQ : Q (.inl (some (.int 1)), (mW o0 o1 o2 o3 o4 o5 o6 o7 o8 o9 o10 o11 o12 o13 o14 o15 (encV (vPr (fr f))) (encV E) (encV (ofV (upW (upW T (fr (f + 1)) E) (fr f) S) (ofV T C))) (encV D) mode colls taken steps z (eH (upW (upW H (fr (f + 1)) (ofV H (ofV T C))) (fr f) (vFn (fr (f + 1))))) (eH (upW (upW T (fr (f + 1)) E) (fr f) S)) (eN fr) mk rc (nI f) rN cN tl, b0, b1, op))) : mj_Mt gT cst gnw (m + 3) y_Machine_function [.ref 16] (mW o0 o1 o2 o3 o4 o5 o6 o7 o8 o9 o10 o11 o12 o13 o14 o15 (encV S) (encV E) (encV C) (encV D) mode colls taken steps z (eH H) (eH T) (eN fr) mk rc (nI (f + 2)) rN cN tl, b0, b1, op) Q := by
  intro J hJ
  refine hJ _ _ _ _ ?_
  refine s_tail hz hC ?_
  refine s_head hz (okV_of hB hC) ?_
  refine s_newFunction hz (by omega) (hfr _ (by omega)) ?_
  refine s_newPair hz (by omega) (hfr _ (by omega)) ?_
  refine s_tail hz (okV_of hB hC) ?_
  exact And.intro (Or.inr rfl) hQ
theorem k_giveBack (hz : z ≤ 250) (hA : okA z H) (hB : okA z T) (hfr : ∀ j, j < z → fr j < z) (hS : okV z S) (hE : okV z E) (hC : okV z C) (hD : okV z D) (hf : f + 1 ≤ z) (hQ : Q (.inl (some (.int 1)), (mW o0 o1 o2 o3 o4 o5 o6 o7 o8 o9 o10 o11 o12 o13 o14 o15 (encV (vPr (fr f))) (encV (ofV (upW H (fr f) (ofV H S)) (ofV T D))) (encV (ofV (upW H (fr f) (ofV H S)) (ofV T (ofV T D)))) (encV (ofV (upW T (fr f) (ofV H D)) (ofV T (ofV T D)))) mode colls taken steps z (eH (upW H (fr f) (ofV H S))) (eH (upW T (fr f) (ofV H D))) (eN fr) mk rc (nI f) rN cN tl, b0, b1, op))) : mj_Mt gT cst gnw (m + 3) y_Machine_giveBack [.ref 16] (mW o0 o1 o2 o3 o4 o5 o6 o7 o8 o9 o10 o11 o12 o13 o14 o15 (encV S) (encV E) (encV C) (encV D) mode colls taken steps z (eH H) (eH T) (eN fr) mk rc (nI (f + 1)) rN cN tl, b0, b1, op) Q := by
  intro J hJ
  refine hJ _ _ _ _ ?_
  refine s_head hz hS ?_
  refine s_tail hz hD ?_
  refine s_tail hz (okV_of hB hD) ?_
  refine s_head hz hD ?_
  refine s_newPair hz (by omega) (hfr _ (by omega)) ?_
  refine s_head hz (okV_of hB hD) ?_
  refine s_head hz (okV_of hB (okV_of hB hD)) ?_
  refine s_tail hz (okV_of hB (okV_of hB hD)) ?_
  exact And.intro (Or.inr rfl) hQ
theorem k_frame (hz : z ≤ 250) (hA : okA z H) (hB : okA z T) (hfr : ∀ j, j < z → fr j < z) (hS : okV z S) (hE : okV z E) (hC : okV z C) (hD : okV z D) (hf : f + 1 ≤ z) (hQ : Q (.inl (some (.int 1)), (mW o0 o1 o2 o3 o4 o5 o6 o7 o8 o9 o10 o11 o12 o13 o14 o15 (encV S) (encV (vPr (fr f))) (encV (ofV (upW T (fr f) E) C)) (encV D) mode colls taken steps z (eH (upW H (fr f) vNil)) (eH (upW T (fr f) E)) (eN fr) mk rc (nI f) rN cN tl, b0, b1, op))) : mj_Mt gT cst gnw (m + 3) y_Machine_frame [.ref 16] (mW o0 o1 o2 o3 o4 o5 o6 o7 o8 o9 o10 o11 o12 o13 o14 o15 (encV S) (encV E) (encV C) (encV D) mode colls taken steps z (eH H) (eH T) (eN fr) mk rc (nI (f + 1)) rN cN tl, b0, b1, op) Q := by
  intro J hJ
  refine hJ _ _ _ _ ?_
  refine s_newPair (h := vNil) hz (by omega) (hfr _ (by omega)) ?_
  refine s_tail hz hC ?_
  exact And.intro (Or.inr rfl) hQ
theorem k_rejoin (hz : z ≤ 250) (hA : okA z H) (hB : okA z T) (hfr : ∀ j, j < z → fr j < z) (hS : okV z S) (hE : okV z E) (hC : okV z C) (hD : okV z D) (hQ : Q (.inl (some (.int 1)), (mW o0 o1 o2 o3 o4 o5 o6 o7 o8 o9 o10 o11 o12 o13 o14 o15 (encV S) (encV E) (encV (ofV H D)) (encV (ofV T D)) mode colls taken steps z (eH H) (eH T) (eN fr) mk rc (nI f) rN cN tl, b0, b1, op))) : mj_Mt gT cst gnw (m + 3) y_Machine_rejoin [.ref 16] (mW o0 o1 o2 o3 o4 o5 o6 o7 o8 o9 o10 o11 o12 o13 o14 o15 (encV S) (encV E) (encV C) (encV D) mode colls taken steps z (eH H) (eH T) (eN fr) mk rc (nI f) rN cN tl, b0, b1, op) Q := by
  intro J hJ
  refine hJ _ _ _ _ ?_
  refine s_head hz hD ?_
  refine s_tail hz hD ?_
  exact And.intro (Or.inr rfl) hQ
theorem k_save {V : Vl} (hV : okV z V) (hz : z ≤ 250) (hA : okA z H) (hB : okA z T) (hfr : ∀ j, j < z → fr j < z) (hS : okV z S) (hE : okV z E) (hC : okV z C) (hD : okV z D) (hf : f + 3 ≤ z) (hQ : Q (.inl none, (mW o0 o1 o2 o3 o4 o5 o6 o7 o8 o9 o10 o11 o12 o13 o14 o15 (encV vNil) (encV E) (encV C) (encV (vPr (fr f))) mode colls taken steps z (eH (upW (upW (upW H (fr (f + 2)) (ofV T C)) (fr (f + 1)) V) (fr f) (ofV T (ofV T S)))) (eH (upW (upW (upW T (fr (f + 2)) D) (fr (f + 1)) (vPr (fr (f + 2)))) (fr f) (vPr (fr (f + 1))))) (eN fr) mk rc (nI f) rN cN tl, b0, b1, op))) : mj_Mt gT cst gnw (m + 3) y_Machine_save [.ref 16, .long (encV V)] (mW o0 o1 o2 o3 o4 o5 o6 o7 o8 o9 o10 o11 o12 o13 o14 o15 (encV S) (encV E) (encV C) (encV D) mode colls taken steps z (eH H) (eH T) (eN fr) mk rc (nI (f + 3)) rN cN tl, b0, b1, op) Q := by
  intro J hJ
  refine hJ _ _ _ _ ?_
  refine s_tail hz hS ?_
  refine s_tail hz (okV_of hB hS) ?_
  refine s_tail hz hC ?_
  refine s_newPair hz (by omega) (hfr _ (by omega)) ?_
  refine s_newPair hz (by omega) (hfr _ (by omega)) ?_
  refine s_newPair hz (by omega) (hfr _ (by omega)) ?_
  exact hQ
theorem k_replace {V : Vl} {n : Nat} (hn : n < 1000) (hV : okV z V) (hz : z ≤ 250) (hA : okA z H) (hB : okA z T) (hfr : ∀ j, j < z → fr j < z) (hS : okV z S) (hE : okV z E) (hC : okV z C) (hD : okV z D) (hf : f + 1 ≤ z) (hQ : Q (.inl none, (mW o0 o1 o2 o3 o4 o5 o6 o7 o8 o9 o10 o11 o12 o13 o14 o15 (encV (vPr (fr f))) (encV E) (encV (ofV (upW T (fr f) (behV T n S)) C)) (encV D) mode colls taken steps z (eH (upW H (fr f) V)) (eH (upW T (fr f) (behV T n S))) (eN fr) mk rc (nI f) rN cN tl, b0, b1, op))) : mj_Mt gT cst gnw (m + 4) y_Machine_replace [.ref 16, .int (nI n), .long (encV V)] (mW o0 o1 o2 o3 o4 o5 o6 o7 o8 o9 o10 o11 o12 o13 o14 o15 (encV S) (encV E) (encV C) (encV D) mode colls taken steps z (eH H) (eH T) (eN fr) mk rc (nI (f + 1)) rN cN tl, b0, b1, op) Q := by
  intro J hJ
  refine hJ _ _ _ _ ?_
  refine s_behind hz (by omega) hB hS ?_
  refine s_newPair hz (by omega) (hfr _ (by omega)) ?_
  refine s_tail hz hC ?_
  exact hQ
theorem k_apply (hz : z ≤ 250) (hA : okA z H) (hB : okA z T) (hfr : ∀ j, j < z → fr j < z) (hS : okV z S) (hE : okV z E) (hC : okV z C) (hD : okV z D) (hf : f + 4 ≤ z) (h1 : ¬ kV (ofV H S) = 4 → Q (.inl (some (.int 0)), (mW o0 o1 o2 o3 o4 o5 o6 o7 o8 o9 o10 o11 o12 o13 o14 o15 (encV S) (encV E) (encV C) (encV D) mode colls taken steps z (eH H) (eH T) (eN fr) mk rc (nI (f + 4)) rN cN tl, b0, b1, op))) (h2 : kV (ofV H S) = 4 → Q (.inl (some (.int 1)), (mW o0 o1 o2 o3 o4 o5 o6 o7 o8 o9 o10 o11 o12 o13 o14 o15 (encV vNil) (encV (vPr (fr f))) (encV (ofV (upW (upW (upW (upW H (fr (f + 3)) (ofV T C)) (fr (f + 2)) E) (fr (f + 1)) (ofV T (ofV T S))) (fr f) (ofV H (ofV T S))) (ofV H S))) (encV (vPr (fr (f + 1)))) mode colls taken steps z (eH (upW (upW (upW (upW H (fr (f + 3)) (ofV T C)) (fr (f + 2)) E) (fr (f + 1)) (ofV T (ofV T S))) (fr f) (ofV H (ofV T S)))) (eH (upW (upW (upW (upW T (fr (f + 3)) D) (fr (f + 2)) (vPr (fr (f + 3)))) (fr (f + 1)) (vPr (fr (f + 2)))) (fr f) (ofV (upW (upW (upW T (fr (f + 3)) D) (fr (f + 2)) (vPr (fr (f + 3)))) (fr (f + 1)) (vPr (fr (f + 2)))) (ofV H S)))) (eN fr) mk rc (nI f) rN cN tl, b0, b1, op))) : mj_Mt gT cst gnw (m + 4) y_Machine_apply [.ref 16] (mW o0 o1 o2 o3 o4 o5 o6 o7 o8 o9 o10 o11 o12 o13 o14 o15 (encV S) (encV E) (encV C) (encV D) mode colls taken steps z (eH H) (eH T) (eN fr) mk rc (nI (f + 4)) rN cN tl, b0, b1, op) Q := by
  intro J hJ
  refine hJ _ _ _ _ ?_
  refine s_head hz hS ?_
  refine v_isFunction ?_
  by_cases h4 : kV (ofV H S) = 4
  · rw [show (kV (ofV H S) == 4) = true by simp [h4]]
    refine And.intro (fun _ => ?_) (fun g => absurd g (by decide))
    refine s_tail hz hS ?_
    refine s_head hz (okV_of hB hS) ?_
    refine k_save (f := f + 1) hE hz hA hB hfr hS hE hC hD (by omega) ?_
    refine s_tail hz (okV_of hA hS) ?_
    refine s_newPair hz (by omega) (hfr _ (by omega)) ?_
    refine s_head hz (okV_of hA hS) ?_
    exact And.intro (Or.inr rfl) (h2 h4)
  · rw [show (kV (ofV H S) == 4) = false by simp [h4]]
    refine And.intro (fun g => absurd rfl g) (fun _ => ?_)
    exact And.intro (Or.inl rfl) (h1 h4)
theorem k_choose (hz : z ≤ 250) (hA : okA z H) (hB : okA z T) (hfr : ∀ j, j < z → fr j < z) (hS : okV z S) (hE : okV z E) (hC : okV z C) (hD : okV z D) (hf : f + 1 ≤ z) (h1 : ¬ kV (ofV H S) = 1 → Q (.inl (some (.int 0)), (mW o0 o1 o2 o3 o4 o5 o6 o7 o8 o9 o10 o11 o12 o13 o14 o15 (encV S) (encV E) (encV C) (encV D) mode colls taken steps z (eH H) (eH T) (eN fr) mk rc (nI (f + 1)) rN cN tl, b0, b1, op))) (h2 : kV (ofV H S) = 1 → ¬ (encV (ofV H S)).toInt32 = 0 → Q (.inl (some (.int 1)), (mW o0 o1 o2 o3 o4 o5 o6 o7 o8 o9 o10 o11 o12 o13 o14 o15 (encV (ofV T S)) (encV E) (encV (ofV (upW H (fr f) (ofV T (ofV T (ofV T C)))) (ofV T C))) (encV (vPr (fr f))) mode colls taken steps z (eH (upW H (fr f) (ofV T (ofV T (ofV T C))))) (eH (upW T (fr f) D)) (eN fr) mk rc (nI f) rN cN tl, b0, b1, op))) (h3 : kV (ofV H S) = 1 → (encV (ofV H S)).toInt32 = 0 → Q (.inl (some (.int 1)), (mW o0 o1 o2 o3 o4 o5 o6 o7 o8 o9 o10 o11 o12 o13 o14 o15 (encV (ofV T S)) (encV E) (encV (ofV (upW H (fr f) (ofV T (ofV T (ofV T C)))) (ofV T (ofV T C)))) (encV (vPr (fr f))) mode colls taken steps z (eH (upW H (fr f) (ofV T (ofV T (ofV T C))))) (eH (upW T (fr f) D)) (eN fr) mk rc (nI f) rN cN tl, b0, b1, op))) : mj_Mt gT cst gnw (m + 3) y_Machine_choose [.ref 16] (mW o0 o1 o2 o3 o4 o5 o6 o7 o8 o9 o10 o11 o12 o13 o14 o15 (encV S) (encV E) (encV C) (encV D) mode colls taken steps z (eH H) (eH T) (eN fr) mk rc (nI (f + 1)) rN cN tl, b0, b1, op) Q := by
  intro J hJ
  refine hJ _ _ _ _ ?_
  refine s_head hz hS ?_
  refine v_isNumber ?_
  by_cases h4 : kV (ofV H S) = 1
  · rw [show (kV (ofV H S) == 1) = true by simp [h4]]
    refine And.intro (fun _ => ?_) (fun g => absurd g (by decide))
    refine s_tail hz hC ?_
    refine s_tail hz (okV_of hB hC) ?_
    refine s_tail hz hS ?_
    refine s_tail hz (okV_of hB (okV_of hB hC)) ?_
    refine s_newPair hz (by omega) (hfr _ (by omega)) ?_
    refine v_content ?_
    refine And.intro (fun g => ?_) (fun g => ?_)
    · refine s_head hz (okV_of hB (okV_of hB hC)) ?_
      exact And.intro (Or.inr rfl) (h3 h4 g)
    · refine s_head hz (okV_of hB hC) ?_
      exact And.intro (Or.inr rfl) (h2 h4 g)
  · rw [show (kV (ofV H S) == 1) = false by simp [h4]]
    refine And.intro (fun g => absurd rfl g) (fun _ => ?_)
    exact And.intro (Or.inl rfl) (h1 h4)
theorem k_applyInFrame (hz : z ≤ 250) (hA : okA z H) (hB : okA z T) (hfr : ∀ j, j < z → fr j < z) (hS : okV z S) (hE : okV z E) (hC : okV z C) (hD : okV z D) (hf : f + 3 ≤ z) (h1 : ¬ kV (ofV H S) = 4 → Q (.inl (some (.int 0)), (mW o0 o1 o2 o3 o4 o5 o6 o7 o8 o9 o10 o11 o12 o13 o14 o15 (encV S) (encV E) (encV C) (encV D) mode colls taken steps z (eH H) (eH T) (eN fr) mk rc (nI (f + 3)) rN cN tl, b0, b1, op))) (h2 : kV (ofV H S) = 4 → ∀ i, cV (ofV (upW (upW (upW T (fr (f + 2)) D) (fr (f + 1)) (vPr (fr (f + 2)))) (fr f) (vPr (fr (f + 1)))) (ofV H S)) = nI i → i < z → Q (.inl (some (.int 1)), (mW o0 o1 o2 o3 o4 o5 o6 o7 o8 o9 o10 o11 o12 o13 o14 o15 (encV vNil) (encV (ofV (upW (upW (upW T (fr (f + 2)) D) (fr (f + 1)) (vPr (fr (f + 2)))) (fr f) (vPr (fr (f + 1)))) (ofV H S))) (encV (ofV (upW (upW (upW (upW H (fr (f + 2)) (ofV T C)) (fr (f + 1)) (ofV T E)) (fr f) (ofV T (ofV T S))) i (ofV H (ofV T S))) (ofV H S))) (encV (vPr (fr f))) mode colls taken steps z (eH (upW (upW (upW (upW H (fr (f + 2)) (ofV T C)) (fr (f + 1)) (ofV T E)) (fr f) (ofV T (ofV T S))) i (ofV H (ofV T S)))) (eH (upW (upW (upW T (fr (f + 2)) D) (fr (f + 1)) (vPr (fr (f + 2)))) (fr f) (vPr (fr (f + 1))))) (eN fr) mk rc (nI f) rN cN tl, b0, b1, op))) (h3 : kV (ofV H S) = 4 → cV (ofV (upW (upW (upW T (fr (f + 2)) D) (fr (f + 1)) (vPr (fr (f + 2)))) (fr f) (vPr (fr (f + 1)))) (ofV H S)) = -1 → Q (.inl (some (.int 1)), (mW o0 o1 o2 o3 o4 o5 o6 o7 o8 o9 o10 o11 o12 o13 o14 o15 (encV vNil) (encV (ofV (upW (upW (upW T (fr (f + 2)) D) (fr (f + 1)) (vPr (fr (f + 2)))) (fr f) (vPr (fr (f + 1)))) (ofV H S))) (encV (ofV (upW (upW (upW H (fr (f + 2)) (ofV T C)) (fr (f + 1)) (ofV T E)) (fr f) (ofV T (ofV T S))) (ofV H S))) (encV (vPr (fr f))) mode colls taken steps z (eH (upW (upW (upW H (fr (f + 2)) (ofV T C)) (fr (f + 1)) (ofV T E)) (fr f) (ofV T (ofV T S)))) (eH (upW (upW (upW T (fr (f + 2)) D) (fr (f + 1)) (vPr (fr (f + 2)))) (fr f) (vPr (fr (f + 1))))) (eN fr) mk rc (nI f) rN cN tl, b0, b1, op))) : mj_Mt gT cst gnw (m + 4) y_Machine_applyInFrame [.ref 16] (mW o0 o1 o2 o3 o4 o5 o6 o7 o8 o9 o10 o11 o12 o13 o14 o15 (encV S) (encV E) (encV C) (encV D) mode colls taken steps z (eH H) (eH T) (eN fr) mk rc (nI (f + 3)) rN cN tl, b0, b1, op) Q := by
  intro J hJ
  refine hJ _ _ _ _ ?_
  refine s_head hz hS ?_
  refine v_isFunction ?_
  by_cases h4 : kV (ofV H S) = 4
  · rw [show (kV (ofV H S) == 4) = true by simp [h4]]
    refine And.intro (fun _ => ?_) (fun g => absurd g (by decide))
    refine s_tail hz hS ?_
    refine s_head hz (okV_of hB hS) ?_
    refine s_tail hz hE ?_
    refine k_save (f := f) (okV_of hB hE) hz hA hB hfr hS hE hC hD (by omega) ?_
    refine s_tail hz (okV_of hA hS) ?_
    refine s_setHead hz (okV_of (okA_upd (okA_upd (okA_upd hB hD) (hfr _ (by omega))) (hfr _ (by omega))) (okV_of hA hS)) (fun i hi hiz => ?_) (fun hi => ?_)
    · refine s_head hz (okV_of hA hS) ?_
      exact And.intro (Or.inr rfl) (h2 h4 i hi hiz)
    · refine s_head hz (okV_of hA hS) ?_
      exact And.intro (Or.inr rfl) (h3 h4 hi)
  · rw [show (kV (ofV H S) == 4) = false by simp [h4]]
    refine And.intro (fun g => absurd rfl g) (fun _ => ?_)
    exact And.intro (Or.inl rfl) (h1 h4)
theorem k_pair (hz : z ≤ 250) (hA : okA z H) (hB : okA z T) (hfr : ∀ j, j < z → fr j < z) (hS : okV z S) (hE : okV z E) (hC : okV z C) (hD : okV z D) (hf : f + 2 ≤ z) (hQ : Q (.inl (some (.int 1)), (mW o0 o1 o2 o3 o4 o5 o6 o7 o8 o9 o10 o11 o12 o13 o14 o15 (encV (vPr (fr f))) (encV E) (encV (ofV (upW (upW T (fr (f + 1)) (ofV H (ofV T S))) (fr f) (behV (upW T (fr (f + 1)) (ofV H (ofV T S))) 2 S)) C)) (encV D) mode colls taken steps z (eH (upW (upW H (fr (f + 1)) (ofV H S)) (fr f) (vPr (fr (f + 1))))) (eH (upW (upW T (fr (f + 1)) (ofV H (ofV T S))) (fr f) (behV (upW T (fr (f + 1)) (ofV H (ofV T S))) 2 S))) (eN fr) mk rc (nI f) rN cN tl, b0, b1, op))) : mj_Mt gT cst gnw (m + 5) y_Machine_pair [.ref 16] (mW o0 o1 o2 o3 o4 o5 o6 o7 o8 o9 o10 o11 o12 o13 o14 o15 (encV S) (encV E) (encV C) (encV D) mode colls taken steps z (eH H) (eH T) (eN fr) mk rc (nI (f + 2)) rN cN tl, b0, b1, op) Q := by
  intro J hJ
  refine hJ _ _ _ _ ?_
  refine s_head hz hS ?_
  refine s_tail hz hS ?_
  refine s_head hz (okV_of hB hS) ?_
  refine s_newPair hz (by omega) (hfr _ (by omega)) ?_
  refine k_replace (n := 2) (by decide) (hfr _ (by omega)) hz (okA_upd hA (okV_of hA hS)) (okA_upd hB (okV_of hA (okV_of hB hS))) hfr hS hE hC hD (by omega) ?_
  exact And.intro (Or.inr rfl) hQ
theorem k_isNoPair (hz : z ≤ 250) (hA : okA z H) (hB : okA z T) (hfr : ∀ j, j < z → fr j < z) (hS : okV z S) (hE : okV z E) (hC : okV z C) (hD : okV z D) (hf : f + 1 ≤ z) (h1 : kV (ofV H S) = 3 → Q (.inl (some (.int 1)), (mW o0 o1 o2 o3 o4 o5 o6 o7 o8 o9 o10 o11 o12 o13 o14 o15 (encV (vPr (fr f))) (encV E) (encV (ofV (upW T (fr f) (behV T 1 S)) C)) (encV D) mode colls taken steps z (eH (upW H (fr f) (vInt 0))) (eH (upW T (fr f) (behV T 1 S))) (eN fr) mk rc (nI f) rN cN tl, b0, b1, op))) (h2 : ¬ kV (ofV H S) = 3 → Q (.inl (some (.int 1)), (mW o0 o1 o2 o3 o4 o5 o6 o7 o8 o9 o10 o11 o12 o13 o14 o15 (encV (vPr (fr f))) (encV E) (encV (ofV (upW T (fr f) (behV T 1 S)) C)) (encV D) mode colls taken steps z (eH (upW H (fr f) (vInt 1))) (eH (upW T (fr f) (behV T 1 S))) (eN fr) mk rc (nI f) rN cN tl, b0, b1, op))) : mj_Mt gT cst gnw (m + 5) y_Machine_isNoPair [.ref 16] (mW o0 o1 o2 o3 o4 o5 o6 o7 o8 o9 o10 o11 o12 o13 o14 o15 (encV S) (encV E) (encV C) (encV D) mode colls taken steps z (eH H) (eH T) (eN fr) mk rc (nI (f + 1)) rN cN tl, b0, b1, op) Q := by
  intro J hJ
  refine hJ _ _ _ _ ?_
  refine s_head hz hS ?_
  refine v_isPair ?_
  by_cases h4 : kV (ofV H S) = 3
  · rw [show (kV (ofV H S) == 3) = true by simp [h4]]
    refine And.intro (fun g => absurd g (by decide)) (fun _ => ?_)
    refine v_number (x := 0) ?_
    refine k_replace (n := 1) (by decide) trivial hz hA hB hfr hS hE hC hD (by omega) ?_
    exact And.intro (Or.inr rfl) (h1 h4)
  · rw [show (kV (ofV H S) == 3) = false by simp [h4]]
    refine And.intro (fun _ => ?_) (fun g => absurd rfl g)
    refine v_number (x := 1) ?_
    refine k_replace (n := 1) (by decide) trivial hz hA hB hfr hS hE hC hD (by omega) ?_
    exact And.intro (Or.inr rfl) (h2 h4)
theorem k_partOfPair {w : Int32} (hz : z ≤ 250) (hA : okA z H) (hB : okA z T) (hfr : ∀ j, j < z → fr j < z) (hS : okV z S) (hE : okV z E) (hC : okV z C) (hD : okV z D) (hf : f + 1 ≤ z) (h1 : ¬ kV (ofV H S) = 3 → Q (.inl (some (.int 0)), (mW o0 o1 o2 o3 o4 o5 o6 o7 o8 o9 o10 o11 o12 o13 o14 o15 (encV S) (encV E) (encV C) (encV D) mode colls taken steps z (eH H) (eH T) (eN fr) mk rc (nI (f + 1)) rN cN tl, b0, b1, op))) (h2 : kV (ofV H S) = 3 → w = 10 → Q (.inl (some (.int 1)), (mW o0 o1 o2 o3 o4 o5 o6 o7 o8 o9 o10 o11 o12 o13 o14 o15 (encV (vPr (fr f))) (encV E) (encV (ofV (upW T (fr f) (behV T 1 S)) C)) (encV D) mode colls taken steps z (eH (upW H (fr f) (ofV H (ofV H S)))) (eH (upW T (fr f) (behV T 1 S))) (eN fr) mk rc (nI f) rN cN tl, b0, b1, op))) (h3 : kV (ofV H S) = 3 → ¬ w = 10 → Q (.inl (some (.int 1)), (mW o0 o1 o2 o3 o4 o5 o6 o7 o8 o9 o10 o11 o12 o13 o14 o15 (encV (vPr (fr f))) (encV E) (encV (ofV (upW T (fr f) (behV T 1 S)) C)) (encV D) mode colls taken steps z (eH (upW H (fr f) (ofV T (ofV H S)))) (eH (upW T (fr f) (behV T 1 S))) (eN fr) mk rc (nI f) rN cN tl, b0, b1, op))) : mj_Mt gT cst gnw (m + 5) y_Machine_partOfPair [.ref 16, .int w] (mW o0 o1 o2 o3 o4 o5 o6 o7 o8 o9 o10 o11 o12 o13 o14 o15 (encV S) (encV E) (encV C) (encV D) mode colls taken steps z (eH H) (eH T) (eN fr) mk rc (nI (f + 1)) rN cN tl, b0, b1, op) Q := by
  intro J hJ
  refine hJ _ _ _ _ ?_
  refine s_head hz hS ?_
  refine v_isPair ?_
  by_cases h4 : kV (ofV H S) = 3
  · rw [show (kV (ofV H S) == 3) = true by simp [h4]]
    refine And.intro (fun _ => ?_) (fun g => absurd g (by decide))
    refine And.intro (fun (g : ¬ w = 10) => ?_) (fun (g : w = 10) => ?_)
    · refine s_tail hz (okV_of hA hS) ?_
      refine k_replace (n := 1) (by decide) (okV_of hB (okV_of hA hS)) hz hA hB hfr hS hE hC hD (by omega) ?_
      exact And.intro (Or.inr rfl) (h3 h4 g)
    · refine s_head hz (okV_of hA hS) ?_
      refine k_replace (n := 1) (by decide) (okV_of hA (okV_of hA hS)) hz hA hB hfr hS hE hC hD (by omega) ?_
      exact And.intro (Or.inr rfl) (h2 h4 g)
  · rw [show (kV (ofV H S) == 3) = false by simp [h4]]
    refine And.intro (fun g => absurd rfl g) (fun _ => ?_)
    exact And.intro (Or.inl rfl) (h1 h4)
def calV (w x y : Int32) : Int32 := if w = 15 then x + y else if w = 16 then x - y else if w = 17 then x * y else if x < y then 1 else 0
theorem k_calculated {h : mj_H} {w x y : Int32} (hQ : Q (.inl (some (.int (calV w x y))), h)) : mj_Mt gT cst gnw (m + 1) y_Machine_calculated [.int w, .int x, .int y] h Q := by
  intro J hJ
  refine hJ _ _ _ _ ?_
  unfold calV at hQ
  refine And.intro (fun (g : w = 15) => ?_) (fun (g : ¬ w = 15) => And.intro (fun (g2 : w = 16) => ?_) (fun (g2 : ¬ w = 16) => And.intro (fun (g3 : w = 17) => ?_) (fun (g3 : ¬ w = 17) => ?_)))
  · rw [if_pos g] at hQ
    exact hQ
  · rw [if_neg g, if_pos g2] at hQ
    exact hQ
  · rw [if_neg g, if_neg g2, if_pos g3] at hQ
    exact hQ
  · rw [if_neg g, if_neg g2, if_neg g3] at hQ
    refine And.intro (fun (g4 : y ≤ x) => ?_) (fun (g4 : ¬ y ≤ x) => ?_)
    · rw [if_neg (Int32.not_lt.mpr g4)] at hQ
      exact hQ
    · rw [if_pos (Int32.not_le.mp g4)] at hQ
      exact hQ
theorem k_calculate {w : Int32} (hz : z ≤ 250) (hA : okA z H) (hB : okA z T) (hfr : ∀ j, j < z → fr j < z) (hS : okV z S) (hE : okV z E) (hC : okV z C) (hD : okV z D) (hf : f + 1 ≤ z) (h1 : ¬ (kV (ofV H (ofV T S)) = 1 ∧ kV (ofV H S) = 1) → Q (.inl (some (.int 0)), (mW o0 o1 o2 o3 o4 o5 o6 o7 o8 o9 o10 o11 o12 o13 o14 o15 (encV S) (encV E) (encV C) (encV D) mode colls taken steps z (eH H) (eH T) (eN fr) mk rc (nI (f + 1)) rN cN tl, b0, b1, op))) (h2 : kV (ofV H (ofV T S)) = 1 → kV (ofV H S) = 1 → Q (.inl (some (.int 1)), (mW o0 o1 o2 o3 o4 o5 o6 o7 o8 o9 o10 o11 o12 o13 o14 o15 (encV (vPr (fr f))) (encV E) (encV (ofV (upW T (fr f) (behV T 2 S)) C)) (encV D) mode colls taken steps z (eH (upW H (fr f) (vInt (calV w (encV (ofV H (ofV T S))).toInt32 (encV (ofV H S)).toInt32)))) (eH (upW T (fr f) (behV T 2 S))) (eN fr) mk rc (nI f) rN cN tl, b0, b1, op))) : mj_Mt gT cst gnw (m + 5) y_Machine_calculate [.ref 16, .int w] (mW o0 o1 o2 o3 o4 o5 o6 o7 o8 o9 o10 o11 o12 o13 o14 o15 (encV S) (encV E) (encV C) (encV D) mode colls taken steps z (eH H) (eH T) (eN fr) mk rc (nI (f + 1)) rN cN tl, b0, b1, op) Q := by
  intro J hJ
  refine hJ _ _ _ _ ?_
  refine s_head hz hS ?_
  refine s_tail hz hS ?_
  refine s_head hz (okV_of hB hS) ?_
  refine v_isNumber ?_
  by_cases h4 : kV (ofV H (ofV T S)) = 1
  · rw [show (kV (ofV H (ofV T S)) == 1) = true by simp [h4]]
    refine And.intro (fun g => absurd g (by decide)) (fun _ => ?_)
    refine v_isNumber ?_
    by_cases h5 : kV (ofV H S) = 1
    · rw [show (kV (ofV H S) == 1) = true by simp [h5]]
      refine And.intro (fun _ => ?_) (fun g => absurd g (by decide))
      refine v_content ?_
      refine v_content ?_
      refine k_calculated ?_
      refine v_number ?_
      refine k_replace (n := 2) (by decide) trivial hz hA hB hfr hS hE hC hD (by omega) ?_
      exact And.intro (Or.inr rfl) (h2 h4 h5)
    · rw [show (kV (ofV H S) == 1) = false by simp [h5]]
      refine And.intro (fun g => absurd rfl g) (fun _ => ?_)
      exact And.intro (Or.inl rfl) (h1 (fun q => h5 q.2))
  · rw [show (kV (ofV H (ofV T S)) == 1) = false by simp [h4]]
    refine And.intro (fun _ => ?_) (fun g => absurd rfl g)
    exact And.intro (Or.inl rfl) (h1 (fun q => h4 q.1))
theorem k_instruction (hz : z ≤ 250) (hA : okA z H) (hB : okA z T) (hfr : ∀ j, j < z → fr j < z) (hS : okV z S) (hE : okV z E) (hC : okV z C) (hD : okV z D) (hQ : Q (.inl (some (.int (encV (ofV H C)).toInt32)), (mW o0 o1 o2 o3 o4 o5 o6 o7 o8 o9 o10 o11 o12 o13 o14 o15 (encV S) (encV E) (encV C) (encV D) mode colls taken steps z (eH H) (eH T) (eN fr) mk rc (nI f) rN cN tl, b0, b1, op))) : mj_Mt gT cst gnw (m + 3) y_Machine_instruction [.ref 16] (mW o0 o1 o2 o3 o4 o5 o6 o7 o8 o9 o10 o11 o12 o13 o14 o15 (encV S) (encV E) (encV C) (encV D) mode colls taken steps z (eH H) (eH T) (eN fr) mk rc (nI f) rN cN tl, b0, b1, op) Q := by
  intro J hJ
  refine hJ _ _ _ _ ?_
  refine s_head hz hC ?_
  exact v_content hQ
end P2c
end
section
abbrev eB (g : Nat → Bool) : Nat → Int32 := fun i => bI (g i)
theorem upd_bI (g : Nat → Bool) (k : Nat) (x : Bool) : upd (eB g) k (vp_nar .boolean (bI x)) = eB (upW g k x) := by
  funext j
  show (if j = k then vp_nar .boolean (bI x) else bI (g j)) = bI (if j = k then x else g j)
  split
  · cases x <;> decide
  · rfl
abbrev gS : Type := (Nat → Bool) × (Nat → Nat) × Nat
def ceV (v : Vl) : Option Nat := match v with
  | .inr (.inr (.inr (.inl i))) => some i
  | .inr (.inr (.inr (.inr i))) => some i
  | _ => none
def rch (z : Nat) (v : Vl) (g : gS) : gS := match ceV v with
  | none => g
  | some i => if g.1 i = false ∧ g.2.2 < z then (upW g.1 i true, upW g.2.1 g.2.2 i, g.2.2 + 1) else g
def okG (z : Nat) (g : gS) : Prop := g.2.2 ≤ z ∧ ∀ k, k < g.2.2 → g.2.1 k < z
theorem ceV_cases (z : Nat) (v : Vl) (hv : okV z v) : (cV v = -1 ∧ ceV v = none) ∨ ∃ i, i < z ∧ cV v = nI i ∧ ceV v = some i := by
  rcases v with u | x | x | i | i
  · exact Or.inl ⟨rfl, rfl⟩
  · exact Or.inl ⟨rfl, rfl⟩
  · exact Or.inl ⟨rfl, rfl⟩
  · exact Or.inr ⟨i, hv, rfl, rfl⟩
  · exact Or.inr ⟨i, hv, rfl, rfl⟩
theorem okG_rch {z : Nat} {v : Vl} {g : gS} (hv : okV z v) (hg : okG z g) : okG z (rch z v g) := by
  unfold rch
  rcases ceV_cases z v hv with ⟨-, e⟩ | ⟨i, hi, -, e⟩
  · rw [e]
    exact hg
  · rw [e]
    show okG z (if g.1 i = false ∧ g.2.2 < z then _ else g)
    split
    · rename_i h
      refine ⟨h.2, fun k hk => ?_⟩
      show upW g.2.1 g.2.2 i k < z
      unfold upW
      split
      · exact hi
      · exact hg.2 k (by have : k < g.2.2 + 1 := hk; omega)
    · exact hg
def bfs (z : Nat) (H T : Nat → Vl) : Nat → Nat → gS → gS
  | 0, _, g => g
  | n + 1, k, g => if k < g.2.2 then bfs z H T n (k + 1) (rch z (T ((rch z (H (g.2.1 k)) g).2.1 k)) (rch z (H (g.2.1 k)) g)) else g
theorem rch_keep {z k : Nat} {v : Vl} {g : gS} (hk : k < g.2.2) : (rch z v g).2.1 k = g.2.1 k ∧ k < (rch z v g).2.2 := by
  unfold rch
  split
  · exact ⟨rfl, hk⟩
  · split
    · refine ⟨?_, by show k < g.2.2 + 1; omega⟩
      show upW g.2.1 g.2.2 _ k = g.2.1 k
      unfold upW
      rw [if_neg (by omega)]
    · exact ⟨rfl, hk⟩
def clr (k : Nat) (f : Nat → Bool) : Nat → Bool := fun i => if i < k then false else f i
theorem clr_step (k : Nat) (f : Nat → Bool) : upd (eB (clr k f)) k (vp_nar .boolean 0) = eB (clr (k + 1) f) := by
  have e : vp_nar .boolean 0 = vp_nar .boolean (bI false) := rfl
  rw [e, upd_bI]
  congr 1
  funext j
  unfold upW clr
  by_cases h : j = k
  · rw [if_pos h, if_pos (by omega)]
  · rw [if_neg h]
    by_cases h2 : j < k
    · rw [if_pos h2, if_pos (by omega)]
    · rw [if_neg h2, if_neg (by omega)]
theorem clr_0 (f : Nat → Bool) : clr 0 f = f := by
  funext j
  unfold clr
  rw [if_neg (by omega)]
def mrk (z : Nat) (H T : Nat → Vl) (S E C D K : Vl) : gS → gS := fun g => bfs z H T z 0 (rch z K (rch z D (rch z C (rch z E (rch z S (clr z g.1, g.2.1, 0))))))
def fuN (mk : Nat → Bool) : Nat → Nat → (Nat → Nat) × Nat → (Nat → Nat) × Nat
  | 0, _, p => p
  | n + 1, c, p => if mk c then fuN mk n (c + 1) p else fuN mk n (c + 1) (upW p.1 p.2 c, p.2 + 1)
def faN : Nat → Nat → (Nat → Nat) × Nat → (Nat → Nat) × Nat
  | 0, _, p => p
  | n + 1, c, p => faN n (c + 1) (upW p.1 p.2 c, p.2 + 1)
def lenN (T : Nat → Vl) : Nat → Vl → Nat
  | 0, _ => 0
  | n + 1, v => match v with
    | .inr (.inr (.inr (.inl i))) => lenN T n (T i) + 1
    | _ => 0
section P2d
variable {cst : Nat → Option (Nat × (Nat → Int32))} {m b0 b1 : Nat} {op : Bool} {tl : List mj_O} {Q : mj_R → Prop}
variable {o0 o1 o2 o3 o4 o5 o6 o7 o8 o9 o10 o11 o12 o13 o14 o15 o16 : mj_O} {z : Nat} {H T : Nat → Vl} {hR tR : Nat → Int64} {fr : Nat → Nat} {frR mkR rcR : Nat → Int32} {f : Nat} {fN rN cN : Int32} {g : gS}
set_option maxRecDepth 10000
theorem s_reach {v : Vl} (hz : z ≤ 250) (hv : okV z v) (hg : okG z g) (hQ : Q (.inl none, (sW o0 o1 o2 o3 o4 o5 o6 o7 o8 o9 o10 o11 o12 o13 o14 o15 o16 z hR tR frR (eB (rch z v g).1) (eN (rch z v g).2.1) fN (nI (rch z v g).2.2) cN tl, b0, b1, op))) : mj_Mt gT cst gnw (m + 2) y_Store_reach [.ref 17, .long (encV v)] (sW o0 o1 o2 o3 o4 o5 o6 o7 o8 o9 o10 o11 o12 o13 o14 o15 o16 z hR tR frR (eB g.1) (eN g.2.1) fN (nI g.2.2) cN tl, b0, b1, op) Q := by
  obtain ⟨mk, rc, n⟩ := g
  intro J hJ
  refine hJ _ _ _ _ ?_
  refine v_cell ?_
  rcases ceV_cases z v hv with ⟨e, e2⟩ | ⟨i, hi, e, e2⟩
  · have e3 : rch z v (mk, rc, n) = (mk, rc, n) := by
      unfold rch
      rw [e2]
    rw [e3] at hQ
    rw [e]
    exact And.intro (fun _ => hQ) (fun g => absurd (by decide) g)
  · have e3 : rch z v (mk, rc, n) = if mk i = false ∧ n < z then (upW mk i true, upW rc n i, n + 1) else (mk, rc, n) := by
      unfold rch
      rw [e2]
    have hn : n ≤ z := hg.1
    rw [e3] at hQ
    rw [e]
    have ei : (nI i).toNatClampNeg = i := nI_clamp (by omega)
    refine And.intro (fun (q : nI i < 0) => absurd q (nI_pos (by omega))) (fun _ => ?_)
    refine And.intro (fun (q : nI z ≤ nI i) => absurd q (nI_ge hi (by omega))) (fun _ => ?_)
    refine And.intro (vp_in_nI hi (by omega)) ?_
    refine And.intro (fun (q : ¬ bI (mk (nI i).toNatClampNeg) = 0) => ?_) (fun (q : bI (mk (nI i).toNatClampNeg) = 0) => ?_)
    · rw [ei] at q
      have hm : ¬ mk i = false := fun h => q (by rw [h]; rfl)
      rw [if_neg (fun h => hm h.1)] at hQ
      exact hQ
    · rw [ei] at q
      have hm : mk i = false := by
        cases h : mk i with
        | false => rfl
        | true => rw [h] at q; exact absurd q (by decide)
      by_cases hnz : n < z
      · rw [if_pos ⟨hm, hnz⟩] at hQ
        refine And.intro (fun (q : nI z ≤ nI n) => absurd q (nI_ge hnz (by omega))) (fun _ => ?_)
        refine And.intro (vp_in_nI hi (by omega)) ?_
        refine And.intro (vp_in_nI hnz (by omega)) ?_
        have key : ∀ (a b : Nat) (x : Int32), a = i → b = n → x = nI (n + 1) → Q (.inl none, (sW o0 o1 o2 o3 o4 o5 o6 o7 o8 o9 o10 o11 o12 o13 o14 o15 o16 z hR tR frR (upd (eB mk) a (vp_nar .boolean (bI true))) (upd (eN rc) b (nI i)) fN x cN tl, b0, b1, op)) := by
          rintro a b x rfl rfl rfl
          rw [upd_bI, upd_nI]
          exact hQ
        exact key _ _ _ ei (nI_clamp (show n < 2 ^ 31 by omega)) (nI_succ n).symm
      · rw [if_neg (fun h => hnz h.2)] at hQ
        exact And.intro (fun _ => hQ) (fun (q : ¬ nI z ≤ nI n) => absurd (nI_le (by omega) (by omega)) q)
theorem s_length {v : Vl} (hz : z ≤ 250) (hT : okA z T) (hv : okV z v) (hQ : Q (.inl (some (.int (nI (lenN T z v)))), (sW o0 o1 o2 o3 o4 o5 o6 o7 o8 o9 o10 o11 o12 o13 o14 o15 o16 z hR (eH T) frR mkR rcR fN rN cN tl, b0, b1, op))) : mj_Mt gT cst gnw (m + 3) y_Store_length [.ref 17, .long (encV v)] (sW o0 o1 o2 o3 o4 o5 o6 o7 o8 o9 o10 o11 o12 o13 o14 o15 o16 z hR (eH T) frR mkR rcR fN rN cN tl, b0, b1, op) Q := by
  intro J hJ
  have loop : ∀ (j k : Nat) (u : Vl), j + k = z → okV z u → lenN T j u + k = lenN T z v → J 4 [some (.ref 17), some (.long (encV v)), none, some (.int (nI k)), some (.long (encV u)), none] [] (sW o0 o1 o2 o3 o4 o5 o6 o7 o8 o9 o10 o11 o12 o13 o14 o15 o16 z hR (eH T) frR mkR rcR fN rN cN tl, b0, b1, op) := by
    intro j
    induction j with
    | zero =>
      intro k u hk hu e
      have e' : k = lenN T z v := by
        have : lenN T 0 u = 0 := rfl
        omega
      refine hJ _ _ _ _ ?_
      refine v_isPair ?_
      have hQ' : Q (.inl (some (.int (nI k))), (sW o0 o1 o2 o3 o4 o5 o6 o7 o8 o9 o10 o11 o12 o13 o14 o15 o16 z hR (eH T) frR mkR rcR fN rN cN tl, b0, b1, op)) := by rw [e']; exact hQ
      by_cases h3 : kV u = 3
      · rw [show (kV u == 3) = true by simp [h3]]
        refine And.intro (fun g => absurd g (by decide)) (fun _ => ?_)
        exact And.intro (fun _ => hQ') (fun (g : ¬ nI z ≤ nI k) => absurd (nI_le (by omega) (by omega)) g)
      · rw [show (kV u == 3) = false by simp [h3]]
        exact And.intro (fun _ => hQ') (fun g => absurd rfl g)
    | succ j ih =>
      intro k u hk hu e
      refine hJ _ _ _ _ ?_
      refine v_isPair ?_
      by_cases h3 : kV u = 3
      · rw [show (kV u == 3) = true by simp [h3]]
        refine And.intro (fun g => absurd g (by decide)) (fun _ => ?_)
        refine And.intro (fun (g : nI z ≤ nI k) => absurd g (nI_ge (by omega) (by omega))) (fun _ => ?_)
        refine s_tail hz hu ?_
        rcases u with u | x | x | i | i
        · exact absurd h3 (by simp [kV])
        · exact absurd h3 (by simp [kV])
        · exact absurd h3 (by simp [kV])
        · have key : ∀ x : Int32, x = nI (k + 1) → J 4 [some (.ref 17), some (.long (encV v)), none, some (.int x), some (.long (encV (T i))), none] [] (sW o0 o1 o2 o3 o4 o5 o6 o7 o8 o9 o10 o11 o12 o13 o14 o15 o16 z hR (eH T) frR mkR rcR fN rN cN tl, b0, b1, op) := by
            rintro x rfl
            have e2 : lenN T (j + 1) (vPr i) = lenN T j (T i) + 1 := rfl
            exact ih (k + 1) (T i) (by omega) (hT i hu) (by rw [e2] at e; omega)
          exact key _ (nI_succ k).symm
        · exact absurd h3 (by simp [kV])
      · have e2 : lenN T (j + 1) u = 0 := by
          rcases u with u | x | x | i | i
          · rfl
          · rfl
          · rfl
          · exact absurd rfl h3
          · rfl
        have hQ' : Q (.inl (some (.int (nI k))), (sW o0 o1 o2 o3 o4 o5 o6 o7 o8 o9 o10 o11 o12 o13 o14 o15 o16 z hR (eH T) frR mkR rcR fN rN cN tl, b0, b1, op)) := by
          rw [show k = lenN T z v by omega]
          exact hQ
        rw [show (kV u == 3) = false by simp [h3]]
        exact And.intro (fun _ => hQ') (fun g => absurd rfl g)
  refine hJ _ _ _ _ ?_
  exact loop z 0 v (by omega) hv (by omega)
theorem s_code {c : Nat} (hc : c ≤ 250) (hQ : Q (.inl (some (.long (encV (if c = 0 then vNil else vPr 0)))), (sW o0 o1 o2 o3 o4 o5 o6 o7 o8 o9 o10 o11 o12 o13 o14 o15 o16 z hR tR frR mkR rcR fN rN (nI c) tl, b0, b1, op))) : mj_Mt gT cst gnw (m + 2) y_Store_code [.ref 17] (sW o0 o1 o2 o3 o4 o5 o6 o7 o8 o9 o10 o11 o12 o13 o14 o15 o16 z hR tR frR mkR rcR fN rN (nI c) tl, b0, b1, op) Q := by
  intro J hJ
  refine hJ _ _ _ _ ?_
  by_cases h : c = 0
  · rw [if_pos h] at hQ
    exact And.intro (fun _ => hQ) (fun (q : ¬ nI c ≤ 0) => absurd (by rw [h]; decide) q)
  · rw [if_neg h] at hQ
    refine And.intro (fun (q : nI c ≤ 0) => absurd q (nI_nle (by omega) (by omega))) (fun _ => ?_)
    exact v_pair (a := 0) hQ
theorem s_mark {S E C D : Vl} {c : Nat} (hz : z ≤ 250) (hc : c ≤ z) (hH : okA z H) (hT : okA z T) (hS : okV z S) (hE : okV z E) (hC : okV z C) (hD : okV z D) (hQ : Q (.inl (some (.int (nI (mrk z H T S E C D (if c = 0 then vNil else vPr 0) g).2.2))), (sW o0 o1 o2 o3 o4 o5 o6 o7 o8 o9 o10 o11 o12 o13 o14 o15 o16 z (eH H) (eH T) frR (eB (mrk z H T S E C D (if c = 0 then vNil else vPr 0) g).1) (eN (mrk z H T S E C D (if c = 0 then vNil else vPr 0) g).2.1) fN (nI (mrk z H T S E C D (if c = 0 then vNil else vPr 0) g).2.2) (nI c) tl, b0, b1, op))) : mj_Mt gT cst gnw (m + 3) y_Store_mark [.ref 17, .long (encV S), .long (encV E), .long (encV C), .long (encV D)] (sW o0 o1 o2 o3 o4 o5 o6 o7 o8 o9 o10 o11 o12 o13 o14 o15 o16 z (eH H) (eH T) frR (eB g.1) (eN g.2.1) fN (nI g.2.2) (nI c) tl, b0, b1, op) Q := by
  obtain ⟨mk, rc, n⟩ := g
  have hK : okV z (if c = 0 then vNil else vPr 0) := by
    split
    · exact trivial
    · show 0 < z
      omega
  generalize hKe : (if c = 0 then vNil else vPr 0) = K at hQ hK
  intro J hJ
  have loop2 : ∀ (j k : Nat) (g : gS), j + k = z → okG z g → bfs z H T j k g = mrk z H T S E C D K (mk, rc, n) → J 34 [some (.ref 17), some (.long (encV S)), none, some (.long (encV E)), none, some (.long (encV C)), none, some (.long (encV D)), none, some (.int (nI k))] [] (sW o0 o1 o2 o3 o4 o5 o6 o7 o8 o9 o10 o11 o12 o13 o14 o15 o16 z (eH H) (eH T) frR (eB g.1) (eN g.2.1) fN (nI g.2.2) (nI c) tl, b0, b1, op) := by
    intro j
    induction j with
    | zero =>
      intro k g hk hg e
      change g = _ at e
      subst e
      have h1 := hg.1
      refine hJ _ _ _ _ ?_
      exact And.intro (fun _ => hQ) (fun _ => And.intro (fun _ => hQ) (fun (q : ¬ nI z ≤ nI k) => absurd (nI_le (by omega) (by omega)) q))
    | succ j ih =>
      intro k g hk hg e
      have h1 := hg.1
      have e2 : bfs z H T (j + 1) k g = if k < g.2.2 then bfs z H T j (k + 1) (rch z (T ((rch z (H (g.2.1 k)) g).2.1 k)) (rch z (H (g.2.1 k)) g)) else g := rfl
      rw [e2] at e
      refine hJ _ _ _ _ ?_
      by_cases hkn : k < g.2.2
      · rw [if_pos hkn] at e
        have hc1 := hg.2 k hkn
        have hg1 := okG_rch (hH _ hc1) hg
        obtain ⟨k1, k2⟩ := rch_keep (z := z) (v := H (g.2.1 k)) hkn
        have hc2 := hg1.2 k k2
        have hg2 := okG_rch (hT _ hc2) hg1
        refine And.intro (fun (q : nI g.2.2 ≤ nI k) => absurd q (nI_ge hkn (by omega))) (fun _ => ?_)
        refine And.intro (fun (q : nI z ≤ nI k) => absurd q (nI_ge (by omega) (by omega))) (fun _ => ?_)
        have ek : (nI k).toNatClampNeg = k := nI_clamp (by omega)
        refine And.intro (vp_in_nI (show k < z by omega) (by omega)) ?_
        rw [ek]
        refine And.intro (vp_in_nI hc1 (by omega)) ?_
        rw [show (nI (g.2.1 k)).toNatClampNeg = g.2.1 k from nI_clamp (by omega)]
        refine s_reach hz (hH _ hc1) hg ?_
        refine And.intro (vp_in_nI (show k < z by omega) (by omega)) ?_
        rw [ek]
        refine And.intro (vp_in_nI hc2 (by omega)) ?_
        rw [show (nI ((rch z (H (g.2.1 k)) g).2.1 k)).toNatClampNeg = (rch z (H (g.2.1 k)) g).2.1 k from nI_clamp (by omega)]
        refine s_reach hz (hT _ hc2) hg1 ?_
        have key : ∀ x : Int32, x = nI (k + 1) → J 34 [some (.ref 17), some (.long (encV S)), none, some (.long (encV E)), none, some (.long (encV C)), none, some (.long (encV D)), none, some (.int x)] [] (sW o0 o1 o2 o3 o4 o5 o6 o7 o8 o9 o10 o11 o12 o13 o14 o15 o16 z (eH H) (eH T) frR (eB (rch z (T ((rch z (H (g.2.1 k)) g).2.1 k)) (rch z (H (g.2.1 k)) g)).1) (eN (rch z (T ((rch z (H (g.2.1 k)) g).2.1 k)) (rch z (H (g.2.1 k)) g)).2.1) fN (nI (rch z (T ((rch z (H (g.2.1 k)) g).2.1 k)) (rch z (H (g.2.1 k)) g)).2.2) (nI c) tl, b0, b1, op) := by
          rintro x rfl
          exact ih (k + 1) _ (by omega) hg2 e
        exact key _ (nI_succ k).symm
      · rw [if_neg hkn] at e
        rw [← e] at hQ
        exact And.intro (fun _ => hQ) (fun (q : ¬ nI g.2.2 ≤ nI k) => absurd (nI_le (by omega) (by omega)) q)
  have loop1 : ∀ (j k : Nat), j + k = z → J 2 [some (.ref 17), some (.long (encV S)), none, some (.long (encV E)), none, some (.long (encV C)), none, some (.long (encV D)), none, some (.int (nI k))] [] (sW o0 o1 o2 o3 o4 o5 o6 o7 o8 o9 o10 o11 o12 o13 o14 o15 o16 z (eH H) (eH T) frR (eB (clr k mk)) (eN rc) fN (nI n) (nI c) tl, b0, b1, op) := by
    intro j
    induction j with
    | zero =>
      intro k hk
      have e : k = z := by omega
      subst e
      refine hJ _ _ _ _ ?_
      refine And.intro (fun _ => ?_) (fun (q : ¬ nI k ≤ nI k) => absurd (nI_le (by omega) (by omega)) q)
      have g0 : okG k (clr k mk, rc, 0) := ⟨by show 0 ≤ k; omega, fun i hi => absurd hi (by show ¬ i < 0; omega)⟩
      have g1 := okG_rch hS g0
      have g2 := okG_rch hE g1
      have g3 := okG_rch hC g2
      have g4 := okG_rch hD g3
      have g5 := okG_rch hK g4
      refine s_reach (g := (clr k mk, rc, 0)) hz hS g0 ?_
      refine s_reach hz hE g1 ?_
      refine s_reach hz hC g2 ?_
      refine s_reach hz hD g3 ?_
      refine s_code (by omega) ?_
      rw [hKe]
      refine s_reach hz hK g4 ?_
      exact loop2 k 0 _ (by omega) g5 rfl
    | succ j ih =>
      intro k hk
      refine hJ _ _ _ _ ?_
      refine And.intro (fun (q : nI z ≤ nI k) => absurd q (nI_ge (by omega) (by omega))) (fun _ => ?_)
      refine And.intro (vp_in_nI (show k < z by omega) (by omega)) ?_
      have key : ∀ (i : Nat) (x : Int32), i = k → x = nI (k + 1) → J 2 [some (.ref 17), some (.long (encV S)), none, some (.long (encV E)), none, some (.long (encV C)), none, some (.long (encV D)), none, some (.int x)] [] (sW o0 o1 o2 o3 o4 o5 o6 o7 o8 o9 o10 o11 o12 o13 o14 o15 o16 z (eH H) (eH T) frR (upd (eB (clr k mk)) i (vp_nar .boolean 0)) (eN rc) fN (nI n) (nI c) tl, b0, b1, op) := by
        rintro i x rfl rfl
        rw [clr_step]
        exact ih (i + 1) (by omega)
      exact key _ _ (nI_clamp (by omega)) (nI_succ k).symm
  refine hJ _ _ _ _ ?_
  have h0 := loop1 z 0 (by omega)
  rw [clr_0] at h0
  exact h0
variable {mk : Nat → Bool} {p : (Nat → Nat) × Nat}
theorem fuN_le (mk : Nat → Bool) : ∀ (j c : Nat) (p : (Nat → Nat) × Nat), (fuN mk j c p).2 ≤ p.2 + j := by
  intro j
  induction j with
  | zero => intro c p; exact Nat.le_refl _
  | succ j ih =>
    intro c p
    have e : fuN mk (j + 1) c p = if mk c then fuN mk j (c + 1) p else fuN mk j (c + 1) (upW p.1 p.2 c, p.2 + 1) := rfl
    rw [e]
    split
    · have := ih (c + 1) p
      omega
    · have h1 := ih (c + 1) (upW p.1 p.2 c, p.2 + 1)
      have h2 : (upW p.1 p.2 c, p.2 + 1).2 = p.2 + 1 := rfl
      omega
theorem s_freeUnmarked (hz : z ≤ 250) (hQ : Q (.inl (some (.int (nI (fuN mk z 0 (p.1, 0)).2 - nI p.2))), (sW o0 o1 o2 o3 o4 o5 o6 o7 o8 o9 o10 o11 o12 o13 o14 o15 o16 z hR tR (eN (fuN mk z 0 (p.1, 0)).1) (eB mk) rcR (nI (fuN mk z 0 (p.1, 0)).2) rN cN tl, b0, b1, op))) : mj_Mt gT cst gnw (m + 1) y_Store_freeUnmarked [.ref 17] (sW o0 o1 o2 o3 o4 o5 o6 o7 o8 o9 o10 o11 o12 o13 o14 o15 o16 z hR tR (eN p.1) (eB mk) rcR (nI p.2) rN cN tl, b0, b1, op) Q := by
  obtain ⟨fr, f⟩ := p
  intro J hJ
  have loop : ∀ (j c : Nat) (p : (Nat → Nat) × Nat), j + c = z → p.2 ≤ c → fuN mk j c p = fuN mk z 0 (fr, 0) → J 8 [some (.ref 17), some (.int (nI f)), some (.int (nI c))] [] (sW o0 o1 o2 o3 o4 o5 o6 o7 o8 o9 o10 o11 o12 o13 o14 o15 o16 z hR tR (eN p.1) (eB mk) rcR (nI p.2) rN cN tl, b0, b1, op) := by
    intro j
    induction j with
    | zero =>
      intro c p hc hp e
      change p = _ at e
      have ec : c = z := by omega
      subst ec
      rw [← e] at hQ
      refine hJ _ _ _ _ ?_
      exact And.intro (fun _ => hQ) (fun (q : ¬ nI c ≤ nI c) => absurd (nI_le (by omega) (by omega)) q)
    | succ j ih =>
      intro c p hc hp e
      have e2 : fuN mk (j + 1) c p = if mk c then fuN mk j (c + 1) p else fuN mk j (c + 1) (upW p.1 p.2 c, p.2 + 1) := rfl
      rw [e2] at e
      have ec : (nI c).toNatClampNeg = c := nI_clamp (by omega)
      refine hJ _ _ _ _ ?_
      refine And.intro (fun (q : nI z ≤ nI c) => absurd q (nI_ge (by omega) (by omega))) (fun _ => ?_)
      refine And.intro (vp_in_nI (show c < z by omega) (by omega)) ?_
      rw [ec]
      refine And.intro (fun (q : ¬ bI (mk c) = 0) => ?_) (fun (q : bI (mk c) = 0) => ?_)
      · have hm : mk c = true := by
          cases h : mk c with
          | true => rfl
          | false => rw [h] at q; exact absurd rfl q
        rw [hm, if_pos rfl] at e
        have key : ∀ x : Int32, x = nI (c + 1) → J 8 [some (.ref 17), some (.int (nI f)), some (.int x)] [] (sW o0 o1 o2 o3 o4 o5 o6 o7 o8 o9 o10 o11 o12 o13 o14 o15 o16 z hR tR (eN p.1) (eB mk) rcR (nI p.2) rN cN tl, b0, b1, op) := by
          rintro x rfl
          exact ih (c + 1) p (by omega) (by omega) e
        exact key _ (nI_succ c).symm
      · have hm : mk c = false := by
          cases h : mk c with
          | false => rfl
          | true => rw [h] at q; exact absurd q (by decide)
        rw [hm] at e
        rw [if_neg (by decide)] at e
        refine And.intro (vp_in_nI (show p.2 < z by omega) (by omega)) ?_
        have key : ∀ (i : Nat) (x y : Int32), i = p.2 → x = nI (c + 1) → y = nI (p.2 + 1) → J 8 [some (.ref 17), some (.int (nI f)), some (.int x)] [] (sW o0 o1 o2 o3 o4 o5 o6 o7 o8 o9 o10 o11 o12 o13 o14 o15 o16 z hR tR (upd (eN p.1) i (nI c)) (eB mk) rcR y rN cN tl, b0, b1, op) := by
          rintro i x y rfl rfl rfl
          rw [upd_nI]
          exact ih (c + 1) (upW p.1 p.2 c, p.2 + 1) (by omega) (by show p.2 + 1 ≤ c + 1; omega) e
        exact key _ _ _ (nI_clamp (by omega)) (nI_succ c).symm (nI_succ p.2).symm
  refine hJ _ _ _ _ ?_
  exact loop z 0 (fr, 0) (by omega) (by show 0 ≤ 0; omega) rfl
theorem s_freeAllButCode {c : Nat} (hz : z ≤ 250) (hc : c ≤ z) (hQ : Q (.inl none, (sW o0 o1 o2 o3 o4 o5 o6 o7 o8 o9 o10 o11 o12 o13 o14 o15 o16 z hR tR (eN (faN (z - c) c (fr, 0)).1) mkR rcR (nI (faN (z - c) c (fr, 0)).2) rN (nI c) tl, b0, b1, op))) : mj_Mt gT cst gnw (m + 1) y_Store_freeAllButCode [.ref 17] (sW o0 o1 o2 o3 o4 o5 o6 o7 o8 o9 o10 o11 o12 o13 o14 o15 o16 z hR tR (eN fr) mkR rcR fN rN (nI c) tl, b0, b1, op) Q := by
  intro J hJ
  have loop : ∀ (j k : Nat) (p : (Nat → Nat) × Nat), j + k = z → p.2 ≤ k → faN j k p = faN (z - c) c (fr, 0) → J 6 [some (.ref 17), some (.int (nI k))] [] (sW o0 o1 o2 o3 o4 o5 o6 o7 o8 o9 o10 o11 o12 o13 o14 o15 o16 z hR tR (eN p.1) mkR rcR (nI p.2) rN (nI c) tl, b0, b1, op) := by
    intro j
    induction j with
    | zero =>
      intro k p hk hp e
      change p = _ at e
      have ek : k = z := by omega
      subst ek
      rw [← e] at hQ
      refine hJ _ _ _ _ ?_
      exact And.intro (fun _ => hQ) (fun (q : ¬ nI k ≤ nI k) => absurd (nI_le (by omega) (by omega)) q)
    | succ j ih =>
      intro k p hk hp e
      refine hJ _ _ _ _ ?_
      refine And.intro (fun (q : nI z ≤ nI k) => absurd q (nI_ge (by omega) (by omega))) (fun _ => ?_)
      refine And.intro (vp_in_nI (show p.2 < z by omega) (by omega)) ?_
      have key : ∀ (i : Nat) (x y : Int32), i = p.2 → x = nI (k + 1) → y = nI (p.2 + 1) → J 6 [some (.ref 17), some (.int x)] [] (sW o0 o1 o2 o3 o4 o5 o6 o7 o8 o9 o10 o11 o12 o13 o14 o15 o16 z hR tR (upd (eN p.1) i (nI k)) mkR rcR y rN (nI c) tl, b0, b1, op) := by
        rintro i x y rfl rfl rfl
        rw [upd_nI]
        exact ih (k + 1) (upW p.1 p.2 k, p.2 + 1) (by omega) (by show p.2 + 1 ≤ k + 1; omega) e
      exact key _ _ _ (nI_clamp (by omega)) (nI_succ k).symm (nI_succ p.2).symm
  refine hJ _ _ _ _ ?_
  exact loop (z - c) c (fr, 0) (by omega) (by show 0 ≤ c; omega) rfl
end P2d
end
section
theorem lg_eq {x y : Int64} : lg_cmp x y = 0 ↔ x = y := by
  unfold lg_cmp
  split
  · rename_i h
    refine ⟨fun q => absurd q (by decide), fun q => ?_⟩
    subst q
    exact absurd h Int64.lt_irrefl
  · split
    · rename_i h
      exact ⟨fun _ => h, fun _ => rfl⟩
    · rename_i h
      exact ⟨fun q => absurd q (by decide), fun q => absurd q h⟩
def sameV (x y : Vl) : Bool := decide (encV x = encV y) && decide (cV x = -1)
section P2e
variable {cst : Nat → Option (Nat × (Nat → Int32))} {m b0 b1 : Nat} {op : Bool} {tl : List mj_O} {Q : mj_R → Prop}
variable {o0 o1 o2 o3 o4 o5 o6 o7 o8 o9 o10 o11 o12 o13 o14 o15 : mj_O} {S E C D : Vl} {mode colls taken steps : Int32} {z : Nat} {H T : Nat → Vl} {fr : Nat → Nat} {mk rc : Nat → Int32} {f : Nat} {rN cN : Int32}
set_option maxRecDepth 10000
theorem k_variable {n : Nat} (hn : n < 10000) (hv : (encV (ofV H (ofV T C))).toInt32 = nI n) (hz : z ≤ 250) (hA : okA z H) (hB : okA z T) (hfr : ∀ j, j < z → fr j < z) (hS : okV z S) (hE : okV z E) (hC : okV z C) (hD : okV z D) (hf : f + 1 ≤ z) (h1 : ¬ kV (behV T (n / 16) E) = 3 → Q (.inl (some (.int 0)), (mW o0 o1 o2 o3 o4 o5 o6 o7 o8 o9 o10 o11 o12 o13 o14 o15 (encV S) (encV E) (encV C) (encV D) mode colls taken steps z (eH H) (eH T) (eN fr) mk rc (nI (f + 1)) rN cN tl, b0, b1, op))) (h2 : kV (behV T (n / 16) E) = 3 → ¬ kV (behV T (n % 16) (ofV H (behV T (n / 16) E))) = 3 → Q (.inl (some (.int 0)), (mW o0 o1 o2 o3 o4 o5 o6 o7 o8 o9 o10 o11 o12 o13 o14 o15 (encV S) (encV E) (encV C) (encV D) mode colls taken steps z (eH H) (eH T) (eN fr) mk rc (nI (f + 1)) rN cN tl, b0, b1, op))) (h3 : kV (behV T (n / 16) E) = 3 → kV (behV T (n % 16) (ofV H (behV T (n / 16) E))) = 3 → Q (.inl (some (.int 1)), (mW o0 o1 o2 o3 o4 o5 o6 o7 o8 o9 o10 o11 o12 o13 o14 o15 (encV (vPr (fr f))) (encV E) (encV (ofV (upW T (fr f) S) (ofV T C))) (encV D) mode colls taken steps z (eH (upW H (fr f) (ofV H (behV T (n % 16) (ofV H (behV T (n / 16) E)))))) (eH (upW T (fr f) S)) (eN fr) mk rc (nI f) rN cN tl, b0, b1, op))) : mj_Mt gT cst gnw (m + 4) y_Machine_variable [.ref 16] (mW o0 o1 o2 o3 o4 o5 o6 o7 o8 o9 o10 o11 o12 o13 o14 o15 (encV S) (encV E) (encV C) (encV D) mode colls taken steps z (eH H) (eH T) (eN fr) mk rc (nI (f + 1)) rN cN tl, b0, b1, op) Q := by
  intro J hJ
  refine hJ _ _ _ _ ?_
  refine s_tail hz hC ?_
  refine s_head hz (okV_of hB hC) ?_
  refine v_content ?_
  rw [hv]
  refine And.intro (by decide) ?_
  rw [(nI_16 (n := n) (by omega)).1]
  refine s_behind hz (by omega) hB hE ?_
  refine v_isPair ?_
  by_cases c1 : kV (behV T (n / 16) E) = 3
  · rw [show (kV (behV T (n / 16) E) == 3) = true by simp [c1]]
    refine And.intro (fun _ => ?_) (fun g => absurd g (by decide))
    refine s_head hz (okV_beh hB (n / 16) _ hE) ?_
    refine And.intro (by decide) ?_
    rw [(nI_16 (n := n) (by omega)).2]
    refine s_behind hz (by omega) hB (okV_of hA (okV_beh hB (n / 16) _ hE)) ?_
    refine v_isPair ?_
    by_cases c2 : kV (behV T (n % 16) (ofV H (behV T (n / 16) E))) = 3
    · rw [show (kV (behV T (n % 16) (ofV H (behV T (n / 16) E))) == 3) = true by simp [c2]]
      refine And.intro (fun _ => ?_) (fun g => absurd g (by decide))
      refine s_head hz (okV_beh hB (n % 16) _ (okV_of hA (okV_beh hB (n / 16) _ hE))) ?_
      refine s_newPair hz (by omega) (hfr _ (by omega)) ?_
      refine s_tail hz (okV_of hB hC) ?_
      exact And.intro (Or.inr rfl) (h3 c1 c2)
    · rw [show (kV (behV T (n % 16) (ofV H (behV T (n / 16) E))) == 3) = false by simp [c2]]
      refine And.intro (fun g => absurd rfl g) (fun _ => ?_)
      exact And.intro (Or.inl rfl) (h2 c1 c2)
  · rw [show (kV (behV T (n / 16) E) == 3) = false by simp [c1]]
    refine And.intro (fun g => absurd rfl g) (fun _ => ?_)
    exact And.intro (Or.inl rfl) (h1 c1)
theorem k_same (hz : z ≤ 250) (hA : okA z H) (hB : okA z T) (hfr : ∀ j, j < z → fr j < z) (hS : okV z S) (hE : okV z E) (hC : okV z C) (hD : okV z D) (hf : f + 1 ≤ z) (hQ1 : sameV (ofV H (ofV T S)) (ofV H S) = true → Q (.inl (some (.int 1)), (mW o0 o1 o2 o3 o4 o5 o6 o7 o8 o9 o10 o11 o12 o13 o14 o15 (encV (vPr (fr f))) (encV E) (encV (ofV (upW T (fr f) (behV T 2 S)) C)) (encV D) mode colls taken steps z (eH (upW H (fr f) (vInt 1))) (eH (upW T (fr f) (behV T 2 S))) (eN fr) mk rc (nI f) rN cN tl, b0, b1, op))) (hQ0 : sameV (ofV H (ofV T S)) (ofV H S) = false → Q (.inl (some (.int 1)), (mW o0 o1 o2 o3 o4 o5 o6 o7 o8 o9 o10 o11 o12 o13 o14 o15 (encV (vPr (fr f))) (encV E) (encV (ofV (upW T (fr f) (behV T 2 S)) C)) (encV D) mode colls taken steps z (eH (upW H (fr f) (vInt 0))) (eH (upW T (fr f) (behV T 2 S))) (eN fr) mk rc (nI f) rN cN tl, b0, b1, op))) : mj_Mt gT cst gnw (m + 5) y_Machine_same [.ref 16] (mW o0 o1 o2 o3 o4 o5 o6 o7 o8 o9 o10 o11 o12 o13 o14 o15 (encV S) (encV E) (encV C) (encV D) mode colls taken steps z (eH H) (eH T) (eN fr) mk rc (nI (f + 1)) rN cN tl, b0, b1, op) Q := by
  intro J hJ
  refine hJ _ _ _ _ ?_
  refine s_head hz hS ?_
  refine s_tail hz hS ?_
  refine s_head hz (okV_of hB hS) ?_
  refine And.intro (fun g => ?_) (fun g => ?_)
  · have h0 := hQ0 (by unfold sameV; rw [show decide (encV (ofV H (ofV T S)) = encV (ofV H S)) = false by simpa using fun q => g (lg_eq.mpr q)]; rfl)
    refine And.intro (fun _ => ?_) (fun g => absurd rfl g)
    refine v_number (x := 0) ?_
    refine k_replace (n := 2) (by decide) trivial hz hA hB hfr hS hE hC hD (by omega) ?_
    exact And.intro (Or.inr rfl) h0
  · refine v_cell ?_
    refine And.intro (fun (g2 : ¬ cV (ofV H (ofV T S)) = -1) => ?_) (fun (g2 : cV (ofV H (ofV T S)) = -1) => ?_)
    · have h0 := hQ0 (by unfold sameV; rw [show decide (cV (ofV H (ofV T S)) = -1) = false by simpa using g2]; simp)
      refine And.intro (fun _ => ?_) (fun g => absurd rfl g)
      refine v_number (x := 0) ?_
      refine k_replace (n := 2) (by decide) trivial hz hA hB hfr hS hE hC hD (by omega) ?_
      exact And.intro (Or.inr rfl) h0
    · have h1 := hQ1 (by unfold sameV; rw [show decide (encV (ofV H (ofV T S)) = encV (ofV H S)) = true by simpa using lg_eq.mp g, show decide (cV (ofV H (ofV T S)) = -1) = true by simpa using g2]; rfl)
      refine And.intro (fun g => absurd g (by decide)) (fun _ => ?_)
      refine v_number (x := 1) ?_
      refine k_replace (n := 2) (by decide) trivial hz hA hB hfr hS hE hC hD (by omega) ?_
      exact And.intro (Or.inr rfl) h1
theorem k_setRegisters {V : Vl} (hQ : Q (.inl none, (mW o0 o1 o2 o3 o4 o5 o6 o7 o8 o9 o10 o11 o12 o13 o14 o15 (encV vNil) (encV vNil) (encV V) (encV vNil) mode colls taken steps z (eH H) (eH T) (eN fr) mk rc (nI f) rN cN tl, b0, b1, op))) : mj_Mt gT cst gnw (m + 1) y_Machine_setRegisters [.ref 16, .long (encV V)] (mW o0 o1 o2 o3 o4 o5 o6 o7 o8 o9 o10 o11 o12 o13 o14 o15 (encV S) (encV E) (encV C) (encV D) mode colls taken steps z (eH H) (eH T) (eN fr) mk rc (nI f) rN cN tl, b0, b1, op) Q := by
  intro J hJ
  refine hJ _ _ _ _ ?_
  exact hQ
theorem k_collect {c : Nat} {g : gS} (hz : z ≤ 250) (hc : c ≤ z) (hA : okA z H) (hB : okA z T) (hS : okV z S) (hE : okV z E) (hC : okV z C) (hD : okV z D) (hQ : Q (.inl none, (mW o0 o1 o2 o3 o4 o5 o6 o7 o8 o9 o10 o11 o12 o13 o14 o15 (encV S) (encV E) (encV C) (encV D) mode (colls + 1) (taken + (nI (fuN (mrk z H T S E C D (if c = 0 then vNil else vPr 0) g).1 z 0 (fr, 0)).2 - nI f)) steps z (eH H) (eH T) (eN (fuN (mrk z H T S E C D (if c = 0 then vNil else vPr 0) g).1 z 0 (fr, 0)).1) (eB (mrk z H T S E C D (if c = 0 then vNil else vPr 0) g).1) (eN (mrk z H T S E C D (if c = 0 then vNil else vPr 0) g).2.1) (nI (fuN (mrk z H T S E C D (if c = 0 then vNil else vPr 0) g).1 z 0 (fr, 0)).2) (nI (mrk z H T S E C D (if c = 0 then vNil else vPr 0) g).2.2) (nI c) tl, b0, b1, op))) : mj_Mt gT cst gnw (m + 4) y_Machine_collect [.ref 16] (mW o0 o1 o2 o3 o4 o5 o6 o7 o8 o9 o10 o11 o12 o13 o14 o15 (encV S) (encV E) (encV C) (encV D) mode colls taken steps z (eH H) (eH T) (eN fr) (eB g.1) (eN g.2.1) (nI f) (nI g.2.2) (nI c) tl, b0, b1, op) Q := by
  intro J hJ
  refine hJ _ _ _ _ ?_
  refine s_mark (g := g) hz hc hA hB hS hE hC hD ?_
  refine s_freeUnmarked (p := (fr, f)) hz ?_
  exact hQ
end P2e
end
section
def ffN (u : Nat → Int32) : Nat → Nat → Nat
  | 0, k => k
  | n + 1, k => if u k = 0 then k else ffN u n (k + 1)
theorem ffN_le (u : Nat → Int32) : ∀ n k, ffN u n k ≤ k + n := by
  intro n
  induction n with
  | zero => intro k; exact Nat.le_refl _
  | succ n ih =>
    intro k
    have e : ffN u (n + 1) k = if u k = 0 then k else ffN u n (k + 1) := rfl
    rw [e]
    split
    · omega
    · have := ih (k + 1)
      omega
def rsN (r : rM) (k : Nat) : Int32 := if r.tailKind k = 3 then r.tail k else -1
def hlN (r : rM) (k : Nat) : Int32 := if r.headKind k = 3 then r.head k else -1
section P2f
variable {cst : Nat → Option (Nat × (Nat → Int32))} {m b0 b1 : Nat} {op : Bool} {tl : List mj_O} {Q : mj_R → Prop} {s : cS} {r : rM}
set_option maxRecDepth 10000
theorem r_rest {k : Nat} (hk : k < 250) (hQ : Q (.inl (some (.int (rsN r k))), (cW s (rW r tl), b0, b1, op))) : mj_Mt gT cst gnw (m + 1) y_R_rest [.ref 27, .int (nI k)] (cW s (rW r tl), b0, b1, op) Q := by
  have ek : (nI k).toNatClampNeg = k := nI_clamp (by omega)
  unfold rsN at hQ
  intro J hJ
  refine hJ _ _ _ _ ?_
  refine And.intro (vp_in_nI hk (by decide)) ?_
  rw [ek]
  refine And.intro (fun (g : ¬ r.tailKind k = 3) => ?_) (fun (g : r.tailKind k = 3) => ?_)
  · rw [if_neg g] at hQ
    exact hQ
  · rw [if_pos g] at hQ
    refine And.intro (vp_in_nI hk (by decide)) ?_
    rw [ek]
    exact hQ
theorem r_headList {k : Nat} (hk : k < 250) (hQ : Q (.inl (some (.int (hlN r k))), (cW s (rW r tl), b0, b1, op))) : mj_Mt gT cst gnw (m + 1) y_R_headList [.ref 27, .int (nI k)] (cW s (rW r tl), b0, b1, op) Q := by
  have ek : (nI k).toNatClampNeg = k := nI_clamp (by omega)
  unfold hlN at hQ
  intro J hJ
  refine hJ _ _ _ _ ?_
  refine And.intro (vp_in_nI hk (by decide)) ?_
  rw [ek]
  refine And.intro (fun (g : ¬ r.headKind k = 3) => ?_) (fun (g : r.headKind k = 3) => ?_)
  · rw [if_neg g] at hQ
    exact hQ
  · rw [if_pos g] at hQ
    refine And.intro (vp_in_nI hk (by decide)) ?_
    rw [ek]
    exact hQ
theorem r_make {a b c : Int32} (hz : r.z ≤ 250) (hz1 : 1 ≤ r.z) (hQ : ∀ k, k = ffN r.used (r.z - 1) 0 → Q (.inl (some (.int (nI k))), (cW s (rW ((((((r.s_used (upd r.used k 1)).s_function (upd r.function k 0)).s_headKind (upd r.headKind k a)).s_head (upd r.head k b)).s_tailKind (upd r.tailKind k (if c < 0 then 0 else 3))).s_tail (upd r.tail k (if c < 0 then 0 else c))) tl), b0, b1, op))) : mj_Mt gT cst gnw (m + 1) y_R_make [.ref 27, .int a, .int b, .int c] (cW s (rW r tl), b0, b1, op) Q := by
  intro J hJ
  have fin : ∀ k, k = ffN r.used (r.z - 1) 0 → k < 250 → ∀ F : Nat, mj_sg (mj_Mt gT cst gnw m) cst gnw (mj_hd (mj_off kO_R_make) kH_R_make) kC_R_make J Q (F + 60) false 15 [some (.ref 27), some (.int a), some (.int b), some (.int c), some (.int (nI k))] [] (cW s (rW r tl), b0, b1, op) := by
    intro k hk hlt F
    have ek : (nI k).toNatClampNeg = k := nI_clamp (by omega)
    have h9 := hQ k hk
    have hin : vp_in (nI k) 250 := vp_in_nI hlt (by decide)
    refine And.intro hin ?_
    rw [ek]
    change mj_sg _ _ _ _ _ _ _ _ _ 20 [some (.ref 27), some (.int a), some (.int b), some (.int c), some (.int (nI k))] [] (cW s (rW (r.s_used (upd r.used k 1)) tl), b0, b1, op)
    refine And.intro hin ?_
    rw [ek]
    change mj_sg _ _ _ _ _ _ _ _ _ 25 [some (.ref 27), some (.int a), some (.int b), some (.int c), some (.int (nI k))] [] (cW s (rW ((r.s_used (upd r.used k 1)).s_function (upd r.function k 0)) tl), b0, b1, op)
    refine And.intro hin ?_
    rw [ek]
    change mj_sg _ _ _ _ _ _ _ _ _ 30 [some (.ref 27), some (.int a), some (.int b), some (.int c), some (.int (nI k))] [] (cW s (rW (((r.s_used (upd r.used k 1)).s_function (upd r.function k 0)).s_headKind (upd r.headKind k a)) tl), b0, b1, op)
    refine And.intro hin ?_
    rw [ek]
    change mj_sg _ _ _ _ _ _ _ _ _ 35 [some (.ref 27), some (.int a), some (.int b), some (.int c), some (.int (nI k))] [] (cW s (rW ((((r.s_used (upd r.used k 1)).s_function (upd r.function k 0)).s_headKind (upd r.headKind k a)).s_head (upd r.head k b)) tl), b0, b1, op)
    by_cases hc : c < 0
    · rw [if_pos hc, if_pos hc] at h9
      refine And.intro (fun (g : 0 ≤ c) => absurd hc (Int32.not_lt.mpr g)) (fun _ => ?_)
      refine And.intro hin ?_
      rw [ek]
      change mj_sg _ _ _ _ _ _ _ _ _ 44 [some (.ref 27), some (.int a), some (.int b), some (.int c), some (.int (nI k))] [] (cW s (rW (((((r.s_used (upd r.used k 1)).s_function (upd r.function k 0)).s_headKind (upd r.headKind k a)).s_head (upd r.head k b)).s_tailKind (upd r.tailKind k 0)) tl), b0, b1, op)
      refine And.intro (fun (g : 0 ≤ c) => absurd hc (Int32.not_lt.mpr g)) (fun _ => ?_)
      refine And.intro hin ?_
      rw [ek]
      exact h9
    · rw [if_neg hc, if_neg hc] at h9
      refine And.intro (fun _ => ?_) (fun (g : ¬ 0 ≤ c) => absurd (Int32.not_lt.mp hc) g)
      refine And.intro hin ?_
      rw [ek]
      change mj_sg _ _ _ _ _ _ _ _ _ 44 [some (.ref 27), some (.int a), some (.int b), some (.int c), some (.int (nI k))] [] (cW s (rW (((((r.s_used (upd r.used k 1)).s_function (upd r.function k 0)).s_headKind (upd r.headKind k a)).s_head (upd r.head k b)).s_tailKind (upd r.tailKind k 3)) tl), b0, b1, op)
      refine And.intro (fun _ => ?_) (fun (g : ¬ 0 ≤ c) => absurd (Int32.not_lt.mp hc) g)
      refine And.intro hin ?_
      rw [ek]
      exact h9
  have e1 : nI r.z - Int32.ofInt 1 = nI (r.z - 1) := by
    have := nI_pred (r.z - 1)
    rw [show r.z - 1 + 1 = r.z by omega] at this
    exact this
  have loop : ∀ (n k : Nat), n + k = r.z - 1 → ffN r.used n k = ffN r.used (r.z - 1) 0 → J 2 [some (.ref 27), some (.int a), some (.int b), some (.int c), some (.int (nI k))] [] (cW s (rW r tl), b0, b1, op) := by
    intro n
    induction n with
    | zero =>
      intro k hk e
      refine hJ _ _ _ _ ?_
      refine And.intro (fun _ => ?_) (fun (g : ¬ nI r.z - Int32.ofInt 1 ≤ nI k) => absurd (by rw [e1]; exact nI_le (by omega) (by omega)) g)
      exact fin k e (by omega) _
    | succ n ih =>
      intro k hk e
      have e2 : ffN r.used (n + 1) k = if r.used k = 0 then k else ffN r.used n (k + 1) := rfl
      rw [e2] at e
      have ek : (nI k).toNatClampNeg = k := nI_clamp (by omega)
      refine hJ _ _ _ _ ?_
      refine And.intro (fun (g : nI r.z - Int32.ofInt 1 ≤ nI k) => absurd g (by rw [e1]; exact nI_ge (by omega) (by omega))) (fun _ => ?_)
      refine And.intro (vp_in_nI (show k < 250 by omega) (by decide)) ?_
      rw [ek]
      refine And.intro (fun (g : r.used k = 0) => ?_) (fun (g : ¬ r.used k = 0) => ?_)
      · rw [if_pos g] at e
        exact fin k e (by omega) _
      · rw [if_neg g] at e
        have key : ∀ x : Int32, x = nI (k + 1) → J 2 [some (.ref 27), some (.int a), some (.int b), some (.int c), some (.int x)] [] (cW s (rW r tl), b0, b1, op) := by
          rintro x rfl
          exact ih (k + 1) (by omega) e
        exact key _ (nI_succ k).symm
  refine hJ _ _ _ _ ?_
  exact loop (r.z - 1) 0 (by omega) rfl
theorem r_makeOf {b c : Int32} (hz : r.z ≤ 250) (hz1 : 1 ≤ r.z) (hQ : ∀ k, k = ffN r.used (r.z - 1) 0 → Q (.inl (some (.int (nI k))), (cW s (rW ((((((r.s_used (upd r.used k 1)).s_function (upd r.function k 0)).s_headKind (upd r.headKind k (if b < 0 then 0 else 3))).s_head (upd r.head k (if b < 0 then 0 else b))).s_tailKind (upd r.tailKind k (if c < 0 then 0 else 3))).s_tail (upd r.tail k (if c < 0 then 0 else c))) tl), b0, b1, op))) : mj_Mt gT cst gnw (m + 2) y_R_makeOf [.ref 27, .int b, .int c] (cW s (rW r tl), b0, b1, op) Q := by
  intro J hJ
  refine hJ _ _ _ _ ?_
  by_cases hb : b < 0
  · rw [if_pos hb, if_pos hb] at hQ
    refine And.intro (fun (g : 0 ≤ b) => absurd hb (Int32.not_lt.mpr g)) (fun _ => ?_)
    refine And.intro (fun (g : 0 ≤ b) => absurd hb (Int32.not_lt.mpr g)) (fun _ => ?_)
    exact r_make hz hz1 hQ
  · rw [if_neg hb, if_neg hb] at hQ
    refine And.intro (fun _ => ?_) (fun (g : ¬ 0 ≤ b) => absurd (Int32.not_lt.mp hb) g)
    refine And.intro (fun _ => ?_) (fun (g : ¬ 0 ≤ b) => absurd (Int32.not_lt.mp hb) g)
    exact r_make hz hz1 hQ
theorem r_stop {x : Int32} (hQ : Q (.inl none, (cW s (rW (r.s_state x) tl), b0, b1, op))) : mj_Mt gT cst gnw (m + 1) y_R_stop [.ref 27, .int x] (cW s (rW r tl), b0, b1, op) Q := by
  intro J hJ
  refine hJ _ _ _ _ ?_
  exact hQ
theorem r_peek0 {k : Nat} (hk : k < 250) (h0 : r.reg 0 = nI k) (hQ : Q (.inl none, (cW s (rW ((r.s_gotKind (r.headKind k)).s_got (r.head k)) tl), b0, b1, op))) : mj_Mt gT cst gnw (m + 2) y_R_peek [.ref 27, .int 0] (cW s (rW r tl), b0, b1, op) Q := by
  have ek : (nI k).toNatClampNeg = k := nI_clamp (by omega)
  intro J hJ
  have key : ∀ x : Int32, x = nI k → J 7 [some (.ref 27), some (.int 0), some (.int x), some (.int 0)] [] (cW s (rW r tl), b0, b1, op) := by
    rintro x rfl
    refine hJ _ _ _ _ ?_
    refine And.intro (fun _ => ?_) (fun (g : ¬ (0 : Int32) ≤ 0) => absurd (by decide) g)
    refine And.intro (vp_in_nI hk (by decide)) ?_
    rw [ek]
    refine And.intro (vp_in_nI hk (by decide)) ?_
    rw [ek]
    exact hQ
  refine hJ _ _ _ _ ?_
  refine And.intro (in0 (by decide)) ?_
  exact key _ h0
theorem r_peek1 {k j : Nat} (hk : k < 250) (hj : j < 250) (h0 : r.reg 0 = nI j) (h1 : rsN r j = nI k) (hQ : Q (.inl none, (cW s (rW ((r.s_gotKind (r.headKind k)).s_got (r.head k)) tl), b0, b1, op))) : mj_Mt gT cst gnw (m + 2) y_R_peek [.ref 27, .int 1] (cW s (rW r tl), b0, b1, op) Q := by
  have ek : (nI k).toNatClampNeg = k := nI_clamp (by omega)
  intro J hJ
  have key2 : ∀ x : Int32, x = nI k → J 7 [some (.ref 27), some (.int 1), some (.int x), some (.int 1)] [] (cW s (rW r tl), b0, b1, op) := by
    rintro x rfl
    refine hJ _ _ _ _ ?_
    refine And.intro (fun _ => ?_) (fun (g : ¬ (1 : Int32) ≤ 1) => absurd (by decide) g)
    refine And.intro (vp_in_nI hk (by decide)) ?_
    rw [ek]
    refine And.intro (vp_in_nI hk (by decide)) ?_
    rw [ek]
    exact hQ
  have key : ∀ x : Int32, x = nI j → J 7 [some (.ref 27), some (.int 1), some (.int x), some (.int 0)] [] (cW s (rW r tl), b0, b1, op) := by
    rintro x rfl
    refine hJ _ _ _ _ ?_
    refine And.intro (fun (g : (1 : Int32) ≤ 0) => absurd g (by decide)) (fun _ => ?_)
    refine r_rest hj ?_
    exact key2 _ h1
  refine hJ _ _ _ _ ?_
  refine And.intro (in0 (by decide)) ?_
  exact key _ h0
theorem r_drop {j : Nat} (hj : j < 250) (h0 : r.reg 0 = nI j) (hQ : Q (.inl none, (cW s (rW (r.s_reg (upd r.reg 0 (rsN r j))) tl), b0, b1, op))) : mj_Mt gT cst gnw (m + 2) y_R_drop [.ref 27] (cW s (rW r tl), b0, b1, op) Q := by
  intro J hJ
  refine hJ _ _ _ _ ?_
  refine And.intro (in0 (by decide)) ?_
  have key : ∀ x : Int32, x = nI j → ∀ Q' : mj_R → Prop, Q' (.inl (some (.int (rsN r j))), (cW s (rW r tl), b0, b1, op)) → mj_Mt gT cst gnw (m + 1) y_R_rest [.ref 27, .int x] (cW s (rW r tl), b0, b1, op) Q' := by
    rintro x rfl Q' hQ'
    exact r_rest hj hQ'
  refine key _ h0 _ ?_
  exact And.intro (in0 (by decide)) hQ
theorem r_push {a b : Int32} (hz : r.z ≤ 250) (hz1 : 1 ≤ r.z) (hQ : ∀ k, k = ffN r.used (r.z - 1) 0 → Q (.inl none, (cW s (rW (((((((r.s_used (upd r.used k 1)).s_function (upd r.function k 0)).s_headKind (upd r.headKind k a)).s_head (upd r.head k b)).s_tailKind (upd r.tailKind k (if (r.reg 0) < 0 then 0 else 3))).s_tail (upd r.tail k (if (r.reg 0) < 0 then 0 else (r.reg 0)))).s_reg (upd r.reg 0 (nI k))) tl), b0, b1, op))) : mj_Mt gT cst gnw (m + 2) y_R_push [.ref 27, .int a, .int b] (cW s (rW r tl), b0, b1, op) Q := by
  intro J hJ
  refine hJ _ _ _ _ ?_
  refine And.intro (in0 (by decide)) ?_
  refine r_make hz hz1 (fun k hk => ?_)
  exact And.intro (in0 (by decide)) (hQ k hk)
def rnd (i : Int32) : Int32 := if i = 4 then 4 else if i = 7 then 3 else if i = 3 ∨ i = 13 then 2 else if i = 9 ∨ i = 19 then 0 else 1
theorem r_needs {h : mj_H} {i : Int32} (hQ : Q (.inl (some (.int (rnd i))), h)) : mj_Mt gT cst gnw (m + 1) y_R_needs [.int i] h Q := by
  unfold rnd at hQ
  intro J hJ
  refine hJ _ _ _ _ ?_
  refine And.intro (fun (g : ¬ i = 4) => ?_) (fun (g : i = 4) => ?_)
  · rw [if_neg g] at hQ
    refine And.intro (fun (g2 : ¬ i = 7) => ?_) (fun (g2 : i = 7) => ?_)
    · rw [if_neg g2] at hQ
      refine And.intro (fun (g3 : i = 3) => ?_) (fun (g3 : ¬ i = 3) => ?_)
      · rw [if_pos (Or.inl g3)] at hQ
        exact hQ
      · refine And.intro (fun (g4 : ¬ i = 13) => ?_) (fun (g4 : i = 13) => ?_)
        · rw [if_neg (fun q => q.elim g3 g4)] at hQ
          refine And.intro (fun (g5 : i = 9) => ?_) (fun (g5 : ¬ i = 9) => ?_)
          · rw [if_pos (Or.inl g5)] at hQ
            exact hQ
          · refine And.intro (fun (g6 : ¬ i = 19) => ?_) (fun (g6 : i = 19) => ?_)
            · rw [if_neg (fun q => q.elim g5 g6)] at hQ
              exact hQ
            · rw [if_pos (Or.inr g6)] at hQ
              exact hQ
        · rw [if_pos (Or.inr g4)] at hQ
          exact hQ
    · rw [if_pos g2] at hQ
      exact hQ
  · rw [if_pos g] at hQ
    exact hQ
end P2f
end
section
def chN (r : rM) : Nat → Int32 → Prop
  | 0, x => x < 0
  | n + 1, x => ∃ k, k < 250 ∧ x = nI k ∧ chN r n (rsN r k)
def czN (u : Nat → Int32) : Nat → Nat → Nat → Nat
  | 0, _, a => a
  | n + 1, k, a => czN u n (k + 1) (if u k = 0 then a + 1 else a)
theorem czN_le (u : Nat → Int32) : ∀ n k a, czN u n k a ≤ a + n := by
  intro n
  induction n with
  | zero => intro k a; exact Nat.le_refl _
  | succ n ih =>
    intro k a
    have e : czN u (n + 1) k a = czN u n (k + 1) (if u k = 0 then a + 1 else a) := rfl
    rw [e]
    split
    · have := ih (k + 1) (a + 1)
      omega
    · have := ih (k + 1) a
      omega
section P2g
variable {cst : Nat → Option (Nat × (Nat → Int32))} {m b0 b1 : Nat} {op : Bool} {tl : List mj_O} {Q : mj_R → Prop} {s : cS} {r : rM}
set_option maxRecDepth 10000
theorem r_lengthOf {n : Nat} {x : Int32} (hn : n < 2 ^ 31) (hc : chN r n x) (hQ : Q (.inl (some (.int (nI n))), (cW s (rW r tl), b0, b1, op))) : mj_Mt gT cst gnw (m + 2) y_R_lengthOf [.ref 27, .int x] (cW s (rW r tl), b0, b1, op) Q := by
  intro J hJ
  have loop : ∀ (j a : Nat) (y : Int32), j + a = n → chN r j y → J 4 [some (.ref 27), some (.int x), some (.int (nI a)), some (.int y)] [] (cW s (rW r tl), b0, b1, op) := by
    intro j
    induction j with
    | zero =>
      intro a y ha hy
      have e : a = n := by omega
      subst e
      refine hJ _ _ _ _ ?_
      exact And.intro (fun _ => hQ) (fun g => absurd hy g)
    | succ j ih =>
      intro a y ha hy
      obtain ⟨k, hk, rfl, h2⟩ := hy
      refine hJ _ _ _ _ ?_
      refine And.intro (fun (g : nI k < 0) => absurd g (nI_pos (by omega))) (fun _ => ?_)
      refine r_rest hk ?_
      have key : ∀ z : Int32, z = nI (a + 1) → J 4 [some (.ref 27), some (.int x), some (.int z), some (.int (rsN r k))] [] (cW s (rW r tl), b0, b1, op) := by
        rintro z rfl
        exact ih (a + 1) _ (by omega) h2
      exact key _ (nI_succ a).symm
  refine hJ _ _ _ _ ?_
  exact loop n 0 x (by omega) hc
theorem r_free (hz : r.z ≤ 250) (hQ : Q (.inl (some (.int (nI (czN r.used r.z 0 0)))), (cW s (rW r tl), b0, b1, op))) : mj_Mt gT cst gnw (m + 1) y_R_free [.ref 27] (cW s (rW r tl), b0, b1, op) Q := by
  intro J hJ
  have loop : ∀ (n k a : Nat), n + k = r.z → czN r.used n k a = czN r.used r.z 0 0 → J 4 [some (.ref 27), some (.int (nI a)), some (.int (nI k))] [] (cW s (rW r tl), b0, b1, op) := by
    intro n
    induction n with
    | zero =>
      intro k a hk e
      change a = _ at e
      rw [← e] at hQ
      refine hJ _ _ _ _ ?_
      exact And.intro (fun _ => hQ) (fun (g : ¬ nI r.z ≤ nI k) => absurd (nI_le (by omega) (by omega)) g)
    | succ n ih =>
      intro k a hk e
      have e2 : czN r.used (n + 1) k a = czN r.used n (k + 1) (if r.used k = 0 then a + 1 else a) := rfl
      rw [e2] at e
      have ek : (nI k).toNatClampNeg = k := nI_clamp (by omega)
      refine hJ _ _ _ _ ?_
      refine And.intro (fun (g : nI r.z ≤ nI k) => absurd g (nI_ge (by omega) (by omega))) (fun _ => ?_)
      refine And.intro (vp_in_nI (show k < 250 by omega) (by decide)) ?_
      rw [ek]
      refine And.intro (fun (g : r.used k = 0) => ?_) (fun (g : ¬ r.used k = 0) => ?_)
      · rw [if_pos g] at e
        have key : ∀ x y : Int32, x = nI (a + 1) → y = nI (k + 1) → J 4 [some (.ref 27), some (.int x), some (.int y)] [] (cW s (rW r tl), b0, b1, op) := by
          rintro x y rfl rfl
          exact ih (k + 1) (a + 1) (by omega) e
        exact key _ _ (nI_succ a).symm (nI_succ k).symm
      · rw [if_neg g] at e
        have key : ∀ y : Int32, y = nI (k + 1) → J 4 [some (.ref 27), some (.int (nI a)), some (.int y)] [] (cW s (rW r tl), b0, b1, op) := by
          rintro y rfl
          exact ih (k + 1) a (by omega) e
        exact key _ (nI_succ k).symm
  refine hJ _ _ _ _ ?_
  exact loop r.z 0 0 (by omega) rfl
theorem r_isFunction (hg : r.gotKind = 3 → ∃ k, k < 250 ∧ r.got = nI k) (h1 : ∀ k, r.gotKind = 3 → r.got = nI k → k < 250 → ¬ r.function k = 0 → Q (.inl (some (.int 1)), (cW s (rW r tl), b0, b1, op))) (h0 : (¬ r.gotKind = 3 ∨ ∃ k, k < 250 ∧ r.got = nI k ∧ r.function k = 0) → Q (.inl (some (.int 0)), (cW s (rW r tl), b0, b1, op))) : mj_Mt gT cst gnw (m + 1) y_R_isFunction [.ref 27] (cW s (rW r tl), b0, b1, op) Q := by
  intro J hJ
  refine hJ _ _ _ _ ?_
  refine And.intro (fun (g : ¬ r.gotKind = 3) => And.intro (Or.inl rfl) (h0 (Or.inl g))) (fun (g : r.gotKind = 3) => ?_)
  obtain ⟨k, hk, e⟩ := hg g
  have ek : r.got.toNatClampNeg = k := by rw [e]; exact nI_clamp (by omega)
  refine And.intro (show vp_in r.got 250 by rw [e]; exact vp_in_nI hk (by decide)) ?_
  rw [ek]
  refine And.intro (fun (g2 : r.function k = 0) => ?_) (fun (g2 : ¬ r.function k = 0) => ?_)
  · exact And.intro (Or.inl rfl) (h0 (Or.inr ⟨k, hk, e, g2⟩))
  · exact And.intro (Or.inr rfl) (h1 k g e hk g2)
theorem r_isPair (hg : r.gotKind = 3 → ∃ k, k < 250 ∧ r.got = nI k) (h1 : ∀ k, r.gotKind = 3 → r.got = nI k → k < 250 → r.function k = 0 → Q (.inl (some (.int 1)), (cW s (rW r tl), b0, b1, op))) (h0 : (¬ r.gotKind = 3 ∨ ∃ k, k < 250 ∧ r.got = nI k ∧ ¬ r.function k = 0) → Q (.inl (some (.int 0)), (cW s (rW r tl), b0, b1, op))) : mj_Mt gT cst gnw (m + 1) y_R_isPair [.ref 27] (cW s (rW r tl), b0, b1, op) Q := by
  intro J hJ
  refine hJ _ _ _ _ ?_
  refine And.intro (fun (g : ¬ r.gotKind = 3) => And.intro (Or.inl rfl) (h0 (Or.inl g))) (fun (g : r.gotKind = 3) => ?_)
  obtain ⟨k, hk, e⟩ := hg g
  have ek : r.got.toNatClampNeg = k := by rw [e]; exact nI_clamp (by omega)
  refine And.intro (show vp_in r.got 250 by rw [e]; exact vp_in_nI hk (by decide)) ?_
  rw [ek]
  refine And.intro (fun (g2 : ¬ r.function k = 0) => ?_) (fun (g2 : r.function k = 0) => ?_)
  · exact And.intro (Or.inl rfl) (h0 (Or.inr ⟨k, hk, e, g2⟩))
  · exact And.intro (Or.inr rfl) (h1 k g e hk g2)
end P2g
end
section
def rmk (kd x : Int32) (g : gS) : gS := if kd = 3 ∧ g.1 x.toNatClampNeg = false then (upW g.1 x.toNatClampNeg true, upW g.2.1 g.2.2 x.toNatClampNeg, g.2.2 + 1) else g
def dfs (hk hd tk tv : Nat → Int32) : Nat → Nat → gS → Option (Nat × gS)
  | 0, _, _ => none
  | f + 1, c, g => match g.2.2 with
    | 0 => some (c, g)
    | n + 1 => if n < 250 ∧ g.2.1 n < 250 then dfs hk hd tk tv f (c + 1) (rmk (tk (g.2.1 n)) (tv (g.2.1 n)) (rmk (hk (g.2.1 n)) (hd (g.2.1 n)) (g.1, g.2.1, n))) else none
def rgs (reg : Nat → Int32) : Nat → Nat → gS → gS
  | 0, _, g => g
  | n + 1, k, g => rgs reg n (k + 1) (rmk (if reg k < 0 then 0 else 3) (reg k) g)
theorem rmk_len (kd x : Int32) (g : gS) : (rmk kd x g).2.2 ≤ g.2.2 + 1 ∧ g.2.2 ≤ (rmk kd x g).2.2 := by
  unfold rmk
  split
  · exact ⟨Nat.le_refl _, Nat.le_succ _⟩
  · exact ⟨Nat.le_succ _, Nat.le_refl _⟩
section P2h
variable {cst : Nat → Option (Nat × (Nat → Int32))} {m b0 b1 : Nat} {op : Bool} {tl : List mj_O} {Q : mj_R → Prop} {s : cS} {r : rM} {g : gS}
set_option maxRecDepth 10000
theorem r_mark {kd x : Int32} (hv : kd = 3 → ∃ j, j < 250 ∧ x = nI j) (hn : g.2.2 < 260) (hQ : Q (.inl none, (cW s (rW (((r.s_marked (eB (rmk kd x g).1)).s_pile (eN (rmk kd x g).2.1)).s_piled (nI (rmk kd x g).2.2)) tl), b0, b1, op))) : mj_Mt gT cst gnw (m + 1) y_R_mark [.ref 27, .int kd, .int x] (cW s (rW (((r.s_marked (eB g.1)).s_pile (eN g.2.1)).s_piled (nI g.2.2)) tl), b0, b1, op) Q := by
  obtain ⟨mk, pl, n⟩ := g
  have hn : n < 260 := hn
  have e0 : rmk kd x (mk, pl, n) = if kd = 3 ∧ mk x.toNatClampNeg = false then (upW mk x.toNatClampNeg true, upW pl n x.toNatClampNeg, n + 1) else (mk, pl, n) := rfl
  rw [e0] at hQ
  intro J hJ
  refine hJ _ _ _ _ ?_
  refine And.intro (fun (q : ¬ kd = 3) => ?_) (fun (q : kd = 3) => ?_)
  · rw [if_neg (fun h => q h.1)] at hQ
    exact hQ
  · obtain ⟨j, hj, rfl⟩ := hv q
    have ej : (nI j).toNatClampNeg = j := nI_clamp (by omega)
    rw [ej] at hQ
    refine And.intro (vp_in_nI hj (by decide)) ?_
    rw [ej]
    refine And.intro (fun (q2 : ¬ bI (mk j) = 0) => ?_) (fun (q2 : bI (mk j) = 0) => ?_)
    · have hm : ¬ mk j = false := fun h => q2 (by rw [h]; rfl)
      rw [if_neg (fun h => hm h.2)] at hQ
      exact hQ
    · have hm : mk j = false := by
        cases h : mk j with
        | false => rfl
        | true => rw [h] at q2; exact absurd q2 (by decide)
      rw [if_pos ⟨q, hm⟩] at hQ
      refine And.intro (vp_in_nI hj (by decide)) ?_
      refine And.intro (vp_in_nI (show n < 260 from hn) (by decide)) ?_
      have key : ∀ (a b : Nat) (y : Int32), a = j → b = n → y = nI (n + 1) → Q (.inl none, (cW s (rW (((r.s_marked (upd (eB mk) a (vp_nar .boolean (bI true)))).s_pile (upd (eN pl) b (nI j))).s_piled y) tl), b0, b1, op)) := by
        rintro a b y rfl rfl rfl
        rw [upd_bI, upd_nI]
        exact hQ
      exact key _ _ _ ej (nI_clamp (by omega)) (nI_succ n).symm
theorem r_reach {c : Nat} {g' : gS} (hz : r.z ≤ 250) (hreg : ∀ k, k < 5 → ¬ r.reg k < 0 → ∃ j, j < 250 ∧ r.reg k = nI j) (hh : ∀ k, k < 250 → r.headKind k = 3 → ∃ j, j < 250 ∧ r.head k = nI j) (ht : ∀ k, k < 250 → r.tailKind k = 3 → ∃ j, j < 250 ∧ r.tail k = nI j)
    (hd : dfs r.headKind r.head r.tailKind r.tail 600 0 (rgs r.reg 5 0 (clr r.z g.1, g.2.1, 0)) = some (c, g')) (hQ : Q (.inl (some (.int (nI c))), (cW s (rW (((r.s_marked (eB g'.1)).s_pile (eN g'.2.1)).s_piled (nI g'.2.2)) tl), b0, b1, op))) : mj_Mt gT cst gnw (m + 2) y_R_reach [.ref 27] (cW s (rW (((r.s_marked (eB g.1)).s_pile (eN g.2.1)).s_piled (nI g.2.2)) tl), b0, b1, op) Q := by
  obtain ⟨mk, pl, n0⟩ := g
  intro J hJ
  have loop3 : ∀ (f a : Nat) (g : gS) (x2 : Option Value), dfs r.headKind r.head r.tailKind r.tail f a g = some (c, g') → J 39 [some (.ref 27), some (.int (nI a)), x2] [] (cW s (rW (((r.s_marked (eB g.1)).s_pile (eN g.2.1)).s_piled (nI g.2.2)) tl), b0, b1, op) := by
    intro f
    induction f with
    | zero => intro a g x2 e; cases e
    | succ f ih =>
      intro a g x2 e
      obtain ⟨mk, pl, n⟩ := g
      cases n with
      | zero =>
        cases e
        refine hJ _ _ _ _ ?_
        exact And.intro (fun _ => hQ) (fun (q : ¬ nI 0 ≤ 0) => absurd (by decide) q)
      | succ n =>
        have e2 : dfs r.headKind r.head r.tailKind r.tail (f + 1) a (mk, pl, n + 1) = if n < 250 ∧ pl n < 250 then dfs r.headKind r.head r.tailKind r.tail f (a + 1) (rmk (r.tailKind (pl n)) (r.tail (pl n)) (rmk (r.headKind (pl n)) (r.head (pl n)) (mk, pl, n))) else none := rfl
        rw [e2] at e
        by_cases hc : n < 250 ∧ pl n < 250
        · rw [if_pos hc] at e
          obtain ⟨hn, hp⟩ := hc
          refine hJ _ _ _ _ ?_
          refine And.intro (fun (q : nI (n + 1) ≤ 0) => absurd q (nI_nle (by omega) (by omega))) (fun _ => ?_)
          have e1 : nI (n + 1) - Int32.ofInt 1 = nI n := nI_pred n
          have e3 : (nI (n + 1) - Int32.ofInt 1).toNatClampNeg = n := by rw [e1]; exact nI_clamp (by omega)
          refine And.intro (show vp_in (nI (n + 1) - Int32.ofInt 1) 260 by rw [e1]; exact vp_in_nI (by omega) (by decide)) ?_
          have key1 : ∀ (i : Nat) (y : Int32), i = n → y = nI n → mj_sg (mj_Mt gT cst gnw (m + 1)) cst gnw (mj_hd (mj_off kO_R_reach) kH_R_reach) kC_R_reach J Q 386 false 53 [some (.ref 27), some (.int (nI a)), x2] [.int (nI (pl i))] (cW s (rW (((r.s_marked (eB mk)).s_pile (eN pl)).s_piled y) tl), b0, b1, op) := by
            rintro i y rfl rfl
            have ep : (nI (pl i)).toNatClampNeg = pl i := nI_clamp (by omega)
            refine And.intro (vp_in_nI hp (by decide)) ?_
            rw [ep]
            refine And.intro (vp_in_nI hp (by decide)) ?_
            rw [ep]
            refine r_mark (g := (mk, pl, i)) (hh _ hp) (show i < 260 by omega) ?_
            refine And.intro (vp_in_nI hp (by decide)) ?_
            rw [ep]
            refine And.intro (vp_in_nI hp (by decide)) ?_
            rw [ep]
            have hl := (rmk_len (r.headKind (pl i)) (r.head (pl i)) (mk, pl, i)).1
            have hl2 : (mk, pl, i).2.2 = i := rfl
            refine r_mark (g := rmk (r.headKind (pl i)) (r.head (pl i)) (mk, pl, i)) (ht _ hp) (by omega) ?_
            have key : ∀ y : Int32, y = nI (a + 1) → J 39 [some (.ref 27), some (.int y), some (.int (nI (pl i)))] [] (cW s (rW (((r.s_marked (eB (rmk (r.tailKind (pl i)) (r.tail (pl i)) (rmk (r.headKind (pl i)) (r.head (pl i)) (mk, pl, i))).1)).s_pile (eN (rmk (r.tailKind (pl i)) (r.tail (pl i)) (rmk (r.headKind (pl i)) (r.head (pl i)) (mk, pl, i))).2.1)).s_piled (nI (rmk (r.tailKind (pl i)) (r.tail (pl i)) (rmk (r.headKind (pl i)) (r.head (pl i)) (mk, pl, i))).2.2)) tl), b0, b1, op) := by
              rintro y rfl
              exact ih (a + 1) _ _ e
            exact key _ (nI_succ a).symm
          exact key1 _ _ e3 e1
        · rw [if_neg hc] at e
          cases e
  have loop2 : ∀ (n k : Nat) (g : gS) (x2 : Option Value), n + k = 5 → g.2.2 ≤ k → dfs r.headKind r.head r.tailKind r.tail 600 0 (rgs r.reg n k g) = some (c, g') → (∀ g x2, dfs r.headKind r.head r.tailKind r.tail 600 0 g = some (c, g') → J 39 [some (.ref 27), some (.int 0), x2] [] (cW s (rW (((r.s_marked (eB g.1)).s_pile (eN g.2.1)).s_piled (nI g.2.2)) tl), b0, b1, op)) → J 18 [some (.ref 27), some (.int (nI k)), x2] [] (cW s (rW (((r.s_marked (eB g.1)).s_pile (eN g.2.1)).s_piled (nI g.2.2)) tl), b0, b1, op) := by
    intro n
    induction n with
    | zero =>
      intro k g x2 hk hg e h39
      have ek : k = 5 := by omega
      subst ek
      refine hJ _ _ _ _ ?_
      refine And.intro (fun _ => ?_) (fun (q : ¬ nI 5 ≤ nI 5) => absurd (by decide) q)
      exact h39 g x2 e
    | succ n ih =>
      intro k g x2 hk hg e h39
      have e2 : rgs r.reg (n + 1) k g = rgs r.reg n (k + 1) (rmk (if r.reg k < 0 then 0 else 3) (r.reg k) g) := rfl
      rw [e2] at e
      have ek : (nI k).toNatClampNeg = k := nI_clamp (by omega)
      have hl := (rmk_len (if r.reg k < 0 then 0 else 3) (r.reg k) g).1
      have fin : ∀ y : Int32, y = nI (k + 1) → J 18 [some (.ref 27), some (.int y), x2] [] (cW s (rW (((r.s_marked (eB (rmk (if r.reg k < 0 then 0 else 3) (r.reg k) g).1)).s_pile (eN (rmk (if r.reg k < 0 then 0 else 3) (r.reg k) g).2.1)).s_piled (nI (rmk (if r.reg k < 0 then 0 else 3) (r.reg k) g).2.2)) tl), b0, b1, op) := by
        rintro y rfl
        exact ih (k + 1) _ x2 (by omega) (by omega) e h39
      refine hJ _ _ _ _ ?_
      refine And.intro (fun (q : nI 5 ≤ nI k) => absurd q (nI_ge (by omega) (by omega))) (fun _ => ?_)
      refine And.intro (vp_in_nI (show k < 5 by omega) (by decide)) ?_
      rw [ek]
      by_cases hn : r.reg k < 0
      · rw [if_pos hn] at fin
        refine And.intro (fun (q : 0 ≤ r.reg k) => absurd hn (Int32.not_lt.mpr q)) (fun _ => ?_)
        refine And.intro (vp_in_nI (show k < 5 by omega) (by decide)) ?_
        rw [ek]
        refine r_mark (fun q => absurd q (by decide)) (by omega) ?_
        exact fin _ (nI_succ k).symm
      · rw [if_neg hn] at fin
        refine And.intro (fun _ => ?_) (fun (q : ¬ 0 ≤ r.reg k) => absurd (Int32.not_lt.mp hn) q)
        refine And.intro (vp_in_nI (show k < 5 by omega) (by decide)) ?_
        rw [ek]
        refine r_mark (fun _ => hreg k (by omega) hn) (by omega) ?_
        exact fin _ (nI_succ k).symm
  have loop1 : ∀ (n k : Nat), n + k = r.z → J 2 [some (.ref 27), some (.int (nI k)), none] [] (cW s (rW (((r.s_marked (eB (clr k mk))).s_pile (eN pl)).s_piled (nI n0)) tl), b0, b1, op) := by
    intro n
    induction n with
    | zero =>
      intro k hk
      have ek : k = r.z := by omega
      subst ek
      refine hJ _ _ _ _ ?_
      refine And.intro (fun _ => ?_) (fun (q : ¬ nI r.z ≤ nI r.z) => absurd (nI_le (by omega) (by omega)) q)
      exact loop2 5 0 (clr r.z mk, pl, 0) none rfl (Nat.le_refl _) hd (fun g x2 e => loop3 600 0 g x2 e)
    | succ n ih =>
      intro k hk
      refine hJ _ _ _ _ ?_
      refine And.intro (fun (q : nI r.z ≤ nI k) => absurd q (nI_ge (by omega) (by omega))) (fun _ => ?_)
      refine And.intro (vp_in_nI (show k < 250 by omega) (by decide)) ?_
      have key : ∀ (i : Nat) (x : Int32), i = k → x = nI (k + 1) → J 2 [some (.ref 27), some (.int x), none] [] (cW s (rW (((r.s_marked (upd (eB (clr k mk)) i (vp_nar .boolean 0))).s_pile (eN pl)).s_piled (nI n0)) tl), b0, b1, op) := by
        rintro i x rfl rfl
        rw [clr_step]
        exact ih (i + 1) (by omega)
      exact key _ _ (nI_clamp (by omega)) (nI_succ k).symm
  refine hJ _ _ _ _ ?_
  have h0 := loop1 r.z 0 (by omega)
  rw [clr_0] at h0
  exact h0
end P2h
end
section
def swU (k : Nat) (u : Nat → Int32) (mk : Nat → Bool) : Nat → Int32 := fun i => if i < k then bI (mk i) else u i
theorem swU_0 (u : Nat → Int32) (mk : Nat → Bool) : swU 0 u mk = u := by
  funext i
  unfold swU
  rw [if_neg (by omega)]
theorem swU_at (k : Nat) (u : Nat → Int32) (mk : Nat → Bool) : swU k u mk k = u k := by
  unfold swU
  rw [if_neg (by omega)]
theorem swU_step (k : Nat) (u : Nat → Int32) (mk : Nat → Bool) : upd (swU k u mk) k (vp_nar .boolean (bI (mk k))) = swU (k + 1) u mk := by
  funext j
  have e : vp_nar .boolean (bI (mk k)) = bI (mk k) := by cases mk k <;> decide
  rw [e]
  show (if j = k then bI (mk k) else swU k u mk j) = swU (k + 1) u mk j
  unfold swU
  by_cases h : j = k
  · subst h
    rw [if_pos rfl, if_pos (by omega)]
  · rw [if_neg h]
    by_cases h2 : j < k
    · rw [if_pos h2, if_pos (by omega)]
    · rw [if_neg h2, if_neg (by omega)]
def swN (u : Nat → Int32) (mk : Nat → Bool) : Nat → Nat → Nat → Nat
  | 0, _, a => a
  | n + 1, k, a => swN u mk n (k + 1) (if ¬ u k = 0 ∧ mk k = false then a + 1 else a)
section P2i
variable {cst : Nat → Option (Nat × (Nat → Int32))} {m b0 b1 : Nat} {op : Bool} {tl : List mj_O} {Q : mj_R → Prop} {s : cS} {r : rM}
set_option maxRecDepth 10000
theorem r_sweepLoop {c : Nat} {mk : Nat → Bool} {J : Nat → mj_L → List Value → mj_H → Prop} (hc : c < 2 ^ 31) (hz : r.z ≤ 250) (hJ : ∀ pc ls st h, mj_sg (mj_Mt gT cst gnw m) cst gnw (mj_hd (mj_off kO_R_sweep) kH_R_sweep) kC_R_sweep J Q 400 true pc ls st h → J pc ls st h)
    (hQ : Q (.inl (some (.int (nI (swN r.used mk r.z 0 0)))), (cW s (rW ((r.s_used (swU r.z r.used mk)).s_marked (eB mk)) tl), b0, b1, op))) : ∀ (n k a : Nat), n + k = r.z → swN r.used mk n k a = swN r.used mk r.z 0 0 → J 7 [some (.ref 27), some (.int (nI c)), some (.int (nI a)), some (.int (nI k))] [] (cW s (rW ((r.s_used (swU k r.used mk)).s_marked (eB mk)) tl), b0, b1, op) := by
  intro n
  induction n with
  | zero =>
    intro k a hk e
    change a = _ at e
    rw [← e] at hQ
    have ek : k = r.z := by omega
    subst ek
    refine hJ _ _ _ _ ?_
    refine And.intro (fun _ => ?_) (fun (g : ¬ nI r.z ≤ nI r.z) => absurd (nI_le (by omega) (by omega)) g)
    exact And.intro (fun (g : nI c < 0) => absurd g (nI_pos hc)) (fun _ => hQ)
  | succ n ih =>
    intro k a hk e
    have e2 : swN r.used mk (n + 1) k a = swN r.used mk n (k + 1) (if ¬ r.used k = 0 ∧ mk k = false then a + 1 else a) := rfl
    rw [e2] at e
    have ek : (nI k).toNatClampNeg = k := nI_clamp (by omega)
    have hin : vp_in (nI k) 250 := vp_in_nI (by omega) (by decide)
    have fin : ∀ (i : Nat) (x y : Int32) (v : Int32), i = k → v = bI (mk k) → y = nI (k + 1) → x = nI (if ¬ r.used k = 0 ∧ mk k = false then a + 1 else a) → J 7 [some (.ref 27), some (.int (nI c)), some (.int x), some (.int y)] [] (cW s (rW ((r.s_used (upd (swU k r.used mk) i (vp_nar .boolean v))).s_marked (eB mk)) tl), b0, b1, op) := by
      rintro i x y v rfl rfl rfl rfl
      rw [swU_step]
      exact ih (i + 1) _ (by omega) e
    refine hJ _ _ _ _ ?_
    refine And.intro (fun (g : nI r.z ≤ nI k) => absurd g (nI_ge (by omega) (by omega))) (fun _ => ?_)
    refine And.intro hin ?_
    have eu : swU k r.used mk (nI k).toNatClampNeg = r.used k := by rw [ek]; exact swU_at k r.used mk
    refine And.intro (fun (g : swU k r.used mk (nI k).toNatClampNeg = 0) => ?_) (fun (g : ¬ swU k r.used mk (nI k).toNatClampNeg = 0) => ?_)
    · rw [eu] at g
      refine And.intro hin (And.intro hin ?_)
      exact fin _ _ _ _ ek (by rw [ek]; rfl) (nI_succ k).symm (by rw [if_neg (fun q => q.1 g)])
    · rw [eu] at g
      refine And.intro hin ?_
      refine And.intro (fun (g2 : ¬ bI (mk (nI k).toNatClampNeg) = 0) => ?_) (fun (g2 : bI (mk (nI k).toNatClampNeg) = 0) => ?_)
      · rw [ek] at g2
        have hm : ¬ mk k = false := fun h => g2 (by rw [h]; rfl)
        refine And.intro hin (And.intro hin ?_)
        exact fin _ _ _ _ ek (by rw [ek]; rfl) (nI_succ k).symm (by rw [if_neg (fun q => hm q.2)])
      · rw [ek] at g2
        have hm : mk k = false := by
          cases h : mk k with
          | false => rfl
          | true => rw [h] at g2; exact absurd g2 (by decide)
        refine And.intro hin (And.intro hin ?_)
        exact fin _ _ _ _ ek (by rw [ek]; rfl) (nI_succ k).symm (by rw [if_pos ⟨g, hm⟩]; exact (nI_succ a).symm)
end P2i
end
section
def dW (o0 o1 o2 o3 o4 o5 o6 o7 o8 o9 o10 o11 o12 o13 o14 o15 o16 : mj_O) (z : Nat) (H T : Nat → Int64) (fr mk rc : Nat → Int32) (fN rN cN k : Int32) (n : Nat) (f : Nat → Nat) (r : Nat → Int64) (tl : List mj_O) : List mj_O :=
  sW o0 o1 o2 o3 o4 o5 o6 o7 o8 o9 o10 o11 o12 o13 o14 o15 o16 z H T fr mk rc fN rN cN (oF 8 [.ref 17, .ref 24, .ref 26, .int k] :: .inr (.inr (.inl (n, f))) :: .inr (.inr (.inr ())) :: oJ 120 r :: tl)
def shA : Vl → List Nat
  | .inr (.inl x) => (List.range (isz x)).map (ich x)
  | .inr (.inr (.inl x)) => [x.toNatClampNeg]
  | .inr (.inr (.inr (.inr _))) => [35]
  | _ => [40, 41]
theorem shA_len (v : Vl) : 1 ≤ (shA v).length ∧ (shA v).length ≤ 11 := by
  rcases v with u | x | x | i | i
  · simp [shA]
  · have := isz_in x
    simp [shA]
    omega
  · simp [shA]
  · simp [shA]
  · simp [shA]
def agr (l : List Nat) (f : Nat → Nat) : Prop := ∀ i, i < l.length → f i = l.getD i 0
theorem agr_cat {l s : List Nat} {f t : Nat → Nat} (h : agr l f) (ht : ∀ i, i < s.length → t i = s.getD i 0) : agr (l ++ s) (sb_cat f l.length t) := by
  intro i hi
  rw [List.length_append] at hi
  rw [List.getD_eq_getElem?_getD]
  by_cases h1 : i < l.length
  · rw [sb_cat_lo h1, h i h1, List.getElem?_append_left h1, List.getD_eq_getElem?_getD]
  · have e := sb_cat_hi (t := f) (s := t) (n := l.length) (j := i - l.length)
    rw [show l.length + (i - l.length) = i by omega] at e
    rw [e, ht _ (by omega), List.getElem?_append_right (by omega), List.getD_eq_getElem?_getD]
theorem agr_ints (x : Int32) : ∀ i, i < ((List.range (isz x)).map (ich x)).length → ich x i = ((List.range (isz x)).map (ich x)).getD i 0 := by
  intro i hi
  rw [List.length_map, List.length_range] at hi
  rw [List.getD_eq_getElem?_getD, List.getElem?_map, List.getElem?_range hi]
  rfl
def pot (n : Nat) : Nat := n * (n + 1)
theorem pot_step {n k : Nat} (h : n + 1 ≤ k) : 2 * k + pot n ≤ pot k := by
  obtain ⟨d, rfl⟩ : ∃ d, k = n + 1 + d := ⟨k - (n + 1), by omega⟩
  unfold pot
  have h1 : (n + 1 + d) * (n + 1 + d + 1) = n * (n + 1) + 2 * (n + 1) + d * (n + n + 3 + d) := by
    have := Nat.mul_comm n d
    simp only [Nat.mul_add, Nat.add_mul, Nat.mul_one, Nat.one_mul]
    omega
  have h2 : 2 * d ≤ d * (n + n + 3 + d) := by
    rw [Nat.mul_comm 2 d]
    exact Nat.mul_le_mul_left d (by omega)
  omega
theorem pot_le {n : Nat} (h : n ≤ 140) : pot n ≤ 19740 := by
  have := Nat.mul_le_mul h (show n + 1 ≤ 141 by omega)
  unfold pot
  omega
def dotA : Vl → List Nat
  | .inl _ => []
  | v => [32, 46, 32] ++ shA v
def endL (r : Nat → Vl) : Nat → List Nat → List Nat × Nat
  | 0, l => (l, 0)
  | k + 1, l => if kV (r k) = 3 ∨ 120 ≤ l.length then (l, k + 1) else endL r k ((l ++ dotA (r k)) ++ [41])
def shw (H T : Nat → Vl) : Nat → List Nat → (Nat → Vl) → Nat → Vl → List Nat × (Nat → Vl) × Nat
  | 0, l, r, k, _ => (l, r, k)
  | t + 1, l, r, k, v => if 120 ≤ l.length then (l, r, k) else
      if kV v = 3 then shw H T t (l ++ [40]) (upW r k (ofV T v)) (k + 1) (ofV H v)
      else if (endL r k (l ++ shA v)).2 = 0 then ((endL r k (l ++ shA v)).1, r, 0)
      else shw H T t ((endL r k (l ++ shA v)).1 ++ [32]) (upW r ((endL r k (l ++ shA v)).2 - 1) (ofV T (r ((endL r k (l ++ shA v)).2 - 1)))) (endL r k (l ++ shA v)).2 (ofV H (r ((endL r k (l ++ shA v)).2 - 1)))
theorem encV_0 {v : Vl} (h : encV v = 0) : v = vNil := by
  rcases v with u | x | x | i | i
  · rfl
  · exact absurd (congrArg (fun y => y.toBitVec.toNat) h) (by show (eK 1 x).toBitVec.toNat ≠ 0; rw [eK_nat 1 (by decide)]; omega)
  · exact absurd (congrArg (fun y => y.toBitVec.toNat) h) (by show (eK 2 x).toBitVec.toNat ≠ 0; rw [eK_nat 2 (by decide)]; omega)
  · exact absurd (congrArg (fun y => y.toBitVec.toNat) h) (by show (eK 3 (nI i)).toBitVec.toNat ≠ 0; rw [eK_nat 3 (by decide)]; omega)
  · exact absurd (congrArg (fun y => y.toBitVec.toNat) h) (by show (eK 4 (nI i)).toBitVec.toNat ≠ 0; rw [eK_nat 4 (by decide)]; omega)
section P2d
variable {m b0 b1 c0 s0 : Nat} {tl : List mj_O} {Q : mj_R → Prop} {xs : List Int32}
variable {o0 o1 o2 o3 o4 o5 o6 o7 o8 o9 o10 o11 o12 o13 o14 o15 o16 : mj_O} {z : Nat} {H T : Nat → Vl} {fr mk rc : Nat → Int32} {fN rN cN : Int32} {k : Int32} {r : Nat → Int64} {f : Nat → Nat} {l : List Nat}
set_option maxRecDepth 10000
theorem d_cost {n w b b' : Nat} (hw : 1 ≤ w) (h1 : s0 ≤ b + pot n) (q : b ≤ b' + 2 * (n + w)) : s0 ≤ b' + pot (n + w) := by
  have := pot_step (n := n) (k := n + w) (by omega)
  omega
theorem d_room {n w b : Nat} (hw : 1 ≤ w) (hn : n + w ≤ 140) (hs : 20000 ≤ s0) (h1 : s0 ≤ b + pot n) : 2 * (n + w) ≤ b := by
  have h2 := pot_step (n := n) (k := n + w) (by omega)
  have h3 := pot_le hn
  omega
theorem v_isPairX {cst : Nat → Option (Nat × (Nat → Int32))} {h : mj_H} {x : Int64} {v : Vl} (hx : x = encV v) (hQ : Q (.inl (some (.int (bJ (kV v == 3)))), h)) : mj_Mt gT cst gnw (m + 1) y_Value_isPair [.long x] h Q := by
  subst hx
  exact v_isPair hQ
theorem d_atom {x : Int64} {n : Nat} {v : Vl} (hx : x = encV v) (hn : n = l.length) (hv : okV z v) (hl : l.length ≤ 128) (hc : 200 ≤ c0) (hs : 20000 ≤ s0) (h0 : c0 ≤ b0 + l.length) (h1 : s0 ≤ b1 + pot l.length) (hf : agr l f) (hQ : ∀ f' b0' b1', agr (l ++ shA v) f' → c0 ≤ b0' + (l ++ shA v).length → s0 ≤ b1' + pot (l ++ shA v).length → Q (.inl none, (dW o0 o1 o2 o3 o4 o5 o6 o7 o8 o9 o10 o11 o12 o13 o14 o15 o16 z (eH H) (eH T) fr mk rc fN rN cN k (l ++ shA v).length f' r tl, b0', b1', false))) :
    mj_Mt gT (law_cst xs) gnw (m + 6) y_Display_showAtom [.ref 23, .long x] (dW o0 o1 o2 o3 o4 o5 o6 o7 o8 o9 o10 o11 o12 o13 o14 o15 o16 z (eH H) (eH T) fr mk rc fN rN cN k n f r tl, b0, b1, false) Q := by
  subst hx
  subst hn
  have hsl := shA_len v
  have hp := pot_le (n := l.length) (by omega)
  have hps := pot_step (n := l.length) (k := (l ++ shA v).length) (by rw [List.length_append]; omega)
  have hpl := pot_le (n := (l ++ shA v).length) (by rw [List.length_append]; omega)
  obtain ⟨bc, rfl⟩ : ∃ bc, b0 = bc + 1 := ⟨b0 - 1, by omega⟩
  have fin : ∀ (w : Nat) (t : Nat → Nat) (b0' b1' : Nat), w = (shA v).length → (∀ i, i < (shA v).length → t i = (shA v).getD i 0) → bc ≤ b0' → b1 ≤ b1' + 2 * (l.length + w) → Q (.inl none, (dW o0 o1 o2 o3 o4 o5 o6 o7 o8 o9 o10 o11 o12 o13 o14 o15 o16 z (eH H) (eH T) fr mk rc fN rN cN k (l.length + w) (sb_cat f l.length t) r tl, b0', b1', false)) := by
    rintro w t b0' b1' rfl ht q0 q1
    have := hQ (sb_cat f l.length t) b0' b1' (agr_cat hf ht) (by rw [List.length_append]; omega) (by rw [List.length_append] at *; omega)
    rw [List.length_append] at this
    exact this
  have hlen : (l ++ shA v).length = l.length + (shA v).length := List.length_append
  rw [hlen] at hps hpl
  intro J hJ
  refine hJ _ _ _ _ ?_
  refine v_isNumber ?_
  rcases v with u | x | x | i | i
  · refine And.intro (fun _ => ?_) (fun h => absurd rfl h)
    refine v_isSymbol ?_
    refine And.intro (fun _ => ?_) (fun h => absurd rfl h)
    refine v_isFunction ?_
    refine And.intro (fun _ => ?_) (fun h => absurd rfl h)
    refine x_appendS2011 (by omega) (d_room (w := 2) (by decide) (by omega) hs h1) (fun b0' b1' q0 q1 => ?_)
    exact fin 2 stx2011 b0' b1' rfl (show ∀ i, i < 2 → stx2011 i = ([40, 41] : List Nat).getD i 0 by decide) q0 q1
  · have hi := isz_in x
    have hw : (shA (vInt x)).length = isz x := by simp [shA]
    refine And.intro (fun h => absurd (show (1 : Int32) = 0 from h) (by decide)) (fun _ => ?_)
    refine v_content ?_
    rw [show (encV (vInt x)).toInt32 = x from eK_int 1 (by decide) x]
    refine x_appendI (by omega) (d_room (w := isz x) hi.1 (by omega) hs h1) (fun b0' b1' q0 q1 => ?_)
    exact fin (isz x) (ich x) b0' b1' hw.symm (agr_ints x) q0 q1
  · obtain ⟨c, hc9, rfl⟩ := hv
    refine And.intro (fun _ => ?_) (fun h => absurd rfl h)
    refine v_isSymbol ?_
    refine And.intro (fun h => absurd (show (1 : Int32) = 0 from h) (by decide)) (fun _ => ?_)
    refine v_content ?_
    rw [show (encV (vSym (nI c))).toInt32 = nI c from eK_int 2 (by decide) (nI c)]
    refine x_appendC (sb_byte c hc9).2.1 hc9 (by omega) (d_room (Nat.le_refl 1) (by omega) hs h1) (fun b0' b1' q0 q1 => ?_)
    exact fin 1 (fun _ => c) b0' b1' rfl (fun i hi => by
      obtain rfl : i = 0 := by simp [shA] at hi; omega
      show c = (nI c).toNatClampNeg
      rw [nI_clamp (by omega)]) q0 q1
  · refine And.intro (fun _ => ?_) (fun h => absurd rfl h)
    refine v_isSymbol ?_
    refine And.intro (fun _ => ?_) (fun h => absurd rfl h)
    refine v_isFunction ?_
    refine And.intro (fun _ => ?_) (fun h => absurd rfl h)
    refine x_appendS2011 (by omega) (d_room (w := 2) (by decide) (by omega) hs h1) (fun b0' b1' q0 q1 => ?_)
    exact fin 2 stx2011 b0' b1' rfl (show ∀ i, i < 2 → stx2011 i = ([40, 41] : List Nat).getD i 0 by decide) q0 q1
  · refine And.intro (fun _ => ?_) (fun h => absurd rfl h)
    refine v_isSymbol ?_
    refine And.intro (fun _ => ?_) (fun h => absurd rfl h)
    refine v_isFunction ?_
    refine And.intro (fun h => absurd (show (1 : Int32) = 0 from h) (by decide)) (fun _ => ?_)
    refine x_appendC (c := 35) rfl (by decide) (by omega) (d_room (Nat.le_refl 1) (by omega) hs h1) (fun b0' b1' q0 q1 => ?_)
    exact fin 1 (fun _ => 35) b0' b1' rfl (fun i hi => by
      obtain rfl : i = 0 := by simp [shA] at hi; omega
      rfl) q0 q1
theorem endL_le (r : Nat → Vl) : ∀ (k : Nat) (l : List Nat), (endL r k l).2 ≤ k ∧ l.length ≤ (endL r k l).1.length
  | 0, l => ⟨Nat.le_refl _, Nat.le_refl _⟩
  | k + 1, l => by
    unfold endL
    split
    · exact ⟨Nat.le_refl _, Nat.le_refl _⟩
    · obtain ⟨h1, h2⟩ := endL_le r k ((l ++ dotA (r k)) ++ [41])
      simp only [List.length_append] at h2
      omega
theorem dotA_len (v : Vl) : (dotA v).length ≤ 14 := by
  have := shA_len v
  rcases v with u | x | x | i | i <;> simp [dotA] <;> omega
theorem endL_len (r : Nat → Vl) : ∀ (k : Nat) (l : List Nat), l.length ≤ 134 → (endL r k l).1.length ≤ 134
  | 0, l, h => h
  | k + 1, l, h => by
    unfold endL
    split
    · exact h
    · next h9 =>
      refine endL_len r k _ ?_
      have := dotA_len (r k)
      simp only [List.length_append, List.length_cons, List.length_nil]
      omega
theorem d_endLoop {R : Nat → Vl} {J : Nat → mj_L → List Value → mj_H → Prop} (hJ : ∀ pc ls st h, mj_sg (mj_Mt gT (law_cst xs) gnw (m + 6)) (law_cst xs) gnw (mj_hd (mj_off kO_Display_endLists) kH_Display_endLists) kC_Display_endLists J Q 400 true pc ls st h → J pc ls st h) (hr : ∀ k, k < 120 → okV z (R k)) (hc : 200 ≤ c0) (hs : 20000 ≤ s0) :
    ∀ (k : Nat) (l : List Nat) (n : Nat) (f : Nat → Nat) (b0 b1 : Nat), n = l.length → k ≤ 120 → l.length ≤ 134 → c0 ≤ b0 + l.length → s0 ≤ b1 + pot l.length → agr l f → (∀ f' b0' b1', agr ((endL R k l).1) f' → c0 ≤ b0' + ((endL R k l).1).length → s0 ≤ b1' + pot ((endL R k l).1).length → Q (.inl none, (dW o0 o1 o2 o3 o4 o5 o6 o7 o8 o9 o10 o11 o12 o13 o14 o15 o16 z (eH H) (eH T) fr mk rc fN rN cN (nI (endL R k l).2) ((endL R k l).1).length f' (eH R) tl, b0', b1', false))) →
    J 0 [some (.ref 23)] [] (dW o0 o1 o2 o3 o4 o5 o6 o7 o8 o9 o10 o11 o12 o13 o14 o15 o16 z (eH H) (eH T) fr mk rc fN rN cN (nI k) n f (eH R) tl, b0, b1, false) := by
  intro k
  induction k with
  | zero =>
    intro l n f b0 b1 hn hk hl h0 h1 hf hQ
    subst hn
    refine hJ _ _ _ _ ?_
    refine And.intro (fun _ => ?_) (fun h => absurd (by decide) h)
    exact hQ f b0 b1 hf h0 h1
  | succ k ih =>
    intro l n f b0 b1 hn hk hl h0 h1 hf hQ
    subst hn
    have ek : nI (k + 1) - Int32.ofInt 1 = nI k := nI_pred k
    have ec : (nI k).toNatClampNeg = k := nI_clamp (by omega)
    obtain ⟨bc, rfl⟩ : ∃ bc, b0 = bc + 1 := ⟨b0 - 1, by omega⟩
    refine hJ _ _ _ _ ?_
    refine And.intro (fun h => absurd h (nI_nle (n := k + 1) (by omega) (by omega))) (fun _ => ?_)
    refine And.intro (show vp_in (nI (k + 1) - Int32.ofInt 1) 120 by rw [ek]; exact vp_in_nI (by omega) (by decide)) ?_
    refine v_isPairX (v := R k) (by rw [ek, ec]) ?_
    by_cases h3 : kV (R k) = 3
    · have e3 : (kV (R k) == 3) = true := by simpa using h3
      rw [e3]
      refine And.intro (fun _ => ?_) (fun h => absurd h (by decide))
      have e : endL R (k + 1) l = (l, k + 1) := by unfold endL; rw [if_pos (Or.inl h3)]
      rw [e] at hQ
      exact hQ f _ b1 hf h0 h1
    · have e3 : (kV (R k) == 3) = false := by simpa using h3
      rw [e3]
      refine And.intro (fun h => absurd rfl h) (fun _ => ?_)
      refine x_length ?_
      refine And.intro (fun h => ?_) (fun h => ?_)
      · have h9 : 120 ≤ l.length := (nI_leI (a := 120) (b := l.length) (by decide) (by omega)).mp h
        have e : endL R (k + 1) l = (l, k + 1) := by unfold endL; rw [if_pos (Or.inr h9)]
        rw [e] at hQ
        exact hQ f _ b1 hf h0 h1
      · have h9 : l.length < 120 := Nat.lt_of_not_le (fun q => h ((nI_leI (a := 120) (b := l.length) (by decide) (by omega)).mpr q))
        have e : endL R (k + 1) l = endL R k ((l ++ dotA (R k)) ++ [41]) := by
          rw [endL, if_neg (by omega)]
        rw [e] at hQ
        have hdl := dotA_len (R k)
        have close : ∀ (F : Nat) (o : Int32) (l1 : List Nat) (n1 : Nat) (f1 : Nat → Nat) (d0 d1 : Nat), o = nI k → l1 = l ++ dotA (R k) → n1 = l1.length → agr l1 f1 → c0 ≤ d0 + l1.length → s0 ≤ d1 + pot l1.length → mj_sg (mj_Mt gT (law_cst xs) gnw (m + 6)) (law_cst xs) gnw (mj_hd (mj_off kO_Display_endLists) kH_Display_endLists) kC_Display_endLists J Q (F + 20) false 43 [some (.ref 23)] [] (dW o0 o1 o2 o3 o4 o5 o6 o7 o8 o9 o10 o11 o12 o13 o14 o15 o16 z (eH H) (eH T) fr mk rc fN rN cN o n1 f1 (eH R) tl, d0, d1, false) := by
          rintro F o l1 n1 f1 d0 d1 rfl rfl rfl hf1 g0 g1
          have hll : (l ++ dotA (R k)).length ≤ 133 := by rw [List.length_append]; omega
          obtain ⟨bd, rfl⟩ : ∃ bd, d0 = bd + 1 := ⟨d0 - 1, by omega⟩
          refine x_appendC (c := 41) rfl (by decide) (by omega) (d_room (Nat.le_refl 1) (by omega) hs g1) (fun b0' b1' q0 q1 => ?_)
          refine ih ((l ++ dotA (R k)) ++ [41]) _ _ _ _ (List.length_append (bs := [41])).symm (by omega) (by rw [List.length_append]; simp only [List.length_cons, List.length_nil]; omega) (by rw [List.length_append]; simp only [List.length_cons, List.length_nil]; omega) (by rw [List.length_append (bs := [41])]; exact d_cost (Nat.le_refl 1) g1 q1) (agr_cat hf1 (fun i hi => ?_)) hQ
          obtain rfl : i = 0 := by simp at hi; omega
          rfl
        have vin : vp_in (nI (k + 1) - Int32.ofInt 1) 120 := by rw [ek]; exact vp_in_nI (by omega) (by decide)
        refine And.intro vin ?_
        have hx : ∀ j, j = k → lg_cmp (eH R j) (Int64.ofNat 0) = 0 → R k = vNil := by
          rintro j rfl h
          exact encV_0 (lg_eq.mp h)
        refine And.intro (fun h => ?_) (fun h => ?_)
        · have h8 : R k = vNil := hx _ (by rw [ek]; exact ec) h
          exact close _ _ l _ _ _ _ ek (by rw [h8]; exact (List.append_nil l).symm) rfl hf (by omega) h1
        · have h8 : dotA (R k) = [32, 46, 32] ++ shA (R k) := by
            have h7 : ¬ R k = vNil := fun q => h (lg_eq.mpr (by rw [ek, ec]; show encV (R k) = _; rw [q]; rfl))
            generalize R k = w at h7
            rcases w with u | x | x | i | i
            · exact absurd rfl h7
            all_goals rfl
          refine x_appendS2010 (by omega) (d_room (w := 3) (by decide) (by omega) hs h1) (fun b0' b1' q0 q1 => ?_)
          refine And.intro vin ?_
          refine d_atom (l := l ++ [32, 46, 32]) (v := R k) (by rw [ek, ec]) (by rw [List.length_append]; rfl) (hr k (by omega)) (by rw [List.length_append]; simp only [List.length_cons, List.length_nil]; omega) hc hs (by rw [List.length_append]; simp only [List.length_cons, List.length_nil]; omega) (by rw [List.length_append (bs := [32, 46, 32])]; exact d_cost (w := 3) (by decide) h1 q1) (agr_cat hf (show ∀ i, i < 3 → stx2010 i = ([32, 46, 32] : List Nat).getD i 0 by decide)) (fun f2 e0 e1 a1 a2 a3 => ?_)
          refine close _ _ (l ++ dotA (R k)) _ _ _ _ ek rfl ?_ ?_ ?_ ?_
          · rw [h8, List.append_assoc]
          · rw [h8, ← List.append_assoc]; exact a1
          · rw [h8, ← List.append_assoc]; exact a2
          · rw [h8, ← List.append_assoc]; exact a3
theorem d_end {R : Nat → Vl} {n k : Nat} (hn : n = l.length) (hr : ∀ k, k < 120 → okV z (R k)) (hk : k ≤ 120) (hl : l.length ≤ 134) (hc : 200 ≤ c0) (hs : 20000 ≤ s0) (h0 : c0 ≤ b0 + l.length) (h1 : s0 ≤ b1 + pot l.length) (hf : agr l f) (hQ : ∀ f' b0' b1', agr ((endL R k l).1) f' → c0 ≤ b0' + ((endL R k l).1).length → s0 ≤ b1' + pot ((endL R k l).1).length → Q (.inl none, (dW o0 o1 o2 o3 o4 o5 o6 o7 o8 o9 o10 o11 o12 o13 o14 o15 o16 z (eH H) (eH T) fr mk rc fN rN cN (nI (endL R k l).2) ((endL R k l).1).length f' (eH R) tl, b0', b1', false))) :
    mj_Mt gT (law_cst xs) gnw (m + 7) y_Display_endLists [.ref 23] (dW o0 o1 o2 o3 o4 o5 o6 o7 o8 o9 o10 o11 o12 o13 o14 o15 o16 z (eH H) (eH T) fr mk rc fN rN cN (nI k) n f (eH R) tl, b0, b1, false) Q := by
  intro J hJ
  exact d_endLoop hJ hr hc hs k l n f b0 b1 hn hk hl h0 h1 hf hQ
theorem s_headX {cst : Nat → Option (Nat × (Nat → Int32))} {op : Bool} {x : Int64} {v : Vl} {tR : Nat → Int64} (hx : x = encV v) (hz : z ≤ 250) (hv : okV z v) (hQ : Q (.inl (some (.long (encV (ofV H v)))), (sW o0 o1 o2 o3 o4 o5 o6 o7 o8 o9 o10 o11 o12 o13 o14 o15 o16 z (eH H) tR fr mk rc fN rN cN tl, b0, b1, op))) : mj_Mt gT cst gnw (m + 2) y_Store_head [.ref 17, .long x] (sW o0 o1 o2 o3 o4 o5 o6 o7 o8 o9 o10 o11 o12 o13 o14 o15 o16 z (eH H) tR fr mk rc fN rN cN tl, b0, b1, op) Q := by
  subst hx
  exact s_head hz hv hQ
theorem s_tailX {cst : Nat → Option (Nat × (Nat → Int32))} {op : Bool} {x : Int64} {v : Vl} {hR : Nat → Int64} (hx : x = encV v) (hz : z ≤ 250) (hv : okV z v) (hQ : Q (.inl (some (.long (encV (ofV T v)))), (sW o0 o1 o2 o3 o4 o5 o6 o7 o8 o9 o10 o11 o12 o13 o14 o15 o16 z hR (eH T) fr mk rc fN rN cN tl, b0, b1, op))) : mj_Mt gT cst gnw (m + 2) y_Store_tail [.ref 17, .long x] (sW o0 o1 o2 o3 o4 o5 o6 o7 o8 o9 o10 o11 o12 o13 o14 o15 o16 z hR (eH T) fr mk rc fN rN cN tl, b0, b1, op) Q := by
  subst hx
  exact s_tail hz hv hQ
theorem okV_of2 {z : Nat} {g : Nat → Vl} {v : Vl} (hg : ∀ i, i < z → okV z (g i)) (hv : okV z v) : okV z (ofV g v) := by
  rcases v with u | x | x | i | i
  · exact trivial
  · exact trivial
  · exact trivial
  · exact hg i hv
  · exact hg i hv
theorem d_showLoop {r0 : Int64} {J : Nat → mj_L → List Value → mj_H → Prop} (hJ : ∀ pc ls st h, mj_sg (mj_Mt gT (law_cst xs) gnw (m + 7)) (law_cst xs) gnw (mj_hd (mj_off kO_Display_show) kH_Display_show) kC_Display_show J Q 400 true pc ls st h → J pc ls st h) (hz : z ≤ 250) (hH : ∀ i, i < z → okV z (H i)) (hT : ∀ i, i < z → okV z (T i)) (hc : 200 ≤ c0) (hs : 20000 ≤ s0) :
    ∀ (u t : Nat) (l : List Nat) (n : Nat) (f : Nat → Nat) (R : Nat → Vl) (k : Nat) (v : Vl) (b0 b1 : Nat), u + t = 120 → n = l.length → k ≤ l.length → l.length ≤ 135 → okV z v → (∀ k, k < 120 → okV z (R k)) → c0 ≤ b0 + l.length → s0 ≤ b1 + pot l.length → agr l f → (∀ f' b0' b1', agr ((shw H T u l R k v).1) f' → c0 ≤ b0' + ((shw H T u l R k v).1).length → s0 ≤ b1' + pot ((shw H T u l R k v).1).length → Q (.inl none, (dW o0 o1 o2 o3 o4 o5 o6 o7 o8 o9 o10 o11 o12 o13 o14 o15 o16 z (eH H) (eH T) fr mk rc fN rN cN (nI (shw H T u l R k v).2.2) ((shw H T u l R k v).1).length f' (eH (shw H T u l R k v).2.1) tl, b0', b1', false))) →
    J 11 [some (.ref 23), some (.long r0), none, some (.long (encV v)), none, some (.int (nI t))] [] (dW o0 o1 o2 o3 o4 o5 o6 o7 o8 o9 o10 o11 o12 o13 o14 o15 o16 z (eH H) (eH T) fr mk rc fN rN cN (nI k) n f (eH R) tl, b0, b1, false) := by
  intro u
  induction u with
  | zero =>
    intro t l n f R k v b0 b1 hu hn hk hl hv hr h0 h1 hf hQ
    subst hn
    obtain rfl : t = 120 := by omega
    refine hJ _ _ _ _ ?_
    refine And.intro (fun _ => ?_) (fun h => absurd (by decide) h)
    exact hQ f b0 b1 hf h0 h1
  | succ u ih =>
    intro t l n f R k v b0 b1 hu hn hk hl hv hr h0 h1 hf hQ
    subst hn
    obtain ⟨bc, rfl⟩ : ∃ bc, b0 = bc + 1 := ⟨b0 - 1, by omega⟩
    refine hJ _ _ _ _ ?_
    refine And.intro (fun h => absurd h (nI_ge (a := t) (b := 120) (by omega) (by decide))) (fun _ => ?_)
    refine x_length ?_
    refine And.intro (fun h => ?_) (fun h => ?_)
    · have h9 : 120 ≤ l.length := (nI_leI (a := 120) (b := l.length) (by decide) (by omega)).mp h
      have e : shw H T (u + 1) l R k v = (l, R, k) := by rw [shw, if_pos h9]
      rw [e] at hQ
      exact hQ f _ b1 hf h0 h1
    · have h9 : l.length < 120 := Nat.lt_of_not_le (fun q => h ((nI_leI (a := 120) (b := l.length) (by decide) (by omega)).mpr q))
      have ec : (nI k).toNatClampNeg = k := nI_clamp (by omega)
      refine v_isPair ?_
      by_cases h3 : kV v = 3
      · have e3 : (kV v == 3) = true := by simpa using h3
        have e : shw H T (u + 1) l R k v = shw H T u (l ++ [40]) (upW R k (ofV T v)) (k + 1) (ofV H v) := by rw [shw, if_neg (by omega), if_pos h3]
        rw [e] at hQ
        rw [e3]
        refine And.intro (fun h => absurd h (by decide)) (fun _ => ?_)
        refine And.intro (fun h => absurd h (nI_ge (a := k) (b := 120) (by omega) (by decide))) (fun _ => ?_)
        refine x_appendC (c := 40) rfl (by decide) (by omega) (d_room (Nat.le_refl 1) (by omega) hs h1) (fun b0' b1' q0 q1 => ?_)
        refine s_tailX rfl hz hv ?_
        refine And.intro (vp_in_nI (by omega) (by decide)) ?_
        refine s_headX rfl hz hv ?_
        have key : ∀ (i : Nat) (o t' : Int32), i = k → o = nI (k + 1) → t' = nI (t + 1) → J 11 [some (.ref 23), some (.long r0), none, some (.long (encV (ofV H v))), none, some (.int t')] [] (dW o0 o1 o2 o3 o4 o5 o6 o7 o8 o9 o10 o11 o12 o13 o14 o15 o16 z (eH H) (eH T) fr mk rc fN rN cN o (l.length + 1) (sb_cat f l.length (fun _ => 40)) (vp_updL (eH R) i (encV (ofV T v))) tl, b0', b1', false) := by
          rintro i o t' rfl rfl rfl
          rw [updL_enc]
          refine ih (t + 1) (l ++ [40]) _ _ _ _ _ _ _ (by omega) (List.length_append (bs := [40])).symm (by rw [List.length_append]; simp only [List.length_cons, List.length_nil]; omega) (by rw [List.length_append]; simp only [List.length_cons, List.length_nil]; omega) (okV_of2 hH hv) (fun j hj => ?_) (by rw [List.length_append]; simp only [List.length_cons, List.length_nil]; omega) (by rw [List.length_append (bs := [40])]; exact d_cost (Nat.le_refl 1) h1 q1) (agr_cat hf (fun i hi => ?_)) hQ
          · unfold upW
            split
            · exact okV_of2 hT hv
            · exact hr j hj
          · obtain rfl : i = 0 := by simp at hi; omega
            rfl
        exact key _ _ _ ec (nI_1 k) (nI_1 t)
      · have e3 : (kV v == 3) = false := by simpa using h3
        rw [e3]
        refine And.intro (fun _ => ?_) (fun h => absurd rfl h)
        have hsl := shA_len v
        have hll : (l ++ shA v).length ≤ 130 := by rw [List.length_append]; omega
        obtain ⟨hel, hel2⟩ := endL_le R k (l ++ shA v)
        have hel3 := endL_len R k (l ++ shA v) (by omega)
        refine d_atom rfl rfl hv (by omega) hc hs (by omega) h1 hf (fun f2 e0 e1 a1 a2 a3 => ?_)
        refine d_end rfl hr (by omega) (by omega) hc hs a2 a3 a1 (fun f3 g0 g1 c1 c2 c3 => ?_)
        have e : shw H T (u + 1) l R k v = if (endL R k (l ++ shA v)).2 = 0 then ((endL R k (l ++ shA v)).1, R, 0) else shw H T u ((endL R k (l ++ shA v)).1 ++ [32]) (upW R ((endL R k (l ++ shA v)).2 - 1) (ofV T (R ((endL R k (l ++ shA v)).2 - 1)))) (endL R k (l ++ shA v)).2 (ofV H (R ((endL R k (l ++ shA v)).2 - 1))) := by rw [shw, if_neg (by omega), if_neg h3]
        rw [e] at hQ
        generalize hE : endL R k (l ++ shA v) = E at *
        obtain ⟨L, q⟩ := E
        by_cases hq : q = 0
        · subst hq
          rw [if_pos rfl] at hQ
          refine And.intro (fun h => absurd rfl h) (fun _ => ?_)
          exact hQ f3 g0 g1 c1 c2 c3
        · obtain ⟨j, rfl⟩ : ∃ j, q = j + 1 := ⟨q - 1, by omega⟩
          rw [if_neg hq] at hQ
          have hel : j + 1 ≤ k := hel
          have hel3 : L.length ≤ 134 := hel3
          have hel2 : (l ++ shA v).length ≤ L.length := hel2
          have hlk : l.length ≤ L.length := by rw [List.length_append] at hel2; omega
          have ek : nI (j + 1) - Int32.ofInt 1 = nI j := nI_pred j
          have ecj : (nI j).toNatClampNeg = j := nI_clamp (by omega)
          have vin : vp_in (nI (j + 1) - Int32.ofInt 1) 120 := by rw [ek]; exact vp_in_nI (by omega) (by decide)
          have c2 : c0 ≤ g0 + L.length := c2
          have c3 : s0 ≤ g1 + pot L.length := c3
          obtain ⟨bd, rfl⟩ : ∃ bd, g0 = bd + 1 := ⟨g0 - 1, by omega⟩
          refine And.intro (fun _ => ?_) (fun h => absurd h (nI_ne0 (n := j + 1) (by omega) (by omega)))
          refine x_appendC (c := 32) rfl (by decide) (by omega) (d_room (Nat.le_refl 1) (by omega) hs c3) (fun b0' b1' q0 q1 => ?_)
          refine And.intro vin ?_
          refine s_headX (v := R j) (by rw [ek, ecj]) hz (hr j (by omega)) ?_
          refine And.intro vin ?_
          refine s_tailX (v := R j) (by rw [ek, ecj]) hz (hr j (by omega)) ?_
          refine And.intro vin ?_
          have key : ∀ (i : Nat) (t' : Int32), i = j → t' = nI (t + 1) → J 11 [some (.ref 23), some (.long r0), none, some (.long (encV (ofV H (R j)))), none, some (.int t')] [] (dW o0 o1 o2 o3 o4 o5 o6 o7 o8 o9 o10 o11 o12 o13 o14 o15 o16 z (eH H) (eH T) fr mk rc fN rN cN (nI (j + 1)) (L.length + 1) (sb_cat f3 L.length (fun _ => 32)) (vp_updL (eH R) i (encV (ofV T (R j)))) tl, b0', b1', false) := by
            rintro i t' rfl rfl
            rw [updL_enc]
            refine ih (t + 1) (L ++ [32]) _ _ _ _ _ _ _ (by omega) (List.length_append (bs := [32])).symm (by rw [List.length_append]; simp only [List.length_cons, List.length_nil]; omega) (by rw [List.length_append]; simp only [List.length_cons, List.length_nil]; omega) (okV_of2 hH (hr i (by omega))) (fun j hj => ?_) (by rw [List.length_append]; simp only [List.length_cons, List.length_nil]; omega) (by rw [List.length_append (bs := [32])]; exact d_cost (Nat.le_refl 1) c3 q1) (agr_cat c1 (fun i hi => ?_)) hQ
            · unfold upW
              split
              · exact okV_of2 hT (hr i (by omega))
              · exact hr j hj
            · obtain rfl : i = 0 := by simp at hi; omega
              rfl
          exact key _ _ (by rw [ek]; exact ecj) (nI_1 t)
theorem d_show {v : Vl} {R : Nat → Vl} {n : Nat} {op : Bool} (hz : z ≤ 250) (hH : ∀ i, i < z → okV z (H i)) (hT : ∀ i, i < z → okV z (T i)) (hc : 200 ≤ b0) (hs : 20000 ≤ b1) (hv : okV z v) (hr : ∀ k, k < 120 → okV z (R k))
    (hQ : ∀ f' b0' b1', agr (shw H T 120 [] R 0 v).1 f' → b0 ≤ b0' + (shw H T 120 [] R 0 v).1.length → b1 ≤ b1' + pot (shw H T 120 [] R 0 v).1.length → Q (.inl none, (dW o0 o1 o2 o3 o4 o5 o6 o7 o8 o9 o10 o11 o12 o13 o14 o15 o16 z (eH H) (eH T) fr mk rc fN rN cN (nI (shw H T 120 [] R 0 v).2.2) (shw H T 120 [] R 0 v).1.length f' (eH (shw H T 120 [] R 0 v).2.1) tl, b0', b1', false))) :
    mj_Mt gT (law_cst xs) gnw (m + 8) y_Display_show [.ref 23, .long (encV v)] (dW o0 o1 o2 o3 o4 o5 o6 o7 o8 o9 o10 o11 o12 o13 o14 o15 o16 z (eH H) (eH T) fr mk rc fN rN cN k n f (eH R) tl, b0, b1, op) Q := by
  obtain ⟨bc, rfl⟩ : ∃ bc, b0 = bc + 1 := ⟨b0 - 1, by omega⟩
  intro J hJ
  refine hJ _ _ _ _ ?_
  refine x_setLength (fun f' => ?_)
  exact d_showLoop hJ hz hH hT hc hs 120 0 [] 0 f' R 0 v (bc + 1) b1 rfl rfl (Nat.zero_le _) (by decide) hv hr (Nat.le_refl _) (by show b1 ≤ b1 + pot 0; omega) (fun i hi => absurd hi (by simp)) hQ
theorem d_codeAt {op : Bool} {R : Nat → Int64} {x : Int32} (hl : l.length ≤ 140) (hf : agr l f) (hQ : ∀ op', Q (.inl (some (.int (if 0 ≤ x ∧ x < 120 ∧ x < nI l.length then nI (l.getD x.toNatClampNeg 0) else -1))), (dW o0 o1 o2 o3 o4 o5 o6 o7 o8 o9 o10 o11 o12 o13 o14 o15 o16 z (eH H) (eH T) fr mk rc fN rN cN k l.length f R tl, b0 + 1, b1, op'))) :
    mj_Mt gT (law_cst xs) gnw (m + 5) y_Display_codeAt [.ref 23, .int x] (dW o0 o1 o2 o3 o4 o5 o6 o7 o8 o9 o10 o11 o12 o13 o14 o15 o16 z (eH H) (eH T) fr mk rc fN rN cN k l.length f R tl, b0 + 1, b1, op) Q := by
  intro J hJ
  refine hJ _ _ _ _ ?_
  refine And.intro (fun h => ?_) (fun h => ?_)
  · rw [if_neg (fun q => absurd h (Int32.not_lt.mpr q.1))] at hQ
    exact hQ op
  · refine And.intro (fun h2 => ?_) (fun h2 => ?_)
    · rw [if_neg (fun q => absurd q.2.1 (Int32.not_lt.mpr h2))] at hQ
      exact hQ op
    · refine x_length ?_
      refine And.intro (fun h3 => ?_) (fun h3 => ?_)
      · rw [if_neg (fun q => absurd q.2.2 (Int32.not_lt.mpr h3))] at hQ
        exact hQ false
      · have h3 : x < nI l.length := Int32.not_le.mp h3
        rw [if_pos ⟨Int32.not_lt.mp h, Int32.not_le.mp h2, h3⟩] at hQ
        obtain ⟨i, hi, rfl⟩ := nI_of h
        have hi2 : i < l.length := (nI_ltI hi (by omega)).mp h3
        rw [nI_clamp hi] at hQ
        refine x_charAt hi2 ?_
        rw [hf i hi2]
        exact hQ false
end P2d
end
section
abbrev fW (o0 o1 o2 o3 o4 o5 o6 o7 o8 o9 o10 o11 o12 o13 o14 o15 : mj_O) (S E C D : Vl) (mode colls taken steps : Int32) (z : Nat) (H T : Nat → Vl) (fr : Nat → Nat) (g : gS) (f c : Nat) (k : Int32) (n : Nat) (fb : Nat → Nat) (R : Nat → Vl) (tl : List mj_O) : List mj_O :=
  mW o0 o1 o2 o3 o4 o5 o6 o7 o8 o9 o10 o11 o12 o13 o14 o15 (encV S) (encV E) (encV C) (encV D) mode colls taken steps z (eH H) (eH T) (eN fr) (eB g.1) (eN g.2.1) (nI f) (nI g.2.2) (nI c) (oF 8 [.ref 17, .ref 24, .ref 26, .int k] :: .inr (.inr (.inl (n, fb))) :: .inr (.inr (.inr ())) :: oJ 120 (eH R) :: tl)
def mOK (z : Nat) (S E C D : Vl) (H T : Nat → Vl) : Prop := okA z H ∧ okA z T ∧ okV z S ∧ okV z E ∧ okV z C ∧ okV z D
def dOK (z n : Nat) (fb : Nat → Nat) (R : Nat → Vl) : Prop := (∃ l : List Nat, l.length = n ∧ n ≤ 135 ∧ agr l fb) ∧ ∀ k, k < 120 → okV z (R k)
theorem fuN_fr {z : Nat} (mk : Nat → Bool) : ∀ (j c : Nat) (p : (Nat → Nat) × Nat), c + j ≤ z → (∀ i, i < z → p.1 i < z) → ∀ i, i < z → (fuN mk j c p).1 i < z
  | 0, c, p, _, h => h
  | j + 1, c, p, hc, h => by
    unfold fuN
    split
    · exact fuN_fr mk j (c + 1) p (by omega) h
    · refine fuN_fr mk j (c + 1) _ (by omega) (fun i hi => ?_)
      show upW p.1 p.2 c i < z
      unfold upW
      split
      · omega
      · exact h i hi
theorem shw_ok {z : Nat} {H T : Nat → Vl} (hH : ∀ i, i < z → okV z (H i)) (hT : ∀ i, i < z → okV z (T i)) : ∀ (t : Nat) (l : List Nat) (R : Nat → Vl) (k : Nat) (v : Vl), k ≤ l.length → l.length ≤ 135 → okV z v → (∀ k, k < 120 → okV z (R k)) → (shw H T t l R k v).1.length ≤ 135 ∧ ∀ k', k' < 120 → okV z ((shw H T t l R k v).2.1 k')
  | 0, l, R, k, v, _, hl, _, hR => ⟨hl, hR⟩
  | t + 1, l, R, k, v, hk, hl, hv, hR => by
    unfold shw
    split
    · exact ⟨hl, hR⟩
    · next h1 =>
      split
      · refine shw_ok hH hT t _ _ _ _ (by rw [List.length_append]; simp only [List.length_cons, List.length_nil]; omega) (by rw [List.length_append]; simp only [List.length_cons, List.length_nil]; omega) (okV_of2 hH hv) (fun j hj => ?_)
        unfold upW
        split
        · exact okV_of2 hT hv
        · exact hR j hj
      · have hsl := shA_len v
        have hll : (l ++ shA v).length ≤ 130 := by rw [List.length_append]; omega
        obtain ⟨hel, hel2⟩ := endL_le R k (l ++ shA v)
        have hel3 := endL_len R k (l ++ shA v) (by omega)
        rw [List.length_append] at hel2
        split
        · exact ⟨by show (endL R k (l ++ shA v)).1.length ≤ 135; omega, hR⟩
        · next h2 =>
          refine shw_ok hH hT t _ _ _ _ (by rw [List.length_append]; simp only [List.length_cons, List.length_nil]; omega) (by rw [List.length_append]; simp only [List.length_cons, List.length_nil]; omega) (okV_of2 hH (hR _ (by omega))) (fun j hj => ?_)
          unfold upW
          split
          · exact okV_of2 hT (hR _ (by omega))
          · exact hR j hj
def need (i : Nat) : Nat := ([0, 1, 1, 2, 4, 1, 1, 3, 1, 0, 1, 1, 1, 2, 1, 1, 1, 1, 1, 0] : List Nat).getD i 0
def needX (x : Int32) : Nat := if 0 ≤ x ∧ x < 20 then need x.toNatClampNeg else 0
theorem need_le : ∀ i, i < 20 → need i ≤ 4 := by decide
theorem needX_le (x : Int32) : needX x ≤ 4 := by
  unfold needX
  split
  · next h =>
    obtain ⟨i, hi, rfl⟩ := nI_of (Int32.not_lt.mpr h.1)
    have : i < 20 := (nI_ltI hi (by decide)).mp h.2
    rw [nI_clamp hi]
    exact need_le i this
  · omega
section P2e
variable {cst : Nat → Option (Nat × (Nat → Int32))} {m b0 b1 : Nat} {op : Bool} {tl : List mj_O} {Q : mj_R → Prop} {xs : List Int32}
variable {o0 o1 o2 o3 o4 o5 o6 o7 o8 o9 o10 o11 o12 o13 o14 o15 o16 : mj_O} {S E C D : Vl} {mode colls taken steps : Int32} {z : Nat} {H T : Nat → Vl} {fr : Nat → Nat} {g : gS} {f c : Nat} {k : Int32} {n : Nat} {fb : Nat → Nat} {R : Nat → Vl}
variable {hR tR : Nat → Int64} {frR mk rc : Nat → Int32} {fN rN cN : Int32}
set_option maxRecDepth 10000
theorem o_needs {h : mj_H} {x : Int32} (hQ : Q (.inl (some (.int (nI (needX x)))), h)) : mj_Mt gT (law_cst xs) gnw (m + 1) y_Op_needs [.int x] h Q := by
  intro J hJ
  refine hJ _ _ _ _ ?_
  refine And.intro (fun h1 => ?_) (fun h1 => ?_)
  · rw [show needX x = 0 from if_neg (fun q => absurd h1 (Int32.not_lt.mpr q.1))] at hQ
    exact hQ
  · refine And.intro (fun h2 => ?_) (fun h2 => ?_)
    · rw [show needX x = 0 from if_neg (fun q => absurd q.2 (Int32.not_lt.mpr h2))] at hQ
      exact hQ
    · have h2 : x < nI 20 := Int32.not_le.mp h2
      obtain ⟨i, hi, rfl⟩ := nI_of h1
      have hi2 : i < 20 := (nI_ltI hi (by decide)).mp h2
      refine And.intro (vp_in_nI hi2 (by decide)) ?_
      have e : needX (nI i) = need i := by
        unfold needX
        rw [if_pos ⟨Int32.not_lt.mp h1, h2⟩, nI_clamp hi]
      rw [e] at hQ
      have e2 : law_nd.getD i 0 = nI (need i) := (by decide : ∀ i, i < 20 → law_nd.getD i 0 = nI (need i)) i hi2
      have key : ∀ j, j = i → Q (.inl (some (.int (law_nd.getD j 0))), h) := by
        rintro j rfl
        rw [e2]
        exact hQ
      exact key _ (nI_clamp hi)
theorem s_freeCells (hQ : Q (.inl (some (.int fN)), (sW o0 o1 o2 o3 o4 o5 o6 o7 o8 o9 o10 o11 o12 o13 o14 o15 o16 z hR tR frR mk rc fN rN cN tl, b0, b1, op))) : mj_Mt gT cst gnw (m + 1) y_Store_freeCells [.ref 17] (sW o0 o1 o2 o3 o4 o5 o6 o7 o8 o9 o10 o11 o12 o13 o14 o15 o16 z hR tR frR mk rc fN rN cN tl, b0, b1, op) Q := by
  intro J hJ
  refine hJ _ _ _ _ ?_
  exact hQ
theorem s_behindX {v : Vl} {w : Int32} (hz : z ≤ 250) (hT : ∀ i, i < z → okV z (T i)) (hv : okV z v) (hQ : Q (.inl (some (.long (encV (behV T w.toNatClampNeg v)))), (sW o0 o1 o2 o3 o4 o5 o6 o7 o8 o9 o10 o11 o12 o13 o14 o15 o16 z hR (eH T) frR mk rc fN rN cN tl, b0, b1, op))) : mj_Mt gT cst gnw (m + 3) y_Store_behind [.ref 17, .long (encV v), .int w] (sW o0 o1 o2 o3 o4 o5 o6 o7 o8 o9 o10 o11 o12 o13 o14 o15 o16 z hR (eH T) frR mk rc fN rN cN tl, b0, b1, op) Q := by
  by_cases hw : w < 0
  · have e : w.toNatClampNeg = 0 := by
      rw [Int32.lt_iff_toInt_lt, Int32.toInt_zero] at hw
      show w.toInt.toNat = 0
      omega
    rw [e] at hQ
    intro J hJ
    refine hJ _ _ _ _ ?_
    refine hJ _ _ _ _ ?_
    exact And.intro (fun _ => hQ) (fun h => absurd (show w ≤ 0 from Int32.le_of_lt hw) h)
  · obtain ⟨n, hn, rfl⟩ := nI_of hw
    rw [nI_clamp hn] at hQ
    exact s_behind hz hn hT hv hQ
theorem k_variableX {x : Int32} (hv : (encV (ofV H (ofV T C))).toInt32 = x) (hz : z ≤ 250) (hA : okA z H) (hB : okA z T) (hfr : ∀ j, j < z → fr j < z) (hS : okV z S) (hE : okV z E) (hC : okV z C) (hf : f + 1 ≤ z)
    (h1 : Q (.inl (some (.int 0)), (mW o0 o1 o2 o3 o4 o5 o6 o7 o8 o9 o10 o11 o12 o13 o14 o15 (encV S) (encV E) (encV C) (encV D) mode colls taken steps z (eH H) (eH T) (eN fr) mk rc (nI (f + 1)) rN cN tl, b0, b1, op)))
    (h3 : ∀ v, okV z v → Q (.inl (some (.int 1)), (mW o0 o1 o2 o3 o4 o5 o6 o7 o8 o9 o10 o11 o12 o13 o14 o15 (encV (vPr (fr f))) (encV E) (encV (ofV (upW T (fr f) S) (ofV T C))) (encV D) mode colls taken steps z (eH (upW H (fr f) (ofV H v))) (eH (upW T (fr f) S)) (eN fr) mk rc (nI f) rN cN tl, b0, b1, op))) : mj_Mt gT cst gnw (m + 4) y_Machine_variable [.ref 16] (mW o0 o1 o2 o3 o4 o5 o6 o7 o8 o9 o10 o11 o12 o13 o14 o15 (encV S) (encV E) (encV C) (encV D) mode colls taken steps z (eH H) (eH T) (eN fr) mk rc (nI (f + 1)) rN cN tl, b0, b1, op) Q := by
  intro J hJ
  refine hJ _ _ _ _ ?_
  refine s_tail hz hC ?_
  refine s_head hz (okV_of hB hC) ?_
  refine v_content ?_
  rw [hv]
  refine And.intro (by decide) ?_
  refine s_behindX hz hB hE ?_
  generalize (x / Int32.ofInt 16).toNatClampNeg = n1
  have o1 := okV_beh hB n1 _ hE
  refine v_isPair ?_
  by_cases c1 : kV (behV T n1 E) = 3
  · rw [show (kV (behV T n1 E) == 3) = true by simp [c1]]
    refine And.intro (fun _ => ?_) (fun g => absurd g (by decide))
    refine s_head hz o1 ?_
    refine And.intro (by decide) ?_
    refine s_behindX hz hB (okV_of hA o1) ?_
    generalize (x - x / Int32.ofInt 16 * Int32.ofInt 16).toNatClampNeg = n2
    have o2 := okV_beh hB n2 _ (okV_of hA o1)
    refine v_isPair ?_
    by_cases c2 : kV (behV T n2 (ofV H (behV T n1 E))) = 3
    · rw [show (kV (behV T n2 (ofV H (behV T n1 E))) == 3) = true by simp [c2]]
      refine And.intro (fun _ => ?_) (fun g => absurd g (by decide))
      refine s_head hz o2 ?_
      refine s_newPair hz (by omega) (hfr _ (by omega)) ?_
      refine s_tail hz (okV_of hB hC) ?_
      exact And.intro (Or.inr rfl) (h3 _ o2)
    · rw [show (kV (behV T n2 (ofV H (behV T n1 E))) == 3) = false by simp [c2]]
      refine And.intro (fun g => absurd rfl g) (fun _ => ?_)
      exact And.intro (Or.inl rfl) h1
  · rw [show (kV (behV T n1 E) == 3) = false by simp [c1]]
    refine And.intro (fun g => absurd rfl g) (fun _ => ?_)
    exact And.intro (Or.inl rfl) h1
theorem k_stop (hz : z ≤ 250) (hM : mOK z S E C D H T) (hfr : ∀ j, j < z → fr j < z) (hf : f ≤ z) (hd : dOK z n fb R) (hc0 : 200 ≤ b0) (hc1 : 20000 ≤ b1) (hQ : ∀ k' n' fb' R' b0' b1' op', dOK z n' fb' R' → b0 ≤ b0' + 140 → b1 ≤ b1' + 19740 → Q (.inl (some (.int 1)), (fW o0 o1 o2 o3 o4 o5 o6 o7 o8 o9 o10 o11 o12 o13 o14 o15 S E C D 2 colls taken steps z H T fr g f c k' n' fb' R' tl, b0', b1', op'))) : mj_Mt gT (law_cst xs) gnw (m + 9) y_Machine_stop [.ref 16] (fW o0 o1 o2 o3 o4 o5 o6 o7 o8 o9 o10 o11 o12 o13 o14 o15 S E C D mode colls taken steps z H T fr g f c k n fb R tl, b0, b1, op) Q := by
  obtain ⟨hA, hB, hS, hE, hC, hD⟩ := hM
  obtain ⟨hd1, hd2⟩ := hd
  intro J hJ
  refine hJ _ _ _ _ ?_
  refine s_head hz hS ?_
  have hs := shw_ok hA hB 120 [] R 0 (ofV H S) (Nat.zero_le _) (by decide) (okV_of hA hS) hd2
  refine d_show hz hA hB hc0 hc1 (okV_of hA hS) hd2 (fun f' b0' b1' q1 q2 q3 => ?_)
  refine And.intro (Or.inr rfl) ?_
  have hp := pot_le (n := (shw H T 120 [] R 0 (ofV H S)).1.length) (by omega)
  exact hQ _ _ _ _ _ _ _ ⟨⟨_, rfl, hs.1, q1⟩, hs.2⟩ (by omega) (by omega)
theorem k_actW {x : Int32} (hn : needX x ≤ f) (hz : z ≤ 250) (hM : mOK z S E C D H T) (hfr : ∀ j, j < z → fr j < z) (hf : f ≤ z) (hd : dOK z n fb R) (hc0 : 200 ≤ b0) (hc1 : 20000 ≤ b1) (hQ : ∀ b S' E' C' D' mode' H' T' f' k' n' fb' R' b0' b1' op', (b = 0 ∨ b = 1) → mOK z S' E' C' D' H' T' → f' ≤ z → dOK z n' fb' R' → ((mode' = mode ∧ b0' = b0 ∧ b1' = b1) ∨ (mode' = 2 ∧ b0 ≤ b0' + 140 ∧ b1 ≤ b1' + 19740)) →  Q (.inl (some (.int b)), (fW o0 o1 o2 o3 o4 o5 o6 o7 o8 o9 o10 o11 o12 o13 o14 o15 S' E' C' D' mode' colls taken steps z H' T' fr g f' c k' n' fb' R' tl, b0', b1', op'))) :
    mj_Mt gT (law_cst xs) gnw (m + 10) y_Machine_act [.ref 16, .int x] (fW o0 o1 o2 o3 o4 o5 o6 o7 o8 o9 o10 o11 o12 o13 o14 o15 S E C D mode colls taken steps z H T fr g f c k n fb R tl, b0, b1, op) Q := by
  have hM0 := hM
  obtain ⟨hA, hB, hS, hE, hC, hD⟩ := hM
  intro J hJ
  refine hJ _ _ _ _ ?_
  refine And.intro (fun hx => ?_) (fun hx1 => ?_)
  · have hx : x = 1 := hx
    subst hx
    have hn9 : needX 1 = 1 := by decide
    obtain ⟨f0, rfl⟩ : ∃ f0, f = f0 + 1 := ⟨f - 1, by omega⟩
    exact k_constant hz hA hB hfr hS hE hC hD (by omega) (And.intro (Or.inr rfl) (hQ _ _ _ _ _ _ _ _ _ _ _ _ _ _ _ _ (Or.inr rfl) ⟨(by (repeat (first | assumption | exact trivial | exact hfr _ (by omega) | refine okA_upd ?_ ?_ | refine okV_of ?_ ?_ | refine okV_beh ?_ _ _ ?_))), (by (repeat (first | assumption | exact trivial | exact hfr _ (by omega) | refine okA_upd ?_ ?_ | refine okV_of ?_ ?_ | refine okV_beh ?_ _ _ ?_))), (by (repeat (first | assumption | exact trivial | exact hfr _ (by omega) | refine okA_upd ?_ ?_ | refine okV_of ?_ ?_ | refine okV_beh ?_ _ _ ?_))), (by (repeat (first | assumption | exact trivial | exact hfr _ (by omega) | refine okA_upd ?_ ?_ | refine okV_of ?_ ?_ | refine okV_beh ?_ _ _ ?_))), (by (repeat (first | assumption | exact trivial | exact hfr _ (by omega) | refine okA_upd ?_ ?_ | refine okV_of ?_ ?_ | refine okV_beh ?_ _ _ ?_))), (by (repeat (first | assumption | exact trivial | exact hfr _ (by omega) | refine okA_upd ?_ ?_ | refine okV_of ?_ ?_ | refine okV_beh ?_ _ _ ?_)))⟩ (by omega) hd (Or.inl ⟨rfl, rfl, rfl⟩)))
  refine And.intro (fun hx => ?_) (fun hx2 => ?_)
  · have hx : x = 2 := hx
    subst hx
    have hn9 : needX 2 = 1 := by decide
    obtain ⟨f0, rfl⟩ : ∃ f0, f = f0 + 1 := ⟨f - 1, by omega⟩
    exact k_variableX rfl hz hA hB hfr hS hE hC (by omega) (And.intro (Or.inl rfl) (hQ _ _ _ _ _ _ _ _ _ _ _ _ _ _ _ _ (Or.inl rfl) hM0 (by omega) hd (Or.inl ⟨rfl, rfl, rfl⟩))) (fun v hv => And.intro (Or.inr rfl) (hQ _ _ _ _ _ _ _ _ _ _ _ _ _ _ _ _ (Or.inr rfl) ⟨(by (repeat (first | assumption | exact trivial | exact hfr _ (by omega) | refine okA_upd ?_ ?_ | refine okV_of ?_ ?_ | refine okV_beh ?_ _ _ ?_))), (by (repeat (first | assumption | exact trivial | exact hfr _ (by omega) | refine okA_upd ?_ ?_ | refine okV_of ?_ ?_ | refine okV_beh ?_ _ _ ?_))), (by (repeat (first | assumption | exact trivial | exact hfr _ (by omega) | refine okA_upd ?_ ?_ | refine okV_of ?_ ?_ | refine okV_beh ?_ _ _ ?_))), (by (repeat (first | assumption | exact trivial | exact hfr _ (by omega) | refine okA_upd ?_ ?_ | refine okV_of ?_ ?_ | refine okV_beh ?_ _ _ ?_))), (by (repeat (first | assumption | exact trivial | exact hfr _ (by omega) | refine okA_upd ?_ ?_ | refine okV_of ?_ ?_ | refine okV_beh ?_ _ _ ?_))), (by (repeat (first | assumption | exact trivial | exact hfr _ (by omega) | refine okA_upd ?_ ?_ | refine okV_of ?_ ?_ | refine okV_beh ?_ _ _ ?_)))⟩ (by omega) hd (Or.inl ⟨rfl, rfl, rfl⟩)))
  refine And.intro (fun hx => ?_) (fun hx3 => ?_)
  · have hx : x = 3 := hx
    subst hx
    have hn9 : needX 3 = 2 := by decide
    obtain ⟨f0, rfl⟩ : ∃ f0, f = f0 + 2 := ⟨f - 2, by omega⟩
    exact k_function hz hA hB hfr hS hE hC hD (by omega) (And.intro (Or.inr rfl) (hQ _ _ _ _ _ _ _ _ _ _ _ _ _ _ _ _ (Or.inr rfl) ⟨(by (repeat (first | assumption | exact trivial | exact hfr _ (by omega) | refine okA_upd ?_ ?_ | refine okV_of ?_ ?_ | refine okV_beh ?_ _ _ ?_))), (by (repeat (first | assumption | exact trivial | exact hfr _ (by omega) | refine okA_upd ?_ ?_ | refine okV_of ?_ ?_ | refine okV_beh ?_ _ _ ?_))), (by (repeat (first | assumption | exact trivial | exact hfr _ (by omega) | refine okA_upd ?_ ?_ | refine okV_of ?_ ?_ | refine okV_beh ?_ _ _ ?_))), (by (repeat (first | assumption | exact trivial | exact hfr _ (by omega) | refine okA_upd ?_ ?_ | refine okV_of ?_ ?_ | refine okV_beh ?_ _ _ ?_))), (by (repeat (first | assumption | exact trivial | exact hfr _ (by omega) | refine okA_upd ?_ ?_ | refine okV_of ?_ ?_ | refine okV_beh ?_ _ _ ?_))), (by (repeat (first | assumption | exact trivial | exact hfr _ (by omega) | refine okA_upd ?_ ?_ | refine okV_of ?_ ?_ | refine okV_beh ?_ _ _ ?_)))⟩ (by omega) hd (Or.inl ⟨rfl, rfl, rfl⟩)))
  refine And.intro (fun hx => ?_) (fun hx4 => ?_)
  · have hx : x = 4 := hx
    subst hx
    have hn9 : needX 4 = 4 := by decide
    obtain ⟨f0, rfl⟩ : ∃ f0, f = f0 + 4 := ⟨f - 4, by omega⟩
    exact k_apply hz hA hB hfr hS hE hC hD (by omega) (fun _ => And.intro (Or.inl rfl) (hQ _ _ _ _ _ _ _ _ _ _ _ _ _ _ _ _ (Or.inl rfl) hM0 (by omega) hd (Or.inl ⟨rfl, rfl, rfl⟩))) (fun _ => And.intro (Or.inr rfl) (hQ _ _ _ _ _ _ _ _ _ _ _ _ _ _ _ _ (Or.inr rfl) ⟨(by (repeat (first | assumption | exact trivial | exact hfr _ (by omega) | refine okA_upd ?_ ?_ | refine okV_of ?_ ?_ | refine okV_beh ?_ _ _ ?_))), (by (repeat (first | assumption | exact trivial | exact hfr _ (by omega) | refine okA_upd ?_ ?_ | refine okV_of ?_ ?_ | refine okV_beh ?_ _ _ ?_))), (by (repeat (first | assumption | exact trivial | exact hfr _ (by omega) | refine okA_upd ?_ ?_ | refine okV_of ?_ ?_ | refine okV_beh ?_ _ _ ?_))), (by (repeat (first | assumption | exact trivial | exact hfr _ (by omega) | refine okA_upd ?_ ?_ | refine okV_of ?_ ?_ | refine okV_beh ?_ _ _ ?_))), (by (repeat (first | assumption | exact trivial | exact hfr _ (by omega) | refine okA_upd ?_ ?_ | refine okV_of ?_ ?_ | refine okV_beh ?_ _ _ ?_))), (by (repeat (first | assumption | exact trivial | exact hfr _ (by omega) | refine okA_upd ?_ ?_ | refine okV_of ?_ ?_ | refine okV_beh ?_ _ _ ?_)))⟩ (by omega) hd (Or.inl ⟨rfl, rfl, rfl⟩)))
  refine And.intro (fun hx => ?_) (fun hx5 => ?_)
  · have hx : x = 5 := hx
    subst hx
    have hn9 : needX 5 = 1 := by decide
    obtain ⟨f0, rfl⟩ : ∃ f0, f = f0 + 1 := ⟨f - 1, by omega⟩
    exact k_giveBack hz hA hB hfr hS hE hC hD (by omega) (And.intro (Or.inr rfl) (hQ _ _ _ _ _ _ _ _ _ _ _ _ _ _ _ _ (Or.inr rfl) ⟨(by (repeat (first | assumption | exact trivial | exact hfr _ (by omega) | refine okA_upd ?_ ?_ | refine okV_of ?_ ?_ | refine okV_beh ?_ _ _ ?_))), (by (repeat (first | assumption | exact trivial | exact hfr _ (by omega) | refine okA_upd ?_ ?_ | refine okV_of ?_ ?_ | refine okV_beh ?_ _ _ ?_))), (by (repeat (first | assumption | exact trivial | exact hfr _ (by omega) | refine okA_upd ?_ ?_ | refine okV_of ?_ ?_ | refine okV_beh ?_ _ _ ?_))), (by (repeat (first | assumption | exact trivial | exact hfr _ (by omega) | refine okA_upd ?_ ?_ | refine okV_of ?_ ?_ | refine okV_beh ?_ _ _ ?_))), (by (repeat (first | assumption | exact trivial | exact hfr _ (by omega) | refine okA_upd ?_ ?_ | refine okV_of ?_ ?_ | refine okV_beh ?_ _ _ ?_))), (by (repeat (first | assumption | exact trivial | exact hfr _ (by omega) | refine okA_upd ?_ ?_ | refine okV_of ?_ ?_ | refine okV_beh ?_ _ _ ?_)))⟩ (by omega) hd (Or.inl ⟨rfl, rfl, rfl⟩)))
  refine And.intro (fun hx => ?_) (fun hx6 => ?_)
  · have hx : x = 6 := hx
    subst hx
    have hn9 : needX 6 = 1 := by decide
    obtain ⟨f0, rfl⟩ : ∃ f0, f = f0 + 1 := ⟨f - 1, by omega⟩
    exact k_frame hz hA hB hfr hS hE hC hD (by omega) (And.intro (Or.inr rfl) (hQ _ _ _ _ _ _ _ _ _ _ _ _ _ _ _ _ (Or.inr rfl) ⟨(by (repeat (first | assumption | exact trivial | exact hfr _ (by omega) | refine okA_upd ?_ ?_ | refine okV_of ?_ ?_ | refine okV_beh ?_ _ _ ?_))), (by (repeat (first | assumption | exact trivial | exact hfr _ (by omega) | refine okA_upd ?_ ?_ | refine okV_of ?_ ?_ | refine okV_beh ?_ _ _ ?_))), (by (repeat (first | assumption | exact trivial | exact hfr _ (by omega) | refine okA_upd ?_ ?_ | refine okV_of ?_ ?_ | refine okV_beh ?_ _ _ ?_))), (by (repeat (first | assumption | exact trivial | exact hfr _ (by omega) | refine okA_upd ?_ ?_ | refine okV_of ?_ ?_ | refine okV_beh ?_ _ _ ?_))), (by (repeat (first | assumption | exact trivial | exact hfr _ (by omega) | refine okA_upd ?_ ?_ | refine okV_of ?_ ?_ | refine okV_beh ?_ _ _ ?_))), (by (repeat (first | assumption | exact trivial | exact hfr _ (by omega) | refine okA_upd ?_ ?_ | refine okV_of ?_ ?_ | refine okV_beh ?_ _ _ ?_)))⟩ (by omega) hd (Or.inl ⟨rfl, rfl, rfl⟩)))
  refine And.intro (fun hx => ?_) (fun hx7 => ?_)
  · have hx : x = 7 := hx
    subst hx
    have hn9 : needX 7 = 3 := by decide
    obtain ⟨f0, rfl⟩ : ∃ f0, f = f0 + 3 := ⟨f - 3, by omega⟩
    exact k_applyInFrame hz hA hB hfr hS hE hC hD (by omega) (fun _ => And.intro (Or.inl rfl) (hQ _ _ _ _ _ _ _ _ _ _ _ _ _ _ _ _ (Or.inl rfl) hM0 (by omega) hd (Or.inl ⟨rfl, rfl, rfl⟩))) (fun _ i _ hi => And.intro (Or.inr rfl) (hQ _ _ _ _ _ _ _ _ _ _ _ _ _ _ _ _ (Or.inr rfl) ⟨(by (repeat (first | assumption | exact trivial | exact hfr _ (by omega) | refine okA_upd ?_ ?_ | refine okV_of ?_ ?_ | refine okV_beh ?_ _ _ ?_))), (by (repeat (first | assumption | exact trivial | exact hfr _ (by omega) | refine okA_upd ?_ ?_ | refine okV_of ?_ ?_ | refine okV_beh ?_ _ _ ?_))), (by (repeat (first | assumption | exact trivial | exact hfr _ (by omega) | refine okA_upd ?_ ?_ | refine okV_of ?_ ?_ | refine okV_beh ?_ _ _ ?_))), (by (repeat (first | assumption | exact trivial | exact hfr _ (by omega) | refine okA_upd ?_ ?_ | refine okV_of ?_ ?_ | refine okV_beh ?_ _ _ ?_))), (by (repeat (first | assumption | exact trivial | exact hfr _ (by omega) | refine okA_upd ?_ ?_ | refine okV_of ?_ ?_ | refine okV_beh ?_ _ _ ?_))), (by (repeat (first | assumption | exact trivial | exact hfr _ (by omega) | refine okA_upd ?_ ?_ | refine okV_of ?_ ?_ | refine okV_beh ?_ _ _ ?_)))⟩ (by omega) hd (Or.inl ⟨rfl, rfl, rfl⟩))) (fun _ _ => And.intro (Or.inr rfl) (hQ _ _ _ _ _ _ _ _ _ _ _ _ _ _ _ _ (Or.inr rfl) ⟨(by (repeat (first | assumption | exact trivial | exact hfr _ (by omega) | refine okA_upd ?_ ?_ | refine okV_of ?_ ?_ | refine okV_beh ?_ _ _ ?_))), (by (repeat (first | assumption | exact trivial | exact hfr _ (by omega) | refine okA_upd ?_ ?_ | refine okV_of ?_ ?_ | refine okV_beh ?_ _ _ ?_))), (by (repeat (first | assumption | exact trivial | exact hfr _ (by omega) | refine okA_upd ?_ ?_ | refine okV_of ?_ ?_ | refine okV_beh ?_ _ _ ?_))), (by (repeat (first | assumption | exact trivial | exact hfr _ (by omega) | refine okA_upd ?_ ?_ | refine okV_of ?_ ?_ | refine okV_beh ?_ _ _ ?_))), (by (repeat (first | assumption | exact trivial | exact hfr _ (by omega) | refine okA_upd ?_ ?_ | refine okV_of ?_ ?_ | refine okV_beh ?_ _ _ ?_))), (by (repeat (first | assumption | exact trivial | exact hfr _ (by omega) | refine okA_upd ?_ ?_ | refine okV_of ?_ ?_ | refine okV_beh ?_ _ _ ?_)))⟩ (by omega) hd (Or.inl ⟨rfl, rfl, rfl⟩)))
  refine And.intro (fun hx => ?_) (fun hx8 => ?_)
  · have hx : x = 8 := hx
    subst hx
    have hn9 : needX 8 = 1 := by decide
    obtain ⟨f0, rfl⟩ : ∃ f0, f = f0 + 1 := ⟨f - 1, by omega⟩
    exact k_choose hz hA hB hfr hS hE hC hD (by omega) (fun _ => And.intro (Or.inl rfl) (hQ _ _ _ _ _ _ _ _ _ _ _ _ _ _ _ _ (Or.inl rfl) hM0 (by omega) hd (Or.inl ⟨rfl, rfl, rfl⟩))) (fun _ _ => And.intro (Or.inr rfl) (hQ _ _ _ _ _ _ _ _ _ _ _ _ _ _ _ _ (Or.inr rfl) ⟨(by (repeat (first | assumption | exact trivial | exact hfr _ (by omega) | refine okA_upd ?_ ?_ | refine okV_of ?_ ?_ | refine okV_beh ?_ _ _ ?_))), (by (repeat (first | assumption | exact trivial | exact hfr _ (by omega) | refine okA_upd ?_ ?_ | refine okV_of ?_ ?_ | refine okV_beh ?_ _ _ ?_))), (by (repeat (first | assumption | exact trivial | exact hfr _ (by omega) | refine okA_upd ?_ ?_ | refine okV_of ?_ ?_ | refine okV_beh ?_ _ _ ?_))), (by (repeat (first | assumption | exact trivial | exact hfr _ (by omega) | refine okA_upd ?_ ?_ | refine okV_of ?_ ?_ | refine okV_beh ?_ _ _ ?_))), (by (repeat (first | assumption | exact trivial | exact hfr _ (by omega) | refine okA_upd ?_ ?_ | refine okV_of ?_ ?_ | refine okV_beh ?_ _ _ ?_))), (by (repeat (first | assumption | exact trivial | exact hfr _ (by omega) | refine okA_upd ?_ ?_ | refine okV_of ?_ ?_ | refine okV_beh ?_ _ _ ?_)))⟩ (by omega) hd (Or.inl ⟨rfl, rfl, rfl⟩))) (fun _ _ => And.intro (Or.inr rfl) (hQ _ _ _ _ _ _ _ _ _ _ _ _ _ _ _ _ (Or.inr rfl) ⟨(by (repeat (first | assumption | exact trivial | exact hfr _ (by omega) | refine okA_upd ?_ ?_ | refine okV_of ?_ ?_ | refine okV_beh ?_ _ _ ?_))), (by (repeat (first | assumption | exact trivial | exact hfr _ (by omega) | refine okA_upd ?_ ?_ | refine okV_of ?_ ?_ | refine okV_beh ?_ _ _ ?_))), (by (repeat (first | assumption | exact trivial | exact hfr _ (by omega) | refine okA_upd ?_ ?_ | refine okV_of ?_ ?_ | refine okV_beh ?_ _ _ ?_))), (by (repeat (first | assumption | exact trivial | exact hfr _ (by omega) | refine okA_upd ?_ ?_ | refine okV_of ?_ ?_ | refine okV_beh ?_ _ _ ?_))), (by (repeat (first | assumption | exact trivial | exact hfr _ (by omega) | refine okA_upd ?_ ?_ | refine okV_of ?_ ?_ | refine okV_beh ?_ _ _ ?_))), (by (repeat (first | assumption | exact trivial | exact hfr _ (by omega) | refine okA_upd ?_ ?_ | refine okV_of ?_ ?_ | refine okV_beh ?_ _ _ ?_)))⟩ (by omega) hd (Or.inl ⟨rfl, rfl, rfl⟩)))
  refine And.intro (fun hx => ?_) (fun hx9 => ?_)
  · have hx : x = 9 := hx
    subst hx
    exact k_rejoin hz hA hB hfr hS hE hC hD (And.intro (Or.inr rfl) (hQ _ _ _ _ _ _ _ _ _ _ _ _ _ _ _ _ (Or.inr rfl) ⟨(by (repeat (first | assumption | exact trivial | exact hfr _ (by omega) | refine okA_upd ?_ ?_ | refine okV_of ?_ ?_ | refine okV_beh ?_ _ _ ?_))), (by (repeat (first | assumption | exact trivial | exact hfr _ (by omega) | refine okA_upd ?_ ?_ | refine okV_of ?_ ?_ | refine okV_beh ?_ _ _ ?_))), (by (repeat (first | assumption | exact trivial | exact hfr _ (by omega) | refine okA_upd ?_ ?_ | refine okV_of ?_ ?_ | refine okV_beh ?_ _ _ ?_))), (by (repeat (first | assumption | exact trivial | exact hfr _ (by omega) | refine okA_upd ?_ ?_ | refine okV_of ?_ ?_ | refine okV_beh ?_ _ _ ?_))), (by (repeat (first | assumption | exact trivial | exact hfr _ (by omega) | refine okA_upd ?_ ?_ | refine okV_of ?_ ?_ | refine okV_beh ?_ _ _ ?_))), (by (repeat (first | assumption | exact trivial | exact hfr _ (by omega) | refine okA_upd ?_ ?_ | refine okV_of ?_ ?_ | refine okV_beh ?_ _ _ ?_)))⟩ (by omega) hd (Or.inl ⟨rfl, rfl, rfl⟩)))
  refine And.intro (fun hx => ?_) (fun hx10 => ?_)
  · have hx : x = 10 := hx
    subst hx
    have hn9 : needX 10 = 1 := by decide
    obtain ⟨f0, rfl⟩ : ∃ f0, f = f0 + 1 := ⟨f - 1, by omega⟩
    exact k_partOfPair hz hA hB hfr hS hE hC hD (by omega) (fun _ => And.intro (Or.inl rfl) (hQ _ _ _ _ _ _ _ _ _ _ _ _ _ _ _ _ (Or.inl rfl) hM0 (by omega) hd (Or.inl ⟨rfl, rfl, rfl⟩))) (fun _ _ => And.intro (Or.inr rfl) (hQ _ _ _ _ _ _ _ _ _ _ _ _ _ _ _ _ (Or.inr rfl) ⟨(by (repeat (first | assumption | exact trivial | exact hfr _ (by omega) | refine okA_upd ?_ ?_ | refine okV_of ?_ ?_ | refine okV_beh ?_ _ _ ?_))), (by (repeat (first | assumption | exact trivial | exact hfr _ (by omega) | refine okA_upd ?_ ?_ | refine okV_of ?_ ?_ | refine okV_beh ?_ _ _ ?_))), (by (repeat (first | assumption | exact trivial | exact hfr _ (by omega) | refine okA_upd ?_ ?_ | refine okV_of ?_ ?_ | refine okV_beh ?_ _ _ ?_))), (by (repeat (first | assumption | exact trivial | exact hfr _ (by omega) | refine okA_upd ?_ ?_ | refine okV_of ?_ ?_ | refine okV_beh ?_ _ _ ?_))), (by (repeat (first | assumption | exact trivial | exact hfr _ (by omega) | refine okA_upd ?_ ?_ | refine okV_of ?_ ?_ | refine okV_beh ?_ _ _ ?_))), (by (repeat (first | assumption | exact trivial | exact hfr _ (by omega) | refine okA_upd ?_ ?_ | refine okV_of ?_ ?_ | refine okV_beh ?_ _ _ ?_)))⟩ (by omega) hd (Or.inl ⟨rfl, rfl, rfl⟩))) (fun _ _ => And.intro (Or.inr rfl) (hQ _ _ _ _ _ _ _ _ _ _ _ _ _ _ _ _ (Or.inr rfl) ⟨(by (repeat (first | assumption | exact trivial | exact hfr _ (by omega) | refine okA_upd ?_ ?_ | refine okV_of ?_ ?_ | refine okV_beh ?_ _ _ ?_))), (by (repeat (first | assumption | exact trivial | exact hfr _ (by omega) | refine okA_upd ?_ ?_ | refine okV_of ?_ ?_ | refine okV_beh ?_ _ _ ?_))), (by (repeat (first | assumption | exact trivial | exact hfr _ (by omega) | refine okA_upd ?_ ?_ | refine okV_of ?_ ?_ | refine okV_beh ?_ _ _ ?_))), (by (repeat (first | assumption | exact trivial | exact hfr _ (by omega) | refine okA_upd ?_ ?_ | refine okV_of ?_ ?_ | refine okV_beh ?_ _ _ ?_))), (by (repeat (first | assumption | exact trivial | exact hfr _ (by omega) | refine okA_upd ?_ ?_ | refine okV_of ?_ ?_ | refine okV_beh ?_ _ _ ?_))), (by (repeat (first | assumption | exact trivial | exact hfr _ (by omega) | refine okA_upd ?_ ?_ | refine okV_of ?_ ?_ | refine okV_beh ?_ _ _ ?_)))⟩ (by omega) hd (Or.inl ⟨rfl, rfl, rfl⟩)))
  refine And.intro (fun hx => ?_) (fun hx11 => ?_)
  · have hx : x = 11 := hx
    subst hx
    have hn9 : needX 11 = 1 := by decide
    obtain ⟨f0, rfl⟩ : ∃ f0, f = f0 + 1 := ⟨f - 1, by omega⟩
    exact k_partOfPair hz hA hB hfr hS hE hC hD (by omega) (fun _ => And.intro (Or.inl rfl) (hQ _ _ _ _ _ _ _ _ _ _ _ _ _ _ _ _ (Or.inl rfl) hM0 (by omega) hd (Or.inl ⟨rfl, rfl, rfl⟩))) (fun _ _ => And.intro (Or.inr rfl) (hQ _ _ _ _ _ _ _ _ _ _ _ _ _ _ _ _ (Or.inr rfl) ⟨(by (repeat (first | assumption | exact trivial | exact hfr _ (by omega) | refine okA_upd ?_ ?_ | refine okV_of ?_ ?_ | refine okV_beh ?_ _ _ ?_))), (by (repeat (first | assumption | exact trivial | exact hfr _ (by omega) | refine okA_upd ?_ ?_ | refine okV_of ?_ ?_ | refine okV_beh ?_ _ _ ?_))), (by (repeat (first | assumption | exact trivial | exact hfr _ (by omega) | refine okA_upd ?_ ?_ | refine okV_of ?_ ?_ | refine okV_beh ?_ _ _ ?_))), (by (repeat (first | assumption | exact trivial | exact hfr _ (by omega) | refine okA_upd ?_ ?_ | refine okV_of ?_ ?_ | refine okV_beh ?_ _ _ ?_))), (by (repeat (first | assumption | exact trivial | exact hfr _ (by omega) | refine okA_upd ?_ ?_ | refine okV_of ?_ ?_ | refine okV_beh ?_ _ _ ?_))), (by (repeat (first | assumption | exact trivial | exact hfr _ (by omega) | refine okA_upd ?_ ?_ | refine okV_of ?_ ?_ | refine okV_beh ?_ _ _ ?_)))⟩ (by omega) hd (Or.inl ⟨rfl, rfl, rfl⟩))) (fun _ _ => And.intro (Or.inr rfl) (hQ _ _ _ _ _ _ _ _ _ _ _ _ _ _ _ _ (Or.inr rfl) ⟨(by (repeat (first | assumption | exact trivial | exact hfr _ (by omega) | refine okA_upd ?_ ?_ | refine okV_of ?_ ?_ | refine okV_beh ?_ _ _ ?_))), (by (repeat (first | assumption | exact trivial | exact hfr _ (by omega) | refine okA_upd ?_ ?_ | refine okV_of ?_ ?_ | refine okV_beh ?_ _ _ ?_))), (by (repeat (first | assumption | exact trivial | exact hfr _ (by omega) | refine okA_upd ?_ ?_ | refine okV_of ?_ ?_ | refine okV_beh ?_ _ _ ?_))), (by (repeat (first | assumption | exact trivial | exact hfr _ (by omega) | refine okA_upd ?_ ?_ | refine okV_of ?_ ?_ | refine okV_beh ?_ _ _ ?_))), (by (repeat (first | assumption | exact trivial | exact hfr _ (by omega) | refine okA_upd ?_ ?_ | refine okV_of ?_ ?_ | refine okV_beh ?_ _ _ ?_))), (by (repeat (first | assumption | exact trivial | exact hfr _ (by omega) | refine okA_upd ?_ ?_ | refine okV_of ?_ ?_ | refine okV_beh ?_ _ _ ?_)))⟩ (by omega) hd (Or.inl ⟨rfl, rfl, rfl⟩)))
  refine And.intro (fun hx => ?_) (fun hx12 => ?_)
  · have hx : x = 12 := hx
    subst hx
    have hn9 : needX 12 = 1 := by decide
    obtain ⟨f0, rfl⟩ : ∃ f0, f = f0 + 1 := ⟨f - 1, by omega⟩
    exact k_isNoPair hz hA hB hfr hS hE hC hD (by omega) (fun _ => And.intro (Or.inr rfl) (hQ _ _ _ _ _ _ _ _ _ _ _ _ _ _ _ _ (Or.inr rfl) ⟨(by (repeat (first | assumption | exact trivial | exact hfr _ (by omega) | refine okA_upd ?_ ?_ | refine okV_of ?_ ?_ | refine okV_beh ?_ _ _ ?_))), (by (repeat (first | assumption | exact trivial | exact hfr _ (by omega) | refine okA_upd ?_ ?_ | refine okV_of ?_ ?_ | refine okV_beh ?_ _ _ ?_))), (by (repeat (first | assumption | exact trivial | exact hfr _ (by omega) | refine okA_upd ?_ ?_ | refine okV_of ?_ ?_ | refine okV_beh ?_ _ _ ?_))), (by (repeat (first | assumption | exact trivial | exact hfr _ (by omega) | refine okA_upd ?_ ?_ | refine okV_of ?_ ?_ | refine okV_beh ?_ _ _ ?_))), (by (repeat (first | assumption | exact trivial | exact hfr _ (by omega) | refine okA_upd ?_ ?_ | refine okV_of ?_ ?_ | refine okV_beh ?_ _ _ ?_))), (by (repeat (first | assumption | exact trivial | exact hfr _ (by omega) | refine okA_upd ?_ ?_ | refine okV_of ?_ ?_ | refine okV_beh ?_ _ _ ?_)))⟩ (by omega) hd (Or.inl ⟨rfl, rfl, rfl⟩))) (fun _ => And.intro (Or.inr rfl) (hQ _ _ _ _ _ _ _ _ _ _ _ _ _ _ _ _ (Or.inr rfl) ⟨(by (repeat (first | assumption | exact trivial | exact hfr _ (by omega) | refine okA_upd ?_ ?_ | refine okV_of ?_ ?_ | refine okV_beh ?_ _ _ ?_))), (by (repeat (first | assumption | exact trivial | exact hfr _ (by omega) | refine okA_upd ?_ ?_ | refine okV_of ?_ ?_ | refine okV_beh ?_ _ _ ?_))), (by (repeat (first | assumption | exact trivial | exact hfr _ (by omega) | refine okA_upd ?_ ?_ | refine okV_of ?_ ?_ | refine okV_beh ?_ _ _ ?_))), (by (repeat (first | assumption | exact trivial | exact hfr _ (by omega) | refine okA_upd ?_ ?_ | refine okV_of ?_ ?_ | refine okV_beh ?_ _ _ ?_))), (by (repeat (first | assumption | exact trivial | exact hfr _ (by omega) | refine okA_upd ?_ ?_ | refine okV_of ?_ ?_ | refine okV_beh ?_ _ _ ?_))), (by (repeat (first | assumption | exact trivial | exact hfr _ (by omega) | refine okA_upd ?_ ?_ | refine okV_of ?_ ?_ | refine okV_beh ?_ _ _ ?_)))⟩ (by omega) hd (Or.inl ⟨rfl, rfl, rfl⟩)))
  refine And.intro (fun hx => ?_) (fun hx13 => ?_)
  · have hx : x = 13 := hx
    subst hx
    have hn9 : needX 13 = 2 := by decide
    obtain ⟨f0, rfl⟩ : ∃ f0, f = f0 + 2 := ⟨f - 2, by omega⟩
    exact k_pair hz hA hB hfr hS hE hC hD (by omega) (And.intro (Or.inr rfl) (hQ _ _ _ _ _ _ _ _ _ _ _ _ _ _ _ _ (Or.inr rfl) ⟨(by (repeat (first | assumption | exact trivial | exact hfr _ (by omega) | refine okA_upd ?_ ?_ | refine okV_of ?_ ?_ | refine okV_beh ?_ _ _ ?_))), (by (repeat (first | assumption | exact trivial | exact hfr _ (by omega) | refine okA_upd ?_ ?_ | refine okV_of ?_ ?_ | refine okV_beh ?_ _ _ ?_))), (by (repeat (first | assumption | exact trivial | exact hfr _ (by omega) | refine okA_upd ?_ ?_ | refine okV_of ?_ ?_ | refine okV_beh ?_ _ _ ?_))), (by (repeat (first | assumption | exact trivial | exact hfr _ (by omega) | refine okA_upd ?_ ?_ | refine okV_of ?_ ?_ | refine okV_beh ?_ _ _ ?_))), (by (repeat (first | assumption | exact trivial | exact hfr _ (by omega) | refine okA_upd ?_ ?_ | refine okV_of ?_ ?_ | refine okV_beh ?_ _ _ ?_))), (by (repeat (first | assumption | exact trivial | exact hfr _ (by omega) | refine okA_upd ?_ ?_ | refine okV_of ?_ ?_ | refine okV_beh ?_ _ _ ?_)))⟩ (by omega) hd (Or.inl ⟨rfl, rfl, rfl⟩)))
  refine And.intro (fun hx => ?_) (fun hx14 => ?_)
  · have hx : x = 14 := hx
    subst hx
    have hn9 : needX 14 = 1 := by decide
    obtain ⟨f0, rfl⟩ : ∃ f0, f = f0 + 1 := ⟨f - 1, by omega⟩
    exact k_same hz hA hB hfr hS hE hC hD (by omega) (fun _ => And.intro (Or.inr rfl) (hQ _ _ _ _ _ _ _ _ _ _ _ _ _ _ _ _ (Or.inr rfl) ⟨(by (repeat (first | assumption | exact trivial | exact hfr _ (by omega) | refine okA_upd ?_ ?_ | refine okV_of ?_ ?_ | refine okV_beh ?_ _ _ ?_))), (by (repeat (first | assumption | exact trivial | exact hfr _ (by omega) | refine okA_upd ?_ ?_ | refine okV_of ?_ ?_ | refine okV_beh ?_ _ _ ?_))), (by (repeat (first | assumption | exact trivial | exact hfr _ (by omega) | refine okA_upd ?_ ?_ | refine okV_of ?_ ?_ | refine okV_beh ?_ _ _ ?_))), (by (repeat (first | assumption | exact trivial | exact hfr _ (by omega) | refine okA_upd ?_ ?_ | refine okV_of ?_ ?_ | refine okV_beh ?_ _ _ ?_))), (by (repeat (first | assumption | exact trivial | exact hfr _ (by omega) | refine okA_upd ?_ ?_ | refine okV_of ?_ ?_ | refine okV_beh ?_ _ _ ?_))), (by (repeat (first | assumption | exact trivial | exact hfr _ (by omega) | refine okA_upd ?_ ?_ | refine okV_of ?_ ?_ | refine okV_beh ?_ _ _ ?_)))⟩ (by omega) hd (Or.inl ⟨rfl, rfl, rfl⟩))) (fun _ => And.intro (Or.inr rfl) (hQ _ _ _ _ _ _ _ _ _ _ _ _ _ _ _ _ (Or.inr rfl) ⟨(by (repeat (first | assumption | exact trivial | exact hfr _ (by omega) | refine okA_upd ?_ ?_ | refine okV_of ?_ ?_ | refine okV_beh ?_ _ _ ?_))), (by (repeat (first | assumption | exact trivial | exact hfr _ (by omega) | refine okA_upd ?_ ?_ | refine okV_of ?_ ?_ | refine okV_beh ?_ _ _ ?_))), (by (repeat (first | assumption | exact trivial | exact hfr _ (by omega) | refine okA_upd ?_ ?_ | refine okV_of ?_ ?_ | refine okV_beh ?_ _ _ ?_))), (by (repeat (first | assumption | exact trivial | exact hfr _ (by omega) | refine okA_upd ?_ ?_ | refine okV_of ?_ ?_ | refine okV_beh ?_ _ _ ?_))), (by (repeat (first | assumption | exact trivial | exact hfr _ (by omega) | refine okA_upd ?_ ?_ | refine okV_of ?_ ?_ | refine okV_beh ?_ _ _ ?_))), (by (repeat (first | assumption | exact trivial | exact hfr _ (by omega) | refine okA_upd ?_ ?_ | refine okV_of ?_ ?_ | refine okV_beh ?_ _ _ ?_)))⟩ (by omega) hd (Or.inl ⟨rfl, rfl, rfl⟩)))
  refine And.intro (fun hx => ?_) (fun hx15 => ?_)
  · have hx : x = 15 := hx
    subst hx
    have hn9 : needX 15 = 1 := by decide
    obtain ⟨f0, rfl⟩ : ∃ f0, f = f0 + 1 := ⟨f - 1, by omega⟩
    exact k_calculate hz hA hB hfr hS hE hC hD (by omega) (fun _ => And.intro (Or.inl rfl) (hQ _ _ _ _ _ _ _ _ _ _ _ _ _ _ _ _ (Or.inl rfl) hM0 (by omega) hd (Or.inl ⟨rfl, rfl, rfl⟩))) (fun _ _ => And.intro (Or.inr rfl) (hQ _ _ _ _ _ _ _ _ _ _ _ _ _ _ _ _ (Or.inr rfl) ⟨(by (repeat (first | assumption | exact trivial | exact hfr _ (by omega) | refine okA_upd ?_ ?_ | refine okV_of ?_ ?_ | refine okV_beh ?_ _ _ ?_))), (by (repeat (first | assumption | exact trivial | exact hfr _ (by omega) | refine okA_upd ?_ ?_ | refine okV_of ?_ ?_ | refine okV_beh ?_ _ _ ?_))), (by (repeat (first | assumption | exact trivial | exact hfr _ (by omega) | refine okA_upd ?_ ?_ | refine okV_of ?_ ?_ | refine okV_beh ?_ _ _ ?_))), (by (repeat (first | assumption | exact trivial | exact hfr _ (by omega) | refine okA_upd ?_ ?_ | refine okV_of ?_ ?_ | refine okV_beh ?_ _ _ ?_))), (by (repeat (first | assumption | exact trivial | exact hfr _ (by omega) | refine okA_upd ?_ ?_ | refine okV_of ?_ ?_ | refine okV_beh ?_ _ _ ?_))), (by (repeat (first | assumption | exact trivial | exact hfr _ (by omega) | refine okA_upd ?_ ?_ | refine okV_of ?_ ?_ | refine okV_beh ?_ _ _ ?_)))⟩ (by omega) hd (Or.inl ⟨rfl, rfl, rfl⟩)))
  refine And.intro (fun hx => ?_) (fun hx16 => ?_)
  · have hx : x = 16 := hx
    subst hx
    have hn9 : needX 16 = 1 := by decide
    obtain ⟨f0, rfl⟩ : ∃ f0, f = f0 + 1 := ⟨f - 1, by omega⟩
    exact k_calculate hz hA hB hfr hS hE hC hD (by omega) (fun _ => And.intro (Or.inl rfl) (hQ _ _ _ _ _ _ _ _ _ _ _ _ _ _ _ _ (Or.inl rfl) hM0 (by omega) hd (Or.inl ⟨rfl, rfl, rfl⟩))) (fun _ _ => And.intro (Or.inr rfl) (hQ _ _ _ _ _ _ _ _ _ _ _ _ _ _ _ _ (Or.inr rfl) ⟨(by (repeat (first | assumption | exact trivial | exact hfr _ (by omega) | refine okA_upd ?_ ?_ | refine okV_of ?_ ?_ | refine okV_beh ?_ _ _ ?_))), (by (repeat (first | assumption | exact trivial | exact hfr _ (by omega) | refine okA_upd ?_ ?_ | refine okV_of ?_ ?_ | refine okV_beh ?_ _ _ ?_))), (by (repeat (first | assumption | exact trivial | exact hfr _ (by omega) | refine okA_upd ?_ ?_ | refine okV_of ?_ ?_ | refine okV_beh ?_ _ _ ?_))), (by (repeat (first | assumption | exact trivial | exact hfr _ (by omega) | refine okA_upd ?_ ?_ | refine okV_of ?_ ?_ | refine okV_beh ?_ _ _ ?_))), (by (repeat (first | assumption | exact trivial | exact hfr _ (by omega) | refine okA_upd ?_ ?_ | refine okV_of ?_ ?_ | refine okV_beh ?_ _ _ ?_))), (by (repeat (first | assumption | exact trivial | exact hfr _ (by omega) | refine okA_upd ?_ ?_ | refine okV_of ?_ ?_ | refine okV_beh ?_ _ _ ?_)))⟩ (by omega) hd (Or.inl ⟨rfl, rfl, rfl⟩)))
  refine And.intro (fun hx => ?_) (fun hx17 => ?_)
  · have hx : x = 17 := hx
    subst hx
    have hn9 : needX 17 = 1 := by decide
    obtain ⟨f0, rfl⟩ : ∃ f0, f = f0 + 1 := ⟨f - 1, by omega⟩
    exact k_calculate hz hA hB hfr hS hE hC hD (by omega) (fun _ => And.intro (Or.inl rfl) (hQ _ _ _ _ _ _ _ _ _ _ _ _ _ _ _ _ (Or.inl rfl) hM0 (by omega) hd (Or.inl ⟨rfl, rfl, rfl⟩))) (fun _ _ => And.intro (Or.inr rfl) (hQ _ _ _ _ _ _ _ _ _ _ _ _ _ _ _ _ (Or.inr rfl) ⟨(by (repeat (first | assumption | exact trivial | exact hfr _ (by omega) | refine okA_upd ?_ ?_ | refine okV_of ?_ ?_ | refine okV_beh ?_ _ _ ?_))), (by (repeat (first | assumption | exact trivial | exact hfr _ (by omega) | refine okA_upd ?_ ?_ | refine okV_of ?_ ?_ | refine okV_beh ?_ _ _ ?_))), (by (repeat (first | assumption | exact trivial | exact hfr _ (by omega) | refine okA_upd ?_ ?_ | refine okV_of ?_ ?_ | refine okV_beh ?_ _ _ ?_))), (by (repeat (first | assumption | exact trivial | exact hfr _ (by omega) | refine okA_upd ?_ ?_ | refine okV_of ?_ ?_ | refine okV_beh ?_ _ _ ?_))), (by (repeat (first | assumption | exact trivial | exact hfr _ (by omega) | refine okA_upd ?_ ?_ | refine okV_of ?_ ?_ | refine okV_beh ?_ _ _ ?_))), (by (repeat (first | assumption | exact trivial | exact hfr _ (by omega) | refine okA_upd ?_ ?_ | refine okV_of ?_ ?_ | refine okV_beh ?_ _ _ ?_)))⟩ (by omega) hd (Or.inl ⟨rfl, rfl, rfl⟩)))
  refine And.intro (fun hx => ?_) (fun hx18 => ?_)
  · have hx : x = 18 := hx
    subst hx
    have hn9 : needX 18 = 1 := by decide
    obtain ⟨f0, rfl⟩ : ∃ f0, f = f0 + 1 := ⟨f - 1, by omega⟩
    exact k_calculate hz hA hB hfr hS hE hC hD (by omega) (fun _ => And.intro (Or.inl rfl) (hQ _ _ _ _ _ _ _ _ _ _ _ _ _ _ _ _ (Or.inl rfl) hM0 (by omega) hd (Or.inl ⟨rfl, rfl, rfl⟩))) (fun _ _ => And.intro (Or.inr rfl) (hQ _ _ _ _ _ _ _ _ _ _ _ _ _ _ _ _ (Or.inr rfl) ⟨(by (repeat (first | assumption | exact trivial | exact hfr _ (by omega) | refine okA_upd ?_ ?_ | refine okV_of ?_ ?_ | refine okV_beh ?_ _ _ ?_))), (by (repeat (first | assumption | exact trivial | exact hfr _ (by omega) | refine okA_upd ?_ ?_ | refine okV_of ?_ ?_ | refine okV_beh ?_ _ _ ?_))), (by (repeat (first | assumption | exact trivial | exact hfr _ (by omega) | refine okA_upd ?_ ?_ | refine okV_of ?_ ?_ | refine okV_beh ?_ _ _ ?_))), (by (repeat (first | assumption | exact trivial | exact hfr _ (by omega) | refine okA_upd ?_ ?_ | refine okV_of ?_ ?_ | refine okV_beh ?_ _ _ ?_))), (by (repeat (first | assumption | exact trivial | exact hfr _ (by omega) | refine okA_upd ?_ ?_ | refine okV_of ?_ ?_ | refine okV_beh ?_ _ _ ?_))), (by (repeat (first | assumption | exact trivial | exact hfr _ (by omega) | refine okA_upd ?_ ?_ | refine okV_of ?_ ?_ | refine okV_beh ?_ _ _ ?_)))⟩ (by omega) hd (Or.inl ⟨rfl, rfl, rfl⟩)))
  refine And.intro (fun hx => ?_) (fun hx19 => ?_)
  · have hx : x = 19 := hx
    subst hx
    refine k_stop hz hM0 hfr hf hd hc0 hc1 (fun k' n' fb' R' b0' b1' op' q1 q2 q3 => ?_)
    exact And.intro (Or.inr rfl) (hQ _ _ _ _ _ _ _ _ _ _ _ _ _ _ _ _ (Or.inr rfl) hM0 hf q1 (Or.inr ⟨rfl, q2, q3⟩))
  exact And.intro (Or.inl rfl) (hQ _ _ _ _ _ _ _ _ _ _ _ _ _ _ _ _ (Or.inl rfl) hM0 (by omega) hd (Or.inl ⟨rfl, rfl, rfl⟩))
theorem k_stepW (hz : z ≤ 250) (hM : mOK z S E C D H T) (hfr : ∀ j, j < z → fr j < z) (hf : f ≤ z) (hd : dOK z n fb R) (hc0 : 200 ≤ b0) (hc1 : 20000 ≤ b1) (hc : c ≤ z) (hQ : ∀ S' E' C' D' mode' colls' taken' H' T' fr' g' f' k' n' fb' R' b0' b1' op', mOK z S' E' C' D' H' T' → (∀ j, j < z → fr' j < z) → f' ≤ z → dOK z n' fb' R' → ((b0' = b0 ∧ b1' = b1 ∧ (mode' = mode ∨ mode' = 3 ∨ mode' = 4)) ∨ (mode' = 2 ∧ b0 ≤ b0' + 140 ∧ b1 ≤ b1' + 19740) ∨ (mode' = 3 ∧ b0 ≤ b0' + 140 ∧ b1 ≤ b1' + 19740)) → Q (.inl none, (fW o0 o1 o2 o3 o4 o5 o6 o7 o8 o9 o10 o11 o12 o13 o14 o15 S' E' C' D' mode' colls' taken' (steps + 1) z H' T' fr' g' f' c k' n' fb' R' tl, b0', b1', op'))) :
    mj_Mt gT (law_cst xs) gnw (m + 11) y_Machine_step [.ref 16] (fW o0 o1 o2 o3 o4 o5 o6 o7 o8 o9 o10 o11 o12 o13 o14 o15 S E C D mode colls taken steps z H T fr g f c k n fb R tl, b0, b1, op) Q := by
  have hM0 := hM
  obtain ⟨hA, hB, hS, hE, hC, hD⟩ := hM
  intro J hJ
  refine hJ _ _ _ _ ?_
  refine k_instruction hz hA hB hfr hS hE hC hD ?_
  generalize (encV (ofV H C)).toInt32 = x
  have hnl := needX_le x
  refine o_needs ?_
  refine s_freeCells ?_
  refine And.intro (fun h1 => ?_) (fun h1 => ?_)
  · have h1 : needX x ≤ f := (nI_leI (by omega) (by omega)).mp h1
    refine s_freeCells ?_
    refine And.intro (fun _ => ?_) (fun h => absurd (nI_le h1 (by omega)) h)
    refine k_actW h1 hz hM0 hfr hf hd hc0 hc1 (fun b S' E' C' D' mode' H' T' f' k' n' fb' R' b0' b1' op' q1 q2 q3 q4 q5 => ?_)
    refine And.intro (fun _ => ?_) (fun _ => ?_)
    · refine hQ _ _ _ _ _ _ _ _ _ _ _ _ _ _ _ _ _ _ _ q2 hfr q3 q4 ?_
      rcases q5 with ⟨e1, e2, e3⟩ | e
      · exact Or.inl ⟨e2, e3, Or.inl e1⟩
      · exact Or.inr (Or.inl e)
    · refine hQ _ _ _ _ _ _ _ _ _ _ _ _ _ _ _ _ _ _ _ q2 hfr q3 q4 ?_
      rcases q5 with ⟨e1, e2, e3⟩ | e
      · exact Or.inl ⟨e2, e3, Or.inr (Or.inl rfl)⟩
      · exact Or.inr (Or.inr ⟨rfl, e.2⟩)
  · refine k_collect hz hc hA hB hS hE hC hD ?_
    have hfu := fuN_le (mrk z H T S E C D (if c = 0 then vNil else vPr 0) g).1 z 0 (fr, 0)
    have hfr2 := fuN_fr (mrk z H T S E C D (if c = 0 then vNil else vPr 0) g).1 z 0 (fr, 0) (by omega) hfr
    generalize (fuN (mrk z H T S E C D (if c = 0 then vNil else vPr 0) g).1 z 0 (fr, 0)) = p at *
    generalize (mrk z H T S E C D (if c = 0 then vNil else vPr 0) g) = g2
    have hfu : p.2 ≤ 0 + z := hfu
    refine s_freeCells ?_
    refine And.intro (fun h2 => ?_) (fun h2 => ?_)
    · have h2 : needX x ≤ p.2 := (nI_leI (by omega) (by omega)).mp h2
      refine k_actW h2 hz hM0 hfr2 (by omega) hd hc0 hc1 (fun b S' E' C' D' mode' H' T' f' k' n' fb' R' b0' b1' op' q1 q2 q3 q4 q5 => ?_)
      refine And.intro (fun _ => ?_) (fun _ => ?_)
      · refine hQ _ _ _ _ _ _ _ _ _ _ _ _ _ _ _ _ _ _ _ q2 hfr2 q3 q4 ?_
        rcases q5 with ⟨e1, e2, e3⟩ | e
        · exact Or.inl ⟨e2, e3, Or.inl e1⟩
        · exact Or.inr (Or.inl e)
      · refine hQ _ _ _ _ _ _ _ _ _ _ _ _ _ _ _ _ _ _ _ q2 hfr2 q3 q4 ?_
        rcases q5 with ⟨e1, e2, e3⟩ | e
        · exact Or.inl ⟨e2, e3, Or.inr (Or.inl rfl)⟩
        · exact Or.inr (Or.inr ⟨rfl, e.2⟩)
    · exact hQ _ _ _ _ _ _ _ _ _ _ _ _ _ _ _ _ _ _ _ hM0 hfr2 (by omega) hd (Or.inl ⟨rfl, rfl, Or.inr (Or.inr rfl)⟩)
theorem k_beginW (hz : z ≤ 250) (hc : c ≤ z) (hfr : ∀ j, j < z → fr j < z) (h0 : c = 0 → Q (.inl (some (.int 0)), (fW o0 o1 o2 o3 o4 o5 o6 o7 o8 o9 o10 o11 o12 o13 o14 o15 S E C D mode colls taken steps z H T fr g f c k n fb R tl, b0, b1, op)))
    (h1 : 0 < c → Q (.inl (some (.int 1)), (fW o0 o1 o2 o3 o4 o5 o6 o7 o8 o9 o10 o11 o12 o13 o14 o15 vNil vNil (vPr 0) vNil 1 0 0 0 z H T (faN (z - c) c (fr, 0)).1 g (faN (z - c) c (fr, 0)).2 c k n fb R tl, b0, b1, op))) :
    mj_Mt gT cst gnw (m + 3) y_Machine_begin [.ref 16] (fW o0 o1 o2 o3 o4 o5 o6 o7 o8 o9 o10 o11 o12 o13 o14 o15 S E C D mode colls taken steps z H T fr g f c k n fb R tl, b0, b1, op) Q := by
  intro J hJ
  refine hJ _ _ _ _ ?_
  refine s_code (by omega) ?_
  by_cases e : c = 0
  · subst e
    refine And.intro (fun h => absurd (by decide) h) (fun _ => ?_)
    exact And.intro (Or.inl rfl) (h0 rfl)
  · rw [if_neg e]
    refine And.intro (fun _ => ?_) (fun h => absurd (lg_eq.mp h) (by decide))
    refine s_freeAllButCode hz hc ?_
    refine s_code (by omega) ?_
    rw [if_neg e]
    refine k_setRegisters ?_
    exact And.intro (Or.inr rfl) (h1 (by omega))
end P2e
end
section
abbrev tS : Type := Nat × (Nat → Int32) × (Nat → Int32) × (Nat → Int32) × (Nat → Option Nat) × (Nat → Option Nat) × (Nat → Option Nat)
abbrev tn (t : tS) : Nat := t.1
abbrev tK (t : tS) : Nat → Int32 := t.2.1
abbrev tV (t : tS) : Nat → Int32 := t.2.2.1
abbrev tP (t : tS) : Nat → Int32 := t.2.2.2.1
abbrev tF (t : tS) : Nat → Option Nat := t.2.2.2.2.1
abbrev tL (t : tS) : Nat → Option Nat := t.2.2.2.2.2.1
abbrev tN (t : tS) : Nat → Option Nat := t.2.2.2.2.2.2
def oV : Option Nat → Int32
  | none => -1
  | some k => nI k
abbrev eO (g : Nat → Option Nat) : Nat → Int32 := fun i => oV (g i)
theorem upd_eO (g : Nat → Option Nat) (k : Nat) (x : Option Nat) : upd (eO g) k (oV x) = eO (upW g k x) := by
  funext j
  show (if j = k then oV x else oV (g j)) = oV (if j = k then x else g j)
  split <;> rfl
theorem oV_ne {k : Nat} (h : k < 2 ^ 31) : ¬ oV (some k) = -1 := by
  intro e
  have := congrArg Int32.toInt e
  rw [show oV (some k) = nI k from rfl, nI_toInt h] at this
  have h2 : (-1 : Int32).toInt = -1 := by decide
  omega
def tAdd (t : tS) (k v p : Int32) : tS := (tn t + 1, upd (tK t) (tn t) k, upd (tV t) (tn t) v, upd (tP t) (tn t) p, upW (tF t) (tn t) none, upW (tL t) (tn t) none, upW (tN t) (tn t) none)
def tPart (t : tS) (nd pt : Nat) : tS := match tL t nd with
  | none => (tn t, tK t, tV t, tP t, upW (tF t) nd (some pt), upW (tL t) nd (some pt), tN t)
  | some l => (tn t, tK t, tV t, tP t, tF t, upW (tL t) nd (some pt), upW (tN t) l (some pt))
def tEn (t : tS) (g : Nat → Option Nat) : Option Nat → Option Nat
  | none => none
  | some i => if i < tn t then g i else none
def tEi (t : tS) (g : Nat → Int32) : Option Nat → Int32
  | none => -1
  | some i => if i < tn t then g i else -1
def tPt (t : tS) : Nat → Option Nat → Option Nat
  | 0, o => o
  | k + 1, o => tPt t k (tEn t (tN t) o)
def tCn (t : tS) : Nat → Option Nat → Nat
  | 0, _ => 0
  | _ + 1, none => 0
  | k + 1, some i => tCn t k (tEn t (tN t) (some i)) + 1
def tPl (t : tS) (c : Int32) : Nat → Option Nat → Option Nat
  | 0, _ => none
  | _ + 1, none => none
  | k + 1, some i => if i < tn t then (if tV t i = c then some 0 else (tPl t c k (tN t i)).map (· + 1)) else none
def tOK (t : tS) : Prop := tn t ≤ 96 ∧ (∀ i j, tF t i = some j → j < 96) ∧ ((∀ i j, tL t i = some j → j < 96) ∧ ∀ i, i < tn t → tK t i = 2 → ∃ c : Nat, c < 256 ∧ tV t i = nI c) ∧ ∀ i j, tN t i = some j → j < 96
theorem upW_lt {g : Nat → Option Nat} {k : Nat} {x : Option Nat} (h : ∀ i j, g i = some j → j < 96) (hx : ∀ j, x = some j → j < 96) : ∀ i j, upW g k x i = some j → j < 96 := by
  intro i j e
  unfold upW at e
  split at e
  · exact hx j e
  · exact h i j e
theorem tOK_add {t : tS} {k v p : Int32} (h : tOK t) (hn : tn t < 96) (hk : k = 2 → ∃ c : Nat, c < 256 ∧ v = nI c := by exact fun h => absurd h (by decide)) : tOK (tAdd t k v p) := by
  refine ⟨hn, upW_lt h.2.1 (fun _ e => by cases e), ⟨upW_lt h.2.2.1.1 (fun _ e => by cases e), fun i hi e => ?_⟩, upW_lt h.2.2.2 (fun _ e => by cases e)⟩
  have hi : i < tn t + 1 := hi
  have e : (if i = tn t then k else tK t i) = 2 := e
  show ∃ c : Nat, c < 256 ∧ (if i = tn t then v else tV t i) = nI c
  by_cases h1 : i = tn t
  · rw [if_pos h1] at e ⊢
    exact hk e
  · rw [if_neg h1] at e ⊢
    exact h.2.2.1.2 i (by omega) e
theorem tOK_part {t : tS} {nd pt : Nat} (h : tOK t) (hp : pt < 96) : tOK (tPart t nd pt) := by
  unfold tPart
  split
  · exact ⟨h.1, upW_lt h.2.1 (fun _ e => by cases e; exact hp), ⟨upW_lt h.2.2.1.1 (fun _ e => by cases e; exact hp), h.2.2.1.2⟩, h.2.2.2⟩
  · exact ⟨h.1, h.2.1, ⟨upW_lt h.2.2.1.1 (fun _ e => by cases e; exact hp), h.2.2.1.2⟩, upW_lt h.2.2.2 (fun _ e => by cases e; exact hp)⟩
theorem tn_part {t : tS} {nd pt : Nat} : tn (tPart t nd pt) = tn t := by
  unfold tPart
  split <;> rfl
def rdX (o0 : mj_O) (t : tS) (X : Nat → Int32) (len : Nat) (x : Int32) (tl : List mj_O) : List mj_O :=
  o0 :: oF 2 [.ref 2, .ref 3, .ref 4, .ref 5, .ref 6, .ref 7, .int (nI (tn t))] :: oI 96 (tK t) :: oI 96 (tV t) :: oI 96 (tP t) :: oI 96 (eO (tF t)) :: oI 96 (eO (tL t)) :: oI 96 (eO (tN t)) :: oF 1 [.ref 9, .int (nI len)] :: oC 96 X :: oF 3 [.ref 8, .ref 1, .int x] :: tl
abbrev rdW (o0 : mj_O) (t : tS) (X : Nat → Int32) (len a : Nat) (tl : List mj_O) : List mj_O := rdX o0 t X len (nI a) tl
def txOK (X : Nat → Int32) (len : Nat) (tx : Nat → Nat) : Prop := len ≤ 96 ∧ (∀ i, i < len → X i = nI (tx i) ∧ 32 ≤ tx i ∧ tx i ≤ 126) ∧ ∀ i, len ≤ i → tx i = 0
theorem txOK.lt {X : Nat → Int32} {len : Nat} {tx : Nat → Nat} (h : txOK X len tx) {a : Nat} (ha : ¬ tx a = 0) : a < len := Nat.lt_of_not_le (fun q => ha (h.2.2 a q))
theorem txOK.le {X : Nat → Int32} {len : Nat} {tx : Nat → Nat} (h : txOK X len tx) (a : Nat) : tx a ≤ 126 := by
  by_cases e : a < len
  · exact (h.2.1 a e).2.2
  · rw [h.2.2 a (by omega)]; omega
def cL (c : Nat) : Bool := decide (97 ≤ c ∧ c ≤ 122)
def cD (c : Nat) : Bool := decide (48 ≤ c ∧ c ≤ 57)
section P2f
variable {cst : Nat → Option (Nat × (Nat → Int32))} {m b0 b1 : Nat} {op : Bool} {tl : List mj_O} {Q : mj_R → Prop} {xs : List Int32}
variable {o0 : mj_O} {t : tS} {X : Nat → Int32} {len a : Nat} {tx : Nat → Nat}
set_option maxRecDepth 10000
theorem q_fail {os : List mj_O} (h6 : 6 ≤ b1) (hQ : Q (.inr 0, (os, b0, b1 - 6, false))) : mj_Mt gT cst gnw (m + 1) y_Reader_fail [] (os, b0 + 1, b1, op) Q := by
  intro J hJ
  refine hJ _ _ _ _ ?_
  exact And.intro h6 hQ
theorem q_isLetter {h : mj_H} {c : Nat} (hc : c ≤ 126) (hQ : Q (.inl (some (.int (bJ (cL c)))), h)) : mj_Mt gT cst gnw (m + 1) y_Reader_isLetter [.int (nI c)] h Q := by
  intro J hJ
  refine hJ _ _ _ _ ?_
  refine And.intro (fun (g : nI c < nI 97) => ?_) (fun (g : ¬ nI c < nI 97) => ?_)
  · have h1 := (nI_ltI (by omega) (by decide)).mp g
    rw [show cL c = false from decide_eq_false (by omega)] at hQ
    exact And.intro (Or.inl rfl) hQ
  · have h1 : 97 ≤ c := Nat.le_of_not_lt (fun q => g (nI_lt q (by decide)))
    refine And.intro (fun (g2 : nI 122 < nI c) => ?_) (fun (g2 : ¬ nI 122 < nI c) => ?_)
    · have h2 := (nI_ltI (by decide) (by omega)).mp g2
      rw [show cL c = false from decide_eq_false (by omega)] at hQ
      exact And.intro (Or.inl rfl) hQ
    · have h2 : c ≤ 122 := Nat.le_of_not_lt (fun q => g2 (nI_lt q (by omega)))
      rw [show cL c = true from decide_eq_true ⟨h1, h2⟩] at hQ
      exact And.intro (Or.inr rfl) hQ
theorem q_isDigit {h : mj_H} {c : Nat} (hc : c ≤ 126) (hQ : Q (.inl (some (.int (bJ (cD c)))), h)) : mj_Mt gT cst gnw (m + 1) y_Reader_isDigit [.int (nI c)] h Q := by
  intro J hJ
  refine hJ _ _ _ _ ?_
  refine And.intro (fun (g : nI c < nI 48) => ?_) (fun (g : ¬ nI c < nI 48) => ?_)
  · have h1 := (nI_ltI (by omega) (by decide)).mp g
    rw [show cD c = false from decide_eq_false (by omega)] at hQ
    exact And.intro (Or.inl rfl) hQ
  · have h1 : 48 ≤ c := Nat.le_of_not_lt (fun q => g (nI_lt q (by decide)))
    refine And.intro (fun (g2 : nI 57 < nI c) => ?_) (fun (g2 : ¬ nI 57 < nI c) => ?_)
    · have h2 := (nI_ltI (by decide) (by omega)).mp g2
      rw [show cD c = false from decide_eq_false (by omega)] at hQ
      exact And.intro (Or.inl rfl) hQ
    · have h2 : c ≤ 57 := Nat.le_of_not_lt (fun q => g2 (nI_lt q (by omega)))
      rw [show cD c = true from decide_eq_true ⟨h1, h2⟩] at hQ
      exact And.intro (Or.inr rfl) hQ
theorem x_codeAt {a9 : Nat} {y : Int32} (hy : y = nI a9) (hx : txOK X len tx) (ha : a9 < 1000) (hQ : Q (.inl (some (.int (nI (tx a9)))), (rdW o0 t X len a tl, b0, b1, op))) : mj_Mt gT cst gnw (m + 1) y_Text_codeAt [.ref 8, .int y] (rdW o0 t X len a tl, b0, b1, op) Q := by
  subst hy
  have hl := hx.1
  intro J hJ
  refine hJ _ _ _ _ ?_
  refine And.intro (fun g => absurd g (nI_pos (by omega))) (fun _ => ?_)
  refine And.intro (fun (g : nI len ≤ nI a9) => ?_) (fun (g : ¬ nI len ≤ nI a9) => ?_)
  · have h1 := (nI_leI (by omega) (by omega)).mp g
    rw [hx.2.2 a9 h1] at hQ
    exact hQ
  · have h1 : a9 < len := Nat.lt_of_not_le (fun q => g (nI_le q (by omega)))
    refine And.intro (vp_in_nI (by omega) (by decide)) ?_
    rw [← (hx.2.1 a9 h1).1] at hQ
    have key : ∀ j, j = a9 → Q (.inl (some (.int (X j))), (rdW o0 t X len a tl, b0, b1, op)) := by
      rintro j rfl
      exact hQ
    exact key _ (nI_clamp (by omega))
theorem t_add {k v p : Int32} (hn : tn t < 96) (hQ : Q (.inl (some (.int (nI (tn t)))), (rdW o0 (tAdd t k v p) X len a tl, b0, b1, op))) : mj_Mt gT cst gnw (m + 1) y_Tree_add [.ref 1, .int k, .int v, .int p] (rdW o0 t X len a tl, b0, b1, op) Q := by
  have vin : vp_in (nI (tn t)) 96 := vp_in_nI hn (by decide)
  intro J hJ
  refine hJ _ _ _ _ ?_
  refine And.intro (fun _ => ?_) (fun g => absurd (nI_lt (a := tn t) (b := 96) hn (by decide)) g)
  refine And.intro vin (And.intro vin (And.intro vin (And.intro vin (And.intro vin (And.intro vin ?_)))))
  have key : ∀ (j : Nat) (x y : Int32), j = tn t → x = nI (tn t + 1) → y = oV none → Q (.inl (some (.int (nI (tn t)))), (o0 :: oF 2 [.ref 2, .ref 3, .ref 4, .ref 5, .ref 6, .ref 7, .int x] :: oI 96 (upd (tK t) j k) :: oI 96 (upd (tV t) j v) :: oI 96 (upd (tP t) j p) :: oI 96 (upd (eO (tF t)) j y) :: oI 96 (upd (eO (tL t)) j y) :: oI 96 (upd (eO (tN t)) j y) :: oF 1 [.ref 9, .int (nI len)] :: oC 96 X :: oF 3 [.ref 8, .ref 1, .int (nI a)] :: tl, b0, b1, op)) := by
    rintro j x y rfl rfl rfl
    rw [upd_eO, upd_eO, upd_eO]
    exact hQ
  exact key _ _ _ (nI_clamp (by omega)) (nI_1 _) rfl
theorem t_addPart {nd pt : Nat} (ht : tOK t) (hnd : nd < tn t) (hQ : Q (.inl none, (rdW o0 (tPart t nd pt) X len a tl, b0, b1, op))) : mj_Mt gT cst gnw (m + 1) y_Tree_addPart [.ref 1, .int (nI nd), .int (nI pt)] (rdW o0 t X len a tl, b0, b1, op) Q := by
  have h96 := ht.1
  have vin : vp_in (nI nd) 96 := vp_in_nI (by omega) (by decide)
  have ec : (nI nd).toNatClampNeg = nd := nI_clamp (by omega)
  intro J hJ
  refine hJ _ _ _ _ ?_
  refine And.intro (fun g => absurd g (nI_pos (by omega))) (fun _ => ?_)
  refine And.intro (fun _ => ?_) (fun g => absurd (nI_lt (a := nd) (b := tn t) hnd (by omega)) g)
  refine And.intro vin ?_
  unfold tPart at hQ
  cases hl : tL t nd with
  | none =>
    rw [hl] at hQ
    have e : eO (tL t) (nI nd).toNatClampNeg = -1 := by rw [ec]; show oV (tL t nd) = -1; rw [hl]; rfl
    refine And.intro (fun g => absurd e g) (fun _ => ?_)
    refine And.intro vin (And.intro vin ?_)
    have key : ∀ j, j = nd → Q (.inl none, (o0 :: oF 2 [.ref 2, .ref 3, .ref 4, .ref 5, .ref 6, .ref 7, .int (nI (tn t))] :: oI 96 (tK t) :: oI 96 (tV t) :: oI 96 (tP t) :: oI 96 (upd (eO (tF t)) j (oV (some pt))) :: oI 96 (upd (eO (tL t)) j (oV (some pt))) :: oI 96 (eO (tN t)) :: oF 1 [.ref 9, .int (nI len)] :: oC 96 X :: oF 3 [.ref 8, .ref 1, .int (nI a)] :: tl, b0, b1, op)) := by
      rintro j rfl
      rw [upd_eO, upd_eO]
      exact hQ
    exact key _ ec
  | some l =>
    have hl9 := ht.2.2.1.1 nd l hl
    rw [hl] at hQ
    have e : eO (tL t) (nI nd).toNatClampNeg = nI l := by rw [ec]; show oV (tL t nd) = nI l; rw [hl]; rfl
    refine And.intro (fun _ => ?_) (fun g => absurd (e.symm.trans g) (oV_ne (k := l) (by omega)))
    refine And.intro (show vp_in (eO (tL t) (nI nd).toNatClampNeg) 96 by rw [e]; exact vp_in_nI hl9 (by decide)) (And.intro vin ?_)
    have key : ∀ j i, j = nd → i = l → Q (.inl none, (o0 :: oF 2 [.ref 2, .ref 3, .ref 4, .ref 5, .ref 6, .ref 7, .int (nI (tn t))] :: oI 96 (tK t) :: oI 96 (tV t) :: oI 96 (tP t) :: oI 96 (eO (tF t)) :: oI 96 (upd (eO (tL t)) j (oV (some pt))) :: oI 96 (upd (eO (tN t)) i (oV (some pt))) :: oF 1 [.ref 9, .int (nI len)] :: oC 96 X :: oF 3 [.ref 8, .ref 1, .int (nI a)] :: tl, b0, b1, op)) := by
      rintro j i rfl rfl
      rw [upd_eO, upd_eO]
      exact hQ
    exact key _ _ ec (by rw [e]; exact nI_clamp (by omega))
theorem t_kind {o : Option Nat} {y : Int32} (hy : y = oV o) (ht : tn t ≤ 96) (ho : ∀ i, o = some i → i < 1000) (hQ : Q (.inl (some (.int (tEi t (tK t) o))), (rdW o0 t X len a tl, b0, b1, op))) : mj_Mt gT cst gnw (m + 2) y_Tree_kind [.ref 1, .int y] (rdW o0 t X len a tl, b0, b1, op) Q := by
  subst hy
  intro J hJ
  refine hJ _ _ _ _ ?_
  intro J2 hJ2
  refine hJ2 _ _ _ _ ?_
  cases o with
  | none =>
    refine And.intro (fun _ => ?_) (fun g => absurd (by decide) g)
    exact hQ
  | some i =>
    have hi := ho i rfl
    refine And.intro (fun g => absurd g (nI_pos (n := i) (by omega))) (fun _ => ?_)
    refine And.intro (fun (g : nI (tn t) ≤ nI i) => ?_) (fun (g : ¬ nI (tn t) ≤ nI i) => ?_)
    · have h1 := (nI_leI (by omega) (by omega)).mp g
      rw [show (tEi t (tK t) (some i)) = -1 from if_neg (by omega)] at hQ
      exact hQ
    · have h1 : i < tn t := Nat.lt_of_not_le (fun q => g (nI_le q (by omega)))
      refine And.intro (vp_in_nI (by omega) (by decide)) ?_
      rw [show (tEi t (tK t) (some i)) = (tK t) i from if_pos h1] at hQ
      have key : ∀ j, j = i → mj_after (mj_hd (mj_off kO_Tree_kind) kH_Tree_kind) Q (mj_sg (mj_Mt gT cst gnw (m + 1)) cst gnw (mj_hd (mj_off kO_Tree_kind) kH_Tree_kind) kC_Tree_kind J Q 395 false) 4 (mj_lay [.ref 1, .int (nI i)] 2) [] (.inl (some (.int ((tK t) j))), (rdW o0 t X len a tl, b0, b1, op)) := by
        rintro j rfl
        exact hQ
      exact key _ (nI_clamp (by omega))
theorem t_value {o : Option Nat} {y : Int32} (hy : y = oV o) (ht : tn t ≤ 96) (ho : ∀ i, o = some i → i < 1000) (hQ : Q (.inl (some (.int (tEi t (tV t) o))), (rdW o0 t X len a tl, b0, b1, op))) : mj_Mt gT cst gnw (m + 2) y_Tree_value [.ref 1, .int y] (rdW o0 t X len a tl, b0, b1, op) Q := by
  subst hy
  intro J hJ
  refine hJ _ _ _ _ ?_
  intro J2 hJ2
  refine hJ2 _ _ _ _ ?_
  cases o with
  | none =>
    refine And.intro (fun _ => ?_) (fun g => absurd (by decide) g)
    exact hQ
  | some i =>
    have hi := ho i rfl
    refine And.intro (fun g => absurd g (nI_pos (n := i) (by omega))) (fun _ => ?_)
    refine And.intro (fun (g : nI (tn t) ≤ nI i) => ?_) (fun (g : ¬ nI (tn t) ≤ nI i) => ?_)
    · have h1 := (nI_leI (by omega) (by omega)).mp g
      rw [show (tEi t (tV t) (some i)) = -1 from if_neg (by omega)] at hQ
      exact hQ
    · have h1 : i < tn t := Nat.lt_of_not_le (fun q => g (nI_le q (by omega)))
      refine And.intro (vp_in_nI (by omega) (by decide)) ?_
      rw [show (tEi t (tV t) (some i)) = (tV t) i from if_pos h1] at hQ
      have key : ∀ j, j = i → mj_after (mj_hd (mj_off kO_Tree_value) kH_Tree_value) Q (mj_sg (mj_Mt gT cst gnw (m + 1)) cst gnw (mj_hd (mj_off kO_Tree_value) kH_Tree_value) kC_Tree_value J Q 395 false) 4 (mj_lay [.ref 1, .int (nI i)] 2) [] (.inl (some (.int ((tV t) j))), (rdW o0 t X len a tl, b0, b1, op)) := by
        rintro j rfl
        exact hQ
      exact key _ (nI_clamp (by omega))
theorem t_positionOf {o : Option Nat} {y : Int32} (hy : y = oV o) (ht : tn t ≤ 96) (ho : ∀ i, o = some i → i < 1000) (hQ : Q (.inl (some (.int (tEi t (tP t) o))), (rdW o0 t X len a tl, b0, b1, op))) : mj_Mt gT cst gnw (m + 2) y_Tree_positionOf [.ref 1, .int y] (rdW o0 t X len a tl, b0, b1, op) Q := by
  subst hy
  intro J hJ
  refine hJ _ _ _ _ ?_
  intro J2 hJ2
  refine hJ2 _ _ _ _ ?_
  cases o with
  | none =>
    refine And.intro (fun _ => ?_) (fun g => absurd (by decide) g)
    exact hQ
  | some i =>
    have hi := ho i rfl
    refine And.intro (fun g => absurd g (nI_pos (n := i) (by omega))) (fun _ => ?_)
    refine And.intro (fun (g : nI (tn t) ≤ nI i) => ?_) (fun (g : ¬ nI (tn t) ≤ nI i) => ?_)
    · have h1 := (nI_leI (by omega) (by omega)).mp g
      rw [show (tEi t (tP t) (some i)) = -1 from if_neg (by omega)] at hQ
      exact hQ
    · have h1 : i < tn t := Nat.lt_of_not_le (fun q => g (nI_le q (by omega)))
      refine And.intro (vp_in_nI (by omega) (by decide)) ?_
      rw [show (tEi t (tP t) (some i)) = (tP t) i from if_pos h1] at hQ
      have key : ∀ j, j = i → mj_after (mj_hd (mj_off kO_Tree_positionOf) kH_Tree_positionOf) Q (mj_sg (mj_Mt gT cst gnw (m + 1)) cst gnw (mj_hd (mj_off kO_Tree_positionOf) kH_Tree_positionOf) kC_Tree_positionOf J Q 395 false) 4 (mj_lay [.ref 1, .int (nI i)] 2) [] (.inl (some (.int ((tP t) j))), (rdW o0 t X len a tl, b0, b1, op)) := by
        rintro j rfl
        exact hQ
      exact key _ (nI_clamp (by omega))
theorem t_firstPart {o : Option Nat} {y : Int32} (hy : y = oV o) (ht : tn t ≤ 96) (ho : ∀ i, o = some i → i < 1000) (hQ : Q (.inl (some (.int (oV (tEn t (tF t) o)))), (rdW o0 t X len a tl, b0, b1, op))) : mj_Mt gT cst gnw (m + 2) y_Tree_firstPart [.ref 1, .int y] (rdW o0 t X len a tl, b0, b1, op) Q := by
  subst hy
  intro J hJ
  refine hJ _ _ _ _ ?_
  intro J2 hJ2
  refine hJ2 _ _ _ _ ?_
  cases o with
  | none =>
    refine And.intro (fun _ => ?_) (fun g => absurd (by decide) g)
    exact hQ
  | some i =>
    have hi := ho i rfl
    refine And.intro (fun g => absurd g (nI_pos (n := i) (by omega))) (fun _ => ?_)
    refine And.intro (fun (g : nI (tn t) ≤ nI i) => ?_) (fun (g : ¬ nI (tn t) ≤ nI i) => ?_)
    · have h1 := (nI_leI (by omega) (by omega)).mp g
      rw [show (oV (tEn t (tF t) (some i))) = oV none from congrArg oV (if_neg (by omega))] at hQ
      exact hQ
    · have h1 : i < tn t := Nat.lt_of_not_le (fun q => g (nI_le q (by omega)))
      refine And.intro (vp_in_nI (by omega) (by decide)) ?_
      rw [show (oV (tEn t (tF t) (some i))) = (eO (tF t)) i from congrArg oV (if_pos h1)] at hQ
      have key : ∀ j, j = i → mj_after (mj_hd (mj_off kO_Tree_firstPart) kH_Tree_firstPart) Q (mj_sg (mj_Mt gT cst gnw (m + 1)) cst gnw (mj_hd (mj_off kO_Tree_firstPart) kH_Tree_firstPart) kC_Tree_firstPart J Q 395 false) 4 (mj_lay [.ref 1, .int (nI i)] 2) [] (.inl (some (.int ((eO (tF t)) j))), (rdW o0 t X len a tl, b0, b1, op)) := by
        rintro j rfl
        exact hQ
      exact key _ (nI_clamp (by omega))
theorem t_follower {o : Option Nat} {y : Int32} (hy : y = oV o) (ht : tn t ≤ 96) (ho : ∀ i, o = some i → i < 1000) (hQ : Q (.inl (some (.int (oV (tEn t (tN t) o)))), (rdW o0 t X len a tl, b0, b1, op))) : mj_Mt gT cst gnw (m + 2) y_Tree_follower [.ref 1, .int y] (rdW o0 t X len a tl, b0, b1, op) Q := by
  subst hy
  intro J hJ
  refine hJ _ _ _ _ ?_
  intro J2 hJ2
  refine hJ2 _ _ _ _ ?_
  cases o with
  | none =>
    refine And.intro (fun _ => ?_) (fun g => absurd (by decide) g)
    exact hQ
  | some i =>
    have hi := ho i rfl
    refine And.intro (fun g => absurd g (nI_pos (n := i) (by omega))) (fun _ => ?_)
    refine And.intro (fun (g : nI (tn t) ≤ nI i) => ?_) (fun (g : ¬ nI (tn t) ≤ nI i) => ?_)
    · have h1 := (nI_leI (by omega) (by omega)).mp g
      rw [show (oV (tEn t (tN t) (some i))) = oV none from congrArg oV (if_neg (by omega))] at hQ
      exact hQ
    · have h1 : i < tn t := Nat.lt_of_not_le (fun q => g (nI_le q (by omega)))
      refine And.intro (vp_in_nI (by omega) (by decide)) ?_
      rw [show (oV (tEn t (tN t) (some i))) = (eO (tN t)) i from congrArg oV (if_pos h1)] at hQ
      have key : ∀ j, j = i → mj_after (mj_hd (mj_off kO_Tree_follower) kH_Tree_follower) Q (mj_sg (mj_Mt gT cst gnw (m + 1)) cst gnw (mj_hd (mj_off kO_Tree_follower) kH_Tree_follower) kC_Tree_follower J Q 395 false) 4 (mj_lay [.ref 1, .int (nI i)] 2) [] (.inl (some (.int ((eO (tN t)) j))), (rdW o0 t X len a tl, b0, b1, op)) := by
        rintro j rfl
        exact hQ
      exact key _ (nI_clamp (by omega))
theorem tEn_lt {t : tS} {g : Nat → Option Nat} (hg : ∀ i j, g i = some j → j < 96) (o : Option Nat) : ∀ i, tEn t g o = some i → i < 1000 := by
  intro i e
  unfold tEn at e
  split at e
  · cases e
  · split at e
    · exact Nat.lt_trans (hg _ _ e) (by decide)
    · cases e
theorem t_part {o : Option Nat} {k : Nat} {y x : Int32} (hy : y = oV o) (hx : x = nI k) (hk : k < 1000) (ht : tOK t) (ho : ∀ i, o = some i → i < 1000) (hQ : Q (.inl (some (.int (oV (tPt t k (tEn t (tF t) o))))), (rdW o0 t X len a tl, b0, b1, op))) : mj_Mt gT cst gnw (m + 3) y_Tree_part [.ref 1, .int y, .int x] (rdW o0 t X len a tl, b0, b1, op) Q := by
  subst hx
  intro J hJ
  refine hJ _ _ _ _ ?_
  refine t_firstPart hy ht.1 ho ?_
  have loop : ∀ (j i : Nat) (o2 : Option Nat) (x2 : Int32), j + i = k → x2 = nI i → (∀ i, o2 = some i → i < 1000) → tPt t j o2 = tPt t k (tEn t (tF t) o) → J 6 [some (.ref 1), some (.int y), some (.int (nI k)), some (.int (oV o2)), some (.int x2)] [] (rdW o0 t X len a tl, b0, b1, op) := by
    intro j
    induction j with
    | zero =>
      intro i o2 x2 hi hx2 ho2 e
      subst hx2
      refine hJ _ _ _ _ ?_
      refine And.intro (fun _ => ?_) (fun g => absurd (nI_le (a := k) (b := i) (by omega) (by omega)) g)
      rw [← e] at hQ
      exact hQ
    | succ j ih =>
      intro i o2 x2 hi hx2 ho2 e
      subst hx2
      refine hJ _ _ _ _ ?_
      refine And.intro (fun g => absurd g (nI_ge (a := i) (b := k) (by omega) (by omega))) (fun _ => ?_)
      refine t_follower rfl ht.1 ho2 ?_
      exact ih (i + 1) _ _ (by omega) (nI_1 i) (tEn_lt ht.2.2.2 o2) e
  exact loop k 0 _ _ (by omega) rfl (tEn_lt ht.2.1 o) rfl
theorem t_parts {o : Option Nat} {y : Int32} (hy : y = oV o) (ht : tOK t) (ho : ∀ i, o = some i → i < 1000) (hQ : Q (.inl (some (.int (nI (tCn t 96 (tEn t (tF t) o))))), (rdW o0 t X len a tl, b0, b1, op))) : mj_Mt gT cst gnw (m + 3) y_Tree_parts [.ref 1, .int y] (rdW o0 t X len a tl, b0, b1, op) Q := by
  intro J hJ
  refine hJ _ _ _ _ ?_
  refine t_firstPart hy ht.1 ho ?_
  have loop : ∀ (j i : Nat) (o2 : Option Nat) (x2 : Int32), j + i = 96 → x2 = nI i → (∀ i, o2 = some i → i < 1000) → tCn t j o2 + i = tCn t 96 (tEn t (tF t) o) → J 6 [some (.ref 1), some (.int y), some (.int x2), some (.int (oV o2))] [] (rdW o0 t X len a tl, b0, b1, op) := by
    intro j
    induction j with
    | zero =>
      intro i o2 x2 hi hx2 ho2 e
      subst hx2
      obtain rfl : i = 96 := by omega
      refine hJ _ _ _ _ ?_
      have e2 : tCn t 96 (tEn t (tF t) o) = 96 := by rw [← e]; simp [tCn]
      rw [e2] at hQ
      refine And.intro (fun _ => ?_) (fun _ => ?_)
      · exact hQ
      · refine And.intro (fun _ => ?_) (fun g => absurd (by decide) g)
        exact hQ
    | succ j ih =>
      intro i o2 x2 hi hx2 ho2 e
      subst hx2
      refine hJ _ _ _ _ ?_
      cases o2 with
      | none =>
        refine And.intro (fun _ => ?_) (fun g => absurd rfl g)
        have e2 : tCn t 96 (tEn t (tF t) o) = i := by rw [← e]; simp [tCn]
        rw [e2] at hQ
        exact hQ
      | some q =>
        have hq := ho2 q rfl
        refine And.intro (fun g => absurd g (oV_ne (k := q) (by omega))) (fun _ => ?_)
        refine And.intro (fun g => absurd g (nI_ge (a := i) (b := 96) (by omega) (by decide))) (fun _ => ?_)
        refine t_follower rfl ht.1 ho2 ?_
        refine ih (i + 1) _ _ (by omega) (nI_1 i) (tEn_lt ht.2.2.2 _) ?_
        rw [← e]
        show _ = tCn t j (tEn t (tN t) (some q)) + 1 + i
        omega
  exact loop 96 0 _ _ rfl rfl (tEn_lt ht.2.1 o) rfl
theorem t_placeOf {c : Int32} {o : Option Nat} {y : Int32} (hy : y = oV o) (ht : tOK t) (ho : ∀ i, o = some i → i < 1000) (hQ : Q (.inl (some (.int (oV (tPl t c 96 o)))), (rdW o0 t X len a tl, b0, b1, op))) : mj_Mt gT cst gnw (m + 1) y_Tree_placeOf [.ref 1, .int c, .int y] (rdW o0 t X len a tl, b0, b1, op) Q := by
  have h96 := ht.1
  intro J hJ
  refine hJ _ _ _ _ ?_
  have loop : ∀ (j i : Nat) (o2 : Option Nat) (x2 y2 : Int32), j + i = 96 → x2 = nI i → y2 = oV o2 → (∀ i, o2 = some i → i < 1000) → (tPl t c j o2).map (· + i) = tPl t c 96 o → J 4 [some (.ref 1), some (.int c), some (.int y), some (.int x2), some (.int y2)] [] (rdW o0 t X len a tl, b0, b1, op) := by
    intro j
    induction j with
    | zero =>
      intro i o2 x2 y2 hi hx2 hy2 ho2 e
      subst hx2
      subst hy2
      obtain rfl : i = 96 := by omega
      rw [← e] at hQ
      refine hJ _ _ _ _ ?_
      refine And.intro (fun _ => ?_) (fun _ => ?_)
      · exact hQ
      · refine And.intro (fun _ => ?_) (fun _ => ?_)
        · exact hQ
        · refine And.intro (fun _ => ?_) (fun g => absurd (by decide) g)
          exact hQ
    | succ j ih =>
      intro i o2 x2 y2 hi hx2 hy2 ho2 e
      subst hx2
      subst hy2
      refine hJ _ _ _ _ ?_
      cases o2 with
      | none =>
        refine And.intro (fun _ => ?_) (fun g => absurd (by decide) g)
        rw [← e] at hQ
        exact hQ
      | some q =>
        have hq := ho2 q rfl
        refine And.intro (fun g => absurd g (nI_pos (n := q) (by omega))) (fun _ => ?_)
        refine And.intro (fun (g : nI (tn t) ≤ nI q) => ?_) (fun (g : ¬ nI (tn t) ≤ nI q) => ?_)
        · have h1 := (nI_leI (by omega) (by omega)).mp g
          rw [← e, show tPl t c (j + 1) (some q) = none by unfold tPl; rw [if_neg (by omega)]] at hQ
          exact hQ
        · have h1 : q < tn t := Nat.lt_of_not_le (fun w => g (nI_le w (by omega)))
          have ec : (nI q).toNatClampNeg = q := nI_clamp (by omega)
          refine And.intro (fun g => absurd g (nI_ge (a := i) (b := 96) (by omega) (by decide))) (fun _ => ?_)
          refine And.intro (vp_in_nI (by omega) (by decide)) ?_
          have ev : ∀ w, w = q → tV t w = tV t q := by rintro w rfl; rfl
          refine And.intro (fun g => ?_) (fun g => ?_)
          · have g : ¬ tV t q = c := fun w => g ((ev _ ec).trans w)
            refine And.intro (vp_in_nI (by omega) (by decide)) ?_
            refine ih (i + 1) (tN t q) _ _ (by omega) (nI_1 i) (by rw [show (oV (some q)).toNatClampNeg = q from ec]) (fun w ew => Nat.lt_trans (ht.2.2.2 _ _ ew) (by decide)) ?_
            rw [← e, show tPl t c (j + 1) (some q) = (tPl t c j (tN t q)).map (· + 1) by rw [tPl, if_pos h1, if_neg g], Option.map_map]
            congr 1
            funext w
            show w + (i + 1) = w + 1 + i
            omega
          · have g : tV t q = c := (ev _ ec).symm.trans g
            rw [← e, show tPl t c (j + 1) (some q) = some 0 by rw [tPl, if_pos h1, if_pos g]] at hQ
            rw [show (some 0).map (· + i) = some i by simp] at hQ
            exact hQ
  refine loop 96 0 o _ _ rfl rfl hy ho ?_
  cases tPl t c 96 o <;> rfl
end P2f
end
section
abbrev PR : Type := (Nat × Nat × tS) ⊕ (Nat × tS)
abbrev PU : Type := (Nat × tS) ⊕ (Nat × tS)
section RD
variable (tx : Nat → Nat)
def pClose (n a : Nat) (t : tS) : PR := if tx a = 41 then .inl (n, a + 1, t) else .inr (a, t)
def pMore (pe : Nat → tS → PR) (n : Nat) : Nat → Nat → tS → PR
  | 0, a, t => pClose tx n a t
  | k + 1, a, t => if tx a = 32 then (match pe (a + 1) t with
      | .inr e => .inr e
      | .inl (c, a2, t2) => pMore pe n k a2 (tPart t2 n c)) else pClose tx n a t
def pArgs (pe : Nat → tS → PR) (n : Nat) : Nat → Nat → tS → PR
  | 0, a, t => pClose tx n a t
  | k + 1, a, t => if tx a = 32 then (match pe (a + 1) t with
      | .inr e => .inr e
      | .inl (c, a2, t2) => pArgs pe n k a2 (tPart t2 n c)) else .inr (a, t)
def pDg : Nat → Nat → Int32 → Nat × Int32
  | 0, a, v => (a, v)
  | k + 1, a, v => if cD (tx a) then pDg k (a + 1) (Int32.ofInt 10 * v + nI (tx a) - Int32.ofInt 48) else (a, v)
def pA1 (a : Nat) : Nat := if tx a = 45 then a + 1 else a
def pVal (a : Nat) : Int32 := if tx a = 45 then -(pDg tx 4 (pA1 tx a) 0).2 else (pDg tx 4 (pA1 tx a) 0).2
def pNum (a : Nat) (t : tS) : PR := if cD (tx (pA1 tx a)) then .inl (tn t, (pDg tx 4 (pA1 tx a) 0).1, tAdd t 1 (pVal tx a) (nI a)) else .inr (pA1 tx a, t)
def pAtom (a : Nat) (t : tS) : PR := if cL (tx a) then .inl (tn t, a + 1, tAdd t 2 (nI (tx a)) (nI a)) else pNum tx a t
def pDat : Nat → Nat → Nat → tS → PR
  | 0, _, a, t => .inr (a, t)
  | f + 1, d, a, t => if tx a = 40 then
      (if 9 ≤ d then .inr (a, tAdd t 3 0 (nI a)) else if tx (a + 1) = 41 then .inl (tn t, a + 1 + 1, tAdd t 3 0 (nI a)) else
        match pDat f (d + 1) (a + 1) (tAdd t 3 0 (nI a)) with
        | .inr e => .inr e
        | .inl (c, a2, t2) => pMore tx (pDat f (d + 1)) (tn t) 95 a2 (tPart t2 (tn t) c))
    else pAtom tx a t
def pLet (p a : Nat) (t : tS) : PU := if cL (tx a) = true ∧ tPl t (nI (tx a)) 96 (tEn t (tF t) (some p)) = none then .inl (a + 1, tPart (tAdd t 2 (nI (tx a)) (nI a)) p (tn t)) else .inr (a, t)
def pLs (p : Nat) : Nat → Nat → tS → PR
  | 0, a, t => pClose tx p a t
  | k + 1, a, t => if tx a = 32 then (match pLet tx p (a + 1) t with
      | .inr e => .inr e
      | .inl (a2, t2) => pLs p k a2 t2) else pClose tx p a t
def pPar (d a : Nat) (t : tS) : PR := if d < 9 ∧ tx a = 40 then
    (if tx (a + 1) = 41 then .inl (tn t, a + 1 + 1, tAdd t 7 0 (nI a)) else match pLet tx (tn t) (a + 1) (tAdd t 7 0 (nI a)) with
      | .inr e => .inr e
      | .inl (a2, t2) => pLs tx (tn t) 2 a2 t2)
  else .inr (a, tAdd t 7 0 (nI a))
def pFun (pe : Nat → tS → PR) (d a : Nat) (t : tS) : PR := if tx a = 92 then
    (if tx (a + 1) = 32 then (match pPar tx d (a + 1 + 1) (tAdd t 6 0 (nI a)) with
      | .inr e => .inr e
      | .inl (p, a2, t2) => if tx a2 = 32 then (match pe (a2 + 1) (tPart t2 (tn t) p) with
        | .inr e => .inr e
        | .inl (c, a4, t4) => pClose tx (tn t) a4 (tPart t4 (tn t) c)) else .inr (a2, tPart t2 (tn t) p))
    else .inr (a + 1, tAdd t 6 0 (nI a)))
  else .inr (a, tAdd t 6 0 (nI a))
def pBv (pe pf : Nat → tS → PR) (d n a : Nat) (t : tS) : PR := if tEi t (tK t) (some n) = 9 then (if d + 1 < 9 ∧ tx a = 40 then pf (a + 1) t else .inr (a, t)) else pe a t
def pBind (pe pf : Nat → tS → PR) (d n a : Nat) (t : tS) : PU := if d < 9 ∧ tx a = 40 then
    (if cL (tx (a + 1)) = true ∧ tPl t (nI (tx (a + 1))) 96 (tPt t 1 (tEn t (tF t) (some n))) = none then
      (if tx (a + 1 + 1) = 32 then
        (match pBv tx pe pf d n (a + 1 + 1 + 1) (tAdd t 10 (nI (tx (a + 1))) (nI (a + 1))) with
        | .inr e => .inr e
        | .inl (c, a2, t2) => if tx a2 = 41 then .inl (a2 + 1, tPart (tPart t2 (tn t) c) n (tn t)) else .inr (a2, tPart t2 (tn t) c))
      else .inr (a + 1 + 1, tAdd t 10 (nI (tx (a + 1))) (nI (a + 1))))
    else .inr (a + 1, t))
  else .inr (a, t)
def pBs (pb : Nat → tS → PU) (n : Nat) : Nat → Nat → tS → PR
  | 0, a, t => pClose tx n a t
  | k + 1, a, t => if tx a = 32 then (match pb (a + 1) t with
      | .inr e => .inr e
      | .inl (a2, t2) => pBs pb n k a2 t2) else pClose tx n a t
def pBou (pe : Nat → tS → PR) (pb : Nat → Nat → tS → PU) (kd : Int32) (a : Nat) (t : tS) : PR := if tx (a + 1) = 32 then
    (match pe (a + 1 + 1) (tAdd t kd 0 (nI a)) with
    | .inr e => .inr e
    | .inl (c, a2, t2) => if tx a2 = 32 then (match pb (tn t) (a2 + 1) (tPart t2 (tn t) c) with
      | .inr e => .inr e
      | .inl (a4, t4) => pBs tx (pb (tn t)) (tn t) 2 a4 t4) else .inr (a2, tPart t2 (tn t) c))
  else .inr (a + 1, tAdd t kd 0 (nI a))
def pCall (pe : Nat → tS → PR) (a : Nat) (t : tS) : PR := match pe a (tAdd t 11 0 (nI a)) with
  | .inr e => .inr e
  | .inl (c, a2, t2) => pMore tx pe (tn t) 3 a2 (tPart t2 (tn t) c)
def opN (o : Nat) : Nat := if o = 8 then 3 else if o ≤ 12 then 1 else 2
def pOp (pe : Nat → tS → PR) (o a : Nat) (t : tS) : PR := pArgs tx pe (tn t) (opN o) (a + 1) (tAdd t 5 (nI o) (nI a))
def sgl : List Nat := [94, 95, 33, 46, 61, 43, 45, 42, 60]
def fdx (c : Nat) : Nat → Nat → Option Nat
  | 0, _ => none
  | k + 1, i => if sgl.getD i 0 = c then some i else fdx c k (i + 1)
def opO (c : Nat) : Option Nat := if c = 63 then some 8 else (fdx c 9 0).map (10 + ·)
def pBra (pe pe2 pe3 : Nat → tS → PR) (d a : Nat) (t : tS) : PR :=
  if tx a = 92 then pFun tx pe d a t
  else if tx a = 58 ∨ tx a = 59 then pBou tx pe (pBind tx pe2 (pFun tx pe3 (d + 2)) d) (if tx a = 59 then 9 else 8) a t
  else match opO (tx a) with
    | none => pCall tx pe a t
    | some o => if tx a = 45 ∧ cD (tx (a + 1)) = true then pCall tx pe a t else pOp tx pe o a t
def pEx : Nat → Nat → Nat → tS → PR
  | 0, _, a, t => .inr (a, t)
  | f + 1, d, a, t => if tx a = 40 then (if d < 9 then pBra tx (pEx f (d + 1)) (pEx f (d + 2)) (pEx f (d + 3)) (d + 1) (a + 1) t else .inr (a, t))
    else if tx a = 39 then (match pDat tx 11 d (a + 1) (tAdd t 4 0 (nI a)) with
      | .inr e => .inr e
      | .inl (c, a2, t2) => .inl (tn t, a2, tPart t2 (tn t) c))
    else pAtom tx a t
def gd (len n : Nat) : PR → Prop
  | .inl (nd, a, t) => nd = n ∧ tOK t ∧ n < tn t ∧ tn t ≤ a ∧ a ≤ len
  | .inr (a, t) => tOK t ∧ n ≤ tn t ∧ a ≤ len
def gu (len n : Nat) : PU → Prop
  | .inl (a, t) => tOK t ∧ n ≤ tn t ∧ tn t ≤ a ∧ a ≤ len
  | .inr (a, t) => tOK t ∧ n ≤ tn t ∧ a ≤ len
def GE (len : Nat) (pe : Nat → tS → PR) : Prop := ∀ a t, tOK t → tn t ≤ a → a ≤ len → gd len (tn t) (pe a t)
variable {tx} {X : Nat → Int32} {len : Nat}
theorem tn_add {t : tS} {k v p : Int32} : tn (tAdd t k v p) = tn t + 1 := rfl
theorem g_close (hx : txOK X len tx) {n a : Nat} {t : tS} (ht : tOK t) (hn : n < tn t) (ha : tn t ≤ a) (hl : a ≤ len) : gd len n (pClose tx n a t) := by
  unfold pClose
  split
  · next h =>
    have := hx.lt (a := a) (by omega)
    exact ⟨rfl, ht, hn, by omega, by omega⟩
  · exact ⟨ht, by omega, hl⟩
theorem g_more (hx : txOK X len tx) {pe : Nat → tS → PR} (hp : GE len pe) {n : Nat} : ∀ (k a : Nat) (t : tS), tOK t → n < tn t → tn t ≤ a → a ≤ len → gd len n (pMore tx pe n k a t)
  | 0, a, t, ht, hn, ha, hl => g_close hx ht hn ha hl
  | k + 1, a, t, ht, hn, ha, hl => by
    unfold pMore
    split
    · next h =>
      have h1 := hx.lt (a := a) (by omega)
      have hg := hp (a + 1) t ht (by omega) (by omega)
      have h96 := hx.1
      generalize pe (a + 1) t = r at hg
      rcases r with ⟨c, a2, t2⟩ | ⟨a2, t2⟩
      · obtain ⟨rfl, g1, g2, g3, g4⟩ := hg
        refine g_more hx hp k a2 _ (tOK_part g1 (by omega)) ?_ ?_ g4
        · rw [tn_part]; omega
        · rw [tn_part]; exact g3
      · obtain ⟨g1, g2, g3⟩ := hg
        exact ⟨g1, by omega, g3⟩
    · exact g_close hx ht hn ha hl
theorem g_args (hx : txOK X len tx) {pe : Nat → tS → PR} (hp : GE len pe) {n : Nat} : ∀ (k a : Nat) (t : tS), tOK t → n < tn t → tn t ≤ a → a ≤ len → gd len n (pArgs tx pe n k a t)
  | 0, a, t, ht, hn, ha, hl => g_close hx ht hn ha hl
  | k + 1, a, t, ht, hn, ha, hl => by
    unfold pArgs
    split
    · next h =>
      have h1 := hx.lt (a := a) (by omega)
      have hg := hp (a + 1) t ht (by omega) (by omega)
      have h96 := hx.1
      generalize pe (a + 1) t = r at hg
      rcases r with ⟨c, a2, t2⟩ | ⟨a2, t2⟩
      · obtain ⟨rfl, g1, g2, g3, g4⟩ := hg
        refine g_args hx hp k a2 _ (tOK_part g1 (by omega)) ?_ ?_ g4
        · rw [tn_part]; omega
        · rw [tn_part]; exact g3
      · obtain ⟨g1, g2, g3⟩ := hg
        exact ⟨g1, by omega, g3⟩
    · exact ⟨ht, by omega, hl⟩
theorem g_dg (hx : txOK X len tx) : ∀ (k a : Nat) (v : Int32), a ≤ len → a ≤ (pDg tx k a v).1 ∧ (pDg tx k a v).1 ≤ len
  | 0, a, v, hl => ⟨Nat.le_refl _, hl⟩
  | k + 1, a, v, hl => by
    unfold pDg
    split
    · next h =>
      have h1 := hx.lt (a := a) (fun e => by rw [e] at h; exact absurd h (by decide))
      have := g_dg hx k (a + 1) (Int32.ofInt 10 * v + nI (tx a) - Int32.ofInt 48) (by omega)
      omega
    · exact ⟨Nat.le_refl _, hl⟩
theorem g_num (hx : txOK X len tx) : GE len (pNum tx) := by
  intro a t ht hn hl
  have h96 := hx.1
  have ha1 : a ≤ pA1 tx a ∧ pA1 tx a ≤ len := by
    unfold pA1
    split
    · next h =>
      have := hx.lt (a := a) (by omega)
      omega
    · omega
  unfold pNum
  split
  · next h =>
    have h1 := hx.lt (a := pA1 tx a) (fun e => by rw [e] at h; exact absurd h (by decide))
    have h2 : (pDg tx 4 (pA1 tx a) 0).1 = (pDg tx 3 (pA1 tx a + 1) (Int32.ofInt 10 * 0 + nI (tx (pA1 tx a)) - Int32.ofInt 48)).1 := by
      show (pDg tx (3 + 1) (pA1 tx a) 0).1 = _
      rw [pDg, if_pos h]
    have h3 := g_dg hx 3 (pA1 tx a + 1) (Int32.ofInt 10 * 0 + nI (tx (pA1 tx a)) - Int32.ofInt 48) (by omega)
    rw [← h2] at h3
    exact ⟨rfl, tOK_add ht (by omega), by rw [tn_add]; omega, by rw [tn_add]; omega, h3.2⟩
  · exact ⟨ht, Nat.le_refl _, ha1.2⟩
theorem cL_ne {c : Nat} (h : cL c = true) : ¬ c = 0 := fun e => by rw [e] at h; exact absurd h (by decide)
theorem g_atom (hx : txOK X len tx) : GE len (pAtom tx) := by
  intro a t ht hn hl
  have h96 := hx.1
  unfold pAtom
  split
  · next h =>
    have h1 := hx.lt (cL_ne h)
    exact ⟨rfl, tOK_add ht (by omega) (fun _ => ⟨_, by have := hx.le a; omega, rfl⟩), by rw [tn_add]; omega, by rw [tn_add]; omega, by omega⟩
  · exact g_num hx a t ht hn hl
theorem g_dat (hx : txOK X len tx) : ∀ f d, GE len (pDat tx f d)
  | 0, d, a, t, ht, hn, hl => ⟨ht, Nat.le_refl _, hl⟩
  | f + 1, d, a, t, ht, hn, hl => by
    have h96 := hx.1
    unfold pDat
    split
    · next h =>
      have h1 := hx.lt (a := a) (by omega)
      have ht1 : tOK (tAdd t 3 0 (nI a)) := tOK_add ht (by omega)
      split
      · exact ⟨ht1, by rw [tn_add]; omega, hl⟩
      · split
        · next h2 =>
          have := hx.lt (a := a + 1) (by omega)
          exact ⟨rfl, ht1, by rw [tn_add]; omega, by rw [tn_add]; omega, by omega⟩
        · have hg := g_dat hx f (d + 1) (a + 1) (tAdd t 3 0 (nI a)) ht1 (by rw [tn_add]; omega) (by omega)
          rw [tn_add] at hg
          generalize pDat tx f (d + 1) (a + 1) (tAdd t 3 0 (nI a)) = r at hg
          rcases r with ⟨c, a2, t2⟩ | ⟨a2, t2⟩
          · obtain ⟨rfl, g1, g2, g3, g4⟩ := hg
            exact g_more hx (g_dat hx f (d + 1)) 95 a2 _ (tOK_part g1 (by omega)) (by rw [tn_part]; omega) (by rw [tn_part]; exact g3) g4
          · obtain ⟨g1, g2, g3⟩ := hg
            exact ⟨g1, by omega, g3⟩
    · exact g_atom hx a t ht hn hl
theorem g_let (hx : txOK X len tx) {p a : Nat} {t : tS} (ht : tOK t) (hn : tn t ≤ a) (hl : a ≤ len) : gu len (tn t) (pLet tx p a t) := by
  have h96 := hx.1
  unfold pLet
  split
  · next h =>
    have h1 := hx.lt (cL_ne h.1)
    exact ⟨tOK_part (tOK_add ht (by omega) (fun _ => ⟨_, by have := hx.le a; omega, rfl⟩)) (by omega), by rw [tn_part, tn_add]; omega, by rw [tn_part, tn_add]; omega, by omega⟩
  · exact ⟨ht, Nat.le_refl _, hl⟩
theorem g_ls (hx : txOK X len tx) {p : Nat} : ∀ (k a : Nat) (t : tS), tOK t → p < tn t → tn t ≤ a → a ≤ len → gd len p (pLs tx p k a t)
  | 0, a, t, ht, hn, ha, hl => g_close hx ht hn ha hl
  | k + 1, a, t, ht, hn, ha, hl => by
    unfold pLs
    split
    · next h =>
      have h1 := hx.lt (a := a) (by omega)
      have hg := g_let hx (p := p) (a := a + 1) ht (by omega) (by omega)
      generalize pLet tx p (a + 1) t = r at hg
      rcases r with ⟨a2, t2⟩ | ⟨a2, t2⟩
      · obtain ⟨g1, g2, g3, g4⟩ := hg
        exact g_ls hx k a2 t2 g1 (by omega) g3 g4
      · obtain ⟨g1, g2, g3⟩ := hg
        exact ⟨g1, by omega, g3⟩
    · exact g_close hx ht hn ha hl
theorem g_par (hx : txOK X len tx) {d a : Nat} {t : tS} (ht : tOK t) (hn : tn t + 2 ≤ a) (hl : a ≤ len) : gd len (tn t) (pPar tx d a t) := by
  have h96 := hx.1
  have ht1 : tOK (tAdd t 7 0 (nI a)) := tOK_add ht (by omega)
  unfold pPar
  split
  · next h =>
    have h1 := hx.lt (a := a) (by omega)
    split
    · next h2 =>
      have := hx.lt (a := a + 1) (by omega)
      exact ⟨rfl, ht1, by rw [tn_add]; omega, by rw [tn_add]; omega, by omega⟩
    · have hg := g_let hx (p := tn t) (a := a + 1) ht1 (by rw [tn_add]; omega) (by omega)
      rw [tn_add] at hg
      generalize pLet tx (tn t) (a + 1) (tAdd t 7 0 (nI a)) = r at hg
      rcases r with ⟨a2, t2⟩ | ⟨a2, t2⟩
      · obtain ⟨g1, g2, g3, g4⟩ := hg
        exact g_ls hx 2 a2 t2 g1 (by omega) g3 g4
      · obtain ⟨g1, g2, g3⟩ := hg
        exact ⟨g1, by omega, g3⟩
  · exact ⟨ht1, by rw [tn_add]; omega, hl⟩
theorem g_fun (hx : txOK X len tx) {pe : Nat → tS → PR} (hp : GE len pe) {d a : Nat} {t : tS} (ht : tOK t) (hn : tn t + 1 ≤ a) (hl : a ≤ len) : gd len (tn t) (pFun tx pe d a t) := by
  have h96 := hx.1
  have ht1 : tOK (tAdd t 6 0 (nI a)) := tOK_add ht (by omega)
  unfold pFun
  split
  · next h =>
    have h1 := hx.lt (a := a) (by omega)
    split
    · next h2 =>
      have h3 := hx.lt (a := a + 1) (by omega)
      have hg := g_par hx (d := d) (a := a + 1 + 1) ht1 (by rw [tn_add]; omega) (by omega)
      rw [tn_add] at hg
      generalize pPar tx d (a + 1 + 1) (tAdd t 6 0 (nI a)) = r at hg
      rcases r with ⟨c, a2, t2⟩ | ⟨a2, t2⟩
      · obtain ⟨rfl, g1, g2, g3, g4⟩ := hg
        have ht2 : tOK (tPart t2 (tn t) (tn t + 1)) := tOK_part g1 (by omega)
        show gd len (tn t) (if tx a2 = 32 then _ else _)
        split
        · next h4 =>
          have h5 := hx.lt (a := a2) (by omega)
          have hg2 := hp (a2 + 1) _ ht2 (by rw [tn_part]; omega) (by omega)
          rw [tn_part] at hg2
          generalize pe (a2 + 1) (tPart t2 (tn t) (tn t + 1)) = r2 at hg2
          rcases r2 with ⟨c, a4, t4⟩ | ⟨a4, t4⟩
          · obtain ⟨rfl, g5, g6, g7, g8⟩ := hg2
            exact g_close hx (tOK_part g5 (by omega)) (by rw [tn_part]; omega) (by rw [tn_part]; exact g7) g8
          · obtain ⟨g5, g6, g7⟩ := hg2
            exact ⟨g5, by omega, g7⟩
        · exact ⟨ht2, by rw [tn_part]; omega, g4⟩
      · obtain ⟨g1, g2, g3⟩ := hg
        exact ⟨g1, by omega, g3⟩
    · exact ⟨ht1, by rw [tn_add]; omega, by omega⟩
  · exact ⟨ht1, by rw [tn_add]; omega, hl⟩
theorem g_bv (hx : txOK X len tx) {pe pf : Nat → tS → PR} (hp : GE len pe) (hf : ∀ a t, tOK t → tn t + 1 ≤ a → a ≤ len → gd len (tn t) (pf a t)) {d n a : Nat} {t : tS} (ht : tOK t) (hn : tn t ≤ a) (hl : a ≤ len) : gd len (tn t) (pBv tx pe pf d n a t) := by
  unfold pBv
  split
  · split
    · next h =>
      have h1 := hx.lt (a := a) (by omega)
      exact hf _ _ ht (by omega) (by omega)
    · exact ⟨ht, Nat.le_refl _, hl⟩
  · exact hp _ _ ht hn hl
theorem g_bind (hx : txOK X len tx) {pe pf : Nat → tS → PR} (hp : GE len pe) (hf : ∀ a t, tOK t → tn t + 1 ≤ a → a ≤ len → gd len (tn t) (pf a t)) {d n a : Nat} {t : tS} (ht : tOK t) (hn : tn t ≤ a) (hl : a ≤ len) : gu len (tn t) (pBind tx pe pf d n a t) := by
  have h96 := hx.1
  unfold pBind
  split
  · next h =>
    have h1 := hx.lt (a := a) (by omega)
    split
    · next h2 =>
      have h3 := hx.lt (cL_ne h2.1)
      have ht1 : tOK (tAdd t 10 (nI (tx (a + 1))) (nI (a + 1))) := tOK_add ht (by omega)
      split
      · next h4 =>
        have h5 := hx.lt (a := a + 1 + 1) (by omega)
        have hg := g_bv hx hp hf (d := d) (n := n) (a := a + 1 + 1 + 1) ht1 (by rw [tn_add]; omega) (by omega)
        rw [tn_add] at hg
        generalize pBv tx pe pf d n (a + 1 + 1 + 1) (tAdd t 10 (nI (tx (a + 1))) (nI (a + 1))) = r at hg
        rcases r with ⟨c, a2, t2⟩ | ⟨a2, t2⟩
        · obtain ⟨rfl, g1, g2, g3, g4⟩ := hg
          have ht2 : tOK (tPart t2 (tn t) (tn t + 1)) := tOK_part g1 (by omega)
          show gu len (tn t) (if tx a2 = 41 then _ else _)
          split
          · next h6 =>
            have h7 := hx.lt (a := a2) (by omega)
            exact ⟨tOK_part ht2 (by omega), by rw [tn_part, tn_part]; omega, by rw [tn_part, tn_part]; omega, by omega⟩
          · exact ⟨ht2, by rw [tn_part]; omega, g4⟩
        · obtain ⟨g1, g2, g3⟩ := hg
          exact ⟨g1, by omega, g3⟩
      · exact ⟨ht1, by rw [tn_add]; omega, by omega⟩
    · exact ⟨ht, Nat.le_refl _, by omega⟩
  · exact ⟨ht, Nat.le_refl _, hl⟩
theorem g_bs (hx : txOK X len tx) {pb : Nat → tS → PU} (hp : ∀ a t, tOK t → tn t ≤ a → a ≤ len → gu len (tn t) (pb a t)) {n : Nat} : ∀ (k a : Nat) (t : tS), tOK t → n < tn t → tn t ≤ a → a ≤ len → gd len n (pBs tx pb n k a t)
  | 0, a, t, ht, hn, ha, hl => g_close hx ht hn ha hl
  | k + 1, a, t, ht, hn, ha, hl => by
    unfold pBs
    split
    · next h =>
      have h1 := hx.lt (a := a) (by omega)
      have hg := hp (a + 1) t ht (by omega) (by omega)
      generalize pb (a + 1) t = r at hg
      rcases r with ⟨a2, t2⟩ | ⟨a2, t2⟩
      · obtain ⟨g1, g2, g3, g4⟩ := hg
        exact g_bs hx hp k a2 t2 g1 (by omega) g3 g4
      · obtain ⟨g1, g2, g3⟩ := hg
        exact ⟨g1, by omega, g3⟩
    · exact g_close hx ht hn ha hl
theorem g_bou (hx : txOK X len tx) {pe : Nat → tS → PR} {pb : Nat → Nat → tS → PU} (hp : GE len pe) (hb : ∀ n a t, tOK t → tn t ≤ a → a ≤ len → gu len (tn t) (pb n a t)) {kd : Int32} (hkd : ¬ kd = 2) {a : Nat} {t : tS} (ht : tOK t) (hn : tn t + 1 ≤ a) (hl : a ≤ len) (h0 : ¬ tx a = 0) : gd len (tn t) (pBou tx pe pb kd a t) := by
  have h96 := hx.1
  have ht1 : tOK (tAdd t kd 0 (nI a)) := tOK_add ht (by omega) (fun h => absurd h hkd)
  have h9 := hx.lt h0
  unfold pBou
  split
  · next h =>
    have h1 := hx.lt (a := a + 1) (by omega)
    have hg := hp (a + 1 + 1) _ ht1 (by rw [tn_add]; omega) (by omega)
    rw [tn_add] at hg
    generalize pe (a + 1 + 1) (tAdd t kd 0 (nI a)) = r at hg
    rcases r with ⟨c, a2, t2⟩ | ⟨a2, t2⟩
    · obtain ⟨rfl, g1, g2, g3, g4⟩ := hg
      have ht2 : tOK (tPart t2 (tn t) (tn t + 1)) := tOK_part g1 (by omega)
      show gd len (tn t) (if tx a2 = 32 then _ else _)
      split
      · next h4 =>
        have h5 := hx.lt (a := a2) (by omega)
        have hg2 := hb (tn t) (a2 + 1) _ ht2 (by rw [tn_part]; omega) (by omega)
        rw [tn_part] at hg2
        generalize pb (tn t) (a2 + 1) (tPart t2 (tn t) (tn t + 1)) = r2 at hg2
        rcases r2 with ⟨a4, t4⟩ | ⟨a4, t4⟩
        · obtain ⟨g5, g6, g7, g8⟩ := hg2
          exact g_bs hx (hb (tn t)) 2 a4 t4 g5 (by omega) g7 g8
        · obtain ⟨g5, g6, g7⟩ := hg2
          exact ⟨g5, by omega, g7⟩
      · exact ⟨ht2, by rw [tn_part]; omega, g4⟩
    · obtain ⟨g1, g2, g3⟩ := hg
      exact ⟨g1, by omega, g3⟩
  · exact ⟨ht1, by rw [tn_add]; omega, by omega⟩
theorem g_call (hx : txOK X len tx) {pe : Nat → tS → PR} (hp : GE len pe) {a : Nat} {t : tS} (ht : tOK t) (hn : tn t + 1 ≤ a) (hl : a ≤ len) : gd len (tn t) (pCall tx pe a t) := by
  have h96 := hx.1
  have hg := hp a _ (tOK_add (k := 11) (v := 0) (p := nI a) ht (by omega)) (by rw [tn_add]; omega) hl
  rw [tn_add] at hg
  unfold pCall
  generalize pe a (tAdd t 11 0 (nI a)) = r at hg
  rcases r with ⟨c, a2, t2⟩ | ⟨a2, t2⟩
  · obtain ⟨rfl, g1, g2, g3, g4⟩ := hg
    exact g_more hx hp 3 a2 _ (tOK_part g1 (by omega)) (by rw [tn_part]; omega) (by rw [tn_part]; exact g3) g4
  · obtain ⟨g1, g2, g3⟩ := hg
    exact ⟨g1, by omega, g3⟩
theorem g_op (hx : txOK X len tx) {pe : Nat → tS → PR} (hp : GE len pe) {o a : Nat} {t : tS} (ht : tOK t) (hn : tn t + 1 ≤ a) (hl : a < len) : gd len (tn t) (pOp tx pe o a t) := by
  have h96 := hx.1
  exact g_args hx hp _ _ _ (tOK_add ht (by omega)) (by rw [tn_add]; omega) (by rw [tn_add]; omega) (by omega)
theorem opO_0 : opO 0 = none := by decide
theorem g_bra (hx : txOK X len tx) {pe pe2 pe3 : Nat → tS → PR} (h1 : GE len pe) (h2 : GE len pe2) (h3 : GE len pe3) {d a : Nat} {t : tS} (ht : tOK t) (hn : tn t + 1 ≤ a) (hl : a ≤ len) : gd len (tn t) (pBra tx pe pe2 pe3 d a t) := by
  unfold pBra
  split
  · exact g_fun hx h1 ht hn hl
  · split
    · next h =>
      exact g_bou hx h1 (hkd := by split <;> decide) (fun n a t g1 g2 g3 => g_bind hx h2 (fun a t q1 q2 q3 => g_fun hx h3 q1 q2 q3) g1 g2 g3) ht hn hl (by omega)
    · split
      · exact g_call hx h1 ht hn hl
      · next o ho =>
        have h0 : ¬ tx a = 0 := fun e => by rw [e, opO_0] at ho; cases ho
        split
        · exact g_call hx h1 ht hn hl
        · exact g_op hx h1 ht hn (hx.lt h0)
theorem g_ex (hx : txOK X len tx) : ∀ f d, GE len (pEx tx f d)
  | 0, d, a, t, ht, hn, hl => ⟨ht, Nat.le_refl _, hl⟩
  | f + 1, d, a, t, ht, hn, hl => by
    have h96 := hx.1
    unfold pEx
    split
    · next h =>
      have h1 := hx.lt (a := a) (by omega)
      split
      · exact g_bra hx (g_ex hx f (d + 1)) (g_ex hx f (d + 2)) (g_ex hx f (d + 3)) ht (by omega) (by omega)
      · exact ⟨ht, Nat.le_refl _, hl⟩
    · split
      · next h2 =>
        have h1 := hx.lt (a := a) (by omega)
        have hg := g_dat hx 11 d (a + 1) _ (tOK_add (k := 4) (v := 0) (p := nI a) ht (by omega)) (by rw [tn_add]; omega) (by omega)
        rw [tn_add] at hg
        generalize pDat tx 11 d (a + 1) (tAdd t 4 0 (nI a)) = r at hg
        rcases r with ⟨c, a2, t2⟩ | ⟨a2, t2⟩
        · obtain ⟨rfl, g1, g2, g3, g4⟩ := hg
          exact ⟨rfl, tOK_part g1 (by omega), by rw [tn_part]; omega, by rw [tn_part]; exact g3, g4⟩
        · obtain ⟨g1, g2, g3⟩ := hg
          exact ⟨g1, by omega, g3⟩
      · exact g_atom hx a t ht hn hl
end RD
end
section
def rq (Q : mj_R → Prop) (o0 : mj_O) (X : Nat → Int32) (len : Nat) (tl : List mj_O) (b0 b1 : Nat) (op : Bool) : PR → Prop
  | .inl (nd, a, t) => Q (.inl (some (.int (nI nd))), (rdW o0 t X len a tl, b0 + 1, b1, op))
  | .inr (a, t) => Q (.inr 0, (rdW o0 t X len a tl, b0, b1 - 6, false))
def ru (Q : mj_R → Prop) (o0 : mj_O) (X : Nat → Int32) (len : Nat) (tl : List mj_O) (b0 b1 : Nat) (op : Bool) : PU → Prop
  | .inl (a, t) => Q (.inl none, (rdW o0 t X len a tl, b0 + 1, b1, op))
  | .inr (a, t) => Q (.inr 0, (rdW o0 t X len a tl, b0, b1 - 6, false))
section P2g
variable {m b0 b1 : Nat} {op : Bool} {tl : List mj_O} {Q : mj_R → Prop} {xs : List Int32}
variable {o0 : mj_O} {t : tS} {X : Nat → Int32} {len a : Nat} {tx : Nat → Nat}
set_option maxRecDepth 10000
theorem x_codeAtX {x : Int32} {a9 : Nat} {y : Int32} (hy : y = nI a9) (hx : txOK X len tx) (ha : a9 < 1000) (hQ : Q (.inl (some (.int (nI (tx a9)))), (rdX o0 t X len x tl, b0, b1, op))) : mj_Mt gT (law_cst xs) gnw (m + 1) y_Text_codeAt [.ref 8, .int y] (rdX o0 t X len x tl, b0, b1, op) Q := by
  subst hy
  have hl := hx.1
  intro J hJ
  refine hJ _ _ _ _ ?_
  refine And.intro (fun g => absurd g (nI_pos (by omega))) (fun _ => ?_)
  refine And.intro (fun (g : nI len ≤ nI a9) => ?_) (fun (g : ¬ nI len ≤ nI a9) => ?_)
  · have h1 := (nI_leI (by omega) (by omega)).mp g
    rw [hx.2.2 a9 h1] at hQ
    exact hQ
  · have h1 : a9 < len := Nat.lt_of_not_le (fun q => g (nI_le q (by omega)))
    refine And.intro (vp_in_nI (by omega) (by decide)) ?_
    rw [← (hx.2.1 a9 h1).1] at hQ
    have key : ∀ j, j = a9 → Q (.inl (some (.int (X j))), (rdX o0 t X len x tl, b0, b1, op)) := by
      rintro j rfl
      exact hQ
    exact key _ (nI_clamp (by omega))
theorem q_need {c : Nat} {y : Int32} (hy : y = nI c) (hx : txOK X len tx) (ha : a < 1000) (hc : c ≤ 126) (h6 : 6 ≤ b1) (h1 : tx a = c → Q (.inl none, (rdW o0 t X len (a + 1) tl, b0 + 1, b1, op))) (h2 : ¬ tx a = c → Q (.inr 0, (rdW o0 t X len a tl, b0, b1 - 6, false))) : mj_Mt gT (law_cst xs) gnw (m + 2) y_Reader_need [.ref 10, .int y] (rdW o0 t X len a tl, b0 + 1, b1, op) Q := by
  subst hy
  have hle := hx.le a
  intro J hJ
  refine hJ _ _ _ _ ?_
  refine x_codeAt rfl hx ha ?_
  refine And.intro (fun g => ?_) (fun g => ?_)
  · have key : ∀ x : Int32, x = nI (a + 1) → Q (.inl none, (rdX o0 t X len x tl, b0 + 1, b1, op)) := by
      rintro x rfl
      exact h1 ((nI_eq (by omega) (by omega)).mp g)
    exact key _ (nI_1 a)
  · refine q_fail h6 ?_
    exact h2 (fun e => g (by rw [e]))
theorem q_open {d : Nat} {y : Int32} (hy : y = nI d) (hx : txOK X len tx) (ha : a < 1000) (hd : d < 1000) (h6 : 6 ≤ b1) (h1 : d < 9 → tx a = 40 → Q (.inl none, (rdW o0 t X len (a + 1) tl, b0 + 1, b1, op))) (h2 : ¬ (d < 9 ∧ tx a = 40) → Q (.inr 0, (rdW o0 t X len a tl, b0, b1 - 6, false))) : mj_Mt gT (law_cst xs) gnw (m + 3) y_Reader_open [.ref 10, .int y] (rdW o0 t X len a tl, b0 + 1, b1, op) Q := by
  subst hy
  intro J hJ
  refine hJ _ _ _ _ ?_
  refine And.intro (fun (g : nI d < nI 9) => ?_) (fun (g : ¬ nI d < nI 9) => ?_)
  · have hd9 := (nI_ltI (by omega) (by decide)).mp g
    refine q_need (c := 40) rfl hx ha (by decide) h6 (fun h => ?_) (fun h => ?_)
    · exact h1 hd9 h
    · exact h2 (fun q => h q.2)
  · have hd9 : 9 ≤ d := Nat.le_of_not_lt (fun q => g (nI_lt q (by decide)))
    refine q_fail h6 ?_
    exact h2 (fun q => by omega)
theorem q_among {o : Option Nat} {y : Int32} (hy : y = oV o) (hx : txOK X len tx) (ha : a < 1000) (ht : tOK t) (ho : ∀ i, o = some i → i < 1000) (h6 : 6 ≤ b1) (h1 : cL (tx a) = true → tPl t (nI (tx a)) 96 o = none → Q (.inl (some (.int (nI (tx a)))), (rdW o0 t X len a tl, b0 + 1, b1, op))) (h2 : ¬ (cL (tx a) = true ∧ tPl t (nI (tx a)) 96 o = none) → Q (.inr 0, (rdW o0 t X len a tl, b0, b1 - 6, false))) : mj_Mt gT (law_cst xs) gnw (m + 2) y_Reader_letterNotAmong [.ref 10, .int y] (rdW o0 t X len a tl, b0 + 1, b1, op) Q := by
  have hle := hx.le a
  intro J hJ
  refine hJ _ _ _ _ ?_
  refine x_codeAt rfl hx ha ?_
  refine q_isLetter hle ?_
  cases hc : cL (tx a) with
  | false =>
    refine And.intro (fun _ => ?_) (fun g => absurd rfl g)
    refine q_fail h6 ?_
    exact h2 (fun q => by rw [hc] at q; cases q.1)
  | true =>
    refine And.intro (fun g => absurd g (by decide)) (fun _ => ?_)
    refine t_placeOf hy ht ho ?_
    cases hp : tPl t (nI (tx a)) 96 o with
    | none =>
      refine And.intro (fun _ => ?_) (fun g => absurd rfl g)
      exact h1 hc hp
    | some i =>
      refine And.intro (fun g => ?_) (fun _ => ?_)
      · have : ¬ oV (some i) = -1 := by
          by_cases hi : i < 2 ^ 31
          · exact oV_ne hi
          · exfalso
            have hb : ∀ (k : Nat) (o : Option Nat) (i : Nat), tPl t (nI (tx a)) k o = some i → i < k := by
              intro k
              induction k with
              | zero => intro o i e; cases e
              | succ k ih =>
                intro o i e
                cases o with
                | none => cases e
                | some q =>
                  unfold tPl at e
                  split at e
                  · split at e
                    · cases e; omega
                    · cases h9 : tPl t (nI (tx a)) k (tN t q) with
                      | none => rw [h9] at e; cases e
                      | some w =>
                        rw [h9] at e
                        have := ih _ _ h9
                        cases e
                        show w + 1 < k + 1
                        omega
                  · cases e
            have := hb 96 o i hp
            omega
        exact absurd g this
      · refine q_fail h6 ?_
        exact h2 (fun q => by rw [hp] at q; cases q.2)
theorem q_num (hx : txOK X len tx) (ht : tOK t) (hn : tn t ≤ a) (hl : a ≤ len) (h6 : 6 ≤ b1) (hQ : rq Q o0 X len tl b0 b1 op (pNum tx a t)) : mj_Mt gT (law_cst xs) gnw (m + 2) y_Reader_number [.ref 10] (rdW o0 t X len a tl, b0 + 1, b1, op) Q := by
  have h96 := hx.1
  have hle := hx.le a
  have hA : a ≤ pA1 tx a ∧ pA1 tx a ≤ a + 1 := by
    unfold pA1
    split <;> omega
  intro J hJ
  have fin : ∀ (F : Nat) (s2 : Int32) (v4 : Value) (a2 : Nat) (v : Int32), (∃ w, v4 = .int w) → a ≤ pA1 tx a → cD (tx (pA1 tx a)) = true → (s2 = 0 ∧ ¬ tx a = 45 ∨ s2 = 1 ∧ tx a = 45) → (a2, v) = pDg tx 4 (pA1 tx a) 0 → mj_sg (mj_Mt gT (law_cst xs) gnw (m + 1)) (law_cst xs) gnw (mj_hd (mj_off kO_Reader_number) kH_Reader_number) kC_Reader_number J Q (F + 30) false 64 [some (.ref 10), some (.int (nI a)), some (.int s2), some (.int v), some v4] [] (rdW o0 t X len a2 tl, b0 + 1, b1, op) := by
    rintro F s2 v4 a2 v ⟨w, rfl⟩ _ hd hs e
    have h1 := hx.lt (a := pA1 tx a) (fun e => by rw [e] at hd; exact absurd hd (by decide))
    unfold pNum at hQ
    rw [if_pos hd, ← e] at hQ
    rcases hs with ⟨rfl, hs⟩ | ⟨rfl, hs⟩
    · refine And.intro (fun _ => ?_) (fun g => absurd rfl g)
      refine t_add (by omega) ?_
      have ev : pVal tx a = v := by unfold pVal; rw [if_neg hs, ← e]
      rw [ev] at hQ
      exact hQ
    · refine And.intro (fun g => absurd g (by decide)) (fun _ => ?_)
      refine t_add (by omega) ?_
      have ev : pVal tx a = -v := by unfold pVal; rw [if_pos hs, ← e]
      rw [ev] at hQ
      exact hQ
  have loop : ∀ (s2 : Int32), cD (tx (pA1 tx a)) = true → (s2 = 0 ∧ ¬ tx a = 45 ∨ s2 = 1 ∧ tx a = 45) → ∀ (k i a2 : Nat) (v x : Int32), k + i = 4 → x = nI i → a2 ≤ a + 1 + i → pDg tx k a2 v = pDg tx 4 (pA1 tx a) 0 → J 34 [some (.ref 10), some (.int (nI a)), some (.int s2), some (.int v), some (.int x)] [] (rdW o0 t X len a2 tl, b0 + 1, b1, op) := by
    intro s2 hd hs k
    induction k with
    | zero =>
      intro i a2 v x hi hxi ha2 e
      subst hxi
      obtain rfl : i = 4 := by omega
      refine hJ _ _ _ _ ?_
      refine And.intro (fun _ => ?_) (fun g => absurd (by decide) g)
      exact fin _ s2 _ a2 v ⟨_, rfl⟩ hA.1 hd hs e
    | succ k ih =>
      intro i a2 v x hi hxi ha2 e
      subst hxi
      refine hJ _ _ _ _ ?_
      refine And.intro (fun g => absurd g (nI_ge (a := i) (b := 4) (by omega) (by decide))) (fun _ => ?_)
      refine x_codeAt rfl hx (by omega) ?_
      refine q_isDigit (hx.le a2) ?_
      cases hc : cD (tx a2) with
      | false =>
        refine And.intro (fun _ => ?_) (fun g => absurd rfl g)
        refine fin _ s2 _ a2 v ⟨_, rfl⟩ hA.1 hd hs ?_
        rw [← e, pDg, hc]
        rfl
      | true =>
        refine And.intro (fun g => absurd g (by decide)) (fun _ => ?_)
        refine x_codeAt rfl hx (by omega) ?_
        have key : ∀ (x y : Int32), x = nI (a2 + 1) → y = nI (i + 1) → J 34 [some (.ref 10), some (.int (nI a)), some (.int s2), some (.int (Int32.ofInt 10 * v + nI (tx a2) - Int32.ofInt 48)), some (.int y)] [] (rdX o0 t X len x tl, b0 + 1, b1, op) := by
          rintro x y rfl rfl
          refine ih (i + 1) (a2 + 1) _ _ (by omega) rfl (by omega) ?_
          rw [← e]
          show _ = pDg tx (k + 1) a2 v
          rw [pDg, hc]
          rfl
        exact key _ _ (nI_1 a2) (nI_1 i)
  have bad : cD (tx (pA1 tx a)) = false → ∀ x : Int32, x = nI (pA1 tx a) → Q (.inr 0, (rdX o0 t X len x tl, b0, b1 - 6, false)) := by
    rintro hc x rfl
    unfold pNum at hQ
    rw [hc] at hQ
    exact hQ
  have good : ∀ (s2 : Int32), cD (tx (pA1 tx a)) = true → (s2 = 0 ∧ ¬ tx a = 45 ∨ s2 = 1 ∧ tx a = 45) → ∀ x : Int32, x = nI (pA1 tx a) → J 34 [some (.ref 10), some (.int (nI a)), some (.int s2), some (.int 0), some (.int 0)] [] (rdX o0 t X len x tl, b0 + 1, b1, op) := by
    rintro s2 hc hs x rfl
    exact loop s2 hc hs 4 0 (pA1 tx a) 0 0 rfl rfl (by omega) rfl
  refine hJ _ _ _ _ ?_
  refine x_codeAt rfl hx (by omega) ?_
  refine And.intro (fun g => ?_) (fun g => ?_)
  · have h45 : ¬ tx a = 45 := fun e => g (by rw [e]; rfl)
    have e1 : pA1 tx a = a := by unfold pA1; rw [if_neg h45]
    refine And.intro (fun _ => ?_) (fun g => absurd rfl g)
    refine x_codeAtX (a9 := pA1 tx a) (by rw [e1]) hx (by omega) ?_
    refine q_isDigit (hx.le _) ?_
    cases hc : cD (tx (pA1 tx a)) with
    | false =>
      refine And.intro (fun g => absurd rfl g) (fun _ => ?_)
      refine q_fail h6 ?_
      exact bad hc _ (by rw [e1])
    | true =>
      refine And.intro (fun _ => ?_) (fun g => absurd g (by decide))
      exact good 0 hc (Or.inl ⟨rfl, h45⟩) _ (by rw [e1])
  · have h45 : tx a = 45 := (nI_eq (a := tx a) (b := 45) (by omega) (by decide)).mp g
    have e1 : pA1 tx a = a + 1 := by unfold pA1; rw [if_pos h45]
    have e2 : nI a + Int32.ofInt 1 = nI (pA1 tx a) := by rw [e1]; exact nI_1 a
    refine And.intro (fun g => absurd g (by decide)) (fun _ => ?_)
    refine x_codeAtX (a9 := pA1 tx a) e2 hx (by omega) ?_
    refine q_isDigit (hx.le _) ?_
    cases hc : cD (tx (pA1 tx a)) with
    | false =>
      refine And.intro (fun g => absurd rfl g) (fun _ => ?_)
      refine q_fail h6 ?_
      exact bad hc _ e2
    | true =>
      refine And.intro (fun _ => ?_) (fun g => absurd g (by decide))
      exact good 1 hc (Or.inr ⟨rfl, h45⟩) _ e2
theorem q_atom (hx : txOK X len tx) (ht : tOK t) (hn : tn t ≤ a) (hl : a ≤ len) (h6 : 6 ≤ b1) (hQ : rq Q o0 X len tl b0 b1 op (pAtom tx a t)) : mj_Mt gT (law_cst xs) gnw (m + 3) y_Reader_atom [.ref 10] (rdW o0 t X len a tl, b0 + 1, b1, op) Q := by
  have h96 := hx.1
  unfold pAtom at hQ
  intro J hJ
  refine hJ _ _ _ _ ?_
  refine x_codeAt rfl hx (by omega) ?_
  refine q_isLetter (hx.le a) ?_
  cases hc : cL (tx a) with
  | false =>
    rw [hc] at hQ
    refine And.intro (fun g => absurd rfl g) (fun _ => ?_)
    refine q_num hx ht hn hl h6 ?_
    have hQ : rq Q o0 X len tl b0 b1 op (pNum tx a t) := hQ
    generalize pNum tx a t = r at hQ
    rcases r with ⟨c, a2, t2⟩ | ⟨a2, t2⟩ <;> exact hQ
  | true =>
    rw [hc] at hQ
    have h1 := hx.lt (cL_ne hc)
    refine And.intro (fun _ => ?_) (fun g => absurd g (by decide))
    refine t_add (by omega) ?_
    have key : ∀ x : Int32, x = nI (a + 1) → Q (.inl (some (.int (nI (tn t)))), (rdX o0 (tAdd t 2 (nI (tx a)) (nI a)) X len x tl, b0 + 1, b1, op)) := by
      rintro x rfl
      exact hQ
    exact key _ (nI_1 a)
end P2g
end
section
section P2h
variable {m b0 b1 : Nat} {op : Bool} {tl : List mj_O} {Q : mj_R → Prop} {xs : List Int32}
variable {o0 : mj_O} {t : tS} {X : Nat → Int32} {len a : Nat} {tx : Nat → Nat}
set_option maxRecDepth 10000
def HE (xs : List Int32) (o0 : mj_O) (X : Nat → Int32) (len : Nat) (tl : List mj_O) (b0 b1 : Nat) (op : Bool) (y lv : Nat) (pe : Nat → tS → PR) (d : Nat) : Prop :=
  ∀ (ℓ a : Nat) (t : tS) (x : Int32) (Q : mj_R → Prop), x = nI d → lv ≤ ℓ → tOK t → tn t ≤ a → a ≤ len → rq Q o0 X len tl b0 b1 op (pe a t) → mj_Mt gT (law_cst xs) gnw ℓ y [.ref 10, .int x] (rdW o0 t X len a tl, b0 + 1, b1, op) Q
theorem q_datLoop {l d n : Nat} {y : Int32} {J : Nat → mj_L → List Value → mj_H → Prop} (hJ : ∀ pc ls st h, mj_sg (mj_Mt gT (law_cst xs) gnw l) (law_cst xs) gnw (mj_hd (mj_off kO_Reader_datum) kH_Reader_datum) kC_Reader_datum J Q 400 true pc ls st h → J pc ls st h) (hx : txOK X len tx) (h6 : 6 ≤ b1) {pe : Nat → tS → PR} {lv : Nat} (HH : HE xs o0 X len tl b0 b1 op y_Reader_datum lv pe (d + 1)) (hy : y = nI d) (hlv : lv ≤ l) (h3 : 3 ≤ l) (hg : GE len pe) :
    ∀ (k i a : Nat) (t : tS) (x : Int32), k + i = 96 → x = nI i → tOK t → n < tn t → tn t ≤ a → a ≤ len → rq Q o0 X len tl b0 b1 op (pMore tx pe n k a t) → J 39 [some (.ref 10), some (.int y), some (.int (nI n)), some (.int x)] [] (rdW o0 t X len a tl, b0 + 1, b1, op) := by
  subst hy
  obtain ⟨l, rfl⟩ : ∃ l', l = l' + 3 := ⟨l - 3, by omega⟩
  have h96 := hx.1
  intro k
  induction k with
  | zero =>
    intro i a t x hi hxi ht hn ha hl hQ
    subst hxi
    obtain rfl : i = 96 := by omega
    refine hJ _ _ _ _ ?_
    refine And.intro (fun _ => ?_) (fun g => absurd (by decide) g)
    unfold pMore at hQ
    unfold pClose at hQ
    refine q_need (c := 41) rfl hx (by omega) (by decide) h6 (fun h => ?_) (fun h => ?_)
    · rw [if_pos h] at hQ
      exact hQ
    · rw [if_neg h] at hQ
      exact hQ
  | succ k ih =>
    intro i a t x hi hxi ht hn ha hl hQ
    subst hxi
    have hle := hx.le a
    refine hJ _ _ _ _ ?_
    refine And.intro (fun g => absurd g (nI_ge (a := i) (b := 96) (by omega) (by decide))) (fun _ => ?_)
    refine x_codeAt rfl hx (by omega) ?_
    unfold pMore at hQ
    refine And.intro (fun g => ?_) (fun g => ?_)
    · have h32 : ¬ tx a = 32 := fun e => g (by rw [e]; rfl)
      rw [if_neg h32] at hQ
      unfold pClose at hQ
      refine q_need (c := 41) rfl hx (by omega) (by decide) h6 (fun h => ?_) (fun h => ?_)
      · rw [if_pos h] at hQ
        exact hQ
      · rw [if_neg h] at hQ
        exact hQ
    · have h32 : tx a = 32 := (nI_eq (a := tx a) (b := 32) (by omega) (by decide)).mp g
      have h1 := hx.lt (a := a) (by omega)
      rw [if_pos h32] at hQ
      have hgd := hg (a + 1) t ht (by omega) (by omega)
      have key : ∀ z : Int32, z = nI (a + 1) → ∀ (Q' : mj_R → Prop), rq Q' o0 X len tl b0 b1 op (pe (a + 1) t) → mj_Mt gT (law_cst xs) gnw (l + 3) y_Reader_datum [.ref 10, .int (nI d + Int32.ofInt 1)] (rdX o0 t X len z tl, b0 + 1, b1, op) Q' := by
        rintro z rfl Q' hq
        exact HH (l + 3) (a + 1) t _ Q' (nI_1 d) hlv ht (by omega) (by omega) hq
      refine key _ (nI_1 a) _ ?_
      generalize pe (a + 1) t = r at hgd hQ
      rcases r with ⟨c, a2, t2⟩ | ⟨a2, t2⟩
      · obtain ⟨rfl, g1, g2, g3, g4⟩ := hgd
        refine t_addPart g1 (by omega) ?_
        exact ih (i + 1) a2 _ _ (by omega) (nI_1 i) (tOK_part g1 (by omega)) (by rw [tn_part]; omega) (by rw [tn_part]; exact g3) g4 hQ
      · exact hQ
theorem q_callLoop {l d n : Nat} {y : Int32} {J : Nat → mj_L → List Value → mj_H → Prop} (hJ : ∀ pc ls st h, mj_sg (mj_Mt gT (law_cst xs) gnw l) (law_cst xs) gnw (mj_hd (mj_off kO_Reader_call) kH_Reader_call) kC_Reader_call J Q 400 true pc ls st h → J pc ls st h) (hx : txOK X len tx) (h6 : 6 ≤ b1) {pe : Nat → tS → PR} {lv : Nat} (HH : HE xs o0 X len tl b0 b1 op y_Reader_expression lv pe d) (hy : y = nI d) (hlv : lv ≤ l) (h3 : 3 ≤ l) (hg : GE len pe) :
    ∀ (k i a : Nat) (t : tS) (x : Int32), k + i = 3 → x = nI i → tOK t → n < tn t → tn t ≤ a → a ≤ len → rq Q o0 X len tl b0 b1 op (pMore tx pe n k a t) → J 17 [some (.ref 10), some (.int y), some (.int (nI n)), some (.int x)] [] (rdW o0 t X len a tl, b0 + 1, b1, op) := by
  subst hy
  obtain ⟨l, rfl⟩ : ∃ l', l = l' + 3 := ⟨l - 3, by omega⟩
  have h96 := hx.1
  intro k
  induction k with
  | zero =>
    intro i a t x hi hxi ht hn ha hl hQ
    subst hxi
    obtain rfl : i = 3 := by omega
    refine hJ _ _ _ _ ?_
    refine And.intro (fun _ => ?_) (fun g => absurd (by decide) g)
    unfold pMore at hQ
    unfold pClose at hQ
    refine q_need (c := 41) rfl hx (by omega) (by decide) h6 (fun h => ?_) (fun h => ?_)
    · rw [if_pos h] at hQ
      exact hQ
    · rw [if_neg h] at hQ
      exact hQ
  | succ k ih =>
    intro i a t x hi hxi ht hn ha hl hQ
    subst hxi
    have hle := hx.le a
    refine hJ _ _ _ _ ?_
    refine And.intro (fun g => absurd g (nI_ge (a := i) (b := 3) (by omega) (by decide))) (fun _ => ?_)
    refine x_codeAt rfl hx (by omega) ?_
    unfold pMore at hQ
    refine And.intro (fun g => ?_) (fun g => ?_)
    · have h32 : ¬ tx a = 32 := fun e => g (by rw [e]; rfl)
      rw [if_neg h32] at hQ
      unfold pClose at hQ
      refine q_need (c := 41) rfl hx (by omega) (by decide) h6 (fun h => ?_) (fun h => ?_)
      · rw [if_pos h] at hQ
        exact hQ
      · rw [if_neg h] at hQ
        exact hQ
    · have h32 : tx a = 32 := (nI_eq (a := tx a) (b := 32) (by omega) (by decide)).mp g
      have h1 := hx.lt (a := a) (by omega)
      rw [if_pos h32] at hQ
      have hgd := hg (a + 1) t ht (by omega) (by omega)
      have key : ∀ z : Int32, z = nI (a + 1) → ∀ (Q' : mj_R → Prop), rq Q' o0 X len tl b0 b1 op (pe (a + 1) t) → mj_Mt gT (law_cst xs) gnw (l + 3) y_Reader_expression [.ref 10, .int (nI d)] (rdX o0 t X len z tl, b0 + 1, b1, op) Q' := by
        rintro z rfl Q' hq
        exact HH (l + 3) (a + 1) t _ Q' rfl hlv ht (by omega) (by omega) hq
      refine key _ (nI_1 a) _ ?_
      generalize pe (a + 1) t = r at hgd hQ
      rcases r with ⟨c, a2, t2⟩ | ⟨a2, t2⟩
      · obtain ⟨rfl, g1, g2, g3, g4⟩ := hgd
        refine t_addPart g1 (by omega) ?_
        exact ih (i + 1) a2 _ _ (by omega) (nI_1 i) (tOK_part g1 (by omega)) (by rw [tn_part]; omega) (by rw [tn_part]; exact g3) g4 hQ
      · exact hQ
theorem q_dat (hx : txOK X len tx) (h6 : 6 ≤ b1) : ∀ (f d : Nat), 1 ≤ f → 10 ≤ f + d → d ≤ 20 → HE xs o0 X len tl b0 b1 op y_Reader_datum (f + 8) (pDat tx f d) d
  | 0, d, h, _, _ => by omega
  | f + 1, d, _, hfd, hd => by
    intro ℓ a t x Q hx9 hlv ht hn hl hQ
    subst hx9
    have h96 := hx.1
    have hle := hx.le a
    obtain ⟨l, rfl⟩ : ∃ l, ℓ = l + 8 := ⟨ℓ - 8, by omega⟩
    unfold pDat at hQ
    intro J hJ
    refine hJ _ _ _ _ ?_
    refine x_codeAt rfl hx (by omega) ?_
    refine And.intro (fun g => ?_) (fun g => ?_)
    · have h40 : tx a = 40 := (nI_eq (a := tx a) (b := 40) (by omega) (by decide)).mp g
      have h1 := hx.lt (a := a) (by omega)
      rw [if_pos h40] at hQ
      refine t_add (by omega) ?_
      have ht1 : tOK (tAdd t 3 0 (nI a)) := tOK_add ht (by omega)
      refine q_open rfl hx (by omega) (by omega) h6 (fun hd9 _ => ?_) (fun h => ?_)
      · rw [if_neg (by omega)] at hQ
        have hle1 := hx.le (a + 1)
        refine x_codeAt rfl hx (by omega) ?_
        refine And.intro (fun g2 => ?_) (fun g2 => ?_)
        · have h41 : tx (a + 1) = 41 := (nI_eq (a := tx (a + 1)) (b := 41) (by omega) (by decide)).mp g2
          rw [if_pos h41] at hQ
          refine q_need (c := 41) rfl hx (by omega) (by decide) h6 (fun h => ?_) (fun h => absurd h41 h)
          exact hQ
        · have h41 : ¬ tx (a + 1) = 41 := fun e => g2 (by rw [e]; rfl)
          rw [if_neg h41] at hQ
          have hgd := g_dat hx f (d + 1) (a + 1) (tAdd t 3 0 (nI a)) ht1 (by rw [tn_add]; omega) (by omega)
          rw [tn_add] at hgd
          have hH := q_dat hx h6 f (d + 1) (by omega) (by omega) (by omega)
          refine hH (l + 7) (a + 1) (tAdd t 3 0 (nI a)) _ _ (nI_1 d) (by omega) ht1 (by rw [tn_add]; omega) (by omega) ?_
          generalize pDat tx f (d + 1) (a + 1) (tAdd t 3 0 (nI a)) = r at hgd hQ
          rcases r with ⟨c, a2, t2⟩ | ⟨a2, t2⟩
          · obtain ⟨rfl, g1, g5, g3, g4⟩ := hgd
            refine t_addPart g1 (by omega) ?_
            exact q_datLoop hJ hx h6 hH rfl (by omega) (by omega) (g_dat hx f (d + 1)) 95 1 a2 _ _ rfl rfl (tOK_part g1 (by omega)) (by rw [tn_part]; omega) (by rw [tn_part]; exact g3) g4 hQ
          · exact hQ
      · rw [if_pos (by omega)] at hQ
        exact hQ
    · have h40 : ¬ tx a = 40 := fun e => g (by rw [e]; rfl)
      rw [if_neg h40] at hQ
      refine q_atom hx ht hn hl h6 ?_
      generalize pAtom tx a t = r at hQ
      rcases r with ⟨c, a2, t2⟩ | ⟨a2, t2⟩ <;> exact hQ
theorem q_let {p : Nat} {y : Int32} (hy : y = nI p) (hx : txOK X len tx) (ht : tOK t) (hp : p < tn t) (hn : tn t ≤ a) (hl : a ≤ len) (h6 : 6 ≤ b1) (hQ : ru Q o0 X len tl b0 b1 op (pLet tx p a t)) : mj_Mt gT (law_cst xs) gnw (m + 3) y_Reader_parameter [.ref 10, .int y] (rdW o0 t X len a tl, b0 + 1, b1, op) Q := by
  subst hy
  have h96 := hx.1
  unfold pLet at hQ
  intro J hJ
  refine hJ _ _ _ _ ?_
  refine t_firstPart (o := some p) rfl ht.1 (fun i e => by cases e; omega) ?_
  refine q_among rfl hx (by omega) ht (tEn_lt ht.2.1 _) h6 (fun g1 g2 => ?_) (fun g => ?_)
  · rw [if_pos ⟨g1, g2⟩] at hQ
    have h1 := hx.lt (cL_ne g1)
    refine t_add (by omega) ?_
    refine t_addPart (tOK_add ht (by omega) (fun _ => ⟨_, by have := hx.le a; omega, rfl⟩)) (by rw [tn_add]; omega) ?_
    have key : ∀ x : Int32, x = nI (a + 1) → Q (.inl none, (rdX o0 (tPart (tAdd t 2 (nI (tx a)) (nI a)) p (tn t)) X len x tl, b0 + 1, b1, op)) := by
      rintro x rfl
      exact hQ
    exact key _ (nI_1 a)
  · rw [if_neg g] at hQ
    exact hQ
theorem q_lsLoop {l n : Nat} {y : Int32} {J : Nat → mj_L → List Value → mj_H → Prop} (hJ : ∀ pc ls st h, mj_sg (mj_Mt gT (law_cst xs) gnw l) (law_cst xs) gnw (mj_hd (mj_off kO_Reader_parameters) kH_Reader_parameters) kC_Reader_parameters J Q 400 true pc ls st h → J pc ls st h) (hx : txOK X len tx) (h6 : 6 ≤ b1) (h3 : 3 ≤ l) :
    ∀ (k i a : Nat) (t : tS) (x : Int32), k + i = 3 → x = nI i → tOK t → n < tn t → tn t ≤ a → a ≤ len → rq Q o0 X len tl b0 b1 op (pLs tx n k a t) → J 23 [some (.ref 10), some (.int y), some (.int (nI n)), some (.int x)] [] (rdW o0 t X len a tl, b0 + 1, b1, op) := by
  obtain ⟨l, rfl⟩ : ∃ l', l = l' + 3 := ⟨l - 3, by omega⟩
  have h96 := hx.1
  intro k
  induction k with
  | zero =>
    intro i a t x hi hxi ht hn ha hl hQ
    subst hxi
    obtain rfl : i = 3 := by omega
    refine hJ _ _ _ _ ?_
    refine And.intro (fun _ => ?_) (fun g => absurd (by decide) g)
    unfold pLs at hQ
    unfold pClose at hQ
    refine q_need (c := 41) rfl hx (by omega) (by decide) h6 (fun h => ?_) (fun h => ?_)
    · rw [if_pos h] at hQ
      exact hQ
    · rw [if_neg h] at hQ
      exact hQ
  | succ k ih =>
    intro i a t x hi hxi ht hn ha hl hQ
    subst hxi
    have hle := hx.le a
    refine hJ _ _ _ _ ?_
    refine And.intro (fun g => absurd g (nI_ge (a := i) (b := 3) (by omega) (by decide))) (fun _ => ?_)
    refine x_codeAt rfl hx (by omega) ?_
    unfold pLs at hQ
    refine And.intro (fun g => ?_) (fun g => ?_)
    · have h32 : ¬ tx a = 32 := fun e => g (by rw [e]; rfl)
      rw [if_neg h32] at hQ
      unfold pClose at hQ
      refine q_need (c := 41) rfl hx (by omega) (by decide) h6 (fun h => ?_) (fun h => ?_)
      · rw [if_pos h] at hQ
        exact hQ
      · rw [if_neg h] at hQ
        exact hQ
    · have h32 : tx a = 32 := (nI_eq (a := tx a) (b := 32) (by omega) (by decide)).mp g
      have h1 := hx.lt (a := a) (by omega)
      rw [if_pos h32] at hQ
      have hgd := g_let hx (p := n) (a := a + 1) ht (by omega) (by omega)
      have key : ∀ z : Int32, z = nI (a + 1) → ∀ (Q' : mj_R → Prop), ru Q' o0 X len tl b0 b1 op (pLet tx n (a + 1) t) → mj_Mt gT (law_cst xs) gnw (l + 3) y_Reader_parameter [.ref 10, .int (nI n)] (rdX o0 t X len z tl, b0 + 1, b1, op) Q' := by
        rintro z rfl Q' hq
        exact q_let rfl hx ht hn (by omega) (by omega) h6 hq
      refine key _ (nI_1 a) _ ?_
      generalize pLet tx n (a + 1) t = r at hgd hQ
      rcases r with ⟨a2, t2⟩ | ⟨a2, t2⟩
      · obtain ⟨g1, g2, g3, g4⟩ := hgd
        exact ih (i + 1) a2 t2 _ (by omega) (nI_1 i) g1 (by omega) g3 g4 hQ
      · exact hQ
theorem q_par {d : Nat} {y : Int32} (hy : y = nI d) (hx : txOK X len tx) (ht : tOK t) (hn : tn t + 2 ≤ a) (hl : a ≤ len) (hd : d < 1000) (h6 : 6 ≤ b1) (hQ : rq Q o0 X len tl b0 b1 op (pPar tx d a t)) : mj_Mt gT (law_cst xs) gnw (m + 4) y_Reader_parameters [.ref 10, .int y] (rdW o0 t X len a tl, b0 + 1, b1, op) Q := by
  subst hy
  have h96 := hx.1
  have ht1 : tOK (tAdd t 7 0 (nI a)) := tOK_add ht (by omega)
  unfold pPar at hQ
  intro J hJ
  refine hJ _ _ _ _ ?_
  refine t_add (k := 7) (v := 0) (by omega) ?_
  refine q_open rfl hx (by omega) hd h6 (fun hd9 h40 => ?_) (fun h => ?_)
  · rw [if_pos ⟨hd9, h40⟩] at hQ
    have h1 := hx.lt (a := a) (by omega)
    have hle1 := hx.le (a + 1)
    refine x_codeAt rfl hx (by omega) ?_
    refine And.intro (fun g2 => ?_) (fun g2 => ?_)
    · have h41 : tx (a + 1) = 41 := (nI_eq (a := tx (a + 1)) (b := 41) (by omega) (by decide)).mp g2
      rw [if_pos h41] at hQ
      refine q_need (c := 41) rfl hx (by omega) (by decide) h6 (fun h => ?_) (fun h => absurd h41 h)
      exact hQ
    · have h41 : ¬ tx (a + 1) = 41 := fun e => g2 (by rw [e]; rfl)
      rw [if_neg h41] at hQ
      have hgd := g_let hx (p := tn t) (a := a + 1) ht1 (by rw [tn_add]; omega) (by omega)
      rw [tn_add] at hgd
      refine q_let (p := tn t) rfl hx ht1 (by rw [tn_add]; omega) (by rw [tn_add]; omega) (by omega) h6 ?_
      generalize pLet tx (tn t) (a + 1) (tAdd t 7 0 (nI a)) = r at hgd hQ
      rcases r with ⟨a2, t2⟩ | ⟨a2, t2⟩
      · obtain ⟨g1, g5, g3, g4⟩ := hgd
        exact q_lsLoop hJ hx h6 (by omega) 2 1 a2 t2 _ rfl rfl g1 (by omega) g3 g4 hQ
      · exact hQ
  · rw [if_neg h] at hQ
    exact hQ
theorem q_fun {l d : Nat} {y : Int32} (hy : y = nI d) (hx : txOK X len tx) (ht : tOK t) (hn : tn t + 1 ≤ a) (hl : a ≤ len) (hd : d < 1000) (h6 : 6 ≤ b1) {pe : Nat → tS → PR} {lv : Nat} (HH : HE xs o0 X len tl b0 b1 op y_Reader_expression lv pe d) (hlv : lv ≤ l) (h3 : 4 ≤ l) (hg : GE len pe) (hQ : rq Q o0 X len tl b0 b1 op (pFun tx pe d a t)) : mj_Mt gT (law_cst xs) gnw (l + 1) y_Reader_function [.ref 10, .int y] (rdW o0 t X len a tl, b0 + 1, b1, op) Q := by
  subst hy
  obtain ⟨l, rfl⟩ : ∃ l', l = l' + 4 := ⟨l - 4, by omega⟩
  have h96 := hx.1
  have ht1 : tOK (tAdd t 6 0 (nI a)) := tOK_add ht (by omega)
  unfold pFun at hQ
  intro J hJ
  refine hJ _ _ _ _ ?_
  refine t_add (k := 6) (v := 0) (by omega) ?_
  refine q_need (c := 92) rfl hx (by omega) (by decide) h6 (fun h => ?_) (fun h => ?_)
  · rw [if_pos h] at hQ
    have h1 := hx.lt (a := a) (by omega)
    refine q_need (c := 32) rfl hx (by omega) (by decide) h6 (fun h2 => ?_) (fun h2 => ?_)
    · rw [if_pos h2] at hQ
      have h3 := hx.lt (a := a + 1) (by omega)
      have hgd := g_par hx (d := d) (a := a + 1 + 1) ht1 (by rw [tn_add]; omega) (by omega)
      rw [tn_add] at hgd
      refine q_par rfl hx ht1 (by rw [tn_add]; omega) (by omega) hd h6 ?_
      generalize pPar tx d (a + 1 + 1) (tAdd t 6 0 (nI a)) = r at hgd hQ
      rcases r with ⟨c, a2, t2⟩ | ⟨a2, t2⟩
      · obtain ⟨rfl, g1, g2, g3, g4⟩ := hgd
        have ht2 : tOK (tPart t2 (tn t) (tn t + 1)) := tOK_part g1 (by omega)
        have hQ : rq Q o0 X len tl b0 b1 op (if tx a2 = 32 then _ else _) := hQ
        refine t_addPart g1 (by omega) ?_
        refine q_need (c := 32) rfl hx (by omega) (by decide) h6 (fun h4 => ?_) (fun h4 => ?_)
        · rw [if_pos h4] at hQ
          have h5 := hx.lt (a := a2) (by omega)
          have hg2 := hg (a2 + 1) _ ht2 (by rw [tn_part]; omega) (by omega)
          rw [tn_part] at hg2
          refine HH (l + 4) (a2 + 1) _ _ _ rfl hlv ht2 (by rw [tn_part]; omega) (by omega) ?_
          generalize pe (a2 + 1) (tPart t2 (tn t) (tn t + 1)) = r2 at hg2 hQ
          rcases r2 with ⟨c, a4, t4⟩ | ⟨a4, t4⟩
          · obtain ⟨rfl, g5, g6, g7, g8⟩ := hg2
            refine t_addPart g5 (by omega) ?_
            have hQ : rq Q o0 X len tl b0 b1 op (if tx a4 = 41 then _ else _) := hQ
            refine q_need (c := 41) rfl hx (by omega) (by decide) h6 (fun h => ?_) (fun h => ?_)
            · rw [if_pos h] at hQ
              exact hQ
            · rw [if_neg h] at hQ
              exact hQ
          · exact hQ
        · rw [if_neg h4] at hQ
          exact hQ
      · exact hQ
    · rw [if_neg h2] at hQ
      exact hQ
  · rw [if_neg h] at hQ
    exact hQ
end P2h
end
section
section P2i
variable {m b0 b1 : Nat} {op : Bool} {tl : List mj_O} {Q : mj_R → Prop} {xs : List Int32}
variable {o0 : mj_O} {t : tS} {X : Nat → Int32} {len a : Nat} {tx : Nat → Nat}
set_option maxRecDepth 10000
theorem tPt_lt {t : tS} (ht : tOK t) : ∀ (k : Nat) (o : Option Nat), (∀ i, o = some i → i < 1000) → ∀ i, tPt t k o = some i → i < 1000
  | 0, o, h => h
  | k + 1, o, h => tPt_lt ht k _ (tEn_lt ht.2.2.2 o)
theorem q_bind {l d n : Nat} {y z : Int32} (hy : y = nI n) (hz : z = nI d) (hx : txOK X len tx) (ht : tOK t) (hp : n < tn t) (hn : tn t ≤ a) (hl : a ≤ len) (hd : d < 900) (h6 : 6 ≤ b1) {pe pe3 : Nat → tS → PR} {lv : Nat} (H2 : HE xs o0 X len tl b0 b1 op y_Reader_expression lv pe (d + 1)) (H3 : HE xs o0 X len tl b0 b1 op y_Reader_expression lv pe3 (d + 2)) (hlv : lv + 1 ≤ l) (h3 : 5 ≤ l) (hg : GE len pe) (hg3 : GE len pe3) (hQ : ru Q o0 X len tl b0 b1 op (pBind tx pe (pFun tx pe3 (d + 2)) d n a t)) : mj_Mt gT (law_cst xs) gnw (l + 1) y_Reader_binding [.ref 10, .int y, .int z] (rdW o0 t X len a tl, b0 + 1, b1, op) Q := by
  subst hy
  subst hz
  obtain ⟨l, rfl⟩ : ∃ l', l = l' + 5 := ⟨l - 5, by omega⟩
  have h96 := hx.1
  unfold pBind at hQ
  intro J hJ
  refine hJ _ _ _ _ ?_
  refine q_open rfl hx (by omega) (by omega) h6 (fun hd9 h40 => ?_) (fun h => ?_)
  · rw [if_pos ⟨hd9, h40⟩] at hQ
    have h1 := hx.lt (a := a) (by omega)
    refine t_part (o := some n) (k := 1) rfl rfl (by decide) ht (fun i e => by cases e; omega) ?_
    refine q_among rfl hx (by omega) ht (tPt_lt ht 1 _ (tEn_lt ht.2.1 _)) h6 (fun g1 g2 => ?_) (fun g => ?_)
    · rw [if_pos ⟨g1, g2⟩] at hQ
      have h3 := hx.lt (cL_ne g1)
      refine t_add (k := 10) (by omega) ?_
      have ht1 : tOK (tAdd t 10 (nI (tx (a + 1))) (nI (a + 1))) := tOK_add ht (by omega)
      have nd : ∀ z : Int32, z = nI (a + 1 + 1) → ∀ (Q' : mj_R → Prop), (tx (a + 1 + 1) = 32 → Q' (.inl none, (rdW o0 (tAdd t 10 (nI (tx (a + 1))) (nI (a + 1))) X len (a + 1 + 1 + 1) tl, b0 + 1, b1, op))) → (¬ tx (a + 1 + 1) = 32 → Q' (.inr 0, (rdW o0 (tAdd t 10 (nI (tx (a + 1))) (nI (a + 1))) X len (a + 1 + 1) tl, b0, b1 - 6, false))) → mj_Mt gT (law_cst xs) gnw (l + 5) y_Reader_need [.ref 10, .int (nI 32)] (rdX o0 (tAdd t 10 (nI (tx (a + 1))) (nI (a + 1))) X len z tl, b0 + 1, b1, op) Q' := by
        rintro z rfl Q' q1 q2
        exact q_need (c := 32) rfl hx (by omega) (by decide) h6 q1 q2
      refine nd _ (nI_1 (a + 1)) _ (fun h => ?_) (fun h => ?_)
      · rw [if_pos h] at hQ
        have h5 := hx.lt (a := a + 1 + 1) (by omega)
        have hgd := g_bv (pf := pFun tx pe3 (d + 2)) hx hg (fun a t q1 q2 q3 => g_fun hx hg3 q1 q2 q3) (d := d) (n := n) (a := a + 1 + 1 + 1) ht1 (by rw [tn_add]; omega) (by omega)
        rw [tn_add] at hgd
        refine t_kind (o := some n) rfl ht1.1 (fun i e => by cases e; omega) ?_
        have fin : ∀ (F c a2 : Nat) (t2 : tS), c = tn t + 1 → tOK t2 → tn t + 1 < tn t2 → tn t2 ≤ a2 → a2 ≤ len → ru Q o0 X len tl b0 b1 op (if tx a2 = 41 then .inl (a2 + 1, tPart (tPart t2 (tn t) c) n (tn t)) else .inr (a2, tPart t2 (tn t) c)) → mj_sg (mj_Mt gT (law_cst xs) gnw (l + 5)) (law_cst xs) gnw (mj_hd (mj_off kO_Reader_binding) kH_Reader_binding) kC_Reader_binding J Q (F + 20) false 58 [some (.ref 10), some (.int (nI n)), some (.int (nI d)), some (.int (nI (tx (a + 1)))), some (.int (nI (tn t)))] [] (rdW o0 (tPart t2 (tn t) c) X len a2 tl, b0 + 1, b1, op) := by
          intro F c a2 t2 q0 q1 q2 q3 q4 hq
          have hc2 : tn (tPart t2 (tn t) c) = tn t2 := tn_part
          refine q_need (c := 41) rfl hx (by omega) (by decide) h6 (fun h => ?_) (fun h => ?_)
          · rw [if_pos h] at hq
            refine t_addPart (tOK_part q1 (by omega)) (by rw [hc2]; omega) ?_
            exact hq
          · rw [if_neg h] at hq
            exact hq
        unfold pBv at hQ hgd
        by_cases h9 : tEi (tAdd t 10 (nI (tx (a + 1))) (nI (a + 1))) (tK (tAdd t 10 (nI (tx (a + 1))) (nI (a + 1)))) (some n) = 9
        · rw [if_pos h9] at hQ hgd
          refine And.intro (fun g => absurd h9 g) (fun _ => ?_)
          refine q_open (nI_1 d) hx (by omega) (by omega) h6 (fun e1 e2 => ?_) (fun e => ?_)
          · rw [if_pos ⟨e1, e2⟩] at hQ hgd
            have h7 := hx.lt (a := a + 1 + 1 + 1) (by omega)
            refine q_fun (l := l + 4) (nI_add d 2) hx ht1 (by rw [tn_add]; omega) (by omega) (by omega) h6 H3 (by omega) (by omega) hg3 ?_
            generalize pFun tx pe3 (d + 2) (a + 1 + 1 + 1 + 1) (tAdd t 10 (nI (tx (a + 1))) (nI (a + 1))) = r at hgd hQ
            rcases r with ⟨c, a2, t2⟩ | ⟨a2, t2⟩
            · obtain ⟨rfl, q1, q2, q3, q4⟩ := hgd
              refine t_addPart q1 (by omega) ?_
              exact fin _ _ a2 t2 rfl q1 q2 q3 q4 hQ
            · exact hQ
          · rw [if_neg e] at hQ
            exact hQ
        · rw [if_neg h9] at hQ hgd
          refine And.intro (fun _ => ?_) (fun g => absurd g h9)
          refine H2 (l + 5) (a + 1 + 1 + 1) _ _ _ (nI_1 d) (by omega) ht1 (by rw [tn_add]; omega) (by omega) ?_
          generalize pe (a + 1 + 1 + 1) (tAdd t 10 (nI (tx (a + 1))) (nI (a + 1))) = r at hgd hQ
          rcases r with ⟨c, a2, t2⟩ | ⟨a2, t2⟩
          · obtain ⟨rfl, q1, q2, q3, q4⟩ := hgd
            refine t_addPart q1 (by omega) ?_
            exact fin _ _ a2 t2 rfl q1 q2 q3 q4 hQ
          · exact hQ
      · rw [if_neg h] at hQ
        exact hQ
    · rw [if_neg g] at hQ
      exact hQ
  · rw [if_neg h] at hQ
    exact hQ
theorem q_bsLoop {l d n : Nat} {w : Value} {y4 : Int32} {J : Nat → mj_L → List Value → mj_H → Prop} (hJ : ∀ pc ls st h, mj_sg (mj_Mt gT (law_cst xs) gnw l) (law_cst xs) gnw (mj_hd (mj_off kO_Reader_bound) kH_Reader_bound) kC_Reader_bound J Q 400 true pc ls st h → J pc ls st h) (hx : txOK X len tx) (hd : d < 900) (h6 : 6 ≤ b1) {pe pe3 : Nat → tS → PR} {lv : Nat} (H2 : HE xs o0 X len tl b0 b1 op y_Reader_expression lv pe (d + 1)) (H3 : HE xs o0 X len tl b0 b1 op y_Reader_expression lv pe3 (d + 2)) (hlv : lv + 2 ≤ l) (h3 : 6 ≤ l) (hg : GE len pe) (hg3 : GE len pe3) :
    ∀ (k i a : Nat) (t : tS) (x : Int32), k + i = 3 → x = nI i → tOK t → n < tn t → tn t ≤ a → a ≤ len → rq Q o0 X len tl b0 b1 op (pBs tx (pBind tx pe (pFun tx pe3 (d + 2)) d n) n k a t) → J 40 [some (.ref 10), some (.int y4), some (.int (nI d)), some (.int (if y4 = 59 then 9 else 8)), some (.int (nI n)), some (.int x)] [] (rdW o0 t X len a tl, b0 + 1, b1, op) := by
  obtain ⟨l, rfl⟩ : ∃ l', l = l' + 6 := ⟨l - 6, by omega⟩
  have h96 := hx.1
  intro k
  induction k with
  | zero =>
    intro i a t x hi hxi ht hn ha hl hQ
    subst hxi
    obtain rfl : i = 3 := by omega
    refine hJ _ _ _ _ ?_
    refine And.intro (fun _ => ?_) (fun g => absurd (by decide) g)
    unfold pBs pClose at hQ
    refine q_need (c := 41) rfl hx (by omega) (by decide) h6 (fun h => ?_) (fun h => ?_)
    · rw [if_pos h] at hQ
      exact hQ
    · rw [if_neg h] at hQ
      exact hQ
  | succ k ih =>
    intro i a t x hi hxi ht hn ha hl hQ
    subst hxi
    have hle := hx.le a
    refine hJ _ _ _ _ ?_
    refine And.intro (fun g => absurd g (nI_ge (a := i) (b := 3) (by omega) (by decide))) (fun _ => ?_)
    refine x_codeAt rfl hx (by omega) ?_
    unfold pBs at hQ
    refine And.intro (fun g => ?_) (fun g => ?_)
    · have h32 : ¬ tx a = 32 := fun e => g (by rw [e]; rfl)
      rw [if_neg h32] at hQ
      unfold pClose at hQ
      refine q_need (c := 41) rfl hx (by omega) (by decide) h6 (fun h => ?_) (fun h => ?_)
      · rw [if_pos h] at hQ
        exact hQ
      · rw [if_neg h] at hQ
        exact hQ
    · have h32 : tx a = 32 := (nI_eq (a := tx a) (b := 32) (by omega) (by decide)).mp g
      have h1 := hx.lt (a := a) (by omega)
      rw [if_pos h32] at hQ
      have hgd := g_bind (pf := pFun tx pe3 (d + 2)) hx hg (fun a t q1 q2 q3 => g_fun hx hg3 q1 q2 q3) (d := d) (n := n) (a := a + 1) ht (by omega) (by omega)
      have key : ∀ z : Int32, z = nI (a + 1) → ∀ (Q' : mj_R → Prop), ru Q' o0 X len tl b0 b1 op (pBind tx pe (pFun tx pe3 (d + 2)) d n (a + 1) t) → mj_Mt gT (law_cst xs) gnw (l + 5 + 1) y_Reader_binding [.ref 10, .int (nI n), .int (nI d)] (rdX o0 t X len z tl, b0 + 1, b1, op) Q' := by
        rintro z rfl Q' hq
        exact q_bind rfl rfl hx ht hn (by omega) (by omega) hd h6 H2 H3 (by omega) (by omega) hg hg3 hq
      refine key _ (nI_1 a) _ ?_
      generalize pBind tx pe (pFun tx pe3 (d + 2)) d n (a + 1) t = r at hgd hQ
      rcases r with ⟨a2, t2⟩ | ⟨a2, t2⟩
      · obtain ⟨g1, g2, g3, g4⟩ := hgd
        exact ih (i + 1) a2 t2 _ (by omega) (nI_1 i) g1 (by omega) g3 g4 hQ
      · exact hQ
theorem q_bou {l d c : Nat} {y z : Int32} (hy : y = nI c) (hz : z = nI d) (hc : c = 58 ∨ c = 59) (hx : txOK X len tx) (ht : tOK t) (hn : tn t + 1 ≤ a) (hl : a < len) (hd : d < 900) (h6 : 6 ≤ b1) {pe pe2 pe3 : Nat → tS → PR} {lv : Nat} (H1 : HE xs o0 X len tl b0 b1 op y_Reader_expression lv pe d) (H2 : HE xs o0 X len tl b0 b1 op y_Reader_expression lv pe2 (d + 1)) (H3 : HE xs o0 X len tl b0 b1 op y_Reader_expression lv pe3 (d + 2)) (hlv : lv + 2 ≤ l) (h3 : 6 ≤ l) (hg : GE len pe) (hg2 : GE len pe2) (hg3 : GE len pe3) (hQ : rq Q o0 X len tl b0 b1 op (pBou tx pe (pBind tx pe2 (pFun tx pe3 (d + 2)) d) (if c = 59 then 9 else 8) a t)) : mj_Mt gT (law_cst xs) gnw (l + 1) y_Reader_bound [.ref 10, .int y, .int z] (rdW o0 t X len a tl, b0 + 1, b1, op) Q := by
  subst hy
  subst hz
  obtain ⟨l, rfl⟩ : ∃ l', l = l' + 6 := ⟨l - 6, by omega⟩
  have h96 := hx.1
  intro J hJ
  have ek : (if c = 59 then (9 : Int32) else 8) = (if nI c = 59 then 9 else 8) := by
    rcases hc with rfl | rfl <;> decide
  rw [ek] at hQ
  have go : ∀ (F : Nat) (kd : Int32), kd = (if nI c = 59 then 9 else 8) → mj_sg (mj_Mt gT (law_cst xs) gnw (l + 6)) (law_cst xs) gnw (mj_hd (mj_off kO_Reader_bound) kH_Reader_bound) kC_Reader_bound J Q (F + 100) false 14 [some (.ref 10), some (.int (nI c)), some (.int (nI d)), some (.int kd), none, none] [.int (nI (tn t))] (rdW o0 (tAdd t kd 0 (nI a)) X len a tl, b0 + 1, b1, op) := by
    intro F kd hkd
    rw [← hkd] at hQ
    have ht1 : tOK (tAdd t kd 0 (nI a)) := tOK_add ht (by omega) (fun h => by rw [h] at hkd; split at hkd <;> exact absurd hkd (by decide))
    unfold pBou at hQ
    have nd : ∀ z : Int32, z = nI (a + 1) → ∀ (Q' : mj_R → Prop), (tx (a + 1) = 32 → Q' (.inl none, (rdW o0 (tAdd t kd 0 (nI a)) X len (a + 1 + 1) tl, b0 + 1, b1, op))) → (¬ tx (a + 1) = 32 → Q' (.inr 0, (rdW o0 (tAdd t kd 0 (nI a)) X len (a + 1) tl, b0, b1 - 6, false))) → mj_Mt gT (law_cst xs) gnw (l + 6) y_Reader_need [.ref 10, .int (nI 32)] (rdX o0 (tAdd t kd 0 (nI a)) X len z tl, b0 + 1, b1, op) Q' := by
      rintro z rfl Q' q1 q2
      exact q_need (c := 32) rfl hx (by omega) (by decide) h6 q1 q2
    refine nd _ (nI_1 a) _ (fun h => ?_) (fun h => ?_)
    · rw [if_pos h] at hQ
      have h1 := hx.lt (a := a + 1) (by omega)
      have hgd := hg (a + 1 + 1) _ ht1 (by rw [tn_add]; omega) (by omega)
      rw [tn_add] at hgd
      refine H1 (l + 6) (a + 1 + 1) _ _ _ rfl (by omega) ht1 (by rw [tn_add]; omega) (by omega) ?_
      generalize pe (a + 1 + 1) (tAdd t kd 0 (nI a)) = r at hgd hQ
      rcases r with ⟨c2, a2, t2⟩ | ⟨a2, t2⟩
      · obtain ⟨rfl, g1, g2, g3, g4⟩ := hgd
        have ht2 : tOK (tPart t2 (tn t) (tn t + 1)) := tOK_part g1 (by omega)
        have hQ : rq Q o0 X len tl b0 b1 op (if tx a2 = 32 then _ else _) := hQ
        refine t_addPart g1 (by omega) ?_
        refine q_need (c := 32) rfl hx (by omega) (by decide) h6 (fun h4 => ?_) (fun h4 => ?_)
        · rw [if_pos h4] at hQ
          have h5 := hx.lt (a := a2) (by omega)
          have hgb := g_bind (pf := pFun tx pe3 (d + 2)) hx hg2 (fun a t q1 q2 q3 => g_fun hx hg3 q1 q2 q3) (d := d) (n := tn t) (a := a2 + 1) ht2 (by rw [tn_part]; omega) (by omega)
          rw [tn_part] at hgb
          refine q_bind (l := l + 5) rfl rfl hx ht2 (by rw [tn_part]; omega) (by rw [tn_part]; omega) (by omega) hd h6 H2 H3 (by omega) (by omega) hg2 hg3 ?_
          generalize pBind tx pe2 (pFun tx pe3 (d + 2)) d (tn t) (a2 + 1) (tPart t2 (tn t) (tn t + 1)) = r2 at hgb hQ
          rcases r2 with ⟨a4, t4⟩ | ⟨a4, t4⟩
          · obtain ⟨g5, g6, g7, g8⟩ := hgb
            rw [hkd]
            exact q_bsLoop (w := .null) hJ hx hd h6 H2 H3 (by omega) (by omega) hg2 hg3 2 1 a4 t4 _ rfl rfl g5 (by omega) g7 g8 hQ
          · exact hQ
        · rw [if_neg h4] at hQ
          exact hQ
      · exact hQ
    · rw [if_neg h] at hQ
      exact hQ
  refine hJ _ _ _ _ ?_
  refine And.intro (fun g => ?_) (fun g => ?_)
  · refine t_add (k := 8) (v := 0) (by omega) ?_
    exact go _ 8 (by rw [if_neg (show ¬ nI c = 59 from g)])
  · refine t_add (k := 9) (v := 0) (by omega) ?_
    exact go _ 9 (by rw [if_pos (show nI c = 59 from g)])
theorem q_call {l d : Nat} {y : Int32} (hy : y = nI d) (hx : txOK X len tx) (ht : tOK t) (hn : tn t + 1 ≤ a) (hl : a ≤ len) (h6 : 6 ≤ b1) {pe : Nat → tS → PR} {lv : Nat} (H1 : HE xs o0 X len tl b0 b1 op y_Reader_expression lv pe d) (hlv : lv ≤ l) (h3 : 3 ≤ l) (hg : GE len pe) (hQ : rq Q o0 X len tl b0 b1 op (pCall tx pe a t)) : mj_Mt gT (law_cst xs) gnw (l + 1) y_Reader_call [.ref 10, .int y] (rdW o0 t X len a tl, b0 + 1, b1, op) Q := by
  subst hy
  obtain ⟨l, rfl⟩ : ∃ l', l = l' + 3 := ⟨l - 3, by omega⟩
  have h96 := hx.1
  have ht1 : tOK (tAdd t 11 0 (nI a)) := tOK_add ht (by omega)
  unfold pCall at hQ
  intro J hJ
  refine hJ _ _ _ _ ?_
  refine t_add (k := 11) (v := 0) (by omega) ?_
  have hgd := hg a _ ht1 (by rw [tn_add]; omega) hl
  rw [tn_add] at hgd
  refine H1 (l + 3) a _ _ _ rfl hlv ht1 (by rw [tn_add]; omega) hl ?_
  generalize pe a (tAdd t 11 0 (nI a)) = r at hgd hQ
  rcases r with ⟨c, a2, t2⟩ | ⟨a2, t2⟩
  · obtain ⟨rfl, g1, g2, g3, g4⟩ := hgd
    refine t_addPart g1 (by omega) ?_
    exact q_callLoop hJ hx h6 H1 rfl hlv (by omega) hg 3 0 a2 _ _ rfl rfl (tOK_part g1 (by omega)) (by rw [tn_part]; omega) (by rw [tn_part]; exact g3) g4 hQ
  · exact hQ
theorem q_operands {h : mj_H} {o : Nat} {y : Int32} (hy : y = nI o) (ho : o < 1000) (hQ : Q (.inl (some (.int (nI (opN o)))), h)) : mj_Mt gT (law_cst xs) gnw (m + 1) y_Op_operands [.int y] h Q := by
  subst hy
  unfold opN at hQ
  intro J hJ
  refine hJ _ _ _ _ ?_
  refine And.intro (fun g => ?_) (fun g => ?_)
  · have h8 : ¬ o = 8 := fun e => g (by rw [e]; rfl)
    rw [if_neg h8] at hQ
    refine And.intro (fun (g2 : nI 12 < nI o) => ?_) (fun (g2 : ¬ nI 12 < nI o) => ?_)
    · have := (nI_ltI (by decide) (by omega)).mp g2
      rw [if_neg (by omega)] at hQ
      exact hQ
    · have : ¬ 12 < o := fun e => g2 (nI_lt e (by omega))
      rw [if_pos (by omega)] at hQ
      exact hQ
  · have h8 : o = 8 := (nI_eq (a := o) (b := 8) (by omega) (by decide)).mp g
    rw [if_pos h8] at hQ
    exact hQ
theorem q_argLoop {l d n o : Nat} {J : Nat → mj_L → List Value → mj_H → Prop} (hJ : ∀ pc ls st h, mj_sg (mj_Mt gT (law_cst xs) gnw l) (law_cst xs) gnw (mj_hd (mj_off kO_Reader_operation) kH_Reader_operation) kC_Reader_operation J Q 400 true pc ls st h → J pc ls st h) (ho : o < 1000) (hx : txOK X len tx) (h6 : 6 ≤ b1) {pe : Nat → tS → PR} {lv : Nat} (H1 : HE xs o0 X len tl b0 b1 op y_Reader_expression lv pe d) (hlv : lv ≤ l) (h3 : 3 ≤ l) (hg : GE len pe) :
    ∀ (k i a : Nat) (t : tS) (x : Int32), k + i = opN o → x = nI i → tOK t → n < tn t → tn t ≤ a → a ≤ len → rq Q o0 X len tl b0 b1 op (pArgs tx pe n k a t) → J 16 [some (.ref 10), some (.int (nI o)), some (.int (nI d)), some (.int (nI n)), some (.int x)] [] (rdW o0 t X len a tl, b0 + 1, b1, op) := by
  obtain ⟨l, rfl⟩ : ∃ l', l = l' + 3 := ⟨l - 3, by omega⟩
  have h96 := hx.1
  have hon : opN o ≤ 3 := by
    unfold opN
    split
    · omega
    · split <;> omega
  intro k
  induction k with
  | zero =>
    intro i a t x hi hxi ht hn ha hl hQ
    subst hxi
    refine hJ _ _ _ _ ?_
    refine q_operands rfl ho ?_
    refine And.intro (fun _ => ?_) (fun g => absurd (nI_le (a := opN o) (b := i) (by omega) (by omega)) g)
    unfold pArgs pClose at hQ
    refine q_need (c := 41) rfl hx (by omega) (by decide) h6 (fun h => ?_) (fun h => ?_)
    · rw [if_pos h] at hQ
      exact hQ
    · rw [if_neg h] at hQ
      exact hQ
  | succ k ih =>
    intro i a t x hi hxi ht hn ha hl hQ
    subst hxi
    refine hJ _ _ _ _ ?_
    refine q_operands rfl ho ?_
    refine And.intro (fun g => absurd g (nI_ge (a := i) (b := opN o) (by omega) (by omega))) (fun _ => ?_)
    unfold pArgs at hQ
    refine q_need (c := 32) rfl hx (by omega) (by decide) h6 (fun h => ?_) (fun h => ?_)
    · rw [if_pos h] at hQ
      have h1 := hx.lt (a := a) (by omega)
      have hgd := hg (a + 1) t ht (by omega) (by omega)
      refine H1 (l + 3) (a + 1) t _ _ rfl hlv ht (by omega) (by omega) ?_
      generalize pe (a + 1) t = r at hgd hQ
      rcases r with ⟨c, a2, t2⟩ | ⟨a2, t2⟩
      · obtain ⟨rfl, g1, g2, g3, g4⟩ := hgd
        refine t_addPart g1 (by omega) ?_
        exact ih (i + 1) a2 _ _ (by omega) (nI_1 i) (tOK_part g1 (by omega)) (by rw [tn_part]; omega) (by rw [tn_part]; exact g3) g4 hQ
      · exact hQ
    · rw [if_neg h] at hQ
      exact hQ
theorem q_op {l d o : Nat} {y z : Int32} (hy : y = nI o) (hz : z = nI d) (ho : o < 1000) (hx : txOK X len tx) (ht : tOK t) (hn : tn t + 1 ≤ a) (hl : a < len) (h6 : 6 ≤ b1) {pe : Nat → tS → PR} {lv : Nat} (H1 : HE xs o0 X len tl b0 b1 op y_Reader_expression lv pe d) (hlv : lv ≤ l) (h3 : 3 ≤ l) (hg : GE len pe) (hQ : rq Q o0 X len tl b0 b1 op (pOp tx pe o a t)) : mj_Mt gT (law_cst xs) gnw (l + 1) y_Reader_operation [.ref 10, .int y, .int z] (rdW o0 t X len a tl, b0 + 1, b1, op) Q := by
  subst hy
  subst hz
  have h96 := hx.1
  have ht1 : tOK (tAdd t 5 (nI o) (nI a)) := tOK_add ht (by omega)
  unfold pOp at hQ
  obtain ⟨l, rfl⟩ : ∃ l', l = l' + 3 := ⟨l - 3, by omega⟩
  intro J hJ
  refine hJ _ _ _ _ ?_
  refine t_add (k := 5) (by omega) ?_
  have key : ∀ z : Int32, z = nI (a + 1) → J 16 [some (.ref 10), some (.int (nI o)), some (.int (nI d)), some (.int (nI (tn t))), some (.int 0)] [] (rdX o0 (tAdd t 5 (nI o) (nI a)) X len z tl, b0 + 1, b1, op) := by
    rintro z rfl
    exact q_argLoop hJ ho hx h6 H1 hlv (by omega) hg (opN o) 0 (a + 1) _ _ rfl rfl ht1 (by rw [tn_add]; omega) (by rw [tn_add]; omega) (by omega) hQ
  exact key _ (nI_1 a)
end P2i
end
section
section P2j
variable {m b0 b1 : Nat} {op : Bool} {tl : List mj_O} {Q : mj_R → Prop} {xs : List Int32}
variable {o0 : mj_O} {t : tS} {X : Nat → Int32} {len a : Nat} {tx : Nat → Nat} {h : mj_H}
set_option maxRecDepth 10000
theorem j_sgl : ∀ i, i < 9 → ∀ c, c < 127 → (law_s2012.getD i 0 = sb_b c ↔ sgl.getD i 0 = c) := by decide +kernel
theorem j_canEncodeI {c : Nat} (hc : c < 127) (hQ : Q (.inl (some (.int 1)), h)) : mj_Mt gT (law_cst xs) gnw (m + 1) y_StringLatin1_canEncode_I [.int (nI c)] h Q := by
  intro J hJ
  refine hJ _ _ _ _ ?_
  refine And.intro (fun g => absurd g (nI_pos (by omega))) (fun _ => ?_)
  refine And.intro (fun g => absurd g (nI_nlt (a := 255) (b := c) (by omega) (by decide))) (fun _ => ?_)
  exact And.intro (Or.inr rfl) hQ
theorem j_idxChar {c : Nat} {z : Int32} (hz : z = nI 9) (hc : c < 127) (hQ : Q (.inl (some (.int (oV (fdx c 9 0)))), h)) : mj_Mt gT (law_cst xs) gnw (m + 1) y_StringLatin1_indexOfChar [.ref 1112, .int (nI c), .int 0, .int z] h Q := by
  subst hz
  intro J hJ
  have loop : ∀ (k i : Nat) (x : Int32), k + i = 9 → x = nI i → fdx c k i = fdx c 9 0 → J 5 [some (.ref 1112), some (.int (nI c)), some (.int 0), some (.int (nI 9)), some (.int (nI c).toInt8.toInt32), some (.int x)] [] h := by
    intro k
    induction k with
    | zero =>
      intro i x hi hx e
      subst hx
      obtain rfl : i = 9 := by omega
      refine hJ _ _ _ _ ?_
      refine And.intro (fun _ => ?_) (fun g => absurd (by decide) g)
      rw [← e] at hQ
      exact hQ
    | succ k ih =>
      intro i x hi hx e
      subst hx
      have ec : (nI i).toNatClampNeg = i := nI_clamp (by omega)
      refine hJ _ _ _ _ ?_
      refine And.intro (fun g => absurd g (nI_ge (a := i) (b := 9) (by omega) (by decide))) (fun _ => ?_)
      refine And.intro (vp_in_nI (by omega) (by decide)) ?_
      have ev : ∀ j, j = i → (law_s2012.getD j 0 = sb_b c ↔ sgl.getD i 0 = c) := by
        rintro j rfl
        exact j_sgl j (by omega) c hc
      refine And.intro (fun g => ?_) (fun g => ?_)
      · have g2 : ¬ sgl.getD i 0 = c := fun q => g ((ev _ ec).mpr q)
        refine ih (i + 1) _ (by omega) (nI_1 i) ?_
        rw [← e, fdx, if_neg g2]
      · have g2 : sgl.getD i 0 = c := (ev _ ec).mp g
        rw [← e, fdx, if_pos g2] at hQ
        exact hQ
  refine hJ _ _ _ _ ?_
  exact loop 9 0 _ rfl rfl rfl
theorem j_coder2012 (hQ : Q (.inl (some (.int 0)), h)) : mj_Mt gT (law_cst xs) gnw (m + 1) y_String_coder [.ref 2012] h Q := by
  intro J hJ
  refine hJ _ _ _ _ ?_
  refine And.intro (fun h => absurd h (by decide)) (fun _ => ?_)
  exact And.intro (by decide) hQ
theorem j_slen2012 (hQ : Q (.inl (some (.int (nI 9))), h)) : mj_Mt gT (law_cst xs) gnw (m + 2) y_String_length [.ref 2012] h Q := by
  intro J hJ
  refine hJ _ _ _ _ ?_
  refine j_coder2012 ?_
  rw [← sb_shr0 (nI 9)] at hQ
  exact hQ
theorem j_sLatin (hQ : Q (.inl (some (.int 1)), h)) : mj_Mt gT (law_cst xs) gnw (m + 1) y_String_isLatin1 [.ref 2012] h Q := by
  intro J hJ
  refine hJ _ _ _ _ ?_
  refine And.intro (fun h => absurd h (by decide)) (fun _ => ?_)
  refine And.intro (fun h => absurd rfl h) (fun _ => ?_)
  exact And.intro (Or.inr rfl) hQ
theorem j_l1idx {c : Nat} (hc : c < 127) (hQ : Q (.inl (some (.int (oV (fdx c 9 0)))), h)) : mj_Mt gT (law_cst xs) gnw (m + 2) y_StringLatin1_indexOf [.ref 1112, .int (nI c), .int 0, .int (nI 9)] h Q := by
  intro J hJ
  refine hJ _ _ _ _ ?_
  refine j_canEncodeI hc ?_
  refine And.intro (fun _ => ?_) (fun g => absurd g (by decide))
  refine And.intro (fun _ => ?_) (fun g => absurd (by decide) g)
  refine j_idxChar (by decide) hc ?_
  exact hQ
theorem j_indexOf2 {c : Nat} (hc : c < 127) (hQ : Q (.inl (some (.int (oV (fdx c 9 0)))), h)) : mj_Mt gT (law_cst xs) gnw (m + 3) y_String_indexOf_II [.ref 2012, .int (nI c), .int 0] h Q := by
  intro J hJ
  refine hJ _ _ _ _ ?_
  refine j_sLatin ?_
  refine And.intro (fun g => absurd g (by decide)) (fun _ => ?_)
  refine j_slen2012 ?_
  refine j_l1idx hc ?_
  exact hQ
theorem j_indexOf {c : Nat} {y : Int32} (hy : y = nI c) (hc : c < 127) (hQ : Q (.inl (some (.int (oV (fdx c 9 0)))), h)) : mj_Mt gT (law_cst xs) gnw (m + 4) y_String_indexOf_I [.ref 2012, .int y] h Q := by
  subst hy
  intro J hJ
  refine hJ _ _ _ _ ?_
  refine j_indexOf2 hc ?_
  exact hQ
theorem fdx_lt {c : Nat} : ∀ (k i j : Nat), fdx c k i = some j → j < i + k
  | 0, i, j, e => by cases e
  | k + 1, i, j, e => by
    unfold fdx at e
    split at e
    · cases e; omega
    · have := fdx_lt k (i + 1) j e
      omega
theorem o_of {c : Nat} (hc : c < 127) (hQ : Q (.inl (some (.int (oV (opO c)))), h)) : mj_Mt gT (law_cst xs) gnw (m + 5) y_Op_of [.int (nI c)] h Q := by
  unfold opO at hQ
  intro J hJ
  refine hJ _ _ _ _ ?_
  refine And.intro (fun g => ?_) (fun g => ?_)
  · have h63 : ¬ c = 63 := fun e => g (by rw [e]; rfl)
    rw [if_neg h63] at hQ
    refine j_indexOf (sb_byte c (by omega)).2.1 hc ?_
    cases hf : fdx c 9 0 with
    | none =>
      rw [hf] at hQ
      refine And.intro (fun g => absurd g (by decide)) (fun _ => ?_)
      exact hQ
    | some i =>
      have hi := fdx_lt 9 0 i hf
      rw [hf] at hQ
      refine And.intro (fun _ => ?_) (fun g => absurd (nI_pos' (n := i) (by omega)) g)
      have hQ : Q (.inl (some (.int (nI (10 + i)))), h) := hQ
      rw [← nI_add 10 i] at hQ
      exact hQ
  · have h63 : c = 63 := (nI_eq (a := c) (b := 63) (by omega) (by decide)).mp g
    rw [if_pos h63] at hQ
    exact hQ
theorem opO_lt {c o : Nat} (h : opO c = some o) : o < 20 := by
  unfold opO at h
  split at h
  · cases h; omega
  · cases hf : fdx c 9 0 with
    | none => rw [hf] at h; cases h
    | some i =>
      have := fdx_lt 9 0 i hf
      rw [hf] at h
      cases h
      show 10 + i < 20
      omega
theorem q_bra {l d : Nat} {y : Int32} (hy : y = nI d) (hx : txOK X len tx) (ht : tOK t) (hn : tn t ≤ a) (hl : a ≤ len) (hd : d < 800) (h6 : 6 ≤ b1) {pe pe2 pe3 : Nat → tS → PR} {lv : Nat} (H1 : HE xs o0 X len tl b0 b1 op y_Reader_expression lv pe (d + 1)) (H2 : HE xs o0 X len tl b0 b1 op y_Reader_expression lv pe2 (d + 2)) (H3 : HE xs o0 X len tl b0 b1 op y_Reader_expression lv pe3 (d + 3)) (hlv : lv + 3 ≤ l) (h3 : 8 ≤ l) (hg : GE len pe) (hg2 : GE len pe2) (hg3 : GE len pe3) (h40 : tx a = 40) (hQ : rq Q o0 X len tl b0 b1 op (if d < 9 then pBra tx pe pe2 pe3 (d + 1) (a + 1) t else .inr (a, t))) : mj_Mt gT (law_cst xs) gnw (l + 1) y_Reader_bracketed [.ref 10, .int y] (rdW o0 t X len a tl, b0 + 1, b1, op) Q := by
  subst hy
  obtain ⟨l, rfl⟩ : ∃ l', l = l' + 8 := ⟨l - 8, by omega⟩
  have h96 := hx.1
  have h1 := hx.lt (a := a) (by omega)
  have hle := hx.le (a + 1)
  intro J hJ
  refine hJ _ _ _ _ ?_
  refine q_open rfl hx (by omega) (by omega) h6 (fun hd9 _ => ?_) (fun h => ?_)
  · rw [if_pos hd9] at hQ
    unfold pBra at hQ
    refine x_codeAt rfl hx (by omega) ?_
    have call : ∀ (Q' : mj_R → Prop) (z : Int32), z = nI (d + 1) → rq Q' o0 X len tl b0 b1 op (pCall tx pe (a + 1) t) → mj_Mt gT (law_cst xs) gnw (l + 7 + 1) y_Reader_call [.ref 10, .int z] (rdW o0 t X len (a + 1) tl, b0 + 1, b1, op) Q' := fun Q' z hz hq => q_call hz hx ht (by omega) (by omega) h6 H1 (by omega) (by omega) hg hq
    refine And.intro (fun g => ?_) (fun g => ?_)
    · have h92 : ¬ tx (a + 1) = 92 := fun e => g (by rw [e]; rfl)
      rw [if_neg h92] at hQ
      have bou : (tx (a + 1) = 58 ∨ tx (a + 1) = 59) → ∀ (Q' : mj_R → Prop) (z : Int32), z = nI (d + 1) → rq Q' o0 X len tl b0 b1 op (pBou tx pe (pBind tx pe2 (pFun tx pe3 (d + 1 + 2)) (d + 1)) (if tx (a + 1) = 59 then 9 else 8) (a + 1) t) → mj_Mt gT (law_cst xs) gnw (l + 7 + 1) y_Reader_bound [.ref 10, .int (nI (tx (a + 1))), .int z] (rdW o0 t X len (a + 1) tl, b0 + 1, b1, op) Q' := by
        intro hc Q' z hz hq
        exact q_bou rfl hz hc hx ht (by omega) (hx.lt (by omega)) (by omega) h6 H1 H2 H3 (by omega) (by omega) hg hg2 hg3 hq
      refine And.intro (fun g2 => ?_) (fun g2 => ?_)
      · have hc : tx (a + 1) = 58 := (nI_eq (a := tx (a + 1)) (b := 58) (by omega) (by decide)).mp g2
        rw [if_pos (Or.inl hc)] at hQ
        refine bou (Or.inl hc) _ _ (nI_1 d) ?_
        generalize pBou tx pe (pBind tx pe2 (pFun tx pe3 (d + 1 + 2)) (d + 1)) (if tx (a + 1) = 59 then 9 else 8) (a + 1) t = r at hQ
        rcases r with ⟨c, a2, t2⟩ | ⟨a2, t2⟩ <;> exact hQ
      · have h58 : ¬ tx (a + 1) = 58 := fun e => g2 (by rw [e]; rfl)
        refine And.intro (fun g3 => ?_) (fun g3 => ?_)
        · have h59 : ¬ tx (a + 1) = 59 := fun e => g3 (by rw [e]; rfl)
          rw [if_neg (by omega)] at hQ
          have tail : ∀ (F : Nat) (s3 : Int32), (s3 = 0 ∧ ¬ (tx (a + 1) = 45 ∧ cD (tx (a + 1 + 1)) = true) ∨ s3 = 1 ∧ tx (a + 1) = 45 ∧ cD (tx (a + 1 + 1)) = true) → mj_sg (mj_Mt gT (law_cst xs) gnw (l + 8)) (law_cst xs) gnw (mj_hd (mj_off kO_Reader_bracketed) kH_Reader_bracketed) kC_Reader_bracketed J Q (F + 60) false 49 [some (.ref 10), some (.int (nI d)), some (.int (nI (tx (a + 1)))), some (.int s3), none] [.int (oV (opO (tx (a + 1))))] (rdW o0 t X len (a + 1) tl, b0 + 1, b1, op) := by
            intro F s3 hs
            cases ho : opO (tx (a + 1)) with
            | none =>
              rw [ho] at hQ
              refine And.intro (fun _ => ?_) (fun g => absurd rfl g)
              refine call _ _ (nI_1 d) ?_
              have hQ : rq Q o0 X len tl b0 b1 op (pCall tx pe (a + 1) t) := hQ
              generalize pCall tx pe (a + 1) t = r at hQ
              rcases r with ⟨c, a2, t2⟩ | ⟨a2, t2⟩ <;> exact hQ
            | some o =>
              have hol := opO_lt ho
              rw [ho] at hQ
              have hQ : rq Q o0 X len tl b0 b1 op (if tx (a + 1) = 45 ∧ cD (tx (a + 1 + 1)) = true then pCall tx pe (a + 1) t else pOp tx pe o (a + 1) t) := hQ
              have h0 : ¬ tx (a + 1) = 0 := fun e => by rw [e, opO_0] at ho; cases ho
              refine And.intro (fun g => absurd g (oV_ne (k := o) (by omega))) (fun _ => ?_)
              rcases hs with ⟨rfl, hs⟩ | ⟨rfl, hs⟩
              · rw [if_neg hs] at hQ
                refine And.intro (fun _ => ?_) (fun g => absurd rfl g)
                refine q_op (o := o) rfl (nI_1 d) (by omega) hx ht (by omega) (hx.lt h0) h6 H1 (by omega) (by omega) hg ?_
                generalize pOp tx pe o (a + 1) t = r at hQ
                rcases r with ⟨c, a2, t2⟩ | ⟨a2, t2⟩ <;> exact hQ
              · rw [if_pos hs] at hQ
                refine And.intro (fun g => absurd g (by decide)) (fun _ => ?_)
                refine call _ _ (nI_1 d) ?_
                generalize pCall tx pe (a + 1) t = r at hQ
                rcases r with ⟨c, a2, t2⟩ | ⟨a2, t2⟩ <;> exact hQ
          refine And.intro (fun g4 => ?_) (fun g4 => ?_)
          · have h45 : ¬ tx (a + 1) = 45 := fun e => g4 (by rw [e]; rfl)
            refine o_of (by omega) ?_
            exact tail _ 0 (Or.inl ⟨rfl, fun q => h45 q.1⟩)
          · have h45 : tx (a + 1) = 45 := (nI_eq (a := tx (a + 1)) (b := 45) (by omega) (by decide)).mp g4
            have h7 := hx.lt (a := a + 1) (by omega)
            refine x_codeAt (a9 := a + 1 + 1) (nI_1 (a + 1)) hx (by omega) ?_
            refine q_isDigit (hx.le _) ?_
            cases hc : cD (tx (a + 1 + 1)) with
            | false =>
              refine And.intro (fun _ => ?_) (fun g => absurd rfl g)
              refine o_of (by omega) ?_
              exact tail _ 0 (Or.inl ⟨rfl, fun q => by rw [hc] at q; cases q.2⟩)
            | true =>
              refine And.intro (fun g => absurd g (by decide)) (fun _ => ?_)
              refine o_of (by omega) ?_
              exact tail _ 1 (Or.inr ⟨rfl, h45, hc⟩)
        · have hc : tx (a + 1) = 59 := (nI_eq (a := tx (a + 1)) (b := 59) (by omega) (by decide)).mp g3
          rw [if_pos (Or.inr hc)] at hQ
          refine bou (Or.inr hc) _ _ (nI_1 d) ?_
          generalize pBou tx pe (pBind tx pe2 (pFun tx pe3 (d + 1 + 2)) (d + 1)) (if tx (a + 1) = 59 then 9 else 8) (a + 1) t = r at hQ
          rcases r with ⟨c, a2, t2⟩ | ⟨a2, t2⟩ <;> exact hQ
    · have h92 : tx (a + 1) = 92 := (nI_eq (a := tx (a + 1)) (b := 92) (by omega) (by decide)).mp g
      rw [if_pos h92] at hQ
      refine q_fun (l := l + 7) (nI_1 d) hx ht (by omega) (by omega) (by omega) h6 H1 (by omega) (by omega) hg ?_
      generalize pFun tx pe (d + 1) (a + 1) t = r at hQ
      rcases r with ⟨c, a2, t2⟩ | ⟨a2, t2⟩ <;> exact hQ
  · rw [if_neg (fun q => h ⟨q, h40⟩)] at hQ
    exact hQ
theorem q_ex (hx : txOK X len tx) (h6 : 6 ≤ b1) : ∀ (f d : Nat), 1 ≤ f → 10 ≤ f + d → d ≤ 20 → HE xs o0 X len tl b0 b1 op y_Reader_expression (5 * f + 30) (pEx tx f d) d
  | 0, d, h, _, _ => by omega
  | f + 1, d, _, hfd, hd => by
    intro ℓ a t x Q hx9 hlv ht hn hl hQ
    subst hx9
    have h96 := hx.1
    have hle := hx.le a
    obtain ⟨l, rfl⟩ : ∃ l, ℓ = l + 20 := ⟨ℓ - 20, by omega⟩
    unfold pEx at hQ
    intro J hJ
    refine hJ _ _ _ _ ?_
    refine x_codeAt rfl hx (by omega) ?_
    refine And.intro (fun g => ?_) (fun g => ?_)
    · have h40 : ¬ tx a = 40 := fun e => g (by rw [e]; rfl)
      rw [if_neg h40] at hQ
      refine And.intro (fun g2 => ?_) (fun g2 => ?_)
      · have h39 : tx a = 39 := (nI_eq (a := tx a) (b := 39) (by omega) (by decide)).mp g2
        have h1 := hx.lt (a := a) (by omega)
        rw [if_pos h39] at hQ
        have ht1 : tOK (tAdd t 4 0 (nI a)) := tOK_add ht (by omega)
        refine t_add (k := 4) (v := 0) (by omega) ?_
        have hgd := g_dat hx 11 d (a + 1) _ ht1 (by rw [tn_add]; omega) (by omega)
        rw [tn_add] at hgd
        have dat : ∀ (Q' : mj_R → Prop) (z : Int32), z = nI (a + 1) → rq Q' o0 X len tl b0 b1 op (pDat tx 11 d (a + 1) (tAdd t 4 0 (nI a))) → mj_Mt gT (law_cst xs) gnw (l + 19) y_Reader_datum [.ref 10, .int (nI d)] (rdX o0 (tAdd t 4 0 (nI a)) X len z tl, b0 + 1, b1, op) Q' := by
          rintro Q' z rfl hq
          exact q_dat hx h6 11 d (by decide) (by omega) hd (l + 19) (a + 1) _ _ _ rfl (by omega) ht1 (by rw [tn_add]; omega) (by omega) hq
        refine dat _ _ (nI_1 a) ?_
        generalize pDat tx 11 d (a + 1) (tAdd t 4 0 (nI a)) = r at hgd hQ
        rcases r with ⟨c, a2, t2⟩ | ⟨a2, t2⟩
        · obtain ⟨rfl, g1, g5, g3, g4⟩ := hgd
          refine t_addPart g1 (by omega) ?_
          exact hQ
        · exact hQ
      · have h39 : ¬ tx a = 39 := fun e => g2 (by rw [e]; rfl)
        rw [if_neg h39] at hQ
        refine q_atom hx ht hn hl h6 ?_
        generalize pAtom tx a t = r at hQ
        rcases r with ⟨c, a2, t2⟩ | ⟨a2, t2⟩ <;> exact hQ
    · have h40 : tx a = 40 := (nI_eq (a := tx a) (b := 40) (by omega) (by decide)).mp g
      rw [if_pos h40] at hQ
      by_cases hd9 : d < 9
      · refine q_bra (l := l + 18) rfl hx ht hn hl (by omega) h6 (q_ex hx h6 f (d + 1) (by omega) (by omega) (by omega)) (q_ex hx h6 f (d + 2) (by omega) (by omega) (by omega)) (q_ex hx h6 f (d + 3) (by omega) (by omega) (by omega)) (by omega) (by omega) (g_ex hx f (d + 1)) (g_ex hx f (d + 2)) (g_ex hx f (d + 3)) h40 ?_
        generalize (if d < 9 then pBra tx (pEx tx f (d + 1)) (pEx tx f (d + 2)) (pEx tx f (d + 3)) (d + 1) (a + 1) t else .inr (a, t) : PR) = r at hQ
        rcases r with ⟨c, a2, t2⟩ | ⟨a2, t2⟩ <;> exact hQ
      · rw [if_neg hd9] at hQ
        intro J2 hJ2
        refine hJ2 _ _ _ _ ?_
        refine q_open rfl hx (by omega) (by omega) h6 (fun e _ => absurd e hd9) (fun _ => ?_)
        exact hQ
end P2j
end
section
abbrev cC : Type := (Nat → Vl) × (Nat → Vl) × Nat × Option Nat × Bool
abbrev cH_ (s : cC) : Nat → Vl := s.1
abbrev cT_ (s : cC) : Nat → Vl := s.2.1
abbrev cn (s : cC) : Nat := s.2.2.1
abbrev cl (s : cC) : Option Nat := s.2.2.2.1
abbrev ci (s : cC) : Bool := s.2.2.2.2
def cLk (z : Nat) (H T : Nat → Vl) (l : Option Nat) (b : Bool) (p : Vl) : (Nat → Vl) × (Nat → Vl) := match l with
  | none => (H, T)
  | some k => if k < z then (if b then (upW H k p, T) else (H, upW T k p)) else (H, T)
def cAp (z : Nat) (s : cC) (v : Vl) : cC :=
  if cn s < z then ((cLk z (upW (cH_ s) (cn s) v) (upW (cT_ s) (cn s) vNil) (cl s) (ci s) (vPr (cn s))).1, (cLk z (upW (cH_ s) (cn s) v) (upW (cT_ s) (cn s) vNil) (cl s) (ci s) (vPr (cn s))).2, cn s + 1, some (cn s), false)
  else (cH_ s, cT_ s, cn s + 1, some (cn s), false)
def cIn (z : Nat) (s : cC) (x : Int32) : cC := cAp z s (vInt x)
def cBg (z : Nat) (s : cC) : cC := ((cAp z s vNil).1, (cAp z s vNil).2.1, (cAp z s vNil).2.2.1, (cAp z s vNil).2.2.2.1, true)
def cEd (s : cC) (p : Nat) : cC := (cH_ s, cT_ s, cn s, some p, false)
theorem cAp_n (z : Nat) (s : cC) (v : Vl) : cn (cAp z s v) = cn s + 1 ∧ cl (cAp z s v) = some (cn s) := by
  unfold cAp
  split <;> exact ⟨rfl, rfl⟩
abbrev cD_ : Type := cC × (Nat → Option Nat) × Nat × Int32
abbrev dC (s : cD_) : cC := s.1
abbrev dF (s : cD_) : Nat → Option Nat := s.2.1
abbrev dK (s : cD_) : Nat := s.2.2.1
abbrev dU (s : cD_) : Int32 := s.2.2.2
def dA (z : Nat) (s : cD_) (v : Vl) : cD_ := (cAp z (dC s) v, dF s, dK s, dU s)
def dI (z : Nat) (s : cD_) (x : Int32) : cD_ := dA z s (vInt x)
def dB (z : Nat) (s : cD_) : cD_ := (cBg z (dC s), dF s, dK s, dU s)
def dE (s : cD_) (p : Nat) : cD_ := (cEd (dC s) p, dF s, dK s, dU s)
def dEn (s : cD_) (o : Option Nat) : cD_ := if dK s < 9 then (dC s, upW (dF s) (dK s) o, dK s + 1, dU s) else s
def dLv (s : cD_) : cD_ := (dC s, dF s, dK s - 1, dU s)
def dPl (t : tS) (F : Nat → Option Nat) (c : Int32) (kn : Nat) : Nat → Nat → Int32
  | 0, _ => -1
  | j + 1, i => match tPl t c 96 (F (kn - 1 - i)) with
    | some p => nI (16 * i + p)
    | none => dPl t F c kn j (i + 1)
def dNo (s : cD_) (p : Int32) : cD_ := if dU s = -1 ∨ p < dU s then (dC s, dF s, dK s, p) else s
def dVa (z : Nat) (t : tS) (o : Option Nat) (s : cD_) : cD_ :=
  dI z (dI z (if dPl t (dF s) (tEi t (tV t) o) (dK s) (dK s) 0 = -1 then dNo s (tEi t (tP t) o) else s) 2) (dPl t (dF s) (tEi t (tV t) o) (dK s) (dK s) 0)
def dRow (t : tS) (go : Option Nat → cD_ → cD_) : Nat → Option Nat → cD_ → cD_
  | 0, _, s => s
  | _ + 1, none, s => s
  | k + 1, some i, s => dRow t go k (tEn t (tN t) (some i)) (go (some i) s)
def dDa (z : Nat) (t : tS) : Nat → Nat → Option Nat → cD_ → cD_
  | 0, _, _, s => s
  | f + 1, d, o, s => if 9 < d then s else
      if tEi t (tK t) o = 1 then dA z s (vInt (tEi t (tV t) o))
      else if tEi t (tK t) o = 2 then dA z s (vSym (tEi t (tV t) o))
      else dE (dRow t (dDa z t f (d + 1)) 96 (tEn t (tF t) o) (dB z s)) (cn (dC s))
section DG
variable (z : Nat) (t : tS) (go : Option Nat → cD_ → cD_)
def dLi (o : Option Nat) (x : Int32) (s : cD_) : cD_ := dE (dI z (go o (dB z s)) x) (cn (dC s))
def dPt (k : Nat) (o : Option Nat) : Option Nat := tPt t k (tEn t (tF t) o)
def dOp (o : Option Nat) (w : Int32) (n : Nat) : Nat → Nat → cD_ → cD_
  | 0, _, s => s
  | j + 1, i, s => dOp o w n j (i + 1) (go (dPt t (if w = 13 then n - 1 - i else i) o) s)
def dCh (o : Option Nat) (s : cD_) : cD_ := dLi z go (dPt t 2 o) 9 (dLi z go (dPt t 1 o) 9 (dI z (go (dPt t 0 o) s) 8))
def dBo (o fl : Option Nat) (s : cD_) : cD_ := dLv (dLi z go o 5 (dEn (dI z s 3) fl))
def dAr (o : Option Nat) (s : cD_) : cD_ := dI z (go o s) 13
def dBA (s : cD_) : cD_ := dA z (dI z s 1) vNil
def dAs (pick : Nat → Option Nat) : Nat → cD_ → cD_
  | 0, s => s
  | k + 1, s => dAs pick k (dAr z go (pick (k + 1)) s)
def dCa (o : Option Nat) (s : cD_) : cD_ := dI z (go (dPt t 0 o) (dAs z go (fun k => dPt t k o) (tCn t 96 (tEn t (tF t) o) - 1) (dBA z s))) 4
def dBs (o : Option Nat) (s : cD_) : cD_ := dAs z go (fun k => tEn t (tF t) (dPt t k o)) (tCn t 96 (tEn t (tF t) o) - 1) (dBA z s)
def dBd (o : Option Nat) (s : cD_) : cD_ := dI z (dBo z go (dPt t 0 o) (dPt t 1 o) (dBs z t go o s)) 4
def dBf (o : Option Nat) (s : cD_) : cD_ := dI z (dBo z go (dPt t 0 o) (dPt t 1 o) (dLv (dBs z t go o (dEn (dI z s 6) (dPt t 1 o))))) 7
def dOn (o : Option Nat) (s : cD_) : cD_ := if tEi t (tV t) o = 8 then dCh z t go o s else dI z (dOp t go o (tEi t (tV t) o) (tCn t 96 (tEn t (tF t) o)) (tCn t 96 (tEn t (tF t) o)) 0 s) (tEi t (tV t) o)
end DG
def dEx (z : Nat) (t : tS) : Nat → Nat → Option Nat → cD_ → cD_
  | 0, _, _, s => s
  | f + 1, d, o, s => if 9 < d then s else
      if tEi t (tK t) o = 1 then dDa z t 11 d o (dI z s 1)
      else if tEi t (tK t) o = 2 then dVa z t o s
      else if tEi t (tK t) o = 4 then dDa z t 11 d (tEn t (tF t) o) (dI z s 1)
      else if tEi t (tK t) o = 5 then dOn z t (dEx z t f (d + 1)) o s
      else if tEi t (tK t) o = 6 then dBo z (dEx z t f (d + 1)) (dPt t 1 o) (tEn t (tF t) (dPt t 0 o)) s
      else if tEi t (tK t) o = 8 then dBd z t (dEx z t f (d + 1)) o s
      else if tEi t (tK t) o = 9 then dBf z t (dEx z t f (d + 1)) o s
      else if tEi t (tK t) o = 11 then dCa z t (dEx z t f (d + 1)) o s
      else s
def cdW (o0 : mj_O) (t : tS) (X : Nat → Int32) (len a : Nat) (z : Nat) (s : cD_) (tl : List mj_O) : List mj_O :=
  rdW o0 t X len a (oF 4 [.ref 12, .ref 13, .int (nI (cn (dC s))), .int (oV (cl (dC s))), .int (bI (ci (dC s)))] :: oJ z (eH (cH_ (dC s))) :: oJ z (eH (cT_ (dC s))) :: oF 5 [.ref 1, .ref 11, .ref 15, .int (nI (dK s)), .int (dU s)] :: oI 9 (eO (dF s)) :: tl)
section P2k
variable {m b0 b1 : Nat} {op : Bool} {tl : List mj_O} {Q : mj_R → Prop} {xs : List Int32}
variable {o0 : mj_O} {t : tS} {X : Nat → Int32} {len a z : Nat} {s : cD_}
set_option maxRecDepth 10000
theorem e_link {H T : Nat → Vl} {n : Nat} {l : Option Nat} {b : Bool} {p : Vl} {F : Nat → Option Nat} {K : Nat} {U : Int32} (hz : z ≤ 250) (hl : ∀ k, l = some k → k < 2 ^ 31) (hQ : Q (.inl none, (cdW o0 t X len a z (((cLk z H T l b p).1, (cLk z H T l b p).2, n, l, b), F, K, U) tl, b0, b1, op))) : mj_Mt gT (law_cst xs) gnw (m + 1) y_Code_link [.ref 11, .long (encV p)] (cdW o0 t X len a z ((H, T, n, l, b), F, K, U) tl, b0, b1, op) Q := by
  intro J hJ
  refine hJ _ _ _ _ ?_
  cases l with
  | none =>
    refine And.intro (fun _ => ?_) (fun g => absurd (show (-1 : Int32) < 0 by decide) g)
    exact hQ
  | some k =>
    have hk := hl k rfl
    refine And.intro (fun g => absurd g (nI_pos (n := k) hk)) (fun _ => ?_)
    refine And.intro (fun (g : nI k < nI z) => ?_) (fun (g : ¬ nI k < nI z) => ?_)
    · have h1 := (nI_ltI hk (by omega)).mp g
      have e : cLk z H T (some k) b p = (if b then (upW H k p, T) else (H, upW T k p)) := if_pos h1
      rw [e] at hQ
      have ec : (nI k).toNatClampNeg = k := nI_clamp hk
      cases b with
      | false =>
        refine And.intro (fun _ => ?_) (fun g => absurd rfl g)
        refine And.intro (vp_in_nI h1 (by omega)) ?_
        have key : ∀ (j : Nat) (W : Nat → Int64), j = k → W = vp_updL (eH T) j (encV p) → Q (.inl none, (rdW o0 t X len a (oF 4 [.ref 12, .ref 13, .int (nI n), .int (oV (some k)), .int (bI false)] :: oJ z (eH H) :: oJ z W :: oF 5 [.ref 1, .ref 11, .ref 15, .int (nI K), .int U] :: oI 9 (eO F) :: tl), b0, b1, op)) := by
          rintro j W rfl rfl
          rw [updL_enc]
          exact hQ
        exact key _ _ ec rfl
      | true =>
        refine And.intro (fun g => absurd (show (1 : Int32) = 0 from g) (by decide)) (fun _ => ?_)
        refine And.intro (vp_in_nI h1 (by omega)) ?_
        have key : ∀ (j : Nat) (W : Nat → Int64), j = k → W = vp_updL (eH H) j (encV p) → Q (.inl none, (rdW o0 t X len a (oF 4 [.ref 12, .ref 13, .int (nI n), .int (oV (some k)), .int (bI true)] :: oJ z W :: oJ z (eH T) :: oF 5 [.ref 1, .ref 11, .ref 15, .int (nI K), .int U] :: oI 9 (eO F) :: tl), b0, b1, op)) := by
          rintro j W rfl rfl
          rw [updL_enc]
          exact hQ
        exact key _ _ ec rfl
    · have h1 : ¬ k < z := fun q => g (nI_lt q (by omega))
      have e : cLk z H T (some k) b p = (H, T) := if_neg h1
      rw [e] at hQ
      exact hQ
theorem e_append {v : Vl} (hz : z ≤ 250) (hn : cn (dC s) < 2 ^ 30) (hl : ∀ k, cl (dC s) = some k → k < 2 ^ 31) (hQ : Q (.inl none, (cdW o0 t X len a z (dA z s v) tl, b0, b1, op))) : mj_Mt gT (law_cst xs) gnw (m + 2) y_Code_append [.ref 11, .long (encV v)] (cdW o0 t X len a z s tl, b0, b1, op) Q := by
  obtain ⟨⟨H, T, n, l, b⟩, F, K, U⟩ := s
  have hn : n < 2 ^ 30 := hn
  have hl : ∀ k, l = some k → k < 2 ^ 31 := hl
  unfold dA cAp at hQ
  intro J hJ
  refine hJ _ _ _ _ ?_
  refine And.intro (fun (g : nI z ≤ nI n) => ?_) (fun (g : ¬ nI z ≤ nI n) => ?_)
  · have h1 := (nI_leI (by omega) (by omega)).mp g
    rw [if_neg (show ¬ cn (dC (((H, T, n, l, b), F, K, U) : cD_)) < z from by show ¬ n < z; omega)] at hQ
    have key : ∀ x : Int32, x = nI (n + 1) → Q (.inl none, (rdW o0 t X len a (oF 4 [.ref 12, .ref 13, .int x, .int (nI n), .int 0] :: oJ z (eH H) :: oJ z (eH T) :: oF 5 [.ref 1, .ref 11, .ref 15, .int (nI K), .int U] :: oI 9 (eO F) :: tl), b0, b1, op)) := by
      rintro x rfl
      exact hQ
    exact And.intro (Or.inl rfl) (key _ (nI_1 n))
  · have h1 : n < z := Nat.lt_of_not_le (fun q => g (nI_le q (by omega)))
    rw [if_pos (show cn (dC (((H, T, n, l, b), F, K, U) : cD_)) < z from h1)] at hQ
    have ec : (nI n).toNatClampNeg = n := nI_clamp (by omega)
    refine And.intro (vp_in_nI h1 (by omega)) (And.intro (vp_in_nI h1 (by omega)) ?_)
    refine v_pair ?_
    have key : ∀ (x : Int32) (i : Nat) (w : Int64), x = nI (n + 1) → i = n → w = encV vNil → mj_Mt gT (law_cst xs) gnw (m + 1) y_Code_link [.ref 11, .long (encV (vPr n))] (rdW o0 t X len a (oF 4 [.ref 12, .ref 13, .int x, .int (oV l), .int (bI b)] :: oJ z (vp_updL (eH H) i (encV v)) :: oJ z (vp_updL (eH T) i w) :: oF 5 [.ref 1, .ref 11, .ref 15, .int (nI K), .int U] :: oI 9 (eO F) :: tl), b0, b1, op) (mj_after (mj_hd (mj_off kO_Code_append) kH_Code_append) Q (mj_sg (mj_Mt gT (law_cst xs) gnw (m + 1)) (law_cst xs) gnw (mj_hd (mj_off kO_Code_append) kH_Code_append) kC_Code_append J Q 372 false) 27 [some (.ref 11), some (.long (encV v)), none, some (.int (nI n))] []) := by
      rintro x i w rfl rfl rfl
      rw [updL_enc, updL_enc]
      refine e_link (n := i + 1) (F := F) (K := K) (U := U) hz hl ?_
      exact And.intro (Or.inl rfl) hQ
    exact key _ _ _ (nI_1 n) ec rfl
theorem e_instr {x : Int32} (hz : z ≤ 250) (hn : cn (dC s) < 2 ^ 30) (hl : ∀ k, cl (dC s) = some k → k < 2 ^ 31) (hQ : Q (.inl none, (cdW o0 t X len a z (dI z s x) tl, b0, b1, op))) : mj_Mt gT (law_cst xs) gnw (m + 3) y_Code_instruction [.ref 11, .int x] (cdW o0 t X len a z s tl, b0, b1, op) Q := by
  intro J hJ
  refine hJ _ _ _ _ ?_
  refine v_number ?_
  refine e_append hz hn hl ?_
  exact hQ
theorem e_begin (hz : z ≤ 250) (hn : cn (dC s) < 2 ^ 30) (hl : ∀ k, cl (dC s) = some k → k < 2 ^ 31) (hQ : Q (.inl (some (.int (nI (cn (dC s))))), (cdW o0 t X len a z (dB z s) tl, b0, b1, op))) : mj_Mt gT (law_cst xs) gnw (m + 3) y_Code_beginList [.ref 11] (cdW o0 t X len a z s tl, b0, b1, op) Q := by
  intro J hJ
  refine hJ _ _ _ _ ?_
  refine e_append (v := vNil) hz hn hl ?_
  refine And.intro (Or.inr rfl) ?_
  have e := (cAp_n z (dC s) vNil).2
  have key : ∀ o : Option Nat, o = some (cn (dC s)) → Q (.inl (some (.int (oV o))), (cdW o0 t X len a z (dB z s) tl, b0, b1, op)) := by
    rintro o rfl
    exact hQ
  exact key _ e
theorem e_end {p : Nat} (hQ : Q (.inl none, (cdW o0 t X len a z (dE s p) tl, b0, b1, op))) : mj_Mt gT (law_cst xs) gnw (m + 1) y_Code_endList [.ref 11, .int (nI p)] (cdW o0 t X len a z s tl, b0, b1, op) Q := by
  intro J hJ
  refine hJ _ _ _ _ ?_
  exact And.intro (Or.inl rfl) hQ
end P2k
end
section
def sOK (s : cD_) : Prop := dK s ≤ 9 ∧ (∀ k, cl (dC s) = some k → k ≤ cn (dC s)) ∧ ∀ i j, dF s i = some j → j < 1000
def sM (s s' : cD_) : Prop := sOK s' ∧ cn (dC s) ≤ cn (dC s')
def oB (o : Option Nat) : Prop := ∀ i, o = some i → i < 1000
def SGo (go : Option Nat → cD_ → cD_) : Prop := ∀ o s, oB o → sOK s → sM s (go o s)
theorem sM.tr {a b c : cD_} (h1 : sM a b) (h2 : sM b c) : sM a c := ⟨h2.1, Nat.le_trans h1.2 h2.2⟩
theorem sM.rf {a : cD_} (h : sOK a) : sM a a := ⟨h, Nat.le_refl _⟩
theorem s_A {z : Nat} {s : cD_} {v : Vl} (h : sOK s) : sM s (dA z s v) := by
  obtain ⟨h1, h2⟩ := cAp_n z (dC s) v
  refine ⟨⟨h.1, fun k e => ?_, h.2.2⟩, ?_⟩
  · have e : cl (cAp z (dC s) v) = some k := e
    rw [h2] at e
    cases e
    show cn (dC s) ≤ cn (cAp z (dC s) v)
    omega
  · show cn (dC s) ≤ cn (cAp z (dC s) v)
    omega
theorem s_B {z : Nat} {s : cD_} (h : sOK s) : sM s (dB z s) ∧ cn (dC (dB z s)) = cn (dC s) + 1 := by
  obtain ⟨h1, h2⟩ := cAp_n z (dC s) vNil
  refine ⟨⟨⟨h.1, fun k e => ?_, h.2.2⟩, ?_⟩, h1⟩
  · have e : cl (cAp z (dC s) vNil) = some k := e
    rw [h2] at e
    cases e
    show cn (dC s) ≤ cn (cAp z (dC s) vNil)
    omega
  · show cn (dC s) ≤ cn (cAp z (dC s) vNil)
    omega
theorem s_E {s : cD_} {p : Nat} (h : sOK s) (hp : p ≤ cn (dC s)) : sM s (dE s p) := by
  refine ⟨⟨h.1, fun k e => ?_, h.2.2⟩, Nat.le_refl _⟩
  have e : some p = some k := e
  cases e
  exact hp
theorem s_En {s : cD_} {o : Option Nat} (ho : oB o) (h : sOK s) : sM s (dEn s o) := by
  unfold dEn
  split
  · next h9 =>
    refine ⟨⟨h9, h.2.1, fun i j e => ?_⟩, Nat.le_refl _⟩
    have e : (if i = dK s then o else dF s i) = some j := e
    split at e
    · exact ho j e
    · exact h.2.2 i j e
  · exact sM.rf h
theorem s_Lv {s : cD_} (h : sOK s) : sM s (dLv s) := ⟨⟨by show dK s - 1 ≤ 9; have := h.1; omega, h.2.1, h.2.2⟩, Nat.le_refl _⟩
theorem s_No {s : cD_} {p : Int32} (h : sOK s) : sM s (dNo s p) := by
  unfold dNo
  split
  · exact ⟨⟨h.1, h.2.1, h.2.2⟩, Nat.le_refl _⟩
  · exact sM.rf h
theorem s_Va {z : Nat} {t : tS} {o : Option Nat} {s : cD_} (h : sOK s) : sM s (dVa z t o s) := by
  unfold dVa dI
  split
  · exact (s_No h).tr ((s_A (s_No h).1).tr (s_A (s_A (s_No h).1).1))
  · exact (s_A h).tr (s_A (s_A h).1)
theorem s_Row {t : tS} {go : Option Nat → cD_ → cD_} (ht : tOK t) (hg : SGo go) : ∀ (k : Nat) (o : Option Nat) (s : cD_), oB o → sOK s → sM s (dRow t go k o s)
  | 0, o, s, ho, h => sM.rf h
  | k + 1, none, s, ho, h => sM.rf h
  | k + 1, some i, s, ho, h => (hg _ _ ho h).tr (s_Row ht hg k _ _ (tEn_lt ht.2.2.2 _) (hg _ _ ho h).1)
theorem s_Da {z : Nat} {t : tS} (ht : tOK t) : ∀ f d, SGo (dDa z t f d)
  | 0, d, o, s, ho, h => sM.rf h
  | f + 1, d, o, s, ho, h => by
    unfold dDa
    split
    · exact sM.rf h
    · split
      · exact s_A h
      · split
        · exact s_A h
        · obtain ⟨h1, h2⟩ := s_B (z := z) h
          have h3 := s_Row ht (s_Da (z := z) ht f (d + 1)) 96 (tEn t (tF t) o) (dB z s) (tEn_lt ht.2.1 _) h1.1
          exact (h1.tr h3).tr (s_E h3.1 (by have := h1.2; have := h3.2; omega))
section SG
variable {z : Nat} {t : tS} {go : Option Nat → cD_ → cD_}
theorem s_Li {o : Option Nat} {x : Int32} {s : cD_} (hg : SGo go) (ho : oB o) (h : sOK s) : sM s (dLi z go o x s) := by
  obtain ⟨h1, h2⟩ := s_B (z := z) h
  have h3 := hg _ _ ho h1.1
  have h4 := s_A (z := z) (v := vInt x) h3.1
  exact ((h1.tr h3).tr h4).tr (s_E h4.1 (by have := h1.2; have := h3.2; have := h4.2; omega))
theorem oB_pt (ht : tOK t) (k : Nat) (o : Option Nat) : oB (dPt t k o) := tPt_lt ht k _ (tEn_lt ht.2.1 o)
theorem s_Op (ht : tOK t) (hg : SGo go) {o : Option Nat} {w : Int32} {n : Nat} : ∀ (j i : Nat) (s : cD_), sOK s → sM s (dOp t go o w n j i s)
  | 0, i, s, h => sM.rf h
  | j + 1, i, s, h => (hg _ _ (oB_pt ht _ o) h).tr (s_Op ht hg j (i + 1) _ (hg _ _ (oB_pt ht _ o) h).1)
theorem s_Ch (ht : tOK t) (hg : SGo go) {o : Option Nat} {s : cD_} (h : sOK s) : sM s (dCh z t go o s) := by
  have h1 := hg _ _ (oB_pt ht 0 o) h
  have h2 := s_A (z := z) (v := vInt 8) h1.1
  have h3 := s_Li (z := z) (x := 9) hg (oB_pt ht 1 o) h2.1
  exact ((h1.tr h2).tr h3).tr (s_Li hg (oB_pt ht 2 o) h3.1)
theorem s_Bo (hg : SGo go) {o fl : Option Nat} {s : cD_} (ho : oB o) (hf : oB fl) (h : sOK s) : sM s (dBo z go o fl s) := by
  have h1 := s_A (z := z) (v := vInt 3) h
  have h2 := s_En hf h1.1
  have h3 := s_Li (z := z) (x := 5) hg ho h2.1
  exact ((h1.tr h2).tr h3).tr (s_Lv h3.1)
theorem s_As (hg : SGo go) {pick : Nat → Option Nat} (hp : ∀ k, oB (pick k)) : ∀ (k : Nat) (s : cD_), sOK s → sM s (dAs z go pick k s)
  | 0, s, h => sM.rf h
  | k + 1, s, h => by
    have h1 := hg _ _ (hp (k + 1)) h
    have h2 := s_A (z := z) (v := vInt 13) h1.1
    exact (h1.tr h2).tr (s_As hg hp k _ h2.1)
theorem s_BA {s : cD_} (h : sOK s) : sM s (dBA z s) := (s_A h).tr (s_A (s_A h).1)
theorem s_Ca (ht : tOK t) (hg : SGo go) {o : Option Nat} {s : cD_} (h : sOK s) : sM s (dCa z t go o s) := by
  have h1 := s_BA (z := z) h
  have h2 := s_As (z := z) hg (pick := fun k => dPt t k o) (fun k => oB_pt ht k o) (tCn t 96 (tEn t (tF t) o) - 1) _ h1.1
  have h3 := hg _ _ (oB_pt ht 0 o) h2.1
  exact ((h1.tr h2).tr h3).tr (s_A h3.1)
theorem s_Bs (ht : tOK t) (hg : SGo go) {o : Option Nat} {s : cD_} (h : sOK s) : sM s (dBs z t go o s) := by
  have h1 := s_BA (z := z) h
  exact h1.tr (s_As (z := z) hg (pick := fun k => tEn t (tF t) (dPt t k o)) (fun k => tEn_lt ht.2.1 _) (tCn t 96 (tEn t (tF t) o) - 1) _ h1.1)
theorem s_Bd (ht : tOK t) (hg : SGo go) {o : Option Nat} {s : cD_} (h : sOK s) : sM s (dBd z t go o s) := by
  have h1 := s_Bs (z := z) ht hg (o := o) h
  have h2 := s_Bo (z := z) hg (oB_pt ht 0 o) (oB_pt ht 1 o) h1.1
  exact (h1.tr h2).tr (s_A h2.1)
theorem s_Bf (ht : tOK t) (hg : SGo go) {o : Option Nat} {s : cD_} (h : sOK s) : sM s (dBf z t go o s) := by
  have h1 := s_A (z := z) (v := vInt 6) h
  have h2 := s_En (oB_pt ht 1 o) h1.1
  have h3 := s_Bs (z := z) ht hg (o := o) h2.1
  have h4 := s_Lv h3.1
  have h5 := s_Bo (z := z) hg (oB_pt ht 0 o) (oB_pt ht 1 o) h4.1
  exact ((((h1.tr h2).tr h3).tr h4).tr h5).tr (s_A h5.1)
theorem s_On (ht : tOK t) (hg : SGo go) {o : Option Nat} {s : cD_} (h : sOK s) : sM s (dOn z t go o s) := by
  unfold dOn
  split
  · exact s_Ch ht hg h
  · have h1 := s_Op ht hg (o := o) (w := tEi t (tV t) o) (n := tCn t 96 (tEn t (tF t) o)) (tCn t 96 (tEn t (tF t) o)) 0 s h
    exact h1.tr (s_A h1.1)
end SG
theorem s_Ex {z : Nat} {t : tS} (ht : tOK t) : ∀ f d, SGo (dEx z t f d)
  | 0, d, o, s, ho, h => sM.rf h
  | f + 1, d, o, s, ho, h => by
    have hg := s_Ex (z := z) ht f (d + 1)
    unfold dEx
    split
    · exact sM.rf h
    · split
      · exact (s_A h).tr (s_Da ht 11 d o _ ho (s_A h).1)
      · split
        · exact s_Va h
        · split
          · exact (s_A h).tr (s_Da ht 11 d _ _ (tEn_lt ht.2.1 _) (s_A h).1)
          · split
            · exact s_On ht hg h
            · split
              · exact s_Bo hg (oB_pt ht 1 o) (tEn_lt ht.2.1 _) h
              · split
                · exact s_Bd ht hg h
                · split
                  · exact s_Bf ht hg h
                  · split
                    · exact s_Ca ht hg h
                    · exact sM.rf h
end
section
section P2l
variable {m b0 b1 : Nat} {op : Bool} {tl : List mj_O} {Q : mj_R → Prop} {xs : List Int32}
variable {o0 : mj_O} {t : tS} {X : Nat → Int32} {len a z : Nat} {s : cD_}
set_option maxRecDepth 10000
def HC (xs : List Int32) (o0 : mj_O) (t : tS) (X : Nat → Int32) (len a z : Nat) (tl : List mj_O) (b0 b1 : Nat) (op : Bool) (y lv : Nat) (go : Option Nat → cD_ → cD_) (d : Nat) : Prop :=
  ∀ (ℓ : Nat) (o : Option Nat) (s : cD_) (x w : Int32) (Q : mj_R → Prop), x = oV o → w = nI d → lv ≤ ℓ → oB o → sOK s → cn (dC (go o s)) < 2 ^ 30 → Q (.inl none, (cdW o0 t X len a z (go o s) tl, b0, b1, op)) → mj_Mt gT (law_cst xs) gnw ℓ y [.ref 14, .int x, .int w] (cdW o0 t X len a z s tl, b0, b1, op) Q
theorem sOK.lt {s : cD_} (h : sOK s) (hn : cn (dC s) < 2 ^ 30) : ∀ k, cl (dC s) = some k → k < 2 ^ 31 := fun k e => by have := h.2.1 k e; omega
theorem m_in {x : Int32} (hz : z ≤ 250) (h : sOK s) (hn : cn (dC (dI z s x)) < 2 ^ 30) (hQ : Q (.inl none, (cdW o0 t X len a z (dI z s x) tl, b0, b1, op))) : mj_Mt gT (law_cst xs) gnw (m + 3) y_Code_instruction [.ref 11, .int x] (cdW o0 t X len a z s tl, b0, b1, op) Q := by
  have h1 : cn (dC (dI z s x)) = cn (dC s) + 1 := (cAp_n z (dC s) (vInt x)).1
  exact e_instr hz (by omega) (h.lt (by omega)) hQ
theorem m_ap {v : Vl} (hz : z ≤ 250) (h : sOK s) (hn : cn (dC (dA z s v)) < 2 ^ 30) (hQ : Q (.inl none, (cdW o0 t X len a z (dA z s v) tl, b0, b1, op))) : mj_Mt gT (law_cst xs) gnw (m + 2) y_Code_append [.ref 11, .long (encV v)] (cdW o0 t X len a z s tl, b0, b1, op) Q := by
  have h1 : cn (dC (dA z s v)) = cn (dC s) + 1 := (cAp_n z (dC s) v).1
  exact e_append hz (by omega) (h.lt (by omega)) hQ
theorem m_bg (hz : z ≤ 250) (h : sOK s) (hn : cn (dC (dB z s)) < 2 ^ 30) (hQ : Q (.inl (some (.int (nI (cn (dC s))))), (cdW o0 t X len a z (dB z s) tl, b0, b1, op))) : mj_Mt gT (law_cst xs) gnw (m + 3) y_Code_beginList [.ref 11] (cdW o0 t X len a z s tl, b0, b1, op) Q := by
  have h1 := (s_B (z := z) h).2
  exact e_begin hz (by omega) (h.lt (by omega)) hQ
theorem m_note {p : Int32} (hQ : Q (.inl none, (cdW o0 t X len a z (dNo s p) tl, b0, b1, op))) : mj_Mt gT (law_cst xs) gnw (m + 1) y_Coder_noteUnknown [.ref 14, .int p] (cdW o0 t X len a z s tl, b0, b1, op) Q := by
  unfold dNo at hQ
  intro J hJ
  refine hJ _ _ _ _ ?_
  refine And.intro (fun (g : dU s = -1) => ?_) (fun (g : ¬ dU s = -1) => ?_)
  · rw [if_pos (Or.inl g)] at hQ
    exact hQ
  · refine And.intro (fun (g2 : dU s ≤ p) => ?_) (fun (g2 : ¬ dU s ≤ p) => ?_)
    · rw [if_neg (fun q => q.elim g (fun q => absurd q (Int32.not_lt.mpr g2)))] at hQ
      exact hQ
    · rw [if_pos (Or.inr (Int32.not_le.mp g2))] at hQ
      exact hQ
theorem m_enter {o : Option Nat} {x : Int32} (hx : x = oV o) (h : sOK s) (hQ : Q (.inl none, (cdW o0 t X len a z (dEn s o) tl, b0, b1, op))) : mj_Mt gT (law_cst xs) gnw (m + 1) y_Coder_enter [.ref 14, .int x] (cdW o0 t X len a z s tl, b0, b1, op) Q := by
  subst hx
  have h9 := h.1
  obtain ⟨C, F, K, U⟩ := s
  have h9 : K ≤ 9 := h9
  unfold dEn at hQ
  intro J hJ
  refine hJ _ _ _ _ ?_
  refine And.intro (fun (g : nI 9 ≤ nI K) => ?_) (fun (g : ¬ nI 9 ≤ nI K) => ?_)
  · have h1 := (nI_leI (by decide) (by omega)).mp g
    rw [if_neg (show ¬ K < 9 by omega)] at hQ
    exact hQ
  · have h1 : K < 9 := Nat.lt_of_not_le (fun q => g (nI_le q (by omega)))
    rw [if_pos (show K < 9 from h1)] at hQ
    refine And.intro (vp_in_nI h1 (by decide)) ?_
    have key : ∀ (j : Nat) (y : Int32), j = K → y = nI (K + 1) → Q (.inl none, (rdW o0 t X len a (oF 4 [.ref 12, .ref 13, .int (nI (cn C)), .int (oV (cl C)), .int (bI (ci C))] :: oJ z (eH (cH_ C)) :: oJ z (eH (cT_ C)) :: oF 5 [.ref 1, .ref 11, .ref 15, .int y, .int U] :: oI 9 (upd (eO F) j (oV o)) :: tl), b0, b1, op)) := by
      rintro j y rfl rfl
      rw [upd_eO]
      exact hQ
    exact key _ _ (nI_clamp (by omega)) (nI_1 K)
theorem m_leave (h : sOK s) (hQ : Q (.inl none, (cdW o0 t X len a z (dLv s) tl, b0, b1, op))) : mj_Mt gT (law_cst xs) gnw (m + 1) y_Coder_leave [.ref 14] (cdW o0 t X len a z s tl, b0, b1, op) Q := by
  have h9 := h.1
  obtain ⟨C, F, K, U⟩ := s
  have h9 : K ≤ 9 := h9
  intro J hJ
  refine hJ _ _ _ _ ?_
  cases K with
  | zero =>
    refine And.intro (fun _ => ?_) (fun g => absurd (show nI 0 ≤ 0 by decide) g)
    exact hQ
  | succ K =>
    refine And.intro (fun g => absurd g (nI_nle (n := K + 1) (by omega) (by omega))) (fun _ => ?_)
    have key : ∀ (y : Int32), y = nI K → Q (.inl none, (rdW o0 t X len a (oF 4 [.ref 12, .ref 13, .int (nI (cn C)), .int (oV (cl C)), .int (bI (ci C))] :: oJ z (eH (cH_ C)) :: oJ z (eH (cT_ C)) :: oF 5 [.ref 1, .ref 11, .ref 15, .int y, .int U] :: oI 9 (eO F) :: tl), b0, b1, op)) := by
      rintro y rfl
      exact hQ
    exact key _ (nI_pred K)
theorem tPl_lt {t : tS} {c : Int32} : ∀ (k : Nat) (o : Option Nat) (i : Nat), tPl t c k o = some i → i < k := by
  intro k
  induction k with
  | zero => intro o i e; cases e
  | succ k ih =>
    intro o i e
    cases o with
    | none => cases e
    | some q =>
      unfold tPl at e
      split at e
      · split at e
        · cases e; omega
        · cases h9 : tPl t c k (tN t q) with
          | none => rw [h9] at e; cases e
          | some w =>
            rw [h9] at e
            have := ih _ _ h9
            cases e
            show w + 1 < k + 1
            omega
      · cases e
theorem m_placeOf {c : Int32} (ht : tOK t) (h : sOK s) (hQ : Q (.inl (some (.int (dPl t (dF s) c (dK s) (dK s) 0))), (cdW o0 t X len a z s tl, b0, b1, op))) : mj_Mt gT (law_cst xs) gnw (m + 2) y_Coder_placeOf [.ref 14, .int c] (cdW o0 t X len a z s tl, b0, b1, op) Q := by
  have h9 := h.1
  have hF := h.2.2
  obtain ⟨C, F, K, U⟩ := s
  have h9 : K ≤ 9 := h9
  have hF : ∀ i j, F i = some j → j < 1000 := hF
  have hQ : Q (.inl (some (.int (dPl t F c K K 0))), (cdW o0 t X len a z (C, F, K, U) tl, b0, b1, op)) := hQ
  generalize hr : dPl t F c K K 0 = r at hQ
  intro J hJ
  have loop : ∀ (j i : Nat) (x : Int32) (v3 : Option Value), (v3 = none ∨ ∃ w : Int32, v3 = some (.int w)) → j + i = K → x = nI i → dPl t F c K j i = r → J 2 [some (.ref 14), some (.int c), some (.int x), v3] [] (cdW o0 t X len a z (C, F, K, U) tl, b0, b1, op) := by
    intro j
    induction j with
    | zero =>
      intro i x v3 hv hi hx e
      subst hx
      refine hJ _ _ _ _ ?_
      refine And.intro (fun _ => ?_) (fun g => absurd (nI_le (a := K) (b := i) (by omega) (by omega)) g)
      rw [← e] at hQ
      exact hQ
    | succ j ih =>
      intro i x v3 hv hi hx e
      subst hx
      have e1 : nI K - Int32.ofInt 1 - nI i = nI (K - 1 - i) := by
        rw [show nI K - Int32.ofInt 1 = nI (K - 1) from pk_sub (a := K) (b := 1) (by omega)]
        exact pk_sub (by omega)
      have ec : (nI (K - 1 - i)).toNatClampNeg = K - 1 - i := nI_clamp (by omega)
      have go : ∀ (F2 : Nat) (w : Option Nat) (v3 : Option Value), w = tPl t c 96 (F (K - 1 - i)) → mj_sg (mj_Mt gT (law_cst xs) gnw (m + 1)) (law_cst xs) gnw (mj_hd (mj_off kO_Coder_placeOf) kH_Coder_placeOf) kC_Coder_placeOf J Q (F2 + 30) false 20 [some (.ref 14), some (.int c), some (.int (nI i)), some (.int (oV w))] [] (cdW o0 t X len a z (C, F, K, U) tl, b0, b1, op) := by
        intro F2 w v3 hw
        unfold dPl at e
        rw [← hw] at e
        cases w with
        | none =>
          refine And.intro (fun _ => ?_) (fun g => absurd rfl g)
          exact ih (i + 1) _ _ (Or.inr ⟨_, rfl⟩) (by omega) (nI_1 i) e
        | some p =>
          have hp := tPl_lt 96 _ p hw.symm
          refine And.intro (fun g => absurd g (oV_ne (k := p) (by omega))) (fun _ => ?_)
          have e2 : Int32.ofInt 16 * nI i + oV (some p) = nI (16 * i + p) := by
            rw [show Int32.ofInt 16 * nI i = nI (16 * i) from pk_mul 16 i]
            exact nI_add _ p
          have e : nI (16 * i + p) = r := e
          rw [← e, ← e2] at hQ
          exact hQ
      refine hJ _ _ _ _ ?_
      rcases hv with rfl | ⟨w, rfl⟩
      · refine And.intro (fun g => absurd g (nI_ge (a := i) (b := K) (by omega) (by omega))) (fun _ => ?_)
        refine And.intro (show vp_in (nI K - Int32.ofInt 1 - nI i) 9 by rw [e1]; exact vp_in_nI (by omega) (by decide)) ?_
        refine t_placeOf (o := F (K - 1 - i)) (by rw [e1, ec]) ht (hF _) ?_
        exact go _ _ none rfl
      · refine And.intro (fun g => absurd g (nI_ge (a := i) (b := K) (by omega) (by omega))) (fun _ => ?_)
        refine And.intro (show vp_in (nI K - Int32.ofInt 1 - nI i) 9 by rw [e1]; exact vp_in_nI (by omega) (by decide)) ?_
        refine t_placeOf (o := F (K - 1 - i)) (by rw [e1, ec]) ht (hF _) ?_
        exact go _ _ none rfl
  refine hJ _ _ _ _ ?_
  exact loop K 0 _ none (Or.inl rfl) rfl rfl hr
theorem m_var {o : Option Nat} {x : Int32} (hx : x = oV o) (hz : z ≤ 250) (ht : tOK t) (ho : oB o) (h : sOK s) (hn : cn (dC (dVa z t o s)) < 2 ^ 30) (hQ : Q (.inl none, (cdW o0 t X len a z (dVa z t o s) tl, b0, b1, op))) : mj_Mt gT (law_cst xs) gnw (m + 5) y_Coder_variable [.ref 14, .int x] (cdW o0 t X len a z s tl, b0, b1, op) Q := by
  unfold dVa at hQ hn
  intro J hJ
  refine hJ _ _ _ _ ?_
  refine t_value hx ht.1 ho ?_
  refine m_placeOf ht h ?_
  generalize dPl t (dF s) (tEi t (tV t) o) (dK s) (dK s) 0 = w at hQ hn
  have tail : ∀ (F : Nat) (s2 : cD_), sOK s2 → cn (dC (dI z (dI z s2 2) w)) < 2 ^ 30 → Q (.inl none, (cdW o0 t X len a z (dI z (dI z s2 2) w) tl, b0, b1, op)) → mj_sg (mj_Mt gT (law_cst xs) gnw (m + 4)) (law_cst xs) gnw (mj_hd (mj_off kO_Coder_variable) kH_Coder_variable) kC_Coder_variable J Q (F + 20) false 16 [some (.ref 14), some (.int x), some (.int w)] [] (cdW o0 t X len a z s2 tl, b0, b1, op) := by
    intro F s2 h2 hn2 hq
    have h3 := s_A (z := z) (v := vInt 2) h2
    have h4 := s_A (z := z) (v := vInt w) h3.1
    have := h4.2
    unfold dI at *
    refine m_in (x := 2) hz h2 (by unfold dI; omega) ?_
    refine v_number ?_
    refine m_ap hz h3.1 hn2 ?_
    exact hq
  by_cases hw : w = -1
  · rw [if_pos hw] at hQ hn
    refine And.intro (fun g => absurd hw g) (fun _ => ?_)
    refine t_positionOf hx ht.1 ho ?_
    refine m_note ?_
    exact tail _ _ (s_No h).1 hn hQ
  · rw [if_neg hw] at hQ hn
    refine And.intro (fun _ => ?_) (fun g => absurd g hw)
    exact tail _ _ h hn hQ
end P2l
end
section
section P2m
variable {m b0 b1 : Nat} {op : Bool} {tl : List mj_O} {Q : mj_R → Prop} {xs : List Int32}
variable {o0 : mj_O} {t : tS} {X : Nat → Int32} {len a z : Nat} {s : cD_}
set_option maxRecDepth 10000
theorem s_I {z : Nat} {s : cD_} {x : Int32} (h : sOK s) : sM s (dI z s x) := s_A h
theorem m_dat (hz : z ≤ 250) (ht : tOK t) : ∀ (f d : Nat), 1 ≤ f → 11 ≤ f + d → d ≤ 20 → HC xs o0 t X len a z tl b0 b1 op y_Coder_datum (f + 8) (dDa z t f d) d
  | 0, d, h, _, _ => by omega
  | f + 1, d, _, hfd, hd => by
    intro ℓ o s x w Q hx hw hlv ho h hn hQ
    subst hx
    subst hw
    obtain ⟨l, rfl⟩ : ∃ l, ℓ = l + 8 := ⟨ℓ - 8, by omega⟩
    unfold dDa at hQ hn
    intro J hJ
    refine hJ _ _ _ _ ?_
    refine And.intro (fun (g : nI d ≤ nI 9) => ?_) (fun (g : ¬ nI d ≤ nI 9) => ?_)
    · have hd9 := (nI_leI (by omega) (by decide)).mp g
      rw [if_neg (by omega)] at hQ hn
      refine t_kind rfl ht.1 ho ?_
      generalize tEi t (tK t) o = kd at hQ hn
      refine And.intro (fun (g1 : ¬ kd = 1) => ?_) (fun (g1 : kd = 1) => ?_)
      · rw [if_neg g1] at hQ hn
        refine And.intro (fun (g2 : ¬ kd = 2) => ?_) (fun (g2 : kd = 2) => ?_)
        · rw [if_neg g2] at hQ hn
          obtain ⟨hB1, hB2⟩ := s_B (z := z) h
          have hR := s_Row ht (s_Da (z := z) ht f (d + 1)) 96 (tEn t (tF t) o) (dB z s) (tEn_lt ht.2.1 _) hB1.1
          have hR2 := hR.2
          have hn2 : cn (dC (dRow t (dDa z t f (d + 1)) 96 (tEn t (tF t) o) (dB z s))) < 2 ^ 30 := hn
          refine m_bg hz h (by omega) ?_
          refine t_firstPart rfl ht.1 ho ?_
          have loop : ∀ (j i : Nat) (o2 : Option Nat) (s2 : cD_) (x2 : Int32), j + i = 96 → x2 = nI i → oB o2 → sOK s2 → dRow t (dDa z t f (d + 1)) j o2 s2 = dRow t (dDa z t f (d + 1)) 96 (tEn t (tF t) o) (dB z s) → J 44 [some (.ref 14), some (.int (oV o)), some (.int (nI d)), some (.int kd), some (.int (nI (cn (dC s)))), some (.int (oV o2)), some (.int x2)] [] (cdW o0 t X len a z s2 tl, b0, b1, op) := by
            intro j
            induction j with
            | zero =>
              intro i o2 s2 x2 hi hx2 ho2 h2 e
              subst hx2
              obtain rfl : i = 96 := by omega
              refine hJ _ _ _ _ ?_
              refine And.intro (fun _ => ?_) (fun g => absurd (by decide) g)
              rw [← e] at hQ
              exact e_end hQ
            | succ j ih =>
              intro i o2 s2 x2 hi hx2 ho2 h2 e
              subst hx2
              refine hJ _ _ _ _ ?_
              refine And.intro (fun g => absurd g (nI_ge (a := i) (b := 96) (by omega) (by decide))) (fun _ => ?_)
              cases o2 with
              | none =>
                refine And.intro (fun _ => ?_) (fun g => absurd rfl g)
                rw [← e] at hQ
                exact e_end hQ
              | some q =>
                have hq := ho2 q rfl
                refine And.intro (fun g => absurd g (oV_ne (k := q) (by omega))) (fun _ => ?_)
                have h3 := s_Da (z := z) ht f (d + 1) (some q) s2 ho2 h2
                have h4 := s_Row ht (s_Da (z := z) ht f (d + 1)) j (tEn t (tN t) (some q)) _ (tEn_lt ht.2.2.2 _) h3.1
                have e : dRow t (dDa z t f (d + 1)) j (tEn t (tN t) (some q)) (dDa z t f (d + 1) (some q) s2) = _ := e
                have h5 := h4.2
                rw [e] at h5
                refine m_dat hz ht f (d + 1) (by omega) (by omega) (by omega) (l + 7) (some q) s2 _ _ _ rfl (nI_1 d) (by omega) ho2 h2 (by omega) ?_
                refine t_follower rfl ht.1 ho2 ?_
                exact ih (i + 1) _ _ _ (by omega) (nI_1 i) (tEn_lt ht.2.2.2 _) h3.1 e
          exact loop 96 0 _ _ _ rfl rfl (tEn_lt ht.2.1 _) hB1.1 rfl
        · rw [if_pos g2] at hQ hn
          refine t_value rfl ht.1 ho ?_
          refine v_symbol ?_
          refine m_ap hz h hn ?_
          exact hQ
      · rw [if_pos g1] at hQ hn
        refine t_value rfl ht.1 ho ?_
        refine v_number ?_
        refine m_ap hz h hn ?_
        exact hQ
    · have hd9 : ¬ d ≤ 9 := fun q => g (nI_le q (by decide))
      rw [if_pos (by omega)] at hQ
      exact hQ
theorem m_con {o : Option Nat} {d l : Nat} {x w : Int32} (hx : x = oV o) (hw : w = nI d) (hl : 24 ≤ l) (hz : z ≤ 250) (ht : tOK t) (hd : d ≤ 9) (ho : oB o) (h : sOK s) (hn : cn (dC (dDa z t 11 d o (dI z s 1))) < 2 ^ 30) (hQ : Q (.inl none, (cdW o0 t X len a z (dDa z t 11 d o (dI z s 1)) tl, b0, b1, op))) : mj_Mt gT (law_cst xs) gnw l y_Coder_constant [.ref 14, .int x, .int w] (cdW o0 t X len a z s tl, b0, b1, op) Q := by
  subst hx
  subst hw
  obtain ⟨l, rfl⟩ : ∃ l', l = l' + 24 := ⟨l - 24, by omega⟩
  have h1 := s_I (z := z) (x := 1) h
  have h2 := s_Da (z := z) ht 11 d o _ ho h1.1
  have h3 := h2.2
  intro J hJ
  refine hJ _ _ _ _ ?_
  refine m_in (x := 1) hz h (by omega) ?_
  refine m_dat hz ht 11 d (by decide) (by omega) (by omega) (l + 23) o _ _ _ _ rfl rfl (by omega) ho h1.1 hn ?_
  exact hQ
variable {go : Option Nat → cD_ → cD_} {l lv d : Nat}
theorem t_partD {o : Option Nat} {k : Nat} {y x : Int32} (hy : y = oV o) (hx : x = nI k) (hk : k < 1000) (ht : tOK t) (ho : ∀ i, o = some i → i < 1000) (hQ : Q (.inl (some (.int (oV (dPt t k o)))), (rdW o0 t X len a tl, b0, b1, op))) : mj_Mt gT (law_cst xs) gnw (m + 3) y_Tree_part [.ref 1, .int y, .int x] (rdW o0 t X len a tl, b0, b1, op) Q := t_part hy hx hk ht ho hQ
theorem m_list {o : Option Nat} {x w q : Int32} (hx : x = oV o) (hw : w = nI d) (hz : z ≤ 250) (hg : SGo go) (Hg : HC xs o0 t X len a z tl b0 b1 op y_Coder_expression lv go (d + 1)) (hl : lv ≤ l) (hl3 : 4 ≤ l) (ho : oB o) (h : sOK s) (hn : cn (dC (dLi z go o q s)) < 2 ^ 30) (hQ : Q (.inl none, (cdW o0 t X len a z (dLi z go o q s) tl, b0, b1, op))) : mj_Mt gT (law_cst xs) gnw (l + 1) y_Coder_list [.ref 14, .int x, .int q, .int w] (cdW o0 t X len a z s tl, b0, b1, op) Q := by
  subst hx
  subst hw
  obtain ⟨l, rfl⟩ : ∃ l', l = l' + 4 := ⟨l - 4, by omega⟩
  obtain ⟨hB1, hB2⟩ := s_B (z := z) h
  have h2 := hg _ _ ho hB1.1
  have h3 := s_I (z := z) (x := q) h2.1
  have h4 := h3.2
  have h5 := h2.2
  have hn2 : cn (dC (dI z (go o (dB z s)) q)) < 2 ^ 30 := hn
  intro J hJ
  refine hJ _ _ _ _ ?_
  refine m_bg hz h (by omega) ?_
  refine Hg (l + 4) o _ _ _ _ rfl (nI_1 d) hl ho hB1.1 (by omega) ?_
  refine m_in hz h2.1 hn2 ?_
  refine e_end ?_
  exact hQ
theorem m_body {o fl : Option Nat} {x y w : Int32} (hx : x = oV o) (hy : y = oV fl) (hw : w = nI d) (hz : z ≤ 250) (hg : SGo go) (Hg : HC xs o0 t X len a z tl b0 b1 op y_Coder_expression lv go (d + 1)) (hl : lv + 1 ≤ l) (hl3 : 5 ≤ l) (ho : oB o) (hf : oB fl) (h : sOK s) (hn : cn (dC (dBo z go o fl s)) < 2 ^ 30) (hQ : Q (.inl none, (cdW o0 t X len a z (dBo z go o fl s) tl, b0, b1, op))) : mj_Mt gT (law_cst xs) gnw (l + 1) y_Coder_body [.ref 14, .int x, .int y, .int w] (cdW o0 t X len a z s tl, b0, b1, op) Q := by
  obtain ⟨l, rfl⟩ : ∃ l', l = l' + 5 := ⟨l - 5, by omega⟩
  have h1 := s_I (z := z) (x := 3) h
  have h2 := s_En hf h1.1
  have h3 := s_Li (z := z) (x := 5) hg ho h2.1
  have e2 := h2.2
  have e3 := h3.2
  have hn2 : cn (dC (dLi z go o 5 (dEn (dI z s 3) fl))) < 2 ^ 30 := hn
  intro J hJ
  refine hJ _ _ _ _ ?_
  refine m_in (x := 3) hz h (by omega) ?_
  refine m_enter hy h1.1 ?_
  refine m_list (l := l + 4) (q := 5) hx hw hz hg Hg (by omega) (by omega) ho h2.1 hn2 ?_
  refine m_leave h3.1 ?_
  exact hQ
theorem m_fun {o : Option Nat} {x w : Int32} (hx : x = oV o) (hw : w = nI d) (hz : z ≤ 250) (ht : tOK t) (hg : SGo go) (Hg : HC xs o0 t X len a z tl b0 b1 op y_Coder_expression lv go (d + 1)) (hl : lv + 2 ≤ l) (hl3 : 6 ≤ l) (ho : oB o) (h : sOK s) (hn : cn (dC (dBo z go (dPt t 1 o) (tEn t (tF t) (dPt t 0 o)) s)) < 2 ^ 30) (hQ : Q (.inl none, (cdW o0 t X len a z (dBo z go (dPt t 1 o) (tEn t (tF t) (dPt t 0 o)) s) tl, b0, b1, op))) : mj_Mt gT (law_cst xs) gnw (l + 1) y_Coder_function [.ref 14, .int x, .int w] (cdW o0 t X len a z s tl, b0, b1, op) Q := by
  obtain ⟨l, rfl⟩ : ∃ l', l = l' + 6 := ⟨l - 6, by omega⟩
  intro J hJ
  refine hJ _ _ _ _ ?_
  refine t_partD (k := 1) hx rfl (by decide) ht ho ?_
  refine t_partD (k := 0) hx rfl (by decide) ht ho ?_
  refine t_firstPart rfl ht.1 (oB_pt ht 0 o) ?_
  refine m_body (l := l + 5) rfl rfl hw hz hg Hg (by omega) (by omega) (oB_pt ht 1 o) (tEn_lt ht.2.1 _) h hn ?_
  exact hQ
theorem m_bargs (hz : z ≤ 250) (h : sOK s) (hn : cn (dC (dBA z s)) < 2 ^ 30) (hQ : Q (.inl none, (cdW o0 t X len a z (dBA z s) tl, b0, b1, op))) : mj_Mt gT (law_cst xs) gnw (m + 4) y_Coder_beginArguments [.ref 14] (cdW o0 t X len a z s tl, b0, b1, op) Q := by
  have h1 := s_I (z := z) (x := 1) h
  have h2 := s_A (z := z) (v := vNil) h1.1
  have e2 := h2.2
  have hn2 : cn (dC (dA z (dI z s 1) vNil)) < 2 ^ 30 := hn
  intro J hJ
  refine hJ _ _ _ _ ?_
  refine m_in (x := 1) hz h (by omega) ?_
  refine m_ap (v := vNil) hz h1.1 hn2 ?_
  exact hQ
theorem m_arg {o : Option Nat} {x w : Int32} (hx : x = oV o) (hw : w = nI d) (hz : z ≤ 250) (hg : SGo go) (Hg : HC xs o0 t X len a z tl b0 b1 op y_Coder_expression lv go (d + 1)) (hl : lv ≤ l) (hl3 : 4 ≤ l) (ho : oB o) (h : sOK s) (hn : cn (dC (dAr z go o s)) < 2 ^ 30) (hQ : Q (.inl none, (cdW o0 t X len a z (dAr z go o s) tl, b0, b1, op))) : mj_Mt gT (law_cst xs) gnw (l + 1) y_Coder_argument [.ref 14, .int x, .int w] (cdW o0 t X len a z s tl, b0, b1, op) Q := by
  subst hx
  subst hw
  obtain ⟨l, rfl⟩ : ∃ l', l = l' + 4 := ⟨l - 4, by omega⟩
  have h2 := hg _ _ ho h
  have h3 := s_I (z := z) (x := 13) h2.1
  have e3 := h3.2
  have hn2 : cn (dC (dI z (go o s) 13)) < 2 ^ 30 := hn
  intro J hJ
  refine hJ _ _ _ _ ?_
  refine Hg (l + 4) o _ _ _ _ rfl (nI_1 d) hl ho h (by omega) ?_
  refine m_in (x := 13) hz h2.1 hn2 ?_
  exact hQ
theorem tCn_le (t : tS) : ∀ (k : Nat) (o : Option Nat), tCn t k o ≤ k
  | 0, o => Nat.le_refl _
  | k + 1, none => Nat.zero_le _
  | k + 1, some i => Nat.succ_le_succ (tCn_le t k _)
theorem n_dec {k : Nat} (h : 1 ≤ k) (hk : k < 2 ^ 31) : nI k + Int32.ofInt (-1) = nI (k - 1) := sb_m1 h
theorem m_boundArgs {o : Option Nat} {x w : Int32} (hx : x = oV o) (hw : w = nI d) (hz : z ≤ 250) (ht : tOK t) (hg : SGo go) (Hg : HC xs o0 t X len a z tl b0 b1 op y_Coder_expression lv go (d + 1)) (hl : lv + 1 ≤ l) (hl3 : 5 ≤ l) (ho : oB o) (h : sOK s) (hn : cn (dC (dBs z t go o s)) < 2 ^ 30) (hQ : Q (.inl none, (cdW o0 t X len a z (dBs z t go o s) tl, b0, b1, op))) : mj_Mt gT (law_cst xs) gnw (l + 1) y_Coder_boundArguments [.ref 14, .int x, .int w] (cdW o0 t X len a z s tl, b0, b1, op) Q := by
  subst hx
  subst hw
  obtain ⟨l, rfl⟩ : ∃ l', l = l' + 5 := ⟨l - 5, by omega⟩
  have hpk : ∀ k, oB ((fun k => tEn t (tF t) (dPt t k o)) k) := fun k => tEn_lt ht.2.1 _
  have h1 := s_BA (z := z) h
  have hc := tCn_le t 96 (tEn t (tF t) o)
  have h2 := s_As (z := z) hg (pick := fun k => tEn t (tF t) (dPt t k o)) hpk (tCn t 96 (tEn t (tF t) o) - 1) _ h1.1
  have e1 := h1.2
  have e2 := h2.2
  intro J hJ
  refine hJ _ _ _ _ ?_
  have hnA : cn (dC (dAs z go (fun k => tEn t (tF t) (dPt t k o)) (tCn t 96 (tEn t (tF t) o) - 1) (dBA z s))) < 2 ^ 30 := hn
  refine m_bargs hz h (by omega) ?_
  refine t_parts rfl ht ho ?_
  have loop : ∀ (k : Nat) (s2 : cD_) (y : Int32), k ≤ 95 → (y = nI k ∨ k = 0 ∧ y = nI 0 - Int32.ofInt 1) → sOK s2 → dAs z go (fun k => tEn t (tF t) (dPt t k o)) k s2 = dAs z go (fun k => tEn t (tF t) (dPt t k o)) (tCn t 96 (tEn t (tF t) o) - 1) (dBA z s) → J 9 [some (.ref 14), some (.int (oV o)), some (.int (nI d)), some (.int y)] [] (cdW o0 t X len a z s2 tl, b0, b1, op) := by
    intro k
    induction k with
    | zero =>
      intro s2 y hk hy h3 e
      refine hJ _ _ _ _ ?_
      refine And.intro (fun _ => ?_) (fun g => absurd (show y < Int32.ofInt 1 by rcases hy with rfl | ⟨-, rfl⟩ <;> decide) g)
      have e : s2 = dAs z go (fun k => tEn t (tF t) (dPt t k o)) (tCn t 96 (tEn t (tF t) o) - 1) (dBA z s) := e
      subst e
      exact hQ
    | succ k ih =>
      intro s2 y hk hy h3 e
      obtain rfl : y = nI (k + 1) := by
        rcases hy with hy | hy
        · exact hy
        · omega
      have h4 := hg _ _ (hpk (k + 1)) h3
      have h5 := s_I (z := z) (x := 13) h4.1
      have h6 := s_As (z := z) hg (pick := fun k => tEn t (tF t) (dPt t k o)) hpk k _ h5.1
      have e : dAs z go (fun k => tEn t (tF t) (dPt t k o)) k (dAr z go (tEn t (tF t) (dPt t (k + 1) o)) s2) = _ := e
      have e6 := h6.2
      have e7 : cn (dC (dAr z go (tEn t (tF t) (dPt t (k + 1) o)) s2)) ≤ cn (dC (dAs z go (fun k => tEn t (tF t) (dPt t k o)) (tCn t 96 (tEn t (tF t) o) - 1) (dBA z s))) := by
        rw [← e]
        exact e6
      refine hJ _ _ _ _ ?_
      refine And.intro (fun g => absurd g (nI_nlt (a := k + 1) (b := 1) (by omega) (by omega))) (fun _ => ?_)
      refine t_partD (k := k + 1) rfl rfl (by omega) ht ho ?_
      refine t_firstPart rfl ht.1 (oB_pt ht (k + 1) o) ?_
      refine m_arg (l := l + 4) rfl rfl hz hg Hg (by omega) (by omega) (hpk (k + 1)) h3 (Nat.lt_of_le_of_lt e7 hnA) ?_
      refine ih _ _ (by omega) (Or.inl ?_) h5.1 e
      exact n_dec (by omega) (by omega)
  by_cases hc0 : tCn t 96 (tEn t (tF t) o) = 0
  · rw [hc0]
    refine loop 0 _ _ (by omega) (Or.inr ⟨rfl, rfl⟩) h1.1 ?_
    rw [hc0]
  · refine loop (tCn t 96 (tEn t (tF t) o) - 1) _ _ (by omega) (Or.inl ?_) h1.1 rfl
    exact pk_sub (a := tCn t 96 (tEn t (tF t) o)) (b := 1) (by omega)
theorem m_call {o : Option Nat} {x w : Int32} (hx : x = oV o) (hw : w = nI d) (hz : z ≤ 250) (ht : tOK t) (hg : SGo go) (Hg : HC xs o0 t X len a z tl b0 b1 op y_Coder_expression lv go (d + 1)) (hl : lv + 1 ≤ l) (hl3 : 5 ≤ l) (ho : oB o) (h : sOK s) (hn : cn (dC (dCa z t go o s)) < 2 ^ 30) (hQ : Q (.inl none, (cdW o0 t X len a z (dCa z t go o s) tl, b0, b1, op))) : mj_Mt gT (law_cst xs) gnw (l + 1) y_Coder_call [.ref 14, .int x, .int w] (cdW o0 t X len a z s tl, b0, b1, op) Q := by
  subst hx
  subst hw
  obtain ⟨l, rfl⟩ : ∃ l', l = l' + 5 := ⟨l - 5, by omega⟩
  have hpk : ∀ k, oB ((fun k => dPt t k o) k) := fun k => oB_pt ht k o
  have h1 := s_BA (z := z) h
  have hc := tCn_le t 96 (tEn t (tF t) o)
  have h2 := s_As (z := z) hg (pick := fun k => dPt t k o) hpk (tCn t 96 (tEn t (tF t) o) - 1) _ h1.1
  have e1 := h1.2
  have e2 := h2.2
  intro J hJ
  refine hJ _ _ _ _ ?_
  have h8 := hg _ _ (oB_pt ht 0 o) h2.1
  have h9 := s_I (z := z) (x := 4) h8.1
  have e8 := h8.2
  have e9 := h9.2
  have hn2 : cn (dC (dI z (go (dPt t 0 o) (dAs z go (fun k => dPt t k o) (tCn t 96 (tEn t (tF t) o) - 1) (dBA z s))) 4)) < 2 ^ 30 := hn
  have hnA : cn (dC (dAs z go (fun k => dPt t k o) (tCn t 96 (tEn t (tF t) o) - 1) (dBA z s))) < 2 ^ 30 := by omega
  refine m_bargs hz h (by omega) ?_
  refine t_parts rfl ht ho ?_
  have loop : ∀ (k : Nat) (s2 : cD_) (y : Int32), k ≤ 95 → (y = nI k ∨ k = 0 ∧ y = nI 0 - Int32.ofInt 1) → sOK s2 → dAs z go (fun k => dPt t k o) k s2 = dAs z go (fun k => dPt t k o) (tCn t 96 (tEn t (tF t) o) - 1) (dBA z s) → J 9 [some (.ref 14), some (.int (oV o)), some (.int (nI d)), some (.int y)] [] (cdW o0 t X len a z s2 tl, b0, b1, op) := by
    intro k
    induction k with
    | zero =>
      intro s2 y hk hy h3 e
      refine hJ _ _ _ _ ?_
      refine And.intro (fun _ => ?_) (fun g => absurd (show y < Int32.ofInt 1 by rcases hy with rfl | ⟨-, rfl⟩ <;> decide) g)
      have e : s2 = dAs z go (fun k => dPt t k o) (tCn t 96 (tEn t (tF t) o) - 1) (dBA z s) := e
      subst e
      refine t_partD (k := 0) rfl rfl (by decide) ht ho ?_
      refine Hg (l + 5) _ _ _ _ _ rfl (nI_1 d) (by omega) (oB_pt ht 0 o) h3 (by omega) ?_
      refine m_in (x := 4) hz h8.1 hn2 ?_
      exact hQ
    | succ k ih =>
      intro s2 y hk hy h3 e
      obtain rfl : y = nI (k + 1) := by
        rcases hy with hy | hy
        · exact hy
        · omega
      have h4 := hg _ _ (hpk (k + 1)) h3
      have h5 := s_I (z := z) (x := 13) h4.1
      have h6 := s_As (z := z) hg (pick := fun k => dPt t k o) hpk k _ h5.1
      have e : dAs z go (fun k => dPt t k o) k (dAr z go (dPt t (k + 1) o) s2) = _ := e
      have e6 := h6.2
      have e7 : cn (dC (dAr z go (dPt t (k + 1) o) s2)) ≤ cn (dC (dAs z go (fun k => dPt t k o) (tCn t 96 (tEn t (tF t) o) - 1) (dBA z s))) := by
        rw [← e]
        exact e6
      refine hJ _ _ _ _ ?_
      refine And.intro (fun g => absurd g (nI_nlt (a := k + 1) (b := 1) (by omega) (by omega))) (fun _ => ?_)
      refine t_partD (k := k + 1) rfl rfl (by omega) ht ho ?_
      refine m_arg (l := l + 4) rfl rfl hz hg Hg (by omega) (by omega) (hpk (k + 1)) h3 (Nat.lt_of_le_of_lt e7 hnA) ?_
      refine ih _ _ (by omega) (Or.inl ?_) h5.1 e
      exact n_dec (by omega) (by omega)
  by_cases hc0 : tCn t 96 (tEn t (tF t) o) = 0
  · rw [hc0]
    refine loop 0 _ _ (by omega) (Or.inr ⟨rfl, rfl⟩) h1.1 ?_
    rw [hc0]
  · refine loop (tCn t 96 (tEn t (tF t) o) - 1) _ _ (by omega) (Or.inl ?_) h1.1 rfl
    exact pk_sub (a := tCn t 96 (tEn t (tF t) o)) (b := 1) (by omega)
theorem m_bound {o : Option Nat} {x w : Int32} (hx : x = oV o) (hw : w = nI d) (hz : z ≤ 250) (ht : tOK t) (hg : SGo go) (Hg : HC xs o0 t X len a z tl b0 b1 op y_Coder_expression lv go (d + 1)) (hl : lv + 2 ≤ l) (hl3 : 6 ≤ l) (ho : oB o) (h : sOK s) (hn : cn (dC (dBd z t go o s)) < 2 ^ 30) (hQ : Q (.inl none, (cdW o0 t X len a z (dBd z t go o s) tl, b0, b1, op))) : mj_Mt gT (law_cst xs) gnw (l + 1) y_Coder_bound [.ref 14, .int x, .int w] (cdW o0 t X len a z s tl, b0, b1, op) Q := by
  obtain ⟨l, rfl⟩ : ∃ l', l = l' + 6 := ⟨l - 6, by omega⟩
  have h1 := s_Bs (z := z) ht hg (o := o) h
  have h2 := s_Bo (z := z) hg (oB_pt ht 0 o) (oB_pt ht 1 o) h1.1
  have h3 := s_I (z := z) (x := 4) h2.1
  have e2 := h2.2
  have e3 := h3.2
  have hn2 : cn (dC (dI z (dBo z go (dPt t 0 o) (dPt t 1 o) (dBs z t go o s)) 4)) < 2 ^ 30 := hn
  have hn3 : cn (dC (dI z (dBo z go (dPt t 0 o) (dPt t 1 o) (dBs z t go o s)) 4)) < 2 ^ 30 := hn
  intro J hJ
  refine hJ _ _ _ _ ?_
  refine m_boundArgs (l := l + 5) hx hw hz ht hg Hg (by omega) (by omega) ho h (by omega) ?_
  refine t_partD (k := 0) hx rfl (by decide) ht ho ?_
  refine t_partD (k := 1) hx rfl (by decide) ht ho ?_
  refine m_body (l := l + 5) rfl rfl hw hz hg Hg (by omega) (by omega) (oB_pt ht 0 o) (oB_pt ht 1 o) h1.1 (by omega) ?_
  refine m_in (x := 4) hz h2.1 hn2 ?_
  exact hQ
theorem m_boundF {o : Option Nat} {x w : Int32} (hx : x = oV o) (hw : w = nI d) (hz : z ≤ 250) (ht : tOK t) (hg : SGo go) (Hg : HC xs o0 t X len a z tl b0 b1 op y_Coder_expression lv go (d + 1)) (hl : lv + 2 ≤ l) (hl3 : 6 ≤ l) (ho : oB o) (h : sOK s) (hn : cn (dC (dBf z t go o s)) < 2 ^ 30) (hQ : Q (.inl none, (cdW o0 t X len a z (dBf z t go o s) tl, b0, b1, op))) : mj_Mt gT (law_cst xs) gnw (l + 1) y_Coder_boundInFrame [.ref 14, .int x, .int w] (cdW o0 t X len a z s tl, b0, b1, op) Q := by
  obtain ⟨l, rfl⟩ : ∃ l', l = l' + 6 := ⟨l - 6, by omega⟩
  have h1 := s_I (z := z) (x := 6) h
  have h2 := s_En (oB_pt ht 1 o) h1.1
  have h3 := s_Bs (z := z) ht hg (o := o) h2.1
  have h4 := s_Lv h3.1
  have h5 := s_Bo (z := z) hg (oB_pt ht 0 o) (oB_pt ht 1 o) h4.1
  have h6 := s_I (z := z) (x := 7) h5.1
  have e2 := h2.2
  have e3 := h3.2
  have e4 := h4.2
  have e5 := h5.2
  have e6 := h6.2
  have hn2 : cn (dC (dI z (dBo z go (dPt t 0 o) (dPt t 1 o) (dLv (dBs z t go o (dEn (dI z s 6) (dPt t 1 o))))) 7)) < 2 ^ 30 := hn
  have hn3 : cn (dC (dI z (dBo z go (dPt t 0 o) (dPt t 1 o) (dLv (dBs z t go o (dEn (dI z s 6) (dPt t 1 o))))) 7)) < 2 ^ 30 := hn
  intro J hJ
  refine hJ _ _ _ _ ?_
  refine m_in (x := 6) hz h (by omega) ?_
  refine t_partD (k := 1) hx rfl (by decide) ht ho ?_
  refine m_enter rfl h1.1 ?_
  refine m_boundArgs (l := l + 5) hx hw hz ht hg Hg (by omega) (by omega) ho h2.1 (by omega) ?_
  refine m_leave h3.1 ?_
  refine t_partD (k := 0) hx rfl (by decide) ht ho ?_
  refine t_partD (k := 1) hx rfl (by decide) ht ho ?_
  refine m_body (l := l + 5) rfl rfl hw hz hg Hg (by omega) (by omega) (oB_pt ht 0 o) (oB_pt ht 1 o) h4.1 (by omega) ?_
  refine m_in (x := 7) hz h5.1 hn2 ?_
  exact hQ
theorem m_choice {o : Option Nat} {x w : Int32} (hx : x = oV o) (hw : w = nI d) (hz : z ≤ 250) (ht : tOK t) (hg : SGo go) (Hg : HC xs o0 t X len a z tl b0 b1 op y_Coder_expression lv go (d + 1)) (hl : lv + 1 ≤ l) (hl3 : 6 ≤ l) (ho : oB o) (h : sOK s) (hn : cn (dC (dCh z t go o s)) < 2 ^ 30) (hQ : Q (.inl none, (cdW o0 t X len a z (dCh z t go o s) tl, b0, b1, op))) : mj_Mt gT (law_cst xs) gnw (l + 1) y_Coder_choice [.ref 14, .int x, .int w] (cdW o0 t X len a z s tl, b0, b1, op) Q := by
  subst hw
  obtain ⟨l, rfl⟩ : ∃ l', l = l' + 6 := ⟨l - 6, by omega⟩
  have h1 := hg _ _ (oB_pt ht 0 o) h
  have h2 := s_I (z := z) (x := 8) h1.1
  have h3 := s_Li (z := z) (x := 9) hg (oB_pt ht 1 o) h2.1
  have h4 := s_Li (z := z) (x := 9) hg (oB_pt ht 2 o) h3.1
  have e2 := h2.2
  have e3 := h3.2
  have e4 := h4.2
  have hn2 : cn (dC (dLi z go (dPt t 2 o) 9 (dLi z go (dPt t 1 o) 9 (dI z (go (dPt t 0 o) s) 8)))) < 2 ^ 30 := hn
  intro J hJ
  refine hJ _ _ _ _ ?_
  refine t_partD (k := 0) hx rfl (by decide) ht ho ?_
  refine Hg (l + 6) _ _ _ _ _ rfl (nI_1 d) (by omega) (oB_pt ht 0 o) h (by omega) ?_
  refine m_in (x := 8) hz h1.1 (by omega) ?_
  refine t_partD (k := 1) hx rfl (by decide) ht ho ?_
  refine m_list (l := l + 5) (q := 9) rfl rfl hz hg Hg (by omega) (by omega) (oB_pt ht 1 o) h2.1 (by omega) ?_
  refine t_partD (k := 2) hx rfl (by decide) ht ho ?_
  refine m_list (l := l + 5) (q := 9) rfl rfl hz hg Hg (by omega) (by omega) (oB_pt ht 2 o) h3.1 hn2 ?_
  exact hQ
theorem m_oper {o : Option Nat} {x w : Int32} (hx : x = oV o) (hw : w = nI d) (hz : z ≤ 250) (ht : tOK t) (hg : SGo go) (Hg : HC xs o0 t X len a z tl b0 b1 op y_Coder_expression lv go (d + 1)) (hl : lv + 2 ≤ l) (hl3 : 7 ≤ l) (ho : oB o) (h : sOK s) (hn : cn (dC (dOn z t go o s)) < 2 ^ 30) (hQ : Q (.inl none, (cdW o0 t X len a z (dOn z t go o s) tl, b0, b1, op))) : mj_Mt gT (law_cst xs) gnw (l + 1) y_Coder_operation [.ref 14, .int x, .int w] (cdW o0 t X len a z s tl, b0, b1, op) Q := by
  subst hx
  subst hw
  obtain ⟨l, rfl⟩ : ∃ l', l = l' + 7 := ⟨l - 7, by omega⟩
  unfold dOn at hQ hn
  intro J hJ
  refine hJ _ _ _ _ ?_
  refine t_value rfl ht.1 ho ?_
  generalize tEi t (tV t) o = v at hQ hn
  refine And.intro (fun (g : ¬ v = 8) => ?_) (fun (g : v = 8) => ?_)
  · rw [if_neg g] at hQ hn
    refine t_parts rfl ht ho ?_
    have hc := tCn_le t 96 (tEn t (tF t) o)
    generalize tCn t 96 (tEn t (tF t) o) = n at hQ hn hc
    have h1 := s_Op ht hg (o := o) (w := v) (n := n) n 0 s h
    have h2 := s_I (z := z) (x := v) h1.1
    have e2 := h2.2
    have hn2 : cn (dC (dI z (dOp t go o v n n 0 s) v)) < 2 ^ 30 := hn
    have loop : ∀ (j i : Nat) (s2 : cD_) (y : Int32) (v6 : Option Value), (v6 = none ∨ ∃ w : Int32, v6 = some (.int w)) → j + i = n → y = nI i → sOK s2 → dOp t go o v n j i s2 = dOp t go o v n n 0 s → J 20 [some (.ref 14), some (.int (oV o)), some (.int (nI d)), some (.int v), some (.int (nI n)), some (.int y), v6] [] (cdW o0 t X len a z s2 tl, b0, b1, op) := by
      intro j
      induction j with
      | zero =>
        intro i s2 y v6 hv hi hy h3 e
        subst hy
        have e : s2 = _ := e
        subst e
        refine hJ _ _ _ _ ?_
        refine And.intro (fun _ => ?_) (fun g => absurd (nI_le (a := n) (b := i) (by omega) (by omega)) g)
        refine m_in (x := v) hz h3 hn2 ?_
        exact hQ
      | succ j ih =>
        intro i s2 y v6 hv hi hy h3 e
        subst hy
        have e : dOp t go o v n j (i + 1) (go (dPt t (if v = 13 then n - 1 - i else i) o) s2) = _ := e
        have h4 := hg _ _ (oB_pt ht (if v = 13 then n - 1 - i else i) o) h3
        have h5 := s_Op ht hg (o := o) (w := v) (n := n) j (i + 1) _ h4.1
        have e5 := h5.2
        rw [e] at e5
        have go2 : ∀ (Q' : mj_R → Prop) (y6 : Int32), y6 = nI (if v = 13 then n - 1 - i else i) → Q' (.inl (some (.int (oV (dPt t (if v = 13 then n - 1 - i else i) o)))), (cdW o0 t X len a z s2 tl, b0, b1, op)) → mj_Mt gT (law_cst xs) gnw (l + 7) y_Tree_part [.ref 1, .int (oV o), .int y6] (cdW o0 t X len a z s2 tl, b0, b1, op) Q' := by
          intro Q' y6 hy6 hq
          exact t_partD (k := if v = 13 then n - 1 - i else i) rfl hy6 (by split <;> omega) ht ho hq
        refine hJ _ _ _ _ ?_
        rcases hv with rfl | ⟨w6, rfl⟩
        all_goals
          refine And.intro (fun g => absurd g (nI_ge (a := i) (b := n) (by omega) (by omega))) (fun _ => ?_)
          refine And.intro (fun (g13 : ¬ v = 13) => ?_) (fun (g13 : v = 13) => ?_)
          · refine go2 _ _ (by rw [if_neg g13]) ?_
            refine Hg (l + 7) _ _ _ _ _ rfl (nI_1 d) (by omega) (oB_pt ht _ o) h3 (by omega) ?_
            exact ih (i + 1) _ _ _ (Or.inr ⟨_, rfl⟩) (by omega) (nI_1 i) h4.1 e
          · refine go2 _ _ (by rw [if_pos g13, show nI n - Int32.ofInt 1 = nI (n - 1) from pk_sub (a := n) (b := 1) (by omega)]; exact pk_sub (by omega)) ?_
            refine Hg (l + 7) _ _ _ _ _ rfl (nI_1 d) (by omega) (oB_pt ht _ o) h3 (by omega) ?_
            exact ih (i + 1) _ _ _ (Or.inr ⟨_, rfl⟩) (by omega) (nI_1 i) h4.1 e
    exact loop n 0 s _ none (Or.inl rfl) rfl rfl h rfl
  · rw [if_pos g] at hQ hn
    refine m_choice (l := l + 6) rfl rfl hz ht hg Hg (by omega) (by omega) ho h hn ?_
    exact hQ
end P2m
end
section
section P2n
variable {m b0 b1 : Nat} {op : Bool} {tl : List mj_O} {Q : mj_R → Prop} {xs : List Int32}
variable {o0 : mj_O} {t : tS} {X : Nat → Int32} {len a z : Nat} {s : cD_} {tx : Nat → Nat}
set_option maxRecDepth 10000
theorem m_ex (hz : z ≤ 250) (ht : tOK t) : ∀ (f d : Nat), 1 ≤ f → 11 ≤ f + d → d ≤ 20 → HC xs o0 t X len a z tl b0 b1 op y_Coder_expression (6 * f + 40) (dEx z t f d) d
  | 0, d, h, _, _ => by omega
  | f + 1, d, _, hfd, hd => by
    intro ℓ o s x w Q hx hw hlv ho h hn hQ
    subst hx
    subst hw
    obtain ⟨l, rfl⟩ : ∃ l, ℓ = l + 30 := ⟨ℓ - 30, by omega⟩
    unfold dEx at hQ hn
    intro J hJ
    refine hJ _ _ _ _ ?_
    refine And.intro (fun (g : nI d ≤ nI 9) => ?_) (fun (g : ¬ nI d ≤ nI 9) => ?_)
    · have hd9 := (nI_leI (by omega) (by decide)).mp g
      rw [if_neg (by omega)] at hQ hn
      have hg := s_Ex (z := z) ht f (d + 1)
      have Hg := m_ex hz ht f (d + 1) (by omega) (by omega) (by omega)
      refine t_kind rfl ht.1 ho ?_
      generalize tEi t (tK t) o = kd at hQ hn
      refine And.intro (fun (g1 : kd = 1) => ?_) (fun (g1 : ¬ kd = 1) => ?_)
      · subst g1
        rw [if_pos rfl] at hQ hn
        refine m_con (l := l + 29) rfl rfl (by omega) hz ht hd9 ho h hn ?_
        exact hQ
      rw [if_neg g1] at hQ hn
      refine And.intro (fun (g2 : kd = 2) => ?_) (fun (g2 : ¬ kd = 2) => ?_)
      · subst g2
        rw [if_pos rfl] at hQ hn
        refine m_var rfl hz ht ho h hn ?_
        exact hQ
      rw [if_neg g2] at hQ hn
      refine And.intro (fun (g3 : kd = 3) => ?_) (fun (g3 : ¬ kd = 3) => ?_)
      · subst g3
        rw [if_neg (by decide)] at hQ
        rw [if_neg (by decide)] at hQ
        rw [if_neg (by decide)] at hQ
        rw [if_neg (by decide)] at hQ
        rw [if_neg (by decide)] at hQ
        rw [if_neg (by decide)] at hQ
        exact hQ
      refine And.intro (fun (g4 : kd = 4) => ?_) (fun (g4 : ¬ kd = 4) => ?_)
      · subst g4
        rw [if_pos rfl] at hQ hn
        refine t_firstPart rfl ht.1 ho ?_
        refine m_con (l := l + 29) rfl rfl (by omega) hz ht hd9 (tEn_lt ht.2.1 _) h hn ?_
        exact hQ
      rw [if_neg g4] at hQ hn
      refine And.intro (fun (g5 : kd = 5) => ?_) (fun (g5 : ¬ kd = 5) => ?_)
      · subst g5
        rw [if_pos rfl] at hQ hn
        refine m_oper (l := l + 28) rfl rfl hz ht hg Hg (by omega) (by omega) ho h hn ?_
        exact hQ
      rw [if_neg g5] at hQ hn
      refine And.intro (fun (g6 : kd = 6) => ?_) (fun (g6 : ¬ kd = 6) => ?_)
      · subst g6
        rw [if_pos rfl] at hQ hn
        refine m_fun (l := l + 28) rfl rfl hz ht hg Hg (by omega) (by omega) ho h hn ?_
        exact hQ
      rw [if_neg g6] at hQ hn
      refine And.intro (fun (g7 : kd = 7) => ?_) (fun (g7 : ¬ kd = 7) => ?_)
      · subst g7
        rw [if_neg (by decide)] at hQ
        rw [if_neg (by decide)] at hQ
        rw [if_neg (by decide)] at hQ
        exact hQ
      refine And.intro (fun (g8 : kd = 8) => ?_) (fun (g8 : ¬ kd = 8) => ?_)
      · subst g8
        rw [if_pos rfl] at hQ hn
        refine m_bound (l := l + 28) rfl rfl hz ht hg Hg (by omega) (by omega) ho h hn ?_
        exact hQ
      rw [if_neg g8] at hQ hn
      refine And.intro (fun (g9 : kd = 9) => ?_) (fun (g9 : ¬ kd = 9) => ?_)
      · subst g9
        rw [if_pos rfl] at hQ hn
        refine m_boundF (l := l + 28) rfl rfl hz ht hg Hg (by omega) (by omega) ho h hn ?_
        exact hQ
      rw [if_neg g9] at hQ hn
      refine And.intro (fun (g10 : kd = 10) => ?_) (fun (g10 : ¬ kd = 10) => ?_)
      · subst g10
        rw [if_neg (by decide)] at hQ
        exact hQ
      refine And.intro (fun (g11 : kd = 11) => ?_) (fun (g11 : ¬ kd = 11) => ?_)
      · subst g11
        rw [if_pos rfl] at hQ hn
        refine m_call (l := l + 28) rfl rfl hz ht hg Hg (by omega) (by omega) ho h hn ?_
        exact hQ
      rw [if_neg g11] at hQ hn
      exact hQ
    · have hd9 : ¬ d ≤ 9 := fun q => g (nI_le q (by decide))
      rw [if_pos (by omega)] at hQ
      exact hQ
def dZ (s : cD_) : cD_ := ((cH_ (dC s), cT_ (dC s), 0, none, false), dF s, 0, -1)
theorem m_lay {l : Nat} (hl : 108 ≤ l) (hz : z ≤ 250) (ht : tOK t) (hF : ∀ i j, dF s i = some j → j < 1000) (hn : cn (dC (dI z (dEx z t 11 0 (some 0) (dZ s)) 19)) < 2 ^ 30) (hQ : Q (.inl (some (.int (dU (dEx z t 11 0 (some 0) (dZ s))))), (cdW o0 t X len a z (dI z (dEx z t 11 0 (some 0) (dZ s)) 19) tl, b0, b1, op))) : mj_Mt gT (law_cst xs) gnw (l + 1) y_Coder_layDown [.ref 14] (cdW o0 t X len a z s tl, b0, b1, op) Q := by
  obtain ⟨l, rfl⟩ : ∃ l', l = l' + 108 := ⟨l - 108, by omega⟩
  have h0 : sOK (dZ s) := ⟨Nat.zero_le _, fun k e => (by cases e), hF⟩
  have h1 := s_Ex (z := z) ht 11 0 (some 0) (dZ s) (fun i e => by cases e; decide) h0
  have h2 := s_I (z := z) (x := 19) h1.1
  have e2 := h2.2
  intro J hJ
  refine hJ _ _ _ _ ?_
  intro J2 hJ2
  refine hJ2 _ _ _ _ ?_
  refine And.intro (Or.inl rfl) ?_
  refine m_ex hz ht 11 0 (by decide) (by decide) (by decide) (l + 108) (some 0) (dZ s) _ _ _ rfl rfl (by omega) (fun i e => by cases e; decide) h0 (by omega) ?_
  refine m_in (x := 19) hz h1.1 hn ?_
  exact hQ
theorem x_tlen (hQ : Q (.inl (some (.int (nI len))), (rdW o0 t X len a tl, b0, b1, op))) : mj_Mt gT (law_cst xs) gnw (m + 1) y_Text_length [.ref 8] (rdW o0 t X len a tl, b0, b1, op) Q := by
  intro J hJ
  refine hJ _ _ _ _ ?_
  exact hQ
theorem q_read {l : Nat} (hl : 80 ≤ l) (hx : txOK X len tx) (ht : tOK t) (h6 : 6 ≤ b1)
    (h1 : ∀ a' t', pEx tx 10 0 0 (0, t.2) = .inr (a', t') → Q (.inl (some (.int (nI a'))), (rdW o0 t' X len a' tl, b0, b1 - 6, false)))
    (h2 : ∀ n a' t', pEx tx 10 0 0 (0, t.2) = .inl (n, a', t') → Q (.inl (some (.int (if a' < len then nI a' else -1))), (rdW o0 t' X len a' tl, b0 + 1, b1, op))) :
    mj_Mt gT (law_cst xs) gnw (l + 1) y_Reader_read [.ref 10] (rdW o0 t X len a tl, b0 + 1, b1, op) Q := by
  obtain ⟨l, rfl⟩ : ∃ l', l = l' + 80 := ⟨l - 80, by omega⟩
  have h96 := hx.1
  have ht0 : tOK (0, t.2) := ⟨Nat.zero_le _, ht.2.1, ⟨ht.2.2.1.1, fun i hi => absurd hi (Nat.not_lt_zero i)⟩, ht.2.2.2⟩
  have hg := g_ex hx 10 0 0 (0, t.2) ht0 (Nat.le_refl _) (Nat.zero_le _)
  intro J hJ
  refine hJ _ _ _ _ ?_
  intro J2 hJ2
  refine hJ2 _ _ _ _ ?_
  refine q_ex hx h6 10 0 (by decide) (by decide) (by decide) (l + 80) 0 (0, t.2) _ _ rfl (by omega) ht0 (Nat.le_refl _) (Nat.zero_le _) ?_
  cases hr : pEx tx 10 0 0 (0, t.2) with
  | inl r =>
    obtain ⟨n, a2, t2⟩ := r
    rw [hr] at hg
    obtain ⟨-, -, -, -, g4⟩ := hg
    have hq := h2 n a2 t2 hr
    refine x_tlen ?_
    refine And.intro (fun (g : nI len ≤ nI a2) => ?_) (fun (g : ¬ nI len ≤ nI a2) => ?_)
    · have h9 := (nI_leI (by omega) (by omega)).mp g
      rw [if_neg (by omega)] at hq
      exact hq
    · have h9 : a2 < len := Nat.lt_of_not_le (fun q => g (nI_le q (by omega)))
      rw [if_pos h9] at hq
      exact hq
  | inr r =>
    obtain ⟨a2, t2⟩ := r
    exact h1 a2 t2 hr
end P2n
end
section
def chain (t : tS) : Option Nat → List Nat → Prop
  | o, [] => o = none
  | o, c :: cs => o = some c ∧ chain t (tN t c) cs
def segs (P : Nat → Nat → Prop) : Nat → Nat → List Nat → Prop
  | a, e, [] => a = e
  | a, e, c :: cs => c = a ∧ ∃ b, c < b ∧ P c b ∧ segs P b e cs
def WS (t : tS) (n e : Nat) : Prop := ∀ P : Nat → Nat → Prop, (∀ n e cs, n < e → chain t (tF t n) cs → segs P (n + 1) e cs → P n e) → P n e
theorem segs_mono {P R : Nat → Nat → Prop} (h : ∀ c b, P c b → R c b) : ∀ {cs : List Nat} {a e : Nat}, segs P a e cs → segs R a e cs
  | [], a, e, hs => hs
  | c :: cs, a, e, ⟨h1, b, h2, h3, h4⟩ => ⟨h1, b, h2, h _ _ h3, segs_mono h h4⟩
theorem WS_in {t : tS} {n e : Nat} {cs : List Nat} (h1 : n < e) (h2 : chain t (tF t n) cs) (h3 : segs (WS t) (n + 1) e cs) : WS t n e := by
  intro P hP
  exact hP n e cs h1 h2 (segs_mono (fun c b h => h P hP) h3)
theorem WS_ind {t : tS} {P : Nat → Nat → Prop} (hP : ∀ n e cs, n < e → chain t (tF t n) cs → segs (fun c b => WS t c b ∧ P c b) (n + 1) e cs → P n e) {n e : Nat} (h : WS t n e) : P n e := by
  have := h (fun n e => WS t n e ∧ P n e) (fun n e cs h1 h2 h3 => ⟨WS_in h1 h2 (segs_mono (fun _ _ h => h.1) h3), hP n e cs h1 h2 h3⟩)
  exact this.2
theorem segs_le {P : Nat → Nat → Prop} : ∀ {cs : List Nat} {a e : Nat}, segs P a e cs → a ≤ e
  | [], a, e, h => Nat.le_of_eq h
  | c :: cs, a, e, ⟨h1, b, h2, h3, h4⟩ => by have := segs_le h4; omega
theorem segs_in {P : Nat → Nat → Prop} : ∀ {cs : List Nat} {a e : Nat}, segs P a e cs → ∀ c, c ∈ cs → a ≤ c ∧ c < e
  | [], a, e, h, c, hc => by cases hc
  | d :: cs, a, e, ⟨h1, b, h2, h3, h4⟩, c, hc => by
    have := segs_le h4
    rcases List.mem_cons.mp hc with rfl | hc
    · omega
    · have := segs_in h4 c hc
      omega
theorem chain_fr {t t' : tS} : ∀ {cs : List Nat} {o : Option Nat}, (∀ c, c ∈ cs → tN t' c = tN t c) → chain t o cs → chain t' o cs
  | [], o, _, h => h
  | c :: cs, o, hN, ⟨h1, h2⟩ => ⟨h1, by rw [hN c List.mem_cons_self]; exact chain_fr (fun d hd => hN d (List.mem_cons_of_mem _ hd)) h2⟩
theorem WS_fr {t t' : tS} {n e : Nat} (h : WS t n e) : (∀ i, n ≤ i → i < e → tF t' i = tF t i) → (∀ i, n < i → i < e → tN t' i = tN t i) → WS t' n e := by
  refine WS_ind (P := fun n e => (∀ i, n ≤ i → i < e → tF t' i = tF t i) → (∀ i, n < i → i < e → tN t' i = tN t i) → WS t' n e) (fun n e cs h1 h2 h3 hF hN => ?_) h
  refine WS_in (cs := cs) h1 ?_ ?_
  · rw [hF n (Nat.le_refl _) h1]
    refine chain_fr (fun c hc => ?_) h2
    have := segs_in h3 c hc
    exact hN c (by omega) this.2
  · have go : ∀ (cs : List Nat) (a : Nat), n + 1 ≤ a → segs (fun c b => WS t c b ∧ ((∀ i, c ≤ i → i < b → tF t' i = tF t i) → (∀ i, c < i → i < b → tN t' i = tN t i) → WS t' c b)) a e cs → segs (WS t') a e cs := by
      intro cs
      induction cs with
      | nil => intro a _ h; exact h
      | cons c cs ih =>
        rintro a ha ⟨rfl, b, g2, ⟨-, g3⟩, g4⟩
        have := segs_le g4
        exact ⟨rfl, b, g2, g3 (fun i q1 q2 => hF i (by omega) (by omega)) (fun i q1 q2 => hN i (by omega) (by omega)), ih b (by omega) g4⟩
    exact go cs (n + 1) (Nat.le_refl _) h3
def Opn (t : tS) (n : Nat) (cs : List Nat) : Prop := n < tn t ∧ chain t (tF t n) cs ∧ segs (WS t) (n + 1) (tn t) cs ∧ tL t n = cs.getLast?
def agT (n : Nat) (t t' : tS) : Prop := ∀ i, i < n → tF t' i = tF t i ∧ tL t' i = tL t i ∧ tN t' i = tN t i
theorem agT.tr {n : Nat} {a b c : tS} (h1 : agT n a b) (h2 : agT n b c) : agT n a c := fun i hi => ⟨(h2 i hi).1.trans (h1 i hi).1, (h2 i hi).2.1.trans (h1 i hi).2.1, (h2 i hi).2.2.trans (h1 i hi).2.2⟩
theorem agT.le {n k : Nat} {a b : tS} (h : agT n a b) (hk : k ≤ n) : agT k a b := fun i hi => h i (by omega)
theorem agT_add {t : tS} {k v p : Int32} : agT (tn t) t (tAdd t k v p) := fun i hi => by
  have : i ≠ tn t := by omega
  exact ⟨if_neg this, if_neg this, if_neg this⟩
theorem add_new {t : tS} {k v p : Int32} : Opn (tAdd t k v p) (tn t) [] ∧ tN (tAdd t k v p) (tn t) = none := by
  refine ⟨⟨Nat.lt_succ_self _, ?_, ?_, ?_⟩, if_pos rfl⟩
  · show upW (tF t) (tn t) none (tn t) = none
    exact if_pos rfl
  · show tn t + 1 = tn t + 1
    rfl
  · show upW (tL t) (tn t) none (tn t) = none
    exact if_pos rfl
theorem chain_snoc {t t' : tS} {c l : Nat} (hc : tN t' c = none) (hl : tN t' l = some c) : ∀ {cs : List Nat} {o : Option Nat}, (∀ d, d ∈ cs → d ≠ l → tN t' d = tN t d) → cs.getLast? = some l → cs.Nodup → chain t o cs → chain t' o (cs ++ [c])
  | [], o, _, h, _, _ => by cases h
  | [d], o, _, h, _, ⟨h1, h2⟩ => by
    cases h
    exact ⟨h1, hl, hc⟩
  | d :: d2 :: cs, o, hN, h, hd, ⟨h1, h2⟩ => by
    have hl2 : (d2 :: cs).getLast? = some l := by rw [List.getLast?_cons_cons] at h; exact h
    have hne : d ≠ l := fun e => by
      have := (List.nodup_cons.mp hd).1
      rw [e] at this
      exact this (List.mem_of_getLast? hl2)
    refine ⟨h1, ?_⟩
    rw [hN d List.mem_cons_self hne]
    exact chain_snoc hc hl (fun q hq => hN q (List.mem_cons_of_mem _ hq)) hl2 (List.nodup_cons.mp hd).2 h2
theorem segs_nodup {P : Nat → Nat → Prop} : ∀ {cs : List Nat} {a e : Nat}, segs P a e cs → cs.Nodup
  | [], a, e, h => List.nodup_nil
  | c :: cs, a, e, ⟨h1, b, h2, h3, h4⟩ => by
    refine List.nodup_cons.mpr ⟨fun hc => ?_, segs_nodup h4⟩
    have := segs_in h4 c hc
    omega
theorem segs_snoc {P : Nat → Nat → Prop} {c e : Nat} (hp : P c e) (hc : c < e) : ∀ {cs : List Nat} {a : Nat}, segs P a c cs → segs P a e (cs ++ [c])
  | [], a, h => ⟨h.symm, e, hc, hp, rfl⟩
  | d :: cs, a, ⟨h1, b, h2, h3, h4⟩ => ⟨h1, b, h2, h3, segs_snoc hp hc h4⟩
theorem op_part {t t2 : tS} {n : Nat} {cs : List Nat} (h : Opn t n cs) (ha : agT (tn t) t t2) (hw : WS t2 (tn t) (tn t2)) (hc : tn t < tn t2) (hN : tN t2 (tn t) = none) : Opn (tPart t2 n (tn t)) n (cs ++ [tn t]) ∧ agT n t (tPart t2 n (tn t)) ∧ tN (tPart t2 n (tn t)) n = tN t n := by
  obtain ⟨h1, h2, h3, h4⟩ := h
  have hL : tL t2 n = cs.getLast? := (ha n h1).2.1.trans h4
  have hF : tF t2 n = tF t n := (ha n h1).1
  have hin : ∀ c, c ∈ cs → n + 1 ≤ c ∧ c < tn t := segs_in h3
  have h3' : segs (WS t2) (n + 1) (tn t) cs := by
    have go : ∀ (cs : List Nat) (a : Nat), segs (WS t) a (tn t) cs → segs (WS t2) a (tn t) cs := by
      intro cs
      induction cs with
      | nil => intro a h; exact h
      | cons c cs ih =>
        rintro a ⟨rfl, b, g2, g3, g4⟩
        have := segs_le g4
        exact ⟨rfl, b, g2, WS_fr g3 (fun i q1 q2 => (ha i (by omega)).1) (fun i q1 q2 => (ha i (by omega)).2.2), ih b g4⟩
    exact go cs (n + 1) h3
  have h2' : chain t2 (tF t2 n) cs := by
    rw [hF]
    exact chain_fr (fun c hc => (ha c (hin c hc).2).2.2) h2
  unfold tPart
  cases hg : cs.getLast? with
  | none =>
    have hcs : cs = [] := List.getLast?_eq_none_iff.mp hg
    subst hcs
    rw [hL, hg]
    refine ⟨⟨by show n < tn t2; omega, ?_, ?_, ?_⟩, fun i hi => ?_, (ha n h1).2.2⟩
    · show chain _ (upW (tF t2) n (some (tn t)) n) [tn t]
      rw [show upW (tF t2) n (some (tn t)) n = some (tn t) from if_pos rfl]
      exact ⟨rfl, hN⟩
    · have h3 : n + 1 = tn t := h3
      refine ⟨h3.symm, tn t2, hc, ?_, rfl⟩
      exact WS_fr hw (fun i q1 q2 => if_neg (by omega)) (fun i q1 q2 => rfl)
    · show upW (tL t2) n (some (tn t)) n = some (tn t)
      exact if_pos rfl
    · have hne : i ≠ n := by omega
      obtain ⟨a1, a2, a3⟩ := ha i (by omega)
      exact ⟨(if_neg hne).trans a1, (if_neg hne).trans a2, a3⟩
  | some l =>
    have hl := hin l (List.mem_of_getLast? hg)
    rw [hL, hg]
    have eN : ∀ d, d ≠ l → upW (tN t2) l (some (tn t)) d = tN t2 d := fun d hd => if_neg hd
    refine ⟨⟨by show n < tn t2; omega, ?_, ?_, ?_⟩, fun i hi => ?_, ?_⟩
    · show chain _ (tF t2 n) (cs ++ [tn t])
      refine chain_snoc (t := t2) (l := l) ?_ ?_ (fun d _ hd => eN d hd) hg (segs_nodup h3) h2'
      · show upW (tN t2) l (some (tn t)) (tn t) = none
        rw [eN _ (by omega)]
        exact hN
      · show upW (tN t2) l (some (tn t)) l = some (tn t)
        exact if_pos rfl
    · have go : ∀ (cs : List Nat) (a : Nat), (∀ c, c ∈ cs → n + 1 ≤ c) → segs (WS t2) a (tn t) cs → cs.getLast? = some l → segs (WS (tn t2, tK t2, tV t2, tP t2, tF t2, upW (tL t2) n (some (tn t)), upW (tN t2) l (some (tn t)))) a (tn t) cs := by
        intro cs
        induction cs with
        | nil => intro a _ h; exact fun _ => h
        | cons c cs ih =>
          rintro a hge ⟨rfl, b, g2, g3, g4⟩ hla
          cases cs with
          | nil =>
            have e : c = l := Option.some.inj hla
            exact ⟨rfl, b, g2, WS_fr g3 (fun i q1 q2 => rfl) (fun i q1 q2 => eN i (by omega)), g4⟩
          | cons d cs =>
            have hla2 : (d :: cs).getLast? = some l := by rw [List.getLast?_cons_cons] at hla; exact hla
            have hlb := segs_in g4 l (List.mem_of_getLast? hla2)
            exact ⟨rfl, b, g2, WS_fr g3 (fun i q1 q2 => rfl) (fun i q1 q2 => eN i (by omega)), ih b (fun q hq => hge q (List.mem_cons_of_mem _ hq)) g4 hla2⟩
      refine segs_snoc ?_ hc (go cs (n + 1) (fun c hc => (hin c hc).1) h3' hg)
      exact WS_fr hw (fun i q1 q2 => rfl) (fun i q1 q2 => eN i (by omega))
    · show upW (tL t2) n (some (tn t)) n = (cs ++ [tn t]).getLast?
      rw [List.getLast?_append, List.getLast?_singleton]
      exact if_pos rfl
    · have hne : i ≠ n := by omega
      have hnl : i ≠ l := by omega
      obtain ⟨a1, a2, a3⟩ := ha i (by omega)
      exact ⟨a1, (if_neg hne).trans a2, (eN i hnl).trans a3⟩
    · show upW (tN t2) l (some (tn t)) n = tN t n
      rw [eN n (by omega)]
      exact (ha n h1).2.2
theorem op_ws {t : tS} {n : Nat} {cs : List Nat} (h : Opn t n cs) : WS t n (tn t) := WS_in h.1 h.2.1 h.2.2.1
end
section
def wr (t : tS) : PR → Prop
  | .inl (nd, _, t') => nd = tn t ∧ WS t' (tn t) (tn t') ∧ tn t < tn t' ∧ tN t' (tn t) = none ∧ agT (tn t) t t'
  | .inr _ => True
def WE (pe : Nat → tS → PR) : Prop := ∀ a t, wr t (pe a t)
section WT
variable {tx : Nat → Nat}
def Opd (t0 t : tS) (n : Nat) : Prop := n = tn t0 ∧ (∃ cs, Opn t n cs) ∧ tN t n = none ∧ agT n t0 t
def wu (t0 : tS) (n : Nat) : PU → Prop
  | .inl (_, t2) => Opd t0 t2 n
  | .inr _ => True
theorem opd_new {t : tS} {k v p : Int32} : Opd t (tAdd t k v p) (tn t) := ⟨rfl, ⟨[], add_new.1⟩, add_new.2, agT_add⟩
theorem opd_part {t0 t t2 : tS} {n c a2 : Nat} (h : Opd t0 t n) (hw : wr t (.inl (c, a2, t2))) : Opd t0 (tPart t2 n c) n ∧ c = tn t := by
  obtain ⟨h1, ⟨cs, h2⟩, h3, h4⟩ := h
  obtain ⟨rfl, w1, w2, w3, w4⟩ := hw
  obtain ⟨g1, g2, g3⟩ := op_part h2 w4 w1 w2 w3
  exact ⟨⟨h1, ⟨_, g1⟩, g3.trans h3, h4.tr g2⟩, rfl⟩
theorem opd_done {t0 t : tS} {n a : Nat} (h : Opd t0 t n) : wr t0 (.inl (n, a, t)) := by
  obtain ⟨rfl, ⟨cs, h2⟩, h3, h4⟩ := h
  exact ⟨rfl, op_ws h2, h2.1, h3, h4⟩
theorem w_close {t0 t : tS} {n a : Nat} (h : Opd t0 t n) : wr t0 (pClose tx n a t) := by
  unfold pClose
  split
  · exact opd_done h
  · exact trivial
theorem w_more {pe : Nat → tS → PR} (hp : WE pe) {t0 : tS} {n : Nat} : ∀ (k a : Nat) (t : tS), Opd t0 t n → wr t0 (pMore tx pe n k a t)
  | 0, a, t, h => w_close h
  | k + 1, a, t, h => by
    unfold pMore
    split
    · have hw := hp (a + 1) t
      generalize pe (a + 1) t = r at hw
      rcases r with ⟨c, a2, t2⟩ | e
      · exact w_more hp k a2 _ (opd_part h hw).1
      · exact trivial
    · exact w_close h
theorem w_args {pe : Nat → tS → PR} (hp : WE pe) {t0 : tS} {n : Nat} : ∀ (k a : Nat) (t : tS), Opd t0 t n → wr t0 (pArgs tx pe n k a t)
  | 0, a, t, h => w_close h
  | k + 1, a, t, h => by
    unfold pArgs
    split
    · have hw := hp (a + 1) t
      generalize pe (a + 1) t = r at hw
      rcases r with ⟨c, a2, t2⟩ | e
      · exact w_args hp k a2 _ (opd_part h hw).1
      · exact trivial
    · exact trivial
theorem w_atom : WE (pAtom tx) := by
  intro a t
  unfold pAtom
  split
  · exact opd_done opd_new
  · unfold pNum
    split
    · exact opd_done opd_new
    · exact trivial
theorem w_dat : ∀ f d, WE (pDat tx f d)
  | 0, d, a, t => trivial
  | f + 1, d, a, t => by
    unfold pDat
    split
    · split
      · exact trivial
      · split
        · exact opd_done opd_new
        · have hw := w_dat f (d + 1) (a + 1) (tAdd t 3 0 (nI a))
          generalize pDat tx f (d + 1) (a + 1) (tAdd t 3 0 (nI a)) = r at hw
          rcases r with ⟨c, a2, t2⟩ | e
          · exact w_more (w_dat f (d + 1)) 95 a2 _ (opd_part opd_new hw).1
          · exact trivial
    · exact w_atom a t
theorem w_let {t0 t : tS} {p a : Nat} (h : Opd t0 t p) : wu t0 p (pLet tx p a t) := by
  unfold pLet
  split
  · have := opd_part (c := tn t) (a2 := 0) (t2 := tAdd t 2 (nI (tx a)) (nI a)) h (opd_done opd_new)
    exact this.1
  · exact trivial
theorem w_ls {t0 : tS} {p : Nat} : ∀ (k a : Nat) (t : tS), Opd t0 t p → wr t0 (pLs tx p k a t)
  | 0, a, t, h => w_close h
  | k + 1, a, t, h => by
    unfold pLs
    split
    · have hw := w_let (tx := tx) (a := a + 1) h
      generalize pLet tx p (a + 1) t = r at hw
      rcases r with ⟨a2, t2⟩ | e
      · exact w_ls k a2 t2 hw
      · exact trivial
    · exact w_close h
theorem w_par {d : Nat} : WE (pPar tx d) := by
  intro a t
  unfold pPar
  split
  · split
    · exact opd_done opd_new
    · have hw := w_let (tx := tx) (a := a + 1) (opd_new (t := t) (k := 7) (v := 0) (p := nI a))
      generalize pLet tx (tn t) (a + 1) (tAdd t 7 0 (nI a)) = r at hw
      rcases r with ⟨a2, t2⟩ | e
      · exact w_ls 2 a2 t2 hw
      · exact trivial
  · exact trivial
theorem w_fun {pe : Nat → tS → PR} (hp : WE pe) {d : Nat} : WE (pFun tx pe d) := by
  intro a t
  unfold pFun
  split
  · split
    · have hw := w_par (tx := tx) (d := d) (a + 1 + 1) (tAdd t 6 0 (nI a))
      generalize pPar tx d (a + 1 + 1) (tAdd t 6 0 (nI a)) = r at hw
      rcases r with ⟨c, a2, t2⟩ | e
      · have h1 := (opd_part opd_new hw).1
        show wr t (if tx a2 = 32 then _ else _)
        split
        · have hw2 := hp (a2 + 1) (tPart t2 (tn t) c)
          generalize pe (a2 + 1) (tPart t2 (tn t) c) = r2 at hw2
          rcases r2 with ⟨c2, a4, t4⟩ | e
          · exact w_close (opd_part h1 hw2).1
          · exact trivial
        · exact trivial
      · exact trivial
    · exact trivial
  · exact trivial
theorem w_bv {pe pf : Nat → tS → PR} (hp : WE pe) (hf : WE pf) {d n : Nat} : WE (pBv tx pe pf d n) := by
  intro a t
  unfold pBv
  split
  · split
    · exact hf _ _
    · exact trivial
  · exact hp _ _
theorem w_bind {pe pf : Nat → tS → PR} (hp : WE pe) (hf : WE pf) {t0 t : tS} {d n a : Nat} (h : Opd t0 t n) : wu t0 n (pBind tx pe pf d n a t) := by
  unfold pBind
  split
  · split
    · split
      · have hw := w_bv (tx := tx) hp hf (d := d) (n := n) (a + 1 + 1 + 1) (tAdd t 10 (nI (tx (a + 1))) (nI (a + 1)))
        generalize pBv tx pe pf d n (a + 1 + 1 + 1) (tAdd t 10 (nI (tx (a + 1))) (nI (a + 1))) = r at hw
        rcases r with ⟨c, a2, t2⟩ | e
        · have h1 := (opd_part opd_new hw).1
          have h2 := (opd_part (a2 := 0) h (opd_done h1)).1
          show wu t0 n (if tx a2 = 41 then _ else _)
          split
          · exact h2
          · exact trivial
        · exact trivial
      · exact trivial
    · exact trivial
  · exact trivial
theorem w_bs {pb : Nat → tS → PU} {t0 : tS} {n : Nat} (hp : ∀ a t, Opd t0 t n → wu t0 n (pb a t)) : ∀ (k a : Nat) (t : tS), Opd t0 t n → wr t0 (pBs tx pb n k a t)
  | 0, a, t, h => w_close h
  | k + 1, a, t, h => by
    unfold pBs
    split
    · have hw := hp (a + 1) t h
      generalize pb (a + 1) t = r at hw
      rcases r with ⟨a2, t2⟩ | e
      · exact w_bs hp k a2 t2 hw
      · exact trivial
    · exact w_close h
theorem w_bou {pe pe2 pf : Nat → tS → PR} (hp : WE pe) (hp2 : WE pe2) (hf : WE pf) {kd : Int32} {d : Nat} : WE (pBou tx pe (pBind tx pe2 pf d) kd) := by
  intro a t
  unfold pBou
  split
  · have hw := hp (a + 1 + 1) (tAdd t kd 0 (nI a))
    generalize pe (a + 1 + 1) (tAdd t kd 0 (nI a)) = r at hw
    rcases r with ⟨c, a2, t2⟩ | e
    · have h1 := (opd_part opd_new hw).1
      show wr t (if tx a2 = 32 then _ else _)
      split
      · have hw2 := w_bind (tx := tx) hp2 hf (d := d) (a := a2 + 1) h1
        generalize pBind tx pe2 pf d (tn t) (a2 + 1) (tPart t2 (tn t) c) = r2 at hw2
        rcases r2 with ⟨a4, t4⟩ | e
        · exact w_bs (fun a t h => w_bind hp2 hf h) 2 a4 t4 hw2
        · exact trivial
      · exact trivial
    · exact trivial
  · exact trivial
theorem w_call {pe : Nat → tS → PR} (hp : WE pe) : WE (pCall tx pe) := by
  intro a t
  have hw := hp a (tAdd t 11 0 (nI a))
  unfold pCall
  generalize pe a (tAdd t 11 0 (nI a)) = r at hw
  rcases r with ⟨c, a2, t2⟩ | e
  · exact w_more hp 3 a2 _ (opd_part opd_new hw).1
  · exact trivial
theorem w_ex : ∀ f d, WE (pEx tx f d)
  | 0, d, a, t => trivial
  | f + 1, d, a, t => by
    unfold pEx
    split
    · split
      · unfold pBra
        split
        · exact w_fun (w_ex f (d + 1)) _ _
        · split
          · exact w_bou (w_ex f (d + 1)) (w_ex f (d + 2)) (w_fun (w_ex f (d + 3))) _ _
          · split
            · exact w_call (w_ex f (d + 1)) _ _
            · split
              · exact w_call (w_ex f (d + 1)) _ _
              · exact w_args (w_ex f (d + 1)) _ _ _ opd_new
      · exact trivial
    · split
      · have hw := w_dat (tx := tx) 11 d (a + 1) (tAdd t 4 0 (nI a))
        generalize pDat tx 11 d (a + 1) (tAdd t 4 0 (nI a)) = r at hw
        rcases r with ⟨c, a2, t2⟩ | e
        · exact opd_done (opd_part opd_new hw).1
        · exact trivial
      · exact w_atom a t
end WT
end
section
def sumTo (B : Nat → Nat) : Nat → Nat
  | 0 => 0
  | k + 1 => sumTo B k + B k
theorem sumTo_mono (B : Nat → Nat) : ∀ {i j : Nat}, i ≤ j → sumTo B i ≤ sumTo B j := by
  intro i j h
  induction j with
  | zero => rw [show i = 0 by omega]; exact Nat.le_refl _
  | succ j ih =>
    by_cases e : i = j + 1
    · rw [e]; exact Nat.le_refl _
    · have := ih (by omega)
      show sumTo B i ≤ sumTo B j + B j
      omega
theorem sumTo_le {B : Nat → Nat} {L : Nat} (h0 : ∀ i, L ≤ i → B i = 0) (m : Nat) : sumTo B m ≤ sumTo B L := by
  induction m with
  | zero => exact Nat.zero_le _
  | succ m ih =>
    by_cases e : L ≤ m
    · show sumTo B m + B m ≤ _
      rw [h0 m e]
      omega
    · exact sumTo_mono B (by omega)
theorem sumTo_at (B : Nat → Nat) (i : Nat) : B i ≤ sumTo B (i + 1) := Nat.le_add_left _ _
theorem sumTo_sh (B : Nat → Nat) : ∀ k, sumTo B (k + 1) = B 0 + sumTo (fun i => B (i + 1)) k
  | 0 => by show 0 + B 0 = B 0 + 0; omega
  | k + 1 => by
    have := sumTo_sh B k
    show sumTo B (k + 1) + B (k + 1) = B 0 + (sumTo (fun i => B (i + 1)) k + B (k + 1))
    omega
theorem segs_sum {P : Nat → Nat → Prop} : ∀ {cs : List Nat} {a e : Nat}, segs P a e cs → ∃ B : Nat → Nat, (∀ i c, cs[i]? = some c → ∃ b, c < b ∧ P c b ∧ 200 * (b - c) = B i) ∧ (∀ i, cs.length ≤ i → B i = 0) ∧ sumTo B cs.length ≤ 200 * (e - a)
  | [], a, e, h => ⟨fun _ => 0, fun i c h => (by cases h), fun _ _ => rfl, Nat.zero_le _⟩
  | c :: cs, a, e, ⟨h1, b, h2, h3, h4⟩ => by
    obtain ⟨B, g1, g2, g3⟩ := segs_sum h4
    have hle := segs_le h4
    refine ⟨fun i => match i with | 0 => 200 * (b - c) | i + 1 => B i, fun i q hq => ?_, fun i hi => ?_, ?_⟩
    · cases i with
      | zero => cases hq; exact ⟨b, h2, h3, rfl⟩
      | succ i => exact g1 i q hq
    · cases i with
      | zero => cases hi
      | succ i => exact g2 i (Nat.le_of_succ_le_succ hi)
    · rw [List.length_cons, sumTo_sh]
      show 200 * (b - c) + sumTo B cs.length ≤ _
      omega
theorem tEn_in {t : tS} {g : Nat → Option Nat} {i : Nat} (h : i < tn t) : tEn t g (some i) = g i := if_pos h
theorem tEn_no {t : tS} {g : Nat → Option Nat} : tEn t g none = none := rfl
theorem tPt_no {t : tS} : ∀ k, tPt t k none = none
  | 0 => rfl
  | k + 1 => tPt_no k
theorem chain_pt {t : tS} : ∀ (cs : List Nat) (o : Option Nat) (k : Nat), (∀ c, c ∈ cs → c < tn t) → chain t o cs → tPt t k o = cs[k]?
  | [], o, k, _, h => by
    rw [show o = none from h, tPt_no]
    rfl
  | c :: cs, o, 0, _, ⟨h1, _⟩ => h1
  | c :: cs, o, k + 1, hc, ⟨h1, h2⟩ => by
    rw [h1]
    show tPt t k (tEn t (tN t) (some c)) = cs[k]?
    rw [tEn_in (hc c List.mem_cons_self)]
    exact chain_pt cs _ k (fun d hd => hc d (List.mem_cons_of_mem _ hd)) h2
section CO
variable {z : Nat} {t : tS} {s : cD_}
theorem cn_A {v : Vl} : cn (dC (dA z s v)) = cn (dC s) + 1 := (cAp_n z (dC s) v).1
theorem cn_I {x : Int32} : cn (dC (dI z s x)) = cn (dC s) + 1 := (cAp_n z (dC s) (vInt x)).1
theorem cn_B : cn (dC (dB z s)) = cn (dC s) + 1 := (cAp_n z (dC s) vNil).1
theorem cn_E {p : Nat} : cn (dC (dE s p)) = cn (dC s) := rfl
theorem cn_Lv : cn (dC (dLv s)) = cn (dC s) := rfl
theorem cn_En {o : Option Nat} : cn (dC (dEn s o)) = cn (dC s) := by
  unfold dEn
  split <;> rfl
theorem cn_No {p : Int32} : cn (dC (dNo s p)) = cn (dC s) := by
  unfold dNo
  split <;> rfl
theorem cn_Va {o : Option Nat} : cn (dC (dVa z t o s)) = cn (dC s) + 2 := by
  unfold dVa
  rw [cn_I, cn_I]
  split
  · rw [cn_No]
  · rfl
theorem dEx_no : ∀ (f d : Nat) (s : cD_), dEx z t f d none s = s
  | 0, d, s => rfl
  | f + 1, d, s => by
    unfold dEx
    split
    · rfl
    · simp [tEi]
def CP (z : Nat) (t : tS) (n e : Nat) : Prop := (∀ f d s, cn (dC (dEx z t f d (some n) s)) ≤ cn (dC s) + 200 * (e - n)) ∧ (∀ f d s, cn (dC (dDa z t f d (some n) s)) ≤ cn (dC s) + 200 * (e - n)) ∧ (∀ f d s, cn (dC (dEx z t f d (tEn t (tF t) (some n)) s)) ≤ cn (dC s) + 200 * (e - n))
theorem row_cost {f d : Nat} : ∀ (cs : List Nat) (a e k : Nat) (o : Option Nat) (s : cD_), (∀ c, c ∈ cs → c < tn t) → chain t o cs → segs (fun c b => WS t c b ∧ CP z t c b) a e cs → cn (dC (dRow t (dDa z t f d) k o s)) ≤ cn (dC s) + 200 * (e - a)
  | [], a, e, k, o, s, _, h, _ => by
    rw [show o = none from h]
    cases k <;> exact Nat.le_add_right _ _
  | c :: cs, a, e, 0, o, s, _, _, _ => Nat.le_add_right _ _
  | c :: cs, a, e, k + 1, o, s, hc, ⟨h1, h2⟩, ⟨h3, b, h4, ⟨_, h5⟩, h6⟩ => by
    subst h1
    subst h3
    have hle := segs_le h6
    show cn (dC (dRow t (dDa z t f d) k (tEn t (tN t) (some c)) (dDa z t f d (some c) s))) ≤ _
    rw [tEn_in (hc c List.mem_cons_self)]
    have g1 := row_cost (f := f) (d := d) cs b e k _ (dDa z t f d (some c) s) (fun q hq => hc q (List.mem_cons_of_mem _ hq)) h2 h6
    have g2 := h5.2.1 f d s
    omega
variable {go : Option Nat → cD_ → cD_} {o : Option Nat} {B : Nat → Nat}
theorem cn_Li {w : Option Nat} {x : Int32} {c : Nat} (h : ∀ s, cn (dC (go w s)) ≤ cn (dC s) + c) : cn (dC (dLi z go w x s)) ≤ cn (dC s) + c + 2 := by
  unfold dLi
  rw [cn_E, cn_I]
  have := h (dB z s)
  rw [cn_B] at this
  omega
theorem cn_Op13 {n : Nat} (hB : ∀ k s, cn (dC (go (dPt t k o) s)) ≤ cn (dC s) + B k) : ∀ (j i : Nat) (s : cD_), j + i = n → cn (dC (dOp t go o 13 n j i s)) ≤ cn (dC s) + sumTo B j
  | 0, i, s, _ => Nat.le_add_right _ _
  | j + 1, i, s, h => by
    have g1 := cn_Op13 (n := n) hB j (i + 1) (go (dPt t (n - 1 - i) o) s) (by omega)
    have g2 := hB (n - 1 - i) s
    have e : n - 1 - i = j := by omega
    rw [e] at g1 g2
    show cn (dC (dOp t go o 13 n j (i + 1) (go (dPt t (if (13 : Int32) = 13 then n - 1 - i else i) o) s))) ≤ cn (dC s) + (sumTo B j + B j)
    rw [if_pos rfl, e]
    omega
theorem cn_Opf {w : Int32} (hw : ¬ w = 13) {n : Nat} (hB : ∀ k s, cn (dC (go (dPt t k o) s)) ≤ cn (dC s) + B k) : ∀ (j i : Nat) (s : cD_), cn (dC (dOp t go o w n j i s)) + sumTo B i ≤ cn (dC s) + sumTo B (i + j)
  | 0, i, s => Nat.le_refl _
  | j + 1, i, s => by
    have g1 := cn_Opf hw (n := n) hB j (i + 1) (go (dPt t i o) s)
    have g2 := hB i s
    show cn (dC (dOp t go o w n j (i + 1) (go (dPt t (if w = 13 then n - 1 - i else i) o) s))) + sumTo B i ≤ _
    rw [if_neg hw]
    have e : sumTo B (i + 1) = sumTo B i + B i := rfl
    rw [e, show i + 1 + j = i + (j + 1) by omega] at g1
    omega
theorem cn_As {pick : Nat → Option Nat} (hB : ∀ k s, cn (dC (go (pick k) s)) ≤ cn (dC s) + B k) : ∀ (k : Nat) (s : cD_), cn (dC (dAs z go pick k s)) + B 0 ≤ cn (dC s) + sumTo B (k + 1) + k
  | 0, s => by show cn (dC s) + B 0 ≤ cn (dC s) + (0 + B 0) + 0; omega
  | k + 1, s => by
    have g1 := cn_As hB k (dAr z go (pick (k + 1)) s)
    have g2 := hB (k + 1) s
    have e : cn (dC (dAr z go (pick (k + 1)) s)) = cn (dC (go (pick (k + 1)) s)) + 1 := cn_I
    have e2 : sumTo B (k + 1 + 1) = sumTo B (k + 1) + B (k + 1) := rfl
    show cn (dC (dAs z go pick k (dAr z go (pick (k + 1)) s))) + B 0 ≤ _
    omega
theorem cn_BA : cn (dC (dBA z s)) = cn (dC s) + 2 := by
  unfold dBA
  rw [cn_A, cn_I]
theorem cn_Bo {w fl : Option Nat} {c : Nat} (h : ∀ s, cn (dC (go w s)) ≤ cn (dC s) + c) : cn (dC (dBo z go w fl s)) ≤ cn (dC s) + c + 3 := by
  unfold dBo
  rw [cn_Lv]
  have := cn_Li (z := z) (x := 5) (s := dEn (dI z s 3) fl) h
  rw [cn_En, cn_I] at this
  omega
end CO
theorem tCn_96 (t : tS) (o : Option Nat) : tCn t 96 o ≤ 96 := tCn_le t 96 o
theorem cost {z : Nat} {t : tS} {n e : Nat} (he : e ≤ tn t) (h : WS t n e) : CP z t n e := by
  refine WS_ind (P := fun n e => e ≤ tn t → CP z t n e) (fun n e cs h1 h2 h3 he => ?_) h he
  have hin := segs_in h3
  have hct : ∀ c, c ∈ cs → c < tn t := fun c hc => by have := (hin c hc).2; omega
  have h3 : segs (fun c b => WS t c b ∧ CP z t c b) (n + 1) e cs := by
    have go : ∀ (cs : List Nat) (a : Nat), segs (fun c b => WS t c b ∧ (b ≤ tn t → CP z t c b)) a e cs → segs (fun c b => WS t c b ∧ CP z t c b) a e cs := by
      intro cs
      induction cs with
      | nil => intro a h; exact h
      | cons c cs ih =>
        rintro a ⟨g1, b, g2, ⟨g3, g4⟩, g5⟩
        have := segs_le g5
        exact ⟨g1, b, g2, ⟨g3, g4 (by omega)⟩, ih b g5⟩
    exact go cs (n + 1) h3
  have hle := segs_le h3
  obtain ⟨B, b1, b2, b3⟩ := segs_sum h3
  have hp : ∀ k, dPt t k (some n) = cs[k]? := fun k => by
    unfold dPt
    rw [tEn_in (show n < tn t by omega)]
    exact chain_pt cs _ k hct h2
  have hS : ∀ m, sumTo B m ≤ 200 * (e - (n + 1)) := fun m => Nat.le_trans (sumTo_le b2 m) b3
  have hB : ∀ f d k s, cn (dC (dEx z t f d (dPt t k (some n)) s)) ≤ cn (dC s) + B k := by
    intro f d k s
    rw [hp]
    cases hk : cs[k]? with
    | none =>
      rw [dEx_no]
      exact Nat.le_add_right _ _
    | some c =>
      obtain ⟨b, q1, ⟨-, q2⟩, q3⟩ := b1 k c hk
      rw [← q3]
      exact q2.1 f d s
  have hB2 : ∀ f d k s, cn (dC (dEx z t f d (tEn t (tF t) (dPt t k (some n))) s)) ≤ cn (dC s) + B k := by
    intro f d k s
    rw [hp]
    cases hk : cs[k]? with
    | none =>
      rw [tEn_no, dEx_no]
      exact Nat.le_add_right _ _
    | some c =>
      obtain ⟨b, q1, ⟨-, q2⟩, q3⟩ := b1 k c hk
      rw [← q3]
      exact q2.2.2 f d s
  have hfirst : tEn t (tF t) (some n) = cs[0]? := hp 0
  have hda : ∀ f d s, cn (dC (dDa z t f d (some n) s)) ≤ cn (dC s) + 200 * (e - n) := by
    intro f d s
    cases f with
    | zero => exact Nat.le_add_right _ _
    | succ f =>
      unfold dDa
      split
      · exact Nat.le_add_right _ _
      · split
        · rw [cn_A]; omega
        · split
          · rw [cn_A]; omega
          · rw [cn_E]
            have := row_cost (z := z) (f := f) (d := d + 1) cs (n + 1) e 96 (tEn t (tF t) (some n)) (dB z s) hct (by rw [tEn_in (show n < tn t by omega)]; exact h2) h3
            rw [cn_B] at this
            omega
  have hdf : ∀ f d s, cn (dC (dDa z t f d (tEn t (tF t) (some n)) s)) ≤ cn (dC s) + 200 * (e - (n + 1)) + 1 := by
    intro f d s
    rw [hfirst]
    cases hk : cs[0]? with
    | none =>
      cases f with
      | zero => show cn (dC s) ≤ _; omega
      | succ f =>
        unfold dDa
        split
        · omega
        · rw [if_neg (show ¬ tEi t (tK t) none = 1 from show ¬ (-1 : Int32) = 1 by decide), if_neg (show ¬ tEi t (tK t) none = 2 from show ¬ (-1 : Int32) = 2 by decide), cn_E]
          show cn (dC (dB z s)) ≤ _
          rw [cn_B]
          omega
    | some c =>
      obtain ⟨b, q1, ⟨-, q2⟩, q3⟩ := b1 0 c hk
      have := q2.2.1 f d s
      have h9 := hS 1
      have : B 0 ≤ sumTo B 1 := sumTo_at B 0
      omega
  refine ⟨fun f d s => ?_, hda, fun f d s => ?_⟩
  · cases f with
    | zero => exact Nat.le_add_right _ _
    | succ f =>
      have s1 := hS 1
      have s2 := hS 2
      have s3 := hS 3
      have a0 : sumTo B 1 = B 0 := Nat.zero_add _
      have a1 : sumTo B 2 = sumTo B 1 + B 1 := rfl
      have a2 : sumTo B 3 = sumTo B 2 + B 2 := rfl
      have hc := tCn_96 t (tEn t (tF t) (some n))
      have sk := hS (tCn t 96 (tEn t (tF t) (some n)) - 1 + 1)
      have hAs : ∀ s, cn (dC (dBs z t (dEx z t f (d + 1)) (some n) s)) + B 0 ≤ cn (dC s) + 2 + 200 * (e - (n + 1)) + 96 := by
        intro s
        have := cn_As (z := z) (go := dEx z t f (d + 1)) (B := B) (pick := fun k => tEn t (tF t) (dPt t k (some n))) (fun k s => hB2 f (d + 1) k s) (tCn t 96 (tEn t (tF t) (some n)) - 1) (dBA z s)
        rw [cn_BA] at this
        unfold dBs
        omega
      unfold dEx
      split
      · exact Nat.le_add_right _ _
      · next h9 =>
        split
        · next hk =>
          show cn (dC (dDa z t (10 + 1) d (some n) (dI z s 1))) ≤ _
          rw [dDa, if_neg h9, if_pos hk, cn_A, cn_I]
          omega
        · split
          · rw [cn_Va]
            omega
          · split
            · have := hdf 11 d (dI z s 1)
              rw [cn_I] at this
              omega
            · split
              · unfold dOn
                split
                · unfold dCh
                  have g1 := hB f (d + 1) 0 s
                  have g2 := cn_Li (z := z) (x := 9) (s := dI z (dEx z t f (d + 1) (dPt t 0 (some n)) s) 8) (fun s => hB f (d + 1) 1 s)
                  have g3 := cn_Li (z := z) (x := 9) (s := dLi z (dEx z t f (d + 1)) (dPt t 1 (some n)) 9 (dI z (dEx z t f (d + 1) (dPt t 0 (some n)) s) 8)) (fun s => hB f (d + 1) 2 s)
                  rw [cn_I] at g2
                  omega
                · rw [cn_I]
                  by_cases h13 : tEi t (tV t) (some n) = 13
                  · rw [h13]
                    have := cn_Op13 (go := dEx z t f (d + 1)) (o := some n) (B := B) (n := tCn t 96 (tEn t (tF t) (some n))) (fun k s => hB f (d + 1) k s) (tCn t 96 (tEn t (tF t) (some n))) 0 s (Nat.add_zero _)
                    have := hS (tCn t 96 (tEn t (tF t) (some n)))
                    omega
                  · have := cn_Opf (go := dEx z t f (d + 1)) (o := some n) (B := B) h13 (n := tCn t 96 (tEn t (tF t) (some n))) (fun k s => hB f (d + 1) k s) (tCn t 96 (tEn t (tF t) (some n))) 0 s
                    have h8 := hS (0 + tCn t 96 (tEn t (tF t) (some n)))
                    have : sumTo B 0 = 0 := rfl
                    omega
              · split
                · have := cn_Bo (z := z) (fl := tEn t (tF t) (dPt t 0 (some n))) (s := s) (fun s => hB f (d + 1) 1 s)
                  omega
                · split
                  · unfold dBd
                    rw [cn_I]
                    have g1 := cn_Bo (z := z) (fl := dPt t 1 (some n)) (s := dBs z t (dEx z t f (d + 1)) (some n) s) (fun s => hB f (d + 1) 0 s)
                    have g2 := hAs s
                    omega
                  · split
                    · unfold dBf
                      rw [cn_I]
                      have g1 := cn_Bo (z := z) (fl := dPt t 1 (some n)) (s := dLv (dBs z t (dEx z t f (d + 1)) (some n) (dEn (dI z s 6) (dPt t 1 (some n))))) (fun s => hB f (d + 1) 0 s)
                      have g2 := hAs (dEn (dI z s 6) (dPt t 1 (some n)))
                      rw [cn_Lv] at g1
                      rw [cn_En, cn_I] at g2
                      omega
                    · split
                      · unfold dCa
                        rw [cn_I]
                        have g1 := cn_As (z := z) (go := dEx z t f (d + 1)) (B := B) (pick := fun k => dPt t k (some n)) (fun k s => hB f (d + 1) k s) (tCn t 96 (tEn t (tF t) (some n)) - 1) (dBA z s)
                        rw [cn_BA] at g1
                        have g2 := hB f (d + 1) 0 (dAs z (dEx z t f (d + 1)) (fun k => dPt t k (some n)) (tCn t 96 (tEn t (tF t) (some n)) - 1) (dBA z s))
                        omega
                      · exact Nat.le_add_right _ _
  · rw [hfirst]
    cases hk : cs[0]? with
    | none =>
      rw [dEx_no]
      exact Nat.le_add_right _ _
    | some c =>
      obtain ⟨b, q1, ⟨-, q2⟩, q3⟩ := b1 0 c hk
      have := q2.1 f d s
      have h9 := hS 1
      have : B 0 ≤ sumTo B 1 := sumTo_at B 0
      omega
theorem lay_lt {z : Nat} {tx : Nat → Nat} {t t2 : tS} {n a2 : Nat} {s : cD_} (h : pEx tx 10 0 0 (0, t.2) = .inl (n, a2, t2)) (h96 : tn t2 ≤ 96) : cn (dC (dI z (dEx z t2 11 0 (some 0) (dZ s)) 19)) < 2 ^ 30 := by
  have hw := w_ex (tx := tx) 10 0 0 (0, t.2)
  rw [h] at hw
  obtain ⟨-, w1, w2, -⟩ := hw
  have hc := (cost (z := z) (Nat.le_refl _) w1).1 11 0 (dZ s)
  rw [cn_I]
  have e : cn (dC (dZ s)) = 0 := rfl
  have : cn (dC (dEx z t2 11 0 (some 0) (dZ s))) ≤ cn (dC (dZ s)) + 200 * (tn t2 - 0) := hc
  omega
end
section
def OC (z : Nat) (s : cD_) : Prop := okA z (cH_ (dC s)) ∧ okA z (cT_ (dC s))
def OGo (z : Nat) (go : Option Nat → cD_ → cD_) : Prop := ∀ o s, OC z s → OC z (go o s)
section OCS
variable {z : Nat} {t : tS} {s : cD_} {go : Option Nat → cD_ → cD_}
theorem oc_Ap {H T : Nat → Vl} {n : Nat} {l : Option Nat} {b : Bool} {v : Vl} (hv : okV z v) (h : okA z H ∧ okA z T) : okA z (cAp z (H, T, n, l, b) v).1 ∧ okA z (cAp z (H, T, n, l, b) v).2.1 := by
  unfold cAp
  split
  · next hn =>
    have hn : n < z := hn
    have h1 := okA_upd (k := n) h.1 hv
    have h2 := okA_upd (k := n) (x := vNil) h.2 trivial
    show okA z (cLk z (upW H n v) (upW T n vNil) l b (vPr n)).1 ∧ okA z (cLk z (upW H n v) (upW T n vNil) l b (vPr n)).2
    unfold cLk
    split
    · exact ⟨h1, h2⟩
    · split
      · split
        · exact ⟨okA_upd h1 hn, h2⟩
        · exact ⟨h1, okA_upd h2 hn⟩
      · exact ⟨h1, h2⟩
  · exact h
theorem oc_A {v : Vl} (hv : okV z v) (h : OC z s) : OC z (dA z s v) := oc_Ap (n := cn (dC s)) (l := cl (dC s)) (b := ci (dC s)) hv h
theorem oc_I {x : Int32} (h : OC z s) : OC z (dI z s x) := oc_A (v := vInt x) trivial h
theorem oc_B (h : OC z s) : OC z (dB z s) := oc_Ap (n := cn (dC s)) (l := cl (dC s)) (b := ci (dC s)) (v := vNil) trivial h
theorem oc_E {p : Nat} (h : OC z s) : OC z (dE s p) := h
theorem oc_Lv (h : OC z s) : OC z (dLv s) := h
theorem oc_En {o : Option Nat} (h : OC z s) : OC z (dEn s o) := by
  unfold dEn
  split <;> exact h
theorem oc_No {p : Int32} (h : OC z s) : OC z (dNo s p) := by
  unfold dNo
  split <;> exact h
theorem oc_Va {o : Option Nat} (h : OC z s) : OC z (dVa z t o s) := by
  unfold dVa
  refine oc_I (oc_I ?_)
  split
  · exact oc_No h
  · exact h
theorem oc_Row (hg : OGo z go) : ∀ (k : Nat) (o : Option Nat) (s : cD_), OC z s → OC z (dRow t go k o s)
  | 0, o, s, h => h
  | k + 1, none, s, h => h
  | k + 1, some i, s, h => oc_Row hg k _ _ (hg _ _ h)
theorem sym_ok (ht : tOK t) {o : Option Nat} (hk : tEi t (tK t) o = 2) : okV z (vSym (tEi t (tV t) o)) := by
  cases o with
  | none => exact absurd hk (show ¬ (-1 : Int32) = 2 by decide)
  | some i =>
    unfold tEi at hk ⊢
    by_cases hi : i < tn t
    · simp only [hi, if_true] at hk ⊢
      exact ht.2.2.1.2 i hi hk
    · simp only [hi, if_false] at hk
      exact absurd hk (by decide)
theorem oc_Da (ht : tOK t) : ∀ f d, OGo z (dDa z t f d)
  | 0, d, o, s, h => h
  | f + 1, d, o, s, h => by
    unfold dDa
    split
    · exact h
    · split
      · exact oc_A trivial h
      · split
        · next hk => exact oc_A (sym_ok ht hk) h
        · exact oc_E (oc_Row (oc_Da ht f (d + 1)) 96 _ _ (oc_B h))
theorem oc_Li (hg : OGo z go) {o : Option Nat} {x : Int32} (h : OC z s) : OC z (dLi z go o x s) := oc_E (oc_I (hg _ _ (oc_B h)))
theorem oc_Op (hg : OGo z go) {o : Option Nat} {w : Int32} {n : Nat} : ∀ (j i : Nat) (s : cD_), OC z s → OC z (dOp t go o w n j i s)
  | 0, i, s, h => h
  | j + 1, i, s, h => oc_Op hg j (i + 1) _ (hg _ _ h)
theorem oc_Bo (hg : OGo z go) {o fl : Option Nat} (h : OC z s) : OC z (dBo z go o fl s) := oc_Lv (oc_Li hg (oc_En (oc_I h)))
theorem oc_BA (h : OC z s) : OC z (dBA z s) := oc_A (v := vNil) trivial (oc_I h)
theorem oc_As (hg : OGo z go) {pick : Nat → Option Nat} : ∀ (k : Nat) (s : cD_), OC z s → OC z (dAs z go pick k s)
  | 0, s, h => h
  | k + 1, s, h => oc_As hg k _ (oc_I (hg _ _ h))
theorem oc_Bs (hg : OGo z go) {o : Option Nat} (h : OC z s) : OC z (dBs z t go o s) := oc_As hg _ _ (oc_BA h)
end OCS
theorem oc_Ex {z : Nat} {t : tS} (ht : tOK t) : ∀ f d, OGo z (dEx z t f d)
  | 0, d, o, s, h => h
  | f + 1, d, o, s, h => by
    have hg := oc_Ex (z := z) ht f (d + 1)
    unfold dEx
    split
    · exact h
    · split
      · exact oc_Da ht 11 d o _ (oc_I h)
      · split
        · exact oc_Va h
        · split
          · exact oc_Da ht 11 d _ _ (oc_I h)
          · split
            · unfold dOn
              split
              · exact oc_Li hg (oc_Li hg (oc_I (hg _ _ h)))
              · exact oc_I (oc_Op hg _ _ _ h)
            · split
              · exact oc_Bo hg h
              · split
                · exact oc_I (oc_Bo hg (oc_Bs hg h))
                · split
                  · exact oc_I (oc_Bo hg (oc_Lv (oc_Bs hg (oc_En (oc_I h)))))
                  · split
                    · exact oc_I (hg _ _ (oc_As hg _ _ (oc_BA h)))
                    · exact h
def WC (z : Nat) (err : Int32) (t : tS) (X : Nat → Int32) (len a : Nat) (s : cD_) (S E C D : Vl) (mode colls taken steps : Int32) (H T : Nat → Vl) (fr : Nat → Nat) (g : gS) (f c : Nat) (k : Int32) (n : Nat) (fb : Nat → Nat) (R : Nat → Vl) (tl : List mj_O) : List mj_O :=
  cdW (oF 0 [.int (nI z), .ref 8, .ref 10, .ref 11, .ref 14, .ref 16, .int err]) t X len a z s (oF 6 [.ref 17, .ref 23, .long (encV S), .long (encV E), .long (encV C), .long (encV D), .int mode, .int colls, .int taken, .int steps] ::
    oF 7 [.int (nI z), .ref 18, .ref 19, .ref 20, .ref 21, .ref 22, .int (nI f), .int (nI g.2.2), .int (nI c)] :: oJ z (eH H) :: oJ z (eH T) :: oI z (eN fr) :: oZ z (eB g.1) :: oI z (eN g.2.1) ::
    oF 8 [.ref 17, .ref 24, .ref 26, .int k] :: .inr (.inr (.inl (n, fb))) :: .inr (.inr (.inr ())) :: oJ 120 (eH R) :: tl)
section P2o
variable {m b0 b1 : Nat} {op : Bool} {tl : List mj_O} {Q : mj_R → Prop} {xs : List Int32}
variable {z : Nat} {err : Int32} {t : tS} {X : Nat → Int32} {len a : Nat} {s : cD_} {S E C D : Vl} {mode colls taken steps : Int32} {H T : Nat → Vl} {fr : Nat → Nat} {g : gS} {f c : Nat} {k : Int32} {n : Nat} {fb : Nat → Nat} {R : Nat → Vl}
set_option maxRecDepth 10000
theorem e_cells {o0 : mj_O} (hQ : Q (.inl (some (.int (nI (cn (dC s))))), (cdW o0 t X len a z s tl, b0, b1, op))) : mj_Mt gT (law_cst xs) gnw (m + 1) y_Code_cells [.ref 11] (cdW o0 t X len a z s tl, b0, b1, op) Q := by
  intro J hJ
  refine hJ _ _ _ _ ?_
  exact hQ
theorem e_head {o0 : mj_O} {i : Nat} (hz : z ≤ 250) (hi : i < z) (hQ : Q (.inl (some (.long (encV (cH_ (dC s) i)))), (cdW o0 t X len a z s tl, b0, b1, op))) : mj_Mt gT (law_cst xs) gnw (m + 1) y_Code_head [.ref 11, .int (nI i)] (cdW o0 t X len a z s tl, b0, b1, op) Q := by
  intro J hJ
  refine hJ _ _ _ _ ?_
  refine And.intro (fun q => absurd q (nI_pos (by omega))) (fun _ => ?_)
  refine And.intro (fun q => absurd q (nI_ge (a := i) (b := z) hi (by omega))) (fun _ => ?_)
  refine And.intro (vp_in_nI hi (by omega)) ?_
  have key : ∀ j, j = i → Q (.inl (some (.long (eH (cH_ (dC s)) j))), (cdW o0 t X len a z s tl, b0, b1, op)) := by
    rintro j rfl
    exact hQ
  exact key _ (nI_clamp (by omega))
theorem e_tail {o0 : mj_O} {i : Nat} (hz : z ≤ 250) (hi : i < z) (hQ : Q (.inl (some (.long (encV (cT_ (dC s) i)))), (cdW o0 t X len a z s tl, b0, b1, op))) : mj_Mt gT (law_cst xs) gnw (m + 1) y_Code_tail [.ref 11, .int (nI i)] (cdW o0 t X len a z s tl, b0, b1, op) Q := by
  intro J hJ
  refine hJ _ _ _ _ ?_
  refine And.intro (fun q => absurd q (nI_pos (by omega))) (fun _ => ?_)
  refine And.intro (fun q => absurd q (nI_ge (a := i) (b := z) hi (by omega))) (fun _ => ?_)
  refine And.intro (vp_in_nI hi (by omega)) ?_
  have key : ∀ j, j = i → Q (.inl (some (.long (eH (cT_ (dC s)) j))), (cdW o0 t X len a z s tl, b0, b1, op)) := by
    rintro j rfl
    exact hQ
  exact key _ (nI_clamp (by omega))
def cpV (A B : Nat → Vl) (k : Nat) : Nat → Vl := fun i => if i < k then A i else B i
theorem cpV_s (A B : Nat → Vl) (k : Nat) : upW (cpV A B k) k (A k) = cpV A B (k + 1) := by
  funext i
  unfold upW cpV
  by_cases h : i = k
  · rw [if_pos h, if_pos (by omega), h]
  · rw [if_neg h]
    by_cases h2 : i < k
    · rw [if_pos h2, if_pos (by omega)]
    · rw [if_neg h2, if_neg (by omega)]
theorem cpV_0 (A B : Nat → Vl) : cpV A B 0 = B := by
  funext i
  exact if_neg (Nat.not_lt_zero i)
theorem s_load (hz : z ≤ 250) (hc : cn (dC s) ≤ z) (hQ : Q (.inl none, (WC z err t X len a s S E C D mode colls taken steps (cpV (cH_ (dC s)) H (cn (dC s))) (cpV (cT_ (dC s)) T (cn (dC s))) (faN (z - cn (dC s)) (cn (dC s)) (fr, 0)).1 g (faN (z - cn (dC s)) (cn (dC s)) (fr, 0)).2 (cn (dC s)) k n fb R tl, b0, b1, op))) : mj_Mt gT (law_cst xs) gnw (m + 2) y_Store_load [.ref 17, .ref 11] (WC z err t X len a s S E C D mode colls taken steps H T fr g f c k n fb R tl, b0, b1, op) Q := by
  intro J hJ
  refine hJ _ _ _ _ ?_
  refine e_cells ?_
  have em : (if nI z < nI (cn (dC s)) then nI z else nI (cn (dC s))) = nI (cn (dC s)) := if_neg (nI_nlt hc (by omega))
  have loop : ∀ (j i : Nat) (x : Int32), j + i = cn (dC s) → x = nI i → J 9 [some (.ref 17), some (.ref 11), some (.int x)] [] (WC z err t X len a s S E C D mode colls taken steps (cpV (cH_ (dC s)) H i) (cpV (cT_ (dC s)) T i) fr g f (cn (dC s)) k n fb R tl, b0, b1, op) := by
    intro j
    induction j with
    | zero =>
      intro i x hi hx
      subst hx
      obtain rfl : i = cn (dC s) := by omega
      refine hJ _ _ _ _ ?_
      refine And.intro (fun _ => ?_) (fun q => absurd (nI_le (Nat.le_refl _) (by omega)) q)
      refine s_freeAllButCode hz hc ?_
      exact hQ
    | succ j ih =>
      intro i x hi hx
      subst hx
      have ec : (nI i).toNatClampNeg = i := nI_clamp (by omega)
      refine hJ _ _ _ _ ?_
      refine And.intro (fun q => absurd q (nI_ge (a := i) (b := cn (dC s)) (by omega) (by omega))) (fun _ => ?_)
      refine e_head hz (by omega) ?_
      refine And.intro (vp_in_nI (by omega) (by omega)) ?_
      refine e_tail hz (by omega) ?_
      refine And.intro (vp_in_nI (by omega) (by omega)) ?_
      have h9 := ih (i + 1) (nI (i + 1)) (by omega) rfl
      rw [← cpV_s, ← cpV_s] at h9
      have key : ∀ (j2 : Nat) (x : Int32), j2 = i → x = nI (i + 1) → J 9 [some (.ref 17), some (.ref 11), some (.int x)] [] (cdW (oF 0 [.int (nI z), .ref 8, .ref 10, .ref 11, .ref 14, .ref 16, .int err]) t X len a z s (oF 6 [.ref 17, .ref 23, .long (encV S), .long (encV E), .long (encV C), .long (encV D), .int mode, .int colls, .int taken, .int steps] ::
    oF 7 [.int (nI z), .ref 18, .ref 19, .ref 20, .ref 21, .ref 22, .int (nI f), .int (nI g.2.2), .int (nI (cn (dC s)))] :: oJ z (vp_updL (eH (cpV (cH_ (dC s)) H i)) j2 (encV (cH_ (dC s) i))) :: oJ z (vp_updL (eH (cpV (cT_ (dC s)) T i)) j2 (encV (cT_ (dC s) i))) :: oI z (eN fr) :: oZ z (eB g.1) :: oI z (eN g.2.1) ::
    oF 8 [.ref 17, .ref 24, .ref 26, .int k] :: .inr (.inr (.inl (n, fb))) :: .inr (.inr (.inr ())) :: oJ 120 (eH R) :: tl), b0, b1, op) := by
        rintro j2 x rfl rfl
        rw [updL_enc, updL_enc]
        exact h9
      exact key _ _ ec (nI_1 i)
  have h0 := loop (cn (dC s)) 0 (nI 0) rfl rfl
  rw [cpV_0, cpV_0] at h0
  have key : ∀ x : Int32, x = nI (cn (dC s)) → J 9 [some (.ref 17), some (.ref 11), some (.int 0)] [] (cdW (oF 0 [.int (nI z), .ref 8, .ref 10, .ref 11, .ref 14, .ref 16, .int err]) t X len a z s (oF 6 [.ref 17, .ref 23, .long (encV S), .long (encV E), .long (encV C), .long (encV D), .int mode, .int colls, .int taken, .int steps] ::
    oF 7 [.int (nI z), .ref 18, .ref 19, .ref 20, .ref 21, .ref 22, .int (nI f), .int (nI g.2.2), .int x] :: oJ z (eH H) :: oJ z (eH T) :: oI z (eN fr) :: oZ z (eB g.1) :: oI z (eN g.2.1) ::
    oF 8 [.ref 17, .ref 24, .ref 26, .int k] :: .inr (.inr (.inl (n, fb))) :: .inr (.inr (.inr ())) :: oJ 120 (eH R) :: tl), b0, b1, op) := by
    rintro x rfl
    exact h0
  exact key _ em
end P2o
end
section
def cSo (z : Nat) (err : Int32) (t : tS) (X : Nat → Int32) (len a : Nat) (s : cD_) (S E C D : Vl) (mode colls taken steps : Int32) (H T : Nat → Vl) (fr : Nat → Nat) (g : gS) (f c : Nat) (k : Int32) (n : Nat) (fb : Nat → Nat) (R : Nat → Vl) : cS := ((((((z, err), tK t), (tV t, tP t)), (((eO (tF t), eO (tL t)), eO (tN t)), (nI (tn t), X))), ((((nI len, nI a), eH (cH_ (dC s))), (eH (cT_ (dC s)), nI (cn (dC s)))), (((oV (cl (dC s)), bI (ci (dC s))), eO (dF s)), (nI (dK s), dU s)))), (((((encV S, encV E), encV C), (encV D, mode)), (((colls, taken), steps), (eH H, eH T))), ((((eN fr, eB g.1), eN g.2.1), (nI f, nI g.2.2)), (((nI c, k), .inr (.inr (.inl (n, fb)))), (.inr (.inr (.inr ())), eH R)))))
def CI (z len : Nat) (tx : Nat → Nat) (mode : Int32) (c : Nat) (tl W : List mj_O) : Prop := ∃ (err : Int32) (t : tS) (X : Nat → Int32) (a : Nat) (s : cD_) (S E C D : Vl) (colls taken steps : Int32) (H T : Nat → Vl) (fr : Nat → Nat) (g : gS) (f : Nat) (k : Int32) (n : Nat) (fb : Nat → Nat) (R : Nat → Vl),
  W = WC z err t X len a s S E C D mode colls taken steps H T fr g f c k n fb R tl ∧ z ≤ 250 ∧ tOK t ∧ txOK X len tx ∧ (∀ i j, dF s i = some j → j < 1000) ∧ OC z s ∧ mOK z S E C D H T ∧ (∀ j, j < z → fr j < z) ∧ f ≤ z ∧ c ≤ z ∧ dOK z n fb R
def txW (w : Int64) (len k : Nat) (tx : Nat → Nat) : Nat → Nat := fun i => if i < k then (wT w 8 len (fun i => nI (tx i)) i).toNatClampNeg else 0
theorem wT_agr (w : Int64) : ∀ (j n k : Nat) (t t' : Nat → Int32), (∀ i, i < n → t i = t' i) → wC w j n = some k → ∀ i, i < k → wT w j n t i = wT w j n t' i
  | 0, n, k, t, t', h, e => by
    have e : some n = some k := e
    cases e
    exact h
  | j + 1, n, k, t, t', h, e => by
    rw [wC_succ] at e
    rw [wT_succ, wT_succ]
    by_cases h0 : wB w j = 0
    · rw [if_pos h0] at e
      rw [if_pos h0, if_pos h0]
      exact wT_agr w j n k t t' h e
    · rw [if_neg h0] at e
      rw [if_neg h0, if_neg h0]
      split at e
      · cases e
      · refine wT_agr w j (n + 1) k _ _ (fun i hi => ?_) e
        unfold upd
        split
        · rfl
        · exact h i (by omega)
theorem wT_chr (w : Int64) : ∀ (j n k : Nat) (t : Nat → Int32), (∀ i, i < n → ∃ c : Nat, t i = nI c ∧ 32 ≤ c ∧ c ≤ 126) → wC w j n = some k → ∀ i, i < k → ∃ c : Nat, wT w j n t i = nI c ∧ 32 ≤ c ∧ c ≤ 126
  | 0, n, k, t, h, e => by
    have e : some n = some k := e
    cases e
    exact h
  | j + 1, n, k, t, h, e => by
    rw [wC_succ] at e
    rw [wT_succ]
    by_cases h0 : wB w j = 0
    · rw [if_pos h0] at e
      rw [if_pos h0]
      exact wT_chr w j n k t h e
    · rw [if_neg h0] at e
      rw [if_neg h0]
      split at e
      · cases e
      · next hr =>
        refine wT_chr w j (n + 1) k _ (fun i hi => ?_) e
        unfold upd
        split
        · have h1 : ¬ wB w j < 32 := fun q => hr (Or.inl q)
          have h2 : ¬ 126 < wB w j := fun q => hr (Or.inr q)
          have h3 : ¬ wB w j < 0 := fun q => h1 (Int32.lt_trans q (by decide))
          obtain ⟨c, hc, ec⟩ := nI_of h3
          rw [ec] at h1 h2 ⊢
          have g1 : 32 ≤ c := Nat.le_of_not_lt (fun q => h1 (nI_lt (b := 32) q (by decide)))
          have g2 : c ≤ 126 := Nat.le_of_not_lt (fun q => h2 (nI_lt (a := 126) q (by omega)))
          refine ⟨c, ?_, g1, g2⟩
          rw [(sb_byte c (by omega)).2.1]
          exact Value.int.inj (pk_charN (q := c) (by omega)).1
        · exact h i (by omega)
theorem txW_ok {w : Int64} {X : Nat → Int32} {len k : Nat} {tx : Nat → Nat} (hx : txOK X len tx) (h : wR w len = some k) : txOK (wT w 8 len X) k (txW w len k tx) := by
  have hk : wC w 8 len = some k ∧ k ≤ 96 := by
    unfold wR at h
    cases hc : wC w 8 0 with
    | none => rw [hc] at h; cases h
    | some q =>
      rw [hc] at h
      have h : (if len + q ≤ 96 then some (len + q) else none) = some k := h
      split at h
      · cases h
        exact ⟨wC_add hc len, by assumption⟩
      · cases h
  refine ⟨hk.2, fun i hi => ?_, fun i hi => ?_⟩
  · have e1 := wT_agr w 8 len k X (fun i => nI (tx i)) (fun i hi => (hx.2.1 i hi).1) hk.1 i hi
    obtain ⟨c, e2, g1, g2⟩ := wT_chr w 8 len k (fun i => nI (tx i)) (fun i hi => ⟨tx i, rfl, (hx.2.1 i hi).2⟩) hk.1 i hi
    have e3 : txW w len k tx i = c := by
      unfold txW
      rw [if_pos hi, e2]
      exact nI_clamp (by omega)
    rw [e3, e1, e2]
    exact ⟨rfl, g1, g2⟩
  · exact if_neg (by omega)
section P2p
variable {m b0 b1 : Nat} {op : Bool} {tl W : List mj_O} {Q : mj_R → Prop} {xs : List Int32} {z len c : Nat} {tx : Nat → Nat} {mode : Int32}
set_option maxRecDepth 10000
theorem C_write {w : Int64} (h : CI z len tx mode c tl W) (h1 : wR w len = none → Q (.inl (some (.int 0)), (W, b0, b1, op))) (h2 : ∀ k W', wR w len = some k → CI z k (txW w len k tx) mode c tl W' → Q (.inl (some (.int 1)), (W', b0, b1, op))) : mj_Mt gT (law_cst xs) gnw (m + 4) y_P_write [.ref 0, .long w] (W, b0, b1, op) Q := by
  obtain ⟨err, t, X, a, s, S, E, C, D, colls, taken, steps, H, T, fr, g, f, k, n, fb, R, rfl, hz, ht, hx, hF, hO, hM, hfr, hf, hc, hd⟩ := h
  refine c_write (s := cSo z err t X len a s S E C D mode colls taken steps H T fr g f c k n fb R) (n := len) hx.1 rfl (fun e => h1 e) (fun k2 e => ?_)
  refine h2 k2 _ e ⟨err, t, wT w 8 len X, a, s, S, E, C, D, colls, taken, steps, H, T, fr, g, f, k, n, fb, R, rfl, hz, ht, txW_ok hx e, hF, hO, hM, hfr, hf, hc, hd⟩
theorem C_position (h : CI z len tx mode c tl W) (hQ : ∀ x, Q (.inl (some (.int x)), (W, b0, b1, op))) : mj_Mt gT (law_cst xs) gnw (m + 1) y_P_position [.ref 0] (W, b0, b1, op) Q := by
  obtain ⟨err, t, X, a, s, S, E, C, D, colls, taken, steps, H, T, fr, g, f, k, n, fb, R, rfl, -⟩ := h
  intro J hJ
  refine hJ _ _ _ _ ?_
  exact hQ err
theorem M_mode {err : Int32} {t : tS} {X : Nat → Int32} {a : Nat} {s : cD_} {S E C D : Vl} {colls taken steps : Int32} {H T : Nat → Vl} {fr : Nat → Nat} {g : gS} {f : Nat} {k : Int32} {n : Nat} {fb : Nat → Nat} {R : Nat → Vl} (hQ : Q (.inl (some (.int mode)), (WC z err t X len a s S E C D mode colls taken steps H T fr g f c k n fb R tl, b0, b1, op))) : mj_Mt gT (law_cst xs) gnw (m + 1) y_Machine_mode [.ref 16] (WC z err t X len a s S E C D mode colls taken steps H T fr g f c k n fb R tl, b0, b1, op) Q := by
  intro J hJ
  refine hJ _ _ _ _ ?_
  exact hQ
theorem C_state (h : CI z len tx mode c tl W) (hQ : Q (.inl (some (.int mode)), (W, b0, b1, op))) : mj_Mt gT (law_cst xs) gnw (m + 2) y_P_state [.ref 0] (W, b0, b1, op) Q := by
  obtain ⟨err, t, X, a, s, S, E, C, D, colls, taken, steps, H, T, fr, g, f, k, n, fb, R, rfl, -⟩ := h
  intro J hJ
  refine hJ _ _ _ _ ?_
  refine M_mode ?_
  exact hQ
theorem faN_fr {z : Nat} : ∀ (j c : Nat) (p : (Nat → Nat) × Nat), c + j ≤ z → (∀ i, i < z → p.1 i < z) → (∀ i, i < z → (faN j c p).1 i < z) ∧ (faN j c p).2 = p.2 + j
  | 0, c, p, _, h => ⟨h, rfl⟩
  | j + 1, c, p, hc, h => by
    have := faN_fr (z := z) j (c + 1) (upW p.1 p.2 c, p.2 + 1) (by omega) (fun i hi => by
      show upW p.1 p.2 c i < z
      unfold upW
      split
      · omega
      · exact h i hi)
    refine ⟨this.1, ?_⟩
    have e : (faN j (c + 1) (upW p.1 p.2 c, p.2 + 1)).2 = p.2 + 1 + j := this.2
    show (faN j (c + 1) (upW p.1 p.2 c, p.2 + 1)).2 = p.2 + (j + 1)
    omega
theorem C_start (h : CI z len tx mode c tl W) (h0 : c = 0 → Q (.inl (some (.int 0)), (W, b0, b1, op))) (h1 : ∀ W', 0 < c → CI z len tx 1 c tl W' → Q (.inl (some (.int 1)), (W', b0, b1, op))) : mj_Mt gT (law_cst xs) gnw (m + 4) y_P_start [.ref 0] (W, b0, b1, op) Q := by
  obtain ⟨err, t, X, a, s, S, E, C, D, colls, taken, steps, H, T, fr, g, f, k, n, fb, R, rfl, hz, ht, hx, hF, hO, hM, hfr, hf, hc, hd⟩ := h
  have hfa := faN_fr (z := z) (z - c) c (fr, 0) (by omega) hfr
  have hf2 : (faN (z - c) c (fr, 0)).2 = 0 + (z - c) := hfa.2
  intro J hJ
  refine hJ _ _ _ _ ?_
  refine k_beginW hz hc hfr (fun e => ?_) (fun e => ?_)
  · exact And.intro (Or.inl rfl) (h0 e)
  · refine And.intro (Or.inr rfl) (h1 _ e ⟨err, t, X, a, s, vNil, vNil, vPr 0, vNil, 0, 0, 0, H, T, (faN (z - c) c (fr, 0)).1, g, (faN (z - c) c (fr, 0)).2, k, n, fb, R, rfl, hz, ht, hx, hF, hO, ⟨hM.1, hM.2.1, trivial, trivial, ?_, trivial⟩, hfa.1, by omega, hc, hd⟩)
    show 0 < z
    omega
theorem C_next (h : CI z len tx mode c tl W) (hQ : ∀ x, Q (.inl (some (.int x)), (W, b0, b1, op))) : mj_Mt gT (law_cst xs) gnw (m + 4) y_P_next [.ref 0] (W, b0, b1, op) Q := by
  obtain ⟨err, t, X, a, s, S, E, C, D, colls, taken, steps, H, T, fr, g, f, k, n, fb, R, rfl, hz, ht, hx, hF, hO, ⟨hA, hB, hS, hE, hC, hD⟩, hfr, hf, hc, hd⟩ := h
  intro J hJ
  refine hJ _ _ _ _ ?_
  refine M_mode ?_
  refine And.intro (fun _ => ?_) (fun _ => ?_)
  · exact hQ _
  · refine k_instruction hz hA hB hfr hS hE hC hD ?_
    exact hQ _
theorem M_shown {err : Int32} {t : tS} {X : Nat → Int32} {a : Nat} {s : cD_} {S E C D : Vl} {colls taken steps : Int32} {H T : Nat → Vl} {fr : Nat → Nat} {g : gS} {f : Nat} {k : Int32} {n : Nat} {fb : Nat → Nat} {R : Nat → Vl} {x : Int32} (hd : dOK z n fb R) (hQ : ∀ y op', Q (.inl (some (.int y)), (WC z err t X len a s S E C D mode colls taken steps H T fr g f c k n fb R tl, b0 + 1, b1, op'))) : mj_Mt gT (law_cst xs) gnw (m + 6) y_Machine_shownCode [.ref 16, .int x] (WC z err t X len a s S E C D mode colls taken steps H T fr g f c k n fb R tl, b0 + 1, b1, op) Q := by
  obtain ⟨⟨l, rfl, hl, hag⟩, -⟩ := hd
  intro J hJ
  refine hJ _ _ _ _ ?_
  refine d_codeAt (by omega) hag (fun op' => ?_)
  exact hQ _ op'
theorem C_shown {x : Int32} (h : CI z len tx mode c tl W) (hQ : ∀ y op', Q (.inl (some (.int y)), (W, b0 + 1, b1, op'))) : mj_Mt gT (law_cst xs) gnw (m + 7) y_P_shown [.ref 0, .int x] (W, b0 + 1, b1, op) Q := by
  obtain ⟨err, t, X, a, s, S, E, C, D, colls, taken, steps, H, T, fr, g, f, k, n, fb, R, rfl, hz, ht, hx, hF, hO, hM, hfr, hf, hc, hd⟩ := h
  intro J hJ
  refine hJ _ _ _ _ ?_
  refine M_mode ?_
  refine And.intro (fun _ => ?_) (fun _ => ?_)
  · exact hQ _ op
  · refine M_shown hd (fun y op' => ?_)
    exact hQ y op'
end P2p
end
section
section P2q
variable {m b0 b1 : Nat} {op : Bool} {tl : List mj_O} {Q : mj_R → Prop} {xs : List Int32}
variable {z : Nat} {err : Int32} {t : tS} {X : Nat → Int32} {len a : Nat} {s : cD_} {S E C D : Vl} {mode colls taken steps : Int32} {H T : Nat → Vl} {fr : Nat → Nat} {g : gS} {f c : Nat} {k : Int32} {n : Nat} {fb : Nat → Nat} {R : Nat → Vl} {tx : Nat → Nat}
set_option maxRecDepth 10000
theorem M_load (hz : z ≤ 250) (hc : cn (dC s) ≤ z) (hQ : Q (.inl none, (WC z err t X len a s vNil vNil vNil vNil 0 colls taken steps (cpV (cH_ (dC s)) H (cn (dC s))) (cpV (cT_ (dC s)) T (cn (dC s))) (faN (z - cn (dC s)) (cn (dC s)) (fr, 0)).1 g (faN (z - cn (dC s)) (cn (dC s)) (fr, 0)).2 (cn (dC s)) k n fb R tl, b0, b1, op))) : mj_Mt gT (law_cst xs) gnw (m + 3) y_Machine_load [.ref 16, .ref 11] (WC z err t X len a s S E C D mode colls taken steps H T fr g f c k n fb R tl, b0, b1, op) Q := by
  intro J hJ
  refine hJ _ _ _ _ ?_
  refine s_load hz hc ?_
  refine k_setRegisters (V := vNil) ?_
  exact hQ
theorem x_tclear {o0 : mj_O} (hQ : Q (.inl none, (rdW o0 t X 0 a tl, b0, b1, op))) : mj_Mt gT (law_cst xs) gnw (m + 1) y_Text_clear [.ref 8] (rdW o0 t X len a tl, b0, b1, op) Q := by
  intro J hJ
  refine hJ _ _ _ _ ?_
  exact hQ
theorem P_compile {l : Nat} (hl : 120 ≤ l) (hz : z ≤ 250) (ht : tOK t) (hx : txOK X len tx) (hF : ∀ i j, dF s i = some j → j < 1000) (hb : 12 ≤ b1)
    (h1 : ∀ a' t', pEx tx 10 0 0 (0, t.2) = .inr (a', t') → Q (.inr 0, (WC z (nI a') t' X 0 a' s S E C D mode colls taken steps H T fr g f c k n fb R tl, b0, b1 - 6 - 6, false)))
    (h2 : ∀ nd a' t', pEx tx 10 0 0 (0, t.2) = .inl (nd, a', t') → a' < len → Q (.inr 0, (WC z (nI a') t' X 0 a' s S E C D mode colls taken steps H T fr g f c k n fb R tl, b0 + 1, b1 - 6, false)))
    (h3 : ∀ nd a' t', pEx tx 10 0 0 (0, t.2) = .inl (nd, a', t') → ¬ a' < len → ¬ dU (dEx z t' 11 0 (some 0) (dZ s)) = -1 → Q (.inr 0, (WC z (dU (dEx z t' 11 0 (some 0) (dZ s))) t' X 0 a' (dI z (dEx z t' 11 0 (some 0) (dZ s)) 19) S E C D mode colls taken steps H T fr g f c k n fb R tl, b0 + 1, b1 - 6, false)))
    (h4 : ∀ nd a' t' s', pEx tx 10 0 0 (0, t.2) = .inl (nd, a', t') → ¬ a' < len → dU (dEx z t' 11 0 (some 0) (dZ s)) = -1 → s' = dI z (dEx z t' 11 0 (some 0) (dZ s)) 19 → z < cn (dC s') → Q (.inr 1, (WC z (-1) t' X 0 a' s' S E C D mode colls taken steps H T fr g f c k n fb R tl, b0 + 1, b1 - 6, false)))
    (h5 : ∀ nd a' t' s', pEx tx 10 0 0 (0, t.2) = .inl (nd, a', t') → ¬ a' < len → dU (dEx z t' 11 0 (some 0) (dZ s)) = -1 → s' = dI z (dEx z t' 11 0 (some 0) (dZ s)) 19 → cn (dC s') ≤ z → Q (.inl (some (.int (nI (cn (dC s'))))), (WC z (-1) t' X 0 a' s' vNil vNil vNil vNil 0 colls taken steps (cpV (cH_ (dC s')) H (cn (dC s'))) (cpV (cT_ (dC s')) T (cn (dC s'))) (faN (z - cn (dC s')) (cn (dC s')) (fr, 0)).1 g (faN (z - cn (dC s')) (cn (dC s')) (fr, 0)).2 (cn (dC s')) k n fb R tl, b0 + 2, b1, op))) :
    mj_Mt gT (law_cst xs) gnw (l + 1) y_P_compile [.ref 0] (WC z err t X len a s S E C D mode colls taken steps H T fr g f c k n fb R tl, b0 + 2, b1, op) Q := by
  obtain ⟨l, rfl⟩ : ∃ l', l = l' + 120 := ⟨l - 120, by omega⟩
  have h96 := hx.1
  have ht0 : tOK (0, t.2) := ⟨Nat.zero_le _, ht.2.1, ⟨ht.2.2.1.1, fun i hi => absurd hi (Nat.not_lt_zero i)⟩, ht.2.2.2⟩
  have hg := g_ex hx 10 0 0 (0, t.2) ht0 (Nat.le_refl _) (Nat.zero_le _)
  intro J hJ
  refine hJ _ _ _ _ ?_
  refine q_read (l := l + 119) (tx := tx) (b0 := b0 + 1) (by omega) hx ht (by omega) (fun a2 t2 e => ?_) (fun nd a2 t2 e => ?_)
  · rw [e] at hg
    refine x_tclear ?_
    have ha : ¬ nI a2 = -1 := fun q => nI_pos (n := a2) (by have := hg.2.2; omega) (by rw [q]; decide)
    refine And.intro (fun _ => ?_) (fun (q : nI a2 = -1) => absurd q ha)
    refine And.intro (fun (q : nI a2 = -1) => absurd q ha) (fun _ => ?_)
    exact And.intro (by omega) (h1 a2 t2 e)
  · have hg0 := hg
    rw [e] at hg0
    obtain ⟨g1, g2, g3, g5, g4⟩ := hg0
    by_cases h : a2 < len
    · rw [if_pos h]
      refine x_tclear ?_
      have ha : ¬ nI a2 = -1 := fun q => nI_pos (n := a2) (by omega) (by rw [q]; decide)
      refine And.intro (fun _ => ?_) (fun (q : nI a2 = -1) => absurd q ha)
      refine And.intro (fun (q : nI a2 = -1) => absurd q ha) (fun _ => ?_)
      exact And.intro (by omega) (h2 nd a2 t2 e h)
    · rw [if_neg h]
      refine x_tclear ?_
      refine And.intro (fun q => absurd rfl q) (fun _ => ?_)
      have hlt := lay_lt (z := z) (s := s) e (by omega)
      have h3' := h3 nd a2 t2 e h
      have h4' := h4 nd a2 t2 (dI z (dEx z t2 11 0 (some 0) (dZ s)) 19) e h
      have h5' := h5 nd a2 t2 (dI z (dEx z t2 11 0 (some 0) (dZ s)) 19) e h
      refine m_lay (l := l + 119) (by omega) hz g2 hF hlt ?_
      generalize dU (dEx z t2 11 0 (some 0) (dZ s)) = u at *
      generalize dI z (dEx z t2 11 0 (some 0) (dZ s)) 19 = s2 at *
      refine And.intro (fun (q : u = -1) => ?_) (fun (q : ¬ u = -1) => ?_)
      · subst q
        refine e_cells ?_
        refine And.intro (fun (q : nI (cn (dC s2)) ≤ nI z) => ?_) (fun (q : ¬ nI (cn (dC s2)) ≤ nI z) => ?_)
        · have q2 := (nI_leI (by omega) (by omega)).mp q
          refine M_load hz q2 ?_
          refine e_cells ?_
          exact h5' rfl rfl q2
        · have q2 : z < cn (dC s2) := Nat.lt_of_not_le (fun w => q (nI_le w (by omega)))
          exact And.intro (by omega) (h4' rfl rfl q2)
      · exact And.intro (by omega) (h3' q)
theorem okA_cp {z k : Nat} {A B : Nat → Vl} (hA : okA z A) (hB : okA z B) : okA z (cpV A B k) := fun i hi => by
  unfold cpV
  split
  · exact hA i hi
  · exact hB i hi
theorem txOK_0 {X : Nat → Int32} : txOK X 0 (fun _ => 0) := ⟨by decide, fun i hi => absurd hi (Nat.not_lt_zero i), fun _ _ => rfl⟩
theorem lay_F {z : Nat} {t : tS} {s : cD_} (ht : tOK t) (hF : ∀ i j, dF s i = some j → j < 1000) (hO : OC z s) : (∀ i j, dF (dI z (dEx z t 11 0 (some 0) (dZ s)) 19) i = some j → j < 1000) ∧ OC z (dI z (dEx z t 11 0 (some 0) (dZ s)) 19) := by
  have h0 : sOK (dZ s) := ⟨Nat.zero_le _, fun k e => (by cases e), hF⟩
  have h1 := s_Ex (z := z) ht 11 0 (some 0) (dZ s) (fun i e => by cases e; decide) h0
  have h2 := s_I (z := z) (x := 19) h1.1
  exact ⟨h2.1.2.2, oc_I (oc_Ex ht 11 0 (some 0) (dZ s) hO)⟩
theorem C_compile {W : List mj_O} {l : Nat} (hl : 120 ≤ l) (h : CI z len tx mode c tl W) (hb : 12 ≤ b1)
    (h1 : ∀ (i : Nat) W' b0' b1', (i = 0 ∨ i = 1) → CI z 0 (fun _ => 0) mode c tl W' → b0 ≤ b0' → b1 ≤ b1' + 12 → Q (.inr i, (W', b0', b1', false)))
    (h2 : ∀ x c' W', CI z 0 (fun _ => 0) 0 c' tl W' → Q (.inl (some (.int x)), (W', b0 + 2, b1, op))) :
    mj_Mt gT (law_cst xs) gnw (l + 1) y_P_compile [.ref 0] (W, b0 + 2, b1, op) Q := by
  obtain ⟨err, t, X, a, s, S, E, C, D, colls, taken, steps, H, T, fr, g, f, k, n, fb, R, rfl, hz, ht, hx, hF, hO, hM, hfr, hf, hc, hd⟩ := h
  have ht0 : tOK (0, t.2) := ⟨Nat.zero_le _, ht.2.1, ⟨ht.2.2.1.1, fun i hi => absurd hi (Nat.not_lt_zero i)⟩, ht.2.2.2⟩
  have hg := g_ex hx 10 0 0 (0, t.2) ht0 (Nat.le_refl _) (Nat.zero_le _)
  refine P_compile hl hz ht hx hF hb (fun a' t' e => ?_) (fun nd a' t' e q => ?_) (fun nd a' t' e q u => ?_) (fun nd a' t' s' e q u es v => ?_) (fun nd a' t' s' e q u es v => ?_)
  · rw [e] at hg
    refine h1 0 _ _ _ (Or.inl rfl) ⟨nI a', t', X, a', s, S, E, C, D, colls, taken, steps, H, T, fr, g, f, k, n, fb, R, rfl, hz, hg.1, txOK_0, hF, hO, hM, hfr, hf, hc, hd⟩ (by omega) (by omega)
  · rw [e] at hg
    refine h1 0 _ _ _ (Or.inl rfl) ⟨nI a', t', X, a', s, S, E, C, D, colls, taken, steps, H, T, fr, g, f, k, n, fb, R, rfl, hz, hg.2.1, txOK_0, hF, hO, hM, hfr, hf, hc, hd⟩ (by omega) (by omega)
  · rw [e] at hg
    have hl2 := lay_F (z := z) hg.2.1 hF hO
    refine h1 0 _ _ _ (Or.inl rfl) ⟨_, t', X, a', _, S, E, C, D, colls, taken, steps, H, T, fr, g, f, k, n, fb, R, rfl, hz, hg.2.1, txOK_0, hl2.1, hl2.2, hM, hfr, hf, hc, hd⟩ (by omega) (by omega)
  · rw [e] at hg
    have hl2 := lay_F (z := z) hg.2.1 hF hO
    rw [← es] at hl2
    refine h1 1 _ _ _ (Or.inr rfl) ⟨_, t', X, a', _, S, E, C, D, colls, taken, steps, H, T, fr, g, f, k, n, fb, R, rfl, hz, hg.2.1, txOK_0, hl2.1, hl2.2, hM, hfr, hf, hc, hd⟩ (by omega) (by omega)
  · rw [e] at hg
    have hl2 := lay_F (z := z) hg.2.1 hF hO
    rw [← es] at hl2
    have hfa := faN_fr (z := z) (z - cn (dC s')) (cn (dC s')) (fr, 0) (by omega) hfr
    have hf2 : (faN (z - cn (dC s')) (cn (dC s')) (fr, 0)).2 = 0 + (z - cn (dC s')) := hfa.2
    refine h2 _ (cn (dC s')) _ ⟨_, t', X, a', s', vNil, vNil, vNil, vNil, colls, taken, steps, _, _, _, g, _, k, n, fb, R, rfl, hz, hg.2.1, txOK_0, hl2.1, hl2.2, ⟨okA_cp hl2.2.1 hM.1, okA_cp hl2.2.2 hM.2.1, trivial, trivial, trivial, trivial⟩, hfa.1, by omega, v, hd⟩
theorem C_run {W : List mj_O} {x : Int32} (h : CI z len tx mode c tl W) (hb0 : 1 ≤ b0) (hb1 : 6 ≤ b1) (hb2 : mode = 1 → 200 ≤ b0 ∧ 20000 ≤ b1)
    (h1 : ∀ b0' b1', b0 ≤ b0' + 1 → b1 ≤ b1' + 6 → Q (.inr 0, (W, b0', b1', false)))
    (h2 : ∀ y mode' W' b0' b1' op', CI z len tx mode' c tl W' → (b0' = b0 ∧ b1' = b1 ∧ (mode = 1 ∨ mode' = mode)) ∨ (¬ mode' = 1 ∧ mode = 1 ∧ b0 ≤ b0' + 140 ∧ b1 ≤ b1' + 19740) → Q (.inl (some (.int y)), (W', b0', b1', op'))) :
    mj_Mt gT (law_cst xs) gnw (m + 13) y_P_run [.ref 0, .int x] (W, b0, b1, op) Q := by
  obtain ⟨b0, rfl⟩ : ∃ b, b0 = b + 1 := ⟨b0 - 1, by omega⟩
  intro J hJ
  refine hJ _ _ _ _ ?_
  refine And.intro (fun (q : x < 0) => ?_) (fun (q : ¬ x < 0) => ?_)
  · exact And.intro hb1 (h1 b0 (b1 - 6) (by omega) (by omega))
  · refine And.intro (fun (q2 : x ≤ 200) => ?_) (fun (q2 : ¬ x ≤ 200) => ?_)
    · have loop : ∀ (j : Nat) (i : Int32) (mode' : Int32) (W' : List mj_O) (b0' b1' : Nat) (op' : Bool), CI z len tx mode' c tl W' → (i.toInt + j = 201 ∧ 0 ≤ i.toInt) → ((b0' = b0 + 1 ∧ b1' = b1 ∧ (mode = 1 ∨ mode' = mode)) ∨ (¬ mode' = 1 ∧ mode = 1 ∧ b0 + 1 ≤ b0' + 140 ∧ b1 ≤ b1' + 19740)) → J 8 [some (.ref 0), some (.int x), some (.int i)] [] (W', b0', b1', op') := by
        intro j
        induction j with
        | zero =>
          intro i mode' W' b0' b1' op' hI hi hm
          refine hJ _ _ _ _ ?_
          refine And.intro (fun _ => ?_) (fun (w : ¬ x ≤ i) => absurd (show x ≤ i from Int32.le_iff_toInt_le.mpr (by have := Int32.le_iff_toInt_le.mp q2; have e : (200 : Int32).toInt = 200 := by decide
                                                                                                                     omega)) w)
          exact h2 _ mode' W' b0' b1' op' hI hm
        | succ j ih =>
          intro i mode' W' b0' b1' op' hI hi hm
          refine hJ _ _ _ _ ?_
          refine And.intro (fun _ => ?_) (fun (w : ¬ x ≤ i) => ?_)
          · exact h2 _ mode' W' b0' b1' op' hI hm
          · have hI0 := hI
            obtain ⟨err, t, X, a, s, S, E, C, D, colls, taken, steps, H, T, fr, g, f, k, n, fb, R, rfl, hz, ht, hx, hF, hO, hM, hfr, hf, hc, hd⟩ := hI
            refine M_mode ?_
            refine And.intro (fun (w2 : ¬ mode' = 1) => ?_) (fun (w2 : mode' = 1) => ?_)
            · exact h2 _ mode' _ b0' b1' op' hI0 hm
            · subst w2
              obtain ⟨e1, e2, e3⟩ : b0' = b0 + 1 ∧ b1' = b1 ∧ mode = 1 := by
                rcases hm with ⟨p1, p2, p3⟩ | ⟨p1, -⟩
                · exact ⟨p1, p2, p3.elim id Eq.symm⟩
                · exact absurd rfl p1
              subst e1 e2 e3
              obtain ⟨r1, r2⟩ := hb2 rfl
              refine k_stepW hz hM hfr hf hd r1 r2 hc (fun S' E' C' D' mode' colls' taken' H' T' fr' g' f' k' n' fb' R' b0' b1' op' v1 v2 v3 v4 v5 => ?_)
              have hi1 : (i + 1).toInt = i.toInt + 1 := by
                rw [Int32.toInt_add]
                have e : (1 : Int32).toInt = 1 := by decide
                rw [e]
                exact Int.bmod_eq_of_le (by omega) (by omega)
              refine ih (i + 1) mode' _ b0' b1' op' ⟨err, t, X, a, s, S', E', C', D', colls', taken', steps + 1, H', T', fr', g', f', k', n', fb', R', rfl, hz, ht, hx, hF, hO, v1, v2, v3, hc, v4⟩ ⟨by omega, by omega⟩ ?_
              rcases v5 with ⟨w1, w2, w3⟩ | ⟨w1, w2, w3⟩ | ⟨w1, w2, w3⟩
              · exact Or.inl ⟨w1, w2, Or.inl rfl⟩
              · subst w1
                exact Or.inr ⟨by decide, rfl, w2, w3⟩
              · subst w1
                exact Or.inr ⟨by decide, rfl, w2, w3⟩
      refine loop 201 0 mode W (b0 + 1) b1 op h ⟨by decide, by decide⟩ (Or.inl ⟨rfl, rfl, Or.inr rfl⟩)
    · exact And.intro hb1 (h1 b0 (b1 - 6) (by omega) (by omega))
theorem C_count {W : List mj_O} {x : Int32} (h : CI z len tx mode c tl W) (hQ : ∀ y W', CI z len tx mode c tl W' → Q (.inl (some (.int y)), (W', b0, b1, op))) : mj_Mt gT (law_cst xs) gnw (m + 6) y_P_count [.ref 0, .int x] (W, b0, b1, op) Q := by
  have hI0 := h
  obtain ⟨err, t, X, a, s, S, E, C, D, colls, taken, steps, H, T, fr, g, f, k, n, fb, R, rfl, hz, ht, hx, hF, hO, hM, hfr, hf, hc, hd⟩ := h
  have key : ∀ y, Q (.inl (some (.int y)), (WC z err t X len a s S E C D mode colls taken steps H T fr g f c k n fb R tl, b0, b1, op)) := fun y => hQ y _ hI0
  obtain ⟨hA, hB, hS, hE, hC, hD⟩ := hM
  intro J hJ
  refine hJ _ _ _ _ ?_
  refine And.intro (fun w => ?_) (fun g0 => And.intro (fun w => ?_) (fun g1 => And.intro (fun w => ?_) (fun g2 => And.intro (fun w => ?_) (fun g3 => And.intro (fun w => ?_) (fun g4 => And.intro (fun w => ?_) (fun g5 => And.intro (fun w => ?_) (fun g6 => ?_)))))))
  · intro J1 hJ1
    refine hJ1 _ _ _ _ ?_
    intro J2 hJ2
    refine hJ2 _ _ _ _ ?_
    exact key _
  · intro J1 hJ1
    refine hJ1 _ _ _ _ ?_
    refine s_mark hz hc hA hB hS hE hC hD ?_
    exact hQ _ _ ⟨err, t, X, a, s, S, E, C, D, colls, taken, steps, H, T, fr, mrk z H T S E C D (if c = 0 then vNil else vPr 0) g, f, k, n, fb, R, rfl, hz, ht, hx, hF, hO, ⟨hA, hB, hS, hE, hC, hD⟩, hfr, hf, hc, hd⟩
  · intro J1 hJ1
    refine hJ1 _ _ _ _ ?_
    exact key _
  · intro J1 hJ1
    refine hJ1 _ _ _ _ ?_
    exact key _
  · intro J1 hJ1
    refine hJ1 _ _ _ _ ?_
    exact key _
  · intro J1 hJ1
    refine hJ1 _ _ _ _ ?_
    refine s_length hz hB hS ?_
    exact key _
  · intro J1 hJ1
    refine hJ1 _ _ _ _ ?_
    refine s_length hz hB hD ?_
    exact key _
  · exact key _
theorem fillU_at (z : Nat) : ∀ (j k : Nat) (f : Nat → Int32), (∀ i, i < k → f i = nI i) → (∀ i, k ≤ i → f i = 0) → ∀ i, fillU f k j i = nI (if i < k + j then i else 0)
  | 0, k, f, h1, h2, i => by
    show f i = _
    by_cases h : i < k + 0
    · rw [if_pos h, h1 i h]
    · rw [if_neg h, h2 i (by omega)]
      rfl
  | j + 1, k, f, h1, h2, i => by
    have := fillU_at z j (k + 1) (upd f k (nI k)) (fun i hi => by
      unfold upd
      split
      · next e => rw [e]
      · exact h1 i (by omega)) (fun i hi => by
      unfold upd
      rw [if_neg (by omega)]
      exact h2 i (by omega)) i
    rw [show k + 1 + j = k + (j + 1) by omega] at this
    exact this
theorem CI_new {z : Nat} (hz : z ≤ 250) (tl : List mj_O) : CI z 0 (fun _ => 0) 0 0 tl (cW (c0 z) tl) := by
  have ef : fillF z0 0 z = eN (fun i => if i < z then i else 0) := by
    funext i
    show fillU z0 0 (z - 0) i = _
    rw [fillU_at z (z - 0) 0 z0 (fun i hi => absurd hi (Nat.not_lt_zero i)) (fun _ _ => rfl) i, show 0 + (z - 0) = z by omega]
  refine ⟨-1, (0, (fun _ => 0), (fun _ => 0), (fun _ => 0), (fun _ => some 0), (fun _ => some 0), (fun _ => some 0)), (fun _ => 0), 0, (((fun _ => vNil), (fun _ => vNil), 0, some 0, false), (fun _ => some 0), 0, 0), vNil, vNil, vNil, vNil, 0, 0, 0, (fun _ => vNil), (fun _ => vNil), (fun i => if i < z then i else 0), ((fun _ => false), (fun _ => 0), 0), z, 0, 0, (fun _ => 0), (fun _ => vNil), ?_, hz, ?_, txOK_0, ?_, ⟨fun _ _ => trivial, fun _ _ => trivial⟩, ⟨fun _ _ => trivial, fun _ _ => trivial, trivial, trivial, trivial, trivial⟩, ?_, Nat.le_refl _, Nat.zero_le _, ⟨⟨[], rfl, by decide, fun i hi => absurd hi (Nat.not_lt_zero i)⟩, fun _ _ => trivial⟩⟩
  · unfold c0
    rw [ef]
    rfl
  · refine ⟨by decide, fun i j e => ?_, ⟨fun i j e => ?_, fun i hi => absurd hi (Nat.not_lt_zero i)⟩, fun i j e => ?_⟩ <;> (cases e; decide)
  · intro i j e
    cases e
    decide
  · intro j hj
    show (if j < z then j else 0) < z
    split <;> omega
end P2q
end
section
abbrev Sk : Type := List Bool
abbrev En : Type := Unit ⊕ Unit ⊕ (Sk × Nat)
abbrev eStop : En := .inl ()
abbrev eRet : En := .inr (.inl ())
abbrev eJoin (k : Sk) (n : Nat) : En := .inr (.inr (k, n))
def lsN (T : Nat → Vl) : Nat → Vl → Prop
  | 0, v => v = vNil
  | m + 1, v => ∃ a, v = vPr a ∧ lsN T m (T a)
def lst (T : Nat → Vl) (v : Vl) : Prop := ∃ m, lsN T m v
def wt (H T : Nat → Vl) (ro : Nat → Bool) : Nat → Vl → Sk → Nat → Bool → En → Prop
  | 0, _, _, _, _, _ => False
  | f + 1, v, k, n, b, e => ∃ c i, v = vPr c ∧ ro c = false ∧ H c = vInt i ∧ (
      (i = 1 ∧ ∃ d t, T c = vPr d ∧ ro d = false ∧ (t = true → H d = vNil) ∧ wt H T ro f (T d) (t :: k) n false e)
    ∨ (i = 2 ∧ ∃ d x, T c = vPr d ∧ ro d = false ∧ (x < 10000 ∧ H d = vInt (nI x)) ∧ wt H T ro f (T d) (false :: k) n false e)
    ∨ (i = 3 ∧ ∃ d, T c = vPr d ∧ ro d = false ∧ wt H T ro f (H d) [] 1 false eRet ∧ wt H T ro f (T d) (false :: k) n (decide (0 < n)) e)
    ∨ (i = 4 ∧ ∃ x k', k = x :: true :: k' ∧ wt H T ro f (T c) (false :: k') n false e)
    ∨ (i = 5 ∧ ∃ x k', k = x :: k' ∧ e = eRet)
    ∨ (i = 6 ∧ wt H T ro f (T c) k (n + 1) false e)
    ∨ (i = 7 ∧ ∃ x k', k = x :: true :: k' ∧ 1 ≤ n ∧ b = true ∧ wt H T ro f (T c) (false :: k') (n - 1) false e)
    ∨ (i = 8 ∧ ∃ x k' d q, k = x :: k' ∧ T c = vPr d ∧ ro d = false ∧ T d = vPr q ∧ ro q = false ∧ wt H T ro f (H d) k' n false (eJoin (false :: k') n) ∧ wt H T ro f (H q) k' n false (eJoin (false :: k') n) ∧ wt H T ro f (T q) (false :: k') n false e)
    ∨ (i = 9 ∧ e = eJoin k n)
    ∨ ((i = 10 ∨ i = 11 ∨ i = 12) ∧ ∃ x k', k = x :: k' ∧ wt H T ro f (T c) (false :: k') n false e)
    ∨ ((i = 13 ∨ i = 14 ∨ i = 15 ∨ i = 16 ∨ i = 17 ∨ i = 18) ∧ ∃ x y t k', k = x :: y :: k' ∧ (t = true → i = 13 ∧ y = true) ∧ wt H T ro f (T c) (t :: k') n false e)
    ∨ (i = 19 ∧ ∃ x k', k = x :: k' ∧ e = eStop))
def inU (U : Nat → Prop) (v : Vl) : Prop := ∀ a, ceV v = some a → U a
def isE (ro : Nat → Bool) (v : Vl) : Prop := v = vNil ∨ ∃ b, v = vPr b ∧ ro b = true
def stk (H T : Nat → Vl) (ro : Nat → Bool) : Sk → Vl → Prop
  | [], v => v = vNil
  | x :: k, v => ∃ a, v = vPr a ∧ ro a = false ∧ (x = true → lst T (H a)) ∧ stk H T ro k (T a)
def env (T : Nat → Vl) (ro : Nat → Bool) : Nat → Vl → Prop
  | 0, v => isE ro v
  | n + 1, v => ∃ a, v = vPr a ∧ ro a = true ∧ env T ro n (T a)
def wtx (H T : Nat → Vl) (ro : Nat → Bool) (v : Vl) (k : Sk) (n : Nat) (b : Bool) (e : En) : Prop := ∃ f, wt H T ro f v k n b e
def dmp (H T : Nat → Vl) (ro : Nat → Bool) : Nat → Vl → En → Prop
  | 0, v, e => e = eStop ∧ v = vNil
  | f + 1, v, e =>
      (e = eRet ∧ ∃ a b c k n e', v = vPr a ∧ ro a = false ∧ stk H T ro k (H a) ∧ T a = vPr b ∧ ro b = false ∧ env T ro n (H b) ∧ T b = vPr c ∧ ro c = false ∧ wtx H T ro (H c) (false :: k) n false e' ∧ dmp H T ro f (T c) e')
    ∨ (∃ k n a e', e = eJoin k n ∧ v = vPr a ∧ ro a = false ∧ wtx H T ro (H a) k n false e' ∧ dmp H T ro f (T a) e')
def gF (H T : Nat → Vl) (ro : Nat → Bool) (v : Vl) : Prop := ∀ f, v = vFn f → ro f = false ∧ wtx H T ro (H f) [] 1 false eRet ∧ isE ro (T f)
def SI (H T : Nat → Vl) (ro : Nat → Bool) (U : Nat → Prop) : Prop := ∀ a, U a → (inU U (H a) ∧ inU U (T a)) ∧ (gF H T ro (H a) ∧ gF H T ro (T a)) ∧ (ro a = true → isE ro (T a) ∧ lst T (H a))
def Ext (U : Nat → Prop) (H T : Nat → Vl) (ro : Nat → Bool) (H' T' : Nat → Vl) (ro' : Nat → Bool) : Prop := ∀ a, U a → T' a = T a ∧ ro' a = ro a ∧ (ro a = false → H' a = H a)
section TY
variable {H T H' T' : Nat → Vl} {ro ro' : Nat → Bool} {U U' : Nat → Prop}
theorem inU_pr {a : Nat} (h : inU U (vPr a)) : U a := h a rfl
theorem inU_fn {a : Nat} (h : inU U (vFn a)) : U a := h a rfl
theorem pr_inU {a : Nat} (h : U a) : inU U (vPr a) := fun b e => by cases e; exact h
theorem fn_inU {a : Nat} (h : U a) : inU U (vFn a) := fun b e => by cases e; exact h
theorem nil_inU : inU U vNil := fun b e => by cases e
theorem int_inU {x : Int32} : inU U (vInt x) := fun b e => by cases e
theorem SI_h (h : SI H T ro U) {a : Nat} (ha : U a) : inU U (H a) := (h a ha).1.1
theorem SI_t (h : SI H T ro U) {a : Nat} (ha : U a) : inU U (T a) := (h a ha).1.2
theorem SI_tp (h : SI H T ro U) {a b : Nat} (ha : U a) (e : T a = vPr b) : U b := by
  have := SI_t h ha
  rw [e] at this
  exact inU_pr this
theorem wt_mono : ∀ (f : Nat) (v : Vl) (k : Sk) (n : Nat) (b : Bool) (e : En), wt H T ro f v k n b e → wt H T ro (f + 1) v k n b e
  | 0, v, k, n, b, e, h => absurd h id
  | f + 1, v, k, n, b, e, h => by
    obtain ⟨c, i, h1, h2, h3, h⟩ := h
    refine ⟨c, i, h1, h2, h3, ?_⟩
    rcases h with ⟨e1, d, t, a1, a2, a0, a3⟩ | ⟨e1, d, x, a1, a2, a3, a4⟩ | ⟨e1, d, a1, a2, a3, a4⟩ | ⟨e1, x, k', a1, a2⟩ | ⟨e1, a1⟩ | ⟨e1, a1⟩ | ⟨e1, x, k', a1, a2, a3, a4⟩ | ⟨e1, x, k', d, q, a1, a2, a3, a4, a5, a6, a7, a8⟩ | ⟨e1, a1⟩ | ⟨e1, x, k', a1, a2⟩ | ⟨e1, x, y, t, k', a1, a0, a2⟩ | ⟨e1, a1⟩
    · exact Or.inl ⟨e1, d, t, a1, a2, a0, wt_mono f _ _ _ _ _ a3⟩
    · exact Or.inr (Or.inl ⟨e1, d, x, a1, a2, a3, wt_mono f _ _ _ _ _ a4⟩)
    · exact Or.inr (Or.inr (Or.inl ⟨e1, d, a1, a2, wt_mono f _ _ _ _ _ a3, wt_mono f _ _ _ _ _ a4⟩))
    · exact Or.inr (Or.inr (Or.inr (Or.inl ⟨e1, x, k', a1, wt_mono f _ _ _ _ _ a2⟩)))
    · exact Or.inr (Or.inr (Or.inr (Or.inr (Or.inl ⟨e1, a1⟩))))
    · exact Or.inr (Or.inr (Or.inr (Or.inr (Or.inr (Or.inl ⟨e1, wt_mono f _ _ _ _ _ a1⟩)))))
    · exact Or.inr (Or.inr (Or.inr (Or.inr (Or.inr (Or.inr (Or.inl ⟨e1, x, k', a1, a2, a3, wt_mono f _ _ _ _ _ a4⟩))))))
    · exact Or.inr (Or.inr (Or.inr (Or.inr (Or.inr (Or.inr (Or.inr (Or.inl ⟨e1, x, k', d, q, a1, a2, a3, a4, a5, wt_mono f _ _ _ _ _ a6, wt_mono f _ _ _ _ _ a7, wt_mono f _ _ _ _ _ a8⟩)))))))
    · exact Or.inr (Or.inr (Or.inr (Or.inr (Or.inr (Or.inr (Or.inr (Or.inr (Or.inl ⟨e1, a1⟩))))))))
    · exact Or.inr (Or.inr (Or.inr (Or.inr (Or.inr (Or.inr (Or.inr (Or.inr (Or.inr (Or.inl ⟨e1, x, k', a1, wt_mono f _ _ _ _ _ a2⟩)))))))))
    · exact Or.inr (Or.inr (Or.inr (Or.inr (Or.inr (Or.inr (Or.inr (Or.inr (Or.inr (Or.inr (Or.inl ⟨e1, x, y, t, k', a1, a0, wt_mono f _ _ _ _ _ a2⟩))))))))))
    · exact Or.inr (Or.inr (Or.inr (Or.inr (Or.inr (Or.inr (Or.inr (Or.inr (Or.inr (Or.inr (Or.inr ⟨e1, a1⟩))))))))))
theorem wt_b (f : Nat) (v : Vl) (k : Sk) (n : Nat) (b : Bool) (e : En) (h : wt H T ro f v k n false e) : wt H T ro f v k n b e := by
  cases f with
  | zero => exact absurd h id
  | succ f =>
    obtain ⟨c, i, h1, h2, h3, h⟩ := h
    refine ⟨c, i, h1, h2, h3, ?_⟩
    rcases h with q | q | q | q | q | q | ⟨e1, x, k', a1, a2, a3, a4⟩ | q
    · exact Or.inl q
    · exact Or.inr (Or.inl q)
    · exact Or.inr (Or.inr (Or.inl q))
    · exact Or.inr (Or.inr (Or.inr (Or.inl q)))
    · exact Or.inr (Or.inr (Or.inr (Or.inr (Or.inl q))))
    · exact Or.inr (Or.inr (Or.inr (Or.inr (Or.inr (Or.inl q)))))
    · exact absurd a3 (by decide)
    · exact Or.inr (Or.inr (Or.inr (Or.inr (Or.inr (Or.inr (Or.inr q))))))
theorem wt_ext (hS : SI H T ro U) (hX : Ext U H T ro H' T' ro') : ∀ (f : Nat) (v : Vl) (k : Sk) (n : Nat) (b : Bool) (e : En), inU U v → wt H T ro f v k n b e → wt H' T' ro' f v k n b e
  | 0, v, k, n, b, e, _, h => absurd h id
  | f + 1, v, k, n, b, e, hv, h => by
    obtain ⟨c, i, h1, h2, h3, h⟩ := h
    subst h1
    have uc := inU_pr hv
    obtain ⟨x1, x2, x3⟩ := hX c uc
    have ut := SI_t hS uc
    have ih := wt_ext hS hX f
    refine ⟨c, i, rfl, x2.trans h2, (x3 h2).trans h3, ?_⟩
    rw [x1]
    rcases h with ⟨e1, d, t, a1, a2, a0, a3⟩ | ⟨e1, d, x, a1, a2, a3, a4⟩ | ⟨e1, d, a1, a2, a3, a4⟩ | ⟨e1, x, k', a1, a2⟩ | ⟨e1, a1⟩ | ⟨e1, a1⟩ | ⟨e1, x, k', a1, a2, a3, a4⟩ | ⟨e1, x, k', d, q, a1, a2, a3, a4, a5, a6, a7, a8⟩ | ⟨e1, a1⟩ | ⟨e1, x, k', a1, a2⟩ | ⟨e1, x, y, t, k', a1, a0, a2⟩ | ⟨e1, a1⟩
    · have ud := SI_tp hS uc a1
      obtain ⟨y1, y2, y3⟩ := hX d ud
      exact Or.inl ⟨e1, d, t, a1, y2.trans a2, fun w => (y3 a2).trans (a0 w), by rw [y1]; exact ih _ _ _ _ _ (SI_t hS ud) a3⟩
    · have ud := SI_tp hS uc a1
      obtain ⟨y1, y2, y3⟩ := hX d ud
      exact Or.inr (Or.inl ⟨e1, d, x, a1, y2.trans a2, ⟨a3.1, (y3 a2).trans a3.2⟩, by rw [y1]; exact ih _ _ _ _ _ (SI_t hS ud) a4⟩)
    · have ud := SI_tp hS uc a1
      obtain ⟨y1, y2, y3⟩ := hX d ud
      exact Or.inr (Or.inr (Or.inl ⟨e1, d, a1, y2.trans a2, by rw [y3 a2]; exact ih _ _ _ _ _ (SI_h hS ud) a3, by rw [y1]; exact ih _ _ _ _ _ (SI_t hS ud) a4⟩))
    · exact Or.inr (Or.inr (Or.inr (Or.inl ⟨e1, x, k', a1, ih _ _ _ _ _ ut a2⟩)))
    · exact Or.inr (Or.inr (Or.inr (Or.inr (Or.inl ⟨e1, a1⟩))))
    · exact Or.inr (Or.inr (Or.inr (Or.inr (Or.inr (Or.inl ⟨e1, ih _ _ _ _ _ ut a1⟩)))))
    · exact Or.inr (Or.inr (Or.inr (Or.inr (Or.inr (Or.inr (Or.inl ⟨e1, x, k', a1, a2, a3, ih _ _ _ _ _ ut a4⟩))))))
    · have ud := SI_tp hS uc a2
      have uq := SI_tp hS ud a4
      obtain ⟨y1, y2, y3⟩ := hX d ud
      obtain ⟨z1, z2, z3⟩ := hX q uq
      exact Or.inr (Or.inr (Or.inr (Or.inr (Or.inr (Or.inr (Or.inr (Or.inl ⟨e1, x, k', d, q, a1, a2, y2.trans a3, y1.trans a4, z2.trans a5, by rw [y3 a3]; exact ih _ _ _ _ _ (SI_h hS ud) a6, by rw [z3 a5]; exact ih _ _ _ _ _ (SI_h hS uq) a7, by rw [z1]; exact ih _ _ _ _ _ (SI_t hS uq) a8⟩)))))))
    · exact Or.inr (Or.inr (Or.inr (Or.inr (Or.inr (Or.inr (Or.inr (Or.inr (Or.inl ⟨e1, a1⟩))))))))
    · exact Or.inr (Or.inr (Or.inr (Or.inr (Or.inr (Or.inr (Or.inr (Or.inr (Or.inr (Or.inl ⟨e1, x, k', a1, ih _ _ _ _ _ ut a2⟩)))))))))
    · exact Or.inr (Or.inr (Or.inr (Or.inr (Or.inr (Or.inr (Or.inr (Or.inr (Or.inr (Or.inr (Or.inl ⟨e1, x, y, t, k', a1, a0, ih _ _ _ _ _ ut a2⟩))))))))))
    · exact Or.inr (Or.inr (Or.inr (Or.inr (Or.inr (Or.inr (Or.inr (Or.inr (Or.inr (Or.inr (Or.inr ⟨e1, a1⟩))))))))))
theorem wtx_ext (hS : SI H T ro U) (hX : Ext U H T ro H' T' ro') {v : Vl} {k : Sk} {n : Nat} {b : Bool} {e : En} (hv : inU U v) (h : wtx H T ro v k n b e) : wtx H' T' ro' v k n b e := by
  obtain ⟨f, h⟩ := h
  exact ⟨f, wt_ext hS hX f _ _ _ _ _ hv h⟩
theorem lsN_ext (hS : SI H T ro U) (hX : Ext U H T ro H' T' ro') : ∀ (k : Nat) (v : Vl), inU U v → lsN T k v → lsN T' k v
  | 0, v, _, h => h
  | k + 1, v, hv, h => by
    obtain ⟨a, rfl, h⟩ := h
    have ua := inU_pr hv
    refine ⟨a, rfl, ?_⟩
    rw [(hX a ua).1]
    exact lsN_ext hS hX k _ (SI_t hS ua) h
theorem lst_ext (hS : SI H T ro U) (hX : Ext U H T ro H' T' ro') {v : Vl} (hv : inU U v) (h : lst T v) : lst T' v := by
  obtain ⟨k, h⟩ := h
  exact ⟨k, lsN_ext hS hX k v hv h⟩
theorem stk_ext (hS : SI H T ro U) (hX : Ext U H T ro H' T' ro') : ∀ (k : Sk) (v : Vl), inU U v → stk H T ro k v → stk H' T' ro' k v
  | [], v, _, h => h
  | x :: k, v, hv, h => by
    obtain ⟨a, rfl, h0, h1, h⟩ := h
    have ua := inU_pr hv
    obtain ⟨x1, x2, x3⟩ := hX a ua
    refine ⟨a, rfl, x2.trans h0, fun q => ?_, ?_⟩
    · rw [x3 h0]
      exact lst_ext hS hX (SI_h hS ua) (h1 q)
    · rw [x1]
      exact stk_ext hS hX k _ (SI_t hS ua) h
theorem isE_ext (hX : Ext U H T ro H' T' ro') {v : Vl} (hv : inU U v) (h : isE ro v) : isE ro' v := by
  rcases h with h | ⟨b, rfl, h⟩
  · exact Or.inl h
  · exact Or.inr ⟨b, rfl, (hX b (inU_pr hv)).2.1.trans h⟩
theorem env_ext (hS : SI H T ro U) (hX : Ext U H T ro H' T' ro') : ∀ (n : Nat) (v : Vl), inU U v → env T ro n v → env T' ro' n v
  | 0, v, hv, h => isE_ext hX hv h
  | n + 1, v, hv, h => by
    obtain ⟨a, rfl, h1, h⟩ := h
    have ua := inU_pr hv
    refine ⟨a, rfl, (hX a ua).2.1.trans h1, ?_⟩
    rw [(hX a ua).1]
    exact env_ext hS hX n _ (SI_t hS ua) h
theorem dmp_ext (hS : SI H T ro U) (hX : Ext U H T ro H' T' ro') : ∀ (f : Nat) (v : Vl) (e : En), inU U v → dmp H T ro f v e → dmp H' T' ro' f v e
  | 0, v, e, _, h => h
  | f + 1, v, e, hv, h => by
    rcases h with ⟨e1, a, b, c, k, n, e', rfl, a1, a2, a3, a4, a5, a6, a7, a8, a9⟩ | ⟨k, n, a, e', e1, rfl, a1, a2, a3⟩
    · have ua := inU_pr hv
      have ub := SI_tp hS ua a3
      have uc := SI_tp hS ub a6
      obtain ⟨x1, x2, x3⟩ := hX a ua
      obtain ⟨y1, y2, y3⟩ := hX b ub
      obtain ⟨z1, z2, z3⟩ := hX c uc
      refine Or.inl ⟨e1, a, b, c, k, n, e', rfl, x2.trans a1, ?_, x1.trans a3, y2.trans a4, ?_, y1.trans a6, z2.trans a7, ?_, ?_⟩
      · rw [x3 a1]
        exact stk_ext hS hX _ _ (SI_h hS ua) a2
      · rw [y3 a4]
        exact env_ext hS hX _ _ (SI_h hS ub) a5
      · rw [z3 a7]
        exact wtx_ext hS hX (SI_h hS uc) a8
      · rw [z1]
        exact dmp_ext hS hX f _ _ (SI_t hS uc) a9
    · have ua := inU_pr hv
      obtain ⟨x1, x2, x3⟩ := hX a ua
      refine Or.inr ⟨k, n, a, e', e1, rfl, x2.trans a1, ?_, ?_⟩
      · rw [x3 a1]
        exact wtx_ext hS hX (SI_h hS ua) a2
      · rw [x1]
        exact dmp_ext hS hX f _ _ (SI_t hS ua) a3
theorem gF_ext (hS : SI H T ro U) (hX : Ext U H T ro H' T' ro') {v : Vl} (hv : inU U v) (h : gF H T ro v) : gF H' T' ro' v := by
  intro f e
  subst e
  obtain ⟨h1, h2, h3⟩ := h f rfl
  have uf := inU_fn hv
  obtain ⟨x1, x2, x3⟩ := hX f uf
  refine ⟨x2.trans h1, ?_, ?_⟩
  · rw [x3 h1]
    exact wtx_ext hS hX (SI_h hS uf) h2
  · rw [x1]
    exact isE_ext hX (SI_t hS uf) h3
theorem inU_mono (h : ∀ a, U a → U' a) {v : Vl} (hv : inU U v) : inU U' v := fun a e => h a (hv a e)
def addU (U : Nat → Prop) (n : Nat) : Nat → Prop := fun a => U a ∨ a = n
theorem Ext_new {n : Nat} {h t : Vl} {b : Bool} (hn : ¬ U n) : Ext U H T ro (upW H n h) (upW T n t) (upW ro n b) := by
  intro a ha
  have hne : ¬ a = n := fun e => hn (e ▸ ha)
  unfold upW
  rw [if_neg hne, if_neg hne, if_neg hne]
  exact ⟨rfl, rfl, fun _ => rfl⟩
theorem SI_new {n : Nat} {h t : Vl} {b : Bool} (hS : SI H T ro U) (hn : ¬ U n) (uh : inU U h) (ut : inU U t) (gh : gF H T ro h) (gt : gF H T ro t) (hb : b = true → isE ro t ∧ lst T h) : SI (upW H n h) (upW T n t) (upW ro n b) (addU U n) := by
  have hX : Ext U H T ro (upW H n h) (upW T n t) (upW ro n b) := Ext_new hn
  have hm : ∀ a, U a → addU U n a := fun a => Or.inl
  intro a ha
  by_cases e : a = n
  · subst e
    have e1 : upW H a h a = h := if_pos rfl
    have e2 : upW T a t a = t := if_pos rfl
    have e3 : upW ro a b a = b := if_pos rfl
    rw [e1, e2, e3]
    exact ⟨⟨inU_mono hm uh, inU_mono hm ut⟩, ⟨gF_ext hS hX uh gh, gF_ext hS hX ut gt⟩, fun q => ⟨isE_ext hX ut (hb q).1, lst_ext hS hX uh (hb q).2⟩⟩
  · have ua : U a := ha.resolve_right e
    have e1 : upW H n h a = H a := if_neg e
    have e2 : upW T n t a = T a := if_neg e
    have e3 : upW ro n b a = ro a := if_neg e
    rw [e1, e2, e3]
    obtain ⟨⟨s1, s2⟩, ⟨s3, s4⟩, s5⟩ := hS a ua
    exact ⟨⟨inU_mono hm s1, inU_mono hm s2⟩, ⟨gF_ext hS hX s1 s3, gF_ext hS hX s2 s4⟩, fun q => ⟨isE_ext hX s2 (s5 q).1, lst_ext hS hX s1 (s5 q).2⟩⟩
theorem Ext_set {n : Nat} {h : Vl} (hr : ro n = true) : Ext U H T ro (upW H n h) T ro := by
  intro a ha
  refine ⟨rfl, rfl, fun q => ?_⟩
  unfold upW
  rw [if_neg]
  rintro rfl
  rw [hr] at q
  cases q
theorem SI_set {n : Nat} {h : Vl} (hS : SI H T ro U) (hr : ro n = true) (uh : inU U h) (gh : gF H T ro h) (lh : lst T h) : SI (upW H n h) T ro U := by
  have hX : Ext U H T ro (upW H n h) T ro := Ext_set hr
  intro a ua
  obtain ⟨⟨s1, s2⟩, ⟨s3, s4⟩, s5⟩ := hS a ua
  refine ⟨⟨?_, s2⟩, ⟨?_, gF_ext hS hX s2 s4⟩, fun q => ⟨(s5 q).1, ?_⟩⟩
  · unfold upW
    split
    · exact uh
    · exact s1
  · by_cases e : a = n
    · have e1 : upW H n h a = h := if_pos e
      rw [e1]
      exact gF_ext hS hX uh gh
    · have e1 : upW H n h a = H a := if_neg e
      rw [e1]
      exact gF_ext hS hX s1 s3
  · unfold upW
    split
    · exact lh
    · exact (s5 q).2
theorem SI_sub (hS : SI H T ro U) (hm : ∀ a, U' a → U a) (hc : ∀ a, U' a → inU U' (H a) ∧ inU U' (T a)) : SI H T ro U' := fun a ha => ⟨hc a ha, (hS a (hm a ha)).2⟩
theorem env_0 : ∀ {n : Nat} {v : Vl}, env T ro n v → isE ro v
  | 0, _, h => h
  | n + 1, _, ⟨a, e, h, _⟩ => Or.inr ⟨a, e, h⟩
theorem env_le : ∀ {n m : Nat} {v : Vl}, SI H T ro U → inU U v → m ≤ n → env T ro n v → env T ro m v
  | n, 0, v, _, _, _, h => env_0 h
  | 0, m + 1, v, _, _, hm, h => by omega
  | n + 1, m + 1, v, hS, hv, hm, ⟨a, e, h1, h2⟩ => ⟨a, e, h1, env_le hS (by subst e; exact SI_t hS (inU_pr hv)) (by omega) h2⟩
end TY
end
section
def tpf (H T : Nat → Vl) (ro : Nat → Bool) (b : Bool) (S : Vl) : Prop := b = true → ∃ a f g, S = vPr a ∧ H a = vFn f ∧ T f = vPr g ∧ ro g = true
def dmx (H T : Nat → Vl) (ro : Nat → Bool) (D : Vl) (e : En) : Prop := ∃ f, dmp H T ro f D e
def TS (H T : Nat → Vl) (ro : Nat → Bool) (U : Nat → Prop) (R : Vl) : Prop := SI H T ro U ∧ inU U R ∧ wtx H T ro R [] 0 false eStop
def TI (H T : Nat → Vl) (ro : Nat → Bool) (U : Nat → Prop) (S E C D R : Vl) (k : Sk) (n : Nat) (b : Bool) (e : En) : Prop :=
  TS H T ro U R ∧ (inU U S ∧ stk H T ro k S) ∧ (inU U E ∧ env T ro n E) ∧ (inU U C ∧ wtx H T ro C k n b e) ∧ (inU U D ∧ dmx H T ro D e) ∧ tpf H T ro b S
section TY
variable {H T H' T' : Nat → Vl} {ro ro' : Nat → Bool} {U U' : Nat → Prop} {S E C D R : Vl} {k : Sk} {n : Nat} {b : Bool} {e : En}
theorem gF_pr {a : Nat} : gF H T ro (vPr a) := fun f q => by cases q
theorem gF_nil : gF H T ro vNil := fun f q => by cases q
theorem gF_int {x : Int32} : gF H T ro (vInt x) := fun f q => by cases q
theorem dmx_ext (hS : SI H T ro U) (hX : Ext U H T ro H' T' ro') (hv : inU U D) (h : dmx H T ro D e) : dmx H' T' ro' D e := by
  obtain ⟨f, h⟩ := h
  exact ⟨f, dmp_ext hS hX f _ _ hv h⟩
theorem isE_gF {v : Vl} {H' T' : Nat → Vl} {ro' : Nat → Bool} (h : isE ro v) : gF H' T' ro' v := by
  rcases h with rfl | ⟨b, rfl, _⟩
  · exact gF_nil
  · exact gF_pr
theorem stk_gF {v : Vl} {H' T' : Nat → Vl} {ro' : Nat → Bool} (h : stk H T ro k v) : gF H' T' ro' v := by
  cases k with
  | nil =>
    cases h
    exact gF_nil
  | cons x k =>
    obtain ⟨a, rfl, -⟩ := h
    exact gF_pr
theorem wtx_gF {v : Vl} {H' T' : Nat → Vl} {ro' : Nat → Bool} (h : wtx H T ro v k n b e) : gF H' T' ro' v := by
  obtain ⟨f, h⟩ := h
  cases f with
  | zero => exact absurd h id
  | succ f =>
    obtain ⟨c, i, rfl, -⟩ := h
    exact gF_pr
theorem dmx_gF {v : Vl} {H' T' : Nat → Vl} {ro' : Nat → Bool} (h : dmx H T ro v e) : gF H' T' ro' v := by
  obtain ⟨f, h⟩ := h
  cases f with
  | zero =>
    obtain ⟨-, rfl⟩ := h
    exact gF_nil
  | succ f =>
    rcases h with ⟨-, a, b, c, k, n, e', rfl, -⟩ | ⟨k, n, a, e', -, rfl, -⟩ <;> exact gF_pr
theorem TS_new {a : Nat} {h t : Vl} {β : Bool} (hS : TS H T ro U R) (hn : ¬ U a) (uh : inU U h) (ut : inU U t) (gh : gF H T ro h) (gt : gF H T ro t) (hb : β = true → isE ro t ∧ lst T h) : TS (upW H a h) (upW T a t) (upW ro a β) (addU U a) R :=
  ⟨SI_new hS.1 hn uh ut gh gt hb, inU_mono (fun _ => Or.inl) hS.2.1, wtx_ext hS.1 (Ext_new hn) hS.2.1 hS.2.2⟩
theorem new_in {a : Nat} : addU U a a := Or.inr rfl
theorem in_new {a : Nat} {v : Vl} (h : inU U v) : inU (addU U a) v := inU_mono (fun _ => Or.inl) h
theorem T_push {a : Nat} {v : Vl} {t : Bool} (hS : TS H T ro U R) (hn : ¬ U a) (uv : inU U v) (gv : gF H T ro v) (lv : t = true → lst T v) (h1 : inU U S ∧ stk H T ro k S) (h2 : inU U E ∧ env T ro n E) (h3 : inU U C ∧ wtx H T ro C (t :: k) n false e) (h4 : inU U D ∧ dmx H T ro D e) :
    TI (upW H a v) (upW T a S) (upW ro a false) (addU U a) (vPr a) E C D R (t :: k) n false e := by
  have hX : Ext U H T ro (upW H a v) (upW T a S) (upW ro a false) := Ext_new hn
  have e1 : upW T a S a = S := if_pos rfl
  have e2 : upW H a v a = v := if_pos rfl
  refine ⟨TS_new hS hn uv h1.1 gv (stk_gF h1.2) (fun q => by cases q), ⟨pr_inU new_in, a, rfl, if_pos rfl, fun q => (by rw [e2]; exact lst_ext hS.1 hX uv (lv q)), ?_⟩, ⟨in_new h2.1, env_ext hS.1 hX _ _ h2.1 h2.2⟩, ⟨in_new h3.1, wtx_ext hS.1 hX h3.1 h3.2⟩, ⟨in_new h4.1, dmx_ext hS.1 hX h4.1 h4.2⟩, fun q => by cases q⟩
  rw [e1]
  exact stk_ext hS.1 hX _ _ h1.1 h1.2
theorem stk_top {x : Bool} (hS : SI H T ro U) (h : inU U S ∧ stk H T ro (x :: k) S) : ∃ a, S = vPr a ∧ U a ∧ (inU U (T a) ∧ stk H T ro k (T a)) ∧ (inU U (H a) ∧ gF H T ro (H a)) ∧ (x = true → lst T (H a)) := by
  obtain ⟨a, rfl, h1, h2, h3⟩ := h.2
  have ua := inU_pr h.1
  exact ⟨a, rfl, ua, ⟨SI_t hS ua, h3⟩, ⟨SI_h hS ua, (hS a ua).2.1.1⟩, h2⟩
theorem T_fun {a1 a2 : Nat} {V : Vl} (hS : TS H T ro U R) (hn1 : ¬ U a1) (hn2 : ¬ addU U a1 a2) (uV : inU U V) (wV : wtx H T ro V [] 1 false eRet) (h1 : inU U S ∧ stk H T ro k S) (h2 : inU U E ∧ env T ro n E) (h3 : inU U C ∧ wtx H T ro C (false :: k) n (decide (0 < n)) e) (h4 : inU U D ∧ dmx H T ro D e) :
    TI (upW (upW H a1 V) a2 (vFn a1)) (upW (upW T a1 E) a2 S) (upW (upW ro a1 false) a2 false) (addU (addU U a1) a2) (vPr a2) E C D R (false :: k) n (decide (0 < n)) e := by
  have hX : Ext U H T ro (upW H a1 V) (upW T a1 E) (upW ro a1 false) := Ext_new hn1
  have hS1 : TS (upW H a1 V) (upW T a1 E) (upW ro a1 false) (addU U a1) R := TS_new hS hn1 uV h2.1 (wtx_gF wV) (isE_gF (env_0 h2.2)) (fun q => by cases q)
  have hX2 : Ext (addU U a1) (upW H a1 V) (upW T a1 E) (upW ro a1 false) (upW (upW H a1 V) a2 (vFn a1)) (upW (upW T a1 E) a2 S) (upW (upW ro a1 false) a2 false) := Ext_new hn2
  have e1 : upW H a1 V a1 = V := if_pos rfl
  have e2 : upW T a1 E a1 = E := if_pos rfl
  have e3 : upW ro a1 false a1 = false := if_pos rfl
  have gf : gF (upW H a1 V) (upW T a1 E) (upW ro a1 false) (vFn a1) := by
    intro f q
    cases q
    rw [e1, e2]
    exact ⟨e3, wtx_ext hS.1 hX uV wV, isE_ext hX h2.1 (env_0 h2.2)⟩
  have e4 : upW (upW T a1 E) a2 S a2 = S := if_pos rfl
  have hne : ¬ a1 = a2 := fun q => hn2 (Or.inr q.symm)
  refine ⟨TS_new hS1 hn2 (fn_inU new_in) (in_new h1.1) gf (stk_gF h1.2) (fun q => by cases q), ⟨pr_inU new_in, a2, rfl, if_pos rfl, (fun q => by cases q), ?_⟩, ⟨in_new (in_new h2.1), env_ext hS1.1 hX2 _ _ (in_new h2.1) (env_ext hS.1 hX _ _ h2.1 h2.2)⟩, ⟨in_new (in_new h3.1), wtx_ext hS1.1 hX2 (in_new h3.1) (wtx_ext hS.1 hX h3.1 h3.2)⟩, ⟨in_new (in_new h4.1), dmx_ext hS1.1 hX2 (in_new h4.1) (dmx_ext hS.1 hX h4.1 h4.2)⟩, fun q => ?_⟩
  · rw [e4]
    exact stk_ext hS1.1 hX2 _ _ (in_new h1.1) (stk_ext hS.1 hX _ _ h1.1 h1.2)
  · have hn0 : 0 < n := of_decide_eq_true q
    obtain ⟨n, rfl⟩ : ∃ j, n = j + 1 := ⟨n - 1, by omega⟩
    obtain ⟨g, rfl, r1, r2⟩ := h2.2
    have ug := inU_pr h2.1
    refine ⟨a2, a1, g, rfl, if_pos rfl, ?_, ?_⟩
    · show (if a1 = a2 then S else upW T a1 (vPr g) a1) = vPr g
      rw [if_neg hne]
      exact if_pos rfl
    · rw [(hX2 g (Or.inl ug)).2.1, (hX g ug).2.1]
      exact r1
theorem T_save {a1 a2 a3 : Nat} {V X : Vl} (hS : TS H T ro U R) (hn1 : ¬ U a1) (hn2 : ¬ addU U a1 a2) (hn3 : ¬ addU (addU U a1) a2 a3) (h1 : inU U S ∧ stk H T ro k S) (h2 : inU U V ∧ env T ro n V) (h3 : inU U X ∧ wtx H T ro X (false :: k) n false e) (h4 : inU U D ∧ dmx H T ro D e) :
    TS (upW (upW (upW H a1 X) a2 V) a3 S) (upW (upW (upW T a1 D) a2 (vPr a1)) a3 (vPr a2)) (upW (upW (upW ro a1 false) a2 false) a3 false) (addU (addU (addU U a1) a2) a3) R
    ∧ Ext U H T ro (upW (upW (upW H a1 X) a2 V) a3 S) (upW (upW (upW T a1 D) a2 (vPr a1)) a3 (vPr a2)) (upW (upW (upW ro a1 false) a2 false) a3 false)
    ∧ dmx (upW (upW (upW H a1 X) a2 V) a3 S) (upW (upW (upW T a1 D) a2 (vPr a1)) a3 (vPr a2)) (upW (upW (upW ro a1 false) a2 false) a3 false) (vPr a3) eRet := by
  have x1 : Ext U H T ro (upW H a1 X) (upW T a1 D) (upW ro a1 false) := Ext_new hn1
  have s1 : TS (upW H a1 X) (upW T a1 D) (upW ro a1 false) (addU U a1) R := TS_new hS hn1 h3.1 h4.1 (wtx_gF h3.2) (dmx_gF h4.2) (fun q => by cases q)
  have x2 : Ext (addU U a1) (upW H a1 X) (upW T a1 D) (upW ro a1 false) (upW (upW H a1 X) a2 V) (upW (upW T a1 D) a2 (vPr a1)) (upW (upW ro a1 false) a2 false) := Ext_new hn2
  have s2 : TS (upW (upW H a1 X) a2 V) (upW (upW T a1 D) a2 (vPr a1)) (upW (upW ro a1 false) a2 false) (addU (addU U a1) a2) R := TS_new s1 hn2 (in_new h2.1) (pr_inU new_in) (isE_gF (env_0 h2.2)) gF_pr (fun q => by cases q)
  have x3 : Ext (addU (addU U a1) a2) (upW (upW H a1 X) a2 V) (upW (upW T a1 D) a2 (vPr a1)) (upW (upW ro a1 false) a2 false) (upW (upW (upW H a1 X) a2 V) a3 S) (upW (upW (upW T a1 D) a2 (vPr a1)) a3 (vPr a2)) (upW (upW (upW ro a1 false) a2 false) a3 false) := Ext_new hn3
  have n21 : ¬ a1 = a2 := fun q => hn2 (Or.inr q.symm)
  have n31 : ¬ a1 = a3 := fun q => hn3 (Or.inl (Or.inr q.symm))
  have n32 : ¬ a2 = a3 := fun q => hn3 (Or.inr q.symm)
  have f1 : ∀ (α : Type) (F : Nat → α) (p q r : α), upW (upW (upW F a1 p) a2 q) a3 r a1 = p ∧ upW (upW (upW F a1 p) a2 q) a3 r a2 = q ∧ upW (upW (upW F a1 p) a2 q) a3 r a3 = r := by
    intro α F p q r
    unfold upW
    rw [if_neg n31, if_neg n21, if_pos rfl, if_neg n32, if_pos rfl, if_pos rfl]
    exact ⟨rfl, rfl, rfl⟩
  have xx : Ext U H T ro (upW (upW (upW H a1 X) a2 V) a3 S) (upW (upW (upW T a1 D) a2 (vPr a1)) a3 (vPr a2)) (upW (upW (upW ro a1 false) a2 false) a3 false) := by
    intro a ua
    obtain ⟨p1, p2, p3⟩ := x1 a ua
    obtain ⟨q1, q2, q3⟩ := x2 a (Or.inl ua)
    obtain ⟨r1, r2, r3⟩ := x3 a (Or.inl (Or.inl ua))
    exact ⟨r1.trans (q1.trans p1), r2.trans (q2.trans p2), fun w => (r3 (q2.trans (p2.trans w))).trans ((q3 (p2.trans w)).trans (p3 w))⟩
  refine ⟨TS_new s2 hn3 (in_new (in_new h1.1)) (pr_inU new_in) (stk_gF h1.2) gF_pr (fun q => by cases q), xx, ?_⟩
  obtain ⟨f, hd⟩ := dmx_ext hS.1 xx h4.1 h4.2
  refine ⟨f + 1, Or.inl ⟨rfl, a3, a2, a1, k, n, e, rfl, (f1 Bool ro _ _ _).2.2, ?_, (f1 Vl T _ _ _).2.2, (f1 Bool ro _ _ _).2.1, ?_, (f1 Vl T _ _ _).2.1, (f1 Bool ro _ _ _).1, ?_, ?_⟩⟩
  · rw [(f1 Vl H _ _ _).2.2]
    exact stk_ext hS.1 xx _ _ h1.1 h1.2
  · rw [(f1 Vl H _ _ _).2.1]
    exact env_ext hS.1 xx _ _ h2.1 h2.2
  · rw [(f1 Vl H _ _ _).1]
    exact wtx_ext hS.1 xx h3.1 h3.2
  · rw [(f1 Vl T _ _ _).1]
    exact hd
theorem T_call {a1 a2 a3 a4 f : Nat} {A X : Vl} (hS : TS H T ro U R) (hn1 : ¬ U a1) (hn2 : ¬ addU U a1 a2) (hn3 : ¬ addU (addU U a1) a2 a3) (hn4 : ¬ addU (addU (addU U a1) a2) a3 a4) (h1 : inU U S ∧ stk H T ro k S) (h2 : inU U E ∧ env T ro n E) (h3 : inU U X ∧ wtx H T ro X (false :: k) n false e) (h4 : inU U D ∧ dmx H T ro D e) (hA : inU U A ∧ gF H T ro A) (lA : lst T A) (uf : U f) (gf : gF H T ro (vFn f)) :
    TI (upW (upW (upW (upW H a1 X) a2 E) a3 S) a4 A) (upW (upW (upW (upW T a1 D) a2 (vPr a1)) a3 (vPr a2)) a4 (T f)) (upW (upW (upW (upW ro a1 false) a2 false) a3 false) a4 true) (addU (addU (addU (addU U a1) a2) a3) a4) vNil (vPr a4) (H f) (vPr a3) R [] 1 false eRet := by
  obtain ⟨s1, x1, d1⟩ := T_save (D := D) hS hn1 hn2 hn3 h1 h2 h3 h4
  obtain ⟨g1, g2, g3⟩ := gf f rfl
  have uu : ∀ {v : Vl}, inU U v → inU (addU (addU (addU U a1) a2) a3) v := fun h => in_new (in_new (in_new h))
  have uT := SI_t hS.1 uf
  have uH := SI_h hS.1 uf
  have x2 : Ext (addU (addU (addU U a1) a2) a3) (upW (upW (upW H a1 X) a2 E) a3 S) (upW (upW (upW T a1 D) a2 (vPr a1)) a3 (vPr a2)) (upW (upW (upW ro a1 false) a2 false) a3 false) (upW (upW (upW (upW H a1 X) a2 E) a3 S) a4 A) (upW (upW (upW (upW T a1 D) a2 (vPr a1)) a3 (vPr a2)) a4 (T f)) (upW (upW (upW (upW ro a1 false) a2 false) a3 false) a4 true) := Ext_new hn4
  have hE := isE_ext x1 uT g3
  have ud : inU (addU (addU (addU U a1) a2) a3) (vPr a3) := pr_inU new_in
  refine ⟨TS_new s1 hn4 (uu hA.1) (uu uT) (gF_ext hS.1 x1 hA.1 hA.2) (isE_gF hE) (fun _ => ⟨hE, lst_ext hS.1 x1 hA.1 lA⟩), ⟨nil_inU, rfl⟩, ⟨pr_inU new_in, a4, rfl, if_pos rfl, ?_⟩, ⟨in_new (uu uH), wtx_ext s1.1 x2 (uu uH) (wtx_ext hS.1 x1 uH g2)⟩, ⟨in_new ud, dmx_ext s1.1 x2 ud d1⟩, fun q => by cases q⟩
  have e1 : upW (upW (upW (upW T a1 D) a2 (vPr a1)) a3 (vPr a2)) a4 (T f) a4 = T f := if_pos rfl
  rw [e1]
  exact isE_ext x2 (uu uT) hE
theorem T_call7 {a1 a2 a3 f g : Nat} {A X V : Vl} (hS : TS H T ro U R) (hn1 : ¬ U a1) (hn2 : ¬ addU U a1 a2) (hn3 : ¬ addU (addU U a1) a2 a3) (h1 : inU U S ∧ stk H T ro k S) (h2 : inU U V ∧ env T ro n V) (h3 : inU U X ∧ wtx H T ro X (false :: k) n false e) (h4 : inU U D ∧ dmx H T ro D e) (hA : inU U A ∧ gF H T ro A) (lA : lst T A) (uf : U f) (gf : gF H T ro (vFn f)) (eg : T f = vPr g) (rg : ro g = true) :
    TI (upW (upW (upW (upW H a1 X) a2 V) a3 S) g A) (upW (upW (upW T a1 D) a2 (vPr a1)) a3 (vPr a2)) (upW (upW (upW ro a1 false) a2 false) a3 false) (addU (addU (addU U a1) a2) a3) vNil (vPr g) (H f) (vPr a3) R [] 1 false eRet := by
  obtain ⟨s1, x1, d1⟩ := T_save (D := D) hS hn1 hn2 hn3 h1 h2 h3 h4
  obtain ⟨g1, g2, g3⟩ := gf f rfl
  have uu : ∀ {v : Vl}, inU U v → inU (addU (addU (addU U a1) a2) a3) v := fun h => in_new (in_new (in_new h))
  have ug := SI_tp hS.1 uf eg
  have uH := SI_h hS.1 uf
  have rg1 : upW (upW (upW ro a1 false) a2 false) a3 false g = true := (x1 g ug).2.1.trans rg
  have x2 : Ext (addU (addU (addU U a1) a2) a3) (upW (upW (upW H a1 X) a2 V) a3 S) (upW (upW (upW T a1 D) a2 (vPr a1)) a3 (vPr a2)) (upW (upW (upW ro a1 false) a2 false) a3 false) (upW (upW (upW (upW H a1 X) a2 V) a3 S) g A) (upW (upW (upW T a1 D) a2 (vPr a1)) a3 (vPr a2)) (upW (upW (upW ro a1 false) a2 false) a3 false) := Ext_set rg1
  have ud : inU (addU (addU (addU U a1) a2) a3) (vPr a3) := pr_inU new_in
  have uT := SI_t hS.1 ug
  refine ⟨⟨SI_set s1.1 rg1 (uu hA.1) (gF_ext hS.1 x1 hA.1 hA.2) (lst_ext hS.1 x1 hA.1 lA), s1.2.1, wtx_ext s1.1 x2 s1.2.1 s1.2.2⟩, ⟨nil_inU, rfl⟩, ⟨uu (pr_inU ug), g, rfl, rg1, ?_⟩, ⟨uu uH, wtx_ext s1.1 x2 (uu uH) (wtx_ext hS.1 x1 uH g2)⟩, ⟨ud, dmx_ext s1.1 x2 ud d1⟩, fun q => by cases q⟩
  rw [(x1 g ug).1]
  exact isE_ext x1 uT ((hS.1 g ug).2.2 rg).1
theorem T_frame {a : Nat} (hS : TS H T ro U R) (hn : ¬ U a) (h1 : inU U S ∧ stk H T ro k S) (h2 : inU U E ∧ env T ro n E) (h3 : inU U C ∧ wtx H T ro C k (n + 1) false e) (h4 : inU U D ∧ dmx H T ro D e) :
    TI (upW H a vNil) (upW T a E) (upW ro a true) (addU U a) S (vPr a) C D R k (n + 1) false e := by
  have hX : Ext U H T ro (upW H a vNil) (upW T a E) (upW ro a true) := Ext_new hn
  have hE := env_0 h2.2
  refine ⟨TS_new hS hn nil_inU h2.1 gF_nil (isE_gF hE) (fun _ => ⟨hE, 0, rfl⟩), ⟨in_new h1.1, stk_ext hS.1 hX _ _ h1.1 h1.2⟩, ⟨pr_inU new_in, a, rfl, if_pos rfl, ?_⟩, ⟨in_new h3.1, wtx_ext hS.1 hX h3.1 h3.2⟩, ⟨in_new h4.1, dmx_ext hS.1 hX h4.1 h4.2⟩, fun q => by cases q⟩
  have e1 : upW T a E a = E := if_pos rfl
  rw [e1]
  exact env_ext hS.1 hX _ _ h2.1 h2.2
theorem T_choose {a : Nat} {X : Vl} {k' : Sk} {n' : Nat} (hS : TS H T ro U R) (hn : ¬ U a) (h1 : inU U S ∧ stk H T ro k S) (h2 : inU U E ∧ env T ro n E) (h3 : inU U C ∧ wtx H T ro C k n false (eJoin k' n')) (h4 : inU U D ∧ dmx H T ro D e) (h5 : inU U X ∧ wtx H T ro X k' n' false e) :
    TI (upW H a X) (upW T a D) (upW ro a false) (addU U a) S E C (vPr a) R k n false (eJoin k' n') := by
  have hX : Ext U H T ro (upW H a X) (upW T a D) (upW ro a false) := Ext_new hn
  have e1 : upW T a D a = D := if_pos rfl
  have e2 : upW H a X a = X := if_pos rfl
  refine ⟨TS_new hS hn h5.1 h4.1 (wtx_gF h5.2) (dmx_gF h4.2) (fun q => by cases q), ⟨in_new h1.1, stk_ext hS.1 hX _ _ h1.1 h1.2⟩, ⟨in_new h2.1, env_ext hS.1 hX _ _ h2.1 h2.2⟩, ⟨in_new h3.1, wtx_ext hS.1 hX h3.1 h3.2⟩, ⟨pr_inU new_in, ?_⟩, fun q => by cases q⟩
  obtain ⟨f, hd⟩ := dmx_ext hS.1 hX h4.1 h4.2
  refine ⟨f + 1, Or.inr ⟨k', n', a, e, rfl, rfl, if_pos rfl, ?_, ?_⟩⟩
  · rw [e2]
    exact wtx_ext hS.1 hX h5.1 h5.2
  · rw [e1]
    exact hd
theorem dmx_ret (hS : SI H T ro U) (h : inU U D ∧ dmx H T ro D eRet) : ∃ a b c k n e', D = vPr a ∧ T a = vPr b ∧ T b = vPr c ∧ U a ∧ U b ∧ U c ∧ (inU U (H a) ∧ stk H T ro k (H a)) ∧ (inU U (H b) ∧ env T ro n (H b)) ∧ (inU U (H c) ∧ wtx H T ro (H c) (false :: k) n false e') ∧ (inU U (T c) ∧ dmx H T ro (T c) e') := by
  obtain ⟨u, f, h⟩ := h
  cases f with
  | zero => exact absurd h.1 (by intro q; cases q)
  | succ f =>
    rcases h with ⟨-, a, b, c, k, n, e', rfl, a1, a2, a3, a4, a5, a6, a7, a8, a9⟩ | ⟨k, n, a, e', q, -⟩
    · have ua := inU_pr u
      have ub := SI_tp hS ua a3
      have uc := SI_tp hS ub a6
      exact ⟨a, b, c, k, n, e', rfl, a3, a6, ua, ub, uc, ⟨SI_h hS ua, a2⟩, ⟨SI_h hS ub, a5⟩, ⟨SI_h hS uc, a8⟩, ⟨SI_t hS uc, f, a9⟩⟩
    · cases q
theorem dmx_join (hS : SI H T ro U) (h : inU U D ∧ dmx H T ro D (eJoin k n)) : ∃ a e', D = vPr a ∧ U a ∧ (inU U (H a) ∧ wtx H T ro (H a) k n false e') ∧ (inU U (T a) ∧ dmx H T ro (T a) e') := by
  obtain ⟨u, f, h⟩ := h
  cases f with
  | zero => exact absurd h.1 (by intro q; cases q)
  | succ f =>
    rcases h with ⟨q, -⟩ | ⟨k, n, a, e', q, rfl, a1, a2, a3⟩
    · cases q
    · cases q
      have ua := inU_pr u
      exact ⟨a, e', rfl, ua, ⟨SI_h hS ua, a2⟩, ⟨SI_t hS ua, f, a3⟩⟩
theorem TI_sub (h : TI H T ro U S E C D R k n b e) (hm : ∀ a, U' a → U a) (hc : ∀ a, U' a → inU U' (H a) ∧ inU U' (T a)) (uS : inU U' S) (uE : inU U' E) (uC : inU U' C) (uD : inU U' D) (uR : inU U' R) : TI H T ro U' S E C D R k n b e := by
  obtain ⟨⟨s1, s2, s3⟩, ⟨-, h1⟩, ⟨-, h2⟩, ⟨-, h3⟩, ⟨-, h4⟩, h5⟩ := h
  exact ⟨⟨SI_sub s1 hm hc, uR, s3⟩, ⟨uS, h1⟩, ⟨uE, h2⟩, ⟨uC, h3⟩, ⟨uD, h4⟩, h5⟩
theorem TI_start (hS : TS H T ro U R) : TI H T ro U vNil vNil R vNil R [] 0 false eStop :=
  ⟨hS, ⟨nil_inU, rfl⟩, ⟨nil_inU, Or.inl rfl⟩, ⟨hS.2.1, hS.2.2⟩, ⟨nil_inU, 0, rfl, rfl⟩, fun q => by cases q⟩
end TY
end
section
def Ur (r : rM) (a : Nat) : Prop := a < r.z ∧ ¬ r.used a = 0
def rv (r : rM) (v : Vl) (kd x : Int32) : Prop := match v with
  | .inl _ => kd = 0 ∧ x = 0
  | .inr (.inl y) => kd = 1 ∧ x = y
  | .inr (.inr (.inl y)) => kd = 2 ∧ x = y
  | .inr (.inr (.inr (.inl a))) => kd = 3 ∧ x = nI a ∧ Ur r a ∧ r.function a = 0
  | .inr (.inr (.inr (.inr a))) => kd = 3 ∧ x = nI a ∧ Ur r a ∧ ¬ r.function a = 0
def rg (r : rM) (v : Vl) (x : Int32) : Prop := (v = vNil ∧ x = -1) ∨ ∃ a, v = vPr a ∧ x = nI a ∧ Ur r a ∧ r.function a = 0
def raw (r : rM) : Prop := ∀ a, a < 250 → (r.headKind a = 3 → ∃ j, j < r.z ∧ r.head a = nI j) ∧ (r.tailKind a = 3 → ∃ j, j < r.z ∧ r.tail a = nI j)
def RB (r : rM) (H T : Nat → Vl) : Prop := (1 ≤ r.z ∧ r.z ≤ 250) ∧ (∀ a, Ur r a → rv r (H a) (r.headKind a) (r.head a) ∧ rv r (T a) (r.tailKind a) (r.tail a)) ∧ raw r
def fz (r : rM) : Nat := czN r.used r.z 0 0
def mkR (r : rM) (k : Nat) (a b c : Int32) : rM := ((((((r.s_used (upd r.used k 1)).s_function (upd r.function k 0)).s_headKind (upd r.headKind k a)).s_head (upd r.head k b)).s_tailKind (upd r.tailKind k (if c < 0 then 0 else 3))).s_tail (upd r.tail k (if c < 0 then 0 else c)))
theorem czN_add (u : Nat → Int32) : ∀ n k a, czN u n k a = a + czN u n k 0
  | 0, k, a => rfl
  | n + 1, k, a => by
    have e1 : czN u (n + 1) k a = czN u n (k + 1) (if u k = 0 then a + 1 else a) := rfl
    have e2 : czN u (n + 1) k 0 = czN u n (k + 1) (if u k = 0 then 0 + 1 else 0) := rfl
    rw [e1, e2]
    split
    · rw [czN_add u n (k + 1) (a + 1), czN_add u n (k + 1) (0 + 1)]
      omega
    · rw [czN_add u n (k + 1) a]
theorem czN_ex (u : Nat → Int32) : ∀ n k, 1 ≤ czN u n k 0 → ∃ i, k ≤ i ∧ i < k + n ∧ u i = 0
  | 0, k, h => absurd h (by show ¬ 1 ≤ 0; decide)
  | n + 1, k, h => by
    by_cases hk : u k = 0
    · exact ⟨k, Nat.le_refl _, by omega, hk⟩
    · have e : czN u (n + 1) k 0 = czN u n (k + 1) (if u k = 0 then 0 + 1 else 0) := rfl
      rw [e, if_neg hk] at h
      obtain ⟨i, h1, h2, h3⟩ := czN_ex u n (k + 1) h
      exact ⟨i, by omega, by omega, h3⟩
theorem czN_out (u : Nat → Int32) (i : Nat) (y : Int32) : ∀ n k a, (i < k ∨ k + n ≤ i) → czN (upd u i y) n k a = czN u n k a
  | 0, k, a, _ => rfl
  | n + 1, k, a, h => by
    have e1 : czN u (n + 1) k a = czN u n (k + 1) (if u k = 0 then a + 1 else a) := rfl
    have e2 : czN (upd u i y) (n + 1) k a = czN (upd u i y) n (k + 1) (if upd u i y k = 0 then a + 1 else a) := rfl
    have e3 : upd u i y k = u k := if_neg (by omega)
    rw [e1, e2, e3]
    exact czN_out u i y n (k + 1) _ (by omega)
theorem czN_upd (u : Nat → Int32) (i : Nat) (hi : u i = 0) : ∀ n k a, k ≤ i → i < k + n → czN (upd u i 1) n k a + 1 = czN u n k a
  | 0, k, a, h1, h2 => by omega
  | n + 1, k, a, h1, h2 => by
    have e1 : czN u (n + 1) k a = czN u n (k + 1) (if u k = 0 then a + 1 else a) := rfl
    have e2 : czN (upd u i 1) (n + 1) k a = czN (upd u i 1) n (k + 1) (if upd u i 1 k = 0 then a + 1 else a) := rfl
    by_cases e : k = i
    · subst e
      have e3 : upd u k 1 k = 1 := if_pos rfl
      rw [e1, e2, e3, if_neg (by decide), if_pos hi, czN_out u k 1 n (k + 1) a (Or.inl (by omega)), czN_add u n (k + 1) (a + 1), czN_add u n (k + 1) a]
      omega
    · have e3 : upd u i 1 k = u k := if_neg e
      rw [e1, e2, e3]
      exact czN_upd u i hi n (k + 1) _ (by omega) (by omega)
theorem ffN_zero (u : Nat → Int32) : ∀ n k, (∃ i, k ≤ i ∧ i ≤ k + n ∧ u i = 0) → u (ffN u n k) = 0
  | 0, k, ⟨i, h1, h2, h3⟩ => by
    obtain rfl : i = k := by omega
    exact h3
  | n + 1, k, ⟨i, h1, h2, h3⟩ => by
    have e : ffN u (n + 1) k = if u k = 0 then k else ffN u n (k + 1) := rfl
    rw [e]
    split
    · assumption
    · next hk =>
      refine ffN_zero u n (k + 1) ⟨i, ?_, by omega, h3⟩
      rcases Nat.lt_or_ge k i with h | h
      · exact h
      · obtain rfl : i = k := by omega
        exact absurd h3 hk
section RR
variable {r r' : rM} {H T : Nat → Vl} {v h t : Vl} {x a b c kd : Int32} {k : Nat}
theorem nIj {i j : Nat} (hi : i < 2 ^ 31) (hj : j < 2 ^ 31) (e : nI i = nI j) : i = j := by
  have := congrArg Int32.toNatClampNeg e
  rwa [nI_clamp hi, nI_clamp hj] at this
theorem rg_neg (h : rg r v x) (hz : r.z ≤ 250) : (v = vNil ∧ x < 0 ∧ x = -1) ∨ ∃ a, v = vPr a ∧ x = nI a ∧ ¬ x < 0 ∧ Ur r a ∧ r.function a = 0 ∧ a < 250 := by
  rcases h with ⟨rfl, rfl⟩ | ⟨a, rfl, rfl, h1, h2⟩
  · exact Or.inl ⟨rfl, by decide, rfl⟩
  · have := h1.1
    exact Or.inr ⟨a, rfl, rfl, nI_pos (by omega), h1, h2, by omega⟩
theorem rg_rv (h : rg r v x) (hz : r.z ≤ 250) : rv r v (if x < 0 then 0 else 3) (if x < 0 then 0 else x) := by
  rcases rg_neg h hz with ⟨rfl, h1, rfl⟩ | ⟨a, rfl, h1, h2, h3, h4, -⟩
  · rw [if_pos h1, if_pos h1]
    exact ⟨rfl, rfl⟩
  · rw [if_neg h2, if_neg h2]
    exact ⟨rfl, h1, h3, h4⟩
theorem rv_raw (h : rv r v kd x) (e : kd = 3) : ∃ j, j < r.z ∧ x = nI j := by
  rcases v with u | y | y | i | i
  · obtain ⟨h1, -⟩ := h
    rw [e] at h1
    exact absurd h1 (by decide)
  · obtain ⟨h1, -⟩ := h
    rw [e] at h1
    exact absurd h1 (by decide)
  · obtain ⟨h1, -⟩ := h
    rw [e] at h1
    exact absurd h1 (by decide)
  · exact ⟨i, h.2.2.1.1, h.2.1⟩
  · exact ⟨i, h.2.2.1.1, h.2.1⟩
def upR (r r' : rM) : Prop := r'.z = r.z ∧ ∀ a, Ur r a → Ur r' a ∧ (r'.function a = r.function a)
theorem rv_up (hu : upR r r') (h : rv r v kd x) : rv r' v kd x := by
  rcases v with u | y | y | i | i
  · exact h
  · exact h
  · exact h
  · obtain ⟨h1, h2, h3, h4⟩ := h
    exact ⟨h1, h2, (hu.2 i h3).1, (hu.2 i h3).2.trans h4⟩
  · obtain ⟨h1, h2, h3, h4⟩ := h
    exact ⟨h1, h2, (hu.2 i h3).1, by rw [(hu.2 i h3).2]; exact h4⟩
theorem rg_up (hu : upR r r') (h : rg r v x) : rg r' v x := by
  rcases h with h | ⟨a, h1, h2, h3, h4⟩
  · exact Or.inl h
  · exact Or.inr ⟨a, h1, h2, (hu.2 a h3).1, (hu.2 a h3).2.trans h4⟩
theorem mk_ok (hB : RB r H T) (hf : 1 ≤ fz r) (hk : k = ffN r.used (r.z - 1) 0) (hh : rv r h a b) (ht : rg r t c) :
    (¬ Ur r k) ∧ k < r.z ∧ upR r (mkR r k a b c) ∧ RB (mkR r k a b c) (upW H k h) (upW T k t) ∧ rg (mkR r k a b c) (vPr k) (nI k) ∧ Ur (mkR r k a b c) = addU (Ur r) k ∧ fz (mkR r k a b c) + 1 = fz r := by
  obtain ⟨⟨z1, z2⟩, hS, hr⟩ := hB
  have hlt : k < r.z := by
    have := ffN_le r.used (r.z - 1) 0
    omega
  have h0 : r.used k = 0 := by
    rw [hk]
    refine ffN_zero r.used (r.z - 1) 0 ?_
    obtain ⟨i, h1, h2, h3⟩ := czN_ex r.used r.z 0 hf
    exact ⟨i, h1, by omega, h3⟩
  have hnu : ¬ Ur r k := fun q => q.2 h0
  have hU : ∀ i, Ur (mkR r k a b c) i ↔ addU (Ur r) k i := by
    intro i
    unfold Ur addU mkR
    show (i < r.z ∧ ¬ upd r.used k 1 i = 0) ↔ _
    unfold upd
    by_cases e : i = k
    · subst e
      rw [if_pos rfl]
      exact ⟨fun _ => Or.inr rfl, fun _ => ⟨hlt, by decide⟩⟩
    · rw [if_neg e]
      exact ⟨Or.inl, fun q => q.resolve_right e⟩
  have hup : upR r (mkR r k a b c) := by
    refine ⟨rfl, fun i hi => ⟨(hU i).mpr (Or.inl hi), ?_⟩⟩
    show upd r.function k 0 i = r.function i
    exact if_neg (fun (e : i = k) => hnu (e ▸ hi))
  refine ⟨hnu, hlt, hup, ⟨⟨z1, z2⟩, ?_, ?_⟩, ?_, funext (fun i => propext (hU i)), ?_⟩
  · intro i hi
    by_cases e : i = k
    · subst e
      have e1 : upW H i h i = h := if_pos rfl
      have e2 : upW T i t i = t := if_pos rfl
      have e3 : (mkR r i a b c).headKind i = a := if_pos rfl
      have e4 : (mkR r i a b c).head i = b := if_pos rfl
      have e5 : (mkR r i a b c).tailKind i = if c < 0 then 0 else 3 := if_pos rfl
      have e6 : (mkR r i a b c).tail i = if c < 0 then 0 else c := if_pos rfl
      rw [e1, e2, e3, e4, e5, e6]
      exact ⟨rv_up hup hh, rv_up hup (rg_rv ht z2)⟩
    · have hi2 : Ur r i := ((hU i).mp hi).resolve_right e
      have e1 : upW H k h i = H i := if_neg e
      have e2 : upW T k t i = T i := if_neg e
      have e3 : (mkR r k a b c).headKind i = r.headKind i := if_neg e
      have e4 : (mkR r k a b c).head i = r.head i := if_neg e
      have e5 : (mkR r k a b c).tailKind i = r.tailKind i := if_neg e
      have e6 : (mkR r k a b c).tail i = r.tail i := if_neg e
      rw [e1, e2, e3, e4, e5, e6]
      exact ⟨rv_up hup (hS i hi2).1, rv_up hup (hS i hi2).2⟩
  · intro i hi
    by_cases e : i = k
    · subst e
      have e3 : (mkR r i a b c).headKind i = a := if_pos rfl
      have e4 : (mkR r i a b c).head i = b := if_pos rfl
      have e5 : (mkR r i a b c).tailKind i = if c < 0 then 0 else 3 := if_pos rfl
      have e6 : (mkR r i a b c).tail i = if c < 0 then 0 else c := if_pos rfl
      rw [e3, e4, e5, e6]
      exact ⟨fun q => rv_raw (r := r) hh q, fun q => rv_raw (r := r) (rg_rv ht z2) q⟩
    · have e3 : (mkR r k a b c).headKind i = r.headKind i := if_neg e
      have e4 : (mkR r k a b c).head i = r.head i := if_neg e
      have e5 : (mkR r k a b c).tailKind i = r.tailKind i := if_neg e
      have e6 : (mkR r k a b c).tail i = r.tail i := if_neg e
      rw [e3, e4, e5, e6]
      exact hr i hi
  · exact Or.inr ⟨k, rfl, rfl, (hU k).mpr (Or.inr rfl), if_pos rfl⟩
  · exact czN_upd r.used k h0 r.z 0 0 (Nat.zero_le _) (by omega)
def fnR (r : rM) (k : Nat) : rM := (r.s_function (upd r.function k 1))
theorem fn_ok (hB : RB r H T) (uk : Ur r k) (hh : ∀ i, Ur r i → ¬ ceV (H i) = some k ∧ ¬ ceV (T i) = some k) :
    RB (fnR r k) H T ∧ Ur (fnR r k) = Ur r ∧ fz (fnR r k) = fz r ∧ rv (fnR r k) (vFn k) 3 (nI k) ∧ (∀ v x, rg r v x → ¬ ceV v = some k → rg (fnR r k) v x) := by
  obtain ⟨⟨z1, z2⟩, hS, hr⟩ := hB
  have key : ∀ v kd x, rv r v kd x → ¬ ceV v = some k → rv (fnR r k) v kd x := by
    intro v kd x q w
    rcases v with u | y | y | i | i
    · exact q
    · exact q
    · exact q
    · obtain ⟨q1, q2, q3, q4⟩ := q
      refine ⟨q1, q2, q3, ?_⟩
      show upd r.function k 1 i = 0
      unfold upd
      rw [if_neg (fun e => w (by rw [e]; rfl))]
      exact q4
    · obtain ⟨q1, q2, q3, q4⟩ := q
      refine ⟨q1, q2, q3, ?_⟩
      show ¬ upd r.function k 1 i = 0
      unfold upd
      rw [if_neg (fun e => w (by rw [e]; rfl))]
      exact q4
  refine ⟨⟨⟨z1, z2⟩, fun i hi => ⟨key _ _ _ (hS i hi).1 (hh i hi).1, key _ _ _ (hS i hi).2 (hh i hi).2⟩, hr⟩, rfl, rfl, ⟨rfl, rfl, uk, ?_⟩, ?_⟩
  · show ¬ upd r.function k 1 k = 0
    unfold upd
    rw [if_pos rfl]
    decide
  · intro v x q w
    rcases q with q | ⟨a, rfl, q2, q3, q4⟩
    · exact Or.inl q
    · refine Or.inr ⟨a, rfl, q2, q3, ?_⟩
      show upd r.function k 1 a = 0
      unfold upd
      rw [if_neg (fun e => w (by rw [e]; rfl))]
      exact q4
theorem rs_pr (hB : RB r H T) {i j : Nat} (ui : Ur r i) (e : T i = vPr j) : rsN r i = nI j := by
  have := (hB.2.1 i ui).2
  rw [e] at this
  unfold rsN
  rw [if_pos this.1]
  exact this.2.1
theorem rs_nil (hB : RB r H T) {i : Nat} (ui : Ur r i) (e : T i = vNil) : rsN r i = -1 := by
  have := (hB.2.1 i ui).2
  rw [e] at this
  unfold rsN
  rw [if_neg]
  rw [this.1]
  decide
theorem hl_pr (hB : RB r H T) {i j : Nat} (ui : Ur r i) (e : H i = vPr j) : hlN r i = nI j := by
  have := (hB.2.1 i ui).1
  rw [e] at this
  unfold hlN
  rw [if_pos this.1]
  exact this.2.1
theorem hl_nil (hB : RB r H T) {i : Nat} (ui : Ur r i) (e : H i = vNil) : hlN r i = -1 := by
  have := (hB.2.1 i ui).1
  rw [e] at this
  unfold hlN
  rw [if_neg]
  rw [this.1]
  decide
def isL_ (v : Vl) : Prop := v = vNil ∨ ∃ a, v = vPr a
theorem rs_rg (hB : RB r H T) {i : Nat} (ui : Ur r i) (e : isL_ (T i)) : rg r (T i) (rsN r i) := by
  rcases e with e | ⟨j, e⟩
  · exact Or.inl ⟨e, rs_nil hB ui e⟩
  · have := (hB.2.1 i ui).2
    rw [e] at this
    exact Or.inr ⟨j, e, rs_pr hB ui e, this.2.2.1, this.2.2.2⟩
theorem hl_rg (hB : RB r H T) {i : Nat} (ui : Ur r i) (e : isL_ (H i)) : rg r (H i) (hlN r i) := by
  rcases e with e | ⟨j, e⟩
  · exact Or.inl ⟨e, hl_nil hB ui e⟩
  · have := (hB.2.1 i ui).1
    rw [e] at this
    exact Or.inr ⟨j, e, hl_pr hB ui e, this.2.2.1, this.2.2.2⟩
end RR
theorem isL_stk {H T : Nat → Vl} {ro : Nat → Bool} {k : Sk} {v : Vl} (h : stk H T ro k v) : isL_ v := by
  cases k with
  | nil => exact Or.inl h
  | cons x k =>
    obtain ⟨a, e, -⟩ := h
    exact Or.inr ⟨a, e⟩
theorem isL_isE {ro : Nat → Bool} {v : Vl} (h : isE ro v) : isL_ v := by
  rcases h with h | ⟨a, e, -⟩
  · exact Or.inl h
  · exact Or.inr ⟨a, e⟩
theorem isL_env {T : Nat → Vl} {ro : Nat → Bool} {n : Nat} {v : Vl} (h : env T ro n v) : isL_ v := isL_isE (env_0 h)
theorem isL_wtx {H T : Nat → Vl} {ro : Nat → Bool} {k : Sk} {n : Nat} {b : Bool} {e : En} {v : Vl} (h : wtx H T ro v k n b e) : isL_ v := by
  obtain ⟨f, h⟩ := h
  cases f with
  | zero => exact absurd h id
  | succ f =>
    obtain ⟨c, i, q, -⟩ := h
    exact Or.inr ⟨c, q⟩
theorem isL_dmx {H T : Nat → Vl} {ro : Nat → Bool} {e : En} {v : Vl} (h : dmx H T ro v e) : isL_ v := by
  obtain ⟨f, h⟩ := h
  cases f with
  | zero => exact Or.inl h.2
  | succ f =>
    rcases h with ⟨-, a, b, c, k, n, e', q, -⟩ | ⟨k, n, a, e', -, q, -⟩ <;> exact Or.inr ⟨a, q⟩
end
section
def kp (r r' : rM) : Prop := (r'.z = r.z ∧ r'.typed = r.typed ∧ r'.text = r.text ∧ r'.error = r.error ∧ r'.program = r.program) ∧ (r'.collections = r.collections ∧ r'.takenBack = r.takenBack ∧ r'.steps = r.steps ∧ r'.shown = r.shown ∧ r'.show_ = r.show_)
def sm (r r' : rM) : Prop := kp r r' ∧ r'.state = r.state ∧ (r'.used = r.used ∧ r'.function = r.function) ∧ (r'.headKind = r.headKind ∧ r'.head = r.head) ∧ (r'.tailKind = r.tailKind ∧ r'.tail = r.tail)
def RX (r : rM) (H T : Nat → Vl) (S E C D R : Vl) : Prop := RB r H T ∧ rg r S (r.reg 0) ∧ rg r E (r.reg 1) ∧ rg r C (r.reg 2) ∧ rg r D (r.reg 3) ∧ rg r R (r.reg 4)
def sR (r : rM) (f : Nat → Int32) : rM := (r.s_reg f)
def gR (r : rM) (a b : Int32) : rM := ((r.s_gotKind a).s_got b)
def stR (r : rM) (x : Int32) : rM := (r.s_state x)
def mkd (r r' : rM) (H T : Nat → Vl) (k : Nat) (h t : Vl) : Prop := (¬ Ur r k ∧ k < 250) ∧ (kp r r' ∧ r'.state = r.state ∧ upR r r') ∧ RB r' (upW H k h) (upW T k t) ∧ Ur r' = addU (Ur r) k ∧ fz r' + 1 = fz r ∧ rg r' (vPr k) (nI k)
section RI0
variable {r r' r2 : rM} {H T : Nat → Vl} {v : Vl} {x kd : Int32}
theorem kp_tr (h1 : kp r r') (h2 : kp r' r2) : kp r r2 := by
  obtain ⟨⟨a1, a2, a3, a4, a5⟩, a6, a7, a8, a9, a10⟩ := h1
  obtain ⟨⟨b1, b2, b3, b4, b5⟩, b6, b7, b8, b9, b10⟩ := h2
  exact ⟨⟨b1.trans a1, b2.trans a2, b3.trans a3, b4.trans a4, b5.trans a5⟩, b6.trans a6, b7.trans a7, b8.trans a8, b9.trans a9, b10.trans a10⟩
theorem sm_tr (h1 : sm r r') (h2 : sm r' r2) : sm r r2 := by
  obtain ⟨a1, a2, ⟨a3, a4⟩, ⟨a5, a6⟩, a7, a8⟩ := h1
  obtain ⟨b1, b2, ⟨b3, b4⟩, ⟨b5, b6⟩, b7, b8⟩ := h2
  exact ⟨kp_tr a1 b1, b2.trans a2, ⟨b3.trans a3, b4.trans a4⟩, ⟨b5.trans a5, b6.trans a6⟩, b7.trans a7, b8.trans a8⟩
theorem kp_sR {f : Nat → Int32} : kp r (sR r f) := ⟨⟨rfl, rfl, rfl, rfl, rfl⟩, rfl, rfl, rfl, rfl, rfl⟩
theorem sm_sR {f : Nat → Int32} : sm r (sR r f) := ⟨kp_sR, rfl, ⟨rfl, rfl⟩, ⟨rfl, rfl⟩, rfl, rfl⟩
theorem sm_gR {a b : Int32} : sm r (gR r a b) := ⟨⟨⟨rfl, rfl, rfl, rfl, rfl⟩, rfl, rfl, rfl, rfl, rfl⟩, rfl, ⟨rfl, rfl⟩, ⟨rfl, rfl⟩, rfl, rfl⟩
theorem sm_z (h : sm r r') : r'.z = r.z := h.1.1.1
theorem sm_Ur (h : sm r r') : Ur r' = Ur r := by
  unfold Ur
  rw [sm_z h, h.2.2.1.1]
theorem sm_fz (h : sm r r') : fz r' = fz r := by
  unfold fz
  rw [sm_z h, h.2.2.1.1]
theorem sm_up (h : sm r r') : upR r r' := ⟨sm_z h, fun a ha => ⟨by rw [sm_Ur h]; exact ha, by rw [h.2.2.1.2]⟩⟩
theorem sm_rs (h : sm r r') (k : Nat) : rsN r' k = rsN r k := by
  unfold rsN
  rw [h.2.2.2.2.1, h.2.2.2.2.2]
theorem sm_hl (h : sm r r') (k : Nat) : hlN r' k = hlN r k := by
  unfold hlN
  rw [h.2.2.2.1.1, h.2.2.2.1.2]
theorem sm_rv (h : sm r r') (q : rv r v kd x) : rv r' v kd x := rv_up (sm_up h) q
theorem sm_rg (h : sm r r') (q : rg r v x) : rg r' v x := rg_up (sm_up h) q
theorem sm_RB (h : sm r r') (q : RB r H T) : RB r' H T := by
  obtain ⟨q1, q2, q3⟩ := q
  refine ⟨by rw [sm_z h]; exact q1, fun a ha => ?_, fun a ha => ?_⟩
  · rw [sm_Ur h] at ha
    rw [h.2.2.2.1.1, h.2.2.2.1.2, h.2.2.2.2.1, h.2.2.2.2.2]
    exact ⟨sm_rv h (q2 a ha).1, sm_rv h (q2 a ha).2⟩
  · rw [h.2.2.2.1.1, h.2.2.2.1.2, h.2.2.2.2.1, h.2.2.2.2.2, sm_z h]
    exact q3 a ha
theorem up_tr (h1 : upR r r') (h2 : upR r' r2) : upR r r2 := ⟨h2.1.trans h1.1, fun a ha => ⟨(h2.2 a (h1.2 a ha).1).1, (h2.2 a (h1.2 a ha).1).2.trans (h1.2 a ha).2⟩⟩
end RI0
section RI
variable {cst : Nat → Option (Nat × (Nat → Int32))} {m b0 b1 : Nat} {op : Bool} {tl : List mj_O} {Q : mj_R → Prop} {s : cS} {r : rM} {H T : Nat → Vl} {S E C D R : Vl}
set_option maxRecDepth 10000
theorem i51 : vp_in 1 5 := vp_in_nI (show 1 < 5 by decide) (by decide)
theorem i52 : vp_in 2 5 := vp_in_nI (show 2 < 5 by decide) (by decide)
theorem i53 : vp_in 3 5 := vp_in_nI (show 3 < 5 by decide) (by decide)
theorem Ur_lt (hB : RB r H T) {a : Nat} (u : Ur r a) : a < 250 := Nat.lt_of_lt_of_le u.1 hB.1.2
theorem R_rest {k : Nat} {x : Int32} (hx : x = nI k) (hk : k < 250) (hQ : Q (.inl (some (.int (rsN r k))), (cW s (rW r tl), b0, b1, op))) : mj_Mt gT cst gnw (m + 1) y_R_rest [.ref 27, .int x] (cW s (rW r tl), b0, b1, op) Q := by
  subst hx
  exact r_rest hk hQ
theorem R_headList {k : Nat} {x : Int32} (hx : x = nI k) (hk : k < 250) (hQ : Q (.inl (some (.int (hlN r k))), (cW s (rW r tl), b0, b1, op))) : mj_Mt gT cst gnw (m + 1) y_R_headList [.ref 27, .int x] (cW s (rW r tl), b0, b1, op) Q := by
  subst hx
  exact r_headList hk hQ
theorem R_peek0 {k : Nat} (hk : k < 250) (h0 : r.reg 0 = nI k) (hQ : ∀ r', sm r r' → r'.reg = r.reg → r'.gotKind = r.headKind k → r'.got = r.head k → Q (.inl none, (cW s (rW r' tl), b0, b1, op))) : mj_Mt gT cst gnw (m + 2) y_R_peek [.ref 27, .int 0] (cW s (rW r tl), b0, b1, op) Q := r_peek0 hk h0 (hQ (gR r (r.headKind k) (r.head k)) sm_gR rfl rfl rfl)
theorem R_peek1 {k j : Nat} (hk : k < 250) (hj : j < 250) (h0 : r.reg 0 = nI j) (h1 : rsN r j = nI k) (hQ : ∀ r', sm r r' → r'.reg = r.reg → r'.gotKind = r.headKind k → r'.got = r.head k → Q (.inl none, (cW s (rW r' tl), b0, b1, op))) : mj_Mt gT cst gnw (m + 2) y_R_peek [.ref 27, .int 1] (cW s (rW r tl), b0, b1, op) Q := r_peek1 hk hj h0 h1 (hQ (gR r (r.headKind k) (r.head k)) sm_gR rfl rfl rfl)
theorem R_drop {j : Nat} (hj : j < 250) (h0 : r.reg 0 = nI j) (hQ : ∀ r', sm r r' → r'.reg = upd r.reg 0 (rsN r j) → r'.gotKind = r.gotKind → r'.got = r.got → Q (.inl none, (cW s (rW r' tl), b0, b1, op))) : mj_Mt gT cst gnw (m + 2) y_R_drop [.ref 27] (cW s (rW r tl), b0, b1, op) Q := r_drop hj h0 (hQ (sR r (upd r.reg 0 (rsN r j))) sm_sR rfl rfl rfl)
theorem R_stop {x : Int32} (hQ : ∀ r', kp r r' → r'.state = x → upR r r' → Ur r' = Ur r → r'.reg = r.reg → (∀ H T, RB r H T → RB r' H T) → Q (.inl none, (cW s (rW r' tl), b0, b1, op))) : mj_Mt gT cst gnw (m + 1) y_R_stop [.ref 27, .int x] (cW s (rW r tl), b0, b1, op) Q := r_stop (hQ (stR r x) ⟨⟨rfl, rfl, rfl, rfl, rfl⟩, rfl, rfl, rfl, rfl, rfl⟩ rfl ⟨rfl, fun a ha => ⟨ha, rfl⟩⟩ rfl rfl (fun H T h => h))
theorem mkd_of {h t : Vl} {a b c : Int32} {k : Nat} (hB : RB r H T) (hf : 1 ≤ fz r) (hh : rv r h a b) (ht : rg r t c) (hk : k = ffN r.used (r.z - 1) 0) : mkd r (mkR r k a b c) H T k h t := by
  obtain ⟨m1, m2, m3, m4, m5, m6, m7⟩ := mk_ok hB hf hk hh ht
  exact ⟨⟨m1, Nat.lt_of_lt_of_le m2 hB.1.2⟩, ⟨⟨⟨rfl, rfl, rfl, rfl, rfl⟩, rfl, rfl, rfl, rfl, rfl⟩, rfl, m3⟩, m4, m6, m7, m5⟩
theorem R_make {h t : Vl} {a b c : Int32} (hB : RB r H T) (hf : 1 ≤ fz r) (hh : rv r h a b) (ht : rg r t c) (hQ : ∀ k r', mkd r r' H T k h t → r'.reg = r.reg → Q (.inl (some (.int (nI k))), (cW s (rW r' tl), b0, b1, op))) : mj_Mt gT cst gnw (m + 1) y_R_make [.ref 27, .int a, .int b, .int c] (cW s (rW r tl), b0, b1, op) Q := r_make hB.1.2 hB.1.1 (fun k hk => hQ k (mkR r k a b c) (mkd_of hB hf hh ht hk) rfl)
theorem R_makeOf {h t : Vl} {b c : Int32} (hB : RB r H T) (hf : 1 ≤ fz r) (hh : rg r h b) (ht : rg r t c) (hQ : ∀ k r', mkd r r' H T k h t → r'.reg = r.reg → r'.got = r.got → Q (.inl (some (.int (nI k))), (cW s (rW r' tl), b0, b1, op))) : mj_Mt gT cst gnw (m + 2) y_R_makeOf [.ref 27, .int b, .int c] (cW s (rW r tl), b0, b1, op) Q := r_makeOf hB.1.2 hB.1.1 (fun k hk => hQ k (mkR r k _ _ c) (mkd_of hB hf (rg_rv hh hB.1.2) ht hk) rfl rfl)
theorem mkd_sR {r' : rM} {h t : Vl} {k : Nat} {f : Nat → Int32} (hm : mkd r r' H T k h t) : mkd r (sR r' f) H T k h t := by
  obtain ⟨h1, ⟨h2, h3, h4⟩, h5, h6, h7, h8⟩ := hm
  exact ⟨h1, ⟨kp_tr h2 kp_sR, h3, h4⟩, sm_RB sm_sR h5, h6, h7, sm_rg sm_sR h8⟩
theorem R_push {h : Vl} {a b : Int32} (hB : RB r H T) (hf : 1 ≤ fz r) (hh : rv r h a b) (ht : rg r S (r.reg 0)) (hQ : ∀ k r', mkd r r' H T k h S → r'.reg = upd r.reg 0 (nI k) → Q (.inl none, (cW s (rW r' tl), b0, b1, op))) : mj_Mt gT cst gnw (m + 2) y_R_push [.ref 27, .int a, .int b] (cW s (rW r tl), b0, b1, op) Q := r_push hB.1.2 hB.1.1 (fun k hk => hQ k (sR (mkR r k a b (r.reg 0)) (upd r.reg 0 (nI k))) (mkd_sR (mkd_of hB hf hh ht hk)) rfl)
theorem RX_up {r' : rM} {H' T' : Nat → Vl} (hB : RB r' H' T') (hu : upR r r') {x0 x1 x2 x3 x4 : Int32} (h0 : rg r' S x0) (h1 : rg r E x1) (h2 : rg r C x2) (h3 : rg r D x3) (h4 : rg r R x4) (e0 : r'.reg 0 = x0) (e1 : r'.reg 1 = x1) (e2 : r'.reg 2 = x2) (e3 : r'.reg 3 = x3) (e4 : r'.reg 4 = x4) : RX r' H' T' S E C D R := by
  subst e0 e1 e2 e3 e4
  exact ⟨hB, h0, rg_up hu h1, rg_up hu h2, rg_up hu h3, rg_up hu h4⟩
theorem R_comeBack {a d1 d2 d3 : Nat} (hB : RB r H T) (hf : 1 ≤ fz r) (h0 : r.reg 0 = nI a) (ua : Ur r a) (h3 : r.reg 3 = nI d1) (u1 : Ur r d1) (e1 : T d1 = vPr d2) (u2 : Ur r d2) (e2 : T d2 = vPr d3) (u3 : Ur r d3) (l1 : isL_ (H d1)) (l2 : isL_ (H d2)) (l3 : isL_ (H d3)) (l4 : isL_ (T d3)) (h4 : rg r R (r.reg 4))
    (hQ : ∀ k r', ¬ Ur r k → kp r r' → r'.state = r.state → RX r' (upW H k (H a)) (upW T k (H d1)) (vPr k) (H d2) (H d3) (T d3) R → Ur r' = addU (Ur r) k → Q (.inl none, (cW s (rW r' tl), b0, b1, op))) : mj_Mt gT cst gnw (m + 3) y_R_comeBack [.ref 27] (cW s (rW r tl), b0, b1, op) Q := by
  intro J hJ
  refine hJ _ _ _ _ ?_
  refine R_peek0 (Ur_lt hB ua) h0 (fun r1 s1 g1 g2 g3 => ?_)
  have hB1 := sm_RB s1 hB
  have h31 : r1.reg 3 = nI d1 := by rw [g1]; exact h3
  have v1 : ∀ {a}, Ur r a → Ur r1 a := fun h => by rw [sm_Ur s1]; exact h
  refine And.intro i53 ?_
  refine R_headList h31 (Ur_lt hB u1) ?_
  refine And.intro (in0 (by decide)) ?_
  change mj_sg _ _ _ _ _ _ _ _ _ _ _ _ (cW s (rW (sR r1 (upd r1.reg 0 (hlN r1 d1))) tl), b0, b1, op)
  refine R_rest h31 (Ur_lt hB u1) ?_
  refine R_headList (rs_pr hB1 (v1 u1) e1) (Ur_lt hB u2) ?_
  refine And.intro i51 ?_
  change mj_sg _ _ _ _ _ _ _ _ _ _ _ _ (cW s (rW (sR r1 (upd (upd r1.reg 0 (hlN r1 d1)) 1 (hlN r1 d2))) tl), b0, b1, op)
  refine R_rest (rs_pr hB1 (v1 u1) e1) (Ur_lt hB u2) ?_
  refine R_headList (rs_pr hB1 (v1 u2) e2) (Ur_lt hB u3) ?_
  refine And.intro i52 ?_
  change mj_sg _ _ _ _ _ _ _ _ _ _ _ _ (cW s (rW (sR r1 (upd (upd (upd r1.reg 0 (hlN r1 d1)) 1 (hlN r1 d2)) 2 (hlN r1 d3))) tl), b0, b1, op)
  refine R_rest (rs_pr hB1 (v1 u2) e2) (Ur_lt hB u3) ?_
  refine And.intro i53 ?_
  obtain ⟨r2, hr2⟩ : ∃ r2, r2 = sR r1 (upd (upd (upd (upd r1.reg 0 (hlN r1 d1)) 1 (hlN r1 d2)) 2 (hlN r1 d3)) 3 (rsN r1 d3)) := ⟨_, rfl⟩
  change mj_sg _ _ _ _ _ _ _ _ _ _ _ _ (cW s (rW (sR r1 (upd (upd (upd (upd r1.reg 0 (hlN r1 d1)) 1 (hlN r1 d2)) 2 (hlN r1 d3)) 3 (rsN r1 d3))) tl), b0, b1, op)
  rw [← hr2]
  have s2 : sm r1 r2 := by rw [hr2]; exact sm_sR
  have q1 : r2.gotKind = r.headKind a := by rw [hr2]; exact g2
  have q2 : r2.got = r.head a := by rw [hr2]; exact g3
  have q3 : r2.reg = upd (upd (upd (upd r1.reg 0 (hlN r1 d1)) 1 (hlN r1 d2)) 2 (hlN r1 d3)) 3 (rsN r1 d3) := by rw [hr2]; rfl
  have s3 := sm_tr s1 s2
  have k1 := hl_rg hB1 (v1 u1) l1
  have k2 := hl_rg hB1 (v1 u2) l2
  have k3 := hl_rg hB1 (v1 u3) l3
  have k4 := rs_rg hB1 (v1 u3) l4
  clear hr2
  refine R_push (S := H d1) (h := H a) (sm_RB s3 hB) (by rw [sm_fz s3]; exact hf) (by rw [q1, q2]; exact sm_rv s3 (hB.2.1 a ua).1) (by rw [q3]; exact sm_rg s2 k1) (fun k r3 hm g4 => ?_)
  obtain ⟨⟨m1, -⟩, ⟨m2, m3, m4⟩, m5, m6, m7, m8⟩ := hm
  rw [sm_Ur s3] at m1 m6
  rw [q3] at g4
  refine hQ k r3 m1 (kp_tr s3.1 m2) (m3.trans s3.2.1) ?_ m6
  exact RX_up (r := r1) (x0 := nI k) (x1 := hlN r1 d2) (x2 := hlN r1 d3) (x3 := rsN r1 d3) (x4 := r1.reg 4) m5 (up_tr (sm_up s2) m4) m8 k2 k3 k4 (by rw [g1]; exact sm_rg s1 h4) (by rw [g4]; rfl) (by rw [g4]; rfl) (by rw [g4]; rfl) (by rw [g4]; rfl) (by rw [g4]; rfl)
end RI
end
section
theorem beh_step {T : Nat → Vl} {k : Nat} {v : Vl} : ∀ {a : Nat}, behV T k v = vPr a → behV T (k + 1) v = T a := by
  induction k generalizing v with
  | zero =>
    intro a h
    have h : v = vPr a := h
    subst h
    rfl
  | succ k ih =>
    intro a h
    rcases v with u | x | x | i | i
    · cases h
    · cases h
    · cases h
    · exact ih (v := T i) h
    · cases h
theorem beh_nil {T : Nat → Vl} {v : Vl} : ∀ (k j : Nat), behV T k v = vNil → k ≤ j → behV T j v = vNil := by
  intro k
  induction k generalizing v with
  | zero =>
    intro j h _
    have h : v = vNil := h
    subst h
    exact behV_stop (by decide) j
  | succ k ih =>
    intro j h hj
    obtain ⟨j, rfl⟩ : ∃ i, j = i + 1 := ⟨j - 1, by omega⟩
    rcases v with u | x | x | i | i
    · rfl
    · cases h
    · cases h
    · exact ih (v := T i) j h (by omega)
    · cases h
section RL
variable {cst : Nat → Option (Nat × (Nat → Int32))} {m b0 b1 : Nat} {op : Bool} {tl : List mj_O} {Q : mj_R → Prop} {s : cS} {r : rM} {H T : Nat → Vl} {S E C D R C' : Vl} {ro : Nat → Bool}
set_option maxRecDepth 10000
theorem R_look {p : Nat} {y : Int32} (hp : p < 10000) (hX : RX r H T S E C D R) (hf : 1 ≤ fz r) (hE : isE ro E) (hro : ∀ a, Ur r a → ro a = true → isE ro (T a) ∧ lst T (H a)) (hC : rg r C' y)
    (h1 : ∀ r', kp r r' → r'.state = 3 → RX r' H T S E C D R → Ur r' = Ur r → (¬ kV (behV T (p / 16) E) = 3 ∨ ¬ kV (behV T (p % 16) (ofV H (behV T (p / 16) E))) = 3) → Q (.inl none, (cW s (rW r' tl), b0, b1, op)))
    (h2 : ∀ k r', ¬ Ur r k → kp r r' → r'.state = r.state → kV (behV T (p / 16) E) = 3 → kV (behV T (p % 16) (ofV H (behV T (p / 16) E))) = 3 → RX r' (upW H k (ofV H (behV T (p % 16) (ofV H (behV T (p / 16) E))))) (upW T k S) (vPr k) E C' D R → Ur r' = addU (Ur r) k → Q (.inl none, (cW s (rW r' tl), b0, b1, op))) :
    mj_Mt gT cst gnw (m + 3) y_R_look [.ref 27, .int (nI p), .int y] (cW s (rW r tl), b0, b1, op) Q := by
  obtain ⟨hB, x0, x1, x2, x3, x4⟩ := hX
  have hz := hB.1.2
  have d1 := (nI_16 (n := p) (by omega)).1
  have d2 := (nI_16 (n := p) (by omega)).2
  have wrong : ∀ r', kp r r' → r'.state = 3 → upR r r' → Ur r' = Ur r → r'.reg = r.reg → (∀ H T, RB r H T → RB r' H T) → RX r' H T S E C D R := by
    intro r' _ _ c3 c4 c5 c6
    exact ⟨c6 H T hB, by rw [c5]; exact rg_up c3 x0, by rw [c5]; exact rg_up c3 x1, by rw [c5]; exact rg_up c3 x2, by rw [c5]; exact rg_up c3 x3, by rw [c5]; exact rg_up c3 x4⟩
  intro J hJ
  have fin : ∀ (x e4 e5 : Int32) (V : Vl), isL_ V → rg r V e4 → (V = vNil → ¬ kV (behV T (p / 16) E) = 3 ∨ ¬ kV (behV T (p % 16) (ofV H (behV T (p / 16) E))) = 3) → (∀ a, V = vPr a → kV (behV T (p / 16) E) = 3 ∧ behV T (p % 16) (ofV H (behV T (p / 16) E)) = vPr a) → ∀ F : Nat, mj_sg (mj_Mt gT cst gnw (m + 2)) cst gnw (mj_hd (mj_off kO_R_look) kH_R_look) kC_R_look J Q (F + 60) false 43 [some (.ref 27), some (.int (nI p)), some (.int y), some (.int x), some (.int e4), some (.int e5)] [] (cW s (rW r tl), b0, b1, op) := by
    intro x e4 e5 V hL hV hn hs F
    rcases rg_neg hV hz with ⟨q1, q2, q3⟩ | ⟨a, q1, q2, q3, q4, q5, q6⟩
    · refine And.intro (fun (g : 0 ≤ e4) => absurd q2 (Int32.not_lt.mpr g)) (fun _ => ?_)
      refine R_stop (fun r' c1 c2 c3 c4 c5 c6 => ?_)
      exact h1 r' c1 c2 (wrong r' c1 c2 c3 c4 c5 c6) c4 (hn q1)
    · obtain ⟨s1, s2⟩ := hs a q1
      subst q2
      have ek : (nI a).toNatClampNeg = a := nI_clamp (by omega)
      refine And.intro (fun _ => ?_) (fun (g : ¬ 0 ≤ nI a) => absurd (Int32.not_lt.mp q3) g)
      refine And.intro (vp_in_nI q6 (by decide)) ?_
      rw [ek]
      refine And.intro (vp_in_nI q6 (by decide)) ?_
      rw [ek]
      refine R_push (S := S) (h := H a) hB hf (hB.2.1 a q4).1 x0 (fun k r3 hm g4 => ?_)
      obtain ⟨⟨m1, -⟩, ⟨m2, m3, m4⟩, m5, m6, m7, m8⟩ := hm
      refine And.intro i52 ?_
      have e9 : ofV H (behV T (p % 16) (ofV H (behV T (p / 16) E))) = H a := by rw [s2]; rfl
      have h9 := h2 k (sR r3 (upd r3.reg 2 y)) m1 (kp_tr m2 kp_sR) m3 s1 (by rw [s2]; rfl)
      rw [e9] at h9
      refine h9 ?_ (by rw [← m6]; exact sm_Ur sm_sR)
      exact RX_up (r := r) (x0 := nI k) (x1 := r.reg 1) (x2 := y) (x3 := r.reg 3) (x4 := r.reg 4) (sm_RB sm_sR m5) (up_tr m4 (sm_up sm_sR)) (sm_rg sm_sR m8) x1 hC x3 x4 (by show upd r3.reg 2 y 0 = nI k; rw [g4]; rfl) (by show upd r3.reg 2 y 1 = _; rw [g4]; rfl) rfl (by show upd r3.reg 2 y 3 = _; rw [g4]; rfl) (by show upd r3.reg 2 y 4 = _; rw [g4]; rfl)
  have loop2 : ∀ (j k : Nat) (x e4 : Int32) (V : Vl), j + k = p % 16 → ((kV (behV T (p / 16) E) = 3 ∧ V = behV T k (ofV H (behV T (p / 16) E)) ∧ lst T V) ∨ (¬ kV (behV T (p / 16) E) = 3 ∧ V = vNil)) → rg r V e4 → J 30 [some (.ref 27), some (.int (nI p)), some (.int y), some (.int x), some (.int e4), some (.int (nI k))] [] (cW s (rW r tl), b0, b1, op) := by
    intro j
    induction j with
    | zero =>
      intro k x e4 V hk hV hg
      refine hJ _ _ _ _ ?_
      refine And.intro (by decide) ?_
      rw [d2]
      refine And.intro (fun _ => ?_) (fun (g : ¬ nI (p % 16) ≤ nI k) => absurd (nI_le (by omega) (by omega)) g)
      refine fin x e4 _ V ?_ hg ?_ ?_ _
      · rcases hg with ⟨q, -⟩ | ⟨a, q, -⟩
        · exact Or.inl q
        · exact Or.inr ⟨a, q⟩
      · intro e
        rcases hV with ⟨c1, c2, -⟩ | ⟨c1, -⟩
        · refine Or.inr ?_
          rw [show p % 16 = k by omega, ← c2, e]
          decide
        · exact Or.inl c1
      · intro a e
        rcases hV with ⟨c1, c2, -⟩ | ⟨c1, c2⟩
        · refine ⟨c1, ?_⟩
          rw [show p % 16 = k by omega, ← c2, e]
        · rw [c2] at e
          cases e
    | succ j ih =>
      intro k x e4 V hk hV hg
      refine hJ _ _ _ _ ?_
      refine And.intro (by decide) ?_
      rw [d2]
      refine And.intro (fun (g : nI (p % 16) ≤ nI k) => absurd g (nI_ge (by omega) (by omega))) (fun _ => ?_)
      rcases rg_neg hg hz with ⟨q1, q2, q3⟩ | ⟨a, q1, q2, q3, q4, q5, q6⟩
      · refine And.intro (fun _ => ?_) (fun (g : ¬ e4 < 0) => absurd q2 g)
        refine fin x e4 _ V (Or.inl q1) hg (fun _ => ?_) (fun a e => ?_) _
        · rcases hV with ⟨c1, c2, -⟩ | ⟨c1, -⟩
          · refine Or.inr ?_
            rw [beh_nil k (p % 16) (c2.symm.trans q1) (by omega)]
            decide
          · exact Or.inl c1
        · rw [q1] at e
          cases e
      · refine And.intro (fun (g : e4 < 0) => absurd g q3) (fun _ => ?_)
        refine R_rest q2 q6 ?_
        rcases hV with ⟨c1, c2, c3⟩ | ⟨c1, c2⟩
        · have l1 : lst T (T a) := by
            obtain ⟨mm, c3⟩ := c3
            rw [q1] at c3
            cases mm with
            | zero => cases c3
            | succ mm =>
              obtain ⟨a', c4, c5⟩ := c3
              cases c4
              exact ⟨mm, c5⟩
          have l2 : isL_ (T a) := by
            obtain ⟨mm, l1⟩ := l1
            cases mm with
            | zero => exact Or.inl l1
            | succ mm =>
              obtain ⟨a', c4, c5⟩ := l1
              exact Or.inr ⟨a', c4⟩
          have key : ∀ z : Int32, z = nI (k + 1) → J 30 [some (.ref 27), some (.int (nI p)), some (.int y), some (.int x), some (.int (rsN r a)), some (.int z)] [] (cW s (rW r tl), b0, b1, op) := by
            rintro z rfl
            exact ih (k + 1) x (rsN r a) (T a) (by omega) (Or.inl ⟨c1, (beh_step (c2.symm.trans q1)).symm, l1⟩) (rs_rg hB q4 l2)
          exact key _ (nI_succ k).symm
        · rw [q1] at c2
          cases c2
  have mid : ∀ (e3 : Int32) (e4 : Option Value) (V : Vl), V = behV T (p / 16) E → isE ro V → rg r V e3 → (∃ k, e4 = some (.int k)) → ∀ F : Nat, mj_sg (mj_Mt gT cst gnw (m + 2)) cst gnw (mj_hd (mj_off kO_R_look) kH_R_look) kC_R_look J Q (F + 60) false 20 [some (.ref 27), some (.int (nI p)), some (.int y), some (.int e3), e4, none] [] (cW s (rW r tl), b0, b1, op) := by
    rintro e3 e4 V hV hE hg ⟨k, rfl⟩ F
    rcases rg_neg hg hz with ⟨q1, q2, q3⟩ | ⟨a, q1, q2, q3, q4, q5, q6⟩
    · refine And.intro (fun (g : 0 ≤ e3) => absurd q2 (Int32.not_lt.mpr g)) (fun _ => ?_)
      exact loop2 (p % 16) 0 e3 (-1) vNil (by omega) (Or.inr ⟨by rw [← hV, q1]; decide, rfl⟩) (Or.inl ⟨rfl, rfl⟩)
    · refine And.intro (fun _ => ?_) (fun (g : ¬ 0 ≤ e3) => absurd (Int32.not_lt.mp q3) g)
      refine R_headList q2 q6 ?_
      have hra : ro a = true := by
        rcases hE with h | ⟨b, h, hb⟩
        · rw [q1] at h
          cases h
        · rw [q1] at h
          cases h
          exact hb
      have l1 := (hro a q4 hra).2
      have l2 : isL_ (H a) := by
        obtain ⟨mm, l1⟩ := l1
        cases mm with
        | zero => exact Or.inl l1
        | succ mm =>
          obtain ⟨a', c4, c5⟩ := l1
          exact Or.inr ⟨a', c4⟩
      exact loop2 (p % 16) 0 e3 (hlN r a) (H a) (by omega) (Or.inl ⟨by rw [← hV, q1]; rfl, by rw [← hV, q1]; rfl, l1⟩) (hl_rg hB q4 l2)
  have loop1 : ∀ (j k : Nat) (e3 : Int32) (V : Vl), j + k = p / 16 → V = behV T k E → isE ro V → rg r V e3 → J 7 [some (.ref 27), some (.int (nI p)), some (.int y), some (.int e3), some (.int (nI k)), none] [] (cW s (rW r tl), b0, b1, op) := by
    intro j
    induction j with
    | zero =>
      intro k e3 V hk hV hE hg
      refine hJ _ _ _ _ ?_
      refine And.intro (by decide) ?_
      rw [d1]
      refine And.intro (fun _ => ?_) (fun (g : ¬ nI (p / 16) ≤ nI k) => absurd (nI_le (by omega) (by omega)) g)
      exact mid e3 _ V (by rw [hV, show k = p / 16 by omega]) hE hg ⟨_, rfl⟩ _
    | succ j ih =>
      intro k e3 V hk hV hE hg
      refine hJ _ _ _ _ ?_
      refine And.intro (by decide) ?_
      rw [d1]
      refine And.intro (fun (g : nI (p / 16) ≤ nI k) => absurd g (nI_ge (by omega) (by omega))) (fun _ => ?_)
      rcases rg_neg hg hz with ⟨q1, q2, q3⟩ | ⟨a, q1, q2, q3, q4, q5, q6⟩
      · refine And.intro (fun _ => ?_) (fun (g : ¬ e3 < 0) => absurd q2 g)
        exact mid e3 _ V (by rw [q1, beh_nil k (p / 16) (hV.symm.trans q1) (by omega)]) hE hg ⟨_, rfl⟩ _
      · refine And.intro (fun (g : e3 < 0) => absurd g q3) (fun _ => ?_)
        refine R_rest q2 q6 ?_
        have hra : ro a = true := by
          rcases hE with h | ⟨b, h, hb⟩
          · rw [q1] at h
            cases h
          · rw [q1] at h
            cases h
            exact hb
        have l1 := (hro a q4 hra).1
        have key : ∀ z : Int32, z = nI (k + 1) → J 7 [some (.ref 27), some (.int (nI p)), some (.int y), some (.int (rsN r a)), some (.int z), none] [] (cW s (rW r tl), b0, b1, op) := by
          rintro z rfl
          exact ih (k + 1) (rsN r a) (T a) (by omega) (beh_step (hV.symm.trans q1)).symm l1 (rs_rg hB q4 (isL_isE l1))
        exact key _ (nI_succ k).symm
  refine hJ _ _ _ _ ?_
  refine And.intro i51 ?_
  exact loop1 (p / 16) 0 (r.reg 1) E (by omega) rfl hE x1
end RL
end
section
section RC
variable {cst : Nat → Option (Nat × (Nat → Int32))} {m b0 b1 : Nat} {op : Bool} {tl : List mj_O} {Q : mj_R → Prop} {s : cS} {r : rM} {H T : Nat → Vl} {S E C D R C' : Vl}
set_option maxRecDepth 10000
theorem rv_int {v : Vl} {kd x : Int32} (h : rv r v kd x) : kd = 1 ↔ kV v = 1 := by
  rcases v with u | y | y | i | i
  · rw [h.1]
    exact ⟨fun q => absurd q (by decide), fun q => absurd q (show ¬ 0 = 1 by decide)⟩
  · rw [h.1]
    exact ⟨fun _ => rfl, fun _ => rfl⟩
  · rw [h.1]
    exact ⟨fun q => absurd q (by decide), fun q => absurd q (show ¬ 2 = 1 by decide)⟩
  · rw [h.1]
    exact ⟨fun q => absurd q (by decide), fun q => absurd q (show ¬ 3 = 1 by decide)⟩
  · rw [h.1]
    exact ⟨fun q => absurd q (by decide), fun q => absurd q (show ¬ 4 = 1 by decide)⟩
theorem rv_int2 {v : Vl} {kd x : Int32} (h : rv r v kd x) (e : kV v = 1) : v = vInt x := by
  rcases v with u | y | y | i | i
  · cases e
  · rw [h.2]
  · cases e
  · cases e
  · cases e
theorem rv_pair {v : Vl} {kd x : Int32} (h : rv r v kd x) : (kV v = 3 ∧ ∃ k, v = vPr k ∧ kd = 3 ∧ x = nI k ∧ Ur r k ∧ r.function k = 0) ∨ (¬ kV v = 3 ∧ (¬ kd = 3 ∨ ∃ k, kd = 3 ∧ x = nI k ∧ Ur r k ∧ ¬ r.function k = 0)) := by
  rcases v with u | y | y | i | i
  · exact Or.inr ⟨by show ¬ 0 = 3; decide, Or.inl (by rw [h.1]; decide)⟩
  · exact Or.inr ⟨by show ¬ 1 = 3; decide, Or.inl (by rw [h.1]; decide)⟩
  · exact Or.inr ⟨by show ¬ 2 = 3; decide, Or.inl (by rw [h.1]; decide)⟩
  · exact Or.inl ⟨rfl, i, rfl, h⟩
  · exact Or.inr ⟨by show ¬ 4 = 3; decide, Or.inr ⟨i, h⟩⟩
theorem R_wrong {r1 r' : rM} (hX : RX r H T S E C D R) (s1 : sm r r1) (g1 : r1.reg = r.reg) (c1 : kp r1 r') (c2 : r'.state = 3) (c3 : upR r1 r') (c4 : Ur r' = Ur r1) (c5 : r'.reg = r1.reg) (c6 : ∀ H T, RB r1 H T → RB r' H T) : kp r r' ∧ r'.state = 3 ∧ RX r' H T S E C D R ∧ Ur r' = Ur r := by
  obtain ⟨hB, x0, x1, x2, x3, x4⟩ := hX
  have hu := up_tr (sm_up s1) c3
  have e := c5.trans g1
  refine ⟨kp_tr s1.1 c1, c2, ⟨c6 H T (sm_RB s1 hB), by rw [e]; exact rg_up hu x0, by rw [e]; exact rg_up hu x1, by rw [e]; exact rg_up hu x2, by rw [e]; exact rg_up hu x3, by rw [e]; exact rg_up hu x4⟩, c4.trans (sm_Ur s1)⟩
theorem R_choose {a d q : Nat} {y : Int32} (hX : RX r H T (vPr a) E C D R) (hf : 1 ≤ fz r) (lT : isL_ (T a)) (ey : y = nI d) (ud : Ur r d) (e1 : T d = vPr q) (uq : Ur r q) (lq : isL_ (T q)) (l1 : isL_ (H d)) (l2 : isL_ (H q))
    (h1 : ∀ r', kp r r' → r'.state = 3 → RX r' H T (vPr a) E C D R → Ur r' = Ur r → ¬ kV (H a) = 1 → Q (.inl none, (cW s (rW r' tl), b0, b1, op)))
    (h2 : ∀ k r' x, ¬ Ur r k → kp r r' → r'.state = r.state → H a = vInt x → RX r' (upW H k (T q)) (upW T k D) (T a) E (if x = 0 then H q else H d) (vPr k) R → Ur r' = addU (Ur r) k → Q (.inl none, (cW s (rW r' tl), b0, b1, op))) :
    mj_Mt gT cst gnw (m + 3) y_R_choose [.ref 27, .int y] (cW s (rW r tl), b0, b1, op) Q := by
  subst ey
  have hX0 := hX
  obtain ⟨hB, x0, x1, x2, x3, x4⟩ := hX
  obtain ⟨a', ea, h0, ua, -⟩ := x0.resolve_left (fun q => by cases q.1)
  cases ea
  have hz := hB.1.2
  have hv := (hB.2.1 a ua).1
  intro J hJ
  refine hJ _ _ _ _ ?_
  refine R_peek0 (Ur_lt hB ua) h0 (fun r1 s1 g1 g2 g3 => ?_)
  have hB1 := sm_RB s1 hB
  have v1 : ∀ {a}, Ur r a → Ur r1 a := fun h => by rw [sm_Ur s1]; exact h
  refine And.intro (fun (w : r1.gotKind = 1) => ?_) (fun (w : ¬ r1.gotKind = 1) => ?_)
  · rw [g2] at w
    have hi := (rv_int hv).mp w
    have hx := rv_int2 hv hi
    refine R_drop (Ur_lt hB ua) (by rw [g1]; exact h0) (fun r2 s2 g4 g5 g6 => ?_)
    have s12 := sm_tr s1 s2
    have hB2 := sm_RB s12 hB
    have v2 : ∀ {a}, Ur r a → Ur r2 a := fun h => by rw [sm_Ur s12]; exact h
    rw [g1] at g4
    refine R_rest rfl (Ur_lt hB ud) ?_
    refine R_rest (rs_pr hB2 (v2 ud) e1) (Ur_lt hB uq) ?_
    refine And.intro i53 ?_
    refine R_makeOf (h := T q) (t := D) hB2 (by rw [sm_fz s12]; exact hf) (rs_rg hB2 (v2 uq) lq) (by rw [g4]; exact sm_rg s12 x3) (fun k r3 hm g7 g8 => ?_)
    obtain ⟨⟨m1, -⟩, ⟨m2, m3, m4⟩, m5, m6, m7, m8⟩ := hm
    rw [sm_Ur s12] at m1 m6
    have g9 : r3.got = r.head a := g8.trans (g6.trans g3)
    refine And.intro i53 ?_
    change mj_sg _ _ _ _ _ _ _ _ _ _ _ _ (cW s (rW (sR r3 (upd r3.reg 3 (nI k))) tl), b0, b1, op)
    have hu3 := up_tr (sm_up s12) m4
    have k1 : ∀ i, hlN (sR r3 (upd r3.reg 3 (nI k))) i = hlN r3 i := fun _ => rfl
    have fin : ∀ (V : Vl) (w : Int32), rg r3 V w → (V = if r.head a = 0 then H q else H d) → Q (.inl none, (cW s (rW (sR r3 (upd (upd r3.reg 3 (nI k)) 2 w)) tl), b0, b1, op)) := by
      intro V w hV eV
      have h9 := h2 k (sR r3 (upd (upd r3.reg 3 (nI k)) 2 w)) (r.head a) m1 (kp_tr (kp_tr s12.1 m2) kp_sR) (m3.trans s12.2.1) hx
      rw [← eV] at h9
      refine h9 ?_ (by rw [← m6]; exact sm_Ur sm_sR)
      refine ⟨sm_RB sm_sR m5, ?_, ?_, ?_, ?_, ?_⟩
      · show rg _ _ (r3.reg 0)
        rw [g7, g4]
        refine sm_rg sm_sR (rg_up hu3 ?_)
        show rg r (T a) (rsN r1 a)
        rw [sm_rs s1]
        exact rs_rg hB ua lT
      · show rg _ _ (r3.reg 1)
        rw [g7, g4]
        exact sm_rg sm_sR (rg_up hu3 x1)
      · exact sm_rg sm_sR hV
      · exact sm_rg sm_sR m8
      · show rg _ _ (r3.reg 4)
        rw [g7, g4]
        exact sm_rg sm_sR (rg_up hu3 x4)
    have mk : ∀ i, Ur r i → isL_ (H i) → rg r3 (H i) (hlN r3 i) := by
      intro i ui hi
      have hne : ¬ i = k := fun e => m1 (e ▸ ui)
      have e9 : upW H k (T q) i = H i := if_neg hne
      have q1 := hl_rg m5 (hu3.2 i ui).1 (by rw [e9]; exact hi)
      rw [e9] at q1
      exact q1
    refine And.intro (fun (w : (sR r3 (upd r3.reg 3 (nI k))).got = 0) => ?_) (fun (w : ¬ (sR r3 (upd r3.reg 3 (nI k))).got = 0) => ?_)
    · have w2 : r.head a = 0 := g9.symm.trans w
      refine R_headList (rs_pr hB2 (v2 ud) e1) (Ur_lt hB uq) ?_
      refine And.intro i52 ?_
      exact fin (H q) _ (mk q uq l2) (by rw [if_pos w2])
    · have w2 : ¬ r.head a = 0 := fun e => w (g9.trans e)
      refine R_headList rfl (Ur_lt hB ud) ?_
      refine And.intro i52 ?_
      exact fin (H d) _ (mk d ud l1) (by rw [if_neg w2])
  · refine R_stop (fun r' c1 c2 c3 c4 c5 c6 => ?_)
    obtain ⟨w1, w2, w3, w4⟩ := R_wrong hX0 s1 g1 c1 c2 c3 c4 c5 c6
    exact h1 r' w1 w2 w3 w4 (fun e => w (by rw [g2]; exact (rv_int hv).mpr e))
theorem R_ofOne {a : Nat} {i y : Int32} (hi : i = 10 ∨ i = 11 ∨ i = 12) (hX : RX r H T (vPr a) E C D R) (hf : 1 ≤ fz r) (lT : isL_ (T a)) (hC : rg r C' y)
    (h1 : ∀ r', kp r r' → r'.state = 3 → RX r' H T (vPr a) E C D R → Ur r' = Ur r → ¬ i = 12 → ¬ kV (H a) = 3 → Q (.inl none, (cW s (rW r' tl), b0, b1, op)))
    (h2 : ∀ k r' w, ¬ Ur r k → kp r r' → r'.state = r.state → ((i = 10 ∧ kV (H a) = 3 ∧ w = ofV H (H a)) ∨ (i = 11 ∧ kV (H a) = 3 ∧ w = ofV T (H a)) ∨ (i = 12 ∧ w = vInt (if kV (H a) = 3 then 0 else 1))) → RX r' (upW H k w) (upW T k (T a)) (vPr k) E C' D R → Ur r' = addU (Ur r) k → Q (.inl none, (cW s (rW r' tl), b0, b1, op))) :
    mj_Mt gT cst gnw (m + 3) y_R_ofOne [.ref 27, .int i, .int y] (cW s (rW r tl), b0, b1, op) Q := by
  have hX0 := hX
  obtain ⟨hB, x0, x1, x2, x3, x4⟩ := hX
  obtain ⟨a', ea, h0, ua, -⟩ := x0.resolve_left (fun q => by cases q.1)
  cases ea
  have hz := hB.1.2
  have hv := (hB.2.1 a ua).1
  intro J hJ
  refine hJ _ _ _ _ ?_
  refine R_peek0 (Ur_lt hB ua) h0 (fun r1 s1 g1 g2 g3 => ?_)
  have hB1 := sm_RB s1 hB
  have v1 : ∀ {a}, Ur r a → Ur r1 a := fun h => by rw [sm_Ur s1]; exact h
  have fin : ∀ (r2 : rM) (w : Vl) (kd x : Int32), sm r r2 → r2.reg = upd r.reg 0 (rsN r a) → rv r w kd x → ((i = 10 ∧ kV (H a) = 3 ∧ w = ofV H (H a)) ∨ (i = 11 ∧ kV (H a) = 3 ∧ w = ofV T (H a)) ∨ (i = 12 ∧ w = vInt (if kV (H a) = 3 then 0 else 1))) → ∀ Q' : mj_R → Prop, (∀ r3, (∀ r4, r4 = sR r3 (upd r3.reg 2 y) → Q (.inl none, (cW s (rW r4 tl), b0, b1, op))) → Q' (.inl none, (cW s (rW r3 tl), b0, b1, op))) → mj_Mt gT cst gnw (m + 2) y_R_push [.ref 27, .int kd, .int x] (cW s (rW r2 tl), b0, b1, op) Q' := by
    intro r2 w kd x s2 g4 hw hc Q' hQ'
    refine R_push (S := T a) (h := w) (sm_RB s2 hB) (by rw [sm_fz s2]; exact hf) (sm_rv s2 hw) (by rw [g4]; exact sm_rg s2 (rs_rg hB ua lT)) (fun k r3 hm g5 => ?_)
    obtain ⟨⟨m1, -⟩, ⟨m2, m3, m4⟩, m5, m6, m7, m8⟩ := hm
    rw [sm_Ur s2] at m1 m6
    refine hQ' r3 (fun r4 e4 => ?_)
    subst e4
    refine h2 k _ w m1 (kp_tr (kp_tr s2.1 m2) kp_sR) (m3.trans s2.2.1) hc ?_ (by rw [← m6]; exact sm_Ur sm_sR)
    exact RX_up (r := r) (x0 := nI k) (x1 := r.reg 1) (x2 := y) (x3 := r.reg 3) (x4 := r.reg 4) (sm_RB sm_sR m5) (up_tr (sm_up s2) (up_tr m4 (sm_up sm_sR))) (sm_rg sm_sR m8) x1 hC x3 x4 (by show upd r3.reg 2 y 0 = nI k; rw [g5]; rfl) (by show upd r3.reg 2 y 1 = _; rw [g5, g4]; rfl) rfl (by show upd r3.reg 2 y 3 = _; rw [g5, g4]; rfl) (by show upd r3.reg 2 y 4 = _; rw [g5, g4]; rfl)
  have mid : ∀ F : Nat, (¬ i = 12 → kV (H a) = 3) → mj_sg (mj_Mt gT cst gnw (m + 2)) cst gnw (mj_hd (mj_off kO_R_ofOne) kH_R_ofOne) kC_R_ofOne J Q (F + 100) false 13 [some (.ref 27), some (.int i), some (.int y), none, none] [] (cW s (rW r1 tl), b0, b1, op) := by
    intro F hk
    have hg : r1.gotKind = 3 → ∃ k, k < 250 ∧ r1.got = nI k := by
      intro w
      rw [g2] at w
      obtain ⟨j, hj, ej⟩ := rv_raw hv w
      exact ⟨j, by omega, by rw [g3, ej]⟩
    refine r_isPair hg (fun k w1 w2 w3 w4 => ?_) (fun w => ?_)
    · have hw : kV (H a) = 3 ∧ H a = vPr k ∧ Ur r k := by
        rcases rv_pair hv with ⟨p1, j, p2, p3, p4, p5, p6⟩ | ⟨p1, p2⟩
        · have e : k = j := nIj (by omega) (by have := p5.1; omega) (by rw [← w2, g3, p4])
          subst e
          exact ⟨p1, p2, p5⟩
        · exfalso
          rcases p2 with p2 | ⟨j, p2, p3, p4, p5⟩
          · exact p2 (by rw [← g2]; exact w1)
          · have e : k = j := nIj (by omega) (by have := p4.1; omega) (by rw [← w2, g3, p3])
            subst e
            rw [s1.2.2.1.2] at w4
            exact p5 w4
      obtain ⟨hk3, eH, uk⟩ := hw
      refine R_drop (Ur_lt hB ua) (by rw [g1]; exact h0) (fun r2 s2 g4 g5 g6 => ?_)
      have s12 := sm_tr s1 s2
      have g7 : r2.reg = upd r.reg 0 (rsN r a) := by rw [g4, g1, sm_rs s1]
      have ec : r1.got.toNatClampNeg = k := by rw [w2]; exact nI_clamp (by omega)
      have hin : vp_in r1.got 250 := by rw [w2]; exact vp_in_nI w3 (by decide)
      rcases hi with rfl | rfl | rfl
      · refine And.intro (fun (g : ¬ (10 : Int32) = 10) => absurd rfl g) (fun _ => ?_)
        refine And.intro hin (And.intro hin ?_)
        refine fin r2 (ofV H (H a)) _ _ s12 g7 ?_ (Or.inl ⟨rfl, hk3, rfl⟩) _ (fun r3 h4 => ?_)
        · rw [ec, s12.2.2.2.1.1, s12.2.2.2.1.2, eH]
          exact (hB.2.1 k uk).1
        · exact And.intro i52 (h4 _ rfl)
      · refine And.intro (fun _ => ?_) (fun (g : (11 : Int32) = 10) => absurd g (by decide))
        refine And.intro (fun (g : ¬ (11 : Int32) = 11) => absurd rfl g) (fun _ => ?_)
        refine And.intro hin (And.intro hin ?_)
        refine fin r2 (ofV T (H a)) _ _ s12 g7 ?_ (Or.inr (Or.inl ⟨rfl, hk3, rfl⟩)) _ (fun r3 h4 => ?_)
        · rw [ec, s12.2.2.2.2.1, s12.2.2.2.2.2, eH]
          exact (hB.2.1 k uk).2
        · exact And.intro i52 (h4 _ rfl)
      · refine And.intro (fun _ => ?_) (fun (g : (12 : Int32) = 10) => absurd g (by decide))
        refine And.intro (fun _ => ?_) (fun (g : (12 : Int32) = 11) => absurd g (by decide))
        refine And.intro (fun (g : (1 : Int32) = 0) => absurd g (by decide)) (fun _ => ?_)
        refine fin r2 (vInt 0) _ _ s12 g7 ⟨rfl, rfl⟩ (Or.inr (Or.inr ⟨rfl, by rw [if_pos hk3]⟩)) _ (fun r3 h4 => ?_)
        exact And.intro i52 (h4 _ rfl)
    · have hk3 : ¬ kV (H a) = 3 := by
        intro p1
        rcases rv_pair hv with ⟨-, j, p2, p3, p4, p5, p6⟩ | ⟨p2, -⟩
        · rcases w with w | ⟨k, w1, w2, w3⟩
          · exact w (by rw [g2]; exact p3)
          · have e : k = j := nIj (by omega) (by have := p5.1; omega) (by rw [← w2, g3, p4])
            subst e
            rw [s1.2.2.1.2] at w3
            exact w3 p6
        · exact p2 p1
      have e12 : i = 12 := by
        by_cases e : i = 12
        · exact e
        · exact absurd (hk e) hk3
      subst e12
      refine R_drop (Ur_lt hB ua) (by rw [g1]; exact h0) (fun r2 s2 g4 g5 g6 => ?_)
      have s12 := sm_tr s1 s2
      have g7 : r2.reg = upd r.reg 0 (rsN r a) := by rw [g4, g1, sm_rs s1]
      refine And.intro (fun _ => ?_) (fun (g : (12 : Int32) = 10) => absurd g (by decide))
      refine And.intro (fun _ => ?_) (fun (g : (12 : Int32) = 11) => absurd g (by decide))
      refine And.intro (fun _ => ?_) (fun (g : ¬ (0 : Int32) = 0) => absurd rfl g)
      refine fin r2 (vInt 1) _ _ s12 g7 ⟨rfl, rfl⟩ (Or.inr (Or.inr ⟨rfl, by rw [if_neg hk3]⟩)) _ (fun r3 h4 => ?_)
      exact And.intro i52 (h4 _ rfl)
  refine And.intro (fun (w : (12 : Int32) ≤ i) => ?_) (fun (w : ¬ (12 : Int32) ≤ i) => ?_)
  · refine mid _ (fun e => ?_)
    rcases hi with rfl | rfl | rfl
    · exact absurd w (by decide)
    · exact absurd w (by decide)
    · exact absurd rfl e
  · have n12 : ¬ i = 12 := fun e => w (by rw [e]; decide)
    have hg : r1.gotKind = 3 → ∃ k, k < 250 ∧ r1.got = nI k := by
      intro w
      rw [g2] at w
      obtain ⟨j, hj, ej⟩ := rv_raw hv w
      exact ⟨j, by omega, by rw [g3, ej]⟩
    refine r_isPair hg (fun k w1 w2 w3 w4 => ?_) (fun w => ?_)
    · refine And.intro (fun _ => ?_) (fun (g : (1 : Int32) = 0) => absurd g (by decide))
      refine mid _ (fun _ => ?_)
      rcases rv_pair hv with ⟨p1, -⟩ | ⟨p1, p2⟩
      · exact p1
      · exfalso
        rcases p2 with p2 | ⟨j, p2, p3, p4, p5⟩
        · exact p2 (by rw [← g2]; exact w1)
        · have e : k = j := nIj (by omega) (by have := p4.1; omega) (by rw [← w2, g3, p3])
          subst e
          rw [s1.2.2.1.2] at w4
          exact p5 w4
    · refine And.intro (fun (g : ¬ (0 : Int32) = 0) => absurd rfl g) (fun _ => ?_)
      refine R_stop (fun r' c1 c2 c3 c4 c5 c6 => ?_)
      obtain ⟨w1, w2, w3, w4⟩ := R_wrong hX0 s1 g1 c1 c2 c3 c4 c5 c6
      refine h1 r' w1 w2 w3 w4 n12 (fun p1 => ?_)
      rcases rv_pair hv with ⟨-, j, p2, p3, p4, p5, p6⟩ | ⟨p2, -⟩
      · rcases w with w | ⟨k, w1, w2, w3⟩
        · exact w (by rw [g2]; exact p3)
        · have e : k = j := nIj (by omega) (by have := p5.1; omega) (by rw [← w2, g3, p4])
          subst e
          rw [s1.2.2.1.2] at w3
          exact w3 p6
      · exact p2 p1
end RC
end
section
def tlR (r : rM) (k : Nat) (a b : Int32) : rM := ((r.s_tailKind (upd r.tailKind k a)).s_tail (upd r.tail k b))
section RT
variable {cst : Nat → Option (Nat × (Nat → Int32))} {m b0 b1 : Nat} {op : Bool} {tl : List mj_O} {Q : mj_R → Prop} {s : cS} {r : rM} {H T : Nat → Vl} {S E C D R C' : Vl}
set_option maxRecDepth 10000
theorem upW_2 {α : Type} (F : Nat → α) (k : Nat) (x y : α) : upW (upW F k x) k y = upW F k y := by
  funext i
  unfold upW
  split <;> rfl
theorem tl_ok {k : Nat} {v : Vl} {a b : Int32} (hB : RB r H T) (hv : rv r v a b) : RB (tlR r k a b) H (upW T k v) := by
  obtain ⟨q1, q2, q3⟩ := hB
  refine ⟨q1, fun i hi => ⟨(q2 i hi).1, ?_⟩, fun i hi => ⟨(q3 i hi).1, ?_⟩⟩
  · by_cases e : i = k
    · subst e
      have e1 : upW T i v i = v := if_pos rfl
      have e2 : (tlR r i a b).tailKind i = a := if_pos rfl
      have e3 : (tlR r i a b).tail i = b := if_pos rfl
      rw [e1, e2, e3]
      exact hv
    · have e1 : upW T k v i = T i := if_neg e
      have e2 : (tlR r k a b).tailKind i = r.tailKind i := if_neg e
      have e3 : (tlR r k a b).tail i = r.tail i := if_neg e
      rw [e1, e2, e3]
      exact (q2 i hi).2
  · by_cases e : i = k
    · subst e
      have e2 : (tlR r i a b).tailKind i = a := if_pos rfl
      have e3 : (tlR r i a b).tail i = b := if_pos rfl
      rw [e2, e3]
      exact fun w => rv_raw (r := r) hv w
    · have e2 : (tlR r k a b).tailKind i = r.tailKind i := if_neg e
      have e3 : (tlR r k a b).tail i = r.tail i := if_neg e
      rw [e2, e3]
      exact (q3 i hi).2
theorem tl_sm {k : Nat} {a b : Int32} : kp r (tlR r k a b) ∧ (tlR r k a b).state = r.state ∧ upR r (tlR r k a b) ∧ Ur (tlR r k a b) = Ur r ∧ fz (tlR r k a b) = fz r ∧ (tlR r k a b).reg = r.reg := ⟨⟨⟨rfl, rfl, rfl, rfl, rfl⟩, rfl, rfl, rfl, rfl, rfl⟩, rfl, ⟨rfl, fun a ha => ⟨ha, rfl⟩⟩, rfl, rfl, rfl⟩
def smB (xk x yk y : Int32) : Prop := xk = yk ∧ ¬ xk = 3 ∧ (xk = 0 ∨ x = y)
theorem smB_iff {v w : Vl} {xk x yk y : Int32} (h1 : rv r v xk x) (h2 : rv r w yk y) : smB xk x yk y ↔ (v = w ∧ ceV v = none) := by
  unfold smB
  rcases v with u | v | v | v | v <;> rcases w with u' | w | w | w | w <;> rw [h1.1, h2.1]
  · exact ⟨fun _ => ⟨rfl, rfl⟩, fun _ => ⟨rfl, by decide, Or.inl rfl⟩⟩
  all_goals first
    | exact ⟨fun q => absurd q.1 (by decide), fun q => by cases q.1⟩
    | exact ⟨fun q => absurd rfl q.2.1, fun q => by cases q.2⟩
    | (rw [h1.2, h2.2]
       exact ⟨fun q => by
         rcases q.2.2 with q | q
         · exact absurd q (by decide)
         · rw [q]
           exact ⟨rfl, rfl⟩, fun q => by
         have e := q.1
         cases e
         exact ⟨rfl, by decide, Or.inr rfl⟩⟩)
set_option maxHeartbeats 8000000 in
theorem R_ofTwo {a a2 : Nat} {i y : Int32} (hi : i = 13 ∨ i = 14 ∨ i = 15 ∨ i = 16 ∨ i = 17 ∨ i = 18) (hX : RX r H T (vPr a) E C D R) (hf : 1 ≤ fz r) (hf2 : i = 13 → 2 ≤ fz r) (eT : T a = vPr a2) (lT : isL_ (T a2)) (hC : rg r C' y)
    (h1 : ∀ r', kp r r' → r'.state = 3 → RX r' H T (vPr a) E C D R → Ur r' = Ur r → ¬ i = 13 → ¬ i = 14 → ¬ (kV (H a2) = 1 ∧ kV (H a) = 1) → Q (.inl none, (cW s (rW r' tl), b0, b1, op)))
    (h2 : ∀ k r' v, ¬ Ur r k → kp r r' → r'.state = r.state → ((i = 14 ∧ v = if H a2 = H a ∧ ceV (H a2) = none then 1 else 0) ∨ (¬ i = 13 ∧ ¬ i = 14 ∧ ∃ x y, H a2 = vInt x ∧ H a = vInt y ∧ v = calV i x y)) → RX r' (upW H k (vInt v)) (upW T k (T a2)) (vPr k) E C' D R → Ur r' = addU (Ur r) k → Q (.inl none, (cW s (rW r' tl), b0, b1, op)))
    (h3 : ∀ k1 k2 r', ¬ Ur r k1 → ¬ addU (Ur r) k1 k2 → kp r r' → r'.state = r.state → i = 13 → RX r' (upW (upW H k1 (H a)) k2 (vPr k1)) (upW (upW T k1 (H a2)) k2 (T a2)) (vPr k2) E C' D R → Ur r' = addU (addU (Ur r) k1) k2 → Q (.inl none, (cW s (rW r' tl), b0, b1, op))) :
    mj_Mt gT cst gnw (m + 3) y_R_ofTwo [.ref 27, .int i, .int y] (cW s (rW r tl), b0, b1, op) Q := by
  have hX0 := hX
  obtain ⟨hB, x0, x1, x2, x3, x4⟩ := hX
  obtain ⟨a', ea, h0, ua, -⟩ := x0.resolve_left (fun q => by cases q.1)
  cases ea
  have hz := hB.1.2
  have hv := (hB.2.1 a ua).1
  have ua2 : Ur r a2 := by
    have := (hB.2.1 a ua).2
    rw [eT] at this
    exact this.2.2.1
  have hv2 := (hB.2.1 a2 ua2).1
  intro J hJ
  refine hJ _ _ _ _ ?_
  refine R_peek0 (Ur_lt hB ua) h0 (fun r1 s1 g1 g2 g3 => ?_)
  have hB1 := sm_RB s1 hB
  refine R_peek1 (Ur_lt hB ua2) (Ur_lt hB ua) (by rw [g1]; exact h0) (by rw [sm_rs s1]; exact rs_pr hB ua eT) (fun r2 s2 g4 g5 g6 => ?_)
  have s12 := sm_tr s1 s2
  have g7 : r2.reg = r.reg := g4.trans g1
  rw [s1.2.2.2.1.1] at g5
  rw [s1.2.2.2.1.2] at g6
  generalize r1.gotKind = yk at *
  generalize r1.got = yv at *
  generalize r2.gotKind = xk at *
  generalize r2.got = xv at *
  subst g2 g3 g5 g6
  have fin : ∀ (r4 : rM) (v : Int32), sm r r4 → r4.reg = upd r.reg 0 (rsN r a2) → ((i = 14 ∧ v = if H a2 = H a ∧ ceV (H a2) = none then 1 else 0) ∨ (¬ i = 13 ∧ ¬ i = 14 ∧ ∃ x y, H a2 = vInt x ∧ H a = vInt y ∧ v = calV i x y)) → ∀ Q' : mj_R → Prop, (∀ r3, (∀ r4, r4 = sR r3 (upd r3.reg 2 y) → Q (.inl none, (cW s (rW r4 tl), b0, b1, op))) → Q' (.inl none, (cW s (rW r3 tl), b0, b1, op))) → mj_Mt gT cst gnw (m + 2) y_R_push [.ref 27, .int 1, .int v] (cW s (rW r4 tl), b0, b1, op) Q' := by
    intro r4 v s4 g8 hc Q' hQ'
    refine R_push (S := T a2) (h := vInt v) (sm_RB s4 hB) (by rw [sm_fz s4]; exact hf) ⟨rfl, rfl⟩ (by rw [g8]; exact sm_rg s4 (rs_rg hB ua2 lT)) (fun k r3 hm g9 => ?_)
    obtain ⟨⟨m1, -⟩, ⟨m2, m3, m4⟩, m5, m6, m7, m8⟩ := hm
    rw [sm_Ur s4] at m1 m6
    refine hQ' r3 (fun r5 e5 => ?_)
    subst e5
    refine h2 k _ v m1 (kp_tr (kp_tr s4.1 m2) kp_sR) (m3.trans s4.2.1) hc ?_ (by rw [← m6]; exact sm_Ur sm_sR)
    exact RX_up (r := r) (x0 := nI k) (x1 := r.reg 1) (x2 := y) (x3 := r.reg 3) (x4 := r.reg 4) (sm_RB sm_sR m5) (up_tr (sm_up s4) (up_tr m4 (sm_up sm_sR))) (sm_rg sm_sR m8) x1 hC x3 x4 (by show upd r3.reg 2 y 0 = nI k; rw [g9]; rfl) (by show upd r3.reg 2 y 1 = _; rw [g9, g8]; rfl) rfl (by show upd r3.reg 2 y 3 = _; rw [g9, g8]; rfl) (by show upd r3.reg 2 y 4 = _; rw [g9, g8]; rfl)
  have mid : ∀ F : Nat, (¬ i = 13 → ¬ i = 14 → kV (H a2) = 1 ∧ kV (H a) = 1) → mj_sg (mj_Mt gT cst gnw (m + 2)) cst gnw (mj_hd (mj_off kO_R_ofTwo) kH_R_ofTwo) kC_R_ofTwo J Q (F + 200) false 31 [some (.ref 27), some (.int i), some (.int y), some (.int (r.headKind a)), some (.int (r.head a)), some (.int (r.headKind a2)), some (.int (r.head a2)), none] [] (cW s (rW r2 tl), b0, b1, op) := by
    intro F hk
    refine R_drop (Ur_lt hB ua) (by rw [g7]; exact h0) (fun r3 s3 g8 _ _ => ?_)
    have s13 := sm_tr s12 s3
    have e3 : r3.reg 0 = nI a2 := by
      rw [g8]
      show rsN r2 a = nI a2
      rw [sm_rs s12]
      exact rs_pr hB ua eT
    refine R_drop (Ur_lt hB ua2) e3 (fun r4 s4 g9 _ _ => ?_)
    have s14 := sm_tr s13 s4
    have g10 : r4.reg = upd r.reg 0 (rsN r a2) := by
      rw [g9, g8, g7, sm_rs s13]
      funext j
      unfold upd
      split <;> rfl
    by_cases e13 : i = 13
    · subst e13
      refine And.intro (fun (g : ¬ (13 : Int32) = 13) => absurd rfl g) (fun _ => ?_)
      refine R_make (h := H a) (t := vNil) (sm_RB s14 hB) (by rw [sm_fz s14]; exact hf) (sm_rv s14 hv) (Or.inl ⟨rfl, rfl⟩) (fun k1 r5 hm g11 => ?_)
      obtain ⟨⟨m1, mk⟩, ⟨m2, m3, m4⟩, m5, m6, m7, m8⟩ := hm
      rw [sm_Ur s14] at m1 m6
      rw [sm_fz s14] at m7
      have ek : (nI k1).toNatClampNeg = k1 := nI_clamp (by omega)
      have hin : vp_in (nI k1) 250 := vp_in_nI mk (by decide)
      have hu5 := up_tr (sm_up s14) m4
      refine And.intro hin ?_
      rw [ek]
      refine And.intro hin ?_
      rw [ek]
      change mj_sg _ _ _ _ _ _ _ _ _ _ _ _ (cW s (rW (tlR r5 k1 (r.headKind a2) (r.head a2)) tl), b0, b1, op)
      have hB6 := tl_ok (k := k1) m5 (rv_up hu5 hv2)
      rw [upW_2] at hB6
      obtain ⟨n1, n2, n3, n4, n5, n6⟩ := tl_sm (r := r5) (k := k1) (a := r.headKind a2) (b := r.head a2)
      generalize tlR r5 k1 (r.headKind a2) (r.head a2) = r6 at *
      have rk : rv r6 (vPr k1) 3 (nI k1) := by
        have := rg_rv (rg_up n3 m8) hB6.1.2
        rw [if_neg (nI_pos (by omega)), if_neg (nI_pos (by omega))] at this
        exact this
      have hu6 := up_tr hu5 n3
      refine R_push (S := T a2) (h := vPr k1) hB6 (by rw [n5]; have := hf2 rfl; omega) rk (by rw [n6, g11, g10]; exact rg_up hu6 (rs_rg hB ua2 lT)) (fun k2 r7 hm g12 => ?_)
      obtain ⟨⟨o1, -⟩, ⟨o2, o3, o4⟩, o5, o6, o7, o8⟩ := hm
      rw [n4, m6] at o1 o6
      have hu7 := up_tr hu6 o4
      refine And.intro i52 ?_
      refine h3 k1 k2 (sR r7 (upd r7.reg 2 y)) m1 o1 (kp_tr (kp_tr s14.1 m2) (kp_tr n1 (kp_tr o2 kp_sR))) (o3.trans (n2.trans (m3.trans s14.2.1))) rfl ?_ (by rw [← o6]; exact sm_Ur sm_sR)
      exact RX_up (r := r) (x0 := nI k2) (x1 := r.reg 1) (x2 := y) (x3 := r.reg 3) (x4 := r.reg 4) (sm_RB sm_sR o5) (up_tr hu7 (sm_up sm_sR)) (sm_rg sm_sR o8) x1 hC x3 x4 (by show upd r7.reg 2 y 0 = nI k2; rw [g12]; rfl) (by show upd r7.reg 2 y 1 = _; rw [g12, n6, g11, g10]; rfl) rfl (by show upd r7.reg 2 y 3 = _; rw [g12, n6, g11, g10]; rfl) (by show upd r7.reg 2 y 4 = _; rw [g12, n6, g11, g10]; rfl)
    · refine And.intro (fun _ => ?_) (fun (g : i = 13) => absurd g e13)
      have hs := smB_iff (r := r) hv2 hv
      have hc : ∀ v : Int32, ¬ i = 14 → v = calV i (r.head a2) (r.head a) → ((i = 14 ∧ v = if H a2 = H a ∧ ceV (H a2) = none then 1 else 0) ∨ (¬ i = 13 ∧ ¬ i = 14 ∧ ∃ x y, H a2 = vInt x ∧ H a = vInt y ∧ v = calV i x y)) := fun v w ev => Or.inr ⟨e13, w, r.head a2, r.head a, rv_int2 hv2 (hk e13 w).1, rv_int2 hv (hk e13 w).2, ev⟩
      have t1 : ∀ F : Nat, smB (r.headKind a2) (r.head a2) (r.headKind a) (r.head a) → mj_sg (mj_Mt gT cst gnw (m + 2)) cst gnw (mj_hd (mj_off kO_R_ofTwo) kH_R_ofTwo) kC_R_ofTwo J Q (F + 100) false 70 [some (.ref 27), some (.int i), some (.int y), some (.int (r.headKind a)), some (.int (r.head a)), some (.int (r.headKind a2)), some (.int (r.head a2)), none] [] (cW s (rW r4 tl), b0, b1, op) := by
        intro F hb
        rcases hi with rfl | rfl | rfl | rfl | rfl | rfl
        · exact absurd rfl e13
        · refine And.intro (fun (g : ¬ (14 : Int32) = 14) => absurd rfl g) (fun _ => ?_)
          refine And.intro (fun (g : (1 : Int32) = 0) => absurd g (by decide)) (fun _ => ?_)
          refine fin r4 1 s14 g10 (Or.inl ⟨rfl, by rw [if_pos (hs.mp hb)]⟩) _ (fun r5 h5 => ?_)
          exact And.intro i52 (h5 _ rfl)
        · refine And.intro (fun _ => ?_) (fun (g : (15 : Int32) = 14) => absurd g (by decide))
          refine And.intro (fun (g : ¬ (15 : Int32) = 15) => absurd rfl g) (fun _ => ?_)
          refine fin r4 _ s14 g10 (hc _ (by decide) rfl) _ (fun r5 h5 => ?_)
          exact And.intro i52 (h5 _ rfl)
        · refine And.intro (fun _ => ?_) (fun (g : (16 : Int32) = 14) => absurd g (by decide))
          refine And.intro (fun _ => ?_) (fun (g : (16 : Int32) = 15) => absurd g (by decide))
          refine And.intro (fun (g : ¬ (16 : Int32) = 16) => absurd rfl g) (fun _ => ?_)
          refine fin r4 _ s14 g10 (hc _ (by decide) rfl) _ (fun r5 h5 => ?_)
          exact And.intro i52 (h5 _ rfl)
        · refine And.intro (fun _ => ?_) (fun (g : (17 : Int32) = 14) => absurd g (by decide))
          refine And.intro (fun _ => ?_) (fun (g : (17 : Int32) = 15) => absurd g (by decide))
          refine And.intro (fun _ => ?_) (fun (g : (17 : Int32) = 16) => absurd g (by decide))
          refine And.intro (fun (g : ¬ (17 : Int32) = 17) => absurd rfl g) (fun _ => ?_)
          refine fin r4 _ s14 g10 (hc _ (by decide) rfl) _ (fun r5 h5 => ?_)
          exact And.intro i52 (h5 _ rfl)
        · refine And.intro (fun _ => ?_) (fun (g : (18 : Int32) = 14) => absurd g (by decide))
          refine And.intro (fun _ => ?_) (fun (g : (18 : Int32) = 15) => absurd g (by decide))
          refine And.intro (fun _ => ?_) (fun (g : (18 : Int32) = 16) => absurd g (by decide))
          refine And.intro (fun _ => ?_) (fun (g : (18 : Int32) = 17) => absurd g (by decide))
          refine And.intro (fun (g : r.head a ≤ r.head a2) => ?_) (fun (g : ¬ r.head a ≤ r.head a2) => ?_)
          · refine fin r4 0 s14 g10 (hc _ (by decide) ?_) _ (fun r5 h5 => ?_)
            · show 0 = if r.head a2 < r.head a then (1 : Int32) else 0
              rw [if_neg (Int32.not_lt.mpr g)]
            · exact And.intro i52 (h5 _ rfl)
          · refine fin r4 1 s14 g10 (hc _ (by decide) ?_) _ (fun r5 h5 => ?_)
            · show 1 = if r.head a2 < r.head a then (1 : Int32) else 0
              rw [if_pos (Int32.not_le.mp g)]
            · exact And.intro i52 (h5 _ rfl)
      have t0 : ∀ F : Nat, ¬ smB (r.headKind a2) (r.head a2) (r.headKind a) (r.head a) → mj_sg (mj_Mt gT cst gnw (m + 2)) cst gnw (mj_hd (mj_off kO_R_ofTwo) kH_R_ofTwo) kC_R_ofTwo J Q (F + 100) false 72 [some (.ref 27), some (.int i), some (.int y), some (.int (r.headKind a)), some (.int (r.head a)), some (.int (r.headKind a2)), some (.int (r.head a2)), none] [] (cW s (rW r4 tl), b0, b1, op) := by
        intro F hb
        rcases hi with rfl | rfl | rfl | rfl | rfl | rfl
        · exact absurd rfl e13
        · refine And.intro (fun (g : ¬ (14 : Int32) = 14) => absurd rfl g) (fun _ => ?_)
          refine And.intro (fun _ => ?_) (fun (g : ¬ (0 : Int32) = 0) => absurd rfl g)
          refine fin r4 0 s14 g10 (Or.inl ⟨rfl, by rw [if_neg (fun q => hb (hs.mpr q))]⟩) _ (fun r5 h5 => ?_)
          exact And.intro i52 (h5 _ rfl)
        · refine And.intro (fun _ => ?_) (fun (g : (15 : Int32) = 14) => absurd g (by decide))
          refine And.intro (fun (g : ¬ (15 : Int32) = 15) => absurd rfl g) (fun _ => ?_)
          refine fin r4 _ s14 g10 (hc _ (by decide) rfl) _ (fun r5 h5 => ?_)
          exact And.intro i52 (h5 _ rfl)
        · refine And.intro (fun _ => ?_) (fun (g : (16 : Int32) = 14) => absurd g (by decide))
          refine And.intro (fun _ => ?_) (fun (g : (16 : Int32) = 15) => absurd g (by decide))
          refine And.intro (fun (g : ¬ (16 : Int32) = 16) => absurd rfl g) (fun _ => ?_)
          refine fin r4 _ s14 g10 (hc _ (by decide) rfl) _ (fun r5 h5 => ?_)
          exact And.intro i52 (h5 _ rfl)
        · refine And.intro (fun _ => ?_) (fun (g : (17 : Int32) = 14) => absurd g (by decide))
          refine And.intro (fun _ => ?_) (fun (g : (17 : Int32) = 15) => absurd g (by decide))
          refine And.intro (fun _ => ?_) (fun (g : (17 : Int32) = 16) => absurd g (by decide))
          refine And.intro (fun (g : ¬ (17 : Int32) = 17) => absurd rfl g) (fun _ => ?_)
          refine fin r4 _ s14 g10 (hc _ (by decide) rfl) _ (fun r5 h5 => ?_)
          exact And.intro i52 (h5 _ rfl)
        · refine And.intro (fun _ => ?_) (fun (g : (18 : Int32) = 14) => absurd g (by decide))
          refine And.intro (fun _ => ?_) (fun (g : (18 : Int32) = 15) => absurd g (by decide))
          refine And.intro (fun _ => ?_) (fun (g : (18 : Int32) = 16) => absurd g (by decide))
          refine And.intro (fun _ => ?_) (fun (g : (18 : Int32) = 17) => absurd g (by decide))
          refine And.intro (fun (g : r.head a ≤ r.head a2) => ?_) (fun (g : ¬ r.head a ≤ r.head a2) => ?_)
          · refine fin r4 0 s14 g10 (hc _ (by decide) ?_) _ (fun r5 h5 => ?_)
            · show 0 = if r.head a2 < r.head a then (1 : Int32) else 0
              rw [if_neg (Int32.not_lt.mpr g)]
            · exact And.intro i52 (h5 _ rfl)
          · refine fin r4 1 s14 g10 (hc _ (by decide) ?_) _ (fun r5 h5 => ?_)
            · show 1 = if r.head a2 < r.head a then (1 : Int32) else 0
              rw [if_pos (Int32.not_le.mp g)]
            · exact And.intro i52 (h5 _ rfl)
      refine And.intro (fun (g : ¬ r.headKind a2 = r.headKind a) => t0 _ (fun q => g q.1)) (fun (g : r.headKind a2 = r.headKind a) => ?_)
      refine And.intro (fun (g' : r.headKind a2 = 3) => t0 _ (fun q => q.2.1 g')) (fun (g' : ¬ r.headKind a2 = 3) => ?_)
      refine And.intro (fun (w : r.headKind a2 = 0) => t1 _ ⟨g, g', Or.inl w⟩) (fun (w : ¬ r.headKind a2 = 0) => ?_)
      refine And.intro (fun (u : ¬ r.head a2 = r.head a) => t0 _ (fun q => q.2.2.elim w u)) (fun (u : r.head a2 = r.head a) => t1 _ ⟨g, g', Or.inr u⟩)
  have wrong : ∀ F : Nat, ¬ i ≤ 14 → ¬ (kV (H a2) = 1 ∧ kV (H a) = 1) → mj_sg (mj_Mt gT cst gnw (m + 2)) cst gnw (mj_hd (mj_off kO_R_ofTwo) kH_R_ofTwo) kC_R_ofTwo J Q (F + 100) false 27 [some (.ref 27), some (.int i), some (.int y), some (.int (r.headKind a)), some (.int (r.head a)), some (.int (r.headKind a2)), some (.int (r.head a2)), none] [] (cW s (rW r2 tl), b0, b1, op) := by
    intro F w wk
    refine R_stop (fun r' c1 c2 c3 c4 c5 c6 => ?_)
    obtain ⟨w1, w2, w3, w4⟩ := R_wrong hX0 s12 g7 c1 c2 c3 c4 c5 c6
    exact h1 r' w1 w2 w3 w4 (fun e => w (by rw [e]; decide)) (fun e => w (by rw [e]; decide)) wk
  refine And.intro (fun (w : i ≤ 14) => mid _ (fun e1 e2 => ?_)) (fun (w : ¬ i ≤ 14) => ?_)
  · rcases hi with rfl | rfl | rfl | rfl | rfl | rfl
    · exact absurd rfl e1
    · exact absurd rfl e2
    · exact absurd w (by decide)
    · exact absurd w (by decide)
    · exact absurd w (by decide)
    · exact absurd w (by decide)
  · refine And.intro (fun (w1 : ¬ r.headKind a2 = 1) => wrong _ w (fun q => w1 ((rv_int hv2).mpr q.1))) (fun (w1 : r.headKind a2 = 1) => ?_)
    refine And.intro (fun (w2 : r.headKind a = 1) => mid _ (fun _ _ => ⟨(rv_int hv2).mp w1, (rv_int hv).mp w2⟩)) (fun (w2 : ¬ r.headKind a = 1) => wrong _ w (fun q => w2 ((rv_int hv).mpr q.2)))
end RT
end
