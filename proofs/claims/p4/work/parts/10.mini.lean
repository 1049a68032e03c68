section
def mj_nth {α : Type} : List α → Nat → Option α
  | [], _ => none
  | a :: _, 0 => some a
  | _ :: l, n + 1 => mj_nth l n
def mj_stn {α : Type} : List α → Nat → α → List α
  | [], _, _ => []
  | _ :: l, 0, b => b :: l
  | a :: l, n + 1, b => a :: mj_stn l n b
abbrev mj_O : Type := (Nat × vp_A) ⊕ (Nat × List Value) ⊕ (Nat × (Nat → Nat)) ⊕ Unit
abbrev mj_H : Type := List mj_O × Nat × Nat × Bool
abbrev mj_R : Type := (Option Value ⊕ Nat) × mj_H
abbrev mj_L : Type := List (Option Value)
abbrev mj_C : Type := List (Bool × Instr)
def mj_obj (o : Nat × List Value) : mj_O := .inr (.inl o)
def mj_set (h : mj_H) (i : Nat) (o : mj_O) : mj_H := (mj_stn h.1 i o, h.2)
def mj_kill : mj_L → Nat → mj_L
  | ls, 0 => ls
  | ls, k + 1 => match mj_nth ls k with
    | some (some (.long _)) => mj_stn ls k none
    | some (some (.double _)) => mj_stn ls k none
    | _ => ls
def mj_st1 (ls : mj_L) (k : Nat) (v : Value) : mj_L := mj_stn (mj_kill ls k) k (some v)
def mj_st2 (ls : mj_L) (k : Nat) (v : Value) : mj_L := mj_stn (mj_stn (mj_kill ls k) k (some v)) (k + 1) none
def mj_lay : List Value → Nat → mj_L
  | [], n => List.replicate n none
  | .long x :: r, n => some (.long x) :: none :: mj_lay r (n - 2)
  | .double x :: r, n => some (.double x) :: none :: mj_lay r (n - 2)
  | v :: r, n => some v :: mj_lay r (n - 1)
def mj_pop : Nat → List Value → List Value → Option (List Value × List Value)
  | 0, st, as => some (as, st)
  | _ + 1, [], _ => none
  | n + 1, v :: st, as => mj_pop n st (v :: as)
abbrev mj_N : Type := Nat → Option (List Value)
def mj_fresh (t n : Nat) : Option vp_A := match t with
  | 1 => some (n, .inr (.inl (fun _ => 0)))
  | 0 => some (n, .inl (fun _ => 0))
  | 2 => some (n, .inl (fun _ => 0))
  | 3 => some (n, .inl (fun _ => 0))
  | 4 => some (n, .inl (fun _ => 0))
  | _ => none
def mj_tag : ArrayType → Option Nat
  | .int => some 0
  | .long => some 1
  | .char => some 2
  | .boolean => some 3
  | .byte => some 4
  | _ => none
def mj_wt (st : List Value) : Nat := (st.map fun v => v.category).sum
def mj_sw (go : Int → Prop) (d : Int) (x : Int32) : List (Int × Int) → Prop
  | [] => go d
  | (v, t) :: l => (x = Int32.ofInt v → go t) ∧ (¬ x = Int32.ofInt v → mj_sw go d x l)
def mj_thr (hd : Nat → Nat → Option (Option (Nat × Nat))) (Q : mj_R → Prop) (k : Nat → mj_L → List Value → mj_H → Prop) (pc : Nat) (ls : mj_L) (c : Nat) (h : mj_H) : Prop := match hd pc c with
  | some (some (t, j)) => k (t + 1) (mj_stn (mj_kill ls j) j none) [] h
  | some none => Q (.inr c, h)
  | none => False
def mj_after (hd : Nat → Nat → Option (Option (Nat × Nat))) (Q : mj_R → Prop) (k : Nat → mj_L → List Value → mj_H → Prop) (pc : Nat) (ls : mj_L) (r : List Value) : mj_R → Prop
  | (.inl none, h) => k (pc + 1) ls r h
  | (.inl (some v), h) => k (pc + 1) ls (v :: r) h
  | (.inr c, h) => mj_thr hd Q k pc ls c h
def mj_recv (n : Nat) (as : List Value) (h : mj_H) : Bool := match n % 4 with
  | 0 => match as with
    | .ref a :: _ => match mj_nth h.1 a with
      | some (.inr (.inl (ci, _))) => Nat.beq ci (n / 64)
      | _ => false
    | _ => false
  | 2 => match as with
    | .ref a :: _ => match mj_nth h.1 a with
      | some (.inr (.inl (ci, _))) => Nat.beq ci (n / 64)
      | _ => false
    | _ => false
  | 3 => match as with
    | .ref a :: _ => match mj_nth h.1 a with
      | some (.inr (.inl (ci, _))) => Nat.beq ci (n / 64)
      | _ => false
    | _ => false
  | _ => true
def mj_put (k : mj_O → Prop) (ci : Nat) (fs : List Value) (j ty : Nat) (v : Value) : Prop := match ty, v with
  | 0, .int x => k (.inr (.inl (ci, mj_stn fs j (.int x))))
  | 1, .long x => k (.inr (.inl (ci, mj_stn fs j (.long x))))
  | 2, .ref x => k (.inr (.inl (ci, mj_stn fs j (.ref x))))
  | 3, .int x => (x = 0 ∨ x = 1) ∧ k (.inr (.inl (ci, mj_stn fs j (.int x))))
  | _, _ => False
def mj_ni : List Value → Bool
  | [] => true
  | .int _ :: r => mj_ni r
  | .retAddr _ :: r => mj_ni r
  | .ref a :: r => match Nat.ble 1000 a with
    | true => mj_ni r
    | false => false
  | _ => false
def mj_bp (k : Nat → mj_L → List Value → mj_H → Prop) (pc : Nat) (ls : mj_L) (r : List Value) (h : mj_H) (a : Nat) : mj_R → Prop
  | (.inl v, os, bc, bs, _) => ∃ (j N : Nat) (g : Nat → Int32) (n : Nat) (f : Nat → Nat) (ml : Int32), mj_nth os 0 = some (.inr (.inl (9, [.ref j, .int 0, .int ml, .int (nI n)]))) ∧ mj_nth os j = some (.inl (4, N, .inl g)) ∧ 0 < j ∧ n ≤ N ∧ N ≤ 65536 ∧ sb_Lat f n g ∧ sb_Fit g ∧ match v with
    | none => k (pc + 1) ls r (mj_stn h.1 a (.inr (.inr (.inl (n, f)))), bc, bs, false)
    | some (.int x) => k (pc + 1) ls (.int x :: r) (mj_stn h.1 a (.inr (.inr (.inl (n, f)))), bc, bs, false)
    | some (.ref 0) => k (pc + 1) ls (.ref a :: r) (mj_stn h.1 a (.inr (.inr (.inl (n, f)))), bc, bs, false)
    | _ => False
  | _ => False
def mj_ip (k : Nat → mj_L → List Value → mj_H → Prop) (pc : Nat) (ls : mj_L) (r : List Value) (a : Nat) : mj_R → Prop
  | (.inl none, os, bc, bs, fl) => ∃ (N : Nat) (g : Nat → Int32) (ml : Int32), mj_nth os a = some (.inr (.inl (9, [.ref (a + 1), .int 0, .int ml, .int (nI 0)]))) ∧ mj_nth os (a + 1) = some (.inl (4, N, .inl g)) ∧ N ≤ 65536 ∧ sb_Fit g ∧ k (pc + 1) ls r (mj_stn (mj_stn os a (.inr (.inr (.inl (0, fun _ => 0))))) (a + 1) (.inr (.inr (.inr ()))), bc, bs, fl)
  | _ => False
section MJ
variable (call : Nat → List Value → mj_H → (mj_R → Prop) → Prop) (cst : Nat → Option (Nat × (Nat → Int32))) (nw : mj_N) (hd : Nat → Nat → Option (Option (Nat × Nat))) (Q : mj_R → Prop) (k : Nat → mj_L → List Value → mj_H → Prop)
def mj_stp (i : Instr) (pc : Nat) (ls : mj_L) (st : List Value) (h : mj_H) : Prop := match i with
  | .iconst v => k (pc + 1) ls (.int (Int32.ofInt v) :: st) h
  | .ldc2_w n => k (pc + 1) ls (.long (Int64.ofNat n) :: st) h
  | .iload n => match mj_nth ls n with
    | some (some (.int x)) => k (pc + 1) ls (.int x :: st) h
    | _ => False
  | .lload n => match mj_nth ls n with
    | some (some (.long x)) => k (pc + 1) ls (.long x :: st) h
    | _ => False
  | .aload n => match mj_nth ls n with
    | some (some (.ref x)) => k (pc + 1) ls (.ref x :: st) h
    | _ => False
  | .istore n => match st with
    | .int x :: r => k (pc + 1) (mj_st1 ls n (.int x)) r h
    | _ => False
  | .lstore n => match st with
    | .long x :: r => k (pc + 1) (mj_st2 ls n (.long x)) r h
    | _ => False
  | .astore n => match st with
    | .ref x :: r => k (pc + 1) (mj_st1 ls n (.ref x)) r h
    | _ => False
  | .iinc n c => match mj_nth ls n with
    | some (some (.int x)) => k (pc + 1) (mj_st1 ls n (.int (x + Int32.ofInt c))) st h
    | _ => False
  | .iadd => match st with
    | .int y :: .int x :: r => k (pc + 1) ls (.int (x + y) :: r) h
    | _ => False
  | .isub => match st with
    | .int y :: .int x :: r => k (pc + 1) ls (.int (x - y) :: r) h
    | _ => False
  | .imul => match st with
    | .int y :: .int x :: r => k (pc + 1) ls (.int (x * y) :: r) h
    | _ => False
  | .iand => match st with
    | .int y :: .int x :: r => k (pc + 1) ls (.int (x &&& y) :: r) h
    | _ => False
  | .ior => match st with
    | .int y :: .int x :: r => k (pc + 1) ls (.int (x ||| y) :: r) h
    | _ => False
  | .ixor => match st with
    | .int y :: .int x :: r => k (pc + 1) ls (.int (x ^^^ y) :: r) h
    | _ => False
  | .ishl => match st with
    | .int y :: .int x :: r => k (pc + 1) ls (.int (x <<< (y &&& 31)) :: r) h
    | _ => False
  | .ishr => match st with
    | .int y :: .int x :: r => k (pc + 1) ls (.int (x >>> (y &&& 31)) :: r) h
    | _ => False
  | .iushr => match st with
    | .int y :: .int x :: r => k (pc + 1) ls (.int (x.toUInt32 >>> (y.toUInt32 &&& Int32.toUInt32 31)).toInt32 :: r) h
    | _ => False
  | .idiv => match st with
    | .int y :: .int x :: r => ¬ y = 0 ∧ k (pc + 1) ls (.int (x / y) :: r) h
    | _ => False
  | .irem => match st with
    | .int y :: .int x :: r => ¬ y = 0 ∧ k (pc + 1) ls (.int (x - x / y * y) :: r) h
    | _ => False
  | .ineg => match st with
    | .int x :: r => k (pc + 1) ls (.int (-x) :: r) h
    | _ => False
  | .ladd => match st with
    | .long y :: .long x :: r => k (pc + 1) ls (.long (x + y) :: r) h
    | _ => False
  | .lsub => match st with
    | .long y :: .long x :: r => k (pc + 1) ls (.long (x - y) :: r) h
    | _ => False
  | .land => match st with
    | .long y :: .long x :: r => k (pc + 1) ls (.long (x &&& y) :: r) h
    | _ => False
  | .lor => match st with
    | .long y :: .long x :: r => k (pc + 1) ls (.long (x ||| y) :: r) h
    | _ => False
  | .lshl => match st with
    | .int y :: .long x :: r => k (pc + 1) ls (.long (x <<< (y.toInt64 &&& 63)) :: r) h
    | _ => False
  | .lshr => match st with
    | .int y :: .long x :: r => k (pc + 1) ls (.long (x >>> (y.toInt64 &&& 63)) :: r) h
    | _ => False
  | .lushr => match st with
    | .int y :: .long x :: r => k (pc + 1) ls (.long (x.toUInt64 >>> (y.toInt64.toUInt64 &&& Int64.toUInt64 63)).toInt64 :: r) h
    | _ => False
  | .lcmp => match st with
    | .long y :: .long x :: r => k (pc + 1) ls (.int (lg_cmp x y) :: r) h
    | _ => False
  | .i2l => match st with
    | .int x :: r => k (pc + 1) ls (.long x.toInt64 :: r) h
    | _ => False
  | .l2i => match st with
    | .long x :: r => k (pc + 1) ls (.int x.toInt32 :: r) h
    | _ => False
  | .i2c => match st with
    | .int x :: r => k (pc + 1) ls (.int (x.toUInt32 % 65536).toInt32 :: r) h
    | _ => False
  | .i2b => match st with
    | .int x :: r => k (pc + 1) ls (.int x.toInt8.toInt32 :: r) h
    | _ => False
  | .dup => match st with
    | .int x :: r => k (pc + 1) ls (.int x :: .int x :: r) h
    | .ref x :: r => k (pc + 1) ls (.ref x :: .ref x :: r) h
    | _ => False
  | .dup_x1 => match st with
    | .int x :: .ref y :: r => k (pc + 1) ls (.int x :: .ref y :: .int x :: r) h
    | .int x :: .int y :: r => k (pc + 1) ls (.int x :: .int y :: .int x :: r) h
    | _ => False
  | .dup2 => match st with
    | .int x :: .ref y :: r => k (pc + 1) ls (.int x :: .ref y :: .int x :: .ref y :: r) h
    | .int x :: .int y :: r => k (pc + 1) ls (.int x :: .int y :: .int x :: .int y :: r) h
    | .long x :: r => k (pc + 1) ls (.long x :: .long x :: r) h
    | _ => False
  | .pop => match st with
    | .int _ :: r => k (pc + 1) ls r h
    | .ref _ :: r => k (pc + 1) ls r h
    | _ => False
  | .monitorenter => match st with
    | .ref _ :: r => match Nat.ble (mj_wt r) 8 with
      | true => k (pc + 1) ls r h
      | false => False
    | _ => False
  | .pop2 => match st with
    | .long _ :: r => k (pc + 1) ls r h
    | _ => False
  | .ifCond c t => match st with
    | .int x :: r => match c with
      | .eq => (x = 0 → k t.toNat ls r h) ∧ (¬ x = 0 → k (pc + 1) ls r h)
      | .ne => (¬ x = 0 → k t.toNat ls r h) ∧ (x = 0 → k (pc + 1) ls r h)
      | .lt => (x < 0 → k t.toNat ls r h) ∧ (¬ x < 0 → k (pc + 1) ls r h)
      | .ge => (0 ≤ x → k t.toNat ls r h) ∧ (¬ 0 ≤ x → k (pc + 1) ls r h)
      | .gt => (0 < x → k t.toNat ls r h) ∧ (¬ 0 < x → k (pc + 1) ls r h)
      | .le => (x ≤ 0 → k t.toNat ls r h) ∧ (¬ x ≤ 0 → k (pc + 1) ls r h)
    | _ => False
  | .if_icmp c t => match st with
    | .int y :: .int x :: r => match c with
      | .eq => (x = y → k t.toNat ls r h) ∧ (¬ x = y → k (pc + 1) ls r h)
      | .ne => (¬ x = y → k t.toNat ls r h) ∧ (x = y → k (pc + 1) ls r h)
      | .lt => (x < y → k t.toNat ls r h) ∧ (¬ x < y → k (pc + 1) ls r h)
      | .ge => (y ≤ x → k t.toNat ls r h) ∧ (¬ y ≤ x → k (pc + 1) ls r h)
      | .gt => (y < x → k t.toNat ls r h) ∧ (¬ y < x → k (pc + 1) ls r h)
      | .le => (x ≤ y → k t.toNat ls r h) ∧ (¬ x ≤ y → k (pc + 1) ls r h)
    | _ => False
  | .goto t => k t.toNat ls st h
  | .lookupswitch d ps => match st with
    | .int x :: r => mj_sw (fun t => k t.toNat ls r h) d x ps.toList
    | _ => False
  | .ireturn => match st with
    | [.int x] => Q (.inl (some (.int x)), h)
    | _ => False
  | .freturn => match st with
    | [.int x] => (x = 0 ∨ x = 1) ∧ Q (.inl (some (.int x)), h)
    | _ => False
  | .dreturn => match st with
    | [.int x] => narrow .char (.int x) = .int x ∧ Q (.inl (some (.int x)), h)
    | _ => False
  | .lneg => match st with
    | .long x :: r => k (pc + 1) ls (.long (-x) :: r) h
    | _ => False
  | .athrow => match st with
    | [.int x] => narrow .byte (.int x) = .int x ∧ Q (.inl (some (.int x)), h)
    | _ => False
  | .lmul => match st with
    | .long y :: .long x :: r => k (pc + 1) ls (.long (x * y) :: r) h
    | _ => False
  | .ldiv => match st with
    | .long y :: .long x :: r => ¬ y = 0 ∧ k (pc + 1) ls (.long (x / y) :: r) h
    | _ => False
  | .lrem => match st with
    | .long y :: .long x :: r => ¬ y = 0 ∧ k (pc + 1) ls (.long (x - x / y * y) :: r) h
    | _ => False
  | .ifnonnull t => match st with
    | .ref _ :: r => k t.toNat ls r h
    | _ => False
  | .dload _ => k (pc + 1) ls (.retAddr 0 :: st) h
  | .ldc w => k (pc + 1) ls (.ref w :: st) h
  | .anewarray w => match st with
    | .ref a :: r => match cst a, Nat.ble 2000 a, w with
      | some _, true, 0 => k (pc + 1) ls (.ref (a - 900) :: r) h
      | some _, true, 1 => k (pc + 1) ls (.int 0 :: r) h
      | _, _, _ => False
    | _ => False
  | .instanceof w => match mj_pop (w / 4 % 16) st [] with
    | some (.ref a :: as, r) => match cst a, Nat.ble 2000 a, Nat.ble (mj_wt r) 8 with
      | some _, true, true => call (w / 1024) (.ref a :: as) h (mj_after hd Q k pc ls r)
      | _, _, _ => False
    | _ => False
  | .fload _ => match st with
    | .int n :: .int dp :: .ref a :: .int sp :: .ref a0 :: r => match Nat.ble (mj_wt r) 8, cst a0, mj_nth h.1 a with
      | true, some (n0, f), some (.inl (4, n1, .inl g)) => 1100 ≤ a0 ∧ a0 < 2000 ∧ ¬ sp < 0 ∧ ¬ dp < 0 ∧ ¬ n < 0 ∧ sp.toNatClampNeg + n.toNatClampNeg ≤ n0 ∧ dp.toNatClampNeg + n.toNatClampNeg ≤ n1 ∧ sb_Fit f ∧ k (pc + 1) ls r (mj_set h a (.inl (4, n1, .inl (va_cpy f g sp.toNatClampNeg dp.toNatClampNeg n.toNatClampNeg))))
      | _, _, _ => False
    | _ => False
  | .lreturn => match st with
    | [.long x] => Q (.inl (some (.long x)), h)
    | _ => False
  | .return_ => match st with
    | [] => Q (.inl none, h)
    | _ => False
  | .getfield f => match st with
    | .ref a :: r => match mj_nth h.1 a with
      | some (.inr (.inl (ci, fs))) => match Nat.beq ci (f / 256), mj_nth fs (f / 4 % 64) with
        | true, some v => k (pc + 1) ls (v :: r) h
        | _, _ => False
      | _ => False
    | _ => False
  | .putfield f => match st with
    | v :: .ref a :: r => match mj_nth h.1 a with
      | some (.inr (.inl (ci, fs))) => match Nat.beq ci (f / 256), Nat.blt (f / 4 % 64) fs.length with
        | true, true => mj_put (fun o => k (pc + 1) ls r (mj_set h a o)) ci fs (f / 4 % 64) (f % 4) v
        | _, _ => False
      | _ => False
    | _ => False
  | .getstatic j => k (pc + 1) ls (.ref j :: st) h
  | .iaload => match st with
    | .int i :: .ref a :: r => match Nat.ble 1000 a with
      | true => match cst a, Nat.blt a 1100 with
        | some (n, g), true => vp_in i n ∧ k (pc + 1) ls (.int (g i.toNatClampNeg) :: r) h
        | _, _ => False
      | false => match mj_nth h.1 a with
        | some (.inl (0, n, .inl g)) => vp_in i n ∧ k (pc + 1) ls (.int (g i.toNatClampNeg) :: r) h
        | _ => False
    | _ => False
  | .laload => match st with
    | .int i :: .ref a :: r => match mj_nth h.1 a with
      | some (.inl (1, n, .inr (.inl g))) => vp_in i n ∧ k (pc + 1) ls (.long (g i.toNatClampNeg) :: r) h
      | _ => False
    | _ => False
  | .caload => match st with
    | .int i :: .ref a :: r => match mj_nth h.1 a with
      | some (.inl (2, n, .inl g)) => vp_in i n ∧ k (pc + 1) ls (.int (g i.toNatClampNeg) :: r) h
      | _ => False
    | _ => False
  | .baload => match st with
    | .int i :: .ref a :: r => match Nat.ble 1000 a with
      | true => match cst a, Nat.ble 1100 a, Nat.blt a 2000 with
        | some (n, g), true, true => vp_in i n ∧ k (pc + 1) ls (.int (g i.toNatClampNeg) :: r) h
        | _, _, _ => False
      | false => match mj_nth h.1 a with
        | some (.inl (3, n, .inl g)) => vp_in i n ∧ k (pc + 1) ls (.int (g i.toNatClampNeg) :: r) h
        | some (.inl (4, n, .inl g)) => vp_in i n ∧ k (pc + 1) ls (.int (g i.toNatClampNeg) :: r) h
        | _ => False
    | _ => False
  | .iastore => match st with
    | .int x :: .int i :: .ref a :: r => match mj_nth h.1 a with
      | some (.inl (0, n, .inl g)) => vp_in i n ∧ k (pc + 1) ls r (mj_set h a (.inl (0, n, .inl (upd g i.toNatClampNeg x))))
      | _ => False
    | _ => False
  | .lastore => match st with
    | .long x :: .int i :: .ref a :: r => match mj_nth h.1 a with
      | some (.inl (1, n, .inr (.inl g))) => vp_in i n ∧ k (pc + 1) ls r (mj_set h a (.inl (1, n, .inr (.inl (vp_updL g i.toNatClampNeg x)))))
      | _ => False
    | _ => False
  | .castore => match st with
    | .int x :: .int i :: .ref a :: r => match mj_nth h.1 a with
      | some (.inl (2, n, .inl g)) => vp_in i n ∧ k (pc + 1) ls r (mj_set h a (.inl (2, n, .inl (upd g i.toNatClampNeg (vp_nar .char x)))))
      | _ => False
    | _ => False
  | .bastore => match st with
    | .int x :: .int i :: .ref a :: r => match mj_nth h.1 a with
      | some (.inl (3, n, .inl g)) => vp_in i n ∧ k (pc + 1) ls r (mj_set h a (.inl (3, n, .inl (upd g i.toNatClampNeg (vp_nar .boolean x)))))
      | some (.inl (4, n, .inl g)) => vp_in i n ∧ k (pc + 1) ls r (mj_set h a (.inl (4, n, .inl (upd g i.toNatClampNeg (vp_nar .byte x)))))
      | _ => False
    | _ => False
  | .arraylength => match st with
    | .ref a :: r => match Nat.ble 1000 a with
      | true => match cst a, Nat.blt a 2000 with
        | some (n, _), true => k (pc + 1) ls (.int (Int32.ofNat n) :: r) h
        | _, _ => False
      | false => match mj_nth h.1 a with
        | some (.inl (t, n, _)) => match Nat.blt t 5 with
          | true => k (pc + 1) ls (.int (Int32.ofNat n) :: r) h
          | false => False
        | _ => False
    | _ => False
  | .new c => match nw c, h with
    | some fs, (os, bc + 1, bs, true) => os.length < 999 ∧ fs.length ≤ bs ∧ k (pc + 1) ls (.ref os.length :: st) (os ++ [.inr (.inl (c, fs))], bc, bs - fs.length, true)
    | _, _ => False
  | .newarray t => match mj_tag t, st, h with
    | some g, .int n :: r, (os, bc + 1, bs, true) => match mj_fresh g n.toNatClampNeg with
      | some a => os.length < 999 ∧ ¬ n < 0 ∧ n.toNatClampNeg ≤ bs ∧ n.toNatClampNeg ≤ 2000 ∧ k (pc + 1) ls (.ref os.length :: r) (os ++ [.inl (g, a)], bc, bs - n.toNatClampNeg, true)
      | none => False
    | _, _, _ => False
  | .invokeinterface y n => match mj_pop (n / 4 % 16) st [] with
    | some (as, r) => match mj_recv n as h, Nat.ble (mj_wt r) 8 with
      | true, true => call y as h (mj_after hd Q k pc ls r)
      | _, _ => False
    | none => False
  | .areturn => match st with
    | [.ref x] => Q (.inl (some (.ref x)), h)
    | _ => False
  | .invokestatic _ => match st with
    | .int n :: .int dp :: .ref a :: .int sp :: .ref a0 :: r => match Nat.ble (mj_wt r) 8, mj_nth h.1 a0, mj_nth h.1 a with
      | true, some (.inl (4, n0, .inl f)), some (.inl (4, n1, .inl g)) => ¬ sp < 0 ∧ ¬ dp < 0 ∧ ¬ n < 0 ∧ sp.toNatClampNeg + n.toNatClampNeg ≤ n0 ∧ dp.toNatClampNeg + n.toNatClampNeg ≤ n1 ∧ sb_Fit f ∧ k (pc + 1) ls r (mj_set h a (.inl (4, n1, .inl (va_cpy f g sp.toNatClampNeg dp.toNatClampNeg n.toNatClampNeg))))
      | _, _, _ => False
    | _ => False
  | .invokespecial w => match st with
    | .ref a :: r => match Nat.ble (mj_wt r) 8 with
      | true => call (w / 1024) [.ref a] h (mj_ip k pc ls r a)
      | false => False
    | _ => False
  | .invokevirtual w => match mj_pop (w / 4 % 16) st [] with
    | some (.ref a :: as, r) => match mj_nth h.1 a, mj_ni as, Nat.ble (mj_wt r) 8 with
      | some (.inr (.inr (.inl (n, f)))), true, true => ∀ (ml : Int32) (N : Nat) (g : Nat → Int32), n ≤ N → N ≤ 65536 → sb_Lat f n g → sb_Fit g → call (w / 1024) (.ref 0 :: as) ([.inr (.inl (9, [.ref 1, .int 0, .int ml, .int (nI n)])), .inl (4, N, .inl g)], h.2.1, h.2.2.1, true) (mj_bp k pc ls r h a)
      | _, _, _ => False
    | _ => False
  | .invokedynamic w => match st, w with
    | .int y :: .int x :: r, 0 => match Nat.ble (mj_wt r) 8 with
      | true => k (pc + 1) ls (.int (if x < y then y else x) :: r) h
      | false => False
    | .int y :: .int x :: r, 1 => match Nat.ble (mj_wt r) 8 with
      | true => k (pc + 1) ls (.int (if y < x then y else x) :: r) h
      | false => False
    | _, _ => False
  | .checkcast c => match Nat.ble (mj_wt st) 8, h with
    | true, (os, bc + 1, bs, _) => 6 ≤ bs ∧ mj_thr hd Q k pc ls c (os, bc, bs - 6, false)
    | _, _ => False
  | _ => False
end MJ
def mj_sg (call : Nat → List Value → mj_H → (mj_R → Prop) → Prop) (cst : Nat → Option (Nat × (Nat → Int32))) (nw : mj_N) (hd : Nat → Nat → Option (Option (Nat × Nat))) (code : mj_C) (J : Nat → mj_L → List Value → mj_H → Prop) (Q : mj_R → Prop) : Nat → Bool → Nat → mj_L → List Value → mj_H → Prop
  | 0, _, _, _, _, _ => False
  | f + 1, fst, pc, ls, st, h => match mj_nth code pc with
    | none => False
    | some (cu, i) => match cu, fst with
      | true, false => J pc ls st h
      | _, _ => mj_stp call cst nw hd Q (mj_sg call cst nw hd code J Q f false) i pc ls st h
def mj_Wp (call : Nat → List Value → mj_H → (mj_R → Prop) → Prop) (cst : Nat → Option (Nat × (Nat → Int32))) (nw : mj_N) (hd : Nat → Nat → Option (Option (Nat × Nat))) (code : mj_C) (Q : mj_R → Prop) (pc : Nat) (ls : mj_L) (st : List Value) (h : mj_H) : Prop :=
  ∀ J : Nat → mj_L → List Value → mj_H → Prop, (∀ pc ls st h, mj_sg call cst nw hd code J Q 400 true pc ls st h → J pc ls st h) → J pc ls st h
abbrev mj_X : Type := List (Nat × Nat × Nat × Nat × Nat)
def mj_hd (off : Nat → Nat) : mj_X → Nat → Nat → Option (Option (Nat × Nat))
  | [], _, _ => some none
  | (a, b, t, j, q0) :: r, pc, q => match Nat.ble a (off pc) && Nat.blt (off pc) b with
    | true => match Nat.beq q q0 with
      | true => some (some (t, j))
      | false => match Nat.blt q 2, mj_hd off r pc q with
        | true, some (some x) => some (some x)
        | _, _ => none
    | false => mj_hd off r pc q
def mj_off (os : List Nat) (pc : Nat) : Nat := (mj_nth os pc).getD 0
abbrev mj_T : Type := Nat → Option (mj_C × Nat × List Nat × mj_X)
def mj_Mt (T : mj_T) (cst : Nat → Option (Nat × (Nat → Int32))) (nw : mj_N) : Nat → Nat → List Value → mj_H → (mj_R → Prop) → Prop
  | 0, _, _, _, _ => False
  | n + 1, y, as, h, Q => match T y with
    | none => False
    | some (code, nL, os, hx) => match Nat.ble (mj_wt as) nL with
      | true => mj_Wp (mj_Mt T cst nw n) cst nw (mj_hd (mj_off os) hx) code Q 0 (mj_lay as nL) [] h
      | false => False
end
section
theorem mj_nth_get {α : Type} (l : List α) (i : Nat) : mj_nth l i = l[i]? := by
  induction l generalizing i with
  | nil => cases i <;> rfl
  | cons a l ih => cases i with
    | zero => rfl
    | succ n => simpa [mj_nth] using ih n
theorem mj_stn_set {α : Type} (l : List α) (i : Nat) (b : α) : mj_stn l i b = l.set i b := by
  induction l generalizing i with
  | nil => cases i <;> rfl
  | cons a l ih => cases i with
    | zero => rfl
    | succ n => simpa [mj_stn] using ih n
def mj_tr (ad : Nat → Nat) : Value → Value
  | .ref i => .ref (ad i)
  | .retAddr _ => if ad 1999 = 0 then .null else .ref (ad 1999 - 1)
  | v => v
theorem mj_tr_cat (ad : Nat → Nat) (v : Value) : (mj_tr ad v).category = v.category := by
  cases v with
  | retAddr x =>
    show (if ad 1999 = 0 then Value.null else .ref (ad 1999 - 1)).category = 1
    split <;> rfl
  | _ => rfl
theorem mj_wt_tr (ad : Nat → Nat) (st : List Value) : mj_wt (st.map (mj_tr ad)) = mj_wt st := by
  unfold mj_wt
  induction st with
  | nil => rfl
  | cons v st ih => simp only [List.map_cons, List.sum_cons, mj_tr_cat]; rw [ih]
def mj_lv (ad : Nat → Nat) : Nat → mj_L → List (Nat × Value)
  | _, [] => []
  | i, none :: r => mj_lv ad (i + 1) r
  | i, some v :: r => (i, mj_tr ad v) :: mj_lv ad (i + 1) r
theorem mj_lv_mem {ad : Nat → Nat} {i : Nat} {ls : mj_L} {q : Nat × Value} : q ∈ mj_lv ad i ls ↔ ∃ (j : Nat) (v : Value), ls[j]? = some (some v) ∧ q = (i + j, mj_tr ad v) := by
  induction ls generalizing i with
  | nil => simp [mj_lv]
  | cons a r ih =>
    cases a with
    | none =>
      simp only [mj_lv, ih]
      constructor
      · rintro ⟨j, v, h, rfl⟩
        exact ⟨j + 1, v, by simpa using h, by rw [Nat.add_assoc, Nat.add_comm 1 j]⟩
      · rintro ⟨j, v, h, rfl⟩
        cases j with
        | zero => simp at h
        | succ j => exact ⟨j, v, by simpa using h, by rw [Nat.add_assoc, Nat.add_comm 1 j]⟩
    | some w =>
      simp only [mj_lv, List.mem_cons, ih]
      constructor
      · rintro (rfl | ⟨j, v, h, rfl⟩)
        · exact ⟨0, w, by simp, by simp⟩
        · exact ⟨j + 1, v, by simpa using h, by rw [Nat.add_assoc, Nat.add_comm 1 j]⟩
      · rintro ⟨j, v, h, rfl⟩
        cases j with
        | zero => left; simp at h; subst h; simp
        | succ j => right; exact ⟨j, v, by simpa using h, by rw [Nat.add_assoc, Nat.add_comm 1 j]⟩
theorem mj_kill_at {ls : mj_L} {n j : Nat} {u : Value} (h : (mj_kill ls n)[j]? = some (some u)) : ls[j]? = some (some u) ∧ ¬ (j + 1 = n ∧ u.category = 2) := by
  cases n with
  | zero => exact ⟨h, by omega⟩
  | succ k =>
    simp only [mj_kill] at h
    rw [mj_nth_get] at h
    split at h
    · next x hx =>
      rw [mj_stn_set] at h
      by_cases hj : j = k
      · subst hj
        rw [List.getElem?_set_self (List.getElem?_eq_some_iff.mp hx).1] at h
        cases h
      · rw [List.getElem?_set_ne (fun e => hj e.symm)] at h
        exact ⟨h, by omega⟩
    · next x hx =>
      rw [mj_stn_set] at h
      by_cases hj : j = k
      · subst hj
        rw [List.getElem?_set_self (List.getElem?_eq_some_iff.mp hx).1] at h
        cases h
      · rw [List.getElem?_set_ne (fun e => hj e.symm)] at h
        exact ⟨h, by omega⟩
    · next h1 h2 =>
      refine ⟨h, ?_⟩
      rintro ⟨e, hc⟩
      have e : j = k := by omega
      subst e
      cases u with
      | long x => exact h1 x h
      | double x => exact h2 x h
      | _ => simp [Value.category] at hc
theorem mj_lv_st1 {ad : Nat → Nat} {L' : Array Slot} {nL n : Nat} {ls : mj_L} {v : Value} (h : lv_has L' nL ((n, mj_tr ad v) :: (mj_lv ad 0 ls).filter (fun q => !(q.1 == n) && !(q.1 + 1 == n && q.2.category == 2)))) : lv_has L' nL (mj_lv ad 0 (mj_st1 ls n v)) := by
  refine ⟨h.1, h.2.1, fun q hq => h.2.2 q ?_⟩
  obtain ⟨j, u, hu, rfl⟩ := mj_lv_mem.mp hq
  unfold mj_st1 at hu
  rw [mj_stn_set] at hu
  by_cases hj : j = n
  · subst hj
    have hl : j < (mj_kill ls j).length := by
      have := (List.getElem?_eq_some_iff.mp hu).1
      simpa using this
    rw [List.getElem?_set_self hl] at hu
    cases hu
    simp
  · rw [List.getElem?_set_ne (fun e => hj e.symm)] at hu
    obtain ⟨h1, h2⟩ := mj_kill_at hu
    refine List.mem_cons_of_mem _ (List.mem_filter.mpr ⟨mj_lv_mem.mpr ⟨j, u, h1, rfl⟩, ?_⟩)
    simp only [mj_tr_cat, Nat.zero_add]
    have : (j == n) = false := by simpa using hj
    rw [this]
    by_cases e : j + 1 = n
    · have : ¬ u.category = 2 := fun e2 => h2 ⟨e, e2⟩
      simp [this]
    · simp [e]
theorem mj_lv_st2 {ad : Nat → Nat} {L' : Array Slot} {nL n : Nat} {ls : mj_L} {v : Value} (h : lv_has L' nL ((n, mj_tr ad v) :: (mj_lv ad 0 ls).filter (fun q => !(q.1 == n) && (!(q.1 == n + 1) && !(q.1 + 1 == n && q.2.category == 2))))) : lv_has L' nL (mj_lv ad 0 (mj_st2 ls n v)) := by
  refine ⟨h.1, h.2.1, fun q hq => h.2.2 q ?_⟩
  obtain ⟨j, u, hu, rfl⟩ := mj_lv_mem.mp hq
  unfold mj_st2 at hu
  rw [mj_stn_set, mj_stn_set] at hu
  by_cases hj1 : j = n + 1
  · subst hj1
    have hl := (List.getElem?_eq_some_iff.mp hu).1
    rw [List.getElem?_set_self (by simpa using hl)] at hu
    cases hu
  rw [List.getElem?_set_ne (fun e => hj1 e.symm)] at hu
  by_cases hj : j = n
  · subst hj
    have hl : j < (mj_kill ls j).length := by
      have := (List.getElem?_eq_some_iff.mp hu).1
      simpa using this
    rw [List.getElem?_set_self hl] at hu
    cases hu
    simp
  · rw [List.getElem?_set_ne (fun e => hj e.symm)] at hu
    obtain ⟨h1, h2⟩ := mj_kill_at hu
    refine List.mem_cons_of_mem _ (List.mem_filter.mpr ⟨mj_lv_mem.mpr ⟨j, u, h1, rfl⟩, ?_⟩)
    simp only [mj_tr_cat, Nat.zero_add]
    have : (j == n) = false := by simpa using hj
    rw [this]
    have : (j == n + 1) = false := by simpa using hj1
    rw [this]
    by_cases e : j + 1 = n
    · have : ¬ u.category = 2 := fun e2 => h2 ⟨e, e2⟩
      simp [this]
    · simp [e]
theorem mj_lv_stx {ad : Nat → Nat} {L' : Array Slot} {nL n : Nat} {ls : mj_L} {w : Value} (h : lv_has L' nL ((n, w) :: (mj_lv ad 0 ls).filter (fun q => !(q.1 == n) && !(q.1 + 1 == n && q.2.category == 2)))) : lv_has L' nL (mj_lv ad 0 (mj_stn (mj_kill ls n) n none)) := by
  refine ⟨h.1, h.2.1, fun q hq => h.2.2 q ?_⟩
  obtain ⟨j, u, hu, rfl⟩ := mj_lv_mem.mp hq
  rw [mj_stn_set] at hu
  by_cases hj : j = n
  · subst hj
    have hl := (List.getElem?_eq_some_iff.mp hu).1
    rw [List.getElem?_set_self (by simpa using hl)] at hu
    cases hu
  · rw [List.getElem?_set_ne (fun e => hj e.symm)] at hu
    obtain ⟨h1, h2⟩ := mj_kill_at hu
    refine List.mem_cons_of_mem _ (List.mem_filter.mpr ⟨mj_lv_mem.mpr ⟨j, u, h1, rfl⟩, ?_⟩)
    simp only [mj_tr_cat, Nat.zero_add]
    have : (j == n) = false := by simpa using hj
    rw [this]
    by_cases e : j + 1 = n
    · have : ¬ u.category = 2 := fun e2 => h2 ⟨e, e2⟩
      simp [this]
    · simp [e]
theorem mj_lv_rep (ad : Nat → Nat) (i n : Nat) : mj_lv ad i (List.replicate n none) = [] := by
  induction n generalizing i with
  | zero => rfl
  | succ n ih => simpa [List.replicate_succ, mj_lv] using ih (i + 1)
theorem mj_lv_lay (ad : Nat → Nat) (as : List Value) (i n : Nat) : mj_lv ad i (mj_lay as n) = lv_args i (as.map (mj_tr ad)) := by
  induction as generalizing i n with
  | nil => simpa [mj_lay, lv_args] using mj_lv_rep ad i n
  | cons v r ih =>
    cases v <;> first
      | (simp [mj_lay, mj_lv, lv_args, mj_tr, Value.category, ih]; done)
      | (by_cases hz : ad 1999 = 0 <;> simp [mj_lay, mj_lv, lv_args, mj_tr, Value.category, ih, hz])
theorem mj_pop_eq {n : Nat} {st acc as r : List Value} (h : mj_pop n st acc = some (as, r)) : ∃ f : List Value, st = f ++ r ∧ as = f.reverse ++ acc ∧ f.length = n := by
  induction n generalizing st acc with
  | zero => simp only [mj_pop, Option.some.injEq, Prod.mk.injEq] at h; exact ⟨[], by simp [h.2], by simp [h.1], rfl⟩
  | succ n ih =>
    cases st with
    | nil => simp [mj_pop] at h
    | cons v st =>
      obtain ⟨f, h1, h2, h3⟩ := ih (show mj_pop n st (v :: acc) = some (as, r) from h)
      exact ⟨v :: f, by rw [h1]; rfl, by rw [h2]; simp, by simp [h3]⟩
end
section
def mj_A (z : Nat → Prop) : Nat → Prop := z
abbrev mj_B : Type := (Nat → Nat) × (Nat → Nat) × (Nat → Nat → Int32) × (Nat → Int32)
def mj_tc (tys : List (ClassId × FieldType)) (t : Nat) : ClassId := ((tys[t]?).map (·.1)).getD 0
def mj_en (tys : List (ClassId × FieldType)) (ad : Nat → Nat) (bi : Nat) (b : mj_B) (i : Nat) : mj_O → Nat × va_E
  | .inl (t, a) => (ad i, .inl (mj_tc tys t, a))
  | .inr (.inl (ci, fs)) => (ad i, .inr (ci, fs.map (mj_tr ad)))
  | .inr (.inr (.inl (n, _))) => (ad i, .inr (bi, [.ref (b.1 i), .int 0, .int (b.2.2.2 i), .int (nI n)]))
  | .inr (.inr (.inr _)) => (b.1 (i - 1), .inl (mj_tc tys 4, b.2.1 (i - 1), .inl (b.2.2.1 (i - 1))))
def mj_ws (tys : List (ClassId × FieldType)) (ad : Nat → Nat) (bi : Nat) (b : mj_B) : Nat → List mj_O → va_W
  | _, [] => []
  | i, o :: r => mj_en tys ad bi b i o :: mj_ws tys ad bi b (i + 1) r
theorem mj_ws_at {tys : List (ClassId × FieldType)} {ad : Nat → Nat} {bi : Nat} {b : mj_B} {k i : Nat} {os : List mj_O} {o : mj_O} (h : mj_nth os i = some o) : (mj_ws tys ad bi b k os)[i]? = some (mj_en tys ad bi b (k + i) o) := by
  induction os generalizing k i with
  | nil => simp [mj_nth] at h
  | cons a r ih =>
    cases i with
    | zero => simp only [mj_nth, Option.some.injEq] at h; subst h; simp [mj_ws]
    | succ j =>
      have h1 : mj_nth r j = some o := h
      simp only [mj_ws, List.getElem?_cons_succ]
      rw [ih (k := k + 1) h1, show k + 1 + j = k + (j + 1) by omega]
theorem mj_ws_len {tys : List (ClassId × FieldType)} {ad : Nat → Nat} {bi : Nat} {b : mj_B} {k : Nat} {os : List mj_O} : (mj_ws tys ad bi b k os).length = os.length := by
  induction os generalizing k with
  | nil => rfl
  | cons a r ih => simp [mj_ws, ih]
theorem mj_ws_set {tys : List (ClassId × FieldType)} {ad : Nat → Nat} {bi : Nat} {b : mj_B} {k i : Nat} {os : List mj_O} {o : mj_O} : (mj_ws tys ad bi b k os).set i (mj_en tys ad bi b (k + i) o) = mj_ws tys ad bi b k (mj_stn os i o) := by
  induction os generalizing k i with
  | nil => cases i <;> rfl
  | cons a r ih =>
    cases i with
    | zero => simp [mj_ws, mj_stn]
    | succ j =>
      simp only [mj_ws, mj_stn, List.set_cons_succ]
      rw [← ih (k := k + 1), show k + 1 + j = k + (j + 1) by omega]
theorem mj_ws_app {tys : List (ClassId × FieldType)} {ad : Nat → Nat} {bi : Nat} {b : mj_B} {k : Nat} {os : List mj_O} {o : mj_O} : mj_ws tys ad bi b k (os ++ [o]) = mj_ws tys ad bi b k os ++ [mj_en tys ad bi b (k + os.length) o] := by
  induction os generalizing k with
  | nil => simp [mj_ws]
  | cons a r ih =>
    simp only [List.cons_append, mj_ws, ih, List.length_cons]
    rw [show k + 1 + r.length = k + (r.length + 1) by omega]
def mj_bd (b : mj_B) (os : List mj_O) : Prop := ∀ (i n : Nat) (f : Nat → Nat), mj_nth os i = some (.inr (.inr (.inl (n, f)))) →
  mj_nth os (i + 1) = some (.inr (.inr (.inr ()))) ∧ n ≤ b.2.1 i ∧ b.2.1 i ≤ 65536 ∧ sb_Lat f n (b.2.2.1 i) ∧ sb_Fit (b.2.2.1 i)
def mj_nu (ad : Nat → Nat) (k : Nat) (H : Heap) : Prop := H.size = ad k ∧ ∀ i, k ≤ i → i < 999 → ad (i + 1) = ad i + 1
def mj_rep (D : va_G) (cl : List vw_C) (tys : List (ClassId × FieldType)) (ad : Nat → Nat) (bi : Nat) (z : Nat → Prop) (h : mj_H) (H : Heap) : Prop :=
  (∃ b : mj_B, va_P D cl (mj_ws tys ad bi b 0 h.1) H ∧ va_D (mj_A z) (mj_ws tys ad bi b 0 h.1) ∧ mj_bd b h.1) ∧ (h.2.2.2 = true → mj_nu ad h.1.length H) ∧ (∀ (q : Nat) (cell : Cell), z q → H[q]? = some cell → cell.vm.isStatics = false) ∧ ∀ q : Nat, H.size ≤ q → z q
theorem mj_at_vm {D : va_G} {cl : List vw_C} {q : Nat × va_E} {H : Heap} {cell : Cell} (h : va_at D cl q H) (hc : H[q.1]? = some cell) : cell.vm.isStatics = false := by
  obtain ⟨a, e⟩ := q
  rcases e with ⟨cA, n, x⟩ | ⟨ci, fs⟩
  · have h1 : H[a]? = some (vp_cell cA (n, x)) := h
    have h2 : cell = vp_cell cA (n, x) := Option.some.inj (hc.symm.trans h1)
    subst h2
    rcases x with x | x | x | x | x <;> rfl
  · obtain ⟨r, -, cell', q1, q2, q3, -⟩ := h
    have h2 : cell = cell' := Option.some.inj (hc.symm.trans q1)
    subst h2
    rw [q3]
    rfl
end
section
section MJR
variable {p : Program} {l : Launch} {e : Env} {R : Room} {s : State} {m : MethodId} {args : Array Value} {below : List Frame} {meth : Method} {c : Code} {H : Heap} {locs : List Loc} {cells slots : Nat}
def mj_Z (below : List Frame) (s : State) (Qo : Outcome → State → Prop) : State → Prop := fun t => ∃ o, t.status = .running ∧ Ended t below o ∧ Qo o t
def mj_fe (s : State) (t : State) (L : List Loc) (k n : Nat) : Prop := s.WarmedH t.vm ∧ s.sameButNew ({ t with vm := s.vm } : State) L k n
theorem mj_iret {cc : ByteArray} {Qo : Outcome → State → Prop} {v : Int32} {ty : FieldType} (hexec : p.tables.exec = Jvm.exec) (hb : c.code = cc) (hr : meth.sig.returnType = some ty) (hn : narrow ty (.int v) = .int v) (hlocks : meth.locks = false)
    (hq : ∀ t : State, t.heap = H → mj_fe s t locs cells slots → Qo (.returned (some (.int v))) t)
    {pc : Nat} {ls : Array Slot} (hdg : decode cc pc = .ok (.ireturn, 1)) : W p l e R s m args below meth c H locs cells slots (mj_Z below s Qo) (F0 m pc ls [.int v]) := by
  intro T hT X
  obtain ⟨fs, hret, hrun, hended, hW, hframe⟩ := X.leave (v := some (.int v)) (hlocks := hlocks) (fun h => by rw [hr] at h; cases h)
  have hmeth' : T.vm.method? m = some meth := X.method'
  refine ⟨T.setFrames fs, ?_, .returned (some (.int v)), hrun, hended, hq _ hT ⟨hW, hframe⟩⟩
  jvm_step X.here [X.here.top, hexec, hb, hdg, hmeth', hr, hn]
  (try refine ⟨rfl, ?_⟩); (try refine ⟨rfl, ?_⟩)
  first | (intro acts; rw [hret _ acts rfl rfl rfl]) | rw [hret _ _ rfl rfl rfl]
  exact Steps.refl _
theorem mj_vret {cc : ByteArray} {Qo : Outcome → State → Prop} (hexec : p.tables.exec = Jvm.exec) (hb : c.code = cc) (hr : meth.sig.returnType = none) (hlocks : meth.locks = false)
    (hq : ∀ t : State, t.heap = H → mj_fe s t locs cells slots → Qo (.returned none) t)
    {pc : Nat} {ls : Array Slot} (hdg : decode cc pc = .ok (.return_, 1)) : W p l e R s m args below meth c H locs cells slots (mj_Z below s Qo) (F0 m pc ls []) := by
  intro T hT X
  obtain ⟨fs, hret, hrun, hended, hW, hframe⟩ := X.leave (v := none) (hlocks := hlocks) (fun _ => rfl)
  have hmeth' : T.vm.method? m = some meth := X.method'
  refine ⟨T.setFrames fs, ?_, .returned none, hrun, hended, hq _ hT ⟨hW, hframe⟩⟩
  jvm_step X.here [X.here.top, hexec, hb, hdg, hmeth', hr]
  (try refine ⟨rfl, ?_⟩); (try refine ⟨rfl, ?_⟩)
  first | (intro acts; rw [hret _ acts rfl rfl rfl]) | rw [hret _ _ rfl rfl rfl]
  exact Steps.refl _
theorem mj_lret {cc : ByteArray} {Qo : Outcome → State → Prop} {v : Int64} (hexec : p.tables.exec = Jvm.exec) (hb : c.code = cc) (hr : meth.sig.returnType = some .long) (hlocks : meth.locks = false)
    (hq : ∀ t : State, t.heap = H → mj_fe s t locs cells slots → Qo (.returned (some (.long v))) t)
    {pc : Nat} {ls : Array Slot} (hdg : decode cc pc = .ok (.lreturn, 1)) : W p l e R s m args below meth c H locs cells slots (mj_Z below s Qo) (F0 m pc ls [.long v]) := by
  intro T hT X
  obtain ⟨fs, hret, hrun, hended, hW, hframe⟩ := X.leave (v := some (.long v)) (hlocks := hlocks) (fun h => by rw [hr] at h; cases h)
  have hmeth' : T.vm.method? m = some meth := X.method'
  refine ⟨T.setFrames fs, ?_, .returned (some (.long v)), hrun, hended, hq _ hT ⟨hW, hframe⟩⟩
  jvm_step X.here [X.here.top, hexec, hb, hdg, hmeth', hr, narrow]
  (try refine ⟨rfl, ?_⟩); (try refine ⟨rfl, ?_⟩)
  first | (intro acts; rw [hret _ acts rfl rfl rfl]) | rw [hret _ _ rfl rfl rfl]
  exact Steps.refl _
theorem mj_aret {cc : ByteArray} {Qo : Outcome → State → Prop} {v : Nat} {ty : FieldType} (hexec : p.tables.exec = Jvm.exec) (hb : c.code = cc) (hr : meth.sig.returnType = some ty) (hn : ty.isReference = true) (hlocks : meth.locks = false)
    (hq : ∀ t : State, t.heap = H → mj_fe s t locs cells slots → Qo (.returned (some (.ref v))) t)
    {pc : Nat} {ls : Array Slot} (hdg : decode cc pc = .ok (.areturn, 1)) : W p l e R s m args below meth c H locs cells slots (mj_Z below s Qo) (F0 m pc ls [.ref v]) := by
  intro T hT X
  obtain ⟨fs, hret, hrun, hended, hW, hframe⟩ := X.leave (v := some (.ref v)) (hlocks := hlocks) (fun h => by rw [hr] at h; cases h)
  have hmeth' : T.vm.method? m = some meth := X.method'
  refine ⟨T.setFrames fs, ?_, .returned (some (.ref v)), hrun, hended, hq _ hT ⟨hW, hframe⟩⟩
  jvm_step X.here [X.here.top, hexec, hb, hdg, hmeth', hr]
  refine ⟨rfl, hn, ?_⟩
  (try refine ⟨rfl, ?_⟩); (try refine ⟨rfl, ?_⟩)
  first | (intro acts; rw [hret _ acts rfl rfl rfl]) | rw [hret _ _ rfl rfl rfl]
  exact Steps.refl _
theorem mj_back {y : MethodName} {ws : List Cond} {rm : Room} {P : Array Value → State → Prop} {Qy : Array Value → State → Outcome → State → Prop} {bytes : ByteArray} {maxL Wt len : Nat} {ret : Option FieldType} {hh : List (Nat × Nat × Nat × Nat)} {ig : Instr} {U : State}
    (hM : MetFree l y (headSpec ws rm) P (fun _ _ _ _ _ => True) Qy)
    (hframes : rm.frames + 1 ≤ R.frames) (hlocals : Wt + (maxL + 11) + rm.locals ≤ R.locals)
    (X : Stand p l e R s m args below meth c U locs cells slots) {g : JFrame} (hg : g.method = m) (hsize : g.locals.size = c.maxLocals) (hdg : decode c.code g.pc = .ok (ig, len)) (hW : 2 * g.monitorRoom + (g.stack.map fun v => v.category).sum ≤ Wt)
    {mk : MethodId} {a : Array Value} (hn : U.methodNamed? y = some mk)
    (hpre : ∀ w ∈ ws, w.before a U = true) (hcode : (Cond.code y bytes maxL ret).before a U = true ∨ (Cond.codeWith y bytes maxL ret hh).before a U = true) (hinit : (Cond.initialized y.cls).before a U = true)
    (hcells : cells + rm.cells ≤ R.cells) (hslots : slots + rm.slots ≤ R.slots) (hP : P a (U.calling g mk a))
    (hQ : ∀ o t, Qy a (U.calling g mk a) o t → ∃ L k n, mj_fe (U.calling g mk a) t L k n) :
    ∃ (o : Outcome) (t : State), Qy a (U.calling g mk a) o t ∧ ∀ (L : List Loc) (k n : Nat), mj_fe (U.calling g mk a) t L k n → ∃ U' : State, U'.heap = t.heap ∧ U'.vm = t.vm ∧ Stand p l e R s m args below meth c U' (locs ++ L) (cells + k) (slots + n) ∧
      (∀ v, o = .returned v → ∀ target, Steps p.tables e below (U'.setTop { g with pc := g.pc + len, stack := v.toList ++ g.stack }) target → Steps p.tables e below (doInvoke e (U.setTop g) [] mk a).1 target) ∧
      (∀ x, o = .threw x → ∀ target, Steps p.tables e below ((U'.setTop g).pushFrame (.throwing x)) target → Steps p.tables e below (doInvoke e (U.setTop g) [] mk a).1 target) := by
  obtain ⟨methY, cY, hmY, hcY, hlY⟩ : ∃ methY cY, U.vm.method? mk = some methY ∧ methY.code = some cY ∧ cY.maxLocals = maxL := by
    rcases hcode with hcode | hcode
    · obtain ⟨methY, cY, hmY, hcY, -, hlY, -⟩ := Cond.code_spec hn hcode
      exact ⟨methY, cY, hmY, hcY, hlY⟩
    · obtain ⟨m9, methY, cY, hn9, hmY, hcY, -, hlY, -⟩ := Cond.codeWith_spec hcode
      cases hn.symm.trans hn9
      exact ⟨methY, cY, hmY, hcY, hlY⟩
  obtain ⟨kY, hkY, -⟩ := className_of_methodNamed hn
  have hinitY : kY.init = .initialized := Cond.initialized_spec (findClass_of_methodNamed hn) hkY hinit
  have h : At U g.method c below := by rw [hg]; exact X.here
  have happ : (headSpec ws rm).appliesLoose y e.platform (U.calling g mk a) = true :=
    Spec.appliesLoose_calling (g := g) h hdg hn hkY hinitY
      (X.room_calling (g := g) (R' := (headSpec ws rm).room) hsize hmY hcY hframes (by rw [hlY]; show _ + rm.locals ≤ _; omega) hcells hslots) (atoms_intro hpre)
  obtain ⟨mid, hmid⟩ := h.above
  have hfr : (U.setTop g).frames = (.java g :: mid) ++ below := by rw [State.frames_setTop' g h.top, hmid]; rfl
  obtain ⟨o, s₂, hsteps, -, hend, hq⟩ := Steps.callFree hM p X.admits X.cas X.clock (acts := []) hfr happ hP trivial
  have hq' : Qy a (U.calling g mk a) o s₂ := hq
  rw [State.frames_setTop' g h.top] at hend
  refine ⟨o, s₂, hq', fun L k n hfe => ?_⟩
  cases o with
  | returned v =>
    obtain ⟨hW₂, e2, q2, q3, q4, q5, q6⟩ := id hfe
    have e3 : s₂ = ({ (U.calling g mk a).setFrames s₂.frames with heap := s₂.heap, slotsUsed := s₂.slotsUsed } : State).setVm s₂.vm := by
      have : s₂ = ({ s₂ with vm := (U.calling g mk a).vm } : State).setVm s₂.vm := rfl
      rw [e2] at this
      exact this
    obtain ⟨c₂, i₂, len₂, hc₂, hd₂, hf₂⟩ := hend
    have hW' : U.WarmedH s₂.vm := hW₂
    have hcc : c₂ = c := by
      have h1 : s₂.code? g.method = U.code? g.method := by
        rw [State.code?_eq, State.code?_eq, hW'.alike.method?]
      exact Option.some.inj (hc₂.symm.trans (h1.trans h.code))
    subst hcc
    have hlen : len₂ = len := by rw [hdg] at hd₂; cases hd₂; rfl
    subst hlen
    obtain ⟨g₀, hg0⟩ := Option.isSome_iff_exists.mp h.top
    obtain ⟨r, hr⟩ := State.topJava?_eq_some.mp hg0
    have hs₂ : s₂ = (({ U with heap := s₂.heap, slotsUsed := s₂.slotsUsed } : State).setVm s₂.vm).setTop { g with pc := g.pc + len₂, stack := v.toList ++ g.stack } := by
      have hr' : (({ U with heap := s₂.heap, slotsUsed := s₂.slotsUsed } : State).setVm s₂.vm).frames = .java g₀ :: r := hr
      refine e3.trans ?_
      rw [hf₂, State.calling_eq h.top, State.setFrames_setFrames, State.setTop_of_frames _ hr', hr]
      rfl
    have hsame : U.sameButNew ({ U with heap := s₂.heap, slotsUsed := s₂.slotsUsed } : State) L k n := by
      refine ⟨?_, q2, q3, q4, q5, q6⟩
      obtain ⟨t, ht, -⟩ := State.frames_cons hr
      show ({ U with heap := s₂.heap, slotsUsed := s₂.slotsUsed } : State) = { U.setFrames U.frames with heap := s₂.heap, slotsUsed := s₂.slotsUsed }
      rw [State.setFrames_self ht]
    subst hg
    refine ⟨(({ U with heap := s₂.heap, slotsUsed := s₂.slotsUsed } : State).setVm s₂.vm), rfl, rfl,
      ⟨X.admits, X.cas, X.clock, X.frames, X.room, X.hears, X.method, X.code, (X.here.setHeapUsed s₂.heap s₂.slotsUsed).setVm hW'.alike, X.tail, State.WarmedH.trans X.warmed hW', X.limits, X.bytes, X.same.trans (hsame.setVm s.vm)⟩, fun w hw target ht => ?_, fun x hx => by cases hx⟩
    cases hw
    rw [hs₂] at hsteps
    exact hsteps.trans ht
  | threw x =>
    obtain ⟨hW₂, hsame⟩ := hfe
    have hend' : Ended s₂ (.java g :: below) (.threw x) := by
      have e0 : U.frames.tail = below := X.tail
      rw [e0] at hend
      exact hend
    obtain ⟨T', X', hw', hs', ht'⟩ := X.outOfThrown hg hend' hW₂ hsame
    refine ⟨T', ?_, ?_, X', fun v hv => (by cases hv), fun z hz target ht => ?_⟩
    · rw [ht', Stand.throwing_heap]
    · rw [ht', Stand.throwing_vm]
    · cases hz
      rw [ht'] at hsteps
      exact hsteps.trans ht
end MJR
end
section
def mj_ok (TS : List Cond) (own : String) (cc : ByteArray) (nL : Nat) (off : Nat → Nat) (rt : Option FieldType) (pc : Nat) (i : Instr) : Prop := match i with
  | .iconst v => (decode cc (off pc) = .ok (.iconst v, 1) ∧ off (pc + 1) = off pc + 1) ∨ (decode cc (off pc) = .ok (.bipush v, 2) ∧ off (pc + 1) = off pc + 2 ∧ (Int8.ofInt v).toInt32 = Int32.ofInt v) ∨ (decode cc (off pc) = .ok (.sipush v, 3) ∧ off (pc + 1) = off pc + 3 ∧ (Int16.ofInt v).toInt32 = Int32.ofInt v) ∨ (∃ j, decode cc (off pc) = .ok (.ldc j, 2) ∧ off (pc + 1) = off pc + 2 ∧ Jvm.Cond.constant own j (Int32.ofInt v) ∈ TS)
  | .ldc2_w n => (∃ f : Fin 2, (f : Nat) = n ∧ decode cc (off pc) = .ok (.lconst f, 1) ∧ off (pc + 1) = off pc + 1) ∨ (∃ j, decode cc (off pc) = .ok (.ldc2_w j, 3) ∧ off (pc + 1) = off pc + 3 ∧ Jvm.Cond.constantLong own j (Int64.ofNat n) ∈ TS)
  | .iload n => (∃ f : Fin 4, (f : Nat) = n ∧ decode cc (off pc) = .ok (.iload_n f, 1) ∧ off (pc + 1) = off pc + 1) ∨ (decode cc (off pc) = .ok (.iload n, 2) ∧ off (pc + 1) = off pc + 2)
  | .lload n => (∃ f : Fin 4, (f : Nat) = n ∧ decode cc (off pc) = .ok (.lload_n f, 1) ∧ off (pc + 1) = off pc + 1) ∨ (decode cc (off pc) = .ok (.lload n, 2) ∧ off (pc + 1) = off pc + 2)
  | .aload n => (∃ f : Fin 4, (f : Nat) = n ∧ decode cc (off pc) = .ok (.aload_n f, 1) ∧ off (pc + 1) = off pc + 1) ∨ (decode cc (off pc) = .ok (.aload n, 2) ∧ off (pc + 1) = off pc + 2)
  | .istore n => n < nL ∧ ((∃ f : Fin 4, (f : Nat) = n ∧ decode cc (off pc) = .ok (.istore_n f, 1) ∧ off (pc + 1) = off pc + 1) ∨ (decode cc (off pc) = .ok (.istore n, 2) ∧ off (pc + 1) = off pc + 2))
  | .lstore n => n + 1 < nL ∧ ((∃ f : Fin 4, (f : Nat) = n ∧ decode cc (off pc) = .ok (.lstore_n f, 1) ∧ off (pc + 1) = off pc + 1) ∨ (decode cc (off pc) = .ok (.lstore n, 2) ∧ off (pc + 1) = off pc + 2))
  | .astore n => n < nL ∧ ((∃ f : Fin 4, (f : Nat) = n ∧ decode cc (off pc) = .ok (.astore_n f, 1) ∧ off (pc + 1) = off pc + 1) ∨ (decode cc (off pc) = .ok (.astore n, 2) ∧ off (pc + 1) = off pc + 2))
  | .iinc n v => n < nL ∧ decode cc (off pc) = .ok (.iinc n v, 3) ∧ off (pc + 1) = off pc + 3
  | .ifCond q t => ∃ o : Int, decode cc (off pc) = .ok (.ifCond q o, 3) ∧ off (pc + 1) = off pc + 3 ∧ (off pc : Int) + o = (off t.toNat : Int)
  | .if_icmp q t => ∃ o : Int, decode cc (off pc) = .ok (.if_icmp q o, 3) ∧ off (pc + 1) = off pc + 3 ∧ (off pc : Int) + o = (off t.toNat : Int)
  | .goto t => ∃ o : Int, decode cc (off pc) = .ok (.goto o, 3) ∧ (off pc : Int) + o = (off t.toNat : Int)
  | .lookupswitch d ps => (∃ (d' : Int) (ps' : Array (Int × Int)) (len : Nat), decode cc (off pc) = .ok (.lookupswitch d' ps', len) ∧ (ps'.toList.zip (ps'.toList.drop 1)).all (fun (a, b) => a.1 < b.1) = true ∧ (off pc : Int) + d' = (off d.toNat : Int) ∧ ps'.toList.length = ps.toList.length ∧ ∀ x ∈ ps'.toList.zip ps.toList, x.1.1 = x.2.1 ∧ (Int32.ofInt x.1.1).toInt = x.1.1 ∧ (off pc : Int) + x.1.2 = (off x.2.2.toNat : Int)) ∨
      (∃ (d' lo : Int) (os : Array Int) (len : Nat), decode cc (off pc) = .ok (.tableswitch d' lo (lo + os.size - 1) os, len) ∧ (off pc : Int) + d' = (off d.toNat : Int) ∧ os.toList.length = ps.toList.length ∧ ∀ j : Nat, j < os.size → ∃ (o t : Int), os[j]? = some o ∧ ps.toList[j]? = some (lo + j, t) ∧ (Int32.ofInt (lo + j)).toInt = lo + j ∧ (off pc : Int) + o = (off t.toNat : Int))
  | .ireturn => decode cc (off pc) = .ok (.ireturn, 1) ∧ rt = some .int
  | .freturn => decode cc (off pc) = .ok (.ireturn, 1) ∧ rt = some .boolean
  | .dreturn => decode cc (off pc) = .ok (.ireturn, 1) ∧ rt = some .char
  | .lreturn => decode cc (off pc) = .ok (.lreturn, 1) ∧ rt = some .long
  | .return_ => decode cc (off pc) = .ok (.return_, 1) ∧ rt = none
  | i => decode cc (off pc) = .ok (i, 1) ∧ off (pc + 1) = off pc + 1
section MJS
variable {p : Program} {l : Launch} {e : Env} {R : Room} {s : State} {m : MethodId} {args : Array Value} {below : List Frame} {meth : Method} {c : Code}
def mj_J (p : Program) (l : Launch) (e : Env) (R : Room) (s : State) (m : MethodId) (args : Array Value) (below : List Frame) (meth : Method) (c : Code) (D : va_G) (cl : List vw_C) (tys : List (ClassId × FieldType)) (ad : Nat → Nat) (bi : Nat) (z : Nat → Prop) (nL : Nat) (off : Nat → Nat) (QQ : State → Prop) (b0 b1 : Nat) (pc : Nat) (ls : mj_L) (st : List Value) (h : mj_H) : Prop :=
  ∀ (H : Heap) (locs : List Loc) (k n : Nat) (L : Array Slot), lv_has L nL (mj_lv ad 0 ls) → mj_rep D cl tys ad bi z h H → va_S (mj_A z) s.heap H locs → k + h.2.1 ≤ b0 → n + h.2.2.1 ≤ b1 →
    W p l e R s m args below meth c H locs k n QQ (F0 m (off pc) L (st.map (mj_tr ad)))
theorem mj_loc {ad : Nat → Nat} {L : Array Slot} {nL n : Nat} {ls : mj_L} {v : Value} (hl : lv_has L nL (mj_lv ad 0 ls)) (h : mj_nth ls n = some (some v)) : L[n]? = some (.val (mj_tr ad v)) := by
  rw [mj_nth_get] at h
  have := hl.2.2 (0 + n, mj_tr ad v) (mj_lv_mem.mpr ⟨n, v, h, rfl⟩)
  simpa using this
theorem mj_locAt {ad : Nat → Nat} {n : Nat} {ls : mj_L} {v : Value} (h : mj_nth ls n = some (some v)) : ∃ k : Nat, (mj_lv ad 0 ls)[k]? = some (n, mj_tr ad v) := by
  rw [mj_nth_get] at h
  have := mj_lv_mem (ad := ad) (i := 0).mpr ⟨n, v, h, rfl⟩
  rw [Nat.zero_add] at this
  exact List.mem_iff_getElem?.mp this
end MJS
end
section
section MJP
variable {p : Program} {l : Launch} {e : Env} {R : Room} {s : State} {m : MethodId} {args : Array Value} {below : List Frame} {meth : Method} {c : Code}
variable {D : va_G} {cl : List vw_C} {tys : List (ClassId × FieldType)} {ad : Nat → Nat} {bi : Nat} {z : Nat → Prop} {nL : Nat} {off : Nat → Nat} {QQ : State → Prop} {b0 b1 : Nat} {cc : ByteArray} {pc : Nat} {ls : mj_L} {r : List Value} {h : mj_H}
theorem mj_so_iadd (hx : p.tables.exec = Jvm.exec) (hb : c.code = cc) {x y : Int32} (hd : decode cc (off pc) = .ok (.iadd, 1)) (ho : off (pc + 1) = off pc + 1) (kk : mj_J p l e R s m args below meth c D cl tys ad bi z nL off QQ b0 b1 (pc + 1) ls (.int (x + y) :: r) h) : mj_J p l e R s m args below meth c D cl tys ad bi z nL off QQ b0 b1 pc ls (.int y :: .int x :: r) h := by
  intro H locs k n L hl hr hS h1 h2
  have K := kk H locs k n L hl hr hS h1 h2
  rw [ho] at K
  exact lv_iadd hx hb hd K
theorem mj_so_isub (hx : p.tables.exec = Jvm.exec) (hb : c.code = cc) {x y : Int32} (hd : decode cc (off pc) = .ok (.isub, 1)) (ho : off (pc + 1) = off pc + 1) (kk : mj_J p l e R s m args below meth c D cl tys ad bi z nL off QQ b0 b1 (pc + 1) ls (.int (x - y) :: r) h) : mj_J p l e R s m args below meth c D cl tys ad bi z nL off QQ b0 b1 pc ls (.int y :: .int x :: r) h := by
  intro H locs k n L hl hr hS h1 h2
  have K := kk H locs k n L hl hr hS h1 h2
  rw [ho] at K
  exact lv_isub hx hb hd K
theorem mj_so_imul (hx : p.tables.exec = Jvm.exec) (hb : c.code = cc) {x y : Int32} (hd : decode cc (off pc) = .ok (.imul, 1)) (ho : off (pc + 1) = off pc + 1) (kk : mj_J p l e R s m args below meth c D cl tys ad bi z nL off QQ b0 b1 (pc + 1) ls (.int (x * y) :: r) h) : mj_J p l e R s m args below meth c D cl tys ad bi z nL off QQ b0 b1 pc ls (.int y :: .int x :: r) h := by
  intro H locs k n L hl hr hS h1 h2
  have K := kk H locs k n L hl hr hS h1 h2
  rw [ho] at K
  exact lv_imul hx hb hd K
theorem mj_so_iand (hx : p.tables.exec = Jvm.exec) (hb : c.code = cc) {x y : Int32} (hd : decode cc (off pc) = .ok (.iand, 1)) (ho : off (pc + 1) = off pc + 1) (kk : mj_J p l e R s m args below meth c D cl tys ad bi z nL off QQ b0 b1 (pc + 1) ls (.int (x &&& y) :: r) h) : mj_J p l e R s m args below meth c D cl tys ad bi z nL off QQ b0 b1 pc ls (.int y :: .int x :: r) h := by
  intro H locs k n L hl hr hS h1 h2
  have K := kk H locs k n L hl hr hS h1 h2
  rw [ho] at K
  exact lv_iand hx hb hd K
theorem mj_so_ior (hx : p.tables.exec = Jvm.exec) (hb : c.code = cc) {x y : Int32} (hd : decode cc (off pc) = .ok (.ior, 1)) (ho : off (pc + 1) = off pc + 1) (kk : mj_J p l e R s m args below meth c D cl tys ad bi z nL off QQ b0 b1 (pc + 1) ls (.int (x ||| y) :: r) h) : mj_J p l e R s m args below meth c D cl tys ad bi z nL off QQ b0 b1 pc ls (.int y :: .int x :: r) h := by
  intro H locs k n L hl hr hS h1 h2
  have K := kk H locs k n L hl hr hS h1 h2
  rw [ho] at K
  exact lv_ior hx hb hd K
theorem mj_so_ixor (hx : p.tables.exec = Jvm.exec) (hb : c.code = cc) {x y : Int32} (hd : decode cc (off pc) = .ok (.ixor, 1)) (ho : off (pc + 1) = off pc + 1) (kk : mj_J p l e R s m args below meth c D cl tys ad bi z nL off QQ b0 b1 (pc + 1) ls (.int (x ^^^ y) :: r) h) : mj_J p l e R s m args below meth c D cl tys ad bi z nL off QQ b0 b1 pc ls (.int y :: .int x :: r) h := by
  intro H locs k n L hl hr hS h1 h2
  have K := kk H locs k n L hl hr hS h1 h2
  rw [ho] at K
  exact lv_ixor hx hb hd K
theorem mj_so_ishl (hx : p.tables.exec = Jvm.exec) (hb : c.code = cc) {x y : Int32} (hd : decode cc (off pc) = .ok (.ishl, 1)) (ho : off (pc + 1) = off pc + 1) (kk : mj_J p l e R s m args below meth c D cl tys ad bi z nL off QQ b0 b1 (pc + 1) ls (.int (x <<< (y &&& 31)) :: r) h) : mj_J p l e R s m args below meth c D cl tys ad bi z nL off QQ b0 b1 pc ls (.int y :: .int x :: r) h := by
  intro H locs k n L hl hr hS h1 h2
  have K := kk H locs k n L hl hr hS h1 h2
  rw [ho] at K
  exact lv_ishl hx hb hd K
theorem mj_so_ishr (hx : p.tables.exec = Jvm.exec) (hb : c.code = cc) {x y : Int32} (hd : decode cc (off pc) = .ok (.ishr, 1)) (ho : off (pc + 1) = off pc + 1) (kk : mj_J p l e R s m args below meth c D cl tys ad bi z nL off QQ b0 b1 (pc + 1) ls (.int (x >>> (y &&& 31)) :: r) h) : mj_J p l e R s m args below meth c D cl tys ad bi z nL off QQ b0 b1 pc ls (.int y :: .int x :: r) h := by
  intro H locs k n L hl hr hS h1 h2
  have K := kk H locs k n L hl hr hS h1 h2
  rw [ho] at K
  exact lv_ishr hx hb hd K
theorem mj_so_iushr (hx : p.tables.exec = Jvm.exec) (hb : c.code = cc) {x y : Int32} (hd : decode cc (off pc) = .ok (.iushr, 1)) (ho : off (pc + 1) = off pc + 1) (kk : mj_J p l e R s m args below meth c D cl tys ad bi z nL off QQ b0 b1 (pc + 1) ls (.int (x.toUInt32 >>> (y.toUInt32 &&& Int32.toUInt32 31)).toInt32 :: r) h) : mj_J p l e R s m args below meth c D cl tys ad bi z nL off QQ b0 b1 pc ls (.int y :: .int x :: r) h := by
  intro H locs k n L hl hr hS h1 h2
  have K := kk H locs k n L hl hr hS h1 h2
  rw [ho] at K
  exact lv_iushr hx hb hd rfl K
theorem mj_so_idiv (hx : p.tables.exec = Jvm.exec) (hb : c.code = cc) {x y : Int32} (hd : decode cc (off pc) = .ok (.idiv, 1)) (ho : off (pc + 1) = off pc + 1) (hne : ¬ y = 0) (kk : mj_J p l e R s m args below meth c D cl tys ad bi z nL off QQ b0 b1 (pc + 1) ls (.int (x / y) :: r) h) : mj_J p l e R s m args below meth c D cl tys ad bi z nL off QQ b0 b1 pc ls (.int y :: .int x :: r) h := by
  intro H locs k n L hl hr hS h1 h2
  have K := kk H locs k n L hl hr hS h1 h2
  rw [ho] at K
  exact lv_idiv hx hb hd hne K
theorem mj_so_irem (hx : p.tables.exec = Jvm.exec) (hb : c.code = cc) {x y : Int32} (hd : decode cc (off pc) = .ok (.irem, 1)) (ho : off (pc + 1) = off pc + 1) (hne : ¬ y = 0) (kk : mj_J p l e R s m args below meth c D cl tys ad bi z nL off QQ b0 b1 (pc + 1) ls (.int (x - x / y * y) :: r) h) : mj_J p l e R s m args below meth c D cl tys ad bi z nL off QQ b0 b1 pc ls (.int y :: .int x :: r) h := by
  intro H locs k n L hl hr hS h1 h2
  have K := kk H locs k n L hl hr hS h1 h2
  rw [ho] at K
  exact lv_irem hx hb hd hne K
theorem mj_so_ineg (hx : p.tables.exec = Jvm.exec) (hb : c.code = cc) {x : Int32} (hd : decode cc (off pc) = .ok (.ineg, 1)) (ho : off (pc + 1) = off pc + 1) (kk : mj_J p l e R s m args below meth c D cl tys ad bi z nL off QQ b0 b1 (pc + 1) ls (.int (-x) :: r) h) : mj_J p l e R s m args below meth c D cl tys ad bi z nL off QQ b0 b1 pc ls (.int x :: r) h := by
  intro H locs k n L hl hr hS h1 h2
  have K := kk H locs k n L hl hr hS h1 h2
  rw [ho] at K
  exact lv_ineg hx hb hd K
theorem mj_so_ladd (hx : p.tables.exec = Jvm.exec) (hb : c.code = cc) {x y : Int64} (hd : decode cc (off pc) = .ok (.ladd, 1)) (ho : off (pc + 1) = off pc + 1) (kk : mj_J p l e R s m args below meth c D cl tys ad bi z nL off QQ b0 b1 (pc + 1) ls (.long (x + y) :: r) h) : mj_J p l e R s m args below meth c D cl tys ad bi z nL off QQ b0 b1 pc ls (.long y :: .long x :: r) h := by
  intro H locs k n L hl hr hS h1 h2
  have K := kk H locs k n L hl hr hS h1 h2
  rw [ho] at K
  exact lv_ladd hx hb hd K
theorem mj_so_lsub (hx : p.tables.exec = Jvm.exec) (hb : c.code = cc) {x y : Int64} (hd : decode cc (off pc) = .ok (.lsub, 1)) (ho : off (pc + 1) = off pc + 1) (kk : mj_J p l e R s m args below meth c D cl tys ad bi z nL off QQ b0 b1 (pc + 1) ls (.long (x - y) :: r) h) : mj_J p l e R s m args below meth c D cl tys ad bi z nL off QQ b0 b1 pc ls (.long y :: .long x :: r) h := by
  intro H locs k n L hl hr hS h1 h2
  have K := kk H locs k n L hl hr hS h1 h2
  rw [ho] at K
  exact lv_lsub hx hb hd K
theorem mj_so_land (hx : p.tables.exec = Jvm.exec) (hb : c.code = cc) {x y : Int64} (hd : decode cc (off pc) = .ok (.land, 1)) (ho : off (pc + 1) = off pc + 1) (kk : mj_J p l e R s m args below meth c D cl tys ad bi z nL off QQ b0 b1 (pc + 1) ls (.long (x &&& y) :: r) h) : mj_J p l e R s m args below meth c D cl tys ad bi z nL off QQ b0 b1 pc ls (.long y :: .long x :: r) h := by
  intro H locs k n L hl hr hS h1 h2
  have K := kk H locs k n L hl hr hS h1 h2
  rw [ho] at K
  exact lv_land hx hb hd K
theorem mj_so_lor (hx : p.tables.exec = Jvm.exec) (hb : c.code = cc) {x y : Int64} (hd : decode cc (off pc) = .ok (.lor, 1)) (ho : off (pc + 1) = off pc + 1) (kk : mj_J p l e R s m args below meth c D cl tys ad bi z nL off QQ b0 b1 (pc + 1) ls (.long (x ||| y) :: r) h) : mj_J p l e R s m args below meth c D cl tys ad bi z nL off QQ b0 b1 pc ls (.long y :: .long x :: r) h := by
  intro H locs k n L hl hr hS h1 h2
  have K := kk H locs k n L hl hr hS h1 h2
  rw [ho] at K
  exact lv_lor hx hb hd K
theorem mj_so_lmul (hx : p.tables.exec = Jvm.exec) (hb : c.code = cc) {x y : Int64} (hd : decode cc (off pc) = .ok (.lmul, 1)) (ho : off (pc + 1) = off pc + 1) (kk : mj_J p l e R s m args below meth c D cl tys ad bi z nL off QQ b0 b1 (pc + 1) ls (.long (x * y) :: r) h) : mj_J p l e R s m args below meth c D cl tys ad bi z nL off QQ b0 b1 pc ls (.long y :: .long x :: r) h := by
  intro H locs k n L hl hr hS h1 h2
  have K := kk H locs k n L hl hr hS h1 h2
  rw [ho] at K
  exact lv_lmul hx hb hd K
theorem mj_so_ldiv (hx : p.tables.exec = Jvm.exec) (hb : c.code = cc) {x y : Int64} (hd : decode cc (off pc) = .ok (.ldiv, 1)) (ho : off (pc + 1) = off pc + 1) (hne : ¬ y = 0) (kk : mj_J p l e R s m args below meth c D cl tys ad bi z nL off QQ b0 b1 (pc + 1) ls (.long (x / y) :: r) h) : mj_J p l e R s m args below meth c D cl tys ad bi z nL off QQ b0 b1 pc ls (.long y :: .long x :: r) h := by
  intro H locs k n L hl hr hS h1 h2
  have K := kk H locs k n L hl hr hS h1 h2
  rw [ho] at K
  exact lv_ldiv hx hb hd hne K
theorem mj_so_lrem (hx : p.tables.exec = Jvm.exec) (hb : c.code = cc) {x y : Int64} (hd : decode cc (off pc) = .ok (.lrem, 1)) (ho : off (pc + 1) = off pc + 1) (hne : ¬ y = 0) (kk : mj_J p l e R s m args below meth c D cl tys ad bi z nL off QQ b0 b1 (pc + 1) ls (.long (x - x / y * y) :: r) h) : mj_J p l e R s m args below meth c D cl tys ad bi z nL off QQ b0 b1 pc ls (.long y :: .long x :: r) h := by
  intro H locs k n L hl hr hS h1 h2
  have K := kk H locs k n L hl hr hS h1 h2
  rw [ho] at K
  exact lv_lrem hx hb hd hne K
theorem mj_so_lneg (hx : p.tables.exec = Jvm.exec) (hb : c.code = cc) {x : Int64} (hd : decode cc (off pc) = .ok (.lneg, 1)) (ho : off (pc + 1) = off pc + 1) (kk : mj_J p l e R s m args below meth c D cl tys ad bi z nL off QQ b0 b1 (pc + 1) ls (.long (-x) :: r) h) : mj_J p l e R s m args below meth c D cl tys ad bi z nL off QQ b0 b1 pc ls (.long x :: r) h := by
  intro H locs k n L hl hr hS h1 h2
  have K := kk H locs k n L hl hr hS h1 h2
  rw [ho] at K
  exact lv_lneg hx hb hd K
theorem mj_so_lshl (hx : p.tables.exec = Jvm.exec) (hb : c.code = cc) {x : Int64} {y : Int32} (hd : decode cc (off pc) = .ok (.lshl, 1)) (ho : off (pc + 1) = off pc + 1) (kk : mj_J p l e R s m args below meth c D cl tys ad bi z nL off QQ b0 b1 (pc + 1) ls (.long (x <<< (y.toInt64 &&& 63)) :: r) h) : mj_J p l e R s m args below meth c D cl tys ad bi z nL off QQ b0 b1 pc ls (.int y :: .long x :: r) h := by
  intro H locs k n L hl hr hS h1 h2
  have K := kk H locs k n L hl hr hS h1 h2
  rw [ho] at K
  exact lv_lshl hx hb hd rfl K
theorem mj_so_lshr (hx : p.tables.exec = Jvm.exec) (hb : c.code = cc) {x : Int64} {y : Int32} (hd : decode cc (off pc) = .ok (.lshr, 1)) (ho : off (pc + 1) = off pc + 1) (kk : mj_J p l e R s m args below meth c D cl tys ad bi z nL off QQ b0 b1 (pc + 1) ls (.long (x >>> (y.toInt64 &&& 63)) :: r) h) : mj_J p l e R s m args below meth c D cl tys ad bi z nL off QQ b0 b1 pc ls (.int y :: .long x :: r) h := by
  intro H locs k n L hl hr hS h1 h2
  have K := kk H locs k n L hl hr hS h1 h2
  rw [ho] at K
  exact lv_lshr hx hb hd rfl K
theorem mj_so_lushr (hx : p.tables.exec = Jvm.exec) (hb : c.code = cc) {x : Int64} {y : Int32} (hd : decode cc (off pc) = .ok (.lushr, 1)) (ho : off (pc + 1) = off pc + 1) (kk : mj_J p l e R s m args below meth c D cl tys ad bi z nL off QQ b0 b1 (pc + 1) ls (.long (x.toUInt64 >>> (y.toInt64.toUInt64 &&& Int64.toUInt64 63)).toInt64 :: r) h) : mj_J p l e R s m args below meth c D cl tys ad bi z nL off QQ b0 b1 pc ls (.int y :: .long x :: r) h := by
  intro H locs k n L hl hr hS h1 h2
  have K := kk H locs k n L hl hr hS h1 h2
  rw [ho] at K
  exact lv_lushr hx hb hd rfl K
theorem mj_so_lcmp (hx : p.tables.exec = Jvm.exec) (hb : c.code = cc) {x y : Int64} (hd : decode cc (off pc) = .ok (.lcmp, 1)) (ho : off (pc + 1) = off pc + 1) (kk : mj_J p l e R s m args below meth c D cl tys ad bi z nL off QQ b0 b1 (pc + 1) ls (.int (lg_cmp x y) :: r) h) : mj_J p l e R s m args below meth c D cl tys ad bi z nL off QQ b0 b1 pc ls (.long y :: .long x :: r) h := by
  intro H locs k n L hl hr hS h1 h2
  have K := kk H locs k n L hl hr hS h1 h2
  rw [ho] at K
  exact W.lcmp hx hb hd K
theorem mj_so_i2l (hx : p.tables.exec = Jvm.exec) (hb : c.code = cc) {x : Int32} (hd : decode cc (off pc) = .ok (.i2l, 1)) (ho : off (pc + 1) = off pc + 1) (kk : mj_J p l e R s m args below meth c D cl tys ad bi z nL off QQ b0 b1 (pc + 1) ls (.long x.toInt64 :: r) h) : mj_J p l e R s m args below meth c D cl tys ad bi z nL off QQ b0 b1 pc ls (.int x :: r) h := by
  intro H locs k n L hl hr hS h1 h2
  have K := kk H locs k n L hl hr hS h1 h2
  rw [ho] at K
  exact lv_i2l hx hb hd rfl K
theorem mj_so_l2i (hx : p.tables.exec = Jvm.exec) (hb : c.code = cc) {x : Int64} (hd : decode cc (off pc) = .ok (.l2i, 1)) (ho : off (pc + 1) = off pc + 1) (kk : mj_J p l e R s m args below meth c D cl tys ad bi z nL off QQ b0 b1 (pc + 1) ls (.int x.toInt32 :: r) h) : mj_J p l e R s m args below meth c D cl tys ad bi z nL off QQ b0 b1 pc ls (.long x :: r) h := by
  intro H locs k n L hl hr hS h1 h2
  have K := kk H locs k n L hl hr hS h1 h2
  rw [ho] at K
  exact lv_l2i hx hb hd rfl K
theorem mj_so_i2c (hx : p.tables.exec = Jvm.exec) (hb : c.code = cc) {x : Int32} (hd : decode cc (off pc) = .ok (.i2c, 1)) (ho : off (pc + 1) = off pc + 1) (kk : mj_J p l e R s m args below meth c D cl tys ad bi z nL off QQ b0 b1 (pc + 1) ls (.int (x.toUInt32 % 65536).toInt32 :: r) h) : mj_J p l e R s m args below meth c D cl tys ad bi z nL off QQ b0 b1 pc ls (.int x :: r) h := by
  intro H locs k n L hl hr hS h1 h2
  have K := kk H locs k n L hl hr hS h1 h2
  rw [ho] at K
  exact lv_i2c hx hb hd rfl K
theorem mj_so_i2b (hx : p.tables.exec = Jvm.exec) (hb : c.code = cc) {x : Int32} (hd : decode cc (off pc) = .ok (.i2b, 1)) (ho : off (pc + 1) = off pc + 1) (kk : mj_J p l e R s m args below meth c D cl tys ad bi z nL off QQ b0 b1 (pc + 1) ls (.int x.toInt8.toInt32 :: r) h) : mj_J p l e R s m args below meth c D cl tys ad bi z nL off QQ b0 b1 pc ls (.int x :: r) h := by
  intro H locs k n L hl hr hS h1 h2
  have K := kk H locs k n L hl hr hS h1 h2
  rw [ho] at K
  exact lv_i2b hx hb hd rfl K
theorem mj_so_dup (hx : p.tables.exec = Jvm.exec) (hb : c.code = cc) {v : Value} (hd : decode cc (off pc) = .ok (.dup, 1)) (ho : off (pc + 1) = off pc + 1) (h9 : v.category = 1) (kk : mj_J p l e R s m args below meth c D cl tys ad bi z nL off QQ b0 b1 (pc + 1) ls (v :: v :: r) h) : mj_J p l e R s m args below meth c D cl tys ad bi z nL off QQ b0 b1 pc ls (v :: r) h := by
  intro H locs k n L hl hr hS h1 h2
  have K := kk H locs k n L hl hr hS h1 h2
  rw [ho] at K
  exact lv_dup hx hb hd (by rw [mj_tr_cat]; exact h9) K
theorem mj_so_dup_x1 (hx : p.tables.exec = Jvm.exec) (hb : c.code = cc) {v w : Value} (hd : decode cc (off pc) = .ok (.dup_x1, 1)) (ho : off (pc + 1) = off pc + 1) (h9 : v.category = 1) (h8 : w.category = 1) (kk : mj_J p l e R s m args below meth c D cl tys ad bi z nL off QQ b0 b1 (pc + 1) ls (v :: w :: v :: r) h) : mj_J p l e R s m args below meth c D cl tys ad bi z nL off QQ b0 b1 pc ls (v :: w :: r) h := by
  intro H locs k n L hl hr hS h1 h2
  have K := kk H locs k n L hl hr hS h1 h2
  rw [ho] at K
  exact lv_dup_x1 hx hb hd (by rw [mj_tr_cat]; exact h9) (by rw [mj_tr_cat]; exact h8) K

theorem mj_so_dup2 (hx : p.tables.exec = Jvm.exec) (hb : c.code = cc) {v w : Value} (hd : decode cc (off pc) = .ok (.dup2, 1)) (ho : off (pc + 1) = off pc + 1) (h9 : v.category = 1) (h8 : w.category = 1) (kk : mj_J p l e R s m args below meth c D cl tys ad bi z nL off QQ b0 b1 (pc + 1) ls (v :: w :: v :: w :: r) h) : mj_J p l e R s m args below meth c D cl tys ad bi z nL off QQ b0 b1 pc ls (v :: w :: r) h := by
  intro H locs k n L hl hr hS h1 h2
  have K := kk H locs k n L hl hr hS h1 h2
  rw [ho] at K
  exact lv_dup2_11 hx hb hd (by rw [mj_tr_cat]; exact h9) (by rw [mj_tr_cat]; exact h8) K
theorem mj_so_dup2l (hx : p.tables.exec = Jvm.exec) (hb : c.code = cc) {v : Value} (hd : decode cc (off pc) = .ok (.dup2, 1)) (ho : off (pc + 1) = off pc + 1) (h9 : v.category = 2) (kk : mj_J p l e R s m args below meth c D cl tys ad bi z nL off QQ b0 b1 (pc + 1) ls (v :: v :: r) h) : mj_J p l e R s m args below meth c D cl tys ad bi z nL off QQ b0 b1 pc ls (v :: r) h := by
  intro H locs k n L hl hr hS h1 h2
  have K := kk H locs k n L hl hr hS h1 h2
  rw [ho] at K
  exact lv_dup2_2 hx hb hd (by rw [mj_tr_cat]; exact h9) K
theorem mj_so_pop (hx : p.tables.exec = Jvm.exec) (hb : c.code = cc) {v : Value} (hd : decode cc (off pc) = .ok (.pop, 1)) (ho : off (pc + 1) = off pc + 1) (h9 : v.category = 1) (kk : mj_J p l e R s m args below meth c D cl tys ad bi z nL off QQ b0 b1 (pc + 1) ls (r) h) : mj_J p l e R s m args below meth c D cl tys ad bi z nL off QQ b0 b1 pc ls (v :: r) h := by
  intro H locs k n L hl hr hS h1 h2
  have K := kk H locs k n L hl hr hS h1 h2
  rw [ho] at K
  exact lv_pop hx hb hd (by rw [mj_tr_cat]; exact h9) K
theorem mj_so_pop2 (hx : p.tables.exec = Jvm.exec) (hb : c.code = cc) {v : Value} (hd : decode cc (off pc) = .ok (.pop2, 1)) (ho : off (pc + 1) = off pc + 1) (h9 : v.category = 2) (kk : mj_J p l e R s m args below meth c D cl tys ad bi z nL off QQ b0 b1 (pc + 1) ls (r) h) : mj_J p l e R s m args below meth c D cl tys ad bi z nL off QQ b0 b1 pc ls (v :: r) h := by
  intro H locs k n L hl hr hS h1 h2
  have K := kk H locs k n L hl hr hS h1 h2
  rw [ho] at K
  exact lv_pop2_2 hx hb hd (by rw [mj_tr_cat]; exact h9) K
theorem mj_so_if_eq (hx : p.tables.exec = Jvm.exec) (hb : c.code = cc) {x : Int32} {o : Int} {t : Nat} (hd : decode cc (off pc) = .ok (.ifCond .eq o, 3)) (ho : off (pc + 1) = off pc + 3) (ht : (off pc : Int) + o = (off t : Int)) (ka : x = 0 → mj_J p l e R s m args below meth c D cl tys ad bi z nL off QQ b0 b1 t ls r h) (kb : ¬ x = 0 → mj_J p l e R s m args below meth c D cl tys ad bi z nL off QQ b0 b1 (pc + 1) ls r h) : mj_J p l e R s m args below meth c D cl tys ad bi z nL off QQ b0 b1 pc ls (.int x :: r) h := by
  intro H locs k n L hl hr hS h1 h2
  refine lv_if_eq (tgt := off t) hx hb hd ht (fun g => ka g H locs k n L hl hr hS h1 h2) (fun g => ?_)
  have K := kb g H locs k n L hl hr hS h1 h2
  rw [ho] at K
  exact K
theorem mj_so_if_ne (hx : p.tables.exec = Jvm.exec) (hb : c.code = cc) {x : Int32} {o : Int} {t : Nat} (hd : decode cc (off pc) = .ok (.ifCond .ne o, 3)) (ho : off (pc + 1) = off pc + 3) (ht : (off pc : Int) + o = (off t : Int)) (ka : ¬ x = 0 → mj_J p l e R s m args below meth c D cl tys ad bi z nL off QQ b0 b1 t ls r h) (kb : x = 0 → mj_J p l e R s m args below meth c D cl tys ad bi z nL off QQ b0 b1 (pc + 1) ls r h) : mj_J p l e R s m args below meth c D cl tys ad bi z nL off QQ b0 b1 pc ls (.int x :: r) h := by
  intro H locs k n L hl hr hS h1 h2
  refine lv_if_ne (tgt := off t) hx hb hd ht (fun g => ka g H locs k n L hl hr hS h1 h2) (fun g => ?_)
  have K := kb g H locs k n L hl hr hS h1 h2
  rw [ho] at K
  exact K
theorem mj_so_if_lt (hx : p.tables.exec = Jvm.exec) (hb : c.code = cc) {x : Int32} {o : Int} {t : Nat} (hd : decode cc (off pc) = .ok (.ifCond .lt o, 3)) (ho : off (pc + 1) = off pc + 3) (ht : (off pc : Int) + o = (off t : Int)) (ka : x < 0 → mj_J p l e R s m args below meth c D cl tys ad bi z nL off QQ b0 b1 t ls r h) (kb : ¬ x < 0 → mj_J p l e R s m args below meth c D cl tys ad bi z nL off QQ b0 b1 (pc + 1) ls r h) : mj_J p l e R s m args below meth c D cl tys ad bi z nL off QQ b0 b1 pc ls (.int x :: r) h := by
  intro H locs k n L hl hr hS h1 h2
  refine lv_if_lt (tgt := off t) hx hb hd ht (fun g => ka g H locs k n L hl hr hS h1 h2) (fun g => ?_)
  have K := kb g H locs k n L hl hr hS h1 h2
  rw [ho] at K
  exact K
theorem mj_so_if_ge (hx : p.tables.exec = Jvm.exec) (hb : c.code = cc) {x : Int32} {o : Int} {t : Nat} (hd : decode cc (off pc) = .ok (.ifCond .ge o, 3)) (ho : off (pc + 1) = off pc + 3) (ht : (off pc : Int) + o = (off t : Int)) (ka : 0 ≤ x → mj_J p l e R s m args below meth c D cl tys ad bi z nL off QQ b0 b1 t ls r h) (kb : ¬ 0 ≤ x → mj_J p l e R s m args below meth c D cl tys ad bi z nL off QQ b0 b1 (pc + 1) ls r h) : mj_J p l e R s m args below meth c D cl tys ad bi z nL off QQ b0 b1 pc ls (.int x :: r) h := by
  intro H locs k n L hl hr hS h1 h2
  refine lv_if_ge (tgt := off t) hx hb hd ht (fun g => ka g H locs k n L hl hr hS h1 h2) (fun g => ?_)
  have K := kb g H locs k n L hl hr hS h1 h2
  rw [ho] at K
  exact K
theorem mj_so_if_gt (hx : p.tables.exec = Jvm.exec) (hb : c.code = cc) {x : Int32} {o : Int} {t : Nat} (hd : decode cc (off pc) = .ok (.ifCond .gt o, 3)) (ho : off (pc + 1) = off pc + 3) (ht : (off pc : Int) + o = (off t : Int)) (ka : 0 < x → mj_J p l e R s m args below meth c D cl tys ad bi z nL off QQ b0 b1 t ls r h) (kb : ¬ 0 < x → mj_J p l e R s m args below meth c D cl tys ad bi z nL off QQ b0 b1 (pc + 1) ls r h) : mj_J p l e R s m args below meth c D cl tys ad bi z nL off QQ b0 b1 pc ls (.int x :: r) h := by
  intro H locs k n L hl hr hS h1 h2
  refine lv_if_gt (tgt := off t) hx hb hd ht (fun g => ka g H locs k n L hl hr hS h1 h2) (fun g => ?_)
  have K := kb g H locs k n L hl hr hS h1 h2
  rw [ho] at K
  exact K
theorem mj_so_if_le (hx : p.tables.exec = Jvm.exec) (hb : c.code = cc) {x : Int32} {o : Int} {t : Nat} (hd : decode cc (off pc) = .ok (.ifCond .le o, 3)) (ho : off (pc + 1) = off pc + 3) (ht : (off pc : Int) + o = (off t : Int)) (ka : x ≤ 0 → mj_J p l e R s m args below meth c D cl tys ad bi z nL off QQ b0 b1 t ls r h) (kb : ¬ x ≤ 0 → mj_J p l e R s m args below meth c D cl tys ad bi z nL off QQ b0 b1 (pc + 1) ls r h) : mj_J p l e R s m args below meth c D cl tys ad bi z nL off QQ b0 b1 pc ls (.int x :: r) h := by
  intro H locs k n L hl hr hS h1 h2
  refine lv_if_le (tgt := off t) hx hb hd ht (fun g => ka g H locs k n L hl hr hS h1 h2) (fun g => ?_)
  have K := kb g H locs k n L hl hr hS h1 h2
  rw [ho] at K
  exact K
theorem mj_so_ic_eq (hx : p.tables.exec = Jvm.exec) (hb : c.code = cc) {x y : Int32} {o : Int} {t : Nat} (hd : decode cc (off pc) = .ok (.if_icmp .eq o, 3)) (ho : off (pc + 1) = off pc + 3) (ht : (off pc : Int) + o = (off t : Int)) (ka : x = y → mj_J p l e R s m args below meth c D cl tys ad bi z nL off QQ b0 b1 t ls r h) (kb : ¬ x = y → mj_J p l e R s m args below meth c D cl tys ad bi z nL off QQ b0 b1 (pc + 1) ls r h) : mj_J p l e R s m args below meth c D cl tys ad bi z nL off QQ b0 b1 pc ls (.int y :: .int x :: r) h := by
  intro H locs k n L hl hr hS h1 h2
  refine lv_icmp_eq (tgt := off t) hx hb hd ht (fun g => ka g H locs k n L hl hr hS h1 h2) (fun g => ?_)
  have K := kb g H locs k n L hl hr hS h1 h2
  rw [ho] at K
  exact K
theorem mj_so_ic_ne (hx : p.tables.exec = Jvm.exec) (hb : c.code = cc) {x y : Int32} {o : Int} {t : Nat} (hd : decode cc (off pc) = .ok (.if_icmp .ne o, 3)) (ho : off (pc + 1) = off pc + 3) (ht : (off pc : Int) + o = (off t : Int)) (ka : ¬ x = y → mj_J p l e R s m args below meth c D cl tys ad bi z nL off QQ b0 b1 t ls r h) (kb : x = y → mj_J p l e R s m args below meth c D cl tys ad bi z nL off QQ b0 b1 (pc + 1) ls r h) : mj_J p l e R s m args below meth c D cl tys ad bi z nL off QQ b0 b1 pc ls (.int y :: .int x :: r) h := by
  intro H locs k n L hl hr hS h1 h2
  refine lv_icmp_ne (tgt := off t) hx hb hd ht (fun g => ka g H locs k n L hl hr hS h1 h2) (fun g => ?_)
  have K := kb g H locs k n L hl hr hS h1 h2
  rw [ho] at K
  exact K
theorem mj_so_ic_lt (hx : p.tables.exec = Jvm.exec) (hb : c.code = cc) {x y : Int32} {o : Int} {t : Nat} (hd : decode cc (off pc) = .ok (.if_icmp .lt o, 3)) (ho : off (pc + 1) = off pc + 3) (ht : (off pc : Int) + o = (off t : Int)) (ka : x < y → mj_J p l e R s m args below meth c D cl tys ad bi z nL off QQ b0 b1 t ls r h) (kb : ¬ x < y → mj_J p l e R s m args below meth c D cl tys ad bi z nL off QQ b0 b1 (pc + 1) ls r h) : mj_J p l e R s m args below meth c D cl tys ad bi z nL off QQ b0 b1 pc ls (.int y :: .int x :: r) h := by
  intro H locs k n L hl hr hS h1 h2
  refine lv_icmp_lt (tgt := off t) hx hb hd ht (fun g => ka g H locs k n L hl hr hS h1 h2) (fun g => ?_)
  have K := kb g H locs k n L hl hr hS h1 h2
  rw [ho] at K
  exact K
theorem mj_so_ic_ge (hx : p.tables.exec = Jvm.exec) (hb : c.code = cc) {x y : Int32} {o : Int} {t : Nat} (hd : decode cc (off pc) = .ok (.if_icmp .ge o, 3)) (ho : off (pc + 1) = off pc + 3) (ht : (off pc : Int) + o = (off t : Int)) (ka : y ≤ x → mj_J p l e R s m args below meth c D cl tys ad bi z nL off QQ b0 b1 t ls r h) (kb : ¬ y ≤ x → mj_J p l e R s m args below meth c D cl tys ad bi z nL off QQ b0 b1 (pc + 1) ls r h) : mj_J p l e R s m args below meth c D cl tys ad bi z nL off QQ b0 b1 pc ls (.int y :: .int x :: r) h := by
  intro H locs k n L hl hr hS h1 h2
  refine lv_icmp_ge (tgt := off t) hx hb hd ht (fun g => ka g H locs k n L hl hr hS h1 h2) (fun g => ?_)
  have K := kb g H locs k n L hl hr hS h1 h2
  rw [ho] at K
  exact K
theorem mj_so_ic_gt (hx : p.tables.exec = Jvm.exec) (hb : c.code = cc) {x y : Int32} {o : Int} {t : Nat} (hd : decode cc (off pc) = .ok (.if_icmp .gt o, 3)) (ho : off (pc + 1) = off pc + 3) (ht : (off pc : Int) + o = (off t : Int)) (ka : y < x → mj_J p l e R s m args below meth c D cl tys ad bi z nL off QQ b0 b1 t ls r h) (kb : ¬ y < x → mj_J p l e R s m args below meth c D cl tys ad bi z nL off QQ b0 b1 (pc + 1) ls r h) : mj_J p l e R s m args below meth c D cl tys ad bi z nL off QQ b0 b1 pc ls (.int y :: .int x :: r) h := by
  intro H locs k n L hl hr hS h1 h2
  refine lv_icmp_gt (tgt := off t) hx hb hd ht (fun g => ka g H locs k n L hl hr hS h1 h2) (fun g => ?_)
  have K := kb g H locs k n L hl hr hS h1 h2
  rw [ho] at K
  exact K
theorem mj_so_ic_le (hx : p.tables.exec = Jvm.exec) (hb : c.code = cc) {x y : Int32} {o : Int} {t : Nat} (hd : decode cc (off pc) = .ok (.if_icmp .le o, 3)) (ho : off (pc + 1) = off pc + 3) (ht : (off pc : Int) + o = (off t : Int)) (ka : x ≤ y → mj_J p l e R s m args below meth c D cl tys ad bi z nL off QQ b0 b1 t ls r h) (kb : ¬ x ≤ y → mj_J p l e R s m args below meth c D cl tys ad bi z nL off QQ b0 b1 (pc + 1) ls r h) : mj_J p l e R s m args below meth c D cl tys ad bi z nL off QQ b0 b1 pc ls (.int y :: .int x :: r) h := by
  intro H locs k n L hl hr hS h1 h2
  refine lv_icmp_le (tgt := off t) hx hb hd ht (fun g => ka g H locs k n L hl hr hS h1 h2) (fun g => ?_)
  have K := kb g H locs k n L hl hr hS h1 h2
  rw [ho] at K
  exact K
theorem mj_so_ifnn (hx : p.tables.exec = Jvm.exec) (hb : c.code = cc) {a : Nat} {o : Int} {t : Nat} (hd : decode cc (off pc) = .ok (.ifnonnull o, 3)) (ht : (off pc : Int) + o = (off t : Int)) (kk : mj_J p l e R s m args below meth c D cl tys ad bi z nL off QQ b0 b1 t ls r h) : mj_J p l e R s m args below meth c D cl tys ad bi z nL off QQ b0 b1 pc ls (.ref a :: r) h := by
  intro H locs k n L hl hr hS h1 h2
  exact lv_ifnonnull (tgt := off t) hx hb hd ht (kk H locs k n L hl hr hS h1 h2)
theorem mj_so_goto (hx : p.tables.exec = Jvm.exec) (hb : c.code = cc) {o : Int} {t : Nat} (hd : decode cc (off pc) = .ok (.goto o, 3)) (ht : (off pc : Int) + o = (off t : Int)) (kk : mj_J p l e R s m args below meth c D cl tys ad bi z nL off QQ b0 b1 t ls r h) : mj_J p l e R s m args below meth c D cl tys ad bi z nL off QQ b0 b1 pc ls r h := by
  intro H locs k n L hl hr hS h1 h2
  exact lv_goto (tgt := off t) hx hb hd ht (kk H locs k n L hl hr hS h1 h2)
theorem mj_so_iload_n (hx : p.tables.exec = Jvm.exec) (hb : c.code = cc) {i : Nat} {f : Fin 4} (hf : (f : Nat) = i) {x : Int32} (hv : mj_nth ls i = some (some (.int x))) (hd : decode cc (off pc) = .ok (.iload_n f, 1)) (ho : off (pc + 1) = off pc + 1) (kk : mj_J p l e R s m args below meth c D cl tys ad bi z nL off QQ b0 b1 (pc + 1) ls (.int x :: r) h) : mj_J p l e R s m args below meth c D cl tys ad bi z nL off QQ b0 b1 pc ls r h := by
  intro H locs k n L hl hr hS h1 h2
  have K := kk H locs k n L hl hr hS h1 h2
  have G := mj_loc hl hv
  rw [ho] at K
  exact lv_iload_n hx hb hd hf G K
theorem mj_so_iload (hx : p.tables.exec = Jvm.exec) (hb : c.code = cc) {i : Nat} {x : Int32} (hv : mj_nth ls i = some (some (.int x))) (hd : decode cc (off pc) = .ok (.iload i, 2)) (ho : off (pc + 1) = off pc + 2) (kk : mj_J p l e R s m args below meth c D cl tys ad bi z nL off QQ b0 b1 (pc + 1) ls (.int x :: r) h) : mj_J p l e R s m args below meth c D cl tys ad bi z nL off QQ b0 b1 pc ls r h := by
  intro H locs k n L hl hr hS h1 h2
  have K := kk H locs k n L hl hr hS h1 h2
  have G := mj_loc hl hv
  rw [ho] at K
  exact lv_iload hx hb hd G K
theorem mj_so_lload_n (hx : p.tables.exec = Jvm.exec) (hb : c.code = cc) {i : Nat} {f : Fin 4} (hf : (f : Nat) = i) {x : Int64} (hv : mj_nth ls i = some (some (.long x))) (hd : decode cc (off pc) = .ok (.lload_n f, 1)) (ho : off (pc + 1) = off pc + 1) (kk : mj_J p l e R s m args below meth c D cl tys ad bi z nL off QQ b0 b1 (pc + 1) ls (.long x :: r) h) : mj_J p l e R s m args below meth c D cl tys ad bi z nL off QQ b0 b1 pc ls r h := by
  intro H locs k n L hl hr hS h1 h2
  have K := kk H locs k n L hl hr hS h1 h2
  have G := mj_loc hl hv
  rw [ho] at K
  exact lv_lload_n hx hb hd hf G K
theorem mj_so_lload (hx : p.tables.exec = Jvm.exec) (hb : c.code = cc) {i : Nat} {x : Int64} (hv : mj_nth ls i = some (some (.long x))) (hd : decode cc (off pc) = .ok (.lload i, 2)) (ho : off (pc + 1) = off pc + 2) (kk : mj_J p l e R s m args below meth c D cl tys ad bi z nL off QQ b0 b1 (pc + 1) ls (.long x :: r) h) : mj_J p l e R s m args below meth c D cl tys ad bi z nL off QQ b0 b1 pc ls r h := by
  intro H locs k n L hl hr hS h1 h2
  have K := kk H locs k n L hl hr hS h1 h2
  have G := mj_loc hl hv
  rw [ho] at K
  exact lv_lload hx hb hd G K
theorem mj_so_aload_n (hx : p.tables.exec = Jvm.exec) (hb : c.code = cc) {i : Nat} {f : Fin 4} (hf : (f : Nat) = i) {x : Nat} (hv : mj_nth ls i = some (some (.ref x))) (hd : decode cc (off pc) = .ok (.aload_n f, 1)) (ho : off (pc + 1) = off pc + 1) (kk : mj_J p l e R s m args below meth c D cl tys ad bi z nL off QQ b0 b1 (pc + 1) ls (.ref x :: r) h) : mj_J p l e R s m args below meth c D cl tys ad bi z nL off QQ b0 b1 pc ls r h := by
  intro H locs k n L hl hr hS h1 h2
  have K := kk H locs k n L hl hr hS h1 h2
  have G := mj_loc hl hv
  rw [ho] at K
  exact lv_aload_n hx hb hd hf G K
theorem mj_so_aload (hx : p.tables.exec = Jvm.exec) (hb : c.code = cc) {i : Nat} {x : Nat} (hv : mj_nth ls i = some (some (.ref x))) (hd : decode cc (off pc) = .ok (.aload i, 2)) (ho : off (pc + 1) = off pc + 2) (kk : mj_J p l e R s m args below meth c D cl tys ad bi z nL off QQ b0 b1 (pc + 1) ls (.ref x :: r) h) : mj_J p l e R s m args below meth c D cl tys ad bi z nL off QQ b0 b1 pc ls r h := by
  intro H locs k n L hl hr hS h1 h2
  have K := kk H locs k n L hl hr hS h1 h2
  have G := mj_loc hl hv
  rw [ho] at K
  exact lv_aload hx hb hd G K
theorem mj_so_istore_n (hx : p.tables.exec = Jvm.exec) (hb : c.code = cc) {i : Nat} {f : Fin 4} (hf : (f : Nat) = i) {x : Int32} (hi : i < nL) (hd : decode cc (off pc) = .ok (.istore_n f, 1)) (ho : off (pc + 1) = off pc + 1) (kk : mj_J p l e R s m args below meth c D cl tys ad bi z nL off QQ b0 b1 (pc + 1) (mj_st1 ls i (.int x)) r h) : mj_J p l e R s m args below meth c D cl tys ad bi z nL off QQ b0 b1 pc ls (.int x :: r) h := by
  intro H locs k n L hl hr hS h1 h2
  refine lv_istore_n hx hb hd hf hl hi rfl fun L1 hl1 => ?_
  have K := kk H locs k n L1 (mj_lv_st1 (v := .int x) hl1) hr hS h1 h2
  rw [ho] at K
  exact K
theorem mj_so_istore (hx : p.tables.exec = Jvm.exec) (hb : c.code = cc) {i : Nat} {x : Int32} (hi : i < nL) (hd : decode cc (off pc) = .ok (.istore i, 2)) (ho : off (pc + 1) = off pc + 2) (kk : mj_J p l e R s m args below meth c D cl tys ad bi z nL off QQ b0 b1 (pc + 1) (mj_st1 ls i (.int x)) r h) : mj_J p l e R s m args below meth c D cl tys ad bi z nL off QQ b0 b1 pc ls (.int x :: r) h := by
  intro H locs k n L hl hr hS h1 h2
  refine lv_istore hx hb hd hl hi rfl fun L1 hl1 => ?_
  have K := kk H locs k n L1 (mj_lv_st1 (v := .int x) hl1) hr hS h1 h2
  rw [ho] at K
  exact K
theorem mj_so_lstore_n (hx : p.tables.exec = Jvm.exec) (hb : c.code = cc) {i : Nat} {f : Fin 4} (hf : (f : Nat) = i) {x : Int64} (hi : i + 1 < nL) (hd : decode cc (off pc) = .ok (.lstore_n f, 1)) (ho : off (pc + 1) = off pc + 1) (kk : mj_J p l e R s m args below meth c D cl tys ad bi z nL off QQ b0 b1 (pc + 1) (mj_st2 ls i (.long x)) r h) : mj_J p l e R s m args below meth c D cl tys ad bi z nL off QQ b0 b1 pc ls (.long x :: r) h := by
  intro H locs k n L hl hr hS h1 h2
  refine lv_lstore_n hx hb hd hf hl hi rfl fun L1 hl1 => ?_
  have K := kk H locs k n L1 (mj_lv_st2 (v := .long x) hl1) hr hS h1 h2
  rw [ho] at K
  exact K
theorem mj_so_lstore (hx : p.tables.exec = Jvm.exec) (hb : c.code = cc) {i : Nat} {x : Int64} (hi : i + 1 < nL) (hd : decode cc (off pc) = .ok (.lstore i, 2)) (ho : off (pc + 1) = off pc + 2) (kk : mj_J p l e R s m args below meth c D cl tys ad bi z nL off QQ b0 b1 (pc + 1) (mj_st2 ls i (.long x)) r h) : mj_J p l e R s m args below meth c D cl tys ad bi z nL off QQ b0 b1 pc ls (.long x :: r) h := by
  intro H locs k n L hl hr hS h1 h2
  refine lv_lstore hx hb hd hl hi rfl fun L1 hl1 => ?_
  have K := kk H locs k n L1 (mj_lv_st2 (v := .long x) hl1) hr hS h1 h2
  rw [ho] at K
  exact K
theorem mj_so_astore_n (hx : p.tables.exec = Jvm.exec) (hb : c.code = cc) {i : Nat} {f : Fin 4} (hf : (f : Nat) = i) {x : Nat} (hi : i < nL) (hd : decode cc (off pc) = .ok (.astore_n f, 1)) (ho : off (pc + 1) = off pc + 1) (kk : mj_J p l e R s m args below meth c D cl tys ad bi z nL off QQ b0 b1 (pc + 1) (mj_st1 ls i (.ref x)) r h) : mj_J p l e R s m args below meth c D cl tys ad bi z nL off QQ b0 b1 pc ls (.ref x :: r) h := by
  intro H locs k n L hl hr hS h1 h2
  refine lv_astore_n hx hb hd hf hl hi rfl fun L1 hl1 => ?_
  have K := kk H locs k n L1 (mj_lv_st1 (v := .ref x) hl1) hr hS h1 h2
  rw [ho] at K
  exact K
theorem mj_so_astore (hx : p.tables.exec = Jvm.exec) (hb : c.code = cc) {i : Nat} {x : Nat} (hi : i < nL) (hd : decode cc (off pc) = .ok (.astore i, 2)) (ho : off (pc + 1) = off pc + 2) (kk : mj_J p l e R s m args below meth c D cl tys ad bi z nL off QQ b0 b1 (pc + 1) (mj_st1 ls i (.ref x)) r h) : mj_J p l e R s m args below meth c D cl tys ad bi z nL off QQ b0 b1 pc ls (.ref x :: r) h := by
  intro H locs k n L hl hr hS h1 h2
  refine lv_astore hx hb hd hl hi rfl fun L1 hl1 => ?_
  have K := kk H locs k n L1 (mj_lv_st1 (v := .ref x) hl1) hr hS h1 h2
  rw [ho] at K
  exact K
theorem mj_so_iinc (hx : p.tables.exec = Jvm.exec) (hb : c.code = cc) {i : Nat} {v : Int} {x : Int32} (hi : i < nL) (hv : mj_nth ls i = some (some (.int x))) (hd : decode cc (off pc) = .ok (.iinc i v, 3)) (ho : off (pc + 1) = off pc + 3) (kk : mj_J p l e R s m args below meth c D cl tys ad bi z nL off QQ b0 b1 (pc + 1) (mj_st1 ls i (.int (x + Int32.ofInt v))) r h) : mj_J p l e R s m args below meth c D cl tys ad bi z nL off QQ b0 b1 pc ls r h := by
  intro H locs k n L hl hr hS h1 h2
  obtain ⟨j, hj⟩ := mj_locAt (ad := ad) hv
  refine lv_iinc hx hb hd hl (k := j) hj rfl hi rfl fun L1 hl1 => ?_
  have K := kk H locs k n L1 (mj_lv_st1 (v := .int (x + Int32.ofInt v)) hl1) hr hS h1 h2
  rw [ho] at K
  exact K
theorem mj_so_iconst (hx : p.tables.exec = Jvm.exec) (hb : c.code = cc) {own : String} (hown : s.vm.findClass own = some m.cls) {TS : List Cond} (hts : ∀ w ∈ TS, w.before args s = true) {rt : Option FieldType} {v : Int} (hok : mj_ok TS own cc nL off rt pc (.iconst v)) (kk : mj_J p l e R s m args below meth c D cl tys ad bi z nL off QQ b0 b1 (pc + 1) ls (.int (Int32.ofInt v) :: r) h) : mj_J p l e R s m args below meth c D cl tys ad bi z nL off QQ b0 b1 pc ls r h := by
  intro H locs k n L hl hr hS h1 h2
  have K := kk H locs k n L hl hr hS h1 h2
  rcases hok with ⟨hd, ho⟩ | ⟨hd, ho, hv⟩ | ⟨hd, ho, hv⟩ | ⟨j, hd, ho, hw⟩
  · rw [ho] at K
    exact lv_iconst hx hb hd rfl K
  · rw [ho] at K
    exact lv_bipush hx hb hd hv K
  · rw [ho] at K
    exact lv_sipush hx hb hd hv K
  · rw [ho] at K
    exact lv_ldc hx hb hown (hts _ hw) hd K
theorem mj_so_lconst (hx : p.tables.exec = Jvm.exec) (hb : c.code = cc) {own : String} (hown : s.vm.findClass own = some m.cls) {TS : List Cond} (hts : ∀ w ∈ TS, w.before args s = true) {rt : Option FieldType} {v : Nat} (hok : mj_ok TS own cc nL off rt pc (.ldc2_w v)) (kk : mj_J p l e R s m args below meth c D cl tys ad bi z nL off QQ b0 b1 (pc + 1) ls (.long (Int64.ofNat v) :: r) h) : mj_J p l e R s m args below meth c D cl tys ad bi z nL off QQ b0 b1 pc ls r h := by
  intro H locs k n L hl hr hS h1 h2
  have K := kk H locs k n L hl hr hS h1 h2
  rcases hok with ⟨f, hf, hd, ho⟩ | ⟨j, hd, ho, hw⟩
  · rw [ho] at K
    exact lv_lconst hx hb hd (by rw [hf]) K
  · rw [ho] at K
    exact lv_ldc2 hx hb hown (hts _ hw) hd K
end MJP
end
