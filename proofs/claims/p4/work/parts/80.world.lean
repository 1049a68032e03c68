section
abbrev cS : Type := (((((Nat × Int32) × (Nat → Int32)) × ((Nat → Int32) × (Nat → Int32))) × ((((Nat → Int32) × (Nat → Int32)) × (Nat → Int32)) × (Int32 × (Nat → Int32)))) × ((((Int32 × Int32) × (Nat → Int64)) × ((Nat → Int64) × Int32)) × (((Int32 × Int32) × (Nat → Int32)) × (Int32 × Int32)))) × (((((Int64 × Int64) × Int64) × (Int64 × Int32)) × (((Int32 × Int32) × Int32) × ((Nat → Int64) × (Nat → Int64)))) × (((((Nat → Int32) × (Nat → Int32)) × (Nat → Int32)) × (Int32 × Int32)) × (((Int32 × Int32) × mj_O) × (mj_O × (Nat → Int64)))))
def cS.z (s : cS) : Nat := s.1.1.1.1.1.1
def cS.err (s : cS) : Int32 := s.1.1.1.1.1.2
def cS.kinds (s : cS) : Nat → Int32 := s.1.1.1.1.2
def cS.vals (s : cS) : Nat → Int32 := s.1.1.1.2.1
def cS.poss (s : cS) : Nat → Int32 := s.1.1.1.2.2
def cS.firsts (s : cS) : Nat → Int32 := s.1.1.2.1.1.1
def cS.lasts (s : cS) : Nat → Int32 := s.1.1.2.1.1.2
def cS.folls (s : cS) : Nat → Int32 := s.1.1.2.1.2
def cS.nodes (s : cS) : Int32 := s.1.1.2.2.1
def cS.txt (s : cS) : Nat → Int32 := s.1.1.2.2.2
def cS.len (s : cS) : Int32 := s.1.2.1.1.1.1
def cS.at_ (s : cS) : Int32 := s.1.2.1.1.1.2
def cS.cH (s : cS) : Nat → Int64 := s.1.2.1.1.2
def cS.cT (s : cS) : Nat → Int64 := s.1.2.1.2.1
def cS.cells (s : cS) : Int32 := s.1.2.1.2.2
def cS.last (s : cS) : Int32 := s.1.2.2.1.1.1
def cS.inside (s : cS) : Int32 := s.1.2.2.1.1.2
def cS.frames (s : cS) : Nat → Int32 := s.1.2.2.1.2
def cS.known (s : cS) : Int32 := s.1.2.2.2.1
def cS.unk (s : cS) : Int32 := s.1.2.2.2.2
def cS.rS (s : cS) : Int64 := s.2.1.1.1.1.1
def cS.rE (s : cS) : Int64 := s.2.1.1.1.1.2
def cS.rC (s : cS) : Int64 := s.2.1.1.1.2
def cS.rD (s : cS) : Int64 := s.2.1.1.2.1
def cS.mode (s : cS) : Int32 := s.2.1.1.2.2
def cS.colls (s : cS) : Int32 := s.2.1.2.1.1.1
def cS.taken (s : cS) : Int32 := s.2.1.2.1.1.2
def cS.steps (s : cS) : Int32 := s.2.1.2.1.2
def cS.sH (s : cS) : Nat → Int64 := s.2.1.2.2.1
def cS.sT (s : cS) : Nat → Int64 := s.2.1.2.2.2
def cS.free (s : cS) : Nat → Int32 := s.2.2.1.1.1.1
def cS.marked (s : cS) : Nat → Int32 := s.2.2.1.1.1.2
def cS.reached (s : cS) : Nat → Int32 := s.2.2.1.1.2
def cS.freeN (s : cS) : Int32 := s.2.2.1.2.1
def cS.reachN (s : cS) : Int32 := s.2.2.1.2.2
def cS.codeN (s : cS) : Int32 := s.2.2.2.1.1.1
def cS.opn (s : cS) : Int32 := s.2.2.2.1.1.2
def cS.sb0 (s : cS) : mj_O := s.2.2.2.1.2
def cS.sb1 (s : cS) : mj_O := s.2.2.2.2.1
def cS.rests (s : cS) : Nat → Int64 := s.2.2.2.2.2
def cS.s_z (s : cS) (x : Nat) : cS := ((((((x, s.1.1.1.1.1.2), s.1.1.1.1.2), s.1.1.1.2), s.1.1.2), s.1.2), s.2)
def cS.s_err (s : cS) (x : Int32) : cS := ((((((s.1.1.1.1.1.1, x), s.1.1.1.1.2), s.1.1.1.2), s.1.1.2), s.1.2), s.2)
def cS.s_kinds (s : cS) (x : Nat → Int32) : cS := (((((s.1.1.1.1.1, x), s.1.1.1.2), s.1.1.2), s.1.2), s.2)
def cS.s_vals (s : cS) (x : Nat → Int32) : cS := ((((s.1.1.1.1, (x, s.1.1.1.2.2)), s.1.1.2), s.1.2), s.2)
def cS.s_poss (s : cS) (x : Nat → Int32) : cS := ((((s.1.1.1.1, (s.1.1.1.2.1, x)), s.1.1.2), s.1.2), s.2)
def cS.s_firsts (s : cS) (x : Nat → Int32) : cS := (((s.1.1.1, (((x, s.1.1.2.1.1.2), s.1.1.2.1.2), s.1.1.2.2)), s.1.2), s.2)
def cS.s_lasts (s : cS) (x : Nat → Int32) : cS := (((s.1.1.1, (((s.1.1.2.1.1.1, x), s.1.1.2.1.2), s.1.1.2.2)), s.1.2), s.2)
def cS.s_folls (s : cS) (x : Nat → Int32) : cS := (((s.1.1.1, ((s.1.1.2.1.1, x), s.1.1.2.2)), s.1.2), s.2)
def cS.s_nodes (s : cS) (x : Int32) : cS := (((s.1.1.1, (s.1.1.2.1, (x, s.1.1.2.2.2))), s.1.2), s.2)
def cS.s_txt (s : cS) (x : Nat → Int32) : cS := (((s.1.1.1, (s.1.1.2.1, (s.1.1.2.2.1, x))), s.1.2), s.2)
def cS.s_len (s : cS) (x : Int32) : cS := ((s.1.1, ((((x, s.1.2.1.1.1.2), s.1.2.1.1.2), s.1.2.1.2), s.1.2.2)), s.2)
def cS.s_at_ (s : cS) (x : Int32) : cS := ((s.1.1, ((((s.1.2.1.1.1.1, x), s.1.2.1.1.2), s.1.2.1.2), s.1.2.2)), s.2)
def cS.s_cH (s : cS) (x : Nat → Int64) : cS := ((s.1.1, (((s.1.2.1.1.1, x), s.1.2.1.2), s.1.2.2)), s.2)
def cS.s_cT (s : cS) (x : Nat → Int64) : cS := ((s.1.1, ((s.1.2.1.1, (x, s.1.2.1.2.2)), s.1.2.2)), s.2)
def cS.s_cells (s : cS) (x : Int32) : cS := ((s.1.1, ((s.1.2.1.1, (s.1.2.1.2.1, x)), s.1.2.2)), s.2)
def cS.s_last (s : cS) (x : Int32) : cS := ((s.1.1, (s.1.2.1, (((x, s.1.2.2.1.1.2), s.1.2.2.1.2), s.1.2.2.2))), s.2)
def cS.s_inside (s : cS) (x : Int32) : cS := ((s.1.1, (s.1.2.1, (((s.1.2.2.1.1.1, x), s.1.2.2.1.2), s.1.2.2.2))), s.2)
def cS.s_frames (s : cS) (x : Nat → Int32) : cS := ((s.1.1, (s.1.2.1, ((s.1.2.2.1.1, x), s.1.2.2.2))), s.2)
def cS.s_known (s : cS) (x : Int32) : cS := ((s.1.1, (s.1.2.1, (s.1.2.2.1, (x, s.1.2.2.2.2)))), s.2)
def cS.s_unk (s : cS) (x : Int32) : cS := ((s.1.1, (s.1.2.1, (s.1.2.2.1, (s.1.2.2.2.1, x)))), s.2)
def cS.s_rS (s : cS) (x : Int64) : cS := (s.1, (((((x, s.2.1.1.1.1.2), s.2.1.1.1.2), s.2.1.1.2), s.2.1.2), s.2.2))
def cS.s_rE (s : cS) (x : Int64) : cS := (s.1, (((((s.2.1.1.1.1.1, x), s.2.1.1.1.2), s.2.1.1.2), s.2.1.2), s.2.2))
def cS.s_rC (s : cS) (x : Int64) : cS := (s.1, ((((s.2.1.1.1.1, x), s.2.1.1.2), s.2.1.2), s.2.2))
def cS.s_rD (s : cS) (x : Int64) : cS := (s.1, (((s.2.1.1.1, (x, s.2.1.1.2.2)), s.2.1.2), s.2.2))
def cS.s_mode (s : cS) (x : Int32) : cS := (s.1, (((s.2.1.1.1, (s.2.1.1.2.1, x)), s.2.1.2), s.2.2))
def cS.s_colls (s : cS) (x : Int32) : cS := (s.1, ((s.2.1.1, (((x, s.2.1.2.1.1.2), s.2.1.2.1.2), s.2.1.2.2)), s.2.2))
def cS.s_taken (s : cS) (x : Int32) : cS := (s.1, ((s.2.1.1, (((s.2.1.2.1.1.1, x), s.2.1.2.1.2), s.2.1.2.2)), s.2.2))
def cS.s_steps (s : cS) (x : Int32) : cS := (s.1, ((s.2.1.1, ((s.2.1.2.1.1, x), s.2.1.2.2)), s.2.2))
def cS.s_sH (s : cS) (x : Nat → Int64) : cS := (s.1, ((s.2.1.1, (s.2.1.2.1, (x, s.2.1.2.2.2))), s.2.2))
def cS.s_sT (s : cS) (x : Nat → Int64) : cS := (s.1, ((s.2.1.1, (s.2.1.2.1, (s.2.1.2.2.1, x))), s.2.2))
def cS.s_free (s : cS) (x : Nat → Int32) : cS := (s.1, (s.2.1, ((((x, s.2.2.1.1.1.2), s.2.2.1.1.2), s.2.2.1.2), s.2.2.2)))
def cS.s_marked (s : cS) (x : Nat → Int32) : cS := (s.1, (s.2.1, ((((s.2.2.1.1.1.1, x), s.2.2.1.1.2), s.2.2.1.2), s.2.2.2)))
def cS.s_reached (s : cS) (x : Nat → Int32) : cS := (s.1, (s.2.1, (((s.2.2.1.1.1, x), s.2.2.1.2), s.2.2.2)))
def cS.s_freeN (s : cS) (x : Int32) : cS := (s.1, (s.2.1, ((s.2.2.1.1, (x, s.2.2.1.2.2)), s.2.2.2)))
def cS.s_reachN (s : cS) (x : Int32) : cS := (s.1, (s.2.1, ((s.2.2.1.1, (s.2.2.1.2.1, x)), s.2.2.2)))
def cS.s_codeN (s : cS) (x : Int32) : cS := (s.1, (s.2.1, (s.2.2.1, (((x, s.2.2.2.1.1.2), s.2.2.2.1.2), s.2.2.2.2))))
def cS.s_opn (s : cS) (x : Int32) : cS := (s.1, (s.2.1, (s.2.2.1, (((s.2.2.2.1.1.1, x), s.2.2.2.1.2), s.2.2.2.2))))
def cS.s_sb0 (s : cS) (x : mj_O) : cS := (s.1, (s.2.1, (s.2.2.1, ((s.2.2.2.1.1, x), s.2.2.2.2))))
def cS.s_sb1 (s : cS) (x : mj_O) : cS := (s.1, (s.2.1, (s.2.2.1, (s.2.2.2.1, (x, s.2.2.2.2.2)))))
def cS.s_rests (s : cS) (x : Nat → Int64) : cS := (s.1, (s.2.1, (s.2.2.1, (s.2.2.2.1, (s.2.2.2.2.1, x)))))
abbrev oI (n : Nat) (f : Nat → Int32) : mj_O := .inl (0, n, .inl f)
abbrev oJ (n : Nat) (f : Nat → Int64) : mj_O := .inl (1, n, .inr (.inl f))
abbrev oC (n : Nat) (f : Nat → Int32) : mj_O := .inl (2, n, .inl f)
abbrev oZ (n : Nat) (f : Nat → Int32) : mj_O := .inl (3, n, .inl f)
abbrev oF (c : Nat) (fs : List Value) : mj_O := .inr (.inl (c, fs))
def cW (s : cS) (tl : List mj_O) : List mj_O :=
  oF 0 [.int (nI s.z), .ref 8, .ref 10, .ref 11, .ref 14, .ref 16, .int s.err] ::
  oF 2 [.ref 2, .ref 3, .ref 4, .ref 5, .ref 6, .ref 7, .int s.nodes] ::
  oI 96 s.kinds :: oI 96 s.vals :: oI 96 s.poss :: oI 96 s.firsts :: oI 96 s.lasts :: oI 96 s.folls ::
  oF 1 [.ref 9, .int s.len] :: oC 96 s.txt ::
  oF 3 [.ref 8, .ref 1, .int s.at_] ::
  oF 4 [.ref 12, .ref 13, .int s.cells, .int s.last, .int s.inside] :: oJ s.z s.cH :: oJ s.z s.cT ::
  oF 5 [.ref 1, .ref 11, .ref 15, .int s.known, .int s.unk] :: oI 9 s.frames ::
  oF 6 [.ref 17, .ref 23, .long s.rS, .long s.rE, .long s.rC, .long s.rD, .int s.mode, .int s.colls, .int s.taken, .int s.steps] ::
  oF 7 [.int (nI s.z), .ref 18, .ref 19, .ref 20, .ref 21, .ref 22, .int s.freeN, .int s.reachN, .int s.codeN] :: oJ s.z s.sH :: oJ s.z s.sT :: oI s.z s.free :: oZ s.z s.marked :: oI s.z s.reached ::
  oF 8 [.ref 17, .ref 24, .ref 26, .int s.opn] :: s.sb0 :: s.sb1 :: oJ 120 s.rests :: tl
abbrev rM : Type := (((((Nat × Int32) × Int32) × (((Nat → Int32) × Int32) × Int32)) × (((Int32 × (Nat → Int32)) × (Nat → Int32)) × (((Nat → Int32) × (Nat → Int32)) × (Nat → Int32)))) × (((((Nat → Int32) × (Nat → Int32)) × (Nat → Int32)) × (((Nat → Int32) × (Nat → Int32)) × (Nat → Int32))) × (((Int32 × Int32) × (Nat → Int32)) × ((Nat → Int32) × Int32)))) × (((((Int32 × (Nat → Int32)) × (Nat → Int32)) × (((Nat → Int32) × (Nat → Int32)) × (Nat → Int32))) × ((((Nat → Int32) × (Nat → Int32)) × (Nat → Int32)) × ((Nat → Int32) × Int32))) × (((((Nat → Int32) × (Nat → Int32)) × Int32) × ((Int32 × Int32) × Int32)) × (((Int32 × Int32) × Int32) × (Int32 × (Nat → Int32)))))
def rM.z (s : rM) : Nat := s.1.1.1.1.1.1
def rM.thrown (s : rM) : Int32 := s.1.1.1.1.1.2
def rM.typed (s : rM) : Int32 := s.1.1.1.1.2
def rM.text (s : rM) : Nat → Int32 := s.1.1.1.2.1.1
def rM.p (s : rM) : Int32 := s.1.1.1.2.1.2
def rM.error (s : rM) : Int32 := s.1.1.1.2.2
def rM.parts (s : rM) : Int32 := s.1.1.2.1.1.1
def rM.kind (s : rM) : Nat → Int32 := s.1.1.2.1.1.2
def rM.at_ (s : rM) : Nat → Int32 := s.1.1.2.1.2
def rM.until_ (s : rM) : Nat → Int32 := s.1.1.2.2.1.1
def rM.value (s : rM) : Nat → Int32 := s.1.1.2.2.1.2
def rM.parent (s : rM) : Nat → Int32 := s.1.1.2.2.2
def rM.first (s : rM) : Nat → Int32 := s.1.2.1.1.1.1
def rM.last (s : rM) : Nat → Int32 := s.1.2.1.1.1.2
def rM.next (s : rM) : Nat → Int32 := s.1.2.1.1.2
def rM.many (s : rM) : Nat → Int32 := s.1.2.1.2.1.1
def rM.letters (s : rM) : Nat → Int32 := s.1.2.1.2.1.2
def rM.bound (s : rM) : Nat → Int32 := s.1.2.1.2.2
def rM.depth (s : rM) : Int32 := s.1.2.2.1.1.1
def rM.signs (s : rM) : Int32 := s.1.2.2.1.1.2
def rM.signKind (s : rM) : Nat → Int32 := s.1.2.2.1.2
def rM.signValue (s : rM) : Nat → Int32 := s.1.2.2.2.1
def rM.cells (s : rM) : Int32 := s.1.2.2.2.2
def rM.tasks (s : rM) : Int32 := s.2.1.1.1.1.1
def rM.taskKind (s : rM) : Nat → Int32 := s.2.1.1.1.1.2
def rM.taskValue (s : rM) : Nat → Int32 := s.2.1.1.1.2
def rM.used (s : rM) : Nat → Int32 := s.2.1.1.2.1.1
def rM.function (s : rM) : Nat → Int32 := s.2.1.1.2.1.2
def rM.headKind (s : rM) : Nat → Int32 := s.2.1.1.2.2
def rM.head (s : rM) : Nat → Int32 := s.2.1.2.1.1.1
def rM.tailKind (s : rM) : Nat → Int32 := s.2.1.2.1.1.2
def rM.tail (s : rM) : Nat → Int32 := s.2.1.2.1.2
def rM.marked (s : rM) : Nat → Int32 := s.2.1.2.2.1
def rM.piled (s : rM) : Int32 := s.2.1.2.2.2
def rM.pile (s : rM) : Nat → Int32 := s.2.2.1.1.1.1
def rM.reg (s : rM) : Nat → Int32 := s.2.2.1.1.1.2
def rM.program (s : rM) : Int32 := s.2.2.1.1.2
def rM.state (s : rM) : Int32 := s.2.2.1.2.1.1
def rM.collections (s : rM) : Int32 := s.2.2.1.2.1.2
def rM.takenBack (s : rM) : Int32 := s.2.2.1.2.2
def rM.steps (s : rM) : Int32 := s.2.2.2.1.1.1
def rM.gotKind (s : rM) : Int32 := s.2.2.2.1.1.2
def rM.got (s : rM) : Int32 := s.2.2.2.1.2
def rM.shown (s : rM) : Int32 := s.2.2.2.2.1
def rM.show_ (s : rM) : Nat → Int32 := s.2.2.2.2.2
def rM.s_z (s : rM) (x : Nat) : rM := ((((((x, s.1.1.1.1.1.2), s.1.1.1.1.2), s.1.1.1.2), s.1.1.2), s.1.2), s.2)
def rM.s_thrown (s : rM) (x : Int32) : rM := ((((((s.1.1.1.1.1.1, x), s.1.1.1.1.2), s.1.1.1.2), s.1.1.2), s.1.2), s.2)
def rM.s_typed (s : rM) (x : Int32) : rM := (((((s.1.1.1.1.1, x), s.1.1.1.2), s.1.1.2), s.1.2), s.2)
def rM.s_text (s : rM) (x : Nat → Int32) : rM := ((((s.1.1.1.1, ((x, s.1.1.1.2.1.2), s.1.1.1.2.2)), s.1.1.2), s.1.2), s.2)
def rM.s_p (s : rM) (x : Int32) : rM := ((((s.1.1.1.1, ((s.1.1.1.2.1.1, x), s.1.1.1.2.2)), s.1.1.2), s.1.2), s.2)
def rM.s_error (s : rM) (x : Int32) : rM := ((((s.1.1.1.1, (s.1.1.1.2.1, x)), s.1.1.2), s.1.2), s.2)
def rM.s_parts (s : rM) (x : Int32) : rM := (((s.1.1.1, (((x, s.1.1.2.1.1.2), s.1.1.2.1.2), s.1.1.2.2)), s.1.2), s.2)
def rM.s_kind (s : rM) (x : Nat → Int32) : rM := (((s.1.1.1, (((s.1.1.2.1.1.1, x), s.1.1.2.1.2), s.1.1.2.2)), s.1.2), s.2)
def rM.s_at_ (s : rM) (x : Nat → Int32) : rM := (((s.1.1.1, ((s.1.1.2.1.1, x), s.1.1.2.2)), s.1.2), s.2)
def rM.s_until_ (s : rM) (x : Nat → Int32) : rM := (((s.1.1.1, (s.1.1.2.1, ((x, s.1.1.2.2.1.2), s.1.1.2.2.2))), s.1.2), s.2)
def rM.s_value (s : rM) (x : Nat → Int32) : rM := (((s.1.1.1, (s.1.1.2.1, ((s.1.1.2.2.1.1, x), s.1.1.2.2.2))), s.1.2), s.2)
def rM.s_parent (s : rM) (x : Nat → Int32) : rM := (((s.1.1.1, (s.1.1.2.1, (s.1.1.2.2.1, x))), s.1.2), s.2)
def rM.s_first (s : rM) (x : Nat → Int32) : rM := ((s.1.1, ((((x, s.1.2.1.1.1.2), s.1.2.1.1.2), s.1.2.1.2), s.1.2.2)), s.2)
def rM.s_last (s : rM) (x : Nat → Int32) : rM := ((s.1.1, ((((s.1.2.1.1.1.1, x), s.1.2.1.1.2), s.1.2.1.2), s.1.2.2)), s.2)
def rM.s_next (s : rM) (x : Nat → Int32) : rM := ((s.1.1, (((s.1.2.1.1.1, x), s.1.2.1.2), s.1.2.2)), s.2)
def rM.s_many (s : rM) (x : Nat → Int32) : rM := ((s.1.1, ((s.1.2.1.1, ((x, s.1.2.1.2.1.2), s.1.2.1.2.2)), s.1.2.2)), s.2)
def rM.s_letters (s : rM) (x : Nat → Int32) : rM := ((s.1.1, ((s.1.2.1.1, ((s.1.2.1.2.1.1, x), s.1.2.1.2.2)), s.1.2.2)), s.2)
def rM.s_bound (s : rM) (x : Nat → Int32) : rM := ((s.1.1, ((s.1.2.1.1, (s.1.2.1.2.1, x)), s.1.2.2)), s.2)
def rM.s_depth (s : rM) (x : Int32) : rM := ((s.1.1, (s.1.2.1, (((x, s.1.2.2.1.1.2), s.1.2.2.1.2), s.1.2.2.2))), s.2)
def rM.s_signs (s : rM) (x : Int32) : rM := ((s.1.1, (s.1.2.1, (((s.1.2.2.1.1.1, x), s.1.2.2.1.2), s.1.2.2.2))), s.2)
def rM.s_signKind (s : rM) (x : Nat → Int32) : rM := ((s.1.1, (s.1.2.1, ((s.1.2.2.1.1, x), s.1.2.2.2))), s.2)
def rM.s_signValue (s : rM) (x : Nat → Int32) : rM := ((s.1.1, (s.1.2.1, (s.1.2.2.1, (x, s.1.2.2.2.2)))), s.2)
def rM.s_cells (s : rM) (x : Int32) : rM := ((s.1.1, (s.1.2.1, (s.1.2.2.1, (s.1.2.2.2.1, x)))), s.2)
def rM.s_tasks (s : rM) (x : Int32) : rM := (s.1, (((((x, s.2.1.1.1.1.2), s.2.1.1.1.2), s.2.1.1.2), s.2.1.2), s.2.2))
def rM.s_taskKind (s : rM) (x : Nat → Int32) : rM := (s.1, (((((s.2.1.1.1.1.1, x), s.2.1.1.1.2), s.2.1.1.2), s.2.1.2), s.2.2))
def rM.s_taskValue (s : rM) (x : Nat → Int32) : rM := (s.1, ((((s.2.1.1.1.1, x), s.2.1.1.2), s.2.1.2), s.2.2))
def rM.s_used (s : rM) (x : Nat → Int32) : rM := (s.1, (((s.2.1.1.1, ((x, s.2.1.1.2.1.2), s.2.1.1.2.2)), s.2.1.2), s.2.2))
def rM.s_function (s : rM) (x : Nat → Int32) : rM := (s.1, (((s.2.1.1.1, ((s.2.1.1.2.1.1, x), s.2.1.1.2.2)), s.2.1.2), s.2.2))
def rM.s_headKind (s : rM) (x : Nat → Int32) : rM := (s.1, (((s.2.1.1.1, (s.2.1.1.2.1, x)), s.2.1.2), s.2.2))
def rM.s_head (s : rM) (x : Nat → Int32) : rM := (s.1, ((s.2.1.1, (((x, s.2.1.2.1.1.2), s.2.1.2.1.2), s.2.1.2.2)), s.2.2))
def rM.s_tailKind (s : rM) (x : Nat → Int32) : rM := (s.1, ((s.2.1.1, (((s.2.1.2.1.1.1, x), s.2.1.2.1.2), s.2.1.2.2)), s.2.2))
def rM.s_tail (s : rM) (x : Nat → Int32) : rM := (s.1, ((s.2.1.1, ((s.2.1.2.1.1, x), s.2.1.2.2)), s.2.2))
def rM.s_marked (s : rM) (x : Nat → Int32) : rM := (s.1, ((s.2.1.1, (s.2.1.2.1, (x, s.2.1.2.2.2))), s.2.2))
def rM.s_piled (s : rM) (x : Int32) : rM := (s.1, ((s.2.1.1, (s.2.1.2.1, (s.2.1.2.2.1, x))), s.2.2))
def rM.s_pile (s : rM) (x : Nat → Int32) : rM := (s.1, (s.2.1, ((((x, s.2.2.1.1.1.2), s.2.2.1.1.2), s.2.2.1.2), s.2.2.2)))
def rM.s_reg (s : rM) (x : Nat → Int32) : rM := (s.1, (s.2.1, ((((s.2.2.1.1.1.1, x), s.2.2.1.1.2), s.2.2.1.2), s.2.2.2)))
def rM.s_program (s : rM) (x : Int32) : rM := (s.1, (s.2.1, (((s.2.2.1.1.1, x), s.2.2.1.2), s.2.2.2)))
def rM.s_state (s : rM) (x : Int32) : rM := (s.1, (s.2.1, ((s.2.2.1.1, ((x, s.2.2.1.2.1.2), s.2.2.1.2.2)), s.2.2.2)))
def rM.s_collections (s : rM) (x : Int32) : rM := (s.1, (s.2.1, ((s.2.2.1.1, ((s.2.2.1.2.1.1, x), s.2.2.1.2.2)), s.2.2.2)))
def rM.s_takenBack (s : rM) (x : Int32) : rM := (s.1, (s.2.1, ((s.2.2.1.1, (s.2.2.1.2.1, x)), s.2.2.2)))
def rM.s_steps (s : rM) (x : Int32) : rM := (s.1, (s.2.1, (s.2.2.1, (((x, s.2.2.2.1.1.2), s.2.2.2.1.2), s.2.2.2.2))))
def rM.s_gotKind (s : rM) (x : Int32) : rM := (s.1, (s.2.1, (s.2.2.1, (((s.2.2.2.1.1.1, x), s.2.2.2.1.2), s.2.2.2.2))))
def rM.s_got (s : rM) (x : Int32) : rM := (s.1, (s.2.1, (s.2.2.1, ((s.2.2.2.1.1, x), s.2.2.2.2))))
def rM.s_shown (s : rM) (x : Int32) : rM := (s.1, (s.2.1, (s.2.2.1, (s.2.2.2.1, (x, s.2.2.2.2.2)))))
def rM.s_show_ (s : rM) (x : Nat → Int32) : rM := (s.1, (s.2.1, (s.2.2.1, (s.2.2.2.1, (s.2.2.2.2.1, x)))))
def rW (r : rM) (tl : List mj_O) : List mj_O :=
  oF 10 [.int (nI r.z), .int r.thrown, .int r.typed, .ref 28, .int r.p, .int r.error, .int r.parts, .ref 29, .ref 30, .ref 31, .ref 32, .ref 33, .ref 34, .ref 35, .ref 36, .ref 37, .ref 38, .ref 39, .int r.depth, .int r.signs, .ref 40, .ref 41, .int r.cells, .int r.tasks, .ref 42, .ref 43, .ref 44, .ref 45, .ref 46, .ref 47, .ref 48, .ref 49, .ref 50, .int r.piled, .ref 51, .ref 52, .int r.program, .int r.state, .int r.collections, .int r.takenBack, .int r.steps, .int r.gotKind, .int r.got, .int r.shown, .ref 53] ::
  oC 96 r.text :: oI 100 r.kind :: oI 100 r.at_ :: oI 100 r.until_ :: oI 100 r.value :: oI 100 r.parent :: oI 100 r.first :: oI 100 r.last :: oI 100 r.next :: oI 100 r.many :: oI 300 r.letters :: oI 100 r.bound ::
  oI 1200 r.signKind :: oI 1200 r.signValue :: oI 1200 r.taskKind :: oI 1200 r.taskValue ::
  oZ 250 r.used :: oZ 250 r.function :: oI 250 r.headKind :: oI 250 r.head :: oI 250 r.tailKind :: oI 250 r.tail :: oZ 250 r.marked :: oI 260 r.pile :: oI 5 r.reg :: oC 120 r.show_ :: tl
end
section
section P1
variable {cst : Nat → Option (Nat × (Nat → Int32))} {m bc bs : Nat} {Q : mj_R → Prop}
abbrev z0 : Nat → Int32 := fun _ => 0
abbrev l0 : Nat → Int64 := fun _ => 0
set_option maxRecDepth 10000
theorem e96 : (Int32.ofInt 96).toNatClampNeg = 96 := by decide
theorem e9 : (Int32.ofInt 9).toNatClampNeg = 9 := by decide
theorem e120 : (Int32.ofInt 120).toNatClampNeg = 120 := by decide
theorem e16 : (Int32.ofInt 16).toNatClampNeg = 16 := by decide
theorem c_tree_init {o0 : mj_O} (hb : 576 ≤ bs) (hQ : ∀ b, bs ≤ b + 576 → Q (.inl none, ([o0, oF 2 [.ref 2, .ref 3, .ref 4, .ref 5, .ref 6, .ref 7, .int 0], oI 96 z0, oI 96 z0, oI 96 z0, oI 96 z0, oI 96 z0, oI 96 z0], bc, b, true))) :
    mj_Mt gT cst gnw (m + 1) y_Tree_init [.ref 1] ([o0, oF 2 fN2], bc + 6, bs, true) Q := by
  intro J hJ
  refine hJ _ _ _ _ ?_
  refine And.intro (Nat.le_of_ble_eq_true rfl) (And.intro (by decide) (And.intro (by rw [e96]; omega) (And.intro (by decide) ?_)))
  refine And.intro (Nat.le_of_ble_eq_true rfl) (And.intro (by decide) (And.intro (by rw [e96]; omega) (And.intro (by decide) ?_)))
  refine And.intro (Nat.le_of_ble_eq_true rfl) (And.intro (by decide) (And.intro (by rw [e96]; omega) (And.intro (by decide) ?_)))
  refine And.intro (Nat.le_of_ble_eq_true rfl) (And.intro (by decide) (And.intro (by rw [e96]; omega) (And.intro (by decide) ?_)))
  refine And.intro (Nat.le_of_ble_eq_true rfl) (And.intro (by decide) (And.intro (by rw [e96]; omega) (And.intro (by decide) ?_)))
  refine And.intro (Nat.le_of_ble_eq_true rfl) (And.intro (by decide) (And.intro (by rw [e96]; omega) (And.intro (by decide) ?_)))
  exact hQ _ (by rw [e96]; omega)
theorem c_text_init {o0 o1 o2 o3 o4 o5 o6 o7 : mj_O} (hb : 96 ≤ bs) (hQ : ∀ b, bs ≤ b + 96 → Q (.inl none, ([o0, o1, o2, o3, o4, o5, o6, o7, oF 1 [.ref 9, .int 0], oC 96 z0], bc, b, true))) :
    mj_Mt gT cst gnw (m + 1) y_Text_init [.ref 8] ([o0, o1, o2, o3, o4, o5, o6, o7, oF 1 fN1], bc + 1, bs, true) Q := by
  intro J hJ
  refine hJ _ _ _ _ ?_
  refine And.intro (Nat.le_of_ble_eq_true rfl) (And.intro (by decide) (And.intro (by rw [e96]; omega) (And.intro (by decide) ?_)))
  exact hQ _ (by rw [e96]; omega)
theorem c_reader_init {o0 o1 o2 o3 o4 o5 o6 o7 o8 o9 : mj_O}  (hQ : ∀ b, bs ≤ b + 0 → Q (.inl none, ([o0, o1, o2, o3, o4, o5, o6, o7, o8, o9, oF 3 [.ref 8, .ref 1, .int 0]], bc, b, true))) :
    mj_Mt gT cst gnw (m + 1) y_Reader_init [.ref 10, .ref 8, .ref 1] ([o0, o1, o2, o3, o4, o5, o6, o7, o8, o9, oF 3 fN3], bc + 0, bs, true) Q := by
  intro J hJ
  refine hJ _ _ _ _ ?_
  exact hQ _ (Nat.le_refl _)
theorem c_code_init {o0 o1 o2 o3 o4 o5 o6 o7 o8 o9 o10 : mj_O} {x : Int32} (hx : ¬ x < 0) (h5 : x.toNatClampNeg ≤ 250) (hb : 2 * x.toNatClampNeg ≤ bs) (hQ : ∀ b, bs ≤ b + 2 * x.toNatClampNeg → Q (.inl none, ([o0, o1, o2, o3, o4, o5, o6, o7, o8, o9, o10, oF 4 [.ref 12, .ref 13, .int 0, .int 0, .int 0], oJ x.toNatClampNeg l0, oJ x.toNatClampNeg l0], bc, b, true))) :
    mj_Mt gT cst gnw (m + 1) y_Code_init [.ref 11, .int x] ([o0, o1, o2, o3, o4, o5, o6, o7, o8, o9, o10, oF 4 fN4], bc + 2, bs, true) Q := by
  intro J hJ
  refine hJ _ _ _ _ ?_
  refine And.intro (Nat.le_of_ble_eq_true rfl) (And.intro hx (And.intro (by omega) (And.intro (by omega) ?_)))
  refine And.intro (Nat.le_of_ble_eq_true rfl) (And.intro hx (And.intro (by omega) (And.intro (by omega) ?_)))
  exact hQ _ (by omega)
theorem c_coder_init {o0 o1 o2 o3 o4 o5 o6 o7 o8 o9 o10 o11 o12 o13 : mj_O} (hb : 9 ≤ bs) (hQ : ∀ b, bs ≤ b + 9 → Q (.inl none, ([o0, o1, o2, o3, o4, o5, o6, o7, o8, o9, o10, o11, o12, o13, oF 5 [.ref 1, .ref 11, .ref 15, .int 0, .int 0], oI 9 z0], bc, b, true))) :
    mj_Mt gT cst gnw (m + 1) y_Coder_init [.ref 14, .ref 1, .ref 11] ([o0, o1, o2, o3, o4, o5, o6, o7, o8, o9, o10, o11, o12, o13, oF 5 fN5], bc + 1, bs, true) Q := by
  intro J hJ
  refine hJ _ _ _ _ ?_
  refine And.intro (Nat.le_of_ble_eq_true rfl) (And.intro (by decide) (And.intro (by rw [e9]; omega) (And.intro (by decide) ?_)))
  exact hQ _ (by rw [e9]; omega)
def fillU (f : Nat → Int32) : Nat → Nat → (Nat → Int32)
  | _, 0 => f
  | k, n + 1 => fillU (upd f k (nI k)) (k + 1) n
def fillF (f : Nat → Int32) (k z : Nat) : Nat → Int32 := fillU f k (z - k)
theorem fillF_step (f : Nat → Int32) {k z : Nat} (h : k < z) : fillF (upd f k (nI k)) (k + 1) z = fillF f k z := by
  unfold fillF
  rw [show z - k = (z - (k + 1)) + 1 by omega]
  rfl
theorem fillF_end (f : Nat → Int32) {k z : Nat} (h : ¬ k < z) : fillF f k z = f := by
  unfold fillF
  rw [show z - k = 0 by omega]
  rfl
set_option maxHeartbeats 2000000 in
theorem c_store_init {o0 o1 o2 o3 o4 o5 o6 o7 o8 o9 o10 o11 o12 o13 o14 o15 o16 : mj_O} {z : Nat} (h5 : z ≤ 250) (hb : 5 * z ≤ bs) (hQ : ∀ b, bs ≤ b + 5 * z → Q (.inl none, ([o0, o1, o2, o3, o4, o5, o6, o7, o8, o9, o10, o11, o12, o13, o14, o15, o16, oF 7 [.int (nI z), .ref 18, .ref 19, .ref 20, .ref 21, .ref 22, .int (nI z), .int 0, .int 0], oJ z l0, oJ z l0, oI z (fillF z0 0 z), oZ z z0, oI z z0], bc, b, true))) :
    mj_Mt gT cst gnw (m + 1) y_Store_init [.ref 17, .int (nI z)] ([o0, o1, o2, o3, o4, o5, o6, o7, o8, o9, o10, o11, o12, o13, o14, o15, o16, oF 7 fN7], bc + 5, bs, true) Q := by
  have hx : ¬ nI z < 0 := nI_pos (by omega)
  have ec : (nI z).toNatClampNeg = z := nI_clamp (by omega)
  intro J hJ
  have loop : ∀ (b : Nat), bs ≤ b + 5 * z → ∀ (n k : Nat) (f : Nat → Int32), n = z - k → k ≤ z → fillF f k z = fillF z0 0 z → J 27 [some (.ref 17), some (.int (nI z)), some (.int (nI k))] [] ([o0, o1, o2, o3, o4, o5, o6, o7, o8, o9, o10, o11, o12, o13, o14, o15, o16, oF 7 [.int (nI z), .ref 18, .ref 19, .ref 20, .ref 21, .ref 22, .int 0, .int 0, .int 0], oJ z l0, oJ z l0, oI z f, oZ z z0, oI z z0], bc, b, true) := by
    intro b hb2 n
    induction n with
    | zero =>
      intro k f hn hk hf
      refine hJ _ _ _ _ ?_
      refine And.intro (fun _ => ?_) (fun h => absurd (nI_le (by omega) (by omega)) h)
      have e : f = fillF z0 0 z := by rw [← hf, fillF_end f (by omega)]
      subst e
      exact hQ b hb2
    | succ n ih =>
      intro k f hn hk hf
      refine hJ _ _ _ _ ?_
      refine And.intro (fun h => absurd h (nI_ge (by omega) (by omega))) (fun _ => ?_)
      refine And.intro (vp_in_nI (by omega) (by omega)) ?_
      have key : ∀ (i : Nat) (x : Int32), i = k → x = nI (k + 1) → J 27 [some (.ref 17), some (.int (nI z)), some (.int x)] [] ([o0, o1, o2, o3, o4, o5, o6, o7, o8, o9, o10, o11, o12, o13, o14, o15, o16, oF 7 [.int (nI z), .ref 18, .ref 19, .ref 20, .ref 21, .ref 22, .int 0, .int 0, .int 0], oJ z l0, oJ z l0, oI z (upd f i (nI k)), oZ z z0, oI z z0], bc, b, true) := by
        rintro i x rfl rfl
        exact ih (i + 1) _ (by omega) (by omega) (by rw [fillF_step f (by omega)]; exact hf)
      exact key _ _ (nI_clamp (by omega)) (nI_succ k).symm
  have key : ∀ (a b0 b1 b2 b3 b4 : Nat), bs ≤ a + 5 * z → b0 = z → b1 = z → b2 = z → b3 = z → b4 = z → J 27 [some (.ref 17), some (.int (nI z)), some (.int 0)] [] ([o0, o1, o2, o3, o4, o5, o6, o7, o8, o9, o10, o11, o12, o13, o14, o15, o16, oF 7 [.int (nI z), .ref 18, .ref 19, .ref 20, .ref 21, .ref 22, .int 0, .int 0, .int 0], oJ b0 l0, oJ b1 l0, oI b2 z0, oZ b3 z0, oI b4 z0], bc, a, true) := by
    rintro a b0 b1 b2 b3 b4 hb2 rfl rfl rfl rfl rfl
    exact loop a hb2 _ 0 z0 rfl (by omega) rfl
  refine hJ _ _ _ _ ?_
  refine And.intro (Nat.le_of_ble_eq_true rfl) (And.intro hx (And.intro (by rw [ec]; omega) (And.intro (by rw [ec]; omega) ?_)))
  refine And.intro (Nat.le_of_ble_eq_true rfl) (And.intro hx (And.intro (by rw [ec]; omega) (And.intro (by rw [ec]; omega) ?_)))
  refine And.intro (Nat.le_of_ble_eq_true rfl) (And.intro hx (And.intro (by rw [ec]; omega) (And.intro (by rw [ec]; omega) ?_)))
  refine And.intro (Nat.le_of_ble_eq_true rfl) (And.intro hx (And.intro (by rw [ec]; omega) (And.intro (by rw [ec]; omega) ?_)))
  refine And.intro (Nat.le_of_ble_eq_true rfl) (And.intro hx (And.intro (by rw [ec]; omega) (And.intro (by rw [ec]; omega) ?_)))
  exact key _ _ _ _ _ _ (by rw [ec]; omega) ec ec ec ec ec
abbrev sbP : mj_O := oF 9 [.ref 25, .int 0, .int 0, .int 0]
abbrev sbR : mj_O := .inl (4, 16, .inl z0)
def sbO : mj_O := .inr (.inr (.inl (0, fun _ => 0)))
def sbB : mj_O := .inr (.inr (.inr ()))
theorem c_asb_init {o0 o1 o2 o3 o4 o5 o6 o7 o8 o9 o10 o11 o12 o13 o14 o15 o16 o17 o18 o19 o20 o21 o22 o23 : mj_O} (hb : 16 ≤ bs) (hQ : ∀ b, bs ≤ b + 16 → Q (.inl none, ([o0, o1, o2, o3, o4, o5, o6, o7, o8, o9, o10, o11, o12, o13, o14, o15, o16, o17, o18, o19, o20, o21, o22, o23, sbP, sbR], bc, b, true))) :
    mj_Mt gT cst gnw (m + 1) y_AbstractStringBuilder_init [.ref 24, .int 16] ([o0, o1, o2, o3, o4, o5, o6, o7, o8, o9, o10, o11, o12, o13, o14, o15, o16, o17, o18, o19, o20, o21, o22, o23, oF 9 fN9], bc + 1, bs, true) Q := by
  intro J hJ
  refine hJ _ _ _ _ ?_
  refine And.intro (fun h => absurd h (by decide)) (fun _ => ?_)
  refine And.intro (Nat.le_of_ble_eq_true rfl) (And.intro (by decide) (And.intro (by rw [show (16 : Int32).toNatClampNeg = 16 by decide]; omega) (And.intro (by decide) ?_)))
  refine And.intro (Or.inl rfl) ?_
  have key : ∀ (a b : Nat), a = 16 → bs ≤ b + 16 → Q (.inl none, ([o0, o1, o2, o3, o4, o5, o6, o7, o8, o9, o10, o11, o12, o13, o14, o15, o16, o17, o18, o19, o20, o21, o22, o23, sbP, .inl (4, a, .inl z0)], bc, b, true)) := by
    rintro a b rfl h
    exact hQ b h
  exact key _ _ (by decide) (by rw [show (16 : Int32).toNatClampNeg = 16 by decide]; omega)
theorem c_sb_init {o0 o1 o2 o3 o4 o5 o6 o7 o8 o9 o10 o11 o12 o13 o14 o15 o16 o17 o18 o19 o20 o21 o22 o23 : mj_O} (hb : 16 ≤ bs) (hQ : ∀ b, bs ≤ b + 16 → Q (.inl none, ([o0, o1, o2, o3, o4, o5, o6, o7, o8, o9, o10, o11, o12, o13, o14, o15, o16, o17, o18, o19, o20, o21, o22, o23, sbP, sbR], bc, b, true))) :
    mj_Mt gT cst gnw (m + 2) y_StringBuilder_init [.ref 24] ([o0, o1, o2, o3, o4, o5, o6, o7, o8, o9, o10, o11, o12, o13, o14, o15, o16, o17, o18, o19, o20, o21, o22, o23, oF 9 fN9], bc + 1, bs, true) Q := by
  intro J hJ
  refine hJ _ _ _ _ ?_
  exact c_asb_init hb hQ
theorem c_display_init {o0 o1 o2 o3 o4 o5 o6 o7 o8 o9 o10 o11 o12 o13 o14 o15 o16 o17 o18 o19 o20 o21 o22 : mj_O} (hb : 140 ≤ bs) (hQ : ∀ b, bs ≤ b + 140 → Q (.inl none, ([o0, o1, o2, o3, o4, o5, o6, o7, o8, o9, o10, o11, o12, o13, o14, o15, o16, o17, o18, o19, o20, o21, o22, oF 8 [.ref 17, .ref 24, .ref 26, .int 0], sbO, sbB, oJ 120 l0], bc, b, true))) :
    mj_Mt gT cst gnw (m + 3) y_Display_init [.ref 23, .ref 17] ([o0, o1, o2, o3, o4, o5, o6, o7, o8, o9, o10, o11, o12, o13, o14, o15, o16, o17, o18, o19, o20, o21, o22, oF 8 fN8], bc + 3, bs, true) Q := by
  intro J hJ
  refine hJ _ _ _ _ ?_
  refine And.intro (Nat.le_of_ble_eq_true rfl) (And.intro (show 4 ≤ bs by omega) ?_)
  refine c_sb_init (show 16 ≤ bs - 4 by omega) (fun b1 (h1 : bs - 4 ≤ b1 + 16) => ?_)
  refine Exists.intro 16 (Exists.intro z0 (Exists.intro 0 (And.intro rfl (And.intro rfl (And.intro (by decide) (And.intro sb_fit0 ?_))))))
  refine And.intro (Nat.le_of_ble_eq_true rfl) (And.intro (by decide) (And.intro (by rw [e120]; omega) (And.intro (by decide) ?_)))
  exact hQ _ (by rw [e120]; omega)
theorem c_machine_init {o0 o1 o2 o3 o4 o5 o6 o7 o8 o9 o10 o11 o12 o13 o14 o15 : mj_O} {z : Nat} (h5 : z ≤ 250) (hb : 153 + 5 * z ≤ bs) (hQ : ∀ b, bs ≤ b + (153 + 5 * z) → Q (.inl none, ([o0, o1, o2, o3, o4, o5, o6, o7, o8, o9, o10, o11, o12, o13, o14, o15, oF 6 [.ref 17, .ref 23, .long 0, .long 0, .long 0, .long 0, .int 0, .int 0, .int 0, .int 0], oF 7 [.int (nI z), .ref 18, .ref 19, .ref 20, .ref 21, .ref 22, .int (nI z), .int 0, .int 0], oJ z l0, oJ z l0, oI z (fillF z0 0 z), oZ z z0, oI z z0, oF 8 [.ref 17, .ref 24, .ref 26, .int 0], sbO, sbB, oJ 120 l0], bc, b, true))) :
    mj_Mt gT cst gnw (m + 4) y_Machine_init [.ref 16, .int (nI z)] ([o0, o1, o2, o3, o4, o5, o6, o7, o8, o9, o10, o11, o12, o13, o14, o15, oF 6 fN6], bc + 10, bs, true) Q := by
  intro J hJ
  refine hJ _ _ _ _ ?_
  refine And.intro (Nat.le_of_ble_eq_true rfl) (And.intro (show 9 ≤ bs by omega) ?_)
  refine c_store_init h5 (show 5 * z ≤ bs - 9 by omega) (fun b1 (h1 : bs - 9 ≤ b1 + 5 * z) => ?_)
  refine And.intro (Nat.le_of_ble_eq_true rfl) (And.intro (show 4 ≤ b1 by omega) ?_)
  refine c_display_init (show 140 ≤ b1 - 4 by omega) (fun b2 (h2 : b1 - 4 ≤ b2 + 140) => ?_)
  exact hQ _ (by omega)
end P1
end
section
section P1b
variable {cst : Nat → Option (Nat × (Nat → Int32))} {m bc bs : Nat} {Q : mj_R → Prop}
set_option maxRecDepth 10000
def c0 (z : Nat) : cS := ((((((z, -1), z0), (z0, z0)), (((z0, z0), z0), (0, z0))), ((((0, 0), l0), (l0, 0)), (((0, 0), z0), (0, 0)))), (((((0, 0), 0), (0, 0)), (((0, 0), 0), (l0, l0))), ((((fillF z0 0 z, z0), z0), (nI z, 0)), (((0, 0), sbO), (sbB, l0)))))
def clZ (x : Int32) : Nat := if x < 20 then 20 else if 250 < x then 250 else x.toNatClampNeg
theorem clZ_le (x : Int32) : 20 ≤ clZ x ∧ clZ x ≤ 250 := by
  unfold clZ
  split
  · omega
  · split
    · omega
    · rename_i h1 h2
      obtain ⟨j, hj, rfl⟩ := nI_of (x := x) (fun h => h1 (Int32.lt_of_lt_of_le h (by decide)))
      rw [nI_clamp (by omega)]
      have a : ¬ j < 20 := fun h => h1 ((nI_ltI (b := 20) hj (by decide)).mpr h)
      have b : ¬ 250 < j := fun h => h2 ((nI_ltI (a := 250) (by decide) hj).mpr h)
      omega
theorem clZ_nI (x : Int32) : nI (clZ x) = if x < 20 then 20 else if 250 < x then 250 else x := by
  unfold clZ
  split
  · decide
  · split
    · decide
    · rename_i h1 h2
      obtain ⟨j, hj, rfl⟩ := nI_of (x := x) (fun h => h1 (Int32.lt_of_lt_of_le h (by decide)))
      rw [nI_clamp (by omega)]
theorem clZ_mm (x : Int32) : (if Int32.ofInt 20 < (if x < Int32.ofInt 250 then x else Int32.ofInt 250) then (if x < Int32.ofInt 250 then x else Int32.ofInt 250) else Int32.ofInt 20) = nI (clZ x) := by
  rw [clZ_nI]
  have e20 : Int32.ofInt 20 = 20 := by decide
  have e250 : Int32.ofInt 250 = 250 := by decide
  rw [e20, e250]
  by_cases h1 : x < 20
  · have h2 : x < 250 := Int32.lt_trans h1 (by decide)
    have h3 : ¬ 20 < x := fun h => Int32.lt_irrefl (Int32.lt_trans h h1)
    rw [if_pos h1, if_pos h2, if_neg h3]
  · rw [if_neg h1]
    by_cases h2 : 250 < x
    · have h3 : ¬ x < 250 := fun h => Int32.lt_irrefl (Int32.lt_trans h h2)
      rw [if_pos h2, if_neg h3]
      decide
    · rw [if_neg h2]
      by_cases h3 : x < 250
      · rw [if_pos h3]
        by_cases h4 : 20 < x
        · rw [if_pos h4]
        · rw [if_neg h4]
          exact Int32.le_antisymm (Int32.not_lt.mp h1) (Int32.not_lt.mp h4)
      · rw [if_neg h3]
        have : x = 250 := Int32.le_antisymm (Int32.not_lt.mp h2) (Int32.not_lt.mp h3)
        subst this
        decide
set_option maxHeartbeats 2000000 in
theorem c_pm_init {x : Int32} (hb : 4000 ≤ bs) (hQ : ∀ b, bs - 4000 ≤ b → Q (.inl none, (cW (c0 (clZ x)) [], bc, b, true))) :
    mj_Mt gT cst gnw (m + 5) y_P_init [.ref 0, .int x] ([oF 0 fN0], bc + 26, bs, true) Q := by
  have hv := clZ_mm x
  have h5 := (clZ_le x).2
  have ec : ∀ z : Nat, z ≤ 250 → (nI z).toNatClampNeg = z := fun z hz => nI_clamp (by omega)
  revert hv h5 hQ
  generalize clZ x = z
  intro hQ hv h5
  intro J hJ
  refine hJ _ _ _ _ ?_
  refine And.intro (Nat.le_of_ble_eq_true rfl) (And.intro (show 7 ≤ bs by omega) ?_)
  rw [hv]
  refine c_tree_init (show 576 ≤ bs - 7 by omega) (fun b1 (h1 : bs - 7 ≤ b1 + 576) => ?_)
  refine And.intro (Nat.le_of_ble_eq_true rfl) (And.intro (show 2 ≤ b1 by omega) ?_)
  refine c_text_init (show 96 ≤ b1 - 2 by omega) (fun b2 (h2 : b1 - 2 ≤ b2 + 96) => ?_)
  refine And.intro (Nat.le_of_ble_eq_true rfl) (And.intro (show 3 ≤ b2 by omega) ?_)
  refine c_reader_init (fun b3 (h3 : b2 - 3 ≤ b3 + 0) => ?_)
  refine And.intro (Nat.le_of_ble_eq_true rfl) (And.intro (show 5 ≤ b3 by omega) ?_)
  refine c_code_init (nI_pos (by omega)) (by rw [ec z h5]; exact h5) (by rw [ec z h5]; show 2 * z ≤ b3 - 5; omega) (fun b4 (h4 : b3 - 5 ≤ b4 + 2 * (nI z).toNatClampNeg) => ?_)
  rw [ec z h5] at h4 ⊢
  refine And.intro (Nat.le_of_ble_eq_true rfl) (And.intro (show 5 ≤ b4 by omega) ?_)
  refine c_coder_init (show 9 ≤ b4 - 5 by omega) (fun b5 (h5_ : b4 - 5 ≤ b5 + 9) => ?_)
  refine And.intro (Nat.le_of_ble_eq_true rfl) (And.intro (show 10 ≤ b5 by omega) ?_)
  refine c_machine_init h5 (show 153 + 5 * z ≤ b5 - 10 by omega) (fun b6 (h6 : b5 - 10 ≤ b6 + (153 + 5 * z)) => ?_)
  exact hQ _ (by omega)
end P1b
end
section
section P1c
variable {cst : Nat → Option (Nat × (Nat → Int32))} {m b0 b1 : Nat} {op : Bool} {tl : List mj_O} {Q : mj_R → Prop}
set_option maxRecDepth 10000
def shI (j : Nat) : Int32 := nI (8 * j) - 8
def wB (w : Int64) (j : Nat) : Int32 := (w.toUInt64 >>> ((shI (j + 1)).toInt64.toUInt64 &&& Int64.toUInt64 63)).toInt64.toInt32 &&& 255
def wC (w : Int64) : Nat → Nat → Option Nat
  | 0, a => some a
  | j + 1, a => if wB w j = 0 then wC w j a else if wB w j < 32 ∨ 126 < wB w j then none else wC w j (a + 1)
def wT (w : Int64) : Nat → Nat → (Nat → Int32) → Nat → Int32
  | 0, _, t => t
  | j + 1, n, t => if wB w j = 0 then wT w j n t else wT w j (n + 1) (upd t n (vp_nar .char ((wB w j).toUInt32 % 65536).toInt32))
theorem wC_succ (w : Int64) (j a : Nat) : wC w (j + 1) a = if wB w j = 0 then wC w j a else if wB w j < 32 ∨ 126 < wB w j then none else wC w j (a + 1) := rfl
theorem wT_succ (w : Int64) (j n : Nat) (t : Nat → Int32) : wT w (j + 1) n t = if wB w j = 0 then wT w j n t else wT w j (n + 1) (upd t n (vp_nar .char ((wB w j).toUInt32 % 65536).toInt32)) := rfl
def wO : Option Nat → Int32
  | none => -1
  | some n => nI n
theorem shI_8 : shI 8 = Int32.ofInt 56 := by decide
theorem shI_sub (j : Nat) : shI (j + 1) + Int32.ofInt (-8) = shI j := by
  unfold shI
  rw [show 8 * (j + 1) = 8 * j + 8 by omega, ← nI_add]
  have e : nI 8 = 8 := by decide
  have e2 : Int32.ofInt (-8) = -8 := by decide
  rw [e, e2, Int32.add_sub_cancel, ← Int32.sub_eq_add_neg]
theorem shI_sub' (j : Nat) : shI (j + 1) - 8 = shI j := by
  have h := shI_sub j
  rw [show Int32.ofInt (-8) = -8 by decide, ← Int32.sub_eq_add_neg] at h
  exact h
theorem shI_lt {j : Nat} (h : j < 8) : ¬ shI (j + 1) < 0 := by
  match j, h with
  | 0, _ => decide
  | 1, _ => decide
  | 2, _ => decide
  | 3, _ => decide
  | 4, _ => decide
  | 5, _ => decide
  | 6, _ => decide
  | 7, _ => decide
theorem shI_0 : shI 0 < 0 := by decide
theorem wC_le (w : Int64) : ∀ (j a n : Nat), wC w j a = some n → a ≤ n ∧ n ≤ a + j := by
  intro j
  induction j with
  | zero =>
    intro a n h
    cases h
    omega
  | succ j ih =>
    intro a n h
    unfold wC at h
    split at h
    · have := ih a n h
      omega
    · split at h
      · cases h
      · have := ih (a + 1) n h
        omega
theorem wC_shift (w : Int64) : ∀ (j a n k : Nat), wC w j a = some k → wC w j (n + a) = some (n + k) := by
  intro j
  induction j with
  | zero =>
    intro a n k h
    cases h
    rfl
  | succ j ih =>
    intro a n k h
    rw [wC_succ] at h ⊢
    split
    · rename_i g
      rw [if_pos g] at h
      exact ih a n k h
    · rename_i g
      rw [if_neg g] at h
      split
      · rename_i g2
        rw [if_pos g2] at h
        cases h
      · rename_i g2
        rw [if_neg g2] at h
        exact ih (a + 1) n k h
theorem wC_add {w : Int64} {k : Nat} (h : wC w 8 0 = some k) (n : Nat) : wC w 8 n = some (n + k) := wC_shift w 8 0 n k h
theorem c_codeIn {h : mj_H} {x : Int64} {y : Int32} (hQ : Q (.inl (some (.int ((x.toUInt64 >>> (y.toInt64.toUInt64 &&& Int64.toUInt64 63)).toInt64.toInt32 &&& 255))), h)) : mj_Mt gT cst gnw (m + 1) y_Text_codeIn [.long x, .int y] h Q := by
  intro J hJ
  refine hJ _ _ _ _ ?_
  exact hQ
theorem c_charactersIn {h : mj_H} {w : Int64} (hQ : Q (.inl (some (.int (wO (wC w 8 0)))), h)) : mj_Mt gT cst gnw (m + 2) y_Text_charactersIn [.long w] h Q := by
  intro J hJ
  have loop : ∀ (j a : Nat) (x : Option Value), j ≤ 8 → wC w j a = wC w 8 0 → J 4 [some (.long w), none, some (.int (nI a)), some (.int (shI j)), x] [] h := by
    intro j
    induction j with
    | zero =>
      intro a x hj e
      refine hJ _ _ _ _ ?_
      refine And.intro (fun _ => ?_) (fun g => absurd shI_0 g)
      rw [← e] at hQ
      exact hQ
    | succ j ih =>
      intro a x hj e
      refine hJ _ _ _ _ ?_
      refine And.intro (fun g => absurd g (shI_lt (by omega))) (fun _ => ?_)
      refine c_codeIn ?_
      rw [wC_succ w j a] at e
      refine And.intro (fun (g : wB w j = 0) => ?_) (fun (g : ¬ wB w j = 0) => ?_)
      · rw [if_pos g] at e
        have key : ∀ x : Int32, x = shI j → J 4 [some (.long w), none, some (.int (nI a)), some (.int x), some (.int (wB w j))] [] h := by
          rintro x rfl
          exact ih a _ (by omega) e
        exact key _ (shI_sub j)
      · rw [if_neg g] at e
        refine And.intro (fun (g2 : wB w j < 32) => ?_) (fun (g2 : ¬ wB w j < 32) => ?_)
        · rw [if_pos (Or.inl g2)] at e
          rw [← e] at hQ
          exact hQ
        · refine And.intro (fun (g3 : wB w j ≤ 126) => ?_) (fun (g3 : ¬ wB w j ≤ 126) => ?_)
          · have g4 : ¬ (wB w j < 32 ∨ 126 < wB w j) := fun g => g.elim g2 (fun q => (Int32.not_lt.mpr g3) q)
            rw [if_neg g4] at e
            have key : ∀ x y : Int32, x = shI j → y = nI (a + 1) → J 4 [some (.long w), none, some (.int y), some (.int x), some (.int (wB w j))] [] h := by
              rintro x y rfl rfl
              exact ih (a + 1) _ (by omega) e
            exact key _ _ (shI_sub j) (nI_succ a).symm
          · rw [if_pos (Or.inr (Int32.not_le.mp g3))] at e
            rw [← e] at hQ
            exact hQ
  refine hJ _ _ _ _ ?_
  have key : ∀ x : Int32, x = shI 8 → J 4 [some (.long w), none, some (.int 0), some (.int x), none] [] h := by
    rintro x rfl
    exact loop 8 0 none (by omega) rfl
  exact key _ shI_8.symm
theorem nI_ne_1 {k : Nat} (h : k < 2 ^ 31) : ¬ nI k = -1 := by
  intro e
  have := nI_toInt h
  rw [e, show (-1 : Int32).toInt = -1 by decide] at this
  omega
def wR (w : Int64) (n : Nat) : Option Nat := match wC w 8 0 with
  | none => none
  | some k => if n + k ≤ 96 then some (n + k) else none
theorem c_append {s : cS} {w : Int64} {n : Nat} (hn : n ≤ 96) (hs : s.len = nI n)
    (h1 : wR w n = none → Q (.inl (some (.int 0)), (cW s tl, b0, b1, op)))
    (h2 : ∀ k, wR w n = some k → Q (.inl (some (.int 1)), (cW ((s.s_len (nI k)).s_txt (wT w 8 n s.txt)) tl, b0, b1, op))) :
    mj_Mt gT cst gnw (m + 3) y_Text_append [.ref 8, .long w] (cW s tl, b0, b1, op) Q := by
  intro J hJ
  have loop : ∀ (k j a : Nat) (t : Nat → Int32) (x0 : Int32) (x : Option Value), wR w n = some k → j ≤ 8 → wC w j a = some k → wT w j a t = wT w 8 n s.txt → J 16 [some (.ref 8), some (.long w), none, some (.int x0), some (.int (shI j)), x] [] (cW ((s.s_len (nI a)).s_txt t) tl, b0, b1, op) := by
    intro k j
    induction j with
    | zero =>
      intro a t x0 x hk hj e et
      have e' : a = k := Option.some.inj e
      subst e'
      change t = _ at et
      subst et
      refine hJ _ _ _ _ ?_
      refine And.intro (fun _ => ?_) (fun g => absurd shI_0 g)
      exact And.intro (Or.inr rfl) (h2 a hk)
    | succ j ih =>
      intro a t x0 x hk hj e et
      have hle := wC_le w (j + 1) a k e
      have hk96 : k ≤ 96 := by
        unfold wR at hk
        split at hk
        · cases hk
        · split at hk
          · cases hk
            assumption
          · cases hk
      refine hJ _ _ _ _ ?_
      refine And.intro (fun g => absurd g (shI_lt (by omega))) (fun _ => ?_)
      refine c_codeIn ?_
      rw [wC_succ w j a] at e
      rw [wT_succ w j a t] at et
      refine And.intro (fun (g : wB w j = 0) => ?_) (fun (g : ¬ wB w j = 0) => ?_)
      · rw [if_pos g] at e et
        have key : ∀ x : Int32, x = shI j → J 16 [some (.ref 8), some (.long w), none, some (.int x0), some (.int x), some (.int (wB w j))] [] (cW ((s.s_len (nI a)).s_txt t) tl, b0, b1, op) := by
          rintro x rfl
          exact ih a t x0 _ hk (by omega) e et
        exact key _ (shI_sub j)
      · rw [if_neg g] at e et
        by_cases g4 : wB w j < 32 ∨ 126 < wB w j
        · rw [if_pos g4] at e
          cases e
        · rw [if_neg g4] at e
          have hle2 := wC_le w j (a + 1) k e
          refine And.intro (fun g5 => absurd g5 (nI_ge (b := 96) (by omega) (by decide))) (fun _ => ?_)
          refine And.intro (vp_in_nI (by omega) (by decide)) ?_
          have key : ∀ (i : Nat) (x y : Int32), i = a → x = shI j → y = nI (a + 1) → J 16 [some (.ref 8), some (.long w), none, some (.int x0), some (.int x), some (.int (wB w j))] [] (cW ((s.s_len y).s_txt (upd t i (vp_nar .char ((wB w j).toUInt32 % 65536).toInt32))) tl, b0, b1, op) := by
            rintro i x y rfl rfl rfl
            exact ih (i + 1) _ x0 _ hk (by omega) e et
          exact key _ _ _ (nI_clamp (by omega)) (shI_sub j) (nI_succ a).symm
  refine hJ _ _ _ _ ?_
  refine c_charactersIn ?_
  cases hc : wC w 8 0 with
  | none =>
    have hr : wR w n = none := by
      unfold wR
      rw [hc]
    refine And.intro (fun _ => ?_) (fun g => absurd rfl g)
    exact And.intro (Or.inl rfl) (h1 hr)
  | some k =>
    have hk := wC_le w 8 0 k hc
    refine And.intro (fun g => absurd g (nI_ne_1 (by omega))) (fun _ => ?_)
    have hr : wR w n = if n + k ≤ 96 then some (n + k) else none := by
      unfold wR
      rw [hc]
    by_cases h96 : n + k ≤ 96
    · rw [if_pos h96] at hr
      have hle : s.len + nI k ≤ nI 96 := by
        rw [hs, nI_add]
        exact nI_le h96 (by decide)
      refine And.intro (fun _ => ?_) (fun g => absurd hle g)
      have key : ∀ (x : Int32) (y : Int32), x = shI 8 → y = nI n → J 16 [some (.ref 8), some (.long w), none, some (.int (nI k)), some (.int x), none] [] (cW (s.s_len y) tl, b0, b1, op) := by
        rintro x y rfl rfl
        exact loop (n + k) 8 n s.txt _ none hr (by omega) (wC_add hc n) rfl
      exact key _ _ shI_8.symm hs
    · rw [if_neg h96] at hr
      have hle : ¬ s.len + nI k ≤ nI 96 := by
        rw [hs, nI_add]
        exact nI_ge (by omega) (by omega)
      refine And.intro (fun g => absurd g hle) (fun _ => ?_)
      exact And.intro (Or.inl rfl) (h1 hr)
end P1c
end
section
section P1d
variable {cst : Nat → Option (Nat × (Nat → Int32))} {m b0 b1 : Nat} {op : Bool} {tl : List mj_O} {Q : mj_R → Prop}
set_option maxRecDepth 10000
theorem c_write {s : cS} {w : Int64} {n : Nat} (hn : n ≤ 96) (hs : s.len = nI n)
    (h1 : wR w n = none → Q (.inl (some (.int 0)), (cW s tl, b0, b1, op)))
    (h2 : ∀ k, wR w n = some k → Q (.inl (some (.int 1)), (cW ((s.s_len (nI k)).s_txt (wT w 8 n s.txt)) tl, b0, b1, op))) :
    mj_Mt gT cst gnw (m + 4) y_P_write [.ref 0, .long w] (cW s tl, b0, b1, op) Q := by
  intro J hJ
  refine hJ _ _ _ _ ?_
  refine c_append hn hs (fun h => ?_) (fun k h => ?_)
  · exact And.intro (Or.inl rfl) (h1 h)
  · exact And.intro (Or.inr rfl) (h2 k h)
theorem and255 (x : Int64) : (x &&& Int64.ofNat 255).toInt32 = x.toInt32 &&& 255 := by
  rw [Int64.toInt32_and]
  rfl
theorem r_write {s : cS} {r : rM} {w : Int64} {n : Nat} (hn : n ≤ 96) (hs : r.typed = nI n)
    (h1 : wR w n = none → Q (.inl (some (.int 0)), (cW s (rW (r.s_thrown 0) tl), b0, b1, op)))
    (h2 : ∀ k, wR w n = some k → Q (.inl (some (.int 1)), (cW s (rW (((r.s_thrown 0).s_typed (nI k)).s_text (wT w 8 n r.text)) tl), b0, b1, op))) :
    mj_Mt gT cst gnw (m + 1) y_R_write [.ref 27, .long w] (cW s (rW r tl), b0, b1, op) Q := by
  intro J hJ
  have bw : ∀ j, ((w.toUInt64 >>> ((shI (j + 1)).toInt64.toUInt64 &&& Int64.toUInt64 63)).toInt64 &&& Int64.ofNat 255).toInt32 = wB w j := fun j => and255 _
  have loop2 : ∀ (k j a : Nat) (t : Nat → Int32) (x0 : Int32) (x : Option Value), wR w n = some k → j ≤ 8 → wC w j a = some k → wT w j a t = wT w 8 n r.text → J 49 [some (.ref 27), some (.long w), none, some (.int x0), some (.int (shI j)), x] [] (cW s (rW (((r.s_thrown 0).s_typed (nI a)).s_text t) tl), b0, b1, op) := by
    intro k j
    induction j with
    | zero =>
      intro a t x0 x hk hj e et
      have e' : a = k := Option.some.inj e
      subst e'
      change t = _ at et
      subst et
      refine hJ _ _ _ _ ?_
      refine And.intro (fun _ => ?_) (fun g => absurd shI_0 g)
      exact And.intro (Or.inr rfl) (h2 a hk)
    | succ j ih =>
      intro a t x0 x hk hj e et
      have hle := wC_le w (j + 1) a k e
      have hk96 : k ≤ 96 := by
        unfold wR at hk
        split at hk
        · cases hk
        · split at hk
          · cases hk
            assumption
          · cases hk
      refine hJ _ _ _ _ ?_
      refine And.intro (fun g => absurd g (shI_lt (by omega))) (fun _ => ?_)
      rw [wC_succ w j a] at e
      rw [wT_succ w j a t] at et
      have key : ∀ (i : Nat) (c x y : Int32), i = a → c = wB w j → x = shI j → y = nI (a + 1) → ¬ wB w j = 0 → J 49 [some (.ref 27), some (.long w), none, some (.int x0), some (.int x), some (.int c)] [] (cW s (rW (((r.s_thrown 0).s_typed y).s_text (upd t i (vp_nar .char (c.toUInt32 % 65536).toInt32))) tl), b0, b1, op) := by
        rintro i c x y rfl rfl rfl rfl g
        rw [if_neg g] at e et
        by_cases g4 : wB w j < 32 ∨ 126 < wB w j
        · rw [if_pos g4] at e
          cases e
        · rw [if_neg g4] at e
          exact ih (i + 1) _ x0 _ hk (by omega) e et
      have key0 : ∀ (c x : Int32), c = wB w j → x = shI j → wB w j = 0 → J 49 [some (.ref 27), some (.long w), none, some (.int x0), some (.int x), some (.int c)] [] (cW s (rW (((r.s_thrown 0).s_typed (nI a)).s_text t) tl), b0, b1, op) := by
        rintro c x rfl rfl g
        rw [if_pos g] at e et
        exact ih a t x0 _ hk (by omega) e et
      refine And.intro (fun g => ?_) (fun g => ?_)
      · exact key0 _ _ (bw j) (shI_sub' j) ((bw j).symm.trans g)
      · have g' : ¬ wB w j = 0 := fun q => g ((bw j).trans q)
        have hlt : a < 96 := by
          rw [if_neg g'] at e
          by_cases g4 : wB w j < 32 ∨ 126 < wB w j
          · rw [if_pos g4] at e
            cases e
          · rw [if_neg g4] at e
            have := wC_le w j (a + 1) k e
            omega
        refine And.intro (vp_in_nI hlt (by decide)) ?_
        exact key _ _ _ _ (nI_clamp (by omega)) (bw j) (shI_sub' j) (nI_succ a).symm g'
  have loop1 : ∀ (j a : Nat) (x : Option Value), j ≤ 8 → a + j ≤ 8 → wC w j a = wC w 8 0 → J 7 [some (.ref 27), some (.long w), none, some (.int (nI a)), some (.int (shI j)), x] [] (cW s (rW (r.s_thrown 0) tl), b0, b1, op) := by
    intro j
    induction j with
    | zero =>
      intro a x hj ha e
      have hc : wC w 8 0 = some a := e.symm
      have hr : wR w n = if n + a ≤ 96 then some (n + a) else none := by
        unfold wR
        rw [hc]
      refine hJ _ _ _ _ ?_
      refine And.intro (fun _ => ?_) (fun g => absurd shI_0 g)
      by_cases h96 : n + a ≤ 96
      · rw [if_pos h96] at hr
        have hle : r.typed + nI a ≤ nI 96 := by
          rw [hs, nI_add]
          exact nI_le h96 (by decide)
        refine And.intro (fun _ => ?_) (fun g => absurd hle g)
        have key : ∀ (x : Option Value) (y z : Int32), y = shI 8 → z = nI n → J 49 [some (.ref 27), some (.long w), none, some (.int (nI a)), some (.int y), x] [] (cW s (rW ((r.s_thrown 0).s_typed z) tl), b0, b1, op) := by
          rintro x y z rfl rfl
          exact loop2 (n + a) 8 n r.text _ _ hr (by omega) (wC_add hc n) rfl
        exact key _ _ _ shI_8.symm hs
      · rw [if_neg h96] at hr
        have hle : ¬ r.typed + nI a ≤ nI 96 := by
          rw [hs, nI_add]
          exact nI_ge (by omega) (by omega)
        refine And.intro (fun g => absurd g hle) (fun _ => ?_)
        exact And.intro (Or.inl rfl) (h1 hr)
    | succ j ih =>
      intro a x hj ha e
      refine hJ _ _ _ _ ?_
      refine And.intro (fun g => absurd g (shI_lt (by omega))) (fun _ => ?_)
      rw [wC_succ w j a] at e
      have key0 : ∀ (c x : Int32), c = wB w j → x = shI j → wB w j = 0 → J 7 [some (.ref 27), some (.long w), none, some (.int (nI a)), some (.int x), some (.int c)] [] (cW s (rW (r.s_thrown 0) tl), b0, b1, op) := by
        rintro c x rfl rfl g
        rw [if_pos g] at e
        exact ih a _ (by omega) (by omega) e
      have key1 : ∀ (c x y : Int32), c = wB w j → x = shI j → y = nI (a + 1) → ¬ wB w j = 0 → ¬ (wB w j < 32 ∨ 126 < wB w j) → J 7 [some (.ref 27), some (.long w), none, some (.int y), some (.int x), some (.int c)] [] (cW s (rW (r.s_thrown 0) tl), b0, b1, op) := by
        rintro c x y rfl rfl rfl g g4
        rw [if_neg g, if_neg g4] at e
        exact ih (a + 1) _ (by omega) (by omega) e
      have key2 : ¬ wB w j = 0 → (wB w j < 32 ∨ 126 < wB w j) → wR w n = none := by
        intro g g4
        rw [if_neg g, if_pos g4] at e
        unfold wR
        rw [← e]
      refine And.intro (fun g => ?_) (fun g => ?_)
      · refine And.intro (fun _ => ?_) (fun q => absurd g q)
        exact key0 _ _ (bw j) (shI_sub' j) ((bw j).symm.trans g)
      · have g' : ¬ wB w j = 0 := fun q => g ((bw j).trans q)
        refine And.intro (fun g2 => ?_) (fun g2 => ?_)
        · exact And.intro (Or.inl rfl) (h1 (key2 g' (Or.inl (by rw [← bw j]; exact g2))))
        · refine And.intro (fun g3 => ?_) (fun g3 => ?_)
          · refine And.intro (fun q => absurd q g) (fun _ => ?_)
            exact key1 _ _ _ (bw j) (shI_sub' j) (nI_succ a).symm g' (by rw [← bw j]; exact fun q => q.elim g2 (fun q => (Int32.not_lt.mpr g3) q))
          · exact And.intro (Or.inl rfl) (h1 (key2 g' (Or.inr (by rw [← bw j]; exact Int32.not_le.mp g3))))
  refine hJ _ _ _ _ ?_
  have key : ∀ x : Int32, x = shI 8 → J 7 [some (.ref 27), some (.long w), none, some (.int 0), some (.int x), none] [] (cW s (rW (r.s_thrown 0) tl), b0, b1, op) := by
    rintro x rfl
    exact loop1 8 0 none (by omega) (by omega) rfl
  exact key _ shI_8.symm
end P1d
end
section
section P1e
variable {cst : Nat → Option (Nat × (Nat → Int32))} {m b0 b1 : Nat} {op : Bool} {tl : List mj_O} {Q : mj_R → Prop} {s : cS}
set_option maxRecDepth 10000
theorem c_treeClear (hQ : Q (.inl none, (cW (s.s_nodes 0) tl, b0, b1, op))) : mj_Mt gT cst gnw (m + 1) y_Tree_clear [.ref 1] (cW s tl, b0, b1, op) Q := by
  intro J hJ
  refine hJ _ _ _ _ ?_
  exact hQ
theorem c_textClear (hQ : Q (.inl none, (cW (s.s_len 0) tl, b0, b1, op))) : mj_Mt gT cst gnw (m + 1) y_Text_clear [.ref 8] (cW s tl, b0, b1, op) Q := by
  intro J hJ
  refine hJ _ _ _ _ ?_
  exact hQ
theorem c_textLength (hQ : Q (.inl (some (.int s.len)), (cW s tl, b0, b1, op))) : mj_Mt gT cst gnw (m + 1) y_Text_length [.ref 8] (cW s tl, b0, b1, op) Q := by
  intro J hJ
  refine hJ _ _ _ _ ?_
  exact hQ
def cAt (s : cS) (i : Int32) : Int32 := if ¬ i < 0 ∧ i < s.len then s.txt i.toNatClampNeg else 0
theorem c_codeAt {i : Int32} {n : Nat} (hn : n ≤ 96) (hs : s.len = nI n) (hQ : Q (.inl (some (.int (cAt s i))), (cW s tl, b0, b1, op))) : mj_Mt gT cst gnw (m + 1) y_Text_codeAt [.ref 8, .int i] (cW s tl, b0, b1, op) Q := by
  intro J hJ
  refine hJ _ _ _ _ ?_
  refine And.intro (fun (g : i < 0) => ?_) (fun (g : ¬ i < 0) => ?_)
  · unfold cAt at hQ
    rw [if_neg (fun q => q.1 g)] at hQ
    exact hQ
  · refine And.intro (fun (g2 : s.len ≤ i) => ?_) (fun (g2 : ¬ s.len ≤ i) => ?_)
    · unfold cAt at hQ
      rw [if_neg (fun q => Int32.not_le.mpr q.2 g2)] at hQ
      exact hQ
    · unfold cAt at hQ
      have g3 := Int32.not_le.mp g2
      rw [if_pos ⟨g, g3⟩] at hQ
      refine And.intro ?_ hQ
      rw [hs] at g3
      obtain ⟨j, hj, rfl⟩ := nI_of g
      exact vp_in_nI (by have := (nI_ltI hj (by omega)).mp g3; omega) (by decide)
def isL (c : Int32) : Bool := decide (97 ≤ c) && decide (c ≤ 122)
def isD (c : Int32) : Bool := decide (48 ≤ c) && decide (c ≤ 57)
def bI (b : Bool) : Int32 := if b then 1 else 0
theorem bI_01 (b : Bool) : bI b = 0 ∨ bI b = 1 := by cases b <;> simp [bI]
theorem c_isLetter {h : mj_H} {c : Int32} (hQ : Q (.inl (some (.int (bI (isL c)))), h)) : mj_Mt gT cst gnw (m + 1) y_Reader_isLetter [.int c] h Q := by
  intro J hJ
  refine hJ _ _ _ _ ?_
  refine And.intro (fun (g : c < 97) => ?_) (fun (g : ¬ c < 97) => ?_)
  · have e : isL c = false := by simp [isL, Int32.not_le.mpr g]
    rw [e] at hQ
    exact And.intro (Or.inl rfl) hQ
  · refine And.intro (fun (g2 : 122 < c) => ?_) (fun (g2 : ¬ 122 < c) => ?_)
    · have e : isL c = false := by simp [isL, Int32.not_le.mpr g2]
      rw [e] at hQ
      exact And.intro (Or.inl rfl) hQ
    · have e : isL c = true := by simp [isL, Int32.not_lt.mp g, Int32.not_lt.mp g2]
      rw [e] at hQ
      exact And.intro (Or.inr rfl) hQ
theorem c_isDigit {h : mj_H} {c : Int32} (hQ : Q (.inl (some (.int (bI (isD c)))), h)) : mj_Mt gT cst gnw (m + 1) y_Reader_isDigit [.int c] h Q := by
  intro J hJ
  refine hJ _ _ _ _ ?_
  refine And.intro (fun (g : c < 48) => ?_) (fun (g : ¬ c < 48) => ?_)
  · have e : isD c = false := by simp [isD, Int32.not_le.mpr g]
    rw [e] at hQ
    exact And.intro (Or.inl rfl) hQ
  · refine And.intro (fun (g2 : 57 < c) => ?_) (fun (g2 : ¬ 57 < c) => ?_)
    · have e : isD c = false := by simp [isD, Int32.not_le.mpr g2]
      rw [e] at hQ
      exact And.intro (Or.inl rfl) hQ
    · have e : isD c = true := by simp [isD, Int32.not_lt.mp g, Int32.not_lt.mp g2]
      rw [e] at hQ
      exact And.intro (Or.inr rfl) hQ
theorem c_fail {os : List mj_O} (hb : 6 ≤ b1) (hQ : Q (.inr 0, (os, b0, b1 - 6, false))) : mj_Mt gT cst gnw (m + 1) y_Reader_fail [] (os, b0 + 1, b1, op) Q := by
  intro J hJ
  refine hJ _ _ _ _ ?_
  exact And.intro hb hQ
theorem cAt_0 {i : Int32} (hs : s.len = 0) : cAt s i = 0 := by
  unfold cAt
  rw [if_neg]
  rw [hs]
  exact fun q => q.1 q.2
theorem c_number0 (hs : s.len = 0) (hb : 6 ≤ b1) (hQ : Q (.inr 0, (cW s tl, b0, b1 - 6, false))) : mj_Mt gT cst gnw (m + 2) y_Reader_number [.ref 10] (cW s tl, b0 + 1, b1, op) Q := by
  intro J hJ
  refine hJ _ _ _ _ ?_
  refine c_codeAt (n := 0) (by omega) hs ?_
  rw [cAt_0 hs]
  refine And.intro (fun _ => ?_) (fun g => absurd g (by decide))
  refine And.intro (fun _ => ?_) (fun g => absurd rfl g)
  refine c_codeAt (n := 0) (by omega) hs ?_
  rw [cAt_0 hs]
  refine c_isDigit ?_
  refine And.intro (fun g => absurd rfl g) (fun _ => ?_)
  exact c_fail hb hQ
theorem c_atom0 (hs : s.len = 0) (hb : 6 ≤ b1) (hQ : Q (.inr 0, (cW s tl, b0, b1 - 6, false))) : mj_Mt gT cst gnw (m + 3) y_Reader_atom [.ref 10] (cW s tl, b0 + 1, b1, op) Q := by
  intro J hJ
  refine hJ _ _ _ _ ?_
  refine c_codeAt (n := 0) (by omega) hs ?_
  rw [cAt_0 hs]
  refine c_isLetter ?_
  refine And.intro (fun g => absurd rfl g) (fun _ => ?_)
  exact c_number0 hs hb hQ
theorem c_expression0 {d : Int32} (hs : s.len = 0) (hb : 6 ≤ b1) (hQ : Q (.inr 0, (cW s tl, b0, b1 - 6, false))) : mj_Mt gT cst gnw (m + 4) y_Reader_expression [.ref 10, .int d] (cW s tl, b0 + 1, b1, op) Q := by
  intro J hJ
  refine hJ _ _ _ _ ?_
  refine c_codeAt (n := 0) (by omega) hs ?_
  rw [cAt_0 hs]
  refine And.intro (fun _ => ?_) (fun g => absurd g (by decide))
  refine And.intro (fun g => absurd g (by decide)) (fun _ => ?_)
  exact c_atom0 hs hb hQ
theorem c_read0 (hs : s.len = 0) (hb : 6 ≤ b1) (hQ : Q (.inl (some (.int 0)), (cW ((s.s_nodes 0).s_at_ 0) tl, b0, b1 - 6, false))) : mj_Mt gT cst gnw (m + 5) y_Reader_read [.ref 10] (cW s tl, b0 + 1, b1, op) Q := by
  intro J hJ
  refine hJ _ _ _ _ ?_
  refine c_treeClear ?_
  exact c_expression0 (s := ((s.s_nodes 0).s_at_ 0)) hs hb hQ
theorem c_compile0 (hs : s.len = 0) (hb : 12 ≤ b1) (hQ : Q (.inr 0, (cW ((((s.s_nodes 0).s_at_ 0).s_err 0).s_len 0) tl, b0, b1 - 6 - 6, false))) : mj_Mt gT cst gnw (m + 6) y_P_compile [.ref 0] (cW s tl, b0 + 2, b1, op) Q := by
  intro J hJ
  refine hJ _ _ _ _ ?_
  refine c_read0 (b0 := b0 + 1) hs (by omega) ?_
  refine c_textClear (s := (((s.s_nodes 0).s_at_ 0).s_err 0)) ?_
  refine And.intro (fun _ => ?_) (fun (g : (0 : Int32) = -1) => absurd g (by decide))
  refine And.intro (fun (g : (0 : Int32) = -1) => absurd g (by decide)) (fun _ => ?_)
  exact And.intro (by omega) hQ
theorem c_position (hQ : Q (.inl (some (.int s.err)), (cW s tl, b0, b1, op))) : mj_Mt gT cst gnw (m + 1) y_P_position [.ref 0] (cW s tl, b0, b1, op) Q := by
  intro J hJ
  refine hJ _ _ _ _ ?_
  exact hQ
theorem c_storeCode0 (hs : s.codeN = 0) (hQ : Q (.inl (some (.long 0)), (cW s tl, b0, b1, op))) : mj_Mt gT cst gnw (m + 1) y_Store_code [.ref 17] (cW s tl, b0, b1, op) Q := by
  intro J hJ
  refine hJ _ _ _ _ ?_
  refine And.intro (fun _ => ?_) (fun (g : ¬ s.codeN ≤ 0) => absurd (by rw [hs]; decide) g)
  exact hQ
theorem c_begin0 (hs : s.codeN = 0) (hQ : Q (.inl (some (.int 0)), (cW s tl, b0, b1, op))) : mj_Mt gT cst gnw (m + 2) y_Machine_begin [.ref 16] (cW s tl, b0, b1, op) Q := by
  intro J hJ
  refine hJ _ _ _ _ ?_
  refine c_storeCode0 hs ?_
  refine And.intro (fun g => absurd (by decide) g) (fun _ => ?_)
  exact And.intro (Or.inl rfl) hQ
theorem c_start0 (hs : s.codeN = 0) (hQ : Q (.inl (some (.int 0)), (cW s tl, b0, b1, op))) : mj_Mt gT cst gnw (m + 3) y_P_start [.ref 0] (cW s tl, b0, b1, op) Q := by
  intro J hJ
  refine hJ _ _ _ _ ?_
  refine c_begin0 hs ?_
  exact And.intro (Or.inl rfl) hQ
theorem c_mode (hQ : Q (.inl (some (.int s.mode)), (cW s tl, b0, b1, op))) : mj_Mt gT cst gnw (m + 1) y_Machine_mode [.ref 16] (cW s tl, b0, b1, op) Q := by
  intro J hJ
  refine hJ _ _ _ _ ?_
  exact hQ
theorem c_state (hQ : Q (.inl (some (.int s.mode)), (cW s tl, b0, b1, op))) : mj_Mt gT cst gnw (m + 2) y_P_state [.ref 0] (cW s tl, b0, b1, op) Q := by
  intro J hJ
  refine hJ _ _ _ _ ?_
  exact c_mode hQ
theorem c_run0 {n : Int32} (hs : s.mode = 0) (hb : 6 ≤ b1) (h1 : n < 0 ∨ 200 < n → Q (.inr 0, (cW s tl, b0, b1 - 6, false))) (h2 : ¬ (n < 0 ∨ 200 < n) → Q (.inl (some (.int 0)), (cW s tl, b0 + 1, b1, op))) : mj_Mt gT cst gnw (m + 2) y_P_run [.ref 0, .int n] (cW s tl, b0 + 1, b1, op) Q := by
  intro J hJ
  refine hJ _ _ _ _ ?_
  refine And.intro (fun (g : n < 0) => ?_) (fun (g : ¬ n < 0) => ?_)
  · exact And.intro hb (h1 (Or.inl g))
  · refine And.intro (fun (g2 : n ≤ 200) => ?_) (fun (g2 : ¬ n ≤ 200) => ?_)
    · have h3 := h2 (fun q => q.elim g (fun q => Int32.not_lt.mpr g2 q))
      refine hJ _ _ _ _ ?_
      refine And.intro (fun _ => h3) (fun _ => ?_)
      refine c_mode ?_
      rw [hs]
      refine And.intro (fun _ => h3) (fun g => absurd g (by decide))
    · exact And.intro hb (h1 (Or.inr (Int32.not_le.mp g2)))
theorem c_next0 (hs : s.mode = 0) (hQ : Q (.inl (some (.int (-1))), (cW s tl, b0, b1, op))) : mj_Mt gT cst gnw (m + 2) y_P_next [.ref 0] (cW s tl, b0, b1, op) Q := by
  intro J hJ
  refine hJ _ _ _ _ ?_
  refine c_mode ?_
  rw [hs]
  exact And.intro (fun _ => hQ) (fun g => absurd g (by decide))
theorem c_shown0 {k : Int32} (hs : s.mode = 0) (hQ : Q (.inl (some (.int (-1))), (cW s tl, b0, b1, op))) : mj_Mt gT cst gnw (m + 2) y_P_shown [.ref 0, .int k] (cW s tl, b0, b1, op) Q := by
  intro J hJ
  refine hJ _ _ _ _ ?_
  refine c_mode ?_
  rw [hs]
  exact And.intro (fun _ => hQ) (fun g => absurd g (by decide))
theorem c_cell0 {h : mj_H} (hQ : Q (.inl (some (.int (-1))), h)) : mj_Mt gT cst gnw (m + 1) y_Value_cell [.long 0] h Q := by
  intro J hJ
  refine hJ _ _ _ _ ?_
  exact And.intro (fun _ => hQ) (fun g => absurd (by decide) g)
theorem c_isPair0 {h : mj_H} (hQ : Q (.inl (some (.int 0)), h)) : mj_Mt gT cst gnw (m + 1) y_Value_isPair [.long 0] h Q := by
  intro J hJ
  refine hJ _ _ _ _ ?_
  exact And.intro (fun _ => And.intro (Or.inl rfl) hQ) (fun g => absurd g (by decide))
theorem c_length0 (hQ : Q (.inl (some (.int 0)), (cW s tl, b0, b1, op))) : mj_Mt gT cst gnw (m + 2) y_Store_length [.ref 17, .long 0] (cW s tl, b0, b1, op) Q := by
  intro J hJ
  refine hJ _ _ _ _ ?_
  refine hJ _ _ _ _ ?_
  refine c_isPair0 ?_
  exact And.intro (fun _ => hQ) (fun g => absurd rfl g)
theorem c_reach0 (hQ : Q (.inl none, (cW s tl, b0, b1, op))) : mj_Mt gT cst gnw (m + 2) y_Store_reach [.ref 17, .long 0] (cW s tl, b0, b1, op) Q := by
  intro J hJ
  refine hJ _ _ _ _ ?_
  refine c_cell0 ?_
  exact And.intro (fun _ => hQ) (fun g => absurd (by decide) g)
theorem c_mark0 (hz : s.z ≤ 250) (hs : s.codeN = 0) (hQ : ∀ f, Q (.inl (some (.int 0)), (cW ((s.s_marked f).s_reachN 0) tl, b0, b1, op))) : mj_Mt gT cst gnw (m + 3) y_Store_mark [.ref 17, .long 0, .long 0, .long 0, .long 0] (cW s tl, b0, b1, op) Q := by
  intro J hJ
  have loop : ∀ (n k : Nat) (f : Nat → Int32), n = s.z - k → k ≤ s.z → J 2 [some (.ref 17), some (.long 0), none, some (.long 0), none, some (.long 0), none, some (.long 0), none, some (.int (nI k))] [] (cW (s.s_marked f) tl, b0, b1, op) := by
    intro n
    induction n with
    | zero =>
      intro k f hn hk
      refine hJ _ _ _ _ ?_
      refine And.intro (fun _ => ?_) (fun (g : ¬ nI s.z ≤ nI k) => absurd (nI_le (by omega) (by omega)) g)
      refine c_reach0 (s := ((s.s_marked f).s_reachN 0)) ?_
      refine c_reach0 (s := ((s.s_marked f).s_reachN 0)) ?_
      refine c_reach0 (s := ((s.s_marked f).s_reachN 0)) ?_
      refine c_reach0 (s := ((s.s_marked f).s_reachN 0)) ?_
      refine c_storeCode0 (s := ((s.s_marked f).s_reachN 0)) hs ?_
      refine c_reach0 (s := ((s.s_marked f).s_reachN 0)) ?_
      refine hJ _ _ _ _ ?_
      refine And.intro (fun _ => ?_) (fun (g : ¬ (0 : Int32) ≤ 0) => absurd (by decide) g)
      exact hQ f
    | succ n ih =>
      intro k f hn hk
      refine hJ _ _ _ _ ?_
      refine And.intro (fun (g : nI s.z ≤ nI k) => absurd g (nI_ge (by omega) (by omega))) (fun _ => ?_)
      refine And.intro (vp_in_nI (show k < s.z by omega) (show s.z < 2 ^ 31 by omega)) ?_
      have key : ∀ (f : Nat → Int32) (x : Int32), x = nI (k + 1) → J 2 [some (.ref 17), some (.long 0), none, some (.long 0), none, some (.long 0), none, some (.long 0), none, some (.int x)] [] (cW (s.s_marked f) tl, b0, b1, op) := by
        rintro f x rfl
        exact ih (k + 1) f (by omega) (by omega)
      exact key (upd f (nI k).toNatClampNeg (vp_nar .boolean (Int32.ofInt 0))) _ (nI_succ k).symm
  refine hJ _ _ _ _ ?_
  exact loop s.z 0 s.marked (by omega) (by omega)
theorem c_mark0' {a b c d : Int64} (ha : a = 0) (hb : b = 0) (hc : c = 0) (hd : d = 0) (hz : s.z ≤ 250) (hs : s.codeN = 0) (hQ : ∀ f, Q (.inl (some (.int 0)), (cW ((s.s_marked f).s_reachN 0) tl, b0, b1, op))) : mj_Mt gT cst gnw (m + 3) y_Store_mark [.ref 17, .long a, .long b, .long c, .long d] (cW s tl, b0, b1, op) Q := by
  subst ha hb hc hd
  exact c_mark0 hz hs hQ
theorem c_length0' {a : Int64} (ha : a = 0) (hQ : Q (.inl (some (.int 0)), (cW s tl, b0, b1, op))) : mj_Mt gT cst gnw (m + 2) y_Store_length [.ref 17, .long a] (cW s tl, b0, b1, op) Q := by
  subst ha
  exact c_length0 hQ
theorem c_used (hQ : Q (.inl (some (.int (nI s.z - s.freeN))), (cW s tl, b0, b1, op))) : mj_Mt gT cst gnw (m + 2) y_Machine_usedCells [.ref 16] (cW s tl, b0, b1, op) Q := by
  intro J hJ
  refine hJ _ _ _ _ ?_
  intro J2 hJ2
  refine hJ2 _ _ _ _ ?_
  exact hQ
theorem c_colls (hQ : Q (.inl (some (.int s.colls)), (cW s tl, b0, b1, op))) : mj_Mt gT cst gnw (m + 1) y_Machine_collections [.ref 16] (cW s tl, b0, b1, op) Q := by
  intro J hJ
  refine hJ _ _ _ _ ?_
  exact hQ
theorem c_taken (hQ : Q (.inl (some (.int s.taken)), (cW s tl, b0, b1, op))) : mj_Mt gT cst gnw (m + 1) y_Machine_takenBack [.ref 16] (cW s tl, b0, b1, op) Q := by
  intro J hJ
  refine hJ _ _ _ _ ?_
  exact hQ
theorem c_steps (hQ : Q (.inl (some (.int s.steps)), (cW s tl, b0, b1, op))) : mj_Mt gT cst gnw (m + 1) y_Machine_steps [.ref 16] (cW s tl, b0, b1, op) Q := by
  intro J hJ
  refine hJ _ _ _ _ ?_
  exact hQ
def cnt0 (w : Int32) : Int32 := if w = 0 ∨ w = 1 ∨ w = 2 ∨ w = 3 ∨ w = 4 ∨ w = 5 ∨ w = 6 then 0 else -1
theorem c_count0 {w : Int32} (hz : s.z ≤ 250) (hs : s.codeN = 0) (hf : s.freeN = nI s.z) (h1 : s.rS = 0) (h2 : s.rE = 0) (h3 : s.rC = 0) (h4 : s.rD = 0) (h5 : s.colls = 0) (h6 : s.taken = 0) (h7 : s.steps = 0)
    (hQ : ∀ s' : cS, Q (.inl (some (.int (cnt0 w))), (cW s' tl, b0, b1, op))) : mj_Mt gT cst gnw (m + 6) y_P_count [.ref 0, .int w] (cW s tl, b0, b1, op) Q := by
  intro J hJ
  refine hJ _ _ _ _ ?_
  have key : ∀ x : Int32, x = cnt0 w → Q (.inl (some (.int x)), (cW s tl, b0, b1, op)) := by
    rintro x rfl
    exact hQ s
  refine And.intro (fun g => ?_) (fun g0 => And.intro (fun g => ?_) (fun g1 => And.intro (fun g => ?_) (fun g2 => And.intro (fun g => ?_) (fun g3 => And.intro (fun g => ?_) (fun g4 => And.intro (fun g => ?_) (fun g5 => And.intro (fun g => ?_) (fun g6 => ?_)))))))
  · subst g
    exact c_used (key _ (by rw [hf, Int32.sub_self]; rfl))
  · subst g
    intro J1 hJ1
    refine hJ1 _ _ _ _ ?_
    exact c_mark0' h1 h2 h3 h4 hz hs (fun f => hQ _)
  · subst g
    exact c_colls (key _ (by rw [h5]; rfl))
  · subst g
    exact c_taken (key _ (by rw [h6]; rfl))
  · subst g
    exact c_steps (key _ (by rw [h7]; rfl))
  · subst g
    intro J1 hJ1
    refine hJ1 _ _ _ _ ?_
    exact c_length0' h1 (hQ _)
  · subst g
    intro J1 hJ1
    refine hJ1 _ _ _ _ ?_
    exact c_length0' h4 (hQ _)
  · refine key _ ?_
    unfold cnt0
    rw [if_neg]
    · rfl
    · rintro (g | g | g | g | g | g | g)
      · exact g0 g
      · exact g1 g
      · exact g2 g
      · exact g3 g
      · exact g4 g
      · exact g5 g
      · exact g6 g
end P1e
end
