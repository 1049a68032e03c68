section
def fT0 : u_T := fun k => match k with
  | 0 => ("PairMachine", "size", "I", true)
  | 1 => ("PairMachine", "text", "LPairMachine$Text;", true)
  | 2 => ("PairMachine", "reader", "LPairMachine$Reader;", true)
  | 3 => ("PairMachine", "code", "LPairMachine$Code;", true)
  | 4 => ("PairMachine", "coder", "LPairMachine$Coder;", true)
  | 5 => ("PairMachine", "machine", "LPairMachine$Machine;", true)
  | _ => ("PairMachine", "error", "I", false)
def fY0 : Nat → FieldType := fun k => match k with
  | 0 => .int
  | 1 => .object "PairMachine$Text"
  | 2 => .object "PairMachine$Reader"
  | 3 => .object "PairMachine$Code"
  | 4 => .object "PairMachine$Coder"
  | 5 => .object "PairMachine$Machine"
  | _ => .int
def fN0 : List Value := [.int 0, .null, .null, .null, .null, .null, .int 0]
def fT1 : u_T := fun k => match k with
  | 0 => ("PairMachine$Text", "codes", "[C", true)
  | _ => ("PairMachine$Text", "length", "I", false)
def fY1 : Nat → FieldType := fun k => match k with
  | 0 => .array .char
  | _ => .int
def fN1 : List Value := [.null, .int 0]
def fT2 : u_T := fun k => match k with
  | 0 => ("PairMachine$Tree", "kinds", "[I", true)
  | 1 => ("PairMachine$Tree", "values", "[I", true)
  | 2 => ("PairMachine$Tree", "positions", "[I", true)
  | 3 => ("PairMachine$Tree", "firstParts", "[I", true)
  | 4 => ("PairMachine$Tree", "lastParts", "[I", true)
  | 5 => ("PairMachine$Tree", "followers", "[I", true)
  | _ => ("PairMachine$Tree", "nodes", "I", false)
def fY2 : Nat → FieldType := fun k => match k with
  | 0 => .array .int
  | 1 => .array .int
  | 2 => .array .int
  | 3 => .array .int
  | 4 => .array .int
  | 5 => .array .int
  | _ => .int
def fN2 : List Value := [.null, .null, .null, .null, .null, .null, .int 0]
def fT3 : u_T := fun k => match k with
  | 0 => ("PairMachine$Reader", "text", "LPairMachine$Text;", true)
  | 1 => ("PairMachine$Reader", "tree", "LPairMachine$Tree;", true)
  | _ => ("PairMachine$Reader", "at", "I", false)
def fY3 : Nat → FieldType := fun k => match k with
  | 0 => .object "PairMachine$Text"
  | 1 => .object "PairMachine$Tree"
  | _ => .int
def fN3 : List Value := [.null, .null, .int 0]
def fT4 : u_T := fun k => match k with
  | 0 => ("PairMachine$Code", "heads", "[J", true)
  | 1 => ("PairMachine$Code", "tails", "[J", true)
  | 2 => ("PairMachine$Code", "cells", "I", false)
  | 3 => ("PairMachine$Code", "last", "I", false)
  | _ => ("PairMachine$Code", "inside", "Z", false)
def fY4 : Nat → FieldType := fun k => match k with
  | 0 => .array .long
  | 1 => .array .long
  | 2 => .int
  | 3 => .int
  | _ => .boolean
def fN4 : List Value := [.null, .null, .int 0, .int 0, .int 0]
def fT5 : u_T := fun k => match k with
  | 0 => ("PairMachine$Coder", "tree", "LPairMachine$Tree;", true)
  | 1 => ("PairMachine$Coder", "code", "LPairMachine$Code;", true)
  | 2 => ("PairMachine$Coder", "frames", "[I", true)
  | 3 => ("PairMachine$Coder", "known", "I", false)
  | _ => ("PairMachine$Coder", "firstUnknown", "I", false)
def fY5 : Nat → FieldType := fun k => match k with
  | 0 => .object "PairMachine$Tree"
  | 1 => .object "PairMachine$Code"
  | 2 => .array .int
  | 3 => .int
  | _ => .int
def fN5 : List Value := [.null, .null, .null, .int 0, .int 0]
def fT6 : u_T := fun k => match k with
  | 0 => ("PairMachine$Machine", "store", "LPairMachine$Store;", true)
  | 1 => ("PairMachine$Machine", "display", "LPairMachine$Display;", true)
  | 2 => ("PairMachine$Machine", "s", "J", false)
  | 3 => ("PairMachine$Machine", "e", "J", false)
  | 4 => ("PairMachine$Machine", "c", "J", false)
  | 5 => ("PairMachine$Machine", "d", "J", false)
  | 6 => ("PairMachine$Machine", "mode", "I", false)
  | 7 => ("PairMachine$Machine", "collections", "I", false)
  | 8 => ("PairMachine$Machine", "takenBack", "I", false)
  | _ => ("PairMachine$Machine", "steps", "I", false)
def fY6 : Nat → FieldType := fun k => match k with
  | 0 => .object "PairMachine$Store"
  | 1 => .object "PairMachine$Display"
  | 2 => .long
  | 3 => .long
  | 4 => .long
  | 5 => .long
  | 6 => .int
  | 7 => .int
  | 8 => .int
  | _ => .int
def fN6 : List Value := [.null, .null, .long 0, .long 0, .long 0, .long 0, .int 0, .int 0, .int 0, .int 0]
def fT7 : u_T := fun k => match k with
  | 0 => ("PairMachine$Store", "size", "I", true)
  | 1 => ("PairMachine$Store", "heads", "[J", true)
  | 2 => ("PairMachine$Store", "tails", "[J", true)
  | 3 => ("PairMachine$Store", "free", "[I", true)
  | 4 => ("PairMachine$Store", "marked", "[Z", true)
  | 5 => ("PairMachine$Store", "reached", "[I", true)
  | 6 => ("PairMachine$Store", "freeCells", "I", false)
  | 7 => ("PairMachine$Store", "reachedCells", "I", false)
  | _ => ("PairMachine$Store", "codeCells", "I", false)
def fY7 : Nat → FieldType := fun k => match k with
  | 0 => .int
  | 1 => .array .long
  | 2 => .array .long
  | 3 => .array .int
  | 4 => .array .boolean
  | 5 => .array .int
  | 6 => .int
  | 7 => .int
  | _ => .int
def fN7 : List Value := [.int 0, .null, .null, .null, .null, .null, .int 0, .int 0, .int 0]
def fT8 : u_T := fun k => match k with
  | 0 => ("PairMachine$Display", "store", "LPairMachine$Store;", true)
  | 1 => ("PairMachine$Display", "line", "Ljava/lang/StringBuilder;", true)
  | 2 => ("PairMachine$Display", "rests", "[J", true)
  | _ => ("PairMachine$Display", "open", "I", false)
def fY8 : Nat → FieldType := fun k => match k with
  | 0 => .object "PairMachine$Store"
  | 1 => .object "java/lang/StringBuilder"
  | 2 => .array .long
  | _ => .int
def fN8 : List Value := [.null, .null, .null, .int 0]
def fT9 : u_T := fun k => match k with
  | 0 => ("java/lang/AbstractStringBuilder", "value", "[B", false)
  | 1 => ("java/lang/AbstractStringBuilder", "coder", "B", false)
  | 2 => ("java/lang/AbstractStringBuilder", "maybeLatin1", "Z", false)
  | _ => ("java/lang/AbstractStringBuilder", "count", "I", false)
def fY9 : Nat → FieldType := fun k => match k with
  | 0 => .array .byte
  | 1 => .byte
  | 2 => .boolean
  | _ => .int
def fN9 : List Value := [.null, .int 0, .int 0, .int 0]
def fT10 : u_T := fun k => match k with
  | 0 => ("PairMachineModel", "size", "I", true)
  | 1 => ("PairMachineModel", "thrown", "I", false)
  | 2 => ("PairMachineModel", "typed", "I", false)
  | 3 => ("PairMachineModel", "text", "[C", true)
  | 4 => ("PairMachineModel", "p", "I", false)
  | 5 => ("PairMachineModel", "error", "I", false)
  | 6 => ("PairMachineModel", "parts", "I", false)
  | 7 => ("PairMachineModel", "kind", "[I", true)
  | 8 => ("PairMachineModel", "at", "[I", true)
  | 9 => ("PairMachineModel", "until", "[I", true)
  | 10 => ("PairMachineModel", "value", "[I", true)
  | 11 => ("PairMachineModel", "parent", "[I", true)
  | 12 => ("PairMachineModel", "first", "[I", true)
  | 13 => ("PairMachineModel", "last", "[I", true)
  | 14 => ("PairMachineModel", "next", "[I", true)
  | 15 => ("PairMachineModel", "many", "[I", true)
  | 16 => ("PairMachineModel", "letters", "[I", true)
  | 17 => ("PairMachineModel", "bound", "[I", true)
  | 18 => ("PairMachineModel", "depth", "I", false)
  | 19 => ("PairMachineModel", "signs", "I", false)
  | 20 => ("PairMachineModel", "signKind", "[I", true)
  | 21 => ("PairMachineModel", "signValue", "[I", true)
  | 22 => ("PairMachineModel", "cells", "I", false)
  | 23 => ("PairMachineModel", "tasks", "I", false)
  | 24 => ("PairMachineModel", "taskKind", "[I", true)
  | 25 => ("PairMachineModel", "taskValue", "[I", true)
  | 26 => ("PairMachineModel", "used", "[Z", true)
  | 27 => ("PairMachineModel", "function", "[Z", true)
  | 28 => ("PairMachineModel", "headKind", "[I", true)
  | 29 => ("PairMachineModel", "head", "[I", true)
  | 30 => ("PairMachineModel", "tailKind", "[I", true)
  | 31 => ("PairMachineModel", "tail", "[I", true)
  | 32 => ("PairMachineModel", "marked", "[Z", true)
  | 33 => ("PairMachineModel", "piled", "I", false)
  | 34 => ("PairMachineModel", "pile", "[I", true)
  | 35 => ("PairMachineModel", "reg", "[I", true)
  | 36 => ("PairMachineModel", "program", "Z", false)
  | 37 => ("PairMachineModel", "state", "I", false)
  | 38 => ("PairMachineModel", "collections", "I", false)
  | 39 => ("PairMachineModel", "takenBack", "I", false)
  | 40 => ("PairMachineModel", "steps", "I", false)
  | 41 => ("PairMachineModel", "gotKind", "I", false)
  | 42 => ("PairMachineModel", "got", "I", false)
  | 43 => ("PairMachineModel", "shown", "I", false)
  | _ => ("PairMachineModel", "show", "[C", true)
def fY10 : Nat → FieldType := fun k => match k with
  | 0 => .int
  | 1 => .int
  | 2 => .int
  | 3 => .array .char
  | 4 => .int
  | 5 => .int
  | 6 => .int
  | 7 => .array .int
  | 8 => .array .int
  | 9 => .array .int
  | 10 => .array .int
  | 11 => .array .int
  | 12 => .array .int
  | 13 => .array .int
  | 14 => .array .int
  | 15 => .array .int
  | 16 => .array .int
  | 17 => .array .int
  | 18 => .int
  | 19 => .int
  | 20 => .array .int
  | 21 => .array .int
  | 22 => .int
  | 23 => .int
  | 24 => .array .int
  | 25 => .array .int
  | 26 => .array .boolean
  | 27 => .array .boolean
  | 28 => .array .int
  | 29 => .array .int
  | 30 => .array .int
  | 31 => .array .int
  | 32 => .array .boolean
  | 33 => .int
  | 34 => .array .int
  | 35 => .array .int
  | 36 => .boolean
  | 37 => .int
  | 38 => .int
  | 39 => .int
  | 40 => .int
  | 41 => .int
  | 42 => .int
  | 43 => .int
  | _ => .array .char
def fN10 : List Value := [.int 0, .int 0, .int 0, .null, .int 0, .int 0, .int 0, .null, .null, .null, .null, .null, .null, .null, .null, .null, .null, .null, .int 0, .int 0, .null, .null, .int 0, .int 0, .null, .null, .null, .null, .null, .null, .null, .null, .null, .int 0, .null, .null, .int 0, .int 0, .int 0, .int 0, .int 0, .int 0, .int 0, .int 0, .null]
def gcl : List vw_C := [("PairMachine", fT0, 7), ("PairMachine$Text", fT1, 2), ("PairMachine$Tree", fT2, 7), ("PairMachine$Reader", fT3, 3), ("PairMachine$Code", fT4, 5), ("PairMachine$Coder", fT5, 5), ("PairMachine$Machine", fT6, 10), ("PairMachine$Store", fT7, 9), ("PairMachine$Display", fT8, 4), ("java/lang/StringBuilder", fT9, 4), ("PairMachineModel", fT10, 45)]
def gtf : Nat → Nat → FieldType := fun c => match c with
  | 0 => fY0
  | 1 => fY1
  | 2 => fY2
  | 3 => fY3
  | 4 => fY4
  | 5 => fY5
  | 6 => fY6
  | 7 => fY7
  | 8 => fY8
  | 9 => fY9
  | _ => fY10
def gnw : mj_N := fun c => match c with
  | 0 => some fN0
  | 1 => some fN1
  | 2 => some fN2
  | 3 => some fN3
  | 4 => some fN4
  | 5 => some fN5
  | 6 => some fN6
  | 7 => some fN7
  | 8 => some fN8
  | 9 => some fN9
  | 10 => some fN10
  | _ => none
def gme : List (MethodName × ByteArray × Nat × Option FieldType × List (Nat × Nat × Nat × Nat)) := [(⟨"PairMachineLaw", "law", "([I)Z"⟩, code, 7, (some .boolean), []),
  (⟨"PairMachineLaw", "cell", "([II)I"⟩, method_2_code, 2, (Option.some Jvm.ClassFile.FieldType.int), []),
  (⟨"PairMachineLaw", "compile", "(LPairMachine;[J)I"⟩, method_3_code, 3, (Option.some Jvm.ClassFile.FieldType.int), [(0, 8, 11, 13), (0, 8, 14, 15)]),
  (⟨"PairMachineLaw", "run", "(LPairMachine;I[J)I"⟩, method_4_code, 4, (Option.some Jvm.ClassFile.FieldType.int), [(0, 9, 12, 13)]),
  (⟨"PairMachine", "<init>", "(I)V"⟩, prog_1_method_1_code, 3, (Option.none : Option Jvm.ClassFile.FieldType), []),
  (⟨"PairMachine", "write", "(J)Z"⟩, prog_1_method_2_code, 3, (Option.some Jvm.ClassFile.FieldType.boolean), []),
  (⟨"PairMachine", "compile", "()I"⟩, prog_1_method_3_code, 1, (Option.some Jvm.ClassFile.FieldType.int), []),
  (⟨"PairMachine", "position", "()I"⟩, prog_1_method_4_code, 1, (Option.some Jvm.ClassFile.FieldType.int), []),
  (⟨"PairMachine", "start", "()Z"⟩, prog_1_method_5_code, 1, (Option.some Jvm.ClassFile.FieldType.boolean), []),
  (⟨"PairMachine", "run", "(I)I"⟩, prog_1_method_6_code, 3, (Option.some Jvm.ClassFile.FieldType.int), []),
  (⟨"PairMachine", "state", "()I"⟩, prog_1_method_7_code, 1, (Option.some Jvm.ClassFile.FieldType.int), []),
  (⟨"PairMachine", "count", "(I)I"⟩, prog_1_method_8_code, 2, (Option.some Jvm.ClassFile.FieldType.int), []),
  (⟨"PairMachine", "next", "()I"⟩, prog_1_method_9_code, 1, (Option.some Jvm.ClassFile.FieldType.int), []),
  (⟨"PairMachine", "shown", "(I)I"⟩, prog_1_method_10_code, 2, (Option.some Jvm.ClassFile.FieldType.int), []),
  (⟨"PairMachine$Text", "<init>", "()V"⟩, prog_9_method_1_code, 1, (Option.none : Option Jvm.ClassFile.FieldType), []),
  (⟨"PairMachine$Text", "append", "(J)Z"⟩, prog_9_method_2_code, 6, (Option.some Jvm.ClassFile.FieldType.boolean), []),
  (⟨"PairMachine$Text", "codeIn", "(JI)I"⟩, prog_9_method_3_code, 3, (Option.some Jvm.ClassFile.FieldType.int), []),
  (⟨"PairMachine$Text", "charactersIn", "(J)I"⟩, prog_9_method_4_code, 5, (Option.some Jvm.ClassFile.FieldType.int), []),
  (⟨"PairMachine$Text", "length", "()I"⟩, prog_9_method_5_code, 1, (Option.some Jvm.ClassFile.FieldType.int), []),
  (⟨"PairMachine$Text", "codeAt", "(I)I"⟩, prog_9_method_6_code, 2, (Option.some Jvm.ClassFile.FieldType.int), []),
  (⟨"PairMachine$Text", "clear", "()V"⟩, prog_9_method_7_code, 1, (Option.none : Option Jvm.ClassFile.FieldType), []),
  (⟨"PairMachine$Tree", "<init>", "()V"⟩, prog_10_method_1_code, 1, (Option.none : Option Jvm.ClassFile.FieldType), []),
  (⟨"PairMachine$Tree", "clear", "()V"⟩, prog_10_method_2_code, 1, (Option.none : Option Jvm.ClassFile.FieldType), []),
  (⟨"PairMachine$Tree", "add", "(III)I"⟩, prog_10_method_3_code, 5, (Option.some Jvm.ClassFile.FieldType.int), []),
  (⟨"PairMachine$Tree", "addPart", "(II)V"⟩, prog_10_method_4_code, 4, (Option.none : Option Jvm.ClassFile.FieldType), []),
  (⟨"PairMachine$Tree", "entry", "([II)I"⟩, prog_10_method_5_code, 3, (Option.some Jvm.ClassFile.FieldType.int), []),
  (⟨"PairMachine$Tree", "kind", "(I)I"⟩, prog_10_method_6_code, 2, (Option.some Jvm.ClassFile.FieldType.int), []),
  (⟨"PairMachine$Tree", "value", "(I)I"⟩, prog_10_method_7_code, 2, (Option.some Jvm.ClassFile.FieldType.int), []),
  (⟨"PairMachine$Tree", "positionOf", "(I)I"⟩, prog_10_method_8_code, 2, (Option.some Jvm.ClassFile.FieldType.int), []),
  (⟨"PairMachine$Tree", "firstPart", "(I)I"⟩, prog_10_method_9_code, 2, (Option.some Jvm.ClassFile.FieldType.int), []),
  (⟨"PairMachine$Tree", "follower", "(I)I"⟩, prog_10_method_10_code, 2, (Option.some Jvm.ClassFile.FieldType.int), []),
  (⟨"PairMachine$Tree", "part", "(II)I"⟩, prog_10_method_11_code, 5, (Option.some Jvm.ClassFile.FieldType.int), []),
  (⟨"PairMachine$Tree", "parts", "(I)I"⟩, prog_10_method_12_code, 4, (Option.some Jvm.ClassFile.FieldType.int), []),
  (⟨"PairMachine$Tree", "placeOf", "(II)I"⟩, prog_10_method_13_code, 5, (Option.some Jvm.ClassFile.FieldType.int), []),
  (⟨"PairMachine$Reader", "<init>", "(LPairMachine$Text;LPairMachine$Tree;)V"⟩, prog_7_method_1_code, 3, (Option.none : Option Jvm.ClassFile.FieldType), []),
  (⟨"PairMachine$Reader", "read", "()I"⟩, prog_7_method_2_code, 2, (Option.some Jvm.ClassFile.FieldType.int), [(12, 18, 21, 32)]),
  (⟨"PairMachine$Reader", "expression", "(I)I"⟩, prog_7_method_3_code, 4, (Option.some Jvm.ClassFile.FieldType.int), []),
  (⟨"PairMachine$Reader", "bracketed", "(I)I"⟩, prog_7_method_4_code, 5, (Option.some Jvm.ClassFile.FieldType.int), []),
  (⟨"PairMachine$Reader", "operation", "(II)I"⟩, prog_7_method_5_code, 5, (Option.some Jvm.ClassFile.FieldType.int), []),
  (⟨"PairMachine$Reader", "call", "(I)I"⟩, prog_7_method_6_code, 4, (Option.some Jvm.ClassFile.FieldType.int), []),
  (⟨"PairMachine$Reader", "function", "(I)I"⟩, prog_7_method_7_code, 3, (Option.some Jvm.ClassFile.FieldType.int), []),
  (⟨"PairMachine$Reader", "parameters", "(I)I"⟩, prog_7_method_8_code, 4, (Option.some Jvm.ClassFile.FieldType.int), []),
  (⟨"PairMachine$Reader", "parameter", "(I)V"⟩, prog_7_method_9_code, 3, (Option.none : Option Jvm.ClassFile.FieldType), []),
  (⟨"PairMachine$Reader", "bound", "(II)I"⟩, prog_7_method_10_code, 6, (Option.some Jvm.ClassFile.FieldType.int), []),
  (⟨"PairMachine$Reader", "binding", "(II)V"⟩, prog_7_method_11_code, 5, (Option.none : Option Jvm.ClassFile.FieldType), []),
  (⟨"PairMachine$Reader", "datum", "(I)I"⟩, prog_7_method_12_code, 4, (Option.some Jvm.ClassFile.FieldType.int), []),
  (⟨"PairMachine$Reader", "atom", "()I"⟩, prog_7_method_13_code, 3, (Option.some Jvm.ClassFile.FieldType.int), []),
  (⟨"PairMachine$Reader", "number", "()I"⟩, prog_7_method_14_code, 5, (Option.some Jvm.ClassFile.FieldType.int), []),
  (⟨"PairMachine$Reader", "letterNotAmong", "(I)I"⟩, prog_7_method_15_code, 3, (Option.some Jvm.ClassFile.FieldType.int), []),
  (⟨"PairMachine$Reader", "open", "(I)V"⟩, prog_7_method_16_code, 2, (Option.none : Option Jvm.ClassFile.FieldType), []),
  (⟨"PairMachine$Reader", "need", "(I)V"⟩, prog_7_method_17_code, 2, (Option.none : Option Jvm.ClassFile.FieldType), []),
  (⟨"PairMachine$Reader", "fail", "()V"⟩, prog_7_method_18_code, 0, (Option.none : Option Jvm.ClassFile.FieldType), []),
  (⟨"PairMachine$Reader", "isLetter", "(I)Z"⟩, prog_7_method_19_code, 1, (Option.some Jvm.ClassFile.FieldType.boolean), []),
  (⟨"PairMachine$Reader", "isDigit", "(I)Z"⟩, prog_7_method_20_code, 1, (Option.some Jvm.ClassFile.FieldType.boolean), []),
  (⟨"PairMachine$Code", "<init>", "(I)V"⟩, prog_2_method_1_code, 2, (Option.none : Option Jvm.ClassFile.FieldType), []),
  (⟨"PairMachine$Code", "clear", "()V"⟩, prog_2_method_2_code, 1, (Option.none : Option Jvm.ClassFile.FieldType), []),
  (⟨"PairMachine$Code", "append", "(J)V"⟩, prog_2_method_3_code, 4, (Option.none : Option Jvm.ClassFile.FieldType), []),
  (⟨"PairMachine$Code", "link", "(J)V"⟩, prog_2_method_4_code, 3, (Option.none : Option Jvm.ClassFile.FieldType), []),
  (⟨"PairMachine$Code", "instruction", "(I)V"⟩, prog_2_method_5_code, 2, (Option.none : Option Jvm.ClassFile.FieldType), []),
  (⟨"PairMachine$Code", "beginList", "()I"⟩, prog_2_method_6_code, 1, (Option.some Jvm.ClassFile.FieldType.int), []),
  (⟨"PairMachine$Code", "endList", "(I)V"⟩, prog_2_method_7_code, 2, (Option.none : Option Jvm.ClassFile.FieldType), []),
  (⟨"PairMachine$Code", "cells", "()I"⟩, prog_2_method_8_code, 1, (Option.some Jvm.ClassFile.FieldType.int), []),
  (⟨"PairMachine$Code", "head", "(I)J"⟩, prog_2_method_9_code, 2, (Option.some Jvm.ClassFile.FieldType.long), []),
  (⟨"PairMachine$Code", "tail", "(I)J"⟩, prog_2_method_10_code, 2, (Option.some Jvm.ClassFile.FieldType.long), []),
  (⟨"PairMachine$Coder", "<init>", "(LPairMachine$Tree;LPairMachine$Code;)V"⟩, prog_3_method_1_code, 3, (Option.none : Option Jvm.ClassFile.FieldType), []),
  (⟨"PairMachine$Coder", "layDown", "()I"⟩, prog_3_method_2_code, 1, (Option.some Jvm.ClassFile.FieldType.int), []),
  (⟨"PairMachine$Coder", "expression", "(II)V"⟩, prog_3_method_3_code, 3, (Option.none : Option Jvm.ClassFile.FieldType), []),
  (⟨"PairMachine$Coder", "constant", "(II)V"⟩, prog_3_method_4_code, 3, (Option.none : Option Jvm.ClassFile.FieldType), []),
  (⟨"PairMachine$Coder", "datum", "(II)V"⟩, prog_3_method_5_code, 7, (Option.none : Option Jvm.ClassFile.FieldType), []),
  (⟨"PairMachine$Coder", "variable", "(I)V"⟩, prog_3_method_6_code, 3, (Option.none : Option Jvm.ClassFile.FieldType), []),
  (⟨"PairMachine$Coder", "noteUnknown", "(I)V"⟩, prog_3_method_7_code, 2, (Option.none : Option Jvm.ClassFile.FieldType), []),
  (⟨"PairMachine$Coder", "placeOf", "(I)I"⟩, prog_3_method_8_code, 4, (Option.some Jvm.ClassFile.FieldType.int), []),
  (⟨"PairMachine$Coder", "enter", "(I)V"⟩, prog_3_method_9_code, 2, (Option.none : Option Jvm.ClassFile.FieldType), []),
  (⟨"PairMachine$Coder", "leave", "()V"⟩, prog_3_method_10_code, 1, (Option.none : Option Jvm.ClassFile.FieldType), []),
  (⟨"PairMachine$Coder", "operation", "(II)V"⟩, prog_3_method_11_code, 7, (Option.none : Option Jvm.ClassFile.FieldType), []),
  (⟨"PairMachine$Coder", "choice", "(II)V"⟩, prog_3_method_12_code, 3, (Option.none : Option Jvm.ClassFile.FieldType), []),
  (⟨"PairMachine$Coder", "list", "(III)V"⟩, prog_3_method_13_code, 5, (Option.none : Option Jvm.ClassFile.FieldType), []),
  (⟨"PairMachine$Coder", "function", "(II)V"⟩, prog_3_method_14_code, 3, (Option.none : Option Jvm.ClassFile.FieldType), []),
  (⟨"PairMachine$Coder", "body", "(III)V"⟩, prog_3_method_15_code, 4, (Option.none : Option Jvm.ClassFile.FieldType), []),
  (⟨"PairMachine$Coder", "call", "(II)V"⟩, prog_3_method_16_code, 4, (Option.none : Option Jvm.ClassFile.FieldType), []),
  (⟨"PairMachine$Coder", "bound", "(II)V"⟩, prog_3_method_17_code, 3, (Option.none : Option Jvm.ClassFile.FieldType), []),
  (⟨"PairMachine$Coder", "boundInFrame", "(II)V"⟩, prog_3_method_18_code, 3, (Option.none : Option Jvm.ClassFile.FieldType), []),
  (⟨"PairMachine$Coder", "boundArguments", "(II)V"⟩, prog_3_method_19_code, 4, (Option.none : Option Jvm.ClassFile.FieldType), []),
  (⟨"PairMachine$Coder", "beginArguments", "()V"⟩, prog_3_method_20_code, 1, (Option.none : Option Jvm.ClassFile.FieldType), []),
  (⟨"PairMachine$Coder", "argument", "(II)V"⟩, prog_3_method_21_code, 3, (Option.none : Option Jvm.ClassFile.FieldType), []),
  (⟨"PairMachine$Machine", "<init>", "(I)V"⟩, prog_5_method_1_code, 2, (Option.none : Option Jvm.ClassFile.FieldType), []),
  (⟨"PairMachine$Machine", "load", "(LPairMachine$Code;)V"⟩, prog_5_method_2_code, 2, (Option.none : Option Jvm.ClassFile.FieldType), []),
  (⟨"PairMachine$Machine", "begin", "()Z"⟩, prog_5_method_3_code, 1, (Option.some Jvm.ClassFile.FieldType.boolean), []),
  (⟨"PairMachine$Machine", "setRegisters", "(J)V"⟩, prog_5_method_4_code, 3, (Option.none : Option Jvm.ClassFile.FieldType), []),
  (⟨"PairMachine$Machine", "step", "()V"⟩, prog_5_method_5_code, 3, (Option.none : Option Jvm.ClassFile.FieldType), []),
  (⟨"PairMachine$Machine", "collect", "()V"⟩, prog_5_method_6_code, 1, (Option.none : Option Jvm.ClassFile.FieldType), []),
  (⟨"PairMachine$Machine", "act", "(I)Z"⟩, prog_5_method_7_code, 2, (Option.some Jvm.ClassFile.FieldType.boolean), []),
  (⟨"PairMachine$Machine", "constant", "()Z"⟩, prog_5_method_8_code, 3, (Option.some Jvm.ClassFile.FieldType.boolean), []),
  (⟨"PairMachine$Machine", "variable", "()Z"⟩, prog_5_method_9_code, 8, (Option.some Jvm.ClassFile.FieldType.boolean), []),
  (⟨"PairMachine$Machine", "function", "()Z"⟩, prog_5_method_10_code, 3, (Option.some Jvm.ClassFile.FieldType.boolean), []),
  (⟨"PairMachine$Machine", "apply", "()Z"⟩, prog_5_method_11_code, 5, (Option.some Jvm.ClassFile.FieldType.boolean), []),
  (⟨"PairMachine$Machine", "applyInFrame", "()Z"⟩, prog_5_method_12_code, 5, (Option.some Jvm.ClassFile.FieldType.boolean), []),
  (⟨"PairMachine$Machine", "save", "(J)V"⟩, prog_5_method_13_code, 5, (Option.none : Option Jvm.ClassFile.FieldType), []),
  (⟨"PairMachine$Machine", "giveBack", "()Z"⟩, prog_5_method_14_code, 7, (Option.some Jvm.ClassFile.FieldType.boolean), []),
  (⟨"PairMachine$Machine", "frame", "()Z"⟩, prog_5_method_15_code, 1, (Option.some Jvm.ClassFile.FieldType.boolean), []),
  (⟨"PairMachine$Machine", "choose", "()Z"⟩, prog_5_method_16_code, 7, (Option.some Jvm.ClassFile.FieldType.boolean), []),
  (⟨"PairMachine$Machine", "rejoin", "()Z"⟩, prog_5_method_17_code, 1, (Option.some Jvm.ClassFile.FieldType.boolean), []),
  (⟨"PairMachine$Machine", "partOfPair", "(I)Z"⟩, prog_5_method_18_code, 4, (Option.some Jvm.ClassFile.FieldType.boolean), []),
  (⟨"PairMachine$Machine", "isNoPair", "()Z"⟩, prog_5_method_19_code, 1, (Option.some Jvm.ClassFile.FieldType.boolean), []),
  (⟨"PairMachine$Machine", "pair", "()Z"⟩, prog_5_method_20_code, 5, (Option.some Jvm.ClassFile.FieldType.boolean), []),
  (⟨"PairMachine$Machine", "same", "()Z"⟩, prog_5_method_21_code, 6, (Option.some Jvm.ClassFile.FieldType.boolean), []),
  (⟨"PairMachine$Machine", "calculate", "(I)Z"⟩, prog_5_method_22_code, 6, (Option.some Jvm.ClassFile.FieldType.boolean), []),
  (⟨"PairMachine$Machine", "calculated", "(III)I"⟩, prog_5_method_23_code, 3, (Option.some Jvm.ClassFile.FieldType.int), []),
  (⟨"PairMachine$Machine", "replace", "(IJ)V"⟩, prog_5_method_24_code, 4, (Option.none : Option Jvm.ClassFile.FieldType), []),
  (⟨"PairMachine$Machine", "stop", "()Z"⟩, prog_5_method_25_code, 1, (Option.some Jvm.ClassFile.FieldType.boolean), []),
  (⟨"PairMachine$Machine", "instruction", "()I"⟩, prog_5_method_26_code, 1, (Option.some Jvm.ClassFile.FieldType.int), []),
  (⟨"PairMachine$Machine", "mode", "()I"⟩, prog_5_method_27_code, 1, (Option.some Jvm.ClassFile.FieldType.int), []),
  (⟨"PairMachine$Machine", "usedCells", "()I"⟩, prog_5_method_28_code, 1, (Option.some Jvm.ClassFile.FieldType.int), []),
  (⟨"PairMachine$Machine", "reachableCells", "()I"⟩, prog_5_method_29_code, 1, (Option.some Jvm.ClassFile.FieldType.int), []),
  (⟨"PairMachine$Machine", "collections", "()I"⟩, prog_5_method_30_code, 1, (Option.some Jvm.ClassFile.FieldType.int), []),
  (⟨"PairMachine$Machine", "takenBack", "()I"⟩, prog_5_method_31_code, 1, (Option.some Jvm.ClassFile.FieldType.int), []),
  (⟨"PairMachine$Machine", "steps", "()I"⟩, prog_5_method_32_code, 1, (Option.some Jvm.ClassFile.FieldType.int), []),
  (⟨"PairMachine$Machine", "stackLength", "()I"⟩, prog_5_method_33_code, 1, (Option.some Jvm.ClassFile.FieldType.int), []),
  (⟨"PairMachine$Machine", "dumpLength", "()I"⟩, prog_5_method_34_code, 1, (Option.some Jvm.ClassFile.FieldType.int), []),
  (⟨"PairMachine$Machine", "shownCode", "(I)I"⟩, prog_5_method_35_code, 2, (Option.some Jvm.ClassFile.FieldType.int), []),
  (⟨"PairMachine$Store", "<init>", "(I)V"⟩, prog_8_method_1_code, 3, (Option.none : Option Jvm.ClassFile.FieldType), []),
  (⟨"PairMachine$Store", "load", "(LPairMachine$Code;)V"⟩, prog_8_method_2_code, 3, (Option.none : Option Jvm.ClassFile.FieldType), []),
  (⟨"PairMachine$Store", "freeAllButCode", "()V"⟩, prog_8_method_3_code, 2, (Option.none : Option Jvm.ClassFile.FieldType), []),
  (⟨"PairMachine$Store", "code", "()J"⟩, prog_8_method_4_code, 1, (Option.some Jvm.ClassFile.FieldType.long), []),
  (⟨"PairMachine$Store", "freeCells", "()I"⟩, prog_8_method_5_code, 1, (Option.some Jvm.ClassFile.FieldType.int), []),
  (⟨"PairMachine$Store", "usedCells", "()I"⟩, prog_8_method_6_code, 1, (Option.some Jvm.ClassFile.FieldType.int), []),
  (⟨"PairMachine$Store", "newPair", "(JJ)J"⟩, prog_8_method_7_code, 5, (Option.some Jvm.ClassFile.FieldType.long), []),
  (⟨"PairMachine$Store", "newFunction", "(JJ)J"⟩, prog_8_method_8_code, 5, (Option.some Jvm.ClassFile.FieldType.long), []),
  (⟨"PairMachine$Store", "newCell", "(JJ)I"⟩, prog_8_method_9_code, 6, (Option.some Jvm.ClassFile.FieldType.int), []),
  (⟨"PairMachine$Store", "head", "(J)J"⟩, prog_8_method_10_code, 4, (Option.some Jvm.ClassFile.FieldType.long), []),
  (⟨"PairMachine$Store", "tail", "(J)J"⟩, prog_8_method_11_code, 4, (Option.some Jvm.ClassFile.FieldType.long), []),
  (⟨"PairMachine$Store", "setHead", "(JJ)V"⟩, prog_8_method_12_code, 6, (Option.none : Option Jvm.ClassFile.FieldType), []),
  (⟨"PairMachine$Store", "behind", "(JI)J"⟩, prog_8_method_13_code, 7, (Option.some Jvm.ClassFile.FieldType.long), []),
  (⟨"PairMachine$Store", "length", "(J)I"⟩, prog_8_method_14_code, 6, (Option.some Jvm.ClassFile.FieldType.int), []),
  (⟨"PairMachine$Store", "mark", "(JJJJ)I"⟩, prog_8_method_15_code, 10, (Option.some Jvm.ClassFile.FieldType.int), []),
  (⟨"PairMachine$Store", "reach", "(J)V"⟩, prog_8_method_16_code, 4, (Option.none : Option Jvm.ClassFile.FieldType), []),
  (⟨"PairMachine$Store", "freeUnmarked", "()I"⟩, prog_8_method_17_code, 3, (Option.some Jvm.ClassFile.FieldType.int), []),
  (⟨"PairMachine$Display", "<init>", "(LPairMachine$Store;)V"⟩, prog_4_method_1_code, 2, (Option.none : Option Jvm.ClassFile.FieldType), []),
  (⟨"PairMachine$Display", "show", "(J)V"⟩, prog_4_method_2_code, 6, (Option.none : Option Jvm.ClassFile.FieldType), []),
  (⟨"PairMachine$Display", "endLists", "()V"⟩, prog_4_method_3_code, 1, (Option.none : Option Jvm.ClassFile.FieldType), []),
  (⟨"PairMachine$Display", "showAtom", "(J)V"⟩, prog_4_method_4_code, 3, (Option.none : Option Jvm.ClassFile.FieldType), []),
  (⟨"PairMachine$Display", "codeAt", "(I)I"⟩, prog_4_method_5_code, 2, (Option.some Jvm.ClassFile.FieldType.int), []),
  (⟨"PairMachine$Op", "needs", "(I)I"⟩, prog_6_method_2_code, 1, (Option.some Jvm.ClassFile.FieldType.int), []),
  (⟨"PairMachine$Op", "of", "(I)I"⟩, prog_6_method_3_code, 2, (Option.some Jvm.ClassFile.FieldType.int), []),
  (⟨"PairMachine$Op", "operands", "(I)I"⟩, prog_6_method_4_code, 1, (Option.some Jvm.ClassFile.FieldType.int), []),
  (⟨"PairMachine$Value", "number", "(I)J"⟩, prog_11_method_2_code, 1, (Option.some Jvm.ClassFile.FieldType.long), []),
  (⟨"PairMachine$Value", "symbol", "(I)J"⟩, prog_11_method_3_code, 1, (Option.some Jvm.ClassFile.FieldType.long), []),
  (⟨"PairMachine$Value", "pair", "(I)J"⟩, prog_11_method_4_code, 1, (Option.some Jvm.ClassFile.FieldType.long), []),
  (⟨"PairMachine$Value", "function", "(I)J"⟩, prog_11_method_5_code, 1, (Option.some Jvm.ClassFile.FieldType.long), []),
  (⟨"PairMachine$Value", "isNumber", "(J)Z"⟩, prog_11_method_6_code, 2, (Option.some Jvm.ClassFile.FieldType.boolean), []),
  (⟨"PairMachine$Value", "isPair", "(J)Z"⟩, prog_11_method_7_code, 2, (Option.some Jvm.ClassFile.FieldType.boolean), []),
  (⟨"PairMachine$Value", "isFunction", "(J)Z"⟩, prog_11_method_8_code, 2, (Option.some Jvm.ClassFile.FieldType.boolean), []),
  (⟨"PairMachine$Value", "isSymbol", "(J)Z"⟩, prog_11_method_9_code, 2, (Option.some Jvm.ClassFile.FieldType.boolean), []),
  (⟨"PairMachine$Value", "cell", "(J)I"⟩, prog_11_method_10_code, 2, (Option.some Jvm.ClassFile.FieldType.int), []),
  (⟨"PairMachine$Value", "content", "(J)I"⟩, prog_11_method_11_code, 2, (Option.some Jvm.ClassFile.FieldType.int), []),
  (⟨"PairMachineModel", "<init>", "(I)V"⟩, prog_13_method_1_code, 2, (Option.none : Option Jvm.ClassFile.FieldType), []),
  (⟨"PairMachineModel", "write", "(J)Z"⟩, prog_13_method_3_code, 6, (Option.some Jvm.ClassFile.FieldType.boolean), []),
  (⟨"PairMachineModel", "here", "(I)C"⟩, prog_13_method_4_code, 2, (Option.some Jvm.ClassFile.FieldType.char), []),
  (⟨"PairMachineModel", "takes", "(C)Z"⟩, prog_13_method_5_code, 3, (Option.some Jvm.ClassFile.FieldType.boolean), []),
  (⟨"PairMachineModel", "isDigit", "(C)Z"⟩, prog_13_method_6_code, 1, (Option.some Jvm.ClassFile.FieldType.boolean), []),
  (⟨"PairMachineModel", "isLetter", "(C)Z"⟩, prog_13_method_7_code, 1, (Option.some Jvm.ClassFile.FieldType.boolean), []),
  (⟨"PairMachineModel", "opens", "()Z"⟩, prog_13_method_8_code, 1, (Option.some Jvm.ClassFile.FieldType.boolean), []),
  (⟨"PairMachineModel", "closes", "()Z"⟩, prog_13_method_9_code, 2, (Option.some Jvm.ClassFile.FieldType.boolean), []),
  (⟨"PairMachineModel", "part", "(II)I"⟩, prog_13_method_10_code, 4, (Option.some Jvm.ClassFile.FieldType.int), []),
  (⟨"PairMachineModel", "number", "()Z"⟩, prog_13_method_11_code, 3, (Option.some Jvm.ClassFile.FieldType.boolean), []),
  (⟨"PairMachineModel", "numberAt", "(I)I"⟩, prog_13_method_12_code, 6, (Option.some Jvm.ClassFile.FieldType.int), []),
  (⟨"PairMachineModel", "datum", "()Z"⟩, prog_13_method_13_code, 4, (Option.some Jvm.ClassFile.FieldType.boolean), []),
  (⟨"PairMachineModel", "parameters", "(I)Z"⟩, prog_13_method_14_code, 4, (Option.some Jvm.ClassFile.FieldType.boolean), []),
  (⟨"PairMachineModel", "arity", "(C)I"⟩, prog_13_method_15_code, 1, (Option.some Jvm.ClassFile.FieldType.int), []),
  (⟨"PairMachineModel", "begin", "(I)I"⟩, prog_13_method_16_code, 5, (Option.some Jvm.ClassFile.FieldType.int), []),
  (⟨"PairMachineModel", "binding", "(I)Z"⟩, prog_13_method_17_code, 5, (Option.some Jvm.ClassFile.FieldType.boolean), []),
  (⟨"PairMachineModel", "goOn", "(I)I"⟩, prog_13_method_18_code, 2, (Option.some Jvm.ClassFile.FieldType.int), []),
  (⟨"PairMachineModel", "read", "()Z"⟩, prog_13_method_19_code, 6, (Option.some Jvm.ClassFile.FieldType.boolean), []),
  (⟨"PairMachineModel", "placeIn", "(II)I"⟩, prog_13_method_20_code, 5, (Option.some Jvm.ClassFile.FieldType.int), []),
  (⟨"PairMachineModel", "resolved", "(I)I"⟩, prog_13_method_21_code, 7, (Option.some Jvm.ClassFile.FieldType.int), []),
  (⟨"PairMachineModel", "firstUnknown", "()I"⟩, prog_13_method_22_code, 2, (Option.some Jvm.ClassFile.FieldType.int), []),
  (⟨"PairMachineModel", "sign", "(II)V"⟩, prog_13_method_23_code, 3, (Option.none : Option Jvm.ClassFile.FieldType), []),
  (⟨"PairMachineModel", "later", "(II)V"⟩, prog_13_method_24_code, 3, (Option.none : Option Jvm.ClassFile.FieldType), []),
  (⟨"PairMachineModel", "writeDatum", "(I)V"⟩, prog_13_method_25_code, 4, (Option.none : Option Jvm.ClassFile.FieldType), []),
  (⟨"PairMachineModel", "codeOf", "(I)I"⟩, prog_13_method_26_code, 1, (Option.some Jvm.ClassFile.FieldType.int), []),
  (⟨"PairMachineModel", "laterCode", "(II)V"⟩, prog_13_method_27_code, 3, (Option.none : Option Jvm.ClassFile.FieldType), []),
  (⟨"PairMachineModel", "laterRow", "(I)V"⟩, prog_13_method_28_code, 3, (Option.none : Option Jvm.ClassFile.FieldType), []),
  (⟨"PairMachineModel", "writePart", "(I)V"⟩, prog_13_method_29_code, 3, (Option.none : Option Jvm.ClassFile.FieldType), []),
  (⟨"PairMachineModel", "writeSign", "(II)V"⟩, prog_13_method_30_code, 4, (Option.none : Option Jvm.ClassFile.FieldType), []),
  (⟨"PairMachineModel", "writeCode", "()V"⟩, prog_13_method_31_code, 1, (Option.none : Option Jvm.ClassFile.FieldType), []),
  (⟨"PairMachineModel", "free", "()I"⟩, prog_13_method_32_code, 3, (Option.some Jvm.ClassFile.FieldType.int), []),
  (⟨"PairMachineModel", "make", "(III)I"⟩, prog_13_method_33_code, 5, (Option.some Jvm.ClassFile.FieldType.int), []),
  (⟨"PairMachineModel", "makeOf", "(II)I"⟩, prog_13_method_34_code, 3, (Option.some Jvm.ClassFile.FieldType.int), []),
  (⟨"PairMachineModel", "lay", "()I"⟩, prog_13_method_35_code, 3, (Option.some Jvm.ClassFile.FieldType.int), []),
  (⟨"PairMachineModel", "mark", "(II)V"⟩, prog_13_method_36_code, 3, (Option.none : Option Jvm.ClassFile.FieldType), []),
  (⟨"PairMachineModel", "reach", "()I"⟩, prog_13_method_37_code, 3, (Option.some Jvm.ClassFile.FieldType.int), []),
  (⟨"PairMachineModel", "sweep", "()I"⟩, prog_13_method_38_code, 4, (Option.some Jvm.ClassFile.FieldType.int), []),
  (⟨"PairMachineModel", "compile", "()I"⟩, prog_13_method_39_code, 3, (Option.some Jvm.ClassFile.FieldType.int), []),
  (⟨"PairMachineModel", "position", "()I"⟩, prog_13_method_40_code, 1, (Option.some Jvm.ClassFile.FieldType.int), []),
  (⟨"PairMachineModel", "start", "()Z"⟩, prog_13_method_41_code, 2, (Option.some Jvm.ClassFile.FieldType.boolean), []),
  (⟨"PairMachineModel", "needs", "(I)I"⟩, prog_13_method_42_code, 1, (Option.some Jvm.ClassFile.FieldType.int), []),
  (⟨"PairMachineModel", "rest", "(I)I"⟩, prog_13_method_43_code, 2, (Option.some Jvm.ClassFile.FieldType.int), []),
  (⟨"PairMachineModel", "headList", "(I)I"⟩, prog_13_method_44_code, 2, (Option.some Jvm.ClassFile.FieldType.int), []),
  (⟨"PairMachineModel", "peek", "(I)V"⟩, prog_13_method_45_code, 4, (Option.none : Option Jvm.ClassFile.FieldType), []),
  (⟨"PairMachineModel", "drop", "()V"⟩, prog_13_method_46_code, 1, (Option.none : Option Jvm.ClassFile.FieldType), []),
  (⟨"PairMachineModel", "push", "(II)V"⟩, prog_13_method_47_code, 3, (Option.none : Option Jvm.ClassFile.FieldType), []),
  (⟨"PairMachineModel", "isFunction", "()Z"⟩, prog_13_method_48_code, 1, (Option.some Jvm.ClassFile.FieldType.boolean), []),
  (⟨"PairMachineModel", "isPair", "()Z"⟩, prog_13_method_49_code, 1, (Option.some Jvm.ClassFile.FieldType.boolean), []),
  (⟨"PairMachineModel", "stop", "(I)V"⟩, prog_13_method_50_code, 2, (Option.none : Option Jvm.ClassFile.FieldType), []),
  (⟨"PairMachineModel", "step", "()V"⟩, prog_13_method_51_code, 5, (Option.none : Option Jvm.ClassFile.FieldType), []),
  (⟨"PairMachineModel", "look", "(II)V"⟩, prog_13_method_52_code, 6, (Option.none : Option Jvm.ClassFile.FieldType), []),
  (⟨"PairMachineModel", "call", "(ZI)V"⟩, prog_13_method_53_code, 7, (Option.none : Option Jvm.ClassFile.FieldType), []),
  (⟨"PairMachineModel", "comeBack", "()V"⟩, prog_13_method_54_code, 2, (Option.none : Option Jvm.ClassFile.FieldType), []),
  (⟨"PairMachineModel", "choose", "(I)V"⟩, prog_13_method_55_code, 3, (Option.none : Option Jvm.ClassFile.FieldType), []),
  (⟨"PairMachineModel", "ofOne", "(II)V"⟩, prog_13_method_56_code, 5, (Option.none : Option Jvm.ClassFile.FieldType), []),
  (⟨"PairMachineModel", "ofTwo", "(II)V"⟩, prog_13_method_57_code, 8, (Option.none : Option Jvm.ClassFile.FieldType), []),
  (⟨"PairMachineModel", "run", "(I)I"⟩, prog_13_method_58_code, 3, (Option.some Jvm.ClassFile.FieldType.int), []),
  (⟨"PairMachineModel", "say", "(I)V"⟩, prog_13_method_59_code, 2, (Option.none : Option Jvm.ClassFile.FieldType), []),
  (⟨"PairMachineModel", "sayNumber", "(I)V"⟩, prog_13_method_60_code, 6, (Option.none : Option Jvm.ClassFile.FieldType), []),
  (⟨"PairMachineModel", "sayHead", "(II)V"⟩, prog_13_method_61_code, 3, (Option.none : Option Jvm.ClassFile.FieldType), []),
  (⟨"PairMachineModel", "showAll", "()V"⟩, prog_13_method_62_code, 3, (Option.none : Option Jvm.ClassFile.FieldType), []),
  (⟨"PairMachineModel", "state", "()I"⟩, prog_13_method_63_code, 1, (Option.some Jvm.ClassFile.FieldType.int), []),
  (⟨"PairMachineModel", "lengthOf", "(I)I"⟩, prog_13_method_64_code, 4, (Option.some Jvm.ClassFile.FieldType.int), []),
  (⟨"PairMachineModel", "count", "(I)I"⟩, prog_13_method_65_code, 2, (Option.some Jvm.ClassFile.FieldType.int), []),
  (⟨"PairMachineModel", "next", "()I"⟩, prog_13_method_66_code, 1, (Option.some Jvm.ClassFile.FieldType.int), []),
  (⟨"PairMachineModel", "shown", "(I)I"⟩, prog_13_method_67_code, 2, (Option.some Jvm.ClassFile.FieldType.int), []),
  (⟨"java/lang/StringBuilder", "<init>", "()V"⟩, prog_24_method_1_code, 1, (Option.none : Option Jvm.ClassFile.FieldType), []),
  (⟨"java/lang/AbstractStringBuilder", "<init>", "(I)V"⟩, prog_14_method_2_code, 2, (Option.none : Option Jvm.ClassFile.FieldType), []),
  (⟨"java/lang/StringBuilder", "length", "()I"⟩, prog_24_method_93_code, 1, (Option.some Jvm.ClassFile.FieldType.int), []),
  (⟨"java/lang/AbstractStringBuilder", "length", "()I"⟩, prog_14_method_6_code, 1, (Option.some Jvm.ClassFile.FieldType.int), []),
  (⟨"java/lang/StringBuilder", "charAt", "(I)C"⟩, prog_24_method_88_code, 2, (Option.some Jvm.ClassFile.FieldType.char), []),
  (⟨"java/lang/AbstractStringBuilder", "charAt", "(I)C"⟩, prog_14_method_14_code, 5, (Option.some Jvm.ClassFile.FieldType.char), []),
  (⟨"java/lang/String", "checkIndex", "(II)V"⟩, prog_23_method_155_code, 2, (Option.none : Option Jvm.ClassFile.FieldType), []),
  (⟨"jdk/internal/util/Preconditions", "checkIndex", "(IILjava/util/function/BiFunction;)I"⟩, prog_31_method_11_code, 3, (Option.some Jvm.ClassFile.FieldType.int), []),
  (⟨"java/lang/String", "indexOf", "(I)I"⟩, prog_23_method_79_code, 2, (Option.some Jvm.ClassFile.FieldType.int), []),
  (⟨"java/lang/String", "indexOf", "(II)I"⟩, prog_23_method_80_code, 3, (Option.some Jvm.ClassFile.FieldType.int), []),
  (⟨"java/lang/String", "isLatin1", "()Z"⟩, prog_23_method_154_code, 1, (Option.some Jvm.ClassFile.FieldType.boolean), []),
  (⟨"java/lang/String", "length", "()I"⟩, prog_23_method_54_code, 1, (Option.some Jvm.ClassFile.FieldType.int), []),
  (⟨"java/lang/String", "coder", "()B"⟩, prog_23_method_152_code, 1, (Option.some Jvm.ClassFile.FieldType.byte), []),
  (⟨"java/lang/StringLatin1", "indexOf", "([BIII)I"⟩, prog_25_method_22_code, 4, (Option.some Jvm.ClassFile.FieldType.int), []),
  (⟨"java/lang/StringLatin1", "canEncode", "(I)Z"⟩, prog_25_method_4_code, 1, (Option.some Jvm.ClassFile.FieldType.boolean), []),
  (⟨"java/lang/StringLatin1", "indexOfChar", "([BIII)I"⟩, prog_25_method_23_code, 6, (Option.some Jvm.ClassFile.FieldType.int), []),
  (⟨"java/lang/StringBuilder", "setLength", "(I)V"⟩, prog_24_method_89_code, 2, (Option.none : Option Jvm.ClassFile.FieldType), []),
  (⟨"java/lang/AbstractStringBuilder", "setLength", "(I)V"⟩, prog_14_method_13_code, 2, (Option.none : Option Jvm.ClassFile.FieldType), []),
  (⟨"java/lang/AbstractStringBuilder", "ensureCapacityInternal", "(I)V"⟩, prog_14_method_9_code, 3, (Option.none : Option Jvm.ClassFile.FieldType), []),
  (⟨"java/lang/AbstractStringBuilder", "newCapacity", "(I)I"⟩, prog_14_method_10_code, 6, (Option.some Jvm.ClassFile.FieldType.int), []),
  (⟨"jdk/internal/util/ArraysSupport", "newLength", "(III)I"⟩, prog_30_method_27_code, 4, (Option.some Jvm.ClassFile.FieldType.int), []),
  (⟨"java/util/Arrays", "copyOf", "([BI)[B"⟩, prog_29_method_121_code, 3, (Option.some (Jvm.ClassFile.FieldType.array Jvm.ClassFile.FieldType.byte)), []),
  (⟨"java/lang/AbstractStringBuilder", "isLatin1", "()Z"⟩, prog_14_method_68_code, 1, (Option.some Jvm.ClassFile.FieldType.boolean), []),
  (⟨"java/lang/StringBuilder", "append", "(C)Ljava/lang/StringBuilder;"⟩, prog_24_method_14_code, 2, (Option.some (Jvm.ClassFile.FieldType.object "java/lang/StringBuilder")), []),
  (⟨"java/lang/AbstractStringBuilder", "append", "(C)Ljava/lang/AbstractStringBuilder;"⟩, prog_14_method_31_code, 2, (Option.some (Jvm.ClassFile.FieldType.object "java/lang/AbstractStringBuilder")), []),
  (⟨"java/lang/StringLatin1", "canEncode", "(C)Z"⟩, prog_25_method_3_code, 1, (Option.some Jvm.ClassFile.FieldType.boolean), []),
  (⟨"java/lang/StringBuilder", "append", "(I)Ljava/lang/StringBuilder;"⟩, prog_24_method_15_code, 2, (Option.some (Jvm.ClassFile.FieldType.object "java/lang/StringBuilder")), []),
  (⟨"java/lang/AbstractStringBuilder", "append", "(I)Ljava/lang/AbstractStringBuilder;"⟩, prog_14_method_32_code, 4, (Option.some (Jvm.ClassFile.FieldType.object "java/lang/AbstractStringBuilder")), []),
  (⟨"java/lang/Integer", "stringSize", "(I)I"⟩, prog_20_method_13_code, 4, (Option.some Jvm.ClassFile.FieldType.int), []),
  (⟨"java/lang/Integer", "getChars", "(II[B)I"⟩, prog_20_method_12_code, 7, (Option.some Jvm.ClassFile.FieldType.int), []),
  (⟨"java/lang/StringBuilder", "append", "(Ljava/lang/String;)Ljava/lang/StringBuilder;"⟩, prog_24_method_7_code, 2, (Option.some (Jvm.ClassFile.FieldType.object "java/lang/StringBuilder")), []),
  (⟨"java/lang/AbstractStringBuilder", "append", "(Ljava/lang/String;)Ljava/lang/AbstractStringBuilder;"⟩, prog_14_method_22_code, 3, (Option.some (Jvm.ClassFile.FieldType.object "java/lang/AbstractStringBuilder")), []),
  (⟨"java/lang/AbstractStringBuilder", "putStringAt", "(ILjava/lang/String;)V"⟩, prog_14_method_73_code, 3, (Option.none : Option Jvm.ClassFile.FieldType), []),
  (⟨"java/lang/AbstractStringBuilder", "inflateIfNeededFor", "(Ljava/lang/String;)V"⟩, prog_14_method_71_code, 2, (Option.none : Option Jvm.ClassFile.FieldType), []),
  (⟨"java/lang/String", "getBytes", "([BIB)V"⟩, prog_23_method_147_code, 4, (Option.none : Option Jvm.ClassFile.FieldType), [])]
def gmt (y : Nat) : MethodName × ByteArray × Nat × Option FieldType × List (Nat × Nat × Nat × Nat) := (mj_nth gme y).getD (⟨"", "", ""⟩, ⟨#[]⟩, 0, none, [])
def gxn : Nat → String := fun k => match k with
  | 0 => "java/lang/IllegalArgumentException"
  | _ => "java/lang/IllegalStateException"
def gnc : mj_K := ([("java/lang/IllegalArgumentException", "java/lang/IllegalStateException"), ("java/lang/IllegalStateException", "java/lang/IllegalArgumentException")], [("java/lang/IllegalArgumentException", "java/lang/IllegalArgumentException"), ("java/lang/IllegalStateException", "java/lang/IllegalStateException")], [("java/lang/Throwable", "UNASSIGNED_STACK", "[Ljava/lang/StackTraceElement;"), ("java/lang/Throwable", "SUPPRESSED_SENTINEL", "Ljava/util/List;")], [("PairMachine", 85, "the text is no program, or a variable is not known", 0), ("PairMachine", 95, "the code has more cells than the store", 0), ("PairMachine", 106, "the number of steps is not 0 .. 200", 0), ("PairMachine$Reader", 125, "no program goes on like this", 0), ("PairMachine$Display", 64, " . ", 2010), ("PairMachine$Display", 85, "()", 2011), ("PairMachine$Op", 15, "^_!.=+-*<", 2012)], [("java/lang/String", "COMPACT_STRINGS", "Z", .int 1), ("PairMachine$Op", "NEEDS", "[I", .ref 1000), ("java/lang/Integer", "DigitOnes", "[B", .ref 1101), ("java/lang/Integer", "DigitTens", "[B", .ref 1102), ("jdk/internal/util/Preconditions", "SIOOBE_FORMATTER", "Ljava/util/function/BiFunction;", .retAddr 0)])
def gG : mj_G := (gTS, gcl, gtf, fun y => (gmt y).1, fun y => (gmt y).2.1, fun y => (gmt y).2.2.1, fun y => (gmt y).2.2.2.1, fun y => (gmt y).2.2.2.2, gxn, fun _ => ["java/lang/RuntimeException", "java/lang/Exception"], gnc, gnw)
theorem fw_0 : ∀ w ∈ u_ws "PairMachine" fT0 7, w ∈ gTS := by
  intro w hw
  obtain ⟨i, hi⟩ := List.mem_iff_getElem?.mp hw
  match i, hi with
  | 0, hi => cases hi; exact tw_1199
  | 1, hi => cases hi; exact tw_1200
  | 2, hi => cases hi; exact tw_1201
  | 3, hi => cases hi; exact tw_1202
  | 4, hi => cases hi; exact tw_1203
  | 5, hi => cases hi; exact tw_1204
  | 6, hi => cases hi; exact tw_1205
  | i + 7, hi => simp [u_ws] at hi
theorem okc_0 : mj_okC gG 0 "PairMachine" fT0 7 := ⟨rfl, fw_0, by decide +kernel, by decide +kernel⟩
theorem fw_1 : ∀ w ∈ u_ws "PairMachine$Text" fT1 2, w ∈ gTS := by
  intro w hw
  obtain ⟨i, hi⟩ := List.mem_iff_getElem?.mp hw
  match i, hi with
  | 0, hi => cases hi; exact tw_1206
  | 1, hi => cases hi; exact tw_1207
  | i + 2, hi => simp [u_ws] at hi
theorem okc_1 : mj_okC gG 1 "PairMachine$Text" fT1 2 := ⟨rfl, fw_1, by decide +kernel, by decide +kernel⟩
theorem fw_2 : ∀ w ∈ u_ws "PairMachine$Tree" fT2 7, w ∈ gTS := by
  intro w hw
  obtain ⟨i, hi⟩ := List.mem_iff_getElem?.mp hw
  match i, hi with
  | 0, hi => cases hi; exact tw_1208
  | 1, hi => cases hi; exact tw_1209
  | 2, hi => cases hi; exact tw_1210
  | 3, hi => cases hi; exact tw_1211
  | 4, hi => cases hi; exact tw_1212
  | 5, hi => cases hi; exact tw_1213
  | 6, hi => cases hi; exact tw_1214
  | i + 7, hi => simp [u_ws] at hi
theorem okc_2 : mj_okC gG 2 "PairMachine$Tree" fT2 7 := ⟨rfl, fw_2, by decide +kernel, by decide +kernel⟩
theorem fw_3 : ∀ w ∈ u_ws "PairMachine$Reader" fT3 3, w ∈ gTS := by
  intro w hw
  obtain ⟨i, hi⟩ := List.mem_iff_getElem?.mp hw
  match i, hi with
  | 0, hi => cases hi; exact tw_1215
  | 1, hi => cases hi; exact tw_1216
  | 2, hi => cases hi; exact tw_1217
  | i + 3, hi => simp [u_ws] at hi
theorem okc_3 : mj_okC gG 3 "PairMachine$Reader" fT3 3 := ⟨rfl, fw_3, by decide +kernel, by decide +kernel⟩
theorem fw_4 : ∀ w ∈ u_ws "PairMachine$Code" fT4 5, w ∈ gTS := by
  intro w hw
  obtain ⟨i, hi⟩ := List.mem_iff_getElem?.mp hw
  match i, hi with
  | 0, hi => cases hi; exact tw_1218
  | 1, hi => cases hi; exact tw_1219
  | 2, hi => cases hi; exact tw_1220
  | 3, hi => cases hi; exact tw_1221
  | 4, hi => cases hi; exact tw_1222
  | i + 5, hi => simp [u_ws] at hi
theorem okc_4 : mj_okC gG 4 "PairMachine$Code" fT4 5 := ⟨rfl, fw_4, by decide +kernel, by decide +kernel⟩
theorem fw_5 : ∀ w ∈ u_ws "PairMachine$Coder" fT5 5, w ∈ gTS := by
  intro w hw
  obtain ⟨i, hi⟩ := List.mem_iff_getElem?.mp hw
  match i, hi with
  | 0, hi => cases hi; exact tw_1223
  | 1, hi => cases hi; exact tw_1224
  | 2, hi => cases hi; exact tw_1225
  | 3, hi => cases hi; exact tw_1226
  | 4, hi => cases hi; exact tw_1227
  | i + 5, hi => simp [u_ws] at hi
theorem okc_5 : mj_okC gG 5 "PairMachine$Coder" fT5 5 := ⟨rfl, fw_5, by decide +kernel, by decide +kernel⟩
theorem fw_6 : ∀ w ∈ u_ws "PairMachine$Machine" fT6 10, w ∈ gTS := by
  intro w hw
  obtain ⟨i, hi⟩ := List.mem_iff_getElem?.mp hw
  match i, hi with
  | 0, hi => cases hi; exact tw_1228
  | 1, hi => cases hi; exact tw_1229
  | 2, hi => cases hi; exact tw_1230
  | 3, hi => cases hi; exact tw_1231
  | 4, hi => cases hi; exact tw_1232
  | 5, hi => cases hi; exact tw_1233
  | 6, hi => cases hi; exact tw_1234
  | 7, hi => cases hi; exact tw_1235
  | 8, hi => cases hi; exact tw_1236
  | 9, hi => cases hi; exact tw_1237
  | i + 10, hi => simp [u_ws] at hi
theorem okc_6 : mj_okC gG 6 "PairMachine$Machine" fT6 10 := ⟨rfl, fw_6, by decide +kernel, by decide +kernel⟩
theorem fw_7 : ∀ w ∈ u_ws "PairMachine$Store" fT7 9, w ∈ gTS := by
  intro w hw
  obtain ⟨i, hi⟩ := List.mem_iff_getElem?.mp hw
  match i, hi with
  | 0, hi => cases hi; exact tw_1238
  | 1, hi => cases hi; exact tw_1239
  | 2, hi => cases hi; exact tw_1240
  | 3, hi => cases hi; exact tw_1241
  | 4, hi => cases hi; exact tw_1242
  | 5, hi => cases hi; exact tw_1243
  | 6, hi => cases hi; exact tw_1244
  | 7, hi => cases hi; exact tw_1245
  | 8, hi => cases hi; exact tw_1246
  | i + 9, hi => simp [u_ws] at hi
theorem okc_7 : mj_okC gG 7 "PairMachine$Store" fT7 9 := ⟨rfl, fw_7, by decide +kernel, by decide +kernel⟩
theorem fw_8 : ∀ w ∈ u_ws "PairMachine$Display" fT8 4, w ∈ gTS := by
  intro w hw
  obtain ⟨i, hi⟩ := List.mem_iff_getElem?.mp hw
  match i, hi with
  | 0, hi => cases hi; exact tw_1247
  | 1, hi => cases hi; exact tw_1248
  | 2, hi => cases hi; exact tw_1249
  | 3, hi => cases hi; exact tw_1250
  | i + 4, hi => simp [u_ws] at hi
theorem okc_8 : mj_okC gG 8 "PairMachine$Display" fT8 4 := ⟨rfl, fw_8, by decide +kernel, by decide +kernel⟩
theorem fw_9 : ∀ w ∈ u_ws "java/lang/StringBuilder" fT9 4, w ∈ gTS := by
  intro w hw
  obtain ⟨i, hi⟩ := List.mem_iff_getElem?.mp hw
  match i, hi with
  | 0, hi => cases hi; exact tw_1251
  | 1, hi => cases hi; exact tw_1252
  | 2, hi => cases hi; exact tw_1253
  | 3, hi => cases hi; exact tw_1254
  | i + 4, hi => simp [u_ws] at hi
theorem okc_9 : mj_okC gG 9 "java/lang/StringBuilder" fT9 4 := ⟨rfl, fw_9, by decide +kernel, by decide +kernel⟩
theorem fw_10 : ∀ w ∈ u_ws "PairMachineModel" fT10 45, w ∈ gTS := by
  intro w hw
  obtain ⟨i, hi⟩ := List.mem_iff_getElem?.mp hw
  match i, hi with
  | 0, hi => cases hi; exact tw_1255
  | 1, hi => cases hi; exact tw_1256
  | 2, hi => cases hi; exact tw_1257
  | 3, hi => cases hi; exact tw_1258
  | 4, hi => cases hi; exact tw_1259
  | 5, hi => cases hi; exact tw_1260
  | 6, hi => cases hi; exact tw_1261
  | 7, hi => cases hi; exact tw_1262
  | 8, hi => cases hi; exact tw_1263
  | 9, hi => cases hi; exact tw_1264
  | 10, hi => cases hi; exact tw_1265
  | 11, hi => cases hi; exact tw_1266
  | 12, hi => cases hi; exact tw_1267
  | 13, hi => cases hi; exact tw_1268
  | 14, hi => cases hi; exact tw_1269
  | 15, hi => cases hi; exact tw_1270
  | 16, hi => cases hi; exact tw_1271
  | 17, hi => cases hi; exact tw_1272
  | 18, hi => cases hi; exact tw_1273
  | 19, hi => cases hi; exact tw_1274
  | 20, hi => cases hi; exact tw_1275
  | 21, hi => cases hi; exact tw_1276
  | 22, hi => cases hi; exact tw_1277
  | 23, hi => cases hi; exact tw_1278
  | 24, hi => cases hi; exact tw_1279
  | 25, hi => cases hi; exact tw_1280
  | 26, hi => cases hi; exact tw_1281
  | 27, hi => cases hi; exact tw_1282
  | 28, hi => cases hi; exact tw_1283
  | 29, hi => cases hi; exact tw_1284
  | 30, hi => cases hi; exact tw_1285
  | 31, hi => cases hi; exact tw_1286
  | 32, hi => cases hi; exact tw_1287
  | 33, hi => cases hi; exact tw_1288
  | 34, hi => cases hi; exact tw_1289
  | 35, hi => cases hi; exact tw_1290
  | 36, hi => cases hi; exact tw_1291
  | 37, hi => cases hi; exact tw_1292
  | 38, hi => cases hi; exact tw_1293
  | 39, hi => cases hi; exact tw_1294
  | 40, hi => cases hi; exact tw_1295
  | 41, hi => cases hi; exact tw_1296
  | 42, hi => cases hi; exact tw_1297
  | 43, hi => cases hi; exact tw_1298
  | 44, hi => cases hi; exact tw_1299
  | i + 45, hi => simp [u_ws] at hi
theorem okc_10 : mj_okC gG 10 "PairMachineModel" fT10 45 := ⟨rfl, fw_10, by decide +kernel, by decide +kernel⟩
end
section
def law_nd : List Int32 := [0, 1, 1, 2, 4, 1, 1, 3, 1, 0, 1, 1, 1, 2, 1, 1, 1, 1, 1, 0]
def law_d1 : List Int32 := [48, 49, 50, 51, 52, 53, 54, 55, 56, 57, 48, 49, 50, 51, 52, 53, 54, 55, 56, 57, 48, 49, 50, 51, 52, 53, 54, 55, 56, 57, 48, 49, 50, 51, 52, 53, 54, 55, 56, 57, 48, 49, 50, 51, 52, 53, 54, 55, 56, 57, 48, 49, 50, 51, 52, 53, 54, 55, 56, 57, 48, 49, 50, 51, 52, 53, 54, 55, 56, 57, 48, 49, 50, 51, 52, 53, 54, 55, 56, 57, 48, 49, 50, 51, 52, 53, 54, 55, 56, 57, 48, 49, 50, 51, 52, 53, 54, 55, 56, 57]
def law_d2 : List Int32 := [48, 48, 48, 48, 48, 48, 48, 48, 48, 48, 49, 49, 49, 49, 49, 49, 49, 49, 49, 49, 50, 50, 50, 50, 50, 50, 50, 50, 50, 50, 51, 51, 51, 51, 51, 51, 51, 51, 51, 51, 52, 52, 52, 52, 52, 52, 52, 52, 52, 52, 53, 53, 53, 53, 53, 53, 53, 53, 53, 53, 54, 54, 54, 54, 54, 54, 54, 54, 54, 54, 55, 55, 55, 55, 55, 55, 55, 55, 55, 55, 56, 56, 56, 56, 56, 56, 56, 56, 56, 56, 57, 57, 57, 57, 57, 57, 57, 57, 57, 57]
def law_s2010 : List Int32 := [32, 46, 32]
def law_s2011 : List Int32 := [40, 41]
def law_s2012 : List Int32 := [94, 95, 33, 46, 61, 43, 45, 42, 60]
def law_cst (xs : List Int32) : Nat → Option (Nat × (Nat → Int32)) := fun a => match a with
  | 1000 => some (20, fun j => law_nd.getD j 0)
  | 1001 => some (xs.length, fun j => xs.getD j 0)
  | 1101 => some (100, fun j => law_d1.getD j 0)
  | 1102 => some (100, fun j => law_d2.getD j 0)
  | 1110 => some (3, fun j => law_s2010.getD j 0)
  | 2010 => some (0, fun _ => 0)
  | 1111 => some (2, fun j => law_s2011.getD j 0)
  | 2011 => some (0, fun _ => 0)
  | 1112 => some (9, fun j => law_s2012.getD j 0)
  | 2012 => some (0, fun _ => 0)
  | _ => none
end
