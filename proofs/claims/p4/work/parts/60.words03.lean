section
def wl_20 : List Cond := [.fieldLink "PairMachineModel" 243 "PairMachineModel" "collections" "I", .fieldLink "PairMachineModel" 246 "PairMachineModel" "takenBack" "I", .fieldLink "PairMachineModel" 249 "PairMachineModel" "steps" "I", .fieldLink "PairMachineModel" 258 "PairMachineModel" "gotKind" "I", .fieldLink "PairMachineModel" 261 "PairMachineModel" "got" "I", .fieldLink "PairMachineModel" 316 "PairMachineModel" "shown" "I", .fieldLink "java/lang/String" 9 "java/lang/String" "value" "[B", .fieldLink "java/lang/String" 15 "java/lang/String" "coder" "B", .code ⟨"java/lang/AbstractStringBuilder", "append", "(C)Ljava/lang/AbstractStringBuilder;"⟩ prog_14_method_31_code 2 (Option.some (Jvm.ClassFile.FieldType.object "java/lang/AbstractStringBuilder")), .methodLink "java/lang/StringBuilder" 50 ⟨"java/lang/AbstractStringBuilder", "append", "(C)Ljava/lang/AbstractStringBuilder;"⟩, .instanceMethod ⟨"java/lang/AbstractStringBuilder", "append", "(C)Ljava/lang/AbstractStringBuilder;"⟩, .code ⟨"java/lang/StringLatin1", "canEncode", "(C)Z"⟩ prog_25_method_3_code 1 (Option.some Jvm.ClassFile.FieldType.boolean), .methodLink "java/lang/AbstractStringBuilder" 191 ⟨"java/lang/StringLatin1", "canEncode", "(C)Z"⟩, .static ⟨"java/lang/StringLatin1", "canEncode", "(C)Z"⟩, .laysFinal "PairMachineModel" "PairMachineModel" "size" "I", .lays "PairMachineModel" "PairMachineModel" "thrown" "I", .lays "PairMachineModel" "PairMachineModel" "typed" "I", .laysFinal "PairMachineModel" "PairMachineModel" "text" "[C", .lays "PairMachineModel" "PairMachineModel" "p" "I", .lays "PairMachineModel" "PairMachineModel" "error" "I", .lays "PairMachineModel" "PairMachineModel" "parts" "I", .laysFinal "PairMachineModel" "PairMachineModel" "kind" "[I", .laysFinal "PairMachineModel" "PairMachineModel" "at" "[I", .laysFinal "PairMachineModel" "PairMachineModel" "until" "[I", .laysFinal "PairMachineModel" "PairMachineModel" "value" "[I"]
theorem wl_20_ok : wl_20 = [134, 135, 136, 137, 138, 139, 36, 37, 58, 56, 57, 61, 59, 60, 141, 143, 145, 147, 149, 151, 153, 155, 157, 159, 161].filterMap (fun i => tables_1_6[i]?) ∧ wl_20.all mj_gw = true := by decide +kernel
theorem wl_20_in : ∀ w ∈ wl_20, w ∈ gTS := fun w hw => by
  have h1 := hw
  rw [wl_20_ok.1] at h1
  obtain ⟨i, -, hi⟩ := List.mem_filterMap.mp h1
  exact List.mem_filter.mpr ⟨lw_in (tin_tables_1_6 w (List.mem_of_getElem? hi)), List.all_eq_true.mp wl_20_ok.2 w hw⟩
theorem tw_969 : Jvm.Cond.fieldLink "PairMachineModel" 243 "PairMachineModel" "collections" "I" ∈ gTS := wl_20_in _ (List.mem_of_getElem? (i := 0) rfl)
theorem tw_970 : Jvm.Cond.fieldLink "PairMachineModel" 246 "PairMachineModel" "takenBack" "I" ∈ gTS := wl_20_in _ (List.mem_of_getElem? (i := 1) rfl)
theorem tw_971 : Jvm.Cond.fieldLink "PairMachineModel" 249 "PairMachineModel" "steps" "I" ∈ gTS := wl_20_in _ (List.mem_of_getElem? (i := 2) rfl)
theorem tw_980 : Jvm.Cond.fieldLink "PairMachineModel" 258 "PairMachineModel" "gotKind" "I" ∈ gTS := wl_20_in _ (List.mem_of_getElem? (i := 3) rfl)
theorem tw_981 : Jvm.Cond.fieldLink "PairMachineModel" 261 "PairMachineModel" "got" "I" ∈ gTS := wl_20_in _ (List.mem_of_getElem? (i := 4) rfl)
theorem tw_1049 : Jvm.Cond.fieldLink "PairMachineModel" 316 "PairMachineModel" "shown" "I" ∈ gTS := wl_20_in _ (List.mem_of_getElem? (i := 5) rfl)
theorem tw_1104 : Jvm.Cond.fieldLink "java/lang/String" 9 "java/lang/String" "value" "[B" ∈ gTS := wl_20_in _ (List.mem_of_getElem? (i := 6) rfl)
theorem tw_1114 : Jvm.Cond.fieldLink "java/lang/String" 15 "java/lang/String" "coder" "B" ∈ gTS := wl_20_in _ (List.mem_of_getElem? (i := 7) rfl)
theorem tw_1160 : Jvm.Cond.code ⟨"java/lang/AbstractStringBuilder", "append", "(C)Ljava/lang/AbstractStringBuilder;"⟩ prog_14_method_31_code 2 (Option.some (Jvm.ClassFile.FieldType.object "java/lang/AbstractStringBuilder")) ∈ gTS := wl_20_in _ (List.mem_of_getElem? (i := 8) rfl)
theorem tw_1161 : Jvm.Cond.methodLink "java/lang/StringBuilder" 50 ⟨"java/lang/AbstractStringBuilder", "append", "(C)Ljava/lang/AbstractStringBuilder;"⟩ ∈ gTS := wl_20_in _ (List.mem_of_getElem? (i := 9) rfl)
theorem tw_1162 : Jvm.Cond.instanceMethod ⟨"java/lang/AbstractStringBuilder", "append", "(C)Ljava/lang/AbstractStringBuilder;"⟩ ∈ gTS := wl_20_in _ (List.mem_of_getElem? (i := 10) rfl)
theorem tw_1164 : Jvm.Cond.code ⟨"java/lang/StringLatin1", "canEncode", "(C)Z"⟩ prog_25_method_3_code 1 (Option.some Jvm.ClassFile.FieldType.boolean) ∈ gTS := wl_20_in _ (List.mem_of_getElem? (i := 11) rfl)
theorem tw_1165 : Jvm.Cond.methodLink "java/lang/AbstractStringBuilder" 191 ⟨"java/lang/StringLatin1", "canEncode", "(C)Z"⟩ ∈ gTS := wl_20_in _ (List.mem_of_getElem? (i := 12) rfl)
theorem tw_1166 : Jvm.Cond.static ⟨"java/lang/StringLatin1", "canEncode", "(C)Z"⟩ ∈ gTS := wl_20_in _ (List.mem_of_getElem? (i := 13) rfl)
theorem tw_1255 : Jvm.Cond.laysFinal "PairMachineModel" "PairMachineModel" "size" "I" ∈ gTS := wl_20_in _ (List.mem_of_getElem? (i := 14) rfl)
theorem tw_1256 : Jvm.Cond.lays "PairMachineModel" "PairMachineModel" "thrown" "I" ∈ gTS := wl_20_in _ (List.mem_of_getElem? (i := 15) rfl)
theorem tw_1257 : Jvm.Cond.lays "PairMachineModel" "PairMachineModel" "typed" "I" ∈ gTS := wl_20_in _ (List.mem_of_getElem? (i := 16) rfl)
theorem tw_1258 : Jvm.Cond.laysFinal "PairMachineModel" "PairMachineModel" "text" "[C" ∈ gTS := wl_20_in _ (List.mem_of_getElem? (i := 17) rfl)
theorem tw_1259 : Jvm.Cond.lays "PairMachineModel" "PairMachineModel" "p" "I" ∈ gTS := wl_20_in _ (List.mem_of_getElem? (i := 18) rfl)
theorem tw_1260 : Jvm.Cond.lays "PairMachineModel" "PairMachineModel" "error" "I" ∈ gTS := wl_20_in _ (List.mem_of_getElem? (i := 19) rfl)
theorem tw_1261 : Jvm.Cond.lays "PairMachineModel" "PairMachineModel" "parts" "I" ∈ gTS := wl_20_in _ (List.mem_of_getElem? (i := 20) rfl)
theorem tw_1262 : Jvm.Cond.laysFinal "PairMachineModel" "PairMachineModel" "kind" "[I" ∈ gTS := wl_20_in _ (List.mem_of_getElem? (i := 21) rfl)
theorem tw_1263 : Jvm.Cond.laysFinal "PairMachineModel" "PairMachineModel" "at" "[I" ∈ gTS := wl_20_in _ (List.mem_of_getElem? (i := 22) rfl)
theorem tw_1264 : Jvm.Cond.laysFinal "PairMachineModel" "PairMachineModel" "until" "[I" ∈ gTS := wl_20_in _ (List.mem_of_getElem? (i := 23) rfl)
theorem tw_1265 : Jvm.Cond.laysFinal "PairMachineModel" "PairMachineModel" "value" "[I" ∈ gTS := wl_20_in _ (List.mem_of_getElem? (i := 24) rfl)
def wl_21 : List Cond := [.laysFinal "PairMachineModel" "PairMachineModel" "parent" "[I", .laysFinal "PairMachineModel" "PairMachineModel" "first" "[I", .laysFinal "PairMachineModel" "PairMachineModel" "last" "[I", .laysFinal "PairMachineModel" "PairMachineModel" "next" "[I", .laysFinal "PairMachineModel" "PairMachineModel" "many" "[I", .laysFinal "PairMachineModel" "PairMachineModel" "letters" "[I", .laysFinal "PairMachineModel" "PairMachineModel" "bound" "[I", .lays "PairMachineModel" "PairMachineModel" "depth" "I", .lays "PairMachineModel" "PairMachineModel" "signs" "I", .laysFinal "PairMachineModel" "PairMachineModel" "signKind" "[I", .laysFinal "PairMachineModel" "PairMachineModel" "signValue" "[I", .lays "PairMachineModel" "PairMachineModel" "cells" "I", .lays "PairMachineModel" "PairMachineModel" "tasks" "I", .laysFinal "PairMachineModel" "PairMachineModel" "taskKind" "[I", .laysFinal "PairMachineModel" "PairMachineModel" "taskValue" "[I", .laysFinal "PairMachineModel" "PairMachineModel" "used" "[Z", .laysFinal "PairMachineModel" "PairMachineModel" "function" "[Z", .laysFinal "PairMachineModel" "PairMachineModel" "headKind" "[I", .laysFinal "PairMachineModel" "PairMachineModel" "head" "[I", .laysFinal "PairMachineModel" "PairMachineModel" "tailKind" "[I", .laysFinal "PairMachineModel" "PairMachineModel" "tail" "[I", .laysFinal "PairMachineModel" "PairMachineModel" "marked" "[Z", .lays "PairMachineModel" "PairMachineModel" "piled" "I", .laysFinal "PairMachineModel" "PairMachineModel" "pile" "[I", .laysFinal "PairMachineModel" "PairMachineModel" "reg" "[I"]
theorem wl_21_ok : wl_21 = [163, 165, 167, 169, 171, 173, 175, 177, 179, 181, 183, 185, 187, 189, 191, 193, 195, 197, 199, 201, 203, 205, 207, 209, 211].filterMap (fun i => tables_1_6[i]?) ∧ wl_21.all mj_gw = true := by decide +kernel
theorem wl_21_in : ∀ w ∈ wl_21, w ∈ gTS := fun w hw => by
  have h1 := hw
  rw [wl_21_ok.1] at h1
  obtain ⟨i, -, hi⟩ := List.mem_filterMap.mp h1
  exact List.mem_filter.mpr ⟨lw_in (tin_tables_1_6 w (List.mem_of_getElem? hi)), List.all_eq_true.mp wl_21_ok.2 w hw⟩
theorem tw_1266 : Jvm.Cond.laysFinal "PairMachineModel" "PairMachineModel" "parent" "[I" ∈ gTS := wl_21_in _ (List.mem_of_getElem? (i := 0) rfl)
theorem tw_1267 : Jvm.Cond.laysFinal "PairMachineModel" "PairMachineModel" "first" "[I" ∈ gTS := wl_21_in _ (List.mem_of_getElem? (i := 1) rfl)
theorem tw_1268 : Jvm.Cond.laysFinal "PairMachineModel" "PairMachineModel" "last" "[I" ∈ gTS := wl_21_in _ (List.mem_of_getElem? (i := 2) rfl)
theorem tw_1269 : Jvm.Cond.laysFinal "PairMachineModel" "PairMachineModel" "next" "[I" ∈ gTS := wl_21_in _ (List.mem_of_getElem? (i := 3) rfl)
theorem tw_1270 : Jvm.Cond.laysFinal "PairMachineModel" "PairMachineModel" "many" "[I" ∈ gTS := wl_21_in _ (List.mem_of_getElem? (i := 4) rfl)
theorem tw_1271 : Jvm.Cond.laysFinal "PairMachineModel" "PairMachineModel" "letters" "[I" ∈ gTS := wl_21_in _ (List.mem_of_getElem? (i := 5) rfl)
theorem tw_1272 : Jvm.Cond.laysFinal "PairMachineModel" "PairMachineModel" "bound" "[I" ∈ gTS := wl_21_in _ (List.mem_of_getElem? (i := 6) rfl)
theorem tw_1273 : Jvm.Cond.lays "PairMachineModel" "PairMachineModel" "depth" "I" ∈ gTS := wl_21_in _ (List.mem_of_getElem? (i := 7) rfl)
theorem tw_1274 : Jvm.Cond.lays "PairMachineModel" "PairMachineModel" "signs" "I" ∈ gTS := wl_21_in _ (List.mem_of_getElem? (i := 8) rfl)
theorem tw_1275 : Jvm.Cond.laysFinal "PairMachineModel" "PairMachineModel" "signKind" "[I" ∈ gTS := wl_21_in _ (List.mem_of_getElem? (i := 9) rfl)
theorem tw_1276 : Jvm.Cond.laysFinal "PairMachineModel" "PairMachineModel" "signValue" "[I" ∈ gTS := wl_21_in _ (List.mem_of_getElem? (i := 10) rfl)
theorem tw_1277 : Jvm.Cond.lays "PairMachineModel" "PairMachineModel" "cells" "I" ∈ gTS := wl_21_in _ (List.mem_of_getElem? (i := 11) rfl)
theorem tw_1278 : Jvm.Cond.lays "PairMachineModel" "PairMachineModel" "tasks" "I" ∈ gTS := wl_21_in _ (List.mem_of_getElem? (i := 12) rfl)
theorem tw_1279 : Jvm.Cond.laysFinal "PairMachineModel" "PairMachineModel" "taskKind" "[I" ∈ gTS := wl_21_in _ (List.mem_of_getElem? (i := 13) rfl)
theorem tw_1280 : Jvm.Cond.laysFinal "PairMachineModel" "PairMachineModel" "taskValue" "[I" ∈ gTS := wl_21_in _ (List.mem_of_getElem? (i := 14) rfl)
theorem tw_1281 : Jvm.Cond.laysFinal "PairMachineModel" "PairMachineModel" "used" "[Z" ∈ gTS := wl_21_in _ (List.mem_of_getElem? (i := 15) rfl)
theorem tw_1282 : Jvm.Cond.laysFinal "PairMachineModel" "PairMachineModel" "function" "[Z" ∈ gTS := wl_21_in _ (List.mem_of_getElem? (i := 16) rfl)
theorem tw_1283 : Jvm.Cond.laysFinal "PairMachineModel" "PairMachineModel" "headKind" "[I" ∈ gTS := wl_21_in _ (List.mem_of_getElem? (i := 17) rfl)
theorem tw_1284 : Jvm.Cond.laysFinal "PairMachineModel" "PairMachineModel" "head" "[I" ∈ gTS := wl_21_in _ (List.mem_of_getElem? (i := 18) rfl)
theorem tw_1285 : Jvm.Cond.laysFinal "PairMachineModel" "PairMachineModel" "tailKind" "[I" ∈ gTS := wl_21_in _ (List.mem_of_getElem? (i := 19) rfl)
theorem tw_1286 : Jvm.Cond.laysFinal "PairMachineModel" "PairMachineModel" "tail" "[I" ∈ gTS := wl_21_in _ (List.mem_of_getElem? (i := 20) rfl)
theorem tw_1287 : Jvm.Cond.laysFinal "PairMachineModel" "PairMachineModel" "marked" "[Z" ∈ gTS := wl_21_in _ (List.mem_of_getElem? (i := 21) rfl)
theorem tw_1288 : Jvm.Cond.lays "PairMachineModel" "PairMachineModel" "piled" "I" ∈ gTS := wl_21_in _ (List.mem_of_getElem? (i := 22) rfl)
theorem tw_1289 : Jvm.Cond.laysFinal "PairMachineModel" "PairMachineModel" "pile" "[I" ∈ gTS := wl_21_in _ (List.mem_of_getElem? (i := 23) rfl)
theorem tw_1290 : Jvm.Cond.laysFinal "PairMachineModel" "PairMachineModel" "reg" "[I" ∈ gTS := wl_21_in _ (List.mem_of_getElem? (i := 24) rfl)
def wl_22 : List Cond := [.lays "PairMachineModel" "PairMachineModel" "program" "Z", .lays "PairMachineModel" "PairMachineModel" "state" "I", .lays "PairMachineModel" "PairMachineModel" "collections" "I", .lays "PairMachineModel" "PairMachineModel" "takenBack" "I", .lays "PairMachineModel" "PairMachineModel" "steps" "I", .lays "PairMachineModel" "PairMachineModel" "gotKind" "I", .lays "PairMachineModel" "PairMachineModel" "got" "I", .lays "PairMachineModel" "PairMachineModel" "shown" "I", .laysFinal "PairMachineModel" "PairMachineModel" "show" "[C"]
theorem wl_22_ok : wl_22 = [213, 215, 217, 219, 221, 223, 225, 227, 229].filterMap (fun i => tables_1_6[i]?) ∧ wl_22.all mj_gw = true := by decide +kernel
theorem wl_22_in : ∀ w ∈ wl_22, w ∈ gTS := fun w hw => by
  have h1 := hw
  rw [wl_22_ok.1] at h1
  obtain ⟨i, -, hi⟩ := List.mem_filterMap.mp h1
  exact List.mem_filter.mpr ⟨lw_in (tin_tables_1_6 w (List.mem_of_getElem? hi)), List.all_eq_true.mp wl_22_ok.2 w hw⟩
theorem tw_1291 : Jvm.Cond.lays "PairMachineModel" "PairMachineModel" "program" "Z" ∈ gTS := wl_22_in _ (List.mem_of_getElem? (i := 0) rfl)
theorem tw_1292 : Jvm.Cond.lays "PairMachineModel" "PairMachineModel" "state" "I" ∈ gTS := wl_22_in _ (List.mem_of_getElem? (i := 1) rfl)
theorem tw_1293 : Jvm.Cond.lays "PairMachineModel" "PairMachineModel" "collections" "I" ∈ gTS := wl_22_in _ (List.mem_of_getElem? (i := 2) rfl)
theorem tw_1294 : Jvm.Cond.lays "PairMachineModel" "PairMachineModel" "takenBack" "I" ∈ gTS := wl_22_in _ (List.mem_of_getElem? (i := 3) rfl)
theorem tw_1295 : Jvm.Cond.lays "PairMachineModel" "PairMachineModel" "steps" "I" ∈ gTS := wl_22_in _ (List.mem_of_getElem? (i := 4) rfl)
theorem tw_1296 : Jvm.Cond.lays "PairMachineModel" "PairMachineModel" "gotKind" "I" ∈ gTS := wl_22_in _ (List.mem_of_getElem? (i := 5) rfl)
theorem tw_1297 : Jvm.Cond.lays "PairMachineModel" "PairMachineModel" "got" "I" ∈ gTS := wl_22_in _ (List.mem_of_getElem? (i := 6) rfl)
theorem tw_1298 : Jvm.Cond.lays "PairMachineModel" "PairMachineModel" "shown" "I" ∈ gTS := wl_22_in _ (List.mem_of_getElem? (i := 7) rfl)
theorem tw_1299 : Jvm.Cond.laysFinal "PairMachineModel" "PairMachineModel" "show" "[C" ∈ gTS := wl_22_in _ (List.mem_of_getElem? (i := 8) rfl)
def wl_23 : List Cond := [.constantLong "PairMachineLaw" 33 (4294967295), .code ⟨"PairMachineModel", "next", "()I"⟩ prog_13_method_66_code 1 (Option.some Jvm.ClassFile.FieldType.int), .methodLink "PairMachineLaw" 68 ⟨"PairMachineModel", "next", "()I"⟩, .instanceMethod ⟨"PairMachineModel", "next", "()I"⟩, .selects "PairMachineModel" ⟨"PairMachineModel", "next", "()I"⟩ ⟨"PairMachineModel", "next", "()I"⟩, .code ⟨"PairMachineModel", "shown", "(I)I"⟩ prog_13_method_67_code 2 (Option.some Jvm.ClassFile.FieldType.int), .methodLink "PairMachineLaw" 72 ⟨"PairMachineModel", "shown", "(I)I"⟩, .instanceMethod ⟨"PairMachineModel", "shown", "(I)I"⟩, .selects "PairMachineModel" ⟨"PairMachineModel", "shown", "(I)I"⟩ ⟨"PairMachineModel", "shown", "(I)I"⟩, .code ⟨"PairMachineModel", "lengthOf", "(I)I"⟩ prog_13_method_64_code 4 (Option.some Jvm.ClassFile.FieldType.int), .instanceMethod ⟨"PairMachineModel", "lengthOf", "(I)I"⟩, .sameMethod "java/lang/AbstractStringBuilder" "java/lang/AbstractStringBuilder" "length" "()I", .sameMethod "java/lang/AbstractStringBuilder" "java/lang/AbstractStringBuilder" "charAt" "(I)C", .sameMethod "java/lang/AbstractStringBuilder" "java/lang/AbstractStringBuilder" "setLength" "(I)V", .sameMethod "java/lang/AbstractStringBuilder" "java/lang/AbstractStringBuilder" "append" "(C)Ljava/lang/AbstractStringBuilder;", .sameMethod "java/lang/AbstractStringBuilder" "java/lang/AbstractStringBuilder" "append" "(I)Ljava/lang/AbstractStringBuilder;", .sameMethod "java/lang/AbstractStringBuilder" "java/lang/AbstractStringBuilder" "append" "(Ljava/lang/String;)Ljava/lang/AbstractStringBuilder;"]
theorem wl_23_ok : wl_23 = [10, 5, 2, 3, 4, 9, 6, 7, 8, 1, 0, 11, 12, 14, 24, 22, 17].filterMap (fun i => tables_1_8[i]?) ∧ wl_23.all mj_gw = true := by decide +kernel
theorem wl_23_in : ∀ w ∈ wl_23, w ∈ gTS := fun w hw => by
  have h1 := hw
  rw [wl_23_ok.1] at h1
  obtain ⟨i, -, hi⟩ := List.mem_filterMap.mp h1
  exact List.mem_filter.mpr ⟨lw_in (tin_tables_1_8 w (List.mem_of_getElem? hi)), List.all_eq_true.mp wl_23_ok.2 w hw⟩
theorem tw_17 : Jvm.Cond.constantLong "PairMachineLaw" 33 (4294967295) ∈ gTS := wl_23_in _ (List.mem_of_getElem? (i := 0) rfl)
theorem tw_76 : Jvm.Cond.code ⟨"PairMachineModel", "next", "()I"⟩ prog_13_method_66_code 1 (Option.some Jvm.ClassFile.FieldType.int) ∈ gTS := wl_23_in _ (List.mem_of_getElem? (i := 1) rfl)
theorem tw_77 : Jvm.Cond.methodLink "PairMachineLaw" 68 ⟨"PairMachineModel", "next", "()I"⟩ ∈ gTS := wl_23_in _ (List.mem_of_getElem? (i := 2) rfl)
theorem tw_78 : Jvm.Cond.instanceMethod ⟨"PairMachineModel", "next", "()I"⟩ ∈ gTS := wl_23_in _ (List.mem_of_getElem? (i := 3) rfl)
theorem tw_79 : Jvm.Cond.selects "PairMachineModel" ⟨"PairMachineModel", "next", "()I"⟩ ⟨"PairMachineModel", "next", "()I"⟩ ∈ gTS := wl_23_in _ (List.mem_of_getElem? (i := 4) rfl)
theorem tw_84 : Jvm.Cond.code ⟨"PairMachineModel", "shown", "(I)I"⟩ prog_13_method_67_code 2 (Option.some Jvm.ClassFile.FieldType.int) ∈ gTS := wl_23_in _ (List.mem_of_getElem? (i := 5) rfl)
theorem tw_85 : Jvm.Cond.methodLink "PairMachineLaw" 72 ⟨"PairMachineModel", "shown", "(I)I"⟩ ∈ gTS := wl_23_in _ (List.mem_of_getElem? (i := 6) rfl)
theorem tw_86 : Jvm.Cond.instanceMethod ⟨"PairMachineModel", "shown", "(I)I"⟩ ∈ gTS := wl_23_in _ (List.mem_of_getElem? (i := 7) rfl)
theorem tw_87 : Jvm.Cond.selects "PairMachineModel" ⟨"PairMachineModel", "shown", "(I)I"⟩ ⟨"PairMachineModel", "shown", "(I)I"⟩ ∈ gTS := wl_23_in _ (List.mem_of_getElem? (i := 8) rfl)
theorem tw_1064 : Jvm.Cond.code ⟨"PairMachineModel", "lengthOf", "(I)I"⟩ prog_13_method_64_code 4 (Option.some Jvm.ClassFile.FieldType.int) ∈ gTS := wl_23_in _ (List.mem_of_getElem? (i := 9) rfl)
theorem tw_1066 : Jvm.Cond.instanceMethod ⟨"PairMachineModel", "lengthOf", "(I)I"⟩ ∈ gTS := wl_23_in _ (List.mem_of_getElem? (i := 10) rfl)
theorem tw_1080 : Jvm.Cond.sameMethod "java/lang/AbstractStringBuilder" "java/lang/AbstractStringBuilder" "length" "()I" ∈ gTS := wl_23_in _ (List.mem_of_getElem? (i := 11) rfl)
theorem tw_1086 : Jvm.Cond.sameMethod "java/lang/AbstractStringBuilder" "java/lang/AbstractStringBuilder" "charAt" "(I)C" ∈ gTS := wl_23_in _ (List.mem_of_getElem? (i := 12) rfl)
theorem tw_1130 : Jvm.Cond.sameMethod "java/lang/AbstractStringBuilder" "java/lang/AbstractStringBuilder" "setLength" "(I)V" ∈ gTS := wl_23_in _ (List.mem_of_getElem? (i := 13) rfl)
theorem tw_1163 : Jvm.Cond.sameMethod "java/lang/AbstractStringBuilder" "java/lang/AbstractStringBuilder" "append" "(C)Ljava/lang/AbstractStringBuilder;" ∈ gTS := wl_23_in _ (List.mem_of_getElem? (i := 14) rfl)
theorem tw_1170 : Jvm.Cond.sameMethod "java/lang/AbstractStringBuilder" "java/lang/AbstractStringBuilder" "append" "(I)Ljava/lang/AbstractStringBuilder;" ∈ gTS := wl_23_in _ (List.mem_of_getElem? (i := 15) rfl)
theorem tw_1183 : Jvm.Cond.sameMethod "java/lang/AbstractStringBuilder" "java/lang/AbstractStringBuilder" "append" "(Ljava/lang/String;)Ljava/lang/AbstractStringBuilder;" ∈ gTS := wl_23_in _ (List.mem_of_getElem? (i := 16) rfl)
def wl_24 : List Cond := [.code ⟨"PairMachineModel", "compile", "()I"⟩ prog_13_method_39_code 3 (Option.some Jvm.ClassFile.FieldType.int), .code ⟨"PairMachineModel", "position", "()I"⟩ prog_13_method_40_code 1 (Option.some Jvm.ClassFile.FieldType.int), .methodLink "PairMachineLaw" 47 ⟨"PairMachineModel", "position", "()I"⟩, .instanceMethod ⟨"PairMachineModel", "position", "()I"⟩, .selects "PairMachineModel" ⟨"PairMachineModel", "position", "()I"⟩ ⟨"PairMachineModel", "position", "()I"⟩, .code ⟨"PairMachineModel", "start", "()Z"⟩ prog_13_method_41_code 2 (Option.some Jvm.ClassFile.FieldType.boolean), .methodLink "PairMachineLaw" 52 ⟨"PairMachineModel", "start", "()Z"⟩, .instanceMethod ⟨"PairMachineModel", "start", "()Z"⟩, .selects "PairMachineModel" ⟨"PairMachineModel", "start", "()Z"⟩ ⟨"PairMachineModel", "start", "()Z"⟩, .code ⟨"PairMachineModel", "run", "(I)I"⟩ prog_13_method_58_code 3 (Option.some Jvm.ClassFile.FieldType.int), .methodLink "PairMachineLaw" 56 ⟨"PairMachineModel", "run", "(I)I"⟩, .instanceMethod ⟨"PairMachineModel", "run", "(I)I"⟩, .selects "PairMachineModel" ⟨"PairMachineModel", "run", "(I)I"⟩ ⟨"PairMachineModel", "run", "(I)I"⟩, .code ⟨"PairMachineModel", "state", "()I"⟩ prog_13_method_63_code 1 (Option.some Jvm.ClassFile.FieldType.int), .methodLink "PairMachineLaw" 60 ⟨"PairMachineModel", "state", "()I"⟩, .instanceMethod ⟨"PairMachineModel", "state", "()I"⟩, .selects "PairMachineModel" ⟨"PairMachineModel", "state", "()I"⟩ ⟨"PairMachineModel", "state", "()I"⟩, .code ⟨"PairMachineModel", "count", "(I)I"⟩ prog_13_method_65_code 2 (Option.some Jvm.ClassFile.FieldType.int), .methodLink "PairMachineLaw" 64 ⟨"PairMachineModel", "count", "(I)I"⟩, .instanceMethod ⟨"PairMachineModel", "count", "(I)I"⟩, .selects "PairMachineModel" ⟨"PairMachineModel", "count", "(I)I"⟩ ⟨"PairMachineModel", "count", "(I)I"⟩, .code ⟨"PairMachineModel", "here", "(I)C"⟩ prog_13_method_4_code 2 (Option.some Jvm.ClassFile.FieldType.char), .methodLink "PairMachineModel" 108 ⟨"PairMachineModel", "here", "(I)C"⟩, .instanceMethod ⟨"PairMachineModel", "here", "(I)C"⟩, .code ⟨"PairMachineModel", "takes", "(C)Z"⟩ prog_13_method_5_code 3 (Option.some Jvm.ClassFile.FieldType.boolean)]
theorem wl_24_ok : wl_24 = [0, 124, 121, 122, 123, 128, 125, 126, 127, 144, 141, 142, 143, 233, 230, 231, 232, 237, 234, 235, 236, 16, 13, 15, 35].filterMap (fun i => tables_1_7[i]?) ∧ wl_24.all mj_gw = true := by decide +kernel
theorem wl_24_in : ∀ w ∈ wl_24, w ∈ gTS := fun w hw => by
  have h1 := hw
  rw [wl_24_ok.1] at h1
  obtain ⟨i, -, hi⟩ := List.mem_filterMap.mp h1
  exact List.mem_filter.mpr ⟨lw_in (tin_tables_1_7 w (List.mem_of_getElem? hi)), List.all_eq_true.mp wl_24_ok.2 w hw⟩
theorem tw_29 : Jvm.Cond.code ⟨"PairMachineModel", "compile", "()I"⟩ prog_13_method_39_code 3 (Option.some Jvm.ClassFile.FieldType.int) ∈ gTS := wl_24_in _ (List.mem_of_getElem? (i := 0) rfl)
theorem tw_37 : Jvm.Cond.code ⟨"PairMachineModel", "position", "()I"⟩ prog_13_method_40_code 1 (Option.some Jvm.ClassFile.FieldType.int) ∈ gTS := wl_24_in _ (List.mem_of_getElem? (i := 1) rfl)
theorem tw_38 : Jvm.Cond.methodLink "PairMachineLaw" 47 ⟨"PairMachineModel", "position", "()I"⟩ ∈ gTS := wl_24_in _ (List.mem_of_getElem? (i := 2) rfl)
theorem tw_39 : Jvm.Cond.instanceMethod ⟨"PairMachineModel", "position", "()I"⟩ ∈ gTS := wl_24_in _ (List.mem_of_getElem? (i := 3) rfl)
theorem tw_40 : Jvm.Cond.selects "PairMachineModel" ⟨"PairMachineModel", "position", "()I"⟩ ⟨"PairMachineModel", "position", "()I"⟩ ∈ gTS := wl_24_in _ (List.mem_of_getElem? (i := 4) rfl)
theorem tw_45 : Jvm.Cond.code ⟨"PairMachineModel", "start", "()Z"⟩ prog_13_method_41_code 2 (Option.some Jvm.ClassFile.FieldType.boolean) ∈ gTS := wl_24_in _ (List.mem_of_getElem? (i := 5) rfl)
theorem tw_46 : Jvm.Cond.methodLink "PairMachineLaw" 52 ⟨"PairMachineModel", "start", "()Z"⟩ ∈ gTS := wl_24_in _ (List.mem_of_getElem? (i := 6) rfl)
theorem tw_47 : Jvm.Cond.instanceMethod ⟨"PairMachineModel", "start", "()Z"⟩ ∈ gTS := wl_24_in _ (List.mem_of_getElem? (i := 7) rfl)
theorem tw_48 : Jvm.Cond.selects "PairMachineModel" ⟨"PairMachineModel", "start", "()Z"⟩ ⟨"PairMachineModel", "start", "()Z"⟩ ∈ gTS := wl_24_in _ (List.mem_of_getElem? (i := 8) rfl)
theorem tw_52 : Jvm.Cond.code ⟨"PairMachineModel", "run", "(I)I"⟩ prog_13_method_58_code 3 (Option.some Jvm.ClassFile.FieldType.int) ∈ gTS := wl_24_in _ (List.mem_of_getElem? (i := 9) rfl)
theorem tw_53 : Jvm.Cond.methodLink "PairMachineLaw" 56 ⟨"PairMachineModel", "run", "(I)I"⟩ ∈ gTS := wl_24_in _ (List.mem_of_getElem? (i := 10) rfl)
theorem tw_54 : Jvm.Cond.instanceMethod ⟨"PairMachineModel", "run", "(I)I"⟩ ∈ gTS := wl_24_in _ (List.mem_of_getElem? (i := 11) rfl)
theorem tw_55 : Jvm.Cond.selects "PairMachineModel" ⟨"PairMachineModel", "run", "(I)I"⟩ ⟨"PairMachineModel", "run", "(I)I"⟩ ∈ gTS := wl_24_in _ (List.mem_of_getElem? (i := 12) rfl)
theorem tw_60 : Jvm.Cond.code ⟨"PairMachineModel", "state", "()I"⟩ prog_13_method_63_code 1 (Option.some Jvm.ClassFile.FieldType.int) ∈ gTS := wl_24_in _ (List.mem_of_getElem? (i := 13) rfl)
theorem tw_61 : Jvm.Cond.methodLink "PairMachineLaw" 60 ⟨"PairMachineModel", "state", "()I"⟩ ∈ gTS := wl_24_in _ (List.mem_of_getElem? (i := 14) rfl)
theorem tw_62 : Jvm.Cond.instanceMethod ⟨"PairMachineModel", "state", "()I"⟩ ∈ gTS := wl_24_in _ (List.mem_of_getElem? (i := 15) rfl)
theorem tw_63 : Jvm.Cond.selects "PairMachineModel" ⟨"PairMachineModel", "state", "()I"⟩ ⟨"PairMachineModel", "state", "()I"⟩ ∈ gTS := wl_24_in _ (List.mem_of_getElem? (i := 16) rfl)
theorem tw_68 : Jvm.Cond.code ⟨"PairMachineModel", "count", "(I)I"⟩ prog_13_method_65_code 2 (Option.some Jvm.ClassFile.FieldType.int) ∈ gTS := wl_24_in _ (List.mem_of_getElem? (i := 17) rfl)
theorem tw_69 : Jvm.Cond.methodLink "PairMachineLaw" 64 ⟨"PairMachineModel", "count", "(I)I"⟩ ∈ gTS := wl_24_in _ (List.mem_of_getElem? (i := 18) rfl)
theorem tw_70 : Jvm.Cond.instanceMethod ⟨"PairMachineModel", "count", "(I)I"⟩ ∈ gTS := wl_24_in _ (List.mem_of_getElem? (i := 19) rfl)
theorem tw_71 : Jvm.Cond.selects "PairMachineModel" ⟨"PairMachineModel", "count", "(I)I"⟩ ⟨"PairMachineModel", "count", "(I)I"⟩ ∈ gTS := wl_24_in _ (List.mem_of_getElem? (i := 20) rfl)
theorem tw_833 : Jvm.Cond.code ⟨"PairMachineModel", "here", "(I)C"⟩ prog_13_method_4_code 2 (Option.some Jvm.ClassFile.FieldType.char) ∈ gTS := wl_24_in _ (List.mem_of_getElem? (i := 21) rfl)
theorem tw_834 : Jvm.Cond.methodLink "PairMachineModel" 108 ⟨"PairMachineModel", "here", "(I)C"⟩ ∈ gTS := wl_24_in _ (List.mem_of_getElem? (i := 22) rfl)
theorem tw_835 : Jvm.Cond.instanceMethod ⟨"PairMachineModel", "here", "(I)C"⟩ ∈ gTS := wl_24_in _ (List.mem_of_getElem? (i := 23) rfl)
theorem tw_838 : Jvm.Cond.code ⟨"PairMachineModel", "takes", "(C)Z"⟩ prog_13_method_5_code 3 (Option.some Jvm.ClassFile.FieldType.boolean) ∈ gTS := wl_24_in _ (List.mem_of_getElem? (i := 24) rfl)
def wl_25 : List Cond := [.methodLink "PairMachineModel" 115 ⟨"PairMachineModel", "takes", "(C)Z"⟩, .instanceMethod ⟨"PairMachineModel", "takes", "(C)Z"⟩, .code ⟨"PairMachineModel", "isDigit", "(C)Z"⟩ prog_13_method_6_code 1 (Option.some Jvm.ClassFile.FieldType.boolean), .methodLink "PairMachineModel" 122 ⟨"PairMachineModel", "isDigit", "(C)Z"⟩, .static ⟨"PairMachineModel", "isDigit", "(C)Z"⟩, .code ⟨"PairMachineModel", "opens", "()Z"⟩ prog_13_method_8_code 1 (Option.some Jvm.ClassFile.FieldType.boolean), .methodLink "PairMachineModel" 125 ⟨"PairMachineModel", "opens", "()Z"⟩, .instanceMethod ⟨"PairMachineModel", "opens", "()Z"⟩, .code ⟨"PairMachineModel", "isLetter", "(C)Z"⟩ prog_13_method_7_code 1 (Option.some Jvm.ClassFile.FieldType.boolean), .methodLink "PairMachineModel" 129 ⟨"PairMachineModel", "isLetter", "(C)Z"⟩, .static ⟨"PairMachineModel", "isLetter", "(C)Z"⟩, .code ⟨"PairMachineModel", "number", "()Z"⟩ prog_13_method_11_code 3 (Option.some Jvm.ClassFile.FieldType.boolean), .methodLink "PairMachineModel" 132 ⟨"PairMachineModel", "number", "()Z"⟩, .instanceMethod ⟨"PairMachineModel", "number", "()Z"⟩, .code ⟨"PairMachineModel", "closes", "()Z"⟩ prog_13_method_9_code 2 (Option.some Jvm.ClassFile.FieldType.boolean), .methodLink "PairMachineModel" 135 ⟨"PairMachineModel", "closes", "()Z"⟩, .instanceMethod ⟨"PairMachineModel", "closes", "()Z"⟩, .code ⟨"PairMachineModel", "part", "(II)I"⟩ prog_13_method_10_code 4 (Option.some Jvm.ClassFile.FieldType.int), .methodLink "PairMachineModel" 138 ⟨"PairMachineModel", "part", "(II)I"⟩, .instanceMethod ⟨"PairMachineModel", "part", "(II)I"⟩, .code ⟨"PairMachineModel", "datum", "()Z"⟩ prog_13_method_13_code 4 (Option.some Jvm.ClassFile.FieldType.boolean), .methodLink "PairMachineModel" 142 ⟨"PairMachineModel", "datum", "()Z"⟩, .instanceMethod ⟨"PairMachineModel", "datum", "()Z"⟩, .code ⟨"PairMachineModel", "numberAt", "(I)I"⟩ prog_13_method_12_code 6 (Option.some Jvm.ClassFile.FieldType.int), .methodLink "PairMachineModel" 145 ⟨"PairMachineModel", "numberAt", "(I)I"⟩]
theorem wl_25_ok : wl_25 = [32, 34, 38, 36, 37, 27, 24, 26, 19, 17, 18, 31, 28, 30, 53, 50, 52, 12, 9, 11, 23, 20, 22, 42, 39].filterMap (fun i => tables_1_7[i]?) ∧ wl_25.all mj_gw = true := by decide +kernel
theorem wl_25_in : ∀ w ∈ wl_25, w ∈ gTS := fun w hw => by
  have h1 := hw
  rw [wl_25_ok.1] at h1
  obtain ⟨i, -, hi⟩ := List.mem_filterMap.mp h1
  exact List.mem_filter.mpr ⟨lw_in (tin_tables_1_7 w (List.mem_of_getElem? hi)), List.all_eq_true.mp wl_25_ok.2 w hw⟩
theorem tw_839 : Jvm.Cond.methodLink "PairMachineModel" 115 ⟨"PairMachineModel", "takes", "(C)Z"⟩ ∈ gTS := wl_25_in _ (List.mem_of_getElem? (i := 0) rfl)
theorem tw_840 : Jvm.Cond.instanceMethod ⟨"PairMachineModel", "takes", "(C)Z"⟩ ∈ gTS := wl_25_in _ (List.mem_of_getElem? (i := 1) rfl)
theorem tw_843 : Jvm.Cond.code ⟨"PairMachineModel", "isDigit", "(C)Z"⟩ prog_13_method_6_code 1 (Option.some Jvm.ClassFile.FieldType.boolean) ∈ gTS := wl_25_in _ (List.mem_of_getElem? (i := 2) rfl)
theorem tw_844 : Jvm.Cond.methodLink "PairMachineModel" 122 ⟨"PairMachineModel", "isDigit", "(C)Z"⟩ ∈ gTS := wl_25_in _ (List.mem_of_getElem? (i := 3) rfl)
theorem tw_845 : Jvm.Cond.static ⟨"PairMachineModel", "isDigit", "(C)Z"⟩ ∈ gTS := wl_25_in _ (List.mem_of_getElem? (i := 4) rfl)
theorem tw_846 : Jvm.Cond.code ⟨"PairMachineModel", "opens", "()Z"⟩ prog_13_method_8_code 1 (Option.some Jvm.ClassFile.FieldType.boolean) ∈ gTS := wl_25_in _ (List.mem_of_getElem? (i := 5) rfl)
theorem tw_847 : Jvm.Cond.methodLink "PairMachineModel" 125 ⟨"PairMachineModel", "opens", "()Z"⟩ ∈ gTS := wl_25_in _ (List.mem_of_getElem? (i := 6) rfl)
theorem tw_848 : Jvm.Cond.instanceMethod ⟨"PairMachineModel", "opens", "()Z"⟩ ∈ gTS := wl_25_in _ (List.mem_of_getElem? (i := 7) rfl)
theorem tw_850 : Jvm.Cond.code ⟨"PairMachineModel", "isLetter", "(C)Z"⟩ prog_13_method_7_code 1 (Option.some Jvm.ClassFile.FieldType.boolean) ∈ gTS := wl_25_in _ (List.mem_of_getElem? (i := 8) rfl)
theorem tw_851 : Jvm.Cond.methodLink "PairMachineModel" 129 ⟨"PairMachineModel", "isLetter", "(C)Z"⟩ ∈ gTS := wl_25_in _ (List.mem_of_getElem? (i := 9) rfl)
theorem tw_852 : Jvm.Cond.static ⟨"PairMachineModel", "isLetter", "(C)Z"⟩ ∈ gTS := wl_25_in _ (List.mem_of_getElem? (i := 10) rfl)
theorem tw_853 : Jvm.Cond.code ⟨"PairMachineModel", "number", "()Z"⟩ prog_13_method_11_code 3 (Option.some Jvm.ClassFile.FieldType.boolean) ∈ gTS := wl_25_in _ (List.mem_of_getElem? (i := 11) rfl)
theorem tw_854 : Jvm.Cond.methodLink "PairMachineModel" 132 ⟨"PairMachineModel", "number", "()Z"⟩ ∈ gTS := wl_25_in _ (List.mem_of_getElem? (i := 12) rfl)
theorem tw_855 : Jvm.Cond.instanceMethod ⟨"PairMachineModel", "number", "()Z"⟩ ∈ gTS := wl_25_in _ (List.mem_of_getElem? (i := 13) rfl)
theorem tw_857 : Jvm.Cond.code ⟨"PairMachineModel", "closes", "()Z"⟩ prog_13_method_9_code 2 (Option.some Jvm.ClassFile.FieldType.boolean) ∈ gTS := wl_25_in _ (List.mem_of_getElem? (i := 14) rfl)
theorem tw_858 : Jvm.Cond.methodLink "PairMachineModel" 135 ⟨"PairMachineModel", "closes", "()Z"⟩ ∈ gTS := wl_25_in _ (List.mem_of_getElem? (i := 15) rfl)
theorem tw_859 : Jvm.Cond.instanceMethod ⟨"PairMachineModel", "closes", "()Z"⟩ ∈ gTS := wl_25_in _ (List.mem_of_getElem? (i := 16) rfl)
theorem tw_861 : Jvm.Cond.code ⟨"PairMachineModel", "part", "(II)I"⟩ prog_13_method_10_code 4 (Option.some Jvm.ClassFile.FieldType.int) ∈ gTS := wl_25_in _ (List.mem_of_getElem? (i := 17) rfl)
theorem tw_862 : Jvm.Cond.methodLink "PairMachineModel" 138 ⟨"PairMachineModel", "part", "(II)I"⟩ ∈ gTS := wl_25_in _ (List.mem_of_getElem? (i := 18) rfl)
theorem tw_863 : Jvm.Cond.instanceMethod ⟨"PairMachineModel", "part", "(II)I"⟩ ∈ gTS := wl_25_in _ (List.mem_of_getElem? (i := 19) rfl)
theorem tw_865 : Jvm.Cond.code ⟨"PairMachineModel", "datum", "()Z"⟩ prog_13_method_13_code 4 (Option.some Jvm.ClassFile.FieldType.boolean) ∈ gTS := wl_25_in _ (List.mem_of_getElem? (i := 20) rfl)
theorem tw_866 : Jvm.Cond.methodLink "PairMachineModel" 142 ⟨"PairMachineModel", "datum", "()Z"⟩ ∈ gTS := wl_25_in _ (List.mem_of_getElem? (i := 21) rfl)
theorem tw_867 : Jvm.Cond.instanceMethod ⟨"PairMachineModel", "datum", "()Z"⟩ ∈ gTS := wl_25_in _ (List.mem_of_getElem? (i := 22) rfl)
theorem tw_869 : Jvm.Cond.code ⟨"PairMachineModel", "numberAt", "(I)I"⟩ prog_13_method_12_code 6 (Option.some Jvm.ClassFile.FieldType.int) ∈ gTS := wl_25_in _ (List.mem_of_getElem? (i := 23) rfl)
theorem tw_870 : Jvm.Cond.methodLink "PairMachineModel" 145 ⟨"PairMachineModel", "numberAt", "(I)I"⟩ ∈ gTS := wl_25_in _ (List.mem_of_getElem? (i := 24) rfl)
def wl_26 : List Cond := [.instanceMethod ⟨"PairMachineModel", "numberAt", "(I)I"⟩, .code ⟨"PairMachineModel", "arity", "(C)I"⟩ prog_13_method_15_code 1 (Option.some Jvm.ClassFile.FieldType.int), .methodLink "PairMachineModel" 149 ⟨"PairMachineModel", "arity", "(C)I"⟩, .static ⟨"PairMachineModel", "arity", "(C)I"⟩, .code ⟨"PairMachineModel", "parameters", "(I)Z"⟩ prog_13_method_14_code 4 (Option.some Jvm.ClassFile.FieldType.boolean), .methodLink "PairMachineModel" 153 ⟨"PairMachineModel", "parameters", "(I)Z"⟩, .instanceMethod ⟨"PairMachineModel", "parameters", "(I)Z"⟩, .code ⟨"PairMachineModel", "binding", "(I)Z"⟩ prog_13_method_17_code 5 (Option.some Jvm.ClassFile.FieldType.boolean), .methodLink "PairMachineModel" 157 ⟨"PairMachineModel", "binding", "(I)Z"⟩, .instanceMethod ⟨"PairMachineModel", "binding", "(I)Z"⟩, .code ⟨"PairMachineModel", "begin", "(I)I"⟩ prog_13_method_16_code 5 (Option.some Jvm.ClassFile.FieldType.int), .methodLink "PairMachineModel" 160 ⟨"PairMachineModel", "begin", "(I)I"⟩, .instanceMethod ⟨"PairMachineModel", "begin", "(I)I"⟩, .code ⟨"PairMachineModel", "goOn", "(I)I"⟩ prog_13_method_18_code 2 (Option.some Jvm.ClassFile.FieldType.int), .methodLink "PairMachineModel" 163 ⟨"PairMachineModel", "goOn", "(I)I"⟩, .instanceMethod ⟨"PairMachineModel", "goOn", "(I)I"⟩, .code ⟨"PairMachineModel", "placeIn", "(II)I"⟩ prog_13_method_20_code 5 (Option.some Jvm.ClassFile.FieldType.int), .methodLink "PairMachineModel" 166 ⟨"PairMachineModel", "placeIn", "(II)I"⟩, .instanceMethod ⟨"PairMachineModel", "placeIn", "(II)I"⟩, .code ⟨"PairMachineModel", "resolved", "(I)I"⟩ prog_13_method_21_code 7 (Option.some Jvm.ClassFile.FieldType.int), .methodLink "PairMachineModel" 169 ⟨"PairMachineModel", "resolved", "(I)I"⟩, .instanceMethod ⟨"PairMachineModel", "resolved", "(I)I"⟩, .code ⟨"PairMachineModel", "sign", "(II)V"⟩ prog_13_method_23_code 3 (Option.none : Option Jvm.ClassFile.FieldType), .methodLink "PairMachineModel" 181 ⟨"PairMachineModel", "sign", "(II)V"⟩, .instanceMethod ⟨"PairMachineModel", "sign", "(II)V"⟩]
theorem wl_26_ok : wl_26 = [41, 45, 43, 44, 49, 46, 48, 61, 58, 60, 8, 5, 7, 57, 54, 56, 73, 70, 72, 69, 66, 68, 89, 86, 88].filterMap (fun i => tables_1_7[i]?) ∧ wl_26.all mj_gw = true := by decide +kernel
theorem wl_26_in : ∀ w ∈ wl_26, w ∈ gTS := fun w hw => by
  have h1 := hw
  rw [wl_26_ok.1] at h1
  obtain ⟨i, -, hi⟩ := List.mem_filterMap.mp h1
  exact List.mem_filter.mpr ⟨lw_in (tin_tables_1_7 w (List.mem_of_getElem? hi)), List.all_eq_true.mp wl_26_ok.2 w hw⟩
theorem tw_871 : Jvm.Cond.instanceMethod ⟨"PairMachineModel", "numberAt", "(I)I"⟩ ∈ gTS := wl_26_in _ (List.mem_of_getElem? (i := 0) rfl)
theorem tw_873 : Jvm.Cond.code ⟨"PairMachineModel", "arity", "(C)I"⟩ prog_13_method_15_code 1 (Option.some Jvm.ClassFile.FieldType.int) ∈ gTS := wl_26_in _ (List.mem_of_getElem? (i := 1) rfl)
theorem tw_874 : Jvm.Cond.methodLink "PairMachineModel" 149 ⟨"PairMachineModel", "arity", "(C)I"⟩ ∈ gTS := wl_26_in _ (List.mem_of_getElem? (i := 2) rfl)
theorem tw_875 : Jvm.Cond.static ⟨"PairMachineModel", "arity", "(C)I"⟩ ∈ gTS := wl_26_in _ (List.mem_of_getElem? (i := 3) rfl)
theorem tw_876 : Jvm.Cond.code ⟨"PairMachineModel", "parameters", "(I)Z"⟩ prog_13_method_14_code 4 (Option.some Jvm.ClassFile.FieldType.boolean) ∈ gTS := wl_26_in _ (List.mem_of_getElem? (i := 4) rfl)
theorem tw_877 : Jvm.Cond.methodLink "PairMachineModel" 153 ⟨"PairMachineModel", "parameters", "(I)Z"⟩ ∈ gTS := wl_26_in _ (List.mem_of_getElem? (i := 5) rfl)
theorem tw_878 : Jvm.Cond.instanceMethod ⟨"PairMachineModel", "parameters", "(I)Z"⟩ ∈ gTS := wl_26_in _ (List.mem_of_getElem? (i := 6) rfl)
theorem tw_880 : Jvm.Cond.code ⟨"PairMachineModel", "binding", "(I)Z"⟩ prog_13_method_17_code 5 (Option.some Jvm.ClassFile.FieldType.boolean) ∈ gTS := wl_26_in _ (List.mem_of_getElem? (i := 7) rfl)
theorem tw_881 : Jvm.Cond.methodLink "PairMachineModel" 157 ⟨"PairMachineModel", "binding", "(I)Z"⟩ ∈ gTS := wl_26_in _ (List.mem_of_getElem? (i := 8) rfl)
theorem tw_882 : Jvm.Cond.instanceMethod ⟨"PairMachineModel", "binding", "(I)Z"⟩ ∈ gTS := wl_26_in _ (List.mem_of_getElem? (i := 9) rfl)
theorem tw_884 : Jvm.Cond.code ⟨"PairMachineModel", "begin", "(I)I"⟩ prog_13_method_16_code 5 (Option.some Jvm.ClassFile.FieldType.int) ∈ gTS := wl_26_in _ (List.mem_of_getElem? (i := 10) rfl)
theorem tw_885 : Jvm.Cond.methodLink "PairMachineModel" 160 ⟨"PairMachineModel", "begin", "(I)I"⟩ ∈ gTS := wl_26_in _ (List.mem_of_getElem? (i := 11) rfl)
theorem tw_886 : Jvm.Cond.instanceMethod ⟨"PairMachineModel", "begin", "(I)I"⟩ ∈ gTS := wl_26_in _ (List.mem_of_getElem? (i := 12) rfl)
theorem tw_888 : Jvm.Cond.code ⟨"PairMachineModel", "goOn", "(I)I"⟩ prog_13_method_18_code 2 (Option.some Jvm.ClassFile.FieldType.int) ∈ gTS := wl_26_in _ (List.mem_of_getElem? (i := 13) rfl)
theorem tw_889 : Jvm.Cond.methodLink "PairMachineModel" 163 ⟨"PairMachineModel", "goOn", "(I)I"⟩ ∈ gTS := wl_26_in _ (List.mem_of_getElem? (i := 14) rfl)
theorem tw_890 : Jvm.Cond.instanceMethod ⟨"PairMachineModel", "goOn", "(I)I"⟩ ∈ gTS := wl_26_in _ (List.mem_of_getElem? (i := 15) rfl)
theorem tw_892 : Jvm.Cond.code ⟨"PairMachineModel", "placeIn", "(II)I"⟩ prog_13_method_20_code 5 (Option.some Jvm.ClassFile.FieldType.int) ∈ gTS := wl_26_in _ (List.mem_of_getElem? (i := 16) rfl)
theorem tw_893 : Jvm.Cond.methodLink "PairMachineModel" 166 ⟨"PairMachineModel", "placeIn", "(II)I"⟩ ∈ gTS := wl_26_in _ (List.mem_of_getElem? (i := 17) rfl)
theorem tw_894 : Jvm.Cond.instanceMethod ⟨"PairMachineModel", "placeIn", "(II)I"⟩ ∈ gTS := wl_26_in _ (List.mem_of_getElem? (i := 18) rfl)
theorem tw_896 : Jvm.Cond.code ⟨"PairMachineModel", "resolved", "(I)I"⟩ prog_13_method_21_code 7 (Option.some Jvm.ClassFile.FieldType.int) ∈ gTS := wl_26_in _ (List.mem_of_getElem? (i := 19) rfl)
theorem tw_897 : Jvm.Cond.methodLink "PairMachineModel" 169 ⟨"PairMachineModel", "resolved", "(I)I"⟩ ∈ gTS := wl_26_in _ (List.mem_of_getElem? (i := 20) rfl)
theorem tw_898 : Jvm.Cond.instanceMethod ⟨"PairMachineModel", "resolved", "(I)I"⟩ ∈ gTS := wl_26_in _ (List.mem_of_getElem? (i := 21) rfl)
theorem tw_903 : Jvm.Cond.code ⟨"PairMachineModel", "sign", "(II)V"⟩ prog_13_method_23_code 3 (Option.none : Option Jvm.ClassFile.FieldType) ∈ gTS := wl_26_in _ (List.mem_of_getElem? (i := 22) rfl)
theorem tw_904 : Jvm.Cond.methodLink "PairMachineModel" 181 ⟨"PairMachineModel", "sign", "(II)V"⟩ ∈ gTS := wl_26_in _ (List.mem_of_getElem? (i := 23) rfl)
theorem tw_905 : Jvm.Cond.instanceMethod ⟨"PairMachineModel", "sign", "(II)V"⟩ ∈ gTS := wl_26_in _ (List.mem_of_getElem? (i := 24) rfl)
def wl_27 : List Cond := [.code ⟨"PairMachineModel", "later", "(II)V"⟩ prog_13_method_24_code 3 (Option.none : Option Jvm.ClassFile.FieldType), .methodLink "PairMachineModel" 185 ⟨"PairMachineModel", "later", "(II)V"⟩, .instanceMethod ⟨"PairMachineModel", "later", "(II)V"⟩, .code ⟨"PairMachineModel", "writeDatum", "(I)V"⟩ prog_13_method_25_code 4 (Option.none : Option Jvm.ClassFile.FieldType), .methodLink "PairMachineModel" 188 ⟨"PairMachineModel", "writeDatum", "(I)V"⟩, .instanceMethod ⟨"PairMachineModel", "writeDatum", "(I)V"⟩, .code ⟨"PairMachineModel", "laterRow", "(I)V"⟩ prog_13_method_28_code 3 (Option.none : Option Jvm.ClassFile.FieldType), .methodLink "PairMachineModel" 192 ⟨"PairMachineModel", "laterRow", "(I)V"⟩, .instanceMethod ⟨"PairMachineModel", "laterRow", "(I)V"⟩, .code ⟨"PairMachineModel", "laterCode", "(II)V"⟩ prog_13_method_27_code 3 (Option.none : Option Jvm.ClassFile.FieldType), .methodLink "PairMachineModel" 195 ⟨"PairMachineModel", "laterCode", "(II)V"⟩, .instanceMethod ⟨"PairMachineModel", "laterCode", "(II)V"⟩, .code ⟨"PairMachineModel", "writeSign", "(II)V"⟩ prog_13_method_30_code 4 (Option.none : Option Jvm.ClassFile.FieldType), .methodLink "PairMachineModel" 198 ⟨"PairMachineModel", "writeSign", "(II)V"⟩, .instanceMethod ⟨"PairMachineModel", "writeSign", "(II)V"⟩, .code ⟨"PairMachineModel", "codeOf", "(I)I"⟩ prog_13_method_26_code 1 (Option.some Jvm.ClassFile.FieldType.int), .methodLink "PairMachineModel" 201 ⟨"PairMachineModel", "codeOf", "(I)I"⟩, .static ⟨"PairMachineModel", "codeOf", "(I)I"⟩, .code ⟨"PairMachineModel", "writePart", "(I)V"⟩ prog_13_method_29_code 3 (Option.none : Option Jvm.ClassFile.FieldType), .methodLink "PairMachineModel" 204 ⟨"PairMachineModel", "writePart", "(I)V"⟩, .instanceMethod ⟨"PairMachineModel", "writePart", "(I)V"⟩, .code ⟨"PairMachineModel", "make", "(III)I"⟩ prog_13_method_33_code 5 (Option.some Jvm.ClassFile.FieldType.int), .methodLink "PairMachineModel" 207 ⟨"PairMachineModel", "make", "(III)I"⟩, .instanceMethod ⟨"PairMachineModel", "make", "(III)I"⟩, .code ⟨"PairMachineModel", "makeOf", "(II)I"⟩ prog_13_method_34_code 3 (Option.some Jvm.ClassFile.FieldType.int)]
theorem wl_27_ok : wl_27 = [81, 78, 80, 93, 90, 92, 97, 94, 96, 101, 98, 100, 105, 102, 104, 108, 106, 107, 85, 82, 84, 120, 117, 119, 116].filterMap (fun i => tables_1_7[i]?) ∧ wl_27.all mj_gw = true := by decide +kernel
theorem wl_27_in : ∀ w ∈ wl_27, w ∈ gTS := fun w hw => by
  have h1 := hw
  rw [wl_27_ok.1] at h1
  obtain ⟨i, -, hi⟩ := List.mem_filterMap.mp h1
  exact List.mem_filter.mpr ⟨lw_in (tin_tables_1_7 w (List.mem_of_getElem? hi)), List.all_eq_true.mp wl_27_ok.2 w hw⟩
theorem tw_907 : Jvm.Cond.code ⟨"PairMachineModel", "later", "(II)V"⟩ prog_13_method_24_code 3 (Option.none : Option Jvm.ClassFile.FieldType) ∈ gTS := wl_27_in _ (List.mem_of_getElem? (i := 0) rfl)
theorem tw_908 : Jvm.Cond.methodLink "PairMachineModel" 185 ⟨"PairMachineModel", "later", "(II)V"⟩ ∈ gTS := wl_27_in _ (List.mem_of_getElem? (i := 1) rfl)
theorem tw_909 : Jvm.Cond.instanceMethod ⟨"PairMachineModel", "later", "(II)V"⟩ ∈ gTS := wl_27_in _ (List.mem_of_getElem? (i := 2) rfl)
theorem tw_911 : Jvm.Cond.code ⟨"PairMachineModel", "writeDatum", "(I)V"⟩ prog_13_method_25_code 4 (Option.none : Option Jvm.ClassFile.FieldType) ∈ gTS := wl_27_in _ (List.mem_of_getElem? (i := 3) rfl)
theorem tw_912 : Jvm.Cond.methodLink "PairMachineModel" 188 ⟨"PairMachineModel", "writeDatum", "(I)V"⟩ ∈ gTS := wl_27_in _ (List.mem_of_getElem? (i := 4) rfl)
theorem tw_913 : Jvm.Cond.instanceMethod ⟨"PairMachineModel", "writeDatum", "(I)V"⟩ ∈ gTS := wl_27_in _ (List.mem_of_getElem? (i := 5) rfl)
theorem tw_915 : Jvm.Cond.code ⟨"PairMachineModel", "laterRow", "(I)V"⟩ prog_13_method_28_code 3 (Option.none : Option Jvm.ClassFile.FieldType) ∈ gTS := wl_27_in _ (List.mem_of_getElem? (i := 6) rfl)
theorem tw_916 : Jvm.Cond.methodLink "PairMachineModel" 192 ⟨"PairMachineModel", "laterRow", "(I)V"⟩ ∈ gTS := wl_27_in _ (List.mem_of_getElem? (i := 7) rfl)
theorem tw_917 : Jvm.Cond.instanceMethod ⟨"PairMachineModel", "laterRow", "(I)V"⟩ ∈ gTS := wl_27_in _ (List.mem_of_getElem? (i := 8) rfl)
theorem tw_919 : Jvm.Cond.code ⟨"PairMachineModel", "laterCode", "(II)V"⟩ prog_13_method_27_code 3 (Option.none : Option Jvm.ClassFile.FieldType) ∈ gTS := wl_27_in _ (List.mem_of_getElem? (i := 9) rfl)
theorem tw_920 : Jvm.Cond.methodLink "PairMachineModel" 195 ⟨"PairMachineModel", "laterCode", "(II)V"⟩ ∈ gTS := wl_27_in _ (List.mem_of_getElem? (i := 10) rfl)
theorem tw_921 : Jvm.Cond.instanceMethod ⟨"PairMachineModel", "laterCode", "(II)V"⟩ ∈ gTS := wl_27_in _ (List.mem_of_getElem? (i := 11) rfl)
theorem tw_923 : Jvm.Cond.code ⟨"PairMachineModel", "writeSign", "(II)V"⟩ prog_13_method_30_code 4 (Option.none : Option Jvm.ClassFile.FieldType) ∈ gTS := wl_27_in _ (List.mem_of_getElem? (i := 12) rfl)
theorem tw_924 : Jvm.Cond.methodLink "PairMachineModel" 198 ⟨"PairMachineModel", "writeSign", "(II)V"⟩ ∈ gTS := wl_27_in _ (List.mem_of_getElem? (i := 13) rfl)
theorem tw_925 : Jvm.Cond.instanceMethod ⟨"PairMachineModel", "writeSign", "(II)V"⟩ ∈ gTS := wl_27_in _ (List.mem_of_getElem? (i := 14) rfl)
theorem tw_927 : Jvm.Cond.code ⟨"PairMachineModel", "codeOf", "(I)I"⟩ prog_13_method_26_code 1 (Option.some Jvm.ClassFile.FieldType.int) ∈ gTS := wl_27_in _ (List.mem_of_getElem? (i := 15) rfl)
theorem tw_928 : Jvm.Cond.methodLink "PairMachineModel" 201 ⟨"PairMachineModel", "codeOf", "(I)I"⟩ ∈ gTS := wl_27_in _ (List.mem_of_getElem? (i := 16) rfl)
theorem tw_929 : Jvm.Cond.static ⟨"PairMachineModel", "codeOf", "(I)I"⟩ ∈ gTS := wl_27_in _ (List.mem_of_getElem? (i := 17) rfl)
theorem tw_930 : Jvm.Cond.code ⟨"PairMachineModel", "writePart", "(I)V"⟩ prog_13_method_29_code 3 (Option.none : Option Jvm.ClassFile.FieldType) ∈ gTS := wl_27_in _ (List.mem_of_getElem? (i := 18) rfl)
theorem tw_931 : Jvm.Cond.methodLink "PairMachineModel" 204 ⟨"PairMachineModel", "writePart", "(I)V"⟩ ∈ gTS := wl_27_in _ (List.mem_of_getElem? (i := 19) rfl)
theorem tw_932 : Jvm.Cond.instanceMethod ⟨"PairMachineModel", "writePart", "(I)V"⟩ ∈ gTS := wl_27_in _ (List.mem_of_getElem? (i := 20) rfl)
theorem tw_934 : Jvm.Cond.code ⟨"PairMachineModel", "make", "(III)I"⟩ prog_13_method_33_code 5 (Option.some Jvm.ClassFile.FieldType.int) ∈ gTS := wl_27_in _ (List.mem_of_getElem? (i := 21) rfl)
theorem tw_935 : Jvm.Cond.methodLink "PairMachineModel" 207 ⟨"PairMachineModel", "make", "(III)I"⟩ ∈ gTS := wl_27_in _ (List.mem_of_getElem? (i := 22) rfl)
theorem tw_936 : Jvm.Cond.instanceMethod ⟨"PairMachineModel", "make", "(III)I"⟩ ∈ gTS := wl_27_in _ (List.mem_of_getElem? (i := 23) rfl)
theorem tw_939 : Jvm.Cond.code ⟨"PairMachineModel", "makeOf", "(II)I"⟩ prog_13_method_34_code 3 (Option.some Jvm.ClassFile.FieldType.int) ∈ gTS := wl_27_in _ (List.mem_of_getElem? (i := 24) rfl)
def wl_28 : List Cond := [.methodLink "PairMachineModel" 214 ⟨"PairMachineModel", "makeOf", "(II)I"⟩, .instanceMethod ⟨"PairMachineModel", "makeOf", "(II)I"⟩, .code ⟨"PairMachineModel", "mark", "(II)V"⟩ prog_13_method_36_code 3 (Option.none : Option Jvm.ClassFile.FieldType), .methodLink "PairMachineModel" 217 ⟨"PairMachineModel", "mark", "(II)V"⟩, .instanceMethod ⟨"PairMachineModel", "mark", "(II)V"⟩, .code ⟨"PairMachineModel", "reach", "()I"⟩ prog_13_method_37_code 3 (Option.some Jvm.ClassFile.FieldType.int), .methodLink "PairMachineModel" 220 ⟨"PairMachineModel", "reach", "()I"⟩, .instanceMethod ⟨"PairMachineModel", "reach", "()I"⟩, .code ⟨"PairMachineModel", "read", "()Z"⟩ prog_13_method_19_code 6 (Option.some Jvm.ClassFile.FieldType.boolean), .methodLink "PairMachineModel" 224 ⟨"PairMachineModel", "read", "()Z"⟩, .instanceMethod ⟨"PairMachineModel", "read", "()Z"⟩, .code ⟨"PairMachineModel", "firstUnknown", "()I"⟩ prog_13_method_22_code 2 (Option.some Jvm.ClassFile.FieldType.int), .methodLink "PairMachineModel" 227 ⟨"PairMachineModel", "firstUnknown", "()I"⟩, .instanceMethod ⟨"PairMachineModel", "firstUnknown", "()I"⟩, .code ⟨"PairMachineModel", "writeCode", "()V"⟩ prog_13_method_31_code 1 (Option.none : Option Jvm.ClassFile.FieldType), .methodLink "PairMachineModel" 230 ⟨"PairMachineModel", "writeCode", "()V"⟩, .instanceMethod ⟨"PairMachineModel", "writeCode", "()V"⟩, .code ⟨"PairMachineModel", "lay", "()I"⟩ prog_13_method_35_code 3 (Option.some Jvm.ClassFile.FieldType.int), .methodLink "PairMachineModel" 233 ⟨"PairMachineModel", "lay", "()I"⟩, .instanceMethod ⟨"PairMachineModel", "lay", "()I"⟩, .code ⟨"PairMachineModel", "sweep", "()I"⟩ prog_13_method_38_code 4 (Option.some Jvm.ClassFile.FieldType.int), .methodLink "PairMachineModel" 252 ⟨"PairMachineModel", "sweep", "()I"⟩, .instanceMethod ⟨"PairMachineModel", "sweep", "()I"⟩, .code ⟨"PairMachineModel", "rest", "(I)I"⟩ prog_13_method_43_code 2 (Option.some Jvm.ClassFile.FieldType.int), .methodLink "PairMachineModel" 255 ⟨"PairMachineModel", "rest", "(I)I"⟩]
theorem wl_28_ok : wl_28 = [113, 115, 140, 137, 139, 136, 133, 135, 4, 1, 3, 65, 62, 64, 77, 74, 76, 112, 109, 111, 132, 129, 131, 163, 160].filterMap (fun i => tables_1_7[i]?) ∧ wl_28.all mj_gw = true := by decide +kernel
theorem wl_28_in : ∀ w ∈ wl_28, w ∈ gTS := fun w hw => by
  have h1 := hw
  rw [wl_28_ok.1] at h1
  obtain ⟨i, -, hi⟩ := List.mem_filterMap.mp h1
  exact List.mem_filter.mpr ⟨lw_in (tin_tables_1_7 w (List.mem_of_getElem? hi)), List.all_eq_true.mp wl_28_ok.2 w hw⟩
theorem tw_940 : Jvm.Cond.methodLink "PairMachineModel" 214 ⟨"PairMachineModel", "makeOf", "(II)I"⟩ ∈ gTS := wl_28_in _ (List.mem_of_getElem? (i := 0) rfl)
theorem tw_941 : Jvm.Cond.instanceMethod ⟨"PairMachineModel", "makeOf", "(II)I"⟩ ∈ gTS := wl_28_in _ (List.mem_of_getElem? (i := 1) rfl)
theorem tw_943 : Jvm.Cond.code ⟨"PairMachineModel", "mark", "(II)V"⟩ prog_13_method_36_code 3 (Option.none : Option Jvm.ClassFile.FieldType) ∈ gTS := wl_28_in _ (List.mem_of_getElem? (i := 2) rfl)
theorem tw_944 : Jvm.Cond.methodLink "PairMachineModel" 217 ⟨"PairMachineModel", "mark", "(II)V"⟩ ∈ gTS := wl_28_in _ (List.mem_of_getElem? (i := 3) rfl)
theorem tw_945 : Jvm.Cond.instanceMethod ⟨"PairMachineModel", "mark", "(II)V"⟩ ∈ gTS := wl_28_in _ (List.mem_of_getElem? (i := 4) rfl)
theorem tw_947 : Jvm.Cond.code ⟨"PairMachineModel", "reach", "()I"⟩ prog_13_method_37_code 3 (Option.some Jvm.ClassFile.FieldType.int) ∈ gTS := wl_28_in _ (List.mem_of_getElem? (i := 5) rfl)
theorem tw_948 : Jvm.Cond.methodLink "PairMachineModel" 220 ⟨"PairMachineModel", "reach", "()I"⟩ ∈ gTS := wl_28_in _ (List.mem_of_getElem? (i := 6) rfl)
theorem tw_949 : Jvm.Cond.instanceMethod ⟨"PairMachineModel", "reach", "()I"⟩ ∈ gTS := wl_28_in _ (List.mem_of_getElem? (i := 7) rfl)
theorem tw_951 : Jvm.Cond.code ⟨"PairMachineModel", "read", "()Z"⟩ prog_13_method_19_code 6 (Option.some Jvm.ClassFile.FieldType.boolean) ∈ gTS := wl_28_in _ (List.mem_of_getElem? (i := 8) rfl)
theorem tw_952 : Jvm.Cond.methodLink "PairMachineModel" 224 ⟨"PairMachineModel", "read", "()Z"⟩ ∈ gTS := wl_28_in _ (List.mem_of_getElem? (i := 9) rfl)
theorem tw_953 : Jvm.Cond.instanceMethod ⟨"PairMachineModel", "read", "()Z"⟩ ∈ gTS := wl_28_in _ (List.mem_of_getElem? (i := 10) rfl)
theorem tw_955 : Jvm.Cond.code ⟨"PairMachineModel", "firstUnknown", "()I"⟩ prog_13_method_22_code 2 (Option.some Jvm.ClassFile.FieldType.int) ∈ gTS := wl_28_in _ (List.mem_of_getElem? (i := 11) rfl)
theorem tw_956 : Jvm.Cond.methodLink "PairMachineModel" 227 ⟨"PairMachineModel", "firstUnknown", "()I"⟩ ∈ gTS := wl_28_in _ (List.mem_of_getElem? (i := 12) rfl)
theorem tw_957 : Jvm.Cond.instanceMethod ⟨"PairMachineModel", "firstUnknown", "()I"⟩ ∈ gTS := wl_28_in _ (List.mem_of_getElem? (i := 13) rfl)
theorem tw_959 : Jvm.Cond.code ⟨"PairMachineModel", "writeCode", "()V"⟩ prog_13_method_31_code 1 (Option.none : Option Jvm.ClassFile.FieldType) ∈ gTS := wl_28_in _ (List.mem_of_getElem? (i := 14) rfl)
theorem tw_960 : Jvm.Cond.methodLink "PairMachineModel" 230 ⟨"PairMachineModel", "writeCode", "()V"⟩ ∈ gTS := wl_28_in _ (List.mem_of_getElem? (i := 15) rfl)
theorem tw_961 : Jvm.Cond.instanceMethod ⟨"PairMachineModel", "writeCode", "()V"⟩ ∈ gTS := wl_28_in _ (List.mem_of_getElem? (i := 16) rfl)
theorem tw_963 : Jvm.Cond.code ⟨"PairMachineModel", "lay", "()I"⟩ prog_13_method_35_code 3 (Option.some Jvm.ClassFile.FieldType.int) ∈ gTS := wl_28_in _ (List.mem_of_getElem? (i := 17) rfl)
theorem tw_964 : Jvm.Cond.methodLink "PairMachineModel" 233 ⟨"PairMachineModel", "lay", "()I"⟩ ∈ gTS := wl_28_in _ (List.mem_of_getElem? (i := 18) rfl)
theorem tw_965 : Jvm.Cond.instanceMethod ⟨"PairMachineModel", "lay", "()I"⟩ ∈ gTS := wl_28_in _ (List.mem_of_getElem? (i := 19) rfl)
theorem tw_972 : Jvm.Cond.code ⟨"PairMachineModel", "sweep", "()I"⟩ prog_13_method_38_code 4 (Option.some Jvm.ClassFile.FieldType.int) ∈ gTS := wl_28_in _ (List.mem_of_getElem? (i := 20) rfl)
theorem tw_973 : Jvm.Cond.methodLink "PairMachineModel" 252 ⟨"PairMachineModel", "sweep", "()I"⟩ ∈ gTS := wl_28_in _ (List.mem_of_getElem? (i := 21) rfl)
theorem tw_974 : Jvm.Cond.instanceMethod ⟨"PairMachineModel", "sweep", "()I"⟩ ∈ gTS := wl_28_in _ (List.mem_of_getElem? (i := 22) rfl)
theorem tw_976 : Jvm.Cond.code ⟨"PairMachineModel", "rest", "(I)I"⟩ prog_13_method_43_code 2 (Option.some Jvm.ClassFile.FieldType.int) ∈ gTS := wl_28_in _ (List.mem_of_getElem? (i := 23) rfl)
theorem tw_977 : Jvm.Cond.methodLink "PairMachineModel" 255 ⟨"PairMachineModel", "rest", "(I)I"⟩ ∈ gTS := wl_28_in _ (List.mem_of_getElem? (i := 24) rfl)
def wl_29 : List Cond := [.instanceMethod ⟨"PairMachineModel", "rest", "(I)I"⟩, .code ⟨"PairMachineModel", "free", "()I"⟩ prog_13_method_32_code 3 (Option.some Jvm.ClassFile.FieldType.int), .methodLink "PairMachineModel" 264 ⟨"PairMachineModel", "free", "()I"⟩, .instanceMethod ⟨"PairMachineModel", "free", "()I"⟩, .code ⟨"PairMachineModel", "needs", "(I)I"⟩ prog_13_method_42_code 1 (Option.some Jvm.ClassFile.FieldType.int), .methodLink "PairMachineModel" 267 ⟨"PairMachineModel", "needs", "(I)I"⟩, .static ⟨"PairMachineModel", "needs", "(I)I"⟩, .code ⟨"PairMachineModel", "stop", "(I)V"⟩ prog_13_method_50_code 2 (Option.none : Option Jvm.ClassFile.FieldType), .methodLink "PairMachineModel" 270 ⟨"PairMachineModel", "stop", "(I)V"⟩, .instanceMethod ⟨"PairMachineModel", "stop", "(I)V"⟩, .code ⟨"PairMachineModel", "push", "(II)V"⟩ prog_13_method_47_code 3 (Option.none : Option Jvm.ClassFile.FieldType), .methodLink "PairMachineModel" 273 ⟨"PairMachineModel", "push", "(II)V"⟩, .instanceMethod ⟨"PairMachineModel", "push", "(II)V"⟩, .code ⟨"PairMachineModel", "look", "(II)V"⟩ prog_13_method_52_code 6 (Option.none : Option Jvm.ClassFile.FieldType), .methodLink "PairMachineModel" 276 ⟨"PairMachineModel", "look", "(II)V"⟩, .instanceMethod ⟨"PairMachineModel", "look", "(II)V"⟩, .code ⟨"PairMachineModel", "headList", "(I)I"⟩ prog_13_method_44_code 2 (Option.some Jvm.ClassFile.FieldType.int), .methodLink "PairMachineModel" 279 ⟨"PairMachineModel", "headList", "(I)I"⟩, .instanceMethod ⟨"PairMachineModel", "headList", "(I)I"⟩, .code ⟨"PairMachineModel", "call", "(ZI)V"⟩ prog_13_method_53_code 7 (Option.none : Option Jvm.ClassFile.FieldType), .methodLink "PairMachineModel" 282 ⟨"PairMachineModel", "call", "(ZI)V"⟩, .instanceMethod ⟨"PairMachineModel", "call", "(ZI)V"⟩, .code ⟨"PairMachineModel", "comeBack", "()V"⟩ prog_13_method_54_code 2 (Option.none : Option Jvm.ClassFile.FieldType), .methodLink "PairMachineModel" 286 ⟨"PairMachineModel", "comeBack", "()V"⟩, .instanceMethod ⟨"PairMachineModel", "comeBack", "()V"⟩]
theorem wl_29_ok : wl_29 = [162, 152, 149, 151, 155, 153, 154, 159, 156, 158, 167, 164, 166, 171, 168, 170, 175, 172, 174, 179, 176, 178, 195, 192, 194].filterMap (fun i => tables_1_7[i]?) ∧ wl_29.all mj_gw = true := by decide +kernel
theorem wl_29_in : ∀ w ∈ wl_29, w ∈ gTS := fun w hw => by
  have h1 := hw
  rw [wl_29_ok.1] at h1
  obtain ⟨i, -, hi⟩ := List.mem_filterMap.mp h1
  exact List.mem_filter.mpr ⟨lw_in (tin_tables_1_7 w (List.mem_of_getElem? hi)), List.all_eq_true.mp wl_29_ok.2 w hw⟩
theorem tw_978 : Jvm.Cond.instanceMethod ⟨"PairMachineModel", "rest", "(I)I"⟩ ∈ gTS := wl_29_in _ (List.mem_of_getElem? (i := 0) rfl)
theorem tw_982 : Jvm.Cond.code ⟨"PairMachineModel", "free", "()I"⟩ prog_13_method_32_code 3 (Option.some Jvm.ClassFile.FieldType.int) ∈ gTS := wl_29_in _ (List.mem_of_getElem? (i := 1) rfl)
theorem tw_983 : Jvm.Cond.methodLink "PairMachineModel" 264 ⟨"PairMachineModel", "free", "()I"⟩ ∈ gTS := wl_29_in _ (List.mem_of_getElem? (i := 2) rfl)
theorem tw_984 : Jvm.Cond.instanceMethod ⟨"PairMachineModel", "free", "()I"⟩ ∈ gTS := wl_29_in _ (List.mem_of_getElem? (i := 3) rfl)
theorem tw_986 : Jvm.Cond.code ⟨"PairMachineModel", "needs", "(I)I"⟩ prog_13_method_42_code 1 (Option.some Jvm.ClassFile.FieldType.int) ∈ gTS := wl_29_in _ (List.mem_of_getElem? (i := 4) rfl)
theorem tw_987 : Jvm.Cond.methodLink "PairMachineModel" 267 ⟨"PairMachineModel", "needs", "(I)I"⟩ ∈ gTS := wl_29_in _ (List.mem_of_getElem? (i := 5) rfl)
theorem tw_988 : Jvm.Cond.static ⟨"PairMachineModel", "needs", "(I)I"⟩ ∈ gTS := wl_29_in _ (List.mem_of_getElem? (i := 6) rfl)
theorem tw_989 : Jvm.Cond.code ⟨"PairMachineModel", "stop", "(I)V"⟩ prog_13_method_50_code 2 (Option.none : Option Jvm.ClassFile.FieldType) ∈ gTS := wl_29_in _ (List.mem_of_getElem? (i := 7) rfl)
theorem tw_990 : Jvm.Cond.methodLink "PairMachineModel" 270 ⟨"PairMachineModel", "stop", "(I)V"⟩ ∈ gTS := wl_29_in _ (List.mem_of_getElem? (i := 8) rfl)
theorem tw_991 : Jvm.Cond.instanceMethod ⟨"PairMachineModel", "stop", "(I)V"⟩ ∈ gTS := wl_29_in _ (List.mem_of_getElem? (i := 9) rfl)
theorem tw_993 : Jvm.Cond.code ⟨"PairMachineModel", "push", "(II)V"⟩ prog_13_method_47_code 3 (Option.none : Option Jvm.ClassFile.FieldType) ∈ gTS := wl_29_in _ (List.mem_of_getElem? (i := 10) rfl)
theorem tw_994 : Jvm.Cond.methodLink "PairMachineModel" 273 ⟨"PairMachineModel", "push", "(II)V"⟩ ∈ gTS := wl_29_in _ (List.mem_of_getElem? (i := 11) rfl)
theorem tw_995 : Jvm.Cond.instanceMethod ⟨"PairMachineModel", "push", "(II)V"⟩ ∈ gTS := wl_29_in _ (List.mem_of_getElem? (i := 12) rfl)
theorem tw_997 : Jvm.Cond.code ⟨"PairMachineModel", "look", "(II)V"⟩ prog_13_method_52_code 6 (Option.none : Option Jvm.ClassFile.FieldType) ∈ gTS := wl_29_in _ (List.mem_of_getElem? (i := 13) rfl)
theorem tw_998 : Jvm.Cond.methodLink "PairMachineModel" 276 ⟨"PairMachineModel", "look", "(II)V"⟩ ∈ gTS := wl_29_in _ (List.mem_of_getElem? (i := 14) rfl)
theorem tw_999 : Jvm.Cond.instanceMethod ⟨"PairMachineModel", "look", "(II)V"⟩ ∈ gTS := wl_29_in _ (List.mem_of_getElem? (i := 15) rfl)
theorem tw_1001 : Jvm.Cond.code ⟨"PairMachineModel", "headList", "(I)I"⟩ prog_13_method_44_code 2 (Option.some Jvm.ClassFile.FieldType.int) ∈ gTS := wl_29_in _ (List.mem_of_getElem? (i := 16) rfl)
theorem tw_1002 : Jvm.Cond.methodLink "PairMachineModel" 279 ⟨"PairMachineModel", "headList", "(I)I"⟩ ∈ gTS := wl_29_in _ (List.mem_of_getElem? (i := 17) rfl)
theorem tw_1003 : Jvm.Cond.instanceMethod ⟨"PairMachineModel", "headList", "(I)I"⟩ ∈ gTS := wl_29_in _ (List.mem_of_getElem? (i := 18) rfl)
theorem tw_1005 : Jvm.Cond.code ⟨"PairMachineModel", "call", "(ZI)V"⟩ prog_13_method_53_code 7 (Option.none : Option Jvm.ClassFile.FieldType) ∈ gTS := wl_29_in _ (List.mem_of_getElem? (i := 19) rfl)
theorem tw_1006 : Jvm.Cond.methodLink "PairMachineModel" 282 ⟨"PairMachineModel", "call", "(ZI)V"⟩ ∈ gTS := wl_29_in _ (List.mem_of_getElem? (i := 20) rfl)
theorem tw_1007 : Jvm.Cond.instanceMethod ⟨"PairMachineModel", "call", "(ZI)V"⟩ ∈ gTS := wl_29_in _ (List.mem_of_getElem? (i := 21) rfl)
theorem tw_1009 : Jvm.Cond.code ⟨"PairMachineModel", "comeBack", "()V"⟩ prog_13_method_54_code 2 (Option.none : Option Jvm.ClassFile.FieldType) ∈ gTS := wl_29_in _ (List.mem_of_getElem? (i := 22) rfl)
theorem tw_1010 : Jvm.Cond.methodLink "PairMachineModel" 286 ⟨"PairMachineModel", "comeBack", "()V"⟩ ∈ gTS := wl_29_in _ (List.mem_of_getElem? (i := 23) rfl)
theorem tw_1011 : Jvm.Cond.instanceMethod ⟨"PairMachineModel", "comeBack", "()V"⟩ ∈ gTS := wl_29_in _ (List.mem_of_getElem? (i := 24) rfl)
end
