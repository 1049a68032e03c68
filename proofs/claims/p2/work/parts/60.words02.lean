def wl_10 : List Cond := [.methodLink "PairMachine" 126 ⟨"PairMachine$Machine", "steps", "()I"⟩, .instanceMethod ⟨"PairMachine$Machine", "steps", "()I"⟩, .selects "PairMachine$Machine" ⟨"PairMachine$Machine", "steps", "()I"⟩ ⟨"PairMachine$Machine", "steps", "()I"⟩, .code ⟨"PairMachine$Machine", "stackLength", "()I"⟩ prog_5_method_33_code 1 (Option.some Jvm.ClassFile.FieldType.int), .methodLink "PairMachine" 129 ⟨"PairMachine$Machine", "stackLength", "()I"⟩, .instanceMethod ⟨"PairMachine$Machine", "stackLength", "()I"⟩, .selects "PairMachine$Machine" ⟨"PairMachine$Machine", "stackLength", "()I"⟩ ⟨"PairMachine$Machine", "stackLength", "()I"⟩, .code ⟨"PairMachine$Machine", "dumpLength", "()I"⟩ prog_5_method_34_code 1 (Option.some Jvm.ClassFile.FieldType.int), .methodLink "PairMachine" 132 ⟨"PairMachine$Machine", "dumpLength", "()I"⟩, .instanceMethod ⟨"PairMachine$Machine", "dumpLength", "()I"⟩, .selects "PairMachine$Machine" ⟨"PairMachine$Machine", "dumpLength", "()I"⟩ ⟨"PairMachine$Machine", "dumpLength", "()I"⟩, .code ⟨"PairMachine$Machine", "instruction", "()I"⟩ prog_5_method_26_code 1 (Option.some Jvm.ClassFile.FieldType.int), .methodLink "PairMachine" 135 ⟨"PairMachine$Machine", "instruction", "()I"⟩, .instanceMethod ⟨"PairMachine$Machine", "instruction", "()I"⟩, .selects "PairMachine$Machine" ⟨"PairMachine$Machine", "instruction", "()I"⟩ ⟨"PairMachine$Machine", "instruction", "()I"⟩, .code ⟨"PairMachine$Machine", "shownCode", "(I)I"⟩ prog_5_method_35_code 2 (Option.some Jvm.ClassFile.FieldType.int), .methodLink "PairMachine" 138 ⟨"PairMachine$Machine", "shownCode", "(I)I"⟩, .instanceMethod ⟨"PairMachine$Machine", "shownCode", "(I)I"⟩, .selects "PairMachine$Machine" ⟨"PairMachine$Machine", "shownCode", "(I)I"⟩ ⟨"PairMachine$Machine", "shownCode", "(I)I"⟩, .code ⟨"PairMachine$Text", "charactersIn", "(J)I"⟩ prog_9_method_4_code 5 (Option.some Jvm.ClassFile.FieldType.int), .methodLink "PairMachine$Text" 15 ⟨"PairMachine$Text", "charactersIn", "(J)I"⟩, .static ⟨"PairMachine$Text", "charactersIn", "(J)I"⟩, .code ⟨"PairMachine$Text", "codeIn", "(JI)I"⟩ prog_9_method_3_code 3 (Option.some Jvm.ClassFile.FieldType.int), .methodLink "PairMachine$Text" 23 ⟨"PairMachine$Text", "codeIn", "(JI)I"⟩, .static ⟨"PairMachine$Text", "codeIn", "(JI)I"⟩]
theorem wl_10_ok : wl_10 = [142, 143, 144, 149, 146, 147, 148, 164, 161, 162, 163, 172, 169, 170, 171, 187, 184, 185, 186, 64, 62, 63, 67, 65, 66].filterMap (fun i => tables_1_2[i]?) ∧ wl_10.all mj_gw = true := by decide +kernel
theorem wl_10_in : ∀ w ∈ wl_10, w ∈ gTS := fun w hw => by
  have h1 := hw
  rw [wl_10_ok.1] at h1
  obtain ⟨i, -, hi⟩ := List.mem_filterMap.mp h1
  exact List.mem_filter.mpr ⟨tin_tables_1_2 w (List.mem_of_getElem? hi), List.all_eq_true.mp wl_10_ok.2 w hw⟩
theorem tw_202 : Jvm.Cond.methodLink "PairMachine" 126 ⟨"PairMachine$Machine", "steps", "()I"⟩ ∈ gTS := wl_10_in _ (List.mem_of_getElem? (i := 0) rfl)
theorem tw_203 : Jvm.Cond.instanceMethod ⟨"PairMachine$Machine", "steps", "()I"⟩ ∈ gTS := wl_10_in _ (List.mem_of_getElem? (i := 1) rfl)
theorem tw_204 : Jvm.Cond.selects "PairMachine$Machine" ⟨"PairMachine$Machine", "steps", "()I"⟩ ⟨"PairMachine$Machine", "steps", "()I"⟩ ∈ gTS := wl_10_in _ (List.mem_of_getElem? (i := 2) rfl)
theorem tw_205 : Jvm.Cond.code ⟨"PairMachine$Machine", "stackLength", "()I"⟩ prog_5_method_33_code 1 (Option.some Jvm.ClassFile.FieldType.int) ∈ gTS := wl_10_in _ (List.mem_of_getElem? (i := 3) rfl)
theorem tw_206 : Jvm.Cond.methodLink "PairMachine" 129 ⟨"PairMachine$Machine", "stackLength", "()I"⟩ ∈ gTS := wl_10_in _ (List.mem_of_getElem? (i := 4) rfl)
theorem tw_207 : Jvm.Cond.instanceMethod ⟨"PairMachine$Machine", "stackLength", "()I"⟩ ∈ gTS := wl_10_in _ (List.mem_of_getElem? (i := 5) rfl)
theorem tw_208 : Jvm.Cond.selects "PairMachine$Machine" ⟨"PairMachine$Machine", "stackLength", "()I"⟩ ⟨"PairMachine$Machine", "stackLength", "()I"⟩ ∈ gTS := wl_10_in _ (List.mem_of_getElem? (i := 6) rfl)
theorem tw_209 : Jvm.Cond.code ⟨"PairMachine$Machine", "dumpLength", "()I"⟩ prog_5_method_34_code 1 (Option.some Jvm.ClassFile.FieldType.int) ∈ gTS := wl_10_in _ (List.mem_of_getElem? (i := 7) rfl)
theorem tw_210 : Jvm.Cond.methodLink "PairMachine" 132 ⟨"PairMachine$Machine", "dumpLength", "()I"⟩ ∈ gTS := wl_10_in _ (List.mem_of_getElem? (i := 8) rfl)
theorem tw_211 : Jvm.Cond.instanceMethod ⟨"PairMachine$Machine", "dumpLength", "()I"⟩ ∈ gTS := wl_10_in _ (List.mem_of_getElem? (i := 9) rfl)
theorem tw_212 : Jvm.Cond.selects "PairMachine$Machine" ⟨"PairMachine$Machine", "dumpLength", "()I"⟩ ⟨"PairMachine$Machine", "dumpLength", "()I"⟩ ∈ gTS := wl_10_in _ (List.mem_of_getElem? (i := 10) rfl)
theorem tw_213 : Jvm.Cond.code ⟨"PairMachine$Machine", "instruction", "()I"⟩ prog_5_method_26_code 1 (Option.some Jvm.ClassFile.FieldType.int) ∈ gTS := wl_10_in _ (List.mem_of_getElem? (i := 11) rfl)
theorem tw_214 : Jvm.Cond.methodLink "PairMachine" 135 ⟨"PairMachine$Machine", "instruction", "()I"⟩ ∈ gTS := wl_10_in _ (List.mem_of_getElem? (i := 12) rfl)
theorem tw_215 : Jvm.Cond.instanceMethod ⟨"PairMachine$Machine", "instruction", "()I"⟩ ∈ gTS := wl_10_in _ (List.mem_of_getElem? (i := 13) rfl)
theorem tw_216 : Jvm.Cond.selects "PairMachine$Machine" ⟨"PairMachine$Machine", "instruction", "()I"⟩ ⟨"PairMachine$Machine", "instruction", "()I"⟩ ∈ gTS := wl_10_in _ (List.mem_of_getElem? (i := 14) rfl)
theorem tw_217 : Jvm.Cond.code ⟨"PairMachine$Machine", "shownCode", "(I)I"⟩ prog_5_method_35_code 2 (Option.some Jvm.ClassFile.FieldType.int) ∈ gTS := wl_10_in _ (List.mem_of_getElem? (i := 15) rfl)
theorem tw_218 : Jvm.Cond.methodLink "PairMachine" 138 ⟨"PairMachine$Machine", "shownCode", "(I)I"⟩ ∈ gTS := wl_10_in _ (List.mem_of_getElem? (i := 16) rfl)
theorem tw_219 : Jvm.Cond.instanceMethod ⟨"PairMachine$Machine", "shownCode", "(I)I"⟩ ∈ gTS := wl_10_in _ (List.mem_of_getElem? (i := 17) rfl)
theorem tw_220 : Jvm.Cond.selects "PairMachine$Machine" ⟨"PairMachine$Machine", "shownCode", "(I)I"⟩ ⟨"PairMachine$Machine", "shownCode", "(I)I"⟩ ∈ gTS := wl_10_in _ (List.mem_of_getElem? (i := 18) rfl)
theorem tw_224 : Jvm.Cond.code ⟨"PairMachine$Text", "charactersIn", "(J)I"⟩ prog_9_method_4_code 5 (Option.some Jvm.ClassFile.FieldType.int) ∈ gTS := wl_10_in _ (List.mem_of_getElem? (i := 19) rfl)
theorem tw_225 : Jvm.Cond.methodLink "PairMachine$Text" 15 ⟨"PairMachine$Text", "charactersIn", "(J)I"⟩ ∈ gTS := wl_10_in _ (List.mem_of_getElem? (i := 20) rfl)
theorem tw_226 : Jvm.Cond.static ⟨"PairMachine$Text", "charactersIn", "(J)I"⟩ ∈ gTS := wl_10_in _ (List.mem_of_getElem? (i := 21) rfl)
theorem tw_228 : Jvm.Cond.code ⟨"PairMachine$Text", "codeIn", "(JI)I"⟩ prog_9_method_3_code 3 (Option.some Jvm.ClassFile.FieldType.int) ∈ gTS := wl_10_in _ (List.mem_of_getElem? (i := 22) rfl)
theorem tw_229 : Jvm.Cond.methodLink "PairMachine$Text" 23 ⟨"PairMachine$Text", "codeIn", "(JI)I"⟩ ∈ gTS := wl_10_in _ (List.mem_of_getElem? (i := 23) rfl)
theorem tw_230 : Jvm.Cond.static ⟨"PairMachine$Text", "codeIn", "(JI)I"⟩ ∈ gTS := wl_10_in _ (List.mem_of_getElem? (i := 24) rfl)
def wl_11 : List Cond := [.code ⟨"PairMachine$Value", "pair", "(I)J"⟩ prog_11_method_4_code 1 (Option.some Jvm.ClassFile.FieldType.long), .static ⟨"PairMachine$Value", "pair", "(I)J"⟩, .fieldLink "PairMachine$Machine" 14 "PairMachine$Machine" "store" "LPairMachine$Store;", .fieldLink "PairMachine$Machine" 25 "PairMachine$Machine" "display" "LPairMachine$Display;", .fieldLink "PairMachine$Machine" 29 "PairMachine$Machine" "mode" "I", .code ⟨"PairMachine$Machine", "setRegisters", "(J)V"⟩ prog_5_method_4_code 3 (Option.none : Option Jvm.ClassFile.FieldType), .methodLink "PairMachine$Machine" 39 ⟨"PairMachine$Machine", "setRegisters", "(J)V"⟩, .instanceMethod ⟨"PairMachine$Machine", "setRegisters", "(J)V"⟩, .code ⟨"PairMachine$Store", "code", "()J"⟩ prog_8_method_4_code 1 (Option.some Jvm.ClassFile.FieldType.long), .methodLink "PairMachine$Machine" 43 ⟨"PairMachine$Store", "code", "()J"⟩, .instanceMethod ⟨"PairMachine$Store", "code", "()J"⟩, .selects "PairMachine$Store" ⟨"PairMachine$Store", "code", "()J"⟩ ⟨"PairMachine$Store", "code", "()J"⟩, .code ⟨"PairMachine$Store", "freeAllButCode", "()V"⟩ prog_8_method_3_code 2 (Option.none : Option Jvm.ClassFile.FieldType), .methodLink "PairMachine$Machine" 47 ⟨"PairMachine$Store", "freeAllButCode", "()V"⟩, .instanceMethod ⟨"PairMachine$Store", "freeAllButCode", "()V"⟩, .selects "PairMachine$Store" ⟨"PairMachine$Store", "freeAllButCode", "()V"⟩ ⟨"PairMachine$Store", "freeAllButCode", "()V"⟩, .fieldLink "PairMachine$Machine" 50 "PairMachine$Machine" "collections" "I", .fieldLink "PairMachine$Machine" 53 "PairMachine$Machine" "takenBack" "I", .fieldLink "PairMachine$Machine" 56 "PairMachine$Machine" "steps" "I", .fieldLink "PairMachine$Machine" 59 "PairMachine$Machine" "s" "J", .fieldLink "PairMachine$Machine" 63 "PairMachine$Machine" "e" "J", .fieldLink "PairMachine$Machine" 66 "PairMachine$Machine" "c" "J", .fieldLink "PairMachine$Machine" 69 "PairMachine$Machine" "d" "J", .code ⟨"PairMachine$Store", "mark", "(JJJJ)I"⟩ prog_8_method_15_code 10 (Option.some Jvm.ClassFile.FieldType.int), .methodLink "PairMachine$Machine" 92 ⟨"PairMachine$Store", "mark", "(JJJJ)I"⟩]
theorem wl_11_ok : wl_11 = [86, 85, 1, 2, 7, 96, 93, 95, 83, 80, 81, 82, 92, 89, 90, 91, 8, 9, 10, 3, 4, 5, 6, 124, 121].filterMap (fun i => tables_1_2[i]?) ∧ wl_11.all mj_gw = true := by decide +kernel
theorem wl_11_in : ∀ w ∈ wl_11, w ∈ gTS := fun w hw => by
  have h1 := hw
  rw [wl_11_ok.1] at h1
  obtain ⟨i, -, hi⟩ := List.mem_filterMap.mp h1
  exact List.mem_filter.mpr ⟨tin_tables_1_2 w (List.mem_of_getElem? hi), List.all_eq_true.mp wl_11_ok.2 w hw⟩
theorem tw_371 : Jvm.Cond.code ⟨"PairMachine$Value", "pair", "(I)J"⟩ prog_11_method_4_code 1 (Option.some Jvm.ClassFile.FieldType.long) ∈ gTS := wl_11_in _ (List.mem_of_getElem? (i := 0) rfl)
theorem tw_374 : Jvm.Cond.static ⟨"PairMachine$Value", "pair", "(I)J"⟩ ∈ gTS := wl_11_in _ (List.mem_of_getElem? (i := 1) rfl)
theorem tw_513 : Jvm.Cond.fieldLink "PairMachine$Machine" 14 "PairMachine$Machine" "store" "LPairMachine$Store;" ∈ gTS := wl_11_in _ (List.mem_of_getElem? (i := 2) rfl)
theorem tw_520 : Jvm.Cond.fieldLink "PairMachine$Machine" 25 "PairMachine$Machine" "display" "LPairMachine$Display;" ∈ gTS := wl_11_in _ (List.mem_of_getElem? (i := 3) rfl)
theorem tw_521 : Jvm.Cond.fieldLink "PairMachine$Machine" 29 "PairMachine$Machine" "mode" "I" ∈ gTS := wl_11_in _ (List.mem_of_getElem? (i := 4) rfl)
theorem tw_526 : Jvm.Cond.code ⟨"PairMachine$Machine", "setRegisters", "(J)V"⟩ prog_5_method_4_code 3 (Option.none : Option Jvm.ClassFile.FieldType) ∈ gTS := wl_11_in _ (List.mem_of_getElem? (i := 5) rfl)
theorem tw_527 : Jvm.Cond.methodLink "PairMachine$Machine" 39 ⟨"PairMachine$Machine", "setRegisters", "(J)V"⟩ ∈ gTS := wl_11_in _ (List.mem_of_getElem? (i := 6) rfl)
theorem tw_528 : Jvm.Cond.instanceMethod ⟨"PairMachine$Machine", "setRegisters", "(J)V"⟩ ∈ gTS := wl_11_in _ (List.mem_of_getElem? (i := 7) rfl)
theorem tw_530 : Jvm.Cond.code ⟨"PairMachine$Store", "code", "()J"⟩ prog_8_method_4_code 1 (Option.some Jvm.ClassFile.FieldType.long) ∈ gTS := wl_11_in _ (List.mem_of_getElem? (i := 8) rfl)
theorem tw_531 : Jvm.Cond.methodLink "PairMachine$Machine" 43 ⟨"PairMachine$Store", "code", "()J"⟩ ∈ gTS := wl_11_in _ (List.mem_of_getElem? (i := 9) rfl)
theorem tw_532 : Jvm.Cond.instanceMethod ⟨"PairMachine$Store", "code", "()J"⟩ ∈ gTS := wl_11_in _ (List.mem_of_getElem? (i := 10) rfl)
theorem tw_533 : Jvm.Cond.selects "PairMachine$Store" ⟨"PairMachine$Store", "code", "()J"⟩ ⟨"PairMachine$Store", "code", "()J"⟩ ∈ gTS := wl_11_in _ (List.mem_of_getElem? (i := 11) rfl)
theorem tw_534 : Jvm.Cond.code ⟨"PairMachine$Store", "freeAllButCode", "()V"⟩ prog_8_method_3_code 2 (Option.none : Option Jvm.ClassFile.FieldType) ∈ gTS := wl_11_in _ (List.mem_of_getElem? (i := 12) rfl)
theorem tw_535 : Jvm.Cond.methodLink "PairMachine$Machine" 47 ⟨"PairMachine$Store", "freeAllButCode", "()V"⟩ ∈ gTS := wl_11_in _ (List.mem_of_getElem? (i := 13) rfl)
theorem tw_536 : Jvm.Cond.instanceMethod ⟨"PairMachine$Store", "freeAllButCode", "()V"⟩ ∈ gTS := wl_11_in _ (List.mem_of_getElem? (i := 14) rfl)
theorem tw_537 : Jvm.Cond.selects "PairMachine$Store" ⟨"PairMachine$Store", "freeAllButCode", "()V"⟩ ⟨"PairMachine$Store", "freeAllButCode", "()V"⟩ ∈ gTS := wl_11_in _ (List.mem_of_getElem? (i := 15) rfl)
theorem tw_538 : Jvm.Cond.fieldLink "PairMachine$Machine" 50 "PairMachine$Machine" "collections" "I" ∈ gTS := wl_11_in _ (List.mem_of_getElem? (i := 16) rfl)
theorem tw_539 : Jvm.Cond.fieldLink "PairMachine$Machine" 53 "PairMachine$Machine" "takenBack" "I" ∈ gTS := wl_11_in _ (List.mem_of_getElem? (i := 17) rfl)
theorem tw_540 : Jvm.Cond.fieldLink "PairMachine$Machine" 56 "PairMachine$Machine" "steps" "I" ∈ gTS := wl_11_in _ (List.mem_of_getElem? (i := 18) rfl)
theorem tw_541 : Jvm.Cond.fieldLink "PairMachine$Machine" 59 "PairMachine$Machine" "s" "J" ∈ gTS := wl_11_in _ (List.mem_of_getElem? (i := 19) rfl)
theorem tw_542 : Jvm.Cond.fieldLink "PairMachine$Machine" 63 "PairMachine$Machine" "e" "J" ∈ gTS := wl_11_in _ (List.mem_of_getElem? (i := 20) rfl)
theorem tw_543 : Jvm.Cond.fieldLink "PairMachine$Machine" 66 "PairMachine$Machine" "c" "J" ∈ gTS := wl_11_in _ (List.mem_of_getElem? (i := 21) rfl)
theorem tw_544 : Jvm.Cond.fieldLink "PairMachine$Machine" 69 "PairMachine$Machine" "d" "J" ∈ gTS := wl_11_in _ (List.mem_of_getElem? (i := 22) rfl)
theorem tw_561 : Jvm.Cond.code ⟨"PairMachine$Store", "mark", "(JJJJ)I"⟩ prog_8_method_15_code 10 (Option.some Jvm.ClassFile.FieldType.int) ∈ gTS := wl_11_in _ (List.mem_of_getElem? (i := 23) rfl)
theorem tw_562 : Jvm.Cond.methodLink "PairMachine$Machine" 92 ⟨"PairMachine$Store", "mark", "(JJJJ)I"⟩ ∈ gTS := wl_11_in _ (List.mem_of_getElem? (i := 24) rfl)
def wl_12 : List Cond := [.instanceMethod ⟨"PairMachine$Store", "mark", "(JJJJ)I"⟩, .selects "PairMachine$Store" ⟨"PairMachine$Store", "mark", "(JJJJ)I"⟩ ⟨"PairMachine$Store", "mark", "(JJJJ)I"⟩, .code ⟨"PairMachine$Store", "tail", "(J)J"⟩ prog_8_method_11_code 4 (Option.some Jvm.ClassFile.FieldType.long), .instanceMethod ⟨"PairMachine$Store", "tail", "(J)J"⟩, .selects "PairMachine$Store" ⟨"PairMachine$Store", "tail", "(J)J"⟩ ⟨"PairMachine$Store", "tail", "(J)J"⟩, .code ⟨"PairMachine$Store", "head", "(J)J"⟩ prog_8_method_10_code 4 (Option.some Jvm.ClassFile.FieldType.long), .methodLink "PairMachine$Machine" 149 ⟨"PairMachine$Store", "head", "(J)J"⟩, .instanceMethod ⟨"PairMachine$Store", "head", "(J)J"⟩, .selects "PairMachine$Store" ⟨"PairMachine$Store", "head", "(J)J"⟩ ⟨"PairMachine$Store", "head", "(J)J"⟩, .code ⟨"PairMachine$Value", "content", "(J)I"⟩ prog_11_method_11_code 2 (Option.some Jvm.ClassFile.FieldType.int), .methodLink "PairMachine$Machine" 156 ⟨"PairMachine$Value", "content", "(J)I"⟩, .static ⟨"PairMachine$Value", "content", "(J)I"⟩, .code ⟨"PairMachine$Value", "isPair", "(J)Z"⟩ prog_11_method_7_code 2 (Option.some Jvm.ClassFile.FieldType.boolean), .static ⟨"PairMachine$Value", "isPair", "(J)Z"⟩, .code ⟨"PairMachine$Value", "cell", "(J)I"⟩ prog_11_method_10_code 2 (Option.some Jvm.ClassFile.FieldType.int), .static ⟨"PairMachine$Value", "cell", "(J)I"⟩, .code ⟨"PairMachine$Store", "usedCells", "()I"⟩ prog_8_method_6_code 1 (Option.some Jvm.ClassFile.FieldType.int), .methodLink "PairMachine$Machine" 202 ⟨"PairMachine$Store", "usedCells", "()I"⟩, .instanceMethod ⟨"PairMachine$Store", "usedCells", "()I"⟩, .selects "PairMachine$Store" ⟨"PairMachine$Store", "usedCells", "()I"⟩ ⟨"PairMachine$Store", "usedCells", "()I"⟩, .code ⟨"PairMachine$Store", "length", "(J)I"⟩ prog_8_method_14_code 6 (Option.some Jvm.ClassFile.FieldType.int), .methodLink "PairMachine$Machine" 205 ⟨"PairMachine$Store", "length", "(J)I"⟩, .instanceMethod ⟨"PairMachine$Store", "length", "(J)I"⟩, .selects "PairMachine$Store" ⟨"PairMachine$Store", "length", "(J)I"⟩ ⟨"PairMachine$Store", "length", "(J)I"⟩, .code ⟨"PairMachine$Display", "codeAt", "(I)I"⟩ prog_4_method_5_code 2 (Option.some Jvm.ClassFile.FieldType.int)]
theorem wl_12_ok : wl_12 = [122, 123, 160, 158, 159, 176, 173, 174, 175, 179, 177, 178, 156, 155, 131, 130, 116, 113, 114, 115, 153, 150, 151, 152, 191].filterMap (fun i => tables_1_2[i]?) ∧ wl_12.all mj_gw = true := by decide +kernel
theorem wl_12_in : ∀ w ∈ wl_12, w ∈ gTS := fun w hw => by
  have h1 := hw
  rw [wl_12_ok.1] at h1
  obtain ⟨i, -, hi⟩ := List.mem_filterMap.mp h1
  exact List.mem_filter.mpr ⟨tin_tables_1_2 w (List.mem_of_getElem? hi), List.all_eq_true.mp wl_12_ok.2 w hw⟩
theorem tw_563 : Jvm.Cond.instanceMethod ⟨"PairMachine$Store", "mark", "(JJJJ)I"⟩ ∈ gTS := wl_12_in _ (List.mem_of_getElem? (i := 0) rfl)
theorem tw_564 : Jvm.Cond.selects "PairMachine$Store" ⟨"PairMachine$Store", "mark", "(JJJJ)I"⟩ ⟨"PairMachine$Store", "mark", "(JJJJ)I"⟩ ∈ gTS := wl_12_in _ (List.mem_of_getElem? (i := 1) rfl)
theorem tw_629 : Jvm.Cond.code ⟨"PairMachine$Store", "tail", "(J)J"⟩ prog_8_method_11_code 4 (Option.some Jvm.ClassFile.FieldType.long) ∈ gTS := wl_12_in _ (List.mem_of_getElem? (i := 2) rfl)
theorem tw_631 : Jvm.Cond.instanceMethod ⟨"PairMachine$Store", "tail", "(J)J"⟩ ∈ gTS := wl_12_in _ (List.mem_of_getElem? (i := 3) rfl)
theorem tw_632 : Jvm.Cond.selects "PairMachine$Store" ⟨"PairMachine$Store", "tail", "(J)J"⟩ ⟨"PairMachine$Store", "tail", "(J)J"⟩ ∈ gTS := wl_12_in _ (List.mem_of_getElem? (i := 4) rfl)
theorem tw_633 : Jvm.Cond.code ⟨"PairMachine$Store", "head", "(J)J"⟩ prog_8_method_10_code 4 (Option.some Jvm.ClassFile.FieldType.long) ∈ gTS := wl_12_in _ (List.mem_of_getElem? (i := 5) rfl)
theorem tw_634 : Jvm.Cond.methodLink "PairMachine$Machine" 149 ⟨"PairMachine$Store", "head", "(J)J"⟩ ∈ gTS := wl_12_in _ (List.mem_of_getElem? (i := 6) rfl)
theorem tw_635 : Jvm.Cond.instanceMethod ⟨"PairMachine$Store", "head", "(J)J"⟩ ∈ gTS := wl_12_in _ (List.mem_of_getElem? (i := 7) rfl)
theorem tw_636 : Jvm.Cond.selects "PairMachine$Store" ⟨"PairMachine$Store", "head", "(J)J"⟩ ⟨"PairMachine$Store", "head", "(J)J"⟩ ∈ gTS := wl_12_in _ (List.mem_of_getElem? (i := 8) rfl)
theorem tw_641 : Jvm.Cond.code ⟨"PairMachine$Value", "content", "(J)I"⟩ prog_11_method_11_code 2 (Option.some Jvm.ClassFile.FieldType.int) ∈ gTS := wl_12_in _ (List.mem_of_getElem? (i := 9) rfl)
theorem tw_642 : Jvm.Cond.methodLink "PairMachine$Machine" 156 ⟨"PairMachine$Value", "content", "(J)I"⟩ ∈ gTS := wl_12_in _ (List.mem_of_getElem? (i := 10) rfl)
theorem tw_643 : Jvm.Cond.static ⟨"PairMachine$Value", "content", "(J)I"⟩ ∈ gTS := wl_12_in _ (List.mem_of_getElem? (i := 11) rfl)
theorem tw_648 : Jvm.Cond.code ⟨"PairMachine$Value", "isPair", "(J)Z"⟩ prog_11_method_7_code 2 (Option.some Jvm.ClassFile.FieldType.boolean) ∈ gTS := wl_12_in _ (List.mem_of_getElem? (i := 12) rfl)
theorem tw_650 : Jvm.Cond.static ⟨"PairMachine$Value", "isPair", "(J)Z"⟩ ∈ gTS := wl_12_in _ (List.mem_of_getElem? (i := 13) rfl)
theorem tw_674 : Jvm.Cond.code ⟨"PairMachine$Value", "cell", "(J)I"⟩ prog_11_method_10_code 2 (Option.some Jvm.ClassFile.FieldType.int) ∈ gTS := wl_12_in _ (List.mem_of_getElem? (i := 14) rfl)
theorem tw_676 : Jvm.Cond.static ⟨"PairMachine$Value", "cell", "(J)I"⟩ ∈ gTS := wl_12_in _ (List.mem_of_getElem? (i := 15) rfl)
theorem tw_684 : Jvm.Cond.code ⟨"PairMachine$Store", "usedCells", "()I"⟩ prog_8_method_6_code 1 (Option.some Jvm.ClassFile.FieldType.int) ∈ gTS := wl_12_in _ (List.mem_of_getElem? (i := 16) rfl)
theorem tw_685 : Jvm.Cond.methodLink "PairMachine$Machine" 202 ⟨"PairMachine$Store", "usedCells", "()I"⟩ ∈ gTS := wl_12_in _ (List.mem_of_getElem? (i := 17) rfl)
theorem tw_686 : Jvm.Cond.instanceMethod ⟨"PairMachine$Store", "usedCells", "()I"⟩ ∈ gTS := wl_12_in _ (List.mem_of_getElem? (i := 18) rfl)
theorem tw_687 : Jvm.Cond.selects "PairMachine$Store" ⟨"PairMachine$Store", "usedCells", "()I"⟩ ⟨"PairMachine$Store", "usedCells", "()I"⟩ ∈ gTS := wl_12_in _ (List.mem_of_getElem? (i := 19) rfl)
theorem tw_688 : Jvm.Cond.code ⟨"PairMachine$Store", "length", "(J)I"⟩ prog_8_method_14_code 6 (Option.some Jvm.ClassFile.FieldType.int) ∈ gTS := wl_12_in _ (List.mem_of_getElem? (i := 20) rfl)
theorem tw_689 : Jvm.Cond.methodLink "PairMachine$Machine" 205 ⟨"PairMachine$Store", "length", "(J)I"⟩ ∈ gTS := wl_12_in _ (List.mem_of_getElem? (i := 21) rfl)
theorem tw_690 : Jvm.Cond.instanceMethod ⟨"PairMachine$Store", "length", "(J)I"⟩ ∈ gTS := wl_12_in _ (List.mem_of_getElem? (i := 22) rfl)
theorem tw_691 : Jvm.Cond.selects "PairMachine$Store" ⟨"PairMachine$Store", "length", "(J)I"⟩ ⟨"PairMachine$Store", "length", "(J)I"⟩ ∈ gTS := wl_12_in _ (List.mem_of_getElem? (i := 23) rfl)
theorem tw_692 : Jvm.Cond.code ⟨"PairMachine$Display", "codeAt", "(I)I"⟩ prog_4_method_5_code 2 (Option.some Jvm.ClassFile.FieldType.int) ∈ gTS := wl_12_in _ (List.mem_of_getElem? (i := 24) rfl)
def wl_13 : List Cond := [.methodLink "PairMachine$Machine" 208 ⟨"PairMachine$Display", "codeAt", "(I)I"⟩, .instanceMethod ⟨"PairMachine$Display", "codeAt", "(I)I"⟩, .selects "PairMachine$Display" ⟨"PairMachine$Display", "codeAt", "(I)I"⟩ ⟨"PairMachine$Display", "codeAt", "(I)I"⟩, .methodLink "PairMachine$Store" 61 ⟨"PairMachine$Value", "pair", "(I)J"⟩, .methodLink "PairMachine$Store" 73 ⟨"PairMachine$Value", "cell", "(J)I"⟩, .methodLink "PairMachine$Store" 77 ⟨"PairMachine$Value", "isPair", "(J)Z"⟩, .methodLink "PairMachine$Store" 81 ⟨"PairMachine$Store", "tail", "(J)J"⟩, .code ⟨"PairMachine$Store", "reach", "(J)V"⟩ prog_8_method_16_code 4 (Option.none : Option Jvm.ClassFile.FieldType), .methodLink "PairMachine$Store" 87 ⟨"PairMachine$Store", "reach", "(J)V"⟩, .instanceMethod ⟨"PairMachine$Store", "reach", "(J)V"⟩, .methodLink "PairMachine$Store" 91 ⟨"PairMachine$Store", "code", "()J"⟩, .constantLong "PairMachine$Value" 13 (4294967295), .constantLong "PairMachine$Value" 17 (12884901888), .constantLong "PairMachine$Value" 21 (3), .laysFinal "PairMachine" "PairMachine" "size" "I", .laysFinal "PairMachine" "PairMachine" "text" "LPairMachine$Text;", .laysFinal "PairMachine" "PairMachine" "reader" "LPairMachine$Reader;", .laysFinal "PairMachine" "PairMachine" "code" "LPairMachine$Code;", .laysFinal "PairMachine" "PairMachine" "coder" "LPairMachine$Coder;", .laysFinal "PairMachine" "PairMachine" "machine" "LPairMachine$Machine;", .lays "PairMachine" "PairMachine" "error" "I", .laysFinal "PairMachine$Machine" "PairMachine$Machine" "store" "LPairMachine$Store;", .laysFinal "PairMachine$Machine" "PairMachine$Machine" "display" "LPairMachine$Display;", .lays "PairMachine$Machine" "PairMachine$Machine" "s" "J", .lays "PairMachine$Machine" "PairMachine$Machine" "e" "J"]
theorem wl_13_ok : wl_13 = [188, 189, 190, 84, 129, 154, 157, 128, 125, 127, 133, 88, 87, 132, 39, 41, 43, 45, 47, 49, 51, 11, 13, 15, 17].filterMap (fun i => tables_1_2[i]?) ∧ wl_13.all mj_gw = true := by decide +kernel
theorem wl_13_in : ∀ w ∈ wl_13, w ∈ gTS := fun w hw => by
  have h1 := hw
  rw [wl_13_ok.1] at h1
  obtain ⟨i, -, hi⟩ := List.mem_filterMap.mp h1
  exact List.mem_filter.mpr ⟨tin_tables_1_2 w (List.mem_of_getElem? hi), List.all_eq_true.mp wl_13_ok.2 w hw⟩
theorem tw_693 : Jvm.Cond.methodLink "PairMachine$Machine" 208 ⟨"PairMachine$Display", "codeAt", "(I)I"⟩ ∈ gTS := wl_13_in _ (List.mem_of_getElem? (i := 0) rfl)
theorem tw_694 : Jvm.Cond.instanceMethod ⟨"PairMachine$Display", "codeAt", "(I)I"⟩ ∈ gTS := wl_13_in _ (List.mem_of_getElem? (i := 1) rfl)
theorem tw_695 : Jvm.Cond.selects "PairMachine$Display" ⟨"PairMachine$Display", "codeAt", "(I)I"⟩ ⟨"PairMachine$Display", "codeAt", "(I)I"⟩ ∈ gTS := wl_13_in _ (List.mem_of_getElem? (i := 2) rfl)
theorem tw_717 : Jvm.Cond.methodLink "PairMachine$Store" 61 ⟨"PairMachine$Value", "pair", "(I)J"⟩ ∈ gTS := wl_13_in _ (List.mem_of_getElem? (i := 3) rfl)
theorem tw_725 : Jvm.Cond.methodLink "PairMachine$Store" 73 ⟨"PairMachine$Value", "cell", "(J)I"⟩ ∈ gTS := wl_13_in _ (List.mem_of_getElem? (i := 4) rfl)
theorem tw_726 : Jvm.Cond.methodLink "PairMachine$Store" 77 ⟨"PairMachine$Value", "isPair", "(J)Z"⟩ ∈ gTS := wl_13_in _ (List.mem_of_getElem? (i := 5) rfl)
theorem tw_727 : Jvm.Cond.methodLink "PairMachine$Store" 81 ⟨"PairMachine$Store", "tail", "(J)J"⟩ ∈ gTS := wl_13_in _ (List.mem_of_getElem? (i := 6) rfl)
theorem tw_729 : Jvm.Cond.code ⟨"PairMachine$Store", "reach", "(J)V"⟩ prog_8_method_16_code 4 (Option.none : Option Jvm.ClassFile.FieldType) ∈ gTS := wl_13_in _ (List.mem_of_getElem? (i := 7) rfl)
theorem tw_730 : Jvm.Cond.methodLink "PairMachine$Store" 87 ⟨"PairMachine$Store", "reach", "(J)V"⟩ ∈ gTS := wl_13_in _ (List.mem_of_getElem? (i := 8) rfl)
theorem tw_731 : Jvm.Cond.instanceMethod ⟨"PairMachine$Store", "reach", "(J)V"⟩ ∈ gTS := wl_13_in _ (List.mem_of_getElem? (i := 9) rfl)
theorem tw_733 : Jvm.Cond.methodLink "PairMachine$Store" 91 ⟨"PairMachine$Store", "code", "()J"⟩ ∈ gTS := wl_13_in _ (List.mem_of_getElem? (i := 10) rfl)
theorem tw_764 : Jvm.Cond.constantLong "PairMachine$Value" 13 (4294967295) ∈ gTS := wl_13_in _ (List.mem_of_getElem? (i := 11) rfl)
theorem tw_766 : Jvm.Cond.constantLong "PairMachine$Value" 17 (12884901888) ∈ gTS := wl_13_in _ (List.mem_of_getElem? (i := 12) rfl)
theorem tw_768 : Jvm.Cond.constantLong "PairMachine$Value" 21 (3) ∈ gTS := wl_13_in _ (List.mem_of_getElem? (i := 13) rfl)
theorem tw_1048 : Jvm.Cond.laysFinal "PairMachine" "PairMachine" "size" "I" ∈ gTS := wl_13_in _ (List.mem_of_getElem? (i := 14) rfl)
theorem tw_1049 : Jvm.Cond.laysFinal "PairMachine" "PairMachine" "text" "LPairMachine$Text;" ∈ gTS := wl_13_in _ (List.mem_of_getElem? (i := 15) rfl)
theorem tw_1050 : Jvm.Cond.laysFinal "PairMachine" "PairMachine" "reader" "LPairMachine$Reader;" ∈ gTS := wl_13_in _ (List.mem_of_getElem? (i := 16) rfl)
theorem tw_1051 : Jvm.Cond.laysFinal "PairMachine" "PairMachine" "code" "LPairMachine$Code;" ∈ gTS := wl_13_in _ (List.mem_of_getElem? (i := 17) rfl)
theorem tw_1052 : Jvm.Cond.laysFinal "PairMachine" "PairMachine" "coder" "LPairMachine$Coder;" ∈ gTS := wl_13_in _ (List.mem_of_getElem? (i := 18) rfl)
theorem tw_1053 : Jvm.Cond.laysFinal "PairMachine" "PairMachine" "machine" "LPairMachine$Machine;" ∈ gTS := wl_13_in _ (List.mem_of_getElem? (i := 19) rfl)
theorem tw_1054 : Jvm.Cond.lays "PairMachine" "PairMachine" "error" "I" ∈ gTS := wl_13_in _ (List.mem_of_getElem? (i := 20) rfl)
theorem tw_1077 : Jvm.Cond.laysFinal "PairMachine$Machine" "PairMachine$Machine" "store" "LPairMachine$Store;" ∈ gTS := wl_13_in _ (List.mem_of_getElem? (i := 21) rfl)
theorem tw_1078 : Jvm.Cond.laysFinal "PairMachine$Machine" "PairMachine$Machine" "display" "LPairMachine$Display;" ∈ gTS := wl_13_in _ (List.mem_of_getElem? (i := 22) rfl)
theorem tw_1079 : Jvm.Cond.lays "PairMachine$Machine" "PairMachine$Machine" "s" "J" ∈ gTS := wl_13_in _ (List.mem_of_getElem? (i := 23) rfl)
theorem tw_1080 : Jvm.Cond.lays "PairMachine$Machine" "PairMachine$Machine" "e" "J" ∈ gTS := wl_13_in _ (List.mem_of_getElem? (i := 24) rfl)
def wl_14 : List Cond := [.lays "PairMachine$Machine" "PairMachine$Machine" "c" "J", .lays "PairMachine$Machine" "PairMachine$Machine" "d" "J", .lays "PairMachine$Machine" "PairMachine$Machine" "mode" "I", .lays "PairMachine$Machine" "PairMachine$Machine" "collections" "I", .lays "PairMachine$Machine" "PairMachine$Machine" "takenBack" "I", .lays "PairMachine$Machine" "PairMachine$Machine" "steps" "I", .classLink "PairMachineLaw" 15 "java/lang/IllegalStateException", .classLink "PairMachineLaw" 13 "java/lang/IllegalArgumentException"]
theorem wl_14_ok : wl_14 = [19, 21, 23, 25, 27, 29, 234, 233].filterMap (fun i => tables_1_2[i]?) ∧ wl_14.all mj_gw = true := by decide +kernel
theorem wl_14_in : ∀ w ∈ wl_14, w ∈ gTS := fun w hw => by
  have h1 := hw
  rw [wl_14_ok.1] at h1
  obtain ⟨i, -, hi⟩ := List.mem_filterMap.mp h1
  exact List.mem_filter.mpr ⟨tin_tables_1_2 w (List.mem_of_getElem? hi), List.all_eq_true.mp wl_14_ok.2 w hw⟩
theorem tw_1081 : Jvm.Cond.lays "PairMachine$Machine" "PairMachine$Machine" "c" "J" ∈ gTS := wl_14_in _ (List.mem_of_getElem? (i := 0) rfl)
theorem tw_1082 : Jvm.Cond.lays "PairMachine$Machine" "PairMachine$Machine" "d" "J" ∈ gTS := wl_14_in _ (List.mem_of_getElem? (i := 1) rfl)
theorem tw_1083 : Jvm.Cond.lays "PairMachine$Machine" "PairMachine$Machine" "mode" "I" ∈ gTS := wl_14_in _ (List.mem_of_getElem? (i := 2) rfl)
theorem tw_1084 : Jvm.Cond.lays "PairMachine$Machine" "PairMachine$Machine" "collections" "I" ∈ gTS := wl_14_in _ (List.mem_of_getElem? (i := 3) rfl)
theorem tw_1085 : Jvm.Cond.lays "PairMachine$Machine" "PairMachine$Machine" "takenBack" "I" ∈ gTS := wl_14_in _ (List.mem_of_getElem? (i := 4) rfl)
theorem tw_1086 : Jvm.Cond.lays "PairMachine$Machine" "PairMachine$Machine" "steps" "I" ∈ gTS := wl_14_in _ (List.mem_of_getElem? (i := 5) rfl)
theorem tw_1149 : Jvm.Cond.classLink "PairMachineLaw" 15 "java/lang/IllegalStateException" ∈ gTS := wl_14_in _ (List.mem_of_getElem? (i := 6) rfl)
theorem tw_1150 : Jvm.Cond.classLink "PairMachineLaw" 13 "java/lang/IllegalArgumentException" ∈ gTS := wl_14_in _ (List.mem_of_getElem? (i := 7) rfl)
def wl_15 : List Cond := [.classLink "PairMachineLaw" 30 "PairMachineModel", .instantiable "PairMachineModel" 45, .code ⟨"PairMachineModel", "<init>", "(I)V"⟩ prog_13_method_1_code 2 (Option.none : Option Jvm.ClassFile.FieldType), .methodLink "PairMachineLaw" 32 ⟨"PairMachineModel", "<init>", "(I)V"⟩, .instanceMethod ⟨"PairMachineModel", "<init>", "(I)V"⟩, .code ⟨"PairMachineModel", "write", "(J)Z"⟩ prog_13_method_3_code 6 (Option.some Jvm.ClassFile.FieldType.boolean), .methodLink "PairMachineLaw" 39 ⟨"PairMachineModel", "write", "(J)Z"⟩, .instanceMethod ⟨"PairMachineModel", "write", "(J)Z"⟩, .selects "PairMachineModel" ⟨"PairMachineModel", "write", "(J)Z"⟩ ⟨"PairMachineModel", "write", "(J)Z"⟩, .methodLink "PairMachineLaw" 43 ⟨"PairMachineModel", "compile", "()I"⟩, .instanceMethod ⟨"PairMachineModel", "compile", "()I"⟩, .selects "PairMachineModel" ⟨"PairMachineModel", "compile", "()I"⟩ ⟨"PairMachineModel", "compile", "()I"⟩, .methodLink "PairMachine$Display" 38 ⟨"PairMachine$Value", "isPair", "(J)Z"⟩, .methodLink "PairMachine$Display" 48 ⟨"PairMachine$Store", "tail", "(J)J"⟩, .methodLink "PairMachine$Display" 54 ⟨"PairMachine$Store", "head", "(J)J"⟩, .code ⟨"PairMachine$Display", "showAtom", "(J)V"⟩ prog_4_method_4_code 3 (Option.none : Option Jvm.ClassFile.FieldType), .methodLink "PairMachine$Display" 57 ⟨"PairMachine$Display", "showAtom", "(J)V"⟩, .instanceMethod ⟨"PairMachine$Display", "showAtom", "(J)V"⟩, .code ⟨"PairMachine$Display", "endLists", "()V"⟩ prog_4_method_3_code 1 (Option.none : Option Jvm.ClassFile.FieldType), .methodLink "PairMachine$Display" 61 ⟨"PairMachine$Display", "endLists", "()V"⟩, .instanceMethod ⟨"PairMachine$Display", "endLists", "()V"⟩, .methodLink "PairMachine$Display" 69 ⟨"PairMachine$Value", "isNumber", "(J)Z"⟩, .methodLink "PairMachine$Display" 72 ⟨"PairMachine$Value", "content", "(J)I"⟩, .code ⟨"PairMachine$Value", "isSymbol", "(J)Z"⟩ prog_11_method_9_code 2 (Option.some Jvm.ClassFile.FieldType.boolean), .methodLink "PairMachine$Display" 79 ⟨"PairMachine$Value", "isSymbol", "(J)Z"⟩]
theorem wl_15_ok : wl_15 = [90, 91, 94, 92, 93, 235, 232, 233, 234, 237, 238, 239, 51, 69, 70, 74, 71, 73, 88, 85, 87, 75, 76, 80, 78].filterMap (fun i => tables_1_6[i]?) ∧ wl_15.all mj_gw = true := by decide +kernel
theorem wl_15_in : ∀ w ∈ wl_15, w ∈ gTS := fun w hw => by
  have h1 := hw
  rw [wl_15_ok.1] at h1
  obtain ⟨i, -, hi⟩ := List.mem_filterMap.mp h1
  exact List.mem_filter.mpr ⟨tin_tables_1_6 w (List.mem_of_getElem? hi), List.all_eq_true.mp wl_15_ok.2 w hw⟩
theorem tw_10 : Jvm.Cond.classLink "PairMachineLaw" 30 "PairMachineModel" ∈ gTS := wl_15_in _ (List.mem_of_getElem? (i := 0) rfl)
theorem tw_11 : Jvm.Cond.instantiable "PairMachineModel" 45 ∈ gTS := wl_15_in _ (List.mem_of_getElem? (i := 1) rfl)
theorem tw_13 : Jvm.Cond.code ⟨"PairMachineModel", "<init>", "(I)V"⟩ prog_13_method_1_code 2 (Option.none : Option Jvm.ClassFile.FieldType) ∈ gTS := wl_15_in _ (List.mem_of_getElem? (i := 2) rfl)
theorem tw_14 : Jvm.Cond.methodLink "PairMachineLaw" 32 ⟨"PairMachineModel", "<init>", "(I)V"⟩ ∈ gTS := wl_15_in _ (List.mem_of_getElem? (i := 3) rfl)
theorem tw_15 : Jvm.Cond.instanceMethod ⟨"PairMachineModel", "<init>", "(I)V"⟩ ∈ gTS := wl_15_in _ (List.mem_of_getElem? (i := 4) rfl)
theorem tw_22 : Jvm.Cond.code ⟨"PairMachineModel", "write", "(J)Z"⟩ prog_13_method_3_code 6 (Option.some Jvm.ClassFile.FieldType.boolean) ∈ gTS := wl_15_in _ (List.mem_of_getElem? (i := 5) rfl)
theorem tw_23 : Jvm.Cond.methodLink "PairMachineLaw" 39 ⟨"PairMachineModel", "write", "(J)Z"⟩ ∈ gTS := wl_15_in _ (List.mem_of_getElem? (i := 6) rfl)
theorem tw_24 : Jvm.Cond.instanceMethod ⟨"PairMachineModel", "write", "(J)Z"⟩ ∈ gTS := wl_15_in _ (List.mem_of_getElem? (i := 7) rfl)
theorem tw_25 : Jvm.Cond.selects "PairMachineModel" ⟨"PairMachineModel", "write", "(J)Z"⟩ ⟨"PairMachineModel", "write", "(J)Z"⟩ ∈ gTS := wl_15_in _ (List.mem_of_getElem? (i := 8) rfl)
theorem tw_30 : Jvm.Cond.methodLink "PairMachineLaw" 43 ⟨"PairMachineModel", "compile", "()I"⟩ ∈ gTS := wl_15_in _ (List.mem_of_getElem? (i := 9) rfl)
theorem tw_31 : Jvm.Cond.instanceMethod ⟨"PairMachineModel", "compile", "()I"⟩ ∈ gTS := wl_15_in _ (List.mem_of_getElem? (i := 10) rfl)
theorem tw_32 : Jvm.Cond.selects "PairMachineModel" ⟨"PairMachineModel", "compile", "()I"⟩ ⟨"PairMachineModel", "compile", "()I"⟩ ∈ gTS := wl_15_in _ (List.mem_of_getElem? (i := 11) rfl)
theorem tw_745 : Jvm.Cond.methodLink "PairMachine$Display" 38 ⟨"PairMachine$Value", "isPair", "(J)Z"⟩ ∈ gTS := wl_15_in _ (List.mem_of_getElem? (i := 12) rfl)
theorem tw_746 : Jvm.Cond.methodLink "PairMachine$Display" 48 ⟨"PairMachine$Store", "tail", "(J)J"⟩ ∈ gTS := wl_15_in _ (List.mem_of_getElem? (i := 13) rfl)
theorem tw_747 : Jvm.Cond.methodLink "PairMachine$Display" 54 ⟨"PairMachine$Store", "head", "(J)J"⟩ ∈ gTS := wl_15_in _ (List.mem_of_getElem? (i := 14) rfl)
theorem tw_748 : Jvm.Cond.code ⟨"PairMachine$Display", "showAtom", "(J)V"⟩ prog_4_method_4_code 3 (Option.none : Option Jvm.ClassFile.FieldType) ∈ gTS := wl_15_in _ (List.mem_of_getElem? (i := 15) rfl)
theorem tw_749 : Jvm.Cond.methodLink "PairMachine$Display" 57 ⟨"PairMachine$Display", "showAtom", "(J)V"⟩ ∈ gTS := wl_15_in _ (List.mem_of_getElem? (i := 16) rfl)
theorem tw_750 : Jvm.Cond.instanceMethod ⟨"PairMachine$Display", "showAtom", "(J)V"⟩ ∈ gTS := wl_15_in _ (List.mem_of_getElem? (i := 17) rfl)
theorem tw_752 : Jvm.Cond.code ⟨"PairMachine$Display", "endLists", "()V"⟩ prog_4_method_3_code 1 (Option.none : Option Jvm.ClassFile.FieldType) ∈ gTS := wl_15_in _ (List.mem_of_getElem? (i := 18) rfl)
theorem tw_753 : Jvm.Cond.methodLink "PairMachine$Display" 61 ⟨"PairMachine$Display", "endLists", "()V"⟩ ∈ gTS := wl_15_in _ (List.mem_of_getElem? (i := 19) rfl)
theorem tw_754 : Jvm.Cond.instanceMethod ⟨"PairMachine$Display", "endLists", "()V"⟩ ∈ gTS := wl_15_in _ (List.mem_of_getElem? (i := 20) rfl)
theorem tw_756 : Jvm.Cond.methodLink "PairMachine$Display" 69 ⟨"PairMachine$Value", "isNumber", "(J)Z"⟩ ∈ gTS := wl_15_in _ (List.mem_of_getElem? (i := 21) rfl)
theorem tw_757 : Jvm.Cond.methodLink "PairMachine$Display" 72 ⟨"PairMachine$Value", "content", "(J)I"⟩ ∈ gTS := wl_15_in _ (List.mem_of_getElem? (i := 22) rfl)
theorem tw_758 : Jvm.Cond.code ⟨"PairMachine$Value", "isSymbol", "(J)Z"⟩ prog_11_method_9_code 2 (Option.some Jvm.ClassFile.FieldType.boolean) ∈ gTS := wl_15_in _ (List.mem_of_getElem? (i := 23) rfl)
theorem tw_759 : Jvm.Cond.methodLink "PairMachine$Display" 79 ⟨"PairMachine$Value", "isSymbol", "(J)Z"⟩ ∈ gTS := wl_15_in _ (List.mem_of_getElem? (i := 24) rfl)
def wl_16 : List Cond := [.static ⟨"PairMachine$Value", "isSymbol", "(J)Z"⟩, .methodLink "PairMachine$Display" 82 ⟨"PairMachine$Value", "isFunction", "(J)Z"⟩, .constantLong "PairMachine$Value" 25 (2), .methodLink "PairMachineModel" 1 ⟨"java/lang/Object", "<init>", "()V"⟩, .fieldLink "PairMachineModel" 7 "PairMachineModel" "text" "[C", .fieldLink "PairMachineModel" 13 "PairMachineModel" "error" "I", .fieldLink "PairMachineModel" 17 "PairMachineModel" "kind" "[I", .fieldLink "PairMachineModel" 21 "PairMachineModel" "at" "[I", .fieldLink "PairMachineModel" 24 "PairMachineModel" "until" "[I", .fieldLink "PairMachineModel" 27 "PairMachineModel" "value" "[I", .fieldLink "PairMachineModel" 30 "PairMachineModel" "parent" "[I", .fieldLink "PairMachineModel" 33 "PairMachineModel" "first" "[I", .fieldLink "PairMachineModel" 36 "PairMachineModel" "last" "[I", .fieldLink "PairMachineModel" 39 "PairMachineModel" "next" "[I", .fieldLink "PairMachineModel" 42 "PairMachineModel" "many" "[I", .fieldLink "PairMachineModel" 45 "PairMachineModel" "letters" "[I", .fieldLink "PairMachineModel" 48 "PairMachineModel" "bound" "[I", .fieldLink "PairMachineModel" 51 "PairMachineModel" "signKind" "[I", .fieldLink "PairMachineModel" 54 "PairMachineModel" "signValue" "[I", .fieldLink "PairMachineModel" 57 "PairMachineModel" "taskKind" "[I", .fieldLink "PairMachineModel" 60 "PairMachineModel" "taskValue" "[I", .fieldLink "PairMachineModel" 63 "PairMachineModel" "used" "[Z", .fieldLink "PairMachineModel" 67 "PairMachineModel" "function" "[Z", .fieldLink "PairMachineModel" 70 "PairMachineModel" "headKind" "[I", .fieldLink "PairMachineModel" 73 "PairMachineModel" "head" "[I"]
theorem wl_16_ok : wl_16 = [79, 82, 81, 95, 99, 101, 103, 104, 105, 106, 107, 108, 109, 110, 111, 112, 113, 116, 117, 120, 121, 122, 123, 124, 125].filterMap (fun i => tables_1_6[i]?) ∧ wl_16.all mj_gw = true := by decide +kernel
theorem wl_16_in : ∀ w ∈ wl_16, w ∈ gTS := fun w hw => by
  have h1 := hw
  rw [wl_16_ok.1] at h1
  obtain ⟨i, -, hi⟩ := List.mem_filterMap.mp h1
  exact List.mem_filter.mpr ⟨tin_tables_1_6 w (List.mem_of_getElem? hi), List.all_eq_true.mp wl_16_ok.2 w hw⟩
theorem tw_760 : Jvm.Cond.static ⟨"PairMachine$Value", "isSymbol", "(J)Z"⟩ ∈ gTS := wl_16_in _ (List.mem_of_getElem? (i := 0) rfl)
theorem tw_761 : Jvm.Cond.methodLink "PairMachine$Display" 82 ⟨"PairMachine$Value", "isFunction", "(J)Z"⟩ ∈ gTS := wl_16_in _ (List.mem_of_getElem? (i := 1) rfl)
theorem tw_770 : Jvm.Cond.constantLong "PairMachine$Value" 25 (2) ∈ gTS := wl_16_in _ (List.mem_of_getElem? (i := 2) rfl)
theorem tw_771 : Jvm.Cond.methodLink "PairMachineModel" 1 ⟨"java/lang/Object", "<init>", "()V"⟩ ∈ gTS := wl_16_in _ (List.mem_of_getElem? (i := 3) rfl)
theorem tw_772 : Jvm.Cond.fieldLink "PairMachineModel" 7 "PairMachineModel" "text" "[C" ∈ gTS := wl_16_in _ (List.mem_of_getElem? (i := 4) rfl)
theorem tw_773 : Jvm.Cond.fieldLink "PairMachineModel" 13 "PairMachineModel" "error" "I" ∈ gTS := wl_16_in _ (List.mem_of_getElem? (i := 5) rfl)
theorem tw_774 : Jvm.Cond.fieldLink "PairMachineModel" 17 "PairMachineModel" "kind" "[I" ∈ gTS := wl_16_in _ (List.mem_of_getElem? (i := 6) rfl)
theorem tw_775 : Jvm.Cond.fieldLink "PairMachineModel" 21 "PairMachineModel" "at" "[I" ∈ gTS := wl_16_in _ (List.mem_of_getElem? (i := 7) rfl)
theorem tw_776 : Jvm.Cond.fieldLink "PairMachineModel" 24 "PairMachineModel" "until" "[I" ∈ gTS := wl_16_in _ (List.mem_of_getElem? (i := 8) rfl)
theorem tw_777 : Jvm.Cond.fieldLink "PairMachineModel" 27 "PairMachineModel" "value" "[I" ∈ gTS := wl_16_in _ (List.mem_of_getElem? (i := 9) rfl)
theorem tw_778 : Jvm.Cond.fieldLink "PairMachineModel" 30 "PairMachineModel" "parent" "[I" ∈ gTS := wl_16_in _ (List.mem_of_getElem? (i := 10) rfl)
theorem tw_779 : Jvm.Cond.fieldLink "PairMachineModel" 33 "PairMachineModel" "first" "[I" ∈ gTS := wl_16_in _ (List.mem_of_getElem? (i := 11) rfl)
theorem tw_780 : Jvm.Cond.fieldLink "PairMachineModel" 36 "PairMachineModel" "last" "[I" ∈ gTS := wl_16_in _ (List.mem_of_getElem? (i := 12) rfl)
theorem tw_781 : Jvm.Cond.fieldLink "PairMachineModel" 39 "PairMachineModel" "next" "[I" ∈ gTS := wl_16_in _ (List.mem_of_getElem? (i := 13) rfl)
theorem tw_782 : Jvm.Cond.fieldLink "PairMachineModel" 42 "PairMachineModel" "many" "[I" ∈ gTS := wl_16_in _ (List.mem_of_getElem? (i := 14) rfl)
theorem tw_783 : Jvm.Cond.fieldLink "PairMachineModel" 45 "PairMachineModel" "letters" "[I" ∈ gTS := wl_16_in _ (List.mem_of_getElem? (i := 15) rfl)
theorem tw_784 : Jvm.Cond.fieldLink "PairMachineModel" 48 "PairMachineModel" "bound" "[I" ∈ gTS := wl_16_in _ (List.mem_of_getElem? (i := 16) rfl)
theorem tw_785 : Jvm.Cond.fieldLink "PairMachineModel" 51 "PairMachineModel" "signKind" "[I" ∈ gTS := wl_16_in _ (List.mem_of_getElem? (i := 17) rfl)
theorem tw_786 : Jvm.Cond.fieldLink "PairMachineModel" 54 "PairMachineModel" "signValue" "[I" ∈ gTS := wl_16_in _ (List.mem_of_getElem? (i := 18) rfl)
theorem tw_787 : Jvm.Cond.fieldLink "PairMachineModel" 57 "PairMachineModel" "taskKind" "[I" ∈ gTS := wl_16_in _ (List.mem_of_getElem? (i := 19) rfl)
theorem tw_788 : Jvm.Cond.fieldLink "PairMachineModel" 60 "PairMachineModel" "taskValue" "[I" ∈ gTS := wl_16_in _ (List.mem_of_getElem? (i := 20) rfl)
theorem tw_789 : Jvm.Cond.fieldLink "PairMachineModel" 63 "PairMachineModel" "used" "[Z" ∈ gTS := wl_16_in _ (List.mem_of_getElem? (i := 21) rfl)
theorem tw_790 : Jvm.Cond.fieldLink "PairMachineModel" 67 "PairMachineModel" "function" "[Z" ∈ gTS := wl_16_in _ (List.mem_of_getElem? (i := 22) rfl)
theorem tw_791 : Jvm.Cond.fieldLink "PairMachineModel" 70 "PairMachineModel" "headKind" "[I" ∈ gTS := wl_16_in _ (List.mem_of_getElem? (i := 23) rfl)
theorem tw_792 : Jvm.Cond.fieldLink "PairMachineModel" 73 "PairMachineModel" "head" "[I" ∈ gTS := wl_16_in _ (List.mem_of_getElem? (i := 24) rfl)
def wl_17 : List Cond := [.fieldLink "PairMachineModel" 76 "PairMachineModel" "tailKind" "[I", .fieldLink "PairMachineModel" 79 "PairMachineModel" "tail" "[I", .fieldLink "PairMachineModel" 82 "PairMachineModel" "marked" "[Z", .fieldLink "PairMachineModel" 85 "PairMachineModel" "pile" "[I", .fieldLink "PairMachineModel" 88 "PairMachineModel" "reg" "[I", .fieldLink "PairMachineModel" 91 "PairMachineModel" "show" "[C", .fieldLink "PairMachineModel" 94 "PairMachineModel" "size" "I", .fieldLink "PairMachineModel" 97 "PairMachineModel" "thrown" "I", .constantLong "PairMachineModel" 100 (255), .fieldLink "PairMachineModel" 102 "PairMachineModel" "typed" "I", .fieldLink "PairMachineModel" 105 "PairMachineModel" "p" "I", .fieldLink "PairMachineModel" 112 "PairMachineModel" "depth" "I", .fieldLink "PairMachineModel" 119 "PairMachineModel" "parts" "I", .fieldLink "PairMachineModel" 172 "PairMachineModel" "signs" "I", .fieldLink "PairMachineModel" 175 "PairMachineModel" "cells" "I", .fieldLink "PairMachineModel" 178 "PairMachineModel" "tasks" "I", .fieldLink "PairMachineModel" 211 "PairMachineModel" "piled" "I", .fieldLink "PairMachineModel" 236 "PairMachineModel" "program" "Z", .fieldLink "PairMachineModel" 240 "PairMachineModel" "state" "I", .fieldLink "PairMachineModel" 243 "PairMachineModel" "collections" "I", .fieldLink "PairMachineModel" 246 "PairMachineModel" "takenBack" "I", .fieldLink "PairMachineModel" 249 "PairMachineModel" "steps" "I", .fieldLink "PairMachineModel" 258 "PairMachineModel" "gotKind" "I", .fieldLink "PairMachineModel" 261 "PairMachineModel" "got" "I", .fieldLink "PairMachineModel" 316 "PairMachineModel" "shown" "I"]
theorem wl_17_ok : wl_17 = [126, 127, 128, 130, 131, 140, 96, 97, 236, 98, 100, 114, 102, 115, 118, 119, 129, 132, 133, 134, 135, 136, 137, 138, 139].filterMap (fun i => tables_1_6[i]?) ∧ wl_17.all mj_gw = true := by decide +kernel
theorem wl_17_in : ∀ w ∈ wl_17, w ∈ gTS := fun w hw => by
  have h1 := hw
  rw [wl_17_ok.1] at h1
  obtain ⟨i, -, hi⟩ := List.mem_filterMap.mp h1
  exact List.mem_filter.mpr ⟨tin_tables_1_6 w (List.mem_of_getElem? hi), List.all_eq_true.mp wl_17_ok.2 w hw⟩
theorem tw_793 : Jvm.Cond.fieldLink "PairMachineModel" 76 "PairMachineModel" "tailKind" "[I" ∈ gTS := wl_17_in _ (List.mem_of_getElem? (i := 0) rfl)
theorem tw_794 : Jvm.Cond.fieldLink "PairMachineModel" 79 "PairMachineModel" "tail" "[I" ∈ gTS := wl_17_in _ (List.mem_of_getElem? (i := 1) rfl)
theorem tw_795 : Jvm.Cond.fieldLink "PairMachineModel" 82 "PairMachineModel" "marked" "[Z" ∈ gTS := wl_17_in _ (List.mem_of_getElem? (i := 2) rfl)
theorem tw_796 : Jvm.Cond.fieldLink "PairMachineModel" 85 "PairMachineModel" "pile" "[I" ∈ gTS := wl_17_in _ (List.mem_of_getElem? (i := 3) rfl)
theorem tw_797 : Jvm.Cond.fieldLink "PairMachineModel" 88 "PairMachineModel" "reg" "[I" ∈ gTS := wl_17_in _ (List.mem_of_getElem? (i := 4) rfl)
theorem tw_798 : Jvm.Cond.fieldLink "PairMachineModel" 91 "PairMachineModel" "show" "[C" ∈ gTS := wl_17_in _ (List.mem_of_getElem? (i := 5) rfl)
theorem tw_799 : Jvm.Cond.fieldLink "PairMachineModel" 94 "PairMachineModel" "size" "I" ∈ gTS := wl_17_in _ (List.mem_of_getElem? (i := 6) rfl)
theorem tw_800 : Jvm.Cond.fieldLink "PairMachineModel" 97 "PairMachineModel" "thrown" "I" ∈ gTS := wl_17_in _ (List.mem_of_getElem? (i := 7) rfl)
theorem tw_801 : Jvm.Cond.constantLong "PairMachineModel" 100 (255) ∈ gTS := wl_17_in _ (List.mem_of_getElem? (i := 8) rfl)
theorem tw_802 : Jvm.Cond.fieldLink "PairMachineModel" 102 "PairMachineModel" "typed" "I" ∈ gTS := wl_17_in _ (List.mem_of_getElem? (i := 9) rfl)
theorem tw_803 : Jvm.Cond.fieldLink "PairMachineModel" 105 "PairMachineModel" "p" "I" ∈ gTS := wl_17_in _ (List.mem_of_getElem? (i := 10) rfl)
theorem tw_808 : Jvm.Cond.fieldLink "PairMachineModel" 112 "PairMachineModel" "depth" "I" ∈ gTS := wl_17_in _ (List.mem_of_getElem? (i := 11) rfl)
theorem tw_813 : Jvm.Cond.fieldLink "PairMachineModel" 119 "PairMachineModel" "parts" "I" ∈ gTS := wl_17_in _ (List.mem_of_getElem? (i := 12) rfl)
theorem tw_871 : Jvm.Cond.fieldLink "PairMachineModel" 172 "PairMachineModel" "signs" "I" ∈ gTS := wl_17_in _ (List.mem_of_getElem? (i := 13) rfl)
theorem tw_872 : Jvm.Cond.fieldLink "PairMachineModel" 175 "PairMachineModel" "cells" "I" ∈ gTS := wl_17_in _ (List.mem_of_getElem? (i := 14) rfl)
theorem tw_873 : Jvm.Cond.fieldLink "PairMachineModel" 178 "PairMachineModel" "tasks" "I" ∈ gTS := wl_17_in _ (List.mem_of_getElem? (i := 15) rfl)
theorem tw_909 : Jvm.Cond.fieldLink "PairMachineModel" 211 "PairMachineModel" "piled" "I" ∈ gTS := wl_17_in _ (List.mem_of_getElem? (i := 16) rfl)
theorem tw_938 : Jvm.Cond.fieldLink "PairMachineModel" 236 "PairMachineModel" "program" "Z" ∈ gTS := wl_17_in _ (List.mem_of_getElem? (i := 17) rfl)
theorem tw_939 : Jvm.Cond.fieldLink "PairMachineModel" 240 "PairMachineModel" "state" "I" ∈ gTS := wl_17_in _ (List.mem_of_getElem? (i := 18) rfl)
theorem tw_940 : Jvm.Cond.fieldLink "PairMachineModel" 243 "PairMachineModel" "collections" "I" ∈ gTS := wl_17_in _ (List.mem_of_getElem? (i := 19) rfl)
theorem tw_941 : Jvm.Cond.fieldLink "PairMachineModel" 246 "PairMachineModel" "takenBack" "I" ∈ gTS := wl_17_in _ (List.mem_of_getElem? (i := 20) rfl)
theorem tw_942 : Jvm.Cond.fieldLink "PairMachineModel" 249 "PairMachineModel" "steps" "I" ∈ gTS := wl_17_in _ (List.mem_of_getElem? (i := 21) rfl)
theorem tw_951 : Jvm.Cond.fieldLink "PairMachineModel" 258 "PairMachineModel" "gotKind" "I" ∈ gTS := wl_17_in _ (List.mem_of_getElem? (i := 22) rfl)
theorem tw_952 : Jvm.Cond.fieldLink "PairMachineModel" 261 "PairMachineModel" "got" "I" ∈ gTS := wl_17_in _ (List.mem_of_getElem? (i := 23) rfl)
theorem tw_1020 : Jvm.Cond.fieldLink "PairMachineModel" 316 "PairMachineModel" "shown" "I" ∈ gTS := wl_17_in _ (List.mem_of_getElem? (i := 24) rfl)
def wl_18 : List Cond := [.laysFinal "PairMachineModel" "PairMachineModel" "size" "I", .lays "PairMachineModel" "PairMachineModel" "thrown" "I", .lays "PairMachineModel" "PairMachineModel" "typed" "I", .laysFinal "PairMachineModel" "PairMachineModel" "text" "[C", .lays "PairMachineModel" "PairMachineModel" "p" "I", .lays "PairMachineModel" "PairMachineModel" "error" "I", .lays "PairMachineModel" "PairMachineModel" "parts" "I", .laysFinal "PairMachineModel" "PairMachineModel" "kind" "[I", .laysFinal "PairMachineModel" "PairMachineModel" "at" "[I", .laysFinal "PairMachineModel" "PairMachineModel" "until" "[I", .laysFinal "PairMachineModel" "PairMachineModel" "value" "[I", .laysFinal "PairMachineModel" "PairMachineModel" "parent" "[I", .laysFinal "PairMachineModel" "PairMachineModel" "first" "[I", .laysFinal "PairMachineModel" "PairMachineModel" "last" "[I", .laysFinal "PairMachineModel" "PairMachineModel" "next" "[I", .laysFinal "PairMachineModel" "PairMachineModel" "many" "[I", .laysFinal "PairMachineModel" "PairMachineModel" "letters" "[I", .laysFinal "PairMachineModel" "PairMachineModel" "bound" "[I", .lays "PairMachineModel" "PairMachineModel" "depth" "I", .lays "PairMachineModel" "PairMachineModel" "signs" "I", .laysFinal "PairMachineModel" "PairMachineModel" "signKind" "[I", .laysFinal "PairMachineModel" "PairMachineModel" "signValue" "[I", .lays "PairMachineModel" "PairMachineModel" "cells" "I", .lays "PairMachineModel" "PairMachineModel" "tasks" "I", .laysFinal "PairMachineModel" "PairMachineModel" "taskKind" "[I"]
theorem wl_18_ok : wl_18 = [141, 143, 145, 147, 149, 151, 153, 155, 157, 159, 161, 163, 165, 167, 169, 171, 173, 175, 177, 179, 181, 183, 185, 187, 189].filterMap (fun i => tables_1_6[i]?) ∧ wl_18.all mj_gw = true := by decide +kernel
theorem wl_18_in : ∀ w ∈ wl_18, w ∈ gTS := fun w hw => by
  have h1 := hw
  rw [wl_18_ok.1] at h1
  obtain ⟨i, -, hi⟩ := List.mem_filterMap.mp h1
  exact List.mem_filter.mpr ⟨tin_tables_1_6 w (List.mem_of_getElem? hi), List.all_eq_true.mp wl_18_ok.2 w hw⟩
theorem tw_1104 : Jvm.Cond.laysFinal "PairMachineModel" "PairMachineModel" "size" "I" ∈ gTS := wl_18_in _ (List.mem_of_getElem? (i := 0) rfl)
theorem tw_1105 : Jvm.Cond.lays "PairMachineModel" "PairMachineModel" "thrown" "I" ∈ gTS := wl_18_in _ (List.mem_of_getElem? (i := 1) rfl)
theorem tw_1106 : Jvm.Cond.lays "PairMachineModel" "PairMachineModel" "typed" "I" ∈ gTS := wl_18_in _ (List.mem_of_getElem? (i := 2) rfl)
theorem tw_1107 : Jvm.Cond.laysFinal "PairMachineModel" "PairMachineModel" "text" "[C" ∈ gTS := wl_18_in _ (List.mem_of_getElem? (i := 3) rfl)
theorem tw_1108 : Jvm.Cond.lays "PairMachineModel" "PairMachineModel" "p" "I" ∈ gTS := wl_18_in _ (List.mem_of_getElem? (i := 4) rfl)
theorem tw_1109 : Jvm.Cond.lays "PairMachineModel" "PairMachineModel" "error" "I" ∈ gTS := wl_18_in _ (List.mem_of_getElem? (i := 5) rfl)
theorem tw_1110 : Jvm.Cond.lays "PairMachineModel" "PairMachineModel" "parts" "I" ∈ gTS := wl_18_in _ (List.mem_of_getElem? (i := 6) rfl)
theorem tw_1111 : Jvm.Cond.laysFinal "PairMachineModel" "PairMachineModel" "kind" "[I" ∈ gTS := wl_18_in _ (List.mem_of_getElem? (i := 7) rfl)
theorem tw_1112 : Jvm.Cond.laysFinal "PairMachineModel" "PairMachineModel" "at" "[I" ∈ gTS := wl_18_in _ (List.mem_of_getElem? (i := 8) rfl)
theorem tw_1113 : Jvm.Cond.laysFinal "PairMachineModel" "PairMachineModel" "until" "[I" ∈ gTS := wl_18_in _ (List.mem_of_getElem? (i := 9) rfl)
theorem tw_1114 : Jvm.Cond.laysFinal "PairMachineModel" "PairMachineModel" "value" "[I" ∈ gTS := wl_18_in _ (List.mem_of_getElem? (i := 10) rfl)
theorem tw_1115 : Jvm.Cond.laysFinal "PairMachineModel" "PairMachineModel" "parent" "[I" ∈ gTS := wl_18_in _ (List.mem_of_getElem? (i := 11) rfl)
theorem tw_1116 : Jvm.Cond.laysFinal "PairMachineModel" "PairMachineModel" "first" "[I" ∈ gTS := wl_18_in _ (List.mem_of_getElem? (i := 12) rfl)
theorem tw_1117 : Jvm.Cond.laysFinal "PairMachineModel" "PairMachineModel" "last" "[I" ∈ gTS := wl_18_in _ (List.mem_of_getElem? (i := 13) rfl)
theorem tw_1118 : Jvm.Cond.laysFinal "PairMachineModel" "PairMachineModel" "next" "[I" ∈ gTS := wl_18_in _ (List.mem_of_getElem? (i := 14) rfl)
theorem tw_1119 : Jvm.Cond.laysFinal "PairMachineModel" "PairMachineModel" "many" "[I" ∈ gTS := wl_18_in _ (List.mem_of_getElem? (i := 15) rfl)
theorem tw_1120 : Jvm.Cond.laysFinal "PairMachineModel" "PairMachineModel" "letters" "[I" ∈ gTS := wl_18_in _ (List.mem_of_getElem? (i := 16) rfl)
theorem tw_1121 : Jvm.Cond.laysFinal "PairMachineModel" "PairMachineModel" "bound" "[I" ∈ gTS := wl_18_in _ (List.mem_of_getElem? (i := 17) rfl)
theorem tw_1122 : Jvm.Cond.lays "PairMachineModel" "PairMachineModel" "depth" "I" ∈ gTS := wl_18_in _ (List.mem_of_getElem? (i := 18) rfl)
theorem tw_1123 : Jvm.Cond.lays "PairMachineModel" "PairMachineModel" "signs" "I" ∈ gTS := wl_18_in _ (List.mem_of_getElem? (i := 19) rfl)
theorem tw_1124 : Jvm.Cond.laysFinal "PairMachineModel" "PairMachineModel" "signKind" "[I" ∈ gTS := wl_18_in _ (List.mem_of_getElem? (i := 20) rfl)
theorem tw_1125 : Jvm.Cond.laysFinal "PairMachineModel" "PairMachineModel" "signValue" "[I" ∈ gTS := wl_18_in _ (List.mem_of_getElem? (i := 21) rfl)
theorem tw_1126 : Jvm.Cond.lays "PairMachineModel" "PairMachineModel" "cells" "I" ∈ gTS := wl_18_in _ (List.mem_of_getElem? (i := 22) rfl)
theorem tw_1127 : Jvm.Cond.lays "PairMachineModel" "PairMachineModel" "tasks" "I" ∈ gTS := wl_18_in _ (List.mem_of_getElem? (i := 23) rfl)
theorem tw_1128 : Jvm.Cond.laysFinal "PairMachineModel" "PairMachineModel" "taskKind" "[I" ∈ gTS := wl_18_in _ (List.mem_of_getElem? (i := 24) rfl)
def wl_19 : List Cond := [.laysFinal "PairMachineModel" "PairMachineModel" "taskValue" "[I", .laysFinal "PairMachineModel" "PairMachineModel" "used" "[Z", .laysFinal "PairMachineModel" "PairMachineModel" "function" "[Z", .laysFinal "PairMachineModel" "PairMachineModel" "headKind" "[I", .laysFinal "PairMachineModel" "PairMachineModel" "head" "[I", .laysFinal "PairMachineModel" "PairMachineModel" "tailKind" "[I", .laysFinal "PairMachineModel" "PairMachineModel" "tail" "[I", .laysFinal "PairMachineModel" "PairMachineModel" "marked" "[Z", .lays "PairMachineModel" "PairMachineModel" "piled" "I", .laysFinal "PairMachineModel" "PairMachineModel" "pile" "[I", .laysFinal "PairMachineModel" "PairMachineModel" "reg" "[I", .lays "PairMachineModel" "PairMachineModel" "program" "Z", .lays "PairMachineModel" "PairMachineModel" "state" "I", .lays "PairMachineModel" "PairMachineModel" "collections" "I", .lays "PairMachineModel" "PairMachineModel" "takenBack" "I", .lays "PairMachineModel" "PairMachineModel" "steps" "I", .lays "PairMachineModel" "PairMachineModel" "gotKind" "I", .lays "PairMachineModel" "PairMachineModel" "got" "I", .lays "PairMachineModel" "PairMachineModel" "shown" "I", .laysFinal "PairMachineModel" "PairMachineModel" "show" "[C"]
theorem wl_19_ok : wl_19 = [191, 193, 195, 197, 199, 201, 203, 205, 207, 209, 211, 213, 215, 217, 219, 221, 223, 225, 227, 229].filterMap (fun i => tables_1_6[i]?) ∧ wl_19.all mj_gw = true := by decide +kernel
theorem wl_19_in : ∀ w ∈ wl_19, w ∈ gTS := fun w hw => by
  have h1 := hw
  rw [wl_19_ok.1] at h1
  obtain ⟨i, -, hi⟩ := List.mem_filterMap.mp h1
  exact List.mem_filter.mpr ⟨tin_tables_1_6 w (List.mem_of_getElem? hi), List.all_eq_true.mp wl_19_ok.2 w hw⟩
theorem tw_1129 : Jvm.Cond.laysFinal "PairMachineModel" "PairMachineModel" "taskValue" "[I" ∈ gTS := wl_19_in _ (List.mem_of_getElem? (i := 0) rfl)
theorem tw_1130 : Jvm.Cond.laysFinal "PairMachineModel" "PairMachineModel" "used" "[Z" ∈ gTS := wl_19_in _ (List.mem_of_getElem? (i := 1) rfl)
theorem tw_1131 : Jvm.Cond.laysFinal "PairMachineModel" "PairMachineModel" "function" "[Z" ∈ gTS := wl_19_in _ (List.mem_of_getElem? (i := 2) rfl)
theorem tw_1132 : Jvm.Cond.laysFinal "PairMachineModel" "PairMachineModel" "headKind" "[I" ∈ gTS := wl_19_in _ (List.mem_of_getElem? (i := 3) rfl)
theorem tw_1133 : Jvm.Cond.laysFinal "PairMachineModel" "PairMachineModel" "head" "[I" ∈ gTS := wl_19_in _ (List.mem_of_getElem? (i := 4) rfl)
theorem tw_1134 : Jvm.Cond.laysFinal "PairMachineModel" "PairMachineModel" "tailKind" "[I" ∈ gTS := wl_19_in _ (List.mem_of_getElem? (i := 5) rfl)
theorem tw_1135 : Jvm.Cond.laysFinal "PairMachineModel" "PairMachineModel" "tail" "[I" ∈ gTS := wl_19_in _ (List.mem_of_getElem? (i := 6) rfl)
theorem tw_1136 : Jvm.Cond.laysFinal "PairMachineModel" "PairMachineModel" "marked" "[Z" ∈ gTS := wl_19_in _ (List.mem_of_getElem? (i := 7) rfl)
theorem tw_1137 : Jvm.Cond.lays "PairMachineModel" "PairMachineModel" "piled" "I" ∈ gTS := wl_19_in _ (List.mem_of_getElem? (i := 8) rfl)
theorem tw_1138 : Jvm.Cond.laysFinal "PairMachineModel" "PairMachineModel" "pile" "[I" ∈ gTS := wl_19_in _ (List.mem_of_getElem? (i := 9) rfl)
theorem tw_1139 : Jvm.Cond.laysFinal "PairMachineModel" "PairMachineModel" "reg" "[I" ∈ gTS := wl_19_in _ (List.mem_of_getElem? (i := 10) rfl)
theorem tw_1140 : Jvm.Cond.lays "PairMachineModel" "PairMachineModel" "program" "Z" ∈ gTS := wl_19_in _ (List.mem_of_getElem? (i := 11) rfl)
theorem tw_1141 : Jvm.Cond.lays "PairMachineModel" "PairMachineModel" "state" "I" ∈ gTS := wl_19_in _ (List.mem_of_getElem? (i := 12) rfl)
theorem tw_1142 : Jvm.Cond.lays "PairMachineModel" "PairMachineModel" "collections" "I" ∈ gTS := wl_19_in _ (List.mem_of_getElem? (i := 13) rfl)
theorem tw_1143 : Jvm.Cond.lays "PairMachineModel" "PairMachineModel" "takenBack" "I" ∈ gTS := wl_19_in _ (List.mem_of_getElem? (i := 14) rfl)
theorem tw_1144 : Jvm.Cond.lays "PairMachineModel" "PairMachineModel" "steps" "I" ∈ gTS := wl_19_in _ (List.mem_of_getElem? (i := 15) rfl)
theorem tw_1145 : Jvm.Cond.lays "PairMachineModel" "PairMachineModel" "gotKind" "I" ∈ gTS := wl_19_in _ (List.mem_of_getElem? (i := 16) rfl)
theorem tw_1146 : Jvm.Cond.lays "PairMachineModel" "PairMachineModel" "got" "I" ∈ gTS := wl_19_in _ (List.mem_of_getElem? (i := 17) rfl)
theorem tw_1147 : Jvm.Cond.lays "PairMachineModel" "PairMachineModel" "shown" "I" ∈ gTS := wl_19_in _ (List.mem_of_getElem? (i := 18) rfl)
theorem tw_1148 : Jvm.Cond.laysFinal "PairMachineModel" "PairMachineModel" "show" "[C" ∈ gTS := wl_19_in _ (List.mem_of_getElem? (i := 19) rfl)
