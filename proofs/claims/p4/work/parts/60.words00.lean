section
def law_xw : List Cond := [.selects "java/lang/StringBuilder" ⟨"java/lang/AbstractStringBuilder", "ensureCapacityInternal", "(I)V"⟩ ⟨"java/lang/AbstractStringBuilder", "ensureCapacityInternal", "(I)V"⟩, .selects "java/lang/StringBuilder" ⟨"java/lang/AbstractStringBuilder", "newCapacity", "(I)I"⟩ ⟨"java/lang/AbstractStringBuilder", "newCapacity", "(I)I"⟩, .selects "java/lang/StringBuilder" ⟨"java/lang/AbstractStringBuilder", "putStringAt", "(ILjava/lang/String;)V"⟩ ⟨"java/lang/AbstractStringBuilder", "putStringAt", "(ILjava/lang/String;)V"⟩, .selects "java/lang/StringBuilder" ⟨"java/lang/AbstractStringBuilder", "inflateIfNeededFor", "(Ljava/lang/String;)V"⟩ ⟨"java/lang/AbstractStringBuilder", "inflateIfNeededFor", "(Ljava/lang/String;)V"⟩]
def gTS : List Cond := (law_xw ++ lw_tbl).filter mj_gw
theorem tin_xw : ∀ w ∈ law_xw, w ∈ law_xw ++ lw_tbl := fun w hw => List.mem_append_left _ hw
theorem lw_in {w : Cond} (h : w ∈ lw_tbl) : w ∈ law_xw ++ lw_tbl := List.mem_append_right _ h
theorem tin_tables_1_1 : ∀ w ∈ tables_1_1, w ∈ lw_tbl := fun w hw => List.mem_append_right _ (by unfold tables_1; simp only [List.mem_append]; simp [hw])
theorem tin_tables_1_2 : ∀ w ∈ tables_1_2, w ∈ lw_tbl := fun w hw => List.mem_append_right _ (by unfold tables_1; simp only [List.mem_append]; simp [hw])
theorem tin_tables_1_3 : ∀ w ∈ tables_1_3, w ∈ lw_tbl := fun w hw => List.mem_append_right _ (by unfold tables_1; simp only [List.mem_append]; simp [hw])
theorem tin_tables_1_4 : ∀ w ∈ tables_1_4, w ∈ lw_tbl := fun w hw => List.mem_append_right _ (by unfold tables_1; simp only [List.mem_append]; simp [hw])
theorem tin_tables_1_5 : ∀ w ∈ tables_1_5, w ∈ lw_tbl := fun w hw => List.mem_append_right _ (by unfold tables_1; simp only [List.mem_append]; simp [hw])
theorem tin_tables_1_6 : ∀ w ∈ tables_1_6, w ∈ lw_tbl := fun w hw => List.mem_append_right _ (by unfold tables_1; simp only [List.mem_append]; simp [hw])
theorem tin_tables_1_7 : ∀ w ∈ tables_1_7, w ∈ lw_tbl := fun w hw => List.mem_append_right _ (by unfold tables_1; simp only [List.mem_append]; simp [hw])
theorem tin_tables_1_8 : ∀ w ∈ tables_1_8, w ∈ lw_tbl := fun w hw => List.mem_append_right _ (by unfold tables_1; simp only [List.mem_append]; simp [hw])
theorem tin_sel : ∀ w ∈ k2_sels lw_privs, w ∈ lw_tbl := fun w hw => List.mem_append_left _ hw
end
section
def wl_0 : List Cond := [.classLink "PairMachineLaw" 8 "PairMachine", .instantiable "PairMachine" 7, .initialized "PairMachine", .initialized "PairMachineLaw", .code ⟨"PairMachine", "<init>", "(I)V"⟩ prog_1_method_1_code 3 (Option.none : Option Jvm.ClassFile.FieldType), .methodLink "PairMachineLaw" 27 ⟨"PairMachine", "<init>", "(I)V"⟩, .instanceMethod ⟨"PairMachine", "<init>", "(I)V"⟩, .initialized "PairMachineModel", .arrayClass .long, .methodLink "PairMachine" 1 ⟨"java/lang/Object", "<init>", "()V"⟩, .instanceMethod ⟨"java/lang/Object", "<init>", "()V"⟩, .code ⟨"java/lang/Object", "<init>", "()V"⟩ object_method_1_code 1 (Option.none : Option Jvm.ClassFile.FieldType), .initialized "java/lang/Math", .methodLink "PairMachine" 9 ⟨"java/lang/Math", "min", "(II)I"⟩, .static ⟨"java/lang/Math", "min", "(II)I"⟩, .code ⟨"java/lang/Math", "min", "(II)I"⟩ prog_21_method_69_code 2 (Option.some Jvm.ClassFile.FieldType.int), .methodLink "PairMachine" 15 ⟨"java/lang/Math", "max", "(II)I"⟩, .static ⟨"java/lang/Math", "max", "(II)I"⟩, .code ⟨"java/lang/Math", "max", "(II)I"⟩ prog_21_method_65_code 2 (Option.some Jvm.ClassFile.FieldType.int), .classLink "PairMachine" 22 "PairMachine$Tree", .instantiable "PairMachine$Tree" 7, .initialized "PairMachine$Tree", .code ⟨"PairMachine$Tree", "<init>", "()V"⟩ prog_10_method_1_code 1 (Option.none : Option Jvm.ClassFile.FieldType), .methodLink "PairMachine" 24 ⟨"PairMachine$Tree", "<init>", "()V"⟩, .instanceMethod ⟨"PairMachine$Tree", "<init>", "()V"⟩]
theorem wl_0_ok : wl_0 = [30, 31, 1, 0, 34, 32, 33, 15, 125, 35, 36, 37, 2, 38, 39, 40, 41, 42, 43, 44, 45, 3, 48, 46, 47].filterMap (fun i => tables_1_1[i]?) ∧ wl_0.all mj_gw = true := by decide +kernel
theorem wl_0_in : ∀ w ∈ wl_0, w ∈ gTS := fun w hw => by
  have h1 := hw
  rw [wl_0_ok.1] at h1
  obtain ⟨i, -, hi⟩ := List.mem_filterMap.mp h1
  exact List.mem_filter.mpr ⟨lw_in (tin_tables_1_1 w (List.mem_of_getElem? hi)), List.all_eq_true.mp wl_0_ok.2 w hw⟩
theorem tw_0 : Jvm.Cond.classLink "PairMachineLaw" 8 "PairMachine" ∈ gTS := wl_0_in _ (List.mem_of_getElem? (i := 0) rfl)
theorem tw_1 : Jvm.Cond.instantiable "PairMachine" 7 ∈ gTS := wl_0_in _ (List.mem_of_getElem? (i := 1) rfl)
theorem tw_2 : Jvm.Cond.initialized "PairMachine" ∈ gTS := wl_0_in _ (List.mem_of_getElem? (i := 2) rfl)
theorem tw_4 : Jvm.Cond.initialized "PairMachineLaw" ∈ gTS := wl_0_in _ (List.mem_of_getElem? (i := 3) rfl)
theorem tw_7 : Jvm.Cond.code ⟨"PairMachine", "<init>", "(I)V"⟩ prog_1_method_1_code 3 (Option.none : Option Jvm.ClassFile.FieldType) ∈ gTS := wl_0_in _ (List.mem_of_getElem? (i := 4) rfl)
theorem tw_8 : Jvm.Cond.methodLink "PairMachineLaw" 27 ⟨"PairMachine", "<init>", "(I)V"⟩ ∈ gTS := wl_0_in _ (List.mem_of_getElem? (i := 5) rfl)
theorem tw_9 : Jvm.Cond.instanceMethod ⟨"PairMachine", "<init>", "(I)V"⟩ ∈ gTS := wl_0_in _ (List.mem_of_getElem? (i := 6) rfl)
theorem tw_12 : Jvm.Cond.initialized "PairMachineModel" ∈ gTS := wl_0_in _ (List.mem_of_getElem? (i := 7) rfl)
theorem tw_16 : Jvm.Cond.arrayClass .long ∈ gTS := wl_0_in _ (List.mem_of_getElem? (i := 8) rfl)
theorem tw_96 : Jvm.Cond.methodLink "PairMachine" 1 ⟨"java/lang/Object", "<init>", "()V"⟩ ∈ gTS := wl_0_in _ (List.mem_of_getElem? (i := 9) rfl)
theorem tw_97 : Jvm.Cond.instanceMethod ⟨"java/lang/Object", "<init>", "()V"⟩ ∈ gTS := wl_0_in _ (List.mem_of_getElem? (i := 10) rfl)
theorem tw_98 : Jvm.Cond.code ⟨"java/lang/Object", "<init>", "()V"⟩ object_method_1_code 1 (Option.none : Option Jvm.ClassFile.FieldType) ∈ gTS := wl_0_in _ (List.mem_of_getElem? (i := 11) rfl)
theorem tw_99 : Jvm.Cond.initialized "java/lang/Math" ∈ gTS := wl_0_in _ (List.mem_of_getElem? (i := 12) rfl)
theorem tw_100 : Jvm.Cond.methodLink "PairMachine" 9 ⟨"java/lang/Math", "min", "(II)I"⟩ ∈ gTS := wl_0_in _ (List.mem_of_getElem? (i := 13) rfl)
theorem tw_101 : Jvm.Cond.static ⟨"java/lang/Math", "min", "(II)I"⟩ ∈ gTS := wl_0_in _ (List.mem_of_getElem? (i := 14) rfl)
theorem tw_102 : Jvm.Cond.code ⟨"java/lang/Math", "min", "(II)I"⟩ prog_21_method_69_code 2 (Option.some Jvm.ClassFile.FieldType.int) ∈ gTS := wl_0_in _ (List.mem_of_getElem? (i := 15) rfl)
theorem tw_103 : Jvm.Cond.methodLink "PairMachine" 15 ⟨"java/lang/Math", "max", "(II)I"⟩ ∈ gTS := wl_0_in _ (List.mem_of_getElem? (i := 16) rfl)
theorem tw_104 : Jvm.Cond.static ⟨"java/lang/Math", "max", "(II)I"⟩ ∈ gTS := wl_0_in _ (List.mem_of_getElem? (i := 17) rfl)
theorem tw_105 : Jvm.Cond.code ⟨"java/lang/Math", "max", "(II)I"⟩ prog_21_method_65_code 2 (Option.some Jvm.ClassFile.FieldType.int) ∈ gTS := wl_0_in _ (List.mem_of_getElem? (i := 18) rfl)
theorem tw_107 : Jvm.Cond.classLink "PairMachine" 22 "PairMachine$Tree" ∈ gTS := wl_0_in _ (List.mem_of_getElem? (i := 19) rfl)
theorem tw_108 : Jvm.Cond.instantiable "PairMachine$Tree" 7 ∈ gTS := wl_0_in _ (List.mem_of_getElem? (i := 20) rfl)
theorem tw_109 : Jvm.Cond.initialized "PairMachine$Tree" ∈ gTS := wl_0_in _ (List.mem_of_getElem? (i := 21) rfl)
theorem tw_110 : Jvm.Cond.code ⟨"PairMachine$Tree", "<init>", "()V"⟩ prog_10_method_1_code 1 (Option.none : Option Jvm.ClassFile.FieldType) ∈ gTS := wl_0_in _ (List.mem_of_getElem? (i := 22) rfl)
theorem tw_111 : Jvm.Cond.methodLink "PairMachine" 24 ⟨"PairMachine$Tree", "<init>", "()V"⟩ ∈ gTS := wl_0_in _ (List.mem_of_getElem? (i := 23) rfl)
theorem tw_112 : Jvm.Cond.instanceMethod ⟨"PairMachine$Tree", "<init>", "()V"⟩ ∈ gTS := wl_0_in _ (List.mem_of_getElem? (i := 24) rfl)
def wl_1 : List Cond := [.classLink "PairMachine" 25 "PairMachine$Text", .instantiable "PairMachine$Text" 2, .initialized "PairMachine$Text", .code ⟨"PairMachine$Text", "<init>", "()V"⟩ prog_9_method_1_code 1 (Option.none : Option Jvm.ClassFile.FieldType), .methodLink "PairMachine" 27 ⟨"PairMachine$Text", "<init>", "()V"⟩, .instanceMethod ⟨"PairMachine$Text", "<init>", "()V"⟩, .classLink "PairMachine" 32 "PairMachine$Reader", .instantiable "PairMachine$Reader" 3, .initialized "PairMachine$Reader", .code ⟨"PairMachine$Reader", "<init>", "(LPairMachine$Text;LPairMachine$Tree;)V"⟩ prog_7_method_1_code 3 (Option.none : Option Jvm.ClassFile.FieldType), .methodLink "PairMachine" 34 ⟨"PairMachine$Reader", "<init>", "(LPairMachine$Text;LPairMachine$Tree;)V"⟩, .instanceMethod ⟨"PairMachine$Reader", "<init>", "(LPairMachine$Text;LPairMachine$Tree;)V"⟩, .classLink "PairMachine" 41 "PairMachine$Code", .instantiable "PairMachine$Code" 5, .initialized "PairMachine$Code", .code ⟨"PairMachine$Code", "<init>", "(I)V"⟩ prog_2_method_1_code 2 (Option.none : Option Jvm.ClassFile.FieldType), .methodLink "PairMachine" 43 ⟨"PairMachine$Code", "<init>", "(I)V"⟩, .instanceMethod ⟨"PairMachine$Code", "<init>", "(I)V"⟩, .classLink "PairMachine" 50 "PairMachine$Coder", .instantiable "PairMachine$Coder" 5, .initialized "PairMachine$Coder", .code ⟨"PairMachine$Coder", "<init>", "(LPairMachine$Tree;LPairMachine$Code;)V"⟩ prog_3_method_1_code 3 (Option.none : Option Jvm.ClassFile.FieldType), .methodLink "PairMachine" 52 ⟨"PairMachine$Coder", "<init>", "(LPairMachine$Tree;LPairMachine$Code;)V"⟩, .instanceMethod ⟨"PairMachine$Coder", "<init>", "(LPairMachine$Tree;LPairMachine$Code;)V"⟩, .classLink "PairMachine" 59 "PairMachine$Machine"]
theorem wl_1_ok : wl_1 = [73, 74, 4, 77, 75, 76, 87, 88, 5, 91, 89, 90, 103, 104, 6, 107, 105, 106, 126, 127, 7, 130, 128, 129, 148].filterMap (fun i => tables_1_1[i]?) ∧ wl_1.all mj_gw = true := by decide +kernel
theorem wl_1_in : ∀ w ∈ wl_1, w ∈ gTS := fun w hw => by
  have h1 := hw
  rw [wl_1_ok.1] at h1
  obtain ⟨i, -, hi⟩ := List.mem_filterMap.mp h1
  exact List.mem_filter.mpr ⟨lw_in (tin_tables_1_1 w (List.mem_of_getElem? hi)), List.all_eq_true.mp wl_1_ok.2 w hw⟩
theorem tw_113 : Jvm.Cond.classLink "PairMachine" 25 "PairMachine$Text" ∈ gTS := wl_1_in _ (List.mem_of_getElem? (i := 0) rfl)
theorem tw_114 : Jvm.Cond.instantiable "PairMachine$Text" 2 ∈ gTS := wl_1_in _ (List.mem_of_getElem? (i := 1) rfl)
theorem tw_115 : Jvm.Cond.initialized "PairMachine$Text" ∈ gTS := wl_1_in _ (List.mem_of_getElem? (i := 2) rfl)
theorem tw_116 : Jvm.Cond.code ⟨"PairMachine$Text", "<init>", "()V"⟩ prog_9_method_1_code 1 (Option.none : Option Jvm.ClassFile.FieldType) ∈ gTS := wl_1_in _ (List.mem_of_getElem? (i := 3) rfl)
theorem tw_117 : Jvm.Cond.methodLink "PairMachine" 27 ⟨"PairMachine$Text", "<init>", "()V"⟩ ∈ gTS := wl_1_in _ (List.mem_of_getElem? (i := 4) rfl)
theorem tw_118 : Jvm.Cond.instanceMethod ⟨"PairMachine$Text", "<init>", "()V"⟩ ∈ gTS := wl_1_in _ (List.mem_of_getElem? (i := 5) rfl)
theorem tw_120 : Jvm.Cond.classLink "PairMachine" 32 "PairMachine$Reader" ∈ gTS := wl_1_in _ (List.mem_of_getElem? (i := 6) rfl)
theorem tw_121 : Jvm.Cond.instantiable "PairMachine$Reader" 3 ∈ gTS := wl_1_in _ (List.mem_of_getElem? (i := 7) rfl)
theorem tw_122 : Jvm.Cond.initialized "PairMachine$Reader" ∈ gTS := wl_1_in _ (List.mem_of_getElem? (i := 8) rfl)
theorem tw_123 : Jvm.Cond.code ⟨"PairMachine$Reader", "<init>", "(LPairMachine$Text;LPairMachine$Tree;)V"⟩ prog_7_method_1_code 3 (Option.none : Option Jvm.ClassFile.FieldType) ∈ gTS := wl_1_in _ (List.mem_of_getElem? (i := 9) rfl)
theorem tw_124 : Jvm.Cond.methodLink "PairMachine" 34 ⟨"PairMachine$Reader", "<init>", "(LPairMachine$Text;LPairMachine$Tree;)V"⟩ ∈ gTS := wl_1_in _ (List.mem_of_getElem? (i := 10) rfl)
theorem tw_125 : Jvm.Cond.instanceMethod ⟨"PairMachine$Reader", "<init>", "(LPairMachine$Text;LPairMachine$Tree;)V"⟩ ∈ gTS := wl_1_in _ (List.mem_of_getElem? (i := 11) rfl)
theorem tw_127 : Jvm.Cond.classLink "PairMachine" 41 "PairMachine$Code" ∈ gTS := wl_1_in _ (List.mem_of_getElem? (i := 12) rfl)
theorem tw_128 : Jvm.Cond.instantiable "PairMachine$Code" 5 ∈ gTS := wl_1_in _ (List.mem_of_getElem? (i := 13) rfl)
theorem tw_129 : Jvm.Cond.initialized "PairMachine$Code" ∈ gTS := wl_1_in _ (List.mem_of_getElem? (i := 14) rfl)
theorem tw_130 : Jvm.Cond.code ⟨"PairMachine$Code", "<init>", "(I)V"⟩ prog_2_method_1_code 2 (Option.none : Option Jvm.ClassFile.FieldType) ∈ gTS := wl_1_in _ (List.mem_of_getElem? (i := 15) rfl)
theorem tw_131 : Jvm.Cond.methodLink "PairMachine" 43 ⟨"PairMachine$Code", "<init>", "(I)V"⟩ ∈ gTS := wl_1_in _ (List.mem_of_getElem? (i := 16) rfl)
theorem tw_132 : Jvm.Cond.instanceMethod ⟨"PairMachine$Code", "<init>", "(I)V"⟩ ∈ gTS := wl_1_in _ (List.mem_of_getElem? (i := 17) rfl)
theorem tw_134 : Jvm.Cond.classLink "PairMachine" 50 "PairMachine$Coder" ∈ gTS := wl_1_in _ (List.mem_of_getElem? (i := 18) rfl)
theorem tw_135 : Jvm.Cond.instantiable "PairMachine$Coder" 5 ∈ gTS := wl_1_in _ (List.mem_of_getElem? (i := 19) rfl)
theorem tw_136 : Jvm.Cond.initialized "PairMachine$Coder" ∈ gTS := wl_1_in _ (List.mem_of_getElem? (i := 20) rfl)
theorem tw_137 : Jvm.Cond.code ⟨"PairMachine$Coder", "<init>", "(LPairMachine$Tree;LPairMachine$Code;)V"⟩ prog_3_method_1_code 3 (Option.none : Option Jvm.ClassFile.FieldType) ∈ gTS := wl_1_in _ (List.mem_of_getElem? (i := 21) rfl)
theorem tw_138 : Jvm.Cond.methodLink "PairMachine" 52 ⟨"PairMachine$Coder", "<init>", "(LPairMachine$Tree;LPairMachine$Code;)V"⟩ ∈ gTS := wl_1_in _ (List.mem_of_getElem? (i := 22) rfl)
theorem tw_139 : Jvm.Cond.instanceMethod ⟨"PairMachine$Coder", "<init>", "(LPairMachine$Tree;LPairMachine$Code;)V"⟩ ∈ gTS := wl_1_in _ (List.mem_of_getElem? (i := 23) rfl)
theorem tw_141 : Jvm.Cond.classLink "PairMachine" 59 "PairMachine$Machine" ∈ gTS := wl_1_in _ (List.mem_of_getElem? (i := 24) rfl)
def wl_2 : List Cond := [.instantiable "PairMachine$Machine" 10, .initialized "PairMachine$Machine", .code ⟨"PairMachine$Machine", "<init>", "(I)V"⟩ prog_5_method_1_code 2 (Option.none : Option Jvm.ClassFile.FieldType), .methodLink "PairMachine" 61 ⟨"PairMachine$Machine", "<init>", "(I)V"⟩, .instanceMethod ⟨"PairMachine$Machine", "<init>", "(I)V"⟩, .methodLink "PairMachine$Text" 3 ⟨"java/lang/Object", "<init>", "()V"⟩, .arrayClass .char, .fieldLink "PairMachine$Text" 11 "PairMachine$Text" "codes" "[C", .fieldLink "PairMachine$Text" 19 "PairMachine$Text" "length" "I", .methodLink "PairMachine$Tree" 5 ⟨"java/lang/Object", "<init>", "()V"⟩, .arrayClass .int, .fieldLink "PairMachine$Tree" 13 "PairMachine$Tree" "kinds" "[I", .fieldLink "PairMachine$Tree" 17 "PairMachine$Tree" "values" "[I", .fieldLink "PairMachine$Tree" 20 "PairMachine$Tree" "positions" "[I", .fieldLink "PairMachine$Tree" 23 "PairMachine$Tree" "firstParts" "[I", .fieldLink "PairMachine$Tree" 26 "PairMachine$Tree" "lastParts" "[I", .fieldLink "PairMachine$Tree" 29 "PairMachine$Tree" "followers" "[I", .fieldLink "PairMachine$Tree" 32 "PairMachine$Tree" "nodes" "I", .methodLink "PairMachine$Reader" 3 ⟨"java/lang/Object", "<init>", "()V"⟩, .fieldLink "PairMachine$Reader" 9 "PairMachine$Reader" "text" "LPairMachine$Text;", .fieldLink "PairMachine$Reader" 15 "PairMachine$Reader" "tree" "LPairMachine$Tree;", .fieldLink "PairMachine$Reader" 24 "PairMachine$Reader" "at" "I", .initialized "PairMachine$Op", .methodLink "PairMachine$Code" 3 ⟨"java/lang/Object", "<init>", "()V"⟩, .fieldLink "PairMachine$Code" 9 "PairMachine$Code" "heads" "[J"]
theorem wl_2_ok : wl_2 = [149, 8, 152, 150, 151, 78, 86, 79, 80, 49, 72, 50, 51, 52, 53, 54, 55, 56, 92, 93, 94, 95, 20, 108, 109].filterMap (fun i => tables_1_1[i]?) ∧ wl_2.all mj_gw = true := by decide +kernel
theorem wl_2_in : ∀ w ∈ wl_2, w ∈ gTS := fun w hw => by
  have h1 := hw
  rw [wl_2_ok.1] at h1
  obtain ⟨i, -, hi⟩ := List.mem_filterMap.mp h1
  exact List.mem_filter.mpr ⟨lw_in (tin_tables_1_1 w (List.mem_of_getElem? hi)), List.all_eq_true.mp wl_2_ok.2 w hw⟩
theorem tw_142 : Jvm.Cond.instantiable "PairMachine$Machine" 10 ∈ gTS := wl_2_in _ (List.mem_of_getElem? (i := 0) rfl)
theorem tw_143 : Jvm.Cond.initialized "PairMachine$Machine" ∈ gTS := wl_2_in _ (List.mem_of_getElem? (i := 1) rfl)
theorem tw_144 : Jvm.Cond.code ⟨"PairMachine$Machine", "<init>", "(I)V"⟩ prog_5_method_1_code 2 (Option.none : Option Jvm.ClassFile.FieldType) ∈ gTS := wl_2_in _ (List.mem_of_getElem? (i := 2) rfl)
theorem tw_145 : Jvm.Cond.methodLink "PairMachine" 61 ⟨"PairMachine$Machine", "<init>", "(I)V"⟩ ∈ gTS := wl_2_in _ (List.mem_of_getElem? (i := 3) rfl)
theorem tw_146 : Jvm.Cond.instanceMethod ⟨"PairMachine$Machine", "<init>", "(I)V"⟩ ∈ gTS := wl_2_in _ (List.mem_of_getElem? (i := 4) rfl)
theorem tw_221 : Jvm.Cond.methodLink "PairMachine$Text" 3 ⟨"java/lang/Object", "<init>", "()V"⟩ ∈ gTS := wl_2_in _ (List.mem_of_getElem? (i := 5) rfl)
theorem tw_222 : Jvm.Cond.arrayClass .char ∈ gTS := wl_2_in _ (List.mem_of_getElem? (i := 6) rfl)
theorem tw_223 : Jvm.Cond.fieldLink "PairMachine$Text" 11 "PairMachine$Text" "codes" "[C" ∈ gTS := wl_2_in _ (List.mem_of_getElem? (i := 7) rfl)
theorem tw_227 : Jvm.Cond.fieldLink "PairMachine$Text" 19 "PairMachine$Text" "length" "I" ∈ gTS := wl_2_in _ (List.mem_of_getElem? (i := 8) rfl)
theorem tw_231 : Jvm.Cond.methodLink "PairMachine$Tree" 5 ⟨"java/lang/Object", "<init>", "()V"⟩ ∈ gTS := wl_2_in _ (List.mem_of_getElem? (i := 9) rfl)
theorem tw_232 : Jvm.Cond.arrayClass .int ∈ gTS := wl_2_in _ (List.mem_of_getElem? (i := 10) rfl)
theorem tw_233 : Jvm.Cond.fieldLink "PairMachine$Tree" 13 "PairMachine$Tree" "kinds" "[I" ∈ gTS := wl_2_in _ (List.mem_of_getElem? (i := 11) rfl)
theorem tw_234 : Jvm.Cond.fieldLink "PairMachine$Tree" 17 "PairMachine$Tree" "values" "[I" ∈ gTS := wl_2_in _ (List.mem_of_getElem? (i := 12) rfl)
theorem tw_235 : Jvm.Cond.fieldLink "PairMachine$Tree" 20 "PairMachine$Tree" "positions" "[I" ∈ gTS := wl_2_in _ (List.mem_of_getElem? (i := 13) rfl)
theorem tw_236 : Jvm.Cond.fieldLink "PairMachine$Tree" 23 "PairMachine$Tree" "firstParts" "[I" ∈ gTS := wl_2_in _ (List.mem_of_getElem? (i := 14) rfl)
theorem tw_237 : Jvm.Cond.fieldLink "PairMachine$Tree" 26 "PairMachine$Tree" "lastParts" "[I" ∈ gTS := wl_2_in _ (List.mem_of_getElem? (i := 15) rfl)
theorem tw_238 : Jvm.Cond.fieldLink "PairMachine$Tree" 29 "PairMachine$Tree" "followers" "[I" ∈ gTS := wl_2_in _ (List.mem_of_getElem? (i := 16) rfl)
theorem tw_239 : Jvm.Cond.fieldLink "PairMachine$Tree" 32 "PairMachine$Tree" "nodes" "I" ∈ gTS := wl_2_in _ (List.mem_of_getElem? (i := 17) rfl)
theorem tw_252 : Jvm.Cond.methodLink "PairMachine$Reader" 3 ⟨"java/lang/Object", "<init>", "()V"⟩ ∈ gTS := wl_2_in _ (List.mem_of_getElem? (i := 18) rfl)
theorem tw_253 : Jvm.Cond.fieldLink "PairMachine$Reader" 9 "PairMachine$Reader" "text" "LPairMachine$Text;" ∈ gTS := wl_2_in _ (List.mem_of_getElem? (i := 19) rfl)
theorem tw_254 : Jvm.Cond.fieldLink "PairMachine$Reader" 15 "PairMachine$Reader" "tree" "LPairMachine$Tree;" ∈ gTS := wl_2_in _ (List.mem_of_getElem? (i := 20) rfl)
theorem tw_259 : Jvm.Cond.fieldLink "PairMachine$Reader" 24 "PairMachine$Reader" "at" "I" ∈ gTS := wl_2_in _ (List.mem_of_getElem? (i := 21) rfl)
theorem tw_308 : Jvm.Cond.initialized "PairMachine$Op" ∈ gTS := wl_2_in _ (List.mem_of_getElem? (i := 22) rfl)
theorem tw_365 : Jvm.Cond.methodLink "PairMachine$Code" 3 ⟨"java/lang/Object", "<init>", "()V"⟩ ∈ gTS := wl_2_in _ (List.mem_of_getElem? (i := 23) rfl)
theorem tw_366 : Jvm.Cond.fieldLink "PairMachine$Code" 9 "PairMachine$Code" "heads" "[J" ∈ gTS := wl_2_in _ (List.mem_of_getElem? (i := 24) rfl)
def wl_3 : List Cond := [.fieldLink "PairMachine$Code" 15 "PairMachine$Code" "tails" "[J", .fieldLink "PairMachine$Code" 18 "PairMachine$Code" "cells" "I", .fieldLink "PairMachine$Code" 22 "PairMachine$Code" "last" "I", .fieldLink "PairMachine$Code" 25 "PairMachine$Code" "inside" "Z", .initialized "PairMachine$Value", .methodLink "PairMachine$Coder" 3 ⟨"java/lang/Object", "<init>", "()V"⟩, .fieldLink "PairMachine$Coder" 9 "PairMachine$Coder" "tree" "LPairMachine$Tree;", .fieldLink "PairMachine$Coder" 15 "PairMachine$Coder" "code" "LPairMachine$Code;", .fieldLink "PairMachine$Coder" 19 "PairMachine$Coder" "frames" "[I", .fieldLink "PairMachine$Coder" 28 "PairMachine$Coder" "known" "I", .fieldLink "PairMachine$Coder" 32 "PairMachine$Coder" "firstUnknown" "I", .methodLink "PairMachine$Machine" 3 ⟨"java/lang/Object", "<init>", "()V"⟩, .classLink "PairMachine$Machine" 9 "PairMachine$Store", .instantiable "PairMachine$Store" 9, .initialized "PairMachine$Store", .code ⟨"PairMachine$Store", "<init>", "(I)V"⟩ prog_8_method_1_code 3 (Option.none : Option Jvm.ClassFile.FieldType), .methodLink "PairMachine$Machine" 11 ⟨"PairMachine$Store", "<init>", "(I)V"⟩, .instanceMethod ⟨"PairMachine$Store", "<init>", "(I)V"⟩, .classLink "PairMachine$Machine" 20 "PairMachine$Display", .instantiable "PairMachine$Display" 4, .initialized "PairMachine$Display", .code ⟨"PairMachine$Display", "<init>", "(LPairMachine$Store;)V"⟩ prog_4_method_1_code 2 (Option.none : Option Jvm.ClassFile.FieldType), .methodLink "PairMachine$Machine" 22 ⟨"PairMachine$Display", "<init>", "(LPairMachine$Store;)V"⟩, .instanceMethod ⟨"PairMachine$Display", "<init>", "(LPairMachine$Store;)V"⟩, .methodLink "PairMachine$Store" 3 ⟨"java/lang/Object", "<init>", "()V"⟩]
theorem wl_3_ok : wl_3 = [110, 111, 112, 113, 24, 131, 132, 133, 134, 135, 136, 153, 154, 155, 9, 158, 156, 157, 189, 190, 10, 193, 191, 192, 159].filterMap (fun i => tables_1_1[i]?) ∧ wl_3.all mj_gw = true := by decide +kernel
theorem wl_3_in : ∀ w ∈ wl_3, w ∈ gTS := fun w hw => by
  have h1 := hw
  rw [wl_3_ok.1] at h1
  obtain ⟨i, -, hi⟩ := List.mem_filterMap.mp h1
  exact List.mem_filter.mpr ⟨lw_in (tin_tables_1_1 w (List.mem_of_getElem? hi)), List.all_eq_true.mp wl_3_ok.2 w hw⟩
theorem tw_367 : Jvm.Cond.fieldLink "PairMachine$Code" 15 "PairMachine$Code" "tails" "[J" ∈ gTS := wl_3_in _ (List.mem_of_getElem? (i := 0) rfl)
theorem tw_368 : Jvm.Cond.fieldLink "PairMachine$Code" 18 "PairMachine$Code" "cells" "I" ∈ gTS := wl_3_in _ (List.mem_of_getElem? (i := 1) rfl)
theorem tw_369 : Jvm.Cond.fieldLink "PairMachine$Code" 22 "PairMachine$Code" "last" "I" ∈ gTS := wl_3_in _ (List.mem_of_getElem? (i := 2) rfl)
theorem tw_370 : Jvm.Cond.fieldLink "PairMachine$Code" 25 "PairMachine$Code" "inside" "Z" ∈ gTS := wl_3_in _ (List.mem_of_getElem? (i := 3) rfl)
theorem tw_372 : Jvm.Cond.initialized "PairMachine$Value" ∈ gTS := wl_3_in _ (List.mem_of_getElem? (i := 4) rfl)
theorem tw_386 : Jvm.Cond.methodLink "PairMachine$Coder" 3 ⟨"java/lang/Object", "<init>", "()V"⟩ ∈ gTS := wl_3_in _ (List.mem_of_getElem? (i := 5) rfl)
theorem tw_387 : Jvm.Cond.fieldLink "PairMachine$Coder" 9 "PairMachine$Coder" "tree" "LPairMachine$Tree;" ∈ gTS := wl_3_in _ (List.mem_of_getElem? (i := 6) rfl)
theorem tw_388 : Jvm.Cond.fieldLink "PairMachine$Coder" 15 "PairMachine$Coder" "code" "LPairMachine$Code;" ∈ gTS := wl_3_in _ (List.mem_of_getElem? (i := 7) rfl)
theorem tw_389 : Jvm.Cond.fieldLink "PairMachine$Coder" 19 "PairMachine$Coder" "frames" "[I" ∈ gTS := wl_3_in _ (List.mem_of_getElem? (i := 8) rfl)
theorem tw_394 : Jvm.Cond.fieldLink "PairMachine$Coder" 28 "PairMachine$Coder" "known" "I" ∈ gTS := wl_3_in _ (List.mem_of_getElem? (i := 9) rfl)
theorem tw_395 : Jvm.Cond.fieldLink "PairMachine$Coder" 32 "PairMachine$Coder" "firstUnknown" "I" ∈ gTS := wl_3_in _ (List.mem_of_getElem? (i := 10) rfl)
theorem tw_506 : Jvm.Cond.methodLink "PairMachine$Machine" 3 ⟨"java/lang/Object", "<init>", "()V"⟩ ∈ gTS := wl_3_in _ (List.mem_of_getElem? (i := 11) rfl)
theorem tw_507 : Jvm.Cond.classLink "PairMachine$Machine" 9 "PairMachine$Store" ∈ gTS := wl_3_in _ (List.mem_of_getElem? (i := 12) rfl)
theorem tw_508 : Jvm.Cond.instantiable "PairMachine$Store" 9 ∈ gTS := wl_3_in _ (List.mem_of_getElem? (i := 13) rfl)
theorem tw_509 : Jvm.Cond.initialized "PairMachine$Store" ∈ gTS := wl_3_in _ (List.mem_of_getElem? (i := 14) rfl)
theorem tw_510 : Jvm.Cond.code ⟨"PairMachine$Store", "<init>", "(I)V"⟩ prog_8_method_1_code 3 (Option.none : Option Jvm.ClassFile.FieldType) ∈ gTS := wl_3_in _ (List.mem_of_getElem? (i := 15) rfl)
theorem tw_511 : Jvm.Cond.methodLink "PairMachine$Machine" 11 ⟨"PairMachine$Store", "<init>", "(I)V"⟩ ∈ gTS := wl_3_in _ (List.mem_of_getElem? (i := 16) rfl)
theorem tw_512 : Jvm.Cond.instanceMethod ⟨"PairMachine$Store", "<init>", "(I)V"⟩ ∈ gTS := wl_3_in _ (List.mem_of_getElem? (i := 17) rfl)
theorem tw_514 : Jvm.Cond.classLink "PairMachine$Machine" 20 "PairMachine$Display" ∈ gTS := wl_3_in _ (List.mem_of_getElem? (i := 18) rfl)
theorem tw_515 : Jvm.Cond.instantiable "PairMachine$Display" 4 ∈ gTS := wl_3_in _ (List.mem_of_getElem? (i := 19) rfl)
theorem tw_516 : Jvm.Cond.initialized "PairMachine$Display" ∈ gTS := wl_3_in _ (List.mem_of_getElem? (i := 20) rfl)
theorem tw_517 : Jvm.Cond.code ⟨"PairMachine$Display", "<init>", "(LPairMachine$Store;)V"⟩ prog_4_method_1_code 2 (Option.none : Option Jvm.ClassFile.FieldType) ∈ gTS := wl_3_in _ (List.mem_of_getElem? (i := 21) rfl)
theorem tw_518 : Jvm.Cond.methodLink "PairMachine$Machine" 22 ⟨"PairMachine$Display", "<init>", "(LPairMachine$Store;)V"⟩ ∈ gTS := wl_3_in _ (List.mem_of_getElem? (i := 22) rfl)
theorem tw_519 : Jvm.Cond.instanceMethod ⟨"PairMachine$Display", "<init>", "(LPairMachine$Store;)V"⟩ ∈ gTS := wl_3_in _ (List.mem_of_getElem? (i := 23) rfl)
theorem tw_696 : Jvm.Cond.methodLink "PairMachine$Store" 3 ⟨"java/lang/Object", "<init>", "()V"⟩ ∈ gTS := wl_3_in _ (List.mem_of_getElem? (i := 24) rfl)
def wl_4 : List Cond := [.fieldLink "PairMachine$Store" 9 "PairMachine$Store" "size" "I", .fieldLink "PairMachine$Store" 15 "PairMachine$Store" "heads" "[J", .fieldLink "PairMachine$Store" 19 "PairMachine$Store" "tails" "[J", .fieldLink "PairMachine$Store" 22 "PairMachine$Store" "free" "[I", .arrayClass .boolean, .fieldLink "PairMachine$Store" 26 "PairMachine$Store" "marked" "[Z", .fieldLink "PairMachine$Store" 30 "PairMachine$Store" "reached" "[I", .fieldLink "PairMachine$Store" 33 "PairMachine$Store" "freeCells" "I", .fieldLink "PairMachine$Store" 48 "PairMachine$Store" "codeCells" "I", .fieldLink "PairMachine$Store" 84 "PairMachine$Store" "reachedCells" "I", .methodLink "PairMachine$Display" 3 ⟨"java/lang/Object", "<init>", "()V"⟩, .fieldLink "PairMachine$Display" 9 "PairMachine$Display" "store" "LPairMachine$Store;", .classLink "PairMachine$Display" 15 "java/lang/StringBuilder", .instantiable "java/lang/StringBuilder" 4, .initialized "java/lang/StringBuilder", .code ⟨"java/lang/StringBuilder", "<init>", "()V"⟩ prog_24_method_1_code 1 (Option.none : Option Jvm.ClassFile.FieldType), .methodLink "PairMachine$Display" 17 ⟨"java/lang/StringBuilder", "<init>", "()V"⟩, .instanceMethod ⟨"java/lang/StringBuilder", "<init>", "()V"⟩, .fieldLink "PairMachine$Display" 18 "PairMachine$Display" "line" "Ljava/lang/StringBuilder;", .fieldLink "PairMachine$Display" 22 "PairMachine$Display" "rests" "[J", .fieldLink "PairMachine$Display" 30 "PairMachine$Display" "open" "I", .initialized "java/lang/String", .code ⟨"java/lang/AbstractStringBuilder", "<init>", "(I)V"⟩ prog_14_method_2_code 2 (Option.none : Option Jvm.ClassFile.FieldType), .initialized "java/lang/AbstractStringBuilder", .methodLink "java/lang/StringBuilder" 1 ⟨"java/lang/AbstractStringBuilder", "<init>", "(I)V"⟩]
theorem wl_4_ok : wl_4 = [160, 161, 162, 163, 188, 164, 165, 166, 168, 167, 194, 228, 195, 196, 12, 199, 197, 198, 229, 230, 231, 13, 202, 11, 200].filterMap (fun i => tables_1_1[i]?) ∧ wl_4.all mj_gw = true := by decide +kernel
theorem wl_4_in : ∀ w ∈ wl_4, w ∈ gTS := fun w hw => by
  have h1 := hw
  rw [wl_4_ok.1] at h1
  obtain ⟨i, -, hi⟩ := List.mem_filterMap.mp h1
  exact List.mem_filter.mpr ⟨lw_in (tin_tables_1_1 w (List.mem_of_getElem? hi)), List.all_eq_true.mp wl_4_ok.2 w hw⟩
theorem tw_697 : Jvm.Cond.fieldLink "PairMachine$Store" 9 "PairMachine$Store" "size" "I" ∈ gTS := wl_4_in _ (List.mem_of_getElem? (i := 0) rfl)
theorem tw_698 : Jvm.Cond.fieldLink "PairMachine$Store" 15 "PairMachine$Store" "heads" "[J" ∈ gTS := wl_4_in _ (List.mem_of_getElem? (i := 1) rfl)
theorem tw_699 : Jvm.Cond.fieldLink "PairMachine$Store" 19 "PairMachine$Store" "tails" "[J" ∈ gTS := wl_4_in _ (List.mem_of_getElem? (i := 2) rfl)
theorem tw_700 : Jvm.Cond.fieldLink "PairMachine$Store" 22 "PairMachine$Store" "free" "[I" ∈ gTS := wl_4_in _ (List.mem_of_getElem? (i := 3) rfl)
theorem tw_701 : Jvm.Cond.arrayClass .boolean ∈ gTS := wl_4_in _ (List.mem_of_getElem? (i := 4) rfl)
theorem tw_702 : Jvm.Cond.fieldLink "PairMachine$Store" 26 "PairMachine$Store" "marked" "[Z" ∈ gTS := wl_4_in _ (List.mem_of_getElem? (i := 5) rfl)
theorem tw_703 : Jvm.Cond.fieldLink "PairMachine$Store" 30 "PairMachine$Store" "reached" "[I" ∈ gTS := wl_4_in _ (List.mem_of_getElem? (i := 6) rfl)
theorem tw_704 : Jvm.Cond.fieldLink "PairMachine$Store" 33 "PairMachine$Store" "freeCells" "I" ∈ gTS := wl_4_in _ (List.mem_of_getElem? (i := 7) rfl)
theorem tw_707 : Jvm.Cond.fieldLink "PairMachine$Store" 48 "PairMachine$Store" "codeCells" "I" ∈ gTS := wl_4_in _ (List.mem_of_getElem? (i := 8) rfl)
theorem tw_728 : Jvm.Cond.fieldLink "PairMachine$Store" 84 "PairMachine$Store" "reachedCells" "I" ∈ gTS := wl_4_in _ (List.mem_of_getElem? (i := 9) rfl)
theorem tw_734 : Jvm.Cond.methodLink "PairMachine$Display" 3 ⟨"java/lang/Object", "<init>", "()V"⟩ ∈ gTS := wl_4_in _ (List.mem_of_getElem? (i := 10) rfl)
theorem tw_735 : Jvm.Cond.fieldLink "PairMachine$Display" 9 "PairMachine$Display" "store" "LPairMachine$Store;" ∈ gTS := wl_4_in _ (List.mem_of_getElem? (i := 11) rfl)
theorem tw_736 : Jvm.Cond.classLink "PairMachine$Display" 15 "java/lang/StringBuilder" ∈ gTS := wl_4_in _ (List.mem_of_getElem? (i := 12) rfl)
theorem tw_737 : Jvm.Cond.instantiable "java/lang/StringBuilder" 4 ∈ gTS := wl_4_in _ (List.mem_of_getElem? (i := 13) rfl)
theorem tw_738 : Jvm.Cond.initialized "java/lang/StringBuilder" ∈ gTS := wl_4_in _ (List.mem_of_getElem? (i := 14) rfl)
theorem tw_739 : Jvm.Cond.code ⟨"java/lang/StringBuilder", "<init>", "()V"⟩ prog_24_method_1_code 1 (Option.none : Option Jvm.ClassFile.FieldType) ∈ gTS := wl_4_in _ (List.mem_of_getElem? (i := 15) rfl)
theorem tw_740 : Jvm.Cond.methodLink "PairMachine$Display" 17 ⟨"java/lang/StringBuilder", "<init>", "()V"⟩ ∈ gTS := wl_4_in _ (List.mem_of_getElem? (i := 16) rfl)
theorem tw_741 : Jvm.Cond.instanceMethod ⟨"java/lang/StringBuilder", "<init>", "()V"⟩ ∈ gTS := wl_4_in _ (List.mem_of_getElem? (i := 17) rfl)
theorem tw_742 : Jvm.Cond.fieldLink "PairMachine$Display" 18 "PairMachine$Display" "line" "Ljava/lang/StringBuilder;" ∈ gTS := wl_4_in _ (List.mem_of_getElem? (i := 18) rfl)
theorem tw_743 : Jvm.Cond.fieldLink "PairMachine$Display" 22 "PairMachine$Display" "rests" "[J" ∈ gTS := wl_4_in _ (List.mem_of_getElem? (i := 19) rfl)
theorem tw_748 : Jvm.Cond.fieldLink "PairMachine$Display" 30 "PairMachine$Display" "open" "I" ∈ gTS := wl_4_in _ (List.mem_of_getElem? (i := 20) rfl)
theorem tw_788 : Jvm.Cond.initialized "java/lang/String" ∈ gTS := wl_4_in _ (List.mem_of_getElem? (i := 21) rfl)
theorem tw_1068 : Jvm.Cond.code ⟨"java/lang/AbstractStringBuilder", "<init>", "(I)V"⟩ prog_14_method_2_code 2 (Option.none : Option Jvm.ClassFile.FieldType) ∈ gTS := wl_4_in _ (List.mem_of_getElem? (i := 22) rfl)
theorem tw_1069 : Jvm.Cond.initialized "java/lang/AbstractStringBuilder" ∈ gTS := wl_4_in _ (List.mem_of_getElem? (i := 23) rfl)
theorem tw_1070 : Jvm.Cond.methodLink "java/lang/StringBuilder" 1 ⟨"java/lang/AbstractStringBuilder", "<init>", "(I)V"⟩ ∈ gTS := wl_4_in _ (List.mem_of_getElem? (i := 24) rfl)
def wl_5 : List Cond := [.instanceMethod ⟨"java/lang/AbstractStringBuilder", "<init>", "(I)V"⟩, .methodLink "java/lang/AbstractStringBuilder" 3 ⟨"java/lang/Object", "<init>", "()V"⟩, .fieldLink "java/lang/AbstractStringBuilder" 18 "java/lang/String" "COMPACT_STRINGS" "Z", .arrayClass .byte, .fieldLink "java/lang/AbstractStringBuilder" 15 "java/lang/AbstractStringBuilder" "value" "[B", .fieldLink "java/lang/AbstractStringBuilder" 22 "java/lang/AbstractStringBuilder" "coder" "B", .superclass "java/lang/StringBuilder" "java/lang/AbstractStringBuilder", .fieldLink "java/lang/AbstractStringBuilder" 79 "java/lang/AbstractStringBuilder" "count" "I", .initialized "jdk/internal/util/Preconditions", .initialized "java/lang/StringLatin1", .fieldLink "java/lang/AbstractStringBuilder" 73 "java/lang/AbstractStringBuilder" "maybeLatin1" "Z", .initialized "java/util/Arrays", .initialized "jdk/internal/util/ArraysSupport", .initialized "java/lang/System", .initialized "java/lang/Integer", .laysFinal "PairMachine$Text" "PairMachine$Text" "codes" "[C", .lays "PairMachine$Text" "PairMachine$Text" "length" "I", .laysFinal "PairMachine$Tree" "PairMachine$Tree" "kinds" "[I", .laysFinal "PairMachine$Tree" "PairMachine$Tree" "values" "[I", .laysFinal "PairMachine$Tree" "PairMachine$Tree" "positions" "[I", .laysFinal "PairMachine$Tree" "PairMachine$Tree" "firstParts" "[I", .laysFinal "PairMachine$Tree" "PairMachine$Tree" "lastParts" "[I", .laysFinal "PairMachine$Tree" "PairMachine$Tree" "followers" "[I", .lays "PairMachine$Tree" "PairMachine$Tree" "nodes" "I", .laysFinal "PairMachine$Reader" "PairMachine$Reader" "text" "LPairMachine$Text;"]
theorem wl_5_ok : wl_5 = [201, 203, 204, 227, 213, 214, 226, 217, 22, 21, 215, 27, 26, 28, 29, 81, 83, 57, 59, 61, 63, 65, 67, 69, 96].filterMap (fun i => tables_1_1[i]?) ∧ wl_5.all mj_gw = true := by decide +kernel
theorem wl_5_in : ∀ w ∈ wl_5, w ∈ gTS := fun w hw => by
  have h1 := hw
  rw [wl_5_ok.1] at h1
  obtain ⟨i, -, hi⟩ := List.mem_filterMap.mp h1
  exact List.mem_filter.mpr ⟨lw_in (tin_tables_1_1 w (List.mem_of_getElem? hi)), List.all_eq_true.mp wl_5_ok.2 w hw⟩
theorem tw_1071 : Jvm.Cond.instanceMethod ⟨"java/lang/AbstractStringBuilder", "<init>", "(I)V"⟩ ∈ gTS := wl_5_in _ (List.mem_of_getElem? (i := 0) rfl)
theorem tw_1072 : Jvm.Cond.methodLink "java/lang/AbstractStringBuilder" 3 ⟨"java/lang/Object", "<init>", "()V"⟩ ∈ gTS := wl_5_in _ (List.mem_of_getElem? (i := 1) rfl)
theorem tw_1073 : Jvm.Cond.fieldLink "java/lang/AbstractStringBuilder" 18 "java/lang/String" "COMPACT_STRINGS" "Z" ∈ gTS := wl_5_in _ (List.mem_of_getElem? (i := 2) rfl)
theorem tw_1074 : Jvm.Cond.arrayClass .byte ∈ gTS := wl_5_in _ (List.mem_of_getElem? (i := 3) rfl)
theorem tw_1075 : Jvm.Cond.fieldLink "java/lang/AbstractStringBuilder" 15 "java/lang/AbstractStringBuilder" "value" "[B" ∈ gTS := wl_5_in _ (List.mem_of_getElem? (i := 4) rfl)
theorem tw_1076 : Jvm.Cond.fieldLink "java/lang/AbstractStringBuilder" 22 "java/lang/AbstractStringBuilder" "coder" "B" ∈ gTS := wl_5_in _ (List.mem_of_getElem? (i := 5) rfl)
theorem tw_1081 : Jvm.Cond.superclass "java/lang/StringBuilder" "java/lang/AbstractStringBuilder" ∈ gTS := wl_5_in _ (List.mem_of_getElem? (i := 6) rfl)
theorem tw_1082 : Jvm.Cond.fieldLink "java/lang/AbstractStringBuilder" 79 "java/lang/AbstractStringBuilder" "count" "I" ∈ gTS := wl_5_in _ (List.mem_of_getElem? (i := 7) rfl)
theorem tw_1093 : Jvm.Cond.initialized "jdk/internal/util/Preconditions" ∈ gTS := wl_5_in _ (List.mem_of_getElem? (i := 8) rfl)
theorem tw_1110 : Jvm.Cond.initialized "java/lang/StringLatin1" ∈ gTS := wl_5_in _ (List.mem_of_getElem? (i := 9) rfl)
theorem tw_1139 : Jvm.Cond.fieldLink "java/lang/AbstractStringBuilder" 73 "java/lang/AbstractStringBuilder" "maybeLatin1" "Z" ∈ gTS := wl_5_in _ (List.mem_of_getElem? (i := 10) rfl)
theorem tw_1145 : Jvm.Cond.initialized "java/util/Arrays" ∈ gTS := wl_5_in _ (List.mem_of_getElem? (i := 11) rfl)
theorem tw_1149 : Jvm.Cond.initialized "jdk/internal/util/ArraysSupport" ∈ gTS := wl_5_in _ (List.mem_of_getElem? (i := 12) rfl)
theorem tw_1159 : Jvm.Cond.initialized "java/lang/System" ∈ gTS := wl_5_in _ (List.mem_of_getElem? (i := 13) rfl)
theorem tw_1172 : Jvm.Cond.initialized "java/lang/Integer" ∈ gTS := wl_5_in _ (List.mem_of_getElem? (i := 14) rfl)
theorem tw_1206 : Jvm.Cond.laysFinal "PairMachine$Text" "PairMachine$Text" "codes" "[C" ∈ gTS := wl_5_in _ (List.mem_of_getElem? (i := 15) rfl)
theorem tw_1207 : Jvm.Cond.lays "PairMachine$Text" "PairMachine$Text" "length" "I" ∈ gTS := wl_5_in _ (List.mem_of_getElem? (i := 16) rfl)
theorem tw_1208 : Jvm.Cond.laysFinal "PairMachine$Tree" "PairMachine$Tree" "kinds" "[I" ∈ gTS := wl_5_in _ (List.mem_of_getElem? (i := 17) rfl)
theorem tw_1209 : Jvm.Cond.laysFinal "PairMachine$Tree" "PairMachine$Tree" "values" "[I" ∈ gTS := wl_5_in _ (List.mem_of_getElem? (i := 18) rfl)
theorem tw_1210 : Jvm.Cond.laysFinal "PairMachine$Tree" "PairMachine$Tree" "positions" "[I" ∈ gTS := wl_5_in _ (List.mem_of_getElem? (i := 19) rfl)
theorem tw_1211 : Jvm.Cond.laysFinal "PairMachine$Tree" "PairMachine$Tree" "firstParts" "[I" ∈ gTS := wl_5_in _ (List.mem_of_getElem? (i := 20) rfl)
theorem tw_1212 : Jvm.Cond.laysFinal "PairMachine$Tree" "PairMachine$Tree" "lastParts" "[I" ∈ gTS := wl_5_in _ (List.mem_of_getElem? (i := 21) rfl)
theorem tw_1213 : Jvm.Cond.laysFinal "PairMachine$Tree" "PairMachine$Tree" "followers" "[I" ∈ gTS := wl_5_in _ (List.mem_of_getElem? (i := 22) rfl)
theorem tw_1214 : Jvm.Cond.lays "PairMachine$Tree" "PairMachine$Tree" "nodes" "I" ∈ gTS := wl_5_in _ (List.mem_of_getElem? (i := 23) rfl)
theorem tw_1215 : Jvm.Cond.laysFinal "PairMachine$Reader" "PairMachine$Reader" "text" "LPairMachine$Text;" ∈ gTS := wl_5_in _ (List.mem_of_getElem? (i := 24) rfl)
def wl_6 : List Cond := [.laysFinal "PairMachine$Reader" "PairMachine$Reader" "tree" "LPairMachine$Tree;", .lays "PairMachine$Reader" "PairMachine$Reader" "at" "I", .laysFinal "PairMachine$Code" "PairMachine$Code" "heads" "[J", .laysFinal "PairMachine$Code" "PairMachine$Code" "tails" "[J", .lays "PairMachine$Code" "PairMachine$Code" "cells" "I", .lays "PairMachine$Code" "PairMachine$Code" "last" "I", .lays "PairMachine$Code" "PairMachine$Code" "inside" "Z", .laysFinal "PairMachine$Coder" "PairMachine$Coder" "tree" "LPairMachine$Tree;", .laysFinal "PairMachine$Coder" "PairMachine$Coder" "code" "LPairMachine$Code;", .laysFinal "PairMachine$Coder" "PairMachine$Coder" "frames" "[I", .lays "PairMachine$Coder" "PairMachine$Coder" "known" "I", .lays "PairMachine$Coder" "PairMachine$Coder" "firstUnknown" "I", .laysFinal "PairMachine$Store" "PairMachine$Store" "size" "I", .laysFinal "PairMachine$Store" "PairMachine$Store" "heads" "[J", .laysFinal "PairMachine$Store" "PairMachine$Store" "tails" "[J", .laysFinal "PairMachine$Store" "PairMachine$Store" "free" "[I", .laysFinal "PairMachine$Store" "PairMachine$Store" "marked" "[Z", .laysFinal "PairMachine$Store" "PairMachine$Store" "reached" "[I", .lays "PairMachine$Store" "PairMachine$Store" "freeCells" "I", .lays "PairMachine$Store" "PairMachine$Store" "reachedCells" "I", .lays "PairMachine$Store" "PairMachine$Store" "codeCells" "I", .laysFinal "PairMachine$Display" "PairMachine$Display" "store" "LPairMachine$Store;", .laysFinal "PairMachine$Display" "PairMachine$Display" "line" "Ljava/lang/StringBuilder;", .laysFinal "PairMachine$Display" "PairMachine$Display" "rests" "[J", .lays "PairMachine$Display" "PairMachine$Display" "open" "I"]
theorem wl_6_ok : wl_6 = [98, 100, 114, 116, 118, 120, 122, 137, 139, 141, 143, 145, 169, 171, 173, 175, 177, 179, 181, 183, 185, 232, 234, 236, 238].filterMap (fun i => tables_1_1[i]?) ∧ wl_6.all mj_gw = true := by decide +kernel
theorem wl_6_in : ∀ w ∈ wl_6, w ∈ gTS := fun w hw => by
  have h1 := hw
  rw [wl_6_ok.1] at h1
  obtain ⟨i, -, hi⟩ := List.mem_filterMap.mp h1
  exact List.mem_filter.mpr ⟨lw_in (tin_tables_1_1 w (List.mem_of_getElem? hi)), List.all_eq_true.mp wl_6_ok.2 w hw⟩
theorem tw_1216 : Jvm.Cond.laysFinal "PairMachine$Reader" "PairMachine$Reader" "tree" "LPairMachine$Tree;" ∈ gTS := wl_6_in _ (List.mem_of_getElem? (i := 0) rfl)
theorem tw_1217 : Jvm.Cond.lays "PairMachine$Reader" "PairMachine$Reader" "at" "I" ∈ gTS := wl_6_in _ (List.mem_of_getElem? (i := 1) rfl)
theorem tw_1218 : Jvm.Cond.laysFinal "PairMachine$Code" "PairMachine$Code" "heads" "[J" ∈ gTS := wl_6_in _ (List.mem_of_getElem? (i := 2) rfl)
theorem tw_1219 : Jvm.Cond.laysFinal "PairMachine$Code" "PairMachine$Code" "tails" "[J" ∈ gTS := wl_6_in _ (List.mem_of_getElem? (i := 3) rfl)
theorem tw_1220 : Jvm.Cond.lays "PairMachine$Code" "PairMachine$Code" "cells" "I" ∈ gTS := wl_6_in _ (List.mem_of_getElem? (i := 4) rfl)
theorem tw_1221 : Jvm.Cond.lays "PairMachine$Code" "PairMachine$Code" "last" "I" ∈ gTS := wl_6_in _ (List.mem_of_getElem? (i := 5) rfl)
theorem tw_1222 : Jvm.Cond.lays "PairMachine$Code" "PairMachine$Code" "inside" "Z" ∈ gTS := wl_6_in _ (List.mem_of_getElem? (i := 6) rfl)
theorem tw_1223 : Jvm.Cond.laysFinal "PairMachine$Coder" "PairMachine$Coder" "tree" "LPairMachine$Tree;" ∈ gTS := wl_6_in _ (List.mem_of_getElem? (i := 7) rfl)
theorem tw_1224 : Jvm.Cond.laysFinal "PairMachine$Coder" "PairMachine$Coder" "code" "LPairMachine$Code;" ∈ gTS := wl_6_in _ (List.mem_of_getElem? (i := 8) rfl)
theorem tw_1225 : Jvm.Cond.laysFinal "PairMachine$Coder" "PairMachine$Coder" "frames" "[I" ∈ gTS := wl_6_in _ (List.mem_of_getElem? (i := 9) rfl)
theorem tw_1226 : Jvm.Cond.lays "PairMachine$Coder" "PairMachine$Coder" "known" "I" ∈ gTS := wl_6_in _ (List.mem_of_getElem? (i := 10) rfl)
theorem tw_1227 : Jvm.Cond.lays "PairMachine$Coder" "PairMachine$Coder" "firstUnknown" "I" ∈ gTS := wl_6_in _ (List.mem_of_getElem? (i := 11) rfl)
theorem tw_1238 : Jvm.Cond.laysFinal "PairMachine$Store" "PairMachine$Store" "size" "I" ∈ gTS := wl_6_in _ (List.mem_of_getElem? (i := 12) rfl)
theorem tw_1239 : Jvm.Cond.laysFinal "PairMachine$Store" "PairMachine$Store" "heads" "[J" ∈ gTS := wl_6_in _ (List.mem_of_getElem? (i := 13) rfl)
theorem tw_1240 : Jvm.Cond.laysFinal "PairMachine$Store" "PairMachine$Store" "tails" "[J" ∈ gTS := wl_6_in _ (List.mem_of_getElem? (i := 14) rfl)
theorem tw_1241 : Jvm.Cond.laysFinal "PairMachine$Store" "PairMachine$Store" "free" "[I" ∈ gTS := wl_6_in _ (List.mem_of_getElem? (i := 15) rfl)
theorem tw_1242 : Jvm.Cond.laysFinal "PairMachine$Store" "PairMachine$Store" "marked" "[Z" ∈ gTS := wl_6_in _ (List.mem_of_getElem? (i := 16) rfl)
theorem tw_1243 : Jvm.Cond.laysFinal "PairMachine$Store" "PairMachine$Store" "reached" "[I" ∈ gTS := wl_6_in _ (List.mem_of_getElem? (i := 17) rfl)
theorem tw_1244 : Jvm.Cond.lays "PairMachine$Store" "PairMachine$Store" "freeCells" "I" ∈ gTS := wl_6_in _ (List.mem_of_getElem? (i := 18) rfl)
theorem tw_1245 : Jvm.Cond.lays "PairMachine$Store" "PairMachine$Store" "reachedCells" "I" ∈ gTS := wl_6_in _ (List.mem_of_getElem? (i := 19) rfl)
theorem tw_1246 : Jvm.Cond.lays "PairMachine$Store" "PairMachine$Store" "codeCells" "I" ∈ gTS := wl_6_in _ (List.mem_of_getElem? (i := 20) rfl)
theorem tw_1247 : Jvm.Cond.laysFinal "PairMachine$Display" "PairMachine$Display" "store" "LPairMachine$Store;" ∈ gTS := wl_6_in _ (List.mem_of_getElem? (i := 21) rfl)
theorem tw_1248 : Jvm.Cond.laysFinal "PairMachine$Display" "PairMachine$Display" "line" "Ljava/lang/StringBuilder;" ∈ gTS := wl_6_in _ (List.mem_of_getElem? (i := 22) rfl)
theorem tw_1249 : Jvm.Cond.laysFinal "PairMachine$Display" "PairMachine$Display" "rests" "[J" ∈ gTS := wl_6_in _ (List.mem_of_getElem? (i := 23) rfl)
theorem tw_1250 : Jvm.Cond.lays "PairMachine$Display" "PairMachine$Display" "open" "I" ∈ gTS := wl_6_in _ (List.mem_of_getElem? (i := 24) rfl)
def wl_7 : List Cond := [.lays "java/lang/StringBuilder" "java/lang/AbstractStringBuilder" "value" "[B", .lays "java/lang/StringBuilder" "java/lang/AbstractStringBuilder" "coder" "B", .lays "java/lang/StringBuilder" "java/lang/AbstractStringBuilder" "maybeLatin1" "Z", .lays "java/lang/StringBuilder" "java/lang/AbstractStringBuilder" "count" "I"]
theorem wl_7_ok : wl_7 = [218, 220, 222, 224].filterMap (fun i => tables_1_1[i]?) ∧ wl_7.all mj_gw = true := by decide +kernel
theorem wl_7_in : ∀ w ∈ wl_7, w ∈ gTS := fun w hw => by
  have h1 := hw
  rw [wl_7_ok.1] at h1
  obtain ⟨i, -, hi⟩ := List.mem_filterMap.mp h1
  exact List.mem_filter.mpr ⟨lw_in (tin_tables_1_1 w (List.mem_of_getElem? hi)), List.all_eq_true.mp wl_7_ok.2 w hw⟩
theorem tw_1251 : Jvm.Cond.lays "java/lang/StringBuilder" "java/lang/AbstractStringBuilder" "value" "[B" ∈ gTS := wl_7_in _ (List.mem_of_getElem? (i := 0) rfl)
theorem tw_1252 : Jvm.Cond.lays "java/lang/StringBuilder" "java/lang/AbstractStringBuilder" "coder" "B" ∈ gTS := wl_7_in _ (List.mem_of_getElem? (i := 1) rfl)
theorem tw_1253 : Jvm.Cond.lays "java/lang/StringBuilder" "java/lang/AbstractStringBuilder" "maybeLatin1" "Z" ∈ gTS := wl_7_in _ (List.mem_of_getElem? (i := 2) rfl)
theorem tw_1254 : Jvm.Cond.lays "java/lang/StringBuilder" "java/lang/AbstractStringBuilder" "count" "I" ∈ gTS := wl_7_in _ (List.mem_of_getElem? (i := 3) rfl)
def wl_8 : List Cond := [.code ⟨"PairMachineLaw", "cell", "([II)I"⟩ method_2_code 2 (Option.some Jvm.ClassFile.FieldType.int), .methodLink "PairMachineLaw" 21 ⟨"PairMachineLaw", "cell", "([II)I"⟩, .static ⟨"PairMachineLaw", "cell", "([II)I"⟩, .code ⟨"PairMachine", "write", "(J)Z"⟩ prog_1_method_2_code 3 (Option.some Jvm.ClassFile.FieldType.boolean), .methodLink "PairMachineLaw" 35 ⟨"PairMachine", "write", "(J)Z"⟩, .instanceMethod ⟨"PairMachine", "write", "(J)Z"⟩, .selects "PairMachine" ⟨"PairMachine", "write", "(J)Z"⟩ ⟨"PairMachine", "write", "(J)Z"⟩, .codeWith ⟨"PairMachineLaw", "compile", "(LPairMachine;[J)I"⟩ method_3_code 3 (Option.some Jvm.ClassFile.FieldType.int) [(0, 8, 11, 13), (0, 8, 14, 15)], .methodLink "PairMachineLaw" 40 ⟨"PairMachineLaw", "compile", "(LPairMachine;[J)I"⟩, .static ⟨"PairMachineLaw", "compile", "(LPairMachine;[J)I"⟩, .code ⟨"PairMachine", "position", "()I"⟩ prog_1_method_4_code 1 (Option.some Jvm.ClassFile.FieldType.int), .methodLink "PairMachineLaw" 44 ⟨"PairMachine", "position", "()I"⟩, .instanceMethod ⟨"PairMachine", "position", "()I"⟩, .selects "PairMachine" ⟨"PairMachine", "position", "()I"⟩ ⟨"PairMachine", "position", "()I"⟩, .code ⟨"PairMachine", "start", "()Z"⟩ prog_1_method_5_code 1 (Option.some Jvm.ClassFile.FieldType.boolean), .methodLink "PairMachineLaw" 48 ⟨"PairMachine", "start", "()Z"⟩, .instanceMethod ⟨"PairMachine", "start", "()Z"⟩, .selects "PairMachine" ⟨"PairMachine", "start", "()Z"⟩ ⟨"PairMachine", "start", "()Z"⟩, .code ⟨"PairMachine", "state", "()I"⟩ prog_1_method_7_code 1 (Option.some Jvm.ClassFile.FieldType.int), .methodLink "PairMachineLaw" 57 ⟨"PairMachine", "state", "()I"⟩, .instanceMethod ⟨"PairMachine", "state", "()I"⟩, .selects "PairMachine" ⟨"PairMachine", "state", "()I"⟩ ⟨"PairMachine", "state", "()I"⟩, .code ⟨"PairMachine", "count", "(I)I"⟩ prog_1_method_8_code 2 (Option.some Jvm.ClassFile.FieldType.int), .methodLink "PairMachineLaw" 61 ⟨"PairMachine", "count", "(I)I"⟩, .instanceMethod ⟨"PairMachine", "count", "(I)I"⟩]
theorem wl_8_ok : wl_8 = [229, 227, 228, 57, 54, 55, 56, 232, 230, 231, 71, 68, 69, 70, 75, 72, 73, 74, 100, 97, 98, 99, 108, 105, 106].filterMap (fun i => tables_1_2[i]?) ∧ wl_8.all mj_gw = true := by decide +kernel
theorem wl_8_in : ∀ w ∈ wl_8, w ∈ gTS := fun w hw => by
  have h1 := hw
  rw [wl_8_ok.1] at h1
  obtain ⟨i, -, hi⟩ := List.mem_filterMap.mp h1
  exact List.mem_filter.mpr ⟨lw_in (tin_tables_1_2 w (List.mem_of_getElem? hi)), List.all_eq_true.mp wl_8_ok.2 w hw⟩
theorem tw_3 : Jvm.Cond.code ⟨"PairMachineLaw", "cell", "([II)I"⟩ method_2_code 2 (Option.some Jvm.ClassFile.FieldType.int) ∈ gTS := wl_8_in _ (List.mem_of_getElem? (i := 0) rfl)
theorem tw_5 : Jvm.Cond.methodLink "PairMachineLaw" 21 ⟨"PairMachineLaw", "cell", "([II)I"⟩ ∈ gTS := wl_8_in _ (List.mem_of_getElem? (i := 1) rfl)
theorem tw_6 : Jvm.Cond.static ⟨"PairMachineLaw", "cell", "([II)I"⟩ ∈ gTS := wl_8_in _ (List.mem_of_getElem? (i := 2) rfl)
theorem tw_18 : Jvm.Cond.code ⟨"PairMachine", "write", "(J)Z"⟩ prog_1_method_2_code 3 (Option.some Jvm.ClassFile.FieldType.boolean) ∈ gTS := wl_8_in _ (List.mem_of_getElem? (i := 3) rfl)
theorem tw_19 : Jvm.Cond.methodLink "PairMachineLaw" 35 ⟨"PairMachine", "write", "(J)Z"⟩ ∈ gTS := wl_8_in _ (List.mem_of_getElem? (i := 4) rfl)
theorem tw_20 : Jvm.Cond.instanceMethod ⟨"PairMachine", "write", "(J)Z"⟩ ∈ gTS := wl_8_in _ (List.mem_of_getElem? (i := 5) rfl)
theorem tw_21 : Jvm.Cond.selects "PairMachine" ⟨"PairMachine", "write", "(J)Z"⟩ ⟨"PairMachine", "write", "(J)Z"⟩ ∈ gTS := wl_8_in _ (List.mem_of_getElem? (i := 6) rfl)
theorem tw_26 : Jvm.Cond.codeWith ⟨"PairMachineLaw", "compile", "(LPairMachine;[J)I"⟩ method_3_code 3 (Option.some Jvm.ClassFile.FieldType.int) [(0, 8, 11, 13), (0, 8, 14, 15)] ∈ gTS := wl_8_in _ (List.mem_of_getElem? (i := 7) rfl)
theorem tw_27 : Jvm.Cond.methodLink "PairMachineLaw" 40 ⟨"PairMachineLaw", "compile", "(LPairMachine;[J)I"⟩ ∈ gTS := wl_8_in _ (List.mem_of_getElem? (i := 8) rfl)
theorem tw_28 : Jvm.Cond.static ⟨"PairMachineLaw", "compile", "(LPairMachine;[J)I"⟩ ∈ gTS := wl_8_in _ (List.mem_of_getElem? (i := 9) rfl)
theorem tw_33 : Jvm.Cond.code ⟨"PairMachine", "position", "()I"⟩ prog_1_method_4_code 1 (Option.some Jvm.ClassFile.FieldType.int) ∈ gTS := wl_8_in _ (List.mem_of_getElem? (i := 10) rfl)
theorem tw_34 : Jvm.Cond.methodLink "PairMachineLaw" 44 ⟨"PairMachine", "position", "()I"⟩ ∈ gTS := wl_8_in _ (List.mem_of_getElem? (i := 11) rfl)
theorem tw_35 : Jvm.Cond.instanceMethod ⟨"PairMachine", "position", "()I"⟩ ∈ gTS := wl_8_in _ (List.mem_of_getElem? (i := 12) rfl)
theorem tw_36 : Jvm.Cond.selects "PairMachine" ⟨"PairMachine", "position", "()I"⟩ ⟨"PairMachine", "position", "()I"⟩ ∈ gTS := wl_8_in _ (List.mem_of_getElem? (i := 13) rfl)
theorem tw_41 : Jvm.Cond.code ⟨"PairMachine", "start", "()Z"⟩ prog_1_method_5_code 1 (Option.some Jvm.ClassFile.FieldType.boolean) ∈ gTS := wl_8_in _ (List.mem_of_getElem? (i := 14) rfl)
theorem tw_42 : Jvm.Cond.methodLink "PairMachineLaw" 48 ⟨"PairMachine", "start", "()Z"⟩ ∈ gTS := wl_8_in _ (List.mem_of_getElem? (i := 15) rfl)
theorem tw_43 : Jvm.Cond.instanceMethod ⟨"PairMachine", "start", "()Z"⟩ ∈ gTS := wl_8_in _ (List.mem_of_getElem? (i := 16) rfl)
theorem tw_44 : Jvm.Cond.selects "PairMachine" ⟨"PairMachine", "start", "()Z"⟩ ⟨"PairMachine", "start", "()Z"⟩ ∈ gTS := wl_8_in _ (List.mem_of_getElem? (i := 17) rfl)
theorem tw_56 : Jvm.Cond.code ⟨"PairMachine", "state", "()I"⟩ prog_1_method_7_code 1 (Option.some Jvm.ClassFile.FieldType.int) ∈ gTS := wl_8_in _ (List.mem_of_getElem? (i := 18) rfl)
theorem tw_57 : Jvm.Cond.methodLink "PairMachineLaw" 57 ⟨"PairMachine", "state", "()I"⟩ ∈ gTS := wl_8_in _ (List.mem_of_getElem? (i := 19) rfl)
theorem tw_58 : Jvm.Cond.instanceMethod ⟨"PairMachine", "state", "()I"⟩ ∈ gTS := wl_8_in _ (List.mem_of_getElem? (i := 20) rfl)
theorem tw_59 : Jvm.Cond.selects "PairMachine" ⟨"PairMachine", "state", "()I"⟩ ⟨"PairMachine", "state", "()I"⟩ ∈ gTS := wl_8_in _ (List.mem_of_getElem? (i := 21) rfl)
theorem tw_64 : Jvm.Cond.code ⟨"PairMachine", "count", "(I)I"⟩ prog_1_method_8_code 2 (Option.some Jvm.ClassFile.FieldType.int) ∈ gTS := wl_8_in _ (List.mem_of_getElem? (i := 22) rfl)
theorem tw_65 : Jvm.Cond.methodLink "PairMachineLaw" 61 ⟨"PairMachine", "count", "(I)I"⟩ ∈ gTS := wl_8_in _ (List.mem_of_getElem? (i := 23) rfl)
theorem tw_66 : Jvm.Cond.instanceMethod ⟨"PairMachine", "count", "(I)I"⟩ ∈ gTS := wl_8_in _ (List.mem_of_getElem? (i := 24) rfl)
def wl_9 : List Cond := [.selects "PairMachine" ⟨"PairMachine", "count", "(I)I"⟩ ⟨"PairMachine", "count", "(I)I"⟩, .code ⟨"PairMachine", "next", "()I"⟩ prog_1_method_9_code 1 (Option.some Jvm.ClassFile.FieldType.int), .methodLink "PairMachineLaw" 65 ⟨"PairMachine", "next", "()I"⟩, .instanceMethod ⟨"PairMachine", "next", "()I"⟩, .selects "PairMachine" ⟨"PairMachine", "next", "()I"⟩ ⟨"PairMachine", "next", "()I"⟩, .code ⟨"PairMachine", "shown", "(I)I"⟩ prog_1_method_10_code 2 (Option.some Jvm.ClassFile.FieldType.int), .methodLink "PairMachineLaw" 69 ⟨"PairMachine", "shown", "(I)I"⟩, .instanceMethod ⟨"PairMachine", "shown", "(I)I"⟩, .selects "PairMachine" ⟨"PairMachine", "shown", "(I)I"⟩ ⟨"PairMachine", "shown", "(I)I"⟩, .code ⟨"PairMachine", "compile", "()I"⟩ prog_1_method_3_code 1 (Option.some Jvm.ClassFile.FieldType.int), .methodLink "PairMachineLaw" 7 ⟨"PairMachine", "compile", "()I"⟩, .instanceMethod ⟨"PairMachine", "compile", "()I"⟩, .selects "PairMachine" ⟨"PairMachine", "compile", "()I"⟩ ⟨"PairMachine", "compile", "()I"⟩, .fieldLink "PairMachine" 18 "PairMachine" "size" "I", .fieldLink "PairMachine" 28 "PairMachine" "text" "LPairMachine$Text;", .fieldLink "PairMachine" 37 "PairMachine" "reader" "LPairMachine$Reader;", .fieldLink "PairMachine" 46 "PairMachine" "code" "LPairMachine$Code;", .fieldLink "PairMachine" 55 "PairMachine" "coder" "LPairMachine$Coder;", .fieldLink "PairMachine" 62 "PairMachine" "machine" "LPairMachine$Machine;", .fieldLink "PairMachine" 66 "PairMachine" "error" "I", .code ⟨"PairMachine$Text", "append", "(J)Z"⟩ prog_9_method_2_code 6 (Option.some Jvm.ClassFile.FieldType.boolean), .methodLink "PairMachine" 69 ⟨"PairMachine$Text", "append", "(J)Z"⟩, .instanceMethod ⟨"PairMachine$Text", "append", "(J)Z"⟩, .selects "PairMachine$Text" ⟨"PairMachine$Text", "append", "(J)Z"⟩ ⟨"PairMachine$Text", "append", "(J)Z"⟩, .methodLink "PairMachine" 73 ⟨"PairMachine$Reader", "read", "()I"⟩]
theorem wl_9_ok : wl_9 = [107, 168, 165, 166, 167, 183, 180, 181, 182, 238, 235, 236, 237, 32, 33, 34, 35, 36, 37, 38, 61, 58, 59, 60, 239].filterMap (fun i => tables_1_2[i]?) ∧ wl_9.all mj_gw = true := by decide +kernel
theorem wl_9_in : ∀ w ∈ wl_9, w ∈ gTS := fun w hw => by
  have h1 := hw
  rw [wl_9_ok.1] at h1
  obtain ⟨i, -, hi⟩ := List.mem_filterMap.mp h1
  exact List.mem_filter.mpr ⟨lw_in (tin_tables_1_2 w (List.mem_of_getElem? hi)), List.all_eq_true.mp wl_9_ok.2 w hw⟩
theorem tw_67 : Jvm.Cond.selects "PairMachine" ⟨"PairMachine", "count", "(I)I"⟩ ⟨"PairMachine", "count", "(I)I"⟩ ∈ gTS := wl_9_in _ (List.mem_of_getElem? (i := 0) rfl)
theorem tw_72 : Jvm.Cond.code ⟨"PairMachine", "next", "()I"⟩ prog_1_method_9_code 1 (Option.some Jvm.ClassFile.FieldType.int) ∈ gTS := wl_9_in _ (List.mem_of_getElem? (i := 1) rfl)
theorem tw_73 : Jvm.Cond.methodLink "PairMachineLaw" 65 ⟨"PairMachine", "next", "()I"⟩ ∈ gTS := wl_9_in _ (List.mem_of_getElem? (i := 2) rfl)
theorem tw_74 : Jvm.Cond.instanceMethod ⟨"PairMachine", "next", "()I"⟩ ∈ gTS := wl_9_in _ (List.mem_of_getElem? (i := 3) rfl)
theorem tw_75 : Jvm.Cond.selects "PairMachine" ⟨"PairMachine", "next", "()I"⟩ ⟨"PairMachine", "next", "()I"⟩ ∈ gTS := wl_9_in _ (List.mem_of_getElem? (i := 4) rfl)
theorem tw_80 : Jvm.Cond.code ⟨"PairMachine", "shown", "(I)I"⟩ prog_1_method_10_code 2 (Option.some Jvm.ClassFile.FieldType.int) ∈ gTS := wl_9_in _ (List.mem_of_getElem? (i := 5) rfl)
theorem tw_81 : Jvm.Cond.methodLink "PairMachineLaw" 69 ⟨"PairMachine", "shown", "(I)I"⟩ ∈ gTS := wl_9_in _ (List.mem_of_getElem? (i := 6) rfl)
theorem tw_82 : Jvm.Cond.instanceMethod ⟨"PairMachine", "shown", "(I)I"⟩ ∈ gTS := wl_9_in _ (List.mem_of_getElem? (i := 7) rfl)
theorem tw_83 : Jvm.Cond.selects "PairMachine" ⟨"PairMachine", "shown", "(I)I"⟩ ⟨"PairMachine", "shown", "(I)I"⟩ ∈ gTS := wl_9_in _ (List.mem_of_getElem? (i := 8) rfl)
theorem tw_88 : Jvm.Cond.code ⟨"PairMachine", "compile", "()I"⟩ prog_1_method_3_code 1 (Option.some Jvm.ClassFile.FieldType.int) ∈ gTS := wl_9_in _ (List.mem_of_getElem? (i := 9) rfl)
theorem tw_89 : Jvm.Cond.methodLink "PairMachineLaw" 7 ⟨"PairMachine", "compile", "()I"⟩ ∈ gTS := wl_9_in _ (List.mem_of_getElem? (i := 10) rfl)
theorem tw_90 : Jvm.Cond.instanceMethod ⟨"PairMachine", "compile", "()I"⟩ ∈ gTS := wl_9_in _ (List.mem_of_getElem? (i := 11) rfl)
theorem tw_91 : Jvm.Cond.selects "PairMachine" ⟨"PairMachine", "compile", "()I"⟩ ⟨"PairMachine", "compile", "()I"⟩ ∈ gTS := wl_9_in _ (List.mem_of_getElem? (i := 12) rfl)
theorem tw_106 : Jvm.Cond.fieldLink "PairMachine" 18 "PairMachine" "size" "I" ∈ gTS := wl_9_in _ (List.mem_of_getElem? (i := 13) rfl)
theorem tw_119 : Jvm.Cond.fieldLink "PairMachine" 28 "PairMachine" "text" "LPairMachine$Text;" ∈ gTS := wl_9_in _ (List.mem_of_getElem? (i := 14) rfl)
theorem tw_126 : Jvm.Cond.fieldLink "PairMachine" 37 "PairMachine" "reader" "LPairMachine$Reader;" ∈ gTS := wl_9_in _ (List.mem_of_getElem? (i := 15) rfl)
theorem tw_133 : Jvm.Cond.fieldLink "PairMachine" 46 "PairMachine" "code" "LPairMachine$Code;" ∈ gTS := wl_9_in _ (List.mem_of_getElem? (i := 16) rfl)
theorem tw_140 : Jvm.Cond.fieldLink "PairMachine" 55 "PairMachine" "coder" "LPairMachine$Coder;" ∈ gTS := wl_9_in _ (List.mem_of_getElem? (i := 17) rfl)
theorem tw_147 : Jvm.Cond.fieldLink "PairMachine" 62 "PairMachine" "machine" "LPairMachine$Machine;" ∈ gTS := wl_9_in _ (List.mem_of_getElem? (i := 18) rfl)
theorem tw_148 : Jvm.Cond.fieldLink "PairMachine" 66 "PairMachine" "error" "I" ∈ gTS := wl_9_in _ (List.mem_of_getElem? (i := 19) rfl)
theorem tw_149 : Jvm.Cond.code ⟨"PairMachine$Text", "append", "(J)Z"⟩ prog_9_method_2_code 6 (Option.some Jvm.ClassFile.FieldType.boolean) ∈ gTS := wl_9_in _ (List.mem_of_getElem? (i := 20) rfl)
theorem tw_150 : Jvm.Cond.methodLink "PairMachine" 69 ⟨"PairMachine$Text", "append", "(J)Z"⟩ ∈ gTS := wl_9_in _ (List.mem_of_getElem? (i := 21) rfl)
theorem tw_151 : Jvm.Cond.instanceMethod ⟨"PairMachine$Text", "append", "(J)Z"⟩ ∈ gTS := wl_9_in _ (List.mem_of_getElem? (i := 22) rfl)
theorem tw_152 : Jvm.Cond.selects "PairMachine$Text" ⟨"PairMachine$Text", "append", "(J)Z"⟩ ⟨"PairMachine$Text", "append", "(J)Z"⟩ ∈ gTS := wl_9_in _ (List.mem_of_getElem? (i := 23) rfl)
theorem tw_154 : Jvm.Cond.methodLink "PairMachine" 73 ⟨"PairMachine$Reader", "read", "()I"⟩ ∈ gTS := wl_9_in _ (List.mem_of_getElem? (i := 24) rfl)
end
