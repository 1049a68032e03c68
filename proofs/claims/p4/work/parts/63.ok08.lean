section
theorem dd_121_0 : decode prog_8_method_2_code 0 = .ok (.aload_n 0, 1) := by decide +kernel
theorem dd_121_1 : decode prog_8_method_2_code 1 = .ok (.aload_n 1, 1) := by decide +kernel
theorem dd_121_2 : decode prog_8_method_2_code 2 = .ok (.invokevirtual 36, 3) := by decide +kernel
theorem dd_121_5 : decode prog_8_method_2_code 5 = .ok (.aload_n 0, 1) := by decide +kernel
theorem dd_121_6 : decode prog_8_method_2_code 6 = .ok (.getfield 9, 3) := by decide +kernel
theorem dd_121_9 : decode prog_8_method_2_code 9 = .ok (.invokestatic 42, 3) := by decide +kernel
theorem dd_121_12 : decode prog_8_method_2_code 12 = .ok (.putfield 48, 3) := by decide +kernel
theorem dd_121_15 : decode prog_8_method_2_code 15 = .ok (.iconst 0, 1) := by decide +kernel
theorem dd_121_16 : decode prog_8_method_2_code 16 = .ok (.istore_n 2, 1) := by decide +kernel
theorem dd_121_17 : decode prog_8_method_2_code 17 = .ok (.iload_n 2, 1) := by decide +kernel
theorem dd_121_18 : decode prog_8_method_2_code 18 = .ok (.aload_n 0, 1) := by decide +kernel
theorem dd_121_19 : decode prog_8_method_2_code 19 = .ok (.getfield 48, 3) := by decide +kernel
theorem dd_121_22 : decode prog_8_method_2_code 22 = .ok (.if_icmp .ge 31, 3) := by decide +kernel
theorem dd_121_25 : decode prog_8_method_2_code 25 = .ok (.aload_n 0, 1) := by decide +kernel
theorem dd_121_26 : decode prog_8_method_2_code 26 = .ok (.getfield 15, 3) := by decide +kernel
theorem dd_121_29 : decode prog_8_method_2_code 29 = .ok (.iload_n 2, 1) := by decide +kernel
theorem dd_121_30 : decode prog_8_method_2_code 30 = .ok (.aload_n 1, 1) := by decide +kernel
theorem dd_121_31 : decode prog_8_method_2_code 31 = .ok (.iload_n 2, 1) := by decide +kernel
theorem dd_121_32 : decode prog_8_method_2_code 32 = .ok (.invokevirtual 51, 3) := by decide +kernel
theorem dd_121_35 : decode prog_8_method_2_code 35 = .ok (.lastore, 1) := by decide +kernel
theorem dd_121_36 : decode prog_8_method_2_code 36 = .ok (.aload_n 0, 1) := by decide +kernel
theorem dd_121_37 : decode prog_8_method_2_code 37 = .ok (.getfield 19, 3) := by decide +kernel
theorem dd_121_40 : decode prog_8_method_2_code 40 = .ok (.iload_n 2, 1) := by decide +kernel
theorem dd_121_41 : decode prog_8_method_2_code 41 = .ok (.aload_n 1, 1) := by decide +kernel
theorem dd_121_42 : decode prog_8_method_2_code 42 = .ok (.iload_n 2, 1) := by decide +kernel
theorem dd_121_43 : decode prog_8_method_2_code 43 = .ok (.invokevirtual 55, 3) := by decide +kernel
theorem dd_121_46 : decode prog_8_method_2_code 46 = .ok (.lastore, 1) := by decide +kernel
theorem dd_121_47 : decode prog_8_method_2_code 47 = .ok (.iinc 2 1, 3) := by decide +kernel
theorem dd_121_50 : decode prog_8_method_2_code 50 = .ok (.goto (-33), 3) := by decide +kernel
theorem dd_121_53 : decode prog_8_method_2_code 53 = .ok (.aload_n 0, 1) := by decide +kernel
theorem dd_121_54 : decode prog_8_method_2_code 54 = .ok (.invokevirtual 58, 3) := by decide +kernel
theorem dd_121_57 : decode prog_8_method_2_code 57 = .ok (.return_, 1) := by decide +kernel
set_option maxRecDepth 100000 in
theorem okI_121 : mj_okI gG "PairMachine$Store" prog_8_method_2_code 3 (mj_off oM_121) (Option.none : Option Jvm.ClassFile.FieldType) false true 0 cM_121 :=
  ⟨Or.inl ⟨0, rfl, dd_121_0, rfl⟩,
   Or.inl ⟨1, rfl, dd_121_1, rfl⟩,
   ⟨rfl, tw_165, by decide, tw_129, by decide +kernel, 36, tw_705, dd_121_2, tw_167, ⟨"PairMachine$Code", fT4, 5, rfl, tw_168⟩, by decide +kernel⟩,
   Or.inl ⟨0, rfl, dd_121_5, rfl⟩,
   ⟨9, "PairMachine$Store", fT7, 9, dd_121_6, rfl, okc_7, by decide, tw_697⟩,
   ⟨42, dd_121_9, rfl, tw_99, tw_706, tw_101, tw_102⟩,
   ⟨48, "PairMachine$Store", fT7, 9, dd_121_12, rfl, okc_7, by decide, tw_707, rfl, Or.inl rfl⟩,
   Or.inl (Or.inl ⟨dd_121_15, rfl⟩),
   ⟨by decide, Or.inl ⟨2, rfl, dd_121_16, rfl⟩⟩,
   Or.inl ⟨2, rfl, dd_121_17, rfl⟩,
   Or.inl ⟨0, rfl, dd_121_18, rfl⟩,
   ⟨48, "PairMachine$Store", fT7, 9, dd_121_19, rfl, okc_7, by decide, tw_707⟩,
   ⟨31, dd_121_22, rfl, rfl⟩,
   Or.inl ⟨0, rfl, dd_121_25, rfl⟩,
   ⟨15, "PairMachine$Store", fT7, 9, dd_121_26, rfl, okc_7, by decide, tw_698⟩,
   Or.inl ⟨2, rfl, dd_121_29, rfl⟩,
   Or.inl ⟨1, rfl, dd_121_30, rfl⟩,
   Or.inl ⟨2, rfl, dd_121_31, rfl⟩,
   ⟨rfl, tw_708, by decide, tw_129, by decide +kernel, 51, tw_709, dd_121_32, tw_710, ⟨"PairMachine$Code", fT4, 5, rfl, tw_711⟩, by decide +kernel⟩,
   ⟨dd_121_35, rfl⟩,
   Or.inl ⟨0, rfl, dd_121_36, rfl⟩,
   ⟨19, "PairMachine$Store", fT7, 9, dd_121_37, rfl, okc_7, by decide, tw_699⟩,
   Or.inl ⟨2, rfl, dd_121_40, rfl⟩,
   Or.inl ⟨1, rfl, dd_121_41, rfl⟩,
   Or.inl ⟨2, rfl, dd_121_42, rfl⟩,
   ⟨rfl, tw_712, by decide, tw_129, by decide +kernel, 55, tw_713, dd_121_43, tw_714, ⟨"PairMachine$Code", fT4, 5, rfl, tw_715⟩, by decide +kernel⟩,
   ⟨dd_121_46, rfl⟩,
   ⟨by decide, dd_121_47, rfl⟩,
   ⟨(-33), dd_121_50, rfl⟩,
   Or.inl ⟨0, rfl, dd_121_53, rfl⟩,
   ⟨rfl, tw_534, by decide, tw_509, by decide +kernel, 58, tw_716, dd_121_54, tw_536, ⟨"PairMachine$Store", fT7, 9, rfl, tw_537⟩, by decide +kernel⟩,
   ⟨dd_121_57, rfl⟩, trivial⟩
theorem okM_121 : mj_okE gG 121 (cM_121, 3, oM_121, hM_121) := ⟨rfl, rfl, by decide +kernel, trivial, okI_121⟩
theorem dd_122_0 : decode prog_8_method_3_code 0 = .ok (.aload_n 0, 1) := by decide +kernel
theorem dd_122_1 : decode prog_8_method_3_code 1 = .ok (.iconst 0, 1) := by decide +kernel
theorem dd_122_2 : decode prog_8_method_3_code 2 = .ok (.putfield 33, 3) := by decide +kernel
theorem dd_122_5 : decode prog_8_method_3_code 5 = .ok (.aload_n 0, 1) := by decide +kernel
theorem dd_122_6 : decode prog_8_method_3_code 6 = .ok (.getfield 48, 3) := by decide +kernel
theorem dd_122_9 : decode prog_8_method_3_code 9 = .ok (.istore_n 1, 1) := by decide +kernel
theorem dd_122_10 : decode prog_8_method_3_code 10 = .ok (.iload_n 1, 1) := by decide +kernel
theorem dd_122_11 : decode prog_8_method_3_code 11 = .ok (.aload_n 0, 1) := by decide +kernel
theorem dd_122_12 : decode prog_8_method_3_code 12 = .ok (.getfield 9, 3) := by decide +kernel
theorem dd_122_15 : decode prog_8_method_3_code 15 = .ok (.if_icmp .ge 29, 3) := by decide +kernel
theorem dd_122_18 : decode prog_8_method_3_code 18 = .ok (.aload_n 0, 1) := by decide +kernel
theorem dd_122_19 : decode prog_8_method_3_code 19 = .ok (.getfield 22, 3) := by decide +kernel
theorem dd_122_22 : decode prog_8_method_3_code 22 = .ok (.aload_n 0, 1) := by decide +kernel
theorem dd_122_23 : decode prog_8_method_3_code 23 = .ok (.getfield 33, 3) := by decide +kernel
theorem dd_122_26 : decode prog_8_method_3_code 26 = .ok (.iload_n 1, 1) := by decide +kernel
theorem dd_122_27 : decode prog_8_method_3_code 27 = .ok (.iastore, 1) := by decide +kernel
theorem dd_122_28 : decode prog_8_method_3_code 28 = .ok (.aload_n 0, 1) := by decide +kernel
theorem dd_122_29 : decode prog_8_method_3_code 29 = .ok (.dup, 1) := by decide +kernel
theorem dd_122_30 : decode prog_8_method_3_code 30 = .ok (.getfield 33, 3) := by decide +kernel
theorem dd_122_33 : decode prog_8_method_3_code 33 = .ok (.iconst 1, 1) := by decide +kernel
theorem dd_122_34 : decode prog_8_method_3_code 34 = .ok (.iadd, 1) := by decide +kernel
theorem dd_122_35 : decode prog_8_method_3_code 35 = .ok (.putfield 33, 3) := by decide +kernel
theorem dd_122_38 : decode prog_8_method_3_code 38 = .ok (.iinc 1 1, 3) := by decide +kernel
theorem dd_122_41 : decode prog_8_method_3_code 41 = .ok (.goto (-31), 3) := by decide +kernel
theorem dd_122_44 : decode prog_8_method_3_code 44 = .ok (.return_, 1) := by decide +kernel
set_option maxRecDepth 100000 in
theorem okI_122 : mj_okI gG "PairMachine$Store" prog_8_method_3_code 2 (mj_off oM_122) (Option.none : Option Jvm.ClassFile.FieldType) false true 0 cM_122 :=
  ⟨Or.inl ⟨0, rfl, dd_122_0, rfl⟩,
   Or.inl (Or.inl ⟨dd_122_1, rfl⟩),
   ⟨33, "PairMachine$Store", fT7, 9, dd_122_2, rfl, okc_7, by decide, tw_704, rfl, Or.inl rfl⟩,
   Or.inl ⟨0, rfl, dd_122_5, rfl⟩,
   ⟨48, "PairMachine$Store", fT7, 9, dd_122_6, rfl, okc_7, by decide, tw_707⟩,
   ⟨by decide, Or.inl ⟨1, rfl, dd_122_9, rfl⟩⟩,
   Or.inl ⟨1, rfl, dd_122_10, rfl⟩,
   Or.inl ⟨0, rfl, dd_122_11, rfl⟩,
   ⟨9, "PairMachine$Store", fT7, 9, dd_122_12, rfl, okc_7, by decide, tw_697⟩,
   ⟨29, dd_122_15, rfl, rfl⟩,
   Or.inl ⟨0, rfl, dd_122_18, rfl⟩,
   ⟨22, "PairMachine$Store", fT7, 9, dd_122_19, rfl, okc_7, by decide, tw_700⟩,
   Or.inl ⟨0, rfl, dd_122_22, rfl⟩,
   ⟨33, "PairMachine$Store", fT7, 9, dd_122_23, rfl, okc_7, by decide, tw_704⟩,
   Or.inl ⟨1, rfl, dd_122_26, rfl⟩,
   ⟨dd_122_27, rfl⟩,
   Or.inl ⟨0, rfl, dd_122_28, rfl⟩,
   ⟨dd_122_29, rfl⟩,
   ⟨33, "PairMachine$Store", fT7, 9, dd_122_30, rfl, okc_7, by decide, tw_704⟩,
   Or.inl (Or.inl ⟨dd_122_33, rfl⟩),
   ⟨dd_122_34, rfl⟩,
   ⟨33, "PairMachine$Store", fT7, 9, dd_122_35, rfl, okc_7, by decide, tw_704, rfl, Or.inl rfl⟩,
   ⟨by decide, dd_122_38, rfl⟩,
   ⟨(-31), dd_122_41, rfl⟩,
   ⟨dd_122_44, rfl⟩, trivial⟩
theorem okM_122 : mj_okE gG 122 (cM_122, 2, oM_122, hM_122) := ⟨rfl, rfl, by decide +kernel, trivial, okI_122⟩
theorem dd_123_0 : decode prog_8_method_4_code 0 = .ok (.aload_n 0, 1) := by decide +kernel
theorem dd_123_1 : decode prog_8_method_4_code 1 = .ok (.getfield 48, 3) := by decide +kernel
theorem dd_123_4 : decode prog_8_method_4_code 4 = .ok (.ifCond .le 10, 3) := by decide +kernel
theorem dd_123_7 : decode prog_8_method_4_code 7 = .ok (.iconst 0, 1) := by decide +kernel
theorem dd_123_8 : decode prog_8_method_4_code 8 = .ok (.invokestatic 61, 3) := by decide +kernel
theorem dd_123_11 : decode prog_8_method_4_code 11 = .ok (.goto 4, 3) := by decide +kernel
theorem dd_123_14 : decode prog_8_method_4_code 14 = .ok (.lconst 0, 1) := by decide +kernel
theorem dd_123_15 : decode prog_8_method_4_code 15 = .ok (.lreturn, 1) := by decide +kernel
set_option maxRecDepth 100000 in
theorem okI_123 : mj_okI gG "PairMachine$Store" prog_8_method_4_code 1 (mj_off oM_123) (Option.some Jvm.ClassFile.FieldType.long) false true 0 cM_123 :=
  ⟨Or.inl ⟨0, rfl, dd_123_0, rfl⟩,
   ⟨48, "PairMachine$Store", fT7, 9, dd_123_1, rfl, okc_7, by decide, tw_707⟩,
   ⟨10, dd_123_4, rfl, rfl⟩,
   Or.inl (Or.inl ⟨dd_123_7, rfl⟩),
   ⟨rfl, tw_371, by decide, tw_372, by decide +kernel, 61, tw_717, dd_123_8, tw_374, by decide +kernel⟩,
   ⟨4, dd_123_11, rfl⟩,
   Or.inl ⟨0, rfl, dd_123_14, rfl⟩,
   ⟨dd_123_15, rfl⟩, trivial⟩
theorem okM_123 : mj_okE gG 123 (cM_123, 1, oM_123, hM_123) := ⟨rfl, rfl, by decide +kernel, trivial, okI_123⟩
theorem dd_124_0 : decode prog_8_method_5_code 0 = .ok (.aload_n 0, 1) := by decide +kernel
theorem dd_124_1 : decode prog_8_method_5_code 1 = .ok (.getfield 33, 3) := by decide +kernel
theorem dd_124_4 : decode prog_8_method_5_code 4 = .ok (.ireturn, 1) := by decide +kernel
set_option maxRecDepth 100000 in
theorem okI_124 : mj_okI gG "PairMachine$Store" prog_8_method_5_code 1 (mj_off oM_124) (Option.some Jvm.ClassFile.FieldType.int) false true 0 cM_124 :=
  ⟨Or.inl ⟨0, rfl, dd_124_0, rfl⟩,
   ⟨33, "PairMachine$Store", fT7, 9, dd_124_1, rfl, okc_7, by decide, tw_704⟩,
   ⟨dd_124_4, rfl⟩, trivial⟩
theorem okM_124 : mj_okE gG 124 (cM_124, 1, oM_124, hM_124) := ⟨rfl, rfl, by decide +kernel, trivial, okI_124⟩
theorem dd_125_0 : decode prog_8_method_6_code 0 = .ok (.aload_n 0, 1) := by decide +kernel
theorem dd_125_1 : decode prog_8_method_6_code 1 = .ok (.getfield 9, 3) := by decide +kernel
theorem dd_125_4 : decode prog_8_method_6_code 4 = .ok (.aload_n 0, 1) := by decide +kernel
theorem dd_125_5 : decode prog_8_method_6_code 5 = .ok (.getfield 33, 3) := by decide +kernel
theorem dd_125_8 : decode prog_8_method_6_code 8 = .ok (.isub, 1) := by decide +kernel
theorem dd_125_9 : decode prog_8_method_6_code 9 = .ok (.ireturn, 1) := by decide +kernel
set_option maxRecDepth 100000 in
theorem okI_125 : mj_okI gG "PairMachine$Store" prog_8_method_6_code 1 (mj_off oM_125) (Option.some Jvm.ClassFile.FieldType.int) false true 0 cM_125 :=
  ⟨Or.inl ⟨0, rfl, dd_125_0, rfl⟩,
   ⟨9, "PairMachine$Store", fT7, 9, dd_125_1, rfl, okc_7, by decide, tw_697⟩,
   Or.inl ⟨0, rfl, dd_125_4, rfl⟩,
   ⟨33, "PairMachine$Store", fT7, 9, dd_125_5, rfl, okc_7, by decide, tw_704⟩,
   ⟨dd_125_8, rfl⟩,
   ⟨dd_125_9, rfl⟩, trivial⟩
theorem okM_125 : mj_okE gG 125 (cM_125, 1, oM_125, hM_125) := ⟨rfl, rfl, by decide +kernel, trivial, okI_125⟩
theorem dd_126_0 : decode prog_8_method_7_code 0 = .ok (.aload_n 0, 1) := by decide +kernel
theorem dd_126_1 : decode prog_8_method_7_code 1 = .ok (.lload_n 1, 1) := by decide +kernel
theorem dd_126_2 : decode prog_8_method_7_code 2 = .ok (.lload_n 3, 1) := by decide +kernel
theorem dd_126_3 : decode prog_8_method_7_code 3 = .ok (.invokevirtual 66, 3) := by decide +kernel
theorem dd_126_6 : decode prog_8_method_7_code 6 = .ok (.invokestatic 61, 3) := by decide +kernel
theorem dd_126_9 : decode prog_8_method_7_code 9 = .ok (.lreturn, 1) := by decide +kernel
set_option maxRecDepth 100000 in
theorem okI_126 : mj_okI gG "PairMachine$Store" prog_8_method_7_code 5 (mj_off oM_126) (Option.some Jvm.ClassFile.FieldType.long) false true 0 cM_126 :=
  ⟨Or.inl ⟨0, rfl, dd_126_0, rfl⟩,
   Or.inl ⟨1, rfl, dd_126_1, rfl⟩,
   Or.inl ⟨3, rfl, dd_126_2, rfl⟩,
   ⟨rfl, tw_718, by decide, tw_509, by decide +kernel, 66, tw_719, dd_126_3, tw_720, ⟨"PairMachine$Store", fT7, 9, rfl, tw_721⟩, by decide +kernel⟩,
   ⟨rfl, tw_371, by decide, tw_372, by decide +kernel, 61, tw_717, dd_126_6, tw_374, by decide +kernel⟩,
   ⟨dd_126_9, rfl⟩, trivial⟩
theorem okM_126 : mj_okE gG 126 (cM_126, 5, oM_126, hM_126) := ⟨rfl, rfl, by decide +kernel, trivial, okI_126⟩
theorem dd_127_0 : decode prog_8_method_8_code 0 = .ok (.aload_n 0, 1) := by decide +kernel
theorem dd_127_1 : decode prog_8_method_8_code 1 = .ok (.lload_n 1, 1) := by decide +kernel
theorem dd_127_2 : decode prog_8_method_8_code 2 = .ok (.lload_n 3, 1) := by decide +kernel
theorem dd_127_3 : decode prog_8_method_8_code 3 = .ok (.invokevirtual 66, 3) := by decide +kernel
theorem dd_127_6 : decode prog_8_method_8_code 6 = .ok (.invokestatic 70, 3) := by decide +kernel
theorem dd_127_9 : decode prog_8_method_8_code 9 = .ok (.lreturn, 1) := by decide +kernel
set_option maxRecDepth 100000 in
theorem okI_127 : mj_okI gG "PairMachine$Store" prog_8_method_8_code 5 (mj_off oM_127) (Option.some Jvm.ClassFile.FieldType.long) false true 0 cM_127 :=
  ⟨Or.inl ⟨0, rfl, dd_127_0, rfl⟩,
   Or.inl ⟨1, rfl, dd_127_1, rfl⟩,
   Or.inl ⟨3, rfl, dd_127_2, rfl⟩,
   ⟨rfl, tw_718, by decide, tw_509, by decide +kernel, 66, tw_719, dd_127_3, tw_720, ⟨"PairMachine$Store", fT7, 9, rfl, tw_721⟩, by decide +kernel⟩,
   ⟨rfl, tw_722, by decide, tw_372, by decide +kernel, 70, tw_723, dd_127_6, tw_724, by decide +kernel⟩,
   ⟨dd_127_9, rfl⟩, trivial⟩
theorem okM_127 : mj_okE gG 127 (cM_127, 5, oM_127, hM_127) := ⟨rfl, rfl, by decide +kernel, trivial, okI_127⟩
theorem dd_128_0 : decode prog_8_method_9_code 0 = .ok (.aload_n 0, 1) := by decide +kernel
theorem dd_128_1 : decode prog_8_method_9_code 1 = .ok (.getfield 33, 3) := by decide +kernel
theorem dd_128_4 : decode prog_8_method_9_code 4 = .ok (.ifCond .gt 5, 3) := by decide +kernel
theorem dd_128_7 : decode prog_8_method_9_code 7 = .ok (.iconst (-1), 1) := by decide +kernel
theorem dd_128_8 : decode prog_8_method_9_code 8 = .ok (.ireturn, 1) := by decide +kernel
theorem dd_128_9 : decode prog_8_method_9_code 9 = .ok (.aload_n 0, 1) := by decide +kernel
theorem dd_128_10 : decode prog_8_method_9_code 10 = .ok (.dup, 1) := by decide +kernel
theorem dd_128_11 : decode prog_8_method_9_code 11 = .ok (.getfield 33, 3) := by decide +kernel
theorem dd_128_14 : decode prog_8_method_9_code 14 = .ok (.iconst 1, 1) := by decide +kernel
theorem dd_128_15 : decode prog_8_method_9_code 15 = .ok (.isub, 1) := by decide +kernel
theorem dd_128_16 : decode prog_8_method_9_code 16 = .ok (.putfield 33, 3) := by decide +kernel
theorem dd_128_19 : decode prog_8_method_9_code 19 = .ok (.aload_n 0, 1) := by decide +kernel
theorem dd_128_20 : decode prog_8_method_9_code 20 = .ok (.getfield 22, 3) := by decide +kernel
theorem dd_128_23 : decode prog_8_method_9_code 23 = .ok (.aload_n 0, 1) := by decide +kernel
theorem dd_128_24 : decode prog_8_method_9_code 24 = .ok (.getfield 33, 3) := by decide +kernel
theorem dd_128_27 : decode prog_8_method_9_code 27 = .ok (.iaload, 1) := by decide +kernel
theorem dd_128_28 : decode prog_8_method_9_code 28 = .ok (.istore 5, 2) := by decide +kernel
theorem dd_128_30 : decode prog_8_method_9_code 30 = .ok (.aload_n 0, 1) := by decide +kernel
theorem dd_128_31 : decode prog_8_method_9_code 31 = .ok (.getfield 15, 3) := by decide +kernel
theorem dd_128_34 : decode prog_8_method_9_code 34 = .ok (.iload 5, 2) := by decide +kernel
theorem dd_128_36 : decode prog_8_method_9_code 36 = .ok (.lload_n 1, 1) := by decide +kernel
theorem dd_128_37 : decode prog_8_method_9_code 37 = .ok (.lastore, 1) := by decide +kernel
theorem dd_128_38 : decode prog_8_method_9_code 38 = .ok (.aload_n 0, 1) := by decide +kernel
theorem dd_128_39 : decode prog_8_method_9_code 39 = .ok (.getfield 19, 3) := by decide +kernel
theorem dd_128_42 : decode prog_8_method_9_code 42 = .ok (.iload 5, 2) := by decide +kernel
theorem dd_128_44 : decode prog_8_method_9_code 44 = .ok (.lload_n 3, 1) := by decide +kernel
theorem dd_128_45 : decode prog_8_method_9_code 45 = .ok (.lastore, 1) := by decide +kernel
theorem dd_128_46 : decode prog_8_method_9_code 46 = .ok (.iload 5, 2) := by decide +kernel
theorem dd_128_48 : decode prog_8_method_9_code 48 = .ok (.ireturn, 1) := by decide +kernel
set_option maxRecDepth 100000 in
theorem okI_128 : mj_okI gG "PairMachine$Store" prog_8_method_9_code 6 (mj_off oM_128) (Option.some Jvm.ClassFile.FieldType.int) false true 0 cM_128 :=
  ⟨Or.inl ⟨0, rfl, dd_128_0, rfl⟩,
   ⟨33, "PairMachine$Store", fT7, 9, dd_128_1, rfl, okc_7, by decide, tw_704⟩,
   ⟨5, dd_128_4, rfl, rfl⟩,
   Or.inl (Or.inl ⟨dd_128_7, rfl⟩),
   ⟨dd_128_8, rfl⟩,
   Or.inl ⟨0, rfl, dd_128_9, rfl⟩,
   ⟨dd_128_10, rfl⟩,
   ⟨33, "PairMachine$Store", fT7, 9, dd_128_11, rfl, okc_7, by decide, tw_704⟩,
   Or.inl (Or.inl ⟨dd_128_14, rfl⟩),
   ⟨dd_128_15, rfl⟩,
   ⟨33, "PairMachine$Store", fT7, 9, dd_128_16, rfl, okc_7, by decide, tw_704, rfl, Or.inl rfl⟩,
   Or.inl ⟨0, rfl, dd_128_19, rfl⟩,
   ⟨22, "PairMachine$Store", fT7, 9, dd_128_20, rfl, okc_7, by decide, tw_700⟩,
   Or.inl ⟨0, rfl, dd_128_23, rfl⟩,
   ⟨33, "PairMachine$Store", fT7, 9, dd_128_24, rfl, okc_7, by decide, tw_704⟩,
   ⟨dd_128_27, rfl⟩,
   ⟨by decide, Or.inr ⟨dd_128_28, rfl⟩⟩,
   Or.inl ⟨0, rfl, dd_128_30, rfl⟩,
   ⟨15, "PairMachine$Store", fT7, 9, dd_128_31, rfl, okc_7, by decide, tw_698⟩,
   Or.inr ⟨dd_128_34, rfl⟩,
   Or.inl ⟨1, rfl, dd_128_36, rfl⟩,
   ⟨dd_128_37, rfl⟩,
   Or.inl ⟨0, rfl, dd_128_38, rfl⟩,
   ⟨19, "PairMachine$Store", fT7, 9, dd_128_39, rfl, okc_7, by decide, tw_699⟩,
   Or.inr ⟨dd_128_42, rfl⟩,
   Or.inl ⟨3, rfl, dd_128_44, rfl⟩,
   ⟨dd_128_45, rfl⟩,
   Or.inr ⟨dd_128_46, rfl⟩,
   ⟨dd_128_48, rfl⟩, trivial⟩
theorem okM_128 : mj_okE gG 128 (cM_128, 6, oM_128, hM_128) := ⟨rfl, rfl, by decide +kernel, trivial, okI_128⟩
theorem dd_129_0 : decode prog_8_method_10_code 0 = .ok (.lload_n 1, 1) := by decide +kernel
theorem dd_129_1 : decode prog_8_method_10_code 1 = .ok (.invokestatic 73, 3) := by decide +kernel
theorem dd_129_4 : decode prog_8_method_10_code 4 = .ok (.istore_n 3, 1) := by decide +kernel
theorem dd_129_5 : decode prog_8_method_10_code 5 = .ok (.iload_n 3, 1) := by decide +kernel
theorem dd_129_6 : decode prog_8_method_10_code 6 = .ok (.ifCond .lt 20, 3) := by decide +kernel
theorem dd_129_9 : decode prog_8_method_10_code 9 = .ok (.iload_n 3, 1) := by decide +kernel
theorem dd_129_10 : decode prog_8_method_10_code 10 = .ok (.aload_n 0, 1) := by decide +kernel
theorem dd_129_11 : decode prog_8_method_10_code 11 = .ok (.getfield 9, 3) := by decide +kernel
theorem dd_129_14 : decode prog_8_method_10_code 14 = .ok (.if_icmp .ge 12, 3) := by decide +kernel
theorem dd_129_17 : decode prog_8_method_10_code 17 = .ok (.aload_n 0, 1) := by decide +kernel
theorem dd_129_18 : decode prog_8_method_10_code 18 = .ok (.getfield 15, 3) := by decide +kernel
theorem dd_129_21 : decode prog_8_method_10_code 21 = .ok (.iload_n 3, 1) := by decide +kernel
theorem dd_129_22 : decode prog_8_method_10_code 22 = .ok (.laload, 1) := by decide +kernel
theorem dd_129_23 : decode prog_8_method_10_code 23 = .ok (.goto 4, 3) := by decide +kernel
theorem dd_129_26 : decode prog_8_method_10_code 26 = .ok (.lconst 0, 1) := by decide +kernel
theorem dd_129_27 : decode prog_8_method_10_code 27 = .ok (.lreturn, 1) := by decide +kernel
set_option maxRecDepth 100000 in
theorem okI_129 : mj_okI gG "PairMachine$Store" prog_8_method_10_code 4 (mj_off oM_129) (Option.some Jvm.ClassFile.FieldType.long) false true 0 cM_129 :=
  ⟨Or.inl ⟨1, rfl, dd_129_0, rfl⟩,
   ⟨rfl, tw_674, by decide, tw_372, by decide +kernel, 73, tw_725, dd_129_1, tw_676, by decide +kernel⟩,
   ⟨by decide, Or.inl ⟨3, rfl, dd_129_4, rfl⟩⟩,
   Or.inl ⟨3, rfl, dd_129_5, rfl⟩,
   ⟨20, dd_129_6, rfl, rfl⟩,
   Or.inl ⟨3, rfl, dd_129_9, rfl⟩,
   Or.inl ⟨0, rfl, dd_129_10, rfl⟩,
   ⟨9, "PairMachine$Store", fT7, 9, dd_129_11, rfl, okc_7, by decide, tw_697⟩,
   ⟨12, dd_129_14, rfl, rfl⟩,
   Or.inl ⟨0, rfl, dd_129_17, rfl⟩,
   ⟨15, "PairMachine$Store", fT7, 9, dd_129_18, rfl, okc_7, by decide, tw_698⟩,
   Or.inl ⟨3, rfl, dd_129_21, rfl⟩,
   ⟨dd_129_22, rfl⟩,
   ⟨4, dd_129_23, rfl⟩,
   Or.inl ⟨0, rfl, dd_129_26, rfl⟩,
   ⟨dd_129_27, rfl⟩, trivial⟩
theorem okM_129 : mj_okE gG 129 (cM_129, 4, oM_129, hM_129) := ⟨rfl, rfl, by decide +kernel, trivial, okI_129⟩
theorem dd_130_0 : decode prog_8_method_11_code 0 = .ok (.lload_n 1, 1) := by decide +kernel
theorem dd_130_1 : decode prog_8_method_11_code 1 = .ok (.invokestatic 73, 3) := by decide +kernel
theorem dd_130_4 : decode prog_8_method_11_code 4 = .ok (.istore_n 3, 1) := by decide +kernel
theorem dd_130_5 : decode prog_8_method_11_code 5 = .ok (.iload_n 3, 1) := by decide +kernel
theorem dd_130_6 : decode prog_8_method_11_code 6 = .ok (.ifCond .lt 20, 3) := by decide +kernel
theorem dd_130_9 : decode prog_8_method_11_code 9 = .ok (.iload_n 3, 1) := by decide +kernel
theorem dd_130_10 : decode prog_8_method_11_code 10 = .ok (.aload_n 0, 1) := by decide +kernel
theorem dd_130_11 : decode prog_8_method_11_code 11 = .ok (.getfield 9, 3) := by decide +kernel
theorem dd_130_14 : decode prog_8_method_11_code 14 = .ok (.if_icmp .ge 12, 3) := by decide +kernel
theorem dd_130_17 : decode prog_8_method_11_code 17 = .ok (.aload_n 0, 1) := by decide +kernel
theorem dd_130_18 : decode prog_8_method_11_code 18 = .ok (.getfield 19, 3) := by decide +kernel
theorem dd_130_21 : decode prog_8_method_11_code 21 = .ok (.iload_n 3, 1) := by decide +kernel
theorem dd_130_22 : decode prog_8_method_11_code 22 = .ok (.laload, 1) := by decide +kernel
theorem dd_130_23 : decode prog_8_method_11_code 23 = .ok (.goto 4, 3) := by decide +kernel
theorem dd_130_26 : decode prog_8_method_11_code 26 = .ok (.lconst 0, 1) := by decide +kernel
theorem dd_130_27 : decode prog_8_method_11_code 27 = .ok (.lreturn, 1) := by decide +kernel
set_option maxRecDepth 100000 in
theorem okI_130 : mj_okI gG "PairMachine$Store" prog_8_method_11_code 4 (mj_off oM_130) (Option.some Jvm.ClassFile.FieldType.long) false true 0 cM_130 :=
  ⟨Or.inl ⟨1, rfl, dd_130_0, rfl⟩,
   ⟨rfl, tw_674, by decide, tw_372, by decide +kernel, 73, tw_725, dd_130_1, tw_676, by decide +kernel⟩,
   ⟨by decide, Or.inl ⟨3, rfl, dd_130_4, rfl⟩⟩,
   Or.inl ⟨3, rfl, dd_130_5, rfl⟩,
   ⟨20, dd_130_6, rfl, rfl⟩,
   Or.inl ⟨3, rfl, dd_130_9, rfl⟩,
   Or.inl ⟨0, rfl, dd_130_10, rfl⟩,
   ⟨9, "PairMachine$Store", fT7, 9, dd_130_11, rfl, okc_7, by decide, tw_697⟩,
   ⟨12, dd_130_14, rfl, rfl⟩,
   Or.inl ⟨0, rfl, dd_130_17, rfl⟩,
   ⟨19, "PairMachine$Store", fT7, 9, dd_130_18, rfl, okc_7, by decide, tw_699⟩,
   Or.inl ⟨3, rfl, dd_130_21, rfl⟩,
   ⟨dd_130_22, rfl⟩,
   ⟨4, dd_130_23, rfl⟩,
   Or.inl ⟨0, rfl, dd_130_26, rfl⟩,
   ⟨dd_130_27, rfl⟩, trivial⟩
theorem okM_130 : mj_okE gG 130 (cM_130, 4, oM_130, hM_130) := ⟨rfl, rfl, by decide +kernel, trivial, okI_130⟩
theorem dd_131_0 : decode prog_8_method_12_code 0 = .ok (.lload_n 1, 1) := by decide +kernel
theorem dd_131_1 : decode prog_8_method_12_code 1 = .ok (.invokestatic 73, 3) := by decide +kernel
theorem dd_131_4 : decode prog_8_method_12_code 4 = .ok (.istore 5, 2) := by decide +kernel
theorem dd_131_6 : decode prog_8_method_12_code 6 = .ok (.iload 5, 2) := by decide +kernel
theorem dd_131_8 : decode prog_8_method_12_code 8 = .ok (.ifCond .lt 20, 3) := by decide +kernel
theorem dd_131_11 : decode prog_8_method_12_code 11 = .ok (.iload 5, 2) := by decide +kernel
theorem dd_131_13 : decode prog_8_method_12_code 13 = .ok (.aload_n 0, 1) := by decide +kernel
theorem dd_131_14 : decode prog_8_method_12_code 14 = .ok (.getfield 9, 3) := by decide +kernel
theorem dd_131_17 : decode prog_8_method_12_code 17 = .ok (.if_icmp .ge 11, 3) := by decide +kernel
theorem dd_131_20 : decode prog_8_method_12_code 20 = .ok (.aload_n 0, 1) := by decide +kernel
theorem dd_131_21 : decode prog_8_method_12_code 21 = .ok (.getfield 15, 3) := by decide +kernel
theorem dd_131_24 : decode prog_8_method_12_code 24 = .ok (.iload 5, 2) := by decide +kernel
theorem dd_131_26 : decode prog_8_method_12_code 26 = .ok (.lload_n 3, 1) := by decide +kernel
theorem dd_131_27 : decode prog_8_method_12_code 27 = .ok (.lastore, 1) := by decide +kernel
theorem dd_131_28 : decode prog_8_method_12_code 28 = .ok (.return_, 1) := by decide +kernel
set_option maxRecDepth 100000 in
theorem okI_131 : mj_okI gG "PairMachine$Store" prog_8_method_12_code 6 (mj_off oM_131) (Option.none : Option Jvm.ClassFile.FieldType) false true 0 cM_131 :=
  ⟨Or.inl ⟨1, rfl, dd_131_0, rfl⟩,
   ⟨rfl, tw_674, by decide, tw_372, by decide +kernel, 73, tw_725, dd_131_1, tw_676, by decide +kernel⟩,
   ⟨by decide, Or.inr ⟨dd_131_4, rfl⟩⟩,
   Or.inr ⟨dd_131_6, rfl⟩,
   ⟨20, dd_131_8, rfl, rfl⟩,
   Or.inr ⟨dd_131_11, rfl⟩,
   Or.inl ⟨0, rfl, dd_131_13, rfl⟩,
   ⟨9, "PairMachine$Store", fT7, 9, dd_131_14, rfl, okc_7, by decide, tw_697⟩,
   ⟨11, dd_131_17, rfl, rfl⟩,
   Or.inl ⟨0, rfl, dd_131_20, rfl⟩,
   ⟨15, "PairMachine$Store", fT7, 9, dd_131_21, rfl, okc_7, by decide, tw_698⟩,
   Or.inr ⟨dd_131_24, rfl⟩,
   Or.inl ⟨3, rfl, dd_131_26, rfl⟩,
   ⟨dd_131_27, rfl⟩,
   ⟨dd_131_28, rfl⟩, trivial⟩
theorem okM_131 : mj_okE gG 131 (cM_131, 6, oM_131, hM_131) := ⟨rfl, rfl, by decide +kernel, trivial, okI_131⟩
theorem dd_132_0 : decode prog_8_method_13_code 0 = .ok (.lload_n 1, 1) := by decide +kernel
theorem dd_132_1 : decode prog_8_method_13_code 1 = .ok (.lstore 4, 2) := by decide +kernel
theorem dd_132_3 : decode prog_8_method_13_code 3 = .ok (.iconst 0, 1) := by decide +kernel
theorem dd_132_4 : decode prog_8_method_13_code 4 = .ok (.istore 6, 2) := by decide +kernel
theorem dd_132_6 : decode prog_8_method_13_code 6 = .ok (.iload 6, 2) := by decide +kernel
theorem dd_132_8 : decode prog_8_method_13_code 8 = .ok (.iload_n 3, 1) := by decide +kernel
theorem dd_132_9 : decode prog_8_method_13_code 9 = .ok (.if_icmp .ge 25, 3) := by decide +kernel
theorem dd_132_12 : decode prog_8_method_13_code 12 = .ok (.lload 4, 2) := by decide +kernel
theorem dd_132_14 : decode prog_8_method_13_code 14 = .ok (.invokestatic 77, 3) := by decide +kernel
theorem dd_132_17 : decode prog_8_method_13_code 17 = .ok (.ifCond .eq 17, 3) := by decide +kernel
theorem dd_132_20 : decode prog_8_method_13_code 20 = .ok (.aload_n 0, 1) := by decide +kernel
theorem dd_132_21 : decode prog_8_method_13_code 21 = .ok (.lload 4, 2) := by decide +kernel
theorem dd_132_23 : decode prog_8_method_13_code 23 = .ok (.invokevirtual 81, 3) := by decide +kernel
theorem dd_132_26 : decode prog_8_method_13_code 26 = .ok (.lstore 4, 2) := by decide +kernel
theorem dd_132_28 : decode prog_8_method_13_code 28 = .ok (.iinc 6 1, 3) := by decide +kernel
theorem dd_132_31 : decode prog_8_method_13_code 31 = .ok (.goto (-25), 3) := by decide +kernel
theorem dd_132_34 : decode prog_8_method_13_code 34 = .ok (.lload 4, 2) := by decide +kernel
theorem dd_132_36 : decode prog_8_method_13_code 36 = .ok (.lreturn, 1) := by decide +kernel
set_option maxRecDepth 100000 in
theorem okI_132 : mj_okI gG "PairMachine$Store" prog_8_method_13_code 7 (mj_off oM_132) (Option.some Jvm.ClassFile.FieldType.long) false true 0 cM_132 :=
  ⟨Or.inl ⟨1, rfl, dd_132_0, rfl⟩,
   ⟨by decide, Or.inr ⟨dd_132_1, rfl⟩⟩,
   Or.inl (Or.inl ⟨dd_132_3, rfl⟩),
   ⟨by decide, Or.inr ⟨dd_132_4, rfl⟩⟩,
   Or.inr ⟨dd_132_6, rfl⟩,
   Or.inl ⟨3, rfl, dd_132_8, rfl⟩,
   ⟨25, dd_132_9, rfl, rfl⟩,
   Or.inr ⟨dd_132_12, rfl⟩,
   ⟨rfl, tw_648, by decide, tw_372, by decide +kernel, 77, tw_726, dd_132_14, tw_650, by decide +kernel⟩,
   ⟨17, dd_132_17, rfl, rfl⟩,
   Or.inl ⟨0, rfl, dd_132_20, rfl⟩,
   Or.inr ⟨dd_132_21, rfl⟩,
   ⟨rfl, tw_629, by decide, tw_509, by decide +kernel, 81, tw_727, dd_132_23, tw_631, ⟨"PairMachine$Store", fT7, 9, rfl, tw_632⟩, by decide +kernel⟩,
   ⟨by decide, Or.inr ⟨dd_132_26, rfl⟩⟩,
   ⟨by decide, dd_132_28, rfl⟩,
   ⟨(-25), dd_132_31, rfl⟩,
   Or.inr ⟨dd_132_34, rfl⟩,
   ⟨dd_132_36, rfl⟩, trivial⟩
theorem okM_132 : mj_okE gG 132 (cM_132, 7, oM_132, hM_132) := ⟨rfl, rfl, by decide +kernel, trivial, okI_132⟩
theorem dd_133_0 : decode prog_8_method_14_code 0 = .ok (.iconst 0, 1) := by decide +kernel
theorem dd_133_1 : decode prog_8_method_14_code 1 = .ok (.istore_n 3, 1) := by decide +kernel
theorem dd_133_2 : decode prog_8_method_14_code 2 = .ok (.lload_n 1, 1) := by decide +kernel
theorem dd_133_3 : decode prog_8_method_14_code 3 = .ok (.lstore 4, 2) := by decide +kernel
theorem dd_133_5 : decode prog_8_method_14_code 5 = .ok (.lload 4, 2) := by decide +kernel
theorem dd_133_7 : decode prog_8_method_14_code 7 = .ok (.invokestatic 77, 3) := by decide +kernel
theorem dd_133_10 : decode prog_8_method_14_code 10 = .ok (.ifCond .eq 25, 3) := by decide +kernel
theorem dd_133_13 : decode prog_8_method_14_code 13 = .ok (.iload_n 3, 1) := by decide +kernel
theorem dd_133_14 : decode prog_8_method_14_code 14 = .ok (.aload_n 0, 1) := by decide +kernel
theorem dd_133_15 : decode prog_8_method_14_code 15 = .ok (.getfield 9, 3) := by decide +kernel
theorem dd_133_18 : decode prog_8_method_14_code 18 = .ok (.if_icmp .ge 17, 3) := by decide +kernel
theorem dd_133_21 : decode prog_8_method_14_code 21 = .ok (.iinc 3 1, 3) := by decide +kernel
theorem dd_133_24 : decode prog_8_method_14_code 24 = .ok (.aload_n 0, 1) := by decide +kernel
theorem dd_133_25 : decode prog_8_method_14_code 25 = .ok (.lload 4, 2) := by decide +kernel
theorem dd_133_27 : decode prog_8_method_14_code 27 = .ok (.invokevirtual 81, 3) := by decide +kernel
theorem dd_133_30 : decode prog_8_method_14_code 30 = .ok (.lstore 4, 2) := by decide +kernel
theorem dd_133_32 : decode prog_8_method_14_code 32 = .ok (.goto (-27), 3) := by decide +kernel
theorem dd_133_35 : decode prog_8_method_14_code 35 = .ok (.iload_n 3, 1) := by decide +kernel
theorem dd_133_36 : decode prog_8_method_14_code 36 = .ok (.ireturn, 1) := by decide +kernel
set_option maxRecDepth 100000 in
theorem okI_133 : mj_okI gG "PairMachine$Store" prog_8_method_14_code 6 (mj_off oM_133) (Option.some Jvm.ClassFile.FieldType.int) false true 0 cM_133 :=
  ⟨Or.inl (Or.inl ⟨dd_133_0, rfl⟩),
   ⟨by decide, Or.inl ⟨3, rfl, dd_133_1, rfl⟩⟩,
   Or.inl ⟨1, rfl, dd_133_2, rfl⟩,
   ⟨by decide, Or.inr ⟨dd_133_3, rfl⟩⟩,
   Or.inr ⟨dd_133_5, rfl⟩,
   ⟨rfl, tw_648, by decide, tw_372, by decide +kernel, 77, tw_726, dd_133_7, tw_650, by decide +kernel⟩,
   ⟨25, dd_133_10, rfl, rfl⟩,
   Or.inl ⟨3, rfl, dd_133_13, rfl⟩,
   Or.inl ⟨0, rfl, dd_133_14, rfl⟩,
   ⟨9, "PairMachine$Store", fT7, 9, dd_133_15, rfl, okc_7, by decide, tw_697⟩,
   ⟨17, dd_133_18, rfl, rfl⟩,
   ⟨by decide, dd_133_21, rfl⟩,
   Or.inl ⟨0, rfl, dd_133_24, rfl⟩,
   Or.inr ⟨dd_133_25, rfl⟩,
   ⟨rfl, tw_629, by decide, tw_509, by decide +kernel, 81, tw_727, dd_133_27, tw_631, ⟨"PairMachine$Store", fT7, 9, rfl, tw_632⟩, by decide +kernel⟩,
   ⟨by decide, Or.inr ⟨dd_133_30, rfl⟩⟩,
   ⟨(-27), dd_133_32, rfl⟩,
   Or.inl ⟨3, rfl, dd_133_35, rfl⟩,
   ⟨dd_133_36, rfl⟩, trivial⟩
theorem okM_133 : mj_okE gG 133 (cM_133, 6, oM_133, hM_133) := ⟨rfl, rfl, by decide +kernel, trivial, okI_133⟩
theorem dd_134_0 : decode prog_8_method_15_code 0 = .ok (.iconst 0, 1) := by decide +kernel
theorem dd_134_1 : decode prog_8_method_15_code 1 = .ok (.istore 9, 2) := by decide +kernel
theorem dd_134_3 : decode prog_8_method_15_code 3 = .ok (.iload 9, 2) := by decide +kernel
theorem dd_134_5 : decode prog_8_method_15_code 5 = .ok (.aload_n 0, 1) := by decide +kernel
theorem dd_134_6 : decode prog_8_method_15_code 6 = .ok (.getfield 9, 3) := by decide +kernel
theorem dd_134_9 : decode prog_8_method_15_code 9 = .ok (.if_icmp .ge 17, 3) := by decide +kernel
theorem dd_134_12 : decode prog_8_method_15_code 12 = .ok (.aload_n 0, 1) := by decide +kernel
theorem dd_134_13 : decode prog_8_method_15_code 13 = .ok (.getfield 26, 3) := by decide +kernel
theorem dd_134_16 : decode prog_8_method_15_code 16 = .ok (.iload 9, 2) := by decide +kernel
theorem dd_134_18 : decode prog_8_method_15_code 18 = .ok (.iconst 0, 1) := by decide +kernel
theorem dd_134_19 : decode prog_8_method_15_code 19 = .ok (.bastore, 1) := by decide +kernel
theorem dd_134_20 : decode prog_8_method_15_code 20 = .ok (.iinc 9 1, 3) := by decide +kernel
theorem dd_134_23 : decode prog_8_method_15_code 23 = .ok (.goto (-20), 3) := by decide +kernel
theorem dd_134_26 : decode prog_8_method_15_code 26 = .ok (.aload_n 0, 1) := by decide +kernel
theorem dd_134_27 : decode prog_8_method_15_code 27 = .ok (.iconst 0, 1) := by decide +kernel
theorem dd_134_28 : decode prog_8_method_15_code 28 = .ok (.putfield 84, 3) := by decide +kernel
theorem dd_134_31 : decode prog_8_method_15_code 31 = .ok (.aload_n 0, 1) := by decide +kernel
theorem dd_134_32 : decode prog_8_method_15_code 32 = .ok (.lload_n 1, 1) := by decide +kernel
theorem dd_134_33 : decode prog_8_method_15_code 33 = .ok (.invokevirtual 87, 3) := by decide +kernel
theorem dd_134_36 : decode prog_8_method_15_code 36 = .ok (.aload_n 0, 1) := by decide +kernel
theorem dd_134_37 : decode prog_8_method_15_code 37 = .ok (.lload_n 3, 1) := by decide +kernel
theorem dd_134_38 : decode prog_8_method_15_code 38 = .ok (.invokevirtual 87, 3) := by decide +kernel
theorem dd_134_41 : decode prog_8_method_15_code 41 = .ok (.aload_n 0, 1) := by decide +kernel
theorem dd_134_42 : decode prog_8_method_15_code 42 = .ok (.lload 5, 2) := by decide +kernel
theorem dd_134_44 : decode prog_8_method_15_code 44 = .ok (.invokevirtual 87, 3) := by decide +kernel
theorem dd_134_47 : decode prog_8_method_15_code 47 = .ok (.aload_n 0, 1) := by decide +kernel
theorem dd_134_48 : decode prog_8_method_15_code 48 = .ok (.lload 7, 2) := by decide +kernel
theorem dd_134_50 : decode prog_8_method_15_code 50 = .ok (.invokevirtual 87, 3) := by decide +kernel
theorem dd_134_53 : decode prog_8_method_15_code 53 = .ok (.aload_n 0, 1) := by decide +kernel
theorem dd_134_54 : decode prog_8_method_15_code 54 = .ok (.aload_n 0, 1) := by decide +kernel
theorem dd_134_55 : decode prog_8_method_15_code 55 = .ok (.invokevirtual 91, 3) := by decide +kernel
theorem dd_134_58 : decode prog_8_method_15_code 58 = .ok (.invokevirtual 87, 3) := by decide +kernel
theorem dd_134_61 : decode prog_8_method_15_code 61 = .ok (.iconst 0, 1) := by decide +kernel
theorem dd_134_62 : decode prog_8_method_15_code 62 = .ok (.istore 9, 2) := by decide +kernel
theorem dd_134_64 : decode prog_8_method_15_code 64 = .ok (.iload 9, 2) := by decide +kernel
theorem dd_134_66 : decode prog_8_method_15_code 66 = .ok (.aload_n 0, 1) := by decide +kernel
theorem dd_134_67 : decode prog_8_method_15_code 67 = .ok (.getfield 84, 3) := by decide +kernel
theorem dd_134_70 : decode prog_8_method_15_code 70 = .ok (.if_icmp .ge 50, 3) := by decide +kernel
theorem dd_134_73 : decode prog_8_method_15_code 73 = .ok (.iload 9, 2) := by decide +kernel
theorem dd_134_75 : decode prog_8_method_15_code 75 = .ok (.aload_n 0, 1) := by decide +kernel
theorem dd_134_76 : decode prog_8_method_15_code 76 = .ok (.getfield 9, 3) := by decide +kernel
theorem dd_134_79 : decode prog_8_method_15_code 79 = .ok (.if_icmp .ge 41, 3) := by decide +kernel
theorem dd_134_82 : decode prog_8_method_15_code 82 = .ok (.aload_n 0, 1) := by decide +kernel
theorem dd_134_83 : decode prog_8_method_15_code 83 = .ok (.aload_n 0, 1) := by decide +kernel
theorem dd_134_84 : decode prog_8_method_15_code 84 = .ok (.getfield 15, 3) := by decide +kernel
theorem dd_134_87 : decode prog_8_method_15_code 87 = .ok (.aload_n 0, 1) := by decide +kernel
theorem dd_134_88 : decode prog_8_method_15_code 88 = .ok (.getfield 30, 3) := by decide +kernel
theorem dd_134_91 : decode prog_8_method_15_code 91 = .ok (.iload 9, 2) := by decide +kernel
theorem dd_134_93 : decode prog_8_method_15_code 93 = .ok (.iaload, 1) := by decide +kernel
theorem dd_134_94 : decode prog_8_method_15_code 94 = .ok (.laload, 1) := by decide +kernel
theorem dd_134_95 : decode prog_8_method_15_code 95 = .ok (.invokevirtual 87, 3) := by decide +kernel
theorem dd_134_98 : decode prog_8_method_15_code 98 = .ok (.aload_n 0, 1) := by decide +kernel
theorem dd_134_99 : decode prog_8_method_15_code 99 = .ok (.aload_n 0, 1) := by decide +kernel
theorem dd_134_100 : decode prog_8_method_15_code 100 = .ok (.getfield 19, 3) := by decide +kernel
theorem dd_134_103 : decode prog_8_method_15_code 103 = .ok (.aload_n 0, 1) := by decide +kernel
theorem dd_134_104 : decode prog_8_method_15_code 104 = .ok (.getfield 30, 3) := by decide +kernel
theorem dd_134_107 : decode prog_8_method_15_code 107 = .ok (.iload 9, 2) := by decide +kernel
theorem dd_134_109 : decode prog_8_method_15_code 109 = .ok (.iaload, 1) := by decide +kernel
theorem dd_134_110 : decode prog_8_method_15_code 110 = .ok (.laload, 1) := by decide +kernel
theorem dd_134_111 : decode prog_8_method_15_code 111 = .ok (.invokevirtual 87, 3) := by decide +kernel
theorem dd_134_114 : decode prog_8_method_15_code 114 = .ok (.iinc 9 1, 3) := by decide +kernel
theorem dd_134_117 : decode prog_8_method_15_code 117 = .ok (.goto (-53), 3) := by decide +kernel
theorem dd_134_120 : decode prog_8_method_15_code 120 = .ok (.aload_n 0, 1) := by decide +kernel
theorem dd_134_121 : decode prog_8_method_15_code 121 = .ok (.getfield 84, 3) := by decide +kernel
theorem dd_134_124 : decode prog_8_method_15_code 124 = .ok (.ireturn, 1) := by decide +kernel
set_option maxRecDepth 100000 in
theorem okI_134 : mj_okI gG "PairMachine$Store" prog_8_method_15_code 10 (mj_off oM_134) (Option.some Jvm.ClassFile.FieldType.int) false true 0 cM_134 :=
  ⟨Or.inl (Or.inl ⟨dd_134_0, rfl⟩),
   ⟨by decide, Or.inr ⟨dd_134_1, rfl⟩⟩,
   Or.inr ⟨dd_134_3, rfl⟩,
   Or.inl ⟨0, rfl, dd_134_5, rfl⟩,
   ⟨9, "PairMachine$Store", fT7, 9, dd_134_6, rfl, okc_7, by decide, tw_697⟩,
   ⟨17, dd_134_9, rfl, rfl⟩,
   Or.inl ⟨0, rfl, dd_134_12, rfl⟩,
   ⟨26, "PairMachine$Store", fT7, 9, dd_134_13, rfl, okc_7, by decide, tw_702⟩,
   Or.inr ⟨dd_134_16, rfl⟩,
   Or.inl (Or.inl ⟨dd_134_18, rfl⟩),
   ⟨dd_134_19, rfl⟩,
   ⟨by decide, dd_134_20, rfl⟩,
   ⟨(-20), dd_134_23, rfl⟩,
   Or.inl ⟨0, rfl, dd_134_26, rfl⟩,
   Or.inl (Or.inl ⟨dd_134_27, rfl⟩),
   ⟨84, "PairMachine$Store", fT7, 9, dd_134_28, rfl, okc_7, by decide, tw_728, rfl, Or.inl rfl⟩,
   Or.inl ⟨0, rfl, dd_134_31, rfl⟩,
   Or.inl ⟨1, rfl, dd_134_32, rfl⟩,
   ⟨rfl, tw_729, by decide, tw_509, by decide +kernel, 87, tw_730, dd_134_33, tw_731, ⟨"PairMachine$Store", fT7, 9, rfl, tw_732⟩, by decide +kernel⟩,
   Or.inl ⟨0, rfl, dd_134_36, rfl⟩,
   Or.inl ⟨3, rfl, dd_134_37, rfl⟩,
   ⟨rfl, tw_729, by decide, tw_509, by decide +kernel, 87, tw_730, dd_134_38, tw_731, ⟨"PairMachine$Store", fT7, 9, rfl, tw_732⟩, by decide +kernel⟩,
   Or.inl ⟨0, rfl, dd_134_41, rfl⟩,
   Or.inr ⟨dd_134_42, rfl⟩,
   ⟨rfl, tw_729, by decide, tw_509, by decide +kernel, 87, tw_730, dd_134_44, tw_731, ⟨"PairMachine$Store", fT7, 9, rfl, tw_732⟩, by decide +kernel⟩,
   Or.inl ⟨0, rfl, dd_134_47, rfl⟩,
   Or.inr ⟨dd_134_48, rfl⟩,
   ⟨rfl, tw_729, by decide, tw_509, by decide +kernel, 87, tw_730, dd_134_50, tw_731, ⟨"PairMachine$Store", fT7, 9, rfl, tw_732⟩, by decide +kernel⟩,
   Or.inl ⟨0, rfl, dd_134_53, rfl⟩,
   Or.inl ⟨0, rfl, dd_134_54, rfl⟩,
   ⟨rfl, tw_530, by decide, tw_509, by decide +kernel, 91, tw_733, dd_134_55, tw_532, ⟨"PairMachine$Store", fT7, 9, rfl, tw_533⟩, by decide +kernel⟩,
   ⟨rfl, tw_729, by decide, tw_509, by decide +kernel, 87, tw_730, dd_134_58, tw_731, ⟨"PairMachine$Store", fT7, 9, rfl, tw_732⟩, by decide +kernel⟩,
   Or.inl (Or.inl ⟨dd_134_61, rfl⟩),
   ⟨by decide, Or.inr ⟨dd_134_62, rfl⟩⟩,
   Or.inr ⟨dd_134_64, rfl⟩,
   Or.inl ⟨0, rfl, dd_134_66, rfl⟩,
   ⟨84, "PairMachine$Store", fT7, 9, dd_134_67, rfl, okc_7, by decide, tw_728⟩,
   ⟨50, dd_134_70, rfl, rfl⟩,
   Or.inr ⟨dd_134_73, rfl⟩,
   Or.inl ⟨0, rfl, dd_134_75, rfl⟩,
   ⟨9, "PairMachine$Store", fT7, 9, dd_134_76, rfl, okc_7, by decide, tw_697⟩,
   ⟨41, dd_134_79, rfl, rfl⟩,
   Or.inl ⟨0, rfl, dd_134_82, rfl⟩,
   Or.inl ⟨0, rfl, dd_134_83, rfl⟩,
   ⟨15, "PairMachine$Store", fT7, 9, dd_134_84, rfl, okc_7, by decide, tw_698⟩,
   Or.inl ⟨0, rfl, dd_134_87, rfl⟩,
   ⟨30, "PairMachine$Store", fT7, 9, dd_134_88, rfl, okc_7, by decide, tw_703⟩,
   Or.inr ⟨dd_134_91, rfl⟩,
   ⟨dd_134_93, rfl⟩,
   ⟨dd_134_94, rfl⟩,
   ⟨rfl, tw_729, by decide, tw_509, by decide +kernel, 87, tw_730, dd_134_95, tw_731, ⟨"PairMachine$Store", fT7, 9, rfl, tw_732⟩, by decide +kernel⟩,
   Or.inl ⟨0, rfl, dd_134_98, rfl⟩,
   Or.inl ⟨0, rfl, dd_134_99, rfl⟩,
   ⟨19, "PairMachine$Store", fT7, 9, dd_134_100, rfl, okc_7, by decide, tw_699⟩,
   Or.inl ⟨0, rfl, dd_134_103, rfl⟩,
   ⟨30, "PairMachine$Store", fT7, 9, dd_134_104, rfl, okc_7, by decide, tw_703⟩,
   Or.inr ⟨dd_134_107, rfl⟩,
   ⟨dd_134_109, rfl⟩,
   ⟨dd_134_110, rfl⟩,
   ⟨rfl, tw_729, by decide, tw_509, by decide +kernel, 87, tw_730, dd_134_111, tw_731, ⟨"PairMachine$Store", fT7, 9, rfl, tw_732⟩, by decide +kernel⟩,
   ⟨by decide, dd_134_114, rfl⟩,
   ⟨(-53), dd_134_117, rfl⟩,
   Or.inl ⟨0, rfl, dd_134_120, rfl⟩,
   ⟨84, "PairMachine$Store", fT7, 9, dd_134_121, rfl, okc_7, by decide, tw_728⟩,
   ⟨dd_134_124, rfl⟩, trivial⟩
theorem okM_134 : mj_okE gG 134 (cM_134, 10, oM_134, hM_134) := ⟨rfl, rfl, by decide +kernel, trivial, okI_134⟩
theorem dd_135_0 : decode prog_8_method_16_code 0 = .ok (.lload_n 1, 1) := by decide +kernel
theorem dd_135_1 : decode prog_8_method_16_code 1 = .ok (.invokestatic 73, 3) := by decide +kernel
theorem dd_135_4 : decode prog_8_method_16_code 4 = .ok (.istore_n 3, 1) := by decide +kernel
theorem dd_135_5 : decode prog_8_method_16_code 5 = .ok (.iload_n 3, 1) := by decide +kernel
theorem dd_135_6 : decode prog_8_method_16_code 6 = .ok (.ifCond .lt 58, 3) := by decide +kernel
theorem dd_135_9 : decode prog_8_method_16_code 9 = .ok (.iload_n 3, 1) := by decide +kernel
theorem dd_135_10 : decode prog_8_method_16_code 10 = .ok (.aload_n 0, 1) := by decide +kernel
theorem dd_135_11 : decode prog_8_method_16_code 11 = .ok (.getfield 9, 3) := by decide +kernel
theorem dd_135_14 : decode prog_8_method_16_code 14 = .ok (.if_icmp .ge 50, 3) := by decide +kernel
theorem dd_135_17 : decode prog_8_method_16_code 17 = .ok (.aload_n 0, 1) := by decide +kernel
theorem dd_135_18 : decode prog_8_method_16_code 18 = .ok (.getfield 26, 3) := by decide +kernel
theorem dd_135_21 : decode prog_8_method_16_code 21 = .ok (.iload_n 3, 1) := by decide +kernel
theorem dd_135_22 : decode prog_8_method_16_code 22 = .ok (.baload, 1) := by decide +kernel
theorem dd_135_23 : decode prog_8_method_16_code 23 = .ok (.ifCond .ne 41, 3) := by decide +kernel
theorem dd_135_26 : decode prog_8_method_16_code 26 = .ok (.aload_n 0, 1) := by decide +kernel
theorem dd_135_27 : decode prog_8_method_16_code 27 = .ok (.getfield 84, 3) := by decide +kernel
theorem dd_135_30 : decode prog_8_method_16_code 30 = .ok (.aload_n 0, 1) := by decide +kernel
theorem dd_135_31 : decode prog_8_method_16_code 31 = .ok (.getfield 9, 3) := by decide +kernel
theorem dd_135_34 : decode prog_8_method_16_code 34 = .ok (.if_icmp .ge 30, 3) := by decide +kernel
theorem dd_135_37 : decode prog_8_method_16_code 37 = .ok (.aload_n 0, 1) := by decide +kernel
theorem dd_135_38 : decode prog_8_method_16_code 38 = .ok (.getfield 26, 3) := by decide +kernel
theorem dd_135_41 : decode prog_8_method_16_code 41 = .ok (.iload_n 3, 1) := by decide +kernel
theorem dd_135_42 : decode prog_8_method_16_code 42 = .ok (.iconst 1, 1) := by decide +kernel
theorem dd_135_43 : decode prog_8_method_16_code 43 = .ok (.bastore, 1) := by decide +kernel
theorem dd_135_44 : decode prog_8_method_16_code 44 = .ok (.aload_n 0, 1) := by decide +kernel
theorem dd_135_45 : decode prog_8_method_16_code 45 = .ok (.getfield 30, 3) := by decide +kernel
theorem dd_135_48 : decode prog_8_method_16_code 48 = .ok (.aload_n 0, 1) := by decide +kernel
theorem dd_135_49 : decode prog_8_method_16_code 49 = .ok (.getfield 84, 3) := by decide +kernel
theorem dd_135_52 : decode prog_8_method_16_code 52 = .ok (.iload_n 3, 1) := by decide +kernel
theorem dd_135_53 : decode prog_8_method_16_code 53 = .ok (.iastore, 1) := by decide +kernel
theorem dd_135_54 : decode prog_8_method_16_code 54 = .ok (.aload_n 0, 1) := by decide +kernel
theorem dd_135_55 : decode prog_8_method_16_code 55 = .ok (.dup, 1) := by decide +kernel
theorem dd_135_56 : decode prog_8_method_16_code 56 = .ok (.getfield 84, 3) := by decide +kernel
theorem dd_135_59 : decode prog_8_method_16_code 59 = .ok (.iconst 1, 1) := by decide +kernel
theorem dd_135_60 : decode prog_8_method_16_code 60 = .ok (.iadd, 1) := by decide +kernel
theorem dd_135_61 : decode prog_8_method_16_code 61 = .ok (.putfield 84, 3) := by decide +kernel
theorem dd_135_64 : decode prog_8_method_16_code 64 = .ok (.return_, 1) := by decide +kernel
set_option maxRecDepth 100000 in
theorem okI_135 : mj_okI gG "PairMachine$Store" prog_8_method_16_code 4 (mj_off oM_135) (Option.none : Option Jvm.ClassFile.FieldType) false true 0 cM_135 :=
  ⟨Or.inl ⟨1, rfl, dd_135_0, rfl⟩,
   ⟨rfl, tw_674, by decide, tw_372, by decide +kernel, 73, tw_725, dd_135_1, tw_676, by decide +kernel⟩,
   ⟨by decide, Or.inl ⟨3, rfl, dd_135_4, rfl⟩⟩,
   Or.inl ⟨3, rfl, dd_135_5, rfl⟩,
   ⟨58, dd_135_6, rfl, rfl⟩,
   Or.inl ⟨3, rfl, dd_135_9, rfl⟩,
   Or.inl ⟨0, rfl, dd_135_10, rfl⟩,
   ⟨9, "PairMachine$Store", fT7, 9, dd_135_11, rfl, okc_7, by decide, tw_697⟩,
   ⟨50, dd_135_14, rfl, rfl⟩,
   Or.inl ⟨0, rfl, dd_135_17, rfl⟩,
   ⟨26, "PairMachine$Store", fT7, 9, dd_135_18, rfl, okc_7, by decide, tw_702⟩,
   Or.inl ⟨3, rfl, dd_135_21, rfl⟩,
   ⟨dd_135_22, rfl⟩,
   ⟨41, dd_135_23, rfl, rfl⟩,
   Or.inl ⟨0, rfl, dd_135_26, rfl⟩,
   ⟨84, "PairMachine$Store", fT7, 9, dd_135_27, rfl, okc_7, by decide, tw_728⟩,
   Or.inl ⟨0, rfl, dd_135_30, rfl⟩,
   ⟨9, "PairMachine$Store", fT7, 9, dd_135_31, rfl, okc_7, by decide, tw_697⟩,
   ⟨30, dd_135_34, rfl, rfl⟩,
   Or.inl ⟨0, rfl, dd_135_37, rfl⟩,
   ⟨26, "PairMachine$Store", fT7, 9, dd_135_38, rfl, okc_7, by decide, tw_702⟩,
   Or.inl ⟨3, rfl, dd_135_41, rfl⟩,
   Or.inl (Or.inl ⟨dd_135_42, rfl⟩),
   ⟨dd_135_43, rfl⟩,
   Or.inl ⟨0, rfl, dd_135_44, rfl⟩,
   ⟨30, "PairMachine$Store", fT7, 9, dd_135_45, rfl, okc_7, by decide, tw_703⟩,
   Or.inl ⟨0, rfl, dd_135_48, rfl⟩,
   ⟨84, "PairMachine$Store", fT7, 9, dd_135_49, rfl, okc_7, by decide, tw_728⟩,
   Or.inl ⟨3, rfl, dd_135_52, rfl⟩,
   ⟨dd_135_53, rfl⟩,
   Or.inl ⟨0, rfl, dd_135_54, rfl⟩,
   ⟨dd_135_55, rfl⟩,
   ⟨84, "PairMachine$Store", fT7, 9, dd_135_56, rfl, okc_7, by decide, tw_728⟩,
   Or.inl (Or.inl ⟨dd_135_59, rfl⟩),
   ⟨dd_135_60, rfl⟩,
   ⟨84, "PairMachine$Store", fT7, 9, dd_135_61, rfl, okc_7, by decide, tw_728, rfl, Or.inl rfl⟩,
   ⟨dd_135_64, rfl⟩, trivial⟩
theorem okM_135 : mj_okE gG 135 (cM_135, 4, oM_135, hM_135) := ⟨rfl, rfl, by decide +kernel, trivial, okI_135⟩
theorem dd_136_0 : decode prog_8_method_17_code 0 = .ok (.aload_n 0, 1) := by decide +kernel
theorem dd_136_1 : decode prog_8_method_17_code 1 = .ok (.getfield 33, 3) := by decide +kernel
theorem dd_136_4 : decode prog_8_method_17_code 4 = .ok (.istore_n 1, 1) := by decide +kernel
theorem dd_136_5 : decode prog_8_method_17_code 5 = .ok (.aload_n 0, 1) := by decide +kernel
theorem dd_136_6 : decode prog_8_method_17_code 6 = .ok (.iconst 0, 1) := by decide +kernel
theorem dd_136_7 : decode prog_8_method_17_code 7 = .ok (.putfield 33, 3) := by decide +kernel
theorem dd_136_10 : decode prog_8_method_17_code 10 = .ok (.iconst 0, 1) := by decide +kernel
theorem dd_136_11 : decode prog_8_method_17_code 11 = .ok (.istore_n 2, 1) := by decide +kernel
theorem dd_136_12 : decode prog_8_method_17_code 12 = .ok (.iload_n 2, 1) := by decide +kernel
theorem dd_136_13 : decode prog_8_method_17_code 13 = .ok (.aload_n 0, 1) := by decide +kernel
theorem dd_136_14 : decode prog_8_method_17_code 14 = .ok (.getfield 9, 3) := by decide +kernel
theorem dd_136_17 : decode prog_8_method_17_code 17 = .ok (.if_icmp .ge 38, 3) := by decide +kernel
theorem dd_136_20 : decode prog_8_method_17_code 20 = .ok (.aload_n 0, 1) := by decide +kernel
theorem dd_136_21 : decode prog_8_method_17_code 21 = .ok (.getfield 26, 3) := by decide +kernel
theorem dd_136_24 : decode prog_8_method_17_code 24 = .ok (.iload_n 2, 1) := by decide +kernel
theorem dd_136_25 : decode prog_8_method_17_code 25 = .ok (.baload, 1) := by decide +kernel
theorem dd_136_26 : decode prog_8_method_17_code 26 = .ok (.ifCond .ne 23, 3) := by decide +kernel
theorem dd_136_29 : decode prog_8_method_17_code 29 = .ok (.aload_n 0, 1) := by decide +kernel
theorem dd_136_30 : decode prog_8_method_17_code 30 = .ok (.getfield 22, 3) := by decide +kernel
theorem dd_136_33 : decode prog_8_method_17_code 33 = .ok (.aload_n 0, 1) := by decide +kernel
theorem dd_136_34 : decode prog_8_method_17_code 34 = .ok (.getfield 33, 3) := by decide +kernel
theorem dd_136_37 : decode prog_8_method_17_code 37 = .ok (.iload_n 2, 1) := by decide +kernel
theorem dd_136_38 : decode prog_8_method_17_code 38 = .ok (.iastore, 1) := by decide +kernel
theorem dd_136_39 : decode prog_8_method_17_code 39 = .ok (.aload_n 0, 1) := by decide +kernel
theorem dd_136_40 : decode prog_8_method_17_code 40 = .ok (.dup, 1) := by decide +kernel
theorem dd_136_41 : decode prog_8_method_17_code 41 = .ok (.getfield 33, 3) := by decide +kernel
theorem dd_136_44 : decode prog_8_method_17_code 44 = .ok (.iconst 1, 1) := by decide +kernel
theorem dd_136_45 : decode prog_8_method_17_code 45 = .ok (.iadd, 1) := by decide +kernel
theorem dd_136_46 : decode prog_8_method_17_code 46 = .ok (.putfield 33, 3) := by decide +kernel
theorem dd_136_49 : decode prog_8_method_17_code 49 = .ok (.iinc 2 1, 3) := by decide +kernel
theorem dd_136_52 : decode prog_8_method_17_code 52 = .ok (.goto (-40), 3) := by decide +kernel
theorem dd_136_55 : decode prog_8_method_17_code 55 = .ok (.aload_n 0, 1) := by decide +kernel
theorem dd_136_56 : decode prog_8_method_17_code 56 = .ok (.getfield 33, 3) := by decide +kernel
theorem dd_136_59 : decode prog_8_method_17_code 59 = .ok (.iload_n 1, 1) := by decide +kernel
theorem dd_136_60 : decode prog_8_method_17_code 60 = .ok (.isub, 1) := by decide +kernel
theorem dd_136_61 : decode prog_8_method_17_code 61 = .ok (.ireturn, 1) := by decide +kernel
set_option maxRecDepth 100000 in
theorem okI_136 : mj_okI gG "PairMachine$Store" prog_8_method_17_code 3 (mj_off oM_136) (Option.some Jvm.ClassFile.FieldType.int) false true 0 cM_136 :=
  ⟨Or.inl ⟨0, rfl, dd_136_0, rfl⟩,
   ⟨33, "PairMachine$Store", fT7, 9, dd_136_1, rfl, okc_7, by decide, tw_704⟩,
   ⟨by decide, Or.inl ⟨1, rfl, dd_136_4, rfl⟩⟩,
   Or.inl ⟨0, rfl, dd_136_5, rfl⟩,
   Or.inl (Or.inl ⟨dd_136_6, rfl⟩),
   ⟨33, "PairMachine$Store", fT7, 9, dd_136_7, rfl, okc_7, by decide, tw_704, rfl, Or.inl rfl⟩,
   Or.inl (Or.inl ⟨dd_136_10, rfl⟩),
   ⟨by decide, Or.inl ⟨2, rfl, dd_136_11, rfl⟩⟩,
   Or.inl ⟨2, rfl, dd_136_12, rfl⟩,
   Or.inl ⟨0, rfl, dd_136_13, rfl⟩,
   ⟨9, "PairMachine$Store", fT7, 9, dd_136_14, rfl, okc_7, by decide, tw_697⟩,
   ⟨38, dd_136_17, rfl, rfl⟩,
   Or.inl ⟨0, rfl, dd_136_20, rfl⟩,
   ⟨26, "PairMachine$Store", fT7, 9, dd_136_21, rfl, okc_7, by decide, tw_702⟩,
   Or.inl ⟨2, rfl, dd_136_24, rfl⟩,
   ⟨dd_136_25, rfl⟩,
   ⟨23, dd_136_26, rfl, rfl⟩,
   Or.inl ⟨0, rfl, dd_136_29, rfl⟩,
   ⟨22, "PairMachine$Store", fT7, 9, dd_136_30, rfl, okc_7, by decide, tw_700⟩,
   Or.inl ⟨0, rfl, dd_136_33, rfl⟩,
   ⟨33, "PairMachine$Store", fT7, 9, dd_136_34, rfl, okc_7, by decide, tw_704⟩,
   Or.inl ⟨2, rfl, dd_136_37, rfl⟩,
   ⟨dd_136_38, rfl⟩,
   Or.inl ⟨0, rfl, dd_136_39, rfl⟩,
   ⟨dd_136_40, rfl⟩,
   ⟨33, "PairMachine$Store", fT7, 9, dd_136_41, rfl, okc_7, by decide, tw_704⟩,
   Or.inl (Or.inl ⟨dd_136_44, rfl⟩),
   ⟨dd_136_45, rfl⟩,
   ⟨33, "PairMachine$Store", fT7, 9, dd_136_46, rfl, okc_7, by decide, tw_704, rfl, Or.inl rfl⟩,
   ⟨by decide, dd_136_49, rfl⟩,
   ⟨(-40), dd_136_52, rfl⟩,
   Or.inl ⟨0, rfl, dd_136_55, rfl⟩,
   ⟨33, "PairMachine$Store", fT7, 9, dd_136_56, rfl, okc_7, by decide, tw_704⟩,
   Or.inl ⟨1, rfl, dd_136_59, rfl⟩,
   ⟨dd_136_60, rfl⟩,
   ⟨dd_136_61, rfl⟩, trivial⟩
theorem okM_136 : mj_okE gG 136 (cM_136, 3, oM_136, hM_136) := ⟨rfl, rfl, by decide +kernel, trivial, okI_136⟩
theorem dd_137_0 : decode prog_4_method_1_code 0 = .ok (.aload_n 0, 1) := by decide +kernel
theorem dd_137_1 : decode prog_4_method_1_code 1 = .ok (.invokespecial 3, 3) := by decide +kernel
theorem dd_137_4 : decode prog_4_method_1_code 4 = .ok (.aload_n 0, 1) := by decide +kernel
theorem dd_137_5 : decode prog_4_method_1_code 5 = .ok (.aload_n 1, 1) := by decide +kernel
theorem dd_137_6 : decode prog_4_method_1_code 6 = .ok (.putfield 9, 3) := by decide +kernel
theorem dd_137_9 : decode prog_4_method_1_code 9 = .ok (.aload_n 0, 1) := by decide +kernel
theorem dd_137_10 : decode prog_4_method_1_code 10 = .ok (.new 15, 3) := by decide +kernel
theorem dd_137_13 : decode prog_4_method_1_code 13 = .ok (.dup, 1) := by decide +kernel
theorem dd_137_14 : decode prog_4_method_1_code 14 = .ok (.invokespecial 17, 3) := by decide +kernel
theorem dd_137_17 : decode prog_4_method_1_code 17 = .ok (.putfield 18, 3) := by decide +kernel
theorem dd_137_20 : decode prog_4_method_1_code 20 = .ok (.aload_n 0, 1) := by decide +kernel
theorem dd_137_21 : decode prog_4_method_1_code 21 = .ok (.bipush 120, 2) := by decide +kernel
theorem dd_137_23 : decode prog_4_method_1_code 23 = .ok (.newarray .long, 2) := by decide +kernel
theorem dd_137_25 : decode prog_4_method_1_code 25 = .ok (.putfield 22, 3) := by decide +kernel
theorem dd_137_28 : decode prog_4_method_1_code 28 = .ok (.return_, 1) := by decide +kernel
set_option maxRecDepth 100000 in
theorem okI_137 : mj_okI gG "PairMachine$Display" prog_4_method_1_code 2 (mj_off oM_137) (Option.none : Option Jvm.ClassFile.FieldType) true true 0 cM_137 :=
  ⟨Or.inl ⟨0, rfl, dd_137_0, rfl⟩,
   ⟨3, dd_137_1, rfl, tw_734, tw_97, tw_98⟩,
   Or.inl ⟨0, rfl, dd_137_4, rfl⟩,
   Or.inl ⟨1, rfl, dd_137_5, rfl⟩,
   ⟨9, "PairMachine$Display", fT8, 4, dd_137_6, rfl, okc_8, by decide, tw_735, Or.inl ⟨_, rfl⟩, Or.inr ⟨rfl, by decide, rfl⟩⟩,
   Or.inl ⟨0, rfl, dd_137_9, rfl⟩,
   ⟨15, "java/lang/StringBuilder", fT9, 4, fN9, dd_137_10, rfl, okc_9, rfl, rfl, by decide, tw_736, tw_737, tw_738⟩,
   ⟨dd_137_13, rfl⟩,
   ⟨rfl, ⟨tw_739, by decide, tw_738, by decide +kernel, 17, tw_740, dd_137_14, tw_741, rfl, rfl, rfl, by decide +kernel⟩, by decide, by decide⟩,
   ⟨18, "PairMachine$Display", fT8, 4, dd_137_17, rfl, okc_8, by decide, tw_742, Or.inl ⟨_, rfl⟩, Or.inr ⟨rfl, by decide, rfl⟩⟩,
   Or.inl ⟨0, rfl, dd_137_20, rfl⟩,
   Or.inl (Or.inr (Or.inl ⟨dd_137_21, rfl, by decide⟩)),
   ⟨dd_137_23, rfl, tw_16⟩,
   ⟨22, "PairMachine$Display", fT8, 4, dd_137_25, rfl, okc_8, by decide, tw_743, Or.inr ⟨_, rfl⟩, Or.inr ⟨rfl, by decide, rfl⟩⟩,
   ⟨dd_137_28, rfl⟩, trivial⟩
theorem okM_137 : mj_okE gG 137 (cM_137, 2, oM_137, hM_137) := ⟨rfl, rfl, by decide +kernel, trivial, okI_137⟩
end
