section
theorem dd_221_0 : decode prog_13_method_67_code 0 = .ok (.aload_n 0, 1) := by decide +kernel
theorem dd_221_1 : decode prog_13_method_67_code 1 = .ok (.iconst 0, 1) := by decide +kernel
theorem dd_221_2 : decode prog_13_method_67_code 2 = .ok (.putfield 97, 3) := by decide +kernel
theorem dd_221_5 : decode prog_13_method_67_code 5 = .ok (.aload_n 0, 1) := by decide +kernel
theorem dd_221_6 : decode prog_13_method_67_code 6 = .ok (.getfield 240, 3) := by decide +kernel
theorem dd_221_9 : decode prog_13_method_67_code 9 = .ok (.iconst 2, 1) := by decide +kernel
theorem dd_221_10 : decode prog_13_method_67_code 10 = .ok (.if_icmp .ne 24, 3) := by decide +kernel
theorem dd_221_13 : decode prog_13_method_67_code 13 = .ok (.iload_n 1, 1) := by decide +kernel
theorem dd_221_14 : decode prog_13_method_67_code 14 = .ok (.ifCond .lt 20, 3) := by decide +kernel
theorem dd_221_17 : decode prog_13_method_67_code 17 = .ok (.iload_n 1, 1) := by decide +kernel
theorem dd_221_18 : decode prog_13_method_67_code 18 = .ok (.aload_n 0, 1) := by decide +kernel
theorem dd_221_19 : decode prog_13_method_67_code 19 = .ok (.getfield 316, 3) := by decide +kernel
theorem dd_221_22 : decode prog_13_method_67_code 22 = .ok (.if_icmp .ge 12, 3) := by decide +kernel
theorem dd_221_25 : decode prog_13_method_67_code 25 = .ok (.aload_n 0, 1) := by decide +kernel
theorem dd_221_26 : decode prog_13_method_67_code 26 = .ok (.getfield 91, 3) := by decide +kernel
theorem dd_221_29 : decode prog_13_method_67_code 29 = .ok (.iload_n 1, 1) := by decide +kernel
theorem dd_221_30 : decode prog_13_method_67_code 30 = .ok (.caload, 1) := by decide +kernel
theorem dd_221_31 : decode prog_13_method_67_code 31 = .ok (.goto 4, 3) := by decide +kernel
theorem dd_221_34 : decode prog_13_method_67_code 34 = .ok (.iconst (-1), 1) := by decide +kernel
theorem dd_221_35 : decode prog_13_method_67_code 35 = .ok (.ireturn, 1) := by decide +kernel
set_option maxRecDepth 100000 in
theorem okI_221 : mj_okI gG "PairMachineModel" prog_13_method_67_code 2 (mj_off oM_221) (Option.some Jvm.ClassFile.FieldType.int) false true 0 cM_221 :=
  ⟨Or.inl ⟨0, rfl, dd_221_0, rfl⟩,
   Or.inl (Or.inl ⟨dd_221_1, rfl⟩),
   ⟨97, "PairMachineModel", fT10, 45, dd_221_2, rfl, okc_10, by decide, tw_833, rfl, Or.inl rfl⟩,
   Or.inl ⟨0, rfl, dd_221_5, rfl⟩,
   ⟨240, "PairMachineModel", fT10, 45, dd_221_6, rfl, okc_10, by decide, tw_972⟩,
   Or.inl (Or.inl ⟨dd_221_9, rfl⟩),
   ⟨24, dd_221_10, rfl, rfl⟩,
   Or.inl ⟨1, rfl, dd_221_13, rfl⟩,
   ⟨20, dd_221_14, rfl, rfl⟩,
   Or.inl ⟨1, rfl, dd_221_17, rfl⟩,
   Or.inl ⟨0, rfl, dd_221_18, rfl⟩,
   ⟨316, "PairMachineModel", fT10, 45, dd_221_19, rfl, okc_10, by decide, tw_1053⟩,
   ⟨12, dd_221_22, rfl, rfl⟩,
   Or.inl ⟨0, rfl, dd_221_25, rfl⟩,
   ⟨91, "PairMachineModel", fT10, 45, dd_221_26, rfl, okc_10, by decide, tw_831⟩,
   Or.inl ⟨1, rfl, dd_221_29, rfl⟩,
   ⟨dd_221_30, rfl⟩,
   ⟨4, dd_221_31, rfl⟩,
   Or.inl (Or.inl ⟨dd_221_34, rfl⟩),
   ⟨dd_221_35, rfl⟩, trivial⟩
theorem okM_221 : mj_okE gG 221 (cM_221, 2, oM_221, hM_221) := ⟨rfl, rfl, by decide +kernel, trivial, okI_221⟩
theorem dd_222_0 : decode prog_24_method_1_code 0 = .ok (.aload_n 0, 1) := by decide +kernel
theorem dd_222_1 : decode prog_24_method_1_code 1 = .ok (.bipush 16, 2) := by decide +kernel
theorem dd_222_3 : decode prog_24_method_1_code 3 = .ok (.invokespecial 1, 3) := by decide +kernel
theorem dd_222_6 : decode prog_24_method_1_code 6 = .ok (.return_, 1) := by decide +kernel
set_option maxRecDepth 100000 in
theorem okI_222 : mj_okI gG "java/lang/StringBuilder" prog_24_method_1_code 1 (mj_off oM_222) (Option.none : Option Jvm.ClassFile.FieldType) true true 0 cM_222 :=
  ⟨Or.inl ⟨0, rfl, dd_222_0, rfl⟩,
   Or.inl (Or.inr (Or.inl ⟨dd_222_1, rfl, by decide⟩)),
   ⟨rfl, tw_1072, by decide, tw_1073, by decide +kernel, 1, tw_1074, dd_222_3, tw_1075, rfl, rfl, rfl, by decide +kernel⟩,
   ⟨dd_222_6, rfl⟩, trivial⟩
theorem okM_222 : mj_okE gG 222 (cM_222, 1, oM_222, hM_222) := ⟨rfl, rfl, by decide +kernel, trivial, okI_222⟩
theorem dd_223_0 : decode prog_14_method_2_code 0 = .ok (.aload_n 0, 1) := by decide +kernel
theorem dd_223_1 : decode prog_14_method_2_code 1 = .ok (.invokespecial 3, 3) := by decide +kernel
theorem dd_223_4 : decode prog_14_method_2_code 4 = .ok (.getstatic 18, 3) := by decide +kernel
theorem dd_223_7 : decode prog_14_method_2_code 7 = .ok (.ifCond .eq 18, 3) := by decide +kernel
theorem dd_223_10 : decode prog_14_method_2_code 10 = .ok (.aload_n 0, 1) := by decide +kernel
theorem dd_223_11 : decode prog_14_method_2_code 11 = .ok (.iload_n 1, 1) := by decide +kernel
theorem dd_223_12 : decode prog_14_method_2_code 12 = .ok (.newarray .byte, 2) := by decide +kernel
theorem dd_223_14 : decode prog_14_method_2_code 14 = .ok (.putfield 15, 3) := by decide +kernel
theorem dd_223_17 : decode prog_14_method_2_code 17 = .ok (.aload_n 0, 1) := by decide +kernel
theorem dd_223_18 : decode prog_14_method_2_code 18 = .ok (.iconst 0, 1) := by decide +kernel
theorem dd_223_19 : decode prog_14_method_2_code 19 = .ok (.putfield 22, 3) := by decide +kernel
theorem dd_223_22 : decode prog_14_method_2_code 22 = .ok (.goto 16, 3) := by decide +kernel
theorem dd_223_25 : decode prog_14_method_2_code 25 = .ok (.aload_n 0, 1) := by decide +kernel
theorem dd_223_26 : decode prog_14_method_2_code 26 = .ok (.iload_n 1, 1) := by decide +kernel
theorem dd_223_30 : decode prog_14_method_2_code 30 = .ok (.putfield 15, 3) := by decide +kernel
theorem dd_223_33 : decode prog_14_method_2_code 33 = .ok (.aload_n 0, 1) := by decide +kernel
theorem dd_223_34 : decode prog_14_method_2_code 34 = .ok (.iconst 1, 1) := by decide +kernel
theorem dd_223_35 : decode prog_14_method_2_code 35 = .ok (.putfield 22, 3) := by decide +kernel
theorem dd_223_38 : decode prog_14_method_2_code 38 = .ok (.return_, 1) := by decide +kernel
set_option maxRecDepth 100000 in
theorem okI_223 : mj_okI gG "java/lang/AbstractStringBuilder" prog_14_method_2_code 2 (mj_off oM_223) (Option.none : Option Jvm.ClassFile.FieldType) true true 0 cM_223 :=
  ⟨Or.inl ⟨0, rfl, dd_223_0, rfl⟩,
   ⟨3, dd_223_1, rfl, tw_1076, tw_101, tw_102⟩,
   Or.inr ⟨18, "java/lang/String", "COMPACT_STRINGS", "Z", dd_223_4, rfl, by decide +kernel, tw_1077⟩,
   ⟨18, dd_223_7, rfl, rfl⟩,
   Or.inl ⟨0, rfl, dd_223_10, rfl⟩,
   Or.inl ⟨1, rfl, dd_223_11, rfl⟩,
   ⟨dd_223_12, rfl, tw_1078⟩,
   ⟨15, "java/lang/StringBuilder", fT9, 4, dd_223_14, rfl, okc_9, by decide, tw_1079, Or.inr ⟨_, rfl⟩, Or.inl rfl⟩,
   Or.inl ⟨0, rfl, dd_223_17, rfl⟩,
   Or.inl (Or.inl ⟨dd_223_18, rfl⟩),
   ⟨22, "java/lang/StringBuilder", fT9, 4, dd_223_19, rfl, okc_9, by decide, tw_1080, Or.inr rfl, Or.inl rfl⟩,
   ⟨16, dd_223_22, rfl⟩,
   Or.inl ⟨0, rfl, dd_223_25, rfl⟩,
   Or.inl ⟨1, rfl, dd_223_26, rfl⟩,
   trivial,
   ⟨15, "java/lang/StringBuilder", fT9, 4, dd_223_30, rfl, okc_9, by decide, tw_1079, Or.inr ⟨_, rfl⟩, Or.inl rfl⟩,
   Or.inl ⟨0, rfl, dd_223_33, rfl⟩,
   Or.inl (Or.inl ⟨dd_223_34, rfl⟩),
   ⟨22, "java/lang/StringBuilder", fT9, 4, dd_223_35, rfl, okc_9, by decide, tw_1080, Or.inr rfl, Or.inl rfl⟩,
   ⟨dd_223_38, rfl⟩, trivial⟩
theorem okM_223 : mj_okE gG 223 (cM_223, 2, oM_223, hM_223) := ⟨rfl, rfl, by decide +kernel, trivial, okI_223⟩
theorem dd_224_0 : decode prog_24_method_93_code 0 = .ok (.aload_n 0, 1) := by decide +kernel
theorem dd_224_1 : decode prog_24_method_93_code 1 = .ok (.invokespecial 343, 3) := by decide +kernel
theorem dd_224_4 : decode prog_24_method_93_code 4 = .ok (.ireturn, 1) := by decide +kernel
set_option maxRecDepth 100000 in
theorem okI_224 : mj_okI gG "java/lang/StringBuilder" prog_24_method_93_code 1 (mj_off oM_224) (Option.some Jvm.ClassFile.FieldType.int) false true 0 cM_224 :=
  ⟨Or.inl ⟨0, rfl, dd_224_0, rfl⟩,
   ⟨rfl, tw_1081, by decide, tw_1073, by decide +kernel, 343, tw_1082, dd_224_1, tw_1083, tw_1084, tw_1085, by decide, ⟨"java/lang/StringBuilder", fT9, 4, rfl, tw_741⟩, by decide +kernel⟩,
   ⟨dd_224_4, rfl⟩, trivial⟩
theorem okM_224 : mj_okE gG 224 (cM_224, 1, oM_224, hM_224) := ⟨rfl, rfl, by decide +kernel, trivial, okI_224⟩
theorem dd_225_0 : decode prog_14_method_6_code 0 = .ok (.aload_n 0, 1) := by decide +kernel
theorem dd_225_1 : decode prog_14_method_6_code 1 = .ok (.getfield 79, 3) := by decide +kernel
theorem dd_225_4 : decode prog_14_method_6_code 4 = .ok (.ireturn, 1) := by decide +kernel
set_option maxRecDepth 100000 in
theorem okI_225 : mj_okI gG "java/lang/AbstractStringBuilder" prog_14_method_6_code 1 (mj_off oM_225) (Option.some Jvm.ClassFile.FieldType.int) false true 0 cM_225 :=
  ⟨Or.inl ⟨0, rfl, dd_225_0, rfl⟩,
   ⟨79, "java/lang/StringBuilder", fT9, 4, dd_225_1, rfl, okc_9, by decide, tw_1086⟩,
   ⟨dd_225_4, rfl⟩, trivial⟩
theorem okM_225 : mj_okE gG 225 (cM_225, 1, oM_225, hM_225) := ⟨rfl, rfl, by decide +kernel, trivial, okI_225⟩
theorem dd_226_0 : decode prog_24_method_88_code 0 = .ok (.aload_n 0, 1) := by decide +kernel
theorem dd_226_1 : decode prog_24_method_88_code 1 = .ok (.iload_n 1, 1) := by decide +kernel
theorem dd_226_2 : decode prog_24_method_88_code 2 = .ok (.invokespecial 329, 3) := by decide +kernel
theorem dd_226_5 : decode prog_24_method_88_code 5 = .ok (.ireturn, 1) := by decide +kernel
set_option maxRecDepth 100000 in
theorem okI_226 : mj_okI gG "java/lang/StringBuilder" prog_24_method_88_code 2 (mj_off oM_226) (Option.some Jvm.ClassFile.FieldType.char) false true 0 cM_226 :=
  ⟨Or.inl ⟨0, rfl, dd_226_0, rfl⟩,
   Or.inl ⟨1, rfl, dd_226_1, rfl⟩,
   ⟨rfl, tw_1087, by decide, tw_1073, by decide +kernel, 329, tw_1088, dd_226_2, tw_1089, tw_1090, tw_1085, by decide, ⟨"java/lang/StringBuilder", fT9, 4, rfl, tw_741⟩, by decide +kernel⟩,
   ⟨dd_226_5, rfl⟩, trivial⟩
theorem okM_226 : mj_okE gG 226 (cM_226, 2, oM_226, hM_226) := ⟨rfl, rfl, by decide +kernel, trivial, okI_226⟩
theorem dd_227_0 : decode prog_14_method_14_code 0 = .ok (.aload_n 0, 1) := by decide +kernel
theorem dd_227_1 : decode prog_14_method_14_code 1 = .ok (.getfield 22, 3) := by decide +kernel
theorem dd_227_4 : decode prog_14_method_14_code 4 = .ok (.istore_n 2, 1) := by decide +kernel
theorem dd_227_5 : decode prog_14_method_14_code 5 = .ok (.aload_n 0, 1) := by decide +kernel
theorem dd_227_6 : decode prog_14_method_14_code 6 = .ok (.getfield 15, 3) := by decide +kernel
theorem dd_227_9 : decode prog_14_method_14_code 9 = .ok (.astore_n 3, 1) := by decide +kernel
theorem dd_227_10 : decode prog_14_method_14_code 10 = .ok (.aload_n 0, 1) := by decide +kernel
theorem dd_227_11 : decode prog_14_method_14_code 11 = .ok (.getfield 79, 3) := by decide +kernel
theorem dd_227_14 : decode prog_14_method_14_code 14 = .ok (.aload_n 3, 1) := by decide +kernel
theorem dd_227_15 : decode prog_14_method_14_code 15 = .ok (.arraylength, 1) := by decide +kernel
theorem dd_227_16 : decode prog_14_method_14_code 16 = .ok (.iload_n 2, 1) := by decide +kernel
theorem dd_227_17 : decode prog_14_method_14_code 17 = .ok (.ishr, 1) := by decide +kernel
theorem dd_227_18 : decode prog_14_method_14_code 18 = .ok (.invokestatic 138, 3) := by decide +kernel
theorem dd_227_21 : decode prog_14_method_14_code 21 = .ok (.istore 4, 2) := by decide +kernel
theorem dd_227_23 : decode prog_14_method_14_code 23 = .ok (.iload_n 1, 1) := by decide +kernel
theorem dd_227_24 : decode prog_14_method_14_code 24 = .ok (.iload 4, 2) := by decide +kernel
theorem dd_227_26 : decode prog_14_method_14_code 26 = .ok (.invokestatic 144, 3) := by decide +kernel
theorem dd_227_29 : decode prog_14_method_14_code 29 = .ok (.iload_n 2, 1) := by decide +kernel
theorem dd_227_30 : decode prog_14_method_14_code 30 = .ok (.ifCond .ne 12, 3) := by decide +kernel
theorem dd_227_33 : decode prog_14_method_14_code 33 = .ok (.aload_n 3, 1) := by decide +kernel
theorem dd_227_34 : decode prog_14_method_14_code 34 = .ok (.iload_n 1, 1) := by decide +kernel
theorem dd_227_35 : decode prog_14_method_14_code 35 = .ok (.baload, 1) := by decide +kernel
theorem dd_227_36 : decode prog_14_method_14_code 36 = .ok (.sipush 255, 3) := by decide +kernel
theorem dd_227_39 : decode prog_14_method_14_code 39 = .ok (.iand, 1) := by decide +kernel
theorem dd_227_40 : decode prog_14_method_14_code 40 = .ok (.i2c, 1) := by decide +kernel
theorem dd_227_41 : decode prog_14_method_14_code 41 = .ok (.ireturn, 1) := by decide +kernel
theorem dd_227_42 : decode prog_14_method_14_code 42 = .ok (.aload_n 3, 1) := by decide +kernel
theorem dd_227_43 : decode prog_14_method_14_code 43 = .ok (.iload_n 1, 1) := by decide +kernel
theorem dd_227_47 : decode prog_14_method_14_code 47 = .ok (.ireturn, 1) := by decide +kernel
set_option maxRecDepth 100000 in
theorem okI_227 : mj_okI gG "java/lang/AbstractStringBuilder" prog_14_method_14_code 5 (mj_off oM_227) (Option.some Jvm.ClassFile.FieldType.char) false true 0 cM_227 :=
  ⟨Or.inl ⟨0, rfl, dd_227_0, rfl⟩,
   ⟨22, "java/lang/StringBuilder", fT9, 4, dd_227_1, rfl, okc_9, by decide, tw_1080⟩,
   ⟨by decide, Or.inl ⟨2, rfl, dd_227_4, rfl⟩⟩,
   Or.inl ⟨0, rfl, dd_227_5, rfl⟩,
   ⟨15, "java/lang/StringBuilder", fT9, 4, dd_227_6, rfl, okc_9, by decide, tw_1079⟩,
   ⟨by decide, Or.inl ⟨3, rfl, dd_227_9, rfl⟩⟩,
   Or.inl ⟨0, rfl, dd_227_10, rfl⟩,
   ⟨79, "java/lang/StringBuilder", fT9, 4, dd_227_11, rfl, okc_9, by decide, tw_1086⟩,
   Or.inl ⟨3, rfl, dd_227_14, rfl⟩,
   ⟨dd_227_15, rfl⟩,
   Or.inl ⟨2, rfl, dd_227_16, rfl⟩,
   ⟨dd_227_17, rfl⟩,
   ⟨138, dd_227_18, rfl, tw_103, tw_1091, tw_105, tw_106⟩,
   ⟨by decide, Or.inr ⟨dd_227_21, rfl⟩⟩,
   Or.inl ⟨1, rfl, dd_227_23, rfl⟩,
   Or.inr ⟨dd_227_24, rfl⟩,
   ⟨rfl, tw_1092, by decide, tw_792, by decide +kernel, 144, tw_1093, dd_227_26, tw_1094, by decide +kernel⟩,
   Or.inl ⟨2, rfl, dd_227_29, rfl⟩,
   ⟨12, dd_227_30, rfl, rfl⟩,
   Or.inl ⟨3, rfl, dd_227_33, rfl⟩,
   Or.inl ⟨1, rfl, dd_227_34, rfl⟩,
   ⟨dd_227_35, rfl⟩,
   Or.inl (Or.inr (Or.inr (Or.inl ⟨dd_227_36, rfl, by decide⟩))),
   ⟨dd_227_39, rfl⟩,
   ⟨dd_227_40, rfl⟩,
   ⟨dd_227_41, rfl⟩,
   Or.inl ⟨3, rfl, dd_227_42, rfl⟩,
   Or.inl ⟨1, rfl, dd_227_43, rfl⟩,
   trivial,
   ⟨dd_227_47, rfl⟩, trivial⟩
theorem okM_227 : mj_okE gG 227 (cM_227, 5, oM_227, hM_227) := ⟨rfl, rfl, by decide +kernel, trivial, okI_227⟩
theorem dd_228_0 : decode prog_23_method_155_code 0 = .ok (.iload_n 0, 1) := by decide +kernel
theorem dd_228_1 : decode prog_23_method_155_code 1 = .ok (.iload_n 1, 1) := by decide +kernel
theorem dd_228_2 : decode prog_23_method_155_code 2 = .ok (.getstatic 1053, 3) := by decide +kernel
theorem dd_228_5 : decode prog_23_method_155_code 5 = .ok (.invokestatic 1059, 3) := by decide +kernel
theorem dd_228_8 : decode prog_23_method_155_code 8 = .ok (.pop, 1) := by decide +kernel
theorem dd_228_9 : decode prog_23_method_155_code 9 = .ok (.return_, 1) := by decide +kernel
set_option maxRecDepth 100000 in
theorem okI_228 : mj_okI gG "java/lang/String" prog_23_method_155_code 2 (mj_off oM_228) (Option.none : Option Jvm.ClassFile.FieldType) false true 0 cM_228 :=
  ⟨Or.inl ⟨0, rfl, dd_228_0, rfl⟩,
   Or.inl ⟨1, rfl, dd_228_1, rfl⟩,
   ⟨1053, "jdk/internal/util/Preconditions", "SIOOBE_FORMATTER", "Ljava/util/function/BiFunction;", dd_228_2, rfl, by decide +kernel, tw_1095⟩,
   ⟨rfl, tw_1096, by decide, tw_1097, by decide +kernel, 1059, tw_1098, dd_228_5, tw_1099, by decide +kernel⟩,
   ⟨dd_228_8, rfl⟩,
   ⟨dd_228_9, rfl⟩, trivial⟩
theorem okM_228 : mj_okE gG 228 (cM_228, 2, oM_228, hM_228) := ⟨rfl, rfl, by decide +kernel, trivial, okI_228⟩
theorem dd_229_0 : decode prog_31_method_11_code 0 = .ok (.iload_n 0, 1) := by decide +kernel
theorem dd_229_1 : decode prog_31_method_11_code 1 = .ok (.ifCond .lt 8, 3) := by decide +kernel
theorem dd_229_4 : decode prog_31_method_11_code 4 = .ok (.iload_n 0, 1) := by decide +kernel
theorem dd_229_5 : decode prog_31_method_11_code 5 = .ok (.iload_n 1, 1) := by decide +kernel
theorem dd_229_6 : decode prog_31_method_11_code 6 = .ok (.if_icmp .lt 10, 3) := by decide +kernel
theorem dd_229_9 : decode prog_31_method_11_code 9 = .ok (.aload_n 2, 1) := by decide +kernel
theorem dd_229_10 : decode prog_31_method_11_code 10 = .ok (.iload_n 0, 1) := by decide +kernel
theorem dd_229_11 : decode prog_31_method_11_code 11 = .ok (.iload_n 1, 1) := by decide +kernel
theorem dd_229_16 : decode prog_31_method_11_code 16 = .ok (.iload_n 0, 1) := by decide +kernel
theorem dd_229_17 : decode prog_31_method_11_code 17 = .ok (.ireturn, 1) := by decide +kernel
set_option maxRecDepth 100000 in
theorem okI_229 : mj_okI gG "jdk/internal/util/Preconditions" prog_31_method_11_code 3 (mj_off oM_229) (Option.some Jvm.ClassFile.FieldType.int) false true 0 cM_229 :=
  ⟨Or.inl ⟨0, rfl, dd_229_0, rfl⟩,
   ⟨8, dd_229_1, rfl, rfl⟩,
   Or.inl ⟨0, rfl, dd_229_4, rfl⟩,
   Or.inl ⟨1, rfl, dd_229_5, rfl⟩,
   ⟨10, dd_229_6, rfl, rfl⟩,
   Or.inl ⟨2, rfl, dd_229_9, rfl⟩,
   Or.inl ⟨0, rfl, dd_229_10, rfl⟩,
   Or.inl ⟨1, rfl, dd_229_11, rfl⟩,
   trivial,
   trivial,
   Or.inl ⟨0, rfl, dd_229_16, rfl⟩,
   ⟨dd_229_17, rfl⟩, trivial⟩
theorem okM_229 : mj_okE gG 229 (cM_229, 3, oM_229, hM_229) := ⟨rfl, rfl, by decide +kernel, trivial, okI_229⟩
theorem dd_230_0 : decode prog_23_method_79_code 0 = .ok (.aload_n 0, 1) := by decide +kernel
theorem dd_230_1 : decode prog_23_method_79_code 1 = .ok (.iload_n 1, 1) := by decide +kernel
theorem dd_230_2 : decode prog_23_method_79_code 2 = .ok (.iconst 0, 1) := by decide +kernel
theorem dd_230_3 : decode prog_23_method_79_code 3 = .ok (.invokevirtual 633, 3) := by decide +kernel
theorem dd_230_6 : decode prog_23_method_79_code 6 = .ok (.ireturn, 1) := by decide +kernel
set_option maxRecDepth 100000 in
theorem okI_230 : mj_okI gG "java/lang/String" prog_23_method_79_code 2 (mj_off oM_230) (Option.some Jvm.ClassFile.FieldType.int) false true 0 cM_230 :=
  ⟨Or.inl ⟨0, rfl, dd_230_0, rfl⟩,
   Or.inl ⟨1, rfl, dd_230_1, rfl⟩,
   Or.inl (Or.inl ⟨dd_230_2, rfl⟩),
   ⟨rfl, tw_1100, by decide, tw_792, by decide +kernel, 633, tw_1101, dd_230_3, tw_1102, tw_1103, by decide +kernel⟩,
   ⟨dd_230_6, rfl⟩, trivial⟩
theorem okM_230 : mj_okE gG 230 (cM_230, 2, oM_230, hM_230) := ⟨rfl, rfl, by decide +kernel, trivial, okI_230⟩
theorem dd_231_0 : decode prog_23_method_80_code 0 = .ok (.aload_n 0, 1) := by decide +kernel
theorem dd_231_1 : decode prog_23_method_80_code 1 = .ok (.invokevirtual 492, 3) := by decide +kernel
theorem dd_231_4 : decode prog_23_method_80_code 4 = .ok (.ifCond .eq 19, 3) := by decide +kernel
theorem dd_231_7 : decode prog_23_method_80_code 7 = .ok (.aload_n 0, 1) := by decide +kernel
theorem dd_231_8 : decode prog_23_method_80_code 8 = .ok (.getfield 9, 3) := by decide +kernel
theorem dd_231_11 : decode prog_23_method_80_code 11 = .ok (.iload_n 1, 1) := by decide +kernel
theorem dd_231_12 : decode prog_23_method_80_code 12 = .ok (.iload_n 2, 1) := by decide +kernel
theorem dd_231_13 : decode prog_23_method_80_code 13 = .ok (.aload_n 0, 1) := by decide +kernel
theorem dd_231_14 : decode prog_23_method_80_code 14 = .ok (.invokevirtual 505, 3) := by decide +kernel
theorem dd_231_17 : decode prog_23_method_80_code 17 = .ok (.invokestatic 637, 3) := by decide +kernel
theorem dd_231_20 : decode prog_23_method_80_code 20 = .ok (.goto 16, 3) := by decide +kernel
theorem dd_231_23 : decode prog_23_method_80_code 23 = .ok (.aload_n 0, 1) := by decide +kernel
theorem dd_231_24 : decode prog_23_method_80_code 24 = .ok (.getfield 9, 3) := by decide +kernel
theorem dd_231_27 : decode prog_23_method_80_code 27 = .ok (.iload_n 1, 1) := by decide +kernel
theorem dd_231_28 : decode prog_23_method_80_code 28 = .ok (.iload_n 2, 1) := by decide +kernel
theorem dd_231_29 : decode prog_23_method_80_code 29 = .ok (.aload_n 0, 1) := by decide +kernel
theorem dd_231_30 : decode prog_23_method_80_code 30 = .ok (.invokevirtual 505, 3) := by decide +kernel
theorem dd_231_36 : decode prog_23_method_80_code 36 = .ok (.ireturn, 1) := by decide +kernel
set_option maxRecDepth 100000 in
theorem okI_231 : mj_okI gG "java/lang/String" prog_23_method_80_code 3 (mj_off oM_231) (Option.some Jvm.ClassFile.FieldType.int) false true 0 cM_231 :=
  ⟨Or.inl ⟨0, rfl, dd_231_0, rfl⟩,
   ⟨rfl, tw_1104, by decide, tw_792, by decide +kernel, 492, tw_1105, dd_231_1, tw_1106, tw_1107, by decide +kernel⟩,
   ⟨19, dd_231_4, rfl, rfl⟩,
   Or.inl ⟨0, rfl, dd_231_7, rfl⟩,
   ⟨9, dd_231_8, rfl, tw_1108⟩,
   Or.inl ⟨1, rfl, dd_231_11, rfl⟩,
   Or.inl ⟨2, rfl, dd_231_12, rfl⟩,
   Or.inl ⟨0, rfl, dd_231_13, rfl⟩,
   ⟨rfl, tw_1109, by decide, tw_792, by decide +kernel, 505, tw_1110, dd_231_14, tw_1111, tw_1112, by decide +kernel⟩,
   ⟨rfl, tw_1113, by decide, tw_1114, by decide +kernel, 637, tw_1115, dd_231_17, tw_1116, by decide +kernel⟩,
   ⟨16, dd_231_20, rfl⟩,
   Or.inl ⟨0, rfl, dd_231_23, rfl⟩,
   ⟨9, dd_231_24, rfl, tw_1108⟩,
   Or.inl ⟨1, rfl, dd_231_27, rfl⟩,
   Or.inl ⟨2, rfl, dd_231_28, rfl⟩,
   Or.inl ⟨0, rfl, dd_231_29, rfl⟩,
   ⟨rfl, tw_1109, by decide, tw_792, by decide +kernel, 505, tw_1110, dd_231_30, tw_1111, tw_1112, by decide +kernel⟩,
   trivial,
   ⟨dd_231_36, rfl⟩, trivial⟩
theorem okM_231 : mj_okE gG 231 (cM_231, 3, oM_231, hM_231) := ⟨rfl, rfl, by decide +kernel, trivial, okI_231⟩
theorem dd_232_0 : decode prog_23_method_154_code 0 = .ok (.getstatic 38, 3) := by decide +kernel
theorem dd_232_3 : decode prog_23_method_154_code 3 = .ok (.ifCond .eq 14, 3) := by decide +kernel
theorem dd_232_6 : decode prog_23_method_154_code 6 = .ok (.aload_n 0, 1) := by decide +kernel
theorem dd_232_7 : decode prog_23_method_154_code 7 = .ok (.getfield 15, 3) := by decide +kernel
theorem dd_232_10 : decode prog_23_method_154_code 10 = .ok (.ifCond .ne 7, 3) := by decide +kernel
theorem dd_232_13 : decode prog_23_method_154_code 13 = .ok (.iconst 1, 1) := by decide +kernel
theorem dd_232_14 : decode prog_23_method_154_code 14 = .ok (.goto 4, 3) := by decide +kernel
theorem dd_232_17 : decode prog_23_method_154_code 17 = .ok (.iconst 0, 1) := by decide +kernel
theorem dd_232_18 : decode prog_23_method_154_code 18 = .ok (.ireturn, 1) := by decide +kernel
set_option maxRecDepth 100000 in
theorem okI_232 : mj_okI gG "java/lang/String" prog_23_method_154_code 1 (mj_off oM_232) (Option.some Jvm.ClassFile.FieldType.boolean) false true 0 cM_232 :=
  ⟨Or.inr ⟨38, "java/lang/String", "COMPACT_STRINGS", "Z", dd_232_0, rfl, by decide +kernel, tw_1117⟩,
   ⟨14, dd_232_3, rfl, rfl⟩,
   Or.inl ⟨0, rfl, dd_232_6, rfl⟩,
   ⟨15, dd_232_7, rfl, tw_1118⟩,
   ⟨7, dd_232_10, rfl, rfl⟩,
   Or.inl (Or.inl ⟨dd_232_13, rfl⟩),
   ⟨4, dd_232_14, rfl⟩,
   Or.inl (Or.inl ⟨dd_232_17, rfl⟩),
   ⟨dd_232_18, rfl⟩, trivial⟩
theorem okM_232 : mj_okE gG 232 (cM_232, 1, oM_232, hM_232) := ⟨rfl, rfl, by decide +kernel, trivial, okI_232⟩
theorem dd_233_0 : decode prog_23_method_54_code 0 = .ok (.aload_n 0, 1) := by decide +kernel
theorem dd_233_1 : decode prog_23_method_54_code 1 = .ok (.getfield 9, 3) := by decide +kernel
theorem dd_233_4 : decode prog_23_method_54_code 4 = .ok (.arraylength, 1) := by decide +kernel
theorem dd_233_5 : decode prog_23_method_54_code 5 = .ok (.aload_n 0, 1) := by decide +kernel
theorem dd_233_6 : decode prog_23_method_54_code 6 = .ok (.invokevirtual 335, 3) := by decide +kernel
theorem dd_233_9 : decode prog_23_method_54_code 9 = .ok (.ishr, 1) := by decide +kernel
theorem dd_233_10 : decode prog_23_method_54_code 10 = .ok (.ireturn, 1) := by decide +kernel
set_option maxRecDepth 100000 in
theorem okI_233 : mj_okI gG "java/lang/String" prog_23_method_54_code 1 (mj_off oM_233) (Option.some Jvm.ClassFile.FieldType.int) false true 0 cM_233 :=
  ⟨Or.inl ⟨0, rfl, dd_233_0, rfl⟩,
   ⟨9, dd_233_1, rfl, tw_1108⟩,
   ⟨dd_233_4, rfl⟩,
   Or.inl ⟨0, rfl, dd_233_5, rfl⟩,
   ⟨rfl, tw_1119, by decide, tw_792, by decide +kernel, 335, tw_1120, dd_233_6, tw_1121, tw_1122, by decide +kernel⟩,
   ⟨dd_233_9, rfl⟩,
   ⟨dd_233_10, rfl⟩, trivial⟩
theorem okM_233 : mj_okE gG 233 (cM_233, 1, oM_233, hM_233) := ⟨rfl, rfl, by decide +kernel, trivial, okI_233⟩
theorem dd_234_0 : decode prog_23_method_152_code 0 = .ok (.getstatic 38, 3) := by decide +kernel
theorem dd_234_3 : decode prog_23_method_152_code 3 = .ok (.ifCond .eq 10, 3) := by decide +kernel
theorem dd_234_6 : decode prog_23_method_152_code 6 = .ok (.aload_n 0, 1) := by decide +kernel
theorem dd_234_7 : decode prog_23_method_152_code 7 = .ok (.getfield 15, 3) := by decide +kernel
theorem dd_234_10 : decode prog_23_method_152_code 10 = .ok (.goto 4, 3) := by decide +kernel
theorem dd_234_13 : decode prog_23_method_152_code 13 = .ok (.iconst 1, 1) := by decide +kernel
theorem dd_234_14 : decode prog_23_method_152_code 14 = .ok (.ireturn, 1) := by decide +kernel
set_option maxRecDepth 100000 in
theorem okI_234 : mj_okI gG "java/lang/String" prog_23_method_152_code 1 (mj_off oM_234) (Option.some Jvm.ClassFile.FieldType.byte) false true 0 cM_234 :=
  ⟨Or.inr ⟨38, "java/lang/String", "COMPACT_STRINGS", "Z", dd_234_0, rfl, by decide +kernel, tw_1117⟩,
   ⟨10, dd_234_3, rfl, rfl⟩,
   Or.inl ⟨0, rfl, dd_234_6, rfl⟩,
   ⟨15, dd_234_7, rfl, tw_1118⟩,
   ⟨4, dd_234_10, rfl⟩,
   Or.inl (Or.inl ⟨dd_234_13, rfl⟩),
   ⟨dd_234_14, rfl⟩, trivial⟩
theorem okM_234 : mj_okE gG 234 (cM_234, 1, oM_234, hM_234) := ⟨rfl, rfl, by decide +kernel, trivial, okI_234⟩
theorem dd_235_0 : decode prog_25_method_22_code 0 = .ok (.iload_n 1, 1) := by decide +kernel
theorem dd_235_1 : decode prog_25_method_22_code 1 = .ok (.invokestatic 88, 3) := by decide +kernel
theorem dd_235_4 : decode prog_25_method_22_code 4 = .ok (.ifCond .ne 5, 3) := by decide +kernel
theorem dd_235_7 : decode prog_25_method_22_code 7 = .ok (.iconst (-1), 1) := by decide +kernel
theorem dd_235_8 : decode prog_25_method_22_code 8 = .ok (.ireturn, 1) := by decide +kernel
theorem dd_235_9 : decode prog_25_method_22_code 9 = .ok (.iload_n 2, 1) := by decide +kernel
theorem dd_235_10 : decode prog_25_method_22_code 10 = .ok (.iconst 0, 1) := by decide +kernel
theorem dd_235_11 : decode prog_25_method_22_code 11 = .ok (.invokestatic 92, 3) := by decide +kernel
theorem dd_235_14 : decode prog_25_method_22_code 14 = .ok (.istore_n 2, 1) := by decide +kernel
theorem dd_235_15 : decode prog_25_method_22_code 15 = .ok (.iload_n 3, 1) := by decide +kernel
theorem dd_235_16 : decode prog_25_method_22_code 16 = .ok (.aload_n 0, 1) := by decide +kernel
theorem dd_235_17 : decode prog_25_method_22_code 17 = .ok (.arraylength, 1) := by decide +kernel
theorem dd_235_18 : decode prog_25_method_22_code 18 = .ok (.invokestatic 38, 3) := by decide +kernel
theorem dd_235_21 : decode prog_25_method_22_code 21 = .ok (.istore_n 3, 1) := by decide +kernel
theorem dd_235_22 : decode prog_25_method_22_code 22 = .ok (.iload_n 2, 1) := by decide +kernel
theorem dd_235_23 : decode prog_25_method_22_code 23 = .ok (.iload_n 3, 1) := by decide +kernel
theorem dd_235_24 : decode prog_25_method_22_code 24 = .ok (.if_icmp .lt 5, 3) := by decide +kernel
theorem dd_235_27 : decode prog_25_method_22_code 27 = .ok (.iconst (-1), 1) := by decide +kernel
theorem dd_235_28 : decode prog_25_method_22_code 28 = .ok (.ireturn, 1) := by decide +kernel
theorem dd_235_29 : decode prog_25_method_22_code 29 = .ok (.aload_n 0, 1) := by decide +kernel
theorem dd_235_30 : decode prog_25_method_22_code 30 = .ok (.iload_n 1, 1) := by decide +kernel
theorem dd_235_31 : decode prog_25_method_22_code 31 = .ok (.iload_n 2, 1) := by decide +kernel
theorem dd_235_32 : decode prog_25_method_22_code 32 = .ok (.iload_n 3, 1) := by decide +kernel
theorem dd_235_33 : decode prog_25_method_22_code 33 = .ok (.invokestatic 95, 3) := by decide +kernel
theorem dd_235_36 : decode prog_25_method_22_code 36 = .ok (.ireturn, 1) := by decide +kernel
set_option maxRecDepth 100000 in
theorem okI_235 : mj_okI gG "java/lang/StringLatin1" prog_25_method_22_code 4 (mj_off oM_235) (Option.some Jvm.ClassFile.FieldType.int) false true 0 cM_235 :=
  ⟨Or.inl ⟨1, rfl, dd_235_0, rfl⟩,
   ⟨rfl, tw_1123, by decide, tw_1114, by decide +kernel, 88, tw_1124, dd_235_1, tw_1125, by decide +kernel⟩,
   ⟨5, dd_235_4, rfl, rfl⟩,
   Or.inl (Or.inl ⟨dd_235_7, rfl⟩),
   ⟨dd_235_8, rfl⟩,
   Or.inl ⟨2, rfl, dd_235_9, rfl⟩,
   Or.inl (Or.inl ⟨dd_235_10, rfl⟩),
   ⟨92, dd_235_11, rfl, tw_103, tw_1126, tw_108, tw_109⟩,
   ⟨by decide, Or.inl ⟨2, rfl, dd_235_14, rfl⟩⟩,
   Or.inl ⟨3, rfl, dd_235_15, rfl⟩,
   Or.inl ⟨0, rfl, dd_235_16, rfl⟩,
   ⟨dd_235_17, rfl⟩,
   ⟨38, dd_235_18, rfl, tw_103, tw_1127, tw_105, tw_106⟩,
   ⟨by decide, Or.inl ⟨3, rfl, dd_235_21, rfl⟩⟩,
   Or.inl ⟨2, rfl, dd_235_22, rfl⟩,
   Or.inl ⟨3, rfl, dd_235_23, rfl⟩,
   ⟨5, dd_235_24, rfl, rfl⟩,
   Or.inl (Or.inl ⟨dd_235_27, rfl⟩),
   ⟨dd_235_28, rfl⟩,
   Or.inl ⟨0, rfl, dd_235_29, rfl⟩,
   Or.inl ⟨1, rfl, dd_235_30, rfl⟩,
   Or.inl ⟨2, rfl, dd_235_31, rfl⟩,
   Or.inl ⟨3, rfl, dd_235_32, rfl⟩,
   ⟨rfl, tw_1128, by decide, tw_1114, by decide +kernel, 95, tw_1129, dd_235_33, tw_1130, by decide +kernel⟩,
   ⟨dd_235_36, rfl⟩, trivial⟩
theorem okM_235 : mj_okE gG 235 (cM_235, 4, oM_235, hM_235) := ⟨rfl, rfl, by decide +kernel, trivial, okI_235⟩
theorem dd_236_0 : decode prog_25_method_4_code 0 = .ok (.iload_n 0, 1) := by decide +kernel
theorem dd_236_1 : decode prog_25_method_4_code 1 = .ok (.ifCond .lt 14, 3) := by decide +kernel
theorem dd_236_4 : decode prog_25_method_4_code 4 = .ok (.iload_n 0, 1) := by decide +kernel
theorem dd_236_5 : decode prog_25_method_4_code 5 = .ok (.sipush 255, 3) := by decide +kernel
theorem dd_236_8 : decode prog_25_method_4_code 8 = .ok (.if_icmp .gt 7, 3) := by decide +kernel
theorem dd_236_11 : decode prog_25_method_4_code 11 = .ok (.iconst 1, 1) := by decide +kernel
theorem dd_236_12 : decode prog_25_method_4_code 12 = .ok (.goto 4, 3) := by decide +kernel
theorem dd_236_15 : decode prog_25_method_4_code 15 = .ok (.iconst 0, 1) := by decide +kernel
theorem dd_236_16 : decode prog_25_method_4_code 16 = .ok (.ireturn, 1) := by decide +kernel
set_option maxRecDepth 100000 in
theorem okI_236 : mj_okI gG "java/lang/StringLatin1" prog_25_method_4_code 1 (mj_off oM_236) (Option.some Jvm.ClassFile.FieldType.boolean) false true 0 cM_236 :=
  ⟨Or.inl ⟨0, rfl, dd_236_0, rfl⟩,
   ⟨14, dd_236_1, rfl, rfl⟩,
   Or.inl ⟨0, rfl, dd_236_4, rfl⟩,
   Or.inl (Or.inr (Or.inr (Or.inl ⟨dd_236_5, rfl, by decide⟩))),
   ⟨7, dd_236_8, rfl, rfl⟩,
   Or.inl (Or.inl ⟨dd_236_11, rfl⟩),
   ⟨4, dd_236_12, rfl⟩,
   Or.inl (Or.inl ⟨dd_236_15, rfl⟩),
   ⟨dd_236_16, rfl⟩, trivial⟩
theorem okM_236 : mj_okE gG 236 (cM_236, 1, oM_236, hM_236) := ⟨rfl, rfl, by decide +kernel, trivial, okI_236⟩
theorem dd_237_0 : decode prog_25_method_23_code 0 = .ok (.iload_n 1, 1) := by decide +kernel
theorem dd_237_1 : decode prog_25_method_23_code 1 = .ok (.i2b, 1) := by decide +kernel
theorem dd_237_2 : decode prog_25_method_23_code 2 = .ok (.istore 4, 2) := by decide +kernel
theorem dd_237_4 : decode prog_25_method_23_code 4 = .ok (.iload_n 2, 1) := by decide +kernel
theorem dd_237_5 : decode prog_25_method_23_code 5 = .ok (.istore 5, 2) := by decide +kernel
theorem dd_237_7 : decode prog_25_method_23_code 7 = .ok (.iload 5, 2) := by decide +kernel
theorem dd_237_9 : decode prog_25_method_23_code 9 = .ok (.iload_n 3, 1) := by decide +kernel
theorem dd_237_10 : decode prog_25_method_23_code 10 = .ok (.if_icmp .ge 21, 3) := by decide +kernel
theorem dd_237_13 : decode prog_25_method_23_code 13 = .ok (.aload_n 0, 1) := by decide +kernel
theorem dd_237_14 : decode prog_25_method_23_code 14 = .ok (.iload 5, 2) := by decide +kernel
theorem dd_237_16 : decode prog_25_method_23_code 16 = .ok (.baload, 1) := by decide +kernel
theorem dd_237_17 : decode prog_25_method_23_code 17 = .ok (.iload 4, 2) := by decide +kernel
theorem dd_237_19 : decode prog_25_method_23_code 19 = .ok (.if_icmp .ne 6, 3) := by decide +kernel
theorem dd_237_22 : decode prog_25_method_23_code 22 = .ok (.iload 5, 2) := by decide +kernel
theorem dd_237_24 : decode prog_25_method_23_code 24 = .ok (.ireturn, 1) := by decide +kernel
theorem dd_237_25 : decode prog_25_method_23_code 25 = .ok (.iinc 5 1, 3) := by decide +kernel
theorem dd_237_28 : decode prog_25_method_23_code 28 = .ok (.goto (-21), 3) := by decide +kernel
theorem dd_237_31 : decode prog_25_method_23_code 31 = .ok (.iconst (-1), 1) := by decide +kernel
theorem dd_237_32 : decode prog_25_method_23_code 32 = .ok (.ireturn, 1) := by decide +kernel
set_option maxRecDepth 100000 in
theorem okI_237 : mj_okI gG "java/lang/StringLatin1" prog_25_method_23_code 6 (mj_off oM_237) (Option.some Jvm.ClassFile.FieldType.int) false true 0 cM_237 :=
  ⟨Or.inl ⟨1, rfl, dd_237_0, rfl⟩,
   ⟨dd_237_1, rfl⟩,
   ⟨by decide, Or.inr ⟨dd_237_2, rfl⟩⟩,
   Or.inl ⟨2, rfl, dd_237_4, rfl⟩,
   ⟨by decide, Or.inr ⟨dd_237_5, rfl⟩⟩,
   Or.inr ⟨dd_237_7, rfl⟩,
   Or.inl ⟨3, rfl, dd_237_9, rfl⟩,
   ⟨21, dd_237_10, rfl, rfl⟩,
   Or.inl ⟨0, rfl, dd_237_13, rfl⟩,
   Or.inr ⟨dd_237_14, rfl⟩,
   ⟨dd_237_16, rfl⟩,
   Or.inr ⟨dd_237_17, rfl⟩,
   ⟨6, dd_237_19, rfl, rfl⟩,
   Or.inr ⟨dd_237_22, rfl⟩,
   ⟨dd_237_24, rfl⟩,
   ⟨by decide, dd_237_25, rfl⟩,
   ⟨(-21), dd_237_28, rfl⟩,
   Or.inl (Or.inl ⟨dd_237_31, rfl⟩),
   ⟨dd_237_32, rfl⟩, trivial⟩
theorem okM_237 : mj_okE gG 237 (cM_237, 6, oM_237, hM_237) := ⟨rfl, rfl, by decide +kernel, trivial, okI_237⟩
theorem dd_238_0 : decode prog_24_method_89_code 0 = .ok (.aload_n 0, 1) := by decide +kernel
theorem dd_238_1 : decode prog_24_method_89_code 1 = .ok (.iload_n 1, 1) := by decide +kernel
theorem dd_238_2 : decode prog_24_method_89_code 2 = .ok (.invokespecial 333, 3) := by decide +kernel
theorem dd_238_5 : decode prog_24_method_89_code 5 = .ok (.return_, 1) := by decide +kernel
set_option maxRecDepth 100000 in
theorem okI_238 : mj_okI gG "java/lang/StringBuilder" prog_24_method_89_code 2 (mj_off oM_238) (Option.none : Option Jvm.ClassFile.FieldType) false true 0 cM_238 :=
  ⟨Or.inl ⟨0, rfl, dd_238_0, rfl⟩,
   Or.inl ⟨1, rfl, dd_238_1, rfl⟩,
   ⟨rfl, tw_1131, by decide, tw_1073, by decide +kernel, 333, tw_1132, dd_238_2, tw_1133, tw_1134, tw_1085, by decide, ⟨"java/lang/StringBuilder", fT9, 4, rfl, tw_741⟩, by decide +kernel⟩,
   ⟨dd_238_5, rfl⟩, trivial⟩
theorem okM_238 : mj_okE gG 238 (cM_238, 2, oM_238, hM_238) := ⟨rfl, rfl, by decide +kernel, trivial, okI_238⟩
theorem dd_239_0 : decode prog_14_method_13_code 0 = .ok (.iload_n 1, 1) := by decide +kernel
theorem dd_239_1 : decode prog_14_method_13_code 1 = .ok (.ifCond .ge 12, 3) := by decide +kernel
theorem dd_239_7 : decode prog_14_method_13_code 7 = .ok (.dup, 1) := by decide +kernel
theorem dd_239_8 : decode prog_14_method_13_code 8 = .ok (.iload_n 1, 1) := by decide +kernel
theorem dd_239_13 : decode prog_14_method_13_code 13 = .ok (.aload_n 0, 1) := by decide +kernel
theorem dd_239_14 : decode prog_14_method_13_code 14 = .ok (.iload_n 1, 1) := by decide +kernel
theorem dd_239_15 : decode prog_14_method_13_code 15 = .ok (.invokevirtual 100, 3) := by decide +kernel
theorem dd_239_18 : decode prog_14_method_13_code 18 = .ok (.aload_n 0, 1) := by decide +kernel
theorem dd_239_19 : decode prog_14_method_13_code 19 = .ok (.getfield 79, 3) := by decide +kernel
theorem dd_239_22 : decode prog_14_method_13_code 22 = .ok (.iload_n 1, 1) := by decide +kernel
theorem dd_239_23 : decode prog_14_method_13_code 23 = .ok (.if_icmp .ge 40, 3) := by decide +kernel
theorem dd_239_26 : decode prog_14_method_13_code 26 = .ok (.aload_n 0, 1) := by decide +kernel
theorem dd_239_27 : decode prog_14_method_13_code 27 = .ok (.invokevirtual 83, 3) := by decide +kernel
theorem dd_239_30 : decode prog_14_method_13_code 30 = .ok (.ifCond .eq 18, 3) := by decide +kernel
theorem dd_239_33 : decode prog_14_method_13_code 33 = .ok (.aload_n 0, 1) := by decide +kernel
theorem dd_239_34 : decode prog_14_method_13_code 34 = .ok (.getfield 15, 3) := by decide +kernel
theorem dd_239_37 : decode prog_14_method_13_code 37 = .ok (.aload_n 0, 1) := by decide +kernel
theorem dd_239_38 : decode prog_14_method_13_code 38 = .ok (.getfield 79, 3) := by decide +kernel
theorem dd_239_41 : decode prog_14_method_13_code 41 = .ok (.iload_n 1, 1) := by decide +kernel
theorem dd_239_45 : decode prog_14_method_13_code 45 = .ok (.goto 31, 3) := by decide +kernel
theorem dd_239_48 : decode prog_14_method_13_code 48 = .ok (.aload_n 0, 1) := by decide +kernel
theorem dd_239_49 : decode prog_14_method_13_code 49 = .ok (.getfield 15, 3) := by decide +kernel
theorem dd_239_52 : decode prog_14_method_13_code 52 = .ok (.aload_n 0, 1) := by decide +kernel
theorem dd_239_53 : decode prog_14_method_13_code 53 = .ok (.getfield 79, 3) := by decide +kernel
theorem dd_239_56 : decode prog_14_method_13_code 56 = .ok (.iload_n 1, 1) := by decide +kernel
theorem dd_239_60 : decode prog_14_method_13_code 60 = .ok (.goto 16, 3) := by decide +kernel
theorem dd_239_63 : decode prog_14_method_13_code 63 = .ok (.aload_n 0, 1) := by decide +kernel
theorem dd_239_64 : decode prog_14_method_13_code 64 = .ok (.getfield 79, 3) := by decide +kernel
theorem dd_239_67 : decode prog_14_method_13_code 67 = .ok (.iload_n 1, 1) := by decide +kernel
theorem dd_239_68 : decode prog_14_method_13_code 68 = .ok (.if_icmp .le 8, 3) := by decide +kernel
theorem dd_239_71 : decode prog_14_method_13_code 71 = .ok (.aload_n 0, 1) := by decide +kernel
theorem dd_239_72 : decode prog_14_method_13_code 72 = .ok (.iconst 1, 1) := by decide +kernel
theorem dd_239_73 : decode prog_14_method_13_code 73 = .ok (.putfield 73, 3) := by decide +kernel
theorem dd_239_76 : decode prog_14_method_13_code 76 = .ok (.aload_n 0, 1) := by decide +kernel
theorem dd_239_77 : decode prog_14_method_13_code 77 = .ok (.iload_n 1, 1) := by decide +kernel
theorem dd_239_78 : decode prog_14_method_13_code 78 = .ok (.putfield 79, 3) := by decide +kernel
theorem dd_239_81 : decode prog_14_method_13_code 81 = .ok (.return_, 1) := by decide +kernel
set_option maxRecDepth 100000 in
theorem okI_239 : mj_okI gG "java/lang/AbstractStringBuilder" prog_14_method_13_code 2 (mj_off oM_239) (Option.none : Option Jvm.ClassFile.FieldType) false true 0 cM_239 :=
  ⟨Or.inl ⟨1, rfl, dd_239_0, rfl⟩,
   ⟨12, dd_239_1, rfl, rfl⟩,
   trivial,
   ⟨dd_239_7, rfl⟩,
   Or.inl ⟨1, rfl, dd_239_8, rfl⟩,
   trivial,
   trivial,
   Or.inl ⟨0, rfl, dd_239_13, rfl⟩,
   Or.inl ⟨1, rfl, dd_239_14, rfl⟩,
   ⟨rfl, tw_1135, by decide, tw_1073, by decide +kernel, 100, tw_1136, dd_239_15, tw_1137, ⟨"java/lang/StringBuilder", fT9, 4, rfl, tw_1138⟩, by decide +kernel⟩,
   Or.inl ⟨0, rfl, dd_239_18, rfl⟩,
   ⟨79, "java/lang/StringBuilder", fT9, 4, dd_239_19, rfl, okc_9, by decide, tw_1086⟩,
   Or.inl ⟨1, rfl, dd_239_22, rfl⟩,
   ⟨40, dd_239_23, rfl, rfl⟩,
   Or.inl ⟨0, rfl, dd_239_26, rfl⟩,
   ⟨rfl, tw_1139, by decide, tw_1073, by decide +kernel, 83, tw_1140, dd_239_27, tw_1141, ⟨"java/lang/StringBuilder", fT9, 4, rfl, tw_1142⟩, by decide +kernel⟩,
   ⟨18, dd_239_30, rfl, rfl⟩,
   Or.inl ⟨0, rfl, dd_239_33, rfl⟩,
   ⟨15, "java/lang/StringBuilder", fT9, 4, dd_239_34, rfl, okc_9, by decide, tw_1079⟩,
   Or.inl ⟨0, rfl, dd_239_37, rfl⟩,
   ⟨79, "java/lang/StringBuilder", fT9, 4, dd_239_38, rfl, okc_9, by decide, tw_1086⟩,
   Or.inl ⟨1, rfl, dd_239_41, rfl⟩,
   trivial,
   ⟨31, dd_239_45, rfl⟩,
   Or.inl ⟨0, rfl, dd_239_48, rfl⟩,
   ⟨15, "java/lang/StringBuilder", fT9, 4, dd_239_49, rfl, okc_9, by decide, tw_1079⟩,
   Or.inl ⟨0, rfl, dd_239_52, rfl⟩,
   ⟨79, "java/lang/StringBuilder", fT9, 4, dd_239_53, rfl, okc_9, by decide, tw_1086⟩,
   Or.inl ⟨1, rfl, dd_239_56, rfl⟩,
   trivial,
   ⟨16, dd_239_60, rfl⟩,
   Or.inl ⟨0, rfl, dd_239_63, rfl⟩,
   ⟨79, "java/lang/StringBuilder", fT9, 4, dd_239_64, rfl, okc_9, by decide, tw_1086⟩,
   Or.inl ⟨1, rfl, dd_239_67, rfl⟩,
   ⟨8, dd_239_68, rfl, rfl⟩,
   Or.inl ⟨0, rfl, dd_239_71, rfl⟩,
   Or.inl (Or.inl ⟨dd_239_72, rfl⟩),
   ⟨73, "java/lang/StringBuilder", fT9, 4, dd_239_73, rfl, okc_9, by decide, tw_1143, Or.inl rfl, Or.inl rfl⟩,
   Or.inl ⟨0, rfl, dd_239_76, rfl⟩,
   Or.inl ⟨1, rfl, dd_239_77, rfl⟩,
   ⟨79, "java/lang/StringBuilder", fT9, 4, dd_239_78, rfl, okc_9, by decide, tw_1086, rfl, Or.inl rfl⟩,
   ⟨dd_239_81, rfl⟩, trivial⟩
theorem okM_239 : mj_okE gG 239 (cM_239, 2, oM_239, hM_239) := ⟨rfl, rfl, by decide +kernel, trivial, okI_239⟩
theorem dd_240_0 : decode prog_14_method_9_code 0 = .ok (.aload_n 0, 1) := by decide +kernel
theorem dd_240_1 : decode prog_14_method_9_code 1 = .ok (.getfield 15, 3) := by decide +kernel
theorem dd_240_4 : decode prog_14_method_9_code 4 = .ok (.arraylength, 1) := by decide +kernel
theorem dd_240_5 : decode prog_14_method_9_code 5 = .ok (.aload_n 0, 1) := by decide +kernel
theorem dd_240_6 : decode prog_14_method_9_code 6 = .ok (.getfield 22, 3) := by decide +kernel
theorem dd_240_9 : decode prog_14_method_9_code 9 = .ok (.ishr, 1) := by decide +kernel
theorem dd_240_10 : decode prog_14_method_9_code 10 = .ok (.istore_n 2, 1) := by decide +kernel
theorem dd_240_11 : decode prog_14_method_9_code 11 = .ok (.iload_n 1, 1) := by decide +kernel
theorem dd_240_12 : decode prog_14_method_9_code 12 = .ok (.iload_n 2, 1) := by decide +kernel
theorem dd_240_13 : decode prog_14_method_9_code 13 = .ok (.isub, 1) := by decide +kernel
theorem dd_240_14 : decode prog_14_method_9_code 14 = .ok (.ifCond .le 24, 3) := by decide +kernel
theorem dd_240_17 : decode prog_14_method_9_code 17 = .ok (.aload_n 0, 1) := by decide +kernel
theorem dd_240_18 : decode prog_14_method_9_code 18 = .ok (.aload_n 0, 1) := by decide +kernel
theorem dd_240_19 : decode prog_14_method_9_code 19 = .ok (.getfield 15, 3) := by decide +kernel
theorem dd_240_22 : decode prog_14_method_9_code 22 = .ok (.aload_n 0, 1) := by decide +kernel
theorem dd_240_23 : decode prog_14_method_9_code 23 = .ok (.iload_n 1, 1) := by decide +kernel
theorem dd_240_24 : decode prog_14_method_9_code 24 = .ok (.invokevirtual 104, 3) := by decide +kernel
theorem dd_240_27 : decode prog_14_method_9_code 27 = .ok (.aload_n 0, 1) := by decide +kernel
theorem dd_240_28 : decode prog_14_method_9_code 28 = .ok (.getfield 22, 3) := by decide +kernel
theorem dd_240_31 : decode prog_14_method_9_code 31 = .ok (.ishl, 1) := by decide +kernel
theorem dd_240_32 : decode prog_14_method_9_code 32 = .ok (.invokestatic 108, 3) := by decide +kernel
theorem dd_240_35 : decode prog_14_method_9_code 35 = .ok (.putfield 15, 3) := by decide +kernel
theorem dd_240_38 : decode prog_14_method_9_code 38 = .ok (.return_, 1) := by decide +kernel
set_option maxRecDepth 100000 in
theorem okI_240 : mj_okI gG "java/lang/AbstractStringBuilder" prog_14_method_9_code 3 (mj_off oM_240) (Option.none : Option Jvm.ClassFile.FieldType) false true 0 cM_240 :=
  ⟨Or.inl ⟨0, rfl, dd_240_0, rfl⟩,
   ⟨15, "java/lang/StringBuilder", fT9, 4, dd_240_1, rfl, okc_9, by decide, tw_1079⟩,
   ⟨dd_240_4, rfl⟩,
   Or.inl ⟨0, rfl, dd_240_5, rfl⟩,
   ⟨22, "java/lang/StringBuilder", fT9, 4, dd_240_6, rfl, okc_9, by decide, tw_1080⟩,
   ⟨dd_240_9, rfl⟩,
   ⟨by decide, Or.inl ⟨2, rfl, dd_240_10, rfl⟩⟩,
   Or.inl ⟨1, rfl, dd_240_11, rfl⟩,
   Or.inl ⟨2, rfl, dd_240_12, rfl⟩,
   ⟨dd_240_13, rfl⟩,
   ⟨24, dd_240_14, rfl, rfl⟩,
   Or.inl ⟨0, rfl, dd_240_17, rfl⟩,
   Or.inl ⟨0, rfl, dd_240_18, rfl⟩,
   ⟨15, "java/lang/StringBuilder", fT9, 4, dd_240_19, rfl, okc_9, by decide, tw_1079⟩,
   Or.inl ⟨0, rfl, dd_240_22, rfl⟩,
   Or.inl ⟨1, rfl, dd_240_23, rfl⟩,
   ⟨rfl, tw_1144, by decide, tw_1073, by decide +kernel, 104, tw_1145, dd_240_24, tw_1146, ⟨"java/lang/StringBuilder", fT9, 4, rfl, tw_1147⟩, by decide +kernel⟩,
   Or.inl ⟨0, rfl, dd_240_27, rfl⟩,
   ⟨22, "java/lang/StringBuilder", fT9, 4, dd_240_28, rfl, okc_9, by decide, tw_1080⟩,
   ⟨dd_240_31, rfl⟩,
   ⟨rfl, tw_1148, by decide, tw_1149, by decide +kernel, 108, tw_1150, dd_240_32, tw_1151, by decide +kernel⟩,
   ⟨15, "java/lang/StringBuilder", fT9, 4, dd_240_35, rfl, okc_9, by decide, tw_1079, Or.inr ⟨_, rfl⟩, Or.inl rfl⟩,
   ⟨dd_240_38, rfl⟩, trivial⟩
theorem okM_240 : mj_okE gG 240 (cM_240, 3, oM_240, hM_240) := ⟨rfl, rfl, by decide +kernel, trivial, okI_240⟩
theorem dd_241_0 : decode prog_14_method_10_code 0 = .ok (.aload_n 0, 1) := by decide +kernel
theorem dd_241_1 : decode prog_14_method_10_code 1 = .ok (.getfield 15, 3) := by decide +kernel
theorem dd_241_4 : decode prog_14_method_10_code 4 = .ok (.arraylength, 1) := by decide +kernel
theorem dd_241_5 : decode prog_14_method_10_code 5 = .ok (.istore_n 2, 1) := by decide +kernel
theorem dd_241_6 : decode prog_14_method_10_code 6 = .ok (.iload_n 1, 1) := by decide +kernel
theorem dd_241_7 : decode prog_14_method_10_code 7 = .ok (.aload_n 0, 1) := by decide +kernel
theorem dd_241_8 : decode prog_14_method_10_code 8 = .ok (.getfield 22, 3) := by decide +kernel
theorem dd_241_11 : decode prog_14_method_10_code 11 = .ok (.ishl, 1) := by decide +kernel
theorem dd_241_12 : decode prog_14_method_10_code 12 = .ok (.istore_n 3, 1) := by decide +kernel
theorem dd_241_13 : decode prog_14_method_10_code 13 = .ok (.iload_n 3, 1) := by decide +kernel
theorem dd_241_14 : decode prog_14_method_10_code 14 = .ok (.iload_n 2, 1) := by decide +kernel
theorem dd_241_15 : decode prog_14_method_10_code 15 = .ok (.isub, 1) := by decide +kernel
theorem dd_241_16 : decode prog_14_method_10_code 16 = .ok (.istore 4, 2) := by decide +kernel
theorem dd_241_18 : decode prog_14_method_10_code 18 = .ok (.iload_n 2, 1) := by decide +kernel
theorem dd_241_19 : decode prog_14_method_10_code 19 = .ok (.iload 4, 2) := by decide +kernel
theorem dd_241_21 : decode prog_14_method_10_code 21 = .ok (.iload_n 2, 1) := by decide +kernel
theorem dd_241_22 : decode prog_14_method_10_code 22 = .ok (.iconst 2, 1) := by decide +kernel
theorem dd_241_23 : decode prog_14_method_10_code 23 = .ok (.aload_n 0, 1) := by decide +kernel
theorem dd_241_24 : decode prog_14_method_10_code 24 = .ok (.getfield 22, 3) := by decide +kernel
theorem dd_241_27 : decode prog_14_method_10_code 27 = .ok (.ishl, 1) := by decide +kernel
theorem dd_241_28 : decode prog_14_method_10_code 28 = .ok (.iadd, 1) := by decide +kernel
theorem dd_241_29 : decode prog_14_method_10_code 29 = .ok (.invokestatic 114, 3) := by decide +kernel
theorem dd_241_32 : decode prog_14_method_10_code 32 = .ok (.istore 5, 2) := by decide +kernel
theorem dd_241_34 : decode prog_14_method_10_code 34 = .ok (.iload 5, 2) := by decide +kernel
theorem dd_241_36 : decode prog_14_method_10_code 36 = .ok (.ldc 39, 2) := by decide +kernel
theorem dd_241_38 : decode prog_14_method_10_code 38 = .ok (.if_icmp .ne 13, 3) := by decide +kernel
theorem dd_241_51 : decode prog_14_method_10_code 51 = .ok (.iload 5, 2) := by decide +kernel
theorem dd_241_53 : decode prog_14_method_10_code 53 = .ok (.aload_n 0, 1) := by decide +kernel
theorem dd_241_54 : decode prog_14_method_10_code 54 = .ok (.getfield 22, 3) := by decide +kernel
theorem dd_241_57 : decode prog_14_method_10_code 57 = .ok (.ishr, 1) := by decide +kernel
theorem dd_241_58 : decode prog_14_method_10_code 58 = .ok (.ireturn, 1) := by decide +kernel
set_option maxRecDepth 100000 in
theorem okI_241 : mj_okI gG "java/lang/AbstractStringBuilder" prog_14_method_10_code 6 (mj_off oM_241) (Option.some Jvm.ClassFile.FieldType.int) false true 0 cM_241 :=
  ⟨Or.inl ⟨0, rfl, dd_241_0, rfl⟩,
   ⟨15, "java/lang/StringBuilder", fT9, 4, dd_241_1, rfl, okc_9, by decide, tw_1079⟩,
   ⟨dd_241_4, rfl⟩,
   ⟨by decide, Or.inl ⟨2, rfl, dd_241_5, rfl⟩⟩,
   Or.inl ⟨1, rfl, dd_241_6, rfl⟩,
   Or.inl ⟨0, rfl, dd_241_7, rfl⟩,
   ⟨22, "java/lang/StringBuilder", fT9, 4, dd_241_8, rfl, okc_9, by decide, tw_1080⟩,
   ⟨dd_241_11, rfl⟩,
   ⟨by decide, Or.inl ⟨3, rfl, dd_241_12, rfl⟩⟩,
   Or.inl ⟨3, rfl, dd_241_13, rfl⟩,
   Or.inl ⟨2, rfl, dd_241_14, rfl⟩,
   ⟨dd_241_15, rfl⟩,
   ⟨by decide, Or.inr ⟨dd_241_16, rfl⟩⟩,
   Or.inl ⟨2, rfl, dd_241_18, rfl⟩,
   Or.inr ⟨dd_241_19, rfl⟩,
   Or.inl ⟨2, rfl, dd_241_21, rfl⟩,
   Or.inl (Or.inl ⟨dd_241_22, rfl⟩),
   Or.inl ⟨0, rfl, dd_241_23, rfl⟩,
   ⟨22, "java/lang/StringBuilder", fT9, 4, dd_241_24, rfl, okc_9, by decide, tw_1080⟩,
   ⟨dd_241_27, rfl⟩,
   ⟨dd_241_28, rfl⟩,
   ⟨rfl, tw_1152, by decide, tw_1153, by decide +kernel, 114, tw_1154, dd_241_29, tw_1155, by decide +kernel⟩,
   ⟨by decide, Or.inr ⟨dd_241_32, rfl⟩⟩,
   Or.inr ⟨dd_241_34, rfl⟩,
   Or.inl (Or.inr (Or.inr (Or.inr ⟨39, dd_241_36, rfl, tw_1156⟩))),
   ⟨13, dd_241_38, rfl, rfl⟩,
   trivial,
   Or.inr ⟨dd_241_51, rfl⟩,
   Or.inl ⟨0, rfl, dd_241_53, rfl⟩,
   ⟨22, "java/lang/StringBuilder", fT9, 4, dd_241_54, rfl, okc_9, by decide, tw_1080⟩,
   ⟨dd_241_57, rfl⟩,
   ⟨dd_241_58, rfl⟩, trivial⟩
theorem okM_241 : mj_okE gG 241 (cM_241, 6, oM_241, hM_241) := ⟨rfl, rfl, by decide +kernel, trivial, okI_241⟩
theorem dd_242_0 : decode prog_30_method_27_code 0 = .ok (.iload_n 0, 1) := by decide +kernel
theorem dd_242_1 : decode prog_30_method_27_code 1 = .ok (.iload_n 1, 1) := by decide +kernel
theorem dd_242_2 : decode prog_30_method_27_code 2 = .ok (.iload_n 2, 1) := by decide +kernel
theorem dd_242_3 : decode prog_30_method_27_code 3 = .ok (.invokestatic 194, 3) := by decide +kernel
theorem dd_242_6 : decode prog_30_method_27_code 6 = .ok (.iadd, 1) := by decide +kernel
theorem dd_242_7 : decode prog_30_method_27_code 7 = .ok (.istore_n 3, 1) := by decide +kernel
theorem dd_242_8 : decode prog_30_method_27_code 8 = .ok (.iconst 0, 1) := by decide +kernel
theorem dd_242_9 : decode prog_30_method_27_code 9 = .ok (.iload_n 3, 1) := by decide +kernel
theorem dd_242_10 : decode prog_30_method_27_code 10 = .ok (.if_icmp .ge 11, 3) := by decide +kernel
theorem dd_242_13 : decode prog_30_method_27_code 13 = .ok (.iload_n 3, 1) := by decide +kernel
theorem dd_242_14 : decode prog_30_method_27_code 14 = .ok (.ldc 200, 2) := by decide +kernel
theorem dd_242_16 : decode prog_30_method_27_code 16 = .ok (.if_icmp .gt 5, 3) := by decide +kernel
theorem dd_242_19 : decode prog_30_method_27_code 19 = .ok (.iload_n 3, 1) := by decide +kernel
theorem dd_242_20 : decode prog_30_method_27_code 20 = .ok (.ireturn, 1) := by decide +kernel
theorem dd_242_21 : decode prog_30_method_27_code 21 = .ok (.iload_n 0, 1) := by decide +kernel
theorem dd_242_22 : decode prog_30_method_27_code 22 = .ok (.iload_n 1, 1) := by decide +kernel
theorem dd_242_26 : decode prog_30_method_27_code 26 = .ok (.ireturn, 1) := by decide +kernel
set_option maxRecDepth 100000 in
theorem okI_242 : mj_okI gG "jdk/internal/util/ArraysSupport" prog_30_method_27_code 4 (mj_off oM_242) (Option.some Jvm.ClassFile.FieldType.int) false true 0 cM_242 :=
  ⟨Or.inl ⟨0, rfl, dd_242_0, rfl⟩,
   Or.inl ⟨1, rfl, dd_242_1, rfl⟩,
   Or.inl ⟨2, rfl, dd_242_2, rfl⟩,
   ⟨194, dd_242_3, rfl, tw_103, tw_1157, tw_108, tw_109⟩,
   ⟨dd_242_6, rfl⟩,
   ⟨by decide, Or.inl ⟨3, rfl, dd_242_7, rfl⟩⟩,
   Or.inl (Or.inl ⟨dd_242_8, rfl⟩),
   Or.inl ⟨3, rfl, dd_242_9, rfl⟩,
   ⟨11, dd_242_10, rfl, rfl⟩,
   Or.inl ⟨3, rfl, dd_242_13, rfl⟩,
   Or.inl (Or.inr (Or.inr (Or.inr ⟨200, dd_242_14, rfl, tw_1158⟩))),
   ⟨5, dd_242_16, rfl, rfl⟩,
   Or.inl ⟨3, rfl, dd_242_19, rfl⟩,
   ⟨dd_242_20, rfl⟩,
   Or.inl ⟨0, rfl, dd_242_21, rfl⟩,
   Or.inl ⟨1, rfl, dd_242_22, rfl⟩,
   trivial,
   ⟨dd_242_26, rfl⟩, trivial⟩
theorem okM_242 : mj_okE gG 242 (cM_242, 4, oM_242, hM_242) := ⟨rfl, rfl, by decide +kernel, trivial, okI_242⟩
theorem dd_243_0 : decode prog_29_method_121_code 0 = .ok (.iload_n 1, 1) := by decide +kernel
theorem dd_243_1 : decode prog_29_method_121_code 1 = .ok (.aload_n 0, 1) := by decide +kernel
theorem dd_243_2 : decode prog_29_method_121_code 2 = .ok (.arraylength, 1) := by decide +kernel
theorem dd_243_3 : decode prog_29_method_121_code 3 = .ok (.if_icmp .ne 11, 3) := by decide +kernel
theorem dd_243_6 : decode prog_29_method_121_code 6 = .ok (.aload_n 0, 1) := by decide +kernel
theorem dd_243_13 : decode prog_29_method_121_code 13 = .ok (.areturn, 1) := by decide +kernel
theorem dd_243_14 : decode prog_29_method_121_code 14 = .ok (.iload_n 1, 1) := by decide +kernel
theorem dd_243_15 : decode prog_29_method_121_code 15 = .ok (.newarray .byte, 2) := by decide +kernel
theorem dd_243_17 : decode prog_29_method_121_code 17 = .ok (.astore_n 2, 1) := by decide +kernel
theorem dd_243_18 : decode prog_29_method_121_code 18 = .ok (.aload_n 0, 1) := by decide +kernel
theorem dd_243_19 : decode prog_29_method_121_code 19 = .ok (.iconst 0, 1) := by decide +kernel
theorem dd_243_20 : decode prog_29_method_121_code 20 = .ok (.aload_n 2, 1) := by decide +kernel
theorem dd_243_21 : decode prog_29_method_121_code 21 = .ok (.iconst 0, 1) := by decide +kernel
theorem dd_243_22 : decode prog_29_method_121_code 22 = .ok (.aload_n 0, 1) := by decide +kernel
theorem dd_243_23 : decode prog_29_method_121_code 23 = .ok (.arraylength, 1) := by decide +kernel
theorem dd_243_24 : decode prog_29_method_121_code 24 = .ok (.iload_n 1, 1) := by decide +kernel
theorem dd_243_25 : decode prog_29_method_121_code 25 = .ok (.invokestatic 304, 3) := by decide +kernel
theorem dd_243_28 : decode prog_29_method_121_code 28 = .ok (.invokestatic 150, 3) := by decide +kernel
theorem dd_243_31 : decode prog_29_method_121_code 31 = .ok (.aload_n 2, 1) := by decide +kernel
theorem dd_243_32 : decode prog_29_method_121_code 32 = .ok (.areturn, 1) := by decide +kernel
set_option maxRecDepth 100000 in
theorem okI_243 : mj_okI gG "java/util/Arrays" prog_29_method_121_code 3 (mj_off oM_243) (Option.some (Jvm.ClassFile.FieldType.array Jvm.ClassFile.FieldType.byte)) false true 0 cM_243 :=
  ⟨Or.inl ⟨1, rfl, dd_243_0, rfl⟩,
   Or.inl ⟨0, rfl, dd_243_1, rfl⟩,
   ⟨dd_243_2, rfl⟩,
   ⟨11, dd_243_3, rfl, rfl⟩,
   Or.inl ⟨0, rfl, dd_243_6, rfl⟩,
   trivial,
   trivial,
   ⟨dd_243_13, _, rfl, rfl⟩,
   Or.inl ⟨1, rfl, dd_243_14, rfl⟩,
   ⟨dd_243_15, rfl, tw_1078⟩,
   ⟨by decide, Or.inl ⟨2, rfl, dd_243_17, rfl⟩⟩,
   Or.inl ⟨0, rfl, dd_243_18, rfl⟩,
   Or.inl (Or.inl ⟨dd_243_19, rfl⟩),
   Or.inl ⟨2, rfl, dd_243_20, rfl⟩,
   Or.inl (Or.inl ⟨dd_243_21, rfl⟩),
   Or.inl ⟨0, rfl, dd_243_22, rfl⟩,
   ⟨dd_243_23, rfl⟩,
   Or.inl ⟨1, rfl, dd_243_24, rfl⟩,
   ⟨304, dd_243_25, rfl, tw_103, tw_1159, tw_105, tw_106⟩,
   ⟨150, dd_243_28, rfl, tw_1160, tw_1161, tw_1162, tw_1163⟩,
   Or.inl ⟨2, rfl, dd_243_31, rfl⟩,
   ⟨dd_243_32, _, rfl, rfl⟩, trivial⟩
theorem okM_243 : mj_okE gG 243 (cM_243, 3, oM_243, hM_243) := ⟨rfl, rfl, by decide +kernel, trivial, okI_243⟩
theorem dd_244_0 : decode prog_14_method_68_code 0 = .ok (.getstatic 18, 3) := by decide +kernel
theorem dd_244_3 : decode prog_14_method_68_code 3 = .ok (.ifCond .eq 14, 3) := by decide +kernel
theorem dd_244_6 : decode prog_14_method_68_code 6 = .ok (.aload_n 0, 1) := by decide +kernel
theorem dd_244_7 : decode prog_14_method_68_code 7 = .ok (.getfield 22, 3) := by decide +kernel
theorem dd_244_10 : decode prog_14_method_68_code 10 = .ok (.ifCond .ne 7, 3) := by decide +kernel
theorem dd_244_13 : decode prog_14_method_68_code 13 = .ok (.iconst 1, 1) := by decide +kernel
theorem dd_244_14 : decode prog_14_method_68_code 14 = .ok (.goto 4, 3) := by decide +kernel
theorem dd_244_17 : decode prog_14_method_68_code 17 = .ok (.iconst 0, 1) := by decide +kernel
theorem dd_244_18 : decode prog_14_method_68_code 18 = .ok (.ireturn, 1) := by decide +kernel
set_option maxRecDepth 100000 in
theorem okI_244 : mj_okI gG "java/lang/AbstractStringBuilder" prog_14_method_68_code 1 (mj_off oM_244) (Option.some Jvm.ClassFile.FieldType.boolean) false true 0 cM_244 :=
  ⟨Or.inr ⟨18, "java/lang/String", "COMPACT_STRINGS", "Z", dd_244_0, rfl, by decide +kernel, tw_1077⟩,
   ⟨14, dd_244_3, rfl, rfl⟩,
   Or.inl ⟨0, rfl, dd_244_6, rfl⟩,
   ⟨22, "java/lang/StringBuilder", fT9, 4, dd_244_7, rfl, okc_9, by decide, tw_1080⟩,
   ⟨7, dd_244_10, rfl, rfl⟩,
   Or.inl (Or.inl ⟨dd_244_13, rfl⟩),
   ⟨4, dd_244_14, rfl⟩,
   Or.inl (Or.inl ⟨dd_244_17, rfl⟩),
   ⟨dd_244_18, rfl⟩, trivial⟩
theorem okM_244 : mj_okE gG 244 (cM_244, 1, oM_244, hM_244) := ⟨rfl, rfl, by decide +kernel, trivial, okI_244⟩
end
