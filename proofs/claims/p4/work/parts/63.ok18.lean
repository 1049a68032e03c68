section
theorem dd_220_0 : decode prog_13_method_67_code 0 = .ok (.aload_n 0, 1) := by decide +kernel
theorem dd_220_1 : decode prog_13_method_67_code 1 = .ok (.iconst 0, 1) := by decide +kernel
theorem dd_220_2 : decode prog_13_method_67_code 2 = .ok (.putfield 97, 3) := by decide +kernel
theorem dd_220_5 : decode prog_13_method_67_code 5 = .ok (.aload_n 0, 1) := by decide +kernel
theorem dd_220_6 : decode prog_13_method_67_code 6 = .ok (.getfield 240, 3) := by decide +kernel
theorem dd_220_9 : decode prog_13_method_67_code 9 = .ok (.iconst 2, 1) := by decide +kernel
theorem dd_220_10 : decode prog_13_method_67_code 10 = .ok (.if_icmp .ne 24, 3) := by decide +kernel
theorem dd_220_13 : decode prog_13_method_67_code 13 = .ok (.iload_n 1, 1) := by decide +kernel
theorem dd_220_14 : decode prog_13_method_67_code 14 = .ok (.ifCond .lt 20, 3) := by decide +kernel
theorem dd_220_17 : decode prog_13_method_67_code 17 = .ok (.iload_n 1, 1) := by decide +kernel
theorem dd_220_18 : decode prog_13_method_67_code 18 = .ok (.aload_n 0, 1) := by decide +kernel
theorem dd_220_19 : decode prog_13_method_67_code 19 = .ok (.getfield 316, 3) := by decide +kernel
theorem dd_220_22 : decode prog_13_method_67_code 22 = .ok (.if_icmp .ge 12, 3) := by decide +kernel
theorem dd_220_25 : decode prog_13_method_67_code 25 = .ok (.aload_n 0, 1) := by decide +kernel
theorem dd_220_26 : decode prog_13_method_67_code 26 = .ok (.getfield 91, 3) := by decide +kernel
theorem dd_220_29 : decode prog_13_method_67_code 29 = .ok (.iload_n 1, 1) := by decide +kernel
theorem dd_220_30 : decode prog_13_method_67_code 30 = .ok (.caload, 1) := by decide +kernel
theorem dd_220_31 : decode prog_13_method_67_code 31 = .ok (.goto 4, 3) := by decide +kernel
theorem dd_220_34 : decode prog_13_method_67_code 34 = .ok (.iconst (-1), 1) := by decide +kernel
theorem dd_220_35 : decode prog_13_method_67_code 35 = .ok (.ireturn, 1) := by decide +kernel
set_option maxRecDepth 100000 in
theorem okI_220 : mj_okI gG "PairMachineModel" prog_13_method_67_code 2 (mj_off oM_220) (Option.some Jvm.ClassFile.FieldType.int) false true 0 cM_220 :=
  ⟨Or.inl ⟨0, rfl, dd_220_0, rfl⟩,
   Or.inl (Or.inl ⟨dd_220_1, rfl⟩),
   ⟨97, "PairMachineModel", fT10, 45, dd_220_2, rfl, okc_10, by decide, tw_829, rfl, Or.inl rfl⟩,
   Or.inl ⟨0, rfl, dd_220_5, rfl⟩,
   ⟨240, "PairMachineModel", fT10, 45, dd_220_6, rfl, okc_10, by decide, tw_968⟩,
   Or.inl (Or.inl ⟨dd_220_9, rfl⟩),
   ⟨24, dd_220_10, rfl, rfl⟩,
   Or.inl ⟨1, rfl, dd_220_13, rfl⟩,
   ⟨20, dd_220_14, rfl, rfl⟩,
   Or.inl ⟨1, rfl, dd_220_17, rfl⟩,
   Or.inl ⟨0, rfl, dd_220_18, rfl⟩,
   ⟨316, "PairMachineModel", fT10, 45, dd_220_19, rfl, okc_10, by decide, tw_1049⟩,
   ⟨12, dd_220_22, rfl, rfl⟩,
   Or.inl ⟨0, rfl, dd_220_25, rfl⟩,
   ⟨91, "PairMachineModel", fT10, 45, dd_220_26, rfl, okc_10, by decide, tw_827⟩,
   Or.inl ⟨1, rfl, dd_220_29, rfl⟩,
   ⟨dd_220_30, rfl⟩,
   ⟨4, dd_220_31, rfl⟩,
   Or.inl (Or.inl ⟨dd_220_34, rfl⟩),
   ⟨dd_220_35, rfl⟩, trivial⟩
theorem okM_220 : mj_okE gG 220 (cM_220, 2, oM_220, hM_220) := ⟨rfl, rfl, by decide +kernel, trivial, okI_220⟩
theorem dd_221_0 : decode prog_24_method_1_code 0 = .ok (.aload_n 0, 1) := by decide +kernel
theorem dd_221_1 : decode prog_24_method_1_code 1 = .ok (.bipush 16, 2) := by decide +kernel
theorem dd_221_3 : decode prog_24_method_1_code 3 = .ok (.invokespecial 1, 3) := by decide +kernel
theorem dd_221_6 : decode prog_24_method_1_code 6 = .ok (.return_, 1) := by decide +kernel
set_option maxRecDepth 100000 in
theorem okI_221 : mj_okI gG "java/lang/StringBuilder" prog_24_method_1_code 1 (mj_off oM_221) (Option.none : Option Jvm.ClassFile.FieldType) true true 0 cM_221 :=
  ⟨Or.inl ⟨0, rfl, dd_221_0, rfl⟩,
   Or.inl (Or.inr (Or.inl ⟨dd_221_1, rfl, by decide⟩)),
   ⟨rfl, tw_1068, by decide, tw_1069, by decide +kernel, 1, tw_1070, dd_221_3, tw_1071, rfl, rfl, rfl, by decide +kernel⟩,
   ⟨dd_221_6, rfl⟩, trivial⟩
theorem okM_221 : mj_okE gG 221 (cM_221, 1, oM_221, hM_221) := ⟨rfl, rfl, by decide +kernel, trivial, okI_221⟩
theorem dd_222_0 : decode prog_14_method_2_code 0 = .ok (.aload_n 0, 1) := by decide +kernel
theorem dd_222_1 : decode prog_14_method_2_code 1 = .ok (.invokespecial 3, 3) := by decide +kernel
theorem dd_222_4 : decode prog_14_method_2_code 4 = .ok (.getstatic 18, 3) := by decide +kernel
theorem dd_222_7 : decode prog_14_method_2_code 7 = .ok (.ifCond .eq 18, 3) := by decide +kernel
theorem dd_222_10 : decode prog_14_method_2_code 10 = .ok (.aload_n 0, 1) := by decide +kernel
theorem dd_222_11 : decode prog_14_method_2_code 11 = .ok (.iload_n 1, 1) := by decide +kernel
theorem dd_222_12 : decode prog_14_method_2_code 12 = .ok (.newarray .byte, 2) := by decide +kernel
theorem dd_222_14 : decode prog_14_method_2_code 14 = .ok (.putfield 15, 3) := by decide +kernel
theorem dd_222_17 : decode prog_14_method_2_code 17 = .ok (.aload_n 0, 1) := by decide +kernel
theorem dd_222_18 : decode prog_14_method_2_code 18 = .ok (.iconst 0, 1) := by decide +kernel
theorem dd_222_19 : decode prog_14_method_2_code 19 = .ok (.putfield 22, 3) := by decide +kernel
theorem dd_222_22 : decode prog_14_method_2_code 22 = .ok (.goto 16, 3) := by decide +kernel
theorem dd_222_25 : decode prog_14_method_2_code 25 = .ok (.aload_n 0, 1) := by decide +kernel
theorem dd_222_26 : decode prog_14_method_2_code 26 = .ok (.iload_n 1, 1) := by decide +kernel
theorem dd_222_30 : decode prog_14_method_2_code 30 = .ok (.putfield 15, 3) := by decide +kernel
theorem dd_222_33 : decode prog_14_method_2_code 33 = .ok (.aload_n 0, 1) := by decide +kernel
theorem dd_222_34 : decode prog_14_method_2_code 34 = .ok (.iconst 1, 1) := by decide +kernel
theorem dd_222_35 : decode prog_14_method_2_code 35 = .ok (.putfield 22, 3) := by decide +kernel
theorem dd_222_38 : decode prog_14_method_2_code 38 = .ok (.return_, 1) := by decide +kernel
set_option maxRecDepth 100000 in
theorem okI_222 : mj_okI gG "java/lang/AbstractStringBuilder" prog_14_method_2_code 2 (mj_off oM_222) (Option.none : Option Jvm.ClassFile.FieldType) true true 0 cM_222 :=
  ⟨Or.inl ⟨0, rfl, dd_222_0, rfl⟩,
   ⟨3, dd_222_1, rfl, tw_1072, tw_97, tw_98⟩,
   Or.inr ⟨18, "java/lang/String", "COMPACT_STRINGS", "Z", dd_222_4, rfl, by decide +kernel, tw_1073⟩,
   ⟨18, dd_222_7, rfl, rfl⟩,
   Or.inl ⟨0, rfl, dd_222_10, rfl⟩,
   Or.inl ⟨1, rfl, dd_222_11, rfl⟩,
   ⟨dd_222_12, rfl, tw_1074⟩,
   ⟨15, "java/lang/StringBuilder", fT9, 4, dd_222_14, rfl, okc_9, by decide, tw_1075, Or.inr ⟨_, rfl⟩, Or.inl rfl⟩,
   Or.inl ⟨0, rfl, dd_222_17, rfl⟩,
   Or.inl (Or.inl ⟨dd_222_18, rfl⟩),
   ⟨22, "java/lang/StringBuilder", fT9, 4, dd_222_19, rfl, okc_9, by decide, tw_1076, Or.inr rfl, Or.inl rfl⟩,
   ⟨16, dd_222_22, rfl⟩,
   Or.inl ⟨0, rfl, dd_222_25, rfl⟩,
   Or.inl ⟨1, rfl, dd_222_26, rfl⟩,
   trivial,
   ⟨15, "java/lang/StringBuilder", fT9, 4, dd_222_30, rfl, okc_9, by decide, tw_1075, Or.inr ⟨_, rfl⟩, Or.inl rfl⟩,
   Or.inl ⟨0, rfl, dd_222_33, rfl⟩,
   Or.inl (Or.inl ⟨dd_222_34, rfl⟩),
   ⟨22, "java/lang/StringBuilder", fT9, 4, dd_222_35, rfl, okc_9, by decide, tw_1076, Or.inr rfl, Or.inl rfl⟩,
   ⟨dd_222_38, rfl⟩, trivial⟩
theorem okM_222 : mj_okE gG 222 (cM_222, 2, oM_222, hM_222) := ⟨rfl, rfl, by decide +kernel, trivial, okI_222⟩
theorem dd_223_0 : decode prog_24_method_93_code 0 = .ok (.aload_n 0, 1) := by decide +kernel
theorem dd_223_1 : decode prog_24_method_93_code 1 = .ok (.invokespecial 343, 3) := by decide +kernel
theorem dd_223_4 : decode prog_24_method_93_code 4 = .ok (.ireturn, 1) := by decide +kernel
set_option maxRecDepth 100000 in
theorem okI_223 : mj_okI gG "java/lang/StringBuilder" prog_24_method_93_code 1 (mj_off oM_223) (Option.some Jvm.ClassFile.FieldType.int) false true 0 cM_223 :=
  ⟨Or.inl ⟨0, rfl, dd_223_0, rfl⟩,
   ⟨rfl, tw_1077, by decide, tw_1069, by decide +kernel, 343, tw_1078, dd_223_1, tw_1079, tw_1080, tw_1081, by decide, ⟨"java/lang/StringBuilder", fT9, 4, rfl, tw_737⟩, by decide +kernel⟩,
   ⟨dd_223_4, rfl⟩, trivial⟩
theorem okM_223 : mj_okE gG 223 (cM_223, 1, oM_223, hM_223) := ⟨rfl, rfl, by decide +kernel, trivial, okI_223⟩
theorem dd_224_0 : decode prog_14_method_6_code 0 = .ok (.aload_n 0, 1) := by decide +kernel
theorem dd_224_1 : decode prog_14_method_6_code 1 = .ok (.getfield 79, 3) := by decide +kernel
theorem dd_224_4 : decode prog_14_method_6_code 4 = .ok (.ireturn, 1) := by decide +kernel
set_option maxRecDepth 100000 in
theorem okI_224 : mj_okI gG "java/lang/AbstractStringBuilder" prog_14_method_6_code 1 (mj_off oM_224) (Option.some Jvm.ClassFile.FieldType.int) false true 0 cM_224 :=
  ⟨Or.inl ⟨0, rfl, dd_224_0, rfl⟩,
   ⟨79, "java/lang/StringBuilder", fT9, 4, dd_224_1, rfl, okc_9, by decide, tw_1082⟩,
   ⟨dd_224_4, rfl⟩, trivial⟩
theorem okM_224 : mj_okE gG 224 (cM_224, 1, oM_224, hM_224) := ⟨rfl, rfl, by decide +kernel, trivial, okI_224⟩
theorem dd_225_0 : decode prog_24_method_88_code 0 = .ok (.aload_n 0, 1) := by decide +kernel
theorem dd_225_1 : decode prog_24_method_88_code 1 = .ok (.iload_n 1, 1) := by decide +kernel
theorem dd_225_2 : decode prog_24_method_88_code 2 = .ok (.invokespecial 329, 3) := by decide +kernel
theorem dd_225_5 : decode prog_24_method_88_code 5 = .ok (.ireturn, 1) := by decide +kernel
set_option maxRecDepth 100000 in
theorem okI_225 : mj_okI gG "java/lang/StringBuilder" prog_24_method_88_code 2 (mj_off oM_225) (Option.some Jvm.ClassFile.FieldType.char) false true 0 cM_225 :=
  ⟨Or.inl ⟨0, rfl, dd_225_0, rfl⟩,
   Or.inl ⟨1, rfl, dd_225_1, rfl⟩,
   ⟨rfl, tw_1083, by decide, tw_1069, by decide +kernel, 329, tw_1084, dd_225_2, tw_1085, tw_1086, tw_1081, by decide, ⟨"java/lang/StringBuilder", fT9, 4, rfl, tw_737⟩, by decide +kernel⟩,
   ⟨dd_225_5, rfl⟩, trivial⟩
theorem okM_225 : mj_okE gG 225 (cM_225, 2, oM_225, hM_225) := ⟨rfl, rfl, by decide +kernel, trivial, okI_225⟩
theorem dd_226_0 : decode prog_14_method_14_code 0 = .ok (.aload_n 0, 1) := by decide +kernel
theorem dd_226_1 : decode prog_14_method_14_code 1 = .ok (.getfield 22, 3) := by decide +kernel
theorem dd_226_4 : decode prog_14_method_14_code 4 = .ok (.istore_n 2, 1) := by decide +kernel
theorem dd_226_5 : decode prog_14_method_14_code 5 = .ok (.aload_n 0, 1) := by decide +kernel
theorem dd_226_6 : decode prog_14_method_14_code 6 = .ok (.getfield 15, 3) := by decide +kernel
theorem dd_226_9 : decode prog_14_method_14_code 9 = .ok (.astore_n 3, 1) := by decide +kernel
theorem dd_226_10 : decode prog_14_method_14_code 10 = .ok (.aload_n 0, 1) := by decide +kernel
theorem dd_226_11 : decode prog_14_method_14_code 11 = .ok (.getfield 79, 3) := by decide +kernel
theorem dd_226_14 : decode prog_14_method_14_code 14 = .ok (.aload_n 3, 1) := by decide +kernel
theorem dd_226_15 : decode prog_14_method_14_code 15 = .ok (.arraylength, 1) := by decide +kernel
theorem dd_226_16 : decode prog_14_method_14_code 16 = .ok (.iload_n 2, 1) := by decide +kernel
theorem dd_226_17 : decode prog_14_method_14_code 17 = .ok (.ishr, 1) := by decide +kernel
theorem dd_226_18 : decode prog_14_method_14_code 18 = .ok (.invokestatic 138, 3) := by decide +kernel
theorem dd_226_21 : decode prog_14_method_14_code 21 = .ok (.istore 4, 2) := by decide +kernel
theorem dd_226_23 : decode prog_14_method_14_code 23 = .ok (.iload_n 1, 1) := by decide +kernel
theorem dd_226_24 : decode prog_14_method_14_code 24 = .ok (.iload 4, 2) := by decide +kernel
theorem dd_226_26 : decode prog_14_method_14_code 26 = .ok (.invokestatic 144, 3) := by decide +kernel
theorem dd_226_29 : decode prog_14_method_14_code 29 = .ok (.iload_n 2, 1) := by decide +kernel
theorem dd_226_30 : decode prog_14_method_14_code 30 = .ok (.ifCond .ne 12, 3) := by decide +kernel
theorem dd_226_33 : decode prog_14_method_14_code 33 = .ok (.aload_n 3, 1) := by decide +kernel
theorem dd_226_34 : decode prog_14_method_14_code 34 = .ok (.iload_n 1, 1) := by decide +kernel
theorem dd_226_35 : decode prog_14_method_14_code 35 = .ok (.baload, 1) := by decide +kernel
theorem dd_226_36 : decode prog_14_method_14_code 36 = .ok (.sipush 255, 3) := by decide +kernel
theorem dd_226_39 : decode prog_14_method_14_code 39 = .ok (.iand, 1) := by decide +kernel
theorem dd_226_40 : decode prog_14_method_14_code 40 = .ok (.i2c, 1) := by decide +kernel
theorem dd_226_41 : decode prog_14_method_14_code 41 = .ok (.ireturn, 1) := by decide +kernel
theorem dd_226_42 : decode prog_14_method_14_code 42 = .ok (.aload_n 3, 1) := by decide +kernel
theorem dd_226_43 : decode prog_14_method_14_code 43 = .ok (.iload_n 1, 1) := by decide +kernel
theorem dd_226_47 : decode prog_14_method_14_code 47 = .ok (.ireturn, 1) := by decide +kernel
set_option maxRecDepth 100000 in
theorem okI_226 : mj_okI gG "java/lang/AbstractStringBuilder" prog_14_method_14_code 5 (mj_off oM_226) (Option.some Jvm.ClassFile.FieldType.char) false true 0 cM_226 :=
  ⟨Or.inl ⟨0, rfl, dd_226_0, rfl⟩,
   ⟨22, "java/lang/StringBuilder", fT9, 4, dd_226_1, rfl, okc_9, by decide, tw_1076⟩,
   ⟨by decide, Or.inl ⟨2, rfl, dd_226_4, rfl⟩⟩,
   Or.inl ⟨0, rfl, dd_226_5, rfl⟩,
   ⟨15, "java/lang/StringBuilder", fT9, 4, dd_226_6, rfl, okc_9, by decide, tw_1075⟩,
   ⟨by decide, Or.inl ⟨3, rfl, dd_226_9, rfl⟩⟩,
   Or.inl ⟨0, rfl, dd_226_10, rfl⟩,
   ⟨79, "java/lang/StringBuilder", fT9, 4, dd_226_11, rfl, okc_9, by decide, tw_1082⟩,
   Or.inl ⟨3, rfl, dd_226_14, rfl⟩,
   ⟨dd_226_15, rfl⟩,
   Or.inl ⟨2, rfl, dd_226_16, rfl⟩,
   ⟨dd_226_17, rfl⟩,
   ⟨138, dd_226_18, rfl, tw_99, tw_1087, tw_101, tw_102⟩,
   ⟨by decide, Or.inr ⟨dd_226_21, rfl⟩⟩,
   Or.inl ⟨1, rfl, dd_226_23, rfl⟩,
   Or.inr ⟨dd_226_24, rfl⟩,
   ⟨rfl, tw_1088, by decide, tw_788, by decide +kernel, 144, tw_1089, dd_226_26, tw_1090, by decide +kernel⟩,
   Or.inl ⟨2, rfl, dd_226_29, rfl⟩,
   ⟨12, dd_226_30, rfl, rfl⟩,
   Or.inl ⟨3, rfl, dd_226_33, rfl⟩,
   Or.inl ⟨1, rfl, dd_226_34, rfl⟩,
   ⟨dd_226_35, rfl⟩,
   Or.inl (Or.inr (Or.inr (Or.inl ⟨dd_226_36, rfl, by decide⟩))),
   ⟨dd_226_39, rfl⟩,
   ⟨dd_226_40, rfl⟩,
   ⟨dd_226_41, rfl⟩,
   Or.inl ⟨3, rfl, dd_226_42, rfl⟩,
   Or.inl ⟨1, rfl, dd_226_43, rfl⟩,
   trivial,
   ⟨dd_226_47, rfl⟩, trivial⟩
theorem okM_226 : mj_okE gG 226 (cM_226, 5, oM_226, hM_226) := ⟨rfl, rfl, by decide +kernel, trivial, okI_226⟩
theorem dd_227_0 : decode prog_23_method_155_code 0 = .ok (.iload_n 0, 1) := by decide +kernel
theorem dd_227_1 : decode prog_23_method_155_code 1 = .ok (.iload_n 1, 1) := by decide +kernel
theorem dd_227_2 : decode prog_23_method_155_code 2 = .ok (.getstatic 1053, 3) := by decide +kernel
theorem dd_227_5 : decode prog_23_method_155_code 5 = .ok (.invokestatic 1059, 3) := by decide +kernel
theorem dd_227_8 : decode prog_23_method_155_code 8 = .ok (.pop, 1) := by decide +kernel
theorem dd_227_9 : decode prog_23_method_155_code 9 = .ok (.return_, 1) := by decide +kernel
set_option maxRecDepth 100000 in
theorem okI_227 : mj_okI gG "java/lang/String" prog_23_method_155_code 2 (mj_off oM_227) (Option.none : Option Jvm.ClassFile.FieldType) false true 0 cM_227 :=
  ⟨Or.inl ⟨0, rfl, dd_227_0, rfl⟩,
   Or.inl ⟨1, rfl, dd_227_1, rfl⟩,
   ⟨1053, "jdk/internal/util/Preconditions", "SIOOBE_FORMATTER", "Ljava/util/function/BiFunction;", dd_227_2, rfl, by decide +kernel, tw_1091⟩,
   ⟨rfl, tw_1092, by decide, tw_1093, by decide +kernel, 1059, tw_1094, dd_227_5, tw_1095, by decide +kernel⟩,
   ⟨dd_227_8, rfl⟩,
   ⟨dd_227_9, rfl⟩, trivial⟩
theorem okM_227 : mj_okE gG 227 (cM_227, 2, oM_227, hM_227) := ⟨rfl, rfl, by decide +kernel, trivial, okI_227⟩
theorem dd_228_0 : decode prog_31_method_11_code 0 = .ok (.iload_n 0, 1) := by decide +kernel
theorem dd_228_1 : decode prog_31_method_11_code 1 = .ok (.ifCond .lt 8, 3) := by decide +kernel
theorem dd_228_4 : decode prog_31_method_11_code 4 = .ok (.iload_n 0, 1) := by decide +kernel
theorem dd_228_5 : decode prog_31_method_11_code 5 = .ok (.iload_n 1, 1) := by decide +kernel
theorem dd_228_6 : decode prog_31_method_11_code 6 = .ok (.if_icmp .lt 10, 3) := by decide +kernel
theorem dd_228_9 : decode prog_31_method_11_code 9 = .ok (.aload_n 2, 1) := by decide +kernel
theorem dd_228_10 : decode prog_31_method_11_code 10 = .ok (.iload_n 0, 1) := by decide +kernel
theorem dd_228_11 : decode prog_31_method_11_code 11 = .ok (.iload_n 1, 1) := by decide +kernel
theorem dd_228_16 : decode prog_31_method_11_code 16 = .ok (.iload_n 0, 1) := by decide +kernel
theorem dd_228_17 : decode prog_31_method_11_code 17 = .ok (.ireturn, 1) := by decide +kernel
set_option maxRecDepth 100000 in
theorem okI_228 : mj_okI gG "jdk/internal/util/Preconditions" prog_31_method_11_code 3 (mj_off oM_228) (Option.some Jvm.ClassFile.FieldType.int) false true 0 cM_228 :=
  ⟨Or.inl ⟨0, rfl, dd_228_0, rfl⟩,
   ⟨8, dd_228_1, rfl, rfl⟩,
   Or.inl ⟨0, rfl, dd_228_4, rfl⟩,
   Or.inl ⟨1, rfl, dd_228_5, rfl⟩,
   ⟨10, dd_228_6, rfl, rfl⟩,
   Or.inl ⟨2, rfl, dd_228_9, rfl⟩,
   Or.inl ⟨0, rfl, dd_228_10, rfl⟩,
   Or.inl ⟨1, rfl, dd_228_11, rfl⟩,
   trivial,
   trivial,
   Or.inl ⟨0, rfl, dd_228_16, rfl⟩,
   ⟨dd_228_17, rfl⟩, trivial⟩
theorem okM_228 : mj_okE gG 228 (cM_228, 3, oM_228, hM_228) := ⟨rfl, rfl, by decide +kernel, trivial, okI_228⟩
theorem dd_229_0 : decode prog_23_method_79_code 0 = .ok (.aload_n 0, 1) := by decide +kernel
theorem dd_229_1 : decode prog_23_method_79_code 1 = .ok (.iload_n 1, 1) := by decide +kernel
theorem dd_229_2 : decode prog_23_method_79_code 2 = .ok (.iconst 0, 1) := by decide +kernel
theorem dd_229_3 : decode prog_23_method_79_code 3 = .ok (.invokevirtual 633, 3) := by decide +kernel
theorem dd_229_6 : decode prog_23_method_79_code 6 = .ok (.ireturn, 1) := by decide +kernel
set_option maxRecDepth 100000 in
theorem okI_229 : mj_okI gG "java/lang/String" prog_23_method_79_code 2 (mj_off oM_229) (Option.some Jvm.ClassFile.FieldType.int) false true 0 cM_229 :=
  ⟨Or.inl ⟨0, rfl, dd_229_0, rfl⟩,
   Or.inl ⟨1, rfl, dd_229_1, rfl⟩,
   Or.inl (Or.inl ⟨dd_229_2, rfl⟩),
   ⟨rfl, tw_1096, by decide, tw_788, by decide +kernel, 633, tw_1097, dd_229_3, tw_1098, tw_1099, by decide +kernel⟩,
   ⟨dd_229_6, rfl⟩, trivial⟩
theorem okM_229 : mj_okE gG 229 (cM_229, 2, oM_229, hM_229) := ⟨rfl, rfl, by decide +kernel, trivial, okI_229⟩
theorem dd_230_0 : decode prog_23_method_80_code 0 = .ok (.aload_n 0, 1) := by decide +kernel
theorem dd_230_1 : decode prog_23_method_80_code 1 = .ok (.invokevirtual 492, 3) := by decide +kernel
theorem dd_230_4 : decode prog_23_method_80_code 4 = .ok (.ifCond .eq 19, 3) := by decide +kernel
theorem dd_230_7 : decode prog_23_method_80_code 7 = .ok (.aload_n 0, 1) := by decide +kernel
theorem dd_230_8 : decode prog_23_method_80_code 8 = .ok (.getfield 9, 3) := by decide +kernel
theorem dd_230_11 : decode prog_23_method_80_code 11 = .ok (.iload_n 1, 1) := by decide +kernel
theorem dd_230_12 : decode prog_23_method_80_code 12 = .ok (.iload_n 2, 1) := by decide +kernel
theorem dd_230_13 : decode prog_23_method_80_code 13 = .ok (.aload_n 0, 1) := by decide +kernel
theorem dd_230_14 : decode prog_23_method_80_code 14 = .ok (.invokevirtual 505, 3) := by decide +kernel
theorem dd_230_17 : decode prog_23_method_80_code 17 = .ok (.invokestatic 637, 3) := by decide +kernel
theorem dd_230_20 : decode prog_23_method_80_code 20 = .ok (.goto 16, 3) := by decide +kernel
theorem dd_230_23 : decode prog_23_method_80_code 23 = .ok (.aload_n 0, 1) := by decide +kernel
theorem dd_230_24 : decode prog_23_method_80_code 24 = .ok (.getfield 9, 3) := by decide +kernel
theorem dd_230_27 : decode prog_23_method_80_code 27 = .ok (.iload_n 1, 1) := by decide +kernel
theorem dd_230_28 : decode prog_23_method_80_code 28 = .ok (.iload_n 2, 1) := by decide +kernel
theorem dd_230_29 : decode prog_23_method_80_code 29 = .ok (.aload_n 0, 1) := by decide +kernel
theorem dd_230_30 : decode prog_23_method_80_code 30 = .ok (.invokevirtual 505, 3) := by decide +kernel
theorem dd_230_36 : decode prog_23_method_80_code 36 = .ok (.ireturn, 1) := by decide +kernel
set_option maxRecDepth 100000 in
theorem okI_230 : mj_okI gG "java/lang/String" prog_23_method_80_code 3 (mj_off oM_230) (Option.some Jvm.ClassFile.FieldType.int) false true 0 cM_230 :=
  ⟨Or.inl ⟨0, rfl, dd_230_0, rfl⟩,
   ⟨rfl, tw_1100, by decide, tw_788, by decide +kernel, 492, tw_1101, dd_230_1, tw_1102, tw_1103, by decide +kernel⟩,
   ⟨19, dd_230_4, rfl, rfl⟩,
   Or.inl ⟨0, rfl, dd_230_7, rfl⟩,
   ⟨9, dd_230_8, rfl, tw_1104⟩,
   Or.inl ⟨1, rfl, dd_230_11, rfl⟩,
   Or.inl ⟨2, rfl, dd_230_12, rfl⟩,
   Or.inl ⟨0, rfl, dd_230_13, rfl⟩,
   ⟨rfl, tw_1105, by decide, tw_788, by decide +kernel, 505, tw_1106, dd_230_14, tw_1107, tw_1108, by decide +kernel⟩,
   ⟨rfl, tw_1109, by decide, tw_1110, by decide +kernel, 637, tw_1111, dd_230_17, tw_1112, by decide +kernel⟩,
   ⟨16, dd_230_20, rfl⟩,
   Or.inl ⟨0, rfl, dd_230_23, rfl⟩,
   ⟨9, dd_230_24, rfl, tw_1104⟩,
   Or.inl ⟨1, rfl, dd_230_27, rfl⟩,
   Or.inl ⟨2, rfl, dd_230_28, rfl⟩,
   Or.inl ⟨0, rfl, dd_230_29, rfl⟩,
   ⟨rfl, tw_1105, by decide, tw_788, by decide +kernel, 505, tw_1106, dd_230_30, tw_1107, tw_1108, by decide +kernel⟩,
   trivial,
   ⟨dd_230_36, rfl⟩, trivial⟩
theorem okM_230 : mj_okE gG 230 (cM_230, 3, oM_230, hM_230) := ⟨rfl, rfl, by decide +kernel, trivial, okI_230⟩
theorem dd_231_0 : decode prog_23_method_154_code 0 = .ok (.getstatic 38, 3) := by decide +kernel
theorem dd_231_3 : decode prog_23_method_154_code 3 = .ok (.ifCond .eq 14, 3) := by decide +kernel
theorem dd_231_6 : decode prog_23_method_154_code 6 = .ok (.aload_n 0, 1) := by decide +kernel
theorem dd_231_7 : decode prog_23_method_154_code 7 = .ok (.getfield 15, 3) := by decide +kernel
theorem dd_231_10 : decode prog_23_method_154_code 10 = .ok (.ifCond .ne 7, 3) := by decide +kernel
theorem dd_231_13 : decode prog_23_method_154_code 13 = .ok (.iconst 1, 1) := by decide +kernel
theorem dd_231_14 : decode prog_23_method_154_code 14 = .ok (.goto 4, 3) := by decide +kernel
theorem dd_231_17 : decode prog_23_method_154_code 17 = .ok (.iconst 0, 1) := by decide +kernel
theorem dd_231_18 : decode prog_23_method_154_code 18 = .ok (.ireturn, 1) := by decide +kernel
set_option maxRecDepth 100000 in
theorem okI_231 : mj_okI gG "java/lang/String" prog_23_method_154_code 1 (mj_off oM_231) (Option.some Jvm.ClassFile.FieldType.boolean) false true 0 cM_231 :=
  ⟨Or.inr ⟨38, "java/lang/String", "COMPACT_STRINGS", "Z", dd_231_0, rfl, by decide +kernel, tw_1113⟩,
   ⟨14, dd_231_3, rfl, rfl⟩,
   Or.inl ⟨0, rfl, dd_231_6, rfl⟩,
   ⟨15, dd_231_7, rfl, tw_1114⟩,
   ⟨7, dd_231_10, rfl, rfl⟩,
   Or.inl (Or.inl ⟨dd_231_13, rfl⟩),
   ⟨4, dd_231_14, rfl⟩,
   Or.inl (Or.inl ⟨dd_231_17, rfl⟩),
   ⟨dd_231_18, rfl⟩, trivial⟩
theorem okM_231 : mj_okE gG 231 (cM_231, 1, oM_231, hM_231) := ⟨rfl, rfl, by decide +kernel, trivial, okI_231⟩
theorem dd_232_0 : decode prog_23_method_54_code 0 = .ok (.aload_n 0, 1) := by decide +kernel
theorem dd_232_1 : decode prog_23_method_54_code 1 = .ok (.getfield 9, 3) := by decide +kernel
theorem dd_232_4 : decode prog_23_method_54_code 4 = .ok (.arraylength, 1) := by decide +kernel
theorem dd_232_5 : decode prog_23_method_54_code 5 = .ok (.aload_n 0, 1) := by decide +kernel
theorem dd_232_6 : decode prog_23_method_54_code 6 = .ok (.invokevirtual 335, 3) := by decide +kernel
theorem dd_232_9 : decode prog_23_method_54_code 9 = .ok (.ishr, 1) := by decide +kernel
theorem dd_232_10 : decode prog_23_method_54_code 10 = .ok (.ireturn, 1) := by decide +kernel
set_option maxRecDepth 100000 in
theorem okI_232 : mj_okI gG "java/lang/String" prog_23_method_54_code 1 (mj_off oM_232) (Option.some Jvm.ClassFile.FieldType.int) false true 0 cM_232 :=
  ⟨Or.inl ⟨0, rfl, dd_232_0, rfl⟩,
   ⟨9, dd_232_1, rfl, tw_1104⟩,
   ⟨dd_232_4, rfl⟩,
   Or.inl ⟨0, rfl, dd_232_5, rfl⟩,
   ⟨rfl, tw_1115, by decide, tw_788, by decide +kernel, 335, tw_1116, dd_232_6, tw_1117, tw_1118, by decide +kernel⟩,
   ⟨dd_232_9, rfl⟩,
   ⟨dd_232_10, rfl⟩, trivial⟩
theorem okM_232 : mj_okE gG 232 (cM_232, 1, oM_232, hM_232) := ⟨rfl, rfl, by decide +kernel, trivial, okI_232⟩
theorem dd_233_0 : decode prog_23_method_152_code 0 = .ok (.getstatic 38, 3) := by decide +kernel
theorem dd_233_3 : decode prog_23_method_152_code 3 = .ok (.ifCond .eq 10, 3) := by decide +kernel
theorem dd_233_6 : decode prog_23_method_152_code 6 = .ok (.aload_n 0, 1) := by decide +kernel
theorem dd_233_7 : decode prog_23_method_152_code 7 = .ok (.getfield 15, 3) := by decide +kernel
theorem dd_233_10 : decode prog_23_method_152_code 10 = .ok (.goto 4, 3) := by decide +kernel
theorem dd_233_13 : decode prog_23_method_152_code 13 = .ok (.iconst 1, 1) := by decide +kernel
theorem dd_233_14 : decode prog_23_method_152_code 14 = .ok (.ireturn, 1) := by decide +kernel
set_option maxRecDepth 100000 in
theorem okI_233 : mj_okI gG "java/lang/String" prog_23_method_152_code 1 (mj_off oM_233) (Option.some Jvm.ClassFile.FieldType.byte) false true 0 cM_233 :=
  ⟨Or.inr ⟨38, "java/lang/String", "COMPACT_STRINGS", "Z", dd_233_0, rfl, by decide +kernel, tw_1113⟩,
   ⟨10, dd_233_3, rfl, rfl⟩,
   Or.inl ⟨0, rfl, dd_233_6, rfl⟩,
   ⟨15, dd_233_7, rfl, tw_1114⟩,
   ⟨4, dd_233_10, rfl⟩,
   Or.inl (Or.inl ⟨dd_233_13, rfl⟩),
   ⟨dd_233_14, rfl⟩, trivial⟩
theorem okM_233 : mj_okE gG 233 (cM_233, 1, oM_233, hM_233) := ⟨rfl, rfl, by decide +kernel, trivial, okI_233⟩
theorem dd_234_0 : decode prog_25_method_22_code 0 = .ok (.iload_n 1, 1) := by decide +kernel
theorem dd_234_1 : decode prog_25_method_22_code 1 = .ok (.invokestatic 88, 3) := by decide +kernel
theorem dd_234_4 : decode prog_25_method_22_code 4 = .ok (.ifCond .ne 5, 3) := by decide +kernel
theorem dd_234_7 : decode prog_25_method_22_code 7 = .ok (.iconst (-1), 1) := by decide +kernel
theorem dd_234_8 : decode prog_25_method_22_code 8 = .ok (.ireturn, 1) := by decide +kernel
theorem dd_234_9 : decode prog_25_method_22_code 9 = .ok (.iload_n 2, 1) := by decide +kernel
theorem dd_234_10 : decode prog_25_method_22_code 10 = .ok (.iconst 0, 1) := by decide +kernel
theorem dd_234_11 : decode prog_25_method_22_code 11 = .ok (.invokestatic 92, 3) := by decide +kernel
theorem dd_234_14 : decode prog_25_method_22_code 14 = .ok (.istore_n 2, 1) := by decide +kernel
theorem dd_234_15 : decode prog_25_method_22_code 15 = .ok (.iload_n 3, 1) := by decide +kernel
theorem dd_234_16 : decode prog_25_method_22_code 16 = .ok (.aload_n 0, 1) := by decide +kernel
theorem dd_234_17 : decode prog_25_method_22_code 17 = .ok (.arraylength, 1) := by decide +kernel
theorem dd_234_18 : decode prog_25_method_22_code 18 = .ok (.invokestatic 38, 3) := by decide +kernel
theorem dd_234_21 : decode prog_25_method_22_code 21 = .ok (.istore_n 3, 1) := by decide +kernel
theorem dd_234_22 : decode prog_25_method_22_code 22 = .ok (.iload_n 2, 1) := by decide +kernel
theorem dd_234_23 : decode prog_25_method_22_code 23 = .ok (.iload_n 3, 1) := by decide +kernel
theorem dd_234_24 : decode prog_25_method_22_code 24 = .ok (.if_icmp .lt 5, 3) := by decide +kernel
theorem dd_234_27 : decode prog_25_method_22_code 27 = .ok (.iconst (-1), 1) := by decide +kernel
theorem dd_234_28 : decode prog_25_method_22_code 28 = .ok (.ireturn, 1) := by decide +kernel
theorem dd_234_29 : decode prog_25_method_22_code 29 = .ok (.aload_n 0, 1) := by decide +kernel
theorem dd_234_30 : decode prog_25_method_22_code 30 = .ok (.iload_n 1, 1) := by decide +kernel
theorem dd_234_31 : decode prog_25_method_22_code 31 = .ok (.iload_n 2, 1) := by decide +kernel
theorem dd_234_32 : decode prog_25_method_22_code 32 = .ok (.iload_n 3, 1) := by decide +kernel
theorem dd_234_33 : decode prog_25_method_22_code 33 = .ok (.invokestatic 95, 3) := by decide +kernel
theorem dd_234_36 : decode prog_25_method_22_code 36 = .ok (.ireturn, 1) := by decide +kernel
set_option maxRecDepth 100000 in
theorem okI_234 : mj_okI gG "java/lang/StringLatin1" prog_25_method_22_code 4 (mj_off oM_234) (Option.some Jvm.ClassFile.FieldType.int) false true 0 cM_234 :=
  ⟨Or.inl ⟨1, rfl, dd_234_0, rfl⟩,
   ⟨rfl, tw_1119, by decide, tw_1110, by decide +kernel, 88, tw_1120, dd_234_1, tw_1121, by decide +kernel⟩,
   ⟨5, dd_234_4, rfl, rfl⟩,
   Or.inl (Or.inl ⟨dd_234_7, rfl⟩),
   ⟨dd_234_8, rfl⟩,
   Or.inl ⟨2, rfl, dd_234_9, rfl⟩,
   Or.inl (Or.inl ⟨dd_234_10, rfl⟩),
   ⟨92, dd_234_11, rfl, tw_99, tw_1122, tw_104, tw_105⟩,
   ⟨by decide, Or.inl ⟨2, rfl, dd_234_14, rfl⟩⟩,
   Or.inl ⟨3, rfl, dd_234_15, rfl⟩,
   Or.inl ⟨0, rfl, dd_234_16, rfl⟩,
   ⟨dd_234_17, rfl⟩,
   ⟨38, dd_234_18, rfl, tw_99, tw_1123, tw_101, tw_102⟩,
   ⟨by decide, Or.inl ⟨3, rfl, dd_234_21, rfl⟩⟩,
   Or.inl ⟨2, rfl, dd_234_22, rfl⟩,
   Or.inl ⟨3, rfl, dd_234_23, rfl⟩,
   ⟨5, dd_234_24, rfl, rfl⟩,
   Or.inl (Or.inl ⟨dd_234_27, rfl⟩),
   ⟨dd_234_28, rfl⟩,
   Or.inl ⟨0, rfl, dd_234_29, rfl⟩,
   Or.inl ⟨1, rfl, dd_234_30, rfl⟩,
   Or.inl ⟨2, rfl, dd_234_31, rfl⟩,
   Or.inl ⟨3, rfl, dd_234_32, rfl⟩,
   ⟨rfl, tw_1124, by decide, tw_1110, by decide +kernel, 95, tw_1125, dd_234_33, tw_1126, by decide +kernel⟩,
   ⟨dd_234_36, rfl⟩, trivial⟩
theorem okM_234 : mj_okE gG 234 (cM_234, 4, oM_234, hM_234) := ⟨rfl, rfl, by decide +kernel, trivial, okI_234⟩
theorem dd_235_0 : decode prog_25_method_4_code 0 = .ok (.iload_n 0, 1) := by decide +kernel
theorem dd_235_1 : decode prog_25_method_4_code 1 = .ok (.ifCond .lt 14, 3) := by decide +kernel
theorem dd_235_4 : decode prog_25_method_4_code 4 = .ok (.iload_n 0, 1) := by decide +kernel
theorem dd_235_5 : decode prog_25_method_4_code 5 = .ok (.sipush 255, 3) := by decide +kernel
theorem dd_235_8 : decode prog_25_method_4_code 8 = .ok (.if_icmp .gt 7, 3) := by decide +kernel
theorem dd_235_11 : decode prog_25_method_4_code 11 = .ok (.iconst 1, 1) := by decide +kernel
theorem dd_235_12 : decode prog_25_method_4_code 12 = .ok (.goto 4, 3) := by decide +kernel
theorem dd_235_15 : decode prog_25_method_4_code 15 = .ok (.iconst 0, 1) := by decide +kernel
theorem dd_235_16 : decode prog_25_method_4_code 16 = .ok (.ireturn, 1) := by decide +kernel
set_option maxRecDepth 100000 in
theorem okI_235 : mj_okI gG "java/lang/StringLatin1" prog_25_method_4_code 1 (mj_off oM_235) (Option.some Jvm.ClassFile.FieldType.boolean) false true 0 cM_235 :=
  ⟨Or.inl ⟨0, rfl, dd_235_0, rfl⟩,
   ⟨14, dd_235_1, rfl, rfl⟩,
   Or.inl ⟨0, rfl, dd_235_4, rfl⟩,
   Or.inl (Or.inr (Or.inr (Or.inl ⟨dd_235_5, rfl, by decide⟩))),
   ⟨7, dd_235_8, rfl, rfl⟩,
   Or.inl (Or.inl ⟨dd_235_11, rfl⟩),
   ⟨4, dd_235_12, rfl⟩,
   Or.inl (Or.inl ⟨dd_235_15, rfl⟩),
   ⟨dd_235_16, rfl⟩, trivial⟩
theorem okM_235 : mj_okE gG 235 (cM_235, 1, oM_235, hM_235) := ⟨rfl, rfl, by decide +kernel, trivial, okI_235⟩
theorem dd_236_0 : decode prog_25_method_23_code 0 = .ok (.iload_n 1, 1) := by decide +kernel
theorem dd_236_1 : decode prog_25_method_23_code 1 = .ok (.i2b, 1) := by decide +kernel
theorem dd_236_2 : decode prog_25_method_23_code 2 = .ok (.istore 4, 2) := by decide +kernel
theorem dd_236_4 : decode prog_25_method_23_code 4 = .ok (.iload_n 2, 1) := by decide +kernel
theorem dd_236_5 : decode prog_25_method_23_code 5 = .ok (.istore 5, 2) := by decide +kernel
theorem dd_236_7 : decode prog_25_method_23_code 7 = .ok (.iload 5, 2) := by decide +kernel
theorem dd_236_9 : decode prog_25_method_23_code 9 = .ok (.iload_n 3, 1) := by decide +kernel
theorem dd_236_10 : decode prog_25_method_23_code 10 = .ok (.if_icmp .ge 21, 3) := by decide +kernel
theorem dd_236_13 : decode prog_25_method_23_code 13 = .ok (.aload_n 0, 1) := by decide +kernel
theorem dd_236_14 : decode prog_25_method_23_code 14 = .ok (.iload 5, 2) := by decide +kernel
theorem dd_236_16 : decode prog_25_method_23_code 16 = .ok (.baload, 1) := by decide +kernel
theorem dd_236_17 : decode prog_25_method_23_code 17 = .ok (.iload 4, 2) := by decide +kernel
theorem dd_236_19 : decode prog_25_method_23_code 19 = .ok (.if_icmp .ne 6, 3) := by decide +kernel
theorem dd_236_22 : decode prog_25_method_23_code 22 = .ok (.iload 5, 2) := by decide +kernel
theorem dd_236_24 : decode prog_25_method_23_code 24 = .ok (.ireturn, 1) := by decide +kernel
theorem dd_236_25 : decode prog_25_method_23_code 25 = .ok (.iinc 5 1, 3) := by decide +kernel
theorem dd_236_28 : decode prog_25_method_23_code 28 = .ok (.goto (-21), 3) := by decide +kernel
theorem dd_236_31 : decode prog_25_method_23_code 31 = .ok (.iconst (-1), 1) := by decide +kernel
theorem dd_236_32 : decode prog_25_method_23_code 32 = .ok (.ireturn, 1) := by decide +kernel
set_option maxRecDepth 100000 in
theorem okI_236 : mj_okI gG "java/lang/StringLatin1" prog_25_method_23_code 6 (mj_off oM_236) (Option.some Jvm.ClassFile.FieldType.int) false true 0 cM_236 :=
  ⟨Or.inl ⟨1, rfl, dd_236_0, rfl⟩,
   ⟨dd_236_1, rfl⟩,
   ⟨by decide, Or.inr ⟨dd_236_2, rfl⟩⟩,
   Or.inl ⟨2, rfl, dd_236_4, rfl⟩,
   ⟨by decide, Or.inr ⟨dd_236_5, rfl⟩⟩,
   Or.inr ⟨dd_236_7, rfl⟩,
   Or.inl ⟨3, rfl, dd_236_9, rfl⟩,
   ⟨21, dd_236_10, rfl, rfl⟩,
   Or.inl ⟨0, rfl, dd_236_13, rfl⟩,
   Or.inr ⟨dd_236_14, rfl⟩,
   ⟨dd_236_16, rfl⟩,
   Or.inr ⟨dd_236_17, rfl⟩,
   ⟨6, dd_236_19, rfl, rfl⟩,
   Or.inr ⟨dd_236_22, rfl⟩,
   ⟨dd_236_24, rfl⟩,
   ⟨by decide, dd_236_25, rfl⟩,
   ⟨(-21), dd_236_28, rfl⟩,
   Or.inl (Or.inl ⟨dd_236_31, rfl⟩),
   ⟨dd_236_32, rfl⟩, trivial⟩
theorem okM_236 : mj_okE gG 236 (cM_236, 6, oM_236, hM_236) := ⟨rfl, rfl, by decide +kernel, trivial, okI_236⟩
theorem dd_237_0 : decode prog_24_method_89_code 0 = .ok (.aload_n 0, 1) := by decide +kernel
theorem dd_237_1 : decode prog_24_method_89_code 1 = .ok (.iload_n 1, 1) := by decide +kernel
theorem dd_237_2 : decode prog_24_method_89_code 2 = .ok (.invokespecial 333, 3) := by decide +kernel
theorem dd_237_5 : decode prog_24_method_89_code 5 = .ok (.return_, 1) := by decide +kernel
set_option maxRecDepth 100000 in
theorem okI_237 : mj_okI gG "java/lang/StringBuilder" prog_24_method_89_code 2 (mj_off oM_237) (Option.none : Option Jvm.ClassFile.FieldType) false true 0 cM_237 :=
  ⟨Or.inl ⟨0, rfl, dd_237_0, rfl⟩,
   Or.inl ⟨1, rfl, dd_237_1, rfl⟩,
   ⟨rfl, tw_1127, by decide, tw_1069, by decide +kernel, 333, tw_1128, dd_237_2, tw_1129, tw_1130, tw_1081, by decide, ⟨"java/lang/StringBuilder", fT9, 4, rfl, tw_737⟩, by decide +kernel⟩,
   ⟨dd_237_5, rfl⟩, trivial⟩
theorem okM_237 : mj_okE gG 237 (cM_237, 2, oM_237, hM_237) := ⟨rfl, rfl, by decide +kernel, trivial, okI_237⟩
theorem dd_238_0 : decode prog_14_method_13_code 0 = .ok (.iload_n 1, 1) := by decide +kernel
theorem dd_238_1 : decode prog_14_method_13_code 1 = .ok (.ifCond .ge 12, 3) := by decide +kernel
theorem dd_238_7 : decode prog_14_method_13_code 7 = .ok (.dup, 1) := by decide +kernel
theorem dd_238_8 : decode prog_14_method_13_code 8 = .ok (.iload_n 1, 1) := by decide +kernel
theorem dd_238_13 : decode prog_14_method_13_code 13 = .ok (.aload_n 0, 1) := by decide +kernel
theorem dd_238_14 : decode prog_14_method_13_code 14 = .ok (.iload_n 1, 1) := by decide +kernel
theorem dd_238_15 : decode prog_14_method_13_code 15 = .ok (.invokevirtual 100, 3) := by decide +kernel
theorem dd_238_18 : decode prog_14_method_13_code 18 = .ok (.aload_n 0, 1) := by decide +kernel
theorem dd_238_19 : decode prog_14_method_13_code 19 = .ok (.getfield 79, 3) := by decide +kernel
theorem dd_238_22 : decode prog_14_method_13_code 22 = .ok (.iload_n 1, 1) := by decide +kernel
theorem dd_238_23 : decode prog_14_method_13_code 23 = .ok (.if_icmp .ge 40, 3) := by decide +kernel
theorem dd_238_26 : decode prog_14_method_13_code 26 = .ok (.aload_n 0, 1) := by decide +kernel
theorem dd_238_27 : decode prog_14_method_13_code 27 = .ok (.invokevirtual 83, 3) := by decide +kernel
theorem dd_238_30 : decode prog_14_method_13_code 30 = .ok (.ifCond .eq 18, 3) := by decide +kernel
theorem dd_238_33 : decode prog_14_method_13_code 33 = .ok (.aload_n 0, 1) := by decide +kernel
theorem dd_238_34 : decode prog_14_method_13_code 34 = .ok (.getfield 15, 3) := by decide +kernel
theorem dd_238_37 : decode prog_14_method_13_code 37 = .ok (.aload_n 0, 1) := by decide +kernel
theorem dd_238_38 : decode prog_14_method_13_code 38 = .ok (.getfield 79, 3) := by decide +kernel
theorem dd_238_41 : decode prog_14_method_13_code 41 = .ok (.iload_n 1, 1) := by decide +kernel
theorem dd_238_45 : decode prog_14_method_13_code 45 = .ok (.goto 31, 3) := by decide +kernel
theorem dd_238_48 : decode prog_14_method_13_code 48 = .ok (.aload_n 0, 1) := by decide +kernel
theorem dd_238_49 : decode prog_14_method_13_code 49 = .ok (.getfield 15, 3) := by decide +kernel
theorem dd_238_52 : decode prog_14_method_13_code 52 = .ok (.aload_n 0, 1) := by decide +kernel
theorem dd_238_53 : decode prog_14_method_13_code 53 = .ok (.getfield 79, 3) := by decide +kernel
theorem dd_238_56 : decode prog_14_method_13_code 56 = .ok (.iload_n 1, 1) := by decide +kernel
theorem dd_238_60 : decode prog_14_method_13_code 60 = .ok (.goto 16, 3) := by decide +kernel
theorem dd_238_63 : decode prog_14_method_13_code 63 = .ok (.aload_n 0, 1) := by decide +kernel
theorem dd_238_64 : decode prog_14_method_13_code 64 = .ok (.getfield 79, 3) := by decide +kernel
theorem dd_238_67 : decode prog_14_method_13_code 67 = .ok (.iload_n 1, 1) := by decide +kernel
theorem dd_238_68 : decode prog_14_method_13_code 68 = .ok (.if_icmp .le 8, 3) := by decide +kernel
theorem dd_238_71 : decode prog_14_method_13_code 71 = .ok (.aload_n 0, 1) := by decide +kernel
theorem dd_238_72 : decode prog_14_method_13_code 72 = .ok (.iconst 1, 1) := by decide +kernel
theorem dd_238_73 : decode prog_14_method_13_code 73 = .ok (.putfield 73, 3) := by decide +kernel
theorem dd_238_76 : decode prog_14_method_13_code 76 = .ok (.aload_n 0, 1) := by decide +kernel
theorem dd_238_77 : decode prog_14_method_13_code 77 = .ok (.iload_n 1, 1) := by decide +kernel
theorem dd_238_78 : decode prog_14_method_13_code 78 = .ok (.putfield 79, 3) := by decide +kernel
theorem dd_238_81 : decode prog_14_method_13_code 81 = .ok (.return_, 1) := by decide +kernel
set_option maxRecDepth 100000 in
theorem okI_238 : mj_okI gG "java/lang/AbstractStringBuilder" prog_14_method_13_code 2 (mj_off oM_238) (Option.none : Option Jvm.ClassFile.FieldType) false true 0 cM_238 :=
  ⟨Or.inl ⟨1, rfl, dd_238_0, rfl⟩,
   ⟨12, dd_238_1, rfl, rfl⟩,
   trivial,
   ⟨dd_238_7, rfl⟩,
   Or.inl ⟨1, rfl, dd_238_8, rfl⟩,
   trivial,
   trivial,
   Or.inl ⟨0, rfl, dd_238_13, rfl⟩,
   Or.inl ⟨1, rfl, dd_238_14, rfl⟩,
   ⟨rfl, tw_1131, by decide, tw_1069, by decide +kernel, 100, tw_1132, dd_238_15, tw_1133, ⟨"java/lang/StringBuilder", fT9, 4, rfl, tw_1134⟩, by decide +kernel⟩,
   Or.inl ⟨0, rfl, dd_238_18, rfl⟩,
   ⟨79, "java/lang/StringBuilder", fT9, 4, dd_238_19, rfl, okc_9, by decide, tw_1082⟩,
   Or.inl ⟨1, rfl, dd_238_22, rfl⟩,
   ⟨40, dd_238_23, rfl, rfl⟩,
   Or.inl ⟨0, rfl, dd_238_26, rfl⟩,
   ⟨rfl, tw_1135, by decide, tw_1069, by decide +kernel, 83, tw_1136, dd_238_27, tw_1137, ⟨"java/lang/StringBuilder", fT9, 4, rfl, tw_1138⟩, by decide +kernel⟩,
   ⟨18, dd_238_30, rfl, rfl⟩,
   Or.inl ⟨0, rfl, dd_238_33, rfl⟩,
   ⟨15, "java/lang/StringBuilder", fT9, 4, dd_238_34, rfl, okc_9, by decide, tw_1075⟩,
   Or.inl ⟨0, rfl, dd_238_37, rfl⟩,
   ⟨79, "java/lang/StringBuilder", fT9, 4, dd_238_38, rfl, okc_9, by decide, tw_1082⟩,
   Or.inl ⟨1, rfl, dd_238_41, rfl⟩,
   trivial,
   ⟨31, dd_238_45, rfl⟩,
   Or.inl ⟨0, rfl, dd_238_48, rfl⟩,
   ⟨15, "java/lang/StringBuilder", fT9, 4, dd_238_49, rfl, okc_9, by decide, tw_1075⟩,
   Or.inl ⟨0, rfl, dd_238_52, rfl⟩,
   ⟨79, "java/lang/StringBuilder", fT9, 4, dd_238_53, rfl, okc_9, by decide, tw_1082⟩,
   Or.inl ⟨1, rfl, dd_238_56, rfl⟩,
   trivial,
   ⟨16, dd_238_60, rfl⟩,
   Or.inl ⟨0, rfl, dd_238_63, rfl⟩,
   ⟨79, "java/lang/StringBuilder", fT9, 4, dd_238_64, rfl, okc_9, by decide, tw_1082⟩,
   Or.inl ⟨1, rfl, dd_238_67, rfl⟩,
   ⟨8, dd_238_68, rfl, rfl⟩,
   Or.inl ⟨0, rfl, dd_238_71, rfl⟩,
   Or.inl (Or.inl ⟨dd_238_72, rfl⟩),
   ⟨73, "java/lang/StringBuilder", fT9, 4, dd_238_73, rfl, okc_9, by decide, tw_1139, Or.inl rfl, Or.inl rfl⟩,
   Or.inl ⟨0, rfl, dd_238_76, rfl⟩,
   Or.inl ⟨1, rfl, dd_238_77, rfl⟩,
   ⟨79, "java/lang/StringBuilder", fT9, 4, dd_238_78, rfl, okc_9, by decide, tw_1082, rfl, Or.inl rfl⟩,
   ⟨dd_238_81, rfl⟩, trivial⟩
theorem okM_238 : mj_okE gG 238 (cM_238, 2, oM_238, hM_238) := ⟨rfl, rfl, by decide +kernel, trivial, okI_238⟩
theorem dd_239_0 : decode prog_14_method_9_code 0 = .ok (.aload_n 0, 1) := by decide +kernel
theorem dd_239_1 : decode prog_14_method_9_code 1 = .ok (.getfield 15, 3) := by decide +kernel
theorem dd_239_4 : decode prog_14_method_9_code 4 = .ok (.arraylength, 1) := by decide +kernel
theorem dd_239_5 : decode prog_14_method_9_code 5 = .ok (.aload_n 0, 1) := by decide +kernel
theorem dd_239_6 : decode prog_14_method_9_code 6 = .ok (.getfield 22, 3) := by decide +kernel
theorem dd_239_9 : decode prog_14_method_9_code 9 = .ok (.ishr, 1) := by decide +kernel
theorem dd_239_10 : decode prog_14_method_9_code 10 = .ok (.istore_n 2, 1) := by decide +kernel
theorem dd_239_11 : decode prog_14_method_9_code 11 = .ok (.iload_n 1, 1) := by decide +kernel
theorem dd_239_12 : decode prog_14_method_9_code 12 = .ok (.iload_n 2, 1) := by decide +kernel
theorem dd_239_13 : decode prog_14_method_9_code 13 = .ok (.isub, 1) := by decide +kernel
theorem dd_239_14 : decode prog_14_method_9_code 14 = .ok (.ifCond .le 24, 3) := by decide +kernel
theorem dd_239_17 : decode prog_14_method_9_code 17 = .ok (.aload_n 0, 1) := by decide +kernel
theorem dd_239_18 : decode prog_14_method_9_code 18 = .ok (.aload_n 0, 1) := by decide +kernel
theorem dd_239_19 : decode prog_14_method_9_code 19 = .ok (.getfield 15, 3) := by decide +kernel
theorem dd_239_22 : decode prog_14_method_9_code 22 = .ok (.aload_n 0, 1) := by decide +kernel
theorem dd_239_23 : decode prog_14_method_9_code 23 = .ok (.iload_n 1, 1) := by decide +kernel
theorem dd_239_24 : decode prog_14_method_9_code 24 = .ok (.invokevirtual 104, 3) := by decide +kernel
theorem dd_239_27 : decode prog_14_method_9_code 27 = .ok (.aload_n 0, 1) := by decide +kernel
theorem dd_239_28 : decode prog_14_method_9_code 28 = .ok (.getfield 22, 3) := by decide +kernel
theorem dd_239_31 : decode prog_14_method_9_code 31 = .ok (.ishl, 1) := by decide +kernel
theorem dd_239_32 : decode prog_14_method_9_code 32 = .ok (.invokestatic 108, 3) := by decide +kernel
theorem dd_239_35 : decode prog_14_method_9_code 35 = .ok (.putfield 15, 3) := by decide +kernel
theorem dd_239_38 : decode prog_14_method_9_code 38 = .ok (.return_, 1) := by decide +kernel
set_option maxRecDepth 100000 in
theorem okI_239 : mj_okI gG "java/lang/AbstractStringBuilder" prog_14_method_9_code 3 (mj_off oM_239) (Option.none : Option Jvm.ClassFile.FieldType) false true 0 cM_239 :=
  ⟨Or.inl ⟨0, rfl, dd_239_0, rfl⟩,
   ⟨15, "java/lang/StringBuilder", fT9, 4, dd_239_1, rfl, okc_9, by decide, tw_1075⟩,
   ⟨dd_239_4, rfl⟩,
   Or.inl ⟨0, rfl, dd_239_5, rfl⟩,
   ⟨22, "java/lang/StringBuilder", fT9, 4, dd_239_6, rfl, okc_9, by decide, tw_1076⟩,
   ⟨dd_239_9, rfl⟩,
   ⟨by decide, Or.inl ⟨2, rfl, dd_239_10, rfl⟩⟩,
   Or.inl ⟨1, rfl, dd_239_11, rfl⟩,
   Or.inl ⟨2, rfl, dd_239_12, rfl⟩,
   ⟨dd_239_13, rfl⟩,
   ⟨24, dd_239_14, rfl, rfl⟩,
   Or.inl ⟨0, rfl, dd_239_17, rfl⟩,
   Or.inl ⟨0, rfl, dd_239_18, rfl⟩,
   ⟨15, "java/lang/StringBuilder", fT9, 4, dd_239_19, rfl, okc_9, by decide, tw_1075⟩,
   Or.inl ⟨0, rfl, dd_239_22, rfl⟩,
   Or.inl ⟨1, rfl, dd_239_23, rfl⟩,
   ⟨rfl, tw_1140, by decide, tw_1069, by decide +kernel, 104, tw_1141, dd_239_24, tw_1142, ⟨"java/lang/StringBuilder", fT9, 4, rfl, tw_1143⟩, by decide +kernel⟩,
   Or.inl ⟨0, rfl, dd_239_27, rfl⟩,
   ⟨22, "java/lang/StringBuilder", fT9, 4, dd_239_28, rfl, okc_9, by decide, tw_1076⟩,
   ⟨dd_239_31, rfl⟩,
   ⟨rfl, tw_1144, by decide, tw_1145, by decide +kernel, 108, tw_1146, dd_239_32, tw_1147, by decide +kernel⟩,
   ⟨15, "java/lang/StringBuilder", fT9, 4, dd_239_35, rfl, okc_9, by decide, tw_1075, Or.inr ⟨_, rfl⟩, Or.inl rfl⟩,
   ⟨dd_239_38, rfl⟩, trivial⟩
theorem okM_239 : mj_okE gG 239 (cM_239, 3, oM_239, hM_239) := ⟨rfl, rfl, by decide +kernel, trivial, okI_239⟩
theorem dd_240_0 : decode prog_14_method_10_code 0 = .ok (.aload_n 0, 1) := by decide +kernel
theorem dd_240_1 : decode prog_14_method_10_code 1 = .ok (.getfield 15, 3) := by decide +kernel
theorem dd_240_4 : decode prog_14_method_10_code 4 = .ok (.arraylength, 1) := by decide +kernel
theorem dd_240_5 : decode prog_14_method_10_code 5 = .ok (.istore_n 2, 1) := by decide +kernel
theorem dd_240_6 : decode prog_14_method_10_code 6 = .ok (.iload_n 1, 1) := by decide +kernel
theorem dd_240_7 : decode prog_14_method_10_code 7 = .ok (.aload_n 0, 1) := by decide +kernel
theorem dd_240_8 : decode prog_14_method_10_code 8 = .ok (.getfield 22, 3) := by decide +kernel
theorem dd_240_11 : decode prog_14_method_10_code 11 = .ok (.ishl, 1) := by decide +kernel
theorem dd_240_12 : decode prog_14_method_10_code 12 = .ok (.istore_n 3, 1) := by decide +kernel
theorem dd_240_13 : decode prog_14_method_10_code 13 = .ok (.iload_n 3, 1) := by decide +kernel
theorem dd_240_14 : decode prog_14_method_10_code 14 = .ok (.iload_n 2, 1) := by decide +kernel
theorem dd_240_15 : decode prog_14_method_10_code 15 = .ok (.isub, 1) := by decide +kernel
theorem dd_240_16 : decode prog_14_method_10_code 16 = .ok (.istore 4, 2) := by decide +kernel
theorem dd_240_18 : decode prog_14_method_10_code 18 = .ok (.iload_n 2, 1) := by decide +kernel
theorem dd_240_19 : decode prog_14_method_10_code 19 = .ok (.iload 4, 2) := by decide +kernel
theorem dd_240_21 : decode prog_14_method_10_code 21 = .ok (.iload_n 2, 1) := by decide +kernel
theorem dd_240_22 : decode prog_14_method_10_code 22 = .ok (.iconst 2, 1) := by decide +kernel
theorem dd_240_23 : decode prog_14_method_10_code 23 = .ok (.aload_n 0, 1) := by decide +kernel
theorem dd_240_24 : decode prog_14_method_10_code 24 = .ok (.getfield 22, 3) := by decide +kernel
theorem dd_240_27 : decode prog_14_method_10_code 27 = .ok (.ishl, 1) := by decide +kernel
theorem dd_240_28 : decode prog_14_method_10_code 28 = .ok (.iadd, 1) := by decide +kernel
theorem dd_240_29 : decode prog_14_method_10_code 29 = .ok (.invokestatic 114, 3) := by decide +kernel
theorem dd_240_32 : decode prog_14_method_10_code 32 = .ok (.istore 5, 2) := by decide +kernel
theorem dd_240_34 : decode prog_14_method_10_code 34 = .ok (.iload 5, 2) := by decide +kernel
theorem dd_240_36 : decode prog_14_method_10_code 36 = .ok (.ldc 39, 2) := by decide +kernel
theorem dd_240_38 : decode prog_14_method_10_code 38 = .ok (.if_icmp .ne 13, 3) := by decide +kernel
theorem dd_240_51 : decode prog_14_method_10_code 51 = .ok (.iload 5, 2) := by decide +kernel
theorem dd_240_53 : decode prog_14_method_10_code 53 = .ok (.aload_n 0, 1) := by decide +kernel
theorem dd_240_54 : decode prog_14_method_10_code 54 = .ok (.getfield 22, 3) := by decide +kernel
theorem dd_240_57 : decode prog_14_method_10_code 57 = .ok (.ishr, 1) := by decide +kernel
theorem dd_240_58 : decode prog_14_method_10_code 58 = .ok (.ireturn, 1) := by decide +kernel
set_option maxRecDepth 100000 in
theorem okI_240 : mj_okI gG "java/lang/AbstractStringBuilder" prog_14_method_10_code 6 (mj_off oM_240) (Option.some Jvm.ClassFile.FieldType.int) false true 0 cM_240 :=
  ⟨Or.inl ⟨0, rfl, dd_240_0, rfl⟩,
   ⟨15, "java/lang/StringBuilder", fT9, 4, dd_240_1, rfl, okc_9, by decide, tw_1075⟩,
   ⟨dd_240_4, rfl⟩,
   ⟨by decide, Or.inl ⟨2, rfl, dd_240_5, rfl⟩⟩,
   Or.inl ⟨1, rfl, dd_240_6, rfl⟩,
   Or.inl ⟨0, rfl, dd_240_7, rfl⟩,
   ⟨22, "java/lang/StringBuilder", fT9, 4, dd_240_8, rfl, okc_9, by decide, tw_1076⟩,
   ⟨dd_240_11, rfl⟩,
   ⟨by decide, Or.inl ⟨3, rfl, dd_240_12, rfl⟩⟩,
   Or.inl ⟨3, rfl, dd_240_13, rfl⟩,
   Or.inl ⟨2, rfl, dd_240_14, rfl⟩,
   ⟨dd_240_15, rfl⟩,
   ⟨by decide, Or.inr ⟨dd_240_16, rfl⟩⟩,
   Or.inl ⟨2, rfl, dd_240_18, rfl⟩,
   Or.inr ⟨dd_240_19, rfl⟩,
   Or.inl ⟨2, rfl, dd_240_21, rfl⟩,
   Or.inl (Or.inl ⟨dd_240_22, rfl⟩),
   Or.inl ⟨0, rfl, dd_240_23, rfl⟩,
   ⟨22, "java/lang/StringBuilder", fT9, 4, dd_240_24, rfl, okc_9, by decide, tw_1076⟩,
   ⟨dd_240_27, rfl⟩,
   ⟨dd_240_28, rfl⟩,
   ⟨rfl, tw_1148, by decide, tw_1149, by decide +kernel, 114, tw_1150, dd_240_29, tw_1151, by decide +kernel⟩,
   ⟨by decide, Or.inr ⟨dd_240_32, rfl⟩⟩,
   Or.inr ⟨dd_240_34, rfl⟩,
   Or.inl (Or.inr (Or.inr (Or.inr ⟨39, dd_240_36, rfl, tw_1152⟩))),
   ⟨13, dd_240_38, rfl, rfl⟩,
   trivial,
   Or.inr ⟨dd_240_51, rfl⟩,
   Or.inl ⟨0, rfl, dd_240_53, rfl⟩,
   ⟨22, "java/lang/StringBuilder", fT9, 4, dd_240_54, rfl, okc_9, by decide, tw_1076⟩,
   ⟨dd_240_57, rfl⟩,
   ⟨dd_240_58, rfl⟩, trivial⟩
theorem okM_240 : mj_okE gG 240 (cM_240, 6, oM_240, hM_240) := ⟨rfl, rfl, by decide +kernel, trivial, okI_240⟩
theorem dd_241_0 : decode prog_30_method_27_code 0 = .ok (.iload_n 0, 1) := by decide +kernel
theorem dd_241_1 : decode prog_30_method_27_code 1 = .ok (.iload_n 1, 1) := by decide +kernel
theorem dd_241_2 : decode prog_30_method_27_code 2 = .ok (.iload_n 2, 1) := by decide +kernel
theorem dd_241_3 : decode prog_30_method_27_code 3 = .ok (.invokestatic 194, 3) := by decide +kernel
theorem dd_241_6 : decode prog_30_method_27_code 6 = .ok (.iadd, 1) := by decide +kernel
theorem dd_241_7 : decode prog_30_method_27_code 7 = .ok (.istore_n 3, 1) := by decide +kernel
theorem dd_241_8 : decode prog_30_method_27_code 8 = .ok (.iconst 0, 1) := by decide +kernel
theorem dd_241_9 : decode prog_30_method_27_code 9 = .ok (.iload_n 3, 1) := by decide +kernel
theorem dd_241_10 : decode prog_30_method_27_code 10 = .ok (.if_icmp .ge 11, 3) := by decide +kernel
theorem dd_241_13 : decode prog_30_method_27_code 13 = .ok (.iload_n 3, 1) := by decide +kernel
theorem dd_241_14 : decode prog_30_method_27_code 14 = .ok (.ldc 200, 2) := by decide +kernel
theorem dd_241_16 : decode prog_30_method_27_code 16 = .ok (.if_icmp .gt 5, 3) := by decide +kernel
theorem dd_241_19 : decode prog_30_method_27_code 19 = .ok (.iload_n 3, 1) := by decide +kernel
theorem dd_241_20 : decode prog_30_method_27_code 20 = .ok (.ireturn, 1) := by decide +kernel
theorem dd_241_21 : decode prog_30_method_27_code 21 = .ok (.iload_n 0, 1) := by decide +kernel
theorem dd_241_22 : decode prog_30_method_27_code 22 = .ok (.iload_n 1, 1) := by decide +kernel
theorem dd_241_26 : decode prog_30_method_27_code 26 = .ok (.ireturn, 1) := by decide +kernel
set_option maxRecDepth 100000 in
theorem okI_241 : mj_okI gG "jdk/internal/util/ArraysSupport" prog_30_method_27_code 4 (mj_off oM_241) (Option.some Jvm.ClassFile.FieldType.int) false true 0 cM_241 :=
  ⟨Or.inl ⟨0, rfl, dd_241_0, rfl⟩,
   Or.inl ⟨1, rfl, dd_241_1, rfl⟩,
   Or.inl ⟨2, rfl, dd_241_2, rfl⟩,
   ⟨194, dd_241_3, rfl, tw_99, tw_1153, tw_104, tw_105⟩,
   ⟨dd_241_6, rfl⟩,
   ⟨by decide, Or.inl ⟨3, rfl, dd_241_7, rfl⟩⟩,
   Or.inl (Or.inl ⟨dd_241_8, rfl⟩),
   Or.inl ⟨3, rfl, dd_241_9, rfl⟩,
   ⟨11, dd_241_10, rfl, rfl⟩,
   Or.inl ⟨3, rfl, dd_241_13, rfl⟩,
   Or.inl (Or.inr (Or.inr (Or.inr ⟨200, dd_241_14, rfl, tw_1154⟩))),
   ⟨5, dd_241_16, rfl, rfl⟩,
   Or.inl ⟨3, rfl, dd_241_19, rfl⟩,
   ⟨dd_241_20, rfl⟩,
   Or.inl ⟨0, rfl, dd_241_21, rfl⟩,
   Or.inl ⟨1, rfl, dd_241_22, rfl⟩,
   trivial,
   ⟨dd_241_26, rfl⟩, trivial⟩
theorem okM_241 : mj_okE gG 241 (cM_241, 4, oM_241, hM_241) := ⟨rfl, rfl, by decide +kernel, trivial, okI_241⟩
theorem dd_242_0 : decode prog_29_method_121_code 0 = .ok (.iload_n 1, 1) := by decide +kernel
theorem dd_242_1 : decode prog_29_method_121_code 1 = .ok (.aload_n 0, 1) := by decide +kernel
theorem dd_242_2 : decode prog_29_method_121_code 2 = .ok (.arraylength, 1) := by decide +kernel
theorem dd_242_3 : decode prog_29_method_121_code 3 = .ok (.if_icmp .ne 11, 3) := by decide +kernel
theorem dd_242_6 : decode prog_29_method_121_code 6 = .ok (.aload_n 0, 1) := by decide +kernel
theorem dd_242_13 : decode prog_29_method_121_code 13 = .ok (.areturn, 1) := by decide +kernel
theorem dd_242_14 : decode prog_29_method_121_code 14 = .ok (.iload_n 1, 1) := by decide +kernel
theorem dd_242_15 : decode prog_29_method_121_code 15 = .ok (.newarray .byte, 2) := by decide +kernel
theorem dd_242_17 : decode prog_29_method_121_code 17 = .ok (.astore_n 2, 1) := by decide +kernel
theorem dd_242_18 : decode prog_29_method_121_code 18 = .ok (.aload_n 0, 1) := by decide +kernel
theorem dd_242_19 : decode prog_29_method_121_code 19 = .ok (.iconst 0, 1) := by decide +kernel
theorem dd_242_20 : decode prog_29_method_121_code 20 = .ok (.aload_n 2, 1) := by decide +kernel
theorem dd_242_21 : decode prog_29_method_121_code 21 = .ok (.iconst 0, 1) := by decide +kernel
theorem dd_242_22 : decode prog_29_method_121_code 22 = .ok (.aload_n 0, 1) := by decide +kernel
theorem dd_242_23 : decode prog_29_method_121_code 23 = .ok (.arraylength, 1) := by decide +kernel
theorem dd_242_24 : decode prog_29_method_121_code 24 = .ok (.iload_n 1, 1) := by decide +kernel
theorem dd_242_25 : decode prog_29_method_121_code 25 = .ok (.invokestatic 304, 3) := by decide +kernel
theorem dd_242_28 : decode prog_29_method_121_code 28 = .ok (.invokestatic 150, 3) := by decide +kernel
theorem dd_242_31 : decode prog_29_method_121_code 31 = .ok (.aload_n 2, 1) := by decide +kernel
theorem dd_242_32 : decode prog_29_method_121_code 32 = .ok (.areturn, 1) := by decide +kernel
set_option maxRecDepth 100000 in
theorem okI_242 : mj_okI gG "java/util/Arrays" prog_29_method_121_code 3 (mj_off oM_242) (Option.some (Jvm.ClassFile.FieldType.array Jvm.ClassFile.FieldType.byte)) false true 0 cM_242 :=
  ⟨Or.inl ⟨1, rfl, dd_242_0, rfl⟩,
   Or.inl ⟨0, rfl, dd_242_1, rfl⟩,
   ⟨dd_242_2, rfl⟩,
   ⟨11, dd_242_3, rfl, rfl⟩,
   Or.inl ⟨0, rfl, dd_242_6, rfl⟩,
   trivial,
   trivial,
   ⟨dd_242_13, _, rfl, rfl⟩,
   Or.inl ⟨1, rfl, dd_242_14, rfl⟩,
   ⟨dd_242_15, rfl, tw_1074⟩,
   ⟨by decide, Or.inl ⟨2, rfl, dd_242_17, rfl⟩⟩,
   Or.inl ⟨0, rfl, dd_242_18, rfl⟩,
   Or.inl (Or.inl ⟨dd_242_19, rfl⟩),
   Or.inl ⟨2, rfl, dd_242_20, rfl⟩,
   Or.inl (Or.inl ⟨dd_242_21, rfl⟩),
   Or.inl ⟨0, rfl, dd_242_22, rfl⟩,
   ⟨dd_242_23, rfl⟩,
   Or.inl ⟨1, rfl, dd_242_24, rfl⟩,
   ⟨304, dd_242_25, rfl, tw_99, tw_1155, tw_101, tw_102⟩,
   ⟨150, dd_242_28, rfl, tw_1156, tw_1157, tw_1158, tw_1159⟩,
   Or.inl ⟨2, rfl, dd_242_31, rfl⟩,
   ⟨dd_242_32, _, rfl, rfl⟩, trivial⟩
theorem okM_242 : mj_okE gG 242 (cM_242, 3, oM_242, hM_242) := ⟨rfl, rfl, by decide +kernel, trivial, okI_242⟩
theorem dd_243_0 : decode prog_14_method_68_code 0 = .ok (.getstatic 18, 3) := by decide +kernel
theorem dd_243_3 : decode prog_14_method_68_code 3 = .ok (.ifCond .eq 14, 3) := by decide +kernel
theorem dd_243_6 : decode prog_14_method_68_code 6 = .ok (.aload_n 0, 1) := by decide +kernel
theorem dd_243_7 : decode prog_14_method_68_code 7 = .ok (.getfield 22, 3) := by decide +kernel
theorem dd_243_10 : decode prog_14_method_68_code 10 = .ok (.ifCond .ne 7, 3) := by decide +kernel
theorem dd_243_13 : decode prog_14_method_68_code 13 = .ok (.iconst 1, 1) := by decide +kernel
theorem dd_243_14 : decode prog_14_method_68_code 14 = .ok (.goto 4, 3) := by decide +kernel
theorem dd_243_17 : decode prog_14_method_68_code 17 = .ok (.iconst 0, 1) := by decide +kernel
theorem dd_243_18 : decode prog_14_method_68_code 18 = .ok (.ireturn, 1) := by decide +kernel
set_option maxRecDepth 100000 in
theorem okI_243 : mj_okI gG "java/lang/AbstractStringBuilder" prog_14_method_68_code 1 (mj_off oM_243) (Option.some Jvm.ClassFile.FieldType.boolean) false true 0 cM_243 :=
  ⟨Or.inr ⟨18, "java/lang/String", "COMPACT_STRINGS", "Z", dd_243_0, rfl, by decide +kernel, tw_1073⟩,
   ⟨14, dd_243_3, rfl, rfl⟩,
   Or.inl ⟨0, rfl, dd_243_6, rfl⟩,
   ⟨22, "java/lang/StringBuilder", fT9, 4, dd_243_7, rfl, okc_9, by decide, tw_1076⟩,
   ⟨7, dd_243_10, rfl, rfl⟩,
   Or.inl (Or.inl ⟨dd_243_13, rfl⟩),
   ⟨4, dd_243_14, rfl⟩,
   Or.inl (Or.inl ⟨dd_243_17, rfl⟩),
   ⟨dd_243_18, rfl⟩, trivial⟩
theorem okM_243 : mj_okE gG 243 (cM_243, 1, oM_243, hM_243) := ⟨rfl, rfl, by decide +kernel, trivial, okI_243⟩
end
