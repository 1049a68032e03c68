section
theorem dd_244_0 : decode prog_24_method_14_code 0 = .ok (.aload_n 0, 1) := by decide +kernel
theorem dd_244_1 : decode prog_24_method_14_code 1 = .ok (.iload_n 1, 1) := by decide +kernel
theorem dd_244_2 : decode prog_24_method_14_code 2 = .ok (.invokespecial 50, 3) := by decide +kernel
theorem dd_244_5 : decode prog_24_method_14_code 5 = .ok (.pop, 1) := by decide +kernel
theorem dd_244_6 : decode prog_24_method_14_code 6 = .ok (.aload_n 0, 1) := by decide +kernel
theorem dd_244_7 : decode prog_24_method_14_code 7 = .ok (.areturn, 1) := by decide +kernel
set_option maxRecDepth 100000 in
theorem okI_244 : mj_okI gG "java/lang/StringBuilder" prog_24_method_14_code 2 (mj_off oM_244) (Option.some (Jvm.ClassFile.FieldType.object "java/lang/StringBuilder")) false true 0 cM_244 :=
  ⟨Or.inl ⟨0, rfl, dd_244_0, rfl⟩,
   Or.inl ⟨1, rfl, dd_244_1, rfl⟩,
   ⟨rfl, tw_1160, by decide, tw_1069, by decide +kernel, 50, tw_1161, dd_244_2, tw_1162, tw_1163, tw_1081, by decide, ⟨"java/lang/StringBuilder", fT9, 4, rfl, tw_737⟩, by decide +kernel⟩,
   ⟨dd_244_5, rfl⟩,
   Or.inl ⟨0, rfl, dd_244_6, rfl⟩,
   ⟨dd_244_7, _, rfl, rfl⟩, trivial⟩
theorem okM_244 : mj_okE gG 244 (cM_244, 2, oM_244, hM_244) := ⟨rfl, rfl, by decide +kernel, trivial, okI_244⟩
theorem dd_245_0 : decode prog_14_method_31_code 0 = .ok (.aload_n 0, 1) := by decide +kernel
theorem dd_245_1 : decode prog_14_method_31_code 1 = .ok (.aload_n 0, 1) := by decide +kernel
theorem dd_245_2 : decode prog_14_method_31_code 2 = .ok (.getfield 79, 3) := by decide +kernel
theorem dd_245_5 : decode prog_14_method_31_code 5 = .ok (.iconst 1, 1) := by decide +kernel
theorem dd_245_6 : decode prog_14_method_31_code 6 = .ok (.iadd, 1) := by decide +kernel
theorem dd_245_7 : decode prog_14_method_31_code 7 = .ok (.invokevirtual 100, 3) := by decide +kernel
theorem dd_245_10 : decode prog_14_method_31_code 10 = .ok (.aload_n 0, 1) := by decide +kernel
theorem dd_245_11 : decode prog_14_method_31_code 11 = .ok (.invokevirtual 83, 3) := by decide +kernel
theorem dd_245_14 : decode prog_14_method_31_code 14 = .ok (.ifCond .eq 31, 3) := by decide +kernel
theorem dd_245_17 : decode prog_14_method_31_code 17 = .ok (.iload_n 1, 1) := by decide +kernel
theorem dd_245_18 : decode prog_14_method_31_code 18 = .ok (.invokestatic 191, 3) := by decide +kernel
theorem dd_245_21 : decode prog_14_method_31_code 21 = .ok (.ifCond .eq 24, 3) := by decide +kernel
theorem dd_245_24 : decode prog_14_method_31_code 24 = .ok (.aload_n 0, 1) := by decide +kernel
theorem dd_245_25 : decode prog_14_method_31_code 25 = .ok (.getfield 15, 3) := by decide +kernel
theorem dd_245_28 : decode prog_14_method_31_code 28 = .ok (.aload_n 0, 1) := by decide +kernel
theorem dd_245_29 : decode prog_14_method_31_code 29 = .ok (.dup, 1) := by decide +kernel
theorem dd_245_30 : decode prog_14_method_31_code 30 = .ok (.getfield 79, 3) := by decide +kernel
theorem dd_245_33 : decode prog_14_method_31_code 33 = .ok (.dup_x1, 1) := by decide +kernel
theorem dd_245_34 : decode prog_14_method_31_code 34 = .ok (.iconst 1, 1) := by decide +kernel
theorem dd_245_35 : decode prog_14_method_31_code 35 = .ok (.iadd, 1) := by decide +kernel
theorem dd_245_36 : decode prog_14_method_31_code 36 = .ok (.putfield 79, 3) := by decide +kernel
theorem dd_245_39 : decode prog_14_method_31_code 39 = .ok (.iload_n 1, 1) := by decide +kernel
theorem dd_245_40 : decode prog_14_method_31_code 40 = .ok (.i2b, 1) := by decide +kernel
theorem dd_245_41 : decode prog_14_method_31_code 41 = .ok (.bastore, 1) := by decide +kernel
theorem dd_245_42 : decode prog_14_method_31_code 42 = .ok (.goto 33, 3) := by decide +kernel
theorem dd_245_45 : decode prog_14_method_31_code 45 = .ok (.aload_n 0, 1) := by decide +kernel
theorem dd_245_46 : decode prog_14_method_31_code 46 = .ok (.invokevirtual 83, 3) := by decide +kernel
theorem dd_245_49 : decode prog_14_method_31_code 49 = .ok (.ifCond .eq 7, 3) := by decide +kernel
theorem dd_245_52 : decode prog_14_method_31_code 52 = .ok (.aload_n 0, 1) := by decide +kernel
theorem dd_245_56 : decode prog_14_method_31_code 56 = .ok (.aload_n 0, 1) := by decide +kernel
theorem dd_245_57 : decode prog_14_method_31_code 57 = .ok (.getfield 15, 3) := by decide +kernel
theorem dd_245_60 : decode prog_14_method_31_code 60 = .ok (.aload_n 0, 1) := by decide +kernel
theorem dd_245_61 : decode prog_14_method_31_code 61 = .ok (.dup, 1) := by decide +kernel
theorem dd_245_62 : decode prog_14_method_31_code 62 = .ok (.getfield 79, 3) := by decide +kernel
theorem dd_245_65 : decode prog_14_method_31_code 65 = .ok (.dup_x1, 1) := by decide +kernel
theorem dd_245_66 : decode prog_14_method_31_code 66 = .ok (.iconst 1, 1) := by decide +kernel
theorem dd_245_67 : decode prog_14_method_31_code 67 = .ok (.iadd, 1) := by decide +kernel
theorem dd_245_68 : decode prog_14_method_31_code 68 = .ok (.putfield 79, 3) := by decide +kernel
theorem dd_245_71 : decode prog_14_method_31_code 71 = .ok (.iload_n 1, 1) := by decide +kernel
theorem dd_245_75 : decode prog_14_method_31_code 75 = .ok (.aload_n 0, 1) := by decide +kernel
theorem dd_245_76 : decode prog_14_method_31_code 76 = .ok (.areturn, 1) := by decide +kernel
set_option maxRecDepth 100000 in
theorem okI_245 : mj_okI gG "java/lang/AbstractStringBuilder" prog_14_method_31_code 2 (mj_off oM_245) (Option.some (Jvm.ClassFile.FieldType.object "java/lang/AbstractStringBuilder")) false true 0 cM_245 :=
  ⟨Or.inl ⟨0, rfl, dd_245_0, rfl⟩,
   Or.inl ⟨0, rfl, dd_245_1, rfl⟩,
   ⟨79, "java/lang/StringBuilder", fT9, 4, dd_245_2, rfl, okc_9, by decide, tw_1082⟩,
   Or.inl (Or.inl ⟨dd_245_5, rfl⟩),
   ⟨dd_245_6, rfl⟩,
   ⟨rfl, tw_1131, by decide, tw_1069, by decide +kernel, 100, tw_1132, dd_245_7, tw_1133, ⟨"java/lang/StringBuilder", fT9, 4, rfl, tw_1134⟩, by decide +kernel⟩,
   Or.inl ⟨0, rfl, dd_245_10, rfl⟩,
   ⟨rfl, tw_1135, by decide, tw_1069, by decide +kernel, 83, tw_1136, dd_245_11, tw_1137, ⟨"java/lang/StringBuilder", fT9, 4, rfl, tw_1138⟩, by decide +kernel⟩,
   ⟨31, dd_245_14, rfl, rfl⟩,
   Or.inl ⟨1, rfl, dd_245_17, rfl⟩,
   ⟨rfl, tw_1164, by decide, tw_1110, by decide +kernel, 191, tw_1165, dd_245_18, tw_1166, by decide +kernel⟩,
   ⟨24, dd_245_21, rfl, rfl⟩,
   Or.inl ⟨0, rfl, dd_245_24, rfl⟩,
   ⟨15, "java/lang/StringBuilder", fT9, 4, dd_245_25, rfl, okc_9, by decide, tw_1075⟩,
   Or.inl ⟨0, rfl, dd_245_28, rfl⟩,
   ⟨dd_245_29, rfl⟩,
   ⟨79, "java/lang/StringBuilder", fT9, 4, dd_245_30, rfl, okc_9, by decide, tw_1082⟩,
   ⟨dd_245_33, rfl⟩,
   Or.inl (Or.inl ⟨dd_245_34, rfl⟩),
   ⟨dd_245_35, rfl⟩,
   ⟨79, "java/lang/StringBuilder", fT9, 4, dd_245_36, rfl, okc_9, by decide, tw_1082, rfl, Or.inl rfl⟩,
   Or.inl ⟨1, rfl, dd_245_39, rfl⟩,
   ⟨dd_245_40, rfl⟩,
   ⟨dd_245_41, rfl⟩,
   ⟨33, dd_245_42, rfl⟩,
   Or.inl ⟨0, rfl, dd_245_45, rfl⟩,
   ⟨rfl, tw_1135, by decide, tw_1069, by decide +kernel, 83, tw_1136, dd_245_46, tw_1137, ⟨"java/lang/StringBuilder", fT9, 4, rfl, tw_1138⟩, by decide +kernel⟩,
   ⟨7, dd_245_49, rfl, rfl⟩,
   Or.inl ⟨0, rfl, dd_245_52, rfl⟩,
   trivial,
   Or.inl ⟨0, rfl, dd_245_56, rfl⟩,
   ⟨15, "java/lang/StringBuilder", fT9, 4, dd_245_57, rfl, okc_9, by decide, tw_1075⟩,
   Or.inl ⟨0, rfl, dd_245_60, rfl⟩,
   ⟨dd_245_61, rfl⟩,
   ⟨79, "java/lang/StringBuilder", fT9, 4, dd_245_62, rfl, okc_9, by decide, tw_1082⟩,
   ⟨dd_245_65, rfl⟩,
   Or.inl (Or.inl ⟨dd_245_66, rfl⟩),
   ⟨dd_245_67, rfl⟩,
   ⟨79, "java/lang/StringBuilder", fT9, 4, dd_245_68, rfl, okc_9, by decide, tw_1082, rfl, Or.inl rfl⟩,
   Or.inl ⟨1, rfl, dd_245_71, rfl⟩,
   trivial,
   Or.inl ⟨0, rfl, dd_245_75, rfl⟩,
   ⟨dd_245_76, _, rfl, rfl⟩, trivial⟩
theorem okM_245 : mj_okE gG 245 (cM_245, 2, oM_245, hM_245) := ⟨rfl, rfl, by decide +kernel, trivial, okI_245⟩
theorem dd_246_0 : decode prog_25_method_3_code 0 = .ok (.iload_n 0, 1) := by decide +kernel
theorem dd_246_1 : decode prog_25_method_3_code 1 = .ok (.sipush 255, 3) := by decide +kernel
theorem dd_246_4 : decode prog_25_method_3_code 4 = .ok (.if_icmp .gt 7, 3) := by decide +kernel
theorem dd_246_7 : decode prog_25_method_3_code 7 = .ok (.iconst 1, 1) := by decide +kernel
theorem dd_246_8 : decode prog_25_method_3_code 8 = .ok (.goto 4, 3) := by decide +kernel
theorem dd_246_11 : decode prog_25_method_3_code 11 = .ok (.iconst 0, 1) := by decide +kernel
theorem dd_246_12 : decode prog_25_method_3_code 12 = .ok (.ireturn, 1) := by decide +kernel
set_option maxRecDepth 100000 in
theorem okI_246 : mj_okI gG "java/lang/StringLatin1" prog_25_method_3_code 1 (mj_off oM_246) (Option.some Jvm.ClassFile.FieldType.boolean) false true 0 cM_246 :=
  ⟨Or.inl ⟨0, rfl, dd_246_0, rfl⟩,
   Or.inl (Or.inr (Or.inr (Or.inl ⟨dd_246_1, rfl, by decide⟩))),
   ⟨7, dd_246_4, rfl, rfl⟩,
   Or.inl (Or.inl ⟨dd_246_7, rfl⟩),
   ⟨4, dd_246_8, rfl⟩,
   Or.inl (Or.inl ⟨dd_246_11, rfl⟩),
   ⟨dd_246_12, rfl⟩, trivial⟩
theorem okM_246 : mj_okE gG 246 (cM_246, 1, oM_246, hM_246) := ⟨rfl, rfl, by decide +kernel, trivial, okI_246⟩
theorem dd_247_0 : decode prog_24_method_15_code 0 = .ok (.aload_n 0, 1) := by decide +kernel
theorem dd_247_1 : decode prog_24_method_15_code 1 = .ok (.iload_n 1, 1) := by decide +kernel
theorem dd_247_2 : decode prog_24_method_15_code 2 = .ok (.invokespecial 53, 3) := by decide +kernel
theorem dd_247_5 : decode prog_24_method_15_code 5 = .ok (.pop, 1) := by decide +kernel
theorem dd_247_6 : decode prog_24_method_15_code 6 = .ok (.aload_n 0, 1) := by decide +kernel
theorem dd_247_7 : decode prog_24_method_15_code 7 = .ok (.areturn, 1) := by decide +kernel
set_option maxRecDepth 100000 in
theorem okI_247 : mj_okI gG "java/lang/StringBuilder" prog_24_method_15_code 2 (mj_off oM_247) (Option.some (Jvm.ClassFile.FieldType.object "java/lang/StringBuilder")) false true 0 cM_247 :=
  ⟨Or.inl ⟨0, rfl, dd_247_0, rfl⟩,
   Or.inl ⟨1, rfl, dd_247_1, rfl⟩,
   ⟨rfl, tw_1167, by decide, tw_1069, by decide +kernel, 53, tw_1168, dd_247_2, tw_1169, tw_1170, tw_1081, by decide, ⟨"java/lang/StringBuilder", fT9, 4, rfl, tw_737⟩, by decide +kernel⟩,
   ⟨dd_247_5, rfl⟩,
   Or.inl ⟨0, rfl, dd_247_6, rfl⟩,
   ⟨dd_247_7, _, rfl, rfl⟩, trivial⟩
theorem okM_247 : mj_okE gG 247 (cM_247, 2, oM_247, hM_247) := ⟨rfl, rfl, by decide +kernel, trivial, okI_247⟩
theorem dd_248_0 : decode prog_14_method_32_code 0 = .ok (.aload_n 0, 1) := by decide +kernel
theorem dd_248_1 : decode prog_14_method_32_code 1 = .ok (.getfield 79, 3) := by decide +kernel
theorem dd_248_4 : decode prog_14_method_32_code 4 = .ok (.istore_n 2, 1) := by decide +kernel
theorem dd_248_5 : decode prog_14_method_32_code 5 = .ok (.iload_n 2, 1) := by decide +kernel
theorem dd_248_6 : decode prog_14_method_32_code 6 = .ok (.iload_n 1, 1) := by decide +kernel
theorem dd_248_7 : decode prog_14_method_32_code 7 = .ok (.invokestatic 245, 3) := by decide +kernel
theorem dd_248_10 : decode prog_14_method_32_code 10 = .ok (.iadd, 1) := by decide +kernel
theorem dd_248_11 : decode prog_14_method_32_code 11 = .ok (.istore_n 3, 1) := by decide +kernel
theorem dd_248_12 : decode prog_14_method_32_code 12 = .ok (.aload_n 0, 1) := by decide +kernel
theorem dd_248_13 : decode prog_14_method_32_code 13 = .ok (.iload_n 3, 1) := by decide +kernel
theorem dd_248_14 : decode prog_14_method_32_code 14 = .ok (.invokevirtual 100, 3) := by decide +kernel
theorem dd_248_17 : decode prog_14_method_32_code 17 = .ok (.aload_n 0, 1) := by decide +kernel
theorem dd_248_18 : decode prog_14_method_32_code 18 = .ok (.invokevirtual 83, 3) := by decide +kernel
theorem dd_248_21 : decode prog_14_method_32_code 21 = .ok (.ifCond .eq 16, 3) := by decide +kernel
theorem dd_248_24 : decode prog_14_method_32_code 24 = .ok (.iload_n 1, 1) := by decide +kernel
theorem dd_248_25 : decode prog_14_method_32_code 25 = .ok (.iload_n 3, 1) := by decide +kernel
theorem dd_248_26 : decode prog_14_method_32_code 26 = .ok (.aload_n 0, 1) := by decide +kernel
theorem dd_248_27 : decode prog_14_method_32_code 27 = .ok (.getfield 15, 3) := by decide +kernel
theorem dd_248_30 : decode prog_14_method_32_code 30 = .ok (.invokestatic 248, 3) := by decide +kernel
theorem dd_248_33 : decode prog_14_method_32_code 33 = .ok (.pop, 1) := by decide +kernel
theorem dd_248_34 : decode prog_14_method_32_code 34 = .ok (.goto 14, 3) := by decide +kernel
theorem dd_248_37 : decode prog_14_method_32_code 37 = .ok (.iload_n 1, 1) := by decide +kernel
theorem dd_248_38 : decode prog_14_method_32_code 38 = .ok (.iload_n 2, 1) := by decide +kernel
theorem dd_248_39 : decode prog_14_method_32_code 39 = .ok (.iload_n 3, 1) := by decide +kernel
theorem dd_248_40 : decode prog_14_method_32_code 40 = .ok (.aload_n 0, 1) := by decide +kernel
theorem dd_248_41 : decode prog_14_method_32_code 41 = .ok (.getfield 15, 3) := by decide +kernel
theorem dd_248_47 : decode prog_14_method_32_code 47 = .ok (.pop, 1) := by decide +kernel
theorem dd_248_48 : decode prog_14_method_32_code 48 = .ok (.aload_n 0, 1) := by decide +kernel
theorem dd_248_49 : decode prog_14_method_32_code 49 = .ok (.iload_n 3, 1) := by decide +kernel
theorem dd_248_50 : decode prog_14_method_32_code 50 = .ok (.putfield 79, 3) := by decide +kernel
theorem dd_248_53 : decode prog_14_method_32_code 53 = .ok (.aload_n 0, 1) := by decide +kernel
theorem dd_248_54 : decode prog_14_method_32_code 54 = .ok (.areturn, 1) := by decide +kernel
set_option maxRecDepth 100000 in
theorem okI_248 : mj_okI gG "java/lang/AbstractStringBuilder" prog_14_method_32_code 4 (mj_off oM_248) (Option.some (Jvm.ClassFile.FieldType.object "java/lang/AbstractStringBuilder")) false true 0 cM_248 :=
  ⟨Or.inl ⟨0, rfl, dd_248_0, rfl⟩,
   ⟨79, "java/lang/StringBuilder", fT9, 4, dd_248_1, rfl, okc_9, by decide, tw_1082⟩,
   ⟨by decide, Or.inl ⟨2, rfl, dd_248_4, rfl⟩⟩,
   Or.inl ⟨2, rfl, dd_248_5, rfl⟩,
   Or.inl ⟨1, rfl, dd_248_6, rfl⟩,
   ⟨rfl, tw_1171, by decide, tw_1172, by decide +kernel, 245, tw_1173, dd_248_7, tw_1174, by decide +kernel⟩,
   ⟨dd_248_10, rfl⟩,
   ⟨by decide, Or.inl ⟨3, rfl, dd_248_11, rfl⟩⟩,
   Or.inl ⟨0, rfl, dd_248_12, rfl⟩,
   Or.inl ⟨3, rfl, dd_248_13, rfl⟩,
   ⟨rfl, tw_1131, by decide, tw_1069, by decide +kernel, 100, tw_1132, dd_248_14, tw_1133, ⟨"java/lang/StringBuilder", fT9, 4, rfl, tw_1134⟩, by decide +kernel⟩,
   Or.inl ⟨0, rfl, dd_248_17, rfl⟩,
   ⟨rfl, tw_1135, by decide, tw_1069, by decide +kernel, 83, tw_1136, dd_248_18, tw_1137, ⟨"java/lang/StringBuilder", fT9, 4, rfl, tw_1138⟩, by decide +kernel⟩,
   ⟨16, dd_248_21, rfl, rfl⟩,
   Or.inl ⟨1, rfl, dd_248_24, rfl⟩,
   Or.inl ⟨3, rfl, dd_248_25, rfl⟩,
   Or.inl ⟨0, rfl, dd_248_26, rfl⟩,
   ⟨15, "java/lang/StringBuilder", fT9, 4, dd_248_27, rfl, okc_9, by decide, tw_1075⟩,
   ⟨rfl, tw_1175, by decide, tw_1172, by decide +kernel, 248, tw_1176, dd_248_30, tw_1177, by decide +kernel⟩,
   ⟨dd_248_33, rfl⟩,
   ⟨14, dd_248_34, rfl⟩,
   Or.inl ⟨1, rfl, dd_248_37, rfl⟩,
   Or.inl ⟨2, rfl, dd_248_38, rfl⟩,
   Or.inl ⟨3, rfl, dd_248_39, rfl⟩,
   Or.inl ⟨0, rfl, dd_248_40, rfl⟩,
   ⟨15, "java/lang/StringBuilder", fT9, 4, dd_248_41, rfl, okc_9, by decide, tw_1075⟩,
   trivial,
   ⟨dd_248_47, rfl⟩,
   Or.inl ⟨0, rfl, dd_248_48, rfl⟩,
   Or.inl ⟨3, rfl, dd_248_49, rfl⟩,
   ⟨79, "java/lang/StringBuilder", fT9, 4, dd_248_50, rfl, okc_9, by decide, tw_1082, rfl, Or.inl rfl⟩,
   Or.inl ⟨0, rfl, dd_248_53, rfl⟩,
   ⟨dd_248_54, _, rfl, rfl⟩, trivial⟩
theorem okM_248 : mj_okE gG 248 (cM_248, 4, oM_248, hM_248) := ⟨rfl, rfl, by decide +kernel, trivial, okI_248⟩
theorem dd_249_0 : decode prog_20_method_13_code 0 = .ok (.iconst 1, 1) := by decide +kernel
theorem dd_249_1 : decode prog_20_method_13_code 1 = .ok (.istore_n 1, 1) := by decide +kernel
theorem dd_249_2 : decode prog_20_method_13_code 2 = .ok (.iload_n 0, 1) := by decide +kernel
theorem dd_249_3 : decode prog_20_method_13_code 3 = .ok (.ifCond .lt 8, 3) := by decide +kernel
theorem dd_249_6 : decode prog_20_method_13_code 6 = .ok (.iconst 0, 1) := by decide +kernel
theorem dd_249_7 : decode prog_20_method_13_code 7 = .ok (.istore_n 1, 1) := by decide +kernel
theorem dd_249_8 : decode prog_20_method_13_code 8 = .ok (.iload_n 0, 1) := by decide +kernel
theorem dd_249_9 : decode prog_20_method_13_code 9 = .ok (.ineg, 1) := by decide +kernel
theorem dd_249_10 : decode prog_20_method_13_code 10 = .ok (.istore_n 0, 1) := by decide +kernel
theorem dd_249_11 : decode prog_20_method_13_code 11 = .ok (.bipush (-10), 2) := by decide +kernel
theorem dd_249_13 : decode prog_20_method_13_code 13 = .ok (.istore_n 2, 1) := by decide +kernel
theorem dd_249_14 : decode prog_20_method_13_code 14 = .ok (.iconst 1, 1) := by decide +kernel
theorem dd_249_15 : decode prog_20_method_13_code 15 = .ok (.istore_n 3, 1) := by decide +kernel
theorem dd_249_16 : decode prog_20_method_13_code 16 = .ok (.iload_n 3, 1) := by decide +kernel
theorem dd_249_17 : decode prog_20_method_13_code 17 = .ok (.bipush 10, 2) := by decide +kernel
theorem dd_249_19 : decode prog_20_method_13_code 19 = .ok (.if_icmp .ge 23, 3) := by decide +kernel
theorem dd_249_22 : decode prog_20_method_13_code 22 = .ok (.iload_n 0, 1) := by decide +kernel
theorem dd_249_23 : decode prog_20_method_13_code 23 = .ok (.iload_n 2, 1) := by decide +kernel
theorem dd_249_24 : decode prog_20_method_13_code 24 = .ok (.if_icmp .le 7, 3) := by decide +kernel
theorem dd_249_27 : decode prog_20_method_13_code 27 = .ok (.iload_n 3, 1) := by decide +kernel
theorem dd_249_28 : decode prog_20_method_13_code 28 = .ok (.iload_n 1, 1) := by decide +kernel
theorem dd_249_29 : decode prog_20_method_13_code 29 = .ok (.iadd, 1) := by decide +kernel
theorem dd_249_30 : decode prog_20_method_13_code 30 = .ok (.ireturn, 1) := by decide +kernel
theorem dd_249_31 : decode prog_20_method_13_code 31 = .ok (.bipush 10, 2) := by decide +kernel
theorem dd_249_33 : decode prog_20_method_13_code 33 = .ok (.iload_n 2, 1) := by decide +kernel
theorem dd_249_34 : decode prog_20_method_13_code 34 = .ok (.imul, 1) := by decide +kernel
theorem dd_249_35 : decode prog_20_method_13_code 35 = .ok (.istore_n 2, 1) := by decide +kernel
theorem dd_249_36 : decode prog_20_method_13_code 36 = .ok (.iinc 3 1, 3) := by decide +kernel
theorem dd_249_39 : decode prog_20_method_13_code 39 = .ok (.goto (-23), 3) := by decide +kernel
theorem dd_249_42 : decode prog_20_method_13_code 42 = .ok (.bipush 10, 2) := by decide +kernel
theorem dd_249_44 : decode prog_20_method_13_code 44 = .ok (.iload_n 1, 1) := by decide +kernel
theorem dd_249_45 : decode prog_20_method_13_code 45 = .ok (.iadd, 1) := by decide +kernel
theorem dd_249_46 : decode prog_20_method_13_code 46 = .ok (.ireturn, 1) := by decide +kernel
set_option maxRecDepth 100000 in
theorem okI_249 : mj_okI gG "java/lang/Integer" prog_20_method_13_code 4 (mj_off oM_249) (Option.some Jvm.ClassFile.FieldType.int) false true 0 cM_249 :=
  ⟨Or.inl (Or.inl ⟨dd_249_0, rfl⟩),
   ⟨by decide, Or.inl ⟨1, rfl, dd_249_1, rfl⟩⟩,
   Or.inl ⟨0, rfl, dd_249_2, rfl⟩,
   ⟨8, dd_249_3, rfl, rfl⟩,
   Or.inl (Or.inl ⟨dd_249_6, rfl⟩),
   ⟨by decide, Or.inl ⟨1, rfl, dd_249_7, rfl⟩⟩,
   Or.inl ⟨0, rfl, dd_249_8, rfl⟩,
   ⟨dd_249_9, rfl⟩,
   ⟨by decide, Or.inl ⟨0, rfl, dd_249_10, rfl⟩⟩,
   Or.inl (Or.inr (Or.inl ⟨dd_249_11, rfl, by decide⟩)),
   ⟨by decide, Or.inl ⟨2, rfl, dd_249_13, rfl⟩⟩,
   Or.inl (Or.inl ⟨dd_249_14, rfl⟩),
   ⟨by decide, Or.inl ⟨3, rfl, dd_249_15, rfl⟩⟩,
   Or.inl ⟨3, rfl, dd_249_16, rfl⟩,
   Or.inl (Or.inr (Or.inl ⟨dd_249_17, rfl, by decide⟩)),
   ⟨23, dd_249_19, rfl, rfl⟩,
   Or.inl ⟨0, rfl, dd_249_22, rfl⟩,
   Or.inl ⟨2, rfl, dd_249_23, rfl⟩,
   ⟨7, dd_249_24, rfl, rfl⟩,
   Or.inl ⟨3, rfl, dd_249_27, rfl⟩,
   Or.inl ⟨1, rfl, dd_249_28, rfl⟩,
   ⟨dd_249_29, rfl⟩,
   ⟨dd_249_30, rfl⟩,
   Or.inl (Or.inr (Or.inl ⟨dd_249_31, rfl, by decide⟩)),
   Or.inl ⟨2, rfl, dd_249_33, rfl⟩,
   ⟨dd_249_34, rfl⟩,
   ⟨by decide, Or.inl ⟨2, rfl, dd_249_35, rfl⟩⟩,
   ⟨by decide, dd_249_36, rfl⟩,
   ⟨(-23), dd_249_39, rfl⟩,
   Or.inl (Or.inr (Or.inl ⟨dd_249_42, rfl, by decide⟩)),
   Or.inl ⟨1, rfl, dd_249_44, rfl⟩,
   ⟨dd_249_45, rfl⟩,
   ⟨dd_249_46, rfl⟩, trivial⟩
theorem okM_249 : mj_okE gG 249 (cM_249, 4, oM_249, hM_249) := ⟨rfl, rfl, by decide +kernel, trivial, okI_249⟩
theorem dd_250_0 : decode prog_20_method_12_code 0 = .ok (.iload_n 1, 1) := by decide +kernel
theorem dd_250_1 : decode prog_20_method_12_code 1 = .ok (.istore 5, 2) := by decide +kernel
theorem dd_250_3 : decode prog_20_method_12_code 3 = .ok (.iload_n 0, 1) := by decide +kernel
theorem dd_250_4 : decode prog_20_method_12_code 4 = .ok (.ifCond .ge 7, 3) := by decide +kernel
theorem dd_250_7 : decode prog_20_method_12_code 7 = .ok (.iconst 1, 1) := by decide +kernel
theorem dd_250_8 : decode prog_20_method_12_code 8 = .ok (.goto 4, 3) := by decide +kernel
theorem dd_250_11 : decode prog_20_method_12_code 11 = .ok (.iconst 0, 1) := by decide +kernel
theorem dd_250_12 : decode prog_20_method_12_code 12 = .ok (.istore 6, 2) := by decide +kernel
theorem dd_250_14 : decode prog_20_method_12_code 14 = .ok (.iload 6, 2) := by decide +kernel
theorem dd_250_16 : decode prog_20_method_12_code 16 = .ok (.ifCond .ne 6, 3) := by decide +kernel
theorem dd_250_19 : decode prog_20_method_12_code 19 = .ok (.iload_n 0, 1) := by decide +kernel
theorem dd_250_20 : decode prog_20_method_12_code 20 = .ok (.ineg, 1) := by decide +kernel
theorem dd_250_21 : decode prog_20_method_12_code 21 = .ok (.istore_n 0, 1) := by decide +kernel
theorem dd_250_22 : decode prog_20_method_12_code 22 = .ok (.iload_n 0, 1) := by decide +kernel
theorem dd_250_23 : decode prog_20_method_12_code 23 = .ok (.bipush (-100), 2) := by decide +kernel
theorem dd_250_25 : decode prog_20_method_12_code 25 = .ok (.if_icmp .gt 47, 3) := by decide +kernel
theorem dd_250_28 : decode prog_20_method_12_code 28 = .ok (.iload_n 0, 1) := by decide +kernel
theorem dd_250_29 : decode prog_20_method_12_code 29 = .ok (.bipush 100, 2) := by decide +kernel
theorem dd_250_31 : decode prog_20_method_12_code 31 = .ok (.idiv, 1) := by decide +kernel
theorem dd_250_32 : decode prog_20_method_12_code 32 = .ok (.istore_n 3, 1) := by decide +kernel
theorem dd_250_33 : decode prog_20_method_12_code 33 = .ok (.iload_n 3, 1) := by decide +kernel
theorem dd_250_34 : decode prog_20_method_12_code 34 = .ok (.bipush 100, 2) := by decide +kernel
theorem dd_250_36 : decode prog_20_method_12_code 36 = .ok (.imul, 1) := by decide +kernel
theorem dd_250_37 : decode prog_20_method_12_code 37 = .ok (.iload_n 0, 1) := by decide +kernel
theorem dd_250_38 : decode prog_20_method_12_code 38 = .ok (.isub, 1) := by decide +kernel
theorem dd_250_39 : decode prog_20_method_12_code 39 = .ok (.istore 4, 2) := by decide +kernel
theorem dd_250_41 : decode prog_20_method_12_code 41 = .ok (.iload_n 3, 1) := by decide +kernel
theorem dd_250_42 : decode prog_20_method_12_code 42 = .ok (.istore_n 0, 1) := by decide +kernel
theorem dd_250_43 : decode prog_20_method_12_code 43 = .ok (.aload_n 2, 1) := by decide +kernel
theorem dd_250_44 : decode prog_20_method_12_code 44 = .ok (.iinc 5 (-1), 3) := by decide +kernel
theorem dd_250_47 : decode prog_20_method_12_code 47 = .ok (.iload 5, 2) := by decide +kernel
theorem dd_250_49 : decode prog_20_method_12_code 49 = .ok (.getstatic 83, 3) := by decide +kernel
theorem dd_250_52 : decode prog_20_method_12_code 52 = .ok (.iload 4, 2) := by decide +kernel
theorem dd_250_54 : decode prog_20_method_12_code 54 = .ok (.baload, 1) := by decide +kernel
theorem dd_250_55 : decode prog_20_method_12_code 55 = .ok (.bastore, 1) := by decide +kernel
theorem dd_250_56 : decode prog_20_method_12_code 56 = .ok (.aload_n 2, 1) := by decide +kernel
theorem dd_250_57 : decode prog_20_method_12_code 57 = .ok (.iinc 5 (-1), 3) := by decide +kernel
theorem dd_250_60 : decode prog_20_method_12_code 60 = .ok (.iload 5, 2) := by decide +kernel
theorem dd_250_62 : decode prog_20_method_12_code 62 = .ok (.getstatic 87, 3) := by decide +kernel
theorem dd_250_65 : decode prog_20_method_12_code 65 = .ok (.iload 4, 2) := by decide +kernel
theorem dd_250_67 : decode prog_20_method_12_code 67 = .ok (.baload, 1) := by decide +kernel
theorem dd_250_68 : decode prog_20_method_12_code 68 = .ok (.bastore, 1) := by decide +kernel
theorem dd_250_69 : decode prog_20_method_12_code 69 = .ok (.goto (-47), 3) := by decide +kernel
theorem dd_250_72 : decode prog_20_method_12_code 72 = .ok (.aload_n 2, 1) := by decide +kernel
theorem dd_250_73 : decode prog_20_method_12_code 73 = .ok (.iinc 5 (-1), 3) := by decide +kernel
theorem dd_250_76 : decode prog_20_method_12_code 76 = .ok (.iload 5, 2) := by decide +kernel
theorem dd_250_78 : decode prog_20_method_12_code 78 = .ok (.getstatic 83, 3) := by decide +kernel
theorem dd_250_81 : decode prog_20_method_12_code 81 = .ok (.iload_n 0, 1) := by decide +kernel
theorem dd_250_82 : decode prog_20_method_12_code 82 = .ok (.ineg, 1) := by decide +kernel
theorem dd_250_83 : decode prog_20_method_12_code 83 = .ok (.baload, 1) := by decide +kernel
theorem dd_250_84 : decode prog_20_method_12_code 84 = .ok (.bastore, 1) := by decide +kernel
theorem dd_250_85 : decode prog_20_method_12_code 85 = .ok (.iload_n 0, 1) := by decide +kernel
theorem dd_250_86 : decode prog_20_method_12_code 86 = .ok (.bipush (-9), 2) := by decide +kernel
theorem dd_250_88 : decode prog_20_method_12_code 88 = .ok (.if_icmp .ge 16, 3) := by decide +kernel
theorem dd_250_91 : decode prog_20_method_12_code 91 = .ok (.aload_n 2, 1) := by decide +kernel
theorem dd_250_92 : decode prog_20_method_12_code 92 = .ok (.iinc 5 (-1), 3) := by decide +kernel
theorem dd_250_95 : decode prog_20_method_12_code 95 = .ok (.iload 5, 2) := by decide +kernel
theorem dd_250_97 : decode prog_20_method_12_code 97 = .ok (.getstatic 87, 3) := by decide +kernel
theorem dd_250_100 : decode prog_20_method_12_code 100 = .ok (.iload_n 0, 1) := by decide +kernel
theorem dd_250_101 : decode prog_20_method_12_code 101 = .ok (.ineg, 1) := by decide +kernel
theorem dd_250_102 : decode prog_20_method_12_code 102 = .ok (.baload, 1) := by decide +kernel
theorem dd_250_103 : decode prog_20_method_12_code 103 = .ok (.bastore, 1) := by decide +kernel
theorem dd_250_104 : decode prog_20_method_12_code 104 = .ok (.iload 6, 2) := by decide +kernel
theorem dd_250_106 : decode prog_20_method_12_code 106 = .ok (.ifCond .eq 12, 3) := by decide +kernel
theorem dd_250_109 : decode prog_20_method_12_code 109 = .ok (.aload_n 2, 1) := by decide +kernel
theorem dd_250_110 : decode prog_20_method_12_code 110 = .ok (.iinc 5 (-1), 3) := by decide +kernel
theorem dd_250_113 : decode prog_20_method_12_code 113 = .ok (.iload 5, 2) := by decide +kernel
theorem dd_250_115 : decode prog_20_method_12_code 115 = .ok (.bipush 45, 2) := by decide +kernel
theorem dd_250_117 : decode prog_20_method_12_code 117 = .ok (.bastore, 1) := by decide +kernel
theorem dd_250_118 : decode prog_20_method_12_code 118 = .ok (.iload 5, 2) := by decide +kernel
theorem dd_250_120 : decode prog_20_method_12_code 120 = .ok (.ireturn, 1) := by decide +kernel
set_option maxRecDepth 100000 in
theorem okI_250 : mj_okI gG "java/lang/Integer" prog_20_method_12_code 7 (mj_off oM_250) (Option.some Jvm.ClassFile.FieldType.int) false true 0 cM_250 :=
  ⟨Or.inl ⟨1, rfl, dd_250_0, rfl⟩,
   ⟨by decide, Or.inr ⟨dd_250_1, rfl⟩⟩,
   Or.inl ⟨0, rfl, dd_250_3, rfl⟩,
   ⟨7, dd_250_4, rfl, rfl⟩,
   Or.inl (Or.inl ⟨dd_250_7, rfl⟩),
   ⟨4, dd_250_8, rfl⟩,
   Or.inl (Or.inl ⟨dd_250_11, rfl⟩),
   ⟨by decide, Or.inr ⟨dd_250_12, rfl⟩⟩,
   Or.inr ⟨dd_250_14, rfl⟩,
   ⟨6, dd_250_16, rfl, rfl⟩,
   Or.inl ⟨0, rfl, dd_250_19, rfl⟩,
   ⟨dd_250_20, rfl⟩,
   ⟨by decide, Or.inl ⟨0, rfl, dd_250_21, rfl⟩⟩,
   Or.inl ⟨0, rfl, dd_250_22, rfl⟩,
   Or.inl (Or.inr (Or.inl ⟨dd_250_23, rfl, by decide⟩)),
   ⟨47, dd_250_25, rfl, rfl⟩,
   Or.inl ⟨0, rfl, dd_250_28, rfl⟩,
   Or.inl (Or.inr (Or.inl ⟨dd_250_29, rfl, by decide⟩)),
   ⟨dd_250_31, rfl⟩,
   ⟨by decide, Or.inl ⟨3, rfl, dd_250_32, rfl⟩⟩,
   Or.inl ⟨3, rfl, dd_250_33, rfl⟩,
   Or.inl (Or.inr (Or.inl ⟨dd_250_34, rfl, by decide⟩)),
   ⟨dd_250_36, rfl⟩,
   Or.inl ⟨0, rfl, dd_250_37, rfl⟩,
   ⟨dd_250_38, rfl⟩,
   ⟨by decide, Or.inr ⟨dd_250_39, rfl⟩⟩,
   Or.inl ⟨3, rfl, dd_250_41, rfl⟩,
   ⟨by decide, Or.inl ⟨0, rfl, dd_250_42, rfl⟩⟩,
   Or.inl ⟨2, rfl, dd_250_43, rfl⟩,
   ⟨by decide, dd_250_44, rfl⟩,
   Or.inr ⟨dd_250_47, rfl⟩,
   ⟨83, "java/lang/Integer", "DigitOnes", "[B", dd_250_49, rfl, by decide +kernel, tw_1178⟩,
   Or.inr ⟨dd_250_52, rfl⟩,
   ⟨dd_250_54, rfl⟩,
   ⟨dd_250_55, rfl⟩,
   Or.inl ⟨2, rfl, dd_250_56, rfl⟩,
   ⟨by decide, dd_250_57, rfl⟩,
   Or.inr ⟨dd_250_60, rfl⟩,
   ⟨87, "java/lang/Integer", "DigitTens", "[B", dd_250_62, rfl, by decide +kernel, tw_1179⟩,
   Or.inr ⟨dd_250_65, rfl⟩,
   ⟨dd_250_67, rfl⟩,
   ⟨dd_250_68, rfl⟩,
   ⟨(-47), dd_250_69, rfl⟩,
   Or.inl ⟨2, rfl, dd_250_72, rfl⟩,
   ⟨by decide, dd_250_73, rfl⟩,
   Or.inr ⟨dd_250_76, rfl⟩,
   ⟨83, "java/lang/Integer", "DigitOnes", "[B", dd_250_78, rfl, by decide +kernel, tw_1178⟩,
   Or.inl ⟨0, rfl, dd_250_81, rfl⟩,
   ⟨dd_250_82, rfl⟩,
   ⟨dd_250_83, rfl⟩,
   ⟨dd_250_84, rfl⟩,
   Or.inl ⟨0, rfl, dd_250_85, rfl⟩,
   Or.inl (Or.inr (Or.inl ⟨dd_250_86, rfl, by decide⟩)),
   ⟨16, dd_250_88, rfl, rfl⟩,
   Or.inl ⟨2, rfl, dd_250_91, rfl⟩,
   ⟨by decide, dd_250_92, rfl⟩,
   Or.inr ⟨dd_250_95, rfl⟩,
   ⟨87, "java/lang/Integer", "DigitTens", "[B", dd_250_97, rfl, by decide +kernel, tw_1179⟩,
   Or.inl ⟨0, rfl, dd_250_100, rfl⟩,
   ⟨dd_250_101, rfl⟩,
   ⟨dd_250_102, rfl⟩,
   ⟨dd_250_103, rfl⟩,
   Or.inr ⟨dd_250_104, rfl⟩,
   ⟨12, dd_250_106, rfl, rfl⟩,
   Or.inl ⟨2, rfl, dd_250_109, rfl⟩,
   ⟨by decide, dd_250_110, rfl⟩,
   Or.inr ⟨dd_250_113, rfl⟩,
   Or.inl (Or.inr (Or.inl ⟨dd_250_115, rfl, by decide⟩)),
   ⟨dd_250_117, rfl⟩,
   Or.inr ⟨dd_250_118, rfl⟩,
   ⟨dd_250_120, rfl⟩, trivial⟩
theorem okM_250 : mj_okE gG 250 (cM_250, 7, oM_250, hM_250) := ⟨rfl, rfl, by decide +kernel, trivial, okI_250⟩
theorem dd_251_0 : decode prog_24_method_7_code 0 = .ok (.aload_n 0, 1) := by decide +kernel
theorem dd_251_1 : decode prog_24_method_7_code 1 = .ok (.aload_n 1, 1) := by decide +kernel
theorem dd_251_2 : decode prog_24_method_7_code 2 = .ok (.invokespecial 29, 3) := by decide +kernel
theorem dd_251_5 : decode prog_24_method_7_code 5 = .ok (.pop, 1) := by decide +kernel
theorem dd_251_6 : decode prog_24_method_7_code 6 = .ok (.aload_n 0, 1) := by decide +kernel
theorem dd_251_7 : decode prog_24_method_7_code 7 = .ok (.areturn, 1) := by decide +kernel
set_option maxRecDepth 100000 in
theorem okI_251 : mj_okI gG "java/lang/StringBuilder" prog_24_method_7_code 2 (mj_off oM_251) (Option.some (Jvm.ClassFile.FieldType.object "java/lang/StringBuilder")) false true 0 cM_251 :=
  ⟨Or.inl ⟨0, rfl, dd_251_0, rfl⟩,
   Or.inl ⟨1, rfl, dd_251_1, rfl⟩,
   ⟨rfl, tw_1180, by decide, tw_1069, by decide +kernel, 29, tw_1181, dd_251_2, tw_1182, tw_1183, tw_1081, by decide, ⟨"java/lang/StringBuilder", fT9, 4, rfl, tw_737⟩, by decide +kernel⟩,
   ⟨dd_251_5, rfl⟩,
   Or.inl ⟨0, rfl, dd_251_6, rfl⟩,
   ⟨dd_251_7, _, rfl, rfl⟩, trivial⟩
theorem okM_251 : mj_okE gG 251 (cM_251, 2, oM_251, hM_251) := ⟨rfl, rfl, by decide +kernel, trivial, okI_251⟩
theorem dd_252_0 : decode prog_14_method_22_code 0 = .ok (.aload_n 1, 1) := by decide +kernel
theorem dd_252_1 : decode prog_14_method_22_code 1 = .ok (.ifnonnull 8, 3) := by decide +kernel
theorem dd_252_4 : decode prog_14_method_22_code 4 = .ok (.aload_n 0, 1) := by decide +kernel
theorem dd_252_8 : decode prog_14_method_22_code 8 = .ok (.areturn, 1) := by decide +kernel
theorem dd_252_9 : decode prog_14_method_22_code 9 = .ok (.aload_n 1, 1) := by decide +kernel
theorem dd_252_10 : decode prog_14_method_22_code 10 = .ok (.invokevirtual 32, 3) := by decide +kernel
theorem dd_252_13 : decode prog_14_method_22_code 13 = .ok (.istore_n 2, 1) := by decide +kernel
theorem dd_252_14 : decode prog_14_method_22_code 14 = .ok (.aload_n 0, 1) := by decide +kernel
theorem dd_252_15 : decode prog_14_method_22_code 15 = .ok (.aload_n 0, 1) := by decide +kernel
theorem dd_252_16 : decode prog_14_method_22_code 16 = .ok (.getfield 79, 3) := by decide +kernel
theorem dd_252_19 : decode prog_14_method_22_code 19 = .ok (.iload_n 2, 1) := by decide +kernel
theorem dd_252_20 : decode prog_14_method_22_code 20 = .ok (.iadd, 1) := by decide +kernel
theorem dd_252_21 : decode prog_14_method_22_code 21 = .ok (.invokevirtual 100, 3) := by decide +kernel
theorem dd_252_24 : decode prog_14_method_22_code 24 = .ok (.aload_n 0, 1) := by decide +kernel
theorem dd_252_25 : decode prog_14_method_22_code 25 = .ok (.aload_n 0, 1) := by decide +kernel
theorem dd_252_26 : decode prog_14_method_22_code 26 = .ok (.getfield 79, 3) := by decide +kernel
theorem dd_252_29 : decode prog_14_method_22_code 29 = .ok (.aload_n 1, 1) := by decide +kernel
theorem dd_252_30 : decode prog_14_method_22_code 30 = .ok (.invokevirtual 208, 3) := by decide +kernel
theorem dd_252_33 : decode prog_14_method_22_code 33 = .ok (.aload_n 0, 1) := by decide +kernel
theorem dd_252_34 : decode prog_14_method_22_code 34 = .ok (.dup, 1) := by decide +kernel
theorem dd_252_35 : decode prog_14_method_22_code 35 = .ok (.getfield 79, 3) := by decide +kernel
theorem dd_252_38 : decode prog_14_method_22_code 38 = .ok (.iload_n 2, 1) := by decide +kernel
theorem dd_252_39 : decode prog_14_method_22_code 39 = .ok (.iadd, 1) := by decide +kernel
theorem dd_252_40 : decode prog_14_method_22_code 40 = .ok (.putfield 79, 3) := by decide +kernel
theorem dd_252_43 : decode prog_14_method_22_code 43 = .ok (.aload_n 0, 1) := by decide +kernel
theorem dd_252_44 : decode prog_14_method_22_code 44 = .ok (.areturn, 1) := by decide +kernel
set_option maxRecDepth 100000 in
theorem okI_252 : mj_okI gG "java/lang/AbstractStringBuilder" prog_14_method_22_code 3 (mj_off oM_252) (Option.some (Jvm.ClassFile.FieldType.object "java/lang/AbstractStringBuilder")) false true 0 cM_252 :=
  ⟨Or.inl ⟨1, rfl, dd_252_0, rfl⟩,
   ⟨8, dd_252_1, rfl⟩,
   Or.inl ⟨0, rfl, dd_252_4, rfl⟩,
   trivial,
   ⟨dd_252_8, _, rfl, rfl⟩,
   Or.inl ⟨1, rfl, dd_252_9, rfl⟩,
   ⟨rfl, tw_1105, by decide, tw_788, by decide +kernel, 32, tw_1184, dd_252_10, tw_1107, tw_1108, by decide +kernel⟩,
   ⟨by decide, Or.inl ⟨2, rfl, dd_252_13, rfl⟩⟩,
   Or.inl ⟨0, rfl, dd_252_14, rfl⟩,
   Or.inl ⟨0, rfl, dd_252_15, rfl⟩,
   ⟨79, "java/lang/StringBuilder", fT9, 4, dd_252_16, rfl, okc_9, by decide, tw_1082⟩,
   Or.inl ⟨2, rfl, dd_252_19, rfl⟩,
   ⟨dd_252_20, rfl⟩,
   ⟨rfl, tw_1131, by decide, tw_1069, by decide +kernel, 100, tw_1132, dd_252_21, tw_1133, ⟨"java/lang/StringBuilder", fT9, 4, rfl, tw_1134⟩, by decide +kernel⟩,
   Or.inl ⟨0, rfl, dd_252_24, rfl⟩,
   Or.inl ⟨0, rfl, dd_252_25, rfl⟩,
   ⟨79, "java/lang/StringBuilder", fT9, 4, dd_252_26, rfl, okc_9, by decide, tw_1082⟩,
   Or.inl ⟨1, rfl, dd_252_29, rfl⟩,
   ⟨rfl, tw_1185, by decide, tw_1069, by decide +kernel, 208, tw_1186, dd_252_30, tw_1187, ⟨"java/lang/StringBuilder", fT9, 4, rfl, tw_1188⟩, by decide +kernel⟩,
   Or.inl ⟨0, rfl, dd_252_33, rfl⟩,
   ⟨dd_252_34, rfl⟩,
   ⟨79, "java/lang/StringBuilder", fT9, 4, dd_252_35, rfl, okc_9, by decide, tw_1082⟩,
   Or.inl ⟨2, rfl, dd_252_38, rfl⟩,
   ⟨dd_252_39, rfl⟩,
   ⟨79, "java/lang/StringBuilder", fT9, 4, dd_252_40, rfl, okc_9, by decide, tw_1082, rfl, Or.inl rfl⟩,
   Or.inl ⟨0, rfl, dd_252_43, rfl⟩,
   ⟨dd_252_44, _, rfl, rfl⟩, trivial⟩
theorem okM_252 : mj_okE gG 252 (cM_252, 3, oM_252, hM_252) := ⟨rfl, rfl, by decide +kernel, trivial, okI_252⟩
theorem dd_253_0 : decode prog_14_method_73_code 0 = .ok (.aload_n 0, 1) := by decide +kernel
theorem dd_253_1 : decode prog_14_method_73_code 1 = .ok (.aload_n 2, 1) := by decide +kernel
theorem dd_253_2 : decode prog_14_method_73_code 2 = .ok (.invokevirtual 397, 3) := by decide +kernel
theorem dd_253_5 : decode prog_14_method_73_code 5 = .ok (.aload_n 2, 1) := by decide +kernel
theorem dd_253_6 : decode prog_14_method_73_code 6 = .ok (.aload_n 0, 1) := by decide +kernel
theorem dd_253_7 : decode prog_14_method_73_code 7 = .ok (.getfield 15, 3) := by decide +kernel
theorem dd_253_10 : decode prog_14_method_73_code 10 = .ok (.iload_n 1, 1) := by decide +kernel
theorem dd_253_11 : decode prog_14_method_73_code 11 = .ok (.aload_n 0, 1) := by decide +kernel
theorem dd_253_12 : decode prog_14_method_73_code 12 = .ok (.getfield 22, 3) := by decide +kernel
theorem dd_253_15 : decode prog_14_method_73_code 15 = .ok (.invokevirtual 399, 3) := by decide +kernel
theorem dd_253_18 : decode prog_14_method_73_code 18 = .ok (.return_, 1) := by decide +kernel
set_option maxRecDepth 100000 in
theorem okI_253 : mj_okI gG "java/lang/AbstractStringBuilder" prog_14_method_73_code 3 (mj_off oM_253) (Option.none : Option Jvm.ClassFile.FieldType) false true 0 cM_253 :=
  ⟨Or.inl ⟨0, rfl, dd_253_0, rfl⟩,
   Or.inl ⟨2, rfl, dd_253_1, rfl⟩,
   ⟨rfl, tw_1189, by decide, tw_1069, by decide +kernel, 397, tw_1190, dd_253_2, tw_1191, ⟨"java/lang/StringBuilder", fT9, 4, rfl, tw_1192⟩, by decide +kernel⟩,
   Or.inl ⟨2, rfl, dd_253_5, rfl⟩,
   Or.inl ⟨0, rfl, dd_253_6, rfl⟩,
   ⟨15, "java/lang/StringBuilder", fT9, 4, dd_253_7, rfl, okc_9, by decide, tw_1075⟩,
   Or.inl ⟨1, rfl, dd_253_10, rfl⟩,
   Or.inl ⟨0, rfl, dd_253_11, rfl⟩,
   ⟨22, "java/lang/StringBuilder", fT9, 4, dd_253_12, rfl, okc_9, by decide, tw_1076⟩,
   ⟨rfl, tw_1193, by decide, tw_788, by decide +kernel, 399, tw_1194, dd_253_15, tw_1195, tw_1196, by decide +kernel⟩,
   ⟨dd_253_18, rfl⟩, trivial⟩
theorem okM_253 : mj_okE gG 253 (cM_253, 3, oM_253, hM_253) := ⟨rfl, rfl, by decide +kernel, trivial, okI_253⟩
theorem dd_254_0 : decode prog_14_method_71_code 0 = .ok (.getstatic 18, 3) := by decide +kernel
theorem dd_254_3 : decode prog_14_method_71_code 3 = .ok (.ifCond .eq 18, 3) := by decide +kernel
theorem dd_254_6 : decode prog_14_method_71_code 6 = .ok (.aload_n 0, 1) := by decide +kernel
theorem dd_254_7 : decode prog_14_method_71_code 7 = .ok (.getfield 22, 3) := by decide +kernel
theorem dd_254_10 : decode prog_14_method_71_code 10 = .ok (.aload_n 1, 1) := by decide +kernel
theorem dd_254_11 : decode prog_14_method_71_code 11 = .ok (.invokevirtual 40, 3) := by decide +kernel
theorem dd_254_14 : decode prog_14_method_71_code 14 = .ok (.if_icmp .eq 7, 3) := by decide +kernel
theorem dd_254_17 : decode prog_14_method_71_code 17 = .ok (.aload_n 0, 1) := by decide +kernel
theorem dd_254_21 : decode prog_14_method_71_code 21 = .ok (.return_, 1) := by decide +kernel
set_option maxRecDepth 100000 in
theorem okI_254 : mj_okI gG "java/lang/AbstractStringBuilder" prog_14_method_71_code 2 (mj_off oM_254) (Option.none : Option Jvm.ClassFile.FieldType) false true 0 cM_254 :=
  ⟨Or.inr ⟨18, "java/lang/String", "COMPACT_STRINGS", "Z", dd_254_0, rfl, by decide +kernel, tw_1073⟩,
   ⟨18, dd_254_3, rfl, rfl⟩,
   Or.inl ⟨0, rfl, dd_254_6, rfl⟩,
   ⟨22, "java/lang/StringBuilder", fT9, 4, dd_254_7, rfl, okc_9, by decide, tw_1076⟩,
   Or.inl ⟨1, rfl, dd_254_10, rfl⟩,
   ⟨rfl, tw_1115, by decide, tw_788, by decide +kernel, 40, tw_1197, dd_254_11, tw_1117, tw_1118, by decide +kernel⟩,
   ⟨7, dd_254_14, rfl, rfl⟩,
   Or.inl ⟨0, rfl, dd_254_17, rfl⟩,
   trivial,
   ⟨dd_254_21, rfl⟩, trivial⟩
theorem okM_254 : mj_okE gG 254 (cM_254, 2, oM_254, hM_254) := ⟨rfl, rfl, by decide +kernel, trivial, okI_254⟩
theorem dd_255_0 : decode prog_23_method_147_code 0 = .ok (.aload_n 0, 1) := by decide +kernel
theorem dd_255_1 : decode prog_23_method_147_code 1 = .ok (.invokevirtual 335, 3) := by decide +kernel
theorem dd_255_4 : decode prog_23_method_147_code 4 = .ok (.iload_n 3, 1) := by decide +kernel
theorem dd_255_5 : decode prog_23_method_147_code 5 = .ok (.if_icmp .ne 23, 3) := by decide +kernel
theorem dd_255_8 : decode prog_23_method_147_code 8 = .ok (.aload_n 0, 1) := by decide +kernel
theorem dd_255_9 : decode prog_23_method_147_code 9 = .ok (.getfield 9, 3) := by decide +kernel
theorem dd_255_12 : decode prog_23_method_147_code 12 = .ok (.iconst 0, 1) := by decide +kernel
theorem dd_255_13 : decode prog_23_method_147_code 13 = .ok (.aload_n 1, 1) := by decide +kernel
theorem dd_255_14 : decode prog_23_method_147_code 14 = .ok (.iload_n 2, 1) := by decide +kernel
theorem dd_255_15 : decode prog_23_method_147_code 15 = .ok (.iload_n 3, 1) := by decide +kernel
theorem dd_255_16 : decode prog_23_method_147_code 16 = .ok (.ishl, 1) := by decide +kernel
theorem dd_255_17 : decode prog_23_method_147_code 17 = .ok (.aload_n 0, 1) := by decide +kernel
theorem dd_255_18 : decode prog_23_method_147_code 18 = .ok (.getfield 9, 3) := by decide +kernel
theorem dd_255_21 : decode prog_23_method_147_code 21 = .ok (.arraylength, 1) := by decide +kernel
theorem dd_255_22 : decode prog_23_method_147_code 22 = .ok (.invokestatic 212, 3) := by decide +kernel
theorem dd_255_25 : decode prog_23_method_147_code 25 = .ok (.goto 18, 3) := by decide +kernel
theorem dd_255_28 : decode prog_23_method_147_code 28 = .ok (.aload_n 0, 1) := by decide +kernel
theorem dd_255_29 : decode prog_23_method_147_code 29 = .ok (.getfield 9, 3) := by decide +kernel
theorem dd_255_32 : decode prog_23_method_147_code 32 = .ok (.iconst 0, 1) := by decide +kernel
theorem dd_255_33 : decode prog_23_method_147_code 33 = .ok (.aload_n 1, 1) := by decide +kernel
theorem dd_255_34 : decode prog_23_method_147_code 34 = .ok (.iload_n 2, 1) := by decide +kernel
theorem dd_255_35 : decode prog_23_method_147_code 35 = .ok (.aload_n 0, 1) := by decide +kernel
theorem dd_255_36 : decode prog_23_method_147_code 36 = .ok (.getfield 9, 3) := by decide +kernel
theorem dd_255_39 : decode prog_23_method_147_code 39 = .ok (.arraylength, 1) := by decide +kernel
theorem dd_255_43 : decode prog_23_method_147_code 43 = .ok (.return_, 1) := by decide +kernel
set_option maxRecDepth 100000 in
theorem okI_255 : mj_okI gG "java/lang/String" prog_23_method_147_code 4 (mj_off oM_255) (Option.none : Option Jvm.ClassFile.FieldType) false true 0 cM_255 :=
  ⟨Or.inl ⟨0, rfl, dd_255_0, rfl⟩,
   ⟨rfl, tw_1115, by decide, tw_788, by decide +kernel, 335, tw_1116, dd_255_1, tw_1117, tw_1118, by decide +kernel⟩,
   Or.inl ⟨3, rfl, dd_255_4, rfl⟩,
   ⟨23, dd_255_5, rfl, rfl⟩,
   Or.inl ⟨0, rfl, dd_255_8, rfl⟩,
   ⟨9, dd_255_9, rfl, tw_1104⟩,
   Or.inl (Or.inl ⟨dd_255_12, rfl⟩),
   Or.inl ⟨1, rfl, dd_255_13, rfl⟩,
   Or.inl ⟨2, rfl, dd_255_14, rfl⟩,
   Or.inl ⟨3, rfl, dd_255_15, rfl⟩,
   ⟨dd_255_16, rfl⟩,
   Or.inl ⟨0, rfl, dd_255_17, rfl⟩,
   ⟨9, dd_255_18, rfl, tw_1104⟩,
   ⟨dd_255_21, rfl⟩,
   ⟨212, dd_255_22, rfl, tw_1198, tw_1157, tw_1158, tw_1159⟩,
   ⟨18, dd_255_25, rfl⟩,
   Or.inl ⟨0, rfl, dd_255_28, rfl⟩,
   ⟨9, dd_255_29, rfl, tw_1104⟩,
   Or.inl (Or.inl ⟨dd_255_32, rfl⟩),
   Or.inl ⟨1, rfl, dd_255_33, rfl⟩,
   Or.inl ⟨2, rfl, dd_255_34, rfl⟩,
   Or.inl ⟨0, rfl, dd_255_35, rfl⟩,
   ⟨9, dd_255_36, rfl, tw_1104⟩,
   ⟨dd_255_39, rfl⟩,
   trivial,
   ⟨dd_255_43, rfl⟩, trivial⟩
theorem okM_255 : mj_okE gG 255 (cM_255, 4, oM_255, hM_255) := ⟨rfl, rfl, by decide +kernel, trivial, okI_255⟩
end
section
set_option maxRecDepth 100000 in
theorem okAll : mj_okL gG 0 gTL := ⟨okM_0, okM_1, okM_2, okM_3, okM_4, okM_5, okM_6, okM_7, okM_8, okM_9, okM_10, okM_11, okM_12, okM_13, okM_14, okM_15, okM_16, okM_17, okM_18, okM_19, okM_20, okM_21, okM_22, okM_23, okM_24, okM_25, okM_26, okM_27, okM_28, okM_29, okM_30, okM_31, okM_32, okM_33, okM_34, okM_35, okM_36, okM_37, okM_38, okM_39, okM_40, okM_41, okM_42, okM_43, okM_44, okM_45, okM_46, okM_47, okM_48, okM_49, okM_50, okM_51, okM_52, okM_53, okM_54, okM_55, okM_56, okM_57, okM_58, okM_59, okM_60, okM_61, okM_62, okM_63, okM_64, okM_65, okM_66, okM_67, okM_68, okM_69, okM_70, okM_71, okM_72, okM_73, okM_74, okM_75, okM_76, okM_77, okM_78, okM_79, okM_80, okM_81, okM_82, okM_83, okM_84, okM_85, okM_86, okM_87, okM_88, okM_89, okM_90, okM_91, okM_92, okM_93, okM_94, okM_95, okM_96, okM_97, okM_98, okM_99, okM_100, okM_101, okM_102, okM_103, okM_104, okM_105, okM_106, okM_107, okM_108, okM_109, okM_110, okM_111, okM_112, okM_113, okM_114, okM_115, okM_116, okM_117, okM_118, okM_119, okM_120, okM_121, okM_122, okM_123, okM_124, okM_125, okM_126, okM_127, okM_128, okM_129, okM_130, okM_131, okM_132, okM_133, okM_134, okM_135, okM_136, okM_137, okM_138, okM_139, okM_140, okM_141, okM_142, okM_143, okM_144, okM_145, okM_146, okM_147, okM_148, okM_149, okM_150, okM_151, okM_152, okM_153, okM_154, okM_155, okM_156, okM_157, okM_158, okM_159, okM_160, okM_161, okM_162, okM_163, okM_164, okM_165, okM_166, okM_167, okM_168, okM_169, okM_170, okM_171, okM_172, okM_173, okM_174, okM_175, okM_176, okM_177, okM_178, okM_179, okM_180, okM_181, okM_182, okM_183, okM_184, okM_185, okM_186, okM_187, okM_188, okM_189, okM_190, okM_191, okM_192, okM_193, okM_194, okM_195, okM_196, okM_197, okM_198, okM_199, okM_200, okM_201, okM_202, okM_203, okM_204, okM_205, okM_206, okM_207, okM_208, okM_209, okM_210, okM_211, okM_212, okM_213, okM_214, okM_215, okM_216, okM_217, okM_218, okM_219, okM_220, okM_221, okM_222, okM_223, okM_224, okM_225, okM_226, okM_227, okM_228, okM_229, okM_230, okM_231, okM_232, okM_233, okM_234, okM_235, okM_236, okM_237, okM_238, okM_239, okM_240, okM_241, okM_242, okM_243, okM_244, okM_245, okM_246, okM_247, okM_248, okM_249, okM_250, okM_251, okM_252, okM_253, okM_254, okM_255, trivial⟩
theorem okT : mj_okM gG gT := mj_okM_of okAll
end
