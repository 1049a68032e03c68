section
theorem dd_12_0 : decode prog_1_method_9_code 0 = .ok (.aload_n 0, 1) := by decide +kernel
theorem dd_12_1 : decode prog_1_method_9_code 1 = .ok (.getfield 62, 3) := by decide +kernel
theorem dd_12_4 : decode prog_1_method_9_code 4 = .ok (.invokevirtual 108, 3) := by decide +kernel
theorem dd_12_7 : decode prog_1_method_9_code 7 = .ok (.iconst 1, 1) := by decide +kernel
theorem dd_12_8 : decode prog_1_method_9_code 8 = .ok (.if_icmp .ne 13, 3) := by decide +kernel
theorem dd_12_11 : decode prog_1_method_9_code 11 = .ok (.aload_n 0, 1) := by decide +kernel
theorem dd_12_12 : decode prog_1_method_9_code 12 = .ok (.getfield 62, 3) := by decide +kernel
theorem dd_12_15 : decode prog_1_method_9_code 15 = .ok (.invokevirtual 135, 3) := by decide +kernel
theorem dd_12_18 : decode prog_1_method_9_code 18 = .ok (.goto 4, 3) := by decide +kernel
theorem dd_12_21 : decode prog_1_method_9_code 21 = .ok (.iconst (-1), 1) := by decide +kernel
theorem dd_12_22 : decode prog_1_method_9_code 22 = .ok (.ireturn, 1) := by decide +kernel
set_option maxRecDepth 100000 in
theorem okI_12 : mj_okI gG "PairMachine" prog_1_method_9_code 1 (mj_off oM_12) (Option.some Jvm.ClassFile.FieldType.int) false true 0 cM_12 :=
  ⟨Or.inl ⟨0, rfl, dd_12_0, rfl⟩,
   ⟨62, "PairMachine", fT0, 7, dd_12_1, rfl, okc_0, by decide, tw_147⟩,
   ⟨rfl, tw_177, by decide, tw_143, by decide +kernel, 108, tw_178, dd_12_4, tw_179, ⟨"PairMachine$Machine", fT6, 10, rfl, tw_180⟩, by decide +kernel⟩,
   Or.inl (Or.inl ⟨dd_12_7, rfl⟩),
   ⟨13, dd_12_8, rfl, rfl⟩,
   Or.inl ⟨0, rfl, dd_12_11, rfl⟩,
   ⟨62, "PairMachine", fT0, 7, dd_12_12, rfl, okc_0, by decide, tw_147⟩,
   ⟨rfl, tw_213, by decide, tw_143, by decide +kernel, 135, tw_214, dd_12_15, tw_215, ⟨"PairMachine$Machine", fT6, 10, rfl, tw_216⟩, by decide +kernel⟩,
   ⟨4, dd_12_18, rfl⟩,
   Or.inl (Or.inl ⟨dd_12_21, rfl⟩),
   ⟨dd_12_22, rfl⟩, trivial⟩
theorem okM_12 : mj_okE gG 12 (cM_12, 1, oM_12, hM_12) := ⟨rfl, rfl, by decide +kernel, trivial, okI_12⟩
theorem dd_13_0 : decode prog_1_method_10_code 0 = .ok (.aload_n 0, 1) := by decide +kernel
theorem dd_13_1 : decode prog_1_method_10_code 1 = .ok (.getfield 62, 3) := by decide +kernel
theorem dd_13_4 : decode prog_1_method_10_code 4 = .ok (.invokevirtual 108, 3) := by decide +kernel
theorem dd_13_7 : decode prog_1_method_10_code 7 = .ok (.iconst 2, 1) := by decide +kernel
theorem dd_13_8 : decode prog_1_method_10_code 8 = .ok (.if_icmp .ne 14, 3) := by decide +kernel
theorem dd_13_11 : decode prog_1_method_10_code 11 = .ok (.aload_n 0, 1) := by decide +kernel
theorem dd_13_12 : decode prog_1_method_10_code 12 = .ok (.getfield 62, 3) := by decide +kernel
theorem dd_13_15 : decode prog_1_method_10_code 15 = .ok (.iload_n 1, 1) := by decide +kernel
theorem dd_13_16 : decode prog_1_method_10_code 16 = .ok (.invokevirtual 138, 3) := by decide +kernel
theorem dd_13_19 : decode prog_1_method_10_code 19 = .ok (.goto 4, 3) := by decide +kernel
theorem dd_13_22 : decode prog_1_method_10_code 22 = .ok (.iconst (-1), 1) := by decide +kernel
theorem dd_13_23 : decode prog_1_method_10_code 23 = .ok (.ireturn, 1) := by decide +kernel
set_option maxRecDepth 100000 in
theorem okI_13 : mj_okI gG "PairMachine" prog_1_method_10_code 2 (mj_off oM_13) (Option.some Jvm.ClassFile.FieldType.int) false true 0 cM_13 :=
  ⟨Or.inl ⟨0, rfl, dd_13_0, rfl⟩,
   ⟨62, "PairMachine", fT0, 7, dd_13_1, rfl, okc_0, by decide, tw_147⟩,
   ⟨rfl, tw_177, by decide, tw_143, by decide +kernel, 108, tw_178, dd_13_4, tw_179, ⟨"PairMachine$Machine", fT6, 10, rfl, tw_180⟩, by decide +kernel⟩,
   Or.inl (Or.inl ⟨dd_13_7, rfl⟩),
   ⟨14, dd_13_8, rfl, rfl⟩,
   Or.inl ⟨0, rfl, dd_13_11, rfl⟩,
   ⟨62, "PairMachine", fT0, 7, dd_13_12, rfl, okc_0, by decide, tw_147⟩,
   Or.inl ⟨1, rfl, dd_13_15, rfl⟩,
   ⟨rfl, tw_217, by decide, tw_143, by decide +kernel, 138, tw_218, dd_13_16, tw_219, ⟨"PairMachine$Machine", fT6, 10, rfl, tw_220⟩, by decide +kernel⟩,
   ⟨4, dd_13_19, rfl⟩,
   Or.inl (Or.inl ⟨dd_13_22, rfl⟩),
   ⟨dd_13_23, rfl⟩, trivial⟩
theorem okM_13 : mj_okE gG 13 (cM_13, 2, oM_13, hM_13) := ⟨rfl, rfl, by decide +kernel, trivial, okI_13⟩
theorem dd_14_0 : decode prog_9_method_1_code 0 = .ok (.aload_n 0, 1) := by decide +kernel
theorem dd_14_1 : decode prog_9_method_1_code 1 = .ok (.invokespecial 3, 3) := by decide +kernel
theorem dd_14_4 : decode prog_9_method_1_code 4 = .ok (.aload_n 0, 1) := by decide +kernel
theorem dd_14_5 : decode prog_9_method_1_code 5 = .ok (.bipush 96, 2) := by decide +kernel
theorem dd_14_7 : decode prog_9_method_1_code 7 = .ok (.newarray .char, 2) := by decide +kernel
theorem dd_14_9 : decode prog_9_method_1_code 9 = .ok (.putfield 11, 3) := by decide +kernel
theorem dd_14_12 : decode prog_9_method_1_code 12 = .ok (.return_, 1) := by decide +kernel
set_option maxRecDepth 100000 in
theorem okI_14 : mj_okI gG "PairMachine$Text" prog_9_method_1_code 1 (mj_off oM_14) (Option.none : Option Jvm.ClassFile.FieldType) true true 0 cM_14 :=
  ⟨Or.inl ⟨0, rfl, dd_14_0, rfl⟩,
   ⟨3, dd_14_1, rfl, tw_221, tw_97, tw_98⟩,
   Or.inl ⟨0, rfl, dd_14_4, rfl⟩,
   Or.inl (Or.inr (Or.inl ⟨dd_14_5, rfl, by decide⟩)),
   ⟨dd_14_7, rfl, tw_222⟩,
   ⟨11, "PairMachine$Text", fT1, 2, dd_14_9, rfl, okc_1, by decide, tw_223, Or.inr ⟨_, rfl⟩, Or.inr ⟨rfl, by decide, rfl⟩⟩,
   ⟨dd_14_12, rfl⟩, trivial⟩
theorem okM_14 : mj_okE gG 14 (cM_14, 1, oM_14, hM_14) := ⟨rfl, rfl, by decide +kernel, trivial, okI_14⟩
theorem dd_15_0 : decode prog_9_method_2_code 0 = .ok (.lload_n 1, 1) := by decide +kernel
theorem dd_15_1 : decode prog_9_method_2_code 1 = .ok (.invokestatic 15, 3) := by decide +kernel
theorem dd_15_4 : decode prog_9_method_2_code 4 = .ok (.istore_n 3, 1) := by decide +kernel
theorem dd_15_5 : decode prog_9_method_2_code 5 = .ok (.iload_n 3, 1) := by decide +kernel
theorem dd_15_6 : decode prog_9_method_2_code 6 = .ok (.iconst (-1), 1) := by decide +kernel
theorem dd_15_7 : decode prog_9_method_2_code 7 = .ok (.if_icmp .eq 14, 3) := by decide +kernel
theorem dd_15_10 : decode prog_9_method_2_code 10 = .ok (.aload_n 0, 1) := by decide +kernel
theorem dd_15_11 : decode prog_9_method_2_code 11 = .ok (.getfield 19, 3) := by decide +kernel
theorem dd_15_14 : decode prog_9_method_2_code 14 = .ok (.iload_n 3, 1) := by decide +kernel
theorem dd_15_15 : decode prog_9_method_2_code 15 = .ok (.iadd, 1) := by decide +kernel
theorem dd_15_16 : decode prog_9_method_2_code 16 = .ok (.bipush 96, 2) := by decide +kernel
theorem dd_15_18 : decode prog_9_method_2_code 18 = .ok (.if_icmp .le 5, 3) := by decide +kernel
theorem dd_15_21 : decode prog_9_method_2_code 21 = .ok (.iconst 0, 1) := by decide +kernel
theorem dd_15_22 : decode prog_9_method_2_code 22 = .ok (.ireturn, 1) := by decide +kernel
theorem dd_15_23 : decode prog_9_method_2_code 23 = .ok (.bipush 56, 2) := by decide +kernel
theorem dd_15_25 : decode prog_9_method_2_code 25 = .ok (.istore 4, 2) := by decide +kernel
theorem dd_15_27 : decode prog_9_method_2_code 27 = .ok (.iload 4, 2) := by decide +kernel
theorem dd_15_29 : decode prog_9_method_2_code 29 = .ok (.ifCond .lt 53, 3) := by decide +kernel
theorem dd_15_32 : decode prog_9_method_2_code 32 = .ok (.lload_n 1, 1) := by decide +kernel
theorem dd_15_33 : decode prog_9_method_2_code 33 = .ok (.iload 4, 2) := by decide +kernel
theorem dd_15_35 : decode prog_9_method_2_code 35 = .ok (.invokestatic 23, 3) := by decide +kernel
theorem dd_15_38 : decode prog_9_method_2_code 38 = .ok (.istore 5, 2) := by decide +kernel
theorem dd_15_40 : decode prog_9_method_2_code 40 = .ok (.iload 5, 2) := by decide +kernel
theorem dd_15_42 : decode prog_9_method_2_code 42 = .ok (.ifCond .eq 34, 3) := by decide +kernel
theorem dd_15_45 : decode prog_9_method_2_code 45 = .ok (.aload_n 0, 1) := by decide +kernel
theorem dd_15_46 : decode prog_9_method_2_code 46 = .ok (.getfield 19, 3) := by decide +kernel
theorem dd_15_49 : decode prog_9_method_2_code 49 = .ok (.bipush 96, 2) := by decide +kernel
theorem dd_15_51 : decode prog_9_method_2_code 51 = .ok (.if_icmp .ge 25, 3) := by decide +kernel
theorem dd_15_54 : decode prog_9_method_2_code 54 = .ok (.aload_n 0, 1) := by decide +kernel
theorem dd_15_55 : decode prog_9_method_2_code 55 = .ok (.getfield 11, 3) := by decide +kernel
theorem dd_15_58 : decode prog_9_method_2_code 58 = .ok (.aload_n 0, 1) := by decide +kernel
theorem dd_15_59 : decode prog_9_method_2_code 59 = .ok (.getfield 19, 3) := by decide +kernel
theorem dd_15_62 : decode prog_9_method_2_code 62 = .ok (.iload 5, 2) := by decide +kernel
theorem dd_15_64 : decode prog_9_method_2_code 64 = .ok (.i2c, 1) := by decide +kernel
theorem dd_15_65 : decode prog_9_method_2_code 65 = .ok (.castore, 1) := by decide +kernel
theorem dd_15_66 : decode prog_9_method_2_code 66 = .ok (.aload_n 0, 1) := by decide +kernel
theorem dd_15_67 : decode prog_9_method_2_code 67 = .ok (.dup, 1) := by decide +kernel
theorem dd_15_68 : decode prog_9_method_2_code 68 = .ok (.getfield 19, 3) := by decide +kernel
theorem dd_15_71 : decode prog_9_method_2_code 71 = .ok (.iconst 1, 1) := by decide +kernel
theorem dd_15_72 : decode prog_9_method_2_code 72 = .ok (.iadd, 1) := by decide +kernel
theorem dd_15_73 : decode prog_9_method_2_code 73 = .ok (.putfield 19, 3) := by decide +kernel
theorem dd_15_76 : decode prog_9_method_2_code 76 = .ok (.iinc 4 (-8), 3) := by decide +kernel
theorem dd_15_79 : decode prog_9_method_2_code 79 = .ok (.goto (-52), 3) := by decide +kernel
theorem dd_15_82 : decode prog_9_method_2_code 82 = .ok (.iconst 1, 1) := by decide +kernel
theorem dd_15_83 : decode prog_9_method_2_code 83 = .ok (.ireturn, 1) := by decide +kernel
set_option maxRecDepth 100000 in
theorem okI_15 : mj_okI gG "PairMachine$Text" prog_9_method_2_code 6 (mj_off oM_15) (Option.some Jvm.ClassFile.FieldType.boolean) false true 0 cM_15 :=
  ⟨Or.inl ⟨1, rfl, dd_15_0, rfl⟩,
   ⟨rfl, tw_224, by decide, tw_115, by decide +kernel, 15, tw_225, dd_15_1, tw_226, by decide +kernel⟩,
   ⟨by decide, Or.inl ⟨3, rfl, dd_15_4, rfl⟩⟩,
   Or.inl ⟨3, rfl, dd_15_5, rfl⟩,
   Or.inl (Or.inl ⟨dd_15_6, rfl⟩),
   ⟨14, dd_15_7, rfl, rfl⟩,
   Or.inl ⟨0, rfl, dd_15_10, rfl⟩,
   ⟨19, "PairMachine$Text", fT1, 2, dd_15_11, rfl, okc_1, by decide, tw_227⟩,
   Or.inl ⟨3, rfl, dd_15_14, rfl⟩,
   ⟨dd_15_15, rfl⟩,
   Or.inl (Or.inr (Or.inl ⟨dd_15_16, rfl, by decide⟩)),
   ⟨5, dd_15_18, rfl, rfl⟩,
   Or.inl (Or.inl ⟨dd_15_21, rfl⟩),
   ⟨dd_15_22, rfl⟩,
   Or.inl (Or.inr (Or.inl ⟨dd_15_23, rfl, by decide⟩)),
   ⟨by decide, Or.inr ⟨dd_15_25, rfl⟩⟩,
   Or.inr ⟨dd_15_27, rfl⟩,
   ⟨53, dd_15_29, rfl, rfl⟩,
   Or.inl ⟨1, rfl, dd_15_32, rfl⟩,
   Or.inr ⟨dd_15_33, rfl⟩,
   ⟨rfl, tw_228, by decide, tw_115, by decide +kernel, 23, tw_229, dd_15_35, tw_230, by decide +kernel⟩,
   ⟨by decide, Or.inr ⟨dd_15_38, rfl⟩⟩,
   Or.inr ⟨dd_15_40, rfl⟩,
   ⟨34, dd_15_42, rfl, rfl⟩,
   Or.inl ⟨0, rfl, dd_15_45, rfl⟩,
   ⟨19, "PairMachine$Text", fT1, 2, dd_15_46, rfl, okc_1, by decide, tw_227⟩,
   Or.inl (Or.inr (Or.inl ⟨dd_15_49, rfl, by decide⟩)),
   ⟨25, dd_15_51, rfl, rfl⟩,
   Or.inl ⟨0, rfl, dd_15_54, rfl⟩,
   ⟨11, "PairMachine$Text", fT1, 2, dd_15_55, rfl, okc_1, by decide, tw_223⟩,
   Or.inl ⟨0, rfl, dd_15_58, rfl⟩,
   ⟨19, "PairMachine$Text", fT1, 2, dd_15_59, rfl, okc_1, by decide, tw_227⟩,
   Or.inr ⟨dd_15_62, rfl⟩,
   ⟨dd_15_64, rfl⟩,
   ⟨dd_15_65, rfl⟩,
   Or.inl ⟨0, rfl, dd_15_66, rfl⟩,
   ⟨dd_15_67, rfl⟩,
   ⟨19, "PairMachine$Text", fT1, 2, dd_15_68, rfl, okc_1, by decide, tw_227⟩,
   Or.inl (Or.inl ⟨dd_15_71, rfl⟩),
   ⟨dd_15_72, rfl⟩,
   ⟨19, "PairMachine$Text", fT1, 2, dd_15_73, rfl, okc_1, by decide, tw_227, rfl, Or.inl rfl⟩,
   ⟨by decide, dd_15_76, rfl⟩,
   ⟨(-52), dd_15_79, rfl⟩,
   Or.inl (Or.inl ⟨dd_15_82, rfl⟩),
   ⟨dd_15_83, rfl⟩, trivial⟩
theorem okM_15 : mj_okE gG 15 (cM_15, 6, oM_15, hM_15) := ⟨rfl, rfl, by decide +kernel, trivial, okI_15⟩
theorem dd_16_0 : decode prog_9_method_3_code 0 = .ok (.lload_n 0, 1) := by decide +kernel
theorem dd_16_1 : decode prog_9_method_3_code 1 = .ok (.iload_n 2, 1) := by decide +kernel
theorem dd_16_2 : decode prog_9_method_3_code 2 = .ok (.lushr, 1) := by decide +kernel
theorem dd_16_3 : decode prog_9_method_3_code 3 = .ok (.l2i, 1) := by decide +kernel
theorem dd_16_4 : decode prog_9_method_3_code 4 = .ok (.sipush 255, 3) := by decide +kernel
theorem dd_16_7 : decode prog_9_method_3_code 7 = .ok (.iand, 1) := by decide +kernel
theorem dd_16_8 : decode prog_9_method_3_code 8 = .ok (.ireturn, 1) := by decide +kernel
set_option maxRecDepth 100000 in
theorem okI_16 : mj_okI gG "PairMachine$Text" prog_9_method_3_code 3 (mj_off oM_16) (Option.some Jvm.ClassFile.FieldType.int) false true 0 cM_16 :=
  ⟨Or.inl ⟨0, rfl, dd_16_0, rfl⟩,
   Or.inl ⟨2, rfl, dd_16_1, rfl⟩,
   ⟨dd_16_2, rfl⟩,
   ⟨dd_16_3, rfl⟩,
   Or.inl (Or.inr (Or.inr (Or.inl ⟨dd_16_4, rfl, by decide⟩))),
   ⟨dd_16_7, rfl⟩,
   ⟨dd_16_8, rfl⟩, trivial⟩
theorem okM_16 : mj_okE gG 16 (cM_16, 3, oM_16, hM_16) := ⟨rfl, rfl, by decide +kernel, trivial, okI_16⟩
theorem dd_17_0 : decode prog_9_method_4_code 0 = .ok (.iconst 0, 1) := by decide +kernel
theorem dd_17_1 : decode prog_9_method_4_code 1 = .ok (.istore_n 2, 1) := by decide +kernel
theorem dd_17_2 : decode prog_9_method_4_code 2 = .ok (.bipush 56, 2) := by decide +kernel
theorem dd_17_4 : decode prog_9_method_4_code 4 = .ok (.istore_n 3, 1) := by decide +kernel
theorem dd_17_5 : decode prog_9_method_4_code 5 = .ok (.iload_n 3, 1) := by decide +kernel
theorem dd_17_6 : decode prog_9_method_4_code 6 = .ok (.ifCond .lt 40, 3) := by decide +kernel
theorem dd_17_9 : decode prog_9_method_4_code 9 = .ok (.lload_n 0, 1) := by decide +kernel
theorem dd_17_10 : decode prog_9_method_4_code 10 = .ok (.iload_n 3, 1) := by decide +kernel
theorem dd_17_11 : decode prog_9_method_4_code 11 = .ok (.invokestatic 23, 3) := by decide +kernel
theorem dd_17_14 : decode prog_9_method_4_code 14 = .ok (.istore 4, 2) := by decide +kernel
theorem dd_17_16 : decode prog_9_method_4_code 16 = .ok (.iload 4, 2) := by decide +kernel
theorem dd_17_18 : decode prog_9_method_4_code 18 = .ok (.ifCond .eq 22, 3) := by decide +kernel
theorem dd_17_21 : decode prog_9_method_4_code 21 = .ok (.iload 4, 2) := by decide +kernel
theorem dd_17_23 : decode prog_9_method_4_code 23 = .ok (.bipush 32, 2) := by decide +kernel
theorem dd_17_25 : decode prog_9_method_4_code 25 = .ok (.if_icmp .lt 10, 3) := by decide +kernel
theorem dd_17_28 : decode prog_9_method_4_code 28 = .ok (.iload 4, 2) := by decide +kernel
theorem dd_17_30 : decode prog_9_method_4_code 30 = .ok (.bipush 126, 2) := by decide +kernel
theorem dd_17_32 : decode prog_9_method_4_code 32 = .ok (.if_icmp .le 5, 3) := by decide +kernel
theorem dd_17_35 : decode prog_9_method_4_code 35 = .ok (.iconst (-1), 1) := by decide +kernel
theorem dd_17_36 : decode prog_9_method_4_code 36 = .ok (.ireturn, 1) := by decide +kernel
theorem dd_17_37 : decode prog_9_method_4_code 37 = .ok (.iinc 2 1, 3) := by decide +kernel
theorem dd_17_40 : decode prog_9_method_4_code 40 = .ok (.iinc 3 (-8), 3) := by decide +kernel
theorem dd_17_43 : decode prog_9_method_4_code 43 = .ok (.goto (-38), 3) := by decide +kernel
theorem dd_17_46 : decode prog_9_method_4_code 46 = .ok (.iload_n 2, 1) := by decide +kernel
theorem dd_17_47 : decode prog_9_method_4_code 47 = .ok (.ireturn, 1) := by decide +kernel
set_option maxRecDepth 100000 in
theorem okI_17 : mj_okI gG "PairMachine$Text" prog_9_method_4_code 5 (mj_off oM_17) (Option.some Jvm.ClassFile.FieldType.int) false true 0 cM_17 :=
  ⟨Or.inl (Or.inl ⟨dd_17_0, rfl⟩),
   ⟨by decide, Or.inl ⟨2, rfl, dd_17_1, rfl⟩⟩,
   Or.inl (Or.inr (Or.inl ⟨dd_17_2, rfl, by decide⟩)),
   ⟨by decide, Or.inl ⟨3, rfl, dd_17_4, rfl⟩⟩,
   Or.inl ⟨3, rfl, dd_17_5, rfl⟩,
   ⟨40, dd_17_6, rfl, rfl⟩,
   Or.inl ⟨0, rfl, dd_17_9, rfl⟩,
   Or.inl ⟨3, rfl, dd_17_10, rfl⟩,
   ⟨rfl, tw_228, by decide, tw_115, by decide +kernel, 23, tw_229, dd_17_11, tw_230, by decide +kernel⟩,
   ⟨by decide, Or.inr ⟨dd_17_14, rfl⟩⟩,
   Or.inr ⟨dd_17_16, rfl⟩,
   ⟨22, dd_17_18, rfl, rfl⟩,
   Or.inr ⟨dd_17_21, rfl⟩,
   Or.inl (Or.inr (Or.inl ⟨dd_17_23, rfl, by decide⟩)),
   ⟨10, dd_17_25, rfl, rfl⟩,
   Or.inr ⟨dd_17_28, rfl⟩,
   Or.inl (Or.inr (Or.inl ⟨dd_17_30, rfl, by decide⟩)),
   ⟨5, dd_17_32, rfl, rfl⟩,
   Or.inl (Or.inl ⟨dd_17_35, rfl⟩),
   ⟨dd_17_36, rfl⟩,
   ⟨by decide, dd_17_37, rfl⟩,
   ⟨by decide, dd_17_40, rfl⟩,
   ⟨(-38), dd_17_43, rfl⟩,
   Or.inl ⟨2, rfl, dd_17_46, rfl⟩,
   ⟨dd_17_47, rfl⟩, trivial⟩
theorem okM_17 : mj_okE gG 17 (cM_17, 5, oM_17, hM_17) := ⟨rfl, rfl, by decide +kernel, trivial, okI_17⟩
theorem dd_18_0 : decode prog_9_method_5_code 0 = .ok (.aload_n 0, 1) := by decide +kernel
theorem dd_18_1 : decode prog_9_method_5_code 1 = .ok (.getfield 19, 3) := by decide +kernel
theorem dd_18_4 : decode prog_9_method_5_code 4 = .ok (.ireturn, 1) := by decide +kernel
set_option maxRecDepth 100000 in
theorem okI_18 : mj_okI gG "PairMachine$Text" prog_9_method_5_code 1 (mj_off oM_18) (Option.some Jvm.ClassFile.FieldType.int) false true 0 cM_18 :=
  ⟨Or.inl ⟨0, rfl, dd_18_0, rfl⟩,
   ⟨19, "PairMachine$Text", fT1, 2, dd_18_1, rfl, okc_1, by decide, tw_227⟩,
   ⟨dd_18_4, rfl⟩, trivial⟩
theorem okM_18 : mj_okE gG 18 (cM_18, 1, oM_18, hM_18) := ⟨rfl, rfl, by decide +kernel, trivial, okI_18⟩
theorem dd_19_0 : decode prog_9_method_6_code 0 = .ok (.iload_n 1, 1) := by decide +kernel
theorem dd_19_1 : decode prog_9_method_6_code 1 = .ok (.ifCond .lt 20, 3) := by decide +kernel
theorem dd_19_4 : decode prog_9_method_6_code 4 = .ok (.iload_n 1, 1) := by decide +kernel
theorem dd_19_5 : decode prog_9_method_6_code 5 = .ok (.aload_n 0, 1) := by decide +kernel
theorem dd_19_6 : decode prog_9_method_6_code 6 = .ok (.getfield 19, 3) := by decide +kernel
theorem dd_19_9 : decode prog_9_method_6_code 9 = .ok (.if_icmp .ge 12, 3) := by decide +kernel
theorem dd_19_12 : decode prog_9_method_6_code 12 = .ok (.aload_n 0, 1) := by decide +kernel
theorem dd_19_13 : decode prog_9_method_6_code 13 = .ok (.getfield 11, 3) := by decide +kernel
theorem dd_19_16 : decode prog_9_method_6_code 16 = .ok (.iload_n 1, 1) := by decide +kernel
theorem dd_19_17 : decode prog_9_method_6_code 17 = .ok (.caload, 1) := by decide +kernel
theorem dd_19_18 : decode prog_9_method_6_code 18 = .ok (.goto 4, 3) := by decide +kernel
theorem dd_19_21 : decode prog_9_method_6_code 21 = .ok (.iconst 0, 1) := by decide +kernel
theorem dd_19_22 : decode prog_9_method_6_code 22 = .ok (.ireturn, 1) := by decide +kernel
set_option maxRecDepth 100000 in
theorem okI_19 : mj_okI gG "PairMachine$Text" prog_9_method_6_code 2 (mj_off oM_19) (Option.some Jvm.ClassFile.FieldType.int) false true 0 cM_19 :=
  ⟨Or.inl ⟨1, rfl, dd_19_0, rfl⟩,
   ⟨20, dd_19_1, rfl, rfl⟩,
   Or.inl ⟨1, rfl, dd_19_4, rfl⟩,
   Or.inl ⟨0, rfl, dd_19_5, rfl⟩,
   ⟨19, "PairMachine$Text", fT1, 2, dd_19_6, rfl, okc_1, by decide, tw_227⟩,
   ⟨12, dd_19_9, rfl, rfl⟩,
   Or.inl ⟨0, rfl, dd_19_12, rfl⟩,
   ⟨11, "PairMachine$Text", fT1, 2, dd_19_13, rfl, okc_1, by decide, tw_223⟩,
   Or.inl ⟨1, rfl, dd_19_16, rfl⟩,
   ⟨dd_19_17, rfl⟩,
   ⟨4, dd_19_18, rfl⟩,
   Or.inl (Or.inl ⟨dd_19_21, rfl⟩),
   ⟨dd_19_22, rfl⟩, trivial⟩
theorem okM_19 : mj_okE gG 19 (cM_19, 2, oM_19, hM_19) := ⟨rfl, rfl, by decide +kernel, trivial, okI_19⟩
theorem dd_20_0 : decode prog_9_method_7_code 0 = .ok (.aload_n 0, 1) := by decide +kernel
theorem dd_20_1 : decode prog_9_method_7_code 1 = .ok (.iconst 0, 1) := by decide +kernel
theorem dd_20_2 : decode prog_9_method_7_code 2 = .ok (.putfield 19, 3) := by decide +kernel
theorem dd_20_5 : decode prog_9_method_7_code 5 = .ok (.return_, 1) := by decide +kernel
set_option maxRecDepth 100000 in
theorem okI_20 : mj_okI gG "PairMachine$Text" prog_9_method_7_code 1 (mj_off oM_20) (Option.none : Option Jvm.ClassFile.FieldType) false true 0 cM_20 :=
  ⟨Or.inl ⟨0, rfl, dd_20_0, rfl⟩,
   Or.inl (Or.inl ⟨dd_20_1, rfl⟩),
   ⟨19, "PairMachine$Text", fT1, 2, dd_20_2, rfl, okc_1, by decide, tw_227, rfl, Or.inl rfl⟩,
   ⟨dd_20_5, rfl⟩, trivial⟩
theorem okM_20 : mj_okE gG 20 (cM_20, 1, oM_20, hM_20) := ⟨rfl, rfl, by decide +kernel, trivial, okI_20⟩
theorem dd_21_0 : decode prog_10_method_1_code 0 = .ok (.aload_n 0, 1) := by decide +kernel
theorem dd_21_1 : decode prog_10_method_1_code 1 = .ok (.invokespecial 5, 3) := by decide +kernel
theorem dd_21_4 : decode prog_10_method_1_code 4 = .ok (.aload_n 0, 1) := by decide +kernel
theorem dd_21_5 : decode prog_10_method_1_code 5 = .ok (.bipush 96, 2) := by decide +kernel
theorem dd_21_7 : decode prog_10_method_1_code 7 = .ok (.newarray .int, 2) := by decide +kernel
theorem dd_21_9 : decode prog_10_method_1_code 9 = .ok (.putfield 13, 3) := by decide +kernel
theorem dd_21_12 : decode prog_10_method_1_code 12 = .ok (.aload_n 0, 1) := by decide +kernel
theorem dd_21_13 : decode prog_10_method_1_code 13 = .ok (.bipush 96, 2) := by decide +kernel
theorem dd_21_15 : decode prog_10_method_1_code 15 = .ok (.newarray .int, 2) := by decide +kernel
theorem dd_21_17 : decode prog_10_method_1_code 17 = .ok (.putfield 17, 3) := by decide +kernel
theorem dd_21_20 : decode prog_10_method_1_code 20 = .ok (.aload_n 0, 1) := by decide +kernel
theorem dd_21_21 : decode prog_10_method_1_code 21 = .ok (.bipush 96, 2) := by decide +kernel
theorem dd_21_23 : decode prog_10_method_1_code 23 = .ok (.newarray .int, 2) := by decide +kernel
theorem dd_21_25 : decode prog_10_method_1_code 25 = .ok (.putfield 20, 3) := by decide +kernel
theorem dd_21_28 : decode prog_10_method_1_code 28 = .ok (.aload_n 0, 1) := by decide +kernel
theorem dd_21_29 : decode prog_10_method_1_code 29 = .ok (.bipush 96, 2) := by decide +kernel
theorem dd_21_31 : decode prog_10_method_1_code 31 = .ok (.newarray .int, 2) := by decide +kernel
theorem dd_21_33 : decode prog_10_method_1_code 33 = .ok (.putfield 23, 3) := by decide +kernel
theorem dd_21_36 : decode prog_10_method_1_code 36 = .ok (.aload_n 0, 1) := by decide +kernel
theorem dd_21_37 : decode prog_10_method_1_code 37 = .ok (.bipush 96, 2) := by decide +kernel
theorem dd_21_39 : decode prog_10_method_1_code 39 = .ok (.newarray .int, 2) := by decide +kernel
theorem dd_21_41 : decode prog_10_method_1_code 41 = .ok (.putfield 26, 3) := by decide +kernel
theorem dd_21_44 : decode prog_10_method_1_code 44 = .ok (.aload_n 0, 1) := by decide +kernel
theorem dd_21_45 : decode prog_10_method_1_code 45 = .ok (.bipush 96, 2) := by decide +kernel
theorem dd_21_47 : decode prog_10_method_1_code 47 = .ok (.newarray .int, 2) := by decide +kernel
theorem dd_21_49 : decode prog_10_method_1_code 49 = .ok (.putfield 29, 3) := by decide +kernel
theorem dd_21_52 : decode prog_10_method_1_code 52 = .ok (.return_, 1) := by decide +kernel
set_option maxRecDepth 100000 in
theorem okI_21 : mj_okI gG "PairMachine$Tree" prog_10_method_1_code 1 (mj_off oM_21) (Option.none : Option Jvm.ClassFile.FieldType) true true 0 cM_21 :=
  ⟨Or.inl ⟨0, rfl, dd_21_0, rfl⟩,
   ⟨5, dd_21_1, rfl, tw_231, tw_97, tw_98⟩,
   Or.inl ⟨0, rfl, dd_21_4, rfl⟩,
   Or.inl (Or.inr (Or.inl ⟨dd_21_5, rfl, by decide⟩)),
   ⟨dd_21_7, rfl, tw_232⟩,
   ⟨13, "PairMachine$Tree", fT2, 7, dd_21_9, rfl, okc_2, by decide, tw_233, Or.inr ⟨_, rfl⟩, Or.inr ⟨rfl, by decide, rfl⟩⟩,
   Or.inl ⟨0, rfl, dd_21_12, rfl⟩,
   Or.inl (Or.inr (Or.inl ⟨dd_21_13, rfl, by decide⟩)),
   ⟨dd_21_15, rfl, tw_232⟩,
   ⟨17, "PairMachine$Tree", fT2, 7, dd_21_17, rfl, okc_2, by decide, tw_234, Or.inr ⟨_, rfl⟩, Or.inr ⟨rfl, by decide, rfl⟩⟩,
   Or.inl ⟨0, rfl, dd_21_20, rfl⟩,
   Or.inl (Or.inr (Or.inl ⟨dd_21_21, rfl, by decide⟩)),
   ⟨dd_21_23, rfl, tw_232⟩,
   ⟨20, "PairMachine$Tree", fT2, 7, dd_21_25, rfl, okc_2, by decide, tw_235, Or.inr ⟨_, rfl⟩, Or.inr ⟨rfl, by decide, rfl⟩⟩,
   Or.inl ⟨0, rfl, dd_21_28, rfl⟩,
   Or.inl (Or.inr (Or.inl ⟨dd_21_29, rfl, by decide⟩)),
   ⟨dd_21_31, rfl, tw_232⟩,
   ⟨23, "PairMachine$Tree", fT2, 7, dd_21_33, rfl, okc_2, by decide, tw_236, Or.inr ⟨_, rfl⟩, Or.inr ⟨rfl, by decide, rfl⟩⟩,
   Or.inl ⟨0, rfl, dd_21_36, rfl⟩,
   Or.inl (Or.inr (Or.inl ⟨dd_21_37, rfl, by decide⟩)),
   ⟨dd_21_39, rfl, tw_232⟩,
   ⟨26, "PairMachine$Tree", fT2, 7, dd_21_41, rfl, okc_2, by decide, tw_237, Or.inr ⟨_, rfl⟩, Or.inr ⟨rfl, by decide, rfl⟩⟩,
   Or.inl ⟨0, rfl, dd_21_44, rfl⟩,
   Or.inl (Or.inr (Or.inl ⟨dd_21_45, rfl, by decide⟩)),
   ⟨dd_21_47, rfl, tw_232⟩,
   ⟨29, "PairMachine$Tree", fT2, 7, dd_21_49, rfl, okc_2, by decide, tw_238, Or.inr ⟨_, rfl⟩, Or.inr ⟨rfl, by decide, rfl⟩⟩,
   ⟨dd_21_52, rfl⟩, trivial⟩
theorem okM_21 : mj_okE gG 21 (cM_21, 1, oM_21, hM_21) := ⟨rfl, rfl, by decide +kernel, trivial, okI_21⟩
theorem dd_22_0 : decode prog_10_method_2_code 0 = .ok (.aload_n 0, 1) := by decide +kernel
theorem dd_22_1 : decode prog_10_method_2_code 1 = .ok (.iconst 0, 1) := by decide +kernel
theorem dd_22_2 : decode prog_10_method_2_code 2 = .ok (.putfield 32, 3) := by decide +kernel
theorem dd_22_5 : decode prog_10_method_2_code 5 = .ok (.return_, 1) := by decide +kernel
set_option maxRecDepth 100000 in
theorem okI_22 : mj_okI gG "PairMachine$Tree" prog_10_method_2_code 1 (mj_off oM_22) (Option.none : Option Jvm.ClassFile.FieldType) false true 0 cM_22 :=
  ⟨Or.inl ⟨0, rfl, dd_22_0, rfl⟩,
   Or.inl (Or.inl ⟨dd_22_1, rfl⟩),
   ⟨32, "PairMachine$Tree", fT2, 7, dd_22_2, rfl, okc_2, by decide, tw_239, rfl, Or.inl rfl⟩,
   ⟨dd_22_5, rfl⟩, trivial⟩
theorem okM_22 : mj_okE gG 22 (cM_22, 1, oM_22, hM_22) := ⟨rfl, rfl, by decide +kernel, trivial, okI_22⟩
theorem dd_23_0 : decode prog_10_method_3_code 0 = .ok (.aload_n 0, 1) := by decide +kernel
theorem dd_23_1 : decode prog_10_method_3_code 1 = .ok (.getfield 32, 3) := by decide +kernel
theorem dd_23_4 : decode prog_10_method_3_code 4 = .ok (.bipush 96, 2) := by decide +kernel
theorem dd_23_6 : decode prog_10_method_3_code 6 = .ok (.if_icmp .lt 5, 3) := by decide +kernel
theorem dd_23_9 : decode prog_10_method_3_code 9 = .ok (.iconst (-1), 1) := by decide +kernel
theorem dd_23_10 : decode prog_10_method_3_code 10 = .ok (.ireturn, 1) := by decide +kernel
theorem dd_23_11 : decode prog_10_method_3_code 11 = .ok (.aload_n 0, 1) := by decide +kernel
theorem dd_23_12 : decode prog_10_method_3_code 12 = .ok (.getfield 32, 3) := by decide +kernel
theorem dd_23_15 : decode prog_10_method_3_code 15 = .ok (.istore 4, 2) := by decide +kernel
theorem dd_23_17 : decode prog_10_method_3_code 17 = .ok (.aload_n 0, 1) := by decide +kernel
theorem dd_23_18 : decode prog_10_method_3_code 18 = .ok (.dup, 1) := by decide +kernel
theorem dd_23_19 : decode prog_10_method_3_code 19 = .ok (.getfield 32, 3) := by decide +kernel
theorem dd_23_22 : decode prog_10_method_3_code 22 = .ok (.iconst 1, 1) := by decide +kernel
theorem dd_23_23 : decode prog_10_method_3_code 23 = .ok (.iadd, 1) := by decide +kernel
theorem dd_23_24 : decode prog_10_method_3_code 24 = .ok (.putfield 32, 3) := by decide +kernel
theorem dd_23_27 : decode prog_10_method_3_code 27 = .ok (.aload_n 0, 1) := by decide +kernel
theorem dd_23_28 : decode prog_10_method_3_code 28 = .ok (.getfield 13, 3) := by decide +kernel
theorem dd_23_31 : decode prog_10_method_3_code 31 = .ok (.iload 4, 2) := by decide +kernel
theorem dd_23_33 : decode prog_10_method_3_code 33 = .ok (.iload_n 1, 1) := by decide +kernel
theorem dd_23_34 : decode prog_10_method_3_code 34 = .ok (.iastore, 1) := by decide +kernel
theorem dd_23_35 : decode prog_10_method_3_code 35 = .ok (.aload_n 0, 1) := by decide +kernel
theorem dd_23_36 : decode prog_10_method_3_code 36 = .ok (.getfield 17, 3) := by decide +kernel
theorem dd_23_39 : decode prog_10_method_3_code 39 = .ok (.iload 4, 2) := by decide +kernel
theorem dd_23_41 : decode prog_10_method_3_code 41 = .ok (.iload_n 2, 1) := by decide +kernel
theorem dd_23_42 : decode prog_10_method_3_code 42 = .ok (.iastore, 1) := by decide +kernel
theorem dd_23_43 : decode prog_10_method_3_code 43 = .ok (.aload_n 0, 1) := by decide +kernel
theorem dd_23_44 : decode prog_10_method_3_code 44 = .ok (.getfield 20, 3) := by decide +kernel
theorem dd_23_47 : decode prog_10_method_3_code 47 = .ok (.iload 4, 2) := by decide +kernel
theorem dd_23_49 : decode prog_10_method_3_code 49 = .ok (.iload_n 3, 1) := by decide +kernel
theorem dd_23_50 : decode prog_10_method_3_code 50 = .ok (.iastore, 1) := by decide +kernel
theorem dd_23_51 : decode prog_10_method_3_code 51 = .ok (.aload_n 0, 1) := by decide +kernel
theorem dd_23_52 : decode prog_10_method_3_code 52 = .ok (.getfield 23, 3) := by decide +kernel
theorem dd_23_55 : decode prog_10_method_3_code 55 = .ok (.iload 4, 2) := by decide +kernel
theorem dd_23_57 : decode prog_10_method_3_code 57 = .ok (.iconst (-1), 1) := by decide +kernel
theorem dd_23_58 : decode prog_10_method_3_code 58 = .ok (.iastore, 1) := by decide +kernel
theorem dd_23_59 : decode prog_10_method_3_code 59 = .ok (.aload_n 0, 1) := by decide +kernel
theorem dd_23_60 : decode prog_10_method_3_code 60 = .ok (.getfield 26, 3) := by decide +kernel
theorem dd_23_63 : decode prog_10_method_3_code 63 = .ok (.iload 4, 2) := by decide +kernel
theorem dd_23_65 : decode prog_10_method_3_code 65 = .ok (.iconst (-1), 1) := by decide +kernel
theorem dd_23_66 : decode prog_10_method_3_code 66 = .ok (.iastore, 1) := by decide +kernel
theorem dd_23_67 : decode prog_10_method_3_code 67 = .ok (.aload_n 0, 1) := by decide +kernel
theorem dd_23_68 : decode prog_10_method_3_code 68 = .ok (.getfield 29, 3) := by decide +kernel
theorem dd_23_71 : decode prog_10_method_3_code 71 = .ok (.iload 4, 2) := by decide +kernel
theorem dd_23_73 : decode prog_10_method_3_code 73 = .ok (.iconst (-1), 1) := by decide +kernel
theorem dd_23_74 : decode prog_10_method_3_code 74 = .ok (.iastore, 1) := by decide +kernel
theorem dd_23_75 : decode prog_10_method_3_code 75 = .ok (.iload 4, 2) := by decide +kernel
theorem dd_23_77 : decode prog_10_method_3_code 77 = .ok (.ireturn, 1) := by decide +kernel
set_option maxRecDepth 100000 in
theorem okI_23 : mj_okI gG "PairMachine$Tree" prog_10_method_3_code 5 (mj_off oM_23) (Option.some Jvm.ClassFile.FieldType.int) false true 0 cM_23 :=
  ⟨Or.inl ⟨0, rfl, dd_23_0, rfl⟩,
   ⟨32, "PairMachine$Tree", fT2, 7, dd_23_1, rfl, okc_2, by decide, tw_239⟩,
   Or.inl (Or.inr (Or.inl ⟨dd_23_4, rfl, by decide⟩)),
   ⟨5, dd_23_6, rfl, rfl⟩,
   Or.inl (Or.inl ⟨dd_23_9, rfl⟩),
   ⟨dd_23_10, rfl⟩,
   Or.inl ⟨0, rfl, dd_23_11, rfl⟩,
   ⟨32, "PairMachine$Tree", fT2, 7, dd_23_12, rfl, okc_2, by decide, tw_239⟩,
   ⟨by decide, Or.inr ⟨dd_23_15, rfl⟩⟩,
   Or.inl ⟨0, rfl, dd_23_17, rfl⟩,
   ⟨dd_23_18, rfl⟩,
   ⟨32, "PairMachine$Tree", fT2, 7, dd_23_19, rfl, okc_2, by decide, tw_239⟩,
   Or.inl (Or.inl ⟨dd_23_22, rfl⟩),
   ⟨dd_23_23, rfl⟩,
   ⟨32, "PairMachine$Tree", fT2, 7, dd_23_24, rfl, okc_2, by decide, tw_239, rfl, Or.inl rfl⟩,
   Or.inl ⟨0, rfl, dd_23_27, rfl⟩,
   ⟨13, "PairMachine$Tree", fT2, 7, dd_23_28, rfl, okc_2, by decide, tw_233⟩,
   Or.inr ⟨dd_23_31, rfl⟩,
   Or.inl ⟨1, rfl, dd_23_33, rfl⟩,
   ⟨dd_23_34, rfl⟩,
   Or.inl ⟨0, rfl, dd_23_35, rfl⟩,
   ⟨17, "PairMachine$Tree", fT2, 7, dd_23_36, rfl, okc_2, by decide, tw_234⟩,
   Or.inr ⟨dd_23_39, rfl⟩,
   Or.inl ⟨2, rfl, dd_23_41, rfl⟩,
   ⟨dd_23_42, rfl⟩,
   Or.inl ⟨0, rfl, dd_23_43, rfl⟩,
   ⟨20, "PairMachine$Tree", fT2, 7, dd_23_44, rfl, okc_2, by decide, tw_235⟩,
   Or.inr ⟨dd_23_47, rfl⟩,
   Or.inl ⟨3, rfl, dd_23_49, rfl⟩,
   ⟨dd_23_50, rfl⟩,
   Or.inl ⟨0, rfl, dd_23_51, rfl⟩,
   ⟨23, "PairMachine$Tree", fT2, 7, dd_23_52, rfl, okc_2, by decide, tw_236⟩,
   Or.inr ⟨dd_23_55, rfl⟩,
   Or.inl (Or.inl ⟨dd_23_57, rfl⟩),
   ⟨dd_23_58, rfl⟩,
   Or.inl ⟨0, rfl, dd_23_59, rfl⟩,
   ⟨26, "PairMachine$Tree", fT2, 7, dd_23_60, rfl, okc_2, by decide, tw_237⟩,
   Or.inr ⟨dd_23_63, rfl⟩,
   Or.inl (Or.inl ⟨dd_23_65, rfl⟩),
   ⟨dd_23_66, rfl⟩,
   Or.inl ⟨0, rfl, dd_23_67, rfl⟩,
   ⟨29, "PairMachine$Tree", fT2, 7, dd_23_68, rfl, okc_2, by decide, tw_238⟩,
   Or.inr ⟨dd_23_71, rfl⟩,
   Or.inl (Or.inl ⟨dd_23_73, rfl⟩),
   ⟨dd_23_74, rfl⟩,
   Or.inr ⟨dd_23_75, rfl⟩,
   ⟨dd_23_77, rfl⟩, trivial⟩
theorem okM_23 : mj_okE gG 23 (cM_23, 5, oM_23, hM_23) := ⟨rfl, rfl, by decide +kernel, trivial, okI_23⟩
theorem dd_24_0 : decode prog_10_method_4_code 0 = .ok (.iload_n 1, 1) := by decide +kernel
theorem dd_24_1 : decode prog_10_method_4_code 1 = .ok (.ifCond .lt 11, 3) := by decide +kernel
theorem dd_24_4 : decode prog_10_method_4_code 4 = .ok (.iload_n 1, 1) := by decide +kernel
theorem dd_24_5 : decode prog_10_method_4_code 5 = .ok (.aload_n 0, 1) := by decide +kernel
theorem dd_24_6 : decode prog_10_method_4_code 6 = .ok (.getfield 32, 3) := by decide +kernel
theorem dd_24_9 : decode prog_10_method_4_code 9 = .ok (.if_icmp .lt 4, 3) := by decide +kernel
theorem dd_24_12 : decode prog_10_method_4_code 12 = .ok (.return_, 1) := by decide +kernel
theorem dd_24_13 : decode prog_10_method_4_code 13 = .ok (.aload_n 0, 1) := by decide +kernel
theorem dd_24_14 : decode prog_10_method_4_code 14 = .ok (.getfield 26, 3) := by decide +kernel
theorem dd_24_17 : decode prog_10_method_4_code 17 = .ok (.iload_n 1, 1) := by decide +kernel
theorem dd_24_18 : decode prog_10_method_4_code 18 = .ok (.iaload, 1) := by decide +kernel
theorem dd_24_19 : decode prog_10_method_4_code 19 = .ok (.istore_n 3, 1) := by decide +kernel
theorem dd_24_20 : decode prog_10_method_4_code 20 = .ok (.iload_n 3, 1) := by decide +kernel
theorem dd_24_21 : decode prog_10_method_4_code 21 = .ok (.iconst (-1), 1) := by decide +kernel
theorem dd_24_22 : decode prog_10_method_4_code 22 = .ok (.if_icmp .ne 13, 3) := by decide +kernel
theorem dd_24_25 : decode prog_10_method_4_code 25 = .ok (.aload_n 0, 1) := by decide +kernel
theorem dd_24_26 : decode prog_10_method_4_code 26 = .ok (.getfield 23, 3) := by decide +kernel
theorem dd_24_29 : decode prog_10_method_4_code 29 = .ok (.iload_n 1, 1) := by decide +kernel
theorem dd_24_30 : decode prog_10_method_4_code 30 = .ok (.iload_n 2, 1) := by decide +kernel
theorem dd_24_31 : decode prog_10_method_4_code 31 = .ok (.iastore, 1) := by decide +kernel
theorem dd_24_32 : decode prog_10_method_4_code 32 = .ok (.goto 10, 3) := by decide +kernel
theorem dd_24_35 : decode prog_10_method_4_code 35 = .ok (.aload_n 0, 1) := by decide +kernel
theorem dd_24_36 : decode prog_10_method_4_code 36 = .ok (.getfield 29, 3) := by decide +kernel
theorem dd_24_39 : decode prog_10_method_4_code 39 = .ok (.iload_n 3, 1) := by decide +kernel
theorem dd_24_40 : decode prog_10_method_4_code 40 = .ok (.iload_n 2, 1) := by decide +kernel
theorem dd_24_41 : decode prog_10_method_4_code 41 = .ok (.iastore, 1) := by decide +kernel
theorem dd_24_42 : decode prog_10_method_4_code 42 = .ok (.aload_n 0, 1) := by decide +kernel
theorem dd_24_43 : decode prog_10_method_4_code 43 = .ok (.getfield 26, 3) := by decide +kernel
theorem dd_24_46 : decode prog_10_method_4_code 46 = .ok (.iload_n 1, 1) := by decide +kernel
theorem dd_24_47 : decode prog_10_method_4_code 47 = .ok (.iload_n 2, 1) := by decide +kernel
theorem dd_24_48 : decode prog_10_method_4_code 48 = .ok (.iastore, 1) := by decide +kernel
theorem dd_24_49 : decode prog_10_method_4_code 49 = .ok (.return_, 1) := by decide +kernel
set_option maxRecDepth 100000 in
theorem okI_24 : mj_okI gG "PairMachine$Tree" prog_10_method_4_code 4 (mj_off oM_24) (Option.none : Option Jvm.ClassFile.FieldType) false true 0 cM_24 :=
  ⟨Or.inl ⟨1, rfl, dd_24_0, rfl⟩,
   ⟨11, dd_24_1, rfl, rfl⟩,
   Or.inl ⟨1, rfl, dd_24_4, rfl⟩,
   Or.inl ⟨0, rfl, dd_24_5, rfl⟩,
   ⟨32, "PairMachine$Tree", fT2, 7, dd_24_6, rfl, okc_2, by decide, tw_239⟩,
   ⟨4, dd_24_9, rfl, rfl⟩,
   ⟨dd_24_12, rfl⟩,
   Or.inl ⟨0, rfl, dd_24_13, rfl⟩,
   ⟨26, "PairMachine$Tree", fT2, 7, dd_24_14, rfl, okc_2, by decide, tw_237⟩,
   Or.inl ⟨1, rfl, dd_24_17, rfl⟩,
   ⟨dd_24_18, rfl⟩,
   ⟨by decide, Or.inl ⟨3, rfl, dd_24_19, rfl⟩⟩,
   Or.inl ⟨3, rfl, dd_24_20, rfl⟩,
   Or.inl (Or.inl ⟨dd_24_21, rfl⟩),
   ⟨13, dd_24_22, rfl, rfl⟩,
   Or.inl ⟨0, rfl, dd_24_25, rfl⟩,
   ⟨23, "PairMachine$Tree", fT2, 7, dd_24_26, rfl, okc_2, by decide, tw_236⟩,
   Or.inl ⟨1, rfl, dd_24_29, rfl⟩,
   Or.inl ⟨2, rfl, dd_24_30, rfl⟩,
   ⟨dd_24_31, rfl⟩,
   ⟨10, dd_24_32, rfl⟩,
   Or.inl ⟨0, rfl, dd_24_35, rfl⟩,
   ⟨29, "PairMachine$Tree", fT2, 7, dd_24_36, rfl, okc_2, by decide, tw_238⟩,
   Or.inl ⟨3, rfl, dd_24_39, rfl⟩,
   Or.inl ⟨2, rfl, dd_24_40, rfl⟩,
   ⟨dd_24_41, rfl⟩,
   Or.inl ⟨0, rfl, dd_24_42, rfl⟩,
   ⟨26, "PairMachine$Tree", fT2, 7, dd_24_43, rfl, okc_2, by decide, tw_237⟩,
   Or.inl ⟨1, rfl, dd_24_46, rfl⟩,
   Or.inl ⟨2, rfl, dd_24_47, rfl⟩,
   ⟨dd_24_48, rfl⟩,
   ⟨dd_24_49, rfl⟩, trivial⟩
theorem okM_24 : mj_okE gG 24 (cM_24, 4, oM_24, hM_24) := ⟨rfl, rfl, by decide +kernel, trivial, okI_24⟩
theorem dd_25_0 : decode prog_10_method_5_code 0 = .ok (.iload_n 2, 1) := by decide +kernel
theorem dd_25_1 : decode prog_10_method_5_code 1 = .ok (.ifCond .lt 17, 3) := by decide +kernel
theorem dd_25_4 : decode prog_10_method_5_code 4 = .ok (.iload_n 2, 1) := by decide +kernel
theorem dd_25_5 : decode prog_10_method_5_code 5 = .ok (.aload_n 0, 1) := by decide +kernel
theorem dd_25_6 : decode prog_10_method_5_code 6 = .ok (.getfield 32, 3) := by decide +kernel
theorem dd_25_9 : decode prog_10_method_5_code 9 = .ok (.if_icmp .ge 9, 3) := by decide +kernel
theorem dd_25_12 : decode prog_10_method_5_code 12 = .ok (.aload_n 1, 1) := by decide +kernel
theorem dd_25_13 : decode prog_10_method_5_code 13 = .ok (.iload_n 2, 1) := by decide +kernel
theorem dd_25_14 : decode prog_10_method_5_code 14 = .ok (.iaload, 1) := by decide +kernel
theorem dd_25_15 : decode prog_10_method_5_code 15 = .ok (.goto 4, 3) := by decide +kernel
theorem dd_25_18 : decode prog_10_method_5_code 18 = .ok (.iconst (-1), 1) := by decide +kernel
theorem dd_25_19 : decode prog_10_method_5_code 19 = .ok (.ireturn, 1) := by decide +kernel
set_option maxRecDepth 100000 in
theorem okI_25 : mj_okI gG "PairMachine$Tree" prog_10_method_5_code 3 (mj_off oM_25) (Option.some Jvm.ClassFile.FieldType.int) false true 0 cM_25 :=
  ⟨Or.inl ⟨2, rfl, dd_25_0, rfl⟩,
   ⟨17, dd_25_1, rfl, rfl⟩,
   Or.inl ⟨2, rfl, dd_25_4, rfl⟩,
   Or.inl ⟨0, rfl, dd_25_5, rfl⟩,
   ⟨32, "PairMachine$Tree", fT2, 7, dd_25_6, rfl, okc_2, by decide, tw_239⟩,
   ⟨9, dd_25_9, rfl, rfl⟩,
   Or.inl ⟨1, rfl, dd_25_12, rfl⟩,
   Or.inl ⟨2, rfl, dd_25_13, rfl⟩,
   ⟨dd_25_14, rfl⟩,
   ⟨4, dd_25_15, rfl⟩,
   Or.inl (Or.inl ⟨dd_25_18, rfl⟩),
   ⟨dd_25_19, rfl⟩, trivial⟩
theorem okM_25 : mj_okE gG 25 (cM_25, 3, oM_25, hM_25) := ⟨rfl, rfl, by decide +kernel, trivial, okI_25⟩
theorem dd_26_0 : decode prog_10_method_6_code 0 = .ok (.aload_n 0, 1) := by decide +kernel
theorem dd_26_1 : decode prog_10_method_6_code 1 = .ok (.aload_n 0, 1) := by decide +kernel
theorem dd_26_2 : decode prog_10_method_6_code 2 = .ok (.getfield 13, 3) := by decide +kernel
theorem dd_26_5 : decode prog_10_method_6_code 5 = .ok (.iload_n 1, 1) := by decide +kernel
theorem dd_26_6 : decode prog_10_method_6_code 6 = .ok (.invokevirtual 36, 3) := by decide +kernel
theorem dd_26_9 : decode prog_10_method_6_code 9 = .ok (.ireturn, 1) := by decide +kernel
set_option maxRecDepth 100000 in
theorem okI_26 : mj_okI gG "PairMachine$Tree" prog_10_method_6_code 2 (mj_off oM_26) (Option.some Jvm.ClassFile.FieldType.int) false true 0 cM_26 :=
  ⟨Or.inl ⟨0, rfl, dd_26_0, rfl⟩,
   Or.inl ⟨0, rfl, dd_26_1, rfl⟩,
   ⟨13, "PairMachine$Tree", fT2, 7, dd_26_2, rfl, okc_2, by decide, tw_233⟩,
   Or.inl ⟨1, rfl, dd_26_5, rfl⟩,
   ⟨rfl, tw_240, by decide, tw_109, by decide +kernel, 36, tw_241, dd_26_6, tw_242, ⟨"PairMachine$Tree", fT2, 7, rfl, tw_243⟩, by decide +kernel⟩,
   ⟨dd_26_9, rfl⟩, trivial⟩
theorem okM_26 : mj_okE gG 26 (cM_26, 2, oM_26, hM_26) := ⟨rfl, rfl, by decide +kernel, trivial, okI_26⟩
theorem dd_27_0 : decode prog_10_method_7_code 0 = .ok (.aload_n 0, 1) := by decide +kernel
theorem dd_27_1 : decode prog_10_method_7_code 1 = .ok (.aload_n 0, 1) := by decide +kernel
theorem dd_27_2 : decode prog_10_method_7_code 2 = .ok (.getfield 17, 3) := by decide +kernel
theorem dd_27_5 : decode prog_10_method_7_code 5 = .ok (.iload_n 1, 1) := by decide +kernel
theorem dd_27_6 : decode prog_10_method_7_code 6 = .ok (.invokevirtual 36, 3) := by decide +kernel
theorem dd_27_9 : decode prog_10_method_7_code 9 = .ok (.ireturn, 1) := by decide +kernel
set_option maxRecDepth 100000 in
theorem okI_27 : mj_okI gG "PairMachine$Tree" prog_10_method_7_code 2 (mj_off oM_27) (Option.some Jvm.ClassFile.FieldType.int) false true 0 cM_27 :=
  ⟨Or.inl ⟨0, rfl, dd_27_0, rfl⟩,
   Or.inl ⟨0, rfl, dd_27_1, rfl⟩,
   ⟨17, "PairMachine$Tree", fT2, 7, dd_27_2, rfl, okc_2, by decide, tw_234⟩,
   Or.inl ⟨1, rfl, dd_27_5, rfl⟩,
   ⟨rfl, tw_240, by decide, tw_109, by decide +kernel, 36, tw_241, dd_27_6, tw_242, ⟨"PairMachine$Tree", fT2, 7, rfl, tw_243⟩, by decide +kernel⟩,
   ⟨dd_27_9, rfl⟩, trivial⟩
theorem okM_27 : mj_okE gG 27 (cM_27, 2, oM_27, hM_27) := ⟨rfl, rfl, by decide +kernel, trivial, okI_27⟩
theorem dd_28_0 : decode prog_10_method_8_code 0 = .ok (.aload_n 0, 1) := by decide +kernel
theorem dd_28_1 : decode prog_10_method_8_code 1 = .ok (.aload_n 0, 1) := by decide +kernel
theorem dd_28_2 : decode prog_10_method_8_code 2 = .ok (.getfield 20, 3) := by decide +kernel
theorem dd_28_5 : decode prog_10_method_8_code 5 = .ok (.iload_n 1, 1) := by decide +kernel
theorem dd_28_6 : decode prog_10_method_8_code 6 = .ok (.invokevirtual 36, 3) := by decide +kernel
theorem dd_28_9 : decode prog_10_method_8_code 9 = .ok (.ireturn, 1) := by decide +kernel
set_option maxRecDepth 100000 in
theorem okI_28 : mj_okI gG "PairMachine$Tree" prog_10_method_8_code 2 (mj_off oM_28) (Option.some Jvm.ClassFile.FieldType.int) false true 0 cM_28 :=
  ⟨Or.inl ⟨0, rfl, dd_28_0, rfl⟩,
   Or.inl ⟨0, rfl, dd_28_1, rfl⟩,
   ⟨20, "PairMachine$Tree", fT2, 7, dd_28_2, rfl, okc_2, by decide, tw_235⟩,
   Or.inl ⟨1, rfl, dd_28_5, rfl⟩,
   ⟨rfl, tw_240, by decide, tw_109, by decide +kernel, 36, tw_241, dd_28_6, tw_242, ⟨"PairMachine$Tree", fT2, 7, rfl, tw_243⟩, by decide +kernel⟩,
   ⟨dd_28_9, rfl⟩, trivial⟩
theorem okM_28 : mj_okE gG 28 (cM_28, 2, oM_28, hM_28) := ⟨rfl, rfl, by decide +kernel, trivial, okI_28⟩
theorem dd_29_0 : decode prog_10_method_9_code 0 = .ok (.aload_n 0, 1) := by decide +kernel
theorem dd_29_1 : decode prog_10_method_9_code 1 = .ok (.aload_n 0, 1) := by decide +kernel
theorem dd_29_2 : decode prog_10_method_9_code 2 = .ok (.getfield 23, 3) := by decide +kernel
theorem dd_29_5 : decode prog_10_method_9_code 5 = .ok (.iload_n 1, 1) := by decide +kernel
theorem dd_29_6 : decode prog_10_method_9_code 6 = .ok (.invokevirtual 36, 3) := by decide +kernel
theorem dd_29_9 : decode prog_10_method_9_code 9 = .ok (.ireturn, 1) := by decide +kernel
set_option maxRecDepth 100000 in
theorem okI_29 : mj_okI gG "PairMachine$Tree" prog_10_method_9_code 2 (mj_off oM_29) (Option.some Jvm.ClassFile.FieldType.int) false true 0 cM_29 :=
  ⟨Or.inl ⟨0, rfl, dd_29_0, rfl⟩,
   Or.inl ⟨0, rfl, dd_29_1, rfl⟩,
   ⟨23, "PairMachine$Tree", fT2, 7, dd_29_2, rfl, okc_2, by decide, tw_236⟩,
   Or.inl ⟨1, rfl, dd_29_5, rfl⟩,
   ⟨rfl, tw_240, by decide, tw_109, by decide +kernel, 36, tw_241, dd_29_6, tw_242, ⟨"PairMachine$Tree", fT2, 7, rfl, tw_243⟩, by decide +kernel⟩,
   ⟨dd_29_9, rfl⟩, trivial⟩
theorem okM_29 : mj_okE gG 29 (cM_29, 2, oM_29, hM_29) := ⟨rfl, rfl, by decide +kernel, trivial, okI_29⟩
theorem dd_30_0 : decode prog_10_method_10_code 0 = .ok (.aload_n 0, 1) := by decide +kernel
theorem dd_30_1 : decode prog_10_method_10_code 1 = .ok (.aload_n 0, 1) := by decide +kernel
theorem dd_30_2 : decode prog_10_method_10_code 2 = .ok (.getfield 29, 3) := by decide +kernel
theorem dd_30_5 : decode prog_10_method_10_code 5 = .ok (.iload_n 1, 1) := by decide +kernel
theorem dd_30_6 : decode prog_10_method_10_code 6 = .ok (.invokevirtual 36, 3) := by decide +kernel
theorem dd_30_9 : decode prog_10_method_10_code 9 = .ok (.ireturn, 1) := by decide +kernel
set_option maxRecDepth 100000 in
theorem okI_30 : mj_okI gG "PairMachine$Tree" prog_10_method_10_code 2 (mj_off oM_30) (Option.some Jvm.ClassFile.FieldType.int) false true 0 cM_30 :=
  ⟨Or.inl ⟨0, rfl, dd_30_0, rfl⟩,
   Or.inl ⟨0, rfl, dd_30_1, rfl⟩,
   ⟨29, "PairMachine$Tree", fT2, 7, dd_30_2, rfl, okc_2, by decide, tw_238⟩,
   Or.inl ⟨1, rfl, dd_30_5, rfl⟩,
   ⟨rfl, tw_240, by decide, tw_109, by decide +kernel, 36, tw_241, dd_30_6, tw_242, ⟨"PairMachine$Tree", fT2, 7, rfl, tw_243⟩, by decide +kernel⟩,
   ⟨dd_30_9, rfl⟩, trivial⟩
theorem okM_30 : mj_okE gG 30 (cM_30, 2, oM_30, hM_30) := ⟨rfl, rfl, by decide +kernel, trivial, okI_30⟩
theorem dd_31_0 : decode prog_10_method_11_code 0 = .ok (.aload_n 0, 1) := by decide +kernel
theorem dd_31_1 : decode prog_10_method_11_code 1 = .ok (.iload_n 1, 1) := by decide +kernel
theorem dd_31_2 : decode prog_10_method_11_code 2 = .ok (.invokevirtual 40, 3) := by decide +kernel
theorem dd_31_5 : decode prog_10_method_11_code 5 = .ok (.istore_n 3, 1) := by decide +kernel
theorem dd_31_6 : decode prog_10_method_11_code 6 = .ok (.iconst 0, 1) := by decide +kernel
theorem dd_31_7 : decode prog_10_method_11_code 7 = .ok (.istore 4, 2) := by decide +kernel
theorem dd_31_9 : decode prog_10_method_11_code 9 = .ok (.iload 4, 2) := by decide +kernel
theorem dd_31_11 : decode prog_10_method_11_code 11 = .ok (.iload_n 2, 1) := by decide +kernel
theorem dd_31_12 : decode prog_10_method_11_code 12 = .ok (.if_icmp .ge 15, 3) := by decide +kernel
theorem dd_31_15 : decode prog_10_method_11_code 15 = .ok (.aload_n 0, 1) := by decide +kernel
theorem dd_31_16 : decode prog_10_method_11_code 16 = .ok (.iload_n 3, 1) := by decide +kernel
theorem dd_31_17 : decode prog_10_method_11_code 17 = .ok (.invokevirtual 44, 3) := by decide +kernel
theorem dd_31_20 : decode prog_10_method_11_code 20 = .ok (.istore_n 3, 1) := by decide +kernel
theorem dd_31_21 : decode prog_10_method_11_code 21 = .ok (.iinc 4 1, 3) := by decide +kernel
theorem dd_31_24 : decode prog_10_method_11_code 24 = .ok (.goto (-15), 3) := by decide +kernel
theorem dd_31_27 : decode prog_10_method_11_code 27 = .ok (.iload_n 3, 1) := by decide +kernel
theorem dd_31_28 : decode prog_10_method_11_code 28 = .ok (.ireturn, 1) := by decide +kernel
set_option maxRecDepth 100000 in
theorem okI_31 : mj_okI gG "PairMachine$Tree" prog_10_method_11_code 5 (mj_off oM_31) (Option.some Jvm.ClassFile.FieldType.int) false true 0 cM_31 :=
  ⟨Or.inl ⟨0, rfl, dd_31_0, rfl⟩,
   Or.inl ⟨1, rfl, dd_31_1, rfl⟩,
   ⟨rfl, tw_244, by decide, tw_109, by decide +kernel, 40, tw_245, dd_31_2, tw_246, ⟨"PairMachine$Tree", fT2, 7, rfl, tw_247⟩, by decide +kernel⟩,
   ⟨by decide, Or.inl ⟨3, rfl, dd_31_5, rfl⟩⟩,
   Or.inl (Or.inl ⟨dd_31_6, rfl⟩),
   ⟨by decide, Or.inr ⟨dd_31_7, rfl⟩⟩,
   Or.inr ⟨dd_31_9, rfl⟩,
   Or.inl ⟨2, rfl, dd_31_11, rfl⟩,
   ⟨15, dd_31_12, rfl, rfl⟩,
   Or.inl ⟨0, rfl, dd_31_15, rfl⟩,
   Or.inl ⟨3, rfl, dd_31_16, rfl⟩,
   ⟨rfl, tw_248, by decide, tw_109, by decide +kernel, 44, tw_249, dd_31_17, tw_250, ⟨"PairMachine$Tree", fT2, 7, rfl, tw_251⟩, by decide +kernel⟩,
   ⟨by decide, Or.inl ⟨3, rfl, dd_31_20, rfl⟩⟩,
   ⟨by decide, dd_31_21, rfl⟩,
   ⟨(-15), dd_31_24, rfl⟩,
   Or.inl ⟨3, rfl, dd_31_27, rfl⟩,
   ⟨dd_31_28, rfl⟩, trivial⟩
theorem okM_31 : mj_okE gG 31 (cM_31, 5, oM_31, hM_31) := ⟨rfl, rfl, by decide +kernel, trivial, okI_31⟩
theorem dd_32_0 : decode prog_10_method_12_code 0 = .ok (.iconst 0, 1) := by decide +kernel
theorem dd_32_1 : decode prog_10_method_12_code 1 = .ok (.istore_n 2, 1) := by decide +kernel
theorem dd_32_2 : decode prog_10_method_12_code 2 = .ok (.aload_n 0, 1) := by decide +kernel
theorem dd_32_3 : decode prog_10_method_12_code 3 = .ok (.iload_n 1, 1) := by decide +kernel
theorem dd_32_4 : decode prog_10_method_12_code 4 = .ok (.invokevirtual 40, 3) := by decide +kernel
theorem dd_32_7 : decode prog_10_method_12_code 7 = .ok (.istore_n 3, 1) := by decide +kernel
theorem dd_32_8 : decode prog_10_method_12_code 8 = .ok (.iload_n 3, 1) := by decide +kernel
theorem dd_32_9 : decode prog_10_method_12_code 9 = .ok (.iconst (-1), 1) := by decide +kernel
theorem dd_32_10 : decode prog_10_method_12_code 10 = .ok (.if_icmp .eq 21, 3) := by decide +kernel
theorem dd_32_13 : decode prog_10_method_12_code 13 = .ok (.iload_n 2, 1) := by decide +kernel
theorem dd_32_14 : decode prog_10_method_12_code 14 = .ok (.bipush 96, 2) := by decide +kernel
theorem dd_32_16 : decode prog_10_method_12_code 16 = .ok (.if_icmp .ge 15, 3) := by decide +kernel
theorem dd_32_19 : decode prog_10_method_12_code 19 = .ok (.iinc 2 1, 3) := by decide +kernel
theorem dd_32_22 : decode prog_10_method_12_code 22 = .ok (.aload_n 0, 1) := by decide +kernel
theorem dd_32_23 : decode prog_10_method_12_code 23 = .ok (.iload_n 3, 1) := by decide +kernel
theorem dd_32_24 : decode prog_10_method_12_code 24 = .ok (.invokevirtual 44, 3) := by decide +kernel
theorem dd_32_27 : decode prog_10_method_12_code 27 = .ok (.istore_n 3, 1) := by decide +kernel
theorem dd_32_28 : decode prog_10_method_12_code 28 = .ok (.goto (-20), 3) := by decide +kernel
theorem dd_32_31 : decode prog_10_method_12_code 31 = .ok (.iload_n 2, 1) := by decide +kernel
theorem dd_32_32 : decode prog_10_method_12_code 32 = .ok (.ireturn, 1) := by decide +kernel
set_option maxRecDepth 100000 in
theorem okI_32 : mj_okI gG "PairMachine$Tree" prog_10_method_12_code 4 (mj_off oM_32) (Option.some Jvm.ClassFile.FieldType.int) false true 0 cM_32 :=
  ⟨Or.inl (Or.inl ⟨dd_32_0, rfl⟩),
   ⟨by decide, Or.inl ⟨2, rfl, dd_32_1, rfl⟩⟩,
   Or.inl ⟨0, rfl, dd_32_2, rfl⟩,
   Or.inl ⟨1, rfl, dd_32_3, rfl⟩,
   ⟨rfl, tw_244, by decide, tw_109, by decide +kernel, 40, tw_245, dd_32_4, tw_246, ⟨"PairMachine$Tree", fT2, 7, rfl, tw_247⟩, by decide +kernel⟩,
   ⟨by decide, Or.inl ⟨3, rfl, dd_32_7, rfl⟩⟩,
   Or.inl ⟨3, rfl, dd_32_8, rfl⟩,
   Or.inl (Or.inl ⟨dd_32_9, rfl⟩),
   ⟨21, dd_32_10, rfl, rfl⟩,
   Or.inl ⟨2, rfl, dd_32_13, rfl⟩,
   Or.inl (Or.inr (Or.inl ⟨dd_32_14, rfl, by decide⟩)),
   ⟨15, dd_32_16, rfl, rfl⟩,
   ⟨by decide, dd_32_19, rfl⟩,
   Or.inl ⟨0, rfl, dd_32_22, rfl⟩,
   Or.inl ⟨3, rfl, dd_32_23, rfl⟩,
   ⟨rfl, tw_248, by decide, tw_109, by decide +kernel, 44, tw_249, dd_32_24, tw_250, ⟨"PairMachine$Tree", fT2, 7, rfl, tw_251⟩, by decide +kernel⟩,
   ⟨by decide, Or.inl ⟨3, rfl, dd_32_27, rfl⟩⟩,
   ⟨(-20), dd_32_28, rfl⟩,
   Or.inl ⟨2, rfl, dd_32_31, rfl⟩,
   ⟨dd_32_32, rfl⟩, trivial⟩
theorem okM_32 : mj_okE gG 32 (cM_32, 4, oM_32, hM_32) := ⟨rfl, rfl, by decide +kernel, trivial, okI_32⟩
theorem dd_33_0 : decode prog_10_method_13_code 0 = .ok (.iconst 0, 1) := by decide +kernel
theorem dd_33_1 : decode prog_10_method_13_code 1 = .ok (.istore_n 3, 1) := by decide +kernel
theorem dd_33_2 : decode prog_10_method_13_code 2 = .ok (.iload_n 2, 1) := by decide +kernel
theorem dd_33_3 : decode prog_10_method_13_code 3 = .ok (.istore 4, 2) := by decide +kernel
theorem dd_33_5 : decode prog_10_method_13_code 5 = .ok (.iload 4, 2) := by decide +kernel
theorem dd_33_7 : decode prog_10_method_13_code 7 = .ok (.ifCond .lt 46, 3) := by decide +kernel
theorem dd_33_10 : decode prog_10_method_13_code 10 = .ok (.iload 4, 2) := by decide +kernel
theorem dd_33_12 : decode prog_10_method_13_code 12 = .ok (.aload_n 0, 1) := by decide +kernel
theorem dd_33_13 : decode prog_10_method_13_code 13 = .ok (.getfield 32, 3) := by decide +kernel
theorem dd_33_16 : decode prog_10_method_13_code 16 = .ok (.if_icmp .ge 37, 3) := by decide +kernel
theorem dd_33_19 : decode prog_10_method_13_code 19 = .ok (.iload_n 3, 1) := by decide +kernel
theorem dd_33_20 : decode prog_10_method_13_code 20 = .ok (.bipush 96, 2) := by decide +kernel
theorem dd_33_22 : decode prog_10_method_13_code 22 = .ok (.if_icmp .ge 31, 3) := by decide +kernel
theorem dd_33_25 : decode prog_10_method_13_code 25 = .ok (.aload_n 0, 1) := by decide +kernel
theorem dd_33_26 : decode prog_10_method_13_code 26 = .ok (.getfield 17, 3) := by decide +kernel
theorem dd_33_29 : decode prog_10_method_13_code 29 = .ok (.iload 4, 2) := by decide +kernel
theorem dd_33_31 : decode prog_10_method_13_code 31 = .ok (.iaload, 1) := by decide +kernel
theorem dd_33_32 : decode prog_10_method_13_code 32 = .ok (.iload_n 1, 1) := by decide +kernel
theorem dd_33_33 : decode prog_10_method_13_code 33 = .ok (.if_icmp .ne 5, 3) := by decide +kernel
theorem dd_33_36 : decode prog_10_method_13_code 36 = .ok (.iload_n 3, 1) := by decide +kernel
theorem dd_33_37 : decode prog_10_method_13_code 37 = .ok (.ireturn, 1) := by decide +kernel
theorem dd_33_38 : decode prog_10_method_13_code 38 = .ok (.iinc 3 1, 3) := by decide +kernel
theorem dd_33_41 : decode prog_10_method_13_code 41 = .ok (.aload_n 0, 1) := by decide +kernel
theorem dd_33_42 : decode prog_10_method_13_code 42 = .ok (.getfield 29, 3) := by decide +kernel
theorem dd_33_45 : decode prog_10_method_13_code 45 = .ok (.iload 4, 2) := by decide +kernel
theorem dd_33_47 : decode prog_10_method_13_code 47 = .ok (.iaload, 1) := by decide +kernel
theorem dd_33_48 : decode prog_10_method_13_code 48 = .ok (.istore 4, 2) := by decide +kernel
theorem dd_33_50 : decode prog_10_method_13_code 50 = .ok (.goto (-45), 3) := by decide +kernel
theorem dd_33_53 : decode prog_10_method_13_code 53 = .ok (.iconst (-1), 1) := by decide +kernel
theorem dd_33_54 : decode prog_10_method_13_code 54 = .ok (.ireturn, 1) := by decide +kernel
set_option maxRecDepth 100000 in
theorem okI_33 : mj_okI gG "PairMachine$Tree" prog_10_method_13_code 5 (mj_off oM_33) (Option.some Jvm.ClassFile.FieldType.int) false true 0 cM_33 :=
  ⟨Or.inl (Or.inl ⟨dd_33_0, rfl⟩),
   ⟨by decide, Or.inl ⟨3, rfl, dd_33_1, rfl⟩⟩,
   Or.inl ⟨2, rfl, dd_33_2, rfl⟩,
   ⟨by decide, Or.inr ⟨dd_33_3, rfl⟩⟩,
   Or.inr ⟨dd_33_5, rfl⟩,
   ⟨46, dd_33_7, rfl, rfl⟩,
   Or.inr ⟨dd_33_10, rfl⟩,
   Or.inl ⟨0, rfl, dd_33_12, rfl⟩,
   ⟨32, "PairMachine$Tree", fT2, 7, dd_33_13, rfl, okc_2, by decide, tw_239⟩,
   ⟨37, dd_33_16, rfl, rfl⟩,
   Or.inl ⟨3, rfl, dd_33_19, rfl⟩,
   Or.inl (Or.inr (Or.inl ⟨dd_33_20, rfl, by decide⟩)),
   ⟨31, dd_33_22, rfl, rfl⟩,
   Or.inl ⟨0, rfl, dd_33_25, rfl⟩,
   ⟨17, "PairMachine$Tree", fT2, 7, dd_33_26, rfl, okc_2, by decide, tw_234⟩,
   Or.inr ⟨dd_33_29, rfl⟩,
   ⟨dd_33_31, rfl⟩,
   Or.inl ⟨1, rfl, dd_33_32, rfl⟩,
   ⟨5, dd_33_33, rfl, rfl⟩,
   Or.inl ⟨3, rfl, dd_33_36, rfl⟩,
   ⟨dd_33_37, rfl⟩,
   ⟨by decide, dd_33_38, rfl⟩,
   Or.inl ⟨0, rfl, dd_33_41, rfl⟩,
   ⟨29, "PairMachine$Tree", fT2, 7, dd_33_42, rfl, okc_2, by decide, tw_238⟩,
   Or.inr ⟨dd_33_45, rfl⟩,
   ⟨dd_33_47, rfl⟩,
   ⟨by decide, Or.inr ⟨dd_33_48, rfl⟩⟩,
   ⟨(-45), dd_33_50, rfl⟩,
   Or.inl (Or.inl ⟨dd_33_53, rfl⟩),
   ⟨dd_33_54, rfl⟩, trivial⟩
theorem okM_33 : mj_okE gG 33 (cM_33, 5, oM_33, hM_33) := ⟨rfl, rfl, by decide +kernel, trivial, okI_33⟩
theorem dd_34_0 : decode prog_7_method_1_code 0 = .ok (.aload_n 0, 1) := by decide +kernel
theorem dd_34_1 : decode prog_7_method_1_code 1 = .ok (.invokespecial 3, 3) := by decide +kernel
theorem dd_34_4 : decode prog_7_method_1_code 4 = .ok (.aload_n 0, 1) := by decide +kernel
theorem dd_34_5 : decode prog_7_method_1_code 5 = .ok (.aload_n 1, 1) := by decide +kernel
theorem dd_34_6 : decode prog_7_method_1_code 6 = .ok (.putfield 9, 3) := by decide +kernel
theorem dd_34_9 : decode prog_7_method_1_code 9 = .ok (.aload_n 0, 1) := by decide +kernel
theorem dd_34_10 : decode prog_7_method_1_code 10 = .ok (.aload_n 2, 1) := by decide +kernel
theorem dd_34_11 : decode prog_7_method_1_code 11 = .ok (.putfield 15, 3) := by decide +kernel
theorem dd_34_14 : decode prog_7_method_1_code 14 = .ok (.return_, 1) := by decide +kernel
set_option maxRecDepth 100000 in
theorem okI_34 : mj_okI gG "PairMachine$Reader" prog_7_method_1_code 3 (mj_off oM_34) (Option.none : Option Jvm.ClassFile.FieldType) true true 0 cM_34 :=
  ⟨Or.inl ⟨0, rfl, dd_34_0, rfl⟩,
   ⟨3, dd_34_1, rfl, tw_252, tw_97, tw_98⟩,
   Or.inl ⟨0, rfl, dd_34_4, rfl⟩,
   Or.inl ⟨1, rfl, dd_34_5, rfl⟩,
   ⟨9, "PairMachine$Reader", fT3, 3, dd_34_6, rfl, okc_3, by decide, tw_253, Or.inl ⟨_, rfl⟩, Or.inr ⟨rfl, by decide, rfl⟩⟩,
   Or.inl ⟨0, rfl, dd_34_9, rfl⟩,
   Or.inl ⟨2, rfl, dd_34_10, rfl⟩,
   ⟨15, "PairMachine$Reader", fT3, 3, dd_34_11, rfl, okc_3, by decide, tw_254, Or.inl ⟨_, rfl⟩, Or.inr ⟨rfl, by decide, rfl⟩⟩,
   ⟨dd_34_14, rfl⟩, trivial⟩
theorem okM_34 : mj_okE gG 34 (cM_34, 3, oM_34, hM_34) := ⟨rfl, rfl, by decide +kernel, trivial, okI_34⟩
end
