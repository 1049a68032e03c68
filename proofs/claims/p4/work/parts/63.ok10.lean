section
theorem dd_156_0 : decode prog_13_method_3_code 0 = .ok (.aload_n 0, 1) := by decide +kernel
theorem dd_156_1 : decode prog_13_method_3_code 1 = .ok (.iconst 0, 1) := by decide +kernel
theorem dd_156_2 : decode prog_13_method_3_code 2 = .ok (.putfield 97, 3) := by decide +kernel
theorem dd_156_5 : decode prog_13_method_3_code 5 = .ok (.iconst 0, 1) := by decide +kernel
theorem dd_156_6 : decode prog_13_method_3_code 6 = .ok (.istore_n 3, 1) := by decide +kernel
theorem dd_156_7 : decode prog_13_method_3_code 7 = .ok (.bipush 56, 2) := by decide +kernel
theorem dd_156_9 : decode prog_13_method_3_code 9 = .ok (.istore 4, 2) := by decide +kernel
theorem dd_156_11 : decode prog_13_method_3_code 11 = .ok (.iload 4, 2) := by decide +kernel
theorem dd_156_13 : decode prog_13_method_3_code 13 = .ok (.ifCond .lt 58, 3) := by decide +kernel
theorem dd_156_16 : decode prog_13_method_3_code 16 = .ok (.lload_n 1, 1) := by decide +kernel
theorem dd_156_17 : decode prog_13_method_3_code 17 = .ok (.iload 4, 2) := by decide +kernel
theorem dd_156_19 : decode prog_13_method_3_code 19 = .ok (.lushr, 1) := by decide +kernel
theorem dd_156_20 : decode prog_13_method_3_code 20 = .ok (.ldc2_w 100, 3) := by decide +kernel
theorem dd_156_23 : decode prog_13_method_3_code 23 = .ok (.land, 1) := by decide +kernel
theorem dd_156_24 : decode prog_13_method_3_code 24 = .ok (.l2i, 1) := by decide +kernel
theorem dd_156_25 : decode prog_13_method_3_code 25 = .ok (.istore 5, 2) := by decide +kernel
theorem dd_156_27 : decode prog_13_method_3_code 27 = .ok (.iload 5, 2) := by decide +kernel
theorem dd_156_29 : decode prog_13_method_3_code 29 = .ok (.ifCond .eq 19, 3) := by decide +kernel
theorem dd_156_32 : decode prog_13_method_3_code 32 = .ok (.iload 5, 2) := by decide +kernel
theorem dd_156_34 : decode prog_13_method_3_code 34 = .ok (.bipush 32, 2) := by decide +kernel
theorem dd_156_36 : decode prog_13_method_3_code 36 = .ok (.if_icmp .lt 10, 3) := by decide +kernel
theorem dd_156_39 : decode prog_13_method_3_code 39 = .ok (.iload 5, 2) := by decide +kernel
theorem dd_156_41 : decode prog_13_method_3_code 41 = .ok (.bipush 126, 2) := by decide +kernel
theorem dd_156_43 : decode prog_13_method_3_code 43 = .ok (.if_icmp .le 5, 3) := by decide +kernel
theorem dd_156_46 : decode prog_13_method_3_code 46 = .ok (.iconst 0, 1) := by decide +kernel
theorem dd_156_47 : decode prog_13_method_3_code 47 = .ok (.ireturn, 1) := by decide +kernel
theorem dd_156_48 : decode prog_13_method_3_code 48 = .ok (.iload 5, 2) := by decide +kernel
theorem dd_156_50 : decode prog_13_method_3_code 50 = .ok (.ifCond .eq 9, 3) := by decide +kernel
theorem dd_156_53 : decode prog_13_method_3_code 53 = .ok (.iload_n 3, 1) := by decide +kernel
theorem dd_156_54 : decode prog_13_method_3_code 54 = .ok (.iconst 1, 1) := by decide +kernel
theorem dd_156_55 : decode prog_13_method_3_code 55 = .ok (.iadd, 1) := by decide +kernel
theorem dd_156_56 : decode prog_13_method_3_code 56 = .ok (.goto 4, 3) := by decide +kernel
theorem dd_156_59 : decode prog_13_method_3_code 59 = .ok (.iload_n 3, 1) := by decide +kernel
theorem dd_156_60 : decode prog_13_method_3_code 60 = .ok (.istore_n 3, 1) := by decide +kernel
theorem dd_156_61 : decode prog_13_method_3_code 61 = .ok (.iload 4, 2) := by decide +kernel
theorem dd_156_63 : decode prog_13_method_3_code 63 = .ok (.bipush 8, 2) := by decide +kernel
theorem dd_156_65 : decode prog_13_method_3_code 65 = .ok (.isub, 1) := by decide +kernel
theorem dd_156_66 : decode prog_13_method_3_code 66 = .ok (.istore 4, 2) := by decide +kernel
theorem dd_156_68 : decode prog_13_method_3_code 68 = .ok (.goto (-57), 3) := by decide +kernel
theorem dd_156_71 : decode prog_13_method_3_code 71 = .ok (.aload_n 0, 1) := by decide +kernel
theorem dd_156_72 : decode prog_13_method_3_code 72 = .ok (.getfield 102, 3) := by decide +kernel
theorem dd_156_75 : decode prog_13_method_3_code 75 = .ok (.iload_n 3, 1) := by decide +kernel
theorem dd_156_76 : decode prog_13_method_3_code 76 = .ok (.iadd, 1) := by decide +kernel
theorem dd_156_77 : decode prog_13_method_3_code 77 = .ok (.bipush 96, 2) := by decide +kernel
theorem dd_156_79 : decode prog_13_method_3_code 79 = .ok (.if_icmp .le 5, 3) := by decide +kernel
theorem dd_156_82 : decode prog_13_method_3_code 82 = .ok (.iconst 0, 1) := by decide +kernel
theorem dd_156_83 : decode prog_13_method_3_code 83 = .ok (.ireturn, 1) := by decide +kernel
theorem dd_156_84 : decode prog_13_method_3_code 84 = .ok (.bipush 56, 2) := by decide +kernel
theorem dd_156_86 : decode prog_13_method_3_code 86 = .ok (.istore 4, 2) := by decide +kernel
theorem dd_156_88 : decode prog_13_method_3_code 88 = .ok (.iload 4, 2) := by decide +kernel
theorem dd_156_90 : decode prog_13_method_3_code 90 = .ok (.ifCond .lt 51, 3) := by decide +kernel
theorem dd_156_93 : decode prog_13_method_3_code 93 = .ok (.lload_n 1, 1) := by decide +kernel
theorem dd_156_94 : decode prog_13_method_3_code 94 = .ok (.iload 4, 2) := by decide +kernel
theorem dd_156_96 : decode prog_13_method_3_code 96 = .ok (.lushr, 1) := by decide +kernel
theorem dd_156_97 : decode prog_13_method_3_code 97 = .ok (.ldc2_w 100, 3) := by decide +kernel
theorem dd_156_100 : decode prog_13_method_3_code 100 = .ok (.land, 1) := by decide +kernel
theorem dd_156_101 : decode prog_13_method_3_code 101 = .ok (.l2i, 1) := by decide +kernel
theorem dd_156_102 : decode prog_13_method_3_code 102 = .ok (.istore 5, 2) := by decide +kernel
theorem dd_156_104 : decode prog_13_method_3_code 104 = .ok (.iload 5, 2) := by decide +kernel
theorem dd_156_106 : decode prog_13_method_3_code 106 = .ok (.ifCond .eq 25, 3) := by decide +kernel
theorem dd_156_109 : decode prog_13_method_3_code 109 = .ok (.aload_n 0, 1) := by decide +kernel
theorem dd_156_110 : decode prog_13_method_3_code 110 = .ok (.getfield 7, 3) := by decide +kernel
theorem dd_156_113 : decode prog_13_method_3_code 113 = .ok (.aload_n 0, 1) := by decide +kernel
theorem dd_156_114 : decode prog_13_method_3_code 114 = .ok (.getfield 102, 3) := by decide +kernel
theorem dd_156_117 : decode prog_13_method_3_code 117 = .ok (.iload 5, 2) := by decide +kernel
theorem dd_156_119 : decode prog_13_method_3_code 119 = .ok (.i2c, 1) := by decide +kernel
theorem dd_156_120 : decode prog_13_method_3_code 120 = .ok (.castore, 1) := by decide +kernel
theorem dd_156_121 : decode prog_13_method_3_code 121 = .ok (.aload_n 0, 1) := by decide +kernel
theorem dd_156_122 : decode prog_13_method_3_code 122 = .ok (.dup, 1) := by decide +kernel
theorem dd_156_123 : decode prog_13_method_3_code 123 = .ok (.getfield 102, 3) := by decide +kernel
theorem dd_156_126 : decode prog_13_method_3_code 126 = .ok (.iconst 1, 1) := by decide +kernel
theorem dd_156_127 : decode prog_13_method_3_code 127 = .ok (.iadd, 1) := by decide +kernel
theorem dd_156_128 : decode prog_13_method_3_code 128 = .ok (.putfield 102, 3) := by decide +kernel
theorem dd_156_131 : decode prog_13_method_3_code 131 = .ok (.iload 4, 2) := by decide +kernel
theorem dd_156_133 : decode prog_13_method_3_code 133 = .ok (.bipush 8, 2) := by decide +kernel
theorem dd_156_135 : decode prog_13_method_3_code 135 = .ok (.isub, 1) := by decide +kernel
theorem dd_156_136 : decode prog_13_method_3_code 136 = .ok (.istore 4, 2) := by decide +kernel
theorem dd_156_138 : decode prog_13_method_3_code 138 = .ok (.goto (-50), 3) := by decide +kernel
theorem dd_156_141 : decode prog_13_method_3_code 141 = .ok (.iconst 1, 1) := by decide +kernel
theorem dd_156_142 : decode prog_13_method_3_code 142 = .ok (.ireturn, 1) := by decide +kernel
set_option maxRecDepth 100000 in
theorem okI_156 : mj_okI gG "PairMachineModel" prog_13_method_3_code 6 (mj_off oM_156) (Option.some Jvm.ClassFile.FieldType.boolean) false true 0 cM_156 :=
  ⟨Or.inl ⟨0, rfl, dd_156_0, rfl⟩,
   Or.inl (Or.inl ⟨dd_156_1, rfl⟩),
   ⟨97, "PairMachineModel", fT10, 45, dd_156_2, rfl, okc_10, by decide, tw_829, rfl, Or.inl rfl⟩,
   Or.inl (Or.inl ⟨dd_156_5, rfl⟩),
   ⟨by decide, Or.inl ⟨3, rfl, dd_156_6, rfl⟩⟩,
   Or.inl (Or.inr (Or.inl ⟨dd_156_7, rfl, by decide⟩)),
   ⟨by decide, Or.inr ⟨dd_156_9, rfl⟩⟩,
   Or.inr ⟨dd_156_11, rfl⟩,
   ⟨58, dd_156_13, rfl, rfl⟩,
   Or.inl ⟨1, rfl, dd_156_16, rfl⟩,
   Or.inr ⟨dd_156_17, rfl⟩,
   ⟨dd_156_19, rfl⟩,
   Or.inr ⟨100, dd_156_20, rfl, tw_830⟩,
   ⟨dd_156_23, rfl⟩,
   ⟨dd_156_24, rfl⟩,
   ⟨by decide, Or.inr ⟨dd_156_25, rfl⟩⟩,
   Or.inr ⟨dd_156_27, rfl⟩,
   ⟨19, dd_156_29, rfl, rfl⟩,
   Or.inr ⟨dd_156_32, rfl⟩,
   Or.inl (Or.inr (Or.inl ⟨dd_156_34, rfl, by decide⟩)),
   ⟨10, dd_156_36, rfl, rfl⟩,
   Or.inr ⟨dd_156_39, rfl⟩,
   Or.inl (Or.inr (Or.inl ⟨dd_156_41, rfl, by decide⟩)),
   ⟨5, dd_156_43, rfl, rfl⟩,
   Or.inl (Or.inl ⟨dd_156_46, rfl⟩),
   ⟨dd_156_47, rfl⟩,
   Or.inr ⟨dd_156_48, rfl⟩,
   ⟨9, dd_156_50, rfl, rfl⟩,
   Or.inl ⟨3, rfl, dd_156_53, rfl⟩,
   Or.inl (Or.inl ⟨dd_156_54, rfl⟩),
   ⟨dd_156_55, rfl⟩,
   ⟨4, dd_156_56, rfl⟩,
   Or.inl ⟨3, rfl, dd_156_59, rfl⟩,
   ⟨by decide, Or.inl ⟨3, rfl, dd_156_60, rfl⟩⟩,
   Or.inr ⟨dd_156_61, rfl⟩,
   Or.inl (Or.inr (Or.inl ⟨dd_156_63, rfl, by decide⟩)),
   ⟨dd_156_65, rfl⟩,
   ⟨by decide, Or.inr ⟨dd_156_66, rfl⟩⟩,
   ⟨(-57), dd_156_68, rfl⟩,
   Or.inl ⟨0, rfl, dd_156_71, rfl⟩,
   ⟨102, "PairMachineModel", fT10, 45, dd_156_72, rfl, okc_10, by decide, tw_831⟩,
   Or.inl ⟨3, rfl, dd_156_75, rfl⟩,
   ⟨dd_156_76, rfl⟩,
   Or.inl (Or.inr (Or.inl ⟨dd_156_77, rfl, by decide⟩)),
   ⟨5, dd_156_79, rfl, rfl⟩,
   Or.inl (Or.inl ⟨dd_156_82, rfl⟩),
   ⟨dd_156_83, rfl⟩,
   Or.inl (Or.inr (Or.inl ⟨dd_156_84, rfl, by decide⟩)),
   ⟨by decide, Or.inr ⟨dd_156_86, rfl⟩⟩,
   Or.inr ⟨dd_156_88, rfl⟩,
   ⟨51, dd_156_90, rfl, rfl⟩,
   Or.inl ⟨1, rfl, dd_156_93, rfl⟩,
   Or.inr ⟨dd_156_94, rfl⟩,
   ⟨dd_156_96, rfl⟩,
   Or.inr ⟨100, dd_156_97, rfl, tw_830⟩,
   ⟨dd_156_100, rfl⟩,
   ⟨dd_156_101, rfl⟩,
   ⟨by decide, Or.inr ⟨dd_156_102, rfl⟩⟩,
   Or.inr ⟨dd_156_104, rfl⟩,
   ⟨25, dd_156_106, rfl, rfl⟩,
   Or.inl ⟨0, rfl, dd_156_109, rfl⟩,
   ⟨7, "PairMachineModel", fT10, 45, dd_156_110, rfl, okc_10, by decide, tw_801⟩,
   Or.inl ⟨0, rfl, dd_156_113, rfl⟩,
   ⟨102, "PairMachineModel", fT10, 45, dd_156_114, rfl, okc_10, by decide, tw_831⟩,
   Or.inr ⟨dd_156_117, rfl⟩,
   ⟨dd_156_119, rfl⟩,
   ⟨dd_156_120, rfl⟩,
   Or.inl ⟨0, rfl, dd_156_121, rfl⟩,
   ⟨dd_156_122, rfl⟩,
   ⟨102, "PairMachineModel", fT10, 45, dd_156_123, rfl, okc_10, by decide, tw_831⟩,
   Or.inl (Or.inl ⟨dd_156_126, rfl⟩),
   ⟨dd_156_127, rfl⟩,
   ⟨102, "PairMachineModel", fT10, 45, dd_156_128, rfl, okc_10, by decide, tw_831, rfl, Or.inl rfl⟩,
   Or.inr ⟨dd_156_131, rfl⟩,
   Or.inl (Or.inr (Or.inl ⟨dd_156_133, rfl, by decide⟩)),
   ⟨dd_156_135, rfl⟩,
   ⟨by decide, Or.inr ⟨dd_156_136, rfl⟩⟩,
   ⟨(-50), dd_156_138, rfl⟩,
   Or.inl (Or.inl ⟨dd_156_141, rfl⟩),
   ⟨dd_156_142, rfl⟩, trivial⟩
theorem okM_156 : mj_okE gG 156 (cM_156, 6, oM_156, hM_156) := ⟨rfl, rfl, by decide +kernel, trivial, okI_156⟩
theorem dd_157_0 : decode prog_13_method_4_code 0 = .ok (.aload_n 0, 1) := by decide +kernel
theorem dd_157_1 : decode prog_13_method_4_code 1 = .ok (.getfield 105, 3) := by decide +kernel
theorem dd_157_4 : decode prog_13_method_4_code 4 = .ok (.iload_n 1, 1) := by decide +kernel
theorem dd_157_5 : decode prog_13_method_4_code 5 = .ok (.iadd, 1) := by decide +kernel
theorem dd_157_6 : decode prog_13_method_4_code 6 = .ok (.aload_n 0, 1) := by decide +kernel
theorem dd_157_7 : decode prog_13_method_4_code 7 = .ok (.getfield 102, 3) := by decide +kernel
theorem dd_157_10 : decode prog_13_method_4_code 10 = .ok (.if_icmp .ge 17, 3) := by decide +kernel
theorem dd_157_13 : decode prog_13_method_4_code 13 = .ok (.aload_n 0, 1) := by decide +kernel
theorem dd_157_14 : decode prog_13_method_4_code 14 = .ok (.getfield 7, 3) := by decide +kernel
theorem dd_157_17 : decode prog_13_method_4_code 17 = .ok (.aload_n 0, 1) := by decide +kernel
theorem dd_157_18 : decode prog_13_method_4_code 18 = .ok (.getfield 105, 3) := by decide +kernel
theorem dd_157_21 : decode prog_13_method_4_code 21 = .ok (.iload_n 1, 1) := by decide +kernel
theorem dd_157_22 : decode prog_13_method_4_code 22 = .ok (.iadd, 1) := by decide +kernel
theorem dd_157_23 : decode prog_13_method_4_code 23 = .ok (.caload, 1) := by decide +kernel
theorem dd_157_24 : decode prog_13_method_4_code 24 = .ok (.goto 4, 3) := by decide +kernel
theorem dd_157_27 : decode prog_13_method_4_code 27 = .ok (.iconst 0, 1) := by decide +kernel
theorem dd_157_28 : decode prog_13_method_4_code 28 = .ok (.ireturn, 1) := by decide +kernel
set_option maxRecDepth 100000 in
theorem okI_157 : mj_okI gG "PairMachineModel" prog_13_method_4_code 2 (mj_off oM_157) (Option.some Jvm.ClassFile.FieldType.char) false true 0 cM_157 :=
  ⟨Or.inl ⟨0, rfl, dd_157_0, rfl⟩,
   ⟨105, "PairMachineModel", fT10, 45, dd_157_1, rfl, okc_10, by decide, tw_832⟩,
   Or.inl ⟨1, rfl, dd_157_4, rfl⟩,
   ⟨dd_157_5, rfl⟩,
   Or.inl ⟨0, rfl, dd_157_6, rfl⟩,
   ⟨102, "PairMachineModel", fT10, 45, dd_157_7, rfl, okc_10, by decide, tw_831⟩,
   ⟨17, dd_157_10, rfl, rfl⟩,
   Or.inl ⟨0, rfl, dd_157_13, rfl⟩,
   ⟨7, "PairMachineModel", fT10, 45, dd_157_14, rfl, okc_10, by decide, tw_801⟩,
   Or.inl ⟨0, rfl, dd_157_17, rfl⟩,
   ⟨105, "PairMachineModel", fT10, 45, dd_157_18, rfl, okc_10, by decide, tw_832⟩,
   Or.inl ⟨1, rfl, dd_157_21, rfl⟩,
   ⟨dd_157_22, rfl⟩,
   ⟨dd_157_23, rfl⟩,
   ⟨4, dd_157_24, rfl⟩,
   Or.inl (Or.inl ⟨dd_157_27, rfl⟩),
   ⟨dd_157_28, rfl⟩, trivial⟩
theorem okM_157 : mj_okE gG 157 (cM_157, 2, oM_157, hM_157) := ⟨rfl, rfl, by decide +kernel, trivial, okI_157⟩
theorem dd_158_0 : decode prog_13_method_5_code 0 = .ok (.aload_n 0, 1) := by decide +kernel
theorem dd_158_1 : decode prog_13_method_5_code 1 = .ok (.iconst 0, 1) := by decide +kernel
theorem dd_158_2 : decode prog_13_method_5_code 2 = .ok (.invokevirtual 108, 3) := by decide +kernel
theorem dd_158_5 : decode prog_13_method_5_code 5 = .ok (.iload_n 1, 1) := by decide +kernel
theorem dd_158_6 : decode prog_13_method_5_code 6 = .ok (.if_icmp .ne 7, 3) := by decide +kernel
theorem dd_158_9 : decode prog_13_method_5_code 9 = .ok (.iconst 1, 1) := by decide +kernel
theorem dd_158_10 : decode prog_13_method_5_code 10 = .ok (.goto 4, 3) := by decide +kernel
theorem dd_158_13 : decode prog_13_method_5_code 13 = .ok (.iconst 0, 1) := by decide +kernel
theorem dd_158_14 : decode prog_13_method_5_code 14 = .ok (.istore_n 2, 1) := by decide +kernel
theorem dd_158_15 : decode prog_13_method_5_code 15 = .ok (.aload_n 0, 1) := by decide +kernel
theorem dd_158_16 : decode prog_13_method_5_code 16 = .ok (.iload_n 2, 1) := by decide +kernel
theorem dd_158_17 : decode prog_13_method_5_code 17 = .ok (.ifCond .eq 12, 3) := by decide +kernel
theorem dd_158_20 : decode prog_13_method_5_code 20 = .ok (.aload_n 0, 1) := by decide +kernel
theorem dd_158_21 : decode prog_13_method_5_code 21 = .ok (.getfield 105, 3) := by decide +kernel
theorem dd_158_24 : decode prog_13_method_5_code 24 = .ok (.iconst 1, 1) := by decide +kernel
theorem dd_158_25 : decode prog_13_method_5_code 25 = .ok (.iadd, 1) := by decide +kernel
theorem dd_158_26 : decode prog_13_method_5_code 26 = .ok (.goto 7, 3) := by decide +kernel
theorem dd_158_29 : decode prog_13_method_5_code 29 = .ok (.aload_n 0, 1) := by decide +kernel
theorem dd_158_30 : decode prog_13_method_5_code 30 = .ok (.getfield 105, 3) := by decide +kernel
theorem dd_158_33 : decode prog_13_method_5_code 33 = .ok (.putfield 105, 3) := by decide +kernel
theorem dd_158_36 : decode prog_13_method_5_code 36 = .ok (.iload_n 2, 1) := by decide +kernel
theorem dd_158_37 : decode prog_13_method_5_code 37 = .ok (.ireturn, 1) := by decide +kernel
set_option maxRecDepth 100000 in
theorem okI_158 : mj_okI gG "PairMachineModel" prog_13_method_5_code 3 (mj_off oM_158) (Option.some Jvm.ClassFile.FieldType.boolean) false true 0 cM_158 :=
  ⟨Or.inl ⟨0, rfl, dd_158_0, rfl⟩,
   Or.inl (Or.inl ⟨dd_158_1, rfl⟩),
   ⟨rfl, tw_833, by decide, tw_12, by decide +kernel, 108, tw_834, dd_158_2, tw_835, ⟨"PairMachineModel", fT10, 45, rfl, tw_836⟩, by decide +kernel⟩,
   Or.inl ⟨1, rfl, dd_158_5, rfl⟩,
   ⟨7, dd_158_6, rfl, rfl⟩,
   Or.inl (Or.inl ⟨dd_158_9, rfl⟩),
   ⟨4, dd_158_10, rfl⟩,
   Or.inl (Or.inl ⟨dd_158_13, rfl⟩),
   ⟨by decide, Or.inl ⟨2, rfl, dd_158_14, rfl⟩⟩,
   Or.inl ⟨0, rfl, dd_158_15, rfl⟩,
   Or.inl ⟨2, rfl, dd_158_16, rfl⟩,
   ⟨12, dd_158_17, rfl, rfl⟩,
   Or.inl ⟨0, rfl, dd_158_20, rfl⟩,
   ⟨105, "PairMachineModel", fT10, 45, dd_158_21, rfl, okc_10, by decide, tw_832⟩,
   Or.inl (Or.inl ⟨dd_158_24, rfl⟩),
   ⟨dd_158_25, rfl⟩,
   ⟨7, dd_158_26, rfl⟩,
   Or.inl ⟨0, rfl, dd_158_29, rfl⟩,
   ⟨105, "PairMachineModel", fT10, 45, dd_158_30, rfl, okc_10, by decide, tw_832⟩,
   ⟨105, "PairMachineModel", fT10, 45, dd_158_33, rfl, okc_10, by decide, tw_832, rfl, Or.inl rfl⟩,
   Or.inl ⟨2, rfl, dd_158_36, rfl⟩,
   ⟨dd_158_37, rfl⟩, trivial⟩
theorem okM_158 : mj_okE gG 158 (cM_158, 3, oM_158, hM_158) := ⟨rfl, rfl, by decide +kernel, trivial, okI_158⟩
theorem dd_159_0 : decode prog_13_method_6_code 0 = .ok (.iload_n 0, 1) := by decide +kernel
theorem dd_159_1 : decode prog_13_method_6_code 1 = .ok (.bipush 48, 2) := by decide +kernel
theorem dd_159_3 : decode prog_13_method_6_code 3 = .ok (.if_icmp .lt 13, 3) := by decide +kernel
theorem dd_159_6 : decode prog_13_method_6_code 6 = .ok (.iload_n 0, 1) := by decide +kernel
theorem dd_159_7 : decode prog_13_method_6_code 7 = .ok (.bipush 57, 2) := by decide +kernel
theorem dd_159_9 : decode prog_13_method_6_code 9 = .ok (.if_icmp .gt 7, 3) := by decide +kernel
theorem dd_159_12 : decode prog_13_method_6_code 12 = .ok (.iconst 1, 1) := by decide +kernel
theorem dd_159_13 : decode prog_13_method_6_code 13 = .ok (.goto 4, 3) := by decide +kernel
theorem dd_159_16 : decode prog_13_method_6_code 16 = .ok (.iconst 0, 1) := by decide +kernel
theorem dd_159_17 : decode prog_13_method_6_code 17 = .ok (.ireturn, 1) := by decide +kernel
set_option maxRecDepth 100000 in
theorem okI_159 : mj_okI gG "PairMachineModel" prog_13_method_6_code 1 (mj_off oM_159) (Option.some Jvm.ClassFile.FieldType.boolean) false true 0 cM_159 :=
  ⟨Or.inl ⟨0, rfl, dd_159_0, rfl⟩,
   Or.inl (Or.inr (Or.inl ⟨dd_159_1, rfl, by decide⟩)),
   ⟨13, dd_159_3, rfl, rfl⟩,
   Or.inl ⟨0, rfl, dd_159_6, rfl⟩,
   Or.inl (Or.inr (Or.inl ⟨dd_159_7, rfl, by decide⟩)),
   ⟨7, dd_159_9, rfl, rfl⟩,
   Or.inl (Or.inl ⟨dd_159_12, rfl⟩),
   ⟨4, dd_159_13, rfl⟩,
   Or.inl (Or.inl ⟨dd_159_16, rfl⟩),
   ⟨dd_159_17, rfl⟩, trivial⟩
theorem okM_159 : mj_okE gG 159 (cM_159, 1, oM_159, hM_159) := ⟨rfl, rfl, by decide +kernel, trivial, okI_159⟩
theorem dd_160_0 : decode prog_13_method_7_code 0 = .ok (.iload_n 0, 1) := by decide +kernel
theorem dd_160_1 : decode prog_13_method_7_code 1 = .ok (.bipush 97, 2) := by decide +kernel
theorem dd_160_3 : decode prog_13_method_7_code 3 = .ok (.if_icmp .lt 13, 3) := by decide +kernel
theorem dd_160_6 : decode prog_13_method_7_code 6 = .ok (.iload_n 0, 1) := by decide +kernel
theorem dd_160_7 : decode prog_13_method_7_code 7 = .ok (.bipush 122, 2) := by decide +kernel
theorem dd_160_9 : decode prog_13_method_7_code 9 = .ok (.if_icmp .gt 7, 3) := by decide +kernel
theorem dd_160_12 : decode prog_13_method_7_code 12 = .ok (.iconst 1, 1) := by decide +kernel
theorem dd_160_13 : decode prog_13_method_7_code 13 = .ok (.goto 4, 3) := by decide +kernel
theorem dd_160_16 : decode prog_13_method_7_code 16 = .ok (.iconst 0, 1) := by decide +kernel
theorem dd_160_17 : decode prog_13_method_7_code 17 = .ok (.ireturn, 1) := by decide +kernel
set_option maxRecDepth 100000 in
theorem okI_160 : mj_okI gG "PairMachineModel" prog_13_method_7_code 1 (mj_off oM_160) (Option.some Jvm.ClassFile.FieldType.boolean) false true 0 cM_160 :=
  ⟨Or.inl ⟨0, rfl, dd_160_0, rfl⟩,
   Or.inl (Or.inr (Or.inl ⟨dd_160_1, rfl, by decide⟩)),
   ⟨13, dd_160_3, rfl, rfl⟩,
   Or.inl ⟨0, rfl, dd_160_6, rfl⟩,
   Or.inl (Or.inr (Or.inl ⟨dd_160_7, rfl, by decide⟩)),
   ⟨7, dd_160_9, rfl, rfl⟩,
   Or.inl (Or.inl ⟨dd_160_12, rfl⟩),
   ⟨4, dd_160_13, rfl⟩,
   Or.inl (Or.inl ⟨dd_160_16, rfl⟩),
   ⟨dd_160_17, rfl⟩, trivial⟩
theorem okM_160 : mj_okE gG 160 (cM_160, 1, oM_160, hM_160) := ⟨rfl, rfl, by decide +kernel, trivial, okI_160⟩
theorem dd_161_0 : decode prog_13_method_8_code 0 = .ok (.aload_n 0, 1) := by decide +kernel
theorem dd_161_1 : decode prog_13_method_8_code 1 = .ok (.iconst 0, 1) := by decide +kernel
theorem dd_161_2 : decode prog_13_method_8_code 2 = .ok (.invokevirtual 108, 3) := by decide +kernel
theorem dd_161_5 : decode prog_13_method_8_code 5 = .ok (.bipush 40, 2) := by decide +kernel
theorem dd_161_7 : decode prog_13_method_8_code 7 = .ok (.if_icmp .ne 12, 3) := by decide +kernel
theorem dd_161_10 : decode prog_13_method_8_code 10 = .ok (.aload_n 0, 1) := by decide +kernel
theorem dd_161_11 : decode prog_13_method_8_code 11 = .ok (.getfield 112, 3) := by decide +kernel
theorem dd_161_14 : decode prog_13_method_8_code 14 = .ok (.bipush 9, 2) := by decide +kernel
theorem dd_161_16 : decode prog_13_method_8_code 16 = .ok (.if_icmp .ne 5, 3) := by decide +kernel
theorem dd_161_19 : decode prog_13_method_8_code 19 = .ok (.iconst 0, 1) := by decide +kernel
theorem dd_161_20 : decode prog_13_method_8_code 20 = .ok (.ireturn, 1) := by decide +kernel
theorem dd_161_21 : decode prog_13_method_8_code 21 = .ok (.aload_n 0, 1) := by decide +kernel
theorem dd_161_22 : decode prog_13_method_8_code 22 = .ok (.dup, 1) := by decide +kernel
theorem dd_161_23 : decode prog_13_method_8_code 23 = .ok (.getfield 112, 3) := by decide +kernel
theorem dd_161_26 : decode prog_13_method_8_code 26 = .ok (.iconst 1, 1) := by decide +kernel
theorem dd_161_27 : decode prog_13_method_8_code 27 = .ok (.iadd, 1) := by decide +kernel
theorem dd_161_28 : decode prog_13_method_8_code 28 = .ok (.putfield 112, 3) := by decide +kernel
theorem dd_161_31 : decode prog_13_method_8_code 31 = .ok (.aload_n 0, 1) := by decide +kernel
theorem dd_161_32 : decode prog_13_method_8_code 32 = .ok (.dup, 1) := by decide +kernel
theorem dd_161_33 : decode prog_13_method_8_code 33 = .ok (.getfield 105, 3) := by decide +kernel
theorem dd_161_36 : decode prog_13_method_8_code 36 = .ok (.iconst 1, 1) := by decide +kernel
theorem dd_161_37 : decode prog_13_method_8_code 37 = .ok (.iadd, 1) := by decide +kernel
theorem dd_161_38 : decode prog_13_method_8_code 38 = .ok (.putfield 105, 3) := by decide +kernel
theorem dd_161_41 : decode prog_13_method_8_code 41 = .ok (.iconst 1, 1) := by decide +kernel
theorem dd_161_42 : decode prog_13_method_8_code 42 = .ok (.ireturn, 1) := by decide +kernel
set_option maxRecDepth 100000 in
theorem okI_161 : mj_okI gG "PairMachineModel" prog_13_method_8_code 1 (mj_off oM_161) (Option.some Jvm.ClassFile.FieldType.boolean) false true 0 cM_161 :=
  ⟨Or.inl ⟨0, rfl, dd_161_0, rfl⟩,
   Or.inl (Or.inl ⟨dd_161_1, rfl⟩),
   ⟨rfl, tw_833, by decide, tw_12, by decide +kernel, 108, tw_834, dd_161_2, tw_835, ⟨"PairMachineModel", fT10, 45, rfl, tw_836⟩, by decide +kernel⟩,
   Or.inl (Or.inr (Or.inl ⟨dd_161_5, rfl, by decide⟩)),
   ⟨12, dd_161_7, rfl, rfl⟩,
   Or.inl ⟨0, rfl, dd_161_10, rfl⟩,
   ⟨112, "PairMachineModel", fT10, 45, dd_161_11, rfl, okc_10, by decide, tw_837⟩,
   Or.inl (Or.inr (Or.inl ⟨dd_161_14, rfl, by decide⟩)),
   ⟨5, dd_161_16, rfl, rfl⟩,
   Or.inl (Or.inl ⟨dd_161_19, rfl⟩),
   ⟨dd_161_20, rfl⟩,
   Or.inl ⟨0, rfl, dd_161_21, rfl⟩,
   ⟨dd_161_22, rfl⟩,
   ⟨112, "PairMachineModel", fT10, 45, dd_161_23, rfl, okc_10, by decide, tw_837⟩,
   Or.inl (Or.inl ⟨dd_161_26, rfl⟩),
   ⟨dd_161_27, rfl⟩,
   ⟨112, "PairMachineModel", fT10, 45, dd_161_28, rfl, okc_10, by decide, tw_837, rfl, Or.inl rfl⟩,
   Or.inl ⟨0, rfl, dd_161_31, rfl⟩,
   ⟨dd_161_32, rfl⟩,
   ⟨105, "PairMachineModel", fT10, 45, dd_161_33, rfl, okc_10, by decide, tw_832⟩,
   Or.inl (Or.inl ⟨dd_161_36, rfl⟩),
   ⟨dd_161_37, rfl⟩,
   ⟨105, "PairMachineModel", fT10, 45, dd_161_38, rfl, okc_10, by decide, tw_832, rfl, Or.inl rfl⟩,
   Or.inl (Or.inl ⟨dd_161_41, rfl⟩),
   ⟨dd_161_42, rfl⟩, trivial⟩
theorem okM_161 : mj_okE gG 161 (cM_161, 1, oM_161, hM_161) := ⟨rfl, rfl, by decide +kernel, trivial, okI_161⟩
theorem dd_162_0 : decode prog_13_method_9_code 0 = .ok (.aload_n 0, 1) := by decide +kernel
theorem dd_162_1 : decode prog_13_method_9_code 1 = .ok (.bipush 41, 2) := by decide +kernel
theorem dd_162_3 : decode prog_13_method_9_code 3 = .ok (.invokevirtual 115, 3) := by decide +kernel
theorem dd_162_6 : decode prog_13_method_9_code 6 = .ok (.istore_n 1, 1) := by decide +kernel
theorem dd_162_7 : decode prog_13_method_9_code 7 = .ok (.aload_n 0, 1) := by decide +kernel
theorem dd_162_8 : decode prog_13_method_9_code 8 = .ok (.iload_n 1, 1) := by decide +kernel
theorem dd_162_9 : decode prog_13_method_9_code 9 = .ok (.ifCond .eq 12, 3) := by decide +kernel
theorem dd_162_12 : decode prog_13_method_9_code 12 = .ok (.aload_n 0, 1) := by decide +kernel
theorem dd_162_13 : decode prog_13_method_9_code 13 = .ok (.getfield 112, 3) := by decide +kernel
theorem dd_162_16 : decode prog_13_method_9_code 16 = .ok (.iconst 1, 1) := by decide +kernel
theorem dd_162_17 : decode prog_13_method_9_code 17 = .ok (.isub, 1) := by decide +kernel
theorem dd_162_18 : decode prog_13_method_9_code 18 = .ok (.goto 7, 3) := by decide +kernel
theorem dd_162_21 : decode prog_13_method_9_code 21 = .ok (.aload_n 0, 1) := by decide +kernel
theorem dd_162_22 : decode prog_13_method_9_code 22 = .ok (.getfield 112, 3) := by decide +kernel
theorem dd_162_25 : decode prog_13_method_9_code 25 = .ok (.putfield 112, 3) := by decide +kernel
theorem dd_162_28 : decode prog_13_method_9_code 28 = .ok (.iload_n 1, 1) := by decide +kernel
theorem dd_162_29 : decode prog_13_method_9_code 29 = .ok (.ireturn, 1) := by decide +kernel
set_option maxRecDepth 100000 in
theorem okI_162 : mj_okI gG "PairMachineModel" prog_13_method_9_code 2 (mj_off oM_162) (Option.some Jvm.ClassFile.FieldType.boolean) false true 0 cM_162 :=
  ⟨Or.inl ⟨0, rfl, dd_162_0, rfl⟩,
   Or.inl (Or.inr (Or.inl ⟨dd_162_1, rfl, by decide⟩)),
   ⟨rfl, tw_838, by decide, tw_12, by decide +kernel, 115, tw_839, dd_162_3, tw_840, ⟨"PairMachineModel", fT10, 45, rfl, tw_841⟩, by decide +kernel⟩,
   ⟨by decide, Or.inl ⟨1, rfl, dd_162_6, rfl⟩⟩,
   Or.inl ⟨0, rfl, dd_162_7, rfl⟩,
   Or.inl ⟨1, rfl, dd_162_8, rfl⟩,
   ⟨12, dd_162_9, rfl, rfl⟩,
   Or.inl ⟨0, rfl, dd_162_12, rfl⟩,
   ⟨112, "PairMachineModel", fT10, 45, dd_162_13, rfl, okc_10, by decide, tw_837⟩,
   Or.inl (Or.inl ⟨dd_162_16, rfl⟩),
   ⟨dd_162_17, rfl⟩,
   ⟨7, dd_162_18, rfl⟩,
   Or.inl ⟨0, rfl, dd_162_21, rfl⟩,
   ⟨112, "PairMachineModel", fT10, 45, dd_162_22, rfl, okc_10, by decide, tw_837⟩,
   ⟨112, "PairMachineModel", fT10, 45, dd_162_25, rfl, okc_10, by decide, tw_837, rfl, Or.inl rfl⟩,
   Or.inl ⟨1, rfl, dd_162_28, rfl⟩,
   ⟨dd_162_29, rfl⟩, trivial⟩
theorem okM_162 : mj_okE gG 162 (cM_162, 2, oM_162, hM_162) := ⟨rfl, rfl, by decide +kernel, trivial, okI_162⟩
theorem dd_163_0 : decode prog_13_method_10_code 0 = .ok (.aload_n 0, 1) := by decide +kernel
theorem dd_163_1 : decode prog_13_method_10_code 1 = .ok (.getfield 119, 3) := by decide +kernel
theorem dd_163_4 : decode prog_13_method_10_code 4 = .ok (.istore_n 3, 1) := by decide +kernel
theorem dd_163_5 : decode prog_13_method_10_code 5 = .ok (.aload_n 0, 1) := by decide +kernel
theorem dd_163_6 : decode prog_13_method_10_code 6 = .ok (.dup, 1) := by decide +kernel
theorem dd_163_7 : decode prog_13_method_10_code 7 = .ok (.getfield 119, 3) := by decide +kernel
theorem dd_163_10 : decode prog_13_method_10_code 10 = .ok (.iconst 1, 1) := by decide +kernel
theorem dd_163_11 : decode prog_13_method_10_code 11 = .ok (.iadd, 1) := by decide +kernel
theorem dd_163_12 : decode prog_13_method_10_code 12 = .ok (.putfield 119, 3) := by decide +kernel
theorem dd_163_15 : decode prog_13_method_10_code 15 = .ok (.aload_n 0, 1) := by decide +kernel
theorem dd_163_16 : decode prog_13_method_10_code 16 = .ok (.getfield 17, 3) := by decide +kernel
theorem dd_163_19 : decode prog_13_method_10_code 19 = .ok (.iload_n 3, 1) := by decide +kernel
theorem dd_163_20 : decode prog_13_method_10_code 20 = .ok (.iload_n 1, 1) := by decide +kernel
theorem dd_163_21 : decode prog_13_method_10_code 21 = .ok (.iastore, 1) := by decide +kernel
theorem dd_163_22 : decode prog_13_method_10_code 22 = .ok (.aload_n 0, 1) := by decide +kernel
theorem dd_163_23 : decode prog_13_method_10_code 23 = .ok (.getfield 21, 3) := by decide +kernel
theorem dd_163_26 : decode prog_13_method_10_code 26 = .ok (.iload_n 3, 1) := by decide +kernel
theorem dd_163_27 : decode prog_13_method_10_code 27 = .ok (.aload_n 0, 1) := by decide +kernel
theorem dd_163_28 : decode prog_13_method_10_code 28 = .ok (.getfield 105, 3) := by decide +kernel
theorem dd_163_31 : decode prog_13_method_10_code 31 = .ok (.iastore, 1) := by decide +kernel
theorem dd_163_32 : decode prog_13_method_10_code 32 = .ok (.aload_n 0, 1) := by decide +kernel
theorem dd_163_33 : decode prog_13_method_10_code 33 = .ok (.getfield 24, 3) := by decide +kernel
theorem dd_163_36 : decode prog_13_method_10_code 36 = .ok (.iload_n 3, 1) := by decide +kernel
theorem dd_163_37 : decode prog_13_method_10_code 37 = .ok (.aload_n 0, 1) := by decide +kernel
theorem dd_163_38 : decode prog_13_method_10_code 38 = .ok (.getfield 105, 3) := by decide +kernel
theorem dd_163_41 : decode prog_13_method_10_code 41 = .ok (.iastore, 1) := by decide +kernel
theorem dd_163_42 : decode prog_13_method_10_code 42 = .ok (.aload_n 0, 1) := by decide +kernel
theorem dd_163_43 : decode prog_13_method_10_code 43 = .ok (.getfield 27, 3) := by decide +kernel
theorem dd_163_46 : decode prog_13_method_10_code 46 = .ok (.iload_n 3, 1) := by decide +kernel
theorem dd_163_47 : decode prog_13_method_10_code 47 = .ok (.iconst 0, 1) := by decide +kernel
theorem dd_163_48 : decode prog_13_method_10_code 48 = .ok (.iastore, 1) := by decide +kernel
theorem dd_163_49 : decode prog_13_method_10_code 49 = .ok (.aload_n 0, 1) := by decide +kernel
theorem dd_163_50 : decode prog_13_method_10_code 50 = .ok (.getfield 30, 3) := by decide +kernel
theorem dd_163_53 : decode prog_13_method_10_code 53 = .ok (.iload_n 3, 1) := by decide +kernel
theorem dd_163_54 : decode prog_13_method_10_code 54 = .ok (.iload_n 2, 1) := by decide +kernel
theorem dd_163_55 : decode prog_13_method_10_code 55 = .ok (.iastore, 1) := by decide +kernel
theorem dd_163_56 : decode prog_13_method_10_code 56 = .ok (.aload_n 0, 1) := by decide +kernel
theorem dd_163_57 : decode prog_13_method_10_code 57 = .ok (.getfield 33, 3) := by decide +kernel
theorem dd_163_60 : decode prog_13_method_10_code 60 = .ok (.iload_n 3, 1) := by decide +kernel
theorem dd_163_61 : decode prog_13_method_10_code 61 = .ok (.iconst (-1), 1) := by decide +kernel
theorem dd_163_62 : decode prog_13_method_10_code 62 = .ok (.iastore, 1) := by decide +kernel
theorem dd_163_63 : decode prog_13_method_10_code 63 = .ok (.aload_n 0, 1) := by decide +kernel
theorem dd_163_64 : decode prog_13_method_10_code 64 = .ok (.getfield 36, 3) := by decide +kernel
theorem dd_163_67 : decode prog_13_method_10_code 67 = .ok (.iload_n 3, 1) := by decide +kernel
theorem dd_163_68 : decode prog_13_method_10_code 68 = .ok (.iconst (-1), 1) := by decide +kernel
theorem dd_163_69 : decode prog_13_method_10_code 69 = .ok (.iastore, 1) := by decide +kernel
theorem dd_163_70 : decode prog_13_method_10_code 70 = .ok (.aload_n 0, 1) := by decide +kernel
theorem dd_163_71 : decode prog_13_method_10_code 71 = .ok (.getfield 39, 3) := by decide +kernel
theorem dd_163_74 : decode prog_13_method_10_code 74 = .ok (.iload_n 3, 1) := by decide +kernel
theorem dd_163_75 : decode prog_13_method_10_code 75 = .ok (.iconst (-1), 1) := by decide +kernel
theorem dd_163_76 : decode prog_13_method_10_code 76 = .ok (.iastore, 1) := by decide +kernel
theorem dd_163_77 : decode prog_13_method_10_code 77 = .ok (.aload_n 0, 1) := by decide +kernel
theorem dd_163_78 : decode prog_13_method_10_code 78 = .ok (.getfield 42, 3) := by decide +kernel
theorem dd_163_81 : decode prog_13_method_10_code 81 = .ok (.iload_n 3, 1) := by decide +kernel
theorem dd_163_82 : decode prog_13_method_10_code 82 = .ok (.iconst 0, 1) := by decide +kernel
theorem dd_163_83 : decode prog_13_method_10_code 83 = .ok (.iastore, 1) := by decide +kernel
theorem dd_163_84 : decode prog_13_method_10_code 84 = .ok (.aload_n 0, 1) := by decide +kernel
theorem dd_163_85 : decode prog_13_method_10_code 85 = .ok (.getfield 48, 3) := by decide +kernel
theorem dd_163_88 : decode prog_13_method_10_code 88 = .ok (.iload_n 3, 1) := by decide +kernel
theorem dd_163_89 : decode prog_13_method_10_code 89 = .ok (.iconst 0, 1) := by decide +kernel
theorem dd_163_90 : decode prog_13_method_10_code 90 = .ok (.iastore, 1) := by decide +kernel
theorem dd_163_91 : decode prog_13_method_10_code 91 = .ok (.iload_n 2, 1) := by decide +kernel
theorem dd_163_92 : decode prog_13_method_10_code 92 = .ok (.ifCond .lt 51, 3) := by decide +kernel
theorem dd_163_95 : decode prog_13_method_10_code 95 = .ok (.aload_n 0, 1) := by decide +kernel
theorem dd_163_96 : decode prog_13_method_10_code 96 = .ok (.getfield 33, 3) := by decide +kernel
theorem dd_163_99 : decode prog_13_method_10_code 99 = .ok (.iload_n 2, 1) := by decide +kernel
theorem dd_163_100 : decode prog_13_method_10_code 100 = .ok (.iaload, 1) := by decide +kernel
theorem dd_163_101 : decode prog_13_method_10_code 101 = .ok (.ifCond .ge 13, 3) := by decide +kernel
theorem dd_163_104 : decode prog_13_method_10_code 104 = .ok (.aload_n 0, 1) := by decide +kernel
theorem dd_163_105 : decode prog_13_method_10_code 105 = .ok (.getfield 33, 3) := by decide +kernel
theorem dd_163_108 : decode prog_13_method_10_code 108 = .ok (.iload_n 2, 1) := by decide +kernel
theorem dd_163_109 : decode prog_13_method_10_code 109 = .ok (.iload_n 3, 1) := by decide +kernel
theorem dd_163_110 : decode prog_13_method_10_code 110 = .ok (.iastore, 1) := by decide +kernel
theorem dd_163_111 : decode prog_13_method_10_code 111 = .ok (.goto 15, 3) := by decide +kernel
theorem dd_163_114 : decode prog_13_method_10_code 114 = .ok (.aload_n 0, 1) := by decide +kernel
theorem dd_163_115 : decode prog_13_method_10_code 115 = .ok (.getfield 39, 3) := by decide +kernel
theorem dd_163_118 : decode prog_13_method_10_code 118 = .ok (.aload_n 0, 1) := by decide +kernel
theorem dd_163_119 : decode prog_13_method_10_code 119 = .ok (.getfield 36, 3) := by decide +kernel
theorem dd_163_122 : decode prog_13_method_10_code 122 = .ok (.iload_n 2, 1) := by decide +kernel
theorem dd_163_123 : decode prog_13_method_10_code 123 = .ok (.iaload, 1) := by decide +kernel
theorem dd_163_124 : decode prog_13_method_10_code 124 = .ok (.iload_n 3, 1) := by decide +kernel
theorem dd_163_125 : decode prog_13_method_10_code 125 = .ok (.iastore, 1) := by decide +kernel
theorem dd_163_126 : decode prog_13_method_10_code 126 = .ok (.aload_n 0, 1) := by decide +kernel
theorem dd_163_127 : decode prog_13_method_10_code 127 = .ok (.getfield 36, 3) := by decide +kernel
theorem dd_163_130 : decode prog_13_method_10_code 130 = .ok (.iload_n 2, 1) := by decide +kernel
theorem dd_163_131 : decode prog_13_method_10_code 131 = .ok (.iload_n 3, 1) := by decide +kernel
theorem dd_163_132 : decode prog_13_method_10_code 132 = .ok (.iastore, 1) := by decide +kernel
theorem dd_163_133 : decode prog_13_method_10_code 133 = .ok (.aload_n 0, 1) := by decide +kernel
theorem dd_163_134 : decode prog_13_method_10_code 134 = .ok (.getfield 42, 3) := by decide +kernel
theorem dd_163_137 : decode prog_13_method_10_code 137 = .ok (.iload_n 2, 1) := by decide +kernel
theorem dd_163_138 : decode prog_13_method_10_code 138 = .ok (.dup2, 1) := by decide +kernel
theorem dd_163_139 : decode prog_13_method_10_code 139 = .ok (.iaload, 1) := by decide +kernel
theorem dd_163_140 : decode prog_13_method_10_code 140 = .ok (.iconst 1, 1) := by decide +kernel
theorem dd_163_141 : decode prog_13_method_10_code 141 = .ok (.iadd, 1) := by decide +kernel
theorem dd_163_142 : decode prog_13_method_10_code 142 = .ok (.iastore, 1) := by decide +kernel
theorem dd_163_143 : decode prog_13_method_10_code 143 = .ok (.iload_n 3, 1) := by decide +kernel
theorem dd_163_144 : decode prog_13_method_10_code 144 = .ok (.ireturn, 1) := by decide +kernel
set_option maxRecDepth 100000 in
theorem okI_163 : mj_okI gG "PairMachineModel" prog_13_method_10_code 4 (mj_off oM_163) (Option.some Jvm.ClassFile.FieldType.int) false true 0 cM_163 :=
  ⟨Or.inl ⟨0, rfl, dd_163_0, rfl⟩,
   ⟨119, "PairMachineModel", fT10, 45, dd_163_1, rfl, okc_10, by decide, tw_842⟩,
   ⟨by decide, Or.inl ⟨3, rfl, dd_163_4, rfl⟩⟩,
   Or.inl ⟨0, rfl, dd_163_5, rfl⟩,
   ⟨dd_163_6, rfl⟩,
   ⟨119, "PairMachineModel", fT10, 45, dd_163_7, rfl, okc_10, by decide, tw_842⟩,
   Or.inl (Or.inl ⟨dd_163_10, rfl⟩),
   ⟨dd_163_11, rfl⟩,
   ⟨119, "PairMachineModel", fT10, 45, dd_163_12, rfl, okc_10, by decide, tw_842, rfl, Or.inl rfl⟩,
   Or.inl ⟨0, rfl, dd_163_15, rfl⟩,
   ⟨17, "PairMachineModel", fT10, 45, dd_163_16, rfl, okc_10, by decide, tw_803⟩,
   Or.inl ⟨3, rfl, dd_163_19, rfl⟩,
   Or.inl ⟨1, rfl, dd_163_20, rfl⟩,
   ⟨dd_163_21, rfl⟩,
   Or.inl ⟨0, rfl, dd_163_22, rfl⟩,
   ⟨21, "PairMachineModel", fT10, 45, dd_163_23, rfl, okc_10, by decide, tw_804⟩,
   Or.inl ⟨3, rfl, dd_163_26, rfl⟩,
   Or.inl ⟨0, rfl, dd_163_27, rfl⟩,
   ⟨105, "PairMachineModel", fT10, 45, dd_163_28, rfl, okc_10, by decide, tw_832⟩,
   ⟨dd_163_31, rfl⟩,
   Or.inl ⟨0, rfl, dd_163_32, rfl⟩,
   ⟨24, "PairMachineModel", fT10, 45, dd_163_33, rfl, okc_10, by decide, tw_805⟩,
   Or.inl ⟨3, rfl, dd_163_36, rfl⟩,
   Or.inl ⟨0, rfl, dd_163_37, rfl⟩,
   ⟨105, "PairMachineModel", fT10, 45, dd_163_38, rfl, okc_10, by decide, tw_832⟩,
   ⟨dd_163_41, rfl⟩,
   Or.inl ⟨0, rfl, dd_163_42, rfl⟩,
   ⟨27, "PairMachineModel", fT10, 45, dd_163_43, rfl, okc_10, by decide, tw_806⟩,
   Or.inl ⟨3, rfl, dd_163_46, rfl⟩,
   Or.inl (Or.inl ⟨dd_163_47, rfl⟩),
   ⟨dd_163_48, rfl⟩,
   Or.inl ⟨0, rfl, dd_163_49, rfl⟩,
   ⟨30, "PairMachineModel", fT10, 45, dd_163_50, rfl, okc_10, by decide, tw_807⟩,
   Or.inl ⟨3, rfl, dd_163_53, rfl⟩,
   Or.inl ⟨2, rfl, dd_163_54, rfl⟩,
   ⟨dd_163_55, rfl⟩,
   Or.inl ⟨0, rfl, dd_163_56, rfl⟩,
   ⟨33, "PairMachineModel", fT10, 45, dd_163_57, rfl, okc_10, by decide, tw_808⟩,
   Or.inl ⟨3, rfl, dd_163_60, rfl⟩,
   Or.inl (Or.inl ⟨dd_163_61, rfl⟩),
   ⟨dd_163_62, rfl⟩,
   Or.inl ⟨0, rfl, dd_163_63, rfl⟩,
   ⟨36, "PairMachineModel", fT10, 45, dd_163_64, rfl, okc_10, by decide, tw_809⟩,
   Or.inl ⟨3, rfl, dd_163_67, rfl⟩,
   Or.inl (Or.inl ⟨dd_163_68, rfl⟩),
   ⟨dd_163_69, rfl⟩,
   Or.inl ⟨0, rfl, dd_163_70, rfl⟩,
   ⟨39, "PairMachineModel", fT10, 45, dd_163_71, rfl, okc_10, by decide, tw_810⟩,
   Or.inl ⟨3, rfl, dd_163_74, rfl⟩,
   Or.inl (Or.inl ⟨dd_163_75, rfl⟩),
   ⟨dd_163_76, rfl⟩,
   Or.inl ⟨0, rfl, dd_163_77, rfl⟩,
   ⟨42, "PairMachineModel", fT10, 45, dd_163_78, rfl, okc_10, by decide, tw_811⟩,
   Or.inl ⟨3, rfl, dd_163_81, rfl⟩,
   Or.inl (Or.inl ⟨dd_163_82, rfl⟩),
   ⟨dd_163_83, rfl⟩,
   Or.inl ⟨0, rfl, dd_163_84, rfl⟩,
   ⟨48, "PairMachineModel", fT10, 45, dd_163_85, rfl, okc_10, by decide, tw_813⟩,
   Or.inl ⟨3, rfl, dd_163_88, rfl⟩,
   Or.inl (Or.inl ⟨dd_163_89, rfl⟩),
   ⟨dd_163_90, rfl⟩,
   Or.inl ⟨2, rfl, dd_163_91, rfl⟩,
   ⟨51, dd_163_92, rfl, rfl⟩,
   Or.inl ⟨0, rfl, dd_163_95, rfl⟩,
   ⟨33, "PairMachineModel", fT10, 45, dd_163_96, rfl, okc_10, by decide, tw_808⟩,
   Or.inl ⟨2, rfl, dd_163_99, rfl⟩,
   ⟨dd_163_100, rfl⟩,
   ⟨13, dd_163_101, rfl, rfl⟩,
   Or.inl ⟨0, rfl, dd_163_104, rfl⟩,
   ⟨33, "PairMachineModel", fT10, 45, dd_163_105, rfl, okc_10, by decide, tw_808⟩,
   Or.inl ⟨2, rfl, dd_163_108, rfl⟩,
   Or.inl ⟨3, rfl, dd_163_109, rfl⟩,
   ⟨dd_163_110, rfl⟩,
   ⟨15, dd_163_111, rfl⟩,
   Or.inl ⟨0, rfl, dd_163_114, rfl⟩,
   ⟨39, "PairMachineModel", fT10, 45, dd_163_115, rfl, okc_10, by decide, tw_810⟩,
   Or.inl ⟨0, rfl, dd_163_118, rfl⟩,
   ⟨36, "PairMachineModel", fT10, 45, dd_163_119, rfl, okc_10, by decide, tw_809⟩,
   Or.inl ⟨2, rfl, dd_163_122, rfl⟩,
   ⟨dd_163_123, rfl⟩,
   Or.inl ⟨3, rfl, dd_163_124, rfl⟩,
   ⟨dd_163_125, rfl⟩,
   Or.inl ⟨0, rfl, dd_163_126, rfl⟩,
   ⟨36, "PairMachineModel", fT10, 45, dd_163_127, rfl, okc_10, by decide, tw_809⟩,
   Or.inl ⟨2, rfl, dd_163_130, rfl⟩,
   Or.inl ⟨3, rfl, dd_163_131, rfl⟩,
   ⟨dd_163_132, rfl⟩,
   Or.inl ⟨0, rfl, dd_163_133, rfl⟩,
   ⟨42, "PairMachineModel", fT10, 45, dd_163_134, rfl, okc_10, by decide, tw_811⟩,
   Or.inl ⟨2, rfl, dd_163_137, rfl⟩,
   ⟨dd_163_138, rfl⟩,
   ⟨dd_163_139, rfl⟩,
   Or.inl (Or.inl ⟨dd_163_140, rfl⟩),
   ⟨dd_163_141, rfl⟩,
   ⟨dd_163_142, rfl⟩,
   Or.inl ⟨3, rfl, dd_163_143, rfl⟩,
   ⟨dd_163_144, rfl⟩, trivial⟩
theorem okM_163 : mj_okE gG 163 (cM_163, 4, oM_163, hM_163) := ⟨rfl, rfl, by decide +kernel, trivial, okI_163⟩
theorem dd_164_0 : decode prog_13_method_11_code 0 = .ok (.aload_n 0, 1) := by decide +kernel
theorem dd_164_1 : decode prog_13_method_11_code 1 = .ok (.bipush 45, 2) := by decide +kernel
theorem dd_164_3 : decode prog_13_method_11_code 3 = .ok (.invokevirtual 115, 3) := by decide +kernel
theorem dd_164_6 : decode prog_13_method_11_code 6 = .ok (.istore_n 1, 1) := by decide +kernel
theorem dd_164_7 : decode prog_13_method_11_code 7 = .ok (.iconst 0, 1) := by decide +kernel
theorem dd_164_8 : decode prog_13_method_11_code 8 = .ok (.istore_n 2, 1) := by decide +kernel
theorem dd_164_9 : decode prog_13_method_11_code 9 = .ok (.iload_n 2, 1) := by decide +kernel
theorem dd_164_10 : decode prog_13_method_11_code 10 = .ok (.iconst 4, 1) := by decide +kernel
theorem dd_164_11 : decode prog_13_method_11_code 11 = .ok (.if_icmp .ge 30, 3) := by decide +kernel
theorem dd_164_14 : decode prog_13_method_11_code 14 = .ok (.aload_n 0, 1) := by decide +kernel
theorem dd_164_15 : decode prog_13_method_11_code 15 = .ok (.iconst 0, 1) := by decide +kernel
theorem dd_164_16 : decode prog_13_method_11_code 16 = .ok (.invokevirtual 108, 3) := by decide +kernel
theorem dd_164_19 : decode prog_13_method_11_code 19 = .ok (.invokestatic 122, 3) := by decide +kernel
theorem dd_164_22 : decode prog_13_method_11_code 22 = .ok (.ifCond .eq 19, 3) := by decide +kernel
theorem dd_164_25 : decode prog_13_method_11_code 25 = .ok (.aload_n 0, 1) := by decide +kernel
theorem dd_164_26 : decode prog_13_method_11_code 26 = .ok (.dup, 1) := by decide +kernel
theorem dd_164_27 : decode prog_13_method_11_code 27 = .ok (.getfield 105, 3) := by decide +kernel
theorem dd_164_30 : decode prog_13_method_11_code 30 = .ok (.iconst 1, 1) := by decide +kernel
theorem dd_164_31 : decode prog_13_method_11_code 31 = .ok (.iadd, 1) := by decide +kernel
theorem dd_164_32 : decode prog_13_method_11_code 32 = .ok (.putfield 105, 3) := by decide +kernel
theorem dd_164_35 : decode prog_13_method_11_code 35 = .ok (.iinc 2 1, 3) := by decide +kernel
theorem dd_164_38 : decode prog_13_method_11_code 38 = .ok (.goto (-29), 3) := by decide +kernel
theorem dd_164_41 : decode prog_13_method_11_code 41 = .ok (.iload_n 2, 1) := by decide +kernel
theorem dd_164_42 : decode prog_13_method_11_code 42 = .ok (.ifCond .le 11, 3) := by decide +kernel
theorem dd_164_45 : decode prog_13_method_11_code 45 = .ok (.iload_n 1, 1) := by decide +kernel
theorem dd_164_46 : decode prog_13_method_11_code 46 = .ok (.ifCond .ne 3, 3) := by decide +kernel
theorem dd_164_49 : decode prog_13_method_11_code 49 = .ok (.iconst 1, 1) := by decide +kernel
theorem dd_164_50 : decode prog_13_method_11_code 50 = .ok (.goto 4, 3) := by decide +kernel
theorem dd_164_53 : decode prog_13_method_11_code 53 = .ok (.iconst 0, 1) := by decide +kernel
theorem dd_164_54 : decode prog_13_method_11_code 54 = .ok (.ireturn, 1) := by decide +kernel
set_option maxRecDepth 100000 in
theorem okI_164 : mj_okI gG "PairMachineModel" prog_13_method_11_code 3 (mj_off oM_164) (Option.some Jvm.ClassFile.FieldType.boolean) false true 0 cM_164 :=
  ⟨Or.inl ⟨0, rfl, dd_164_0, rfl⟩,
   Or.inl (Or.inr (Or.inl ⟨dd_164_1, rfl, by decide⟩)),
   ⟨rfl, tw_838, by decide, tw_12, by decide +kernel, 115, tw_839, dd_164_3, tw_840, ⟨"PairMachineModel", fT10, 45, rfl, tw_841⟩, by decide +kernel⟩,
   ⟨by decide, Or.inl ⟨1, rfl, dd_164_6, rfl⟩⟩,
   Or.inl (Or.inl ⟨dd_164_7, rfl⟩),
   ⟨by decide, Or.inl ⟨2, rfl, dd_164_8, rfl⟩⟩,
   Or.inl ⟨2, rfl, dd_164_9, rfl⟩,
   Or.inl (Or.inl ⟨dd_164_10, rfl⟩),
   ⟨30, dd_164_11, rfl, rfl⟩,
   Or.inl ⟨0, rfl, dd_164_14, rfl⟩,
   Or.inl (Or.inl ⟨dd_164_15, rfl⟩),
   ⟨rfl, tw_833, by decide, tw_12, by decide +kernel, 108, tw_834, dd_164_16, tw_835, ⟨"PairMachineModel", fT10, 45, rfl, tw_836⟩, by decide +kernel⟩,
   ⟨rfl, tw_843, by decide, tw_12, by decide +kernel, 122, tw_844, dd_164_19, tw_845, by decide +kernel⟩,
   ⟨19, dd_164_22, rfl, rfl⟩,
   Or.inl ⟨0, rfl, dd_164_25, rfl⟩,
   ⟨dd_164_26, rfl⟩,
   ⟨105, "PairMachineModel", fT10, 45, dd_164_27, rfl, okc_10, by decide, tw_832⟩,
   Or.inl (Or.inl ⟨dd_164_30, rfl⟩),
   ⟨dd_164_31, rfl⟩,
   ⟨105, "PairMachineModel", fT10, 45, dd_164_32, rfl, okc_10, by decide, tw_832, rfl, Or.inl rfl⟩,
   ⟨by decide, dd_164_35, rfl⟩,
   ⟨(-29), dd_164_38, rfl⟩,
   Or.inl ⟨2, rfl, dd_164_41, rfl⟩,
   ⟨11, dd_164_42, rfl, rfl⟩,
   Or.inl ⟨1, rfl, dd_164_45, rfl⟩,
   ⟨3, dd_164_46, rfl, rfl⟩,
   Or.inl (Or.inl ⟨dd_164_49, rfl⟩),
   ⟨4, dd_164_50, rfl⟩,
   Or.inl (Or.inl ⟨dd_164_53, rfl⟩),
   ⟨dd_164_54, rfl⟩, trivial⟩
theorem okM_164 : mj_okE gG 164 (cM_164, 3, oM_164, hM_164) := ⟨rfl, rfl, by decide +kernel, trivial, okI_164⟩
theorem dd_165_0 : decode prog_13_method_12_code 0 = .ok (.aload_n 0, 1) := by decide +kernel
theorem dd_165_1 : decode prog_13_method_12_code 1 = .ok (.getfield 7, 3) := by decide +kernel
theorem dd_165_4 : decode prog_13_method_12_code 4 = .ok (.iload_n 1, 1) := by decide +kernel
theorem dd_165_5 : decode prog_13_method_12_code 5 = .ok (.caload, 1) := by decide +kernel
theorem dd_165_6 : decode prog_13_method_12_code 6 = .ok (.bipush 45, 2) := by decide +kernel
theorem dd_165_8 : decode prog_13_method_12_code 8 = .ok (.if_icmp .ne 7, 3) := by decide +kernel
theorem dd_165_11 : decode prog_13_method_12_code 11 = .ok (.iconst 1, 1) := by decide +kernel
theorem dd_165_12 : decode prog_13_method_12_code 12 = .ok (.goto 4, 3) := by decide +kernel
theorem dd_165_15 : decode prog_13_method_12_code 15 = .ok (.iconst 0, 1) := by decide +kernel
theorem dd_165_16 : decode prog_13_method_12_code 16 = .ok (.istore_n 2, 1) := by decide +kernel
theorem dd_165_17 : decode prog_13_method_12_code 17 = .ok (.iload_n 2, 1) := by decide +kernel
theorem dd_165_18 : decode prog_13_method_12_code 18 = .ok (.ifCond .eq 9, 3) := by decide +kernel
theorem dd_165_21 : decode prog_13_method_12_code 21 = .ok (.iload_n 1, 1) := by decide +kernel
theorem dd_165_22 : decode prog_13_method_12_code 22 = .ok (.iconst 1, 1) := by decide +kernel
theorem dd_165_23 : decode prog_13_method_12_code 23 = .ok (.iadd, 1) := by decide +kernel
theorem dd_165_24 : decode prog_13_method_12_code 24 = .ok (.goto 4, 3) := by decide +kernel
theorem dd_165_27 : decode prog_13_method_12_code 27 = .ok (.iload_n 1, 1) := by decide +kernel
theorem dd_165_28 : decode prog_13_method_12_code 28 = .ok (.istore_n 3, 1) := by decide +kernel
theorem dd_165_29 : decode prog_13_method_12_code 29 = .ok (.iconst 0, 1) := by decide +kernel
theorem dd_165_30 : decode prog_13_method_12_code 30 = .ok (.istore 4, 2) := by decide +kernel
theorem dd_165_32 : decode prog_13_method_12_code 32 = .ok (.iconst 0, 1) := by decide +kernel
theorem dd_165_33 : decode prog_13_method_12_code 33 = .ok (.istore 5, 2) := by decide +kernel
theorem dd_165_35 : decode prog_13_method_12_code 35 = .ok (.iload 5, 2) := by decide +kernel
theorem dd_165_37 : decode prog_13_method_12_code 37 = .ok (.iconst 4, 1) := by decide +kernel
theorem dd_165_38 : decode prog_13_method_12_code 38 = .ok (.if_icmp .ge 49, 3) := by decide +kernel
theorem dd_165_41 : decode prog_13_method_12_code 41 = .ok (.iload_n 3, 1) := by decide +kernel
theorem dd_165_42 : decode prog_13_method_12_code 42 = .ok (.aload_n 0, 1) := by decide +kernel
theorem dd_165_43 : decode prog_13_method_12_code 43 = .ok (.getfield 102, 3) := by decide +kernel
theorem dd_165_46 : decode prog_13_method_12_code 46 = .ok (.if_icmp .ge 41, 3) := by decide +kernel
theorem dd_165_49 : decode prog_13_method_12_code 49 = .ok (.aload_n 0, 1) := by decide +kernel
theorem dd_165_50 : decode prog_13_method_12_code 50 = .ok (.getfield 7, 3) := by decide +kernel
theorem dd_165_53 : decode prog_13_method_12_code 53 = .ok (.iload_n 3, 1) := by decide +kernel
theorem dd_165_54 : decode prog_13_method_12_code 54 = .ok (.caload, 1) := by decide +kernel
theorem dd_165_55 : decode prog_13_method_12_code 55 = .ok (.invokestatic 122, 3) := by decide +kernel
theorem dd_165_58 : decode prog_13_method_12_code 58 = .ok (.ifCond .eq 29, 3) := by decide +kernel
theorem dd_165_61 : decode prog_13_method_12_code 61 = .ok (.bipush 10, 2) := by decide +kernel
theorem dd_165_63 : decode prog_13_method_12_code 63 = .ok (.iload 4, 2) := by decide +kernel
theorem dd_165_65 : decode prog_13_method_12_code 65 = .ok (.imul, 1) := by decide +kernel
theorem dd_165_66 : decode prog_13_method_12_code 66 = .ok (.aload_n 0, 1) := by decide +kernel
theorem dd_165_67 : decode prog_13_method_12_code 67 = .ok (.getfield 7, 3) := by decide +kernel
theorem dd_165_70 : decode prog_13_method_12_code 70 = .ok (.iload_n 3, 1) := by decide +kernel
theorem dd_165_71 : decode prog_13_method_12_code 71 = .ok (.caload, 1) := by decide +kernel
theorem dd_165_72 : decode prog_13_method_12_code 72 = .ok (.iadd, 1) := by decide +kernel
theorem dd_165_73 : decode prog_13_method_12_code 73 = .ok (.bipush 48, 2) := by decide +kernel
theorem dd_165_75 : decode prog_13_method_12_code 75 = .ok (.isub, 1) := by decide +kernel
theorem dd_165_76 : decode prog_13_method_12_code 76 = .ok (.istore 4, 2) := by decide +kernel
theorem dd_165_78 : decode prog_13_method_12_code 78 = .ok (.iinc 3 1, 3) := by decide +kernel
theorem dd_165_81 : decode prog_13_method_12_code 81 = .ok (.iinc 5 1, 3) := by decide +kernel
theorem dd_165_84 : decode prog_13_method_12_code 84 = .ok (.goto (-49), 3) := by decide +kernel
theorem dd_165_87 : decode prog_13_method_12_code 87 = .ok (.iload_n 2, 1) := by decide +kernel
theorem dd_165_88 : decode prog_13_method_12_code 88 = .ok (.ifCond .eq 9, 3) := by decide +kernel
theorem dd_165_91 : decode prog_13_method_12_code 91 = .ok (.iload 4, 2) := by decide +kernel
theorem dd_165_93 : decode prog_13_method_12_code 93 = .ok (.ineg, 1) := by decide +kernel
theorem dd_165_94 : decode prog_13_method_12_code 94 = .ok (.goto 5, 3) := by decide +kernel
theorem dd_165_97 : decode prog_13_method_12_code 97 = .ok (.iload 4, 2) := by decide +kernel
theorem dd_165_99 : decode prog_13_method_12_code 99 = .ok (.ireturn, 1) := by decide +kernel
set_option maxRecDepth 100000 in
theorem okI_165 : mj_okI gG "PairMachineModel" prog_13_method_12_code 6 (mj_off oM_165) (Option.some Jvm.ClassFile.FieldType.int) false true 0 cM_165 :=
  ⟨Or.inl ⟨0, rfl, dd_165_0, rfl⟩,
   ⟨7, "PairMachineModel", fT10, 45, dd_165_1, rfl, okc_10, by decide, tw_801⟩,
   Or.inl ⟨1, rfl, dd_165_4, rfl⟩,
   ⟨dd_165_5, rfl⟩,
   Or.inl (Or.inr (Or.inl ⟨dd_165_6, rfl, by decide⟩)),
   ⟨7, dd_165_8, rfl, rfl⟩,
   Or.inl (Or.inl ⟨dd_165_11, rfl⟩),
   ⟨4, dd_165_12, rfl⟩,
   Or.inl (Or.inl ⟨dd_165_15, rfl⟩),
   ⟨by decide, Or.inl ⟨2, rfl, dd_165_16, rfl⟩⟩,
   Or.inl ⟨2, rfl, dd_165_17, rfl⟩,
   ⟨9, dd_165_18, rfl, rfl⟩,
   Or.inl ⟨1, rfl, dd_165_21, rfl⟩,
   Or.inl (Or.inl ⟨dd_165_22, rfl⟩),
   ⟨dd_165_23, rfl⟩,
   ⟨4, dd_165_24, rfl⟩,
   Or.inl ⟨1, rfl, dd_165_27, rfl⟩,
   ⟨by decide, Or.inl ⟨3, rfl, dd_165_28, rfl⟩⟩,
   Or.inl (Or.inl ⟨dd_165_29, rfl⟩),
   ⟨by decide, Or.inr ⟨dd_165_30, rfl⟩⟩,
   Or.inl (Or.inl ⟨dd_165_32, rfl⟩),
   ⟨by decide, Or.inr ⟨dd_165_33, rfl⟩⟩,
   Or.inr ⟨dd_165_35, rfl⟩,
   Or.inl (Or.inl ⟨dd_165_37, rfl⟩),
   ⟨49, dd_165_38, rfl, rfl⟩,
   Or.inl ⟨3, rfl, dd_165_41, rfl⟩,
   Or.inl ⟨0, rfl, dd_165_42, rfl⟩,
   ⟨102, "PairMachineModel", fT10, 45, dd_165_43, rfl, okc_10, by decide, tw_831⟩,
   ⟨41, dd_165_46, rfl, rfl⟩,
   Or.inl ⟨0, rfl, dd_165_49, rfl⟩,
   ⟨7, "PairMachineModel", fT10, 45, dd_165_50, rfl, okc_10, by decide, tw_801⟩,
   Or.inl ⟨3, rfl, dd_165_53, rfl⟩,
   ⟨dd_165_54, rfl⟩,
   ⟨rfl, tw_843, by decide, tw_12, by decide +kernel, 122, tw_844, dd_165_55, tw_845, by decide +kernel⟩,
   ⟨29, dd_165_58, rfl, rfl⟩,
   Or.inl (Or.inr (Or.inl ⟨dd_165_61, rfl, by decide⟩)),
   Or.inr ⟨dd_165_63, rfl⟩,
   ⟨dd_165_65, rfl⟩,
   Or.inl ⟨0, rfl, dd_165_66, rfl⟩,
   ⟨7, "PairMachineModel", fT10, 45, dd_165_67, rfl, okc_10, by decide, tw_801⟩,
   Or.inl ⟨3, rfl, dd_165_70, rfl⟩,
   ⟨dd_165_71, rfl⟩,
   ⟨dd_165_72, rfl⟩,
   Or.inl (Or.inr (Or.inl ⟨dd_165_73, rfl, by decide⟩)),
   ⟨dd_165_75, rfl⟩,
   ⟨by decide, Or.inr ⟨dd_165_76, rfl⟩⟩,
   ⟨by decide, dd_165_78, rfl⟩,
   ⟨by decide, dd_165_81, rfl⟩,
   ⟨(-49), dd_165_84, rfl⟩,
   Or.inl ⟨2, rfl, dd_165_87, rfl⟩,
   ⟨9, dd_165_88, rfl, rfl⟩,
   Or.inr ⟨dd_165_91, rfl⟩,
   ⟨dd_165_93, rfl⟩,
   ⟨5, dd_165_94, rfl⟩,
   Or.inr ⟨dd_165_97, rfl⟩,
   ⟨dd_165_99, rfl⟩, trivial⟩
theorem okM_165 : mj_okE gG 165 (cM_165, 6, oM_165, hM_165) := ⟨rfl, rfl, by decide +kernel, trivial, okI_165⟩
end
