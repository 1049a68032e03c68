theorem dd_148_0 : decode prog_11_method_5_code 0 = .ok (.ldc2_w 19, 3) := by decide +kernel
theorem dd_148_3 : decode prog_11_method_5_code 3 = .ok (.iload_n 0, 1) := by decide +kernel
theorem dd_148_4 : decode prog_11_method_5_code 4 = .ok (.i2l, 1) := by decide +kernel
theorem dd_148_5 : decode prog_11_method_5_code 5 = .ok (.ldc2_w 13, 3) := by decide +kernel
theorem dd_148_8 : decode prog_11_method_5_code 8 = .ok (.land, 1) := by decide +kernel
theorem dd_148_9 : decode prog_11_method_5_code 9 = .ok (.lor, 1) := by decide +kernel
theorem dd_148_10 : decode prog_11_method_5_code 10 = .ok (.lreturn, 1) := by decide +kernel
set_option maxRecDepth 100000 in
theorem okI_148 : mj_okI gG "PairMachine$Value" prog_11_method_5_code 1 (mj_off oM_148) (Option.some Jvm.ClassFile.FieldType.long) false true 0 cM_148 :=
  ⟨Or.inr ⟨19, dd_148_0, rfl, tw_771⟩,
   Or.inl ⟨0, rfl, dd_148_3, rfl⟩,
   ⟨dd_148_4, rfl⟩,
   Or.inr ⟨13, dd_148_5, rfl, tw_768⟩,
   ⟨dd_148_8, rfl⟩,
   ⟨dd_148_9, rfl⟩,
   ⟨dd_148_10, rfl⟩, trivial⟩
theorem okM_148 : mj_okE gG 148 (cM_148, 1, oM_148, hM_148) := ⟨rfl, rfl, by decide +kernel, trivial, okI_148⟩
theorem dd_149_0 : decode prog_11_method_6_code 0 = .ok (.lload_n 0, 1) := by decide +kernel
theorem dd_149_1 : decode prog_11_method_6_code 1 = .ok (.bipush 32, 2) := by decide +kernel
theorem dd_149_3 : decode prog_11_method_6_code 3 = .ok (.lshr, 1) := by decide +kernel
theorem dd_149_4 : decode prog_11_method_6_code 4 = .ok (.lconst 1, 1) := by decide +kernel
theorem dd_149_5 : decode prog_11_method_6_code 5 = .ok (.lcmp, 1) := by decide +kernel
theorem dd_149_6 : decode prog_11_method_6_code 6 = .ok (.ifCond .ne 7, 3) := by decide +kernel
theorem dd_149_9 : decode prog_11_method_6_code 9 = .ok (.iconst 1, 1) := by decide +kernel
theorem dd_149_10 : decode prog_11_method_6_code 10 = .ok (.goto 4, 3) := by decide +kernel
theorem dd_149_13 : decode prog_11_method_6_code 13 = .ok (.iconst 0, 1) := by decide +kernel
theorem dd_149_14 : decode prog_11_method_6_code 14 = .ok (.ireturn, 1) := by decide +kernel
set_option maxRecDepth 100000 in
theorem okI_149 : mj_okI gG "PairMachine$Value" prog_11_method_6_code 2 (mj_off oM_149) (Option.some Jvm.ClassFile.FieldType.boolean) false true 0 cM_149 :=
  ⟨Or.inl ⟨0, rfl, dd_149_0, rfl⟩,
   Or.inl (Or.inr (Or.inl ⟨dd_149_1, rfl, by decide⟩)),
   ⟨dd_149_3, rfl⟩,
   Or.inl ⟨1, rfl, dd_149_4, rfl⟩,
   ⟨dd_149_5, rfl⟩,
   ⟨7, dd_149_6, rfl, rfl⟩,
   Or.inl (Or.inl ⟨dd_149_9, rfl⟩),
   ⟨4, dd_149_10, rfl⟩,
   Or.inl (Or.inl ⟨dd_149_13, rfl⟩),
   ⟨dd_149_14, rfl⟩, trivial⟩
theorem okM_149 : mj_okE gG 149 (cM_149, 2, oM_149, hM_149) := ⟨rfl, rfl, by decide +kernel, trivial, okI_149⟩
theorem dd_150_0 : decode prog_11_method_7_code 0 = .ok (.lload_n 0, 1) := by decide +kernel
theorem dd_150_1 : decode prog_11_method_7_code 1 = .ok (.bipush 32, 2) := by decide +kernel
theorem dd_150_3 : decode prog_11_method_7_code 3 = .ok (.lshr, 1) := by decide +kernel
theorem dd_150_4 : decode prog_11_method_7_code 4 = .ok (.ldc2_w 21, 3) := by decide +kernel
theorem dd_150_7 : decode prog_11_method_7_code 7 = .ok (.lcmp, 1) := by decide +kernel
theorem dd_150_8 : decode prog_11_method_7_code 8 = .ok (.ifCond .ne 7, 3) := by decide +kernel
theorem dd_150_11 : decode prog_11_method_7_code 11 = .ok (.iconst 1, 1) := by decide +kernel
theorem dd_150_12 : decode prog_11_method_7_code 12 = .ok (.goto 4, 3) := by decide +kernel
theorem dd_150_15 : decode prog_11_method_7_code 15 = .ok (.iconst 0, 1) := by decide +kernel
theorem dd_150_16 : decode prog_11_method_7_code 16 = .ok (.ireturn, 1) := by decide +kernel
set_option maxRecDepth 100000 in
theorem okI_150 : mj_okI gG "PairMachine$Value" prog_11_method_7_code 2 (mj_off oM_150) (Option.some Jvm.ClassFile.FieldType.boolean) false true 0 cM_150 :=
  ⟨Or.inl ⟨0, rfl, dd_150_0, rfl⟩,
   Or.inl (Or.inr (Or.inl ⟨dd_150_1, rfl, by decide⟩)),
   ⟨dd_150_3, rfl⟩,
   Or.inr ⟨21, dd_150_4, rfl, tw_772⟩,
   ⟨dd_150_7, rfl⟩,
   ⟨7, dd_150_8, rfl, rfl⟩,
   Or.inl (Or.inl ⟨dd_150_11, rfl⟩),
   ⟨4, dd_150_12, rfl⟩,
   Or.inl (Or.inl ⟨dd_150_15, rfl⟩),
   ⟨dd_150_16, rfl⟩, trivial⟩
theorem okM_150 : mj_okE gG 150 (cM_150, 2, oM_150, hM_150) := ⟨rfl, rfl, by decide +kernel, trivial, okI_150⟩
theorem dd_151_0 : decode prog_11_method_8_code 0 = .ok (.lload_n 0, 1) := by decide +kernel
theorem dd_151_1 : decode prog_11_method_8_code 1 = .ok (.bipush 32, 2) := by decide +kernel
theorem dd_151_3 : decode prog_11_method_8_code 3 = .ok (.lshr, 1) := by decide +kernel
theorem dd_151_4 : decode prog_11_method_8_code 4 = .ok (.ldc2_w 23, 3) := by decide +kernel
theorem dd_151_7 : decode prog_11_method_8_code 7 = .ok (.lcmp, 1) := by decide +kernel
theorem dd_151_8 : decode prog_11_method_8_code 8 = .ok (.ifCond .ne 7, 3) := by decide +kernel
theorem dd_151_11 : decode prog_11_method_8_code 11 = .ok (.iconst 1, 1) := by decide +kernel
theorem dd_151_12 : decode prog_11_method_8_code 12 = .ok (.goto 4, 3) := by decide +kernel
theorem dd_151_15 : decode prog_11_method_8_code 15 = .ok (.iconst 0, 1) := by decide +kernel
theorem dd_151_16 : decode prog_11_method_8_code 16 = .ok (.ireturn, 1) := by decide +kernel
set_option maxRecDepth 100000 in
theorem okI_151 : mj_okI gG "PairMachine$Value" prog_11_method_8_code 2 (mj_off oM_151) (Option.some Jvm.ClassFile.FieldType.boolean) false true 0 cM_151 :=
  ⟨Or.inl ⟨0, rfl, dd_151_0, rfl⟩,
   Or.inl (Or.inr (Or.inl ⟨dd_151_1, rfl, by decide⟩)),
   ⟨dd_151_3, rfl⟩,
   Or.inr ⟨23, dd_151_4, rfl, tw_773⟩,
   ⟨dd_151_7, rfl⟩,
   ⟨7, dd_151_8, rfl, rfl⟩,
   Or.inl (Or.inl ⟨dd_151_11, rfl⟩),
   ⟨4, dd_151_12, rfl⟩,
   Or.inl (Or.inl ⟨dd_151_15, rfl⟩),
   ⟨dd_151_16, rfl⟩, trivial⟩
theorem okM_151 : mj_okE gG 151 (cM_151, 2, oM_151, hM_151) := ⟨rfl, rfl, by decide +kernel, trivial, okI_151⟩
theorem dd_152_0 : decode prog_11_method_9_code 0 = .ok (.lload_n 0, 1) := by decide +kernel
theorem dd_152_1 : decode prog_11_method_9_code 1 = .ok (.bipush 32, 2) := by decide +kernel
theorem dd_152_3 : decode prog_11_method_9_code 3 = .ok (.lshr, 1) := by decide +kernel
theorem dd_152_4 : decode prog_11_method_9_code 4 = .ok (.ldc2_w 25, 3) := by decide +kernel
theorem dd_152_7 : decode prog_11_method_9_code 7 = .ok (.lcmp, 1) := by decide +kernel
theorem dd_152_8 : decode prog_11_method_9_code 8 = .ok (.ifCond .ne 7, 3) := by decide +kernel
theorem dd_152_11 : decode prog_11_method_9_code 11 = .ok (.iconst 1, 1) := by decide +kernel
theorem dd_152_12 : decode prog_11_method_9_code 12 = .ok (.goto 4, 3) := by decide +kernel
theorem dd_152_15 : decode prog_11_method_9_code 15 = .ok (.iconst 0, 1) := by decide +kernel
theorem dd_152_16 : decode prog_11_method_9_code 16 = .ok (.ireturn, 1) := by decide +kernel
set_option maxRecDepth 100000 in
theorem okI_152 : mj_okI gG "PairMachine$Value" prog_11_method_9_code 2 (mj_off oM_152) (Option.some Jvm.ClassFile.FieldType.boolean) false true 0 cM_152 :=
  ⟨Or.inl ⟨0, rfl, dd_152_0, rfl⟩,
   Or.inl (Or.inr (Or.inl ⟨dd_152_1, rfl, by decide⟩)),
   ⟨dd_152_3, rfl⟩,
   Or.inr ⟨25, dd_152_4, rfl, tw_774⟩,
   ⟨dd_152_7, rfl⟩,
   ⟨7, dd_152_8, rfl, rfl⟩,
   Or.inl (Or.inl ⟨dd_152_11, rfl⟩),
   ⟨4, dd_152_12, rfl⟩,
   Or.inl (Or.inl ⟨dd_152_15, rfl⟩),
   ⟨dd_152_16, rfl⟩, trivial⟩
theorem okM_152 : mj_okE gG 152 (cM_152, 2, oM_152, hM_152) := ⟨rfl, rfl, by decide +kernel, trivial, okI_152⟩
theorem dd_153_0 : decode prog_11_method_10_code 0 = .ok (.lload_n 0, 1) := by decide +kernel
theorem dd_153_1 : decode prog_11_method_10_code 1 = .ok (.bipush 32, 2) := by decide +kernel
theorem dd_153_3 : decode prog_11_method_10_code 3 = .ok (.lshr, 1) := by decide +kernel
theorem dd_153_4 : decode prog_11_method_10_code 4 = .ok (.ldc2_w 21, 3) := by decide +kernel
theorem dd_153_7 : decode prog_11_method_10_code 7 = .ok (.lcmp, 1) := by decide +kernel
theorem dd_153_8 : decode prog_11_method_10_code 8 = .ok (.ifCond .lt 8, 3) := by decide +kernel
theorem dd_153_11 : decode prog_11_method_10_code 11 = .ok (.lload_n 0, 1) := by decide +kernel
theorem dd_153_12 : decode prog_11_method_10_code 12 = .ok (.l2i, 1) := by decide +kernel
theorem dd_153_13 : decode prog_11_method_10_code 13 = .ok (.goto 4, 3) := by decide +kernel
theorem dd_153_16 : decode prog_11_method_10_code 16 = .ok (.iconst (-1), 1) := by decide +kernel
theorem dd_153_17 : decode prog_11_method_10_code 17 = .ok (.ireturn, 1) := by decide +kernel
set_option maxRecDepth 100000 in
theorem okI_153 : mj_okI gG "PairMachine$Value" prog_11_method_10_code 2 (mj_off oM_153) (Option.some Jvm.ClassFile.FieldType.int) false true 0 cM_153 :=
  ⟨Or.inl ⟨0, rfl, dd_153_0, rfl⟩,
   Or.inl (Or.inr (Or.inl ⟨dd_153_1, rfl, by decide⟩)),
   ⟨dd_153_3, rfl⟩,
   Or.inr ⟨21, dd_153_4, rfl, tw_772⟩,
   ⟨dd_153_7, rfl⟩,
   ⟨8, dd_153_8, rfl, rfl⟩,
   Or.inl ⟨0, rfl, dd_153_11, rfl⟩,
   ⟨dd_153_12, rfl⟩,
   ⟨4, dd_153_13, rfl⟩,
   Or.inl (Or.inl ⟨dd_153_16, rfl⟩),
   ⟨dd_153_17, rfl⟩, trivial⟩
theorem okM_153 : mj_okE gG 153 (cM_153, 2, oM_153, hM_153) := ⟨rfl, rfl, by decide +kernel, trivial, okI_153⟩
theorem dd_154_0 : decode prog_11_method_11_code 0 = .ok (.lload_n 0, 1) := by decide +kernel
theorem dd_154_1 : decode prog_11_method_11_code 1 = .ok (.l2i, 1) := by decide +kernel
theorem dd_154_2 : decode prog_11_method_11_code 2 = .ok (.ireturn, 1) := by decide +kernel
set_option maxRecDepth 100000 in
theorem okI_154 : mj_okI gG "PairMachine$Value" prog_11_method_11_code 2 (mj_off oM_154) (Option.some Jvm.ClassFile.FieldType.int) false true 0 cM_154 :=
  ⟨Or.inl ⟨0, rfl, dd_154_0, rfl⟩,
   ⟨dd_154_1, rfl⟩,
   ⟨dd_154_2, rfl⟩, trivial⟩
theorem okM_154 : mj_okE gG 154 (cM_154, 2, oM_154, hM_154) := ⟨rfl, rfl, by decide +kernel, trivial, okI_154⟩
theorem dd_155_0 : decode prog_13_method_1_code 0 = .ok (.aload_n 0, 1) := by decide +kernel
theorem dd_155_1 : decode prog_13_method_1_code 1 = .ok (.invokespecial 1, 3) := by decide +kernel
theorem dd_155_4 : decode prog_13_method_1_code 4 = .ok (.aload_n 0, 1) := by decide +kernel
theorem dd_155_5 : decode prog_13_method_1_code 5 = .ok (.bipush 96, 2) := by decide +kernel
theorem dd_155_7 : decode prog_13_method_1_code 7 = .ok (.newarray .char, 2) := by decide +kernel
theorem dd_155_9 : decode prog_13_method_1_code 9 = .ok (.putfield 7, 3) := by decide +kernel
theorem dd_155_12 : decode prog_13_method_1_code 12 = .ok (.aload_n 0, 1) := by decide +kernel
theorem dd_155_13 : decode prog_13_method_1_code 13 = .ok (.iconst (-1), 1) := by decide +kernel
theorem dd_155_14 : decode prog_13_method_1_code 14 = .ok (.putfield 13, 3) := by decide +kernel
theorem dd_155_17 : decode prog_13_method_1_code 17 = .ok (.aload_n 0, 1) := by decide +kernel
theorem dd_155_18 : decode prog_13_method_1_code 18 = .ok (.bipush 100, 2) := by decide +kernel
theorem dd_155_20 : decode prog_13_method_1_code 20 = .ok (.newarray .int, 2) := by decide +kernel
theorem dd_155_22 : decode prog_13_method_1_code 22 = .ok (.putfield 17, 3) := by decide +kernel
theorem dd_155_25 : decode prog_13_method_1_code 25 = .ok (.aload_n 0, 1) := by decide +kernel
theorem dd_155_26 : decode prog_13_method_1_code 26 = .ok (.bipush 100, 2) := by decide +kernel
theorem dd_155_28 : decode prog_13_method_1_code 28 = .ok (.newarray .int, 2) := by decide +kernel
theorem dd_155_30 : decode prog_13_method_1_code 30 = .ok (.putfield 21, 3) := by decide +kernel
theorem dd_155_33 : decode prog_13_method_1_code 33 = .ok (.aload_n 0, 1) := by decide +kernel
theorem dd_155_34 : decode prog_13_method_1_code 34 = .ok (.bipush 100, 2) := by decide +kernel
theorem dd_155_36 : decode prog_13_method_1_code 36 = .ok (.newarray .int, 2) := by decide +kernel
theorem dd_155_38 : decode prog_13_method_1_code 38 = .ok (.putfield 24, 3) := by decide +kernel
theorem dd_155_41 : decode prog_13_method_1_code 41 = .ok (.aload_n 0, 1) := by decide +kernel
theorem dd_155_42 : decode prog_13_method_1_code 42 = .ok (.bipush 100, 2) := by decide +kernel
theorem dd_155_44 : decode prog_13_method_1_code 44 = .ok (.newarray .int, 2) := by decide +kernel
theorem dd_155_46 : decode prog_13_method_1_code 46 = .ok (.putfield 27, 3) := by decide +kernel
theorem dd_155_49 : decode prog_13_method_1_code 49 = .ok (.aload_n 0, 1) := by decide +kernel
theorem dd_155_50 : decode prog_13_method_1_code 50 = .ok (.bipush 100, 2) := by decide +kernel
theorem dd_155_52 : decode prog_13_method_1_code 52 = .ok (.newarray .int, 2) := by decide +kernel
theorem dd_155_54 : decode prog_13_method_1_code 54 = .ok (.putfield 30, 3) := by decide +kernel
theorem dd_155_57 : decode prog_13_method_1_code 57 = .ok (.aload_n 0, 1) := by decide +kernel
theorem dd_155_58 : decode prog_13_method_1_code 58 = .ok (.bipush 100, 2) := by decide +kernel
theorem dd_155_60 : decode prog_13_method_1_code 60 = .ok (.newarray .int, 2) := by decide +kernel
theorem dd_155_62 : decode prog_13_method_1_code 62 = .ok (.putfield 33, 3) := by decide +kernel
theorem dd_155_65 : decode prog_13_method_1_code 65 = .ok (.aload_n 0, 1) := by decide +kernel
theorem dd_155_66 : decode prog_13_method_1_code 66 = .ok (.bipush 100, 2) := by decide +kernel
theorem dd_155_68 : decode prog_13_method_1_code 68 = .ok (.newarray .int, 2) := by decide +kernel
theorem dd_155_70 : decode prog_13_method_1_code 70 = .ok (.putfield 36, 3) := by decide +kernel
theorem dd_155_73 : decode prog_13_method_1_code 73 = .ok (.aload_n 0, 1) := by decide +kernel
theorem dd_155_74 : decode prog_13_method_1_code 74 = .ok (.bipush 100, 2) := by decide +kernel
theorem dd_155_76 : decode prog_13_method_1_code 76 = .ok (.newarray .int, 2) := by decide +kernel
theorem dd_155_78 : decode prog_13_method_1_code 78 = .ok (.putfield 39, 3) := by decide +kernel
theorem dd_155_81 : decode prog_13_method_1_code 81 = .ok (.aload_n 0, 1) := by decide +kernel
theorem dd_155_82 : decode prog_13_method_1_code 82 = .ok (.bipush 100, 2) := by decide +kernel
theorem dd_155_84 : decode prog_13_method_1_code 84 = .ok (.newarray .int, 2) := by decide +kernel
theorem dd_155_86 : decode prog_13_method_1_code 86 = .ok (.putfield 42, 3) := by decide +kernel
theorem dd_155_89 : decode prog_13_method_1_code 89 = .ok (.aload_n 0, 1) := by decide +kernel
theorem dd_155_90 : decode prog_13_method_1_code 90 = .ok (.sipush 300, 3) := by decide +kernel
theorem dd_155_93 : decode prog_13_method_1_code 93 = .ok (.newarray .int, 2) := by decide +kernel
theorem dd_155_95 : decode prog_13_method_1_code 95 = .ok (.putfield 45, 3) := by decide +kernel
theorem dd_155_98 : decode prog_13_method_1_code 98 = .ok (.aload_n 0, 1) := by decide +kernel
theorem dd_155_99 : decode prog_13_method_1_code 99 = .ok (.bipush 100, 2) := by decide +kernel
theorem dd_155_101 : decode prog_13_method_1_code 101 = .ok (.newarray .int, 2) := by decide +kernel
theorem dd_155_103 : decode prog_13_method_1_code 103 = .ok (.putfield 48, 3) := by decide +kernel
theorem dd_155_106 : decode prog_13_method_1_code 106 = .ok (.aload_n 0, 1) := by decide +kernel
theorem dd_155_107 : decode prog_13_method_1_code 107 = .ok (.sipush 1200, 3) := by decide +kernel
theorem dd_155_110 : decode prog_13_method_1_code 110 = .ok (.newarray .int, 2) := by decide +kernel
theorem dd_155_112 : decode prog_13_method_1_code 112 = .ok (.putfield 51, 3) := by decide +kernel
theorem dd_155_115 : decode prog_13_method_1_code 115 = .ok (.aload_n 0, 1) := by decide +kernel
theorem dd_155_116 : decode prog_13_method_1_code 116 = .ok (.sipush 1200, 3) := by decide +kernel
theorem dd_155_119 : decode prog_13_method_1_code 119 = .ok (.newarray .int, 2) := by decide +kernel
theorem dd_155_121 : decode prog_13_method_1_code 121 = .ok (.putfield 54, 3) := by decide +kernel
theorem dd_155_124 : decode prog_13_method_1_code 124 = .ok (.aload_n 0, 1) := by decide +kernel
theorem dd_155_125 : decode prog_13_method_1_code 125 = .ok (.sipush 1200, 3) := by decide +kernel
theorem dd_155_128 : decode prog_13_method_1_code 128 = .ok (.newarray .int, 2) := by decide +kernel
theorem dd_155_130 : decode prog_13_method_1_code 130 = .ok (.putfield 57, 3) := by decide +kernel
theorem dd_155_133 : decode prog_13_method_1_code 133 = .ok (.aload_n 0, 1) := by decide +kernel
theorem dd_155_134 : decode prog_13_method_1_code 134 = .ok (.sipush 1200, 3) := by decide +kernel
theorem dd_155_137 : decode prog_13_method_1_code 137 = .ok (.newarray .int, 2) := by decide +kernel
theorem dd_155_139 : decode prog_13_method_1_code 139 = .ok (.putfield 60, 3) := by decide +kernel
theorem dd_155_142 : decode prog_13_method_1_code 142 = .ok (.aload_n 0, 1) := by decide +kernel
theorem dd_155_143 : decode prog_13_method_1_code 143 = .ok (.sipush 250, 3) := by decide +kernel
theorem dd_155_146 : decode prog_13_method_1_code 146 = .ok (.newarray .boolean, 2) := by decide +kernel
theorem dd_155_148 : decode prog_13_method_1_code 148 = .ok (.putfield 63, 3) := by decide +kernel
theorem dd_155_151 : decode prog_13_method_1_code 151 = .ok (.aload_n 0, 1) := by decide +kernel
theorem dd_155_152 : decode prog_13_method_1_code 152 = .ok (.sipush 250, 3) := by decide +kernel
theorem dd_155_155 : decode prog_13_method_1_code 155 = .ok (.newarray .boolean, 2) := by decide +kernel
theorem dd_155_157 : decode prog_13_method_1_code 157 = .ok (.putfield 67, 3) := by decide +kernel
theorem dd_155_160 : decode prog_13_method_1_code 160 = .ok (.aload_n 0, 1) := by decide +kernel
theorem dd_155_161 : decode prog_13_method_1_code 161 = .ok (.sipush 250, 3) := by decide +kernel
theorem dd_155_164 : decode prog_13_method_1_code 164 = .ok (.newarray .int, 2) := by decide +kernel
theorem dd_155_166 : decode prog_13_method_1_code 166 = .ok (.putfield 70, 3) := by decide +kernel
theorem dd_155_169 : decode prog_13_method_1_code 169 = .ok (.aload_n 0, 1) := by decide +kernel
theorem dd_155_170 : decode prog_13_method_1_code 170 = .ok (.sipush 250, 3) := by decide +kernel
theorem dd_155_173 : decode prog_13_method_1_code 173 = .ok (.newarray .int, 2) := by decide +kernel
theorem dd_155_175 : decode prog_13_method_1_code 175 = .ok (.putfield 73, 3) := by decide +kernel
theorem dd_155_178 : decode prog_13_method_1_code 178 = .ok (.aload_n 0, 1) := by decide +kernel
theorem dd_155_179 : decode prog_13_method_1_code 179 = .ok (.sipush 250, 3) := by decide +kernel
theorem dd_155_182 : decode prog_13_method_1_code 182 = .ok (.newarray .int, 2) := by decide +kernel
theorem dd_155_184 : decode prog_13_method_1_code 184 = .ok (.putfield 76, 3) := by decide +kernel
theorem dd_155_187 : decode prog_13_method_1_code 187 = .ok (.aload_n 0, 1) := by decide +kernel
theorem dd_155_188 : decode prog_13_method_1_code 188 = .ok (.sipush 250, 3) := by decide +kernel
theorem dd_155_191 : decode prog_13_method_1_code 191 = .ok (.newarray .int, 2) := by decide +kernel
theorem dd_155_193 : decode prog_13_method_1_code 193 = .ok (.putfield 79, 3) := by decide +kernel
theorem dd_155_196 : decode prog_13_method_1_code 196 = .ok (.aload_n 0, 1) := by decide +kernel
theorem dd_155_197 : decode prog_13_method_1_code 197 = .ok (.sipush 250, 3) := by decide +kernel
theorem dd_155_200 : decode prog_13_method_1_code 200 = .ok (.newarray .boolean, 2) := by decide +kernel
theorem dd_155_202 : decode prog_13_method_1_code 202 = .ok (.putfield 82, 3) := by decide +kernel
theorem dd_155_205 : decode prog_13_method_1_code 205 = .ok (.aload_n 0, 1) := by decide +kernel
theorem dd_155_206 : decode prog_13_method_1_code 206 = .ok (.sipush 260, 3) := by decide +kernel
theorem dd_155_209 : decode prog_13_method_1_code 209 = .ok (.newarray .int, 2) := by decide +kernel
theorem dd_155_211 : decode prog_13_method_1_code 211 = .ok (.putfield 85, 3) := by decide +kernel
theorem dd_155_214 : decode prog_13_method_1_code 214 = .ok (.aload_n 0, 1) := by decide +kernel
theorem dd_155_215 : decode prog_13_method_1_code 215 = .ok (.iconst 5, 1) := by decide +kernel
theorem dd_155_216 : decode prog_13_method_1_code 216 = .ok (.newarray .int, 2) := by decide +kernel
theorem dd_155_218 : decode prog_13_method_1_code 218 = .ok (.dup, 1) := by decide +kernel
theorem dd_155_219 : decode prog_13_method_1_code 219 = .ok (.iconst 0, 1) := by decide +kernel
theorem dd_155_220 : decode prog_13_method_1_code 220 = .ok (.iconst (-1), 1) := by decide +kernel
theorem dd_155_221 : decode prog_13_method_1_code 221 = .ok (.iastore, 1) := by decide +kernel
theorem dd_155_222 : decode prog_13_method_1_code 222 = .ok (.dup, 1) := by decide +kernel
theorem dd_155_223 : decode prog_13_method_1_code 223 = .ok (.iconst 1, 1) := by decide +kernel
theorem dd_155_224 : decode prog_13_method_1_code 224 = .ok (.iconst (-1), 1) := by decide +kernel
theorem dd_155_225 : decode prog_13_method_1_code 225 = .ok (.iastore, 1) := by decide +kernel
theorem dd_155_226 : decode prog_13_method_1_code 226 = .ok (.dup, 1) := by decide +kernel
theorem dd_155_227 : decode prog_13_method_1_code 227 = .ok (.iconst 2, 1) := by decide +kernel
theorem dd_155_228 : decode prog_13_method_1_code 228 = .ok (.iconst (-1), 1) := by decide +kernel
theorem dd_155_229 : decode prog_13_method_1_code 229 = .ok (.iastore, 1) := by decide +kernel
theorem dd_155_230 : decode prog_13_method_1_code 230 = .ok (.dup, 1) := by decide +kernel
theorem dd_155_231 : decode prog_13_method_1_code 231 = .ok (.iconst 3, 1) := by decide +kernel
theorem dd_155_232 : decode prog_13_method_1_code 232 = .ok (.iconst (-1), 1) := by decide +kernel
theorem dd_155_233 : decode prog_13_method_1_code 233 = .ok (.iastore, 1) := by decide +kernel
theorem dd_155_234 : decode prog_13_method_1_code 234 = .ok (.dup, 1) := by decide +kernel
theorem dd_155_235 : decode prog_13_method_1_code 235 = .ok (.iconst 4, 1) := by decide +kernel
theorem dd_155_236 : decode prog_13_method_1_code 236 = .ok (.iconst (-1), 1) := by decide +kernel
theorem dd_155_237 : decode prog_13_method_1_code 237 = .ok (.iastore, 1) := by decide +kernel
theorem dd_155_238 : decode prog_13_method_1_code 238 = .ok (.putfield 88, 3) := by decide +kernel
theorem dd_155_241 : decode prog_13_method_1_code 241 = .ok (.aload_n 0, 1) := by decide +kernel
theorem dd_155_242 : decode prog_13_method_1_code 242 = .ok (.bipush 120, 2) := by decide +kernel
theorem dd_155_244 : decode prog_13_method_1_code 244 = .ok (.newarray .char, 2) := by decide +kernel
theorem dd_155_246 : decode prog_13_method_1_code 246 = .ok (.putfield 91, 3) := by decide +kernel
theorem dd_155_249 : decode prog_13_method_1_code 249 = .ok (.aload_n 0, 1) := by decide +kernel
theorem dd_155_250 : decode prog_13_method_1_code 250 = .ok (.iload_n 1, 1) := by decide +kernel
theorem dd_155_251 : decode prog_13_method_1_code 251 = .ok (.bipush 20, 2) := by decide +kernel
theorem dd_155_253 : decode prog_13_method_1_code 253 = .ok (.if_icmp .ge 8, 3) := by decide +kernel
theorem dd_155_256 : decode prog_13_method_1_code 256 = .ok (.bipush 20, 2) := by decide +kernel
theorem dd_155_258 : decode prog_13_method_1_code 258 = .ok (.goto 17, 3) := by decide +kernel
theorem dd_155_261 : decode prog_13_method_1_code 261 = .ok (.iload_n 1, 1) := by decide +kernel
theorem dd_155_262 : decode prog_13_method_1_code 262 = .ok (.sipush 250, 3) := by decide +kernel
theorem dd_155_265 : decode prog_13_method_1_code 265 = .ok (.if_icmp .le 9, 3) := by decide +kernel
theorem dd_155_268 : decode prog_13_method_1_code 268 = .ok (.sipush 250, 3) := by decide +kernel
theorem dd_155_271 : decode prog_13_method_1_code 271 = .ok (.goto 4, 3) := by decide +kernel
theorem dd_155_274 : decode prog_13_method_1_code 274 = .ok (.iload_n 1, 1) := by decide +kernel
theorem dd_155_275 : decode prog_13_method_1_code 275 = .ok (.putfield 94, 3) := by decide +kernel
theorem dd_155_278 : decode prog_13_method_1_code 278 = .ok (.return_, 1) := by decide +kernel
set_option maxRecDepth 100000 in
theorem okI_155 : mj_okI gG "PairMachineModel" prog_13_method_1_code 2 (mj_off oM_155) (Option.none : Option Jvm.ClassFile.FieldType) true true 0 cM_155 :=
  ⟨Or.inl ⟨0, rfl, dd_155_0, rfl⟩,
   ⟨1, dd_155_1, rfl, tw_775, tw_101, tw_102⟩,
   Or.inl ⟨0, rfl, dd_155_4, rfl⟩,
   Or.inl (Or.inr (Or.inl ⟨dd_155_5, rfl, by decide⟩)),
   ⟨dd_155_7, rfl, tw_226⟩,
   ⟨7, "PairMachineModel", fT10, 45, dd_155_9, rfl, okc_10, by decide, tw_776, Or.inr ⟨_, rfl⟩, Or.inr ⟨rfl, by decide, rfl⟩⟩,
   Or.inl ⟨0, rfl, dd_155_12, rfl⟩,
   Or.inl (Or.inl ⟨dd_155_13, rfl⟩),
   ⟨13, "PairMachineModel", fT10, 45, dd_155_14, rfl, okc_10, by decide, tw_777, rfl, Or.inl rfl⟩,
   Or.inl ⟨0, rfl, dd_155_17, rfl⟩,
   Or.inl (Or.inr (Or.inl ⟨dd_155_18, rfl, by decide⟩)),
   ⟨dd_155_20, rfl, tw_236⟩,
   ⟨17, "PairMachineModel", fT10, 45, dd_155_22, rfl, okc_10, by decide, tw_778, Or.inr ⟨_, rfl⟩, Or.inr ⟨rfl, by decide, rfl⟩⟩,
   Or.inl ⟨0, rfl, dd_155_25, rfl⟩,
   Or.inl (Or.inr (Or.inl ⟨dd_155_26, rfl, by decide⟩)),
   ⟨dd_155_28, rfl, tw_236⟩,
   ⟨21, "PairMachineModel", fT10, 45, dd_155_30, rfl, okc_10, by decide, tw_779, Or.inr ⟨_, rfl⟩, Or.inr ⟨rfl, by decide, rfl⟩⟩,
   Or.inl ⟨0, rfl, dd_155_33, rfl⟩,
   Or.inl (Or.inr (Or.inl ⟨dd_155_34, rfl, by decide⟩)),
   ⟨dd_155_36, rfl, tw_236⟩,
   ⟨24, "PairMachineModel", fT10, 45, dd_155_38, rfl, okc_10, by decide, tw_780, Or.inr ⟨_, rfl⟩, Or.inr ⟨rfl, by decide, rfl⟩⟩,
   Or.inl ⟨0, rfl, dd_155_41, rfl⟩,
   Or.inl (Or.inr (Or.inl ⟨dd_155_42, rfl, by decide⟩)),
   ⟨dd_155_44, rfl, tw_236⟩,
   ⟨27, "PairMachineModel", fT10, 45, dd_155_46, rfl, okc_10, by decide, tw_781, Or.inr ⟨_, rfl⟩, Or.inr ⟨rfl, by decide, rfl⟩⟩,
   Or.inl ⟨0, rfl, dd_155_49, rfl⟩,
   Or.inl (Or.inr (Or.inl ⟨dd_155_50, rfl, by decide⟩)),
   ⟨dd_155_52, rfl, tw_236⟩,
   ⟨30, "PairMachineModel", fT10, 45, dd_155_54, rfl, okc_10, by decide, tw_782, Or.inr ⟨_, rfl⟩, Or.inr ⟨rfl, by decide, rfl⟩⟩,
   Or.inl ⟨0, rfl, dd_155_57, rfl⟩,
   Or.inl (Or.inr (Or.inl ⟨dd_155_58, rfl, by decide⟩)),
   ⟨dd_155_60, rfl, tw_236⟩,
   ⟨33, "PairMachineModel", fT10, 45, dd_155_62, rfl, okc_10, by decide, tw_783, Or.inr ⟨_, rfl⟩, Or.inr ⟨rfl, by decide, rfl⟩⟩,
   Or.inl ⟨0, rfl, dd_155_65, rfl⟩,
   Or.inl (Or.inr (Or.inl ⟨dd_155_66, rfl, by decide⟩)),
   ⟨dd_155_68, rfl, tw_236⟩,
   ⟨36, "PairMachineModel", fT10, 45, dd_155_70, rfl, okc_10, by decide, tw_784, Or.inr ⟨_, rfl⟩, Or.inr ⟨rfl, by decide, rfl⟩⟩,
   Or.inl ⟨0, rfl, dd_155_73, rfl⟩,
   Or.inl (Or.inr (Or.inl ⟨dd_155_74, rfl, by decide⟩)),
   ⟨dd_155_76, rfl, tw_236⟩,
   ⟨39, "PairMachineModel", fT10, 45, dd_155_78, rfl, okc_10, by decide, tw_785, Or.inr ⟨_, rfl⟩, Or.inr ⟨rfl, by decide, rfl⟩⟩,
   Or.inl ⟨0, rfl, dd_155_81, rfl⟩,
   Or.inl (Or.inr (Or.inl ⟨dd_155_82, rfl, by decide⟩)),
   ⟨dd_155_84, rfl, tw_236⟩,
   ⟨42, "PairMachineModel", fT10, 45, dd_155_86, rfl, okc_10, by decide, tw_786, Or.inr ⟨_, rfl⟩, Or.inr ⟨rfl, by decide, rfl⟩⟩,
   Or.inl ⟨0, rfl, dd_155_89, rfl⟩,
   Or.inl (Or.inr (Or.inr (Or.inl ⟨dd_155_90, rfl, by decide⟩))),
   ⟨dd_155_93, rfl, tw_236⟩,
   ⟨45, "PairMachineModel", fT10, 45, dd_155_95, rfl, okc_10, by decide, tw_787, Or.inr ⟨_, rfl⟩, Or.inr ⟨rfl, by decide, rfl⟩⟩,
   Or.inl ⟨0, rfl, dd_155_98, rfl⟩,
   Or.inl (Or.inr (Or.inl ⟨dd_155_99, rfl, by decide⟩)),
   ⟨dd_155_101, rfl, tw_236⟩,
   ⟨48, "PairMachineModel", fT10, 45, dd_155_103, rfl, okc_10, by decide, tw_788, Or.inr ⟨_, rfl⟩, Or.inr ⟨rfl, by decide, rfl⟩⟩,
   Or.inl ⟨0, rfl, dd_155_106, rfl⟩,
   Or.inl (Or.inr (Or.inr (Or.inl ⟨dd_155_107, rfl, by decide⟩))),
   ⟨dd_155_110, rfl, tw_236⟩,
   ⟨51, "PairMachineModel", fT10, 45, dd_155_112, rfl, okc_10, by decide, tw_789, Or.inr ⟨_, rfl⟩, Or.inr ⟨rfl, by decide, rfl⟩⟩,
   Or.inl ⟨0, rfl, dd_155_115, rfl⟩,
   Or.inl (Or.inr (Or.inr (Or.inl ⟨dd_155_116, rfl, by decide⟩))),
   ⟨dd_155_119, rfl, tw_236⟩,
   ⟨54, "PairMachineModel", fT10, 45, dd_155_121, rfl, okc_10, by decide, tw_790, Or.inr ⟨_, rfl⟩, Or.inr ⟨rfl, by decide, rfl⟩⟩,
   Or.inl ⟨0, rfl, dd_155_124, rfl⟩,
   Or.inl (Or.inr (Or.inr (Or.inl ⟨dd_155_125, rfl, by decide⟩))),
   ⟨dd_155_128, rfl, tw_236⟩,
   ⟨57, "PairMachineModel", fT10, 45, dd_155_130, rfl, okc_10, by decide, tw_791, Or.inr ⟨_, rfl⟩, Or.inr ⟨rfl, by decide, rfl⟩⟩,
   Or.inl ⟨0, rfl, dd_155_133, rfl⟩,
   Or.inl (Or.inr (Or.inr (Or.inl ⟨dd_155_134, rfl, by decide⟩))),
   ⟨dd_155_137, rfl, tw_236⟩,
   ⟨60, "PairMachineModel", fT10, 45, dd_155_139, rfl, okc_10, by decide, tw_792, Or.inr ⟨_, rfl⟩, Or.inr ⟨rfl, by decide, rfl⟩⟩,
   Or.inl ⟨0, rfl, dd_155_142, rfl⟩,
   Or.inl (Or.inr (Or.inr (Or.inl ⟨dd_155_143, rfl, by decide⟩))),
   ⟨dd_155_146, rfl, tw_705⟩,
   ⟨63, "PairMachineModel", fT10, 45, dd_155_148, rfl, okc_10, by decide, tw_793, Or.inr ⟨_, rfl⟩, Or.inr ⟨rfl, by decide, rfl⟩⟩,
   Or.inl ⟨0, rfl, dd_155_151, rfl⟩,
   Or.inl (Or.inr (Or.inr (Or.inl ⟨dd_155_152, rfl, by decide⟩))),
   ⟨dd_155_155, rfl, tw_705⟩,
   ⟨67, "PairMachineModel", fT10, 45, dd_155_157, rfl, okc_10, by decide, tw_794, Or.inr ⟨_, rfl⟩, Or.inr ⟨rfl, by decide, rfl⟩⟩,
   Or.inl ⟨0, rfl, dd_155_160, rfl⟩,
   Or.inl (Or.inr (Or.inr (Or.inl ⟨dd_155_161, rfl, by decide⟩))),
   ⟨dd_155_164, rfl, tw_236⟩,
   ⟨70, "PairMachineModel", fT10, 45, dd_155_166, rfl, okc_10, by decide, tw_795, Or.inr ⟨_, rfl⟩, Or.inr ⟨rfl, by decide, rfl⟩⟩,
   Or.inl ⟨0, rfl, dd_155_169, rfl⟩,
   Or.inl (Or.inr (Or.inr (Or.inl ⟨dd_155_170, rfl, by decide⟩))),
   ⟨dd_155_173, rfl, tw_236⟩,
   ⟨73, "PairMachineModel", fT10, 45, dd_155_175, rfl, okc_10, by decide, tw_796, Or.inr ⟨_, rfl⟩, Or.inr ⟨rfl, by decide, rfl⟩⟩,
   Or.inl ⟨0, rfl, dd_155_178, rfl⟩,
   Or.inl (Or.inr (Or.inr (Or.inl ⟨dd_155_179, rfl, by decide⟩))),
   ⟨dd_155_182, rfl, tw_236⟩,
   ⟨76, "PairMachineModel", fT10, 45, dd_155_184, rfl, okc_10, by decide, tw_797, Or.inr ⟨_, rfl⟩, Or.inr ⟨rfl, by decide, rfl⟩⟩,
   Or.inl ⟨0, rfl, dd_155_187, rfl⟩,
   Or.inl (Or.inr (Or.inr (Or.inl ⟨dd_155_188, rfl, by decide⟩))),
   ⟨dd_155_191, rfl, tw_236⟩,
   ⟨79, "PairMachineModel", fT10, 45, dd_155_193, rfl, okc_10, by decide, tw_798, Or.inr ⟨_, rfl⟩, Or.inr ⟨rfl, by decide, rfl⟩⟩,
   Or.inl ⟨0, rfl, dd_155_196, rfl⟩,
   Or.inl (Or.inr (Or.inr (Or.inl ⟨dd_155_197, rfl, by decide⟩))),
   ⟨dd_155_200, rfl, tw_705⟩,
   ⟨82, "PairMachineModel", fT10, 45, dd_155_202, rfl, okc_10, by decide, tw_799, Or.inr ⟨_, rfl⟩, Or.inr ⟨rfl, by decide, rfl⟩⟩,
   Or.inl ⟨0, rfl, dd_155_205, rfl⟩,
   Or.inl (Or.inr (Or.inr (Or.inl ⟨dd_155_206, rfl, by decide⟩))),
   ⟨dd_155_209, rfl, tw_236⟩,
   ⟨85, "PairMachineModel", fT10, 45, dd_155_211, rfl, okc_10, by decide, tw_800, Or.inr ⟨_, rfl⟩, Or.inr ⟨rfl, by decide, rfl⟩⟩,
   Or.inl ⟨0, rfl, dd_155_214, rfl⟩,
   Or.inl (Or.inl ⟨dd_155_215, rfl⟩),
   ⟨dd_155_216, rfl, tw_236⟩,
   ⟨dd_155_218, rfl⟩,
   Or.inl (Or.inl ⟨dd_155_219, rfl⟩),
   Or.inl (Or.inl ⟨dd_155_220, rfl⟩),
   ⟨dd_155_221, rfl⟩,
   ⟨dd_155_222, rfl⟩,
   Or.inl (Or.inl ⟨dd_155_223, rfl⟩),
   Or.inl (Or.inl ⟨dd_155_224, rfl⟩),
   ⟨dd_155_225, rfl⟩,
   ⟨dd_155_226, rfl⟩,
   Or.inl (Or.inl ⟨dd_155_227, rfl⟩),
   Or.inl (Or.inl ⟨dd_155_228, rfl⟩),
   ⟨dd_155_229, rfl⟩,
   ⟨dd_155_230, rfl⟩,
   Or.inl (Or.inl ⟨dd_155_231, rfl⟩),
   Or.inl (Or.inl ⟨dd_155_232, rfl⟩),
   ⟨dd_155_233, rfl⟩,
   ⟨dd_155_234, rfl⟩,
   Or.inl (Or.inl ⟨dd_155_235, rfl⟩),
   Or.inl (Or.inl ⟨dd_155_236, rfl⟩),
   ⟨dd_155_237, rfl⟩,
   ⟨88, "PairMachineModel", fT10, 45, dd_155_238, rfl, okc_10, by decide, tw_801, Or.inr ⟨_, rfl⟩, Or.inr ⟨rfl, by decide, rfl⟩⟩,
   Or.inl ⟨0, rfl, dd_155_241, rfl⟩,
   Or.inl (Or.inr (Or.inl ⟨dd_155_242, rfl, by decide⟩)),
   ⟨dd_155_244, rfl, tw_226⟩,
   ⟨91, "PairMachineModel", fT10, 45, dd_155_246, rfl, okc_10, by decide, tw_802, Or.inr ⟨_, rfl⟩, Or.inr ⟨rfl, by decide, rfl⟩⟩,
   Or.inl ⟨0, rfl, dd_155_249, rfl⟩,
   Or.inl ⟨1, rfl, dd_155_250, rfl⟩,
   Or.inl (Or.inr (Or.inl ⟨dd_155_251, rfl, by decide⟩)),
   ⟨8, dd_155_253, rfl, rfl⟩,
   Or.inl (Or.inr (Or.inl ⟨dd_155_256, rfl, by decide⟩)),
   ⟨17, dd_155_258, rfl⟩,
   Or.inl ⟨1, rfl, dd_155_261, rfl⟩,
   Or.inl (Or.inr (Or.inr (Or.inl ⟨dd_155_262, rfl, by decide⟩))),
   ⟨9, dd_155_265, rfl, rfl⟩,
   Or.inl (Or.inr (Or.inr (Or.inl ⟨dd_155_268, rfl, by decide⟩))),
   ⟨4, dd_155_271, rfl⟩,
   Or.inl ⟨1, rfl, dd_155_274, rfl⟩,
   ⟨94, "PairMachineModel", fT10, 45, dd_155_275, rfl, okc_10, by decide, tw_803, rfl, Or.inr ⟨rfl, by decide, rfl⟩⟩,
   ⟨dd_155_278, rfl⟩, trivial⟩
theorem okM_155 : mj_okE gG 155 (cM_155, 2, oM_155, hM_155) := ⟨rfl, rfl, by decide +kernel, trivial, okI_155⟩
theorem dd_156_0 : decode prog_13_method_2_code 0 = .ok (.aload_n 0, 1) := by decide +kernel
theorem dd_156_1 : decode prog_13_method_2_code 1 = .ok (.getfield 97, 3) := by decide +kernel
theorem dd_156_4 : decode prog_13_method_2_code 4 = .ok (.ireturn, 1) := by decide +kernel
set_option maxRecDepth 100000 in
theorem okI_156 : mj_okI gG "PairMachineModel" prog_13_method_2_code 1 (mj_off oM_156) (Option.some Jvm.ClassFile.FieldType.int) false true 0 cM_156 :=
  ⟨Or.inl ⟨0, rfl, dd_156_0, rfl⟩,
   ⟨97, "PairMachineModel", fT10, 45, dd_156_1, rfl, okc_10, by decide, tw_804⟩,
   ⟨dd_156_4, rfl⟩, trivial⟩
theorem okM_156 : mj_okE gG 156 (cM_156, 1, oM_156, hM_156) := ⟨rfl, rfl, by decide +kernel, trivial, okI_156⟩
theorem dd_157_0 : decode prog_13_method_3_code 0 = .ok (.aload_n 0, 1) := by decide +kernel
theorem dd_157_1 : decode prog_13_method_3_code 1 = .ok (.iconst 0, 1) := by decide +kernel
theorem dd_157_2 : decode prog_13_method_3_code 2 = .ok (.putfield 97, 3) := by decide +kernel
theorem dd_157_5 : decode prog_13_method_3_code 5 = .ok (.iconst 0, 1) := by decide +kernel
theorem dd_157_6 : decode prog_13_method_3_code 6 = .ok (.istore_n 3, 1) := by decide +kernel
theorem dd_157_7 : decode prog_13_method_3_code 7 = .ok (.bipush 56, 2) := by decide +kernel
theorem dd_157_9 : decode prog_13_method_3_code 9 = .ok (.istore 4, 2) := by decide +kernel
theorem dd_157_11 : decode prog_13_method_3_code 11 = .ok (.iload 4, 2) := by decide +kernel
theorem dd_157_13 : decode prog_13_method_3_code 13 = .ok (.ifCond .lt 58, 3) := by decide +kernel
theorem dd_157_16 : decode prog_13_method_3_code 16 = .ok (.lload_n 1, 1) := by decide +kernel
theorem dd_157_17 : decode prog_13_method_3_code 17 = .ok (.iload 4, 2) := by decide +kernel
theorem dd_157_19 : decode prog_13_method_3_code 19 = .ok (.lushr, 1) := by decide +kernel
theorem dd_157_20 : decode prog_13_method_3_code 20 = .ok (.ldc2_w 100, 3) := by decide +kernel
theorem dd_157_23 : decode prog_13_method_3_code 23 = .ok (.land, 1) := by decide +kernel
theorem dd_157_24 : decode prog_13_method_3_code 24 = .ok (.l2i, 1) := by decide +kernel
theorem dd_157_25 : decode prog_13_method_3_code 25 = .ok (.istore 5, 2) := by decide +kernel
theorem dd_157_27 : decode prog_13_method_3_code 27 = .ok (.iload 5, 2) := by decide +kernel
theorem dd_157_29 : decode prog_13_method_3_code 29 = .ok (.ifCond .eq 19, 3) := by decide +kernel
theorem dd_157_32 : decode prog_13_method_3_code 32 = .ok (.iload 5, 2) := by decide +kernel
theorem dd_157_34 : decode prog_13_method_3_code 34 = .ok (.bipush 32, 2) := by decide +kernel
theorem dd_157_36 : decode prog_13_method_3_code 36 = .ok (.if_icmp .lt 10, 3) := by decide +kernel
theorem dd_157_39 : decode prog_13_method_3_code 39 = .ok (.iload 5, 2) := by decide +kernel
theorem dd_157_41 : decode prog_13_method_3_code 41 = .ok (.bipush 126, 2) := by decide +kernel
theorem dd_157_43 : decode prog_13_method_3_code 43 = .ok (.if_icmp .le 5, 3) := by decide +kernel
theorem dd_157_46 : decode prog_13_method_3_code 46 = .ok (.iconst 0, 1) := by decide +kernel
theorem dd_157_47 : decode prog_13_method_3_code 47 = .ok (.ireturn, 1) := by decide +kernel
theorem dd_157_48 : decode prog_13_method_3_code 48 = .ok (.iload 5, 2) := by decide +kernel
theorem dd_157_50 : decode prog_13_method_3_code 50 = .ok (.ifCond .eq 9, 3) := by decide +kernel
theorem dd_157_53 : decode prog_13_method_3_code 53 = .ok (.iload_n 3, 1) := by decide +kernel
theorem dd_157_54 : decode prog_13_method_3_code 54 = .ok (.iconst 1, 1) := by decide +kernel
theorem dd_157_55 : decode prog_13_method_3_code 55 = .ok (.iadd, 1) := by decide +kernel
theorem dd_157_56 : decode prog_13_method_3_code 56 = .ok (.goto 4, 3) := by decide +kernel
theorem dd_157_59 : decode prog_13_method_3_code 59 = .ok (.iload_n 3, 1) := by decide +kernel
theorem dd_157_60 : decode prog_13_method_3_code 60 = .ok (.istore_n 3, 1) := by decide +kernel
theorem dd_157_61 : decode prog_13_method_3_code 61 = .ok (.iload 4, 2) := by decide +kernel
theorem dd_157_63 : decode prog_13_method_3_code 63 = .ok (.bipush 8, 2) := by decide +kernel
theorem dd_157_65 : decode prog_13_method_3_code 65 = .ok (.isub, 1) := by decide +kernel
theorem dd_157_66 : decode prog_13_method_3_code 66 = .ok (.istore 4, 2) := by decide +kernel
theorem dd_157_68 : decode prog_13_method_3_code 68 = .ok (.goto (-57), 3) := by decide +kernel
theorem dd_157_71 : decode prog_13_method_3_code 71 = .ok (.aload_n 0, 1) := by decide +kernel
theorem dd_157_72 : decode prog_13_method_3_code 72 = .ok (.getfield 102, 3) := by decide +kernel
theorem dd_157_75 : decode prog_13_method_3_code 75 = .ok (.iload_n 3, 1) := by decide +kernel
theorem dd_157_76 : decode prog_13_method_3_code 76 = .ok (.iadd, 1) := by decide +kernel
theorem dd_157_77 : decode prog_13_method_3_code 77 = .ok (.bipush 96, 2) := by decide +kernel
theorem dd_157_79 : decode prog_13_method_3_code 79 = .ok (.if_icmp .le 5, 3) := by decide +kernel
theorem dd_157_82 : decode prog_13_method_3_code 82 = .ok (.iconst 0, 1) := by decide +kernel
theorem dd_157_83 : decode prog_13_method_3_code 83 = .ok (.ireturn, 1) := by decide +kernel
theorem dd_157_84 : decode prog_13_method_3_code 84 = .ok (.bipush 56, 2) := by decide +kernel
theorem dd_157_86 : decode prog_13_method_3_code 86 = .ok (.istore 4, 2) := by decide +kernel
theorem dd_157_88 : decode prog_13_method_3_code 88 = .ok (.iload 4, 2) := by decide +kernel
theorem dd_157_90 : decode prog_13_method_3_code 90 = .ok (.ifCond .lt 51, 3) := by decide +kernel
theorem dd_157_93 : decode prog_13_method_3_code 93 = .ok (.lload_n 1, 1) := by decide +kernel
theorem dd_157_94 : decode prog_13_method_3_code 94 = .ok (.iload 4, 2) := by decide +kernel
theorem dd_157_96 : decode prog_13_method_3_code 96 = .ok (.lushr, 1) := by decide +kernel
theorem dd_157_97 : decode prog_13_method_3_code 97 = .ok (.ldc2_w 100, 3) := by decide +kernel
theorem dd_157_100 : decode prog_13_method_3_code 100 = .ok (.land, 1) := by decide +kernel
theorem dd_157_101 : decode prog_13_method_3_code 101 = .ok (.l2i, 1) := by decide +kernel
theorem dd_157_102 : decode prog_13_method_3_code 102 = .ok (.istore 5, 2) := by decide +kernel
theorem dd_157_104 : decode prog_13_method_3_code 104 = .ok (.iload 5, 2) := by decide +kernel
theorem dd_157_106 : decode prog_13_method_3_code 106 = .ok (.ifCond .eq 25, 3) := by decide +kernel
theorem dd_157_109 : decode prog_13_method_3_code 109 = .ok (.aload_n 0, 1) := by decide +kernel
theorem dd_157_110 : decode prog_13_method_3_code 110 = .ok (.getfield 7, 3) := by decide +kernel
theorem dd_157_113 : decode prog_13_method_3_code 113 = .ok (.aload_n 0, 1) := by decide +kernel
theorem dd_157_114 : decode prog_13_method_3_code 114 = .ok (.getfield 102, 3) := by decide +kernel
theorem dd_157_117 : decode prog_13_method_3_code 117 = .ok (.iload 5, 2) := by decide +kernel
theorem dd_157_119 : decode prog_13_method_3_code 119 = .ok (.i2c, 1) := by decide +kernel
theorem dd_157_120 : decode prog_13_method_3_code 120 = .ok (.castore, 1) := by decide +kernel
theorem dd_157_121 : decode prog_13_method_3_code 121 = .ok (.aload_n 0, 1) := by decide +kernel
theorem dd_157_122 : decode prog_13_method_3_code 122 = .ok (.dup, 1) := by decide +kernel
theorem dd_157_123 : decode prog_13_method_3_code 123 = .ok (.getfield 102, 3) := by decide +kernel
theorem dd_157_126 : decode prog_13_method_3_code 126 = .ok (.iconst 1, 1) := by decide +kernel
theorem dd_157_127 : decode prog_13_method_3_code 127 = .ok (.iadd, 1) := by decide +kernel
theorem dd_157_128 : decode prog_13_method_3_code 128 = .ok (.putfield 102, 3) := by decide +kernel
theorem dd_157_131 : decode prog_13_method_3_code 131 = .ok (.iload 4, 2) := by decide +kernel
theorem dd_157_133 : decode prog_13_method_3_code 133 = .ok (.bipush 8, 2) := by decide +kernel
theorem dd_157_135 : decode prog_13_method_3_code 135 = .ok (.isub, 1) := by decide +kernel
theorem dd_157_136 : decode prog_13_method_3_code 136 = .ok (.istore 4, 2) := by decide +kernel
theorem dd_157_138 : decode prog_13_method_3_code 138 = .ok (.goto (-50), 3) := by decide +kernel
theorem dd_157_141 : decode prog_13_method_3_code 141 = .ok (.iconst 1, 1) := by decide +kernel
theorem dd_157_142 : decode prog_13_method_3_code 142 = .ok (.ireturn, 1) := by decide +kernel
set_option maxRecDepth 100000 in
theorem okI_157 : mj_okI gG "PairMachineModel" prog_13_method_3_code 6 (mj_off oM_157) (Option.some Jvm.ClassFile.FieldType.boolean) false true 0 cM_157 :=
  ⟨Or.inl ⟨0, rfl, dd_157_0, rfl⟩,
   Or.inl (Or.inl ⟨dd_157_1, rfl⟩),
   ⟨97, "PairMachineModel", fT10, 45, dd_157_2, rfl, okc_10, by decide, tw_804, rfl, Or.inl rfl⟩,
   Or.inl (Or.inl ⟨dd_157_5, rfl⟩),
   ⟨by decide, Or.inl ⟨3, rfl, dd_157_6, rfl⟩⟩,
   Or.inl (Or.inr (Or.inl ⟨dd_157_7, rfl, by decide⟩)),
   ⟨by decide, Or.inr ⟨dd_157_9, rfl⟩⟩,
   Or.inr ⟨dd_157_11, rfl⟩,
   ⟨58, dd_157_13, rfl, rfl⟩,
   Or.inl ⟨1, rfl, dd_157_16, rfl⟩,
   Or.inr ⟨dd_157_17, rfl⟩,
   ⟨dd_157_19, rfl⟩,
   Or.inr ⟨100, dd_157_20, rfl, tw_805⟩,
   ⟨dd_157_23, rfl⟩,
   ⟨dd_157_24, rfl⟩,
   ⟨by decide, Or.inr ⟨dd_157_25, rfl⟩⟩,
   Or.inr ⟨dd_157_27, rfl⟩,
   ⟨19, dd_157_29, rfl, rfl⟩,
   Or.inr ⟨dd_157_32, rfl⟩,
   Or.inl (Or.inr (Or.inl ⟨dd_157_34, rfl, by decide⟩)),
   ⟨10, dd_157_36, rfl, rfl⟩,
   Or.inr ⟨dd_157_39, rfl⟩,
   Or.inl (Or.inr (Or.inl ⟨dd_157_41, rfl, by decide⟩)),
   ⟨5, dd_157_43, rfl, rfl⟩,
   Or.inl (Or.inl ⟨dd_157_46, rfl⟩),
   ⟨dd_157_47, rfl⟩,
   Or.inr ⟨dd_157_48, rfl⟩,
   ⟨9, dd_157_50, rfl, rfl⟩,
   Or.inl ⟨3, rfl, dd_157_53, rfl⟩,
   Or.inl (Or.inl ⟨dd_157_54, rfl⟩),
   ⟨dd_157_55, rfl⟩,
   ⟨4, dd_157_56, rfl⟩,
   Or.inl ⟨3, rfl, dd_157_59, rfl⟩,
   ⟨by decide, Or.inl ⟨3, rfl, dd_157_60, rfl⟩⟩,
   Or.inr ⟨dd_157_61, rfl⟩,
   Or.inl (Or.inr (Or.inl ⟨dd_157_63, rfl, by decide⟩)),
   ⟨dd_157_65, rfl⟩,
   ⟨by decide, Or.inr ⟨dd_157_66, rfl⟩⟩,
   ⟨(-57), dd_157_68, rfl⟩,
   Or.inl ⟨0, rfl, dd_157_71, rfl⟩,
   ⟨102, "PairMachineModel", fT10, 45, dd_157_72, rfl, okc_10, by decide, tw_806⟩,
   Or.inl ⟨3, rfl, dd_157_75, rfl⟩,
   ⟨dd_157_76, rfl⟩,
   Or.inl (Or.inr (Or.inl ⟨dd_157_77, rfl, by decide⟩)),
   ⟨5, dd_157_79, rfl, rfl⟩,
   Or.inl (Or.inl ⟨dd_157_82, rfl⟩),
   ⟨dd_157_83, rfl⟩,
   Or.inl (Or.inr (Or.inl ⟨dd_157_84, rfl, by decide⟩)),
   ⟨by decide, Or.inr ⟨dd_157_86, rfl⟩⟩,
   Or.inr ⟨dd_157_88, rfl⟩,
   ⟨51, dd_157_90, rfl, rfl⟩,
   Or.inl ⟨1, rfl, dd_157_93, rfl⟩,
   Or.inr ⟨dd_157_94, rfl⟩,
   ⟨dd_157_96, rfl⟩,
   Or.inr ⟨100, dd_157_97, rfl, tw_805⟩,
   ⟨dd_157_100, rfl⟩,
   ⟨dd_157_101, rfl⟩,
   ⟨by decide, Or.inr ⟨dd_157_102, rfl⟩⟩,
   Or.inr ⟨dd_157_104, rfl⟩,
   ⟨25, dd_157_106, rfl, rfl⟩,
   Or.inl ⟨0, rfl, dd_157_109, rfl⟩,
   ⟨7, "PairMachineModel", fT10, 45, dd_157_110, rfl, okc_10, by decide, tw_776⟩,
   Or.inl ⟨0, rfl, dd_157_113, rfl⟩,
   ⟨102, "PairMachineModel", fT10, 45, dd_157_114, rfl, okc_10, by decide, tw_806⟩,
   Or.inr ⟨dd_157_117, rfl⟩,
   ⟨dd_157_119, rfl⟩,
   ⟨dd_157_120, rfl⟩,
   Or.inl ⟨0, rfl, dd_157_121, rfl⟩,
   ⟨dd_157_122, rfl⟩,
   ⟨102, "PairMachineModel", fT10, 45, dd_157_123, rfl, okc_10, by decide, tw_806⟩,
   Or.inl (Or.inl ⟨dd_157_126, rfl⟩),
   ⟨dd_157_127, rfl⟩,
   ⟨102, "PairMachineModel", fT10, 45, dd_157_128, rfl, okc_10, by decide, tw_806, rfl, Or.inl rfl⟩,
   Or.inr ⟨dd_157_131, rfl⟩,
   Or.inl (Or.inr (Or.inl ⟨dd_157_133, rfl, by decide⟩)),
   ⟨dd_157_135, rfl⟩,
   ⟨by decide, Or.inr ⟨dd_157_136, rfl⟩⟩,
   ⟨(-50), dd_157_138, rfl⟩,
   Or.inl (Or.inl ⟨dd_157_141, rfl⟩),
   ⟨dd_157_142, rfl⟩, trivial⟩
theorem okM_157 : mj_okE gG 157 (cM_157, 6, oM_157, hM_157) := ⟨rfl, rfl, by decide +kernel, trivial, okI_157⟩
theorem dd_158_0 : decode prog_13_method_4_code 0 = .ok (.aload_n 0, 1) := by decide +kernel
theorem dd_158_1 : decode prog_13_method_4_code 1 = .ok (.getfield 105, 3) := by decide +kernel
theorem dd_158_4 : decode prog_13_method_4_code 4 = .ok (.iload_n 1, 1) := by decide +kernel
theorem dd_158_5 : decode prog_13_method_4_code 5 = .ok (.iadd, 1) := by decide +kernel
theorem dd_158_6 : decode prog_13_method_4_code 6 = .ok (.aload_n 0, 1) := by decide +kernel
theorem dd_158_7 : decode prog_13_method_4_code 7 = .ok (.getfield 102, 3) := by decide +kernel
theorem dd_158_10 : decode prog_13_method_4_code 10 = .ok (.if_icmp .ge 17, 3) := by decide +kernel
theorem dd_158_13 : decode prog_13_method_4_code 13 = .ok (.aload_n 0, 1) := by decide +kernel
theorem dd_158_14 : decode prog_13_method_4_code 14 = .ok (.getfield 7, 3) := by decide +kernel
theorem dd_158_17 : decode prog_13_method_4_code 17 = .ok (.aload_n 0, 1) := by decide +kernel
theorem dd_158_18 : decode prog_13_method_4_code 18 = .ok (.getfield 105, 3) := by decide +kernel
theorem dd_158_21 : decode prog_13_method_4_code 21 = .ok (.iload_n 1, 1) := by decide +kernel
theorem dd_158_22 : decode prog_13_method_4_code 22 = .ok (.iadd, 1) := by decide +kernel
theorem dd_158_23 : decode prog_13_method_4_code 23 = .ok (.caload, 1) := by decide +kernel
theorem dd_158_24 : decode prog_13_method_4_code 24 = .ok (.goto 4, 3) := by decide +kernel
theorem dd_158_27 : decode prog_13_method_4_code 27 = .ok (.iconst 0, 1) := by decide +kernel
theorem dd_158_28 : decode prog_13_method_4_code 28 = .ok (.ireturn, 1) := by decide +kernel
set_option maxRecDepth 100000 in
theorem okI_158 : mj_okI gG "PairMachineModel" prog_13_method_4_code 2 (mj_off oM_158) (Option.some Jvm.ClassFile.FieldType.char) false true 0 cM_158 :=
  ⟨Or.inl ⟨0, rfl, dd_158_0, rfl⟩,
   ⟨105, "PairMachineModel", fT10, 45, dd_158_1, rfl, okc_10, by decide, tw_807⟩,
   Or.inl ⟨1, rfl, dd_158_4, rfl⟩,
   ⟨dd_158_5, rfl⟩,
   Or.inl ⟨0, rfl, dd_158_6, rfl⟩,
   ⟨102, "PairMachineModel", fT10, 45, dd_158_7, rfl, okc_10, by decide, tw_806⟩,
   ⟨17, dd_158_10, rfl, rfl⟩,
   Or.inl ⟨0, rfl, dd_158_13, rfl⟩,
   ⟨7, "PairMachineModel", fT10, 45, dd_158_14, rfl, okc_10, by decide, tw_776⟩,
   Or.inl ⟨0, rfl, dd_158_17, rfl⟩,
   ⟨105, "PairMachineModel", fT10, 45, dd_158_18, rfl, okc_10, by decide, tw_807⟩,
   Or.inl ⟨1, rfl, dd_158_21, rfl⟩,
   ⟨dd_158_22, rfl⟩,
   ⟨dd_158_23, rfl⟩,
   ⟨4, dd_158_24, rfl⟩,
   Or.inl (Or.inl ⟨dd_158_27, rfl⟩),
   ⟨dd_158_28, rfl⟩, trivial⟩
theorem okM_158 : mj_okE gG 158 (cM_158, 2, oM_158, hM_158) := ⟨rfl, rfl, by decide +kernel, trivial, okI_158⟩
theorem dd_159_0 : decode prog_13_method_5_code 0 = .ok (.aload_n 0, 1) := by decide +kernel
theorem dd_159_1 : decode prog_13_method_5_code 1 = .ok (.iconst 0, 1) := by decide +kernel
theorem dd_159_2 : decode prog_13_method_5_code 2 = .ok (.invokevirtual 108, 3) := by decide +kernel
theorem dd_159_5 : decode prog_13_method_5_code 5 = .ok (.iload_n 1, 1) := by decide +kernel
theorem dd_159_6 : decode prog_13_method_5_code 6 = .ok (.if_icmp .ne 7, 3) := by decide +kernel
theorem dd_159_9 : decode prog_13_method_5_code 9 = .ok (.iconst 1, 1) := by decide +kernel
theorem dd_159_10 : decode prog_13_method_5_code 10 = .ok (.goto 4, 3) := by decide +kernel
theorem dd_159_13 : decode prog_13_method_5_code 13 = .ok (.iconst 0, 1) := by decide +kernel
theorem dd_159_14 : decode prog_13_method_5_code 14 = .ok (.istore_n 2, 1) := by decide +kernel
theorem dd_159_15 : decode prog_13_method_5_code 15 = .ok (.aload_n 0, 1) := by decide +kernel
theorem dd_159_16 : decode prog_13_method_5_code 16 = .ok (.iload_n 2, 1) := by decide +kernel
theorem dd_159_17 : decode prog_13_method_5_code 17 = .ok (.ifCond .eq 12, 3) := by decide +kernel
theorem dd_159_20 : decode prog_13_method_5_code 20 = .ok (.aload_n 0, 1) := by decide +kernel
theorem dd_159_21 : decode prog_13_method_5_code 21 = .ok (.getfield 105, 3) := by decide +kernel
theorem dd_159_24 : decode prog_13_method_5_code 24 = .ok (.iconst 1, 1) := by decide +kernel
theorem dd_159_25 : decode prog_13_method_5_code 25 = .ok (.iadd, 1) := by decide +kernel
theorem dd_159_26 : decode prog_13_method_5_code 26 = .ok (.goto 7, 3) := by decide +kernel
theorem dd_159_29 : decode prog_13_method_5_code 29 = .ok (.aload_n 0, 1) := by decide +kernel
theorem dd_159_30 : decode prog_13_method_5_code 30 = .ok (.getfield 105, 3) := by decide +kernel
theorem dd_159_33 : decode prog_13_method_5_code 33 = .ok (.putfield 105, 3) := by decide +kernel
theorem dd_159_36 : decode prog_13_method_5_code 36 = .ok (.iload_n 2, 1) := by decide +kernel
theorem dd_159_37 : decode prog_13_method_5_code 37 = .ok (.ireturn, 1) := by decide +kernel
set_option maxRecDepth 100000 in
theorem okI_159 : mj_okI gG "PairMachineModel" prog_13_method_5_code 3 (mj_off oM_159) (Option.some Jvm.ClassFile.FieldType.boolean) false true 0 cM_159 :=
  ⟨Or.inl ⟨0, rfl, dd_159_0, rfl⟩,
   Or.inl (Or.inl ⟨dd_159_1, rfl⟩),
   ⟨rfl, tw_808, by decide, tw_12, by decide +kernel, 108, tw_809, dd_159_2, tw_810, ⟨"PairMachineModel", fT10, 45, rfl, tw_811⟩, by decide +kernel⟩,
   Or.inl ⟨1, rfl, dd_159_5, rfl⟩,
   ⟨7, dd_159_6, rfl, rfl⟩,
   Or.inl (Or.inl ⟨dd_159_9, rfl⟩),
   ⟨4, dd_159_10, rfl⟩,
   Or.inl (Or.inl ⟨dd_159_13, rfl⟩),
   ⟨by decide, Or.inl ⟨2, rfl, dd_159_14, rfl⟩⟩,
   Or.inl ⟨0, rfl, dd_159_15, rfl⟩,
   Or.inl ⟨2, rfl, dd_159_16, rfl⟩,
   ⟨12, dd_159_17, rfl, rfl⟩,
   Or.inl ⟨0, rfl, dd_159_20, rfl⟩,
   ⟨105, "PairMachineModel", fT10, 45, dd_159_21, rfl, okc_10, by decide, tw_807⟩,
   Or.inl (Or.inl ⟨dd_159_24, rfl⟩),
   ⟨dd_159_25, rfl⟩,
   ⟨7, dd_159_26, rfl⟩,
   Or.inl ⟨0, rfl, dd_159_29, rfl⟩,
   ⟨105, "PairMachineModel", fT10, 45, dd_159_30, rfl, okc_10, by decide, tw_807⟩,
   ⟨105, "PairMachineModel", fT10, 45, dd_159_33, rfl, okc_10, by decide, tw_807, rfl, Or.inl rfl⟩,
   Or.inl ⟨2, rfl, dd_159_36, rfl⟩,
   ⟨dd_159_37, rfl⟩, trivial⟩
theorem okM_159 : mj_okE gG 159 (cM_159, 3, oM_159, hM_159) := ⟨rfl, rfl, by decide +kernel, trivial, okI_159⟩
theorem dd_160_0 : decode prog_13_method_6_code 0 = .ok (.iload_n 0, 1) := by decide +kernel
theorem dd_160_1 : decode prog_13_method_6_code 1 = .ok (.bipush 48, 2) := by decide +kernel
theorem dd_160_3 : decode prog_13_method_6_code 3 = .ok (.if_icmp .lt 13, 3) := by decide +kernel
theorem dd_160_6 : decode prog_13_method_6_code 6 = .ok (.iload_n 0, 1) := by decide +kernel
theorem dd_160_7 : decode prog_13_method_6_code 7 = .ok (.bipush 57, 2) := by decide +kernel
theorem dd_160_9 : decode prog_13_method_6_code 9 = .ok (.if_icmp .gt 7, 3) := by decide +kernel
theorem dd_160_12 : decode prog_13_method_6_code 12 = .ok (.iconst 1, 1) := by decide +kernel
theorem dd_160_13 : decode prog_13_method_6_code 13 = .ok (.goto 4, 3) := by decide +kernel
theorem dd_160_16 : decode prog_13_method_6_code 16 = .ok (.iconst 0, 1) := by decide +kernel
theorem dd_160_17 : decode prog_13_method_6_code 17 = .ok (.ireturn, 1) := by decide +kernel
set_option maxRecDepth 100000 in
theorem okI_160 : mj_okI gG "PairMachineModel" prog_13_method_6_code 1 (mj_off oM_160) (Option.some Jvm.ClassFile.FieldType.boolean) false true 0 cM_160 :=
  ⟨Or.inl ⟨0, rfl, dd_160_0, rfl⟩,
   Or.inl (Or.inr (Or.inl ⟨dd_160_1, rfl, by decide⟩)),
   ⟨13, dd_160_3, rfl, rfl⟩,
   Or.inl ⟨0, rfl, dd_160_6, rfl⟩,
   Or.inl (Or.inr (Or.inl ⟨dd_160_7, rfl, by decide⟩)),
   ⟨7, dd_160_9, rfl, rfl⟩,
   Or.inl (Or.inl ⟨dd_160_12, rfl⟩),
   ⟨4, dd_160_13, rfl⟩,
   Or.inl (Or.inl ⟨dd_160_16, rfl⟩),
   ⟨dd_160_17, rfl⟩, trivial⟩
theorem okM_160 : mj_okE gG 160 (cM_160, 1, oM_160, hM_160) := ⟨rfl, rfl, by decide +kernel, trivial, okI_160⟩
theorem dd_161_0 : decode prog_13_method_7_code 0 = .ok (.iload_n 0, 1) := by decide +kernel
theorem dd_161_1 : decode prog_13_method_7_code 1 = .ok (.bipush 97, 2) := by decide +kernel
theorem dd_161_3 : decode prog_13_method_7_code 3 = .ok (.if_icmp .lt 13, 3) := by decide +kernel
theorem dd_161_6 : decode prog_13_method_7_code 6 = .ok (.iload_n 0, 1) := by decide +kernel
theorem dd_161_7 : decode prog_13_method_7_code 7 = .ok (.bipush 122, 2) := by decide +kernel
theorem dd_161_9 : decode prog_13_method_7_code 9 = .ok (.if_icmp .gt 7, 3) := by decide +kernel
theorem dd_161_12 : decode prog_13_method_7_code 12 = .ok (.iconst 1, 1) := by decide +kernel
theorem dd_161_13 : decode prog_13_method_7_code 13 = .ok (.goto 4, 3) := by decide +kernel
theorem dd_161_16 : decode prog_13_method_7_code 16 = .ok (.iconst 0, 1) := by decide +kernel
theorem dd_161_17 : decode prog_13_method_7_code 17 = .ok (.ireturn, 1) := by decide +kernel
set_option maxRecDepth 100000 in
theorem okI_161 : mj_okI gG "PairMachineModel" prog_13_method_7_code 1 (mj_off oM_161) (Option.some Jvm.ClassFile.FieldType.boolean) false true 0 cM_161 :=
  ⟨Or.inl ⟨0, rfl, dd_161_0, rfl⟩,
   Or.inl (Or.inr (Or.inl ⟨dd_161_1, rfl, by decide⟩)),
   ⟨13, dd_161_3, rfl, rfl⟩,
   Or.inl ⟨0, rfl, dd_161_6, rfl⟩,
   Or.inl (Or.inr (Or.inl ⟨dd_161_7, rfl, by decide⟩)),
   ⟨7, dd_161_9, rfl, rfl⟩,
   Or.inl (Or.inl ⟨dd_161_12, rfl⟩),
   ⟨4, dd_161_13, rfl⟩,
   Or.inl (Or.inl ⟨dd_161_16, rfl⟩),
   ⟨dd_161_17, rfl⟩, trivial⟩
theorem okM_161 : mj_okE gG 161 (cM_161, 1, oM_161, hM_161) := ⟨rfl, rfl, by decide +kernel, trivial, okI_161⟩
theorem dd_162_0 : decode prog_13_method_8_code 0 = .ok (.aload_n 0, 1) := by decide +kernel
theorem dd_162_1 : decode prog_13_method_8_code 1 = .ok (.iconst 0, 1) := by decide +kernel
theorem dd_162_2 : decode prog_13_method_8_code 2 = .ok (.invokevirtual 108, 3) := by decide +kernel
theorem dd_162_5 : decode prog_13_method_8_code 5 = .ok (.bipush 40, 2) := by decide +kernel
theorem dd_162_7 : decode prog_13_method_8_code 7 = .ok (.if_icmp .ne 12, 3) := by decide +kernel
theorem dd_162_10 : decode prog_13_method_8_code 10 = .ok (.aload_n 0, 1) := by decide +kernel
theorem dd_162_11 : decode prog_13_method_8_code 11 = .ok (.getfield 112, 3) := by decide +kernel
theorem dd_162_14 : decode prog_13_method_8_code 14 = .ok (.bipush 9, 2) := by decide +kernel
theorem dd_162_16 : decode prog_13_method_8_code 16 = .ok (.if_icmp .ne 5, 3) := by decide +kernel
theorem dd_162_19 : decode prog_13_method_8_code 19 = .ok (.iconst 0, 1) := by decide +kernel
theorem dd_162_20 : decode prog_13_method_8_code 20 = .ok (.ireturn, 1) := by decide +kernel
theorem dd_162_21 : decode prog_13_method_8_code 21 = .ok (.aload_n 0, 1) := by decide +kernel
theorem dd_162_22 : decode prog_13_method_8_code 22 = .ok (.dup, 1) := by decide +kernel
theorem dd_162_23 : decode prog_13_method_8_code 23 = .ok (.getfield 112, 3) := by decide +kernel
theorem dd_162_26 : decode prog_13_method_8_code 26 = .ok (.iconst 1, 1) := by decide +kernel
theorem dd_162_27 : decode prog_13_method_8_code 27 = .ok (.iadd, 1) := by decide +kernel
theorem dd_162_28 : decode prog_13_method_8_code 28 = .ok (.putfield 112, 3) := by decide +kernel
theorem dd_162_31 : decode prog_13_method_8_code 31 = .ok (.aload_n 0, 1) := by decide +kernel
theorem dd_162_32 : decode prog_13_method_8_code 32 = .ok (.dup, 1) := by decide +kernel
theorem dd_162_33 : decode prog_13_method_8_code 33 = .ok (.getfield 105, 3) := by decide +kernel
theorem dd_162_36 : decode prog_13_method_8_code 36 = .ok (.iconst 1, 1) := by decide +kernel
theorem dd_162_37 : decode prog_13_method_8_code 37 = .ok (.iadd, 1) := by decide +kernel
theorem dd_162_38 : decode prog_13_method_8_code 38 = .ok (.putfield 105, 3) := by decide +kernel
theorem dd_162_41 : decode prog_13_method_8_code 41 = .ok (.iconst 1, 1) := by decide +kernel
theorem dd_162_42 : decode prog_13_method_8_code 42 = .ok (.ireturn, 1) := by decide +kernel
set_option maxRecDepth 100000 in
theorem okI_162 : mj_okI gG "PairMachineModel" prog_13_method_8_code 1 (mj_off oM_162) (Option.some Jvm.ClassFile.FieldType.boolean) false true 0 cM_162 :=
  ⟨Or.inl ⟨0, rfl, dd_162_0, rfl⟩,
   Or.inl (Or.inl ⟨dd_162_1, rfl⟩),
   ⟨rfl, tw_808, by decide, tw_12, by decide +kernel, 108, tw_809, dd_162_2, tw_810, ⟨"PairMachineModel", fT10, 45, rfl, tw_811⟩, by decide +kernel⟩,
   Or.inl (Or.inr (Or.inl ⟨dd_162_5, rfl, by decide⟩)),
   ⟨12, dd_162_7, rfl, rfl⟩,
   Or.inl ⟨0, rfl, dd_162_10, rfl⟩,
   ⟨112, "PairMachineModel", fT10, 45, dd_162_11, rfl, okc_10, by decide, tw_812⟩,
   Or.inl (Or.inr (Or.inl ⟨dd_162_14, rfl, by decide⟩)),
   ⟨5, dd_162_16, rfl, rfl⟩,
   Or.inl (Or.inl ⟨dd_162_19, rfl⟩),
   ⟨dd_162_20, rfl⟩,
   Or.inl ⟨0, rfl, dd_162_21, rfl⟩,
   ⟨dd_162_22, rfl⟩,
   ⟨112, "PairMachineModel", fT10, 45, dd_162_23, rfl, okc_10, by decide, tw_812⟩,
   Or.inl (Or.inl ⟨dd_162_26, rfl⟩),
   ⟨dd_162_27, rfl⟩,
   ⟨112, "PairMachineModel", fT10, 45, dd_162_28, rfl, okc_10, by decide, tw_812, rfl, Or.inl rfl⟩,
   Or.inl ⟨0, rfl, dd_162_31, rfl⟩,
   ⟨dd_162_32, rfl⟩,
   ⟨105, "PairMachineModel", fT10, 45, dd_162_33, rfl, okc_10, by decide, tw_807⟩,
   Or.inl (Or.inl ⟨dd_162_36, rfl⟩),
   ⟨dd_162_37, rfl⟩,
   ⟨105, "PairMachineModel", fT10, 45, dd_162_38, rfl, okc_10, by decide, tw_807, rfl, Or.inl rfl⟩,
   Or.inl (Or.inl ⟨dd_162_41, rfl⟩),
   ⟨dd_162_42, rfl⟩, trivial⟩
theorem okM_162 : mj_okE gG 162 (cM_162, 1, oM_162, hM_162) := ⟨rfl, rfl, by decide +kernel, trivial, okI_162⟩
