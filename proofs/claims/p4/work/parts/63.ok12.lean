section
theorem dd_170_0 : decode prog_13_method_17_code 0 = .ok (.aload_n 0, 1) := by decide +kernel
theorem dd_170_1 : decode prog_13_method_17_code 1 = .ok (.invokevirtual 125, 3) := by decide +kernel
theorem dd_170_4 : decode prog_13_method_17_code 4 = .ok (.ifCond .ne 5, 3) := by decide +kernel
theorem dd_170_7 : decode prog_13_method_17_code 7 = .ok (.iconst 0, 1) := by decide +kernel
theorem dd_170_8 : decode prog_13_method_17_code 8 = .ok (.ireturn, 1) := by decide +kernel
theorem dd_170_9 : decode prog_13_method_17_code 9 = .ok (.aload_n 0, 1) := by decide +kernel
theorem dd_170_10 : decode prog_13_method_17_code 10 = .ok (.iconst 0, 1) := by decide +kernel
theorem dd_170_11 : decode prog_13_method_17_code 11 = .ok (.invokevirtual 108, 3) := by decide +kernel
theorem dd_170_14 : decode prog_13_method_17_code 14 = .ok (.istore_n 2, 1) := by decide +kernel
theorem dd_170_15 : decode prog_13_method_17_code 15 = .ok (.iload_n 2, 1) := by decide +kernel
theorem dd_170_16 : decode prog_13_method_17_code 16 = .ok (.invokestatic 129, 3) := by decide +kernel
theorem dd_170_19 : decode prog_13_method_17_code 19 = .ok (.istore_n 3, 1) := by decide +kernel
theorem dd_170_20 : decode prog_13_method_17_code 20 = .ok (.aload_n 0, 1) := by decide +kernel
theorem dd_170_21 : decode prog_13_method_17_code 21 = .ok (.getfield 39, 3) := by decide +kernel
theorem dd_170_24 : decode prog_13_method_17_code 24 = .ok (.aload_n 0, 1) := by decide +kernel
theorem dd_170_25 : decode prog_13_method_17_code 25 = .ok (.getfield 33, 3) := by decide +kernel
theorem dd_170_28 : decode prog_13_method_17_code 28 = .ok (.iload_n 1, 1) := by decide +kernel
theorem dd_170_29 : decode prog_13_method_17_code 29 = .ok (.iaload, 1) := by decide +kernel
theorem dd_170_30 : decode prog_13_method_17_code 30 = .ok (.iaload, 1) := by decide +kernel
theorem dd_170_31 : decode prog_13_method_17_code 31 = .ok (.istore 4, 2) := by decide +kernel
theorem dd_170_33 : decode prog_13_method_17_code 33 = .ok (.iload 4, 2) := by decide +kernel
theorem dd_170_35 : decode prog_13_method_17_code 35 = .ok (.ifCond .lt 36, 3) := by decide +kernel
theorem dd_170_38 : decode prog_13_method_17_code 38 = .ok (.iload_n 3, 1) := by decide +kernel
theorem dd_170_39 : decode prog_13_method_17_code 39 = .ok (.ifCond .eq 18, 3) := by decide +kernel
theorem dd_170_42 : decode prog_13_method_17_code 42 = .ok (.aload_n 0, 1) := by decide +kernel
theorem dd_170_43 : decode prog_13_method_17_code 43 = .ok (.getfield 48, 3) := by decide +kernel
theorem dd_170_46 : decode prog_13_method_17_code 46 = .ok (.iload 4, 2) := by decide +kernel
theorem dd_170_48 : decode prog_13_method_17_code 48 = .ok (.iaload, 1) := by decide +kernel
theorem dd_170_49 : decode prog_13_method_17_code 49 = .ok (.iload_n 2, 1) := by decide +kernel
theorem dd_170_50 : decode prog_13_method_17_code 50 = .ok (.if_icmp .eq 7, 3) := by decide +kernel
theorem dd_170_53 : decode prog_13_method_17_code 53 = .ok (.iconst 1, 1) := by decide +kernel
theorem dd_170_54 : decode prog_13_method_17_code 54 = .ok (.goto 4, 3) := by decide +kernel
theorem dd_170_57 : decode prog_13_method_17_code 57 = .ok (.iconst 0, 1) := by decide +kernel
theorem dd_170_58 : decode prog_13_method_17_code 58 = .ok (.istore_n 3, 1) := by decide +kernel
theorem dd_170_59 : decode prog_13_method_17_code 59 = .ok (.aload_n 0, 1) := by decide +kernel
theorem dd_170_60 : decode prog_13_method_17_code 60 = .ok (.getfield 39, 3) := by decide +kernel
theorem dd_170_63 : decode prog_13_method_17_code 63 = .ok (.iload 4, 2) := by decide +kernel
theorem dd_170_65 : decode prog_13_method_17_code 65 = .ok (.iaload, 1) := by decide +kernel
theorem dd_170_66 : decode prog_13_method_17_code 66 = .ok (.istore 4, 2) := by decide +kernel
theorem dd_170_68 : decode prog_13_method_17_code 68 = .ok (.goto (-35), 3) := by decide +kernel
theorem dd_170_71 : decode prog_13_method_17_code 71 = .ok (.iload_n 3, 1) := by decide +kernel
theorem dd_170_72 : decode prog_13_method_17_code 72 = .ok (.ifCond .ne 5, 3) := by decide +kernel
theorem dd_170_75 : decode prog_13_method_17_code 75 = .ok (.iconst 0, 1) := by decide +kernel
theorem dd_170_76 : decode prog_13_method_17_code 76 = .ok (.ireturn, 1) := by decide +kernel
theorem dd_170_77 : decode prog_13_method_17_code 77 = .ok (.aload_n 0, 1) := by decide +kernel
theorem dd_170_78 : decode prog_13_method_17_code 78 = .ok (.getfield 45, 3) := by decide +kernel
theorem dd_170_81 : decode prog_13_method_17_code 81 = .ok (.iconst 3, 1) := by decide +kernel
theorem dd_170_82 : decode prog_13_method_17_code 82 = .ok (.iload_n 1, 1) := by decide +kernel
theorem dd_170_83 : decode prog_13_method_17_code 83 = .ok (.imul, 1) := by decide +kernel
theorem dd_170_84 : decode prog_13_method_17_code 84 = .ok (.iload_n 2, 1) := by decide +kernel
theorem dd_170_85 : decode prog_13_method_17_code 85 = .ok (.iastore, 1) := by decide +kernel
theorem dd_170_86 : decode prog_13_method_17_code 86 = .ok (.aload_n 0, 1) := by decide +kernel
theorem dd_170_87 : decode prog_13_method_17_code 87 = .ok (.dup, 1) := by decide +kernel
theorem dd_170_88 : decode prog_13_method_17_code 88 = .ok (.getfield 105, 3) := by decide +kernel
theorem dd_170_91 : decode prog_13_method_17_code 91 = .ok (.iconst 1, 1) := by decide +kernel
theorem dd_170_92 : decode prog_13_method_17_code 92 = .ok (.iadd, 1) := by decide +kernel
theorem dd_170_93 : decode prog_13_method_17_code 93 = .ok (.putfield 105, 3) := by decide +kernel
theorem dd_170_96 : decode prog_13_method_17_code 96 = .ok (.aload_n 0, 1) := by decide +kernel
theorem dd_170_97 : decode prog_13_method_17_code 97 = .ok (.bipush 32, 2) := by decide +kernel
theorem dd_170_99 : decode prog_13_method_17_code 99 = .ok (.invokevirtual 115, 3) := by decide +kernel
theorem dd_170_102 : decode prog_13_method_17_code 102 = .ok (.ifCond .ne 5, 3) := by decide +kernel
theorem dd_170_105 : decode prog_13_method_17_code 105 = .ok (.iconst 0, 1) := by decide +kernel
theorem dd_170_106 : decode prog_13_method_17_code 106 = .ok (.ireturn, 1) := by decide +kernel
theorem dd_170_107 : decode prog_13_method_17_code 107 = .ok (.aload_n 0, 1) := by decide +kernel
theorem dd_170_108 : decode prog_13_method_17_code 108 = .ok (.getfield 17, 3) := by decide +kernel
theorem dd_170_111 : decode prog_13_method_17_code 111 = .ok (.iload_n 1, 1) := by decide +kernel
theorem dd_170_112 : decode prog_13_method_17_code 112 = .ok (.iaload, 1) := by decide +kernel
theorem dd_170_113 : decode prog_13_method_17_code 113 = .ok (.bipush 7, 2) := by decide +kernel
theorem dd_170_115 : decode prog_13_method_17_code 115 = .ok (.if_icmp .ne 44, 3) := by decide +kernel
theorem dd_170_118 : decode prog_13_method_17_code 118 = .ok (.aload_n 0, 1) := by decide +kernel
theorem dd_170_119 : decode prog_13_method_17_code 119 = .ok (.iconst 0, 1) := by decide +kernel
theorem dd_170_120 : decode prog_13_method_17_code 120 = .ok (.invokevirtual 108, 3) := by decide +kernel
theorem dd_170_123 : decode prog_13_method_17_code 123 = .ok (.bipush 40, 2) := by decide +kernel
theorem dd_170_125 : decode prog_13_method_17_code 125 = .ok (.if_icmp .ne 34, 3) := by decide +kernel
theorem dd_170_128 : decode prog_13_method_17_code 128 = .ok (.aload_n 0, 1) := by decide +kernel
theorem dd_170_129 : decode prog_13_method_17_code 129 = .ok (.getfield 112, 3) := by decide +kernel
theorem dd_170_132 : decode prog_13_method_17_code 132 = .ok (.bipush 9, 2) := by decide +kernel
theorem dd_170_134 : decode prog_13_method_17_code 134 = .ok (.if_icmp .ge 25, 3) := by decide +kernel
theorem dd_170_137 : decode prog_13_method_17_code 137 = .ok (.aload_n 0, 1) := by decide +kernel
theorem dd_170_138 : decode prog_13_method_17_code 138 = .ok (.iconst 1, 1) := by decide +kernel
theorem dd_170_139 : decode prog_13_method_17_code 139 = .ok (.invokevirtual 108, 3) := by decide +kernel
theorem dd_170_142 : decode prog_13_method_17_code 142 = .ok (.bipush 92, 2) := by decide +kernel
theorem dd_170_144 : decode prog_13_method_17_code 144 = .ok (.if_icmp .eq 15, 3) := by decide +kernel
theorem dd_170_147 : decode prog_13_method_17_code 147 = .ok (.aload_n 0, 1) := by decide +kernel
theorem dd_170_148 : decode prog_13_method_17_code 148 = .ok (.dup, 1) := by decide +kernel
theorem dd_170_149 : decode prog_13_method_17_code 149 = .ok (.getfield 105, 3) := by decide +kernel
theorem dd_170_152 : decode prog_13_method_17_code 152 = .ok (.iconst 1, 1) := by decide +kernel
theorem dd_170_153 : decode prog_13_method_17_code 153 = .ok (.iadd, 1) := by decide +kernel
theorem dd_170_154 : decode prog_13_method_17_code 154 = .ok (.putfield 105, 3) := by decide +kernel
theorem dd_170_157 : decode prog_13_method_17_code 157 = .ok (.iconst 0, 1) := by decide +kernel
theorem dd_170_158 : decode prog_13_method_17_code 158 = .ok (.ireturn, 1) := by decide +kernel
theorem dd_170_159 : decode prog_13_method_17_code 159 = .ok (.aload_n 0, 1) := by decide +kernel
theorem dd_170_160 : decode prog_13_method_17_code 160 = .ok (.getfield 17, 3) := by decide +kernel
theorem dd_170_163 : decode prog_13_method_17_code 163 = .ok (.iload_n 1, 1) := by decide +kernel
theorem dd_170_164 : decode prog_13_method_17_code 164 = .ok (.iaload, 1) := by decide +kernel
theorem dd_170_165 : decode prog_13_method_17_code 165 = .ok (.bipush 6, 2) := by decide +kernel
theorem dd_170_167 : decode prog_13_method_17_code 167 = .ok (.if_icmp .eq 22, 3) := by decide +kernel
theorem dd_170_170 : decode prog_13_method_17_code 170 = .ok (.aload_n 0, 1) := by decide +kernel
theorem dd_170_171 : decode prog_13_method_17_code 171 = .ok (.iconst 0, 1) := by decide +kernel
theorem dd_170_172 : decode prog_13_method_17_code 172 = .ok (.invokevirtual 108, 3) := by decide +kernel
theorem dd_170_175 : decode prog_13_method_17_code 175 = .ok (.bipush 40, 2) := by decide +kernel
theorem dd_170_177 : decode prog_13_method_17_code 177 = .ok (.if_icmp .ne 16, 3) := by decide +kernel
theorem dd_170_180 : decode prog_13_method_17_code 180 = .ok (.aload_n 0, 1) := by decide +kernel
theorem dd_170_181 : decode prog_13_method_17_code 181 = .ok (.getfield 112, 3) := by decide +kernel
theorem dd_170_184 : decode prog_13_method_17_code 184 = .ok (.bipush 9, 2) := by decide +kernel
theorem dd_170_186 : decode prog_13_method_17_code 186 = .ok (.if_icmp .ge 7, 3) := by decide +kernel
theorem dd_170_189 : decode prog_13_method_17_code 189 = .ok (.iconst 1, 1) := by decide +kernel
theorem dd_170_190 : decode prog_13_method_17_code 190 = .ok (.goto 4, 3) := by decide +kernel
theorem dd_170_193 : decode prog_13_method_17_code 193 = .ok (.iconst 0, 1) := by decide +kernel
theorem dd_170_194 : decode prog_13_method_17_code 194 = .ok (.ireturn, 1) := by decide +kernel
set_option maxRecDepth 100000 in
theorem okI_170 : mj_okI gG "PairMachineModel" prog_13_method_17_code 5 (mj_off oM_170) (Option.some Jvm.ClassFile.FieldType.boolean) false true 0 cM_170 :=
  ⟨Or.inl ⟨0, rfl, dd_170_0, rfl⟩,
   ⟨rfl, tw_846, by decide, tw_12, by decide +kernel, 125, tw_847, dd_170_1, tw_848, ⟨"PairMachineModel", fT10, 45, rfl, tw_849⟩, by decide +kernel⟩,
   ⟨5, dd_170_4, rfl, rfl⟩,
   Or.inl (Or.inl ⟨dd_170_7, rfl⟩),
   ⟨dd_170_8, rfl⟩,
   Or.inl ⟨0, rfl, dd_170_9, rfl⟩,
   Or.inl (Or.inl ⟨dd_170_10, rfl⟩),
   ⟨rfl, tw_833, by decide, tw_12, by decide +kernel, 108, tw_834, dd_170_11, tw_835, ⟨"PairMachineModel", fT10, 45, rfl, tw_836⟩, by decide +kernel⟩,
   ⟨by decide, Or.inl ⟨2, rfl, dd_170_14, rfl⟩⟩,
   Or.inl ⟨2, rfl, dd_170_15, rfl⟩,
   ⟨rfl, tw_850, by decide, tw_12, by decide +kernel, 129, tw_851, dd_170_16, tw_852, by decide +kernel⟩,
   ⟨by decide, Or.inl ⟨3, rfl, dd_170_19, rfl⟩⟩,
   Or.inl ⟨0, rfl, dd_170_20, rfl⟩,
   ⟨39, "PairMachineModel", fT10, 45, dd_170_21, rfl, okc_10, by decide, tw_810⟩,
   Or.inl ⟨0, rfl, dd_170_24, rfl⟩,
   ⟨33, "PairMachineModel", fT10, 45, dd_170_25, rfl, okc_10, by decide, tw_808⟩,
   Or.inl ⟨1, rfl, dd_170_28, rfl⟩,
   ⟨dd_170_29, rfl⟩,
   ⟨dd_170_30, rfl⟩,
   ⟨by decide, Or.inr ⟨dd_170_31, rfl⟩⟩,
   Or.inr ⟨dd_170_33, rfl⟩,
   ⟨36, dd_170_35, rfl, rfl⟩,
   Or.inl ⟨3, rfl, dd_170_38, rfl⟩,
   ⟨18, dd_170_39, rfl, rfl⟩,
   Or.inl ⟨0, rfl, dd_170_42, rfl⟩,
   ⟨48, "PairMachineModel", fT10, 45, dd_170_43, rfl, okc_10, by decide, tw_813⟩,
   Or.inr ⟨dd_170_46, rfl⟩,
   ⟨dd_170_48, rfl⟩,
   Or.inl ⟨2, rfl, dd_170_49, rfl⟩,
   ⟨7, dd_170_50, rfl, rfl⟩,
   Or.inl (Or.inl ⟨dd_170_53, rfl⟩),
   ⟨4, dd_170_54, rfl⟩,
   Or.inl (Or.inl ⟨dd_170_57, rfl⟩),
   ⟨by decide, Or.inl ⟨3, rfl, dd_170_58, rfl⟩⟩,
   Or.inl ⟨0, rfl, dd_170_59, rfl⟩,
   ⟨39, "PairMachineModel", fT10, 45, dd_170_60, rfl, okc_10, by decide, tw_810⟩,
   Or.inr ⟨dd_170_63, rfl⟩,
   ⟨dd_170_65, rfl⟩,
   ⟨by decide, Or.inr ⟨dd_170_66, rfl⟩⟩,
   ⟨(-35), dd_170_68, rfl⟩,
   Or.inl ⟨3, rfl, dd_170_71, rfl⟩,
   ⟨5, dd_170_72, rfl, rfl⟩,
   Or.inl (Or.inl ⟨dd_170_75, rfl⟩),
   ⟨dd_170_76, rfl⟩,
   Or.inl ⟨0, rfl, dd_170_77, rfl⟩,
   ⟨45, "PairMachineModel", fT10, 45, dd_170_78, rfl, okc_10, by decide, tw_812⟩,
   Or.inl (Or.inl ⟨dd_170_81, rfl⟩),
   Or.inl ⟨1, rfl, dd_170_82, rfl⟩,
   ⟨dd_170_83, rfl⟩,
   Or.inl ⟨2, rfl, dd_170_84, rfl⟩,
   ⟨dd_170_85, rfl⟩,
   Or.inl ⟨0, rfl, dd_170_86, rfl⟩,
   ⟨dd_170_87, rfl⟩,
   ⟨105, "PairMachineModel", fT10, 45, dd_170_88, rfl, okc_10, by decide, tw_832⟩,
   Or.inl (Or.inl ⟨dd_170_91, rfl⟩),
   ⟨dd_170_92, rfl⟩,
   ⟨105, "PairMachineModel", fT10, 45, dd_170_93, rfl, okc_10, by decide, tw_832, rfl, Or.inl rfl⟩,
   Or.inl ⟨0, rfl, dd_170_96, rfl⟩,
   Or.inl (Or.inr (Or.inl ⟨dd_170_97, rfl, by decide⟩)),
   ⟨rfl, tw_838, by decide, tw_12, by decide +kernel, 115, tw_839, dd_170_99, tw_840, ⟨"PairMachineModel", fT10, 45, rfl, tw_841⟩, by decide +kernel⟩,
   ⟨5, dd_170_102, rfl, rfl⟩,
   Or.inl (Or.inl ⟨dd_170_105, rfl⟩),
   ⟨dd_170_106, rfl⟩,
   Or.inl ⟨0, rfl, dd_170_107, rfl⟩,
   ⟨17, "PairMachineModel", fT10, 45, dd_170_108, rfl, okc_10, by decide, tw_803⟩,
   Or.inl ⟨1, rfl, dd_170_111, rfl⟩,
   ⟨dd_170_112, rfl⟩,
   Or.inl (Or.inr (Or.inl ⟨dd_170_113, rfl, by decide⟩)),
   ⟨44, dd_170_115, rfl, rfl⟩,
   Or.inl ⟨0, rfl, dd_170_118, rfl⟩,
   Or.inl (Or.inl ⟨dd_170_119, rfl⟩),
   ⟨rfl, tw_833, by decide, tw_12, by decide +kernel, 108, tw_834, dd_170_120, tw_835, ⟨"PairMachineModel", fT10, 45, rfl, tw_836⟩, by decide +kernel⟩,
   Or.inl (Or.inr (Or.inl ⟨dd_170_123, rfl, by decide⟩)),
   ⟨34, dd_170_125, rfl, rfl⟩,
   Or.inl ⟨0, rfl, dd_170_128, rfl⟩,
   ⟨112, "PairMachineModel", fT10, 45, dd_170_129, rfl, okc_10, by decide, tw_837⟩,
   Or.inl (Or.inr (Or.inl ⟨dd_170_132, rfl, by decide⟩)),
   ⟨25, dd_170_134, rfl, rfl⟩,
   Or.inl ⟨0, rfl, dd_170_137, rfl⟩,
   Or.inl (Or.inl ⟨dd_170_138, rfl⟩),
   ⟨rfl, tw_833, by decide, tw_12, by decide +kernel, 108, tw_834, dd_170_139, tw_835, ⟨"PairMachineModel", fT10, 45, rfl, tw_836⟩, by decide +kernel⟩,
   Or.inl (Or.inr (Or.inl ⟨dd_170_142, rfl, by decide⟩)),
   ⟨15, dd_170_144, rfl, rfl⟩,
   Or.inl ⟨0, rfl, dd_170_147, rfl⟩,
   ⟨dd_170_148, rfl⟩,
   ⟨105, "PairMachineModel", fT10, 45, dd_170_149, rfl, okc_10, by decide, tw_832⟩,
   Or.inl (Or.inl ⟨dd_170_152, rfl⟩),
   ⟨dd_170_153, rfl⟩,
   ⟨105, "PairMachineModel", fT10, 45, dd_170_154, rfl, okc_10, by decide, tw_832, rfl, Or.inl rfl⟩,
   Or.inl (Or.inl ⟨dd_170_157, rfl⟩),
   ⟨dd_170_158, rfl⟩,
   Or.inl ⟨0, rfl, dd_170_159, rfl⟩,
   ⟨17, "PairMachineModel", fT10, 45, dd_170_160, rfl, okc_10, by decide, tw_803⟩,
   Or.inl ⟨1, rfl, dd_170_163, rfl⟩,
   ⟨dd_170_164, rfl⟩,
   Or.inl (Or.inr (Or.inl ⟨dd_170_165, rfl, by decide⟩)),
   ⟨22, dd_170_167, rfl, rfl⟩,
   Or.inl ⟨0, rfl, dd_170_170, rfl⟩,
   Or.inl (Or.inl ⟨dd_170_171, rfl⟩),
   ⟨rfl, tw_833, by decide, tw_12, by decide +kernel, 108, tw_834, dd_170_172, tw_835, ⟨"PairMachineModel", fT10, 45, rfl, tw_836⟩, by decide +kernel⟩,
   Or.inl (Or.inr (Or.inl ⟨dd_170_175, rfl, by decide⟩)),
   ⟨16, dd_170_177, rfl, rfl⟩,
   Or.inl ⟨0, rfl, dd_170_180, rfl⟩,
   ⟨112, "PairMachineModel", fT10, 45, dd_170_181, rfl, okc_10, by decide, tw_837⟩,
   Or.inl (Or.inr (Or.inl ⟨dd_170_184, rfl, by decide⟩)),
   ⟨7, dd_170_186, rfl, rfl⟩,
   Or.inl (Or.inl ⟨dd_170_189, rfl⟩),
   ⟨4, dd_170_190, rfl⟩,
   Or.inl (Or.inl ⟨dd_170_193, rfl⟩),
   ⟨dd_170_194, rfl⟩, trivial⟩
theorem okM_170 : mj_okE gG 170 (cM_170, 5, oM_170, hM_170) := ⟨rfl, rfl, by decide +kernel, trivial, okI_170⟩
theorem dd_171_0 : decode prog_13_method_18_code 0 = .ok (.aload_n 0, 1) := by decide +kernel
theorem dd_171_1 : decode prog_13_method_18_code 1 = .ok (.getfield 17, 3) := by decide +kernel
theorem dd_171_4 : decode prog_13_method_18_code 4 = .ok (.iload_n 1, 1) := by decide +kernel
theorem dd_171_5 : decode prog_13_method_18_code 5 = .ok (.iaload, 1) := by decide +kernel
theorem dd_171_6 : decode prog_13_method_18_code 6 = .ok (.iconst 3, 1) := by decide +kernel
theorem dd_171_7 : decode prog_13_method_18_code 7 = .ok (.if_icmp .ne 37, 3) := by decide +kernel
theorem dd_171_10 : decode prog_13_method_18_code 10 = .ok (.aload_n 0, 1) := by decide +kernel
theorem dd_171_11 : decode prog_13_method_18_code 11 = .ok (.getfield 42, 3) := by decide +kernel
theorem dd_171_14 : decode prog_13_method_18_code 14 = .ok (.iload_n 1, 1) := by decide +kernel
theorem dd_171_15 : decode prog_13_method_18_code 15 = .ok (.iaload, 1) := by decide +kernel
theorem dd_171_16 : decode prog_13_method_18_code 16 = .ok (.aload_n 0, 1) := by decide +kernel
theorem dd_171_17 : decode prog_13_method_18_code 17 = .ok (.getfield 27, 3) := by decide +kernel
theorem dd_171_20 : decode prog_13_method_18_code 20 = .ok (.iload_n 1, 1) := by decide +kernel
theorem dd_171_21 : decode prog_13_method_18_code 21 = .ok (.iaload, 1) := by decide +kernel
theorem dd_171_22 : decode prog_13_method_18_code 22 = .ok (.i2c, 1) := by decide +kernel
theorem dd_171_23 : decode prog_13_method_18_code 23 = .ok (.invokestatic 149, 3) := by decide +kernel
theorem dd_171_26 : decode prog_13_method_18_code 26 = .ok (.if_icmp .ge 18, 3) := by decide +kernel
theorem dd_171_29 : decode prog_13_method_18_code 29 = .ok (.aload_n 0, 1) := by decide +kernel
theorem dd_171_30 : decode prog_13_method_18_code 30 = .ok (.bipush 32, 2) := by decide +kernel
theorem dd_171_32 : decode prog_13_method_18_code 32 = .ok (.invokevirtual 115, 3) := by decide +kernel
theorem dd_171_35 : decode prog_13_method_18_code 35 = .ok (.ifCond .eq 7, 3) := by decide +kernel
theorem dd_171_38 : decode prog_13_method_18_code 38 = .ok (.iconst 1, 1) := by decide +kernel
theorem dd_171_39 : decode prog_13_method_18_code 39 = .ok (.goto 4, 3) := by decide +kernel
theorem dd_171_42 : decode prog_13_method_18_code 42 = .ok (.iconst (-1), 1) := by decide +kernel
theorem dd_171_43 : decode prog_13_method_18_code 43 = .ok (.ireturn, 1) := by decide +kernel
theorem dd_171_44 : decode prog_13_method_18_code 44 = .ok (.aload_n 0, 1) := by decide +kernel
theorem dd_171_45 : decode prog_13_method_18_code 45 = .ok (.getfield 17, 3) := by decide +kernel
theorem dd_171_48 : decode prog_13_method_18_code 48 = .ok (.iload_n 1, 1) := by decide +kernel
theorem dd_171_49 : decode prog_13_method_18_code 49 = .ok (.iaload, 1) := by decide +kernel
theorem dd_171_50 : decode prog_13_method_18_code 50 = .ok (.iconst 4, 1) := by decide +kernel
theorem dd_171_51 : decode prog_13_method_18_code 51 = .ok (.if_icmp .ne 24, 3) := by decide +kernel
theorem dd_171_54 : decode prog_13_method_18_code 54 = .ok (.aload_n 0, 1) := by decide +kernel
theorem dd_171_55 : decode prog_13_method_18_code 55 = .ok (.getfield 42, 3) := by decide +kernel
theorem dd_171_58 : decode prog_13_method_18_code 58 = .ok (.iload_n 1, 1) := by decide +kernel
theorem dd_171_59 : decode prog_13_method_18_code 59 = .ok (.iaload, 1) := by decide +kernel
theorem dd_171_60 : decode prog_13_method_18_code 60 = .ok (.iconst 4, 1) := by decide +kernel
theorem dd_171_61 : decode prog_13_method_18_code 61 = .ok (.if_icmp .ge 14, 3) := by decide +kernel
theorem dd_171_64 : decode prog_13_method_18_code 64 = .ok (.aload_n 0, 1) := by decide +kernel
theorem dd_171_65 : decode prog_13_method_18_code 65 = .ok (.bipush 32, 2) := by decide +kernel
theorem dd_171_67 : decode prog_13_method_18_code 67 = .ok (.invokevirtual 115, 3) := by decide +kernel
theorem dd_171_70 : decode prog_13_method_18_code 70 = .ok (.ifCond .eq 5, 3) := by decide +kernel
theorem dd_171_73 : decode prog_13_method_18_code 73 = .ok (.iconst 1, 1) := by decide +kernel
theorem dd_171_74 : decode prog_13_method_18_code 74 = .ok (.ireturn, 1) := by decide +kernel
theorem dd_171_75 : decode prog_13_method_18_code 75 = .ok (.aload_n 0, 1) := by decide +kernel
theorem dd_171_76 : decode prog_13_method_18_code 76 = .ok (.getfield 17, 3) := by decide +kernel
theorem dd_171_79 : decode prog_13_method_18_code 79 = .ok (.iload_n 1, 1) := by decide +kernel
theorem dd_171_80 : decode prog_13_method_18_code 80 = .ok (.iaload, 1) := by decide +kernel
theorem dd_171_81 : decode prog_13_method_18_code 81 = .ok (.bipush 6, 2) := by decide +kernel
theorem dd_171_83 : decode prog_13_method_18_code 83 = .ok (.if_icmp .eq 14, 3) := by decide +kernel
theorem dd_171_86 : decode prog_13_method_18_code 86 = .ok (.aload_n 0, 1) := by decide +kernel
theorem dd_171_87 : decode prog_13_method_18_code 87 = .ok (.getfield 17, 3) := by decide +kernel
theorem dd_171_90 : decode prog_13_method_18_code 90 = .ok (.iload_n 1, 1) := by decide +kernel
theorem dd_171_91 : decode prog_13_method_18_code 91 = .ok (.iaload, 1) := by decide +kernel
theorem dd_171_92 : decode prog_13_method_18_code 92 = .ok (.bipush 7, 2) := by decide +kernel
theorem dd_171_94 : decode prog_13_method_18_code 94 = .ok (.if_icmp .ne 94, 3) := by decide +kernel
theorem dd_171_97 : decode prog_13_method_18_code 97 = .ok (.aload_n 0, 1) := by decide +kernel
theorem dd_171_98 : decode prog_13_method_18_code 98 = .ok (.getfield 42, 3) := by decide +kernel
theorem dd_171_101 : decode prog_13_method_18_code 101 = .ok (.iload_n 1, 1) := by decide +kernel
theorem dd_171_102 : decode prog_13_method_18_code 102 = .ok (.iaload, 1) := by decide +kernel
theorem dd_171_103 : decode prog_13_method_18_code 103 = .ok (.iconst 1, 1) := by decide +kernel
theorem dd_171_104 : decode prog_13_method_18_code 104 = .ok (.if_icmp .le 31, 3) := by decide +kernel
theorem dd_171_107 : decode prog_13_method_18_code 107 = .ok (.aload_n 0, 1) := by decide +kernel
theorem dd_171_108 : decode prog_13_method_18_code 108 = .ok (.getfield 48, 3) := by decide +kernel
theorem dd_171_111 : decode prog_13_method_18_code 111 = .ok (.aload_n 0, 1) := by decide +kernel
theorem dd_171_112 : decode prog_13_method_18_code 112 = .ok (.getfield 36, 3) := by decide +kernel
theorem dd_171_115 : decode prog_13_method_18_code 115 = .ok (.iload_n 1, 1) := by decide +kernel
theorem dd_171_116 : decode prog_13_method_18_code 116 = .ok (.iaload, 1) := by decide +kernel
theorem dd_171_117 : decode prog_13_method_18_code 117 = .ok (.aload_n 0, 1) := by decide +kernel
theorem dd_171_118 : decode prog_13_method_18_code 118 = .ok (.getfield 45, 3) := by decide +kernel
theorem dd_171_121 : decode prog_13_method_18_code 121 = .ok (.iconst 3, 1) := by decide +kernel
theorem dd_171_122 : decode prog_13_method_18_code 122 = .ok (.iload_n 1, 1) := by decide +kernel
theorem dd_171_123 : decode prog_13_method_18_code 123 = .ok (.imul, 1) := by decide +kernel
theorem dd_171_124 : decode prog_13_method_18_code 124 = .ok (.iaload, 1) := by decide +kernel
theorem dd_171_125 : decode prog_13_method_18_code 125 = .ok (.iastore, 1) := by decide +kernel
theorem dd_171_126 : decode prog_13_method_18_code 126 = .ok (.aload_n 0, 1) := by decide +kernel
theorem dd_171_127 : decode prog_13_method_18_code 127 = .ok (.invokevirtual 135, 3) := by decide +kernel
theorem dd_171_130 : decode prog_13_method_18_code 130 = .ok (.ifCond .ne 5, 3) := by decide +kernel
theorem dd_171_133 : decode prog_13_method_18_code 133 = .ok (.iconst (-1), 1) := by decide +kernel
theorem dd_171_134 : decode prog_13_method_18_code 134 = .ok (.ireturn, 1) := by decide +kernel
theorem dd_171_135 : decode prog_13_method_18_code 135 = .ok (.aload_n 0, 1) := by decide +kernel
theorem dd_171_136 : decode prog_13_method_18_code 136 = .ok (.getfield 42, 3) := by decide +kernel
theorem dd_171_139 : decode prog_13_method_18_code 139 = .ok (.iload_n 1, 1) := by decide +kernel
theorem dd_171_140 : decode prog_13_method_18_code 140 = .ok (.iaload, 1) := by decide +kernel
theorem dd_171_141 : decode prog_13_method_18_code 141 = .ok (.iconst 1, 1) := by decide +kernel
theorem dd_171_142 : decode prog_13_method_18_code 142 = .ok (.if_icmp .eq 23, 3) := by decide +kernel
theorem dd_171_145 : decode prog_13_method_18_code 145 = .ok (.aload_n 0, 1) := by decide +kernel
theorem dd_171_146 : decode prog_13_method_18_code 146 = .ok (.getfield 42, 3) := by decide +kernel
theorem dd_171_149 : decode prog_13_method_18_code 149 = .ok (.iload_n 1, 1) := by decide +kernel
theorem dd_171_150 : decode prog_13_method_18_code 150 = .ok (.iaload, 1) := by decide +kernel
theorem dd_171_151 : decode prog_13_method_18_code 151 = .ok (.iconst 4, 1) := by decide +kernel
theorem dd_171_152 : decode prog_13_method_18_code 152 = .ok (.if_icmp .ge 36, 3) := by decide +kernel
theorem dd_171_155 : decode prog_13_method_18_code 155 = .ok (.aload_n 0, 1) := by decide +kernel
theorem dd_171_156 : decode prog_13_method_18_code 156 = .ok (.iconst 0, 1) := by decide +kernel
theorem dd_171_157 : decode prog_13_method_18_code 157 = .ok (.invokevirtual 108, 3) := by decide +kernel
theorem dd_171_160 : decode prog_13_method_18_code 160 = .ok (.bipush 32, 2) := by decide +kernel
theorem dd_171_162 : decode prog_13_method_18_code 162 = .ok (.if_icmp .ne 26, 3) := by decide +kernel
theorem dd_171_165 : decode prog_13_method_18_code 165 = .ok (.aload_n 0, 1) := by decide +kernel
theorem dd_171_166 : decode prog_13_method_18_code 166 = .ok (.bipush 32, 2) := by decide +kernel
theorem dd_171_168 : decode prog_13_method_18_code 168 = .ok (.invokevirtual 115, 3) := by decide +kernel
theorem dd_171_171 : decode prog_13_method_18_code 171 = .ok (.ifCond .eq 15, 3) := by decide +kernel
theorem dd_171_174 : decode prog_13_method_18_code 174 = .ok (.aload_n 0, 1) := by decide +kernel
theorem dd_171_175 : decode prog_13_method_18_code 175 = .ok (.iload_n 1, 1) := by decide +kernel
theorem dd_171_176 : decode prog_13_method_18_code 176 = .ok (.invokevirtual 157, 3) := by decide +kernel
theorem dd_171_179 : decode prog_13_method_18_code 179 = .ok (.ifCond .eq 7, 3) := by decide +kernel
theorem dd_171_182 : decode prog_13_method_18_code 182 = .ok (.iconst 1, 1) := by decide +kernel
theorem dd_171_183 : decode prog_13_method_18_code 183 = .ok (.goto 4, 3) := by decide +kernel
theorem dd_171_186 : decode prog_13_method_18_code 186 = .ok (.iconst (-1), 1) := by decide +kernel
theorem dd_171_187 : decode prog_13_method_18_code 187 = .ok (.ireturn, 1) := by decide +kernel
theorem dd_171_188 : decode prog_13_method_18_code 188 = .ok (.aload_n 0, 1) := by decide +kernel
theorem dd_171_189 : decode prog_13_method_18_code 189 = .ok (.invokevirtual 135, 3) := by decide +kernel
theorem dd_171_192 : decode prog_13_method_18_code 192 = .ok (.ifCond .eq 7, 3) := by decide +kernel
theorem dd_171_195 : decode prog_13_method_18_code 195 = .ok (.iconst 0, 1) := by decide +kernel
theorem dd_171_196 : decode prog_13_method_18_code 196 = .ok (.goto 4, 3) := by decide +kernel
theorem dd_171_199 : decode prog_13_method_18_code 199 = .ok (.iconst (-1), 1) := by decide +kernel
theorem dd_171_200 : decode prog_13_method_18_code 200 = .ok (.ireturn, 1) := by decide +kernel
set_option maxRecDepth 100000 in
theorem okI_171 : mj_okI gG "PairMachineModel" prog_13_method_18_code 2 (mj_off oM_171) (Option.some Jvm.ClassFile.FieldType.int) false true 0 cM_171 :=
  ⟨Or.inl ⟨0, rfl, dd_171_0, rfl⟩,
   ⟨17, "PairMachineModel", fT10, 45, dd_171_1, rfl, okc_10, by decide, tw_803⟩,
   Or.inl ⟨1, rfl, dd_171_4, rfl⟩,
   ⟨dd_171_5, rfl⟩,
   Or.inl (Or.inl ⟨dd_171_6, rfl⟩),
   ⟨37, dd_171_7, rfl, rfl⟩,
   Or.inl ⟨0, rfl, dd_171_10, rfl⟩,
   ⟨42, "PairMachineModel", fT10, 45, dd_171_11, rfl, okc_10, by decide, tw_811⟩,
   Or.inl ⟨1, rfl, dd_171_14, rfl⟩,
   ⟨dd_171_15, rfl⟩,
   Or.inl ⟨0, rfl, dd_171_16, rfl⟩,
   ⟨27, "PairMachineModel", fT10, 45, dd_171_17, rfl, okc_10, by decide, tw_806⟩,
   Or.inl ⟨1, rfl, dd_171_20, rfl⟩,
   ⟨dd_171_21, rfl⟩,
   ⟨dd_171_22, rfl⟩,
   ⟨rfl, tw_873, by decide, tw_12, by decide +kernel, 149, tw_874, dd_171_23, tw_875, by decide +kernel⟩,
   ⟨18, dd_171_26, rfl, rfl⟩,
   Or.inl ⟨0, rfl, dd_171_29, rfl⟩,
   Or.inl (Or.inr (Or.inl ⟨dd_171_30, rfl, by decide⟩)),
   ⟨rfl, tw_838, by decide, tw_12, by decide +kernel, 115, tw_839, dd_171_32, tw_840, ⟨"PairMachineModel", fT10, 45, rfl, tw_841⟩, by decide +kernel⟩,
   ⟨7, dd_171_35, rfl, rfl⟩,
   Or.inl (Or.inl ⟨dd_171_38, rfl⟩),
   ⟨4, dd_171_39, rfl⟩,
   Or.inl (Or.inl ⟨dd_171_42, rfl⟩),
   ⟨dd_171_43, rfl⟩,
   Or.inl ⟨0, rfl, dd_171_44, rfl⟩,
   ⟨17, "PairMachineModel", fT10, 45, dd_171_45, rfl, okc_10, by decide, tw_803⟩,
   Or.inl ⟨1, rfl, dd_171_48, rfl⟩,
   ⟨dd_171_49, rfl⟩,
   Or.inl (Or.inl ⟨dd_171_50, rfl⟩),
   ⟨24, dd_171_51, rfl, rfl⟩,
   Or.inl ⟨0, rfl, dd_171_54, rfl⟩,
   ⟨42, "PairMachineModel", fT10, 45, dd_171_55, rfl, okc_10, by decide, tw_811⟩,
   Or.inl ⟨1, rfl, dd_171_58, rfl⟩,
   ⟨dd_171_59, rfl⟩,
   Or.inl (Or.inl ⟨dd_171_60, rfl⟩),
   ⟨14, dd_171_61, rfl, rfl⟩,
   Or.inl ⟨0, rfl, dd_171_64, rfl⟩,
   Or.inl (Or.inr (Or.inl ⟨dd_171_65, rfl, by decide⟩)),
   ⟨rfl, tw_838, by decide, tw_12, by decide +kernel, 115, tw_839, dd_171_67, tw_840, ⟨"PairMachineModel", fT10, 45, rfl, tw_841⟩, by decide +kernel⟩,
   ⟨5, dd_171_70, rfl, rfl⟩,
   Or.inl (Or.inl ⟨dd_171_73, rfl⟩),
   ⟨dd_171_74, rfl⟩,
   Or.inl ⟨0, rfl, dd_171_75, rfl⟩,
   ⟨17, "PairMachineModel", fT10, 45, dd_171_76, rfl, okc_10, by decide, tw_803⟩,
   Or.inl ⟨1, rfl, dd_171_79, rfl⟩,
   ⟨dd_171_80, rfl⟩,
   Or.inl (Or.inr (Or.inl ⟨dd_171_81, rfl, by decide⟩)),
   ⟨14, dd_171_83, rfl, rfl⟩,
   Or.inl ⟨0, rfl, dd_171_86, rfl⟩,
   ⟨17, "PairMachineModel", fT10, 45, dd_171_87, rfl, okc_10, by decide, tw_803⟩,
   Or.inl ⟨1, rfl, dd_171_90, rfl⟩,
   ⟨dd_171_91, rfl⟩,
   Or.inl (Or.inr (Or.inl ⟨dd_171_92, rfl, by decide⟩)),
   ⟨94, dd_171_94, rfl, rfl⟩,
   Or.inl ⟨0, rfl, dd_171_97, rfl⟩,
   ⟨42, "PairMachineModel", fT10, 45, dd_171_98, rfl, okc_10, by decide, tw_811⟩,
   Or.inl ⟨1, rfl, dd_171_101, rfl⟩,
   ⟨dd_171_102, rfl⟩,
   Or.inl (Or.inl ⟨dd_171_103, rfl⟩),
   ⟨31, dd_171_104, rfl, rfl⟩,
   Or.inl ⟨0, rfl, dd_171_107, rfl⟩,
   ⟨48, "PairMachineModel", fT10, 45, dd_171_108, rfl, okc_10, by decide, tw_813⟩,
   Or.inl ⟨0, rfl, dd_171_111, rfl⟩,
   ⟨36, "PairMachineModel", fT10, 45, dd_171_112, rfl, okc_10, by decide, tw_809⟩,
   Or.inl ⟨1, rfl, dd_171_115, rfl⟩,
   ⟨dd_171_116, rfl⟩,
   Or.inl ⟨0, rfl, dd_171_117, rfl⟩,
   ⟨45, "PairMachineModel", fT10, 45, dd_171_118, rfl, okc_10, by decide, tw_812⟩,
   Or.inl (Or.inl ⟨dd_171_121, rfl⟩),
   Or.inl ⟨1, rfl, dd_171_122, rfl⟩,
   ⟨dd_171_123, rfl⟩,
   ⟨dd_171_124, rfl⟩,
   ⟨dd_171_125, rfl⟩,
   Or.inl ⟨0, rfl, dd_171_126, rfl⟩,
   ⟨rfl, tw_857, by decide, tw_12, by decide +kernel, 135, tw_858, dd_171_127, tw_859, ⟨"PairMachineModel", fT10, 45, rfl, tw_860⟩, by decide +kernel⟩,
   ⟨5, dd_171_130, rfl, rfl⟩,
   Or.inl (Or.inl ⟨dd_171_133, rfl⟩),
   ⟨dd_171_134, rfl⟩,
   Or.inl ⟨0, rfl, dd_171_135, rfl⟩,
   ⟨42, "PairMachineModel", fT10, 45, dd_171_136, rfl, okc_10, by decide, tw_811⟩,
   Or.inl ⟨1, rfl, dd_171_139, rfl⟩,
   ⟨dd_171_140, rfl⟩,
   Or.inl (Or.inl ⟨dd_171_141, rfl⟩),
   ⟨23, dd_171_142, rfl, rfl⟩,
   Or.inl ⟨0, rfl, dd_171_145, rfl⟩,
   ⟨42, "PairMachineModel", fT10, 45, dd_171_146, rfl, okc_10, by decide, tw_811⟩,
   Or.inl ⟨1, rfl, dd_171_149, rfl⟩,
   ⟨dd_171_150, rfl⟩,
   Or.inl (Or.inl ⟨dd_171_151, rfl⟩),
   ⟨36, dd_171_152, rfl, rfl⟩,
   Or.inl ⟨0, rfl, dd_171_155, rfl⟩,
   Or.inl (Or.inl ⟨dd_171_156, rfl⟩),
   ⟨rfl, tw_833, by decide, tw_12, by decide +kernel, 108, tw_834, dd_171_157, tw_835, ⟨"PairMachineModel", fT10, 45, rfl, tw_836⟩, by decide +kernel⟩,
   Or.inl (Or.inr (Or.inl ⟨dd_171_160, rfl, by decide⟩)),
   ⟨26, dd_171_162, rfl, rfl⟩,
   Or.inl ⟨0, rfl, dd_171_165, rfl⟩,
   Or.inl (Or.inr (Or.inl ⟨dd_171_166, rfl, by decide⟩)),
   ⟨rfl, tw_838, by decide, tw_12, by decide +kernel, 115, tw_839, dd_171_168, tw_840, ⟨"PairMachineModel", fT10, 45, rfl, tw_841⟩, by decide +kernel⟩,
   ⟨15, dd_171_171, rfl, rfl⟩,
   Or.inl ⟨0, rfl, dd_171_174, rfl⟩,
   Or.inl ⟨1, rfl, dd_171_175, rfl⟩,
   ⟨rfl, tw_880, by decide, tw_12, by decide +kernel, 157, tw_881, dd_171_176, tw_882, ⟨"PairMachineModel", fT10, 45, rfl, tw_883⟩, by decide +kernel⟩,
   ⟨7, dd_171_179, rfl, rfl⟩,
   Or.inl (Or.inl ⟨dd_171_182, rfl⟩),
   ⟨4, dd_171_183, rfl⟩,
   Or.inl (Or.inl ⟨dd_171_186, rfl⟩),
   ⟨dd_171_187, rfl⟩,
   Or.inl ⟨0, rfl, dd_171_188, rfl⟩,
   ⟨rfl, tw_857, by decide, tw_12, by decide +kernel, 135, tw_858, dd_171_189, tw_859, ⟨"PairMachineModel", fT10, 45, rfl, tw_860⟩, by decide +kernel⟩,
   ⟨7, dd_171_192, rfl, rfl⟩,
   Or.inl (Or.inl ⟨dd_171_195, rfl⟩),
   ⟨4, dd_171_196, rfl⟩,
   Or.inl (Or.inl ⟨dd_171_199, rfl⟩),
   ⟨dd_171_200, rfl⟩, trivial⟩
theorem okM_171 : mj_okE gG 171 (cM_171, 2, oM_171, hM_171) := ⟨rfl, rfl, by decide +kernel, trivial, okI_171⟩
theorem dd_172_0 : decode prog_13_method_19_code 0 = .ok (.aload_n 0, 1) := by decide +kernel
theorem dd_172_1 : decode prog_13_method_19_code 1 = .ok (.iconst 0, 1) := by decide +kernel
theorem dd_172_2 : decode prog_13_method_19_code 2 = .ok (.putfield 105, 3) := by decide +kernel
theorem dd_172_5 : decode prog_13_method_19_code 5 = .ok (.aload_n 0, 1) := by decide +kernel
theorem dd_172_6 : decode prog_13_method_19_code 6 = .ok (.iconst 0, 1) := by decide +kernel
theorem dd_172_7 : decode prog_13_method_19_code 7 = .ok (.putfield 119, 3) := by decide +kernel
theorem dd_172_10 : decode prog_13_method_19_code 10 = .ok (.aload_n 0, 1) := by decide +kernel
theorem dd_172_11 : decode prog_13_method_19_code 11 = .ok (.iconst 0, 1) := by decide +kernel
theorem dd_172_12 : decode prog_13_method_19_code 12 = .ok (.putfield 112, 3) := by decide +kernel
theorem dd_172_15 : decode prog_13_method_19_code 15 = .ok (.iconst (-1), 1) := by decide +kernel
theorem dd_172_16 : decode prog_13_method_19_code 16 = .ok (.istore_n 1, 1) := by decide +kernel
theorem dd_172_17 : decode prog_13_method_19_code 17 = .ok (.iconst 0, 1) := by decide +kernel
theorem dd_172_18 : decode prog_13_method_19_code 18 = .ok (.istore_n 2, 1) := by decide +kernel
theorem dd_172_19 : decode prog_13_method_19_code 19 = .ok (.iload_n 2, 1) := by decide +kernel
theorem dd_172_20 : decode prog_13_method_19_code 20 = .ok (.bipush 100, 2) := by decide +kernel
theorem dd_172_22 : decode prog_13_method_19_code 22 = .ok (.if_icmp .ge 101, 3) := by decide +kernel
theorem dd_172_25 : decode prog_13_method_19_code 25 = .ok (.aload_n 0, 1) := by decide +kernel
theorem dd_172_26 : decode prog_13_method_19_code 26 = .ok (.getfield 119, 3) := by decide +kernel
theorem dd_172_29 : decode prog_13_method_19_code 29 = .ok (.istore_n 3, 1) := by decide +kernel
theorem dd_172_30 : decode prog_13_method_19_code 30 = .ok (.aload_n 0, 1) := by decide +kernel
theorem dd_172_31 : decode prog_13_method_19_code 31 = .ok (.iload_n 1, 1) := by decide +kernel
theorem dd_172_32 : decode prog_13_method_19_code 32 = .ok (.invokevirtual 160, 3) := by decide +kernel
theorem dd_172_35 : decode prog_13_method_19_code 35 = .ok (.istore 4, 2) := by decide +kernel
theorem dd_172_37 : decode prog_13_method_19_code 37 = .ok (.iload 4, 2) := by decide +kernel
theorem dd_172_39 : decode prog_13_method_19_code 39 = .ok (.ifCond .ge 5, 3) := by decide +kernel
theorem dd_172_42 : decode prog_13_method_19_code 42 = .ok (.iconst 0, 1) := by decide +kernel
theorem dd_172_43 : decode prog_13_method_19_code 43 = .ok (.ireturn, 1) := by decide +kernel
theorem dd_172_44 : decode prog_13_method_19_code 44 = .ok (.iload 4, 2) := by decide +kernel
theorem dd_172_46 : decode prog_13_method_19_code 46 = .ok (.iconst 1, 1) := by decide +kernel
theorem dd_172_47 : decode prog_13_method_19_code 47 = .ok (.if_icmp .ne 8, 3) := by decide +kernel
theorem dd_172_50 : decode prog_13_method_19_code 50 = .ok (.iload_n 3, 1) := by decide +kernel
theorem dd_172_51 : decode prog_13_method_19_code 51 = .ok (.istore_n 1, 1) := by decide +kernel
theorem dd_172_52 : decode prog_13_method_19_code 52 = .ok (.goto 65, 3) := by decide +kernel
theorem dd_172_55 : decode prog_13_method_19_code 55 = .ok (.iconst 0, 1) := by decide +kernel
theorem dd_172_56 : decode prog_13_method_19_code 56 = .ok (.istore 5, 2) := by decide +kernel
theorem dd_172_58 : decode prog_13_method_19_code 58 = .ok (.iload 5, 2) := by decide +kernel
theorem dd_172_60 : decode prog_13_method_19_code 60 = .ok (.ifCond .ne 57, 3) := by decide +kernel
theorem dd_172_63 : decode prog_13_method_19_code 63 = .ok (.iload_n 1, 1) := by decide +kernel
theorem dd_172_64 : decode prog_13_method_19_code 64 = .ok (.ifCond .ge 20, 3) := by decide +kernel
theorem dd_172_67 : decode prog_13_method_19_code 67 = .ok (.aload_n 0, 1) := by decide +kernel
theorem dd_172_68 : decode prog_13_method_19_code 68 = .ok (.getfield 105, 3) := by decide +kernel
theorem dd_172_71 : decode prog_13_method_19_code 71 = .ok (.aload_n 0, 1) := by decide +kernel
theorem dd_172_72 : decode prog_13_method_19_code 72 = .ok (.getfield 102, 3) := by decide +kernel
theorem dd_172_75 : decode prog_13_method_19_code 75 = .ok (.if_icmp .ne 7, 3) := by decide +kernel
theorem dd_172_78 : decode prog_13_method_19_code 78 = .ok (.iconst 1, 1) := by decide +kernel
theorem dd_172_79 : decode prog_13_method_19_code 79 = .ok (.goto 4, 3) := by decide +kernel
theorem dd_172_82 : decode prog_13_method_19_code 82 = .ok (.iconst 0, 1) := by decide +kernel
theorem dd_172_83 : decode prog_13_method_19_code 83 = .ok (.ireturn, 1) := by decide +kernel
theorem dd_172_84 : decode prog_13_method_19_code 84 = .ok (.aload_n 0, 1) := by decide +kernel
theorem dd_172_85 : decode prog_13_method_19_code 85 = .ok (.iload_n 1, 1) := by decide +kernel
theorem dd_172_86 : decode prog_13_method_19_code 86 = .ok (.invokevirtual 163, 3) := by decide +kernel
theorem dd_172_89 : decode prog_13_method_19_code 89 = .ok (.istore 5, 2) := by decide +kernel
theorem dd_172_91 : decode prog_13_method_19_code 91 = .ok (.iload 5, 2) := by decide +kernel
theorem dd_172_93 : decode prog_13_method_19_code 93 = .ok (.ifCond .ge 5, 3) := by decide +kernel
theorem dd_172_96 : decode prog_13_method_19_code 96 = .ok (.iconst 0, 1) := by decide +kernel
theorem dd_172_97 : decode prog_13_method_19_code 97 = .ok (.ireturn, 1) := by decide +kernel
theorem dd_172_98 : decode prog_13_method_19_code 98 = .ok (.iload 5, 2) := by decide +kernel
theorem dd_172_100 : decode prog_13_method_19_code 100 = .ok (.ifCond .ne 12, 3) := by decide +kernel
theorem dd_172_103 : decode prog_13_method_19_code 103 = .ok (.aload_n 0, 1) := by decide +kernel
theorem dd_172_104 : decode prog_13_method_19_code 104 = .ok (.getfield 30, 3) := by decide +kernel
theorem dd_172_107 : decode prog_13_method_19_code 107 = .ok (.iload_n 1, 1) := by decide +kernel
theorem dd_172_108 : decode prog_13_method_19_code 108 = .ok (.iaload, 1) := by decide +kernel
theorem dd_172_109 : decode prog_13_method_19_code 109 = .ok (.goto 4, 3) := by decide +kernel
theorem dd_172_112 : decode prog_13_method_19_code 112 = .ok (.iload_n 1, 1) := by decide +kernel
theorem dd_172_113 : decode prog_13_method_19_code 113 = .ok (.istore_n 1, 1) := by decide +kernel
theorem dd_172_114 : decode prog_13_method_19_code 114 = .ok (.goto (-56), 3) := by decide +kernel
theorem dd_172_117 : decode prog_13_method_19_code 117 = .ok (.iinc 2 1, 3) := by decide +kernel
theorem dd_172_120 : decode prog_13_method_19_code 120 = .ok (.goto (-101), 3) := by decide +kernel
theorem dd_172_123 : decode prog_13_method_19_code 123 = .ok (.iconst 0, 1) := by decide +kernel
theorem dd_172_124 : decode prog_13_method_19_code 124 = .ok (.ireturn, 1) := by decide +kernel
set_option maxRecDepth 100000 in
theorem okI_172 : mj_okI gG "PairMachineModel" prog_13_method_19_code 6 (mj_off oM_172) (Option.some Jvm.ClassFile.FieldType.boolean) false true 0 cM_172 :=
  ⟨Or.inl ⟨0, rfl, dd_172_0, rfl⟩,
   Or.inl (Or.inl ⟨dd_172_1, rfl⟩),
   ⟨105, "PairMachineModel", fT10, 45, dd_172_2, rfl, okc_10, by decide, tw_832, rfl, Or.inl rfl⟩,
   Or.inl ⟨0, rfl, dd_172_5, rfl⟩,
   Or.inl (Or.inl ⟨dd_172_6, rfl⟩),
   ⟨119, "PairMachineModel", fT10, 45, dd_172_7, rfl, okc_10, by decide, tw_842, rfl, Or.inl rfl⟩,
   Or.inl ⟨0, rfl, dd_172_10, rfl⟩,
   Or.inl (Or.inl ⟨dd_172_11, rfl⟩),
   ⟨112, "PairMachineModel", fT10, 45, dd_172_12, rfl, okc_10, by decide, tw_837, rfl, Or.inl rfl⟩,
   Or.inl (Or.inl ⟨dd_172_15, rfl⟩),
   ⟨by decide, Or.inl ⟨1, rfl, dd_172_16, rfl⟩⟩,
   Or.inl (Or.inl ⟨dd_172_17, rfl⟩),
   ⟨by decide, Or.inl ⟨2, rfl, dd_172_18, rfl⟩⟩,
   Or.inl ⟨2, rfl, dd_172_19, rfl⟩,
   Or.inl (Or.inr (Or.inl ⟨dd_172_20, rfl, by decide⟩)),
   ⟨101, dd_172_22, rfl, rfl⟩,
   Or.inl ⟨0, rfl, dd_172_25, rfl⟩,
   ⟨119, "PairMachineModel", fT10, 45, dd_172_26, rfl, okc_10, by decide, tw_842⟩,
   ⟨by decide, Or.inl ⟨3, rfl, dd_172_29, rfl⟩⟩,
   Or.inl ⟨0, rfl, dd_172_30, rfl⟩,
   Or.inl ⟨1, rfl, dd_172_31, rfl⟩,
   ⟨rfl, tw_884, by decide, tw_12, by decide +kernel, 160, tw_885, dd_172_32, tw_886, ⟨"PairMachineModel", fT10, 45, rfl, tw_887⟩, by decide +kernel⟩,
   ⟨by decide, Or.inr ⟨dd_172_35, rfl⟩⟩,
   Or.inr ⟨dd_172_37, rfl⟩,
   ⟨5, dd_172_39, rfl, rfl⟩,
   Or.inl (Or.inl ⟨dd_172_42, rfl⟩),
   ⟨dd_172_43, rfl⟩,
   Or.inr ⟨dd_172_44, rfl⟩,
   Or.inl (Or.inl ⟨dd_172_46, rfl⟩),
   ⟨8, dd_172_47, rfl, rfl⟩,
   Or.inl ⟨3, rfl, dd_172_50, rfl⟩,
   ⟨by decide, Or.inl ⟨1, rfl, dd_172_51, rfl⟩⟩,
   ⟨65, dd_172_52, rfl⟩,
   Or.inl (Or.inl ⟨dd_172_55, rfl⟩),
   ⟨by decide, Or.inr ⟨dd_172_56, rfl⟩⟩,
   Or.inr ⟨dd_172_58, rfl⟩,
   ⟨57, dd_172_60, rfl, rfl⟩,
   Or.inl ⟨1, rfl, dd_172_63, rfl⟩,
   ⟨20, dd_172_64, rfl, rfl⟩,
   Or.inl ⟨0, rfl, dd_172_67, rfl⟩,
   ⟨105, "PairMachineModel", fT10, 45, dd_172_68, rfl, okc_10, by decide, tw_832⟩,
   Or.inl ⟨0, rfl, dd_172_71, rfl⟩,
   ⟨102, "PairMachineModel", fT10, 45, dd_172_72, rfl, okc_10, by decide, tw_831⟩,
   ⟨7, dd_172_75, rfl, rfl⟩,
   Or.inl (Or.inl ⟨dd_172_78, rfl⟩),
   ⟨4, dd_172_79, rfl⟩,
   Or.inl (Or.inl ⟨dd_172_82, rfl⟩),
   ⟨dd_172_83, rfl⟩,
   Or.inl ⟨0, rfl, dd_172_84, rfl⟩,
   Or.inl ⟨1, rfl, dd_172_85, rfl⟩,
   ⟨rfl, tw_888, by decide, tw_12, by decide +kernel, 163, tw_889, dd_172_86, tw_890, ⟨"PairMachineModel", fT10, 45, rfl, tw_891⟩, by decide +kernel⟩,
   ⟨by decide, Or.inr ⟨dd_172_89, rfl⟩⟩,
   Or.inr ⟨dd_172_91, rfl⟩,
   ⟨5, dd_172_93, rfl, rfl⟩,
   Or.inl (Or.inl ⟨dd_172_96, rfl⟩),
   ⟨dd_172_97, rfl⟩,
   Or.inr ⟨dd_172_98, rfl⟩,
   ⟨12, dd_172_100, rfl, rfl⟩,
   Or.inl ⟨0, rfl, dd_172_103, rfl⟩,
   ⟨30, "PairMachineModel", fT10, 45, dd_172_104, rfl, okc_10, by decide, tw_807⟩,
   Or.inl ⟨1, rfl, dd_172_107, rfl⟩,
   ⟨dd_172_108, rfl⟩,
   ⟨4, dd_172_109, rfl⟩,
   Or.inl ⟨1, rfl, dd_172_112, rfl⟩,
   ⟨by decide, Or.inl ⟨1, rfl, dd_172_113, rfl⟩⟩,
   ⟨(-56), dd_172_114, rfl⟩,
   ⟨by decide, dd_172_117, rfl⟩,
   ⟨(-101), dd_172_120, rfl⟩,
   Or.inl (Or.inl ⟨dd_172_123, rfl⟩),
   ⟨dd_172_124, rfl⟩, trivial⟩
theorem okM_172 : mj_okE gG 172 (cM_172, 6, oM_172, hM_172) := ⟨rfl, rfl, by decide +kernel, trivial, okI_172⟩
theorem dd_173_0 : decode prog_13_method_20_code 0 = .ok (.aload_n 0, 1) := by decide +kernel
theorem dd_173_1 : decode prog_13_method_20_code 1 = .ok (.getfield 17, 3) := by decide +kernel
theorem dd_173_4 : decode prog_13_method_20_code 4 = .ok (.iload_n 1, 1) := by decide +kernel
theorem dd_173_5 : decode prog_13_method_20_code 5 = .ok (.iaload, 1) := by decide +kernel
theorem dd_173_6 : decode prog_13_method_20_code 6 = .ok (.iconst 5, 1) := by decide +kernel
theorem dd_173_7 : decode prog_13_method_20_code 7 = .ok (.if_icmp .ne 39, 3) := by decide +kernel
theorem dd_173_10 : decode prog_13_method_20_code 10 = .ok (.iconst 0, 1) := by decide +kernel
theorem dd_173_11 : decode prog_13_method_20_code 11 = .ok (.istore_n 3, 1) := by decide +kernel
theorem dd_173_12 : decode prog_13_method_20_code 12 = .ok (.iload_n 3, 1) := by decide +kernel
theorem dd_173_13 : decode prog_13_method_20_code 13 = .ok (.aload_n 0, 1) := by decide +kernel
theorem dd_173_14 : decode prog_13_method_20_code 14 = .ok (.getfield 27, 3) := by decide +kernel
theorem dd_173_17 : decode prog_13_method_20_code 17 = .ok (.iload_n 1, 1) := by decide +kernel
theorem dd_173_18 : decode prog_13_method_20_code 18 = .ok (.iaload, 1) := by decide +kernel
theorem dd_173_19 : decode prog_13_method_20_code 19 = .ok (.if_icmp .ge 25, 3) := by decide +kernel
theorem dd_173_22 : decode prog_13_method_20_code 22 = .ok (.aload_n 0, 1) := by decide +kernel
theorem dd_173_23 : decode prog_13_method_20_code 23 = .ok (.getfield 45, 3) := by decide +kernel
theorem dd_173_26 : decode prog_13_method_20_code 26 = .ok (.iconst 3, 1) := by decide +kernel
theorem dd_173_27 : decode prog_13_method_20_code 27 = .ok (.iload_n 1, 1) := by decide +kernel
theorem dd_173_28 : decode prog_13_method_20_code 28 = .ok (.imul, 1) := by decide +kernel
theorem dd_173_29 : decode prog_13_method_20_code 29 = .ok (.iload_n 3, 1) := by decide +kernel
theorem dd_173_30 : decode prog_13_method_20_code 30 = .ok (.iadd, 1) := by decide +kernel
theorem dd_173_31 : decode prog_13_method_20_code 31 = .ok (.iaload, 1) := by decide +kernel
theorem dd_173_32 : decode prog_13_method_20_code 32 = .ok (.iload_n 2, 1) := by decide +kernel
theorem dd_173_33 : decode prog_13_method_20_code 33 = .ok (.if_icmp .ne 5, 3) := by decide +kernel
theorem dd_173_36 : decode prog_13_method_20_code 36 = .ok (.iload_n 3, 1) := by decide +kernel
theorem dd_173_37 : decode prog_13_method_20_code 37 = .ok (.ireturn, 1) := by decide +kernel
theorem dd_173_38 : decode prog_13_method_20_code 38 = .ok (.iinc 3 1, 3) := by decide +kernel
theorem dd_173_41 : decode prog_13_method_20_code 41 = .ok (.goto (-29), 3) := by decide +kernel
theorem dd_173_44 : decode prog_13_method_20_code 44 = .ok (.iconst (-1), 1) := by decide +kernel
theorem dd_173_45 : decode prog_13_method_20_code 45 = .ok (.ireturn, 1) := by decide +kernel
theorem dd_173_46 : decode prog_13_method_20_code 46 = .ok (.iconst 0, 1) := by decide +kernel
theorem dd_173_47 : decode prog_13_method_20_code 47 = .ok (.istore_n 3, 1) := by decide +kernel
theorem dd_173_48 : decode prog_13_method_20_code 48 = .ok (.aload_n 0, 1) := by decide +kernel
theorem dd_173_49 : decode prog_13_method_20_code 49 = .ok (.getfield 39, 3) := by decide +kernel
theorem dd_173_52 : decode prog_13_method_20_code 52 = .ok (.aload_n 0, 1) := by decide +kernel
theorem dd_173_53 : decode prog_13_method_20_code 53 = .ok (.getfield 33, 3) := by decide +kernel
theorem dd_173_56 : decode prog_13_method_20_code 56 = .ok (.iload_n 1, 1) := by decide +kernel
theorem dd_173_57 : decode prog_13_method_20_code 57 = .ok (.iaload, 1) := by decide +kernel
theorem dd_173_58 : decode prog_13_method_20_code 58 = .ok (.iaload, 1) := by decide +kernel
theorem dd_173_59 : decode prog_13_method_20_code 59 = .ok (.istore 4, 2) := by decide +kernel
theorem dd_173_61 : decode prog_13_method_20_code 61 = .ok (.iload 4, 2) := by decide +kernel
theorem dd_173_63 : decode prog_13_method_20_code 63 = .ok (.ifCond .lt 31, 3) := by decide +kernel
theorem dd_173_66 : decode prog_13_method_20_code 66 = .ok (.aload_n 0, 1) := by decide +kernel
theorem dd_173_67 : decode prog_13_method_20_code 67 = .ok (.getfield 48, 3) := by decide +kernel
theorem dd_173_70 : decode prog_13_method_20_code 70 = .ok (.iload 4, 2) := by decide +kernel
theorem dd_173_72 : decode prog_13_method_20_code 72 = .ok (.iaload, 1) := by decide +kernel
theorem dd_173_73 : decode prog_13_method_20_code 73 = .ok (.iload_n 2, 1) := by decide +kernel
theorem dd_173_74 : decode prog_13_method_20_code 74 = .ok (.if_icmp .ne 5, 3) := by decide +kernel
theorem dd_173_77 : decode prog_13_method_20_code 77 = .ok (.iload_n 3, 1) := by decide +kernel
theorem dd_173_78 : decode prog_13_method_20_code 78 = .ok (.ireturn, 1) := by decide +kernel
theorem dd_173_79 : decode prog_13_method_20_code 79 = .ok (.iinc 3 1, 3) := by decide +kernel
theorem dd_173_82 : decode prog_13_method_20_code 82 = .ok (.aload_n 0, 1) := by decide +kernel
theorem dd_173_83 : decode prog_13_method_20_code 83 = .ok (.getfield 39, 3) := by decide +kernel
theorem dd_173_86 : decode prog_13_method_20_code 86 = .ok (.iload 4, 2) := by decide +kernel
theorem dd_173_88 : decode prog_13_method_20_code 88 = .ok (.iaload, 1) := by decide +kernel
theorem dd_173_89 : decode prog_13_method_20_code 89 = .ok (.istore 4, 2) := by decide +kernel
theorem dd_173_91 : decode prog_13_method_20_code 91 = .ok (.goto (-30), 3) := by decide +kernel
theorem dd_173_94 : decode prog_13_method_20_code 94 = .ok (.iconst (-1), 1) := by decide +kernel
theorem dd_173_95 : decode prog_13_method_20_code 95 = .ok (.ireturn, 1) := by decide +kernel
set_option maxRecDepth 100000 in
theorem okI_173 : mj_okI gG "PairMachineModel" prog_13_method_20_code 5 (mj_off oM_173) (Option.some Jvm.ClassFile.FieldType.int) false true 0 cM_173 :=
  ⟨Or.inl ⟨0, rfl, dd_173_0, rfl⟩,
   ⟨17, "PairMachineModel", fT10, 45, dd_173_1, rfl, okc_10, by decide, tw_803⟩,
   Or.inl ⟨1, rfl, dd_173_4, rfl⟩,
   ⟨dd_173_5, rfl⟩,
   Or.inl (Or.inl ⟨dd_173_6, rfl⟩),
   ⟨39, dd_173_7, rfl, rfl⟩,
   Or.inl (Or.inl ⟨dd_173_10, rfl⟩),
   ⟨by decide, Or.inl ⟨3, rfl, dd_173_11, rfl⟩⟩,
   Or.inl ⟨3, rfl, dd_173_12, rfl⟩,
   Or.inl ⟨0, rfl, dd_173_13, rfl⟩,
   ⟨27, "PairMachineModel", fT10, 45, dd_173_14, rfl, okc_10, by decide, tw_806⟩,
   Or.inl ⟨1, rfl, dd_173_17, rfl⟩,
   ⟨dd_173_18, rfl⟩,
   ⟨25, dd_173_19, rfl, rfl⟩,
   Or.inl ⟨0, rfl, dd_173_22, rfl⟩,
   ⟨45, "PairMachineModel", fT10, 45, dd_173_23, rfl, okc_10, by decide, tw_812⟩,
   Or.inl (Or.inl ⟨dd_173_26, rfl⟩),
   Or.inl ⟨1, rfl, dd_173_27, rfl⟩,
   ⟨dd_173_28, rfl⟩,
   Or.inl ⟨3, rfl, dd_173_29, rfl⟩,
   ⟨dd_173_30, rfl⟩,
   ⟨dd_173_31, rfl⟩,
   Or.inl ⟨2, rfl, dd_173_32, rfl⟩,
   ⟨5, dd_173_33, rfl, rfl⟩,
   Or.inl ⟨3, rfl, dd_173_36, rfl⟩,
   ⟨dd_173_37, rfl⟩,
   ⟨by decide, dd_173_38, rfl⟩,
   ⟨(-29), dd_173_41, rfl⟩,
   Or.inl (Or.inl ⟨dd_173_44, rfl⟩),
   ⟨dd_173_45, rfl⟩,
   Or.inl (Or.inl ⟨dd_173_46, rfl⟩),
   ⟨by decide, Or.inl ⟨3, rfl, dd_173_47, rfl⟩⟩,
   Or.inl ⟨0, rfl, dd_173_48, rfl⟩,
   ⟨39, "PairMachineModel", fT10, 45, dd_173_49, rfl, okc_10, by decide, tw_810⟩,
   Or.inl ⟨0, rfl, dd_173_52, rfl⟩,
   ⟨33, "PairMachineModel", fT10, 45, dd_173_53, rfl, okc_10, by decide, tw_808⟩,
   Or.inl ⟨1, rfl, dd_173_56, rfl⟩,
   ⟨dd_173_57, rfl⟩,
   ⟨dd_173_58, rfl⟩,
   ⟨by decide, Or.inr ⟨dd_173_59, rfl⟩⟩,
   Or.inr ⟨dd_173_61, rfl⟩,
   ⟨31, dd_173_63, rfl, rfl⟩,
   Or.inl ⟨0, rfl, dd_173_66, rfl⟩,
   ⟨48, "PairMachineModel", fT10, 45, dd_173_67, rfl, okc_10, by decide, tw_813⟩,
   Or.inr ⟨dd_173_70, rfl⟩,
   ⟨dd_173_72, rfl⟩,
   Or.inl ⟨2, rfl, dd_173_73, rfl⟩,
   ⟨5, dd_173_74, rfl, rfl⟩,
   Or.inl ⟨3, rfl, dd_173_77, rfl⟩,
   ⟨dd_173_78, rfl⟩,
   ⟨by decide, dd_173_79, rfl⟩,
   Or.inl ⟨0, rfl, dd_173_82, rfl⟩,
   ⟨39, "PairMachineModel", fT10, 45, dd_173_83, rfl, okc_10, by decide, tw_810⟩,
   Or.inr ⟨dd_173_86, rfl⟩,
   ⟨dd_173_88, rfl⟩,
   ⟨by decide, Or.inr ⟨dd_173_89, rfl⟩⟩,
   ⟨(-30), dd_173_91, rfl⟩,
   Or.inl (Or.inl ⟨dd_173_94, rfl⟩),
   ⟨dd_173_95, rfl⟩, trivial⟩
theorem okM_173 : mj_okE gG 173 (cM_173, 5, oM_173, hM_173) := ⟨rfl, rfl, by decide +kernel, trivial, okI_173⟩
end
