theorem dd_180_0 : decode prog_13_method_26_code 0 = .ok (.iload_n 0, 1) := by decide +kernel
theorem dd_180_1 : decode prog_13_method_26_code 1 = .ok (.lookupswitch 99 #[(33, 81), (42, 96), (43, 90), (45, 93), (46, 84), (61, 87), (94, 75), (95, 78)], 75) := by decide +kernel
theorem dd_180_76 : decode prog_13_method_26_code 76 = .ok (.bipush 10, 2) := by decide +kernel
theorem dd_180_78 : decode prog_13_method_26_code 78 = .ok (.ireturn, 1) := by decide +kernel
theorem dd_180_79 : decode prog_13_method_26_code 79 = .ok (.bipush 11, 2) := by decide +kernel
theorem dd_180_81 : decode prog_13_method_26_code 81 = .ok (.ireturn, 1) := by decide +kernel
theorem dd_180_82 : decode prog_13_method_26_code 82 = .ok (.bipush 12, 2) := by decide +kernel
theorem dd_180_84 : decode prog_13_method_26_code 84 = .ok (.ireturn, 1) := by decide +kernel
theorem dd_180_85 : decode prog_13_method_26_code 85 = .ok (.bipush 13, 2) := by decide +kernel
theorem dd_180_87 : decode prog_13_method_26_code 87 = .ok (.ireturn, 1) := by decide +kernel
theorem dd_180_88 : decode prog_13_method_26_code 88 = .ok (.bipush 14, 2) := by decide +kernel
theorem dd_180_90 : decode prog_13_method_26_code 90 = .ok (.ireturn, 1) := by decide +kernel
theorem dd_180_91 : decode prog_13_method_26_code 91 = .ok (.bipush 15, 2) := by decide +kernel
theorem dd_180_93 : decode prog_13_method_26_code 93 = .ok (.ireturn, 1) := by decide +kernel
theorem dd_180_94 : decode prog_13_method_26_code 94 = .ok (.bipush 16, 2) := by decide +kernel
theorem dd_180_96 : decode prog_13_method_26_code 96 = .ok (.ireturn, 1) := by decide +kernel
theorem dd_180_97 : decode prog_13_method_26_code 97 = .ok (.bipush 17, 2) := by decide +kernel
theorem dd_180_99 : decode prog_13_method_26_code 99 = .ok (.ireturn, 1) := by decide +kernel
theorem dd_180_100 : decode prog_13_method_26_code 100 = .ok (.bipush 18, 2) := by decide +kernel
theorem dd_180_102 : decode prog_13_method_26_code 102 = .ok (.ireturn, 1) := by decide +kernel
set_option maxRecDepth 100000 in
theorem okI_180 : mj_okI gG "PairMachineModel" prog_13_method_26_code 1 (mj_off oM_180) (Option.some Jvm.ClassFile.FieldType.int) false true 0 cM_180 :=
  ⟨Or.inl ⟨0, rfl, dd_180_0, rfl⟩,
   Or.inl ⟨99, #[(33, 81), (42, 96), (43, 90), (45, 93), (46, 84), (61, 87), (94, 75), (95, 78)], 75, dd_180_1, by decide, rfl, rfl, by decide +kernel⟩,
   Or.inl (Or.inr (Or.inl ⟨dd_180_76, rfl, by decide⟩)),
   ⟨dd_180_78, rfl⟩,
   Or.inl (Or.inr (Or.inl ⟨dd_180_79, rfl, by decide⟩)),
   ⟨dd_180_81, rfl⟩,
   Or.inl (Or.inr (Or.inl ⟨dd_180_82, rfl, by decide⟩)),
   ⟨dd_180_84, rfl⟩,
   Or.inl (Or.inr (Or.inl ⟨dd_180_85, rfl, by decide⟩)),
   ⟨dd_180_87, rfl⟩,
   Or.inl (Or.inr (Or.inl ⟨dd_180_88, rfl, by decide⟩)),
   ⟨dd_180_90, rfl⟩,
   Or.inl (Or.inr (Or.inl ⟨dd_180_91, rfl, by decide⟩)),
   ⟨dd_180_93, rfl⟩,
   Or.inl (Or.inr (Or.inl ⟨dd_180_94, rfl, by decide⟩)),
   ⟨dd_180_96, rfl⟩,
   Or.inl (Or.inr (Or.inl ⟨dd_180_97, rfl, by decide⟩)),
   ⟨dd_180_99, rfl⟩,
   Or.inl (Or.inr (Or.inl ⟨dd_180_100, rfl, by decide⟩)),
   ⟨dd_180_102, rfl⟩, trivial⟩
theorem okM_180 : mj_okE gG 180 (cM_180, 1, oM_180, hM_180) := ⟨rfl, rfl, by decide +kernel, trivial, okI_180⟩
theorem dd_181_0 : decode prog_13_method_27_code 0 = .ok (.aload_n 0, 1) := by decide +kernel
theorem dd_181_1 : decode prog_13_method_27_code 1 = .ok (.iconst 5, 1) := by decide +kernel
theorem dd_181_2 : decode prog_13_method_27_code 2 = .ok (.iconst 0, 1) := by decide +kernel
theorem dd_181_3 : decode prog_13_method_27_code 3 = .ok (.invokevirtual 185, 3) := by decide +kernel
theorem dd_181_6 : decode prog_13_method_27_code 6 = .ok (.aload_n 0, 1) := by decide +kernel
theorem dd_181_7 : decode prog_13_method_27_code 7 = .ok (.iconst 1, 1) := by decide +kernel
theorem dd_181_8 : decode prog_13_method_27_code 8 = .ok (.iload_n 2, 1) := by decide +kernel
theorem dd_181_9 : decode prog_13_method_27_code 9 = .ok (.invokevirtual 185, 3) := by decide +kernel
theorem dd_181_12 : decode prog_13_method_27_code 12 = .ok (.aload_n 0, 1) := by decide +kernel
theorem dd_181_13 : decode prog_13_method_27_code 13 = .ok (.iconst (-1), 1) := by decide +kernel
theorem dd_181_14 : decode prog_13_method_27_code 14 = .ok (.iload_n 1, 1) := by decide +kernel
theorem dd_181_15 : decode prog_13_method_27_code 15 = .ok (.invokevirtual 185, 3) := by decide +kernel
theorem dd_181_18 : decode prog_13_method_27_code 18 = .ok (.aload_n 0, 1) := by decide +kernel
theorem dd_181_19 : decode prog_13_method_27_code 19 = .ok (.iconst 4, 1) := by decide +kernel
theorem dd_181_20 : decode prog_13_method_27_code 20 = .ok (.iconst 0, 1) := by decide +kernel
theorem dd_181_21 : decode prog_13_method_27_code 21 = .ok (.invokevirtual 185, 3) := by decide +kernel
theorem dd_181_24 : decode prog_13_method_27_code 24 = .ok (.return_, 1) := by decide +kernel
set_option maxRecDepth 100000 in
theorem okI_181 : mj_okI gG "PairMachineModel" prog_13_method_27_code 3 (mj_off oM_181) (Option.none : Option Jvm.ClassFile.FieldType) false true 0 cM_181 :=
  ⟨Or.inl ⟨0, rfl, dd_181_0, rfl⟩,
   Or.inl (Or.inl ⟨dd_181_1, rfl⟩),
   Or.inl (Or.inl ⟨dd_181_2, rfl⟩),
   ⟨rfl, tw_882, by decide, tw_12, by decide +kernel, 185, tw_883, dd_181_3, tw_884, ⟨"PairMachineModel", fT10, 45, rfl, tw_885⟩, by decide +kernel⟩,
   Or.inl ⟨0, rfl, dd_181_6, rfl⟩,
   Or.inl (Or.inl ⟨dd_181_7, rfl⟩),
   Or.inl ⟨2, rfl, dd_181_8, rfl⟩,
   ⟨rfl, tw_882, by decide, tw_12, by decide +kernel, 185, tw_883, dd_181_9, tw_884, ⟨"PairMachineModel", fT10, 45, rfl, tw_885⟩, by decide +kernel⟩,
   Or.inl ⟨0, rfl, dd_181_12, rfl⟩,
   Or.inl (Or.inl ⟨dd_181_13, rfl⟩),
   Or.inl ⟨1, rfl, dd_181_14, rfl⟩,
   ⟨rfl, tw_882, by decide, tw_12, by decide +kernel, 185, tw_883, dd_181_15, tw_884, ⟨"PairMachineModel", fT10, 45, rfl, tw_885⟩, by decide +kernel⟩,
   Or.inl ⟨0, rfl, dd_181_18, rfl⟩,
   Or.inl (Or.inl ⟨dd_181_19, rfl⟩),
   Or.inl (Or.inl ⟨dd_181_20, rfl⟩),
   ⟨rfl, tw_882, by decide, tw_12, by decide +kernel, 185, tw_883, dd_181_21, tw_884, ⟨"PairMachineModel", fT10, 45, rfl, tw_885⟩, by decide +kernel⟩,
   ⟨dd_181_24, rfl⟩, trivial⟩
theorem okM_181 : mj_okE gG 181 (cM_181, 3, oM_181, hM_181) := ⟨rfl, rfl, by decide +kernel, trivial, okI_181⟩
theorem dd_182_0 : decode prog_13_method_28_code 0 = .ok (.iload_n 1, 1) := by decide +kernel
theorem dd_182_1 : decode prog_13_method_28_code 1 = .ok (.istore_n 2, 1) := by decide +kernel
theorem dd_182_2 : decode prog_13_method_28_code 2 = .ok (.iload_n 2, 1) := by decide +kernel
theorem dd_182_3 : decode prog_13_method_28_code 3 = .ok (.ifCond .lt 26, 3) := by decide +kernel
theorem dd_182_6 : decode prog_13_method_28_code 6 = .ok (.aload_n 0, 1) := by decide +kernel
theorem dd_182_7 : decode prog_13_method_28_code 7 = .ok (.iconst 1, 1) := by decide +kernel
theorem dd_182_8 : decode prog_13_method_28_code 8 = .ok (.bipush 13, 2) := by decide +kernel
theorem dd_182_10 : decode prog_13_method_28_code 10 = .ok (.invokevirtual 185, 3) := by decide +kernel
theorem dd_182_13 : decode prog_13_method_28_code 13 = .ok (.aload_n 0, 1) := by decide +kernel
theorem dd_182_14 : decode prog_13_method_28_code 14 = .ok (.iconst (-1), 1) := by decide +kernel
theorem dd_182_15 : decode prog_13_method_28_code 15 = .ok (.iload_n 2, 1) := by decide +kernel
theorem dd_182_16 : decode prog_13_method_28_code 16 = .ok (.invokevirtual 185, 3) := by decide +kernel
theorem dd_182_19 : decode prog_13_method_28_code 19 = .ok (.aload_n 0, 1) := by decide +kernel
theorem dd_182_20 : decode prog_13_method_28_code 20 = .ok (.getfield 39, 3) := by decide +kernel
theorem dd_182_23 : decode prog_13_method_28_code 23 = .ok (.iload_n 2, 1) := by decide +kernel
theorem dd_182_24 : decode prog_13_method_28_code 24 = .ok (.iaload, 1) := by decide +kernel
theorem dd_182_25 : decode prog_13_method_28_code 25 = .ok (.istore_n 2, 1) := by decide +kernel
theorem dd_182_26 : decode prog_13_method_28_code 26 = .ok (.goto (-24), 3) := by decide +kernel
theorem dd_182_29 : decode prog_13_method_28_code 29 = .ok (.aload_n 0, 1) := by decide +kernel
theorem dd_182_30 : decode prog_13_method_28_code 30 = .ok (.iconst 0, 1) := by decide +kernel
theorem dd_182_31 : decode prog_13_method_28_code 31 = .ok (.iconst 0, 1) := by decide +kernel
theorem dd_182_32 : decode prog_13_method_28_code 32 = .ok (.invokevirtual 185, 3) := by decide +kernel
theorem dd_182_35 : decode prog_13_method_28_code 35 = .ok (.aload_n 0, 1) := by decide +kernel
theorem dd_182_36 : decode prog_13_method_28_code 36 = .ok (.iconst 1, 1) := by decide +kernel
theorem dd_182_37 : decode prog_13_method_28_code 37 = .ok (.iconst 1, 1) := by decide +kernel
theorem dd_182_38 : decode prog_13_method_28_code 38 = .ok (.invokevirtual 185, 3) := by decide +kernel
theorem dd_182_41 : decode prog_13_method_28_code 41 = .ok (.return_, 1) := by decide +kernel
set_option maxRecDepth 100000 in
theorem okI_182 : mj_okI gG "PairMachineModel" prog_13_method_28_code 3 (mj_off oM_182) (Option.none : Option Jvm.ClassFile.FieldType) false true 0 cM_182 :=
  ⟨Or.inl ⟨1, rfl, dd_182_0, rfl⟩,
   ⟨by decide, Or.inl ⟨2, rfl, dd_182_1, rfl⟩⟩,
   Or.inl ⟨2, rfl, dd_182_2, rfl⟩,
   ⟨26, dd_182_3, rfl, rfl⟩,
   Or.inl ⟨0, rfl, dd_182_6, rfl⟩,
   Or.inl (Or.inl ⟨dd_182_7, rfl⟩),
   Or.inl (Or.inr (Or.inl ⟨dd_182_8, rfl, by decide⟩)),
   ⟨rfl, tw_882, by decide, tw_12, by decide +kernel, 185, tw_883, dd_182_10, tw_884, ⟨"PairMachineModel", fT10, 45, rfl, tw_885⟩, by decide +kernel⟩,
   Or.inl ⟨0, rfl, dd_182_13, rfl⟩,
   Or.inl (Or.inl ⟨dd_182_14, rfl⟩),
   Or.inl ⟨2, rfl, dd_182_15, rfl⟩,
   ⟨rfl, tw_882, by decide, tw_12, by decide +kernel, 185, tw_883, dd_182_16, tw_884, ⟨"PairMachineModel", fT10, 45, rfl, tw_885⟩, by decide +kernel⟩,
   Or.inl ⟨0, rfl, dd_182_19, rfl⟩,
   ⟨39, "PairMachineModel", fT10, 45, dd_182_20, rfl, okc_10, by decide, tw_785⟩,
   Or.inl ⟨2, rfl, dd_182_23, rfl⟩,
   ⟨dd_182_24, rfl⟩,
   ⟨by decide, Or.inl ⟨2, rfl, dd_182_25, rfl⟩⟩,
   ⟨(-24), dd_182_26, rfl⟩,
   Or.inl ⟨0, rfl, dd_182_29, rfl⟩,
   Or.inl (Or.inl ⟨dd_182_30, rfl⟩),
   Or.inl (Or.inl ⟨dd_182_31, rfl⟩),
   ⟨rfl, tw_882, by decide, tw_12, by decide +kernel, 185, tw_883, dd_182_32, tw_884, ⟨"PairMachineModel", fT10, 45, rfl, tw_885⟩, by decide +kernel⟩,
   Or.inl ⟨0, rfl, dd_182_35, rfl⟩,
   Or.inl (Or.inl ⟨dd_182_36, rfl⟩),
   Or.inl (Or.inl ⟨dd_182_37, rfl⟩),
   ⟨rfl, tw_882, by decide, tw_12, by decide +kernel, 185, tw_883, dd_182_38, tw_884, ⟨"PairMachineModel", fT10, 45, rfl, tw_885⟩, by decide +kernel⟩,
   ⟨dd_182_41, rfl⟩, trivial⟩
theorem okM_182 : mj_okE gG 182 (cM_182, 3, oM_182, hM_182) := ⟨rfl, rfl, by decide +kernel, trivial, okI_182⟩
theorem dd_183_0 : decode prog_13_method_29_code 0 = .ok (.aload_n 0, 1) := by decide +kernel
theorem dd_183_1 : decode prog_13_method_29_code 1 = .ok (.getfield 33, 3) := by decide +kernel
theorem dd_183_4 : decode prog_13_method_29_code 4 = .ok (.iload_n 1, 1) := by decide +kernel
theorem dd_183_5 : decode prog_13_method_29_code 5 = .ok (.iaload, 1) := by decide +kernel
theorem dd_183_6 : decode prog_13_method_29_code 6 = .ok (.istore_n 2, 1) := by decide +kernel
theorem dd_183_7 : decode prog_13_method_29_code 7 = .ok (.aload_n 0, 1) := by decide +kernel
theorem dd_183_8 : decode prog_13_method_29_code 8 = .ok (.getfield 17, 3) := by decide +kernel
theorem dd_183_11 : decode prog_13_method_29_code 11 = .ok (.iload_n 1, 1) := by decide +kernel
theorem dd_183_12 : decode prog_13_method_29_code 12 = .ok (.iaload, 1) := by decide +kernel
theorem dd_183_13 : decode prog_13_method_29_code 13 = .ok (.tableswitch 205 0 7 #[47, 67, 86, 205, 100, 125, 140, 140], 47) := by decide +kernel
theorem dd_183_60 : decode prog_13_method_29_code 60 = .ok (.aload_n 0, 1) := by decide +kernel
theorem dd_183_61 : decode prog_13_method_29_code 61 = .ok (.iconst 1, 1) := by decide +kernel
theorem dd_183_62 : decode prog_13_method_29_code 62 = .ok (.iconst 1, 1) := by decide +kernel
theorem dd_183_63 : decode prog_13_method_29_code 63 = .ok (.invokevirtual 181, 3) := by decide +kernel
theorem dd_183_66 : decode prog_13_method_29_code 66 = .ok (.aload_n 0, 1) := by decide +kernel
theorem dd_183_67 : decode prog_13_method_29_code 67 = .ok (.iconst 1, 1) := by decide +kernel
theorem dd_183_68 : decode prog_13_method_29_code 68 = .ok (.aload_n 0, 1) := by decide +kernel
theorem dd_183_69 : decode prog_13_method_29_code 69 = .ok (.getfield 27, 3) := by decide +kernel
theorem dd_183_72 : decode prog_13_method_29_code 72 = .ok (.iload_n 1, 1) := by decide +kernel
theorem dd_183_73 : decode prog_13_method_29_code 73 = .ok (.iaload, 1) := by decide +kernel
theorem dd_183_74 : decode prog_13_method_29_code 74 = .ok (.invokevirtual 181, 3) := by decide +kernel
theorem dd_183_77 : decode prog_13_method_29_code 77 = .ok (.goto 147, 3) := by decide +kernel
theorem dd_183_80 : decode prog_13_method_29_code 80 = .ok (.aload_n 0, 1) := by decide +kernel
theorem dd_183_81 : decode prog_13_method_29_code 81 = .ok (.iconst 1, 1) := by decide +kernel
theorem dd_183_82 : decode prog_13_method_29_code 82 = .ok (.iconst 2, 1) := by decide +kernel
theorem dd_183_83 : decode prog_13_method_29_code 83 = .ok (.invokevirtual 181, 3) := by decide +kernel
theorem dd_183_86 : decode prog_13_method_29_code 86 = .ok (.aload_n 0, 1) := by decide +kernel
theorem dd_183_87 : decode prog_13_method_29_code 87 = .ok (.iconst 1, 1) := by decide +kernel
theorem dd_183_88 : decode prog_13_method_29_code 88 = .ok (.aload_n 0, 1) := by decide +kernel
theorem dd_183_89 : decode prog_13_method_29_code 89 = .ok (.iload_n 1, 1) := by decide +kernel
theorem dd_183_90 : decode prog_13_method_29_code 90 = .ok (.invokevirtual 169, 3) := by decide +kernel
theorem dd_183_93 : decode prog_13_method_29_code 93 = .ok (.invokevirtual 181, 3) := by decide +kernel
theorem dd_183_96 : decode prog_13_method_29_code 96 = .ok (.goto 128, 3) := by decide +kernel
theorem dd_183_99 : decode prog_13_method_29_code 99 = .ok (.aload_n 0, 1) := by decide +kernel
theorem dd_183_100 : decode prog_13_method_29_code 100 = .ok (.iconst 1, 1) := by decide +kernel
theorem dd_183_101 : decode prog_13_method_29_code 101 = .ok (.iconst 1, 1) := by decide +kernel
theorem dd_183_102 : decode prog_13_method_29_code 102 = .ok (.invokevirtual 181, 3) := by decide +kernel
theorem dd_183_105 : decode prog_13_method_29_code 105 = .ok (.aload_n 0, 1) := by decide +kernel
theorem dd_183_106 : decode prog_13_method_29_code 106 = .ok (.iload_n 1, 1) := by decide +kernel
theorem dd_183_107 : decode prog_13_method_29_code 107 = .ok (.invokevirtual 188, 3) := by decide +kernel
theorem dd_183_110 : decode prog_13_method_29_code 110 = .ok (.goto 114, 3) := by decide +kernel
theorem dd_183_113 : decode prog_13_method_29_code 113 = .ok (.aload_n 0, 1) := by decide +kernel
theorem dd_183_114 : decode prog_13_method_29_code 114 = .ok (.iconst 1, 1) := by decide +kernel
theorem dd_183_115 : decode prog_13_method_29_code 115 = .ok (.iconst 4, 1) := by decide +kernel
theorem dd_183_116 : decode prog_13_method_29_code 116 = .ok (.invokevirtual 185, 3) := by decide +kernel
theorem dd_183_119 : decode prog_13_method_29_code 119 = .ok (.aload_n 0, 1) := by decide +kernel
theorem dd_183_120 : decode prog_13_method_29_code 120 = .ok (.iconst (-1), 1) := by decide +kernel
theorem dd_183_121 : decode prog_13_method_29_code 121 = .ok (.iload_n 2, 1) := by decide +kernel
theorem dd_183_122 : decode prog_13_method_29_code 122 = .ok (.invokevirtual 185, 3) := by decide +kernel
theorem dd_183_125 : decode prog_13_method_29_code 125 = .ok (.aload_n 0, 1) := by decide +kernel
theorem dd_183_126 : decode prog_13_method_29_code 126 = .ok (.aload_n 0, 1) := by decide +kernel
theorem dd_183_127 : decode prog_13_method_29_code 127 = .ok (.getfield 39, 3) := by decide +kernel
theorem dd_183_130 : decode prog_13_method_29_code 130 = .ok (.iload_n 2, 1) := by decide +kernel
theorem dd_183_131 : decode prog_13_method_29_code 131 = .ok (.iaload, 1) := by decide +kernel
theorem dd_183_132 : decode prog_13_method_29_code 132 = .ok (.invokevirtual 192, 3) := by decide +kernel
theorem dd_183_135 : decode prog_13_method_29_code 135 = .ok (.goto 89, 3) := by decide +kernel
theorem dd_183_138 : decode prog_13_method_29_code 138 = .ok (.aload_n 0, 1) := by decide +kernel
theorem dd_183_139 : decode prog_13_method_29_code 139 = .ok (.iload_n 2, 1) := by decide +kernel
theorem dd_183_140 : decode prog_13_method_29_code 140 = .ok (.iconst 5, 1) := by decide +kernel
theorem dd_183_141 : decode prog_13_method_29_code 141 = .ok (.invokevirtual 195, 3) := by decide +kernel
theorem dd_183_144 : decode prog_13_method_29_code 144 = .ok (.aload_n 0, 1) := by decide +kernel
theorem dd_183_145 : decode prog_13_method_29_code 145 = .ok (.iconst 1, 1) := by decide +kernel
theorem dd_183_146 : decode prog_13_method_29_code 146 = .ok (.iconst 3, 1) := by decide +kernel
theorem dd_183_147 : decode prog_13_method_29_code 147 = .ok (.invokevirtual 185, 3) := by decide +kernel
theorem dd_183_150 : decode prog_13_method_29_code 150 = .ok (.goto 74, 3) := by decide +kernel
theorem dd_183_153 : decode prog_13_method_29_code 153 = .ok (.aload_n 0, 1) := by decide +kernel
theorem dd_183_154 : decode prog_13_method_29_code 154 = .ok (.iconst 1, 1) := by decide +kernel
theorem dd_183_155 : decode prog_13_method_29_code 155 = .ok (.aload_n 0, 1) := by decide +kernel
theorem dd_183_156 : decode prog_13_method_29_code 156 = .ok (.getfield 17, 3) := by decide +kernel
theorem dd_183_159 : decode prog_13_method_29_code 159 = .ok (.iload_n 1, 1) := by decide +kernel
theorem dd_183_160 : decode prog_13_method_29_code 160 = .ok (.iaload, 1) := by decide +kernel
theorem dd_183_161 : decode prog_13_method_29_code 161 = .ok (.bipush 6, 2) := by decide +kernel
theorem dd_183_163 : decode prog_13_method_29_code 163 = .ok (.if_icmp .ne 7, 3) := by decide +kernel
theorem dd_183_166 : decode prog_13_method_29_code 166 = .ok (.iconst 4, 1) := by decide +kernel
theorem dd_183_167 : decode prog_13_method_29_code 167 = .ok (.goto 5, 3) := by decide +kernel
theorem dd_183_170 : decode prog_13_method_29_code 170 = .ok (.bipush 7, 2) := by decide +kernel
theorem dd_183_172 : decode prog_13_method_29_code 172 = .ok (.invokevirtual 185, 3) := by decide +kernel
theorem dd_183_175 : decode prog_13_method_29_code 175 = .ok (.aload_n 0, 1) := by decide +kernel
theorem dd_183_176 : decode prog_13_method_29_code 176 = .ok (.iload_n 2, 1) := by decide +kernel
theorem dd_183_177 : decode prog_13_method_29_code 177 = .ok (.iconst 5, 1) := by decide +kernel
theorem dd_183_178 : decode prog_13_method_29_code 178 = .ok (.invokevirtual 195, 3) := by decide +kernel
theorem dd_183_181 : decode prog_13_method_29_code 181 = .ok (.aload_n 0, 1) := by decide +kernel
theorem dd_183_182 : decode prog_13_method_29_code 182 = .ok (.iconst 1, 1) := by decide +kernel
theorem dd_183_183 : decode prog_13_method_29_code 183 = .ok (.iconst 3, 1) := by decide +kernel
theorem dd_183_184 : decode prog_13_method_29_code 184 = .ok (.invokevirtual 185, 3) := by decide +kernel
theorem dd_183_187 : decode prog_13_method_29_code 187 = .ok (.aload_n 0, 1) := by decide +kernel
theorem dd_183_188 : decode prog_13_method_29_code 188 = .ok (.aload_n 0, 1) := by decide +kernel
theorem dd_183_189 : decode prog_13_method_29_code 189 = .ok (.getfield 39, 3) := by decide +kernel
theorem dd_183_192 : decode prog_13_method_29_code 192 = .ok (.iload_n 2, 1) := by decide +kernel
theorem dd_183_193 : decode prog_13_method_29_code 193 = .ok (.iaload, 1) := by decide +kernel
theorem dd_183_194 : decode prog_13_method_29_code 194 = .ok (.invokevirtual 192, 3) := by decide +kernel
theorem dd_183_197 : decode prog_13_method_29_code 197 = .ok (.aload_n 0, 1) := by decide +kernel
theorem dd_183_198 : decode prog_13_method_29_code 198 = .ok (.getfield 17, 3) := by decide +kernel
theorem dd_183_201 : decode prog_13_method_29_code 201 = .ok (.iload_n 1, 1) := by decide +kernel
theorem dd_183_202 : decode prog_13_method_29_code 202 = .ok (.iaload, 1) := by decide +kernel
theorem dd_183_203 : decode prog_13_method_29_code 203 = .ok (.bipush 7, 2) := by decide +kernel
theorem dd_183_205 : decode prog_13_method_29_code 205 = .ok (.if_icmp .ne 19, 3) := by decide +kernel
theorem dd_183_208 : decode prog_13_method_29_code 208 = .ok (.aload_n 0, 1) := by decide +kernel
theorem dd_183_209 : decode prog_13_method_29_code 209 = .ok (.iconst 1, 1) := by decide +kernel
theorem dd_183_210 : decode prog_13_method_29_code 210 = .ok (.bipush 6, 2) := by decide +kernel
theorem dd_183_212 : decode prog_13_method_29_code 212 = .ok (.invokevirtual 185, 3) := by decide +kernel
theorem dd_183_215 : decode prog_13_method_29_code 215 = .ok (.goto 9, 3) := by decide +kernel
theorem dd_183_218 : decode prog_13_method_29_code 218 = .ok (.aload_n 0, 1) := by decide +kernel
theorem dd_183_219 : decode prog_13_method_29_code 219 = .ok (.iload_n 1, 1) := by decide +kernel
theorem dd_183_220 : decode prog_13_method_29_code 220 = .ok (.iload_n 2, 1) := by decide +kernel
theorem dd_183_221 : decode prog_13_method_29_code 221 = .ok (.invokevirtual 198, 3) := by decide +kernel
theorem dd_183_224 : decode prog_13_method_29_code 224 = .ok (.return_, 1) := by decide +kernel
set_option maxRecDepth 100000 in
theorem okI_183 : mj_okI gG "PairMachineModel" prog_13_method_29_code 3 (mj_off oM_183) (Option.none : Option Jvm.ClassFile.FieldType) false true 0 cM_183 :=
  ⟨Or.inl ⟨0, rfl, dd_183_0, rfl⟩,
   ⟨33, "PairMachineModel", fT10, 45, dd_183_1, rfl, okc_10, by decide, tw_783⟩,
   Or.inl ⟨1, rfl, dd_183_4, rfl⟩,
   ⟨dd_183_5, rfl⟩,
   ⟨by decide, Or.inl ⟨2, rfl, dd_183_6, rfl⟩⟩,
   Or.inl ⟨0, rfl, dd_183_7, rfl⟩,
   ⟨17, "PairMachineModel", fT10, 45, dd_183_8, rfl, okc_10, by decide, tw_778⟩,
   Or.inl ⟨1, rfl, dd_183_11, rfl⟩,
   ⟨dd_183_12, rfl⟩,
   Or.inr ⟨205, 0, #[47, 67, 86, 205, 100, 125, 140, 140], 47, dd_183_13, rfl, rfl, (fun j hj => by
    match j, hj with
    | 0, _ => exact ⟨47, 10, rfl, rfl, by decide, rfl⟩
    | 1, _ => exact ⟨67, 22, rfl, rfl, by decide, rfl⟩
    | 2, _ => exact ⟨86, 33, rfl, rfl, by decide, rfl⟩
    | 3, _ => exact ⟨205, 102, rfl, rfl, by decide, rfl⟩
    | 4, _ => exact ⟨100, 41, rfl, rfl, by decide, rfl⟩
    | 5, _ => exact ⟨125, 56, rfl, rfl, by decide, rfl⟩
    | 6, _ => exact ⟨140, 65, rfl, rfl, by decide, rfl⟩
    | 7, _ => exact ⟨140, 65, rfl, rfl, by decide, rfl⟩
    | j + 8, h => exact absurd h (by simp))⟩,
   Or.inl ⟨0, rfl, dd_183_60, rfl⟩,
   Or.inl (Or.inl ⟨dd_183_61, rfl⟩),
   Or.inl (Or.inl ⟨dd_183_62, rfl⟩),
   ⟨rfl, tw_878, by decide, tw_12, by decide +kernel, 181, tw_879, dd_183_63, tw_880, ⟨"PairMachineModel", fT10, 45, rfl, tw_881⟩, by decide +kernel⟩,
   Or.inl ⟨0, rfl, dd_183_66, rfl⟩,
   Or.inl (Or.inl ⟨dd_183_67, rfl⟩),
   Or.inl ⟨0, rfl, dd_183_68, rfl⟩,
   ⟨27, "PairMachineModel", fT10, 45, dd_183_69, rfl, okc_10, by decide, tw_781⟩,
   Or.inl ⟨1, rfl, dd_183_72, rfl⟩,
   ⟨dd_183_73, rfl⟩,
   ⟨rfl, tw_878, by decide, tw_12, by decide +kernel, 181, tw_879, dd_183_74, tw_880, ⟨"PairMachineModel", fT10, 45, rfl, tw_881⟩, by decide +kernel⟩,
   ⟨147, dd_183_77, rfl⟩,
   Or.inl ⟨0, rfl, dd_183_80, rfl⟩,
   Or.inl (Or.inl ⟨dd_183_81, rfl⟩),
   Or.inl (Or.inl ⟨dd_183_82, rfl⟩),
   ⟨rfl, tw_878, by decide, tw_12, by decide +kernel, 181, tw_879, dd_183_83, tw_880, ⟨"PairMachineModel", fT10, 45, rfl, tw_881⟩, by decide +kernel⟩,
   Or.inl ⟨0, rfl, dd_183_86, rfl⟩,
   Or.inl (Or.inl ⟨dd_183_87, rfl⟩),
   Or.inl ⟨0, rfl, dd_183_88, rfl⟩,
   Or.inl ⟨1, rfl, dd_183_89, rfl⟩,
   ⟨rfl, tw_871, by decide, tw_12, by decide +kernel, 169, tw_872, dd_183_90, tw_873, ⟨"PairMachineModel", fT10, 45, rfl, tw_874⟩, by decide +kernel⟩,
   ⟨rfl, tw_878, by decide, tw_12, by decide +kernel, 181, tw_879, dd_183_93, tw_880, ⟨"PairMachineModel", fT10, 45, rfl, tw_881⟩, by decide +kernel⟩,
   ⟨128, dd_183_96, rfl⟩,
   Or.inl ⟨0, rfl, dd_183_99, rfl⟩,
   Or.inl (Or.inl ⟨dd_183_100, rfl⟩),
   Or.inl (Or.inl ⟨dd_183_101, rfl⟩),
   ⟨rfl, tw_878, by decide, tw_12, by decide +kernel, 181, tw_879, dd_183_102, tw_880, ⟨"PairMachineModel", fT10, 45, rfl, tw_881⟩, by decide +kernel⟩,
   Or.inl ⟨0, rfl, dd_183_105, rfl⟩,
   Or.inl ⟨1, rfl, dd_183_106, rfl⟩,
   ⟨rfl, tw_886, by decide, tw_12, by decide +kernel, 188, tw_887, dd_183_107, tw_888, ⟨"PairMachineModel", fT10, 45, rfl, tw_889⟩, by decide +kernel⟩,
   ⟨114, dd_183_110, rfl⟩,
   Or.inl ⟨0, rfl, dd_183_113, rfl⟩,
   Or.inl (Or.inl ⟨dd_183_114, rfl⟩),
   Or.inl (Or.inl ⟨dd_183_115, rfl⟩),
   ⟨rfl, tw_882, by decide, tw_12, by decide +kernel, 185, tw_883, dd_183_116, tw_884, ⟨"PairMachineModel", fT10, 45, rfl, tw_885⟩, by decide +kernel⟩,
   Or.inl ⟨0, rfl, dd_183_119, rfl⟩,
   Or.inl (Or.inl ⟨dd_183_120, rfl⟩),
   Or.inl ⟨2, rfl, dd_183_121, rfl⟩,
   ⟨rfl, tw_882, by decide, tw_12, by decide +kernel, 185, tw_883, dd_183_122, tw_884, ⟨"PairMachineModel", fT10, 45, rfl, tw_885⟩, by decide +kernel⟩,
   Or.inl ⟨0, rfl, dd_183_125, rfl⟩,
   Or.inl ⟨0, rfl, dd_183_126, rfl⟩,
   ⟨39, "PairMachineModel", fT10, 45, dd_183_127, rfl, okc_10, by decide, tw_785⟩,
   Or.inl ⟨2, rfl, dd_183_130, rfl⟩,
   ⟨dd_183_131, rfl⟩,
   ⟨rfl, tw_890, by decide, tw_12, by decide +kernel, 192, tw_891, dd_183_132, tw_892, ⟨"PairMachineModel", fT10, 45, rfl, tw_893⟩, by decide +kernel⟩,
   ⟨89, dd_183_135, rfl⟩,
   Or.inl ⟨0, rfl, dd_183_138, rfl⟩,
   Or.inl ⟨2, rfl, dd_183_139, rfl⟩,
   Or.inl (Or.inl ⟨dd_183_140, rfl⟩),
   ⟨rfl, tw_894, by decide, tw_12, by decide +kernel, 195, tw_895, dd_183_141, tw_896, ⟨"PairMachineModel", fT10, 45, rfl, tw_897⟩, by decide +kernel⟩,
   Or.inl ⟨0, rfl, dd_183_144, rfl⟩,
   Or.inl (Or.inl ⟨dd_183_145, rfl⟩),
   Or.inl (Or.inl ⟨dd_183_146, rfl⟩),
   ⟨rfl, tw_882, by decide, tw_12, by decide +kernel, 185, tw_883, dd_183_147, tw_884, ⟨"PairMachineModel", fT10, 45, rfl, tw_885⟩, by decide +kernel⟩,
   ⟨74, dd_183_150, rfl⟩,
   Or.inl ⟨0, rfl, dd_183_153, rfl⟩,
   Or.inl (Or.inl ⟨dd_183_154, rfl⟩),
   Or.inl ⟨0, rfl, dd_183_155, rfl⟩,
   ⟨17, "PairMachineModel", fT10, 45, dd_183_156, rfl, okc_10, by decide, tw_778⟩,
   Or.inl ⟨1, rfl, dd_183_159, rfl⟩,
   ⟨dd_183_160, rfl⟩,
   Or.inl (Or.inr (Or.inl ⟨dd_183_161, rfl, by decide⟩)),
   ⟨7, dd_183_163, rfl, rfl⟩,
   Or.inl (Or.inl ⟨dd_183_166, rfl⟩),
   ⟨5, dd_183_167, rfl⟩,
   Or.inl (Or.inr (Or.inl ⟨dd_183_170, rfl, by decide⟩)),
   ⟨rfl, tw_882, by decide, tw_12, by decide +kernel, 185, tw_883, dd_183_172, tw_884, ⟨"PairMachineModel", fT10, 45, rfl, tw_885⟩, by decide +kernel⟩,
   Or.inl ⟨0, rfl, dd_183_175, rfl⟩,
   Or.inl ⟨2, rfl, dd_183_176, rfl⟩,
   Or.inl (Or.inl ⟨dd_183_177, rfl⟩),
   ⟨rfl, tw_894, by decide, tw_12, by decide +kernel, 195, tw_895, dd_183_178, tw_896, ⟨"PairMachineModel", fT10, 45, rfl, tw_897⟩, by decide +kernel⟩,
   Or.inl ⟨0, rfl, dd_183_181, rfl⟩,
   Or.inl (Or.inl ⟨dd_183_182, rfl⟩),
   Or.inl (Or.inl ⟨dd_183_183, rfl⟩),
   ⟨rfl, tw_882, by decide, tw_12, by decide +kernel, 185, tw_883, dd_183_184, tw_884, ⟨"PairMachineModel", fT10, 45, rfl, tw_885⟩, by decide +kernel⟩,
   Or.inl ⟨0, rfl, dd_183_187, rfl⟩,
   Or.inl ⟨0, rfl, dd_183_188, rfl⟩,
   ⟨39, "PairMachineModel", fT10, 45, dd_183_189, rfl, okc_10, by decide, tw_785⟩,
   Or.inl ⟨2, rfl, dd_183_192, rfl⟩,
   ⟨dd_183_193, rfl⟩,
   ⟨rfl, tw_890, by decide, tw_12, by decide +kernel, 192, tw_891, dd_183_194, tw_892, ⟨"PairMachineModel", fT10, 45, rfl, tw_893⟩, by decide +kernel⟩,
   Or.inl ⟨0, rfl, dd_183_197, rfl⟩,
   ⟨17, "PairMachineModel", fT10, 45, dd_183_198, rfl, okc_10, by decide, tw_778⟩,
   Or.inl ⟨1, rfl, dd_183_201, rfl⟩,
   ⟨dd_183_202, rfl⟩,
   Or.inl (Or.inr (Or.inl ⟨dd_183_203, rfl, by decide⟩)),
   ⟨19, dd_183_205, rfl, rfl⟩,
   Or.inl ⟨0, rfl, dd_183_208, rfl⟩,
   Or.inl (Or.inl ⟨dd_183_209, rfl⟩),
   Or.inl (Or.inr (Or.inl ⟨dd_183_210, rfl, by decide⟩)),
   ⟨rfl, tw_882, by decide, tw_12, by decide +kernel, 185, tw_883, dd_183_212, tw_884, ⟨"PairMachineModel", fT10, 45, rfl, tw_885⟩, by decide +kernel⟩,
   ⟨9, dd_183_215, rfl⟩,
   Or.inl ⟨0, rfl, dd_183_218, rfl⟩,
   Or.inl ⟨1, rfl, dd_183_219, rfl⟩,
   Or.inl ⟨2, rfl, dd_183_220, rfl⟩,
   ⟨rfl, tw_898, by decide, tw_12, by decide +kernel, 198, tw_899, dd_183_221, tw_900, ⟨"PairMachineModel", fT10, 45, rfl, tw_901⟩, by decide +kernel⟩,
   ⟨dd_183_224, rfl⟩, trivial⟩
theorem okM_183 : mj_okE gG 183 (cM_183, 3, oM_183, hM_183) := ⟨rfl, rfl, by decide +kernel, trivial, okI_183⟩
theorem dd_184_0 : decode prog_13_method_30_code 0 = .ok (.aload_n 0, 1) := by decide +kernel
theorem dd_184_1 : decode prog_13_method_30_code 1 = .ok (.getfield 39, 3) := by decide +kernel
theorem dd_184_4 : decode prog_13_method_30_code 4 = .ok (.iload_n 2, 1) := by decide +kernel
theorem dd_184_5 : decode prog_13_method_30_code 5 = .ok (.iaload, 1) := by decide +kernel
theorem dd_184_6 : decode prog_13_method_30_code 6 = .ok (.istore_n 3, 1) := by decide +kernel
theorem dd_184_7 : decode prog_13_method_30_code 7 = .ok (.aload_n 0, 1) := by decide +kernel
theorem dd_184_8 : decode prog_13_method_30_code 8 = .ok (.getfield 27, 3) := by decide +kernel
theorem dd_184_11 : decode prog_13_method_30_code 11 = .ok (.iload_n 1, 1) := by decide +kernel
theorem dd_184_12 : decode prog_13_method_30_code 12 = .ok (.iaload, 1) := by decide +kernel
theorem dd_184_13 : decode prog_13_method_30_code 13 = .ok (.bipush 63, 2) := by decide +kernel
theorem dd_184_15 : decode prog_13_method_30_code 15 = .ok (.if_icmp .ne 36, 3) := by decide +kernel
theorem dd_184_18 : decode prog_13_method_30_code 18 = .ok (.aload_n 0, 1) := by decide +kernel
theorem dd_184_19 : decode prog_13_method_30_code 19 = .ok (.aload_n 0, 1) := by decide +kernel
theorem dd_184_20 : decode prog_13_method_30_code 20 = .ok (.getfield 39, 3) := by decide +kernel
theorem dd_184_23 : decode prog_13_method_30_code 23 = .ok (.iload_n 3, 1) := by decide +kernel
theorem dd_184_24 : decode prog_13_method_30_code 24 = .ok (.iaload, 1) := by decide +kernel
theorem dd_184_25 : decode prog_13_method_30_code 25 = .ok (.bipush 9, 2) := by decide +kernel
theorem dd_184_27 : decode prog_13_method_30_code 27 = .ok (.invokevirtual 195, 3) := by decide +kernel
theorem dd_184_30 : decode prog_13_method_30_code 30 = .ok (.aload_n 0, 1) := by decide +kernel
theorem dd_184_31 : decode prog_13_method_30_code 31 = .ok (.iload_n 3, 1) := by decide +kernel
theorem dd_184_32 : decode prog_13_method_30_code 32 = .ok (.bipush 9, 2) := by decide +kernel
theorem dd_184_34 : decode prog_13_method_30_code 34 = .ok (.invokevirtual 195, 3) := by decide +kernel
theorem dd_184_37 : decode prog_13_method_30_code 37 = .ok (.aload_n 0, 1) := by decide +kernel
theorem dd_184_38 : decode prog_13_method_30_code 38 = .ok (.iconst 1, 1) := by decide +kernel
theorem dd_184_39 : decode prog_13_method_30_code 39 = .ok (.bipush 8, 2) := by decide +kernel
theorem dd_184_41 : decode prog_13_method_30_code 41 = .ok (.invokevirtual 185, 3) := by decide +kernel
theorem dd_184_44 : decode prog_13_method_30_code 44 = .ok (.aload_n 0, 1) := by decide +kernel
theorem dd_184_45 : decode prog_13_method_30_code 45 = .ok (.iconst (-1), 1) := by decide +kernel
theorem dd_184_46 : decode prog_13_method_30_code 46 = .ok (.iload_n 2, 1) := by decide +kernel
theorem dd_184_47 : decode prog_13_method_30_code 47 = .ok (.invokevirtual 185, 3) := by decide +kernel
theorem dd_184_50 : decode prog_13_method_30_code 50 = .ok (.return_, 1) := by decide +kernel
theorem dd_184_51 : decode prog_13_method_30_code 51 = .ok (.aload_n 0, 1) := by decide +kernel
theorem dd_184_52 : decode prog_13_method_30_code 52 = .ok (.iconst 1, 1) := by decide +kernel
theorem dd_184_53 : decode prog_13_method_30_code 53 = .ok (.aload_n 0, 1) := by decide +kernel
theorem dd_184_54 : decode prog_13_method_30_code 54 = .ok (.getfield 27, 3) := by decide +kernel
theorem dd_184_57 : decode prog_13_method_30_code 57 = .ok (.iload_n 1, 1) := by decide +kernel
theorem dd_184_58 : decode prog_13_method_30_code 58 = .ok (.iaload, 1) := by decide +kernel
theorem dd_184_59 : decode prog_13_method_30_code 59 = .ok (.invokestatic 201, 3) := by decide +kernel
theorem dd_184_62 : decode prog_13_method_30_code 62 = .ok (.invokevirtual 185, 3) := by decide +kernel
theorem dd_184_65 : decode prog_13_method_30_code 65 = .ok (.aload_n 0, 1) := by decide +kernel
theorem dd_184_66 : decode prog_13_method_30_code 66 = .ok (.getfield 27, 3) := by decide +kernel
theorem dd_184_69 : decode prog_13_method_30_code 69 = .ok (.iload_n 1, 1) := by decide +kernel
theorem dd_184_70 : decode prog_13_method_30_code 70 = .ok (.iaload, 1) := by decide +kernel
theorem dd_184_71 : decode prog_13_method_30_code 71 = .ok (.bipush 46, 2) := by decide +kernel
theorem dd_184_73 : decode prog_13_method_30_code 73 = .ok (.if_icmp .ne 18, 3) := by decide +kernel
theorem dd_184_76 : decode prog_13_method_30_code 76 = .ok (.aload_n 0, 1) := by decide +kernel
theorem dd_184_77 : decode prog_13_method_30_code 77 = .ok (.iconst (-1), 1) := by decide +kernel
theorem dd_184_78 : decode prog_13_method_30_code 78 = .ok (.iload_n 2, 1) := by decide +kernel
theorem dd_184_79 : decode prog_13_method_30_code 79 = .ok (.invokevirtual 185, 3) := by decide +kernel
theorem dd_184_82 : decode prog_13_method_30_code 82 = .ok (.aload_n 0, 1) := by decide +kernel
theorem dd_184_83 : decode prog_13_method_30_code 83 = .ok (.iconst (-1), 1) := by decide +kernel
theorem dd_184_84 : decode prog_13_method_30_code 84 = .ok (.iload_n 3, 1) := by decide +kernel
theorem dd_184_85 : decode prog_13_method_30_code 85 = .ok (.invokevirtual 185, 3) := by decide +kernel
theorem dd_184_88 : decode prog_13_method_30_code 88 = .ok (.goto 19, 3) := by decide +kernel
theorem dd_184_91 : decode prog_13_method_30_code 91 = .ok (.iload_n 3, 1) := by decide +kernel
theorem dd_184_92 : decode prog_13_method_30_code 92 = .ok (.ifCond .lt 9, 3) := by decide +kernel
theorem dd_184_95 : decode prog_13_method_30_code 95 = .ok (.aload_n 0, 1) := by decide +kernel
theorem dd_184_96 : decode prog_13_method_30_code 96 = .ok (.iconst (-1), 1) := by decide +kernel
theorem dd_184_97 : decode prog_13_method_30_code 97 = .ok (.iload_n 3, 1) := by decide +kernel
theorem dd_184_98 : decode prog_13_method_30_code 98 = .ok (.invokevirtual 185, 3) := by decide +kernel
theorem dd_184_101 : decode prog_13_method_30_code 101 = .ok (.aload_n 0, 1) := by decide +kernel
theorem dd_184_102 : decode prog_13_method_30_code 102 = .ok (.iconst (-1), 1) := by decide +kernel
theorem dd_184_103 : decode prog_13_method_30_code 103 = .ok (.iload_n 2, 1) := by decide +kernel
theorem dd_184_104 : decode prog_13_method_30_code 104 = .ok (.invokevirtual 185, 3) := by decide +kernel
theorem dd_184_107 : decode prog_13_method_30_code 107 = .ok (.return_, 1) := by decide +kernel
set_option maxRecDepth 100000 in
theorem okI_184 : mj_okI gG "PairMachineModel" prog_13_method_30_code 4 (mj_off oM_184) (Option.none : Option Jvm.ClassFile.FieldType) false true 0 cM_184 :=
  ⟨Or.inl ⟨0, rfl, dd_184_0, rfl⟩,
   ⟨39, "PairMachineModel", fT10, 45, dd_184_1, rfl, okc_10, by decide, tw_785⟩,
   Or.inl ⟨2, rfl, dd_184_4, rfl⟩,
   ⟨dd_184_5, rfl⟩,
   ⟨by decide, Or.inl ⟨3, rfl, dd_184_6, rfl⟩⟩,
   Or.inl ⟨0, rfl, dd_184_7, rfl⟩,
   ⟨27, "PairMachineModel", fT10, 45, dd_184_8, rfl, okc_10, by decide, tw_781⟩,
   Or.inl ⟨1, rfl, dd_184_11, rfl⟩,
   ⟨dd_184_12, rfl⟩,
   Or.inl (Or.inr (Or.inl ⟨dd_184_13, rfl, by decide⟩)),
   ⟨36, dd_184_15, rfl, rfl⟩,
   Or.inl ⟨0, rfl, dd_184_18, rfl⟩,
   Or.inl ⟨0, rfl, dd_184_19, rfl⟩,
   ⟨39, "PairMachineModel", fT10, 45, dd_184_20, rfl, okc_10, by decide, tw_785⟩,
   Or.inl ⟨3, rfl, dd_184_23, rfl⟩,
   ⟨dd_184_24, rfl⟩,
   Or.inl (Or.inr (Or.inl ⟨dd_184_25, rfl, by decide⟩)),
   ⟨rfl, tw_894, by decide, tw_12, by decide +kernel, 195, tw_895, dd_184_27, tw_896, ⟨"PairMachineModel", fT10, 45, rfl, tw_897⟩, by decide +kernel⟩,
   Or.inl ⟨0, rfl, dd_184_30, rfl⟩,
   Or.inl ⟨3, rfl, dd_184_31, rfl⟩,
   Or.inl (Or.inr (Or.inl ⟨dd_184_32, rfl, by decide⟩)),
   ⟨rfl, tw_894, by decide, tw_12, by decide +kernel, 195, tw_895, dd_184_34, tw_896, ⟨"PairMachineModel", fT10, 45, rfl, tw_897⟩, by decide +kernel⟩,
   Or.inl ⟨0, rfl, dd_184_37, rfl⟩,
   Or.inl (Or.inl ⟨dd_184_38, rfl⟩),
   Or.inl (Or.inr (Or.inl ⟨dd_184_39, rfl, by decide⟩)),
   ⟨rfl, tw_882, by decide, tw_12, by decide +kernel, 185, tw_883, dd_184_41, tw_884, ⟨"PairMachineModel", fT10, 45, rfl, tw_885⟩, by decide +kernel⟩,
   Or.inl ⟨0, rfl, dd_184_44, rfl⟩,
   Or.inl (Or.inl ⟨dd_184_45, rfl⟩),
   Or.inl ⟨2, rfl, dd_184_46, rfl⟩,
   ⟨rfl, tw_882, by decide, tw_12, by decide +kernel, 185, tw_883, dd_184_47, tw_884, ⟨"PairMachineModel", fT10, 45, rfl, tw_885⟩, by decide +kernel⟩,
   ⟨dd_184_50, rfl⟩,
   Or.inl ⟨0, rfl, dd_184_51, rfl⟩,
   Or.inl (Or.inl ⟨dd_184_52, rfl⟩),
   Or.inl ⟨0, rfl, dd_184_53, rfl⟩,
   ⟨27, "PairMachineModel", fT10, 45, dd_184_54, rfl, okc_10, by decide, tw_781⟩,
   Or.inl ⟨1, rfl, dd_184_57, rfl⟩,
   ⟨dd_184_58, rfl⟩,
   ⟨rfl, tw_902, by decide, tw_12, by decide +kernel, 201, tw_903, dd_184_59, tw_904, by decide +kernel⟩,
   ⟨rfl, tw_882, by decide, tw_12, by decide +kernel, 185, tw_883, dd_184_62, tw_884, ⟨"PairMachineModel", fT10, 45, rfl, tw_885⟩, by decide +kernel⟩,
   Or.inl ⟨0, rfl, dd_184_65, rfl⟩,
   ⟨27, "PairMachineModel", fT10, 45, dd_184_66, rfl, okc_10, by decide, tw_781⟩,
   Or.inl ⟨1, rfl, dd_184_69, rfl⟩,
   ⟨dd_184_70, rfl⟩,
   Or.inl (Or.inr (Or.inl ⟨dd_184_71, rfl, by decide⟩)),
   ⟨18, dd_184_73, rfl, rfl⟩,
   Or.inl ⟨0, rfl, dd_184_76, rfl⟩,
   Or.inl (Or.inl ⟨dd_184_77, rfl⟩),
   Or.inl ⟨2, rfl, dd_184_78, rfl⟩,
   ⟨rfl, tw_882, by decide, tw_12, by decide +kernel, 185, tw_883, dd_184_79, tw_884, ⟨"PairMachineModel", fT10, 45, rfl, tw_885⟩, by decide +kernel⟩,
   Or.inl ⟨0, rfl, dd_184_82, rfl⟩,
   Or.inl (Or.inl ⟨dd_184_83, rfl⟩),
   Or.inl ⟨3, rfl, dd_184_84, rfl⟩,
   ⟨rfl, tw_882, by decide, tw_12, by decide +kernel, 185, tw_883, dd_184_85, tw_884, ⟨"PairMachineModel", fT10, 45, rfl, tw_885⟩, by decide +kernel⟩,
   ⟨19, dd_184_88, rfl⟩,
   Or.inl ⟨3, rfl, dd_184_91, rfl⟩,
   ⟨9, dd_184_92, rfl, rfl⟩,
   Or.inl ⟨0, rfl, dd_184_95, rfl⟩,
   Or.inl (Or.inl ⟨dd_184_96, rfl⟩),
   Or.inl ⟨3, rfl, dd_184_97, rfl⟩,
   ⟨rfl, tw_882, by decide, tw_12, by decide +kernel, 185, tw_883, dd_184_98, tw_884, ⟨"PairMachineModel", fT10, 45, rfl, tw_885⟩, by decide +kernel⟩,
   Or.inl ⟨0, rfl, dd_184_101, rfl⟩,
   Or.inl (Or.inl ⟨dd_184_102, rfl⟩),
   Or.inl ⟨2, rfl, dd_184_103, rfl⟩,
   ⟨rfl, tw_882, by decide, tw_12, by decide +kernel, 185, tw_883, dd_184_104, tw_884, ⟨"PairMachineModel", fT10, 45, rfl, tw_885⟩, by decide +kernel⟩,
   ⟨dd_184_107, rfl⟩, trivial⟩
theorem okM_184 : mj_okE gG 184 (cM_184, 4, oM_184, hM_184) := ⟨rfl, rfl, by decide +kernel, trivial, okI_184⟩
theorem dd_185_0 : decode prog_13_method_31_code 0 = .ok (.aload_n 0, 1) := by decide +kernel
theorem dd_185_1 : decode prog_13_method_31_code 1 = .ok (.iconst 0, 1) := by decide +kernel
theorem dd_185_2 : decode prog_13_method_31_code 2 = .ok (.putfield 172, 3) := by decide +kernel
theorem dd_185_5 : decode prog_13_method_31_code 5 = .ok (.aload_n 0, 1) := by decide +kernel
theorem dd_185_6 : decode prog_13_method_31_code 6 = .ok (.iconst 0, 1) := by decide +kernel
theorem dd_185_7 : decode prog_13_method_31_code 7 = .ok (.putfield 175, 3) := by decide +kernel
theorem dd_185_10 : decode prog_13_method_31_code 10 = .ok (.aload_n 0, 1) := by decide +kernel
theorem dd_185_11 : decode prog_13_method_31_code 11 = .ok (.iconst 0, 1) := by decide +kernel
theorem dd_185_12 : decode prog_13_method_31_code 12 = .ok (.putfield 178, 3) := by decide +kernel
theorem dd_185_15 : decode prog_13_method_31_code 15 = .ok (.aload_n 0, 1) := by decide +kernel
theorem dd_185_16 : decode prog_13_method_31_code 16 = .ok (.iconst 1, 1) := by decide +kernel
theorem dd_185_17 : decode prog_13_method_31_code 17 = .ok (.bipush 19, 2) := by decide +kernel
theorem dd_185_19 : decode prog_13_method_31_code 19 = .ok (.invokevirtual 185, 3) := by decide +kernel
theorem dd_185_22 : decode prog_13_method_31_code 22 = .ok (.aload_n 0, 1) := by decide +kernel
theorem dd_185_23 : decode prog_13_method_31_code 23 = .ok (.iconst (-1), 1) := by decide +kernel
theorem dd_185_24 : decode prog_13_method_31_code 24 = .ok (.iconst 0, 1) := by decide +kernel
theorem dd_185_25 : decode prog_13_method_31_code 25 = .ok (.invokevirtual 185, 3) := by decide +kernel
theorem dd_185_28 : decode prog_13_method_31_code 28 = .ok (.aload_n 0, 1) := by decide +kernel
theorem dd_185_29 : decode prog_13_method_31_code 29 = .ok (.getfield 178, 3) := by decide +kernel
theorem dd_185_32 : decode prog_13_method_31_code 32 = .ok (.ifCond .le 66, 3) := by decide +kernel
theorem dd_185_35 : decode prog_13_method_31_code 35 = .ok (.aload_n 0, 1) := by decide +kernel
theorem dd_185_36 : decode prog_13_method_31_code 36 = .ok (.dup, 1) := by decide +kernel
theorem dd_185_37 : decode prog_13_method_31_code 37 = .ok (.getfield 178, 3) := by decide +kernel
theorem dd_185_40 : decode prog_13_method_31_code 40 = .ok (.iconst 1, 1) := by decide +kernel
theorem dd_185_41 : decode prog_13_method_31_code 41 = .ok (.isub, 1) := by decide +kernel
theorem dd_185_42 : decode prog_13_method_31_code 42 = .ok (.putfield 178, 3) := by decide +kernel
theorem dd_185_45 : decode prog_13_method_31_code 45 = .ok (.aload_n 0, 1) := by decide +kernel
theorem dd_185_46 : decode prog_13_method_31_code 46 = .ok (.getfield 57, 3) := by decide +kernel
theorem dd_185_49 : decode prog_13_method_31_code 49 = .ok (.aload_n 0, 1) := by decide +kernel
theorem dd_185_50 : decode prog_13_method_31_code 50 = .ok (.getfield 178, 3) := by decide +kernel
theorem dd_185_53 : decode prog_13_method_31_code 53 = .ok (.iaload, 1) := by decide +kernel
theorem dd_185_54 : decode prog_13_method_31_code 54 = .ok (.ifCond .ge 19, 3) := by decide +kernel
theorem dd_185_57 : decode prog_13_method_31_code 57 = .ok (.aload_n 0, 1) := by decide +kernel
theorem dd_185_58 : decode prog_13_method_31_code 58 = .ok (.aload_n 0, 1) := by decide +kernel
theorem dd_185_59 : decode prog_13_method_31_code 59 = .ok (.getfield 60, 3) := by decide +kernel
theorem dd_185_62 : decode prog_13_method_31_code 62 = .ok (.aload_n 0, 1) := by decide +kernel
theorem dd_185_63 : decode prog_13_method_31_code 63 = .ok (.getfield 178, 3) := by decide +kernel
theorem dd_185_66 : decode prog_13_method_31_code 66 = .ok (.iaload, 1) := by decide +kernel
theorem dd_185_67 : decode prog_13_method_31_code 67 = .ok (.invokevirtual 204, 3) := by decide +kernel
theorem dd_185_70 : decode prog_13_method_31_code 70 = .ok (.goto (-42), 3) := by decide +kernel
theorem dd_185_73 : decode prog_13_method_31_code 73 = .ok (.aload_n 0, 1) := by decide +kernel
theorem dd_185_74 : decode prog_13_method_31_code 74 = .ok (.aload_n 0, 1) := by decide +kernel
theorem dd_185_75 : decode prog_13_method_31_code 75 = .ok (.getfield 57, 3) := by decide +kernel
theorem dd_185_78 : decode prog_13_method_31_code 78 = .ok (.aload_n 0, 1) := by decide +kernel
theorem dd_185_79 : decode prog_13_method_31_code 79 = .ok (.getfield 178, 3) := by decide +kernel
theorem dd_185_82 : decode prog_13_method_31_code 82 = .ok (.iaload, 1) := by decide +kernel
theorem dd_185_83 : decode prog_13_method_31_code 83 = .ok (.aload_n 0, 1) := by decide +kernel
theorem dd_185_84 : decode prog_13_method_31_code 84 = .ok (.getfield 60, 3) := by decide +kernel
theorem dd_185_87 : decode prog_13_method_31_code 87 = .ok (.aload_n 0, 1) := by decide +kernel
theorem dd_185_88 : decode prog_13_method_31_code 88 = .ok (.getfield 178, 3) := by decide +kernel
theorem dd_185_91 : decode prog_13_method_31_code 91 = .ok (.iaload, 1) := by decide +kernel
theorem dd_185_92 : decode prog_13_method_31_code 92 = .ok (.invokevirtual 181, 3) := by decide +kernel
theorem dd_185_95 : decode prog_13_method_31_code 95 = .ok (.goto (-67), 3) := by decide +kernel
theorem dd_185_98 : decode prog_13_method_31_code 98 = .ok (.return_, 1) := by decide +kernel
set_option maxRecDepth 100000 in
theorem okI_185 : mj_okI gG "PairMachineModel" prog_13_method_31_code 1 (mj_off oM_185) (Option.none : Option Jvm.ClassFile.FieldType) false true 0 cM_185 :=
  ⟨Or.inl ⟨0, rfl, dd_185_0, rfl⟩,
   Or.inl (Or.inl ⟨dd_185_1, rfl⟩),
   ⟨172, "PairMachineModel", fT10, 45, dd_185_2, rfl, okc_10, by decide, tw_875, rfl, Or.inl rfl⟩,
   Or.inl ⟨0, rfl, dd_185_5, rfl⟩,
   Or.inl (Or.inl ⟨dd_185_6, rfl⟩),
   ⟨175, "PairMachineModel", fT10, 45, dd_185_7, rfl, okc_10, by decide, tw_876, rfl, Or.inl rfl⟩,
   Or.inl ⟨0, rfl, dd_185_10, rfl⟩,
   Or.inl (Or.inl ⟨dd_185_11, rfl⟩),
   ⟨178, "PairMachineModel", fT10, 45, dd_185_12, rfl, okc_10, by decide, tw_877, rfl, Or.inl rfl⟩,
   Or.inl ⟨0, rfl, dd_185_15, rfl⟩,
   Or.inl (Or.inl ⟨dd_185_16, rfl⟩),
   Or.inl (Or.inr (Or.inl ⟨dd_185_17, rfl, by decide⟩)),
   ⟨rfl, tw_882, by decide, tw_12, by decide +kernel, 185, tw_883, dd_185_19, tw_884, ⟨"PairMachineModel", fT10, 45, rfl, tw_885⟩, by decide +kernel⟩,
   Or.inl ⟨0, rfl, dd_185_22, rfl⟩,
   Or.inl (Or.inl ⟨dd_185_23, rfl⟩),
   Or.inl (Or.inl ⟨dd_185_24, rfl⟩),
   ⟨rfl, tw_882, by decide, tw_12, by decide +kernel, 185, tw_883, dd_185_25, tw_884, ⟨"PairMachineModel", fT10, 45, rfl, tw_885⟩, by decide +kernel⟩,
   Or.inl ⟨0, rfl, dd_185_28, rfl⟩,
   ⟨178, "PairMachineModel", fT10, 45, dd_185_29, rfl, okc_10, by decide, tw_877⟩,
   ⟨66, dd_185_32, rfl, rfl⟩,
   Or.inl ⟨0, rfl, dd_185_35, rfl⟩,
   ⟨dd_185_36, rfl⟩,
   ⟨178, "PairMachineModel", fT10, 45, dd_185_37, rfl, okc_10, by decide, tw_877⟩,
   Or.inl (Or.inl ⟨dd_185_40, rfl⟩),
   ⟨dd_185_41, rfl⟩,
   ⟨178, "PairMachineModel", fT10, 45, dd_185_42, rfl, okc_10, by decide, tw_877, rfl, Or.inl rfl⟩,
   Or.inl ⟨0, rfl, dd_185_45, rfl⟩,
   ⟨57, "PairMachineModel", fT10, 45, dd_185_46, rfl, okc_10, by decide, tw_791⟩,
   Or.inl ⟨0, rfl, dd_185_49, rfl⟩,
   ⟨178, "PairMachineModel", fT10, 45, dd_185_50, rfl, okc_10, by decide, tw_877⟩,
   ⟨dd_185_53, rfl⟩,
   ⟨19, dd_185_54, rfl, rfl⟩,
   Or.inl ⟨0, rfl, dd_185_57, rfl⟩,
   Or.inl ⟨0, rfl, dd_185_58, rfl⟩,
   ⟨60, "PairMachineModel", fT10, 45, dd_185_59, rfl, okc_10, by decide, tw_792⟩,
   Or.inl ⟨0, rfl, dd_185_62, rfl⟩,
   ⟨178, "PairMachineModel", fT10, 45, dd_185_63, rfl, okc_10, by decide, tw_877⟩,
   ⟨dd_185_66, rfl⟩,
   ⟨rfl, tw_905, by decide, tw_12, by decide +kernel, 204, tw_906, dd_185_67, tw_907, ⟨"PairMachineModel", fT10, 45, rfl, tw_908⟩, by decide +kernel⟩,
   ⟨(-42), dd_185_70, rfl⟩,
   Or.inl ⟨0, rfl, dd_185_73, rfl⟩,
   Or.inl ⟨0, rfl, dd_185_74, rfl⟩,
   ⟨57, "PairMachineModel", fT10, 45, dd_185_75, rfl, okc_10, by decide, tw_791⟩,
   Or.inl ⟨0, rfl, dd_185_78, rfl⟩,
   ⟨178, "PairMachineModel", fT10, 45, dd_185_79, rfl, okc_10, by decide, tw_877⟩,
   ⟨dd_185_82, rfl⟩,
   Or.inl ⟨0, rfl, dd_185_83, rfl⟩,
   ⟨60, "PairMachineModel", fT10, 45, dd_185_84, rfl, okc_10, by decide, tw_792⟩,
   Or.inl ⟨0, rfl, dd_185_87, rfl⟩,
   ⟨178, "PairMachineModel", fT10, 45, dd_185_88, rfl, okc_10, by decide, tw_877⟩,
   ⟨dd_185_91, rfl⟩,
   ⟨rfl, tw_878, by decide, tw_12, by decide +kernel, 181, tw_879, dd_185_92, tw_880, ⟨"PairMachineModel", fT10, 45, rfl, tw_881⟩, by decide +kernel⟩,
   ⟨(-67), dd_185_95, rfl⟩,
   ⟨dd_185_98, rfl⟩, trivial⟩
theorem okM_185 : mj_okE gG 185 (cM_185, 1, oM_185, hM_185) := ⟨rfl, rfl, by decide +kernel, trivial, okI_185⟩
theorem dd_186_0 : decode prog_13_method_32_code 0 = .ok (.iconst 0, 1) := by decide +kernel
theorem dd_186_1 : decode prog_13_method_32_code 1 = .ok (.istore_n 1, 1) := by decide +kernel
theorem dd_186_2 : decode prog_13_method_32_code 2 = .ok (.iconst 0, 1) := by decide +kernel
theorem dd_186_3 : decode prog_13_method_32_code 3 = .ok (.istore_n 2, 1) := by decide +kernel
theorem dd_186_4 : decode prog_13_method_32_code 4 = .ok (.iload_n 2, 1) := by decide +kernel
theorem dd_186_5 : decode prog_13_method_32_code 5 = .ok (.aload_n 0, 1) := by decide +kernel
theorem dd_186_6 : decode prog_13_method_32_code 6 = .ok (.getfield 94, 3) := by decide +kernel
theorem dd_186_9 : decode prog_13_method_32_code 9 = .ok (.if_icmp .ge 26, 3) := by decide +kernel
theorem dd_186_12 : decode prog_13_method_32_code 12 = .ok (.aload_n 0, 1) := by decide +kernel
theorem dd_186_13 : decode prog_13_method_32_code 13 = .ok (.getfield 63, 3) := by decide +kernel
theorem dd_186_16 : decode prog_13_method_32_code 16 = .ok (.iload_n 2, 1) := by decide +kernel
theorem dd_186_17 : decode prog_13_method_32_code 17 = .ok (.baload, 1) := by decide +kernel
theorem dd_186_18 : decode prog_13_method_32_code 18 = .ok (.ifCond .eq 7, 3) := by decide +kernel
theorem dd_186_21 : decode prog_13_method_32_code 21 = .ok (.iload_n 1, 1) := by decide +kernel
theorem dd_186_22 : decode prog_13_method_32_code 22 = .ok (.goto 6, 3) := by decide +kernel
theorem dd_186_25 : decode prog_13_method_32_code 25 = .ok (.iload_n 1, 1) := by decide +kernel
theorem dd_186_26 : decode prog_13_method_32_code 26 = .ok (.iconst 1, 1) := by decide +kernel
theorem dd_186_27 : decode prog_13_method_32_code 27 = .ok (.iadd, 1) := by decide +kernel
theorem dd_186_28 : decode prog_13_method_32_code 28 = .ok (.istore_n 1, 1) := by decide +kernel
theorem dd_186_29 : decode prog_13_method_32_code 29 = .ok (.iinc 2 1, 3) := by decide +kernel
theorem dd_186_32 : decode prog_13_method_32_code 32 = .ok (.goto (-28), 3) := by decide +kernel
theorem dd_186_35 : decode prog_13_method_32_code 35 = .ok (.iload_n 1, 1) := by decide +kernel
theorem dd_186_36 : decode prog_13_method_32_code 36 = .ok (.ireturn, 1) := by decide +kernel
set_option maxRecDepth 100000 in
theorem okI_186 : mj_okI gG "PairMachineModel" prog_13_method_32_code 3 (mj_off oM_186) (Option.some Jvm.ClassFile.FieldType.int) false true 0 cM_186 :=
  ⟨Or.inl (Or.inl ⟨dd_186_0, rfl⟩),
   ⟨by decide, Or.inl ⟨1, rfl, dd_186_1, rfl⟩⟩,
   Or.inl (Or.inl ⟨dd_186_2, rfl⟩),
   ⟨by decide, Or.inl ⟨2, rfl, dd_186_3, rfl⟩⟩,
   Or.inl ⟨2, rfl, dd_186_4, rfl⟩,
   Or.inl ⟨0, rfl, dd_186_5, rfl⟩,
   ⟨94, "PairMachineModel", fT10, 45, dd_186_6, rfl, okc_10, by decide, tw_803⟩,
   ⟨26, dd_186_9, rfl, rfl⟩,
   Or.inl ⟨0, rfl, dd_186_12, rfl⟩,
   ⟨63, "PairMachineModel", fT10, 45, dd_186_13, rfl, okc_10, by decide, tw_793⟩,
   Or.inl ⟨2, rfl, dd_186_16, rfl⟩,
   ⟨dd_186_17, rfl⟩,
   ⟨7, dd_186_18, rfl, rfl⟩,
   Or.inl ⟨1, rfl, dd_186_21, rfl⟩,
   ⟨6, dd_186_22, rfl⟩,
   Or.inl ⟨1, rfl, dd_186_25, rfl⟩,
   Or.inl (Or.inl ⟨dd_186_26, rfl⟩),
   ⟨dd_186_27, rfl⟩,
   ⟨by decide, Or.inl ⟨1, rfl, dd_186_28, rfl⟩⟩,
   ⟨by decide, dd_186_29, rfl⟩,
   ⟨(-28), dd_186_32, rfl⟩,
   Or.inl ⟨1, rfl, dd_186_35, rfl⟩,
   ⟨dd_186_36, rfl⟩, trivial⟩
theorem okM_186 : mj_okE gG 186 (cM_186, 3, oM_186, hM_186) := ⟨rfl, rfl, by decide +kernel, trivial, okI_186⟩
theorem dd_187_0 : decode prog_13_method_33_code 0 = .ok (.iconst 0, 1) := by decide +kernel
theorem dd_187_1 : decode prog_13_method_33_code 1 = .ok (.istore 4, 2) := by decide +kernel
theorem dd_187_3 : decode prog_13_method_33_code 3 = .ok (.iload 4, 2) := by decide +kernel
theorem dd_187_5 : decode prog_13_method_33_code 5 = .ok (.aload_n 0, 1) := by decide +kernel
theorem dd_187_6 : decode prog_13_method_33_code 6 = .ok (.getfield 94, 3) := by decide +kernel
theorem dd_187_9 : decode prog_13_method_33_code 9 = .ok (.iconst 1, 1) := by decide +kernel
theorem dd_187_10 : decode prog_13_method_33_code 10 = .ok (.isub, 1) := by decide +kernel
theorem dd_187_11 : decode prog_13_method_33_code 11 = .ok (.if_icmp .ge 19, 3) := by decide +kernel
theorem dd_187_14 : decode prog_13_method_33_code 14 = .ok (.aload_n 0, 1) := by decide +kernel
theorem dd_187_15 : decode prog_13_method_33_code 15 = .ok (.getfield 63, 3) := by decide +kernel
theorem dd_187_18 : decode prog_13_method_33_code 18 = .ok (.iload 4, 2) := by decide +kernel
theorem dd_187_20 : decode prog_13_method_33_code 20 = .ok (.baload, 1) := by decide +kernel
theorem dd_187_21 : decode prog_13_method_33_code 21 = .ok (.ifCond .eq 9, 3) := by decide +kernel
theorem dd_187_24 : decode prog_13_method_33_code 24 = .ok (.iinc 4 1, 3) := by decide +kernel
theorem dd_187_27 : decode prog_13_method_33_code 27 = .ok (.goto (-24), 3) := by decide +kernel
theorem dd_187_30 : decode prog_13_method_33_code 30 = .ok (.aload_n 0, 1) := by decide +kernel
theorem dd_187_31 : decode prog_13_method_33_code 31 = .ok (.getfield 63, 3) := by decide +kernel
theorem dd_187_34 : decode prog_13_method_33_code 34 = .ok (.iload 4, 2) := by decide +kernel
theorem dd_187_36 : decode prog_13_method_33_code 36 = .ok (.iconst 1, 1) := by decide +kernel
theorem dd_187_37 : decode prog_13_method_33_code 37 = .ok (.bastore, 1) := by decide +kernel
theorem dd_187_38 : decode prog_13_method_33_code 38 = .ok (.aload_n 0, 1) := by decide +kernel
theorem dd_187_39 : decode prog_13_method_33_code 39 = .ok (.getfield 67, 3) := by decide +kernel
theorem dd_187_42 : decode prog_13_method_33_code 42 = .ok (.iload 4, 2) := by decide +kernel
theorem dd_187_44 : decode prog_13_method_33_code 44 = .ok (.iconst 0, 1) := by decide +kernel
theorem dd_187_45 : decode prog_13_method_33_code 45 = .ok (.bastore, 1) := by decide +kernel
theorem dd_187_46 : decode prog_13_method_33_code 46 = .ok (.aload_n 0, 1) := by decide +kernel
theorem dd_187_47 : decode prog_13_method_33_code 47 = .ok (.getfield 70, 3) := by decide +kernel
theorem dd_187_50 : decode prog_13_method_33_code 50 = .ok (.iload 4, 2) := by decide +kernel
theorem dd_187_52 : decode prog_13_method_33_code 52 = .ok (.iload_n 1, 1) := by decide +kernel
theorem dd_187_53 : decode prog_13_method_33_code 53 = .ok (.iastore, 1) := by decide +kernel
theorem dd_187_54 : decode prog_13_method_33_code 54 = .ok (.aload_n 0, 1) := by decide +kernel
theorem dd_187_55 : decode prog_13_method_33_code 55 = .ok (.getfield 73, 3) := by decide +kernel
theorem dd_187_58 : decode prog_13_method_33_code 58 = .ok (.iload 4, 2) := by decide +kernel
theorem dd_187_60 : decode prog_13_method_33_code 60 = .ok (.iload_n 2, 1) := by decide +kernel
theorem dd_187_61 : decode prog_13_method_33_code 61 = .ok (.iastore, 1) := by decide +kernel
theorem dd_187_62 : decode prog_13_method_33_code 62 = .ok (.aload_n 0, 1) := by decide +kernel
theorem dd_187_63 : decode prog_13_method_33_code 63 = .ok (.getfield 76, 3) := by decide +kernel
theorem dd_187_66 : decode prog_13_method_33_code 66 = .ok (.iload 4, 2) := by decide +kernel
theorem dd_187_68 : decode prog_13_method_33_code 68 = .ok (.iload_n 3, 1) := by decide +kernel
theorem dd_187_69 : decode prog_13_method_33_code 69 = .ok (.ifCond .ge 7, 3) := by decide +kernel
theorem dd_187_72 : decode prog_13_method_33_code 72 = .ok (.iconst 0, 1) := by decide +kernel
theorem dd_187_73 : decode prog_13_method_33_code 73 = .ok (.goto 4, 3) := by decide +kernel
theorem dd_187_76 : decode prog_13_method_33_code 76 = .ok (.iconst 3, 1) := by decide +kernel
theorem dd_187_77 : decode prog_13_method_33_code 77 = .ok (.iastore, 1) := by decide +kernel
theorem dd_187_78 : decode prog_13_method_33_code 78 = .ok (.aload_n 0, 1) := by decide +kernel
theorem dd_187_79 : decode prog_13_method_33_code 79 = .ok (.getfield 79, 3) := by decide +kernel
theorem dd_187_82 : decode prog_13_method_33_code 82 = .ok (.iload 4, 2) := by decide +kernel
theorem dd_187_84 : decode prog_13_method_33_code 84 = .ok (.iload_n 3, 1) := by decide +kernel
theorem dd_187_85 : decode prog_13_method_33_code 85 = .ok (.ifCond .ge 7, 3) := by decide +kernel
theorem dd_187_88 : decode prog_13_method_33_code 88 = .ok (.iconst 0, 1) := by decide +kernel
theorem dd_187_89 : decode prog_13_method_33_code 89 = .ok (.goto 4, 3) := by decide +kernel
theorem dd_187_92 : decode prog_13_method_33_code 92 = .ok (.iload_n 3, 1) := by decide +kernel
theorem dd_187_93 : decode prog_13_method_33_code 93 = .ok (.iastore, 1) := by decide +kernel
theorem dd_187_94 : decode prog_13_method_33_code 94 = .ok (.iload 4, 2) := by decide +kernel
theorem dd_187_96 : decode prog_13_method_33_code 96 = .ok (.ireturn, 1) := by decide +kernel
set_option maxRecDepth 100000 in
theorem okI_187 : mj_okI gG "PairMachineModel" prog_13_method_33_code 5 (mj_off oM_187) (Option.some Jvm.ClassFile.FieldType.int) false true 0 cM_187 :=
  ⟨Or.inl (Or.inl ⟨dd_187_0, rfl⟩),
   ⟨by decide, Or.inr ⟨dd_187_1, rfl⟩⟩,
   Or.inr ⟨dd_187_3, rfl⟩,
   Or.inl ⟨0, rfl, dd_187_5, rfl⟩,
   ⟨94, "PairMachineModel", fT10, 45, dd_187_6, rfl, okc_10, by decide, tw_803⟩,
   Or.inl (Or.inl ⟨dd_187_9, rfl⟩),
   ⟨dd_187_10, rfl⟩,
   ⟨19, dd_187_11, rfl, rfl⟩,
   Or.inl ⟨0, rfl, dd_187_14, rfl⟩,
   ⟨63, "PairMachineModel", fT10, 45, dd_187_15, rfl, okc_10, by decide, tw_793⟩,
   Or.inr ⟨dd_187_18, rfl⟩,
   ⟨dd_187_20, rfl⟩,
   ⟨9, dd_187_21, rfl, rfl⟩,
   ⟨by decide, dd_187_24, rfl⟩,
   ⟨(-24), dd_187_27, rfl⟩,
   Or.inl ⟨0, rfl, dd_187_30, rfl⟩,
   ⟨63, "PairMachineModel", fT10, 45, dd_187_31, rfl, okc_10, by decide, tw_793⟩,
   Or.inr ⟨dd_187_34, rfl⟩,
   Or.inl (Or.inl ⟨dd_187_36, rfl⟩),
   ⟨dd_187_37, rfl⟩,
   Or.inl ⟨0, rfl, dd_187_38, rfl⟩,
   ⟨67, "PairMachineModel", fT10, 45, dd_187_39, rfl, okc_10, by decide, tw_794⟩,
   Or.inr ⟨dd_187_42, rfl⟩,
   Or.inl (Or.inl ⟨dd_187_44, rfl⟩),
   ⟨dd_187_45, rfl⟩,
   Or.inl ⟨0, rfl, dd_187_46, rfl⟩,
   ⟨70, "PairMachineModel", fT10, 45, dd_187_47, rfl, okc_10, by decide, tw_795⟩,
   Or.inr ⟨dd_187_50, rfl⟩,
   Or.inl ⟨1, rfl, dd_187_52, rfl⟩,
   ⟨dd_187_53, rfl⟩,
   Or.inl ⟨0, rfl, dd_187_54, rfl⟩,
   ⟨73, "PairMachineModel", fT10, 45, dd_187_55, rfl, okc_10, by decide, tw_796⟩,
   Or.inr ⟨dd_187_58, rfl⟩,
   Or.inl ⟨2, rfl, dd_187_60, rfl⟩,
   ⟨dd_187_61, rfl⟩,
   Or.inl ⟨0, rfl, dd_187_62, rfl⟩,
   ⟨76, "PairMachineModel", fT10, 45, dd_187_63, rfl, okc_10, by decide, tw_797⟩,
   Or.inr ⟨dd_187_66, rfl⟩,
   Or.inl ⟨3, rfl, dd_187_68, rfl⟩,
   ⟨7, dd_187_69, rfl, rfl⟩,
   Or.inl (Or.inl ⟨dd_187_72, rfl⟩),
   ⟨4, dd_187_73, rfl⟩,
   Or.inl (Or.inl ⟨dd_187_76, rfl⟩),
   ⟨dd_187_77, rfl⟩,
   Or.inl ⟨0, rfl, dd_187_78, rfl⟩,
   ⟨79, "PairMachineModel", fT10, 45, dd_187_79, rfl, okc_10, by decide, tw_798⟩,
   Or.inr ⟨dd_187_82, rfl⟩,
   Or.inl ⟨3, rfl, dd_187_84, rfl⟩,
   ⟨7, dd_187_85, rfl, rfl⟩,
   Or.inl (Or.inl ⟨dd_187_88, rfl⟩),
   ⟨4, dd_187_89, rfl⟩,
   Or.inl ⟨3, rfl, dd_187_92, rfl⟩,
   ⟨dd_187_93, rfl⟩,
   Or.inr ⟨dd_187_94, rfl⟩,
   ⟨dd_187_96, rfl⟩, trivial⟩
theorem okM_187 : mj_okE gG 187 (cM_187, 5, oM_187, hM_187) := ⟨rfl, rfl, by decide +kernel, trivial, okI_187⟩
