section
theorem dd_166_0 : decode prog_13_method_13_code 0 = .ok (.iconst 0, 1) := by decide +kernel
theorem dd_166_1 : decode prog_13_method_13_code 1 = .ok (.istore_n 1, 1) := by decide +kernel
theorem dd_166_2 : decode prog_13_method_13_code 2 = .ok (.iconst 0, 1) := by decide +kernel
theorem dd_166_3 : decode prog_13_method_13_code 3 = .ok (.istore_n 2, 1) := by decide +kernel
theorem dd_166_4 : decode prog_13_method_13_code 4 = .ok (.iload_n 2, 1) := by decide +kernel
theorem dd_166_5 : decode prog_13_method_13_code 5 = .ok (.bipush 100, 2) := by decide +kernel
theorem dd_166_7 : decode prog_13_method_13_code 7 = .ok (.if_icmp .ge 151, 3) := by decide +kernel
theorem dd_166_10 : decode prog_13_method_13_code 10 = .ok (.iconst 0, 1) := by decide +kernel
theorem dd_166_11 : decode prog_13_method_13_code 11 = .ok (.istore_n 3, 1) := by decide +kernel
theorem dd_166_12 : decode prog_13_method_13_code 12 = .ok (.aload_n 0, 1) := by decide +kernel
theorem dd_166_13 : decode prog_13_method_13_code 13 = .ok (.iconst 0, 1) := by decide +kernel
theorem dd_166_14 : decode prog_13_method_13_code 14 = .ok (.invokevirtual 108, 3) := by decide +kernel
theorem dd_166_17 : decode prog_13_method_13_code 17 = .ok (.bipush 40, 2) := by decide +kernel
theorem dd_166_19 : decode prog_13_method_13_code 19 = .ok (.if_icmp .ne 34, 3) := by decide +kernel
theorem dd_166_22 : decode prog_13_method_13_code 22 = .ok (.aload_n 0, 1) := by decide +kernel
theorem dd_166_23 : decode prog_13_method_13_code 23 = .ok (.invokevirtual 125, 3) := by decide +kernel
theorem dd_166_26 : decode prog_13_method_13_code 26 = .ok (.ifCond .ne 5, 3) := by decide +kernel
theorem dd_166_29 : decode prog_13_method_13_code 29 = .ok (.iconst 0, 1) := by decide +kernel
theorem dd_166_30 : decode prog_13_method_13_code 30 = .ok (.ireturn, 1) := by decide +kernel
theorem dd_166_31 : decode prog_13_method_13_code 31 = .ok (.iinc 1 1, 3) := by decide +kernel
theorem dd_166_34 : decode prog_13_method_13_code 34 = .ok (.aload_n 0, 1) := by decide +kernel
theorem dd_166_35 : decode prog_13_method_13_code 35 = .ok (.iconst 0, 1) := by decide +kernel
theorem dd_166_36 : decode prog_13_method_13_code 36 = .ok (.invokevirtual 108, 3) := by decide +kernel
theorem dd_166_39 : decode prog_13_method_13_code 39 = .ok (.bipush 41, 2) := by decide +kernel
theorem dd_166_41 : decode prog_13_method_13_code 41 = .ok (.if_icmp .ne 7, 3) := by decide +kernel
theorem dd_166_44 : decode prog_13_method_13_code 44 = .ok (.iconst 1, 1) := by decide +kernel
theorem dd_166_45 : decode prog_13_method_13_code 45 = .ok (.goto 4, 3) := by decide +kernel
theorem dd_166_48 : decode prog_13_method_13_code 48 = .ok (.iconst 0, 1) := by decide +kernel
theorem dd_166_49 : decode prog_13_method_13_code 49 = .ok (.istore_n 3, 1) := by decide +kernel
theorem dd_166_50 : decode prog_13_method_13_code 50 = .ok (.goto 40, 3) := by decide +kernel
theorem dd_166_53 : decode prog_13_method_13_code 53 = .ok (.aload_n 0, 1) := by decide +kernel
theorem dd_166_54 : decode prog_13_method_13_code 54 = .ok (.iconst 0, 1) := by decide +kernel
theorem dd_166_55 : decode prog_13_method_13_code 55 = .ok (.invokevirtual 108, 3) := by decide +kernel
theorem dd_166_58 : decode prog_13_method_13_code 58 = .ok (.invokestatic 129, 3) := by decide +kernel
theorem dd_166_61 : decode prog_13_method_13_code 61 = .ok (.ifCond .eq 18, 3) := by decide +kernel
theorem dd_166_64 : decode prog_13_method_13_code 64 = .ok (.aload_n 0, 1) := by decide +kernel
theorem dd_166_65 : decode prog_13_method_13_code 65 = .ok (.dup, 1) := by decide +kernel
theorem dd_166_66 : decode prog_13_method_13_code 66 = .ok (.getfield 105, 3) := by decide +kernel
theorem dd_166_69 : decode prog_13_method_13_code 69 = .ok (.iconst 1, 1) := by decide +kernel
theorem dd_166_70 : decode prog_13_method_13_code 70 = .ok (.iadd, 1) := by decide +kernel
theorem dd_166_71 : decode prog_13_method_13_code 71 = .ok (.putfield 105, 3) := by decide +kernel
theorem dd_166_74 : decode prog_13_method_13_code 74 = .ok (.iconst 1, 1) := by decide +kernel
theorem dd_166_75 : decode prog_13_method_13_code 75 = .ok (.istore_n 3, 1) := by decide +kernel
theorem dd_166_76 : decode prog_13_method_13_code 76 = .ok (.goto 14, 3) := by decide +kernel
theorem dd_166_79 : decode prog_13_method_13_code 79 = .ok (.aload_n 0, 1) := by decide +kernel
theorem dd_166_80 : decode prog_13_method_13_code 80 = .ok (.invokevirtual 132, 3) := by decide +kernel
theorem dd_166_83 : decode prog_13_method_13_code 83 = .ok (.ifCond .ne 5, 3) := by decide +kernel
theorem dd_166_86 : decode prog_13_method_13_code 86 = .ok (.iconst 0, 1) := by decide +kernel
theorem dd_166_87 : decode prog_13_method_13_code 87 = .ok (.ireturn, 1) := by decide +kernel
theorem dd_166_88 : decode prog_13_method_13_code 88 = .ok (.iconst 1, 1) := by decide +kernel
theorem dd_166_89 : decode prog_13_method_13_code 89 = .ok (.istore_n 3, 1) := by decide +kernel
theorem dd_166_90 : decode prog_13_method_13_code 90 = .ok (.iload_n 3, 1) := by decide +kernel
theorem dd_166_91 : decode prog_13_method_13_code 91 = .ok (.ifCond .eq 61, 3) := by decide +kernel
theorem dd_166_94 : decode prog_13_method_13_code 94 = .ok (.iload_n 1, 1) := by decide +kernel
theorem dd_166_95 : decode prog_13_method_13_code 95 = .ok (.ifCond .ne 5, 3) := by decide +kernel
theorem dd_166_98 : decode prog_13_method_13_code 98 = .ok (.iconst 1, 1) := by decide +kernel
theorem dd_166_99 : decode prog_13_method_13_code 99 = .ok (.ireturn, 1) := by decide +kernel
theorem dd_166_100 : decode prog_13_method_13_code 100 = .ok (.aload_n 0, 1) := by decide +kernel
theorem dd_166_101 : decode prog_13_method_13_code 101 = .ok (.iconst 0, 1) := by decide +kernel
theorem dd_166_102 : decode prog_13_method_13_code 102 = .ok (.invokevirtual 108, 3) := by decide +kernel
theorem dd_166_105 : decode prog_13_method_13_code 105 = .ok (.bipush 41, 2) := by decide +kernel
theorem dd_166_107 : decode prog_13_method_13_code 107 = .ok (.if_icmp .ne 29, 3) := by decide +kernel
theorem dd_166_110 : decode prog_13_method_13_code 110 = .ok (.aload_n 0, 1) := by decide +kernel
theorem dd_166_111 : decode prog_13_method_13_code 111 = .ok (.dup, 1) := by decide +kernel
theorem dd_166_112 : decode prog_13_method_13_code 112 = .ok (.getfield 105, 3) := by decide +kernel
theorem dd_166_115 : decode prog_13_method_13_code 115 = .ok (.iconst 1, 1) := by decide +kernel
theorem dd_166_116 : decode prog_13_method_13_code 116 = .ok (.iadd, 1) := by decide +kernel
theorem dd_166_117 : decode prog_13_method_13_code 117 = .ok (.putfield 105, 3) := by decide +kernel
theorem dd_166_120 : decode prog_13_method_13_code 120 = .ok (.aload_n 0, 1) := by decide +kernel
theorem dd_166_121 : decode prog_13_method_13_code 121 = .ok (.dup, 1) := by decide +kernel
theorem dd_166_122 : decode prog_13_method_13_code 122 = .ok (.getfield 112, 3) := by decide +kernel
theorem dd_166_125 : decode prog_13_method_13_code 125 = .ok (.iconst 1, 1) := by decide +kernel
theorem dd_166_126 : decode prog_13_method_13_code 126 = .ok (.isub, 1) := by decide +kernel
theorem dd_166_127 : decode prog_13_method_13_code 127 = .ok (.putfield 112, 3) := by decide +kernel
theorem dd_166_130 : decode prog_13_method_13_code 130 = .ok (.iinc 1 (-1), 3) := by decide +kernel
theorem dd_166_133 : decode prog_13_method_13_code 133 = .ok (.goto (-43), 3) := by decide +kernel
theorem dd_166_136 : decode prog_13_method_13_code 136 = .ok (.aload_n 0, 1) := by decide +kernel
theorem dd_166_137 : decode prog_13_method_13_code 137 = .ok (.bipush 32, 2) := by decide +kernel
theorem dd_166_139 : decode prog_13_method_13_code 139 = .ok (.invokevirtual 115, 3) := by decide +kernel
theorem dd_166_142 : decode prog_13_method_13_code 142 = .ok (.ifCond .ne 5, 3) := by decide +kernel
theorem dd_166_145 : decode prog_13_method_13_code 145 = .ok (.iconst 0, 1) := by decide +kernel
theorem dd_166_146 : decode prog_13_method_13_code 146 = .ok (.ireturn, 1) := by decide +kernel
theorem dd_166_147 : decode prog_13_method_13_code 147 = .ok (.iconst 0, 1) := by decide +kernel
theorem dd_166_148 : decode prog_13_method_13_code 148 = .ok (.istore_n 3, 1) := by decide +kernel
theorem dd_166_149 : decode prog_13_method_13_code 149 = .ok (.goto (-59), 3) := by decide +kernel
theorem dd_166_152 : decode prog_13_method_13_code 152 = .ok (.iinc 2 1, 3) := by decide +kernel
theorem dd_166_155 : decode prog_13_method_13_code 155 = .ok (.goto (-151), 3) := by decide +kernel
theorem dd_166_158 : decode prog_13_method_13_code 158 = .ok (.iconst 0, 1) := by decide +kernel
theorem dd_166_159 : decode prog_13_method_13_code 159 = .ok (.ireturn, 1) := by decide +kernel
set_option maxRecDepth 100000 in
theorem okI_166 : mj_okI gG "PairMachineModel" prog_13_method_13_code 4 (mj_off oM_166) (Option.some Jvm.ClassFile.FieldType.boolean) false true 0 cM_166 :=
  ⟨Or.inl (Or.inl ⟨dd_166_0, rfl⟩),
   ⟨by decide, Or.inl ⟨1, rfl, dd_166_1, rfl⟩⟩,
   Or.inl (Or.inl ⟨dd_166_2, rfl⟩),
   ⟨by decide, Or.inl ⟨2, rfl, dd_166_3, rfl⟩⟩,
   Or.inl ⟨2, rfl, dd_166_4, rfl⟩,
   Or.inl (Or.inr (Or.inl ⟨dd_166_5, rfl, by decide⟩)),
   ⟨151, dd_166_7, rfl, rfl⟩,
   Or.inl (Or.inl ⟨dd_166_10, rfl⟩),
   ⟨by decide, Or.inl ⟨3, rfl, dd_166_11, rfl⟩⟩,
   Or.inl ⟨0, rfl, dd_166_12, rfl⟩,
   Or.inl (Or.inl ⟨dd_166_13, rfl⟩),
   ⟨rfl, tw_833, by decide, tw_12, by decide +kernel, 108, tw_834, dd_166_14, tw_835, ⟨"PairMachineModel", fT10, 45, rfl, tw_836⟩, by decide +kernel⟩,
   Or.inl (Or.inr (Or.inl ⟨dd_166_17, rfl, by decide⟩)),
   ⟨34, dd_166_19, rfl, rfl⟩,
   Or.inl ⟨0, rfl, dd_166_22, rfl⟩,
   ⟨rfl, tw_846, by decide, tw_12, by decide +kernel, 125, tw_847, dd_166_23, tw_848, ⟨"PairMachineModel", fT10, 45, rfl, tw_849⟩, by decide +kernel⟩,
   ⟨5, dd_166_26, rfl, rfl⟩,
   Or.inl (Or.inl ⟨dd_166_29, rfl⟩),
   ⟨dd_166_30, rfl⟩,
   ⟨by decide, dd_166_31, rfl⟩,
   Or.inl ⟨0, rfl, dd_166_34, rfl⟩,
   Or.inl (Or.inl ⟨dd_166_35, rfl⟩),
   ⟨rfl, tw_833, by decide, tw_12, by decide +kernel, 108, tw_834, dd_166_36, tw_835, ⟨"PairMachineModel", fT10, 45, rfl, tw_836⟩, by decide +kernel⟩,
   Or.inl (Or.inr (Or.inl ⟨dd_166_39, rfl, by decide⟩)),
   ⟨7, dd_166_41, rfl, rfl⟩,
   Or.inl (Or.inl ⟨dd_166_44, rfl⟩),
   ⟨4, dd_166_45, rfl⟩,
   Or.inl (Or.inl ⟨dd_166_48, rfl⟩),
   ⟨by decide, Or.inl ⟨3, rfl, dd_166_49, rfl⟩⟩,
   ⟨40, dd_166_50, rfl⟩,
   Or.inl ⟨0, rfl, dd_166_53, rfl⟩,
   Or.inl (Or.inl ⟨dd_166_54, rfl⟩),
   ⟨rfl, tw_833, by decide, tw_12, by decide +kernel, 108, tw_834, dd_166_55, tw_835, ⟨"PairMachineModel", fT10, 45, rfl, tw_836⟩, by decide +kernel⟩,
   ⟨rfl, tw_850, by decide, tw_12, by decide +kernel, 129, tw_851, dd_166_58, tw_852, by decide +kernel⟩,
   ⟨18, dd_166_61, rfl, rfl⟩,
   Or.inl ⟨0, rfl, dd_166_64, rfl⟩,
   ⟨dd_166_65, rfl⟩,
   ⟨105, "PairMachineModel", fT10, 45, dd_166_66, rfl, okc_10, by decide, tw_832⟩,
   Or.inl (Or.inl ⟨dd_166_69, rfl⟩),
   ⟨dd_166_70, rfl⟩,
   ⟨105, "PairMachineModel", fT10, 45, dd_166_71, rfl, okc_10, by decide, tw_832, rfl, Or.inl rfl⟩,
   Or.inl (Or.inl ⟨dd_166_74, rfl⟩),
   ⟨by decide, Or.inl ⟨3, rfl, dd_166_75, rfl⟩⟩,
   ⟨14, dd_166_76, rfl⟩,
   Or.inl ⟨0, rfl, dd_166_79, rfl⟩,
   ⟨rfl, tw_853, by decide, tw_12, by decide +kernel, 132, tw_854, dd_166_80, tw_855, ⟨"PairMachineModel", fT10, 45, rfl, tw_856⟩, by decide +kernel⟩,
   ⟨5, dd_166_83, rfl, rfl⟩,
   Or.inl (Or.inl ⟨dd_166_86, rfl⟩),
   ⟨dd_166_87, rfl⟩,
   Or.inl (Or.inl ⟨dd_166_88, rfl⟩),
   ⟨by decide, Or.inl ⟨3, rfl, dd_166_89, rfl⟩⟩,
   Or.inl ⟨3, rfl, dd_166_90, rfl⟩,
   ⟨61, dd_166_91, rfl, rfl⟩,
   Or.inl ⟨1, rfl, dd_166_94, rfl⟩,
   ⟨5, dd_166_95, rfl, rfl⟩,
   Or.inl (Or.inl ⟨dd_166_98, rfl⟩),
   ⟨dd_166_99, rfl⟩,
   Or.inl ⟨0, rfl, dd_166_100, rfl⟩,
   Or.inl (Or.inl ⟨dd_166_101, rfl⟩),
   ⟨rfl, tw_833, by decide, tw_12, by decide +kernel, 108, tw_834, dd_166_102, tw_835, ⟨"PairMachineModel", fT10, 45, rfl, tw_836⟩, by decide +kernel⟩,
   Or.inl (Or.inr (Or.inl ⟨dd_166_105, rfl, by decide⟩)),
   ⟨29, dd_166_107, rfl, rfl⟩,
   Or.inl ⟨0, rfl, dd_166_110, rfl⟩,
   ⟨dd_166_111, rfl⟩,
   ⟨105, "PairMachineModel", fT10, 45, dd_166_112, rfl, okc_10, by decide, tw_832⟩,
   Or.inl (Or.inl ⟨dd_166_115, rfl⟩),
   ⟨dd_166_116, rfl⟩,
   ⟨105, "PairMachineModel", fT10, 45, dd_166_117, rfl, okc_10, by decide, tw_832, rfl, Or.inl rfl⟩,
   Or.inl ⟨0, rfl, dd_166_120, rfl⟩,
   ⟨dd_166_121, rfl⟩,
   ⟨112, "PairMachineModel", fT10, 45, dd_166_122, rfl, okc_10, by decide, tw_837⟩,
   Or.inl (Or.inl ⟨dd_166_125, rfl⟩),
   ⟨dd_166_126, rfl⟩,
   ⟨112, "PairMachineModel", fT10, 45, dd_166_127, rfl, okc_10, by decide, tw_837, rfl, Or.inl rfl⟩,
   ⟨by decide, dd_166_130, rfl⟩,
   ⟨(-43), dd_166_133, rfl⟩,
   Or.inl ⟨0, rfl, dd_166_136, rfl⟩,
   Or.inl (Or.inr (Or.inl ⟨dd_166_137, rfl, by decide⟩)),
   ⟨rfl, tw_838, by decide, tw_12, by decide +kernel, 115, tw_839, dd_166_139, tw_840, ⟨"PairMachineModel", fT10, 45, rfl, tw_841⟩, by decide +kernel⟩,
   ⟨5, dd_166_142, rfl, rfl⟩,
   Or.inl (Or.inl ⟨dd_166_145, rfl⟩),
   ⟨dd_166_146, rfl⟩,
   Or.inl (Or.inl ⟨dd_166_147, rfl⟩),
   ⟨by decide, Or.inl ⟨3, rfl, dd_166_148, rfl⟩⟩,
   ⟨(-59), dd_166_149, rfl⟩,
   ⟨by decide, dd_166_152, rfl⟩,
   ⟨(-151), dd_166_155, rfl⟩,
   Or.inl (Or.inl ⟨dd_166_158, rfl⟩),
   ⟨dd_166_159, rfl⟩, trivial⟩
theorem okM_166 : mj_okE gG 166 (cM_166, 4, oM_166, hM_166) := ⟨rfl, rfl, by decide +kernel, trivial, okI_166⟩
theorem dd_167_0 : decode prog_13_method_14_code 0 = .ok (.aload_n 0, 1) := by decide +kernel
theorem dd_167_1 : decode prog_13_method_14_code 1 = .ok (.bipush 32, 2) := by decide +kernel
theorem dd_167_3 : decode prog_13_method_14_code 3 = .ok (.invokevirtual 115, 3) := by decide +kernel
theorem dd_167_6 : decode prog_13_method_14_code 6 = .ok (.ifCond .eq 10, 3) := by decide +kernel
theorem dd_167_9 : decode prog_13_method_14_code 9 = .ok (.aload_n 0, 1) := by decide +kernel
theorem dd_167_10 : decode prog_13_method_14_code 10 = .ok (.invokevirtual 125, 3) := by decide +kernel
theorem dd_167_13 : decode prog_13_method_14_code 13 = .ok (.ifCond .ne 5, 3) := by decide +kernel
theorem dd_167_16 : decode prog_13_method_14_code 16 = .ok (.iconst 0, 1) := by decide +kernel
theorem dd_167_17 : decode prog_13_method_14_code 17 = .ok (.ireturn, 1) := by decide +kernel
theorem dd_167_18 : decode prog_13_method_14_code 18 = .ok (.aload_n 0, 1) := by decide +kernel
theorem dd_167_19 : decode prog_13_method_14_code 19 = .ok (.iconst 0, 1) := by decide +kernel
theorem dd_167_20 : decode prog_13_method_14_code 20 = .ok (.invokevirtual 108, 3) := by decide +kernel
theorem dd_167_23 : decode prog_13_method_14_code 23 = .ok (.invokestatic 129, 3) := by decide +kernel
theorem dd_167_26 : decode prog_13_method_14_code 26 = .ok (.ifCond .ne 25, 3) := by decide +kernel
theorem dd_167_29 : decode prog_13_method_14_code 29 = .ok (.aload_n 0, 1) := by decide +kernel
theorem dd_167_30 : decode prog_13_method_14_code 30 = .ok (.invokevirtual 135, 3) := by decide +kernel
theorem dd_167_33 : decode prog_13_method_14_code 33 = .ok (.ifCond .eq 16, 3) := by decide +kernel
theorem dd_167_36 : decode prog_13_method_14_code 36 = .ok (.aload_n 0, 1) := by decide +kernel
theorem dd_167_37 : decode prog_13_method_14_code 37 = .ok (.bipush 32, 2) := by decide +kernel
theorem dd_167_39 : decode prog_13_method_14_code 39 = .ok (.invokevirtual 115, 3) := by decide +kernel
theorem dd_167_42 : decode prog_13_method_14_code 42 = .ok (.ifCond .eq 7, 3) := by decide +kernel
theorem dd_167_45 : decode prog_13_method_14_code 45 = .ok (.iconst 1, 1) := by decide +kernel
theorem dd_167_46 : decode prog_13_method_14_code 46 = .ok (.goto 4, 3) := by decide +kernel
theorem dd_167_49 : decode prog_13_method_14_code 49 = .ok (.iconst 0, 1) := by decide +kernel
theorem dd_167_50 : decode prog_13_method_14_code 50 = .ok (.ireturn, 1) := by decide +kernel
theorem dd_167_51 : decode prog_13_method_14_code 51 = .ok (.iconst 0, 1) := by decide +kernel
theorem dd_167_52 : decode prog_13_method_14_code 52 = .ok (.istore_n 2, 1) := by decide +kernel
theorem dd_167_53 : decode prog_13_method_14_code 53 = .ok (.iload_n 2, 1) := by decide +kernel
theorem dd_167_54 : decode prog_13_method_14_code 54 = .ok (.iconst 3, 1) := by decide +kernel
theorem dd_167_55 : decode prog_13_method_14_code 55 = .ok (.if_icmp .ge 157, 3) := by decide +kernel
theorem dd_167_58 : decode prog_13_method_14_code 58 = .ok (.aload_n 0, 1) := by decide +kernel
theorem dd_167_59 : decode prog_13_method_14_code 59 = .ok (.iconst 0, 1) := by decide +kernel
theorem dd_167_60 : decode prog_13_method_14_code 60 = .ok (.invokevirtual 108, 3) := by decide +kernel
theorem dd_167_63 : decode prog_13_method_14_code 63 = .ok (.istore_n 3, 1) := by decide +kernel
theorem dd_167_64 : decode prog_13_method_14_code 64 = .ok (.iload_n 3, 1) := by decide +kernel
theorem dd_167_65 : decode prog_13_method_14_code 65 = .ok (.invokestatic 129, 3) := by decide +kernel
theorem dd_167_68 : decode prog_13_method_14_code 68 = .ok (.ifCond .eq 48, 3) := by decide +kernel
theorem dd_167_71 : decode prog_13_method_14_code 71 = .ok (.aload_n 0, 1) := by decide +kernel
theorem dd_167_72 : decode prog_13_method_14_code 72 = .ok (.getfield 27, 3) := by decide +kernel
theorem dd_167_75 : decode prog_13_method_14_code 75 = .ok (.iload_n 1, 1) := by decide +kernel
theorem dd_167_76 : decode prog_13_method_14_code 76 = .ok (.iaload, 1) := by decide +kernel
theorem dd_167_77 : decode prog_13_method_14_code 77 = .ok (.ifCond .le 15, 3) := by decide +kernel
theorem dd_167_80 : decode prog_13_method_14_code 80 = .ok (.aload_n 0, 1) := by decide +kernel
theorem dd_167_81 : decode prog_13_method_14_code 81 = .ok (.getfield 45, 3) := by decide +kernel
theorem dd_167_84 : decode prog_13_method_14_code 84 = .ok (.iconst 3, 1) := by decide +kernel
theorem dd_167_85 : decode prog_13_method_14_code 85 = .ok (.iload_n 1, 1) := by decide +kernel
theorem dd_167_86 : decode prog_13_method_14_code 86 = .ok (.imul, 1) := by decide +kernel
theorem dd_167_87 : decode prog_13_method_14_code 87 = .ok (.iaload, 1) := by decide +kernel
theorem dd_167_88 : decode prog_13_method_14_code 88 = .ok (.iload_n 3, 1) := by decide +kernel
theorem dd_167_89 : decode prog_13_method_14_code 89 = .ok (.if_icmp .eq 27, 3) := by decide +kernel
theorem dd_167_92 : decode prog_13_method_14_code 92 = .ok (.aload_n 0, 1) := by decide +kernel
theorem dd_167_93 : decode prog_13_method_14_code 93 = .ok (.getfield 27, 3) := by decide +kernel
theorem dd_167_96 : decode prog_13_method_14_code 96 = .ok (.iload_n 1, 1) := by decide +kernel
theorem dd_167_97 : decode prog_13_method_14_code 97 = .ok (.iaload, 1) := by decide +kernel
theorem dd_167_98 : decode prog_13_method_14_code 98 = .ok (.iconst 1, 1) := by decide +kernel
theorem dd_167_99 : decode prog_13_method_14_code 99 = .ok (.if_icmp .le 19, 3) := by decide +kernel
theorem dd_167_102 : decode prog_13_method_14_code 102 = .ok (.aload_n 0, 1) := by decide +kernel
theorem dd_167_103 : decode prog_13_method_14_code 103 = .ok (.getfield 45, 3) := by decide +kernel
theorem dd_167_106 : decode prog_13_method_14_code 106 = .ok (.iconst 3, 1) := by decide +kernel
theorem dd_167_107 : decode prog_13_method_14_code 107 = .ok (.iload_n 1, 1) := by decide +kernel
theorem dd_167_108 : decode prog_13_method_14_code 108 = .ok (.imul, 1) := by decide +kernel
theorem dd_167_109 : decode prog_13_method_14_code 109 = .ok (.iconst 1, 1) := by decide +kernel
theorem dd_167_110 : decode prog_13_method_14_code 110 = .ok (.iadd, 1) := by decide +kernel
theorem dd_167_111 : decode prog_13_method_14_code 111 = .ok (.iaload, 1) := by decide +kernel
theorem dd_167_112 : decode prog_13_method_14_code 112 = .ok (.iload_n 3, 1) := by decide +kernel
theorem dd_167_113 : decode prog_13_method_14_code 113 = .ok (.if_icmp .ne 5, 3) := by decide +kernel
theorem dd_167_116 : decode prog_13_method_14_code 116 = .ok (.iconst 0, 1) := by decide +kernel
theorem dd_167_117 : decode prog_13_method_14_code 117 = .ok (.ireturn, 1) := by decide +kernel
theorem dd_167_118 : decode prog_13_method_14_code 118 = .ok (.aload_n 0, 1) := by decide +kernel
theorem dd_167_119 : decode prog_13_method_14_code 119 = .ok (.getfield 45, 3) := by decide +kernel
theorem dd_167_122 : decode prog_13_method_14_code 122 = .ok (.iconst 3, 1) := by decide +kernel
theorem dd_167_123 : decode prog_13_method_14_code 123 = .ok (.iload_n 1, 1) := by decide +kernel
theorem dd_167_124 : decode prog_13_method_14_code 124 = .ok (.imul, 1) := by decide +kernel
theorem dd_167_125 : decode prog_13_method_14_code 125 = .ok (.aload_n 0, 1) := by decide +kernel
theorem dd_167_126 : decode prog_13_method_14_code 126 = .ok (.getfield 27, 3) := by decide +kernel
theorem dd_167_129 : decode prog_13_method_14_code 129 = .ok (.iload_n 1, 1) := by decide +kernel
theorem dd_167_130 : decode prog_13_method_14_code 130 = .ok (.iaload, 1) := by decide +kernel
theorem dd_167_131 : decode prog_13_method_14_code 131 = .ok (.iadd, 1) := by decide +kernel
theorem dd_167_132 : decode prog_13_method_14_code 132 = .ok (.iload_n 3, 1) := by decide +kernel
theorem dd_167_133 : decode prog_13_method_14_code 133 = .ok (.iastore, 1) := by decide +kernel
theorem dd_167_134 : decode prog_13_method_14_code 134 = .ok (.aload_n 0, 1) := by decide +kernel
theorem dd_167_135 : decode prog_13_method_14_code 135 = .ok (.getfield 27, 3) := by decide +kernel
theorem dd_167_138 : decode prog_13_method_14_code 138 = .ok (.iload_n 1, 1) := by decide +kernel
theorem dd_167_139 : decode prog_13_method_14_code 139 = .ok (.dup2, 1) := by decide +kernel
theorem dd_167_140 : decode prog_13_method_14_code 140 = .ok (.iaload, 1) := by decide +kernel
theorem dd_167_141 : decode prog_13_method_14_code 141 = .ok (.iconst 1, 1) := by decide +kernel
theorem dd_167_142 : decode prog_13_method_14_code 142 = .ok (.iadd, 1) := by decide +kernel
theorem dd_167_143 : decode prog_13_method_14_code 143 = .ok (.iastore, 1) := by decide +kernel
theorem dd_167_144 : decode prog_13_method_14_code 144 = .ok (.aload_n 0, 1) := by decide +kernel
theorem dd_167_145 : decode prog_13_method_14_code 145 = .ok (.dup, 1) := by decide +kernel
theorem dd_167_146 : decode prog_13_method_14_code 146 = .ok (.getfield 105, 3) := by decide +kernel
theorem dd_167_149 : decode prog_13_method_14_code 149 = .ok (.iconst 1, 1) := by decide +kernel
theorem dd_167_150 : decode prog_13_method_14_code 150 = .ok (.iadd, 1) := by decide +kernel
theorem dd_167_151 : decode prog_13_method_14_code 151 = .ok (.putfield 105, 3) := by decide +kernel
theorem dd_167_154 : decode prog_13_method_14_code 154 = .ok (.aload_n 0, 1) := by decide +kernel
theorem dd_167_155 : decode prog_13_method_14_code 155 = .ok (.iconst 0, 1) := by decide +kernel
theorem dd_167_156 : decode prog_13_method_14_code 156 = .ok (.invokevirtual 108, 3) := by decide +kernel
theorem dd_167_159 : decode prog_13_method_14_code 159 = .ok (.bipush 32, 2) := by decide +kernel
theorem dd_167_161 : decode prog_13_method_14_code 161 = .ok (.if_icmp .ne 13, 3) := by decide +kernel
theorem dd_167_164 : decode prog_13_method_14_code 164 = .ok (.aload_n 0, 1) := by decide +kernel
theorem dd_167_165 : decode prog_13_method_14_code 165 = .ok (.getfield 27, 3) := by decide +kernel
theorem dd_167_168 : decode prog_13_method_14_code 168 = .ok (.iload_n 1, 1) := by decide +kernel
theorem dd_167_169 : decode prog_13_method_14_code 169 = .ok (.iaload, 1) := by decide +kernel
theorem dd_167_170 : decode prog_13_method_14_code 170 = .ok (.iconst 3, 1) := by decide +kernel
theorem dd_167_171 : decode prog_13_method_14_code 171 = .ok (.if_icmp .ne 25, 3) := by decide +kernel
theorem dd_167_174 : decode prog_13_method_14_code 174 = .ok (.aload_n 0, 1) := by decide +kernel
theorem dd_167_175 : decode prog_13_method_14_code 175 = .ok (.invokevirtual 135, 3) := by decide +kernel
theorem dd_167_178 : decode prog_13_method_14_code 178 = .ok (.ifCond .eq 16, 3) := by decide +kernel
theorem dd_167_181 : decode prog_13_method_14_code 181 = .ok (.aload_n 0, 1) := by decide +kernel
theorem dd_167_182 : decode prog_13_method_14_code 182 = .ok (.bipush 32, 2) := by decide +kernel
theorem dd_167_184 : decode prog_13_method_14_code 184 = .ok (.invokevirtual 115, 3) := by decide +kernel
theorem dd_167_187 : decode prog_13_method_14_code 187 = .ok (.ifCond .eq 7, 3) := by decide +kernel
theorem dd_167_190 : decode prog_13_method_14_code 190 = .ok (.iconst 1, 1) := by decide +kernel
theorem dd_167_191 : decode prog_13_method_14_code 191 = .ok (.goto 4, 3) := by decide +kernel
theorem dd_167_194 : decode prog_13_method_14_code 194 = .ok (.iconst 0, 1) := by decide +kernel
theorem dd_167_195 : decode prog_13_method_14_code 195 = .ok (.ireturn, 1) := by decide +kernel
theorem dd_167_196 : decode prog_13_method_14_code 196 = .ok (.aload_n 0, 1) := by decide +kernel
theorem dd_167_197 : decode prog_13_method_14_code 197 = .ok (.dup, 1) := by decide +kernel
theorem dd_167_198 : decode prog_13_method_14_code 198 = .ok (.getfield 105, 3) := by decide +kernel
theorem dd_167_201 : decode prog_13_method_14_code 201 = .ok (.iconst 1, 1) := by decide +kernel
theorem dd_167_202 : decode prog_13_method_14_code 202 = .ok (.iadd, 1) := by decide +kernel
theorem dd_167_203 : decode prog_13_method_14_code 203 = .ok (.putfield 105, 3) := by decide +kernel
theorem dd_167_206 : decode prog_13_method_14_code 206 = .ok (.iinc 2 1, 3) := by decide +kernel
theorem dd_167_209 : decode prog_13_method_14_code 209 = .ok (.goto (-156), 3) := by decide +kernel
theorem dd_167_212 : decode prog_13_method_14_code 212 = .ok (.iconst 0, 1) := by decide +kernel
theorem dd_167_213 : decode prog_13_method_14_code 213 = .ok (.ireturn, 1) := by decide +kernel
set_option maxRecDepth 100000 in
theorem okI_167 : mj_okI gG "PairMachineModel" prog_13_method_14_code 4 (mj_off oM_167) (Option.some Jvm.ClassFile.FieldType.boolean) false true 0 cM_167 :=
  ⟨Or.inl ⟨0, rfl, dd_167_0, rfl⟩,
   Or.inl (Or.inr (Or.inl ⟨dd_167_1, rfl, by decide⟩)),
   ⟨rfl, tw_838, by decide, tw_12, by decide +kernel, 115, tw_839, dd_167_3, tw_840, ⟨"PairMachineModel", fT10, 45, rfl, tw_841⟩, by decide +kernel⟩,
   ⟨10, dd_167_6, rfl, rfl⟩,
   Or.inl ⟨0, rfl, dd_167_9, rfl⟩,
   ⟨rfl, tw_846, by decide, tw_12, by decide +kernel, 125, tw_847, dd_167_10, tw_848, ⟨"PairMachineModel", fT10, 45, rfl, tw_849⟩, by decide +kernel⟩,
   ⟨5, dd_167_13, rfl, rfl⟩,
   Or.inl (Or.inl ⟨dd_167_16, rfl⟩),
   ⟨dd_167_17, rfl⟩,
   Or.inl ⟨0, rfl, dd_167_18, rfl⟩,
   Or.inl (Or.inl ⟨dd_167_19, rfl⟩),
   ⟨rfl, tw_833, by decide, tw_12, by decide +kernel, 108, tw_834, dd_167_20, tw_835, ⟨"PairMachineModel", fT10, 45, rfl, tw_836⟩, by decide +kernel⟩,
   ⟨rfl, tw_850, by decide, tw_12, by decide +kernel, 129, tw_851, dd_167_23, tw_852, by decide +kernel⟩,
   ⟨25, dd_167_26, rfl, rfl⟩,
   Or.inl ⟨0, rfl, dd_167_29, rfl⟩,
   ⟨rfl, tw_857, by decide, tw_12, by decide +kernel, 135, tw_858, dd_167_30, tw_859, ⟨"PairMachineModel", fT10, 45, rfl, tw_860⟩, by decide +kernel⟩,
   ⟨16, dd_167_33, rfl, rfl⟩,
   Or.inl ⟨0, rfl, dd_167_36, rfl⟩,
   Or.inl (Or.inr (Or.inl ⟨dd_167_37, rfl, by decide⟩)),
   ⟨rfl, tw_838, by decide, tw_12, by decide +kernel, 115, tw_839, dd_167_39, tw_840, ⟨"PairMachineModel", fT10, 45, rfl, tw_841⟩, by decide +kernel⟩,
   ⟨7, dd_167_42, rfl, rfl⟩,
   Or.inl (Or.inl ⟨dd_167_45, rfl⟩),
   ⟨4, dd_167_46, rfl⟩,
   Or.inl (Or.inl ⟨dd_167_49, rfl⟩),
   ⟨dd_167_50, rfl⟩,
   Or.inl (Or.inl ⟨dd_167_51, rfl⟩),
   ⟨by decide, Or.inl ⟨2, rfl, dd_167_52, rfl⟩⟩,
   Or.inl ⟨2, rfl, dd_167_53, rfl⟩,
   Or.inl (Or.inl ⟨dd_167_54, rfl⟩),
   ⟨157, dd_167_55, rfl, rfl⟩,
   Or.inl ⟨0, rfl, dd_167_58, rfl⟩,
   Or.inl (Or.inl ⟨dd_167_59, rfl⟩),
   ⟨rfl, tw_833, by decide, tw_12, by decide +kernel, 108, tw_834, dd_167_60, tw_835, ⟨"PairMachineModel", fT10, 45, rfl, tw_836⟩, by decide +kernel⟩,
   ⟨by decide, Or.inl ⟨3, rfl, dd_167_63, rfl⟩⟩,
   Or.inl ⟨3, rfl, dd_167_64, rfl⟩,
   ⟨rfl, tw_850, by decide, tw_12, by decide +kernel, 129, tw_851, dd_167_65, tw_852, by decide +kernel⟩,
   ⟨48, dd_167_68, rfl, rfl⟩,
   Or.inl ⟨0, rfl, dd_167_71, rfl⟩,
   ⟨27, "PairMachineModel", fT10, 45, dd_167_72, rfl, okc_10, by decide, tw_806⟩,
   Or.inl ⟨1, rfl, dd_167_75, rfl⟩,
   ⟨dd_167_76, rfl⟩,
   ⟨15, dd_167_77, rfl, rfl⟩,
   Or.inl ⟨0, rfl, dd_167_80, rfl⟩,
   ⟨45, "PairMachineModel", fT10, 45, dd_167_81, rfl, okc_10, by decide, tw_812⟩,
   Or.inl (Or.inl ⟨dd_167_84, rfl⟩),
   Or.inl ⟨1, rfl, dd_167_85, rfl⟩,
   ⟨dd_167_86, rfl⟩,
   ⟨dd_167_87, rfl⟩,
   Or.inl ⟨3, rfl, dd_167_88, rfl⟩,
   ⟨27, dd_167_89, rfl, rfl⟩,
   Or.inl ⟨0, rfl, dd_167_92, rfl⟩,
   ⟨27, "PairMachineModel", fT10, 45, dd_167_93, rfl, okc_10, by decide, tw_806⟩,
   Or.inl ⟨1, rfl, dd_167_96, rfl⟩,
   ⟨dd_167_97, rfl⟩,
   Or.inl (Or.inl ⟨dd_167_98, rfl⟩),
   ⟨19, dd_167_99, rfl, rfl⟩,
   Or.inl ⟨0, rfl, dd_167_102, rfl⟩,
   ⟨45, "PairMachineModel", fT10, 45, dd_167_103, rfl, okc_10, by decide, tw_812⟩,
   Or.inl (Or.inl ⟨dd_167_106, rfl⟩),
   Or.inl ⟨1, rfl, dd_167_107, rfl⟩,
   ⟨dd_167_108, rfl⟩,
   Or.inl (Or.inl ⟨dd_167_109, rfl⟩),
   ⟨dd_167_110, rfl⟩,
   ⟨dd_167_111, rfl⟩,
   Or.inl ⟨3, rfl, dd_167_112, rfl⟩,
   ⟨5, dd_167_113, rfl, rfl⟩,
   Or.inl (Or.inl ⟨dd_167_116, rfl⟩),
   ⟨dd_167_117, rfl⟩,
   Or.inl ⟨0, rfl, dd_167_118, rfl⟩,
   ⟨45, "PairMachineModel", fT10, 45, dd_167_119, rfl, okc_10, by decide, tw_812⟩,
   Or.inl (Or.inl ⟨dd_167_122, rfl⟩),
   Or.inl ⟨1, rfl, dd_167_123, rfl⟩,
   ⟨dd_167_124, rfl⟩,
   Or.inl ⟨0, rfl, dd_167_125, rfl⟩,
   ⟨27, "PairMachineModel", fT10, 45, dd_167_126, rfl, okc_10, by decide, tw_806⟩,
   Or.inl ⟨1, rfl, dd_167_129, rfl⟩,
   ⟨dd_167_130, rfl⟩,
   ⟨dd_167_131, rfl⟩,
   Or.inl ⟨3, rfl, dd_167_132, rfl⟩,
   ⟨dd_167_133, rfl⟩,
   Or.inl ⟨0, rfl, dd_167_134, rfl⟩,
   ⟨27, "PairMachineModel", fT10, 45, dd_167_135, rfl, okc_10, by decide, tw_806⟩,
   Or.inl ⟨1, rfl, dd_167_138, rfl⟩,
   ⟨dd_167_139, rfl⟩,
   ⟨dd_167_140, rfl⟩,
   Or.inl (Or.inl ⟨dd_167_141, rfl⟩),
   ⟨dd_167_142, rfl⟩,
   ⟨dd_167_143, rfl⟩,
   Or.inl ⟨0, rfl, dd_167_144, rfl⟩,
   ⟨dd_167_145, rfl⟩,
   ⟨105, "PairMachineModel", fT10, 45, dd_167_146, rfl, okc_10, by decide, tw_832⟩,
   Or.inl (Or.inl ⟨dd_167_149, rfl⟩),
   ⟨dd_167_150, rfl⟩,
   ⟨105, "PairMachineModel", fT10, 45, dd_167_151, rfl, okc_10, by decide, tw_832, rfl, Or.inl rfl⟩,
   Or.inl ⟨0, rfl, dd_167_154, rfl⟩,
   Or.inl (Or.inl ⟨dd_167_155, rfl⟩),
   ⟨rfl, tw_833, by decide, tw_12, by decide +kernel, 108, tw_834, dd_167_156, tw_835, ⟨"PairMachineModel", fT10, 45, rfl, tw_836⟩, by decide +kernel⟩,
   Or.inl (Or.inr (Or.inl ⟨dd_167_159, rfl, by decide⟩)),
   ⟨13, dd_167_161, rfl, rfl⟩,
   Or.inl ⟨0, rfl, dd_167_164, rfl⟩,
   ⟨27, "PairMachineModel", fT10, 45, dd_167_165, rfl, okc_10, by decide, tw_806⟩,
   Or.inl ⟨1, rfl, dd_167_168, rfl⟩,
   ⟨dd_167_169, rfl⟩,
   Or.inl (Or.inl ⟨dd_167_170, rfl⟩),
   ⟨25, dd_167_171, rfl, rfl⟩,
   Or.inl ⟨0, rfl, dd_167_174, rfl⟩,
   ⟨rfl, tw_857, by decide, tw_12, by decide +kernel, 135, tw_858, dd_167_175, tw_859, ⟨"PairMachineModel", fT10, 45, rfl, tw_860⟩, by decide +kernel⟩,
   ⟨16, dd_167_178, rfl, rfl⟩,
   Or.inl ⟨0, rfl, dd_167_181, rfl⟩,
   Or.inl (Or.inr (Or.inl ⟨dd_167_182, rfl, by decide⟩)),
   ⟨rfl, tw_838, by decide, tw_12, by decide +kernel, 115, tw_839, dd_167_184, tw_840, ⟨"PairMachineModel", fT10, 45, rfl, tw_841⟩, by decide +kernel⟩,
   ⟨7, dd_167_187, rfl, rfl⟩,
   Or.inl (Or.inl ⟨dd_167_190, rfl⟩),
   ⟨4, dd_167_191, rfl⟩,
   Or.inl (Or.inl ⟨dd_167_194, rfl⟩),
   ⟨dd_167_195, rfl⟩,
   Or.inl ⟨0, rfl, dd_167_196, rfl⟩,
   ⟨dd_167_197, rfl⟩,
   ⟨105, "PairMachineModel", fT10, 45, dd_167_198, rfl, okc_10, by decide, tw_832⟩,
   Or.inl (Or.inl ⟨dd_167_201, rfl⟩),
   ⟨dd_167_202, rfl⟩,
   ⟨105, "PairMachineModel", fT10, 45, dd_167_203, rfl, okc_10, by decide, tw_832, rfl, Or.inl rfl⟩,
   ⟨by decide, dd_167_206, rfl⟩,
   ⟨(-156), dd_167_209, rfl⟩,
   Or.inl (Or.inl ⟨dd_167_212, rfl⟩),
   ⟨dd_167_213, rfl⟩, trivial⟩
theorem okM_167 : mj_okE gG 167 (cM_167, 4, oM_167, hM_167) := ⟨rfl, rfl, by decide +kernel, trivial, okI_167⟩
theorem dd_168_0 : decode prog_13_method_15_code 0 = .ok (.iload_n 0, 1) := by decide +kernel
theorem dd_168_1 : decode prog_13_method_15_code 1 = .ok (.lookupswitch 97 #[(33, 93), (42, 91), (43, 91), (45, 91), (46, 91), (60, 91), (61, 91), (63, 95), (94, 93), (95, 93)], 91) := by decide +kernel
theorem dd_168_92 : decode prog_13_method_15_code 92 = .ok (.iconst 2, 1) := by decide +kernel
theorem dd_168_93 : decode prog_13_method_15_code 93 = .ok (.ireturn, 1) := by decide +kernel
theorem dd_168_94 : decode prog_13_method_15_code 94 = .ok (.iconst 1, 1) := by decide +kernel
theorem dd_168_95 : decode prog_13_method_15_code 95 = .ok (.ireturn, 1) := by decide +kernel
theorem dd_168_96 : decode prog_13_method_15_code 96 = .ok (.iconst 3, 1) := by decide +kernel
theorem dd_168_97 : decode prog_13_method_15_code 97 = .ok (.ireturn, 1) := by decide +kernel
theorem dd_168_98 : decode prog_13_method_15_code 98 = .ok (.iconst 0, 1) := by decide +kernel
theorem dd_168_99 : decode prog_13_method_15_code 99 = .ok (.ireturn, 1) := by decide +kernel
set_option maxRecDepth 100000 in
theorem okI_168 : mj_okI gG "PairMachineModel" prog_13_method_15_code 1 (mj_off oM_168) (Option.some Jvm.ClassFile.FieldType.int) false true 0 cM_168 :=
  ⟨Or.inl ⟨0, rfl, dd_168_0, rfl⟩,
   Or.inl ⟨97, #[(33, 93), (42, 91), (43, 91), (45, 91), (46, 91), (60, 91), (61, 91), (63, 95), (94, 93), (95, 93)], 91, dd_168_1, by decide, rfl, rfl, by decide +kernel⟩,
   Or.inl (Or.inl ⟨dd_168_92, rfl⟩),
   ⟨dd_168_93, rfl⟩,
   Or.inl (Or.inl ⟨dd_168_94, rfl⟩),
   ⟨dd_168_95, rfl⟩,
   Or.inl (Or.inl ⟨dd_168_96, rfl⟩),
   ⟨dd_168_97, rfl⟩,
   Or.inl (Or.inl ⟨dd_168_98, rfl⟩),
   ⟨dd_168_99, rfl⟩, trivial⟩
theorem okM_168 : mj_okE gG 168 (cM_168, 1, oM_168, hM_168) := ⟨rfl, rfl, by decide +kernel, trivial, okI_168⟩
theorem dd_169_0 : decode prog_13_method_16_code 0 = .ok (.aload_n 0, 1) := by decide +kernel
theorem dd_169_1 : decode prog_13_method_16_code 1 = .ok (.iconst 0, 1) := by decide +kernel
theorem dd_169_2 : decode prog_13_method_16_code 2 = .ok (.iload_n 1, 1) := by decide +kernel
theorem dd_169_3 : decode prog_13_method_16_code 3 = .ok (.invokevirtual 138, 3) := by decide +kernel
theorem dd_169_6 : decode prog_13_method_16_code 6 = .ok (.istore_n 2, 1) := by decide +kernel
theorem dd_169_7 : decode prog_13_method_16_code 7 = .ok (.aload_n 0, 1) := by decide +kernel
theorem dd_169_8 : decode prog_13_method_16_code 8 = .ok (.iconst 0, 1) := by decide +kernel
theorem dd_169_9 : decode prog_13_method_16_code 9 = .ok (.invokevirtual 108, 3) := by decide +kernel
theorem dd_169_12 : decode prog_13_method_16_code 12 = .ok (.istore_n 3, 1) := by decide +kernel
theorem dd_169_13 : decode prog_13_method_16_code 13 = .ok (.iload_n 3, 1) := by decide +kernel
theorem dd_169_14 : decode prog_13_method_16_code 14 = .ok (.invokestatic 129, 3) := by decide +kernel
theorem dd_169_17 : decode prog_13_method_16_code 17 = .ok (.ifCond .eq 29, 3) := by decide +kernel
theorem dd_169_20 : decode prog_13_method_16_code 20 = .ok (.aload_n 0, 1) := by decide +kernel
theorem dd_169_21 : decode prog_13_method_16_code 21 = .ok (.getfield 17, 3) := by decide +kernel
theorem dd_169_24 : decode prog_13_method_16_code 24 = .ok (.iload_n 2, 1) := by decide +kernel
theorem dd_169_25 : decode prog_13_method_16_code 25 = .ok (.iconst 1, 1) := by decide +kernel
theorem dd_169_26 : decode prog_13_method_16_code 26 = .ok (.iastore, 1) := by decide +kernel
theorem dd_169_27 : decode prog_13_method_16_code 27 = .ok (.aload_n 0, 1) := by decide +kernel
theorem dd_169_28 : decode prog_13_method_16_code 28 = .ok (.getfield 27, 3) := by decide +kernel
theorem dd_169_31 : decode prog_13_method_16_code 31 = .ok (.iload_n 2, 1) := by decide +kernel
theorem dd_169_32 : decode prog_13_method_16_code 32 = .ok (.iload_n 3, 1) := by decide +kernel
theorem dd_169_33 : decode prog_13_method_16_code 33 = .ok (.iastore, 1) := by decide +kernel
theorem dd_169_34 : decode prog_13_method_16_code 34 = .ok (.aload_n 0, 1) := by decide +kernel
theorem dd_169_35 : decode prog_13_method_16_code 35 = .ok (.dup, 1) := by decide +kernel
theorem dd_169_36 : decode prog_13_method_16_code 36 = .ok (.getfield 105, 3) := by decide +kernel
theorem dd_169_39 : decode prog_13_method_16_code 39 = .ok (.iconst 1, 1) := by decide +kernel
theorem dd_169_40 : decode prog_13_method_16_code 40 = .ok (.iadd, 1) := by decide +kernel
theorem dd_169_41 : decode prog_13_method_16_code 41 = .ok (.putfield 105, 3) := by decide +kernel
theorem dd_169_44 : decode prog_13_method_16_code 44 = .ok (.iconst 0, 1) := by decide +kernel
theorem dd_169_45 : decode prog_13_method_16_code 45 = .ok (.ireturn, 1) := by decide +kernel
theorem dd_169_46 : decode prog_13_method_16_code 46 = .ok (.iload_n 3, 1) := by decide +kernel
theorem dd_169_47 : decode prog_13_method_16_code 47 = .ok (.bipush 39, 2) := by decide +kernel
theorem dd_169_49 : decode prog_13_method_16_code 49 = .ok (.if_icmp .ne 47, 3) := by decide +kernel
theorem dd_169_52 : decode prog_13_method_16_code 52 = .ok (.aload_n 0, 1) := by decide +kernel
theorem dd_169_53 : decode prog_13_method_16_code 53 = .ok (.getfield 17, 3) := by decide +kernel
theorem dd_169_56 : decode prog_13_method_16_code 56 = .ok (.iload_n 2, 1) := by decide +kernel
theorem dd_169_57 : decode prog_13_method_16_code 57 = .ok (.iconst 2, 1) := by decide +kernel
theorem dd_169_58 : decode prog_13_method_16_code 58 = .ok (.iastore, 1) := by decide +kernel
theorem dd_169_59 : decode prog_13_method_16_code 59 = .ok (.aload_n 0, 1) := by decide +kernel
theorem dd_169_60 : decode prog_13_method_16_code 60 = .ok (.dup, 1) := by decide +kernel
theorem dd_169_61 : decode prog_13_method_16_code 61 = .ok (.getfield 105, 3) := by decide +kernel
theorem dd_169_64 : decode prog_13_method_16_code 64 = .ok (.iconst 1, 1) := by decide +kernel
theorem dd_169_65 : decode prog_13_method_16_code 65 = .ok (.iadd, 1) := by decide +kernel
theorem dd_169_66 : decode prog_13_method_16_code 66 = .ok (.putfield 105, 3) := by decide +kernel
theorem dd_169_69 : decode prog_13_method_16_code 69 = .ok (.aload_n 0, 1) := by decide +kernel
theorem dd_169_70 : decode prog_13_method_16_code 70 = .ok (.invokevirtual 142, 3) := by decide +kernel
theorem dd_169_73 : decode prog_13_method_16_code 73 = .ok (.istore 4, 2) := by decide +kernel
theorem dd_169_75 : decode prog_13_method_16_code 75 = .ok (.aload_n 0, 1) := by decide +kernel
theorem dd_169_76 : decode prog_13_method_16_code 76 = .ok (.getfield 24, 3) := by decide +kernel
theorem dd_169_79 : decode prog_13_method_16_code 79 = .ok (.iload_n 2, 1) := by decide +kernel
theorem dd_169_80 : decode prog_13_method_16_code 80 = .ok (.aload_n 0, 1) := by decide +kernel
theorem dd_169_81 : decode prog_13_method_16_code 81 = .ok (.getfield 105, 3) := by decide +kernel
theorem dd_169_84 : decode prog_13_method_16_code 84 = .ok (.iastore, 1) := by decide +kernel
theorem dd_169_85 : decode prog_13_method_16_code 85 = .ok (.iload 4, 2) := by decide +kernel
theorem dd_169_87 : decode prog_13_method_16_code 87 = .ok (.ifCond .eq 7, 3) := by decide +kernel
theorem dd_169_90 : decode prog_13_method_16_code 90 = .ok (.iconst 0, 1) := by decide +kernel
theorem dd_169_91 : decode prog_13_method_16_code 91 = .ok (.goto 4, 3) := by decide +kernel
theorem dd_169_94 : decode prog_13_method_16_code 94 = .ok (.iconst (-1), 1) := by decide +kernel
theorem dd_169_95 : decode prog_13_method_16_code 95 = .ok (.ireturn, 1) := by decide +kernel
theorem dd_169_96 : decode prog_13_method_16_code 96 = .ok (.iload_n 3, 1) := by decide +kernel
theorem dd_169_97 : decode prog_13_method_16_code 97 = .ok (.bipush 40, 2) := by decide +kernel
theorem dd_169_99 : decode prog_13_method_16_code 99 = .ok (.if_icmp .eq 45, 3) := by decide +kernel
theorem dd_169_102 : decode prog_13_method_16_code 102 = .ok (.aload_n 0, 1) := by decide +kernel
theorem dd_169_103 : decode prog_13_method_16_code 103 = .ok (.invokevirtual 132, 3) := by decide +kernel
theorem dd_169_106 : decode prog_13_method_16_code 106 = .ok (.istore 4, 2) := by decide +kernel
theorem dd_169_108 : decode prog_13_method_16_code 108 = .ok (.aload_n 0, 1) := by decide +kernel
theorem dd_169_109 : decode prog_13_method_16_code 109 = .ok (.getfield 27, 3) := by decide +kernel
theorem dd_169_112 : decode prog_13_method_16_code 112 = .ok (.iload_n 2, 1) := by decide +kernel
theorem dd_169_113 : decode prog_13_method_16_code 113 = .ok (.iload 4, 2) := by decide +kernel
theorem dd_169_115 : decode prog_13_method_16_code 115 = .ok (.ifCond .eq 16, 3) := by decide +kernel
theorem dd_169_118 : decode prog_13_method_16_code 118 = .ok (.aload_n 0, 1) := by decide +kernel
theorem dd_169_119 : decode prog_13_method_16_code 119 = .ok (.aload_n 0, 1) := by decide +kernel
theorem dd_169_120 : decode prog_13_method_16_code 120 = .ok (.getfield 21, 3) := by decide +kernel
theorem dd_169_123 : decode prog_13_method_16_code 123 = .ok (.iload_n 2, 1) := by decide +kernel
theorem dd_169_124 : decode prog_13_method_16_code 124 = .ok (.iaload, 1) := by decide +kernel
theorem dd_169_125 : decode prog_13_method_16_code 125 = .ok (.invokevirtual 145, 3) := by decide +kernel
theorem dd_169_128 : decode prog_13_method_16_code 128 = .ok (.goto 4, 3) := by decide +kernel
theorem dd_169_131 : decode prog_13_method_16_code 131 = .ok (.iconst 0, 1) := by decide +kernel
theorem dd_169_132 : decode prog_13_method_16_code 132 = .ok (.iastore, 1) := by decide +kernel
theorem dd_169_133 : decode prog_13_method_16_code 133 = .ok (.iload 4, 2) := by decide +kernel
theorem dd_169_135 : decode prog_13_method_16_code 135 = .ok (.ifCond .eq 7, 3) := by decide +kernel
theorem dd_169_138 : decode prog_13_method_16_code 138 = .ok (.iconst 0, 1) := by decide +kernel
theorem dd_169_139 : decode prog_13_method_16_code 139 = .ok (.goto 4, 3) := by decide +kernel
theorem dd_169_142 : decode prog_13_method_16_code 142 = .ok (.iconst (-1), 1) := by decide +kernel
theorem dd_169_143 : decode prog_13_method_16_code 143 = .ok (.ireturn, 1) := by decide +kernel
theorem dd_169_144 : decode prog_13_method_16_code 144 = .ok (.aload_n 0, 1) := by decide +kernel
theorem dd_169_145 : decode prog_13_method_16_code 145 = .ok (.invokevirtual 125, 3) := by decide +kernel
theorem dd_169_148 : decode prog_13_method_16_code 148 = .ok (.ifCond .ne 5, 3) := by decide +kernel
theorem dd_169_151 : decode prog_13_method_16_code 151 = .ok (.iconst (-1), 1) := by decide +kernel
theorem dd_169_152 : decode prog_13_method_16_code 152 = .ok (.ireturn, 1) := by decide +kernel
theorem dd_169_153 : decode prog_13_method_16_code 153 = .ok (.aload_n 0, 1) := by decide +kernel
theorem dd_169_154 : decode prog_13_method_16_code 154 = .ok (.iconst 0, 1) := by decide +kernel
theorem dd_169_155 : decode prog_13_method_16_code 155 = .ok (.invokevirtual 108, 3) := by decide +kernel
theorem dd_169_158 : decode prog_13_method_16_code 158 = .ok (.istore_n 3, 1) := by decide +kernel
theorem dd_169_159 : decode prog_13_method_16_code 159 = .ok (.iload_n 3, 1) := by decide +kernel
theorem dd_169_160 : decode prog_13_method_16_code 160 = .ok (.invokestatic 149, 3) := by decide +kernel
theorem dd_169_163 : decode prog_13_method_16_code 163 = .ok (.ifCond .le 59, 3) := by decide +kernel
theorem dd_169_166 : decode prog_13_method_16_code 166 = .ok (.iload_n 3, 1) := by decide +kernel
theorem dd_169_167 : decode prog_13_method_16_code 167 = .ok (.bipush 45, 2) := by decide +kernel
theorem dd_169_169 : decode prog_13_method_16_code 169 = .ok (.if_icmp .ne 14, 3) := by decide +kernel
theorem dd_169_172 : decode prog_13_method_16_code 172 = .ok (.aload_n 0, 1) := by decide +kernel
theorem dd_169_173 : decode prog_13_method_16_code 173 = .ok (.iconst 1, 1) := by decide +kernel
theorem dd_169_174 : decode prog_13_method_16_code 174 = .ok (.invokevirtual 108, 3) := by decide +kernel
theorem dd_169_177 : decode prog_13_method_16_code 177 = .ok (.invokestatic 122, 3) := by decide +kernel
theorem dd_169_180 : decode prog_13_method_16_code 180 = .ok (.ifCond .ne 42, 3) := by decide +kernel
theorem dd_169_183 : decode prog_13_method_16_code 183 = .ok (.aload_n 0, 1) := by decide +kernel
theorem dd_169_184 : decode prog_13_method_16_code 184 = .ok (.getfield 17, 3) := by decide +kernel
theorem dd_169_187 : decode prog_13_method_16_code 187 = .ok (.iload_n 2, 1) := by decide +kernel
theorem dd_169_188 : decode prog_13_method_16_code 188 = .ok (.iconst 3, 1) := by decide +kernel
theorem dd_169_189 : decode prog_13_method_16_code 189 = .ok (.iastore, 1) := by decide +kernel
theorem dd_169_190 : decode prog_13_method_16_code 190 = .ok (.aload_n 0, 1) := by decide +kernel
theorem dd_169_191 : decode prog_13_method_16_code 191 = .ok (.getfield 27, 3) := by decide +kernel
theorem dd_169_194 : decode prog_13_method_16_code 194 = .ok (.iload_n 2, 1) := by decide +kernel
theorem dd_169_195 : decode prog_13_method_16_code 195 = .ok (.iload_n 3, 1) := by decide +kernel
theorem dd_169_196 : decode prog_13_method_16_code 196 = .ok (.iastore, 1) := by decide +kernel
theorem dd_169_197 : decode prog_13_method_16_code 197 = .ok (.aload_n 0, 1) := by decide +kernel
theorem dd_169_198 : decode prog_13_method_16_code 198 = .ok (.dup, 1) := by decide +kernel
theorem dd_169_199 : decode prog_13_method_16_code 199 = .ok (.getfield 105, 3) := by decide +kernel
theorem dd_169_202 : decode prog_13_method_16_code 202 = .ok (.iconst 1, 1) := by decide +kernel
theorem dd_169_203 : decode prog_13_method_16_code 203 = .ok (.iadd, 1) := by decide +kernel
theorem dd_169_204 : decode prog_13_method_16_code 204 = .ok (.putfield 105, 3) := by decide +kernel
theorem dd_169_207 : decode prog_13_method_16_code 207 = .ok (.aload_n 0, 1) := by decide +kernel
theorem dd_169_208 : decode prog_13_method_16_code 208 = .ok (.bipush 32, 2) := by decide +kernel
theorem dd_169_210 : decode prog_13_method_16_code 210 = .ok (.invokevirtual 115, 3) := by decide +kernel
theorem dd_169_213 : decode prog_13_method_16_code 213 = .ok (.ifCond .eq 7, 3) := by decide +kernel
theorem dd_169_216 : decode prog_13_method_16_code 216 = .ok (.iconst 1, 1) := by decide +kernel
theorem dd_169_217 : decode prog_13_method_16_code 217 = .ok (.goto 4, 3) := by decide +kernel
theorem dd_169_220 : decode prog_13_method_16_code 220 = .ok (.iconst (-1), 1) := by decide +kernel
theorem dd_169_221 : decode prog_13_method_16_code 221 = .ok (.ireturn, 1) := by decide +kernel
theorem dd_169_222 : decode prog_13_method_16_code 222 = .ok (.iload_n 3, 1) := by decide +kernel
theorem dd_169_223 : decode prog_13_method_16_code 223 = .ok (.bipush 92, 2) := by decide +kernel
theorem dd_169_225 : decode prog_13_method_16_code 225 = .ok (.if_icmp .ne 34, 3) := by decide +kernel
theorem dd_169_228 : decode prog_13_method_16_code 228 = .ok (.aload_n 0, 1) := by decide +kernel
theorem dd_169_229 : decode prog_13_method_16_code 229 = .ok (.getfield 17, 3) := by decide +kernel
theorem dd_169_232 : decode prog_13_method_16_code 232 = .ok (.iload_n 2, 1) := by decide +kernel
theorem dd_169_233 : decode prog_13_method_16_code 233 = .ok (.iconst 5, 1) := by decide +kernel
theorem dd_169_234 : decode prog_13_method_16_code 234 = .ok (.iastore, 1) := by decide +kernel
theorem dd_169_235 : decode prog_13_method_16_code 235 = .ok (.aload_n 0, 1) := by decide +kernel
theorem dd_169_236 : decode prog_13_method_16_code 236 = .ok (.dup, 1) := by decide +kernel
theorem dd_169_237 : decode prog_13_method_16_code 237 = .ok (.getfield 105, 3) := by decide +kernel
theorem dd_169_240 : decode prog_13_method_16_code 240 = .ok (.iconst 1, 1) := by decide +kernel
theorem dd_169_241 : decode prog_13_method_16_code 241 = .ok (.iadd, 1) := by decide +kernel
theorem dd_169_242 : decode prog_13_method_16_code 242 = .ok (.putfield 105, 3) := by decide +kernel
theorem dd_169_245 : decode prog_13_method_16_code 245 = .ok (.aload_n 0, 1) := by decide +kernel
theorem dd_169_246 : decode prog_13_method_16_code 246 = .ok (.iload_n 2, 1) := by decide +kernel
theorem dd_169_247 : decode prog_13_method_16_code 247 = .ok (.invokevirtual 153, 3) := by decide +kernel
theorem dd_169_250 : decode prog_13_method_16_code 250 = .ok (.ifCond .eq 7, 3) := by decide +kernel
theorem dd_169_253 : decode prog_13_method_16_code 253 = .ok (.iconst 1, 1) := by decide +kernel
theorem dd_169_254 : decode prog_13_method_16_code 254 = .ok (.goto 4, 3) := by decide +kernel
theorem dd_169_257 : decode prog_13_method_16_code 257 = .ok (.iconst (-1), 1) := by decide +kernel
theorem dd_169_258 : decode prog_13_method_16_code 258 = .ok (.ireturn, 1) := by decide +kernel
theorem dd_169_259 : decode prog_13_method_16_code 259 = .ok (.iload_n 3, 1) := by decide +kernel
theorem dd_169_260 : decode prog_13_method_16_code 260 = .ok (.bipush 58, 2) := by decide +kernel
theorem dd_169_262 : decode prog_13_method_16_code 262 = .ok (.if_icmp .eq 9, 3) := by decide +kernel
theorem dd_169_265 : decode prog_13_method_16_code 265 = .ok (.iload_n 3, 1) := by decide +kernel
theorem dd_169_266 : decode prog_13_method_16_code 266 = .ok (.bipush 59, 2) := by decide +kernel
theorem dd_169_268 : decode prog_13_method_16_code 268 = .ok (.if_icmp .ne 47, 3) := by decide +kernel
theorem dd_169_271 : decode prog_13_method_16_code 271 = .ok (.aload_n 0, 1) := by decide +kernel
theorem dd_169_272 : decode prog_13_method_16_code 272 = .ok (.getfield 17, 3) := by decide +kernel
theorem dd_169_275 : decode prog_13_method_16_code 275 = .ok (.iload_n 2, 1) := by decide +kernel
theorem dd_169_276 : decode prog_13_method_16_code 276 = .ok (.iload_n 3, 1) := by decide +kernel
theorem dd_169_277 : decode prog_13_method_16_code 277 = .ok (.bipush 58, 2) := by decide +kernel
theorem dd_169_279 : decode prog_13_method_16_code 279 = .ok (.if_icmp .ne 8, 3) := by decide +kernel
theorem dd_169_282 : decode prog_13_method_16_code 282 = .ok (.bipush 6, 2) := by decide +kernel
theorem dd_169_284 : decode prog_13_method_16_code 284 = .ok (.goto 5, 3) := by decide +kernel
theorem dd_169_287 : decode prog_13_method_16_code 287 = .ok (.bipush 7, 2) := by decide +kernel
theorem dd_169_289 : decode prog_13_method_16_code 289 = .ok (.iastore, 1) := by decide +kernel
theorem dd_169_290 : decode prog_13_method_16_code 290 = .ok (.aload_n 0, 1) := by decide +kernel
theorem dd_169_291 : decode prog_13_method_16_code 291 = .ok (.dup, 1) := by decide +kernel
theorem dd_169_292 : decode prog_13_method_16_code 292 = .ok (.getfield 105, 3) := by decide +kernel
theorem dd_169_295 : decode prog_13_method_16_code 295 = .ok (.iconst 1, 1) := by decide +kernel
theorem dd_169_296 : decode prog_13_method_16_code 296 = .ok (.iadd, 1) := by decide +kernel
theorem dd_169_297 : decode prog_13_method_16_code 297 = .ok (.putfield 105, 3) := by decide +kernel
theorem dd_169_300 : decode prog_13_method_16_code 300 = .ok (.aload_n 0, 1) := by decide +kernel
theorem dd_169_301 : decode prog_13_method_16_code 301 = .ok (.bipush 32, 2) := by decide +kernel
theorem dd_169_303 : decode prog_13_method_16_code 303 = .ok (.invokevirtual 115, 3) := by decide +kernel
theorem dd_169_306 : decode prog_13_method_16_code 306 = .ok (.ifCond .eq 7, 3) := by decide +kernel
theorem dd_169_309 : decode prog_13_method_16_code 309 = .ok (.iconst 1, 1) := by decide +kernel
theorem dd_169_310 : decode prog_13_method_16_code 310 = .ok (.goto 4, 3) := by decide +kernel
theorem dd_169_313 : decode prog_13_method_16_code 313 = .ok (.iconst (-1), 1) := by decide +kernel
theorem dd_169_314 : decode prog_13_method_16_code 314 = .ok (.ireturn, 1) := by decide +kernel
theorem dd_169_315 : decode prog_13_method_16_code 315 = .ok (.aload_n 0, 1) := by decide +kernel
theorem dd_169_316 : decode prog_13_method_16_code 316 = .ok (.getfield 17, 3) := by decide +kernel
theorem dd_169_319 : decode prog_13_method_16_code 319 = .ok (.iload_n 2, 1) := by decide +kernel
theorem dd_169_320 : decode prog_13_method_16_code 320 = .ok (.iconst 4, 1) := by decide +kernel
theorem dd_169_321 : decode prog_13_method_16_code 321 = .ok (.iastore, 1) := by decide +kernel
theorem dd_169_322 : decode prog_13_method_16_code 322 = .ok (.iconst 1, 1) := by decide +kernel
theorem dd_169_323 : decode prog_13_method_16_code 323 = .ok (.ireturn, 1) := by decide +kernel
set_option maxRecDepth 100000 in
theorem okI_169 : mj_okI gG "PairMachineModel" prog_13_method_16_code 5 (mj_off oM_169) (Option.some Jvm.ClassFile.FieldType.int) false true 0 cM_169 :=
  ⟨Or.inl ⟨0, rfl, dd_169_0, rfl⟩,
   Or.inl (Or.inl ⟨dd_169_1, rfl⟩),
   Or.inl ⟨1, rfl, dd_169_2, rfl⟩,
   ⟨rfl, tw_861, by decide, tw_12, by decide +kernel, 138, tw_862, dd_169_3, tw_863, ⟨"PairMachineModel", fT10, 45, rfl, tw_864⟩, by decide +kernel⟩,
   ⟨by decide, Or.inl ⟨2, rfl, dd_169_6, rfl⟩⟩,
   Or.inl ⟨0, rfl, dd_169_7, rfl⟩,
   Or.inl (Or.inl ⟨dd_169_8, rfl⟩),
   ⟨rfl, tw_833, by decide, tw_12, by decide +kernel, 108, tw_834, dd_169_9, tw_835, ⟨"PairMachineModel", fT10, 45, rfl, tw_836⟩, by decide +kernel⟩,
   ⟨by decide, Or.inl ⟨3, rfl, dd_169_12, rfl⟩⟩,
   Or.inl ⟨3, rfl, dd_169_13, rfl⟩,
   ⟨rfl, tw_850, by decide, tw_12, by decide +kernel, 129, tw_851, dd_169_14, tw_852, by decide +kernel⟩,
   ⟨29, dd_169_17, rfl, rfl⟩,
   Or.inl ⟨0, rfl, dd_169_20, rfl⟩,
   ⟨17, "PairMachineModel", fT10, 45, dd_169_21, rfl, okc_10, by decide, tw_803⟩,
   Or.inl ⟨2, rfl, dd_169_24, rfl⟩,
   Or.inl (Or.inl ⟨dd_169_25, rfl⟩),
   ⟨dd_169_26, rfl⟩,
   Or.inl ⟨0, rfl, dd_169_27, rfl⟩,
   ⟨27, "PairMachineModel", fT10, 45, dd_169_28, rfl, okc_10, by decide, tw_806⟩,
   Or.inl ⟨2, rfl, dd_169_31, rfl⟩,
   Or.inl ⟨3, rfl, dd_169_32, rfl⟩,
   ⟨dd_169_33, rfl⟩,
   Or.inl ⟨0, rfl, dd_169_34, rfl⟩,
   ⟨dd_169_35, rfl⟩,
   ⟨105, "PairMachineModel", fT10, 45, dd_169_36, rfl, okc_10, by decide, tw_832⟩,
   Or.inl (Or.inl ⟨dd_169_39, rfl⟩),
   ⟨dd_169_40, rfl⟩,
   ⟨105, "PairMachineModel", fT10, 45, dd_169_41, rfl, okc_10, by decide, tw_832, rfl, Or.inl rfl⟩,
   Or.inl (Or.inl ⟨dd_169_44, rfl⟩),
   ⟨dd_169_45, rfl⟩,
   Or.inl ⟨3, rfl, dd_169_46, rfl⟩,
   Or.inl (Or.inr (Or.inl ⟨dd_169_47, rfl, by decide⟩)),
   ⟨47, dd_169_49, rfl, rfl⟩,
   Or.inl ⟨0, rfl, dd_169_52, rfl⟩,
   ⟨17, "PairMachineModel", fT10, 45, dd_169_53, rfl, okc_10, by decide, tw_803⟩,
   Or.inl ⟨2, rfl, dd_169_56, rfl⟩,
   Or.inl (Or.inl ⟨dd_169_57, rfl⟩),
   ⟨dd_169_58, rfl⟩,
   Or.inl ⟨0, rfl, dd_169_59, rfl⟩,
   ⟨dd_169_60, rfl⟩,
   ⟨105, "PairMachineModel", fT10, 45, dd_169_61, rfl, okc_10, by decide, tw_832⟩,
   Or.inl (Or.inl ⟨dd_169_64, rfl⟩),
   ⟨dd_169_65, rfl⟩,
   ⟨105, "PairMachineModel", fT10, 45, dd_169_66, rfl, okc_10, by decide, tw_832, rfl, Or.inl rfl⟩,
   Or.inl ⟨0, rfl, dd_169_69, rfl⟩,
   ⟨rfl, tw_865, by decide, tw_12, by decide +kernel, 142, tw_866, dd_169_70, tw_867, ⟨"PairMachineModel", fT10, 45, rfl, tw_868⟩, by decide +kernel⟩,
   ⟨by decide, Or.inr ⟨dd_169_73, rfl⟩⟩,
   Or.inl ⟨0, rfl, dd_169_75, rfl⟩,
   ⟨24, "PairMachineModel", fT10, 45, dd_169_76, rfl, okc_10, by decide, tw_805⟩,
   Or.inl ⟨2, rfl, dd_169_79, rfl⟩,
   Or.inl ⟨0, rfl, dd_169_80, rfl⟩,
   ⟨105, "PairMachineModel", fT10, 45, dd_169_81, rfl, okc_10, by decide, tw_832⟩,
   ⟨dd_169_84, rfl⟩,
   Or.inr ⟨dd_169_85, rfl⟩,
   ⟨7, dd_169_87, rfl, rfl⟩,
   Or.inl (Or.inl ⟨dd_169_90, rfl⟩),
   ⟨4, dd_169_91, rfl⟩,
   Or.inl (Or.inl ⟨dd_169_94, rfl⟩),
   ⟨dd_169_95, rfl⟩,
   Or.inl ⟨3, rfl, dd_169_96, rfl⟩,
   Or.inl (Or.inr (Or.inl ⟨dd_169_97, rfl, by decide⟩)),
   ⟨45, dd_169_99, rfl, rfl⟩,
   Or.inl ⟨0, rfl, dd_169_102, rfl⟩,
   ⟨rfl, tw_853, by decide, tw_12, by decide +kernel, 132, tw_854, dd_169_103, tw_855, ⟨"PairMachineModel", fT10, 45, rfl, tw_856⟩, by decide +kernel⟩,
   ⟨by decide, Or.inr ⟨dd_169_106, rfl⟩⟩,
   Or.inl ⟨0, rfl, dd_169_108, rfl⟩,
   ⟨27, "PairMachineModel", fT10, 45, dd_169_109, rfl, okc_10, by decide, tw_806⟩,
   Or.inl ⟨2, rfl, dd_169_112, rfl⟩,
   Or.inr ⟨dd_169_113, rfl⟩,
   ⟨16, dd_169_115, rfl, rfl⟩,
   Or.inl ⟨0, rfl, dd_169_118, rfl⟩,
   Or.inl ⟨0, rfl, dd_169_119, rfl⟩,
   ⟨21, "PairMachineModel", fT10, 45, dd_169_120, rfl, okc_10, by decide, tw_804⟩,
   Or.inl ⟨2, rfl, dd_169_123, rfl⟩,
   ⟨dd_169_124, rfl⟩,
   ⟨rfl, tw_869, by decide, tw_12, by decide +kernel, 145, tw_870, dd_169_125, tw_871, ⟨"PairMachineModel", fT10, 45, rfl, tw_872⟩, by decide +kernel⟩,
   ⟨4, dd_169_128, rfl⟩,
   Or.inl (Or.inl ⟨dd_169_131, rfl⟩),
   ⟨dd_169_132, rfl⟩,
   Or.inr ⟨dd_169_133, rfl⟩,
   ⟨7, dd_169_135, rfl, rfl⟩,
   Or.inl (Or.inl ⟨dd_169_138, rfl⟩),
   ⟨4, dd_169_139, rfl⟩,
   Or.inl (Or.inl ⟨dd_169_142, rfl⟩),
   ⟨dd_169_143, rfl⟩,
   Or.inl ⟨0, rfl, dd_169_144, rfl⟩,
   ⟨rfl, tw_846, by decide, tw_12, by decide +kernel, 125, tw_847, dd_169_145, tw_848, ⟨"PairMachineModel", fT10, 45, rfl, tw_849⟩, by decide +kernel⟩,
   ⟨5, dd_169_148, rfl, rfl⟩,
   Or.inl (Or.inl ⟨dd_169_151, rfl⟩),
   ⟨dd_169_152, rfl⟩,
   Or.inl ⟨0, rfl, dd_169_153, rfl⟩,
   Or.inl (Or.inl ⟨dd_169_154, rfl⟩),
   ⟨rfl, tw_833, by decide, tw_12, by decide +kernel, 108, tw_834, dd_169_155, tw_835, ⟨"PairMachineModel", fT10, 45, rfl, tw_836⟩, by decide +kernel⟩,
   ⟨by decide, Or.inl ⟨3, rfl, dd_169_158, rfl⟩⟩,
   Or.inl ⟨3, rfl, dd_169_159, rfl⟩,
   ⟨rfl, tw_873, by decide, tw_12, by decide +kernel, 149, tw_874, dd_169_160, tw_875, by decide +kernel⟩,
   ⟨59, dd_169_163, rfl, rfl⟩,
   Or.inl ⟨3, rfl, dd_169_166, rfl⟩,
   Or.inl (Or.inr (Or.inl ⟨dd_169_167, rfl, by decide⟩)),
   ⟨14, dd_169_169, rfl, rfl⟩,
   Or.inl ⟨0, rfl, dd_169_172, rfl⟩,
   Or.inl (Or.inl ⟨dd_169_173, rfl⟩),
   ⟨rfl, tw_833, by decide, tw_12, by decide +kernel, 108, tw_834, dd_169_174, tw_835, ⟨"PairMachineModel", fT10, 45, rfl, tw_836⟩, by decide +kernel⟩,
   ⟨rfl, tw_843, by decide, tw_12, by decide +kernel, 122, tw_844, dd_169_177, tw_845, by decide +kernel⟩,
   ⟨42, dd_169_180, rfl, rfl⟩,
   Or.inl ⟨0, rfl, dd_169_183, rfl⟩,
   ⟨17, "PairMachineModel", fT10, 45, dd_169_184, rfl, okc_10, by decide, tw_803⟩,
   Or.inl ⟨2, rfl, dd_169_187, rfl⟩,
   Or.inl (Or.inl ⟨dd_169_188, rfl⟩),
   ⟨dd_169_189, rfl⟩,
   Or.inl ⟨0, rfl, dd_169_190, rfl⟩,
   ⟨27, "PairMachineModel", fT10, 45, dd_169_191, rfl, okc_10, by decide, tw_806⟩,
   Or.inl ⟨2, rfl, dd_169_194, rfl⟩,
   Or.inl ⟨3, rfl, dd_169_195, rfl⟩,
   ⟨dd_169_196, rfl⟩,
   Or.inl ⟨0, rfl, dd_169_197, rfl⟩,
   ⟨dd_169_198, rfl⟩,
   ⟨105, "PairMachineModel", fT10, 45, dd_169_199, rfl, okc_10, by decide, tw_832⟩,
   Or.inl (Or.inl ⟨dd_169_202, rfl⟩),
   ⟨dd_169_203, rfl⟩,
   ⟨105, "PairMachineModel", fT10, 45, dd_169_204, rfl, okc_10, by decide, tw_832, rfl, Or.inl rfl⟩,
   Or.inl ⟨0, rfl, dd_169_207, rfl⟩,
   Or.inl (Or.inr (Or.inl ⟨dd_169_208, rfl, by decide⟩)),
   ⟨rfl, tw_838, by decide, tw_12, by decide +kernel, 115, tw_839, dd_169_210, tw_840, ⟨"PairMachineModel", fT10, 45, rfl, tw_841⟩, by decide +kernel⟩,
   ⟨7, dd_169_213, rfl, rfl⟩,
   Or.inl (Or.inl ⟨dd_169_216, rfl⟩),
   ⟨4, dd_169_217, rfl⟩,
   Or.inl (Or.inl ⟨dd_169_220, rfl⟩),
   ⟨dd_169_221, rfl⟩,
   Or.inl ⟨3, rfl, dd_169_222, rfl⟩,
   Or.inl (Or.inr (Or.inl ⟨dd_169_223, rfl, by decide⟩)),
   ⟨34, dd_169_225, rfl, rfl⟩,
   Or.inl ⟨0, rfl, dd_169_228, rfl⟩,
   ⟨17, "PairMachineModel", fT10, 45, dd_169_229, rfl, okc_10, by decide, tw_803⟩,
   Or.inl ⟨2, rfl, dd_169_232, rfl⟩,
   Or.inl (Or.inl ⟨dd_169_233, rfl⟩),
   ⟨dd_169_234, rfl⟩,
   Or.inl ⟨0, rfl, dd_169_235, rfl⟩,
   ⟨dd_169_236, rfl⟩,
   ⟨105, "PairMachineModel", fT10, 45, dd_169_237, rfl, okc_10, by decide, tw_832⟩,
   Or.inl (Or.inl ⟨dd_169_240, rfl⟩),
   ⟨dd_169_241, rfl⟩,
   ⟨105, "PairMachineModel", fT10, 45, dd_169_242, rfl, okc_10, by decide, tw_832, rfl, Or.inl rfl⟩,
   Or.inl ⟨0, rfl, dd_169_245, rfl⟩,
   Or.inl ⟨2, rfl, dd_169_246, rfl⟩,
   ⟨rfl, tw_876, by decide, tw_12, by decide +kernel, 153, tw_877, dd_169_247, tw_878, ⟨"PairMachineModel", fT10, 45, rfl, tw_879⟩, by decide +kernel⟩,
   ⟨7, dd_169_250, rfl, rfl⟩,
   Or.inl (Or.inl ⟨dd_169_253, rfl⟩),
   ⟨4, dd_169_254, rfl⟩,
   Or.inl (Or.inl ⟨dd_169_257, rfl⟩),
   ⟨dd_169_258, rfl⟩,
   Or.inl ⟨3, rfl, dd_169_259, rfl⟩,
   Or.inl (Or.inr (Or.inl ⟨dd_169_260, rfl, by decide⟩)),
   ⟨9, dd_169_262, rfl, rfl⟩,
   Or.inl ⟨3, rfl, dd_169_265, rfl⟩,
   Or.inl (Or.inr (Or.inl ⟨dd_169_266, rfl, by decide⟩)),
   ⟨47, dd_169_268, rfl, rfl⟩,
   Or.inl ⟨0, rfl, dd_169_271, rfl⟩,
   ⟨17, "PairMachineModel", fT10, 45, dd_169_272, rfl, okc_10, by decide, tw_803⟩,
   Or.inl ⟨2, rfl, dd_169_275, rfl⟩,
   Or.inl ⟨3, rfl, dd_169_276, rfl⟩,
   Or.inl (Or.inr (Or.inl ⟨dd_169_277, rfl, by decide⟩)),
   ⟨8, dd_169_279, rfl, rfl⟩,
   Or.inl (Or.inr (Or.inl ⟨dd_169_282, rfl, by decide⟩)),
   ⟨5, dd_169_284, rfl⟩,
   Or.inl (Or.inr (Or.inl ⟨dd_169_287, rfl, by decide⟩)),
   ⟨dd_169_289, rfl⟩,
   Or.inl ⟨0, rfl, dd_169_290, rfl⟩,
   ⟨dd_169_291, rfl⟩,
   ⟨105, "PairMachineModel", fT10, 45, dd_169_292, rfl, okc_10, by decide, tw_832⟩,
   Or.inl (Or.inl ⟨dd_169_295, rfl⟩),
   ⟨dd_169_296, rfl⟩,
   ⟨105, "PairMachineModel", fT10, 45, dd_169_297, rfl, okc_10, by decide, tw_832, rfl, Or.inl rfl⟩,
   Or.inl ⟨0, rfl, dd_169_300, rfl⟩,
   Or.inl (Or.inr (Or.inl ⟨dd_169_301, rfl, by decide⟩)),
   ⟨rfl, tw_838, by decide, tw_12, by decide +kernel, 115, tw_839, dd_169_303, tw_840, ⟨"PairMachineModel", fT10, 45, rfl, tw_841⟩, by decide +kernel⟩,
   ⟨7, dd_169_306, rfl, rfl⟩,
   Or.inl (Or.inl ⟨dd_169_309, rfl⟩),
   ⟨4, dd_169_310, rfl⟩,
   Or.inl (Or.inl ⟨dd_169_313, rfl⟩),
   ⟨dd_169_314, rfl⟩,
   Or.inl ⟨0, rfl, dd_169_315, rfl⟩,
   ⟨17, "PairMachineModel", fT10, 45, dd_169_316, rfl, okc_10, by decide, tw_803⟩,
   Or.inl ⟨2, rfl, dd_169_319, rfl⟩,
   Or.inl (Or.inl ⟨dd_169_320, rfl⟩),
   ⟨dd_169_321, rfl⟩,
   Or.inl (Or.inl ⟨dd_169_322, rfl⟩),
   ⟨dd_169_323, rfl⟩, trivial⟩
theorem okM_169 : mj_okE gG 169 (cM_169, 5, oM_169, hM_169) := ⟨rfl, rfl, by decide +kernel, trivial, okI_169⟩
end
