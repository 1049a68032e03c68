section
theorem dd_192_0 : decode prog_13_method_38_code 0 = .ok (.aload_n 0, 1) := by decide +kernel
theorem dd_192_1 : decode prog_13_method_38_code 1 = .ok (.invokevirtual 220, 3) := by decide +kernel
theorem dd_192_4 : decode prog_13_method_38_code 4 = .ok (.istore_n 1, 1) := by decide +kernel
theorem dd_192_5 : decode prog_13_method_38_code 5 = .ok (.iconst 0, 1) := by decide +kernel
theorem dd_192_6 : decode prog_13_method_38_code 6 = .ok (.istore_n 2, 1) := by decide +kernel
theorem dd_192_7 : decode prog_13_method_38_code 7 = .ok (.iconst 0, 1) := by decide +kernel
theorem dd_192_8 : decode prog_13_method_38_code 8 = .ok (.istore_n 3, 1) := by decide +kernel
theorem dd_192_9 : decode prog_13_method_38_code 9 = .ok (.iload_n 3, 1) := by decide +kernel
theorem dd_192_10 : decode prog_13_method_38_code 10 = .ok (.aload_n 0, 1) := by decide +kernel
theorem dd_192_11 : decode prog_13_method_38_code 11 = .ok (.getfield 94, 3) := by decide +kernel
theorem dd_192_14 : decode prog_13_method_38_code 14 = .ok (.if_icmp .ge 47, 3) := by decide +kernel
theorem dd_192_17 : decode prog_13_method_38_code 17 = .ok (.aload_n 0, 1) := by decide +kernel
theorem dd_192_18 : decode prog_13_method_38_code 18 = .ok (.getfield 63, 3) := by decide +kernel
theorem dd_192_21 : decode prog_13_method_38_code 21 = .ok (.iload_n 3, 1) := by decide +kernel
theorem dd_192_22 : decode prog_13_method_38_code 22 = .ok (.baload, 1) := by decide +kernel
theorem dd_192_23 : decode prog_13_method_38_code 23 = .ok (.ifCond .eq 18, 3) := by decide +kernel
theorem dd_192_26 : decode prog_13_method_38_code 26 = .ok (.aload_n 0, 1) := by decide +kernel
theorem dd_192_27 : decode prog_13_method_38_code 27 = .ok (.getfield 82, 3) := by decide +kernel
theorem dd_192_30 : decode prog_13_method_38_code 30 = .ok (.iload_n 3, 1) := by decide +kernel
theorem dd_192_31 : decode prog_13_method_38_code 31 = .ok (.baload, 1) := by decide +kernel
theorem dd_192_32 : decode prog_13_method_38_code 32 = .ok (.ifCond .ne 9, 3) := by decide +kernel
theorem dd_192_35 : decode prog_13_method_38_code 35 = .ok (.iload_n 2, 1) := by decide +kernel
theorem dd_192_36 : decode prog_13_method_38_code 36 = .ok (.iconst 1, 1) := by decide +kernel
theorem dd_192_37 : decode prog_13_method_38_code 37 = .ok (.iadd, 1) := by decide +kernel
theorem dd_192_38 : decode prog_13_method_38_code 38 = .ok (.goto 4, 3) := by decide +kernel
theorem dd_192_41 : decode prog_13_method_38_code 41 = .ok (.iload_n 2, 1) := by decide +kernel
theorem dd_192_42 : decode prog_13_method_38_code 42 = .ok (.istore_n 2, 1) := by decide +kernel
theorem dd_192_43 : decode prog_13_method_38_code 43 = .ok (.aload_n 0, 1) := by decide +kernel
theorem dd_192_44 : decode prog_13_method_38_code 44 = .ok (.getfield 63, 3) := by decide +kernel
theorem dd_192_47 : decode prog_13_method_38_code 47 = .ok (.iload_n 3, 1) := by decide +kernel
theorem dd_192_48 : decode prog_13_method_38_code 48 = .ok (.aload_n 0, 1) := by decide +kernel
theorem dd_192_49 : decode prog_13_method_38_code 49 = .ok (.getfield 82, 3) := by decide +kernel
theorem dd_192_52 : decode prog_13_method_38_code 52 = .ok (.iload_n 3, 1) := by decide +kernel
theorem dd_192_53 : decode prog_13_method_38_code 53 = .ok (.baload, 1) := by decide +kernel
theorem dd_192_54 : decode prog_13_method_38_code 54 = .ok (.bastore, 1) := by decide +kernel
theorem dd_192_55 : decode prog_13_method_38_code 55 = .ok (.iinc 3 1, 3) := by decide +kernel
theorem dd_192_58 : decode prog_13_method_38_code 58 = .ok (.goto (-49), 3) := by decide +kernel
theorem dd_192_61 : decode prog_13_method_38_code 61 = .ok (.iload_n 1, 1) := by decide +kernel
theorem dd_192_62 : decode prog_13_method_38_code 62 = .ok (.ifCond .lt 7, 3) := by decide +kernel
theorem dd_192_65 : decode prog_13_method_38_code 65 = .ok (.iload_n 2, 1) := by decide +kernel
theorem dd_192_66 : decode prog_13_method_38_code 66 = .ok (.goto 4, 3) := by decide +kernel
theorem dd_192_69 : decode prog_13_method_38_code 69 = .ok (.iconst 0, 1) := by decide +kernel
theorem dd_192_70 : decode prog_13_method_38_code 70 = .ok (.ireturn, 1) := by decide +kernel
set_option maxRecDepth 100000 in
theorem okI_192 : mj_okI gG "PairMachineModel" prog_13_method_38_code 4 (mj_off oM_192) (Option.some Jvm.ClassFile.FieldType.int) false true 0 cM_192 :=
  ⟨Or.inl ⟨0, rfl, dd_192_0, rfl⟩,
   ⟨rfl, tw_951, by decide, tw_12, by decide +kernel, 220, tw_952, dd_192_1, tw_953, ⟨"PairMachineModel", fT10, 45, rfl, tw_954⟩, by decide +kernel⟩,
   ⟨by decide, Or.inl ⟨1, rfl, dd_192_4, rfl⟩⟩,
   Or.inl (Or.inl ⟨dd_192_5, rfl⟩),
   ⟨by decide, Or.inl ⟨2, rfl, dd_192_6, rfl⟩⟩,
   Or.inl (Or.inl ⟨dd_192_7, rfl⟩),
   ⟨by decide, Or.inl ⟨3, rfl, dd_192_8, rfl⟩⟩,
   Or.inl ⟨3, rfl, dd_192_9, rfl⟩,
   Or.inl ⟨0, rfl, dd_192_10, rfl⟩,
   ⟨94, "PairMachineModel", fT10, 45, dd_192_11, rfl, okc_10, by decide, tw_832⟩,
   ⟨47, dd_192_14, rfl, rfl⟩,
   Or.inl ⟨0, rfl, dd_192_17, rfl⟩,
   ⟨63, "PairMachineModel", fT10, 45, dd_192_18, rfl, okc_10, by decide, tw_822⟩,
   Or.inl ⟨3, rfl, dd_192_21, rfl⟩,
   ⟨dd_192_22, rfl⟩,
   ⟨18, dd_192_23, rfl, rfl⟩,
   Or.inl ⟨0, rfl, dd_192_26, rfl⟩,
   ⟨82, "PairMachineModel", fT10, 45, dd_192_27, rfl, okc_10, by decide, tw_828⟩,
   Or.inl ⟨3, rfl, dd_192_30, rfl⟩,
   ⟨dd_192_31, rfl⟩,
   ⟨9, dd_192_32, rfl, rfl⟩,
   Or.inl ⟨2, rfl, dd_192_35, rfl⟩,
   Or.inl (Or.inl ⟨dd_192_36, rfl⟩),
   ⟨dd_192_37, rfl⟩,
   ⟨4, dd_192_38, rfl⟩,
   Or.inl ⟨2, rfl, dd_192_41, rfl⟩,
   ⟨by decide, Or.inl ⟨2, rfl, dd_192_42, rfl⟩⟩,
   Or.inl ⟨0, rfl, dd_192_43, rfl⟩,
   ⟨63, "PairMachineModel", fT10, 45, dd_192_44, rfl, okc_10, by decide, tw_822⟩,
   Or.inl ⟨3, rfl, dd_192_47, rfl⟩,
   Or.inl ⟨0, rfl, dd_192_48, rfl⟩,
   ⟨82, "PairMachineModel", fT10, 45, dd_192_49, rfl, okc_10, by decide, tw_828⟩,
   Or.inl ⟨3, rfl, dd_192_52, rfl⟩,
   ⟨dd_192_53, rfl⟩,
   ⟨dd_192_54, rfl⟩,
   ⟨by decide, dd_192_55, rfl⟩,
   ⟨(-49), dd_192_58, rfl⟩,
   Or.inl ⟨1, rfl, dd_192_61, rfl⟩,
   ⟨7, dd_192_62, rfl, rfl⟩,
   Or.inl ⟨2, rfl, dd_192_65, rfl⟩,
   ⟨4, dd_192_66, rfl⟩,
   Or.inl (Or.inl ⟨dd_192_69, rfl⟩),
   ⟨dd_192_70, rfl⟩, trivial⟩
theorem okM_192 : mj_okE gG 192 (cM_192, 4, oM_192, hM_192) := ⟨rfl, rfl, by decide +kernel, trivial, okI_192⟩
theorem dd_193_0 : decode prog_13_method_39_code 0 = .ok (.aload_n 0, 1) := by decide +kernel
theorem dd_193_1 : decode prog_13_method_39_code 1 = .ok (.invokevirtual 224, 3) := by decide +kernel
theorem dd_193_4 : decode prog_13_method_39_code 4 = .ok (.istore_n 1, 1) := by decide +kernel
theorem dd_193_5 : decode prog_13_method_39_code 5 = .ok (.aload_n 0, 1) := by decide +kernel
theorem dd_193_6 : decode prog_13_method_39_code 6 = .ok (.iload_n 1, 1) := by decide +kernel
theorem dd_193_7 : decode prog_13_method_39_code 7 = .ok (.ifCond .eq 10, 3) := by decide +kernel
theorem dd_193_10 : decode prog_13_method_39_code 10 = .ok (.aload_n 0, 1) := by decide +kernel
theorem dd_193_11 : decode prog_13_method_39_code 11 = .ok (.invokevirtual 227, 3) := by decide +kernel
theorem dd_193_14 : decode prog_13_method_39_code 14 = .ok (.goto 7, 3) := by decide +kernel
theorem dd_193_17 : decode prog_13_method_39_code 17 = .ok (.aload_n 0, 1) := by decide +kernel
theorem dd_193_18 : decode prog_13_method_39_code 18 = .ok (.getfield 105, 3) := by decide +kernel
theorem dd_193_21 : decode prog_13_method_39_code 21 = .ok (.putfield 13, 3) := by decide +kernel
theorem dd_193_24 : decode prog_13_method_39_code 24 = .ok (.aload_n 0, 1) := by decide +kernel
theorem dd_193_25 : decode prog_13_method_39_code 25 = .ok (.aload_n 0, 1) := by decide +kernel
theorem dd_193_26 : decode prog_13_method_39_code 26 = .ok (.getfield 13, 3) := by decide +kernel
theorem dd_193_29 : decode prog_13_method_39_code 29 = .ok (.ifCond .lt 7, 3) := by decide +kernel
theorem dd_193_32 : decode prog_13_method_39_code 32 = .ok (.iconst 1, 1) := by decide +kernel
theorem dd_193_33 : decode prog_13_method_39_code 33 = .ok (.goto 4, 3) := by decide +kernel
theorem dd_193_36 : decode prog_13_method_39_code 36 = .ok (.iconst 0, 1) := by decide +kernel
theorem dd_193_37 : decode prog_13_method_39_code 37 = .ok (.putfield 97, 3) := by decide +kernel
theorem dd_193_40 : decode prog_13_method_39_code 40 = .ok (.aload_n 0, 1) := by decide +kernel
theorem dd_193_41 : decode prog_13_method_39_code 41 = .ok (.getfield 97, 3) := by decide +kernel
theorem dd_193_44 : decode prog_13_method_39_code 44 = .ok (.ifCond .ne 27, 3) := by decide +kernel
theorem dd_193_47 : decode prog_13_method_39_code 47 = .ok (.aload_n 0, 1) := by decide +kernel
theorem dd_193_48 : decode prog_13_method_39_code 48 = .ok (.invokevirtual 230, 3) := by decide +kernel
theorem dd_193_51 : decode prog_13_method_39_code 51 = .ok (.aload_n 0, 1) := by decide +kernel
theorem dd_193_52 : decode prog_13_method_39_code 52 = .ok (.aload_n 0, 1) := by decide +kernel
theorem dd_193_53 : decode prog_13_method_39_code 53 = .ok (.getfield 175, 3) := by decide +kernel
theorem dd_193_56 : decode prog_13_method_39_code 56 = .ok (.aload_n 0, 1) := by decide +kernel
theorem dd_193_57 : decode prog_13_method_39_code 57 = .ok (.getfield 94, 3) := by decide +kernel
theorem dd_193_60 : decode prog_13_method_39_code 60 = .ok (.if_icmp .le 7, 3) := by decide +kernel
theorem dd_193_63 : decode prog_13_method_39_code 63 = .ok (.iconst 2, 1) := by decide +kernel
theorem dd_193_64 : decode prog_13_method_39_code 64 = .ok (.goto 4, 3) := by decide +kernel
theorem dd_193_67 : decode prog_13_method_39_code 67 = .ok (.iconst 0, 1) := by decide +kernel
theorem dd_193_68 : decode prog_13_method_39_code 68 = .ok (.putfield 97, 3) := by decide +kernel
theorem dd_193_71 : decode prog_13_method_39_code 71 = .ok (.aload_n 0, 1) := by decide +kernel
theorem dd_193_72 : decode prog_13_method_39_code 72 = .ok (.iconst 0, 1) := by decide +kernel
theorem dd_193_73 : decode prog_13_method_39_code 73 = .ok (.putfield 102, 3) := by decide +kernel
theorem dd_193_76 : decode prog_13_method_39_code 76 = .ok (.aload_n 0, 1) := by decide +kernel
theorem dd_193_77 : decode prog_13_method_39_code 77 = .ok (.getfield 97, 3) := by decide +kernel
theorem dd_193_80 : decode prog_13_method_39_code 80 = .ok (.ifCond .le 5, 3) := by decide +kernel
theorem dd_193_83 : decode prog_13_method_39_code 83 = .ok (.iconst 0, 1) := by decide +kernel
theorem dd_193_84 : decode prog_13_method_39_code 84 = .ok (.ireturn, 1) := by decide +kernel
theorem dd_193_85 : decode prog_13_method_39_code 85 = .ok (.iconst 0, 1) := by decide +kernel
theorem dd_193_86 : decode prog_13_method_39_code 86 = .ok (.istore_n 2, 1) := by decide +kernel
theorem dd_193_87 : decode prog_13_method_39_code 87 = .ok (.iload_n 2, 1) := by decide +kernel
theorem dd_193_88 : decode prog_13_method_39_code 88 = .ok (.sipush 250, 3) := by decide +kernel
theorem dd_193_91 : decode prog_13_method_39_code 91 = .ok (.if_icmp .ge 16, 3) := by decide +kernel
theorem dd_193_94 : decode prog_13_method_39_code 94 = .ok (.aload_n 0, 1) := by decide +kernel
theorem dd_193_95 : decode prog_13_method_39_code 95 = .ok (.getfield 63, 3) := by decide +kernel
theorem dd_193_98 : decode prog_13_method_39_code 98 = .ok (.iload_n 2, 1) := by decide +kernel
theorem dd_193_99 : decode prog_13_method_39_code 99 = .ok (.iconst 0, 1) := by decide +kernel
theorem dd_193_100 : decode prog_13_method_39_code 100 = .ok (.bastore, 1) := by decide +kernel
theorem dd_193_101 : decode prog_13_method_39_code 101 = .ok (.iinc 2 1, 3) := by decide +kernel
theorem dd_193_104 : decode prog_13_method_39_code 104 = .ok (.goto (-17), 3) := by decide +kernel
theorem dd_193_107 : decode prog_13_method_39_code 107 = .ok (.iconst 0, 1) := by decide +kernel
theorem dd_193_108 : decode prog_13_method_39_code 108 = .ok (.istore_n 2, 1) := by decide +kernel
theorem dd_193_109 : decode prog_13_method_39_code 109 = .ok (.iload_n 2, 1) := by decide +kernel
theorem dd_193_110 : decode prog_13_method_39_code 110 = .ok (.iconst 4, 1) := by decide +kernel
theorem dd_193_111 : decode prog_13_method_39_code 111 = .ok (.if_icmp .ge 16, 3) := by decide +kernel
theorem dd_193_114 : decode prog_13_method_39_code 114 = .ok (.aload_n 0, 1) := by decide +kernel
theorem dd_193_115 : decode prog_13_method_39_code 115 = .ok (.getfield 88, 3) := by decide +kernel
theorem dd_193_118 : decode prog_13_method_39_code 118 = .ok (.iload_n 2, 1) := by decide +kernel
theorem dd_193_119 : decode prog_13_method_39_code 119 = .ok (.iconst (-1), 1) := by decide +kernel
theorem dd_193_120 : decode prog_13_method_39_code 120 = .ok (.iastore, 1) := by decide +kernel
theorem dd_193_121 : decode prog_13_method_39_code 121 = .ok (.iinc 2 1, 3) := by decide +kernel
theorem dd_193_124 : decode prog_13_method_39_code 124 = .ok (.goto (-15), 3) := by decide +kernel
theorem dd_193_127 : decode prog_13_method_39_code 127 = .ok (.aload_n 0, 1) := by decide +kernel
theorem dd_193_128 : decode prog_13_method_39_code 128 = .ok (.getfield 88, 3) := by decide +kernel
theorem dd_193_131 : decode prog_13_method_39_code 131 = .ok (.iconst 4, 1) := by decide +kernel
theorem dd_193_132 : decode prog_13_method_39_code 132 = .ok (.aload_n 0, 1) := by decide +kernel
theorem dd_193_133 : decode prog_13_method_39_code 133 = .ok (.invokevirtual 233, 3) := by decide +kernel
theorem dd_193_136 : decode prog_13_method_39_code 136 = .ok (.iastore, 1) := by decide +kernel
theorem dd_193_137 : decode prog_13_method_39_code 137 = .ok (.aload_n 0, 1) := by decide +kernel
theorem dd_193_138 : decode prog_13_method_39_code 138 = .ok (.iconst 1, 1) := by decide +kernel
theorem dd_193_139 : decode prog_13_method_39_code 139 = .ok (.putfield 236, 3) := by decide +kernel
theorem dd_193_142 : decode prog_13_method_39_code 142 = .ok (.aload_n 0, 1) := by decide +kernel
theorem dd_193_143 : decode prog_13_method_39_code 143 = .ok (.iconst 0, 1) := by decide +kernel
theorem dd_193_144 : decode prog_13_method_39_code 144 = .ok (.putfield 240, 3) := by decide +kernel
theorem dd_193_147 : decode prog_13_method_39_code 147 = .ok (.aload_n 0, 1) := by decide +kernel
theorem dd_193_148 : decode prog_13_method_39_code 148 = .ok (.iconst 0, 1) := by decide +kernel
theorem dd_193_149 : decode prog_13_method_39_code 149 = .ok (.putfield 243, 3) := by decide +kernel
theorem dd_193_152 : decode prog_13_method_39_code 152 = .ok (.aload_n 0, 1) := by decide +kernel
theorem dd_193_153 : decode prog_13_method_39_code 153 = .ok (.iconst 0, 1) := by decide +kernel
theorem dd_193_154 : decode prog_13_method_39_code 154 = .ok (.putfield 246, 3) := by decide +kernel
theorem dd_193_157 : decode prog_13_method_39_code 157 = .ok (.aload_n 0, 1) := by decide +kernel
theorem dd_193_158 : decode prog_13_method_39_code 158 = .ok (.iconst 0, 1) := by decide +kernel
theorem dd_193_159 : decode prog_13_method_39_code 159 = .ok (.putfield 249, 3) := by decide +kernel
theorem dd_193_162 : decode prog_13_method_39_code 162 = .ok (.aload_n 0, 1) := by decide +kernel
theorem dd_193_163 : decode prog_13_method_39_code 163 = .ok (.getfield 175, 3) := by decide +kernel
theorem dd_193_166 : decode prog_13_method_39_code 166 = .ok (.ireturn, 1) := by decide +kernel
set_option maxRecDepth 100000 in
theorem okI_193 : mj_okI gG "PairMachineModel" prog_13_method_39_code 3 (mj_off oM_193) (Option.some Jvm.ClassFile.FieldType.int) false true 0 cM_193 :=
  ⟨Or.inl ⟨0, rfl, dd_193_0, rfl⟩,
   ⟨rfl, tw_955, by decide, tw_12, by decide +kernel, 224, tw_956, dd_193_1, tw_957, ⟨"PairMachineModel", fT10, 45, rfl, tw_958⟩, by decide +kernel⟩,
   ⟨by decide, Or.inl ⟨1, rfl, dd_193_4, rfl⟩⟩,
   Or.inl ⟨0, rfl, dd_193_5, rfl⟩,
   Or.inl ⟨1, rfl, dd_193_6, rfl⟩,
   ⟨10, dd_193_7, rfl, rfl⟩,
   Or.inl ⟨0, rfl, dd_193_10, rfl⟩,
   ⟨rfl, tw_959, by decide, tw_12, by decide +kernel, 227, tw_960, dd_193_11, tw_961, ⟨"PairMachineModel", fT10, 45, rfl, tw_962⟩, by decide +kernel⟩,
   ⟨7, dd_193_14, rfl⟩,
   Or.inl ⟨0, rfl, dd_193_17, rfl⟩,
   ⟨105, "PairMachineModel", fT10, 45, dd_193_18, rfl, okc_10, by decide, tw_836⟩,
   ⟨13, "PairMachineModel", fT10, 45, dd_193_21, rfl, okc_10, by decide, tw_806, rfl, Or.inl rfl⟩,
   Or.inl ⟨0, rfl, dd_193_24, rfl⟩,
   Or.inl ⟨0, rfl, dd_193_25, rfl⟩,
   ⟨13, "PairMachineModel", fT10, 45, dd_193_26, rfl, okc_10, by decide, tw_806⟩,
   ⟨7, dd_193_29, rfl, rfl⟩,
   Or.inl (Or.inl ⟨dd_193_32, rfl⟩),
   ⟨4, dd_193_33, rfl⟩,
   Or.inl (Or.inl ⟨dd_193_36, rfl⟩),
   ⟨97, "PairMachineModel", fT10, 45, dd_193_37, rfl, okc_10, by decide, tw_833, rfl, Or.inl rfl⟩,
   Or.inl ⟨0, rfl, dd_193_40, rfl⟩,
   ⟨97, "PairMachineModel", fT10, 45, dd_193_41, rfl, okc_10, by decide, tw_833⟩,
   ⟨27, dd_193_44, rfl, rfl⟩,
   Or.inl ⟨0, rfl, dd_193_47, rfl⟩,
   ⟨rfl, tw_963, by decide, tw_12, by decide +kernel, 230, tw_964, dd_193_48, tw_965, ⟨"PairMachineModel", fT10, 45, rfl, tw_966⟩, by decide +kernel⟩,
   Or.inl ⟨0, rfl, dd_193_51, rfl⟩,
   Or.inl ⟨0, rfl, dd_193_52, rfl⟩,
   ⟨175, "PairMachineModel", fT10, 45, dd_193_53, rfl, okc_10, by decide, tw_905⟩,
   Or.inl ⟨0, rfl, dd_193_56, rfl⟩,
   ⟨94, "PairMachineModel", fT10, 45, dd_193_57, rfl, okc_10, by decide, tw_832⟩,
   ⟨7, dd_193_60, rfl, rfl⟩,
   Or.inl (Or.inl ⟨dd_193_63, rfl⟩),
   ⟨4, dd_193_64, rfl⟩,
   Or.inl (Or.inl ⟨dd_193_67, rfl⟩),
   ⟨97, "PairMachineModel", fT10, 45, dd_193_68, rfl, okc_10, by decide, tw_833, rfl, Or.inl rfl⟩,
   Or.inl ⟨0, rfl, dd_193_71, rfl⟩,
   Or.inl (Or.inl ⟨dd_193_72, rfl⟩),
   ⟨102, "PairMachineModel", fT10, 45, dd_193_73, rfl, okc_10, by decide, tw_835, rfl, Or.inl rfl⟩,
   Or.inl ⟨0, rfl, dd_193_76, rfl⟩,
   ⟨97, "PairMachineModel", fT10, 45, dd_193_77, rfl, okc_10, by decide, tw_833⟩,
   ⟨5, dd_193_80, rfl, rfl⟩,
   Or.inl (Or.inl ⟨dd_193_83, rfl⟩),
   ⟨dd_193_84, rfl⟩,
   Or.inl (Or.inl ⟨dd_193_85, rfl⟩),
   ⟨by decide, Or.inl ⟨2, rfl, dd_193_86, rfl⟩⟩,
   Or.inl ⟨2, rfl, dd_193_87, rfl⟩,
   Or.inl (Or.inr (Or.inr (Or.inl ⟨dd_193_88, rfl, by decide⟩))),
   ⟨16, dd_193_91, rfl, rfl⟩,
   Or.inl ⟨0, rfl, dd_193_94, rfl⟩,
   ⟨63, "PairMachineModel", fT10, 45, dd_193_95, rfl, okc_10, by decide, tw_822⟩,
   Or.inl ⟨2, rfl, dd_193_98, rfl⟩,
   Or.inl (Or.inl ⟨dd_193_99, rfl⟩),
   ⟨dd_193_100, rfl⟩,
   ⟨by decide, dd_193_101, rfl⟩,
   ⟨(-17), dd_193_104, rfl⟩,
   Or.inl (Or.inl ⟨dd_193_107, rfl⟩),
   ⟨by decide, Or.inl ⟨2, rfl, dd_193_108, rfl⟩⟩,
   Or.inl ⟨2, rfl, dd_193_109, rfl⟩,
   Or.inl (Or.inl ⟨dd_193_110, rfl⟩),
   ⟨16, dd_193_111, rfl, rfl⟩,
   Or.inl ⟨0, rfl, dd_193_114, rfl⟩,
   ⟨88, "PairMachineModel", fT10, 45, dd_193_115, rfl, okc_10, by decide, tw_830⟩,
   Or.inl ⟨2, rfl, dd_193_118, rfl⟩,
   Or.inl (Or.inl ⟨dd_193_119, rfl⟩),
   ⟨dd_193_120, rfl⟩,
   ⟨by decide, dd_193_121, rfl⟩,
   ⟨(-15), dd_193_124, rfl⟩,
   Or.inl ⟨0, rfl, dd_193_127, rfl⟩,
   ⟨88, "PairMachineModel", fT10, 45, dd_193_128, rfl, okc_10, by decide, tw_830⟩,
   Or.inl (Or.inl ⟨dd_193_131, rfl⟩),
   Or.inl ⟨0, rfl, dd_193_132, rfl⟩,
   ⟨rfl, tw_967, by decide, tw_12, by decide +kernel, 233, tw_968, dd_193_133, tw_969, ⟨"PairMachineModel", fT10, 45, rfl, tw_970⟩, by decide +kernel⟩,
   ⟨dd_193_136, rfl⟩,
   Or.inl ⟨0, rfl, dd_193_137, rfl⟩,
   Or.inl (Or.inl ⟨dd_193_138, rfl⟩),
   ⟨236, "PairMachineModel", fT10, 45, dd_193_139, rfl, okc_10, by decide, tw_971, Or.inl rfl, Or.inl rfl⟩,
   Or.inl ⟨0, rfl, dd_193_142, rfl⟩,
   Or.inl (Or.inl ⟨dd_193_143, rfl⟩),
   ⟨240, "PairMachineModel", fT10, 45, dd_193_144, rfl, okc_10, by decide, tw_972, rfl, Or.inl rfl⟩,
   Or.inl ⟨0, rfl, dd_193_147, rfl⟩,
   Or.inl (Or.inl ⟨dd_193_148, rfl⟩),
   ⟨243, "PairMachineModel", fT10, 45, dd_193_149, rfl, okc_10, by decide, tw_973, rfl, Or.inl rfl⟩,
   Or.inl ⟨0, rfl, dd_193_152, rfl⟩,
   Or.inl (Or.inl ⟨dd_193_153, rfl⟩),
   ⟨246, "PairMachineModel", fT10, 45, dd_193_154, rfl, okc_10, by decide, tw_974, rfl, Or.inl rfl⟩,
   Or.inl ⟨0, rfl, dd_193_157, rfl⟩,
   Or.inl (Or.inl ⟨dd_193_158, rfl⟩),
   ⟨249, "PairMachineModel", fT10, 45, dd_193_159, rfl, okc_10, by decide, tw_975, rfl, Or.inl rfl⟩,
   Or.inl ⟨0, rfl, dd_193_162, rfl⟩,
   ⟨175, "PairMachineModel", fT10, 45, dd_193_163, rfl, okc_10, by decide, tw_905⟩,
   ⟨dd_193_166, rfl⟩, trivial⟩
theorem okM_193 : mj_okE gG 193 (cM_193, 3, oM_193, hM_193) := ⟨rfl, rfl, by decide +kernel, trivial, okI_193⟩
theorem dd_194_0 : decode prog_13_method_40_code 0 = .ok (.aload_n 0, 1) := by decide +kernel
theorem dd_194_1 : decode prog_13_method_40_code 1 = .ok (.iconst 0, 1) := by decide +kernel
theorem dd_194_2 : decode prog_13_method_40_code 2 = .ok (.putfield 97, 3) := by decide +kernel
theorem dd_194_5 : decode prog_13_method_40_code 5 = .ok (.aload_n 0, 1) := by decide +kernel
theorem dd_194_6 : decode prog_13_method_40_code 6 = .ok (.getfield 13, 3) := by decide +kernel
theorem dd_194_9 : decode prog_13_method_40_code 9 = .ok (.ireturn, 1) := by decide +kernel
set_option maxRecDepth 100000 in
theorem okI_194 : mj_okI gG "PairMachineModel" prog_13_method_40_code 1 (mj_off oM_194) (Option.some Jvm.ClassFile.FieldType.int) false true 0 cM_194 :=
  ⟨Or.inl ⟨0, rfl, dd_194_0, rfl⟩,
   Or.inl (Or.inl ⟨dd_194_1, rfl⟩),
   ⟨97, "PairMachineModel", fT10, 45, dd_194_2, rfl, okc_10, by decide, tw_833, rfl, Or.inl rfl⟩,
   Or.inl ⟨0, rfl, dd_194_5, rfl⟩,
   ⟨13, "PairMachineModel", fT10, 45, dd_194_6, rfl, okc_10, by decide, tw_806⟩,
   ⟨dd_194_9, rfl⟩, trivial⟩
theorem okM_194 : mj_okE gG 194 (cM_194, 1, oM_194, hM_194) := ⟨rfl, rfl, by decide +kernel, trivial, okI_194⟩
theorem dd_195_0 : decode prog_13_method_41_code 0 = .ok (.aload_n 0, 1) := by decide +kernel
theorem dd_195_1 : decode prog_13_method_41_code 1 = .ok (.iconst 0, 1) := by decide +kernel
theorem dd_195_2 : decode prog_13_method_41_code 2 = .ok (.putfield 97, 3) := by decide +kernel
theorem dd_195_5 : decode prog_13_method_41_code 5 = .ok (.aload_n 0, 1) := by decide +kernel
theorem dd_195_6 : decode prog_13_method_41_code 6 = .ok (.getfield 236, 3) := by decide +kernel
theorem dd_195_9 : decode prog_13_method_41_code 9 = .ok (.ifCond .ne 5, 3) := by decide +kernel
theorem dd_195_12 : decode prog_13_method_41_code 12 = .ok (.iconst 0, 1) := by decide +kernel
theorem dd_195_13 : decode prog_13_method_41_code 13 = .ok (.ireturn, 1) := by decide +kernel
theorem dd_195_14 : decode prog_13_method_41_code 14 = .ok (.iconst 0, 1) := by decide +kernel
theorem dd_195_15 : decode prog_13_method_41_code 15 = .ok (.istore_n 1, 1) := by decide +kernel
theorem dd_195_16 : decode prog_13_method_41_code 16 = .ok (.iload_n 1, 1) := by decide +kernel
theorem dd_195_17 : decode prog_13_method_41_code 17 = .ok (.iconst 4, 1) := by decide +kernel
theorem dd_195_18 : decode prog_13_method_41_code 18 = .ok (.if_icmp .ge 16, 3) := by decide +kernel
theorem dd_195_21 : decode prog_13_method_41_code 21 = .ok (.aload_n 0, 1) := by decide +kernel
theorem dd_195_22 : decode prog_13_method_41_code 22 = .ok (.getfield 88, 3) := by decide +kernel
theorem dd_195_25 : decode prog_13_method_41_code 25 = .ok (.iload_n 1, 1) := by decide +kernel
theorem dd_195_26 : decode prog_13_method_41_code 26 = .ok (.iconst (-1), 1) := by decide +kernel
theorem dd_195_27 : decode prog_13_method_41_code 27 = .ok (.iastore, 1) := by decide +kernel
theorem dd_195_28 : decode prog_13_method_41_code 28 = .ok (.iinc 1 1, 3) := by decide +kernel
theorem dd_195_31 : decode prog_13_method_41_code 31 = .ok (.goto (-15), 3) := by decide +kernel
theorem dd_195_34 : decode prog_13_method_41_code 34 = .ok (.aload_n 0, 1) := by decide +kernel
theorem dd_195_35 : decode prog_13_method_41_code 35 = .ok (.invokevirtual 252, 3) := by decide +kernel
theorem dd_195_38 : decode prog_13_method_41_code 38 = .ok (.istore_n 1, 1) := by decide +kernel
theorem dd_195_39 : decode prog_13_method_41_code 39 = .ok (.aload_n 0, 1) := by decide +kernel
theorem dd_195_40 : decode prog_13_method_41_code 40 = .ok (.getfield 88, 3) := by decide +kernel
theorem dd_195_43 : decode prog_13_method_41_code 43 = .ok (.iconst 2, 1) := by decide +kernel
theorem dd_195_44 : decode prog_13_method_41_code 44 = .ok (.aload_n 0, 1) := by decide +kernel
theorem dd_195_45 : decode prog_13_method_41_code 45 = .ok (.getfield 88, 3) := by decide +kernel
theorem dd_195_48 : decode prog_13_method_41_code 48 = .ok (.iconst 4, 1) := by decide +kernel
theorem dd_195_49 : decode prog_13_method_41_code 49 = .ok (.iaload, 1) := by decide +kernel
theorem dd_195_50 : decode prog_13_method_41_code 50 = .ok (.iastore, 1) := by decide +kernel
theorem dd_195_51 : decode prog_13_method_41_code 51 = .ok (.aload_n 0, 1) := by decide +kernel
theorem dd_195_52 : decode prog_13_method_41_code 52 = .ok (.iconst 1, 1) := by decide +kernel
theorem dd_195_53 : decode prog_13_method_41_code 53 = .ok (.putfield 240, 3) := by decide +kernel
theorem dd_195_56 : decode prog_13_method_41_code 56 = .ok (.aload_n 0, 1) := by decide +kernel
theorem dd_195_57 : decode prog_13_method_41_code 57 = .ok (.iconst 0, 1) := by decide +kernel
theorem dd_195_58 : decode prog_13_method_41_code 58 = .ok (.putfield 243, 3) := by decide +kernel
theorem dd_195_61 : decode prog_13_method_41_code 61 = .ok (.aload_n 0, 1) := by decide +kernel
theorem dd_195_62 : decode prog_13_method_41_code 62 = .ok (.iconst 0, 1) := by decide +kernel
theorem dd_195_63 : decode prog_13_method_41_code 63 = .ok (.putfield 246, 3) := by decide +kernel
theorem dd_195_66 : decode prog_13_method_41_code 66 = .ok (.aload_n 0, 1) := by decide +kernel
theorem dd_195_67 : decode prog_13_method_41_code 67 = .ok (.iconst 0, 1) := by decide +kernel
theorem dd_195_68 : decode prog_13_method_41_code 68 = .ok (.putfield 249, 3) := by decide +kernel
theorem dd_195_71 : decode prog_13_method_41_code 71 = .ok (.iload_n 1, 1) := by decide +kernel
theorem dd_195_72 : decode prog_13_method_41_code 72 = .ok (.ifCond .lt 7, 3) := by decide +kernel
theorem dd_195_75 : decode prog_13_method_41_code 75 = .ok (.iconst 1, 1) := by decide +kernel
theorem dd_195_76 : decode prog_13_method_41_code 76 = .ok (.goto 4, 3) := by decide +kernel
theorem dd_195_79 : decode prog_13_method_41_code 79 = .ok (.iconst 0, 1) := by decide +kernel
theorem dd_195_80 : decode prog_13_method_41_code 80 = .ok (.ireturn, 1) := by decide +kernel
set_option maxRecDepth 100000 in
theorem okI_195 : mj_okI gG "PairMachineModel" prog_13_method_41_code 2 (mj_off oM_195) (Option.some Jvm.ClassFile.FieldType.boolean) false true 0 cM_195 :=
  ⟨Or.inl ⟨0, rfl, dd_195_0, rfl⟩,
   Or.inl (Or.inl ⟨dd_195_1, rfl⟩),
   ⟨97, "PairMachineModel", fT10, 45, dd_195_2, rfl, okc_10, by decide, tw_833, rfl, Or.inl rfl⟩,
   Or.inl ⟨0, rfl, dd_195_5, rfl⟩,
   ⟨236, "PairMachineModel", fT10, 45, dd_195_6, rfl, okc_10, by decide, tw_971⟩,
   ⟨5, dd_195_9, rfl, rfl⟩,
   Or.inl (Or.inl ⟨dd_195_12, rfl⟩),
   ⟨dd_195_13, rfl⟩,
   Or.inl (Or.inl ⟨dd_195_14, rfl⟩),
   ⟨by decide, Or.inl ⟨1, rfl, dd_195_15, rfl⟩⟩,
   Or.inl ⟨1, rfl, dd_195_16, rfl⟩,
   Or.inl (Or.inl ⟨dd_195_17, rfl⟩),
   ⟨16, dd_195_18, rfl, rfl⟩,
   Or.inl ⟨0, rfl, dd_195_21, rfl⟩,
   ⟨88, "PairMachineModel", fT10, 45, dd_195_22, rfl, okc_10, by decide, tw_830⟩,
   Or.inl ⟨1, rfl, dd_195_25, rfl⟩,
   Or.inl (Or.inl ⟨dd_195_26, rfl⟩),
   ⟨dd_195_27, rfl⟩,
   ⟨by decide, dd_195_28, rfl⟩,
   ⟨(-15), dd_195_31, rfl⟩,
   Or.inl ⟨0, rfl, dd_195_34, rfl⟩,
   ⟨rfl, tw_976, by decide, tw_12, by decide +kernel, 252, tw_977, dd_195_35, tw_978, ⟨"PairMachineModel", fT10, 45, rfl, tw_979⟩, by decide +kernel⟩,
   ⟨by decide, Or.inl ⟨1, rfl, dd_195_38, rfl⟩⟩,
   Or.inl ⟨0, rfl, dd_195_39, rfl⟩,
   ⟨88, "PairMachineModel", fT10, 45, dd_195_40, rfl, okc_10, by decide, tw_830⟩,
   Or.inl (Or.inl ⟨dd_195_43, rfl⟩),
   Or.inl ⟨0, rfl, dd_195_44, rfl⟩,
   ⟨88, "PairMachineModel", fT10, 45, dd_195_45, rfl, okc_10, by decide, tw_830⟩,
   Or.inl (Or.inl ⟨dd_195_48, rfl⟩),
   ⟨dd_195_49, rfl⟩,
   ⟨dd_195_50, rfl⟩,
   Or.inl ⟨0, rfl, dd_195_51, rfl⟩,
   Or.inl (Or.inl ⟨dd_195_52, rfl⟩),
   ⟨240, "PairMachineModel", fT10, 45, dd_195_53, rfl, okc_10, by decide, tw_972, rfl, Or.inl rfl⟩,
   Or.inl ⟨0, rfl, dd_195_56, rfl⟩,
   Or.inl (Or.inl ⟨dd_195_57, rfl⟩),
   ⟨243, "PairMachineModel", fT10, 45, dd_195_58, rfl, okc_10, by decide, tw_973, rfl, Or.inl rfl⟩,
   Or.inl ⟨0, rfl, dd_195_61, rfl⟩,
   Or.inl (Or.inl ⟨dd_195_62, rfl⟩),
   ⟨246, "PairMachineModel", fT10, 45, dd_195_63, rfl, okc_10, by decide, tw_974, rfl, Or.inl rfl⟩,
   Or.inl ⟨0, rfl, dd_195_66, rfl⟩,
   Or.inl (Or.inl ⟨dd_195_67, rfl⟩),
   ⟨249, "PairMachineModel", fT10, 45, dd_195_68, rfl, okc_10, by decide, tw_975, rfl, Or.inl rfl⟩,
   Or.inl ⟨1, rfl, dd_195_71, rfl⟩,
   ⟨7, dd_195_72, rfl, rfl⟩,
   Or.inl (Or.inl ⟨dd_195_75, rfl⟩),
   ⟨4, dd_195_76, rfl⟩,
   Or.inl (Or.inl ⟨dd_195_79, rfl⟩),
   ⟨dd_195_80, rfl⟩, trivial⟩
theorem okM_195 : mj_okE gG 195 (cM_195, 2, oM_195, hM_195) := ⟨rfl, rfl, by decide +kernel, trivial, okI_195⟩
theorem dd_196_0 : decode prog_13_method_42_code 0 = .ok (.iload_n 0, 1) := by decide +kernel
theorem dd_196_1 : decode prog_13_method_42_code 1 = .ok (.iconst 4, 1) := by decide +kernel
theorem dd_196_2 : decode prog_13_method_42_code 2 = .ok (.if_icmp .ne 7, 3) := by decide +kernel
theorem dd_196_5 : decode prog_13_method_42_code 5 = .ok (.iconst 4, 1) := by decide +kernel
theorem dd_196_6 : decode prog_13_method_42_code 6 = .ok (.goto 45, 3) := by decide +kernel
theorem dd_196_9 : decode prog_13_method_42_code 9 = .ok (.iload_n 0, 1) := by decide +kernel
theorem dd_196_10 : decode prog_13_method_42_code 10 = .ok (.bipush 7, 2) := by decide +kernel
theorem dd_196_12 : decode prog_13_method_42_code 12 = .ok (.if_icmp .ne 7, 3) := by decide +kernel
theorem dd_196_15 : decode prog_13_method_42_code 15 = .ok (.iconst 3, 1) := by decide +kernel
theorem dd_196_16 : decode prog_13_method_42_code 16 = .ok (.goto 35, 3) := by decide +kernel
theorem dd_196_19 : decode prog_13_method_42_code 19 = .ok (.iload_n 0, 1) := by decide +kernel
theorem dd_196_20 : decode prog_13_method_42_code 20 = .ok (.iconst 3, 1) := by decide +kernel
theorem dd_196_21 : decode prog_13_method_42_code 21 = .ok (.if_icmp .eq 9, 3) := by decide +kernel
theorem dd_196_24 : decode prog_13_method_42_code 24 = .ok (.iload_n 0, 1) := by decide +kernel
theorem dd_196_25 : decode prog_13_method_42_code 25 = .ok (.bipush 13, 2) := by decide +kernel
theorem dd_196_27 : decode prog_13_method_42_code 27 = .ok (.if_icmp .ne 7, 3) := by decide +kernel
theorem dd_196_30 : decode prog_13_method_42_code 30 = .ok (.iconst 2, 1) := by decide +kernel
theorem dd_196_31 : decode prog_13_method_42_code 31 = .ok (.goto 20, 3) := by decide +kernel
theorem dd_196_34 : decode prog_13_method_42_code 34 = .ok (.iload_n 0, 1) := by decide +kernel
theorem dd_196_35 : decode prog_13_method_42_code 35 = .ok (.bipush 9, 2) := by decide +kernel
theorem dd_196_37 : decode prog_13_method_42_code 37 = .ok (.if_icmp .eq 9, 3) := by decide +kernel
theorem dd_196_40 : decode prog_13_method_42_code 40 = .ok (.iload_n 0, 1) := by decide +kernel
theorem dd_196_41 : decode prog_13_method_42_code 41 = .ok (.bipush 19, 2) := by decide +kernel
theorem dd_196_43 : decode prog_13_method_42_code 43 = .ok (.if_icmp .ne 7, 3) := by decide +kernel
theorem dd_196_46 : decode prog_13_method_42_code 46 = .ok (.iconst 0, 1) := by decide +kernel
theorem dd_196_47 : decode prog_13_method_42_code 47 = .ok (.goto 4, 3) := by decide +kernel
theorem dd_196_50 : decode prog_13_method_42_code 50 = .ok (.iconst 1, 1) := by decide +kernel
theorem dd_196_51 : decode prog_13_method_42_code 51 = .ok (.ireturn, 1) := by decide +kernel
set_option maxRecDepth 100000 in
theorem okI_196 : mj_okI gG "PairMachineModel" prog_13_method_42_code 1 (mj_off oM_196) (Option.some Jvm.ClassFile.FieldType.int) false true 0 cM_196 :=
  ⟨Or.inl ⟨0, rfl, dd_196_0, rfl⟩,
   Or.inl (Or.inl ⟨dd_196_1, rfl⟩),
   ⟨7, dd_196_2, rfl, rfl⟩,
   Or.inl (Or.inl ⟨dd_196_5, rfl⟩),
   ⟨45, dd_196_6, rfl⟩,
   Or.inl ⟨0, rfl, dd_196_9, rfl⟩,
   Or.inl (Or.inr (Or.inl ⟨dd_196_10, rfl, by decide⟩)),
   ⟨7, dd_196_12, rfl, rfl⟩,
   Or.inl (Or.inl ⟨dd_196_15, rfl⟩),
   ⟨35, dd_196_16, rfl⟩,
   Or.inl ⟨0, rfl, dd_196_19, rfl⟩,
   Or.inl (Or.inl ⟨dd_196_20, rfl⟩),
   ⟨9, dd_196_21, rfl, rfl⟩,
   Or.inl ⟨0, rfl, dd_196_24, rfl⟩,
   Or.inl (Or.inr (Or.inl ⟨dd_196_25, rfl, by decide⟩)),
   ⟨7, dd_196_27, rfl, rfl⟩,
   Or.inl (Or.inl ⟨dd_196_30, rfl⟩),
   ⟨20, dd_196_31, rfl⟩,
   Or.inl ⟨0, rfl, dd_196_34, rfl⟩,
   Or.inl (Or.inr (Or.inl ⟨dd_196_35, rfl, by decide⟩)),
   ⟨9, dd_196_37, rfl, rfl⟩,
   Or.inl ⟨0, rfl, dd_196_40, rfl⟩,
   Or.inl (Or.inr (Or.inl ⟨dd_196_41, rfl, by decide⟩)),
   ⟨7, dd_196_43, rfl, rfl⟩,
   Or.inl (Or.inl ⟨dd_196_46, rfl⟩),
   ⟨4, dd_196_47, rfl⟩,
   Or.inl (Or.inl ⟨dd_196_50, rfl⟩),
   ⟨dd_196_51, rfl⟩, trivial⟩
theorem okM_196 : mj_okE gG 196 (cM_196, 1, oM_196, hM_196) := ⟨rfl, rfl, by decide +kernel, trivial, okI_196⟩
theorem dd_197_0 : decode prog_13_method_43_code 0 = .ok (.aload_n 0, 1) := by decide +kernel
theorem dd_197_1 : decode prog_13_method_43_code 1 = .ok (.getfield 76, 3) := by decide +kernel
theorem dd_197_4 : decode prog_13_method_43_code 4 = .ok (.iload_n 1, 1) := by decide +kernel
theorem dd_197_5 : decode prog_13_method_43_code 5 = .ok (.iaload, 1) := by decide +kernel
theorem dd_197_6 : decode prog_13_method_43_code 6 = .ok (.iconst 3, 1) := by decide +kernel
theorem dd_197_7 : decode prog_13_method_43_code 7 = .ok (.if_icmp .ne 12, 3) := by decide +kernel
theorem dd_197_10 : decode prog_13_method_43_code 10 = .ok (.aload_n 0, 1) := by decide +kernel
theorem dd_197_11 : decode prog_13_method_43_code 11 = .ok (.getfield 79, 3) := by decide +kernel
theorem dd_197_14 : decode prog_13_method_43_code 14 = .ok (.iload_n 1, 1) := by decide +kernel
theorem dd_197_15 : decode prog_13_method_43_code 15 = .ok (.iaload, 1) := by decide +kernel
theorem dd_197_16 : decode prog_13_method_43_code 16 = .ok (.goto 4, 3) := by decide +kernel
theorem dd_197_19 : decode prog_13_method_43_code 19 = .ok (.iconst (-1), 1) := by decide +kernel
theorem dd_197_20 : decode prog_13_method_43_code 20 = .ok (.ireturn, 1) := by decide +kernel
set_option maxRecDepth 100000 in
theorem okI_197 : mj_okI gG "PairMachineModel" prog_13_method_43_code 2 (mj_off oM_197) (Option.some Jvm.ClassFile.FieldType.int) false true 0 cM_197 :=
  ⟨Or.inl ⟨0, rfl, dd_197_0, rfl⟩,
   ⟨76, "PairMachineModel", fT10, 45, dd_197_1, rfl, okc_10, by decide, tw_826⟩,
   Or.inl ⟨1, rfl, dd_197_4, rfl⟩,
   ⟨dd_197_5, rfl⟩,
   Or.inl (Or.inl ⟨dd_197_6, rfl⟩),
   ⟨12, dd_197_7, rfl, rfl⟩,
   Or.inl ⟨0, rfl, dd_197_10, rfl⟩,
   ⟨79, "PairMachineModel", fT10, 45, dd_197_11, rfl, okc_10, by decide, tw_827⟩,
   Or.inl ⟨1, rfl, dd_197_14, rfl⟩,
   ⟨dd_197_15, rfl⟩,
   ⟨4, dd_197_16, rfl⟩,
   Or.inl (Or.inl ⟨dd_197_19, rfl⟩),
   ⟨dd_197_20, rfl⟩, trivial⟩
theorem okM_197 : mj_okE gG 197 (cM_197, 2, oM_197, hM_197) := ⟨rfl, rfl, by decide +kernel, trivial, okI_197⟩
theorem dd_198_0 : decode prog_13_method_44_code 0 = .ok (.aload_n 0, 1) := by decide +kernel
theorem dd_198_1 : decode prog_13_method_44_code 1 = .ok (.getfield 70, 3) := by decide +kernel
theorem dd_198_4 : decode prog_13_method_44_code 4 = .ok (.iload_n 1, 1) := by decide +kernel
theorem dd_198_5 : decode prog_13_method_44_code 5 = .ok (.iaload, 1) := by decide +kernel
theorem dd_198_6 : decode prog_13_method_44_code 6 = .ok (.iconst 3, 1) := by decide +kernel
theorem dd_198_7 : decode prog_13_method_44_code 7 = .ok (.if_icmp .ne 12, 3) := by decide +kernel
theorem dd_198_10 : decode prog_13_method_44_code 10 = .ok (.aload_n 0, 1) := by decide +kernel
theorem dd_198_11 : decode prog_13_method_44_code 11 = .ok (.getfield 73, 3) := by decide +kernel
theorem dd_198_14 : decode prog_13_method_44_code 14 = .ok (.iload_n 1, 1) := by decide +kernel
theorem dd_198_15 : decode prog_13_method_44_code 15 = .ok (.iaload, 1) := by decide +kernel
theorem dd_198_16 : decode prog_13_method_44_code 16 = .ok (.goto 4, 3) := by decide +kernel
theorem dd_198_19 : decode prog_13_method_44_code 19 = .ok (.iconst (-1), 1) := by decide +kernel
theorem dd_198_20 : decode prog_13_method_44_code 20 = .ok (.ireturn, 1) := by decide +kernel
set_option maxRecDepth 100000 in
theorem okI_198 : mj_okI gG "PairMachineModel" prog_13_method_44_code 2 (mj_off oM_198) (Option.some Jvm.ClassFile.FieldType.int) false true 0 cM_198 :=
  ⟨Or.inl ⟨0, rfl, dd_198_0, rfl⟩,
   ⟨70, "PairMachineModel", fT10, 45, dd_198_1, rfl, okc_10, by decide, tw_824⟩,
   Or.inl ⟨1, rfl, dd_198_4, rfl⟩,
   ⟨dd_198_5, rfl⟩,
   Or.inl (Or.inl ⟨dd_198_6, rfl⟩),
   ⟨12, dd_198_7, rfl, rfl⟩,
   Or.inl ⟨0, rfl, dd_198_10, rfl⟩,
   ⟨73, "PairMachineModel", fT10, 45, dd_198_11, rfl, okc_10, by decide, tw_825⟩,
   Or.inl ⟨1, rfl, dd_198_14, rfl⟩,
   ⟨dd_198_15, rfl⟩,
   ⟨4, dd_198_16, rfl⟩,
   Or.inl (Or.inl ⟨dd_198_19, rfl⟩),
   ⟨dd_198_20, rfl⟩, trivial⟩
theorem okM_198 : mj_okE gG 198 (cM_198, 2, oM_198, hM_198) := ⟨rfl, rfl, by decide +kernel, trivial, okI_198⟩
theorem dd_199_0 : decode prog_13_method_45_code 0 = .ok (.aload_n 0, 1) := by decide +kernel
theorem dd_199_1 : decode prog_13_method_45_code 1 = .ok (.getfield 88, 3) := by decide +kernel
theorem dd_199_4 : decode prog_13_method_45_code 4 = .ok (.iconst 0, 1) := by decide +kernel
theorem dd_199_5 : decode prog_13_method_45_code 5 = .ok (.iaload, 1) := by decide +kernel
theorem dd_199_6 : decode prog_13_method_45_code 6 = .ok (.istore_n 2, 1) := by decide +kernel
theorem dd_199_7 : decode prog_13_method_45_code 7 = .ok (.iconst 0, 1) := by decide +kernel
theorem dd_199_8 : decode prog_13_method_45_code 8 = .ok (.istore_n 3, 1) := by decide +kernel
theorem dd_199_9 : decode prog_13_method_45_code 9 = .ok (.iload_n 3, 1) := by decide +kernel
theorem dd_199_10 : decode prog_13_method_45_code 10 = .ok (.iload_n 1, 1) := by decide +kernel
theorem dd_199_11 : decode prog_13_method_45_code 11 = .ok (.if_icmp .ge 15, 3) := by decide +kernel
theorem dd_199_14 : decode prog_13_method_45_code 14 = .ok (.aload_n 0, 1) := by decide +kernel
theorem dd_199_15 : decode prog_13_method_45_code 15 = .ok (.iload_n 2, 1) := by decide +kernel
theorem dd_199_16 : decode prog_13_method_45_code 16 = .ok (.invokevirtual 255, 3) := by decide +kernel
theorem dd_199_19 : decode prog_13_method_45_code 19 = .ok (.istore_n 2, 1) := by decide +kernel
theorem dd_199_20 : decode prog_13_method_45_code 20 = .ok (.iinc 3 1, 3) := by decide +kernel
theorem dd_199_23 : decode prog_13_method_45_code 23 = .ok (.goto (-14), 3) := by decide +kernel
theorem dd_199_26 : decode prog_13_method_45_code 26 = .ok (.aload_n 0, 1) := by decide +kernel
theorem dd_199_27 : decode prog_13_method_45_code 27 = .ok (.aload_n 0, 1) := by decide +kernel
theorem dd_199_28 : decode prog_13_method_45_code 28 = .ok (.getfield 70, 3) := by decide +kernel
theorem dd_199_31 : decode prog_13_method_45_code 31 = .ok (.iload_n 2, 1) := by decide +kernel
theorem dd_199_32 : decode prog_13_method_45_code 32 = .ok (.iaload, 1) := by decide +kernel
theorem dd_199_33 : decode prog_13_method_45_code 33 = .ok (.putfield 258, 3) := by decide +kernel
theorem dd_199_36 : decode prog_13_method_45_code 36 = .ok (.aload_n 0, 1) := by decide +kernel
theorem dd_199_37 : decode prog_13_method_45_code 37 = .ok (.aload_n 0, 1) := by decide +kernel
theorem dd_199_38 : decode prog_13_method_45_code 38 = .ok (.getfield 73, 3) := by decide +kernel
theorem dd_199_41 : decode prog_13_method_45_code 41 = .ok (.iload_n 2, 1) := by decide +kernel
theorem dd_199_42 : decode prog_13_method_45_code 42 = .ok (.iaload, 1) := by decide +kernel
theorem dd_199_43 : decode prog_13_method_45_code 43 = .ok (.putfield 261, 3) := by decide +kernel
theorem dd_199_46 : decode prog_13_method_45_code 46 = .ok (.return_, 1) := by decide +kernel
set_option maxRecDepth 100000 in
theorem okI_199 : mj_okI gG "PairMachineModel" prog_13_method_45_code 4 (mj_off oM_199) (Option.none : Option Jvm.ClassFile.FieldType) false true 0 cM_199 :=
  ⟨Or.inl ⟨0, rfl, dd_199_0, rfl⟩,
   ⟨88, "PairMachineModel", fT10, 45, dd_199_1, rfl, okc_10, by decide, tw_830⟩,
   Or.inl (Or.inl ⟨dd_199_4, rfl⟩),
   ⟨dd_199_5, rfl⟩,
   ⟨by decide, Or.inl ⟨2, rfl, dd_199_6, rfl⟩⟩,
   Or.inl (Or.inl ⟨dd_199_7, rfl⟩),
   ⟨by decide, Or.inl ⟨3, rfl, dd_199_8, rfl⟩⟩,
   Or.inl ⟨3, rfl, dd_199_9, rfl⟩,
   Or.inl ⟨1, rfl, dd_199_10, rfl⟩,
   ⟨15, dd_199_11, rfl, rfl⟩,
   Or.inl ⟨0, rfl, dd_199_14, rfl⟩,
   Or.inl ⟨2, rfl, dd_199_15, rfl⟩,
   ⟨rfl, tw_980, by decide, tw_12, by decide +kernel, 255, tw_981, dd_199_16, tw_982, ⟨"PairMachineModel", fT10, 45, rfl, tw_983⟩, by decide +kernel⟩,
   ⟨by decide, Or.inl ⟨2, rfl, dd_199_19, rfl⟩⟩,
   ⟨by decide, dd_199_20, rfl⟩,
   ⟨(-14), dd_199_23, rfl⟩,
   Or.inl ⟨0, rfl, dd_199_26, rfl⟩,
   Or.inl ⟨0, rfl, dd_199_27, rfl⟩,
   ⟨70, "PairMachineModel", fT10, 45, dd_199_28, rfl, okc_10, by decide, tw_824⟩,
   Or.inl ⟨2, rfl, dd_199_31, rfl⟩,
   ⟨dd_199_32, rfl⟩,
   ⟨258, "PairMachineModel", fT10, 45, dd_199_33, rfl, okc_10, by decide, tw_984, rfl, Or.inl rfl⟩,
   Or.inl ⟨0, rfl, dd_199_36, rfl⟩,
   Or.inl ⟨0, rfl, dd_199_37, rfl⟩,
   ⟨73, "PairMachineModel", fT10, 45, dd_199_38, rfl, okc_10, by decide, tw_825⟩,
   Or.inl ⟨2, rfl, dd_199_41, rfl⟩,
   ⟨dd_199_42, rfl⟩,
   ⟨261, "PairMachineModel", fT10, 45, dd_199_43, rfl, okc_10, by decide, tw_985, rfl, Or.inl rfl⟩,
   ⟨dd_199_46, rfl⟩, trivial⟩
theorem okM_199 : mj_okE gG 199 (cM_199, 4, oM_199, hM_199) := ⟨rfl, rfl, by decide +kernel, trivial, okI_199⟩
theorem dd_200_0 : decode prog_13_method_46_code 0 = .ok (.aload_n 0, 1) := by decide +kernel
theorem dd_200_1 : decode prog_13_method_46_code 1 = .ok (.getfield 88, 3) := by decide +kernel
theorem dd_200_4 : decode prog_13_method_46_code 4 = .ok (.iconst 0, 1) := by decide +kernel
theorem dd_200_5 : decode prog_13_method_46_code 5 = .ok (.aload_n 0, 1) := by decide +kernel
theorem dd_200_6 : decode prog_13_method_46_code 6 = .ok (.aload_n 0, 1) := by decide +kernel
theorem dd_200_7 : decode prog_13_method_46_code 7 = .ok (.getfield 88, 3) := by decide +kernel
theorem dd_200_10 : decode prog_13_method_46_code 10 = .ok (.iconst 0, 1) := by decide +kernel
theorem dd_200_11 : decode prog_13_method_46_code 11 = .ok (.iaload, 1) := by decide +kernel
theorem dd_200_12 : decode prog_13_method_46_code 12 = .ok (.invokevirtual 255, 3) := by decide +kernel
theorem dd_200_15 : decode prog_13_method_46_code 15 = .ok (.iastore, 1) := by decide +kernel
theorem dd_200_16 : decode prog_13_method_46_code 16 = .ok (.return_, 1) := by decide +kernel
set_option maxRecDepth 100000 in
theorem okI_200 : mj_okI gG "PairMachineModel" prog_13_method_46_code 1 (mj_off oM_200) (Option.none : Option Jvm.ClassFile.FieldType) false true 0 cM_200 :=
  ⟨Or.inl ⟨0, rfl, dd_200_0, rfl⟩,
   ⟨88, "PairMachineModel", fT10, 45, dd_200_1, rfl, okc_10, by decide, tw_830⟩,
   Or.inl (Or.inl ⟨dd_200_4, rfl⟩),
   Or.inl ⟨0, rfl, dd_200_5, rfl⟩,
   Or.inl ⟨0, rfl, dd_200_6, rfl⟩,
   ⟨88, "PairMachineModel", fT10, 45, dd_200_7, rfl, okc_10, by decide, tw_830⟩,
   Or.inl (Or.inl ⟨dd_200_10, rfl⟩),
   ⟨dd_200_11, rfl⟩,
   ⟨rfl, tw_980, by decide, tw_12, by decide +kernel, 255, tw_981, dd_200_12, tw_982, ⟨"PairMachineModel", fT10, 45, rfl, tw_983⟩, by decide +kernel⟩,
   ⟨dd_200_15, rfl⟩,
   ⟨dd_200_16, rfl⟩, trivial⟩
theorem okM_200 : mj_okE gG 200 (cM_200, 1, oM_200, hM_200) := ⟨rfl, rfl, by decide +kernel, trivial, okI_200⟩
theorem dd_201_0 : decode prog_13_method_47_code 0 = .ok (.aload_n 0, 1) := by decide +kernel
theorem dd_201_1 : decode prog_13_method_47_code 1 = .ok (.getfield 88, 3) := by decide +kernel
theorem dd_201_4 : decode prog_13_method_47_code 4 = .ok (.iconst 0, 1) := by decide +kernel
theorem dd_201_5 : decode prog_13_method_47_code 5 = .ok (.aload_n 0, 1) := by decide +kernel
theorem dd_201_6 : decode prog_13_method_47_code 6 = .ok (.iload_n 1, 1) := by decide +kernel
theorem dd_201_7 : decode prog_13_method_47_code 7 = .ok (.iload_n 2, 1) := by decide +kernel
theorem dd_201_8 : decode prog_13_method_47_code 8 = .ok (.aload_n 0, 1) := by decide +kernel
theorem dd_201_9 : decode prog_13_method_47_code 9 = .ok (.getfield 88, 3) := by decide +kernel
theorem dd_201_12 : decode prog_13_method_47_code 12 = .ok (.iconst 0, 1) := by decide +kernel
theorem dd_201_13 : decode prog_13_method_47_code 13 = .ok (.iaload, 1) := by decide +kernel
theorem dd_201_14 : decode prog_13_method_47_code 14 = .ok (.invokevirtual 207, 3) := by decide +kernel
theorem dd_201_17 : decode prog_13_method_47_code 17 = .ok (.iastore, 1) := by decide +kernel
theorem dd_201_18 : decode prog_13_method_47_code 18 = .ok (.return_, 1) := by decide +kernel
set_option maxRecDepth 100000 in
theorem okI_201 : mj_okI gG "PairMachineModel" prog_13_method_47_code 3 (mj_off oM_201) (Option.none : Option Jvm.ClassFile.FieldType) false true 0 cM_201 :=
  ⟨Or.inl ⟨0, rfl, dd_201_0, rfl⟩,
   ⟨88, "PairMachineModel", fT10, 45, dd_201_1, rfl, okc_10, by decide, tw_830⟩,
   Or.inl (Or.inl ⟨dd_201_4, rfl⟩),
   Or.inl ⟨0, rfl, dd_201_5, rfl⟩,
   Or.inl ⟨1, rfl, dd_201_6, rfl⟩,
   Or.inl ⟨2, rfl, dd_201_7, rfl⟩,
   Or.inl ⟨0, rfl, dd_201_8, rfl⟩,
   ⟨88, "PairMachineModel", fT10, 45, dd_201_9, rfl, okc_10, by decide, tw_830⟩,
   Or.inl (Or.inl ⟨dd_201_12, rfl⟩),
   ⟨dd_201_13, rfl⟩,
   ⟨rfl, tw_938, by decide, tw_12, by decide +kernel, 207, tw_939, dd_201_14, tw_940, ⟨"PairMachineModel", fT10, 45, rfl, tw_941⟩, by decide +kernel⟩,
   ⟨dd_201_17, rfl⟩,
   ⟨dd_201_18, rfl⟩, trivial⟩
theorem okM_201 : mj_okE gG 201 (cM_201, 3, oM_201, hM_201) := ⟨rfl, rfl, by decide +kernel, trivial, okI_201⟩
theorem dd_202_0 : decode prog_13_method_48_code 0 = .ok (.aload_n 0, 1) := by decide +kernel
theorem dd_202_1 : decode prog_13_method_48_code 1 = .ok (.getfield 258, 3) := by decide +kernel
theorem dd_202_4 : decode prog_13_method_48_code 4 = .ok (.iconst 3, 1) := by decide +kernel
theorem dd_202_5 : decode prog_13_method_48_code 5 = .ok (.if_icmp .ne 19, 3) := by decide +kernel
theorem dd_202_8 : decode prog_13_method_48_code 8 = .ok (.aload_n 0, 1) := by decide +kernel
theorem dd_202_9 : decode prog_13_method_48_code 9 = .ok (.getfield 67, 3) := by decide +kernel
theorem dd_202_12 : decode prog_13_method_48_code 12 = .ok (.aload_n 0, 1) := by decide +kernel
theorem dd_202_13 : decode prog_13_method_48_code 13 = .ok (.getfield 261, 3) := by decide +kernel
theorem dd_202_16 : decode prog_13_method_48_code 16 = .ok (.baload, 1) := by decide +kernel
theorem dd_202_17 : decode prog_13_method_48_code 17 = .ok (.ifCond .eq 7, 3) := by decide +kernel
theorem dd_202_20 : decode prog_13_method_48_code 20 = .ok (.iconst 1, 1) := by decide +kernel
theorem dd_202_21 : decode prog_13_method_48_code 21 = .ok (.goto 4, 3) := by decide +kernel
theorem dd_202_24 : decode prog_13_method_48_code 24 = .ok (.iconst 0, 1) := by decide +kernel
theorem dd_202_25 : decode prog_13_method_48_code 25 = .ok (.ireturn, 1) := by decide +kernel
set_option maxRecDepth 100000 in
theorem okI_202 : mj_okI gG "PairMachineModel" prog_13_method_48_code 1 (mj_off oM_202) (Option.some Jvm.ClassFile.FieldType.boolean) false true 0 cM_202 :=
  ⟨Or.inl ⟨0, rfl, dd_202_0, rfl⟩,
   ⟨258, "PairMachineModel", fT10, 45, dd_202_1, rfl, okc_10, by decide, tw_984⟩,
   Or.inl (Or.inl ⟨dd_202_4, rfl⟩),
   ⟨19, dd_202_5, rfl, rfl⟩,
   Or.inl ⟨0, rfl, dd_202_8, rfl⟩,
   ⟨67, "PairMachineModel", fT10, 45, dd_202_9, rfl, okc_10, by decide, tw_823⟩,
   Or.inl ⟨0, rfl, dd_202_12, rfl⟩,
   ⟨261, "PairMachineModel", fT10, 45, dd_202_13, rfl, okc_10, by decide, tw_985⟩,
   ⟨dd_202_16, rfl⟩,
   ⟨7, dd_202_17, rfl, rfl⟩,
   Or.inl (Or.inl ⟨dd_202_20, rfl⟩),
   ⟨4, dd_202_21, rfl⟩,
   Or.inl (Or.inl ⟨dd_202_24, rfl⟩),
   ⟨dd_202_25, rfl⟩, trivial⟩
theorem okM_202 : mj_okE gG 202 (cM_202, 1, oM_202, hM_202) := ⟨rfl, rfl, by decide +kernel, trivial, okI_202⟩
theorem dd_203_0 : decode prog_13_method_49_code 0 = .ok (.aload_n 0, 1) := by decide +kernel
theorem dd_203_1 : decode prog_13_method_49_code 1 = .ok (.getfield 258, 3) := by decide +kernel
theorem dd_203_4 : decode prog_13_method_49_code 4 = .ok (.iconst 3, 1) := by decide +kernel
theorem dd_203_5 : decode prog_13_method_49_code 5 = .ok (.if_icmp .ne 19, 3) := by decide +kernel
theorem dd_203_8 : decode prog_13_method_49_code 8 = .ok (.aload_n 0, 1) := by decide +kernel
theorem dd_203_9 : decode prog_13_method_49_code 9 = .ok (.getfield 67, 3) := by decide +kernel
theorem dd_203_12 : decode prog_13_method_49_code 12 = .ok (.aload_n 0, 1) := by decide +kernel
theorem dd_203_13 : decode prog_13_method_49_code 13 = .ok (.getfield 261, 3) := by decide +kernel
theorem dd_203_16 : decode prog_13_method_49_code 16 = .ok (.baload, 1) := by decide +kernel
theorem dd_203_17 : decode prog_13_method_49_code 17 = .ok (.ifCond .ne 7, 3) := by decide +kernel
theorem dd_203_20 : decode prog_13_method_49_code 20 = .ok (.iconst 1, 1) := by decide +kernel
theorem dd_203_21 : decode prog_13_method_49_code 21 = .ok (.goto 4, 3) := by decide +kernel
theorem dd_203_24 : decode prog_13_method_49_code 24 = .ok (.iconst 0, 1) := by decide +kernel
theorem dd_203_25 : decode prog_13_method_49_code 25 = .ok (.ireturn, 1) := by decide +kernel
set_option maxRecDepth 100000 in
theorem okI_203 : mj_okI gG "PairMachineModel" prog_13_method_49_code 1 (mj_off oM_203) (Option.some Jvm.ClassFile.FieldType.boolean) false true 0 cM_203 :=
  ⟨Or.inl ⟨0, rfl, dd_203_0, rfl⟩,
   ⟨258, "PairMachineModel", fT10, 45, dd_203_1, rfl, okc_10, by decide, tw_984⟩,
   Or.inl (Or.inl ⟨dd_203_4, rfl⟩),
   ⟨19, dd_203_5, rfl, rfl⟩,
   Or.inl ⟨0, rfl, dd_203_8, rfl⟩,
   ⟨67, "PairMachineModel", fT10, 45, dd_203_9, rfl, okc_10, by decide, tw_823⟩,
   Or.inl ⟨0, rfl, dd_203_12, rfl⟩,
   ⟨261, "PairMachineModel", fT10, 45, dd_203_13, rfl, okc_10, by decide, tw_985⟩,
   ⟨dd_203_16, rfl⟩,
   ⟨7, dd_203_17, rfl, rfl⟩,
   Or.inl (Or.inl ⟨dd_203_20, rfl⟩),
   ⟨4, dd_203_21, rfl⟩,
   Or.inl (Or.inl ⟨dd_203_24, rfl⟩),
   ⟨dd_203_25, rfl⟩, trivial⟩
theorem okM_203 : mj_okE gG 203 (cM_203, 1, oM_203, hM_203) := ⟨rfl, rfl, by decide +kernel, trivial, okI_203⟩
theorem dd_204_0 : decode prog_13_method_50_code 0 = .ok (.aload_n 0, 1) := by decide +kernel
theorem dd_204_1 : decode prog_13_method_50_code 1 = .ok (.iload_n 1, 1) := by decide +kernel
theorem dd_204_2 : decode prog_13_method_50_code 2 = .ok (.putfield 240, 3) := by decide +kernel
theorem dd_204_5 : decode prog_13_method_50_code 5 = .ok (.return_, 1) := by decide +kernel
set_option maxRecDepth 100000 in
theorem okI_204 : mj_okI gG "PairMachineModel" prog_13_method_50_code 2 (mj_off oM_204) (Option.none : Option Jvm.ClassFile.FieldType) false true 0 cM_204 :=
  ⟨Or.inl ⟨0, rfl, dd_204_0, rfl⟩,
   Or.inl ⟨1, rfl, dd_204_1, rfl⟩,
   ⟨240, "PairMachineModel", fT10, 45, dd_204_2, rfl, okc_10, by decide, tw_972, rfl, Or.inl rfl⟩,
   ⟨dd_204_5, rfl⟩, trivial⟩
theorem okM_204 : mj_okE gG 204 (cM_204, 2, oM_204, hM_204) := ⟨rfl, rfl, by decide +kernel, trivial, okI_204⟩
theorem dd_205_0 : decode prog_13_method_51_code 0 = .ok (.aload_n 0, 1) := by decide +kernel
theorem dd_205_1 : decode prog_13_method_51_code 1 = .ok (.getfield 88, 3) := by decide +kernel
theorem dd_205_4 : decode prog_13_method_51_code 4 = .ok (.iconst 2, 1) := by decide +kernel
theorem dd_205_5 : decode prog_13_method_51_code 5 = .ok (.iaload, 1) := by decide +kernel
theorem dd_205_6 : decode prog_13_method_51_code 6 = .ok (.istore_n 1, 1) := by decide +kernel
theorem dd_205_7 : decode prog_13_method_51_code 7 = .ok (.aload_n 0, 1) := by decide +kernel
theorem dd_205_8 : decode prog_13_method_51_code 8 = .ok (.getfield 73, 3) := by decide +kernel
theorem dd_205_11 : decode prog_13_method_51_code 11 = .ok (.iload_n 1, 1) := by decide +kernel
theorem dd_205_12 : decode prog_13_method_51_code 12 = .ok (.iaload, 1) := by decide +kernel
theorem dd_205_13 : decode prog_13_method_51_code 13 = .ok (.istore_n 2, 1) := by decide +kernel
theorem dd_205_14 : decode prog_13_method_51_code 14 = .ok (.aload_n 0, 1) := by decide +kernel
theorem dd_205_15 : decode prog_13_method_51_code 15 = .ok (.invokevirtual 264, 3) := by decide +kernel
theorem dd_205_18 : decode prog_13_method_51_code 18 = .ok (.iload_n 2, 1) := by decide +kernel
theorem dd_205_19 : decode prog_13_method_51_code 19 = .ok (.invokestatic 267, 3) := by decide +kernel
theorem dd_205_22 : decode prog_13_method_51_code 22 = .ok (.if_icmp .ge 43, 3) := by decide +kernel
theorem dd_205_25 : decode prog_13_method_51_code 25 = .ok (.aload_n 0, 1) := by decide +kernel
theorem dd_205_26 : decode prog_13_method_51_code 26 = .ok (.dup, 1) := by decide +kernel
theorem dd_205_27 : decode prog_13_method_51_code 27 = .ok (.getfield 243, 3) := by decide +kernel
theorem dd_205_30 : decode prog_13_method_51_code 30 = .ok (.iconst 1, 1) := by decide +kernel
theorem dd_205_31 : decode prog_13_method_51_code 31 = .ok (.iadd, 1) := by decide +kernel
theorem dd_205_32 : decode prog_13_method_51_code 32 = .ok (.putfield 243, 3) := by decide +kernel
theorem dd_205_35 : decode prog_13_method_51_code 35 = .ok (.aload_n 0, 1) := by decide +kernel
theorem dd_205_36 : decode prog_13_method_51_code 36 = .ok (.dup, 1) := by decide +kernel
theorem dd_205_37 : decode prog_13_method_51_code 37 = .ok (.getfield 246, 3) := by decide +kernel
theorem dd_205_40 : decode prog_13_method_51_code 40 = .ok (.aload_n 0, 1) := by decide +kernel
theorem dd_205_41 : decode prog_13_method_51_code 41 = .ok (.invokevirtual 252, 3) := by decide +kernel
theorem dd_205_44 : decode prog_13_method_51_code 44 = .ok (.iadd, 1) := by decide +kernel
theorem dd_205_45 : decode prog_13_method_51_code 45 = .ok (.putfield 246, 3) := by decide +kernel
theorem dd_205_48 : decode prog_13_method_51_code 48 = .ok (.aload_n 0, 1) := by decide +kernel
theorem dd_205_49 : decode prog_13_method_51_code 49 = .ok (.invokevirtual 264, 3) := by decide +kernel
theorem dd_205_52 : decode prog_13_method_51_code 52 = .ok (.iload_n 2, 1) := by decide +kernel
theorem dd_205_53 : decode prog_13_method_51_code 53 = .ok (.invokestatic 267, 3) := by decide +kernel
theorem dd_205_56 : decode prog_13_method_51_code 56 = .ok (.if_icmp .ge 9, 3) := by decide +kernel
theorem dd_205_59 : decode prog_13_method_51_code 59 = .ok (.aload_n 0, 1) := by decide +kernel
theorem dd_205_60 : decode prog_13_method_51_code 60 = .ok (.iconst 4, 1) := by decide +kernel
theorem dd_205_61 : decode prog_13_method_51_code 61 = .ok (.invokevirtual 270, 3) := by decide +kernel
theorem dd_205_64 : decode prog_13_method_51_code 64 = .ok (.return_, 1) := by decide +kernel
theorem dd_205_65 : decode prog_13_method_51_code 65 = .ok (.aload_n 0, 1) := by decide +kernel
theorem dd_205_66 : decode prog_13_method_51_code 66 = .ok (.iload_n 1, 1) := by decide +kernel
theorem dd_205_67 : decode prog_13_method_51_code 67 = .ok (.invokevirtual 255, 3) := by decide +kernel
theorem dd_205_70 : decode prog_13_method_51_code 70 = .ok (.istore_n 3, 1) := by decide +kernel
theorem dd_205_71 : decode prog_13_method_51_code 71 = .ok (.iload_n 2, 1) := by decide +kernel
theorem dd_205_72 : decode prog_13_method_51_code 72 = .ok (.iconst 1, 1) := by decide +kernel
theorem dd_205_73 : decode prog_13_method_51_code 73 = .ok (.if_icmp .ne 33, 3) := by decide +kernel
theorem dd_205_76 : decode prog_13_method_51_code 76 = .ok (.aload_n 0, 1) := by decide +kernel
theorem dd_205_77 : decode prog_13_method_51_code 77 = .ok (.aload_n 0, 1) := by decide +kernel
theorem dd_205_78 : decode prog_13_method_51_code 78 = .ok (.getfield 70, 3) := by decide +kernel
theorem dd_205_81 : decode prog_13_method_51_code 81 = .ok (.iload_n 3, 1) := by decide +kernel
theorem dd_205_82 : decode prog_13_method_51_code 82 = .ok (.iaload, 1) := by decide +kernel
theorem dd_205_83 : decode prog_13_method_51_code 83 = .ok (.aload_n 0, 1) := by decide +kernel
theorem dd_205_84 : decode prog_13_method_51_code 84 = .ok (.getfield 73, 3) := by decide +kernel
theorem dd_205_87 : decode prog_13_method_51_code 87 = .ok (.iload_n 3, 1) := by decide +kernel
theorem dd_205_88 : decode prog_13_method_51_code 88 = .ok (.iaload, 1) := by decide +kernel
theorem dd_205_89 : decode prog_13_method_51_code 89 = .ok (.invokevirtual 273, 3) := by decide +kernel
theorem dd_205_92 : decode prog_13_method_51_code 92 = .ok (.aload_n 0, 1) := by decide +kernel
theorem dd_205_93 : decode prog_13_method_51_code 93 = .ok (.getfield 88, 3) := by decide +kernel
theorem dd_205_96 : decode prog_13_method_51_code 96 = .ok (.iconst 2, 1) := by decide +kernel
theorem dd_205_97 : decode prog_13_method_51_code 97 = .ok (.aload_n 0, 1) := by decide +kernel
theorem dd_205_98 : decode prog_13_method_51_code 98 = .ok (.iload_n 3, 1) := by decide +kernel
theorem dd_205_99 : decode prog_13_method_51_code 99 = .ok (.invokevirtual 255, 3) := by decide +kernel
theorem dd_205_102 : decode prog_13_method_51_code 102 = .ok (.iastore, 1) := by decide +kernel
theorem dd_205_103 : decode prog_13_method_51_code 103 = .ok (.goto 247, 3) := by decide +kernel
theorem dd_205_106 : decode prog_13_method_51_code 106 = .ok (.iload_n 2, 1) := by decide +kernel
theorem dd_205_107 : decode prog_13_method_51_code 107 = .ok (.iconst 2, 1) := by decide +kernel
theorem dd_205_108 : decode prog_13_method_51_code 108 = .ok (.if_icmp .ne 21, 3) := by decide +kernel
theorem dd_205_111 : decode prog_13_method_51_code 111 = .ok (.aload_n 0, 1) := by decide +kernel
theorem dd_205_112 : decode prog_13_method_51_code 112 = .ok (.aload_n 0, 1) := by decide +kernel
theorem dd_205_113 : decode prog_13_method_51_code 113 = .ok (.getfield 73, 3) := by decide +kernel
theorem dd_205_116 : decode prog_13_method_51_code 116 = .ok (.iload_n 3, 1) := by decide +kernel
theorem dd_205_117 : decode prog_13_method_51_code 117 = .ok (.iaload, 1) := by decide +kernel
theorem dd_205_118 : decode prog_13_method_51_code 118 = .ok (.aload_n 0, 1) := by decide +kernel
theorem dd_205_119 : decode prog_13_method_51_code 119 = .ok (.iload_n 3, 1) := by decide +kernel
theorem dd_205_120 : decode prog_13_method_51_code 120 = .ok (.invokevirtual 255, 3) := by decide +kernel
theorem dd_205_123 : decode prog_13_method_51_code 123 = .ok (.invokevirtual 276, 3) := by decide +kernel
theorem dd_205_126 : decode prog_13_method_51_code 126 = .ok (.goto 224, 3) := by decide +kernel
theorem dd_205_129 : decode prog_13_method_51_code 129 = .ok (.iload_n 2, 1) := by decide +kernel
theorem dd_205_130 : decode prog_13_method_51_code 130 = .ok (.iconst 3, 1) := by decide +kernel
theorem dd_205_131 : decode prog_13_method_51_code 131 = .ok (.if_icmp .ne 49, 3) := by decide +kernel
theorem dd_205_134 : decode prog_13_method_51_code 134 = .ok (.aload_n 0, 1) := by decide +kernel
theorem dd_205_135 : decode prog_13_method_51_code 135 = .ok (.aload_n 0, 1) := by decide +kernel
theorem dd_205_136 : decode prog_13_method_51_code 136 = .ok (.iload_n 3, 1) := by decide +kernel
theorem dd_205_137 : decode prog_13_method_51_code 137 = .ok (.invokevirtual 279, 3) := by decide +kernel
theorem dd_205_140 : decode prog_13_method_51_code 140 = .ok (.aload_n 0, 1) := by decide +kernel
theorem dd_205_141 : decode prog_13_method_51_code 141 = .ok (.getfield 88, 3) := by decide +kernel
theorem dd_205_144 : decode prog_13_method_51_code 144 = .ok (.iconst 1, 1) := by decide +kernel
theorem dd_205_145 : decode prog_13_method_51_code 145 = .ok (.iaload, 1) := by decide +kernel
theorem dd_205_146 : decode prog_13_method_51_code 146 = .ok (.invokevirtual 214, 3) := by decide +kernel
theorem dd_205_149 : decode prog_13_method_51_code 149 = .ok (.istore 4, 2) := by decide +kernel
theorem dd_205_151 : decode prog_13_method_51_code 151 = .ok (.aload_n 0, 1) := by decide +kernel
theorem dd_205_152 : decode prog_13_method_51_code 152 = .ok (.getfield 67, 3) := by decide +kernel
theorem dd_205_155 : decode prog_13_method_51_code 155 = .ok (.iload 4, 2) := by decide +kernel
theorem dd_205_157 : decode prog_13_method_51_code 157 = .ok (.iconst 1, 1) := by decide +kernel
theorem dd_205_158 : decode prog_13_method_51_code 158 = .ok (.bastore, 1) := by decide +kernel
theorem dd_205_159 : decode prog_13_method_51_code 159 = .ok (.aload_n 0, 1) := by decide +kernel
theorem dd_205_160 : decode prog_13_method_51_code 160 = .ok (.iconst 3, 1) := by decide +kernel
theorem dd_205_161 : decode prog_13_method_51_code 161 = .ok (.iload 4, 2) := by decide +kernel
theorem dd_205_163 : decode prog_13_method_51_code 163 = .ok (.invokevirtual 273, 3) := by decide +kernel
theorem dd_205_166 : decode prog_13_method_51_code 166 = .ok (.aload_n 0, 1) := by decide +kernel
theorem dd_205_167 : decode prog_13_method_51_code 167 = .ok (.getfield 88, 3) := by decide +kernel
theorem dd_205_170 : decode prog_13_method_51_code 170 = .ok (.iconst 2, 1) := by decide +kernel
theorem dd_205_171 : decode prog_13_method_51_code 171 = .ok (.aload_n 0, 1) := by decide +kernel
theorem dd_205_172 : decode prog_13_method_51_code 172 = .ok (.iload_n 3, 1) := by decide +kernel
theorem dd_205_173 : decode prog_13_method_51_code 173 = .ok (.invokevirtual 255, 3) := by decide +kernel
theorem dd_205_176 : decode prog_13_method_51_code 176 = .ok (.iastore, 1) := by decide +kernel
theorem dd_205_177 : decode prog_13_method_51_code 177 = .ok (.goto 173, 3) := by decide +kernel
theorem dd_205_180 : decode prog_13_method_51_code 180 = .ok (.iload_n 2, 1) := by decide +kernel
theorem dd_205_181 : decode prog_13_method_51_code 181 = .ok (.iconst 4, 1) := by decide +kernel
theorem dd_205_182 : decode prog_13_method_51_code 182 = .ok (.if_icmp .eq 9, 3) := by decide +kernel
theorem dd_205_185 : decode prog_13_method_51_code 185 = .ok (.iload_n 2, 1) := by decide +kernel
theorem dd_205_186 : decode prog_13_method_51_code 186 = .ok (.bipush 7, 2) := by decide +kernel
theorem dd_205_188 : decode prog_13_method_51_code 188 = .ok (.if_icmp .ne 22, 3) := by decide +kernel
theorem dd_205_191 : decode prog_13_method_51_code 191 = .ok (.aload_n 0, 1) := by decide +kernel
theorem dd_205_192 : decode prog_13_method_51_code 192 = .ok (.iload_n 2, 1) := by decide +kernel
theorem dd_205_193 : decode prog_13_method_51_code 193 = .ok (.bipush 7, 2) := by decide +kernel
theorem dd_205_195 : decode prog_13_method_51_code 195 = .ok (.if_icmp .ne 7, 3) := by decide +kernel
theorem dd_205_198 : decode prog_13_method_51_code 198 = .ok (.iconst 1, 1) := by decide +kernel
theorem dd_205_199 : decode prog_13_method_51_code 199 = .ok (.goto 4, 3) := by decide +kernel
theorem dd_205_202 : decode prog_13_method_51_code 202 = .ok (.iconst 0, 1) := by decide +kernel
theorem dd_205_203 : decode prog_13_method_51_code 203 = .ok (.iload_n 3, 1) := by decide +kernel
theorem dd_205_204 : decode prog_13_method_51_code 204 = .ok (.invokevirtual 282, 3) := by decide +kernel
theorem dd_205_207 : decode prog_13_method_51_code 207 = .ok (.goto 143, 3) := by decide +kernel
theorem dd_205_210 : decode prog_13_method_51_code 210 = .ok (.iload_n 2, 1) := by decide +kernel
theorem dd_205_211 : decode prog_13_method_51_code 211 = .ok (.iconst 5, 1) := by decide +kernel
theorem dd_205_212 : decode prog_13_method_51_code 212 = .ok (.if_icmp .ne 10, 3) := by decide +kernel
theorem dd_205_215 : decode prog_13_method_51_code 215 = .ok (.aload_n 0, 1) := by decide +kernel
theorem dd_205_216 : decode prog_13_method_51_code 216 = .ok (.invokevirtual 286, 3) := by decide +kernel
theorem dd_205_219 : decode prog_13_method_51_code 219 = .ok (.goto 131, 3) := by decide +kernel
theorem dd_205_222 : decode prog_13_method_51_code 222 = .ok (.iload_n 2, 1) := by decide +kernel
theorem dd_205_223 : decode prog_13_method_51_code 223 = .ok (.bipush 6, 2) := by decide +kernel
theorem dd_205_225 : decode prog_13_method_51_code 225 = .ok (.if_icmp .ne 31, 3) := by decide +kernel
theorem dd_205_228 : decode prog_13_method_51_code 228 = .ok (.aload_n 0, 1) := by decide +kernel
theorem dd_205_229 : decode prog_13_method_51_code 229 = .ok (.getfield 88, 3) := by decide +kernel
theorem dd_205_232 : decode prog_13_method_51_code 232 = .ok (.iconst 1, 1) := by decide +kernel
theorem dd_205_233 : decode prog_13_method_51_code 233 = .ok (.aload_n 0, 1) := by decide +kernel
theorem dd_205_234 : decode prog_13_method_51_code 234 = .ok (.iconst 0, 1) := by decide +kernel
theorem dd_205_235 : decode prog_13_method_51_code 235 = .ok (.iconst 0, 1) := by decide +kernel
theorem dd_205_236 : decode prog_13_method_51_code 236 = .ok (.aload_n 0, 1) := by decide +kernel
theorem dd_205_237 : decode prog_13_method_51_code 237 = .ok (.getfield 88, 3) := by decide +kernel
theorem dd_205_240 : decode prog_13_method_51_code 240 = .ok (.iconst 1, 1) := by decide +kernel
theorem dd_205_241 : decode prog_13_method_51_code 241 = .ok (.iaload, 1) := by decide +kernel
theorem dd_205_242 : decode prog_13_method_51_code 242 = .ok (.invokevirtual 207, 3) := by decide +kernel
theorem dd_205_245 : decode prog_13_method_51_code 245 = .ok (.iastore, 1) := by decide +kernel
theorem dd_205_246 : decode prog_13_method_51_code 246 = .ok (.aload_n 0, 1) := by decide +kernel
theorem dd_205_247 : decode prog_13_method_51_code 247 = .ok (.getfield 88, 3) := by decide +kernel
theorem dd_205_250 : decode prog_13_method_51_code 250 = .ok (.iconst 2, 1) := by decide +kernel
theorem dd_205_251 : decode prog_13_method_51_code 251 = .ok (.iload_n 3, 1) := by decide +kernel
theorem dd_205_252 : decode prog_13_method_51_code 252 = .ok (.iastore, 1) := by decide +kernel
theorem dd_205_253 : decode prog_13_method_51_code 253 = .ok (.goto 97, 3) := by decide +kernel
theorem dd_205_256 : decode prog_13_method_51_code 256 = .ok (.iload_n 2, 1) := by decide +kernel
theorem dd_205_257 : decode prog_13_method_51_code 257 = .ok (.bipush 8, 2) := by decide +kernel
theorem dd_205_259 : decode prog_13_method_51_code 259 = .ok (.if_icmp .ne 11, 3) := by decide +kernel
theorem dd_205_262 : decode prog_13_method_51_code 262 = .ok (.aload_n 0, 1) := by decide +kernel
theorem dd_205_263 : decode prog_13_method_51_code 263 = .ok (.iload_n 3, 1) := by decide +kernel
theorem dd_205_264 : decode prog_13_method_51_code 264 = .ok (.invokevirtual 289, 3) := by decide +kernel
theorem dd_205_267 : decode prog_13_method_51_code 267 = .ok (.goto 83, 3) := by decide +kernel
theorem dd_205_270 : decode prog_13_method_51_code 270 = .ok (.iload_n 2, 1) := by decide +kernel
theorem dd_205_271 : decode prog_13_method_51_code 271 = .ok (.bipush 9, 2) := by decide +kernel
theorem dd_205_273 : decode prog_13_method_51_code 273 = .ok (.if_icmp .ne 38, 3) := by decide +kernel
theorem dd_205_276 : decode prog_13_method_51_code 276 = .ok (.aload_n 0, 1) := by decide +kernel
theorem dd_205_277 : decode prog_13_method_51_code 277 = .ok (.getfield 88, 3) := by decide +kernel
theorem dd_205_280 : decode prog_13_method_51_code 280 = .ok (.iconst 2, 1) := by decide +kernel
theorem dd_205_281 : decode prog_13_method_51_code 281 = .ok (.aload_n 0, 1) := by decide +kernel
theorem dd_205_282 : decode prog_13_method_51_code 282 = .ok (.aload_n 0, 1) := by decide +kernel
theorem dd_205_283 : decode prog_13_method_51_code 283 = .ok (.getfield 88, 3) := by decide +kernel
theorem dd_205_286 : decode prog_13_method_51_code 286 = .ok (.iconst 3, 1) := by decide +kernel
theorem dd_205_287 : decode prog_13_method_51_code 287 = .ok (.iaload, 1) := by decide +kernel
theorem dd_205_288 : decode prog_13_method_51_code 288 = .ok (.invokevirtual 279, 3) := by decide +kernel
theorem dd_205_291 : decode prog_13_method_51_code 291 = .ok (.iastore, 1) := by decide +kernel
theorem dd_205_292 : decode prog_13_method_51_code 292 = .ok (.aload_n 0, 1) := by decide +kernel
theorem dd_205_293 : decode prog_13_method_51_code 293 = .ok (.getfield 88, 3) := by decide +kernel
theorem dd_205_296 : decode prog_13_method_51_code 296 = .ok (.iconst 3, 1) := by decide +kernel
theorem dd_205_297 : decode prog_13_method_51_code 297 = .ok (.aload_n 0, 1) := by decide +kernel
theorem dd_205_298 : decode prog_13_method_51_code 298 = .ok (.aload_n 0, 1) := by decide +kernel
theorem dd_205_299 : decode prog_13_method_51_code 299 = .ok (.getfield 88, 3) := by decide +kernel
theorem dd_205_302 : decode prog_13_method_51_code 302 = .ok (.iconst 3, 1) := by decide +kernel
theorem dd_205_303 : decode prog_13_method_51_code 303 = .ok (.iaload, 1) := by decide +kernel
theorem dd_205_304 : decode prog_13_method_51_code 304 = .ok (.invokevirtual 255, 3) := by decide +kernel
theorem dd_205_307 : decode prog_13_method_51_code 307 = .ok (.iastore, 1) := by decide +kernel
theorem dd_205_308 : decode prog_13_method_51_code 308 = .ok (.goto 42, 3) := by decide +kernel
theorem dd_205_311 : decode prog_13_method_51_code 311 = .ok (.iload_n 2, 1) := by decide +kernel
theorem dd_205_312 : decode prog_13_method_51_code 312 = .ok (.bipush 13, 2) := by decide +kernel
theorem dd_205_314 : decode prog_13_method_51_code 314 = .ok (.if_icmp .ge 12, 3) := by decide +kernel
theorem dd_205_317 : decode prog_13_method_51_code 317 = .ok (.aload_n 0, 1) := by decide +kernel
theorem dd_205_318 : decode prog_13_method_51_code 318 = .ok (.iload_n 2, 1) := by decide +kernel
theorem dd_205_319 : decode prog_13_method_51_code 319 = .ok (.iload_n 3, 1) := by decide +kernel
theorem dd_205_320 : decode prog_13_method_51_code 320 = .ok (.invokevirtual 292, 3) := by decide +kernel
theorem dd_205_323 : decode prog_13_method_51_code 323 = .ok (.goto 27, 3) := by decide +kernel
theorem dd_205_326 : decode prog_13_method_51_code 326 = .ok (.iload_n 2, 1) := by decide +kernel
theorem dd_205_327 : decode prog_13_method_51_code 327 = .ok (.bipush 19, 2) := by decide +kernel
theorem dd_205_329 : decode prog_13_method_51_code 329 = .ok (.if_icmp .ge 12, 3) := by decide +kernel
theorem dd_205_332 : decode prog_13_method_51_code 332 = .ok (.aload_n 0, 1) := by decide +kernel
theorem dd_205_333 : decode prog_13_method_51_code 333 = .ok (.iload_n 2, 1) := by decide +kernel
theorem dd_205_334 : decode prog_13_method_51_code 334 = .ok (.iload_n 3, 1) := by decide +kernel
theorem dd_205_335 : decode prog_13_method_51_code 335 = .ok (.invokevirtual 295, 3) := by decide +kernel
theorem dd_205_338 : decode prog_13_method_51_code 338 = .ok (.goto 12, 3) := by decide +kernel
theorem dd_205_341 : decode prog_13_method_51_code 341 = .ok (.aload_n 0, 1) := by decide +kernel
theorem dd_205_342 : decode prog_13_method_51_code 342 = .ok (.iconst 2, 1) := by decide +kernel
theorem dd_205_343 : decode prog_13_method_51_code 343 = .ok (.invokevirtual 270, 3) := by decide +kernel
theorem dd_205_346 : decode prog_13_method_51_code 346 = .ok (.aload_n 0, 1) := by decide +kernel
theorem dd_205_347 : decode prog_13_method_51_code 347 = .ok (.invokevirtual 298, 3) := by decide +kernel
theorem dd_205_350 : decode prog_13_method_51_code 350 = .ok (.return_, 1) := by decide +kernel
set_option maxRecDepth 100000 in
theorem okI_205 : mj_okI gG "PairMachineModel" prog_13_method_51_code 5 (mj_off oM_205) (Option.none : Option Jvm.ClassFile.FieldType) false true 0 cM_205 :=
  ⟨Or.inl ⟨0, rfl, dd_205_0, rfl⟩,
   ⟨88, "PairMachineModel", fT10, 45, dd_205_1, rfl, okc_10, by decide, tw_830⟩,
   Or.inl (Or.inl ⟨dd_205_4, rfl⟩),
   ⟨dd_205_5, rfl⟩,
   ⟨by decide, Or.inl ⟨1, rfl, dd_205_6, rfl⟩⟩,
   Or.inl ⟨0, rfl, dd_205_7, rfl⟩,
   ⟨73, "PairMachineModel", fT10, 45, dd_205_8, rfl, okc_10, by decide, tw_825⟩,
   Or.inl ⟨1, rfl, dd_205_11, rfl⟩,
   ⟨dd_205_12, rfl⟩,
   ⟨by decide, Or.inl ⟨2, rfl, dd_205_13, rfl⟩⟩,
   Or.inl ⟨0, rfl, dd_205_14, rfl⟩,
   ⟨rfl, tw_986, by decide, tw_12, by decide +kernel, 264, tw_987, dd_205_15, tw_988, ⟨"PairMachineModel", fT10, 45, rfl, tw_989⟩, by decide +kernel⟩,
   Or.inl ⟨2, rfl, dd_205_18, rfl⟩,
   ⟨rfl, tw_990, by decide, tw_12, by decide +kernel, 267, tw_991, dd_205_19, tw_992, by decide +kernel⟩,
   ⟨43, dd_205_22, rfl, rfl⟩,
   Or.inl ⟨0, rfl, dd_205_25, rfl⟩,
   ⟨dd_205_26, rfl⟩,
   ⟨243, "PairMachineModel", fT10, 45, dd_205_27, rfl, okc_10, by decide, tw_973⟩,
   Or.inl (Or.inl ⟨dd_205_30, rfl⟩),
   ⟨dd_205_31, rfl⟩,
   ⟨243, "PairMachineModel", fT10, 45, dd_205_32, rfl, okc_10, by decide, tw_973, rfl, Or.inl rfl⟩,
   Or.inl ⟨0, rfl, dd_205_35, rfl⟩,
   ⟨dd_205_36, rfl⟩,
   ⟨246, "PairMachineModel", fT10, 45, dd_205_37, rfl, okc_10, by decide, tw_974⟩,
   Or.inl ⟨0, rfl, dd_205_40, rfl⟩,
   ⟨rfl, tw_976, by decide, tw_12, by decide +kernel, 252, tw_977, dd_205_41, tw_978, ⟨"PairMachineModel", fT10, 45, rfl, tw_979⟩, by decide +kernel⟩,
   ⟨dd_205_44, rfl⟩,
   ⟨246, "PairMachineModel", fT10, 45, dd_205_45, rfl, okc_10, by decide, tw_974, rfl, Or.inl rfl⟩,
   Or.inl ⟨0, rfl, dd_205_48, rfl⟩,
   ⟨rfl, tw_986, by decide, tw_12, by decide +kernel, 264, tw_987, dd_205_49, tw_988, ⟨"PairMachineModel", fT10, 45, rfl, tw_989⟩, by decide +kernel⟩,
   Or.inl ⟨2, rfl, dd_205_52, rfl⟩,
   ⟨rfl, tw_990, by decide, tw_12, by decide +kernel, 267, tw_991, dd_205_53, tw_992, by decide +kernel⟩,
   ⟨9, dd_205_56, rfl, rfl⟩,
   Or.inl ⟨0, rfl, dd_205_59, rfl⟩,
   Or.inl (Or.inl ⟨dd_205_60, rfl⟩),
   ⟨rfl, tw_993, by decide, tw_12, by decide +kernel, 270, tw_994, dd_205_61, tw_995, ⟨"PairMachineModel", fT10, 45, rfl, tw_996⟩, by decide +kernel⟩,
   ⟨dd_205_64, rfl⟩,
   Or.inl ⟨0, rfl, dd_205_65, rfl⟩,
   Or.inl ⟨1, rfl, dd_205_66, rfl⟩,
   ⟨rfl, tw_980, by decide, tw_12, by decide +kernel, 255, tw_981, dd_205_67, tw_982, ⟨"PairMachineModel", fT10, 45, rfl, tw_983⟩, by decide +kernel⟩,
   ⟨by decide, Or.inl ⟨3, rfl, dd_205_70, rfl⟩⟩,
   Or.inl ⟨2, rfl, dd_205_71, rfl⟩,
   Or.inl (Or.inl ⟨dd_205_72, rfl⟩),
   ⟨33, dd_205_73, rfl, rfl⟩,
   Or.inl ⟨0, rfl, dd_205_76, rfl⟩,
   Or.inl ⟨0, rfl, dd_205_77, rfl⟩,
   ⟨70, "PairMachineModel", fT10, 45, dd_205_78, rfl, okc_10, by decide, tw_824⟩,
   Or.inl ⟨3, rfl, dd_205_81, rfl⟩,
   ⟨dd_205_82, rfl⟩,
   Or.inl ⟨0, rfl, dd_205_83, rfl⟩,
   ⟨73, "PairMachineModel", fT10, 45, dd_205_84, rfl, okc_10, by decide, tw_825⟩,
   Or.inl ⟨3, rfl, dd_205_87, rfl⟩,
   ⟨dd_205_88, rfl⟩,
   ⟨rfl, tw_997, by decide, tw_12, by decide +kernel, 273, tw_998, dd_205_89, tw_999, ⟨"PairMachineModel", fT10, 45, rfl, tw_1000⟩, by decide +kernel⟩,
   Or.inl ⟨0, rfl, dd_205_92, rfl⟩,
   ⟨88, "PairMachineModel", fT10, 45, dd_205_93, rfl, okc_10, by decide, tw_830⟩,
   Or.inl (Or.inl ⟨dd_205_96, rfl⟩),
   Or.inl ⟨0, rfl, dd_205_97, rfl⟩,
   Or.inl ⟨3, rfl, dd_205_98, rfl⟩,
   ⟨rfl, tw_980, by decide, tw_12, by decide +kernel, 255, tw_981, dd_205_99, tw_982, ⟨"PairMachineModel", fT10, 45, rfl, tw_983⟩, by decide +kernel⟩,
   ⟨dd_205_102, rfl⟩,
   ⟨247, dd_205_103, rfl⟩,
   Or.inl ⟨2, rfl, dd_205_106, rfl⟩,
   Or.inl (Or.inl ⟨dd_205_107, rfl⟩),
   ⟨21, dd_205_108, rfl, rfl⟩,
   Or.inl ⟨0, rfl, dd_205_111, rfl⟩,
   Or.inl ⟨0, rfl, dd_205_112, rfl⟩,
   ⟨73, "PairMachineModel", fT10, 45, dd_205_113, rfl, okc_10, by decide, tw_825⟩,
   Or.inl ⟨3, rfl, dd_205_116, rfl⟩,
   ⟨dd_205_117, rfl⟩,
   Or.inl ⟨0, rfl, dd_205_118, rfl⟩,
   Or.inl ⟨3, rfl, dd_205_119, rfl⟩,
   ⟨rfl, tw_980, by decide, tw_12, by decide +kernel, 255, tw_981, dd_205_120, tw_982, ⟨"PairMachineModel", fT10, 45, rfl, tw_983⟩, by decide +kernel⟩,
   ⟨rfl, tw_1001, by decide, tw_12, by decide +kernel, 276, tw_1002, dd_205_123, tw_1003, ⟨"PairMachineModel", fT10, 45, rfl, tw_1004⟩, by decide +kernel⟩,
   ⟨224, dd_205_126, rfl⟩,
   Or.inl ⟨2, rfl, dd_205_129, rfl⟩,
   Or.inl (Or.inl ⟨dd_205_130, rfl⟩),
   ⟨49, dd_205_131, rfl, rfl⟩,
   Or.inl ⟨0, rfl, dd_205_134, rfl⟩,
   Or.inl ⟨0, rfl, dd_205_135, rfl⟩,
   Or.inl ⟨3, rfl, dd_205_136, rfl⟩,
   ⟨rfl, tw_1005, by decide, tw_12, by decide +kernel, 279, tw_1006, dd_205_137, tw_1007, ⟨"PairMachineModel", fT10, 45, rfl, tw_1008⟩, by decide +kernel⟩,
   Or.inl ⟨0, rfl, dd_205_140, rfl⟩,
   ⟨88, "PairMachineModel", fT10, 45, dd_205_141, rfl, okc_10, by decide, tw_830⟩,
   Or.inl (Or.inl ⟨dd_205_144, rfl⟩),
   ⟨dd_205_145, rfl⟩,
   ⟨rfl, tw_943, by decide, tw_12, by decide +kernel, 214, tw_944, dd_205_146, tw_945, ⟨"PairMachineModel", fT10, 45, rfl, tw_946⟩, by decide +kernel⟩,
   ⟨by decide, Or.inr ⟨dd_205_149, rfl⟩⟩,
   Or.inl ⟨0, rfl, dd_205_151, rfl⟩,
   ⟨67, "PairMachineModel", fT10, 45, dd_205_152, rfl, okc_10, by decide, tw_823⟩,
   Or.inr ⟨dd_205_155, rfl⟩,
   Or.inl (Or.inl ⟨dd_205_157, rfl⟩),
   ⟨dd_205_158, rfl⟩,
   Or.inl ⟨0, rfl, dd_205_159, rfl⟩,
   Or.inl (Or.inl ⟨dd_205_160, rfl⟩),
   Or.inr ⟨dd_205_161, rfl⟩,
   ⟨rfl, tw_997, by decide, tw_12, by decide +kernel, 273, tw_998, dd_205_163, tw_999, ⟨"PairMachineModel", fT10, 45, rfl, tw_1000⟩, by decide +kernel⟩,
   Or.inl ⟨0, rfl, dd_205_166, rfl⟩,
   ⟨88, "PairMachineModel", fT10, 45, dd_205_167, rfl, okc_10, by decide, tw_830⟩,
   Or.inl (Or.inl ⟨dd_205_170, rfl⟩),
   Or.inl ⟨0, rfl, dd_205_171, rfl⟩,
   Or.inl ⟨3, rfl, dd_205_172, rfl⟩,
   ⟨rfl, tw_980, by decide, tw_12, by decide +kernel, 255, tw_981, dd_205_173, tw_982, ⟨"PairMachineModel", fT10, 45, rfl, tw_983⟩, by decide +kernel⟩,
   ⟨dd_205_176, rfl⟩,
   ⟨173, dd_205_177, rfl⟩,
   Or.inl ⟨2, rfl, dd_205_180, rfl⟩,
   Or.inl (Or.inl ⟨dd_205_181, rfl⟩),
   ⟨9, dd_205_182, rfl, rfl⟩,
   Or.inl ⟨2, rfl, dd_205_185, rfl⟩,
   Or.inl (Or.inr (Or.inl ⟨dd_205_186, rfl, by decide⟩)),
   ⟨22, dd_205_188, rfl, rfl⟩,
   Or.inl ⟨0, rfl, dd_205_191, rfl⟩,
   Or.inl ⟨2, rfl, dd_205_192, rfl⟩,
   Or.inl (Or.inr (Or.inl ⟨dd_205_193, rfl, by decide⟩)),
   ⟨7, dd_205_195, rfl, rfl⟩,
   Or.inl (Or.inl ⟨dd_205_198, rfl⟩),
   ⟨4, dd_205_199, rfl⟩,
   Or.inl (Or.inl ⟨dd_205_202, rfl⟩),
   Or.inl ⟨3, rfl, dd_205_203, rfl⟩,
   ⟨rfl, tw_1009, by decide, tw_12, by decide +kernel, 282, tw_1010, dd_205_204, tw_1011, ⟨"PairMachineModel", fT10, 45, rfl, tw_1012⟩, by decide +kernel⟩,
   ⟨143, dd_205_207, rfl⟩,
   Or.inl ⟨2, rfl, dd_205_210, rfl⟩,
   Or.inl (Or.inl ⟨dd_205_211, rfl⟩),
   ⟨10, dd_205_212, rfl, rfl⟩,
   Or.inl ⟨0, rfl, dd_205_215, rfl⟩,
   ⟨rfl, tw_1013, by decide, tw_12, by decide +kernel, 286, tw_1014, dd_205_216, tw_1015, ⟨"PairMachineModel", fT10, 45, rfl, tw_1016⟩, by decide +kernel⟩,
   ⟨131, dd_205_219, rfl⟩,
   Or.inl ⟨2, rfl, dd_205_222, rfl⟩,
   Or.inl (Or.inr (Or.inl ⟨dd_205_223, rfl, by decide⟩)),
   ⟨31, dd_205_225, rfl, rfl⟩,
   Or.inl ⟨0, rfl, dd_205_228, rfl⟩,
   ⟨88, "PairMachineModel", fT10, 45, dd_205_229, rfl, okc_10, by decide, tw_830⟩,
   Or.inl (Or.inl ⟨dd_205_232, rfl⟩),
   Or.inl ⟨0, rfl, dd_205_233, rfl⟩,
   Or.inl (Or.inl ⟨dd_205_234, rfl⟩),
   Or.inl (Or.inl ⟨dd_205_235, rfl⟩),
   Or.inl ⟨0, rfl, dd_205_236, rfl⟩,
   ⟨88, "PairMachineModel", fT10, 45, dd_205_237, rfl, okc_10, by decide, tw_830⟩,
   Or.inl (Or.inl ⟨dd_205_240, rfl⟩),
   ⟨dd_205_241, rfl⟩,
   ⟨rfl, tw_938, by decide, tw_12, by decide +kernel, 207, tw_939, dd_205_242, tw_940, ⟨"PairMachineModel", fT10, 45, rfl, tw_941⟩, by decide +kernel⟩,
   ⟨dd_205_245, rfl⟩,
   Or.inl ⟨0, rfl, dd_205_246, rfl⟩,
   ⟨88, "PairMachineModel", fT10, 45, dd_205_247, rfl, okc_10, by decide, tw_830⟩,
   Or.inl (Or.inl ⟨dd_205_250, rfl⟩),
   Or.inl ⟨3, rfl, dd_205_251, rfl⟩,
   ⟨dd_205_252, rfl⟩,
   ⟨97, dd_205_253, rfl⟩,
   Or.inl ⟨2, rfl, dd_205_256, rfl⟩,
   Or.inl (Or.inr (Or.inl ⟨dd_205_257, rfl, by decide⟩)),
   ⟨11, dd_205_259, rfl, rfl⟩,
   Or.inl ⟨0, rfl, dd_205_262, rfl⟩,
   Or.inl ⟨3, rfl, dd_205_263, rfl⟩,
   ⟨rfl, tw_1017, by decide, tw_12, by decide +kernel, 289, tw_1018, dd_205_264, tw_1019, ⟨"PairMachineModel", fT10, 45, rfl, tw_1020⟩, by decide +kernel⟩,
   ⟨83, dd_205_267, rfl⟩,
   Or.inl ⟨2, rfl, dd_205_270, rfl⟩,
   Or.inl (Or.inr (Or.inl ⟨dd_205_271, rfl, by decide⟩)),
   ⟨38, dd_205_273, rfl, rfl⟩,
   Or.inl ⟨0, rfl, dd_205_276, rfl⟩,
   ⟨88, "PairMachineModel", fT10, 45, dd_205_277, rfl, okc_10, by decide, tw_830⟩,
   Or.inl (Or.inl ⟨dd_205_280, rfl⟩),
   Or.inl ⟨0, rfl, dd_205_281, rfl⟩,
   Or.inl ⟨0, rfl, dd_205_282, rfl⟩,
   ⟨88, "PairMachineModel", fT10, 45, dd_205_283, rfl, okc_10, by decide, tw_830⟩,
   Or.inl (Or.inl ⟨dd_205_286, rfl⟩),
   ⟨dd_205_287, rfl⟩,
   ⟨rfl, tw_1005, by decide, tw_12, by decide +kernel, 279, tw_1006, dd_205_288, tw_1007, ⟨"PairMachineModel", fT10, 45, rfl, tw_1008⟩, by decide +kernel⟩,
   ⟨dd_205_291, rfl⟩,
   Or.inl ⟨0, rfl, dd_205_292, rfl⟩,
   ⟨88, "PairMachineModel", fT10, 45, dd_205_293, rfl, okc_10, by decide, tw_830⟩,
   Or.inl (Or.inl ⟨dd_205_296, rfl⟩),
   Or.inl ⟨0, rfl, dd_205_297, rfl⟩,
   Or.inl ⟨0, rfl, dd_205_298, rfl⟩,
   ⟨88, "PairMachineModel", fT10, 45, dd_205_299, rfl, okc_10, by decide, tw_830⟩,
   Or.inl (Or.inl ⟨dd_205_302, rfl⟩),
   ⟨dd_205_303, rfl⟩,
   ⟨rfl, tw_980, by decide, tw_12, by decide +kernel, 255, tw_981, dd_205_304, tw_982, ⟨"PairMachineModel", fT10, 45, rfl, tw_983⟩, by decide +kernel⟩,
   ⟨dd_205_307, rfl⟩,
   ⟨42, dd_205_308, rfl⟩,
   Or.inl ⟨2, rfl, dd_205_311, rfl⟩,
   Or.inl (Or.inr (Or.inl ⟨dd_205_312, rfl, by decide⟩)),
   ⟨12, dd_205_314, rfl, rfl⟩,
   Or.inl ⟨0, rfl, dd_205_317, rfl⟩,
   Or.inl ⟨2, rfl, dd_205_318, rfl⟩,
   Or.inl ⟨3, rfl, dd_205_319, rfl⟩,
   ⟨rfl, tw_1021, by decide, tw_12, by decide +kernel, 292, tw_1022, dd_205_320, tw_1023, ⟨"PairMachineModel", fT10, 45, rfl, tw_1024⟩, by decide +kernel⟩,
   ⟨27, dd_205_323, rfl⟩,
   Or.inl ⟨2, rfl, dd_205_326, rfl⟩,
   Or.inl (Or.inr (Or.inl ⟨dd_205_327, rfl, by decide⟩)),
   ⟨12, dd_205_329, rfl, rfl⟩,
   Or.inl ⟨0, rfl, dd_205_332, rfl⟩,
   Or.inl ⟨2, rfl, dd_205_333, rfl⟩,
   Or.inl ⟨3, rfl, dd_205_334, rfl⟩,
   ⟨rfl, tw_1025, by decide, tw_12, by decide +kernel, 295, tw_1026, dd_205_335, tw_1027, ⟨"PairMachineModel", fT10, 45, rfl, tw_1028⟩, by decide +kernel⟩,
   ⟨12, dd_205_338, rfl⟩,
   Or.inl ⟨0, rfl, dd_205_341, rfl⟩,
   Or.inl (Or.inl ⟨dd_205_342, rfl⟩),
   ⟨rfl, tw_993, by decide, tw_12, by decide +kernel, 270, tw_994, dd_205_343, tw_995, ⟨"PairMachineModel", fT10, 45, rfl, tw_996⟩, by decide +kernel⟩,
   Or.inl ⟨0, rfl, dd_205_346, rfl⟩,
   ⟨rfl, tw_1029, by decide, tw_12, by decide +kernel, 298, tw_1030, dd_205_347, tw_1031, ⟨"PairMachineModel", fT10, 45, rfl, tw_1032⟩, by decide +kernel⟩,
   ⟨dd_205_350, rfl⟩, trivial⟩
theorem okM_205 : mj_okE gG 205 (cM_205, 5, oM_205, hM_205) := ⟨rfl, rfl, by decide +kernel, trivial, okI_205⟩
end
