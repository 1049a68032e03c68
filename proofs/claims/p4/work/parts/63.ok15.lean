section
theorem dd_191_0 : decode prog_13_method_38_code 0 = .ok (.aload_n 0, 1) := by decide +kernel
theorem dd_191_1 : decode prog_13_method_38_code 1 = .ok (.invokevirtual 220, 3) := by decide +kernel
theorem dd_191_4 : decode prog_13_method_38_code 4 = .ok (.istore_n 1, 1) := by decide +kernel
theorem dd_191_5 : decode prog_13_method_38_code 5 = .ok (.iconst 0, 1) := by decide +kernel
theorem dd_191_6 : decode prog_13_method_38_code 6 = .ok (.istore_n 2, 1) := by decide +kernel
theorem dd_191_7 : decode prog_13_method_38_code 7 = .ok (.iconst 0, 1) := by decide +kernel
theorem dd_191_8 : decode prog_13_method_38_code 8 = .ok (.istore_n 3, 1) := by decide +kernel
theorem dd_191_9 : decode prog_13_method_38_code 9 = .ok (.iload_n 3, 1) := by decide +kernel
theorem dd_191_10 : decode prog_13_method_38_code 10 = .ok (.aload_n 0, 1) := by decide +kernel
theorem dd_191_11 : decode prog_13_method_38_code 11 = .ok (.getfield 94, 3) := by decide +kernel
theorem dd_191_14 : decode prog_13_method_38_code 14 = .ok (.if_icmp .ge 47, 3) := by decide +kernel
theorem dd_191_17 : decode prog_13_method_38_code 17 = .ok (.aload_n 0, 1) := by decide +kernel
theorem dd_191_18 : decode prog_13_method_38_code 18 = .ok (.getfield 63, 3) := by decide +kernel
theorem dd_191_21 : decode prog_13_method_38_code 21 = .ok (.iload_n 3, 1) := by decide +kernel
theorem dd_191_22 : decode prog_13_method_38_code 22 = .ok (.baload, 1) := by decide +kernel
theorem dd_191_23 : decode prog_13_method_38_code 23 = .ok (.ifCond .eq 18, 3) := by decide +kernel
theorem dd_191_26 : decode prog_13_method_38_code 26 = .ok (.aload_n 0, 1) := by decide +kernel
theorem dd_191_27 : decode prog_13_method_38_code 27 = .ok (.getfield 82, 3) := by decide +kernel
theorem dd_191_30 : decode prog_13_method_38_code 30 = .ok (.iload_n 3, 1) := by decide +kernel
theorem dd_191_31 : decode prog_13_method_38_code 31 = .ok (.baload, 1) := by decide +kernel
theorem dd_191_32 : decode prog_13_method_38_code 32 = .ok (.ifCond .ne 9, 3) := by decide +kernel
theorem dd_191_35 : decode prog_13_method_38_code 35 = .ok (.iload_n 2, 1) := by decide +kernel
theorem dd_191_36 : decode prog_13_method_38_code 36 = .ok (.iconst 1, 1) := by decide +kernel
theorem dd_191_37 : decode prog_13_method_38_code 37 = .ok (.iadd, 1) := by decide +kernel
theorem dd_191_38 : decode prog_13_method_38_code 38 = .ok (.goto 4, 3) := by decide +kernel
theorem dd_191_41 : decode prog_13_method_38_code 41 = .ok (.iload_n 2, 1) := by decide +kernel
theorem dd_191_42 : decode prog_13_method_38_code 42 = .ok (.istore_n 2, 1) := by decide +kernel
theorem dd_191_43 : decode prog_13_method_38_code 43 = .ok (.aload_n 0, 1) := by decide +kernel
theorem dd_191_44 : decode prog_13_method_38_code 44 = .ok (.getfield 63, 3) := by decide +kernel
theorem dd_191_47 : decode prog_13_method_38_code 47 = .ok (.iload_n 3, 1) := by decide +kernel
theorem dd_191_48 : decode prog_13_method_38_code 48 = .ok (.aload_n 0, 1) := by decide +kernel
theorem dd_191_49 : decode prog_13_method_38_code 49 = .ok (.getfield 82, 3) := by decide +kernel
theorem dd_191_52 : decode prog_13_method_38_code 52 = .ok (.iload_n 3, 1) := by decide +kernel
theorem dd_191_53 : decode prog_13_method_38_code 53 = .ok (.baload, 1) := by decide +kernel
theorem dd_191_54 : decode prog_13_method_38_code 54 = .ok (.bastore, 1) := by decide +kernel
theorem dd_191_55 : decode prog_13_method_38_code 55 = .ok (.iinc 3 1, 3) := by decide +kernel
theorem dd_191_58 : decode prog_13_method_38_code 58 = .ok (.goto (-49), 3) := by decide +kernel
theorem dd_191_61 : decode prog_13_method_38_code 61 = .ok (.iload_n 1, 1) := by decide +kernel
theorem dd_191_62 : decode prog_13_method_38_code 62 = .ok (.ifCond .lt 7, 3) := by decide +kernel
theorem dd_191_65 : decode prog_13_method_38_code 65 = .ok (.iload_n 2, 1) := by decide +kernel
theorem dd_191_66 : decode prog_13_method_38_code 66 = .ok (.goto 4, 3) := by decide +kernel
theorem dd_191_69 : decode prog_13_method_38_code 69 = .ok (.iconst 0, 1) := by decide +kernel
theorem dd_191_70 : decode prog_13_method_38_code 70 = .ok (.ireturn, 1) := by decide +kernel
set_option maxRecDepth 100000 in
theorem okI_191 : mj_okI gG "PairMachineModel" prog_13_method_38_code 4 (mj_off oM_191) (Option.some Jvm.ClassFile.FieldType.int) false true 0 cM_191 :=
  ⟨Or.inl ⟨0, rfl, dd_191_0, rfl⟩,
   ⟨rfl, tw_947, by decide, tw_12, by decide +kernel, 220, tw_948, dd_191_1, tw_949, ⟨"PairMachineModel", fT10, 45, rfl, tw_950⟩, by decide +kernel⟩,
   ⟨by decide, Or.inl ⟨1, rfl, dd_191_4, rfl⟩⟩,
   Or.inl (Or.inl ⟨dd_191_5, rfl⟩),
   ⟨by decide, Or.inl ⟨2, rfl, dd_191_6, rfl⟩⟩,
   Or.inl (Or.inl ⟨dd_191_7, rfl⟩),
   ⟨by decide, Or.inl ⟨3, rfl, dd_191_8, rfl⟩⟩,
   Or.inl ⟨3, rfl, dd_191_9, rfl⟩,
   Or.inl ⟨0, rfl, dd_191_10, rfl⟩,
   ⟨94, "PairMachineModel", fT10, 45, dd_191_11, rfl, okc_10, by decide, tw_828⟩,
   ⟨47, dd_191_14, rfl, rfl⟩,
   Or.inl ⟨0, rfl, dd_191_17, rfl⟩,
   ⟨63, "PairMachineModel", fT10, 45, dd_191_18, rfl, okc_10, by decide, tw_818⟩,
   Or.inl ⟨3, rfl, dd_191_21, rfl⟩,
   ⟨dd_191_22, rfl⟩,
   ⟨18, dd_191_23, rfl, rfl⟩,
   Or.inl ⟨0, rfl, dd_191_26, rfl⟩,
   ⟨82, "PairMachineModel", fT10, 45, dd_191_27, rfl, okc_10, by decide, tw_824⟩,
   Or.inl ⟨3, rfl, dd_191_30, rfl⟩,
   ⟨dd_191_31, rfl⟩,
   ⟨9, dd_191_32, rfl, rfl⟩,
   Or.inl ⟨2, rfl, dd_191_35, rfl⟩,
   Or.inl (Or.inl ⟨dd_191_36, rfl⟩),
   ⟨dd_191_37, rfl⟩,
   ⟨4, dd_191_38, rfl⟩,
   Or.inl ⟨2, rfl, dd_191_41, rfl⟩,
   ⟨by decide, Or.inl ⟨2, rfl, dd_191_42, rfl⟩⟩,
   Or.inl ⟨0, rfl, dd_191_43, rfl⟩,
   ⟨63, "PairMachineModel", fT10, 45, dd_191_44, rfl, okc_10, by decide, tw_818⟩,
   Or.inl ⟨3, rfl, dd_191_47, rfl⟩,
   Or.inl ⟨0, rfl, dd_191_48, rfl⟩,
   ⟨82, "PairMachineModel", fT10, 45, dd_191_49, rfl, okc_10, by decide, tw_824⟩,
   Or.inl ⟨3, rfl, dd_191_52, rfl⟩,
   ⟨dd_191_53, rfl⟩,
   ⟨dd_191_54, rfl⟩,
   ⟨by decide, dd_191_55, rfl⟩,
   ⟨(-49), dd_191_58, rfl⟩,
   Or.inl ⟨1, rfl, dd_191_61, rfl⟩,
   ⟨7, dd_191_62, rfl, rfl⟩,
   Or.inl ⟨2, rfl, dd_191_65, rfl⟩,
   ⟨4, dd_191_66, rfl⟩,
   Or.inl (Or.inl ⟨dd_191_69, rfl⟩),
   ⟨dd_191_70, rfl⟩, trivial⟩
theorem okM_191 : mj_okE gG 191 (cM_191, 4, oM_191, hM_191) := ⟨rfl, rfl, by decide +kernel, trivial, okI_191⟩
theorem dd_192_0 : decode prog_13_method_39_code 0 = .ok (.aload_n 0, 1) := by decide +kernel
theorem dd_192_1 : decode prog_13_method_39_code 1 = .ok (.invokevirtual 224, 3) := by decide +kernel
theorem dd_192_4 : decode prog_13_method_39_code 4 = .ok (.istore_n 1, 1) := by decide +kernel
theorem dd_192_5 : decode prog_13_method_39_code 5 = .ok (.aload_n 0, 1) := by decide +kernel
theorem dd_192_6 : decode prog_13_method_39_code 6 = .ok (.iload_n 1, 1) := by decide +kernel
theorem dd_192_7 : decode prog_13_method_39_code 7 = .ok (.ifCond .eq 10, 3) := by decide +kernel
theorem dd_192_10 : decode prog_13_method_39_code 10 = .ok (.aload_n 0, 1) := by decide +kernel
theorem dd_192_11 : decode prog_13_method_39_code 11 = .ok (.invokevirtual 227, 3) := by decide +kernel
theorem dd_192_14 : decode prog_13_method_39_code 14 = .ok (.goto 7, 3) := by decide +kernel
theorem dd_192_17 : decode prog_13_method_39_code 17 = .ok (.aload_n 0, 1) := by decide +kernel
theorem dd_192_18 : decode prog_13_method_39_code 18 = .ok (.getfield 105, 3) := by decide +kernel
theorem dd_192_21 : decode prog_13_method_39_code 21 = .ok (.putfield 13, 3) := by decide +kernel
theorem dd_192_24 : decode prog_13_method_39_code 24 = .ok (.aload_n 0, 1) := by decide +kernel
theorem dd_192_25 : decode prog_13_method_39_code 25 = .ok (.aload_n 0, 1) := by decide +kernel
theorem dd_192_26 : decode prog_13_method_39_code 26 = .ok (.getfield 13, 3) := by decide +kernel
theorem dd_192_29 : decode prog_13_method_39_code 29 = .ok (.ifCond .lt 7, 3) := by decide +kernel
theorem dd_192_32 : decode prog_13_method_39_code 32 = .ok (.iconst 1, 1) := by decide +kernel
theorem dd_192_33 : decode prog_13_method_39_code 33 = .ok (.goto 4, 3) := by decide +kernel
theorem dd_192_36 : decode prog_13_method_39_code 36 = .ok (.iconst 0, 1) := by decide +kernel
theorem dd_192_37 : decode prog_13_method_39_code 37 = .ok (.putfield 97, 3) := by decide +kernel
theorem dd_192_40 : decode prog_13_method_39_code 40 = .ok (.aload_n 0, 1) := by decide +kernel
theorem dd_192_41 : decode prog_13_method_39_code 41 = .ok (.getfield 97, 3) := by decide +kernel
theorem dd_192_44 : decode prog_13_method_39_code 44 = .ok (.ifCond .ne 27, 3) := by decide +kernel
theorem dd_192_47 : decode prog_13_method_39_code 47 = .ok (.aload_n 0, 1) := by decide +kernel
theorem dd_192_48 : decode prog_13_method_39_code 48 = .ok (.invokevirtual 230, 3) := by decide +kernel
theorem dd_192_51 : decode prog_13_method_39_code 51 = .ok (.aload_n 0, 1) := by decide +kernel
theorem dd_192_52 : decode prog_13_method_39_code 52 = .ok (.aload_n 0, 1) := by decide +kernel
theorem dd_192_53 : decode prog_13_method_39_code 53 = .ok (.getfield 175, 3) := by decide +kernel
theorem dd_192_56 : decode prog_13_method_39_code 56 = .ok (.aload_n 0, 1) := by decide +kernel
theorem dd_192_57 : decode prog_13_method_39_code 57 = .ok (.getfield 94, 3) := by decide +kernel
theorem dd_192_60 : decode prog_13_method_39_code 60 = .ok (.if_icmp .le 7, 3) := by decide +kernel
theorem dd_192_63 : decode prog_13_method_39_code 63 = .ok (.iconst 2, 1) := by decide +kernel
theorem dd_192_64 : decode prog_13_method_39_code 64 = .ok (.goto 4, 3) := by decide +kernel
theorem dd_192_67 : decode prog_13_method_39_code 67 = .ok (.iconst 0, 1) := by decide +kernel
theorem dd_192_68 : decode prog_13_method_39_code 68 = .ok (.putfield 97, 3) := by decide +kernel
theorem dd_192_71 : decode prog_13_method_39_code 71 = .ok (.aload_n 0, 1) := by decide +kernel
theorem dd_192_72 : decode prog_13_method_39_code 72 = .ok (.iconst 0, 1) := by decide +kernel
theorem dd_192_73 : decode prog_13_method_39_code 73 = .ok (.putfield 102, 3) := by decide +kernel
theorem dd_192_76 : decode prog_13_method_39_code 76 = .ok (.aload_n 0, 1) := by decide +kernel
theorem dd_192_77 : decode prog_13_method_39_code 77 = .ok (.getfield 97, 3) := by decide +kernel
theorem dd_192_80 : decode prog_13_method_39_code 80 = .ok (.ifCond .le 5, 3) := by decide +kernel
theorem dd_192_83 : decode prog_13_method_39_code 83 = .ok (.iconst 0, 1) := by decide +kernel
theorem dd_192_84 : decode prog_13_method_39_code 84 = .ok (.ireturn, 1) := by decide +kernel
theorem dd_192_85 : decode prog_13_method_39_code 85 = .ok (.iconst 0, 1) := by decide +kernel
theorem dd_192_86 : decode prog_13_method_39_code 86 = .ok (.istore_n 2, 1) := by decide +kernel
theorem dd_192_87 : decode prog_13_method_39_code 87 = .ok (.iload_n 2, 1) := by decide +kernel
theorem dd_192_88 : decode prog_13_method_39_code 88 = .ok (.sipush 250, 3) := by decide +kernel
theorem dd_192_91 : decode prog_13_method_39_code 91 = .ok (.if_icmp .ge 16, 3) := by decide +kernel
theorem dd_192_94 : decode prog_13_method_39_code 94 = .ok (.aload_n 0, 1) := by decide +kernel
theorem dd_192_95 : decode prog_13_method_39_code 95 = .ok (.getfield 63, 3) := by decide +kernel
theorem dd_192_98 : decode prog_13_method_39_code 98 = .ok (.iload_n 2, 1) := by decide +kernel
theorem dd_192_99 : decode prog_13_method_39_code 99 = .ok (.iconst 0, 1) := by decide +kernel
theorem dd_192_100 : decode prog_13_method_39_code 100 = .ok (.bastore, 1) := by decide +kernel
theorem dd_192_101 : decode prog_13_method_39_code 101 = .ok (.iinc 2 1, 3) := by decide +kernel
theorem dd_192_104 : decode prog_13_method_39_code 104 = .ok (.goto (-17), 3) := by decide +kernel
theorem dd_192_107 : decode prog_13_method_39_code 107 = .ok (.iconst 0, 1) := by decide +kernel
theorem dd_192_108 : decode prog_13_method_39_code 108 = .ok (.istore_n 2, 1) := by decide +kernel
theorem dd_192_109 : decode prog_13_method_39_code 109 = .ok (.iload_n 2, 1) := by decide +kernel
theorem dd_192_110 : decode prog_13_method_39_code 110 = .ok (.iconst 4, 1) := by decide +kernel
theorem dd_192_111 : decode prog_13_method_39_code 111 = .ok (.if_icmp .ge 16, 3) := by decide +kernel
theorem dd_192_114 : decode prog_13_method_39_code 114 = .ok (.aload_n 0, 1) := by decide +kernel
theorem dd_192_115 : decode prog_13_method_39_code 115 = .ok (.getfield 88, 3) := by decide +kernel
theorem dd_192_118 : decode prog_13_method_39_code 118 = .ok (.iload_n 2, 1) := by decide +kernel
theorem dd_192_119 : decode prog_13_method_39_code 119 = .ok (.iconst (-1), 1) := by decide +kernel
theorem dd_192_120 : decode prog_13_method_39_code 120 = .ok (.iastore, 1) := by decide +kernel
theorem dd_192_121 : decode prog_13_method_39_code 121 = .ok (.iinc 2 1, 3) := by decide +kernel
theorem dd_192_124 : decode prog_13_method_39_code 124 = .ok (.goto (-15), 3) := by decide +kernel
theorem dd_192_127 : decode prog_13_method_39_code 127 = .ok (.aload_n 0, 1) := by decide +kernel
theorem dd_192_128 : decode prog_13_method_39_code 128 = .ok (.getfield 88, 3) := by decide +kernel
theorem dd_192_131 : decode prog_13_method_39_code 131 = .ok (.iconst 4, 1) := by decide +kernel
theorem dd_192_132 : decode prog_13_method_39_code 132 = .ok (.aload_n 0, 1) := by decide +kernel
theorem dd_192_133 : decode prog_13_method_39_code 133 = .ok (.invokevirtual 233, 3) := by decide +kernel
theorem dd_192_136 : decode prog_13_method_39_code 136 = .ok (.iastore, 1) := by decide +kernel
theorem dd_192_137 : decode prog_13_method_39_code 137 = .ok (.aload_n 0, 1) := by decide +kernel
theorem dd_192_138 : decode prog_13_method_39_code 138 = .ok (.iconst 1, 1) := by decide +kernel
theorem dd_192_139 : decode prog_13_method_39_code 139 = .ok (.putfield 236, 3) := by decide +kernel
theorem dd_192_142 : decode prog_13_method_39_code 142 = .ok (.aload_n 0, 1) := by decide +kernel
theorem dd_192_143 : decode prog_13_method_39_code 143 = .ok (.iconst 0, 1) := by decide +kernel
theorem dd_192_144 : decode prog_13_method_39_code 144 = .ok (.putfield 240, 3) := by decide +kernel
theorem dd_192_147 : decode prog_13_method_39_code 147 = .ok (.aload_n 0, 1) := by decide +kernel
theorem dd_192_148 : decode prog_13_method_39_code 148 = .ok (.iconst 0, 1) := by decide +kernel
theorem dd_192_149 : decode prog_13_method_39_code 149 = .ok (.putfield 243, 3) := by decide +kernel
theorem dd_192_152 : decode prog_13_method_39_code 152 = .ok (.aload_n 0, 1) := by decide +kernel
theorem dd_192_153 : decode prog_13_method_39_code 153 = .ok (.iconst 0, 1) := by decide +kernel
theorem dd_192_154 : decode prog_13_method_39_code 154 = .ok (.putfield 246, 3) := by decide +kernel
theorem dd_192_157 : decode prog_13_method_39_code 157 = .ok (.aload_n 0, 1) := by decide +kernel
theorem dd_192_158 : decode prog_13_method_39_code 158 = .ok (.iconst 0, 1) := by decide +kernel
theorem dd_192_159 : decode prog_13_method_39_code 159 = .ok (.putfield 249, 3) := by decide +kernel
theorem dd_192_162 : decode prog_13_method_39_code 162 = .ok (.aload_n 0, 1) := by decide +kernel
theorem dd_192_163 : decode prog_13_method_39_code 163 = .ok (.getfield 175, 3) := by decide +kernel
theorem dd_192_166 : decode prog_13_method_39_code 166 = .ok (.ireturn, 1) := by decide +kernel
set_option maxRecDepth 100000 in
theorem okI_192 : mj_okI gG "PairMachineModel" prog_13_method_39_code 3 (mj_off oM_192) (Option.some Jvm.ClassFile.FieldType.int) false true 0 cM_192 :=
  ⟨Or.inl ⟨0, rfl, dd_192_0, rfl⟩,
   ⟨rfl, tw_951, by decide, tw_12, by decide +kernel, 224, tw_952, dd_192_1, tw_953, ⟨"PairMachineModel", fT10, 45, rfl, tw_954⟩, by decide +kernel⟩,
   ⟨by decide, Or.inl ⟨1, rfl, dd_192_4, rfl⟩⟩,
   Or.inl ⟨0, rfl, dd_192_5, rfl⟩,
   Or.inl ⟨1, rfl, dd_192_6, rfl⟩,
   ⟨10, dd_192_7, rfl, rfl⟩,
   Or.inl ⟨0, rfl, dd_192_10, rfl⟩,
   ⟨rfl, tw_955, by decide, tw_12, by decide +kernel, 227, tw_956, dd_192_11, tw_957, ⟨"PairMachineModel", fT10, 45, rfl, tw_958⟩, by decide +kernel⟩,
   ⟨7, dd_192_14, rfl⟩,
   Or.inl ⟨0, rfl, dd_192_17, rfl⟩,
   ⟨105, "PairMachineModel", fT10, 45, dd_192_18, rfl, okc_10, by decide, tw_832⟩,
   ⟨13, "PairMachineModel", fT10, 45, dd_192_21, rfl, okc_10, by decide, tw_802, rfl, Or.inl rfl⟩,
   Or.inl ⟨0, rfl, dd_192_24, rfl⟩,
   Or.inl ⟨0, rfl, dd_192_25, rfl⟩,
   ⟨13, "PairMachineModel", fT10, 45, dd_192_26, rfl, okc_10, by decide, tw_802⟩,
   ⟨7, dd_192_29, rfl, rfl⟩,
   Or.inl (Or.inl ⟨dd_192_32, rfl⟩),
   ⟨4, dd_192_33, rfl⟩,
   Or.inl (Or.inl ⟨dd_192_36, rfl⟩),
   ⟨97, "PairMachineModel", fT10, 45, dd_192_37, rfl, okc_10, by decide, tw_829, rfl, Or.inl rfl⟩,
   Or.inl ⟨0, rfl, dd_192_40, rfl⟩,
   ⟨97, "PairMachineModel", fT10, 45, dd_192_41, rfl, okc_10, by decide, tw_829⟩,
   ⟨27, dd_192_44, rfl, rfl⟩,
   Or.inl ⟨0, rfl, dd_192_47, rfl⟩,
   ⟨rfl, tw_959, by decide, tw_12, by decide +kernel, 230, tw_960, dd_192_48, tw_961, ⟨"PairMachineModel", fT10, 45, rfl, tw_962⟩, by decide +kernel⟩,
   Or.inl ⟨0, rfl, dd_192_51, rfl⟩,
   Or.inl ⟨0, rfl, dd_192_52, rfl⟩,
   ⟨175, "PairMachineModel", fT10, 45, dd_192_53, rfl, okc_10, by decide, tw_901⟩,
   Or.inl ⟨0, rfl, dd_192_56, rfl⟩,
   ⟨94, "PairMachineModel", fT10, 45, dd_192_57, rfl, okc_10, by decide, tw_828⟩,
   ⟨7, dd_192_60, rfl, rfl⟩,
   Or.inl (Or.inl ⟨dd_192_63, rfl⟩),
   ⟨4, dd_192_64, rfl⟩,
   Or.inl (Or.inl ⟨dd_192_67, rfl⟩),
   ⟨97, "PairMachineModel", fT10, 45, dd_192_68, rfl, okc_10, by decide, tw_829, rfl, Or.inl rfl⟩,
   Or.inl ⟨0, rfl, dd_192_71, rfl⟩,
   Or.inl (Or.inl ⟨dd_192_72, rfl⟩),
   ⟨102, "PairMachineModel", fT10, 45, dd_192_73, rfl, okc_10, by decide, tw_831, rfl, Or.inl rfl⟩,
   Or.inl ⟨0, rfl, dd_192_76, rfl⟩,
   ⟨97, "PairMachineModel", fT10, 45, dd_192_77, rfl, okc_10, by decide, tw_829⟩,
   ⟨5, dd_192_80, rfl, rfl⟩,
   Or.inl (Or.inl ⟨dd_192_83, rfl⟩),
   ⟨dd_192_84, rfl⟩,
   Or.inl (Or.inl ⟨dd_192_85, rfl⟩),
   ⟨by decide, Or.inl ⟨2, rfl, dd_192_86, rfl⟩⟩,
   Or.inl ⟨2, rfl, dd_192_87, rfl⟩,
   Or.inl (Or.inr (Or.inr (Or.inl ⟨dd_192_88, rfl, by decide⟩))),
   ⟨16, dd_192_91, rfl, rfl⟩,
   Or.inl ⟨0, rfl, dd_192_94, rfl⟩,
   ⟨63, "PairMachineModel", fT10, 45, dd_192_95, rfl, okc_10, by decide, tw_818⟩,
   Or.inl ⟨2, rfl, dd_192_98, rfl⟩,
   Or.inl (Or.inl ⟨dd_192_99, rfl⟩),
   ⟨dd_192_100, rfl⟩,
   ⟨by decide, dd_192_101, rfl⟩,
   ⟨(-17), dd_192_104, rfl⟩,
   Or.inl (Or.inl ⟨dd_192_107, rfl⟩),
   ⟨by decide, Or.inl ⟨2, rfl, dd_192_108, rfl⟩⟩,
   Or.inl ⟨2, rfl, dd_192_109, rfl⟩,
   Or.inl (Or.inl ⟨dd_192_110, rfl⟩),
   ⟨16, dd_192_111, rfl, rfl⟩,
   Or.inl ⟨0, rfl, dd_192_114, rfl⟩,
   ⟨88, "PairMachineModel", fT10, 45, dd_192_115, rfl, okc_10, by decide, tw_826⟩,
   Or.inl ⟨2, rfl, dd_192_118, rfl⟩,
   Or.inl (Or.inl ⟨dd_192_119, rfl⟩),
   ⟨dd_192_120, rfl⟩,
   ⟨by decide, dd_192_121, rfl⟩,
   ⟨(-15), dd_192_124, rfl⟩,
   Or.inl ⟨0, rfl, dd_192_127, rfl⟩,
   ⟨88, "PairMachineModel", fT10, 45, dd_192_128, rfl, okc_10, by decide, tw_826⟩,
   Or.inl (Or.inl ⟨dd_192_131, rfl⟩),
   Or.inl ⟨0, rfl, dd_192_132, rfl⟩,
   ⟨rfl, tw_963, by decide, tw_12, by decide +kernel, 233, tw_964, dd_192_133, tw_965, ⟨"PairMachineModel", fT10, 45, rfl, tw_966⟩, by decide +kernel⟩,
   ⟨dd_192_136, rfl⟩,
   Or.inl ⟨0, rfl, dd_192_137, rfl⟩,
   Or.inl (Or.inl ⟨dd_192_138, rfl⟩),
   ⟨236, "PairMachineModel", fT10, 45, dd_192_139, rfl, okc_10, by decide, tw_967, Or.inl rfl, Or.inl rfl⟩,
   Or.inl ⟨0, rfl, dd_192_142, rfl⟩,
   Or.inl (Or.inl ⟨dd_192_143, rfl⟩),
   ⟨240, "PairMachineModel", fT10, 45, dd_192_144, rfl, okc_10, by decide, tw_968, rfl, Or.inl rfl⟩,
   Or.inl ⟨0, rfl, dd_192_147, rfl⟩,
   Or.inl (Or.inl ⟨dd_192_148, rfl⟩),
   ⟨243, "PairMachineModel", fT10, 45, dd_192_149, rfl, okc_10, by decide, tw_969, rfl, Or.inl rfl⟩,
   Or.inl ⟨0, rfl, dd_192_152, rfl⟩,
   Or.inl (Or.inl ⟨dd_192_153, rfl⟩),
   ⟨246, "PairMachineModel", fT10, 45, dd_192_154, rfl, okc_10, by decide, tw_970, rfl, Or.inl rfl⟩,
   Or.inl ⟨0, rfl, dd_192_157, rfl⟩,
   Or.inl (Or.inl ⟨dd_192_158, rfl⟩),
   ⟨249, "PairMachineModel", fT10, 45, dd_192_159, rfl, okc_10, by decide, tw_971, rfl, Or.inl rfl⟩,
   Or.inl ⟨0, rfl, dd_192_162, rfl⟩,
   ⟨175, "PairMachineModel", fT10, 45, dd_192_163, rfl, okc_10, by decide, tw_901⟩,
   ⟨dd_192_166, rfl⟩, trivial⟩
theorem okM_192 : mj_okE gG 192 (cM_192, 3, oM_192, hM_192) := ⟨rfl, rfl, by decide +kernel, trivial, okI_192⟩
theorem dd_193_0 : decode prog_13_method_40_code 0 = .ok (.aload_n 0, 1) := by decide +kernel
theorem dd_193_1 : decode prog_13_method_40_code 1 = .ok (.iconst 0, 1) := by decide +kernel
theorem dd_193_2 : decode prog_13_method_40_code 2 = .ok (.putfield 97, 3) := by decide +kernel
theorem dd_193_5 : decode prog_13_method_40_code 5 = .ok (.aload_n 0, 1) := by decide +kernel
theorem dd_193_6 : decode prog_13_method_40_code 6 = .ok (.getfield 13, 3) := by decide +kernel
theorem dd_193_9 : decode prog_13_method_40_code 9 = .ok (.ireturn, 1) := by decide +kernel
set_option maxRecDepth 100000 in
theorem okI_193 : mj_okI gG "PairMachineModel" prog_13_method_40_code 1 (mj_off oM_193) (Option.some Jvm.ClassFile.FieldType.int) false true 0 cM_193 :=
  ⟨Or.inl ⟨0, rfl, dd_193_0, rfl⟩,
   Or.inl (Or.inl ⟨dd_193_1, rfl⟩),
   ⟨97, "PairMachineModel", fT10, 45, dd_193_2, rfl, okc_10, by decide, tw_829, rfl, Or.inl rfl⟩,
   Or.inl ⟨0, rfl, dd_193_5, rfl⟩,
   ⟨13, "PairMachineModel", fT10, 45, dd_193_6, rfl, okc_10, by decide, tw_802⟩,
   ⟨dd_193_9, rfl⟩, trivial⟩
theorem okM_193 : mj_okE gG 193 (cM_193, 1, oM_193, hM_193) := ⟨rfl, rfl, by decide +kernel, trivial, okI_193⟩
theorem dd_194_0 : decode prog_13_method_41_code 0 = .ok (.aload_n 0, 1) := by decide +kernel
theorem dd_194_1 : decode prog_13_method_41_code 1 = .ok (.iconst 0, 1) := by decide +kernel
theorem dd_194_2 : decode prog_13_method_41_code 2 = .ok (.putfield 97, 3) := by decide +kernel
theorem dd_194_5 : decode prog_13_method_41_code 5 = .ok (.aload_n 0, 1) := by decide +kernel
theorem dd_194_6 : decode prog_13_method_41_code 6 = .ok (.getfield 236, 3) := by decide +kernel
theorem dd_194_9 : decode prog_13_method_41_code 9 = .ok (.ifCond .ne 5, 3) := by decide +kernel
theorem dd_194_12 : decode prog_13_method_41_code 12 = .ok (.iconst 0, 1) := by decide +kernel
theorem dd_194_13 : decode prog_13_method_41_code 13 = .ok (.ireturn, 1) := by decide +kernel
theorem dd_194_14 : decode prog_13_method_41_code 14 = .ok (.iconst 0, 1) := by decide +kernel
theorem dd_194_15 : decode prog_13_method_41_code 15 = .ok (.istore_n 1, 1) := by decide +kernel
theorem dd_194_16 : decode prog_13_method_41_code 16 = .ok (.iload_n 1, 1) := by decide +kernel
theorem dd_194_17 : decode prog_13_method_41_code 17 = .ok (.iconst 4, 1) := by decide +kernel
theorem dd_194_18 : decode prog_13_method_41_code 18 = .ok (.if_icmp .ge 16, 3) := by decide +kernel
theorem dd_194_21 : decode prog_13_method_41_code 21 = .ok (.aload_n 0, 1) := by decide +kernel
theorem dd_194_22 : decode prog_13_method_41_code 22 = .ok (.getfield 88, 3) := by decide +kernel
theorem dd_194_25 : decode prog_13_method_41_code 25 = .ok (.iload_n 1, 1) := by decide +kernel
theorem dd_194_26 : decode prog_13_method_41_code 26 = .ok (.iconst (-1), 1) := by decide +kernel
theorem dd_194_27 : decode prog_13_method_41_code 27 = .ok (.iastore, 1) := by decide +kernel
theorem dd_194_28 : decode prog_13_method_41_code 28 = .ok (.iinc 1 1, 3) := by decide +kernel
theorem dd_194_31 : decode prog_13_method_41_code 31 = .ok (.goto (-15), 3) := by decide +kernel
theorem dd_194_34 : decode prog_13_method_41_code 34 = .ok (.aload_n 0, 1) := by decide +kernel
theorem dd_194_35 : decode prog_13_method_41_code 35 = .ok (.invokevirtual 252, 3) := by decide +kernel
theorem dd_194_38 : decode prog_13_method_41_code 38 = .ok (.istore_n 1, 1) := by decide +kernel
theorem dd_194_39 : decode prog_13_method_41_code 39 = .ok (.aload_n 0, 1) := by decide +kernel
theorem dd_194_40 : decode prog_13_method_41_code 40 = .ok (.getfield 88, 3) := by decide +kernel
theorem dd_194_43 : decode prog_13_method_41_code 43 = .ok (.iconst 2, 1) := by decide +kernel
theorem dd_194_44 : decode prog_13_method_41_code 44 = .ok (.aload_n 0, 1) := by decide +kernel
theorem dd_194_45 : decode prog_13_method_41_code 45 = .ok (.getfield 88, 3) := by decide +kernel
theorem dd_194_48 : decode prog_13_method_41_code 48 = .ok (.iconst 4, 1) := by decide +kernel
theorem dd_194_49 : decode prog_13_method_41_code 49 = .ok (.iaload, 1) := by decide +kernel
theorem dd_194_50 : decode prog_13_method_41_code 50 = .ok (.iastore, 1) := by decide +kernel
theorem dd_194_51 : decode prog_13_method_41_code 51 = .ok (.aload_n 0, 1) := by decide +kernel
theorem dd_194_52 : decode prog_13_method_41_code 52 = .ok (.iconst 1, 1) := by decide +kernel
theorem dd_194_53 : decode prog_13_method_41_code 53 = .ok (.putfield 240, 3) := by decide +kernel
theorem dd_194_56 : decode prog_13_method_41_code 56 = .ok (.aload_n 0, 1) := by decide +kernel
theorem dd_194_57 : decode prog_13_method_41_code 57 = .ok (.iconst 0, 1) := by decide +kernel
theorem dd_194_58 : decode prog_13_method_41_code 58 = .ok (.putfield 243, 3) := by decide +kernel
theorem dd_194_61 : decode prog_13_method_41_code 61 = .ok (.aload_n 0, 1) := by decide +kernel
theorem dd_194_62 : decode prog_13_method_41_code 62 = .ok (.iconst 0, 1) := by decide +kernel
theorem dd_194_63 : decode prog_13_method_41_code 63 = .ok (.putfield 246, 3) := by decide +kernel
theorem dd_194_66 : decode prog_13_method_41_code 66 = .ok (.aload_n 0, 1) := by decide +kernel
theorem dd_194_67 : decode prog_13_method_41_code 67 = .ok (.iconst 0, 1) := by decide +kernel
theorem dd_194_68 : decode prog_13_method_41_code 68 = .ok (.putfield 249, 3) := by decide +kernel
theorem dd_194_71 : decode prog_13_method_41_code 71 = .ok (.iload_n 1, 1) := by decide +kernel
theorem dd_194_72 : decode prog_13_method_41_code 72 = .ok (.ifCond .lt 7, 3) := by decide +kernel
theorem dd_194_75 : decode prog_13_method_41_code 75 = .ok (.iconst 1, 1) := by decide +kernel
theorem dd_194_76 : decode prog_13_method_41_code 76 = .ok (.goto 4, 3) := by decide +kernel
theorem dd_194_79 : decode prog_13_method_41_code 79 = .ok (.iconst 0, 1) := by decide +kernel
theorem dd_194_80 : decode prog_13_method_41_code 80 = .ok (.ireturn, 1) := by decide +kernel
set_option maxRecDepth 100000 in
theorem okI_194 : mj_okI gG "PairMachineModel" prog_13_method_41_code 2 (mj_off oM_194) (Option.some Jvm.ClassFile.FieldType.boolean) false true 0 cM_194 :=
  ⟨Or.inl ⟨0, rfl, dd_194_0, rfl⟩,
   Or.inl (Or.inl ⟨dd_194_1, rfl⟩),
   ⟨97, "PairMachineModel", fT10, 45, dd_194_2, rfl, okc_10, by decide, tw_829, rfl, Or.inl rfl⟩,
   Or.inl ⟨0, rfl, dd_194_5, rfl⟩,
   ⟨236, "PairMachineModel", fT10, 45, dd_194_6, rfl, okc_10, by decide, tw_967⟩,
   ⟨5, dd_194_9, rfl, rfl⟩,
   Or.inl (Or.inl ⟨dd_194_12, rfl⟩),
   ⟨dd_194_13, rfl⟩,
   Or.inl (Or.inl ⟨dd_194_14, rfl⟩),
   ⟨by decide, Or.inl ⟨1, rfl, dd_194_15, rfl⟩⟩,
   Or.inl ⟨1, rfl, dd_194_16, rfl⟩,
   Or.inl (Or.inl ⟨dd_194_17, rfl⟩),
   ⟨16, dd_194_18, rfl, rfl⟩,
   Or.inl ⟨0, rfl, dd_194_21, rfl⟩,
   ⟨88, "PairMachineModel", fT10, 45, dd_194_22, rfl, okc_10, by decide, tw_826⟩,
   Or.inl ⟨1, rfl, dd_194_25, rfl⟩,
   Or.inl (Or.inl ⟨dd_194_26, rfl⟩),
   ⟨dd_194_27, rfl⟩,
   ⟨by decide, dd_194_28, rfl⟩,
   ⟨(-15), dd_194_31, rfl⟩,
   Or.inl ⟨0, rfl, dd_194_34, rfl⟩,
   ⟨rfl, tw_972, by decide, tw_12, by decide +kernel, 252, tw_973, dd_194_35, tw_974, ⟨"PairMachineModel", fT10, 45, rfl, tw_975⟩, by decide +kernel⟩,
   ⟨by decide, Or.inl ⟨1, rfl, dd_194_38, rfl⟩⟩,
   Or.inl ⟨0, rfl, dd_194_39, rfl⟩,
   ⟨88, "PairMachineModel", fT10, 45, dd_194_40, rfl, okc_10, by decide, tw_826⟩,
   Or.inl (Or.inl ⟨dd_194_43, rfl⟩),
   Or.inl ⟨0, rfl, dd_194_44, rfl⟩,
   ⟨88, "PairMachineModel", fT10, 45, dd_194_45, rfl, okc_10, by decide, tw_826⟩,
   Or.inl (Or.inl ⟨dd_194_48, rfl⟩),
   ⟨dd_194_49, rfl⟩,
   ⟨dd_194_50, rfl⟩,
   Or.inl ⟨0, rfl, dd_194_51, rfl⟩,
   Or.inl (Or.inl ⟨dd_194_52, rfl⟩),
   ⟨240, "PairMachineModel", fT10, 45, dd_194_53, rfl, okc_10, by decide, tw_968, rfl, Or.inl rfl⟩,
   Or.inl ⟨0, rfl, dd_194_56, rfl⟩,
   Or.inl (Or.inl ⟨dd_194_57, rfl⟩),
   ⟨243, "PairMachineModel", fT10, 45, dd_194_58, rfl, okc_10, by decide, tw_969, rfl, Or.inl rfl⟩,
   Or.inl ⟨0, rfl, dd_194_61, rfl⟩,
   Or.inl (Or.inl ⟨dd_194_62, rfl⟩),
   ⟨246, "PairMachineModel", fT10, 45, dd_194_63, rfl, okc_10, by decide, tw_970, rfl, Or.inl rfl⟩,
   Or.inl ⟨0, rfl, dd_194_66, rfl⟩,
   Or.inl (Or.inl ⟨dd_194_67, rfl⟩),
   ⟨249, "PairMachineModel", fT10, 45, dd_194_68, rfl, okc_10, by decide, tw_971, rfl, Or.inl rfl⟩,
   Or.inl ⟨1, rfl, dd_194_71, rfl⟩,
   ⟨7, dd_194_72, rfl, rfl⟩,
   Or.inl (Or.inl ⟨dd_194_75, rfl⟩),
   ⟨4, dd_194_76, rfl⟩,
   Or.inl (Or.inl ⟨dd_194_79, rfl⟩),
   ⟨dd_194_80, rfl⟩, trivial⟩
theorem okM_194 : mj_okE gG 194 (cM_194, 2, oM_194, hM_194) := ⟨rfl, rfl, by decide +kernel, trivial, okI_194⟩
theorem dd_195_0 : decode prog_13_method_42_code 0 = .ok (.iload_n 0, 1) := by decide +kernel
theorem dd_195_1 : decode prog_13_method_42_code 1 = .ok (.iconst 4, 1) := by decide +kernel
theorem dd_195_2 : decode prog_13_method_42_code 2 = .ok (.if_icmp .ne 7, 3) := by decide +kernel
theorem dd_195_5 : decode prog_13_method_42_code 5 = .ok (.iconst 4, 1) := by decide +kernel
theorem dd_195_6 : decode prog_13_method_42_code 6 = .ok (.goto 45, 3) := by decide +kernel
theorem dd_195_9 : decode prog_13_method_42_code 9 = .ok (.iload_n 0, 1) := by decide +kernel
theorem dd_195_10 : decode prog_13_method_42_code 10 = .ok (.bipush 7, 2) := by decide +kernel
theorem dd_195_12 : decode prog_13_method_42_code 12 = .ok (.if_icmp .ne 7, 3) := by decide +kernel
theorem dd_195_15 : decode prog_13_method_42_code 15 = .ok (.iconst 3, 1) := by decide +kernel
theorem dd_195_16 : decode prog_13_method_42_code 16 = .ok (.goto 35, 3) := by decide +kernel
theorem dd_195_19 : decode prog_13_method_42_code 19 = .ok (.iload_n 0, 1) := by decide +kernel
theorem dd_195_20 : decode prog_13_method_42_code 20 = .ok (.iconst 3, 1) := by decide +kernel
theorem dd_195_21 : decode prog_13_method_42_code 21 = .ok (.if_icmp .eq 9, 3) := by decide +kernel
theorem dd_195_24 : decode prog_13_method_42_code 24 = .ok (.iload_n 0, 1) := by decide +kernel
theorem dd_195_25 : decode prog_13_method_42_code 25 = .ok (.bipush 13, 2) := by decide +kernel
theorem dd_195_27 : decode prog_13_method_42_code 27 = .ok (.if_icmp .ne 7, 3) := by decide +kernel
theorem dd_195_30 : decode prog_13_method_42_code 30 = .ok (.iconst 2, 1) := by decide +kernel
theorem dd_195_31 : decode prog_13_method_42_code 31 = .ok (.goto 20, 3) := by decide +kernel
theorem dd_195_34 : decode prog_13_method_42_code 34 = .ok (.iload_n 0, 1) := by decide +kernel
theorem dd_195_35 : decode prog_13_method_42_code 35 = .ok (.bipush 9, 2) := by decide +kernel
theorem dd_195_37 : decode prog_13_method_42_code 37 = .ok (.if_icmp .eq 9, 3) := by decide +kernel
theorem dd_195_40 : decode prog_13_method_42_code 40 = .ok (.iload_n 0, 1) := by decide +kernel
theorem dd_195_41 : decode prog_13_method_42_code 41 = .ok (.bipush 19, 2) := by decide +kernel
theorem dd_195_43 : decode prog_13_method_42_code 43 = .ok (.if_icmp .ne 7, 3) := by decide +kernel
theorem dd_195_46 : decode prog_13_method_42_code 46 = .ok (.iconst 0, 1) := by decide +kernel
theorem dd_195_47 : decode prog_13_method_42_code 47 = .ok (.goto 4, 3) := by decide +kernel
theorem dd_195_50 : decode prog_13_method_42_code 50 = .ok (.iconst 1, 1) := by decide +kernel
theorem dd_195_51 : decode prog_13_method_42_code 51 = .ok (.ireturn, 1) := by decide +kernel
set_option maxRecDepth 100000 in
theorem okI_195 : mj_okI gG "PairMachineModel" prog_13_method_42_code 1 (mj_off oM_195) (Option.some Jvm.ClassFile.FieldType.int) false true 0 cM_195 :=
  ⟨Or.inl ⟨0, rfl, dd_195_0, rfl⟩,
   Or.inl (Or.inl ⟨dd_195_1, rfl⟩),
   ⟨7, dd_195_2, rfl, rfl⟩,
   Or.inl (Or.inl ⟨dd_195_5, rfl⟩),
   ⟨45, dd_195_6, rfl⟩,
   Or.inl ⟨0, rfl, dd_195_9, rfl⟩,
   Or.inl (Or.inr (Or.inl ⟨dd_195_10, rfl, by decide⟩)),
   ⟨7, dd_195_12, rfl, rfl⟩,
   Or.inl (Or.inl ⟨dd_195_15, rfl⟩),
   ⟨35, dd_195_16, rfl⟩,
   Or.inl ⟨0, rfl, dd_195_19, rfl⟩,
   Or.inl (Or.inl ⟨dd_195_20, rfl⟩),
   ⟨9, dd_195_21, rfl, rfl⟩,
   Or.inl ⟨0, rfl, dd_195_24, rfl⟩,
   Or.inl (Or.inr (Or.inl ⟨dd_195_25, rfl, by decide⟩)),
   ⟨7, dd_195_27, rfl, rfl⟩,
   Or.inl (Or.inl ⟨dd_195_30, rfl⟩),
   ⟨20, dd_195_31, rfl⟩,
   Or.inl ⟨0, rfl, dd_195_34, rfl⟩,
   Or.inl (Or.inr (Or.inl ⟨dd_195_35, rfl, by decide⟩)),
   ⟨9, dd_195_37, rfl, rfl⟩,
   Or.inl ⟨0, rfl, dd_195_40, rfl⟩,
   Or.inl (Or.inr (Or.inl ⟨dd_195_41, rfl, by decide⟩)),
   ⟨7, dd_195_43, rfl, rfl⟩,
   Or.inl (Or.inl ⟨dd_195_46, rfl⟩),
   ⟨4, dd_195_47, rfl⟩,
   Or.inl (Or.inl ⟨dd_195_50, rfl⟩),
   ⟨dd_195_51, rfl⟩, trivial⟩
theorem okM_195 : mj_okE gG 195 (cM_195, 1, oM_195, hM_195) := ⟨rfl, rfl, by decide +kernel, trivial, okI_195⟩
theorem dd_196_0 : decode prog_13_method_43_code 0 = .ok (.aload_n 0, 1) := by decide +kernel
theorem dd_196_1 : decode prog_13_method_43_code 1 = .ok (.getfield 76, 3) := by decide +kernel
theorem dd_196_4 : decode prog_13_method_43_code 4 = .ok (.iload_n 1, 1) := by decide +kernel
theorem dd_196_5 : decode prog_13_method_43_code 5 = .ok (.iaload, 1) := by decide +kernel
theorem dd_196_6 : decode prog_13_method_43_code 6 = .ok (.iconst 3, 1) := by decide +kernel
theorem dd_196_7 : decode prog_13_method_43_code 7 = .ok (.if_icmp .ne 12, 3) := by decide +kernel
theorem dd_196_10 : decode prog_13_method_43_code 10 = .ok (.aload_n 0, 1) := by decide +kernel
theorem dd_196_11 : decode prog_13_method_43_code 11 = .ok (.getfield 79, 3) := by decide +kernel
theorem dd_196_14 : decode prog_13_method_43_code 14 = .ok (.iload_n 1, 1) := by decide +kernel
theorem dd_196_15 : decode prog_13_method_43_code 15 = .ok (.iaload, 1) := by decide +kernel
theorem dd_196_16 : decode prog_13_method_43_code 16 = .ok (.goto 4, 3) := by decide +kernel
theorem dd_196_19 : decode prog_13_method_43_code 19 = .ok (.iconst (-1), 1) := by decide +kernel
theorem dd_196_20 : decode prog_13_method_43_code 20 = .ok (.ireturn, 1) := by decide +kernel
set_option maxRecDepth 100000 in
theorem okI_196 : mj_okI gG "PairMachineModel" prog_13_method_43_code 2 (mj_off oM_196) (Option.some Jvm.ClassFile.FieldType.int) false true 0 cM_196 :=
  ⟨Or.inl ⟨0, rfl, dd_196_0, rfl⟩,
   ⟨76, "PairMachineModel", fT10, 45, dd_196_1, rfl, okc_10, by decide, tw_822⟩,
   Or.inl ⟨1, rfl, dd_196_4, rfl⟩,
   ⟨dd_196_5, rfl⟩,
   Or.inl (Or.inl ⟨dd_196_6, rfl⟩),
   ⟨12, dd_196_7, rfl, rfl⟩,
   Or.inl ⟨0, rfl, dd_196_10, rfl⟩,
   ⟨79, "PairMachineModel", fT10, 45, dd_196_11, rfl, okc_10, by decide, tw_823⟩,
   Or.inl ⟨1, rfl, dd_196_14, rfl⟩,
   ⟨dd_196_15, rfl⟩,
   ⟨4, dd_196_16, rfl⟩,
   Or.inl (Or.inl ⟨dd_196_19, rfl⟩),
   ⟨dd_196_20, rfl⟩, trivial⟩
theorem okM_196 : mj_okE gG 196 (cM_196, 2, oM_196, hM_196) := ⟨rfl, rfl, by decide +kernel, trivial, okI_196⟩
theorem dd_197_0 : decode prog_13_method_44_code 0 = .ok (.aload_n 0, 1) := by decide +kernel
theorem dd_197_1 : decode prog_13_method_44_code 1 = .ok (.getfield 70, 3) := by decide +kernel
theorem dd_197_4 : decode prog_13_method_44_code 4 = .ok (.iload_n 1, 1) := by decide +kernel
theorem dd_197_5 : decode prog_13_method_44_code 5 = .ok (.iaload, 1) := by decide +kernel
theorem dd_197_6 : decode prog_13_method_44_code 6 = .ok (.iconst 3, 1) := by decide +kernel
theorem dd_197_7 : decode prog_13_method_44_code 7 = .ok (.if_icmp .ne 12, 3) := by decide +kernel
theorem dd_197_10 : decode prog_13_method_44_code 10 = .ok (.aload_n 0, 1) := by decide +kernel
theorem dd_197_11 : decode prog_13_method_44_code 11 = .ok (.getfield 73, 3) := by decide +kernel
theorem dd_197_14 : decode prog_13_method_44_code 14 = .ok (.iload_n 1, 1) := by decide +kernel
theorem dd_197_15 : decode prog_13_method_44_code 15 = .ok (.iaload, 1) := by decide +kernel
theorem dd_197_16 : decode prog_13_method_44_code 16 = .ok (.goto 4, 3) := by decide +kernel
theorem dd_197_19 : decode prog_13_method_44_code 19 = .ok (.iconst (-1), 1) := by decide +kernel
theorem dd_197_20 : decode prog_13_method_44_code 20 = .ok (.ireturn, 1) := by decide +kernel
set_option maxRecDepth 100000 in
theorem okI_197 : mj_okI gG "PairMachineModel" prog_13_method_44_code 2 (mj_off oM_197) (Option.some Jvm.ClassFile.FieldType.int) false true 0 cM_197 :=
  ⟨Or.inl ⟨0, rfl, dd_197_0, rfl⟩,
   ⟨70, "PairMachineModel", fT10, 45, dd_197_1, rfl, okc_10, by decide, tw_820⟩,
   Or.inl ⟨1, rfl, dd_197_4, rfl⟩,
   ⟨dd_197_5, rfl⟩,
   Or.inl (Or.inl ⟨dd_197_6, rfl⟩),
   ⟨12, dd_197_7, rfl, rfl⟩,
   Or.inl ⟨0, rfl, dd_197_10, rfl⟩,
   ⟨73, "PairMachineModel", fT10, 45, dd_197_11, rfl, okc_10, by decide, tw_821⟩,
   Or.inl ⟨1, rfl, dd_197_14, rfl⟩,
   ⟨dd_197_15, rfl⟩,
   ⟨4, dd_197_16, rfl⟩,
   Or.inl (Or.inl ⟨dd_197_19, rfl⟩),
   ⟨dd_197_20, rfl⟩, trivial⟩
theorem okM_197 : mj_okE gG 197 (cM_197, 2, oM_197, hM_197) := ⟨rfl, rfl, by decide +kernel, trivial, okI_197⟩
theorem dd_198_0 : decode prog_13_method_45_code 0 = .ok (.aload_n 0, 1) := by decide +kernel
theorem dd_198_1 : decode prog_13_method_45_code 1 = .ok (.getfield 88, 3) := by decide +kernel
theorem dd_198_4 : decode prog_13_method_45_code 4 = .ok (.iconst 0, 1) := by decide +kernel
theorem dd_198_5 : decode prog_13_method_45_code 5 = .ok (.iaload, 1) := by decide +kernel
theorem dd_198_6 : decode prog_13_method_45_code 6 = .ok (.istore_n 2, 1) := by decide +kernel
theorem dd_198_7 : decode prog_13_method_45_code 7 = .ok (.iconst 0, 1) := by decide +kernel
theorem dd_198_8 : decode prog_13_method_45_code 8 = .ok (.istore_n 3, 1) := by decide +kernel
theorem dd_198_9 : decode prog_13_method_45_code 9 = .ok (.iload_n 3, 1) := by decide +kernel
theorem dd_198_10 : decode prog_13_method_45_code 10 = .ok (.iload_n 1, 1) := by decide +kernel
theorem dd_198_11 : decode prog_13_method_45_code 11 = .ok (.if_icmp .ge 15, 3) := by decide +kernel
theorem dd_198_14 : decode prog_13_method_45_code 14 = .ok (.aload_n 0, 1) := by decide +kernel
theorem dd_198_15 : decode prog_13_method_45_code 15 = .ok (.iload_n 2, 1) := by decide +kernel
theorem dd_198_16 : decode prog_13_method_45_code 16 = .ok (.invokevirtual 255, 3) := by decide +kernel
theorem dd_198_19 : decode prog_13_method_45_code 19 = .ok (.istore_n 2, 1) := by decide +kernel
theorem dd_198_20 : decode prog_13_method_45_code 20 = .ok (.iinc 3 1, 3) := by decide +kernel
theorem dd_198_23 : decode prog_13_method_45_code 23 = .ok (.goto (-14), 3) := by decide +kernel
theorem dd_198_26 : decode prog_13_method_45_code 26 = .ok (.aload_n 0, 1) := by decide +kernel
theorem dd_198_27 : decode prog_13_method_45_code 27 = .ok (.aload_n 0, 1) := by decide +kernel
theorem dd_198_28 : decode prog_13_method_45_code 28 = .ok (.getfield 70, 3) := by decide +kernel
theorem dd_198_31 : decode prog_13_method_45_code 31 = .ok (.iload_n 2, 1) := by decide +kernel
theorem dd_198_32 : decode prog_13_method_45_code 32 = .ok (.iaload, 1) := by decide +kernel
theorem dd_198_33 : decode prog_13_method_45_code 33 = .ok (.putfield 258, 3) := by decide +kernel
theorem dd_198_36 : decode prog_13_method_45_code 36 = .ok (.aload_n 0, 1) := by decide +kernel
theorem dd_198_37 : decode prog_13_method_45_code 37 = .ok (.aload_n 0, 1) := by decide +kernel
theorem dd_198_38 : decode prog_13_method_45_code 38 = .ok (.getfield 73, 3) := by decide +kernel
theorem dd_198_41 : decode prog_13_method_45_code 41 = .ok (.iload_n 2, 1) := by decide +kernel
theorem dd_198_42 : decode prog_13_method_45_code 42 = .ok (.iaload, 1) := by decide +kernel
theorem dd_198_43 : decode prog_13_method_45_code 43 = .ok (.putfield 261, 3) := by decide +kernel
theorem dd_198_46 : decode prog_13_method_45_code 46 = .ok (.return_, 1) := by decide +kernel
set_option maxRecDepth 100000 in
theorem okI_198 : mj_okI gG "PairMachineModel" prog_13_method_45_code 4 (mj_off oM_198) (Option.none : Option Jvm.ClassFile.FieldType) false true 0 cM_198 :=
  ⟨Or.inl ⟨0, rfl, dd_198_0, rfl⟩,
   ⟨88, "PairMachineModel", fT10, 45, dd_198_1, rfl, okc_10, by decide, tw_826⟩,
   Or.inl (Or.inl ⟨dd_198_4, rfl⟩),
   ⟨dd_198_5, rfl⟩,
   ⟨by decide, Or.inl ⟨2, rfl, dd_198_6, rfl⟩⟩,
   Or.inl (Or.inl ⟨dd_198_7, rfl⟩),
   ⟨by decide, Or.inl ⟨3, rfl, dd_198_8, rfl⟩⟩,
   Or.inl ⟨3, rfl, dd_198_9, rfl⟩,
   Or.inl ⟨1, rfl, dd_198_10, rfl⟩,
   ⟨15, dd_198_11, rfl, rfl⟩,
   Or.inl ⟨0, rfl, dd_198_14, rfl⟩,
   Or.inl ⟨2, rfl, dd_198_15, rfl⟩,
   ⟨rfl, tw_976, by decide, tw_12, by decide +kernel, 255, tw_977, dd_198_16, tw_978, ⟨"PairMachineModel", fT10, 45, rfl, tw_979⟩, by decide +kernel⟩,
   ⟨by decide, Or.inl ⟨2, rfl, dd_198_19, rfl⟩⟩,
   ⟨by decide, dd_198_20, rfl⟩,
   ⟨(-14), dd_198_23, rfl⟩,
   Or.inl ⟨0, rfl, dd_198_26, rfl⟩,
   Or.inl ⟨0, rfl, dd_198_27, rfl⟩,
   ⟨70, "PairMachineModel", fT10, 45, dd_198_28, rfl, okc_10, by decide, tw_820⟩,
   Or.inl ⟨2, rfl, dd_198_31, rfl⟩,
   ⟨dd_198_32, rfl⟩,
   ⟨258, "PairMachineModel", fT10, 45, dd_198_33, rfl, okc_10, by decide, tw_980, rfl, Or.inl rfl⟩,
   Or.inl ⟨0, rfl, dd_198_36, rfl⟩,
   Or.inl ⟨0, rfl, dd_198_37, rfl⟩,
   ⟨73, "PairMachineModel", fT10, 45, dd_198_38, rfl, okc_10, by decide, tw_821⟩,
   Or.inl ⟨2, rfl, dd_198_41, rfl⟩,
   ⟨dd_198_42, rfl⟩,
   ⟨261, "PairMachineModel", fT10, 45, dd_198_43, rfl, okc_10, by decide, tw_981, rfl, Or.inl rfl⟩,
   ⟨dd_198_46, rfl⟩, trivial⟩
theorem okM_198 : mj_okE gG 198 (cM_198, 4, oM_198, hM_198) := ⟨rfl, rfl, by decide +kernel, trivial, okI_198⟩
theorem dd_199_0 : decode prog_13_method_46_code 0 = .ok (.aload_n 0, 1) := by decide +kernel
theorem dd_199_1 : decode prog_13_method_46_code 1 = .ok (.getfield 88, 3) := by decide +kernel
theorem dd_199_4 : decode prog_13_method_46_code 4 = .ok (.iconst 0, 1) := by decide +kernel
theorem dd_199_5 : decode prog_13_method_46_code 5 = .ok (.aload_n 0, 1) := by decide +kernel
theorem dd_199_6 : decode prog_13_method_46_code 6 = .ok (.aload_n 0, 1) := by decide +kernel
theorem dd_199_7 : decode prog_13_method_46_code 7 = .ok (.getfield 88, 3) := by decide +kernel
theorem dd_199_10 : decode prog_13_method_46_code 10 = .ok (.iconst 0, 1) := by decide +kernel
theorem dd_199_11 : decode prog_13_method_46_code 11 = .ok (.iaload, 1) := by decide +kernel
theorem dd_199_12 : decode prog_13_method_46_code 12 = .ok (.invokevirtual 255, 3) := by decide +kernel
theorem dd_199_15 : decode prog_13_method_46_code 15 = .ok (.iastore, 1) := by decide +kernel
theorem dd_199_16 : decode prog_13_method_46_code 16 = .ok (.return_, 1) := by decide +kernel
set_option maxRecDepth 100000 in
theorem okI_199 : mj_okI gG "PairMachineModel" prog_13_method_46_code 1 (mj_off oM_199) (Option.none : Option Jvm.ClassFile.FieldType) false true 0 cM_199 :=
  ⟨Or.inl ⟨0, rfl, dd_199_0, rfl⟩,
   ⟨88, "PairMachineModel", fT10, 45, dd_199_1, rfl, okc_10, by decide, tw_826⟩,
   Or.inl (Or.inl ⟨dd_199_4, rfl⟩),
   Or.inl ⟨0, rfl, dd_199_5, rfl⟩,
   Or.inl ⟨0, rfl, dd_199_6, rfl⟩,
   ⟨88, "PairMachineModel", fT10, 45, dd_199_7, rfl, okc_10, by decide, tw_826⟩,
   Or.inl (Or.inl ⟨dd_199_10, rfl⟩),
   ⟨dd_199_11, rfl⟩,
   ⟨rfl, tw_976, by decide, tw_12, by decide +kernel, 255, tw_977, dd_199_12, tw_978, ⟨"PairMachineModel", fT10, 45, rfl, tw_979⟩, by decide +kernel⟩,
   ⟨dd_199_15, rfl⟩,
   ⟨dd_199_16, rfl⟩, trivial⟩
theorem okM_199 : mj_okE gG 199 (cM_199, 1, oM_199, hM_199) := ⟨rfl, rfl, by decide +kernel, trivial, okI_199⟩
theorem dd_200_0 : decode prog_13_method_47_code 0 = .ok (.aload_n 0, 1) := by decide +kernel
theorem dd_200_1 : decode prog_13_method_47_code 1 = .ok (.getfield 88, 3) := by decide +kernel
theorem dd_200_4 : decode prog_13_method_47_code 4 = .ok (.iconst 0, 1) := by decide +kernel
theorem dd_200_5 : decode prog_13_method_47_code 5 = .ok (.aload_n 0, 1) := by decide +kernel
theorem dd_200_6 : decode prog_13_method_47_code 6 = .ok (.iload_n 1, 1) := by decide +kernel
theorem dd_200_7 : decode prog_13_method_47_code 7 = .ok (.iload_n 2, 1) := by decide +kernel
theorem dd_200_8 : decode prog_13_method_47_code 8 = .ok (.aload_n 0, 1) := by decide +kernel
theorem dd_200_9 : decode prog_13_method_47_code 9 = .ok (.getfield 88, 3) := by decide +kernel
theorem dd_200_12 : decode prog_13_method_47_code 12 = .ok (.iconst 0, 1) := by decide +kernel
theorem dd_200_13 : decode prog_13_method_47_code 13 = .ok (.iaload, 1) := by decide +kernel
theorem dd_200_14 : decode prog_13_method_47_code 14 = .ok (.invokevirtual 207, 3) := by decide +kernel
theorem dd_200_17 : decode prog_13_method_47_code 17 = .ok (.iastore, 1) := by decide +kernel
theorem dd_200_18 : decode prog_13_method_47_code 18 = .ok (.return_, 1) := by decide +kernel
set_option maxRecDepth 100000 in
theorem okI_200 : mj_okI gG "PairMachineModel" prog_13_method_47_code 3 (mj_off oM_200) (Option.none : Option Jvm.ClassFile.FieldType) false true 0 cM_200 :=
  ⟨Or.inl ⟨0, rfl, dd_200_0, rfl⟩,
   ⟨88, "PairMachineModel", fT10, 45, dd_200_1, rfl, okc_10, by decide, tw_826⟩,
   Or.inl (Or.inl ⟨dd_200_4, rfl⟩),
   Or.inl ⟨0, rfl, dd_200_5, rfl⟩,
   Or.inl ⟨1, rfl, dd_200_6, rfl⟩,
   Or.inl ⟨2, rfl, dd_200_7, rfl⟩,
   Or.inl ⟨0, rfl, dd_200_8, rfl⟩,
   ⟨88, "PairMachineModel", fT10, 45, dd_200_9, rfl, okc_10, by decide, tw_826⟩,
   Or.inl (Or.inl ⟨dd_200_12, rfl⟩),
   ⟨dd_200_13, rfl⟩,
   ⟨rfl, tw_934, by decide, tw_12, by decide +kernel, 207, tw_935, dd_200_14, tw_936, ⟨"PairMachineModel", fT10, 45, rfl, tw_937⟩, by decide +kernel⟩,
   ⟨dd_200_17, rfl⟩,
   ⟨dd_200_18, rfl⟩, trivial⟩
theorem okM_200 : mj_okE gG 200 (cM_200, 3, oM_200, hM_200) := ⟨rfl, rfl, by decide +kernel, trivial, okI_200⟩
theorem dd_201_0 : decode prog_13_method_48_code 0 = .ok (.aload_n 0, 1) := by decide +kernel
theorem dd_201_1 : decode prog_13_method_48_code 1 = .ok (.getfield 258, 3) := by decide +kernel
theorem dd_201_4 : decode prog_13_method_48_code 4 = .ok (.iconst 3, 1) := by decide +kernel
theorem dd_201_5 : decode prog_13_method_48_code 5 = .ok (.if_icmp .ne 19, 3) := by decide +kernel
theorem dd_201_8 : decode prog_13_method_48_code 8 = .ok (.aload_n 0, 1) := by decide +kernel
theorem dd_201_9 : decode prog_13_method_48_code 9 = .ok (.getfield 67, 3) := by decide +kernel
theorem dd_201_12 : decode prog_13_method_48_code 12 = .ok (.aload_n 0, 1) := by decide +kernel
theorem dd_201_13 : decode prog_13_method_48_code 13 = .ok (.getfield 261, 3) := by decide +kernel
theorem dd_201_16 : decode prog_13_method_48_code 16 = .ok (.baload, 1) := by decide +kernel
theorem dd_201_17 : decode prog_13_method_48_code 17 = .ok (.ifCond .eq 7, 3) := by decide +kernel
theorem dd_201_20 : decode prog_13_method_48_code 20 = .ok (.iconst 1, 1) := by decide +kernel
theorem dd_201_21 : decode prog_13_method_48_code 21 = .ok (.goto 4, 3) := by decide +kernel
theorem dd_201_24 : decode prog_13_method_48_code 24 = .ok (.iconst 0, 1) := by decide +kernel
theorem dd_201_25 : decode prog_13_method_48_code 25 = .ok (.ireturn, 1) := by decide +kernel
set_option maxRecDepth 100000 in
theorem okI_201 : mj_okI gG "PairMachineModel" prog_13_method_48_code 1 (mj_off oM_201) (Option.some Jvm.ClassFile.FieldType.boolean) false true 0 cM_201 :=
  ⟨Or.inl ⟨0, rfl, dd_201_0, rfl⟩,
   ⟨258, "PairMachineModel", fT10, 45, dd_201_1, rfl, okc_10, by decide, tw_980⟩,
   Or.inl (Or.inl ⟨dd_201_4, rfl⟩),
   ⟨19, dd_201_5, rfl, rfl⟩,
   Or.inl ⟨0, rfl, dd_201_8, rfl⟩,
   ⟨67, "PairMachineModel", fT10, 45, dd_201_9, rfl, okc_10, by decide, tw_819⟩,
   Or.inl ⟨0, rfl, dd_201_12, rfl⟩,
   ⟨261, "PairMachineModel", fT10, 45, dd_201_13, rfl, okc_10, by decide, tw_981⟩,
   ⟨dd_201_16, rfl⟩,
   ⟨7, dd_201_17, rfl, rfl⟩,
   Or.inl (Or.inl ⟨dd_201_20, rfl⟩),
   ⟨4, dd_201_21, rfl⟩,
   Or.inl (Or.inl ⟨dd_201_24, rfl⟩),
   ⟨dd_201_25, rfl⟩, trivial⟩
theorem okM_201 : mj_okE gG 201 (cM_201, 1, oM_201, hM_201) := ⟨rfl, rfl, by decide +kernel, trivial, okI_201⟩
theorem dd_202_0 : decode prog_13_method_49_code 0 = .ok (.aload_n 0, 1) := by decide +kernel
theorem dd_202_1 : decode prog_13_method_49_code 1 = .ok (.getfield 258, 3) := by decide +kernel
theorem dd_202_4 : decode prog_13_method_49_code 4 = .ok (.iconst 3, 1) := by decide +kernel
theorem dd_202_5 : decode prog_13_method_49_code 5 = .ok (.if_icmp .ne 19, 3) := by decide +kernel
theorem dd_202_8 : decode prog_13_method_49_code 8 = .ok (.aload_n 0, 1) := by decide +kernel
theorem dd_202_9 : decode prog_13_method_49_code 9 = .ok (.getfield 67, 3) := by decide +kernel
theorem dd_202_12 : decode prog_13_method_49_code 12 = .ok (.aload_n 0, 1) := by decide +kernel
theorem dd_202_13 : decode prog_13_method_49_code 13 = .ok (.getfield 261, 3) := by decide +kernel
theorem dd_202_16 : decode prog_13_method_49_code 16 = .ok (.baload, 1) := by decide +kernel
theorem dd_202_17 : decode prog_13_method_49_code 17 = .ok (.ifCond .ne 7, 3) := by decide +kernel
theorem dd_202_20 : decode prog_13_method_49_code 20 = .ok (.iconst 1, 1) := by decide +kernel
theorem dd_202_21 : decode prog_13_method_49_code 21 = .ok (.goto 4, 3) := by decide +kernel
theorem dd_202_24 : decode prog_13_method_49_code 24 = .ok (.iconst 0, 1) := by decide +kernel
theorem dd_202_25 : decode prog_13_method_49_code 25 = .ok (.ireturn, 1) := by decide +kernel
set_option maxRecDepth 100000 in
theorem okI_202 : mj_okI gG "PairMachineModel" prog_13_method_49_code 1 (mj_off oM_202) (Option.some Jvm.ClassFile.FieldType.boolean) false true 0 cM_202 :=
  ⟨Or.inl ⟨0, rfl, dd_202_0, rfl⟩,
   ⟨258, "PairMachineModel", fT10, 45, dd_202_1, rfl, okc_10, by decide, tw_980⟩,
   Or.inl (Or.inl ⟨dd_202_4, rfl⟩),
   ⟨19, dd_202_5, rfl, rfl⟩,
   Or.inl ⟨0, rfl, dd_202_8, rfl⟩,
   ⟨67, "PairMachineModel", fT10, 45, dd_202_9, rfl, okc_10, by decide, tw_819⟩,
   Or.inl ⟨0, rfl, dd_202_12, rfl⟩,
   ⟨261, "PairMachineModel", fT10, 45, dd_202_13, rfl, okc_10, by decide, tw_981⟩,
   ⟨dd_202_16, rfl⟩,
   ⟨7, dd_202_17, rfl, rfl⟩,
   Or.inl (Or.inl ⟨dd_202_20, rfl⟩),
   ⟨4, dd_202_21, rfl⟩,
   Or.inl (Or.inl ⟨dd_202_24, rfl⟩),
   ⟨dd_202_25, rfl⟩, trivial⟩
theorem okM_202 : mj_okE gG 202 (cM_202, 1, oM_202, hM_202) := ⟨rfl, rfl, by decide +kernel, trivial, okI_202⟩
theorem dd_203_0 : decode prog_13_method_50_code 0 = .ok (.aload_n 0, 1) := by decide +kernel
theorem dd_203_1 : decode prog_13_method_50_code 1 = .ok (.iload_n 1, 1) := by decide +kernel
theorem dd_203_2 : decode prog_13_method_50_code 2 = .ok (.putfield 240, 3) := by decide +kernel
theorem dd_203_5 : decode prog_13_method_50_code 5 = .ok (.return_, 1) := by decide +kernel
set_option maxRecDepth 100000 in
theorem okI_203 : mj_okI gG "PairMachineModel" prog_13_method_50_code 2 (mj_off oM_203) (Option.none : Option Jvm.ClassFile.FieldType) false true 0 cM_203 :=
  ⟨Or.inl ⟨0, rfl, dd_203_0, rfl⟩,
   Or.inl ⟨1, rfl, dd_203_1, rfl⟩,
   ⟨240, "PairMachineModel", fT10, 45, dd_203_2, rfl, okc_10, by decide, tw_968, rfl, Or.inl rfl⟩,
   ⟨dd_203_5, rfl⟩, trivial⟩
theorem okM_203 : mj_okE gG 203 (cM_203, 2, oM_203, hM_203) := ⟨rfl, rfl, by decide +kernel, trivial, okI_203⟩
theorem dd_204_0 : decode prog_13_method_51_code 0 = .ok (.aload_n 0, 1) := by decide +kernel
theorem dd_204_1 : decode prog_13_method_51_code 1 = .ok (.getfield 88, 3) := by decide +kernel
theorem dd_204_4 : decode prog_13_method_51_code 4 = .ok (.iconst 2, 1) := by decide +kernel
theorem dd_204_5 : decode prog_13_method_51_code 5 = .ok (.iaload, 1) := by decide +kernel
theorem dd_204_6 : decode prog_13_method_51_code 6 = .ok (.istore_n 1, 1) := by decide +kernel
theorem dd_204_7 : decode prog_13_method_51_code 7 = .ok (.aload_n 0, 1) := by decide +kernel
theorem dd_204_8 : decode prog_13_method_51_code 8 = .ok (.getfield 73, 3) := by decide +kernel
theorem dd_204_11 : decode prog_13_method_51_code 11 = .ok (.iload_n 1, 1) := by decide +kernel
theorem dd_204_12 : decode prog_13_method_51_code 12 = .ok (.iaload, 1) := by decide +kernel
theorem dd_204_13 : decode prog_13_method_51_code 13 = .ok (.istore_n 2, 1) := by decide +kernel
theorem dd_204_14 : decode prog_13_method_51_code 14 = .ok (.aload_n 0, 1) := by decide +kernel
theorem dd_204_15 : decode prog_13_method_51_code 15 = .ok (.invokevirtual 264, 3) := by decide +kernel
theorem dd_204_18 : decode prog_13_method_51_code 18 = .ok (.iload_n 2, 1) := by decide +kernel
theorem dd_204_19 : decode prog_13_method_51_code 19 = .ok (.invokestatic 267, 3) := by decide +kernel
theorem dd_204_22 : decode prog_13_method_51_code 22 = .ok (.if_icmp .ge 43, 3) := by decide +kernel
theorem dd_204_25 : decode prog_13_method_51_code 25 = .ok (.aload_n 0, 1) := by decide +kernel
theorem dd_204_26 : decode prog_13_method_51_code 26 = .ok (.dup, 1) := by decide +kernel
theorem dd_204_27 : decode prog_13_method_51_code 27 = .ok (.getfield 243, 3) := by decide +kernel
theorem dd_204_30 : decode prog_13_method_51_code 30 = .ok (.iconst 1, 1) := by decide +kernel
theorem dd_204_31 : decode prog_13_method_51_code 31 = .ok (.iadd, 1) := by decide +kernel
theorem dd_204_32 : decode prog_13_method_51_code 32 = .ok (.putfield 243, 3) := by decide +kernel
theorem dd_204_35 : decode prog_13_method_51_code 35 = .ok (.aload_n 0, 1) := by decide +kernel
theorem dd_204_36 : decode prog_13_method_51_code 36 = .ok (.dup, 1) := by decide +kernel
theorem dd_204_37 : decode prog_13_method_51_code 37 = .ok (.getfield 246, 3) := by decide +kernel
theorem dd_204_40 : decode prog_13_method_51_code 40 = .ok (.aload_n 0, 1) := by decide +kernel
theorem dd_204_41 : decode prog_13_method_51_code 41 = .ok (.invokevirtual 252, 3) := by decide +kernel
theorem dd_204_44 : decode prog_13_method_51_code 44 = .ok (.iadd, 1) := by decide +kernel
theorem dd_204_45 : decode prog_13_method_51_code 45 = .ok (.putfield 246, 3) := by decide +kernel
theorem dd_204_48 : decode prog_13_method_51_code 48 = .ok (.aload_n 0, 1) := by decide +kernel
theorem dd_204_49 : decode prog_13_method_51_code 49 = .ok (.invokevirtual 264, 3) := by decide +kernel
theorem dd_204_52 : decode prog_13_method_51_code 52 = .ok (.iload_n 2, 1) := by decide +kernel
theorem dd_204_53 : decode prog_13_method_51_code 53 = .ok (.invokestatic 267, 3) := by decide +kernel
theorem dd_204_56 : decode prog_13_method_51_code 56 = .ok (.if_icmp .ge 9, 3) := by decide +kernel
theorem dd_204_59 : decode prog_13_method_51_code 59 = .ok (.aload_n 0, 1) := by decide +kernel
theorem dd_204_60 : decode prog_13_method_51_code 60 = .ok (.iconst 4, 1) := by decide +kernel
theorem dd_204_61 : decode prog_13_method_51_code 61 = .ok (.invokevirtual 270, 3) := by decide +kernel
theorem dd_204_64 : decode prog_13_method_51_code 64 = .ok (.return_, 1) := by decide +kernel
theorem dd_204_65 : decode prog_13_method_51_code 65 = .ok (.aload_n 0, 1) := by decide +kernel
theorem dd_204_66 : decode prog_13_method_51_code 66 = .ok (.iload_n 1, 1) := by decide +kernel
theorem dd_204_67 : decode prog_13_method_51_code 67 = .ok (.invokevirtual 255, 3) := by decide +kernel
theorem dd_204_70 : decode prog_13_method_51_code 70 = .ok (.istore_n 3, 1) := by decide +kernel
theorem dd_204_71 : decode prog_13_method_51_code 71 = .ok (.iload_n 2, 1) := by decide +kernel
theorem dd_204_72 : decode prog_13_method_51_code 72 = .ok (.iconst 1, 1) := by decide +kernel
theorem dd_204_73 : decode prog_13_method_51_code 73 = .ok (.if_icmp .ne 33, 3) := by decide +kernel
theorem dd_204_76 : decode prog_13_method_51_code 76 = .ok (.aload_n 0, 1) := by decide +kernel
theorem dd_204_77 : decode prog_13_method_51_code 77 = .ok (.aload_n 0, 1) := by decide +kernel
theorem dd_204_78 : decode prog_13_method_51_code 78 = .ok (.getfield 70, 3) := by decide +kernel
theorem dd_204_81 : decode prog_13_method_51_code 81 = .ok (.iload_n 3, 1) := by decide +kernel
theorem dd_204_82 : decode prog_13_method_51_code 82 = .ok (.iaload, 1) := by decide +kernel
theorem dd_204_83 : decode prog_13_method_51_code 83 = .ok (.aload_n 0, 1) := by decide +kernel
theorem dd_204_84 : decode prog_13_method_51_code 84 = .ok (.getfield 73, 3) := by decide +kernel
theorem dd_204_87 : decode prog_13_method_51_code 87 = .ok (.iload_n 3, 1) := by decide +kernel
theorem dd_204_88 : decode prog_13_method_51_code 88 = .ok (.iaload, 1) := by decide +kernel
theorem dd_204_89 : decode prog_13_method_51_code 89 = .ok (.invokevirtual 273, 3) := by decide +kernel
theorem dd_204_92 : decode prog_13_method_51_code 92 = .ok (.aload_n 0, 1) := by decide +kernel
theorem dd_204_93 : decode prog_13_method_51_code 93 = .ok (.getfield 88, 3) := by decide +kernel
theorem dd_204_96 : decode prog_13_method_51_code 96 = .ok (.iconst 2, 1) := by decide +kernel
theorem dd_204_97 : decode prog_13_method_51_code 97 = .ok (.aload_n 0, 1) := by decide +kernel
theorem dd_204_98 : decode prog_13_method_51_code 98 = .ok (.iload_n 3, 1) := by decide +kernel
theorem dd_204_99 : decode prog_13_method_51_code 99 = .ok (.invokevirtual 255, 3) := by decide +kernel
theorem dd_204_102 : decode prog_13_method_51_code 102 = .ok (.iastore, 1) := by decide +kernel
theorem dd_204_103 : decode prog_13_method_51_code 103 = .ok (.goto 247, 3) := by decide +kernel
theorem dd_204_106 : decode prog_13_method_51_code 106 = .ok (.iload_n 2, 1) := by decide +kernel
theorem dd_204_107 : decode prog_13_method_51_code 107 = .ok (.iconst 2, 1) := by decide +kernel
theorem dd_204_108 : decode prog_13_method_51_code 108 = .ok (.if_icmp .ne 21, 3) := by decide +kernel
theorem dd_204_111 : decode prog_13_method_51_code 111 = .ok (.aload_n 0, 1) := by decide +kernel
theorem dd_204_112 : decode prog_13_method_51_code 112 = .ok (.aload_n 0, 1) := by decide +kernel
theorem dd_204_113 : decode prog_13_method_51_code 113 = .ok (.getfield 73, 3) := by decide +kernel
theorem dd_204_116 : decode prog_13_method_51_code 116 = .ok (.iload_n 3, 1) := by decide +kernel
theorem dd_204_117 : decode prog_13_method_51_code 117 = .ok (.iaload, 1) := by decide +kernel
theorem dd_204_118 : decode prog_13_method_51_code 118 = .ok (.aload_n 0, 1) := by decide +kernel
theorem dd_204_119 : decode prog_13_method_51_code 119 = .ok (.iload_n 3, 1) := by decide +kernel
theorem dd_204_120 : decode prog_13_method_51_code 120 = .ok (.invokevirtual 255, 3) := by decide +kernel
theorem dd_204_123 : decode prog_13_method_51_code 123 = .ok (.invokevirtual 276, 3) := by decide +kernel
theorem dd_204_126 : decode prog_13_method_51_code 126 = .ok (.goto 224, 3) := by decide +kernel
theorem dd_204_129 : decode prog_13_method_51_code 129 = .ok (.iload_n 2, 1) := by decide +kernel
theorem dd_204_130 : decode prog_13_method_51_code 130 = .ok (.iconst 3, 1) := by decide +kernel
theorem dd_204_131 : decode prog_13_method_51_code 131 = .ok (.if_icmp .ne 49, 3) := by decide +kernel
theorem dd_204_134 : decode prog_13_method_51_code 134 = .ok (.aload_n 0, 1) := by decide +kernel
theorem dd_204_135 : decode prog_13_method_51_code 135 = .ok (.aload_n 0, 1) := by decide +kernel
theorem dd_204_136 : decode prog_13_method_51_code 136 = .ok (.iload_n 3, 1) := by decide +kernel
theorem dd_204_137 : decode prog_13_method_51_code 137 = .ok (.invokevirtual 279, 3) := by decide +kernel
theorem dd_204_140 : decode prog_13_method_51_code 140 = .ok (.aload_n 0, 1) := by decide +kernel
theorem dd_204_141 : decode prog_13_method_51_code 141 = .ok (.getfield 88, 3) := by decide +kernel
theorem dd_204_144 : decode prog_13_method_51_code 144 = .ok (.iconst 1, 1) := by decide +kernel
theorem dd_204_145 : decode prog_13_method_51_code 145 = .ok (.iaload, 1) := by decide +kernel
theorem dd_204_146 : decode prog_13_method_51_code 146 = .ok (.invokevirtual 214, 3) := by decide +kernel
theorem dd_204_149 : decode prog_13_method_51_code 149 = .ok (.istore 4, 2) := by decide +kernel
theorem dd_204_151 : decode prog_13_method_51_code 151 = .ok (.aload_n 0, 1) := by decide +kernel
theorem dd_204_152 : decode prog_13_method_51_code 152 = .ok (.getfield 67, 3) := by decide +kernel
theorem dd_204_155 : decode prog_13_method_51_code 155 = .ok (.iload 4, 2) := by decide +kernel
theorem dd_204_157 : decode prog_13_method_51_code 157 = .ok (.iconst 1, 1) := by decide +kernel
theorem dd_204_158 : decode prog_13_method_51_code 158 = .ok (.bastore, 1) := by decide +kernel
theorem dd_204_159 : decode prog_13_method_51_code 159 = .ok (.aload_n 0, 1) := by decide +kernel
theorem dd_204_160 : decode prog_13_method_51_code 160 = .ok (.iconst 3, 1) := by decide +kernel
theorem dd_204_161 : decode prog_13_method_51_code 161 = .ok (.iload 4, 2) := by decide +kernel
theorem dd_204_163 : decode prog_13_method_51_code 163 = .ok (.invokevirtual 273, 3) := by decide +kernel
theorem dd_204_166 : decode prog_13_method_51_code 166 = .ok (.aload_n 0, 1) := by decide +kernel
theorem dd_204_167 : decode prog_13_method_51_code 167 = .ok (.getfield 88, 3) := by decide +kernel
theorem dd_204_170 : decode prog_13_method_51_code 170 = .ok (.iconst 2, 1) := by decide +kernel
theorem dd_204_171 : decode prog_13_method_51_code 171 = .ok (.aload_n 0, 1) := by decide +kernel
theorem dd_204_172 : decode prog_13_method_51_code 172 = .ok (.iload_n 3, 1) := by decide +kernel
theorem dd_204_173 : decode prog_13_method_51_code 173 = .ok (.invokevirtual 255, 3) := by decide +kernel
theorem dd_204_176 : decode prog_13_method_51_code 176 = .ok (.iastore, 1) := by decide +kernel
theorem dd_204_177 : decode prog_13_method_51_code 177 = .ok (.goto 173, 3) := by decide +kernel
theorem dd_204_180 : decode prog_13_method_51_code 180 = .ok (.iload_n 2, 1) := by decide +kernel
theorem dd_204_181 : decode prog_13_method_51_code 181 = .ok (.iconst 4, 1) := by decide +kernel
theorem dd_204_182 : decode prog_13_method_51_code 182 = .ok (.if_icmp .eq 9, 3) := by decide +kernel
theorem dd_204_185 : decode prog_13_method_51_code 185 = .ok (.iload_n 2, 1) := by decide +kernel
theorem dd_204_186 : decode prog_13_method_51_code 186 = .ok (.bipush 7, 2) := by decide +kernel
theorem dd_204_188 : decode prog_13_method_51_code 188 = .ok (.if_icmp .ne 22, 3) := by decide +kernel
theorem dd_204_191 : decode prog_13_method_51_code 191 = .ok (.aload_n 0, 1) := by decide +kernel
theorem dd_204_192 : decode prog_13_method_51_code 192 = .ok (.iload_n 2, 1) := by decide +kernel
theorem dd_204_193 : decode prog_13_method_51_code 193 = .ok (.bipush 7, 2) := by decide +kernel
theorem dd_204_195 : decode prog_13_method_51_code 195 = .ok (.if_icmp .ne 7, 3) := by decide +kernel
theorem dd_204_198 : decode prog_13_method_51_code 198 = .ok (.iconst 1, 1) := by decide +kernel
theorem dd_204_199 : decode prog_13_method_51_code 199 = .ok (.goto 4, 3) := by decide +kernel
theorem dd_204_202 : decode prog_13_method_51_code 202 = .ok (.iconst 0, 1) := by decide +kernel
theorem dd_204_203 : decode prog_13_method_51_code 203 = .ok (.iload_n 3, 1) := by decide +kernel
theorem dd_204_204 : decode prog_13_method_51_code 204 = .ok (.invokevirtual 282, 3) := by decide +kernel
theorem dd_204_207 : decode prog_13_method_51_code 207 = .ok (.goto 143, 3) := by decide +kernel
theorem dd_204_210 : decode prog_13_method_51_code 210 = .ok (.iload_n 2, 1) := by decide +kernel
theorem dd_204_211 : decode prog_13_method_51_code 211 = .ok (.iconst 5, 1) := by decide +kernel
theorem dd_204_212 : decode prog_13_method_51_code 212 = .ok (.if_icmp .ne 10, 3) := by decide +kernel
theorem dd_204_215 : decode prog_13_method_51_code 215 = .ok (.aload_n 0, 1) := by decide +kernel
theorem dd_204_216 : decode prog_13_method_51_code 216 = .ok (.invokevirtual 286, 3) := by decide +kernel
theorem dd_204_219 : decode prog_13_method_51_code 219 = .ok (.goto 131, 3) := by decide +kernel
theorem dd_204_222 : decode prog_13_method_51_code 222 = .ok (.iload_n 2, 1) := by decide +kernel
theorem dd_204_223 : decode prog_13_method_51_code 223 = .ok (.bipush 6, 2) := by decide +kernel
theorem dd_204_225 : decode prog_13_method_51_code 225 = .ok (.if_icmp .ne 31, 3) := by decide +kernel
theorem dd_204_228 : decode prog_13_method_51_code 228 = .ok (.aload_n 0, 1) := by decide +kernel
theorem dd_204_229 : decode prog_13_method_51_code 229 = .ok (.getfield 88, 3) := by decide +kernel
theorem dd_204_232 : decode prog_13_method_51_code 232 = .ok (.iconst 1, 1) := by decide +kernel
theorem dd_204_233 : decode prog_13_method_51_code 233 = .ok (.aload_n 0, 1) := by decide +kernel
theorem dd_204_234 : decode prog_13_method_51_code 234 = .ok (.iconst 0, 1) := by decide +kernel
theorem dd_204_235 : decode prog_13_method_51_code 235 = .ok (.iconst 0, 1) := by decide +kernel
theorem dd_204_236 : decode prog_13_method_51_code 236 = .ok (.aload_n 0, 1) := by decide +kernel
theorem dd_204_237 : decode prog_13_method_51_code 237 = .ok (.getfield 88, 3) := by decide +kernel
theorem dd_204_240 : decode prog_13_method_51_code 240 = .ok (.iconst 1, 1) := by decide +kernel
theorem dd_204_241 : decode prog_13_method_51_code 241 = .ok (.iaload, 1) := by decide +kernel
theorem dd_204_242 : decode prog_13_method_51_code 242 = .ok (.invokevirtual 207, 3) := by decide +kernel
theorem dd_204_245 : decode prog_13_method_51_code 245 = .ok (.iastore, 1) := by decide +kernel
theorem dd_204_246 : decode prog_13_method_51_code 246 = .ok (.aload_n 0, 1) := by decide +kernel
theorem dd_204_247 : decode prog_13_method_51_code 247 = .ok (.getfield 88, 3) := by decide +kernel
theorem dd_204_250 : decode prog_13_method_51_code 250 = .ok (.iconst 2, 1) := by decide +kernel
theorem dd_204_251 : decode prog_13_method_51_code 251 = .ok (.iload_n 3, 1) := by decide +kernel
theorem dd_204_252 : decode prog_13_method_51_code 252 = .ok (.iastore, 1) := by decide +kernel
theorem dd_204_253 : decode prog_13_method_51_code 253 = .ok (.goto 97, 3) := by decide +kernel
theorem dd_204_256 : decode prog_13_method_51_code 256 = .ok (.iload_n 2, 1) := by decide +kernel
theorem dd_204_257 : decode prog_13_method_51_code 257 = .ok (.bipush 8, 2) := by decide +kernel
theorem dd_204_259 : decode prog_13_method_51_code 259 = .ok (.if_icmp .ne 11, 3) := by decide +kernel
theorem dd_204_262 : decode prog_13_method_51_code 262 = .ok (.aload_n 0, 1) := by decide +kernel
theorem dd_204_263 : decode prog_13_method_51_code 263 = .ok (.iload_n 3, 1) := by decide +kernel
theorem dd_204_264 : decode prog_13_method_51_code 264 = .ok (.invokevirtual 289, 3) := by decide +kernel
theorem dd_204_267 : decode prog_13_method_51_code 267 = .ok (.goto 83, 3) := by decide +kernel
theorem dd_204_270 : decode prog_13_method_51_code 270 = .ok (.iload_n 2, 1) := by decide +kernel
theorem dd_204_271 : decode prog_13_method_51_code 271 = .ok (.bipush 9, 2) := by decide +kernel
theorem dd_204_273 : decode prog_13_method_51_code 273 = .ok (.if_icmp .ne 38, 3) := by decide +kernel
theorem dd_204_276 : decode prog_13_method_51_code 276 = .ok (.aload_n 0, 1) := by decide +kernel
theorem dd_204_277 : decode prog_13_method_51_code 277 = .ok (.getfield 88, 3) := by decide +kernel
theorem dd_204_280 : decode prog_13_method_51_code 280 = .ok (.iconst 2, 1) := by decide +kernel
theorem dd_204_281 : decode prog_13_method_51_code 281 = .ok (.aload_n 0, 1) := by decide +kernel
theorem dd_204_282 : decode prog_13_method_51_code 282 = .ok (.aload_n 0, 1) := by decide +kernel
theorem dd_204_283 : decode prog_13_method_51_code 283 = .ok (.getfield 88, 3) := by decide +kernel
theorem dd_204_286 : decode prog_13_method_51_code 286 = .ok (.iconst 3, 1) := by decide +kernel
theorem dd_204_287 : decode prog_13_method_51_code 287 = .ok (.iaload, 1) := by decide +kernel
theorem dd_204_288 : decode prog_13_method_51_code 288 = .ok (.invokevirtual 279, 3) := by decide +kernel
theorem dd_204_291 : decode prog_13_method_51_code 291 = .ok (.iastore, 1) := by decide +kernel
theorem dd_204_292 : decode prog_13_method_51_code 292 = .ok (.aload_n 0, 1) := by decide +kernel
theorem dd_204_293 : decode prog_13_method_51_code 293 = .ok (.getfield 88, 3) := by decide +kernel
theorem dd_204_296 : decode prog_13_method_51_code 296 = .ok (.iconst 3, 1) := by decide +kernel
theorem dd_204_297 : decode prog_13_method_51_code 297 = .ok (.aload_n 0, 1) := by decide +kernel
theorem dd_204_298 : decode prog_13_method_51_code 298 = .ok (.aload_n 0, 1) := by decide +kernel
theorem dd_204_299 : decode prog_13_method_51_code 299 = .ok (.getfield 88, 3) := by decide +kernel
theorem dd_204_302 : decode prog_13_method_51_code 302 = .ok (.iconst 3, 1) := by decide +kernel
theorem dd_204_303 : decode prog_13_method_51_code 303 = .ok (.iaload, 1) := by decide +kernel
theorem dd_204_304 : decode prog_13_method_51_code 304 = .ok (.invokevirtual 255, 3) := by decide +kernel
theorem dd_204_307 : decode prog_13_method_51_code 307 = .ok (.iastore, 1) := by decide +kernel
theorem dd_204_308 : decode prog_13_method_51_code 308 = .ok (.goto 42, 3) := by decide +kernel
theorem dd_204_311 : decode prog_13_method_51_code 311 = .ok (.iload_n 2, 1) := by decide +kernel
theorem dd_204_312 : decode prog_13_method_51_code 312 = .ok (.bipush 13, 2) := by decide +kernel
theorem dd_204_314 : decode prog_13_method_51_code 314 = .ok (.if_icmp .ge 12, 3) := by decide +kernel
theorem dd_204_317 : decode prog_13_method_51_code 317 = .ok (.aload_n 0, 1) := by decide +kernel
theorem dd_204_318 : decode prog_13_method_51_code 318 = .ok (.iload_n 2, 1) := by decide +kernel
theorem dd_204_319 : decode prog_13_method_51_code 319 = .ok (.iload_n 3, 1) := by decide +kernel
theorem dd_204_320 : decode prog_13_method_51_code 320 = .ok (.invokevirtual 292, 3) := by decide +kernel
theorem dd_204_323 : decode prog_13_method_51_code 323 = .ok (.goto 27, 3) := by decide +kernel
theorem dd_204_326 : decode prog_13_method_51_code 326 = .ok (.iload_n 2, 1) := by decide +kernel
theorem dd_204_327 : decode prog_13_method_51_code 327 = .ok (.bipush 19, 2) := by decide +kernel
theorem dd_204_329 : decode prog_13_method_51_code 329 = .ok (.if_icmp .ge 12, 3) := by decide +kernel
theorem dd_204_332 : decode prog_13_method_51_code 332 = .ok (.aload_n 0, 1) := by decide +kernel
theorem dd_204_333 : decode prog_13_method_51_code 333 = .ok (.iload_n 2, 1) := by decide +kernel
theorem dd_204_334 : decode prog_13_method_51_code 334 = .ok (.iload_n 3, 1) := by decide +kernel
theorem dd_204_335 : decode prog_13_method_51_code 335 = .ok (.invokevirtual 295, 3) := by decide +kernel
theorem dd_204_338 : decode prog_13_method_51_code 338 = .ok (.goto 12, 3) := by decide +kernel
theorem dd_204_341 : decode prog_13_method_51_code 341 = .ok (.aload_n 0, 1) := by decide +kernel
theorem dd_204_342 : decode prog_13_method_51_code 342 = .ok (.iconst 2, 1) := by decide +kernel
theorem dd_204_343 : decode prog_13_method_51_code 343 = .ok (.invokevirtual 270, 3) := by decide +kernel
theorem dd_204_346 : decode prog_13_method_51_code 346 = .ok (.aload_n 0, 1) := by decide +kernel
theorem dd_204_347 : decode prog_13_method_51_code 347 = .ok (.invokevirtual 298, 3) := by decide +kernel
theorem dd_204_350 : decode prog_13_method_51_code 350 = .ok (.return_, 1) := by decide +kernel
set_option maxRecDepth 100000 in
theorem okI_204 : mj_okI gG "PairMachineModel" prog_13_method_51_code 5 (mj_off oM_204) (Option.none : Option Jvm.ClassFile.FieldType) false true 0 cM_204 :=
  ⟨Or.inl ⟨0, rfl, dd_204_0, rfl⟩,
   ⟨88, "PairMachineModel", fT10, 45, dd_204_1, rfl, okc_10, by decide, tw_826⟩,
   Or.inl (Or.inl ⟨dd_204_4, rfl⟩),
   ⟨dd_204_5, rfl⟩,
   ⟨by decide, Or.inl ⟨1, rfl, dd_204_6, rfl⟩⟩,
   Or.inl ⟨0, rfl, dd_204_7, rfl⟩,
   ⟨73, "PairMachineModel", fT10, 45, dd_204_8, rfl, okc_10, by decide, tw_821⟩,
   Or.inl ⟨1, rfl, dd_204_11, rfl⟩,
   ⟨dd_204_12, rfl⟩,
   ⟨by decide, Or.inl ⟨2, rfl, dd_204_13, rfl⟩⟩,
   Or.inl ⟨0, rfl, dd_204_14, rfl⟩,
   ⟨rfl, tw_982, by decide, tw_12, by decide +kernel, 264, tw_983, dd_204_15, tw_984, ⟨"PairMachineModel", fT10, 45, rfl, tw_985⟩, by decide +kernel⟩,
   Or.inl ⟨2, rfl, dd_204_18, rfl⟩,
   ⟨rfl, tw_986, by decide, tw_12, by decide +kernel, 267, tw_987, dd_204_19, tw_988, by decide +kernel⟩,
   ⟨43, dd_204_22, rfl, rfl⟩,
   Or.inl ⟨0, rfl, dd_204_25, rfl⟩,
   ⟨dd_204_26, rfl⟩,
   ⟨243, "PairMachineModel", fT10, 45, dd_204_27, rfl, okc_10, by decide, tw_969⟩,
   Or.inl (Or.inl ⟨dd_204_30, rfl⟩),
   ⟨dd_204_31, rfl⟩,
   ⟨243, "PairMachineModel", fT10, 45, dd_204_32, rfl, okc_10, by decide, tw_969, rfl, Or.inl rfl⟩,
   Or.inl ⟨0, rfl, dd_204_35, rfl⟩,
   ⟨dd_204_36, rfl⟩,
   ⟨246, "PairMachineModel", fT10, 45, dd_204_37, rfl, okc_10, by decide, tw_970⟩,
   Or.inl ⟨0, rfl, dd_204_40, rfl⟩,
   ⟨rfl, tw_972, by decide, tw_12, by decide +kernel, 252, tw_973, dd_204_41, tw_974, ⟨"PairMachineModel", fT10, 45, rfl, tw_975⟩, by decide +kernel⟩,
   ⟨dd_204_44, rfl⟩,
   ⟨246, "PairMachineModel", fT10, 45, dd_204_45, rfl, okc_10, by decide, tw_970, rfl, Or.inl rfl⟩,
   Or.inl ⟨0, rfl, dd_204_48, rfl⟩,
   ⟨rfl, tw_982, by decide, tw_12, by decide +kernel, 264, tw_983, dd_204_49, tw_984, ⟨"PairMachineModel", fT10, 45, rfl, tw_985⟩, by decide +kernel⟩,
   Or.inl ⟨2, rfl, dd_204_52, rfl⟩,
   ⟨rfl, tw_986, by decide, tw_12, by decide +kernel, 267, tw_987, dd_204_53, tw_988, by decide +kernel⟩,
   ⟨9, dd_204_56, rfl, rfl⟩,
   Or.inl ⟨0, rfl, dd_204_59, rfl⟩,
   Or.inl (Or.inl ⟨dd_204_60, rfl⟩),
   ⟨rfl, tw_989, by decide, tw_12, by decide +kernel, 270, tw_990, dd_204_61, tw_991, ⟨"PairMachineModel", fT10, 45, rfl, tw_992⟩, by decide +kernel⟩,
   ⟨dd_204_64, rfl⟩,
   Or.inl ⟨0, rfl, dd_204_65, rfl⟩,
   Or.inl ⟨1, rfl, dd_204_66, rfl⟩,
   ⟨rfl, tw_976, by decide, tw_12, by decide +kernel, 255, tw_977, dd_204_67, tw_978, ⟨"PairMachineModel", fT10, 45, rfl, tw_979⟩, by decide +kernel⟩,
   ⟨by decide, Or.inl ⟨3, rfl, dd_204_70, rfl⟩⟩,
   Or.inl ⟨2, rfl, dd_204_71, rfl⟩,
   Or.inl (Or.inl ⟨dd_204_72, rfl⟩),
   ⟨33, dd_204_73, rfl, rfl⟩,
   Or.inl ⟨0, rfl, dd_204_76, rfl⟩,
   Or.inl ⟨0, rfl, dd_204_77, rfl⟩,
   ⟨70, "PairMachineModel", fT10, 45, dd_204_78, rfl, okc_10, by decide, tw_820⟩,
   Or.inl ⟨3, rfl, dd_204_81, rfl⟩,
   ⟨dd_204_82, rfl⟩,
   Or.inl ⟨0, rfl, dd_204_83, rfl⟩,
   ⟨73, "PairMachineModel", fT10, 45, dd_204_84, rfl, okc_10, by decide, tw_821⟩,
   Or.inl ⟨3, rfl, dd_204_87, rfl⟩,
   ⟨dd_204_88, rfl⟩,
   ⟨rfl, tw_993, by decide, tw_12, by decide +kernel, 273, tw_994, dd_204_89, tw_995, ⟨"PairMachineModel", fT10, 45, rfl, tw_996⟩, by decide +kernel⟩,
   Or.inl ⟨0, rfl, dd_204_92, rfl⟩,
   ⟨88, "PairMachineModel", fT10, 45, dd_204_93, rfl, okc_10, by decide, tw_826⟩,
   Or.inl (Or.inl ⟨dd_204_96, rfl⟩),
   Or.inl ⟨0, rfl, dd_204_97, rfl⟩,
   Or.inl ⟨3, rfl, dd_204_98, rfl⟩,
   ⟨rfl, tw_976, by decide, tw_12, by decide +kernel, 255, tw_977, dd_204_99, tw_978, ⟨"PairMachineModel", fT10, 45, rfl, tw_979⟩, by decide +kernel⟩,
   ⟨dd_204_102, rfl⟩,
   ⟨247, dd_204_103, rfl⟩,
   Or.inl ⟨2, rfl, dd_204_106, rfl⟩,
   Or.inl (Or.inl ⟨dd_204_107, rfl⟩),
   ⟨21, dd_204_108, rfl, rfl⟩,
   Or.inl ⟨0, rfl, dd_204_111, rfl⟩,
   Or.inl ⟨0, rfl, dd_204_112, rfl⟩,
   ⟨73, "PairMachineModel", fT10, 45, dd_204_113, rfl, okc_10, by decide, tw_821⟩,
   Or.inl ⟨3, rfl, dd_204_116, rfl⟩,
   ⟨dd_204_117, rfl⟩,
   Or.inl ⟨0, rfl, dd_204_118, rfl⟩,
   Or.inl ⟨3, rfl, dd_204_119, rfl⟩,
   ⟨rfl, tw_976, by decide, tw_12, by decide +kernel, 255, tw_977, dd_204_120, tw_978, ⟨"PairMachineModel", fT10, 45, rfl, tw_979⟩, by decide +kernel⟩,
   ⟨rfl, tw_997, by decide, tw_12, by decide +kernel, 276, tw_998, dd_204_123, tw_999, ⟨"PairMachineModel", fT10, 45, rfl, tw_1000⟩, by decide +kernel⟩,
   ⟨224, dd_204_126, rfl⟩,
   Or.inl ⟨2, rfl, dd_204_129, rfl⟩,
   Or.inl (Or.inl ⟨dd_204_130, rfl⟩),
   ⟨49, dd_204_131, rfl, rfl⟩,
   Or.inl ⟨0, rfl, dd_204_134, rfl⟩,
   Or.inl ⟨0, rfl, dd_204_135, rfl⟩,
   Or.inl ⟨3, rfl, dd_204_136, rfl⟩,
   ⟨rfl, tw_1001, by decide, tw_12, by decide +kernel, 279, tw_1002, dd_204_137, tw_1003, ⟨"PairMachineModel", fT10, 45, rfl, tw_1004⟩, by decide +kernel⟩,
   Or.inl ⟨0, rfl, dd_204_140, rfl⟩,
   ⟨88, "PairMachineModel", fT10, 45, dd_204_141, rfl, okc_10, by decide, tw_826⟩,
   Or.inl (Or.inl ⟨dd_204_144, rfl⟩),
   ⟨dd_204_145, rfl⟩,
   ⟨rfl, tw_939, by decide, tw_12, by decide +kernel, 214, tw_940, dd_204_146, tw_941, ⟨"PairMachineModel", fT10, 45, rfl, tw_942⟩, by decide +kernel⟩,
   ⟨by decide, Or.inr ⟨dd_204_149, rfl⟩⟩,
   Or.inl ⟨0, rfl, dd_204_151, rfl⟩,
   ⟨67, "PairMachineModel", fT10, 45, dd_204_152, rfl, okc_10, by decide, tw_819⟩,
   Or.inr ⟨dd_204_155, rfl⟩,
   Or.inl (Or.inl ⟨dd_204_157, rfl⟩),
   ⟨dd_204_158, rfl⟩,
   Or.inl ⟨0, rfl, dd_204_159, rfl⟩,
   Or.inl (Or.inl ⟨dd_204_160, rfl⟩),
   Or.inr ⟨dd_204_161, rfl⟩,
   ⟨rfl, tw_993, by decide, tw_12, by decide +kernel, 273, tw_994, dd_204_163, tw_995, ⟨"PairMachineModel", fT10, 45, rfl, tw_996⟩, by decide +kernel⟩,
   Or.inl ⟨0, rfl, dd_204_166, rfl⟩,
   ⟨88, "PairMachineModel", fT10, 45, dd_204_167, rfl, okc_10, by decide, tw_826⟩,
   Or.inl (Or.inl ⟨dd_204_170, rfl⟩),
   Or.inl ⟨0, rfl, dd_204_171, rfl⟩,
   Or.inl ⟨3, rfl, dd_204_172, rfl⟩,
   ⟨rfl, tw_976, by decide, tw_12, by decide +kernel, 255, tw_977, dd_204_173, tw_978, ⟨"PairMachineModel", fT10, 45, rfl, tw_979⟩, by decide +kernel⟩,
   ⟨dd_204_176, rfl⟩,
   ⟨173, dd_204_177, rfl⟩,
   Or.inl ⟨2, rfl, dd_204_180, rfl⟩,
   Or.inl (Or.inl ⟨dd_204_181, rfl⟩),
   ⟨9, dd_204_182, rfl, rfl⟩,
   Or.inl ⟨2, rfl, dd_204_185, rfl⟩,
   Or.inl (Or.inr (Or.inl ⟨dd_204_186, rfl, by decide⟩)),
   ⟨22, dd_204_188, rfl, rfl⟩,
   Or.inl ⟨0, rfl, dd_204_191, rfl⟩,
   Or.inl ⟨2, rfl, dd_204_192, rfl⟩,
   Or.inl (Or.inr (Or.inl ⟨dd_204_193, rfl, by decide⟩)),
   ⟨7, dd_204_195, rfl, rfl⟩,
   Or.inl (Or.inl ⟨dd_204_198, rfl⟩),
   ⟨4, dd_204_199, rfl⟩,
   Or.inl (Or.inl ⟨dd_204_202, rfl⟩),
   Or.inl ⟨3, rfl, dd_204_203, rfl⟩,
   ⟨rfl, tw_1005, by decide, tw_12, by decide +kernel, 282, tw_1006, dd_204_204, tw_1007, ⟨"PairMachineModel", fT10, 45, rfl, tw_1008⟩, by decide +kernel⟩,
   ⟨143, dd_204_207, rfl⟩,
   Or.inl ⟨2, rfl, dd_204_210, rfl⟩,
   Or.inl (Or.inl ⟨dd_204_211, rfl⟩),
   ⟨10, dd_204_212, rfl, rfl⟩,
   Or.inl ⟨0, rfl, dd_204_215, rfl⟩,
   ⟨rfl, tw_1009, by decide, tw_12, by decide +kernel, 286, tw_1010, dd_204_216, tw_1011, ⟨"PairMachineModel", fT10, 45, rfl, tw_1012⟩, by decide +kernel⟩,
   ⟨131, dd_204_219, rfl⟩,
   Or.inl ⟨2, rfl, dd_204_222, rfl⟩,
   Or.inl (Or.inr (Or.inl ⟨dd_204_223, rfl, by decide⟩)),
   ⟨31, dd_204_225, rfl, rfl⟩,
   Or.inl ⟨0, rfl, dd_204_228, rfl⟩,
   ⟨88, "PairMachineModel", fT10, 45, dd_204_229, rfl, okc_10, by decide, tw_826⟩,
   Or.inl (Or.inl ⟨dd_204_232, rfl⟩),
   Or.inl ⟨0, rfl, dd_204_233, rfl⟩,
   Or.inl (Or.inl ⟨dd_204_234, rfl⟩),
   Or.inl (Or.inl ⟨dd_204_235, rfl⟩),
   Or.inl ⟨0, rfl, dd_204_236, rfl⟩,
   ⟨88, "PairMachineModel", fT10, 45, dd_204_237, rfl, okc_10, by decide, tw_826⟩,
   Or.inl (Or.inl ⟨dd_204_240, rfl⟩),
   ⟨dd_204_241, rfl⟩,
   ⟨rfl, tw_934, by decide, tw_12, by decide +kernel, 207, tw_935, dd_204_242, tw_936, ⟨"PairMachineModel", fT10, 45, rfl, tw_937⟩, by decide +kernel⟩,
   ⟨dd_204_245, rfl⟩,
   Or.inl ⟨0, rfl, dd_204_246, rfl⟩,
   ⟨88, "PairMachineModel", fT10, 45, dd_204_247, rfl, okc_10, by decide, tw_826⟩,
   Or.inl (Or.inl ⟨dd_204_250, rfl⟩),
   Or.inl ⟨3, rfl, dd_204_251, rfl⟩,
   ⟨dd_204_252, rfl⟩,
   ⟨97, dd_204_253, rfl⟩,
   Or.inl ⟨2, rfl, dd_204_256, rfl⟩,
   Or.inl (Or.inr (Or.inl ⟨dd_204_257, rfl, by decide⟩)),
   ⟨11, dd_204_259, rfl, rfl⟩,
   Or.inl ⟨0, rfl, dd_204_262, rfl⟩,
   Or.inl ⟨3, rfl, dd_204_263, rfl⟩,
   ⟨rfl, tw_1013, by decide, tw_12, by decide +kernel, 289, tw_1014, dd_204_264, tw_1015, ⟨"PairMachineModel", fT10, 45, rfl, tw_1016⟩, by decide +kernel⟩,
   ⟨83, dd_204_267, rfl⟩,
   Or.inl ⟨2, rfl, dd_204_270, rfl⟩,
   Or.inl (Or.inr (Or.inl ⟨dd_204_271, rfl, by decide⟩)),
   ⟨38, dd_204_273, rfl, rfl⟩,
   Or.inl ⟨0, rfl, dd_204_276, rfl⟩,
   ⟨88, "PairMachineModel", fT10, 45, dd_204_277, rfl, okc_10, by decide, tw_826⟩,
   Or.inl (Or.inl ⟨dd_204_280, rfl⟩),
   Or.inl ⟨0, rfl, dd_204_281, rfl⟩,
   Or.inl ⟨0, rfl, dd_204_282, rfl⟩,
   ⟨88, "PairMachineModel", fT10, 45, dd_204_283, rfl, okc_10, by decide, tw_826⟩,
   Or.inl (Or.inl ⟨dd_204_286, rfl⟩),
   ⟨dd_204_287, rfl⟩,
   ⟨rfl, tw_1001, by decide, tw_12, by decide +kernel, 279, tw_1002, dd_204_288, tw_1003, ⟨"PairMachineModel", fT10, 45, rfl, tw_1004⟩, by decide +kernel⟩,
   ⟨dd_204_291, rfl⟩,
   Or.inl ⟨0, rfl, dd_204_292, rfl⟩,
   ⟨88, "PairMachineModel", fT10, 45, dd_204_293, rfl, okc_10, by decide, tw_826⟩,
   Or.inl (Or.inl ⟨dd_204_296, rfl⟩),
   Or.inl ⟨0, rfl, dd_204_297, rfl⟩,
   Or.inl ⟨0, rfl, dd_204_298, rfl⟩,
   ⟨88, "PairMachineModel", fT10, 45, dd_204_299, rfl, okc_10, by decide, tw_826⟩,
   Or.inl (Or.inl ⟨dd_204_302, rfl⟩),
   ⟨dd_204_303, rfl⟩,
   ⟨rfl, tw_976, by decide, tw_12, by decide +kernel, 255, tw_977, dd_204_304, tw_978, ⟨"PairMachineModel", fT10, 45, rfl, tw_979⟩, by decide +kernel⟩,
   ⟨dd_204_307, rfl⟩,
   ⟨42, dd_204_308, rfl⟩,
   Or.inl ⟨2, rfl, dd_204_311, rfl⟩,
   Or.inl (Or.inr (Or.inl ⟨dd_204_312, rfl, by decide⟩)),
   ⟨12, dd_204_314, rfl, rfl⟩,
   Or.inl ⟨0, rfl, dd_204_317, rfl⟩,
   Or.inl ⟨2, rfl, dd_204_318, rfl⟩,
   Or.inl ⟨3, rfl, dd_204_319, rfl⟩,
   ⟨rfl, tw_1017, by decide, tw_12, by decide +kernel, 292, tw_1018, dd_204_320, tw_1019, ⟨"PairMachineModel", fT10, 45, rfl, tw_1020⟩, by decide +kernel⟩,
   ⟨27, dd_204_323, rfl⟩,
   Or.inl ⟨2, rfl, dd_204_326, rfl⟩,
   Or.inl (Or.inr (Or.inl ⟨dd_204_327, rfl, by decide⟩)),
   ⟨12, dd_204_329, rfl, rfl⟩,
   Or.inl ⟨0, rfl, dd_204_332, rfl⟩,
   Or.inl ⟨2, rfl, dd_204_333, rfl⟩,
   Or.inl ⟨3, rfl, dd_204_334, rfl⟩,
   ⟨rfl, tw_1021, by decide, tw_12, by decide +kernel, 295, tw_1022, dd_204_335, tw_1023, ⟨"PairMachineModel", fT10, 45, rfl, tw_1024⟩, by decide +kernel⟩,
   ⟨12, dd_204_338, rfl⟩,
   Or.inl ⟨0, rfl, dd_204_341, rfl⟩,
   Or.inl (Or.inl ⟨dd_204_342, rfl⟩),
   ⟨rfl, tw_989, by decide, tw_12, by decide +kernel, 270, tw_990, dd_204_343, tw_991, ⟨"PairMachineModel", fT10, 45, rfl, tw_992⟩, by decide +kernel⟩,
   Or.inl ⟨0, rfl, dd_204_346, rfl⟩,
   ⟨rfl, tw_1025, by decide, tw_12, by decide +kernel, 298, tw_1026, dd_204_347, tw_1027, ⟨"PairMachineModel", fT10, 45, rfl, tw_1028⟩, by decide +kernel⟩,
   ⟨dd_204_350, rfl⟩, trivial⟩
theorem okM_204 : mj_okE gG 204 (cM_204, 5, oM_204, hM_204) := ⟨rfl, rfl, by decide +kernel, trivial, okI_204⟩
end
