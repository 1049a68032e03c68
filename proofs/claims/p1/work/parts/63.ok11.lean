theorem dd_163_0 : decode prog_13_method_9_code 0 = .ok (.aload_n 0, 1) := by decide +kernel
theorem dd_163_1 : decode prog_13_method_9_code 1 = .ok (.bipush 41, 2) := by decide +kernel
theorem dd_163_3 : decode prog_13_method_9_code 3 = .ok (.invokevirtual 115, 3) := by decide +kernel
theorem dd_163_6 : decode prog_13_method_9_code 6 = .ok (.istore_n 1, 1) := by decide +kernel
theorem dd_163_7 : decode prog_13_method_9_code 7 = .ok (.aload_n 0, 1) := by decide +kernel
theorem dd_163_8 : decode prog_13_method_9_code 8 = .ok (.iload_n 1, 1) := by decide +kernel
theorem dd_163_9 : decode prog_13_method_9_code 9 = .ok (.ifCond .eq 12, 3) := by decide +kernel
theorem dd_163_12 : decode prog_13_method_9_code 12 = .ok (.aload_n 0, 1) := by decide +kernel
theorem dd_163_13 : decode prog_13_method_9_code 13 = .ok (.getfield 112, 3) := by decide +kernel
theorem dd_163_16 : decode prog_13_method_9_code 16 = .ok (.iconst 1, 1) := by decide +kernel
theorem dd_163_17 : decode prog_13_method_9_code 17 = .ok (.isub, 1) := by decide +kernel
theorem dd_163_18 : decode prog_13_method_9_code 18 = .ok (.goto 7, 3) := by decide +kernel
theorem dd_163_21 : decode prog_13_method_9_code 21 = .ok (.aload_n 0, 1) := by decide +kernel
theorem dd_163_22 : decode prog_13_method_9_code 22 = .ok (.getfield 112, 3) := by decide +kernel
theorem dd_163_25 : decode prog_13_method_9_code 25 = .ok (.putfield 112, 3) := by decide +kernel
theorem dd_163_28 : decode prog_13_method_9_code 28 = .ok (.iload_n 1, 1) := by decide +kernel
theorem dd_163_29 : decode prog_13_method_9_code 29 = .ok (.ireturn, 1) := by decide +kernel
set_option maxRecDepth 100000 in
theorem okI_163 : mj_okI gG "PairMachineModel" prog_13_method_9_code 2 (mj_off oM_163) (Option.some Jvm.ClassFile.FieldType.boolean) false true 0 cM_163 :=
  ⟨Or.inl ⟨0, rfl, dd_163_0, rfl⟩,
   Or.inl (Or.inr (Or.inl ⟨dd_163_1, rfl, by decide⟩)),
   ⟨rfl, tw_813, by decide, tw_12, by decide +kernel, 115, tw_814, dd_163_3, tw_815, ⟨"PairMachineModel", fT10, 45, rfl, tw_816⟩, by decide +kernel⟩,
   ⟨by decide, Or.inl ⟨1, rfl, dd_163_6, rfl⟩⟩,
   Or.inl ⟨0, rfl, dd_163_7, rfl⟩,
   Or.inl ⟨1, rfl, dd_163_8, rfl⟩,
   ⟨12, dd_163_9, rfl, rfl⟩,
   Or.inl ⟨0, rfl, dd_163_12, rfl⟩,
   ⟨112, "PairMachineModel", fT10, 45, dd_163_13, rfl, okc_10, by decide, tw_812⟩,
   Or.inl (Or.inl ⟨dd_163_16, rfl⟩),
   ⟨dd_163_17, rfl⟩,
   ⟨7, dd_163_18, rfl⟩,
   Or.inl ⟨0, rfl, dd_163_21, rfl⟩,
   ⟨112, "PairMachineModel", fT10, 45, dd_163_22, rfl, okc_10, by decide, tw_812⟩,
   ⟨112, "PairMachineModel", fT10, 45, dd_163_25, rfl, okc_10, by decide, tw_812, rfl, Or.inl rfl⟩,
   Or.inl ⟨1, rfl, dd_163_28, rfl⟩,
   ⟨dd_163_29, rfl⟩, trivial⟩
theorem okM_163 : mj_okE gG 163 (cM_163, 2, oM_163, hM_163) := ⟨rfl, rfl, by decide +kernel, trivial, okI_163⟩
theorem dd_164_0 : decode prog_13_method_10_code 0 = .ok (.aload_n 0, 1) := by decide +kernel
theorem dd_164_1 : decode prog_13_method_10_code 1 = .ok (.getfield 119, 3) := by decide +kernel
theorem dd_164_4 : decode prog_13_method_10_code 4 = .ok (.istore_n 3, 1) := by decide +kernel
theorem dd_164_5 : decode prog_13_method_10_code 5 = .ok (.aload_n 0, 1) := by decide +kernel
theorem dd_164_6 : decode prog_13_method_10_code 6 = .ok (.dup, 1) := by decide +kernel
theorem dd_164_7 : decode prog_13_method_10_code 7 = .ok (.getfield 119, 3) := by decide +kernel
theorem dd_164_10 : decode prog_13_method_10_code 10 = .ok (.iconst 1, 1) := by decide +kernel
theorem dd_164_11 : decode prog_13_method_10_code 11 = .ok (.iadd, 1) := by decide +kernel
theorem dd_164_12 : decode prog_13_method_10_code 12 = .ok (.putfield 119, 3) := by decide +kernel
theorem dd_164_15 : decode prog_13_method_10_code 15 = .ok (.aload_n 0, 1) := by decide +kernel
theorem dd_164_16 : decode prog_13_method_10_code 16 = .ok (.getfield 17, 3) := by decide +kernel
theorem dd_164_19 : decode prog_13_method_10_code 19 = .ok (.iload_n 3, 1) := by decide +kernel
theorem dd_164_20 : decode prog_13_method_10_code 20 = .ok (.iload_n 1, 1) := by decide +kernel
theorem dd_164_21 : decode prog_13_method_10_code 21 = .ok (.iastore, 1) := by decide +kernel
theorem dd_164_22 : decode prog_13_method_10_code 22 = .ok (.aload_n 0, 1) := by decide +kernel
theorem dd_164_23 : decode prog_13_method_10_code 23 = .ok (.getfield 21, 3) := by decide +kernel
theorem dd_164_26 : decode prog_13_method_10_code 26 = .ok (.iload_n 3, 1) := by decide +kernel
theorem dd_164_27 : decode prog_13_method_10_code 27 = .ok (.aload_n 0, 1) := by decide +kernel
theorem dd_164_28 : decode prog_13_method_10_code 28 = .ok (.getfield 105, 3) := by decide +kernel
theorem dd_164_31 : decode prog_13_method_10_code 31 = .ok (.iastore, 1) := by decide +kernel
theorem dd_164_32 : decode prog_13_method_10_code 32 = .ok (.aload_n 0, 1) := by decide +kernel
theorem dd_164_33 : decode prog_13_method_10_code 33 = .ok (.getfield 24, 3) := by decide +kernel
theorem dd_164_36 : decode prog_13_method_10_code 36 = .ok (.iload_n 3, 1) := by decide +kernel
theorem dd_164_37 : decode prog_13_method_10_code 37 = .ok (.aload_n 0, 1) := by decide +kernel
theorem dd_164_38 : decode prog_13_method_10_code 38 = .ok (.getfield 105, 3) := by decide +kernel
theorem dd_164_41 : decode prog_13_method_10_code 41 = .ok (.iastore, 1) := by decide +kernel
theorem dd_164_42 : decode prog_13_method_10_code 42 = .ok (.aload_n 0, 1) := by decide +kernel
theorem dd_164_43 : decode prog_13_method_10_code 43 = .ok (.getfield 27, 3) := by decide +kernel
theorem dd_164_46 : decode prog_13_method_10_code 46 = .ok (.iload_n 3, 1) := by decide +kernel
theorem dd_164_47 : decode prog_13_method_10_code 47 = .ok (.iconst 0, 1) := by decide +kernel
theorem dd_164_48 : decode prog_13_method_10_code 48 = .ok (.iastore, 1) := by decide +kernel
theorem dd_164_49 : decode prog_13_method_10_code 49 = .ok (.aload_n 0, 1) := by decide +kernel
theorem dd_164_50 : decode prog_13_method_10_code 50 = .ok (.getfield 30, 3) := by decide +kernel
theorem dd_164_53 : decode prog_13_method_10_code 53 = .ok (.iload_n 3, 1) := by decide +kernel
theorem dd_164_54 : decode prog_13_method_10_code 54 = .ok (.iload_n 2, 1) := by decide +kernel
theorem dd_164_55 : decode prog_13_method_10_code 55 = .ok (.iastore, 1) := by decide +kernel
theorem dd_164_56 : decode prog_13_method_10_code 56 = .ok (.aload_n 0, 1) := by decide +kernel
theorem dd_164_57 : decode prog_13_method_10_code 57 = .ok (.getfield 33, 3) := by decide +kernel
theorem dd_164_60 : decode prog_13_method_10_code 60 = .ok (.iload_n 3, 1) := by decide +kernel
theorem dd_164_61 : decode prog_13_method_10_code 61 = .ok (.iconst (-1), 1) := by decide +kernel
theorem dd_164_62 : decode prog_13_method_10_code 62 = .ok (.iastore, 1) := by decide +kernel
theorem dd_164_63 : decode prog_13_method_10_code 63 = .ok (.aload_n 0, 1) := by decide +kernel
theorem dd_164_64 : decode prog_13_method_10_code 64 = .ok (.getfield 36, 3) := by decide +kernel
theorem dd_164_67 : decode prog_13_method_10_code 67 = .ok (.iload_n 3, 1) := by decide +kernel
theorem dd_164_68 : decode prog_13_method_10_code 68 = .ok (.iconst (-1), 1) := by decide +kernel
theorem dd_164_69 : decode prog_13_method_10_code 69 = .ok (.iastore, 1) := by decide +kernel
theorem dd_164_70 : decode prog_13_method_10_code 70 = .ok (.aload_n 0, 1) := by decide +kernel
theorem dd_164_71 : decode prog_13_method_10_code 71 = .ok (.getfield 39, 3) := by decide +kernel
theorem dd_164_74 : decode prog_13_method_10_code 74 = .ok (.iload_n 3, 1) := by decide +kernel
theorem dd_164_75 : decode prog_13_method_10_code 75 = .ok (.iconst (-1), 1) := by decide +kernel
theorem dd_164_76 : decode prog_13_method_10_code 76 = .ok (.iastore, 1) := by decide +kernel
theorem dd_164_77 : decode prog_13_method_10_code 77 = .ok (.aload_n 0, 1) := by decide +kernel
theorem dd_164_78 : decode prog_13_method_10_code 78 = .ok (.getfield 42, 3) := by decide +kernel
theorem dd_164_81 : decode prog_13_method_10_code 81 = .ok (.iload_n 3, 1) := by decide +kernel
theorem dd_164_82 : decode prog_13_method_10_code 82 = .ok (.iconst 0, 1) := by decide +kernel
theorem dd_164_83 : decode prog_13_method_10_code 83 = .ok (.iastore, 1) := by decide +kernel
theorem dd_164_84 : decode prog_13_method_10_code 84 = .ok (.aload_n 0, 1) := by decide +kernel
theorem dd_164_85 : decode prog_13_method_10_code 85 = .ok (.getfield 48, 3) := by decide +kernel
theorem dd_164_88 : decode prog_13_method_10_code 88 = .ok (.iload_n 3, 1) := by decide +kernel
theorem dd_164_89 : decode prog_13_method_10_code 89 = .ok (.iconst 0, 1) := by decide +kernel
theorem dd_164_90 : decode prog_13_method_10_code 90 = .ok (.iastore, 1) := by decide +kernel
theorem dd_164_91 : decode prog_13_method_10_code 91 = .ok (.iload_n 2, 1) := by decide +kernel
theorem dd_164_92 : decode prog_13_method_10_code 92 = .ok (.ifCond .lt 51, 3) := by decide +kernel
theorem dd_164_95 : decode prog_13_method_10_code 95 = .ok (.aload_n 0, 1) := by decide +kernel
theorem dd_164_96 : decode prog_13_method_10_code 96 = .ok (.getfield 33, 3) := by decide +kernel
theorem dd_164_99 : decode prog_13_method_10_code 99 = .ok (.iload_n 2, 1) := by decide +kernel
theorem dd_164_100 : decode prog_13_method_10_code 100 = .ok (.iaload, 1) := by decide +kernel
theorem dd_164_101 : decode prog_13_method_10_code 101 = .ok (.ifCond .ge 13, 3) := by decide +kernel
theorem dd_164_104 : decode prog_13_method_10_code 104 = .ok (.aload_n 0, 1) := by decide +kernel
theorem dd_164_105 : decode prog_13_method_10_code 105 = .ok (.getfield 33, 3) := by decide +kernel
theorem dd_164_108 : decode prog_13_method_10_code 108 = .ok (.iload_n 2, 1) := by decide +kernel
theorem dd_164_109 : decode prog_13_method_10_code 109 = .ok (.iload_n 3, 1) := by decide +kernel
theorem dd_164_110 : decode prog_13_method_10_code 110 = .ok (.iastore, 1) := by decide +kernel
theorem dd_164_111 : decode prog_13_method_10_code 111 = .ok (.goto 15, 3) := by decide +kernel
theorem dd_164_114 : decode prog_13_method_10_code 114 = .ok (.aload_n 0, 1) := by decide +kernel
theorem dd_164_115 : decode prog_13_method_10_code 115 = .ok (.getfield 39, 3) := by decide +kernel
theorem dd_164_118 : decode prog_13_method_10_code 118 = .ok (.aload_n 0, 1) := by decide +kernel
theorem dd_164_119 : decode prog_13_method_10_code 119 = .ok (.getfield 36, 3) := by decide +kernel
theorem dd_164_122 : decode prog_13_method_10_code 122 = .ok (.iload_n 2, 1) := by decide +kernel
theorem dd_164_123 : decode prog_13_method_10_code 123 = .ok (.iaload, 1) := by decide +kernel
theorem dd_164_124 : decode prog_13_method_10_code 124 = .ok (.iload_n 3, 1) := by decide +kernel
theorem dd_164_125 : decode prog_13_method_10_code 125 = .ok (.iastore, 1) := by decide +kernel
theorem dd_164_126 : decode prog_13_method_10_code 126 = .ok (.aload_n 0, 1) := by decide +kernel
theorem dd_164_127 : decode prog_13_method_10_code 127 = .ok (.getfield 36, 3) := by decide +kernel
theorem dd_164_130 : decode prog_13_method_10_code 130 = .ok (.iload_n 2, 1) := by decide +kernel
theorem dd_164_131 : decode prog_13_method_10_code 131 = .ok (.iload_n 3, 1) := by decide +kernel
theorem dd_164_132 : decode prog_13_method_10_code 132 = .ok (.iastore, 1) := by decide +kernel
theorem dd_164_133 : decode prog_13_method_10_code 133 = .ok (.aload_n 0, 1) := by decide +kernel
theorem dd_164_134 : decode prog_13_method_10_code 134 = .ok (.getfield 42, 3) := by decide +kernel
theorem dd_164_137 : decode prog_13_method_10_code 137 = .ok (.iload_n 2, 1) := by decide +kernel
theorem dd_164_138 : decode prog_13_method_10_code 138 = .ok (.dup2, 1) := by decide +kernel
theorem dd_164_139 : decode prog_13_method_10_code 139 = .ok (.iaload, 1) := by decide +kernel
theorem dd_164_140 : decode prog_13_method_10_code 140 = .ok (.iconst 1, 1) := by decide +kernel
theorem dd_164_141 : decode prog_13_method_10_code 141 = .ok (.iadd, 1) := by decide +kernel
theorem dd_164_142 : decode prog_13_method_10_code 142 = .ok (.iastore, 1) := by decide +kernel
theorem dd_164_143 : decode prog_13_method_10_code 143 = .ok (.iload_n 3, 1) := by decide +kernel
theorem dd_164_144 : decode prog_13_method_10_code 144 = .ok (.ireturn, 1) := by decide +kernel
set_option maxRecDepth 100000 in
theorem okI_164 : mj_okI gG "PairMachineModel" prog_13_method_10_code 4 (mj_off oM_164) (Option.some Jvm.ClassFile.FieldType.int) false true 0 cM_164 :=
  ⟨Or.inl ⟨0, rfl, dd_164_0, rfl⟩,
   ⟨119, "PairMachineModel", fT10, 45, dd_164_1, rfl, okc_10, by decide, tw_817⟩,
   ⟨by decide, Or.inl ⟨3, rfl, dd_164_4, rfl⟩⟩,
   Or.inl ⟨0, rfl, dd_164_5, rfl⟩,
   ⟨dd_164_6, rfl⟩,
   ⟨119, "PairMachineModel", fT10, 45, dd_164_7, rfl, okc_10, by decide, tw_817⟩,
   Or.inl (Or.inl ⟨dd_164_10, rfl⟩),
   ⟨dd_164_11, rfl⟩,
   ⟨119, "PairMachineModel", fT10, 45, dd_164_12, rfl, okc_10, by decide, tw_817, rfl, Or.inl rfl⟩,
   Or.inl ⟨0, rfl, dd_164_15, rfl⟩,
   ⟨17, "PairMachineModel", fT10, 45, dd_164_16, rfl, okc_10, by decide, tw_778⟩,
   Or.inl ⟨3, rfl, dd_164_19, rfl⟩,
   Or.inl ⟨1, rfl, dd_164_20, rfl⟩,
   ⟨dd_164_21, rfl⟩,
   Or.inl ⟨0, rfl, dd_164_22, rfl⟩,
   ⟨21, "PairMachineModel", fT10, 45, dd_164_23, rfl, okc_10, by decide, tw_779⟩,
   Or.inl ⟨3, rfl, dd_164_26, rfl⟩,
   Or.inl ⟨0, rfl, dd_164_27, rfl⟩,
   ⟨105, "PairMachineModel", fT10, 45, dd_164_28, rfl, okc_10, by decide, tw_807⟩,
   ⟨dd_164_31, rfl⟩,
   Or.inl ⟨0, rfl, dd_164_32, rfl⟩,
   ⟨24, "PairMachineModel", fT10, 45, dd_164_33, rfl, okc_10, by decide, tw_780⟩,
   Or.inl ⟨3, rfl, dd_164_36, rfl⟩,
   Or.inl ⟨0, rfl, dd_164_37, rfl⟩,
   ⟨105, "PairMachineModel", fT10, 45, dd_164_38, rfl, okc_10, by decide, tw_807⟩,
   ⟨dd_164_41, rfl⟩,
   Or.inl ⟨0, rfl, dd_164_42, rfl⟩,
   ⟨27, "PairMachineModel", fT10, 45, dd_164_43, rfl, okc_10, by decide, tw_781⟩,
   Or.inl ⟨3, rfl, dd_164_46, rfl⟩,
   Or.inl (Or.inl ⟨dd_164_47, rfl⟩),
   ⟨dd_164_48, rfl⟩,
   Or.inl ⟨0, rfl, dd_164_49, rfl⟩,
   ⟨30, "PairMachineModel", fT10, 45, dd_164_50, rfl, okc_10, by decide, tw_782⟩,
   Or.inl ⟨3, rfl, dd_164_53, rfl⟩,
   Or.inl ⟨2, rfl, dd_164_54, rfl⟩,
   ⟨dd_164_55, rfl⟩,
   Or.inl ⟨0, rfl, dd_164_56, rfl⟩,
   ⟨33, "PairMachineModel", fT10, 45, dd_164_57, rfl, okc_10, by decide, tw_783⟩,
   Or.inl ⟨3, rfl, dd_164_60, rfl⟩,
   Or.inl (Or.inl ⟨dd_164_61, rfl⟩),
   ⟨dd_164_62, rfl⟩,
   Or.inl ⟨0, rfl, dd_164_63, rfl⟩,
   ⟨36, "PairMachineModel", fT10, 45, dd_164_64, rfl, okc_10, by decide, tw_784⟩,
   Or.inl ⟨3, rfl, dd_164_67, rfl⟩,
   Or.inl (Or.inl ⟨dd_164_68, rfl⟩),
   ⟨dd_164_69, rfl⟩,
   Or.inl ⟨0, rfl, dd_164_70, rfl⟩,
   ⟨39, "PairMachineModel", fT10, 45, dd_164_71, rfl, okc_10, by decide, tw_785⟩,
   Or.inl ⟨3, rfl, dd_164_74, rfl⟩,
   Or.inl (Or.inl ⟨dd_164_75, rfl⟩),
   ⟨dd_164_76, rfl⟩,
   Or.inl ⟨0, rfl, dd_164_77, rfl⟩,
   ⟨42, "PairMachineModel", fT10, 45, dd_164_78, rfl, okc_10, by decide, tw_786⟩,
   Or.inl ⟨3, rfl, dd_164_81, rfl⟩,
   Or.inl (Or.inl ⟨dd_164_82, rfl⟩),
   ⟨dd_164_83, rfl⟩,
   Or.inl ⟨0, rfl, dd_164_84, rfl⟩,
   ⟨48, "PairMachineModel", fT10, 45, dd_164_85, rfl, okc_10, by decide, tw_788⟩,
   Or.inl ⟨3, rfl, dd_164_88, rfl⟩,
   Or.inl (Or.inl ⟨dd_164_89, rfl⟩),
   ⟨dd_164_90, rfl⟩,
   Or.inl ⟨2, rfl, dd_164_91, rfl⟩,
   ⟨51, dd_164_92, rfl, rfl⟩,
   Or.inl ⟨0, rfl, dd_164_95, rfl⟩,
   ⟨33, "PairMachineModel", fT10, 45, dd_164_96, rfl, okc_10, by decide, tw_783⟩,
   Or.inl ⟨2, rfl, dd_164_99, rfl⟩,
   ⟨dd_164_100, rfl⟩,
   ⟨13, dd_164_101, rfl, rfl⟩,
   Or.inl ⟨0, rfl, dd_164_104, rfl⟩,
   ⟨33, "PairMachineModel", fT10, 45, dd_164_105, rfl, okc_10, by decide, tw_783⟩,
   Or.inl ⟨2, rfl, dd_164_108, rfl⟩,
   Or.inl ⟨3, rfl, dd_164_109, rfl⟩,
   ⟨dd_164_110, rfl⟩,
   ⟨15, dd_164_111, rfl⟩,
   Or.inl ⟨0, rfl, dd_164_114, rfl⟩,
   ⟨39, "PairMachineModel", fT10, 45, dd_164_115, rfl, okc_10, by decide, tw_785⟩,
   Or.inl ⟨0, rfl, dd_164_118, rfl⟩,
   ⟨36, "PairMachineModel", fT10, 45, dd_164_119, rfl, okc_10, by decide, tw_784⟩,
   Or.inl ⟨2, rfl, dd_164_122, rfl⟩,
   ⟨dd_164_123, rfl⟩,
   Or.inl ⟨3, rfl, dd_164_124, rfl⟩,
   ⟨dd_164_125, rfl⟩,
   Or.inl ⟨0, rfl, dd_164_126, rfl⟩,
   ⟨36, "PairMachineModel", fT10, 45, dd_164_127, rfl, okc_10, by decide, tw_784⟩,
   Or.inl ⟨2, rfl, dd_164_130, rfl⟩,
   Or.inl ⟨3, rfl, dd_164_131, rfl⟩,
   ⟨dd_164_132, rfl⟩,
   Or.inl ⟨0, rfl, dd_164_133, rfl⟩,
   ⟨42, "PairMachineModel", fT10, 45, dd_164_134, rfl, okc_10, by decide, tw_786⟩,
   Or.inl ⟨2, rfl, dd_164_137, rfl⟩,
   ⟨dd_164_138, rfl⟩,
   ⟨dd_164_139, rfl⟩,
   Or.inl (Or.inl ⟨dd_164_140, rfl⟩),
   ⟨dd_164_141, rfl⟩,
   ⟨dd_164_142, rfl⟩,
   Or.inl ⟨3, rfl, dd_164_143, rfl⟩,
   ⟨dd_164_144, rfl⟩, trivial⟩
theorem okM_164 : mj_okE gG 164 (cM_164, 4, oM_164, hM_164) := ⟨rfl, rfl, by decide +kernel, trivial, okI_164⟩
theorem dd_165_0 : decode prog_13_method_11_code 0 = .ok (.aload_n 0, 1) := by decide +kernel
theorem dd_165_1 : decode prog_13_method_11_code 1 = .ok (.bipush 45, 2) := by decide +kernel
theorem dd_165_3 : decode prog_13_method_11_code 3 = .ok (.invokevirtual 115, 3) := by decide +kernel
theorem dd_165_6 : decode prog_13_method_11_code 6 = .ok (.istore_n 1, 1) := by decide +kernel
theorem dd_165_7 : decode prog_13_method_11_code 7 = .ok (.iconst 0, 1) := by decide +kernel
theorem dd_165_8 : decode prog_13_method_11_code 8 = .ok (.istore_n 2, 1) := by decide +kernel
theorem dd_165_9 : decode prog_13_method_11_code 9 = .ok (.iload_n 2, 1) := by decide +kernel
theorem dd_165_10 : decode prog_13_method_11_code 10 = .ok (.iconst 4, 1) := by decide +kernel
theorem dd_165_11 : decode prog_13_method_11_code 11 = .ok (.if_icmp .ge 30, 3) := by decide +kernel
theorem dd_165_14 : decode prog_13_method_11_code 14 = .ok (.aload_n 0, 1) := by decide +kernel
theorem dd_165_15 : decode prog_13_method_11_code 15 = .ok (.iconst 0, 1) := by decide +kernel
theorem dd_165_16 : decode prog_13_method_11_code 16 = .ok (.invokevirtual 108, 3) := by decide +kernel
theorem dd_165_19 : decode prog_13_method_11_code 19 = .ok (.invokestatic 122, 3) := by decide +kernel
theorem dd_165_22 : decode prog_13_method_11_code 22 = .ok (.ifCond .eq 19, 3) := by decide +kernel
theorem dd_165_25 : decode prog_13_method_11_code 25 = .ok (.aload_n 0, 1) := by decide +kernel
theorem dd_165_26 : decode prog_13_method_11_code 26 = .ok (.dup, 1) := by decide +kernel
theorem dd_165_27 : decode prog_13_method_11_code 27 = .ok (.getfield 105, 3) := by decide +kernel
theorem dd_165_30 : decode prog_13_method_11_code 30 = .ok (.iconst 1, 1) := by decide +kernel
theorem dd_165_31 : decode prog_13_method_11_code 31 = .ok (.iadd, 1) := by decide +kernel
theorem dd_165_32 : decode prog_13_method_11_code 32 = .ok (.putfield 105, 3) := by decide +kernel
theorem dd_165_35 : decode prog_13_method_11_code 35 = .ok (.iinc 2 1, 3) := by decide +kernel
theorem dd_165_38 : decode prog_13_method_11_code 38 = .ok (.goto (-29), 3) := by decide +kernel
theorem dd_165_41 : decode prog_13_method_11_code 41 = .ok (.iload_n 2, 1) := by decide +kernel
theorem dd_165_42 : decode prog_13_method_11_code 42 = .ok (.ifCond .le 11, 3) := by decide +kernel
theorem dd_165_45 : decode prog_13_method_11_code 45 = .ok (.iload_n 1, 1) := by decide +kernel
theorem dd_165_46 : decode prog_13_method_11_code 46 = .ok (.ifCond .ne 3, 3) := by decide +kernel
theorem dd_165_49 : decode prog_13_method_11_code 49 = .ok (.iconst 1, 1) := by decide +kernel
theorem dd_165_50 : decode prog_13_method_11_code 50 = .ok (.goto 4, 3) := by decide +kernel
theorem dd_165_53 : decode prog_13_method_11_code 53 = .ok (.iconst 0, 1) := by decide +kernel
theorem dd_165_54 : decode prog_13_method_11_code 54 = .ok (.ireturn, 1) := by decide +kernel
set_option maxRecDepth 100000 in
theorem okI_165 : mj_okI gG "PairMachineModel" prog_13_method_11_code 3 (mj_off oM_165) (Option.some Jvm.ClassFile.FieldType.boolean) false true 0 cM_165 :=
  ⟨Or.inl ⟨0, rfl, dd_165_0, rfl⟩,
   Or.inl (Or.inr (Or.inl ⟨dd_165_1, rfl, by decide⟩)),
   ⟨rfl, tw_813, by decide, tw_12, by decide +kernel, 115, tw_814, dd_165_3, tw_815, ⟨"PairMachineModel", fT10, 45, rfl, tw_816⟩, by decide +kernel⟩,
   ⟨by decide, Or.inl ⟨1, rfl, dd_165_6, rfl⟩⟩,
   Or.inl (Or.inl ⟨dd_165_7, rfl⟩),
   ⟨by decide, Or.inl ⟨2, rfl, dd_165_8, rfl⟩⟩,
   Or.inl ⟨2, rfl, dd_165_9, rfl⟩,
   Or.inl (Or.inl ⟨dd_165_10, rfl⟩),
   ⟨30, dd_165_11, rfl, rfl⟩,
   Or.inl ⟨0, rfl, dd_165_14, rfl⟩,
   Or.inl (Or.inl ⟨dd_165_15, rfl⟩),
   ⟨rfl, tw_808, by decide, tw_12, by decide +kernel, 108, tw_809, dd_165_16, tw_810, ⟨"PairMachineModel", fT10, 45, rfl, tw_811⟩, by decide +kernel⟩,
   ⟨rfl, tw_818, by decide, tw_12, by decide +kernel, 122, tw_819, dd_165_19, tw_820, by decide +kernel⟩,
   ⟨19, dd_165_22, rfl, rfl⟩,
   Or.inl ⟨0, rfl, dd_165_25, rfl⟩,
   ⟨dd_165_26, rfl⟩,
   ⟨105, "PairMachineModel", fT10, 45, dd_165_27, rfl, okc_10, by decide, tw_807⟩,
   Or.inl (Or.inl ⟨dd_165_30, rfl⟩),
   ⟨dd_165_31, rfl⟩,
   ⟨105, "PairMachineModel", fT10, 45, dd_165_32, rfl, okc_10, by decide, tw_807, rfl, Or.inl rfl⟩,
   ⟨by decide, dd_165_35, rfl⟩,
   ⟨(-29), dd_165_38, rfl⟩,
   Or.inl ⟨2, rfl, dd_165_41, rfl⟩,
   ⟨11, dd_165_42, rfl, rfl⟩,
   Or.inl ⟨1, rfl, dd_165_45, rfl⟩,
   ⟨3, dd_165_46, rfl, rfl⟩,
   Or.inl (Or.inl ⟨dd_165_49, rfl⟩),
   ⟨4, dd_165_50, rfl⟩,
   Or.inl (Or.inl ⟨dd_165_53, rfl⟩),
   ⟨dd_165_54, rfl⟩, trivial⟩
theorem okM_165 : mj_okE gG 165 (cM_165, 3, oM_165, hM_165) := ⟨rfl, rfl, by decide +kernel, trivial, okI_165⟩
theorem dd_166_0 : decode prog_13_method_12_code 0 = .ok (.aload_n 0, 1) := by decide +kernel
theorem dd_166_1 : decode prog_13_method_12_code 1 = .ok (.getfield 7, 3) := by decide +kernel
theorem dd_166_4 : decode prog_13_method_12_code 4 = .ok (.iload_n 1, 1) := by decide +kernel
theorem dd_166_5 : decode prog_13_method_12_code 5 = .ok (.caload, 1) := by decide +kernel
theorem dd_166_6 : decode prog_13_method_12_code 6 = .ok (.bipush 45, 2) := by decide +kernel
theorem dd_166_8 : decode prog_13_method_12_code 8 = .ok (.if_icmp .ne 7, 3) := by decide +kernel
theorem dd_166_11 : decode prog_13_method_12_code 11 = .ok (.iconst 1, 1) := by decide +kernel
theorem dd_166_12 : decode prog_13_method_12_code 12 = .ok (.goto 4, 3) := by decide +kernel
theorem dd_166_15 : decode prog_13_method_12_code 15 = .ok (.iconst 0, 1) := by decide +kernel
theorem dd_166_16 : decode prog_13_method_12_code 16 = .ok (.istore_n 2, 1) := by decide +kernel
theorem dd_166_17 : decode prog_13_method_12_code 17 = .ok (.iload_n 2, 1) := by decide +kernel
theorem dd_166_18 : decode prog_13_method_12_code 18 = .ok (.ifCond .eq 9, 3) := by decide +kernel
theorem dd_166_21 : decode prog_13_method_12_code 21 = .ok (.iload_n 1, 1) := by decide +kernel
theorem dd_166_22 : decode prog_13_method_12_code 22 = .ok (.iconst 1, 1) := by decide +kernel
theorem dd_166_23 : decode prog_13_method_12_code 23 = .ok (.iadd, 1) := by decide +kernel
theorem dd_166_24 : decode prog_13_method_12_code 24 = .ok (.goto 4, 3) := by decide +kernel
theorem dd_166_27 : decode prog_13_method_12_code 27 = .ok (.iload_n 1, 1) := by decide +kernel
theorem dd_166_28 : decode prog_13_method_12_code 28 = .ok (.istore_n 3, 1) := by decide +kernel
theorem dd_166_29 : decode prog_13_method_12_code 29 = .ok (.iconst 0, 1) := by decide +kernel
theorem dd_166_30 : decode prog_13_method_12_code 30 = .ok (.istore 4, 2) := by decide +kernel
theorem dd_166_32 : decode prog_13_method_12_code 32 = .ok (.iconst 0, 1) := by decide +kernel
theorem dd_166_33 : decode prog_13_method_12_code 33 = .ok (.istore 5, 2) := by decide +kernel
theorem dd_166_35 : decode prog_13_method_12_code 35 = .ok (.iload 5, 2) := by decide +kernel
theorem dd_166_37 : decode prog_13_method_12_code 37 = .ok (.iconst 4, 1) := by decide +kernel
theorem dd_166_38 : decode prog_13_method_12_code 38 = .ok (.if_icmp .ge 49, 3) := by decide +kernel
theorem dd_166_41 : decode prog_13_method_12_code 41 = .ok (.iload_n 3, 1) := by decide +kernel
theorem dd_166_42 : decode prog_13_method_12_code 42 = .ok (.aload_n 0, 1) := by decide +kernel
theorem dd_166_43 : decode prog_13_method_12_code 43 = .ok (.getfield 102, 3) := by decide +kernel
theorem dd_166_46 : decode prog_13_method_12_code 46 = .ok (.if_icmp .ge 41, 3) := by decide +kernel
theorem dd_166_49 : decode prog_13_method_12_code 49 = .ok (.aload_n 0, 1) := by decide +kernel
theorem dd_166_50 : decode prog_13_method_12_code 50 = .ok (.getfield 7, 3) := by decide +kernel
theorem dd_166_53 : decode prog_13_method_12_code 53 = .ok (.iload_n 3, 1) := by decide +kernel
theorem dd_166_54 : decode prog_13_method_12_code 54 = .ok (.caload, 1) := by decide +kernel
theorem dd_166_55 : decode prog_13_method_12_code 55 = .ok (.invokestatic 122, 3) := by decide +kernel
theorem dd_166_58 : decode prog_13_method_12_code 58 = .ok (.ifCond .eq 29, 3) := by decide +kernel
theorem dd_166_61 : decode prog_13_method_12_code 61 = .ok (.bipush 10, 2) := by decide +kernel
theorem dd_166_63 : decode prog_13_method_12_code 63 = .ok (.iload 4, 2) := by decide +kernel
theorem dd_166_65 : decode prog_13_method_12_code 65 = .ok (.imul, 1) := by decide +kernel
theorem dd_166_66 : decode prog_13_method_12_code 66 = .ok (.aload_n 0, 1) := by decide +kernel
theorem dd_166_67 : decode prog_13_method_12_code 67 = .ok (.getfield 7, 3) := by decide +kernel
theorem dd_166_70 : decode prog_13_method_12_code 70 = .ok (.iload_n 3, 1) := by decide +kernel
theorem dd_166_71 : decode prog_13_method_12_code 71 = .ok (.caload, 1) := by decide +kernel
theorem dd_166_72 : decode prog_13_method_12_code 72 = .ok (.iadd, 1) := by decide +kernel
theorem dd_166_73 : decode prog_13_method_12_code 73 = .ok (.bipush 48, 2) := by decide +kernel
theorem dd_166_75 : decode prog_13_method_12_code 75 = .ok (.isub, 1) := by decide +kernel
theorem dd_166_76 : decode prog_13_method_12_code 76 = .ok (.istore 4, 2) := by decide +kernel
theorem dd_166_78 : decode prog_13_method_12_code 78 = .ok (.iinc 3 1, 3) := by decide +kernel
theorem dd_166_81 : decode prog_13_method_12_code 81 = .ok (.iinc 5 1, 3) := by decide +kernel
theorem dd_166_84 : decode prog_13_method_12_code 84 = .ok (.goto (-49), 3) := by decide +kernel
theorem dd_166_87 : decode prog_13_method_12_code 87 = .ok (.iload_n 2, 1) := by decide +kernel
theorem dd_166_88 : decode prog_13_method_12_code 88 = .ok (.ifCond .eq 9, 3) := by decide +kernel
theorem dd_166_91 : decode prog_13_method_12_code 91 = .ok (.iload 4, 2) := by decide +kernel
theorem dd_166_93 : decode prog_13_method_12_code 93 = .ok (.ineg, 1) := by decide +kernel
theorem dd_166_94 : decode prog_13_method_12_code 94 = .ok (.goto 5, 3) := by decide +kernel
theorem dd_166_97 : decode prog_13_method_12_code 97 = .ok (.iload 4, 2) := by decide +kernel
theorem dd_166_99 : decode prog_13_method_12_code 99 = .ok (.ireturn, 1) := by decide +kernel
set_option maxRecDepth 100000 in
theorem okI_166 : mj_okI gG "PairMachineModel" prog_13_method_12_code 6 (mj_off oM_166) (Option.some Jvm.ClassFile.FieldType.int) false true 0 cM_166 :=
  ⟨Or.inl ⟨0, rfl, dd_166_0, rfl⟩,
   ⟨7, "PairMachineModel", fT10, 45, dd_166_1, rfl, okc_10, by decide, tw_776⟩,
   Or.inl ⟨1, rfl, dd_166_4, rfl⟩,
   ⟨dd_166_5, rfl⟩,
   Or.inl (Or.inr (Or.inl ⟨dd_166_6, rfl, by decide⟩)),
   ⟨7, dd_166_8, rfl, rfl⟩,
   Or.inl (Or.inl ⟨dd_166_11, rfl⟩),
   ⟨4, dd_166_12, rfl⟩,
   Or.inl (Or.inl ⟨dd_166_15, rfl⟩),
   ⟨by decide, Or.inl ⟨2, rfl, dd_166_16, rfl⟩⟩,
   Or.inl ⟨2, rfl, dd_166_17, rfl⟩,
   ⟨9, dd_166_18, rfl, rfl⟩,
   Or.inl ⟨1, rfl, dd_166_21, rfl⟩,
   Or.inl (Or.inl ⟨dd_166_22, rfl⟩),
   ⟨dd_166_23, rfl⟩,
   ⟨4, dd_166_24, rfl⟩,
   Or.inl ⟨1, rfl, dd_166_27, rfl⟩,
   ⟨by decide, Or.inl ⟨3, rfl, dd_166_28, rfl⟩⟩,
   Or.inl (Or.inl ⟨dd_166_29, rfl⟩),
   ⟨by decide, Or.inr ⟨dd_166_30, rfl⟩⟩,
   Or.inl (Or.inl ⟨dd_166_32, rfl⟩),
   ⟨by decide, Or.inr ⟨dd_166_33, rfl⟩⟩,
   Or.inr ⟨dd_166_35, rfl⟩,
   Or.inl (Or.inl ⟨dd_166_37, rfl⟩),
   ⟨49, dd_166_38, rfl, rfl⟩,
   Or.inl ⟨3, rfl, dd_166_41, rfl⟩,
   Or.inl ⟨0, rfl, dd_166_42, rfl⟩,
   ⟨102, "PairMachineModel", fT10, 45, dd_166_43, rfl, okc_10, by decide, tw_806⟩,
   ⟨41, dd_166_46, rfl, rfl⟩,
   Or.inl ⟨0, rfl, dd_166_49, rfl⟩,
   ⟨7, "PairMachineModel", fT10, 45, dd_166_50, rfl, okc_10, by decide, tw_776⟩,
   Or.inl ⟨3, rfl, dd_166_53, rfl⟩,
   ⟨dd_166_54, rfl⟩,
   ⟨rfl, tw_818, by decide, tw_12, by decide +kernel, 122, tw_819, dd_166_55, tw_820, by decide +kernel⟩,
   ⟨29, dd_166_58, rfl, rfl⟩,
   Or.inl (Or.inr (Or.inl ⟨dd_166_61, rfl, by decide⟩)),
   Or.inr ⟨dd_166_63, rfl⟩,
   ⟨dd_166_65, rfl⟩,
   Or.inl ⟨0, rfl, dd_166_66, rfl⟩,
   ⟨7, "PairMachineModel", fT10, 45, dd_166_67, rfl, okc_10, by decide, tw_776⟩,
   Or.inl ⟨3, rfl, dd_166_70, rfl⟩,
   ⟨dd_166_71, rfl⟩,
   ⟨dd_166_72, rfl⟩,
   Or.inl (Or.inr (Or.inl ⟨dd_166_73, rfl, by decide⟩)),
   ⟨dd_166_75, rfl⟩,
   ⟨by decide, Or.inr ⟨dd_166_76, rfl⟩⟩,
   ⟨by decide, dd_166_78, rfl⟩,
   ⟨by decide, dd_166_81, rfl⟩,
   ⟨(-49), dd_166_84, rfl⟩,
   Or.inl ⟨2, rfl, dd_166_87, rfl⟩,
   ⟨9, dd_166_88, rfl, rfl⟩,
   Or.inr ⟨dd_166_91, rfl⟩,
   ⟨dd_166_93, rfl⟩,
   ⟨5, dd_166_94, rfl⟩,
   Or.inr ⟨dd_166_97, rfl⟩,
   ⟨dd_166_99, rfl⟩, trivial⟩
theorem okM_166 : mj_okE gG 166 (cM_166, 6, oM_166, hM_166) := ⟨rfl, rfl, by decide +kernel, trivial, okI_166⟩
theorem dd_167_0 : decode prog_13_method_13_code 0 = .ok (.iconst 0, 1) := by decide +kernel
theorem dd_167_1 : decode prog_13_method_13_code 1 = .ok (.istore_n 1, 1) := by decide +kernel
theorem dd_167_2 : decode prog_13_method_13_code 2 = .ok (.iconst 0, 1) := by decide +kernel
theorem dd_167_3 : decode prog_13_method_13_code 3 = .ok (.istore_n 2, 1) := by decide +kernel
theorem dd_167_4 : decode prog_13_method_13_code 4 = .ok (.iload_n 2, 1) := by decide +kernel
theorem dd_167_5 : decode prog_13_method_13_code 5 = .ok (.bipush 100, 2) := by decide +kernel
theorem dd_167_7 : decode prog_13_method_13_code 7 = .ok (.if_icmp .ge 151, 3) := by decide +kernel
theorem dd_167_10 : decode prog_13_method_13_code 10 = .ok (.iconst 0, 1) := by decide +kernel
theorem dd_167_11 : decode prog_13_method_13_code 11 = .ok (.istore_n 3, 1) := by decide +kernel
theorem dd_167_12 : decode prog_13_method_13_code 12 = .ok (.aload_n 0, 1) := by decide +kernel
theorem dd_167_13 : decode prog_13_method_13_code 13 = .ok (.iconst 0, 1) := by decide +kernel
theorem dd_167_14 : decode prog_13_method_13_code 14 = .ok (.invokevirtual 108, 3) := by decide +kernel
theorem dd_167_17 : decode prog_13_method_13_code 17 = .ok (.bipush 40, 2) := by decide +kernel
theorem dd_167_19 : decode prog_13_method_13_code 19 = .ok (.if_icmp .ne 34, 3) := by decide +kernel
theorem dd_167_22 : decode prog_13_method_13_code 22 = .ok (.aload_n 0, 1) := by decide +kernel
theorem dd_167_23 : decode prog_13_method_13_code 23 = .ok (.invokevirtual 125, 3) := by decide +kernel
theorem dd_167_26 : decode prog_13_method_13_code 26 = .ok (.ifCond .ne 5, 3) := by decide +kernel
theorem dd_167_29 : decode prog_13_method_13_code 29 = .ok (.iconst 0, 1) := by decide +kernel
theorem dd_167_30 : decode prog_13_method_13_code 30 = .ok (.ireturn, 1) := by decide +kernel
theorem dd_167_31 : decode prog_13_method_13_code 31 = .ok (.iinc 1 1, 3) := by decide +kernel
theorem dd_167_34 : decode prog_13_method_13_code 34 = .ok (.aload_n 0, 1) := by decide +kernel
theorem dd_167_35 : decode prog_13_method_13_code 35 = .ok (.iconst 0, 1) := by decide +kernel
theorem dd_167_36 : decode prog_13_method_13_code 36 = .ok (.invokevirtual 108, 3) := by decide +kernel
theorem dd_167_39 : decode prog_13_method_13_code 39 = .ok (.bipush 41, 2) := by decide +kernel
theorem dd_167_41 : decode prog_13_method_13_code 41 = .ok (.if_icmp .ne 7, 3) := by decide +kernel
theorem dd_167_44 : decode prog_13_method_13_code 44 = .ok (.iconst 1, 1) := by decide +kernel
theorem dd_167_45 : decode prog_13_method_13_code 45 = .ok (.goto 4, 3) := by decide +kernel
theorem dd_167_48 : decode prog_13_method_13_code 48 = .ok (.iconst 0, 1) := by decide +kernel
theorem dd_167_49 : decode prog_13_method_13_code 49 = .ok (.istore_n 3, 1) := by decide +kernel
theorem dd_167_50 : decode prog_13_method_13_code 50 = .ok (.goto 40, 3) := by decide +kernel
theorem dd_167_53 : decode prog_13_method_13_code 53 = .ok (.aload_n 0, 1) := by decide +kernel
theorem dd_167_54 : decode prog_13_method_13_code 54 = .ok (.iconst 0, 1) := by decide +kernel
theorem dd_167_55 : decode prog_13_method_13_code 55 = .ok (.invokevirtual 108, 3) := by decide +kernel
theorem dd_167_58 : decode prog_13_method_13_code 58 = .ok (.invokestatic 129, 3) := by decide +kernel
theorem dd_167_61 : decode prog_13_method_13_code 61 = .ok (.ifCond .eq 18, 3) := by decide +kernel
theorem dd_167_64 : decode prog_13_method_13_code 64 = .ok (.aload_n 0, 1) := by decide +kernel
theorem dd_167_65 : decode prog_13_method_13_code 65 = .ok (.dup, 1) := by decide +kernel
theorem dd_167_66 : decode prog_13_method_13_code 66 = .ok (.getfield 105, 3) := by decide +kernel
theorem dd_167_69 : decode prog_13_method_13_code 69 = .ok (.iconst 1, 1) := by decide +kernel
theorem dd_167_70 : decode prog_13_method_13_code 70 = .ok (.iadd, 1) := by decide +kernel
theorem dd_167_71 : decode prog_13_method_13_code 71 = .ok (.putfield 105, 3) := by decide +kernel
theorem dd_167_74 : decode prog_13_method_13_code 74 = .ok (.iconst 1, 1) := by decide +kernel
theorem dd_167_75 : decode prog_13_method_13_code 75 = .ok (.istore_n 3, 1) := by decide +kernel
theorem dd_167_76 : decode prog_13_method_13_code 76 = .ok (.goto 14, 3) := by decide +kernel
theorem dd_167_79 : decode prog_13_method_13_code 79 = .ok (.aload_n 0, 1) := by decide +kernel
theorem dd_167_80 : decode prog_13_method_13_code 80 = .ok (.invokevirtual 132, 3) := by decide +kernel
theorem dd_167_83 : decode prog_13_method_13_code 83 = .ok (.ifCond .ne 5, 3) := by decide +kernel
theorem dd_167_86 : decode prog_13_method_13_code 86 = .ok (.iconst 0, 1) := by decide +kernel
theorem dd_167_87 : decode prog_13_method_13_code 87 = .ok (.ireturn, 1) := by decide +kernel
theorem dd_167_88 : decode prog_13_method_13_code 88 = .ok (.iconst 1, 1) := by decide +kernel
theorem dd_167_89 : decode prog_13_method_13_code 89 = .ok (.istore_n 3, 1) := by decide +kernel
theorem dd_167_90 : decode prog_13_method_13_code 90 = .ok (.iload_n 3, 1) := by decide +kernel
theorem dd_167_91 : decode prog_13_method_13_code 91 = .ok (.ifCond .eq 61, 3) := by decide +kernel
theorem dd_167_94 : decode prog_13_method_13_code 94 = .ok (.iload_n 1, 1) := by decide +kernel
theorem dd_167_95 : decode prog_13_method_13_code 95 = .ok (.ifCond .ne 5, 3) := by decide +kernel
theorem dd_167_98 : decode prog_13_method_13_code 98 = .ok (.iconst 1, 1) := by decide +kernel
theorem dd_167_99 : decode prog_13_method_13_code 99 = .ok (.ireturn, 1) := by decide +kernel
theorem dd_167_100 : decode prog_13_method_13_code 100 = .ok (.aload_n 0, 1) := by decide +kernel
theorem dd_167_101 : decode prog_13_method_13_code 101 = .ok (.iconst 0, 1) := by decide +kernel
theorem dd_167_102 : decode prog_13_method_13_code 102 = .ok (.invokevirtual 108, 3) := by decide +kernel
theorem dd_167_105 : decode prog_13_method_13_code 105 = .ok (.bipush 41, 2) := by decide +kernel
theorem dd_167_107 : decode prog_13_method_13_code 107 = .ok (.if_icmp .ne 29, 3) := by decide +kernel
theorem dd_167_110 : decode prog_13_method_13_code 110 = .ok (.aload_n 0, 1) := by decide +kernel
theorem dd_167_111 : decode prog_13_method_13_code 111 = .ok (.dup, 1) := by decide +kernel
theorem dd_167_112 : decode prog_13_method_13_code 112 = .ok (.getfield 105, 3) := by decide +kernel
theorem dd_167_115 : decode prog_13_method_13_code 115 = .ok (.iconst 1, 1) := by decide +kernel
theorem dd_167_116 : decode prog_13_method_13_code 116 = .ok (.iadd, 1) := by decide +kernel
theorem dd_167_117 : decode prog_13_method_13_code 117 = .ok (.putfield 105, 3) := by decide +kernel
theorem dd_167_120 : decode prog_13_method_13_code 120 = .ok (.aload_n 0, 1) := by decide +kernel
theorem dd_167_121 : decode prog_13_method_13_code 121 = .ok (.dup, 1) := by decide +kernel
theorem dd_167_122 : decode prog_13_method_13_code 122 = .ok (.getfield 112, 3) := by decide +kernel
theorem dd_167_125 : decode prog_13_method_13_code 125 = .ok (.iconst 1, 1) := by decide +kernel
theorem dd_167_126 : decode prog_13_method_13_code 126 = .ok (.isub, 1) := by decide +kernel
theorem dd_167_127 : decode prog_13_method_13_code 127 = .ok (.putfield 112, 3) := by decide +kernel
theorem dd_167_130 : decode prog_13_method_13_code 130 = .ok (.iinc 1 (-1), 3) := by decide +kernel
theorem dd_167_133 : decode prog_13_method_13_code 133 = .ok (.goto (-43), 3) := by decide +kernel
theorem dd_167_136 : decode prog_13_method_13_code 136 = .ok (.aload_n 0, 1) := by decide +kernel
theorem dd_167_137 : decode prog_13_method_13_code 137 = .ok (.bipush 32, 2) := by decide +kernel
theorem dd_167_139 : decode prog_13_method_13_code 139 = .ok (.invokevirtual 115, 3) := by decide +kernel
theorem dd_167_142 : decode prog_13_method_13_code 142 = .ok (.ifCond .ne 5, 3) := by decide +kernel
theorem dd_167_145 : decode prog_13_method_13_code 145 = .ok (.iconst 0, 1) := by decide +kernel
theorem dd_167_146 : decode prog_13_method_13_code 146 = .ok (.ireturn, 1) := by decide +kernel
theorem dd_167_147 : decode prog_13_method_13_code 147 = .ok (.iconst 0, 1) := by decide +kernel
theorem dd_167_148 : decode prog_13_method_13_code 148 = .ok (.istore_n 3, 1) := by decide +kernel
theorem dd_167_149 : decode prog_13_method_13_code 149 = .ok (.goto (-59), 3) := by decide +kernel
theorem dd_167_152 : decode prog_13_method_13_code 152 = .ok (.iinc 2 1, 3) := by decide +kernel
theorem dd_167_155 : decode prog_13_method_13_code 155 = .ok (.goto (-151), 3) := by decide +kernel
theorem dd_167_158 : decode prog_13_method_13_code 158 = .ok (.iconst 0, 1) := by decide +kernel
theorem dd_167_159 : decode prog_13_method_13_code 159 = .ok (.ireturn, 1) := by decide +kernel
set_option maxRecDepth 100000 in
theorem okI_167 : mj_okI gG "PairMachineModel" prog_13_method_13_code 4 (mj_off oM_167) (Option.some Jvm.ClassFile.FieldType.boolean) false true 0 cM_167 :=
  ⟨Or.inl (Or.inl ⟨dd_167_0, rfl⟩),
   ⟨by decide, Or.inl ⟨1, rfl, dd_167_1, rfl⟩⟩,
   Or.inl (Or.inl ⟨dd_167_2, rfl⟩),
   ⟨by decide, Or.inl ⟨2, rfl, dd_167_3, rfl⟩⟩,
   Or.inl ⟨2, rfl, dd_167_4, rfl⟩,
   Or.inl (Or.inr (Or.inl ⟨dd_167_5, rfl, by decide⟩)),
   ⟨151, dd_167_7, rfl, rfl⟩,
   Or.inl (Or.inl ⟨dd_167_10, rfl⟩),
   ⟨by decide, Or.inl ⟨3, rfl, dd_167_11, rfl⟩⟩,
   Or.inl ⟨0, rfl, dd_167_12, rfl⟩,
   Or.inl (Or.inl ⟨dd_167_13, rfl⟩),
   ⟨rfl, tw_808, by decide, tw_12, by decide +kernel, 108, tw_809, dd_167_14, tw_810, ⟨"PairMachineModel", fT10, 45, rfl, tw_811⟩, by decide +kernel⟩,
   Or.inl (Or.inr (Or.inl ⟨dd_167_17, rfl, by decide⟩)),
   ⟨34, dd_167_19, rfl, rfl⟩,
   Or.inl ⟨0, rfl, dd_167_22, rfl⟩,
   ⟨rfl, tw_821, by decide, tw_12, by decide +kernel, 125, tw_822, dd_167_23, tw_823, ⟨"PairMachineModel", fT10, 45, rfl, tw_824⟩, by decide +kernel⟩,
   ⟨5, dd_167_26, rfl, rfl⟩,
   Or.inl (Or.inl ⟨dd_167_29, rfl⟩),
   ⟨dd_167_30, rfl⟩,
   ⟨by decide, dd_167_31, rfl⟩,
   Or.inl ⟨0, rfl, dd_167_34, rfl⟩,
   Or.inl (Or.inl ⟨dd_167_35, rfl⟩),
   ⟨rfl, tw_808, by decide, tw_12, by decide +kernel, 108, tw_809, dd_167_36, tw_810, ⟨"PairMachineModel", fT10, 45, rfl, tw_811⟩, by decide +kernel⟩,
   Or.inl (Or.inr (Or.inl ⟨dd_167_39, rfl, by decide⟩)),
   ⟨7, dd_167_41, rfl, rfl⟩,
   Or.inl (Or.inl ⟨dd_167_44, rfl⟩),
   ⟨4, dd_167_45, rfl⟩,
   Or.inl (Or.inl ⟨dd_167_48, rfl⟩),
   ⟨by decide, Or.inl ⟨3, rfl, dd_167_49, rfl⟩⟩,
   ⟨40, dd_167_50, rfl⟩,
   Or.inl ⟨0, rfl, dd_167_53, rfl⟩,
   Or.inl (Or.inl ⟨dd_167_54, rfl⟩),
   ⟨rfl, tw_808, by decide, tw_12, by decide +kernel, 108, tw_809, dd_167_55, tw_810, ⟨"PairMachineModel", fT10, 45, rfl, tw_811⟩, by decide +kernel⟩,
   ⟨rfl, tw_825, by decide, tw_12, by decide +kernel, 129, tw_826, dd_167_58, tw_827, by decide +kernel⟩,
   ⟨18, dd_167_61, rfl, rfl⟩,
   Or.inl ⟨0, rfl, dd_167_64, rfl⟩,
   ⟨dd_167_65, rfl⟩,
   ⟨105, "PairMachineModel", fT10, 45, dd_167_66, rfl, okc_10, by decide, tw_807⟩,
   Or.inl (Or.inl ⟨dd_167_69, rfl⟩),
   ⟨dd_167_70, rfl⟩,
   ⟨105, "PairMachineModel", fT10, 45, dd_167_71, rfl, okc_10, by decide, tw_807, rfl, Or.inl rfl⟩,
   Or.inl (Or.inl ⟨dd_167_74, rfl⟩),
   ⟨by decide, Or.inl ⟨3, rfl, dd_167_75, rfl⟩⟩,
   ⟨14, dd_167_76, rfl⟩,
   Or.inl ⟨0, rfl, dd_167_79, rfl⟩,
   ⟨rfl, tw_828, by decide, tw_12, by decide +kernel, 132, tw_829, dd_167_80, tw_830, ⟨"PairMachineModel", fT10, 45, rfl, tw_831⟩, by decide +kernel⟩,
   ⟨5, dd_167_83, rfl, rfl⟩,
   Or.inl (Or.inl ⟨dd_167_86, rfl⟩),
   ⟨dd_167_87, rfl⟩,
   Or.inl (Or.inl ⟨dd_167_88, rfl⟩),
   ⟨by decide, Or.inl ⟨3, rfl, dd_167_89, rfl⟩⟩,
   Or.inl ⟨3, rfl, dd_167_90, rfl⟩,
   ⟨61, dd_167_91, rfl, rfl⟩,
   Or.inl ⟨1, rfl, dd_167_94, rfl⟩,
   ⟨5, dd_167_95, rfl, rfl⟩,
   Or.inl (Or.inl ⟨dd_167_98, rfl⟩),
   ⟨dd_167_99, rfl⟩,
   Or.inl ⟨0, rfl, dd_167_100, rfl⟩,
   Or.inl (Or.inl ⟨dd_167_101, rfl⟩),
   ⟨rfl, tw_808, by decide, tw_12, by decide +kernel, 108, tw_809, dd_167_102, tw_810, ⟨"PairMachineModel", fT10, 45, rfl, tw_811⟩, by decide +kernel⟩,
   Or.inl (Or.inr (Or.inl ⟨dd_167_105, rfl, by decide⟩)),
   ⟨29, dd_167_107, rfl, rfl⟩,
   Or.inl ⟨0, rfl, dd_167_110, rfl⟩,
   ⟨dd_167_111, rfl⟩,
   ⟨105, "PairMachineModel", fT10, 45, dd_167_112, rfl, okc_10, by decide, tw_807⟩,
   Or.inl (Or.inl ⟨dd_167_115, rfl⟩),
   ⟨dd_167_116, rfl⟩,
   ⟨105, "PairMachineModel", fT10, 45, dd_167_117, rfl, okc_10, by decide, tw_807, rfl, Or.inl rfl⟩,
   Or.inl ⟨0, rfl, dd_167_120, rfl⟩,
   ⟨dd_167_121, rfl⟩,
   ⟨112, "PairMachineModel", fT10, 45, dd_167_122, rfl, okc_10, by decide, tw_812⟩,
   Or.inl (Or.inl ⟨dd_167_125, rfl⟩),
   ⟨dd_167_126, rfl⟩,
   ⟨112, "PairMachineModel", fT10, 45, dd_167_127, rfl, okc_10, by decide, tw_812, rfl, Or.inl rfl⟩,
   ⟨by decide, dd_167_130, rfl⟩,
   ⟨(-43), dd_167_133, rfl⟩,
   Or.inl ⟨0, rfl, dd_167_136, rfl⟩,
   Or.inl (Or.inr (Or.inl ⟨dd_167_137, rfl, by decide⟩)),
   ⟨rfl, tw_813, by decide, tw_12, by decide +kernel, 115, tw_814, dd_167_139, tw_815, ⟨"PairMachineModel", fT10, 45, rfl, tw_816⟩, by decide +kernel⟩,
   ⟨5, dd_167_142, rfl, rfl⟩,
   Or.inl (Or.inl ⟨dd_167_145, rfl⟩),
   ⟨dd_167_146, rfl⟩,
   Or.inl (Or.inl ⟨dd_167_147, rfl⟩),
   ⟨by decide, Or.inl ⟨3, rfl, dd_167_148, rfl⟩⟩,
   ⟨(-59), dd_167_149, rfl⟩,
   ⟨by decide, dd_167_152, rfl⟩,
   ⟨(-151), dd_167_155, rfl⟩,
   Or.inl (Or.inl ⟨dd_167_158, rfl⟩),
   ⟨dd_167_159, rfl⟩, trivial⟩
theorem okM_167 : mj_okE gG 167 (cM_167, 4, oM_167, hM_167) := ⟨rfl, rfl, by decide +kernel, trivial, okI_167⟩
theorem dd_168_0 : decode prog_13_method_14_code 0 = .ok (.aload_n 0, 1) := by decide +kernel
theorem dd_168_1 : decode prog_13_method_14_code 1 = .ok (.bipush 32, 2) := by decide +kernel
theorem dd_168_3 : decode prog_13_method_14_code 3 = .ok (.invokevirtual 115, 3) := by decide +kernel
theorem dd_168_6 : decode prog_13_method_14_code 6 = .ok (.ifCond .eq 10, 3) := by decide +kernel
theorem dd_168_9 : decode prog_13_method_14_code 9 = .ok (.aload_n 0, 1) := by decide +kernel
theorem dd_168_10 : decode prog_13_method_14_code 10 = .ok (.invokevirtual 125, 3) := by decide +kernel
theorem dd_168_13 : decode prog_13_method_14_code 13 = .ok (.ifCond .ne 5, 3) := by decide +kernel
theorem dd_168_16 : decode prog_13_method_14_code 16 = .ok (.iconst 0, 1) := by decide +kernel
theorem dd_168_17 : decode prog_13_method_14_code 17 = .ok (.ireturn, 1) := by decide +kernel
theorem dd_168_18 : decode prog_13_method_14_code 18 = .ok (.aload_n 0, 1) := by decide +kernel
theorem dd_168_19 : decode prog_13_method_14_code 19 = .ok (.iconst 0, 1) := by decide +kernel
theorem dd_168_20 : decode prog_13_method_14_code 20 = .ok (.invokevirtual 108, 3) := by decide +kernel
theorem dd_168_23 : decode prog_13_method_14_code 23 = .ok (.invokestatic 129, 3) := by decide +kernel
theorem dd_168_26 : decode prog_13_method_14_code 26 = .ok (.ifCond .ne 25, 3) := by decide +kernel
theorem dd_168_29 : decode prog_13_method_14_code 29 = .ok (.aload_n 0, 1) := by decide +kernel
theorem dd_168_30 : decode prog_13_method_14_code 30 = .ok (.invokevirtual 135, 3) := by decide +kernel
theorem dd_168_33 : decode prog_13_method_14_code 33 = .ok (.ifCond .eq 16, 3) := by decide +kernel
theorem dd_168_36 : decode prog_13_method_14_code 36 = .ok (.aload_n 0, 1) := by decide +kernel
theorem dd_168_37 : decode prog_13_method_14_code 37 = .ok (.bipush 32, 2) := by decide +kernel
theorem dd_168_39 : decode prog_13_method_14_code 39 = .ok (.invokevirtual 115, 3) := by decide +kernel
theorem dd_168_42 : decode prog_13_method_14_code 42 = .ok (.ifCond .eq 7, 3) := by decide +kernel
theorem dd_168_45 : decode prog_13_method_14_code 45 = .ok (.iconst 1, 1) := by decide +kernel
theorem dd_168_46 : decode prog_13_method_14_code 46 = .ok (.goto 4, 3) := by decide +kernel
theorem dd_168_49 : decode prog_13_method_14_code 49 = .ok (.iconst 0, 1) := by decide +kernel
theorem dd_168_50 : decode prog_13_method_14_code 50 = .ok (.ireturn, 1) := by decide +kernel
theorem dd_168_51 : decode prog_13_method_14_code 51 = .ok (.iconst 0, 1) := by decide +kernel
theorem dd_168_52 : decode prog_13_method_14_code 52 = .ok (.istore_n 2, 1) := by decide +kernel
theorem dd_168_53 : decode prog_13_method_14_code 53 = .ok (.iload_n 2, 1) := by decide +kernel
theorem dd_168_54 : decode prog_13_method_14_code 54 = .ok (.iconst 3, 1) := by decide +kernel
theorem dd_168_55 : decode prog_13_method_14_code 55 = .ok (.if_icmp .ge 157, 3) := by decide +kernel
theorem dd_168_58 : decode prog_13_method_14_code 58 = .ok (.aload_n 0, 1) := by decide +kernel
theorem dd_168_59 : decode prog_13_method_14_code 59 = .ok (.iconst 0, 1) := by decide +kernel
theorem dd_168_60 : decode prog_13_method_14_code 60 = .ok (.invokevirtual 108, 3) := by decide +kernel
theorem dd_168_63 : decode prog_13_method_14_code 63 = .ok (.istore_n 3, 1) := by decide +kernel
theorem dd_168_64 : decode prog_13_method_14_code 64 = .ok (.iload_n 3, 1) := by decide +kernel
theorem dd_168_65 : decode prog_13_method_14_code 65 = .ok (.invokestatic 129, 3) := by decide +kernel
theorem dd_168_68 : decode prog_13_method_14_code 68 = .ok (.ifCond .eq 48, 3) := by decide +kernel
theorem dd_168_71 : decode prog_13_method_14_code 71 = .ok (.aload_n 0, 1) := by decide +kernel
theorem dd_168_72 : decode prog_13_method_14_code 72 = .ok (.getfield 27, 3) := by decide +kernel
theorem dd_168_75 : decode prog_13_method_14_code 75 = .ok (.iload_n 1, 1) := by decide +kernel
theorem dd_168_76 : decode prog_13_method_14_code 76 = .ok (.iaload, 1) := by decide +kernel
theorem dd_168_77 : decode prog_13_method_14_code 77 = .ok (.ifCond .le 15, 3) := by decide +kernel
theorem dd_168_80 : decode prog_13_method_14_code 80 = .ok (.aload_n 0, 1) := by decide +kernel
theorem dd_168_81 : decode prog_13_method_14_code 81 = .ok (.getfield 45, 3) := by decide +kernel
theorem dd_168_84 : decode prog_13_method_14_code 84 = .ok (.iconst 3, 1) := by decide +kernel
theorem dd_168_85 : decode prog_13_method_14_code 85 = .ok (.iload_n 1, 1) := by decide +kernel
theorem dd_168_86 : decode prog_13_method_14_code 86 = .ok (.imul, 1) := by decide +kernel
theorem dd_168_87 : decode prog_13_method_14_code 87 = .ok (.iaload, 1) := by decide +kernel
theorem dd_168_88 : decode prog_13_method_14_code 88 = .ok (.iload_n 3, 1) := by decide +kernel
theorem dd_168_89 : decode prog_13_method_14_code 89 = .ok (.if_icmp .eq 27, 3) := by decide +kernel
theorem dd_168_92 : decode prog_13_method_14_code 92 = .ok (.aload_n 0, 1) := by decide +kernel
theorem dd_168_93 : decode prog_13_method_14_code 93 = .ok (.getfield 27, 3) := by decide +kernel
theorem dd_168_96 : decode prog_13_method_14_code 96 = .ok (.iload_n 1, 1) := by decide +kernel
theorem dd_168_97 : decode prog_13_method_14_code 97 = .ok (.iaload, 1) := by decide +kernel
theorem dd_168_98 : decode prog_13_method_14_code 98 = .ok (.iconst 1, 1) := by decide +kernel
theorem dd_168_99 : decode prog_13_method_14_code 99 = .ok (.if_icmp .le 19, 3) := by decide +kernel
theorem dd_168_102 : decode prog_13_method_14_code 102 = .ok (.aload_n 0, 1) := by decide +kernel
theorem dd_168_103 : decode prog_13_method_14_code 103 = .ok (.getfield 45, 3) := by decide +kernel
theorem dd_168_106 : decode prog_13_method_14_code 106 = .ok (.iconst 3, 1) := by decide +kernel
theorem dd_168_107 : decode prog_13_method_14_code 107 = .ok (.iload_n 1, 1) := by decide +kernel
theorem dd_168_108 : decode prog_13_method_14_code 108 = .ok (.imul, 1) := by decide +kernel
theorem dd_168_109 : decode prog_13_method_14_code 109 = .ok (.iconst 1, 1) := by decide +kernel
theorem dd_168_110 : decode prog_13_method_14_code 110 = .ok (.iadd, 1) := by decide +kernel
theorem dd_168_111 : decode prog_13_method_14_code 111 = .ok (.iaload, 1) := by decide +kernel
theorem dd_168_112 : decode prog_13_method_14_code 112 = .ok (.iload_n 3, 1) := by decide +kernel
theorem dd_168_113 : decode prog_13_method_14_code 113 = .ok (.if_icmp .ne 5, 3) := by decide +kernel
theorem dd_168_116 : decode prog_13_method_14_code 116 = .ok (.iconst 0, 1) := by decide +kernel
theorem dd_168_117 : decode prog_13_method_14_code 117 = .ok (.ireturn, 1) := by decide +kernel
theorem dd_168_118 : decode prog_13_method_14_code 118 = .ok (.aload_n 0, 1) := by decide +kernel
theorem dd_168_119 : decode prog_13_method_14_code 119 = .ok (.getfield 45, 3) := by decide +kernel
theorem dd_168_122 : decode prog_13_method_14_code 122 = .ok (.iconst 3, 1) := by decide +kernel
theorem dd_168_123 : decode prog_13_method_14_code 123 = .ok (.iload_n 1, 1) := by decide +kernel
theorem dd_168_124 : decode prog_13_method_14_code 124 = .ok (.imul, 1) := by decide +kernel
theorem dd_168_125 : decode prog_13_method_14_code 125 = .ok (.aload_n 0, 1) := by decide +kernel
theorem dd_168_126 : decode prog_13_method_14_code 126 = .ok (.getfield 27, 3) := by decide +kernel
theorem dd_168_129 : decode prog_13_method_14_code 129 = .ok (.iload_n 1, 1) := by decide +kernel
theorem dd_168_130 : decode prog_13_method_14_code 130 = .ok (.iaload, 1) := by decide +kernel
theorem dd_168_131 : decode prog_13_method_14_code 131 = .ok (.iadd, 1) := by decide +kernel
theorem dd_168_132 : decode prog_13_method_14_code 132 = .ok (.iload_n 3, 1) := by decide +kernel
theorem dd_168_133 : decode prog_13_method_14_code 133 = .ok (.iastore, 1) := by decide +kernel
theorem dd_168_134 : decode prog_13_method_14_code 134 = .ok (.aload_n 0, 1) := by decide +kernel
theorem dd_168_135 : decode prog_13_method_14_code 135 = .ok (.getfield 27, 3) := by decide +kernel
theorem dd_168_138 : decode prog_13_method_14_code 138 = .ok (.iload_n 1, 1) := by decide +kernel
theorem dd_168_139 : decode prog_13_method_14_code 139 = .ok (.dup2, 1) := by decide +kernel
theorem dd_168_140 : decode prog_13_method_14_code 140 = .ok (.iaload, 1) := by decide +kernel
theorem dd_168_141 : decode prog_13_method_14_code 141 = .ok (.iconst 1, 1) := by decide +kernel
theorem dd_168_142 : decode prog_13_method_14_code 142 = .ok (.iadd, 1) := by decide +kernel
theorem dd_168_143 : decode prog_13_method_14_code 143 = .ok (.iastore, 1) := by decide +kernel
theorem dd_168_144 : decode prog_13_method_14_code 144 = .ok (.aload_n 0, 1) := by decide +kernel
theorem dd_168_145 : decode prog_13_method_14_code 145 = .ok (.dup, 1) := by decide +kernel
theorem dd_168_146 : decode prog_13_method_14_code 146 = .ok (.getfield 105, 3) := by decide +kernel
theorem dd_168_149 : decode prog_13_method_14_code 149 = .ok (.iconst 1, 1) := by decide +kernel
theorem dd_168_150 : decode prog_13_method_14_code 150 = .ok (.iadd, 1) := by decide +kernel
theorem dd_168_151 : decode prog_13_method_14_code 151 = .ok (.putfield 105, 3) := by decide +kernel
theorem dd_168_154 : decode prog_13_method_14_code 154 = .ok (.aload_n 0, 1) := by decide +kernel
theorem dd_168_155 : decode prog_13_method_14_code 155 = .ok (.iconst 0, 1) := by decide +kernel
theorem dd_168_156 : decode prog_13_method_14_code 156 = .ok (.invokevirtual 108, 3) := by decide +kernel
theorem dd_168_159 : decode prog_13_method_14_code 159 = .ok (.bipush 32, 2) := by decide +kernel
theorem dd_168_161 : decode prog_13_method_14_code 161 = .ok (.if_icmp .ne 13, 3) := by decide +kernel
theorem dd_168_164 : decode prog_13_method_14_code 164 = .ok (.aload_n 0, 1) := by decide +kernel
theorem dd_168_165 : decode prog_13_method_14_code 165 = .ok (.getfield 27, 3) := by decide +kernel
theorem dd_168_168 : decode prog_13_method_14_code 168 = .ok (.iload_n 1, 1) := by decide +kernel
theorem dd_168_169 : decode prog_13_method_14_code 169 = .ok (.iaload, 1) := by decide +kernel
theorem dd_168_170 : decode prog_13_method_14_code 170 = .ok (.iconst 3, 1) := by decide +kernel
theorem dd_168_171 : decode prog_13_method_14_code 171 = .ok (.if_icmp .ne 25, 3) := by decide +kernel
theorem dd_168_174 : decode prog_13_method_14_code 174 = .ok (.aload_n 0, 1) := by decide +kernel
theorem dd_168_175 : decode prog_13_method_14_code 175 = .ok (.invokevirtual 135, 3) := by decide +kernel
theorem dd_168_178 : decode prog_13_method_14_code 178 = .ok (.ifCond .eq 16, 3) := by decide +kernel
theorem dd_168_181 : decode prog_13_method_14_code 181 = .ok (.aload_n 0, 1) := by decide +kernel
theorem dd_168_182 : decode prog_13_method_14_code 182 = .ok (.bipush 32, 2) := by decide +kernel
theorem dd_168_184 : decode prog_13_method_14_code 184 = .ok (.invokevirtual 115, 3) := by decide +kernel
theorem dd_168_187 : decode prog_13_method_14_code 187 = .ok (.ifCond .eq 7, 3) := by decide +kernel
theorem dd_168_190 : decode prog_13_method_14_code 190 = .ok (.iconst 1, 1) := by decide +kernel
theorem dd_168_191 : decode prog_13_method_14_code 191 = .ok (.goto 4, 3) := by decide +kernel
theorem dd_168_194 : decode prog_13_method_14_code 194 = .ok (.iconst 0, 1) := by decide +kernel
theorem dd_168_195 : decode prog_13_method_14_code 195 = .ok (.ireturn, 1) := by decide +kernel
theorem dd_168_196 : decode prog_13_method_14_code 196 = .ok (.aload_n 0, 1) := by decide +kernel
theorem dd_168_197 : decode prog_13_method_14_code 197 = .ok (.dup, 1) := by decide +kernel
theorem dd_168_198 : decode prog_13_method_14_code 198 = .ok (.getfield 105, 3) := by decide +kernel
theorem dd_168_201 : decode prog_13_method_14_code 201 = .ok (.iconst 1, 1) := by decide +kernel
theorem dd_168_202 : decode prog_13_method_14_code 202 = .ok (.iadd, 1) := by decide +kernel
theorem dd_168_203 : decode prog_13_method_14_code 203 = .ok (.putfield 105, 3) := by decide +kernel
theorem dd_168_206 : decode prog_13_method_14_code 206 = .ok (.iinc 2 1, 3) := by decide +kernel
theorem dd_168_209 : decode prog_13_method_14_code 209 = .ok (.goto (-156), 3) := by decide +kernel
theorem dd_168_212 : decode prog_13_method_14_code 212 = .ok (.iconst 0, 1) := by decide +kernel
theorem dd_168_213 : decode prog_13_method_14_code 213 = .ok (.ireturn, 1) := by decide +kernel
set_option maxRecDepth 100000 in
theorem okI_168 : mj_okI gG "PairMachineModel" prog_13_method_14_code 4 (mj_off oM_168) (Option.some Jvm.ClassFile.FieldType.boolean) false true 0 cM_168 :=
  ⟨Or.inl ⟨0, rfl, dd_168_0, rfl⟩,
   Or.inl (Or.inr (Or.inl ⟨dd_168_1, rfl, by decide⟩)),
   ⟨rfl, tw_813, by decide, tw_12, by decide +kernel, 115, tw_814, dd_168_3, tw_815, ⟨"PairMachineModel", fT10, 45, rfl, tw_816⟩, by decide +kernel⟩,
   ⟨10, dd_168_6, rfl, rfl⟩,
   Or.inl ⟨0, rfl, dd_168_9, rfl⟩,
   ⟨rfl, tw_821, by decide, tw_12, by decide +kernel, 125, tw_822, dd_168_10, tw_823, ⟨"PairMachineModel", fT10, 45, rfl, tw_824⟩, by decide +kernel⟩,
   ⟨5, dd_168_13, rfl, rfl⟩,
   Or.inl (Or.inl ⟨dd_168_16, rfl⟩),
   ⟨dd_168_17, rfl⟩,
   Or.inl ⟨0, rfl, dd_168_18, rfl⟩,
   Or.inl (Or.inl ⟨dd_168_19, rfl⟩),
   ⟨rfl, tw_808, by decide, tw_12, by decide +kernel, 108, tw_809, dd_168_20, tw_810, ⟨"PairMachineModel", fT10, 45, rfl, tw_811⟩, by decide +kernel⟩,
   ⟨rfl, tw_825, by decide, tw_12, by decide +kernel, 129, tw_826, dd_168_23, tw_827, by decide +kernel⟩,
   ⟨25, dd_168_26, rfl, rfl⟩,
   Or.inl ⟨0, rfl, dd_168_29, rfl⟩,
   ⟨rfl, tw_832, by decide, tw_12, by decide +kernel, 135, tw_833, dd_168_30, tw_834, ⟨"PairMachineModel", fT10, 45, rfl, tw_835⟩, by decide +kernel⟩,
   ⟨16, dd_168_33, rfl, rfl⟩,
   Or.inl ⟨0, rfl, dd_168_36, rfl⟩,
   Or.inl (Or.inr (Or.inl ⟨dd_168_37, rfl, by decide⟩)),
   ⟨rfl, tw_813, by decide, tw_12, by decide +kernel, 115, tw_814, dd_168_39, tw_815, ⟨"PairMachineModel", fT10, 45, rfl, tw_816⟩, by decide +kernel⟩,
   ⟨7, dd_168_42, rfl, rfl⟩,
   Or.inl (Or.inl ⟨dd_168_45, rfl⟩),
   ⟨4, dd_168_46, rfl⟩,
   Or.inl (Or.inl ⟨dd_168_49, rfl⟩),
   ⟨dd_168_50, rfl⟩,
   Or.inl (Or.inl ⟨dd_168_51, rfl⟩),
   ⟨by decide, Or.inl ⟨2, rfl, dd_168_52, rfl⟩⟩,
   Or.inl ⟨2, rfl, dd_168_53, rfl⟩,
   Or.inl (Or.inl ⟨dd_168_54, rfl⟩),
   ⟨157, dd_168_55, rfl, rfl⟩,
   Or.inl ⟨0, rfl, dd_168_58, rfl⟩,
   Or.inl (Or.inl ⟨dd_168_59, rfl⟩),
   ⟨rfl, tw_808, by decide, tw_12, by decide +kernel, 108, tw_809, dd_168_60, tw_810, ⟨"PairMachineModel", fT10, 45, rfl, tw_811⟩, by decide +kernel⟩,
   ⟨by decide, Or.inl ⟨3, rfl, dd_168_63, rfl⟩⟩,
   Or.inl ⟨3, rfl, dd_168_64, rfl⟩,
   ⟨rfl, tw_825, by decide, tw_12, by decide +kernel, 129, tw_826, dd_168_65, tw_827, by decide +kernel⟩,
   ⟨48, dd_168_68, rfl, rfl⟩,
   Or.inl ⟨0, rfl, dd_168_71, rfl⟩,
   ⟨27, "PairMachineModel", fT10, 45, dd_168_72, rfl, okc_10, by decide, tw_781⟩,
   Or.inl ⟨1, rfl, dd_168_75, rfl⟩,
   ⟨dd_168_76, rfl⟩,
   ⟨15, dd_168_77, rfl, rfl⟩,
   Or.inl ⟨0, rfl, dd_168_80, rfl⟩,
   ⟨45, "PairMachineModel", fT10, 45, dd_168_81, rfl, okc_10, by decide, tw_787⟩,
   Or.inl (Or.inl ⟨dd_168_84, rfl⟩),
   Or.inl ⟨1, rfl, dd_168_85, rfl⟩,
   ⟨dd_168_86, rfl⟩,
   ⟨dd_168_87, rfl⟩,
   Or.inl ⟨3, rfl, dd_168_88, rfl⟩,
   ⟨27, dd_168_89, rfl, rfl⟩,
   Or.inl ⟨0, rfl, dd_168_92, rfl⟩,
   ⟨27, "PairMachineModel", fT10, 45, dd_168_93, rfl, okc_10, by decide, tw_781⟩,
   Or.inl ⟨1, rfl, dd_168_96, rfl⟩,
   ⟨dd_168_97, rfl⟩,
   Or.inl (Or.inl ⟨dd_168_98, rfl⟩),
   ⟨19, dd_168_99, rfl, rfl⟩,
   Or.inl ⟨0, rfl, dd_168_102, rfl⟩,
   ⟨45, "PairMachineModel", fT10, 45, dd_168_103, rfl, okc_10, by decide, tw_787⟩,
   Or.inl (Or.inl ⟨dd_168_106, rfl⟩),
   Or.inl ⟨1, rfl, dd_168_107, rfl⟩,
   ⟨dd_168_108, rfl⟩,
   Or.inl (Or.inl ⟨dd_168_109, rfl⟩),
   ⟨dd_168_110, rfl⟩,
   ⟨dd_168_111, rfl⟩,
   Or.inl ⟨3, rfl, dd_168_112, rfl⟩,
   ⟨5, dd_168_113, rfl, rfl⟩,
   Or.inl (Or.inl ⟨dd_168_116, rfl⟩),
   ⟨dd_168_117, rfl⟩,
   Or.inl ⟨0, rfl, dd_168_118, rfl⟩,
   ⟨45, "PairMachineModel", fT10, 45, dd_168_119, rfl, okc_10, by decide, tw_787⟩,
   Or.inl (Or.inl ⟨dd_168_122, rfl⟩),
   Or.inl ⟨1, rfl, dd_168_123, rfl⟩,
   ⟨dd_168_124, rfl⟩,
   Or.inl ⟨0, rfl, dd_168_125, rfl⟩,
   ⟨27, "PairMachineModel", fT10, 45, dd_168_126, rfl, okc_10, by decide, tw_781⟩,
   Or.inl ⟨1, rfl, dd_168_129, rfl⟩,
   ⟨dd_168_130, rfl⟩,
   ⟨dd_168_131, rfl⟩,
   Or.inl ⟨3, rfl, dd_168_132, rfl⟩,
   ⟨dd_168_133, rfl⟩,
   Or.inl ⟨0, rfl, dd_168_134, rfl⟩,
   ⟨27, "PairMachineModel", fT10, 45, dd_168_135, rfl, okc_10, by decide, tw_781⟩,
   Or.inl ⟨1, rfl, dd_168_138, rfl⟩,
   ⟨dd_168_139, rfl⟩,
   ⟨dd_168_140, rfl⟩,
   Or.inl (Or.inl ⟨dd_168_141, rfl⟩),
   ⟨dd_168_142, rfl⟩,
   ⟨dd_168_143, rfl⟩,
   Or.inl ⟨0, rfl, dd_168_144, rfl⟩,
   ⟨dd_168_145, rfl⟩,
   ⟨105, "PairMachineModel", fT10, 45, dd_168_146, rfl, okc_10, by decide, tw_807⟩,
   Or.inl (Or.inl ⟨dd_168_149, rfl⟩),
   ⟨dd_168_150, rfl⟩,
   ⟨105, "PairMachineModel", fT10, 45, dd_168_151, rfl, okc_10, by decide, tw_807, rfl, Or.inl rfl⟩,
   Or.inl ⟨0, rfl, dd_168_154, rfl⟩,
   Or.inl (Or.inl ⟨dd_168_155, rfl⟩),
   ⟨rfl, tw_808, by decide, tw_12, by decide +kernel, 108, tw_809, dd_168_156, tw_810, ⟨"PairMachineModel", fT10, 45, rfl, tw_811⟩, by decide +kernel⟩,
   Or.inl (Or.inr (Or.inl ⟨dd_168_159, rfl, by decide⟩)),
   ⟨13, dd_168_161, rfl, rfl⟩,
   Or.inl ⟨0, rfl, dd_168_164, rfl⟩,
   ⟨27, "PairMachineModel", fT10, 45, dd_168_165, rfl, okc_10, by decide, tw_781⟩,
   Or.inl ⟨1, rfl, dd_168_168, rfl⟩,
   ⟨dd_168_169, rfl⟩,
   Or.inl (Or.inl ⟨dd_168_170, rfl⟩),
   ⟨25, dd_168_171, rfl, rfl⟩,
   Or.inl ⟨0, rfl, dd_168_174, rfl⟩,
   ⟨rfl, tw_832, by decide, tw_12, by decide +kernel, 135, tw_833, dd_168_175, tw_834, ⟨"PairMachineModel", fT10, 45, rfl, tw_835⟩, by decide +kernel⟩,
   ⟨16, dd_168_178, rfl, rfl⟩,
   Or.inl ⟨0, rfl, dd_168_181, rfl⟩,
   Or.inl (Or.inr (Or.inl ⟨dd_168_182, rfl, by decide⟩)),
   ⟨rfl, tw_813, by decide, tw_12, by decide +kernel, 115, tw_814, dd_168_184, tw_815, ⟨"PairMachineModel", fT10, 45, rfl, tw_816⟩, by decide +kernel⟩,
   ⟨7, dd_168_187, rfl, rfl⟩,
   Or.inl (Or.inl ⟨dd_168_190, rfl⟩),
   ⟨4, dd_168_191, rfl⟩,
   Or.inl (Or.inl ⟨dd_168_194, rfl⟩),
   ⟨dd_168_195, rfl⟩,
   Or.inl ⟨0, rfl, dd_168_196, rfl⟩,
   ⟨dd_168_197, rfl⟩,
   ⟨105, "PairMachineModel", fT10, 45, dd_168_198, rfl, okc_10, by decide, tw_807⟩,
   Or.inl (Or.inl ⟨dd_168_201, rfl⟩),
   ⟨dd_168_202, rfl⟩,
   ⟨105, "PairMachineModel", fT10, 45, dd_168_203, rfl, okc_10, by decide, tw_807, rfl, Or.inl rfl⟩,
   ⟨by decide, dd_168_206, rfl⟩,
   ⟨(-156), dd_168_209, rfl⟩,
   Or.inl (Or.inl ⟨dd_168_212, rfl⟩),
   ⟨dd_168_213, rfl⟩, trivial⟩
theorem okM_168 : mj_okE gG 168 (cM_168, 4, oM_168, hM_168) := ⟨rfl, rfl, by decide +kernel, trivial, okI_168⟩
