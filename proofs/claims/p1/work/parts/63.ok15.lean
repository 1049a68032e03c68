theorem dd_188_0 : decode prog_13_method_34_code 0 = .ok (.aload_n 0, 1) := by decide +kernel
theorem dd_188_1 : decode prog_13_method_34_code 1 = .ok (.iload_n 1, 1) := by decide +kernel
theorem dd_188_2 : decode prog_13_method_34_code 2 = .ok (.ifCond .ge 7, 3) := by decide +kernel
theorem dd_188_5 : decode prog_13_method_34_code 5 = .ok (.iconst 0, 1) := by decide +kernel
theorem dd_188_6 : decode prog_13_method_34_code 6 = .ok (.goto 4, 3) := by decide +kernel
theorem dd_188_9 : decode prog_13_method_34_code 9 = .ok (.iconst 3, 1) := by decide +kernel
theorem dd_188_10 : decode prog_13_method_34_code 10 = .ok (.iload_n 1, 1) := by decide +kernel
theorem dd_188_11 : decode prog_13_method_34_code 11 = .ok (.ifCond .ge 7, 3) := by decide +kernel
theorem dd_188_14 : decode prog_13_method_34_code 14 = .ok (.iconst 0, 1) := by decide +kernel
theorem dd_188_15 : decode prog_13_method_34_code 15 = .ok (.goto 4, 3) := by decide +kernel
theorem dd_188_18 : decode prog_13_method_34_code 18 = .ok (.iload_n 1, 1) := by decide +kernel
theorem dd_188_19 : decode prog_13_method_34_code 19 = .ok (.iload_n 2, 1) := by decide +kernel
theorem dd_188_20 : decode prog_13_method_34_code 20 = .ok (.invokevirtual 207, 3) := by decide +kernel
theorem dd_188_23 : decode prog_13_method_34_code 23 = .ok (.ireturn, 1) := by decide +kernel
set_option maxRecDepth 100000 in
theorem okI_188 : mj_okI gG "PairMachineModel" prog_13_method_34_code 3 (mj_off oM_188) (Option.some Jvm.ClassFile.FieldType.int) false true 0 cM_188 :=
  ⟨Or.inl ⟨0, rfl, dd_188_0, rfl⟩,
   Or.inl ⟨1, rfl, dd_188_1, rfl⟩,
   ⟨7, dd_188_2, rfl, rfl⟩,
   Or.inl (Or.inl ⟨dd_188_5, rfl⟩),
   ⟨4, dd_188_6, rfl⟩,
   Or.inl (Or.inl ⟨dd_188_9, rfl⟩),
   Or.inl ⟨1, rfl, dd_188_10, rfl⟩,
   ⟨7, dd_188_11, rfl, rfl⟩,
   Or.inl (Or.inl ⟨dd_188_14, rfl⟩),
   ⟨4, dd_188_15, rfl⟩,
   Or.inl ⟨1, rfl, dd_188_18, rfl⟩,
   Or.inl ⟨2, rfl, dd_188_19, rfl⟩,
   ⟨rfl, tw_909, by decide, tw_12, by decide +kernel, 207, tw_910, dd_188_20, tw_911, ⟨"PairMachineModel", fT10, 45, rfl, tw_912⟩, by decide +kernel⟩,
   ⟨dd_188_23, rfl⟩, trivial⟩
theorem okM_188 : mj_okE gG 188 (cM_188, 3, oM_188, hM_188) := ⟨rfl, rfl, by decide +kernel, trivial, okI_188⟩
theorem dd_189_0 : decode prog_13_method_35_code 0 = .ok (.iconst (-1), 1) := by decide +kernel
theorem dd_189_1 : decode prog_13_method_35_code 1 = .ok (.istore_n 1, 1) := by decide +kernel
theorem dd_189_2 : decode prog_13_method_35_code 2 = .ok (.aload_n 0, 1) := by decide +kernel
theorem dd_189_3 : decode prog_13_method_35_code 3 = .ok (.iconst 0, 1) := by decide +kernel
theorem dd_189_4 : decode prog_13_method_35_code 4 = .ok (.putfield 211, 3) := by decide +kernel
theorem dd_189_7 : decode prog_13_method_35_code 7 = .ok (.aload_n 0, 1) := by decide +kernel
theorem dd_189_8 : decode prog_13_method_35_code 8 = .ok (.getfield 172, 3) := by decide +kernel
theorem dd_189_11 : decode prog_13_method_35_code 11 = .ok (.iconst 1, 1) := by decide +kernel
theorem dd_189_12 : decode prog_13_method_35_code 12 = .ok (.isub, 1) := by decide +kernel
theorem dd_189_13 : decode prog_13_method_35_code 13 = .ok (.istore_n 2, 1) := by decide +kernel
theorem dd_189_14 : decode prog_13_method_35_code 14 = .ok (.iload_n 2, 1) := by decide +kernel
theorem dd_189_15 : decode prog_13_method_35_code 15 = .ok (.ifCond .lt 100, 3) := by decide +kernel
theorem dd_189_18 : decode prog_13_method_35_code 18 = .ok (.aload_n 0, 1) := by decide +kernel
theorem dd_189_19 : decode prog_13_method_35_code 19 = .ok (.getfield 51, 3) := by decide +kernel
theorem dd_189_22 : decode prog_13_method_35_code 22 = .ok (.iload_n 2, 1) := by decide +kernel
theorem dd_189_23 : decode prog_13_method_35_code 23 = .ok (.iaload, 1) := by decide +kernel
theorem dd_189_24 : decode prog_13_method_35_code 24 = .ok (.iconst 5, 1) := by decide +kernel
theorem dd_189_25 : decode prog_13_method_35_code 25 = .ok (.if_icmp .ne 28, 3) := by decide +kernel
theorem dd_189_28 : decode prog_13_method_35_code 28 = .ok (.aload_n 0, 1) := by decide +kernel
theorem dd_189_29 : decode prog_13_method_35_code 29 = .ok (.getfield 85, 3) := by decide +kernel
theorem dd_189_32 : decode prog_13_method_35_code 32 = .ok (.aload_n 0, 1) := by decide +kernel
theorem dd_189_33 : decode prog_13_method_35_code 33 = .ok (.getfield 211, 3) := by decide +kernel
theorem dd_189_36 : decode prog_13_method_35_code 36 = .ok (.iload_n 1, 1) := by decide +kernel
theorem dd_189_37 : decode prog_13_method_35_code 37 = .ok (.iastore, 1) := by decide +kernel
theorem dd_189_38 : decode prog_13_method_35_code 38 = .ok (.aload_n 0, 1) := by decide +kernel
theorem dd_189_39 : decode prog_13_method_35_code 39 = .ok (.dup, 1) := by decide +kernel
theorem dd_189_40 : decode prog_13_method_35_code 40 = .ok (.getfield 211, 3) := by decide +kernel
theorem dd_189_43 : decode prog_13_method_35_code 43 = .ok (.iconst 1, 1) := by decide +kernel
theorem dd_189_44 : decode prog_13_method_35_code 44 = .ok (.iadd, 1) := by decide +kernel
theorem dd_189_45 : decode prog_13_method_35_code 45 = .ok (.putfield 211, 3) := by decide +kernel
theorem dd_189_48 : decode prog_13_method_35_code 48 = .ok (.iconst (-1), 1) := by decide +kernel
theorem dd_189_49 : decode prog_13_method_35_code 49 = .ok (.istore_n 1, 1) := by decide +kernel
theorem dd_189_50 : decode prog_13_method_35_code 50 = .ok (.goto 59, 3) := by decide +kernel
theorem dd_189_53 : decode prog_13_method_35_code 53 = .ok (.aload_n 0, 1) := by decide +kernel
theorem dd_189_54 : decode prog_13_method_35_code 54 = .ok (.getfield 51, 3) := by decide +kernel
theorem dd_189_57 : decode prog_13_method_35_code 57 = .ok (.iload_n 2, 1) := by decide +kernel
theorem dd_189_58 : decode prog_13_method_35_code 58 = .ok (.iaload, 1) := by decide +kernel
theorem dd_189_59 : decode prog_13_method_35_code 59 = .ok (.iconst 4, 1) := by decide +kernel
theorem dd_189_60 : decode prog_13_method_35_code 60 = .ok (.if_icmp .ne 31, 3) := by decide +kernel
theorem dd_189_63 : decode prog_13_method_35_code 63 = .ok (.aload_n 0, 1) := by decide +kernel
theorem dd_189_64 : decode prog_13_method_35_code 64 = .ok (.dup, 1) := by decide +kernel
theorem dd_189_65 : decode prog_13_method_35_code 65 = .ok (.getfield 211, 3) := by decide +kernel
theorem dd_189_68 : decode prog_13_method_35_code 68 = .ok (.iconst 1, 1) := by decide +kernel
theorem dd_189_69 : decode prog_13_method_35_code 69 = .ok (.isub, 1) := by decide +kernel
theorem dd_189_70 : decode prog_13_method_35_code 70 = .ok (.putfield 211, 3) := by decide +kernel
theorem dd_189_73 : decode prog_13_method_35_code 73 = .ok (.aload_n 0, 1) := by decide +kernel
theorem dd_189_74 : decode prog_13_method_35_code 74 = .ok (.iload_n 1, 1) := by decide +kernel
theorem dd_189_75 : decode prog_13_method_35_code 75 = .ok (.aload_n 0, 1) := by decide +kernel
theorem dd_189_76 : decode prog_13_method_35_code 76 = .ok (.getfield 85, 3) := by decide +kernel
theorem dd_189_79 : decode prog_13_method_35_code 79 = .ok (.aload_n 0, 1) := by decide +kernel
theorem dd_189_80 : decode prog_13_method_35_code 80 = .ok (.getfield 211, 3) := by decide +kernel
theorem dd_189_83 : decode prog_13_method_35_code 83 = .ok (.iaload, 1) := by decide +kernel
theorem dd_189_84 : decode prog_13_method_35_code 84 = .ok (.invokevirtual 214, 3) := by decide +kernel
theorem dd_189_87 : decode prog_13_method_35_code 87 = .ok (.istore_n 1, 1) := by decide +kernel
theorem dd_189_88 : decode prog_13_method_35_code 88 = .ok (.goto 21, 3) := by decide +kernel
theorem dd_189_91 : decode prog_13_method_35_code 91 = .ok (.aload_n 0, 1) := by decide +kernel
theorem dd_189_92 : decode prog_13_method_35_code 92 = .ok (.aload_n 0, 1) := by decide +kernel
theorem dd_189_93 : decode prog_13_method_35_code 93 = .ok (.getfield 51, 3) := by decide +kernel
theorem dd_189_96 : decode prog_13_method_35_code 96 = .ok (.iload_n 2, 1) := by decide +kernel
theorem dd_189_97 : decode prog_13_method_35_code 97 = .ok (.iaload, 1) := by decide +kernel
theorem dd_189_98 : decode prog_13_method_35_code 98 = .ok (.aload_n 0, 1) := by decide +kernel
theorem dd_189_99 : decode prog_13_method_35_code 99 = .ok (.getfield 54, 3) := by decide +kernel
theorem dd_189_102 : decode prog_13_method_35_code 102 = .ok (.iload_n 2, 1) := by decide +kernel
theorem dd_189_103 : decode prog_13_method_35_code 103 = .ok (.iaload, 1) := by decide +kernel
theorem dd_189_104 : decode prog_13_method_35_code 104 = .ok (.iload_n 1, 1) := by decide +kernel
theorem dd_189_105 : decode prog_13_method_35_code 105 = .ok (.invokevirtual 207, 3) := by decide +kernel
theorem dd_189_108 : decode prog_13_method_35_code 108 = .ok (.istore_n 1, 1) := by decide +kernel
theorem dd_189_109 : decode prog_13_method_35_code 109 = .ok (.iinc 2 (-1), 3) := by decide +kernel
theorem dd_189_112 : decode prog_13_method_35_code 112 = .ok (.goto (-98), 3) := by decide +kernel
theorem dd_189_115 : decode prog_13_method_35_code 115 = .ok (.iload_n 1, 1) := by decide +kernel
theorem dd_189_116 : decode prog_13_method_35_code 116 = .ok (.ireturn, 1) := by decide +kernel
set_option maxRecDepth 100000 in
theorem okI_189 : mj_okI gG "PairMachineModel" prog_13_method_35_code 3 (mj_off oM_189) (Option.some Jvm.ClassFile.FieldType.int) false true 0 cM_189 :=
  ⟨Or.inl (Or.inl ⟨dd_189_0, rfl⟩),
   ⟨by decide, Or.inl ⟨1, rfl, dd_189_1, rfl⟩⟩,
   Or.inl ⟨0, rfl, dd_189_2, rfl⟩,
   Or.inl (Or.inl ⟨dd_189_3, rfl⟩),
   ⟨211, "PairMachineModel", fT10, 45, dd_189_4, rfl, okc_10, by decide, tw_913, rfl, Or.inl rfl⟩,
   Or.inl ⟨0, rfl, dd_189_7, rfl⟩,
   ⟨172, "PairMachineModel", fT10, 45, dd_189_8, rfl, okc_10, by decide, tw_875⟩,
   Or.inl (Or.inl ⟨dd_189_11, rfl⟩),
   ⟨dd_189_12, rfl⟩,
   ⟨by decide, Or.inl ⟨2, rfl, dd_189_13, rfl⟩⟩,
   Or.inl ⟨2, rfl, dd_189_14, rfl⟩,
   ⟨100, dd_189_15, rfl, rfl⟩,
   Or.inl ⟨0, rfl, dd_189_18, rfl⟩,
   ⟨51, "PairMachineModel", fT10, 45, dd_189_19, rfl, okc_10, by decide, tw_789⟩,
   Or.inl ⟨2, rfl, dd_189_22, rfl⟩,
   ⟨dd_189_23, rfl⟩,
   Or.inl (Or.inl ⟨dd_189_24, rfl⟩),
   ⟨28, dd_189_25, rfl, rfl⟩,
   Or.inl ⟨0, rfl, dd_189_28, rfl⟩,
   ⟨85, "PairMachineModel", fT10, 45, dd_189_29, rfl, okc_10, by decide, tw_800⟩,
   Or.inl ⟨0, rfl, dd_189_32, rfl⟩,
   ⟨211, "PairMachineModel", fT10, 45, dd_189_33, rfl, okc_10, by decide, tw_913⟩,
   Or.inl ⟨1, rfl, dd_189_36, rfl⟩,
   ⟨dd_189_37, rfl⟩,
   Or.inl ⟨0, rfl, dd_189_38, rfl⟩,
   ⟨dd_189_39, rfl⟩,
   ⟨211, "PairMachineModel", fT10, 45, dd_189_40, rfl, okc_10, by decide, tw_913⟩,
   Or.inl (Or.inl ⟨dd_189_43, rfl⟩),
   ⟨dd_189_44, rfl⟩,
   ⟨211, "PairMachineModel", fT10, 45, dd_189_45, rfl, okc_10, by decide, tw_913, rfl, Or.inl rfl⟩,
   Or.inl (Or.inl ⟨dd_189_48, rfl⟩),
   ⟨by decide, Or.inl ⟨1, rfl, dd_189_49, rfl⟩⟩,
   ⟨59, dd_189_50, rfl⟩,
   Or.inl ⟨0, rfl, dd_189_53, rfl⟩,
   ⟨51, "PairMachineModel", fT10, 45, dd_189_54, rfl, okc_10, by decide, tw_789⟩,
   Or.inl ⟨2, rfl, dd_189_57, rfl⟩,
   ⟨dd_189_58, rfl⟩,
   Or.inl (Or.inl ⟨dd_189_59, rfl⟩),
   ⟨31, dd_189_60, rfl, rfl⟩,
   Or.inl ⟨0, rfl, dd_189_63, rfl⟩,
   ⟨dd_189_64, rfl⟩,
   ⟨211, "PairMachineModel", fT10, 45, dd_189_65, rfl, okc_10, by decide, tw_913⟩,
   Or.inl (Or.inl ⟨dd_189_68, rfl⟩),
   ⟨dd_189_69, rfl⟩,
   ⟨211, "PairMachineModel", fT10, 45, dd_189_70, rfl, okc_10, by decide, tw_913, rfl, Or.inl rfl⟩,
   Or.inl ⟨0, rfl, dd_189_73, rfl⟩,
   Or.inl ⟨1, rfl, dd_189_74, rfl⟩,
   Or.inl ⟨0, rfl, dd_189_75, rfl⟩,
   ⟨85, "PairMachineModel", fT10, 45, dd_189_76, rfl, okc_10, by decide, tw_800⟩,
   Or.inl ⟨0, rfl, dd_189_79, rfl⟩,
   ⟨211, "PairMachineModel", fT10, 45, dd_189_80, rfl, okc_10, by decide, tw_913⟩,
   ⟨dd_189_83, rfl⟩,
   ⟨rfl, tw_914, by decide, tw_12, by decide +kernel, 214, tw_915, dd_189_84, tw_916, ⟨"PairMachineModel", fT10, 45, rfl, tw_917⟩, by decide +kernel⟩,
   ⟨by decide, Or.inl ⟨1, rfl, dd_189_87, rfl⟩⟩,
   ⟨21, dd_189_88, rfl⟩,
   Or.inl ⟨0, rfl, dd_189_91, rfl⟩,
   Or.inl ⟨0, rfl, dd_189_92, rfl⟩,
   ⟨51, "PairMachineModel", fT10, 45, dd_189_93, rfl, okc_10, by decide, tw_789⟩,
   Or.inl ⟨2, rfl, dd_189_96, rfl⟩,
   ⟨dd_189_97, rfl⟩,
   Or.inl ⟨0, rfl, dd_189_98, rfl⟩,
   ⟨54, "PairMachineModel", fT10, 45, dd_189_99, rfl, okc_10, by decide, tw_790⟩,
   Or.inl ⟨2, rfl, dd_189_102, rfl⟩,
   ⟨dd_189_103, rfl⟩,
   Or.inl ⟨1, rfl, dd_189_104, rfl⟩,
   ⟨rfl, tw_909, by decide, tw_12, by decide +kernel, 207, tw_910, dd_189_105, tw_911, ⟨"PairMachineModel", fT10, 45, rfl, tw_912⟩, by decide +kernel⟩,
   ⟨by decide, Or.inl ⟨1, rfl, dd_189_108, rfl⟩⟩,
   ⟨by decide, dd_189_109, rfl⟩,
   ⟨(-98), dd_189_112, rfl⟩,
   Or.inl ⟨1, rfl, dd_189_115, rfl⟩,
   ⟨dd_189_116, rfl⟩, trivial⟩
theorem okM_189 : mj_okE gG 189 (cM_189, 3, oM_189, hM_189) := ⟨rfl, rfl, by decide +kernel, trivial, okI_189⟩
theorem dd_190_0 : decode prog_13_method_36_code 0 = .ok (.iload_n 1, 1) := by decide +kernel
theorem dd_190_1 : decode prog_13_method_36_code 1 = .ok (.iconst 3, 1) := by decide +kernel
theorem dd_190_2 : decode prog_13_method_36_code 2 = .ok (.if_icmp .ne 39, 3) := by decide +kernel
theorem dd_190_5 : decode prog_13_method_36_code 5 = .ok (.aload_n 0, 1) := by decide +kernel
theorem dd_190_6 : decode prog_13_method_36_code 6 = .ok (.getfield 82, 3) := by decide +kernel
theorem dd_190_9 : decode prog_13_method_36_code 9 = .ok (.iload_n 2, 1) := by decide +kernel
theorem dd_190_10 : decode prog_13_method_36_code 10 = .ok (.baload, 1) := by decide +kernel
theorem dd_190_11 : decode prog_13_method_36_code 11 = .ok (.ifCond .ne 30, 3) := by decide +kernel
theorem dd_190_14 : decode prog_13_method_36_code 14 = .ok (.aload_n 0, 1) := by decide +kernel
theorem dd_190_15 : decode prog_13_method_36_code 15 = .ok (.getfield 82, 3) := by decide +kernel
theorem dd_190_18 : decode prog_13_method_36_code 18 = .ok (.iload_n 2, 1) := by decide +kernel
theorem dd_190_19 : decode prog_13_method_36_code 19 = .ok (.iconst 1, 1) := by decide +kernel
theorem dd_190_20 : decode prog_13_method_36_code 20 = .ok (.bastore, 1) := by decide +kernel
theorem dd_190_21 : decode prog_13_method_36_code 21 = .ok (.aload_n 0, 1) := by decide +kernel
theorem dd_190_22 : decode prog_13_method_36_code 22 = .ok (.getfield 85, 3) := by decide +kernel
theorem dd_190_25 : decode prog_13_method_36_code 25 = .ok (.aload_n 0, 1) := by decide +kernel
theorem dd_190_26 : decode prog_13_method_36_code 26 = .ok (.getfield 211, 3) := by decide +kernel
theorem dd_190_29 : decode prog_13_method_36_code 29 = .ok (.iload_n 2, 1) := by decide +kernel
theorem dd_190_30 : decode prog_13_method_36_code 30 = .ok (.iastore, 1) := by decide +kernel
theorem dd_190_31 : decode prog_13_method_36_code 31 = .ok (.aload_n 0, 1) := by decide +kernel
theorem dd_190_32 : decode prog_13_method_36_code 32 = .ok (.dup, 1) := by decide +kernel
theorem dd_190_33 : decode prog_13_method_36_code 33 = .ok (.getfield 211, 3) := by decide +kernel
theorem dd_190_36 : decode prog_13_method_36_code 36 = .ok (.iconst 1, 1) := by decide +kernel
theorem dd_190_37 : decode prog_13_method_36_code 37 = .ok (.iadd, 1) := by decide +kernel
theorem dd_190_38 : decode prog_13_method_36_code 38 = .ok (.putfield 211, 3) := by decide +kernel
theorem dd_190_41 : decode prog_13_method_36_code 41 = .ok (.return_, 1) := by decide +kernel
set_option maxRecDepth 100000 in
theorem okI_190 : mj_okI gG "PairMachineModel" prog_13_method_36_code 3 (mj_off oM_190) (Option.none : Option Jvm.ClassFile.FieldType) false true 0 cM_190 :=
  ⟨Or.inl ⟨1, rfl, dd_190_0, rfl⟩,
   Or.inl (Or.inl ⟨dd_190_1, rfl⟩),
   ⟨39, dd_190_2, rfl, rfl⟩,
   Or.inl ⟨0, rfl, dd_190_5, rfl⟩,
   ⟨82, "PairMachineModel", fT10, 45, dd_190_6, rfl, okc_10, by decide, tw_799⟩,
   Or.inl ⟨2, rfl, dd_190_9, rfl⟩,
   ⟨dd_190_10, rfl⟩,
   ⟨30, dd_190_11, rfl, rfl⟩,
   Or.inl ⟨0, rfl, dd_190_14, rfl⟩,
   ⟨82, "PairMachineModel", fT10, 45, dd_190_15, rfl, okc_10, by decide, tw_799⟩,
   Or.inl ⟨2, rfl, dd_190_18, rfl⟩,
   Or.inl (Or.inl ⟨dd_190_19, rfl⟩),
   ⟨dd_190_20, rfl⟩,
   Or.inl ⟨0, rfl, dd_190_21, rfl⟩,
   ⟨85, "PairMachineModel", fT10, 45, dd_190_22, rfl, okc_10, by decide, tw_800⟩,
   Or.inl ⟨0, rfl, dd_190_25, rfl⟩,
   ⟨211, "PairMachineModel", fT10, 45, dd_190_26, rfl, okc_10, by decide, tw_913⟩,
   Or.inl ⟨2, rfl, dd_190_29, rfl⟩,
   ⟨dd_190_30, rfl⟩,
   Or.inl ⟨0, rfl, dd_190_31, rfl⟩,
   ⟨dd_190_32, rfl⟩,
   ⟨211, "PairMachineModel", fT10, 45, dd_190_33, rfl, okc_10, by decide, tw_913⟩,
   Or.inl (Or.inl ⟨dd_190_36, rfl⟩),
   ⟨dd_190_37, rfl⟩,
   ⟨211, "PairMachineModel", fT10, 45, dd_190_38, rfl, okc_10, by decide, tw_913, rfl, Or.inl rfl⟩,
   ⟨dd_190_41, rfl⟩, trivial⟩
theorem okM_190 : mj_okE gG 190 (cM_190, 3, oM_190, hM_190) := ⟨rfl, rfl, by decide +kernel, trivial, okI_190⟩
theorem dd_191_0 : decode prog_13_method_37_code 0 = .ok (.iconst 0, 1) := by decide +kernel
theorem dd_191_1 : decode prog_13_method_37_code 1 = .ok (.istore_n 1, 1) := by decide +kernel
theorem dd_191_2 : decode prog_13_method_37_code 2 = .ok (.iload_n 1, 1) := by decide +kernel
theorem dd_191_3 : decode prog_13_method_37_code 3 = .ok (.aload_n 0, 1) := by decide +kernel
theorem dd_191_4 : decode prog_13_method_37_code 4 = .ok (.getfield 94, 3) := by decide +kernel
theorem dd_191_7 : decode prog_13_method_37_code 7 = .ok (.if_icmp .ge 16, 3) := by decide +kernel
theorem dd_191_10 : decode prog_13_method_37_code 10 = .ok (.aload_n 0, 1) := by decide +kernel
theorem dd_191_11 : decode prog_13_method_37_code 11 = .ok (.getfield 82, 3) := by decide +kernel
theorem dd_191_14 : decode prog_13_method_37_code 14 = .ok (.iload_n 1, 1) := by decide +kernel
theorem dd_191_15 : decode prog_13_method_37_code 15 = .ok (.iconst 0, 1) := by decide +kernel
theorem dd_191_16 : decode prog_13_method_37_code 16 = .ok (.bastore, 1) := by decide +kernel
theorem dd_191_17 : decode prog_13_method_37_code 17 = .ok (.iinc 1 1, 3) := by decide +kernel
theorem dd_191_20 : decode prog_13_method_37_code 20 = .ok (.goto (-18), 3) := by decide +kernel
theorem dd_191_23 : decode prog_13_method_37_code 23 = .ok (.aload_n 0, 1) := by decide +kernel
theorem dd_191_24 : decode prog_13_method_37_code 24 = .ok (.iconst 0, 1) := by decide +kernel
theorem dd_191_25 : decode prog_13_method_37_code 25 = .ok (.putfield 211, 3) := by decide +kernel
theorem dd_191_28 : decode prog_13_method_37_code 28 = .ok (.iconst 0, 1) := by decide +kernel
theorem dd_191_29 : decode prog_13_method_37_code 29 = .ok (.istore_n 1, 1) := by decide +kernel
theorem dd_191_30 : decode prog_13_method_37_code 30 = .ok (.iload_n 1, 1) := by decide +kernel
theorem dd_191_31 : decode prog_13_method_37_code 31 = .ok (.iconst 5, 1) := by decide +kernel
theorem dd_191_32 : decode prog_13_method_37_code 32 = .ok (.if_icmp .ge 33, 3) := by decide +kernel
theorem dd_191_35 : decode prog_13_method_37_code 35 = .ok (.aload_n 0, 1) := by decide +kernel
theorem dd_191_36 : decode prog_13_method_37_code 36 = .ok (.aload_n 0, 1) := by decide +kernel
theorem dd_191_37 : decode prog_13_method_37_code 37 = .ok (.getfield 88, 3) := by decide +kernel
theorem dd_191_40 : decode prog_13_method_37_code 40 = .ok (.iload_n 1, 1) := by decide +kernel
theorem dd_191_41 : decode prog_13_method_37_code 41 = .ok (.iaload, 1) := by decide +kernel
theorem dd_191_42 : decode prog_13_method_37_code 42 = .ok (.ifCond .ge 7, 3) := by decide +kernel
theorem dd_191_45 : decode prog_13_method_37_code 45 = .ok (.iconst 0, 1) := by decide +kernel
theorem dd_191_46 : decode prog_13_method_37_code 46 = .ok (.goto 4, 3) := by decide +kernel
theorem dd_191_49 : decode prog_13_method_37_code 49 = .ok (.iconst 3, 1) := by decide +kernel
theorem dd_191_50 : decode prog_13_method_37_code 50 = .ok (.aload_n 0, 1) := by decide +kernel
theorem dd_191_51 : decode prog_13_method_37_code 51 = .ok (.getfield 88, 3) := by decide +kernel
theorem dd_191_54 : decode prog_13_method_37_code 54 = .ok (.iload_n 1, 1) := by decide +kernel
theorem dd_191_55 : decode prog_13_method_37_code 55 = .ok (.iaload, 1) := by decide +kernel
theorem dd_191_56 : decode prog_13_method_37_code 56 = .ok (.invokevirtual 217, 3) := by decide +kernel
theorem dd_191_59 : decode prog_13_method_37_code 59 = .ok (.iinc 1 1, 3) := by decide +kernel
theorem dd_191_62 : decode prog_13_method_37_code 62 = .ok (.goto (-32), 3) := by decide +kernel
theorem dd_191_65 : decode prog_13_method_37_code 65 = .ok (.iconst 0, 1) := by decide +kernel
theorem dd_191_66 : decode prog_13_method_37_code 66 = .ok (.istore_n 1, 1) := by decide +kernel
theorem dd_191_67 : decode prog_13_method_37_code 67 = .ok (.aload_n 0, 1) := by decide +kernel
theorem dd_191_68 : decode prog_13_method_37_code 68 = .ok (.getfield 211, 3) := by decide +kernel
theorem dd_191_71 : decode prog_13_method_37_code 71 = .ok (.ifCond .le 61, 3) := by decide +kernel
theorem dd_191_74 : decode prog_13_method_37_code 74 = .ok (.aload_n 0, 1) := by decide +kernel
theorem dd_191_75 : decode prog_13_method_37_code 75 = .ok (.dup, 1) := by decide +kernel
theorem dd_191_76 : decode prog_13_method_37_code 76 = .ok (.getfield 211, 3) := by decide +kernel
theorem dd_191_79 : decode prog_13_method_37_code 79 = .ok (.iconst 1, 1) := by decide +kernel
theorem dd_191_80 : decode prog_13_method_37_code 80 = .ok (.isub, 1) := by decide +kernel
theorem dd_191_81 : decode prog_13_method_37_code 81 = .ok (.putfield 211, 3) := by decide +kernel
theorem dd_191_84 : decode prog_13_method_37_code 84 = .ok (.aload_n 0, 1) := by decide +kernel
theorem dd_191_85 : decode prog_13_method_37_code 85 = .ok (.getfield 85, 3) := by decide +kernel
theorem dd_191_88 : decode prog_13_method_37_code 88 = .ok (.aload_n 0, 1) := by decide +kernel
theorem dd_191_89 : decode prog_13_method_37_code 89 = .ok (.getfield 211, 3) := by decide +kernel
theorem dd_191_92 : decode prog_13_method_37_code 92 = .ok (.iaload, 1) := by decide +kernel
theorem dd_191_93 : decode prog_13_method_37_code 93 = .ok (.istore_n 2, 1) := by decide +kernel
theorem dd_191_94 : decode prog_13_method_37_code 94 = .ok (.iinc 1 1, 3) := by decide +kernel
theorem dd_191_97 : decode prog_13_method_37_code 97 = .ok (.aload_n 0, 1) := by decide +kernel
theorem dd_191_98 : decode prog_13_method_37_code 98 = .ok (.aload_n 0, 1) := by decide +kernel
theorem dd_191_99 : decode prog_13_method_37_code 99 = .ok (.getfield 70, 3) := by decide +kernel
theorem dd_191_102 : decode prog_13_method_37_code 102 = .ok (.iload_n 2, 1) := by decide +kernel
theorem dd_191_103 : decode prog_13_method_37_code 103 = .ok (.iaload, 1) := by decide +kernel
theorem dd_191_104 : decode prog_13_method_37_code 104 = .ok (.aload_n 0, 1) := by decide +kernel
theorem dd_191_105 : decode prog_13_method_37_code 105 = .ok (.getfield 73, 3) := by decide +kernel
theorem dd_191_108 : decode prog_13_method_37_code 108 = .ok (.iload_n 2, 1) := by decide +kernel
theorem dd_191_109 : decode prog_13_method_37_code 109 = .ok (.iaload, 1) := by decide +kernel
theorem dd_191_110 : decode prog_13_method_37_code 110 = .ok (.invokevirtual 217, 3) := by decide +kernel
theorem dd_191_113 : decode prog_13_method_37_code 113 = .ok (.aload_n 0, 1) := by decide +kernel
theorem dd_191_114 : decode prog_13_method_37_code 114 = .ok (.aload_n 0, 1) := by decide +kernel
theorem dd_191_115 : decode prog_13_method_37_code 115 = .ok (.getfield 76, 3) := by decide +kernel
theorem dd_191_118 : decode prog_13_method_37_code 118 = .ok (.iload_n 2, 1) := by decide +kernel
theorem dd_191_119 : decode prog_13_method_37_code 119 = .ok (.iaload, 1) := by decide +kernel
theorem dd_191_120 : decode prog_13_method_37_code 120 = .ok (.aload_n 0, 1) := by decide +kernel
theorem dd_191_121 : decode prog_13_method_37_code 121 = .ok (.getfield 79, 3) := by decide +kernel
theorem dd_191_124 : decode prog_13_method_37_code 124 = .ok (.iload_n 2, 1) := by decide +kernel
theorem dd_191_125 : decode prog_13_method_37_code 125 = .ok (.iaload, 1) := by decide +kernel
theorem dd_191_126 : decode prog_13_method_37_code 126 = .ok (.invokevirtual 217, 3) := by decide +kernel
theorem dd_191_129 : decode prog_13_method_37_code 129 = .ok (.goto (-62), 3) := by decide +kernel
theorem dd_191_132 : decode prog_13_method_37_code 132 = .ok (.iload_n 1, 1) := by decide +kernel
theorem dd_191_133 : decode prog_13_method_37_code 133 = .ok (.ireturn, 1) := by decide +kernel
set_option maxRecDepth 100000 in
theorem okI_191 : mj_okI gG "PairMachineModel" prog_13_method_37_code 3 (mj_off oM_191) (Option.some Jvm.ClassFile.FieldType.int) false true 0 cM_191 :=
  ⟨Or.inl (Or.inl ⟨dd_191_0, rfl⟩),
   ⟨by decide, Or.inl ⟨1, rfl, dd_191_1, rfl⟩⟩,
   Or.inl ⟨1, rfl, dd_191_2, rfl⟩,
   Or.inl ⟨0, rfl, dd_191_3, rfl⟩,
   ⟨94, "PairMachineModel", fT10, 45, dd_191_4, rfl, okc_10, by decide, tw_803⟩,
   ⟨16, dd_191_7, rfl, rfl⟩,
   Or.inl ⟨0, rfl, dd_191_10, rfl⟩,
   ⟨82, "PairMachineModel", fT10, 45, dd_191_11, rfl, okc_10, by decide, tw_799⟩,
   Or.inl ⟨1, rfl, dd_191_14, rfl⟩,
   Or.inl (Or.inl ⟨dd_191_15, rfl⟩),
   ⟨dd_191_16, rfl⟩,
   ⟨by decide, dd_191_17, rfl⟩,
   ⟨(-18), dd_191_20, rfl⟩,
   Or.inl ⟨0, rfl, dd_191_23, rfl⟩,
   Or.inl (Or.inl ⟨dd_191_24, rfl⟩),
   ⟨211, "PairMachineModel", fT10, 45, dd_191_25, rfl, okc_10, by decide, tw_913, rfl, Or.inl rfl⟩,
   Or.inl (Or.inl ⟨dd_191_28, rfl⟩),
   ⟨by decide, Or.inl ⟨1, rfl, dd_191_29, rfl⟩⟩,
   Or.inl ⟨1, rfl, dd_191_30, rfl⟩,
   Or.inl (Or.inl ⟨dd_191_31, rfl⟩),
   ⟨33, dd_191_32, rfl, rfl⟩,
   Or.inl ⟨0, rfl, dd_191_35, rfl⟩,
   Or.inl ⟨0, rfl, dd_191_36, rfl⟩,
   ⟨88, "PairMachineModel", fT10, 45, dd_191_37, rfl, okc_10, by decide, tw_801⟩,
   Or.inl ⟨1, rfl, dd_191_40, rfl⟩,
   ⟨dd_191_41, rfl⟩,
   ⟨7, dd_191_42, rfl, rfl⟩,
   Or.inl (Or.inl ⟨dd_191_45, rfl⟩),
   ⟨4, dd_191_46, rfl⟩,
   Or.inl (Or.inl ⟨dd_191_49, rfl⟩),
   Or.inl ⟨0, rfl, dd_191_50, rfl⟩,
   ⟨88, "PairMachineModel", fT10, 45, dd_191_51, rfl, okc_10, by decide, tw_801⟩,
   Or.inl ⟨1, rfl, dd_191_54, rfl⟩,
   ⟨dd_191_55, rfl⟩,
   ⟨rfl, tw_918, by decide, tw_12, by decide +kernel, 217, tw_919, dd_191_56, tw_920, ⟨"PairMachineModel", fT10, 45, rfl, tw_921⟩, by decide +kernel⟩,
   ⟨by decide, dd_191_59, rfl⟩,
   ⟨(-32), dd_191_62, rfl⟩,
   Or.inl (Or.inl ⟨dd_191_65, rfl⟩),
   ⟨by decide, Or.inl ⟨1, rfl, dd_191_66, rfl⟩⟩,
   Or.inl ⟨0, rfl, dd_191_67, rfl⟩,
   ⟨211, "PairMachineModel", fT10, 45, dd_191_68, rfl, okc_10, by decide, tw_913⟩,
   ⟨61, dd_191_71, rfl, rfl⟩,
   Or.inl ⟨0, rfl, dd_191_74, rfl⟩,
   ⟨dd_191_75, rfl⟩,
   ⟨211, "PairMachineModel", fT10, 45, dd_191_76, rfl, okc_10, by decide, tw_913⟩,
   Or.inl (Or.inl ⟨dd_191_79, rfl⟩),
   ⟨dd_191_80, rfl⟩,
   ⟨211, "PairMachineModel", fT10, 45, dd_191_81, rfl, okc_10, by decide, tw_913, rfl, Or.inl rfl⟩,
   Or.inl ⟨0, rfl, dd_191_84, rfl⟩,
   ⟨85, "PairMachineModel", fT10, 45, dd_191_85, rfl, okc_10, by decide, tw_800⟩,
   Or.inl ⟨0, rfl, dd_191_88, rfl⟩,
   ⟨211, "PairMachineModel", fT10, 45, dd_191_89, rfl, okc_10, by decide, tw_913⟩,
   ⟨dd_191_92, rfl⟩,
   ⟨by decide, Or.inl ⟨2, rfl, dd_191_93, rfl⟩⟩,
   ⟨by decide, dd_191_94, rfl⟩,
   Or.inl ⟨0, rfl, dd_191_97, rfl⟩,
   Or.inl ⟨0, rfl, dd_191_98, rfl⟩,
   ⟨70, "PairMachineModel", fT10, 45, dd_191_99, rfl, okc_10, by decide, tw_795⟩,
   Or.inl ⟨2, rfl, dd_191_102, rfl⟩,
   ⟨dd_191_103, rfl⟩,
   Or.inl ⟨0, rfl, dd_191_104, rfl⟩,
   ⟨73, "PairMachineModel", fT10, 45, dd_191_105, rfl, okc_10, by decide, tw_796⟩,
   Or.inl ⟨2, rfl, dd_191_108, rfl⟩,
   ⟨dd_191_109, rfl⟩,
   ⟨rfl, tw_918, by decide, tw_12, by decide +kernel, 217, tw_919, dd_191_110, tw_920, ⟨"PairMachineModel", fT10, 45, rfl, tw_921⟩, by decide +kernel⟩,
   Or.inl ⟨0, rfl, dd_191_113, rfl⟩,
   Or.inl ⟨0, rfl, dd_191_114, rfl⟩,
   ⟨76, "PairMachineModel", fT10, 45, dd_191_115, rfl, okc_10, by decide, tw_797⟩,
   Or.inl ⟨2, rfl, dd_191_118, rfl⟩,
   ⟨dd_191_119, rfl⟩,
   Or.inl ⟨0, rfl, dd_191_120, rfl⟩,
   ⟨79, "PairMachineModel", fT10, 45, dd_191_121, rfl, okc_10, by decide, tw_798⟩,
   Or.inl ⟨2, rfl, dd_191_124, rfl⟩,
   ⟨dd_191_125, rfl⟩,
   ⟨rfl, tw_918, by decide, tw_12, by decide +kernel, 217, tw_919, dd_191_126, tw_920, ⟨"PairMachineModel", fT10, 45, rfl, tw_921⟩, by decide +kernel⟩,
   ⟨(-62), dd_191_129, rfl⟩,
   Or.inl ⟨1, rfl, dd_191_132, rfl⟩,
   ⟨dd_191_133, rfl⟩, trivial⟩
theorem okM_191 : mj_okE gG 191 (cM_191, 3, oM_191, hM_191) := ⟨rfl, rfl, by decide +kernel, trivial, okI_191⟩
theorem dd_192_0 : decode prog_13_method_38_code 0 = .ok (.aload_n 0, 1) := by decide +kernel
theorem dd_192_1 : decode prog_13_method_38_code 1 = .ok (.invokevirtual 220, 3) := by decide +kernel
theorem dd_192_4 : decode prog_13_method_38_code 4 = .ok (.istore_n 1, 1) := by decide +kernel
theorem dd_192_5 : decode prog_13_method_38_code 5 = .ok (.iconst 0, 1) := by decide +kernel
theorem dd_192_6 : decode prog_13_method_38_code 6 = .ok (.istore_n 2, 1) := by decide +kernel
theorem dd_192_7 : decode prog_13_method_38_code 7 = .ok (.iconst 0, 1) := by decide +kernel
theorem dd_192_8 : decode prog_13_method_38_code 8 = .ok (.istore_n 3, 1) := by decide +kernel
theorem dd_192_9 : decode prog_13_method_38_code 9 = .ok (.iload_n 3, 1) := by decide +kernel
theorem dd_192_10 : decode prog_13_method_38_code 10 = .ok (.aload_n 0, 1) := by decide +kernel
theorem dd_192_11 : decode prog_13_method_38_code 11 = .ok (.getfield 94, 3) := by decide +kernel
theorem dd_192_14 : decode prog_13_method_38_code 14 = .ok (.if_icmp .ge 47, 3) := by decide +kernel
theorem dd_192_17 : decode prog_13_method_38_code 17 = .ok (.aload_n 0, 1) := by decide +kernel
theorem dd_192_18 : decode prog_13_method_38_code 18 = .ok (.getfield 63, 3) := by decide +kernel
theorem dd_192_21 : decode prog_13_method_38_code 21 = .ok (.iload_n 3, 1) := by decide +kernel
theorem dd_192_22 : decode prog_13_method_38_code 22 = .ok (.baload, 1) := by decide +kernel
theorem dd_192_23 : decode prog_13_method_38_code 23 = .ok (.ifCond .eq 18, 3) := by decide +kernel
theorem dd_192_26 : decode prog_13_method_38_code 26 = .ok (.aload_n 0, 1) := by decide +kernel
theorem dd_192_27 : decode prog_13_method_38_code 27 = .ok (.getfield 82, 3) := by decide +kernel
theorem dd_192_30 : decode prog_13_method_38_code 30 = .ok (.iload_n 3, 1) := by decide +kernel
theorem dd_192_31 : decode prog_13_method_38_code 31 = .ok (.baload, 1) := by decide +kernel
theorem dd_192_32 : decode prog_13_method_38_code 32 = .ok (.ifCond .ne 9, 3) := by decide +kernel
theorem dd_192_35 : decode prog_13_method_38_code 35 = .ok (.iload_n 2, 1) := by decide +kernel
theorem dd_192_36 : decode prog_13_method_38_code 36 = .ok (.iconst 1, 1) := by decide +kernel
theorem dd_192_37 : decode prog_13_method_38_code 37 = .ok (.iadd, 1) := by decide +kernel
theorem dd_192_38 : decode prog_13_method_38_code 38 = .ok (.goto 4, 3) := by decide +kernel
theorem dd_192_41 : decode prog_13_method_38_code 41 = .ok (.iload_n 2, 1) := by decide +kernel
theorem dd_192_42 : decode prog_13_method_38_code 42 = .ok (.istore_n 2, 1) := by decide +kernel
theorem dd_192_43 : decode prog_13_method_38_code 43 = .ok (.aload_n 0, 1) := by decide +kernel
theorem dd_192_44 : decode prog_13_method_38_code 44 = .ok (.getfield 63, 3) := by decide +kernel
theorem dd_192_47 : decode prog_13_method_38_code 47 = .ok (.iload_n 3, 1) := by decide +kernel
theorem dd_192_48 : decode prog_13_method_38_code 48 = .ok (.aload_n 0, 1) := by decide +kernel
theorem dd_192_49 : decode prog_13_method_38_code 49 = .ok (.getfield 82, 3) := by decide +kernel
theorem dd_192_52 : decode prog_13_method_38_code 52 = .ok (.iload_n 3, 1) := by decide +kernel
theorem dd_192_53 : decode prog_13_method_38_code 53 = .ok (.baload, 1) := by decide +kernel
theorem dd_192_54 : decode prog_13_method_38_code 54 = .ok (.bastore, 1) := by decide +kernel
theorem dd_192_55 : decode prog_13_method_38_code 55 = .ok (.iinc 3 1, 3) := by decide +kernel
theorem dd_192_58 : decode prog_13_method_38_code 58 = .ok (.goto (-49), 3) := by decide +kernel
theorem dd_192_61 : decode prog_13_method_38_code 61 = .ok (.iload_n 1, 1) := by decide +kernel
theorem dd_192_62 : decode prog_13_method_38_code 62 = .ok (.ifCond .lt 7, 3) := by decide +kernel
theorem dd_192_65 : decode prog_13_method_38_code 65 = .ok (.iload_n 2, 1) := by decide +kernel
theorem dd_192_66 : decode prog_13_method_38_code 66 = .ok (.goto 4, 3) := by decide +kernel
theorem dd_192_69 : decode prog_13_method_38_code 69 = .ok (.iconst 0, 1) := by decide +kernel
theorem dd_192_70 : decode prog_13_method_38_code 70 = .ok (.ireturn, 1) := by decide +kernel
set_option maxRecDepth 100000 in
theorem okI_192 : mj_okI gG "PairMachineModel" prog_13_method_38_code 4 (mj_off oM_192) (Option.some Jvm.ClassFile.FieldType.int) false true 0 cM_192 :=
  ⟨Or.inl ⟨0, rfl, dd_192_0, rfl⟩,
   ⟨rfl, tw_922, by decide, tw_12, by decide +kernel, 220, tw_923, dd_192_1, tw_924, ⟨"PairMachineModel", fT10, 45, rfl, tw_925⟩, by decide +kernel⟩,
   ⟨by decide, Or.inl ⟨1, rfl, dd_192_4, rfl⟩⟩,
   Or.inl (Or.inl ⟨dd_192_5, rfl⟩),
   ⟨by decide, Or.inl ⟨2, rfl, dd_192_6, rfl⟩⟩,
   Or.inl (Or.inl ⟨dd_192_7, rfl⟩),
   ⟨by decide, Or.inl ⟨3, rfl, dd_192_8, rfl⟩⟩,
   Or.inl ⟨3, rfl, dd_192_9, rfl⟩,
   Or.inl ⟨0, rfl, dd_192_10, rfl⟩,
   ⟨94, "PairMachineModel", fT10, 45, dd_192_11, rfl, okc_10, by decide, tw_803⟩,
   ⟨47, dd_192_14, rfl, rfl⟩,
   Or.inl ⟨0, rfl, dd_192_17, rfl⟩,
   ⟨63, "PairMachineModel", fT10, 45, dd_192_18, rfl, okc_10, by decide, tw_793⟩,
   Or.inl ⟨3, rfl, dd_192_21, rfl⟩,
   ⟨dd_192_22, rfl⟩,
   ⟨18, dd_192_23, rfl, rfl⟩,
   Or.inl ⟨0, rfl, dd_192_26, rfl⟩,
   ⟨82, "PairMachineModel", fT10, 45, dd_192_27, rfl, okc_10, by decide, tw_799⟩,
   Or.inl ⟨3, rfl, dd_192_30, rfl⟩,
   ⟨dd_192_31, rfl⟩,
   ⟨9, dd_192_32, rfl, rfl⟩,
   Or.inl ⟨2, rfl, dd_192_35, rfl⟩,
   Or.inl (Or.inl ⟨dd_192_36, rfl⟩),
   ⟨dd_192_37, rfl⟩,
   ⟨4, dd_192_38, rfl⟩,
   Or.inl ⟨2, rfl, dd_192_41, rfl⟩,
   ⟨by decide, Or.inl ⟨2, rfl, dd_192_42, rfl⟩⟩,
   Or.inl ⟨0, rfl, dd_192_43, rfl⟩,
   ⟨63, "PairMachineModel", fT10, 45, dd_192_44, rfl, okc_10, by decide, tw_793⟩,
   Or.inl ⟨3, rfl, dd_192_47, rfl⟩,
   Or.inl ⟨0, rfl, dd_192_48, rfl⟩,
   ⟨82, "PairMachineModel", fT10, 45, dd_192_49, rfl, okc_10, by decide, tw_799⟩,
   Or.inl ⟨3, rfl, dd_192_52, rfl⟩,
   ⟨dd_192_53, rfl⟩,
   ⟨dd_192_54, rfl⟩,
   ⟨by decide, dd_192_55, rfl⟩,
   ⟨(-49), dd_192_58, rfl⟩,
   Or.inl ⟨1, rfl, dd_192_61, rfl⟩,
   ⟨7, dd_192_62, rfl, rfl⟩,
   Or.inl ⟨2, rfl, dd_192_65, rfl⟩,
   ⟨4, dd_192_66, rfl⟩,
   Or.inl (Or.inl ⟨dd_192_69, rfl⟩),
   ⟨dd_192_70, rfl⟩, trivial⟩
theorem okM_192 : mj_okE gG 192 (cM_192, 4, oM_192, hM_192) := ⟨rfl, rfl, by decide +kernel, trivial, okI_192⟩
theorem dd_193_0 : decode prog_13_method_39_code 0 = .ok (.aload_n 0, 1) := by decide +kernel
theorem dd_193_1 : decode prog_13_method_39_code 1 = .ok (.invokevirtual 224, 3) := by decide +kernel
theorem dd_193_4 : decode prog_13_method_39_code 4 = .ok (.istore_n 1, 1) := by decide +kernel
theorem dd_193_5 : decode prog_13_method_39_code 5 = .ok (.aload_n 0, 1) := by decide +kernel
theorem dd_193_6 : decode prog_13_method_39_code 6 = .ok (.iload_n 1, 1) := by decide +kernel
theorem dd_193_7 : decode prog_13_method_39_code 7 = .ok (.ifCond .eq 10, 3) := by decide +kernel
theorem dd_193_10 : decode prog_13_method_39_code 10 = .ok (.aload_n 0, 1) := by decide +kernel
theorem dd_193_11 : decode prog_13_method_39_code 11 = .ok (.invokevirtual 227, 3) := by decide +kernel
theorem dd_193_14 : decode prog_13_method_39_code 14 = .ok (.goto 7, 3) := by decide +kernel
theorem dd_193_17 : decode prog_13_method_39_code 17 = .ok (.aload_n 0, 1) := by decide +kernel
theorem dd_193_18 : decode prog_13_method_39_code 18 = .ok (.getfield 105, 3) := by decide +kernel
theorem dd_193_21 : decode prog_13_method_39_code 21 = .ok (.putfield 13, 3) := by decide +kernel
theorem dd_193_24 : decode prog_13_method_39_code 24 = .ok (.aload_n 0, 1) := by decide +kernel
theorem dd_193_25 : decode prog_13_method_39_code 25 = .ok (.aload_n 0, 1) := by decide +kernel
theorem dd_193_26 : decode prog_13_method_39_code 26 = .ok (.getfield 13, 3) := by decide +kernel
theorem dd_193_29 : decode prog_13_method_39_code 29 = .ok (.ifCond .lt 7, 3) := by decide +kernel
theorem dd_193_32 : decode prog_13_method_39_code 32 = .ok (.iconst 1, 1) := by decide +kernel
theorem dd_193_33 : decode prog_13_method_39_code 33 = .ok (.goto 4, 3) := by decide +kernel
theorem dd_193_36 : decode prog_13_method_39_code 36 = .ok (.iconst 0, 1) := by decide +kernel
theorem dd_193_37 : decode prog_13_method_39_code 37 = .ok (.putfield 97, 3) := by decide +kernel
theorem dd_193_40 : decode prog_13_method_39_code 40 = .ok (.aload_n 0, 1) := by decide +kernel
theorem dd_193_41 : decode prog_13_method_39_code 41 = .ok (.getfield 97, 3) := by decide +kernel
theorem dd_193_44 : decode prog_13_method_39_code 44 = .ok (.ifCond .ne 27, 3) := by decide +kernel
theorem dd_193_47 : decode prog_13_method_39_code 47 = .ok (.aload_n 0, 1) := by decide +kernel
theorem dd_193_48 : decode prog_13_method_39_code 48 = .ok (.invokevirtual 230, 3) := by decide +kernel
theorem dd_193_51 : decode prog_13_method_39_code 51 = .ok (.aload_n 0, 1) := by decide +kernel
theorem dd_193_52 : decode prog_13_method_39_code 52 = .ok (.aload_n 0, 1) := by decide +kernel
theorem dd_193_53 : decode prog_13_method_39_code 53 = .ok (.getfield 175, 3) := by decide +kernel
theorem dd_193_56 : decode prog_13_method_39_code 56 = .ok (.aload_n 0, 1) := by decide +kernel
theorem dd_193_57 : decode prog_13_method_39_code 57 = .ok (.getfield 94, 3) := by decide +kernel
theorem dd_193_60 : decode prog_13_method_39_code 60 = .ok (.if_icmp .le 7, 3) := by decide +kernel
theorem dd_193_63 : decode prog_13_method_39_code 63 = .ok (.iconst 2, 1) := by decide +kernel
theorem dd_193_64 : decode prog_13_method_39_code 64 = .ok (.goto 4, 3) := by decide +kernel
theorem dd_193_67 : decode prog_13_method_39_code 67 = .ok (.iconst 0, 1) := by decide +kernel
theorem dd_193_68 : decode prog_13_method_39_code 68 = .ok (.putfield 97, 3) := by decide +kernel
theorem dd_193_71 : decode prog_13_method_39_code 71 = .ok (.aload_n 0, 1) := by decide +kernel
theorem dd_193_72 : decode prog_13_method_39_code 72 = .ok (.iconst 0, 1) := by decide +kernel
theorem dd_193_73 : decode prog_13_method_39_code 73 = .ok (.putfield 102, 3) := by decide +kernel
theorem dd_193_76 : decode prog_13_method_39_code 76 = .ok (.aload_n 0, 1) := by decide +kernel
theorem dd_193_77 : decode prog_13_method_39_code 77 = .ok (.getfield 97, 3) := by decide +kernel
theorem dd_193_80 : decode prog_13_method_39_code 80 = .ok (.ifCond .le 5, 3) := by decide +kernel
theorem dd_193_83 : decode prog_13_method_39_code 83 = .ok (.iconst 0, 1) := by decide +kernel
theorem dd_193_84 : decode prog_13_method_39_code 84 = .ok (.ireturn, 1) := by decide +kernel
theorem dd_193_85 : decode prog_13_method_39_code 85 = .ok (.iconst 0, 1) := by decide +kernel
theorem dd_193_86 : decode prog_13_method_39_code 86 = .ok (.istore_n 2, 1) := by decide +kernel
theorem dd_193_87 : decode prog_13_method_39_code 87 = .ok (.iload_n 2, 1) := by decide +kernel
theorem dd_193_88 : decode prog_13_method_39_code 88 = .ok (.sipush 250, 3) := by decide +kernel
theorem dd_193_91 : decode prog_13_method_39_code 91 = .ok (.if_icmp .ge 16, 3) := by decide +kernel
theorem dd_193_94 : decode prog_13_method_39_code 94 = .ok (.aload_n 0, 1) := by decide +kernel
theorem dd_193_95 : decode prog_13_method_39_code 95 = .ok (.getfield 63, 3) := by decide +kernel
theorem dd_193_98 : decode prog_13_method_39_code 98 = .ok (.iload_n 2, 1) := by decide +kernel
theorem dd_193_99 : decode prog_13_method_39_code 99 = .ok (.iconst 0, 1) := by decide +kernel
theorem dd_193_100 : decode prog_13_method_39_code 100 = .ok (.bastore, 1) := by decide +kernel
theorem dd_193_101 : decode prog_13_method_39_code 101 = .ok (.iinc 2 1, 3) := by decide +kernel
theorem dd_193_104 : decode prog_13_method_39_code 104 = .ok (.goto (-17), 3) := by decide +kernel
theorem dd_193_107 : decode prog_13_method_39_code 107 = .ok (.iconst 0, 1) := by decide +kernel
theorem dd_193_108 : decode prog_13_method_39_code 108 = .ok (.istore_n 2, 1) := by decide +kernel
theorem dd_193_109 : decode prog_13_method_39_code 109 = .ok (.iload_n 2, 1) := by decide +kernel
theorem dd_193_110 : decode prog_13_method_39_code 110 = .ok (.iconst 4, 1) := by decide +kernel
theorem dd_193_111 : decode prog_13_method_39_code 111 = .ok (.if_icmp .ge 16, 3) := by decide +kernel
theorem dd_193_114 : decode prog_13_method_39_code 114 = .ok (.aload_n 0, 1) := by decide +kernel
theorem dd_193_115 : decode prog_13_method_39_code 115 = .ok (.getfield 88, 3) := by decide +kernel
theorem dd_193_118 : decode prog_13_method_39_code 118 = .ok (.iload_n 2, 1) := by decide +kernel
theorem dd_193_119 : decode prog_13_method_39_code 119 = .ok (.iconst (-1), 1) := by decide +kernel
theorem dd_193_120 : decode prog_13_method_39_code 120 = .ok (.iastore, 1) := by decide +kernel
theorem dd_193_121 : decode prog_13_method_39_code 121 = .ok (.iinc 2 1, 3) := by decide +kernel
theorem dd_193_124 : decode prog_13_method_39_code 124 = .ok (.goto (-15), 3) := by decide +kernel
theorem dd_193_127 : decode prog_13_method_39_code 127 = .ok (.aload_n 0, 1) := by decide +kernel
theorem dd_193_128 : decode prog_13_method_39_code 128 = .ok (.getfield 88, 3) := by decide +kernel
theorem dd_193_131 : decode prog_13_method_39_code 131 = .ok (.iconst 4, 1) := by decide +kernel
theorem dd_193_132 : decode prog_13_method_39_code 132 = .ok (.aload_n 0, 1) := by decide +kernel
theorem dd_193_133 : decode prog_13_method_39_code 133 = .ok (.invokevirtual 233, 3) := by decide +kernel
theorem dd_193_136 : decode prog_13_method_39_code 136 = .ok (.iastore, 1) := by decide +kernel
theorem dd_193_137 : decode prog_13_method_39_code 137 = .ok (.aload_n 0, 1) := by decide +kernel
theorem dd_193_138 : decode prog_13_method_39_code 138 = .ok (.iconst 1, 1) := by decide +kernel
theorem dd_193_139 : decode prog_13_method_39_code 139 = .ok (.putfield 236, 3) := by decide +kernel
theorem dd_193_142 : decode prog_13_method_39_code 142 = .ok (.aload_n 0, 1) := by decide +kernel
theorem dd_193_143 : decode prog_13_method_39_code 143 = .ok (.iconst 0, 1) := by decide +kernel
theorem dd_193_144 : decode prog_13_method_39_code 144 = .ok (.putfield 240, 3) := by decide +kernel
theorem dd_193_147 : decode prog_13_method_39_code 147 = .ok (.aload_n 0, 1) := by decide +kernel
theorem dd_193_148 : decode prog_13_method_39_code 148 = .ok (.iconst 0, 1) := by decide +kernel
theorem dd_193_149 : decode prog_13_method_39_code 149 = .ok (.putfield 243, 3) := by decide +kernel
theorem dd_193_152 : decode prog_13_method_39_code 152 = .ok (.aload_n 0, 1) := by decide +kernel
theorem dd_193_153 : decode prog_13_method_39_code 153 = .ok (.iconst 0, 1) := by decide +kernel
theorem dd_193_154 : decode prog_13_method_39_code 154 = .ok (.putfield 246, 3) := by decide +kernel
theorem dd_193_157 : decode prog_13_method_39_code 157 = .ok (.aload_n 0, 1) := by decide +kernel
theorem dd_193_158 : decode prog_13_method_39_code 158 = .ok (.iconst 0, 1) := by decide +kernel
theorem dd_193_159 : decode prog_13_method_39_code 159 = .ok (.putfield 249, 3) := by decide +kernel
theorem dd_193_162 : decode prog_13_method_39_code 162 = .ok (.aload_n 0, 1) := by decide +kernel
theorem dd_193_163 : decode prog_13_method_39_code 163 = .ok (.getfield 175, 3) := by decide +kernel
theorem dd_193_166 : decode prog_13_method_39_code 166 = .ok (.ireturn, 1) := by decide +kernel
set_option maxRecDepth 100000 in
theorem okI_193 : mj_okI gG "PairMachineModel" prog_13_method_39_code 3 (mj_off oM_193) (Option.some Jvm.ClassFile.FieldType.int) false true 0 cM_193 :=
  ⟨Or.inl ⟨0, rfl, dd_193_0, rfl⟩,
   ⟨rfl, tw_926, by decide, tw_12, by decide +kernel, 224, tw_927, dd_193_1, tw_928, ⟨"PairMachineModel", fT10, 45, rfl, tw_929⟩, by decide +kernel⟩,
   ⟨by decide, Or.inl ⟨1, rfl, dd_193_4, rfl⟩⟩,
   Or.inl ⟨0, rfl, dd_193_5, rfl⟩,
   Or.inl ⟨1, rfl, dd_193_6, rfl⟩,
   ⟨10, dd_193_7, rfl, rfl⟩,
   Or.inl ⟨0, rfl, dd_193_10, rfl⟩,
   ⟨rfl, tw_930, by decide, tw_12, by decide +kernel, 227, tw_931, dd_193_11, tw_932, ⟨"PairMachineModel", fT10, 45, rfl, tw_933⟩, by decide +kernel⟩,
   ⟨7, dd_193_14, rfl⟩,
   Or.inl ⟨0, rfl, dd_193_17, rfl⟩,
   ⟨105, "PairMachineModel", fT10, 45, dd_193_18, rfl, okc_10, by decide, tw_807⟩,
   ⟨13, "PairMachineModel", fT10, 45, dd_193_21, rfl, okc_10, by decide, tw_777, rfl, Or.inl rfl⟩,
   Or.inl ⟨0, rfl, dd_193_24, rfl⟩,
   Or.inl ⟨0, rfl, dd_193_25, rfl⟩,
   ⟨13, "PairMachineModel", fT10, 45, dd_193_26, rfl, okc_10, by decide, tw_777⟩,
   ⟨7, dd_193_29, rfl, rfl⟩,
   Or.inl (Or.inl ⟨dd_193_32, rfl⟩),
   ⟨4, dd_193_33, rfl⟩,
   Or.inl (Or.inl ⟨dd_193_36, rfl⟩),
   ⟨97, "PairMachineModel", fT10, 45, dd_193_37, rfl, okc_10, by decide, tw_804, rfl, Or.inl rfl⟩,
   Or.inl ⟨0, rfl, dd_193_40, rfl⟩,
   ⟨97, "PairMachineModel", fT10, 45, dd_193_41, rfl, okc_10, by decide, tw_804⟩,
   ⟨27, dd_193_44, rfl, rfl⟩,
   Or.inl ⟨0, rfl, dd_193_47, rfl⟩,
   ⟨rfl, tw_934, by decide, tw_12, by decide +kernel, 230, tw_935, dd_193_48, tw_936, ⟨"PairMachineModel", fT10, 45, rfl, tw_937⟩, by decide +kernel⟩,
   Or.inl ⟨0, rfl, dd_193_51, rfl⟩,
   Or.inl ⟨0, rfl, dd_193_52, rfl⟩,
   ⟨175, "PairMachineModel", fT10, 45, dd_193_53, rfl, okc_10, by decide, tw_876⟩,
   Or.inl ⟨0, rfl, dd_193_56, rfl⟩,
   ⟨94, "PairMachineModel", fT10, 45, dd_193_57, rfl, okc_10, by decide, tw_803⟩,
   ⟨7, dd_193_60, rfl, rfl⟩,
   Or.inl (Or.inl ⟨dd_193_63, rfl⟩),
   ⟨4, dd_193_64, rfl⟩,
   Or.inl (Or.inl ⟨dd_193_67, rfl⟩),
   ⟨97, "PairMachineModel", fT10, 45, dd_193_68, rfl, okc_10, by decide, tw_804, rfl, Or.inl rfl⟩,
   Or.inl ⟨0, rfl, dd_193_71, rfl⟩,
   Or.inl (Or.inl ⟨dd_193_72, rfl⟩),
   ⟨102, "PairMachineModel", fT10, 45, dd_193_73, rfl, okc_10, by decide, tw_806, rfl, Or.inl rfl⟩,
   Or.inl ⟨0, rfl, dd_193_76, rfl⟩,
   ⟨97, "PairMachineModel", fT10, 45, dd_193_77, rfl, okc_10, by decide, tw_804⟩,
   ⟨5, dd_193_80, rfl, rfl⟩,
   Or.inl (Or.inl ⟨dd_193_83, rfl⟩),
   ⟨dd_193_84, rfl⟩,
   Or.inl (Or.inl ⟨dd_193_85, rfl⟩),
   ⟨by decide, Or.inl ⟨2, rfl, dd_193_86, rfl⟩⟩,
   Or.inl ⟨2, rfl, dd_193_87, rfl⟩,
   Or.inl (Or.inr (Or.inr (Or.inl ⟨dd_193_88, rfl, by decide⟩))),
   ⟨16, dd_193_91, rfl, rfl⟩,
   Or.inl ⟨0, rfl, dd_193_94, rfl⟩,
   ⟨63, "PairMachineModel", fT10, 45, dd_193_95, rfl, okc_10, by decide, tw_793⟩,
   Or.inl ⟨2, rfl, dd_193_98, rfl⟩,
   Or.inl (Or.inl ⟨dd_193_99, rfl⟩),
   ⟨dd_193_100, rfl⟩,
   ⟨by decide, dd_193_101, rfl⟩,
   ⟨(-17), dd_193_104, rfl⟩,
   Or.inl (Or.inl ⟨dd_193_107, rfl⟩),
   ⟨by decide, Or.inl ⟨2, rfl, dd_193_108, rfl⟩⟩,
   Or.inl ⟨2, rfl, dd_193_109, rfl⟩,
   Or.inl (Or.inl ⟨dd_193_110, rfl⟩),
   ⟨16, dd_193_111, rfl, rfl⟩,
   Or.inl ⟨0, rfl, dd_193_114, rfl⟩,
   ⟨88, "PairMachineModel", fT10, 45, dd_193_115, rfl, okc_10, by decide, tw_801⟩,
   Or.inl ⟨2, rfl, dd_193_118, rfl⟩,
   Or.inl (Or.inl ⟨dd_193_119, rfl⟩),
   ⟨dd_193_120, rfl⟩,
   ⟨by decide, dd_193_121, rfl⟩,
   ⟨(-15), dd_193_124, rfl⟩,
   Or.inl ⟨0, rfl, dd_193_127, rfl⟩,
   ⟨88, "PairMachineModel", fT10, 45, dd_193_128, rfl, okc_10, by decide, tw_801⟩,
   Or.inl (Or.inl ⟨dd_193_131, rfl⟩),
   Or.inl ⟨0, rfl, dd_193_132, rfl⟩,
   ⟨rfl, tw_938, by decide, tw_12, by decide +kernel, 233, tw_939, dd_193_133, tw_940, ⟨"PairMachineModel", fT10, 45, rfl, tw_941⟩, by decide +kernel⟩,
   ⟨dd_193_136, rfl⟩,
   Or.inl ⟨0, rfl, dd_193_137, rfl⟩,
   Or.inl (Or.inl ⟨dd_193_138, rfl⟩),
   ⟨236, "PairMachineModel", fT10, 45, dd_193_139, rfl, okc_10, by decide, tw_942, Or.inl rfl, Or.inl rfl⟩,
   Or.inl ⟨0, rfl, dd_193_142, rfl⟩,
   Or.inl (Or.inl ⟨dd_193_143, rfl⟩),
   ⟨240, "PairMachineModel", fT10, 45, dd_193_144, rfl, okc_10, by decide, tw_943, rfl, Or.inl rfl⟩,
   Or.inl ⟨0, rfl, dd_193_147, rfl⟩,
   Or.inl (Or.inl ⟨dd_193_148, rfl⟩),
   ⟨243, "PairMachineModel", fT10, 45, dd_193_149, rfl, okc_10, by decide, tw_944, rfl, Or.inl rfl⟩,
   Or.inl ⟨0, rfl, dd_193_152, rfl⟩,
   Or.inl (Or.inl ⟨dd_193_153, rfl⟩),
   ⟨246, "PairMachineModel", fT10, 45, dd_193_154, rfl, okc_10, by decide, tw_945, rfl, Or.inl rfl⟩,
   Or.inl ⟨0, rfl, dd_193_157, rfl⟩,
   Or.inl (Or.inl ⟨dd_193_158, rfl⟩),
   ⟨249, "PairMachineModel", fT10, 45, dd_193_159, rfl, okc_10, by decide, tw_946, rfl, Or.inl rfl⟩,
   Or.inl ⟨0, rfl, dd_193_162, rfl⟩,
   ⟨175, "PairMachineModel", fT10, 45, dd_193_163, rfl, okc_10, by decide, tw_876⟩,
   ⟨dd_193_166, rfl⟩, trivial⟩
theorem okM_193 : mj_okE gG 193 (cM_193, 3, oM_193, hM_193) := ⟨rfl, rfl, by decide +kernel, trivial, okI_193⟩
theorem dd_194_0 : decode prog_13_method_40_code 0 = .ok (.aload_n 0, 1) := by decide +kernel
theorem dd_194_1 : decode prog_13_method_40_code 1 = .ok (.iconst 0, 1) := by decide +kernel
theorem dd_194_2 : decode prog_13_method_40_code 2 = .ok (.putfield 97, 3) := by decide +kernel
theorem dd_194_5 : decode prog_13_method_40_code 5 = .ok (.aload_n 0, 1) := by decide +kernel
theorem dd_194_6 : decode prog_13_method_40_code 6 = .ok (.getfield 13, 3) := by decide +kernel
theorem dd_194_9 : decode prog_13_method_40_code 9 = .ok (.ireturn, 1) := by decide +kernel
set_option maxRecDepth 100000 in
theorem okI_194 : mj_okI gG "PairMachineModel" prog_13_method_40_code 1 (mj_off oM_194) (Option.some Jvm.ClassFile.FieldType.int) false true 0 cM_194 :=
  ⟨Or.inl ⟨0, rfl, dd_194_0, rfl⟩,
   Or.inl (Or.inl ⟨dd_194_1, rfl⟩),
   ⟨97, "PairMachineModel", fT10, 45, dd_194_2, rfl, okc_10, by decide, tw_804, rfl, Or.inl rfl⟩,
   Or.inl ⟨0, rfl, dd_194_5, rfl⟩,
   ⟨13, "PairMachineModel", fT10, 45, dd_194_6, rfl, okc_10, by decide, tw_777⟩,
   ⟨dd_194_9, rfl⟩, trivial⟩
theorem okM_194 : mj_okE gG 194 (cM_194, 1, oM_194, hM_194) := ⟨rfl, rfl, by decide +kernel, trivial, okI_194⟩
theorem dd_195_0 : decode prog_13_method_41_code 0 = .ok (.aload_n 0, 1) := by decide +kernel
theorem dd_195_1 : decode prog_13_method_41_code 1 = .ok (.iconst 0, 1) := by decide +kernel
theorem dd_195_2 : decode prog_13_method_41_code 2 = .ok (.putfield 97, 3) := by decide +kernel
theorem dd_195_5 : decode prog_13_method_41_code 5 = .ok (.aload_n 0, 1) := by decide +kernel
theorem dd_195_6 : decode prog_13_method_41_code 6 = .ok (.getfield 236, 3) := by decide +kernel
theorem dd_195_9 : decode prog_13_method_41_code 9 = .ok (.ifCond .ne 5, 3) := by decide +kernel
theorem dd_195_12 : decode prog_13_method_41_code 12 = .ok (.iconst 0, 1) := by decide +kernel
theorem dd_195_13 : decode prog_13_method_41_code 13 = .ok (.ireturn, 1) := by decide +kernel
theorem dd_195_14 : decode prog_13_method_41_code 14 = .ok (.iconst 0, 1) := by decide +kernel
theorem dd_195_15 : decode prog_13_method_41_code 15 = .ok (.istore_n 1, 1) := by decide +kernel
theorem dd_195_16 : decode prog_13_method_41_code 16 = .ok (.iload_n 1, 1) := by decide +kernel
theorem dd_195_17 : decode prog_13_method_41_code 17 = .ok (.iconst 4, 1) := by decide +kernel
theorem dd_195_18 : decode prog_13_method_41_code 18 = .ok (.if_icmp .ge 16, 3) := by decide +kernel
theorem dd_195_21 : decode prog_13_method_41_code 21 = .ok (.aload_n 0, 1) := by decide +kernel
theorem dd_195_22 : decode prog_13_method_41_code 22 = .ok (.getfield 88, 3) := by decide +kernel
theorem dd_195_25 : decode prog_13_method_41_code 25 = .ok (.iload_n 1, 1) := by decide +kernel
theorem dd_195_26 : decode prog_13_method_41_code 26 = .ok (.iconst (-1), 1) := by decide +kernel
theorem dd_195_27 : decode prog_13_method_41_code 27 = .ok (.iastore, 1) := by decide +kernel
theorem dd_195_28 : decode prog_13_method_41_code 28 = .ok (.iinc 1 1, 3) := by decide +kernel
theorem dd_195_31 : decode prog_13_method_41_code 31 = .ok (.goto (-15), 3) := by decide +kernel
theorem dd_195_34 : decode prog_13_method_41_code 34 = .ok (.aload_n 0, 1) := by decide +kernel
theorem dd_195_35 : decode prog_13_method_41_code 35 = .ok (.invokevirtual 252, 3) := by decide +kernel
theorem dd_195_38 : decode prog_13_method_41_code 38 = .ok (.istore_n 1, 1) := by decide +kernel
theorem dd_195_39 : decode prog_13_method_41_code 39 = .ok (.aload_n 0, 1) := by decide +kernel
theorem dd_195_40 : decode prog_13_method_41_code 40 = .ok (.getfield 88, 3) := by decide +kernel
theorem dd_195_43 : decode prog_13_method_41_code 43 = .ok (.iconst 2, 1) := by decide +kernel
theorem dd_195_44 : decode prog_13_method_41_code 44 = .ok (.aload_n 0, 1) := by decide +kernel
theorem dd_195_45 : decode prog_13_method_41_code 45 = .ok (.getfield 88, 3) := by decide +kernel
theorem dd_195_48 : decode prog_13_method_41_code 48 = .ok (.iconst 4, 1) := by decide +kernel
theorem dd_195_49 : decode prog_13_method_41_code 49 = .ok (.iaload, 1) := by decide +kernel
theorem dd_195_50 : decode prog_13_method_41_code 50 = .ok (.iastore, 1) := by decide +kernel
theorem dd_195_51 : decode prog_13_method_41_code 51 = .ok (.aload_n 0, 1) := by decide +kernel
theorem dd_195_52 : decode prog_13_method_41_code 52 = .ok (.iconst 1, 1) := by decide +kernel
theorem dd_195_53 : decode prog_13_method_41_code 53 = .ok (.putfield 240, 3) := by decide +kernel
theorem dd_195_56 : decode prog_13_method_41_code 56 = .ok (.aload_n 0, 1) := by decide +kernel
theorem dd_195_57 : decode prog_13_method_41_code 57 = .ok (.iconst 0, 1) := by decide +kernel
theorem dd_195_58 : decode prog_13_method_41_code 58 = .ok (.putfield 243, 3) := by decide +kernel
theorem dd_195_61 : decode prog_13_method_41_code 61 = .ok (.aload_n 0, 1) := by decide +kernel
theorem dd_195_62 : decode prog_13_method_41_code 62 = .ok (.iconst 0, 1) := by decide +kernel
theorem dd_195_63 : decode prog_13_method_41_code 63 = .ok (.putfield 246, 3) := by decide +kernel
theorem dd_195_66 : decode prog_13_method_41_code 66 = .ok (.aload_n 0, 1) := by decide +kernel
theorem dd_195_67 : decode prog_13_method_41_code 67 = .ok (.iconst 0, 1) := by decide +kernel
theorem dd_195_68 : decode prog_13_method_41_code 68 = .ok (.putfield 249, 3) := by decide +kernel
theorem dd_195_71 : decode prog_13_method_41_code 71 = .ok (.iload_n 1, 1) := by decide +kernel
theorem dd_195_72 : decode prog_13_method_41_code 72 = .ok (.ifCond .lt 7, 3) := by decide +kernel
theorem dd_195_75 : decode prog_13_method_41_code 75 = .ok (.iconst 1, 1) := by decide +kernel
theorem dd_195_76 : decode prog_13_method_41_code 76 = .ok (.goto 4, 3) := by decide +kernel
theorem dd_195_79 : decode prog_13_method_41_code 79 = .ok (.iconst 0, 1) := by decide +kernel
theorem dd_195_80 : decode prog_13_method_41_code 80 = .ok (.ireturn, 1) := by decide +kernel
set_option maxRecDepth 100000 in
theorem okI_195 : mj_okI gG "PairMachineModel" prog_13_method_41_code 2 (mj_off oM_195) (Option.some Jvm.ClassFile.FieldType.boolean) false true 0 cM_195 :=
  ⟨Or.inl ⟨0, rfl, dd_195_0, rfl⟩,
   Or.inl (Or.inl ⟨dd_195_1, rfl⟩),
   ⟨97, "PairMachineModel", fT10, 45, dd_195_2, rfl, okc_10, by decide, tw_804, rfl, Or.inl rfl⟩,
   Or.inl ⟨0, rfl, dd_195_5, rfl⟩,
   ⟨236, "PairMachineModel", fT10, 45, dd_195_6, rfl, okc_10, by decide, tw_942⟩,
   ⟨5, dd_195_9, rfl, rfl⟩,
   Or.inl (Or.inl ⟨dd_195_12, rfl⟩),
   ⟨dd_195_13, rfl⟩,
   Or.inl (Or.inl ⟨dd_195_14, rfl⟩),
   ⟨by decide, Or.inl ⟨1, rfl, dd_195_15, rfl⟩⟩,
   Or.inl ⟨1, rfl, dd_195_16, rfl⟩,
   Or.inl (Or.inl ⟨dd_195_17, rfl⟩),
   ⟨16, dd_195_18, rfl, rfl⟩,
   Or.inl ⟨0, rfl, dd_195_21, rfl⟩,
   ⟨88, "PairMachineModel", fT10, 45, dd_195_22, rfl, okc_10, by decide, tw_801⟩,
   Or.inl ⟨1, rfl, dd_195_25, rfl⟩,
   Or.inl (Or.inl ⟨dd_195_26, rfl⟩),
   ⟨dd_195_27, rfl⟩,
   ⟨by decide, dd_195_28, rfl⟩,
   ⟨(-15), dd_195_31, rfl⟩,
   Or.inl ⟨0, rfl, dd_195_34, rfl⟩,
   ⟨rfl, tw_947, by decide, tw_12, by decide +kernel, 252, tw_948, dd_195_35, tw_949, ⟨"PairMachineModel", fT10, 45, rfl, tw_950⟩, by decide +kernel⟩,
   ⟨by decide, Or.inl ⟨1, rfl, dd_195_38, rfl⟩⟩,
   Or.inl ⟨0, rfl, dd_195_39, rfl⟩,
   ⟨88, "PairMachineModel", fT10, 45, dd_195_40, rfl, okc_10, by decide, tw_801⟩,
   Or.inl (Or.inl ⟨dd_195_43, rfl⟩),
   Or.inl ⟨0, rfl, dd_195_44, rfl⟩,
   ⟨88, "PairMachineModel", fT10, 45, dd_195_45, rfl, okc_10, by decide, tw_801⟩,
   Or.inl (Or.inl ⟨dd_195_48, rfl⟩),
   ⟨dd_195_49, rfl⟩,
   ⟨dd_195_50, rfl⟩,
   Or.inl ⟨0, rfl, dd_195_51, rfl⟩,
   Or.inl (Or.inl ⟨dd_195_52, rfl⟩),
   ⟨240, "PairMachineModel", fT10, 45, dd_195_53, rfl, okc_10, by decide, tw_943, rfl, Or.inl rfl⟩,
   Or.inl ⟨0, rfl, dd_195_56, rfl⟩,
   Or.inl (Or.inl ⟨dd_195_57, rfl⟩),
   ⟨243, "PairMachineModel", fT10, 45, dd_195_58, rfl, okc_10, by decide, tw_944, rfl, Or.inl rfl⟩,
   Or.inl ⟨0, rfl, dd_195_61, rfl⟩,
   Or.inl (Or.inl ⟨dd_195_62, rfl⟩),
   ⟨246, "PairMachineModel", fT10, 45, dd_195_63, rfl, okc_10, by decide, tw_945, rfl, Or.inl rfl⟩,
   Or.inl ⟨0, rfl, dd_195_66, rfl⟩,
   Or.inl (Or.inl ⟨dd_195_67, rfl⟩),
   ⟨249, "PairMachineModel", fT10, 45, dd_195_68, rfl, okc_10, by decide, tw_946, rfl, Or.inl rfl⟩,
   Or.inl ⟨1, rfl, dd_195_71, rfl⟩,
   ⟨7, dd_195_72, rfl, rfl⟩,
   Or.inl (Or.inl ⟨dd_195_75, rfl⟩),
   ⟨4, dd_195_76, rfl⟩,
   Or.inl (Or.inl ⟨dd_195_79, rfl⟩),
   ⟨dd_195_80, rfl⟩, trivial⟩
theorem okM_195 : mj_okE gG 195 (cM_195, 2, oM_195, hM_195) := ⟨rfl, rfl, by decide +kernel, trivial, okI_195⟩
