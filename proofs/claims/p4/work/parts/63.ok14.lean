section
theorem dd_183_0 : decode prog_13_method_30_code 0 = .ok (.aload_n 0, 1) := by decide +kernel
theorem dd_183_1 : decode prog_13_method_30_code 1 = .ok (.getfield 39, 3) := by decide +kernel
theorem dd_183_4 : decode prog_13_method_30_code 4 = .ok (.iload_n 2, 1) := by decide +kernel
theorem dd_183_5 : decode prog_13_method_30_code 5 = .ok (.iaload, 1) := by decide +kernel
theorem dd_183_6 : decode prog_13_method_30_code 6 = .ok (.istore_n 3, 1) := by decide +kernel
theorem dd_183_7 : decode prog_13_method_30_code 7 = .ok (.aload_n 0, 1) := by decide +kernel
theorem dd_183_8 : decode prog_13_method_30_code 8 = .ok (.getfield 27, 3) := by decide +kernel
theorem dd_183_11 : decode prog_13_method_30_code 11 = .ok (.iload_n 1, 1) := by decide +kernel
theorem dd_183_12 : decode prog_13_method_30_code 12 = .ok (.iaload, 1) := by decide +kernel
theorem dd_183_13 : decode prog_13_method_30_code 13 = .ok (.bipush 63, 2) := by decide +kernel
theorem dd_183_15 : decode prog_13_method_30_code 15 = .ok (.if_icmp .ne 36, 3) := by decide +kernel
theorem dd_183_18 : decode prog_13_method_30_code 18 = .ok (.aload_n 0, 1) := by decide +kernel
theorem dd_183_19 : decode prog_13_method_30_code 19 = .ok (.aload_n 0, 1) := by decide +kernel
theorem dd_183_20 : decode prog_13_method_30_code 20 = .ok (.getfield 39, 3) := by decide +kernel
theorem dd_183_23 : decode prog_13_method_30_code 23 = .ok (.iload_n 3, 1) := by decide +kernel
theorem dd_183_24 : decode prog_13_method_30_code 24 = .ok (.iaload, 1) := by decide +kernel
theorem dd_183_25 : decode prog_13_method_30_code 25 = .ok (.bipush 9, 2) := by decide +kernel
theorem dd_183_27 : decode prog_13_method_30_code 27 = .ok (.invokevirtual 195, 3) := by decide +kernel
theorem dd_183_30 : decode prog_13_method_30_code 30 = .ok (.aload_n 0, 1) := by decide +kernel
theorem dd_183_31 : decode prog_13_method_30_code 31 = .ok (.iload_n 3, 1) := by decide +kernel
theorem dd_183_32 : decode prog_13_method_30_code 32 = .ok (.bipush 9, 2) := by decide +kernel
theorem dd_183_34 : decode prog_13_method_30_code 34 = .ok (.invokevirtual 195, 3) := by decide +kernel
theorem dd_183_37 : decode prog_13_method_30_code 37 = .ok (.aload_n 0, 1) := by decide +kernel
theorem dd_183_38 : decode prog_13_method_30_code 38 = .ok (.iconst 1, 1) := by decide +kernel
theorem dd_183_39 : decode prog_13_method_30_code 39 = .ok (.bipush 8, 2) := by decide +kernel
theorem dd_183_41 : decode prog_13_method_30_code 41 = .ok (.invokevirtual 185, 3) := by decide +kernel
theorem dd_183_44 : decode prog_13_method_30_code 44 = .ok (.aload_n 0, 1) := by decide +kernel
theorem dd_183_45 : decode prog_13_method_30_code 45 = .ok (.iconst (-1), 1) := by decide +kernel
theorem dd_183_46 : decode prog_13_method_30_code 46 = .ok (.iload_n 2, 1) := by decide +kernel
theorem dd_183_47 : decode prog_13_method_30_code 47 = .ok (.invokevirtual 185, 3) := by decide +kernel
theorem dd_183_50 : decode prog_13_method_30_code 50 = .ok (.return_, 1) := by decide +kernel
theorem dd_183_51 : decode prog_13_method_30_code 51 = .ok (.aload_n 0, 1) := by decide +kernel
theorem dd_183_52 : decode prog_13_method_30_code 52 = .ok (.iconst 1, 1) := by decide +kernel
theorem dd_183_53 : decode prog_13_method_30_code 53 = .ok (.aload_n 0, 1) := by decide +kernel
theorem dd_183_54 : decode prog_13_method_30_code 54 = .ok (.getfield 27, 3) := by decide +kernel
theorem dd_183_57 : decode prog_13_method_30_code 57 = .ok (.iload_n 1, 1) := by decide +kernel
theorem dd_183_58 : decode prog_13_method_30_code 58 = .ok (.iaload, 1) := by decide +kernel
theorem dd_183_59 : decode prog_13_method_30_code 59 = .ok (.invokestatic 201, 3) := by decide +kernel
theorem dd_183_62 : decode prog_13_method_30_code 62 = .ok (.invokevirtual 185, 3) := by decide +kernel
theorem dd_183_65 : decode prog_13_method_30_code 65 = .ok (.aload_n 0, 1) := by decide +kernel
theorem dd_183_66 : decode prog_13_method_30_code 66 = .ok (.getfield 27, 3) := by decide +kernel
theorem dd_183_69 : decode prog_13_method_30_code 69 = .ok (.iload_n 1, 1) := by decide +kernel
theorem dd_183_70 : decode prog_13_method_30_code 70 = .ok (.iaload, 1) := by decide +kernel
theorem dd_183_71 : decode prog_13_method_30_code 71 = .ok (.bipush 46, 2) := by decide +kernel
theorem dd_183_73 : decode prog_13_method_30_code 73 = .ok (.if_icmp .ne 18, 3) := by decide +kernel
theorem dd_183_76 : decode prog_13_method_30_code 76 = .ok (.aload_n 0, 1) := by decide +kernel
theorem dd_183_77 : decode prog_13_method_30_code 77 = .ok (.iconst (-1), 1) := by decide +kernel
theorem dd_183_78 : decode prog_13_method_30_code 78 = .ok (.iload_n 2, 1) := by decide +kernel
theorem dd_183_79 : decode prog_13_method_30_code 79 = .ok (.invokevirtual 185, 3) := by decide +kernel
theorem dd_183_82 : decode prog_13_method_30_code 82 = .ok (.aload_n 0, 1) := by decide +kernel
theorem dd_183_83 : decode prog_13_method_30_code 83 = .ok (.iconst (-1), 1) := by decide +kernel
theorem dd_183_84 : decode prog_13_method_30_code 84 = .ok (.iload_n 3, 1) := by decide +kernel
theorem dd_183_85 : decode prog_13_method_30_code 85 = .ok (.invokevirtual 185, 3) := by decide +kernel
theorem dd_183_88 : decode prog_13_method_30_code 88 = .ok (.goto 19, 3) := by decide +kernel
theorem dd_183_91 : decode prog_13_method_30_code 91 = .ok (.iload_n 3, 1) := by decide +kernel
theorem dd_183_92 : decode prog_13_method_30_code 92 = .ok (.ifCond .lt 9, 3) := by decide +kernel
theorem dd_183_95 : decode prog_13_method_30_code 95 = .ok (.aload_n 0, 1) := by decide +kernel
theorem dd_183_96 : decode prog_13_method_30_code 96 = .ok (.iconst (-1), 1) := by decide +kernel
theorem dd_183_97 : decode prog_13_method_30_code 97 = .ok (.iload_n 3, 1) := by decide +kernel
theorem dd_183_98 : decode prog_13_method_30_code 98 = .ok (.invokevirtual 185, 3) := by decide +kernel
theorem dd_183_101 : decode prog_13_method_30_code 101 = .ok (.aload_n 0, 1) := by decide +kernel
theorem dd_183_102 : decode prog_13_method_30_code 102 = .ok (.iconst (-1), 1) := by decide +kernel
theorem dd_183_103 : decode prog_13_method_30_code 103 = .ok (.iload_n 2, 1) := by decide +kernel
theorem dd_183_104 : decode prog_13_method_30_code 104 = .ok (.invokevirtual 185, 3) := by decide +kernel
theorem dd_183_107 : decode prog_13_method_30_code 107 = .ok (.return_, 1) := by decide +kernel
set_option maxRecDepth 100000 in
theorem okI_183 : mj_okI gG "PairMachineModel" prog_13_method_30_code 4 (mj_off oM_183) (Option.none : Option Jvm.ClassFile.FieldType) false true 0 cM_183 :=
  ⟨Or.inl ⟨0, rfl, dd_183_0, rfl⟩,
   ⟨39, "PairMachineModel", fT10, 45, dd_183_1, rfl, okc_10, by decide, tw_810⟩,
   Or.inl ⟨2, rfl, dd_183_4, rfl⟩,
   ⟨dd_183_5, rfl⟩,
   ⟨by decide, Or.inl ⟨3, rfl, dd_183_6, rfl⟩⟩,
   Or.inl ⟨0, rfl, dd_183_7, rfl⟩,
   ⟨27, "PairMachineModel", fT10, 45, dd_183_8, rfl, okc_10, by decide, tw_806⟩,
   Or.inl ⟨1, rfl, dd_183_11, rfl⟩,
   ⟨dd_183_12, rfl⟩,
   Or.inl (Or.inr (Or.inl ⟨dd_183_13, rfl, by decide⟩)),
   ⟨36, dd_183_15, rfl, rfl⟩,
   Or.inl ⟨0, rfl, dd_183_18, rfl⟩,
   Or.inl ⟨0, rfl, dd_183_19, rfl⟩,
   ⟨39, "PairMachineModel", fT10, 45, dd_183_20, rfl, okc_10, by decide, tw_810⟩,
   Or.inl ⟨3, rfl, dd_183_23, rfl⟩,
   ⟨dd_183_24, rfl⟩,
   Or.inl (Or.inr (Or.inl ⟨dd_183_25, rfl, by decide⟩)),
   ⟨rfl, tw_919, by decide, tw_12, by decide +kernel, 195, tw_920, dd_183_27, tw_921, ⟨"PairMachineModel", fT10, 45, rfl, tw_922⟩, by decide +kernel⟩,
   Or.inl ⟨0, rfl, dd_183_30, rfl⟩,
   Or.inl ⟨3, rfl, dd_183_31, rfl⟩,
   Or.inl (Or.inr (Or.inl ⟨dd_183_32, rfl, by decide⟩)),
   ⟨rfl, tw_919, by decide, tw_12, by decide +kernel, 195, tw_920, dd_183_34, tw_921, ⟨"PairMachineModel", fT10, 45, rfl, tw_922⟩, by decide +kernel⟩,
   Or.inl ⟨0, rfl, dd_183_37, rfl⟩,
   Or.inl (Or.inl ⟨dd_183_38, rfl⟩),
   Or.inl (Or.inr (Or.inl ⟨dd_183_39, rfl, by decide⟩)),
   ⟨rfl, tw_907, by decide, tw_12, by decide +kernel, 185, tw_908, dd_183_41, tw_909, ⟨"PairMachineModel", fT10, 45, rfl, tw_910⟩, by decide +kernel⟩,
   Or.inl ⟨0, rfl, dd_183_44, rfl⟩,
   Or.inl (Or.inl ⟨dd_183_45, rfl⟩),
   Or.inl ⟨2, rfl, dd_183_46, rfl⟩,
   ⟨rfl, tw_907, by decide, tw_12, by decide +kernel, 185, tw_908, dd_183_47, tw_909, ⟨"PairMachineModel", fT10, 45, rfl, tw_910⟩, by decide +kernel⟩,
   ⟨dd_183_50, rfl⟩,
   Or.inl ⟨0, rfl, dd_183_51, rfl⟩,
   Or.inl (Or.inl ⟨dd_183_52, rfl⟩),
   Or.inl ⟨0, rfl, dd_183_53, rfl⟩,
   ⟨27, "PairMachineModel", fT10, 45, dd_183_54, rfl, okc_10, by decide, tw_806⟩,
   Or.inl ⟨1, rfl, dd_183_57, rfl⟩,
   ⟨dd_183_58, rfl⟩,
   ⟨rfl, tw_927, by decide, tw_12, by decide +kernel, 201, tw_928, dd_183_59, tw_929, by decide +kernel⟩,
   ⟨rfl, tw_907, by decide, tw_12, by decide +kernel, 185, tw_908, dd_183_62, tw_909, ⟨"PairMachineModel", fT10, 45, rfl, tw_910⟩, by decide +kernel⟩,
   Or.inl ⟨0, rfl, dd_183_65, rfl⟩,
   ⟨27, "PairMachineModel", fT10, 45, dd_183_66, rfl, okc_10, by decide, tw_806⟩,
   Or.inl ⟨1, rfl, dd_183_69, rfl⟩,
   ⟨dd_183_70, rfl⟩,
   Or.inl (Or.inr (Or.inl ⟨dd_183_71, rfl, by decide⟩)),
   ⟨18, dd_183_73, rfl, rfl⟩,
   Or.inl ⟨0, rfl, dd_183_76, rfl⟩,
   Or.inl (Or.inl ⟨dd_183_77, rfl⟩),
   Or.inl ⟨2, rfl, dd_183_78, rfl⟩,
   ⟨rfl, tw_907, by decide, tw_12, by decide +kernel, 185, tw_908, dd_183_79, tw_909, ⟨"PairMachineModel", fT10, 45, rfl, tw_910⟩, by decide +kernel⟩,
   Or.inl ⟨0, rfl, dd_183_82, rfl⟩,
   Or.inl (Or.inl ⟨dd_183_83, rfl⟩),
   Or.inl ⟨3, rfl, dd_183_84, rfl⟩,
   ⟨rfl, tw_907, by decide, tw_12, by decide +kernel, 185, tw_908, dd_183_85, tw_909, ⟨"PairMachineModel", fT10, 45, rfl, tw_910⟩, by decide +kernel⟩,
   ⟨19, dd_183_88, rfl⟩,
   Or.inl ⟨3, rfl, dd_183_91, rfl⟩,
   ⟨9, dd_183_92, rfl, rfl⟩,
   Or.inl ⟨0, rfl, dd_183_95, rfl⟩,
   Or.inl (Or.inl ⟨dd_183_96, rfl⟩),
   Or.inl ⟨3, rfl, dd_183_97, rfl⟩,
   ⟨rfl, tw_907, by decide, tw_12, by decide +kernel, 185, tw_908, dd_183_98, tw_909, ⟨"PairMachineModel", fT10, 45, rfl, tw_910⟩, by decide +kernel⟩,
   Or.inl ⟨0, rfl, dd_183_101, rfl⟩,
   Or.inl (Or.inl ⟨dd_183_102, rfl⟩),
   Or.inl ⟨2, rfl, dd_183_103, rfl⟩,
   ⟨rfl, tw_907, by decide, tw_12, by decide +kernel, 185, tw_908, dd_183_104, tw_909, ⟨"PairMachineModel", fT10, 45, rfl, tw_910⟩, by decide +kernel⟩,
   ⟨dd_183_107, rfl⟩, trivial⟩
theorem okM_183 : mj_okE gG 183 (cM_183, 4, oM_183, hM_183) := ⟨rfl, rfl, by decide +kernel, trivial, okI_183⟩
theorem dd_184_0 : decode prog_13_method_31_code 0 = .ok (.aload_n 0, 1) := by decide +kernel
theorem dd_184_1 : decode prog_13_method_31_code 1 = .ok (.iconst 0, 1) := by decide +kernel
theorem dd_184_2 : decode prog_13_method_31_code 2 = .ok (.putfield 172, 3) := by decide +kernel
theorem dd_184_5 : decode prog_13_method_31_code 5 = .ok (.aload_n 0, 1) := by decide +kernel
theorem dd_184_6 : decode prog_13_method_31_code 6 = .ok (.iconst 0, 1) := by decide +kernel
theorem dd_184_7 : decode prog_13_method_31_code 7 = .ok (.putfield 175, 3) := by decide +kernel
theorem dd_184_10 : decode prog_13_method_31_code 10 = .ok (.aload_n 0, 1) := by decide +kernel
theorem dd_184_11 : decode prog_13_method_31_code 11 = .ok (.iconst 0, 1) := by decide +kernel
theorem dd_184_12 : decode prog_13_method_31_code 12 = .ok (.putfield 178, 3) := by decide +kernel
theorem dd_184_15 : decode prog_13_method_31_code 15 = .ok (.aload_n 0, 1) := by decide +kernel
theorem dd_184_16 : decode prog_13_method_31_code 16 = .ok (.iconst 1, 1) := by decide +kernel
theorem dd_184_17 : decode prog_13_method_31_code 17 = .ok (.bipush 19, 2) := by decide +kernel
theorem dd_184_19 : decode prog_13_method_31_code 19 = .ok (.invokevirtual 185, 3) := by decide +kernel
theorem dd_184_22 : decode prog_13_method_31_code 22 = .ok (.aload_n 0, 1) := by decide +kernel
theorem dd_184_23 : decode prog_13_method_31_code 23 = .ok (.iconst (-1), 1) := by decide +kernel
theorem dd_184_24 : decode prog_13_method_31_code 24 = .ok (.iconst 0, 1) := by decide +kernel
theorem dd_184_25 : decode prog_13_method_31_code 25 = .ok (.invokevirtual 185, 3) := by decide +kernel
theorem dd_184_28 : decode prog_13_method_31_code 28 = .ok (.aload_n 0, 1) := by decide +kernel
theorem dd_184_29 : decode prog_13_method_31_code 29 = .ok (.getfield 178, 3) := by decide +kernel
theorem dd_184_32 : decode prog_13_method_31_code 32 = .ok (.ifCond .le 66, 3) := by decide +kernel
theorem dd_184_35 : decode prog_13_method_31_code 35 = .ok (.aload_n 0, 1) := by decide +kernel
theorem dd_184_36 : decode prog_13_method_31_code 36 = .ok (.dup, 1) := by decide +kernel
theorem dd_184_37 : decode prog_13_method_31_code 37 = .ok (.getfield 178, 3) := by decide +kernel
theorem dd_184_40 : decode prog_13_method_31_code 40 = .ok (.iconst 1, 1) := by decide +kernel
theorem dd_184_41 : decode prog_13_method_31_code 41 = .ok (.isub, 1) := by decide +kernel
theorem dd_184_42 : decode prog_13_method_31_code 42 = .ok (.putfield 178, 3) := by decide +kernel
theorem dd_184_45 : decode prog_13_method_31_code 45 = .ok (.aload_n 0, 1) := by decide +kernel
theorem dd_184_46 : decode prog_13_method_31_code 46 = .ok (.getfield 57, 3) := by decide +kernel
theorem dd_184_49 : decode prog_13_method_31_code 49 = .ok (.aload_n 0, 1) := by decide +kernel
theorem dd_184_50 : decode prog_13_method_31_code 50 = .ok (.getfield 178, 3) := by decide +kernel
theorem dd_184_53 : decode prog_13_method_31_code 53 = .ok (.iaload, 1) := by decide +kernel
theorem dd_184_54 : decode prog_13_method_31_code 54 = .ok (.ifCond .ge 19, 3) := by decide +kernel
theorem dd_184_57 : decode prog_13_method_31_code 57 = .ok (.aload_n 0, 1) := by decide +kernel
theorem dd_184_58 : decode prog_13_method_31_code 58 = .ok (.aload_n 0, 1) := by decide +kernel
theorem dd_184_59 : decode prog_13_method_31_code 59 = .ok (.getfield 60, 3) := by decide +kernel
theorem dd_184_62 : decode prog_13_method_31_code 62 = .ok (.aload_n 0, 1) := by decide +kernel
theorem dd_184_63 : decode prog_13_method_31_code 63 = .ok (.getfield 178, 3) := by decide +kernel
theorem dd_184_66 : decode prog_13_method_31_code 66 = .ok (.iaload, 1) := by decide +kernel
theorem dd_184_67 : decode prog_13_method_31_code 67 = .ok (.invokevirtual 204, 3) := by decide +kernel
theorem dd_184_70 : decode prog_13_method_31_code 70 = .ok (.goto (-42), 3) := by decide +kernel
theorem dd_184_73 : decode prog_13_method_31_code 73 = .ok (.aload_n 0, 1) := by decide +kernel
theorem dd_184_74 : decode prog_13_method_31_code 74 = .ok (.aload_n 0, 1) := by decide +kernel
theorem dd_184_75 : decode prog_13_method_31_code 75 = .ok (.getfield 57, 3) := by decide +kernel
theorem dd_184_78 : decode prog_13_method_31_code 78 = .ok (.aload_n 0, 1) := by decide +kernel
theorem dd_184_79 : decode prog_13_method_31_code 79 = .ok (.getfield 178, 3) := by decide +kernel
theorem dd_184_82 : decode prog_13_method_31_code 82 = .ok (.iaload, 1) := by decide +kernel
theorem dd_184_83 : decode prog_13_method_31_code 83 = .ok (.aload_n 0, 1) := by decide +kernel
theorem dd_184_84 : decode prog_13_method_31_code 84 = .ok (.getfield 60, 3) := by decide +kernel
theorem dd_184_87 : decode prog_13_method_31_code 87 = .ok (.aload_n 0, 1) := by decide +kernel
theorem dd_184_88 : decode prog_13_method_31_code 88 = .ok (.getfield 178, 3) := by decide +kernel
theorem dd_184_91 : decode prog_13_method_31_code 91 = .ok (.iaload, 1) := by decide +kernel
theorem dd_184_92 : decode prog_13_method_31_code 92 = .ok (.invokevirtual 181, 3) := by decide +kernel
theorem dd_184_95 : decode prog_13_method_31_code 95 = .ok (.goto (-67), 3) := by decide +kernel
theorem dd_184_98 : decode prog_13_method_31_code 98 = .ok (.return_, 1) := by decide +kernel
set_option maxRecDepth 100000 in
theorem okI_184 : mj_okI gG "PairMachineModel" prog_13_method_31_code 1 (mj_off oM_184) (Option.none : Option Jvm.ClassFile.FieldType) false true 0 cM_184 :=
  ⟨Or.inl ⟨0, rfl, dd_184_0, rfl⟩,
   Or.inl (Or.inl ⟨dd_184_1, rfl⟩),
   ⟨172, "PairMachineModel", fT10, 45, dd_184_2, rfl, okc_10, by decide, tw_900, rfl, Or.inl rfl⟩,
   Or.inl ⟨0, rfl, dd_184_5, rfl⟩,
   Or.inl (Or.inl ⟨dd_184_6, rfl⟩),
   ⟨175, "PairMachineModel", fT10, 45, dd_184_7, rfl, okc_10, by decide, tw_901, rfl, Or.inl rfl⟩,
   Or.inl ⟨0, rfl, dd_184_10, rfl⟩,
   Or.inl (Or.inl ⟨dd_184_11, rfl⟩),
   ⟨178, "PairMachineModel", fT10, 45, dd_184_12, rfl, okc_10, by decide, tw_902, rfl, Or.inl rfl⟩,
   Or.inl ⟨0, rfl, dd_184_15, rfl⟩,
   Or.inl (Or.inl ⟨dd_184_16, rfl⟩),
   Or.inl (Or.inr (Or.inl ⟨dd_184_17, rfl, by decide⟩)),
   ⟨rfl, tw_907, by decide, tw_12, by decide +kernel, 185, tw_908, dd_184_19, tw_909, ⟨"PairMachineModel", fT10, 45, rfl, tw_910⟩, by decide +kernel⟩,
   Or.inl ⟨0, rfl, dd_184_22, rfl⟩,
   Or.inl (Or.inl ⟨dd_184_23, rfl⟩),
   Or.inl (Or.inl ⟨dd_184_24, rfl⟩),
   ⟨rfl, tw_907, by decide, tw_12, by decide +kernel, 185, tw_908, dd_184_25, tw_909, ⟨"PairMachineModel", fT10, 45, rfl, tw_910⟩, by decide +kernel⟩,
   Or.inl ⟨0, rfl, dd_184_28, rfl⟩,
   ⟨178, "PairMachineModel", fT10, 45, dd_184_29, rfl, okc_10, by decide, tw_902⟩,
   ⟨66, dd_184_32, rfl, rfl⟩,
   Or.inl ⟨0, rfl, dd_184_35, rfl⟩,
   ⟨dd_184_36, rfl⟩,
   ⟨178, "PairMachineModel", fT10, 45, dd_184_37, rfl, okc_10, by decide, tw_902⟩,
   Or.inl (Or.inl ⟨dd_184_40, rfl⟩),
   ⟨dd_184_41, rfl⟩,
   ⟨178, "PairMachineModel", fT10, 45, dd_184_42, rfl, okc_10, by decide, tw_902, rfl, Or.inl rfl⟩,
   Or.inl ⟨0, rfl, dd_184_45, rfl⟩,
   ⟨57, "PairMachineModel", fT10, 45, dd_184_46, rfl, okc_10, by decide, tw_816⟩,
   Or.inl ⟨0, rfl, dd_184_49, rfl⟩,
   ⟨178, "PairMachineModel", fT10, 45, dd_184_50, rfl, okc_10, by decide, tw_902⟩,
   ⟨dd_184_53, rfl⟩,
   ⟨19, dd_184_54, rfl, rfl⟩,
   Or.inl ⟨0, rfl, dd_184_57, rfl⟩,
   Or.inl ⟨0, rfl, dd_184_58, rfl⟩,
   ⟨60, "PairMachineModel", fT10, 45, dd_184_59, rfl, okc_10, by decide, tw_817⟩,
   Or.inl ⟨0, rfl, dd_184_62, rfl⟩,
   ⟨178, "PairMachineModel", fT10, 45, dd_184_63, rfl, okc_10, by decide, tw_902⟩,
   ⟨dd_184_66, rfl⟩,
   ⟨rfl, tw_930, by decide, tw_12, by decide +kernel, 204, tw_931, dd_184_67, tw_932, ⟨"PairMachineModel", fT10, 45, rfl, tw_933⟩, by decide +kernel⟩,
   ⟨(-42), dd_184_70, rfl⟩,
   Or.inl ⟨0, rfl, dd_184_73, rfl⟩,
   Or.inl ⟨0, rfl, dd_184_74, rfl⟩,
   ⟨57, "PairMachineModel", fT10, 45, dd_184_75, rfl, okc_10, by decide, tw_816⟩,
   Or.inl ⟨0, rfl, dd_184_78, rfl⟩,
   ⟨178, "PairMachineModel", fT10, 45, dd_184_79, rfl, okc_10, by decide, tw_902⟩,
   ⟨dd_184_82, rfl⟩,
   Or.inl ⟨0, rfl, dd_184_83, rfl⟩,
   ⟨60, "PairMachineModel", fT10, 45, dd_184_84, rfl, okc_10, by decide, tw_817⟩,
   Or.inl ⟨0, rfl, dd_184_87, rfl⟩,
   ⟨178, "PairMachineModel", fT10, 45, dd_184_88, rfl, okc_10, by decide, tw_902⟩,
   ⟨dd_184_91, rfl⟩,
   ⟨rfl, tw_903, by decide, tw_12, by decide +kernel, 181, tw_904, dd_184_92, tw_905, ⟨"PairMachineModel", fT10, 45, rfl, tw_906⟩, by decide +kernel⟩,
   ⟨(-67), dd_184_95, rfl⟩,
   ⟨dd_184_98, rfl⟩, trivial⟩
theorem okM_184 : mj_okE gG 184 (cM_184, 1, oM_184, hM_184) := ⟨rfl, rfl, by decide +kernel, trivial, okI_184⟩
theorem dd_185_0 : decode prog_13_method_32_code 0 = .ok (.iconst 0, 1) := by decide +kernel
theorem dd_185_1 : decode prog_13_method_32_code 1 = .ok (.istore_n 1, 1) := by decide +kernel
theorem dd_185_2 : decode prog_13_method_32_code 2 = .ok (.iconst 0, 1) := by decide +kernel
theorem dd_185_3 : decode prog_13_method_32_code 3 = .ok (.istore_n 2, 1) := by decide +kernel
theorem dd_185_4 : decode prog_13_method_32_code 4 = .ok (.iload_n 2, 1) := by decide +kernel
theorem dd_185_5 : decode prog_13_method_32_code 5 = .ok (.aload_n 0, 1) := by decide +kernel
theorem dd_185_6 : decode prog_13_method_32_code 6 = .ok (.getfield 94, 3) := by decide +kernel
theorem dd_185_9 : decode prog_13_method_32_code 9 = .ok (.if_icmp .ge 26, 3) := by decide +kernel
theorem dd_185_12 : decode prog_13_method_32_code 12 = .ok (.aload_n 0, 1) := by decide +kernel
theorem dd_185_13 : decode prog_13_method_32_code 13 = .ok (.getfield 63, 3) := by decide +kernel
theorem dd_185_16 : decode prog_13_method_32_code 16 = .ok (.iload_n 2, 1) := by decide +kernel
theorem dd_185_17 : decode prog_13_method_32_code 17 = .ok (.baload, 1) := by decide +kernel
theorem dd_185_18 : decode prog_13_method_32_code 18 = .ok (.ifCond .eq 7, 3) := by decide +kernel
theorem dd_185_21 : decode prog_13_method_32_code 21 = .ok (.iload_n 1, 1) := by decide +kernel
theorem dd_185_22 : decode prog_13_method_32_code 22 = .ok (.goto 6, 3) := by decide +kernel
theorem dd_185_25 : decode prog_13_method_32_code 25 = .ok (.iload_n 1, 1) := by decide +kernel
theorem dd_185_26 : decode prog_13_method_32_code 26 = .ok (.iconst 1, 1) := by decide +kernel
theorem dd_185_27 : decode prog_13_method_32_code 27 = .ok (.iadd, 1) := by decide +kernel
theorem dd_185_28 : decode prog_13_method_32_code 28 = .ok (.istore_n 1, 1) := by decide +kernel
theorem dd_185_29 : decode prog_13_method_32_code 29 = .ok (.iinc 2 1, 3) := by decide +kernel
theorem dd_185_32 : decode prog_13_method_32_code 32 = .ok (.goto (-28), 3) := by decide +kernel
theorem dd_185_35 : decode prog_13_method_32_code 35 = .ok (.iload_n 1, 1) := by decide +kernel
theorem dd_185_36 : decode prog_13_method_32_code 36 = .ok (.ireturn, 1) := by decide +kernel
set_option maxRecDepth 100000 in
theorem okI_185 : mj_okI gG "PairMachineModel" prog_13_method_32_code 3 (mj_off oM_185) (Option.some Jvm.ClassFile.FieldType.int) false true 0 cM_185 :=
  ⟨Or.inl (Or.inl ⟨dd_185_0, rfl⟩),
   ⟨by decide, Or.inl ⟨1, rfl, dd_185_1, rfl⟩⟩,
   Or.inl (Or.inl ⟨dd_185_2, rfl⟩),
   ⟨by decide, Or.inl ⟨2, rfl, dd_185_3, rfl⟩⟩,
   Or.inl ⟨2, rfl, dd_185_4, rfl⟩,
   Or.inl ⟨0, rfl, dd_185_5, rfl⟩,
   ⟨94, "PairMachineModel", fT10, 45, dd_185_6, rfl, okc_10, by decide, tw_828⟩,
   ⟨26, dd_185_9, rfl, rfl⟩,
   Or.inl ⟨0, rfl, dd_185_12, rfl⟩,
   ⟨63, "PairMachineModel", fT10, 45, dd_185_13, rfl, okc_10, by decide, tw_818⟩,
   Or.inl ⟨2, rfl, dd_185_16, rfl⟩,
   ⟨dd_185_17, rfl⟩,
   ⟨7, dd_185_18, rfl, rfl⟩,
   Or.inl ⟨1, rfl, dd_185_21, rfl⟩,
   ⟨6, dd_185_22, rfl⟩,
   Or.inl ⟨1, rfl, dd_185_25, rfl⟩,
   Or.inl (Or.inl ⟨dd_185_26, rfl⟩),
   ⟨dd_185_27, rfl⟩,
   ⟨by decide, Or.inl ⟨1, rfl, dd_185_28, rfl⟩⟩,
   ⟨by decide, dd_185_29, rfl⟩,
   ⟨(-28), dd_185_32, rfl⟩,
   Or.inl ⟨1, rfl, dd_185_35, rfl⟩,
   ⟨dd_185_36, rfl⟩, trivial⟩
theorem okM_185 : mj_okE gG 185 (cM_185, 3, oM_185, hM_185) := ⟨rfl, rfl, by decide +kernel, trivial, okI_185⟩
theorem dd_186_0 : decode prog_13_method_33_code 0 = .ok (.iconst 0, 1) := by decide +kernel
theorem dd_186_1 : decode prog_13_method_33_code 1 = .ok (.istore 4, 2) := by decide +kernel
theorem dd_186_3 : decode prog_13_method_33_code 3 = .ok (.iload 4, 2) := by decide +kernel
theorem dd_186_5 : decode prog_13_method_33_code 5 = .ok (.aload_n 0, 1) := by decide +kernel
theorem dd_186_6 : decode prog_13_method_33_code 6 = .ok (.getfield 94, 3) := by decide +kernel
theorem dd_186_9 : decode prog_13_method_33_code 9 = .ok (.iconst 1, 1) := by decide +kernel
theorem dd_186_10 : decode prog_13_method_33_code 10 = .ok (.isub, 1) := by decide +kernel
theorem dd_186_11 : decode prog_13_method_33_code 11 = .ok (.if_icmp .ge 19, 3) := by decide +kernel
theorem dd_186_14 : decode prog_13_method_33_code 14 = .ok (.aload_n 0, 1) := by decide +kernel
theorem dd_186_15 : decode prog_13_method_33_code 15 = .ok (.getfield 63, 3) := by decide +kernel
theorem dd_186_18 : decode prog_13_method_33_code 18 = .ok (.iload 4, 2) := by decide +kernel
theorem dd_186_20 : decode prog_13_method_33_code 20 = .ok (.baload, 1) := by decide +kernel
theorem dd_186_21 : decode prog_13_method_33_code 21 = .ok (.ifCond .eq 9, 3) := by decide +kernel
theorem dd_186_24 : decode prog_13_method_33_code 24 = .ok (.iinc 4 1, 3) := by decide +kernel
theorem dd_186_27 : decode prog_13_method_33_code 27 = .ok (.goto (-24), 3) := by decide +kernel
theorem dd_186_30 : decode prog_13_method_33_code 30 = .ok (.aload_n 0, 1) := by decide +kernel
theorem dd_186_31 : decode prog_13_method_33_code 31 = .ok (.getfield 63, 3) := by decide +kernel
theorem dd_186_34 : decode prog_13_method_33_code 34 = .ok (.iload 4, 2) := by decide +kernel
theorem dd_186_36 : decode prog_13_method_33_code 36 = .ok (.iconst 1, 1) := by decide +kernel
theorem dd_186_37 : decode prog_13_method_33_code 37 = .ok (.bastore, 1) := by decide +kernel
theorem dd_186_38 : decode prog_13_method_33_code 38 = .ok (.aload_n 0, 1) := by decide +kernel
theorem dd_186_39 : decode prog_13_method_33_code 39 = .ok (.getfield 67, 3) := by decide +kernel
theorem dd_186_42 : decode prog_13_method_33_code 42 = .ok (.iload 4, 2) := by decide +kernel
theorem dd_186_44 : decode prog_13_method_33_code 44 = .ok (.iconst 0, 1) := by decide +kernel
theorem dd_186_45 : decode prog_13_method_33_code 45 = .ok (.bastore, 1) := by decide +kernel
theorem dd_186_46 : decode prog_13_method_33_code 46 = .ok (.aload_n 0, 1) := by decide +kernel
theorem dd_186_47 : decode prog_13_method_33_code 47 = .ok (.getfield 70, 3) := by decide +kernel
theorem dd_186_50 : decode prog_13_method_33_code 50 = .ok (.iload 4, 2) := by decide +kernel
theorem dd_186_52 : decode prog_13_method_33_code 52 = .ok (.iload_n 1, 1) := by decide +kernel
theorem dd_186_53 : decode prog_13_method_33_code 53 = .ok (.iastore, 1) := by decide +kernel
theorem dd_186_54 : decode prog_13_method_33_code 54 = .ok (.aload_n 0, 1) := by decide +kernel
theorem dd_186_55 : decode prog_13_method_33_code 55 = .ok (.getfield 73, 3) := by decide +kernel
theorem dd_186_58 : decode prog_13_method_33_code 58 = .ok (.iload 4, 2) := by decide +kernel
theorem dd_186_60 : decode prog_13_method_33_code 60 = .ok (.iload_n 2, 1) := by decide +kernel
theorem dd_186_61 : decode prog_13_method_33_code 61 = .ok (.iastore, 1) := by decide +kernel
theorem dd_186_62 : decode prog_13_method_33_code 62 = .ok (.aload_n 0, 1) := by decide +kernel
theorem dd_186_63 : decode prog_13_method_33_code 63 = .ok (.getfield 76, 3) := by decide +kernel
theorem dd_186_66 : decode prog_13_method_33_code 66 = .ok (.iload 4, 2) := by decide +kernel
theorem dd_186_68 : decode prog_13_method_33_code 68 = .ok (.iload_n 3, 1) := by decide +kernel
theorem dd_186_69 : decode prog_13_method_33_code 69 = .ok (.ifCond .ge 7, 3) := by decide +kernel
theorem dd_186_72 : decode prog_13_method_33_code 72 = .ok (.iconst 0, 1) := by decide +kernel
theorem dd_186_73 : decode prog_13_method_33_code 73 = .ok (.goto 4, 3) := by decide +kernel
theorem dd_186_76 : decode prog_13_method_33_code 76 = .ok (.iconst 3, 1) := by decide +kernel
theorem dd_186_77 : decode prog_13_method_33_code 77 = .ok (.iastore, 1) := by decide +kernel
theorem dd_186_78 : decode prog_13_method_33_code 78 = .ok (.aload_n 0, 1) := by decide +kernel
theorem dd_186_79 : decode prog_13_method_33_code 79 = .ok (.getfield 79, 3) := by decide +kernel
theorem dd_186_82 : decode prog_13_method_33_code 82 = .ok (.iload 4, 2) := by decide +kernel
theorem dd_186_84 : decode prog_13_method_33_code 84 = .ok (.iload_n 3, 1) := by decide +kernel
theorem dd_186_85 : decode prog_13_method_33_code 85 = .ok (.ifCond .ge 7, 3) := by decide +kernel
theorem dd_186_88 : decode prog_13_method_33_code 88 = .ok (.iconst 0, 1) := by decide +kernel
theorem dd_186_89 : decode prog_13_method_33_code 89 = .ok (.goto 4, 3) := by decide +kernel
theorem dd_186_92 : decode prog_13_method_33_code 92 = .ok (.iload_n 3, 1) := by decide +kernel
theorem dd_186_93 : decode prog_13_method_33_code 93 = .ok (.iastore, 1) := by decide +kernel
theorem dd_186_94 : decode prog_13_method_33_code 94 = .ok (.iload 4, 2) := by decide +kernel
theorem dd_186_96 : decode prog_13_method_33_code 96 = .ok (.ireturn, 1) := by decide +kernel
set_option maxRecDepth 100000 in
theorem okI_186 : mj_okI gG "PairMachineModel" prog_13_method_33_code 5 (mj_off oM_186) (Option.some Jvm.ClassFile.FieldType.int) false true 0 cM_186 :=
  ⟨Or.inl (Or.inl ⟨dd_186_0, rfl⟩),
   ⟨by decide, Or.inr ⟨dd_186_1, rfl⟩⟩,
   Or.inr ⟨dd_186_3, rfl⟩,
   Or.inl ⟨0, rfl, dd_186_5, rfl⟩,
   ⟨94, "PairMachineModel", fT10, 45, dd_186_6, rfl, okc_10, by decide, tw_828⟩,
   Or.inl (Or.inl ⟨dd_186_9, rfl⟩),
   ⟨dd_186_10, rfl⟩,
   ⟨19, dd_186_11, rfl, rfl⟩,
   Or.inl ⟨0, rfl, dd_186_14, rfl⟩,
   ⟨63, "PairMachineModel", fT10, 45, dd_186_15, rfl, okc_10, by decide, tw_818⟩,
   Or.inr ⟨dd_186_18, rfl⟩,
   ⟨dd_186_20, rfl⟩,
   ⟨9, dd_186_21, rfl, rfl⟩,
   ⟨by decide, dd_186_24, rfl⟩,
   ⟨(-24), dd_186_27, rfl⟩,
   Or.inl ⟨0, rfl, dd_186_30, rfl⟩,
   ⟨63, "PairMachineModel", fT10, 45, dd_186_31, rfl, okc_10, by decide, tw_818⟩,
   Or.inr ⟨dd_186_34, rfl⟩,
   Or.inl (Or.inl ⟨dd_186_36, rfl⟩),
   ⟨dd_186_37, rfl⟩,
   Or.inl ⟨0, rfl, dd_186_38, rfl⟩,
   ⟨67, "PairMachineModel", fT10, 45, dd_186_39, rfl, okc_10, by decide, tw_819⟩,
   Or.inr ⟨dd_186_42, rfl⟩,
   Or.inl (Or.inl ⟨dd_186_44, rfl⟩),
   ⟨dd_186_45, rfl⟩,
   Or.inl ⟨0, rfl, dd_186_46, rfl⟩,
   ⟨70, "PairMachineModel", fT10, 45, dd_186_47, rfl, okc_10, by decide, tw_820⟩,
   Or.inr ⟨dd_186_50, rfl⟩,
   Or.inl ⟨1, rfl, dd_186_52, rfl⟩,
   ⟨dd_186_53, rfl⟩,
   Or.inl ⟨0, rfl, dd_186_54, rfl⟩,
   ⟨73, "PairMachineModel", fT10, 45, dd_186_55, rfl, okc_10, by decide, tw_821⟩,
   Or.inr ⟨dd_186_58, rfl⟩,
   Or.inl ⟨2, rfl, dd_186_60, rfl⟩,
   ⟨dd_186_61, rfl⟩,
   Or.inl ⟨0, rfl, dd_186_62, rfl⟩,
   ⟨76, "PairMachineModel", fT10, 45, dd_186_63, rfl, okc_10, by decide, tw_822⟩,
   Or.inr ⟨dd_186_66, rfl⟩,
   Or.inl ⟨3, rfl, dd_186_68, rfl⟩,
   ⟨7, dd_186_69, rfl, rfl⟩,
   Or.inl (Or.inl ⟨dd_186_72, rfl⟩),
   ⟨4, dd_186_73, rfl⟩,
   Or.inl (Or.inl ⟨dd_186_76, rfl⟩),
   ⟨dd_186_77, rfl⟩,
   Or.inl ⟨0, rfl, dd_186_78, rfl⟩,
   ⟨79, "PairMachineModel", fT10, 45, dd_186_79, rfl, okc_10, by decide, tw_823⟩,
   Or.inr ⟨dd_186_82, rfl⟩,
   Or.inl ⟨3, rfl, dd_186_84, rfl⟩,
   ⟨7, dd_186_85, rfl, rfl⟩,
   Or.inl (Or.inl ⟨dd_186_88, rfl⟩),
   ⟨4, dd_186_89, rfl⟩,
   Or.inl ⟨3, rfl, dd_186_92, rfl⟩,
   ⟨dd_186_93, rfl⟩,
   Or.inr ⟨dd_186_94, rfl⟩,
   ⟨dd_186_96, rfl⟩, trivial⟩
theorem okM_186 : mj_okE gG 186 (cM_186, 5, oM_186, hM_186) := ⟨rfl, rfl, by decide +kernel, trivial, okI_186⟩
theorem dd_187_0 : decode prog_13_method_34_code 0 = .ok (.aload_n 0, 1) := by decide +kernel
theorem dd_187_1 : decode prog_13_method_34_code 1 = .ok (.iload_n 1, 1) := by decide +kernel
theorem dd_187_2 : decode prog_13_method_34_code 2 = .ok (.ifCond .ge 7, 3) := by decide +kernel
theorem dd_187_5 : decode prog_13_method_34_code 5 = .ok (.iconst 0, 1) := by decide +kernel
theorem dd_187_6 : decode prog_13_method_34_code 6 = .ok (.goto 4, 3) := by decide +kernel
theorem dd_187_9 : decode prog_13_method_34_code 9 = .ok (.iconst 3, 1) := by decide +kernel
theorem dd_187_10 : decode prog_13_method_34_code 10 = .ok (.iload_n 1, 1) := by decide +kernel
theorem dd_187_11 : decode prog_13_method_34_code 11 = .ok (.ifCond .ge 7, 3) := by decide +kernel
theorem dd_187_14 : decode prog_13_method_34_code 14 = .ok (.iconst 0, 1) := by decide +kernel
theorem dd_187_15 : decode prog_13_method_34_code 15 = .ok (.goto 4, 3) := by decide +kernel
theorem dd_187_18 : decode prog_13_method_34_code 18 = .ok (.iload_n 1, 1) := by decide +kernel
theorem dd_187_19 : decode prog_13_method_34_code 19 = .ok (.iload_n 2, 1) := by decide +kernel
theorem dd_187_20 : decode prog_13_method_34_code 20 = .ok (.invokevirtual 207, 3) := by decide +kernel
theorem dd_187_23 : decode prog_13_method_34_code 23 = .ok (.ireturn, 1) := by decide +kernel
set_option maxRecDepth 100000 in
theorem okI_187 : mj_okI gG "PairMachineModel" prog_13_method_34_code 3 (mj_off oM_187) (Option.some Jvm.ClassFile.FieldType.int) false true 0 cM_187 :=
  ⟨Or.inl ⟨0, rfl, dd_187_0, rfl⟩,
   Or.inl ⟨1, rfl, dd_187_1, rfl⟩,
   ⟨7, dd_187_2, rfl, rfl⟩,
   Or.inl (Or.inl ⟨dd_187_5, rfl⟩),
   ⟨4, dd_187_6, rfl⟩,
   Or.inl (Or.inl ⟨dd_187_9, rfl⟩),
   Or.inl ⟨1, rfl, dd_187_10, rfl⟩,
   ⟨7, dd_187_11, rfl, rfl⟩,
   Or.inl (Or.inl ⟨dd_187_14, rfl⟩),
   ⟨4, dd_187_15, rfl⟩,
   Or.inl ⟨1, rfl, dd_187_18, rfl⟩,
   Or.inl ⟨2, rfl, dd_187_19, rfl⟩,
   ⟨rfl, tw_934, by decide, tw_12, by decide +kernel, 207, tw_935, dd_187_20, tw_936, ⟨"PairMachineModel", fT10, 45, rfl, tw_937⟩, by decide +kernel⟩,
   ⟨dd_187_23, rfl⟩, trivial⟩
theorem okM_187 : mj_okE gG 187 (cM_187, 3, oM_187, hM_187) := ⟨rfl, rfl, by decide +kernel, trivial, okI_187⟩
theorem dd_188_0 : decode prog_13_method_35_code 0 = .ok (.iconst (-1), 1) := by decide +kernel
theorem dd_188_1 : decode prog_13_method_35_code 1 = .ok (.istore_n 1, 1) := by decide +kernel
theorem dd_188_2 : decode prog_13_method_35_code 2 = .ok (.aload_n 0, 1) := by decide +kernel
theorem dd_188_3 : decode prog_13_method_35_code 3 = .ok (.iconst 0, 1) := by decide +kernel
theorem dd_188_4 : decode prog_13_method_35_code 4 = .ok (.putfield 211, 3) := by decide +kernel
theorem dd_188_7 : decode prog_13_method_35_code 7 = .ok (.aload_n 0, 1) := by decide +kernel
theorem dd_188_8 : decode prog_13_method_35_code 8 = .ok (.getfield 172, 3) := by decide +kernel
theorem dd_188_11 : decode prog_13_method_35_code 11 = .ok (.iconst 1, 1) := by decide +kernel
theorem dd_188_12 : decode prog_13_method_35_code 12 = .ok (.isub, 1) := by decide +kernel
theorem dd_188_13 : decode prog_13_method_35_code 13 = .ok (.istore_n 2, 1) := by decide +kernel
theorem dd_188_14 : decode prog_13_method_35_code 14 = .ok (.iload_n 2, 1) := by decide +kernel
theorem dd_188_15 : decode prog_13_method_35_code 15 = .ok (.ifCond .lt 100, 3) := by decide +kernel
theorem dd_188_18 : decode prog_13_method_35_code 18 = .ok (.aload_n 0, 1) := by decide +kernel
theorem dd_188_19 : decode prog_13_method_35_code 19 = .ok (.getfield 51, 3) := by decide +kernel
theorem dd_188_22 : decode prog_13_method_35_code 22 = .ok (.iload_n 2, 1) := by decide +kernel
theorem dd_188_23 : decode prog_13_method_35_code 23 = .ok (.iaload, 1) := by decide +kernel
theorem dd_188_24 : decode prog_13_method_35_code 24 = .ok (.iconst 5, 1) := by decide +kernel
theorem dd_188_25 : decode prog_13_method_35_code 25 = .ok (.if_icmp .ne 28, 3) := by decide +kernel
theorem dd_188_28 : decode prog_13_method_35_code 28 = .ok (.aload_n 0, 1) := by decide +kernel
theorem dd_188_29 : decode prog_13_method_35_code 29 = .ok (.getfield 85, 3) := by decide +kernel
theorem dd_188_32 : decode prog_13_method_35_code 32 = .ok (.aload_n 0, 1) := by decide +kernel
theorem dd_188_33 : decode prog_13_method_35_code 33 = .ok (.getfield 211, 3) := by decide +kernel
theorem dd_188_36 : decode prog_13_method_35_code 36 = .ok (.iload_n 1, 1) := by decide +kernel
theorem dd_188_37 : decode prog_13_method_35_code 37 = .ok (.iastore, 1) := by decide +kernel
theorem dd_188_38 : decode prog_13_method_35_code 38 = .ok (.aload_n 0, 1) := by decide +kernel
theorem dd_188_39 : decode prog_13_method_35_code 39 = .ok (.dup, 1) := by decide +kernel
theorem dd_188_40 : decode prog_13_method_35_code 40 = .ok (.getfield 211, 3) := by decide +kernel
theorem dd_188_43 : decode prog_13_method_35_code 43 = .ok (.iconst 1, 1) := by decide +kernel
theorem dd_188_44 : decode prog_13_method_35_code 44 = .ok (.iadd, 1) := by decide +kernel
theorem dd_188_45 : decode prog_13_method_35_code 45 = .ok (.putfield 211, 3) := by decide +kernel
theorem dd_188_48 : decode prog_13_method_35_code 48 = .ok (.iconst (-1), 1) := by decide +kernel
theorem dd_188_49 : decode prog_13_method_35_code 49 = .ok (.istore_n 1, 1) := by decide +kernel
theorem dd_188_50 : decode prog_13_method_35_code 50 = .ok (.goto 59, 3) := by decide +kernel
theorem dd_188_53 : decode prog_13_method_35_code 53 = .ok (.aload_n 0, 1) := by decide +kernel
theorem dd_188_54 : decode prog_13_method_35_code 54 = .ok (.getfield 51, 3) := by decide +kernel
theorem dd_188_57 : decode prog_13_method_35_code 57 = .ok (.iload_n 2, 1) := by decide +kernel
theorem dd_188_58 : decode prog_13_method_35_code 58 = .ok (.iaload, 1) := by decide +kernel
theorem dd_188_59 : decode prog_13_method_35_code 59 = .ok (.iconst 4, 1) := by decide +kernel
theorem dd_188_60 : decode prog_13_method_35_code 60 = .ok (.if_icmp .ne 31, 3) := by decide +kernel
theorem dd_188_63 : decode prog_13_method_35_code 63 = .ok (.aload_n 0, 1) := by decide +kernel
theorem dd_188_64 : decode prog_13_method_35_code 64 = .ok (.dup, 1) := by decide +kernel
theorem dd_188_65 : decode prog_13_method_35_code 65 = .ok (.getfield 211, 3) := by decide +kernel
theorem dd_188_68 : decode prog_13_method_35_code 68 = .ok (.iconst 1, 1) := by decide +kernel
theorem dd_188_69 : decode prog_13_method_35_code 69 = .ok (.isub, 1) := by decide +kernel
theorem dd_188_70 : decode prog_13_method_35_code 70 = .ok (.putfield 211, 3) := by decide +kernel
theorem dd_188_73 : decode prog_13_method_35_code 73 = .ok (.aload_n 0, 1) := by decide +kernel
theorem dd_188_74 : decode prog_13_method_35_code 74 = .ok (.iload_n 1, 1) := by decide +kernel
theorem dd_188_75 : decode prog_13_method_35_code 75 = .ok (.aload_n 0, 1) := by decide +kernel
theorem dd_188_76 : decode prog_13_method_35_code 76 = .ok (.getfield 85, 3) := by decide +kernel
theorem dd_188_79 : decode prog_13_method_35_code 79 = .ok (.aload_n 0, 1) := by decide +kernel
theorem dd_188_80 : decode prog_13_method_35_code 80 = .ok (.getfield 211, 3) := by decide +kernel
theorem dd_188_83 : decode prog_13_method_35_code 83 = .ok (.iaload, 1) := by decide +kernel
theorem dd_188_84 : decode prog_13_method_35_code 84 = .ok (.invokevirtual 214, 3) := by decide +kernel
theorem dd_188_87 : decode prog_13_method_35_code 87 = .ok (.istore_n 1, 1) := by decide +kernel
theorem dd_188_88 : decode prog_13_method_35_code 88 = .ok (.goto 21, 3) := by decide +kernel
theorem dd_188_91 : decode prog_13_method_35_code 91 = .ok (.aload_n 0, 1) := by decide +kernel
theorem dd_188_92 : decode prog_13_method_35_code 92 = .ok (.aload_n 0, 1) := by decide +kernel
theorem dd_188_93 : decode prog_13_method_35_code 93 = .ok (.getfield 51, 3) := by decide +kernel
theorem dd_188_96 : decode prog_13_method_35_code 96 = .ok (.iload_n 2, 1) := by decide +kernel
theorem dd_188_97 : decode prog_13_method_35_code 97 = .ok (.iaload, 1) := by decide +kernel
theorem dd_188_98 : decode prog_13_method_35_code 98 = .ok (.aload_n 0, 1) := by decide +kernel
theorem dd_188_99 : decode prog_13_method_35_code 99 = .ok (.getfield 54, 3) := by decide +kernel
theorem dd_188_102 : decode prog_13_method_35_code 102 = .ok (.iload_n 2, 1) := by decide +kernel
theorem dd_188_103 : decode prog_13_method_35_code 103 = .ok (.iaload, 1) := by decide +kernel
theorem dd_188_104 : decode prog_13_method_35_code 104 = .ok (.iload_n 1, 1) := by decide +kernel
theorem dd_188_105 : decode prog_13_method_35_code 105 = .ok (.invokevirtual 207, 3) := by decide +kernel
theorem dd_188_108 : decode prog_13_method_35_code 108 = .ok (.istore_n 1, 1) := by decide +kernel
theorem dd_188_109 : decode prog_13_method_35_code 109 = .ok (.iinc 2 (-1), 3) := by decide +kernel
theorem dd_188_112 : decode prog_13_method_35_code 112 = .ok (.goto (-98), 3) := by decide +kernel
theorem dd_188_115 : decode prog_13_method_35_code 115 = .ok (.iload_n 1, 1) := by decide +kernel
theorem dd_188_116 : decode prog_13_method_35_code 116 = .ok (.ireturn, 1) := by decide +kernel
set_option maxRecDepth 100000 in
theorem okI_188 : mj_okI gG "PairMachineModel" prog_13_method_35_code 3 (mj_off oM_188) (Option.some Jvm.ClassFile.FieldType.int) false true 0 cM_188 :=
  ⟨Or.inl (Or.inl ⟨dd_188_0, rfl⟩),
   ⟨by decide, Or.inl ⟨1, rfl, dd_188_1, rfl⟩⟩,
   Or.inl ⟨0, rfl, dd_188_2, rfl⟩,
   Or.inl (Or.inl ⟨dd_188_3, rfl⟩),
   ⟨211, "PairMachineModel", fT10, 45, dd_188_4, rfl, okc_10, by decide, tw_938, rfl, Or.inl rfl⟩,
   Or.inl ⟨0, rfl, dd_188_7, rfl⟩,
   ⟨172, "PairMachineModel", fT10, 45, dd_188_8, rfl, okc_10, by decide, tw_900⟩,
   Or.inl (Or.inl ⟨dd_188_11, rfl⟩),
   ⟨dd_188_12, rfl⟩,
   ⟨by decide, Or.inl ⟨2, rfl, dd_188_13, rfl⟩⟩,
   Or.inl ⟨2, rfl, dd_188_14, rfl⟩,
   ⟨100, dd_188_15, rfl, rfl⟩,
   Or.inl ⟨0, rfl, dd_188_18, rfl⟩,
   ⟨51, "PairMachineModel", fT10, 45, dd_188_19, rfl, okc_10, by decide, tw_814⟩,
   Or.inl ⟨2, rfl, dd_188_22, rfl⟩,
   ⟨dd_188_23, rfl⟩,
   Or.inl (Or.inl ⟨dd_188_24, rfl⟩),
   ⟨28, dd_188_25, rfl, rfl⟩,
   Or.inl ⟨0, rfl, dd_188_28, rfl⟩,
   ⟨85, "PairMachineModel", fT10, 45, dd_188_29, rfl, okc_10, by decide, tw_825⟩,
   Or.inl ⟨0, rfl, dd_188_32, rfl⟩,
   ⟨211, "PairMachineModel", fT10, 45, dd_188_33, rfl, okc_10, by decide, tw_938⟩,
   Or.inl ⟨1, rfl, dd_188_36, rfl⟩,
   ⟨dd_188_37, rfl⟩,
   Or.inl ⟨0, rfl, dd_188_38, rfl⟩,
   ⟨dd_188_39, rfl⟩,
   ⟨211, "PairMachineModel", fT10, 45, dd_188_40, rfl, okc_10, by decide, tw_938⟩,
   Or.inl (Or.inl ⟨dd_188_43, rfl⟩),
   ⟨dd_188_44, rfl⟩,
   ⟨211, "PairMachineModel", fT10, 45, dd_188_45, rfl, okc_10, by decide, tw_938, rfl, Or.inl rfl⟩,
   Or.inl (Or.inl ⟨dd_188_48, rfl⟩),
   ⟨by decide, Or.inl ⟨1, rfl, dd_188_49, rfl⟩⟩,
   ⟨59, dd_188_50, rfl⟩,
   Or.inl ⟨0, rfl, dd_188_53, rfl⟩,
   ⟨51, "PairMachineModel", fT10, 45, dd_188_54, rfl, okc_10, by decide, tw_814⟩,
   Or.inl ⟨2, rfl, dd_188_57, rfl⟩,
   ⟨dd_188_58, rfl⟩,
   Or.inl (Or.inl ⟨dd_188_59, rfl⟩),
   ⟨31, dd_188_60, rfl, rfl⟩,
   Or.inl ⟨0, rfl, dd_188_63, rfl⟩,
   ⟨dd_188_64, rfl⟩,
   ⟨211, "PairMachineModel", fT10, 45, dd_188_65, rfl, okc_10, by decide, tw_938⟩,
   Or.inl (Or.inl ⟨dd_188_68, rfl⟩),
   ⟨dd_188_69, rfl⟩,
   ⟨211, "PairMachineModel", fT10, 45, dd_188_70, rfl, okc_10, by decide, tw_938, rfl, Or.inl rfl⟩,
   Or.inl ⟨0, rfl, dd_188_73, rfl⟩,
   Or.inl ⟨1, rfl, dd_188_74, rfl⟩,
   Or.inl ⟨0, rfl, dd_188_75, rfl⟩,
   ⟨85, "PairMachineModel", fT10, 45, dd_188_76, rfl, okc_10, by decide, tw_825⟩,
   Or.inl ⟨0, rfl, dd_188_79, rfl⟩,
   ⟨211, "PairMachineModel", fT10, 45, dd_188_80, rfl, okc_10, by decide, tw_938⟩,
   ⟨dd_188_83, rfl⟩,
   ⟨rfl, tw_939, by decide, tw_12, by decide +kernel, 214, tw_940, dd_188_84, tw_941, ⟨"PairMachineModel", fT10, 45, rfl, tw_942⟩, by decide +kernel⟩,
   ⟨by decide, Or.inl ⟨1, rfl, dd_188_87, rfl⟩⟩,
   ⟨21, dd_188_88, rfl⟩,
   Or.inl ⟨0, rfl, dd_188_91, rfl⟩,
   Or.inl ⟨0, rfl, dd_188_92, rfl⟩,
   ⟨51, "PairMachineModel", fT10, 45, dd_188_93, rfl, okc_10, by decide, tw_814⟩,
   Or.inl ⟨2, rfl, dd_188_96, rfl⟩,
   ⟨dd_188_97, rfl⟩,
   Or.inl ⟨0, rfl, dd_188_98, rfl⟩,
   ⟨54, "PairMachineModel", fT10, 45, dd_188_99, rfl, okc_10, by decide, tw_815⟩,
   Or.inl ⟨2, rfl, dd_188_102, rfl⟩,
   ⟨dd_188_103, rfl⟩,
   Or.inl ⟨1, rfl, dd_188_104, rfl⟩,
   ⟨rfl, tw_934, by decide, tw_12, by decide +kernel, 207, tw_935, dd_188_105, tw_936, ⟨"PairMachineModel", fT10, 45, rfl, tw_937⟩, by decide +kernel⟩,
   ⟨by decide, Or.inl ⟨1, rfl, dd_188_108, rfl⟩⟩,
   ⟨by decide, dd_188_109, rfl⟩,
   ⟨(-98), dd_188_112, rfl⟩,
   Or.inl ⟨1, rfl, dd_188_115, rfl⟩,
   ⟨dd_188_116, rfl⟩, trivial⟩
theorem okM_188 : mj_okE gG 188 (cM_188, 3, oM_188, hM_188) := ⟨rfl, rfl, by decide +kernel, trivial, okI_188⟩
theorem dd_189_0 : decode prog_13_method_36_code 0 = .ok (.iload_n 1, 1) := by decide +kernel
theorem dd_189_1 : decode prog_13_method_36_code 1 = .ok (.iconst 3, 1) := by decide +kernel
theorem dd_189_2 : decode prog_13_method_36_code 2 = .ok (.if_icmp .ne 39, 3) := by decide +kernel
theorem dd_189_5 : decode prog_13_method_36_code 5 = .ok (.aload_n 0, 1) := by decide +kernel
theorem dd_189_6 : decode prog_13_method_36_code 6 = .ok (.getfield 82, 3) := by decide +kernel
theorem dd_189_9 : decode prog_13_method_36_code 9 = .ok (.iload_n 2, 1) := by decide +kernel
theorem dd_189_10 : decode prog_13_method_36_code 10 = .ok (.baload, 1) := by decide +kernel
theorem dd_189_11 : decode prog_13_method_36_code 11 = .ok (.ifCond .ne 30, 3) := by decide +kernel
theorem dd_189_14 : decode prog_13_method_36_code 14 = .ok (.aload_n 0, 1) := by decide +kernel
theorem dd_189_15 : decode prog_13_method_36_code 15 = .ok (.getfield 82, 3) := by decide +kernel
theorem dd_189_18 : decode prog_13_method_36_code 18 = .ok (.iload_n 2, 1) := by decide +kernel
theorem dd_189_19 : decode prog_13_method_36_code 19 = .ok (.iconst 1, 1) := by decide +kernel
theorem dd_189_20 : decode prog_13_method_36_code 20 = .ok (.bastore, 1) := by decide +kernel
theorem dd_189_21 : decode prog_13_method_36_code 21 = .ok (.aload_n 0, 1) := by decide +kernel
theorem dd_189_22 : decode prog_13_method_36_code 22 = .ok (.getfield 85, 3) := by decide +kernel
theorem dd_189_25 : decode prog_13_method_36_code 25 = .ok (.aload_n 0, 1) := by decide +kernel
theorem dd_189_26 : decode prog_13_method_36_code 26 = .ok (.getfield 211, 3) := by decide +kernel
theorem dd_189_29 : decode prog_13_method_36_code 29 = .ok (.iload_n 2, 1) := by decide +kernel
theorem dd_189_30 : decode prog_13_method_36_code 30 = .ok (.iastore, 1) := by decide +kernel
theorem dd_189_31 : decode prog_13_method_36_code 31 = .ok (.aload_n 0, 1) := by decide +kernel
theorem dd_189_32 : decode prog_13_method_36_code 32 = .ok (.dup, 1) := by decide +kernel
theorem dd_189_33 : decode prog_13_method_36_code 33 = .ok (.getfield 211, 3) := by decide +kernel
theorem dd_189_36 : decode prog_13_method_36_code 36 = .ok (.iconst 1, 1) := by decide +kernel
theorem dd_189_37 : decode prog_13_method_36_code 37 = .ok (.iadd, 1) := by decide +kernel
theorem dd_189_38 : decode prog_13_method_36_code 38 = .ok (.putfield 211, 3) := by decide +kernel
theorem dd_189_41 : decode prog_13_method_36_code 41 = .ok (.return_, 1) := by decide +kernel
set_option maxRecDepth 100000 in
theorem okI_189 : mj_okI gG "PairMachineModel" prog_13_method_36_code 3 (mj_off oM_189) (Option.none : Option Jvm.ClassFile.FieldType) false true 0 cM_189 :=
  ⟨Or.inl ⟨1, rfl, dd_189_0, rfl⟩,
   Or.inl (Or.inl ⟨dd_189_1, rfl⟩),
   ⟨39, dd_189_2, rfl, rfl⟩,
   Or.inl ⟨0, rfl, dd_189_5, rfl⟩,
   ⟨82, "PairMachineModel", fT10, 45, dd_189_6, rfl, okc_10, by decide, tw_824⟩,
   Or.inl ⟨2, rfl, dd_189_9, rfl⟩,
   ⟨dd_189_10, rfl⟩,
   ⟨30, dd_189_11, rfl, rfl⟩,
   Or.inl ⟨0, rfl, dd_189_14, rfl⟩,
   ⟨82, "PairMachineModel", fT10, 45, dd_189_15, rfl, okc_10, by decide, tw_824⟩,
   Or.inl ⟨2, rfl, dd_189_18, rfl⟩,
   Or.inl (Or.inl ⟨dd_189_19, rfl⟩),
   ⟨dd_189_20, rfl⟩,
   Or.inl ⟨0, rfl, dd_189_21, rfl⟩,
   ⟨85, "PairMachineModel", fT10, 45, dd_189_22, rfl, okc_10, by decide, tw_825⟩,
   Or.inl ⟨0, rfl, dd_189_25, rfl⟩,
   ⟨211, "PairMachineModel", fT10, 45, dd_189_26, rfl, okc_10, by decide, tw_938⟩,
   Or.inl ⟨2, rfl, dd_189_29, rfl⟩,
   ⟨dd_189_30, rfl⟩,
   Or.inl ⟨0, rfl, dd_189_31, rfl⟩,
   ⟨dd_189_32, rfl⟩,
   ⟨211, "PairMachineModel", fT10, 45, dd_189_33, rfl, okc_10, by decide, tw_938⟩,
   Or.inl (Or.inl ⟨dd_189_36, rfl⟩),
   ⟨dd_189_37, rfl⟩,
   ⟨211, "PairMachineModel", fT10, 45, dd_189_38, rfl, okc_10, by decide, tw_938, rfl, Or.inl rfl⟩,
   ⟨dd_189_41, rfl⟩, trivial⟩
theorem okM_189 : mj_okE gG 189 (cM_189, 3, oM_189, hM_189) := ⟨rfl, rfl, by decide +kernel, trivial, okI_189⟩
theorem dd_190_0 : decode prog_13_method_37_code 0 = .ok (.iconst 0, 1) := by decide +kernel
theorem dd_190_1 : decode prog_13_method_37_code 1 = .ok (.istore_n 1, 1) := by decide +kernel
theorem dd_190_2 : decode prog_13_method_37_code 2 = .ok (.iload_n 1, 1) := by decide +kernel
theorem dd_190_3 : decode prog_13_method_37_code 3 = .ok (.aload_n 0, 1) := by decide +kernel
theorem dd_190_4 : decode prog_13_method_37_code 4 = .ok (.getfield 94, 3) := by decide +kernel
theorem dd_190_7 : decode prog_13_method_37_code 7 = .ok (.if_icmp .ge 16, 3) := by decide +kernel
theorem dd_190_10 : decode prog_13_method_37_code 10 = .ok (.aload_n 0, 1) := by decide +kernel
theorem dd_190_11 : decode prog_13_method_37_code 11 = .ok (.getfield 82, 3) := by decide +kernel
theorem dd_190_14 : decode prog_13_method_37_code 14 = .ok (.iload_n 1, 1) := by decide +kernel
theorem dd_190_15 : decode prog_13_method_37_code 15 = .ok (.iconst 0, 1) := by decide +kernel
theorem dd_190_16 : decode prog_13_method_37_code 16 = .ok (.bastore, 1) := by decide +kernel
theorem dd_190_17 : decode prog_13_method_37_code 17 = .ok (.iinc 1 1, 3) := by decide +kernel
theorem dd_190_20 : decode prog_13_method_37_code 20 = .ok (.goto (-18), 3) := by decide +kernel
theorem dd_190_23 : decode prog_13_method_37_code 23 = .ok (.aload_n 0, 1) := by decide +kernel
theorem dd_190_24 : decode prog_13_method_37_code 24 = .ok (.iconst 0, 1) := by decide +kernel
theorem dd_190_25 : decode prog_13_method_37_code 25 = .ok (.putfield 211, 3) := by decide +kernel
theorem dd_190_28 : decode prog_13_method_37_code 28 = .ok (.iconst 0, 1) := by decide +kernel
theorem dd_190_29 : decode prog_13_method_37_code 29 = .ok (.istore_n 1, 1) := by decide +kernel
theorem dd_190_30 : decode prog_13_method_37_code 30 = .ok (.iload_n 1, 1) := by decide +kernel
theorem dd_190_31 : decode prog_13_method_37_code 31 = .ok (.iconst 5, 1) := by decide +kernel
theorem dd_190_32 : decode prog_13_method_37_code 32 = .ok (.if_icmp .ge 33, 3) := by decide +kernel
theorem dd_190_35 : decode prog_13_method_37_code 35 = .ok (.aload_n 0, 1) := by decide +kernel
theorem dd_190_36 : decode prog_13_method_37_code 36 = .ok (.aload_n 0, 1) := by decide +kernel
theorem dd_190_37 : decode prog_13_method_37_code 37 = .ok (.getfield 88, 3) := by decide +kernel
theorem dd_190_40 : decode prog_13_method_37_code 40 = .ok (.iload_n 1, 1) := by decide +kernel
theorem dd_190_41 : decode prog_13_method_37_code 41 = .ok (.iaload, 1) := by decide +kernel
theorem dd_190_42 : decode prog_13_method_37_code 42 = .ok (.ifCond .ge 7, 3) := by decide +kernel
theorem dd_190_45 : decode prog_13_method_37_code 45 = .ok (.iconst 0, 1) := by decide +kernel
theorem dd_190_46 : decode prog_13_method_37_code 46 = .ok (.goto 4, 3) := by decide +kernel
theorem dd_190_49 : decode prog_13_method_37_code 49 = .ok (.iconst 3, 1) := by decide +kernel
theorem dd_190_50 : decode prog_13_method_37_code 50 = .ok (.aload_n 0, 1) := by decide +kernel
theorem dd_190_51 : decode prog_13_method_37_code 51 = .ok (.getfield 88, 3) := by decide +kernel
theorem dd_190_54 : decode prog_13_method_37_code 54 = .ok (.iload_n 1, 1) := by decide +kernel
theorem dd_190_55 : decode prog_13_method_37_code 55 = .ok (.iaload, 1) := by decide +kernel
theorem dd_190_56 : decode prog_13_method_37_code 56 = .ok (.invokevirtual 217, 3) := by decide +kernel
theorem dd_190_59 : decode prog_13_method_37_code 59 = .ok (.iinc 1 1, 3) := by decide +kernel
theorem dd_190_62 : decode prog_13_method_37_code 62 = .ok (.goto (-32), 3) := by decide +kernel
theorem dd_190_65 : decode prog_13_method_37_code 65 = .ok (.iconst 0, 1) := by decide +kernel
theorem dd_190_66 : decode prog_13_method_37_code 66 = .ok (.istore_n 1, 1) := by decide +kernel
theorem dd_190_67 : decode prog_13_method_37_code 67 = .ok (.aload_n 0, 1) := by decide +kernel
theorem dd_190_68 : decode prog_13_method_37_code 68 = .ok (.getfield 211, 3) := by decide +kernel
theorem dd_190_71 : decode prog_13_method_37_code 71 = .ok (.ifCond .le 61, 3) := by decide +kernel
theorem dd_190_74 : decode prog_13_method_37_code 74 = .ok (.aload_n 0, 1) := by decide +kernel
theorem dd_190_75 : decode prog_13_method_37_code 75 = .ok (.dup, 1) := by decide +kernel
theorem dd_190_76 : decode prog_13_method_37_code 76 = .ok (.getfield 211, 3) := by decide +kernel
theorem dd_190_79 : decode prog_13_method_37_code 79 = .ok (.iconst 1, 1) := by decide +kernel
theorem dd_190_80 : decode prog_13_method_37_code 80 = .ok (.isub, 1) := by decide +kernel
theorem dd_190_81 : decode prog_13_method_37_code 81 = .ok (.putfield 211, 3) := by decide +kernel
theorem dd_190_84 : decode prog_13_method_37_code 84 = .ok (.aload_n 0, 1) := by decide +kernel
theorem dd_190_85 : decode prog_13_method_37_code 85 = .ok (.getfield 85, 3) := by decide +kernel
theorem dd_190_88 : decode prog_13_method_37_code 88 = .ok (.aload_n 0, 1) := by decide +kernel
theorem dd_190_89 : decode prog_13_method_37_code 89 = .ok (.getfield 211, 3) := by decide +kernel
theorem dd_190_92 : decode prog_13_method_37_code 92 = .ok (.iaload, 1) := by decide +kernel
theorem dd_190_93 : decode prog_13_method_37_code 93 = .ok (.istore_n 2, 1) := by decide +kernel
theorem dd_190_94 : decode prog_13_method_37_code 94 = .ok (.iinc 1 1, 3) := by decide +kernel
theorem dd_190_97 : decode prog_13_method_37_code 97 = .ok (.aload_n 0, 1) := by decide +kernel
theorem dd_190_98 : decode prog_13_method_37_code 98 = .ok (.aload_n 0, 1) := by decide +kernel
theorem dd_190_99 : decode prog_13_method_37_code 99 = .ok (.getfield 70, 3) := by decide +kernel
theorem dd_190_102 : decode prog_13_method_37_code 102 = .ok (.iload_n 2, 1) := by decide +kernel
theorem dd_190_103 : decode prog_13_method_37_code 103 = .ok (.iaload, 1) := by decide +kernel
theorem dd_190_104 : decode prog_13_method_37_code 104 = .ok (.aload_n 0, 1) := by decide +kernel
theorem dd_190_105 : decode prog_13_method_37_code 105 = .ok (.getfield 73, 3) := by decide +kernel
theorem dd_190_108 : decode prog_13_method_37_code 108 = .ok (.iload_n 2, 1) := by decide +kernel
theorem dd_190_109 : decode prog_13_method_37_code 109 = .ok (.iaload, 1) := by decide +kernel
theorem dd_190_110 : decode prog_13_method_37_code 110 = .ok (.invokevirtual 217, 3) := by decide +kernel
theorem dd_190_113 : decode prog_13_method_37_code 113 = .ok (.aload_n 0, 1) := by decide +kernel
theorem dd_190_114 : decode prog_13_method_37_code 114 = .ok (.aload_n 0, 1) := by decide +kernel
theorem dd_190_115 : decode prog_13_method_37_code 115 = .ok (.getfield 76, 3) := by decide +kernel
theorem dd_190_118 : decode prog_13_method_37_code 118 = .ok (.iload_n 2, 1) := by decide +kernel
theorem dd_190_119 : decode prog_13_method_37_code 119 = .ok (.iaload, 1) := by decide +kernel
theorem dd_190_120 : decode prog_13_method_37_code 120 = .ok (.aload_n 0, 1) := by decide +kernel
theorem dd_190_121 : decode prog_13_method_37_code 121 = .ok (.getfield 79, 3) := by decide +kernel
theorem dd_190_124 : decode prog_13_method_37_code 124 = .ok (.iload_n 2, 1) := by decide +kernel
theorem dd_190_125 : decode prog_13_method_37_code 125 = .ok (.iaload, 1) := by decide +kernel
theorem dd_190_126 : decode prog_13_method_37_code 126 = .ok (.invokevirtual 217, 3) := by decide +kernel
theorem dd_190_129 : decode prog_13_method_37_code 129 = .ok (.goto (-62), 3) := by decide +kernel
theorem dd_190_132 : decode prog_13_method_37_code 132 = .ok (.iload_n 1, 1) := by decide +kernel
theorem dd_190_133 : decode prog_13_method_37_code 133 = .ok (.ireturn, 1) := by decide +kernel
set_option maxRecDepth 100000 in
theorem okI_190 : mj_okI gG "PairMachineModel" prog_13_method_37_code 3 (mj_off oM_190) (Option.some Jvm.ClassFile.FieldType.int) false true 0 cM_190 :=
  ⟨Or.inl (Or.inl ⟨dd_190_0, rfl⟩),
   ⟨by decide, Or.inl ⟨1, rfl, dd_190_1, rfl⟩⟩,
   Or.inl ⟨1, rfl, dd_190_2, rfl⟩,
   Or.inl ⟨0, rfl, dd_190_3, rfl⟩,
   ⟨94, "PairMachineModel", fT10, 45, dd_190_4, rfl, okc_10, by decide, tw_828⟩,
   ⟨16, dd_190_7, rfl, rfl⟩,
   Or.inl ⟨0, rfl, dd_190_10, rfl⟩,
   ⟨82, "PairMachineModel", fT10, 45, dd_190_11, rfl, okc_10, by decide, tw_824⟩,
   Or.inl ⟨1, rfl, dd_190_14, rfl⟩,
   Or.inl (Or.inl ⟨dd_190_15, rfl⟩),
   ⟨dd_190_16, rfl⟩,
   ⟨by decide, dd_190_17, rfl⟩,
   ⟨(-18), dd_190_20, rfl⟩,
   Or.inl ⟨0, rfl, dd_190_23, rfl⟩,
   Or.inl (Or.inl ⟨dd_190_24, rfl⟩),
   ⟨211, "PairMachineModel", fT10, 45, dd_190_25, rfl, okc_10, by decide, tw_938, rfl, Or.inl rfl⟩,
   Or.inl (Or.inl ⟨dd_190_28, rfl⟩),
   ⟨by decide, Or.inl ⟨1, rfl, dd_190_29, rfl⟩⟩,
   Or.inl ⟨1, rfl, dd_190_30, rfl⟩,
   Or.inl (Or.inl ⟨dd_190_31, rfl⟩),
   ⟨33, dd_190_32, rfl, rfl⟩,
   Or.inl ⟨0, rfl, dd_190_35, rfl⟩,
   Or.inl ⟨0, rfl, dd_190_36, rfl⟩,
   ⟨88, "PairMachineModel", fT10, 45, dd_190_37, rfl, okc_10, by decide, tw_826⟩,
   Or.inl ⟨1, rfl, dd_190_40, rfl⟩,
   ⟨dd_190_41, rfl⟩,
   ⟨7, dd_190_42, rfl, rfl⟩,
   Or.inl (Or.inl ⟨dd_190_45, rfl⟩),
   ⟨4, dd_190_46, rfl⟩,
   Or.inl (Or.inl ⟨dd_190_49, rfl⟩),
   Or.inl ⟨0, rfl, dd_190_50, rfl⟩,
   ⟨88, "PairMachineModel", fT10, 45, dd_190_51, rfl, okc_10, by decide, tw_826⟩,
   Or.inl ⟨1, rfl, dd_190_54, rfl⟩,
   ⟨dd_190_55, rfl⟩,
   ⟨rfl, tw_943, by decide, tw_12, by decide +kernel, 217, tw_944, dd_190_56, tw_945, ⟨"PairMachineModel", fT10, 45, rfl, tw_946⟩, by decide +kernel⟩,
   ⟨by decide, dd_190_59, rfl⟩,
   ⟨(-32), dd_190_62, rfl⟩,
   Or.inl (Or.inl ⟨dd_190_65, rfl⟩),
   ⟨by decide, Or.inl ⟨1, rfl, dd_190_66, rfl⟩⟩,
   Or.inl ⟨0, rfl, dd_190_67, rfl⟩,
   ⟨211, "PairMachineModel", fT10, 45, dd_190_68, rfl, okc_10, by decide, tw_938⟩,
   ⟨61, dd_190_71, rfl, rfl⟩,
   Or.inl ⟨0, rfl, dd_190_74, rfl⟩,
   ⟨dd_190_75, rfl⟩,
   ⟨211, "PairMachineModel", fT10, 45, dd_190_76, rfl, okc_10, by decide, tw_938⟩,
   Or.inl (Or.inl ⟨dd_190_79, rfl⟩),
   ⟨dd_190_80, rfl⟩,
   ⟨211, "PairMachineModel", fT10, 45, dd_190_81, rfl, okc_10, by decide, tw_938, rfl, Or.inl rfl⟩,
   Or.inl ⟨0, rfl, dd_190_84, rfl⟩,
   ⟨85, "PairMachineModel", fT10, 45, dd_190_85, rfl, okc_10, by decide, tw_825⟩,
   Or.inl ⟨0, rfl, dd_190_88, rfl⟩,
   ⟨211, "PairMachineModel", fT10, 45, dd_190_89, rfl, okc_10, by decide, tw_938⟩,
   ⟨dd_190_92, rfl⟩,
   ⟨by decide, Or.inl ⟨2, rfl, dd_190_93, rfl⟩⟩,
   ⟨by decide, dd_190_94, rfl⟩,
   Or.inl ⟨0, rfl, dd_190_97, rfl⟩,
   Or.inl ⟨0, rfl, dd_190_98, rfl⟩,
   ⟨70, "PairMachineModel", fT10, 45, dd_190_99, rfl, okc_10, by decide, tw_820⟩,
   Or.inl ⟨2, rfl, dd_190_102, rfl⟩,
   ⟨dd_190_103, rfl⟩,
   Or.inl ⟨0, rfl, dd_190_104, rfl⟩,
   ⟨73, "PairMachineModel", fT10, 45, dd_190_105, rfl, okc_10, by decide, tw_821⟩,
   Or.inl ⟨2, rfl, dd_190_108, rfl⟩,
   ⟨dd_190_109, rfl⟩,
   ⟨rfl, tw_943, by decide, tw_12, by decide +kernel, 217, tw_944, dd_190_110, tw_945, ⟨"PairMachineModel", fT10, 45, rfl, tw_946⟩, by decide +kernel⟩,
   Or.inl ⟨0, rfl, dd_190_113, rfl⟩,
   Or.inl ⟨0, rfl, dd_190_114, rfl⟩,
   ⟨76, "PairMachineModel", fT10, 45, dd_190_115, rfl, okc_10, by decide, tw_822⟩,
   Or.inl ⟨2, rfl, dd_190_118, rfl⟩,
   ⟨dd_190_119, rfl⟩,
   Or.inl ⟨0, rfl, dd_190_120, rfl⟩,
   ⟨79, "PairMachineModel", fT10, 45, dd_190_121, rfl, okc_10, by decide, tw_823⟩,
   Or.inl ⟨2, rfl, dd_190_124, rfl⟩,
   ⟨dd_190_125, rfl⟩,
   ⟨rfl, tw_943, by decide, tw_12, by decide +kernel, 217, tw_944, dd_190_126, tw_945, ⟨"PairMachineModel", fT10, 45, rfl, tw_946⟩, by decide +kernel⟩,
   ⟨(-62), dd_190_129, rfl⟩,
   Or.inl ⟨1, rfl, dd_190_132, rfl⟩,
   ⟨dd_190_133, rfl⟩, trivial⟩
theorem okM_190 : mj_okE gG 190 (cM_190, 3, oM_190, hM_190) := ⟨rfl, rfl, by decide +kernel, trivial, okI_190⟩
end
