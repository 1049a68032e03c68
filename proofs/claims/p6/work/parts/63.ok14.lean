section
theorem dd_184_0 : decode prog_13_method_30_code 0 = .ok (.aload_n 0, 1) := by decide +kernel
theorem dd_184_1 : decode prog_13_method_30_code 1 = .ok (.getfield 39, 3) := by decide +kernel
theorem dd_184_4 : decode prog_13_method_30_code 4 = .ok (.iload_n 2, 1) := by decide +kernel
theorem dd_184_5 : decode prog_13_method_30_code 5 = .ok (.iaload, 1) := by decide +kernel
theorem dd_184_6 : decode prog_13_method_30_code 6 = .ok (.istore_n 3, 1) := by decide +kernel
theorem dd_184_7 : decode prog_13_method_30_code 7 = .ok (.aload_n 0, 1) := by decide +kernel
theorem dd_184_8 : decode prog_13_method_30_code 8 = .ok (.getfield 27, 3) := by decide +kernel
theorem dd_184_11 : decode prog_13_method_30_code 11 = .ok (.iload_n 1, 1) := by decide +kernel
theorem dd_184_12 : decode prog_13_method_30_code 12 = .ok (.iaload, 1) := by decide +kernel
theorem dd_184_13 : decode prog_13_method_30_code 13 = .ok (.bipush 63, 2) := by decide +kernel
theorem dd_184_15 : decode prog_13_method_30_code 15 = .ok (.if_icmp .ne 36, 3) := by decide +kernel
theorem dd_184_18 : decode prog_13_method_30_code 18 = .ok (.aload_n 0, 1) := by decide +kernel
theorem dd_184_19 : decode prog_13_method_30_code 19 = .ok (.aload_n 0, 1) := by decide +kernel
theorem dd_184_20 : decode prog_13_method_30_code 20 = .ok (.getfield 39, 3) := by decide +kernel
theorem dd_184_23 : decode prog_13_method_30_code 23 = .ok (.iload_n 3, 1) := by decide +kernel
theorem dd_184_24 : decode prog_13_method_30_code 24 = .ok (.iaload, 1) := by decide +kernel
theorem dd_184_25 : decode prog_13_method_30_code 25 = .ok (.bipush 9, 2) := by decide +kernel
theorem dd_184_27 : decode prog_13_method_30_code 27 = .ok (.invokevirtual 195, 3) := by decide +kernel
theorem dd_184_30 : decode prog_13_method_30_code 30 = .ok (.aload_n 0, 1) := by decide +kernel
theorem dd_184_31 : decode prog_13_method_30_code 31 = .ok (.iload_n 3, 1) := by decide +kernel
theorem dd_184_32 : decode prog_13_method_30_code 32 = .ok (.bipush 9, 2) := by decide +kernel
theorem dd_184_34 : decode prog_13_method_30_code 34 = .ok (.invokevirtual 195, 3) := by decide +kernel
theorem dd_184_37 : decode prog_13_method_30_code 37 = .ok (.aload_n 0, 1) := by decide +kernel
theorem dd_184_38 : decode prog_13_method_30_code 38 = .ok (.iconst 1, 1) := by decide +kernel
theorem dd_184_39 : decode prog_13_method_30_code 39 = .ok (.bipush 8, 2) := by decide +kernel
theorem dd_184_41 : decode prog_13_method_30_code 41 = .ok (.invokevirtual 185, 3) := by decide +kernel
theorem dd_184_44 : decode prog_13_method_30_code 44 = .ok (.aload_n 0, 1) := by decide +kernel
theorem dd_184_45 : decode prog_13_method_30_code 45 = .ok (.iconst (-1), 1) := by decide +kernel
theorem dd_184_46 : decode prog_13_method_30_code 46 = .ok (.iload_n 2, 1) := by decide +kernel
theorem dd_184_47 : decode prog_13_method_30_code 47 = .ok (.invokevirtual 185, 3) := by decide +kernel
theorem dd_184_50 : decode prog_13_method_30_code 50 = .ok (.return_, 1) := by decide +kernel
theorem dd_184_51 : decode prog_13_method_30_code 51 = .ok (.aload_n 0, 1) := by decide +kernel
theorem dd_184_52 : decode prog_13_method_30_code 52 = .ok (.iconst 1, 1) := by decide +kernel
theorem dd_184_53 : decode prog_13_method_30_code 53 = .ok (.aload_n 0, 1) := by decide +kernel
theorem dd_184_54 : decode prog_13_method_30_code 54 = .ok (.getfield 27, 3) := by decide +kernel
theorem dd_184_57 : decode prog_13_method_30_code 57 = .ok (.iload_n 1, 1) := by decide +kernel
theorem dd_184_58 : decode prog_13_method_30_code 58 = .ok (.iaload, 1) := by decide +kernel
theorem dd_184_59 : decode prog_13_method_30_code 59 = .ok (.invokestatic 201, 3) := by decide +kernel
theorem dd_184_62 : decode prog_13_method_30_code 62 = .ok (.invokevirtual 185, 3) := by decide +kernel
theorem dd_184_65 : decode prog_13_method_30_code 65 = .ok (.aload_n 0, 1) := by decide +kernel
theorem dd_184_66 : decode prog_13_method_30_code 66 = .ok (.getfield 27, 3) := by decide +kernel
theorem dd_184_69 : decode prog_13_method_30_code 69 = .ok (.iload_n 1, 1) := by decide +kernel
theorem dd_184_70 : decode prog_13_method_30_code 70 = .ok (.iaload, 1) := by decide +kernel
theorem dd_184_71 : decode prog_13_method_30_code 71 = .ok (.bipush 46, 2) := by decide +kernel
theorem dd_184_73 : decode prog_13_method_30_code 73 = .ok (.if_icmp .ne 18, 3) := by decide +kernel
theorem dd_184_76 : decode prog_13_method_30_code 76 = .ok (.aload_n 0, 1) := by decide +kernel
theorem dd_184_77 : decode prog_13_method_30_code 77 = .ok (.iconst (-1), 1) := by decide +kernel
theorem dd_184_78 : decode prog_13_method_30_code 78 = .ok (.iload_n 2, 1) := by decide +kernel
theorem dd_184_79 : decode prog_13_method_30_code 79 = .ok (.invokevirtual 185, 3) := by decide +kernel
theorem dd_184_82 : decode prog_13_method_30_code 82 = .ok (.aload_n 0, 1) := by decide +kernel
theorem dd_184_83 : decode prog_13_method_30_code 83 = .ok (.iconst (-1), 1) := by decide +kernel
theorem dd_184_84 : decode prog_13_method_30_code 84 = .ok (.iload_n 3, 1) := by decide +kernel
theorem dd_184_85 : decode prog_13_method_30_code 85 = .ok (.invokevirtual 185, 3) := by decide +kernel
theorem dd_184_88 : decode prog_13_method_30_code 88 = .ok (.goto 19, 3) := by decide +kernel
theorem dd_184_91 : decode prog_13_method_30_code 91 = .ok (.iload_n 3, 1) := by decide +kernel
theorem dd_184_92 : decode prog_13_method_30_code 92 = .ok (.ifCond .lt 9, 3) := by decide +kernel
theorem dd_184_95 : decode prog_13_method_30_code 95 = .ok (.aload_n 0, 1) := by decide +kernel
theorem dd_184_96 : decode prog_13_method_30_code 96 = .ok (.iconst (-1), 1) := by decide +kernel
theorem dd_184_97 : decode prog_13_method_30_code 97 = .ok (.iload_n 3, 1) := by decide +kernel
theorem dd_184_98 : decode prog_13_method_30_code 98 = .ok (.invokevirtual 185, 3) := by decide +kernel
theorem dd_184_101 : decode prog_13_method_30_code 101 = .ok (.aload_n 0, 1) := by decide +kernel
theorem dd_184_102 : decode prog_13_method_30_code 102 = .ok (.iconst (-1), 1) := by decide +kernel
theorem dd_184_103 : decode prog_13_method_30_code 103 = .ok (.iload_n 2, 1) := by decide +kernel
theorem dd_184_104 : decode prog_13_method_30_code 104 = .ok (.invokevirtual 185, 3) := by decide +kernel
theorem dd_184_107 : decode prog_13_method_30_code 107 = .ok (.return_, 1) := by decide +kernel
set_option maxRecDepth 100000 in
theorem okI_184 : mj_okI gG "PairMachineModel" prog_13_method_30_code 4 (mj_off oM_184) (Option.none : Option Jvm.ClassFile.FieldType) false true 0 cM_184 :=
  ⟨Or.inl ⟨0, rfl, dd_184_0, rfl⟩,
   ⟨39, "PairMachineModel", fT10, 45, dd_184_1, rfl, okc_10, by decide, tw_814⟩,
   Or.inl ⟨2, rfl, dd_184_4, rfl⟩,
   ⟨dd_184_5, rfl⟩,
   ⟨by decide, Or.inl ⟨3, rfl, dd_184_6, rfl⟩⟩,
   Or.inl ⟨0, rfl, dd_184_7, rfl⟩,
   ⟨27, "PairMachineModel", fT10, 45, dd_184_8, rfl, okc_10, by decide, tw_810⟩,
   Or.inl ⟨1, rfl, dd_184_11, rfl⟩,
   ⟨dd_184_12, rfl⟩,
   Or.inl (Or.inr (Or.inl ⟨dd_184_13, rfl, by decide⟩)),
   ⟨36, dd_184_15, rfl, rfl⟩,
   Or.inl ⟨0, rfl, dd_184_18, rfl⟩,
   Or.inl ⟨0, rfl, dd_184_19, rfl⟩,
   ⟨39, "PairMachineModel", fT10, 45, dd_184_20, rfl, okc_10, by decide, tw_814⟩,
   Or.inl ⟨3, rfl, dd_184_23, rfl⟩,
   ⟨dd_184_24, rfl⟩,
   Or.inl (Or.inr (Or.inl ⟨dd_184_25, rfl, by decide⟩)),
   ⟨rfl, tw_923, by decide, tw_12, by decide +kernel, 195, tw_924, dd_184_27, tw_925, ⟨"PairMachineModel", fT10, 45, rfl, tw_926⟩, by decide +kernel⟩,
   Or.inl ⟨0, rfl, dd_184_30, rfl⟩,
   Or.inl ⟨3, rfl, dd_184_31, rfl⟩,
   Or.inl (Or.inr (Or.inl ⟨dd_184_32, rfl, by decide⟩)),
   ⟨rfl, tw_923, by decide, tw_12, by decide +kernel, 195, tw_924, dd_184_34, tw_925, ⟨"PairMachineModel", fT10, 45, rfl, tw_926⟩, by decide +kernel⟩,
   Or.inl ⟨0, rfl, dd_184_37, rfl⟩,
   Or.inl (Or.inl ⟨dd_184_38, rfl⟩),
   Or.inl (Or.inr (Or.inl ⟨dd_184_39, rfl, by decide⟩)),
   ⟨rfl, tw_911, by decide, tw_12, by decide +kernel, 185, tw_912, dd_184_41, tw_913, ⟨"PairMachineModel", fT10, 45, rfl, tw_914⟩, by decide +kernel⟩,
   Or.inl ⟨0, rfl, dd_184_44, rfl⟩,
   Or.inl (Or.inl ⟨dd_184_45, rfl⟩),
   Or.inl ⟨2, rfl, dd_184_46, rfl⟩,
   ⟨rfl, tw_911, by decide, tw_12, by decide +kernel, 185, tw_912, dd_184_47, tw_913, ⟨"PairMachineModel", fT10, 45, rfl, tw_914⟩, by decide +kernel⟩,
   ⟨dd_184_50, rfl⟩,
   Or.inl ⟨0, rfl, dd_184_51, rfl⟩,
   Or.inl (Or.inl ⟨dd_184_52, rfl⟩),
   Or.inl ⟨0, rfl, dd_184_53, rfl⟩,
   ⟨27, "PairMachineModel", fT10, 45, dd_184_54, rfl, okc_10, by decide, tw_810⟩,
   Or.inl ⟨1, rfl, dd_184_57, rfl⟩,
   ⟨dd_184_58, rfl⟩,
   ⟨rfl, tw_931, by decide, tw_12, by decide +kernel, 201, tw_932, dd_184_59, tw_933, by decide +kernel⟩,
   ⟨rfl, tw_911, by decide, tw_12, by decide +kernel, 185, tw_912, dd_184_62, tw_913, ⟨"PairMachineModel", fT10, 45, rfl, tw_914⟩, by decide +kernel⟩,
   Or.inl ⟨0, rfl, dd_184_65, rfl⟩,
   ⟨27, "PairMachineModel", fT10, 45, dd_184_66, rfl, okc_10, by decide, tw_810⟩,
   Or.inl ⟨1, rfl, dd_184_69, rfl⟩,
   ⟨dd_184_70, rfl⟩,
   Or.inl (Or.inr (Or.inl ⟨dd_184_71, rfl, by decide⟩)),
   ⟨18, dd_184_73, rfl, rfl⟩,
   Or.inl ⟨0, rfl, dd_184_76, rfl⟩,
   Or.inl (Or.inl ⟨dd_184_77, rfl⟩),
   Or.inl ⟨2, rfl, dd_184_78, rfl⟩,
   ⟨rfl, tw_911, by decide, tw_12, by decide +kernel, 185, tw_912, dd_184_79, tw_913, ⟨"PairMachineModel", fT10, 45, rfl, tw_914⟩, by decide +kernel⟩,
   Or.inl ⟨0, rfl, dd_184_82, rfl⟩,
   Or.inl (Or.inl ⟨dd_184_83, rfl⟩),
   Or.inl ⟨3, rfl, dd_184_84, rfl⟩,
   ⟨rfl, tw_911, by decide, tw_12, by decide +kernel, 185, tw_912, dd_184_85, tw_913, ⟨"PairMachineModel", fT10, 45, rfl, tw_914⟩, by decide +kernel⟩,
   ⟨19, dd_184_88, rfl⟩,
   Or.inl ⟨3, rfl, dd_184_91, rfl⟩,
   ⟨9, dd_184_92, rfl, rfl⟩,
   Or.inl ⟨0, rfl, dd_184_95, rfl⟩,
   Or.inl (Or.inl ⟨dd_184_96, rfl⟩),
   Or.inl ⟨3, rfl, dd_184_97, rfl⟩,
   ⟨rfl, tw_911, by decide, tw_12, by decide +kernel, 185, tw_912, dd_184_98, tw_913, ⟨"PairMachineModel", fT10, 45, rfl, tw_914⟩, by decide +kernel⟩,
   Or.inl ⟨0, rfl, dd_184_101, rfl⟩,
   Or.inl (Or.inl ⟨dd_184_102, rfl⟩),
   Or.inl ⟨2, rfl, dd_184_103, rfl⟩,
   ⟨rfl, tw_911, by decide, tw_12, by decide +kernel, 185, tw_912, dd_184_104, tw_913, ⟨"PairMachineModel", fT10, 45, rfl, tw_914⟩, by decide +kernel⟩,
   ⟨dd_184_107, rfl⟩, trivial⟩
theorem okM_184 : mj_okE gG 184 (cM_184, 4, oM_184, hM_184) := ⟨rfl, rfl, by decide +kernel, trivial, okI_184⟩
theorem dd_185_0 : decode prog_13_method_31_code 0 = .ok (.aload_n 0, 1) := by decide +kernel
theorem dd_185_1 : decode prog_13_method_31_code 1 = .ok (.iconst 0, 1) := by decide +kernel
theorem dd_185_2 : decode prog_13_method_31_code 2 = .ok (.putfield 172, 3) := by decide +kernel
theorem dd_185_5 : decode prog_13_method_31_code 5 = .ok (.aload_n 0, 1) := by decide +kernel
theorem dd_185_6 : decode prog_13_method_31_code 6 = .ok (.iconst 0, 1) := by decide +kernel
theorem dd_185_7 : decode prog_13_method_31_code 7 = .ok (.putfield 175, 3) := by decide +kernel
theorem dd_185_10 : decode prog_13_method_31_code 10 = .ok (.aload_n 0, 1) := by decide +kernel
theorem dd_185_11 : decode prog_13_method_31_code 11 = .ok (.iconst 0, 1) := by decide +kernel
theorem dd_185_12 : decode prog_13_method_31_code 12 = .ok (.putfield 178, 3) := by decide +kernel
theorem dd_185_15 : decode prog_13_method_31_code 15 = .ok (.aload_n 0, 1) := by decide +kernel
theorem dd_185_16 : decode prog_13_method_31_code 16 = .ok (.iconst 1, 1) := by decide +kernel
theorem dd_185_17 : decode prog_13_method_31_code 17 = .ok (.bipush 19, 2) := by decide +kernel
theorem dd_185_19 : decode prog_13_method_31_code 19 = .ok (.invokevirtual 185, 3) := by decide +kernel
theorem dd_185_22 : decode prog_13_method_31_code 22 = .ok (.aload_n 0, 1) := by decide +kernel
theorem dd_185_23 : decode prog_13_method_31_code 23 = .ok (.iconst (-1), 1) := by decide +kernel
theorem dd_185_24 : decode prog_13_method_31_code 24 = .ok (.iconst 0, 1) := by decide +kernel
theorem dd_185_25 : decode prog_13_method_31_code 25 = .ok (.invokevirtual 185, 3) := by decide +kernel
theorem dd_185_28 : decode prog_13_method_31_code 28 = .ok (.aload_n 0, 1) := by decide +kernel
theorem dd_185_29 : decode prog_13_method_31_code 29 = .ok (.getfield 178, 3) := by decide +kernel
theorem dd_185_32 : decode prog_13_method_31_code 32 = .ok (.ifCond .le 66, 3) := by decide +kernel
theorem dd_185_35 : decode prog_13_method_31_code 35 = .ok (.aload_n 0, 1) := by decide +kernel
theorem dd_185_36 : decode prog_13_method_31_code 36 = .ok (.dup, 1) := by decide +kernel
theorem dd_185_37 : decode prog_13_method_31_code 37 = .ok (.getfield 178, 3) := by decide +kernel
theorem dd_185_40 : decode prog_13_method_31_code 40 = .ok (.iconst 1, 1) := by decide +kernel
theorem dd_185_41 : decode prog_13_method_31_code 41 = .ok (.isub, 1) := by decide +kernel
theorem dd_185_42 : decode prog_13_method_31_code 42 = .ok (.putfield 178, 3) := by decide +kernel
theorem dd_185_45 : decode prog_13_method_31_code 45 = .ok (.aload_n 0, 1) := by decide +kernel
theorem dd_185_46 : decode prog_13_method_31_code 46 = .ok (.getfield 57, 3) := by decide +kernel
theorem dd_185_49 : decode prog_13_method_31_code 49 = .ok (.aload_n 0, 1) := by decide +kernel
theorem dd_185_50 : decode prog_13_method_31_code 50 = .ok (.getfield 178, 3) := by decide +kernel
theorem dd_185_53 : decode prog_13_method_31_code 53 = .ok (.iaload, 1) := by decide +kernel
theorem dd_185_54 : decode prog_13_method_31_code 54 = .ok (.ifCond .ge 19, 3) := by decide +kernel
theorem dd_185_57 : decode prog_13_method_31_code 57 = .ok (.aload_n 0, 1) := by decide +kernel
theorem dd_185_58 : decode prog_13_method_31_code 58 = .ok (.aload_n 0, 1) := by decide +kernel
theorem dd_185_59 : decode prog_13_method_31_code 59 = .ok (.getfield 60, 3) := by decide +kernel
theorem dd_185_62 : decode prog_13_method_31_code 62 = .ok (.aload_n 0, 1) := by decide +kernel
theorem dd_185_63 : decode prog_13_method_31_code 63 = .ok (.getfield 178, 3) := by decide +kernel
theorem dd_185_66 : decode prog_13_method_31_code 66 = .ok (.iaload, 1) := by decide +kernel
theorem dd_185_67 : decode prog_13_method_31_code 67 = .ok (.invokevirtual 204, 3) := by decide +kernel
theorem dd_185_70 : decode prog_13_method_31_code 70 = .ok (.goto (-42), 3) := by decide +kernel
theorem dd_185_73 : decode prog_13_method_31_code 73 = .ok (.aload_n 0, 1) := by decide +kernel
theorem dd_185_74 : decode prog_13_method_31_code 74 = .ok (.aload_n 0, 1) := by decide +kernel
theorem dd_185_75 : decode prog_13_method_31_code 75 = .ok (.getfield 57, 3) := by decide +kernel
theorem dd_185_78 : decode prog_13_method_31_code 78 = .ok (.aload_n 0, 1) := by decide +kernel
theorem dd_185_79 : decode prog_13_method_31_code 79 = .ok (.getfield 178, 3) := by decide +kernel
theorem dd_185_82 : decode prog_13_method_31_code 82 = .ok (.iaload, 1) := by decide +kernel
theorem dd_185_83 : decode prog_13_method_31_code 83 = .ok (.aload_n 0, 1) := by decide +kernel
theorem dd_185_84 : decode prog_13_method_31_code 84 = .ok (.getfield 60, 3) := by decide +kernel
theorem dd_185_87 : decode prog_13_method_31_code 87 = .ok (.aload_n 0, 1) := by decide +kernel
theorem dd_185_88 : decode prog_13_method_31_code 88 = .ok (.getfield 178, 3) := by decide +kernel
theorem dd_185_91 : decode prog_13_method_31_code 91 = .ok (.iaload, 1) := by decide +kernel
theorem dd_185_92 : decode prog_13_method_31_code 92 = .ok (.invokevirtual 181, 3) := by decide +kernel
theorem dd_185_95 : decode prog_13_method_31_code 95 = .ok (.goto (-67), 3) := by decide +kernel
theorem dd_185_98 : decode prog_13_method_31_code 98 = .ok (.return_, 1) := by decide +kernel
set_option maxRecDepth 100000 in
theorem okI_185 : mj_okI gG "PairMachineModel" prog_13_method_31_code 1 (mj_off oM_185) (Option.none : Option Jvm.ClassFile.FieldType) false true 0 cM_185 :=
  ⟨Or.inl ⟨0, rfl, dd_185_0, rfl⟩,
   Or.inl (Or.inl ⟨dd_185_1, rfl⟩),
   ⟨172, "PairMachineModel", fT10, 45, dd_185_2, rfl, okc_10, by decide, tw_904, rfl, Or.inl rfl⟩,
   Or.inl ⟨0, rfl, dd_185_5, rfl⟩,
   Or.inl (Or.inl ⟨dd_185_6, rfl⟩),
   ⟨175, "PairMachineModel", fT10, 45, dd_185_7, rfl, okc_10, by decide, tw_905, rfl, Or.inl rfl⟩,
   Or.inl ⟨0, rfl, dd_185_10, rfl⟩,
   Or.inl (Or.inl ⟨dd_185_11, rfl⟩),
   ⟨178, "PairMachineModel", fT10, 45, dd_185_12, rfl, okc_10, by decide, tw_906, rfl, Or.inl rfl⟩,
   Or.inl ⟨0, rfl, dd_185_15, rfl⟩,
   Or.inl (Or.inl ⟨dd_185_16, rfl⟩),
   Or.inl (Or.inr (Or.inl ⟨dd_185_17, rfl, by decide⟩)),
   ⟨rfl, tw_911, by decide, tw_12, by decide +kernel, 185, tw_912, dd_185_19, tw_913, ⟨"PairMachineModel", fT10, 45, rfl, tw_914⟩, by decide +kernel⟩,
   Or.inl ⟨0, rfl, dd_185_22, rfl⟩,
   Or.inl (Or.inl ⟨dd_185_23, rfl⟩),
   Or.inl (Or.inl ⟨dd_185_24, rfl⟩),
   ⟨rfl, tw_911, by decide, tw_12, by decide +kernel, 185, tw_912, dd_185_25, tw_913, ⟨"PairMachineModel", fT10, 45, rfl, tw_914⟩, by decide +kernel⟩,
   Or.inl ⟨0, rfl, dd_185_28, rfl⟩,
   ⟨178, "PairMachineModel", fT10, 45, dd_185_29, rfl, okc_10, by decide, tw_906⟩,
   ⟨66, dd_185_32, rfl, rfl⟩,
   Or.inl ⟨0, rfl, dd_185_35, rfl⟩,
   ⟨dd_185_36, rfl⟩,
   ⟨178, "PairMachineModel", fT10, 45, dd_185_37, rfl, okc_10, by decide, tw_906⟩,
   Or.inl (Or.inl ⟨dd_185_40, rfl⟩),
   ⟨dd_185_41, rfl⟩,
   ⟨178, "PairMachineModel", fT10, 45, dd_185_42, rfl, okc_10, by decide, tw_906, rfl, Or.inl rfl⟩,
   Or.inl ⟨0, rfl, dd_185_45, rfl⟩,
   ⟨57, "PairMachineModel", fT10, 45, dd_185_46, rfl, okc_10, by decide, tw_820⟩,
   Or.inl ⟨0, rfl, dd_185_49, rfl⟩,
   ⟨178, "PairMachineModel", fT10, 45, dd_185_50, rfl, okc_10, by decide, tw_906⟩,
   ⟨dd_185_53, rfl⟩,
   ⟨19, dd_185_54, rfl, rfl⟩,
   Or.inl ⟨0, rfl, dd_185_57, rfl⟩,
   Or.inl ⟨0, rfl, dd_185_58, rfl⟩,
   ⟨60, "PairMachineModel", fT10, 45, dd_185_59, rfl, okc_10, by decide, tw_821⟩,
   Or.inl ⟨0, rfl, dd_185_62, rfl⟩,
   ⟨178, "PairMachineModel", fT10, 45, dd_185_63, rfl, okc_10, by decide, tw_906⟩,
   ⟨dd_185_66, rfl⟩,
   ⟨rfl, tw_934, by decide, tw_12, by decide +kernel, 204, tw_935, dd_185_67, tw_936, ⟨"PairMachineModel", fT10, 45, rfl, tw_937⟩, by decide +kernel⟩,
   ⟨(-42), dd_185_70, rfl⟩,
   Or.inl ⟨0, rfl, dd_185_73, rfl⟩,
   Or.inl ⟨0, rfl, dd_185_74, rfl⟩,
   ⟨57, "PairMachineModel", fT10, 45, dd_185_75, rfl, okc_10, by decide, tw_820⟩,
   Or.inl ⟨0, rfl, dd_185_78, rfl⟩,
   ⟨178, "PairMachineModel", fT10, 45, dd_185_79, rfl, okc_10, by decide, tw_906⟩,
   ⟨dd_185_82, rfl⟩,
   Or.inl ⟨0, rfl, dd_185_83, rfl⟩,
   ⟨60, "PairMachineModel", fT10, 45, dd_185_84, rfl, okc_10, by decide, tw_821⟩,
   Or.inl ⟨0, rfl, dd_185_87, rfl⟩,
   ⟨178, "PairMachineModel", fT10, 45, dd_185_88, rfl, okc_10, by decide, tw_906⟩,
   ⟨dd_185_91, rfl⟩,
   ⟨rfl, tw_907, by decide, tw_12, by decide +kernel, 181, tw_908, dd_185_92, tw_909, ⟨"PairMachineModel", fT10, 45, rfl, tw_910⟩, by decide +kernel⟩,
   ⟨(-67), dd_185_95, rfl⟩,
   ⟨dd_185_98, rfl⟩, trivial⟩
theorem okM_185 : mj_okE gG 185 (cM_185, 1, oM_185, hM_185) := ⟨rfl, rfl, by decide +kernel, trivial, okI_185⟩
theorem dd_186_0 : decode prog_13_method_32_code 0 = .ok (.iconst 0, 1) := by decide +kernel
theorem dd_186_1 : decode prog_13_method_32_code 1 = .ok (.istore_n 1, 1) := by decide +kernel
theorem dd_186_2 : decode prog_13_method_32_code 2 = .ok (.iconst 0, 1) := by decide +kernel
theorem dd_186_3 : decode prog_13_method_32_code 3 = .ok (.istore_n 2, 1) := by decide +kernel
theorem dd_186_4 : decode prog_13_method_32_code 4 = .ok (.iload_n 2, 1) := by decide +kernel
theorem dd_186_5 : decode prog_13_method_32_code 5 = .ok (.aload_n 0, 1) := by decide +kernel
theorem dd_186_6 : decode prog_13_method_32_code 6 = .ok (.getfield 94, 3) := by decide +kernel
theorem dd_186_9 : decode prog_13_method_32_code 9 = .ok (.if_icmp .ge 26, 3) := by decide +kernel
theorem dd_186_12 : decode prog_13_method_32_code 12 = .ok (.aload_n 0, 1) := by decide +kernel
theorem dd_186_13 : decode prog_13_method_32_code 13 = .ok (.getfield 63, 3) := by decide +kernel
theorem dd_186_16 : decode prog_13_method_32_code 16 = .ok (.iload_n 2, 1) := by decide +kernel
theorem dd_186_17 : decode prog_13_method_32_code 17 = .ok (.baload, 1) := by decide +kernel
theorem dd_186_18 : decode prog_13_method_32_code 18 = .ok (.ifCond .eq 7, 3) := by decide +kernel
theorem dd_186_21 : decode prog_13_method_32_code 21 = .ok (.iload_n 1, 1) := by decide +kernel
theorem dd_186_22 : decode prog_13_method_32_code 22 = .ok (.goto 6, 3) := by decide +kernel
theorem dd_186_25 : decode prog_13_method_32_code 25 = .ok (.iload_n 1, 1) := by decide +kernel
theorem dd_186_26 : decode prog_13_method_32_code 26 = .ok (.iconst 1, 1) := by decide +kernel
theorem dd_186_27 : decode prog_13_method_32_code 27 = .ok (.iadd, 1) := by decide +kernel
theorem dd_186_28 : decode prog_13_method_32_code 28 = .ok (.istore_n 1, 1) := by decide +kernel
theorem dd_186_29 : decode prog_13_method_32_code 29 = .ok (.iinc 2 1, 3) := by decide +kernel
theorem dd_186_32 : decode prog_13_method_32_code 32 = .ok (.goto (-28), 3) := by decide +kernel
theorem dd_186_35 : decode prog_13_method_32_code 35 = .ok (.iload_n 1, 1) := by decide +kernel
theorem dd_186_36 : decode prog_13_method_32_code 36 = .ok (.ireturn, 1) := by decide +kernel
set_option maxRecDepth 100000 in
theorem okI_186 : mj_okI gG "PairMachineModel" prog_13_method_32_code 3 (mj_off oM_186) (Option.some Jvm.ClassFile.FieldType.int) false true 0 cM_186 :=
  ⟨Or.inl (Or.inl ⟨dd_186_0, rfl⟩),
   ⟨by decide, Or.inl ⟨1, rfl, dd_186_1, rfl⟩⟩,
   Or.inl (Or.inl ⟨dd_186_2, rfl⟩),
   ⟨by decide, Or.inl ⟨2, rfl, dd_186_3, rfl⟩⟩,
   Or.inl ⟨2, rfl, dd_186_4, rfl⟩,
   Or.inl ⟨0, rfl, dd_186_5, rfl⟩,
   ⟨94, "PairMachineModel", fT10, 45, dd_186_6, rfl, okc_10, by decide, tw_832⟩,
   ⟨26, dd_186_9, rfl, rfl⟩,
   Or.inl ⟨0, rfl, dd_186_12, rfl⟩,
   ⟨63, "PairMachineModel", fT10, 45, dd_186_13, rfl, okc_10, by decide, tw_822⟩,
   Or.inl ⟨2, rfl, dd_186_16, rfl⟩,
   ⟨dd_186_17, rfl⟩,
   ⟨7, dd_186_18, rfl, rfl⟩,
   Or.inl ⟨1, rfl, dd_186_21, rfl⟩,
   ⟨6, dd_186_22, rfl⟩,
   Or.inl ⟨1, rfl, dd_186_25, rfl⟩,
   Or.inl (Or.inl ⟨dd_186_26, rfl⟩),
   ⟨dd_186_27, rfl⟩,
   ⟨by decide, Or.inl ⟨1, rfl, dd_186_28, rfl⟩⟩,
   ⟨by decide, dd_186_29, rfl⟩,
   ⟨(-28), dd_186_32, rfl⟩,
   Or.inl ⟨1, rfl, dd_186_35, rfl⟩,
   ⟨dd_186_36, rfl⟩, trivial⟩
theorem okM_186 : mj_okE gG 186 (cM_186, 3, oM_186, hM_186) := ⟨rfl, rfl, by decide +kernel, trivial, okI_186⟩
theorem dd_187_0 : decode prog_13_method_33_code 0 = .ok (.iconst 0, 1) := by decide +kernel
theorem dd_187_1 : decode prog_13_method_33_code 1 = .ok (.istore 4, 2) := by decide +kernel
theorem dd_187_3 : decode prog_13_method_33_code 3 = .ok (.iload 4, 2) := by decide +kernel
theorem dd_187_5 : decode prog_13_method_33_code 5 = .ok (.aload_n 0, 1) := by decide +kernel
theorem dd_187_6 : decode prog_13_method_33_code 6 = .ok (.getfield 94, 3) := by decide +kernel
theorem dd_187_9 : decode prog_13_method_33_code 9 = .ok (.iconst 1, 1) := by decide +kernel
theorem dd_187_10 : decode prog_13_method_33_code 10 = .ok (.isub, 1) := by decide +kernel
theorem dd_187_11 : decode prog_13_method_33_code 11 = .ok (.if_icmp .ge 19, 3) := by decide +kernel
theorem dd_187_14 : decode prog_13_method_33_code 14 = .ok (.aload_n 0, 1) := by decide +kernel
theorem dd_187_15 : decode prog_13_method_33_code 15 = .ok (.getfield 63, 3) := by decide +kernel
theorem dd_187_18 : decode prog_13_method_33_code 18 = .ok (.iload 4, 2) := by decide +kernel
theorem dd_187_20 : decode prog_13_method_33_code 20 = .ok (.baload, 1) := by decide +kernel
theorem dd_187_21 : decode prog_13_method_33_code 21 = .ok (.ifCond .eq 9, 3) := by decide +kernel
theorem dd_187_24 : decode prog_13_method_33_code 24 = .ok (.iinc 4 1, 3) := by decide +kernel
theorem dd_187_27 : decode prog_13_method_33_code 27 = .ok (.goto (-24), 3) := by decide +kernel
theorem dd_187_30 : decode prog_13_method_33_code 30 = .ok (.aload_n 0, 1) := by decide +kernel
theorem dd_187_31 : decode prog_13_method_33_code 31 = .ok (.getfield 63, 3) := by decide +kernel
theorem dd_187_34 : decode prog_13_method_33_code 34 = .ok (.iload 4, 2) := by decide +kernel
theorem dd_187_36 : decode prog_13_method_33_code 36 = .ok (.iconst 1, 1) := by decide +kernel
theorem dd_187_37 : decode prog_13_method_33_code 37 = .ok (.bastore, 1) := by decide +kernel
theorem dd_187_38 : decode prog_13_method_33_code 38 = .ok (.aload_n 0, 1) := by decide +kernel
theorem dd_187_39 : decode prog_13_method_33_code 39 = .ok (.getfield 67, 3) := by decide +kernel
theorem dd_187_42 : decode prog_13_method_33_code 42 = .ok (.iload 4, 2) := by decide +kernel
theorem dd_187_44 : decode prog_13_method_33_code 44 = .ok (.iconst 0, 1) := by decide +kernel
theorem dd_187_45 : decode prog_13_method_33_code 45 = .ok (.bastore, 1) := by decide +kernel
theorem dd_187_46 : decode prog_13_method_33_code 46 = .ok (.aload_n 0, 1) := by decide +kernel
theorem dd_187_47 : decode prog_13_method_33_code 47 = .ok (.getfield 70, 3) := by decide +kernel
theorem dd_187_50 : decode prog_13_method_33_code 50 = .ok (.iload 4, 2) := by decide +kernel
theorem dd_187_52 : decode prog_13_method_33_code 52 = .ok (.iload_n 1, 1) := by decide +kernel
theorem dd_187_53 : decode prog_13_method_33_code 53 = .ok (.iastore, 1) := by decide +kernel
theorem dd_187_54 : decode prog_13_method_33_code 54 = .ok (.aload_n 0, 1) := by decide +kernel
theorem dd_187_55 : decode prog_13_method_33_code 55 = .ok (.getfield 73, 3) := by decide +kernel
theorem dd_187_58 : decode prog_13_method_33_code 58 = .ok (.iload 4, 2) := by decide +kernel
theorem dd_187_60 : decode prog_13_method_33_code 60 = .ok (.iload_n 2, 1) := by decide +kernel
theorem dd_187_61 : decode prog_13_method_33_code 61 = .ok (.iastore, 1) := by decide +kernel
theorem dd_187_62 : decode prog_13_method_33_code 62 = .ok (.aload_n 0, 1) := by decide +kernel
theorem dd_187_63 : decode prog_13_method_33_code 63 = .ok (.getfield 76, 3) := by decide +kernel
theorem dd_187_66 : decode prog_13_method_33_code 66 = .ok (.iload 4, 2) := by decide +kernel
theorem dd_187_68 : decode prog_13_method_33_code 68 = .ok (.iload_n 3, 1) := by decide +kernel
theorem dd_187_69 : decode prog_13_method_33_code 69 = .ok (.ifCond .ge 7, 3) := by decide +kernel
theorem dd_187_72 : decode prog_13_method_33_code 72 = .ok (.iconst 0, 1) := by decide +kernel
theorem dd_187_73 : decode prog_13_method_33_code 73 = .ok (.goto 4, 3) := by decide +kernel
theorem dd_187_76 : decode prog_13_method_33_code 76 = .ok (.iconst 3, 1) := by decide +kernel
theorem dd_187_77 : decode prog_13_method_33_code 77 = .ok (.iastore, 1) := by decide +kernel
theorem dd_187_78 : decode prog_13_method_33_code 78 = .ok (.aload_n 0, 1) := by decide +kernel
theorem dd_187_79 : decode prog_13_method_33_code 79 = .ok (.getfield 79, 3) := by decide +kernel
theorem dd_187_82 : decode prog_13_method_33_code 82 = .ok (.iload 4, 2) := by decide +kernel
theorem dd_187_84 : decode prog_13_method_33_code 84 = .ok (.iload_n 3, 1) := by decide +kernel
theorem dd_187_85 : decode prog_13_method_33_code 85 = .ok (.ifCond .ge 7, 3) := by decide +kernel
theorem dd_187_88 : decode prog_13_method_33_code 88 = .ok (.iconst 0, 1) := by decide +kernel
theorem dd_187_89 : decode prog_13_method_33_code 89 = .ok (.goto 4, 3) := by decide +kernel
theorem dd_187_92 : decode prog_13_method_33_code 92 = .ok (.iload_n 3, 1) := by decide +kernel
theorem dd_187_93 : decode prog_13_method_33_code 93 = .ok (.iastore, 1) := by decide +kernel
theorem dd_187_94 : decode prog_13_method_33_code 94 = .ok (.iload 4, 2) := by decide +kernel
theorem dd_187_96 : decode prog_13_method_33_code 96 = .ok (.ireturn, 1) := by decide +kernel
set_option maxRecDepth 100000 in
theorem okI_187 : mj_okI gG "PairMachineModel" prog_13_method_33_code 5 (mj_off oM_187) (Option.some Jvm.ClassFile.FieldType.int) false true 0 cM_187 :=
  ⟨Or.inl (Or.inl ⟨dd_187_0, rfl⟩),
   ⟨by decide, Or.inr ⟨dd_187_1, rfl⟩⟩,
   Or.inr ⟨dd_187_3, rfl⟩,
   Or.inl ⟨0, rfl, dd_187_5, rfl⟩,
   ⟨94, "PairMachineModel", fT10, 45, dd_187_6, rfl, okc_10, by decide, tw_832⟩,
   Or.inl (Or.inl ⟨dd_187_9, rfl⟩),
   ⟨dd_187_10, rfl⟩,
   ⟨19, dd_187_11, rfl, rfl⟩,
   Or.inl ⟨0, rfl, dd_187_14, rfl⟩,
   ⟨63, "PairMachineModel", fT10, 45, dd_187_15, rfl, okc_10, by decide, tw_822⟩,
   Or.inr ⟨dd_187_18, rfl⟩,
   ⟨dd_187_20, rfl⟩,
   ⟨9, dd_187_21, rfl, rfl⟩,
   ⟨by decide, dd_187_24, rfl⟩,
   ⟨(-24), dd_187_27, rfl⟩,
   Or.inl ⟨0, rfl, dd_187_30, rfl⟩,
   ⟨63, "PairMachineModel", fT10, 45, dd_187_31, rfl, okc_10, by decide, tw_822⟩,
   Or.inr ⟨dd_187_34, rfl⟩,
   Or.inl (Or.inl ⟨dd_187_36, rfl⟩),
   ⟨dd_187_37, rfl⟩,
   Or.inl ⟨0, rfl, dd_187_38, rfl⟩,
   ⟨67, "PairMachineModel", fT10, 45, dd_187_39, rfl, okc_10, by decide, tw_823⟩,
   Or.inr ⟨dd_187_42, rfl⟩,
   Or.inl (Or.inl ⟨dd_187_44, rfl⟩),
   ⟨dd_187_45, rfl⟩,
   Or.inl ⟨0, rfl, dd_187_46, rfl⟩,
   ⟨70, "PairMachineModel", fT10, 45, dd_187_47, rfl, okc_10, by decide, tw_824⟩,
   Or.inr ⟨dd_187_50, rfl⟩,
   Or.inl ⟨1, rfl, dd_187_52, rfl⟩,
   ⟨dd_187_53, rfl⟩,
   Or.inl ⟨0, rfl, dd_187_54, rfl⟩,
   ⟨73, "PairMachineModel", fT10, 45, dd_187_55, rfl, okc_10, by decide, tw_825⟩,
   Or.inr ⟨dd_187_58, rfl⟩,
   Or.inl ⟨2, rfl, dd_187_60, rfl⟩,
   ⟨dd_187_61, rfl⟩,
   Or.inl ⟨0, rfl, dd_187_62, rfl⟩,
   ⟨76, "PairMachineModel", fT10, 45, dd_187_63, rfl, okc_10, by decide, tw_826⟩,
   Or.inr ⟨dd_187_66, rfl⟩,
   Or.inl ⟨3, rfl, dd_187_68, rfl⟩,
   ⟨7, dd_187_69, rfl, rfl⟩,
   Or.inl (Or.inl ⟨dd_187_72, rfl⟩),
   ⟨4, dd_187_73, rfl⟩,
   Or.inl (Or.inl ⟨dd_187_76, rfl⟩),
   ⟨dd_187_77, rfl⟩,
   Or.inl ⟨0, rfl, dd_187_78, rfl⟩,
   ⟨79, "PairMachineModel", fT10, 45, dd_187_79, rfl, okc_10, by decide, tw_827⟩,
   Or.inr ⟨dd_187_82, rfl⟩,
   Or.inl ⟨3, rfl, dd_187_84, rfl⟩,
   ⟨7, dd_187_85, rfl, rfl⟩,
   Or.inl (Or.inl ⟨dd_187_88, rfl⟩),
   ⟨4, dd_187_89, rfl⟩,
   Or.inl ⟨3, rfl, dd_187_92, rfl⟩,
   ⟨dd_187_93, rfl⟩,
   Or.inr ⟨dd_187_94, rfl⟩,
   ⟨dd_187_96, rfl⟩, trivial⟩
theorem okM_187 : mj_okE gG 187 (cM_187, 5, oM_187, hM_187) := ⟨rfl, rfl, by decide +kernel, trivial, okI_187⟩
theorem dd_188_0 : decode prog_13_method_34_code 0 = .ok (.aload_n 0, 1) := by decide +kernel
theorem dd_188_1 : decode prog_13_method_34_code 1 = .ok (.iload_n 1, 1) := by decide +kernel
theorem dd_188_2 : decode prog_13_method_34_code 2 = .ok (.ifCond .ge 7, 3) := by decide +kernel
theorem dd_188_5 : decode prog_13_method_34_code 5 = .ok (.iconst 0, 1) := by decide +kernel
theorem dd_188_6 : decode prog_13_method_34_code 6 = .ok (.goto 4, 3) := by decide +kernel
theorem dd_188_9 : decode prog_13_method_34_code 9 = .ok (.iconst 3, 1) := by decide +kernel
theorem dd_188_10 : decode prog_13_method_34_code 10 = .ok (.iload_n 1, 1) := by decide +kernel
theorem dd_188_11 : decode prog_13_method_34_code 11 = .ok (.ifCond .ge 7, 3) := by decide +kernel
theorem dd_188_14 : decode prog_13_method_34_code 14 = .ok (.iconst 0, 1) := by decide +kernel
theorem dd_188_15 : decode prog_13_method_34_code 15 = .ok (.goto 4, 3) := by decide +kernel
theorem dd_188_18 : decode prog_13_method_34_code 18 = .ok (.iload_n 1, 1) := by decide +kernel
theorem dd_188_19 : decode prog_13_method_34_code 19 = .ok (.iload_n 2, 1) := by decide +kernel
theorem dd_188_20 : decode prog_13_method_34_code 20 = .ok (.invokevirtual 207, 3) := by decide +kernel
theorem dd_188_23 : decode prog_13_method_34_code 23 = .ok (.ireturn, 1) := by decide +kernel
set_option maxRecDepth 100000 in
theorem okI_188 : mj_okI gG "PairMachineModel" prog_13_method_34_code 3 (mj_off oM_188) (Option.some Jvm.ClassFile.FieldType.int) false true 0 cM_188 :=
  ⟨Or.inl ⟨0, rfl, dd_188_0, rfl⟩,
   Or.inl ⟨1, rfl, dd_188_1, rfl⟩,
   ⟨7, dd_188_2, rfl, rfl⟩,
   Or.inl (Or.inl ⟨dd_188_5, rfl⟩),
   ⟨4, dd_188_6, rfl⟩,
   Or.inl (Or.inl ⟨dd_188_9, rfl⟩),
   Or.inl ⟨1, rfl, dd_188_10, rfl⟩,
   ⟨7, dd_188_11, rfl, rfl⟩,
   Or.inl (Or.inl ⟨dd_188_14, rfl⟩),
   ⟨4, dd_188_15, rfl⟩,
   Or.inl ⟨1, rfl, dd_188_18, rfl⟩,
   Or.inl ⟨2, rfl, dd_188_19, rfl⟩,
   ⟨rfl, tw_938, by decide, tw_12, by decide +kernel, 207, tw_939, dd_188_20, tw_940, ⟨"PairMachineModel", fT10, 45, rfl, tw_941⟩, by decide +kernel⟩,
   ⟨dd_188_23, rfl⟩, trivial⟩
theorem okM_188 : mj_okE gG 188 (cM_188, 3, oM_188, hM_188) := ⟨rfl, rfl, by decide +kernel, trivial, okI_188⟩
theorem dd_189_0 : decode prog_13_method_35_code 0 = .ok (.iconst (-1), 1) := by decide +kernel
theorem dd_189_1 : decode prog_13_method_35_code 1 = .ok (.istore_n 1, 1) := by decide +kernel
theorem dd_189_2 : decode prog_13_method_35_code 2 = .ok (.aload_n 0, 1) := by decide +kernel
theorem dd_189_3 : decode prog_13_method_35_code 3 = .ok (.iconst 0, 1) := by decide +kernel
theorem dd_189_4 : decode prog_13_method_35_code 4 = .ok (.putfield 211, 3) := by decide +kernel
theorem dd_189_7 : decode prog_13_method_35_code 7 = .ok (.aload_n 0, 1) := by decide +kernel
theorem dd_189_8 : decode prog_13_method_35_code 8 = .ok (.getfield 172, 3) := by decide +kernel
theorem dd_189_11 : decode prog_13_method_35_code 11 = .ok (.iconst 1, 1) := by decide +kernel
theorem dd_189_12 : decode prog_13_method_35_code 12 = .ok (.isub, 1) := by decide +kernel
theorem dd_189_13 : decode prog_13_method_35_code 13 = .ok (.istore_n 2, 1) := by decide +kernel
theorem dd_189_14 : decode prog_13_method_35_code 14 = .ok (.iload_n 2, 1) := by decide +kernel
theorem dd_189_15 : decode prog_13_method_35_code 15 = .ok (.ifCond .lt 100, 3) := by decide +kernel
theorem dd_189_18 : decode prog_13_method_35_code 18 = .ok (.aload_n 0, 1) := by decide +kernel
theorem dd_189_19 : decode prog_13_method_35_code 19 = .ok (.getfield 51, 3) := by decide +kernel
theorem dd_189_22 : decode prog_13_method_35_code 22 = .ok (.iload_n 2, 1) := by decide +kernel
theorem dd_189_23 : decode prog_13_method_35_code 23 = .ok (.iaload, 1) := by decide +kernel
theorem dd_189_24 : decode prog_13_method_35_code 24 = .ok (.iconst 5, 1) := by decide +kernel
theorem dd_189_25 : decode prog_13_method_35_code 25 = .ok (.if_icmp .ne 28, 3) := by decide +kernel
theorem dd_189_28 : decode prog_13_method_35_code 28 = .ok (.aload_n 0, 1) := by decide +kernel
theorem dd_189_29 : decode prog_13_method_35_code 29 = .ok (.getfield 85, 3) := by decide +kernel
theorem dd_189_32 : decode prog_13_method_35_code 32 = .ok (.aload_n 0, 1) := by decide +kernel
theorem dd_189_33 : decode prog_13_method_35_code 33 = .ok (.getfield 211, 3) := by decide +kernel
theorem dd_189_36 : decode prog_13_method_35_code 36 = .ok (.iload_n 1, 1) := by decide +kernel
theorem dd_189_37 : decode prog_13_method_35_code 37 = .ok (.iastore, 1) := by decide +kernel
theorem dd_189_38 : decode prog_13_method_35_code 38 = .ok (.aload_n 0, 1) := by decide +kernel
theorem dd_189_39 : decode prog_13_method_35_code 39 = .ok (.dup, 1) := by decide +kernel
theorem dd_189_40 : decode prog_13_method_35_code 40 = .ok (.getfield 211, 3) := by decide +kernel
theorem dd_189_43 : decode prog_13_method_35_code 43 = .ok (.iconst 1, 1) := by decide +kernel
theorem dd_189_44 : decode prog_13_method_35_code 44 = .ok (.iadd, 1) := by decide +kernel
theorem dd_189_45 : decode prog_13_method_35_code 45 = .ok (.putfield 211, 3) := by decide +kernel
theorem dd_189_48 : decode prog_13_method_35_code 48 = .ok (.iconst (-1), 1) := by decide +kernel
theorem dd_189_49 : decode prog_13_method_35_code 49 = .ok (.istore_n 1, 1) := by decide +kernel
theorem dd_189_50 : decode prog_13_method_35_code 50 = .ok (.goto 59, 3) := by decide +kernel
theorem dd_189_53 : decode prog_13_method_35_code 53 = .ok (.aload_n 0, 1) := by decide +kernel
theorem dd_189_54 : decode prog_13_method_35_code 54 = .ok (.getfield 51, 3) := by decide +kernel
theorem dd_189_57 : decode prog_13_method_35_code 57 = .ok (.iload_n 2, 1) := by decide +kernel
theorem dd_189_58 : decode prog_13_method_35_code 58 = .ok (.iaload, 1) := by decide +kernel
theorem dd_189_59 : decode prog_13_method_35_code 59 = .ok (.iconst 4, 1) := by decide +kernel
theorem dd_189_60 : decode prog_13_method_35_code 60 = .ok (.if_icmp .ne 31, 3) := by decide +kernel
theorem dd_189_63 : decode prog_13_method_35_code 63 = .ok (.aload_n 0, 1) := by decide +kernel
theorem dd_189_64 : decode prog_13_method_35_code 64 = .ok (.dup, 1) := by decide +kernel
theorem dd_189_65 : decode prog_13_method_35_code 65 = .ok (.getfield 211, 3) := by decide +kernel
theorem dd_189_68 : decode prog_13_method_35_code 68 = .ok (.iconst 1, 1) := by decide +kernel
theorem dd_189_69 : decode prog_13_method_35_code 69 = .ok (.isub, 1) := by decide +kernel
theorem dd_189_70 : decode prog_13_method_35_code 70 = .ok (.putfield 211, 3) := by decide +kernel
theorem dd_189_73 : decode prog_13_method_35_code 73 = .ok (.aload_n 0, 1) := by decide +kernel
theorem dd_189_74 : decode prog_13_method_35_code 74 = .ok (.iload_n 1, 1) := by decide +kernel
theorem dd_189_75 : decode prog_13_method_35_code 75 = .ok (.aload_n 0, 1) := by decide +kernel
theorem dd_189_76 : decode prog_13_method_35_code 76 = .ok (.getfield 85, 3) := by decide +kernel
theorem dd_189_79 : decode prog_13_method_35_code 79 = .ok (.aload_n 0, 1) := by decide +kernel
theorem dd_189_80 : decode prog_13_method_35_code 80 = .ok (.getfield 211, 3) := by decide +kernel
theorem dd_189_83 : decode prog_13_method_35_code 83 = .ok (.iaload, 1) := by decide +kernel
theorem dd_189_84 : decode prog_13_method_35_code 84 = .ok (.invokevirtual 214, 3) := by decide +kernel
theorem dd_189_87 : decode prog_13_method_35_code 87 = .ok (.istore_n 1, 1) := by decide +kernel
theorem dd_189_88 : decode prog_13_method_35_code 88 = .ok (.goto 21, 3) := by decide +kernel
theorem dd_189_91 : decode prog_13_method_35_code 91 = .ok (.aload_n 0, 1) := by decide +kernel
theorem dd_189_92 : decode prog_13_method_35_code 92 = .ok (.aload_n 0, 1) := by decide +kernel
theorem dd_189_93 : decode prog_13_method_35_code 93 = .ok (.getfield 51, 3) := by decide +kernel
theorem dd_189_96 : decode prog_13_method_35_code 96 = .ok (.iload_n 2, 1) := by decide +kernel
theorem dd_189_97 : decode prog_13_method_35_code 97 = .ok (.iaload, 1) := by decide +kernel
theorem dd_189_98 : decode prog_13_method_35_code 98 = .ok (.aload_n 0, 1) := by decide +kernel
theorem dd_189_99 : decode prog_13_method_35_code 99 = .ok (.getfield 54, 3) := by decide +kernel
theorem dd_189_102 : decode prog_13_method_35_code 102 = .ok (.iload_n 2, 1) := by decide +kernel
theorem dd_189_103 : decode prog_13_method_35_code 103 = .ok (.iaload, 1) := by decide +kernel
theorem dd_189_104 : decode prog_13_method_35_code 104 = .ok (.iload_n 1, 1) := by decide +kernel
theorem dd_189_105 : decode prog_13_method_35_code 105 = .ok (.invokevirtual 207, 3) := by decide +kernel
theorem dd_189_108 : decode prog_13_method_35_code 108 = .ok (.istore_n 1, 1) := by decide +kernel
theorem dd_189_109 : decode prog_13_method_35_code 109 = .ok (.iinc 2 (-1), 3) := by decide +kernel
theorem dd_189_112 : decode prog_13_method_35_code 112 = .ok (.goto (-98), 3) := by decide +kernel
theorem dd_189_115 : decode prog_13_method_35_code 115 = .ok (.iload_n 1, 1) := by decide +kernel
theorem dd_189_116 : decode prog_13_method_35_code 116 = .ok (.ireturn, 1) := by decide +kernel
set_option maxRecDepth 100000 in
theorem okI_189 : mj_okI gG "PairMachineModel" prog_13_method_35_code 3 (mj_off oM_189) (Option.some Jvm.ClassFile.FieldType.int) false true 0 cM_189 :=
  ⟨Or.inl (Or.inl ⟨dd_189_0, rfl⟩),
   ⟨by decide, Or.inl ⟨1, rfl, dd_189_1, rfl⟩⟩,
   Or.inl ⟨0, rfl, dd_189_2, rfl⟩,
   Or.inl (Or.inl ⟨dd_189_3, rfl⟩),
   ⟨211, "PairMachineModel", fT10, 45, dd_189_4, rfl, okc_10, by decide, tw_942, rfl, Or.inl rfl⟩,
   Or.inl ⟨0, rfl, dd_189_7, rfl⟩,
   ⟨172, "PairMachineModel", fT10, 45, dd_189_8, rfl, okc_10, by decide, tw_904⟩,
   Or.inl (Or.inl ⟨dd_189_11, rfl⟩),
   ⟨dd_189_12, rfl⟩,
   ⟨by decide, Or.inl ⟨2, rfl, dd_189_13, rfl⟩⟩,
   Or.inl ⟨2, rfl, dd_189_14, rfl⟩,
   ⟨100, dd_189_15, rfl, rfl⟩,
   Or.inl ⟨0, rfl, dd_189_18, rfl⟩,
   ⟨51, "PairMachineModel", fT10, 45, dd_189_19, rfl, okc_10, by decide, tw_818⟩,
   Or.inl ⟨2, rfl, dd_189_22, rfl⟩,
   ⟨dd_189_23, rfl⟩,
   Or.inl (Or.inl ⟨dd_189_24, rfl⟩),
   ⟨28, dd_189_25, rfl, rfl⟩,
   Or.inl ⟨0, rfl, dd_189_28, rfl⟩,
   ⟨85, "PairMachineModel", fT10, 45, dd_189_29, rfl, okc_10, by decide, tw_829⟩,
   Or.inl ⟨0, rfl, dd_189_32, rfl⟩,
   ⟨211, "PairMachineModel", fT10, 45, dd_189_33, rfl, okc_10, by decide, tw_942⟩,
   Or.inl ⟨1, rfl, dd_189_36, rfl⟩,
   ⟨dd_189_37, rfl⟩,
   Or.inl ⟨0, rfl, dd_189_38, rfl⟩,
   ⟨dd_189_39, rfl⟩,
   ⟨211, "PairMachineModel", fT10, 45, dd_189_40, rfl, okc_10, by decide, tw_942⟩,
   Or.inl (Or.inl ⟨dd_189_43, rfl⟩),
   ⟨dd_189_44, rfl⟩,
   ⟨211, "PairMachineModel", fT10, 45, dd_189_45, rfl, okc_10, by decide, tw_942, rfl, Or.inl rfl⟩,
   Or.inl (Or.inl ⟨dd_189_48, rfl⟩),
   ⟨by decide, Or.inl ⟨1, rfl, dd_189_49, rfl⟩⟩,
   ⟨59, dd_189_50, rfl⟩,
   Or.inl ⟨0, rfl, dd_189_53, rfl⟩,
   ⟨51, "PairMachineModel", fT10, 45, dd_189_54, rfl, okc_10, by decide, tw_818⟩,
   Or.inl ⟨2, rfl, dd_189_57, rfl⟩,
   ⟨dd_189_58, rfl⟩,
   Or.inl (Or.inl ⟨dd_189_59, rfl⟩),
   ⟨31, dd_189_60, rfl, rfl⟩,
   Or.inl ⟨0, rfl, dd_189_63, rfl⟩,
   ⟨dd_189_64, rfl⟩,
   ⟨211, "PairMachineModel", fT10, 45, dd_189_65, rfl, okc_10, by decide, tw_942⟩,
   Or.inl (Or.inl ⟨dd_189_68, rfl⟩),
   ⟨dd_189_69, rfl⟩,
   ⟨211, "PairMachineModel", fT10, 45, dd_189_70, rfl, okc_10, by decide, tw_942, rfl, Or.inl rfl⟩,
   Or.inl ⟨0, rfl, dd_189_73, rfl⟩,
   Or.inl ⟨1, rfl, dd_189_74, rfl⟩,
   Or.inl ⟨0, rfl, dd_189_75, rfl⟩,
   ⟨85, "PairMachineModel", fT10, 45, dd_189_76, rfl, okc_10, by decide, tw_829⟩,
   Or.inl ⟨0, rfl, dd_189_79, rfl⟩,
   ⟨211, "PairMachineModel", fT10, 45, dd_189_80, rfl, okc_10, by decide, tw_942⟩,
   ⟨dd_189_83, rfl⟩,
   ⟨rfl, tw_943, by decide, tw_12, by decide +kernel, 214, tw_944, dd_189_84, tw_945, ⟨"PairMachineModel", fT10, 45, rfl, tw_946⟩, by decide +kernel⟩,
   ⟨by decide, Or.inl ⟨1, rfl, dd_189_87, rfl⟩⟩,
   ⟨21, dd_189_88, rfl⟩,
   Or.inl ⟨0, rfl, dd_189_91, rfl⟩,
   Or.inl ⟨0, rfl, dd_189_92, rfl⟩,
   ⟨51, "PairMachineModel", fT10, 45, dd_189_93, rfl, okc_10, by decide, tw_818⟩,
   Or.inl ⟨2, rfl, dd_189_96, rfl⟩,
   ⟨dd_189_97, rfl⟩,
   Or.inl ⟨0, rfl, dd_189_98, rfl⟩,
   ⟨54, "PairMachineModel", fT10, 45, dd_189_99, rfl, okc_10, by decide, tw_819⟩,
   Or.inl ⟨2, rfl, dd_189_102, rfl⟩,
   ⟨dd_189_103, rfl⟩,
   Or.inl ⟨1, rfl, dd_189_104, rfl⟩,
   ⟨rfl, tw_938, by decide, tw_12, by decide +kernel, 207, tw_939, dd_189_105, tw_940, ⟨"PairMachineModel", fT10, 45, rfl, tw_941⟩, by decide +kernel⟩,
   ⟨by decide, Or.inl ⟨1, rfl, dd_189_108, rfl⟩⟩,
   ⟨by decide, dd_189_109, rfl⟩,
   ⟨(-98), dd_189_112, rfl⟩,
   Or.inl ⟨1, rfl, dd_189_115, rfl⟩,
   ⟨dd_189_116, rfl⟩, trivial⟩
theorem okM_189 : mj_okE gG 189 (cM_189, 3, oM_189, hM_189) := ⟨rfl, rfl, by decide +kernel, trivial, okI_189⟩
theorem dd_190_0 : decode prog_13_method_36_code 0 = .ok (.iload_n 1, 1) := by decide +kernel
theorem dd_190_1 : decode prog_13_method_36_code 1 = .ok (.iconst 3, 1) := by decide +kernel
theorem dd_190_2 : decode prog_13_method_36_code 2 = .ok (.if_icmp .ne 39, 3) := by decide +kernel
theorem dd_190_5 : decode prog_13_method_36_code 5 = .ok (.aload_n 0, 1) := by decide +kernel
theorem dd_190_6 : decode prog_13_method_36_code 6 = .ok (.getfield 82, 3) := by decide +kernel
theorem dd_190_9 : decode prog_13_method_36_code 9 = .ok (.iload_n 2, 1) := by decide +kernel
theorem dd_190_10 : decode prog_13_method_36_code 10 = .ok (.baload, 1) := by decide +kernel
theorem dd_190_11 : decode prog_13_method_36_code 11 = .ok (.ifCond .ne 30, 3) := by decide +kernel
theorem dd_190_14 : decode prog_13_method_36_code 14 = .ok (.aload_n 0, 1) := by decide +kernel
theorem dd_190_15 : decode prog_13_method_36_code 15 = .ok (.getfield 82, 3) := by decide +kernel
theorem dd_190_18 : decode prog_13_method_36_code 18 = .ok (.iload_n 2, 1) := by decide +kernel
theorem dd_190_19 : decode prog_13_method_36_code 19 = .ok (.iconst 1, 1) := by decide +kernel
theorem dd_190_20 : decode prog_13_method_36_code 20 = .ok (.bastore, 1) := by decide +kernel
theorem dd_190_21 : decode prog_13_method_36_code 21 = .ok (.aload_n 0, 1) := by decide +kernel
theorem dd_190_22 : decode prog_13_method_36_code 22 = .ok (.getfield 85, 3) := by decide +kernel
theorem dd_190_25 : decode prog_13_method_36_code 25 = .ok (.aload_n 0, 1) := by decide +kernel
theorem dd_190_26 : decode prog_13_method_36_code 26 = .ok (.getfield 211, 3) := by decide +kernel
theorem dd_190_29 : decode prog_13_method_36_code 29 = .ok (.iload_n 2, 1) := by decide +kernel
theorem dd_190_30 : decode prog_13_method_36_code 30 = .ok (.iastore, 1) := by decide +kernel
theorem dd_190_31 : decode prog_13_method_36_code 31 = .ok (.aload_n 0, 1) := by decide +kernel
theorem dd_190_32 : decode prog_13_method_36_code 32 = .ok (.dup, 1) := by decide +kernel
theorem dd_190_33 : decode prog_13_method_36_code 33 = .ok (.getfield 211, 3) := by decide +kernel
theorem dd_190_36 : decode prog_13_method_36_code 36 = .ok (.iconst 1, 1) := by decide +kernel
theorem dd_190_37 : decode prog_13_method_36_code 37 = .ok (.iadd, 1) := by decide +kernel
theorem dd_190_38 : decode prog_13_method_36_code 38 = .ok (.putfield 211, 3) := by decide +kernel
theorem dd_190_41 : decode prog_13_method_36_code 41 = .ok (.return_, 1) := by decide +kernel
set_option maxRecDepth 100000 in
theorem okI_190 : mj_okI gG "PairMachineModel" prog_13_method_36_code 3 (mj_off oM_190) (Option.none : Option Jvm.ClassFile.FieldType) false true 0 cM_190 :=
  ⟨Or.inl ⟨1, rfl, dd_190_0, rfl⟩,
   Or.inl (Or.inl ⟨dd_190_1, rfl⟩),
   ⟨39, dd_190_2, rfl, rfl⟩,
   Or.inl ⟨0, rfl, dd_190_5, rfl⟩,
   ⟨82, "PairMachineModel", fT10, 45, dd_190_6, rfl, okc_10, by decide, tw_828⟩,
   Or.inl ⟨2, rfl, dd_190_9, rfl⟩,
   ⟨dd_190_10, rfl⟩,
   ⟨30, dd_190_11, rfl, rfl⟩,
   Or.inl ⟨0, rfl, dd_190_14, rfl⟩,
   ⟨82, "PairMachineModel", fT10, 45, dd_190_15, rfl, okc_10, by decide, tw_828⟩,
   Or.inl ⟨2, rfl, dd_190_18, rfl⟩,
   Or.inl (Or.inl ⟨dd_190_19, rfl⟩),
   ⟨dd_190_20, rfl⟩,
   Or.inl ⟨0, rfl, dd_190_21, rfl⟩,
   ⟨85, "PairMachineModel", fT10, 45, dd_190_22, rfl, okc_10, by decide, tw_829⟩,
   Or.inl ⟨0, rfl, dd_190_25, rfl⟩,
   ⟨211, "PairMachineModel", fT10, 45, dd_190_26, rfl, okc_10, by decide, tw_942⟩,
   Or.inl ⟨2, rfl, dd_190_29, rfl⟩,
   ⟨dd_190_30, rfl⟩,
   Or.inl ⟨0, rfl, dd_190_31, rfl⟩,
   ⟨dd_190_32, rfl⟩,
   ⟨211, "PairMachineModel", fT10, 45, dd_190_33, rfl, okc_10, by decide, tw_942⟩,
   Or.inl (Or.inl ⟨dd_190_36, rfl⟩),
   ⟨dd_190_37, rfl⟩,
   ⟨211, "PairMachineModel", fT10, 45, dd_190_38, rfl, okc_10, by decide, tw_942, rfl, Or.inl rfl⟩,
   ⟨dd_190_41, rfl⟩, trivial⟩
theorem okM_190 : mj_okE gG 190 (cM_190, 3, oM_190, hM_190) := ⟨rfl, rfl, by decide +kernel, trivial, okI_190⟩
theorem dd_191_0 : decode prog_13_method_37_code 0 = .ok (.iconst 0, 1) := by decide +kernel
theorem dd_191_1 : decode prog_13_method_37_code 1 = .ok (.istore_n 1, 1) := by decide +kernel
theorem dd_191_2 : decode prog_13_method_37_code 2 = .ok (.iload_n 1, 1) := by decide +kernel
theorem dd_191_3 : decode prog_13_method_37_code 3 = .ok (.aload_n 0, 1) := by decide +kernel
theorem dd_191_4 : decode prog_13_method_37_code 4 = .ok (.getfield 94, 3) := by decide +kernel
theorem dd_191_7 : decode prog_13_method_37_code 7 = .ok (.if_icmp .ge 16, 3) := by decide +kernel
theorem dd_191_10 : decode prog_13_method_37_code 10 = .ok (.aload_n 0, 1) := by decide +kernel
theorem dd_191_11 : decode prog_13_method_37_code 11 = .ok (.getfield 82, 3) := by decide +kernel
theorem dd_191_14 : decode prog_13_method_37_code 14 = .ok (.iload_n 1, 1) := by decide +kernel
theorem dd_191_15 : decode prog_13_method_37_code 15 = .ok (.iconst 0, 1) := by decide +kernel
theorem dd_191_16 : decode prog_13_method_37_code 16 = .ok (.bastore, 1) := by decide +kernel
theorem dd_191_17 : decode prog_13_method_37_code 17 = .ok (.iinc 1 1, 3) := by decide +kernel
theorem dd_191_20 : decode prog_13_method_37_code 20 = .ok (.goto (-18), 3) := by decide +kernel
theorem dd_191_23 : decode prog_13_method_37_code 23 = .ok (.aload_n 0, 1) := by decide +kernel
theorem dd_191_24 : decode prog_13_method_37_code 24 = .ok (.iconst 0, 1) := by decide +kernel
theorem dd_191_25 : decode prog_13_method_37_code 25 = .ok (.putfield 211, 3) := by decide +kernel
theorem dd_191_28 : decode prog_13_method_37_code 28 = .ok (.iconst 0, 1) := by decide +kernel
theorem dd_191_29 : decode prog_13_method_37_code 29 = .ok (.istore_n 1, 1) := by decide +kernel
theorem dd_191_30 : decode prog_13_method_37_code 30 = .ok (.iload_n 1, 1) := by decide +kernel
theorem dd_191_31 : decode prog_13_method_37_code 31 = .ok (.iconst 5, 1) := by decide +kernel
theorem dd_191_32 : decode prog_13_method_37_code 32 = .ok (.if_icmp .ge 33, 3) := by decide +kernel
theorem dd_191_35 : decode prog_13_method_37_code 35 = .ok (.aload_n 0, 1) := by decide +kernel
theorem dd_191_36 : decode prog_13_method_37_code 36 = .ok (.aload_n 0, 1) := by decide +kernel
theorem dd_191_37 : decode prog_13_method_37_code 37 = .ok (.getfield 88, 3) := by decide +kernel
theorem dd_191_40 : decode prog_13_method_37_code 40 = .ok (.iload_n 1, 1) := by decide +kernel
theorem dd_191_41 : decode prog_13_method_37_code 41 = .ok (.iaload, 1) := by decide +kernel
theorem dd_191_42 : decode prog_13_method_37_code 42 = .ok (.ifCond .ge 7, 3) := by decide +kernel
theorem dd_191_45 : decode prog_13_method_37_code 45 = .ok (.iconst 0, 1) := by decide +kernel
theorem dd_191_46 : decode prog_13_method_37_code 46 = .ok (.goto 4, 3) := by decide +kernel
theorem dd_191_49 : decode prog_13_method_37_code 49 = .ok (.iconst 3, 1) := by decide +kernel
theorem dd_191_50 : decode prog_13_method_37_code 50 = .ok (.aload_n 0, 1) := by decide +kernel
theorem dd_191_51 : decode prog_13_method_37_code 51 = .ok (.getfield 88, 3) := by decide +kernel
theorem dd_191_54 : decode prog_13_method_37_code 54 = .ok (.iload_n 1, 1) := by decide +kernel
theorem dd_191_55 : decode prog_13_method_37_code 55 = .ok (.iaload, 1) := by decide +kernel
theorem dd_191_56 : decode prog_13_method_37_code 56 = .ok (.invokevirtual 217, 3) := by decide +kernel
theorem dd_191_59 : decode prog_13_method_37_code 59 = .ok (.iinc 1 1, 3) := by decide +kernel
theorem dd_191_62 : decode prog_13_method_37_code 62 = .ok (.goto (-32), 3) := by decide +kernel
theorem dd_191_65 : decode prog_13_method_37_code 65 = .ok (.iconst 0, 1) := by decide +kernel
theorem dd_191_66 : decode prog_13_method_37_code 66 = .ok (.istore_n 1, 1) := by decide +kernel
theorem dd_191_67 : decode prog_13_method_37_code 67 = .ok (.aload_n 0, 1) := by decide +kernel
theorem dd_191_68 : decode prog_13_method_37_code 68 = .ok (.getfield 211, 3) := by decide +kernel
theorem dd_191_71 : decode prog_13_method_37_code 71 = .ok (.ifCond .le 61, 3) := by decide +kernel
theorem dd_191_74 : decode prog_13_method_37_code 74 = .ok (.aload_n 0, 1) := by decide +kernel
theorem dd_191_75 : decode prog_13_method_37_code 75 = .ok (.dup, 1) := by decide +kernel
theorem dd_191_76 : decode prog_13_method_37_code 76 = .ok (.getfield 211, 3) := by decide +kernel
theorem dd_191_79 : decode prog_13_method_37_code 79 = .ok (.iconst 1, 1) := by decide +kernel
theorem dd_191_80 : decode prog_13_method_37_code 80 = .ok (.isub, 1) := by decide +kernel
theorem dd_191_81 : decode prog_13_method_37_code 81 = .ok (.putfield 211, 3) := by decide +kernel
theorem dd_191_84 : decode prog_13_method_37_code 84 = .ok (.aload_n 0, 1) := by decide +kernel
theorem dd_191_85 : decode prog_13_method_37_code 85 = .ok (.getfield 85, 3) := by decide +kernel
theorem dd_191_88 : decode prog_13_method_37_code 88 = .ok (.aload_n 0, 1) := by decide +kernel
theorem dd_191_89 : decode prog_13_method_37_code 89 = .ok (.getfield 211, 3) := by decide +kernel
theorem dd_191_92 : decode prog_13_method_37_code 92 = .ok (.iaload, 1) := by decide +kernel
theorem dd_191_93 : decode prog_13_method_37_code 93 = .ok (.istore_n 2, 1) := by decide +kernel
theorem dd_191_94 : decode prog_13_method_37_code 94 = .ok (.iinc 1 1, 3) := by decide +kernel
theorem dd_191_97 : decode prog_13_method_37_code 97 = .ok (.aload_n 0, 1) := by decide +kernel
theorem dd_191_98 : decode prog_13_method_37_code 98 = .ok (.aload_n 0, 1) := by decide +kernel
theorem dd_191_99 : decode prog_13_method_37_code 99 = .ok (.getfield 70, 3) := by decide +kernel
theorem dd_191_102 : decode prog_13_method_37_code 102 = .ok (.iload_n 2, 1) := by decide +kernel
theorem dd_191_103 : decode prog_13_method_37_code 103 = .ok (.iaload, 1) := by decide +kernel
theorem dd_191_104 : decode prog_13_method_37_code 104 = .ok (.aload_n 0, 1) := by decide +kernel
theorem dd_191_105 : decode prog_13_method_37_code 105 = .ok (.getfield 73, 3) := by decide +kernel
theorem dd_191_108 : decode prog_13_method_37_code 108 = .ok (.iload_n 2, 1) := by decide +kernel
theorem dd_191_109 : decode prog_13_method_37_code 109 = .ok (.iaload, 1) := by decide +kernel
theorem dd_191_110 : decode prog_13_method_37_code 110 = .ok (.invokevirtual 217, 3) := by decide +kernel
theorem dd_191_113 : decode prog_13_method_37_code 113 = .ok (.aload_n 0, 1) := by decide +kernel
theorem dd_191_114 : decode prog_13_method_37_code 114 = .ok (.aload_n 0, 1) := by decide +kernel
theorem dd_191_115 : decode prog_13_method_37_code 115 = .ok (.getfield 76, 3) := by decide +kernel
theorem dd_191_118 : decode prog_13_method_37_code 118 = .ok (.iload_n 2, 1) := by decide +kernel
theorem dd_191_119 : decode prog_13_method_37_code 119 = .ok (.iaload, 1) := by decide +kernel
theorem dd_191_120 : decode prog_13_method_37_code 120 = .ok (.aload_n 0, 1) := by decide +kernel
theorem dd_191_121 : decode prog_13_method_37_code 121 = .ok (.getfield 79, 3) := by decide +kernel
theorem dd_191_124 : decode prog_13_method_37_code 124 = .ok (.iload_n 2, 1) := by decide +kernel
theorem dd_191_125 : decode prog_13_method_37_code 125 = .ok (.iaload, 1) := by decide +kernel
theorem dd_191_126 : decode prog_13_method_37_code 126 = .ok (.invokevirtual 217, 3) := by decide +kernel
theorem dd_191_129 : decode prog_13_method_37_code 129 = .ok (.goto (-62), 3) := by decide +kernel
theorem dd_191_132 : decode prog_13_method_37_code 132 = .ok (.iload_n 1, 1) := by decide +kernel
theorem dd_191_133 : decode prog_13_method_37_code 133 = .ok (.ireturn, 1) := by decide +kernel
set_option maxRecDepth 100000 in
theorem okI_191 : mj_okI gG "PairMachineModel" prog_13_method_37_code 3 (mj_off oM_191) (Option.some Jvm.ClassFile.FieldType.int) false true 0 cM_191 :=
  ⟨Or.inl (Or.inl ⟨dd_191_0, rfl⟩),
   ⟨by decide, Or.inl ⟨1, rfl, dd_191_1, rfl⟩⟩,
   Or.inl ⟨1, rfl, dd_191_2, rfl⟩,
   Or.inl ⟨0, rfl, dd_191_3, rfl⟩,
   ⟨94, "PairMachineModel", fT10, 45, dd_191_4, rfl, okc_10, by decide, tw_832⟩,
   ⟨16, dd_191_7, rfl, rfl⟩,
   Or.inl ⟨0, rfl, dd_191_10, rfl⟩,
   ⟨82, "PairMachineModel", fT10, 45, dd_191_11, rfl, okc_10, by decide, tw_828⟩,
   Or.inl ⟨1, rfl, dd_191_14, rfl⟩,
   Or.inl (Or.inl ⟨dd_191_15, rfl⟩),
   ⟨dd_191_16, rfl⟩,
   ⟨by decide, dd_191_17, rfl⟩,
   ⟨(-18), dd_191_20, rfl⟩,
   Or.inl ⟨0, rfl, dd_191_23, rfl⟩,
   Or.inl (Or.inl ⟨dd_191_24, rfl⟩),
   ⟨211, "PairMachineModel", fT10, 45, dd_191_25, rfl, okc_10, by decide, tw_942, rfl, Or.inl rfl⟩,
   Or.inl (Or.inl ⟨dd_191_28, rfl⟩),
   ⟨by decide, Or.inl ⟨1, rfl, dd_191_29, rfl⟩⟩,
   Or.inl ⟨1, rfl, dd_191_30, rfl⟩,
   Or.inl (Or.inl ⟨dd_191_31, rfl⟩),
   ⟨33, dd_191_32, rfl, rfl⟩,
   Or.inl ⟨0, rfl, dd_191_35, rfl⟩,
   Or.inl ⟨0, rfl, dd_191_36, rfl⟩,
   ⟨88, "PairMachineModel", fT10, 45, dd_191_37, rfl, okc_10, by decide, tw_830⟩,
   Or.inl ⟨1, rfl, dd_191_40, rfl⟩,
   ⟨dd_191_41, rfl⟩,
   ⟨7, dd_191_42, rfl, rfl⟩,
   Or.inl (Or.inl ⟨dd_191_45, rfl⟩),
   ⟨4, dd_191_46, rfl⟩,
   Or.inl (Or.inl ⟨dd_191_49, rfl⟩),
   Or.inl ⟨0, rfl, dd_191_50, rfl⟩,
   ⟨88, "PairMachineModel", fT10, 45, dd_191_51, rfl, okc_10, by decide, tw_830⟩,
   Or.inl ⟨1, rfl, dd_191_54, rfl⟩,
   ⟨dd_191_55, rfl⟩,
   ⟨rfl, tw_947, by decide, tw_12, by decide +kernel, 217, tw_948, dd_191_56, tw_949, ⟨"PairMachineModel", fT10, 45, rfl, tw_950⟩, by decide +kernel⟩,
   ⟨by decide, dd_191_59, rfl⟩,
   ⟨(-32), dd_191_62, rfl⟩,
   Or.inl (Or.inl ⟨dd_191_65, rfl⟩),
   ⟨by decide, Or.inl ⟨1, rfl, dd_191_66, rfl⟩⟩,
   Or.inl ⟨0, rfl, dd_191_67, rfl⟩,
   ⟨211, "PairMachineModel", fT10, 45, dd_191_68, rfl, okc_10, by decide, tw_942⟩,
   ⟨61, dd_191_71, rfl, rfl⟩,
   Or.inl ⟨0, rfl, dd_191_74, rfl⟩,
   ⟨dd_191_75, rfl⟩,
   ⟨211, "PairMachineModel", fT10, 45, dd_191_76, rfl, okc_10, by decide, tw_942⟩,
   Or.inl (Or.inl ⟨dd_191_79, rfl⟩),
   ⟨dd_191_80, rfl⟩,
   ⟨211, "PairMachineModel", fT10, 45, dd_191_81, rfl, okc_10, by decide, tw_942, rfl, Or.inl rfl⟩,
   Or.inl ⟨0, rfl, dd_191_84, rfl⟩,
   ⟨85, "PairMachineModel", fT10, 45, dd_191_85, rfl, okc_10, by decide, tw_829⟩,
   Or.inl ⟨0, rfl, dd_191_88, rfl⟩,
   ⟨211, "PairMachineModel", fT10, 45, dd_191_89, rfl, okc_10, by decide, tw_942⟩,
   ⟨dd_191_92, rfl⟩,
   ⟨by decide, Or.inl ⟨2, rfl, dd_191_93, rfl⟩⟩,
   ⟨by decide, dd_191_94, rfl⟩,
   Or.inl ⟨0, rfl, dd_191_97, rfl⟩,
   Or.inl ⟨0, rfl, dd_191_98, rfl⟩,
   ⟨70, "PairMachineModel", fT10, 45, dd_191_99, rfl, okc_10, by decide, tw_824⟩,
   Or.inl ⟨2, rfl, dd_191_102, rfl⟩,
   ⟨dd_191_103, rfl⟩,
   Or.inl ⟨0, rfl, dd_191_104, rfl⟩,
   ⟨73, "PairMachineModel", fT10, 45, dd_191_105, rfl, okc_10, by decide, tw_825⟩,
   Or.inl ⟨2, rfl, dd_191_108, rfl⟩,
   ⟨dd_191_109, rfl⟩,
   ⟨rfl, tw_947, by decide, tw_12, by decide +kernel, 217, tw_948, dd_191_110, tw_949, ⟨"PairMachineModel", fT10, 45, rfl, tw_950⟩, by decide +kernel⟩,
   Or.inl ⟨0, rfl, dd_191_113, rfl⟩,
   Or.inl ⟨0, rfl, dd_191_114, rfl⟩,
   ⟨76, "PairMachineModel", fT10, 45, dd_191_115, rfl, okc_10, by decide, tw_826⟩,
   Or.inl ⟨2, rfl, dd_191_118, rfl⟩,
   ⟨dd_191_119, rfl⟩,
   Or.inl ⟨0, rfl, dd_191_120, rfl⟩,
   ⟨79, "PairMachineModel", fT10, 45, dd_191_121, rfl, okc_10, by decide, tw_827⟩,
   Or.inl ⟨2, rfl, dd_191_124, rfl⟩,
   ⟨dd_191_125, rfl⟩,
   ⟨rfl, tw_947, by decide, tw_12, by decide +kernel, 217, tw_948, dd_191_126, tw_949, ⟨"PairMachineModel", fT10, 45, rfl, tw_950⟩, by decide +kernel⟩,
   ⟨(-62), dd_191_129, rfl⟩,
   Or.inl ⟨1, rfl, dd_191_132, rfl⟩,
   ⟨dd_191_133, rfl⟩, trivial⟩
theorem okM_191 : mj_okE gG 191 (cM_191, 3, oM_191, hM_191) := ⟨rfl, rfl, by decide +kernel, trivial, okI_191⟩
end
