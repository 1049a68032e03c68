theorem dd_97_0 : decode prog_5_method_13_code 0 = .ok (.aload_n 0, 1) := by decide +kernel
theorem dd_97_1 : decode prog_5_method_13_code 1 = .ok (.getfield 14, 3) := by decide +kernel
theorem dd_97_4 : decode prog_5_method_13_code 4 = .ok (.aload_n 0, 1) := by decide +kernel
theorem dd_97_5 : decode prog_5_method_13_code 5 = .ok (.getfield 14, 3) := by decide +kernel
theorem dd_97_8 : decode prog_5_method_13_code 8 = .ok (.aload_n 0, 1) := by decide +kernel
theorem dd_97_9 : decode prog_5_method_13_code 9 = .ok (.getfield 59, 3) := by decide +kernel
theorem dd_97_12 : decode prog_5_method_13_code 12 = .ok (.invokevirtual 145, 3) := by decide +kernel
theorem dd_97_15 : decode prog_5_method_13_code 15 = .ok (.invokevirtual 145, 3) := by decide +kernel
theorem dd_97_18 : decode prog_5_method_13_code 18 = .ok (.lstore_n 3, 1) := by decide +kernel
theorem dd_97_19 : decode prog_5_method_13_code 19 = .ok (.aload_n 0, 1) := by decide +kernel
theorem dd_97_20 : decode prog_5_method_13_code 20 = .ok (.aload_n 0, 1) := by decide +kernel
theorem dd_97_21 : decode prog_5_method_13_code 21 = .ok (.getfield 14, 3) := by decide +kernel
theorem dd_97_24 : decode prog_5_method_13_code 24 = .ok (.aload_n 0, 1) := by decide +kernel
theorem dd_97_25 : decode prog_5_method_13_code 25 = .ok (.getfield 14, 3) := by decide +kernel
theorem dd_97_28 : decode prog_5_method_13_code 28 = .ok (.aload_n 0, 1) := by decide +kernel
theorem dd_97_29 : decode prog_5_method_13_code 29 = .ok (.getfield 66, 3) := by decide +kernel
theorem dd_97_32 : decode prog_5_method_13_code 32 = .ok (.invokevirtual 145, 3) := by decide +kernel
theorem dd_97_35 : decode prog_5_method_13_code 35 = .ok (.aload_n 0, 1) := by decide +kernel
theorem dd_97_36 : decode prog_5_method_13_code 36 = .ok (.getfield 69, 3) := by decide +kernel
theorem dd_97_39 : decode prog_5_method_13_code 39 = .ok (.invokevirtual 152, 3) := by decide +kernel
theorem dd_97_42 : decode prog_5_method_13_code 42 = .ok (.putfield 69, 3) := by decide +kernel
theorem dd_97_45 : decode prog_5_method_13_code 45 = .ok (.aload_n 0, 1) := by decide +kernel
theorem dd_97_46 : decode prog_5_method_13_code 46 = .ok (.aload_n 0, 1) := by decide +kernel
theorem dd_97_47 : decode prog_5_method_13_code 47 = .ok (.getfield 14, 3) := by decide +kernel
theorem dd_97_50 : decode prog_5_method_13_code 50 = .ok (.lload_n 1, 1) := by decide +kernel
theorem dd_97_51 : decode prog_5_method_13_code 51 = .ok (.aload_n 0, 1) := by decide +kernel
theorem dd_97_52 : decode prog_5_method_13_code 52 = .ok (.getfield 69, 3) := by decide +kernel
theorem dd_97_55 : decode prog_5_method_13_code 55 = .ok (.invokevirtual 152, 3) := by decide +kernel
theorem dd_97_58 : decode prog_5_method_13_code 58 = .ok (.putfield 69, 3) := by decide +kernel
theorem dd_97_61 : decode prog_5_method_13_code 61 = .ok (.aload_n 0, 1) := by decide +kernel
theorem dd_97_62 : decode prog_5_method_13_code 62 = .ok (.aload_n 0, 1) := by decide +kernel
theorem dd_97_63 : decode prog_5_method_13_code 63 = .ok (.getfield 14, 3) := by decide +kernel
theorem dd_97_66 : decode prog_5_method_13_code 66 = .ok (.lload_n 3, 1) := by decide +kernel
theorem dd_97_67 : decode prog_5_method_13_code 67 = .ok (.aload_n 0, 1) := by decide +kernel
theorem dd_97_68 : decode prog_5_method_13_code 68 = .ok (.getfield 69, 3) := by decide +kernel
theorem dd_97_71 : decode prog_5_method_13_code 71 = .ok (.invokevirtual 152, 3) := by decide +kernel
theorem dd_97_74 : decode prog_5_method_13_code 74 = .ok (.putfield 69, 3) := by decide +kernel
theorem dd_97_77 : decode prog_5_method_13_code 77 = .ok (.aload_n 0, 1) := by decide +kernel
theorem dd_97_78 : decode prog_5_method_13_code 78 = .ok (.lconst 0, 1) := by decide +kernel
theorem dd_97_79 : decode prog_5_method_13_code 79 = .ok (.putfield 59, 3) := by decide +kernel
theorem dd_97_82 : decode prog_5_method_13_code 82 = .ok (.return_, 1) := by decide +kernel
set_option maxRecDepth 100000 in
theorem okI_97 : mj_okI gG "PairMachine$Machine" prog_5_method_13_code 5 (mj_off oM_97) (Option.none : Option Jvm.ClassFile.FieldType) false true 0 cM_97 :=
  ⟨Or.inl ⟨0, rfl, dd_97_0, rfl⟩,
   ⟨14, "PairMachine$Machine", fT6, 10, dd_97_1, rfl, okc_6, by decide, tw_517⟩,
   Or.inl ⟨0, rfl, dd_97_4, rfl⟩,
   ⟨14, "PairMachine$Machine", fT6, 10, dd_97_5, rfl, okc_6, by decide, tw_517⟩,
   Or.inl ⟨0, rfl, dd_97_8, rfl⟩,
   ⟨59, "PairMachine$Machine", fT6, 10, dd_97_9, rfl, okc_6, by decide, tw_545⟩,
   ⟨rfl, tw_633, by decide, tw_513, by decide +kernel, 145, tw_634, dd_97_12, tw_635, ⟨"PairMachine$Store", fT7, 9, rfl, tw_636⟩, by decide +kernel⟩,
   ⟨rfl, tw_633, by decide, tw_513, by decide +kernel, 145, tw_634, dd_97_15, tw_635, ⟨"PairMachine$Store", fT7, 9, rfl, tw_636⟩, by decide +kernel⟩,
   ⟨by decide, Or.inl ⟨3, rfl, dd_97_18, rfl⟩⟩,
   Or.inl ⟨0, rfl, dd_97_19, rfl⟩,
   Or.inl ⟨0, rfl, dd_97_20, rfl⟩,
   ⟨14, "PairMachine$Machine", fT6, 10, dd_97_21, rfl, okc_6, by decide, tw_517⟩,
   Or.inl ⟨0, rfl, dd_97_24, rfl⟩,
   ⟨14, "PairMachine$Machine", fT6, 10, dd_97_25, rfl, okc_6, by decide, tw_517⟩,
   Or.inl ⟨0, rfl, dd_97_28, rfl⟩,
   ⟨66, "PairMachine$Machine", fT6, 10, dd_97_29, rfl, okc_6, by decide, tw_547⟩,
   ⟨rfl, tw_633, by decide, tw_513, by decide +kernel, 145, tw_634, dd_97_32, tw_635, ⟨"PairMachine$Store", fT7, 9, rfl, tw_636⟩, by decide +kernel⟩,
   Or.inl ⟨0, rfl, dd_97_35, rfl⟩,
   ⟨69, "PairMachine$Machine", fT6, 10, dd_97_36, rfl, okc_6, by decide, tw_548⟩,
   ⟨rfl, tw_641, by decide, tw_513, by decide +kernel, 152, tw_642, dd_97_39, tw_643, ⟨"PairMachine$Store", fT7, 9, rfl, tw_644⟩, by decide +kernel⟩,
   ⟨69, "PairMachine$Machine", fT6, 10, dd_97_42, rfl, okc_6, by decide, tw_548, rfl, Or.inl rfl⟩,
   Or.inl ⟨0, rfl, dd_97_45, rfl⟩,
   Or.inl ⟨0, rfl, dd_97_46, rfl⟩,
   ⟨14, "PairMachine$Machine", fT6, 10, dd_97_47, rfl, okc_6, by decide, tw_517⟩,
   Or.inl ⟨1, rfl, dd_97_50, rfl⟩,
   Or.inl ⟨0, rfl, dd_97_51, rfl⟩,
   ⟨69, "PairMachine$Machine", fT6, 10, dd_97_52, rfl, okc_6, by decide, tw_548⟩,
   ⟨rfl, tw_641, by decide, tw_513, by decide +kernel, 152, tw_642, dd_97_55, tw_643, ⟨"PairMachine$Store", fT7, 9, rfl, tw_644⟩, by decide +kernel⟩,
   ⟨69, "PairMachine$Machine", fT6, 10, dd_97_58, rfl, okc_6, by decide, tw_548, rfl, Or.inl rfl⟩,
   Or.inl ⟨0, rfl, dd_97_61, rfl⟩,
   Or.inl ⟨0, rfl, dd_97_62, rfl⟩,
   ⟨14, "PairMachine$Machine", fT6, 10, dd_97_63, rfl, okc_6, by decide, tw_517⟩,
   Or.inl ⟨3, rfl, dd_97_66, rfl⟩,
   Or.inl ⟨0, rfl, dd_97_67, rfl⟩,
   ⟨69, "PairMachine$Machine", fT6, 10, dd_97_68, rfl, okc_6, by decide, tw_548⟩,
   ⟨rfl, tw_641, by decide, tw_513, by decide +kernel, 152, tw_642, dd_97_71, tw_643, ⟨"PairMachine$Store", fT7, 9, rfl, tw_644⟩, by decide +kernel⟩,
   ⟨69, "PairMachine$Machine", fT6, 10, dd_97_74, rfl, okc_6, by decide, tw_548, rfl, Or.inl rfl⟩,
   Or.inl ⟨0, rfl, dd_97_77, rfl⟩,
   Or.inl ⟨0, rfl, dd_97_78, rfl⟩,
   ⟨59, "PairMachine$Machine", fT6, 10, dd_97_79, rfl, okc_6, by decide, tw_545, rfl, Or.inl rfl⟩,
   ⟨dd_97_82, rfl⟩, trivial⟩
theorem okM_97 : mj_okE gG 97 (cM_97, 5, oM_97, hM_97) := ⟨rfl, rfl, by decide +kernel, trivial, okI_97⟩
theorem dd_98_0 : decode prog_5_method_14_code 0 = .ok (.aload_n 0, 1) := by decide +kernel
theorem dd_98_1 : decode prog_5_method_14_code 1 = .ok (.getfield 14, 3) := by decide +kernel
theorem dd_98_4 : decode prog_5_method_14_code 4 = .ok (.aload_n 0, 1) := by decide +kernel
theorem dd_98_5 : decode prog_5_method_14_code 5 = .ok (.getfield 59, 3) := by decide +kernel
theorem dd_98_8 : decode prog_5_method_14_code 8 = .ok (.invokevirtual 149, 3) := by decide +kernel
theorem dd_98_11 : decode prog_5_method_14_code 11 = .ok (.lstore_n 1, 1) := by decide +kernel
theorem dd_98_12 : decode prog_5_method_14_code 12 = .ok (.aload_n 0, 1) := by decide +kernel
theorem dd_98_13 : decode prog_5_method_14_code 13 = .ok (.getfield 14, 3) := by decide +kernel
theorem dd_98_16 : decode prog_5_method_14_code 16 = .ok (.aload_n 0, 1) := by decide +kernel
theorem dd_98_17 : decode prog_5_method_14_code 17 = .ok (.getfield 69, 3) := by decide +kernel
theorem dd_98_20 : decode prog_5_method_14_code 20 = .ok (.invokevirtual 145, 3) := by decide +kernel
theorem dd_98_23 : decode prog_5_method_14_code 23 = .ok (.lstore_n 3, 1) := by decide +kernel
theorem dd_98_24 : decode prog_5_method_14_code 24 = .ok (.aload_n 0, 1) := by decide +kernel
theorem dd_98_25 : decode prog_5_method_14_code 25 = .ok (.getfield 14, 3) := by decide +kernel
theorem dd_98_28 : decode prog_5_method_14_code 28 = .ok (.lload_n 3, 1) := by decide +kernel
theorem dd_98_29 : decode prog_5_method_14_code 29 = .ok (.invokevirtual 145, 3) := by decide +kernel
theorem dd_98_32 : decode prog_5_method_14_code 32 = .ok (.lstore 5, 2) := by decide +kernel
theorem dd_98_34 : decode prog_5_method_14_code 34 = .ok (.aload_n 0, 1) := by decide +kernel
theorem dd_98_35 : decode prog_5_method_14_code 35 = .ok (.aload_n 0, 1) := by decide +kernel
theorem dd_98_36 : decode prog_5_method_14_code 36 = .ok (.getfield 14, 3) := by decide +kernel
theorem dd_98_39 : decode prog_5_method_14_code 39 = .ok (.lload_n 1, 1) := by decide +kernel
theorem dd_98_40 : decode prog_5_method_14_code 40 = .ok (.aload_n 0, 1) := by decide +kernel
theorem dd_98_41 : decode prog_5_method_14_code 41 = .ok (.getfield 14, 3) := by decide +kernel
theorem dd_98_44 : decode prog_5_method_14_code 44 = .ok (.aload_n 0, 1) := by decide +kernel
theorem dd_98_45 : decode prog_5_method_14_code 45 = .ok (.getfield 69, 3) := by decide +kernel
theorem dd_98_48 : decode prog_5_method_14_code 48 = .ok (.invokevirtual 149, 3) := by decide +kernel
theorem dd_98_51 : decode prog_5_method_14_code 51 = .ok (.invokevirtual 152, 3) := by decide +kernel
theorem dd_98_54 : decode prog_5_method_14_code 54 = .ok (.putfield 59, 3) := by decide +kernel
theorem dd_98_57 : decode prog_5_method_14_code 57 = .ok (.aload_n 0, 1) := by decide +kernel
theorem dd_98_58 : decode prog_5_method_14_code 58 = .ok (.aload_n 0, 1) := by decide +kernel
theorem dd_98_59 : decode prog_5_method_14_code 59 = .ok (.getfield 14, 3) := by decide +kernel
theorem dd_98_62 : decode prog_5_method_14_code 62 = .ok (.lload_n 3, 1) := by decide +kernel
theorem dd_98_63 : decode prog_5_method_14_code 63 = .ok (.invokevirtual 149, 3) := by decide +kernel
theorem dd_98_66 : decode prog_5_method_14_code 66 = .ok (.putfield 63, 3) := by decide +kernel
theorem dd_98_69 : decode prog_5_method_14_code 69 = .ok (.aload_n 0, 1) := by decide +kernel
theorem dd_98_70 : decode prog_5_method_14_code 70 = .ok (.aload_n 0, 1) := by decide +kernel
theorem dd_98_71 : decode prog_5_method_14_code 71 = .ok (.getfield 14, 3) := by decide +kernel
theorem dd_98_74 : decode prog_5_method_14_code 74 = .ok (.lload 5, 2) := by decide +kernel
theorem dd_98_76 : decode prog_5_method_14_code 76 = .ok (.invokevirtual 149, 3) := by decide +kernel
theorem dd_98_79 : decode prog_5_method_14_code 79 = .ok (.putfield 66, 3) := by decide +kernel
theorem dd_98_82 : decode prog_5_method_14_code 82 = .ok (.aload_n 0, 1) := by decide +kernel
theorem dd_98_83 : decode prog_5_method_14_code 83 = .ok (.aload_n 0, 1) := by decide +kernel
theorem dd_98_84 : decode prog_5_method_14_code 84 = .ok (.getfield 14, 3) := by decide +kernel
theorem dd_98_87 : decode prog_5_method_14_code 87 = .ok (.lload 5, 2) := by decide +kernel
theorem dd_98_89 : decode prog_5_method_14_code 89 = .ok (.invokevirtual 145, 3) := by decide +kernel
theorem dd_98_92 : decode prog_5_method_14_code 92 = .ok (.putfield 69, 3) := by decide +kernel
theorem dd_98_95 : decode prog_5_method_14_code 95 = .ok (.iconst 1, 1) := by decide +kernel
theorem dd_98_96 : decode prog_5_method_14_code 96 = .ok (.ireturn, 1) := by decide +kernel
set_option maxRecDepth 100000 in
theorem okI_98 : mj_okI gG "PairMachine$Machine" prog_5_method_14_code 7 (mj_off oM_98) (Option.some Jvm.ClassFile.FieldType.boolean) false true 0 cM_98 :=
  ⟨Or.inl ⟨0, rfl, dd_98_0, rfl⟩,
   ⟨14, "PairMachine$Machine", fT6, 10, dd_98_1, rfl, okc_6, by decide, tw_517⟩,
   Or.inl ⟨0, rfl, dd_98_4, rfl⟩,
   ⟨59, "PairMachine$Machine", fT6, 10, dd_98_5, rfl, okc_6, by decide, tw_545⟩,
   ⟨rfl, tw_637, by decide, tw_513, by decide +kernel, 149, tw_638, dd_98_8, tw_639, ⟨"PairMachine$Store", fT7, 9, rfl, tw_640⟩, by decide +kernel⟩,
   ⟨by decide, Or.inl ⟨1, rfl, dd_98_11, rfl⟩⟩,
   Or.inl ⟨0, rfl, dd_98_12, rfl⟩,
   ⟨14, "PairMachine$Machine", fT6, 10, dd_98_13, rfl, okc_6, by decide, tw_517⟩,
   Or.inl ⟨0, rfl, dd_98_16, rfl⟩,
   ⟨69, "PairMachine$Machine", fT6, 10, dd_98_17, rfl, okc_6, by decide, tw_548⟩,
   ⟨rfl, tw_633, by decide, tw_513, by decide +kernel, 145, tw_634, dd_98_20, tw_635, ⟨"PairMachine$Store", fT7, 9, rfl, tw_636⟩, by decide +kernel⟩,
   ⟨by decide, Or.inl ⟨3, rfl, dd_98_23, rfl⟩⟩,
   Or.inl ⟨0, rfl, dd_98_24, rfl⟩,
   ⟨14, "PairMachine$Machine", fT6, 10, dd_98_25, rfl, okc_6, by decide, tw_517⟩,
   Or.inl ⟨3, rfl, dd_98_28, rfl⟩,
   ⟨rfl, tw_633, by decide, tw_513, by decide +kernel, 145, tw_634, dd_98_29, tw_635, ⟨"PairMachine$Store", fT7, 9, rfl, tw_636⟩, by decide +kernel⟩,
   ⟨by decide, Or.inr ⟨dd_98_32, rfl⟩⟩,
   Or.inl ⟨0, rfl, dd_98_34, rfl⟩,
   Or.inl ⟨0, rfl, dd_98_35, rfl⟩,
   ⟨14, "PairMachine$Machine", fT6, 10, dd_98_36, rfl, okc_6, by decide, tw_517⟩,
   Or.inl ⟨1, rfl, dd_98_39, rfl⟩,
   Or.inl ⟨0, rfl, dd_98_40, rfl⟩,
   ⟨14, "PairMachine$Machine", fT6, 10, dd_98_41, rfl, okc_6, by decide, tw_517⟩,
   Or.inl ⟨0, rfl, dd_98_44, rfl⟩,
   ⟨69, "PairMachine$Machine", fT6, 10, dd_98_45, rfl, okc_6, by decide, tw_548⟩,
   ⟨rfl, tw_637, by decide, tw_513, by decide +kernel, 149, tw_638, dd_98_48, tw_639, ⟨"PairMachine$Store", fT7, 9, rfl, tw_640⟩, by decide +kernel⟩,
   ⟨rfl, tw_641, by decide, tw_513, by decide +kernel, 152, tw_642, dd_98_51, tw_643, ⟨"PairMachine$Store", fT7, 9, rfl, tw_644⟩, by decide +kernel⟩,
   ⟨59, "PairMachine$Machine", fT6, 10, dd_98_54, rfl, okc_6, by decide, tw_545, rfl, Or.inl rfl⟩,
   Or.inl ⟨0, rfl, dd_98_57, rfl⟩,
   Or.inl ⟨0, rfl, dd_98_58, rfl⟩,
   ⟨14, "PairMachine$Machine", fT6, 10, dd_98_59, rfl, okc_6, by decide, tw_517⟩,
   Or.inl ⟨3, rfl, dd_98_62, rfl⟩,
   ⟨rfl, tw_637, by decide, tw_513, by decide +kernel, 149, tw_638, dd_98_63, tw_639, ⟨"PairMachine$Store", fT7, 9, rfl, tw_640⟩, by decide +kernel⟩,
   ⟨63, "PairMachine$Machine", fT6, 10, dd_98_66, rfl, okc_6, by decide, tw_546, rfl, Or.inl rfl⟩,
   Or.inl ⟨0, rfl, dd_98_69, rfl⟩,
   Or.inl ⟨0, rfl, dd_98_70, rfl⟩,
   ⟨14, "PairMachine$Machine", fT6, 10, dd_98_71, rfl, okc_6, by decide, tw_517⟩,
   Or.inr ⟨dd_98_74, rfl⟩,
   ⟨rfl, tw_637, by decide, tw_513, by decide +kernel, 149, tw_638, dd_98_76, tw_639, ⟨"PairMachine$Store", fT7, 9, rfl, tw_640⟩, by decide +kernel⟩,
   ⟨66, "PairMachine$Machine", fT6, 10, dd_98_79, rfl, okc_6, by decide, tw_547, rfl, Or.inl rfl⟩,
   Or.inl ⟨0, rfl, dd_98_82, rfl⟩,
   Or.inl ⟨0, rfl, dd_98_83, rfl⟩,
   ⟨14, "PairMachine$Machine", fT6, 10, dd_98_84, rfl, okc_6, by decide, tw_517⟩,
   Or.inr ⟨dd_98_87, rfl⟩,
   ⟨rfl, tw_633, by decide, tw_513, by decide +kernel, 145, tw_634, dd_98_89, tw_635, ⟨"PairMachine$Store", fT7, 9, rfl, tw_636⟩, by decide +kernel⟩,
   ⟨69, "PairMachine$Machine", fT6, 10, dd_98_92, rfl, okc_6, by decide, tw_548, rfl, Or.inl rfl⟩,
   Or.inl (Or.inl ⟨dd_98_95, rfl⟩),
   ⟨dd_98_96, rfl⟩, trivial⟩
theorem okM_98 : mj_okE gG 98 (cM_98, 7, oM_98, hM_98) := ⟨rfl, rfl, by decide +kernel, trivial, okI_98⟩
theorem dd_99_0 : decode prog_5_method_15_code 0 = .ok (.aload_n 0, 1) := by decide +kernel
theorem dd_99_1 : decode prog_5_method_15_code 1 = .ok (.aload_n 0, 1) := by decide +kernel
theorem dd_99_2 : decode prog_5_method_15_code 2 = .ok (.getfield 14, 3) := by decide +kernel
theorem dd_99_5 : decode prog_5_method_15_code 5 = .ok (.lconst 0, 1) := by decide +kernel
theorem dd_99_6 : decode prog_5_method_15_code 6 = .ok (.aload_n 0, 1) := by decide +kernel
theorem dd_99_7 : decode prog_5_method_15_code 7 = .ok (.getfield 63, 3) := by decide +kernel
theorem dd_99_10 : decode prog_5_method_15_code 10 = .ok (.invokevirtual 152, 3) := by decide +kernel
theorem dd_99_13 : decode prog_5_method_15_code 13 = .ok (.putfield 63, 3) := by decide +kernel
theorem dd_99_16 : decode prog_5_method_15_code 16 = .ok (.aload_n 0, 1) := by decide +kernel
theorem dd_99_17 : decode prog_5_method_15_code 17 = .ok (.aload_n 0, 1) := by decide +kernel
theorem dd_99_18 : decode prog_5_method_15_code 18 = .ok (.getfield 14, 3) := by decide +kernel
theorem dd_99_21 : decode prog_5_method_15_code 21 = .ok (.aload_n 0, 1) := by decide +kernel
theorem dd_99_22 : decode prog_5_method_15_code 22 = .ok (.getfield 66, 3) := by decide +kernel
theorem dd_99_25 : decode prog_5_method_15_code 25 = .ok (.invokevirtual 145, 3) := by decide +kernel
theorem dd_99_28 : decode prog_5_method_15_code 28 = .ok (.putfield 66, 3) := by decide +kernel
theorem dd_99_31 : decode prog_5_method_15_code 31 = .ok (.iconst 1, 1) := by decide +kernel
theorem dd_99_32 : decode prog_5_method_15_code 32 = .ok (.ireturn, 1) := by decide +kernel
set_option maxRecDepth 100000 in
theorem okI_99 : mj_okI gG "PairMachine$Machine" prog_5_method_15_code 1 (mj_off oM_99) (Option.some Jvm.ClassFile.FieldType.boolean) false true 0 cM_99 :=
  ⟨Or.inl ⟨0, rfl, dd_99_0, rfl⟩,
   Or.inl ⟨0, rfl, dd_99_1, rfl⟩,
   ⟨14, "PairMachine$Machine", fT6, 10, dd_99_2, rfl, okc_6, by decide, tw_517⟩,
   Or.inl ⟨0, rfl, dd_99_5, rfl⟩,
   Or.inl ⟨0, rfl, dd_99_6, rfl⟩,
   ⟨63, "PairMachine$Machine", fT6, 10, dd_99_7, rfl, okc_6, by decide, tw_546⟩,
   ⟨rfl, tw_641, by decide, tw_513, by decide +kernel, 152, tw_642, dd_99_10, tw_643, ⟨"PairMachine$Store", fT7, 9, rfl, tw_644⟩, by decide +kernel⟩,
   ⟨63, "PairMachine$Machine", fT6, 10, dd_99_13, rfl, okc_6, by decide, tw_546, rfl, Or.inl rfl⟩,
   Or.inl ⟨0, rfl, dd_99_16, rfl⟩,
   Or.inl ⟨0, rfl, dd_99_17, rfl⟩,
   ⟨14, "PairMachine$Machine", fT6, 10, dd_99_18, rfl, okc_6, by decide, tw_517⟩,
   Or.inl ⟨0, rfl, dd_99_21, rfl⟩,
   ⟨66, "PairMachine$Machine", fT6, 10, dd_99_22, rfl, okc_6, by decide, tw_547⟩,
   ⟨rfl, tw_633, by decide, tw_513, by decide +kernel, 145, tw_634, dd_99_25, tw_635, ⟨"PairMachine$Store", fT7, 9, rfl, tw_636⟩, by decide +kernel⟩,
   ⟨66, "PairMachine$Machine", fT6, 10, dd_99_28, rfl, okc_6, by decide, tw_547, rfl, Or.inl rfl⟩,
   Or.inl (Or.inl ⟨dd_99_31, rfl⟩),
   ⟨dd_99_32, rfl⟩, trivial⟩
theorem okM_99 : mj_okE gG 99 (cM_99, 1, oM_99, hM_99) := ⟨rfl, rfl, by decide +kernel, trivial, okI_99⟩
theorem dd_100_0 : decode prog_5_method_16_code 0 = .ok (.aload_n 0, 1) := by decide +kernel
theorem dd_100_1 : decode prog_5_method_16_code 1 = .ok (.getfield 14, 3) := by decide +kernel
theorem dd_100_4 : decode prog_5_method_16_code 4 = .ok (.aload_n 0, 1) := by decide +kernel
theorem dd_100_5 : decode prog_5_method_16_code 5 = .ok (.getfield 59, 3) := by decide +kernel
theorem dd_100_8 : decode prog_5_method_16_code 8 = .ok (.invokevirtual 149, 3) := by decide +kernel
theorem dd_100_11 : decode prog_5_method_16_code 11 = .ok (.lstore_n 1, 1) := by decide +kernel
theorem dd_100_12 : decode prog_5_method_16_code 12 = .ok (.lload_n 1, 1) := by decide +kernel
theorem dd_100_13 : decode prog_5_method_16_code 13 = .ok (.invokestatic 181, 3) := by decide +kernel
theorem dd_100_16 : decode prog_5_method_16_code 16 = .ok (.ifCond .ne 5, 3) := by decide +kernel
theorem dd_100_19 : decode prog_5_method_16_code 19 = .ok (.iconst 0, 1) := by decide +kernel
theorem dd_100_20 : decode prog_5_method_16_code 20 = .ok (.ireturn, 1) := by decide +kernel
theorem dd_100_21 : decode prog_5_method_16_code 21 = .ok (.aload_n 0, 1) := by decide +kernel
theorem dd_100_22 : decode prog_5_method_16_code 22 = .ok (.getfield 14, 3) := by decide +kernel
theorem dd_100_25 : decode prog_5_method_16_code 25 = .ok (.aload_n 0, 1) := by decide +kernel
theorem dd_100_26 : decode prog_5_method_16_code 26 = .ok (.getfield 66, 3) := by decide +kernel
theorem dd_100_29 : decode prog_5_method_16_code 29 = .ok (.invokevirtual 145, 3) := by decide +kernel
theorem dd_100_32 : decode prog_5_method_16_code 32 = .ok (.lstore_n 3, 1) := by decide +kernel
theorem dd_100_33 : decode prog_5_method_16_code 33 = .ok (.aload_n 0, 1) := by decide +kernel
theorem dd_100_34 : decode prog_5_method_16_code 34 = .ok (.getfield 14, 3) := by decide +kernel
theorem dd_100_37 : decode prog_5_method_16_code 37 = .ok (.lload_n 3, 1) := by decide +kernel
theorem dd_100_38 : decode prog_5_method_16_code 38 = .ok (.invokevirtual 145, 3) := by decide +kernel
theorem dd_100_41 : decode prog_5_method_16_code 41 = .ok (.lstore 5, 2) := by decide +kernel
theorem dd_100_43 : decode prog_5_method_16_code 43 = .ok (.aload_n 0, 1) := by decide +kernel
theorem dd_100_44 : decode prog_5_method_16_code 44 = .ok (.aload_n 0, 1) := by decide +kernel
theorem dd_100_45 : decode prog_5_method_16_code 45 = .ok (.getfield 14, 3) := by decide +kernel
theorem dd_100_48 : decode prog_5_method_16_code 48 = .ok (.aload_n 0, 1) := by decide +kernel
theorem dd_100_49 : decode prog_5_method_16_code 49 = .ok (.getfield 59, 3) := by decide +kernel
theorem dd_100_52 : decode prog_5_method_16_code 52 = .ok (.invokevirtual 145, 3) := by decide +kernel
theorem dd_100_55 : decode prog_5_method_16_code 55 = .ok (.putfield 59, 3) := by decide +kernel
theorem dd_100_58 : decode prog_5_method_16_code 58 = .ok (.aload_n 0, 1) := by decide +kernel
theorem dd_100_59 : decode prog_5_method_16_code 59 = .ok (.aload_n 0, 1) := by decide +kernel
theorem dd_100_60 : decode prog_5_method_16_code 60 = .ok (.getfield 14, 3) := by decide +kernel
theorem dd_100_63 : decode prog_5_method_16_code 63 = .ok (.aload_n 0, 1) := by decide +kernel
theorem dd_100_64 : decode prog_5_method_16_code 64 = .ok (.getfield 14, 3) := by decide +kernel
theorem dd_100_67 : decode prog_5_method_16_code 67 = .ok (.lload 5, 2) := by decide +kernel
theorem dd_100_69 : decode prog_5_method_16_code 69 = .ok (.invokevirtual 145, 3) := by decide +kernel
theorem dd_100_72 : decode prog_5_method_16_code 72 = .ok (.aload_n 0, 1) := by decide +kernel
theorem dd_100_73 : decode prog_5_method_16_code 73 = .ok (.getfield 69, 3) := by decide +kernel
theorem dd_100_76 : decode prog_5_method_16_code 76 = .ok (.invokevirtual 152, 3) := by decide +kernel
theorem dd_100_79 : decode prog_5_method_16_code 79 = .ok (.putfield 69, 3) := by decide +kernel
theorem dd_100_82 : decode prog_5_method_16_code 82 = .ok (.aload_n 0, 1) := by decide +kernel
theorem dd_100_83 : decode prog_5_method_16_code 83 = .ok (.aload_n 0, 1) := by decide +kernel
theorem dd_100_84 : decode prog_5_method_16_code 84 = .ok (.getfield 14, 3) := by decide +kernel
theorem dd_100_87 : decode prog_5_method_16_code 87 = .ok (.lload_n 1, 1) := by decide +kernel
theorem dd_100_88 : decode prog_5_method_16_code 88 = .ok (.invokestatic 156, 3) := by decide +kernel
theorem dd_100_91 : decode prog_5_method_16_code 91 = .ok (.ifCond .eq 7, 3) := by decide +kernel
theorem dd_100_94 : decode prog_5_method_16_code 94 = .ok (.lload_n 3, 1) := by decide +kernel
theorem dd_100_95 : decode prog_5_method_16_code 95 = .ok (.goto 5, 3) := by decide +kernel
theorem dd_100_98 : decode prog_5_method_16_code 98 = .ok (.lload 5, 2) := by decide +kernel
theorem dd_100_100 : decode prog_5_method_16_code 100 = .ok (.invokevirtual 149, 3) := by decide +kernel
theorem dd_100_103 : decode prog_5_method_16_code 103 = .ok (.putfield 66, 3) := by decide +kernel
theorem dd_100_106 : decode prog_5_method_16_code 106 = .ok (.iconst 1, 1) := by decide +kernel
theorem dd_100_107 : decode prog_5_method_16_code 107 = .ok (.ireturn, 1) := by decide +kernel
set_option maxRecDepth 100000 in
theorem okI_100 : mj_okI gG "PairMachine$Machine" prog_5_method_16_code 7 (mj_off oM_100) (Option.some Jvm.ClassFile.FieldType.boolean) false true 0 cM_100 :=
  ⟨Or.inl ⟨0, rfl, dd_100_0, rfl⟩,
   ⟨14, "PairMachine$Machine", fT6, 10, dd_100_1, rfl, okc_6, by decide, tw_517⟩,
   Or.inl ⟨0, rfl, dd_100_4, rfl⟩,
   ⟨59, "PairMachine$Machine", fT6, 10, dd_100_5, rfl, okc_6, by decide, tw_545⟩,
   ⟨rfl, tw_637, by decide, tw_513, by decide +kernel, 149, tw_638, dd_100_8, tw_639, ⟨"PairMachine$Store", fT7, 9, rfl, tw_640⟩, by decide +kernel⟩,
   ⟨by decide, Or.inl ⟨1, rfl, dd_100_11, rfl⟩⟩,
   Or.inl ⟨1, rfl, dd_100_12, rfl⟩,
   ⟨rfl, tw_670, by decide, tw_376, by decide +kernel, 181, tw_671, dd_100_13, tw_672, by decide +kernel⟩,
   ⟨5, dd_100_16, rfl, rfl⟩,
   Or.inl (Or.inl ⟨dd_100_19, rfl⟩),
   ⟨dd_100_20, rfl⟩,
   Or.inl ⟨0, rfl, dd_100_21, rfl⟩,
   ⟨14, "PairMachine$Machine", fT6, 10, dd_100_22, rfl, okc_6, by decide, tw_517⟩,
   Or.inl ⟨0, rfl, dd_100_25, rfl⟩,
   ⟨66, "PairMachine$Machine", fT6, 10, dd_100_26, rfl, okc_6, by decide, tw_547⟩,
   ⟨rfl, tw_633, by decide, tw_513, by decide +kernel, 145, tw_634, dd_100_29, tw_635, ⟨"PairMachine$Store", fT7, 9, rfl, tw_636⟩, by decide +kernel⟩,
   ⟨by decide, Or.inl ⟨3, rfl, dd_100_32, rfl⟩⟩,
   Or.inl ⟨0, rfl, dd_100_33, rfl⟩,
   ⟨14, "PairMachine$Machine", fT6, 10, dd_100_34, rfl, okc_6, by decide, tw_517⟩,
   Or.inl ⟨3, rfl, dd_100_37, rfl⟩,
   ⟨rfl, tw_633, by decide, tw_513, by decide +kernel, 145, tw_634, dd_100_38, tw_635, ⟨"PairMachine$Store", fT7, 9, rfl, tw_636⟩, by decide +kernel⟩,
   ⟨by decide, Or.inr ⟨dd_100_41, rfl⟩⟩,
   Or.inl ⟨0, rfl, dd_100_43, rfl⟩,
   Or.inl ⟨0, rfl, dd_100_44, rfl⟩,
   ⟨14, "PairMachine$Machine", fT6, 10, dd_100_45, rfl, okc_6, by decide, tw_517⟩,
   Or.inl ⟨0, rfl, dd_100_48, rfl⟩,
   ⟨59, "PairMachine$Machine", fT6, 10, dd_100_49, rfl, okc_6, by decide, tw_545⟩,
   ⟨rfl, tw_633, by decide, tw_513, by decide +kernel, 145, tw_634, dd_100_52, tw_635, ⟨"PairMachine$Store", fT7, 9, rfl, tw_636⟩, by decide +kernel⟩,
   ⟨59, "PairMachine$Machine", fT6, 10, dd_100_55, rfl, okc_6, by decide, tw_545, rfl, Or.inl rfl⟩,
   Or.inl ⟨0, rfl, dd_100_58, rfl⟩,
   Or.inl ⟨0, rfl, dd_100_59, rfl⟩,
   ⟨14, "PairMachine$Machine", fT6, 10, dd_100_60, rfl, okc_6, by decide, tw_517⟩,
   Or.inl ⟨0, rfl, dd_100_63, rfl⟩,
   ⟨14, "PairMachine$Machine", fT6, 10, dd_100_64, rfl, okc_6, by decide, tw_517⟩,
   Or.inr ⟨dd_100_67, rfl⟩,
   ⟨rfl, tw_633, by decide, tw_513, by decide +kernel, 145, tw_634, dd_100_69, tw_635, ⟨"PairMachine$Store", fT7, 9, rfl, tw_636⟩, by decide +kernel⟩,
   Or.inl ⟨0, rfl, dd_100_72, rfl⟩,
   ⟨69, "PairMachine$Machine", fT6, 10, dd_100_73, rfl, okc_6, by decide, tw_548⟩,
   ⟨rfl, tw_641, by decide, tw_513, by decide +kernel, 152, tw_642, dd_100_76, tw_643, ⟨"PairMachine$Store", fT7, 9, rfl, tw_644⟩, by decide +kernel⟩,
   ⟨69, "PairMachine$Machine", fT6, 10, dd_100_79, rfl, okc_6, by decide, tw_548, rfl, Or.inl rfl⟩,
   Or.inl ⟨0, rfl, dd_100_82, rfl⟩,
   Or.inl ⟨0, rfl, dd_100_83, rfl⟩,
   ⟨14, "PairMachine$Machine", fT6, 10, dd_100_84, rfl, okc_6, by decide, tw_517⟩,
   Or.inl ⟨1, rfl, dd_100_87, rfl⟩,
   ⟨rfl, tw_645, by decide, tw_376, by decide +kernel, 156, tw_646, dd_100_88, tw_647, by decide +kernel⟩,
   ⟨7, dd_100_91, rfl, rfl⟩,
   Or.inl ⟨3, rfl, dd_100_94, rfl⟩,
   ⟨5, dd_100_95, rfl⟩,
   Or.inr ⟨dd_100_98, rfl⟩,
   ⟨rfl, tw_637, by decide, tw_513, by decide +kernel, 149, tw_638, dd_100_100, tw_639, ⟨"PairMachine$Store", fT7, 9, rfl, tw_640⟩, by decide +kernel⟩,
   ⟨66, "PairMachine$Machine", fT6, 10, dd_100_103, rfl, okc_6, by decide, tw_547, rfl, Or.inl rfl⟩,
   Or.inl (Or.inl ⟨dd_100_106, rfl⟩),
   ⟨dd_100_107, rfl⟩, trivial⟩
theorem okM_100 : mj_okE gG 100 (cM_100, 7, oM_100, hM_100) := ⟨rfl, rfl, by decide +kernel, trivial, okI_100⟩
theorem dd_101_0 : decode prog_5_method_17_code 0 = .ok (.aload_n 0, 1) := by decide +kernel
theorem dd_101_1 : decode prog_5_method_17_code 1 = .ok (.aload_n 0, 1) := by decide +kernel
theorem dd_101_2 : decode prog_5_method_17_code 2 = .ok (.getfield 14, 3) := by decide +kernel
theorem dd_101_5 : decode prog_5_method_17_code 5 = .ok (.aload_n 0, 1) := by decide +kernel
theorem dd_101_6 : decode prog_5_method_17_code 6 = .ok (.getfield 69, 3) := by decide +kernel
theorem dd_101_9 : decode prog_5_method_17_code 9 = .ok (.invokevirtual 149, 3) := by decide +kernel
theorem dd_101_12 : decode prog_5_method_17_code 12 = .ok (.putfield 66, 3) := by decide +kernel
theorem dd_101_15 : decode prog_5_method_17_code 15 = .ok (.aload_n 0, 1) := by decide +kernel
theorem dd_101_16 : decode prog_5_method_17_code 16 = .ok (.aload_n 0, 1) := by decide +kernel
theorem dd_101_17 : decode prog_5_method_17_code 17 = .ok (.getfield 14, 3) := by decide +kernel
theorem dd_101_20 : decode prog_5_method_17_code 20 = .ok (.aload_n 0, 1) := by decide +kernel
theorem dd_101_21 : decode prog_5_method_17_code 21 = .ok (.getfield 69, 3) := by decide +kernel
theorem dd_101_24 : decode prog_5_method_17_code 24 = .ok (.invokevirtual 145, 3) := by decide +kernel
theorem dd_101_27 : decode prog_5_method_17_code 27 = .ok (.putfield 69, 3) := by decide +kernel
theorem dd_101_30 : decode prog_5_method_17_code 30 = .ok (.iconst 1, 1) := by decide +kernel
theorem dd_101_31 : decode prog_5_method_17_code 31 = .ok (.ireturn, 1) := by decide +kernel
set_option maxRecDepth 100000 in
theorem okI_101 : mj_okI gG "PairMachine$Machine" prog_5_method_17_code 1 (mj_off oM_101) (Option.some Jvm.ClassFile.FieldType.boolean) false true 0 cM_101 :=
  ⟨Or.inl ⟨0, rfl, dd_101_0, rfl⟩,
   Or.inl ⟨0, rfl, dd_101_1, rfl⟩,
   ⟨14, "PairMachine$Machine", fT6, 10, dd_101_2, rfl, okc_6, by decide, tw_517⟩,
   Or.inl ⟨0, rfl, dd_101_5, rfl⟩,
   ⟨69, "PairMachine$Machine", fT6, 10, dd_101_6, rfl, okc_6, by decide, tw_548⟩,
   ⟨rfl, tw_637, by decide, tw_513, by decide +kernel, 149, tw_638, dd_101_9, tw_639, ⟨"PairMachine$Store", fT7, 9, rfl, tw_640⟩, by decide +kernel⟩,
   ⟨66, "PairMachine$Machine", fT6, 10, dd_101_12, rfl, okc_6, by decide, tw_547, rfl, Or.inl rfl⟩,
   Or.inl ⟨0, rfl, dd_101_15, rfl⟩,
   Or.inl ⟨0, rfl, dd_101_16, rfl⟩,
   ⟨14, "PairMachine$Machine", fT6, 10, dd_101_17, rfl, okc_6, by decide, tw_517⟩,
   Or.inl ⟨0, rfl, dd_101_20, rfl⟩,
   ⟨69, "PairMachine$Machine", fT6, 10, dd_101_21, rfl, okc_6, by decide, tw_548⟩,
   ⟨rfl, tw_633, by decide, tw_513, by decide +kernel, 145, tw_634, dd_101_24, tw_635, ⟨"PairMachine$Store", fT7, 9, rfl, tw_636⟩, by decide +kernel⟩,
   ⟨69, "PairMachine$Machine", fT6, 10, dd_101_27, rfl, okc_6, by decide, tw_548, rfl, Or.inl rfl⟩,
   Or.inl (Or.inl ⟨dd_101_30, rfl⟩),
   ⟨dd_101_31, rfl⟩, trivial⟩
theorem okM_101 : mj_okE gG 101 (cM_101, 1, oM_101, hM_101) := ⟨rfl, rfl, by decide +kernel, trivial, okI_101⟩
theorem dd_102_0 : decode prog_5_method_18_code 0 = .ok (.aload_n 0, 1) := by decide +kernel
theorem dd_102_1 : decode prog_5_method_18_code 1 = .ok (.getfield 14, 3) := by decide +kernel
theorem dd_102_4 : decode prog_5_method_18_code 4 = .ok (.aload_n 0, 1) := by decide +kernel
theorem dd_102_5 : decode prog_5_method_18_code 5 = .ok (.getfield 59, 3) := by decide +kernel
theorem dd_102_8 : decode prog_5_method_18_code 8 = .ok (.invokevirtual 149, 3) := by decide +kernel
theorem dd_102_11 : decode prog_5_method_18_code 11 = .ok (.lstore_n 2, 1) := by decide +kernel
theorem dd_102_12 : decode prog_5_method_18_code 12 = .ok (.lload_n 2, 1) := by decide +kernel
theorem dd_102_13 : decode prog_5_method_18_code 13 = .ok (.invokestatic 164, 3) := by decide +kernel
theorem dd_102_16 : decode prog_5_method_18_code 16 = .ok (.ifCond .ne 5, 3) := by decide +kernel
theorem dd_102_19 : decode prog_5_method_18_code 19 = .ok (.iconst 0, 1) := by decide +kernel
theorem dd_102_20 : decode prog_5_method_18_code 20 = .ok (.ireturn, 1) := by decide +kernel
theorem dd_102_21 : decode prog_5_method_18_code 21 = .ok (.aload_n 0, 1) := by decide +kernel
theorem dd_102_22 : decode prog_5_method_18_code 22 = .ok (.iconst 1, 1) := by decide +kernel
theorem dd_102_23 : decode prog_5_method_18_code 23 = .ok (.iload_n 1, 1) := by decide +kernel
theorem dd_102_24 : decode prog_5_method_18_code 24 = .ok (.bipush 10, 2) := by decide +kernel
theorem dd_102_26 : decode prog_5_method_18_code 26 = .ok (.if_icmp .ne 14, 3) := by decide +kernel
theorem dd_102_29 : decode prog_5_method_18_code 29 = .ok (.aload_n 0, 1) := by decide +kernel
theorem dd_102_30 : decode prog_5_method_18_code 30 = .ok (.getfield 14, 3) := by decide +kernel
theorem dd_102_33 : decode prog_5_method_18_code 33 = .ok (.lload_n 2, 1) := by decide +kernel
theorem dd_102_34 : decode prog_5_method_18_code 34 = .ok (.invokevirtual 149, 3) := by decide +kernel
theorem dd_102_37 : decode prog_5_method_18_code 37 = .ok (.goto 11, 3) := by decide +kernel
theorem dd_102_40 : decode prog_5_method_18_code 40 = .ok (.aload_n 0, 1) := by decide +kernel
theorem dd_102_41 : decode prog_5_method_18_code 41 = .ok (.getfield 14, 3) := by decide +kernel
theorem dd_102_44 : decode prog_5_method_18_code 44 = .ok (.lload_n 2, 1) := by decide +kernel
theorem dd_102_45 : decode prog_5_method_18_code 45 = .ok (.invokevirtual 145, 3) := by decide +kernel
theorem dd_102_48 : decode prog_5_method_18_code 48 = .ok (.invokevirtual 184, 3) := by decide +kernel
theorem dd_102_51 : decode prog_5_method_18_code 51 = .ok (.iconst 1, 1) := by decide +kernel
theorem dd_102_52 : decode prog_5_method_18_code 52 = .ok (.ireturn, 1) := by decide +kernel
set_option maxRecDepth 100000 in
theorem okI_102 : mj_okI gG "PairMachine$Machine" prog_5_method_18_code 4 (mj_off oM_102) (Option.some Jvm.ClassFile.FieldType.boolean) false true 0 cM_102 :=
  ⟨Or.inl ⟨0, rfl, dd_102_0, rfl⟩,
   ⟨14, "PairMachine$Machine", fT6, 10, dd_102_1, rfl, okc_6, by decide, tw_517⟩,
   Or.inl ⟨0, rfl, dd_102_4, rfl⟩,
   ⟨59, "PairMachine$Machine", fT6, 10, dd_102_5, rfl, okc_6, by decide, tw_545⟩,
   ⟨rfl, tw_637, by decide, tw_513, by decide +kernel, 149, tw_638, dd_102_8, tw_639, ⟨"PairMachine$Store", fT7, 9, rfl, tw_640⟩, by decide +kernel⟩,
   ⟨by decide, Or.inl ⟨2, rfl, dd_102_11, rfl⟩⟩,
   Or.inl ⟨2, rfl, dd_102_12, rfl⟩,
   ⟨rfl, tw_652, by decide, tw_376, by decide +kernel, 164, tw_653, dd_102_13, tw_654, by decide +kernel⟩,
   ⟨5, dd_102_16, rfl, rfl⟩,
   Or.inl (Or.inl ⟨dd_102_19, rfl⟩),
   ⟨dd_102_20, rfl⟩,
   Or.inl ⟨0, rfl, dd_102_21, rfl⟩,
   Or.inl (Or.inl ⟨dd_102_22, rfl⟩),
   Or.inl ⟨1, rfl, dd_102_23, rfl⟩,
   Or.inl (Or.inr (Or.inl ⟨dd_102_24, rfl, by decide⟩)),
   ⟨14, dd_102_26, rfl, rfl⟩,
   Or.inl ⟨0, rfl, dd_102_29, rfl⟩,
   ⟨14, "PairMachine$Machine", fT6, 10, dd_102_30, rfl, okc_6, by decide, tw_517⟩,
   Or.inl ⟨2, rfl, dd_102_33, rfl⟩,
   ⟨rfl, tw_637, by decide, tw_513, by decide +kernel, 149, tw_638, dd_102_34, tw_639, ⟨"PairMachine$Store", fT7, 9, rfl, tw_640⟩, by decide +kernel⟩,
   ⟨11, dd_102_37, rfl⟩,
   Or.inl ⟨0, rfl, dd_102_40, rfl⟩,
   ⟨14, "PairMachine$Machine", fT6, 10, dd_102_41, rfl, okc_6, by decide, tw_517⟩,
   Or.inl ⟨2, rfl, dd_102_44, rfl⟩,
   ⟨rfl, tw_633, by decide, tw_513, by decide +kernel, 145, tw_634, dd_102_45, tw_635, ⟨"PairMachine$Store", fT7, 9, rfl, tw_636⟩, by decide +kernel⟩,
   ⟨rfl, tw_673, by decide, tw_147, by decide +kernel, 184, tw_674, dd_102_48, tw_675, ⟨"PairMachine$Machine", fT6, 10, rfl, tw_676⟩, by decide +kernel⟩,
   Or.inl (Or.inl ⟨dd_102_51, rfl⟩),
   ⟨dd_102_52, rfl⟩, trivial⟩
theorem okM_102 : mj_okE gG 102 (cM_102, 4, oM_102, hM_102) := ⟨rfl, rfl, by decide +kernel, trivial, okI_102⟩
theorem dd_103_0 : decode prog_5_method_19_code 0 = .ok (.aload_n 0, 1) := by decide +kernel
theorem dd_103_1 : decode prog_5_method_19_code 1 = .ok (.iconst 1, 1) := by decide +kernel
theorem dd_103_2 : decode prog_5_method_19_code 2 = .ok (.aload_n 0, 1) := by decide +kernel
theorem dd_103_3 : decode prog_5_method_19_code 3 = .ok (.getfield 14, 3) := by decide +kernel
theorem dd_103_6 : decode prog_5_method_19_code 6 = .ok (.aload_n 0, 1) := by decide +kernel
theorem dd_103_7 : decode prog_5_method_19_code 7 = .ok (.getfield 59, 3) := by decide +kernel
theorem dd_103_10 : decode prog_5_method_19_code 10 = .ok (.invokevirtual 149, 3) := by decide +kernel
theorem dd_103_13 : decode prog_5_method_19_code 13 = .ok (.invokestatic 164, 3) := by decide +kernel
theorem dd_103_16 : decode prog_5_method_19_code 16 = .ok (.ifCond .eq 7, 3) := by decide +kernel
theorem dd_103_19 : decode prog_5_method_19_code 19 = .ok (.iconst 0, 1) := by decide +kernel
theorem dd_103_20 : decode prog_5_method_19_code 20 = .ok (.goto 4, 3) := by decide +kernel
theorem dd_103_23 : decode prog_5_method_19_code 23 = .ok (.iconst 1, 1) := by decide +kernel
theorem dd_103_24 : decode prog_5_method_19_code 24 = .ok (.invokestatic 188, 3) := by decide +kernel
theorem dd_103_27 : decode prog_5_method_19_code 27 = .ok (.invokevirtual 184, 3) := by decide +kernel
theorem dd_103_30 : decode prog_5_method_19_code 30 = .ok (.iconst 1, 1) := by decide +kernel
theorem dd_103_31 : decode prog_5_method_19_code 31 = .ok (.ireturn, 1) := by decide +kernel
set_option maxRecDepth 100000 in
theorem okI_103 : mj_okI gG "PairMachine$Machine" prog_5_method_19_code 1 (mj_off oM_103) (Option.some Jvm.ClassFile.FieldType.boolean) false true 0 cM_103 :=
  ⟨Or.inl ⟨0, rfl, dd_103_0, rfl⟩,
   Or.inl (Or.inl ⟨dd_103_1, rfl⟩),
   Or.inl ⟨0, rfl, dd_103_2, rfl⟩,
   ⟨14, "PairMachine$Machine", fT6, 10, dd_103_3, rfl, okc_6, by decide, tw_517⟩,
   Or.inl ⟨0, rfl, dd_103_6, rfl⟩,
   ⟨59, "PairMachine$Machine", fT6, 10, dd_103_7, rfl, okc_6, by decide, tw_545⟩,
   ⟨rfl, tw_637, by decide, tw_513, by decide +kernel, 149, tw_638, dd_103_10, tw_639, ⟨"PairMachine$Store", fT7, 9, rfl, tw_640⟩, by decide +kernel⟩,
   ⟨rfl, tw_652, by decide, tw_376, by decide +kernel, 164, tw_653, dd_103_13, tw_654, by decide +kernel⟩,
   ⟨7, dd_103_16, rfl, rfl⟩,
   Or.inl (Or.inl ⟨dd_103_19, rfl⟩),
   ⟨4, dd_103_20, rfl⟩,
   Or.inl (Or.inl ⟨dd_103_23, rfl⟩),
   ⟨rfl, tw_383, by decide, tw_376, by decide +kernel, 188, tw_677, dd_103_24, tw_385, by decide +kernel⟩,
   ⟨rfl, tw_673, by decide, tw_147, by decide +kernel, 184, tw_674, dd_103_27, tw_675, ⟨"PairMachine$Machine", fT6, 10, rfl, tw_676⟩, by decide +kernel⟩,
   Or.inl (Or.inl ⟨dd_103_30, rfl⟩),
   ⟨dd_103_31, rfl⟩, trivial⟩
theorem okM_103 : mj_okE gG 103 (cM_103, 1, oM_103, hM_103) := ⟨rfl, rfl, by decide +kernel, trivial, okI_103⟩
theorem dd_104_0 : decode prog_5_method_20_code 0 = .ok (.aload_n 0, 1) := by decide +kernel
theorem dd_104_1 : decode prog_5_method_20_code 1 = .ok (.getfield 14, 3) := by decide +kernel
theorem dd_104_4 : decode prog_5_method_20_code 4 = .ok (.aload_n 0, 1) := by decide +kernel
theorem dd_104_5 : decode prog_5_method_20_code 5 = .ok (.getfield 59, 3) := by decide +kernel
theorem dd_104_8 : decode prog_5_method_20_code 8 = .ok (.invokevirtual 149, 3) := by decide +kernel
theorem dd_104_11 : decode prog_5_method_20_code 11 = .ok (.lstore_n 1, 1) := by decide +kernel
theorem dd_104_12 : decode prog_5_method_20_code 12 = .ok (.aload_n 0, 1) := by decide +kernel
theorem dd_104_13 : decode prog_5_method_20_code 13 = .ok (.getfield 14, 3) := by decide +kernel
theorem dd_104_16 : decode prog_5_method_20_code 16 = .ok (.aload_n 0, 1) := by decide +kernel
theorem dd_104_17 : decode prog_5_method_20_code 17 = .ok (.getfield 14, 3) := by decide +kernel
theorem dd_104_20 : decode prog_5_method_20_code 20 = .ok (.aload_n 0, 1) := by decide +kernel
theorem dd_104_21 : decode prog_5_method_20_code 21 = .ok (.getfield 59, 3) := by decide +kernel
theorem dd_104_24 : decode prog_5_method_20_code 24 = .ok (.invokevirtual 145, 3) := by decide +kernel
theorem dd_104_27 : decode prog_5_method_20_code 27 = .ok (.invokevirtual 149, 3) := by decide +kernel
theorem dd_104_30 : decode prog_5_method_20_code 30 = .ok (.lstore_n 3, 1) := by decide +kernel
theorem dd_104_31 : decode prog_5_method_20_code 31 = .ok (.aload_n 0, 1) := by decide +kernel
theorem dd_104_32 : decode prog_5_method_20_code 32 = .ok (.iconst 2, 1) := by decide +kernel
theorem dd_104_33 : decode prog_5_method_20_code 33 = .ok (.aload_n 0, 1) := by decide +kernel
theorem dd_104_34 : decode prog_5_method_20_code 34 = .ok (.getfield 14, 3) := by decide +kernel
theorem dd_104_37 : decode prog_5_method_20_code 37 = .ok (.lload_n 1, 1) := by decide +kernel
theorem dd_104_38 : decode prog_5_method_20_code 38 = .ok (.lload_n 3, 1) := by decide +kernel
theorem dd_104_39 : decode prog_5_method_20_code 39 = .ok (.invokevirtual 152, 3) := by decide +kernel
theorem dd_104_42 : decode prog_5_method_20_code 42 = .ok (.invokevirtual 184, 3) := by decide +kernel
theorem dd_104_45 : decode prog_5_method_20_code 45 = .ok (.iconst 1, 1) := by decide +kernel
theorem dd_104_46 : decode prog_5_method_20_code 46 = .ok (.ireturn, 1) := by decide +kernel
set_option maxRecDepth 100000 in
theorem okI_104 : mj_okI gG "PairMachine$Machine" prog_5_method_20_code 5 (mj_off oM_104) (Option.some Jvm.ClassFile.FieldType.boolean) false true 0 cM_104 :=
  ⟨Or.inl ⟨0, rfl, dd_104_0, rfl⟩,
   ⟨14, "PairMachine$Machine", fT6, 10, dd_104_1, rfl, okc_6, by decide, tw_517⟩,
   Or.inl ⟨0, rfl, dd_104_4, rfl⟩,
   ⟨59, "PairMachine$Machine", fT6, 10, dd_104_5, rfl, okc_6, by decide, tw_545⟩,
   ⟨rfl, tw_637, by decide, tw_513, by decide +kernel, 149, tw_638, dd_104_8, tw_639, ⟨"PairMachine$Store", fT7, 9, rfl, tw_640⟩, by decide +kernel⟩,
   ⟨by decide, Or.inl ⟨1, rfl, dd_104_11, rfl⟩⟩,
   Or.inl ⟨0, rfl, dd_104_12, rfl⟩,
   ⟨14, "PairMachine$Machine", fT6, 10, dd_104_13, rfl, okc_6, by decide, tw_517⟩,
   Or.inl ⟨0, rfl, dd_104_16, rfl⟩,
   ⟨14, "PairMachine$Machine", fT6, 10, dd_104_17, rfl, okc_6, by decide, tw_517⟩,
   Or.inl ⟨0, rfl, dd_104_20, rfl⟩,
   ⟨59, "PairMachine$Machine", fT6, 10, dd_104_21, rfl, okc_6, by decide, tw_545⟩,
   ⟨rfl, tw_633, by decide, tw_513, by decide +kernel, 145, tw_634, dd_104_24, tw_635, ⟨"PairMachine$Store", fT7, 9, rfl, tw_636⟩, by decide +kernel⟩,
   ⟨rfl, tw_637, by decide, tw_513, by decide +kernel, 149, tw_638, dd_104_27, tw_639, ⟨"PairMachine$Store", fT7, 9, rfl, tw_640⟩, by decide +kernel⟩,
   ⟨by decide, Or.inl ⟨3, rfl, dd_104_30, rfl⟩⟩,
   Or.inl ⟨0, rfl, dd_104_31, rfl⟩,
   Or.inl (Or.inl ⟨dd_104_32, rfl⟩),
   Or.inl ⟨0, rfl, dd_104_33, rfl⟩,
   ⟨14, "PairMachine$Machine", fT6, 10, dd_104_34, rfl, okc_6, by decide, tw_517⟩,
   Or.inl ⟨1, rfl, dd_104_37, rfl⟩,
   Or.inl ⟨3, rfl, dd_104_38, rfl⟩,
   ⟨rfl, tw_641, by decide, tw_513, by decide +kernel, 152, tw_642, dd_104_39, tw_643, ⟨"PairMachine$Store", fT7, 9, rfl, tw_644⟩, by decide +kernel⟩,
   ⟨rfl, tw_673, by decide, tw_147, by decide +kernel, 184, tw_674, dd_104_42, tw_675, ⟨"PairMachine$Machine", fT6, 10, rfl, tw_676⟩, by decide +kernel⟩,
   Or.inl (Or.inl ⟨dd_104_45, rfl⟩),
   ⟨dd_104_46, rfl⟩, trivial⟩
theorem okM_104 : mj_okE gG 104 (cM_104, 5, oM_104, hM_104) := ⟨rfl, rfl, by decide +kernel, trivial, okI_104⟩
theorem dd_105_0 : decode prog_5_method_21_code 0 = .ok (.aload_n 0, 1) := by decide +kernel
theorem dd_105_1 : decode prog_5_method_21_code 1 = .ok (.getfield 14, 3) := by decide +kernel
theorem dd_105_4 : decode prog_5_method_21_code 4 = .ok (.aload_n 0, 1) := by decide +kernel
theorem dd_105_5 : decode prog_5_method_21_code 5 = .ok (.getfield 59, 3) := by decide +kernel
theorem dd_105_8 : decode prog_5_method_21_code 8 = .ok (.invokevirtual 149, 3) := by decide +kernel
theorem dd_105_11 : decode prog_5_method_21_code 11 = .ok (.lstore_n 1, 1) := by decide +kernel
theorem dd_105_12 : decode prog_5_method_21_code 12 = .ok (.aload_n 0, 1) := by decide +kernel
theorem dd_105_13 : decode prog_5_method_21_code 13 = .ok (.getfield 14, 3) := by decide +kernel
theorem dd_105_16 : decode prog_5_method_21_code 16 = .ok (.aload_n 0, 1) := by decide +kernel
theorem dd_105_17 : decode prog_5_method_21_code 17 = .ok (.getfield 14, 3) := by decide +kernel
theorem dd_105_20 : decode prog_5_method_21_code 20 = .ok (.aload_n 0, 1) := by decide +kernel
theorem dd_105_21 : decode prog_5_method_21_code 21 = .ok (.getfield 59, 3) := by decide +kernel
theorem dd_105_24 : decode prog_5_method_21_code 24 = .ok (.invokevirtual 145, 3) := by decide +kernel
theorem dd_105_27 : decode prog_5_method_21_code 27 = .ok (.invokevirtual 149, 3) := by decide +kernel
theorem dd_105_30 : decode prog_5_method_21_code 30 = .ok (.lstore_n 3, 1) := by decide +kernel
theorem dd_105_31 : decode prog_5_method_21_code 31 = .ok (.lload_n 3, 1) := by decide +kernel
theorem dd_105_32 : decode prog_5_method_21_code 32 = .ok (.lload_n 1, 1) := by decide +kernel
theorem dd_105_33 : decode prog_5_method_21_code 33 = .ok (.lcmp, 1) := by decide +kernel
theorem dd_105_34 : decode prog_5_method_21_code 34 = .ok (.ifCond .ne 15, 3) := by decide +kernel
theorem dd_105_37 : decode prog_5_method_21_code 37 = .ok (.lload_n 3, 1) := by decide +kernel
theorem dd_105_38 : decode prog_5_method_21_code 38 = .ok (.invokestatic 192, 3) := by decide +kernel
theorem dd_105_41 : decode prog_5_method_21_code 41 = .ok (.iconst (-1), 1) := by decide +kernel
theorem dd_105_42 : decode prog_5_method_21_code 42 = .ok (.if_icmp .ne 7, 3) := by decide +kernel
theorem dd_105_45 : decode prog_5_method_21_code 45 = .ok (.iconst 1, 1) := by decide +kernel
theorem dd_105_46 : decode prog_5_method_21_code 46 = .ok (.goto 4, 3) := by decide +kernel
theorem dd_105_49 : decode prog_5_method_21_code 49 = .ok (.iconst 0, 1) := by decide +kernel
theorem dd_105_50 : decode prog_5_method_21_code 50 = .ok (.istore 5, 2) := by decide +kernel
theorem dd_105_52 : decode prog_5_method_21_code 52 = .ok (.aload_n 0, 1) := by decide +kernel
theorem dd_105_53 : decode prog_5_method_21_code 53 = .ok (.iconst 2, 1) := by decide +kernel
theorem dd_105_54 : decode prog_5_method_21_code 54 = .ok (.iload 5, 2) := by decide +kernel
theorem dd_105_56 : decode prog_5_method_21_code 56 = .ok (.ifCond .eq 7, 3) := by decide +kernel
theorem dd_105_59 : decode prog_5_method_21_code 59 = .ok (.iconst 1, 1) := by decide +kernel
theorem dd_105_60 : decode prog_5_method_21_code 60 = .ok (.goto 4, 3) := by decide +kernel
theorem dd_105_63 : decode prog_5_method_21_code 63 = .ok (.iconst 0, 1) := by decide +kernel
theorem dd_105_64 : decode prog_5_method_21_code 64 = .ok (.invokestatic 188, 3) := by decide +kernel
theorem dd_105_67 : decode prog_5_method_21_code 67 = .ok (.invokevirtual 184, 3) := by decide +kernel
theorem dd_105_70 : decode prog_5_method_21_code 70 = .ok (.iconst 1, 1) := by decide +kernel
theorem dd_105_71 : decode prog_5_method_21_code 71 = .ok (.ireturn, 1) := by decide +kernel
set_option maxRecDepth 100000 in
theorem okI_105 : mj_okI gG "PairMachine$Machine" prog_5_method_21_code 6 (mj_off oM_105) (Option.some Jvm.ClassFile.FieldType.boolean) false true 0 cM_105 :=
  ⟨Or.inl ⟨0, rfl, dd_105_0, rfl⟩,
   ⟨14, "PairMachine$Machine", fT6, 10, dd_105_1, rfl, okc_6, by decide, tw_517⟩,
   Or.inl ⟨0, rfl, dd_105_4, rfl⟩,
   ⟨59, "PairMachine$Machine", fT6, 10, dd_105_5, rfl, okc_6, by decide, tw_545⟩,
   ⟨rfl, tw_637, by decide, tw_513, by decide +kernel, 149, tw_638, dd_105_8, tw_639, ⟨"PairMachine$Store", fT7, 9, rfl, tw_640⟩, by decide +kernel⟩,
   ⟨by decide, Or.inl ⟨1, rfl, dd_105_11, rfl⟩⟩,
   Or.inl ⟨0, rfl, dd_105_12, rfl⟩,
   ⟨14, "PairMachine$Machine", fT6, 10, dd_105_13, rfl, okc_6, by decide, tw_517⟩,
   Or.inl ⟨0, rfl, dd_105_16, rfl⟩,
   ⟨14, "PairMachine$Machine", fT6, 10, dd_105_17, rfl, okc_6, by decide, tw_517⟩,
   Or.inl ⟨0, rfl, dd_105_20, rfl⟩,
   ⟨59, "PairMachine$Machine", fT6, 10, dd_105_21, rfl, okc_6, by decide, tw_545⟩,
   ⟨rfl, tw_633, by decide, tw_513, by decide +kernel, 145, tw_634, dd_105_24, tw_635, ⟨"PairMachine$Store", fT7, 9, rfl, tw_636⟩, by decide +kernel⟩,
   ⟨rfl, tw_637, by decide, tw_513, by decide +kernel, 149, tw_638, dd_105_27, tw_639, ⟨"PairMachine$Store", fT7, 9, rfl, tw_640⟩, by decide +kernel⟩,
   ⟨by decide, Or.inl ⟨3, rfl, dd_105_30, rfl⟩⟩,
   Or.inl ⟨3, rfl, dd_105_31, rfl⟩,
   Or.inl ⟨1, rfl, dd_105_32, rfl⟩,
   ⟨dd_105_33, rfl⟩,
   ⟨15, dd_105_34, rfl, rfl⟩,
   Or.inl ⟨3, rfl, dd_105_37, rfl⟩,
   ⟨rfl, tw_678, by decide, tw_376, by decide +kernel, 192, tw_679, dd_105_38, tw_680, by decide +kernel⟩,
   Or.inl (Or.inl ⟨dd_105_41, rfl⟩),
   ⟨7, dd_105_42, rfl, rfl⟩,
   Or.inl (Or.inl ⟨dd_105_45, rfl⟩),
   ⟨4, dd_105_46, rfl⟩,
   Or.inl (Or.inl ⟨dd_105_49, rfl⟩),
   ⟨by decide, Or.inr ⟨dd_105_50, rfl⟩⟩,
   Or.inl ⟨0, rfl, dd_105_52, rfl⟩,
   Or.inl (Or.inl ⟨dd_105_53, rfl⟩),
   Or.inr ⟨dd_105_54, rfl⟩,
   ⟨7, dd_105_56, rfl, rfl⟩,
   Or.inl (Or.inl ⟨dd_105_59, rfl⟩),
   ⟨4, dd_105_60, rfl⟩,
   Or.inl (Or.inl ⟨dd_105_63, rfl⟩),
   ⟨rfl, tw_383, by decide, tw_376, by decide +kernel, 188, tw_677, dd_105_64, tw_385, by decide +kernel⟩,
   ⟨rfl, tw_673, by decide, tw_147, by decide +kernel, 184, tw_674, dd_105_67, tw_675, ⟨"PairMachine$Machine", fT6, 10, rfl, tw_676⟩, by decide +kernel⟩,
   Or.inl (Or.inl ⟨dd_105_70, rfl⟩),
   ⟨dd_105_71, rfl⟩, trivial⟩
theorem okM_105 : mj_okE gG 105 (cM_105, 6, oM_105, hM_105) := ⟨rfl, rfl, by decide +kernel, trivial, okI_105⟩
theorem dd_106_0 : decode prog_5_method_22_code 0 = .ok (.aload_n 0, 1) := by decide +kernel
theorem dd_106_1 : decode prog_5_method_22_code 1 = .ok (.getfield 14, 3) := by decide +kernel
theorem dd_106_4 : decode prog_5_method_22_code 4 = .ok (.aload_n 0, 1) := by decide +kernel
theorem dd_106_5 : decode prog_5_method_22_code 5 = .ok (.getfield 59, 3) := by decide +kernel
theorem dd_106_8 : decode prog_5_method_22_code 8 = .ok (.invokevirtual 149, 3) := by decide +kernel
theorem dd_106_11 : decode prog_5_method_22_code 11 = .ok (.lstore_n 2, 1) := by decide +kernel
theorem dd_106_12 : decode prog_5_method_22_code 12 = .ok (.aload_n 0, 1) := by decide +kernel
theorem dd_106_13 : decode prog_5_method_22_code 13 = .ok (.getfield 14, 3) := by decide +kernel
theorem dd_106_16 : decode prog_5_method_22_code 16 = .ok (.aload_n 0, 1) := by decide +kernel
theorem dd_106_17 : decode prog_5_method_22_code 17 = .ok (.getfield 14, 3) := by decide +kernel
theorem dd_106_20 : decode prog_5_method_22_code 20 = .ok (.aload_n 0, 1) := by decide +kernel
theorem dd_106_21 : decode prog_5_method_22_code 21 = .ok (.getfield 59, 3) := by decide +kernel
theorem dd_106_24 : decode prog_5_method_22_code 24 = .ok (.invokevirtual 145, 3) := by decide +kernel
theorem dd_106_27 : decode prog_5_method_22_code 27 = .ok (.invokevirtual 149, 3) := by decide +kernel
theorem dd_106_30 : decode prog_5_method_22_code 30 = .ok (.lstore 4, 2) := by decide +kernel
theorem dd_106_32 : decode prog_5_method_22_code 32 = .ok (.lload 4, 2) := by decide +kernel
theorem dd_106_34 : decode prog_5_method_22_code 34 = .ok (.invokestatic 181, 3) := by decide +kernel
theorem dd_106_37 : decode prog_5_method_22_code 37 = .ok (.ifCond .eq 10, 3) := by decide +kernel
theorem dd_106_40 : decode prog_5_method_22_code 40 = .ok (.lload_n 2, 1) := by decide +kernel
theorem dd_106_41 : decode prog_5_method_22_code 41 = .ok (.invokestatic 181, 3) := by decide +kernel
theorem dd_106_44 : decode prog_5_method_22_code 44 = .ok (.ifCond .ne 5, 3) := by decide +kernel
theorem dd_106_47 : decode prog_5_method_22_code 47 = .ok (.iconst 0, 1) := by decide +kernel
theorem dd_106_48 : decode prog_5_method_22_code 48 = .ok (.ireturn, 1) := by decide +kernel
theorem dd_106_49 : decode prog_5_method_22_code 49 = .ok (.aload_n 0, 1) := by decide +kernel
theorem dd_106_50 : decode prog_5_method_22_code 50 = .ok (.iconst 2, 1) := by decide +kernel
theorem dd_106_51 : decode prog_5_method_22_code 51 = .ok (.iload_n 1, 1) := by decide +kernel
theorem dd_106_52 : decode prog_5_method_22_code 52 = .ok (.lload 4, 2) := by decide +kernel
theorem dd_106_54 : decode prog_5_method_22_code 54 = .ok (.invokestatic 156, 3) := by decide +kernel
theorem dd_106_57 : decode prog_5_method_22_code 57 = .ok (.lload_n 2, 1) := by decide +kernel
theorem dd_106_58 : decode prog_5_method_22_code 58 = .ok (.invokestatic 156, 3) := by decide +kernel
theorem dd_106_61 : decode prog_5_method_22_code 61 = .ok (.invokestatic 195, 3) := by decide +kernel
theorem dd_106_64 : decode prog_5_method_22_code 64 = .ok (.invokestatic 188, 3) := by decide +kernel
theorem dd_106_67 : decode prog_5_method_22_code 67 = .ok (.invokevirtual 184, 3) := by decide +kernel
theorem dd_106_70 : decode prog_5_method_22_code 70 = .ok (.iconst 1, 1) := by decide +kernel
theorem dd_106_71 : decode prog_5_method_22_code 71 = .ok (.ireturn, 1) := by decide +kernel
set_option maxRecDepth 100000 in
theorem okI_106 : mj_okI gG "PairMachine$Machine" prog_5_method_22_code 6 (mj_off oM_106) (Option.some Jvm.ClassFile.FieldType.boolean) false true 0 cM_106 :=
  ⟨Or.inl ⟨0, rfl, dd_106_0, rfl⟩,
   ⟨14, "PairMachine$Machine", fT6, 10, dd_106_1, rfl, okc_6, by decide, tw_517⟩,
   Or.inl ⟨0, rfl, dd_106_4, rfl⟩,
   ⟨59, "PairMachine$Machine", fT6, 10, dd_106_5, rfl, okc_6, by decide, tw_545⟩,
   ⟨rfl, tw_637, by decide, tw_513, by decide +kernel, 149, tw_638, dd_106_8, tw_639, ⟨"PairMachine$Store", fT7, 9, rfl, tw_640⟩, by decide +kernel⟩,
   ⟨by decide, Or.inl ⟨2, rfl, dd_106_11, rfl⟩⟩,
   Or.inl ⟨0, rfl, dd_106_12, rfl⟩,
   ⟨14, "PairMachine$Machine", fT6, 10, dd_106_13, rfl, okc_6, by decide, tw_517⟩,
   Or.inl ⟨0, rfl, dd_106_16, rfl⟩,
   ⟨14, "PairMachine$Machine", fT6, 10, dd_106_17, rfl, okc_6, by decide, tw_517⟩,
   Or.inl ⟨0, rfl, dd_106_20, rfl⟩,
   ⟨59, "PairMachine$Machine", fT6, 10, dd_106_21, rfl, okc_6, by decide, tw_545⟩,
   ⟨rfl, tw_633, by decide, tw_513, by decide +kernel, 145, tw_634, dd_106_24, tw_635, ⟨"PairMachine$Store", fT7, 9, rfl, tw_636⟩, by decide +kernel⟩,
   ⟨rfl, tw_637, by decide, tw_513, by decide +kernel, 149, tw_638, dd_106_27, tw_639, ⟨"PairMachine$Store", fT7, 9, rfl, tw_640⟩, by decide +kernel⟩,
   ⟨by decide, Or.inr ⟨dd_106_30, rfl⟩⟩,
   Or.inr ⟨dd_106_32, rfl⟩,
   ⟨rfl, tw_670, by decide, tw_376, by decide +kernel, 181, tw_671, dd_106_34, tw_672, by decide +kernel⟩,
   ⟨10, dd_106_37, rfl, rfl⟩,
   Or.inl ⟨2, rfl, dd_106_40, rfl⟩,
   ⟨rfl, tw_670, by decide, tw_376, by decide +kernel, 181, tw_671, dd_106_41, tw_672, by decide +kernel⟩,
   ⟨5, dd_106_44, rfl, rfl⟩,
   Or.inl (Or.inl ⟨dd_106_47, rfl⟩),
   ⟨dd_106_48, rfl⟩,
   Or.inl ⟨0, rfl, dd_106_49, rfl⟩,
   Or.inl (Or.inl ⟨dd_106_50, rfl⟩),
   Or.inl ⟨1, rfl, dd_106_51, rfl⟩,
   Or.inr ⟨dd_106_52, rfl⟩,
   ⟨rfl, tw_645, by decide, tw_376, by decide +kernel, 156, tw_646, dd_106_54, tw_647, by decide +kernel⟩,
   Or.inl ⟨2, rfl, dd_106_57, rfl⟩,
   ⟨rfl, tw_645, by decide, tw_376, by decide +kernel, 156, tw_646, dd_106_58, tw_647, by decide +kernel⟩,
   ⟨rfl, tw_681, by decide, tw_147, by decide +kernel, 195, tw_682, dd_106_61, tw_683, by decide +kernel⟩,
   ⟨rfl, tw_383, by decide, tw_376, by decide +kernel, 188, tw_677, dd_106_64, tw_385, by decide +kernel⟩,
   ⟨rfl, tw_673, by decide, tw_147, by decide +kernel, 184, tw_674, dd_106_67, tw_675, ⟨"PairMachine$Machine", fT6, 10, rfl, tw_676⟩, by decide +kernel⟩,
   Or.inl (Or.inl ⟨dd_106_70, rfl⟩),
   ⟨dd_106_71, rfl⟩, trivial⟩
theorem okM_106 : mj_okE gG 106 (cM_106, 6, oM_106, hM_106) := ⟨rfl, rfl, by decide +kernel, trivial, okI_106⟩
theorem dd_107_0 : decode prog_5_method_23_code 0 = .ok (.iload_n 0, 1) := by decide +kernel
theorem dd_107_1 : decode prog_5_method_23_code 1 = .ok (.tableswitch 39 15 17 #[27, 31, 35], 27) := by decide +kernel
theorem dd_107_28 : decode prog_5_method_23_code 28 = .ok (.iload_n 1, 1) := by decide +kernel
theorem dd_107_29 : decode prog_5_method_23_code 29 = .ok (.iload_n 2, 1) := by decide +kernel
theorem dd_107_30 : decode prog_5_method_23_code 30 = .ok (.iadd, 1) := by decide +kernel
theorem dd_107_31 : decode prog_5_method_23_code 31 = .ok (.ireturn, 1) := by decide +kernel
theorem dd_107_32 : decode prog_5_method_23_code 32 = .ok (.iload_n 1, 1) := by decide +kernel
theorem dd_107_33 : decode prog_5_method_23_code 33 = .ok (.iload_n 2, 1) := by decide +kernel
theorem dd_107_34 : decode prog_5_method_23_code 34 = .ok (.isub, 1) := by decide +kernel
theorem dd_107_35 : decode prog_5_method_23_code 35 = .ok (.ireturn, 1) := by decide +kernel
theorem dd_107_36 : decode prog_5_method_23_code 36 = .ok (.iload_n 1, 1) := by decide +kernel
theorem dd_107_37 : decode prog_5_method_23_code 37 = .ok (.iload_n 2, 1) := by decide +kernel
theorem dd_107_38 : decode prog_5_method_23_code 38 = .ok (.imul, 1) := by decide +kernel
theorem dd_107_39 : decode prog_5_method_23_code 39 = .ok (.ireturn, 1) := by decide +kernel
theorem dd_107_40 : decode prog_5_method_23_code 40 = .ok (.iload_n 1, 1) := by decide +kernel
theorem dd_107_41 : decode prog_5_method_23_code 41 = .ok (.iload_n 2, 1) := by decide +kernel
theorem dd_107_42 : decode prog_5_method_23_code 42 = .ok (.if_icmp .ge 7, 3) := by decide +kernel
theorem dd_107_45 : decode prog_5_method_23_code 45 = .ok (.iconst 1, 1) := by decide +kernel
theorem dd_107_46 : decode prog_5_method_23_code 46 = .ok (.goto 4, 3) := by decide +kernel
theorem dd_107_49 : decode prog_5_method_23_code 49 = .ok (.iconst 0, 1) := by decide +kernel
theorem dd_107_50 : decode prog_5_method_23_code 50 = .ok (.ireturn, 1) := by decide +kernel
set_option maxRecDepth 100000 in
theorem okI_107 : mj_okI gG "PairMachine$Machine" prog_5_method_23_code 3 (mj_off oM_107) (Option.some Jvm.ClassFile.FieldType.int) false true 0 cM_107 :=
  ⟨Or.inl ⟨0, rfl, dd_107_0, rfl⟩,
   Or.inr ⟨39, 15, #[27, 31, 35], 27, dd_107_1, rfl, rfl, (fun j hj => by
    match j, hj with
    | 0, _ => exact ⟨27, 2, rfl, rfl, by decide, rfl⟩
    | 1, _ => exact ⟨31, 6, rfl, rfl, by decide, rfl⟩
    | 2, _ => exact ⟨35, 10, rfl, rfl, by decide, rfl⟩
    | j + 3, h => exact absurd h (by simp))⟩,
   Or.inl ⟨1, rfl, dd_107_28, rfl⟩,
   Or.inl ⟨2, rfl, dd_107_29, rfl⟩,
   ⟨dd_107_30, rfl⟩,
   ⟨dd_107_31, rfl⟩,
   Or.inl ⟨1, rfl, dd_107_32, rfl⟩,
   Or.inl ⟨2, rfl, dd_107_33, rfl⟩,
   ⟨dd_107_34, rfl⟩,
   ⟨dd_107_35, rfl⟩,
   Or.inl ⟨1, rfl, dd_107_36, rfl⟩,
   Or.inl ⟨2, rfl, dd_107_37, rfl⟩,
   ⟨dd_107_38, rfl⟩,
   ⟨dd_107_39, rfl⟩,
   Or.inl ⟨1, rfl, dd_107_40, rfl⟩,
   Or.inl ⟨2, rfl, dd_107_41, rfl⟩,
   ⟨7, dd_107_42, rfl, rfl⟩,
   Or.inl (Or.inl ⟨dd_107_45, rfl⟩),
   ⟨4, dd_107_46, rfl⟩,
   Or.inl (Or.inl ⟨dd_107_49, rfl⟩),
   ⟨dd_107_50, rfl⟩, trivial⟩
theorem okM_107 : mj_okE gG 107 (cM_107, 3, oM_107, hM_107) := ⟨rfl, rfl, by decide +kernel, trivial, okI_107⟩
theorem dd_108_0 : decode prog_5_method_24_code 0 = .ok (.aload_n 0, 1) := by decide +kernel
theorem dd_108_1 : decode prog_5_method_24_code 1 = .ok (.aload_n 0, 1) := by decide +kernel
theorem dd_108_2 : decode prog_5_method_24_code 2 = .ok (.getfield 14, 3) := by decide +kernel
theorem dd_108_5 : decode prog_5_method_24_code 5 = .ok (.lload_n 2, 1) := by decide +kernel
theorem dd_108_6 : decode prog_5_method_24_code 6 = .ok (.aload_n 0, 1) := by decide +kernel
theorem dd_108_7 : decode prog_5_method_24_code 7 = .ok (.getfield 14, 3) := by decide +kernel
theorem dd_108_10 : decode prog_5_method_24_code 10 = .ok (.aload_n 0, 1) := by decide +kernel
theorem dd_108_11 : decode prog_5_method_24_code 11 = .ok (.getfield 59, 3) := by decide +kernel
theorem dd_108_14 : decode prog_5_method_24_code 14 = .ok (.iload_n 1, 1) := by decide +kernel
theorem dd_108_15 : decode prog_5_method_24_code 15 = .ok (.invokevirtual 160, 3) := by decide +kernel
theorem dd_108_18 : decode prog_5_method_24_code 18 = .ok (.invokevirtual 152, 3) := by decide +kernel
theorem dd_108_21 : decode prog_5_method_24_code 21 = .ok (.putfield 59, 3) := by decide +kernel
theorem dd_108_24 : decode prog_5_method_24_code 24 = .ok (.aload_n 0, 1) := by decide +kernel
theorem dd_108_25 : decode prog_5_method_24_code 25 = .ok (.aload_n 0, 1) := by decide +kernel
theorem dd_108_26 : decode prog_5_method_24_code 26 = .ok (.getfield 14, 3) := by decide +kernel
theorem dd_108_29 : decode prog_5_method_24_code 29 = .ok (.aload_n 0, 1) := by decide +kernel
theorem dd_108_30 : decode prog_5_method_24_code 30 = .ok (.getfield 66, 3) := by decide +kernel
theorem dd_108_33 : decode prog_5_method_24_code 33 = .ok (.invokevirtual 145, 3) := by decide +kernel
theorem dd_108_36 : decode prog_5_method_24_code 36 = .ok (.putfield 66, 3) := by decide +kernel
theorem dd_108_39 : decode prog_5_method_24_code 39 = .ok (.return_, 1) := by decide +kernel
set_option maxRecDepth 100000 in
theorem okI_108 : mj_okI gG "PairMachine$Machine" prog_5_method_24_code 4 (mj_off oM_108) (Option.none : Option Jvm.ClassFile.FieldType) false true 0 cM_108 :=
  ⟨Or.inl ⟨0, rfl, dd_108_0, rfl⟩,
   Or.inl ⟨0, rfl, dd_108_1, rfl⟩,
   ⟨14, "PairMachine$Machine", fT6, 10, dd_108_2, rfl, okc_6, by decide, tw_517⟩,
   Or.inl ⟨2, rfl, dd_108_5, rfl⟩,
   Or.inl ⟨0, rfl, dd_108_6, rfl⟩,
   ⟨14, "PairMachine$Machine", fT6, 10, dd_108_7, rfl, okc_6, by decide, tw_517⟩,
   Or.inl ⟨0, rfl, dd_108_10, rfl⟩,
   ⟨59, "PairMachine$Machine", fT6, 10, dd_108_11, rfl, okc_6, by decide, tw_545⟩,
   Or.inl ⟨1, rfl, dd_108_14, rfl⟩,
   ⟨rfl, tw_648, by decide, tw_513, by decide +kernel, 160, tw_649, dd_108_15, tw_650, ⟨"PairMachine$Store", fT7, 9, rfl, tw_651⟩, by decide +kernel⟩,
   ⟨rfl, tw_641, by decide, tw_513, by decide +kernel, 152, tw_642, dd_108_18, tw_643, ⟨"PairMachine$Store", fT7, 9, rfl, tw_644⟩, by decide +kernel⟩,
   ⟨59, "PairMachine$Machine", fT6, 10, dd_108_21, rfl, okc_6, by decide, tw_545, rfl, Or.inl rfl⟩,
   Or.inl ⟨0, rfl, dd_108_24, rfl⟩,
   Or.inl ⟨0, rfl, dd_108_25, rfl⟩,
   ⟨14, "PairMachine$Machine", fT6, 10, dd_108_26, rfl, okc_6, by decide, tw_517⟩,
   Or.inl ⟨0, rfl, dd_108_29, rfl⟩,
   ⟨66, "PairMachine$Machine", fT6, 10, dd_108_30, rfl, okc_6, by decide, tw_547⟩,
   ⟨rfl, tw_633, by decide, tw_513, by decide +kernel, 145, tw_634, dd_108_33, tw_635, ⟨"PairMachine$Store", fT7, 9, rfl, tw_636⟩, by decide +kernel⟩,
   ⟨66, "PairMachine$Machine", fT6, 10, dd_108_36, rfl, okc_6, by decide, tw_547, rfl, Or.inl rfl⟩,
   ⟨dd_108_39, rfl⟩, trivial⟩
theorem okM_108 : mj_okE gG 108 (cM_108, 4, oM_108, hM_108) := ⟨rfl, rfl, by decide +kernel, trivial, okI_108⟩
