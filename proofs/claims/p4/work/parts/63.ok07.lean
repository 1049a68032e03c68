section
theorem dd_100_0 : decode prog_5_method_16_code 0 = .ok (.aload_n 0, 1) := by decide +kernel
theorem dd_100_1 : decode prog_5_method_16_code 1 = .ok (.getfield 14, 3) := by decide +kernel
theorem dd_100_4 : decode prog_5_method_16_code 4 = .ok (.aload_n 0, 1) := by decide +kernel
theorem dd_100_5 : decode prog_5_method_16_code 5 = .ok (.getfield 59, 3) := by decide +kernel
theorem dd_100_8 : decode prog_5_method_16_code 8 = .ok (.invokevirtual 149, 3) := by decide +kernel
theorem dd_100_11 : decode prog_5_method_16_code 11 = .ok (.lstore_n 1, 1) := by decide +kernel
theorem dd_100_12 : decode prog_5_method_16_code 12 = .ok (.lload_n 1, 1) := by decide +kernel
theorem dd_100_13 : decode prog_5_method_16_code 13 = .ok (.invokestatic 181, 3) := by decide +kernel
theorem dd_100_16 : decode prog_5_method_16_code 16 = .ok (.ifCond .ne 5, 3) := by decide +kernel
theorem dd_100_19 : decode prog_5_method_16_code 19 = .ok (.iconst 0, 1) := by decide +kernel
theorem dd_100_20 : decode prog_5_method_16_code 20 = .ok (.ireturn, 1) := by decide +kernel
theorem dd_100_21 : decode prog_5_method_16_code 21 = .ok (.aload_n 0, 1) := by decide +kernel
theorem dd_100_22 : decode prog_5_method_16_code 22 = .ok (.getfield 14, 3) := by decide +kernel
theorem dd_100_25 : decode prog_5_method_16_code 25 = .ok (.aload_n 0, 1) := by decide +kernel
theorem dd_100_26 : decode prog_5_method_16_code 26 = .ok (.getfield 66, 3) := by decide +kernel
theorem dd_100_29 : decode prog_5_method_16_code 29 = .ok (.invokevirtual 145, 3) := by decide +kernel
theorem dd_100_32 : decode prog_5_method_16_code 32 = .ok (.lstore_n 3, 1) := by decide +kernel
theorem dd_100_33 : decode prog_5_method_16_code 33 = .ok (.aload_n 0, 1) := by decide +kernel
theorem dd_100_34 : decode prog_5_method_16_code 34 = .ok (.getfield 14, 3) := by decide +kernel
theorem dd_100_37 : decode prog_5_method_16_code 37 = .ok (.lload_n 3, 1) := by decide +kernel
theorem dd_100_38 : decode prog_5_method_16_code 38 = .ok (.invokevirtual 145, 3) := by decide +kernel
theorem dd_100_41 : decode prog_5_method_16_code 41 = .ok (.lstore 5, 2) := by decide +kernel
theorem dd_100_43 : decode prog_5_method_16_code 43 = .ok (.aload_n 0, 1) := by decide +kernel
theorem dd_100_44 : decode prog_5_method_16_code 44 = .ok (.aload_n 0, 1) := by decide +kernel
theorem dd_100_45 : decode prog_5_method_16_code 45 = .ok (.getfield 14, 3) := by decide +kernel
theorem dd_100_48 : decode prog_5_method_16_code 48 = .ok (.aload_n 0, 1) := by decide +kernel
theorem dd_100_49 : decode prog_5_method_16_code 49 = .ok (.getfield 59, 3) := by decide +kernel
theorem dd_100_52 : decode prog_5_method_16_code 52 = .ok (.invokevirtual 145, 3) := by decide +kernel
theorem dd_100_55 : decode prog_5_method_16_code 55 = .ok (.putfield 59, 3) := by decide +kernel
theorem dd_100_58 : decode prog_5_method_16_code 58 = .ok (.aload_n 0, 1) := by decide +kernel
theorem dd_100_59 : decode prog_5_method_16_code 59 = .ok (.aload_n 0, 1) := by decide +kernel
theorem dd_100_60 : decode prog_5_method_16_code 60 = .ok (.getfield 14, 3) := by decide +kernel
theorem dd_100_63 : decode prog_5_method_16_code 63 = .ok (.aload_n 0, 1) := by decide +kernel
theorem dd_100_64 : decode prog_5_method_16_code 64 = .ok (.getfield 14, 3) := by decide +kernel
theorem dd_100_67 : decode prog_5_method_16_code 67 = .ok (.lload 5, 2) := by decide +kernel
theorem dd_100_69 : decode prog_5_method_16_code 69 = .ok (.invokevirtual 145, 3) := by decide +kernel
theorem dd_100_72 : decode prog_5_method_16_code 72 = .ok (.aload_n 0, 1) := by decide +kernel
theorem dd_100_73 : decode prog_5_method_16_code 73 = .ok (.getfield 69, 3) := by decide +kernel
theorem dd_100_76 : decode prog_5_method_16_code 76 = .ok (.invokevirtual 152, 3) := by decide +kernel
theorem dd_100_79 : decode prog_5_method_16_code 79 = .ok (.putfield 69, 3) := by decide +kernel
theorem dd_100_82 : decode prog_5_method_16_code 82 = .ok (.aload_n 0, 1) := by decide +kernel
theorem dd_100_83 : decode prog_5_method_16_code 83 = .ok (.aload_n 0, 1) := by decide +kernel
theorem dd_100_84 : decode prog_5_method_16_code 84 = .ok (.getfield 14, 3) := by decide +kernel
theorem dd_100_87 : decode prog_5_method_16_code 87 = .ok (.lload_n 1, 1) := by decide +kernel
theorem dd_100_88 : decode prog_5_method_16_code 88 = .ok (.invokestatic 156, 3) := by decide +kernel
theorem dd_100_91 : decode prog_5_method_16_code 91 = .ok (.ifCond .eq 7, 3) := by decide +kernel
theorem dd_100_94 : decode prog_5_method_16_code 94 = .ok (.lload_n 3, 1) := by decide +kernel
theorem dd_100_95 : decode prog_5_method_16_code 95 = .ok (.goto 5, 3) := by decide +kernel
theorem dd_100_98 : decode prog_5_method_16_code 98 = .ok (.lload 5, 2) := by decide +kernel
theorem dd_100_100 : decode prog_5_method_16_code 100 = .ok (.invokevirtual 149, 3) := by decide +kernel
theorem dd_100_103 : decode prog_5_method_16_code 103 = .ok (.putfield 66, 3) := by decide +kernel
theorem dd_100_106 : decode prog_5_method_16_code 106 = .ok (.iconst 1, 1) := by decide +kernel
theorem dd_100_107 : decode prog_5_method_16_code 107 = .ok (.ireturn, 1) := by decide +kernel
set_option maxRecDepth 100000 in
theorem okI_100 : mj_okI gG "PairMachine$Machine" prog_5_method_16_code 7 (mj_off oM_100) (Option.some Jvm.ClassFile.FieldType.boolean) false true 0 cM_100 :=
  ⟨Or.inl ⟨0, rfl, dd_100_0, rfl⟩,
   ⟨14, "PairMachine$Machine", fT6, 10, dd_100_1, rfl, okc_6, by decide, tw_513⟩,
   Or.inl ⟨0, rfl, dd_100_4, rfl⟩,
   ⟨59, "PairMachine$Machine", fT6, 10, dd_100_5, rfl, okc_6, by decide, tw_541⟩,
   ⟨rfl, tw_633, by decide, tw_509, by decide +kernel, 149, tw_634, dd_100_8, tw_635, ⟨"PairMachine$Store", fT7, 9, rfl, tw_636⟩, by decide +kernel⟩,
   ⟨by decide, Or.inl ⟨1, rfl, dd_100_11, rfl⟩⟩,
   Or.inl ⟨1, rfl, dd_100_12, rfl⟩,
   ⟨rfl, tw_666, by decide, tw_372, by decide +kernel, 181, tw_667, dd_100_13, tw_668, by decide +kernel⟩,
   ⟨5, dd_100_16, rfl, rfl⟩,
   Or.inl (Or.inl ⟨dd_100_19, rfl⟩),
   ⟨dd_100_20, rfl⟩,
   Or.inl ⟨0, rfl, dd_100_21, rfl⟩,
   ⟨14, "PairMachine$Machine", fT6, 10, dd_100_22, rfl, okc_6, by decide, tw_513⟩,
   Or.inl ⟨0, rfl, dd_100_25, rfl⟩,
   ⟨66, "PairMachine$Machine", fT6, 10, dd_100_26, rfl, okc_6, by decide, tw_543⟩,
   ⟨rfl, tw_629, by decide, tw_509, by decide +kernel, 145, tw_630, dd_100_29, tw_631, ⟨"PairMachine$Store", fT7, 9, rfl, tw_632⟩, by decide +kernel⟩,
   ⟨by decide, Or.inl ⟨3, rfl, dd_100_32, rfl⟩⟩,
   Or.inl ⟨0, rfl, dd_100_33, rfl⟩,
   ⟨14, "PairMachine$Machine", fT6, 10, dd_100_34, rfl, okc_6, by decide, tw_513⟩,
   Or.inl ⟨3, rfl, dd_100_37, rfl⟩,
   ⟨rfl, tw_629, by decide, tw_509, by decide +kernel, 145, tw_630, dd_100_38, tw_631, ⟨"PairMachine$Store", fT7, 9, rfl, tw_632⟩, by decide +kernel⟩,
   ⟨by decide, Or.inr ⟨dd_100_41, rfl⟩⟩,
   Or.inl ⟨0, rfl, dd_100_43, rfl⟩,
   Or.inl ⟨0, rfl, dd_100_44, rfl⟩,
   ⟨14, "PairMachine$Machine", fT6, 10, dd_100_45, rfl, okc_6, by decide, tw_513⟩,
   Or.inl ⟨0, rfl, dd_100_48, rfl⟩,
   ⟨59, "PairMachine$Machine", fT6, 10, dd_100_49, rfl, okc_6, by decide, tw_541⟩,
   ⟨rfl, tw_629, by decide, tw_509, by decide +kernel, 145, tw_630, dd_100_52, tw_631, ⟨"PairMachine$Store", fT7, 9, rfl, tw_632⟩, by decide +kernel⟩,
   ⟨59, "PairMachine$Machine", fT6, 10, dd_100_55, rfl, okc_6, by decide, tw_541, rfl, Or.inl rfl⟩,
   Or.inl ⟨0, rfl, dd_100_58, rfl⟩,
   Or.inl ⟨0, rfl, dd_100_59, rfl⟩,
   ⟨14, "PairMachine$Machine", fT6, 10, dd_100_60, rfl, okc_6, by decide, tw_513⟩,
   Or.inl ⟨0, rfl, dd_100_63, rfl⟩,
   ⟨14, "PairMachine$Machine", fT6, 10, dd_100_64, rfl, okc_6, by decide, tw_513⟩,
   Or.inr ⟨dd_100_67, rfl⟩,
   ⟨rfl, tw_629, by decide, tw_509, by decide +kernel, 145, tw_630, dd_100_69, tw_631, ⟨"PairMachine$Store", fT7, 9, rfl, tw_632⟩, by decide +kernel⟩,
   Or.inl ⟨0, rfl, dd_100_72, rfl⟩,
   ⟨69, "PairMachine$Machine", fT6, 10, dd_100_73, rfl, okc_6, by decide, tw_544⟩,
   ⟨rfl, tw_637, by decide, tw_509, by decide +kernel, 152, tw_638, dd_100_76, tw_639, ⟨"PairMachine$Store", fT7, 9, rfl, tw_640⟩, by decide +kernel⟩,
   ⟨69, "PairMachine$Machine", fT6, 10, dd_100_79, rfl, okc_6, by decide, tw_544, rfl, Or.inl rfl⟩,
   Or.inl ⟨0, rfl, dd_100_82, rfl⟩,
   Or.inl ⟨0, rfl, dd_100_83, rfl⟩,
   ⟨14, "PairMachine$Machine", fT6, 10, dd_100_84, rfl, okc_6, by decide, tw_513⟩,
   Or.inl ⟨1, rfl, dd_100_87, rfl⟩,
   ⟨rfl, tw_641, by decide, tw_372, by decide +kernel, 156, tw_642, dd_100_88, tw_643, by decide +kernel⟩,
   ⟨7, dd_100_91, rfl, rfl⟩,
   Or.inl ⟨3, rfl, dd_100_94, rfl⟩,
   ⟨5, dd_100_95, rfl⟩,
   Or.inr ⟨dd_100_98, rfl⟩,
   ⟨rfl, tw_633, by decide, tw_509, by decide +kernel, 149, tw_634, dd_100_100, tw_635, ⟨"PairMachine$Store", fT7, 9, rfl, tw_636⟩, by decide +kernel⟩,
   ⟨66, "PairMachine$Machine", fT6, 10, dd_100_103, rfl, okc_6, by decide, tw_543, rfl, Or.inl rfl⟩,
   Or.inl (Or.inl ⟨dd_100_106, rfl⟩),
   ⟨dd_100_107, rfl⟩, trivial⟩
theorem okM_100 : mj_okE gG 100 (cM_100, 7, oM_100, hM_100) := ⟨rfl, rfl, by decide +kernel, trivial, okI_100⟩
theorem dd_101_0 : decode prog_5_method_17_code 0 = .ok (.aload_n 0, 1) := by decide +kernel
theorem dd_101_1 : decode prog_5_method_17_code 1 = .ok (.aload_n 0, 1) := by decide +kernel
theorem dd_101_2 : decode prog_5_method_17_code 2 = .ok (.getfield 14, 3) := by decide +kernel
theorem dd_101_5 : decode prog_5_method_17_code 5 = .ok (.aload_n 0, 1) := by decide +kernel
theorem dd_101_6 : decode prog_5_method_17_code 6 = .ok (.getfield 69, 3) := by decide +kernel
theorem dd_101_9 : decode prog_5_method_17_code 9 = .ok (.invokevirtual 149, 3) := by decide +kernel
theorem dd_101_12 : decode prog_5_method_17_code 12 = .ok (.putfield 66, 3) := by decide +kernel
theorem dd_101_15 : decode prog_5_method_17_code 15 = .ok (.aload_n 0, 1) := by decide +kernel
theorem dd_101_16 : decode prog_5_method_17_code 16 = .ok (.aload_n 0, 1) := by decide +kernel
theorem dd_101_17 : decode prog_5_method_17_code 17 = .ok (.getfield 14, 3) := by decide +kernel
theorem dd_101_20 : decode prog_5_method_17_code 20 = .ok (.aload_n 0, 1) := by decide +kernel
theorem dd_101_21 : decode prog_5_method_17_code 21 = .ok (.getfield 69, 3) := by decide +kernel
theorem dd_101_24 : decode prog_5_method_17_code 24 = .ok (.invokevirtual 145, 3) := by decide +kernel
theorem dd_101_27 : decode prog_5_method_17_code 27 = .ok (.putfield 69, 3) := by decide +kernel
theorem dd_101_30 : decode prog_5_method_17_code 30 = .ok (.iconst 1, 1) := by decide +kernel
theorem dd_101_31 : decode prog_5_method_17_code 31 = .ok (.ireturn, 1) := by decide +kernel
set_option maxRecDepth 100000 in
theorem okI_101 : mj_okI gG "PairMachine$Machine" prog_5_method_17_code 1 (mj_off oM_101) (Option.some Jvm.ClassFile.FieldType.boolean) false true 0 cM_101 :=
  ⟨Or.inl ⟨0, rfl, dd_101_0, rfl⟩,
   Or.inl ⟨0, rfl, dd_101_1, rfl⟩,
   ⟨14, "PairMachine$Machine", fT6, 10, dd_101_2, rfl, okc_6, by decide, tw_513⟩,
   Or.inl ⟨0, rfl, dd_101_5, rfl⟩,
   ⟨69, "PairMachine$Machine", fT6, 10, dd_101_6, rfl, okc_6, by decide, tw_544⟩,
   ⟨rfl, tw_633, by decide, tw_509, by decide +kernel, 149, tw_634, dd_101_9, tw_635, ⟨"PairMachine$Store", fT7, 9, rfl, tw_636⟩, by decide +kernel⟩,
   ⟨66, "PairMachine$Machine", fT6, 10, dd_101_12, rfl, okc_6, by decide, tw_543, rfl, Or.inl rfl⟩,
   Or.inl ⟨0, rfl, dd_101_15, rfl⟩,
   Or.inl ⟨0, rfl, dd_101_16, rfl⟩,
   ⟨14, "PairMachine$Machine", fT6, 10, dd_101_17, rfl, okc_6, by decide, tw_513⟩,
   Or.inl ⟨0, rfl, dd_101_20, rfl⟩,
   ⟨69, "PairMachine$Machine", fT6, 10, dd_101_21, rfl, okc_6, by decide, tw_544⟩,
   ⟨rfl, tw_629, by decide, tw_509, by decide +kernel, 145, tw_630, dd_101_24, tw_631, ⟨"PairMachine$Store", fT7, 9, rfl, tw_632⟩, by decide +kernel⟩,
   ⟨69, "PairMachine$Machine", fT6, 10, dd_101_27, rfl, okc_6, by decide, tw_544, rfl, Or.inl rfl⟩,
   Or.inl (Or.inl ⟨dd_101_30, rfl⟩),
   ⟨dd_101_31, rfl⟩, trivial⟩
theorem okM_101 : mj_okE gG 101 (cM_101, 1, oM_101, hM_101) := ⟨rfl, rfl, by decide +kernel, trivial, okI_101⟩
theorem dd_102_0 : decode prog_5_method_18_code 0 = .ok (.aload_n 0, 1) := by decide +kernel
theorem dd_102_1 : decode prog_5_method_18_code 1 = .ok (.getfield 14, 3) := by decide +kernel
theorem dd_102_4 : decode prog_5_method_18_code 4 = .ok (.aload_n 0, 1) := by decide +kernel
theorem dd_102_5 : decode prog_5_method_18_code 5 = .ok (.getfield 59, 3) := by decide +kernel
theorem dd_102_8 : decode prog_5_method_18_code 8 = .ok (.invokevirtual 149, 3) := by decide +kernel
theorem dd_102_11 : decode prog_5_method_18_code 11 = .ok (.lstore_n 2, 1) := by decide +kernel
theorem dd_102_12 : decode prog_5_method_18_code 12 = .ok (.lload_n 2, 1) := by decide +kernel
theorem dd_102_13 : decode prog_5_method_18_code 13 = .ok (.invokestatic 164, 3) := by decide +kernel
theorem dd_102_16 : decode prog_5_method_18_code 16 = .ok (.ifCond .ne 5, 3) := by decide +kernel
theorem dd_102_19 : decode prog_5_method_18_code 19 = .ok (.iconst 0, 1) := by decide +kernel
theorem dd_102_20 : decode prog_5_method_18_code 20 = .ok (.ireturn, 1) := by decide +kernel
theorem dd_102_21 : decode prog_5_method_18_code 21 = .ok (.aload_n 0, 1) := by decide +kernel
theorem dd_102_22 : decode prog_5_method_18_code 22 = .ok (.iconst 1, 1) := by decide +kernel
theorem dd_102_23 : decode prog_5_method_18_code 23 = .ok (.iload_n 1, 1) := by decide +kernel
theorem dd_102_24 : decode prog_5_method_18_code 24 = .ok (.bipush 10, 2) := by decide +kernel
theorem dd_102_26 : decode prog_5_method_18_code 26 = .ok (.if_icmp .ne 14, 3) := by decide +kernel
theorem dd_102_29 : decode prog_5_method_18_code 29 = .ok (.aload_n 0, 1) := by decide +kernel
theorem dd_102_30 : decode prog_5_method_18_code 30 = .ok (.getfield 14, 3) := by decide +kernel
theorem dd_102_33 : decode prog_5_method_18_code 33 = .ok (.lload_n 2, 1) := by decide +kernel
theorem dd_102_34 : decode prog_5_method_18_code 34 = .ok (.invokevirtual 149, 3) := by decide +kernel
theorem dd_102_37 : decode prog_5_method_18_code 37 = .ok (.goto 11, 3) := by decide +kernel
theorem dd_102_40 : decode prog_5_method_18_code 40 = .ok (.aload_n 0, 1) := by decide +kernel
theorem dd_102_41 : decode prog_5_method_18_code 41 = .ok (.getfield 14, 3) := by decide +kernel
theorem dd_102_44 : decode prog_5_method_18_code 44 = .ok (.lload_n 2, 1) := by decide +kernel
theorem dd_102_45 : decode prog_5_method_18_code 45 = .ok (.invokevirtual 145, 3) := by decide +kernel
theorem dd_102_48 : decode prog_5_method_18_code 48 = .ok (.invokevirtual 184, 3) := by decide +kernel
theorem dd_102_51 : decode prog_5_method_18_code 51 = .ok (.iconst 1, 1) := by decide +kernel
theorem dd_102_52 : decode prog_5_method_18_code 52 = .ok (.ireturn, 1) := by decide +kernel
set_option maxRecDepth 100000 in
theorem okI_102 : mj_okI gG "PairMachine$Machine" prog_5_method_18_code 4 (mj_off oM_102) (Option.some Jvm.ClassFile.FieldType.boolean) false true 0 cM_102 :=
  ⟨Or.inl ⟨0, rfl, dd_102_0, rfl⟩,
   ⟨14, "PairMachine$Machine", fT6, 10, dd_102_1, rfl, okc_6, by decide, tw_513⟩,
   Or.inl ⟨0, rfl, dd_102_4, rfl⟩,
   ⟨59, "PairMachine$Machine", fT6, 10, dd_102_5, rfl, okc_6, by decide, tw_541⟩,
   ⟨rfl, tw_633, by decide, tw_509, by decide +kernel, 149, tw_634, dd_102_8, tw_635, ⟨"PairMachine$Store", fT7, 9, rfl, tw_636⟩, by decide +kernel⟩,
   ⟨by decide, Or.inl ⟨2, rfl, dd_102_11, rfl⟩⟩,
   Or.inl ⟨2, rfl, dd_102_12, rfl⟩,
   ⟨rfl, tw_648, by decide, tw_372, by decide +kernel, 164, tw_649, dd_102_13, tw_650, by decide +kernel⟩,
   ⟨5, dd_102_16, rfl, rfl⟩,
   Or.inl (Or.inl ⟨dd_102_19, rfl⟩),
   ⟨dd_102_20, rfl⟩,
   Or.inl ⟨0, rfl, dd_102_21, rfl⟩,
   Or.inl (Or.inl ⟨dd_102_22, rfl⟩),
   Or.inl ⟨1, rfl, dd_102_23, rfl⟩,
   Or.inl (Or.inr (Or.inl ⟨dd_102_24, rfl, by decide⟩)),
   ⟨14, dd_102_26, rfl, rfl⟩,
   Or.inl ⟨0, rfl, dd_102_29, rfl⟩,
   ⟨14, "PairMachine$Machine", fT6, 10, dd_102_30, rfl, okc_6, by decide, tw_513⟩,
   Or.inl ⟨2, rfl, dd_102_33, rfl⟩,
   ⟨rfl, tw_633, by decide, tw_509, by decide +kernel, 149, tw_634, dd_102_34, tw_635, ⟨"PairMachine$Store", fT7, 9, rfl, tw_636⟩, by decide +kernel⟩,
   ⟨11, dd_102_37, rfl⟩,
   Or.inl ⟨0, rfl, dd_102_40, rfl⟩,
   ⟨14, "PairMachine$Machine", fT6, 10, dd_102_41, rfl, okc_6, by decide, tw_513⟩,
   Or.inl ⟨2, rfl, dd_102_44, rfl⟩,
   ⟨rfl, tw_629, by decide, tw_509, by decide +kernel, 145, tw_630, dd_102_45, tw_631, ⟨"PairMachine$Store", fT7, 9, rfl, tw_632⟩, by decide +kernel⟩,
   ⟨rfl, tw_669, by decide, tw_143, by decide +kernel, 184, tw_670, dd_102_48, tw_671, ⟨"PairMachine$Machine", fT6, 10, rfl, tw_672⟩, by decide +kernel⟩,
   Or.inl (Or.inl ⟨dd_102_51, rfl⟩),
   ⟨dd_102_52, rfl⟩, trivial⟩
theorem okM_102 : mj_okE gG 102 (cM_102, 4, oM_102, hM_102) := ⟨rfl, rfl, by decide +kernel, trivial, okI_102⟩
theorem dd_103_0 : decode prog_5_method_19_code 0 = .ok (.aload_n 0, 1) := by decide +kernel
theorem dd_103_1 : decode prog_5_method_19_code 1 = .ok (.iconst 1, 1) := by decide +kernel
theorem dd_103_2 : decode prog_5_method_19_code 2 = .ok (.aload_n 0, 1) := by decide +kernel
theorem dd_103_3 : decode prog_5_method_19_code 3 = .ok (.getfield 14, 3) := by decide +kernel
theorem dd_103_6 : decode prog_5_method_19_code 6 = .ok (.aload_n 0, 1) := by decide +kernel
theorem dd_103_7 : decode prog_5_method_19_code 7 = .ok (.getfield 59, 3) := by decide +kernel
theorem dd_103_10 : decode prog_5_method_19_code 10 = .ok (.invokevirtual 149, 3) := by decide +kernel
theorem dd_103_13 : decode prog_5_method_19_code 13 = .ok (.invokestatic 164, 3) := by decide +kernel
theorem dd_103_16 : decode prog_5_method_19_code 16 = .ok (.ifCond .eq 7, 3) := by decide +kernel
theorem dd_103_19 : decode prog_5_method_19_code 19 = .ok (.iconst 0, 1) := by decide +kernel
theorem dd_103_20 : decode prog_5_method_19_code 20 = .ok (.goto 4, 3) := by decide +kernel
theorem dd_103_23 : decode prog_5_method_19_code 23 = .ok (.iconst 1, 1) := by decide +kernel
theorem dd_103_24 : decode prog_5_method_19_code 24 = .ok (.invokestatic 188, 3) := by decide +kernel
theorem dd_103_27 : decode prog_5_method_19_code 27 = .ok (.invokevirtual 184, 3) := by decide +kernel
theorem dd_103_30 : decode prog_5_method_19_code 30 = .ok (.iconst 1, 1) := by decide +kernel
theorem dd_103_31 : decode prog_5_method_19_code 31 = .ok (.ireturn, 1) := by decide +kernel
set_option maxRecDepth 100000 in
theorem okI_103 : mj_okI gG "PairMachine$Machine" prog_5_method_19_code 1 (mj_off oM_103) (Option.some Jvm.ClassFile.FieldType.boolean) false true 0 cM_103 :=
  ⟨Or.inl ⟨0, rfl, dd_103_0, rfl⟩,
   Or.inl (Or.inl ⟨dd_103_1, rfl⟩),
   Or.inl ⟨0, rfl, dd_103_2, rfl⟩,
   ⟨14, "PairMachine$Machine", fT6, 10, dd_103_3, rfl, okc_6, by decide, tw_513⟩,
   Or.inl ⟨0, rfl, dd_103_6, rfl⟩,
   ⟨59, "PairMachine$Machine", fT6, 10, dd_103_7, rfl, okc_6, by decide, tw_541⟩,
   ⟨rfl, tw_633, by decide, tw_509, by decide +kernel, 149, tw_634, dd_103_10, tw_635, ⟨"PairMachine$Store", fT7, 9, rfl, tw_636⟩, by decide +kernel⟩,
   ⟨rfl, tw_648, by decide, tw_372, by decide +kernel, 164, tw_649, dd_103_13, tw_650, by decide +kernel⟩,
   ⟨7, dd_103_16, rfl, rfl⟩,
   Or.inl (Or.inl ⟨dd_103_19, rfl⟩),
   ⟨4, dd_103_20, rfl⟩,
   Or.inl (Or.inl ⟨dd_103_23, rfl⟩),
   ⟨rfl, tw_379, by decide, tw_372, by decide +kernel, 188, tw_673, dd_103_24, tw_381, by decide +kernel⟩,
   ⟨rfl, tw_669, by decide, tw_143, by decide +kernel, 184, tw_670, dd_103_27, tw_671, ⟨"PairMachine$Machine", fT6, 10, rfl, tw_672⟩, by decide +kernel⟩,
   Or.inl (Or.inl ⟨dd_103_30, rfl⟩),
   ⟨dd_103_31, rfl⟩, trivial⟩
theorem okM_103 : mj_okE gG 103 (cM_103, 1, oM_103, hM_103) := ⟨rfl, rfl, by decide +kernel, trivial, okI_103⟩
theorem dd_104_0 : decode prog_5_method_20_code 0 = .ok (.aload_n 0, 1) := by decide +kernel
theorem dd_104_1 : decode prog_5_method_20_code 1 = .ok (.getfield 14, 3) := by decide +kernel
theorem dd_104_4 : decode prog_5_method_20_code 4 = .ok (.aload_n 0, 1) := by decide +kernel
theorem dd_104_5 : decode prog_5_method_20_code 5 = .ok (.getfield 59, 3) := by decide +kernel
theorem dd_104_8 : decode prog_5_method_20_code 8 = .ok (.invokevirtual 149, 3) := by decide +kernel
theorem dd_104_11 : decode prog_5_method_20_code 11 = .ok (.lstore_n 1, 1) := by decide +kernel
theorem dd_104_12 : decode prog_5_method_20_code 12 = .ok (.aload_n 0, 1) := by decide +kernel
theorem dd_104_13 : decode prog_5_method_20_code 13 = .ok (.getfield 14, 3) := by decide +kernel
theorem dd_104_16 : decode prog_5_method_20_code 16 = .ok (.aload_n 0, 1) := by decide +kernel
theorem dd_104_17 : decode prog_5_method_20_code 17 = .ok (.getfield 14, 3) := by decide +kernel
theorem dd_104_20 : decode prog_5_method_20_code 20 = .ok (.aload_n 0, 1) := by decide +kernel
theorem dd_104_21 : decode prog_5_method_20_code 21 = .ok (.getfield 59, 3) := by decide +kernel
theorem dd_104_24 : decode prog_5_method_20_code 24 = .ok (.invokevirtual 145, 3) := by decide +kernel
theorem dd_104_27 : decode prog_5_method_20_code 27 = .ok (.invokevirtual 149, 3) := by decide +kernel
theorem dd_104_30 : decode prog_5_method_20_code 30 = .ok (.lstore_n 3, 1) := by decide +kernel
theorem dd_104_31 : decode prog_5_method_20_code 31 = .ok (.aload_n 0, 1) := by decide +kernel
theorem dd_104_32 : decode prog_5_method_20_code 32 = .ok (.iconst 2, 1) := by decide +kernel
theorem dd_104_33 : decode prog_5_method_20_code 33 = .ok (.aload_n 0, 1) := by decide +kernel
theorem dd_104_34 : decode prog_5_method_20_code 34 = .ok (.getfield 14, 3) := by decide +kernel
theorem dd_104_37 : decode prog_5_method_20_code 37 = .ok (.lload_n 1, 1) := by decide +kernel
theorem dd_104_38 : decode prog_5_method_20_code 38 = .ok (.lload_n 3, 1) := by decide +kernel
theorem dd_104_39 : decode prog_5_method_20_code 39 = .ok (.invokevirtual 152, 3) := by decide +kernel
theorem dd_104_42 : decode prog_5_method_20_code 42 = .ok (.invokevirtual 184, 3) := by decide +kernel
theorem dd_104_45 : decode prog_5_method_20_code 45 = .ok (.iconst 1, 1) := by decide +kernel
theorem dd_104_46 : decode prog_5_method_20_code 46 = .ok (.ireturn, 1) := by decide +kernel
set_option maxRecDepth 100000 in
theorem okI_104 : mj_okI gG "PairMachine$Machine" prog_5_method_20_code 5 (mj_off oM_104) (Option.some Jvm.ClassFile.FieldType.boolean) false true 0 cM_104 :=
  ⟨Or.inl ⟨0, rfl, dd_104_0, rfl⟩,
   ⟨14, "PairMachine$Machine", fT6, 10, dd_104_1, rfl, okc_6, by decide, tw_513⟩,
   Or.inl ⟨0, rfl, dd_104_4, rfl⟩,
   ⟨59, "PairMachine$Machine", fT6, 10, dd_104_5, rfl, okc_6, by decide, tw_541⟩,
   ⟨rfl, tw_633, by decide, tw_509, by decide +kernel, 149, tw_634, dd_104_8, tw_635, ⟨"PairMachine$Store", fT7, 9, rfl, tw_636⟩, by decide +kernel⟩,
   ⟨by decide, Or.inl ⟨1, rfl, dd_104_11, rfl⟩⟩,
   Or.inl ⟨0, rfl, dd_104_12, rfl⟩,
   ⟨14, "PairMachine$Machine", fT6, 10, dd_104_13, rfl, okc_6, by decide, tw_513⟩,
   Or.inl ⟨0, rfl, dd_104_16, rfl⟩,
   ⟨14, "PairMachine$Machine", fT6, 10, dd_104_17, rfl, okc_6, by decide, tw_513⟩,
   Or.inl ⟨0, rfl, dd_104_20, rfl⟩,
   ⟨59, "PairMachine$Machine", fT6, 10, dd_104_21, rfl, okc_6, by decide, tw_541⟩,
   ⟨rfl, tw_629, by decide, tw_509, by decide +kernel, 145, tw_630, dd_104_24, tw_631, ⟨"PairMachine$Store", fT7, 9, rfl, tw_632⟩, by decide +kernel⟩,
   ⟨rfl, tw_633, by decide, tw_509, by decide +kernel, 149, tw_634, dd_104_27, tw_635, ⟨"PairMachine$Store", fT7, 9, rfl, tw_636⟩, by decide +kernel⟩,
   ⟨by decide, Or.inl ⟨3, rfl, dd_104_30, rfl⟩⟩,
   Or.inl ⟨0, rfl, dd_104_31, rfl⟩,
   Or.inl (Or.inl ⟨dd_104_32, rfl⟩),
   Or.inl ⟨0, rfl, dd_104_33, rfl⟩,
   ⟨14, "PairMachine$Machine", fT6, 10, dd_104_34, rfl, okc_6, by decide, tw_513⟩,
   Or.inl ⟨1, rfl, dd_104_37, rfl⟩,
   Or.inl ⟨3, rfl, dd_104_38, rfl⟩,
   ⟨rfl, tw_637, by decide, tw_509, by decide +kernel, 152, tw_638, dd_104_39, tw_639, ⟨"PairMachine$Store", fT7, 9, rfl, tw_640⟩, by decide +kernel⟩,
   ⟨rfl, tw_669, by decide, tw_143, by decide +kernel, 184, tw_670, dd_104_42, tw_671, ⟨"PairMachine$Machine", fT6, 10, rfl, tw_672⟩, by decide +kernel⟩,
   Or.inl (Or.inl ⟨dd_104_45, rfl⟩),
   ⟨dd_104_46, rfl⟩, trivial⟩
theorem okM_104 : mj_okE gG 104 (cM_104, 5, oM_104, hM_104) := ⟨rfl, rfl, by decide +kernel, trivial, okI_104⟩
theorem dd_105_0 : decode prog_5_method_21_code 0 = .ok (.aload_n 0, 1) := by decide +kernel
theorem dd_105_1 : decode prog_5_method_21_code 1 = .ok (.getfield 14, 3) := by decide +kernel
theorem dd_105_4 : decode prog_5_method_21_code 4 = .ok (.aload_n 0, 1) := by decide +kernel
theorem dd_105_5 : decode prog_5_method_21_code 5 = .ok (.getfield 59, 3) := by decide +kernel
theorem dd_105_8 : decode prog_5_method_21_code 8 = .ok (.invokevirtual 149, 3) := by decide +kernel
theorem dd_105_11 : decode prog_5_method_21_code 11 = .ok (.lstore_n 1, 1) := by decide +kernel
theorem dd_105_12 : decode prog_5_method_21_code 12 = .ok (.aload_n 0, 1) := by decide +kernel
theorem dd_105_13 : decode prog_5_method_21_code 13 = .ok (.getfield 14, 3) := by decide +kernel
theorem dd_105_16 : decode prog_5_method_21_code 16 = .ok (.aload_n 0, 1) := by decide +kernel
theorem dd_105_17 : decode prog_5_method_21_code 17 = .ok (.getfield 14, 3) := by decide +kernel
theorem dd_105_20 : decode prog_5_method_21_code 20 = .ok (.aload_n 0, 1) := by decide +kernel
theorem dd_105_21 : decode prog_5_method_21_code 21 = .ok (.getfield 59, 3) := by decide +kernel
theorem dd_105_24 : decode prog_5_method_21_code 24 = .ok (.invokevirtual 145, 3) := by decide +kernel
theorem dd_105_27 : decode prog_5_method_21_code 27 = .ok (.invokevirtual 149, 3) := by decide +kernel
theorem dd_105_30 : decode prog_5_method_21_code 30 = .ok (.lstore_n 3, 1) := by decide +kernel
theorem dd_105_31 : decode prog_5_method_21_code 31 = .ok (.lload_n 3, 1) := by decide +kernel
theorem dd_105_32 : decode prog_5_method_21_code 32 = .ok (.lload_n 1, 1) := by decide +kernel
theorem dd_105_33 : decode prog_5_method_21_code 33 = .ok (.lcmp, 1) := by decide +kernel
theorem dd_105_34 : decode prog_5_method_21_code 34 = .ok (.ifCond .ne 15, 3) := by decide +kernel
theorem dd_105_37 : decode prog_5_method_21_code 37 = .ok (.lload_n 3, 1) := by decide +kernel
theorem dd_105_38 : decode prog_5_method_21_code 38 = .ok (.invokestatic 192, 3) := by decide +kernel
theorem dd_105_41 : decode prog_5_method_21_code 41 = .ok (.iconst (-1), 1) := by decide +kernel
theorem dd_105_42 : decode prog_5_method_21_code 42 = .ok (.if_icmp .ne 7, 3) := by decide +kernel
theorem dd_105_45 : decode prog_5_method_21_code 45 = .ok (.iconst 1, 1) := by decide +kernel
theorem dd_105_46 : decode prog_5_method_21_code 46 = .ok (.goto 4, 3) := by decide +kernel
theorem dd_105_49 : decode prog_5_method_21_code 49 = .ok (.iconst 0, 1) := by decide +kernel
theorem dd_105_50 : decode prog_5_method_21_code 50 = .ok (.istore 5, 2) := by decide +kernel
theorem dd_105_52 : decode prog_5_method_21_code 52 = .ok (.aload_n 0, 1) := by decide +kernel
theorem dd_105_53 : decode prog_5_method_21_code 53 = .ok (.iconst 2, 1) := by decide +kernel
theorem dd_105_54 : decode prog_5_method_21_code 54 = .ok (.iload 5, 2) := by decide +kernel
theorem dd_105_56 : decode prog_5_method_21_code 56 = .ok (.ifCond .eq 7, 3) := by decide +kernel
theorem dd_105_59 : decode prog_5_method_21_code 59 = .ok (.iconst 1, 1) := by decide +kernel
theorem dd_105_60 : decode prog_5_method_21_code 60 = .ok (.goto 4, 3) := by decide +kernel
theorem dd_105_63 : decode prog_5_method_21_code 63 = .ok (.iconst 0, 1) := by decide +kernel
theorem dd_105_64 : decode prog_5_method_21_code 64 = .ok (.invokestatic 188, 3) := by decide +kernel
theorem dd_105_67 : decode prog_5_method_21_code 67 = .ok (.invokevirtual 184, 3) := by decide +kernel
theorem dd_105_70 : decode prog_5_method_21_code 70 = .ok (.iconst 1, 1) := by decide +kernel
theorem dd_105_71 : decode prog_5_method_21_code 71 = .ok (.ireturn, 1) := by decide +kernel
set_option maxRecDepth 100000 in
theorem okI_105 : mj_okI gG "PairMachine$Machine" prog_5_method_21_code 6 (mj_off oM_105) (Option.some Jvm.ClassFile.FieldType.boolean) false true 0 cM_105 :=
  ⟨Or.inl ⟨0, rfl, dd_105_0, rfl⟩,
   ⟨14, "PairMachine$Machine", fT6, 10, dd_105_1, rfl, okc_6, by decide, tw_513⟩,
   Or.inl ⟨0, rfl, dd_105_4, rfl⟩,
   ⟨59, "PairMachine$Machine", fT6, 10, dd_105_5, rfl, okc_6, by decide, tw_541⟩,
   ⟨rfl, tw_633, by decide, tw_509, by decide +kernel, 149, tw_634, dd_105_8, tw_635, ⟨"PairMachine$Store", fT7, 9, rfl, tw_636⟩, by decide +kernel⟩,
   ⟨by decide, Or.inl ⟨1, rfl, dd_105_11, rfl⟩⟩,
   Or.inl ⟨0, rfl, dd_105_12, rfl⟩,
   ⟨14, "PairMachine$Machine", fT6, 10, dd_105_13, rfl, okc_6, by decide, tw_513⟩,
   Or.inl ⟨0, rfl, dd_105_16, rfl⟩,
   ⟨14, "PairMachine$Machine", fT6, 10, dd_105_17, rfl, okc_6, by decide, tw_513⟩,
   Or.inl ⟨0, rfl, dd_105_20, rfl⟩,
   ⟨59, "PairMachine$Machine", fT6, 10, dd_105_21, rfl, okc_6, by decide, tw_541⟩,
   ⟨rfl, tw_629, by decide, tw_509, by decide +kernel, 145, tw_630, dd_105_24, tw_631, ⟨"PairMachine$Store", fT7, 9, rfl, tw_632⟩, by decide +kernel⟩,
   ⟨rfl, tw_633, by decide, tw_509, by decide +kernel, 149, tw_634, dd_105_27, tw_635, ⟨"PairMachine$Store", fT7, 9, rfl, tw_636⟩, by decide +kernel⟩,
   ⟨by decide, Or.inl ⟨3, rfl, dd_105_30, rfl⟩⟩,
   Or.inl ⟨3, rfl, dd_105_31, rfl⟩,
   Or.inl ⟨1, rfl, dd_105_32, rfl⟩,
   ⟨dd_105_33, rfl⟩,
   ⟨15, dd_105_34, rfl, rfl⟩,
   Or.inl ⟨3, rfl, dd_105_37, rfl⟩,
   ⟨rfl, tw_674, by decide, tw_372, by decide +kernel, 192, tw_675, dd_105_38, tw_676, by decide +kernel⟩,
   Or.inl (Or.inl ⟨dd_105_41, rfl⟩),
   ⟨7, dd_105_42, rfl, rfl⟩,
   Or.inl (Or.inl ⟨dd_105_45, rfl⟩),
   ⟨4, dd_105_46, rfl⟩,
   Or.inl (Or.inl ⟨dd_105_49, rfl⟩),
   ⟨by decide, Or.inr ⟨dd_105_50, rfl⟩⟩,
   Or.inl ⟨0, rfl, dd_105_52, rfl⟩,
   Or.inl (Or.inl ⟨dd_105_53, rfl⟩),
   Or.inr ⟨dd_105_54, rfl⟩,
   ⟨7, dd_105_56, rfl, rfl⟩,
   Or.inl (Or.inl ⟨dd_105_59, rfl⟩),
   ⟨4, dd_105_60, rfl⟩,
   Or.inl (Or.inl ⟨dd_105_63, rfl⟩),
   ⟨rfl, tw_379, by decide, tw_372, by decide +kernel, 188, tw_673, dd_105_64, tw_381, by decide +kernel⟩,
   ⟨rfl, tw_669, by decide, tw_143, by decide +kernel, 184, tw_670, dd_105_67, tw_671, ⟨"PairMachine$Machine", fT6, 10, rfl, tw_672⟩, by decide +kernel⟩,
   Or.inl (Or.inl ⟨dd_105_70, rfl⟩),
   ⟨dd_105_71, rfl⟩, trivial⟩
theorem okM_105 : mj_okE gG 105 (cM_105, 6, oM_105, hM_105) := ⟨rfl, rfl, by decide +kernel, trivial, okI_105⟩
theorem dd_106_0 : decode prog_5_method_22_code 0 = .ok (.aload_n 0, 1) := by decide +kernel
theorem dd_106_1 : decode prog_5_method_22_code 1 = .ok (.getfield 14, 3) := by decide +kernel
theorem dd_106_4 : decode prog_5_method_22_code 4 = .ok (.aload_n 0, 1) := by decide +kernel
theorem dd_106_5 : decode prog_5_method_22_code 5 = .ok (.getfield 59, 3) := by decide +kernel
theorem dd_106_8 : decode prog_5_method_22_code 8 = .ok (.invokevirtual 149, 3) := by decide +kernel
theorem dd_106_11 : decode prog_5_method_22_code 11 = .ok (.lstore_n 2, 1) := by decide +kernel
theorem dd_106_12 : decode prog_5_method_22_code 12 = .ok (.aload_n 0, 1) := by decide +kernel
theorem dd_106_13 : decode prog_5_method_22_code 13 = .ok (.getfield 14, 3) := by decide +kernel
theorem dd_106_16 : decode prog_5_method_22_code 16 = .ok (.aload_n 0, 1) := by decide +kernel
theorem dd_106_17 : decode prog_5_method_22_code 17 = .ok (.getfield 14, 3) := by decide +kernel
theorem dd_106_20 : decode prog_5_method_22_code 20 = .ok (.aload_n 0, 1) := by decide +kernel
theorem dd_106_21 : decode prog_5_method_22_code 21 = .ok (.getfield 59, 3) := by decide +kernel
theorem dd_106_24 : decode prog_5_method_22_code 24 = .ok (.invokevirtual 145, 3) := by decide +kernel
theorem dd_106_27 : decode prog_5_method_22_code 27 = .ok (.invokevirtual 149, 3) := by decide +kernel
theorem dd_106_30 : decode prog_5_method_22_code 30 = .ok (.lstore 4, 2) := by decide +kernel
theorem dd_106_32 : decode prog_5_method_22_code 32 = .ok (.lload 4, 2) := by decide +kernel
theorem dd_106_34 : decode prog_5_method_22_code 34 = .ok (.invokestatic 181, 3) := by decide +kernel
theorem dd_106_37 : decode prog_5_method_22_code 37 = .ok (.ifCond .eq 10, 3) := by decide +kernel
theorem dd_106_40 : decode prog_5_method_22_code 40 = .ok (.lload_n 2, 1) := by decide +kernel
theorem dd_106_41 : decode prog_5_method_22_code 41 = .ok (.invokestatic 181, 3) := by decide +kernel
theorem dd_106_44 : decode prog_5_method_22_code 44 = .ok (.ifCond .ne 5, 3) := by decide +kernel
theorem dd_106_47 : decode prog_5_method_22_code 47 = .ok (.iconst 0, 1) := by decide +kernel
theorem dd_106_48 : decode prog_5_method_22_code 48 = .ok (.ireturn, 1) := by decide +kernel
theorem dd_106_49 : decode prog_5_method_22_code 49 = .ok (.aload_n 0, 1) := by decide +kernel
theorem dd_106_50 : decode prog_5_method_22_code 50 = .ok (.iconst 2, 1) := by decide +kernel
theorem dd_106_51 : decode prog_5_method_22_code 51 = .ok (.iload_n 1, 1) := by decide +kernel
theorem dd_106_52 : decode prog_5_method_22_code 52 = .ok (.lload 4, 2) := by decide +kernel
theorem dd_106_54 : decode prog_5_method_22_code 54 = .ok (.invokestatic 156, 3) := by decide +kernel
theorem dd_106_57 : decode prog_5_method_22_code 57 = .ok (.lload_n 2, 1) := by decide +kernel
theorem dd_106_58 : decode prog_5_method_22_code 58 = .ok (.invokestatic 156, 3) := by decide +kernel
theorem dd_106_61 : decode prog_5_method_22_code 61 = .ok (.invokestatic 195, 3) := by decide +kernel
theorem dd_106_64 : decode prog_5_method_22_code 64 = .ok (.invokestatic 188, 3) := by decide +kernel
theorem dd_106_67 : decode prog_5_method_22_code 67 = .ok (.invokevirtual 184, 3) := by decide +kernel
theorem dd_106_70 : decode prog_5_method_22_code 70 = .ok (.iconst 1, 1) := by decide +kernel
theorem dd_106_71 : decode prog_5_method_22_code 71 = .ok (.ireturn, 1) := by decide +kernel
set_option maxRecDepth 100000 in
theorem okI_106 : mj_okI gG "PairMachine$Machine" prog_5_method_22_code 6 (mj_off oM_106) (Option.some Jvm.ClassFile.FieldType.boolean) false true 0 cM_106 :=
  ⟨Or.inl ⟨0, rfl, dd_106_0, rfl⟩,
   ⟨14, "PairMachine$Machine", fT6, 10, dd_106_1, rfl, okc_6, by decide, tw_513⟩,
   Or.inl ⟨0, rfl, dd_106_4, rfl⟩,
   ⟨59, "PairMachine$Machine", fT6, 10, dd_106_5, rfl, okc_6, by decide, tw_541⟩,
   ⟨rfl, tw_633, by decide, tw_509, by decide +kernel, 149, tw_634, dd_106_8, tw_635, ⟨"PairMachine$Store", fT7, 9, rfl, tw_636⟩, by decide +kernel⟩,
   ⟨by decide, Or.inl ⟨2, rfl, dd_106_11, rfl⟩⟩,
   Or.inl ⟨0, rfl, dd_106_12, rfl⟩,
   ⟨14, "PairMachine$Machine", fT6, 10, dd_106_13, rfl, okc_6, by decide, tw_513⟩,
   Or.inl ⟨0, rfl, dd_106_16, rfl⟩,
   ⟨14, "PairMachine$Machine", fT6, 10, dd_106_17, rfl, okc_6, by decide, tw_513⟩,
   Or.inl ⟨0, rfl, dd_106_20, rfl⟩,
   ⟨59, "PairMachine$Machine", fT6, 10, dd_106_21, rfl, okc_6, by decide, tw_541⟩,
   ⟨rfl, tw_629, by decide, tw_509, by decide +kernel, 145, tw_630, dd_106_24, tw_631, ⟨"PairMachine$Store", fT7, 9, rfl, tw_632⟩, by decide +kernel⟩,
   ⟨rfl, tw_633, by decide, tw_509, by decide +kernel, 149, tw_634, dd_106_27, tw_635, ⟨"PairMachine$Store", fT7, 9, rfl, tw_636⟩, by decide +kernel⟩,
   ⟨by decide, Or.inr ⟨dd_106_30, rfl⟩⟩,
   Or.inr ⟨dd_106_32, rfl⟩,
   ⟨rfl, tw_666, by decide, tw_372, by decide +kernel, 181, tw_667, dd_106_34, tw_668, by decide +kernel⟩,
   ⟨10, dd_106_37, rfl, rfl⟩,
   Or.inl ⟨2, rfl, dd_106_40, rfl⟩,
   ⟨rfl, tw_666, by decide, tw_372, by decide +kernel, 181, tw_667, dd_106_41, tw_668, by decide +kernel⟩,
   ⟨5, dd_106_44, rfl, rfl⟩,
   Or.inl (Or.inl ⟨dd_106_47, rfl⟩),
   ⟨dd_106_48, rfl⟩,
   Or.inl ⟨0, rfl, dd_106_49, rfl⟩,
   Or.inl (Or.inl ⟨dd_106_50, rfl⟩),
   Or.inl ⟨1, rfl, dd_106_51, rfl⟩,
   Or.inr ⟨dd_106_52, rfl⟩,
   ⟨rfl, tw_641, by decide, tw_372, by decide +kernel, 156, tw_642, dd_106_54, tw_643, by decide +kernel⟩,
   Or.inl ⟨2, rfl, dd_106_57, rfl⟩,
   ⟨rfl, tw_641, by decide, tw_372, by decide +kernel, 156, tw_642, dd_106_58, tw_643, by decide +kernel⟩,
   ⟨rfl, tw_677, by decide, tw_143, by decide +kernel, 195, tw_678, dd_106_61, tw_679, by decide +kernel⟩,
   ⟨rfl, tw_379, by decide, tw_372, by decide +kernel, 188, tw_673, dd_106_64, tw_381, by decide +kernel⟩,
   ⟨rfl, tw_669, by decide, tw_143, by decide +kernel, 184, tw_670, dd_106_67, tw_671, ⟨"PairMachine$Machine", fT6, 10, rfl, tw_672⟩, by decide +kernel⟩,
   Or.inl (Or.inl ⟨dd_106_70, rfl⟩),
   ⟨dd_106_71, rfl⟩, trivial⟩
theorem okM_106 : mj_okE gG 106 (cM_106, 6, oM_106, hM_106) := ⟨rfl, rfl, by decide +kernel, trivial, okI_106⟩
theorem dd_107_0 : decode prog_5_method_23_code 0 = .ok (.iload_n 0, 1) := by decide +kernel
theorem dd_107_1 : decode prog_5_method_23_code 1 = .ok (.tableswitch 39 15 17 #[27, 31, 35], 27) := by decide +kernel
theorem dd_107_28 : decode prog_5_method_23_code 28 = .ok (.iload_n 1, 1) := by decide +kernel
theorem dd_107_29 : decode prog_5_method_23_code 29 = .ok (.iload_n 2, 1) := by decide +kernel
theorem dd_107_30 : decode prog_5_method_23_code 30 = .ok (.iadd, 1) := by decide +kernel
theorem dd_107_31 : decode prog_5_method_23_code 31 = .ok (.ireturn, 1) := by decide +kernel
theorem dd_107_32 : decode prog_5_method_23_code 32 = .ok (.iload_n 1, 1) := by decide +kernel
theorem dd_107_33 : decode prog_5_method_23_code 33 = .ok (.iload_n 2, 1) := by decide +kernel
theorem dd_107_34 : decode prog_5_method_23_code 34 = .ok (.isub, 1) := by decide +kernel
theorem dd_107_35 : decode prog_5_method_23_code 35 = .ok (.ireturn, 1) := by decide +kernel
theorem dd_107_36 : decode prog_5_method_23_code 36 = .ok (.iload_n 1, 1) := by decide +kernel
theorem dd_107_37 : decode prog_5_method_23_code 37 = .ok (.iload_n 2, 1) := by decide +kernel
theorem dd_107_38 : decode prog_5_method_23_code 38 = .ok (.imul, 1) := by decide +kernel
theorem dd_107_39 : decode prog_5_method_23_code 39 = .ok (.ireturn, 1) := by decide +kernel
theorem dd_107_40 : decode prog_5_method_23_code 40 = .ok (.iload_n 1, 1) := by decide +kernel
theorem dd_107_41 : decode prog_5_method_23_code 41 = .ok (.iload_n 2, 1) := by decide +kernel
theorem dd_107_42 : decode prog_5_method_23_code 42 = .ok (.if_icmp .ge 7, 3) := by decide +kernel
theorem dd_107_45 : decode prog_5_method_23_code 45 = .ok (.iconst 1, 1) := by decide +kernel
theorem dd_107_46 : decode prog_5_method_23_code 46 = .ok (.goto 4, 3) := by decide +kernel
theorem dd_107_49 : decode prog_5_method_23_code 49 = .ok (.iconst 0, 1) := by decide +kernel
theorem dd_107_50 : decode prog_5_method_23_code 50 = .ok (.ireturn, 1) := by decide +kernel
set_option maxRecDepth 100000 in
theorem okI_107 : mj_okI gG "PairMachine$Machine" prog_5_method_23_code 3 (mj_off oM_107) (Option.some Jvm.ClassFile.FieldType.int) false true 0 cM_107 :=
  ⟨Or.inl ⟨0, rfl, dd_107_0, rfl⟩,
   Or.inr ⟨39, 15, #[27, 31, 35], 27, dd_107_1, rfl, rfl, (fun j hj => by
    match j, hj with
    | 0, _ => exact ⟨27, 2, rfl, rfl, by decide, rfl⟩
    | 1, _ => exact ⟨31, 6, rfl, rfl, by decide, rfl⟩
    | 2, _ => exact ⟨35, 10, rfl, rfl, by decide, rfl⟩
    | j + 3, h => exact absurd h (by simp))⟩,
   Or.inl ⟨1, rfl, dd_107_28, rfl⟩,
   Or.inl ⟨2, rfl, dd_107_29, rfl⟩,
   ⟨dd_107_30, rfl⟩,
   ⟨dd_107_31, rfl⟩,
   Or.inl ⟨1, rfl, dd_107_32, rfl⟩,
   Or.inl ⟨2, rfl, dd_107_33, rfl⟩,
   ⟨dd_107_34, rfl⟩,
   ⟨dd_107_35, rfl⟩,
   Or.inl ⟨1, rfl, dd_107_36, rfl⟩,
   Or.inl ⟨2, rfl, dd_107_37, rfl⟩,
   ⟨dd_107_38, rfl⟩,
   ⟨dd_107_39, rfl⟩,
   Or.inl ⟨1, rfl, dd_107_40, rfl⟩,
   Or.inl ⟨2, rfl, dd_107_41, rfl⟩,
   ⟨7, dd_107_42, rfl, rfl⟩,
   Or.inl (Or.inl ⟨dd_107_45, rfl⟩),
   ⟨4, dd_107_46, rfl⟩,
   Or.inl (Or.inl ⟨dd_107_49, rfl⟩),
   ⟨dd_107_50, rfl⟩, trivial⟩
theorem okM_107 : mj_okE gG 107 (cM_107, 3, oM_107, hM_107) := ⟨rfl, rfl, by decide +kernel, trivial, okI_107⟩
theorem dd_108_0 : decode prog_5_method_24_code 0 = .ok (.aload_n 0, 1) := by decide +kernel
theorem dd_108_1 : decode prog_5_method_24_code 1 = .ok (.aload_n 0, 1) := by decide +kernel
theorem dd_108_2 : decode prog_5_method_24_code 2 = .ok (.getfield 14, 3) := by decide +kernel
theorem dd_108_5 : decode prog_5_method_24_code 5 = .ok (.lload_n 2, 1) := by decide +kernel
theorem dd_108_6 : decode prog_5_method_24_code 6 = .ok (.aload_n 0, 1) := by decide +kernel
theorem dd_108_7 : decode prog_5_method_24_code 7 = .ok (.getfield 14, 3) := by decide +kernel
theorem dd_108_10 : decode prog_5_method_24_code 10 = .ok (.aload_n 0, 1) := by decide +kernel
theorem dd_108_11 : decode prog_5_method_24_code 11 = .ok (.getfield 59, 3) := by decide +kernel
theorem dd_108_14 : decode prog_5_method_24_code 14 = .ok (.iload_n 1, 1) := by decide +kernel
theorem dd_108_15 : decode prog_5_method_24_code 15 = .ok (.invokevirtual 160, 3) := by decide +kernel
theorem dd_108_18 : decode prog_5_method_24_code 18 = .ok (.invokevirtual 152, 3) := by decide +kernel
theorem dd_108_21 : decode prog_5_method_24_code 21 = .ok (.putfield 59, 3) := by decide +kernel
theorem dd_108_24 : decode prog_5_method_24_code 24 = .ok (.aload_n 0, 1) := by decide +kernel
theorem dd_108_25 : decode prog_5_method_24_code 25 = .ok (.aload_n 0, 1) := by decide +kernel
theorem dd_108_26 : decode prog_5_method_24_code 26 = .ok (.getfield 14, 3) := by decide +kernel
theorem dd_108_29 : decode prog_5_method_24_code 29 = .ok (.aload_n 0, 1) := by decide +kernel
theorem dd_108_30 : decode prog_5_method_24_code 30 = .ok (.getfield 66, 3) := by decide +kernel
theorem dd_108_33 : decode prog_5_method_24_code 33 = .ok (.invokevirtual 145, 3) := by decide +kernel
theorem dd_108_36 : decode prog_5_method_24_code 36 = .ok (.putfield 66, 3) := by decide +kernel
theorem dd_108_39 : decode prog_5_method_24_code 39 = .ok (.return_, 1) := by decide +kernel
set_option maxRecDepth 100000 in
theorem okI_108 : mj_okI gG "PairMachine$Machine" prog_5_method_24_code 4 (mj_off oM_108) (Option.none : Option Jvm.ClassFile.FieldType) false true 0 cM_108 :=
  ⟨Or.inl ⟨0, rfl, dd_108_0, rfl⟩,
   Or.inl ⟨0, rfl, dd_108_1, rfl⟩,
   ⟨14, "PairMachine$Machine", fT6, 10, dd_108_2, rfl, okc_6, by decide, tw_513⟩,
   Or.inl ⟨2, rfl, dd_108_5, rfl⟩,
   Or.inl ⟨0, rfl, dd_108_6, rfl⟩,
   ⟨14, "PairMachine$Machine", fT6, 10, dd_108_7, rfl, okc_6, by decide, tw_513⟩,
   Or.inl ⟨0, rfl, dd_108_10, rfl⟩,
   ⟨59, "PairMachine$Machine", fT6, 10, dd_108_11, rfl, okc_6, by decide, tw_541⟩,
   Or.inl ⟨1, rfl, dd_108_14, rfl⟩,
   ⟨rfl, tw_644, by decide, tw_509, by decide +kernel, 160, tw_645, dd_108_15, tw_646, ⟨"PairMachine$Store", fT7, 9, rfl, tw_647⟩, by decide +kernel⟩,
   ⟨rfl, tw_637, by decide, tw_509, by decide +kernel, 152, tw_638, dd_108_18, tw_639, ⟨"PairMachine$Store", fT7, 9, rfl, tw_640⟩, by decide +kernel⟩,
   ⟨59, "PairMachine$Machine", fT6, 10, dd_108_21, rfl, okc_6, by decide, tw_541, rfl, Or.inl rfl⟩,
   Or.inl ⟨0, rfl, dd_108_24, rfl⟩,
   Or.inl ⟨0, rfl, dd_108_25, rfl⟩,
   ⟨14, "PairMachine$Machine", fT6, 10, dd_108_26, rfl, okc_6, by decide, tw_513⟩,
   Or.inl ⟨0, rfl, dd_108_29, rfl⟩,
   ⟨66, "PairMachine$Machine", fT6, 10, dd_108_30, rfl, okc_6, by decide, tw_543⟩,
   ⟨rfl, tw_629, by decide, tw_509, by decide +kernel, 145, tw_630, dd_108_33, tw_631, ⟨"PairMachine$Store", fT7, 9, rfl, tw_632⟩, by decide +kernel⟩,
   ⟨66, "PairMachine$Machine", fT6, 10, dd_108_36, rfl, okc_6, by decide, tw_543, rfl, Or.inl rfl⟩,
   ⟨dd_108_39, rfl⟩, trivial⟩
theorem okM_108 : mj_okE gG 108 (cM_108, 4, oM_108, hM_108) := ⟨rfl, rfl, by decide +kernel, trivial, okI_108⟩
theorem dd_109_0 : decode prog_5_method_25_code 0 = .ok (.aload_n 0, 1) := by decide +kernel
theorem dd_109_1 : decode prog_5_method_25_code 1 = .ok (.iconst 2, 1) := by decide +kernel
theorem dd_109_2 : decode prog_5_method_25_code 2 = .ok (.putfield 29, 3) := by decide +kernel
theorem dd_109_5 : decode prog_5_method_25_code 5 = .ok (.aload_n 0, 1) := by decide +kernel
theorem dd_109_6 : decode prog_5_method_25_code 6 = .ok (.getfield 25, 3) := by decide +kernel
theorem dd_109_9 : decode prog_5_method_25_code 9 = .ok (.aload_n 0, 1) := by decide +kernel
theorem dd_109_10 : decode prog_5_method_25_code 10 = .ok (.getfield 14, 3) := by decide +kernel
theorem dd_109_13 : decode prog_5_method_25_code 13 = .ok (.aload_n 0, 1) := by decide +kernel
theorem dd_109_14 : decode prog_5_method_25_code 14 = .ok (.getfield 59, 3) := by decide +kernel
theorem dd_109_17 : decode prog_5_method_25_code 17 = .ok (.invokevirtual 149, 3) := by decide +kernel
theorem dd_109_20 : decode prog_5_method_25_code 20 = .ok (.invokevirtual 199, 3) := by decide +kernel
theorem dd_109_23 : decode prog_5_method_25_code 23 = .ok (.iconst 1, 1) := by decide +kernel
theorem dd_109_24 : decode prog_5_method_25_code 24 = .ok (.ireturn, 1) := by decide +kernel
set_option maxRecDepth 100000 in
theorem okI_109 : mj_okI gG "PairMachine$Machine" prog_5_method_25_code 1 (mj_off oM_109) (Option.some Jvm.ClassFile.FieldType.boolean) false true 0 cM_109 :=
  ⟨Or.inl ⟨0, rfl, dd_109_0, rfl⟩,
   Or.inl (Or.inl ⟨dd_109_1, rfl⟩),
   ⟨29, "PairMachine$Machine", fT6, 10, dd_109_2, rfl, okc_6, by decide, tw_521, rfl, Or.inl rfl⟩,
   Or.inl ⟨0, rfl, dd_109_5, rfl⟩,
   ⟨25, "PairMachine$Machine", fT6, 10, dd_109_6, rfl, okc_6, by decide, tw_520⟩,
   Or.inl ⟨0, rfl, dd_109_9, rfl⟩,
   ⟨14, "PairMachine$Machine", fT6, 10, dd_109_10, rfl, okc_6, by decide, tw_513⟩,
   Or.inl ⟨0, rfl, dd_109_13, rfl⟩,
   ⟨59, "PairMachine$Machine", fT6, 10, dd_109_14, rfl, okc_6, by decide, tw_541⟩,
   ⟨rfl, tw_633, by decide, tw_509, by decide +kernel, 149, tw_634, dd_109_17, tw_635, ⟨"PairMachine$Store", fT7, 9, rfl, tw_636⟩, by decide +kernel⟩,
   ⟨rfl, tw_680, by decide, tw_516, by decide +kernel, 199, tw_681, dd_109_20, tw_682, ⟨"PairMachine$Display", fT8, 4, rfl, tw_683⟩, by decide +kernel⟩,
   Or.inl (Or.inl ⟨dd_109_23, rfl⟩),
   ⟨dd_109_24, rfl⟩, trivial⟩
theorem okM_109 : mj_okE gG 109 (cM_109, 1, oM_109, hM_109) := ⟨rfl, rfl, by decide +kernel, trivial, okI_109⟩
theorem dd_110_0 : decode prog_5_method_26_code 0 = .ok (.aload_n 0, 1) := by decide +kernel
theorem dd_110_1 : decode prog_5_method_26_code 1 = .ok (.getfield 14, 3) := by decide +kernel
theorem dd_110_4 : decode prog_5_method_26_code 4 = .ok (.aload_n 0, 1) := by decide +kernel
theorem dd_110_5 : decode prog_5_method_26_code 5 = .ok (.getfield 66, 3) := by decide +kernel
theorem dd_110_8 : decode prog_5_method_26_code 8 = .ok (.invokevirtual 149, 3) := by decide +kernel
theorem dd_110_11 : decode prog_5_method_26_code 11 = .ok (.invokestatic 156, 3) := by decide +kernel
theorem dd_110_14 : decode prog_5_method_26_code 14 = .ok (.ireturn, 1) := by decide +kernel
set_option maxRecDepth 100000 in
theorem okI_110 : mj_okI gG "PairMachine$Machine" prog_5_method_26_code 1 (mj_off oM_110) (Option.some Jvm.ClassFile.FieldType.int) false true 0 cM_110 :=
  ⟨Or.inl ⟨0, rfl, dd_110_0, rfl⟩,
   ⟨14, "PairMachine$Machine", fT6, 10, dd_110_1, rfl, okc_6, by decide, tw_513⟩,
   Or.inl ⟨0, rfl, dd_110_4, rfl⟩,
   ⟨66, "PairMachine$Machine", fT6, 10, dd_110_5, rfl, okc_6, by decide, tw_543⟩,
   ⟨rfl, tw_633, by decide, tw_509, by decide +kernel, 149, tw_634, dd_110_8, tw_635, ⟨"PairMachine$Store", fT7, 9, rfl, tw_636⟩, by decide +kernel⟩,
   ⟨rfl, tw_641, by decide, tw_372, by decide +kernel, 156, tw_642, dd_110_11, tw_643, by decide +kernel⟩,
   ⟨dd_110_14, rfl⟩, trivial⟩
theorem okM_110 : mj_okE gG 110 (cM_110, 1, oM_110, hM_110) := ⟨rfl, rfl, by decide +kernel, trivial, okI_110⟩
theorem dd_111_0 : decode prog_5_method_27_code 0 = .ok (.aload_n 0, 1) := by decide +kernel
theorem dd_111_1 : decode prog_5_method_27_code 1 = .ok (.getfield 29, 3) := by decide +kernel
theorem dd_111_4 : decode prog_5_method_27_code 4 = .ok (.ireturn, 1) := by decide +kernel
set_option maxRecDepth 100000 in
theorem okI_111 : mj_okI gG "PairMachine$Machine" prog_5_method_27_code 1 (mj_off oM_111) (Option.some Jvm.ClassFile.FieldType.int) false true 0 cM_111 :=
  ⟨Or.inl ⟨0, rfl, dd_111_0, rfl⟩,
   ⟨29, "PairMachine$Machine", fT6, 10, dd_111_1, rfl, okc_6, by decide, tw_521⟩,
   ⟨dd_111_4, rfl⟩, trivial⟩
theorem okM_111 : mj_okE gG 111 (cM_111, 1, oM_111, hM_111) := ⟨rfl, rfl, by decide +kernel, trivial, okI_111⟩
theorem dd_112_0 : decode prog_5_method_28_code 0 = .ok (.aload_n 0, 1) := by decide +kernel
theorem dd_112_1 : decode prog_5_method_28_code 1 = .ok (.getfield 14, 3) := by decide +kernel
theorem dd_112_4 : decode prog_5_method_28_code 4 = .ok (.invokevirtual 202, 3) := by decide +kernel
theorem dd_112_7 : decode prog_5_method_28_code 7 = .ok (.ireturn, 1) := by decide +kernel
set_option maxRecDepth 100000 in
theorem okI_112 : mj_okI gG "PairMachine$Machine" prog_5_method_28_code 1 (mj_off oM_112) (Option.some Jvm.ClassFile.FieldType.int) false true 0 cM_112 :=
  ⟨Or.inl ⟨0, rfl, dd_112_0, rfl⟩,
   ⟨14, "PairMachine$Machine", fT6, 10, dd_112_1, rfl, okc_6, by decide, tw_513⟩,
   ⟨rfl, tw_684, by decide, tw_509, by decide +kernel, 202, tw_685, dd_112_4, tw_686, ⟨"PairMachine$Store", fT7, 9, rfl, tw_687⟩, by decide +kernel⟩,
   ⟨dd_112_7, rfl⟩, trivial⟩
theorem okM_112 : mj_okE gG 112 (cM_112, 1, oM_112, hM_112) := ⟨rfl, rfl, by decide +kernel, trivial, okI_112⟩
theorem dd_113_0 : decode prog_5_method_29_code 0 = .ok (.aload_n 0, 1) := by decide +kernel
theorem dd_113_1 : decode prog_5_method_29_code 1 = .ok (.getfield 14, 3) := by decide +kernel
theorem dd_113_4 : decode prog_5_method_29_code 4 = .ok (.aload_n 0, 1) := by decide +kernel
theorem dd_113_5 : decode prog_5_method_29_code 5 = .ok (.getfield 59, 3) := by decide +kernel
theorem dd_113_8 : decode prog_5_method_29_code 8 = .ok (.aload_n 0, 1) := by decide +kernel
theorem dd_113_9 : decode prog_5_method_29_code 9 = .ok (.getfield 63, 3) := by decide +kernel
theorem dd_113_12 : decode prog_5_method_29_code 12 = .ok (.aload_n 0, 1) := by decide +kernel
theorem dd_113_13 : decode prog_5_method_29_code 13 = .ok (.getfield 66, 3) := by decide +kernel
theorem dd_113_16 : decode prog_5_method_29_code 16 = .ok (.aload_n 0, 1) := by decide +kernel
theorem dd_113_17 : decode prog_5_method_29_code 17 = .ok (.getfield 69, 3) := by decide +kernel
theorem dd_113_20 : decode prog_5_method_29_code 20 = .ok (.invokevirtual 92, 3) := by decide +kernel
theorem dd_113_23 : decode prog_5_method_29_code 23 = .ok (.ireturn, 1) := by decide +kernel
set_option maxRecDepth 100000 in
theorem okI_113 : mj_okI gG "PairMachine$Machine" prog_5_method_29_code 1 (mj_off oM_113) (Option.some Jvm.ClassFile.FieldType.int) false true 0 cM_113 :=
  ⟨Or.inl ⟨0, rfl, dd_113_0, rfl⟩,
   ⟨14, "PairMachine$Machine", fT6, 10, dd_113_1, rfl, okc_6, by decide, tw_513⟩,
   Or.inl ⟨0, rfl, dd_113_4, rfl⟩,
   ⟨59, "PairMachine$Machine", fT6, 10, dd_113_5, rfl, okc_6, by decide, tw_541⟩,
   Or.inl ⟨0, rfl, dd_113_8, rfl⟩,
   ⟨63, "PairMachine$Machine", fT6, 10, dd_113_9, rfl, okc_6, by decide, tw_542⟩,
   Or.inl ⟨0, rfl, dd_113_12, rfl⟩,
   ⟨66, "PairMachine$Machine", fT6, 10, dd_113_13, rfl, okc_6, by decide, tw_543⟩,
   Or.inl ⟨0, rfl, dd_113_16, rfl⟩,
   ⟨69, "PairMachine$Machine", fT6, 10, dd_113_17, rfl, okc_6, by decide, tw_544⟩,
   ⟨rfl, tw_561, by decide, tw_509, by decide +kernel, 92, tw_562, dd_113_20, tw_563, ⟨"PairMachine$Store", fT7, 9, rfl, tw_564⟩, by decide +kernel⟩,
   ⟨dd_113_23, rfl⟩, trivial⟩
theorem okM_113 : mj_okE gG 113 (cM_113, 1, oM_113, hM_113) := ⟨rfl, rfl, by decide +kernel, trivial, okI_113⟩
theorem dd_114_0 : decode prog_5_method_30_code 0 = .ok (.aload_n 0, 1) := by decide +kernel
theorem dd_114_1 : decode prog_5_method_30_code 1 = .ok (.getfield 50, 3) := by decide +kernel
theorem dd_114_4 : decode prog_5_method_30_code 4 = .ok (.ireturn, 1) := by decide +kernel
set_option maxRecDepth 100000 in
theorem okI_114 : mj_okI gG "PairMachine$Machine" prog_5_method_30_code 1 (mj_off oM_114) (Option.some Jvm.ClassFile.FieldType.int) false true 0 cM_114 :=
  ⟨Or.inl ⟨0, rfl, dd_114_0, rfl⟩,
   ⟨50, "PairMachine$Machine", fT6, 10, dd_114_1, rfl, okc_6, by decide, tw_538⟩,
   ⟨dd_114_4, rfl⟩, trivial⟩
theorem okM_114 : mj_okE gG 114 (cM_114, 1, oM_114, hM_114) := ⟨rfl, rfl, by decide +kernel, trivial, okI_114⟩
theorem dd_115_0 : decode prog_5_method_31_code 0 = .ok (.aload_n 0, 1) := by decide +kernel
theorem dd_115_1 : decode prog_5_method_31_code 1 = .ok (.getfield 53, 3) := by decide +kernel
theorem dd_115_4 : decode prog_5_method_31_code 4 = .ok (.ireturn, 1) := by decide +kernel
set_option maxRecDepth 100000 in
theorem okI_115 : mj_okI gG "PairMachine$Machine" prog_5_method_31_code 1 (mj_off oM_115) (Option.some Jvm.ClassFile.FieldType.int) false true 0 cM_115 :=
  ⟨Or.inl ⟨0, rfl, dd_115_0, rfl⟩,
   ⟨53, "PairMachine$Machine", fT6, 10, dd_115_1, rfl, okc_6, by decide, tw_539⟩,
   ⟨dd_115_4, rfl⟩, trivial⟩
theorem okM_115 : mj_okE gG 115 (cM_115, 1, oM_115, hM_115) := ⟨rfl, rfl, by decide +kernel, trivial, okI_115⟩
theorem dd_116_0 : decode prog_5_method_32_code 0 = .ok (.aload_n 0, 1) := by decide +kernel
theorem dd_116_1 : decode prog_5_method_32_code 1 = .ok (.getfield 56, 3) := by decide +kernel
theorem dd_116_4 : decode prog_5_method_32_code 4 = .ok (.ireturn, 1) := by decide +kernel
set_option maxRecDepth 100000 in
theorem okI_116 : mj_okI gG "PairMachine$Machine" prog_5_method_32_code 1 (mj_off oM_116) (Option.some Jvm.ClassFile.FieldType.int) false true 0 cM_116 :=
  ⟨Or.inl ⟨0, rfl, dd_116_0, rfl⟩,
   ⟨56, "PairMachine$Machine", fT6, 10, dd_116_1, rfl, okc_6, by decide, tw_540⟩,
   ⟨dd_116_4, rfl⟩, trivial⟩
theorem okM_116 : mj_okE gG 116 (cM_116, 1, oM_116, hM_116) := ⟨rfl, rfl, by decide +kernel, trivial, okI_116⟩
theorem dd_117_0 : decode prog_5_method_33_code 0 = .ok (.aload_n 0, 1) := by decide +kernel
theorem dd_117_1 : decode prog_5_method_33_code 1 = .ok (.getfield 14, 3) := by decide +kernel
theorem dd_117_4 : decode prog_5_method_33_code 4 = .ok (.aload_n 0, 1) := by decide +kernel
theorem dd_117_5 : decode prog_5_method_33_code 5 = .ok (.getfield 59, 3) := by decide +kernel
theorem dd_117_8 : decode prog_5_method_33_code 8 = .ok (.invokevirtual 205, 3) := by decide +kernel
theorem dd_117_11 : decode prog_5_method_33_code 11 = .ok (.ireturn, 1) := by decide +kernel
set_option maxRecDepth 100000 in
theorem okI_117 : mj_okI gG "PairMachine$Machine" prog_5_method_33_code 1 (mj_off oM_117) (Option.some Jvm.ClassFile.FieldType.int) false true 0 cM_117 :=
  ⟨Or.inl ⟨0, rfl, dd_117_0, rfl⟩,
   ⟨14, "PairMachine$Machine", fT6, 10, dd_117_1, rfl, okc_6, by decide, tw_513⟩,
   Or.inl ⟨0, rfl, dd_117_4, rfl⟩,
   ⟨59, "PairMachine$Machine", fT6, 10, dd_117_5, rfl, okc_6, by decide, tw_541⟩,
   ⟨rfl, tw_688, by decide, tw_509, by decide +kernel, 205, tw_689, dd_117_8, tw_690, ⟨"PairMachine$Store", fT7, 9, rfl, tw_691⟩, by decide +kernel⟩,
   ⟨dd_117_11, rfl⟩, trivial⟩
theorem okM_117 : mj_okE gG 117 (cM_117, 1, oM_117, hM_117) := ⟨rfl, rfl, by decide +kernel, trivial, okI_117⟩
theorem dd_118_0 : decode prog_5_method_34_code 0 = .ok (.aload_n 0, 1) := by decide +kernel
theorem dd_118_1 : decode prog_5_method_34_code 1 = .ok (.getfield 14, 3) := by decide +kernel
theorem dd_118_4 : decode prog_5_method_34_code 4 = .ok (.aload_n 0, 1) := by decide +kernel
theorem dd_118_5 : decode prog_5_method_34_code 5 = .ok (.getfield 69, 3) := by decide +kernel
theorem dd_118_8 : decode prog_5_method_34_code 8 = .ok (.invokevirtual 205, 3) := by decide +kernel
theorem dd_118_11 : decode prog_5_method_34_code 11 = .ok (.ireturn, 1) := by decide +kernel
set_option maxRecDepth 100000 in
theorem okI_118 : mj_okI gG "PairMachine$Machine" prog_5_method_34_code 1 (mj_off oM_118) (Option.some Jvm.ClassFile.FieldType.int) false true 0 cM_118 :=
  ⟨Or.inl ⟨0, rfl, dd_118_0, rfl⟩,
   ⟨14, "PairMachine$Machine", fT6, 10, dd_118_1, rfl, okc_6, by decide, tw_513⟩,
   Or.inl ⟨0, rfl, dd_118_4, rfl⟩,
   ⟨69, "PairMachine$Machine", fT6, 10, dd_118_5, rfl, okc_6, by decide, tw_544⟩,
   ⟨rfl, tw_688, by decide, tw_509, by decide +kernel, 205, tw_689, dd_118_8, tw_690, ⟨"PairMachine$Store", fT7, 9, rfl, tw_691⟩, by decide +kernel⟩,
   ⟨dd_118_11, rfl⟩, trivial⟩
theorem okM_118 : mj_okE gG 118 (cM_118, 1, oM_118, hM_118) := ⟨rfl, rfl, by decide +kernel, trivial, okI_118⟩
theorem dd_119_0 : decode prog_5_method_35_code 0 = .ok (.aload_n 0, 1) := by decide +kernel
theorem dd_119_1 : decode prog_5_method_35_code 1 = .ok (.getfield 25, 3) := by decide +kernel
theorem dd_119_4 : decode prog_5_method_35_code 4 = .ok (.iload_n 1, 1) := by decide +kernel
theorem dd_119_5 : decode prog_5_method_35_code 5 = .ok (.invokevirtual 208, 3) := by decide +kernel
theorem dd_119_8 : decode prog_5_method_35_code 8 = .ok (.ireturn, 1) := by decide +kernel
set_option maxRecDepth 100000 in
theorem okI_119 : mj_okI gG "PairMachine$Machine" prog_5_method_35_code 2 (mj_off oM_119) (Option.some Jvm.ClassFile.FieldType.int) false true 0 cM_119 :=
  ⟨Or.inl ⟨0, rfl, dd_119_0, rfl⟩,
   ⟨25, "PairMachine$Machine", fT6, 10, dd_119_1, rfl, okc_6, by decide, tw_520⟩,
   Or.inl ⟨1, rfl, dd_119_4, rfl⟩,
   ⟨rfl, tw_692, by decide, tw_516, by decide +kernel, 208, tw_693, dd_119_5, tw_694, ⟨"PairMachine$Display", fT8, 4, rfl, tw_695⟩, by decide +kernel⟩,
   ⟨dd_119_8, rfl⟩, trivial⟩
theorem okM_119 : mj_okE gG 119 (cM_119, 2, oM_119, hM_119) := ⟨rfl, rfl, by decide +kernel, trivial, okI_119⟩
theorem dd_120_0 : decode prog_8_method_1_code 0 = .ok (.aload_n 0, 1) := by decide +kernel
theorem dd_120_1 : decode prog_8_method_1_code 1 = .ok (.invokespecial 3, 3) := by decide +kernel
theorem dd_120_4 : decode prog_8_method_1_code 4 = .ok (.aload_n 0, 1) := by decide +kernel
theorem dd_120_5 : decode prog_8_method_1_code 5 = .ok (.iload_n 1, 1) := by decide +kernel
theorem dd_120_6 : decode prog_8_method_1_code 6 = .ok (.putfield 9, 3) := by decide +kernel
theorem dd_120_9 : decode prog_8_method_1_code 9 = .ok (.aload_n 0, 1) := by decide +kernel
theorem dd_120_10 : decode prog_8_method_1_code 10 = .ok (.iload_n 1, 1) := by decide +kernel
theorem dd_120_11 : decode prog_8_method_1_code 11 = .ok (.newarray .long, 2) := by decide +kernel
theorem dd_120_13 : decode prog_8_method_1_code 13 = .ok (.putfield 15, 3) := by decide +kernel
theorem dd_120_16 : decode prog_8_method_1_code 16 = .ok (.aload_n 0, 1) := by decide +kernel
theorem dd_120_17 : decode prog_8_method_1_code 17 = .ok (.iload_n 1, 1) := by decide +kernel
theorem dd_120_18 : decode prog_8_method_1_code 18 = .ok (.newarray .long, 2) := by decide +kernel
theorem dd_120_20 : decode prog_8_method_1_code 20 = .ok (.putfield 19, 3) := by decide +kernel
theorem dd_120_23 : decode prog_8_method_1_code 23 = .ok (.aload_n 0, 1) := by decide +kernel
theorem dd_120_24 : decode prog_8_method_1_code 24 = .ok (.iload_n 1, 1) := by decide +kernel
theorem dd_120_25 : decode prog_8_method_1_code 25 = .ok (.newarray .int, 2) := by decide +kernel
theorem dd_120_27 : decode prog_8_method_1_code 27 = .ok (.putfield 22, 3) := by decide +kernel
theorem dd_120_30 : decode prog_8_method_1_code 30 = .ok (.aload_n 0, 1) := by decide +kernel
theorem dd_120_31 : decode prog_8_method_1_code 31 = .ok (.iload_n 1, 1) := by decide +kernel
theorem dd_120_32 : decode prog_8_method_1_code 32 = .ok (.newarray .boolean, 2) := by decide +kernel
theorem dd_120_34 : decode prog_8_method_1_code 34 = .ok (.putfield 26, 3) := by decide +kernel
theorem dd_120_37 : decode prog_8_method_1_code 37 = .ok (.aload_n 0, 1) := by decide +kernel
theorem dd_120_38 : decode prog_8_method_1_code 38 = .ok (.iload_n 1, 1) := by decide +kernel
theorem dd_120_39 : decode prog_8_method_1_code 39 = .ok (.newarray .int, 2) := by decide +kernel
theorem dd_120_41 : decode prog_8_method_1_code 41 = .ok (.putfield 30, 3) := by decide +kernel
theorem dd_120_44 : decode prog_8_method_1_code 44 = .ok (.iconst 0, 1) := by decide +kernel
theorem dd_120_45 : decode prog_8_method_1_code 45 = .ok (.istore_n 2, 1) := by decide +kernel
theorem dd_120_46 : decode prog_8_method_1_code 46 = .ok (.iload_n 2, 1) := by decide +kernel
theorem dd_120_47 : decode prog_8_method_1_code 47 = .ok (.iload_n 1, 1) := by decide +kernel
theorem dd_120_48 : decode prog_8_method_1_code 48 = .ok (.if_icmp .ge 16, 3) := by decide +kernel
theorem dd_120_51 : decode prog_8_method_1_code 51 = .ok (.aload_n 0, 1) := by decide +kernel
theorem dd_120_52 : decode prog_8_method_1_code 52 = .ok (.getfield 22, 3) := by decide +kernel
theorem dd_120_55 : decode prog_8_method_1_code 55 = .ok (.iload_n 2, 1) := by decide +kernel
theorem dd_120_56 : decode prog_8_method_1_code 56 = .ok (.iload_n 2, 1) := by decide +kernel
theorem dd_120_57 : decode prog_8_method_1_code 57 = .ok (.iastore, 1) := by decide +kernel
theorem dd_120_58 : decode prog_8_method_1_code 58 = .ok (.iinc 2 1, 3) := by decide +kernel
theorem dd_120_61 : decode prog_8_method_1_code 61 = .ok (.goto (-15), 3) := by decide +kernel
theorem dd_120_64 : decode prog_8_method_1_code 64 = .ok (.aload_n 0, 1) := by decide +kernel
theorem dd_120_65 : decode prog_8_method_1_code 65 = .ok (.iload_n 1, 1) := by decide +kernel
theorem dd_120_66 : decode prog_8_method_1_code 66 = .ok (.putfield 33, 3) := by decide +kernel
theorem dd_120_69 : decode prog_8_method_1_code 69 = .ok (.return_, 1) := by decide +kernel
set_option maxRecDepth 100000 in
theorem okI_120 : mj_okI gG "PairMachine$Store" prog_8_method_1_code 3 (mj_off oM_120) (Option.none : Option Jvm.ClassFile.FieldType) true true 0 cM_120 :=
  ⟨Or.inl ⟨0, rfl, dd_120_0, rfl⟩,
   ⟨3, dd_120_1, rfl, tw_696, tw_97, tw_98⟩,
   Or.inl ⟨0, rfl, dd_120_4, rfl⟩,
   Or.inl ⟨1, rfl, dd_120_5, rfl⟩,
   ⟨9, "PairMachine$Store", fT7, 9, dd_120_6, rfl, okc_7, by decide, tw_697, rfl, Or.inr ⟨rfl, by decide, rfl⟩⟩,
   Or.inl ⟨0, rfl, dd_120_9, rfl⟩,
   Or.inl ⟨1, rfl, dd_120_10, rfl⟩,
   ⟨dd_120_11, rfl, tw_16⟩,
   ⟨15, "PairMachine$Store", fT7, 9, dd_120_13, rfl, okc_7, by decide, tw_698, Or.inr ⟨_, rfl⟩, Or.inr ⟨rfl, by decide, rfl⟩⟩,
   Or.inl ⟨0, rfl, dd_120_16, rfl⟩,
   Or.inl ⟨1, rfl, dd_120_17, rfl⟩,
   ⟨dd_120_18, rfl, tw_16⟩,
   ⟨19, "PairMachine$Store", fT7, 9, dd_120_20, rfl, okc_7, by decide, tw_699, Or.inr ⟨_, rfl⟩, Or.inr ⟨rfl, by decide, rfl⟩⟩,
   Or.inl ⟨0, rfl, dd_120_23, rfl⟩,
   Or.inl ⟨1, rfl, dd_120_24, rfl⟩,
   ⟨dd_120_25, rfl, tw_232⟩,
   ⟨22, "PairMachine$Store", fT7, 9, dd_120_27, rfl, okc_7, by decide, tw_700, Or.inr ⟨_, rfl⟩, Or.inr ⟨rfl, by decide, rfl⟩⟩,
   Or.inl ⟨0, rfl, dd_120_30, rfl⟩,
   Or.inl ⟨1, rfl, dd_120_31, rfl⟩,
   ⟨dd_120_32, rfl, tw_701⟩,
   ⟨26, "PairMachine$Store", fT7, 9, dd_120_34, rfl, okc_7, by decide, tw_702, Or.inr ⟨_, rfl⟩, Or.inr ⟨rfl, by decide, rfl⟩⟩,
   Or.inl ⟨0, rfl, dd_120_37, rfl⟩,
   Or.inl ⟨1, rfl, dd_120_38, rfl⟩,
   ⟨dd_120_39, rfl, tw_232⟩,
   ⟨30, "PairMachine$Store", fT7, 9, dd_120_41, rfl, okc_7, by decide, tw_703, Or.inr ⟨_, rfl⟩, Or.inr ⟨rfl, by decide, rfl⟩⟩,
   Or.inl (Or.inl ⟨dd_120_44, rfl⟩),
   ⟨by decide, Or.inl ⟨2, rfl, dd_120_45, rfl⟩⟩,
   Or.inl ⟨2, rfl, dd_120_46, rfl⟩,
   Or.inl ⟨1, rfl, dd_120_47, rfl⟩,
   ⟨16, dd_120_48, rfl, rfl⟩,
   Or.inl ⟨0, rfl, dd_120_51, rfl⟩,
   ⟨22, "PairMachine$Store", fT7, 9, dd_120_52, rfl, okc_7, by decide, tw_700⟩,
   Or.inl ⟨2, rfl, dd_120_55, rfl⟩,
   Or.inl ⟨2, rfl, dd_120_56, rfl⟩,
   ⟨dd_120_57, rfl⟩,
   ⟨by decide, dd_120_58, rfl⟩,
   ⟨(-15), dd_120_61, rfl⟩,
   Or.inl ⟨0, rfl, dd_120_64, rfl⟩,
   Or.inl ⟨1, rfl, dd_120_65, rfl⟩,
   ⟨33, "PairMachine$Store", fT7, 9, dd_120_66, rfl, okc_7, by decide, tw_704, rfl, Or.inl rfl⟩,
   ⟨dd_120_69, rfl⟩, trivial⟩
theorem okM_120 : mj_okE gG 120 (cM_120, 3, oM_120, hM_120) := ⟨rfl, rfl, by decide +kernel, trivial, okI_120⟩
end
