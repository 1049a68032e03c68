section
theorem dd_75_0 : decode prog_3_method_12_code 0 = .ok (.aload_n 0, 1) := by decide +kernel
theorem dd_75_1 : decode prog_3_method_12_code 1 = .ok (.aload_n 0, 1) := by decide +kernel
theorem dd_75_2 : decode prog_3_method_12_code 2 = .ok (.getfield 9, 3) := by decide +kernel
theorem dd_75_5 : decode prog_3_method_12_code 5 = .ok (.iload_n 1, 1) := by decide +kernel
theorem dd_75_6 : decode prog_3_method_12_code 6 = .ok (.iconst 0, 1) := by decide +kernel
theorem dd_75_7 : decode prog_3_method_12_code 7 = .ok (.invokevirtual 124, 3) := by decide +kernel
theorem dd_75_10 : decode prog_3_method_12_code 10 = .ok (.iload_n 2, 1) := by decide +kernel
theorem dd_75_11 : decode prog_3_method_12_code 11 = .ok (.iconst 1, 1) := by decide +kernel
theorem dd_75_12 : decode prog_3_method_12_code 12 = .ok (.iadd, 1) := by decide +kernel
theorem dd_75_13 : decode prog_3_method_12_code 13 = .ok (.invokevirtual 37, 3) := by decide +kernel
theorem dd_75_16 : decode prog_3_method_12_code 16 = .ok (.aload_n 0, 1) := by decide +kernel
theorem dd_75_17 : decode prog_3_method_12_code 17 = .ok (.getfield 15, 3) := by decide +kernel
theorem dd_75_20 : decode prog_3_method_12_code 20 = .ok (.bipush 8, 2) := by decide +kernel
theorem dd_75_22 : decode prog_3_method_12_code 22 = .ok (.invokevirtual 43, 3) := by decide +kernel
theorem dd_75_25 : decode prog_3_method_12_code 25 = .ok (.aload_n 0, 1) := by decide +kernel
theorem dd_75_26 : decode prog_3_method_12_code 26 = .ok (.aload_n 0, 1) := by decide +kernel
theorem dd_75_27 : decode prog_3_method_12_code 27 = .ok (.getfield 9, 3) := by decide +kernel
theorem dd_75_30 : decode prog_3_method_12_code 30 = .ok (.iload_n 1, 1) := by decide +kernel
theorem dd_75_31 : decode prog_3_method_12_code 31 = .ok (.iconst 1, 1) := by decide +kernel
theorem dd_75_32 : decode prog_3_method_12_code 32 = .ok (.invokevirtual 124, 3) := by decide +kernel
theorem dd_75_35 : decode prog_3_method_12_code 35 = .ok (.bipush 9, 2) := by decide +kernel
theorem dd_75_37 : decode prog_3_method_12_code 37 = .ok (.iload_n 2, 1) := by decide +kernel
theorem dd_75_38 : decode prog_3_method_12_code 38 = .ok (.invokevirtual 127, 3) := by decide +kernel
theorem dd_75_41 : decode prog_3_method_12_code 41 = .ok (.aload_n 0, 1) := by decide +kernel
theorem dd_75_42 : decode prog_3_method_12_code 42 = .ok (.aload_n 0, 1) := by decide +kernel
theorem dd_75_43 : decode prog_3_method_12_code 43 = .ok (.getfield 9, 3) := by decide +kernel
theorem dd_75_46 : decode prog_3_method_12_code 46 = .ok (.iload_n 1, 1) := by decide +kernel
theorem dd_75_47 : decode prog_3_method_12_code 47 = .ok (.iconst 2, 1) := by decide +kernel
theorem dd_75_48 : decode prog_3_method_12_code 48 = .ok (.invokevirtual 124, 3) := by decide +kernel
theorem dd_75_51 : decode prog_3_method_12_code 51 = .ok (.bipush 9, 2) := by decide +kernel
theorem dd_75_53 : decode prog_3_method_12_code 53 = .ok (.iload_n 2, 1) := by decide +kernel
theorem dd_75_54 : decode prog_3_method_12_code 54 = .ok (.invokevirtual 127, 3) := by decide +kernel
theorem dd_75_57 : decode prog_3_method_12_code 57 = .ok (.return_, 1) := by decide +kernel
set_option maxRecDepth 100000 in
theorem okI_75 : mj_okI gG "PairMachine$Coder" prog_3_method_12_code 3 (mj_off oM_75) (Option.none : Option Jvm.ClassFile.FieldType) false true 0 cM_75 :=
  ⟨Or.inl ⟨0, rfl, dd_75_0, rfl⟩,
   Or.inl ⟨0, rfl, dd_75_1, rfl⟩,
   ⟨9, "PairMachine$Coder", fT5, 5, dd_75_2, rfl, okc_5, by decide, tw_387⟩,
   Or.inl ⟨1, rfl, dd_75_5, rfl⟩,
   Or.inl (Or.inl ⟨dd_75_6, rfl⟩),
   ⟨rfl, tw_343, by decide, tw_109, by decide +kernel, 124, tw_477, dd_75_7, tw_345, ⟨"PairMachine$Tree", fT2, 7, rfl, tw_346⟩, by decide +kernel⟩,
   Or.inl ⟨2, rfl, dd_75_10, rfl⟩,
   Or.inl (Or.inl ⟨dd_75_11, rfl⟩),
   ⟨dd_75_12, rfl⟩,
   ⟨rfl, tw_396, by decide, tw_136, by decide +kernel, 37, tw_397, dd_75_13, tw_398, ⟨"PairMachine$Coder", fT5, 5, rfl, tw_399⟩, by decide +kernel⟩,
   Or.inl ⟨0, rfl, dd_75_16, rfl⟩,
   ⟨15, "PairMachine$Coder", fT5, 5, dd_75_17, rfl, okc_5, by decide, tw_388⟩,
   Or.inl (Or.inr (Or.inl ⟨dd_75_20, rfl, by decide⟩)),
   ⟨rfl, tw_400, by decide, tw_129, by decide +kernel, 43, tw_401, dd_75_22, tw_402, ⟨"PairMachine$Code", fT4, 5, rfl, tw_403⟩, by decide +kernel⟩,
   Or.inl ⟨0, rfl, dd_75_25, rfl⟩,
   Or.inl ⟨0, rfl, dd_75_26, rfl⟩,
   ⟨9, "PairMachine$Coder", fT5, 5, dd_75_27, rfl, okc_5, by decide, tw_387⟩,
   Or.inl ⟨1, rfl, dd_75_30, rfl⟩,
   Or.inl (Or.inl ⟨dd_75_31, rfl⟩),
   ⟨rfl, tw_343, by decide, tw_109, by decide +kernel, 124, tw_477, dd_75_32, tw_345, ⟨"PairMachine$Tree", fT2, 7, rfl, tw_346⟩, by decide +kernel⟩,
   Or.inl (Or.inr (Or.inl ⟨dd_75_35, rfl, by decide⟩)),
   Or.inl ⟨2, rfl, dd_75_37, rfl⟩,
   ⟨rfl, tw_478, by decide, tw_136, by decide +kernel, 127, tw_479, dd_75_38, tw_480, ⟨"PairMachine$Coder", fT5, 5, rfl, tw_481⟩, by decide +kernel⟩,
   Or.inl ⟨0, rfl, dd_75_41, rfl⟩,
   Or.inl ⟨0, rfl, dd_75_42, rfl⟩,
   ⟨9, "PairMachine$Coder", fT5, 5, dd_75_43, rfl, okc_5, by decide, tw_387⟩,
   Or.inl ⟨1, rfl, dd_75_46, rfl⟩,
   Or.inl (Or.inl ⟨dd_75_47, rfl⟩),
   ⟨rfl, tw_343, by decide, tw_109, by decide +kernel, 124, tw_477, dd_75_48, tw_345, ⟨"PairMachine$Tree", fT2, 7, rfl, tw_346⟩, by decide +kernel⟩,
   Or.inl (Or.inr (Or.inl ⟨dd_75_51, rfl, by decide⟩)),
   Or.inl ⟨2, rfl, dd_75_53, rfl⟩,
   ⟨rfl, tw_478, by decide, tw_136, by decide +kernel, 127, tw_479, dd_75_54, tw_480, ⟨"PairMachine$Coder", fT5, 5, rfl, tw_481⟩, by decide +kernel⟩,
   ⟨dd_75_57, rfl⟩, trivial⟩
theorem okM_75 : mj_okE gG 75 (cM_75, 3, oM_75, hM_75) := ⟨rfl, rfl, by decide +kernel, trivial, okI_75⟩
theorem dd_76_0 : decode prog_3_method_13_code 0 = .ok (.aload_n 0, 1) := by decide +kernel
theorem dd_76_1 : decode prog_3_method_13_code 1 = .ok (.getfield 15, 3) := by decide +kernel
theorem dd_76_4 : decode prog_3_method_13_code 4 = .ok (.invokevirtual 94, 3) := by decide +kernel
theorem dd_76_7 : decode prog_3_method_13_code 7 = .ok (.istore 4, 2) := by decide +kernel
theorem dd_76_9 : decode prog_3_method_13_code 9 = .ok (.aload_n 0, 1) := by decide +kernel
theorem dd_76_10 : decode prog_3_method_13_code 10 = .ok (.iload_n 1, 1) := by decide +kernel
theorem dd_76_11 : decode prog_3_method_13_code 11 = .ok (.iload_n 3, 1) := by decide +kernel
theorem dd_76_12 : decode prog_3_method_13_code 12 = .ok (.iconst 1, 1) := by decide +kernel
theorem dd_76_13 : decode prog_3_method_13_code 13 = .ok (.iadd, 1) := by decide +kernel
theorem dd_76_14 : decode prog_3_method_13_code 14 = .ok (.invokevirtual 37, 3) := by decide +kernel
theorem dd_76_17 : decode prog_3_method_13_code 17 = .ok (.aload_n 0, 1) := by decide +kernel
theorem dd_76_18 : decode prog_3_method_13_code 18 = .ok (.getfield 15, 3) := by decide +kernel
theorem dd_76_21 : decode prog_3_method_13_code 21 = .ok (.iload_n 2, 1) := by decide +kernel
theorem dd_76_22 : decode prog_3_method_13_code 22 = .ok (.invokevirtual 43, 3) := by decide +kernel
theorem dd_76_25 : decode prog_3_method_13_code 25 = .ok (.aload_n 0, 1) := by decide +kernel
theorem dd_76_26 : decode prog_3_method_13_code 26 = .ok (.getfield 15, 3) := by decide +kernel
theorem dd_76_29 : decode prog_3_method_13_code 29 = .ok (.iload 4, 2) := by decide +kernel
theorem dd_76_31 : decode prog_3_method_13_code 31 = .ok (.invokevirtual 103, 3) := by decide +kernel
theorem dd_76_34 : decode prog_3_method_13_code 34 = .ok (.return_, 1) := by decide +kernel
set_option maxRecDepth 100000 in
theorem okI_76 : mj_okI gG "PairMachine$Coder" prog_3_method_13_code 5 (mj_off oM_76) (Option.none : Option Jvm.ClassFile.FieldType) false true 0 cM_76 :=
  ⟨Or.inl ⟨0, rfl, dd_76_0, rfl⟩,
   ⟨15, "PairMachine$Coder", fT5, 5, dd_76_1, rfl, okc_5, by decide, tw_388⟩,
   ⟨rfl, tw_447, by decide, tw_129, by decide +kernel, 94, tw_448, dd_76_4, tw_449, ⟨"PairMachine$Code", fT4, 5, rfl, tw_450⟩, by decide +kernel⟩,
   ⟨by decide, Or.inr ⟨dd_76_7, rfl⟩⟩,
   Or.inl ⟨0, rfl, dd_76_9, rfl⟩,
   Or.inl ⟨1, rfl, dd_76_10, rfl⟩,
   Or.inl ⟨3, rfl, dd_76_11, rfl⟩,
   Or.inl (Or.inl ⟨dd_76_12, rfl⟩),
   ⟨dd_76_13, rfl⟩,
   ⟨rfl, tw_396, by decide, tw_136, by decide +kernel, 37, tw_397, dd_76_14, tw_398, ⟨"PairMachine$Coder", fT5, 5, rfl, tw_399⟩, by decide +kernel⟩,
   Or.inl ⟨0, rfl, dd_76_17, rfl⟩,
   ⟨15, "PairMachine$Coder", fT5, 5, dd_76_18, rfl, okc_5, by decide, tw_388⟩,
   Or.inl ⟨2, rfl, dd_76_21, rfl⟩,
   ⟨rfl, tw_400, by decide, tw_129, by decide +kernel, 43, tw_401, dd_76_22, tw_402, ⟨"PairMachine$Code", fT4, 5, rfl, tw_403⟩, by decide +kernel⟩,
   Or.inl ⟨0, rfl, dd_76_25, rfl⟩,
   ⟨15, "PairMachine$Coder", fT5, 5, dd_76_26, rfl, okc_5, by decide, tw_388⟩,
   Or.inr ⟨dd_76_29, rfl⟩,
   ⟨rfl, tw_452, by decide, tw_129, by decide +kernel, 103, tw_453, dd_76_31, tw_454, ⟨"PairMachine$Code", fT4, 5, rfl, tw_455⟩, by decide +kernel⟩,
   ⟨dd_76_34, rfl⟩, trivial⟩
theorem okM_76 : mj_okE gG 76 (cM_76, 5, oM_76, hM_76) := ⟨rfl, rfl, by decide +kernel, trivial, okI_76⟩
theorem dd_77_0 : decode prog_3_method_14_code 0 = .ok (.aload_n 0, 1) := by decide +kernel
theorem dd_77_1 : decode prog_3_method_14_code 1 = .ok (.aload_n 0, 1) := by decide +kernel
theorem dd_77_2 : decode prog_3_method_14_code 2 = .ok (.getfield 9, 3) := by decide +kernel
theorem dd_77_5 : decode prog_3_method_14_code 5 = .ok (.iload_n 1, 1) := by decide +kernel
theorem dd_77_6 : decode prog_3_method_14_code 6 = .ok (.iconst 1, 1) := by decide +kernel
theorem dd_77_7 : decode prog_3_method_14_code 7 = .ok (.invokevirtual 124, 3) := by decide +kernel
theorem dd_77_10 : decode prog_3_method_14_code 10 = .ok (.aload_n 0, 1) := by decide +kernel
theorem dd_77_11 : decode prog_3_method_14_code 11 = .ok (.getfield 9, 3) := by decide +kernel
theorem dd_77_14 : decode prog_3_method_14_code 14 = .ok (.aload_n 0, 1) := by decide +kernel
theorem dd_77_15 : decode prog_3_method_14_code 15 = .ok (.getfield 9, 3) := by decide +kernel
theorem dd_77_18 : decode prog_3_method_14_code 18 = .ok (.iload_n 1, 1) := by decide +kernel
theorem dd_77_19 : decode prog_3_method_14_code 19 = .ok (.iconst 0, 1) := by decide +kernel
theorem dd_77_20 : decode prog_3_method_14_code 20 = .ok (.invokevirtual 124, 3) := by decide +kernel
theorem dd_77_23 : decode prog_3_method_14_code 23 = .ok (.invokevirtual 54, 3) := by decide +kernel
theorem dd_77_26 : decode prog_3_method_14_code 26 = .ok (.iload_n 2, 1) := by decide +kernel
theorem dd_77_27 : decode prog_3_method_14_code 27 = .ok (.invokevirtual 131, 3) := by decide +kernel
theorem dd_77_30 : decode prog_3_method_14_code 30 = .ok (.return_, 1) := by decide +kernel
set_option maxRecDepth 100000 in
theorem okI_77 : mj_okI gG "PairMachine$Coder" prog_3_method_14_code 3 (mj_off oM_77) (Option.none : Option Jvm.ClassFile.FieldType) false true 0 cM_77 :=
  ⟨Or.inl ⟨0, rfl, dd_77_0, rfl⟩,
   Or.inl ⟨0, rfl, dd_77_1, rfl⟩,
   ⟨9, "PairMachine$Coder", fT5, 5, dd_77_2, rfl, okc_5, by decide, tw_387⟩,
   Or.inl ⟨1, rfl, dd_77_5, rfl⟩,
   Or.inl (Or.inl ⟨dd_77_6, rfl⟩),
   ⟨rfl, tw_343, by decide, tw_109, by decide +kernel, 124, tw_477, dd_77_7, tw_345, ⟨"PairMachine$Tree", fT2, 7, rfl, tw_346⟩, by decide +kernel⟩,
   Or.inl ⟨0, rfl, dd_77_10, rfl⟩,
   ⟨9, "PairMachine$Coder", fT5, 5, dd_77_11, rfl, okc_5, by decide, tw_387⟩,
   Or.inl ⟨0, rfl, dd_77_14, rfl⟩,
   ⟨9, "PairMachine$Coder", fT5, 5, dd_77_15, rfl, okc_5, by decide, tw_387⟩,
   Or.inl ⟨1, rfl, dd_77_18, rfl⟩,
   Or.inl (Or.inl ⟨dd_77_19, rfl⟩),
   ⟨rfl, tw_343, by decide, tw_109, by decide +kernel, 124, tw_477, dd_77_20, tw_345, ⟨"PairMachine$Tree", fT2, 7, rfl, tw_346⟩, by decide +kernel⟩,
   ⟨rfl, tw_244, by decide, tw_109, by decide +kernel, 54, tw_409, dd_77_23, tw_246, ⟨"PairMachine$Tree", fT2, 7, rfl, tw_247⟩, by decide +kernel⟩,
   Or.inl ⟨2, rfl, dd_77_26, rfl⟩,
   ⟨rfl, tw_482, by decide, tw_136, by decide +kernel, 131, tw_483, dd_77_27, tw_484, ⟨"PairMachine$Coder", fT5, 5, rfl, tw_485⟩, by decide +kernel⟩,
   ⟨dd_77_30, rfl⟩, trivial⟩
theorem okM_77 : mj_okE gG 77 (cM_77, 3, oM_77, hM_77) := ⟨rfl, rfl, by decide +kernel, trivial, okI_77⟩
theorem dd_78_0 : decode prog_3_method_15_code 0 = .ok (.aload_n 0, 1) := by decide +kernel
theorem dd_78_1 : decode prog_3_method_15_code 1 = .ok (.getfield 15, 3) := by decide +kernel
theorem dd_78_4 : decode prog_3_method_15_code 4 = .ok (.iconst 3, 1) := by decide +kernel
theorem dd_78_5 : decode prog_3_method_15_code 5 = .ok (.invokevirtual 43, 3) := by decide +kernel
theorem dd_78_8 : decode prog_3_method_15_code 8 = .ok (.aload_n 0, 1) := by decide +kernel
theorem dd_78_9 : decode prog_3_method_15_code 9 = .ok (.iload_n 2, 1) := by decide +kernel
theorem dd_78_10 : decode prog_3_method_15_code 10 = .ok (.invokevirtual 134, 3) := by decide +kernel
theorem dd_78_13 : decode prog_3_method_15_code 13 = .ok (.aload_n 0, 1) := by decide +kernel
theorem dd_78_14 : decode prog_3_method_15_code 14 = .ok (.iload_n 1, 1) := by decide +kernel
theorem dd_78_15 : decode prog_3_method_15_code 15 = .ok (.iconst 5, 1) := by decide +kernel
theorem dd_78_16 : decode prog_3_method_15_code 16 = .ok (.iload_n 3, 1) := by decide +kernel
theorem dd_78_17 : decode prog_3_method_15_code 17 = .ok (.invokevirtual 127, 3) := by decide +kernel
theorem dd_78_20 : decode prog_3_method_15_code 20 = .ok (.aload_n 0, 1) := by decide +kernel
theorem dd_78_21 : decode prog_3_method_15_code 21 = .ok (.invokevirtual 137, 3) := by decide +kernel
theorem dd_78_24 : decode prog_3_method_15_code 24 = .ok (.return_, 1) := by decide +kernel
set_option maxRecDepth 100000 in
theorem okI_78 : mj_okI gG "PairMachine$Coder" prog_3_method_15_code 4 (mj_off oM_78) (Option.none : Option Jvm.ClassFile.FieldType) false true 0 cM_78 :=
  ⟨Or.inl ⟨0, rfl, dd_78_0, rfl⟩,
   ⟨15, "PairMachine$Coder", fT5, 5, dd_78_1, rfl, okc_5, by decide, tw_388⟩,
   Or.inl (Or.inl ⟨dd_78_4, rfl⟩),
   ⟨rfl, tw_400, by decide, tw_129, by decide +kernel, 43, tw_401, dd_78_5, tw_402, ⟨"PairMachine$Code", fT4, 5, rfl, tw_403⟩, by decide +kernel⟩,
   Or.inl ⟨0, rfl, dd_78_8, rfl⟩,
   Or.inl ⟨2, rfl, dd_78_9, rfl⟩,
   ⟨rfl, tw_486, by decide, tw_136, by decide +kernel, 134, tw_487, dd_78_10, tw_488, ⟨"PairMachine$Coder", fT5, 5, rfl, tw_489⟩, by decide +kernel⟩,
   Or.inl ⟨0, rfl, dd_78_13, rfl⟩,
   Or.inl ⟨1, rfl, dd_78_14, rfl⟩,
   Or.inl (Or.inl ⟨dd_78_15, rfl⟩),
   Or.inl ⟨3, rfl, dd_78_16, rfl⟩,
   ⟨rfl, tw_478, by decide, tw_136, by decide +kernel, 127, tw_479, dd_78_17, tw_480, ⟨"PairMachine$Coder", fT5, 5, rfl, tw_481⟩, by decide +kernel⟩,
   Or.inl ⟨0, rfl, dd_78_20, rfl⟩,
   ⟨rfl, tw_490, by decide, tw_136, by decide +kernel, 137, tw_491, dd_78_21, tw_492, ⟨"PairMachine$Coder", fT5, 5, rfl, tw_493⟩, by decide +kernel⟩,
   ⟨dd_78_24, rfl⟩, trivial⟩
theorem okM_78 : mj_okE gG 78 (cM_78, 4, oM_78, hM_78) := ⟨rfl, rfl, by decide +kernel, trivial, okI_78⟩
theorem dd_79_0 : decode prog_3_method_16_code 0 = .ok (.aload_n 0, 1) := by decide +kernel
theorem dd_79_1 : decode prog_3_method_16_code 1 = .ok (.invokevirtual 140, 3) := by decide +kernel
theorem dd_79_4 : decode prog_3_method_16_code 4 = .ok (.aload_n 0, 1) := by decide +kernel
theorem dd_79_5 : decode prog_3_method_16_code 5 = .ok (.getfield 9, 3) := by decide +kernel
theorem dd_79_8 : decode prog_3_method_16_code 8 = .ok (.iload_n 1, 1) := by decide +kernel
theorem dd_79_9 : decode prog_3_method_16_code 9 = .ok (.invokevirtual 121, 3) := by decide +kernel
theorem dd_79_12 : decode prog_3_method_16_code 12 = .ok (.iconst 1, 1) := by decide +kernel
theorem dd_79_13 : decode prog_3_method_16_code 13 = .ok (.isub, 1) := by decide +kernel
theorem dd_79_14 : decode prog_3_method_16_code 14 = .ok (.istore_n 3, 1) := by decide +kernel
theorem dd_79_15 : decode prog_3_method_16_code 15 = .ok (.iload_n 3, 1) := by decide +kernel
theorem dd_79_16 : decode prog_3_method_16_code 16 = .ok (.iconst 1, 1) := by decide +kernel
theorem dd_79_17 : decode prog_3_method_16_code 17 = .ok (.if_icmp .lt 23, 3) := by decide +kernel
theorem dd_79_20 : decode prog_3_method_16_code 20 = .ok (.aload_n 0, 1) := by decide +kernel
theorem dd_79_21 : decode prog_3_method_16_code 21 = .ok (.aload_n 0, 1) := by decide +kernel
theorem dd_79_22 : decode prog_3_method_16_code 22 = .ok (.getfield 9, 3) := by decide +kernel
theorem dd_79_25 : decode prog_3_method_16_code 25 = .ok (.iload_n 1, 1) := by decide +kernel
theorem dd_79_26 : decode prog_3_method_16_code 26 = .ok (.iload_n 3, 1) := by decide +kernel
theorem dd_79_27 : decode prog_3_method_16_code 27 = .ok (.invokevirtual 124, 3) := by decide +kernel
theorem dd_79_30 : decode prog_3_method_16_code 30 = .ok (.iload_n 2, 1) := by decide +kernel
theorem dd_79_31 : decode prog_3_method_16_code 31 = .ok (.invokevirtual 143, 3) := by decide +kernel
theorem dd_79_34 : decode prog_3_method_16_code 34 = .ok (.iinc 3 (-1), 3) := by decide +kernel
theorem dd_79_37 : decode prog_3_method_16_code 37 = .ok (.goto (-22), 3) := by decide +kernel
theorem dd_79_40 : decode prog_3_method_16_code 40 = .ok (.aload_n 0, 1) := by decide +kernel
theorem dd_79_41 : decode prog_3_method_16_code 41 = .ok (.aload_n 0, 1) := by decide +kernel
theorem dd_79_42 : decode prog_3_method_16_code 42 = .ok (.getfield 9, 3) := by decide +kernel
theorem dd_79_45 : decode prog_3_method_16_code 45 = .ok (.iload_n 1, 1) := by decide +kernel
theorem dd_79_46 : decode prog_3_method_16_code 46 = .ok (.iconst 0, 1) := by decide +kernel
theorem dd_79_47 : decode prog_3_method_16_code 47 = .ok (.invokevirtual 124, 3) := by decide +kernel
theorem dd_79_50 : decode prog_3_method_16_code 50 = .ok (.iload_n 2, 1) := by decide +kernel
theorem dd_79_51 : decode prog_3_method_16_code 51 = .ok (.iconst 1, 1) := by decide +kernel
theorem dd_79_52 : decode prog_3_method_16_code 52 = .ok (.iadd, 1) := by decide +kernel
theorem dd_79_53 : decode prog_3_method_16_code 53 = .ok (.invokevirtual 37, 3) := by decide +kernel
theorem dd_79_56 : decode prog_3_method_16_code 56 = .ok (.aload_n 0, 1) := by decide +kernel
theorem dd_79_57 : decode prog_3_method_16_code 57 = .ok (.getfield 15, 3) := by decide +kernel
theorem dd_79_60 : decode prog_3_method_16_code 60 = .ok (.iconst 4, 1) := by decide +kernel
theorem dd_79_61 : decode prog_3_method_16_code 61 = .ok (.invokevirtual 43, 3) := by decide +kernel
theorem dd_79_64 : decode prog_3_method_16_code 64 = .ok (.return_, 1) := by decide +kernel
set_option maxRecDepth 100000 in
theorem okI_79 : mj_okI gG "PairMachine$Coder" prog_3_method_16_code 4 (mj_off oM_79) (Option.none : Option Jvm.ClassFile.FieldType) false true 0 cM_79 :=
  ⟨Or.inl ⟨0, rfl, dd_79_0, rfl⟩,
   ⟨rfl, tw_494, by decide, tw_136, by decide +kernel, 140, tw_495, dd_79_1, tw_496, ⟨"PairMachine$Coder", fT5, 5, rfl, tw_497⟩, by decide +kernel⟩,
   Or.inl ⟨0, rfl, dd_79_4, rfl⟩,
   ⟨9, "PairMachine$Coder", fT5, 5, dd_79_5, rfl, okc_5, by decide, tw_387⟩,
   Or.inl ⟨1, rfl, dd_79_8, rfl⟩,
   ⟨rfl, tw_473, by decide, tw_109, by decide +kernel, 121, tw_474, dd_79_9, tw_475, ⟨"PairMachine$Tree", fT2, 7, rfl, tw_476⟩, by decide +kernel⟩,
   Or.inl (Or.inl ⟨dd_79_12, rfl⟩),
   ⟨dd_79_13, rfl⟩,
   ⟨by decide, Or.inl ⟨3, rfl, dd_79_14, rfl⟩⟩,
   Or.inl ⟨3, rfl, dd_79_15, rfl⟩,
   Or.inl (Or.inl ⟨dd_79_16, rfl⟩),
   ⟨23, dd_79_17, rfl, rfl⟩,
   Or.inl ⟨0, rfl, dd_79_20, rfl⟩,
   Or.inl ⟨0, rfl, dd_79_21, rfl⟩,
   ⟨9, "PairMachine$Coder", fT5, 5, dd_79_22, rfl, okc_5, by decide, tw_387⟩,
   Or.inl ⟨1, rfl, dd_79_25, rfl⟩,
   Or.inl ⟨3, rfl, dd_79_26, rfl⟩,
   ⟨rfl, tw_343, by decide, tw_109, by decide +kernel, 124, tw_477, dd_79_27, tw_345, ⟨"PairMachine$Tree", fT2, 7, rfl, tw_346⟩, by decide +kernel⟩,
   Or.inl ⟨2, rfl, dd_79_30, rfl⟩,
   ⟨rfl, tw_498, by decide, tw_136, by decide +kernel, 143, tw_499, dd_79_31, tw_500, ⟨"PairMachine$Coder", fT5, 5, rfl, tw_501⟩, by decide +kernel⟩,
   ⟨by decide, dd_79_34, rfl⟩,
   ⟨(-22), dd_79_37, rfl⟩,
   Or.inl ⟨0, rfl, dd_79_40, rfl⟩,
   Or.inl ⟨0, rfl, dd_79_41, rfl⟩,
   ⟨9, "PairMachine$Coder", fT5, 5, dd_79_42, rfl, okc_5, by decide, tw_387⟩,
   Or.inl ⟨1, rfl, dd_79_45, rfl⟩,
   Or.inl (Or.inl ⟨dd_79_46, rfl⟩),
   ⟨rfl, tw_343, by decide, tw_109, by decide +kernel, 124, tw_477, dd_79_47, tw_345, ⟨"PairMachine$Tree", fT2, 7, rfl, tw_346⟩, by decide +kernel⟩,
   Or.inl ⟨2, rfl, dd_79_50, rfl⟩,
   Or.inl (Or.inl ⟨dd_79_51, rfl⟩),
   ⟨dd_79_52, rfl⟩,
   ⟨rfl, tw_396, by decide, tw_136, by decide +kernel, 37, tw_397, dd_79_53, tw_398, ⟨"PairMachine$Coder", fT5, 5, rfl, tw_399⟩, by decide +kernel⟩,
   Or.inl ⟨0, rfl, dd_79_56, rfl⟩,
   ⟨15, "PairMachine$Coder", fT5, 5, dd_79_57, rfl, okc_5, by decide, tw_388⟩,
   Or.inl (Or.inl ⟨dd_79_60, rfl⟩),
   ⟨rfl, tw_400, by decide, tw_129, by decide +kernel, 43, tw_401, dd_79_61, tw_402, ⟨"PairMachine$Code", fT4, 5, rfl, tw_403⟩, by decide +kernel⟩,
   ⟨dd_79_64, rfl⟩, trivial⟩
theorem okM_79 : mj_okE gG 79 (cM_79, 4, oM_79, hM_79) := ⟨rfl, rfl, by decide +kernel, trivial, okI_79⟩
theorem dd_80_0 : decode prog_3_method_17_code 0 = .ok (.aload_n 0, 1) := by decide +kernel
theorem dd_80_1 : decode prog_3_method_17_code 1 = .ok (.iload_n 1, 1) := by decide +kernel
theorem dd_80_2 : decode prog_3_method_17_code 2 = .ok (.iload_n 2, 1) := by decide +kernel
theorem dd_80_3 : decode prog_3_method_17_code 3 = .ok (.invokevirtual 146, 3) := by decide +kernel
theorem dd_80_6 : decode prog_3_method_17_code 6 = .ok (.aload_n 0, 1) := by decide +kernel
theorem dd_80_7 : decode prog_3_method_17_code 7 = .ok (.aload_n 0, 1) := by decide +kernel
theorem dd_80_8 : decode prog_3_method_17_code 8 = .ok (.getfield 9, 3) := by decide +kernel
theorem dd_80_11 : decode prog_3_method_17_code 11 = .ok (.iload_n 1, 1) := by decide +kernel
theorem dd_80_12 : decode prog_3_method_17_code 12 = .ok (.iconst 0, 1) := by decide +kernel
theorem dd_80_13 : decode prog_3_method_17_code 13 = .ok (.invokevirtual 124, 3) := by decide +kernel
theorem dd_80_16 : decode prog_3_method_17_code 16 = .ok (.aload_n 0, 1) := by decide +kernel
theorem dd_80_17 : decode prog_3_method_17_code 17 = .ok (.getfield 9, 3) := by decide +kernel
theorem dd_80_20 : decode prog_3_method_17_code 20 = .ok (.iload_n 1, 1) := by decide +kernel
theorem dd_80_21 : decode prog_3_method_17_code 21 = .ok (.iconst 1, 1) := by decide +kernel
theorem dd_80_22 : decode prog_3_method_17_code 22 = .ok (.invokevirtual 124, 3) := by decide +kernel
theorem dd_80_25 : decode prog_3_method_17_code 25 = .ok (.iload_n 2, 1) := by decide +kernel
theorem dd_80_26 : decode prog_3_method_17_code 26 = .ok (.invokevirtual 131, 3) := by decide +kernel
theorem dd_80_29 : decode prog_3_method_17_code 29 = .ok (.aload_n 0, 1) := by decide +kernel
theorem dd_80_30 : decode prog_3_method_17_code 30 = .ok (.getfield 15, 3) := by decide +kernel
theorem dd_80_33 : decode prog_3_method_17_code 33 = .ok (.iconst 4, 1) := by decide +kernel
theorem dd_80_34 : decode prog_3_method_17_code 34 = .ok (.invokevirtual 43, 3) := by decide +kernel
theorem dd_80_37 : decode prog_3_method_17_code 37 = .ok (.return_, 1) := by decide +kernel
set_option maxRecDepth 100000 in
theorem okI_80 : mj_okI gG "PairMachine$Coder" prog_3_method_17_code 3 (mj_off oM_80) (Option.none : Option Jvm.ClassFile.FieldType) false true 0 cM_80 :=
  ⟨Or.inl ⟨0, rfl, dd_80_0, rfl⟩,
   Or.inl ⟨1, rfl, dd_80_1, rfl⟩,
   Or.inl ⟨2, rfl, dd_80_2, rfl⟩,
   ⟨rfl, tw_502, by decide, tw_136, by decide +kernel, 146, tw_503, dd_80_3, tw_504, ⟨"PairMachine$Coder", fT5, 5, rfl, tw_505⟩, by decide +kernel⟩,
   Or.inl ⟨0, rfl, dd_80_6, rfl⟩,
   Or.inl ⟨0, rfl, dd_80_7, rfl⟩,
   ⟨9, "PairMachine$Coder", fT5, 5, dd_80_8, rfl, okc_5, by decide, tw_387⟩,
   Or.inl ⟨1, rfl, dd_80_11, rfl⟩,
   Or.inl (Or.inl ⟨dd_80_12, rfl⟩),
   ⟨rfl, tw_343, by decide, tw_109, by decide +kernel, 124, tw_477, dd_80_13, tw_345, ⟨"PairMachine$Tree", fT2, 7, rfl, tw_346⟩, by decide +kernel⟩,
   Or.inl ⟨0, rfl, dd_80_16, rfl⟩,
   ⟨9, "PairMachine$Coder", fT5, 5, dd_80_17, rfl, okc_5, by decide, tw_387⟩,
   Or.inl ⟨1, rfl, dd_80_20, rfl⟩,
   Or.inl (Or.inl ⟨dd_80_21, rfl⟩),
   ⟨rfl, tw_343, by decide, tw_109, by decide +kernel, 124, tw_477, dd_80_22, tw_345, ⟨"PairMachine$Tree", fT2, 7, rfl, tw_346⟩, by decide +kernel⟩,
   Or.inl ⟨2, rfl, dd_80_25, rfl⟩,
   ⟨rfl, tw_482, by decide, tw_136, by decide +kernel, 131, tw_483, dd_80_26, tw_484, ⟨"PairMachine$Coder", fT5, 5, rfl, tw_485⟩, by decide +kernel⟩,
   Or.inl ⟨0, rfl, dd_80_29, rfl⟩,
   ⟨15, "PairMachine$Coder", fT5, 5, dd_80_30, rfl, okc_5, by decide, tw_388⟩,
   Or.inl (Or.inl ⟨dd_80_33, rfl⟩),
   ⟨rfl, tw_400, by decide, tw_129, by decide +kernel, 43, tw_401, dd_80_34, tw_402, ⟨"PairMachine$Code", fT4, 5, rfl, tw_403⟩, by decide +kernel⟩,
   ⟨dd_80_37, rfl⟩, trivial⟩
theorem okM_80 : mj_okE gG 80 (cM_80, 3, oM_80, hM_80) := ⟨rfl, rfl, by decide +kernel, trivial, okI_80⟩
theorem dd_81_0 : decode prog_3_method_18_code 0 = .ok (.aload_n 0, 1) := by decide +kernel
theorem dd_81_1 : decode prog_3_method_18_code 1 = .ok (.getfield 15, 3) := by decide +kernel
theorem dd_81_4 : decode prog_3_method_18_code 4 = .ok (.bipush 6, 2) := by decide +kernel
theorem dd_81_6 : decode prog_3_method_18_code 6 = .ok (.invokevirtual 43, 3) := by decide +kernel
theorem dd_81_9 : decode prog_3_method_18_code 9 = .ok (.aload_n 0, 1) := by decide +kernel
theorem dd_81_10 : decode prog_3_method_18_code 10 = .ok (.aload_n 0, 1) := by decide +kernel
theorem dd_81_11 : decode prog_3_method_18_code 11 = .ok (.getfield 9, 3) := by decide +kernel
theorem dd_81_14 : decode prog_3_method_18_code 14 = .ok (.iload_n 1, 1) := by decide +kernel
theorem dd_81_15 : decode prog_3_method_18_code 15 = .ok (.iconst 1, 1) := by decide +kernel
theorem dd_81_16 : decode prog_3_method_18_code 16 = .ok (.invokevirtual 124, 3) := by decide +kernel
theorem dd_81_19 : decode prog_3_method_18_code 19 = .ok (.invokevirtual 134, 3) := by decide +kernel
theorem dd_81_22 : decode prog_3_method_18_code 22 = .ok (.aload_n 0, 1) := by decide +kernel
theorem dd_81_23 : decode prog_3_method_18_code 23 = .ok (.iload_n 1, 1) := by decide +kernel
theorem dd_81_24 : decode prog_3_method_18_code 24 = .ok (.iload_n 2, 1) := by decide +kernel
theorem dd_81_25 : decode prog_3_method_18_code 25 = .ok (.invokevirtual 146, 3) := by decide +kernel
theorem dd_81_28 : decode prog_3_method_18_code 28 = .ok (.aload_n 0, 1) := by decide +kernel
theorem dd_81_29 : decode prog_3_method_18_code 29 = .ok (.invokevirtual 137, 3) := by decide +kernel
theorem dd_81_32 : decode prog_3_method_18_code 32 = .ok (.aload_n 0, 1) := by decide +kernel
theorem dd_81_33 : decode prog_3_method_18_code 33 = .ok (.aload_n 0, 1) := by decide +kernel
theorem dd_81_34 : decode prog_3_method_18_code 34 = .ok (.getfield 9, 3) := by decide +kernel
theorem dd_81_37 : decode prog_3_method_18_code 37 = .ok (.iload_n 1, 1) := by decide +kernel
theorem dd_81_38 : decode prog_3_method_18_code 38 = .ok (.iconst 0, 1) := by decide +kernel
theorem dd_81_39 : decode prog_3_method_18_code 39 = .ok (.invokevirtual 124, 3) := by decide +kernel
theorem dd_81_42 : decode prog_3_method_18_code 42 = .ok (.aload_n 0, 1) := by decide +kernel
theorem dd_81_43 : decode prog_3_method_18_code 43 = .ok (.getfield 9, 3) := by decide +kernel
theorem dd_81_46 : decode prog_3_method_18_code 46 = .ok (.iload_n 1, 1) := by decide +kernel
theorem dd_81_47 : decode prog_3_method_18_code 47 = .ok (.iconst 1, 1) := by decide +kernel
theorem dd_81_48 : decode prog_3_method_18_code 48 = .ok (.invokevirtual 124, 3) := by decide +kernel
theorem dd_81_51 : decode prog_3_method_18_code 51 = .ok (.iload_n 2, 1) := by decide +kernel
theorem dd_81_52 : decode prog_3_method_18_code 52 = .ok (.invokevirtual 131, 3) := by decide +kernel
theorem dd_81_55 : decode prog_3_method_18_code 55 = .ok (.aload_n 0, 1) := by decide +kernel
theorem dd_81_56 : decode prog_3_method_18_code 56 = .ok (.getfield 15, 3) := by decide +kernel
theorem dd_81_59 : decode prog_3_method_18_code 59 = .ok (.bipush 7, 2) := by decide +kernel
theorem dd_81_61 : decode prog_3_method_18_code 61 = .ok (.invokevirtual 43, 3) := by decide +kernel
theorem dd_81_64 : decode prog_3_method_18_code 64 = .ok (.return_, 1) := by decide +kernel
set_option maxRecDepth 100000 in
theorem okI_81 : mj_okI gG "PairMachine$Coder" prog_3_method_18_code 3 (mj_off oM_81) (Option.none : Option Jvm.ClassFile.FieldType) false true 0 cM_81 :=
  ⟨Or.inl ⟨0, rfl, dd_81_0, rfl⟩,
   ⟨15, "PairMachine$Coder", fT5, 5, dd_81_1, rfl, okc_5, by decide, tw_388⟩,
   Or.inl (Or.inr (Or.inl ⟨dd_81_4, rfl, by decide⟩)),
   ⟨rfl, tw_400, by decide, tw_129, by decide +kernel, 43, tw_401, dd_81_6, tw_402, ⟨"PairMachine$Code", fT4, 5, rfl, tw_403⟩, by decide +kernel⟩,
   Or.inl ⟨0, rfl, dd_81_9, rfl⟩,
   Or.inl ⟨0, rfl, dd_81_10, rfl⟩,
   ⟨9, "PairMachine$Coder", fT5, 5, dd_81_11, rfl, okc_5, by decide, tw_387⟩,
   Or.inl ⟨1, rfl, dd_81_14, rfl⟩,
   Or.inl (Or.inl ⟨dd_81_15, rfl⟩),
   ⟨rfl, tw_343, by decide, tw_109, by decide +kernel, 124, tw_477, dd_81_16, tw_345, ⟨"PairMachine$Tree", fT2, 7, rfl, tw_346⟩, by decide +kernel⟩,
   ⟨rfl, tw_486, by decide, tw_136, by decide +kernel, 134, tw_487, dd_81_19, tw_488, ⟨"PairMachine$Coder", fT5, 5, rfl, tw_489⟩, by decide +kernel⟩,
   Or.inl ⟨0, rfl, dd_81_22, rfl⟩,
   Or.inl ⟨1, rfl, dd_81_23, rfl⟩,
   Or.inl ⟨2, rfl, dd_81_24, rfl⟩,
   ⟨rfl, tw_502, by decide, tw_136, by decide +kernel, 146, tw_503, dd_81_25, tw_504, ⟨"PairMachine$Coder", fT5, 5, rfl, tw_505⟩, by decide +kernel⟩,
   Or.inl ⟨0, rfl, dd_81_28, rfl⟩,
   ⟨rfl, tw_490, by decide, tw_136, by decide +kernel, 137, tw_491, dd_81_29, tw_492, ⟨"PairMachine$Coder", fT5, 5, rfl, tw_493⟩, by decide +kernel⟩,
   Or.inl ⟨0, rfl, dd_81_32, rfl⟩,
   Or.inl ⟨0, rfl, dd_81_33, rfl⟩,
   ⟨9, "PairMachine$Coder", fT5, 5, dd_81_34, rfl, okc_5, by decide, tw_387⟩,
   Or.inl ⟨1, rfl, dd_81_37, rfl⟩,
   Or.inl (Or.inl ⟨dd_81_38, rfl⟩),
   ⟨rfl, tw_343, by decide, tw_109, by decide +kernel, 124, tw_477, dd_81_39, tw_345, ⟨"PairMachine$Tree", fT2, 7, rfl, tw_346⟩, by decide +kernel⟩,
   Or.inl ⟨0, rfl, dd_81_42, rfl⟩,
   ⟨9, "PairMachine$Coder", fT5, 5, dd_81_43, rfl, okc_5, by decide, tw_387⟩,
   Or.inl ⟨1, rfl, dd_81_46, rfl⟩,
   Or.inl (Or.inl ⟨dd_81_47, rfl⟩),
   ⟨rfl, tw_343, by decide, tw_109, by decide +kernel, 124, tw_477, dd_81_48, tw_345, ⟨"PairMachine$Tree", fT2, 7, rfl, tw_346⟩, by decide +kernel⟩,
   Or.inl ⟨2, rfl, dd_81_51, rfl⟩,
   ⟨rfl, tw_482, by decide, tw_136, by decide +kernel, 131, tw_483, dd_81_52, tw_484, ⟨"PairMachine$Coder", fT5, 5, rfl, tw_485⟩, by decide +kernel⟩,
   Or.inl ⟨0, rfl, dd_81_55, rfl⟩,
   ⟨15, "PairMachine$Coder", fT5, 5, dd_81_56, rfl, okc_5, by decide, tw_388⟩,
   Or.inl (Or.inr (Or.inl ⟨dd_81_59, rfl, by decide⟩)),
   ⟨rfl, tw_400, by decide, tw_129, by decide +kernel, 43, tw_401, dd_81_61, tw_402, ⟨"PairMachine$Code", fT4, 5, rfl, tw_403⟩, by decide +kernel⟩,
   ⟨dd_81_64, rfl⟩, trivial⟩
theorem okM_81 : mj_okE gG 81 (cM_81, 3, oM_81, hM_81) := ⟨rfl, rfl, by decide +kernel, trivial, okI_81⟩
theorem dd_82_0 : decode prog_3_method_19_code 0 = .ok (.aload_n 0, 1) := by decide +kernel
theorem dd_82_1 : decode prog_3_method_19_code 1 = .ok (.invokevirtual 140, 3) := by decide +kernel
theorem dd_82_4 : decode prog_3_method_19_code 4 = .ok (.aload_n 0, 1) := by decide +kernel
theorem dd_82_5 : decode prog_3_method_19_code 5 = .ok (.getfield 9, 3) := by decide +kernel
theorem dd_82_8 : decode prog_3_method_19_code 8 = .ok (.iload_n 1, 1) := by decide +kernel
theorem dd_82_9 : decode prog_3_method_19_code 9 = .ok (.invokevirtual 121, 3) := by decide +kernel
theorem dd_82_12 : decode prog_3_method_19_code 12 = .ok (.iconst 1, 1) := by decide +kernel
theorem dd_82_13 : decode prog_3_method_19_code 13 = .ok (.isub, 1) := by decide +kernel
theorem dd_82_14 : decode prog_3_method_19_code 14 = .ok (.istore_n 3, 1) := by decide +kernel
theorem dd_82_15 : decode prog_3_method_19_code 15 = .ok (.iload_n 3, 1) := by decide +kernel
theorem dd_82_16 : decode prog_3_method_19_code 16 = .ok (.iconst 1, 1) := by decide +kernel
theorem dd_82_17 : decode prog_3_method_19_code 17 = .ok (.if_icmp .lt 30, 3) := by decide +kernel
theorem dd_82_20 : decode prog_3_method_19_code 20 = .ok (.aload_n 0, 1) := by decide +kernel
theorem dd_82_21 : decode prog_3_method_19_code 21 = .ok (.aload_n 0, 1) := by decide +kernel
theorem dd_82_22 : decode prog_3_method_19_code 22 = .ok (.getfield 9, 3) := by decide +kernel
theorem dd_82_25 : decode prog_3_method_19_code 25 = .ok (.aload_n 0, 1) := by decide +kernel
theorem dd_82_26 : decode prog_3_method_19_code 26 = .ok (.getfield 9, 3) := by decide +kernel
theorem dd_82_29 : decode prog_3_method_19_code 29 = .ok (.iload_n 1, 1) := by decide +kernel
theorem dd_82_30 : decode prog_3_method_19_code 30 = .ok (.iload_n 3, 1) := by decide +kernel
theorem dd_82_31 : decode prog_3_method_19_code 31 = .ok (.invokevirtual 124, 3) := by decide +kernel
theorem dd_82_34 : decode prog_3_method_19_code 34 = .ok (.invokevirtual 54, 3) := by decide +kernel
theorem dd_82_37 : decode prog_3_method_19_code 37 = .ok (.iload_n 2, 1) := by decide +kernel
theorem dd_82_38 : decode prog_3_method_19_code 38 = .ok (.invokevirtual 143, 3) := by decide +kernel
theorem dd_82_41 : decode prog_3_method_19_code 41 = .ok (.iinc 3 (-1), 3) := by decide +kernel
theorem dd_82_44 : decode prog_3_method_19_code 44 = .ok (.goto (-29), 3) := by decide +kernel
theorem dd_82_47 : decode prog_3_method_19_code 47 = .ok (.return_, 1) := by decide +kernel
set_option maxRecDepth 100000 in
theorem okI_82 : mj_okI gG "PairMachine$Coder" prog_3_method_19_code 4 (mj_off oM_82) (Option.none : Option Jvm.ClassFile.FieldType) false true 0 cM_82 :=
  ⟨Or.inl ⟨0, rfl, dd_82_0, rfl⟩,
   ⟨rfl, tw_494, by decide, tw_136, by decide +kernel, 140, tw_495, dd_82_1, tw_496, ⟨"PairMachine$Coder", fT5, 5, rfl, tw_497⟩, by decide +kernel⟩,
   Or.inl ⟨0, rfl, dd_82_4, rfl⟩,
   ⟨9, "PairMachine$Coder", fT5, 5, dd_82_5, rfl, okc_5, by decide, tw_387⟩,
   Or.inl ⟨1, rfl, dd_82_8, rfl⟩,
   ⟨rfl, tw_473, by decide, tw_109, by decide +kernel, 121, tw_474, dd_82_9, tw_475, ⟨"PairMachine$Tree", fT2, 7, rfl, tw_476⟩, by decide +kernel⟩,
   Or.inl (Or.inl ⟨dd_82_12, rfl⟩),
   ⟨dd_82_13, rfl⟩,
   ⟨by decide, Or.inl ⟨3, rfl, dd_82_14, rfl⟩⟩,
   Or.inl ⟨3, rfl, dd_82_15, rfl⟩,
   Or.inl (Or.inl ⟨dd_82_16, rfl⟩),
   ⟨30, dd_82_17, rfl, rfl⟩,
   Or.inl ⟨0, rfl, dd_82_20, rfl⟩,
   Or.inl ⟨0, rfl, dd_82_21, rfl⟩,
   ⟨9, "PairMachine$Coder", fT5, 5, dd_82_22, rfl, okc_5, by decide, tw_387⟩,
   Or.inl ⟨0, rfl, dd_82_25, rfl⟩,
   ⟨9, "PairMachine$Coder", fT5, 5, dd_82_26, rfl, okc_5, by decide, tw_387⟩,
   Or.inl ⟨1, rfl, dd_82_29, rfl⟩,
   Or.inl ⟨3, rfl, dd_82_30, rfl⟩,
   ⟨rfl, tw_343, by decide, tw_109, by decide +kernel, 124, tw_477, dd_82_31, tw_345, ⟨"PairMachine$Tree", fT2, 7, rfl, tw_346⟩, by decide +kernel⟩,
   ⟨rfl, tw_244, by decide, tw_109, by decide +kernel, 54, tw_409, dd_82_34, tw_246, ⟨"PairMachine$Tree", fT2, 7, rfl, tw_247⟩, by decide +kernel⟩,
   Or.inl ⟨2, rfl, dd_82_37, rfl⟩,
   ⟨rfl, tw_498, by decide, tw_136, by decide +kernel, 143, tw_499, dd_82_38, tw_500, ⟨"PairMachine$Coder", fT5, 5, rfl, tw_501⟩, by decide +kernel⟩,
   ⟨by decide, dd_82_41, rfl⟩,
   ⟨(-29), dd_82_44, rfl⟩,
   ⟨dd_82_47, rfl⟩, trivial⟩
theorem okM_82 : mj_okE gG 82 (cM_82, 4, oM_82, hM_82) := ⟨rfl, rfl, by decide +kernel, trivial, okI_82⟩
theorem dd_83_0 : decode prog_3_method_20_code 0 = .ok (.aload_n 0, 1) := by decide +kernel
theorem dd_83_1 : decode prog_3_method_20_code 1 = .ok (.getfield 15, 3) := by decide +kernel
theorem dd_83_4 : decode prog_3_method_20_code 4 = .ok (.iconst 1, 1) := by decide +kernel
theorem dd_83_5 : decode prog_3_method_20_code 5 = .ok (.invokevirtual 43, 3) := by decide +kernel
theorem dd_83_8 : decode prog_3_method_20_code 8 = .ok (.aload_n 0, 1) := by decide +kernel
theorem dd_83_9 : decode prog_3_method_20_code 9 = .ok (.getfield 15, 3) := by decide +kernel
theorem dd_83_12 : decode prog_3_method_20_code 12 = .ok (.lconst 0, 1) := by decide +kernel
theorem dd_83_13 : decode prog_3_method_20_code 13 = .ok (.invokevirtual 87, 3) := by decide +kernel
theorem dd_83_16 : decode prog_3_method_20_code 16 = .ok (.return_, 1) := by decide +kernel
set_option maxRecDepth 100000 in
theorem okI_83 : mj_okI gG "PairMachine$Coder" prog_3_method_20_code 1 (mj_off oM_83) (Option.none : Option Jvm.ClassFile.FieldType) false true 0 cM_83 :=
  ⟨Or.inl ⟨0, rfl, dd_83_0, rfl⟩,
   ⟨15, "PairMachine$Coder", fT5, 5, dd_83_1, rfl, okc_5, by decide, tw_388⟩,
   Or.inl (Or.inl ⟨dd_83_4, rfl⟩),
   ⟨rfl, tw_400, by decide, tw_129, by decide +kernel, 43, tw_401, dd_83_5, tw_402, ⟨"PairMachine$Code", fT4, 5, rfl, tw_403⟩, by decide +kernel⟩,
   Or.inl ⟨0, rfl, dd_83_8, rfl⟩,
   ⟨15, "PairMachine$Coder", fT5, 5, dd_83_9, rfl, okc_5, by decide, tw_388⟩,
   Or.inl ⟨0, rfl, dd_83_12, rfl⟩,
   ⟨rfl, tw_382, by decide, tw_129, by decide +kernel, 87, tw_443, dd_83_13, tw_384, ⟨"PairMachine$Code", fT4, 5, rfl, tw_385⟩, by decide +kernel⟩,
   ⟨dd_83_16, rfl⟩, trivial⟩
theorem okM_83 : mj_okE gG 83 (cM_83, 1, oM_83, hM_83) := ⟨rfl, rfl, by decide +kernel, trivial, okI_83⟩
theorem dd_84_0 : decode prog_3_method_21_code 0 = .ok (.aload_n 0, 1) := by decide +kernel
theorem dd_84_1 : decode prog_3_method_21_code 1 = .ok (.iload_n 1, 1) := by decide +kernel
theorem dd_84_2 : decode prog_3_method_21_code 2 = .ok (.iload_n 2, 1) := by decide +kernel
theorem dd_84_3 : decode prog_3_method_21_code 3 = .ok (.iconst 1, 1) := by decide +kernel
theorem dd_84_4 : decode prog_3_method_21_code 4 = .ok (.iadd, 1) := by decide +kernel
theorem dd_84_5 : decode prog_3_method_21_code 5 = .ok (.invokevirtual 37, 3) := by decide +kernel
theorem dd_84_8 : decode prog_3_method_21_code 8 = .ok (.aload_n 0, 1) := by decide +kernel
theorem dd_84_9 : decode prog_3_method_21_code 9 = .ok (.getfield 15, 3) := by decide +kernel
theorem dd_84_12 : decode prog_3_method_21_code 12 = .ok (.bipush 13, 2) := by decide +kernel
theorem dd_84_14 : decode prog_3_method_21_code 14 = .ok (.invokevirtual 43, 3) := by decide +kernel
theorem dd_84_17 : decode prog_3_method_21_code 17 = .ok (.return_, 1) := by decide +kernel
set_option maxRecDepth 100000 in
theorem okI_84 : mj_okI gG "PairMachine$Coder" prog_3_method_21_code 3 (mj_off oM_84) (Option.none : Option Jvm.ClassFile.FieldType) false true 0 cM_84 :=
  ⟨Or.inl ⟨0, rfl, dd_84_0, rfl⟩,
   Or.inl ⟨1, rfl, dd_84_1, rfl⟩,
   Or.inl ⟨2, rfl, dd_84_2, rfl⟩,
   Or.inl (Or.inl ⟨dd_84_3, rfl⟩),
   ⟨dd_84_4, rfl⟩,
   ⟨rfl, tw_396, by decide, tw_136, by decide +kernel, 37, tw_397, dd_84_5, tw_398, ⟨"PairMachine$Coder", fT5, 5, rfl, tw_399⟩, by decide +kernel⟩,
   Or.inl ⟨0, rfl, dd_84_8, rfl⟩,
   ⟨15, "PairMachine$Coder", fT5, 5, dd_84_9, rfl, okc_5, by decide, tw_388⟩,
   Or.inl (Or.inr (Or.inl ⟨dd_84_12, rfl, by decide⟩)),
   ⟨rfl, tw_400, by decide, tw_129, by decide +kernel, 43, tw_401, dd_84_14, tw_402, ⟨"PairMachine$Code", fT4, 5, rfl, tw_403⟩, by decide +kernel⟩,
   ⟨dd_84_17, rfl⟩, trivial⟩
theorem okM_84 : mj_okE gG 84 (cM_84, 3, oM_84, hM_84) := ⟨rfl, rfl, by decide +kernel, trivial, okI_84⟩
theorem dd_85_0 : decode prog_5_method_1_code 0 = .ok (.aload_n 0, 1) := by decide +kernel
theorem dd_85_1 : decode prog_5_method_1_code 1 = .ok (.invokespecial 3, 3) := by decide +kernel
theorem dd_85_4 : decode prog_5_method_1_code 4 = .ok (.aload_n 0, 1) := by decide +kernel
theorem dd_85_5 : decode prog_5_method_1_code 5 = .ok (.new 9, 3) := by decide +kernel
theorem dd_85_8 : decode prog_5_method_1_code 8 = .ok (.dup, 1) := by decide +kernel
theorem dd_85_9 : decode prog_5_method_1_code 9 = .ok (.iload_n 1, 1) := by decide +kernel
theorem dd_85_10 : decode prog_5_method_1_code 10 = .ok (.invokespecial 11, 3) := by decide +kernel
theorem dd_85_13 : decode prog_5_method_1_code 13 = .ok (.putfield 14, 3) := by decide +kernel
theorem dd_85_16 : decode prog_5_method_1_code 16 = .ok (.aload_n 0, 1) := by decide +kernel
theorem dd_85_17 : decode prog_5_method_1_code 17 = .ok (.new 20, 3) := by decide +kernel
theorem dd_85_20 : decode prog_5_method_1_code 20 = .ok (.dup, 1) := by decide +kernel
theorem dd_85_21 : decode prog_5_method_1_code 21 = .ok (.aload_n 0, 1) := by decide +kernel
theorem dd_85_22 : decode prog_5_method_1_code 22 = .ok (.getfield 14, 3) := by decide +kernel
theorem dd_85_25 : decode prog_5_method_1_code 25 = .ok (.invokespecial 22, 3) := by decide +kernel
theorem dd_85_28 : decode prog_5_method_1_code 28 = .ok (.putfield 25, 3) := by decide +kernel
theorem dd_85_31 : decode prog_5_method_1_code 31 = .ok (.aload_n 0, 1) := by decide +kernel
theorem dd_85_32 : decode prog_5_method_1_code 32 = .ok (.iconst 0, 1) := by decide +kernel
theorem dd_85_33 : decode prog_5_method_1_code 33 = .ok (.putfield 29, 3) := by decide +kernel
theorem dd_85_36 : decode prog_5_method_1_code 36 = .ok (.return_, 1) := by decide +kernel
set_option maxRecDepth 100000 in
theorem okI_85 : mj_okI gG "PairMachine$Machine" prog_5_method_1_code 2 (mj_off oM_85) (Option.none : Option Jvm.ClassFile.FieldType) true true 0 cM_85 :=
  ⟨Or.inl ⟨0, rfl, dd_85_0, rfl⟩,
   ⟨3, dd_85_1, rfl, tw_506, tw_97, tw_98⟩,
   Or.inl ⟨0, rfl, dd_85_4, rfl⟩,
   ⟨9, "PairMachine$Store", fT7, 9, fN7, dd_85_5, rfl, okc_7, rfl, rfl, by decide, tw_507, tw_508, tw_509⟩,
   ⟨dd_85_8, rfl⟩,
   Or.inl ⟨1, rfl, dd_85_9, rfl⟩,
   ⟨rfl, tw_510, by decide, tw_509, by decide +kernel, 11, tw_511, dd_85_10, tw_512, rfl, rfl, rfl, by decide +kernel⟩,
   ⟨14, "PairMachine$Machine", fT6, 10, dd_85_13, rfl, okc_6, by decide, tw_513, Or.inl ⟨_, rfl⟩, Or.inr ⟨rfl, by decide, rfl⟩⟩,
   Or.inl ⟨0, rfl, dd_85_16, rfl⟩,
   ⟨20, "PairMachine$Display", fT8, 4, fN8, dd_85_17, rfl, okc_8, rfl, rfl, by decide, tw_514, tw_515, tw_516⟩,
   ⟨dd_85_20, rfl⟩,
   Or.inl ⟨0, rfl, dd_85_21, rfl⟩,
   ⟨14, "PairMachine$Machine", fT6, 10, dd_85_22, rfl, okc_6, by decide, tw_513⟩,
   ⟨rfl, tw_517, by decide, tw_516, by decide +kernel, 22, tw_518, dd_85_25, tw_519, rfl, rfl, rfl, by decide +kernel⟩,
   ⟨25, "PairMachine$Machine", fT6, 10, dd_85_28, rfl, okc_6, by decide, tw_520, Or.inl ⟨_, rfl⟩, Or.inr ⟨rfl, by decide, rfl⟩⟩,
   Or.inl ⟨0, rfl, dd_85_31, rfl⟩,
   Or.inl (Or.inl ⟨dd_85_32, rfl⟩),
   ⟨29, "PairMachine$Machine", fT6, 10, dd_85_33, rfl, okc_6, by decide, tw_521, rfl, Or.inl rfl⟩,
   ⟨dd_85_36, rfl⟩, trivial⟩
theorem okM_85 : mj_okE gG 85 (cM_85, 2, oM_85, hM_85) := ⟨rfl, rfl, by decide +kernel, trivial, okI_85⟩
theorem dd_86_0 : decode prog_5_method_2_code 0 = .ok (.aload_n 0, 1) := by decide +kernel
theorem dd_86_1 : decode prog_5_method_2_code 1 = .ok (.getfield 14, 3) := by decide +kernel
theorem dd_86_4 : decode prog_5_method_2_code 4 = .ok (.aload_n 1, 1) := by decide +kernel
theorem dd_86_5 : decode prog_5_method_2_code 5 = .ok (.invokevirtual 33, 3) := by decide +kernel
theorem dd_86_8 : decode prog_5_method_2_code 8 = .ok (.aload_n 0, 1) := by decide +kernel
theorem dd_86_9 : decode prog_5_method_2_code 9 = .ok (.lconst 0, 1) := by decide +kernel
theorem dd_86_10 : decode prog_5_method_2_code 10 = .ok (.invokevirtual 39, 3) := by decide +kernel
theorem dd_86_13 : decode prog_5_method_2_code 13 = .ok (.aload_n 0, 1) := by decide +kernel
theorem dd_86_14 : decode prog_5_method_2_code 14 = .ok (.iconst 0, 1) := by decide +kernel
theorem dd_86_15 : decode prog_5_method_2_code 15 = .ok (.putfield 29, 3) := by decide +kernel
theorem dd_86_18 : decode prog_5_method_2_code 18 = .ok (.return_, 1) := by decide +kernel
set_option maxRecDepth 100000 in
theorem okI_86 : mj_okI gG "PairMachine$Machine" prog_5_method_2_code 2 (mj_off oM_86) (Option.none : Option Jvm.ClassFile.FieldType) false true 0 cM_86 :=
  ⟨Or.inl ⟨0, rfl, dd_86_0, rfl⟩,
   ⟨14, "PairMachine$Machine", fT6, 10, dd_86_1, rfl, okc_6, by decide, tw_513⟩,
   Or.inl ⟨1, rfl, dd_86_4, rfl⟩,
   ⟨rfl, tw_522, by decide, tw_509, by decide +kernel, 33, tw_523, dd_86_5, tw_524, ⟨"PairMachine$Store", fT7, 9, rfl, tw_525⟩, by decide +kernel⟩,
   Or.inl ⟨0, rfl, dd_86_8, rfl⟩,
   Or.inl ⟨0, rfl, dd_86_9, rfl⟩,
   ⟨rfl, tw_526, by decide, tw_143, by decide +kernel, 39, tw_527, dd_86_10, tw_528, ⟨"PairMachine$Machine", fT6, 10, rfl, tw_529⟩, by decide +kernel⟩,
   Or.inl ⟨0, rfl, dd_86_13, rfl⟩,
   Or.inl (Or.inl ⟨dd_86_14, rfl⟩),
   ⟨29, "PairMachine$Machine", fT6, 10, dd_86_15, rfl, okc_6, by decide, tw_521, rfl, Or.inl rfl⟩,
   ⟨dd_86_18, rfl⟩, trivial⟩
theorem okM_86 : mj_okE gG 86 (cM_86, 2, oM_86, hM_86) := ⟨rfl, rfl, by decide +kernel, trivial, okI_86⟩
theorem dd_87_0 : decode prog_5_method_3_code 0 = .ok (.aload_n 0, 1) := by decide +kernel
theorem dd_87_1 : decode prog_5_method_3_code 1 = .ok (.getfield 14, 3) := by decide +kernel
theorem dd_87_4 : decode prog_5_method_3_code 4 = .ok (.invokevirtual 43, 3) := by decide +kernel
theorem dd_87_7 : decode prog_5_method_3_code 7 = .ok (.lconst 0, 1) := by decide +kernel
theorem dd_87_8 : decode prog_5_method_3_code 8 = .ok (.lcmp, 1) := by decide +kernel
theorem dd_87_9 : decode prog_5_method_3_code 9 = .ok (.ifCond .ne 5, 3) := by decide +kernel
theorem dd_87_12 : decode prog_5_method_3_code 12 = .ok (.iconst 0, 1) := by decide +kernel
theorem dd_87_13 : decode prog_5_method_3_code 13 = .ok (.ireturn, 1) := by decide +kernel
theorem dd_87_14 : decode prog_5_method_3_code 14 = .ok (.aload_n 0, 1) := by decide +kernel
theorem dd_87_15 : decode prog_5_method_3_code 15 = .ok (.getfield 14, 3) := by decide +kernel
theorem dd_87_18 : decode prog_5_method_3_code 18 = .ok (.invokevirtual 47, 3) := by decide +kernel
theorem dd_87_21 : decode prog_5_method_3_code 21 = .ok (.aload_n 0, 1) := by decide +kernel
theorem dd_87_22 : decode prog_5_method_3_code 22 = .ok (.aload_n 0, 1) := by decide +kernel
theorem dd_87_23 : decode prog_5_method_3_code 23 = .ok (.getfield 14, 3) := by decide +kernel
theorem dd_87_26 : decode prog_5_method_3_code 26 = .ok (.invokevirtual 43, 3) := by decide +kernel
theorem dd_87_29 : decode prog_5_method_3_code 29 = .ok (.invokevirtual 39, 3) := by decide +kernel
theorem dd_87_32 : decode prog_5_method_3_code 32 = .ok (.aload_n 0, 1) := by decide +kernel
theorem dd_87_33 : decode prog_5_method_3_code 33 = .ok (.iconst 0, 1) := by decide +kernel
theorem dd_87_34 : decode prog_5_method_3_code 34 = .ok (.putfield 50, 3) := by decide +kernel
theorem dd_87_37 : decode prog_5_method_3_code 37 = .ok (.aload_n 0, 1) := by decide +kernel
theorem dd_87_38 : decode prog_5_method_3_code 38 = .ok (.iconst 0, 1) := by decide +kernel
theorem dd_87_39 : decode prog_5_method_3_code 39 = .ok (.putfield 53, 3) := by decide +kernel
theorem dd_87_42 : decode prog_5_method_3_code 42 = .ok (.aload_n 0, 1) := by decide +kernel
theorem dd_87_43 : decode prog_5_method_3_code 43 = .ok (.iconst 0, 1) := by decide +kernel
theorem dd_87_44 : decode prog_5_method_3_code 44 = .ok (.putfield 56, 3) := by decide +kernel
theorem dd_87_47 : decode prog_5_method_3_code 47 = .ok (.aload_n 0, 1) := by decide +kernel
theorem dd_87_48 : decode prog_5_method_3_code 48 = .ok (.iconst 1, 1) := by decide +kernel
theorem dd_87_49 : decode prog_5_method_3_code 49 = .ok (.putfield 29, 3) := by decide +kernel
theorem dd_87_52 : decode prog_5_method_3_code 52 = .ok (.iconst 1, 1) := by decide +kernel
theorem dd_87_53 : decode prog_5_method_3_code 53 = .ok (.ireturn, 1) := by decide +kernel
set_option maxRecDepth 100000 in
theorem okI_87 : mj_okI gG "PairMachine$Machine" prog_5_method_3_code 1 (mj_off oM_87) (Option.some Jvm.ClassFile.FieldType.boolean) false true 0 cM_87 :=
  ⟨Or.inl ⟨0, rfl, dd_87_0, rfl⟩,
   ⟨14, "PairMachine$Machine", fT6, 10, dd_87_1, rfl, okc_6, by decide, tw_513⟩,
   ⟨rfl, tw_530, by decide, tw_509, by decide +kernel, 43, tw_531, dd_87_4, tw_532, ⟨"PairMachine$Store", fT7, 9, rfl, tw_533⟩, by decide +kernel⟩,
   Or.inl ⟨0, rfl, dd_87_7, rfl⟩,
   ⟨dd_87_8, rfl⟩,
   ⟨5, dd_87_9, rfl, rfl⟩,
   Or.inl (Or.inl ⟨dd_87_12, rfl⟩),
   ⟨dd_87_13, rfl⟩,
   Or.inl ⟨0, rfl, dd_87_14, rfl⟩,
   ⟨14, "PairMachine$Machine", fT6, 10, dd_87_15, rfl, okc_6, by decide, tw_513⟩,
   ⟨rfl, tw_534, by decide, tw_509, by decide +kernel, 47, tw_535, dd_87_18, tw_536, ⟨"PairMachine$Store", fT7, 9, rfl, tw_537⟩, by decide +kernel⟩,
   Or.inl ⟨0, rfl, dd_87_21, rfl⟩,
   Or.inl ⟨0, rfl, dd_87_22, rfl⟩,
   ⟨14, "PairMachine$Machine", fT6, 10, dd_87_23, rfl, okc_6, by decide, tw_513⟩,
   ⟨rfl, tw_530, by decide, tw_509, by decide +kernel, 43, tw_531, dd_87_26, tw_532, ⟨"PairMachine$Store", fT7, 9, rfl, tw_533⟩, by decide +kernel⟩,
   ⟨rfl, tw_526, by decide, tw_143, by decide +kernel, 39, tw_527, dd_87_29, tw_528, ⟨"PairMachine$Machine", fT6, 10, rfl, tw_529⟩, by decide +kernel⟩,
   Or.inl ⟨0, rfl, dd_87_32, rfl⟩,
   Or.inl (Or.inl ⟨dd_87_33, rfl⟩),
   ⟨50, "PairMachine$Machine", fT6, 10, dd_87_34, rfl, okc_6, by decide, tw_538, rfl, Or.inl rfl⟩,
   Or.inl ⟨0, rfl, dd_87_37, rfl⟩,
   Or.inl (Or.inl ⟨dd_87_38, rfl⟩),
   ⟨53, "PairMachine$Machine", fT6, 10, dd_87_39, rfl, okc_6, by decide, tw_539, rfl, Or.inl rfl⟩,
   Or.inl ⟨0, rfl, dd_87_42, rfl⟩,
   Or.inl (Or.inl ⟨dd_87_43, rfl⟩),
   ⟨56, "PairMachine$Machine", fT6, 10, dd_87_44, rfl, okc_6, by decide, tw_540, rfl, Or.inl rfl⟩,
   Or.inl ⟨0, rfl, dd_87_47, rfl⟩,
   Or.inl (Or.inl ⟨dd_87_48, rfl⟩),
   ⟨29, "PairMachine$Machine", fT6, 10, dd_87_49, rfl, okc_6, by decide, tw_521, rfl, Or.inl rfl⟩,
   Or.inl (Or.inl ⟨dd_87_52, rfl⟩),
   ⟨dd_87_53, rfl⟩, trivial⟩
theorem okM_87 : mj_okE gG 87 (cM_87, 1, oM_87, hM_87) := ⟨rfl, rfl, by decide +kernel, trivial, okI_87⟩
theorem dd_88_0 : decode prog_5_method_4_code 0 = .ok (.aload_n 0, 1) := by decide +kernel
theorem dd_88_1 : decode prog_5_method_4_code 1 = .ok (.lconst 0, 1) := by decide +kernel
theorem dd_88_2 : decode prog_5_method_4_code 2 = .ok (.putfield 59, 3) := by decide +kernel
theorem dd_88_5 : decode prog_5_method_4_code 5 = .ok (.aload_n 0, 1) := by decide +kernel
theorem dd_88_6 : decode prog_5_method_4_code 6 = .ok (.lconst 0, 1) := by decide +kernel
theorem dd_88_7 : decode prog_5_method_4_code 7 = .ok (.putfield 63, 3) := by decide +kernel
theorem dd_88_10 : decode prog_5_method_4_code 10 = .ok (.aload_n 0, 1) := by decide +kernel
theorem dd_88_11 : decode prog_5_method_4_code 11 = .ok (.lload_n 1, 1) := by decide +kernel
theorem dd_88_12 : decode prog_5_method_4_code 12 = .ok (.putfield 66, 3) := by decide +kernel
theorem dd_88_15 : decode prog_5_method_4_code 15 = .ok (.aload_n 0, 1) := by decide +kernel
theorem dd_88_16 : decode prog_5_method_4_code 16 = .ok (.lconst 0, 1) := by decide +kernel
theorem dd_88_17 : decode prog_5_method_4_code 17 = .ok (.putfield 69, 3) := by decide +kernel
theorem dd_88_20 : decode prog_5_method_4_code 20 = .ok (.return_, 1) := by decide +kernel
set_option maxRecDepth 100000 in
theorem okI_88 : mj_okI gG "PairMachine$Machine" prog_5_method_4_code 3 (mj_off oM_88) (Option.none : Option Jvm.ClassFile.FieldType) false true 0 cM_88 :=
  ⟨Or.inl ⟨0, rfl, dd_88_0, rfl⟩,
   Or.inl ⟨0, rfl, dd_88_1, rfl⟩,
   ⟨59, "PairMachine$Machine", fT6, 10, dd_88_2, rfl, okc_6, by decide, tw_541, rfl, Or.inl rfl⟩,
   Or.inl ⟨0, rfl, dd_88_5, rfl⟩,
   Or.inl ⟨0, rfl, dd_88_6, rfl⟩,
   ⟨63, "PairMachine$Machine", fT6, 10, dd_88_7, rfl, okc_6, by decide, tw_542, rfl, Or.inl rfl⟩,
   Or.inl ⟨0, rfl, dd_88_10, rfl⟩,
   Or.inl ⟨1, rfl, dd_88_11, rfl⟩,
   ⟨66, "PairMachine$Machine", fT6, 10, dd_88_12, rfl, okc_6, by decide, tw_543, rfl, Or.inl rfl⟩,
   Or.inl ⟨0, rfl, dd_88_15, rfl⟩,
   Or.inl ⟨0, rfl, dd_88_16, rfl⟩,
   ⟨69, "PairMachine$Machine", fT6, 10, dd_88_17, rfl, okc_6, by decide, tw_544, rfl, Or.inl rfl⟩,
   ⟨dd_88_20, rfl⟩, trivial⟩
theorem okM_88 : mj_okE gG 88 (cM_88, 3, oM_88, hM_88) := ⟨rfl, rfl, by decide +kernel, trivial, okI_88⟩
theorem dd_89_0 : decode prog_5_method_5_code 0 = .ok (.aload_n 0, 1) := by decide +kernel
theorem dd_89_1 : decode prog_5_method_5_code 1 = .ok (.dup, 1) := by decide +kernel
theorem dd_89_2 : decode prog_5_method_5_code 2 = .ok (.getfield 56, 3) := by decide +kernel
theorem dd_89_5 : decode prog_5_method_5_code 5 = .ok (.iconst 1, 1) := by decide +kernel
theorem dd_89_6 : decode prog_5_method_5_code 6 = .ok (.iadd, 1) := by decide +kernel
theorem dd_89_7 : decode prog_5_method_5_code 7 = .ok (.putfield 56, 3) := by decide +kernel
theorem dd_89_10 : decode prog_5_method_5_code 10 = .ok (.aload_n 0, 1) := by decide +kernel
theorem dd_89_11 : decode prog_5_method_5_code 11 = .ok (.invokevirtual 72, 3) := by decide +kernel
theorem dd_89_14 : decode prog_5_method_5_code 14 = .ok (.istore_n 1, 1) := by decide +kernel
theorem dd_89_15 : decode prog_5_method_5_code 15 = .ok (.iload_n 1, 1) := by decide +kernel
theorem dd_89_16 : decode prog_5_method_5_code 16 = .ok (.invokestatic 76, 3) := by decide +kernel
theorem dd_89_19 : decode prog_5_method_5_code 19 = .ok (.istore_n 2, 1) := by decide +kernel
theorem dd_89_20 : decode prog_5_method_5_code 20 = .ok (.aload_n 0, 1) := by decide +kernel
theorem dd_89_21 : decode prog_5_method_5_code 21 = .ok (.getfield 14, 3) := by decide +kernel
theorem dd_89_24 : decode prog_5_method_5_code 24 = .ok (.invokevirtual 82, 3) := by decide +kernel
theorem dd_89_27 : decode prog_5_method_5_code 27 = .ok (.iload_n 2, 1) := by decide +kernel
theorem dd_89_28 : decode prog_5_method_5_code 28 = .ok (.if_icmp .ge 7, 3) := by decide +kernel
theorem dd_89_31 : decode prog_5_method_5_code 31 = .ok (.aload_n 0, 1) := by decide +kernel
theorem dd_89_32 : decode prog_5_method_5_code 32 = .ok (.invokevirtual 85, 3) := by decide +kernel
theorem dd_89_35 : decode prog_5_method_5_code 35 = .ok (.aload_n 0, 1) := by decide +kernel
theorem dd_89_36 : decode prog_5_method_5_code 36 = .ok (.getfield 14, 3) := by decide +kernel
theorem dd_89_39 : decode prog_5_method_5_code 39 = .ok (.invokevirtual 82, 3) := by decide +kernel
theorem dd_89_42 : decode prog_5_method_5_code 42 = .ok (.iload_n 2, 1) := by decide +kernel
theorem dd_89_43 : decode prog_5_method_5_code 43 = .ok (.if_icmp .ge 11, 3) := by decide +kernel
theorem dd_89_46 : decode prog_5_method_5_code 46 = .ok (.aload_n 0, 1) := by decide +kernel
theorem dd_89_47 : decode prog_5_method_5_code 47 = .ok (.iconst 4, 1) := by decide +kernel
theorem dd_89_48 : decode prog_5_method_5_code 48 = .ok (.putfield 29, 3) := by decide +kernel
theorem dd_89_51 : decode prog_5_method_5_code 51 = .ok (.goto 16, 3) := by decide +kernel
theorem dd_89_54 : decode prog_5_method_5_code 54 = .ok (.aload_n 0, 1) := by decide +kernel
theorem dd_89_55 : decode prog_5_method_5_code 55 = .ok (.iload_n 1, 1) := by decide +kernel
theorem dd_89_56 : decode prog_5_method_5_code 56 = .ok (.invokevirtual 88, 3) := by decide +kernel
theorem dd_89_59 : decode prog_5_method_5_code 59 = .ok (.ifCond .ne 8, 3) := by decide +kernel
theorem dd_89_62 : decode prog_5_method_5_code 62 = .ok (.aload_n 0, 1) := by decide +kernel
theorem dd_89_63 : decode prog_5_method_5_code 63 = .ok (.iconst 3, 1) := by decide +kernel
theorem dd_89_64 : decode prog_5_method_5_code 64 = .ok (.putfield 29, 3) := by decide +kernel
theorem dd_89_67 : decode prog_5_method_5_code 67 = .ok (.return_, 1) := by decide +kernel
set_option maxRecDepth 100000 in
theorem okI_89 : mj_okI gG "PairMachine$Machine" prog_5_method_5_code 3 (mj_off oM_89) (Option.none : Option Jvm.ClassFile.FieldType) false true 0 cM_89 :=
  ⟨Or.inl ⟨0, rfl, dd_89_0, rfl⟩,
   ⟨dd_89_1, rfl⟩,
   ⟨56, "PairMachine$Machine", fT6, 10, dd_89_2, rfl, okc_6, by decide, tw_540⟩,
   Or.inl (Or.inl ⟨dd_89_5, rfl⟩),
   ⟨dd_89_6, rfl⟩,
   ⟨56, "PairMachine$Machine", fT6, 10, dd_89_7, rfl, okc_6, by decide, tw_540, rfl, Or.inl rfl⟩,
   Or.inl ⟨0, rfl, dd_89_10, rfl⟩,
   ⟨rfl, tw_213, by decide, tw_143, by decide +kernel, 72, tw_545, dd_89_11, tw_215, ⟨"PairMachine$Machine", fT6, 10, rfl, tw_216⟩, by decide +kernel⟩,
   ⟨by decide, Or.inl ⟨1, rfl, dd_89_14, rfl⟩⟩,
   Or.inl ⟨1, rfl, dd_89_15, rfl⟩,
   ⟨rfl, tw_546, by decide, tw_308, by decide +kernel, 76, tw_547, dd_89_16, tw_548, by decide +kernel⟩,
   ⟨by decide, Or.inl ⟨2, rfl, dd_89_19, rfl⟩⟩,
   Or.inl ⟨0, rfl, dd_89_20, rfl⟩,
   ⟨14, "PairMachine$Machine", fT6, 10, dd_89_21, rfl, okc_6, by decide, tw_513⟩,
   ⟨rfl, tw_549, by decide, tw_509, by decide +kernel, 82, tw_550, dd_89_24, tw_551, ⟨"PairMachine$Store", fT7, 9, rfl, tw_552⟩, by decide +kernel⟩,
   Or.inl ⟨2, rfl, dd_89_27, rfl⟩,
   ⟨7, dd_89_28, rfl, rfl⟩,
   Or.inl ⟨0, rfl, dd_89_31, rfl⟩,
   ⟨rfl, tw_553, by decide, tw_143, by decide +kernel, 85, tw_554, dd_89_32, tw_555, ⟨"PairMachine$Machine", fT6, 10, rfl, tw_556⟩, by decide +kernel⟩,
   Or.inl ⟨0, rfl, dd_89_35, rfl⟩,
   ⟨14, "PairMachine$Machine", fT6, 10, dd_89_36, rfl, okc_6, by decide, tw_513⟩,
   ⟨rfl, tw_549, by decide, tw_509, by decide +kernel, 82, tw_550, dd_89_39, tw_551, ⟨"PairMachine$Store", fT7, 9, rfl, tw_552⟩, by decide +kernel⟩,
   Or.inl ⟨2, rfl, dd_89_42, rfl⟩,
   ⟨11, dd_89_43, rfl, rfl⟩,
   Or.inl ⟨0, rfl, dd_89_46, rfl⟩,
   Or.inl (Or.inl ⟨dd_89_47, rfl⟩),
   ⟨29, "PairMachine$Machine", fT6, 10, dd_89_48, rfl, okc_6, by decide, tw_521, rfl, Or.inl rfl⟩,
   ⟨16, dd_89_51, rfl⟩,
   Or.inl ⟨0, rfl, dd_89_54, rfl⟩,
   Or.inl ⟨1, rfl, dd_89_55, rfl⟩,
   ⟨rfl, tw_557, by decide, tw_143, by decide +kernel, 88, tw_558, dd_89_56, tw_559, ⟨"PairMachine$Machine", fT6, 10, rfl, tw_560⟩, by decide +kernel⟩,
   ⟨8, dd_89_59, rfl, rfl⟩,
   Or.inl ⟨0, rfl, dd_89_62, rfl⟩,
   Or.inl (Or.inl ⟨dd_89_63, rfl⟩),
   ⟨29, "PairMachine$Machine", fT6, 10, dd_89_64, rfl, okc_6, by decide, tw_521, rfl, Or.inl rfl⟩,
   ⟨dd_89_67, rfl⟩, trivial⟩
theorem okM_89 : mj_okE gG 89 (cM_89, 3, oM_89, hM_89) := ⟨rfl, rfl, by decide +kernel, trivial, okI_89⟩
theorem dd_90_0 : decode prog_5_method_6_code 0 = .ok (.aload_n 0, 1) := by decide +kernel
theorem dd_90_1 : decode prog_5_method_6_code 1 = .ok (.getfield 14, 3) := by decide +kernel
theorem dd_90_4 : decode prog_5_method_6_code 4 = .ok (.aload_n 0, 1) := by decide +kernel
theorem dd_90_5 : decode prog_5_method_6_code 5 = .ok (.getfield 59, 3) := by decide +kernel
theorem dd_90_8 : decode prog_5_method_6_code 8 = .ok (.aload_n 0, 1) := by decide +kernel
theorem dd_90_9 : decode prog_5_method_6_code 9 = .ok (.getfield 63, 3) := by decide +kernel
theorem dd_90_12 : decode prog_5_method_6_code 12 = .ok (.aload_n 0, 1) := by decide +kernel
theorem dd_90_13 : decode prog_5_method_6_code 13 = .ok (.getfield 66, 3) := by decide +kernel
theorem dd_90_16 : decode prog_5_method_6_code 16 = .ok (.aload_n 0, 1) := by decide +kernel
theorem dd_90_17 : decode prog_5_method_6_code 17 = .ok (.getfield 69, 3) := by decide +kernel
theorem dd_90_20 : decode prog_5_method_6_code 20 = .ok (.invokevirtual 92, 3) := by decide +kernel
theorem dd_90_23 : decode prog_5_method_6_code 23 = .ok (.pop, 1) := by decide +kernel
theorem dd_90_24 : decode prog_5_method_6_code 24 = .ok (.aload_n 0, 1) := by decide +kernel
theorem dd_90_25 : decode prog_5_method_6_code 25 = .ok (.dup, 1) := by decide +kernel
theorem dd_90_26 : decode prog_5_method_6_code 26 = .ok (.getfield 53, 3) := by decide +kernel
theorem dd_90_29 : decode prog_5_method_6_code 29 = .ok (.aload_n 0, 1) := by decide +kernel
theorem dd_90_30 : decode prog_5_method_6_code 30 = .ok (.getfield 14, 3) := by decide +kernel
theorem dd_90_33 : decode prog_5_method_6_code 33 = .ok (.invokevirtual 96, 3) := by decide +kernel
theorem dd_90_36 : decode prog_5_method_6_code 36 = .ok (.iadd, 1) := by decide +kernel
theorem dd_90_37 : decode prog_5_method_6_code 37 = .ok (.putfield 53, 3) := by decide +kernel
theorem dd_90_40 : decode prog_5_method_6_code 40 = .ok (.aload_n 0, 1) := by decide +kernel
theorem dd_90_41 : decode prog_5_method_6_code 41 = .ok (.dup, 1) := by decide +kernel
theorem dd_90_42 : decode prog_5_method_6_code 42 = .ok (.getfield 50, 3) := by decide +kernel
theorem dd_90_45 : decode prog_5_method_6_code 45 = .ok (.iconst 1, 1) := by decide +kernel
theorem dd_90_46 : decode prog_5_method_6_code 46 = .ok (.iadd, 1) := by decide +kernel
theorem dd_90_47 : decode prog_5_method_6_code 47 = .ok (.putfield 50, 3) := by decide +kernel
theorem dd_90_50 : decode prog_5_method_6_code 50 = .ok (.return_, 1) := by decide +kernel
set_option maxRecDepth 100000 in
theorem okI_90 : mj_okI gG "PairMachine$Machine" prog_5_method_6_code 1 (mj_off oM_90) (Option.none : Option Jvm.ClassFile.FieldType) false true 0 cM_90 :=
  ⟨Or.inl ⟨0, rfl, dd_90_0, rfl⟩,
   ⟨14, "PairMachine$Machine", fT6, 10, dd_90_1, rfl, okc_6, by decide, tw_513⟩,
   Or.inl ⟨0, rfl, dd_90_4, rfl⟩,
   ⟨59, "PairMachine$Machine", fT6, 10, dd_90_5, rfl, okc_6, by decide, tw_541⟩,
   Or.inl ⟨0, rfl, dd_90_8, rfl⟩,
   ⟨63, "PairMachine$Machine", fT6, 10, dd_90_9, rfl, okc_6, by decide, tw_542⟩,
   Or.inl ⟨0, rfl, dd_90_12, rfl⟩,
   ⟨66, "PairMachine$Machine", fT6, 10, dd_90_13, rfl, okc_6, by decide, tw_543⟩,
   Or.inl ⟨0, rfl, dd_90_16, rfl⟩,
   ⟨69, "PairMachine$Machine", fT6, 10, dd_90_17, rfl, okc_6, by decide, tw_544⟩,
   ⟨rfl, tw_561, by decide, tw_509, by decide +kernel, 92, tw_562, dd_90_20, tw_563, ⟨"PairMachine$Store", fT7, 9, rfl, tw_564⟩, by decide +kernel⟩,
   ⟨dd_90_23, rfl⟩,
   Or.inl ⟨0, rfl, dd_90_24, rfl⟩,
   ⟨dd_90_25, rfl⟩,
   ⟨53, "PairMachine$Machine", fT6, 10, dd_90_26, rfl, okc_6, by decide, tw_539⟩,
   Or.inl ⟨0, rfl, dd_90_29, rfl⟩,
   ⟨14, "PairMachine$Machine", fT6, 10, dd_90_30, rfl, okc_6, by decide, tw_513⟩,
   ⟨rfl, tw_565, by decide, tw_509, by decide +kernel, 96, tw_566, dd_90_33, tw_567, ⟨"PairMachine$Store", fT7, 9, rfl, tw_568⟩, by decide +kernel⟩,
   ⟨dd_90_36, rfl⟩,
   ⟨53, "PairMachine$Machine", fT6, 10, dd_90_37, rfl, okc_6, by decide, tw_539, rfl, Or.inl rfl⟩,
   Or.inl ⟨0, rfl, dd_90_40, rfl⟩,
   ⟨dd_90_41, rfl⟩,
   ⟨50, "PairMachine$Machine", fT6, 10, dd_90_42, rfl, okc_6, by decide, tw_538⟩,
   Or.inl (Or.inl ⟨dd_90_45, rfl⟩),
   ⟨dd_90_46, rfl⟩,
   ⟨50, "PairMachine$Machine", fT6, 10, dd_90_47, rfl, okc_6, by decide, tw_538, rfl, Or.inl rfl⟩,
   ⟨dd_90_50, rfl⟩, trivial⟩
theorem okM_90 : mj_okE gG 90 (cM_90, 1, oM_90, hM_90) := ⟨rfl, rfl, by decide +kernel, trivial, okI_90⟩
end
