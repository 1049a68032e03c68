section
theorem dd_57_0 : decode prog_2_method_4_code 0 = .ok (.aload_n 0, 1) := by decide +kernel
theorem dd_57_1 : decode prog_2_method_4_code 1 = .ok (.getfield 22, 3) := by decide +kernel
theorem dd_57_4 : decode prog_2_method_4_code 4 = .ok (.ifCond .lt 15, 3) := by decide +kernel
theorem dd_57_7 : decode prog_2_method_4_code 7 = .ok (.aload_n 0, 1) := by decide +kernel
theorem dd_57_8 : decode prog_2_method_4_code 8 = .ok (.getfield 22, 3) := by decide +kernel
theorem dd_57_11 : decode prog_2_method_4_code 11 = .ok (.aload_n 0, 1) := by decide +kernel
theorem dd_57_12 : decode prog_2_method_4_code 12 = .ok (.getfield 9, 3) := by decide +kernel
theorem dd_57_15 : decode prog_2_method_4_code 15 = .ok (.arraylength, 1) := by decide +kernel
theorem dd_57_16 : decode prog_2_method_4_code 16 = .ok (.if_icmp .lt 4, 3) := by decide +kernel
theorem dd_57_19 : decode prog_2_method_4_code 19 = .ok (.return_, 1) := by decide +kernel
theorem dd_57_20 : decode prog_2_method_4_code 20 = .ok (.aload_n 0, 1) := by decide +kernel
theorem dd_57_21 : decode prog_2_method_4_code 21 = .ok (.getfield 25, 3) := by decide +kernel
theorem dd_57_24 : decode prog_2_method_4_code 24 = .ok (.ifCond .eq 16, 3) := by decide +kernel
theorem dd_57_27 : decode prog_2_method_4_code 27 = .ok (.aload_n 0, 1) := by decide +kernel
theorem dd_57_28 : decode prog_2_method_4_code 28 = .ok (.getfield 9, 3) := by decide +kernel
theorem dd_57_31 : decode prog_2_method_4_code 31 = .ok (.aload_n 0, 1) := by decide +kernel
theorem dd_57_32 : decode prog_2_method_4_code 32 = .ok (.getfield 22, 3) := by decide +kernel
theorem dd_57_35 : decode prog_2_method_4_code 35 = .ok (.lload_n 1, 1) := by decide +kernel
theorem dd_57_36 : decode prog_2_method_4_code 36 = .ok (.lastore, 1) := by decide +kernel
theorem dd_57_37 : decode prog_2_method_4_code 37 = .ok (.goto 13, 3) := by decide +kernel
theorem dd_57_40 : decode prog_2_method_4_code 40 = .ok (.aload_n 0, 1) := by decide +kernel
theorem dd_57_41 : decode prog_2_method_4_code 41 = .ok (.getfield 15, 3) := by decide +kernel
theorem dd_57_44 : decode prog_2_method_4_code 44 = .ok (.aload_n 0, 1) := by decide +kernel
theorem dd_57_45 : decode prog_2_method_4_code 45 = .ok (.getfield 22, 3) := by decide +kernel
theorem dd_57_48 : decode prog_2_method_4_code 48 = .ok (.lload_n 1, 1) := by decide +kernel
theorem dd_57_49 : decode prog_2_method_4_code 49 = .ok (.lastore, 1) := by decide +kernel
theorem dd_57_50 : decode prog_2_method_4_code 50 = .ok (.return_, 1) := by decide +kernel
set_option maxRecDepth 100000 in
theorem okI_57 : mj_okI gG "PairMachine$Code" prog_2_method_4_code 3 (mj_off oM_57) (Option.none : Option Jvm.ClassFile.FieldType) false true 0 cM_57 :=
  ⟨Or.inl ⟨0, rfl, dd_57_0, rfl⟩,
   ⟨22, "PairMachine$Code", fT4, 5, dd_57_1, rfl, okc_4, by decide, tw_369⟩,
   ⟨15, dd_57_4, rfl, rfl⟩,
   Or.inl ⟨0, rfl, dd_57_7, rfl⟩,
   ⟨22, "PairMachine$Code", fT4, 5, dd_57_8, rfl, okc_4, by decide, tw_369⟩,
   Or.inl ⟨0, rfl, dd_57_11, rfl⟩,
   ⟨9, "PairMachine$Code", fT4, 5, dd_57_12, rfl, okc_4, by decide, tw_366⟩,
   ⟨dd_57_15, rfl⟩,
   ⟨4, dd_57_16, rfl, rfl⟩,
   ⟨dd_57_19, rfl⟩,
   Or.inl ⟨0, rfl, dd_57_20, rfl⟩,
   ⟨25, "PairMachine$Code", fT4, 5, dd_57_21, rfl, okc_4, by decide, tw_370⟩,
   ⟨16, dd_57_24, rfl, rfl⟩,
   Or.inl ⟨0, rfl, dd_57_27, rfl⟩,
   ⟨9, "PairMachine$Code", fT4, 5, dd_57_28, rfl, okc_4, by decide, tw_366⟩,
   Or.inl ⟨0, rfl, dd_57_31, rfl⟩,
   ⟨22, "PairMachine$Code", fT4, 5, dd_57_32, rfl, okc_4, by decide, tw_369⟩,
   Or.inl ⟨1, rfl, dd_57_35, rfl⟩,
   ⟨dd_57_36, rfl⟩,
   ⟨13, dd_57_37, rfl⟩,
   Or.inl ⟨0, rfl, dd_57_40, rfl⟩,
   ⟨15, "PairMachine$Code", fT4, 5, dd_57_41, rfl, okc_4, by decide, tw_367⟩,
   Or.inl ⟨0, rfl, dd_57_44, rfl⟩,
   ⟨22, "PairMachine$Code", fT4, 5, dd_57_45, rfl, okc_4, by decide, tw_369⟩,
   Or.inl ⟨1, rfl, dd_57_48, rfl⟩,
   ⟨dd_57_49, rfl⟩,
   ⟨dd_57_50, rfl⟩, trivial⟩
theorem okM_57 : mj_okE gG 57 (cM_57, 3, oM_57, hM_57) := ⟨rfl, rfl, by decide +kernel, trivial, okI_57⟩
theorem dd_58_0 : decode prog_2_method_5_code 0 = .ok (.aload_n 0, 1) := by decide +kernel
theorem dd_58_1 : decode prog_2_method_5_code 1 = .ok (.iload_n 1, 1) := by decide +kernel
theorem dd_58_2 : decode prog_2_method_5_code 2 = .ok (.invokestatic 39, 3) := by decide +kernel
theorem dd_58_5 : decode prog_2_method_5_code 5 = .ok (.invokevirtual 42, 3) := by decide +kernel
theorem dd_58_8 : decode prog_2_method_5_code 8 = .ok (.return_, 1) := by decide +kernel
set_option maxRecDepth 100000 in
theorem okI_58 : mj_okI gG "PairMachine$Code" prog_2_method_5_code 2 (mj_off oM_58) (Option.none : Option Jvm.ClassFile.FieldType) false true 0 cM_58 :=
  ⟨Or.inl ⟨0, rfl, dd_58_0, rfl⟩,
   Or.inl ⟨1, rfl, dd_58_1, rfl⟩,
   ⟨rfl, tw_379, by decide, tw_372, by decide +kernel, 39, tw_380, dd_58_2, tw_381, by decide +kernel⟩,
   ⟨rfl, tw_382, by decide, tw_129, by decide +kernel, 42, tw_383, dd_58_5, tw_384, ⟨"PairMachine$Code", fT4, 5, rfl, tw_385⟩, by decide +kernel⟩,
   ⟨dd_58_8, rfl⟩, trivial⟩
theorem okM_58 : mj_okE gG 58 (cM_58, 2, oM_58, hM_58) := ⟨rfl, rfl, by decide +kernel, trivial, okI_58⟩
theorem dd_59_0 : decode prog_2_method_6_code 0 = .ok (.aload_n 0, 1) := by decide +kernel
theorem dd_59_1 : decode prog_2_method_6_code 1 = .ok (.lconst 0, 1) := by decide +kernel
theorem dd_59_2 : decode prog_2_method_6_code 2 = .ok (.invokevirtual 42, 3) := by decide +kernel
theorem dd_59_5 : decode prog_2_method_6_code 5 = .ok (.aload_n 0, 1) := by decide +kernel
theorem dd_59_6 : decode prog_2_method_6_code 6 = .ok (.iconst 1, 1) := by decide +kernel
theorem dd_59_7 : decode prog_2_method_6_code 7 = .ok (.putfield 25, 3) := by decide +kernel
theorem dd_59_10 : decode prog_2_method_6_code 10 = .ok (.aload_n 0, 1) := by decide +kernel
theorem dd_59_11 : decode prog_2_method_6_code 11 = .ok (.getfield 22, 3) := by decide +kernel
theorem dd_59_14 : decode prog_2_method_6_code 14 = .ok (.ireturn, 1) := by decide +kernel
set_option maxRecDepth 100000 in
theorem okI_59 : mj_okI gG "PairMachine$Code" prog_2_method_6_code 1 (mj_off oM_59) (Option.some Jvm.ClassFile.FieldType.int) false true 0 cM_59 :=
  ⟨Or.inl ⟨0, rfl, dd_59_0, rfl⟩,
   Or.inl ⟨0, rfl, dd_59_1, rfl⟩,
   ⟨rfl, tw_382, by decide, tw_129, by decide +kernel, 42, tw_383, dd_59_2, tw_384, ⟨"PairMachine$Code", fT4, 5, rfl, tw_385⟩, by decide +kernel⟩,
   Or.inl ⟨0, rfl, dd_59_5, rfl⟩,
   Or.inl (Or.inl ⟨dd_59_6, rfl⟩),
   ⟨25, "PairMachine$Code", fT4, 5, dd_59_7, rfl, okc_4, by decide, tw_370, Or.inl rfl, Or.inl rfl⟩,
   Or.inl ⟨0, rfl, dd_59_10, rfl⟩,
   ⟨22, "PairMachine$Code", fT4, 5, dd_59_11, rfl, okc_4, by decide, tw_369⟩,
   ⟨dd_59_14, rfl⟩, trivial⟩
theorem okM_59 : mj_okE gG 59 (cM_59, 1, oM_59, hM_59) := ⟨rfl, rfl, by decide +kernel, trivial, okI_59⟩
theorem dd_60_0 : decode prog_2_method_7_code 0 = .ok (.aload_n 0, 1) := by decide +kernel
theorem dd_60_1 : decode prog_2_method_7_code 1 = .ok (.iload_n 1, 1) := by decide +kernel
theorem dd_60_2 : decode prog_2_method_7_code 2 = .ok (.putfield 22, 3) := by decide +kernel
theorem dd_60_5 : decode prog_2_method_7_code 5 = .ok (.aload_n 0, 1) := by decide +kernel
theorem dd_60_6 : decode prog_2_method_7_code 6 = .ok (.iconst 0, 1) := by decide +kernel
theorem dd_60_7 : decode prog_2_method_7_code 7 = .ok (.putfield 25, 3) := by decide +kernel
theorem dd_60_10 : decode prog_2_method_7_code 10 = .ok (.return_, 1) := by decide +kernel
set_option maxRecDepth 100000 in
theorem okI_60 : mj_okI gG "PairMachine$Code" prog_2_method_7_code 2 (mj_off oM_60) (Option.none : Option Jvm.ClassFile.FieldType) false true 0 cM_60 :=
  ⟨Or.inl ⟨0, rfl, dd_60_0, rfl⟩,
   Or.inl ⟨1, rfl, dd_60_1, rfl⟩,
   ⟨22, "PairMachine$Code", fT4, 5, dd_60_2, rfl, okc_4, by decide, tw_369, rfl, Or.inl rfl⟩,
   Or.inl ⟨0, rfl, dd_60_5, rfl⟩,
   Or.inl (Or.inl ⟨dd_60_6, rfl⟩),
   ⟨25, "PairMachine$Code", fT4, 5, dd_60_7, rfl, okc_4, by decide, tw_370, Or.inl rfl, Or.inl rfl⟩,
   ⟨dd_60_10, rfl⟩, trivial⟩
theorem okM_60 : mj_okE gG 60 (cM_60, 2, oM_60, hM_60) := ⟨rfl, rfl, by decide +kernel, trivial, okI_60⟩
theorem dd_61_0 : decode prog_2_method_8_code 0 = .ok (.aload_n 0, 1) := by decide +kernel
theorem dd_61_1 : decode prog_2_method_8_code 1 = .ok (.getfield 18, 3) := by decide +kernel
theorem dd_61_4 : decode prog_2_method_8_code 4 = .ok (.ireturn, 1) := by decide +kernel
set_option maxRecDepth 100000 in
theorem okI_61 : mj_okI gG "PairMachine$Code" prog_2_method_8_code 1 (mj_off oM_61) (Option.some Jvm.ClassFile.FieldType.int) false true 0 cM_61 :=
  ⟨Or.inl ⟨0, rfl, dd_61_0, rfl⟩,
   ⟨18, "PairMachine$Code", fT4, 5, dd_61_1, rfl, okc_4, by decide, tw_368⟩,
   ⟨dd_61_4, rfl⟩, trivial⟩
theorem okM_61 : mj_okE gG 61 (cM_61, 1, oM_61, hM_61) := ⟨rfl, rfl, by decide +kernel, trivial, okI_61⟩
theorem dd_62_0 : decode prog_2_method_9_code 0 = .ok (.iload_n 1, 1) := by decide +kernel
theorem dd_62_1 : decode prog_2_method_9_code 1 = .ok (.ifCond .lt 21, 3) := by decide +kernel
theorem dd_62_4 : decode prog_2_method_9_code 4 = .ok (.iload_n 1, 1) := by decide +kernel
theorem dd_62_5 : decode prog_2_method_9_code 5 = .ok (.aload_n 0, 1) := by decide +kernel
theorem dd_62_6 : decode prog_2_method_9_code 6 = .ok (.getfield 9, 3) := by decide +kernel
theorem dd_62_9 : decode prog_2_method_9_code 9 = .ok (.arraylength, 1) := by decide +kernel
theorem dd_62_10 : decode prog_2_method_9_code 10 = .ok (.if_icmp .ge 12, 3) := by decide +kernel
theorem dd_62_13 : decode prog_2_method_9_code 13 = .ok (.aload_n 0, 1) := by decide +kernel
theorem dd_62_14 : decode prog_2_method_9_code 14 = .ok (.getfield 9, 3) := by decide +kernel
theorem dd_62_17 : decode prog_2_method_9_code 17 = .ok (.iload_n 1, 1) := by decide +kernel
theorem dd_62_18 : decode prog_2_method_9_code 18 = .ok (.laload, 1) := by decide +kernel
theorem dd_62_19 : decode prog_2_method_9_code 19 = .ok (.goto 4, 3) := by decide +kernel
theorem dd_62_22 : decode prog_2_method_9_code 22 = .ok (.lconst 0, 1) := by decide +kernel
theorem dd_62_23 : decode prog_2_method_9_code 23 = .ok (.lreturn, 1) := by decide +kernel
set_option maxRecDepth 100000 in
theorem okI_62 : mj_okI gG "PairMachine$Code" prog_2_method_9_code 2 (mj_off oM_62) (Option.some Jvm.ClassFile.FieldType.long) false true 0 cM_62 :=
  ⟨Or.inl ⟨1, rfl, dd_62_0, rfl⟩,
   ⟨21, dd_62_1, rfl, rfl⟩,
   Or.inl ⟨1, rfl, dd_62_4, rfl⟩,
   Or.inl ⟨0, rfl, dd_62_5, rfl⟩,
   ⟨9, "PairMachine$Code", fT4, 5, dd_62_6, rfl, okc_4, by decide, tw_366⟩,
   ⟨dd_62_9, rfl⟩,
   ⟨12, dd_62_10, rfl, rfl⟩,
   Or.inl ⟨0, rfl, dd_62_13, rfl⟩,
   ⟨9, "PairMachine$Code", fT4, 5, dd_62_14, rfl, okc_4, by decide, tw_366⟩,
   Or.inl ⟨1, rfl, dd_62_17, rfl⟩,
   ⟨dd_62_18, rfl⟩,
   ⟨4, dd_62_19, rfl⟩,
   Or.inl ⟨0, rfl, dd_62_22, rfl⟩,
   ⟨dd_62_23, rfl⟩, trivial⟩
theorem okM_62 : mj_okE gG 62 (cM_62, 2, oM_62, hM_62) := ⟨rfl, rfl, by decide +kernel, trivial, okI_62⟩
theorem dd_63_0 : decode prog_2_method_10_code 0 = .ok (.iload_n 1, 1) := by decide +kernel
theorem dd_63_1 : decode prog_2_method_10_code 1 = .ok (.ifCond .lt 21, 3) := by decide +kernel
theorem dd_63_4 : decode prog_2_method_10_code 4 = .ok (.iload_n 1, 1) := by decide +kernel
theorem dd_63_5 : decode prog_2_method_10_code 5 = .ok (.aload_n 0, 1) := by decide +kernel
theorem dd_63_6 : decode prog_2_method_10_code 6 = .ok (.getfield 15, 3) := by decide +kernel
theorem dd_63_9 : decode prog_2_method_10_code 9 = .ok (.arraylength, 1) := by decide +kernel
theorem dd_63_10 : decode prog_2_method_10_code 10 = .ok (.if_icmp .ge 12, 3) := by decide +kernel
theorem dd_63_13 : decode prog_2_method_10_code 13 = .ok (.aload_n 0, 1) := by decide +kernel
theorem dd_63_14 : decode prog_2_method_10_code 14 = .ok (.getfield 15, 3) := by decide +kernel
theorem dd_63_17 : decode prog_2_method_10_code 17 = .ok (.iload_n 1, 1) := by decide +kernel
theorem dd_63_18 : decode prog_2_method_10_code 18 = .ok (.laload, 1) := by decide +kernel
theorem dd_63_19 : decode prog_2_method_10_code 19 = .ok (.goto 4, 3) := by decide +kernel
theorem dd_63_22 : decode prog_2_method_10_code 22 = .ok (.lconst 0, 1) := by decide +kernel
theorem dd_63_23 : decode prog_2_method_10_code 23 = .ok (.lreturn, 1) := by decide +kernel
set_option maxRecDepth 100000 in
theorem okI_63 : mj_okI gG "PairMachine$Code" prog_2_method_10_code 2 (mj_off oM_63) (Option.some Jvm.ClassFile.FieldType.long) false true 0 cM_63 :=
  ⟨Or.inl ⟨1, rfl, dd_63_0, rfl⟩,
   ⟨21, dd_63_1, rfl, rfl⟩,
   Or.inl ⟨1, rfl, dd_63_4, rfl⟩,
   Or.inl ⟨0, rfl, dd_63_5, rfl⟩,
   ⟨15, "PairMachine$Code", fT4, 5, dd_63_6, rfl, okc_4, by decide, tw_367⟩,
   ⟨dd_63_9, rfl⟩,
   ⟨12, dd_63_10, rfl, rfl⟩,
   Or.inl ⟨0, rfl, dd_63_13, rfl⟩,
   ⟨15, "PairMachine$Code", fT4, 5, dd_63_14, rfl, okc_4, by decide, tw_367⟩,
   Or.inl ⟨1, rfl, dd_63_17, rfl⟩,
   ⟨dd_63_18, rfl⟩,
   ⟨4, dd_63_19, rfl⟩,
   Or.inl ⟨0, rfl, dd_63_22, rfl⟩,
   ⟨dd_63_23, rfl⟩, trivial⟩
theorem okM_63 : mj_okE gG 63 (cM_63, 2, oM_63, hM_63) := ⟨rfl, rfl, by decide +kernel, trivial, okI_63⟩
theorem dd_64_0 : decode prog_3_method_1_code 0 = .ok (.aload_n 0, 1) := by decide +kernel
theorem dd_64_1 : decode prog_3_method_1_code 1 = .ok (.invokespecial 3, 3) := by decide +kernel
theorem dd_64_4 : decode prog_3_method_1_code 4 = .ok (.aload_n 0, 1) := by decide +kernel
theorem dd_64_5 : decode prog_3_method_1_code 5 = .ok (.aload_n 1, 1) := by decide +kernel
theorem dd_64_6 : decode prog_3_method_1_code 6 = .ok (.putfield 9, 3) := by decide +kernel
theorem dd_64_9 : decode prog_3_method_1_code 9 = .ok (.aload_n 0, 1) := by decide +kernel
theorem dd_64_10 : decode prog_3_method_1_code 10 = .ok (.aload_n 2, 1) := by decide +kernel
theorem dd_64_11 : decode prog_3_method_1_code 11 = .ok (.putfield 15, 3) := by decide +kernel
theorem dd_64_14 : decode prog_3_method_1_code 14 = .ok (.aload_n 0, 1) := by decide +kernel
theorem dd_64_15 : decode prog_3_method_1_code 15 = .ok (.bipush 9, 2) := by decide +kernel
theorem dd_64_17 : decode prog_3_method_1_code 17 = .ok (.newarray .int, 2) := by decide +kernel
theorem dd_64_19 : decode prog_3_method_1_code 19 = .ok (.putfield 19, 3) := by decide +kernel
theorem dd_64_22 : decode prog_3_method_1_code 22 = .ok (.return_, 1) := by decide +kernel
set_option maxRecDepth 100000 in
theorem okI_64 : mj_okI gG "PairMachine$Coder" prog_3_method_1_code 3 (mj_off oM_64) (Option.none : Option Jvm.ClassFile.FieldType) true true 0 cM_64 :=
  ⟨Or.inl ⟨0, rfl, dd_64_0, rfl⟩,
   ⟨3, dd_64_1, rfl, tw_386, tw_97, tw_98⟩,
   Or.inl ⟨0, rfl, dd_64_4, rfl⟩,
   Or.inl ⟨1, rfl, dd_64_5, rfl⟩,
   ⟨9, "PairMachine$Coder", fT5, 5, dd_64_6, rfl, okc_5, by decide, tw_387, Or.inl ⟨_, rfl⟩, Or.inr ⟨rfl, by decide, rfl⟩⟩,
   Or.inl ⟨0, rfl, dd_64_9, rfl⟩,
   Or.inl ⟨2, rfl, dd_64_10, rfl⟩,
   ⟨15, "PairMachine$Coder", fT5, 5, dd_64_11, rfl, okc_5, by decide, tw_388, Or.inl ⟨_, rfl⟩, Or.inr ⟨rfl, by decide, rfl⟩⟩,
   Or.inl ⟨0, rfl, dd_64_14, rfl⟩,
   Or.inl (Or.inr (Or.inl ⟨dd_64_15, rfl, by decide⟩)),
   ⟨dd_64_17, rfl, tw_232⟩,
   ⟨19, "PairMachine$Coder", fT5, 5, dd_64_19, rfl, okc_5, by decide, tw_389, Or.inr ⟨_, rfl⟩, Or.inr ⟨rfl, by decide, rfl⟩⟩,
   ⟨dd_64_22, rfl⟩, trivial⟩
theorem okM_64 : mj_okE gG 64 (cM_64, 3, oM_64, hM_64) := ⟨rfl, rfl, by decide +kernel, trivial, okI_64⟩
theorem dd_65_0 : decode prog_3_method_2_code 0 = .ok (.aload_n 0, 1) := by decide +kernel
theorem dd_65_1 : decode prog_3_method_2_code 1 = .ok (.getfield 15, 3) := by decide +kernel
theorem dd_65_4 : decode prog_3_method_2_code 4 = .ok (.invokevirtual 23, 3) := by decide +kernel
theorem dd_65_7 : decode prog_3_method_2_code 7 = .ok (.aload_n 0, 1) := by decide +kernel
theorem dd_65_8 : decode prog_3_method_2_code 8 = .ok (.iconst 0, 1) := by decide +kernel
theorem dd_65_9 : decode prog_3_method_2_code 9 = .ok (.putfield 28, 3) := by decide +kernel
theorem dd_65_12 : decode prog_3_method_2_code 12 = .ok (.aload_n 0, 1) := by decide +kernel
theorem dd_65_13 : decode prog_3_method_2_code 13 = .ok (.iconst (-1), 1) := by decide +kernel
theorem dd_65_14 : decode prog_3_method_2_code 14 = .ok (.putfield 32, 3) := by decide +kernel
theorem dd_65_17 : decode prog_3_method_2_code 17 = .ok (.aload_n 0, 1) := by decide +kernel
theorem dd_65_18 : decode prog_3_method_2_code 18 = .ok (.iconst 0, 1) := by decide +kernel
theorem dd_65_19 : decode prog_3_method_2_code 19 = .ok (.iconst 0, 1) := by decide +kernel
theorem dd_65_20 : decode prog_3_method_2_code 20 = .ok (.invokevirtual 37, 3) := by decide +kernel
theorem dd_65_23 : decode prog_3_method_2_code 23 = .ok (.aload_n 0, 1) := by decide +kernel
theorem dd_65_24 : decode prog_3_method_2_code 24 = .ok (.getfield 15, 3) := by decide +kernel
theorem dd_65_27 : decode prog_3_method_2_code 27 = .ok (.bipush 19, 2) := by decide +kernel
theorem dd_65_29 : decode prog_3_method_2_code 29 = .ok (.invokevirtual 43, 3) := by decide +kernel
theorem dd_65_32 : decode prog_3_method_2_code 32 = .ok (.aload_n 0, 1) := by decide +kernel
theorem dd_65_33 : decode prog_3_method_2_code 33 = .ok (.getfield 32, 3) := by decide +kernel
theorem dd_65_36 : decode prog_3_method_2_code 36 = .ok (.ireturn, 1) := by decide +kernel
set_option maxRecDepth 100000 in
theorem okI_65 : mj_okI gG "PairMachine$Coder" prog_3_method_2_code 1 (mj_off oM_65) (Option.some Jvm.ClassFile.FieldType.int) false true 0 cM_65 :=
  ⟨Or.inl ⟨0, rfl, dd_65_0, rfl⟩,
   ⟨15, "PairMachine$Coder", fT5, 5, dd_65_1, rfl, okc_5, by decide, tw_388⟩,
   ⟨rfl, tw_390, by decide, tw_129, by decide +kernel, 23, tw_391, dd_65_4, tw_392, ⟨"PairMachine$Code", fT4, 5, rfl, tw_393⟩, by decide +kernel⟩,
   Or.inl ⟨0, rfl, dd_65_7, rfl⟩,
   Or.inl (Or.inl ⟨dd_65_8, rfl⟩),
   ⟨28, "PairMachine$Coder", fT5, 5, dd_65_9, rfl, okc_5, by decide, tw_394, rfl, Or.inl rfl⟩,
   Or.inl ⟨0, rfl, dd_65_12, rfl⟩,
   Or.inl (Or.inl ⟨dd_65_13, rfl⟩),
   ⟨32, "PairMachine$Coder", fT5, 5, dd_65_14, rfl, okc_5, by decide, tw_395, rfl, Or.inl rfl⟩,
   Or.inl ⟨0, rfl, dd_65_17, rfl⟩,
   Or.inl (Or.inl ⟨dd_65_18, rfl⟩),
   Or.inl (Or.inl ⟨dd_65_19, rfl⟩),
   ⟨rfl, tw_396, by decide, tw_136, by decide +kernel, 37, tw_397, dd_65_20, tw_398, ⟨"PairMachine$Coder", fT5, 5, rfl, tw_399⟩, by decide +kernel⟩,
   Or.inl ⟨0, rfl, dd_65_23, rfl⟩,
   ⟨15, "PairMachine$Coder", fT5, 5, dd_65_24, rfl, okc_5, by decide, tw_388⟩,
   Or.inl (Or.inr (Or.inl ⟨dd_65_27, rfl, by decide⟩)),
   ⟨rfl, tw_400, by decide, tw_129, by decide +kernel, 43, tw_401, dd_65_29, tw_402, ⟨"PairMachine$Code", fT4, 5, rfl, tw_403⟩, by decide +kernel⟩,
   Or.inl ⟨0, rfl, dd_65_32, rfl⟩,
   ⟨32, "PairMachine$Coder", fT5, 5, dd_65_33, rfl, okc_5, by decide, tw_395⟩,
   ⟨dd_65_36, rfl⟩, trivial⟩
theorem okM_65 : mj_okE gG 65 (cM_65, 1, oM_65, hM_65) := ⟨rfl, rfl, by decide +kernel, trivial, okI_65⟩
theorem dd_66_0 : decode prog_3_method_3_code 0 = .ok (.iload_n 2, 1) := by decide +kernel
theorem dd_66_1 : decode prog_3_method_3_code 1 = .ok (.bipush 9, 2) := by decide +kernel
theorem dd_66_3 : decode prog_3_method_3_code 3 = .ok (.if_icmp .le 4, 3) := by decide +kernel
theorem dd_66_6 : decode prog_3_method_3_code 6 = .ok (.return_, 1) := by decide +kernel
theorem dd_66_7 : decode prog_3_method_3_code 7 = .ok (.aload_n 0, 1) := by decide +kernel
theorem dd_66_8 : decode prog_3_method_3_code 8 = .ok (.getfield 9, 3) := by decide +kernel
theorem dd_66_11 : decode prog_3_method_3_code 11 = .ok (.iload_n 1, 1) := by decide +kernel
theorem dd_66_12 : decode prog_3_method_3_code 12 = .ok (.invokevirtual 47, 3) := by decide +kernel
theorem dd_66_15 : decode prog_3_method_3_code 15 = .ok (.tableswitch 135 1 11 #[57, 82, 135, 66, 90, 99, 135, 117, 126, 135, 108], 57) := by decide +kernel
theorem dd_66_72 : decode prog_3_method_3_code 72 = .ok (.aload_n 0, 1) := by decide +kernel
theorem dd_66_73 : decode prog_3_method_3_code 73 = .ok (.iload_n 1, 1) := by decide +kernel
theorem dd_66_74 : decode prog_3_method_3_code 74 = .ok (.iload_n 2, 1) := by decide +kernel
theorem dd_66_75 : decode prog_3_method_3_code 75 = .ok (.invokevirtual 51, 3) := by decide +kernel
theorem dd_66_78 : decode prog_3_method_3_code 78 = .ok (.goto 72, 3) := by decide +kernel
theorem dd_66_81 : decode prog_3_method_3_code 81 = .ok (.aload_n 0, 1) := by decide +kernel
theorem dd_66_82 : decode prog_3_method_3_code 82 = .ok (.aload_n 0, 1) := by decide +kernel
theorem dd_66_83 : decode prog_3_method_3_code 83 = .ok (.getfield 9, 3) := by decide +kernel
theorem dd_66_86 : decode prog_3_method_3_code 86 = .ok (.iload_n 1, 1) := by decide +kernel
theorem dd_66_87 : decode prog_3_method_3_code 87 = .ok (.invokevirtual 54, 3) := by decide +kernel
theorem dd_66_90 : decode prog_3_method_3_code 90 = .ok (.iload_n 2, 1) := by decide +kernel
theorem dd_66_91 : decode prog_3_method_3_code 91 = .ok (.invokevirtual 51, 3) := by decide +kernel
theorem dd_66_94 : decode prog_3_method_3_code 94 = .ok (.goto 56, 3) := by decide +kernel
theorem dd_66_97 : decode prog_3_method_3_code 97 = .ok (.aload_n 0, 1) := by decide +kernel
theorem dd_66_98 : decode prog_3_method_3_code 98 = .ok (.iload_n 1, 1) := by decide +kernel
theorem dd_66_99 : decode prog_3_method_3_code 99 = .ok (.invokevirtual 57, 3) := by decide +kernel
theorem dd_66_102 : decode prog_3_method_3_code 102 = .ok (.goto 48, 3) := by decide +kernel
theorem dd_66_105 : decode prog_3_method_3_code 105 = .ok (.aload_n 0, 1) := by decide +kernel
theorem dd_66_106 : decode prog_3_method_3_code 106 = .ok (.iload_n 1, 1) := by decide +kernel
theorem dd_66_107 : decode prog_3_method_3_code 107 = .ok (.iload_n 2, 1) := by decide +kernel
theorem dd_66_108 : decode prog_3_method_3_code 108 = .ok (.invokevirtual 60, 3) := by decide +kernel
theorem dd_66_111 : decode prog_3_method_3_code 111 = .ok (.goto 39, 3) := by decide +kernel
theorem dd_66_114 : decode prog_3_method_3_code 114 = .ok (.aload_n 0, 1) := by decide +kernel
theorem dd_66_115 : decode prog_3_method_3_code 115 = .ok (.iload_n 1, 1) := by decide +kernel
theorem dd_66_116 : decode prog_3_method_3_code 116 = .ok (.iload_n 2, 1) := by decide +kernel
theorem dd_66_117 : decode prog_3_method_3_code 117 = .ok (.invokevirtual 63, 3) := by decide +kernel
theorem dd_66_120 : decode prog_3_method_3_code 120 = .ok (.goto 30, 3) := by decide +kernel
theorem dd_66_123 : decode prog_3_method_3_code 123 = .ok (.aload_n 0, 1) := by decide +kernel
theorem dd_66_124 : decode prog_3_method_3_code 124 = .ok (.iload_n 1, 1) := by decide +kernel
theorem dd_66_125 : decode prog_3_method_3_code 125 = .ok (.iload_n 2, 1) := by decide +kernel
theorem dd_66_126 : decode prog_3_method_3_code 126 = .ok (.invokevirtual 66, 3) := by decide +kernel
theorem dd_66_129 : decode prog_3_method_3_code 129 = .ok (.goto 21, 3) := by decide +kernel
theorem dd_66_132 : decode prog_3_method_3_code 132 = .ok (.aload_n 0, 1) := by decide +kernel
theorem dd_66_133 : decode prog_3_method_3_code 133 = .ok (.iload_n 1, 1) := by decide +kernel
theorem dd_66_134 : decode prog_3_method_3_code 134 = .ok (.iload_n 2, 1) := by decide +kernel
theorem dd_66_135 : decode prog_3_method_3_code 135 = .ok (.invokevirtual 69, 3) := by decide +kernel
theorem dd_66_138 : decode prog_3_method_3_code 138 = .ok (.goto 12, 3) := by decide +kernel
theorem dd_66_141 : decode prog_3_method_3_code 141 = .ok (.aload_n 0, 1) := by decide +kernel
theorem dd_66_142 : decode prog_3_method_3_code 142 = .ok (.iload_n 1, 1) := by decide +kernel
theorem dd_66_143 : decode prog_3_method_3_code 143 = .ok (.iload_n 2, 1) := by decide +kernel
theorem dd_66_144 : decode prog_3_method_3_code 144 = .ok (.invokevirtual 72, 3) := by decide +kernel
theorem dd_66_147 : decode prog_3_method_3_code 147 = .ok (.goto 3, 3) := by decide +kernel
theorem dd_66_150 : decode prog_3_method_3_code 150 = .ok (.return_, 1) := by decide +kernel
set_option maxRecDepth 100000 in
theorem okI_66 : mj_okI gG "PairMachine$Coder" prog_3_method_3_code 3 (mj_off oM_66) (Option.none : Option Jvm.ClassFile.FieldType) false true 0 cM_66 :=
  ⟨Or.inl ⟨2, rfl, dd_66_0, rfl⟩,
   Or.inl (Or.inr (Or.inl ⟨dd_66_1, rfl, by decide⟩)),
   ⟨4, dd_66_3, rfl, rfl⟩,
   ⟨dd_66_6, rfl⟩,
   Or.inl ⟨0, rfl, dd_66_7, rfl⟩,
   ⟨9, "PairMachine$Coder", fT5, 5, dd_66_8, rfl, okc_5, by decide, tw_387⟩,
   Or.inl ⟨1, rfl, dd_66_11, rfl⟩,
   ⟨rfl, tw_347, by decide, tw_109, by decide +kernel, 47, tw_404, dd_66_12, tw_349, ⟨"PairMachine$Tree", fT2, 7, rfl, tw_350⟩, by decide +kernel⟩,
   Or.inr ⟨135, 1, #[57, 82, 135, 66, 90, 99, 135, 117, 126, 135, 108], 57, dd_66_15, rfl, rfl, (fun j hj => by
    match j, hj with
    | 0, _ => exact ⟨57, 9, rfl, rfl, by decide, rfl⟩
    | 1, _ => exact ⟨82, 22, rfl, rfl, by decide, rfl⟩
    | 2, _ => exact ⟨135, 51, rfl, rfl, by decide, rfl⟩
    | 3, _ => exact ⟨66, 14, rfl, rfl, by decide, rfl⟩
    | 4, _ => exact ⟨90, 26, rfl, rfl, by decide, rfl⟩
    | 5, _ => exact ⟨99, 31, rfl, rfl, by decide, rfl⟩
    | 6, _ => exact ⟨135, 51, rfl, rfl, by decide, rfl⟩
    | 7, _ => exact ⟨117, 41, rfl, rfl, by decide, rfl⟩
    | 8, _ => exact ⟨126, 46, rfl, rfl, by decide, rfl⟩
    | 9, _ => exact ⟨135, 51, rfl, rfl, by decide, rfl⟩
    | 10, _ => exact ⟨108, 36, rfl, rfl, by decide, rfl⟩
    | j + 11, h => exact absurd h (by simp))⟩,
   Or.inl ⟨0, rfl, dd_66_72, rfl⟩,
   Or.inl ⟨1, rfl, dd_66_73, rfl⟩,
   Or.inl ⟨2, rfl, dd_66_74, rfl⟩,
   ⟨rfl, tw_405, by decide, tw_136, by decide +kernel, 51, tw_406, dd_66_75, tw_407, ⟨"PairMachine$Coder", fT5, 5, rfl, tw_408⟩, by decide +kernel⟩,
   ⟨72, dd_66_78, rfl⟩,
   Or.inl ⟨0, rfl, dd_66_81, rfl⟩,
   Or.inl ⟨0, rfl, dd_66_82, rfl⟩,
   ⟨9, "PairMachine$Coder", fT5, 5, dd_66_83, rfl, okc_5, by decide, tw_387⟩,
   Or.inl ⟨1, rfl, dd_66_86, rfl⟩,
   ⟨rfl, tw_244, by decide, tw_109, by decide +kernel, 54, tw_409, dd_66_87, tw_246, ⟨"PairMachine$Tree", fT2, 7, rfl, tw_247⟩, by decide +kernel⟩,
   Or.inl ⟨2, rfl, dd_66_90, rfl⟩,
   ⟨rfl, tw_405, by decide, tw_136, by decide +kernel, 51, tw_406, dd_66_91, tw_407, ⟨"PairMachine$Coder", fT5, 5, rfl, tw_408⟩, by decide +kernel⟩,
   ⟨56, dd_66_94, rfl⟩,
   Or.inl ⟨0, rfl, dd_66_97, rfl⟩,
   Or.inl ⟨1, rfl, dd_66_98, rfl⟩,
   ⟨rfl, tw_410, by decide, tw_136, by decide +kernel, 57, tw_411, dd_66_99, tw_412, ⟨"PairMachine$Coder", fT5, 5, rfl, tw_413⟩, by decide +kernel⟩,
   ⟨48, dd_66_102, rfl⟩,
   Or.inl ⟨0, rfl, dd_66_105, rfl⟩,
   Or.inl ⟨1, rfl, dd_66_106, rfl⟩,
   Or.inl ⟨2, rfl, dd_66_107, rfl⟩,
   ⟨rfl, tw_414, by decide, tw_136, by decide +kernel, 60, tw_415, dd_66_108, tw_416, ⟨"PairMachine$Coder", fT5, 5, rfl, tw_417⟩, by decide +kernel⟩,
   ⟨39, dd_66_111, rfl⟩,
   Or.inl ⟨0, rfl, dd_66_114, rfl⟩,
   Or.inl ⟨1, rfl, dd_66_115, rfl⟩,
   Or.inl ⟨2, rfl, dd_66_116, rfl⟩,
   ⟨rfl, tw_418, by decide, tw_136, by decide +kernel, 63, tw_419, dd_66_117, tw_420, ⟨"PairMachine$Coder", fT5, 5, rfl, tw_421⟩, by decide +kernel⟩,
   ⟨30, dd_66_120, rfl⟩,
   Or.inl ⟨0, rfl, dd_66_123, rfl⟩,
   Or.inl ⟨1, rfl, dd_66_124, rfl⟩,
   Or.inl ⟨2, rfl, dd_66_125, rfl⟩,
   ⟨rfl, tw_422, by decide, tw_136, by decide +kernel, 66, tw_423, dd_66_126, tw_424, ⟨"PairMachine$Coder", fT5, 5, rfl, tw_425⟩, by decide +kernel⟩,
   ⟨21, dd_66_129, rfl⟩,
   Or.inl ⟨0, rfl, dd_66_132, rfl⟩,
   Or.inl ⟨1, rfl, dd_66_133, rfl⟩,
   Or.inl ⟨2, rfl, dd_66_134, rfl⟩,
   ⟨rfl, tw_426, by decide, tw_136, by decide +kernel, 69, tw_427, dd_66_135, tw_428, ⟨"PairMachine$Coder", fT5, 5, rfl, tw_429⟩, by decide +kernel⟩,
   ⟨12, dd_66_138, rfl⟩,
   Or.inl ⟨0, rfl, dd_66_141, rfl⟩,
   Or.inl ⟨1, rfl, dd_66_142, rfl⟩,
   Or.inl ⟨2, rfl, dd_66_143, rfl⟩,
   ⟨rfl, tw_430, by decide, tw_136, by decide +kernel, 72, tw_431, dd_66_144, tw_432, ⟨"PairMachine$Coder", fT5, 5, rfl, tw_433⟩, by decide +kernel⟩,
   ⟨3, dd_66_147, rfl⟩,
   ⟨dd_66_150, rfl⟩, trivial⟩
theorem okM_66 : mj_okE gG 66 (cM_66, 3, oM_66, hM_66) := ⟨rfl, rfl, by decide +kernel, trivial, okI_66⟩
theorem dd_67_0 : decode prog_3_method_4_code 0 = .ok (.aload_n 0, 1) := by decide +kernel
theorem dd_67_1 : decode prog_3_method_4_code 1 = .ok (.getfield 15, 3) := by decide +kernel
theorem dd_67_4 : decode prog_3_method_4_code 4 = .ok (.iconst 1, 1) := by decide +kernel
theorem dd_67_5 : decode prog_3_method_4_code 5 = .ok (.invokevirtual 43, 3) := by decide +kernel
theorem dd_67_8 : decode prog_3_method_4_code 8 = .ok (.aload_n 0, 1) := by decide +kernel
theorem dd_67_9 : decode prog_3_method_4_code 9 = .ok (.iload_n 1, 1) := by decide +kernel
theorem dd_67_10 : decode prog_3_method_4_code 10 = .ok (.iload_n 2, 1) := by decide +kernel
theorem dd_67_11 : decode prog_3_method_4_code 11 = .ok (.invokevirtual 75, 3) := by decide +kernel
theorem dd_67_14 : decode prog_3_method_4_code 14 = .ok (.return_, 1) := by decide +kernel
set_option maxRecDepth 100000 in
theorem okI_67 : mj_okI gG "PairMachine$Coder" prog_3_method_4_code 3 (mj_off oM_67) (Option.none : Option Jvm.ClassFile.FieldType) false true 0 cM_67 :=
  ⟨Or.inl ⟨0, rfl, dd_67_0, rfl⟩,
   ⟨15, "PairMachine$Coder", fT5, 5, dd_67_1, rfl, okc_5, by decide, tw_388⟩,
   Or.inl (Or.inl ⟨dd_67_4, rfl⟩),
   ⟨rfl, tw_400, by decide, tw_129, by decide +kernel, 43, tw_401, dd_67_5, tw_402, ⟨"PairMachine$Code", fT4, 5, rfl, tw_403⟩, by decide +kernel⟩,
   Or.inl ⟨0, rfl, dd_67_8, rfl⟩,
   Or.inl ⟨1, rfl, dd_67_9, rfl⟩,
   Or.inl ⟨2, rfl, dd_67_10, rfl⟩,
   ⟨rfl, tw_434, by decide, tw_136, by decide +kernel, 75, tw_435, dd_67_11, tw_436, ⟨"PairMachine$Coder", fT5, 5, rfl, tw_437⟩, by decide +kernel⟩,
   ⟨dd_67_14, rfl⟩, trivial⟩
theorem okM_67 : mj_okE gG 67 (cM_67, 3, oM_67, hM_67) := ⟨rfl, rfl, by decide +kernel, trivial, okI_67⟩
theorem dd_68_0 : decode prog_3_method_5_code 0 = .ok (.iload_n 2, 1) := by decide +kernel
theorem dd_68_1 : decode prog_3_method_5_code 1 = .ok (.bipush 9, 2) := by decide +kernel
theorem dd_68_3 : decode prog_3_method_5_code 3 = .ok (.if_icmp .le 4, 3) := by decide +kernel
theorem dd_68_6 : decode prog_3_method_5_code 6 = .ok (.return_, 1) := by decide +kernel
theorem dd_68_7 : decode prog_3_method_5_code 7 = .ok (.aload_n 0, 1) := by decide +kernel
theorem dd_68_8 : decode prog_3_method_5_code 8 = .ok (.getfield 9, 3) := by decide +kernel
theorem dd_68_11 : decode prog_3_method_5_code 11 = .ok (.iload_n 1, 1) := by decide +kernel
theorem dd_68_12 : decode prog_3_method_5_code 12 = .ok (.invokevirtual 47, 3) := by decide +kernel
theorem dd_68_15 : decode prog_3_method_5_code 15 = .ok (.istore_n 3, 1) := by decide +kernel
theorem dd_68_16 : decode prog_3_method_5_code 16 = .ok (.iload_n 3, 1) := by decide +kernel
theorem dd_68_17 : decode prog_3_method_5_code 17 = .ok (.iconst 1, 1) := by decide +kernel
theorem dd_68_18 : decode prog_3_method_5_code 18 = .ok (.if_icmp .ne 24, 3) := by decide +kernel
theorem dd_68_21 : decode prog_3_method_5_code 21 = .ok (.aload_n 0, 1) := by decide +kernel
theorem dd_68_22 : decode prog_3_method_5_code 22 = .ok (.getfield 15, 3) := by decide +kernel
theorem dd_68_25 : decode prog_3_method_5_code 25 = .ok (.aload_n 0, 1) := by decide +kernel
theorem dd_68_26 : decode prog_3_method_5_code 26 = .ok (.getfield 9, 3) := by decide +kernel
theorem dd_68_29 : decode prog_3_method_5_code 29 = .ok (.iload_n 1, 1) := by decide +kernel
theorem dd_68_30 : decode prog_3_method_5_code 30 = .ok (.invokevirtual 78, 3) := by decide +kernel
theorem dd_68_33 : decode prog_3_method_5_code 33 = .ok (.invokestatic 81, 3) := by decide +kernel
theorem dd_68_36 : decode prog_3_method_5_code 36 = .ok (.invokevirtual 87, 3) := by decide +kernel
theorem dd_68_39 : decode prog_3_method_5_code 39 = .ok (.goto 99, 3) := by decide +kernel
theorem dd_68_42 : decode prog_3_method_5_code 42 = .ok (.iload_n 3, 1) := by decide +kernel
theorem dd_68_43 : decode prog_3_method_5_code 43 = .ok (.iconst 2, 1) := by decide +kernel
theorem dd_68_44 : decode prog_3_method_5_code 44 = .ok (.if_icmp .ne 24, 3) := by decide +kernel
theorem dd_68_47 : decode prog_3_method_5_code 47 = .ok (.aload_n 0, 1) := by decide +kernel
theorem dd_68_48 : decode prog_3_method_5_code 48 = .ok (.getfield 15, 3) := by decide +kernel
theorem dd_68_51 : decode prog_3_method_5_code 51 = .ok (.aload_n 0, 1) := by decide +kernel
theorem dd_68_52 : decode prog_3_method_5_code 52 = .ok (.getfield 9, 3) := by decide +kernel
theorem dd_68_55 : decode prog_3_method_5_code 55 = .ok (.iload_n 1, 1) := by decide +kernel
theorem dd_68_56 : decode prog_3_method_5_code 56 = .ok (.invokevirtual 78, 3) := by decide +kernel
theorem dd_68_59 : decode prog_3_method_5_code 59 = .ok (.invokestatic 91, 3) := by decide +kernel
theorem dd_68_62 : decode prog_3_method_5_code 62 = .ok (.invokevirtual 87, 3) := by decide +kernel
theorem dd_68_65 : decode prog_3_method_5_code 65 = .ok (.goto 73, 3) := by decide +kernel
theorem dd_68_68 : decode prog_3_method_5_code 68 = .ok (.aload_n 0, 1) := by decide +kernel
theorem dd_68_69 : decode prog_3_method_5_code 69 = .ok (.getfield 15, 3) := by decide +kernel
theorem dd_68_72 : decode prog_3_method_5_code 72 = .ok (.invokevirtual 94, 3) := by decide +kernel
theorem dd_68_75 : decode prog_3_method_5_code 75 = .ok (.istore 4, 2) := by decide +kernel
theorem dd_68_77 : decode prog_3_method_5_code 77 = .ok (.aload_n 0, 1) := by decide +kernel
theorem dd_68_78 : decode prog_3_method_5_code 78 = .ok (.getfield 9, 3) := by decide +kernel
theorem dd_68_81 : decode prog_3_method_5_code 81 = .ok (.iload_n 1, 1) := by decide +kernel
theorem dd_68_82 : decode prog_3_method_5_code 82 = .ok (.invokevirtual 54, 3) := by decide +kernel
theorem dd_68_85 : decode prog_3_method_5_code 85 = .ok (.istore 5, 2) := by decide +kernel
theorem dd_68_87 : decode prog_3_method_5_code 87 = .ok (.iconst 0, 1) := by decide +kernel
theorem dd_68_88 : decode prog_3_method_5_code 88 = .ok (.istore 6, 2) := by decide +kernel
theorem dd_68_90 : decode prog_3_method_5_code 90 = .ok (.iload 6, 2) := by decide +kernel
theorem dd_68_92 : decode prog_3_method_5_code 92 = .ok (.bipush 96, 2) := by decide +kernel
theorem dd_68_94 : decode prog_3_method_5_code 94 = .ok (.if_icmp .ge 35, 3) := by decide +kernel
theorem dd_68_97 : decode prog_3_method_5_code 97 = .ok (.iload 5, 2) := by decide +kernel
theorem dd_68_99 : decode prog_3_method_5_code 99 = .ok (.iconst (-1), 1) := by decide +kernel
theorem dd_68_100 : decode prog_3_method_5_code 100 = .ok (.if_icmp .eq 29, 3) := by decide +kernel
theorem dd_68_103 : decode prog_3_method_5_code 103 = .ok (.aload_n 0, 1) := by decide +kernel
theorem dd_68_104 : decode prog_3_method_5_code 104 = .ok (.iload 5, 2) := by decide +kernel
theorem dd_68_106 : decode prog_3_method_5_code 106 = .ok (.iload_n 2, 1) := by decide +kernel
theorem dd_68_107 : decode prog_3_method_5_code 107 = .ok (.iconst 1, 1) := by decide +kernel
theorem dd_68_108 : decode prog_3_method_5_code 108 = .ok (.iadd, 1) := by decide +kernel
theorem dd_68_109 : decode prog_3_method_5_code 109 = .ok (.invokevirtual 75, 3) := by decide +kernel
theorem dd_68_112 : decode prog_3_method_5_code 112 = .ok (.aload_n 0, 1) := by decide +kernel
theorem dd_68_113 : decode prog_3_method_5_code 113 = .ok (.getfield 9, 3) := by decide +kernel
theorem dd_68_116 : decode prog_3_method_5_code 116 = .ok (.iload 5, 2) := by decide +kernel
theorem dd_68_118 : decode prog_3_method_5_code 118 = .ok (.invokevirtual 100, 3) := by decide +kernel
theorem dd_68_121 : decode prog_3_method_5_code 121 = .ok (.istore 5, 2) := by decide +kernel
theorem dd_68_123 : decode prog_3_method_5_code 123 = .ok (.iinc 6 1, 3) := by decide +kernel
theorem dd_68_126 : decode prog_3_method_5_code 126 = .ok (.goto (-36), 3) := by decide +kernel
theorem dd_68_129 : decode prog_3_method_5_code 129 = .ok (.aload_n 0, 1) := by decide +kernel
theorem dd_68_130 : decode prog_3_method_5_code 130 = .ok (.getfield 15, 3) := by decide +kernel
theorem dd_68_133 : decode prog_3_method_5_code 133 = .ok (.iload 4, 2) := by decide +kernel
theorem dd_68_135 : decode prog_3_method_5_code 135 = .ok (.invokevirtual 103, 3) := by decide +kernel
theorem dd_68_138 : decode prog_3_method_5_code 138 = .ok (.return_, 1) := by decide +kernel
set_option maxRecDepth 100000 in
theorem okI_68 : mj_okI gG "PairMachine$Coder" prog_3_method_5_code 7 (mj_off oM_68) (Option.none : Option Jvm.ClassFile.FieldType) false true 0 cM_68 :=
  ⟨Or.inl ⟨2, rfl, dd_68_0, rfl⟩,
   Or.inl (Or.inr (Or.inl ⟨dd_68_1, rfl, by decide⟩)),
   ⟨4, dd_68_3, rfl, rfl⟩,
   ⟨dd_68_6, rfl⟩,
   Or.inl ⟨0, rfl, dd_68_7, rfl⟩,
   ⟨9, "PairMachine$Coder", fT5, 5, dd_68_8, rfl, okc_5, by decide, tw_387⟩,
   Or.inl ⟨1, rfl, dd_68_11, rfl⟩,
   ⟨rfl, tw_347, by decide, tw_109, by decide +kernel, 47, tw_404, dd_68_12, tw_349, ⟨"PairMachine$Tree", fT2, 7, rfl, tw_350⟩, by decide +kernel⟩,
   ⟨by decide, Or.inl ⟨3, rfl, dd_68_15, rfl⟩⟩,
   Or.inl ⟨3, rfl, dd_68_16, rfl⟩,
   Or.inl (Or.inl ⟨dd_68_17, rfl⟩),
   ⟨24, dd_68_18, rfl, rfl⟩,
   Or.inl ⟨0, rfl, dd_68_21, rfl⟩,
   ⟨15, "PairMachine$Coder", fT5, 5, dd_68_22, rfl, okc_5, by decide, tw_388⟩,
   Or.inl ⟨0, rfl, dd_68_25, rfl⟩,
   ⟨9, "PairMachine$Coder", fT5, 5, dd_68_26, rfl, okc_5, by decide, tw_387⟩,
   Or.inl ⟨1, rfl, dd_68_29, rfl⟩,
   ⟨rfl, tw_438, by decide, tw_109, by decide +kernel, 78, tw_439, dd_68_30, tw_440, ⟨"PairMachine$Tree", fT2, 7, rfl, tw_441⟩, by decide +kernel⟩,
   ⟨rfl, tw_379, by decide, tw_372, by decide +kernel, 81, tw_442, dd_68_33, tw_381, by decide +kernel⟩,
   ⟨rfl, tw_382, by decide, tw_129, by decide +kernel, 87, tw_443, dd_68_36, tw_384, ⟨"PairMachine$Code", fT4, 5, rfl, tw_385⟩, by decide +kernel⟩,
   ⟨99, dd_68_39, rfl⟩,
   Or.inl ⟨3, rfl, dd_68_42, rfl⟩,
   Or.inl (Or.inl ⟨dd_68_43, rfl⟩),
   ⟨24, dd_68_44, rfl, rfl⟩,
   Or.inl ⟨0, rfl, dd_68_47, rfl⟩,
   ⟨15, "PairMachine$Coder", fT5, 5, dd_68_48, rfl, okc_5, by decide, tw_388⟩,
   Or.inl ⟨0, rfl, dd_68_51, rfl⟩,
   ⟨9, "PairMachine$Coder", fT5, 5, dd_68_52, rfl, okc_5, by decide, tw_387⟩,
   Or.inl ⟨1, rfl, dd_68_55, rfl⟩,
   ⟨rfl, tw_438, by decide, tw_109, by decide +kernel, 78, tw_439, dd_68_56, tw_440, ⟨"PairMachine$Tree", fT2, 7, rfl, tw_441⟩, by decide +kernel⟩,
   ⟨rfl, tw_444, by decide, tw_372, by decide +kernel, 91, tw_445, dd_68_59, tw_446, by decide +kernel⟩,
   ⟨rfl, tw_382, by decide, tw_129, by decide +kernel, 87, tw_443, dd_68_62, tw_384, ⟨"PairMachine$Code", fT4, 5, rfl, tw_385⟩, by decide +kernel⟩,
   ⟨73, dd_68_65, rfl⟩,
   Or.inl ⟨0, rfl, dd_68_68, rfl⟩,
   ⟨15, "PairMachine$Coder", fT5, 5, dd_68_69, rfl, okc_5, by decide, tw_388⟩,
   ⟨rfl, tw_447, by decide, tw_129, by decide +kernel, 94, tw_448, dd_68_72, tw_449, ⟨"PairMachine$Code", fT4, 5, rfl, tw_450⟩, by decide +kernel⟩,
   ⟨by decide, Or.inr ⟨dd_68_75, rfl⟩⟩,
   Or.inl ⟨0, rfl, dd_68_77, rfl⟩,
   ⟨9, "PairMachine$Coder", fT5, 5, dd_68_78, rfl, okc_5, by decide, tw_387⟩,
   Or.inl ⟨1, rfl, dd_68_81, rfl⟩,
   ⟨rfl, tw_244, by decide, tw_109, by decide +kernel, 54, tw_409, dd_68_82, tw_246, ⟨"PairMachine$Tree", fT2, 7, rfl, tw_247⟩, by decide +kernel⟩,
   ⟨by decide, Or.inr ⟨dd_68_85, rfl⟩⟩,
   Or.inl (Or.inl ⟨dd_68_87, rfl⟩),
   ⟨by decide, Or.inr ⟨dd_68_88, rfl⟩⟩,
   Or.inr ⟨dd_68_90, rfl⟩,
   Or.inl (Or.inr (Or.inl ⟨dd_68_92, rfl, by decide⟩)),
   ⟨35, dd_68_94, rfl, rfl⟩,
   Or.inr ⟨dd_68_97, rfl⟩,
   Or.inl (Or.inl ⟨dd_68_99, rfl⟩),
   ⟨29, dd_68_100, rfl, rfl⟩,
   Or.inl ⟨0, rfl, dd_68_103, rfl⟩,
   Or.inr ⟨dd_68_104, rfl⟩,
   Or.inl ⟨2, rfl, dd_68_106, rfl⟩,
   Or.inl (Or.inl ⟨dd_68_107, rfl⟩),
   ⟨dd_68_108, rfl⟩,
   ⟨rfl, tw_434, by decide, tw_136, by decide +kernel, 75, tw_435, dd_68_109, tw_436, ⟨"PairMachine$Coder", fT5, 5, rfl, tw_437⟩, by decide +kernel⟩,
   Or.inl ⟨0, rfl, dd_68_112, rfl⟩,
   ⟨9, "PairMachine$Coder", fT5, 5, dd_68_113, rfl, okc_5, by decide, tw_387⟩,
   Or.inr ⟨dd_68_116, rfl⟩,
   ⟨rfl, tw_248, by decide, tw_109, by decide +kernel, 100, tw_451, dd_68_118, tw_250, ⟨"PairMachine$Tree", fT2, 7, rfl, tw_251⟩, by decide +kernel⟩,
   ⟨by decide, Or.inr ⟨dd_68_121, rfl⟩⟩,
   ⟨by decide, dd_68_123, rfl⟩,
   ⟨(-36), dd_68_126, rfl⟩,
   Or.inl ⟨0, rfl, dd_68_129, rfl⟩,
   ⟨15, "PairMachine$Coder", fT5, 5, dd_68_130, rfl, okc_5, by decide, tw_388⟩,
   Or.inr ⟨dd_68_133, rfl⟩,
   ⟨rfl, tw_452, by decide, tw_129, by decide +kernel, 103, tw_453, dd_68_135, tw_454, ⟨"PairMachine$Code", fT4, 5, rfl, tw_455⟩, by decide +kernel⟩,
   ⟨dd_68_138, rfl⟩, trivial⟩
theorem okM_68 : mj_okE gG 68 (cM_68, 7, oM_68, hM_68) := ⟨rfl, rfl, by decide +kernel, trivial, okI_68⟩
theorem dd_69_0 : decode prog_3_method_6_code 0 = .ok (.aload_n 0, 1) := by decide +kernel
theorem dd_69_1 : decode prog_3_method_6_code 1 = .ok (.aload_n 0, 1) := by decide +kernel
theorem dd_69_2 : decode prog_3_method_6_code 2 = .ok (.getfield 9, 3) := by decide +kernel
theorem dd_69_5 : decode prog_3_method_6_code 5 = .ok (.iload_n 1, 1) := by decide +kernel
theorem dd_69_6 : decode prog_3_method_6_code 6 = .ok (.invokevirtual 78, 3) := by decide +kernel
theorem dd_69_9 : decode prog_3_method_6_code 9 = .ok (.invokevirtual 106, 3) := by decide +kernel
theorem dd_69_12 : decode prog_3_method_6_code 12 = .ok (.istore_n 2, 1) := by decide +kernel
theorem dd_69_13 : decode prog_3_method_6_code 13 = .ok (.iload_n 2, 1) := by decide +kernel
theorem dd_69_14 : decode prog_3_method_6_code 14 = .ok (.iconst (-1), 1) := by decide +kernel
theorem dd_69_15 : decode prog_3_method_6_code 15 = .ok (.if_icmp .ne 15, 3) := by decide +kernel
theorem dd_69_18 : decode prog_3_method_6_code 18 = .ok (.aload_n 0, 1) := by decide +kernel
theorem dd_69_19 : decode prog_3_method_6_code 19 = .ok (.aload_n 0, 1) := by decide +kernel
theorem dd_69_20 : decode prog_3_method_6_code 20 = .ok (.getfield 9, 3) := by decide +kernel
theorem dd_69_23 : decode prog_3_method_6_code 23 = .ok (.iload_n 1, 1) := by decide +kernel
theorem dd_69_24 : decode prog_3_method_6_code 24 = .ok (.invokevirtual 109, 3) := by decide +kernel
theorem dd_69_27 : decode prog_3_method_6_code 27 = .ok (.invokevirtual 112, 3) := by decide +kernel
theorem dd_69_30 : decode prog_3_method_6_code 30 = .ok (.aload_n 0, 1) := by decide +kernel
theorem dd_69_31 : decode prog_3_method_6_code 31 = .ok (.getfield 15, 3) := by decide +kernel
theorem dd_69_34 : decode prog_3_method_6_code 34 = .ok (.iconst 2, 1) := by decide +kernel
theorem dd_69_35 : decode prog_3_method_6_code 35 = .ok (.invokevirtual 43, 3) := by decide +kernel
theorem dd_69_38 : decode prog_3_method_6_code 38 = .ok (.aload_n 0, 1) := by decide +kernel
theorem dd_69_39 : decode prog_3_method_6_code 39 = .ok (.getfield 15, 3) := by decide +kernel
theorem dd_69_42 : decode prog_3_method_6_code 42 = .ok (.iload_n 2, 1) := by decide +kernel
theorem dd_69_43 : decode prog_3_method_6_code 43 = .ok (.invokestatic 81, 3) := by decide +kernel
theorem dd_69_46 : decode prog_3_method_6_code 46 = .ok (.invokevirtual 87, 3) := by decide +kernel
theorem dd_69_49 : decode prog_3_method_6_code 49 = .ok (.return_, 1) := by decide +kernel
set_option maxRecDepth 100000 in
theorem okI_69 : mj_okI gG "PairMachine$Coder" prog_3_method_6_code 3 (mj_off oM_69) (Option.none : Option Jvm.ClassFile.FieldType) false true 0 cM_69 :=
  ⟨Or.inl ⟨0, rfl, dd_69_0, rfl⟩,
   Or.inl ⟨0, rfl, dd_69_1, rfl⟩,
   ⟨9, "PairMachine$Coder", fT5, 5, dd_69_2, rfl, okc_5, by decide, tw_387⟩,
   Or.inl ⟨1, rfl, dd_69_5, rfl⟩,
   ⟨rfl, tw_438, by decide, tw_109, by decide +kernel, 78, tw_439, dd_69_6, tw_440, ⟨"PairMachine$Tree", fT2, 7, rfl, tw_441⟩, by decide +kernel⟩,
   ⟨rfl, tw_456, by decide, tw_136, by decide +kernel, 106, tw_457, dd_69_9, tw_458, ⟨"PairMachine$Coder", fT5, 5, rfl, tw_459⟩, by decide +kernel⟩,
   ⟨by decide, Or.inl ⟨2, rfl, dd_69_12, rfl⟩⟩,
   Or.inl ⟨2, rfl, dd_69_13, rfl⟩,
   Or.inl (Or.inl ⟨dd_69_14, rfl⟩),
   ⟨15, dd_69_15, rfl, rfl⟩,
   Or.inl ⟨0, rfl, dd_69_18, rfl⟩,
   Or.inl ⟨0, rfl, dd_69_19, rfl⟩,
   ⟨9, "PairMachine$Coder", fT5, 5, dd_69_20, rfl, okc_5, by decide, tw_387⟩,
   Or.inl ⟨1, rfl, dd_69_23, rfl⟩,
   ⟨rfl, tw_460, by decide, tw_109, by decide +kernel, 109, tw_461, dd_69_24, tw_462, ⟨"PairMachine$Tree", fT2, 7, rfl, tw_463⟩, by decide +kernel⟩,
   ⟨rfl, tw_464, by decide, tw_136, by decide +kernel, 112, tw_465, dd_69_27, tw_466, ⟨"PairMachine$Coder", fT5, 5, rfl, tw_467⟩, by decide +kernel⟩,
   Or.inl ⟨0, rfl, dd_69_30, rfl⟩,
   ⟨15, "PairMachine$Coder", fT5, 5, dd_69_31, rfl, okc_5, by decide, tw_388⟩,
   Or.inl (Or.inl ⟨dd_69_34, rfl⟩),
   ⟨rfl, tw_400, by decide, tw_129, by decide +kernel, 43, tw_401, dd_69_35, tw_402, ⟨"PairMachine$Code", fT4, 5, rfl, tw_403⟩, by decide +kernel⟩,
   Or.inl ⟨0, rfl, dd_69_38, rfl⟩,
   ⟨15, "PairMachine$Coder", fT5, 5, dd_69_39, rfl, okc_5, by decide, tw_388⟩,
   Or.inl ⟨2, rfl, dd_69_42, rfl⟩,
   ⟨rfl, tw_379, by decide, tw_372, by decide +kernel, 81, tw_442, dd_69_43, tw_381, by decide +kernel⟩,
   ⟨rfl, tw_382, by decide, tw_129, by decide +kernel, 87, tw_443, dd_69_46, tw_384, ⟨"PairMachine$Code", fT4, 5, rfl, tw_385⟩, by decide +kernel⟩,
   ⟨dd_69_49, rfl⟩, trivial⟩
theorem okM_69 : mj_okE gG 69 (cM_69, 3, oM_69, hM_69) := ⟨rfl, rfl, by decide +kernel, trivial, okI_69⟩
theorem dd_70_0 : decode prog_3_method_7_code 0 = .ok (.aload_n 0, 1) := by decide +kernel
theorem dd_70_1 : decode prog_3_method_7_code 1 = .ok (.getfield 32, 3) := by decide +kernel
theorem dd_70_4 : decode prog_3_method_7_code 4 = .ok (.iconst (-1), 1) := by decide +kernel
theorem dd_70_5 : decode prog_3_method_7_code 5 = .ok (.if_icmp .eq 11, 3) := by decide +kernel
theorem dd_70_8 : decode prog_3_method_7_code 8 = .ok (.iload_n 1, 1) := by decide +kernel
theorem dd_70_9 : decode prog_3_method_7_code 9 = .ok (.aload_n 0, 1) := by decide +kernel
theorem dd_70_10 : decode prog_3_method_7_code 10 = .ok (.getfield 32, 3) := by decide +kernel
theorem dd_70_13 : decode prog_3_method_7_code 13 = .ok (.if_icmp .ge 8, 3) := by decide +kernel
theorem dd_70_16 : decode prog_3_method_7_code 16 = .ok (.aload_n 0, 1) := by decide +kernel
theorem dd_70_17 : decode prog_3_method_7_code 17 = .ok (.iload_n 1, 1) := by decide +kernel
theorem dd_70_18 : decode prog_3_method_7_code 18 = .ok (.putfield 32, 3) := by decide +kernel
theorem dd_70_21 : decode prog_3_method_7_code 21 = .ok (.return_, 1) := by decide +kernel
set_option maxRecDepth 100000 in
theorem okI_70 : mj_okI gG "PairMachine$Coder" prog_3_method_7_code 2 (mj_off oM_70) (Option.none : Option Jvm.ClassFile.FieldType) false true 0 cM_70 :=
  ⟨Or.inl ⟨0, rfl, dd_70_0, rfl⟩,
   ⟨32, "PairMachine$Coder", fT5, 5, dd_70_1, rfl, okc_5, by decide, tw_395⟩,
   Or.inl (Or.inl ⟨dd_70_4, rfl⟩),
   ⟨11, dd_70_5, rfl, rfl⟩,
   Or.inl ⟨1, rfl, dd_70_8, rfl⟩,
   Or.inl ⟨0, rfl, dd_70_9, rfl⟩,
   ⟨32, "PairMachine$Coder", fT5, 5, dd_70_10, rfl, okc_5, by decide, tw_395⟩,
   ⟨8, dd_70_13, rfl, rfl⟩,
   Or.inl ⟨0, rfl, dd_70_16, rfl⟩,
   Or.inl ⟨1, rfl, dd_70_17, rfl⟩,
   ⟨32, "PairMachine$Coder", fT5, 5, dd_70_18, rfl, okc_5, by decide, tw_395, rfl, Or.inl rfl⟩,
   ⟨dd_70_21, rfl⟩, trivial⟩
theorem okM_70 : mj_okE gG 70 (cM_70, 2, oM_70, hM_70) := ⟨rfl, rfl, by decide +kernel, trivial, okI_70⟩
theorem dd_71_0 : decode prog_3_method_8_code 0 = .ok (.iconst 0, 1) := by decide +kernel
theorem dd_71_1 : decode prog_3_method_8_code 1 = .ok (.istore_n 2, 1) := by decide +kernel
theorem dd_71_2 : decode prog_3_method_8_code 2 = .ok (.iload_n 2, 1) := by decide +kernel
theorem dd_71_3 : decode prog_3_method_8_code 3 = .ok (.aload_n 0, 1) := by decide +kernel
theorem dd_71_4 : decode prog_3_method_8_code 4 = .ok (.getfield 28, 3) := by decide +kernel
theorem dd_71_7 : decode prog_3_method_8_code 7 = .ok (.if_icmp .ge 43, 3) := by decide +kernel
theorem dd_71_10 : decode prog_3_method_8_code 10 = .ok (.aload_n 0, 1) := by decide +kernel
theorem dd_71_11 : decode prog_3_method_8_code 11 = .ok (.getfield 9, 3) := by decide +kernel
theorem dd_71_14 : decode prog_3_method_8_code 14 = .ok (.iload_n 1, 1) := by decide +kernel
theorem dd_71_15 : decode prog_3_method_8_code 15 = .ok (.aload_n 0, 1) := by decide +kernel
theorem dd_71_16 : decode prog_3_method_8_code 16 = .ok (.getfield 19, 3) := by decide +kernel
theorem dd_71_19 : decode prog_3_method_8_code 19 = .ok (.aload_n 0, 1) := by decide +kernel
theorem dd_71_20 : decode prog_3_method_8_code 20 = .ok (.getfield 28, 3) := by decide +kernel
theorem dd_71_23 : decode prog_3_method_8_code 23 = .ok (.iconst 1, 1) := by decide +kernel
theorem dd_71_24 : decode prog_3_method_8_code 24 = .ok (.isub, 1) := by decide +kernel
theorem dd_71_25 : decode prog_3_method_8_code 25 = .ok (.iload_n 2, 1) := by decide +kernel
theorem dd_71_26 : decode prog_3_method_8_code 26 = .ok (.isub, 1) := by decide +kernel
theorem dd_71_27 : decode prog_3_method_8_code 27 = .ok (.iaload, 1) := by decide +kernel
theorem dd_71_28 : decode prog_3_method_8_code 28 = .ok (.invokevirtual 115, 3) := by decide +kernel
theorem dd_71_31 : decode prog_3_method_8_code 31 = .ok (.istore_n 3, 1) := by decide +kernel
theorem dd_71_32 : decode prog_3_method_8_code 32 = .ok (.iload_n 3, 1) := by decide +kernel
theorem dd_71_33 : decode prog_3_method_8_code 33 = .ok (.iconst (-1), 1) := by decide +kernel
theorem dd_71_34 : decode prog_3_method_8_code 34 = .ok (.if_icmp .eq 10, 3) := by decide +kernel
theorem dd_71_37 : decode prog_3_method_8_code 37 = .ok (.bipush 16, 2) := by decide +kernel
theorem dd_71_39 : decode prog_3_method_8_code 39 = .ok (.iload_n 2, 1) := by decide +kernel
theorem dd_71_40 : decode prog_3_method_8_code 40 = .ok (.imul, 1) := by decide +kernel
theorem dd_71_41 : decode prog_3_method_8_code 41 = .ok (.iload_n 3, 1) := by decide +kernel
theorem dd_71_42 : decode prog_3_method_8_code 42 = .ok (.iadd, 1) := by decide +kernel
theorem dd_71_43 : decode prog_3_method_8_code 43 = .ok (.ireturn, 1) := by decide +kernel
theorem dd_71_44 : decode prog_3_method_8_code 44 = .ok (.iinc 2 1, 3) := by decide +kernel
theorem dd_71_47 : decode prog_3_method_8_code 47 = .ok (.goto (-45), 3) := by decide +kernel
theorem dd_71_50 : decode prog_3_method_8_code 50 = .ok (.iconst (-1), 1) := by decide +kernel
theorem dd_71_51 : decode prog_3_method_8_code 51 = .ok (.ireturn, 1) := by decide +kernel
set_option maxRecDepth 100000 in
theorem okI_71 : mj_okI gG "PairMachine$Coder" prog_3_method_8_code 4 (mj_off oM_71) (Option.some Jvm.ClassFile.FieldType.int) false true 0 cM_71 :=
  ⟨Or.inl (Or.inl ⟨dd_71_0, rfl⟩),
   ⟨by decide, Or.inl ⟨2, rfl, dd_71_1, rfl⟩⟩,
   Or.inl ⟨2, rfl, dd_71_2, rfl⟩,
   Or.inl ⟨0, rfl, dd_71_3, rfl⟩,
   ⟨28, "PairMachine$Coder", fT5, 5, dd_71_4, rfl, okc_5, by decide, tw_394⟩,
   ⟨43, dd_71_7, rfl, rfl⟩,
   Or.inl ⟨0, rfl, dd_71_10, rfl⟩,
   ⟨9, "PairMachine$Coder", fT5, 5, dd_71_11, rfl, okc_5, by decide, tw_387⟩,
   Or.inl ⟨1, rfl, dd_71_14, rfl⟩,
   Or.inl ⟨0, rfl, dd_71_15, rfl⟩,
   ⟨19, "PairMachine$Coder", fT5, 5, dd_71_16, rfl, okc_5, by decide, tw_389⟩,
   Or.inl ⟨0, rfl, dd_71_19, rfl⟩,
   ⟨28, "PairMachine$Coder", fT5, 5, dd_71_20, rfl, okc_5, by decide, tw_394⟩,
   Or.inl (Or.inl ⟨dd_71_23, rfl⟩),
   ⟨dd_71_24, rfl⟩,
   Or.inl ⟨2, rfl, dd_71_25, rfl⟩,
   ⟨dd_71_26, rfl⟩,
   ⟨dd_71_27, rfl⟩,
   ⟨rfl, tw_361, by decide, tw_109, by decide +kernel, 115, tw_468, dd_71_28, tw_363, ⟨"PairMachine$Tree", fT2, 7, rfl, tw_364⟩, by decide +kernel⟩,
   ⟨by decide, Or.inl ⟨3, rfl, dd_71_31, rfl⟩⟩,
   Or.inl ⟨3, rfl, dd_71_32, rfl⟩,
   Or.inl (Or.inl ⟨dd_71_33, rfl⟩),
   ⟨10, dd_71_34, rfl, rfl⟩,
   Or.inl (Or.inr (Or.inl ⟨dd_71_37, rfl, by decide⟩)),
   Or.inl ⟨2, rfl, dd_71_39, rfl⟩,
   ⟨dd_71_40, rfl⟩,
   Or.inl ⟨3, rfl, dd_71_41, rfl⟩,
   ⟨dd_71_42, rfl⟩,
   ⟨dd_71_43, rfl⟩,
   ⟨by decide, dd_71_44, rfl⟩,
   ⟨(-45), dd_71_47, rfl⟩,
   Or.inl (Or.inl ⟨dd_71_50, rfl⟩),
   ⟨dd_71_51, rfl⟩, trivial⟩
theorem okM_71 : mj_okE gG 71 (cM_71, 4, oM_71, hM_71) := ⟨rfl, rfl, by decide +kernel, trivial, okI_71⟩
theorem dd_72_0 : decode prog_3_method_9_code 0 = .ok (.aload_n 0, 1) := by decide +kernel
theorem dd_72_1 : decode prog_3_method_9_code 1 = .ok (.getfield 28, 3) := by decide +kernel
theorem dd_72_4 : decode prog_3_method_9_code 4 = .ok (.aload_n 0, 1) := by decide +kernel
theorem dd_72_5 : decode prog_3_method_9_code 5 = .ok (.getfield 19, 3) := by decide +kernel
theorem dd_72_8 : decode prog_3_method_9_code 8 = .ok (.arraylength, 1) := by decide +kernel
theorem dd_72_9 : decode prog_3_method_9_code 9 = .ok (.if_icmp .ge 23, 3) := by decide +kernel
theorem dd_72_12 : decode prog_3_method_9_code 12 = .ok (.aload_n 0, 1) := by decide +kernel
theorem dd_72_13 : decode prog_3_method_9_code 13 = .ok (.getfield 19, 3) := by decide +kernel
theorem dd_72_16 : decode prog_3_method_9_code 16 = .ok (.aload_n 0, 1) := by decide +kernel
theorem dd_72_17 : decode prog_3_method_9_code 17 = .ok (.getfield 28, 3) := by decide +kernel
theorem dd_72_20 : decode prog_3_method_9_code 20 = .ok (.iload_n 1, 1) := by decide +kernel
theorem dd_72_21 : decode prog_3_method_9_code 21 = .ok (.iastore, 1) := by decide +kernel
theorem dd_72_22 : decode prog_3_method_9_code 22 = .ok (.aload_n 0, 1) := by decide +kernel
theorem dd_72_23 : decode prog_3_method_9_code 23 = .ok (.dup, 1) := by decide +kernel
theorem dd_72_24 : decode prog_3_method_9_code 24 = .ok (.getfield 28, 3) := by decide +kernel
theorem dd_72_27 : decode prog_3_method_9_code 27 = .ok (.iconst 1, 1) := by decide +kernel
theorem dd_72_28 : decode prog_3_method_9_code 28 = .ok (.iadd, 1) := by decide +kernel
theorem dd_72_29 : decode prog_3_method_9_code 29 = .ok (.putfield 28, 3) := by decide +kernel
theorem dd_72_32 : decode prog_3_method_9_code 32 = .ok (.return_, 1) := by decide +kernel
set_option maxRecDepth 100000 in
theorem okI_72 : mj_okI gG "PairMachine$Coder" prog_3_method_9_code 2 (mj_off oM_72) (Option.none : Option Jvm.ClassFile.FieldType) false true 0 cM_72 :=
  ⟨Or.inl ⟨0, rfl, dd_72_0, rfl⟩,
   ⟨28, "PairMachine$Coder", fT5, 5, dd_72_1, rfl, okc_5, by decide, tw_394⟩,
   Or.inl ⟨0, rfl, dd_72_4, rfl⟩,
   ⟨19, "PairMachine$Coder", fT5, 5, dd_72_5, rfl, okc_5, by decide, tw_389⟩,
   ⟨dd_72_8, rfl⟩,
   ⟨23, dd_72_9, rfl, rfl⟩,
   Or.inl ⟨0, rfl, dd_72_12, rfl⟩,
   ⟨19, "PairMachine$Coder", fT5, 5, dd_72_13, rfl, okc_5, by decide, tw_389⟩,
   Or.inl ⟨0, rfl, dd_72_16, rfl⟩,
   ⟨28, "PairMachine$Coder", fT5, 5, dd_72_17, rfl, okc_5, by decide, tw_394⟩,
   Or.inl ⟨1, rfl, dd_72_20, rfl⟩,
   ⟨dd_72_21, rfl⟩,
   Or.inl ⟨0, rfl, dd_72_22, rfl⟩,
   ⟨dd_72_23, rfl⟩,
   ⟨28, "PairMachine$Coder", fT5, 5, dd_72_24, rfl, okc_5, by decide, tw_394⟩,
   Or.inl (Or.inl ⟨dd_72_27, rfl⟩),
   ⟨dd_72_28, rfl⟩,
   ⟨28, "PairMachine$Coder", fT5, 5, dd_72_29, rfl, okc_5, by decide, tw_394, rfl, Or.inl rfl⟩,
   ⟨dd_72_32, rfl⟩, trivial⟩
theorem okM_72 : mj_okE gG 72 (cM_72, 2, oM_72, hM_72) := ⟨rfl, rfl, by decide +kernel, trivial, okI_72⟩
theorem dd_73_0 : decode prog_3_method_10_code 0 = .ok (.aload_n 0, 1) := by decide +kernel
theorem dd_73_1 : decode prog_3_method_10_code 1 = .ok (.getfield 28, 3) := by decide +kernel
theorem dd_73_4 : decode prog_3_method_10_code 4 = .ok (.ifCond .le 13, 3) := by decide +kernel
theorem dd_73_7 : decode prog_3_method_10_code 7 = .ok (.aload_n 0, 1) := by decide +kernel
theorem dd_73_8 : decode prog_3_method_10_code 8 = .ok (.dup, 1) := by decide +kernel
theorem dd_73_9 : decode prog_3_method_10_code 9 = .ok (.getfield 28, 3) := by decide +kernel
theorem dd_73_12 : decode prog_3_method_10_code 12 = .ok (.iconst 1, 1) := by decide +kernel
theorem dd_73_13 : decode prog_3_method_10_code 13 = .ok (.isub, 1) := by decide +kernel
theorem dd_73_14 : decode prog_3_method_10_code 14 = .ok (.putfield 28, 3) := by decide +kernel
theorem dd_73_17 : decode prog_3_method_10_code 17 = .ok (.return_, 1) := by decide +kernel
set_option maxRecDepth 100000 in
theorem okI_73 : mj_okI gG "PairMachine$Coder" prog_3_method_10_code 1 (mj_off oM_73) (Option.none : Option Jvm.ClassFile.FieldType) false true 0 cM_73 :=
  ⟨Or.inl ⟨0, rfl, dd_73_0, rfl⟩,
   ⟨28, "PairMachine$Coder", fT5, 5, dd_73_1, rfl, okc_5, by decide, tw_394⟩,
   ⟨13, dd_73_4, rfl, rfl⟩,
   Or.inl ⟨0, rfl, dd_73_7, rfl⟩,
   ⟨dd_73_8, rfl⟩,
   ⟨28, "PairMachine$Coder", fT5, 5, dd_73_9, rfl, okc_5, by decide, tw_394⟩,
   Or.inl (Or.inl ⟨dd_73_12, rfl⟩),
   ⟨dd_73_13, rfl⟩,
   ⟨28, "PairMachine$Coder", fT5, 5, dd_73_14, rfl, okc_5, by decide, tw_394, rfl, Or.inl rfl⟩,
   ⟨dd_73_17, rfl⟩, trivial⟩
theorem okM_73 : mj_okE gG 73 (cM_73, 1, oM_73, hM_73) := ⟨rfl, rfl, by decide +kernel, trivial, okI_73⟩
theorem dd_74_0 : decode prog_3_method_11_code 0 = .ok (.aload_n 0, 1) := by decide +kernel
theorem dd_74_1 : decode prog_3_method_11_code 1 = .ok (.getfield 9, 3) := by decide +kernel
theorem dd_74_4 : decode prog_3_method_11_code 4 = .ok (.iload_n 1, 1) := by decide +kernel
theorem dd_74_5 : decode prog_3_method_11_code 5 = .ok (.invokevirtual 78, 3) := by decide +kernel
theorem dd_74_8 : decode prog_3_method_11_code 8 = .ok (.istore_n 3, 1) := by decide +kernel
theorem dd_74_9 : decode prog_3_method_11_code 9 = .ok (.iload_n 3, 1) := by decide +kernel
theorem dd_74_10 : decode prog_3_method_11_code 10 = .ok (.bipush 8, 2) := by decide +kernel
theorem dd_74_12 : decode prog_3_method_11_code 12 = .ok (.if_icmp .ne 10, 3) := by decide +kernel
theorem dd_74_15 : decode prog_3_method_11_code 15 = .ok (.aload_n 0, 1) := by decide +kernel
theorem dd_74_16 : decode prog_3_method_11_code 16 = .ok (.iload_n 1, 1) := by decide +kernel
theorem dd_74_17 : decode prog_3_method_11_code 17 = .ok (.iload_n 2, 1) := by decide +kernel
theorem dd_74_18 : decode prog_3_method_11_code 18 = .ok (.invokevirtual 118, 3) := by decide +kernel
theorem dd_74_21 : decode prog_3_method_11_code 21 = .ok (.return_, 1) := by decide +kernel
theorem dd_74_22 : decode prog_3_method_11_code 22 = .ok (.aload_n 0, 1) := by decide +kernel
theorem dd_74_23 : decode prog_3_method_11_code 23 = .ok (.getfield 9, 3) := by decide +kernel
theorem dd_74_26 : decode prog_3_method_11_code 26 = .ok (.iload_n 1, 1) := by decide +kernel
theorem dd_74_27 : decode prog_3_method_11_code 27 = .ok (.invokevirtual 121, 3) := by decide +kernel
theorem dd_74_30 : decode prog_3_method_11_code 30 = .ok (.istore 4, 2) := by decide +kernel
theorem dd_74_32 : decode prog_3_method_11_code 32 = .ok (.iconst 0, 1) := by decide +kernel
theorem dd_74_33 : decode prog_3_method_11_code 33 = .ok (.istore 5, 2) := by decide +kernel
theorem dd_74_35 : decode prog_3_method_11_code 35 = .ok (.iload 5, 2) := by decide +kernel
theorem dd_74_37 : decode prog_3_method_11_code 37 = .ok (.iload 4, 2) := by decide +kernel
theorem dd_74_39 : decode prog_3_method_11_code 39 = .ok (.if_icmp .ge 46, 3) := by decide +kernel
theorem dd_74_42 : decode prog_3_method_11_code 42 = .ok (.iload_n 3, 1) := by decide +kernel
theorem dd_74_43 : decode prog_3_method_11_code 43 = .ok (.bipush 13, 2) := by decide +kernel
theorem dd_74_45 : decode prog_3_method_11_code 45 = .ok (.if_icmp .ne 13, 3) := by decide +kernel
theorem dd_74_48 : decode prog_3_method_11_code 48 = .ok (.iload 4, 2) := by decide +kernel
theorem dd_74_50 : decode prog_3_method_11_code 50 = .ok (.iconst 1, 1) := by decide +kernel
theorem dd_74_51 : decode prog_3_method_11_code 51 = .ok (.isub, 1) := by decide +kernel
theorem dd_74_52 : decode prog_3_method_11_code 52 = .ok (.iload 5, 2) := by decide +kernel
theorem dd_74_54 : decode prog_3_method_11_code 54 = .ok (.isub, 1) := by decide +kernel
theorem dd_74_55 : decode prog_3_method_11_code 55 = .ok (.goto 5, 3) := by decide +kernel
theorem dd_74_58 : decode prog_3_method_11_code 58 = .ok (.iload 5, 2) := by decide +kernel
theorem dd_74_60 : decode prog_3_method_11_code 60 = .ok (.istore 6, 2) := by decide +kernel
theorem dd_74_62 : decode prog_3_method_11_code 62 = .ok (.aload_n 0, 1) := by decide +kernel
theorem dd_74_63 : decode prog_3_method_11_code 63 = .ok (.aload_n 0, 1) := by decide +kernel
theorem dd_74_64 : decode prog_3_method_11_code 64 = .ok (.getfield 9, 3) := by decide +kernel
theorem dd_74_67 : decode prog_3_method_11_code 67 = .ok (.iload_n 1, 1) := by decide +kernel
theorem dd_74_68 : decode prog_3_method_11_code 68 = .ok (.iload 6, 2) := by decide +kernel
theorem dd_74_70 : decode prog_3_method_11_code 70 = .ok (.invokevirtual 124, 3) := by decide +kernel
theorem dd_74_73 : decode prog_3_method_11_code 73 = .ok (.iload_n 2, 1) := by decide +kernel
theorem dd_74_74 : decode prog_3_method_11_code 74 = .ok (.iconst 1, 1) := by decide +kernel
theorem dd_74_75 : decode prog_3_method_11_code 75 = .ok (.iadd, 1) := by decide +kernel
theorem dd_74_76 : decode prog_3_method_11_code 76 = .ok (.invokevirtual 37, 3) := by decide +kernel
theorem dd_74_79 : decode prog_3_method_11_code 79 = .ok (.iinc 5 1, 3) := by decide +kernel
theorem dd_74_82 : decode prog_3_method_11_code 82 = .ok (.goto (-47), 3) := by decide +kernel
theorem dd_74_85 : decode prog_3_method_11_code 85 = .ok (.aload_n 0, 1) := by decide +kernel
theorem dd_74_86 : decode prog_3_method_11_code 86 = .ok (.getfield 15, 3) := by decide +kernel
theorem dd_74_89 : decode prog_3_method_11_code 89 = .ok (.iload_n 3, 1) := by decide +kernel
theorem dd_74_90 : decode prog_3_method_11_code 90 = .ok (.invokevirtual 43, 3) := by decide +kernel
theorem dd_74_93 : decode prog_3_method_11_code 93 = .ok (.return_, 1) := by decide +kernel
set_option maxRecDepth 100000 in
theorem okI_74 : mj_okI gG "PairMachine$Coder" prog_3_method_11_code 7 (mj_off oM_74) (Option.none : Option Jvm.ClassFile.FieldType) false true 0 cM_74 :=
  ⟨Or.inl ⟨0, rfl, dd_74_0, rfl⟩,
   ⟨9, "PairMachine$Coder", fT5, 5, dd_74_1, rfl, okc_5, by decide, tw_387⟩,
   Or.inl ⟨1, rfl, dd_74_4, rfl⟩,
   ⟨rfl, tw_438, by decide, tw_109, by decide +kernel, 78, tw_439, dd_74_5, tw_440, ⟨"PairMachine$Tree", fT2, 7, rfl, tw_441⟩, by decide +kernel⟩,
   ⟨by decide, Or.inl ⟨3, rfl, dd_74_8, rfl⟩⟩,
   Or.inl ⟨3, rfl, dd_74_9, rfl⟩,
   Or.inl (Or.inr (Or.inl ⟨dd_74_10, rfl, by decide⟩)),
   ⟨10, dd_74_12, rfl, rfl⟩,
   Or.inl ⟨0, rfl, dd_74_15, rfl⟩,
   Or.inl ⟨1, rfl, dd_74_16, rfl⟩,
   Or.inl ⟨2, rfl, dd_74_17, rfl⟩,
   ⟨rfl, tw_469, by decide, tw_136, by decide +kernel, 118, tw_470, dd_74_18, tw_471, ⟨"PairMachine$Coder", fT5, 5, rfl, tw_472⟩, by decide +kernel⟩,
   ⟨dd_74_21, rfl⟩,
   Or.inl ⟨0, rfl, dd_74_22, rfl⟩,
   ⟨9, "PairMachine$Coder", fT5, 5, dd_74_23, rfl, okc_5, by decide, tw_387⟩,
   Or.inl ⟨1, rfl, dd_74_26, rfl⟩,
   ⟨rfl, tw_473, by decide, tw_109, by decide +kernel, 121, tw_474, dd_74_27, tw_475, ⟨"PairMachine$Tree", fT2, 7, rfl, tw_476⟩, by decide +kernel⟩,
   ⟨by decide, Or.inr ⟨dd_74_30, rfl⟩⟩,
   Or.inl (Or.inl ⟨dd_74_32, rfl⟩),
   ⟨by decide, Or.inr ⟨dd_74_33, rfl⟩⟩,
   Or.inr ⟨dd_74_35, rfl⟩,
   Or.inr ⟨dd_74_37, rfl⟩,
   ⟨46, dd_74_39, rfl, rfl⟩,
   Or.inl ⟨3, rfl, dd_74_42, rfl⟩,
   Or.inl (Or.inr (Or.inl ⟨dd_74_43, rfl, by decide⟩)),
   ⟨13, dd_74_45, rfl, rfl⟩,
   Or.inr ⟨dd_74_48, rfl⟩,
   Or.inl (Or.inl ⟨dd_74_50, rfl⟩),
   ⟨dd_74_51, rfl⟩,
   Or.inr ⟨dd_74_52, rfl⟩,
   ⟨dd_74_54, rfl⟩,
   ⟨5, dd_74_55, rfl⟩,
   Or.inr ⟨dd_74_58, rfl⟩,
   ⟨by decide, Or.inr ⟨dd_74_60, rfl⟩⟩,
   Or.inl ⟨0, rfl, dd_74_62, rfl⟩,
   Or.inl ⟨0, rfl, dd_74_63, rfl⟩,
   ⟨9, "PairMachine$Coder", fT5, 5, dd_74_64, rfl, okc_5, by decide, tw_387⟩,
   Or.inl ⟨1, rfl, dd_74_67, rfl⟩,
   Or.inr ⟨dd_74_68, rfl⟩,
   ⟨rfl, tw_343, by decide, tw_109, by decide +kernel, 124, tw_477, dd_74_70, tw_345, ⟨"PairMachine$Tree", fT2, 7, rfl, tw_346⟩, by decide +kernel⟩,
   Or.inl ⟨2, rfl, dd_74_73, rfl⟩,
   Or.inl (Or.inl ⟨dd_74_74, rfl⟩),
   ⟨dd_74_75, rfl⟩,
   ⟨rfl, tw_396, by decide, tw_136, by decide +kernel, 37, tw_397, dd_74_76, tw_398, ⟨"PairMachine$Coder", fT5, 5, rfl, tw_399⟩, by decide +kernel⟩,
   ⟨by decide, dd_74_79, rfl⟩,
   ⟨(-47), dd_74_82, rfl⟩,
   Or.inl ⟨0, rfl, dd_74_85, rfl⟩,
   ⟨15, "PairMachine$Coder", fT5, 5, dd_74_86, rfl, okc_5, by decide, tw_388⟩,
   Or.inl ⟨3, rfl, dd_74_89, rfl⟩,
   ⟨rfl, tw_400, by decide, tw_129, by decide +kernel, 43, tw_401, dd_74_90, tw_402, ⟨"PairMachine$Code", fT4, 5, rfl, tw_403⟩, by decide +kernel⟩,
   ⟨dd_74_93, rfl⟩, trivial⟩
theorem okM_74 : mj_okE gG 74 (cM_74, 7, oM_74, hM_74) := ⟨rfl, rfl, by decide +kernel, trivial, okI_74⟩
end
