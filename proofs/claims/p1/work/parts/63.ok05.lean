theorem dd_71_0 : decode prog_3_method_8_code 0 = .ok (.iconst 0, 1) := by decide +kernel
theorem dd_71_1 : decode prog_3_method_8_code 1 = .ok (.istore_n 2, 1) := by decide +kernel
theorem dd_71_2 : decode prog_3_method_8_code 2 = .ok (.iload_n 2, 1) := by decide +kernel
theorem dd_71_3 : decode prog_3_method_8_code 3 = .ok (.aload_n 0, 1) := by decide +kernel
theorem dd_71_4 : decode prog_3_method_8_code 4 = .ok (.getfield 28, 3) := by decide +kernel
theorem dd_71_7 : decode prog_3_method_8_code 7 = .ok (.if_icmp .ge 43, 3) := by decide +kernel
theorem dd_71_10 : decode prog_3_method_8_code 10 = .ok (.aload_n 0, 1) := by decide +kernel
theorem dd_71_11 : decode prog_3_method_8_code 11 = .ok (.getfield 9, 3) := by decide +kernel
theorem dd_71_14 : decode prog_3_method_8_code 14 = .ok (.iload_n 1, 1) := by decide +kernel
theorem dd_71_15 : decode prog_3_method_8_code 15 = .ok (.aload_n 0, 1) := by decide +kernel
theorem dd_71_16 : decode prog_3_method_8_code 16 = .ok (.getfield 19, 3) := by decide +kernel
theorem dd_71_19 : decode prog_3_method_8_code 19 = .ok (.aload_n 0, 1) := by decide +kernel
theorem dd_71_20 : decode prog_3_method_8_code 20 = .ok (.getfield 28, 3) := by decide +kernel
theorem dd_71_23 : decode prog_3_method_8_code 23 = .ok (.iconst 1, 1) := by decide +kernel
theorem dd_71_24 : decode prog_3_method_8_code 24 = .ok (.isub, 1) := by decide +kernel
theorem dd_71_25 : decode prog_3_method_8_code 25 = .ok (.iload_n 2, 1) := by decide +kernel
theorem dd_71_26 : decode prog_3_method_8_code 26 = .ok (.isub, 1) := by decide +kernel
theorem dd_71_27 : decode prog_3_method_8_code 27 = .ok (.iaload, 1) := by decide +kernel
theorem dd_71_28 : decode prog_3_method_8_code 28 = .ok (.invokevirtual 115, 3) := by decide +kernel
theorem dd_71_31 : decode prog_3_method_8_code 31 = .ok (.istore_n 3, 1) := by decide +kernel
theorem dd_71_32 : decode prog_3_method_8_code 32 = .ok (.iload_n 3, 1) := by decide +kernel
theorem dd_71_33 : decode prog_3_method_8_code 33 = .ok (.iconst (-1), 1) := by decide +kernel
theorem dd_71_34 : decode prog_3_method_8_code 34 = .ok (.if_icmp .eq 10, 3) := by decide +kernel
theorem dd_71_37 : decode prog_3_method_8_code 37 = .ok (.bipush 16, 2) := by decide +kernel
theorem dd_71_39 : decode prog_3_method_8_code 39 = .ok (.iload_n 2, 1) := by decide +kernel
theorem dd_71_40 : decode prog_3_method_8_code 40 = .ok (.imul, 1) := by decide +kernel
theorem dd_71_41 : decode prog_3_method_8_code 41 = .ok (.iload_n 3, 1) := by decide +kernel
theorem dd_71_42 : decode prog_3_method_8_code 42 = .ok (.iadd, 1) := by decide +kernel
theorem dd_71_43 : decode prog_3_method_8_code 43 = .ok (.ireturn, 1) := by decide +kernel
theorem dd_71_44 : decode prog_3_method_8_code 44 = .ok (.iinc 2 1, 3) := by decide +kernel
theorem dd_71_47 : decode prog_3_method_8_code 47 = .ok (.goto (-45), 3) := by decide +kernel
theorem dd_71_50 : decode prog_3_method_8_code 50 = .ok (.iconst (-1), 1) := by decide +kernel
theorem dd_71_51 : decode prog_3_method_8_code 51 = .ok (.ireturn, 1) := by decide +kernel
set_option maxRecDepth 100000 in
theorem okI_71 : mj_okI gG "PairMachine$Coder" prog_3_method_8_code 4 (mj_off oM_71) (Option.some Jvm.ClassFile.FieldType.int) false true 0 cM_71 :=
  ⟨Or.inl (Or.inl ⟨dd_71_0, rfl⟩),
   ⟨by decide, Or.inl ⟨2, rfl, dd_71_1, rfl⟩⟩,
   Or.inl ⟨2, rfl, dd_71_2, rfl⟩,
   Or.inl ⟨0, rfl, dd_71_3, rfl⟩,
   ⟨28, "PairMachine$Coder", fT5, 5, dd_71_4, rfl, okc_5, by decide, tw_398⟩,
   ⟨43, dd_71_7, rfl, rfl⟩,
   Or.inl ⟨0, rfl, dd_71_10, rfl⟩,
   ⟨9, "PairMachine$Coder", fT5, 5, dd_71_11, rfl, okc_5, by decide, tw_391⟩,
   Or.inl ⟨1, rfl, dd_71_14, rfl⟩,
   Or.inl ⟨0, rfl, dd_71_15, rfl⟩,
   ⟨19, "PairMachine$Coder", fT5, 5, dd_71_16, rfl, okc_5, by decide, tw_393⟩,
   Or.inl ⟨0, rfl, dd_71_19, rfl⟩,
   ⟨28, "PairMachine$Coder", fT5, 5, dd_71_20, rfl, okc_5, by decide, tw_398⟩,
   Or.inl (Or.inl ⟨dd_71_23, rfl⟩),
   ⟨dd_71_24, rfl⟩,
   Or.inl ⟨2, rfl, dd_71_25, rfl⟩,
   ⟨dd_71_26, rfl⟩,
   ⟨dd_71_27, rfl⟩,
   ⟨rfl, tw_365, by decide, tw_113, by decide +kernel, 115, tw_472, dd_71_28, tw_367, ⟨"PairMachine$Tree", fT2, 7, rfl, tw_368⟩, by decide +kernel⟩,
   ⟨by decide, Or.inl ⟨3, rfl, dd_71_31, rfl⟩⟩,
   Or.inl ⟨3, rfl, dd_71_32, rfl⟩,
   Or.inl (Or.inl ⟨dd_71_33, rfl⟩),
   ⟨10, dd_71_34, rfl, rfl⟩,
   Or.inl (Or.inr (Or.inl ⟨dd_71_37, rfl, by decide⟩)),
   Or.inl ⟨2, rfl, dd_71_39, rfl⟩,
   ⟨dd_71_40, rfl⟩,
   Or.inl ⟨3, rfl, dd_71_41, rfl⟩,
   ⟨dd_71_42, rfl⟩,
   ⟨dd_71_43, rfl⟩,
   ⟨by decide, dd_71_44, rfl⟩,
   ⟨(-45), dd_71_47, rfl⟩,
   Or.inl (Or.inl ⟨dd_71_50, rfl⟩),
   ⟨dd_71_51, rfl⟩, trivial⟩
theorem okM_71 : mj_okE gG 71 (cM_71, 4, oM_71, hM_71) := ⟨rfl, rfl, by decide +kernel, trivial, okI_71⟩
theorem dd_72_0 : decode prog_3_method_9_code 0 = .ok (.aload_n 0, 1) := by decide +kernel
theorem dd_72_1 : decode prog_3_method_9_code 1 = .ok (.getfield 28, 3) := by decide +kernel
theorem dd_72_4 : decode prog_3_method_9_code 4 = .ok (.aload_n 0, 1) := by decide +kernel
theorem dd_72_5 : decode prog_3_method_9_code 5 = .ok (.getfield 19, 3) := by decide +kernel
theorem dd_72_8 : decode prog_3_method_9_code 8 = .ok (.arraylength, 1) := by decide +kernel
theorem dd_72_9 : decode prog_3_method_9_code 9 = .ok (.if_icmp .ge 23, 3) := by decide +kernel
theorem dd_72_12 : decode prog_3_method_9_code 12 = .ok (.aload_n 0, 1) := by decide +kernel
theorem dd_72_13 : decode prog_3_method_9_code 13 = .ok (.getfield 19, 3) := by decide +kernel
theorem dd_72_16 : decode prog_3_method_9_code 16 = .ok (.aload_n 0, 1) := by decide +kernel
theorem dd_72_17 : decode prog_3_method_9_code 17 = .ok (.getfield 28, 3) := by decide +kernel
theorem dd_72_20 : decode prog_3_method_9_code 20 = .ok (.iload_n 1, 1) := by decide +kernel
theorem dd_72_21 : decode prog_3_method_9_code 21 = .ok (.iastore, 1) := by decide +kernel
theorem dd_72_22 : decode prog_3_method_9_code 22 = .ok (.aload_n 0, 1) := by decide +kernel
theorem dd_72_23 : decode prog_3_method_9_code 23 = .ok (.dup, 1) := by decide +kernel
theorem dd_72_24 : decode prog_3_method_9_code 24 = .ok (.getfield 28, 3) := by decide +kernel
theorem dd_72_27 : decode prog_3_method_9_code 27 = .ok (.iconst 1, 1) := by decide +kernel
theorem dd_72_28 : decode prog_3_method_9_code 28 = .ok (.iadd, 1) := by decide +kernel
theorem dd_72_29 : decode prog_3_method_9_code 29 = .ok (.putfield 28, 3) := by decide +kernel
theorem dd_72_32 : decode prog_3_method_9_code 32 = .ok (.return_, 1) := by decide +kernel
set_option maxRecDepth 100000 in
theorem okI_72 : mj_okI gG "PairMachine$Coder" prog_3_method_9_code 2 (mj_off oM_72) (Option.none : Option Jvm.ClassFile.FieldType) false true 0 cM_72 :=
  ⟨Or.inl ⟨0, rfl, dd_72_0, rfl⟩,
   ⟨28, "PairMachine$Coder", fT5, 5, dd_72_1, rfl, okc_5, by decide, tw_398⟩,
   Or.inl ⟨0, rfl, dd_72_4, rfl⟩,
   ⟨19, "PairMachine$Coder", fT5, 5, dd_72_5, rfl, okc_5, by decide, tw_393⟩,
   ⟨dd_72_8, rfl⟩,
   ⟨23, dd_72_9, rfl, rfl⟩,
   Or.inl ⟨0, rfl, dd_72_12, rfl⟩,
   ⟨19, "PairMachine$Coder", fT5, 5, dd_72_13, rfl, okc_5, by decide, tw_393⟩,
   Or.inl ⟨0, rfl, dd_72_16, rfl⟩,
   ⟨28, "PairMachine$Coder", fT5, 5, dd_72_17, rfl, okc_5, by decide, tw_398⟩,
   Or.inl ⟨1, rfl, dd_72_20, rfl⟩,
   ⟨dd_72_21, rfl⟩,
   Or.inl ⟨0, rfl, dd_72_22, rfl⟩,
   ⟨dd_72_23, rfl⟩,
   ⟨28, "PairMachine$Coder", fT5, 5, dd_72_24, rfl, okc_5, by decide, tw_398⟩,
   Or.inl (Or.inl ⟨dd_72_27, rfl⟩),
   ⟨dd_72_28, rfl⟩,
   ⟨28, "PairMachine$Coder", fT5, 5, dd_72_29, rfl, okc_5, by decide, tw_398, rfl, Or.inl rfl⟩,
   ⟨dd_72_32, rfl⟩, trivial⟩
theorem okM_72 : mj_okE gG 72 (cM_72, 2, oM_72, hM_72) := ⟨rfl, rfl, by decide +kernel, trivial, okI_72⟩
theorem dd_73_0 : decode prog_3_method_10_code 0 = .ok (.aload_n 0, 1) := by decide +kernel
theorem dd_73_1 : decode prog_3_method_10_code 1 = .ok (.getfield 28, 3) := by decide +kernel
theorem dd_73_4 : decode prog_3_method_10_code 4 = .ok (.ifCond .le 13, 3) := by decide +kernel
theorem dd_73_7 : decode prog_3_method_10_code 7 = .ok (.aload_n 0, 1) := by decide +kernel
theorem dd_73_8 : decode prog_3_method_10_code 8 = .ok (.dup, 1) := by decide +kernel
theorem dd_73_9 : decode prog_3_method_10_code 9 = .ok (.getfield 28, 3) := by decide +kernel
theorem dd_73_12 : decode prog_3_method_10_code 12 = .ok (.iconst 1, 1) := by decide +kernel
theorem dd_73_13 : decode prog_3_method_10_code 13 = .ok (.isub, 1) := by decide +kernel
theorem dd_73_14 : decode prog_3_method_10_code 14 = .ok (.putfield 28, 3) := by decide +kernel
theorem dd_73_17 : decode prog_3_method_10_code 17 = .ok (.return_, 1) := by decide +kernel
set_option maxRecDepth 100000 in
theorem okI_73 : mj_okI gG "PairMachine$Coder" prog_3_method_10_code 1 (mj_off oM_73) (Option.none : Option Jvm.ClassFile.FieldType) false true 0 cM_73 :=
  ⟨Or.inl ⟨0, rfl, dd_73_0, rfl⟩,
   ⟨28, "PairMachine$Coder", fT5, 5, dd_73_1, rfl, okc_5, by decide, tw_398⟩,
   ⟨13, dd_73_4, rfl, rfl⟩,
   Or.inl ⟨0, rfl, dd_73_7, rfl⟩,
   ⟨dd_73_8, rfl⟩,
   ⟨28, "PairMachine$Coder", fT5, 5, dd_73_9, rfl, okc_5, by decide, tw_398⟩,
   Or.inl (Or.inl ⟨dd_73_12, rfl⟩),
   ⟨dd_73_13, rfl⟩,
   ⟨28, "PairMachine$Coder", fT5, 5, dd_73_14, rfl, okc_5, by decide, tw_398, rfl, Or.inl rfl⟩,
   ⟨dd_73_17, rfl⟩, trivial⟩
theorem okM_73 : mj_okE gG 73 (cM_73, 1, oM_73, hM_73) := ⟨rfl, rfl, by decide +kernel, trivial, okI_73⟩
theorem dd_74_0 : decode prog_3_method_11_code 0 = .ok (.aload_n 0, 1) := by decide +kernel
theorem dd_74_1 : decode prog_3_method_11_code 1 = .ok (.getfield 9, 3) := by decide +kernel
theorem dd_74_4 : decode prog_3_method_11_code 4 = .ok (.iload_n 1, 1) := by decide +kernel
theorem dd_74_5 : decode prog_3_method_11_code 5 = .ok (.invokevirtual 78, 3) := by decide +kernel
theorem dd_74_8 : decode prog_3_method_11_code 8 = .ok (.istore_n 3, 1) := by decide +kernel
theorem dd_74_9 : decode prog_3_method_11_code 9 = .ok (.iload_n 3, 1) := by decide +kernel
theorem dd_74_10 : decode prog_3_method_11_code 10 = .ok (.bipush 8, 2) := by decide +kernel
theorem dd_74_12 : decode prog_3_method_11_code 12 = .ok (.if_icmp .ne 10, 3) := by decide +kernel
theorem dd_74_15 : decode prog_3_method_11_code 15 = .ok (.aload_n 0, 1) := by decide +kernel
theorem dd_74_16 : decode prog_3_method_11_code 16 = .ok (.iload_n 1, 1) := by decide +kernel
theorem dd_74_17 : decode prog_3_method_11_code 17 = .ok (.iload_n 2, 1) := by decide +kernel
theorem dd_74_18 : decode prog_3_method_11_code 18 = .ok (.invokevirtual 118, 3) := by decide +kernel
theorem dd_74_21 : decode prog_3_method_11_code 21 = .ok (.return_, 1) := by decide +kernel
theorem dd_74_22 : decode prog_3_method_11_code 22 = .ok (.aload_n 0, 1) := by decide +kernel
theorem dd_74_23 : decode prog_3_method_11_code 23 = .ok (.getfield 9, 3) := by decide +kernel
theorem dd_74_26 : decode prog_3_method_11_code 26 = .ok (.iload_n 1, 1) := by decide +kernel
theorem dd_74_27 : decode prog_3_method_11_code 27 = .ok (.invokevirtual 121, 3) := by decide +kernel
theorem dd_74_30 : decode prog_3_method_11_code 30 = .ok (.istore 4, 2) := by decide +kernel
theorem dd_74_32 : decode prog_3_method_11_code 32 = .ok (.iconst 0, 1) := by decide +kernel
theorem dd_74_33 : decode prog_3_method_11_code 33 = .ok (.istore 5, 2) := by decide +kernel
theorem dd_74_35 : decode prog_3_method_11_code 35 = .ok (.iload 5, 2) := by decide +kernel
theorem dd_74_37 : decode prog_3_method_11_code 37 = .ok (.iload 4, 2) := by decide +kernel
theorem dd_74_39 : decode prog_3_method_11_code 39 = .ok (.if_icmp .ge 46, 3) := by decide +kernel
theorem dd_74_42 : decode prog_3_method_11_code 42 = .ok (.iload_n 3, 1) := by decide +kernel
theorem dd_74_43 : decode prog_3_method_11_code 43 = .ok (.bipush 13, 2) := by decide +kernel
theorem dd_74_45 : decode prog_3_method_11_code 45 = .ok (.if_icmp .ne 13, 3) := by decide +kernel
theorem dd_74_48 : decode prog_3_method_11_code 48 = .ok (.iload 4, 2) := by decide +kernel
theorem dd_74_50 : decode prog_3_method_11_code 50 = .ok (.iconst 1, 1) := by decide +kernel
theorem dd_74_51 : decode prog_3_method_11_code 51 = .ok (.isub, 1) := by decide +kernel
theorem dd_74_52 : decode prog_3_method_11_code 52 = .ok (.iload 5, 2) := by decide +kernel
theorem dd_74_54 : decode prog_3_method_11_code 54 = .ok (.isub, 1) := by decide +kernel
theorem dd_74_55 : decode prog_3_method_11_code 55 = .ok (.goto 5, 3) := by decide +kernel
theorem dd_74_58 : decode prog_3_method_11_code 58 = .ok (.iload 5, 2) := by decide +kernel
theorem dd_74_60 : decode prog_3_method_11_code 60 = .ok (.istore 6, 2) := by decide +kernel
theorem dd_74_62 : decode prog_3_method_11_code 62 = .ok (.aload_n 0, 1) := by decide +kernel
theorem dd_74_63 : decode prog_3_method_11_code 63 = .ok (.aload_n 0, 1) := by decide +kernel
theorem dd_74_64 : decode prog_3_method_11_code 64 = .ok (.getfield 9, 3) := by decide +kernel
theorem dd_74_67 : decode prog_3_method_11_code 67 = .ok (.iload_n 1, 1) := by decide +kernel
theorem dd_74_68 : decode prog_3_method_11_code 68 = .ok (.iload 6, 2) := by decide +kernel
theorem dd_74_70 : decode prog_3_method_11_code 70 = .ok (.invokevirtual 124, 3) := by decide +kernel
theorem dd_74_73 : decode prog_3_method_11_code 73 = .ok (.iload_n 2, 1) := by decide +kernel
theorem dd_74_74 : decode prog_3_method_11_code 74 = .ok (.iconst 1, 1) := by decide +kernel
theorem dd_74_75 : decode prog_3_method_11_code 75 = .ok (.iadd, 1) := by decide +kernel
theorem dd_74_76 : decode prog_3_method_11_code 76 = .ok (.invokevirtual 37, 3) := by decide +kernel
theorem dd_74_79 : decode prog_3_method_11_code 79 = .ok (.iinc 5 1, 3) := by decide +kernel
theorem dd_74_82 : decode prog_3_method_11_code 82 = .ok (.goto (-47), 3) := by decide +kernel
theorem dd_74_85 : decode prog_3_method_11_code 85 = .ok (.aload_n 0, 1) := by decide +kernel
theorem dd_74_86 : decode prog_3_method_11_code 86 = .ok (.getfield 15, 3) := by decide +kernel
theorem dd_74_89 : decode prog_3_method_11_code 89 = .ok (.iload_n 3, 1) := by decide +kernel
theorem dd_74_90 : decode prog_3_method_11_code 90 = .ok (.invokevirtual 43, 3) := by decide +kernel
theorem dd_74_93 : decode prog_3_method_11_code 93 = .ok (.return_, 1) := by decide +kernel
set_option maxRecDepth 100000 in
theorem okI_74 : mj_okI gG "PairMachine$Coder" prog_3_method_11_code 7 (mj_off oM_74) (Option.none : Option Jvm.ClassFile.FieldType) false true 0 cM_74 :=
  ⟨Or.inl ⟨0, rfl, dd_74_0, rfl⟩,
   ⟨9, "PairMachine$Coder", fT5, 5, dd_74_1, rfl, okc_5, by decide, tw_391⟩,
   Or.inl ⟨1, rfl, dd_74_4, rfl⟩,
   ⟨rfl, tw_442, by decide, tw_113, by decide +kernel, 78, tw_443, dd_74_5, tw_444, ⟨"PairMachine$Tree", fT2, 7, rfl, tw_445⟩, by decide +kernel⟩,
   ⟨by decide, Or.inl ⟨3, rfl, dd_74_8, rfl⟩⟩,
   Or.inl ⟨3, rfl, dd_74_9, rfl⟩,
   Or.inl (Or.inr (Or.inl ⟨dd_74_10, rfl, by decide⟩)),
   ⟨10, dd_74_12, rfl, rfl⟩,
   Or.inl ⟨0, rfl, dd_74_15, rfl⟩,
   Or.inl ⟨1, rfl, dd_74_16, rfl⟩,
   Or.inl ⟨2, rfl, dd_74_17, rfl⟩,
   ⟨rfl, tw_473, by decide, tw_140, by decide +kernel, 118, tw_474, dd_74_18, tw_475, ⟨"PairMachine$Coder", fT5, 5, rfl, tw_476⟩, by decide +kernel⟩,
   ⟨dd_74_21, rfl⟩,
   Or.inl ⟨0, rfl, dd_74_22, rfl⟩,
   ⟨9, "PairMachine$Coder", fT5, 5, dd_74_23, rfl, okc_5, by decide, tw_391⟩,
   Or.inl ⟨1, rfl, dd_74_26, rfl⟩,
   ⟨rfl, tw_477, by decide, tw_113, by decide +kernel, 121, tw_478, dd_74_27, tw_479, ⟨"PairMachine$Tree", fT2, 7, rfl, tw_480⟩, by decide +kernel⟩,
   ⟨by decide, Or.inr ⟨dd_74_30, rfl⟩⟩,
   Or.inl (Or.inl ⟨dd_74_32, rfl⟩),
   ⟨by decide, Or.inr ⟨dd_74_33, rfl⟩⟩,
   Or.inr ⟨dd_74_35, rfl⟩,
   Or.inr ⟨dd_74_37, rfl⟩,
   ⟨46, dd_74_39, rfl, rfl⟩,
   Or.inl ⟨3, rfl, dd_74_42, rfl⟩,
   Or.inl (Or.inr (Or.inl ⟨dd_74_43, rfl, by decide⟩)),
   ⟨13, dd_74_45, rfl, rfl⟩,
   Or.inr ⟨dd_74_48, rfl⟩,
   Or.inl (Or.inl ⟨dd_74_50, rfl⟩),
   ⟨dd_74_51, rfl⟩,
   Or.inr ⟨dd_74_52, rfl⟩,
   ⟨dd_74_54, rfl⟩,
   ⟨5, dd_74_55, rfl⟩,
   Or.inr ⟨dd_74_58, rfl⟩,
   ⟨by decide, Or.inr ⟨dd_74_60, rfl⟩⟩,
   Or.inl ⟨0, rfl, dd_74_62, rfl⟩,
   Or.inl ⟨0, rfl, dd_74_63, rfl⟩,
   ⟨9, "PairMachine$Coder", fT5, 5, dd_74_64, rfl, okc_5, by decide, tw_391⟩,
   Or.inl ⟨1, rfl, dd_74_67, rfl⟩,
   Or.inr ⟨dd_74_68, rfl⟩,
   ⟨rfl, tw_347, by decide, tw_113, by decide +kernel, 124, tw_481, dd_74_70, tw_349, ⟨"PairMachine$Tree", fT2, 7, rfl, tw_350⟩, by decide +kernel⟩,
   Or.inl ⟨2, rfl, dd_74_73, rfl⟩,
   Or.inl (Or.inl ⟨dd_74_74, rfl⟩),
   ⟨dd_74_75, rfl⟩,
   ⟨rfl, tw_400, by decide, tw_140, by decide +kernel, 37, tw_401, dd_74_76, tw_402, ⟨"PairMachine$Coder", fT5, 5, rfl, tw_403⟩, by decide +kernel⟩,
   ⟨by decide, dd_74_79, rfl⟩,
   ⟨(-47), dd_74_82, rfl⟩,
   Or.inl ⟨0, rfl, dd_74_85, rfl⟩,
   ⟨15, "PairMachine$Coder", fT5, 5, dd_74_86, rfl, okc_5, by decide, tw_392⟩,
   Or.inl ⟨3, rfl, dd_74_89, rfl⟩,
   ⟨rfl, tw_404, by decide, tw_133, by decide +kernel, 43, tw_405, dd_74_90, tw_406, ⟨"PairMachine$Code", fT4, 5, rfl, tw_407⟩, by decide +kernel⟩,
   ⟨dd_74_93, rfl⟩, trivial⟩
theorem okM_74 : mj_okE gG 74 (cM_74, 7, oM_74, hM_74) := ⟨rfl, rfl, by decide +kernel, trivial, okI_74⟩
theorem dd_75_0 : decode prog_3_method_12_code 0 = .ok (.aload_n 0, 1) := by decide +kernel
theorem dd_75_1 : decode prog_3_method_12_code 1 = .ok (.aload_n 0, 1) := by decide +kernel
theorem dd_75_2 : decode prog_3_method_12_code 2 = .ok (.getfield 9, 3) := by decide +kernel
theorem dd_75_5 : decode prog_3_method_12_code 5 = .ok (.iload_n 1, 1) := by decide +kernel
theorem dd_75_6 : decode prog_3_method_12_code 6 = .ok (.iconst 0, 1) := by decide +kernel
theorem dd_75_7 : decode prog_3_method_12_code 7 = .ok (.invokevirtual 124, 3) := by decide +kernel
theorem dd_75_10 : decode prog_3_method_12_code 10 = .ok (.iload_n 2, 1) := by decide +kernel
theorem dd_75_11 : decode prog_3_method_12_code 11 = .ok (.iconst 1, 1) := by decide +kernel
theorem dd_75_12 : decode prog_3_method_12_code 12 = .ok (.iadd, 1) := by decide +kernel
theorem dd_75_13 : decode prog_3_method_12_code 13 = .ok (.invokevirtual 37, 3) := by decide +kernel
theorem dd_75_16 : decode prog_3_method_12_code 16 = .ok (.aload_n 0, 1) := by decide +kernel
theorem dd_75_17 : decode prog_3_method_12_code 17 = .ok (.getfield 15, 3) := by decide +kernel
theorem dd_75_20 : decode prog_3_method_12_code 20 = .ok (.bipush 8, 2) := by decide +kernel
theorem dd_75_22 : decode prog_3_method_12_code 22 = .ok (.invokevirtual 43, 3) := by decide +kernel
theorem dd_75_25 : decode prog_3_method_12_code 25 = .ok (.aload_n 0, 1) := by decide +kernel
theorem dd_75_26 : decode prog_3_method_12_code 26 = .ok (.aload_n 0, 1) := by decide +kernel
theorem dd_75_27 : decode prog_3_method_12_code 27 = .ok (.getfield 9, 3) := by decide +kernel
theorem dd_75_30 : decode prog_3_method_12_code 30 = .ok (.iload_n 1, 1) := by decide +kernel
theorem dd_75_31 : decode prog_3_method_12_code 31 = .ok (.iconst 1, 1) := by decide +kernel
theorem dd_75_32 : decode prog_3_method_12_code 32 = .ok (.invokevirtual 124, 3) := by decide +kernel
theorem dd_75_35 : decode prog_3_method_12_code 35 = .ok (.bipush 9, 2) := by decide +kernel
theorem dd_75_37 : decode prog_3_method_12_code 37 = .ok (.iload_n 2, 1) := by decide +kernel
theorem dd_75_38 : decode prog_3_method_12_code 38 = .ok (.invokevirtual 127, 3) := by decide +kernel
theorem dd_75_41 : decode prog_3_method_12_code 41 = .ok (.aload_n 0, 1) := by decide +kernel
theorem dd_75_42 : decode prog_3_method_12_code 42 = .ok (.aload_n 0, 1) := by decide +kernel
theorem dd_75_43 : decode prog_3_method_12_code 43 = .ok (.getfield 9, 3) := by decide +kernel
theorem dd_75_46 : decode prog_3_method_12_code 46 = .ok (.iload_n 1, 1) := by decide +kernel
theorem dd_75_47 : decode prog_3_method_12_code 47 = .ok (.iconst 2, 1) := by decide +kernel
theorem dd_75_48 : decode prog_3_method_12_code 48 = .ok (.invokevirtual 124, 3) := by decide +kernel
theorem dd_75_51 : decode prog_3_method_12_code 51 = .ok (.bipush 9, 2) := by decide +kernel
theorem dd_75_53 : decode prog_3_method_12_code 53 = .ok (.iload_n 2, 1) := by decide +kernel
theorem dd_75_54 : decode prog_3_method_12_code 54 = .ok (.invokevirtual 127, 3) := by decide +kernel
theorem dd_75_57 : decode prog_3_method_12_code 57 = .ok (.return_, 1) := by decide +kernel
set_option maxRecDepth 100000 in
theorem okI_75 : mj_okI gG "PairMachine$Coder" prog_3_method_12_code 3 (mj_off oM_75) (Option.none : Option Jvm.ClassFile.FieldType) false true 0 cM_75 :=
  ⟨Or.inl ⟨0, rfl, dd_75_0, rfl⟩,
   Or.inl ⟨0, rfl, dd_75_1, rfl⟩,
   ⟨9, "PairMachine$Coder", fT5, 5, dd_75_2, rfl, okc_5, by decide, tw_391⟩,
   Or.inl ⟨1, rfl, dd_75_5, rfl⟩,
   Or.inl (Or.inl ⟨dd_75_6, rfl⟩),
   ⟨rfl, tw_347, by decide, tw_113, by decide +kernel, 124, tw_481, dd_75_7, tw_349, ⟨"PairMachine$Tree", fT2, 7, rfl, tw_350⟩, by decide +kernel⟩,
   Or.inl ⟨2, rfl, dd_75_10, rfl⟩,
   Or.inl (Or.inl ⟨dd_75_11, rfl⟩),
   ⟨dd_75_12, rfl⟩,
   ⟨rfl, tw_400, by decide, tw_140, by decide +kernel, 37, tw_401, dd_75_13, tw_402, ⟨"PairMachine$Coder", fT5, 5, rfl, tw_403⟩, by decide +kernel⟩,
   Or.inl ⟨0, rfl, dd_75_16, rfl⟩,
   ⟨15, "PairMachine$Coder", fT5, 5, dd_75_17, rfl, okc_5, by decide, tw_392⟩,
   Or.inl (Or.inr (Or.inl ⟨dd_75_20, rfl, by decide⟩)),
   ⟨rfl, tw_404, by decide, tw_133, by decide +kernel, 43, tw_405, dd_75_22, tw_406, ⟨"PairMachine$Code", fT4, 5, rfl, tw_407⟩, by decide +kernel⟩,
   Or.inl ⟨0, rfl, dd_75_25, rfl⟩,
   Or.inl ⟨0, rfl, dd_75_26, rfl⟩,
   ⟨9, "PairMachine$Coder", fT5, 5, dd_75_27, rfl, okc_5, by decide, tw_391⟩,
   Or.inl ⟨1, rfl, dd_75_30, rfl⟩,
   Or.inl (Or.inl ⟨dd_75_31, rfl⟩),
   ⟨rfl, tw_347, by decide, tw_113, by decide +kernel, 124, tw_481, dd_75_32, tw_349, ⟨"PairMachine$Tree", fT2, 7, rfl, tw_350⟩, by decide +kernel⟩,
   Or.inl (Or.inr (Or.inl ⟨dd_75_35, rfl, by decide⟩)),
   Or.inl ⟨2, rfl, dd_75_37, rfl⟩,
   ⟨rfl, tw_482, by decide, tw_140, by decide +kernel, 127, tw_483, dd_75_38, tw_484, ⟨"PairMachine$Coder", fT5, 5, rfl, tw_485⟩, by decide +kernel⟩,
   Or.inl ⟨0, rfl, dd_75_41, rfl⟩,
   Or.inl ⟨0, rfl, dd_75_42, rfl⟩,
   ⟨9, "PairMachine$Coder", fT5, 5, dd_75_43, rfl, okc_5, by decide, tw_391⟩,
   Or.inl ⟨1, rfl, dd_75_46, rfl⟩,
   Or.inl (Or.inl ⟨dd_75_47, rfl⟩),
   ⟨rfl, tw_347, by decide, tw_113, by decide +kernel, 124, tw_481, dd_75_48, tw_349, ⟨"PairMachine$Tree", fT2, 7, rfl, tw_350⟩, by decide +kernel⟩,
   Or.inl (Or.inr (Or.inl ⟨dd_75_51, rfl, by decide⟩)),
   Or.inl ⟨2, rfl, dd_75_53, rfl⟩,
   ⟨rfl, tw_482, by decide, tw_140, by decide +kernel, 127, tw_483, dd_75_54, tw_484, ⟨"PairMachine$Coder", fT5, 5, rfl, tw_485⟩, by decide +kernel⟩,
   ⟨dd_75_57, rfl⟩, trivial⟩
theorem okM_75 : mj_okE gG 75 (cM_75, 3, oM_75, hM_75) := ⟨rfl, rfl, by decide +kernel, trivial, okI_75⟩
theorem dd_76_0 : decode prog_3_method_13_code 0 = .ok (.aload_n 0, 1) := by decide +kernel
theorem dd_76_1 : decode prog_3_method_13_code 1 = .ok (.getfield 15, 3) := by decide +kernel
theorem dd_76_4 : decode prog_3_method_13_code 4 = .ok (.invokevirtual 94, 3) := by decide +kernel
theorem dd_76_7 : decode prog_3_method_13_code 7 = .ok (.istore 4, 2) := by decide +kernel
theorem dd_76_9 : decode prog_3_method_13_code 9 = .ok (.aload_n 0, 1) := by decide +kernel
theorem dd_76_10 : decode prog_3_method_13_code 10 = .ok (.iload_n 1, 1) := by decide +kernel
theorem dd_76_11 : decode prog_3_method_13_code 11 = .ok (.iload_n 3, 1) := by decide +kernel
theorem dd_76_12 : decode prog_3_method_13_code 12 = .ok (.iconst 1, 1) := by decide +kernel
theorem dd_76_13 : decode prog_3_method_13_code 13 = .ok (.iadd, 1) := by decide +kernel
theorem dd_76_14 : decode prog_3_method_13_code 14 = .ok (.invokevirtual 37, 3) := by decide +kernel
theorem dd_76_17 : decode prog_3_method_13_code 17 = .ok (.aload_n 0, 1) := by decide +kernel
theorem dd_76_18 : decode prog_3_method_13_code 18 = .ok (.getfield 15, 3) := by decide +kernel
theorem dd_76_21 : decode prog_3_method_13_code 21 = .ok (.iload_n 2, 1) := by decide +kernel
theorem dd_76_22 : decode prog_3_method_13_code 22 = .ok (.invokevirtual 43, 3) := by decide +kernel
theorem dd_76_25 : decode prog_3_method_13_code 25 = .ok (.aload_n 0, 1) := by decide +kernel
theorem dd_76_26 : decode prog_3_method_13_code 26 = .ok (.getfield 15, 3) := by decide +kernel
theorem dd_76_29 : decode prog_3_method_13_code 29 = .ok (.iload 4, 2) := by decide +kernel
theorem dd_76_31 : decode prog_3_method_13_code 31 = .ok (.invokevirtual 103, 3) := by decide +kernel
theorem dd_76_34 : decode prog_3_method_13_code 34 = .ok (.return_, 1) := by decide +kernel
set_option maxRecDepth 100000 in
theorem okI_76 : mj_okI gG "PairMachine$Coder" prog_3_method_13_code 5 (mj_off oM_76) (Option.none : Option Jvm.ClassFile.FieldType) false true 0 cM_76 :=
  ⟨Or.inl ⟨0, rfl, dd_76_0, rfl⟩,
   ⟨15, "PairMachine$Coder", fT5, 5, dd_76_1, rfl, okc_5, by decide, tw_392⟩,
   ⟨rfl, tw_451, by decide, tw_133, by decide +kernel, 94, tw_452, dd_76_4, tw_453, ⟨"PairMachine$Code", fT4, 5, rfl, tw_454⟩, by decide +kernel⟩,
   ⟨by decide, Or.inr ⟨dd_76_7, rfl⟩⟩,
   Or.inl ⟨0, rfl, dd_76_9, rfl⟩,
   Or.inl ⟨1, rfl, dd_76_10, rfl⟩,
   Or.inl ⟨3, rfl, dd_76_11, rfl⟩,
   Or.inl (Or.inl ⟨dd_76_12, rfl⟩),
   ⟨dd_76_13, rfl⟩,
   ⟨rfl, tw_400, by decide, tw_140, by decide +kernel, 37, tw_401, dd_76_14, tw_402, ⟨"PairMachine$Coder", fT5, 5, rfl, tw_403⟩, by decide +kernel⟩,
   Or.inl ⟨0, rfl, dd_76_17, rfl⟩,
   ⟨15, "PairMachine$Coder", fT5, 5, dd_76_18, rfl, okc_5, by decide, tw_392⟩,
   Or.inl ⟨2, rfl, dd_76_21, rfl⟩,
   ⟨rfl, tw_404, by decide, tw_133, by decide +kernel, 43, tw_405, dd_76_22, tw_406, ⟨"PairMachine$Code", fT4, 5, rfl, tw_407⟩, by decide +kernel⟩,
   Or.inl ⟨0, rfl, dd_76_25, rfl⟩,
   ⟨15, "PairMachine$Coder", fT5, 5, dd_76_26, rfl, okc_5, by decide, tw_392⟩,
   Or.inr ⟨dd_76_29, rfl⟩,
   ⟨rfl, tw_456, by decide, tw_133, by decide +kernel, 103, tw_457, dd_76_31, tw_458, ⟨"PairMachine$Code", fT4, 5, rfl, tw_459⟩, by decide +kernel⟩,
   ⟨dd_76_34, rfl⟩, trivial⟩
theorem okM_76 : mj_okE gG 76 (cM_76, 5, oM_76, hM_76) := ⟨rfl, rfl, by decide +kernel, trivial, okI_76⟩
theorem dd_77_0 : decode prog_3_method_14_code 0 = .ok (.aload_n 0, 1) := by decide +kernel
theorem dd_77_1 : decode prog_3_method_14_code 1 = .ok (.aload_n 0, 1) := by decide +kernel
theorem dd_77_2 : decode prog_3_method_14_code 2 = .ok (.getfield 9, 3) := by decide +kernel
theorem dd_77_5 : decode prog_3_method_14_code 5 = .ok (.iload_n 1, 1) := by decide +kernel
theorem dd_77_6 : decode prog_3_method_14_code 6 = .ok (.iconst 1, 1) := by decide +kernel
theorem dd_77_7 : decode prog_3_method_14_code 7 = .ok (.invokevirtual 124, 3) := by decide +kernel
theorem dd_77_10 : decode prog_3_method_14_code 10 = .ok (.aload_n 0, 1) := by decide +kernel
theorem dd_77_11 : decode prog_3_method_14_code 11 = .ok (.getfield 9, 3) := by decide +kernel
theorem dd_77_14 : decode prog_3_method_14_code 14 = .ok (.aload_n 0, 1) := by decide +kernel
theorem dd_77_15 : decode prog_3_method_14_code 15 = .ok (.getfield 9, 3) := by decide +kernel
theorem dd_77_18 : decode prog_3_method_14_code 18 = .ok (.iload_n 1, 1) := by decide +kernel
theorem dd_77_19 : decode prog_3_method_14_code 19 = .ok (.iconst 0, 1) := by decide +kernel
theorem dd_77_20 : decode prog_3_method_14_code 20 = .ok (.invokevirtual 124, 3) := by decide +kernel
theorem dd_77_23 : decode prog_3_method_14_code 23 = .ok (.invokevirtual 54, 3) := by decide +kernel
theorem dd_77_26 : decode prog_3_method_14_code 26 = .ok (.iload_n 2, 1) := by decide +kernel
theorem dd_77_27 : decode prog_3_method_14_code 27 = .ok (.invokevirtual 131, 3) := by decide +kernel
theorem dd_77_30 : decode prog_3_method_14_code 30 = .ok (.return_, 1) := by decide +kernel
set_option maxRecDepth 100000 in
theorem okI_77 : mj_okI gG "PairMachine$Coder" prog_3_method_14_code 3 (mj_off oM_77) (Option.none : Option Jvm.ClassFile.FieldType) false true 0 cM_77 :=
  ⟨Or.inl ⟨0, rfl, dd_77_0, rfl⟩,
   Or.inl ⟨0, rfl, dd_77_1, rfl⟩,
   ⟨9, "PairMachine$Coder", fT5, 5, dd_77_2, rfl, okc_5, by decide, tw_391⟩,
   Or.inl ⟨1, rfl, dd_77_5, rfl⟩,
   Or.inl (Or.inl ⟨dd_77_6, rfl⟩),
   ⟨rfl, tw_347, by decide, tw_113, by decide +kernel, 124, tw_481, dd_77_7, tw_349, ⟨"PairMachine$Tree", fT2, 7, rfl, tw_350⟩, by decide +kernel⟩,
   Or.inl ⟨0, rfl, dd_77_10, rfl⟩,
   ⟨9, "PairMachine$Coder", fT5, 5, dd_77_11, rfl, okc_5, by decide, tw_391⟩,
   Or.inl ⟨0, rfl, dd_77_14, rfl⟩,
   ⟨9, "PairMachine$Coder", fT5, 5, dd_77_15, rfl, okc_5, by decide, tw_391⟩,
   Or.inl ⟨1, rfl, dd_77_18, rfl⟩,
   Or.inl (Or.inl ⟨dd_77_19, rfl⟩),
   ⟨rfl, tw_347, by decide, tw_113, by decide +kernel, 124, tw_481, dd_77_20, tw_349, ⟨"PairMachine$Tree", fT2, 7, rfl, tw_350⟩, by decide +kernel⟩,
   ⟨rfl, tw_248, by decide, tw_113, by decide +kernel, 54, tw_413, dd_77_23, tw_250, ⟨"PairMachine$Tree", fT2, 7, rfl, tw_251⟩, by decide +kernel⟩,
   Or.inl ⟨2, rfl, dd_77_26, rfl⟩,
   ⟨rfl, tw_486, by decide, tw_140, by decide +kernel, 131, tw_487, dd_77_27, tw_488, ⟨"PairMachine$Coder", fT5, 5, rfl, tw_489⟩, by decide +kernel⟩,
   ⟨dd_77_30, rfl⟩, trivial⟩
theorem okM_77 : mj_okE gG 77 (cM_77, 3, oM_77, hM_77) := ⟨rfl, rfl, by decide +kernel, trivial, okI_77⟩
theorem dd_78_0 : decode prog_3_method_15_code 0 = .ok (.aload_n 0, 1) := by decide +kernel
theorem dd_78_1 : decode prog_3_method_15_code 1 = .ok (.getfield 15, 3) := by decide +kernel
theorem dd_78_4 : decode prog_3_method_15_code 4 = .ok (.iconst 3, 1) := by decide +kernel
theorem dd_78_5 : decode prog_3_method_15_code 5 = .ok (.invokevirtual 43, 3) := by decide +kernel
theorem dd_78_8 : decode prog_3_method_15_code 8 = .ok (.aload_n 0, 1) := by decide +kernel
theorem dd_78_9 : decode prog_3_method_15_code 9 = .ok (.iload_n 2, 1) := by decide +kernel
theorem dd_78_10 : decode prog_3_method_15_code 10 = .ok (.invokevirtual 134, 3) := by decide +kernel
theorem dd_78_13 : decode prog_3_method_15_code 13 = .ok (.aload_n 0, 1) := by decide +kernel
theorem dd_78_14 : decode prog_3_method_15_code 14 = .ok (.iload_n 1, 1) := by decide +kernel
theorem dd_78_15 : decode prog_3_method_15_code 15 = .ok (.iconst 5, 1) := by decide +kernel
theorem dd_78_16 : decode prog_3_method_15_code 16 = .ok (.iload_n 3, 1) := by decide +kernel
theorem dd_78_17 : decode prog_3_method_15_code 17 = .ok (.invokevirtual 127, 3) := by decide +kernel
theorem dd_78_20 : decode prog_3_method_15_code 20 = .ok (.aload_n 0, 1) := by decide +kernel
theorem dd_78_21 : decode prog_3_method_15_code 21 = .ok (.invokevirtual 137, 3) := by decide +kernel
theorem dd_78_24 : decode prog_3_method_15_code 24 = .ok (.return_, 1) := by decide +kernel
set_option maxRecDepth 100000 in
theorem okI_78 : mj_okI gG "PairMachine$Coder" prog_3_method_15_code 4 (mj_off oM_78) (Option.none : Option Jvm.ClassFile.FieldType) false true 0 cM_78 :=
  ⟨Or.inl ⟨0, rfl, dd_78_0, rfl⟩,
   ⟨15, "PairMachine$Coder", fT5, 5, dd_78_1, rfl, okc_5, by decide, tw_392⟩,
   Or.inl (Or.inl ⟨dd_78_4, rfl⟩),
   ⟨rfl, tw_404, by decide, tw_133, by decide +kernel, 43, tw_405, dd_78_5, tw_406, ⟨"PairMachine$Code", fT4, 5, rfl, tw_407⟩, by decide +kernel⟩,
   Or.inl ⟨0, rfl, dd_78_8, rfl⟩,
   Or.inl ⟨2, rfl, dd_78_9, rfl⟩,
   ⟨rfl, tw_490, by decide, tw_140, by decide +kernel, 134, tw_491, dd_78_10, tw_492, ⟨"PairMachine$Coder", fT5, 5, rfl, tw_493⟩, by decide +kernel⟩,
   Or.inl ⟨0, rfl, dd_78_13, rfl⟩,
   Or.inl ⟨1, rfl, dd_78_14, rfl⟩,
   Or.inl (Or.inl ⟨dd_78_15, rfl⟩),
   Or.inl ⟨3, rfl, dd_78_16, rfl⟩,
   ⟨rfl, tw_482, by decide, tw_140, by decide +kernel, 127, tw_483, dd_78_17, tw_484, ⟨"PairMachine$Coder", fT5, 5, rfl, tw_485⟩, by decide +kernel⟩,
   Or.inl ⟨0, rfl, dd_78_20, rfl⟩,
   ⟨rfl, tw_494, by decide, tw_140, by decide +kernel, 137, tw_495, dd_78_21, tw_496, ⟨"PairMachine$Coder", fT5, 5, rfl, tw_497⟩, by decide +kernel⟩,
   ⟨dd_78_24, rfl⟩, trivial⟩
theorem okM_78 : mj_okE gG 78 (cM_78, 4, oM_78, hM_78) := ⟨rfl, rfl, by decide +kernel, trivial, okI_78⟩
theorem dd_79_0 : decode prog_3_method_16_code 0 = .ok (.aload_n 0, 1) := by decide +kernel
theorem dd_79_1 : decode prog_3_method_16_code 1 = .ok (.invokevirtual 140, 3) := by decide +kernel
theorem dd_79_4 : decode prog_3_method_16_code 4 = .ok (.aload_n 0, 1) := by decide +kernel
theorem dd_79_5 : decode prog_3_method_16_code 5 = .ok (.getfield 9, 3) := by decide +kernel
theorem dd_79_8 : decode prog_3_method_16_code 8 = .ok (.iload_n 1, 1) := by decide +kernel
theorem dd_79_9 : decode prog_3_method_16_code 9 = .ok (.invokevirtual 121, 3) := by decide +kernel
theorem dd_79_12 : decode prog_3_method_16_code 12 = .ok (.iconst 1, 1) := by decide +kernel
theorem dd_79_13 : decode prog_3_method_16_code 13 = .ok (.isub, 1) := by decide +kernel
theorem dd_79_14 : decode prog_3_method_16_code 14 = .ok (.istore_n 3, 1) := by decide +kernel
theorem dd_79_15 : decode prog_3_method_16_code 15 = .ok (.iload_n 3, 1) := by decide +kernel
theorem dd_79_16 : decode prog_3_method_16_code 16 = .ok (.iconst 1, 1) := by decide +kernel
theorem dd_79_17 : decode prog_3_method_16_code 17 = .ok (.if_icmp .lt 23, 3) := by decide +kernel
theorem dd_79_20 : decode prog_3_method_16_code 20 = .ok (.aload_n 0, 1) := by decide +kernel
theorem dd_79_21 : decode prog_3_method_16_code 21 = .ok (.aload_n 0, 1) := by decide +kernel
theorem dd_79_22 : decode prog_3_method_16_code 22 = .ok (.getfield 9, 3) := by decide +kernel
theorem dd_79_25 : decode prog_3_method_16_code 25 = .ok (.iload_n 1, 1) := by decide +kernel
theorem dd_79_26 : decode prog_3_method_16_code 26 = .ok (.iload_n 3, 1) := by decide +kernel
theorem dd_79_27 : decode prog_3_method_16_code 27 = .ok (.invokevirtual 124, 3) := by decide +kernel
theorem dd_79_30 : decode prog_3_method_16_code 30 = .ok (.iload_n 2, 1) := by decide +kernel
theorem dd_79_31 : decode prog_3_method_16_code 31 = .ok (.invokevirtual 143, 3) := by decide +kernel
theorem dd_79_34 : decode prog_3_method_16_code 34 = .ok (.iinc 3 (-1), 3) := by decide +kernel
theorem dd_79_37 : decode prog_3_method_16_code 37 = .ok (.goto (-22), 3) := by decide +kernel
theorem dd_79_40 : decode prog_3_method_16_code 40 = .ok (.aload_n 0, 1) := by decide +kernel
theorem dd_79_41 : decode prog_3_method_16_code 41 = .ok (.aload_n 0, 1) := by decide +kernel
theorem dd_79_42 : decode prog_3_method_16_code 42 = .ok (.getfield 9, 3) := by decide +kernel
theorem dd_79_45 : decode prog_3_method_16_code 45 = .ok (.iload_n 1, 1) := by decide +kernel
theorem dd_79_46 : decode prog_3_method_16_code 46 = .ok (.iconst 0, 1) := by decide +kernel
theorem dd_79_47 : decode prog_3_method_16_code 47 = .ok (.invokevirtual 124, 3) := by decide +kernel
theorem dd_79_50 : decode prog_3_method_16_code 50 = .ok (.iload_n 2, 1) := by decide +kernel
theorem dd_79_51 : decode prog_3_method_16_code 51 = .ok (.iconst 1, 1) := by decide +kernel
theorem dd_79_52 : decode prog_3_method_16_code 52 = .ok (.iadd, 1) := by decide +kernel
theorem dd_79_53 : decode prog_3_method_16_code 53 = .ok (.invokevirtual 37, 3) := by decide +kernel
theorem dd_79_56 : decode prog_3_method_16_code 56 = .ok (.aload_n 0, 1) := by decide +kernel
theorem dd_79_57 : decode prog_3_method_16_code 57 = .ok (.getfield 15, 3) := by decide +kernel
theorem dd_79_60 : decode prog_3_method_16_code 60 = .ok (.iconst 4, 1) := by decide +kernel
theorem dd_79_61 : decode prog_3_method_16_code 61 = .ok (.invokevirtual 43, 3) := by decide +kernel
theorem dd_79_64 : decode prog_3_method_16_code 64 = .ok (.return_, 1) := by decide +kernel
set_option maxRecDepth 100000 in
theorem okI_79 : mj_okI gG "PairMachine$Coder" prog_3_method_16_code 4 (mj_off oM_79) (Option.none : Option Jvm.ClassFile.FieldType) false true 0 cM_79 :=
  ⟨Or.inl ⟨0, rfl, dd_79_0, rfl⟩,
   ⟨rfl, tw_498, by decide, tw_140, by decide +kernel, 140, tw_499, dd_79_1, tw_500, ⟨"PairMachine$Coder", fT5, 5, rfl, tw_501⟩, by decide +kernel⟩,
   Or.inl ⟨0, rfl, dd_79_4, rfl⟩,
   ⟨9, "PairMachine$Coder", fT5, 5, dd_79_5, rfl, okc_5, by decide, tw_391⟩,
   Or.inl ⟨1, rfl, dd_79_8, rfl⟩,
   ⟨rfl, tw_477, by decide, tw_113, by decide +kernel, 121, tw_478, dd_79_9, tw_479, ⟨"PairMachine$Tree", fT2, 7, rfl, tw_480⟩, by decide +kernel⟩,
   Or.inl (Or.inl ⟨dd_79_12, rfl⟩),
   ⟨dd_79_13, rfl⟩,
   ⟨by decide, Or.inl ⟨3, rfl, dd_79_14, rfl⟩⟩,
   Or.inl ⟨3, rfl, dd_79_15, rfl⟩,
   Or.inl (Or.inl ⟨dd_79_16, rfl⟩),
   ⟨23, dd_79_17, rfl, rfl⟩,
   Or.inl ⟨0, rfl, dd_79_20, rfl⟩,
   Or.inl ⟨0, rfl, dd_79_21, rfl⟩,
   ⟨9, "PairMachine$Coder", fT5, 5, dd_79_22, rfl, okc_5, by decide, tw_391⟩,
   Or.inl ⟨1, rfl, dd_79_25, rfl⟩,
   Or.inl ⟨3, rfl, dd_79_26, rfl⟩,
   ⟨rfl, tw_347, by decide, tw_113, by decide +kernel, 124, tw_481, dd_79_27, tw_349, ⟨"PairMachine$Tree", fT2, 7, rfl, tw_350⟩, by decide +kernel⟩,
   Or.inl ⟨2, rfl, dd_79_30, rfl⟩,
   ⟨rfl, tw_502, by decide, tw_140, by decide +kernel, 143, tw_503, dd_79_31, tw_504, ⟨"PairMachine$Coder", fT5, 5, rfl, tw_505⟩, by decide +kernel⟩,
   ⟨by decide, dd_79_34, rfl⟩,
   ⟨(-22), dd_79_37, rfl⟩,
   Or.inl ⟨0, rfl, dd_79_40, rfl⟩,
   Or.inl ⟨0, rfl, dd_79_41, rfl⟩,
   ⟨9, "PairMachine$Coder", fT5, 5, dd_79_42, rfl, okc_5, by decide, tw_391⟩,
   Or.inl ⟨1, rfl, dd_79_45, rfl⟩,
   Or.inl (Or.inl ⟨dd_79_46, rfl⟩),
   ⟨rfl, tw_347, by decide, tw_113, by decide +kernel, 124, tw_481, dd_79_47, tw_349, ⟨"PairMachine$Tree", fT2, 7, rfl, tw_350⟩, by decide +kernel⟩,
   Or.inl ⟨2, rfl, dd_79_50, rfl⟩,
   Or.inl (Or.inl ⟨dd_79_51, rfl⟩),
   ⟨dd_79_52, rfl⟩,
   ⟨rfl, tw_400, by decide, tw_140, by decide +kernel, 37, tw_401, dd_79_53, tw_402, ⟨"PairMachine$Coder", fT5, 5, rfl, tw_403⟩, by decide +kernel⟩,
   Or.inl ⟨0, rfl, dd_79_56, rfl⟩,
   ⟨15, "PairMachine$Coder", fT5, 5, dd_79_57, rfl, okc_5, by decide, tw_392⟩,
   Or.inl (Or.inl ⟨dd_79_60, rfl⟩),
   ⟨rfl, tw_404, by decide, tw_133, by decide +kernel, 43, tw_405, dd_79_61, tw_406, ⟨"PairMachine$Code", fT4, 5, rfl, tw_407⟩, by decide +kernel⟩,
   ⟨dd_79_64, rfl⟩, trivial⟩
theorem okM_79 : mj_okE gG 79 (cM_79, 4, oM_79, hM_79) := ⟨rfl, rfl, by decide +kernel, trivial, okI_79⟩
theorem dd_80_0 : decode prog_3_method_17_code 0 = .ok (.aload_n 0, 1) := by decide +kernel
theorem dd_80_1 : decode prog_3_method_17_code 1 = .ok (.iload_n 1, 1) := by decide +kernel
theorem dd_80_2 : decode prog_3_method_17_code 2 = .ok (.iload_n 2, 1) := by decide +kernel
theorem dd_80_3 : decode prog_3_method_17_code 3 = .ok (.invokevirtual 146, 3) := by decide +kernel
theorem dd_80_6 : decode prog_3_method_17_code 6 = .ok (.aload_n 0, 1) := by decide +kernel
theorem dd_80_7 : decode prog_3_method_17_code 7 = .ok (.aload_n 0, 1) := by decide +kernel
theorem dd_80_8 : decode prog_3_method_17_code 8 = .ok (.getfield 9, 3) := by decide +kernel
theorem dd_80_11 : decode prog_3_method_17_code 11 = .ok (.iload_n 1, 1) := by decide +kernel
theorem dd_80_12 : decode prog_3_method_17_code 12 = .ok (.iconst 0, 1) := by decide +kernel
theorem dd_80_13 : decode prog_3_method_17_code 13 = .ok (.invokevirtual 124, 3) := by decide +kernel
theorem dd_80_16 : decode prog_3_method_17_code 16 = .ok (.aload_n 0, 1) := by decide +kernel
theorem dd_80_17 : decode prog_3_method_17_code 17 = .ok (.getfield 9, 3) := by decide +kernel
theorem dd_80_20 : decode prog_3_method_17_code 20 = .ok (.iload_n 1, 1) := by decide +kernel
theorem dd_80_21 : decode prog_3_method_17_code 21 = .ok (.iconst 1, 1) := by decide +kernel
theorem dd_80_22 : decode prog_3_method_17_code 22 = .ok (.invokevirtual 124, 3) := by decide +kernel
theorem dd_80_25 : decode prog_3_method_17_code 25 = .ok (.iload_n 2, 1) := by decide +kernel
theorem dd_80_26 : decode prog_3_method_17_code 26 = .ok (.invokevirtual 131, 3) := by decide +kernel
theorem dd_80_29 : decode prog_3_method_17_code 29 = .ok (.aload_n 0, 1) := by decide +kernel
theorem dd_80_30 : decode prog_3_method_17_code 30 = .ok (.getfield 15, 3) := by decide +kernel
theorem dd_80_33 : decode prog_3_method_17_code 33 = .ok (.iconst 4, 1) := by decide +kernel
theorem dd_80_34 : decode prog_3_method_17_code 34 = .ok (.invokevirtual 43, 3) := by decide +kernel
theorem dd_80_37 : decode prog_3_method_17_code 37 = .ok (.return_, 1) := by decide +kernel
set_option maxRecDepth 100000 in
theorem okI_80 : mj_okI gG "PairMachine$Coder" prog_3_method_17_code 3 (mj_off oM_80) (Option.none : Option Jvm.ClassFile.FieldType) false true 0 cM_80 :=
  ⟨Or.inl ⟨0, rfl, dd_80_0, rfl⟩,
   Or.inl ⟨1, rfl, dd_80_1, rfl⟩,
   Or.inl ⟨2, rfl, dd_80_2, rfl⟩,
   ⟨rfl, tw_506, by decide, tw_140, by decide +kernel, 146, tw_507, dd_80_3, tw_508, ⟨"PairMachine$Coder", fT5, 5, rfl, tw_509⟩, by decide +kernel⟩,
   Or.inl ⟨0, rfl, dd_80_6, rfl⟩,
   Or.inl ⟨0, rfl, dd_80_7, rfl⟩,
   ⟨9, "PairMachine$Coder", fT5, 5, dd_80_8, rfl, okc_5, by decide, tw_391⟩,
   Or.inl ⟨1, rfl, dd_80_11, rfl⟩,
   Or.inl (Or.inl ⟨dd_80_12, rfl⟩),
   ⟨rfl, tw_347, by decide, tw_113, by decide +kernel, 124, tw_481, dd_80_13, tw_349, ⟨"PairMachine$Tree", fT2, 7, rfl, tw_350⟩, by decide +kernel⟩,
   Or.inl ⟨0, rfl, dd_80_16, rfl⟩,
   ⟨9, "PairMachine$Coder", fT5, 5, dd_80_17, rfl, okc_5, by decide, tw_391⟩,
   Or.inl ⟨1, rfl, dd_80_20, rfl⟩,
   Or.inl (Or.inl ⟨dd_80_21, rfl⟩),
   ⟨rfl, tw_347, by decide, tw_113, by decide +kernel, 124, tw_481, dd_80_22, tw_349, ⟨"PairMachine$Tree", fT2, 7, rfl, tw_350⟩, by decide +kernel⟩,
   Or.inl ⟨2, rfl, dd_80_25, rfl⟩,
   ⟨rfl, tw_486, by decide, tw_140, by decide +kernel, 131, tw_487, dd_80_26, tw_488, ⟨"PairMachine$Coder", fT5, 5, rfl, tw_489⟩, by decide +kernel⟩,
   Or.inl ⟨0, rfl, dd_80_29, rfl⟩,
   ⟨15, "PairMachine$Coder", fT5, 5, dd_80_30, rfl, okc_5, by decide, tw_392⟩,
   Or.inl (Or.inl ⟨dd_80_33, rfl⟩),
   ⟨rfl, tw_404, by decide, tw_133, by decide +kernel, 43, tw_405, dd_80_34, tw_406, ⟨"PairMachine$Code", fT4, 5, rfl, tw_407⟩, by decide +kernel⟩,
   ⟨dd_80_37, rfl⟩, trivial⟩
theorem okM_80 : mj_okE gG 80 (cM_80, 3, oM_80, hM_80) := ⟨rfl, rfl, by decide +kernel, trivial, okI_80⟩
theorem dd_81_0 : decode prog_3_method_18_code 0 = .ok (.aload_n 0, 1) := by decide +kernel
theorem dd_81_1 : decode prog_3_method_18_code 1 = .ok (.getfield 15, 3) := by decide +kernel
theorem dd_81_4 : decode prog_3_method_18_code 4 = .ok (.bipush 6, 2) := by decide +kernel
theorem dd_81_6 : decode prog_3_method_18_code 6 = .ok (.invokevirtual 43, 3) := by decide +kernel
theorem dd_81_9 : decode prog_3_method_18_code 9 = .ok (.aload_n 0, 1) := by decide +kernel
theorem dd_81_10 : decode prog_3_method_18_code 10 = .ok (.aload_n 0, 1) := by decide +kernel
theorem dd_81_11 : decode prog_3_method_18_code 11 = .ok (.getfield 9, 3) := by decide +kernel
theorem dd_81_14 : decode prog_3_method_18_code 14 = .ok (.iload_n 1, 1) := by decide +kernel
theorem dd_81_15 : decode prog_3_method_18_code 15 = .ok (.iconst 1, 1) := by decide +kernel
theorem dd_81_16 : decode prog_3_method_18_code 16 = .ok (.invokevirtual 124, 3) := by decide +kernel
theorem dd_81_19 : decode prog_3_method_18_code 19 = .ok (.invokevirtual 134, 3) := by decide +kernel
theorem dd_81_22 : decode prog_3_method_18_code 22 = .ok (.aload_n 0, 1) := by decide +kernel
theorem dd_81_23 : decode prog_3_method_18_code 23 = .ok (.iload_n 1, 1) := by decide +kernel
theorem dd_81_24 : decode prog_3_method_18_code 24 = .ok (.iload_n 2, 1) := by decide +kernel
theorem dd_81_25 : decode prog_3_method_18_code 25 = .ok (.invokevirtual 146, 3) := by decide +kernel
theorem dd_81_28 : decode prog_3_method_18_code 28 = .ok (.aload_n 0, 1) := by decide +kernel
theorem dd_81_29 : decode prog_3_method_18_code 29 = .ok (.invokevirtual 137, 3) := by decide +kernel
theorem dd_81_32 : decode prog_3_method_18_code 32 = .ok (.aload_n 0, 1) := by decide +kernel
theorem dd_81_33 : decode prog_3_method_18_code 33 = .ok (.aload_n 0, 1) := by decide +kernel
theorem dd_81_34 : decode prog_3_method_18_code 34 = .ok (.getfield 9, 3) := by decide +kernel
theorem dd_81_37 : decode prog_3_method_18_code 37 = .ok (.iload_n 1, 1) := by decide +kernel
theorem dd_81_38 : decode prog_3_method_18_code 38 = .ok (.iconst 0, 1) := by decide +kernel
theorem dd_81_39 : decode prog_3_method_18_code 39 = .ok (.invokevirtual 124, 3) := by decide +kernel
theorem dd_81_42 : decode prog_3_method_18_code 42 = .ok (.aload_n 0, 1) := by decide +kernel
theorem dd_81_43 : decode prog_3_method_18_code 43 = .ok (.getfield 9, 3) := by decide +kernel
theorem dd_81_46 : decode prog_3_method_18_code 46 = .ok (.iload_n 1, 1) := by decide +kernel
theorem dd_81_47 : decode prog_3_method_18_code 47 = .ok (.iconst 1, 1) := by decide +kernel
theorem dd_81_48 : decode prog_3_method_18_code 48 = .ok (.invokevirtual 124, 3) := by decide +kernel
theorem dd_81_51 : decode prog_3_method_18_code 51 = .ok (.iload_n 2, 1) := by decide +kernel
theorem dd_81_52 : decode prog_3_method_18_code 52 = .ok (.invokevirtual 131, 3) := by decide +kernel
theorem dd_81_55 : decode prog_3_method_18_code 55 = .ok (.aload_n 0, 1) := by decide +kernel
theorem dd_81_56 : decode prog_3_method_18_code 56 = .ok (.getfield 15, 3) := by decide +kernel
theorem dd_81_59 : decode prog_3_method_18_code 59 = .ok (.bipush 7, 2) := by decide +kernel
theorem dd_81_61 : decode prog_3_method_18_code 61 = .ok (.invokevirtual 43, 3) := by decide +kernel
theorem dd_81_64 : decode prog_3_method_18_code 64 = .ok (.return_, 1) := by decide +kernel
set_option maxRecDepth 100000 in
theorem okI_81 : mj_okI gG "PairMachine$Coder" prog_3_method_18_code 3 (mj_off oM_81) (Option.none : Option Jvm.ClassFile.FieldType) false true 0 cM_81 :=
  ⟨Or.inl ⟨0, rfl, dd_81_0, rfl⟩,
   ⟨15, "PairMachine$Coder", fT5, 5, dd_81_1, rfl, okc_5, by decide, tw_392⟩,
   Or.inl (Or.inr (Or.inl ⟨dd_81_4, rfl, by decide⟩)),
   ⟨rfl, tw_404, by decide, tw_133, by decide +kernel, 43, tw_405, dd_81_6, tw_406, ⟨"PairMachine$Code", fT4, 5, rfl, tw_407⟩, by decide +kernel⟩,
   Or.inl ⟨0, rfl, dd_81_9, rfl⟩,
   Or.inl ⟨0, rfl, dd_81_10, rfl⟩,
   ⟨9, "PairMachine$Coder", fT5, 5, dd_81_11, rfl, okc_5, by decide, tw_391⟩,
   Or.inl ⟨1, rfl, dd_81_14, rfl⟩,
   Or.inl (Or.inl ⟨dd_81_15, rfl⟩),
   ⟨rfl, tw_347, by decide, tw_113, by decide +kernel, 124, tw_481, dd_81_16, tw_349, ⟨"PairMachine$Tree", fT2, 7, rfl, tw_350⟩, by decide +kernel⟩,
   ⟨rfl, tw_490, by decide, tw_140, by decide +kernel, 134, tw_491, dd_81_19, tw_492, ⟨"PairMachine$Coder", fT5, 5, rfl, tw_493⟩, by decide +kernel⟩,
   Or.inl ⟨0, rfl, dd_81_22, rfl⟩,
   Or.inl ⟨1, rfl, dd_81_23, rfl⟩,
   Or.inl ⟨2, rfl, dd_81_24, rfl⟩,
   ⟨rfl, tw_506, by decide, tw_140, by decide +kernel, 146, tw_507, dd_81_25, tw_508, ⟨"PairMachine$Coder", fT5, 5, rfl, tw_509⟩, by decide +kernel⟩,
   Or.inl ⟨0, rfl, dd_81_28, rfl⟩,
   ⟨rfl, tw_494, by decide, tw_140, by decide +kernel, 137, tw_495, dd_81_29, tw_496, ⟨"PairMachine$Coder", fT5, 5, rfl, tw_497⟩, by decide +kernel⟩,
   Or.inl ⟨0, rfl, dd_81_32, rfl⟩,
   Or.inl ⟨0, rfl, dd_81_33, rfl⟩,
   ⟨9, "PairMachine$Coder", fT5, 5, dd_81_34, rfl, okc_5, by decide, tw_391⟩,
   Or.inl ⟨1, rfl, dd_81_37, rfl⟩,
   Or.inl (Or.inl ⟨dd_81_38, rfl⟩),
   ⟨rfl, tw_347, by decide, tw_113, by decide +kernel, 124, tw_481, dd_81_39, tw_349, ⟨"PairMachine$Tree", fT2, 7, rfl, tw_350⟩, by decide +kernel⟩,
   Or.inl ⟨0, rfl, dd_81_42, rfl⟩,
   ⟨9, "PairMachine$Coder", fT5, 5, dd_81_43, rfl, okc_5, by decide, tw_391⟩,
   Or.inl ⟨1, rfl, dd_81_46, rfl⟩,
   Or.inl (Or.inl ⟨dd_81_47, rfl⟩),
   ⟨rfl, tw_347, by decide, tw_113, by decide +kernel, 124, tw_481, dd_81_48, tw_349, ⟨"PairMachine$Tree", fT2, 7, rfl, tw_350⟩, by decide +kernel⟩,
   Or.inl ⟨2, rfl, dd_81_51, rfl⟩,
   ⟨rfl, tw_486, by decide, tw_140, by decide +kernel, 131, tw_487, dd_81_52, tw_488, ⟨"PairMachine$Coder", fT5, 5, rfl, tw_489⟩, by decide +kernel⟩,
   Or.inl ⟨0, rfl, dd_81_55, rfl⟩,
   ⟨15, "PairMachine$Coder", fT5, 5, dd_81_56, rfl, okc_5, by decide, tw_392⟩,
   Or.inl (Or.inr (Or.inl ⟨dd_81_59, rfl, by decide⟩)),
   ⟨rfl, tw_404, by decide, tw_133, by decide +kernel, 43, tw_405, dd_81_61, tw_406, ⟨"PairMachine$Code", fT4, 5, rfl, tw_407⟩, by decide +kernel⟩,
   ⟨dd_81_64, rfl⟩, trivial⟩
theorem okM_81 : mj_okE gG 81 (cM_81, 3, oM_81, hM_81) := ⟨rfl, rfl, by decide +kernel, trivial, okI_81⟩
theorem dd_82_0 : decode prog_3_method_19_code 0 = .ok (.aload_n 0, 1) := by decide +kernel
theorem dd_82_1 : decode prog_3_method_19_code 1 = .ok (.invokevirtual 140, 3) := by decide +kernel
theorem dd_82_4 : decode prog_3_method_19_code 4 = .ok (.aload_n 0, 1) := by decide +kernel
theorem dd_82_5 : decode prog_3_method_19_code 5 = .ok (.getfield 9, 3) := by decide +kernel
theorem dd_82_8 : decode prog_3_method_19_code 8 = .ok (.iload_n 1, 1) := by decide +kernel
theorem dd_82_9 : decode prog_3_method_19_code 9 = .ok (.invokevirtual 121, 3) := by decide +kernel
theorem dd_82_12 : decode prog_3_method_19_code 12 = .ok (.iconst 1, 1) := by decide +kernel
theorem dd_82_13 : decode prog_3_method_19_code 13 = .ok (.isub, 1) := by decide +kernel
theorem dd_82_14 : decode prog_3_method_19_code 14 = .ok (.istore_n 3, 1) := by decide +kernel
theorem dd_82_15 : decode prog_3_method_19_code 15 = .ok (.iload_n 3, 1) := by decide +kernel
theorem dd_82_16 : decode prog_3_method_19_code 16 = .ok (.iconst 1, 1) := by decide +kernel
theorem dd_82_17 : decode prog_3_method_19_code 17 = .ok (.if_icmp .lt 30, 3) := by decide +kernel
theorem dd_82_20 : decode prog_3_method_19_code 20 = .ok (.aload_n 0, 1) := by decide +kernel
theorem dd_82_21 : decode prog_3_method_19_code 21 = .ok (.aload_n 0, 1) := by decide +kernel
theorem dd_82_22 : decode prog_3_method_19_code 22 = .ok (.getfield 9, 3) := by decide +kernel
theorem dd_82_25 : decode prog_3_method_19_code 25 = .ok (.aload_n 0, 1) := by decide +kernel
theorem dd_82_26 : decode prog_3_method_19_code 26 = .ok (.getfield 9, 3) := by decide +kernel
theorem dd_82_29 : decode prog_3_method_19_code 29 = .ok (.iload_n 1, 1) := by decide +kernel
theorem dd_82_30 : decode prog_3_method_19_code 30 = .ok (.iload_n 3, 1) := by decide +kernel
theorem dd_82_31 : decode prog_3_method_19_code 31 = .ok (.invokevirtual 124, 3) := by decide +kernel
theorem dd_82_34 : decode prog_3_method_19_code 34 = .ok (.invokevirtual 54, 3) := by decide +kernel
theorem dd_82_37 : decode prog_3_method_19_code 37 = .ok (.iload_n 2, 1) := by decide +kernel
theorem dd_82_38 : decode prog_3_method_19_code 38 = .ok (.invokevirtual 143, 3) := by decide +kernel
theorem dd_82_41 : decode prog_3_method_19_code 41 = .ok (.iinc 3 (-1), 3) := by decide +kernel
theorem dd_82_44 : decode prog_3_method_19_code 44 = .ok (.goto (-29), 3) := by decide +kernel
theorem dd_82_47 : decode prog_3_method_19_code 47 = .ok (.return_, 1) := by decide +kernel
set_option maxRecDepth 100000 in
theorem okI_82 : mj_okI gG "PairMachine$Coder" prog_3_method_19_code 4 (mj_off oM_82) (Option.none : Option Jvm.ClassFile.FieldType) false true 0 cM_82 :=
  ⟨Or.inl ⟨0, rfl, dd_82_0, rfl⟩,
   ⟨rfl, tw_498, by decide, tw_140, by decide +kernel, 140, tw_499, dd_82_1, tw_500, ⟨"PairMachine$Coder", fT5, 5, rfl, tw_501⟩, by decide +kernel⟩,
   Or.inl ⟨0, rfl, dd_82_4, rfl⟩,
   ⟨9, "PairMachine$Coder", fT5, 5, dd_82_5, rfl, okc_5, by decide, tw_391⟩,
   Or.inl ⟨1, rfl, dd_82_8, rfl⟩,
   ⟨rfl, tw_477, by decide, tw_113, by decide +kernel, 121, tw_478, dd_82_9, tw_479, ⟨"PairMachine$Tree", fT2, 7, rfl, tw_480⟩, by decide +kernel⟩,
   Or.inl (Or.inl ⟨dd_82_12, rfl⟩),
   ⟨dd_82_13, rfl⟩,
   ⟨by decide, Or.inl ⟨3, rfl, dd_82_14, rfl⟩⟩,
   Or.inl ⟨3, rfl, dd_82_15, rfl⟩,
   Or.inl (Or.inl ⟨dd_82_16, rfl⟩),
   ⟨30, dd_82_17, rfl, rfl⟩,
   Or.inl ⟨0, rfl, dd_82_20, rfl⟩,
   Or.inl ⟨0, rfl, dd_82_21, rfl⟩,
   ⟨9, "PairMachine$Coder", fT5, 5, dd_82_22, rfl, okc_5, by decide, tw_391⟩,
   Or.inl ⟨0, rfl, dd_82_25, rfl⟩,
   ⟨9, "PairMachine$Coder", fT5, 5, dd_82_26, rfl, okc_5, by decide, tw_391⟩,
   Or.inl ⟨1, rfl, dd_82_29, rfl⟩,
   Or.inl ⟨3, rfl, dd_82_30, rfl⟩,
   ⟨rfl, tw_347, by decide, tw_113, by decide +kernel, 124, tw_481, dd_82_31, tw_349, ⟨"PairMachine$Tree", fT2, 7, rfl, tw_350⟩, by decide +kernel⟩,
   ⟨rfl, tw_248, by decide, tw_113, by decide +kernel, 54, tw_413, dd_82_34, tw_250, ⟨"PairMachine$Tree", fT2, 7, rfl, tw_251⟩, by decide +kernel⟩,
   Or.inl ⟨2, rfl, dd_82_37, rfl⟩,
   ⟨rfl, tw_502, by decide, tw_140, by decide +kernel, 143, tw_503, dd_82_38, tw_504, ⟨"PairMachine$Coder", fT5, 5, rfl, tw_505⟩, by decide +kernel⟩,
   ⟨by decide, dd_82_41, rfl⟩,
   ⟨(-29), dd_82_44, rfl⟩,
   ⟨dd_82_47, rfl⟩, trivial⟩
theorem okM_82 : mj_okE gG 82 (cM_82, 4, oM_82, hM_82) := ⟨rfl, rfl, by decide +kernel, trivial, okI_82⟩
theorem dd_83_0 : decode prog_3_method_20_code 0 = .ok (.aload_n 0, 1) := by decide +kernel
theorem dd_83_1 : decode prog_3_method_20_code 1 = .ok (.getfield 15, 3) := by decide +kernel
theorem dd_83_4 : decode prog_3_method_20_code 4 = .ok (.iconst 1, 1) := by decide +kernel
theorem dd_83_5 : decode prog_3_method_20_code 5 = .ok (.invokevirtual 43, 3) := by decide +kernel
theorem dd_83_8 : decode prog_3_method_20_code 8 = .ok (.aload_n 0, 1) := by decide +kernel
theorem dd_83_9 : decode prog_3_method_20_code 9 = .ok (.getfield 15, 3) := by decide +kernel
theorem dd_83_12 : decode prog_3_method_20_code 12 = .ok (.lconst 0, 1) := by decide +kernel
theorem dd_83_13 : decode prog_3_method_20_code 13 = .ok (.invokevirtual 87, 3) := by decide +kernel
theorem dd_83_16 : decode prog_3_method_20_code 16 = .ok (.return_, 1) := by decide +kernel
set_option maxRecDepth 100000 in
theorem okI_83 : mj_okI gG "PairMachine$Coder" prog_3_method_20_code 1 (mj_off oM_83) (Option.none : Option Jvm.ClassFile.FieldType) false true 0 cM_83 :=
  ⟨Or.inl ⟨0, rfl, dd_83_0, rfl⟩,
   ⟨15, "PairMachine$Coder", fT5, 5, dd_83_1, rfl, okc_5, by decide, tw_392⟩,
   Or.inl (Or.inl ⟨dd_83_4, rfl⟩),
   ⟨rfl, tw_404, by decide, tw_133, by decide +kernel, 43, tw_405, dd_83_5, tw_406, ⟨"PairMachine$Code", fT4, 5, rfl, tw_407⟩, by decide +kernel⟩,
   Or.inl ⟨0, rfl, dd_83_8, rfl⟩,
   ⟨15, "PairMachine$Coder", fT5, 5, dd_83_9, rfl, okc_5, by decide, tw_392⟩,
   Or.inl ⟨0, rfl, dd_83_12, rfl⟩,
   ⟨rfl, tw_386, by decide, tw_133, by decide +kernel, 87, tw_447, dd_83_13, tw_388, ⟨"PairMachine$Code", fT4, 5, rfl, tw_389⟩, by decide +kernel⟩,
   ⟨dd_83_16, rfl⟩, trivial⟩
theorem okM_83 : mj_okE gG 83 (cM_83, 1, oM_83, hM_83) := ⟨rfl, rfl, by decide +kernel, trivial, okI_83⟩
theorem dd_84_0 : decode prog_3_method_21_code 0 = .ok (.aload_n 0, 1) := by decide +kernel
theorem dd_84_1 : decode prog_3_method_21_code 1 = .ok (.iload_n 1, 1) := by decide +kernel
theorem dd_84_2 : decode prog_3_method_21_code 2 = .ok (.iload_n 2, 1) := by decide +kernel
theorem dd_84_3 : decode prog_3_method_21_code 3 = .ok (.iconst 1, 1) := by decide +kernel
theorem dd_84_4 : decode prog_3_method_21_code 4 = .ok (.iadd, 1) := by decide +kernel
theorem dd_84_5 : decode prog_3_method_21_code 5 = .ok (.invokevirtual 37, 3) := by decide +kernel
theorem dd_84_8 : decode prog_3_method_21_code 8 = .ok (.aload_n 0, 1) := by decide +kernel
theorem dd_84_9 : decode prog_3_method_21_code 9 = .ok (.getfield 15, 3) := by decide +kernel
theorem dd_84_12 : decode prog_3_method_21_code 12 = .ok (.bipush 13, 2) := by decide +kernel
theorem dd_84_14 : decode prog_3_method_21_code 14 = .ok (.invokevirtual 43, 3) := by decide +kernel
theorem dd_84_17 : decode prog_3_method_21_code 17 = .ok (.return_, 1) := by decide +kernel
set_option maxRecDepth 100000 in
theorem okI_84 : mj_okI gG "PairMachine$Coder" prog_3_method_21_code 3 (mj_off oM_84) (Option.none : Option Jvm.ClassFile.FieldType) false true 0 cM_84 :=
  ⟨Or.inl ⟨0, rfl, dd_84_0, rfl⟩,
   Or.inl ⟨1, rfl, dd_84_1, rfl⟩,
   Or.inl ⟨2, rfl, dd_84_2, rfl⟩,
   Or.inl (Or.inl ⟨dd_84_3, rfl⟩),
   ⟨dd_84_4, rfl⟩,
   ⟨rfl, tw_400, by decide, tw_140, by decide +kernel, 37, tw_401, dd_84_5, tw_402, ⟨"PairMachine$Coder", fT5, 5, rfl, tw_403⟩, by decide +kernel⟩,
   Or.inl ⟨0, rfl, dd_84_8, rfl⟩,
   ⟨15, "PairMachine$Coder", fT5, 5, dd_84_9, rfl, okc_5, by decide, tw_392⟩,
   Or.inl (Or.inr (Or.inl ⟨dd_84_12, rfl, by decide⟩)),
   ⟨rfl, tw_404, by decide, tw_133, by decide +kernel, 43, tw_405, dd_84_14, tw_406, ⟨"PairMachine$Code", fT4, 5, rfl, tw_407⟩, by decide +kernel⟩,
   ⟨dd_84_17, rfl⟩, trivial⟩
theorem okM_84 : mj_okE gG 84 (cM_84, 3, oM_84, hM_84) := ⟨rfl, rfl, by decide +kernel, trivial, okI_84⟩
theorem dd_85_0 : decode prog_5_method_1_code 0 = .ok (.aload_n 0, 1) := by decide +kernel
theorem dd_85_1 : decode prog_5_method_1_code 1 = .ok (.invokespecial 3, 3) := by decide +kernel
theorem dd_85_4 : decode prog_5_method_1_code 4 = .ok (.aload_n 0, 1) := by decide +kernel
theorem dd_85_5 : decode prog_5_method_1_code 5 = .ok (.new 9, 3) := by decide +kernel
theorem dd_85_8 : decode prog_5_method_1_code 8 = .ok (.dup, 1) := by decide +kernel
theorem dd_85_9 : decode prog_5_method_1_code 9 = .ok (.iload_n 1, 1) := by decide +kernel
theorem dd_85_10 : decode prog_5_method_1_code 10 = .ok (.invokespecial 11, 3) := by decide +kernel
theorem dd_85_13 : decode prog_5_method_1_code 13 = .ok (.putfield 14, 3) := by decide +kernel
theorem dd_85_16 : decode prog_5_method_1_code 16 = .ok (.aload_n 0, 1) := by decide +kernel
theorem dd_85_17 : decode prog_5_method_1_code 17 = .ok (.new 20, 3) := by decide +kernel
theorem dd_85_20 : decode prog_5_method_1_code 20 = .ok (.dup, 1) := by decide +kernel
theorem dd_85_21 : decode prog_5_method_1_code 21 = .ok (.aload_n 0, 1) := by decide +kernel
theorem dd_85_22 : decode prog_5_method_1_code 22 = .ok (.getfield 14, 3) := by decide +kernel
theorem dd_85_25 : decode prog_5_method_1_code 25 = .ok (.invokespecial 22, 3) := by decide +kernel
theorem dd_85_28 : decode prog_5_method_1_code 28 = .ok (.putfield 25, 3) := by decide +kernel
theorem dd_85_31 : decode prog_5_method_1_code 31 = .ok (.aload_n 0, 1) := by decide +kernel
theorem dd_85_32 : decode prog_5_method_1_code 32 = .ok (.iconst 0, 1) := by decide +kernel
theorem dd_85_33 : decode prog_5_method_1_code 33 = .ok (.putfield 29, 3) := by decide +kernel
theorem dd_85_36 : decode prog_5_method_1_code 36 = .ok (.return_, 1) := by decide +kernel
set_option maxRecDepth 100000 in
theorem okI_85 : mj_okI gG "PairMachine$Machine" prog_5_method_1_code 2 (mj_off oM_85) (Option.none : Option Jvm.ClassFile.FieldType) true true 0 cM_85 :=
  ⟨Or.inl ⟨0, rfl, dd_85_0, rfl⟩,
   ⟨3, dd_85_1, rfl, tw_510, tw_101, tw_102⟩,
   Or.inl ⟨0, rfl, dd_85_4, rfl⟩,
   ⟨9, "PairMachine$Store", fT7, 9, fN7, dd_85_5, rfl, okc_7, rfl, rfl, by decide, tw_511, tw_512, tw_513⟩,
   ⟨dd_85_8, rfl⟩,
   Or.inl ⟨1, rfl, dd_85_9, rfl⟩,
   ⟨rfl, tw_514, by decide, tw_513, by decide +kernel, 11, tw_515, dd_85_10, tw_516, rfl, rfl, rfl, by decide +kernel⟩,
   ⟨14, "PairMachine$Machine", fT6, 10, dd_85_13, rfl, okc_6, by decide, tw_517, Or.inl ⟨_, rfl⟩, Or.inr ⟨rfl, by decide, rfl⟩⟩,
   Or.inl ⟨0, rfl, dd_85_16, rfl⟩,
   ⟨20, "PairMachine$Display", fT8, 4, fN8, dd_85_17, rfl, okc_8, rfl, rfl, by decide, tw_518, tw_519, tw_520⟩,
   ⟨dd_85_20, rfl⟩,
   Or.inl ⟨0, rfl, dd_85_21, rfl⟩,
   ⟨14, "PairMachine$Machine", fT6, 10, dd_85_22, rfl, okc_6, by decide, tw_517⟩,
   ⟨rfl, tw_521, by decide, tw_520, by decide +kernel, 22, tw_522, dd_85_25, tw_523, rfl, rfl, rfl, by decide +kernel⟩,
   ⟨25, "PairMachine$Machine", fT6, 10, dd_85_28, rfl, okc_6, by decide, tw_524, Or.inl ⟨_, rfl⟩, Or.inr ⟨rfl, by decide, rfl⟩⟩,
   Or.inl ⟨0, rfl, dd_85_31, rfl⟩,
   Or.inl (Or.inl ⟨dd_85_32, rfl⟩),
   ⟨29, "PairMachine$Machine", fT6, 10, dd_85_33, rfl, okc_6, by decide, tw_525, rfl, Or.inl rfl⟩,
   ⟨dd_85_36, rfl⟩, trivial⟩
theorem okM_85 : mj_okE gG 85 (cM_85, 2, oM_85, hM_85) := ⟨rfl, rfl, by decide +kernel, trivial, okI_85⟩
