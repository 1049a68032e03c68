section
theorem dd_35_0 : decode prog_7_method_2_code 0 = .ok (.aload_n 0, 1) := by decide +kernel
theorem dd_35_1 : decode prog_7_method_2_code 1 = .ok (.getfield 15, 3) := by decide +kernel
theorem dd_35_4 : decode prog_7_method_2_code 4 = .ok (.invokevirtual 19, 3) := by decide +kernel
theorem dd_35_7 : decode prog_7_method_2_code 7 = .ok (.aload_n 0, 1) := by decide +kernel
theorem dd_35_8 : decode prog_7_method_2_code 8 = .ok (.iconst 0, 1) := by decide +kernel
theorem dd_35_9 : decode prog_7_method_2_code 9 = .ok (.putfield 24, 3) := by decide +kernel
theorem dd_35_12 : decode prog_7_method_2_code 12 = .ok (.aload_n 0, 1) := by decide +kernel
theorem dd_35_13 : decode prog_7_method_2_code 13 = .ok (.iconst 0, 1) := by decide +kernel
theorem dd_35_14 : decode prog_7_method_2_code 14 = .ok (.invokevirtual 28, 3) := by decide +kernel
theorem dd_35_17 : decode prog_7_method_2_code 17 = .ok (.pop, 1) := by decide +kernel
theorem dd_35_18 : decode prog_7_method_2_code 18 = .ok (.goto 9, 3) := by decide +kernel
theorem dd_35_21 : decode prog_7_method_2_code 21 = .ok (.astore_n 1, 1) := by decide +kernel
theorem dd_35_22 : decode prog_7_method_2_code 22 = .ok (.aload_n 0, 1) := by decide +kernel
theorem dd_35_23 : decode prog_7_method_2_code 23 = .ok (.getfield 24, 3) := by decide +kernel
theorem dd_35_26 : decode prog_7_method_2_code 26 = .ok (.ireturn, 1) := by decide +kernel
theorem dd_35_27 : decode prog_7_method_2_code 27 = .ok (.aload_n 0, 1) := by decide +kernel
theorem dd_35_28 : decode prog_7_method_2_code 28 = .ok (.getfield 24, 3) := by decide +kernel
theorem dd_35_31 : decode prog_7_method_2_code 31 = .ok (.aload_n 0, 1) := by decide +kernel
theorem dd_35_32 : decode prog_7_method_2_code 32 = .ok (.getfield 9, 3) := by decide +kernel
theorem dd_35_35 : decode prog_7_method_2_code 35 = .ok (.invokevirtual 34, 3) := by decide +kernel
theorem dd_35_38 : decode prog_7_method_2_code 38 = .ok (.if_icmp .ge 10, 3) := by decide +kernel
theorem dd_35_41 : decode prog_7_method_2_code 41 = .ok (.aload_n 0, 1) := by decide +kernel
theorem dd_35_42 : decode prog_7_method_2_code 42 = .ok (.getfield 24, 3) := by decide +kernel
theorem dd_35_45 : decode prog_7_method_2_code 45 = .ok (.goto 4, 3) := by decide +kernel
theorem dd_35_48 : decode prog_7_method_2_code 48 = .ok (.iconst (-1), 1) := by decide +kernel
theorem dd_35_49 : decode prog_7_method_2_code 49 = .ok (.ireturn, 1) := by decide +kernel
set_option maxRecDepth 100000 in
theorem okI_35 : mj_okI gG "PairMachine$Reader" prog_7_method_2_code 2 (mj_off oM_35) (Option.some Jvm.ClassFile.FieldType.int) false false 0 cM_35 :=
  ⟨Or.inl ⟨0, rfl, dd_35_0, rfl⟩,
   ⟨15, "PairMachine$Reader", fT3, 3, dd_35_1, rfl, okc_3, by decide, tw_254⟩,
   ⟨rfl, tw_255, by decide, tw_109, by decide +kernel, 19, tw_256, dd_35_4, tw_257, ⟨"PairMachine$Tree", fT2, 7, rfl, tw_258⟩, by decide +kernel⟩,
   Or.inl ⟨0, rfl, dd_35_7, rfl⟩,
   Or.inl (Or.inl ⟨dd_35_8, rfl⟩),
   ⟨24, "PairMachine$Reader", fT3, 3, dd_35_9, rfl, okc_3, by decide, tw_259, rfl, Or.inl rfl⟩,
   Or.inl ⟨0, rfl, dd_35_12, rfl⟩,
   Or.inl (Or.inl ⟨dd_35_13, rfl⟩),
   ⟨rfl, tw_260, by decide, tw_122, by decide +kernel, 28, tw_261, dd_35_14, tw_262, ⟨"PairMachine$Reader", fT3, 3, rfl, tw_263⟩, by decide +kernel⟩,
   ⟨dd_35_17, rfl⟩,
   ⟨9, dd_35_18, rfl⟩,
   ⟨by decide, Or.inl ⟨1, rfl, dd_35_21, rfl⟩⟩,
   Or.inl ⟨0, rfl, dd_35_22, rfl⟩,
   ⟨24, "PairMachine$Reader", fT3, 3, dd_35_23, rfl, okc_3, by decide, tw_259⟩,
   ⟨dd_35_26, rfl⟩,
   Or.inl ⟨0, rfl, dd_35_27, rfl⟩,
   ⟨24, "PairMachine$Reader", fT3, 3, dd_35_28, rfl, okc_3, by decide, tw_259⟩,
   Or.inl ⟨0, rfl, dd_35_31, rfl⟩,
   ⟨9, "PairMachine$Reader", fT3, 3, dd_35_32, rfl, okc_3, by decide, tw_253⟩,
   ⟨rfl, tw_264, by decide, tw_115, by decide +kernel, 34, tw_265, dd_35_35, tw_266, ⟨"PairMachine$Text", fT1, 2, rfl, tw_267⟩, by decide +kernel⟩,
   ⟨10, dd_35_38, rfl, rfl⟩,
   Or.inl ⟨0, rfl, dd_35_41, rfl⟩,
   ⟨24, "PairMachine$Reader", fT3, 3, dd_35_42, rfl, okc_3, by decide, tw_259⟩,
   ⟨4, dd_35_45, rfl⟩,
   Or.inl (Or.inl ⟨dd_35_48, rfl⟩),
   ⟨dd_35_49, rfl⟩, trivial⟩
theorem okM_35 : mj_okE gG 35 (cM_35, 2, oM_35, hM_35) := ⟨rfl, rfl, by decide +kernel, ⟨⟨rfl, rfl, rfl, by decide, by decide, Or.inl ⟨1, rfl, dd_35_21, rfl⟩, tw_1302, by decide +kernel, by decide +kernel⟩, trivial⟩, okI_35⟩
theorem dd_36_0 : decode prog_7_method_3_code 0 = .ok (.aload_n 0, 1) := by decide +kernel
theorem dd_36_1 : decode prog_7_method_3_code 1 = .ok (.getfield 9, 3) := by decide +kernel
theorem dd_36_4 : decode prog_7_method_3_code 4 = .ok (.aload_n 0, 1) := by decide +kernel
theorem dd_36_5 : decode prog_7_method_3_code 5 = .ok (.getfield 24, 3) := by decide +kernel
theorem dd_36_8 : decode prog_7_method_3_code 8 = .ok (.invokevirtual 40, 3) := by decide +kernel
theorem dd_36_11 : decode prog_7_method_3_code 11 = .ok (.istore_n 2, 1) := by decide +kernel
theorem dd_36_12 : decode prog_7_method_3_code 12 = .ok (.iload_n 2, 1) := by decide +kernel
theorem dd_36_13 : decode prog_7_method_3_code 13 = .ok (.bipush 40, 2) := by decide +kernel
theorem dd_36_15 : decode prog_7_method_3_code 15 = .ok (.if_icmp .ne 9, 3) := by decide +kernel
theorem dd_36_18 : decode prog_7_method_3_code 18 = .ok (.aload_n 0, 1) := by decide +kernel
theorem dd_36_19 : decode prog_7_method_3_code 19 = .ok (.iload_n 1, 1) := by decide +kernel
theorem dd_36_20 : decode prog_7_method_3_code 20 = .ok (.invokevirtual 43, 3) := by decide +kernel
theorem dd_36_23 : decode prog_7_method_3_code 23 = .ok (.ireturn, 1) := by decide +kernel
theorem dd_36_24 : decode prog_7_method_3_code 24 = .ok (.iload_n 2, 1) := by decide +kernel
theorem dd_36_25 : decode prog_7_method_3_code 25 = .ok (.bipush 39, 2) := by decide +kernel
theorem dd_36_27 : decode prog_7_method_3_code 27 = .ok (.if_icmp .eq 8, 3) := by decide +kernel
theorem dd_36_30 : decode prog_7_method_3_code 30 = .ok (.aload_n 0, 1) := by decide +kernel
theorem dd_36_31 : decode prog_7_method_3_code 31 = .ok (.invokevirtual 46, 3) := by decide +kernel
theorem dd_36_34 : decode prog_7_method_3_code 34 = .ok (.ireturn, 1) := by decide +kernel
theorem dd_36_35 : decode prog_7_method_3_code 35 = .ok (.aload_n 0, 1) := by decide +kernel
theorem dd_36_36 : decode prog_7_method_3_code 36 = .ok (.getfield 15, 3) := by decide +kernel
theorem dd_36_39 : decode prog_7_method_3_code 39 = .ok (.iconst 4, 1) := by decide +kernel
theorem dd_36_40 : decode prog_7_method_3_code 40 = .ok (.iconst 0, 1) := by decide +kernel
theorem dd_36_41 : decode prog_7_method_3_code 41 = .ok (.aload_n 0, 1) := by decide +kernel
theorem dd_36_42 : decode prog_7_method_3_code 42 = .ok (.getfield 24, 3) := by decide +kernel
theorem dd_36_45 : decode prog_7_method_3_code 45 = .ok (.invokevirtual 49, 3) := by decide +kernel
theorem dd_36_48 : decode prog_7_method_3_code 48 = .ok (.istore_n 3, 1) := by decide +kernel
theorem dd_36_49 : decode prog_7_method_3_code 49 = .ok (.aload_n 0, 1) := by decide +kernel
theorem dd_36_50 : decode prog_7_method_3_code 50 = .ok (.dup, 1) := by decide +kernel
theorem dd_36_51 : decode prog_7_method_3_code 51 = .ok (.getfield 24, 3) := by decide +kernel
theorem dd_36_54 : decode prog_7_method_3_code 54 = .ok (.iconst 1, 1) := by decide +kernel
theorem dd_36_55 : decode prog_7_method_3_code 55 = .ok (.iadd, 1) := by decide +kernel
theorem dd_36_56 : decode prog_7_method_3_code 56 = .ok (.putfield 24, 3) := by decide +kernel
theorem dd_36_59 : decode prog_7_method_3_code 59 = .ok (.aload_n 0, 1) := by decide +kernel
theorem dd_36_60 : decode prog_7_method_3_code 60 = .ok (.getfield 15, 3) := by decide +kernel
theorem dd_36_63 : decode prog_7_method_3_code 63 = .ok (.iload_n 3, 1) := by decide +kernel
theorem dd_36_64 : decode prog_7_method_3_code 64 = .ok (.aload_n 0, 1) := by decide +kernel
theorem dd_36_65 : decode prog_7_method_3_code 65 = .ok (.iload_n 1, 1) := by decide +kernel
theorem dd_36_66 : decode prog_7_method_3_code 66 = .ok (.invokevirtual 53, 3) := by decide +kernel
theorem dd_36_69 : decode prog_7_method_3_code 69 = .ok (.invokevirtual 56, 3) := by decide +kernel
theorem dd_36_72 : decode prog_7_method_3_code 72 = .ok (.iload_n 3, 1) := by decide +kernel
theorem dd_36_73 : decode prog_7_method_3_code 73 = .ok (.ireturn, 1) := by decide +kernel
set_option maxRecDepth 100000 in
theorem okI_36 : mj_okI gG "PairMachine$Reader" prog_7_method_3_code 4 (mj_off oM_36) (Option.some Jvm.ClassFile.FieldType.int) false true 0 cM_36 :=
  ⟨Or.inl ⟨0, rfl, dd_36_0, rfl⟩,
   ⟨9, "PairMachine$Reader", fT3, 3, dd_36_1, rfl, okc_3, by decide, tw_253⟩,
   Or.inl ⟨0, rfl, dd_36_4, rfl⟩,
   ⟨24, "PairMachine$Reader", fT3, 3, dd_36_5, rfl, okc_3, by decide, tw_259⟩,
   ⟨rfl, tw_268, by decide, tw_115, by decide +kernel, 40, tw_269, dd_36_8, tw_270, ⟨"PairMachine$Text", fT1, 2, rfl, tw_271⟩, by decide +kernel⟩,
   ⟨by decide, Or.inl ⟨2, rfl, dd_36_11, rfl⟩⟩,
   Or.inl ⟨2, rfl, dd_36_12, rfl⟩,
   Or.inl (Or.inr (Or.inl ⟨dd_36_13, rfl, by decide⟩)),
   ⟨9, dd_36_15, rfl, rfl⟩,
   Or.inl ⟨0, rfl, dd_36_18, rfl⟩,
   Or.inl ⟨1, rfl, dd_36_19, rfl⟩,
   ⟨rfl, tw_272, by decide, tw_122, by decide +kernel, 43, tw_273, dd_36_20, tw_274, ⟨"PairMachine$Reader", fT3, 3, rfl, tw_275⟩, by decide +kernel⟩,
   ⟨dd_36_23, rfl⟩,
   Or.inl ⟨2, rfl, dd_36_24, rfl⟩,
   Or.inl (Or.inr (Or.inl ⟨dd_36_25, rfl, by decide⟩)),
   ⟨8, dd_36_27, rfl, rfl⟩,
   Or.inl ⟨0, rfl, dd_36_30, rfl⟩,
   ⟨rfl, tw_276, by decide, tw_122, by decide +kernel, 46, tw_277, dd_36_31, tw_278, ⟨"PairMachine$Reader", fT3, 3, rfl, tw_279⟩, by decide +kernel⟩,
   ⟨dd_36_34, rfl⟩,
   Or.inl ⟨0, rfl, dd_36_35, rfl⟩,
   ⟨15, "PairMachine$Reader", fT3, 3, dd_36_36, rfl, okc_3, by decide, tw_254⟩,
   Or.inl (Or.inl ⟨dd_36_39, rfl⟩),
   Or.inl (Or.inl ⟨dd_36_40, rfl⟩),
   Or.inl ⟨0, rfl, dd_36_41, rfl⟩,
   ⟨24, "PairMachine$Reader", fT3, 3, dd_36_42, rfl, okc_3, by decide, tw_259⟩,
   ⟨rfl, tw_280, by decide, tw_109, by decide +kernel, 49, tw_281, dd_36_45, tw_282, ⟨"PairMachine$Tree", fT2, 7, rfl, tw_283⟩, by decide +kernel⟩,
   ⟨by decide, Or.inl ⟨3, rfl, dd_36_48, rfl⟩⟩,
   Or.inl ⟨0, rfl, dd_36_49, rfl⟩,
   ⟨dd_36_50, rfl⟩,
   ⟨24, "PairMachine$Reader", fT3, 3, dd_36_51, rfl, okc_3, by decide, tw_259⟩,
   Or.inl (Or.inl ⟨dd_36_54, rfl⟩),
   ⟨dd_36_55, rfl⟩,
   ⟨24, "PairMachine$Reader", fT3, 3, dd_36_56, rfl, okc_3, by decide, tw_259, rfl, Or.inl rfl⟩,
   Or.inl ⟨0, rfl, dd_36_59, rfl⟩,
   ⟨15, "PairMachine$Reader", fT3, 3, dd_36_60, rfl, okc_3, by decide, tw_254⟩,
   Or.inl ⟨3, rfl, dd_36_63, rfl⟩,
   Or.inl ⟨0, rfl, dd_36_64, rfl⟩,
   Or.inl ⟨1, rfl, dd_36_65, rfl⟩,
   ⟨rfl, tw_284, by decide, tw_122, by decide +kernel, 53, tw_285, dd_36_66, tw_286, ⟨"PairMachine$Reader", fT3, 3, rfl, tw_287⟩, by decide +kernel⟩,
   ⟨rfl, tw_288, by decide, tw_109, by decide +kernel, 56, tw_289, dd_36_69, tw_290, ⟨"PairMachine$Tree", fT2, 7, rfl, tw_291⟩, by decide +kernel⟩,
   Or.inl ⟨3, rfl, dd_36_72, rfl⟩,
   ⟨dd_36_73, rfl⟩, trivial⟩
theorem okM_36 : mj_okE gG 36 (cM_36, 4, oM_36, hM_36) := ⟨rfl, rfl, by decide +kernel, trivial, okI_36⟩
theorem dd_37_0 : decode prog_7_method_4_code 0 = .ok (.aload_n 0, 1) := by decide +kernel
theorem dd_37_1 : decode prog_7_method_4_code 1 = .ok (.iload_n 1, 1) := by decide +kernel
theorem dd_37_2 : decode prog_7_method_4_code 2 = .ok (.invokevirtual 60, 3) := by decide +kernel
theorem dd_37_5 : decode prog_7_method_4_code 5 = .ok (.aload_n 0, 1) := by decide +kernel
theorem dd_37_6 : decode prog_7_method_4_code 6 = .ok (.getfield 9, 3) := by decide +kernel
theorem dd_37_9 : decode prog_7_method_4_code 9 = .ok (.aload_n 0, 1) := by decide +kernel
theorem dd_37_10 : decode prog_7_method_4_code 10 = .ok (.getfield 24, 3) := by decide +kernel
theorem dd_37_13 : decode prog_7_method_4_code 13 = .ok (.invokevirtual 40, 3) := by decide +kernel
theorem dd_37_16 : decode prog_7_method_4_code 16 = .ok (.istore_n 2, 1) := by decide +kernel
theorem dd_37_17 : decode prog_7_method_4_code 17 = .ok (.iload_n 2, 1) := by decide +kernel
theorem dd_37_18 : decode prog_7_method_4_code 18 = .ok (.bipush 92, 2) := by decide +kernel
theorem dd_37_20 : decode prog_7_method_4_code 20 = .ok (.if_icmp .ne 11, 3) := by decide +kernel
theorem dd_37_23 : decode prog_7_method_4_code 23 = .ok (.aload_n 0, 1) := by decide +kernel
theorem dd_37_24 : decode prog_7_method_4_code 24 = .ok (.iload_n 1, 1) := by decide +kernel
theorem dd_37_25 : decode prog_7_method_4_code 25 = .ok (.iconst 1, 1) := by decide +kernel
theorem dd_37_26 : decode prog_7_method_4_code 26 = .ok (.iadd, 1) := by decide +kernel
theorem dd_37_27 : decode prog_7_method_4_code 27 = .ok (.invokevirtual 64, 3) := by decide +kernel
theorem dd_37_30 : decode prog_7_method_4_code 30 = .ok (.ireturn, 1) := by decide +kernel
theorem dd_37_31 : decode prog_7_method_4_code 31 = .ok (.iload_n 2, 1) := by decide +kernel
theorem dd_37_32 : decode prog_7_method_4_code 32 = .ok (.bipush 58, 2) := by decide +kernel
theorem dd_37_34 : decode prog_7_method_4_code 34 = .ok (.if_icmp .eq 9, 3) := by decide +kernel
theorem dd_37_37 : decode prog_7_method_4_code 37 = .ok (.iload_n 2, 1) := by decide +kernel
theorem dd_37_38 : decode prog_7_method_4_code 38 = .ok (.bipush 59, 2) := by decide +kernel
theorem dd_37_40 : decode prog_7_method_4_code 40 = .ok (.if_icmp .ne 12, 3) := by decide +kernel
theorem dd_37_43 : decode prog_7_method_4_code 43 = .ok (.aload_n 0, 1) := by decide +kernel
theorem dd_37_44 : decode prog_7_method_4_code 44 = .ok (.iload_n 2, 1) := by decide +kernel
theorem dd_37_45 : decode prog_7_method_4_code 45 = .ok (.iload_n 1, 1) := by decide +kernel
theorem dd_37_46 : decode prog_7_method_4_code 46 = .ok (.iconst 1, 1) := by decide +kernel
theorem dd_37_47 : decode prog_7_method_4_code 47 = .ok (.iadd, 1) := by decide +kernel
theorem dd_37_48 : decode prog_7_method_4_code 48 = .ok (.invokevirtual 67, 3) := by decide +kernel
theorem dd_37_51 : decode prog_7_method_4_code 51 = .ok (.ireturn, 1) := by decide +kernel
theorem dd_37_52 : decode prog_7_method_4_code 52 = .ok (.iload_n 2, 1) := by decide +kernel
theorem dd_37_53 : decode prog_7_method_4_code 53 = .ok (.bipush 45, 2) := by decide +kernel
theorem dd_37_55 : decode prog_7_method_4_code 55 = .ok (.if_icmp .ne 26, 3) := by decide +kernel
theorem dd_37_58 : decode prog_7_method_4_code 58 = .ok (.aload_n 0, 1) := by decide +kernel
theorem dd_37_59 : decode prog_7_method_4_code 59 = .ok (.getfield 9, 3) := by decide +kernel
theorem dd_37_62 : decode prog_7_method_4_code 62 = .ok (.aload_n 0, 1) := by decide +kernel
theorem dd_37_63 : decode prog_7_method_4_code 63 = .ok (.getfield 24, 3) := by decide +kernel
theorem dd_37_66 : decode prog_7_method_4_code 66 = .ok (.iconst 1, 1) := by decide +kernel
theorem dd_37_67 : decode prog_7_method_4_code 67 = .ok (.iadd, 1) := by decide +kernel
theorem dd_37_68 : decode prog_7_method_4_code 68 = .ok (.invokevirtual 40, 3) := by decide +kernel
theorem dd_37_71 : decode prog_7_method_4_code 71 = .ok (.invokestatic 71, 3) := by decide +kernel
theorem dd_37_74 : decode prog_7_method_4_code 74 = .ok (.ifCond .eq 7, 3) := by decide +kernel
theorem dd_37_77 : decode prog_7_method_4_code 77 = .ok (.iconst 1, 1) := by decide +kernel
theorem dd_37_78 : decode prog_7_method_4_code 78 = .ok (.goto 4, 3) := by decide +kernel
theorem dd_37_81 : decode prog_7_method_4_code 81 = .ok (.iconst 0, 1) := by decide +kernel
theorem dd_37_82 : decode prog_7_method_4_code 82 = .ok (.istore_n 3, 1) := by decide +kernel
theorem dd_37_83 : decode prog_7_method_4_code 83 = .ok (.iload_n 2, 1) := by decide +kernel
theorem dd_37_84 : decode prog_7_method_4_code 84 = .ok (.invokestatic 75, 3) := by decide +kernel
theorem dd_37_87 : decode prog_7_method_4_code 87 = .ok (.istore 4, 2) := by decide +kernel
theorem dd_37_89 : decode prog_7_method_4_code 89 = .ok (.iload 4, 2) := by decide +kernel
theorem dd_37_91 : decode prog_7_method_4_code 91 = .ok (.iconst (-1), 1) := by decide +kernel
theorem dd_37_92 : decode prog_7_method_4_code 92 = .ok (.if_icmp .eq 7, 3) := by decide +kernel
theorem dd_37_95 : decode prog_7_method_4_code 95 = .ok (.iload_n 3, 1) := by decide +kernel
theorem dd_37_96 : decode prog_7_method_4_code 96 = .ok (.ifCond .eq 13, 3) := by decide +kernel
theorem dd_37_99 : decode prog_7_method_4_code 99 = .ok (.aload_n 0, 1) := by decide +kernel
theorem dd_37_100 : decode prog_7_method_4_code 100 = .ok (.iload_n 1, 1) := by decide +kernel
theorem dd_37_101 : decode prog_7_method_4_code 101 = .ok (.iconst 1, 1) := by decide +kernel
theorem dd_37_102 : decode prog_7_method_4_code 102 = .ok (.iadd, 1) := by decide +kernel
theorem dd_37_103 : decode prog_7_method_4_code 103 = .ok (.invokevirtual 80, 3) := by decide +kernel
theorem dd_37_106 : decode prog_7_method_4_code 106 = .ok (.goto 12, 3) := by decide +kernel
theorem dd_37_109 : decode prog_7_method_4_code 109 = .ok (.aload_n 0, 1) := by decide +kernel
theorem dd_37_110 : decode prog_7_method_4_code 110 = .ok (.iload 4, 2) := by decide +kernel
theorem dd_37_112 : decode prog_7_method_4_code 112 = .ok (.iload_n 1, 1) := by decide +kernel
theorem dd_37_113 : decode prog_7_method_4_code 113 = .ok (.iconst 1, 1) := by decide +kernel
theorem dd_37_114 : decode prog_7_method_4_code 114 = .ok (.iadd, 1) := by decide +kernel
theorem dd_37_115 : decode prog_7_method_4_code 115 = .ok (.invokevirtual 83, 3) := by decide +kernel
theorem dd_37_118 : decode prog_7_method_4_code 118 = .ok (.ireturn, 1) := by decide +kernel
set_option maxRecDepth 100000 in
theorem okI_37 : mj_okI gG "PairMachine$Reader" prog_7_method_4_code 5 (mj_off oM_37) (Option.some Jvm.ClassFile.FieldType.int) false true 0 cM_37 :=
  ⟨Or.inl ⟨0, rfl, dd_37_0, rfl⟩,
   Or.inl ⟨1, rfl, dd_37_1, rfl⟩,
   ⟨rfl, tw_292, by decide, tw_122, by decide +kernel, 60, tw_293, dd_37_2, tw_294, ⟨"PairMachine$Reader", fT3, 3, rfl, tw_295⟩, by decide +kernel⟩,
   Or.inl ⟨0, rfl, dd_37_5, rfl⟩,
   ⟨9, "PairMachine$Reader", fT3, 3, dd_37_6, rfl, okc_3, by decide, tw_253⟩,
   Or.inl ⟨0, rfl, dd_37_9, rfl⟩,
   ⟨24, "PairMachine$Reader", fT3, 3, dd_37_10, rfl, okc_3, by decide, tw_259⟩,
   ⟨rfl, tw_268, by decide, tw_115, by decide +kernel, 40, tw_269, dd_37_13, tw_270, ⟨"PairMachine$Text", fT1, 2, rfl, tw_271⟩, by decide +kernel⟩,
   ⟨by decide, Or.inl ⟨2, rfl, dd_37_16, rfl⟩⟩,
   Or.inl ⟨2, rfl, dd_37_17, rfl⟩,
   Or.inl (Or.inr (Or.inl ⟨dd_37_18, rfl, by decide⟩)),
   ⟨11, dd_37_20, rfl, rfl⟩,
   Or.inl ⟨0, rfl, dd_37_23, rfl⟩,
   Or.inl ⟨1, rfl, dd_37_24, rfl⟩,
   Or.inl (Or.inl ⟨dd_37_25, rfl⟩),
   ⟨dd_37_26, rfl⟩,
   ⟨rfl, tw_296, by decide, tw_122, by decide +kernel, 64, tw_297, dd_37_27, tw_298, ⟨"PairMachine$Reader", fT3, 3, rfl, tw_299⟩, by decide +kernel⟩,
   ⟨dd_37_30, rfl⟩,
   Or.inl ⟨2, rfl, dd_37_31, rfl⟩,
   Or.inl (Or.inr (Or.inl ⟨dd_37_32, rfl, by decide⟩)),
   ⟨9, dd_37_34, rfl, rfl⟩,
   Or.inl ⟨2, rfl, dd_37_37, rfl⟩,
   Or.inl (Or.inr (Or.inl ⟨dd_37_38, rfl, by decide⟩)),
   ⟨12, dd_37_40, rfl, rfl⟩,
   Or.inl ⟨0, rfl, dd_37_43, rfl⟩,
   Or.inl ⟨2, rfl, dd_37_44, rfl⟩,
   Or.inl ⟨1, rfl, dd_37_45, rfl⟩,
   Or.inl (Or.inl ⟨dd_37_46, rfl⟩),
   ⟨dd_37_47, rfl⟩,
   ⟨rfl, tw_300, by decide, tw_122, by decide +kernel, 67, tw_301, dd_37_48, tw_302, ⟨"PairMachine$Reader", fT3, 3, rfl, tw_303⟩, by decide +kernel⟩,
   ⟨dd_37_51, rfl⟩,
   Or.inl ⟨2, rfl, dd_37_52, rfl⟩,
   Or.inl (Or.inr (Or.inl ⟨dd_37_53, rfl, by decide⟩)),
   ⟨26, dd_37_55, rfl, rfl⟩,
   Or.inl ⟨0, rfl, dd_37_58, rfl⟩,
   ⟨9, "PairMachine$Reader", fT3, 3, dd_37_59, rfl, okc_3, by decide, tw_253⟩,
   Or.inl ⟨0, rfl, dd_37_62, rfl⟩,
   ⟨24, "PairMachine$Reader", fT3, 3, dd_37_63, rfl, okc_3, by decide, tw_259⟩,
   Or.inl (Or.inl ⟨dd_37_66, rfl⟩),
   ⟨dd_37_67, rfl⟩,
   ⟨rfl, tw_268, by decide, tw_115, by decide +kernel, 40, tw_269, dd_37_68, tw_270, ⟨"PairMachine$Text", fT1, 2, rfl, tw_271⟩, by decide +kernel⟩,
   ⟨rfl, tw_304, by decide, tw_122, by decide +kernel, 71, tw_305, dd_37_71, tw_306, by decide +kernel⟩,
   ⟨7, dd_37_74, rfl, rfl⟩,
   Or.inl (Or.inl ⟨dd_37_77, rfl⟩),
   ⟨4, dd_37_78, rfl⟩,
   Or.inl (Or.inl ⟨dd_37_81, rfl⟩),
   ⟨by decide, Or.inl ⟨3, rfl, dd_37_82, rfl⟩⟩,
   Or.inl ⟨2, rfl, dd_37_83, rfl⟩,
   ⟨rfl, tw_307, by decide, tw_308, by decide +kernel, 75, tw_309, dd_37_84, tw_310, by decide +kernel⟩,
   ⟨by decide, Or.inr ⟨dd_37_87, rfl⟩⟩,
   Or.inr ⟨dd_37_89, rfl⟩,
   Or.inl (Or.inl ⟨dd_37_91, rfl⟩),
   ⟨7, dd_37_92, rfl, rfl⟩,
   Or.inl ⟨3, rfl, dd_37_95, rfl⟩,
   ⟨13, dd_37_96, rfl, rfl⟩,
   Or.inl ⟨0, rfl, dd_37_99, rfl⟩,
   Or.inl ⟨1, rfl, dd_37_100, rfl⟩,
   Or.inl (Or.inl ⟨dd_37_101, rfl⟩),
   ⟨dd_37_102, rfl⟩,
   ⟨rfl, tw_311, by decide, tw_122, by decide +kernel, 80, tw_312, dd_37_103, tw_313, ⟨"PairMachine$Reader", fT3, 3, rfl, tw_314⟩, by decide +kernel⟩,
   ⟨12, dd_37_106, rfl⟩,
   Or.inl ⟨0, rfl, dd_37_109, rfl⟩,
   Or.inr ⟨dd_37_110, rfl⟩,
   Or.inl ⟨1, rfl, dd_37_112, rfl⟩,
   Or.inl (Or.inl ⟨dd_37_113, rfl⟩),
   ⟨dd_37_114, rfl⟩,
   ⟨rfl, tw_315, by decide, tw_122, by decide +kernel, 83, tw_316, dd_37_115, tw_317, ⟨"PairMachine$Reader", fT3, 3, rfl, tw_318⟩, by decide +kernel⟩,
   ⟨dd_37_118, rfl⟩, trivial⟩
theorem okM_37 : mj_okE gG 37 (cM_37, 5, oM_37, hM_37) := ⟨rfl, rfl, by decide +kernel, trivial, okI_37⟩
theorem dd_38_0 : decode prog_7_method_5_code 0 = .ok (.aload_n 0, 1) := by decide +kernel
theorem dd_38_1 : decode prog_7_method_5_code 1 = .ok (.getfield 15, 3) := by decide +kernel
theorem dd_38_4 : decode prog_7_method_5_code 4 = .ok (.iconst 5, 1) := by decide +kernel
theorem dd_38_5 : decode prog_7_method_5_code 5 = .ok (.iload_n 1, 1) := by decide +kernel
theorem dd_38_6 : decode prog_7_method_5_code 6 = .ok (.aload_n 0, 1) := by decide +kernel
theorem dd_38_7 : decode prog_7_method_5_code 7 = .ok (.getfield 24, 3) := by decide +kernel
theorem dd_38_10 : decode prog_7_method_5_code 10 = .ok (.invokevirtual 49, 3) := by decide +kernel
theorem dd_38_13 : decode prog_7_method_5_code 13 = .ok (.istore_n 3, 1) := by decide +kernel
theorem dd_38_14 : decode prog_7_method_5_code 14 = .ok (.aload_n 0, 1) := by decide +kernel
theorem dd_38_15 : decode prog_7_method_5_code 15 = .ok (.dup, 1) := by decide +kernel
theorem dd_38_16 : decode prog_7_method_5_code 16 = .ok (.getfield 24, 3) := by decide +kernel
theorem dd_38_19 : decode prog_7_method_5_code 19 = .ok (.iconst 1, 1) := by decide +kernel
theorem dd_38_20 : decode prog_7_method_5_code 20 = .ok (.iadd, 1) := by decide +kernel
theorem dd_38_21 : decode prog_7_method_5_code 21 = .ok (.putfield 24, 3) := by decide +kernel
theorem dd_38_24 : decode prog_7_method_5_code 24 = .ok (.iconst 0, 1) := by decide +kernel
theorem dd_38_25 : decode prog_7_method_5_code 25 = .ok (.istore 4, 2) := by decide +kernel
theorem dd_38_27 : decode prog_7_method_5_code 27 = .ok (.iload 4, 2) := by decide +kernel
theorem dd_38_29 : decode prog_7_method_5_code 29 = .ok (.iload_n 1, 1) := by decide +kernel
theorem dd_38_30 : decode prog_7_method_5_code 30 = .ok (.invokestatic 86, 3) := by decide +kernel
theorem dd_38_33 : decode prog_7_method_5_code 33 = .ok (.if_icmp .ge 28, 3) := by decide +kernel
theorem dd_38_36 : decode prog_7_method_5_code 36 = .ok (.aload_n 0, 1) := by decide +kernel
theorem dd_38_37 : decode prog_7_method_5_code 37 = .ok (.bipush 32, 2) := by decide +kernel
theorem dd_38_39 : decode prog_7_method_5_code 39 = .ok (.invokevirtual 89, 3) := by decide +kernel
theorem dd_38_42 : decode prog_7_method_5_code 42 = .ok (.aload_n 0, 1) := by decide +kernel
theorem dd_38_43 : decode prog_7_method_5_code 43 = .ok (.getfield 15, 3) := by decide +kernel
theorem dd_38_46 : decode prog_7_method_5_code 46 = .ok (.iload_n 3, 1) := by decide +kernel
theorem dd_38_47 : decode prog_7_method_5_code 47 = .ok (.aload_n 0, 1) := by decide +kernel
theorem dd_38_48 : decode prog_7_method_5_code 48 = .ok (.iload_n 2, 1) := by decide +kernel
theorem dd_38_49 : decode prog_7_method_5_code 49 = .ok (.invokevirtual 28, 3) := by decide +kernel
theorem dd_38_52 : decode prog_7_method_5_code 52 = .ok (.invokevirtual 56, 3) := by decide +kernel
theorem dd_38_55 : decode prog_7_method_5_code 55 = .ok (.iinc 4 1, 3) := by decide +kernel
theorem dd_38_58 : decode prog_7_method_5_code 58 = .ok (.goto (-31), 3) := by decide +kernel
theorem dd_38_61 : decode prog_7_method_5_code 61 = .ok (.aload_n 0, 1) := by decide +kernel
theorem dd_38_62 : decode prog_7_method_5_code 62 = .ok (.bipush 41, 2) := by decide +kernel
theorem dd_38_64 : decode prog_7_method_5_code 64 = .ok (.invokevirtual 89, 3) := by decide +kernel
theorem dd_38_67 : decode prog_7_method_5_code 67 = .ok (.iload_n 3, 1) := by decide +kernel
theorem dd_38_68 : decode prog_7_method_5_code 68 = .ok (.ireturn, 1) := by decide +kernel
set_option maxRecDepth 100000 in
theorem okI_38 : mj_okI gG "PairMachine$Reader" prog_7_method_5_code 5 (mj_off oM_38) (Option.some Jvm.ClassFile.FieldType.int) false true 0 cM_38 :=
  ⟨Or.inl ⟨0, rfl, dd_38_0, rfl⟩,
   ⟨15, "PairMachine$Reader", fT3, 3, dd_38_1, rfl, okc_3, by decide, tw_254⟩,
   Or.inl (Or.inl ⟨dd_38_4, rfl⟩),
   Or.inl ⟨1, rfl, dd_38_5, rfl⟩,
   Or.inl ⟨0, rfl, dd_38_6, rfl⟩,
   ⟨24, "PairMachine$Reader", fT3, 3, dd_38_7, rfl, okc_3, by decide, tw_259⟩,
   ⟨rfl, tw_280, by decide, tw_109, by decide +kernel, 49, tw_281, dd_38_10, tw_282, ⟨"PairMachine$Tree", fT2, 7, rfl, tw_283⟩, by decide +kernel⟩,
   ⟨by decide, Or.inl ⟨3, rfl, dd_38_13, rfl⟩⟩,
   Or.inl ⟨0, rfl, dd_38_14, rfl⟩,
   ⟨dd_38_15, rfl⟩,
   ⟨24, "PairMachine$Reader", fT3, 3, dd_38_16, rfl, okc_3, by decide, tw_259⟩,
   Or.inl (Or.inl ⟨dd_38_19, rfl⟩),
   ⟨dd_38_20, rfl⟩,
   ⟨24, "PairMachine$Reader", fT3, 3, dd_38_21, rfl, okc_3, by decide, tw_259, rfl, Or.inl rfl⟩,
   Or.inl (Or.inl ⟨dd_38_24, rfl⟩),
   ⟨by decide, Or.inr ⟨dd_38_25, rfl⟩⟩,
   Or.inr ⟨dd_38_27, rfl⟩,
   Or.inl ⟨1, rfl, dd_38_29, rfl⟩,
   ⟨rfl, tw_319, by decide, tw_308, by decide +kernel, 86, tw_320, dd_38_30, tw_321, by decide +kernel⟩,
   ⟨28, dd_38_33, rfl, rfl⟩,
   Or.inl ⟨0, rfl, dd_38_36, rfl⟩,
   Or.inl (Or.inr (Or.inl ⟨dd_38_37, rfl, by decide⟩)),
   ⟨rfl, tw_322, by decide, tw_122, by decide +kernel, 89, tw_323, dd_38_39, tw_324, ⟨"PairMachine$Reader", fT3, 3, rfl, tw_325⟩, by decide +kernel⟩,
   Or.inl ⟨0, rfl, dd_38_42, rfl⟩,
   ⟨15, "PairMachine$Reader", fT3, 3, dd_38_43, rfl, okc_3, by decide, tw_254⟩,
   Or.inl ⟨3, rfl, dd_38_46, rfl⟩,
   Or.inl ⟨0, rfl, dd_38_47, rfl⟩,
   Or.inl ⟨2, rfl, dd_38_48, rfl⟩,
   ⟨rfl, tw_260, by decide, tw_122, by decide +kernel, 28, tw_261, dd_38_49, tw_262, ⟨"PairMachine$Reader", fT3, 3, rfl, tw_263⟩, by decide +kernel⟩,
   ⟨rfl, tw_288, by decide, tw_109, by decide +kernel, 56, tw_289, dd_38_52, tw_290, ⟨"PairMachine$Tree", fT2, 7, rfl, tw_291⟩, by decide +kernel⟩,
   ⟨by decide, dd_38_55, rfl⟩,
   ⟨(-31), dd_38_58, rfl⟩,
   Or.inl ⟨0, rfl, dd_38_61, rfl⟩,
   Or.inl (Or.inr (Or.inl ⟨dd_38_62, rfl, by decide⟩)),
   ⟨rfl, tw_322, by decide, tw_122, by decide +kernel, 89, tw_323, dd_38_64, tw_324, ⟨"PairMachine$Reader", fT3, 3, rfl, tw_325⟩, by decide +kernel⟩,
   Or.inl ⟨3, rfl, dd_38_67, rfl⟩,
   ⟨dd_38_68, rfl⟩, trivial⟩
theorem okM_38 : mj_okE gG 38 (cM_38, 5, oM_38, hM_38) := ⟨rfl, rfl, by decide +kernel, trivial, okI_38⟩
theorem dd_39_0 : decode prog_7_method_6_code 0 = .ok (.aload_n 0, 1) := by decide +kernel
theorem dd_39_1 : decode prog_7_method_6_code 1 = .ok (.getfield 15, 3) := by decide +kernel
theorem dd_39_4 : decode prog_7_method_6_code 4 = .ok (.bipush 11, 2) := by decide +kernel
theorem dd_39_6 : decode prog_7_method_6_code 6 = .ok (.iconst 0, 1) := by decide +kernel
theorem dd_39_7 : decode prog_7_method_6_code 7 = .ok (.aload_n 0, 1) := by decide +kernel
theorem dd_39_8 : decode prog_7_method_6_code 8 = .ok (.getfield 24, 3) := by decide +kernel
theorem dd_39_11 : decode prog_7_method_6_code 11 = .ok (.invokevirtual 49, 3) := by decide +kernel
theorem dd_39_14 : decode prog_7_method_6_code 14 = .ok (.istore_n 2, 1) := by decide +kernel
theorem dd_39_15 : decode prog_7_method_6_code 15 = .ok (.aload_n 0, 1) := by decide +kernel
theorem dd_39_16 : decode prog_7_method_6_code 16 = .ok (.getfield 15, 3) := by decide +kernel
theorem dd_39_19 : decode prog_7_method_6_code 19 = .ok (.iload_n 2, 1) := by decide +kernel
theorem dd_39_20 : decode prog_7_method_6_code 20 = .ok (.aload_n 0, 1) := by decide +kernel
theorem dd_39_21 : decode prog_7_method_6_code 21 = .ok (.iload_n 1, 1) := by decide +kernel
theorem dd_39_22 : decode prog_7_method_6_code 22 = .ok (.invokevirtual 28, 3) := by decide +kernel
theorem dd_39_25 : decode prog_7_method_6_code 25 = .ok (.invokevirtual 56, 3) := by decide +kernel
theorem dd_39_28 : decode prog_7_method_6_code 28 = .ok (.iconst 0, 1) := by decide +kernel
theorem dd_39_29 : decode prog_7_method_6_code 29 = .ok (.istore_n 3, 1) := by decide +kernel
theorem dd_39_30 : decode prog_7_method_6_code 30 = .ok (.iload_n 3, 1) := by decide +kernel
theorem dd_39_31 : decode prog_7_method_6_code 31 = .ok (.iconst 3, 1) := by decide +kernel
theorem dd_39_32 : decode prog_7_method_6_code 32 = .ok (.if_icmp .ge 48, 3) := by decide +kernel
theorem dd_39_35 : decode prog_7_method_6_code 35 = .ok (.aload_n 0, 1) := by decide +kernel
theorem dd_39_36 : decode prog_7_method_6_code 36 = .ok (.getfield 9, 3) := by decide +kernel
theorem dd_39_39 : decode prog_7_method_6_code 39 = .ok (.aload_n 0, 1) := by decide +kernel
theorem dd_39_40 : decode prog_7_method_6_code 40 = .ok (.getfield 24, 3) := by decide +kernel
theorem dd_39_43 : decode prog_7_method_6_code 43 = .ok (.invokevirtual 40, 3) := by decide +kernel
theorem dd_39_46 : decode prog_7_method_6_code 46 = .ok (.bipush 32, 2) := by decide +kernel
theorem dd_39_48 : decode prog_7_method_6_code 48 = .ok (.if_icmp .ne 32, 3) := by decide +kernel
theorem dd_39_51 : decode prog_7_method_6_code 51 = .ok (.aload_n 0, 1) := by decide +kernel
theorem dd_39_52 : decode prog_7_method_6_code 52 = .ok (.dup, 1) := by decide +kernel
theorem dd_39_53 : decode prog_7_method_6_code 53 = .ok (.getfield 24, 3) := by decide +kernel
theorem dd_39_56 : decode prog_7_method_6_code 56 = .ok (.iconst 1, 1) := by decide +kernel
theorem dd_39_57 : decode prog_7_method_6_code 57 = .ok (.iadd, 1) := by decide +kernel
theorem dd_39_58 : decode prog_7_method_6_code 58 = .ok (.putfield 24, 3) := by decide +kernel
theorem dd_39_61 : decode prog_7_method_6_code 61 = .ok (.aload_n 0, 1) := by decide +kernel
theorem dd_39_62 : decode prog_7_method_6_code 62 = .ok (.getfield 15, 3) := by decide +kernel
theorem dd_39_65 : decode prog_7_method_6_code 65 = .ok (.iload_n 2, 1) := by decide +kernel
theorem dd_39_66 : decode prog_7_method_6_code 66 = .ok (.aload_n 0, 1) := by decide +kernel
theorem dd_39_67 : decode prog_7_method_6_code 67 = .ok (.iload_n 1, 1) := by decide +kernel
theorem dd_39_68 : decode prog_7_method_6_code 68 = .ok (.invokevirtual 28, 3) := by decide +kernel
theorem dd_39_71 : decode prog_7_method_6_code 71 = .ok (.invokevirtual 56, 3) := by decide +kernel
theorem dd_39_74 : decode prog_7_method_6_code 74 = .ok (.iinc 3 1, 3) := by decide +kernel
theorem dd_39_77 : decode prog_7_method_6_code 77 = .ok (.goto (-47), 3) := by decide +kernel
theorem dd_39_80 : decode prog_7_method_6_code 80 = .ok (.aload_n 0, 1) := by decide +kernel
theorem dd_39_81 : decode prog_7_method_6_code 81 = .ok (.bipush 41, 2) := by decide +kernel
theorem dd_39_83 : decode prog_7_method_6_code 83 = .ok (.invokevirtual 89, 3) := by decide +kernel
theorem dd_39_86 : decode prog_7_method_6_code 86 = .ok (.iload_n 2, 1) := by decide +kernel
theorem dd_39_87 : decode prog_7_method_6_code 87 = .ok (.ireturn, 1) := by decide +kernel
set_option maxRecDepth 100000 in
theorem okI_39 : mj_okI gG "PairMachine$Reader" prog_7_method_6_code 4 (mj_off oM_39) (Option.some Jvm.ClassFile.FieldType.int) false true 0 cM_39 :=
  ⟨Or.inl ⟨0, rfl, dd_39_0, rfl⟩,
   ⟨15, "PairMachine$Reader", fT3, 3, dd_39_1, rfl, okc_3, by decide, tw_254⟩,
   Or.inl (Or.inr (Or.inl ⟨dd_39_4, rfl, by decide⟩)),
   Or.inl (Or.inl ⟨dd_39_6, rfl⟩),
   Or.inl ⟨0, rfl, dd_39_7, rfl⟩,
   ⟨24, "PairMachine$Reader", fT3, 3, dd_39_8, rfl, okc_3, by decide, tw_259⟩,
   ⟨rfl, tw_280, by decide, tw_109, by decide +kernel, 49, tw_281, dd_39_11, tw_282, ⟨"PairMachine$Tree", fT2, 7, rfl, tw_283⟩, by decide +kernel⟩,
   ⟨by decide, Or.inl ⟨2, rfl, dd_39_14, rfl⟩⟩,
   Or.inl ⟨0, rfl, dd_39_15, rfl⟩,
   ⟨15, "PairMachine$Reader", fT3, 3, dd_39_16, rfl, okc_3, by decide, tw_254⟩,
   Or.inl ⟨2, rfl, dd_39_19, rfl⟩,
   Or.inl ⟨0, rfl, dd_39_20, rfl⟩,
   Or.inl ⟨1, rfl, dd_39_21, rfl⟩,
   ⟨rfl, tw_260, by decide, tw_122, by decide +kernel, 28, tw_261, dd_39_22, tw_262, ⟨"PairMachine$Reader", fT3, 3, rfl, tw_263⟩, by decide +kernel⟩,
   ⟨rfl, tw_288, by decide, tw_109, by decide +kernel, 56, tw_289, dd_39_25, tw_290, ⟨"PairMachine$Tree", fT2, 7, rfl, tw_291⟩, by decide +kernel⟩,
   Or.inl (Or.inl ⟨dd_39_28, rfl⟩),
   ⟨by decide, Or.inl ⟨3, rfl, dd_39_29, rfl⟩⟩,
   Or.inl ⟨3, rfl, dd_39_30, rfl⟩,
   Or.inl (Or.inl ⟨dd_39_31, rfl⟩),
   ⟨48, dd_39_32, rfl, rfl⟩,
   Or.inl ⟨0, rfl, dd_39_35, rfl⟩,
   ⟨9, "PairMachine$Reader", fT3, 3, dd_39_36, rfl, okc_3, by decide, tw_253⟩,
   Or.inl ⟨0, rfl, dd_39_39, rfl⟩,
   ⟨24, "PairMachine$Reader", fT3, 3, dd_39_40, rfl, okc_3, by decide, tw_259⟩,
   ⟨rfl, tw_268, by decide, tw_115, by decide +kernel, 40, tw_269, dd_39_43, tw_270, ⟨"PairMachine$Text", fT1, 2, rfl, tw_271⟩, by decide +kernel⟩,
   Or.inl (Or.inr (Or.inl ⟨dd_39_46, rfl, by decide⟩)),
   ⟨32, dd_39_48, rfl, rfl⟩,
   Or.inl ⟨0, rfl, dd_39_51, rfl⟩,
   ⟨dd_39_52, rfl⟩,
   ⟨24, "PairMachine$Reader", fT3, 3, dd_39_53, rfl, okc_3, by decide, tw_259⟩,
   Or.inl (Or.inl ⟨dd_39_56, rfl⟩),
   ⟨dd_39_57, rfl⟩,
   ⟨24, "PairMachine$Reader", fT3, 3, dd_39_58, rfl, okc_3, by decide, tw_259, rfl, Or.inl rfl⟩,
   Or.inl ⟨0, rfl, dd_39_61, rfl⟩,
   ⟨15, "PairMachine$Reader", fT3, 3, dd_39_62, rfl, okc_3, by decide, tw_254⟩,
   Or.inl ⟨2, rfl, dd_39_65, rfl⟩,
   Or.inl ⟨0, rfl, dd_39_66, rfl⟩,
   Or.inl ⟨1, rfl, dd_39_67, rfl⟩,
   ⟨rfl, tw_260, by decide, tw_122, by decide +kernel, 28, tw_261, dd_39_68, tw_262, ⟨"PairMachine$Reader", fT3, 3, rfl, tw_263⟩, by decide +kernel⟩,
   ⟨rfl, tw_288, by decide, tw_109, by decide +kernel, 56, tw_289, dd_39_71, tw_290, ⟨"PairMachine$Tree", fT2, 7, rfl, tw_291⟩, by decide +kernel⟩,
   ⟨by decide, dd_39_74, rfl⟩,
   ⟨(-47), dd_39_77, rfl⟩,
   Or.inl ⟨0, rfl, dd_39_80, rfl⟩,
   Or.inl (Or.inr (Or.inl ⟨dd_39_81, rfl, by decide⟩)),
   ⟨rfl, tw_322, by decide, tw_122, by decide +kernel, 89, tw_323, dd_39_83, tw_324, ⟨"PairMachine$Reader", fT3, 3, rfl, tw_325⟩, by decide +kernel⟩,
   Or.inl ⟨2, rfl, dd_39_86, rfl⟩,
   ⟨dd_39_87, rfl⟩, trivial⟩
theorem okM_39 : mj_okE gG 39 (cM_39, 4, oM_39, hM_39) := ⟨rfl, rfl, by decide +kernel, trivial, okI_39⟩
theorem dd_40_0 : decode prog_7_method_7_code 0 = .ok (.aload_n 0, 1) := by decide +kernel
theorem dd_40_1 : decode prog_7_method_7_code 1 = .ok (.getfield 15, 3) := by decide +kernel
theorem dd_40_4 : decode prog_7_method_7_code 4 = .ok (.bipush 6, 2) := by decide +kernel
theorem dd_40_6 : decode prog_7_method_7_code 6 = .ok (.iconst 0, 1) := by decide +kernel
theorem dd_40_7 : decode prog_7_method_7_code 7 = .ok (.aload_n 0, 1) := by decide +kernel
theorem dd_40_8 : decode prog_7_method_7_code 8 = .ok (.getfield 24, 3) := by decide +kernel
theorem dd_40_11 : decode prog_7_method_7_code 11 = .ok (.invokevirtual 49, 3) := by decide +kernel
theorem dd_40_14 : decode prog_7_method_7_code 14 = .ok (.istore_n 2, 1) := by decide +kernel
theorem dd_40_15 : decode prog_7_method_7_code 15 = .ok (.aload_n 0, 1) := by decide +kernel
theorem dd_40_16 : decode prog_7_method_7_code 16 = .ok (.bipush 92, 2) := by decide +kernel
theorem dd_40_18 : decode prog_7_method_7_code 18 = .ok (.invokevirtual 89, 3) := by decide +kernel
theorem dd_40_21 : decode prog_7_method_7_code 21 = .ok (.aload_n 0, 1) := by decide +kernel
theorem dd_40_22 : decode prog_7_method_7_code 22 = .ok (.bipush 32, 2) := by decide +kernel
theorem dd_40_24 : decode prog_7_method_7_code 24 = .ok (.invokevirtual 89, 3) := by decide +kernel
theorem dd_40_27 : decode prog_7_method_7_code 27 = .ok (.aload_n 0, 1) := by decide +kernel
theorem dd_40_28 : decode prog_7_method_7_code 28 = .ok (.getfield 15, 3) := by decide +kernel
theorem dd_40_31 : decode prog_7_method_7_code 31 = .ok (.iload_n 2, 1) := by decide +kernel
theorem dd_40_32 : decode prog_7_method_7_code 32 = .ok (.aload_n 0, 1) := by decide +kernel
theorem dd_40_33 : decode prog_7_method_7_code 33 = .ok (.iload_n 1, 1) := by decide +kernel
theorem dd_40_34 : decode prog_7_method_7_code 34 = .ok (.invokevirtual 92, 3) := by decide +kernel
theorem dd_40_37 : decode prog_7_method_7_code 37 = .ok (.invokevirtual 56, 3) := by decide +kernel
theorem dd_40_40 : decode prog_7_method_7_code 40 = .ok (.aload_n 0, 1) := by decide +kernel
theorem dd_40_41 : decode prog_7_method_7_code 41 = .ok (.bipush 32, 2) := by decide +kernel
theorem dd_40_43 : decode prog_7_method_7_code 43 = .ok (.invokevirtual 89, 3) := by decide +kernel
theorem dd_40_46 : decode prog_7_method_7_code 46 = .ok (.aload_n 0, 1) := by decide +kernel
theorem dd_40_47 : decode prog_7_method_7_code 47 = .ok (.getfield 15, 3) := by decide +kernel
theorem dd_40_50 : decode prog_7_method_7_code 50 = .ok (.iload_n 2, 1) := by decide +kernel
theorem dd_40_51 : decode prog_7_method_7_code 51 = .ok (.aload_n 0, 1) := by decide +kernel
theorem dd_40_52 : decode prog_7_method_7_code 52 = .ok (.iload_n 1, 1) := by decide +kernel
theorem dd_40_53 : decode prog_7_method_7_code 53 = .ok (.invokevirtual 28, 3) := by decide +kernel
theorem dd_40_56 : decode prog_7_method_7_code 56 = .ok (.invokevirtual 56, 3) := by decide +kernel
theorem dd_40_59 : decode prog_7_method_7_code 59 = .ok (.aload_n 0, 1) := by decide +kernel
theorem dd_40_60 : decode prog_7_method_7_code 60 = .ok (.bipush 41, 2) := by decide +kernel
theorem dd_40_62 : decode prog_7_method_7_code 62 = .ok (.invokevirtual 89, 3) := by decide +kernel
theorem dd_40_65 : decode prog_7_method_7_code 65 = .ok (.iload_n 2, 1) := by decide +kernel
theorem dd_40_66 : decode prog_7_method_7_code 66 = .ok (.ireturn, 1) := by decide +kernel
set_option maxRecDepth 100000 in
theorem okI_40 : mj_okI gG "PairMachine$Reader" prog_7_method_7_code 3 (mj_off oM_40) (Option.some Jvm.ClassFile.FieldType.int) false true 0 cM_40 :=
  ⟨Or.inl ⟨0, rfl, dd_40_0, rfl⟩,
   ⟨15, "PairMachine$Reader", fT3, 3, dd_40_1, rfl, okc_3, by decide, tw_254⟩,
   Or.inl (Or.inr (Or.inl ⟨dd_40_4, rfl, by decide⟩)),
   Or.inl (Or.inl ⟨dd_40_6, rfl⟩),
   Or.inl ⟨0, rfl, dd_40_7, rfl⟩,
   ⟨24, "PairMachine$Reader", fT3, 3, dd_40_8, rfl, okc_3, by decide, tw_259⟩,
   ⟨rfl, tw_280, by decide, tw_109, by decide +kernel, 49, tw_281, dd_40_11, tw_282, ⟨"PairMachine$Tree", fT2, 7, rfl, tw_283⟩, by decide +kernel⟩,
   ⟨by decide, Or.inl ⟨2, rfl, dd_40_14, rfl⟩⟩,
   Or.inl ⟨0, rfl, dd_40_15, rfl⟩,
   Or.inl (Or.inr (Or.inl ⟨dd_40_16, rfl, by decide⟩)),
   ⟨rfl, tw_322, by decide, tw_122, by decide +kernel, 89, tw_323, dd_40_18, tw_324, ⟨"PairMachine$Reader", fT3, 3, rfl, tw_325⟩, by decide +kernel⟩,
   Or.inl ⟨0, rfl, dd_40_21, rfl⟩,
   Or.inl (Or.inr (Or.inl ⟨dd_40_22, rfl, by decide⟩)),
   ⟨rfl, tw_322, by decide, tw_122, by decide +kernel, 89, tw_323, dd_40_24, tw_324, ⟨"PairMachine$Reader", fT3, 3, rfl, tw_325⟩, by decide +kernel⟩,
   Or.inl ⟨0, rfl, dd_40_27, rfl⟩,
   ⟨15, "PairMachine$Reader", fT3, 3, dd_40_28, rfl, okc_3, by decide, tw_254⟩,
   Or.inl ⟨2, rfl, dd_40_31, rfl⟩,
   Or.inl ⟨0, rfl, dd_40_32, rfl⟩,
   Or.inl ⟨1, rfl, dd_40_33, rfl⟩,
   ⟨rfl, tw_326, by decide, tw_122, by decide +kernel, 92, tw_327, dd_40_34, tw_328, ⟨"PairMachine$Reader", fT3, 3, rfl, tw_329⟩, by decide +kernel⟩,
   ⟨rfl, tw_288, by decide, tw_109, by decide +kernel, 56, tw_289, dd_40_37, tw_290, ⟨"PairMachine$Tree", fT2, 7, rfl, tw_291⟩, by decide +kernel⟩,
   Or.inl ⟨0, rfl, dd_40_40, rfl⟩,
   Or.inl (Or.inr (Or.inl ⟨dd_40_41, rfl, by decide⟩)),
   ⟨rfl, tw_322, by decide, tw_122, by decide +kernel, 89, tw_323, dd_40_43, tw_324, ⟨"PairMachine$Reader", fT3, 3, rfl, tw_325⟩, by decide +kernel⟩,
   Or.inl ⟨0, rfl, dd_40_46, rfl⟩,
   ⟨15, "PairMachine$Reader", fT3, 3, dd_40_47, rfl, okc_3, by decide, tw_254⟩,
   Or.inl ⟨2, rfl, dd_40_50, rfl⟩,
   Or.inl ⟨0, rfl, dd_40_51, rfl⟩,
   Or.inl ⟨1, rfl, dd_40_52, rfl⟩,
   ⟨rfl, tw_260, by decide, tw_122, by decide +kernel, 28, tw_261, dd_40_53, tw_262, ⟨"PairMachine$Reader", fT3, 3, rfl, tw_263⟩, by decide +kernel⟩,
   ⟨rfl, tw_288, by decide, tw_109, by decide +kernel, 56, tw_289, dd_40_56, tw_290, ⟨"PairMachine$Tree", fT2, 7, rfl, tw_291⟩, by decide +kernel⟩,
   Or.inl ⟨0, rfl, dd_40_59, rfl⟩,
   Or.inl (Or.inr (Or.inl ⟨dd_40_60, rfl, by decide⟩)),
   ⟨rfl, tw_322, by decide, tw_122, by decide +kernel, 89, tw_323, dd_40_62, tw_324, ⟨"PairMachine$Reader", fT3, 3, rfl, tw_325⟩, by decide +kernel⟩,
   Or.inl ⟨2, rfl, dd_40_65, rfl⟩,
   ⟨dd_40_66, rfl⟩, trivial⟩
theorem okM_40 : mj_okE gG 40 (cM_40, 3, oM_40, hM_40) := ⟨rfl, rfl, by decide +kernel, trivial, okI_40⟩
theorem dd_41_0 : decode prog_7_method_8_code 0 = .ok (.aload_n 0, 1) := by decide +kernel
theorem dd_41_1 : decode prog_7_method_8_code 1 = .ok (.getfield 15, 3) := by decide +kernel
theorem dd_41_4 : decode prog_7_method_8_code 4 = .ok (.bipush 7, 2) := by decide +kernel
theorem dd_41_6 : decode prog_7_method_8_code 6 = .ok (.iconst 0, 1) := by decide +kernel
theorem dd_41_7 : decode prog_7_method_8_code 7 = .ok (.aload_n 0, 1) := by decide +kernel
theorem dd_41_8 : decode prog_7_method_8_code 8 = .ok (.getfield 24, 3) := by decide +kernel
theorem dd_41_11 : decode prog_7_method_8_code 11 = .ok (.invokevirtual 49, 3) := by decide +kernel
theorem dd_41_14 : decode prog_7_method_8_code 14 = .ok (.istore_n 2, 1) := by decide +kernel
theorem dd_41_15 : decode prog_7_method_8_code 15 = .ok (.aload_n 0, 1) := by decide +kernel
theorem dd_41_16 : decode prog_7_method_8_code 16 = .ok (.iload_n 1, 1) := by decide +kernel
theorem dd_41_17 : decode prog_7_method_8_code 17 = .ok (.invokevirtual 60, 3) := by decide +kernel
theorem dd_41_20 : decode prog_7_method_8_code 20 = .ok (.aload_n 0, 1) := by decide +kernel
theorem dd_41_21 : decode prog_7_method_8_code 21 = .ok (.getfield 9, 3) := by decide +kernel
theorem dd_41_24 : decode prog_7_method_8_code 24 = .ok (.aload_n 0, 1) := by decide +kernel
theorem dd_41_25 : decode prog_7_method_8_code 25 = .ok (.getfield 24, 3) := by decide +kernel
theorem dd_41_28 : decode prog_7_method_8_code 28 = .ok (.invokevirtual 40, 3) := by decide +kernel
theorem dd_41_31 : decode prog_7_method_8_code 31 = .ok (.bipush 41, 2) := by decide +kernel
theorem dd_41_33 : decode prog_7_method_8_code 33 = .ok (.if_icmp .eq 52, 3) := by decide +kernel
theorem dd_41_36 : decode prog_7_method_8_code 36 = .ok (.aload_n 0, 1) := by decide +kernel
theorem dd_41_37 : decode prog_7_method_8_code 37 = .ok (.iload_n 2, 1) := by decide +kernel
theorem dd_41_38 : decode prog_7_method_8_code 38 = .ok (.invokevirtual 95, 3) := by decide +kernel
theorem dd_41_41 : decode prog_7_method_8_code 41 = .ok (.iconst 1, 1) := by decide +kernel
theorem dd_41_42 : decode prog_7_method_8_code 42 = .ok (.istore_n 3, 1) := by decide +kernel
theorem dd_41_43 : decode prog_7_method_8_code 43 = .ok (.iload_n 3, 1) := by decide +kernel
theorem dd_41_44 : decode prog_7_method_8_code 44 = .ok (.iconst 3, 1) := by decide +kernel
theorem dd_41_45 : decode prog_7_method_8_code 45 = .ok (.if_icmp .ge 40, 3) := by decide +kernel
theorem dd_41_48 : decode prog_7_method_8_code 48 = .ok (.aload_n 0, 1) := by decide +kernel
theorem dd_41_49 : decode prog_7_method_8_code 49 = .ok (.getfield 9, 3) := by decide +kernel
theorem dd_41_52 : decode prog_7_method_8_code 52 = .ok (.aload_n 0, 1) := by decide +kernel
theorem dd_41_53 : decode prog_7_method_8_code 53 = .ok (.getfield 24, 3) := by decide +kernel
theorem dd_41_56 : decode prog_7_method_8_code 56 = .ok (.invokevirtual 40, 3) := by decide +kernel
theorem dd_41_59 : decode prog_7_method_8_code 59 = .ok (.bipush 32, 2) := by decide +kernel
theorem dd_41_61 : decode prog_7_method_8_code 61 = .ok (.if_icmp .ne 24, 3) := by decide +kernel
theorem dd_41_64 : decode prog_7_method_8_code 64 = .ok (.aload_n 0, 1) := by decide +kernel
theorem dd_41_65 : decode prog_7_method_8_code 65 = .ok (.dup, 1) := by decide +kernel
theorem dd_41_66 : decode prog_7_method_8_code 66 = .ok (.getfield 24, 3) := by decide +kernel
theorem dd_41_69 : decode prog_7_method_8_code 69 = .ok (.iconst 1, 1) := by decide +kernel
theorem dd_41_70 : decode prog_7_method_8_code 70 = .ok (.iadd, 1) := by decide +kernel
theorem dd_41_71 : decode prog_7_method_8_code 71 = .ok (.putfield 24, 3) := by decide +kernel
theorem dd_41_74 : decode prog_7_method_8_code 74 = .ok (.aload_n 0, 1) := by decide +kernel
theorem dd_41_75 : decode prog_7_method_8_code 75 = .ok (.iload_n 2, 1) := by decide +kernel
theorem dd_41_76 : decode prog_7_method_8_code 76 = .ok (.invokevirtual 95, 3) := by decide +kernel
theorem dd_41_79 : decode prog_7_method_8_code 79 = .ok (.iinc 3 1, 3) := by decide +kernel
theorem dd_41_82 : decode prog_7_method_8_code 82 = .ok (.goto (-39), 3) := by decide +kernel
theorem dd_41_85 : decode prog_7_method_8_code 85 = .ok (.aload_n 0, 1) := by decide +kernel
theorem dd_41_86 : decode prog_7_method_8_code 86 = .ok (.bipush 41, 2) := by decide +kernel
theorem dd_41_88 : decode prog_7_method_8_code 88 = .ok (.invokevirtual 89, 3) := by decide +kernel
theorem dd_41_91 : decode prog_7_method_8_code 91 = .ok (.iload_n 2, 1) := by decide +kernel
theorem dd_41_92 : decode prog_7_method_8_code 92 = .ok (.ireturn, 1) := by decide +kernel
set_option maxRecDepth 100000 in
theorem okI_41 : mj_okI gG "PairMachine$Reader" prog_7_method_8_code 4 (mj_off oM_41) (Option.some Jvm.ClassFile.FieldType.int) false true 0 cM_41 :=
  ⟨Or.inl ⟨0, rfl, dd_41_0, rfl⟩,
   ⟨15, "PairMachine$Reader", fT3, 3, dd_41_1, rfl, okc_3, by decide, tw_254⟩,
   Or.inl (Or.inr (Or.inl ⟨dd_41_4, rfl, by decide⟩)),
   Or.inl (Or.inl ⟨dd_41_6, rfl⟩),
   Or.inl ⟨0, rfl, dd_41_7, rfl⟩,
   ⟨24, "PairMachine$Reader", fT3, 3, dd_41_8, rfl, okc_3, by decide, tw_259⟩,
   ⟨rfl, tw_280, by decide, tw_109, by decide +kernel, 49, tw_281, dd_41_11, tw_282, ⟨"PairMachine$Tree", fT2, 7, rfl, tw_283⟩, by decide +kernel⟩,
   ⟨by decide, Or.inl ⟨2, rfl, dd_41_14, rfl⟩⟩,
   Or.inl ⟨0, rfl, dd_41_15, rfl⟩,
   Or.inl ⟨1, rfl, dd_41_16, rfl⟩,
   ⟨rfl, tw_292, by decide, tw_122, by decide +kernel, 60, tw_293, dd_41_17, tw_294, ⟨"PairMachine$Reader", fT3, 3, rfl, tw_295⟩, by decide +kernel⟩,
   Or.inl ⟨0, rfl, dd_41_20, rfl⟩,
   ⟨9, "PairMachine$Reader", fT3, 3, dd_41_21, rfl, okc_3, by decide, tw_253⟩,
   Or.inl ⟨0, rfl, dd_41_24, rfl⟩,
   ⟨24, "PairMachine$Reader", fT3, 3, dd_41_25, rfl, okc_3, by decide, tw_259⟩,
   ⟨rfl, tw_268, by decide, tw_115, by decide +kernel, 40, tw_269, dd_41_28, tw_270, ⟨"PairMachine$Text", fT1, 2, rfl, tw_271⟩, by decide +kernel⟩,
   Or.inl (Or.inr (Or.inl ⟨dd_41_31, rfl, by decide⟩)),
   ⟨52, dd_41_33, rfl, rfl⟩,
   Or.inl ⟨0, rfl, dd_41_36, rfl⟩,
   Or.inl ⟨2, rfl, dd_41_37, rfl⟩,
   ⟨rfl, tw_330, by decide, tw_122, by decide +kernel, 95, tw_331, dd_41_38, tw_332, ⟨"PairMachine$Reader", fT3, 3, rfl, tw_333⟩, by decide +kernel⟩,
   Or.inl (Or.inl ⟨dd_41_41, rfl⟩),
   ⟨by decide, Or.inl ⟨3, rfl, dd_41_42, rfl⟩⟩,
   Or.inl ⟨3, rfl, dd_41_43, rfl⟩,
   Or.inl (Or.inl ⟨dd_41_44, rfl⟩),
   ⟨40, dd_41_45, rfl, rfl⟩,
   Or.inl ⟨0, rfl, dd_41_48, rfl⟩,
   ⟨9, "PairMachine$Reader", fT3, 3, dd_41_49, rfl, okc_3, by decide, tw_253⟩,
   Or.inl ⟨0, rfl, dd_41_52, rfl⟩,
   ⟨24, "PairMachine$Reader", fT3, 3, dd_41_53, rfl, okc_3, by decide, tw_259⟩,
   ⟨rfl, tw_268, by decide, tw_115, by decide +kernel, 40, tw_269, dd_41_56, tw_270, ⟨"PairMachine$Text", fT1, 2, rfl, tw_271⟩, by decide +kernel⟩,
   Or.inl (Or.inr (Or.inl ⟨dd_41_59, rfl, by decide⟩)),
   ⟨24, dd_41_61, rfl, rfl⟩,
   Or.inl ⟨0, rfl, dd_41_64, rfl⟩,
   ⟨dd_41_65, rfl⟩,
   ⟨24, "PairMachine$Reader", fT3, 3, dd_41_66, rfl, okc_3, by decide, tw_259⟩,
   Or.inl (Or.inl ⟨dd_41_69, rfl⟩),
   ⟨dd_41_70, rfl⟩,
   ⟨24, "PairMachine$Reader", fT3, 3, dd_41_71, rfl, okc_3, by decide, tw_259, rfl, Or.inl rfl⟩,
   Or.inl ⟨0, rfl, dd_41_74, rfl⟩,
   Or.inl ⟨2, rfl, dd_41_75, rfl⟩,
   ⟨rfl, tw_330, by decide, tw_122, by decide +kernel, 95, tw_331, dd_41_76, tw_332, ⟨"PairMachine$Reader", fT3, 3, rfl, tw_333⟩, by decide +kernel⟩,
   ⟨by decide, dd_41_79, rfl⟩,
   ⟨(-39), dd_41_82, rfl⟩,
   Or.inl ⟨0, rfl, dd_41_85, rfl⟩,
   Or.inl (Or.inr (Or.inl ⟨dd_41_86, rfl, by decide⟩)),
   ⟨rfl, tw_322, by decide, tw_122, by decide +kernel, 89, tw_323, dd_41_88, tw_324, ⟨"PairMachine$Reader", fT3, 3, rfl, tw_325⟩, by decide +kernel⟩,
   Or.inl ⟨2, rfl, dd_41_91, rfl⟩,
   ⟨dd_41_92, rfl⟩, trivial⟩
theorem okM_41 : mj_okE gG 41 (cM_41, 4, oM_41, hM_41) := ⟨rfl, rfl, by decide +kernel, trivial, okI_41⟩
theorem dd_42_0 : decode prog_7_method_9_code 0 = .ok (.aload_n 0, 1) := by decide +kernel
theorem dd_42_1 : decode prog_7_method_9_code 1 = .ok (.aload_n 0, 1) := by decide +kernel
theorem dd_42_2 : decode prog_7_method_9_code 2 = .ok (.getfield 15, 3) := by decide +kernel
theorem dd_42_5 : decode prog_7_method_9_code 5 = .ok (.iload_n 1, 1) := by decide +kernel
theorem dd_42_6 : decode prog_7_method_9_code 6 = .ok (.invokevirtual 98, 3) := by decide +kernel
theorem dd_42_9 : decode prog_7_method_9_code 9 = .ok (.invokevirtual 101, 3) := by decide +kernel
theorem dd_42_12 : decode prog_7_method_9_code 12 = .ok (.istore_n 2, 1) := by decide +kernel
theorem dd_42_13 : decode prog_7_method_9_code 13 = .ok (.aload_n 0, 1) := by decide +kernel
theorem dd_42_14 : decode prog_7_method_9_code 14 = .ok (.getfield 15, 3) := by decide +kernel
theorem dd_42_17 : decode prog_7_method_9_code 17 = .ok (.iload_n 1, 1) := by decide +kernel
theorem dd_42_18 : decode prog_7_method_9_code 18 = .ok (.aload_n 0, 1) := by decide +kernel
theorem dd_42_19 : decode prog_7_method_9_code 19 = .ok (.getfield 15, 3) := by decide +kernel
theorem dd_42_22 : decode prog_7_method_9_code 22 = .ok (.iconst 2, 1) := by decide +kernel
theorem dd_42_23 : decode prog_7_method_9_code 23 = .ok (.iload_n 2, 1) := by decide +kernel
theorem dd_42_24 : decode prog_7_method_9_code 24 = .ok (.aload_n 0, 1) := by decide +kernel
theorem dd_42_25 : decode prog_7_method_9_code 25 = .ok (.getfield 24, 3) := by decide +kernel
theorem dd_42_28 : decode prog_7_method_9_code 28 = .ok (.invokevirtual 49, 3) := by decide +kernel
theorem dd_42_31 : decode prog_7_method_9_code 31 = .ok (.invokevirtual 56, 3) := by decide +kernel
theorem dd_42_34 : decode prog_7_method_9_code 34 = .ok (.aload_n 0, 1) := by decide +kernel
theorem dd_42_35 : decode prog_7_method_9_code 35 = .ok (.dup, 1) := by decide +kernel
theorem dd_42_36 : decode prog_7_method_9_code 36 = .ok (.getfield 24, 3) := by decide +kernel
theorem dd_42_39 : decode prog_7_method_9_code 39 = .ok (.iconst 1, 1) := by decide +kernel
theorem dd_42_40 : decode prog_7_method_9_code 40 = .ok (.iadd, 1) := by decide +kernel
theorem dd_42_41 : decode prog_7_method_9_code 41 = .ok (.putfield 24, 3) := by decide +kernel
theorem dd_42_44 : decode prog_7_method_9_code 44 = .ok (.return_, 1) := by decide +kernel
set_option maxRecDepth 100000 in
theorem okI_42 : mj_okI gG "PairMachine$Reader" prog_7_method_9_code 3 (mj_off oM_42) (Option.none : Option Jvm.ClassFile.FieldType) false true 0 cM_42 :=
  ⟨Or.inl ⟨0, rfl, dd_42_0, rfl⟩,
   Or.inl ⟨0, rfl, dd_42_1, rfl⟩,
   ⟨15, "PairMachine$Reader", fT3, 3, dd_42_2, rfl, okc_3, by decide, tw_254⟩,
   Or.inl ⟨1, rfl, dd_42_5, rfl⟩,
   ⟨rfl, tw_244, by decide, tw_109, by decide +kernel, 98, tw_334, dd_42_6, tw_246, ⟨"PairMachine$Tree", fT2, 7, rfl, tw_247⟩, by decide +kernel⟩,
   ⟨rfl, tw_335, by decide, tw_122, by decide +kernel, 101, tw_336, dd_42_9, tw_337, ⟨"PairMachine$Reader", fT3, 3, rfl, tw_338⟩, by decide +kernel⟩,
   ⟨by decide, Or.inl ⟨2, rfl, dd_42_12, rfl⟩⟩,
   Or.inl ⟨0, rfl, dd_42_13, rfl⟩,
   ⟨15, "PairMachine$Reader", fT3, 3, dd_42_14, rfl, okc_3, by decide, tw_254⟩,
   Or.inl ⟨1, rfl, dd_42_17, rfl⟩,
   Or.inl ⟨0, rfl, dd_42_18, rfl⟩,
   ⟨15, "PairMachine$Reader", fT3, 3, dd_42_19, rfl, okc_3, by decide, tw_254⟩,
   Or.inl (Or.inl ⟨dd_42_22, rfl⟩),
   Or.inl ⟨2, rfl, dd_42_23, rfl⟩,
   Or.inl ⟨0, rfl, dd_42_24, rfl⟩,
   ⟨24, "PairMachine$Reader", fT3, 3, dd_42_25, rfl, okc_3, by decide, tw_259⟩,
   ⟨rfl, tw_280, by decide, tw_109, by decide +kernel, 49, tw_281, dd_42_28, tw_282, ⟨"PairMachine$Tree", fT2, 7, rfl, tw_283⟩, by decide +kernel⟩,
   ⟨rfl, tw_288, by decide, tw_109, by decide +kernel, 56, tw_289, dd_42_31, tw_290, ⟨"PairMachine$Tree", fT2, 7, rfl, tw_291⟩, by decide +kernel⟩,
   Or.inl ⟨0, rfl, dd_42_34, rfl⟩,
   ⟨dd_42_35, rfl⟩,
   ⟨24, "PairMachine$Reader", fT3, 3, dd_42_36, rfl, okc_3, by decide, tw_259⟩,
   Or.inl (Or.inl ⟨dd_42_39, rfl⟩),
   ⟨dd_42_40, rfl⟩,
   ⟨24, "PairMachine$Reader", fT3, 3, dd_42_41, rfl, okc_3, by decide, tw_259, rfl, Or.inl rfl⟩,
   ⟨dd_42_44, rfl⟩, trivial⟩
theorem okM_42 : mj_okE gG 42 (cM_42, 3, oM_42, hM_42) := ⟨rfl, rfl, by decide +kernel, trivial, okI_42⟩
theorem dd_43_0 : decode prog_7_method_10_code 0 = .ok (.iload_n 1, 1) := by decide +kernel
theorem dd_43_1 : decode prog_7_method_10_code 1 = .ok (.bipush 59, 2) := by decide +kernel
theorem dd_43_3 : decode prog_7_method_10_code 3 = .ok (.if_icmp .ne 8, 3) := by decide +kernel
theorem dd_43_6 : decode prog_7_method_10_code 6 = .ok (.bipush 9, 2) := by decide +kernel
theorem dd_43_8 : decode prog_7_method_10_code 8 = .ok (.goto 5, 3) := by decide +kernel
theorem dd_43_11 : decode prog_7_method_10_code 11 = .ok (.bipush 8, 2) := by decide +kernel
theorem dd_43_13 : decode prog_7_method_10_code 13 = .ok (.istore_n 3, 1) := by decide +kernel
theorem dd_43_14 : decode prog_7_method_10_code 14 = .ok (.aload_n 0, 1) := by decide +kernel
theorem dd_43_15 : decode prog_7_method_10_code 15 = .ok (.getfield 15, 3) := by decide +kernel
theorem dd_43_18 : decode prog_7_method_10_code 18 = .ok (.iload_n 3, 1) := by decide +kernel
theorem dd_43_19 : decode prog_7_method_10_code 19 = .ok (.iconst 0, 1) := by decide +kernel
theorem dd_43_20 : decode prog_7_method_10_code 20 = .ok (.aload_n 0, 1) := by decide +kernel
theorem dd_43_21 : decode prog_7_method_10_code 21 = .ok (.getfield 24, 3) := by decide +kernel
theorem dd_43_24 : decode prog_7_method_10_code 24 = .ok (.invokevirtual 49, 3) := by decide +kernel
theorem dd_43_27 : decode prog_7_method_10_code 27 = .ok (.istore 4, 2) := by decide +kernel
theorem dd_43_29 : decode prog_7_method_10_code 29 = .ok (.aload_n 0, 1) := by decide +kernel
theorem dd_43_30 : decode prog_7_method_10_code 30 = .ok (.dup, 1) := by decide +kernel
theorem dd_43_31 : decode prog_7_method_10_code 31 = .ok (.getfield 24, 3) := by decide +kernel
theorem dd_43_34 : decode prog_7_method_10_code 34 = .ok (.iconst 1, 1) := by decide +kernel
theorem dd_43_35 : decode prog_7_method_10_code 35 = .ok (.iadd, 1) := by decide +kernel
theorem dd_43_36 : decode prog_7_method_10_code 36 = .ok (.putfield 24, 3) := by decide +kernel
theorem dd_43_39 : decode prog_7_method_10_code 39 = .ok (.aload_n 0, 1) := by decide +kernel
theorem dd_43_40 : decode prog_7_method_10_code 40 = .ok (.bipush 32, 2) := by decide +kernel
theorem dd_43_42 : decode prog_7_method_10_code 42 = .ok (.invokevirtual 89, 3) := by decide +kernel
theorem dd_43_45 : decode prog_7_method_10_code 45 = .ok (.aload_n 0, 1) := by decide +kernel
theorem dd_43_46 : decode prog_7_method_10_code 46 = .ok (.getfield 15, 3) := by decide +kernel
theorem dd_43_49 : decode prog_7_method_10_code 49 = .ok (.iload 4, 2) := by decide +kernel
theorem dd_43_51 : decode prog_7_method_10_code 51 = .ok (.aload_n 0, 1) := by decide +kernel
theorem dd_43_52 : decode prog_7_method_10_code 52 = .ok (.iload_n 2, 1) := by decide +kernel
theorem dd_43_53 : decode prog_7_method_10_code 53 = .ok (.invokevirtual 28, 3) := by decide +kernel
theorem dd_43_56 : decode prog_7_method_10_code 56 = .ok (.invokevirtual 56, 3) := by decide +kernel
theorem dd_43_59 : decode prog_7_method_10_code 59 = .ok (.aload_n 0, 1) := by decide +kernel
theorem dd_43_60 : decode prog_7_method_10_code 60 = .ok (.bipush 32, 2) := by decide +kernel
theorem dd_43_62 : decode prog_7_method_10_code 62 = .ok (.invokevirtual 89, 3) := by decide +kernel
theorem dd_43_65 : decode prog_7_method_10_code 65 = .ok (.aload_n 0, 1) := by decide +kernel
theorem dd_43_66 : decode prog_7_method_10_code 66 = .ok (.iload 4, 2) := by decide +kernel
theorem dd_43_68 : decode prog_7_method_10_code 68 = .ok (.iload_n 2, 1) := by decide +kernel
theorem dd_43_69 : decode prog_7_method_10_code 69 = .ok (.invokevirtual 104, 3) := by decide +kernel
theorem dd_43_72 : decode prog_7_method_10_code 72 = .ok (.iconst 1, 1) := by decide +kernel
theorem dd_43_73 : decode prog_7_method_10_code 73 = .ok (.istore 5, 2) := by decide +kernel
theorem dd_43_75 : decode prog_7_method_10_code 75 = .ok (.iload 5, 2) := by decide +kernel
theorem dd_43_77 : decode prog_7_method_10_code 77 = .ok (.iconst 3, 1) := by decide +kernel
theorem dd_43_78 : decode prog_7_method_10_code 78 = .ok (.if_icmp .ge 42, 3) := by decide +kernel
theorem dd_43_81 : decode prog_7_method_10_code 81 = .ok (.aload_n 0, 1) := by decide +kernel
theorem dd_43_82 : decode prog_7_method_10_code 82 = .ok (.getfield 9, 3) := by decide +kernel
theorem dd_43_85 : decode prog_7_method_10_code 85 = .ok (.aload_n 0, 1) := by decide +kernel
theorem dd_43_86 : decode prog_7_method_10_code 86 = .ok (.getfield 24, 3) := by decide +kernel
theorem dd_43_89 : decode prog_7_method_10_code 89 = .ok (.invokevirtual 40, 3) := by decide +kernel
theorem dd_43_92 : decode prog_7_method_10_code 92 = .ok (.bipush 32, 2) := by decide +kernel
theorem dd_43_94 : decode prog_7_method_10_code 94 = .ok (.if_icmp .ne 26, 3) := by decide +kernel
theorem dd_43_97 : decode prog_7_method_10_code 97 = .ok (.aload_n 0, 1) := by decide +kernel
theorem dd_43_98 : decode prog_7_method_10_code 98 = .ok (.dup, 1) := by decide +kernel
theorem dd_43_99 : decode prog_7_method_10_code 99 = .ok (.getfield 24, 3) := by decide +kernel
theorem dd_43_102 : decode prog_7_method_10_code 102 = .ok (.iconst 1, 1) := by decide +kernel
theorem dd_43_103 : decode prog_7_method_10_code 103 = .ok (.iadd, 1) := by decide +kernel
theorem dd_43_104 : decode prog_7_method_10_code 104 = .ok (.putfield 24, 3) := by decide +kernel
theorem dd_43_107 : decode prog_7_method_10_code 107 = .ok (.aload_n 0, 1) := by decide +kernel
theorem dd_43_108 : decode prog_7_method_10_code 108 = .ok (.iload 4, 2) := by decide +kernel
theorem dd_43_110 : decode prog_7_method_10_code 110 = .ok (.iload_n 2, 1) := by decide +kernel
theorem dd_43_111 : decode prog_7_method_10_code 111 = .ok (.invokevirtual 104, 3) := by decide +kernel
theorem dd_43_114 : decode prog_7_method_10_code 114 = .ok (.iinc 5 1, 3) := by decide +kernel
theorem dd_43_117 : decode prog_7_method_10_code 117 = .ok (.goto (-42), 3) := by decide +kernel
theorem dd_43_120 : decode prog_7_method_10_code 120 = .ok (.aload_n 0, 1) := by decide +kernel
theorem dd_43_121 : decode prog_7_method_10_code 121 = .ok (.bipush 41, 2) := by decide +kernel
theorem dd_43_123 : decode prog_7_method_10_code 123 = .ok (.invokevirtual 89, 3) := by decide +kernel
theorem dd_43_126 : decode prog_7_method_10_code 126 = .ok (.iload 4, 2) := by decide +kernel
theorem dd_43_128 : decode prog_7_method_10_code 128 = .ok (.ireturn, 1) := by decide +kernel
set_option maxRecDepth 100000 in
theorem okI_43 : mj_okI gG "PairMachine$Reader" prog_7_method_10_code 6 (mj_off oM_43) (Option.some Jvm.ClassFile.FieldType.int) false true 0 cM_43 :=
  ⟨Or.inl ⟨1, rfl, dd_43_0, rfl⟩,
   Or.inl (Or.inr (Or.inl ⟨dd_43_1, rfl, by decide⟩)),
   ⟨8, dd_43_3, rfl, rfl⟩,
   Or.inl (Or.inr (Or.inl ⟨dd_43_6, rfl, by decide⟩)),
   ⟨5, dd_43_8, rfl⟩,
   Or.inl (Or.inr (Or.inl ⟨dd_43_11, rfl, by decide⟩)),
   ⟨by decide, Or.inl ⟨3, rfl, dd_43_13, rfl⟩⟩,
   Or.inl ⟨0, rfl, dd_43_14, rfl⟩,
   ⟨15, "PairMachine$Reader", fT3, 3, dd_43_15, rfl, okc_3, by decide, tw_254⟩,
   Or.inl ⟨3, rfl, dd_43_18, rfl⟩,
   Or.inl (Or.inl ⟨dd_43_19, rfl⟩),
   Or.inl ⟨0, rfl, dd_43_20, rfl⟩,
   ⟨24, "PairMachine$Reader", fT3, 3, dd_43_21, rfl, okc_3, by decide, tw_259⟩,
   ⟨rfl, tw_280, by decide, tw_109, by decide +kernel, 49, tw_281, dd_43_24, tw_282, ⟨"PairMachine$Tree", fT2, 7, rfl, tw_283⟩, by decide +kernel⟩,
   ⟨by decide, Or.inr ⟨dd_43_27, rfl⟩⟩,
   Or.inl ⟨0, rfl, dd_43_29, rfl⟩,
   ⟨dd_43_30, rfl⟩,
   ⟨24, "PairMachine$Reader", fT3, 3, dd_43_31, rfl, okc_3, by decide, tw_259⟩,
   Or.inl (Or.inl ⟨dd_43_34, rfl⟩),
   ⟨dd_43_35, rfl⟩,
   ⟨24, "PairMachine$Reader", fT3, 3, dd_43_36, rfl, okc_3, by decide, tw_259, rfl, Or.inl rfl⟩,
   Or.inl ⟨0, rfl, dd_43_39, rfl⟩,
   Or.inl (Or.inr (Or.inl ⟨dd_43_40, rfl, by decide⟩)),
   ⟨rfl, tw_322, by decide, tw_122, by decide +kernel, 89, tw_323, dd_43_42, tw_324, ⟨"PairMachine$Reader", fT3, 3, rfl, tw_325⟩, by decide +kernel⟩,
   Or.inl ⟨0, rfl, dd_43_45, rfl⟩,
   ⟨15, "PairMachine$Reader", fT3, 3, dd_43_46, rfl, okc_3, by decide, tw_254⟩,
   Or.inr ⟨dd_43_49, rfl⟩,
   Or.inl ⟨0, rfl, dd_43_51, rfl⟩,
   Or.inl ⟨2, rfl, dd_43_52, rfl⟩,
   ⟨rfl, tw_260, by decide, tw_122, by decide +kernel, 28, tw_261, dd_43_53, tw_262, ⟨"PairMachine$Reader", fT3, 3, rfl, tw_263⟩, by decide +kernel⟩,
   ⟨rfl, tw_288, by decide, tw_109, by decide +kernel, 56, tw_289, dd_43_56, tw_290, ⟨"PairMachine$Tree", fT2, 7, rfl, tw_291⟩, by decide +kernel⟩,
   Or.inl ⟨0, rfl, dd_43_59, rfl⟩,
   Or.inl (Or.inr (Or.inl ⟨dd_43_60, rfl, by decide⟩)),
   ⟨rfl, tw_322, by decide, tw_122, by decide +kernel, 89, tw_323, dd_43_62, tw_324, ⟨"PairMachine$Reader", fT3, 3, rfl, tw_325⟩, by decide +kernel⟩,
   Or.inl ⟨0, rfl, dd_43_65, rfl⟩,
   Or.inr ⟨dd_43_66, rfl⟩,
   Or.inl ⟨2, rfl, dd_43_68, rfl⟩,
   ⟨rfl, tw_339, by decide, tw_122, by decide +kernel, 104, tw_340, dd_43_69, tw_341, ⟨"PairMachine$Reader", fT3, 3, rfl, tw_342⟩, by decide +kernel⟩,
   Or.inl (Or.inl ⟨dd_43_72, rfl⟩),
   ⟨by decide, Or.inr ⟨dd_43_73, rfl⟩⟩,
   Or.inr ⟨dd_43_75, rfl⟩,
   Or.inl (Or.inl ⟨dd_43_77, rfl⟩),
   ⟨42, dd_43_78, rfl, rfl⟩,
   Or.inl ⟨0, rfl, dd_43_81, rfl⟩,
   ⟨9, "PairMachine$Reader", fT3, 3, dd_43_82, rfl, okc_3, by decide, tw_253⟩,
   Or.inl ⟨0, rfl, dd_43_85, rfl⟩,
   ⟨24, "PairMachine$Reader", fT3, 3, dd_43_86, rfl, okc_3, by decide, tw_259⟩,
   ⟨rfl, tw_268, by decide, tw_115, by decide +kernel, 40, tw_269, dd_43_89, tw_270, ⟨"PairMachine$Text", fT1, 2, rfl, tw_271⟩, by decide +kernel⟩,
   Or.inl (Or.inr (Or.inl ⟨dd_43_92, rfl, by decide⟩)),
   ⟨26, dd_43_94, rfl, rfl⟩,
   Or.inl ⟨0, rfl, dd_43_97, rfl⟩,
   ⟨dd_43_98, rfl⟩,
   ⟨24, "PairMachine$Reader", fT3, 3, dd_43_99, rfl, okc_3, by decide, tw_259⟩,
   Or.inl (Or.inl ⟨dd_43_102, rfl⟩),
   ⟨dd_43_103, rfl⟩,
   ⟨24, "PairMachine$Reader", fT3, 3, dd_43_104, rfl, okc_3, by decide, tw_259, rfl, Or.inl rfl⟩,
   Or.inl ⟨0, rfl, dd_43_107, rfl⟩,
   Or.inr ⟨dd_43_108, rfl⟩,
   Or.inl ⟨2, rfl, dd_43_110, rfl⟩,
   ⟨rfl, tw_339, by decide, tw_122, by decide +kernel, 104, tw_340, dd_43_111, tw_341, ⟨"PairMachine$Reader", fT3, 3, rfl, tw_342⟩, by decide +kernel⟩,
   ⟨by decide, dd_43_114, rfl⟩,
   ⟨(-42), dd_43_117, rfl⟩,
   Or.inl ⟨0, rfl, dd_43_120, rfl⟩,
   Or.inl (Or.inr (Or.inl ⟨dd_43_121, rfl, by decide⟩)),
   ⟨rfl, tw_322, by decide, tw_122, by decide +kernel, 89, tw_323, dd_43_123, tw_324, ⟨"PairMachine$Reader", fT3, 3, rfl, tw_325⟩, by decide +kernel⟩,
   Or.inr ⟨dd_43_126, rfl⟩,
   ⟨dd_43_128, rfl⟩, trivial⟩
theorem okM_43 : mj_okE gG 43 (cM_43, 6, oM_43, hM_43) := ⟨rfl, rfl, by decide +kernel, trivial, okI_43⟩
end
