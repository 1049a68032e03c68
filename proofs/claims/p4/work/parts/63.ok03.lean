section
theorem dd_44_0 : decode prog_7_method_11_code 0 = .ok (.aload_n 0, 1) := by decide +kernel
theorem dd_44_1 : decode prog_7_method_11_code 1 = .ok (.iload_n 2, 1) := by decide +kernel
theorem dd_44_2 : decode prog_7_method_11_code 2 = .ok (.invokevirtual 60, 3) := by decide +kernel
theorem dd_44_5 : decode prog_7_method_11_code 5 = .ok (.aload_n 0, 1) := by decide +kernel
theorem dd_44_6 : decode prog_7_method_11_code 6 = .ok (.aload_n 0, 1) := by decide +kernel
theorem dd_44_7 : decode prog_7_method_11_code 7 = .ok (.getfield 15, 3) := by decide +kernel
theorem dd_44_10 : decode prog_7_method_11_code 10 = .ok (.iload_n 1, 1) := by decide +kernel
theorem dd_44_11 : decode prog_7_method_11_code 11 = .ok (.iconst 1, 1) := by decide +kernel
theorem dd_44_12 : decode prog_7_method_11_code 12 = .ok (.invokevirtual 107, 3) := by decide +kernel
theorem dd_44_15 : decode prog_7_method_11_code 15 = .ok (.invokevirtual 101, 3) := by decide +kernel
theorem dd_44_18 : decode prog_7_method_11_code 18 = .ok (.istore_n 3, 1) := by decide +kernel
theorem dd_44_19 : decode prog_7_method_11_code 19 = .ok (.aload_n 0, 1) := by decide +kernel
theorem dd_44_20 : decode prog_7_method_11_code 20 = .ok (.getfield 15, 3) := by decide +kernel
theorem dd_44_23 : decode prog_7_method_11_code 23 = .ok (.bipush 10, 2) := by decide +kernel
theorem dd_44_25 : decode prog_7_method_11_code 25 = .ok (.iload_n 3, 1) := by decide +kernel
theorem dd_44_26 : decode prog_7_method_11_code 26 = .ok (.aload_n 0, 1) := by decide +kernel
theorem dd_44_27 : decode prog_7_method_11_code 27 = .ok (.getfield 24, 3) := by decide +kernel
theorem dd_44_30 : decode prog_7_method_11_code 30 = .ok (.invokevirtual 49, 3) := by decide +kernel
theorem dd_44_33 : decode prog_7_method_11_code 33 = .ok (.istore 4, 2) := by decide +kernel
theorem dd_44_35 : decode prog_7_method_11_code 35 = .ok (.aload_n 0, 1) := by decide +kernel
theorem dd_44_36 : decode prog_7_method_11_code 36 = .ok (.dup, 1) := by decide +kernel
theorem dd_44_37 : decode prog_7_method_11_code 37 = .ok (.getfield 24, 3) := by decide +kernel
theorem dd_44_40 : decode prog_7_method_11_code 40 = .ok (.iconst 1, 1) := by decide +kernel
theorem dd_44_41 : decode prog_7_method_11_code 41 = .ok (.iadd, 1) := by decide +kernel
theorem dd_44_42 : decode prog_7_method_11_code 42 = .ok (.putfield 24, 3) := by decide +kernel
theorem dd_44_45 : decode prog_7_method_11_code 45 = .ok (.aload_n 0, 1) := by decide +kernel
theorem dd_44_46 : decode prog_7_method_11_code 46 = .ok (.bipush 32, 2) := by decide +kernel
theorem dd_44_48 : decode prog_7_method_11_code 48 = .ok (.invokevirtual 89, 3) := by decide +kernel
theorem dd_44_51 : decode prog_7_method_11_code 51 = .ok (.aload_n 0, 1) := by decide +kernel
theorem dd_44_52 : decode prog_7_method_11_code 52 = .ok (.getfield 15, 3) := by decide +kernel
theorem dd_44_55 : decode prog_7_method_11_code 55 = .ok (.iload_n 1, 1) := by decide +kernel
theorem dd_44_56 : decode prog_7_method_11_code 56 = .ok (.invokevirtual 110, 3) := by decide +kernel
theorem dd_44_59 : decode prog_7_method_11_code 59 = .ok (.bipush 9, 2) := by decide +kernel
theorem dd_44_61 : decode prog_7_method_11_code 61 = .ok (.if_icmp .ne 29, 3) := by decide +kernel
theorem dd_44_64 : decode prog_7_method_11_code 64 = .ok (.aload_n 0, 1) := by decide +kernel
theorem dd_44_65 : decode prog_7_method_11_code 65 = .ok (.iload_n 2, 1) := by decide +kernel
theorem dd_44_66 : decode prog_7_method_11_code 66 = .ok (.iconst 1, 1) := by decide +kernel
theorem dd_44_67 : decode prog_7_method_11_code 67 = .ok (.iadd, 1) := by decide +kernel
theorem dd_44_68 : decode prog_7_method_11_code 68 = .ok (.invokevirtual 60, 3) := by decide +kernel
theorem dd_44_71 : decode prog_7_method_11_code 71 = .ok (.aload_n 0, 1) := by decide +kernel
theorem dd_44_72 : decode prog_7_method_11_code 72 = .ok (.getfield 15, 3) := by decide +kernel
theorem dd_44_75 : decode prog_7_method_11_code 75 = .ok (.iload 4, 2) := by decide +kernel
theorem dd_44_77 : decode prog_7_method_11_code 77 = .ok (.aload_n 0, 1) := by decide +kernel
theorem dd_44_78 : decode prog_7_method_11_code 78 = .ok (.iload_n 2, 1) := by decide +kernel
theorem dd_44_79 : decode prog_7_method_11_code 79 = .ok (.iconst 2, 1) := by decide +kernel
theorem dd_44_80 : decode prog_7_method_11_code 80 = .ok (.iadd, 1) := by decide +kernel
theorem dd_44_81 : decode prog_7_method_11_code 81 = .ok (.invokevirtual 64, 3) := by decide +kernel
theorem dd_44_84 : decode prog_7_method_11_code 84 = .ok (.invokevirtual 56, 3) := by decide +kernel
theorem dd_44_87 : decode prog_7_method_11_code 87 = .ok (.goto 19, 3) := by decide +kernel
theorem dd_44_90 : decode prog_7_method_11_code 90 = .ok (.aload_n 0, 1) := by decide +kernel
theorem dd_44_91 : decode prog_7_method_11_code 91 = .ok (.getfield 15, 3) := by decide +kernel
theorem dd_44_94 : decode prog_7_method_11_code 94 = .ok (.iload 4, 2) := by decide +kernel
theorem dd_44_96 : decode prog_7_method_11_code 96 = .ok (.aload_n 0, 1) := by decide +kernel
theorem dd_44_97 : decode prog_7_method_11_code 97 = .ok (.iload_n 2, 1) := by decide +kernel
theorem dd_44_98 : decode prog_7_method_11_code 98 = .ok (.iconst 1, 1) := by decide +kernel
theorem dd_44_99 : decode prog_7_method_11_code 99 = .ok (.iadd, 1) := by decide +kernel
theorem dd_44_100 : decode prog_7_method_11_code 100 = .ok (.invokevirtual 28, 3) := by decide +kernel
theorem dd_44_103 : decode prog_7_method_11_code 103 = .ok (.invokevirtual 56, 3) := by decide +kernel
theorem dd_44_106 : decode prog_7_method_11_code 106 = .ok (.aload_n 0, 1) := by decide +kernel
theorem dd_44_107 : decode prog_7_method_11_code 107 = .ok (.bipush 41, 2) := by decide +kernel
theorem dd_44_109 : decode prog_7_method_11_code 109 = .ok (.invokevirtual 89, 3) := by decide +kernel
theorem dd_44_112 : decode prog_7_method_11_code 112 = .ok (.aload_n 0, 1) := by decide +kernel
theorem dd_44_113 : decode prog_7_method_11_code 113 = .ok (.getfield 15, 3) := by decide +kernel
theorem dd_44_116 : decode prog_7_method_11_code 116 = .ok (.iload_n 1, 1) := by decide +kernel
theorem dd_44_117 : decode prog_7_method_11_code 117 = .ok (.iload 4, 2) := by decide +kernel
theorem dd_44_119 : decode prog_7_method_11_code 119 = .ok (.invokevirtual 56, 3) := by decide +kernel
theorem dd_44_122 : decode prog_7_method_11_code 122 = .ok (.return_, 1) := by decide +kernel
set_option maxRecDepth 100000 in
theorem okI_44 : mj_okI gG "PairMachine$Reader" prog_7_method_11_code 5 (mj_off oM_44) (Option.none : Option Jvm.ClassFile.FieldType) false true 0 cM_44 :=
  ⟨Or.inl ⟨0, rfl, dd_44_0, rfl⟩,
   Or.inl ⟨2, rfl, dd_44_1, rfl⟩,
   ⟨rfl, tw_292, by decide, tw_122, by decide +kernel, 60, tw_293, dd_44_2, tw_294, ⟨"PairMachine$Reader", fT3, 3, rfl, tw_295⟩, by decide +kernel⟩,
   Or.inl ⟨0, rfl, dd_44_5, rfl⟩,
   Or.inl ⟨0, rfl, dd_44_6, rfl⟩,
   ⟨15, "PairMachine$Reader", fT3, 3, dd_44_7, rfl, okc_3, by decide, tw_254⟩,
   Or.inl ⟨1, rfl, dd_44_10, rfl⟩,
   Or.inl (Or.inl ⟨dd_44_11, rfl⟩),
   ⟨rfl, tw_343, by decide, tw_109, by decide +kernel, 107, tw_344, dd_44_12, tw_345, ⟨"PairMachine$Tree", fT2, 7, rfl, tw_346⟩, by decide +kernel⟩,
   ⟨rfl, tw_335, by decide, tw_122, by decide +kernel, 101, tw_336, dd_44_15, tw_337, ⟨"PairMachine$Reader", fT3, 3, rfl, tw_338⟩, by decide +kernel⟩,
   ⟨by decide, Or.inl ⟨3, rfl, dd_44_18, rfl⟩⟩,
   Or.inl ⟨0, rfl, dd_44_19, rfl⟩,
   ⟨15, "PairMachine$Reader", fT3, 3, dd_44_20, rfl, okc_3, by decide, tw_254⟩,
   Or.inl (Or.inr (Or.inl ⟨dd_44_23, rfl, by decide⟩)),
   Or.inl ⟨3, rfl, dd_44_25, rfl⟩,
   Or.inl ⟨0, rfl, dd_44_26, rfl⟩,
   ⟨24, "PairMachine$Reader", fT3, 3, dd_44_27, rfl, okc_3, by decide, tw_259⟩,
   ⟨rfl, tw_280, by decide, tw_109, by decide +kernel, 49, tw_281, dd_44_30, tw_282, ⟨"PairMachine$Tree", fT2, 7, rfl, tw_283⟩, by decide +kernel⟩,
   ⟨by decide, Or.inr ⟨dd_44_33, rfl⟩⟩,
   Or.inl ⟨0, rfl, dd_44_35, rfl⟩,
   ⟨dd_44_36, rfl⟩,
   ⟨24, "PairMachine$Reader", fT3, 3, dd_44_37, rfl, okc_3, by decide, tw_259⟩,
   Or.inl (Or.inl ⟨dd_44_40, rfl⟩),
   ⟨dd_44_41, rfl⟩,
   ⟨24, "PairMachine$Reader", fT3, 3, dd_44_42, rfl, okc_3, by decide, tw_259, rfl, Or.inl rfl⟩,
   Or.inl ⟨0, rfl, dd_44_45, rfl⟩,
   Or.inl (Or.inr (Or.inl ⟨dd_44_46, rfl, by decide⟩)),
   ⟨rfl, tw_322, by decide, tw_122, by decide +kernel, 89, tw_323, dd_44_48, tw_324, ⟨"PairMachine$Reader", fT3, 3, rfl, tw_325⟩, by decide +kernel⟩,
   Or.inl ⟨0, rfl, dd_44_51, rfl⟩,
   ⟨15, "PairMachine$Reader", fT3, 3, dd_44_52, rfl, okc_3, by decide, tw_254⟩,
   Or.inl ⟨1, rfl, dd_44_55, rfl⟩,
   ⟨rfl, tw_347, by decide, tw_109, by decide +kernel, 110, tw_348, dd_44_56, tw_349, ⟨"PairMachine$Tree", fT2, 7, rfl, tw_350⟩, by decide +kernel⟩,
   Or.inl (Or.inr (Or.inl ⟨dd_44_59, rfl, by decide⟩)),
   ⟨29, dd_44_61, rfl, rfl⟩,
   Or.inl ⟨0, rfl, dd_44_64, rfl⟩,
   Or.inl ⟨2, rfl, dd_44_65, rfl⟩,
   Or.inl (Or.inl ⟨dd_44_66, rfl⟩),
   ⟨dd_44_67, rfl⟩,
   ⟨rfl, tw_292, by decide, tw_122, by decide +kernel, 60, tw_293, dd_44_68, tw_294, ⟨"PairMachine$Reader", fT3, 3, rfl, tw_295⟩, by decide +kernel⟩,
   Or.inl ⟨0, rfl, dd_44_71, rfl⟩,
   ⟨15, "PairMachine$Reader", fT3, 3, dd_44_72, rfl, okc_3, by decide, tw_254⟩,
   Or.inr ⟨dd_44_75, rfl⟩,
   Or.inl ⟨0, rfl, dd_44_77, rfl⟩,
   Or.inl ⟨2, rfl, dd_44_78, rfl⟩,
   Or.inl (Or.inl ⟨dd_44_79, rfl⟩),
   ⟨dd_44_80, rfl⟩,
   ⟨rfl, tw_296, by decide, tw_122, by decide +kernel, 64, tw_297, dd_44_81, tw_298, ⟨"PairMachine$Reader", fT3, 3, rfl, tw_299⟩, by decide +kernel⟩,
   ⟨rfl, tw_288, by decide, tw_109, by decide +kernel, 56, tw_289, dd_44_84, tw_290, ⟨"PairMachine$Tree", fT2, 7, rfl, tw_291⟩, by decide +kernel⟩,
   ⟨19, dd_44_87, rfl⟩,
   Or.inl ⟨0, rfl, dd_44_90, rfl⟩,
   ⟨15, "PairMachine$Reader", fT3, 3, dd_44_91, rfl, okc_3, by decide, tw_254⟩,
   Or.inr ⟨dd_44_94, rfl⟩,
   Or.inl ⟨0, rfl, dd_44_96, rfl⟩,
   Or.inl ⟨2, rfl, dd_44_97, rfl⟩,
   Or.inl (Or.inl ⟨dd_44_98, rfl⟩),
   ⟨dd_44_99, rfl⟩,
   ⟨rfl, tw_260, by decide, tw_122, by decide +kernel, 28, tw_261, dd_44_100, tw_262, ⟨"PairMachine$Reader", fT3, 3, rfl, tw_263⟩, by decide +kernel⟩,
   ⟨rfl, tw_288, by decide, tw_109, by decide +kernel, 56, tw_289, dd_44_103, tw_290, ⟨"PairMachine$Tree", fT2, 7, rfl, tw_291⟩, by decide +kernel⟩,
   Or.inl ⟨0, rfl, dd_44_106, rfl⟩,
   Or.inl (Or.inr (Or.inl ⟨dd_44_107, rfl, by decide⟩)),
   ⟨rfl, tw_322, by decide, tw_122, by decide +kernel, 89, tw_323, dd_44_109, tw_324, ⟨"PairMachine$Reader", fT3, 3, rfl, tw_325⟩, by decide +kernel⟩,
   Or.inl ⟨0, rfl, dd_44_112, rfl⟩,
   ⟨15, "PairMachine$Reader", fT3, 3, dd_44_113, rfl, okc_3, by decide, tw_254⟩,
   Or.inl ⟨1, rfl, dd_44_116, rfl⟩,
   Or.inr ⟨dd_44_117, rfl⟩,
   ⟨rfl, tw_288, by decide, tw_109, by decide +kernel, 56, tw_289, dd_44_119, tw_290, ⟨"PairMachine$Tree", fT2, 7, rfl, tw_291⟩, by decide +kernel⟩,
   ⟨dd_44_122, rfl⟩, trivial⟩
theorem okM_44 : mj_okE gG 44 (cM_44, 5, oM_44, hM_44) := ⟨rfl, rfl, by decide +kernel, trivial, okI_44⟩
theorem dd_45_0 : decode prog_7_method_12_code 0 = .ok (.aload_n 0, 1) := by decide +kernel
theorem dd_45_1 : decode prog_7_method_12_code 1 = .ok (.getfield 9, 3) := by decide +kernel
theorem dd_45_4 : decode prog_7_method_12_code 4 = .ok (.aload_n 0, 1) := by decide +kernel
theorem dd_45_5 : decode prog_7_method_12_code 5 = .ok (.getfield 24, 3) := by decide +kernel
theorem dd_45_8 : decode prog_7_method_12_code 8 = .ok (.invokevirtual 40, 3) := by decide +kernel
theorem dd_45_11 : decode prog_7_method_12_code 11 = .ok (.bipush 40, 2) := by decide +kernel
theorem dd_45_13 : decode prog_7_method_12_code 13 = .ok (.if_icmp .eq 8, 3) := by decide +kernel
theorem dd_45_16 : decode prog_7_method_12_code 16 = .ok (.aload_n 0, 1) := by decide +kernel
theorem dd_45_17 : decode prog_7_method_12_code 17 = .ok (.invokevirtual 46, 3) := by decide +kernel
theorem dd_45_20 : decode prog_7_method_12_code 20 = .ok (.ireturn, 1) := by decide +kernel
theorem dd_45_21 : decode prog_7_method_12_code 21 = .ok (.aload_n 0, 1) := by decide +kernel
theorem dd_45_22 : decode prog_7_method_12_code 22 = .ok (.getfield 15, 3) := by decide +kernel
theorem dd_45_25 : decode prog_7_method_12_code 25 = .ok (.iconst 3, 1) := by decide +kernel
theorem dd_45_26 : decode prog_7_method_12_code 26 = .ok (.iconst 0, 1) := by decide +kernel
theorem dd_45_27 : decode prog_7_method_12_code 27 = .ok (.aload_n 0, 1) := by decide +kernel
theorem dd_45_28 : decode prog_7_method_12_code 28 = .ok (.getfield 24, 3) := by decide +kernel
theorem dd_45_31 : decode prog_7_method_12_code 31 = .ok (.invokevirtual 49, 3) := by decide +kernel
theorem dd_45_34 : decode prog_7_method_12_code 34 = .ok (.istore_n 2, 1) := by decide +kernel
theorem dd_45_35 : decode prog_7_method_12_code 35 = .ok (.aload_n 0, 1) := by decide +kernel
theorem dd_45_36 : decode prog_7_method_12_code 36 = .ok (.iload_n 1, 1) := by decide +kernel
theorem dd_45_37 : decode prog_7_method_12_code 37 = .ok (.invokevirtual 60, 3) := by decide +kernel
theorem dd_45_40 : decode prog_7_method_12_code 40 = .ok (.aload_n 0, 1) := by decide +kernel
theorem dd_45_41 : decode prog_7_method_12_code 41 = .ok (.getfield 9, 3) := by decide +kernel
theorem dd_45_44 : decode prog_7_method_12_code 44 = .ok (.aload_n 0, 1) := by decide +kernel
theorem dd_45_45 : decode prog_7_method_12_code 45 = .ok (.getfield 24, 3) := by decide +kernel
theorem dd_45_48 : decode prog_7_method_12_code 48 = .ok (.invokevirtual 40, 3) := by decide +kernel
theorem dd_45_51 : decode prog_7_method_12_code 51 = .ok (.bipush 41, 2) := by decide +kernel
theorem dd_45_53 : decode prog_7_method_12_code 53 = .ok (.if_icmp .eq 73, 3) := by decide +kernel
theorem dd_45_56 : decode prog_7_method_12_code 56 = .ok (.aload_n 0, 1) := by decide +kernel
theorem dd_45_57 : decode prog_7_method_12_code 57 = .ok (.getfield 15, 3) := by decide +kernel
theorem dd_45_60 : decode prog_7_method_12_code 60 = .ok (.iload_n 2, 1) := by decide +kernel
theorem dd_45_61 : decode prog_7_method_12_code 61 = .ok (.aload_n 0, 1) := by decide +kernel
theorem dd_45_62 : decode prog_7_method_12_code 62 = .ok (.iload_n 1, 1) := by decide +kernel
theorem dd_45_63 : decode prog_7_method_12_code 63 = .ok (.iconst 1, 1) := by decide +kernel
theorem dd_45_64 : decode prog_7_method_12_code 64 = .ok (.iadd, 1) := by decide +kernel
theorem dd_45_65 : decode prog_7_method_12_code 65 = .ok (.invokevirtual 53, 3) := by decide +kernel
theorem dd_45_68 : decode prog_7_method_12_code 68 = .ok (.invokevirtual 56, 3) := by decide +kernel
theorem dd_45_71 : decode prog_7_method_12_code 71 = .ok (.iconst 1, 1) := by decide +kernel
theorem dd_45_72 : decode prog_7_method_12_code 72 = .ok (.istore_n 3, 1) := by decide +kernel
theorem dd_45_73 : decode prog_7_method_12_code 73 = .ok (.iload_n 3, 1) := by decide +kernel
theorem dd_45_74 : decode prog_7_method_12_code 74 = .ok (.bipush 96, 2) := by decide +kernel
theorem dd_45_76 : decode prog_7_method_12_code 76 = .ok (.if_icmp .ge 50, 3) := by decide +kernel
theorem dd_45_79 : decode prog_7_method_12_code 79 = .ok (.aload_n 0, 1) := by decide +kernel
theorem dd_45_80 : decode prog_7_method_12_code 80 = .ok (.getfield 9, 3) := by decide +kernel
theorem dd_45_83 : decode prog_7_method_12_code 83 = .ok (.aload_n 0, 1) := by decide +kernel
theorem dd_45_84 : decode prog_7_method_12_code 84 = .ok (.getfield 24, 3) := by decide +kernel
theorem dd_45_87 : decode prog_7_method_12_code 87 = .ok (.invokevirtual 40, 3) := by decide +kernel
theorem dd_45_90 : decode prog_7_method_12_code 90 = .ok (.bipush 32, 2) := by decide +kernel
theorem dd_45_92 : decode prog_7_method_12_code 92 = .ok (.if_icmp .ne 34, 3) := by decide +kernel
theorem dd_45_95 : decode prog_7_method_12_code 95 = .ok (.aload_n 0, 1) := by decide +kernel
theorem dd_45_96 : decode prog_7_method_12_code 96 = .ok (.dup, 1) := by decide +kernel
theorem dd_45_97 : decode prog_7_method_12_code 97 = .ok (.getfield 24, 3) := by decide +kernel
theorem dd_45_100 : decode prog_7_method_12_code 100 = .ok (.iconst 1, 1) := by decide +kernel
theorem dd_45_101 : decode prog_7_method_12_code 101 = .ok (.iadd, 1) := by decide +kernel
theorem dd_45_102 : decode prog_7_method_12_code 102 = .ok (.putfield 24, 3) := by decide +kernel
theorem dd_45_105 : decode prog_7_method_12_code 105 = .ok (.aload_n 0, 1) := by decide +kernel
theorem dd_45_106 : decode prog_7_method_12_code 106 = .ok (.getfield 15, 3) := by decide +kernel
theorem dd_45_109 : decode prog_7_method_12_code 109 = .ok (.iload_n 2, 1) := by decide +kernel
theorem dd_45_110 : decode prog_7_method_12_code 110 = .ok (.aload_n 0, 1) := by decide +kernel
theorem dd_45_111 : decode prog_7_method_12_code 111 = .ok (.iload_n 1, 1) := by decide +kernel
theorem dd_45_112 : decode prog_7_method_12_code 112 = .ok (.iconst 1, 1) := by decide +kernel
theorem dd_45_113 : decode prog_7_method_12_code 113 = .ok (.iadd, 1) := by decide +kernel
theorem dd_45_114 : decode prog_7_method_12_code 114 = .ok (.invokevirtual 53, 3) := by decide +kernel
theorem dd_45_117 : decode prog_7_method_12_code 117 = .ok (.invokevirtual 56, 3) := by decide +kernel
theorem dd_45_120 : decode prog_7_method_12_code 120 = .ok (.iinc 3 1, 3) := by decide +kernel
theorem dd_45_123 : decode prog_7_method_12_code 123 = .ok (.goto (-50), 3) := by decide +kernel
theorem dd_45_126 : decode prog_7_method_12_code 126 = .ok (.aload_n 0, 1) := by decide +kernel
theorem dd_45_127 : decode prog_7_method_12_code 127 = .ok (.bipush 41, 2) := by decide +kernel
theorem dd_45_129 : decode prog_7_method_12_code 129 = .ok (.invokevirtual 89, 3) := by decide +kernel
theorem dd_45_132 : decode prog_7_method_12_code 132 = .ok (.iload_n 2, 1) := by decide +kernel
theorem dd_45_133 : decode prog_7_method_12_code 133 = .ok (.ireturn, 1) := by decide +kernel
set_option maxRecDepth 100000 in
theorem okI_45 : mj_okI gG "PairMachine$Reader" prog_7_method_12_code 4 (mj_off oM_45) (Option.some Jvm.ClassFile.FieldType.int) false true 0 cM_45 :=
  ⟨Or.inl ⟨0, rfl, dd_45_0, rfl⟩,
   ⟨9, "PairMachine$Reader", fT3, 3, dd_45_1, rfl, okc_3, by decide, tw_253⟩,
   Or.inl ⟨0, rfl, dd_45_4, rfl⟩,
   ⟨24, "PairMachine$Reader", fT3, 3, dd_45_5, rfl, okc_3, by decide, tw_259⟩,
   ⟨rfl, tw_268, by decide, tw_115, by decide +kernel, 40, tw_269, dd_45_8, tw_270, ⟨"PairMachine$Text", fT1, 2, rfl, tw_271⟩, by decide +kernel⟩,
   Or.inl (Or.inr (Or.inl ⟨dd_45_11, rfl, by decide⟩)),
   ⟨8, dd_45_13, rfl, rfl⟩,
   Or.inl ⟨0, rfl, dd_45_16, rfl⟩,
   ⟨rfl, tw_276, by decide, tw_122, by decide +kernel, 46, tw_277, dd_45_17, tw_278, ⟨"PairMachine$Reader", fT3, 3, rfl, tw_279⟩, by decide +kernel⟩,
   ⟨dd_45_20, rfl⟩,
   Or.inl ⟨0, rfl, dd_45_21, rfl⟩,
   ⟨15, "PairMachine$Reader", fT3, 3, dd_45_22, rfl, okc_3, by decide, tw_254⟩,
   Or.inl (Or.inl ⟨dd_45_25, rfl⟩),
   Or.inl (Or.inl ⟨dd_45_26, rfl⟩),
   Or.inl ⟨0, rfl, dd_45_27, rfl⟩,
   ⟨24, "PairMachine$Reader", fT3, 3, dd_45_28, rfl, okc_3, by decide, tw_259⟩,
   ⟨rfl, tw_280, by decide, tw_109, by decide +kernel, 49, tw_281, dd_45_31, tw_282, ⟨"PairMachine$Tree", fT2, 7, rfl, tw_283⟩, by decide +kernel⟩,
   ⟨by decide, Or.inl ⟨2, rfl, dd_45_34, rfl⟩⟩,
   Or.inl ⟨0, rfl, dd_45_35, rfl⟩,
   Or.inl ⟨1, rfl, dd_45_36, rfl⟩,
   ⟨rfl, tw_292, by decide, tw_122, by decide +kernel, 60, tw_293, dd_45_37, tw_294, ⟨"PairMachine$Reader", fT3, 3, rfl, tw_295⟩, by decide +kernel⟩,
   Or.inl ⟨0, rfl, dd_45_40, rfl⟩,
   ⟨9, "PairMachine$Reader", fT3, 3, dd_45_41, rfl, okc_3, by decide, tw_253⟩,
   Or.inl ⟨0, rfl, dd_45_44, rfl⟩,
   ⟨24, "PairMachine$Reader", fT3, 3, dd_45_45, rfl, okc_3, by decide, tw_259⟩,
   ⟨rfl, tw_268, by decide, tw_115, by decide +kernel, 40, tw_269, dd_45_48, tw_270, ⟨"PairMachine$Text", fT1, 2, rfl, tw_271⟩, by decide +kernel⟩,
   Or.inl (Or.inr (Or.inl ⟨dd_45_51, rfl, by decide⟩)),
   ⟨73, dd_45_53, rfl, rfl⟩,
   Or.inl ⟨0, rfl, dd_45_56, rfl⟩,
   ⟨15, "PairMachine$Reader", fT3, 3, dd_45_57, rfl, okc_3, by decide, tw_254⟩,
   Or.inl ⟨2, rfl, dd_45_60, rfl⟩,
   Or.inl ⟨0, rfl, dd_45_61, rfl⟩,
   Or.inl ⟨1, rfl, dd_45_62, rfl⟩,
   Or.inl (Or.inl ⟨dd_45_63, rfl⟩),
   ⟨dd_45_64, rfl⟩,
   ⟨rfl, tw_284, by decide, tw_122, by decide +kernel, 53, tw_285, dd_45_65, tw_286, ⟨"PairMachine$Reader", fT3, 3, rfl, tw_287⟩, by decide +kernel⟩,
   ⟨rfl, tw_288, by decide, tw_109, by decide +kernel, 56, tw_289, dd_45_68, tw_290, ⟨"PairMachine$Tree", fT2, 7, rfl, tw_291⟩, by decide +kernel⟩,
   Or.inl (Or.inl ⟨dd_45_71, rfl⟩),
   ⟨by decide, Or.inl ⟨3, rfl, dd_45_72, rfl⟩⟩,
   Or.inl ⟨3, rfl, dd_45_73, rfl⟩,
   Or.inl (Or.inr (Or.inl ⟨dd_45_74, rfl, by decide⟩)),
   ⟨50, dd_45_76, rfl, rfl⟩,
   Or.inl ⟨0, rfl, dd_45_79, rfl⟩,
   ⟨9, "PairMachine$Reader", fT3, 3, dd_45_80, rfl, okc_3, by decide, tw_253⟩,
   Or.inl ⟨0, rfl, dd_45_83, rfl⟩,
   ⟨24, "PairMachine$Reader", fT3, 3, dd_45_84, rfl, okc_3, by decide, tw_259⟩,
   ⟨rfl, tw_268, by decide, tw_115, by decide +kernel, 40, tw_269, dd_45_87, tw_270, ⟨"PairMachine$Text", fT1, 2, rfl, tw_271⟩, by decide +kernel⟩,
   Or.inl (Or.inr (Or.inl ⟨dd_45_90, rfl, by decide⟩)),
   ⟨34, dd_45_92, rfl, rfl⟩,
   Or.inl ⟨0, rfl, dd_45_95, rfl⟩,
   ⟨dd_45_96, rfl⟩,
   ⟨24, "PairMachine$Reader", fT3, 3, dd_45_97, rfl, okc_3, by decide, tw_259⟩,
   Or.inl (Or.inl ⟨dd_45_100, rfl⟩),
   ⟨dd_45_101, rfl⟩,
   ⟨24, "PairMachine$Reader", fT3, 3, dd_45_102, rfl, okc_3, by decide, tw_259, rfl, Or.inl rfl⟩,
   Or.inl ⟨0, rfl, dd_45_105, rfl⟩,
   ⟨15, "PairMachine$Reader", fT3, 3, dd_45_106, rfl, okc_3, by decide, tw_254⟩,
   Or.inl ⟨2, rfl, dd_45_109, rfl⟩,
   Or.inl ⟨0, rfl, dd_45_110, rfl⟩,
   Or.inl ⟨1, rfl, dd_45_111, rfl⟩,
   Or.inl (Or.inl ⟨dd_45_112, rfl⟩),
   ⟨dd_45_113, rfl⟩,
   ⟨rfl, tw_284, by decide, tw_122, by decide +kernel, 53, tw_285, dd_45_114, tw_286, ⟨"PairMachine$Reader", fT3, 3, rfl, tw_287⟩, by decide +kernel⟩,
   ⟨rfl, tw_288, by decide, tw_109, by decide +kernel, 56, tw_289, dd_45_117, tw_290, ⟨"PairMachine$Tree", fT2, 7, rfl, tw_291⟩, by decide +kernel⟩,
   ⟨by decide, dd_45_120, rfl⟩,
   ⟨(-50), dd_45_123, rfl⟩,
   Or.inl ⟨0, rfl, dd_45_126, rfl⟩,
   Or.inl (Or.inr (Or.inl ⟨dd_45_127, rfl, by decide⟩)),
   ⟨rfl, tw_322, by decide, tw_122, by decide +kernel, 89, tw_323, dd_45_129, tw_324, ⟨"PairMachine$Reader", fT3, 3, rfl, tw_325⟩, by decide +kernel⟩,
   Or.inl ⟨2, rfl, dd_45_132, rfl⟩,
   ⟨dd_45_133, rfl⟩, trivial⟩
theorem okM_45 : mj_okE gG 45 (cM_45, 4, oM_45, hM_45) := ⟨rfl, rfl, by decide +kernel, trivial, okI_45⟩
theorem dd_46_0 : decode prog_7_method_13_code 0 = .ok (.aload_n 0, 1) := by decide +kernel
theorem dd_46_1 : decode prog_7_method_13_code 1 = .ok (.getfield 9, 3) := by decide +kernel
theorem dd_46_4 : decode prog_7_method_13_code 4 = .ok (.aload_n 0, 1) := by decide +kernel
theorem dd_46_5 : decode prog_7_method_13_code 5 = .ok (.getfield 24, 3) := by decide +kernel
theorem dd_46_8 : decode prog_7_method_13_code 8 = .ok (.invokevirtual 40, 3) := by decide +kernel
theorem dd_46_11 : decode prog_7_method_13_code 11 = .ok (.istore_n 1, 1) := by decide +kernel
theorem dd_46_12 : decode prog_7_method_13_code 12 = .ok (.iload_n 1, 1) := by decide +kernel
theorem dd_46_13 : decode prog_7_method_13_code 13 = .ok (.invokestatic 113, 3) := by decide +kernel
theorem dd_46_16 : decode prog_7_method_13_code 16 = .ok (.ifCond .ne 8, 3) := by decide +kernel
theorem dd_46_19 : decode prog_7_method_13_code 19 = .ok (.aload_n 0, 1) := by decide +kernel
theorem dd_46_20 : decode prog_7_method_13_code 20 = .ok (.invokevirtual 116, 3) := by decide +kernel
theorem dd_46_23 : decode prog_7_method_13_code 23 = .ok (.ireturn, 1) := by decide +kernel
theorem dd_46_24 : decode prog_7_method_13_code 24 = .ok (.aload_n 0, 1) := by decide +kernel
theorem dd_46_25 : decode prog_7_method_13_code 25 = .ok (.getfield 15, 3) := by decide +kernel
theorem dd_46_28 : decode prog_7_method_13_code 28 = .ok (.iconst 2, 1) := by decide +kernel
theorem dd_46_29 : decode prog_7_method_13_code 29 = .ok (.iload_n 1, 1) := by decide +kernel
theorem dd_46_30 : decode prog_7_method_13_code 30 = .ok (.aload_n 0, 1) := by decide +kernel
theorem dd_46_31 : decode prog_7_method_13_code 31 = .ok (.getfield 24, 3) := by decide +kernel
theorem dd_46_34 : decode prog_7_method_13_code 34 = .ok (.invokevirtual 49, 3) := by decide +kernel
theorem dd_46_37 : decode prog_7_method_13_code 37 = .ok (.istore_n 2, 1) := by decide +kernel
theorem dd_46_38 : decode prog_7_method_13_code 38 = .ok (.aload_n 0, 1) := by decide +kernel
theorem dd_46_39 : decode prog_7_method_13_code 39 = .ok (.dup, 1) := by decide +kernel
theorem dd_46_40 : decode prog_7_method_13_code 40 = .ok (.getfield 24, 3) := by decide +kernel
theorem dd_46_43 : decode prog_7_method_13_code 43 = .ok (.iconst 1, 1) := by decide +kernel
theorem dd_46_44 : decode prog_7_method_13_code 44 = .ok (.iadd, 1) := by decide +kernel
theorem dd_46_45 : decode prog_7_method_13_code 45 = .ok (.putfield 24, 3) := by decide +kernel
theorem dd_46_48 : decode prog_7_method_13_code 48 = .ok (.iload_n 2, 1) := by decide +kernel
theorem dd_46_49 : decode prog_7_method_13_code 49 = .ok (.ireturn, 1) := by decide +kernel
set_option maxRecDepth 100000 in
theorem okI_46 : mj_okI gG "PairMachine$Reader" prog_7_method_13_code 3 (mj_off oM_46) (Option.some Jvm.ClassFile.FieldType.int) false true 0 cM_46 :=
  ⟨Or.inl ⟨0, rfl, dd_46_0, rfl⟩,
   ⟨9, "PairMachine$Reader", fT3, 3, dd_46_1, rfl, okc_3, by decide, tw_253⟩,
   Or.inl ⟨0, rfl, dd_46_4, rfl⟩,
   ⟨24, "PairMachine$Reader", fT3, 3, dd_46_5, rfl, okc_3, by decide, tw_259⟩,
   ⟨rfl, tw_268, by decide, tw_115, by decide +kernel, 40, tw_269, dd_46_8, tw_270, ⟨"PairMachine$Text", fT1, 2, rfl, tw_271⟩, by decide +kernel⟩,
   ⟨by decide, Or.inl ⟨1, rfl, dd_46_11, rfl⟩⟩,
   Or.inl ⟨1, rfl, dd_46_12, rfl⟩,
   ⟨rfl, tw_351, by decide, tw_122, by decide +kernel, 113, tw_352, dd_46_13, tw_353, by decide +kernel⟩,
   ⟨8, dd_46_16, rfl, rfl⟩,
   Or.inl ⟨0, rfl, dd_46_19, rfl⟩,
   ⟨rfl, tw_354, by decide, tw_122, by decide +kernel, 116, tw_355, dd_46_20, tw_356, ⟨"PairMachine$Reader", fT3, 3, rfl, tw_357⟩, by decide +kernel⟩,
   ⟨dd_46_23, rfl⟩,
   Or.inl ⟨0, rfl, dd_46_24, rfl⟩,
   ⟨15, "PairMachine$Reader", fT3, 3, dd_46_25, rfl, okc_3, by decide, tw_254⟩,
   Or.inl (Or.inl ⟨dd_46_28, rfl⟩),
   Or.inl ⟨1, rfl, dd_46_29, rfl⟩,
   Or.inl ⟨0, rfl, dd_46_30, rfl⟩,
   ⟨24, "PairMachine$Reader", fT3, 3, dd_46_31, rfl, okc_3, by decide, tw_259⟩,
   ⟨rfl, tw_280, by decide, tw_109, by decide +kernel, 49, tw_281, dd_46_34, tw_282, ⟨"PairMachine$Tree", fT2, 7, rfl, tw_283⟩, by decide +kernel⟩,
   ⟨by decide, Or.inl ⟨2, rfl, dd_46_37, rfl⟩⟩,
   Or.inl ⟨0, rfl, dd_46_38, rfl⟩,
   ⟨dd_46_39, rfl⟩,
   ⟨24, "PairMachine$Reader", fT3, 3, dd_46_40, rfl, okc_3, by decide, tw_259⟩,
   Or.inl (Or.inl ⟨dd_46_43, rfl⟩),
   ⟨dd_46_44, rfl⟩,
   ⟨24, "PairMachine$Reader", fT3, 3, dd_46_45, rfl, okc_3, by decide, tw_259, rfl, Or.inl rfl⟩,
   Or.inl ⟨2, rfl, dd_46_48, rfl⟩,
   ⟨dd_46_49, rfl⟩, trivial⟩
theorem okM_46 : mj_okE gG 46 (cM_46, 3, oM_46, hM_46) := ⟨rfl, rfl, by decide +kernel, trivial, okI_46⟩
theorem dd_47_0 : decode prog_7_method_14_code 0 = .ok (.aload_n 0, 1) := by decide +kernel
theorem dd_47_1 : decode prog_7_method_14_code 1 = .ok (.getfield 24, 3) := by decide +kernel
theorem dd_47_4 : decode prog_7_method_14_code 4 = .ok (.istore_n 1, 1) := by decide +kernel
theorem dd_47_5 : decode prog_7_method_14_code 5 = .ok (.aload_n 0, 1) := by decide +kernel
theorem dd_47_6 : decode prog_7_method_14_code 6 = .ok (.getfield 9, 3) := by decide +kernel
theorem dd_47_9 : decode prog_7_method_14_code 9 = .ok (.aload_n 0, 1) := by decide +kernel
theorem dd_47_10 : decode prog_7_method_14_code 10 = .ok (.getfield 24, 3) := by decide +kernel
theorem dd_47_13 : decode prog_7_method_14_code 13 = .ok (.invokevirtual 40, 3) := by decide +kernel
theorem dd_47_16 : decode prog_7_method_14_code 16 = .ok (.bipush 45, 2) := by decide +kernel
theorem dd_47_18 : decode prog_7_method_14_code 18 = .ok (.if_icmp .ne 7, 3) := by decide +kernel
theorem dd_47_21 : decode prog_7_method_14_code 21 = .ok (.iconst 1, 1) := by decide +kernel
theorem dd_47_22 : decode prog_7_method_14_code 22 = .ok (.goto 4, 3) := by decide +kernel
theorem dd_47_25 : decode prog_7_method_14_code 25 = .ok (.iconst 0, 1) := by decide +kernel
theorem dd_47_26 : decode prog_7_method_14_code 26 = .ok (.istore_n 2, 1) := by decide +kernel
theorem dd_47_27 : decode prog_7_method_14_code 27 = .ok (.iload_n 2, 1) := by decide +kernel
theorem dd_47_28 : decode prog_7_method_14_code 28 = .ok (.ifCond .eq 13, 3) := by decide +kernel
theorem dd_47_31 : decode prog_7_method_14_code 31 = .ok (.aload_n 0, 1) := by decide +kernel
theorem dd_47_32 : decode prog_7_method_14_code 32 = .ok (.dup, 1) := by decide +kernel
theorem dd_47_33 : decode prog_7_method_14_code 33 = .ok (.getfield 24, 3) := by decide +kernel
theorem dd_47_36 : decode prog_7_method_14_code 36 = .ok (.iconst 1, 1) := by decide +kernel
theorem dd_47_37 : decode prog_7_method_14_code 37 = .ok (.iadd, 1) := by decide +kernel
theorem dd_47_38 : decode prog_7_method_14_code 38 = .ok (.putfield 24, 3) := by decide +kernel
theorem dd_47_41 : decode prog_7_method_14_code 41 = .ok (.aload_n 0, 1) := by decide +kernel
theorem dd_47_42 : decode prog_7_method_14_code 42 = .ok (.getfield 9, 3) := by decide +kernel
theorem dd_47_45 : decode prog_7_method_14_code 45 = .ok (.aload_n 0, 1) := by decide +kernel
theorem dd_47_46 : decode prog_7_method_14_code 46 = .ok (.getfield 24, 3) := by decide +kernel
theorem dd_47_49 : decode prog_7_method_14_code 49 = .ok (.invokevirtual 40, 3) := by decide +kernel
theorem dd_47_52 : decode prog_7_method_14_code 52 = .ok (.invokestatic 71, 3) := by decide +kernel
theorem dd_47_55 : decode prog_7_method_14_code 55 = .ok (.ifCond .ne 6, 3) := by decide +kernel
theorem dd_47_58 : decode prog_7_method_14_code 58 = .ok (.invokestatic 119, 3) := by decide +kernel
theorem dd_47_61 : decode prog_7_method_14_code 61 = .ok (.iconst 0, 1) := by decide +kernel
theorem dd_47_62 : decode prog_7_method_14_code 62 = .ok (.istore_n 3, 1) := by decide +kernel
theorem dd_47_63 : decode prog_7_method_14_code 63 = .ok (.iconst 0, 1) := by decide +kernel
theorem dd_47_64 : decode prog_7_method_14_code 64 = .ok (.istore 4, 2) := by decide +kernel
theorem dd_47_66 : decode prog_7_method_14_code 66 = .ok (.iload 4, 2) := by decide +kernel
theorem dd_47_68 : decode prog_7_method_14_code 68 = .ok (.iconst 4, 1) := by decide +kernel
theorem dd_47_69 : decode prog_7_method_14_code 69 = .ok (.if_icmp .ge 56, 3) := by decide +kernel
theorem dd_47_72 : decode prog_7_method_14_code 72 = .ok (.aload_n 0, 1) := by decide +kernel
theorem dd_47_73 : decode prog_7_method_14_code 73 = .ok (.getfield 9, 3) := by decide +kernel
theorem dd_47_76 : decode prog_7_method_14_code 76 = .ok (.aload_n 0, 1) := by decide +kernel
theorem dd_47_77 : decode prog_7_method_14_code 77 = .ok (.getfield 24, 3) := by decide +kernel
theorem dd_47_80 : decode prog_7_method_14_code 80 = .ok (.invokevirtual 40, 3) := by decide +kernel
theorem dd_47_83 : decode prog_7_method_14_code 83 = .ok (.invokestatic 71, 3) := by decide +kernel
theorem dd_47_86 : decode prog_7_method_14_code 86 = .ok (.ifCond .eq 39, 3) := by decide +kernel
theorem dd_47_89 : decode prog_7_method_14_code 89 = .ok (.bipush 10, 2) := by decide +kernel
theorem dd_47_91 : decode prog_7_method_14_code 91 = .ok (.iload_n 3, 1) := by decide +kernel
theorem dd_47_92 : decode prog_7_method_14_code 92 = .ok (.imul, 1) := by decide +kernel
theorem dd_47_93 : decode prog_7_method_14_code 93 = .ok (.aload_n 0, 1) := by decide +kernel
theorem dd_47_94 : decode prog_7_method_14_code 94 = .ok (.getfield 9, 3) := by decide +kernel
theorem dd_47_97 : decode prog_7_method_14_code 97 = .ok (.aload_n 0, 1) := by decide +kernel
theorem dd_47_98 : decode prog_7_method_14_code 98 = .ok (.getfield 24, 3) := by decide +kernel
theorem dd_47_101 : decode prog_7_method_14_code 101 = .ok (.invokevirtual 40, 3) := by decide +kernel
theorem dd_47_104 : decode prog_7_method_14_code 104 = .ok (.iadd, 1) := by decide +kernel
theorem dd_47_105 : decode prog_7_method_14_code 105 = .ok (.bipush 48, 2) := by decide +kernel
theorem dd_47_107 : decode prog_7_method_14_code 107 = .ok (.isub, 1) := by decide +kernel
theorem dd_47_108 : decode prog_7_method_14_code 108 = .ok (.istore_n 3, 1) := by decide +kernel
theorem dd_47_109 : decode prog_7_method_14_code 109 = .ok (.aload_n 0, 1) := by decide +kernel
theorem dd_47_110 : decode prog_7_method_14_code 110 = .ok (.dup, 1) := by decide +kernel
theorem dd_47_111 : decode prog_7_method_14_code 111 = .ok (.getfield 24, 3) := by decide +kernel
theorem dd_47_114 : decode prog_7_method_14_code 114 = .ok (.iconst 1, 1) := by decide +kernel
theorem dd_47_115 : decode prog_7_method_14_code 115 = .ok (.iadd, 1) := by decide +kernel
theorem dd_47_116 : decode prog_7_method_14_code 116 = .ok (.putfield 24, 3) := by decide +kernel
theorem dd_47_119 : decode prog_7_method_14_code 119 = .ok (.iinc 4 1, 3) := by decide +kernel
theorem dd_47_122 : decode prog_7_method_14_code 122 = .ok (.goto (-56), 3) := by decide +kernel
theorem dd_47_125 : decode prog_7_method_14_code 125 = .ok (.aload_n 0, 1) := by decide +kernel
theorem dd_47_126 : decode prog_7_method_14_code 126 = .ok (.getfield 15, 3) := by decide +kernel
theorem dd_47_129 : decode prog_7_method_14_code 129 = .ok (.iconst 1, 1) := by decide +kernel
theorem dd_47_130 : decode prog_7_method_14_code 130 = .ok (.iload_n 2, 1) := by decide +kernel
theorem dd_47_131 : decode prog_7_method_14_code 131 = .ok (.ifCond .eq 8, 3) := by decide +kernel
theorem dd_47_134 : decode prog_7_method_14_code 134 = .ok (.iload_n 3, 1) := by decide +kernel
theorem dd_47_135 : decode prog_7_method_14_code 135 = .ok (.ineg, 1) := by decide +kernel
theorem dd_47_136 : decode prog_7_method_14_code 136 = .ok (.goto 4, 3) := by decide +kernel
theorem dd_47_139 : decode prog_7_method_14_code 139 = .ok (.iload_n 3, 1) := by decide +kernel
theorem dd_47_140 : decode prog_7_method_14_code 140 = .ok (.iload_n 1, 1) := by decide +kernel
theorem dd_47_141 : decode prog_7_method_14_code 141 = .ok (.invokevirtual 49, 3) := by decide +kernel
theorem dd_47_144 : decode prog_7_method_14_code 144 = .ok (.ireturn, 1) := by decide +kernel
set_option maxRecDepth 100000 in
theorem okI_47 : mj_okI gG "PairMachine$Reader" prog_7_method_14_code 5 (mj_off oM_47) (Option.some Jvm.ClassFile.FieldType.int) false true 0 cM_47 :=
  ⟨Or.inl ⟨0, rfl, dd_47_0, rfl⟩,
   ⟨24, "PairMachine$Reader", fT3, 3, dd_47_1, rfl, okc_3, by decide, tw_259⟩,
   ⟨by decide, Or.inl ⟨1, rfl, dd_47_4, rfl⟩⟩,
   Or.inl ⟨0, rfl, dd_47_5, rfl⟩,
   ⟨9, "PairMachine$Reader", fT3, 3, dd_47_6, rfl, okc_3, by decide, tw_253⟩,
   Or.inl ⟨0, rfl, dd_47_9, rfl⟩,
   ⟨24, "PairMachine$Reader", fT3, 3, dd_47_10, rfl, okc_3, by decide, tw_259⟩,
   ⟨rfl, tw_268, by decide, tw_115, by decide +kernel, 40, tw_269, dd_47_13, tw_270, ⟨"PairMachine$Text", fT1, 2, rfl, tw_271⟩, by decide +kernel⟩,
   Or.inl (Or.inr (Or.inl ⟨dd_47_16, rfl, by decide⟩)),
   ⟨7, dd_47_18, rfl, rfl⟩,
   Or.inl (Or.inl ⟨dd_47_21, rfl⟩),
   ⟨4, dd_47_22, rfl⟩,
   Or.inl (Or.inl ⟨dd_47_25, rfl⟩),
   ⟨by decide, Or.inl ⟨2, rfl, dd_47_26, rfl⟩⟩,
   Or.inl ⟨2, rfl, dd_47_27, rfl⟩,
   ⟨13, dd_47_28, rfl, rfl⟩,
   Or.inl ⟨0, rfl, dd_47_31, rfl⟩,
   ⟨dd_47_32, rfl⟩,
   ⟨24, "PairMachine$Reader", fT3, 3, dd_47_33, rfl, okc_3, by decide, tw_259⟩,
   Or.inl (Or.inl ⟨dd_47_36, rfl⟩),
   ⟨dd_47_37, rfl⟩,
   ⟨24, "PairMachine$Reader", fT3, 3, dd_47_38, rfl, okc_3, by decide, tw_259, rfl, Or.inl rfl⟩,
   Or.inl ⟨0, rfl, dd_47_41, rfl⟩,
   ⟨9, "PairMachine$Reader", fT3, 3, dd_47_42, rfl, okc_3, by decide, tw_253⟩,
   Or.inl ⟨0, rfl, dd_47_45, rfl⟩,
   ⟨24, "PairMachine$Reader", fT3, 3, dd_47_46, rfl, okc_3, by decide, tw_259⟩,
   ⟨rfl, tw_268, by decide, tw_115, by decide +kernel, 40, tw_269, dd_47_49, tw_270, ⟨"PairMachine$Text", fT1, 2, rfl, tw_271⟩, by decide +kernel⟩,
   ⟨rfl, tw_304, by decide, tw_122, by decide +kernel, 71, tw_305, dd_47_52, tw_306, by decide +kernel⟩,
   ⟨6, dd_47_55, rfl, rfl⟩,
   ⟨rfl, tw_358, by decide, tw_122, by decide +kernel, 119, tw_359, dd_47_58, tw_360, by decide +kernel⟩,
   Or.inl (Or.inl ⟨dd_47_61, rfl⟩),
   ⟨by decide, Or.inl ⟨3, rfl, dd_47_62, rfl⟩⟩,
   Or.inl (Or.inl ⟨dd_47_63, rfl⟩),
   ⟨by decide, Or.inr ⟨dd_47_64, rfl⟩⟩,
   Or.inr ⟨dd_47_66, rfl⟩,
   Or.inl (Or.inl ⟨dd_47_68, rfl⟩),
   ⟨56, dd_47_69, rfl, rfl⟩,
   Or.inl ⟨0, rfl, dd_47_72, rfl⟩,
   ⟨9, "PairMachine$Reader", fT3, 3, dd_47_73, rfl, okc_3, by decide, tw_253⟩,
   Or.inl ⟨0, rfl, dd_47_76, rfl⟩,
   ⟨24, "PairMachine$Reader", fT3, 3, dd_47_77, rfl, okc_3, by decide, tw_259⟩,
   ⟨rfl, tw_268, by decide, tw_115, by decide +kernel, 40, tw_269, dd_47_80, tw_270, ⟨"PairMachine$Text", fT1, 2, rfl, tw_271⟩, by decide +kernel⟩,
   ⟨rfl, tw_304, by decide, tw_122, by decide +kernel, 71, tw_305, dd_47_83, tw_306, by decide +kernel⟩,
   ⟨39, dd_47_86, rfl, rfl⟩,
   Or.inl (Or.inr (Or.inl ⟨dd_47_89, rfl, by decide⟩)),
   Or.inl ⟨3, rfl, dd_47_91, rfl⟩,
   ⟨dd_47_92, rfl⟩,
   Or.inl ⟨0, rfl, dd_47_93, rfl⟩,
   ⟨9, "PairMachine$Reader", fT3, 3, dd_47_94, rfl, okc_3, by decide, tw_253⟩,
   Or.inl ⟨0, rfl, dd_47_97, rfl⟩,
   ⟨24, "PairMachine$Reader", fT3, 3, dd_47_98, rfl, okc_3, by decide, tw_259⟩,
   ⟨rfl, tw_268, by decide, tw_115, by decide +kernel, 40, tw_269, dd_47_101, tw_270, ⟨"PairMachine$Text", fT1, 2, rfl, tw_271⟩, by decide +kernel⟩,
   ⟨dd_47_104, rfl⟩,
   Or.inl (Or.inr (Or.inl ⟨dd_47_105, rfl, by decide⟩)),
   ⟨dd_47_107, rfl⟩,
   ⟨by decide, Or.inl ⟨3, rfl, dd_47_108, rfl⟩⟩,
   Or.inl ⟨0, rfl, dd_47_109, rfl⟩,
   ⟨dd_47_110, rfl⟩,
   ⟨24, "PairMachine$Reader", fT3, 3, dd_47_111, rfl, okc_3, by decide, tw_259⟩,
   Or.inl (Or.inl ⟨dd_47_114, rfl⟩),
   ⟨dd_47_115, rfl⟩,
   ⟨24, "PairMachine$Reader", fT3, 3, dd_47_116, rfl, okc_3, by decide, tw_259, rfl, Or.inl rfl⟩,
   ⟨by decide, dd_47_119, rfl⟩,
   ⟨(-56), dd_47_122, rfl⟩,
   Or.inl ⟨0, rfl, dd_47_125, rfl⟩,
   ⟨15, "PairMachine$Reader", fT3, 3, dd_47_126, rfl, okc_3, by decide, tw_254⟩,
   Or.inl (Or.inl ⟨dd_47_129, rfl⟩),
   Or.inl ⟨2, rfl, dd_47_130, rfl⟩,
   ⟨8, dd_47_131, rfl, rfl⟩,
   Or.inl ⟨3, rfl, dd_47_134, rfl⟩,
   ⟨dd_47_135, rfl⟩,
   ⟨4, dd_47_136, rfl⟩,
   Or.inl ⟨3, rfl, dd_47_139, rfl⟩,
   Or.inl ⟨1, rfl, dd_47_140, rfl⟩,
   ⟨rfl, tw_280, by decide, tw_109, by decide +kernel, 49, tw_281, dd_47_141, tw_282, ⟨"PairMachine$Tree", fT2, 7, rfl, tw_283⟩, by decide +kernel⟩,
   ⟨dd_47_144, rfl⟩, trivial⟩
theorem okM_47 : mj_okE gG 47 (cM_47, 5, oM_47, hM_47) := ⟨rfl, rfl, by decide +kernel, trivial, okI_47⟩
theorem dd_48_0 : decode prog_7_method_15_code 0 = .ok (.aload_n 0, 1) := by decide +kernel
theorem dd_48_1 : decode prog_7_method_15_code 1 = .ok (.getfield 9, 3) := by decide +kernel
theorem dd_48_4 : decode prog_7_method_15_code 4 = .ok (.aload_n 0, 1) := by decide +kernel
theorem dd_48_5 : decode prog_7_method_15_code 5 = .ok (.getfield 24, 3) := by decide +kernel
theorem dd_48_8 : decode prog_7_method_15_code 8 = .ok (.invokevirtual 40, 3) := by decide +kernel
theorem dd_48_11 : decode prog_7_method_15_code 11 = .ok (.istore_n 2, 1) := by decide +kernel
theorem dd_48_12 : decode prog_7_method_15_code 12 = .ok (.iload_n 2, 1) := by decide +kernel
theorem dd_48_13 : decode prog_7_method_15_code 13 = .ok (.invokestatic 113, 3) := by decide +kernel
theorem dd_48_16 : decode prog_7_method_15_code 16 = .ok (.ifCond .eq 16, 3) := by decide +kernel
theorem dd_48_19 : decode prog_7_method_15_code 19 = .ok (.aload_n 0, 1) := by decide +kernel
theorem dd_48_20 : decode prog_7_method_15_code 20 = .ok (.getfield 15, 3) := by decide +kernel
theorem dd_48_23 : decode prog_7_method_15_code 23 = .ok (.iload_n 2, 1) := by decide +kernel
theorem dd_48_24 : decode prog_7_method_15_code 24 = .ok (.iload_n 1, 1) := by decide +kernel
theorem dd_48_25 : decode prog_7_method_15_code 25 = .ok (.invokevirtual 122, 3) := by decide +kernel
theorem dd_48_28 : decode prog_7_method_15_code 28 = .ok (.iconst (-1), 1) := by decide +kernel
theorem dd_48_29 : decode prog_7_method_15_code 29 = .ok (.if_icmp .eq 6, 3) := by decide +kernel
theorem dd_48_32 : decode prog_7_method_15_code 32 = .ok (.invokestatic 119, 3) := by decide +kernel
theorem dd_48_35 : decode prog_7_method_15_code 35 = .ok (.iload_n 2, 1) := by decide +kernel
theorem dd_48_36 : decode prog_7_method_15_code 36 = .ok (.ireturn, 1) := by decide +kernel
set_option maxRecDepth 100000 in
theorem okI_48 : mj_okI gG "PairMachine$Reader" prog_7_method_15_code 3 (mj_off oM_48) (Option.some Jvm.ClassFile.FieldType.int) false true 0 cM_48 :=
  ⟨Or.inl ⟨0, rfl, dd_48_0, rfl⟩,
   ⟨9, "PairMachine$Reader", fT3, 3, dd_48_1, rfl, okc_3, by decide, tw_253⟩,
   Or.inl ⟨0, rfl, dd_48_4, rfl⟩,
   ⟨24, "PairMachine$Reader", fT3, 3, dd_48_5, rfl, okc_3, by decide, tw_259⟩,
   ⟨rfl, tw_268, by decide, tw_115, by decide +kernel, 40, tw_269, dd_48_8, tw_270, ⟨"PairMachine$Text", fT1, 2, rfl, tw_271⟩, by decide +kernel⟩,
   ⟨by decide, Or.inl ⟨2, rfl, dd_48_11, rfl⟩⟩,
   Or.inl ⟨2, rfl, dd_48_12, rfl⟩,
   ⟨rfl, tw_351, by decide, tw_122, by decide +kernel, 113, tw_352, dd_48_13, tw_353, by decide +kernel⟩,
   ⟨16, dd_48_16, rfl, rfl⟩,
   Or.inl ⟨0, rfl, dd_48_19, rfl⟩,
   ⟨15, "PairMachine$Reader", fT3, 3, dd_48_20, rfl, okc_3, by decide, tw_254⟩,
   Or.inl ⟨2, rfl, dd_48_23, rfl⟩,
   Or.inl ⟨1, rfl, dd_48_24, rfl⟩,
   ⟨rfl, tw_361, by decide, tw_109, by decide +kernel, 122, tw_362, dd_48_25, tw_363, ⟨"PairMachine$Tree", fT2, 7, rfl, tw_364⟩, by decide +kernel⟩,
   Or.inl (Or.inl ⟨dd_48_28, rfl⟩),
   ⟨6, dd_48_29, rfl, rfl⟩,
   ⟨rfl, tw_358, by decide, tw_122, by decide +kernel, 119, tw_359, dd_48_32, tw_360, by decide +kernel⟩,
   Or.inl ⟨2, rfl, dd_48_35, rfl⟩,
   ⟨dd_48_36, rfl⟩, trivial⟩
theorem okM_48 : mj_okE gG 48 (cM_48, 3, oM_48, hM_48) := ⟨rfl, rfl, by decide +kernel, trivial, okI_48⟩
theorem dd_49_0 : decode prog_7_method_16_code 0 = .ok (.iload_n 1, 1) := by decide +kernel
theorem dd_49_1 : decode prog_7_method_16_code 1 = .ok (.bipush 9, 2) := by decide +kernel
theorem dd_49_3 : decode prog_7_method_16_code 3 = .ok (.if_icmp .lt 6, 3) := by decide +kernel
theorem dd_49_6 : decode prog_7_method_16_code 6 = .ok (.invokestatic 119, 3) := by decide +kernel
theorem dd_49_9 : decode prog_7_method_16_code 9 = .ok (.aload_n 0, 1) := by decide +kernel
theorem dd_49_10 : decode prog_7_method_16_code 10 = .ok (.bipush 40, 2) := by decide +kernel
theorem dd_49_12 : decode prog_7_method_16_code 12 = .ok (.invokevirtual 89, 3) := by decide +kernel
theorem dd_49_15 : decode prog_7_method_16_code 15 = .ok (.return_, 1) := by decide +kernel
set_option maxRecDepth 100000 in
theorem okI_49 : mj_okI gG "PairMachine$Reader" prog_7_method_16_code 2 (mj_off oM_49) (Option.none : Option Jvm.ClassFile.FieldType) false true 0 cM_49 :=
  ⟨Or.inl ⟨1, rfl, dd_49_0, rfl⟩,
   Or.inl (Or.inr (Or.inl ⟨dd_49_1, rfl, by decide⟩)),
   ⟨6, dd_49_3, rfl, rfl⟩,
   ⟨rfl, tw_358, by decide, tw_122, by decide +kernel, 119, tw_359, dd_49_6, tw_360, by decide +kernel⟩,
   Or.inl ⟨0, rfl, dd_49_9, rfl⟩,
   Or.inl (Or.inr (Or.inl ⟨dd_49_10, rfl, by decide⟩)),
   ⟨rfl, tw_322, by decide, tw_122, by decide +kernel, 89, tw_323, dd_49_12, tw_324, ⟨"PairMachine$Reader", fT3, 3, rfl, tw_325⟩, by decide +kernel⟩,
   ⟨dd_49_15, rfl⟩, trivial⟩
theorem okM_49 : mj_okE gG 49 (cM_49, 2, oM_49, hM_49) := ⟨rfl, rfl, by decide +kernel, trivial, okI_49⟩
theorem dd_50_0 : decode prog_7_method_17_code 0 = .ok (.aload_n 0, 1) := by decide +kernel
theorem dd_50_1 : decode prog_7_method_17_code 1 = .ok (.getfield 9, 3) := by decide +kernel
theorem dd_50_4 : decode prog_7_method_17_code 4 = .ok (.aload_n 0, 1) := by decide +kernel
theorem dd_50_5 : decode prog_7_method_17_code 5 = .ok (.getfield 24, 3) := by decide +kernel
theorem dd_50_8 : decode prog_7_method_17_code 8 = .ok (.invokevirtual 40, 3) := by decide +kernel
theorem dd_50_11 : decode prog_7_method_17_code 11 = .ok (.iload_n 1, 1) := by decide +kernel
theorem dd_50_12 : decode prog_7_method_17_code 12 = .ok (.if_icmp .eq 6, 3) := by decide +kernel
theorem dd_50_15 : decode prog_7_method_17_code 15 = .ok (.invokestatic 119, 3) := by decide +kernel
theorem dd_50_18 : decode prog_7_method_17_code 18 = .ok (.aload_n 0, 1) := by decide +kernel
theorem dd_50_19 : decode prog_7_method_17_code 19 = .ok (.dup, 1) := by decide +kernel
theorem dd_50_20 : decode prog_7_method_17_code 20 = .ok (.getfield 24, 3) := by decide +kernel
theorem dd_50_23 : decode prog_7_method_17_code 23 = .ok (.iconst 1, 1) := by decide +kernel
theorem dd_50_24 : decode prog_7_method_17_code 24 = .ok (.iadd, 1) := by decide +kernel
theorem dd_50_25 : decode prog_7_method_17_code 25 = .ok (.putfield 24, 3) := by decide +kernel
theorem dd_50_28 : decode prog_7_method_17_code 28 = .ok (.return_, 1) := by decide +kernel
set_option maxRecDepth 100000 in
theorem okI_50 : mj_okI gG "PairMachine$Reader" prog_7_method_17_code 2 (mj_off oM_50) (Option.none : Option Jvm.ClassFile.FieldType) false true 0 cM_50 :=
  ⟨Or.inl ⟨0, rfl, dd_50_0, rfl⟩,
   ⟨9, "PairMachine$Reader", fT3, 3, dd_50_1, rfl, okc_3, by decide, tw_253⟩,
   Or.inl ⟨0, rfl, dd_50_4, rfl⟩,
   ⟨24, "PairMachine$Reader", fT3, 3, dd_50_5, rfl, okc_3, by decide, tw_259⟩,
   ⟨rfl, tw_268, by decide, tw_115, by decide +kernel, 40, tw_269, dd_50_8, tw_270, ⟨"PairMachine$Text", fT1, 2, rfl, tw_271⟩, by decide +kernel⟩,
   Or.inl ⟨1, rfl, dd_50_11, rfl⟩,
   ⟨6, dd_50_12, rfl, rfl⟩,
   ⟨rfl, tw_358, by decide, tw_122, by decide +kernel, 119, tw_359, dd_50_15, tw_360, by decide +kernel⟩,
   Or.inl ⟨0, rfl, dd_50_18, rfl⟩,
   ⟨dd_50_19, rfl⟩,
   ⟨24, "PairMachine$Reader", fT3, 3, dd_50_20, rfl, okc_3, by decide, tw_259⟩,
   Or.inl (Or.inl ⟨dd_50_23, rfl⟩),
   ⟨dd_50_24, rfl⟩,
   ⟨24, "PairMachine$Reader", fT3, 3, dd_50_25, rfl, okc_3, by decide, tw_259, rfl, Or.inl rfl⟩,
   ⟨dd_50_28, rfl⟩, trivial⟩
theorem okM_50 : mj_okE gG 50 (cM_50, 2, oM_50, hM_50) := ⟨rfl, rfl, by decide +kernel, trivial, okI_50⟩
theorem dd_51_0 : decode prog_7_method_18_code 0 = .ok (.new 32, 3) := by decide +kernel
theorem dd_51_3 : decode prog_7_method_18_code 3 = .ok (.dup, 1) := by decide +kernel
theorem dd_51_4 : decode prog_7_method_18_code 4 = .ok (.ldc 125, 2) := by decide +kernel
theorem dd_51_6 : decode prog_7_method_18_code 6 = .ok (.invokespecial 127, 3) := by decide +kernel
theorem dd_51_9 : decode prog_7_method_18_code 9 = .ok (.athrow, 1) := by decide +kernel
set_option maxRecDepth 100000 in
theorem okI_51 : mj_okI gG "PairMachine$Reader" prog_7_method_18_code 0 (mj_off oM_51) (Option.none : Option Jvm.ClassFile.FieldType) false true 0 cM_51 :=
  ⟨⟨rfl, 32, 125, 127, "no program goes on like this", dd_51_0, dd_51_3, dd_51_4, dd_51_6, dd_51_9, by decide +kernel, by decide +kernel, by decide +kernel, by decide +kernel, by decide +kernel, by decide +kernel, by decide +kernel, by decide +kernel⟩, trivial⟩
theorem okM_51 : mj_okE gG 51 (cM_51, 0, oM_51, hM_51) := ⟨rfl, rfl, by decide +kernel, trivial, okI_51⟩
theorem dd_52_0 : decode prog_7_method_19_code 0 = .ok (.iload_n 0, 1) := by decide +kernel
theorem dd_52_1 : decode prog_7_method_19_code 1 = .ok (.bipush 97, 2) := by decide +kernel
theorem dd_52_3 : decode prog_7_method_19_code 3 = .ok (.if_icmp .lt 13, 3) := by decide +kernel
theorem dd_52_6 : decode prog_7_method_19_code 6 = .ok (.iload_n 0, 1) := by decide +kernel
theorem dd_52_7 : decode prog_7_method_19_code 7 = .ok (.bipush 122, 2) := by decide +kernel
theorem dd_52_9 : decode prog_7_method_19_code 9 = .ok (.if_icmp .gt 7, 3) := by decide +kernel
theorem dd_52_12 : decode prog_7_method_19_code 12 = .ok (.iconst 1, 1) := by decide +kernel
theorem dd_52_13 : decode prog_7_method_19_code 13 = .ok (.goto 4, 3) := by decide +kernel
theorem dd_52_16 : decode prog_7_method_19_code 16 = .ok (.iconst 0, 1) := by decide +kernel
theorem dd_52_17 : decode prog_7_method_19_code 17 = .ok (.ireturn, 1) := by decide +kernel
set_option maxRecDepth 100000 in
theorem okI_52 : mj_okI gG "PairMachine$Reader" prog_7_method_19_code 1 (mj_off oM_52) (Option.some Jvm.ClassFile.FieldType.boolean) false true 0 cM_52 :=
  ⟨Or.inl ⟨0, rfl, dd_52_0, rfl⟩,
   Or.inl (Or.inr (Or.inl ⟨dd_52_1, rfl, by decide⟩)),
   ⟨13, dd_52_3, rfl, rfl⟩,
   Or.inl ⟨0, rfl, dd_52_6, rfl⟩,
   Or.inl (Or.inr (Or.inl ⟨dd_52_7, rfl, by decide⟩)),
   ⟨7, dd_52_9, rfl, rfl⟩,
   Or.inl (Or.inl ⟨dd_52_12, rfl⟩),
   ⟨4, dd_52_13, rfl⟩,
   Or.inl (Or.inl ⟨dd_52_16, rfl⟩),
   ⟨dd_52_17, rfl⟩, trivial⟩
theorem okM_52 : mj_okE gG 52 (cM_52, 1, oM_52, hM_52) := ⟨rfl, rfl, by decide +kernel, trivial, okI_52⟩
theorem dd_53_0 : decode prog_7_method_20_code 0 = .ok (.iload_n 0, 1) := by decide +kernel
theorem dd_53_1 : decode prog_7_method_20_code 1 = .ok (.bipush 48, 2) := by decide +kernel
theorem dd_53_3 : decode prog_7_method_20_code 3 = .ok (.if_icmp .lt 13, 3) := by decide +kernel
theorem dd_53_6 : decode prog_7_method_20_code 6 = .ok (.iload_n 0, 1) := by decide +kernel
theorem dd_53_7 : decode prog_7_method_20_code 7 = .ok (.bipush 57, 2) := by decide +kernel
theorem dd_53_9 : decode prog_7_method_20_code 9 = .ok (.if_icmp .gt 7, 3) := by decide +kernel
theorem dd_53_12 : decode prog_7_method_20_code 12 = .ok (.iconst 1, 1) := by decide +kernel
theorem dd_53_13 : decode prog_7_method_20_code 13 = .ok (.goto 4, 3) := by decide +kernel
theorem dd_53_16 : decode prog_7_method_20_code 16 = .ok (.iconst 0, 1) := by decide +kernel
theorem dd_53_17 : decode prog_7_method_20_code 17 = .ok (.ireturn, 1) := by decide +kernel
set_option maxRecDepth 100000 in
theorem okI_53 : mj_okI gG "PairMachine$Reader" prog_7_method_20_code 1 (mj_off oM_53) (Option.some Jvm.ClassFile.FieldType.boolean) false true 0 cM_53 :=
  ⟨Or.inl ⟨0, rfl, dd_53_0, rfl⟩,
   Or.inl (Or.inr (Or.inl ⟨dd_53_1, rfl, by decide⟩)),
   ⟨13, dd_53_3, rfl, rfl⟩,
   Or.inl ⟨0, rfl, dd_53_6, rfl⟩,
   Or.inl (Or.inr (Or.inl ⟨dd_53_7, rfl, by decide⟩)),
   ⟨7, dd_53_9, rfl, rfl⟩,
   Or.inl (Or.inl ⟨dd_53_12, rfl⟩),
   ⟨4, dd_53_13, rfl⟩,
   Or.inl (Or.inl ⟨dd_53_16, rfl⟩),
   ⟨dd_53_17, rfl⟩, trivial⟩
theorem okM_53 : mj_okE gG 53 (cM_53, 1, oM_53, hM_53) := ⟨rfl, rfl, by decide +kernel, trivial, okI_53⟩
theorem dd_54_0 : decode prog_2_method_1_code 0 = .ok (.aload_n 0, 1) := by decide +kernel
theorem dd_54_1 : decode prog_2_method_1_code 1 = .ok (.invokespecial 3, 3) := by decide +kernel
theorem dd_54_4 : decode prog_2_method_1_code 4 = .ok (.aload_n 0, 1) := by decide +kernel
theorem dd_54_5 : decode prog_2_method_1_code 5 = .ok (.iload_n 1, 1) := by decide +kernel
theorem dd_54_6 : decode prog_2_method_1_code 6 = .ok (.newarray .long, 2) := by decide +kernel
theorem dd_54_8 : decode prog_2_method_1_code 8 = .ok (.putfield 9, 3) := by decide +kernel
theorem dd_54_11 : decode prog_2_method_1_code 11 = .ok (.aload_n 0, 1) := by decide +kernel
theorem dd_54_12 : decode prog_2_method_1_code 12 = .ok (.iload_n 1, 1) := by decide +kernel
theorem dd_54_13 : decode prog_2_method_1_code 13 = .ok (.newarray .long, 2) := by decide +kernel
theorem dd_54_15 : decode prog_2_method_1_code 15 = .ok (.putfield 15, 3) := by decide +kernel
theorem dd_54_18 : decode prog_2_method_1_code 18 = .ok (.return_, 1) := by decide +kernel
set_option maxRecDepth 100000 in
theorem okI_54 : mj_okI gG "PairMachine$Code" prog_2_method_1_code 2 (mj_off oM_54) (Option.none : Option Jvm.ClassFile.FieldType) true true 0 cM_54 :=
  ⟨Or.inl ⟨0, rfl, dd_54_0, rfl⟩,
   ⟨3, dd_54_1, rfl, tw_365, tw_97, tw_98⟩,
   Or.inl ⟨0, rfl, dd_54_4, rfl⟩,
   Or.inl ⟨1, rfl, dd_54_5, rfl⟩,
   ⟨dd_54_6, rfl, tw_16⟩,
   ⟨9, "PairMachine$Code", fT4, 5, dd_54_8, rfl, okc_4, by decide, tw_366, Or.inr ⟨_, rfl⟩, Or.inr ⟨rfl, by decide, rfl⟩⟩,
   Or.inl ⟨0, rfl, dd_54_11, rfl⟩,
   Or.inl ⟨1, rfl, dd_54_12, rfl⟩,
   ⟨dd_54_13, rfl, tw_16⟩,
   ⟨15, "PairMachine$Code", fT4, 5, dd_54_15, rfl, okc_4, by decide, tw_367, Or.inr ⟨_, rfl⟩, Or.inr ⟨rfl, by decide, rfl⟩⟩,
   ⟨dd_54_18, rfl⟩, trivial⟩
theorem okM_54 : mj_okE gG 54 (cM_54, 2, oM_54, hM_54) := ⟨rfl, rfl, by decide +kernel, trivial, okI_54⟩
theorem dd_55_0 : decode prog_2_method_2_code 0 = .ok (.aload_n 0, 1) := by decide +kernel
theorem dd_55_1 : decode prog_2_method_2_code 1 = .ok (.iconst 0, 1) := by decide +kernel
theorem dd_55_2 : decode prog_2_method_2_code 2 = .ok (.putfield 18, 3) := by decide +kernel
theorem dd_55_5 : decode prog_2_method_2_code 5 = .ok (.aload_n 0, 1) := by decide +kernel
theorem dd_55_6 : decode prog_2_method_2_code 6 = .ok (.iconst (-1), 1) := by decide +kernel
theorem dd_55_7 : decode prog_2_method_2_code 7 = .ok (.putfield 22, 3) := by decide +kernel
theorem dd_55_10 : decode prog_2_method_2_code 10 = .ok (.aload_n 0, 1) := by decide +kernel
theorem dd_55_11 : decode prog_2_method_2_code 11 = .ok (.iconst 0, 1) := by decide +kernel
theorem dd_55_12 : decode prog_2_method_2_code 12 = .ok (.putfield 25, 3) := by decide +kernel
theorem dd_55_15 : decode prog_2_method_2_code 15 = .ok (.return_, 1) := by decide +kernel
set_option maxRecDepth 100000 in
theorem okI_55 : mj_okI gG "PairMachine$Code" prog_2_method_2_code 1 (mj_off oM_55) (Option.none : Option Jvm.ClassFile.FieldType) false true 0 cM_55 :=
  ⟨Or.inl ⟨0, rfl, dd_55_0, rfl⟩,
   Or.inl (Or.inl ⟨dd_55_1, rfl⟩),
   ⟨18, "PairMachine$Code", fT4, 5, dd_55_2, rfl, okc_4, by decide, tw_368, rfl, Or.inl rfl⟩,
   Or.inl ⟨0, rfl, dd_55_5, rfl⟩,
   Or.inl (Or.inl ⟨dd_55_6, rfl⟩),
   ⟨22, "PairMachine$Code", fT4, 5, dd_55_7, rfl, okc_4, by decide, tw_369, rfl, Or.inl rfl⟩,
   Or.inl ⟨0, rfl, dd_55_10, rfl⟩,
   Or.inl (Or.inl ⟨dd_55_11, rfl⟩),
   ⟨25, "PairMachine$Code", fT4, 5, dd_55_12, rfl, okc_4, by decide, tw_370, Or.inl rfl, Or.inl rfl⟩,
   ⟨dd_55_15, rfl⟩, trivial⟩
theorem okM_55 : mj_okE gG 55 (cM_55, 1, oM_55, hM_55) := ⟨rfl, rfl, by decide +kernel, trivial, okI_55⟩
theorem dd_56_0 : decode prog_2_method_3_code 0 = .ok (.aload_n 0, 1) := by decide +kernel
theorem dd_56_1 : decode prog_2_method_3_code 1 = .ok (.getfield 18, 3) := by decide +kernel
theorem dd_56_4 : decode prog_2_method_3_code 4 = .ok (.istore_n 3, 1) := by decide +kernel
theorem dd_56_5 : decode prog_2_method_3_code 5 = .ok (.aload_n 0, 1) := by decide +kernel
theorem dd_56_6 : decode prog_2_method_3_code 6 = .ok (.dup, 1) := by decide +kernel
theorem dd_56_7 : decode prog_2_method_3_code 7 = .ok (.getfield 18, 3) := by decide +kernel
theorem dd_56_10 : decode prog_2_method_3_code 10 = .ok (.iconst 1, 1) := by decide +kernel
theorem dd_56_11 : decode prog_2_method_3_code 11 = .ok (.iadd, 1) := by decide +kernel
theorem dd_56_12 : decode prog_2_method_3_code 12 = .ok (.putfield 18, 3) := by decide +kernel
theorem dd_56_15 : decode prog_2_method_3_code 15 = .ok (.iload_n 3, 1) := by decide +kernel
theorem dd_56_16 : decode prog_2_method_3_code 16 = .ok (.aload_n 0, 1) := by decide +kernel
theorem dd_56_17 : decode prog_2_method_3_code 17 = .ok (.getfield 9, 3) := by decide +kernel
theorem dd_56_20 : decode prog_2_method_3_code 20 = .ok (.arraylength, 1) := by decide +kernel
theorem dd_56_21 : decode prog_2_method_3_code 21 = .ok (.if_icmp .ge 25, 3) := by decide +kernel
theorem dd_56_24 : decode prog_2_method_3_code 24 = .ok (.aload_n 0, 1) := by decide +kernel
theorem dd_56_25 : decode prog_2_method_3_code 25 = .ok (.getfield 9, 3) := by decide +kernel
theorem dd_56_28 : decode prog_2_method_3_code 28 = .ok (.iload_n 3, 1) := by decide +kernel
theorem dd_56_29 : decode prog_2_method_3_code 29 = .ok (.lload_n 1, 1) := by decide +kernel
theorem dd_56_30 : decode prog_2_method_3_code 30 = .ok (.lastore, 1) := by decide +kernel
theorem dd_56_31 : decode prog_2_method_3_code 31 = .ok (.aload_n 0, 1) := by decide +kernel
theorem dd_56_32 : decode prog_2_method_3_code 32 = .ok (.getfield 15, 3) := by decide +kernel
theorem dd_56_35 : decode prog_2_method_3_code 35 = .ok (.iload_n 3, 1) := by decide +kernel
theorem dd_56_36 : decode prog_2_method_3_code 36 = .ok (.lconst 0, 1) := by decide +kernel
theorem dd_56_37 : decode prog_2_method_3_code 37 = .ok (.lastore, 1) := by decide +kernel
theorem dd_56_38 : decode prog_2_method_3_code 38 = .ok (.aload_n 0, 1) := by decide +kernel
theorem dd_56_39 : decode prog_2_method_3_code 39 = .ok (.iload_n 3, 1) := by decide +kernel
theorem dd_56_40 : decode prog_2_method_3_code 40 = .ok (.invokestatic 31, 3) := by decide +kernel
theorem dd_56_43 : decode prog_2_method_3_code 43 = .ok (.invokevirtual 35, 3) := by decide +kernel
theorem dd_56_46 : decode prog_2_method_3_code 46 = .ok (.aload_n 0, 1) := by decide +kernel
theorem dd_56_47 : decode prog_2_method_3_code 47 = .ok (.iload_n 3, 1) := by decide +kernel
theorem dd_56_48 : decode prog_2_method_3_code 48 = .ok (.putfield 22, 3) := by decide +kernel
theorem dd_56_51 : decode prog_2_method_3_code 51 = .ok (.aload_n 0, 1) := by decide +kernel
theorem dd_56_52 : decode prog_2_method_3_code 52 = .ok (.iconst 0, 1) := by decide +kernel
theorem dd_56_53 : decode prog_2_method_3_code 53 = .ok (.putfield 25, 3) := by decide +kernel
theorem dd_56_56 : decode prog_2_method_3_code 56 = .ok (.return_, 1) := by decide +kernel
set_option maxRecDepth 100000 in
theorem okI_56 : mj_okI gG "PairMachine$Code" prog_2_method_3_code 4 (mj_off oM_56) (Option.none : Option Jvm.ClassFile.FieldType) false true 0 cM_56 :=
  ⟨Or.inl ⟨0, rfl, dd_56_0, rfl⟩,
   ⟨18, "PairMachine$Code", fT4, 5, dd_56_1, rfl, okc_4, by decide, tw_368⟩,
   ⟨by decide, Or.inl ⟨3, rfl, dd_56_4, rfl⟩⟩,
   Or.inl ⟨0, rfl, dd_56_5, rfl⟩,
   ⟨dd_56_6, rfl⟩,
   ⟨18, "PairMachine$Code", fT4, 5, dd_56_7, rfl, okc_4, by decide, tw_368⟩,
   Or.inl (Or.inl ⟨dd_56_10, rfl⟩),
   ⟨dd_56_11, rfl⟩,
   ⟨18, "PairMachine$Code", fT4, 5, dd_56_12, rfl, okc_4, by decide, tw_368, rfl, Or.inl rfl⟩,
   Or.inl ⟨3, rfl, dd_56_15, rfl⟩,
   Or.inl ⟨0, rfl, dd_56_16, rfl⟩,
   ⟨9, "PairMachine$Code", fT4, 5, dd_56_17, rfl, okc_4, by decide, tw_366⟩,
   ⟨dd_56_20, rfl⟩,
   ⟨25, dd_56_21, rfl, rfl⟩,
   Or.inl ⟨0, rfl, dd_56_24, rfl⟩,
   ⟨9, "PairMachine$Code", fT4, 5, dd_56_25, rfl, okc_4, by decide, tw_366⟩,
   Or.inl ⟨3, rfl, dd_56_28, rfl⟩,
   Or.inl ⟨1, rfl, dd_56_29, rfl⟩,
   ⟨dd_56_30, rfl⟩,
   Or.inl ⟨0, rfl, dd_56_31, rfl⟩,
   ⟨15, "PairMachine$Code", fT4, 5, dd_56_32, rfl, okc_4, by decide, tw_367⟩,
   Or.inl ⟨3, rfl, dd_56_35, rfl⟩,
   Or.inl ⟨0, rfl, dd_56_36, rfl⟩,
   ⟨dd_56_37, rfl⟩,
   Or.inl ⟨0, rfl, dd_56_38, rfl⟩,
   Or.inl ⟨3, rfl, dd_56_39, rfl⟩,
   ⟨rfl, tw_371, by decide, tw_372, by decide +kernel, 31, tw_373, dd_56_40, tw_374, by decide +kernel⟩,
   ⟨rfl, tw_375, by decide, tw_129, by decide +kernel, 35, tw_376, dd_56_43, tw_377, ⟨"PairMachine$Code", fT4, 5, rfl, tw_378⟩, by decide +kernel⟩,
   Or.inl ⟨0, rfl, dd_56_46, rfl⟩,
   Or.inl ⟨3, rfl, dd_56_47, rfl⟩,
   ⟨22, "PairMachine$Code", fT4, 5, dd_56_48, rfl, okc_4, by decide, tw_369, rfl, Or.inl rfl⟩,
   Or.inl ⟨0, rfl, dd_56_51, rfl⟩,
   Or.inl (Or.inl ⟨dd_56_52, rfl⟩),
   ⟨25, "PairMachine$Code", fT4, 5, dd_56_53, rfl, okc_4, by decide, tw_370, Or.inl rfl, Or.inl rfl⟩,
   ⟨dd_56_56, rfl⟩, trivial⟩
theorem okM_56 : mj_okE gG 56 (cM_56, 4, oM_56, hM_56) := ⟨rfl, rfl, by decide +kernel, trivial, okI_56⟩
end
