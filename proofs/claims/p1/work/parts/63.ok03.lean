theorem dd_43_0 : decode prog_7_method_10_code 0 = .ok (.iload_n 1, 1) := by decide +kernel
theorem dd_43_1 : decode prog_7_method_10_code 1 = .ok (.bipush 59, 2) := by decide +kernel
theorem dd_43_3 : decode prog_7_method_10_code 3 = .ok (.if_icmp .ne 8, 3) := by decide +kernel
theorem dd_43_6 : decode prog_7_method_10_code 6 = .ok (.bipush 9, 2) := by decide +kernel
theorem dd_43_8 : decode prog_7_method_10_code 8 = .ok (.goto 5, 3) := by decide +kernel
theorem dd_43_11 : decode prog_7_method_10_code 11 = .ok (.bipush 8, 2) := by decide +kernel
theorem dd_43_13 : decode prog_7_method_10_code 13 = .ok (.istore_n 3, 1) := by decide +kernel
theorem dd_43_14 : decode prog_7_method_10_code 14 = .ok (.aload_n 0, 1) := by decide +kernel
theorem dd_43_15 : decode prog_7_method_10_code 15 = .ok (.getfield 15, 3) := by decide +kernel
theorem dd_43_18 : decode prog_7_method_10_code 18 = .ok (.iload_n 3, 1) := by decide +kernel
theorem dd_43_19 : decode prog_7_method_10_code 19 = .ok (.iconst 0, 1) := by decide +kernel
theorem dd_43_20 : decode prog_7_method_10_code 20 = .ok (.aload_n 0, 1) := by decide +kernel
theorem dd_43_21 : decode prog_7_method_10_code 21 = .ok (.getfield 24, 3) := by decide +kernel
theorem dd_43_24 : decode prog_7_method_10_code 24 = .ok (.invokevirtual 49, 3) := by decide +kernel
theorem dd_43_27 : decode prog_7_method_10_code 27 = .ok (.istore 4, 2) := by decide +kernel
theorem dd_43_29 : decode prog_7_method_10_code 29 = .ok (.aload_n 0, 1) := by decide +kernel
theorem dd_43_30 : decode prog_7_method_10_code 30 = .ok (.dup, 1) := by decide +kernel
theorem dd_43_31 : decode prog_7_method_10_code 31 = .ok (.getfield 24, 3) := by decide +kernel
theorem dd_43_34 : decode prog_7_method_10_code 34 = .ok (.iconst 1, 1) := by decide +kernel
theorem dd_43_35 : decode prog_7_method_10_code 35 = .ok (.iadd, 1) := by decide +kernel
theorem dd_43_36 : decode prog_7_method_10_code 36 = .ok (.putfield 24, 3) := by decide +kernel
theorem dd_43_39 : decode prog_7_method_10_code 39 = .ok (.aload_n 0, 1) := by decide +kernel
theorem dd_43_40 : decode prog_7_method_10_code 40 = .ok (.bipush 32, 2) := by decide +kernel
theorem dd_43_42 : decode prog_7_method_10_code 42 = .ok (.invokevirtual 89, 3) := by decide +kernel
theorem dd_43_45 : decode prog_7_method_10_code 45 = .ok (.aload_n 0, 1) := by decide +kernel
theorem dd_43_46 : decode prog_7_method_10_code 46 = .ok (.getfield 15, 3) := by decide +kernel
theorem dd_43_49 : decode prog_7_method_10_code 49 = .ok (.iload 4, 2) := by decide +kernel
theorem dd_43_51 : decode prog_7_method_10_code 51 = .ok (.aload_n 0, 1) := by decide +kernel
theorem dd_43_52 : decode prog_7_method_10_code 52 = .ok (.iload_n 2, 1) := by decide +kernel
theorem dd_43_53 : decode prog_7_method_10_code 53 = .ok (.invokevirtual 28, 3) := by decide +kernel
theorem dd_43_56 : decode prog_7_method_10_code 56 = .ok (.invokevirtual 56, 3) := by decide +kernel
theorem dd_43_59 : decode prog_7_method_10_code 59 = .ok (.aload_n 0, 1) := by decide +kernel
theorem dd_43_60 : decode prog_7_method_10_code 60 = .ok (.bipush 32, 2) := by decide +kernel
theorem dd_43_62 : decode prog_7_method_10_code 62 = .ok (.invokevirtual 89, 3) := by decide +kernel
theorem dd_43_65 : decode prog_7_method_10_code 65 = .ok (.aload_n 0, 1) := by decide +kernel
theorem dd_43_66 : decode prog_7_method_10_code 66 = .ok (.iload 4, 2) := by decide +kernel
theorem dd_43_68 : decode prog_7_method_10_code 68 = .ok (.iload_n 2, 1) := by decide +kernel
theorem dd_43_69 : decode prog_7_method_10_code 69 = .ok (.invokevirtual 104, 3) := by decide +kernel
theorem dd_43_72 : decode prog_7_method_10_code 72 = .ok (.iconst 1, 1) := by decide +kernel
theorem dd_43_73 : decode prog_7_method_10_code 73 = .ok (.istore 5, 2) := by decide +kernel
theorem dd_43_75 : decode prog_7_method_10_code 75 = .ok (.iload 5, 2) := by decide +kernel
theorem dd_43_77 : decode prog_7_method_10_code 77 = .ok (.iconst 3, 1) := by decide +kernel
theorem dd_43_78 : decode prog_7_method_10_code 78 = .ok (.if_icmp .ge 42, 3) := by decide +kernel
theorem dd_43_81 : decode prog_7_method_10_code 81 = .ok (.aload_n 0, 1) := by decide +kernel
theorem dd_43_82 : decode prog_7_method_10_code 82 = .ok (.getfield 9, 3) := by decide +kernel
theorem dd_43_85 : decode prog_7_method_10_code 85 = .ok (.aload_n 0, 1) := by decide +kernel
theorem dd_43_86 : decode prog_7_method_10_code 86 = .ok (.getfield 24, 3) := by decide +kernel
theorem dd_43_89 : decode prog_7_method_10_code 89 = .ok (.invokevirtual 40, 3) := by decide +kernel
theorem dd_43_92 : decode prog_7_method_10_code 92 = .ok (.bipush 32, 2) := by decide +kernel
theorem dd_43_94 : decode prog_7_method_10_code 94 = .ok (.if_icmp .ne 26, 3) := by decide +kernel
theorem dd_43_97 : decode prog_7_method_10_code 97 = .ok (.aload_n 0, 1) := by decide +kernel
theorem dd_43_98 : decode prog_7_method_10_code 98 = .ok (.dup, 1) := by decide +kernel
theorem dd_43_99 : decode prog_7_method_10_code 99 = .ok (.getfield 24, 3) := by decide +kernel
theorem dd_43_102 : decode prog_7_method_10_code 102 = .ok (.iconst 1, 1) := by decide +kernel
theorem dd_43_103 : decode prog_7_method_10_code 103 = .ok (.iadd, 1) := by decide +kernel
theorem dd_43_104 : decode prog_7_method_10_code 104 = .ok (.putfield 24, 3) := by decide +kernel
theorem dd_43_107 : decode prog_7_method_10_code 107 = .ok (.aload_n 0, 1) := by decide +kernel
theorem dd_43_108 : decode prog_7_method_10_code 108 = .ok (.iload 4, 2) := by decide +kernel
theorem dd_43_110 : decode prog_7_method_10_code 110 = .ok (.iload_n 2, 1) := by decide +kernel
theorem dd_43_111 : decode prog_7_method_10_code 111 = .ok (.invokevirtual 104, 3) := by decide +kernel
theorem dd_43_114 : decode prog_7_method_10_code 114 = .ok (.iinc 5 1, 3) := by decide +kernel
theorem dd_43_117 : decode prog_7_method_10_code 117 = .ok (.goto (-42), 3) := by decide +kernel
theorem dd_43_120 : decode prog_7_method_10_code 120 = .ok (.aload_n 0, 1) := by decide +kernel
theorem dd_43_121 : decode prog_7_method_10_code 121 = .ok (.bipush 41, 2) := by decide +kernel
theorem dd_43_123 : decode prog_7_method_10_code 123 = .ok (.invokevirtual 89, 3) := by decide +kernel
theorem dd_43_126 : decode prog_7_method_10_code 126 = .ok (.iload 4, 2) := by decide +kernel
theorem dd_43_128 : decode prog_7_method_10_code 128 = .ok (.ireturn, 1) := by decide +kernel
set_option maxRecDepth 100000 in
theorem okI_43 : mj_okI gG "PairMachine$Reader" prog_7_method_10_code 6 (mj_off oM_43) (Option.some Jvm.ClassFile.FieldType.int) false true 0 cM_43 :=
  ⟨Or.inl ⟨1, rfl, dd_43_0, rfl⟩,
   Or.inl (Or.inr (Or.inl ⟨dd_43_1, rfl, by decide⟩)),
   ⟨8, dd_43_3, rfl, rfl⟩,
   Or.inl (Or.inr (Or.inl ⟨dd_43_6, rfl, by decide⟩)),
   ⟨5, dd_43_8, rfl⟩,
   Or.inl (Or.inr (Or.inl ⟨dd_43_11, rfl, by decide⟩)),
   ⟨by decide, Or.inl ⟨3, rfl, dd_43_13, rfl⟩⟩,
   Or.inl ⟨0, rfl, dd_43_14, rfl⟩,
   ⟨15, "PairMachine$Reader", fT3, 3, dd_43_15, rfl, okc_3, by decide, tw_258⟩,
   Or.inl ⟨3, rfl, dd_43_18, rfl⟩,
   Or.inl (Or.inl ⟨dd_43_19, rfl⟩),
   Or.inl ⟨0, rfl, dd_43_20, rfl⟩,
   ⟨24, "PairMachine$Reader", fT3, 3, dd_43_21, rfl, okc_3, by decide, tw_263⟩,
   ⟨rfl, tw_284, by decide, tw_113, by decide +kernel, 49, tw_285, dd_43_24, tw_286, ⟨"PairMachine$Tree", fT2, 7, rfl, tw_287⟩, by decide +kernel⟩,
   ⟨by decide, Or.inr ⟨dd_43_27, rfl⟩⟩,
   Or.inl ⟨0, rfl, dd_43_29, rfl⟩,
   ⟨dd_43_30, rfl⟩,
   ⟨24, "PairMachine$Reader", fT3, 3, dd_43_31, rfl, okc_3, by decide, tw_263⟩,
   Or.inl (Or.inl ⟨dd_43_34, rfl⟩),
   ⟨dd_43_35, rfl⟩,
   ⟨24, "PairMachine$Reader", fT3, 3, dd_43_36, rfl, okc_3, by decide, tw_263, rfl, Or.inl rfl⟩,
   Or.inl ⟨0, rfl, dd_43_39, rfl⟩,
   Or.inl (Or.inr (Or.inl ⟨dd_43_40, rfl, by decide⟩)),
   ⟨rfl, tw_326, by decide, tw_126, by decide +kernel, 89, tw_327, dd_43_42, tw_328, ⟨"PairMachine$Reader", fT3, 3, rfl, tw_329⟩, by decide +kernel⟩,
   Or.inl ⟨0, rfl, dd_43_45, rfl⟩,
   ⟨15, "PairMachine$Reader", fT3, 3, dd_43_46, rfl, okc_3, by decide, tw_258⟩,
   Or.inr ⟨dd_43_49, rfl⟩,
   Or.inl ⟨0, rfl, dd_43_51, rfl⟩,
   Or.inl ⟨2, rfl, dd_43_52, rfl⟩,
   ⟨rfl, tw_264, by decide, tw_126, by decide +kernel, 28, tw_265, dd_43_53, tw_266, ⟨"PairMachine$Reader", fT3, 3, rfl, tw_267⟩, by decide +kernel⟩,
   ⟨rfl, tw_292, by decide, tw_113, by decide +kernel, 56, tw_293, dd_43_56, tw_294, ⟨"PairMachine$Tree", fT2, 7, rfl, tw_295⟩, by decide +kernel⟩,
   Or.inl ⟨0, rfl, dd_43_59, rfl⟩,
   Or.inl (Or.inr (Or.inl ⟨dd_43_60, rfl, by decide⟩)),
   ⟨rfl, tw_326, by decide, tw_126, by decide +kernel, 89, tw_327, dd_43_62, tw_328, ⟨"PairMachine$Reader", fT3, 3, rfl, tw_329⟩, by decide +kernel⟩,
   Or.inl ⟨0, rfl, dd_43_65, rfl⟩,
   Or.inr ⟨dd_43_66, rfl⟩,
   Or.inl ⟨2, rfl, dd_43_68, rfl⟩,
   ⟨rfl, tw_343, by decide, tw_126, by decide +kernel, 104, tw_344, dd_43_69, tw_345, ⟨"PairMachine$Reader", fT3, 3, rfl, tw_346⟩, by decide +kernel⟩,
   Or.inl (Or.inl ⟨dd_43_72, rfl⟩),
   ⟨by decide, Or.inr ⟨dd_43_73, rfl⟩⟩,
   Or.inr ⟨dd_43_75, rfl⟩,
   Or.inl (Or.inl ⟨dd_43_77, rfl⟩),
   ⟨42, dd_43_78, rfl, rfl⟩,
   Or.inl ⟨0, rfl, dd_43_81, rfl⟩,
   ⟨9, "PairMachine$Reader", fT3, 3, dd_43_82, rfl, okc_3, by decide, tw_257⟩,
   Or.inl ⟨0, rfl, dd_43_85, rfl⟩,
   ⟨24, "PairMachine$Reader", fT3, 3, dd_43_86, rfl, okc_3, by decide, tw_263⟩,
   ⟨rfl, tw_272, by decide, tw_119, by decide +kernel, 40, tw_273, dd_43_89, tw_274, ⟨"PairMachine$Text", fT1, 2, rfl, tw_275⟩, by decide +kernel⟩,
   Or.inl (Or.inr (Or.inl ⟨dd_43_92, rfl, by decide⟩)),
   ⟨26, dd_43_94, rfl, rfl⟩,
   Or.inl ⟨0, rfl, dd_43_97, rfl⟩,
   ⟨dd_43_98, rfl⟩,
   ⟨24, "PairMachine$Reader", fT3, 3, dd_43_99, rfl, okc_3, by decide, tw_263⟩,
   Or.inl (Or.inl ⟨dd_43_102, rfl⟩),
   ⟨dd_43_103, rfl⟩,
   ⟨24, "PairMachine$Reader", fT3, 3, dd_43_104, rfl, okc_3, by decide, tw_263, rfl, Or.inl rfl⟩,
   Or.inl ⟨0, rfl, dd_43_107, rfl⟩,
   Or.inr ⟨dd_43_108, rfl⟩,
   Or.inl ⟨2, rfl, dd_43_110, rfl⟩,
   ⟨rfl, tw_343, by decide, tw_126, by decide +kernel, 104, tw_344, dd_43_111, tw_345, ⟨"PairMachine$Reader", fT3, 3, rfl, tw_346⟩, by decide +kernel⟩,
   ⟨by decide, dd_43_114, rfl⟩,
   ⟨(-42), dd_43_117, rfl⟩,
   Or.inl ⟨0, rfl, dd_43_120, rfl⟩,
   Or.inl (Or.inr (Or.inl ⟨dd_43_121, rfl, by decide⟩)),
   ⟨rfl, tw_326, by decide, tw_126, by decide +kernel, 89, tw_327, dd_43_123, tw_328, ⟨"PairMachine$Reader", fT3, 3, rfl, tw_329⟩, by decide +kernel⟩,
   Or.inr ⟨dd_43_126, rfl⟩,
   ⟨dd_43_128, rfl⟩, trivial⟩
theorem okM_43 : mj_okE gG 43 (cM_43, 6, oM_43, hM_43) := ⟨rfl, rfl, by decide +kernel, trivial, okI_43⟩
theorem dd_44_0 : decode prog_7_method_11_code 0 = .ok (.aload_n 0, 1) := by decide +kernel
theorem dd_44_1 : decode prog_7_method_11_code 1 = .ok (.iload_n 2, 1) := by decide +kernel
theorem dd_44_2 : decode prog_7_method_11_code 2 = .ok (.invokevirtual 60, 3) := by decide +kernel
theorem dd_44_5 : decode prog_7_method_11_code 5 = .ok (.aload_n 0, 1) := by decide +kernel
theorem dd_44_6 : decode prog_7_method_11_code 6 = .ok (.aload_n 0, 1) := by decide +kernel
theorem dd_44_7 : decode prog_7_method_11_code 7 = .ok (.getfield 15, 3) := by decide +kernel
theorem dd_44_10 : decode prog_7_method_11_code 10 = .ok (.iload_n 1, 1) := by decide +kernel
theorem dd_44_11 : decode prog_7_method_11_code 11 = .ok (.iconst 1, 1) := by decide +kernel
theorem dd_44_12 : decode prog_7_method_11_code 12 = .ok (.invokevirtual 107, 3) := by decide +kernel
theorem dd_44_15 : decode prog_7_method_11_code 15 = .ok (.invokevirtual 101, 3) := by decide +kernel
theorem dd_44_18 : decode prog_7_method_11_code 18 = .ok (.istore_n 3, 1) := by decide +kernel
theorem dd_44_19 : decode prog_7_method_11_code 19 = .ok (.aload_n 0, 1) := by decide +kernel
theorem dd_44_20 : decode prog_7_method_11_code 20 = .ok (.getfield 15, 3) := by decide +kernel
theorem dd_44_23 : decode prog_7_method_11_code 23 = .ok (.bipush 10, 2) := by decide +kernel
theorem dd_44_25 : decode prog_7_method_11_code 25 = .ok (.iload_n 3, 1) := by decide +kernel
theorem dd_44_26 : decode prog_7_method_11_code 26 = .ok (.aload_n 0, 1) := by decide +kernel
theorem dd_44_27 : decode prog_7_method_11_code 27 = .ok (.getfield 24, 3) := by decide +kernel
theorem dd_44_30 : decode prog_7_method_11_code 30 = .ok (.invokevirtual 49, 3) := by decide +kernel
theorem dd_44_33 : decode prog_7_method_11_code 33 = .ok (.istore 4, 2) := by decide +kernel
theorem dd_44_35 : decode prog_7_method_11_code 35 = .ok (.aload_n 0, 1) := by decide +kernel
theorem dd_44_36 : decode prog_7_method_11_code 36 = .ok (.dup, 1) := by decide +kernel
theorem dd_44_37 : decode prog_7_method_11_code 37 = .ok (.getfield 24, 3) := by decide +kernel
theorem dd_44_40 : decode prog_7_method_11_code 40 = .ok (.iconst 1, 1) := by decide +kernel
theorem dd_44_41 : decode prog_7_method_11_code 41 = .ok (.iadd, 1) := by decide +kernel
theorem dd_44_42 : decode prog_7_method_11_code 42 = .ok (.putfield 24, 3) := by decide +kernel
theorem dd_44_45 : decode prog_7_method_11_code 45 = .ok (.aload_n 0, 1) := by decide +kernel
theorem dd_44_46 : decode prog_7_method_11_code 46 = .ok (.bipush 32, 2) := by decide +kernel
theorem dd_44_48 : decode prog_7_method_11_code 48 = .ok (.invokevirtual 89, 3) := by decide +kernel
theorem dd_44_51 : decode prog_7_method_11_code 51 = .ok (.aload_n 0, 1) := by decide +kernel
theorem dd_44_52 : decode prog_7_method_11_code 52 = .ok (.getfield 15, 3) := by decide +kernel
theorem dd_44_55 : decode prog_7_method_11_code 55 = .ok (.iload_n 1, 1) := by decide +kernel
theorem dd_44_56 : decode prog_7_method_11_code 56 = .ok (.invokevirtual 110, 3) := by decide +kernel
theorem dd_44_59 : decode prog_7_method_11_code 59 = .ok (.bipush 9, 2) := by decide +kernel
theorem dd_44_61 : decode prog_7_method_11_code 61 = .ok (.if_icmp .ne 29, 3) := by decide +kernel
theorem dd_44_64 : decode prog_7_method_11_code 64 = .ok (.aload_n 0, 1) := by decide +kernel
theorem dd_44_65 : decode prog_7_method_11_code 65 = .ok (.iload_n 2, 1) := by decide +kernel
theorem dd_44_66 : decode prog_7_method_11_code 66 = .ok (.iconst 1, 1) := by decide +kernel
theorem dd_44_67 : decode prog_7_method_11_code 67 = .ok (.iadd, 1) := by decide +kernel
theorem dd_44_68 : decode prog_7_method_11_code 68 = .ok (.invokevirtual 60, 3) := by decide +kernel
theorem dd_44_71 : decode prog_7_method_11_code 71 = .ok (.aload_n 0, 1) := by decide +kernel
theorem dd_44_72 : decode prog_7_method_11_code 72 = .ok (.getfield 15, 3) := by decide +kernel
theorem dd_44_75 : decode prog_7_method_11_code 75 = .ok (.iload 4, 2) := by decide +kernel
theorem dd_44_77 : decode prog_7_method_11_code 77 = .ok (.aload_n 0, 1) := by decide +kernel
theorem dd_44_78 : decode prog_7_method_11_code 78 = .ok (.iload_n 2, 1) := by decide +kernel
theorem dd_44_79 : decode prog_7_method_11_code 79 = .ok (.iconst 2, 1) := by decide +kernel
theorem dd_44_80 : decode prog_7_method_11_code 80 = .ok (.iadd, 1) := by decide +kernel
theorem dd_44_81 : decode prog_7_method_11_code 81 = .ok (.invokevirtual 64, 3) := by decide +kernel
theorem dd_44_84 : decode prog_7_method_11_code 84 = .ok (.invokevirtual 56, 3) := by decide +kernel
theorem dd_44_87 : decode prog_7_method_11_code 87 = .ok (.goto 19, 3) := by decide +kernel
theorem dd_44_90 : decode prog_7_method_11_code 90 = .ok (.aload_n 0, 1) := by decide +kernel
theorem dd_44_91 : decode prog_7_method_11_code 91 = .ok (.getfield 15, 3) := by decide +kernel
theorem dd_44_94 : decode prog_7_method_11_code 94 = .ok (.iload 4, 2) := by decide +kernel
theorem dd_44_96 : decode prog_7_method_11_code 96 = .ok (.aload_n 0, 1) := by decide +kernel
theorem dd_44_97 : decode prog_7_method_11_code 97 = .ok (.iload_n 2, 1) := by decide +kernel
theorem dd_44_98 : decode prog_7_method_11_code 98 = .ok (.iconst 1, 1) := by decide +kernel
theorem dd_44_99 : decode prog_7_method_11_code 99 = .ok (.iadd, 1) := by decide +kernel
theorem dd_44_100 : decode prog_7_method_11_code 100 = .ok (.invokevirtual 28, 3) := by decide +kernel
theorem dd_44_103 : decode prog_7_method_11_code 103 = .ok (.invokevirtual 56, 3) := by decide +kernel
theorem dd_44_106 : decode prog_7_method_11_code 106 = .ok (.aload_n 0, 1) := by decide +kernel
theorem dd_44_107 : decode prog_7_method_11_code 107 = .ok (.bipush 41, 2) := by decide +kernel
theorem dd_44_109 : decode prog_7_method_11_code 109 = .ok (.invokevirtual 89, 3) := by decide +kernel
theorem dd_44_112 : decode prog_7_method_11_code 112 = .ok (.aload_n 0, 1) := by decide +kernel
theorem dd_44_113 : decode prog_7_method_11_code 113 = .ok (.getfield 15, 3) := by decide +kernel
theorem dd_44_116 : decode prog_7_method_11_code 116 = .ok (.iload_n 1, 1) := by decide +kernel
theorem dd_44_117 : decode prog_7_method_11_code 117 = .ok (.iload 4, 2) := by decide +kernel
theorem dd_44_119 : decode prog_7_method_11_code 119 = .ok (.invokevirtual 56, 3) := by decide +kernel
theorem dd_44_122 : decode prog_7_method_11_code 122 = .ok (.return_, 1) := by decide +kernel
set_option maxRecDepth 100000 in
theorem okI_44 : mj_okI gG "PairMachine$Reader" prog_7_method_11_code 5 (mj_off oM_44) (Option.none : Option Jvm.ClassFile.FieldType) false true 0 cM_44 :=
  ⟨Or.inl ⟨0, rfl, dd_44_0, rfl⟩,
   Or.inl ⟨2, rfl, dd_44_1, rfl⟩,
   ⟨rfl, tw_296, by decide, tw_126, by decide +kernel, 60, tw_297, dd_44_2, tw_298, ⟨"PairMachine$Reader", fT3, 3, rfl, tw_299⟩, by decide +kernel⟩,
   Or.inl ⟨0, rfl, dd_44_5, rfl⟩,
   Or.inl ⟨0, rfl, dd_44_6, rfl⟩,
   ⟨15, "PairMachine$Reader", fT3, 3, dd_44_7, rfl, okc_3, by decide, tw_258⟩,
   Or.inl ⟨1, rfl, dd_44_10, rfl⟩,
   Or.inl (Or.inl ⟨dd_44_11, rfl⟩),
   ⟨rfl, tw_347, by decide, tw_113, by decide +kernel, 107, tw_348, dd_44_12, tw_349, ⟨"PairMachine$Tree", fT2, 7, rfl, tw_350⟩, by decide +kernel⟩,
   ⟨rfl, tw_339, by decide, tw_126, by decide +kernel, 101, tw_340, dd_44_15, tw_341, ⟨"PairMachine$Reader", fT3, 3, rfl, tw_342⟩, by decide +kernel⟩,
   ⟨by decide, Or.inl ⟨3, rfl, dd_44_18, rfl⟩⟩,
   Or.inl ⟨0, rfl, dd_44_19, rfl⟩,
   ⟨15, "PairMachine$Reader", fT3, 3, dd_44_20, rfl, okc_3, by decide, tw_258⟩,
   Or.inl (Or.inr (Or.inl ⟨dd_44_23, rfl, by decide⟩)),
   Or.inl ⟨3, rfl, dd_44_25, rfl⟩,
   Or.inl ⟨0, rfl, dd_44_26, rfl⟩,
   ⟨24, "PairMachine$Reader", fT3, 3, dd_44_27, rfl, okc_3, by decide, tw_263⟩,
   ⟨rfl, tw_284, by decide, tw_113, by decide +kernel, 49, tw_285, dd_44_30, tw_286, ⟨"PairMachine$Tree", fT2, 7, rfl, tw_287⟩, by decide +kernel⟩,
   ⟨by decide, Or.inr ⟨dd_44_33, rfl⟩⟩,
   Or.inl ⟨0, rfl, dd_44_35, rfl⟩,
   ⟨dd_44_36, rfl⟩,
   ⟨24, "PairMachine$Reader", fT3, 3, dd_44_37, rfl, okc_3, by decide, tw_263⟩,
   Or.inl (Or.inl ⟨dd_44_40, rfl⟩),
   ⟨dd_44_41, rfl⟩,
   ⟨24, "PairMachine$Reader", fT3, 3, dd_44_42, rfl, okc_3, by decide, tw_263, rfl, Or.inl rfl⟩,
   Or.inl ⟨0, rfl, dd_44_45, rfl⟩,
   Or.inl (Or.inr (Or.inl ⟨dd_44_46, rfl, by decide⟩)),
   ⟨rfl, tw_326, by decide, tw_126, by decide +kernel, 89, tw_327, dd_44_48, tw_328, ⟨"PairMachine$Reader", fT3, 3, rfl, tw_329⟩, by decide +kernel⟩,
   Or.inl ⟨0, rfl, dd_44_51, rfl⟩,
   ⟨15, "PairMachine$Reader", fT3, 3, dd_44_52, rfl, okc_3, by decide, tw_258⟩,
   Or.inl ⟨1, rfl, dd_44_55, rfl⟩,
   ⟨rfl, tw_351, by decide, tw_113, by decide +kernel, 110, tw_352, dd_44_56, tw_353, ⟨"PairMachine$Tree", fT2, 7, rfl, tw_354⟩, by decide +kernel⟩,
   Or.inl (Or.inr (Or.inl ⟨dd_44_59, rfl, by decide⟩)),
   ⟨29, dd_44_61, rfl, rfl⟩,
   Or.inl ⟨0, rfl, dd_44_64, rfl⟩,
   Or.inl ⟨2, rfl, dd_44_65, rfl⟩,
   Or.inl (Or.inl ⟨dd_44_66, rfl⟩),
   ⟨dd_44_67, rfl⟩,
   ⟨rfl, tw_296, by decide, tw_126, by decide +kernel, 60, tw_297, dd_44_68, tw_298, ⟨"PairMachine$Reader", fT3, 3, rfl, tw_299⟩, by decide +kernel⟩,
   Or.inl ⟨0, rfl, dd_44_71, rfl⟩,
   ⟨15, "PairMachine$Reader", fT3, 3, dd_44_72, rfl, okc_3, by decide, tw_258⟩,
   Or.inr ⟨dd_44_75, rfl⟩,
   Or.inl ⟨0, rfl, dd_44_77, rfl⟩,
   Or.inl ⟨2, rfl, dd_44_78, rfl⟩,
   Or.inl (Or.inl ⟨dd_44_79, rfl⟩),
   ⟨dd_44_80, rfl⟩,
   ⟨rfl, tw_300, by decide, tw_126, by decide +kernel, 64, tw_301, dd_44_81, tw_302, ⟨"PairMachine$Reader", fT3, 3, rfl, tw_303⟩, by decide +kernel⟩,
   ⟨rfl, tw_292, by decide, tw_113, by decide +kernel, 56, tw_293, dd_44_84, tw_294, ⟨"PairMachine$Tree", fT2, 7, rfl, tw_295⟩, by decide +kernel⟩,
   ⟨19, dd_44_87, rfl⟩,
   Or.inl ⟨0, rfl, dd_44_90, rfl⟩,
   ⟨15, "PairMachine$Reader", fT3, 3, dd_44_91, rfl, okc_3, by decide, tw_258⟩,
   Or.inr ⟨dd_44_94, rfl⟩,
   Or.inl ⟨0, rfl, dd_44_96, rfl⟩,
   Or.inl ⟨2, rfl, dd_44_97, rfl⟩,
   Or.inl (Or.inl ⟨dd_44_98, rfl⟩),
   ⟨dd_44_99, rfl⟩,
   ⟨rfl, tw_264, by decide, tw_126, by decide +kernel, 28, tw_265, dd_44_100, tw_266, ⟨"PairMachine$Reader", fT3, 3, rfl, tw_267⟩, by decide +kernel⟩,
   ⟨rfl, tw_292, by decide, tw_113, by decide +kernel, 56, tw_293, dd_44_103, tw_294, ⟨"PairMachine$Tree", fT2, 7, rfl, tw_295⟩, by decide +kernel⟩,
   Or.inl ⟨0, rfl, dd_44_106, rfl⟩,
   Or.inl (Or.inr (Or.inl ⟨dd_44_107, rfl, by decide⟩)),
   ⟨rfl, tw_326, by decide, tw_126, by decide +kernel, 89, tw_327, dd_44_109, tw_328, ⟨"PairMachine$Reader", fT3, 3, rfl, tw_329⟩, by decide +kernel⟩,
   Or.inl ⟨0, rfl, dd_44_112, rfl⟩,
   ⟨15, "PairMachine$Reader", fT3, 3, dd_44_113, rfl, okc_3, by decide, tw_258⟩,
   Or.inl ⟨1, rfl, dd_44_116, rfl⟩,
   Or.inr ⟨dd_44_117, rfl⟩,
   ⟨rfl, tw_292, by decide, tw_113, by decide +kernel, 56, tw_293, dd_44_119, tw_294, ⟨"PairMachine$Tree", fT2, 7, rfl, tw_295⟩, by decide +kernel⟩,
   ⟨dd_44_122, rfl⟩, trivial⟩
theorem okM_44 : mj_okE gG 44 (cM_44, 5, oM_44, hM_44) := ⟨rfl, rfl, by decide +kernel, trivial, okI_44⟩
theorem dd_45_0 : decode prog_7_method_12_code 0 = .ok (.aload_n 0, 1) := by decide +kernel
theorem dd_45_1 : decode prog_7_method_12_code 1 = .ok (.getfield 9, 3) := by decide +kernel
theorem dd_45_4 : decode prog_7_method_12_code 4 = .ok (.aload_n 0, 1) := by decide +kernel
theorem dd_45_5 : decode prog_7_method_12_code 5 = .ok (.getfield 24, 3) := by decide +kernel
theorem dd_45_8 : decode prog_7_method_12_code 8 = .ok (.invokevirtual 40, 3) := by decide +kernel
theorem dd_45_11 : decode prog_7_method_12_code 11 = .ok (.bipush 40, 2) := by decide +kernel
theorem dd_45_13 : decode prog_7_method_12_code 13 = .ok (.if_icmp .eq 8, 3) := by decide +kernel
theorem dd_45_16 : decode prog_7_method_12_code 16 = .ok (.aload_n 0, 1) := by decide +kernel
theorem dd_45_17 : decode prog_7_method_12_code 17 = .ok (.invokevirtual 46, 3) := by decide +kernel
theorem dd_45_20 : decode prog_7_method_12_code 20 = .ok (.ireturn, 1) := by decide +kernel
theorem dd_45_21 : decode prog_7_method_12_code 21 = .ok (.aload_n 0, 1) := by decide +kernel
theorem dd_45_22 : decode prog_7_method_12_code 22 = .ok (.getfield 15, 3) := by decide +kernel
theorem dd_45_25 : decode prog_7_method_12_code 25 = .ok (.iconst 3, 1) := by decide +kernel
theorem dd_45_26 : decode prog_7_method_12_code 26 = .ok (.iconst 0, 1) := by decide +kernel
theorem dd_45_27 : decode prog_7_method_12_code 27 = .ok (.aload_n 0, 1) := by decide +kernel
theorem dd_45_28 : decode prog_7_method_12_code 28 = .ok (.getfield 24, 3) := by decide +kernel
theorem dd_45_31 : decode prog_7_method_12_code 31 = .ok (.invokevirtual 49, 3) := by decide +kernel
theorem dd_45_34 : decode prog_7_method_12_code 34 = .ok (.istore_n 2, 1) := by decide +kernel
theorem dd_45_35 : decode prog_7_method_12_code 35 = .ok (.aload_n 0, 1) := by decide +kernel
theorem dd_45_36 : decode prog_7_method_12_code 36 = .ok (.iload_n 1, 1) := by decide +kernel
theorem dd_45_37 : decode prog_7_method_12_code 37 = .ok (.invokevirtual 60, 3) := by decide +kernel
theorem dd_45_40 : decode prog_7_method_12_code 40 = .ok (.aload_n 0, 1) := by decide +kernel
theorem dd_45_41 : decode prog_7_method_12_code 41 = .ok (.getfield 9, 3) := by decide +kernel
theorem dd_45_44 : decode prog_7_method_12_code 44 = .ok (.aload_n 0, 1) := by decide +kernel
theorem dd_45_45 : decode prog_7_method_12_code 45 = .ok (.getfield 24, 3) := by decide +kernel
theorem dd_45_48 : decode prog_7_method_12_code 48 = .ok (.invokevirtual 40, 3) := by decide +kernel
theorem dd_45_51 : decode prog_7_method_12_code 51 = .ok (.bipush 41, 2) := by decide +kernel
theorem dd_45_53 : decode prog_7_method_12_code 53 = .ok (.if_icmp .eq 73, 3) := by decide +kernel
theorem dd_45_56 : decode prog_7_method_12_code 56 = .ok (.aload_n 0, 1) := by decide +kernel
theorem dd_45_57 : decode prog_7_method_12_code 57 = .ok (.getfield 15, 3) := by decide +kernel
theorem dd_45_60 : decode prog_7_method_12_code 60 = .ok (.iload_n 2, 1) := by decide +kernel
theorem dd_45_61 : decode prog_7_method_12_code 61 = .ok (.aload_n 0, 1) := by decide +kernel
theorem dd_45_62 : decode prog_7_method_12_code 62 = .ok (.iload_n 1, 1) := by decide +kernel
theorem dd_45_63 : decode prog_7_method_12_code 63 = .ok (.iconst 1, 1) := by decide +kernel
theorem dd_45_64 : decode prog_7_method_12_code 64 = .ok (.iadd, 1) := by decide +kernel
theorem dd_45_65 : decode prog_7_method_12_code 65 = .ok (.invokevirtual 53, 3) := by decide +kernel
theorem dd_45_68 : decode prog_7_method_12_code 68 = .ok (.invokevirtual 56, 3) := by decide +kernel
theorem dd_45_71 : decode prog_7_method_12_code 71 = .ok (.iconst 1, 1) := by decide +kernel
theorem dd_45_72 : decode prog_7_method_12_code 72 = .ok (.istore_n 3, 1) := by decide +kernel
theorem dd_45_73 : decode prog_7_method_12_code 73 = .ok (.iload_n 3, 1) := by decide +kernel
theorem dd_45_74 : decode prog_7_method_12_code 74 = .ok (.bipush 96, 2) := by decide +kernel
theorem dd_45_76 : decode prog_7_method_12_code 76 = .ok (.if_icmp .ge 50, 3) := by decide +kernel
theorem dd_45_79 : decode prog_7_method_12_code 79 = .ok (.aload_n 0, 1) := by decide +kernel
theorem dd_45_80 : decode prog_7_method_12_code 80 = .ok (.getfield 9, 3) := by decide +kernel
theorem dd_45_83 : decode prog_7_method_12_code 83 = .ok (.aload_n 0, 1) := by decide +kernel
theorem dd_45_84 : decode prog_7_method_12_code 84 = .ok (.getfield 24, 3) := by decide +kernel
theorem dd_45_87 : decode prog_7_method_12_code 87 = .ok (.invokevirtual 40, 3) := by decide +kernel
theorem dd_45_90 : decode prog_7_method_12_code 90 = .ok (.bipush 32, 2) := by decide +kernel
theorem dd_45_92 : decode prog_7_method_12_code 92 = .ok (.if_icmp .ne 34, 3) := by decide +kernel
theorem dd_45_95 : decode prog_7_method_12_code 95 = .ok (.aload_n 0, 1) := by decide +kernel
theorem dd_45_96 : decode prog_7_method_12_code 96 = .ok (.dup, 1) := by decide +kernel
theorem dd_45_97 : decode prog_7_method_12_code 97 = .ok (.getfield 24, 3) := by decide +kernel
theorem dd_45_100 : decode prog_7_method_12_code 100 = .ok (.iconst 1, 1) := by decide +kernel
theorem dd_45_101 : decode prog_7_method_12_code 101 = .ok (.iadd, 1) := by decide +kernel
theorem dd_45_102 : decode prog_7_method_12_code 102 = .ok (.putfield 24, 3) := by decide +kernel
theorem dd_45_105 : decode prog_7_method_12_code 105 = .ok (.aload_n 0, 1) := by decide +kernel
theorem dd_45_106 : decode prog_7_method_12_code 106 = .ok (.getfield 15, 3) := by decide +kernel
theorem dd_45_109 : decode prog_7_method_12_code 109 = .ok (.iload_n 2, 1) := by decide +kernel
theorem dd_45_110 : decode prog_7_method_12_code 110 = .ok (.aload_n 0, 1) := by decide +kernel
theorem dd_45_111 : decode prog_7_method_12_code 111 = .ok (.iload_n 1, 1) := by decide +kernel
theorem dd_45_112 : decode prog_7_method_12_code 112 = .ok (.iconst 1, 1) := by decide +kernel
theorem dd_45_113 : decode prog_7_method_12_code 113 = .ok (.iadd, 1) := by decide +kernel
theorem dd_45_114 : decode prog_7_method_12_code 114 = .ok (.invokevirtual 53, 3) := by decide +kernel
theorem dd_45_117 : decode prog_7_method_12_code 117 = .ok (.invokevirtual 56, 3) := by decide +kernel
theorem dd_45_120 : decode prog_7_method_12_code 120 = .ok (.iinc 3 1, 3) := by decide +kernel
theorem dd_45_123 : decode prog_7_method_12_code 123 = .ok (.goto (-50), 3) := by decide +kernel
theorem dd_45_126 : decode prog_7_method_12_code 126 = .ok (.aload_n 0, 1) := by decide +kernel
theorem dd_45_127 : decode prog_7_method_12_code 127 = .ok (.bipush 41, 2) := by decide +kernel
theorem dd_45_129 : decode prog_7_method_12_code 129 = .ok (.invokevirtual 89, 3) := by decide +kernel
theorem dd_45_132 : decode prog_7_method_12_code 132 = .ok (.iload_n 2, 1) := by decide +kernel
theorem dd_45_133 : decode prog_7_method_12_code 133 = .ok (.ireturn, 1) := by decide +kernel
set_option maxRecDepth 100000 in
theorem okI_45 : mj_okI gG "PairMachine$Reader" prog_7_method_12_code 4 (mj_off oM_45) (Option.some Jvm.ClassFile.FieldType.int) false true 0 cM_45 :=
  ⟨Or.inl ⟨0, rfl, dd_45_0, rfl⟩,
   ⟨9, "PairMachine$Reader", fT3, 3, dd_45_1, rfl, okc_3, by decide, tw_257⟩,
   Or.inl ⟨0, rfl, dd_45_4, rfl⟩,
   ⟨24, "PairMachine$Reader", fT3, 3, dd_45_5, rfl, okc_3, by decide, tw_263⟩,
   ⟨rfl, tw_272, by decide, tw_119, by decide +kernel, 40, tw_273, dd_45_8, tw_274, ⟨"PairMachine$Text", fT1, 2, rfl, tw_275⟩, by decide +kernel⟩,
   Or.inl (Or.inr (Or.inl ⟨dd_45_11, rfl, by decide⟩)),
   ⟨8, dd_45_13, rfl, rfl⟩,
   Or.inl ⟨0, rfl, dd_45_16, rfl⟩,
   ⟨rfl, tw_280, by decide, tw_126, by decide +kernel, 46, tw_281, dd_45_17, tw_282, ⟨"PairMachine$Reader", fT3, 3, rfl, tw_283⟩, by decide +kernel⟩,
   ⟨dd_45_20, rfl⟩,
   Or.inl ⟨0, rfl, dd_45_21, rfl⟩,
   ⟨15, "PairMachine$Reader", fT3, 3, dd_45_22, rfl, okc_3, by decide, tw_258⟩,
   Or.inl (Or.inl ⟨dd_45_25, rfl⟩),
   Or.inl (Or.inl ⟨dd_45_26, rfl⟩),
   Or.inl ⟨0, rfl, dd_45_27, rfl⟩,
   ⟨24, "PairMachine$Reader", fT3, 3, dd_45_28, rfl, okc_3, by decide, tw_263⟩,
   ⟨rfl, tw_284, by decide, tw_113, by decide +kernel, 49, tw_285, dd_45_31, tw_286, ⟨"PairMachine$Tree", fT2, 7, rfl, tw_287⟩, by decide +kernel⟩,
   ⟨by decide, Or.inl ⟨2, rfl, dd_45_34, rfl⟩⟩,
   Or.inl ⟨0, rfl, dd_45_35, rfl⟩,
   Or.inl ⟨1, rfl, dd_45_36, rfl⟩,
   ⟨rfl, tw_296, by decide, tw_126, by decide +kernel, 60, tw_297, dd_45_37, tw_298, ⟨"PairMachine$Reader", fT3, 3, rfl, tw_299⟩, by decide +kernel⟩,
   Or.inl ⟨0, rfl, dd_45_40, rfl⟩,
   ⟨9, "PairMachine$Reader", fT3, 3, dd_45_41, rfl, okc_3, by decide, tw_257⟩,
   Or.inl ⟨0, rfl, dd_45_44, rfl⟩,
   ⟨24, "PairMachine$Reader", fT3, 3, dd_45_45, rfl, okc_3, by decide, tw_263⟩,
   ⟨rfl, tw_272, by decide, tw_119, by decide +kernel, 40, tw_273, dd_45_48, tw_274, ⟨"PairMachine$Text", fT1, 2, rfl, tw_275⟩, by decide +kernel⟩,
   Or.inl (Or.inr (Or.inl ⟨dd_45_51, rfl, by decide⟩)),
   ⟨73, dd_45_53, rfl, rfl⟩,
   Or.inl ⟨0, rfl, dd_45_56, rfl⟩,
   ⟨15, "PairMachine$Reader", fT3, 3, dd_45_57, rfl, okc_3, by decide, tw_258⟩,
   Or.inl ⟨2, rfl, dd_45_60, rfl⟩,
   Or.inl ⟨0, rfl, dd_45_61, rfl⟩,
   Or.inl ⟨1, rfl, dd_45_62, rfl⟩,
   Or.inl (Or.inl ⟨dd_45_63, rfl⟩),
   ⟨dd_45_64, rfl⟩,
   ⟨rfl, tw_288, by decide, tw_126, by decide +kernel, 53, tw_289, dd_45_65, tw_290, ⟨"PairMachine$Reader", fT3, 3, rfl, tw_291⟩, by decide +kernel⟩,
   ⟨rfl, tw_292, by decide, tw_113, by decide +kernel, 56, tw_293, dd_45_68, tw_294, ⟨"PairMachine$Tree", fT2, 7, rfl, tw_295⟩, by decide +kernel⟩,
   Or.inl (Or.inl ⟨dd_45_71, rfl⟩),
   ⟨by decide, Or.inl ⟨3, rfl, dd_45_72, rfl⟩⟩,
   Or.inl ⟨3, rfl, dd_45_73, rfl⟩,
   Or.inl (Or.inr (Or.inl ⟨dd_45_74, rfl, by decide⟩)),
   ⟨50, dd_45_76, rfl, rfl⟩,
   Or.inl ⟨0, rfl, dd_45_79, rfl⟩,
   ⟨9, "PairMachine$Reader", fT3, 3, dd_45_80, rfl, okc_3, by decide, tw_257⟩,
   Or.inl ⟨0, rfl, dd_45_83, rfl⟩,
   ⟨24, "PairMachine$Reader", fT3, 3, dd_45_84, rfl, okc_3, by decide, tw_263⟩,
   ⟨rfl, tw_272, by decide, tw_119, by decide +kernel, 40, tw_273, dd_45_87, tw_274, ⟨"PairMachine$Text", fT1, 2, rfl, tw_275⟩, by decide +kernel⟩,
   Or.inl (Or.inr (Or.inl ⟨dd_45_90, rfl, by decide⟩)),
   ⟨34, dd_45_92, rfl, rfl⟩,
   Or.inl ⟨0, rfl, dd_45_95, rfl⟩,
   ⟨dd_45_96, rfl⟩,
   ⟨24, "PairMachine$Reader", fT3, 3, dd_45_97, rfl, okc_3, by decide, tw_263⟩,
   Or.inl (Or.inl ⟨dd_45_100, rfl⟩),
   ⟨dd_45_101, rfl⟩,
   ⟨24, "PairMachine$Reader", fT3, 3, dd_45_102, rfl, okc_3, by decide, tw_263, rfl, Or.inl rfl⟩,
   Or.inl ⟨0, rfl, dd_45_105, rfl⟩,
   ⟨15, "PairMachine$Reader", fT3, 3, dd_45_106, rfl, okc_3, by decide, tw_258⟩,
   Or.inl ⟨2, rfl, dd_45_109, rfl⟩,
   Or.inl ⟨0, rfl, dd_45_110, rfl⟩,
   Or.inl ⟨1, rfl, dd_45_111, rfl⟩,
   Or.inl (Or.inl ⟨dd_45_112, rfl⟩),
   ⟨dd_45_113, rfl⟩,
   ⟨rfl, tw_288, by decide, tw_126, by decide +kernel, 53, tw_289, dd_45_114, tw_290, ⟨"PairMachine$Reader", fT3, 3, rfl, tw_291⟩, by decide +kernel⟩,
   ⟨rfl, tw_292, by decide, tw_113, by decide +kernel, 56, tw_293, dd_45_117, tw_294, ⟨"PairMachine$Tree", fT2, 7, rfl, tw_295⟩, by decide +kernel⟩,
   ⟨by decide, dd_45_120, rfl⟩,
   ⟨(-50), dd_45_123, rfl⟩,
   Or.inl ⟨0, rfl, dd_45_126, rfl⟩,
   Or.inl (Or.inr (Or.inl ⟨dd_45_127, rfl, by decide⟩)),
   ⟨rfl, tw_326, by decide, tw_126, by decide +kernel, 89, tw_327, dd_45_129, tw_328, ⟨"PairMachine$Reader", fT3, 3, rfl, tw_329⟩, by decide +kernel⟩,
   Or.inl ⟨2, rfl, dd_45_132, rfl⟩,
   ⟨dd_45_133, rfl⟩, trivial⟩
theorem okM_45 : mj_okE gG 45 (cM_45, 4, oM_45, hM_45) := ⟨rfl, rfl, by decide +kernel, trivial, okI_45⟩
theorem dd_46_0 : decode prog_7_method_13_code 0 = .ok (.aload_n 0, 1) := by decide +kernel
theorem dd_46_1 : decode prog_7_method_13_code 1 = .ok (.getfield 9, 3) := by decide +kernel
theorem dd_46_4 : decode prog_7_method_13_code 4 = .ok (.aload_n 0, 1) := by decide +kernel
theorem dd_46_5 : decode prog_7_method_13_code 5 = .ok (.getfield 24, 3) := by decide +kernel
theorem dd_46_8 : decode prog_7_method_13_code 8 = .ok (.invokevirtual 40, 3) := by decide +kernel
theorem dd_46_11 : decode prog_7_method_13_code 11 = .ok (.istore_n 1, 1) := by decide +kernel
theorem dd_46_12 : decode prog_7_method_13_code 12 = .ok (.iload_n 1, 1) := by decide +kernel
theorem dd_46_13 : decode prog_7_method_13_code 13 = .ok (.invokestatic 113, 3) := by decide +kernel
theorem dd_46_16 : decode prog_7_method_13_code 16 = .ok (.ifCond .ne 8, 3) := by decide +kernel
theorem dd_46_19 : decode prog_7_method_13_code 19 = .ok (.aload_n 0, 1) := by decide +kernel
theorem dd_46_20 : decode prog_7_method_13_code 20 = .ok (.invokevirtual 116, 3) := by decide +kernel
theorem dd_46_23 : decode prog_7_method_13_code 23 = .ok (.ireturn, 1) := by decide +kernel
theorem dd_46_24 : decode prog_7_method_13_code 24 = .ok (.aload_n 0, 1) := by decide +kernel
theorem dd_46_25 : decode prog_7_method_13_code 25 = .ok (.getfield 15, 3) := by decide +kernel
theorem dd_46_28 : decode prog_7_method_13_code 28 = .ok (.iconst 2, 1) := by decide +kernel
theorem dd_46_29 : decode prog_7_method_13_code 29 = .ok (.iload_n 1, 1) := by decide +kernel
theorem dd_46_30 : decode prog_7_method_13_code 30 = .ok (.aload_n 0, 1) := by decide +kernel
theorem dd_46_31 : decode prog_7_method_13_code 31 = .ok (.getfield 24, 3) := by decide +kernel
theorem dd_46_34 : decode prog_7_method_13_code 34 = .ok (.invokevirtual 49, 3) := by decide +kernel
theorem dd_46_37 : decode prog_7_method_13_code 37 = .ok (.istore_n 2, 1) := by decide +kernel
theorem dd_46_38 : decode prog_7_method_13_code 38 = .ok (.aload_n 0, 1) := by decide +kernel
theorem dd_46_39 : decode prog_7_method_13_code 39 = .ok (.dup, 1) := by decide +kernel
theorem dd_46_40 : decode prog_7_method_13_code 40 = .ok (.getfield 24, 3) := by decide +kernel
theorem dd_46_43 : decode prog_7_method_13_code 43 = .ok (.iconst 1, 1) := by decide +kernel
theorem dd_46_44 : decode prog_7_method_13_code 44 = .ok (.iadd, 1) := by decide +kernel
theorem dd_46_45 : decode prog_7_method_13_code 45 = .ok (.putfield 24, 3) := by decide +kernel
theorem dd_46_48 : decode prog_7_method_13_code 48 = .ok (.iload_n 2, 1) := by decide +kernel
theorem dd_46_49 : decode prog_7_method_13_code 49 = .ok (.ireturn, 1) := by decide +kernel
set_option maxRecDepth 100000 in
theorem okI_46 : mj_okI gG "PairMachine$Reader" prog_7_method_13_code 3 (mj_off oM_46) (Option.some Jvm.ClassFile.FieldType.int) false true 0 cM_46 :=
  ⟨Or.inl ⟨0, rfl, dd_46_0, rfl⟩,
   ⟨9, "PairMachine$Reader", fT3, 3, dd_46_1, rfl, okc_3, by decide, tw_257⟩,
   Or.inl ⟨0, rfl, dd_46_4, rfl⟩,
   ⟨24, "PairMachine$Reader", fT3, 3, dd_46_5, rfl, okc_3, by decide, tw_263⟩,
   ⟨rfl, tw_272, by decide, tw_119, by decide +kernel, 40, tw_273, dd_46_8, tw_274, ⟨"PairMachine$Text", fT1, 2, rfl, tw_275⟩, by decide +kernel⟩,
   ⟨by decide, Or.inl ⟨1, rfl, dd_46_11, rfl⟩⟩,
   Or.inl ⟨1, rfl, dd_46_12, rfl⟩,
   ⟨rfl, tw_355, by decide, tw_126, by decide +kernel, 113, tw_356, dd_46_13, tw_357, by decide +kernel⟩,
   ⟨8, dd_46_16, rfl, rfl⟩,
   Or.inl ⟨0, rfl, dd_46_19, rfl⟩,
   ⟨rfl, tw_358, by decide, tw_126, by decide +kernel, 116, tw_359, dd_46_20, tw_360, ⟨"PairMachine$Reader", fT3, 3, rfl, tw_361⟩, by decide +kernel⟩,
   ⟨dd_46_23, rfl⟩,
   Or.inl ⟨0, rfl, dd_46_24, rfl⟩,
   ⟨15, "PairMachine$Reader", fT3, 3, dd_46_25, rfl, okc_3, by decide, tw_258⟩,
   Or.inl (Or.inl ⟨dd_46_28, rfl⟩),
   Or.inl ⟨1, rfl, dd_46_29, rfl⟩,
   Or.inl ⟨0, rfl, dd_46_30, rfl⟩,
   ⟨24, "PairMachine$Reader", fT3, 3, dd_46_31, rfl, okc_3, by decide, tw_263⟩,
   ⟨rfl, tw_284, by decide, tw_113, by decide +kernel, 49, tw_285, dd_46_34, tw_286, ⟨"PairMachine$Tree", fT2, 7, rfl, tw_287⟩, by decide +kernel⟩,
   ⟨by decide, Or.inl ⟨2, rfl, dd_46_37, rfl⟩⟩,
   Or.inl ⟨0, rfl, dd_46_38, rfl⟩,
   ⟨dd_46_39, rfl⟩,
   ⟨24, "PairMachine$Reader", fT3, 3, dd_46_40, rfl, okc_3, by decide, tw_263⟩,
   Or.inl (Or.inl ⟨dd_46_43, rfl⟩),
   ⟨dd_46_44, rfl⟩,
   ⟨24, "PairMachine$Reader", fT3, 3, dd_46_45, rfl, okc_3, by decide, tw_263, rfl, Or.inl rfl⟩,
   Or.inl ⟨2, rfl, dd_46_48, rfl⟩,
   ⟨dd_46_49, rfl⟩, trivial⟩
theorem okM_46 : mj_okE gG 46 (cM_46, 3, oM_46, hM_46) := ⟨rfl, rfl, by decide +kernel, trivial, okI_46⟩
theorem dd_47_0 : decode prog_7_method_14_code 0 = .ok (.aload_n 0, 1) := by decide +kernel
theorem dd_47_1 : decode prog_7_method_14_code 1 = .ok (.getfield 24, 3) := by decide +kernel
theorem dd_47_4 : decode prog_7_method_14_code 4 = .ok (.istore_n 1, 1) := by decide +kernel
theorem dd_47_5 : decode prog_7_method_14_code 5 = .ok (.aload_n 0, 1) := by decide +kernel
theorem dd_47_6 : decode prog_7_method_14_code 6 = .ok (.getfield 9, 3) := by decide +kernel
theorem dd_47_9 : decode prog_7_method_14_code 9 = .ok (.aload_n 0, 1) := by decide +kernel
theorem dd_47_10 : decode prog_7_method_14_code 10 = .ok (.getfield 24, 3) := by decide +kernel
theorem dd_47_13 : decode prog_7_method_14_code 13 = .ok (.invokevirtual 40, 3) := by decide +kernel
theorem dd_47_16 : decode prog_7_method_14_code 16 = .ok (.bipush 45, 2) := by decide +kernel
theorem dd_47_18 : decode prog_7_method_14_code 18 = .ok (.if_icmp .ne 7, 3) := by decide +kernel
theorem dd_47_21 : decode prog_7_method_14_code 21 = .ok (.iconst 1, 1) := by decide +kernel
theorem dd_47_22 : decode prog_7_method_14_code 22 = .ok (.goto 4, 3) := by decide +kernel
theorem dd_47_25 : decode prog_7_method_14_code 25 = .ok (.iconst 0, 1) := by decide +kernel
theorem dd_47_26 : decode prog_7_method_14_code 26 = .ok (.istore_n 2, 1) := by decide +kernel
theorem dd_47_27 : decode prog_7_method_14_code 27 = .ok (.iload_n 2, 1) := by decide +kernel
theorem dd_47_28 : decode prog_7_method_14_code 28 = .ok (.ifCond .eq 13, 3) := by decide +kernel
theorem dd_47_31 : decode prog_7_method_14_code 31 = .ok (.aload_n 0, 1) := by decide +kernel
theorem dd_47_32 : decode prog_7_method_14_code 32 = .ok (.dup, 1) := by decide +kernel
theorem dd_47_33 : decode prog_7_method_14_code 33 = .ok (.getfield 24, 3) := by decide +kernel
theorem dd_47_36 : decode prog_7_method_14_code 36 = .ok (.iconst 1, 1) := by decide +kernel
theorem dd_47_37 : decode prog_7_method_14_code 37 = .ok (.iadd, 1) := by decide +kernel
theorem dd_47_38 : decode prog_7_method_14_code 38 = .ok (.putfield 24, 3) := by decide +kernel
theorem dd_47_41 : decode prog_7_method_14_code 41 = .ok (.aload_n 0, 1) := by decide +kernel
theorem dd_47_42 : decode prog_7_method_14_code 42 = .ok (.getfield 9, 3) := by decide +kernel
theorem dd_47_45 : decode prog_7_method_14_code 45 = .ok (.aload_n 0, 1) := by decide +kernel
theorem dd_47_46 : decode prog_7_method_14_code 46 = .ok (.getfield 24, 3) := by decide +kernel
theorem dd_47_49 : decode prog_7_method_14_code 49 = .ok (.invokevirtual 40, 3) := by decide +kernel
theorem dd_47_52 : decode prog_7_method_14_code 52 = .ok (.invokestatic 71, 3) := by decide +kernel
theorem dd_47_55 : decode prog_7_method_14_code 55 = .ok (.ifCond .ne 6, 3) := by decide +kernel
theorem dd_47_58 : decode prog_7_method_14_code 58 = .ok (.invokestatic 119, 3) := by decide +kernel
theorem dd_47_61 : decode prog_7_method_14_code 61 = .ok (.iconst 0, 1) := by decide +kernel
theorem dd_47_62 : decode prog_7_method_14_code 62 = .ok (.istore_n 3, 1) := by decide +kernel
theorem dd_47_63 : decode prog_7_method_14_code 63 = .ok (.iconst 0, 1) := by decide +kernel
theorem dd_47_64 : decode prog_7_method_14_code 64 = .ok (.istore 4, 2) := by decide +kernel
theorem dd_47_66 : decode prog_7_method_14_code 66 = .ok (.iload 4, 2) := by decide +kernel
theorem dd_47_68 : decode prog_7_method_14_code 68 = .ok (.iconst 4, 1) := by decide +kernel
theorem dd_47_69 : decode prog_7_method_14_code 69 = .ok (.if_icmp .ge 56, 3) := by decide +kernel
theorem dd_47_72 : decode prog_7_method_14_code 72 = .ok (.aload_n 0, 1) := by decide +kernel
theorem dd_47_73 : decode prog_7_method_14_code 73 = .ok (.getfield 9, 3) := by decide +kernel
theorem dd_47_76 : decode prog_7_method_14_code 76 = .ok (.aload_n 0, 1) := by decide +kernel
theorem dd_47_77 : decode prog_7_method_14_code 77 = .ok (.getfield 24, 3) := by decide +kernel
theorem dd_47_80 : decode prog_7_method_14_code 80 = .ok (.invokevirtual 40, 3) := by decide +kernel
theorem dd_47_83 : decode prog_7_method_14_code 83 = .ok (.invokestatic 71, 3) := by decide +kernel
theorem dd_47_86 : decode prog_7_method_14_code 86 = .ok (.ifCond .eq 39, 3) := by decide +kernel
theorem dd_47_89 : decode prog_7_method_14_code 89 = .ok (.bipush 10, 2) := by decide +kernel
theorem dd_47_91 : decode prog_7_method_14_code 91 = .ok (.iload_n 3, 1) := by decide +kernel
theorem dd_47_92 : decode prog_7_method_14_code 92 = .ok (.imul, 1) := by decide +kernel
theorem dd_47_93 : decode prog_7_method_14_code 93 = .ok (.aload_n 0, 1) := by decide +kernel
theorem dd_47_94 : decode prog_7_method_14_code 94 = .ok (.getfield 9, 3) := by decide +kernel
theorem dd_47_97 : decode prog_7_method_14_code 97 = .ok (.aload_n 0, 1) := by decide +kernel
theorem dd_47_98 : decode prog_7_method_14_code 98 = .ok (.getfield 24, 3) := by decide +kernel
theorem dd_47_101 : decode prog_7_method_14_code 101 = .ok (.invokevirtual 40, 3) := by decide +kernel
theorem dd_47_104 : decode prog_7_method_14_code 104 = .ok (.iadd, 1) := by decide +kernel
theorem dd_47_105 : decode prog_7_method_14_code 105 = .ok (.bipush 48, 2) := by decide +kernel
theorem dd_47_107 : decode prog_7_method_14_code 107 = .ok (.isub, 1) := by decide +kernel
theorem dd_47_108 : decode prog_7_method_14_code 108 = .ok (.istore_n 3, 1) := by decide +kernel
theorem dd_47_109 : decode prog_7_method_14_code 109 = .ok (.aload_n 0, 1) := by decide +kernel
theorem dd_47_110 : decode prog_7_method_14_code 110 = .ok (.dup, 1) := by decide +kernel
theorem dd_47_111 : decode prog_7_method_14_code 111 = .ok (.getfield 24, 3) := by decide +kernel
theorem dd_47_114 : decode prog_7_method_14_code 114 = .ok (.iconst 1, 1) := by decide +kernel
theorem dd_47_115 : decode prog_7_method_14_code 115 = .ok (.iadd, 1) := by decide +kernel
theorem dd_47_116 : decode prog_7_method_14_code 116 = .ok (.putfield 24, 3) := by decide +kernel
theorem dd_47_119 : decode prog_7_method_14_code 119 = .ok (.iinc 4 1, 3) := by decide +kernel
theorem dd_47_122 : decode prog_7_method_14_code 122 = .ok (.goto (-56), 3) := by decide +kernel
theorem dd_47_125 : decode prog_7_method_14_code 125 = .ok (.aload_n 0, 1) := by decide +kernel
theorem dd_47_126 : decode prog_7_method_14_code 126 = .ok (.getfield 15, 3) := by decide +kernel
theorem dd_47_129 : decode prog_7_method_14_code 129 = .ok (.iconst 1, 1) := by decide +kernel
theorem dd_47_130 : decode prog_7_method_14_code 130 = .ok (.iload_n 2, 1) := by decide +kernel
theorem dd_47_131 : decode prog_7_method_14_code 131 = .ok (.ifCond .eq 8, 3) := by decide +kernel
theorem dd_47_134 : decode prog_7_method_14_code 134 = .ok (.iload_n 3, 1) := by decide +kernel
theorem dd_47_135 : decode prog_7_method_14_code 135 = .ok (.ineg, 1) := by decide +kernel
theorem dd_47_136 : decode prog_7_method_14_code 136 = .ok (.goto 4, 3) := by decide +kernel
theorem dd_47_139 : decode prog_7_method_14_code 139 = .ok (.iload_n 3, 1) := by decide +kernel
theorem dd_47_140 : decode prog_7_method_14_code 140 = .ok (.iload_n 1, 1) := by decide +kernel
theorem dd_47_141 : decode prog_7_method_14_code 141 = .ok (.invokevirtual 49, 3) := by decide +kernel
theorem dd_47_144 : decode prog_7_method_14_code 144 = .ok (.ireturn, 1) := by decide +kernel
set_option maxRecDepth 100000 in
theorem okI_47 : mj_okI gG "PairMachine$Reader" prog_7_method_14_code 5 (mj_off oM_47) (Option.some Jvm.ClassFile.FieldType.int) false true 0 cM_47 :=
  ⟨Or.inl ⟨0, rfl, dd_47_0, rfl⟩,
   ⟨24, "PairMachine$Reader", fT3, 3, dd_47_1, rfl, okc_3, by decide, tw_263⟩,
   ⟨by decide, Or.inl ⟨1, rfl, dd_47_4, rfl⟩⟩,
   Or.inl ⟨0, rfl, dd_47_5, rfl⟩,
   ⟨9, "PairMachine$Reader", fT3, 3, dd_47_6, rfl, okc_3, by decide, tw_257⟩,
   Or.inl ⟨0, rfl, dd_47_9, rfl⟩,
   ⟨24, "PairMachine$Reader", fT3, 3, dd_47_10, rfl, okc_3, by decide, tw_263⟩,
   ⟨rfl, tw_272, by decide, tw_119, by decide +kernel, 40, tw_273, dd_47_13, tw_274, ⟨"PairMachine$Text", fT1, 2, rfl, tw_275⟩, by decide +kernel⟩,
   Or.inl (Or.inr (Or.inl ⟨dd_47_16, rfl, by decide⟩)),
   ⟨7, dd_47_18, rfl, rfl⟩,
   Or.inl (Or.inl ⟨dd_47_21, rfl⟩),
   ⟨4, dd_47_22, rfl⟩,
   Or.inl (Or.inl ⟨dd_47_25, rfl⟩),
   ⟨by decide, Or.inl ⟨2, rfl, dd_47_26, rfl⟩⟩,
   Or.inl ⟨2, rfl, dd_47_27, rfl⟩,
   ⟨13, dd_47_28, rfl, rfl⟩,
   Or.inl ⟨0, rfl, dd_47_31, rfl⟩,
   ⟨dd_47_32, rfl⟩,
   ⟨24, "PairMachine$Reader", fT3, 3, dd_47_33, rfl, okc_3, by decide, tw_263⟩,
   Or.inl (Or.inl ⟨dd_47_36, rfl⟩),
   ⟨dd_47_37, rfl⟩,
   ⟨24, "PairMachine$Reader", fT3, 3, dd_47_38, rfl, okc_3, by decide, tw_263, rfl, Or.inl rfl⟩,
   Or.inl ⟨0, rfl, dd_47_41, rfl⟩,
   ⟨9, "PairMachine$Reader", fT3, 3, dd_47_42, rfl, okc_3, by decide, tw_257⟩,
   Or.inl ⟨0, rfl, dd_47_45, rfl⟩,
   ⟨24, "PairMachine$Reader", fT3, 3, dd_47_46, rfl, okc_3, by decide, tw_263⟩,
   ⟨rfl, tw_272, by decide, tw_119, by decide +kernel, 40, tw_273, dd_47_49, tw_274, ⟨"PairMachine$Text", fT1, 2, rfl, tw_275⟩, by decide +kernel⟩,
   ⟨rfl, tw_308, by decide, tw_126, by decide +kernel, 71, tw_309, dd_47_52, tw_310, by decide +kernel⟩,
   ⟨6, dd_47_55, rfl, rfl⟩,
   ⟨rfl, tw_362, by decide, tw_126, by decide +kernel, 119, tw_363, dd_47_58, tw_364, by decide +kernel⟩,
   Or.inl (Or.inl ⟨dd_47_61, rfl⟩),
   ⟨by decide, Or.inl ⟨3, rfl, dd_47_62, rfl⟩⟩,
   Or.inl (Or.inl ⟨dd_47_63, rfl⟩),
   ⟨by decide, Or.inr ⟨dd_47_64, rfl⟩⟩,
   Or.inr ⟨dd_47_66, rfl⟩,
   Or.inl (Or.inl ⟨dd_47_68, rfl⟩),
   ⟨56, dd_47_69, rfl, rfl⟩,
   Or.inl ⟨0, rfl, dd_47_72, rfl⟩,
   ⟨9, "PairMachine$Reader", fT3, 3, dd_47_73, rfl, okc_3, by decide, tw_257⟩,
   Or.inl ⟨0, rfl, dd_47_76, rfl⟩,
   ⟨24, "PairMachine$Reader", fT3, 3, dd_47_77, rfl, okc_3, by decide, tw_263⟩,
   ⟨rfl, tw_272, by decide, tw_119, by decide +kernel, 40, tw_273, dd_47_80, tw_274, ⟨"PairMachine$Text", fT1, 2, rfl, tw_275⟩, by decide +kernel⟩,
   ⟨rfl, tw_308, by decide, tw_126, by decide +kernel, 71, tw_309, dd_47_83, tw_310, by decide +kernel⟩,
   ⟨39, dd_47_86, rfl, rfl⟩,
   Or.inl (Or.inr (Or.inl ⟨dd_47_89, rfl, by decide⟩)),
   Or.inl ⟨3, rfl, dd_47_91, rfl⟩,
   ⟨dd_47_92, rfl⟩,
   Or.inl ⟨0, rfl, dd_47_93, rfl⟩,
   ⟨9, "PairMachine$Reader", fT3, 3, dd_47_94, rfl, okc_3, by decide, tw_257⟩,
   Or.inl ⟨0, rfl, dd_47_97, rfl⟩,
   ⟨24, "PairMachine$Reader", fT3, 3, dd_47_98, rfl, okc_3, by decide, tw_263⟩,
   ⟨rfl, tw_272, by decide, tw_119, by decide +kernel, 40, tw_273, dd_47_101, tw_274, ⟨"PairMachine$Text", fT1, 2, rfl, tw_275⟩, by decide +kernel⟩,
   ⟨dd_47_104, rfl⟩,
   Or.inl (Or.inr (Or.inl ⟨dd_47_105, rfl, by decide⟩)),
   ⟨dd_47_107, rfl⟩,
   ⟨by decide, Or.inl ⟨3, rfl, dd_47_108, rfl⟩⟩,
   Or.inl ⟨0, rfl, dd_47_109, rfl⟩,
   ⟨dd_47_110, rfl⟩,
   ⟨24, "PairMachine$Reader", fT3, 3, dd_47_111, rfl, okc_3, by decide, tw_263⟩,
   Or.inl (Or.inl ⟨dd_47_114, rfl⟩),
   ⟨dd_47_115, rfl⟩,
   ⟨24, "PairMachine$Reader", fT3, 3, dd_47_116, rfl, okc_3, by decide, tw_263, rfl, Or.inl rfl⟩,
   ⟨by decide, dd_47_119, rfl⟩,
   ⟨(-56), dd_47_122, rfl⟩,
   Or.inl ⟨0, rfl, dd_47_125, rfl⟩,
   ⟨15, "PairMachine$Reader", fT3, 3, dd_47_126, rfl, okc_3, by decide, tw_258⟩,
   Or.inl (Or.inl ⟨dd_47_129, rfl⟩),
   Or.inl ⟨2, rfl, dd_47_130, rfl⟩,
   ⟨8, dd_47_131, rfl, rfl⟩,
   Or.inl ⟨3, rfl, dd_47_134, rfl⟩,
   ⟨dd_47_135, rfl⟩,
   ⟨4, dd_47_136, rfl⟩,
   Or.inl ⟨3, rfl, dd_47_139, rfl⟩,
   Or.inl ⟨1, rfl, dd_47_140, rfl⟩,
   ⟨rfl, tw_284, by decide, tw_113, by decide +kernel, 49, tw_285, dd_47_141, tw_286, ⟨"PairMachine$Tree", fT2, 7, rfl, tw_287⟩, by decide +kernel⟩,
   ⟨dd_47_144, rfl⟩, trivial⟩
theorem okM_47 : mj_okE gG 47 (cM_47, 5, oM_47, hM_47) := ⟨rfl, rfl, by decide +kernel, trivial, okI_47⟩
theorem dd_48_0 : decode prog_7_method_15_code 0 = .ok (.aload_n 0, 1) := by decide +kernel
theorem dd_48_1 : decode prog_7_method_15_code 1 = .ok (.getfield 9, 3) := by decide +kernel
theorem dd_48_4 : decode prog_7_method_15_code 4 = .ok (.aload_n 0, 1) := by decide +kernel
theorem dd_48_5 : decode prog_7_method_15_code 5 = .ok (.getfield 24, 3) := by decide +kernel
theorem dd_48_8 : decode prog_7_method_15_code 8 = .ok (.invokevirtual 40, 3) := by decide +kernel
theorem dd_48_11 : decode prog_7_method_15_code 11 = .ok (.istore_n 2, 1) := by decide +kernel
theorem dd_48_12 : decode prog_7_method_15_code 12 = .ok (.iload_n 2, 1) := by decide +kernel
theorem dd_48_13 : decode prog_7_method_15_code 13 = .ok (.invokestatic 113, 3) := by decide +kernel
theorem dd_48_16 : decode prog_7_method_15_code 16 = .ok (.ifCond .eq 16, 3) := by decide +kernel
theorem dd_48_19 : decode prog_7_method_15_code 19 = .ok (.aload_n 0, 1) := by decide +kernel
theorem dd_48_20 : decode prog_7_method_15_code 20 = .ok (.getfield 15, 3) := by decide +kernel
theorem dd_48_23 : decode prog_7_method_15_code 23 = .ok (.iload_n 2, 1) := by decide +kernel
theorem dd_48_24 : decode prog_7_method_15_code 24 = .ok (.iload_n 1, 1) := by decide +kernel
theorem dd_48_25 : decode prog_7_method_15_code 25 = .ok (.invokevirtual 122, 3) := by decide +kernel
theorem dd_48_28 : decode prog_7_method_15_code 28 = .ok (.iconst (-1), 1) := by decide +kernel
theorem dd_48_29 : decode prog_7_method_15_code 29 = .ok (.if_icmp .eq 6, 3) := by decide +kernel
theorem dd_48_32 : decode prog_7_method_15_code 32 = .ok (.invokestatic 119, 3) := by decide +kernel
theorem dd_48_35 : decode prog_7_method_15_code 35 = .ok (.iload_n 2, 1) := by decide +kernel
theorem dd_48_36 : decode prog_7_method_15_code 36 = .ok (.ireturn, 1) := by decide +kernel
set_option maxRecDepth 100000 in
theorem okI_48 : mj_okI gG "PairMachine$Reader" prog_7_method_15_code 3 (mj_off oM_48) (Option.some Jvm.ClassFile.FieldType.int) false true 0 cM_48 :=
  ⟨Or.inl ⟨0, rfl, dd_48_0, rfl⟩,
   ⟨9, "PairMachine$Reader", fT3, 3, dd_48_1, rfl, okc_3, by decide, tw_257⟩,
   Or.inl ⟨0, rfl, dd_48_4, rfl⟩,
   ⟨24, "PairMachine$Reader", fT3, 3, dd_48_5, rfl, okc_3, by decide, tw_263⟩,
   ⟨rfl, tw_272, by decide, tw_119, by decide +kernel, 40, tw_273, dd_48_8, tw_274, ⟨"PairMachine$Text", fT1, 2, rfl, tw_275⟩, by decide +kernel⟩,
   ⟨by decide, Or.inl ⟨2, rfl, dd_48_11, rfl⟩⟩,
   Or.inl ⟨2, rfl, dd_48_12, rfl⟩,
   ⟨rfl, tw_355, by decide, tw_126, by decide +kernel, 113, tw_356, dd_48_13, tw_357, by decide +kernel⟩,
   ⟨16, dd_48_16, rfl, rfl⟩,
   Or.inl ⟨0, rfl, dd_48_19, rfl⟩,
   ⟨15, "PairMachine$Reader", fT3, 3, dd_48_20, rfl, okc_3, by decide, tw_258⟩,
   Or.inl ⟨2, rfl, dd_48_23, rfl⟩,
   Or.inl ⟨1, rfl, dd_48_24, rfl⟩,
   ⟨rfl, tw_365, by decide, tw_113, by decide +kernel, 122, tw_366, dd_48_25, tw_367, ⟨"PairMachine$Tree", fT2, 7, rfl, tw_368⟩, by decide +kernel⟩,
   Or.inl (Or.inl ⟨dd_48_28, rfl⟩),
   ⟨6, dd_48_29, rfl, rfl⟩,
   ⟨rfl, tw_362, by decide, tw_126, by decide +kernel, 119, tw_363, dd_48_32, tw_364, by decide +kernel⟩,
   Or.inl ⟨2, rfl, dd_48_35, rfl⟩,
   ⟨dd_48_36, rfl⟩, trivial⟩
theorem okM_48 : mj_okE gG 48 (cM_48, 3, oM_48, hM_48) := ⟨rfl, rfl, by decide +kernel, trivial, okI_48⟩
theorem dd_49_0 : decode prog_7_method_16_code 0 = .ok (.iload_n 1, 1) := by decide +kernel
theorem dd_49_1 : decode prog_7_method_16_code 1 = .ok (.bipush 9, 2) := by decide +kernel
theorem dd_49_3 : decode prog_7_method_16_code 3 = .ok (.if_icmp .lt 6, 3) := by decide +kernel
theorem dd_49_6 : decode prog_7_method_16_code 6 = .ok (.invokestatic 119, 3) := by decide +kernel
theorem dd_49_9 : decode prog_7_method_16_code 9 = .ok (.aload_n 0, 1) := by decide +kernel
theorem dd_49_10 : decode prog_7_method_16_code 10 = .ok (.bipush 40, 2) := by decide +kernel
theorem dd_49_12 : decode prog_7_method_16_code 12 = .ok (.invokevirtual 89, 3) := by decide +kernel
theorem dd_49_15 : decode prog_7_method_16_code 15 = .ok (.return_, 1) := by decide +kernel
set_option maxRecDepth 100000 in
theorem okI_49 : mj_okI gG "PairMachine$Reader" prog_7_method_16_code 2 (mj_off oM_49) (Option.none : Option Jvm.ClassFile.FieldType) false true 0 cM_49 :=
  ⟨Or.inl ⟨1, rfl, dd_49_0, rfl⟩,
   Or.inl (Or.inr (Or.inl ⟨dd_49_1, rfl, by decide⟩)),
   ⟨6, dd_49_3, rfl, rfl⟩,
   ⟨rfl, tw_362, by decide, tw_126, by decide +kernel, 119, tw_363, dd_49_6, tw_364, by decide +kernel⟩,
   Or.inl ⟨0, rfl, dd_49_9, rfl⟩,
   Or.inl (Or.inr (Or.inl ⟨dd_49_10, rfl, by decide⟩)),
   ⟨rfl, tw_326, by decide, tw_126, by decide +kernel, 89, tw_327, dd_49_12, tw_328, ⟨"PairMachine$Reader", fT3, 3, rfl, tw_329⟩, by decide +kernel⟩,
   ⟨dd_49_15, rfl⟩, trivial⟩
theorem okM_49 : mj_okE gG 49 (cM_49, 2, oM_49, hM_49) := ⟨rfl, rfl, by decide +kernel, trivial, okI_49⟩
theorem dd_50_0 : decode prog_7_method_17_code 0 = .ok (.aload_n 0, 1) := by decide +kernel
theorem dd_50_1 : decode prog_7_method_17_code 1 = .ok (.getfield 9, 3) := by decide +kernel
theorem dd_50_4 : decode prog_7_method_17_code 4 = .ok (.aload_n 0, 1) := by decide +kernel
theorem dd_50_5 : decode prog_7_method_17_code 5 = .ok (.getfield 24, 3) := by decide +kernel
theorem dd_50_8 : decode prog_7_method_17_code 8 = .ok (.invokevirtual 40, 3) := by decide +kernel
theorem dd_50_11 : decode prog_7_method_17_code 11 = .ok (.iload_n 1, 1) := by decide +kernel
theorem dd_50_12 : decode prog_7_method_17_code 12 = .ok (.if_icmp .eq 6, 3) := by decide +kernel
theorem dd_50_15 : decode prog_7_method_17_code 15 = .ok (.invokestatic 119, 3) := by decide +kernel
theorem dd_50_18 : decode prog_7_method_17_code 18 = .ok (.aload_n 0, 1) := by decide +kernel
theorem dd_50_19 : decode prog_7_method_17_code 19 = .ok (.dup, 1) := by decide +kernel
theorem dd_50_20 : decode prog_7_method_17_code 20 = .ok (.getfield 24, 3) := by decide +kernel
theorem dd_50_23 : decode prog_7_method_17_code 23 = .ok (.iconst 1, 1) := by decide +kernel
theorem dd_50_24 : decode prog_7_method_17_code 24 = .ok (.iadd, 1) := by decide +kernel
theorem dd_50_25 : decode prog_7_method_17_code 25 = .ok (.putfield 24, 3) := by decide +kernel
theorem dd_50_28 : decode prog_7_method_17_code 28 = .ok (.return_, 1) := by decide +kernel
set_option maxRecDepth 100000 in
theorem okI_50 : mj_okI gG "PairMachine$Reader" prog_7_method_17_code 2 (mj_off oM_50) (Option.none : Option Jvm.ClassFile.FieldType) false true 0 cM_50 :=
  ⟨Or.inl ⟨0, rfl, dd_50_0, rfl⟩,
   ⟨9, "PairMachine$Reader", fT3, 3, dd_50_1, rfl, okc_3, by decide, tw_257⟩,
   Or.inl ⟨0, rfl, dd_50_4, rfl⟩,
   ⟨24, "PairMachine$Reader", fT3, 3, dd_50_5, rfl, okc_3, by decide, tw_263⟩,
   ⟨rfl, tw_272, by decide, tw_119, by decide +kernel, 40, tw_273, dd_50_8, tw_274, ⟨"PairMachine$Text", fT1, 2, rfl, tw_275⟩, by decide +kernel⟩,
   Or.inl ⟨1, rfl, dd_50_11, rfl⟩,
   ⟨6, dd_50_12, rfl, rfl⟩,
   ⟨rfl, tw_362, by decide, tw_126, by decide +kernel, 119, tw_363, dd_50_15, tw_364, by decide +kernel⟩,
   Or.inl ⟨0, rfl, dd_50_18, rfl⟩,
   ⟨dd_50_19, rfl⟩,
   ⟨24, "PairMachine$Reader", fT3, 3, dd_50_20, rfl, okc_3, by decide, tw_263⟩,
   Or.inl (Or.inl ⟨dd_50_23, rfl⟩),
   ⟨dd_50_24, rfl⟩,
   ⟨24, "PairMachine$Reader", fT3, 3, dd_50_25, rfl, okc_3, by decide, tw_263, rfl, Or.inl rfl⟩,
   ⟨dd_50_28, rfl⟩, trivial⟩
theorem okM_50 : mj_okE gG 50 (cM_50, 2, oM_50, hM_50) := ⟨rfl, rfl, by decide +kernel, trivial, okI_50⟩
