theorem dd_173_0 : decode prog_13_method_19_code 0 = .ok (.aload_n 0, 1) := by decide +kernel
theorem dd_173_1 : decode prog_13_method_19_code 1 = .ok (.iconst 0, 1) := by decide +kernel
theorem dd_173_2 : decode prog_13_method_19_code 2 = .ok (.putfield 105, 3) := by decide +kernel
theorem dd_173_5 : decode prog_13_method_19_code 5 = .ok (.aload_n 0, 1) := by decide +kernel
theorem dd_173_6 : decode prog_13_method_19_code 6 = .ok (.iconst 0, 1) := by decide +kernel
theorem dd_173_7 : decode prog_13_method_19_code 7 = .ok (.putfield 119, 3) := by decide +kernel
theorem dd_173_10 : decode prog_13_method_19_code 10 = .ok (.aload_n 0, 1) := by decide +kernel
theorem dd_173_11 : decode prog_13_method_19_code 11 = .ok (.iconst 0, 1) := by decide +kernel
theorem dd_173_12 : decode prog_13_method_19_code 12 = .ok (.putfield 112, 3) := by decide +kernel
theorem dd_173_15 : decode prog_13_method_19_code 15 = .ok (.iconst (-1), 1) := by decide +kernel
theorem dd_173_16 : decode prog_13_method_19_code 16 = .ok (.istore_n 1, 1) := by decide +kernel
theorem dd_173_17 : decode prog_13_method_19_code 17 = .ok (.iconst 0, 1) := by decide +kernel
theorem dd_173_18 : decode prog_13_method_19_code 18 = .ok (.istore_n 2, 1) := by decide +kernel
theorem dd_173_19 : decode prog_13_method_19_code 19 = .ok (.iload_n 2, 1) := by decide +kernel
theorem dd_173_20 : decode prog_13_method_19_code 20 = .ok (.bipush 100, 2) := by decide +kernel
theorem dd_173_22 : decode prog_13_method_19_code 22 = .ok (.if_icmp .ge 101, 3) := by decide +kernel
theorem dd_173_25 : decode prog_13_method_19_code 25 = .ok (.aload_n 0, 1) := by decide +kernel
theorem dd_173_26 : decode prog_13_method_19_code 26 = .ok (.getfield 119, 3) := by decide +kernel
theorem dd_173_29 : decode prog_13_method_19_code 29 = .ok (.istore_n 3, 1) := by decide +kernel
theorem dd_173_30 : decode prog_13_method_19_code 30 = .ok (.aload_n 0, 1) := by decide +kernel
theorem dd_173_31 : decode prog_13_method_19_code 31 = .ok (.iload_n 1, 1) := by decide +kernel
theorem dd_173_32 : decode prog_13_method_19_code 32 = .ok (.invokevirtual 160, 3) := by decide +kernel
theorem dd_173_35 : decode prog_13_method_19_code 35 = .ok (.istore 4, 2) := by decide +kernel
theorem dd_173_37 : decode prog_13_method_19_code 37 = .ok (.iload 4, 2) := by decide +kernel
theorem dd_173_39 : decode prog_13_method_19_code 39 = .ok (.ifCond .ge 5, 3) := by decide +kernel
theorem dd_173_42 : decode prog_13_method_19_code 42 = .ok (.iconst 0, 1) := by decide +kernel
theorem dd_173_43 : decode prog_13_method_19_code 43 = .ok (.ireturn, 1) := by decide +kernel
theorem dd_173_44 : decode prog_13_method_19_code 44 = .ok (.iload 4, 2) := by decide +kernel
theorem dd_173_46 : decode prog_13_method_19_code 46 = .ok (.iconst 1, 1) := by decide +kernel
theorem dd_173_47 : decode prog_13_method_19_code 47 = .ok (.if_icmp .ne 8, 3) := by decide +kernel
theorem dd_173_50 : decode prog_13_method_19_code 50 = .ok (.iload_n 3, 1) := by decide +kernel
theorem dd_173_51 : decode prog_13_method_19_code 51 = .ok (.istore_n 1, 1) := by decide +kernel
theorem dd_173_52 : decode prog_13_method_19_code 52 = .ok (.goto 65, 3) := by decide +kernel
theorem dd_173_55 : decode prog_13_method_19_code 55 = .ok (.iconst 0, 1) := by decide +kernel
theorem dd_173_56 : decode prog_13_method_19_code 56 = .ok (.istore 5, 2) := by decide +kernel
theorem dd_173_58 : decode prog_13_method_19_code 58 = .ok (.iload 5, 2) := by decide +kernel
theorem dd_173_60 : decode prog_13_method_19_code 60 = .ok (.ifCond .ne 57, 3) := by decide +kernel
theorem dd_173_63 : decode prog_13_method_19_code 63 = .ok (.iload_n 1, 1) := by decide +kernel
theorem dd_173_64 : decode prog_13_method_19_code 64 = .ok (.ifCond .ge 20, 3) := by decide +kernel
theorem dd_173_67 : decode prog_13_method_19_code 67 = .ok (.aload_n 0, 1) := by decide +kernel
theorem dd_173_68 : decode prog_13_method_19_code 68 = .ok (.getfield 105, 3) := by decide +kernel
theorem dd_173_71 : decode prog_13_method_19_code 71 = .ok (.aload_n 0, 1) := by decide +kernel
theorem dd_173_72 : decode prog_13_method_19_code 72 = .ok (.getfield 102, 3) := by decide +kernel
theorem dd_173_75 : decode prog_13_method_19_code 75 = .ok (.if_icmp .ne 7, 3) := by decide +kernel
theorem dd_173_78 : decode prog_13_method_19_code 78 = .ok (.iconst 1, 1) := by decide +kernel
theorem dd_173_79 : decode prog_13_method_19_code 79 = .ok (.goto 4, 3) := by decide +kernel
theorem dd_173_82 : decode prog_13_method_19_code 82 = .ok (.iconst 0, 1) := by decide +kernel
theorem dd_173_83 : decode prog_13_method_19_code 83 = .ok (.ireturn, 1) := by decide +kernel
theorem dd_173_84 : decode prog_13_method_19_code 84 = .ok (.aload_n 0, 1) := by decide +kernel
theorem dd_173_85 : decode prog_13_method_19_code 85 = .ok (.iload_n 1, 1) := by decide +kernel
theorem dd_173_86 : decode prog_13_method_19_code 86 = .ok (.invokevirtual 163, 3) := by decide +kernel
theorem dd_173_89 : decode prog_13_method_19_code 89 = .ok (.istore 5, 2) := by decide +kernel
theorem dd_173_91 : decode prog_13_method_19_code 91 = .ok (.iload 5, 2) := by decide +kernel
theorem dd_173_93 : decode prog_13_method_19_code 93 = .ok (.ifCond .ge 5, 3) := by decide +kernel
theorem dd_173_96 : decode prog_13_method_19_code 96 = .ok (.iconst 0, 1) := by decide +kernel
theorem dd_173_97 : decode prog_13_method_19_code 97 = .ok (.ireturn, 1) := by decide +kernel
theorem dd_173_98 : decode prog_13_method_19_code 98 = .ok (.iload 5, 2) := by decide +kernel
theorem dd_173_100 : decode prog_13_method_19_code 100 = .ok (.ifCond .ne 12, 3) := by decide +kernel
theorem dd_173_103 : decode prog_13_method_19_code 103 = .ok (.aload_n 0, 1) := by decide +kernel
theorem dd_173_104 : decode prog_13_method_19_code 104 = .ok (.getfield 30, 3) := by decide +kernel
theorem dd_173_107 : decode prog_13_method_19_code 107 = .ok (.iload_n 1, 1) := by decide +kernel
theorem dd_173_108 : decode prog_13_method_19_code 108 = .ok (.iaload, 1) := by decide +kernel
theorem dd_173_109 : decode prog_13_method_19_code 109 = .ok (.goto 4, 3) := by decide +kernel
theorem dd_173_112 : decode prog_13_method_19_code 112 = .ok (.iload_n 1, 1) := by decide +kernel
theorem dd_173_113 : decode prog_13_method_19_code 113 = .ok (.istore_n 1, 1) := by decide +kernel
theorem dd_173_114 : decode prog_13_method_19_code 114 = .ok (.goto (-56), 3) := by decide +kernel
theorem dd_173_117 : decode prog_13_method_19_code 117 = .ok (.iinc 2 1, 3) := by decide +kernel
theorem dd_173_120 : decode prog_13_method_19_code 120 = .ok (.goto (-101), 3) := by decide +kernel
theorem dd_173_123 : decode prog_13_method_19_code 123 = .ok (.iconst 0, 1) := by decide +kernel
theorem dd_173_124 : decode prog_13_method_19_code 124 = .ok (.ireturn, 1) := by decide +kernel
set_option maxRecDepth 100000 in
theorem okI_173 : mj_okI gG "PairMachineModel" prog_13_method_19_code 6 (mj_off oM_173) (Option.some Jvm.ClassFile.FieldType.boolean) false true 0 cM_173 :=
  ⟨Or.inl ⟨0, rfl, dd_173_0, rfl⟩,
   Or.inl (Or.inl ⟨dd_173_1, rfl⟩),
   ⟨105, "PairMachineModel", fT10, 45, dd_173_2, rfl, okc_10, by decide, tw_807, rfl, Or.inl rfl⟩,
   Or.inl ⟨0, rfl, dd_173_5, rfl⟩,
   Or.inl (Or.inl ⟨dd_173_6, rfl⟩),
   ⟨119, "PairMachineModel", fT10, 45, dd_173_7, rfl, okc_10, by decide, tw_817, rfl, Or.inl rfl⟩,
   Or.inl ⟨0, rfl, dd_173_10, rfl⟩,
   Or.inl (Or.inl ⟨dd_173_11, rfl⟩),
   ⟨112, "PairMachineModel", fT10, 45, dd_173_12, rfl, okc_10, by decide, tw_812, rfl, Or.inl rfl⟩,
   Or.inl (Or.inl ⟨dd_173_15, rfl⟩),
   ⟨by decide, Or.inl ⟨1, rfl, dd_173_16, rfl⟩⟩,
   Or.inl (Or.inl ⟨dd_173_17, rfl⟩),
   ⟨by decide, Or.inl ⟨2, rfl, dd_173_18, rfl⟩⟩,
   Or.inl ⟨2, rfl, dd_173_19, rfl⟩,
   Or.inl (Or.inr (Or.inl ⟨dd_173_20, rfl, by decide⟩)),
   ⟨101, dd_173_22, rfl, rfl⟩,
   Or.inl ⟨0, rfl, dd_173_25, rfl⟩,
   ⟨119, "PairMachineModel", fT10, 45, dd_173_26, rfl, okc_10, by decide, tw_817⟩,
   ⟨by decide, Or.inl ⟨3, rfl, dd_173_29, rfl⟩⟩,
   Or.inl ⟨0, rfl, dd_173_30, rfl⟩,
   Or.inl ⟨1, rfl, dd_173_31, rfl⟩,
   ⟨rfl, tw_859, by decide, tw_12, by decide +kernel, 160, tw_860, dd_173_32, tw_861, ⟨"PairMachineModel", fT10, 45, rfl, tw_862⟩, by decide +kernel⟩,
   ⟨by decide, Or.inr ⟨dd_173_35, rfl⟩⟩,
   Or.inr ⟨dd_173_37, rfl⟩,
   ⟨5, dd_173_39, rfl, rfl⟩,
   Or.inl (Or.inl ⟨dd_173_42, rfl⟩),
   ⟨dd_173_43, rfl⟩,
   Or.inr ⟨dd_173_44, rfl⟩,
   Or.inl (Or.inl ⟨dd_173_46, rfl⟩),
   ⟨8, dd_173_47, rfl, rfl⟩,
   Or.inl ⟨3, rfl, dd_173_50, rfl⟩,
   ⟨by decide, Or.inl ⟨1, rfl, dd_173_51, rfl⟩⟩,
   ⟨65, dd_173_52, rfl⟩,
   Or.inl (Or.inl ⟨dd_173_55, rfl⟩),
   ⟨by decide, Or.inr ⟨dd_173_56, rfl⟩⟩,
   Or.inr ⟨dd_173_58, rfl⟩,
   ⟨57, dd_173_60, rfl, rfl⟩,
   Or.inl ⟨1, rfl, dd_173_63, rfl⟩,
   ⟨20, dd_173_64, rfl, rfl⟩,
   Or.inl ⟨0, rfl, dd_173_67, rfl⟩,
   ⟨105, "PairMachineModel", fT10, 45, dd_173_68, rfl, okc_10, by decide, tw_807⟩,
   Or.inl ⟨0, rfl, dd_173_71, rfl⟩,
   ⟨102, "PairMachineModel", fT10, 45, dd_173_72, rfl, okc_10, by decide, tw_806⟩,
   ⟨7, dd_173_75, rfl, rfl⟩,
   Or.inl (Or.inl ⟨dd_173_78, rfl⟩),
   ⟨4, dd_173_79, rfl⟩,
   Or.inl (Or.inl ⟨dd_173_82, rfl⟩),
   ⟨dd_173_83, rfl⟩,
   Or.inl ⟨0, rfl, dd_173_84, rfl⟩,
   Or.inl ⟨1, rfl, dd_173_85, rfl⟩,
   ⟨rfl, tw_863, by decide, tw_12, by decide +kernel, 163, tw_864, dd_173_86, tw_865, ⟨"PairMachineModel", fT10, 45, rfl, tw_866⟩, by decide +kernel⟩,
   ⟨by decide, Or.inr ⟨dd_173_89, rfl⟩⟩,
   Or.inr ⟨dd_173_91, rfl⟩,
   ⟨5, dd_173_93, rfl, rfl⟩,
   Or.inl (Or.inl ⟨dd_173_96, rfl⟩),
   ⟨dd_173_97, rfl⟩,
   Or.inr ⟨dd_173_98, rfl⟩,
   ⟨12, dd_173_100, rfl, rfl⟩,
   Or.inl ⟨0, rfl, dd_173_103, rfl⟩,
   ⟨30, "PairMachineModel", fT10, 45, dd_173_104, rfl, okc_10, by decide, tw_782⟩,
   Or.inl ⟨1, rfl, dd_173_107, rfl⟩,
   ⟨dd_173_108, rfl⟩,
   ⟨4, dd_173_109, rfl⟩,
   Or.inl ⟨1, rfl, dd_173_112, rfl⟩,
   ⟨by decide, Or.inl ⟨1, rfl, dd_173_113, rfl⟩⟩,
   ⟨(-56), dd_173_114, rfl⟩,
   ⟨by decide, dd_173_117, rfl⟩,
   ⟨(-101), dd_173_120, rfl⟩,
   Or.inl (Or.inl ⟨dd_173_123, rfl⟩),
   ⟨dd_173_124, rfl⟩, trivial⟩
theorem okM_173 : mj_okE gG 173 (cM_173, 6, oM_173, hM_173) := ⟨rfl, rfl, by decide +kernel, trivial, okI_173⟩
theorem dd_174_0 : decode prog_13_method_20_code 0 = .ok (.aload_n 0, 1) := by decide +kernel
theorem dd_174_1 : decode prog_13_method_20_code 1 = .ok (.getfield 17, 3) := by decide +kernel
theorem dd_174_4 : decode prog_13_method_20_code 4 = .ok (.iload_n 1, 1) := by decide +kernel
theorem dd_174_5 : decode prog_13_method_20_code 5 = .ok (.iaload, 1) := by decide +kernel
theorem dd_174_6 : decode prog_13_method_20_code 6 = .ok (.iconst 5, 1) := by decide +kernel
theorem dd_174_7 : decode prog_13_method_20_code 7 = .ok (.if_icmp .ne 39, 3) := by decide +kernel
theorem dd_174_10 : decode prog_13_method_20_code 10 = .ok (.iconst 0, 1) := by decide +kernel
theorem dd_174_11 : decode prog_13_method_20_code 11 = .ok (.istore_n 3, 1) := by decide +kernel
theorem dd_174_12 : decode prog_13_method_20_code 12 = .ok (.iload_n 3, 1) := by decide +kernel
theorem dd_174_13 : decode prog_13_method_20_code 13 = .ok (.aload_n 0, 1) := by decide +kernel
theorem dd_174_14 : decode prog_13_method_20_code 14 = .ok (.getfield 27, 3) := by decide +kernel
theorem dd_174_17 : decode prog_13_method_20_code 17 = .ok (.iload_n 1, 1) := by decide +kernel
theorem dd_174_18 : decode prog_13_method_20_code 18 = .ok (.iaload, 1) := by decide +kernel
theorem dd_174_19 : decode prog_13_method_20_code 19 = .ok (.if_icmp .ge 25, 3) := by decide +kernel
theorem dd_174_22 : decode prog_13_method_20_code 22 = .ok (.aload_n 0, 1) := by decide +kernel
theorem dd_174_23 : decode prog_13_method_20_code 23 = .ok (.getfield 45, 3) := by decide +kernel
theorem dd_174_26 : decode prog_13_method_20_code 26 = .ok (.iconst 3, 1) := by decide +kernel
theorem dd_174_27 : decode prog_13_method_20_code 27 = .ok (.iload_n 1, 1) := by decide +kernel
theorem dd_174_28 : decode prog_13_method_20_code 28 = .ok (.imul, 1) := by decide +kernel
theorem dd_174_29 : decode prog_13_method_20_code 29 = .ok (.iload_n 3, 1) := by decide +kernel
theorem dd_174_30 : decode prog_13_method_20_code 30 = .ok (.iadd, 1) := by decide +kernel
theorem dd_174_31 : decode prog_13_method_20_code 31 = .ok (.iaload, 1) := by decide +kernel
theorem dd_174_32 : decode prog_13_method_20_code 32 = .ok (.iload_n 2, 1) := by decide +kernel
theorem dd_174_33 : decode prog_13_method_20_code 33 = .ok (.if_icmp .ne 5, 3) := by decide +kernel
theorem dd_174_36 : decode prog_13_method_20_code 36 = .ok (.iload_n 3, 1) := by decide +kernel
theorem dd_174_37 : decode prog_13_method_20_code 37 = .ok (.ireturn, 1) := by decide +kernel
theorem dd_174_38 : decode prog_13_method_20_code 38 = .ok (.iinc 3 1, 3) := by decide +kernel
theorem dd_174_41 : decode prog_13_method_20_code 41 = .ok (.goto (-29), 3) := by decide +kernel
theorem dd_174_44 : decode prog_13_method_20_code 44 = .ok (.iconst (-1), 1) := by decide +kernel
theorem dd_174_45 : decode prog_13_method_20_code 45 = .ok (.ireturn, 1) := by decide +kernel
theorem dd_174_46 : decode prog_13_method_20_code 46 = .ok (.iconst 0, 1) := by decide +kernel
theorem dd_174_47 : decode prog_13_method_20_code 47 = .ok (.istore_n 3, 1) := by decide +kernel
theorem dd_174_48 : decode prog_13_method_20_code 48 = .ok (.aload_n 0, 1) := by decide +kernel
theorem dd_174_49 : decode prog_13_method_20_code 49 = .ok (.getfield 39, 3) := by decide +kernel
theorem dd_174_52 : decode prog_13_method_20_code 52 = .ok (.aload_n 0, 1) := by decide +kernel
theorem dd_174_53 : decode prog_13_method_20_code 53 = .ok (.getfield 33, 3) := by decide +kernel
theorem dd_174_56 : decode prog_13_method_20_code 56 = .ok (.iload_n 1, 1) := by decide +kernel
theorem dd_174_57 : decode prog_13_method_20_code 57 = .ok (.iaload, 1) := by decide +kernel
theorem dd_174_58 : decode prog_13_method_20_code 58 = .ok (.iaload, 1) := by decide +kernel
theorem dd_174_59 : decode prog_13_method_20_code 59 = .ok (.istore 4, 2) := by decide +kernel
theorem dd_174_61 : decode prog_13_method_20_code 61 = .ok (.iload 4, 2) := by decide +kernel
theorem dd_174_63 : decode prog_13_method_20_code 63 = .ok (.ifCond .lt 31, 3) := by decide +kernel
theorem dd_174_66 : decode prog_13_method_20_code 66 = .ok (.aload_n 0, 1) := by decide +kernel
theorem dd_174_67 : decode prog_13_method_20_code 67 = .ok (.getfield 48, 3) := by decide +kernel
theorem dd_174_70 : decode prog_13_method_20_code 70 = .ok (.iload 4, 2) := by decide +kernel
theorem dd_174_72 : decode prog_13_method_20_code 72 = .ok (.iaload, 1) := by decide +kernel
theorem dd_174_73 : decode prog_13_method_20_code 73 = .ok (.iload_n 2, 1) := by decide +kernel
theorem dd_174_74 : decode prog_13_method_20_code 74 = .ok (.if_icmp .ne 5, 3) := by decide +kernel
theorem dd_174_77 : decode prog_13_method_20_code 77 = .ok (.iload_n 3, 1) := by decide +kernel
theorem dd_174_78 : decode prog_13_method_20_code 78 = .ok (.ireturn, 1) := by decide +kernel
theorem dd_174_79 : decode prog_13_method_20_code 79 = .ok (.iinc 3 1, 3) := by decide +kernel
theorem dd_174_82 : decode prog_13_method_20_code 82 = .ok (.aload_n 0, 1) := by decide +kernel
theorem dd_174_83 : decode prog_13_method_20_code 83 = .ok (.getfield 39, 3) := by decide +kernel
theorem dd_174_86 : decode prog_13_method_20_code 86 = .ok (.iload 4, 2) := by decide +kernel
theorem dd_174_88 : decode prog_13_method_20_code 88 = .ok (.iaload, 1) := by decide +kernel
theorem dd_174_89 : decode prog_13_method_20_code 89 = .ok (.istore 4, 2) := by decide +kernel
theorem dd_174_91 : decode prog_13_method_20_code 91 = .ok (.goto (-30), 3) := by decide +kernel
theorem dd_174_94 : decode prog_13_method_20_code 94 = .ok (.iconst (-1), 1) := by decide +kernel
theorem dd_174_95 : decode prog_13_method_20_code 95 = .ok (.ireturn, 1) := by decide +kernel
set_option maxRecDepth 100000 in
theorem okI_174 : mj_okI gG "PairMachineModel" prog_13_method_20_code 5 (mj_off oM_174) (Option.some Jvm.ClassFile.FieldType.int) false true 0 cM_174 :=
  ⟨Or.inl ⟨0, rfl, dd_174_0, rfl⟩,
   ⟨17, "PairMachineModel", fT10, 45, dd_174_1, rfl, okc_10, by decide, tw_778⟩,
   Or.inl ⟨1, rfl, dd_174_4, rfl⟩,
   ⟨dd_174_5, rfl⟩,
   Or.inl (Or.inl ⟨dd_174_6, rfl⟩),
   ⟨39, dd_174_7, rfl, rfl⟩,
   Or.inl (Or.inl ⟨dd_174_10, rfl⟩),
   ⟨by decide, Or.inl ⟨3, rfl, dd_174_11, rfl⟩⟩,
   Or.inl ⟨3, rfl, dd_174_12, rfl⟩,
   Or.inl ⟨0, rfl, dd_174_13, rfl⟩,
   ⟨27, "PairMachineModel", fT10, 45, dd_174_14, rfl, okc_10, by decide, tw_781⟩,
   Or.inl ⟨1, rfl, dd_174_17, rfl⟩,
   ⟨dd_174_18, rfl⟩,
   ⟨25, dd_174_19, rfl, rfl⟩,
   Or.inl ⟨0, rfl, dd_174_22, rfl⟩,
   ⟨45, "PairMachineModel", fT10, 45, dd_174_23, rfl, okc_10, by decide, tw_787⟩,
   Or.inl (Or.inl ⟨dd_174_26, rfl⟩),
   Or.inl ⟨1, rfl, dd_174_27, rfl⟩,
   ⟨dd_174_28, rfl⟩,
   Or.inl ⟨3, rfl, dd_174_29, rfl⟩,
   ⟨dd_174_30, rfl⟩,
   ⟨dd_174_31, rfl⟩,
   Or.inl ⟨2, rfl, dd_174_32, rfl⟩,
   ⟨5, dd_174_33, rfl, rfl⟩,
   Or.inl ⟨3, rfl, dd_174_36, rfl⟩,
   ⟨dd_174_37, rfl⟩,
   ⟨by decide, dd_174_38, rfl⟩,
   ⟨(-29), dd_174_41, rfl⟩,
   Or.inl (Or.inl ⟨dd_174_44, rfl⟩),
   ⟨dd_174_45, rfl⟩,
   Or.inl (Or.inl ⟨dd_174_46, rfl⟩),
   ⟨by decide, Or.inl ⟨3, rfl, dd_174_47, rfl⟩⟩,
   Or.inl ⟨0, rfl, dd_174_48, rfl⟩,
   ⟨39, "PairMachineModel", fT10, 45, dd_174_49, rfl, okc_10, by decide, tw_785⟩,
   Or.inl ⟨0, rfl, dd_174_52, rfl⟩,
   ⟨33, "PairMachineModel", fT10, 45, dd_174_53, rfl, okc_10, by decide, tw_783⟩,
   Or.inl ⟨1, rfl, dd_174_56, rfl⟩,
   ⟨dd_174_57, rfl⟩,
   ⟨dd_174_58, rfl⟩,
   ⟨by decide, Or.inr ⟨dd_174_59, rfl⟩⟩,
   Or.inr ⟨dd_174_61, rfl⟩,
   ⟨31, dd_174_63, rfl, rfl⟩,
   Or.inl ⟨0, rfl, dd_174_66, rfl⟩,
   ⟨48, "PairMachineModel", fT10, 45, dd_174_67, rfl, okc_10, by decide, tw_788⟩,
   Or.inr ⟨dd_174_70, rfl⟩,
   ⟨dd_174_72, rfl⟩,
   Or.inl ⟨2, rfl, dd_174_73, rfl⟩,
   ⟨5, dd_174_74, rfl, rfl⟩,
   Or.inl ⟨3, rfl, dd_174_77, rfl⟩,
   ⟨dd_174_78, rfl⟩,
   ⟨by decide, dd_174_79, rfl⟩,
   Or.inl ⟨0, rfl, dd_174_82, rfl⟩,
   ⟨39, "PairMachineModel", fT10, 45, dd_174_83, rfl, okc_10, by decide, tw_785⟩,
   Or.inr ⟨dd_174_86, rfl⟩,
   ⟨dd_174_88, rfl⟩,
   ⟨by decide, Or.inr ⟨dd_174_89, rfl⟩⟩,
   ⟨(-30), dd_174_91, rfl⟩,
   Or.inl (Or.inl ⟨dd_174_94, rfl⟩),
   ⟨dd_174_95, rfl⟩, trivial⟩
theorem okM_174 : mj_okE gG 174 (cM_174, 5, oM_174, hM_174) := ⟨rfl, rfl, by decide +kernel, trivial, okI_174⟩
theorem dd_175_0 : decode prog_13_method_21_code 0 = .ok (.iconst 0, 1) := by decide +kernel
theorem dd_175_1 : decode prog_13_method_21_code 1 = .ok (.istore_n 2, 1) := by decide +kernel
theorem dd_175_2 : decode prog_13_method_21_code 2 = .ok (.iload_n 1, 1) := by decide +kernel
theorem dd_175_3 : decode prog_13_method_21_code 3 = .ok (.istore_n 3, 1) := by decide +kernel
theorem dd_175_4 : decode prog_13_method_21_code 4 = .ok (.aload_n 0, 1) := by decide +kernel
theorem dd_175_5 : decode prog_13_method_21_code 5 = .ok (.getfield 30, 3) := by decide +kernel
theorem dd_175_8 : decode prog_13_method_21_code 8 = .ok (.iload_n 1, 1) := by decide +kernel
theorem dd_175_9 : decode prog_13_method_21_code 9 = .ok (.iaload, 1) := by decide +kernel
theorem dd_175_10 : decode prog_13_method_21_code 10 = .ok (.istore 4, 2) := by decide +kernel
theorem dd_175_12 : decode prog_13_method_21_code 12 = .ok (.iload 4, 2) := by decide +kernel
theorem dd_175_14 : decode prog_13_method_21_code 14 = .ok (.ifCond .lt 120, 3) := by decide +kernel
theorem dd_175_17 : decode prog_13_method_21_code 17 = .ok (.aload_n 0, 1) := by decide +kernel
theorem dd_175_18 : decode prog_13_method_21_code 18 = .ok (.getfield 17, 3) := by decide +kernel
theorem dd_175_21 : decode prog_13_method_21_code 21 = .ok (.iload 4, 2) := by decide +kernel
theorem dd_175_23 : decode prog_13_method_21_code 23 = .ok (.iaload, 1) := by decide +kernel
theorem dd_175_24 : decode prog_13_method_21_code 24 = .ok (.iconst 5, 1) := by decide +kernel
theorem dd_175_25 : decode prog_13_method_21_code 25 = .ok (.if_icmp .eq 38, 3) := by decide +kernel
theorem dd_175_28 : decode prog_13_method_21_code 28 = .ok (.aload_n 0, 1) := by decide +kernel
theorem dd_175_29 : decode prog_13_method_21_code 29 = .ok (.getfield 17, 3) := by decide +kernel
theorem dd_175_32 : decode prog_13_method_21_code 32 = .ok (.iload 4, 2) := by decide +kernel
theorem dd_175_34 : decode prog_13_method_21_code 34 = .ok (.iaload, 1) := by decide +kernel
theorem dd_175_35 : decode prog_13_method_21_code 35 = .ok (.bipush 7, 2) := by decide +kernel
theorem dd_175_37 : decode prog_13_method_21_code 37 = .ok (.if_icmp .eq 26, 3) := by decide +kernel
theorem dd_175_40 : decode prog_13_method_21_code 40 = .ok (.aload_n 0, 1) := by decide +kernel
theorem dd_175_41 : decode prog_13_method_21_code 41 = .ok (.getfield 17, 3) := by decide +kernel
theorem dd_175_44 : decode prog_13_method_21_code 44 = .ok (.iload 4, 2) := by decide +kernel
theorem dd_175_46 : decode prog_13_method_21_code 46 = .ok (.iaload, 1) := by decide +kernel
theorem dd_175_47 : decode prog_13_method_21_code 47 = .ok (.bipush 6, 2) := by decide +kernel
theorem dd_175_49 : decode prog_13_method_21_code 49 = .ok (.if_icmp .ne 18, 3) := by decide +kernel
theorem dd_175_52 : decode prog_13_method_21_code 52 = .ok (.iload_n 3, 1) := by decide +kernel
theorem dd_175_53 : decode prog_13_method_21_code 53 = .ok (.aload_n 0, 1) := by decide +kernel
theorem dd_175_54 : decode prog_13_method_21_code 54 = .ok (.getfield 33, 3) := by decide +kernel
theorem dd_175_57 : decode prog_13_method_21_code 57 = .ok (.iload 4, 2) := by decide +kernel
theorem dd_175_59 : decode prog_13_method_21_code 59 = .ok (.iaload, 1) := by decide +kernel
theorem dd_175_60 : decode prog_13_method_21_code 60 = .ok (.if_icmp .ne 7, 3) := by decide +kernel
theorem dd_175_63 : decode prog_13_method_21_code 63 = .ok (.iconst 1, 1) := by decide +kernel
theorem dd_175_64 : decode prog_13_method_21_code 64 = .ok (.goto 4, 3) := by decide +kernel
theorem dd_175_67 : decode prog_13_method_21_code 67 = .ok (.iconst 0, 1) := by decide +kernel
theorem dd_175_68 : decode prog_13_method_21_code 68 = .ok (.istore 5, 2) := by decide +kernel
theorem dd_175_70 : decode prog_13_method_21_code 70 = .ok (.iload 5, 2) := by decide +kernel
theorem dd_175_72 : decode prog_13_method_21_code 72 = .ok (.ifCond .eq 18, 3) := by decide +kernel
theorem dd_175_75 : decode prog_13_method_21_code 75 = .ok (.aload_n 0, 1) := by decide +kernel
theorem dd_175_76 : decode prog_13_method_21_code 76 = .ok (.iload 4, 2) := by decide +kernel
theorem dd_175_78 : decode prog_13_method_21_code 78 = .ok (.aload_n 0, 1) := by decide +kernel
theorem dd_175_79 : decode prog_13_method_21_code 79 = .ok (.getfield 27, 3) := by decide +kernel
theorem dd_175_82 : decode prog_13_method_21_code 82 = .ok (.iload_n 1, 1) := by decide +kernel
theorem dd_175_83 : decode prog_13_method_21_code 83 = .ok (.iaload, 1) := by decide +kernel
theorem dd_175_84 : decode prog_13_method_21_code 84 = .ok (.invokevirtual 166, 3) := by decide +kernel
theorem dd_175_87 : decode prog_13_method_21_code 87 = .ok (.goto 4, 3) := by decide +kernel
theorem dd_175_90 : decode prog_13_method_21_code 90 = .ok (.iconst (-1), 1) := by decide +kernel
theorem dd_175_91 : decode prog_13_method_21_code 91 = .ok (.istore 6, 2) := by decide +kernel
theorem dd_175_93 : decode prog_13_method_21_code 93 = .ok (.iload 6, 2) := by decide +kernel
theorem dd_175_95 : decode prog_13_method_21_code 95 = .ok (.ifCond .lt 11, 3) := by decide +kernel
theorem dd_175_98 : decode prog_13_method_21_code 98 = .ok (.bipush 16, 2) := by decide +kernel
theorem dd_175_100 : decode prog_13_method_21_code 100 = .ok (.iload_n 2, 1) := by decide +kernel
theorem dd_175_101 : decode prog_13_method_21_code 101 = .ok (.imul, 1) := by decide +kernel
theorem dd_175_102 : decode prog_13_method_21_code 102 = .ok (.iload 6, 2) := by decide +kernel
theorem dd_175_104 : decode prog_13_method_21_code 104 = .ok (.iadd, 1) := by decide +kernel
theorem dd_175_105 : decode prog_13_method_21_code 105 = .ok (.ireturn, 1) := by decide +kernel
theorem dd_175_106 : decode prog_13_method_21_code 106 = .ok (.iload 5, 2) := by decide +kernel
theorem dd_175_108 : decode prog_13_method_21_code 108 = .ok (.ifCond .eq 9, 3) := by decide +kernel
theorem dd_175_111 : decode prog_13_method_21_code 111 = .ok (.iload_n 2, 1) := by decide +kernel
theorem dd_175_112 : decode prog_13_method_21_code 112 = .ok (.iconst 1, 1) := by decide +kernel
theorem dd_175_113 : decode prog_13_method_21_code 113 = .ok (.iadd, 1) := by decide +kernel
theorem dd_175_114 : decode prog_13_method_21_code 114 = .ok (.goto 4, 3) := by decide +kernel
theorem dd_175_117 : decode prog_13_method_21_code 117 = .ok (.iload_n 2, 1) := by decide +kernel
theorem dd_175_118 : decode prog_13_method_21_code 118 = .ok (.istore_n 2, 1) := by decide +kernel
theorem dd_175_119 : decode prog_13_method_21_code 119 = .ok (.iload 4, 2) := by decide +kernel
theorem dd_175_121 : decode prog_13_method_21_code 121 = .ok (.istore_n 3, 1) := by decide +kernel
theorem dd_175_122 : decode prog_13_method_21_code 122 = .ok (.aload_n 0, 1) := by decide +kernel
theorem dd_175_123 : decode prog_13_method_21_code 123 = .ok (.getfield 30, 3) := by decide +kernel
theorem dd_175_126 : decode prog_13_method_21_code 126 = .ok (.iload 4, 2) := by decide +kernel
theorem dd_175_128 : decode prog_13_method_21_code 128 = .ok (.iaload, 1) := by decide +kernel
theorem dd_175_129 : decode prog_13_method_21_code 129 = .ok (.istore 4, 2) := by decide +kernel
theorem dd_175_131 : decode prog_13_method_21_code 131 = .ok (.goto (-119), 3) := by decide +kernel
theorem dd_175_134 : decode prog_13_method_21_code 134 = .ok (.iconst (-1), 1) := by decide +kernel
theorem dd_175_135 : decode prog_13_method_21_code 135 = .ok (.ireturn, 1) := by decide +kernel
set_option maxRecDepth 100000 in
theorem okI_175 : mj_okI gG "PairMachineModel" prog_13_method_21_code 7 (mj_off oM_175) (Option.some Jvm.ClassFile.FieldType.int) false true 0 cM_175 :=
  ⟨Or.inl (Or.inl ⟨dd_175_0, rfl⟩),
   ⟨by decide, Or.inl ⟨2, rfl, dd_175_1, rfl⟩⟩,
   Or.inl ⟨1, rfl, dd_175_2, rfl⟩,
   ⟨by decide, Or.inl ⟨3, rfl, dd_175_3, rfl⟩⟩,
   Or.inl ⟨0, rfl, dd_175_4, rfl⟩,
   ⟨30, "PairMachineModel", fT10, 45, dd_175_5, rfl, okc_10, by decide, tw_782⟩,
   Or.inl ⟨1, rfl, dd_175_8, rfl⟩,
   ⟨dd_175_9, rfl⟩,
   ⟨by decide, Or.inr ⟨dd_175_10, rfl⟩⟩,
   Or.inr ⟨dd_175_12, rfl⟩,
   ⟨120, dd_175_14, rfl, rfl⟩,
   Or.inl ⟨0, rfl, dd_175_17, rfl⟩,
   ⟨17, "PairMachineModel", fT10, 45, dd_175_18, rfl, okc_10, by decide, tw_778⟩,
   Or.inr ⟨dd_175_21, rfl⟩,
   ⟨dd_175_23, rfl⟩,
   Or.inl (Or.inl ⟨dd_175_24, rfl⟩),
   ⟨38, dd_175_25, rfl, rfl⟩,
   Or.inl ⟨0, rfl, dd_175_28, rfl⟩,
   ⟨17, "PairMachineModel", fT10, 45, dd_175_29, rfl, okc_10, by decide, tw_778⟩,
   Or.inr ⟨dd_175_32, rfl⟩,
   ⟨dd_175_34, rfl⟩,
   Or.inl (Or.inr (Or.inl ⟨dd_175_35, rfl, by decide⟩)),
   ⟨26, dd_175_37, rfl, rfl⟩,
   Or.inl ⟨0, rfl, dd_175_40, rfl⟩,
   ⟨17, "PairMachineModel", fT10, 45, dd_175_41, rfl, okc_10, by decide, tw_778⟩,
   Or.inr ⟨dd_175_44, rfl⟩,
   ⟨dd_175_46, rfl⟩,
   Or.inl (Or.inr (Or.inl ⟨dd_175_47, rfl, by decide⟩)),
   ⟨18, dd_175_49, rfl, rfl⟩,
   Or.inl ⟨3, rfl, dd_175_52, rfl⟩,
   Or.inl ⟨0, rfl, dd_175_53, rfl⟩,
   ⟨33, "PairMachineModel", fT10, 45, dd_175_54, rfl, okc_10, by decide, tw_783⟩,
   Or.inr ⟨dd_175_57, rfl⟩,
   ⟨dd_175_59, rfl⟩,
   ⟨7, dd_175_60, rfl, rfl⟩,
   Or.inl (Or.inl ⟨dd_175_63, rfl⟩),
   ⟨4, dd_175_64, rfl⟩,
   Or.inl (Or.inl ⟨dd_175_67, rfl⟩),
   ⟨by decide, Or.inr ⟨dd_175_68, rfl⟩⟩,
   Or.inr ⟨dd_175_70, rfl⟩,
   ⟨18, dd_175_72, rfl, rfl⟩,
   Or.inl ⟨0, rfl, dd_175_75, rfl⟩,
   Or.inr ⟨dd_175_76, rfl⟩,
   Or.inl ⟨0, rfl, dd_175_78, rfl⟩,
   ⟨27, "PairMachineModel", fT10, 45, dd_175_79, rfl, okc_10, by decide, tw_781⟩,
   Or.inl ⟨1, rfl, dd_175_82, rfl⟩,
   ⟨dd_175_83, rfl⟩,
   ⟨rfl, tw_867, by decide, tw_12, by decide +kernel, 166, tw_868, dd_175_84, tw_869, ⟨"PairMachineModel", fT10, 45, rfl, tw_870⟩, by decide +kernel⟩,
   ⟨4, dd_175_87, rfl⟩,
   Or.inl (Or.inl ⟨dd_175_90, rfl⟩),
   ⟨by decide, Or.inr ⟨dd_175_91, rfl⟩⟩,
   Or.inr ⟨dd_175_93, rfl⟩,
   ⟨11, dd_175_95, rfl, rfl⟩,
   Or.inl (Or.inr (Or.inl ⟨dd_175_98, rfl, by decide⟩)),
   Or.inl ⟨2, rfl, dd_175_100, rfl⟩,
   ⟨dd_175_101, rfl⟩,
   Or.inr ⟨dd_175_102, rfl⟩,
   ⟨dd_175_104, rfl⟩,
   ⟨dd_175_105, rfl⟩,
   Or.inr ⟨dd_175_106, rfl⟩,
   ⟨9, dd_175_108, rfl, rfl⟩,
   Or.inl ⟨2, rfl, dd_175_111, rfl⟩,
   Or.inl (Or.inl ⟨dd_175_112, rfl⟩),
   ⟨dd_175_113, rfl⟩,
   ⟨4, dd_175_114, rfl⟩,
   Or.inl ⟨2, rfl, dd_175_117, rfl⟩,
   ⟨by decide, Or.inl ⟨2, rfl, dd_175_118, rfl⟩⟩,
   Or.inr ⟨dd_175_119, rfl⟩,
   ⟨by decide, Or.inl ⟨3, rfl, dd_175_121, rfl⟩⟩,
   Or.inl ⟨0, rfl, dd_175_122, rfl⟩,
   ⟨30, "PairMachineModel", fT10, 45, dd_175_123, rfl, okc_10, by decide, tw_782⟩,
   Or.inr ⟨dd_175_126, rfl⟩,
   ⟨dd_175_128, rfl⟩,
   ⟨by decide, Or.inr ⟨dd_175_129, rfl⟩⟩,
   ⟨(-119), dd_175_131, rfl⟩,
   Or.inl (Or.inl ⟨dd_175_134, rfl⟩),
   ⟨dd_175_135, rfl⟩, trivial⟩
theorem okM_175 : mj_okE gG 175 (cM_175, 7, oM_175, hM_175) := ⟨rfl, rfl, by decide +kernel, trivial, okI_175⟩
theorem dd_176_0 : decode prog_13_method_22_code 0 = .ok (.iconst 0, 1) := by decide +kernel
theorem dd_176_1 : decode prog_13_method_22_code 1 = .ok (.istore_n 1, 1) := by decide +kernel
theorem dd_176_2 : decode prog_13_method_22_code 2 = .ok (.iload_n 1, 1) := by decide +kernel
theorem dd_176_3 : decode prog_13_method_22_code 3 = .ok (.aload_n 0, 1) := by decide +kernel
theorem dd_176_4 : decode prog_13_method_22_code 4 = .ok (.getfield 119, 3) := by decide +kernel
theorem dd_176_7 : decode prog_13_method_22_code 7 = .ok (.if_icmp .ge 34, 3) := by decide +kernel
theorem dd_176_10 : decode prog_13_method_22_code 10 = .ok (.aload_n 0, 1) := by decide +kernel
theorem dd_176_11 : decode prog_13_method_22_code 11 = .ok (.getfield 17, 3) := by decide +kernel
theorem dd_176_14 : decode prog_13_method_22_code 14 = .ok (.iload_n 1, 1) := by decide +kernel
theorem dd_176_15 : decode prog_13_method_22_code 15 = .ok (.iaload, 1) := by decide +kernel
theorem dd_176_16 : decode prog_13_method_22_code 16 = .ok (.iconst 1, 1) := by decide +kernel
theorem dd_176_17 : decode prog_13_method_22_code 17 = .ok (.if_icmp .ne 18, 3) := by decide +kernel
theorem dd_176_20 : decode prog_13_method_22_code 20 = .ok (.aload_n 0, 1) := by decide +kernel
theorem dd_176_21 : decode prog_13_method_22_code 21 = .ok (.iload_n 1, 1) := by decide +kernel
theorem dd_176_22 : decode prog_13_method_22_code 22 = .ok (.invokevirtual 169, 3) := by decide +kernel
theorem dd_176_25 : decode prog_13_method_22_code 25 = .ok (.ifCond .ge 10, 3) := by decide +kernel
theorem dd_176_28 : decode prog_13_method_22_code 28 = .ok (.aload_n 0, 1) := by decide +kernel
theorem dd_176_29 : decode prog_13_method_22_code 29 = .ok (.getfield 21, 3) := by decide +kernel
theorem dd_176_32 : decode prog_13_method_22_code 32 = .ok (.iload_n 1, 1) := by decide +kernel
theorem dd_176_33 : decode prog_13_method_22_code 33 = .ok (.iaload, 1) := by decide +kernel
theorem dd_176_34 : decode prog_13_method_22_code 34 = .ok (.ireturn, 1) := by decide +kernel
theorem dd_176_35 : decode prog_13_method_22_code 35 = .ok (.iinc 1 1, 3) := by decide +kernel
theorem dd_176_38 : decode prog_13_method_22_code 38 = .ok (.goto (-36), 3) := by decide +kernel
theorem dd_176_41 : decode prog_13_method_22_code 41 = .ok (.iconst (-1), 1) := by decide +kernel
theorem dd_176_42 : decode prog_13_method_22_code 42 = .ok (.ireturn, 1) := by decide +kernel
set_option maxRecDepth 100000 in
theorem okI_176 : mj_okI gG "PairMachineModel" prog_13_method_22_code 2 (mj_off oM_176) (Option.some Jvm.ClassFile.FieldType.int) false true 0 cM_176 :=
  ⟨Or.inl (Or.inl ⟨dd_176_0, rfl⟩),
   ⟨by decide, Or.inl ⟨1, rfl, dd_176_1, rfl⟩⟩,
   Or.inl ⟨1, rfl, dd_176_2, rfl⟩,
   Or.inl ⟨0, rfl, dd_176_3, rfl⟩,
   ⟨119, "PairMachineModel", fT10, 45, dd_176_4, rfl, okc_10, by decide, tw_817⟩,
   ⟨34, dd_176_7, rfl, rfl⟩,
   Or.inl ⟨0, rfl, dd_176_10, rfl⟩,
   ⟨17, "PairMachineModel", fT10, 45, dd_176_11, rfl, okc_10, by decide, tw_778⟩,
   Or.inl ⟨1, rfl, dd_176_14, rfl⟩,
   ⟨dd_176_15, rfl⟩,
   Or.inl (Or.inl ⟨dd_176_16, rfl⟩),
   ⟨18, dd_176_17, rfl, rfl⟩,
   Or.inl ⟨0, rfl, dd_176_20, rfl⟩,
   Or.inl ⟨1, rfl, dd_176_21, rfl⟩,
   ⟨rfl, tw_871, by decide, tw_12, by decide +kernel, 169, tw_872, dd_176_22, tw_873, ⟨"PairMachineModel", fT10, 45, rfl, tw_874⟩, by decide +kernel⟩,
   ⟨10, dd_176_25, rfl, rfl⟩,
   Or.inl ⟨0, rfl, dd_176_28, rfl⟩,
   ⟨21, "PairMachineModel", fT10, 45, dd_176_29, rfl, okc_10, by decide, tw_779⟩,
   Or.inl ⟨1, rfl, dd_176_32, rfl⟩,
   ⟨dd_176_33, rfl⟩,
   ⟨dd_176_34, rfl⟩,
   ⟨by decide, dd_176_35, rfl⟩,
   ⟨(-36), dd_176_38, rfl⟩,
   Or.inl (Or.inl ⟨dd_176_41, rfl⟩),
   ⟨dd_176_42, rfl⟩, trivial⟩
theorem okM_176 : mj_okE gG 176 (cM_176, 2, oM_176, hM_176) := ⟨rfl, rfl, by decide +kernel, trivial, okI_176⟩
theorem dd_177_0 : decode prog_13_method_23_code 0 = .ok (.aload_n 0, 1) := by decide +kernel
theorem dd_177_1 : decode prog_13_method_23_code 1 = .ok (.getfield 51, 3) := by decide +kernel
theorem dd_177_4 : decode prog_13_method_23_code 4 = .ok (.aload_n 0, 1) := by decide +kernel
theorem dd_177_5 : decode prog_13_method_23_code 5 = .ok (.getfield 172, 3) := by decide +kernel
theorem dd_177_8 : decode prog_13_method_23_code 8 = .ok (.iload_n 1, 1) := by decide +kernel
theorem dd_177_9 : decode prog_13_method_23_code 9 = .ok (.iastore, 1) := by decide +kernel
theorem dd_177_10 : decode prog_13_method_23_code 10 = .ok (.aload_n 0, 1) := by decide +kernel
theorem dd_177_11 : decode prog_13_method_23_code 11 = .ok (.getfield 54, 3) := by decide +kernel
theorem dd_177_14 : decode prog_13_method_23_code 14 = .ok (.aload_n 0, 1) := by decide +kernel
theorem dd_177_15 : decode prog_13_method_23_code 15 = .ok (.getfield 172, 3) := by decide +kernel
theorem dd_177_18 : decode prog_13_method_23_code 18 = .ok (.iload_n 2, 1) := by decide +kernel
theorem dd_177_19 : decode prog_13_method_23_code 19 = .ok (.iastore, 1) := by decide +kernel
theorem dd_177_20 : decode prog_13_method_23_code 20 = .ok (.aload_n 0, 1) := by decide +kernel
theorem dd_177_21 : decode prog_13_method_23_code 21 = .ok (.dup, 1) := by decide +kernel
theorem dd_177_22 : decode prog_13_method_23_code 22 = .ok (.getfield 172, 3) := by decide +kernel
theorem dd_177_25 : decode prog_13_method_23_code 25 = .ok (.iconst 1, 1) := by decide +kernel
theorem dd_177_26 : decode prog_13_method_23_code 26 = .ok (.iadd, 1) := by decide +kernel
theorem dd_177_27 : decode prog_13_method_23_code 27 = .ok (.putfield 172, 3) := by decide +kernel
theorem dd_177_30 : decode prog_13_method_23_code 30 = .ok (.aload_n 0, 1) := by decide +kernel
theorem dd_177_31 : decode prog_13_method_23_code 31 = .ok (.iload_n 1, 1) := by decide +kernel
theorem dd_177_32 : decode prog_13_method_23_code 32 = .ok (.iconst 5, 1) := by decide +kernel
theorem dd_177_33 : decode prog_13_method_23_code 33 = .ok (.if_icmp .ne 10, 3) := by decide +kernel
theorem dd_177_36 : decode prog_13_method_23_code 36 = .ok (.aload_n 0, 1) := by decide +kernel
theorem dd_177_37 : decode prog_13_method_23_code 37 = .ok (.getfield 175, 3) := by decide +kernel
theorem dd_177_40 : decode prog_13_method_23_code 40 = .ok (.goto 9, 3) := by decide +kernel
theorem dd_177_43 : decode prog_13_method_23_code 43 = .ok (.aload_n 0, 1) := by decide +kernel
theorem dd_177_44 : decode prog_13_method_23_code 44 = .ok (.getfield 175, 3) := by decide +kernel
theorem dd_177_47 : decode prog_13_method_23_code 47 = .ok (.iconst 1, 1) := by decide +kernel
theorem dd_177_48 : decode prog_13_method_23_code 48 = .ok (.iadd, 1) := by decide +kernel
theorem dd_177_49 : decode prog_13_method_23_code 49 = .ok (.putfield 175, 3) := by decide +kernel
theorem dd_177_52 : decode prog_13_method_23_code 52 = .ok (.return_, 1) := by decide +kernel
set_option maxRecDepth 100000 in
theorem okI_177 : mj_okI gG "PairMachineModel" prog_13_method_23_code 3 (mj_off oM_177) (Option.none : Option Jvm.ClassFile.FieldType) false true 0 cM_177 :=
  ⟨Or.inl ⟨0, rfl, dd_177_0, rfl⟩,
   ⟨51, "PairMachineModel", fT10, 45, dd_177_1, rfl, okc_10, by decide, tw_789⟩,
   Or.inl ⟨0, rfl, dd_177_4, rfl⟩,
   ⟨172, "PairMachineModel", fT10, 45, dd_177_5, rfl, okc_10, by decide, tw_875⟩,
   Or.inl ⟨1, rfl, dd_177_8, rfl⟩,
   ⟨dd_177_9, rfl⟩,
   Or.inl ⟨0, rfl, dd_177_10, rfl⟩,
   ⟨54, "PairMachineModel", fT10, 45, dd_177_11, rfl, okc_10, by decide, tw_790⟩,
   Or.inl ⟨0, rfl, dd_177_14, rfl⟩,
   ⟨172, "PairMachineModel", fT10, 45, dd_177_15, rfl, okc_10, by decide, tw_875⟩,
   Or.inl ⟨2, rfl, dd_177_18, rfl⟩,
   ⟨dd_177_19, rfl⟩,
   Or.inl ⟨0, rfl, dd_177_20, rfl⟩,
   ⟨dd_177_21, rfl⟩,
   ⟨172, "PairMachineModel", fT10, 45, dd_177_22, rfl, okc_10, by decide, tw_875⟩,
   Or.inl (Or.inl ⟨dd_177_25, rfl⟩),
   ⟨dd_177_26, rfl⟩,
   ⟨172, "PairMachineModel", fT10, 45, dd_177_27, rfl, okc_10, by decide, tw_875, rfl, Or.inl rfl⟩,
   Or.inl ⟨0, rfl, dd_177_30, rfl⟩,
   Or.inl ⟨1, rfl, dd_177_31, rfl⟩,
   Or.inl (Or.inl ⟨dd_177_32, rfl⟩),
   ⟨10, dd_177_33, rfl, rfl⟩,
   Or.inl ⟨0, rfl, dd_177_36, rfl⟩,
   ⟨175, "PairMachineModel", fT10, 45, dd_177_37, rfl, okc_10, by decide, tw_876⟩,
   ⟨9, dd_177_40, rfl⟩,
   Or.inl ⟨0, rfl, dd_177_43, rfl⟩,
   ⟨175, "PairMachineModel", fT10, 45, dd_177_44, rfl, okc_10, by decide, tw_876⟩,
   Or.inl (Or.inl ⟨dd_177_47, rfl⟩),
   ⟨dd_177_48, rfl⟩,
   ⟨175, "PairMachineModel", fT10, 45, dd_177_49, rfl, okc_10, by decide, tw_876, rfl, Or.inl rfl⟩,
   ⟨dd_177_52, rfl⟩, trivial⟩
theorem okM_177 : mj_okE gG 177 (cM_177, 3, oM_177, hM_177) := ⟨rfl, rfl, by decide +kernel, trivial, okI_177⟩
theorem dd_178_0 : decode prog_13_method_24_code 0 = .ok (.aload_n 0, 1) := by decide +kernel
theorem dd_178_1 : decode prog_13_method_24_code 1 = .ok (.getfield 57, 3) := by decide +kernel
theorem dd_178_4 : decode prog_13_method_24_code 4 = .ok (.aload_n 0, 1) := by decide +kernel
theorem dd_178_5 : decode prog_13_method_24_code 5 = .ok (.getfield 178, 3) := by decide +kernel
theorem dd_178_8 : decode prog_13_method_24_code 8 = .ok (.iload_n 1, 1) := by decide +kernel
theorem dd_178_9 : decode prog_13_method_24_code 9 = .ok (.iastore, 1) := by decide +kernel
theorem dd_178_10 : decode prog_13_method_24_code 10 = .ok (.aload_n 0, 1) := by decide +kernel
theorem dd_178_11 : decode prog_13_method_24_code 11 = .ok (.getfield 60, 3) := by decide +kernel
theorem dd_178_14 : decode prog_13_method_24_code 14 = .ok (.aload_n 0, 1) := by decide +kernel
theorem dd_178_15 : decode prog_13_method_24_code 15 = .ok (.getfield 178, 3) := by decide +kernel
theorem dd_178_18 : decode prog_13_method_24_code 18 = .ok (.iload_n 2, 1) := by decide +kernel
theorem dd_178_19 : decode prog_13_method_24_code 19 = .ok (.iastore, 1) := by decide +kernel
theorem dd_178_20 : decode prog_13_method_24_code 20 = .ok (.aload_n 0, 1) := by decide +kernel
theorem dd_178_21 : decode prog_13_method_24_code 21 = .ok (.dup, 1) := by decide +kernel
theorem dd_178_22 : decode prog_13_method_24_code 22 = .ok (.getfield 178, 3) := by decide +kernel
theorem dd_178_25 : decode prog_13_method_24_code 25 = .ok (.iconst 1, 1) := by decide +kernel
theorem dd_178_26 : decode prog_13_method_24_code 26 = .ok (.iadd, 1) := by decide +kernel
theorem dd_178_27 : decode prog_13_method_24_code 27 = .ok (.putfield 178, 3) := by decide +kernel
theorem dd_178_30 : decode prog_13_method_24_code 30 = .ok (.return_, 1) := by decide +kernel
set_option maxRecDepth 100000 in
theorem okI_178 : mj_okI gG "PairMachineModel" prog_13_method_24_code 3 (mj_off oM_178) (Option.none : Option Jvm.ClassFile.FieldType) false true 0 cM_178 :=
  ⟨Or.inl ⟨0, rfl, dd_178_0, rfl⟩,
   ⟨57, "PairMachineModel", fT10, 45, dd_178_1, rfl, okc_10, by decide, tw_791⟩,
   Or.inl ⟨0, rfl, dd_178_4, rfl⟩,
   ⟨178, "PairMachineModel", fT10, 45, dd_178_5, rfl, okc_10, by decide, tw_877⟩,
   Or.inl ⟨1, rfl, dd_178_8, rfl⟩,
   ⟨dd_178_9, rfl⟩,
   Or.inl ⟨0, rfl, dd_178_10, rfl⟩,
   ⟨60, "PairMachineModel", fT10, 45, dd_178_11, rfl, okc_10, by decide, tw_792⟩,
   Or.inl ⟨0, rfl, dd_178_14, rfl⟩,
   ⟨178, "PairMachineModel", fT10, 45, dd_178_15, rfl, okc_10, by decide, tw_877⟩,
   Or.inl ⟨2, rfl, dd_178_18, rfl⟩,
   ⟨dd_178_19, rfl⟩,
   Or.inl ⟨0, rfl, dd_178_20, rfl⟩,
   ⟨dd_178_21, rfl⟩,
   ⟨178, "PairMachineModel", fT10, 45, dd_178_22, rfl, okc_10, by decide, tw_877⟩,
   Or.inl (Or.inl ⟨dd_178_25, rfl⟩),
   ⟨dd_178_26, rfl⟩,
   ⟨178, "PairMachineModel", fT10, 45, dd_178_27, rfl, okc_10, by decide, tw_877, rfl, Or.inl rfl⟩,
   ⟨dd_178_30, rfl⟩, trivial⟩
theorem okM_178 : mj_okE gG 178 (cM_178, 3, oM_178, hM_178) := ⟨rfl, rfl, by decide +kernel, trivial, okI_178⟩
theorem dd_179_0 : decode prog_13_method_25_code 0 = .ok (.aload_n 0, 1) := by decide +kernel
theorem dd_179_1 : decode prog_13_method_25_code 1 = .ok (.getfield 21, 3) := by decide +kernel
theorem dd_179_4 : decode prog_13_method_25_code 4 = .ok (.iload_n 1, 1) := by decide +kernel
theorem dd_179_5 : decode prog_13_method_25_code 5 = .ok (.iaload, 1) := by decide +kernel
theorem dd_179_6 : decode prog_13_method_25_code 6 = .ok (.iconst 1, 1) := by decide +kernel
theorem dd_179_7 : decode prog_13_method_25_code 7 = .ok (.iadd, 1) := by decide +kernel
theorem dd_179_8 : decode prog_13_method_25_code 8 = .ok (.istore_n 2, 1) := by decide +kernel
theorem dd_179_9 : decode prog_13_method_25_code 9 = .ok (.iload_n 2, 1) := by decide +kernel
theorem dd_179_10 : decode prog_13_method_25_code 10 = .ok (.aload_n 0, 1) := by decide +kernel
theorem dd_179_11 : decode prog_13_method_25_code 11 = .ok (.getfield 24, 3) := by decide +kernel
theorem dd_179_14 : decode prog_13_method_25_code 14 = .ok (.iload_n 1, 1) := by decide +kernel
theorem dd_179_15 : decode prog_13_method_25_code 15 = .ok (.iaload, 1) := by decide +kernel
theorem dd_179_16 : decode prog_13_method_25_code 16 = .ok (.if_icmp .ge 121, 3) := by decide +kernel
theorem dd_179_19 : decode prog_13_method_25_code 19 = .ok (.aload_n 0, 1) := by decide +kernel
theorem dd_179_20 : decode prog_13_method_25_code 20 = .ok (.getfield 7, 3) := by decide +kernel
theorem dd_179_23 : decode prog_13_method_25_code 23 = .ok (.iload_n 2, 1) := by decide +kernel
theorem dd_179_24 : decode prog_13_method_25_code 24 = .ok (.caload, 1) := by decide +kernel
theorem dd_179_25 : decode prog_13_method_25_code 25 = .ok (.istore_n 3, 1) := by decide +kernel
theorem dd_179_26 : decode prog_13_method_25_code 26 = .ok (.iload_n 3, 1) := by decide +kernel
theorem dd_179_27 : decode prog_13_method_25_code 27 = .ok (.bipush 40, 2) := by decide +kernel
theorem dd_179_29 : decode prog_13_method_25_code 29 = .ok (.if_icmp .ne 15, 3) := by decide +kernel
theorem dd_179_32 : decode prog_13_method_25_code 32 = .ok (.aload_n 0, 1) := by decide +kernel
theorem dd_179_33 : decode prog_13_method_25_code 33 = .ok (.iconst 4, 1) := by decide +kernel
theorem dd_179_34 : decode prog_13_method_25_code 34 = .ok (.iconst 0, 1) := by decide +kernel
theorem dd_179_35 : decode prog_13_method_25_code 35 = .ok (.invokevirtual 181, 3) := by decide +kernel
theorem dd_179_38 : decode prog_13_method_25_code 38 = .ok (.iinc 2 1, 3) := by decide +kernel
theorem dd_179_41 : decode prog_13_method_25_code 41 = .ok (.goto 93, 3) := by decide +kernel
theorem dd_179_44 : decode prog_13_method_25_code 44 = .ok (.iload_n 3, 1) := by decide +kernel
theorem dd_179_45 : decode prog_13_method_25_code 45 = .ok (.bipush 41, 2) := by decide +kernel
theorem dd_179_47 : decode prog_13_method_25_code 47 = .ok (.if_icmp .ne 15, 3) := by decide +kernel
theorem dd_179_50 : decode prog_13_method_25_code 50 = .ok (.aload_n 0, 1) := by decide +kernel
theorem dd_179_51 : decode prog_13_method_25_code 51 = .ok (.iconst 5, 1) := by decide +kernel
theorem dd_179_52 : decode prog_13_method_25_code 52 = .ok (.iconst 0, 1) := by decide +kernel
theorem dd_179_53 : decode prog_13_method_25_code 53 = .ok (.invokevirtual 181, 3) := by decide +kernel
theorem dd_179_56 : decode prog_13_method_25_code 56 = .ok (.iinc 2 1, 3) := by decide +kernel
theorem dd_179_59 : decode prog_13_method_25_code 59 = .ok (.goto 75, 3) := by decide +kernel
theorem dd_179_62 : decode prog_13_method_25_code 62 = .ok (.iload_n 3, 1) := by decide +kernel
theorem dd_179_63 : decode prog_13_method_25_code 63 = .ok (.invokestatic 129, 3) := by decide +kernel
theorem dd_179_66 : decode prog_13_method_25_code 66 = .ok (.ifCond .eq 15, 3) := by decide +kernel
theorem dd_179_69 : decode prog_13_method_25_code 69 = .ok (.aload_n 0, 1) := by decide +kernel
theorem dd_179_70 : decode prog_13_method_25_code 70 = .ok (.iconst 2, 1) := by decide +kernel
theorem dd_179_71 : decode prog_13_method_25_code 71 = .ok (.iload_n 3, 1) := by decide +kernel
theorem dd_179_72 : decode prog_13_method_25_code 72 = .ok (.invokevirtual 181, 3) := by decide +kernel
theorem dd_179_75 : decode prog_13_method_25_code 75 = .ok (.iinc 2 1, 3) := by decide +kernel
theorem dd_179_78 : decode prog_13_method_25_code 78 = .ok (.goto 56, 3) := by decide +kernel
theorem dd_179_81 : decode prog_13_method_25_code 81 = .ok (.iload_n 3, 1) := by decide +kernel
theorem dd_179_82 : decode prog_13_method_25_code 82 = .ok (.bipush 32, 2) := by decide +kernel
theorem dd_179_84 : decode prog_13_method_25_code 84 = .ok (.if_icmp .ne 9, 3) := by decide +kernel
theorem dd_179_87 : decode prog_13_method_25_code 87 = .ok (.iinc 2 1, 3) := by decide +kernel
theorem dd_179_90 : decode prog_13_method_25_code 90 = .ok (.goto 44, 3) := by decide +kernel
theorem dd_179_93 : decode prog_13_method_25_code 93 = .ok (.aload_n 0, 1) := by decide +kernel
theorem dd_179_94 : decode prog_13_method_25_code 94 = .ok (.iconst 1, 1) := by decide +kernel
theorem dd_179_95 : decode prog_13_method_25_code 95 = .ok (.aload_n 0, 1) := by decide +kernel
theorem dd_179_96 : decode prog_13_method_25_code 96 = .ok (.iload_n 2, 1) := by decide +kernel
theorem dd_179_97 : decode prog_13_method_25_code 97 = .ok (.invokevirtual 145, 3) := by decide +kernel
theorem dd_179_100 : decode prog_13_method_25_code 100 = .ok (.invokevirtual 181, 3) := by decide +kernel
theorem dd_179_103 : decode prog_13_method_25_code 103 = .ok (.iinc 2 1, 3) := by decide +kernel
theorem dd_179_106 : decode prog_13_method_25_code 106 = .ok (.iload_n 2, 1) := by decide +kernel
theorem dd_179_107 : decode prog_13_method_25_code 107 = .ok (.aload_n 0, 1) := by decide +kernel
theorem dd_179_108 : decode prog_13_method_25_code 108 = .ok (.getfield 24, 3) := by decide +kernel
theorem dd_179_111 : decode prog_13_method_25_code 111 = .ok (.iload_n 1, 1) := by decide +kernel
theorem dd_179_112 : decode prog_13_method_25_code 112 = .ok (.iaload, 1) := by decide +kernel
theorem dd_179_113 : decode prog_13_method_25_code 113 = .ok (.if_icmp .ge 21, 3) := by decide +kernel
theorem dd_179_116 : decode prog_13_method_25_code 116 = .ok (.aload_n 0, 1) := by decide +kernel
theorem dd_179_117 : decode prog_13_method_25_code 117 = .ok (.getfield 7, 3) := by decide +kernel
theorem dd_179_120 : decode prog_13_method_25_code 120 = .ok (.iload_n 2, 1) := by decide +kernel
theorem dd_179_121 : decode prog_13_method_25_code 121 = .ok (.caload, 1) := by decide +kernel
theorem dd_179_122 : decode prog_13_method_25_code 122 = .ok (.invokestatic 122, 3) := by decide +kernel
theorem dd_179_125 : decode prog_13_method_25_code 125 = .ok (.ifCond .eq 9, 3) := by decide +kernel
theorem dd_179_128 : decode prog_13_method_25_code 128 = .ok (.iinc 2 1, 3) := by decide +kernel
theorem dd_179_131 : decode prog_13_method_25_code 131 = .ok (.goto (-25), 3) := by decide +kernel
theorem dd_179_134 : decode prog_13_method_25_code 134 = .ok (.goto (-125), 3) := by decide +kernel
theorem dd_179_137 : decode prog_13_method_25_code 137 = .ok (.return_, 1) := by decide +kernel
set_option maxRecDepth 100000 in
theorem okI_179 : mj_okI gG "PairMachineModel" prog_13_method_25_code 4 (mj_off oM_179) (Option.none : Option Jvm.ClassFile.FieldType) false true 0 cM_179 :=
  ⟨Or.inl ⟨0, rfl, dd_179_0, rfl⟩,
   ⟨21, "PairMachineModel", fT10, 45, dd_179_1, rfl, okc_10, by decide, tw_779⟩,
   Or.inl ⟨1, rfl, dd_179_4, rfl⟩,
   ⟨dd_179_5, rfl⟩,
   Or.inl (Or.inl ⟨dd_179_6, rfl⟩),
   ⟨dd_179_7, rfl⟩,
   ⟨by decide, Or.inl ⟨2, rfl, dd_179_8, rfl⟩⟩,
   Or.inl ⟨2, rfl, dd_179_9, rfl⟩,
   Or.inl ⟨0, rfl, dd_179_10, rfl⟩,
   ⟨24, "PairMachineModel", fT10, 45, dd_179_11, rfl, okc_10, by decide, tw_780⟩,
   Or.inl ⟨1, rfl, dd_179_14, rfl⟩,
   ⟨dd_179_15, rfl⟩,
   ⟨121, dd_179_16, rfl, rfl⟩,
   Or.inl ⟨0, rfl, dd_179_19, rfl⟩,
   ⟨7, "PairMachineModel", fT10, 45, dd_179_20, rfl, okc_10, by decide, tw_776⟩,
   Or.inl ⟨2, rfl, dd_179_23, rfl⟩,
   ⟨dd_179_24, rfl⟩,
   ⟨by decide, Or.inl ⟨3, rfl, dd_179_25, rfl⟩⟩,
   Or.inl ⟨3, rfl, dd_179_26, rfl⟩,
   Or.inl (Or.inr (Or.inl ⟨dd_179_27, rfl, by decide⟩)),
   ⟨15, dd_179_29, rfl, rfl⟩,
   Or.inl ⟨0, rfl, dd_179_32, rfl⟩,
   Or.inl (Or.inl ⟨dd_179_33, rfl⟩),
   Or.inl (Or.inl ⟨dd_179_34, rfl⟩),
   ⟨rfl, tw_878, by decide, tw_12, by decide +kernel, 181, tw_879, dd_179_35, tw_880, ⟨"PairMachineModel", fT10, 45, rfl, tw_881⟩, by decide +kernel⟩,
   ⟨by decide, dd_179_38, rfl⟩,
   ⟨93, dd_179_41, rfl⟩,
   Or.inl ⟨3, rfl, dd_179_44, rfl⟩,
   Or.inl (Or.inr (Or.inl ⟨dd_179_45, rfl, by decide⟩)),
   ⟨15, dd_179_47, rfl, rfl⟩,
   Or.inl ⟨0, rfl, dd_179_50, rfl⟩,
   Or.inl (Or.inl ⟨dd_179_51, rfl⟩),
   Or.inl (Or.inl ⟨dd_179_52, rfl⟩),
   ⟨rfl, tw_878, by decide, tw_12, by decide +kernel, 181, tw_879, dd_179_53, tw_880, ⟨"PairMachineModel", fT10, 45, rfl, tw_881⟩, by decide +kernel⟩,
   ⟨by decide, dd_179_56, rfl⟩,
   ⟨75, dd_179_59, rfl⟩,
   Or.inl ⟨3, rfl, dd_179_62, rfl⟩,
   ⟨rfl, tw_825, by decide, tw_12, by decide +kernel, 129, tw_826, dd_179_63, tw_827, by decide +kernel⟩,
   ⟨15, dd_179_66, rfl, rfl⟩,
   Or.inl ⟨0, rfl, dd_179_69, rfl⟩,
   Or.inl (Or.inl ⟨dd_179_70, rfl⟩),
   Or.inl ⟨3, rfl, dd_179_71, rfl⟩,
   ⟨rfl, tw_878, by decide, tw_12, by decide +kernel, 181, tw_879, dd_179_72, tw_880, ⟨"PairMachineModel", fT10, 45, rfl, tw_881⟩, by decide +kernel⟩,
   ⟨by decide, dd_179_75, rfl⟩,
   ⟨56, dd_179_78, rfl⟩,
   Or.inl ⟨3, rfl, dd_179_81, rfl⟩,
   Or.inl (Or.inr (Or.inl ⟨dd_179_82, rfl, by decide⟩)),
   ⟨9, dd_179_84, rfl, rfl⟩,
   ⟨by decide, dd_179_87, rfl⟩,
   ⟨44, dd_179_90, rfl⟩,
   Or.inl ⟨0, rfl, dd_179_93, rfl⟩,
   Or.inl (Or.inl ⟨dd_179_94, rfl⟩),
   Or.inl ⟨0, rfl, dd_179_95, rfl⟩,
   Or.inl ⟨2, rfl, dd_179_96, rfl⟩,
   ⟨rfl, tw_844, by decide, tw_12, by decide +kernel, 145, tw_845, dd_179_97, tw_846, ⟨"PairMachineModel", fT10, 45, rfl, tw_847⟩, by decide +kernel⟩,
   ⟨rfl, tw_878, by decide, tw_12, by decide +kernel, 181, tw_879, dd_179_100, tw_880, ⟨"PairMachineModel", fT10, 45, rfl, tw_881⟩, by decide +kernel⟩,
   ⟨by decide, dd_179_103, rfl⟩,
   Or.inl ⟨2, rfl, dd_179_106, rfl⟩,
   Or.inl ⟨0, rfl, dd_179_107, rfl⟩,
   ⟨24, "PairMachineModel", fT10, 45, dd_179_108, rfl, okc_10, by decide, tw_780⟩,
   Or.inl ⟨1, rfl, dd_179_111, rfl⟩,
   ⟨dd_179_112, rfl⟩,
   ⟨21, dd_179_113, rfl, rfl⟩,
   Or.inl ⟨0, rfl, dd_179_116, rfl⟩,
   ⟨7, "PairMachineModel", fT10, 45, dd_179_117, rfl, okc_10, by decide, tw_776⟩,
   Or.inl ⟨2, rfl, dd_179_120, rfl⟩,
   ⟨dd_179_121, rfl⟩,
   ⟨rfl, tw_818, by decide, tw_12, by decide +kernel, 122, tw_819, dd_179_122, tw_820, by decide +kernel⟩,
   ⟨9, dd_179_125, rfl, rfl⟩,
   ⟨by decide, dd_179_128, rfl⟩,
   ⟨(-25), dd_179_131, rfl⟩,
   ⟨(-125), dd_179_134, rfl⟩,
   ⟨dd_179_137, rfl⟩, trivial⟩
theorem okM_179 : mj_okE gG 179 (cM_179, 4, oM_179, hM_179) := ⟨rfl, rfl, by decide +kernel, trivial, okI_179⟩
