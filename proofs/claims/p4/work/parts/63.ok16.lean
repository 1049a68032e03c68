section
theorem dd_205_0 : decode prog_13_method_52_code 0 = .ok (.aload_n 0, 1) := by decide +kernel
theorem dd_205_1 : decode prog_13_method_52_code 1 = .ok (.getfield 88, 3) := by decide +kernel
theorem dd_205_4 : decode prog_13_method_52_code 4 = .ok (.iconst 1, 1) := by decide +kernel
theorem dd_205_5 : decode prog_13_method_52_code 5 = .ok (.iaload, 1) := by decide +kernel
theorem dd_205_6 : decode prog_13_method_52_code 6 = .ok (.istore_n 3, 1) := by decide +kernel
theorem dd_205_7 : decode prog_13_method_52_code 7 = .ok (.iconst 0, 1) := by decide +kernel
theorem dd_205_8 : decode prog_13_method_52_code 8 = .ok (.istore 4, 2) := by decide +kernel
theorem dd_205_10 : decode prog_13_method_52_code 10 = .ok (.iload 4, 2) := by decide +kernel
theorem dd_205_12 : decode prog_13_method_52_code 12 = .ok (.iload_n 1, 1) := by decide +kernel
theorem dd_205_13 : decode prog_13_method_52_code 13 = .ok (.bipush 16, 2) := by decide +kernel
theorem dd_205_15 : decode prog_13_method_52_code 15 = .ok (.idiv, 1) := by decide +kernel
theorem dd_205_16 : decode prog_13_method_52_code 16 = .ok (.if_icmp .ge 19, 3) := by decide +kernel
theorem dd_205_19 : decode prog_13_method_52_code 19 = .ok (.iload_n 3, 1) := by decide +kernel
theorem dd_205_20 : decode prog_13_method_52_code 20 = .ok (.ifCond .lt 15, 3) := by decide +kernel
theorem dd_205_23 : decode prog_13_method_52_code 23 = .ok (.aload_n 0, 1) := by decide +kernel
theorem dd_205_24 : decode prog_13_method_52_code 24 = .ok (.iload_n 3, 1) := by decide +kernel
theorem dd_205_25 : decode prog_13_method_52_code 25 = .ok (.invokevirtual 255, 3) := by decide +kernel
theorem dd_205_28 : decode prog_13_method_52_code 28 = .ok (.istore_n 3, 1) := by decide +kernel
theorem dd_205_29 : decode prog_13_method_52_code 29 = .ok (.iinc 4 1, 3) := by decide +kernel
theorem dd_205_32 : decode prog_13_method_52_code 32 = .ok (.goto (-22), 3) := by decide +kernel
theorem dd_205_35 : decode prog_13_method_52_code 35 = .ok (.iload_n 3, 1) := by decide +kernel
theorem dd_205_36 : decode prog_13_method_52_code 36 = .ok (.ifCond .ge 7, 3) := by decide +kernel
theorem dd_205_39 : decode prog_13_method_52_code 39 = .ok (.iconst (-1), 1) := by decide +kernel
theorem dd_205_40 : decode prog_13_method_52_code 40 = .ok (.goto 8, 3) := by decide +kernel
theorem dd_205_43 : decode prog_13_method_52_code 43 = .ok (.aload_n 0, 1) := by decide +kernel
theorem dd_205_44 : decode prog_13_method_52_code 44 = .ok (.iload_n 3, 1) := by decide +kernel
theorem dd_205_45 : decode prog_13_method_52_code 45 = .ok (.invokevirtual 279, 3) := by decide +kernel
theorem dd_205_48 : decode prog_13_method_52_code 48 = .ok (.istore 4, 2) := by decide +kernel
theorem dd_205_50 : decode prog_13_method_52_code 50 = .ok (.iconst 0, 1) := by decide +kernel
theorem dd_205_51 : decode prog_13_method_52_code 51 = .ok (.istore 5, 2) := by decide +kernel
theorem dd_205_53 : decode prog_13_method_52_code 53 = .ok (.iload 5, 2) := by decide +kernel
theorem dd_205_55 : decode prog_13_method_52_code 55 = .ok (.iload_n 1, 1) := by decide +kernel
theorem dd_205_56 : decode prog_13_method_52_code 56 = .ok (.bipush 16, 2) := by decide +kernel
theorem dd_205_58 : decode prog_13_method_52_code 58 = .ok (.irem, 1) := by decide +kernel
theorem dd_205_59 : decode prog_13_method_52_code 59 = .ok (.if_icmp .ge 22, 3) := by decide +kernel
theorem dd_205_62 : decode prog_13_method_52_code 62 = .ok (.iload 4, 2) := by decide +kernel
theorem dd_205_64 : decode prog_13_method_52_code 64 = .ok (.ifCond .lt 17, 3) := by decide +kernel
theorem dd_205_67 : decode prog_13_method_52_code 67 = .ok (.aload_n 0, 1) := by decide +kernel
theorem dd_205_68 : decode prog_13_method_52_code 68 = .ok (.iload 4, 2) := by decide +kernel
theorem dd_205_70 : decode prog_13_method_52_code 70 = .ok (.invokevirtual 255, 3) := by decide +kernel
theorem dd_205_73 : decode prog_13_method_52_code 73 = .ok (.istore 4, 2) := by decide +kernel
theorem dd_205_75 : decode prog_13_method_52_code 75 = .ok (.iinc 5 1, 3) := by decide +kernel
theorem dd_205_78 : decode prog_13_method_52_code 78 = .ok (.goto (-25), 3) := by decide +kernel
theorem dd_205_81 : decode prog_13_method_52_code 81 = .ok (.iload 4, 2) := by decide +kernel
theorem dd_205_83 : decode prog_13_method_52_code 83 = .ok (.ifCond .ge 9, 3) := by decide +kernel
theorem dd_205_86 : decode prog_13_method_52_code 86 = .ok (.aload_n 0, 1) := by decide +kernel
theorem dd_205_87 : decode prog_13_method_52_code 87 = .ok (.iconst 3, 1) := by decide +kernel
theorem dd_205_88 : decode prog_13_method_52_code 88 = .ok (.invokevirtual 270, 3) := by decide +kernel
theorem dd_205_91 : decode prog_13_method_52_code 91 = .ok (.return_, 1) := by decide +kernel
theorem dd_205_92 : decode prog_13_method_52_code 92 = .ok (.aload_n 0, 1) := by decide +kernel
theorem dd_205_93 : decode prog_13_method_52_code 93 = .ok (.aload_n 0, 1) := by decide +kernel
theorem dd_205_94 : decode prog_13_method_52_code 94 = .ok (.getfield 70, 3) := by decide +kernel
theorem dd_205_97 : decode prog_13_method_52_code 97 = .ok (.iload 4, 2) := by decide +kernel
theorem dd_205_99 : decode prog_13_method_52_code 99 = .ok (.iaload, 1) := by decide +kernel
theorem dd_205_100 : decode prog_13_method_52_code 100 = .ok (.aload_n 0, 1) := by decide +kernel
theorem dd_205_101 : decode prog_13_method_52_code 101 = .ok (.getfield 73, 3) := by decide +kernel
theorem dd_205_104 : decode prog_13_method_52_code 104 = .ok (.iload 4, 2) := by decide +kernel
theorem dd_205_106 : decode prog_13_method_52_code 106 = .ok (.iaload, 1) := by decide +kernel
theorem dd_205_107 : decode prog_13_method_52_code 107 = .ok (.invokevirtual 273, 3) := by decide +kernel
theorem dd_205_110 : decode prog_13_method_52_code 110 = .ok (.aload_n 0, 1) := by decide +kernel
theorem dd_205_111 : decode prog_13_method_52_code 111 = .ok (.getfield 88, 3) := by decide +kernel
theorem dd_205_114 : decode prog_13_method_52_code 114 = .ok (.iconst 2, 1) := by decide +kernel
theorem dd_205_115 : decode prog_13_method_52_code 115 = .ok (.iload_n 2, 1) := by decide +kernel
theorem dd_205_116 : decode prog_13_method_52_code 116 = .ok (.iastore, 1) := by decide +kernel
theorem dd_205_117 : decode prog_13_method_52_code 117 = .ok (.return_, 1) := by decide +kernel
set_option maxRecDepth 100000 in
theorem okI_205 : mj_okI gG "PairMachineModel" prog_13_method_52_code 6 (mj_off oM_205) (Option.none : Option Jvm.ClassFile.FieldType) false true 0 cM_205 :=
  ⟨Or.inl ⟨0, rfl, dd_205_0, rfl⟩,
   ⟨88, "PairMachineModel", fT10, 45, dd_205_1, rfl, okc_10, by decide, tw_826⟩,
   Or.inl (Or.inl ⟨dd_205_4, rfl⟩),
   ⟨dd_205_5, rfl⟩,
   ⟨by decide, Or.inl ⟨3, rfl, dd_205_6, rfl⟩⟩,
   Or.inl (Or.inl ⟨dd_205_7, rfl⟩),
   ⟨by decide, Or.inr ⟨dd_205_8, rfl⟩⟩,
   Or.inr ⟨dd_205_10, rfl⟩,
   Or.inl ⟨1, rfl, dd_205_12, rfl⟩,
   Or.inl (Or.inr (Or.inl ⟨dd_205_13, rfl, by decide⟩)),
   ⟨dd_205_15, rfl⟩,
   ⟨19, dd_205_16, rfl, rfl⟩,
   Or.inl ⟨3, rfl, dd_205_19, rfl⟩,
   ⟨15, dd_205_20, rfl, rfl⟩,
   Or.inl ⟨0, rfl, dd_205_23, rfl⟩,
   Or.inl ⟨3, rfl, dd_205_24, rfl⟩,
   ⟨rfl, tw_976, by decide, tw_12, by decide +kernel, 255, tw_977, dd_205_25, tw_978, ⟨"PairMachineModel", fT10, 45, rfl, tw_979⟩, by decide +kernel⟩,
   ⟨by decide, Or.inl ⟨3, rfl, dd_205_28, rfl⟩⟩,
   ⟨by decide, dd_205_29, rfl⟩,
   ⟨(-22), dd_205_32, rfl⟩,
   Or.inl ⟨3, rfl, dd_205_35, rfl⟩,
   ⟨7, dd_205_36, rfl, rfl⟩,
   Or.inl (Or.inl ⟨dd_205_39, rfl⟩),
   ⟨8, dd_205_40, rfl⟩,
   Or.inl ⟨0, rfl, dd_205_43, rfl⟩,
   Or.inl ⟨3, rfl, dd_205_44, rfl⟩,
   ⟨rfl, tw_1001, by decide, tw_12, by decide +kernel, 279, tw_1002, dd_205_45, tw_1003, ⟨"PairMachineModel", fT10, 45, rfl, tw_1004⟩, by decide +kernel⟩,
   ⟨by decide, Or.inr ⟨dd_205_48, rfl⟩⟩,
   Or.inl (Or.inl ⟨dd_205_50, rfl⟩),
   ⟨by decide, Or.inr ⟨dd_205_51, rfl⟩⟩,
   Or.inr ⟨dd_205_53, rfl⟩,
   Or.inl ⟨1, rfl, dd_205_55, rfl⟩,
   Or.inl (Or.inr (Or.inl ⟨dd_205_56, rfl, by decide⟩)),
   ⟨dd_205_58, rfl⟩,
   ⟨22, dd_205_59, rfl, rfl⟩,
   Or.inr ⟨dd_205_62, rfl⟩,
   ⟨17, dd_205_64, rfl, rfl⟩,
   Or.inl ⟨0, rfl, dd_205_67, rfl⟩,
   Or.inr ⟨dd_205_68, rfl⟩,
   ⟨rfl, tw_976, by decide, tw_12, by decide +kernel, 255, tw_977, dd_205_70, tw_978, ⟨"PairMachineModel", fT10, 45, rfl, tw_979⟩, by decide +kernel⟩,
   ⟨by decide, Or.inr ⟨dd_205_73, rfl⟩⟩,
   ⟨by decide, dd_205_75, rfl⟩,
   ⟨(-25), dd_205_78, rfl⟩,
   Or.inr ⟨dd_205_81, rfl⟩,
   ⟨9, dd_205_83, rfl, rfl⟩,
   Or.inl ⟨0, rfl, dd_205_86, rfl⟩,
   Or.inl (Or.inl ⟨dd_205_87, rfl⟩),
   ⟨rfl, tw_989, by decide, tw_12, by decide +kernel, 270, tw_990, dd_205_88, tw_991, ⟨"PairMachineModel", fT10, 45, rfl, tw_992⟩, by decide +kernel⟩,
   ⟨dd_205_91, rfl⟩,
   Or.inl ⟨0, rfl, dd_205_92, rfl⟩,
   Or.inl ⟨0, rfl, dd_205_93, rfl⟩,
   ⟨70, "PairMachineModel", fT10, 45, dd_205_94, rfl, okc_10, by decide, tw_820⟩,
   Or.inr ⟨dd_205_97, rfl⟩,
   ⟨dd_205_99, rfl⟩,
   Or.inl ⟨0, rfl, dd_205_100, rfl⟩,
   ⟨73, "PairMachineModel", fT10, 45, dd_205_101, rfl, okc_10, by decide, tw_821⟩,
   Or.inr ⟨dd_205_104, rfl⟩,
   ⟨dd_205_106, rfl⟩,
   ⟨rfl, tw_993, by decide, tw_12, by decide +kernel, 273, tw_994, dd_205_107, tw_995, ⟨"PairMachineModel", fT10, 45, rfl, tw_996⟩, by decide +kernel⟩,
   Or.inl ⟨0, rfl, dd_205_110, rfl⟩,
   ⟨88, "PairMachineModel", fT10, 45, dd_205_111, rfl, okc_10, by decide, tw_826⟩,
   Or.inl (Or.inl ⟨dd_205_114, rfl⟩),
   Or.inl ⟨2, rfl, dd_205_115, rfl⟩,
   ⟨dd_205_116, rfl⟩,
   ⟨dd_205_117, rfl⟩, trivial⟩
theorem okM_205 : mj_okE gG 205 (cM_205, 6, oM_205, hM_205) := ⟨rfl, rfl, by decide +kernel, trivial, okI_205⟩
theorem dd_206_0 : decode prog_13_method_53_code 0 = .ok (.aload_n 0, 1) := by decide +kernel
theorem dd_206_1 : decode prog_13_method_53_code 1 = .ok (.iconst 0, 1) := by decide +kernel
theorem dd_206_2 : decode prog_13_method_53_code 2 = .ok (.invokevirtual 301, 3) := by decide +kernel
theorem dd_206_5 : decode prog_13_method_53_code 5 = .ok (.aload_n 0, 1) := by decide +kernel
theorem dd_206_6 : decode prog_13_method_53_code 6 = .ok (.invokevirtual 304, 3) := by decide +kernel
theorem dd_206_9 : decode prog_13_method_53_code 9 = .ok (.ifCond .ne 9, 3) := by decide +kernel
theorem dd_206_12 : decode prog_13_method_53_code 12 = .ok (.aload_n 0, 1) := by decide +kernel
theorem dd_206_13 : decode prog_13_method_53_code 13 = .ok (.iconst 3, 1) := by decide +kernel
theorem dd_206_14 : decode prog_13_method_53_code 14 = .ok (.invokevirtual 270, 3) := by decide +kernel
theorem dd_206_17 : decode prog_13_method_53_code 17 = .ok (.return_, 1) := by decide +kernel
theorem dd_206_18 : decode prog_13_method_53_code 18 = .ok (.aload_n 0, 1) := by decide +kernel
theorem dd_206_19 : decode prog_13_method_53_code 19 = .ok (.getfield 261, 3) := by decide +kernel
theorem dd_206_22 : decode prog_13_method_53_code 22 = .ok (.istore_n 3, 1) := by decide +kernel
theorem dd_206_23 : decode prog_13_method_53_code 23 = .ok (.aload_n 0, 1) := by decide +kernel
theorem dd_206_24 : decode prog_13_method_53_code 24 = .ok (.iconst 1, 1) := by decide +kernel
theorem dd_206_25 : decode prog_13_method_53_code 25 = .ok (.invokevirtual 301, 3) := by decide +kernel
theorem dd_206_28 : decode prog_13_method_53_code 28 = .ok (.aload_n 0, 1) := by decide +kernel
theorem dd_206_29 : decode prog_13_method_53_code 29 = .ok (.getfield 258, 3) := by decide +kernel
theorem dd_206_32 : decode prog_13_method_53_code 32 = .ok (.istore 4, 2) := by decide +kernel
theorem dd_206_34 : decode prog_13_method_53_code 34 = .ok (.aload_n 0, 1) := by decide +kernel
theorem dd_206_35 : decode prog_13_method_53_code 35 = .ok (.getfield 261, 3) := by decide +kernel
theorem dd_206_38 : decode prog_13_method_53_code 38 = .ok (.istore 5, 2) := by decide +kernel
theorem dd_206_40 : decode prog_13_method_53_code 40 = .ok (.aload_n 0, 1) := by decide +kernel
theorem dd_206_41 : decode prog_13_method_53_code 41 = .ok (.invokevirtual 307, 3) := by decide +kernel
theorem dd_206_44 : decode prog_13_method_53_code 44 = .ok (.aload_n 0, 1) := by decide +kernel
theorem dd_206_45 : decode prog_13_method_53_code 45 = .ok (.invokevirtual 307, 3) := by decide +kernel
theorem dd_206_48 : decode prog_13_method_53_code 48 = .ok (.iload_n 1, 1) := by decide +kernel
theorem dd_206_49 : decode prog_13_method_53_code 49 = .ok (.ifCond .eq 16, 3) := by decide +kernel
theorem dd_206_52 : decode prog_13_method_53_code 52 = .ok (.aload_n 0, 1) := by decide +kernel
theorem dd_206_53 : decode prog_13_method_53_code 53 = .ok (.aload_n 0, 1) := by decide +kernel
theorem dd_206_54 : decode prog_13_method_53_code 54 = .ok (.getfield 88, 3) := by decide +kernel
theorem dd_206_57 : decode prog_13_method_53_code 57 = .ok (.iconst 1, 1) := by decide +kernel
theorem dd_206_58 : decode prog_13_method_53_code 58 = .ok (.iaload, 1) := by decide +kernel
theorem dd_206_59 : decode prog_13_method_53_code 59 = .ok (.invokevirtual 255, 3) := by decide +kernel
theorem dd_206_62 : decode prog_13_method_53_code 62 = .ok (.goto 9, 3) := by decide +kernel
theorem dd_206_65 : decode prog_13_method_53_code 65 = .ok (.aload_n 0, 1) := by decide +kernel
theorem dd_206_66 : decode prog_13_method_53_code 66 = .ok (.getfield 88, 3) := by decide +kernel
theorem dd_206_69 : decode prog_13_method_53_code 69 = .ok (.iconst 1, 1) := by decide +kernel
theorem dd_206_70 : decode prog_13_method_53_code 70 = .ok (.iaload, 1) := by decide +kernel
theorem dd_206_71 : decode prog_13_method_53_code 71 = .ok (.istore 6, 2) := by decide +kernel
theorem dd_206_73 : decode prog_13_method_53_code 73 = .ok (.aload_n 0, 1) := by decide +kernel
theorem dd_206_74 : decode prog_13_method_53_code 74 = .ok (.getfield 88, 3) := by decide +kernel
theorem dd_206_77 : decode prog_13_method_53_code 77 = .ok (.iconst 3, 1) := by decide +kernel
theorem dd_206_78 : decode prog_13_method_53_code 78 = .ok (.aload_n 0, 1) := by decide +kernel
theorem dd_206_79 : decode prog_13_method_53_code 79 = .ok (.aload_n 0, 1) := by decide +kernel
theorem dd_206_80 : decode prog_13_method_53_code 80 = .ok (.getfield 88, 3) := by decide +kernel
theorem dd_206_83 : decode prog_13_method_53_code 83 = .ok (.iconst 0, 1) := by decide +kernel
theorem dd_206_84 : decode prog_13_method_53_code 84 = .ok (.iaload, 1) := by decide +kernel
theorem dd_206_85 : decode prog_13_method_53_code 85 = .ok (.aload_n 0, 1) := by decide +kernel
theorem dd_206_86 : decode prog_13_method_53_code 86 = .ok (.iload 6, 2) := by decide +kernel
theorem dd_206_88 : decode prog_13_method_53_code 88 = .ok (.aload_n 0, 1) := by decide +kernel
theorem dd_206_89 : decode prog_13_method_53_code 89 = .ok (.iload_n 2, 1) := by decide +kernel
theorem dd_206_90 : decode prog_13_method_53_code 90 = .ok (.aload_n 0, 1) := by decide +kernel
theorem dd_206_91 : decode prog_13_method_53_code 91 = .ok (.getfield 88, 3) := by decide +kernel
theorem dd_206_94 : decode prog_13_method_53_code 94 = .ok (.iconst 3, 1) := by decide +kernel
theorem dd_206_95 : decode prog_13_method_53_code 95 = .ok (.iaload, 1) := by decide +kernel
theorem dd_206_96 : decode prog_13_method_53_code 96 = .ok (.invokevirtual 214, 3) := by decide +kernel
theorem dd_206_99 : decode prog_13_method_53_code 99 = .ok (.invokevirtual 214, 3) := by decide +kernel
theorem dd_206_102 : decode prog_13_method_53_code 102 = .ok (.invokevirtual 214, 3) := by decide +kernel
theorem dd_206_105 : decode prog_13_method_53_code 105 = .ok (.iastore, 1) := by decide +kernel
theorem dd_206_106 : decode prog_13_method_53_code 106 = .ok (.aload_n 0, 1) := by decide +kernel
theorem dd_206_107 : decode prog_13_method_53_code 107 = .ok (.getfield 88, 3) := by decide +kernel
theorem dd_206_110 : decode prog_13_method_53_code 110 = .ok (.iconst 0, 1) := by decide +kernel
theorem dd_206_111 : decode prog_13_method_53_code 111 = .ok (.iconst (-1), 1) := by decide +kernel
theorem dd_206_112 : decode prog_13_method_53_code 112 = .ok (.iastore, 1) := by decide +kernel
theorem dd_206_113 : decode prog_13_method_53_code 113 = .ok (.iload_n 1, 1) := by decide +kernel
theorem dd_206_114 : decode prog_13_method_53_code 114 = .ok (.ifCond .eq 43, 3) := by decide +kernel
theorem dd_206_117 : decode prog_13_method_53_code 117 = .ok (.aload_n 0, 1) := by decide +kernel
theorem dd_206_118 : decode prog_13_method_53_code 118 = .ok (.getfield 88, 3) := by decide +kernel
theorem dd_206_121 : decode prog_13_method_53_code 121 = .ok (.iconst 1, 1) := by decide +kernel
theorem dd_206_122 : decode prog_13_method_53_code 122 = .ok (.aload_n 0, 1) := by decide +kernel
theorem dd_206_123 : decode prog_13_method_53_code 123 = .ok (.iload_n 3, 1) := by decide +kernel
theorem dd_206_124 : decode prog_13_method_53_code 124 = .ok (.invokevirtual 255, 3) := by decide +kernel
theorem dd_206_127 : decode prog_13_method_53_code 127 = .ok (.iastore, 1) := by decide +kernel
theorem dd_206_128 : decode prog_13_method_53_code 128 = .ok (.aload_n 0, 1) := by decide +kernel
theorem dd_206_129 : decode prog_13_method_53_code 129 = .ok (.getfield 70, 3) := by decide +kernel
theorem dd_206_132 : decode prog_13_method_53_code 132 = .ok (.aload_n 0, 1) := by decide +kernel
theorem dd_206_133 : decode prog_13_method_53_code 133 = .ok (.getfield 88, 3) := by decide +kernel
theorem dd_206_136 : decode prog_13_method_53_code 136 = .ok (.iconst 1, 1) := by decide +kernel
theorem dd_206_137 : decode prog_13_method_53_code 137 = .ok (.iaload, 1) := by decide +kernel
theorem dd_206_138 : decode prog_13_method_53_code 138 = .ok (.iload 4, 2) := by decide +kernel
theorem dd_206_140 : decode prog_13_method_53_code 140 = .ok (.iastore, 1) := by decide +kernel
theorem dd_206_141 : decode prog_13_method_53_code 141 = .ok (.aload_n 0, 1) := by decide +kernel
theorem dd_206_142 : decode prog_13_method_53_code 142 = .ok (.getfield 73, 3) := by decide +kernel
theorem dd_206_145 : decode prog_13_method_53_code 145 = .ok (.aload_n 0, 1) := by decide +kernel
theorem dd_206_146 : decode prog_13_method_53_code 146 = .ok (.getfield 88, 3) := by decide +kernel
theorem dd_206_149 : decode prog_13_method_53_code 149 = .ok (.iconst 1, 1) := by decide +kernel
theorem dd_206_150 : decode prog_13_method_53_code 150 = .ok (.iaload, 1) := by decide +kernel
theorem dd_206_151 : decode prog_13_method_53_code 151 = .ok (.iload 5, 2) := by decide +kernel
theorem dd_206_153 : decode prog_13_method_53_code 153 = .ok (.iastore, 1) := by decide +kernel
theorem dd_206_154 : decode prog_13_method_53_code 154 = .ok (.goto 22, 3) := by decide +kernel
theorem dd_206_157 : decode prog_13_method_53_code 157 = .ok (.aload_n 0, 1) := by decide +kernel
theorem dd_206_158 : decode prog_13_method_53_code 158 = .ok (.getfield 88, 3) := by decide +kernel
theorem dd_206_161 : decode prog_13_method_53_code 161 = .ok (.iconst 1, 1) := by decide +kernel
theorem dd_206_162 : decode prog_13_method_53_code 162 = .ok (.aload_n 0, 1) := by decide +kernel
theorem dd_206_163 : decode prog_13_method_53_code 163 = .ok (.iload 4, 2) := by decide +kernel
theorem dd_206_165 : decode prog_13_method_53_code 165 = .ok (.iload 5, 2) := by decide +kernel
theorem dd_206_167 : decode prog_13_method_53_code 167 = .ok (.aload_n 0, 1) := by decide +kernel
theorem dd_206_168 : decode prog_13_method_53_code 168 = .ok (.iload_n 3, 1) := by decide +kernel
theorem dd_206_169 : decode prog_13_method_53_code 169 = .ok (.invokevirtual 255, 3) := by decide +kernel
theorem dd_206_172 : decode prog_13_method_53_code 172 = .ok (.invokevirtual 207, 3) := by decide +kernel
theorem dd_206_175 : decode prog_13_method_53_code 175 = .ok (.iastore, 1) := by decide +kernel
theorem dd_206_176 : decode prog_13_method_53_code 176 = .ok (.aload_n 0, 1) := by decide +kernel
theorem dd_206_177 : decode prog_13_method_53_code 177 = .ok (.getfield 88, 3) := by decide +kernel
theorem dd_206_180 : decode prog_13_method_53_code 180 = .ok (.iconst 2, 1) := by decide +kernel
theorem dd_206_181 : decode prog_13_method_53_code 181 = .ok (.aload_n 0, 1) := by decide +kernel
theorem dd_206_182 : decode prog_13_method_53_code 182 = .ok (.iload_n 3, 1) := by decide +kernel
theorem dd_206_183 : decode prog_13_method_53_code 183 = .ok (.invokevirtual 279, 3) := by decide +kernel
theorem dd_206_186 : decode prog_13_method_53_code 186 = .ok (.iastore, 1) := by decide +kernel
theorem dd_206_187 : decode prog_13_method_53_code 187 = .ok (.return_, 1) := by decide +kernel
set_option maxRecDepth 100000 in
theorem okI_206 : mj_okI gG "PairMachineModel" prog_13_method_53_code 7 (mj_off oM_206) (Option.none : Option Jvm.ClassFile.FieldType) false true 0 cM_206 :=
  ⟨Or.inl ⟨0, rfl, dd_206_0, rfl⟩,
   Or.inl (Or.inl ⟨dd_206_1, rfl⟩),
   ⟨rfl, tw_1029, by decide, tw_12, by decide +kernel, 301, tw_1030, dd_206_2, tw_1031, ⟨"PairMachineModel", fT10, 45, rfl, tw_1032⟩, by decide +kernel⟩,
   Or.inl ⟨0, rfl, dd_206_5, rfl⟩,
   ⟨rfl, tw_1033, by decide, tw_12, by decide +kernel, 304, tw_1034, dd_206_6, tw_1035, ⟨"PairMachineModel", fT10, 45, rfl, tw_1036⟩, by decide +kernel⟩,
   ⟨9, dd_206_9, rfl, rfl⟩,
   Or.inl ⟨0, rfl, dd_206_12, rfl⟩,
   Or.inl (Or.inl ⟨dd_206_13, rfl⟩),
   ⟨rfl, tw_989, by decide, tw_12, by decide +kernel, 270, tw_990, dd_206_14, tw_991, ⟨"PairMachineModel", fT10, 45, rfl, tw_992⟩, by decide +kernel⟩,
   ⟨dd_206_17, rfl⟩,
   Or.inl ⟨0, rfl, dd_206_18, rfl⟩,
   ⟨261, "PairMachineModel", fT10, 45, dd_206_19, rfl, okc_10, by decide, tw_981⟩,
   ⟨by decide, Or.inl ⟨3, rfl, dd_206_22, rfl⟩⟩,
   Or.inl ⟨0, rfl, dd_206_23, rfl⟩,
   Or.inl (Or.inl ⟨dd_206_24, rfl⟩),
   ⟨rfl, tw_1029, by decide, tw_12, by decide +kernel, 301, tw_1030, dd_206_25, tw_1031, ⟨"PairMachineModel", fT10, 45, rfl, tw_1032⟩, by decide +kernel⟩,
   Or.inl ⟨0, rfl, dd_206_28, rfl⟩,
   ⟨258, "PairMachineModel", fT10, 45, dd_206_29, rfl, okc_10, by decide, tw_980⟩,
   ⟨by decide, Or.inr ⟨dd_206_32, rfl⟩⟩,
   Or.inl ⟨0, rfl, dd_206_34, rfl⟩,
   ⟨261, "PairMachineModel", fT10, 45, dd_206_35, rfl, okc_10, by decide, tw_981⟩,
   ⟨by decide, Or.inr ⟨dd_206_38, rfl⟩⟩,
   Or.inl ⟨0, rfl, dd_206_40, rfl⟩,
   ⟨rfl, tw_1037, by decide, tw_12, by decide +kernel, 307, tw_1038, dd_206_41, tw_1039, ⟨"PairMachineModel", fT10, 45, rfl, tw_1040⟩, by decide +kernel⟩,
   Or.inl ⟨0, rfl, dd_206_44, rfl⟩,
   ⟨rfl, tw_1037, by decide, tw_12, by decide +kernel, 307, tw_1038, dd_206_45, tw_1039, ⟨"PairMachineModel", fT10, 45, rfl, tw_1040⟩, by decide +kernel⟩,
   Or.inl ⟨1, rfl, dd_206_48, rfl⟩,
   ⟨16, dd_206_49, rfl, rfl⟩,
   Or.inl ⟨0, rfl, dd_206_52, rfl⟩,
   Or.inl ⟨0, rfl, dd_206_53, rfl⟩,
   ⟨88, "PairMachineModel", fT10, 45, dd_206_54, rfl, okc_10, by decide, tw_826⟩,
   Or.inl (Or.inl ⟨dd_206_57, rfl⟩),
   ⟨dd_206_58, rfl⟩,
   ⟨rfl, tw_976, by decide, tw_12, by decide +kernel, 255, tw_977, dd_206_59, tw_978, ⟨"PairMachineModel", fT10, 45, rfl, tw_979⟩, by decide +kernel⟩,
   ⟨9, dd_206_62, rfl⟩,
   Or.inl ⟨0, rfl, dd_206_65, rfl⟩,
   ⟨88, "PairMachineModel", fT10, 45, dd_206_66, rfl, okc_10, by decide, tw_826⟩,
   Or.inl (Or.inl ⟨dd_206_69, rfl⟩),
   ⟨dd_206_70, rfl⟩,
   ⟨by decide, Or.inr ⟨dd_206_71, rfl⟩⟩,
   Or.inl ⟨0, rfl, dd_206_73, rfl⟩,
   ⟨88, "PairMachineModel", fT10, 45, dd_206_74, rfl, okc_10, by decide, tw_826⟩,
   Or.inl (Or.inl ⟨dd_206_77, rfl⟩),
   Or.inl ⟨0, rfl, dd_206_78, rfl⟩,
   Or.inl ⟨0, rfl, dd_206_79, rfl⟩,
   ⟨88, "PairMachineModel", fT10, 45, dd_206_80, rfl, okc_10, by decide, tw_826⟩,
   Or.inl (Or.inl ⟨dd_206_83, rfl⟩),
   ⟨dd_206_84, rfl⟩,
   Or.inl ⟨0, rfl, dd_206_85, rfl⟩,
   Or.inr ⟨dd_206_86, rfl⟩,
   Or.inl ⟨0, rfl, dd_206_88, rfl⟩,
   Or.inl ⟨2, rfl, dd_206_89, rfl⟩,
   Or.inl ⟨0, rfl, dd_206_90, rfl⟩,
   ⟨88, "PairMachineModel", fT10, 45, dd_206_91, rfl, okc_10, by decide, tw_826⟩,
   Or.inl (Or.inl ⟨dd_206_94, rfl⟩),
   ⟨dd_206_95, rfl⟩,
   ⟨rfl, tw_939, by decide, tw_12, by decide +kernel, 214, tw_940, dd_206_96, tw_941, ⟨"PairMachineModel", fT10, 45, rfl, tw_942⟩, by decide +kernel⟩,
   ⟨rfl, tw_939, by decide, tw_12, by decide +kernel, 214, tw_940, dd_206_99, tw_941, ⟨"PairMachineModel", fT10, 45, rfl, tw_942⟩, by decide +kernel⟩,
   ⟨rfl, tw_939, by decide, tw_12, by decide +kernel, 214, tw_940, dd_206_102, tw_941, ⟨"PairMachineModel", fT10, 45, rfl, tw_942⟩, by decide +kernel⟩,
   ⟨dd_206_105, rfl⟩,
   Or.inl ⟨0, rfl, dd_206_106, rfl⟩,
   ⟨88, "PairMachineModel", fT10, 45, dd_206_107, rfl, okc_10, by decide, tw_826⟩,
   Or.inl (Or.inl ⟨dd_206_110, rfl⟩),
   Or.inl (Or.inl ⟨dd_206_111, rfl⟩),
   ⟨dd_206_112, rfl⟩,
   Or.inl ⟨1, rfl, dd_206_113, rfl⟩,
   ⟨43, dd_206_114, rfl, rfl⟩,
   Or.inl ⟨0, rfl, dd_206_117, rfl⟩,
   ⟨88, "PairMachineModel", fT10, 45, dd_206_118, rfl, okc_10, by decide, tw_826⟩,
   Or.inl (Or.inl ⟨dd_206_121, rfl⟩),
   Or.inl ⟨0, rfl, dd_206_122, rfl⟩,
   Or.inl ⟨3, rfl, dd_206_123, rfl⟩,
   ⟨rfl, tw_976, by decide, tw_12, by decide +kernel, 255, tw_977, dd_206_124, tw_978, ⟨"PairMachineModel", fT10, 45, rfl, tw_979⟩, by decide +kernel⟩,
   ⟨dd_206_127, rfl⟩,
   Or.inl ⟨0, rfl, dd_206_128, rfl⟩,
   ⟨70, "PairMachineModel", fT10, 45, dd_206_129, rfl, okc_10, by decide, tw_820⟩,
   Or.inl ⟨0, rfl, dd_206_132, rfl⟩,
   ⟨88, "PairMachineModel", fT10, 45, dd_206_133, rfl, okc_10, by decide, tw_826⟩,
   Or.inl (Or.inl ⟨dd_206_136, rfl⟩),
   ⟨dd_206_137, rfl⟩,
   Or.inr ⟨dd_206_138, rfl⟩,
   ⟨dd_206_140, rfl⟩,
   Or.inl ⟨0, rfl, dd_206_141, rfl⟩,
   ⟨73, "PairMachineModel", fT10, 45, dd_206_142, rfl, okc_10, by decide, tw_821⟩,
   Or.inl ⟨0, rfl, dd_206_145, rfl⟩,
   ⟨88, "PairMachineModel", fT10, 45, dd_206_146, rfl, okc_10, by decide, tw_826⟩,
   Or.inl (Or.inl ⟨dd_206_149, rfl⟩),
   ⟨dd_206_150, rfl⟩,
   Or.inr ⟨dd_206_151, rfl⟩,
   ⟨dd_206_153, rfl⟩,
   ⟨22, dd_206_154, rfl⟩,
   Or.inl ⟨0, rfl, dd_206_157, rfl⟩,
   ⟨88, "PairMachineModel", fT10, 45, dd_206_158, rfl, okc_10, by decide, tw_826⟩,
   Or.inl (Or.inl ⟨dd_206_161, rfl⟩),
   Or.inl ⟨0, rfl, dd_206_162, rfl⟩,
   Or.inr ⟨dd_206_163, rfl⟩,
   Or.inr ⟨dd_206_165, rfl⟩,
   Or.inl ⟨0, rfl, dd_206_167, rfl⟩,
   Or.inl ⟨3, rfl, dd_206_168, rfl⟩,
   ⟨rfl, tw_976, by decide, tw_12, by decide +kernel, 255, tw_977, dd_206_169, tw_978, ⟨"PairMachineModel", fT10, 45, rfl, tw_979⟩, by decide +kernel⟩,
   ⟨rfl, tw_934, by decide, tw_12, by decide +kernel, 207, tw_935, dd_206_172, tw_936, ⟨"PairMachineModel", fT10, 45, rfl, tw_937⟩, by decide +kernel⟩,
   ⟨dd_206_175, rfl⟩,
   Or.inl ⟨0, rfl, dd_206_176, rfl⟩,
   ⟨88, "PairMachineModel", fT10, 45, dd_206_177, rfl, okc_10, by decide, tw_826⟩,
   Or.inl (Or.inl ⟨dd_206_180, rfl⟩),
   Or.inl ⟨0, rfl, dd_206_181, rfl⟩,
   Or.inl ⟨3, rfl, dd_206_182, rfl⟩,
   ⟨rfl, tw_1001, by decide, tw_12, by decide +kernel, 279, tw_1002, dd_206_183, tw_1003, ⟨"PairMachineModel", fT10, 45, rfl, tw_1004⟩, by decide +kernel⟩,
   ⟨dd_206_186, rfl⟩,
   ⟨dd_206_187, rfl⟩, trivial⟩
theorem okM_206 : mj_okE gG 206 (cM_206, 7, oM_206, hM_206) := ⟨rfl, rfl, by decide +kernel, trivial, okI_206⟩
theorem dd_207_0 : decode prog_13_method_54_code 0 = .ok (.aload_n 0, 1) := by decide +kernel
theorem dd_207_1 : decode prog_13_method_54_code 1 = .ok (.iconst 0, 1) := by decide +kernel
theorem dd_207_2 : decode prog_13_method_54_code 2 = .ok (.invokevirtual 301, 3) := by decide +kernel
theorem dd_207_5 : decode prog_13_method_54_code 5 = .ok (.aload_n 0, 1) := by decide +kernel
theorem dd_207_6 : decode prog_13_method_54_code 6 = .ok (.getfield 88, 3) := by decide +kernel
theorem dd_207_9 : decode prog_13_method_54_code 9 = .ok (.iconst 3, 1) := by decide +kernel
theorem dd_207_10 : decode prog_13_method_54_code 10 = .ok (.iaload, 1) := by decide +kernel
theorem dd_207_11 : decode prog_13_method_54_code 11 = .ok (.istore_n 1, 1) := by decide +kernel
theorem dd_207_12 : decode prog_13_method_54_code 12 = .ok (.aload_n 0, 1) := by decide +kernel
theorem dd_207_13 : decode prog_13_method_54_code 13 = .ok (.getfield 88, 3) := by decide +kernel
theorem dd_207_16 : decode prog_13_method_54_code 16 = .ok (.iconst 0, 1) := by decide +kernel
theorem dd_207_17 : decode prog_13_method_54_code 17 = .ok (.aload_n 0, 1) := by decide +kernel
theorem dd_207_18 : decode prog_13_method_54_code 18 = .ok (.iload_n 1, 1) := by decide +kernel
theorem dd_207_19 : decode prog_13_method_54_code 19 = .ok (.invokevirtual 279, 3) := by decide +kernel
theorem dd_207_22 : decode prog_13_method_54_code 22 = .ok (.iastore, 1) := by decide +kernel
theorem dd_207_23 : decode prog_13_method_54_code 23 = .ok (.aload_n 0, 1) := by decide +kernel
theorem dd_207_24 : decode prog_13_method_54_code 24 = .ok (.iload_n 1, 1) := by decide +kernel
theorem dd_207_25 : decode prog_13_method_54_code 25 = .ok (.invokevirtual 255, 3) := by decide +kernel
theorem dd_207_28 : decode prog_13_method_54_code 28 = .ok (.istore_n 1, 1) := by decide +kernel
theorem dd_207_29 : decode prog_13_method_54_code 29 = .ok (.aload_n 0, 1) := by decide +kernel
theorem dd_207_30 : decode prog_13_method_54_code 30 = .ok (.getfield 88, 3) := by decide +kernel
theorem dd_207_33 : decode prog_13_method_54_code 33 = .ok (.iconst 1, 1) := by decide +kernel
theorem dd_207_34 : decode prog_13_method_54_code 34 = .ok (.aload_n 0, 1) := by decide +kernel
theorem dd_207_35 : decode prog_13_method_54_code 35 = .ok (.iload_n 1, 1) := by decide +kernel
theorem dd_207_36 : decode prog_13_method_54_code 36 = .ok (.invokevirtual 279, 3) := by decide +kernel
theorem dd_207_39 : decode prog_13_method_54_code 39 = .ok (.iastore, 1) := by decide +kernel
theorem dd_207_40 : decode prog_13_method_54_code 40 = .ok (.aload_n 0, 1) := by decide +kernel
theorem dd_207_41 : decode prog_13_method_54_code 41 = .ok (.iload_n 1, 1) := by decide +kernel
theorem dd_207_42 : decode prog_13_method_54_code 42 = .ok (.invokevirtual 255, 3) := by decide +kernel
theorem dd_207_45 : decode prog_13_method_54_code 45 = .ok (.istore_n 1, 1) := by decide +kernel
theorem dd_207_46 : decode prog_13_method_54_code 46 = .ok (.aload_n 0, 1) := by decide +kernel
theorem dd_207_47 : decode prog_13_method_54_code 47 = .ok (.getfield 88, 3) := by decide +kernel
theorem dd_207_50 : decode prog_13_method_54_code 50 = .ok (.iconst 2, 1) := by decide +kernel
theorem dd_207_51 : decode prog_13_method_54_code 51 = .ok (.aload_n 0, 1) := by decide +kernel
theorem dd_207_52 : decode prog_13_method_54_code 52 = .ok (.iload_n 1, 1) := by decide +kernel
theorem dd_207_53 : decode prog_13_method_54_code 53 = .ok (.invokevirtual 279, 3) := by decide +kernel
theorem dd_207_56 : decode prog_13_method_54_code 56 = .ok (.iastore, 1) := by decide +kernel
theorem dd_207_57 : decode prog_13_method_54_code 57 = .ok (.aload_n 0, 1) := by decide +kernel
theorem dd_207_58 : decode prog_13_method_54_code 58 = .ok (.getfield 88, 3) := by decide +kernel
theorem dd_207_61 : decode prog_13_method_54_code 61 = .ok (.iconst 3, 1) := by decide +kernel
theorem dd_207_62 : decode prog_13_method_54_code 62 = .ok (.aload_n 0, 1) := by decide +kernel
theorem dd_207_63 : decode prog_13_method_54_code 63 = .ok (.iload_n 1, 1) := by decide +kernel
theorem dd_207_64 : decode prog_13_method_54_code 64 = .ok (.invokevirtual 255, 3) := by decide +kernel
theorem dd_207_67 : decode prog_13_method_54_code 67 = .ok (.iastore, 1) := by decide +kernel
theorem dd_207_68 : decode prog_13_method_54_code 68 = .ok (.aload_n 0, 1) := by decide +kernel
theorem dd_207_69 : decode prog_13_method_54_code 69 = .ok (.aload_n 0, 1) := by decide +kernel
theorem dd_207_70 : decode prog_13_method_54_code 70 = .ok (.getfield 258, 3) := by decide +kernel
theorem dd_207_73 : decode prog_13_method_54_code 73 = .ok (.aload_n 0, 1) := by decide +kernel
theorem dd_207_74 : decode prog_13_method_54_code 74 = .ok (.getfield 261, 3) := by decide +kernel
theorem dd_207_77 : decode prog_13_method_54_code 77 = .ok (.invokevirtual 273, 3) := by decide +kernel
theorem dd_207_80 : decode prog_13_method_54_code 80 = .ok (.return_, 1) := by decide +kernel
set_option maxRecDepth 100000 in
theorem okI_207 : mj_okI gG "PairMachineModel" prog_13_method_54_code 2 (mj_off oM_207) (Option.none : Option Jvm.ClassFile.FieldType) false true 0 cM_207 :=
  ⟨Or.inl ⟨0, rfl, dd_207_0, rfl⟩,
   Or.inl (Or.inl ⟨dd_207_1, rfl⟩),
   ⟨rfl, tw_1029, by decide, tw_12, by decide +kernel, 301, tw_1030, dd_207_2, tw_1031, ⟨"PairMachineModel", fT10, 45, rfl, tw_1032⟩, by decide +kernel⟩,
   Or.inl ⟨0, rfl, dd_207_5, rfl⟩,
   ⟨88, "PairMachineModel", fT10, 45, dd_207_6, rfl, okc_10, by decide, tw_826⟩,
   Or.inl (Or.inl ⟨dd_207_9, rfl⟩),
   ⟨dd_207_10, rfl⟩,
   ⟨by decide, Or.inl ⟨1, rfl, dd_207_11, rfl⟩⟩,
   Or.inl ⟨0, rfl, dd_207_12, rfl⟩,
   ⟨88, "PairMachineModel", fT10, 45, dd_207_13, rfl, okc_10, by decide, tw_826⟩,
   Or.inl (Or.inl ⟨dd_207_16, rfl⟩),
   Or.inl ⟨0, rfl, dd_207_17, rfl⟩,
   Or.inl ⟨1, rfl, dd_207_18, rfl⟩,
   ⟨rfl, tw_1001, by decide, tw_12, by decide +kernel, 279, tw_1002, dd_207_19, tw_1003, ⟨"PairMachineModel", fT10, 45, rfl, tw_1004⟩, by decide +kernel⟩,
   ⟨dd_207_22, rfl⟩,
   Or.inl ⟨0, rfl, dd_207_23, rfl⟩,
   Or.inl ⟨1, rfl, dd_207_24, rfl⟩,
   ⟨rfl, tw_976, by decide, tw_12, by decide +kernel, 255, tw_977, dd_207_25, tw_978, ⟨"PairMachineModel", fT10, 45, rfl, tw_979⟩, by decide +kernel⟩,
   ⟨by decide, Or.inl ⟨1, rfl, dd_207_28, rfl⟩⟩,
   Or.inl ⟨0, rfl, dd_207_29, rfl⟩,
   ⟨88, "PairMachineModel", fT10, 45, dd_207_30, rfl, okc_10, by decide, tw_826⟩,
   Or.inl (Or.inl ⟨dd_207_33, rfl⟩),
   Or.inl ⟨0, rfl, dd_207_34, rfl⟩,
   Or.inl ⟨1, rfl, dd_207_35, rfl⟩,
   ⟨rfl, tw_1001, by decide, tw_12, by decide +kernel, 279, tw_1002, dd_207_36, tw_1003, ⟨"PairMachineModel", fT10, 45, rfl, tw_1004⟩, by decide +kernel⟩,
   ⟨dd_207_39, rfl⟩,
   Or.inl ⟨0, rfl, dd_207_40, rfl⟩,
   Or.inl ⟨1, rfl, dd_207_41, rfl⟩,
   ⟨rfl, tw_976, by decide, tw_12, by decide +kernel, 255, tw_977, dd_207_42, tw_978, ⟨"PairMachineModel", fT10, 45, rfl, tw_979⟩, by decide +kernel⟩,
   ⟨by decide, Or.inl ⟨1, rfl, dd_207_45, rfl⟩⟩,
   Or.inl ⟨0, rfl, dd_207_46, rfl⟩,
   ⟨88, "PairMachineModel", fT10, 45, dd_207_47, rfl, okc_10, by decide, tw_826⟩,
   Or.inl (Or.inl ⟨dd_207_50, rfl⟩),
   Or.inl ⟨0, rfl, dd_207_51, rfl⟩,
   Or.inl ⟨1, rfl, dd_207_52, rfl⟩,
   ⟨rfl, tw_1001, by decide, tw_12, by decide +kernel, 279, tw_1002, dd_207_53, tw_1003, ⟨"PairMachineModel", fT10, 45, rfl, tw_1004⟩, by decide +kernel⟩,
   ⟨dd_207_56, rfl⟩,
   Or.inl ⟨0, rfl, dd_207_57, rfl⟩,
   ⟨88, "PairMachineModel", fT10, 45, dd_207_58, rfl, okc_10, by decide, tw_826⟩,
   Or.inl (Or.inl ⟨dd_207_61, rfl⟩),
   Or.inl ⟨0, rfl, dd_207_62, rfl⟩,
   Or.inl ⟨1, rfl, dd_207_63, rfl⟩,
   ⟨rfl, tw_976, by decide, tw_12, by decide +kernel, 255, tw_977, dd_207_64, tw_978, ⟨"PairMachineModel", fT10, 45, rfl, tw_979⟩, by decide +kernel⟩,
   ⟨dd_207_67, rfl⟩,
   Or.inl ⟨0, rfl, dd_207_68, rfl⟩,
   Or.inl ⟨0, rfl, dd_207_69, rfl⟩,
   ⟨258, "PairMachineModel", fT10, 45, dd_207_70, rfl, okc_10, by decide, tw_980⟩,
   Or.inl ⟨0, rfl, dd_207_73, rfl⟩,
   ⟨261, "PairMachineModel", fT10, 45, dd_207_74, rfl, okc_10, by decide, tw_981⟩,
   ⟨rfl, tw_993, by decide, tw_12, by decide +kernel, 273, tw_994, dd_207_77, tw_995, ⟨"PairMachineModel", fT10, 45, rfl, tw_996⟩, by decide +kernel⟩,
   ⟨dd_207_80, rfl⟩, trivial⟩
theorem okM_207 : mj_okE gG 207 (cM_207, 2, oM_207, hM_207) := ⟨rfl, rfl, by decide +kernel, trivial, okI_207⟩
theorem dd_208_0 : decode prog_13_method_55_code 0 = .ok (.aload_n 0, 1) := by decide +kernel
theorem dd_208_1 : decode prog_13_method_55_code 1 = .ok (.iconst 0, 1) := by decide +kernel
theorem dd_208_2 : decode prog_13_method_55_code 2 = .ok (.invokevirtual 301, 3) := by decide +kernel
theorem dd_208_5 : decode prog_13_method_55_code 5 = .ok (.aload_n 0, 1) := by decide +kernel
theorem dd_208_6 : decode prog_13_method_55_code 6 = .ok (.getfield 258, 3) := by decide +kernel
theorem dd_208_9 : decode prog_13_method_55_code 9 = .ok (.iconst 1, 1) := by decide +kernel
theorem dd_208_10 : decode prog_13_method_55_code 10 = .ok (.if_icmp .eq 9, 3) := by decide +kernel
theorem dd_208_13 : decode prog_13_method_55_code 13 = .ok (.aload_n 0, 1) := by decide +kernel
theorem dd_208_14 : decode prog_13_method_55_code 14 = .ok (.iconst 3, 1) := by decide +kernel
theorem dd_208_15 : decode prog_13_method_55_code 15 = .ok (.invokevirtual 270, 3) := by decide +kernel
theorem dd_208_18 : decode prog_13_method_55_code 18 = .ok (.return_, 1) := by decide +kernel
theorem dd_208_19 : decode prog_13_method_55_code 19 = .ok (.aload_n 0, 1) := by decide +kernel
theorem dd_208_20 : decode prog_13_method_55_code 20 = .ok (.invokevirtual 307, 3) := by decide +kernel
theorem dd_208_23 : decode prog_13_method_55_code 23 = .ok (.aload_n 0, 1) := by decide +kernel
theorem dd_208_24 : decode prog_13_method_55_code 24 = .ok (.iload_n 1, 1) := by decide +kernel
theorem dd_208_25 : decode prog_13_method_55_code 25 = .ok (.invokevirtual 255, 3) := by decide +kernel
theorem dd_208_28 : decode prog_13_method_55_code 28 = .ok (.istore_n 2, 1) := by decide +kernel
theorem dd_208_29 : decode prog_13_method_55_code 29 = .ok (.aload_n 0, 1) := by decide +kernel
theorem dd_208_30 : decode prog_13_method_55_code 30 = .ok (.getfield 88, 3) := by decide +kernel
theorem dd_208_33 : decode prog_13_method_55_code 33 = .ok (.iconst 3, 1) := by decide +kernel
theorem dd_208_34 : decode prog_13_method_55_code 34 = .ok (.aload_n 0, 1) := by decide +kernel
theorem dd_208_35 : decode prog_13_method_55_code 35 = .ok (.aload_n 0, 1) := by decide +kernel
theorem dd_208_36 : decode prog_13_method_55_code 36 = .ok (.iload_n 2, 1) := by decide +kernel
theorem dd_208_37 : decode prog_13_method_55_code 37 = .ok (.invokevirtual 255, 3) := by decide +kernel
theorem dd_208_40 : decode prog_13_method_55_code 40 = .ok (.aload_n 0, 1) := by decide +kernel
theorem dd_208_41 : decode prog_13_method_55_code 41 = .ok (.getfield 88, 3) := by decide +kernel
theorem dd_208_44 : decode prog_13_method_55_code 44 = .ok (.iconst 3, 1) := by decide +kernel
theorem dd_208_45 : decode prog_13_method_55_code 45 = .ok (.iaload, 1) := by decide +kernel
theorem dd_208_46 : decode prog_13_method_55_code 46 = .ok (.invokevirtual 214, 3) := by decide +kernel
theorem dd_208_49 : decode prog_13_method_55_code 49 = .ok (.iastore, 1) := by decide +kernel
theorem dd_208_50 : decode prog_13_method_55_code 50 = .ok (.aload_n 0, 1) := by decide +kernel
theorem dd_208_51 : decode prog_13_method_55_code 51 = .ok (.getfield 88, 3) := by decide +kernel
theorem dd_208_54 : decode prog_13_method_55_code 54 = .ok (.iconst 2, 1) := by decide +kernel
theorem dd_208_55 : decode prog_13_method_55_code 55 = .ok (.aload_n 0, 1) := by decide +kernel
theorem dd_208_56 : decode prog_13_method_55_code 56 = .ok (.getfield 261, 3) := by decide +kernel
theorem dd_208_59 : decode prog_13_method_55_code 59 = .ok (.ifCond .eq 11, 3) := by decide +kernel
theorem dd_208_62 : decode prog_13_method_55_code 62 = .ok (.aload_n 0, 1) := by decide +kernel
theorem dd_208_63 : decode prog_13_method_55_code 63 = .ok (.iload_n 1, 1) := by decide +kernel
theorem dd_208_64 : decode prog_13_method_55_code 64 = .ok (.invokevirtual 279, 3) := by decide +kernel
theorem dd_208_67 : decode prog_13_method_55_code 67 = .ok (.goto 8, 3) := by decide +kernel
theorem dd_208_70 : decode prog_13_method_55_code 70 = .ok (.aload_n 0, 1) := by decide +kernel
theorem dd_208_71 : decode prog_13_method_55_code 71 = .ok (.iload_n 2, 1) := by decide +kernel
theorem dd_208_72 : decode prog_13_method_55_code 72 = .ok (.invokevirtual 279, 3) := by decide +kernel
theorem dd_208_75 : decode prog_13_method_55_code 75 = .ok (.iastore, 1) := by decide +kernel
theorem dd_208_76 : decode prog_13_method_55_code 76 = .ok (.return_, 1) := by decide +kernel
set_option maxRecDepth 100000 in
theorem okI_208 : mj_okI gG "PairMachineModel" prog_13_method_55_code 3 (mj_off oM_208) (Option.none : Option Jvm.ClassFile.FieldType) false true 0 cM_208 :=
  ⟨Or.inl ⟨0, rfl, dd_208_0, rfl⟩,
   Or.inl (Or.inl ⟨dd_208_1, rfl⟩),
   ⟨rfl, tw_1029, by decide, tw_12, by decide +kernel, 301, tw_1030, dd_208_2, tw_1031, ⟨"PairMachineModel", fT10, 45, rfl, tw_1032⟩, by decide +kernel⟩,
   Or.inl ⟨0, rfl, dd_208_5, rfl⟩,
   ⟨258, "PairMachineModel", fT10, 45, dd_208_6, rfl, okc_10, by decide, tw_980⟩,
   Or.inl (Or.inl ⟨dd_208_9, rfl⟩),
   ⟨9, dd_208_10, rfl, rfl⟩,
   Or.inl ⟨0, rfl, dd_208_13, rfl⟩,
   Or.inl (Or.inl ⟨dd_208_14, rfl⟩),
   ⟨rfl, tw_989, by decide, tw_12, by decide +kernel, 270, tw_990, dd_208_15, tw_991, ⟨"PairMachineModel", fT10, 45, rfl, tw_992⟩, by decide +kernel⟩,
   ⟨dd_208_18, rfl⟩,
   Or.inl ⟨0, rfl, dd_208_19, rfl⟩,
   ⟨rfl, tw_1037, by decide, tw_12, by decide +kernel, 307, tw_1038, dd_208_20, tw_1039, ⟨"PairMachineModel", fT10, 45, rfl, tw_1040⟩, by decide +kernel⟩,
   Or.inl ⟨0, rfl, dd_208_23, rfl⟩,
   Or.inl ⟨1, rfl, dd_208_24, rfl⟩,
   ⟨rfl, tw_976, by decide, tw_12, by decide +kernel, 255, tw_977, dd_208_25, tw_978, ⟨"PairMachineModel", fT10, 45, rfl, tw_979⟩, by decide +kernel⟩,
   ⟨by decide, Or.inl ⟨2, rfl, dd_208_28, rfl⟩⟩,
   Or.inl ⟨0, rfl, dd_208_29, rfl⟩,
   ⟨88, "PairMachineModel", fT10, 45, dd_208_30, rfl, okc_10, by decide, tw_826⟩,
   Or.inl (Or.inl ⟨dd_208_33, rfl⟩),
   Or.inl ⟨0, rfl, dd_208_34, rfl⟩,
   Or.inl ⟨0, rfl, dd_208_35, rfl⟩,
   Or.inl ⟨2, rfl, dd_208_36, rfl⟩,
   ⟨rfl, tw_976, by decide, tw_12, by decide +kernel, 255, tw_977, dd_208_37, tw_978, ⟨"PairMachineModel", fT10, 45, rfl, tw_979⟩, by decide +kernel⟩,
   Or.inl ⟨0, rfl, dd_208_40, rfl⟩,
   ⟨88, "PairMachineModel", fT10, 45, dd_208_41, rfl, okc_10, by decide, tw_826⟩,
   Or.inl (Or.inl ⟨dd_208_44, rfl⟩),
   ⟨dd_208_45, rfl⟩,
   ⟨rfl, tw_939, by decide, tw_12, by decide +kernel, 214, tw_940, dd_208_46, tw_941, ⟨"PairMachineModel", fT10, 45, rfl, tw_942⟩, by decide +kernel⟩,
   ⟨dd_208_49, rfl⟩,
   Or.inl ⟨0, rfl, dd_208_50, rfl⟩,
   ⟨88, "PairMachineModel", fT10, 45, dd_208_51, rfl, okc_10, by decide, tw_826⟩,
   Or.inl (Or.inl ⟨dd_208_54, rfl⟩),
   Or.inl ⟨0, rfl, dd_208_55, rfl⟩,
   ⟨261, "PairMachineModel", fT10, 45, dd_208_56, rfl, okc_10, by decide, tw_981⟩,
   ⟨11, dd_208_59, rfl, rfl⟩,
   Or.inl ⟨0, rfl, dd_208_62, rfl⟩,
   Or.inl ⟨1, rfl, dd_208_63, rfl⟩,
   ⟨rfl, tw_1001, by decide, tw_12, by decide +kernel, 279, tw_1002, dd_208_64, tw_1003, ⟨"PairMachineModel", fT10, 45, rfl, tw_1004⟩, by decide +kernel⟩,
   ⟨8, dd_208_67, rfl⟩,
   Or.inl ⟨0, rfl, dd_208_70, rfl⟩,
   Or.inl ⟨2, rfl, dd_208_71, rfl⟩,
   ⟨rfl, tw_1001, by decide, tw_12, by decide +kernel, 279, tw_1002, dd_208_72, tw_1003, ⟨"PairMachineModel", fT10, 45, rfl, tw_1004⟩, by decide +kernel⟩,
   ⟨dd_208_75, rfl⟩,
   ⟨dd_208_76, rfl⟩, trivial⟩
theorem okM_208 : mj_okE gG 208 (cM_208, 3, oM_208, hM_208) := ⟨rfl, rfl, by decide +kernel, trivial, okI_208⟩
theorem dd_209_0 : decode prog_13_method_56_code 0 = .ok (.aload_n 0, 1) := by decide +kernel
theorem dd_209_1 : decode prog_13_method_56_code 1 = .ok (.iconst 0, 1) := by decide +kernel
theorem dd_209_2 : decode prog_13_method_56_code 2 = .ok (.invokevirtual 301, 3) := by decide +kernel
theorem dd_209_5 : decode prog_13_method_56_code 5 = .ok (.iload_n 1, 1) := by decide +kernel
theorem dd_209_6 : decode prog_13_method_56_code 6 = .ok (.bipush 12, 2) := by decide +kernel
theorem dd_209_8 : decode prog_13_method_56_code 8 = .ok (.if_icmp .ge 16, 3) := by decide +kernel
theorem dd_209_11 : decode prog_13_method_56_code 11 = .ok (.aload_n 0, 1) := by decide +kernel
theorem dd_209_12 : decode prog_13_method_56_code 12 = .ok (.invokevirtual 310, 3) := by decide +kernel
theorem dd_209_15 : decode prog_13_method_56_code 15 = .ok (.ifCond .ne 9, 3) := by decide +kernel
theorem dd_209_18 : decode prog_13_method_56_code 18 = .ok (.aload_n 0, 1) := by decide +kernel
theorem dd_209_19 : decode prog_13_method_56_code 19 = .ok (.iconst 3, 1) := by decide +kernel
theorem dd_209_20 : decode prog_13_method_56_code 20 = .ok (.invokevirtual 270, 3) := by decide +kernel
theorem dd_209_23 : decode prog_13_method_56_code 23 = .ok (.return_, 1) := by decide +kernel
theorem dd_209_24 : decode prog_13_method_56_code 24 = .ok (.aload_n 0, 1) := by decide +kernel
theorem dd_209_25 : decode prog_13_method_56_code 25 = .ok (.getfield 261, 3) := by decide +kernel
theorem dd_209_28 : decode prog_13_method_56_code 28 = .ok (.istore_n 3, 1) := by decide +kernel
theorem dd_209_29 : decode prog_13_method_56_code 29 = .ok (.aload_n 0, 1) := by decide +kernel
theorem dd_209_30 : decode prog_13_method_56_code 30 = .ok (.invokevirtual 310, 3) := by decide +kernel
theorem dd_209_33 : decode prog_13_method_56_code 33 = .ok (.istore 4, 2) := by decide +kernel
theorem dd_209_35 : decode prog_13_method_56_code 35 = .ok (.aload_n 0, 1) := by decide +kernel
theorem dd_209_36 : decode prog_13_method_56_code 36 = .ok (.invokevirtual 307, 3) := by decide +kernel
theorem dd_209_39 : decode prog_13_method_56_code 39 = .ok (.iload_n 1, 1) := by decide +kernel
theorem dd_209_40 : decode prog_13_method_56_code 40 = .ok (.bipush 10, 2) := by decide +kernel
theorem dd_209_42 : decode prog_13_method_56_code 42 = .ok (.if_icmp .ne 22, 3) := by decide +kernel
theorem dd_209_45 : decode prog_13_method_56_code 45 = .ok (.aload_n 0, 1) := by decide +kernel
theorem dd_209_46 : decode prog_13_method_56_code 46 = .ok (.aload_n 0, 1) := by decide +kernel
theorem dd_209_47 : decode prog_13_method_56_code 47 = .ok (.getfield 70, 3) := by decide +kernel
theorem dd_209_50 : decode prog_13_method_56_code 50 = .ok (.iload_n 3, 1) := by decide +kernel
theorem dd_209_51 : decode prog_13_method_56_code 51 = .ok (.iaload, 1) := by decide +kernel
theorem dd_209_52 : decode prog_13_method_56_code 52 = .ok (.aload_n 0, 1) := by decide +kernel
theorem dd_209_53 : decode prog_13_method_56_code 53 = .ok (.getfield 73, 3) := by decide +kernel
theorem dd_209_56 : decode prog_13_method_56_code 56 = .ok (.iload_n 3, 1) := by decide +kernel
theorem dd_209_57 : decode prog_13_method_56_code 57 = .ok (.iaload, 1) := by decide +kernel
theorem dd_209_58 : decode prog_13_method_56_code 58 = .ok (.invokevirtual 273, 3) := by decide +kernel
theorem dd_209_61 : decode prog_13_method_56_code 61 = .ok (.goto 43, 3) := by decide +kernel
theorem dd_209_64 : decode prog_13_method_56_code 64 = .ok (.iload_n 1, 1) := by decide +kernel
theorem dd_209_65 : decode prog_13_method_56_code 65 = .ok (.bipush 11, 2) := by decide +kernel
theorem dd_209_67 : decode prog_13_method_56_code 67 = .ok (.if_icmp .ne 22, 3) := by decide +kernel
theorem dd_209_70 : decode prog_13_method_56_code 70 = .ok (.aload_n 0, 1) := by decide +kernel
theorem dd_209_71 : decode prog_13_method_56_code 71 = .ok (.aload_n 0, 1) := by decide +kernel
theorem dd_209_72 : decode prog_13_method_56_code 72 = .ok (.getfield 76, 3) := by decide +kernel
theorem dd_209_75 : decode prog_13_method_56_code 75 = .ok (.iload_n 3, 1) := by decide +kernel
theorem dd_209_76 : decode prog_13_method_56_code 76 = .ok (.iaload, 1) := by decide +kernel
theorem dd_209_77 : decode prog_13_method_56_code 77 = .ok (.aload_n 0, 1) := by decide +kernel
theorem dd_209_78 : decode prog_13_method_56_code 78 = .ok (.getfield 79, 3) := by decide +kernel
theorem dd_209_81 : decode prog_13_method_56_code 81 = .ok (.iload_n 3, 1) := by decide +kernel
theorem dd_209_82 : decode prog_13_method_56_code 82 = .ok (.iaload, 1) := by decide +kernel
theorem dd_209_83 : decode prog_13_method_56_code 83 = .ok (.invokevirtual 273, 3) := by decide +kernel
theorem dd_209_86 : decode prog_13_method_56_code 86 = .ok (.goto 18, 3) := by decide +kernel
theorem dd_209_89 : decode prog_13_method_56_code 89 = .ok (.aload_n 0, 1) := by decide +kernel
theorem dd_209_90 : decode prog_13_method_56_code 90 = .ok (.iconst 1, 1) := by decide +kernel
theorem dd_209_91 : decode prog_13_method_56_code 91 = .ok (.iload 4, 2) := by decide +kernel
theorem dd_209_93 : decode prog_13_method_56_code 93 = .ok (.ifCond .eq 7, 3) := by decide +kernel
theorem dd_209_96 : decode prog_13_method_56_code 96 = .ok (.iconst 0, 1) := by decide +kernel
theorem dd_209_97 : decode prog_13_method_56_code 97 = .ok (.goto 4, 3) := by decide +kernel
theorem dd_209_100 : decode prog_13_method_56_code 100 = .ok (.iconst 1, 1) := by decide +kernel
theorem dd_209_101 : decode prog_13_method_56_code 101 = .ok (.invokevirtual 273, 3) := by decide +kernel
theorem dd_209_104 : decode prog_13_method_56_code 104 = .ok (.aload_n 0, 1) := by decide +kernel
theorem dd_209_105 : decode prog_13_method_56_code 105 = .ok (.getfield 88, 3) := by decide +kernel
theorem dd_209_108 : decode prog_13_method_56_code 108 = .ok (.iconst 2, 1) := by decide +kernel
theorem dd_209_109 : decode prog_13_method_56_code 109 = .ok (.iload_n 2, 1) := by decide +kernel
theorem dd_209_110 : decode prog_13_method_56_code 110 = .ok (.iastore, 1) := by decide +kernel
theorem dd_209_111 : decode prog_13_method_56_code 111 = .ok (.return_, 1) := by decide +kernel
set_option maxRecDepth 100000 in
theorem okI_209 : mj_okI gG "PairMachineModel" prog_13_method_56_code 5 (mj_off oM_209) (Option.none : Option Jvm.ClassFile.FieldType) false true 0 cM_209 :=
  ⟨Or.inl ⟨0, rfl, dd_209_0, rfl⟩,
   Or.inl (Or.inl ⟨dd_209_1, rfl⟩),
   ⟨rfl, tw_1029, by decide, tw_12, by decide +kernel, 301, tw_1030, dd_209_2, tw_1031, ⟨"PairMachineModel", fT10, 45, rfl, tw_1032⟩, by decide +kernel⟩,
   Or.inl ⟨1, rfl, dd_209_5, rfl⟩,
   Or.inl (Or.inr (Or.inl ⟨dd_209_6, rfl, by decide⟩)),
   ⟨16, dd_209_8, rfl, rfl⟩,
   Or.inl ⟨0, rfl, dd_209_11, rfl⟩,
   ⟨rfl, tw_1041, by decide, tw_12, by decide +kernel, 310, tw_1042, dd_209_12, tw_1043, ⟨"PairMachineModel", fT10, 45, rfl, tw_1044⟩, by decide +kernel⟩,
   ⟨9, dd_209_15, rfl, rfl⟩,
   Or.inl ⟨0, rfl, dd_209_18, rfl⟩,
   Or.inl (Or.inl ⟨dd_209_19, rfl⟩),
   ⟨rfl, tw_989, by decide, tw_12, by decide +kernel, 270, tw_990, dd_209_20, tw_991, ⟨"PairMachineModel", fT10, 45, rfl, tw_992⟩, by decide +kernel⟩,
   ⟨dd_209_23, rfl⟩,
   Or.inl ⟨0, rfl, dd_209_24, rfl⟩,
   ⟨261, "PairMachineModel", fT10, 45, dd_209_25, rfl, okc_10, by decide, tw_981⟩,
   ⟨by decide, Or.inl ⟨3, rfl, dd_209_28, rfl⟩⟩,
   Or.inl ⟨0, rfl, dd_209_29, rfl⟩,
   ⟨rfl, tw_1041, by decide, tw_12, by decide +kernel, 310, tw_1042, dd_209_30, tw_1043, ⟨"PairMachineModel", fT10, 45, rfl, tw_1044⟩, by decide +kernel⟩,
   ⟨by decide, Or.inr ⟨dd_209_33, rfl⟩⟩,
   Or.inl ⟨0, rfl, dd_209_35, rfl⟩,
   ⟨rfl, tw_1037, by decide, tw_12, by decide +kernel, 307, tw_1038, dd_209_36, tw_1039, ⟨"PairMachineModel", fT10, 45, rfl, tw_1040⟩, by decide +kernel⟩,
   Or.inl ⟨1, rfl, dd_209_39, rfl⟩,
   Or.inl (Or.inr (Or.inl ⟨dd_209_40, rfl, by decide⟩)),
   ⟨22, dd_209_42, rfl, rfl⟩,
   Or.inl ⟨0, rfl, dd_209_45, rfl⟩,
   Or.inl ⟨0, rfl, dd_209_46, rfl⟩,
   ⟨70, "PairMachineModel", fT10, 45, dd_209_47, rfl, okc_10, by decide, tw_820⟩,
   Or.inl ⟨3, rfl, dd_209_50, rfl⟩,
   ⟨dd_209_51, rfl⟩,
   Or.inl ⟨0, rfl, dd_209_52, rfl⟩,
   ⟨73, "PairMachineModel", fT10, 45, dd_209_53, rfl, okc_10, by decide, tw_821⟩,
   Or.inl ⟨3, rfl, dd_209_56, rfl⟩,
   ⟨dd_209_57, rfl⟩,
   ⟨rfl, tw_993, by decide, tw_12, by decide +kernel, 273, tw_994, dd_209_58, tw_995, ⟨"PairMachineModel", fT10, 45, rfl, tw_996⟩, by decide +kernel⟩,
   ⟨43, dd_209_61, rfl⟩,
   Or.inl ⟨1, rfl, dd_209_64, rfl⟩,
   Or.inl (Or.inr (Or.inl ⟨dd_209_65, rfl, by decide⟩)),
   ⟨22, dd_209_67, rfl, rfl⟩,
   Or.inl ⟨0, rfl, dd_209_70, rfl⟩,
   Or.inl ⟨0, rfl, dd_209_71, rfl⟩,
   ⟨76, "PairMachineModel", fT10, 45, dd_209_72, rfl, okc_10, by decide, tw_822⟩,
   Or.inl ⟨3, rfl, dd_209_75, rfl⟩,
   ⟨dd_209_76, rfl⟩,
   Or.inl ⟨0, rfl, dd_209_77, rfl⟩,
   ⟨79, "PairMachineModel", fT10, 45, dd_209_78, rfl, okc_10, by decide, tw_823⟩,
   Or.inl ⟨3, rfl, dd_209_81, rfl⟩,
   ⟨dd_209_82, rfl⟩,
   ⟨rfl, tw_993, by decide, tw_12, by decide +kernel, 273, tw_994, dd_209_83, tw_995, ⟨"PairMachineModel", fT10, 45, rfl, tw_996⟩, by decide +kernel⟩,
   ⟨18, dd_209_86, rfl⟩,
   Or.inl ⟨0, rfl, dd_209_89, rfl⟩,
   Or.inl (Or.inl ⟨dd_209_90, rfl⟩),
   Or.inr ⟨dd_209_91, rfl⟩,
   ⟨7, dd_209_93, rfl, rfl⟩,
   Or.inl (Or.inl ⟨dd_209_96, rfl⟩),
   ⟨4, dd_209_97, rfl⟩,
   Or.inl (Or.inl ⟨dd_209_100, rfl⟩),
   ⟨rfl, tw_993, by decide, tw_12, by decide +kernel, 273, tw_994, dd_209_101, tw_995, ⟨"PairMachineModel", fT10, 45, rfl, tw_996⟩, by decide +kernel⟩,
   Or.inl ⟨0, rfl, dd_209_104, rfl⟩,
   ⟨88, "PairMachineModel", fT10, 45, dd_209_105, rfl, okc_10, by decide, tw_826⟩,
   Or.inl (Or.inl ⟨dd_209_108, rfl⟩),
   Or.inl ⟨2, rfl, dd_209_109, rfl⟩,
   ⟨dd_209_110, rfl⟩,
   ⟨dd_209_111, rfl⟩, trivial⟩
theorem okM_209 : mj_okE gG 209 (cM_209, 5, oM_209, hM_209) := ⟨rfl, rfl, by decide +kernel, trivial, okI_209⟩
theorem dd_210_0 : decode prog_13_method_57_code 0 = .ok (.aload_n 0, 1) := by decide +kernel
theorem dd_210_1 : decode prog_13_method_57_code 1 = .ok (.iconst 0, 1) := by decide +kernel
theorem dd_210_2 : decode prog_13_method_57_code 2 = .ok (.invokevirtual 301, 3) := by decide +kernel
theorem dd_210_5 : decode prog_13_method_57_code 5 = .ok (.aload_n 0, 1) := by decide +kernel
theorem dd_210_6 : decode prog_13_method_57_code 6 = .ok (.getfield 258, 3) := by decide +kernel
theorem dd_210_9 : decode prog_13_method_57_code 9 = .ok (.istore_n 3, 1) := by decide +kernel
theorem dd_210_10 : decode prog_13_method_57_code 10 = .ok (.aload_n 0, 1) := by decide +kernel
theorem dd_210_11 : decode prog_13_method_57_code 11 = .ok (.getfield 261, 3) := by decide +kernel
theorem dd_210_14 : decode prog_13_method_57_code 14 = .ok (.istore 4, 2) := by decide +kernel
theorem dd_210_16 : decode prog_13_method_57_code 16 = .ok (.aload_n 0, 1) := by decide +kernel
theorem dd_210_17 : decode prog_13_method_57_code 17 = .ok (.iconst 1, 1) := by decide +kernel
theorem dd_210_18 : decode prog_13_method_57_code 18 = .ok (.invokevirtual 301, 3) := by decide +kernel
theorem dd_210_21 : decode prog_13_method_57_code 21 = .ok (.aload_n 0, 1) := by decide +kernel
theorem dd_210_22 : decode prog_13_method_57_code 22 = .ok (.getfield 258, 3) := by decide +kernel
theorem dd_210_25 : decode prog_13_method_57_code 25 = .ok (.istore 5, 2) := by decide +kernel
theorem dd_210_27 : decode prog_13_method_57_code 27 = .ok (.aload_n 0, 1) := by decide +kernel
theorem dd_210_28 : decode prog_13_method_57_code 28 = .ok (.getfield 261, 3) := by decide +kernel
theorem dd_210_31 : decode prog_13_method_57_code 31 = .ok (.istore 6, 2) := by decide +kernel
theorem dd_210_33 : decode prog_13_method_57_code 33 = .ok (.iload_n 1, 1) := by decide +kernel
theorem dd_210_34 : decode prog_13_method_57_code 34 = .ok (.bipush 14, 2) := by decide +kernel
theorem dd_210_36 : decode prog_13_method_57_code 36 = .ok (.if_icmp .le 20, 3) := by decide +kernel
theorem dd_210_39 : decode prog_13_method_57_code 39 = .ok (.iload 5, 2) := by decide +kernel
theorem dd_210_41 : decode prog_13_method_57_code 41 = .ok (.iconst 1, 1) := by decide +kernel
theorem dd_210_42 : decode prog_13_method_57_code 42 = .ok (.if_icmp .ne 8, 3) := by decide +kernel
theorem dd_210_45 : decode prog_13_method_57_code 45 = .ok (.iload_n 3, 1) := by decide +kernel
theorem dd_210_46 : decode prog_13_method_57_code 46 = .ok (.iconst 1, 1) := by decide +kernel
theorem dd_210_47 : decode prog_13_method_57_code 47 = .ok (.if_icmp .eq 9, 3) := by decide +kernel
theorem dd_210_50 : decode prog_13_method_57_code 50 = .ok (.aload_n 0, 1) := by decide +kernel
theorem dd_210_51 : decode prog_13_method_57_code 51 = .ok (.iconst 3, 1) := by decide +kernel
theorem dd_210_52 : decode prog_13_method_57_code 52 = .ok (.invokevirtual 270, 3) := by decide +kernel
theorem dd_210_55 : decode prog_13_method_57_code 55 = .ok (.return_, 1) := by decide +kernel
theorem dd_210_56 : decode prog_13_method_57_code 56 = .ok (.aload_n 0, 1) := by decide +kernel
theorem dd_210_57 : decode prog_13_method_57_code 57 = .ok (.invokevirtual 307, 3) := by decide +kernel
theorem dd_210_60 : decode prog_13_method_57_code 60 = .ok (.aload_n 0, 1) := by decide +kernel
theorem dd_210_61 : decode prog_13_method_57_code 61 = .ok (.invokevirtual 307, 3) := by decide +kernel
theorem dd_210_64 : decode prog_13_method_57_code 64 = .ok (.iload_n 1, 1) := by decide +kernel
theorem dd_210_65 : decode prog_13_method_57_code 65 = .ok (.bipush 13, 2) := by decide +kernel
theorem dd_210_67 : decode prog_13_method_57_code 67 = .ok (.if_icmp .ne 41, 3) := by decide +kernel
theorem dd_210_70 : decode prog_13_method_57_code 70 = .ok (.aload_n 0, 1) := by decide +kernel
theorem dd_210_71 : decode prog_13_method_57_code 71 = .ok (.iload_n 3, 1) := by decide +kernel
theorem dd_210_72 : decode prog_13_method_57_code 72 = .ok (.iload 4, 2) := by decide +kernel
theorem dd_210_74 : decode prog_13_method_57_code 74 = .ok (.iconst (-1), 1) := by decide +kernel
theorem dd_210_75 : decode prog_13_method_57_code 75 = .ok (.invokevirtual 207, 3) := by decide +kernel
theorem dd_210_78 : decode prog_13_method_57_code 78 = .ok (.istore 7, 2) := by decide +kernel
theorem dd_210_80 : decode prog_13_method_57_code 80 = .ok (.aload_n 0, 1) := by decide +kernel
theorem dd_210_81 : decode prog_13_method_57_code 81 = .ok (.getfield 76, 3) := by decide +kernel
theorem dd_210_84 : decode prog_13_method_57_code 84 = .ok (.iload 7, 2) := by decide +kernel
theorem dd_210_86 : decode prog_13_method_57_code 86 = .ok (.iload 5, 2) := by decide +kernel
theorem dd_210_88 : decode prog_13_method_57_code 88 = .ok (.iastore, 1) := by decide +kernel
theorem dd_210_89 : decode prog_13_method_57_code 89 = .ok (.aload_n 0, 1) := by decide +kernel
theorem dd_210_90 : decode prog_13_method_57_code 90 = .ok (.getfield 79, 3) := by decide +kernel
theorem dd_210_93 : decode prog_13_method_57_code 93 = .ok (.iload 7, 2) := by decide +kernel
theorem dd_210_95 : decode prog_13_method_57_code 95 = .ok (.iload 6, 2) := by decide +kernel
theorem dd_210_97 : decode prog_13_method_57_code 97 = .ok (.iastore, 1) := by decide +kernel
theorem dd_210_98 : decode prog_13_method_57_code 98 = .ok (.aload_n 0, 1) := by decide +kernel
theorem dd_210_99 : decode prog_13_method_57_code 99 = .ok (.iconst 3, 1) := by decide +kernel
theorem dd_210_100 : decode prog_13_method_57_code 100 = .ok (.iload 7, 2) := by decide +kernel
theorem dd_210_102 : decode prog_13_method_57_code 102 = .ok (.invokevirtual 273, 3) := by decide +kernel
theorem dd_210_105 : decode prog_13_method_57_code 105 = .ok (.goto 112, 3) := by decide +kernel
theorem dd_210_108 : decode prog_13_method_57_code 108 = .ok (.iload 5, 2) := by decide +kernel
theorem dd_210_110 : decode prog_13_method_57_code 110 = .ok (.iload_n 3, 1) := by decide +kernel
theorem dd_210_111 : decode prog_13_method_57_code 111 = .ok (.if_icmp .ne 25, 3) := by decide +kernel
theorem dd_210_114 : decode prog_13_method_57_code 114 = .ok (.iload 5, 2) := by decide +kernel
theorem dd_210_116 : decode prog_13_method_57_code 116 = .ok (.iconst 3, 1) := by decide +kernel
theorem dd_210_117 : decode prog_13_method_57_code 117 = .ok (.if_icmp .eq 19, 3) := by decide +kernel
theorem dd_210_120 : decode prog_13_method_57_code 120 = .ok (.iload 5, 2) := by decide +kernel
theorem dd_210_122 : decode prog_13_method_57_code 122 = .ok (.ifCond .eq 10, 3) := by decide +kernel
theorem dd_210_125 : decode prog_13_method_57_code 125 = .ok (.iload 6, 2) := by decide +kernel
theorem dd_210_127 : decode prog_13_method_57_code 127 = .ok (.iload 4, 2) := by decide +kernel
theorem dd_210_129 : decode prog_13_method_57_code 129 = .ok (.if_icmp .ne 7, 3) := by decide +kernel
theorem dd_210_132 : decode prog_13_method_57_code 132 = .ok (.iconst 1, 1) := by decide +kernel
theorem dd_210_133 : decode prog_13_method_57_code 133 = .ok (.goto 4, 3) := by decide +kernel
theorem dd_210_136 : decode prog_13_method_57_code 136 = .ok (.iconst 0, 1) := by decide +kernel
theorem dd_210_137 : decode prog_13_method_57_code 137 = .ok (.istore 7, 2) := by decide +kernel
theorem dd_210_139 : decode prog_13_method_57_code 139 = .ok (.aload_n 0, 1) := by decide +kernel
theorem dd_210_140 : decode prog_13_method_57_code 140 = .ok (.iconst 1, 1) := by decide +kernel
theorem dd_210_141 : decode prog_13_method_57_code 141 = .ok (.iload_n 1, 1) := by decide +kernel
theorem dd_210_142 : decode prog_13_method_57_code 142 = .ok (.bipush 14, 2) := by decide +kernel
theorem dd_210_144 : decode prog_13_method_57_code 144 = .ok (.if_icmp .ne 16, 3) := by decide +kernel
theorem dd_210_147 : decode prog_13_method_57_code 147 = .ok (.iload 7, 2) := by decide +kernel
theorem dd_210_149 : decode prog_13_method_57_code 149 = .ok (.ifCond .eq 7, 3) := by decide +kernel
theorem dd_210_152 : decode prog_13_method_57_code 152 = .ok (.iconst 1, 1) := by decide +kernel
theorem dd_210_153 : decode prog_13_method_57_code 153 = .ok (.goto 61, 3) := by decide +kernel
theorem dd_210_156 : decode prog_13_method_57_code 156 = .ok (.iconst 0, 1) := by decide +kernel
theorem dd_210_157 : decode prog_13_method_57_code 157 = .ok (.goto 57, 3) := by decide +kernel
theorem dd_210_160 : decode prog_13_method_57_code 160 = .ok (.iload_n 1, 1) := by decide +kernel
theorem dd_210_161 : decode prog_13_method_57_code 161 = .ok (.bipush 15, 2) := by decide +kernel
theorem dd_210_163 : decode prog_13_method_57_code 163 = .ok (.if_icmp .ne 11, 3) := by decide +kernel
theorem dd_210_166 : decode prog_13_method_57_code 166 = .ok (.iload 6, 2) := by decide +kernel
theorem dd_210_168 : decode prog_13_method_57_code 168 = .ok (.iload 4, 2) := by decide +kernel
theorem dd_210_170 : decode prog_13_method_57_code 170 = .ok (.iadd, 1) := by decide +kernel
theorem dd_210_171 : decode prog_13_method_57_code 171 = .ok (.goto 43, 3) := by decide +kernel
theorem dd_210_174 : decode prog_13_method_57_code 174 = .ok (.iload_n 1, 1) := by decide +kernel
theorem dd_210_175 : decode prog_13_method_57_code 175 = .ok (.bipush 16, 2) := by decide +kernel
theorem dd_210_177 : decode prog_13_method_57_code 177 = .ok (.if_icmp .ne 11, 3) := by decide +kernel
theorem dd_210_180 : decode prog_13_method_57_code 180 = .ok (.iload 6, 2) := by decide +kernel
theorem dd_210_182 : decode prog_13_method_57_code 182 = .ok (.iload 4, 2) := by decide +kernel
theorem dd_210_184 : decode prog_13_method_57_code 184 = .ok (.isub, 1) := by decide +kernel
theorem dd_210_185 : decode prog_13_method_57_code 185 = .ok (.goto 29, 3) := by decide +kernel
theorem dd_210_188 : decode prog_13_method_57_code 188 = .ok (.iload_n 1, 1) := by decide +kernel
theorem dd_210_189 : decode prog_13_method_57_code 189 = .ok (.bipush 17, 2) := by decide +kernel
theorem dd_210_191 : decode prog_13_method_57_code 191 = .ok (.if_icmp .ne 11, 3) := by decide +kernel
theorem dd_210_194 : decode prog_13_method_57_code 194 = .ok (.iload 6, 2) := by decide +kernel
theorem dd_210_196 : decode prog_13_method_57_code 196 = .ok (.iload 4, 2) := by decide +kernel
theorem dd_210_198 : decode prog_13_method_57_code 198 = .ok (.imul, 1) := by decide +kernel
theorem dd_210_199 : decode prog_13_method_57_code 199 = .ok (.goto 15, 3) := by decide +kernel
theorem dd_210_202 : decode prog_13_method_57_code 202 = .ok (.iload 6, 2) := by decide +kernel
theorem dd_210_204 : decode prog_13_method_57_code 204 = .ok (.iload 4, 2) := by decide +kernel
theorem dd_210_206 : decode prog_13_method_57_code 206 = .ok (.if_icmp .ge 7, 3) := by decide +kernel
theorem dd_210_209 : decode prog_13_method_57_code 209 = .ok (.iconst 1, 1) := by decide +kernel
theorem dd_210_210 : decode prog_13_method_57_code 210 = .ok (.goto 4, 3) := by decide +kernel
theorem dd_210_213 : decode prog_13_method_57_code 213 = .ok (.iconst 0, 1) := by decide +kernel
theorem dd_210_214 : decode prog_13_method_57_code 214 = .ok (.invokevirtual 273, 3) := by decide +kernel
theorem dd_210_217 : decode prog_13_method_57_code 217 = .ok (.aload_n 0, 1) := by decide +kernel
theorem dd_210_218 : decode prog_13_method_57_code 218 = .ok (.getfield 88, 3) := by decide +kernel
theorem dd_210_221 : decode prog_13_method_57_code 221 = .ok (.iconst 2, 1) := by decide +kernel
theorem dd_210_222 : decode prog_13_method_57_code 222 = .ok (.iload_n 2, 1) := by decide +kernel
theorem dd_210_223 : decode prog_13_method_57_code 223 = .ok (.iastore, 1) := by decide +kernel
theorem dd_210_224 : decode prog_13_method_57_code 224 = .ok (.return_, 1) := by decide +kernel
set_option maxRecDepth 100000 in
theorem okI_210 : mj_okI gG "PairMachineModel" prog_13_method_57_code 8 (mj_off oM_210) (Option.none : Option Jvm.ClassFile.FieldType) false true 0 cM_210 :=
  ⟨Or.inl ⟨0, rfl, dd_210_0, rfl⟩,
   Or.inl (Or.inl ⟨dd_210_1, rfl⟩),
   ⟨rfl, tw_1029, by decide, tw_12, by decide +kernel, 301, tw_1030, dd_210_2, tw_1031, ⟨"PairMachineModel", fT10, 45, rfl, tw_1032⟩, by decide +kernel⟩,
   Or.inl ⟨0, rfl, dd_210_5, rfl⟩,
   ⟨258, "PairMachineModel", fT10, 45, dd_210_6, rfl, okc_10, by decide, tw_980⟩,
   ⟨by decide, Or.inl ⟨3, rfl, dd_210_9, rfl⟩⟩,
   Or.inl ⟨0, rfl, dd_210_10, rfl⟩,
   ⟨261, "PairMachineModel", fT10, 45, dd_210_11, rfl, okc_10, by decide, tw_981⟩,
   ⟨by decide, Or.inr ⟨dd_210_14, rfl⟩⟩,
   Or.inl ⟨0, rfl, dd_210_16, rfl⟩,
   Or.inl (Or.inl ⟨dd_210_17, rfl⟩),
   ⟨rfl, tw_1029, by decide, tw_12, by decide +kernel, 301, tw_1030, dd_210_18, tw_1031, ⟨"PairMachineModel", fT10, 45, rfl, tw_1032⟩, by decide +kernel⟩,
   Or.inl ⟨0, rfl, dd_210_21, rfl⟩,
   ⟨258, "PairMachineModel", fT10, 45, dd_210_22, rfl, okc_10, by decide, tw_980⟩,
   ⟨by decide, Or.inr ⟨dd_210_25, rfl⟩⟩,
   Or.inl ⟨0, rfl, dd_210_27, rfl⟩,
   ⟨261, "PairMachineModel", fT10, 45, dd_210_28, rfl, okc_10, by decide, tw_981⟩,
   ⟨by decide, Or.inr ⟨dd_210_31, rfl⟩⟩,
   Or.inl ⟨1, rfl, dd_210_33, rfl⟩,
   Or.inl (Or.inr (Or.inl ⟨dd_210_34, rfl, by decide⟩)),
   ⟨20, dd_210_36, rfl, rfl⟩,
   Or.inr ⟨dd_210_39, rfl⟩,
   Or.inl (Or.inl ⟨dd_210_41, rfl⟩),
   ⟨8, dd_210_42, rfl, rfl⟩,
   Or.inl ⟨3, rfl, dd_210_45, rfl⟩,
   Or.inl (Or.inl ⟨dd_210_46, rfl⟩),
   ⟨9, dd_210_47, rfl, rfl⟩,
   Or.inl ⟨0, rfl, dd_210_50, rfl⟩,
   Or.inl (Or.inl ⟨dd_210_51, rfl⟩),
   ⟨rfl, tw_989, by decide, tw_12, by decide +kernel, 270, tw_990, dd_210_52, tw_991, ⟨"PairMachineModel", fT10, 45, rfl, tw_992⟩, by decide +kernel⟩,
   ⟨dd_210_55, rfl⟩,
   Or.inl ⟨0, rfl, dd_210_56, rfl⟩,
   ⟨rfl, tw_1037, by decide, tw_12, by decide +kernel, 307, tw_1038, dd_210_57, tw_1039, ⟨"PairMachineModel", fT10, 45, rfl, tw_1040⟩, by decide +kernel⟩,
   Or.inl ⟨0, rfl, dd_210_60, rfl⟩,
   ⟨rfl, tw_1037, by decide, tw_12, by decide +kernel, 307, tw_1038, dd_210_61, tw_1039, ⟨"PairMachineModel", fT10, 45, rfl, tw_1040⟩, by decide +kernel⟩,
   Or.inl ⟨1, rfl, dd_210_64, rfl⟩,
   Or.inl (Or.inr (Or.inl ⟨dd_210_65, rfl, by decide⟩)),
   ⟨41, dd_210_67, rfl, rfl⟩,
   Or.inl ⟨0, rfl, dd_210_70, rfl⟩,
   Or.inl ⟨3, rfl, dd_210_71, rfl⟩,
   Or.inr ⟨dd_210_72, rfl⟩,
   Or.inl (Or.inl ⟨dd_210_74, rfl⟩),
   ⟨rfl, tw_934, by decide, tw_12, by decide +kernel, 207, tw_935, dd_210_75, tw_936, ⟨"PairMachineModel", fT10, 45, rfl, tw_937⟩, by decide +kernel⟩,
   ⟨by decide, Or.inr ⟨dd_210_78, rfl⟩⟩,
   Or.inl ⟨0, rfl, dd_210_80, rfl⟩,
   ⟨76, "PairMachineModel", fT10, 45, dd_210_81, rfl, okc_10, by decide, tw_822⟩,
   Or.inr ⟨dd_210_84, rfl⟩,
   Or.inr ⟨dd_210_86, rfl⟩,
   ⟨dd_210_88, rfl⟩,
   Or.inl ⟨0, rfl, dd_210_89, rfl⟩,
   ⟨79, "PairMachineModel", fT10, 45, dd_210_90, rfl, okc_10, by decide, tw_823⟩,
   Or.inr ⟨dd_210_93, rfl⟩,
   Or.inr ⟨dd_210_95, rfl⟩,
   ⟨dd_210_97, rfl⟩,
   Or.inl ⟨0, rfl, dd_210_98, rfl⟩,
   Or.inl (Or.inl ⟨dd_210_99, rfl⟩),
   Or.inr ⟨dd_210_100, rfl⟩,
   ⟨rfl, tw_993, by decide, tw_12, by decide +kernel, 273, tw_994, dd_210_102, tw_995, ⟨"PairMachineModel", fT10, 45, rfl, tw_996⟩, by decide +kernel⟩,
   ⟨112, dd_210_105, rfl⟩,
   Or.inr ⟨dd_210_108, rfl⟩,
   Or.inl ⟨3, rfl, dd_210_110, rfl⟩,
   ⟨25, dd_210_111, rfl, rfl⟩,
   Or.inr ⟨dd_210_114, rfl⟩,
   Or.inl (Or.inl ⟨dd_210_116, rfl⟩),
   ⟨19, dd_210_117, rfl, rfl⟩,
   Or.inr ⟨dd_210_120, rfl⟩,
   ⟨10, dd_210_122, rfl, rfl⟩,
   Or.inr ⟨dd_210_125, rfl⟩,
   Or.inr ⟨dd_210_127, rfl⟩,
   ⟨7, dd_210_129, rfl, rfl⟩,
   Or.inl (Or.inl ⟨dd_210_132, rfl⟩),
   ⟨4, dd_210_133, rfl⟩,
   Or.inl (Or.inl ⟨dd_210_136, rfl⟩),
   ⟨by decide, Or.inr ⟨dd_210_137, rfl⟩⟩,
   Or.inl ⟨0, rfl, dd_210_139, rfl⟩,
   Or.inl (Or.inl ⟨dd_210_140, rfl⟩),
   Or.inl ⟨1, rfl, dd_210_141, rfl⟩,
   Or.inl (Or.inr (Or.inl ⟨dd_210_142, rfl, by decide⟩)),
   ⟨16, dd_210_144, rfl, rfl⟩,
   Or.inr ⟨dd_210_147, rfl⟩,
   ⟨7, dd_210_149, rfl, rfl⟩,
   Or.inl (Or.inl ⟨dd_210_152, rfl⟩),
   ⟨61, dd_210_153, rfl⟩,
   Or.inl (Or.inl ⟨dd_210_156, rfl⟩),
   ⟨57, dd_210_157, rfl⟩,
   Or.inl ⟨1, rfl, dd_210_160, rfl⟩,
   Or.inl (Or.inr (Or.inl ⟨dd_210_161, rfl, by decide⟩)),
   ⟨11, dd_210_163, rfl, rfl⟩,
   Or.inr ⟨dd_210_166, rfl⟩,
   Or.inr ⟨dd_210_168, rfl⟩,
   ⟨dd_210_170, rfl⟩,
   ⟨43, dd_210_171, rfl⟩,
   Or.inl ⟨1, rfl, dd_210_174, rfl⟩,
   Or.inl (Or.inr (Or.inl ⟨dd_210_175, rfl, by decide⟩)),
   ⟨11, dd_210_177, rfl, rfl⟩,
   Or.inr ⟨dd_210_180, rfl⟩,
   Or.inr ⟨dd_210_182, rfl⟩,
   ⟨dd_210_184, rfl⟩,
   ⟨29, dd_210_185, rfl⟩,
   Or.inl ⟨1, rfl, dd_210_188, rfl⟩,
   Or.inl (Or.inr (Or.inl ⟨dd_210_189, rfl, by decide⟩)),
   ⟨11, dd_210_191, rfl, rfl⟩,
   Or.inr ⟨dd_210_194, rfl⟩,
   Or.inr ⟨dd_210_196, rfl⟩,
   ⟨dd_210_198, rfl⟩,
   ⟨15, dd_210_199, rfl⟩,
   Or.inr ⟨dd_210_202, rfl⟩,
   Or.inr ⟨dd_210_204, rfl⟩,
   ⟨7, dd_210_206, rfl, rfl⟩,
   Or.inl (Or.inl ⟨dd_210_209, rfl⟩),
   ⟨4, dd_210_210, rfl⟩,
   Or.inl (Or.inl ⟨dd_210_213, rfl⟩),
   ⟨rfl, tw_993, by decide, tw_12, by decide +kernel, 273, tw_994, dd_210_214, tw_995, ⟨"PairMachineModel", fT10, 45, rfl, tw_996⟩, by decide +kernel⟩,
   Or.inl ⟨0, rfl, dd_210_217, rfl⟩,
   ⟨88, "PairMachineModel", fT10, 45, dd_210_218, rfl, okc_10, by decide, tw_826⟩,
   Or.inl (Or.inl ⟨dd_210_221, rfl⟩),
   Or.inl ⟨2, rfl, dd_210_222, rfl⟩,
   ⟨dd_210_223, rfl⟩,
   ⟨dd_210_224, rfl⟩, trivial⟩
theorem okM_210 : mj_okE gG 210 (cM_210, 8, oM_210, hM_210) := ⟨rfl, rfl, by decide +kernel, trivial, okI_210⟩
end
