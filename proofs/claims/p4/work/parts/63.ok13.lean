section
theorem dd_174_0 : decode prog_13_method_21_code 0 = .ok (.iconst 0, 1) := by decide +kernel
theorem dd_174_1 : decode prog_13_method_21_code 1 = .ok (.istore_n 2, 1) := by decide +kernel
theorem dd_174_2 : decode prog_13_method_21_code 2 = .ok (.iload_n 1, 1) := by decide +kernel
theorem dd_174_3 : decode prog_13_method_21_code 3 = .ok (.istore_n 3, 1) := by decide +kernel
theorem dd_174_4 : decode prog_13_method_21_code 4 = .ok (.aload_n 0, 1) := by decide +kernel
theorem dd_174_5 : decode prog_13_method_21_code 5 = .ok (.getfield 30, 3) := by decide +kernel
theorem dd_174_8 : decode prog_13_method_21_code 8 = .ok (.iload_n 1, 1) := by decide +kernel
theorem dd_174_9 : decode prog_13_method_21_code 9 = .ok (.iaload, 1) := by decide +kernel
theorem dd_174_10 : decode prog_13_method_21_code 10 = .ok (.istore 4, 2) := by decide +kernel
theorem dd_174_12 : decode prog_13_method_21_code 12 = .ok (.iload 4, 2) := by decide +kernel
theorem dd_174_14 : decode prog_13_method_21_code 14 = .ok (.ifCond .lt 120, 3) := by decide +kernel
theorem dd_174_17 : decode prog_13_method_21_code 17 = .ok (.aload_n 0, 1) := by decide +kernel
theorem dd_174_18 : decode prog_13_method_21_code 18 = .ok (.getfield 17, 3) := by decide +kernel
theorem dd_174_21 : decode prog_13_method_21_code 21 = .ok (.iload 4, 2) := by decide +kernel
theorem dd_174_23 : decode prog_13_method_21_code 23 = .ok (.iaload, 1) := by decide +kernel
theorem dd_174_24 : decode prog_13_method_21_code 24 = .ok (.iconst 5, 1) := by decide +kernel
theorem dd_174_25 : decode prog_13_method_21_code 25 = .ok (.if_icmp .eq 38, 3) := by decide +kernel
theorem dd_174_28 : decode prog_13_method_21_code 28 = .ok (.aload_n 0, 1) := by decide +kernel
theorem dd_174_29 : decode prog_13_method_21_code 29 = .ok (.getfield 17, 3) := by decide +kernel
theorem dd_174_32 : decode prog_13_method_21_code 32 = .ok (.iload 4, 2) := by decide +kernel
theorem dd_174_34 : decode prog_13_method_21_code 34 = .ok (.iaload, 1) := by decide +kernel
theorem dd_174_35 : decode prog_13_method_21_code 35 = .ok (.bipush 7, 2) := by decide +kernel
theorem dd_174_37 : decode prog_13_method_21_code 37 = .ok (.if_icmp .eq 26, 3) := by decide +kernel
theorem dd_174_40 : decode prog_13_method_21_code 40 = .ok (.aload_n 0, 1) := by decide +kernel
theorem dd_174_41 : decode prog_13_method_21_code 41 = .ok (.getfield 17, 3) := by decide +kernel
theorem dd_174_44 : decode prog_13_method_21_code 44 = .ok (.iload 4, 2) := by decide +kernel
theorem dd_174_46 : decode prog_13_method_21_code 46 = .ok (.iaload, 1) := by decide +kernel
theorem dd_174_47 : decode prog_13_method_21_code 47 = .ok (.bipush 6, 2) := by decide +kernel
theorem dd_174_49 : decode prog_13_method_21_code 49 = .ok (.if_icmp .ne 18, 3) := by decide +kernel
theorem dd_174_52 : decode prog_13_method_21_code 52 = .ok (.iload_n 3, 1) := by decide +kernel
theorem dd_174_53 : decode prog_13_method_21_code 53 = .ok (.aload_n 0, 1) := by decide +kernel
theorem dd_174_54 : decode prog_13_method_21_code 54 = .ok (.getfield 33, 3) := by decide +kernel
theorem dd_174_57 : decode prog_13_method_21_code 57 = .ok (.iload 4, 2) := by decide +kernel
theorem dd_174_59 : decode prog_13_method_21_code 59 = .ok (.iaload, 1) := by decide +kernel
theorem dd_174_60 : decode prog_13_method_21_code 60 = .ok (.if_icmp .ne 7, 3) := by decide +kernel
theorem dd_174_63 : decode prog_13_method_21_code 63 = .ok (.iconst 1, 1) := by decide +kernel
theorem dd_174_64 : decode prog_13_method_21_code 64 = .ok (.goto 4, 3) := by decide +kernel
theorem dd_174_67 : decode prog_13_method_21_code 67 = .ok (.iconst 0, 1) := by decide +kernel
theorem dd_174_68 : decode prog_13_method_21_code 68 = .ok (.istore 5, 2) := by decide +kernel
theorem dd_174_70 : decode prog_13_method_21_code 70 = .ok (.iload 5, 2) := by decide +kernel
theorem dd_174_72 : decode prog_13_method_21_code 72 = .ok (.ifCond .eq 18, 3) := by decide +kernel
theorem dd_174_75 : decode prog_13_method_21_code 75 = .ok (.aload_n 0, 1) := by decide +kernel
theorem dd_174_76 : decode prog_13_method_21_code 76 = .ok (.iload 4, 2) := by decide +kernel
theorem dd_174_78 : decode prog_13_method_21_code 78 = .ok (.aload_n 0, 1) := by decide +kernel
theorem dd_174_79 : decode prog_13_method_21_code 79 = .ok (.getfield 27, 3) := by decide +kernel
theorem dd_174_82 : decode prog_13_method_21_code 82 = .ok (.iload_n 1, 1) := by decide +kernel
theorem dd_174_83 : decode prog_13_method_21_code 83 = .ok (.iaload, 1) := by decide +kernel
theorem dd_174_84 : decode prog_13_method_21_code 84 = .ok (.invokevirtual 166, 3) := by decide +kernel
theorem dd_174_87 : decode prog_13_method_21_code 87 = .ok (.goto 4, 3) := by decide +kernel
theorem dd_174_90 : decode prog_13_method_21_code 90 = .ok (.iconst (-1), 1) := by decide +kernel
theorem dd_174_91 : decode prog_13_method_21_code 91 = .ok (.istore 6, 2) := by decide +kernel
theorem dd_174_93 : decode prog_13_method_21_code 93 = .ok (.iload 6, 2) := by decide +kernel
theorem dd_174_95 : decode prog_13_method_21_code 95 = .ok (.ifCond .lt 11, 3) := by decide +kernel
theorem dd_174_98 : decode prog_13_method_21_code 98 = .ok (.bipush 16, 2) := by decide +kernel
theorem dd_174_100 : decode prog_13_method_21_code 100 = .ok (.iload_n 2, 1) := by decide +kernel
theorem dd_174_101 : decode prog_13_method_21_code 101 = .ok (.imul, 1) := by decide +kernel
theorem dd_174_102 : decode prog_13_method_21_code 102 = .ok (.iload 6, 2) := by decide +kernel
theorem dd_174_104 : decode prog_13_method_21_code 104 = .ok (.iadd, 1) := by decide +kernel
theorem dd_174_105 : decode prog_13_method_21_code 105 = .ok (.ireturn, 1) := by decide +kernel
theorem dd_174_106 : decode prog_13_method_21_code 106 = .ok (.iload 5, 2) := by decide +kernel
theorem dd_174_108 : decode prog_13_method_21_code 108 = .ok (.ifCond .eq 9, 3) := by decide +kernel
theorem dd_174_111 : decode prog_13_method_21_code 111 = .ok (.iload_n 2, 1) := by decide +kernel
theorem dd_174_112 : decode prog_13_method_21_code 112 = .ok (.iconst 1, 1) := by decide +kernel
theorem dd_174_113 : decode prog_13_method_21_code 113 = .ok (.iadd, 1) := by decide +kernel
theorem dd_174_114 : decode prog_13_method_21_code 114 = .ok (.goto 4, 3) := by decide +kernel
theorem dd_174_117 : decode prog_13_method_21_code 117 = .ok (.iload_n 2, 1) := by decide +kernel
theorem dd_174_118 : decode prog_13_method_21_code 118 = .ok (.istore_n 2, 1) := by decide +kernel
theorem dd_174_119 : decode prog_13_method_21_code 119 = .ok (.iload 4, 2) := by decide +kernel
theorem dd_174_121 : decode prog_13_method_21_code 121 = .ok (.istore_n 3, 1) := by decide +kernel
theorem dd_174_122 : decode prog_13_method_21_code 122 = .ok (.aload_n 0, 1) := by decide +kernel
theorem dd_174_123 : decode prog_13_method_21_code 123 = .ok (.getfield 30, 3) := by decide +kernel
theorem dd_174_126 : decode prog_13_method_21_code 126 = .ok (.iload 4, 2) := by decide +kernel
theorem dd_174_128 : decode prog_13_method_21_code 128 = .ok (.iaload, 1) := by decide +kernel
theorem dd_174_129 : decode prog_13_method_21_code 129 = .ok (.istore 4, 2) := by decide +kernel
theorem dd_174_131 : decode prog_13_method_21_code 131 = .ok (.goto (-119), 3) := by decide +kernel
theorem dd_174_134 : decode prog_13_method_21_code 134 = .ok (.iconst (-1), 1) := by decide +kernel
theorem dd_174_135 : decode prog_13_method_21_code 135 = .ok (.ireturn, 1) := by decide +kernel
set_option maxRecDepth 100000 in
theorem okI_174 : mj_okI gG "PairMachineModel" prog_13_method_21_code 7 (mj_off oM_174) (Option.some Jvm.ClassFile.FieldType.int) false true 0 cM_174 :=
  ⟨Or.inl (Or.inl ⟨dd_174_0, rfl⟩),
   ⟨by decide, Or.inl ⟨2, rfl, dd_174_1, rfl⟩⟩,
   Or.inl ⟨1, rfl, dd_174_2, rfl⟩,
   ⟨by decide, Or.inl ⟨3, rfl, dd_174_3, rfl⟩⟩,
   Or.inl ⟨0, rfl, dd_174_4, rfl⟩,
   ⟨30, "PairMachineModel", fT10, 45, dd_174_5, rfl, okc_10, by decide, tw_807⟩,
   Or.inl ⟨1, rfl, dd_174_8, rfl⟩,
   ⟨dd_174_9, rfl⟩,
   ⟨by decide, Or.inr ⟨dd_174_10, rfl⟩⟩,
   Or.inr ⟨dd_174_12, rfl⟩,
   ⟨120, dd_174_14, rfl, rfl⟩,
   Or.inl ⟨0, rfl, dd_174_17, rfl⟩,
   ⟨17, "PairMachineModel", fT10, 45, dd_174_18, rfl, okc_10, by decide, tw_803⟩,
   Or.inr ⟨dd_174_21, rfl⟩,
   ⟨dd_174_23, rfl⟩,
   Or.inl (Or.inl ⟨dd_174_24, rfl⟩),
   ⟨38, dd_174_25, rfl, rfl⟩,
   Or.inl ⟨0, rfl, dd_174_28, rfl⟩,
   ⟨17, "PairMachineModel", fT10, 45, dd_174_29, rfl, okc_10, by decide, tw_803⟩,
   Or.inr ⟨dd_174_32, rfl⟩,
   ⟨dd_174_34, rfl⟩,
   Or.inl (Or.inr (Or.inl ⟨dd_174_35, rfl, by decide⟩)),
   ⟨26, dd_174_37, rfl, rfl⟩,
   Or.inl ⟨0, rfl, dd_174_40, rfl⟩,
   ⟨17, "PairMachineModel", fT10, 45, dd_174_41, rfl, okc_10, by decide, tw_803⟩,
   Or.inr ⟨dd_174_44, rfl⟩,
   ⟨dd_174_46, rfl⟩,
   Or.inl (Or.inr (Or.inl ⟨dd_174_47, rfl, by decide⟩)),
   ⟨18, dd_174_49, rfl, rfl⟩,
   Or.inl ⟨3, rfl, dd_174_52, rfl⟩,
   Or.inl ⟨0, rfl, dd_174_53, rfl⟩,
   ⟨33, "PairMachineModel", fT10, 45, dd_174_54, rfl, okc_10, by decide, tw_808⟩,
   Or.inr ⟨dd_174_57, rfl⟩,
   ⟨dd_174_59, rfl⟩,
   ⟨7, dd_174_60, rfl, rfl⟩,
   Or.inl (Or.inl ⟨dd_174_63, rfl⟩),
   ⟨4, dd_174_64, rfl⟩,
   Or.inl (Or.inl ⟨dd_174_67, rfl⟩),
   ⟨by decide, Or.inr ⟨dd_174_68, rfl⟩⟩,
   Or.inr ⟨dd_174_70, rfl⟩,
   ⟨18, dd_174_72, rfl, rfl⟩,
   Or.inl ⟨0, rfl, dd_174_75, rfl⟩,
   Or.inr ⟨dd_174_76, rfl⟩,
   Or.inl ⟨0, rfl, dd_174_78, rfl⟩,
   ⟨27, "PairMachineModel", fT10, 45, dd_174_79, rfl, okc_10, by decide, tw_806⟩,
   Or.inl ⟨1, rfl, dd_174_82, rfl⟩,
   ⟨dd_174_83, rfl⟩,
   ⟨rfl, tw_892, by decide, tw_12, by decide +kernel, 166, tw_893, dd_174_84, tw_894, ⟨"PairMachineModel", fT10, 45, rfl, tw_895⟩, by decide +kernel⟩,
   ⟨4, dd_174_87, rfl⟩,
   Or.inl (Or.inl ⟨dd_174_90, rfl⟩),
   ⟨by decide, Or.inr ⟨dd_174_91, rfl⟩⟩,
   Or.inr ⟨dd_174_93, rfl⟩,
   ⟨11, dd_174_95, rfl, rfl⟩,
   Or.inl (Or.inr (Or.inl ⟨dd_174_98, rfl, by decide⟩)),
   Or.inl ⟨2, rfl, dd_174_100, rfl⟩,
   ⟨dd_174_101, rfl⟩,
   Or.inr ⟨dd_174_102, rfl⟩,
   ⟨dd_174_104, rfl⟩,
   ⟨dd_174_105, rfl⟩,
   Or.inr ⟨dd_174_106, rfl⟩,
   ⟨9, dd_174_108, rfl, rfl⟩,
   Or.inl ⟨2, rfl, dd_174_111, rfl⟩,
   Or.inl (Or.inl ⟨dd_174_112, rfl⟩),
   ⟨dd_174_113, rfl⟩,
   ⟨4, dd_174_114, rfl⟩,
   Or.inl ⟨2, rfl, dd_174_117, rfl⟩,
   ⟨by decide, Or.inl ⟨2, rfl, dd_174_118, rfl⟩⟩,
   Or.inr ⟨dd_174_119, rfl⟩,
   ⟨by decide, Or.inl ⟨3, rfl, dd_174_121, rfl⟩⟩,
   Or.inl ⟨0, rfl, dd_174_122, rfl⟩,
   ⟨30, "PairMachineModel", fT10, 45, dd_174_123, rfl, okc_10, by decide, tw_807⟩,
   Or.inr ⟨dd_174_126, rfl⟩,
   ⟨dd_174_128, rfl⟩,
   ⟨by decide, Or.inr ⟨dd_174_129, rfl⟩⟩,
   ⟨(-119), dd_174_131, rfl⟩,
   Or.inl (Or.inl ⟨dd_174_134, rfl⟩),
   ⟨dd_174_135, rfl⟩, trivial⟩
theorem okM_174 : mj_okE gG 174 (cM_174, 7, oM_174, hM_174) := ⟨rfl, rfl, by decide +kernel, trivial, okI_174⟩
theorem dd_175_0 : decode prog_13_method_22_code 0 = .ok (.iconst 0, 1) := by decide +kernel
theorem dd_175_1 : decode prog_13_method_22_code 1 = .ok (.istore_n 1, 1) := by decide +kernel
theorem dd_175_2 : decode prog_13_method_22_code 2 = .ok (.iload_n 1, 1) := by decide +kernel
theorem dd_175_3 : decode prog_13_method_22_code 3 = .ok (.aload_n 0, 1) := by decide +kernel
theorem dd_175_4 : decode prog_13_method_22_code 4 = .ok (.getfield 119, 3) := by decide +kernel
theorem dd_175_7 : decode prog_13_method_22_code 7 = .ok (.if_icmp .ge 34, 3) := by decide +kernel
theorem dd_175_10 : decode prog_13_method_22_code 10 = .ok (.aload_n 0, 1) := by decide +kernel
theorem dd_175_11 : decode prog_13_method_22_code 11 = .ok (.getfield 17, 3) := by decide +kernel
theorem dd_175_14 : decode prog_13_method_22_code 14 = .ok (.iload_n 1, 1) := by decide +kernel
theorem dd_175_15 : decode prog_13_method_22_code 15 = .ok (.iaload, 1) := by decide +kernel
theorem dd_175_16 : decode prog_13_method_22_code 16 = .ok (.iconst 1, 1) := by decide +kernel
theorem dd_175_17 : decode prog_13_method_22_code 17 = .ok (.if_icmp .ne 18, 3) := by decide +kernel
theorem dd_175_20 : decode prog_13_method_22_code 20 = .ok (.aload_n 0, 1) := by decide +kernel
theorem dd_175_21 : decode prog_13_method_22_code 21 = .ok (.iload_n 1, 1) := by decide +kernel
theorem dd_175_22 : decode prog_13_method_22_code 22 = .ok (.invokevirtual 169, 3) := by decide +kernel
theorem dd_175_25 : decode prog_13_method_22_code 25 = .ok (.ifCond .ge 10, 3) := by decide +kernel
theorem dd_175_28 : decode prog_13_method_22_code 28 = .ok (.aload_n 0, 1) := by decide +kernel
theorem dd_175_29 : decode prog_13_method_22_code 29 = .ok (.getfield 21, 3) := by decide +kernel
theorem dd_175_32 : decode prog_13_method_22_code 32 = .ok (.iload_n 1, 1) := by decide +kernel
theorem dd_175_33 : decode prog_13_method_22_code 33 = .ok (.iaload, 1) := by decide +kernel
theorem dd_175_34 : decode prog_13_method_22_code 34 = .ok (.ireturn, 1) := by decide +kernel
theorem dd_175_35 : decode prog_13_method_22_code 35 = .ok (.iinc 1 1, 3) := by decide +kernel
theorem dd_175_38 : decode prog_13_method_22_code 38 = .ok (.goto (-36), 3) := by decide +kernel
theorem dd_175_41 : decode prog_13_method_22_code 41 = .ok (.iconst (-1), 1) := by decide +kernel
theorem dd_175_42 : decode prog_13_method_22_code 42 = .ok (.ireturn, 1) := by decide +kernel
set_option maxRecDepth 100000 in
theorem okI_175 : mj_okI gG "PairMachineModel" prog_13_method_22_code 2 (mj_off oM_175) (Option.some Jvm.ClassFile.FieldType.int) false true 0 cM_175 :=
  ⟨Or.inl (Or.inl ⟨dd_175_0, rfl⟩),
   ⟨by decide, Or.inl ⟨1, rfl, dd_175_1, rfl⟩⟩,
   Or.inl ⟨1, rfl, dd_175_2, rfl⟩,
   Or.inl ⟨0, rfl, dd_175_3, rfl⟩,
   ⟨119, "PairMachineModel", fT10, 45, dd_175_4, rfl, okc_10, by decide, tw_842⟩,
   ⟨34, dd_175_7, rfl, rfl⟩,
   Or.inl ⟨0, rfl, dd_175_10, rfl⟩,
   ⟨17, "PairMachineModel", fT10, 45, dd_175_11, rfl, okc_10, by decide, tw_803⟩,
   Or.inl ⟨1, rfl, dd_175_14, rfl⟩,
   ⟨dd_175_15, rfl⟩,
   Or.inl (Or.inl ⟨dd_175_16, rfl⟩),
   ⟨18, dd_175_17, rfl, rfl⟩,
   Or.inl ⟨0, rfl, dd_175_20, rfl⟩,
   Or.inl ⟨1, rfl, dd_175_21, rfl⟩,
   ⟨rfl, tw_896, by decide, tw_12, by decide +kernel, 169, tw_897, dd_175_22, tw_898, ⟨"PairMachineModel", fT10, 45, rfl, tw_899⟩, by decide +kernel⟩,
   ⟨10, dd_175_25, rfl, rfl⟩,
   Or.inl ⟨0, rfl, dd_175_28, rfl⟩,
   ⟨21, "PairMachineModel", fT10, 45, dd_175_29, rfl, okc_10, by decide, tw_804⟩,
   Or.inl ⟨1, rfl, dd_175_32, rfl⟩,
   ⟨dd_175_33, rfl⟩,
   ⟨dd_175_34, rfl⟩,
   ⟨by decide, dd_175_35, rfl⟩,
   ⟨(-36), dd_175_38, rfl⟩,
   Or.inl (Or.inl ⟨dd_175_41, rfl⟩),
   ⟨dd_175_42, rfl⟩, trivial⟩
theorem okM_175 : mj_okE gG 175 (cM_175, 2, oM_175, hM_175) := ⟨rfl, rfl, by decide +kernel, trivial, okI_175⟩
theorem dd_176_0 : decode prog_13_method_23_code 0 = .ok (.aload_n 0, 1) := by decide +kernel
theorem dd_176_1 : decode prog_13_method_23_code 1 = .ok (.getfield 51, 3) := by decide +kernel
theorem dd_176_4 : decode prog_13_method_23_code 4 = .ok (.aload_n 0, 1) := by decide +kernel
theorem dd_176_5 : decode prog_13_method_23_code 5 = .ok (.getfield 172, 3) := by decide +kernel
theorem dd_176_8 : decode prog_13_method_23_code 8 = .ok (.iload_n 1, 1) := by decide +kernel
theorem dd_176_9 : decode prog_13_method_23_code 9 = .ok (.iastore, 1) := by decide +kernel
theorem dd_176_10 : decode prog_13_method_23_code 10 = .ok (.aload_n 0, 1) := by decide +kernel
theorem dd_176_11 : decode prog_13_method_23_code 11 = .ok (.getfield 54, 3) := by decide +kernel
theorem dd_176_14 : decode prog_13_method_23_code 14 = .ok (.aload_n 0, 1) := by decide +kernel
theorem dd_176_15 : decode prog_13_method_23_code 15 = .ok (.getfield 172, 3) := by decide +kernel
theorem dd_176_18 : decode prog_13_method_23_code 18 = .ok (.iload_n 2, 1) := by decide +kernel
theorem dd_176_19 : decode prog_13_method_23_code 19 = .ok (.iastore, 1) := by decide +kernel
theorem dd_176_20 : decode prog_13_method_23_code 20 = .ok (.aload_n 0, 1) := by decide +kernel
theorem dd_176_21 : decode prog_13_method_23_code 21 = .ok (.dup, 1) := by decide +kernel
theorem dd_176_22 : decode prog_13_method_23_code 22 = .ok (.getfield 172, 3) := by decide +kernel
theorem dd_176_25 : decode prog_13_method_23_code 25 = .ok (.iconst 1, 1) := by decide +kernel
theorem dd_176_26 : decode prog_13_method_23_code 26 = .ok (.iadd, 1) := by decide +kernel
theorem dd_176_27 : decode prog_13_method_23_code 27 = .ok (.putfield 172, 3) := by decide +kernel
theorem dd_176_30 : decode prog_13_method_23_code 30 = .ok (.aload_n 0, 1) := by decide +kernel
theorem dd_176_31 : decode prog_13_method_23_code 31 = .ok (.iload_n 1, 1) := by decide +kernel
theorem dd_176_32 : decode prog_13_method_23_code 32 = .ok (.iconst 5, 1) := by decide +kernel
theorem dd_176_33 : decode prog_13_method_23_code 33 = .ok (.if_icmp .ne 10, 3) := by decide +kernel
theorem dd_176_36 : decode prog_13_method_23_code 36 = .ok (.aload_n 0, 1) := by decide +kernel
theorem dd_176_37 : decode prog_13_method_23_code 37 = .ok (.getfield 175, 3) := by decide +kernel
theorem dd_176_40 : decode prog_13_method_23_code 40 = .ok (.goto 9, 3) := by decide +kernel
theorem dd_176_43 : decode prog_13_method_23_code 43 = .ok (.aload_n 0, 1) := by decide +kernel
theorem dd_176_44 : decode prog_13_method_23_code 44 = .ok (.getfield 175, 3) := by decide +kernel
theorem dd_176_47 : decode prog_13_method_23_code 47 = .ok (.iconst 1, 1) := by decide +kernel
theorem dd_176_48 : decode prog_13_method_23_code 48 = .ok (.iadd, 1) := by decide +kernel
theorem dd_176_49 : decode prog_13_method_23_code 49 = .ok (.putfield 175, 3) := by decide +kernel
theorem dd_176_52 : decode prog_13_method_23_code 52 = .ok (.return_, 1) := by decide +kernel
set_option maxRecDepth 100000 in
theorem okI_176 : mj_okI gG "PairMachineModel" prog_13_method_23_code 3 (mj_off oM_176) (Option.none : Option Jvm.ClassFile.FieldType) false true 0 cM_176 :=
  ⟨Or.inl ⟨0, rfl, dd_176_0, rfl⟩,
   ⟨51, "PairMachineModel", fT10, 45, dd_176_1, rfl, okc_10, by decide, tw_814⟩,
   Or.inl ⟨0, rfl, dd_176_4, rfl⟩,
   ⟨172, "PairMachineModel", fT10, 45, dd_176_5, rfl, okc_10, by decide, tw_900⟩,
   Or.inl ⟨1, rfl, dd_176_8, rfl⟩,
   ⟨dd_176_9, rfl⟩,
   Or.inl ⟨0, rfl, dd_176_10, rfl⟩,
   ⟨54, "PairMachineModel", fT10, 45, dd_176_11, rfl, okc_10, by decide, tw_815⟩,
   Or.inl ⟨0, rfl, dd_176_14, rfl⟩,
   ⟨172, "PairMachineModel", fT10, 45, dd_176_15, rfl, okc_10, by decide, tw_900⟩,
   Or.inl ⟨2, rfl, dd_176_18, rfl⟩,
   ⟨dd_176_19, rfl⟩,
   Or.inl ⟨0, rfl, dd_176_20, rfl⟩,
   ⟨dd_176_21, rfl⟩,
   ⟨172, "PairMachineModel", fT10, 45, dd_176_22, rfl, okc_10, by decide, tw_900⟩,
   Or.inl (Or.inl ⟨dd_176_25, rfl⟩),
   ⟨dd_176_26, rfl⟩,
   ⟨172, "PairMachineModel", fT10, 45, dd_176_27, rfl, okc_10, by decide, tw_900, rfl, Or.inl rfl⟩,
   Or.inl ⟨0, rfl, dd_176_30, rfl⟩,
   Or.inl ⟨1, rfl, dd_176_31, rfl⟩,
   Or.inl (Or.inl ⟨dd_176_32, rfl⟩),
   ⟨10, dd_176_33, rfl, rfl⟩,
   Or.inl ⟨0, rfl, dd_176_36, rfl⟩,
   ⟨175, "PairMachineModel", fT10, 45, dd_176_37, rfl, okc_10, by decide, tw_901⟩,
   ⟨9, dd_176_40, rfl⟩,
   Or.inl ⟨0, rfl, dd_176_43, rfl⟩,
   ⟨175, "PairMachineModel", fT10, 45, dd_176_44, rfl, okc_10, by decide, tw_901⟩,
   Or.inl (Or.inl ⟨dd_176_47, rfl⟩),
   ⟨dd_176_48, rfl⟩,
   ⟨175, "PairMachineModel", fT10, 45, dd_176_49, rfl, okc_10, by decide, tw_901, rfl, Or.inl rfl⟩,
   ⟨dd_176_52, rfl⟩, trivial⟩
theorem okM_176 : mj_okE gG 176 (cM_176, 3, oM_176, hM_176) := ⟨rfl, rfl, by decide +kernel, trivial, okI_176⟩
theorem dd_177_0 : decode prog_13_method_24_code 0 = .ok (.aload_n 0, 1) := by decide +kernel
theorem dd_177_1 : decode prog_13_method_24_code 1 = .ok (.getfield 57, 3) := by decide +kernel
theorem dd_177_4 : decode prog_13_method_24_code 4 = .ok (.aload_n 0, 1) := by decide +kernel
theorem dd_177_5 : decode prog_13_method_24_code 5 = .ok (.getfield 178, 3) := by decide +kernel
theorem dd_177_8 : decode prog_13_method_24_code 8 = .ok (.iload_n 1, 1) := by decide +kernel
theorem dd_177_9 : decode prog_13_method_24_code 9 = .ok (.iastore, 1) := by decide +kernel
theorem dd_177_10 : decode prog_13_method_24_code 10 = .ok (.aload_n 0, 1) := by decide +kernel
theorem dd_177_11 : decode prog_13_method_24_code 11 = .ok (.getfield 60, 3) := by decide +kernel
theorem dd_177_14 : decode prog_13_method_24_code 14 = .ok (.aload_n 0, 1) := by decide +kernel
theorem dd_177_15 : decode prog_13_method_24_code 15 = .ok (.getfield 178, 3) := by decide +kernel
theorem dd_177_18 : decode prog_13_method_24_code 18 = .ok (.iload_n 2, 1) := by decide +kernel
theorem dd_177_19 : decode prog_13_method_24_code 19 = .ok (.iastore, 1) := by decide +kernel
theorem dd_177_20 : decode prog_13_method_24_code 20 = .ok (.aload_n 0, 1) := by decide +kernel
theorem dd_177_21 : decode prog_13_method_24_code 21 = .ok (.dup, 1) := by decide +kernel
theorem dd_177_22 : decode prog_13_method_24_code 22 = .ok (.getfield 178, 3) := by decide +kernel
theorem dd_177_25 : decode prog_13_method_24_code 25 = .ok (.iconst 1, 1) := by decide +kernel
theorem dd_177_26 : decode prog_13_method_24_code 26 = .ok (.iadd, 1) := by decide +kernel
theorem dd_177_27 : decode prog_13_method_24_code 27 = .ok (.putfield 178, 3) := by decide +kernel
theorem dd_177_30 : decode prog_13_method_24_code 30 = .ok (.return_, 1) := by decide +kernel
set_option maxRecDepth 100000 in
theorem okI_177 : mj_okI gG "PairMachineModel" prog_13_method_24_code 3 (mj_off oM_177) (Option.none : Option Jvm.ClassFile.FieldType) false true 0 cM_177 :=
  ⟨Or.inl ⟨0, rfl, dd_177_0, rfl⟩,
   ⟨57, "PairMachineModel", fT10, 45, dd_177_1, rfl, okc_10, by decide, tw_816⟩,
   Or.inl ⟨0, rfl, dd_177_4, rfl⟩,
   ⟨178, "PairMachineModel", fT10, 45, dd_177_5, rfl, okc_10, by decide, tw_902⟩,
   Or.inl ⟨1, rfl, dd_177_8, rfl⟩,
   ⟨dd_177_9, rfl⟩,
   Or.inl ⟨0, rfl, dd_177_10, rfl⟩,
   ⟨60, "PairMachineModel", fT10, 45, dd_177_11, rfl, okc_10, by decide, tw_817⟩,
   Or.inl ⟨0, rfl, dd_177_14, rfl⟩,
   ⟨178, "PairMachineModel", fT10, 45, dd_177_15, rfl, okc_10, by decide, tw_902⟩,
   Or.inl ⟨2, rfl, dd_177_18, rfl⟩,
   ⟨dd_177_19, rfl⟩,
   Or.inl ⟨0, rfl, dd_177_20, rfl⟩,
   ⟨dd_177_21, rfl⟩,
   ⟨178, "PairMachineModel", fT10, 45, dd_177_22, rfl, okc_10, by decide, tw_902⟩,
   Or.inl (Or.inl ⟨dd_177_25, rfl⟩),
   ⟨dd_177_26, rfl⟩,
   ⟨178, "PairMachineModel", fT10, 45, dd_177_27, rfl, okc_10, by decide, tw_902, rfl, Or.inl rfl⟩,
   ⟨dd_177_30, rfl⟩, trivial⟩
theorem okM_177 : mj_okE gG 177 (cM_177, 3, oM_177, hM_177) := ⟨rfl, rfl, by decide +kernel, trivial, okI_177⟩
theorem dd_178_0 : decode prog_13_method_25_code 0 = .ok (.aload_n 0, 1) := by decide +kernel
theorem dd_178_1 : decode prog_13_method_25_code 1 = .ok (.getfield 21, 3) := by decide +kernel
theorem dd_178_4 : decode prog_13_method_25_code 4 = .ok (.iload_n 1, 1) := by decide +kernel
theorem dd_178_5 : decode prog_13_method_25_code 5 = .ok (.iaload, 1) := by decide +kernel
theorem dd_178_6 : decode prog_13_method_25_code 6 = .ok (.iconst 1, 1) := by decide +kernel
theorem dd_178_7 : decode prog_13_method_25_code 7 = .ok (.iadd, 1) := by decide +kernel
theorem dd_178_8 : decode prog_13_method_25_code 8 = .ok (.istore_n 2, 1) := by decide +kernel
theorem dd_178_9 : decode prog_13_method_25_code 9 = .ok (.iload_n 2, 1) := by decide +kernel
theorem dd_178_10 : decode prog_13_method_25_code 10 = .ok (.aload_n 0, 1) := by decide +kernel
theorem dd_178_11 : decode prog_13_method_25_code 11 = .ok (.getfield 24, 3) := by decide +kernel
theorem dd_178_14 : decode prog_13_method_25_code 14 = .ok (.iload_n 1, 1) := by decide +kernel
theorem dd_178_15 : decode prog_13_method_25_code 15 = .ok (.iaload, 1) := by decide +kernel
theorem dd_178_16 : decode prog_13_method_25_code 16 = .ok (.if_icmp .ge 121, 3) := by decide +kernel
theorem dd_178_19 : decode prog_13_method_25_code 19 = .ok (.aload_n 0, 1) := by decide +kernel
theorem dd_178_20 : decode prog_13_method_25_code 20 = .ok (.getfield 7, 3) := by decide +kernel
theorem dd_178_23 : decode prog_13_method_25_code 23 = .ok (.iload_n 2, 1) := by decide +kernel
theorem dd_178_24 : decode prog_13_method_25_code 24 = .ok (.caload, 1) := by decide +kernel
theorem dd_178_25 : decode prog_13_method_25_code 25 = .ok (.istore_n 3, 1) := by decide +kernel
theorem dd_178_26 : decode prog_13_method_25_code 26 = .ok (.iload_n 3, 1) := by decide +kernel
theorem dd_178_27 : decode prog_13_method_25_code 27 = .ok (.bipush 40, 2) := by decide +kernel
theorem dd_178_29 : decode prog_13_method_25_code 29 = .ok (.if_icmp .ne 15, 3) := by decide +kernel
theorem dd_178_32 : decode prog_13_method_25_code 32 = .ok (.aload_n 0, 1) := by decide +kernel
theorem dd_178_33 : decode prog_13_method_25_code 33 = .ok (.iconst 4, 1) := by decide +kernel
theorem dd_178_34 : decode prog_13_method_25_code 34 = .ok (.iconst 0, 1) := by decide +kernel
theorem dd_178_35 : decode prog_13_method_25_code 35 = .ok (.invokevirtual 181, 3) := by decide +kernel
theorem dd_178_38 : decode prog_13_method_25_code 38 = .ok (.iinc 2 1, 3) := by decide +kernel
theorem dd_178_41 : decode prog_13_method_25_code 41 = .ok (.goto 93, 3) := by decide +kernel
theorem dd_178_44 : decode prog_13_method_25_code 44 = .ok (.iload_n 3, 1) := by decide +kernel
theorem dd_178_45 : decode prog_13_method_25_code 45 = .ok (.bipush 41, 2) := by decide +kernel
theorem dd_178_47 : decode prog_13_method_25_code 47 = .ok (.if_icmp .ne 15, 3) := by decide +kernel
theorem dd_178_50 : decode prog_13_method_25_code 50 = .ok (.aload_n 0, 1) := by decide +kernel
theorem dd_178_51 : decode prog_13_method_25_code 51 = .ok (.iconst 5, 1) := by decide +kernel
theorem dd_178_52 : decode prog_13_method_25_code 52 = .ok (.iconst 0, 1) := by decide +kernel
theorem dd_178_53 : decode prog_13_method_25_code 53 = .ok (.invokevirtual 181, 3) := by decide +kernel
theorem dd_178_56 : decode prog_13_method_25_code 56 = .ok (.iinc 2 1, 3) := by decide +kernel
theorem dd_178_59 : decode prog_13_method_25_code 59 = .ok (.goto 75, 3) := by decide +kernel
theorem dd_178_62 : decode prog_13_method_25_code 62 = .ok (.iload_n 3, 1) := by decide +kernel
theorem dd_178_63 : decode prog_13_method_25_code 63 = .ok (.invokestatic 129, 3) := by decide +kernel
theorem dd_178_66 : decode prog_13_method_25_code 66 = .ok (.ifCond .eq 15, 3) := by decide +kernel
theorem dd_178_69 : decode prog_13_method_25_code 69 = .ok (.aload_n 0, 1) := by decide +kernel
theorem dd_178_70 : decode prog_13_method_25_code 70 = .ok (.iconst 2, 1) := by decide +kernel
theorem dd_178_71 : decode prog_13_method_25_code 71 = .ok (.iload_n 3, 1) := by decide +kernel
theorem dd_178_72 : decode prog_13_method_25_code 72 = .ok (.invokevirtual 181, 3) := by decide +kernel
theorem dd_178_75 : decode prog_13_method_25_code 75 = .ok (.iinc 2 1, 3) := by decide +kernel
theorem dd_178_78 : decode prog_13_method_25_code 78 = .ok (.goto 56, 3) := by decide +kernel
theorem dd_178_81 : decode prog_13_method_25_code 81 = .ok (.iload_n 3, 1) := by decide +kernel
theorem dd_178_82 : decode prog_13_method_25_code 82 = .ok (.bipush 32, 2) := by decide +kernel
theorem dd_178_84 : decode prog_13_method_25_code 84 = .ok (.if_icmp .ne 9, 3) := by decide +kernel
theorem dd_178_87 : decode prog_13_method_25_code 87 = .ok (.iinc 2 1, 3) := by decide +kernel
theorem dd_178_90 : decode prog_13_method_25_code 90 = .ok (.goto 44, 3) := by decide +kernel
theorem dd_178_93 : decode prog_13_method_25_code 93 = .ok (.aload_n 0, 1) := by decide +kernel
theorem dd_178_94 : decode prog_13_method_25_code 94 = .ok (.iconst 1, 1) := by decide +kernel
theorem dd_178_95 : decode prog_13_method_25_code 95 = .ok (.aload_n 0, 1) := by decide +kernel
theorem dd_178_96 : decode prog_13_method_25_code 96 = .ok (.iload_n 2, 1) := by decide +kernel
theorem dd_178_97 : decode prog_13_method_25_code 97 = .ok (.invokevirtual 145, 3) := by decide +kernel
theorem dd_178_100 : decode prog_13_method_25_code 100 = .ok (.invokevirtual 181, 3) := by decide +kernel
theorem dd_178_103 : decode prog_13_method_25_code 103 = .ok (.iinc 2 1, 3) := by decide +kernel
theorem dd_178_106 : decode prog_13_method_25_code 106 = .ok (.iload_n 2, 1) := by decide +kernel
theorem dd_178_107 : decode prog_13_method_25_code 107 = .ok (.aload_n 0, 1) := by decide +kernel
theorem dd_178_108 : decode prog_13_method_25_code 108 = .ok (.getfield 24, 3) := by decide +kernel
theorem dd_178_111 : decode prog_13_method_25_code 111 = .ok (.iload_n 1, 1) := by decide +kernel
theorem dd_178_112 : decode prog_13_method_25_code 112 = .ok (.iaload, 1) := by decide +kernel
theorem dd_178_113 : decode prog_13_method_25_code 113 = .ok (.if_icmp .ge 21, 3) := by decide +kernel
theorem dd_178_116 : decode prog_13_method_25_code 116 = .ok (.aload_n 0, 1) := by decide +kernel
theorem dd_178_117 : decode prog_13_method_25_code 117 = .ok (.getfield 7, 3) := by decide +kernel
theorem dd_178_120 : decode prog_13_method_25_code 120 = .ok (.iload_n 2, 1) := by decide +kernel
theorem dd_178_121 : decode prog_13_method_25_code 121 = .ok (.caload, 1) := by decide +kernel
theorem dd_178_122 : decode prog_13_method_25_code 122 = .ok (.invokestatic 122, 3) := by decide +kernel
theorem dd_178_125 : decode prog_13_method_25_code 125 = .ok (.ifCond .eq 9, 3) := by decide +kernel
theorem dd_178_128 : decode prog_13_method_25_code 128 = .ok (.iinc 2 1, 3) := by decide +kernel
theorem dd_178_131 : decode prog_13_method_25_code 131 = .ok (.goto (-25), 3) := by decide +kernel
theorem dd_178_134 : decode prog_13_method_25_code 134 = .ok (.goto (-125), 3) := by decide +kernel
theorem dd_178_137 : decode prog_13_method_25_code 137 = .ok (.return_, 1) := by decide +kernel
set_option maxRecDepth 100000 in
theorem okI_178 : mj_okI gG "PairMachineModel" prog_13_method_25_code 4 (mj_off oM_178) (Option.none : Option Jvm.ClassFile.FieldType) false true 0 cM_178 :=
  ⟨Or.inl ⟨0, rfl, dd_178_0, rfl⟩,
   ⟨21, "PairMachineModel", fT10, 45, dd_178_1, rfl, okc_10, by decide, tw_804⟩,
   Or.inl ⟨1, rfl, dd_178_4, rfl⟩,
   ⟨dd_178_5, rfl⟩,
   Or.inl (Or.inl ⟨dd_178_6, rfl⟩),
   ⟨dd_178_7, rfl⟩,
   ⟨by decide, Or.inl ⟨2, rfl, dd_178_8, rfl⟩⟩,
   Or.inl ⟨2, rfl, dd_178_9, rfl⟩,
   Or.inl ⟨0, rfl, dd_178_10, rfl⟩,
   ⟨24, "PairMachineModel", fT10, 45, dd_178_11, rfl, okc_10, by decide, tw_805⟩,
   Or.inl ⟨1, rfl, dd_178_14, rfl⟩,
   ⟨dd_178_15, rfl⟩,
   ⟨121, dd_178_16, rfl, rfl⟩,
   Or.inl ⟨0, rfl, dd_178_19, rfl⟩,
   ⟨7, "PairMachineModel", fT10, 45, dd_178_20, rfl, okc_10, by decide, tw_801⟩,
   Or.inl ⟨2, rfl, dd_178_23, rfl⟩,
   ⟨dd_178_24, rfl⟩,
   ⟨by decide, Or.inl ⟨3, rfl, dd_178_25, rfl⟩⟩,
   Or.inl ⟨3, rfl, dd_178_26, rfl⟩,
   Or.inl (Or.inr (Or.inl ⟨dd_178_27, rfl, by decide⟩)),
   ⟨15, dd_178_29, rfl, rfl⟩,
   Or.inl ⟨0, rfl, dd_178_32, rfl⟩,
   Or.inl (Or.inl ⟨dd_178_33, rfl⟩),
   Or.inl (Or.inl ⟨dd_178_34, rfl⟩),
   ⟨rfl, tw_903, by decide, tw_12, by decide +kernel, 181, tw_904, dd_178_35, tw_905, ⟨"PairMachineModel", fT10, 45, rfl, tw_906⟩, by decide +kernel⟩,
   ⟨by decide, dd_178_38, rfl⟩,
   ⟨93, dd_178_41, rfl⟩,
   Or.inl ⟨3, rfl, dd_178_44, rfl⟩,
   Or.inl (Or.inr (Or.inl ⟨dd_178_45, rfl, by decide⟩)),
   ⟨15, dd_178_47, rfl, rfl⟩,
   Or.inl ⟨0, rfl, dd_178_50, rfl⟩,
   Or.inl (Or.inl ⟨dd_178_51, rfl⟩),
   Or.inl (Or.inl ⟨dd_178_52, rfl⟩),
   ⟨rfl, tw_903, by decide, tw_12, by decide +kernel, 181, tw_904, dd_178_53, tw_905, ⟨"PairMachineModel", fT10, 45, rfl, tw_906⟩, by decide +kernel⟩,
   ⟨by decide, dd_178_56, rfl⟩,
   ⟨75, dd_178_59, rfl⟩,
   Or.inl ⟨3, rfl, dd_178_62, rfl⟩,
   ⟨rfl, tw_850, by decide, tw_12, by decide +kernel, 129, tw_851, dd_178_63, tw_852, by decide +kernel⟩,
   ⟨15, dd_178_66, rfl, rfl⟩,
   Or.inl ⟨0, rfl, dd_178_69, rfl⟩,
   Or.inl (Or.inl ⟨dd_178_70, rfl⟩),
   Or.inl ⟨3, rfl, dd_178_71, rfl⟩,
   ⟨rfl, tw_903, by decide, tw_12, by decide +kernel, 181, tw_904, dd_178_72, tw_905, ⟨"PairMachineModel", fT10, 45, rfl, tw_906⟩, by decide +kernel⟩,
   ⟨by decide, dd_178_75, rfl⟩,
   ⟨56, dd_178_78, rfl⟩,
   Or.inl ⟨3, rfl, dd_178_81, rfl⟩,
   Or.inl (Or.inr (Or.inl ⟨dd_178_82, rfl, by decide⟩)),
   ⟨9, dd_178_84, rfl, rfl⟩,
   ⟨by decide, dd_178_87, rfl⟩,
   ⟨44, dd_178_90, rfl⟩,
   Or.inl ⟨0, rfl, dd_178_93, rfl⟩,
   Or.inl (Or.inl ⟨dd_178_94, rfl⟩),
   Or.inl ⟨0, rfl, dd_178_95, rfl⟩,
   Or.inl ⟨2, rfl, dd_178_96, rfl⟩,
   ⟨rfl, tw_869, by decide, tw_12, by decide +kernel, 145, tw_870, dd_178_97, tw_871, ⟨"PairMachineModel", fT10, 45, rfl, tw_872⟩, by decide +kernel⟩,
   ⟨rfl, tw_903, by decide, tw_12, by decide +kernel, 181, tw_904, dd_178_100, tw_905, ⟨"PairMachineModel", fT10, 45, rfl, tw_906⟩, by decide +kernel⟩,
   ⟨by decide, dd_178_103, rfl⟩,
   Or.inl ⟨2, rfl, dd_178_106, rfl⟩,
   Or.inl ⟨0, rfl, dd_178_107, rfl⟩,
   ⟨24, "PairMachineModel", fT10, 45, dd_178_108, rfl, okc_10, by decide, tw_805⟩,
   Or.inl ⟨1, rfl, dd_178_111, rfl⟩,
   ⟨dd_178_112, rfl⟩,
   ⟨21, dd_178_113, rfl, rfl⟩,
   Or.inl ⟨0, rfl, dd_178_116, rfl⟩,
   ⟨7, "PairMachineModel", fT10, 45, dd_178_117, rfl, okc_10, by decide, tw_801⟩,
   Or.inl ⟨2, rfl, dd_178_120, rfl⟩,
   ⟨dd_178_121, rfl⟩,
   ⟨rfl, tw_843, by decide, tw_12, by decide +kernel, 122, tw_844, dd_178_122, tw_845, by decide +kernel⟩,
   ⟨9, dd_178_125, rfl, rfl⟩,
   ⟨by decide, dd_178_128, rfl⟩,
   ⟨(-25), dd_178_131, rfl⟩,
   ⟨(-125), dd_178_134, rfl⟩,
   ⟨dd_178_137, rfl⟩, trivial⟩
theorem okM_178 : mj_okE gG 178 (cM_178, 4, oM_178, hM_178) := ⟨rfl, rfl, by decide +kernel, trivial, okI_178⟩
theorem dd_179_0 : decode prog_13_method_26_code 0 = .ok (.iload_n 0, 1) := by decide +kernel
theorem dd_179_1 : decode prog_13_method_26_code 1 = .ok (.lookupswitch 99 #[(33, 81), (42, 96), (43, 90), (45, 93), (46, 84), (61, 87), (94, 75), (95, 78)], 75) := by decide +kernel
theorem dd_179_76 : decode prog_13_method_26_code 76 = .ok (.bipush 10, 2) := by decide +kernel
theorem dd_179_78 : decode prog_13_method_26_code 78 = .ok (.ireturn, 1) := by decide +kernel
theorem dd_179_79 : decode prog_13_method_26_code 79 = .ok (.bipush 11, 2) := by decide +kernel
theorem dd_179_81 : decode prog_13_method_26_code 81 = .ok (.ireturn, 1) := by decide +kernel
theorem dd_179_82 : decode prog_13_method_26_code 82 = .ok (.bipush 12, 2) := by decide +kernel
theorem dd_179_84 : decode prog_13_method_26_code 84 = .ok (.ireturn, 1) := by decide +kernel
theorem dd_179_85 : decode prog_13_method_26_code 85 = .ok (.bipush 13, 2) := by decide +kernel
theorem dd_179_87 : decode prog_13_method_26_code 87 = .ok (.ireturn, 1) := by decide +kernel
theorem dd_179_88 : decode prog_13_method_26_code 88 = .ok (.bipush 14, 2) := by decide +kernel
theorem dd_179_90 : decode prog_13_method_26_code 90 = .ok (.ireturn, 1) := by decide +kernel
theorem dd_179_91 : decode prog_13_method_26_code 91 = .ok (.bipush 15, 2) := by decide +kernel
theorem dd_179_93 : decode prog_13_method_26_code 93 = .ok (.ireturn, 1) := by decide +kernel
theorem dd_179_94 : decode prog_13_method_26_code 94 = .ok (.bipush 16, 2) := by decide +kernel
theorem dd_179_96 : decode prog_13_method_26_code 96 = .ok (.ireturn, 1) := by decide +kernel
theorem dd_179_97 : decode prog_13_method_26_code 97 = .ok (.bipush 17, 2) := by decide +kernel
theorem dd_179_99 : decode prog_13_method_26_code 99 = .ok (.ireturn, 1) := by decide +kernel
theorem dd_179_100 : decode prog_13_method_26_code 100 = .ok (.bipush 18, 2) := by decide +kernel
theorem dd_179_102 : decode prog_13_method_26_code 102 = .ok (.ireturn, 1) := by decide +kernel
set_option maxRecDepth 100000 in
theorem okI_179 : mj_okI gG "PairMachineModel" prog_13_method_26_code 1 (mj_off oM_179) (Option.some Jvm.ClassFile.FieldType.int) false true 0 cM_179 :=
  ⟨Or.inl ⟨0, rfl, dd_179_0, rfl⟩,
   Or.inl ⟨99, #[(33, 81), (42, 96), (43, 90), (45, 93), (46, 84), (61, 87), (94, 75), (95, 78)], 75, dd_179_1, by decide, rfl, rfl, by decide +kernel⟩,
   Or.inl (Or.inr (Or.inl ⟨dd_179_76, rfl, by decide⟩)),
   ⟨dd_179_78, rfl⟩,
   Or.inl (Or.inr (Or.inl ⟨dd_179_79, rfl, by decide⟩)),
   ⟨dd_179_81, rfl⟩,
   Or.inl (Or.inr (Or.inl ⟨dd_179_82, rfl, by decide⟩)),
   ⟨dd_179_84, rfl⟩,
   Or.inl (Or.inr (Or.inl ⟨dd_179_85, rfl, by decide⟩)),
   ⟨dd_179_87, rfl⟩,
   Or.inl (Or.inr (Or.inl ⟨dd_179_88, rfl, by decide⟩)),
   ⟨dd_179_90, rfl⟩,
   Or.inl (Or.inr (Or.inl ⟨dd_179_91, rfl, by decide⟩)),
   ⟨dd_179_93, rfl⟩,
   Or.inl (Or.inr (Or.inl ⟨dd_179_94, rfl, by decide⟩)),
   ⟨dd_179_96, rfl⟩,
   Or.inl (Or.inr (Or.inl ⟨dd_179_97, rfl, by decide⟩)),
   ⟨dd_179_99, rfl⟩,
   Or.inl (Or.inr (Or.inl ⟨dd_179_100, rfl, by decide⟩)),
   ⟨dd_179_102, rfl⟩, trivial⟩
theorem okM_179 : mj_okE gG 179 (cM_179, 1, oM_179, hM_179) := ⟨rfl, rfl, by decide +kernel, trivial, okI_179⟩
theorem dd_180_0 : decode prog_13_method_27_code 0 = .ok (.aload_n 0, 1) := by decide +kernel
theorem dd_180_1 : decode prog_13_method_27_code 1 = .ok (.iconst 5, 1) := by decide +kernel
theorem dd_180_2 : decode prog_13_method_27_code 2 = .ok (.iconst 0, 1) := by decide +kernel
theorem dd_180_3 : decode prog_13_method_27_code 3 = .ok (.invokevirtual 185, 3) := by decide +kernel
theorem dd_180_6 : decode prog_13_method_27_code 6 = .ok (.aload_n 0, 1) := by decide +kernel
theorem dd_180_7 : decode prog_13_method_27_code 7 = .ok (.iconst 1, 1) := by decide +kernel
theorem dd_180_8 : decode prog_13_method_27_code 8 = .ok (.iload_n 2, 1) := by decide +kernel
theorem dd_180_9 : decode prog_13_method_27_code 9 = .ok (.invokevirtual 185, 3) := by decide +kernel
theorem dd_180_12 : decode prog_13_method_27_code 12 = .ok (.aload_n 0, 1) := by decide +kernel
theorem dd_180_13 : decode prog_13_method_27_code 13 = .ok (.iconst (-1), 1) := by decide +kernel
theorem dd_180_14 : decode prog_13_method_27_code 14 = .ok (.iload_n 1, 1) := by decide +kernel
theorem dd_180_15 : decode prog_13_method_27_code 15 = .ok (.invokevirtual 185, 3) := by decide +kernel
theorem dd_180_18 : decode prog_13_method_27_code 18 = .ok (.aload_n 0, 1) := by decide +kernel
theorem dd_180_19 : decode prog_13_method_27_code 19 = .ok (.iconst 4, 1) := by decide +kernel
theorem dd_180_20 : decode prog_13_method_27_code 20 = .ok (.iconst 0, 1) := by decide +kernel
theorem dd_180_21 : decode prog_13_method_27_code 21 = .ok (.invokevirtual 185, 3) := by decide +kernel
theorem dd_180_24 : decode prog_13_method_27_code 24 = .ok (.return_, 1) := by decide +kernel
set_option maxRecDepth 100000 in
theorem okI_180 : mj_okI gG "PairMachineModel" prog_13_method_27_code 3 (mj_off oM_180) (Option.none : Option Jvm.ClassFile.FieldType) false true 0 cM_180 :=
  ⟨Or.inl ⟨0, rfl, dd_180_0, rfl⟩,
   Or.inl (Or.inl ⟨dd_180_1, rfl⟩),
   Or.inl (Or.inl ⟨dd_180_2, rfl⟩),
   ⟨rfl, tw_907, by decide, tw_12, by decide +kernel, 185, tw_908, dd_180_3, tw_909, ⟨"PairMachineModel", fT10, 45, rfl, tw_910⟩, by decide +kernel⟩,
   Or.inl ⟨0, rfl, dd_180_6, rfl⟩,
   Or.inl (Or.inl ⟨dd_180_7, rfl⟩),
   Or.inl ⟨2, rfl, dd_180_8, rfl⟩,
   ⟨rfl, tw_907, by decide, tw_12, by decide +kernel, 185, tw_908, dd_180_9, tw_909, ⟨"PairMachineModel", fT10, 45, rfl, tw_910⟩, by decide +kernel⟩,
   Or.inl ⟨0, rfl, dd_180_12, rfl⟩,
   Or.inl (Or.inl ⟨dd_180_13, rfl⟩),
   Or.inl ⟨1, rfl, dd_180_14, rfl⟩,
   ⟨rfl, tw_907, by decide, tw_12, by decide +kernel, 185, tw_908, dd_180_15, tw_909, ⟨"PairMachineModel", fT10, 45, rfl, tw_910⟩, by decide +kernel⟩,
   Or.inl ⟨0, rfl, dd_180_18, rfl⟩,
   Or.inl (Or.inl ⟨dd_180_19, rfl⟩),
   Or.inl (Or.inl ⟨dd_180_20, rfl⟩),
   ⟨rfl, tw_907, by decide, tw_12, by decide +kernel, 185, tw_908, dd_180_21, tw_909, ⟨"PairMachineModel", fT10, 45, rfl, tw_910⟩, by decide +kernel⟩,
   ⟨dd_180_24, rfl⟩, trivial⟩
theorem okM_180 : mj_okE gG 180 (cM_180, 3, oM_180, hM_180) := ⟨rfl, rfl, by decide +kernel, trivial, okI_180⟩
theorem dd_181_0 : decode prog_13_method_28_code 0 = .ok (.iload_n 1, 1) := by decide +kernel
theorem dd_181_1 : decode prog_13_method_28_code 1 = .ok (.istore_n 2, 1) := by decide +kernel
theorem dd_181_2 : decode prog_13_method_28_code 2 = .ok (.iload_n 2, 1) := by decide +kernel
theorem dd_181_3 : decode prog_13_method_28_code 3 = .ok (.ifCond .lt 26, 3) := by decide +kernel
theorem dd_181_6 : decode prog_13_method_28_code 6 = .ok (.aload_n 0, 1) := by decide +kernel
theorem dd_181_7 : decode prog_13_method_28_code 7 = .ok (.iconst 1, 1) := by decide +kernel
theorem dd_181_8 : decode prog_13_method_28_code 8 = .ok (.bipush 13, 2) := by decide +kernel
theorem dd_181_10 : decode prog_13_method_28_code 10 = .ok (.invokevirtual 185, 3) := by decide +kernel
theorem dd_181_13 : decode prog_13_method_28_code 13 = .ok (.aload_n 0, 1) := by decide +kernel
theorem dd_181_14 : decode prog_13_method_28_code 14 = .ok (.iconst (-1), 1) := by decide +kernel
theorem dd_181_15 : decode prog_13_method_28_code 15 = .ok (.iload_n 2, 1) := by decide +kernel
theorem dd_181_16 : decode prog_13_method_28_code 16 = .ok (.invokevirtual 185, 3) := by decide +kernel
theorem dd_181_19 : decode prog_13_method_28_code 19 = .ok (.aload_n 0, 1) := by decide +kernel
theorem dd_181_20 : decode prog_13_method_28_code 20 = .ok (.getfield 39, 3) := by decide +kernel
theorem dd_181_23 : decode prog_13_method_28_code 23 = .ok (.iload_n 2, 1) := by decide +kernel
theorem dd_181_24 : decode prog_13_method_28_code 24 = .ok (.iaload, 1) := by decide +kernel
theorem dd_181_25 : decode prog_13_method_28_code 25 = .ok (.istore_n 2, 1) := by decide +kernel
theorem dd_181_26 : decode prog_13_method_28_code 26 = .ok (.goto (-24), 3) := by decide +kernel
theorem dd_181_29 : decode prog_13_method_28_code 29 = .ok (.aload_n 0, 1) := by decide +kernel
theorem dd_181_30 : decode prog_13_method_28_code 30 = .ok (.iconst 0, 1) := by decide +kernel
theorem dd_181_31 : decode prog_13_method_28_code 31 = .ok (.iconst 0, 1) := by decide +kernel
theorem dd_181_32 : decode prog_13_method_28_code 32 = .ok (.invokevirtual 185, 3) := by decide +kernel
theorem dd_181_35 : decode prog_13_method_28_code 35 = .ok (.aload_n 0, 1) := by decide +kernel
theorem dd_181_36 : decode prog_13_method_28_code 36 = .ok (.iconst 1, 1) := by decide +kernel
theorem dd_181_37 : decode prog_13_method_28_code 37 = .ok (.iconst 1, 1) := by decide +kernel
theorem dd_181_38 : decode prog_13_method_28_code 38 = .ok (.invokevirtual 185, 3) := by decide +kernel
theorem dd_181_41 : decode prog_13_method_28_code 41 = .ok (.return_, 1) := by decide +kernel
set_option maxRecDepth 100000 in
theorem okI_181 : mj_okI gG "PairMachineModel" prog_13_method_28_code 3 (mj_off oM_181) (Option.none : Option Jvm.ClassFile.FieldType) false true 0 cM_181 :=
  ⟨Or.inl ⟨1, rfl, dd_181_0, rfl⟩,
   ⟨by decide, Or.inl ⟨2, rfl, dd_181_1, rfl⟩⟩,
   Or.inl ⟨2, rfl, dd_181_2, rfl⟩,
   ⟨26, dd_181_3, rfl, rfl⟩,
   Or.inl ⟨0, rfl, dd_181_6, rfl⟩,
   Or.inl (Or.inl ⟨dd_181_7, rfl⟩),
   Or.inl (Or.inr (Or.inl ⟨dd_181_8, rfl, by decide⟩)),
   ⟨rfl, tw_907, by decide, tw_12, by decide +kernel, 185, tw_908, dd_181_10, tw_909, ⟨"PairMachineModel", fT10, 45, rfl, tw_910⟩, by decide +kernel⟩,
   Or.inl ⟨0, rfl, dd_181_13, rfl⟩,
   Or.inl (Or.inl ⟨dd_181_14, rfl⟩),
   Or.inl ⟨2, rfl, dd_181_15, rfl⟩,
   ⟨rfl, tw_907, by decide, tw_12, by decide +kernel, 185, tw_908, dd_181_16, tw_909, ⟨"PairMachineModel", fT10, 45, rfl, tw_910⟩, by decide +kernel⟩,
   Or.inl ⟨0, rfl, dd_181_19, rfl⟩,
   ⟨39, "PairMachineModel", fT10, 45, dd_181_20, rfl, okc_10, by decide, tw_810⟩,
   Or.inl ⟨2, rfl, dd_181_23, rfl⟩,
   ⟨dd_181_24, rfl⟩,
   ⟨by decide, Or.inl ⟨2, rfl, dd_181_25, rfl⟩⟩,
   ⟨(-24), dd_181_26, rfl⟩,
   Or.inl ⟨0, rfl, dd_181_29, rfl⟩,
   Or.inl (Or.inl ⟨dd_181_30, rfl⟩),
   Or.inl (Or.inl ⟨dd_181_31, rfl⟩),
   ⟨rfl, tw_907, by decide, tw_12, by decide +kernel, 185, tw_908, dd_181_32, tw_909, ⟨"PairMachineModel", fT10, 45, rfl, tw_910⟩, by decide +kernel⟩,
   Or.inl ⟨0, rfl, dd_181_35, rfl⟩,
   Or.inl (Or.inl ⟨dd_181_36, rfl⟩),
   Or.inl (Or.inl ⟨dd_181_37, rfl⟩),
   ⟨rfl, tw_907, by decide, tw_12, by decide +kernel, 185, tw_908, dd_181_38, tw_909, ⟨"PairMachineModel", fT10, 45, rfl, tw_910⟩, by decide +kernel⟩,
   ⟨dd_181_41, rfl⟩, trivial⟩
theorem okM_181 : mj_okE gG 181 (cM_181, 3, oM_181, hM_181) := ⟨rfl, rfl, by decide +kernel, trivial, okI_181⟩
theorem dd_182_0 : decode prog_13_method_29_code 0 = .ok (.aload_n 0, 1) := by decide +kernel
theorem dd_182_1 : decode prog_13_method_29_code 1 = .ok (.getfield 33, 3) := by decide +kernel
theorem dd_182_4 : decode prog_13_method_29_code 4 = .ok (.iload_n 1, 1) := by decide +kernel
theorem dd_182_5 : decode prog_13_method_29_code 5 = .ok (.iaload, 1) := by decide +kernel
theorem dd_182_6 : decode prog_13_method_29_code 6 = .ok (.istore_n 2, 1) := by decide +kernel
theorem dd_182_7 : decode prog_13_method_29_code 7 = .ok (.aload_n 0, 1) := by decide +kernel
theorem dd_182_8 : decode prog_13_method_29_code 8 = .ok (.getfield 17, 3) := by decide +kernel
theorem dd_182_11 : decode prog_13_method_29_code 11 = .ok (.iload_n 1, 1) := by decide +kernel
theorem dd_182_12 : decode prog_13_method_29_code 12 = .ok (.iaload, 1) := by decide +kernel
theorem dd_182_13 : decode prog_13_method_29_code 13 = .ok (.tableswitch 205 0 7 #[47, 67, 86, 205, 100, 125, 140, 140], 47) := by decide +kernel
theorem dd_182_60 : decode prog_13_method_29_code 60 = .ok (.aload_n 0, 1) := by decide +kernel
theorem dd_182_61 : decode prog_13_method_29_code 61 = .ok (.iconst 1, 1) := by decide +kernel
theorem dd_182_62 : decode prog_13_method_29_code 62 = .ok (.iconst 1, 1) := by decide +kernel
theorem dd_182_63 : decode prog_13_method_29_code 63 = .ok (.invokevirtual 181, 3) := by decide +kernel
theorem dd_182_66 : decode prog_13_method_29_code 66 = .ok (.aload_n 0, 1) := by decide +kernel
theorem dd_182_67 : decode prog_13_method_29_code 67 = .ok (.iconst 1, 1) := by decide +kernel
theorem dd_182_68 : decode prog_13_method_29_code 68 = .ok (.aload_n 0, 1) := by decide +kernel
theorem dd_182_69 : decode prog_13_method_29_code 69 = .ok (.getfield 27, 3) := by decide +kernel
theorem dd_182_72 : decode prog_13_method_29_code 72 = .ok (.iload_n 1, 1) := by decide +kernel
theorem dd_182_73 : decode prog_13_method_29_code 73 = .ok (.iaload, 1) := by decide +kernel
theorem dd_182_74 : decode prog_13_method_29_code 74 = .ok (.invokevirtual 181, 3) := by decide +kernel
theorem dd_182_77 : decode prog_13_method_29_code 77 = .ok (.goto 147, 3) := by decide +kernel
theorem dd_182_80 : decode prog_13_method_29_code 80 = .ok (.aload_n 0, 1) := by decide +kernel
theorem dd_182_81 : decode prog_13_method_29_code 81 = .ok (.iconst 1, 1) := by decide +kernel
theorem dd_182_82 : decode prog_13_method_29_code 82 = .ok (.iconst 2, 1) := by decide +kernel
theorem dd_182_83 : decode prog_13_method_29_code 83 = .ok (.invokevirtual 181, 3) := by decide +kernel
theorem dd_182_86 : decode prog_13_method_29_code 86 = .ok (.aload_n 0, 1) := by decide +kernel
theorem dd_182_87 : decode prog_13_method_29_code 87 = .ok (.iconst 1, 1) := by decide +kernel
theorem dd_182_88 : decode prog_13_method_29_code 88 = .ok (.aload_n 0, 1) := by decide +kernel
theorem dd_182_89 : decode prog_13_method_29_code 89 = .ok (.iload_n 1, 1) := by decide +kernel
theorem dd_182_90 : decode prog_13_method_29_code 90 = .ok (.invokevirtual 169, 3) := by decide +kernel
theorem dd_182_93 : decode prog_13_method_29_code 93 = .ok (.invokevirtual 181, 3) := by decide +kernel
theorem dd_182_96 : decode prog_13_method_29_code 96 = .ok (.goto 128, 3) := by decide +kernel
theorem dd_182_99 : decode prog_13_method_29_code 99 = .ok (.aload_n 0, 1) := by decide +kernel
theorem dd_182_100 : decode prog_13_method_29_code 100 = .ok (.iconst 1, 1) := by decide +kernel
theorem dd_182_101 : decode prog_13_method_29_code 101 = .ok (.iconst 1, 1) := by decide +kernel
theorem dd_182_102 : decode prog_13_method_29_code 102 = .ok (.invokevirtual 181, 3) := by decide +kernel
theorem dd_182_105 : decode prog_13_method_29_code 105 = .ok (.aload_n 0, 1) := by decide +kernel
theorem dd_182_106 : decode prog_13_method_29_code 106 = .ok (.iload_n 1, 1) := by decide +kernel
theorem dd_182_107 : decode prog_13_method_29_code 107 = .ok (.invokevirtual 188, 3) := by decide +kernel
theorem dd_182_110 : decode prog_13_method_29_code 110 = .ok (.goto 114, 3) := by decide +kernel
theorem dd_182_113 : decode prog_13_method_29_code 113 = .ok (.aload_n 0, 1) := by decide +kernel
theorem dd_182_114 : decode prog_13_method_29_code 114 = .ok (.iconst 1, 1) := by decide +kernel
theorem dd_182_115 : decode prog_13_method_29_code 115 = .ok (.iconst 4, 1) := by decide +kernel
theorem dd_182_116 : decode prog_13_method_29_code 116 = .ok (.invokevirtual 185, 3) := by decide +kernel
theorem dd_182_119 : decode prog_13_method_29_code 119 = .ok (.aload_n 0, 1) := by decide +kernel
theorem dd_182_120 : decode prog_13_method_29_code 120 = .ok (.iconst (-1), 1) := by decide +kernel
theorem dd_182_121 : decode prog_13_method_29_code 121 = .ok (.iload_n 2, 1) := by decide +kernel
theorem dd_182_122 : decode prog_13_method_29_code 122 = .ok (.invokevirtual 185, 3) := by decide +kernel
theorem dd_182_125 : decode prog_13_method_29_code 125 = .ok (.aload_n 0, 1) := by decide +kernel
theorem dd_182_126 : decode prog_13_method_29_code 126 = .ok (.aload_n 0, 1) := by decide +kernel
theorem dd_182_127 : decode prog_13_method_29_code 127 = .ok (.getfield 39, 3) := by decide +kernel
theorem dd_182_130 : decode prog_13_method_29_code 130 = .ok (.iload_n 2, 1) := by decide +kernel
theorem dd_182_131 : decode prog_13_method_29_code 131 = .ok (.iaload, 1) := by decide +kernel
theorem dd_182_132 : decode prog_13_method_29_code 132 = .ok (.invokevirtual 192, 3) := by decide +kernel
theorem dd_182_135 : decode prog_13_method_29_code 135 = .ok (.goto 89, 3) := by decide +kernel
theorem dd_182_138 : decode prog_13_method_29_code 138 = .ok (.aload_n 0, 1) := by decide +kernel
theorem dd_182_139 : decode prog_13_method_29_code 139 = .ok (.iload_n 2, 1) := by decide +kernel
theorem dd_182_140 : decode prog_13_method_29_code 140 = .ok (.iconst 5, 1) := by decide +kernel
theorem dd_182_141 : decode prog_13_method_29_code 141 = .ok (.invokevirtual 195, 3) := by decide +kernel
theorem dd_182_144 : decode prog_13_method_29_code 144 = .ok (.aload_n 0, 1) := by decide +kernel
theorem dd_182_145 : decode prog_13_method_29_code 145 = .ok (.iconst 1, 1) := by decide +kernel
theorem dd_182_146 : decode prog_13_method_29_code 146 = .ok (.iconst 3, 1) := by decide +kernel
theorem dd_182_147 : decode prog_13_method_29_code 147 = .ok (.invokevirtual 185, 3) := by decide +kernel
theorem dd_182_150 : decode prog_13_method_29_code 150 = .ok (.goto 74, 3) := by decide +kernel
theorem dd_182_153 : decode prog_13_method_29_code 153 = .ok (.aload_n 0, 1) := by decide +kernel
theorem dd_182_154 : decode prog_13_method_29_code 154 = .ok (.iconst 1, 1) := by decide +kernel
theorem dd_182_155 : decode prog_13_method_29_code 155 = .ok (.aload_n 0, 1) := by decide +kernel
theorem dd_182_156 : decode prog_13_method_29_code 156 = .ok (.getfield 17, 3) := by decide +kernel
theorem dd_182_159 : decode prog_13_method_29_code 159 = .ok (.iload_n 1, 1) := by decide +kernel
theorem dd_182_160 : decode prog_13_method_29_code 160 = .ok (.iaload, 1) := by decide +kernel
theorem dd_182_161 : decode prog_13_method_29_code 161 = .ok (.bipush 6, 2) := by decide +kernel
theorem dd_182_163 : decode prog_13_method_29_code 163 = .ok (.if_icmp .ne 7, 3) := by decide +kernel
theorem dd_182_166 : decode prog_13_method_29_code 166 = .ok (.iconst 4, 1) := by decide +kernel
theorem dd_182_167 : decode prog_13_method_29_code 167 = .ok (.goto 5, 3) := by decide +kernel
theorem dd_182_170 : decode prog_13_method_29_code 170 = .ok (.bipush 7, 2) := by decide +kernel
theorem dd_182_172 : decode prog_13_method_29_code 172 = .ok (.invokevirtual 185, 3) := by decide +kernel
theorem dd_182_175 : decode prog_13_method_29_code 175 = .ok (.aload_n 0, 1) := by decide +kernel
theorem dd_182_176 : decode prog_13_method_29_code 176 = .ok (.iload_n 2, 1) := by decide +kernel
theorem dd_182_177 : decode prog_13_method_29_code 177 = .ok (.iconst 5, 1) := by decide +kernel
theorem dd_182_178 : decode prog_13_method_29_code 178 = .ok (.invokevirtual 195, 3) := by decide +kernel
theorem dd_182_181 : decode prog_13_method_29_code 181 = .ok (.aload_n 0, 1) := by decide +kernel
theorem dd_182_182 : decode prog_13_method_29_code 182 = .ok (.iconst 1, 1) := by decide +kernel
theorem dd_182_183 : decode prog_13_method_29_code 183 = .ok (.iconst 3, 1) := by decide +kernel
theorem dd_182_184 : decode prog_13_method_29_code 184 = .ok (.invokevirtual 185, 3) := by decide +kernel
theorem dd_182_187 : decode prog_13_method_29_code 187 = .ok (.aload_n 0, 1) := by decide +kernel
theorem dd_182_188 : decode prog_13_method_29_code 188 = .ok (.aload_n 0, 1) := by decide +kernel
theorem dd_182_189 : decode prog_13_method_29_code 189 = .ok (.getfield 39, 3) := by decide +kernel
theorem dd_182_192 : decode prog_13_method_29_code 192 = .ok (.iload_n 2, 1) := by decide +kernel
theorem dd_182_193 : decode prog_13_method_29_code 193 = .ok (.iaload, 1) := by decide +kernel
theorem dd_182_194 : decode prog_13_method_29_code 194 = .ok (.invokevirtual 192, 3) := by decide +kernel
theorem dd_182_197 : decode prog_13_method_29_code 197 = .ok (.aload_n 0, 1) := by decide +kernel
theorem dd_182_198 : decode prog_13_method_29_code 198 = .ok (.getfield 17, 3) := by decide +kernel
theorem dd_182_201 : decode prog_13_method_29_code 201 = .ok (.iload_n 1, 1) := by decide +kernel
theorem dd_182_202 : decode prog_13_method_29_code 202 = .ok (.iaload, 1) := by decide +kernel
theorem dd_182_203 : decode prog_13_method_29_code 203 = .ok (.bipush 7, 2) := by decide +kernel
theorem dd_182_205 : decode prog_13_method_29_code 205 = .ok (.if_icmp .ne 19, 3) := by decide +kernel
theorem dd_182_208 : decode prog_13_method_29_code 208 = .ok (.aload_n 0, 1) := by decide +kernel
theorem dd_182_209 : decode prog_13_method_29_code 209 = .ok (.iconst 1, 1) := by decide +kernel
theorem dd_182_210 : decode prog_13_method_29_code 210 = .ok (.bipush 6, 2) := by decide +kernel
theorem dd_182_212 : decode prog_13_method_29_code 212 = .ok (.invokevirtual 185, 3) := by decide +kernel
theorem dd_182_215 : decode prog_13_method_29_code 215 = .ok (.goto 9, 3) := by decide +kernel
theorem dd_182_218 : decode prog_13_method_29_code 218 = .ok (.aload_n 0, 1) := by decide +kernel
theorem dd_182_219 : decode prog_13_method_29_code 219 = .ok (.iload_n 1, 1) := by decide +kernel
theorem dd_182_220 : decode prog_13_method_29_code 220 = .ok (.iload_n 2, 1) := by decide +kernel
theorem dd_182_221 : decode prog_13_method_29_code 221 = .ok (.invokevirtual 198, 3) := by decide +kernel
theorem dd_182_224 : decode prog_13_method_29_code 224 = .ok (.return_, 1) := by decide +kernel
set_option maxRecDepth 100000 in
theorem okI_182 : mj_okI gG "PairMachineModel" prog_13_method_29_code 3 (mj_off oM_182) (Option.none : Option Jvm.ClassFile.FieldType) false true 0 cM_182 :=
  ⟨Or.inl ⟨0, rfl, dd_182_0, rfl⟩,
   ⟨33, "PairMachineModel", fT10, 45, dd_182_1, rfl, okc_10, by decide, tw_808⟩,
   Or.inl ⟨1, rfl, dd_182_4, rfl⟩,
   ⟨dd_182_5, rfl⟩,
   ⟨by decide, Or.inl ⟨2, rfl, dd_182_6, rfl⟩⟩,
   Or.inl ⟨0, rfl, dd_182_7, rfl⟩,
   ⟨17, "PairMachineModel", fT10, 45, dd_182_8, rfl, okc_10, by decide, tw_803⟩,
   Or.inl ⟨1, rfl, dd_182_11, rfl⟩,
   ⟨dd_182_12, rfl⟩,
   Or.inr ⟨205, 0, #[47, 67, 86, 205, 100, 125, 140, 140], 47, dd_182_13, rfl, rfl, (fun j hj => by
    match j, hj with
    | 0, _ => exact ⟨47, 10, rfl, rfl, by decide, rfl⟩
    | 1, _ => exact ⟨67, 22, rfl, rfl, by decide, rfl⟩
    | 2, _ => exact ⟨86, 33, rfl, rfl, by decide, rfl⟩
    | 3, _ => exact ⟨205, 102, rfl, rfl, by decide, rfl⟩
    | 4, _ => exact ⟨100, 41, rfl, rfl, by decide, rfl⟩
    | 5, _ => exact ⟨125, 56, rfl, rfl, by decide, rfl⟩
    | 6, _ => exact ⟨140, 65, rfl, rfl, by decide, rfl⟩
    | 7, _ => exact ⟨140, 65, rfl, rfl, by decide, rfl⟩
    | j + 8, h => exact absurd h (by simp))⟩,
   Or.inl ⟨0, rfl, dd_182_60, rfl⟩,
   Or.inl (Or.inl ⟨dd_182_61, rfl⟩),
   Or.inl (Or.inl ⟨dd_182_62, rfl⟩),
   ⟨rfl, tw_903, by decide, tw_12, by decide +kernel, 181, tw_904, dd_182_63, tw_905, ⟨"PairMachineModel", fT10, 45, rfl, tw_906⟩, by decide +kernel⟩,
   Or.inl ⟨0, rfl, dd_182_66, rfl⟩,
   Or.inl (Or.inl ⟨dd_182_67, rfl⟩),
   Or.inl ⟨0, rfl, dd_182_68, rfl⟩,
   ⟨27, "PairMachineModel", fT10, 45, dd_182_69, rfl, okc_10, by decide, tw_806⟩,
   Or.inl ⟨1, rfl, dd_182_72, rfl⟩,
   ⟨dd_182_73, rfl⟩,
   ⟨rfl, tw_903, by decide, tw_12, by decide +kernel, 181, tw_904, dd_182_74, tw_905, ⟨"PairMachineModel", fT10, 45, rfl, tw_906⟩, by decide +kernel⟩,
   ⟨147, dd_182_77, rfl⟩,
   Or.inl ⟨0, rfl, dd_182_80, rfl⟩,
   Or.inl (Or.inl ⟨dd_182_81, rfl⟩),
   Or.inl (Or.inl ⟨dd_182_82, rfl⟩),
   ⟨rfl, tw_903, by decide, tw_12, by decide +kernel, 181, tw_904, dd_182_83, tw_905, ⟨"PairMachineModel", fT10, 45, rfl, tw_906⟩, by decide +kernel⟩,
   Or.inl ⟨0, rfl, dd_182_86, rfl⟩,
   Or.inl (Or.inl ⟨dd_182_87, rfl⟩),
   Or.inl ⟨0, rfl, dd_182_88, rfl⟩,
   Or.inl ⟨1, rfl, dd_182_89, rfl⟩,
   ⟨rfl, tw_896, by decide, tw_12, by decide +kernel, 169, tw_897, dd_182_90, tw_898, ⟨"PairMachineModel", fT10, 45, rfl, tw_899⟩, by decide +kernel⟩,
   ⟨rfl, tw_903, by decide, tw_12, by decide +kernel, 181, tw_904, dd_182_93, tw_905, ⟨"PairMachineModel", fT10, 45, rfl, tw_906⟩, by decide +kernel⟩,
   ⟨128, dd_182_96, rfl⟩,
   Or.inl ⟨0, rfl, dd_182_99, rfl⟩,
   Or.inl (Or.inl ⟨dd_182_100, rfl⟩),
   Or.inl (Or.inl ⟨dd_182_101, rfl⟩),
   ⟨rfl, tw_903, by decide, tw_12, by decide +kernel, 181, tw_904, dd_182_102, tw_905, ⟨"PairMachineModel", fT10, 45, rfl, tw_906⟩, by decide +kernel⟩,
   Or.inl ⟨0, rfl, dd_182_105, rfl⟩,
   Or.inl ⟨1, rfl, dd_182_106, rfl⟩,
   ⟨rfl, tw_911, by decide, tw_12, by decide +kernel, 188, tw_912, dd_182_107, tw_913, ⟨"PairMachineModel", fT10, 45, rfl, tw_914⟩, by decide +kernel⟩,
   ⟨114, dd_182_110, rfl⟩,
   Or.inl ⟨0, rfl, dd_182_113, rfl⟩,
   Or.inl (Or.inl ⟨dd_182_114, rfl⟩),
   Or.inl (Or.inl ⟨dd_182_115, rfl⟩),
   ⟨rfl, tw_907, by decide, tw_12, by decide +kernel, 185, tw_908, dd_182_116, tw_909, ⟨"PairMachineModel", fT10, 45, rfl, tw_910⟩, by decide +kernel⟩,
   Or.inl ⟨0, rfl, dd_182_119, rfl⟩,
   Or.inl (Or.inl ⟨dd_182_120, rfl⟩),
   Or.inl ⟨2, rfl, dd_182_121, rfl⟩,
   ⟨rfl, tw_907, by decide, tw_12, by decide +kernel, 185, tw_908, dd_182_122, tw_909, ⟨"PairMachineModel", fT10, 45, rfl, tw_910⟩, by decide +kernel⟩,
   Or.inl ⟨0, rfl, dd_182_125, rfl⟩,
   Or.inl ⟨0, rfl, dd_182_126, rfl⟩,
   ⟨39, "PairMachineModel", fT10, 45, dd_182_127, rfl, okc_10, by decide, tw_810⟩,
   Or.inl ⟨2, rfl, dd_182_130, rfl⟩,
   ⟨dd_182_131, rfl⟩,
   ⟨rfl, tw_915, by decide, tw_12, by decide +kernel, 192, tw_916, dd_182_132, tw_917, ⟨"PairMachineModel", fT10, 45, rfl, tw_918⟩, by decide +kernel⟩,
   ⟨89, dd_182_135, rfl⟩,
   Or.inl ⟨0, rfl, dd_182_138, rfl⟩,
   Or.inl ⟨2, rfl, dd_182_139, rfl⟩,
   Or.inl (Or.inl ⟨dd_182_140, rfl⟩),
   ⟨rfl, tw_919, by decide, tw_12, by decide +kernel, 195, tw_920, dd_182_141, tw_921, ⟨"PairMachineModel", fT10, 45, rfl, tw_922⟩, by decide +kernel⟩,
   Or.inl ⟨0, rfl, dd_182_144, rfl⟩,
   Or.inl (Or.inl ⟨dd_182_145, rfl⟩),
   Or.inl (Or.inl ⟨dd_182_146, rfl⟩),
   ⟨rfl, tw_907, by decide, tw_12, by decide +kernel, 185, tw_908, dd_182_147, tw_909, ⟨"PairMachineModel", fT10, 45, rfl, tw_910⟩, by decide +kernel⟩,
   ⟨74, dd_182_150, rfl⟩,
   Or.inl ⟨0, rfl, dd_182_153, rfl⟩,
   Or.inl (Or.inl ⟨dd_182_154, rfl⟩),
   Or.inl ⟨0, rfl, dd_182_155, rfl⟩,
   ⟨17, "PairMachineModel", fT10, 45, dd_182_156, rfl, okc_10, by decide, tw_803⟩,
   Or.inl ⟨1, rfl, dd_182_159, rfl⟩,
   ⟨dd_182_160, rfl⟩,
   Or.inl (Or.inr (Or.inl ⟨dd_182_161, rfl, by decide⟩)),
   ⟨7, dd_182_163, rfl, rfl⟩,
   Or.inl (Or.inl ⟨dd_182_166, rfl⟩),
   ⟨5, dd_182_167, rfl⟩,
   Or.inl (Or.inr (Or.inl ⟨dd_182_170, rfl, by decide⟩)),
   ⟨rfl, tw_907, by decide, tw_12, by decide +kernel, 185, tw_908, dd_182_172, tw_909, ⟨"PairMachineModel", fT10, 45, rfl, tw_910⟩, by decide +kernel⟩,
   Or.inl ⟨0, rfl, dd_182_175, rfl⟩,
   Or.inl ⟨2, rfl, dd_182_176, rfl⟩,
   Or.inl (Or.inl ⟨dd_182_177, rfl⟩),
   ⟨rfl, tw_919, by decide, tw_12, by decide +kernel, 195, tw_920, dd_182_178, tw_921, ⟨"PairMachineModel", fT10, 45, rfl, tw_922⟩, by decide +kernel⟩,
   Or.inl ⟨0, rfl, dd_182_181, rfl⟩,
   Or.inl (Or.inl ⟨dd_182_182, rfl⟩),
   Or.inl (Or.inl ⟨dd_182_183, rfl⟩),
   ⟨rfl, tw_907, by decide, tw_12, by decide +kernel, 185, tw_908, dd_182_184, tw_909, ⟨"PairMachineModel", fT10, 45, rfl, tw_910⟩, by decide +kernel⟩,
   Or.inl ⟨0, rfl, dd_182_187, rfl⟩,
   Or.inl ⟨0, rfl, dd_182_188, rfl⟩,
   ⟨39, "PairMachineModel", fT10, 45, dd_182_189, rfl, okc_10, by decide, tw_810⟩,
   Or.inl ⟨2, rfl, dd_182_192, rfl⟩,
   ⟨dd_182_193, rfl⟩,
   ⟨rfl, tw_915, by decide, tw_12, by decide +kernel, 192, tw_916, dd_182_194, tw_917, ⟨"PairMachineModel", fT10, 45, rfl, tw_918⟩, by decide +kernel⟩,
   Or.inl ⟨0, rfl, dd_182_197, rfl⟩,
   ⟨17, "PairMachineModel", fT10, 45, dd_182_198, rfl, okc_10, by decide, tw_803⟩,
   Or.inl ⟨1, rfl, dd_182_201, rfl⟩,
   ⟨dd_182_202, rfl⟩,
   Or.inl (Or.inr (Or.inl ⟨dd_182_203, rfl, by decide⟩)),
   ⟨19, dd_182_205, rfl, rfl⟩,
   Or.inl ⟨0, rfl, dd_182_208, rfl⟩,
   Or.inl (Or.inl ⟨dd_182_209, rfl⟩),
   Or.inl (Or.inr (Or.inl ⟨dd_182_210, rfl, by decide⟩)),
   ⟨rfl, tw_907, by decide, tw_12, by decide +kernel, 185, tw_908, dd_182_212, tw_909, ⟨"PairMachineModel", fT10, 45, rfl, tw_910⟩, by decide +kernel⟩,
   ⟨9, dd_182_215, rfl⟩,
   Or.inl ⟨0, rfl, dd_182_218, rfl⟩,
   Or.inl ⟨1, rfl, dd_182_219, rfl⟩,
   Or.inl ⟨2, rfl, dd_182_220, rfl⟩,
   ⟨rfl, tw_923, by decide, tw_12, by decide +kernel, 198, tw_924, dd_182_221, tw_925, ⟨"PairMachineModel", fT10, 45, rfl, tw_926⟩, by decide +kernel⟩,
   ⟨dd_182_224, rfl⟩, trivial⟩
theorem okM_182 : mj_okE gG 182 (cM_182, 3, oM_182, hM_182) := ⟨rfl, rfl, by decide +kernel, trivial, okI_182⟩
end
