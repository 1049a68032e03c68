section
theorem dd_138_0 : decode prog_4_method_2_code 0 = .ok (.aload_n 0, 1) := by decide +kernel
theorem dd_138_1 : decode prog_4_method_2_code 1 = .ok (.getfield 18, 3) := by decide +kernel
theorem dd_138_4 : decode prog_4_method_2_code 4 = .ok (.iconst 0, 1) := by decide +kernel
theorem dd_138_5 : decode prog_4_method_2_code 5 = .ok (.invokevirtual 26, 3) := by decide +kernel
theorem dd_138_8 : decode prog_4_method_2_code 8 = .ok (.aload_n 0, 1) := by decide +kernel
theorem dd_138_9 : decode prog_4_method_2_code 9 = .ok (.iconst 0, 1) := by decide +kernel
theorem dd_138_10 : decode prog_4_method_2_code 10 = .ok (.putfield 30, 3) := by decide +kernel
theorem dd_138_13 : decode prog_4_method_2_code 13 = .ok (.lload_n 1, 1) := by decide +kernel
theorem dd_138_14 : decode prog_4_method_2_code 14 = .ok (.lstore_n 3, 1) := by decide +kernel
theorem dd_138_15 : decode prog_4_method_2_code 15 = .ok (.iconst 0, 1) := by decide +kernel
theorem dd_138_16 : decode prog_4_method_2_code 16 = .ok (.istore 5, 2) := by decide +kernel
theorem dd_138_18 : decode prog_4_method_2_code 18 = .ok (.iload 5, 2) := by decide +kernel
theorem dd_138_20 : decode prog_4_method_2_code 20 = .ok (.bipush 120, 2) := by decide +kernel
theorem dd_138_22 : decode prog_4_method_2_code 22 = .ok (.if_icmp .ge 161, 3) := by decide +kernel
theorem dd_138_25 : decode prog_4_method_2_code 25 = .ok (.aload_n 0, 1) := by decide +kernel
theorem dd_138_26 : decode prog_4_method_2_code 26 = .ok (.getfield 18, 3) := by decide +kernel
theorem dd_138_29 : decode prog_4_method_2_code 29 = .ok (.invokevirtual 34, 3) := by decide +kernel
theorem dd_138_32 : decode prog_4_method_2_code 32 = .ok (.bipush 120, 2) := by decide +kernel
theorem dd_138_34 : decode prog_4_method_2_code 34 = .ok (.if_icmp .ge 149, 3) := by decide +kernel
theorem dd_138_37 : decode prog_4_method_2_code 37 = .ok (.lload_n 3, 1) := by decide +kernel
theorem dd_138_38 : decode prog_4_method_2_code 38 = .ok (.invokestatic 38, 3) := by decide +kernel
theorem dd_138_41 : decode prog_4_method_2_code 41 = .ok (.ifCond .eq 61, 3) := by decide +kernel
theorem dd_138_44 : decode prog_4_method_2_code 44 = .ok (.aload_n 0, 1) := by decide +kernel
theorem dd_138_45 : decode prog_4_method_2_code 45 = .ok (.getfield 30, 3) := by decide +kernel
theorem dd_138_48 : decode prog_4_method_2_code 48 = .ok (.bipush 120, 2) := by decide +kernel
theorem dd_138_50 : decode prog_4_method_2_code 50 = .ok (.if_icmp .ge 52, 3) := by decide +kernel
theorem dd_138_53 : decode prog_4_method_2_code 53 = .ok (.aload_n 0, 1) := by decide +kernel
theorem dd_138_54 : decode prog_4_method_2_code 54 = .ok (.getfield 18, 3) := by decide +kernel
theorem dd_138_57 : decode prog_4_method_2_code 57 = .ok (.bipush 40, 2) := by decide +kernel
theorem dd_138_59 : decode prog_4_method_2_code 59 = .ok (.invokevirtual 44, 3) := by decide +kernel
theorem dd_138_62 : decode prog_4_method_2_code 62 = .ok (.pop, 1) := by decide +kernel
theorem dd_138_63 : decode prog_4_method_2_code 63 = .ok (.aload_n 0, 1) := by decide +kernel
theorem dd_138_64 : decode prog_4_method_2_code 64 = .ok (.getfield 22, 3) := by decide +kernel
theorem dd_138_67 : decode prog_4_method_2_code 67 = .ok (.aload_n 0, 1) := by decide +kernel
theorem dd_138_68 : decode prog_4_method_2_code 68 = .ok (.getfield 30, 3) := by decide +kernel
theorem dd_138_71 : decode prog_4_method_2_code 71 = .ok (.aload_n 0, 1) := by decide +kernel
theorem dd_138_72 : decode prog_4_method_2_code 72 = .ok (.getfield 9, 3) := by decide +kernel
theorem dd_138_75 : decode prog_4_method_2_code 75 = .ok (.lload_n 3, 1) := by decide +kernel
theorem dd_138_76 : decode prog_4_method_2_code 76 = .ok (.invokevirtual 48, 3) := by decide +kernel
theorem dd_138_79 : decode prog_4_method_2_code 79 = .ok (.lastore, 1) := by decide +kernel
theorem dd_138_80 : decode prog_4_method_2_code 80 = .ok (.aload_n 0, 1) := by decide +kernel
theorem dd_138_81 : decode prog_4_method_2_code 81 = .ok (.dup, 1) := by decide +kernel
theorem dd_138_82 : decode prog_4_method_2_code 82 = .ok (.getfield 30, 3) := by decide +kernel
theorem dd_138_85 : decode prog_4_method_2_code 85 = .ok (.iconst 1, 1) := by decide +kernel
theorem dd_138_86 : decode prog_4_method_2_code 86 = .ok (.iadd, 1) := by decide +kernel
theorem dd_138_87 : decode prog_4_method_2_code 87 = .ok (.putfield 30, 3) := by decide +kernel
theorem dd_138_90 : decode prog_4_method_2_code 90 = .ok (.aload_n 0, 1) := by decide +kernel
theorem dd_138_91 : decode prog_4_method_2_code 91 = .ok (.getfield 9, 3) := by decide +kernel
theorem dd_138_94 : decode prog_4_method_2_code 94 = .ok (.lload_n 3, 1) := by decide +kernel
theorem dd_138_95 : decode prog_4_method_2_code 95 = .ok (.invokevirtual 54, 3) := by decide +kernel
theorem dd_138_98 : decode prog_4_method_2_code 98 = .ok (.lstore_n 3, 1) := by decide +kernel
theorem dd_138_99 : decode prog_4_method_2_code 99 = .ok (.goto 78, 3) := by decide +kernel
theorem dd_138_102 : decode prog_4_method_2_code 102 = .ok (.aload_n 0, 1) := by decide +kernel
theorem dd_138_103 : decode prog_4_method_2_code 103 = .ok (.lload_n 3, 1) := by decide +kernel
theorem dd_138_104 : decode prog_4_method_2_code 104 = .ok (.invokevirtual 57, 3) := by decide +kernel
theorem dd_138_107 : decode prog_4_method_2_code 107 = .ok (.aload_n 0, 1) := by decide +kernel
theorem dd_138_108 : decode prog_4_method_2_code 108 = .ok (.invokevirtual 61, 3) := by decide +kernel
theorem dd_138_111 : decode prog_4_method_2_code 111 = .ok (.aload_n 0, 1) := by decide +kernel
theorem dd_138_112 : decode prog_4_method_2_code 112 = .ok (.getfield 30, 3) := by decide +kernel
theorem dd_138_115 : decode prog_4_method_2_code 115 = .ok (.ifCond .ne 4, 3) := by decide +kernel
theorem dd_138_118 : decode prog_4_method_2_code 118 = .ok (.return_, 1) := by decide +kernel
theorem dd_138_119 : decode prog_4_method_2_code 119 = .ok (.aload_n 0, 1) := by decide +kernel
theorem dd_138_120 : decode prog_4_method_2_code 120 = .ok (.getfield 18, 3) := by decide +kernel
theorem dd_138_123 : decode prog_4_method_2_code 123 = .ok (.bipush 32, 2) := by decide +kernel
theorem dd_138_125 : decode prog_4_method_2_code 125 = .ok (.invokevirtual 44, 3) := by decide +kernel
theorem dd_138_128 : decode prog_4_method_2_code 128 = .ok (.pop, 1) := by decide +kernel
theorem dd_138_129 : decode prog_4_method_2_code 129 = .ok (.aload_n 0, 1) := by decide +kernel
theorem dd_138_130 : decode prog_4_method_2_code 130 = .ok (.getfield 9, 3) := by decide +kernel
theorem dd_138_133 : decode prog_4_method_2_code 133 = .ok (.aload_n 0, 1) := by decide +kernel
theorem dd_138_134 : decode prog_4_method_2_code 134 = .ok (.getfield 22, 3) := by decide +kernel
theorem dd_138_137 : decode prog_4_method_2_code 137 = .ok (.aload_n 0, 1) := by decide +kernel
theorem dd_138_138 : decode prog_4_method_2_code 138 = .ok (.getfield 30, 3) := by decide +kernel
theorem dd_138_141 : decode prog_4_method_2_code 141 = .ok (.iconst 1, 1) := by decide +kernel
theorem dd_138_142 : decode prog_4_method_2_code 142 = .ok (.isub, 1) := by decide +kernel
theorem dd_138_143 : decode prog_4_method_2_code 143 = .ok (.laload, 1) := by decide +kernel
theorem dd_138_144 : decode prog_4_method_2_code 144 = .ok (.invokevirtual 54, 3) := by decide +kernel
theorem dd_138_147 : decode prog_4_method_2_code 147 = .ok (.lstore_n 3, 1) := by decide +kernel
theorem dd_138_148 : decode prog_4_method_2_code 148 = .ok (.aload_n 0, 1) := by decide +kernel
theorem dd_138_149 : decode prog_4_method_2_code 149 = .ok (.getfield 22, 3) := by decide +kernel
theorem dd_138_152 : decode prog_4_method_2_code 152 = .ok (.aload_n 0, 1) := by decide +kernel
theorem dd_138_153 : decode prog_4_method_2_code 153 = .ok (.getfield 30, 3) := by decide +kernel
theorem dd_138_156 : decode prog_4_method_2_code 156 = .ok (.iconst 1, 1) := by decide +kernel
theorem dd_138_157 : decode prog_4_method_2_code 157 = .ok (.isub, 1) := by decide +kernel
theorem dd_138_158 : decode prog_4_method_2_code 158 = .ok (.aload_n 0, 1) := by decide +kernel
theorem dd_138_159 : decode prog_4_method_2_code 159 = .ok (.getfield 9, 3) := by decide +kernel
theorem dd_138_162 : decode prog_4_method_2_code 162 = .ok (.aload_n 0, 1) := by decide +kernel
theorem dd_138_163 : decode prog_4_method_2_code 163 = .ok (.getfield 22, 3) := by decide +kernel
theorem dd_138_166 : decode prog_4_method_2_code 166 = .ok (.aload_n 0, 1) := by decide +kernel
theorem dd_138_167 : decode prog_4_method_2_code 167 = .ok (.getfield 30, 3) := by decide +kernel
theorem dd_138_170 : decode prog_4_method_2_code 170 = .ok (.iconst 1, 1) := by decide +kernel
theorem dd_138_171 : decode prog_4_method_2_code 171 = .ok (.isub, 1) := by decide +kernel
theorem dd_138_172 : decode prog_4_method_2_code 172 = .ok (.laload, 1) := by decide +kernel
theorem dd_138_173 : decode prog_4_method_2_code 173 = .ok (.invokevirtual 48, 3) := by decide +kernel
theorem dd_138_176 : decode prog_4_method_2_code 176 = .ok (.lastore, 1) := by decide +kernel
theorem dd_138_177 : decode prog_4_method_2_code 177 = .ok (.iinc 5 1, 3) := by decide +kernel
theorem dd_138_180 : decode prog_4_method_2_code 180 = .ok (.goto (-162), 3) := by decide +kernel
theorem dd_138_183 : decode prog_4_method_2_code 183 = .ok (.return_, 1) := by decide +kernel
set_option maxRecDepth 100000 in
theorem okI_138 : mj_okI gG "PairMachine$Display" prog_4_method_2_code 6 (mj_off oM_138) (Option.none : Option Jvm.ClassFile.FieldType) false true 0 cM_138 :=
  ⟨Or.inl ⟨0, rfl, dd_138_0, rfl⟩,
   ⟨18, "PairMachine$Display", fT8, 4, dd_138_1, rfl, okc_8, by decide, tw_742⟩,
   Or.inl (Or.inl ⟨dd_138_4, rfl⟩),
   ⟨rfl, ⟨tw_744, by decide, tw_738, by decide +kernel, 26, tw_745, dd_138_5, tw_746, ⟨"java/lang/StringBuilder", fT9, 4, rfl, tw_747⟩, by decide +kernel⟩, by decide, by decide⟩,
   Or.inl ⟨0, rfl, dd_138_8, rfl⟩,
   Or.inl (Or.inl ⟨dd_138_9, rfl⟩),
   ⟨30, "PairMachine$Display", fT8, 4, dd_138_10, rfl, okc_8, by decide, tw_748, rfl, Or.inl rfl⟩,
   Or.inl ⟨1, rfl, dd_138_13, rfl⟩,
   ⟨by decide, Or.inl ⟨3, rfl, dd_138_14, rfl⟩⟩,
   Or.inl (Or.inl ⟨dd_138_15, rfl⟩),
   ⟨by decide, Or.inr ⟨dd_138_16, rfl⟩⟩,
   Or.inr ⟨dd_138_18, rfl⟩,
   Or.inl (Or.inr (Or.inl ⟨dd_138_20, rfl, by decide⟩)),
   ⟨161, dd_138_22, rfl, rfl⟩,
   Or.inl ⟨0, rfl, dd_138_25, rfl⟩,
   ⟨18, "PairMachine$Display", fT8, 4, dd_138_26, rfl, okc_8, by decide, tw_742⟩,
   ⟨rfl, ⟨tw_749, by decide, tw_738, by decide +kernel, 34, tw_750, dd_138_29, tw_751, ⟨"java/lang/StringBuilder", fT9, 4, rfl, tw_752⟩, by decide +kernel⟩, by decide, by decide⟩,
   Or.inl (Or.inr (Or.inl ⟨dd_138_32, rfl, by decide⟩)),
   ⟨149, dd_138_34, rfl, rfl⟩,
   Or.inl ⟨3, rfl, dd_138_37, rfl⟩,
   ⟨rfl, tw_648, by decide, tw_372, by decide +kernel, 38, tw_753, dd_138_38, tw_650, by decide +kernel⟩,
   ⟨61, dd_138_41, rfl, rfl⟩,
   Or.inl ⟨0, rfl, dd_138_44, rfl⟩,
   ⟨30, "PairMachine$Display", fT8, 4, dd_138_45, rfl, okc_8, by decide, tw_748⟩,
   Or.inl (Or.inr (Or.inl ⟨dd_138_48, rfl, by decide⟩)),
   ⟨52, dd_138_50, rfl, rfl⟩,
   Or.inl ⟨0, rfl, dd_138_53, rfl⟩,
   ⟨18, "PairMachine$Display", fT8, 4, dd_138_54, rfl, okc_8, by decide, tw_742⟩,
   Or.inl (Or.inr (Or.inl ⟨dd_138_57, rfl, by decide⟩)),
   ⟨rfl, ⟨tw_754, by decide, tw_738, by decide +kernel, 44, tw_755, dd_138_59, tw_756, ⟨"java/lang/StringBuilder", fT9, 4, rfl, tw_757⟩, by decide +kernel⟩, by decide, by decide⟩,
   ⟨dd_138_62, rfl⟩,
   Or.inl ⟨0, rfl, dd_138_63, rfl⟩,
   ⟨22, "PairMachine$Display", fT8, 4, dd_138_64, rfl, okc_8, by decide, tw_743⟩,
   Or.inl ⟨0, rfl, dd_138_67, rfl⟩,
   ⟨30, "PairMachine$Display", fT8, 4, dd_138_68, rfl, okc_8, by decide, tw_748⟩,
   Or.inl ⟨0, rfl, dd_138_71, rfl⟩,
   ⟨9, "PairMachine$Display", fT8, 4, dd_138_72, rfl, okc_8, by decide, tw_735⟩,
   Or.inl ⟨3, rfl, dd_138_75, rfl⟩,
   ⟨rfl, tw_629, by decide, tw_509, by decide +kernel, 48, tw_758, dd_138_76, tw_631, ⟨"PairMachine$Store", fT7, 9, rfl, tw_632⟩, by decide +kernel⟩,
   ⟨dd_138_79, rfl⟩,
   Or.inl ⟨0, rfl, dd_138_80, rfl⟩,
   ⟨dd_138_81, rfl⟩,
   ⟨30, "PairMachine$Display", fT8, 4, dd_138_82, rfl, okc_8, by decide, tw_748⟩,
   Or.inl (Or.inl ⟨dd_138_85, rfl⟩),
   ⟨dd_138_86, rfl⟩,
   ⟨30, "PairMachine$Display", fT8, 4, dd_138_87, rfl, okc_8, by decide, tw_748, rfl, Or.inl rfl⟩,
   Or.inl ⟨0, rfl, dd_138_90, rfl⟩,
   ⟨9, "PairMachine$Display", fT8, 4, dd_138_91, rfl, okc_8, by decide, tw_735⟩,
   Or.inl ⟨3, rfl, dd_138_94, rfl⟩,
   ⟨rfl, tw_633, by decide, tw_509, by decide +kernel, 54, tw_759, dd_138_95, tw_635, ⟨"PairMachine$Store", fT7, 9, rfl, tw_636⟩, by decide +kernel⟩,
   ⟨by decide, Or.inl ⟨3, rfl, dd_138_98, rfl⟩⟩,
   ⟨78, dd_138_99, rfl⟩,
   Or.inl ⟨0, rfl, dd_138_102, rfl⟩,
   Or.inl ⟨3, rfl, dd_138_103, rfl⟩,
   ⟨rfl, tw_760, by decide, tw_516, by decide +kernel, 57, tw_761, dd_138_104, tw_762, ⟨"PairMachine$Display", fT8, 4, rfl, tw_763⟩, by decide +kernel⟩,
   Or.inl ⟨0, rfl, dd_138_107, rfl⟩,
   ⟨rfl, tw_764, by decide, tw_516, by decide +kernel, 61, tw_765, dd_138_108, tw_766, ⟨"PairMachine$Display", fT8, 4, rfl, tw_767⟩, by decide +kernel⟩,
   Or.inl ⟨0, rfl, dd_138_111, rfl⟩,
   ⟨30, "PairMachine$Display", fT8, 4, dd_138_112, rfl, okc_8, by decide, tw_748⟩,
   ⟨4, dd_138_115, rfl, rfl⟩,
   ⟨dd_138_118, rfl⟩,
   Or.inl ⟨0, rfl, dd_138_119, rfl⟩,
   ⟨18, "PairMachine$Display", fT8, 4, dd_138_120, rfl, okc_8, by decide, tw_742⟩,
   Or.inl (Or.inr (Or.inl ⟨dd_138_123, rfl, by decide⟩)),
   ⟨rfl, ⟨tw_754, by decide, tw_738, by decide +kernel, 44, tw_755, dd_138_125, tw_756, ⟨"java/lang/StringBuilder", fT9, 4, rfl, tw_757⟩, by decide +kernel⟩, by decide, by decide⟩,
   ⟨dd_138_128, rfl⟩,
   Or.inl ⟨0, rfl, dd_138_129, rfl⟩,
   ⟨9, "PairMachine$Display", fT8, 4, dd_138_130, rfl, okc_8, by decide, tw_735⟩,
   Or.inl ⟨0, rfl, dd_138_133, rfl⟩,
   ⟨22, "PairMachine$Display", fT8, 4, dd_138_134, rfl, okc_8, by decide, tw_743⟩,
   Or.inl ⟨0, rfl, dd_138_137, rfl⟩,
   ⟨30, "PairMachine$Display", fT8, 4, dd_138_138, rfl, okc_8, by decide, tw_748⟩,
   Or.inl (Or.inl ⟨dd_138_141, rfl⟩),
   ⟨dd_138_142, rfl⟩,
   ⟨dd_138_143, rfl⟩,
   ⟨rfl, tw_633, by decide, tw_509, by decide +kernel, 54, tw_759, dd_138_144, tw_635, ⟨"PairMachine$Store", fT7, 9, rfl, tw_636⟩, by decide +kernel⟩,
   ⟨by decide, Or.inl ⟨3, rfl, dd_138_147, rfl⟩⟩,
   Or.inl ⟨0, rfl, dd_138_148, rfl⟩,
   ⟨22, "PairMachine$Display", fT8, 4, dd_138_149, rfl, okc_8, by decide, tw_743⟩,
   Or.inl ⟨0, rfl, dd_138_152, rfl⟩,
   ⟨30, "PairMachine$Display", fT8, 4, dd_138_153, rfl, okc_8, by decide, tw_748⟩,
   Or.inl (Or.inl ⟨dd_138_156, rfl⟩),
   ⟨dd_138_157, rfl⟩,
   Or.inl ⟨0, rfl, dd_138_158, rfl⟩,
   ⟨9, "PairMachine$Display", fT8, 4, dd_138_159, rfl, okc_8, by decide, tw_735⟩,
   Or.inl ⟨0, rfl, dd_138_162, rfl⟩,
   ⟨22, "PairMachine$Display", fT8, 4, dd_138_163, rfl, okc_8, by decide, tw_743⟩,
   Or.inl ⟨0, rfl, dd_138_166, rfl⟩,
   ⟨30, "PairMachine$Display", fT8, 4, dd_138_167, rfl, okc_8, by decide, tw_748⟩,
   Or.inl (Or.inl ⟨dd_138_170, rfl⟩),
   ⟨dd_138_171, rfl⟩,
   ⟨dd_138_172, rfl⟩,
   ⟨rfl, tw_629, by decide, tw_509, by decide +kernel, 48, tw_758, dd_138_173, tw_631, ⟨"PairMachine$Store", fT7, 9, rfl, tw_632⟩, by decide +kernel⟩,
   ⟨dd_138_176, rfl⟩,
   ⟨by decide, dd_138_177, rfl⟩,
   ⟨(-162), dd_138_180, rfl⟩,
   ⟨dd_138_183, rfl⟩, trivial⟩
theorem okM_138 : mj_okE gG 138 (cM_138, 6, oM_138, hM_138) := ⟨rfl, rfl, by decide +kernel, trivial, okI_138⟩
theorem dd_139_0 : decode prog_4_method_3_code 0 = .ok (.aload_n 0, 1) := by decide +kernel
theorem dd_139_1 : decode prog_4_method_3_code 1 = .ok (.getfield 30, 3) := by decide +kernel
theorem dd_139_4 : decode prog_4_method_3_code 4 = .ok (.ifCond .le 92, 3) := by decide +kernel
theorem dd_139_7 : decode prog_4_method_3_code 7 = .ok (.aload_n 0, 1) := by decide +kernel
theorem dd_139_8 : decode prog_4_method_3_code 8 = .ok (.getfield 22, 3) := by decide +kernel
theorem dd_139_11 : decode prog_4_method_3_code 11 = .ok (.aload_n 0, 1) := by decide +kernel
theorem dd_139_12 : decode prog_4_method_3_code 12 = .ok (.getfield 30, 3) := by decide +kernel
theorem dd_139_15 : decode prog_4_method_3_code 15 = .ok (.iconst 1, 1) := by decide +kernel
theorem dd_139_16 : decode prog_4_method_3_code 16 = .ok (.isub, 1) := by decide +kernel
theorem dd_139_17 : decode prog_4_method_3_code 17 = .ok (.laload, 1) := by decide +kernel
theorem dd_139_18 : decode prog_4_method_3_code 18 = .ok (.invokestatic 38, 3) := by decide +kernel
theorem dd_139_21 : decode prog_4_method_3_code 21 = .ok (.ifCond .ne 75, 3) := by decide +kernel
theorem dd_139_24 : decode prog_4_method_3_code 24 = .ok (.aload_n 0, 1) := by decide +kernel
theorem dd_139_25 : decode prog_4_method_3_code 25 = .ok (.getfield 18, 3) := by decide +kernel
theorem dd_139_28 : decode prog_4_method_3_code 28 = .ok (.invokevirtual 34, 3) := by decide +kernel
theorem dd_139_31 : decode prog_4_method_3_code 31 = .ok (.bipush 120, 2) := by decide +kernel
theorem dd_139_33 : decode prog_4_method_3_code 33 = .ok (.if_icmp .ge 63, 3) := by decide +kernel
theorem dd_139_36 : decode prog_4_method_3_code 36 = .ok (.aload_n 0, 1) := by decide +kernel
theorem dd_139_37 : decode prog_4_method_3_code 37 = .ok (.dup, 1) := by decide +kernel
theorem dd_139_38 : decode prog_4_method_3_code 38 = .ok (.getfield 30, 3) := by decide +kernel
theorem dd_139_41 : decode prog_4_method_3_code 41 = .ok (.iconst 1, 1) := by decide +kernel
theorem dd_139_42 : decode prog_4_method_3_code 42 = .ok (.isub, 1) := by decide +kernel
theorem dd_139_43 : decode prog_4_method_3_code 43 = .ok (.putfield 30, 3) := by decide +kernel
theorem dd_139_46 : decode prog_4_method_3_code 46 = .ok (.aload_n 0, 1) := by decide +kernel
theorem dd_139_47 : decode prog_4_method_3_code 47 = .ok (.getfield 22, 3) := by decide +kernel
theorem dd_139_50 : decode prog_4_method_3_code 50 = .ok (.aload_n 0, 1) := by decide +kernel
theorem dd_139_51 : decode prog_4_method_3_code 51 = .ok (.getfield 30, 3) := by decide +kernel
theorem dd_139_54 : decode prog_4_method_3_code 54 = .ok (.laload, 1) := by decide +kernel
theorem dd_139_55 : decode prog_4_method_3_code 55 = .ok (.lconst 0, 1) := by decide +kernel
theorem dd_139_56 : decode prog_4_method_3_code 56 = .ok (.lcmp, 1) := by decide +kernel
theorem dd_139_57 : decode prog_4_method_3_code 57 = .ok (.ifCond .eq 26, 3) := by decide +kernel
theorem dd_139_60 : decode prog_4_method_3_code 60 = .ok (.aload_n 0, 1) := by decide +kernel
theorem dd_139_61 : decode prog_4_method_3_code 61 = .ok (.getfield 18, 3) := by decide +kernel
theorem dd_139_64 : decode prog_4_method_3_code 64 = .ok (.ldc 64, 2) := by decide +kernel
theorem dd_139_66 : decode prog_4_method_3_code 66 = .ok (.invokevirtual 66, 3) := by decide +kernel
theorem dd_139_69 : decode prog_4_method_3_code 69 = .ok (.pop, 1) := by decide +kernel
theorem dd_139_70 : decode prog_4_method_3_code 70 = .ok (.aload_n 0, 1) := by decide +kernel
theorem dd_139_71 : decode prog_4_method_3_code 71 = .ok (.aload_n 0, 1) := by decide +kernel
theorem dd_139_72 : decode prog_4_method_3_code 72 = .ok (.getfield 22, 3) := by decide +kernel
theorem dd_139_75 : decode prog_4_method_3_code 75 = .ok (.aload_n 0, 1) := by decide +kernel
theorem dd_139_76 : decode prog_4_method_3_code 76 = .ok (.getfield 30, 3) := by decide +kernel
theorem dd_139_79 : decode prog_4_method_3_code 79 = .ok (.laload, 1) := by decide +kernel
theorem dd_139_80 : decode prog_4_method_3_code 80 = .ok (.invokevirtual 57, 3) := by decide +kernel
theorem dd_139_83 : decode prog_4_method_3_code 83 = .ok (.aload_n 0, 1) := by decide +kernel
theorem dd_139_84 : decode prog_4_method_3_code 84 = .ok (.getfield 18, 3) := by decide +kernel
theorem dd_139_87 : decode prog_4_method_3_code 87 = .ok (.bipush 41, 2) := by decide +kernel
theorem dd_139_89 : decode prog_4_method_3_code 89 = .ok (.invokevirtual 44, 3) := by decide +kernel
theorem dd_139_92 : decode prog_4_method_3_code 92 = .ok (.pop, 1) := by decide +kernel
theorem dd_139_93 : decode prog_4_method_3_code 93 = .ok (.goto (-93), 3) := by decide +kernel
theorem dd_139_96 : decode prog_4_method_3_code 96 = .ok (.return_, 1) := by decide +kernel
set_option maxRecDepth 100000 in
theorem okI_139 : mj_okI gG "PairMachine$Display" prog_4_method_3_code 1 (mj_off oM_139) (Option.none : Option Jvm.ClassFile.FieldType) false true 0 cM_139 :=
  ⟨Or.inl ⟨0, rfl, dd_139_0, rfl⟩,
   ⟨30, "PairMachine$Display", fT8, 4, dd_139_1, rfl, okc_8, by decide, tw_748⟩,
   ⟨92, dd_139_4, rfl, rfl⟩,
   Or.inl ⟨0, rfl, dd_139_7, rfl⟩,
   ⟨22, "PairMachine$Display", fT8, 4, dd_139_8, rfl, okc_8, by decide, tw_743⟩,
   Or.inl ⟨0, rfl, dd_139_11, rfl⟩,
   ⟨30, "PairMachine$Display", fT8, 4, dd_139_12, rfl, okc_8, by decide, tw_748⟩,
   Or.inl (Or.inl ⟨dd_139_15, rfl⟩),
   ⟨dd_139_16, rfl⟩,
   ⟨dd_139_17, rfl⟩,
   ⟨rfl, tw_648, by decide, tw_372, by decide +kernel, 38, tw_753, dd_139_18, tw_650, by decide +kernel⟩,
   ⟨75, dd_139_21, rfl, rfl⟩,
   Or.inl ⟨0, rfl, dd_139_24, rfl⟩,
   ⟨18, "PairMachine$Display", fT8, 4, dd_139_25, rfl, okc_8, by decide, tw_742⟩,
   ⟨rfl, ⟨tw_749, by decide, tw_738, by decide +kernel, 34, tw_750, dd_139_28, tw_751, ⟨"java/lang/StringBuilder", fT9, 4, rfl, tw_752⟩, by decide +kernel⟩, by decide, by decide⟩,
   Or.inl (Or.inr (Or.inl ⟨dd_139_31, rfl, by decide⟩)),
   ⟨63, dd_139_33, rfl, rfl⟩,
   Or.inl ⟨0, rfl, dd_139_36, rfl⟩,
   ⟨dd_139_37, rfl⟩,
   ⟨30, "PairMachine$Display", fT8, 4, dd_139_38, rfl, okc_8, by decide, tw_748⟩,
   Or.inl (Or.inl ⟨dd_139_41, rfl⟩),
   ⟨dd_139_42, rfl⟩,
   ⟨30, "PairMachine$Display", fT8, 4, dd_139_43, rfl, okc_8, by decide, tw_748, rfl, Or.inl rfl⟩,
   Or.inl ⟨0, rfl, dd_139_46, rfl⟩,
   ⟨22, "PairMachine$Display", fT8, 4, dd_139_47, rfl, okc_8, by decide, tw_743⟩,
   Or.inl ⟨0, rfl, dd_139_50, rfl⟩,
   ⟨30, "PairMachine$Display", fT8, 4, dd_139_51, rfl, okc_8, by decide, tw_748⟩,
   ⟨dd_139_54, rfl⟩,
   Or.inl ⟨0, rfl, dd_139_55, rfl⟩,
   ⟨dd_139_56, rfl⟩,
   ⟨26, dd_139_57, rfl, rfl⟩,
   Or.inl ⟨0, rfl, dd_139_60, rfl⟩,
   ⟨18, "PairMachine$Display", fT8, 4, dd_139_61, rfl, okc_8, by decide, tw_742⟩,
   ⟨64, " . ", dd_139_64, rfl, by decide +kernel, by decide⟩,
   ⟨rfl, ⟨tw_768, by decide, tw_738, by decide +kernel, 66, tw_769, dd_139_66, tw_770, ⟨"java/lang/StringBuilder", fT9, 4, rfl, tw_771⟩, by decide +kernel⟩, by decide, by decide⟩,
   ⟨dd_139_69, rfl⟩,
   Or.inl ⟨0, rfl, dd_139_70, rfl⟩,
   Or.inl ⟨0, rfl, dd_139_71, rfl⟩,
   ⟨22, "PairMachine$Display", fT8, 4, dd_139_72, rfl, okc_8, by decide, tw_743⟩,
   Or.inl ⟨0, rfl, dd_139_75, rfl⟩,
   ⟨30, "PairMachine$Display", fT8, 4, dd_139_76, rfl, okc_8, by decide, tw_748⟩,
   ⟨dd_139_79, rfl⟩,
   ⟨rfl, tw_760, by decide, tw_516, by decide +kernel, 57, tw_761, dd_139_80, tw_762, ⟨"PairMachine$Display", fT8, 4, rfl, tw_763⟩, by decide +kernel⟩,
   Or.inl ⟨0, rfl, dd_139_83, rfl⟩,
   ⟨18, "PairMachine$Display", fT8, 4, dd_139_84, rfl, okc_8, by decide, tw_742⟩,
   Or.inl (Or.inr (Or.inl ⟨dd_139_87, rfl, by decide⟩)),
   ⟨rfl, ⟨tw_754, by decide, tw_738, by decide +kernel, 44, tw_755, dd_139_89, tw_756, ⟨"java/lang/StringBuilder", fT9, 4, rfl, tw_757⟩, by decide +kernel⟩, by decide, by decide⟩,
   ⟨dd_139_92, rfl⟩,
   ⟨(-93), dd_139_93, rfl⟩,
   ⟨dd_139_96, rfl⟩, trivial⟩
theorem okM_139 : mj_okE gG 139 (cM_139, 1, oM_139, hM_139) := ⟨rfl, rfl, by decide +kernel, trivial, okI_139⟩
theorem dd_140_0 : decode prog_4_method_4_code 0 = .ok (.lload_n 1, 1) := by decide +kernel
theorem dd_140_1 : decode prog_4_method_4_code 1 = .ok (.invokestatic 69, 3) := by decide +kernel
theorem dd_140_4 : decode prog_4_method_4_code 4 = .ok (.ifCond .eq 18, 3) := by decide +kernel
theorem dd_140_7 : decode prog_4_method_4_code 7 = .ok (.aload_n 0, 1) := by decide +kernel
theorem dd_140_8 : decode prog_4_method_4_code 8 = .ok (.getfield 18, 3) := by decide +kernel
theorem dd_140_11 : decode prog_4_method_4_code 11 = .ok (.lload_n 1, 1) := by decide +kernel
theorem dd_140_12 : decode prog_4_method_4_code 12 = .ok (.invokestatic 72, 3) := by decide +kernel
theorem dd_140_15 : decode prog_4_method_4_code 15 = .ok (.invokevirtual 76, 3) := by decide +kernel
theorem dd_140_18 : decode prog_4_method_4_code 18 = .ok (.pop, 1) := by decide +kernel
theorem dd_140_19 : decode prog_4_method_4_code 19 = .ok (.goto 56, 3) := by decide +kernel
theorem dd_140_22 : decode prog_4_method_4_code 22 = .ok (.lload_n 1, 1) := by decide +kernel
theorem dd_140_23 : decode prog_4_method_4_code 23 = .ok (.invokestatic 79, 3) := by decide +kernel
theorem dd_140_26 : decode prog_4_method_4_code 26 = .ok (.ifCond .eq 19, 3) := by decide +kernel
theorem dd_140_29 : decode prog_4_method_4_code 29 = .ok (.aload_n 0, 1) := by decide +kernel
theorem dd_140_30 : decode prog_4_method_4_code 30 = .ok (.getfield 18, 3) := by decide +kernel
theorem dd_140_33 : decode prog_4_method_4_code 33 = .ok (.lload_n 1, 1) := by decide +kernel
theorem dd_140_34 : decode prog_4_method_4_code 34 = .ok (.invokestatic 72, 3) := by decide +kernel
theorem dd_140_37 : decode prog_4_method_4_code 37 = .ok (.i2c, 1) := by decide +kernel
theorem dd_140_38 : decode prog_4_method_4_code 38 = .ok (.invokevirtual 44, 3) := by decide +kernel
theorem dd_140_41 : decode prog_4_method_4_code 41 = .ok (.pop, 1) := by decide +kernel
theorem dd_140_42 : decode prog_4_method_4_code 42 = .ok (.goto 33, 3) := by decide +kernel
theorem dd_140_45 : decode prog_4_method_4_code 45 = .ok (.lload_n 1, 1) := by decide +kernel
theorem dd_140_46 : decode prog_4_method_4_code 46 = .ok (.invokestatic 82, 3) := by decide +kernel
theorem dd_140_49 : decode prog_4_method_4_code 49 = .ok (.ifCond .eq 16, 3) := by decide +kernel
theorem dd_140_52 : decode prog_4_method_4_code 52 = .ok (.aload_n 0, 1) := by decide +kernel
theorem dd_140_53 : decode prog_4_method_4_code 53 = .ok (.getfield 18, 3) := by decide +kernel
theorem dd_140_56 : decode prog_4_method_4_code 56 = .ok (.bipush 35, 2) := by decide +kernel
theorem dd_140_58 : decode prog_4_method_4_code 58 = .ok (.invokevirtual 44, 3) := by decide +kernel
theorem dd_140_61 : decode prog_4_method_4_code 61 = .ok (.pop, 1) := by decide +kernel
theorem dd_140_62 : decode prog_4_method_4_code 62 = .ok (.goto 13, 3) := by decide +kernel
theorem dd_140_65 : decode prog_4_method_4_code 65 = .ok (.aload_n 0, 1) := by decide +kernel
theorem dd_140_66 : decode prog_4_method_4_code 66 = .ok (.getfield 18, 3) := by decide +kernel
theorem dd_140_69 : decode prog_4_method_4_code 69 = .ok (.ldc 85, 2) := by decide +kernel
theorem dd_140_71 : decode prog_4_method_4_code 71 = .ok (.invokevirtual 66, 3) := by decide +kernel
theorem dd_140_74 : decode prog_4_method_4_code 74 = .ok (.pop, 1) := by decide +kernel
theorem dd_140_75 : decode prog_4_method_4_code 75 = .ok (.return_, 1) := by decide +kernel
set_option maxRecDepth 100000 in
theorem okI_140 : mj_okI gG "PairMachine$Display" prog_4_method_4_code 3 (mj_off oM_140) (Option.none : Option Jvm.ClassFile.FieldType) false true 0 cM_140 :=
  ⟨Or.inl ⟨1, rfl, dd_140_0, rfl⟩,
   ⟨rfl, tw_666, by decide, tw_372, by decide +kernel, 69, tw_772, dd_140_1, tw_668, by decide +kernel⟩,
   ⟨18, dd_140_4, rfl, rfl⟩,
   Or.inl ⟨0, rfl, dd_140_7, rfl⟩,
   ⟨18, "PairMachine$Display", fT8, 4, dd_140_8, rfl, okc_8, by decide, tw_742⟩,
   Or.inl ⟨1, rfl, dd_140_11, rfl⟩,
   ⟨rfl, tw_641, by decide, tw_372, by decide +kernel, 72, tw_773, dd_140_12, tw_643, by decide +kernel⟩,
   ⟨rfl, ⟨tw_774, by decide, tw_738, by decide +kernel, 76, tw_775, dd_140_15, tw_776, ⟨"java/lang/StringBuilder", fT9, 4, rfl, tw_777⟩, by decide +kernel⟩, by decide, by decide⟩,
   ⟨dd_140_18, rfl⟩,
   ⟨56, dd_140_19, rfl⟩,
   Or.inl ⟨1, rfl, dd_140_22, rfl⟩,
   ⟨rfl, tw_778, by decide, tw_372, by decide +kernel, 79, tw_779, dd_140_23, tw_780, by decide +kernel⟩,
   ⟨19, dd_140_26, rfl, rfl⟩,
   Or.inl ⟨0, rfl, dd_140_29, rfl⟩,
   ⟨18, "PairMachine$Display", fT8, 4, dd_140_30, rfl, okc_8, by decide, tw_742⟩,
   Or.inl ⟨1, rfl, dd_140_33, rfl⟩,
   ⟨rfl, tw_641, by decide, tw_372, by decide +kernel, 72, tw_773, dd_140_34, tw_643, by decide +kernel⟩,
   ⟨dd_140_37, rfl⟩,
   ⟨rfl, ⟨tw_754, by decide, tw_738, by decide +kernel, 44, tw_755, dd_140_38, tw_756, ⟨"java/lang/StringBuilder", fT9, 4, rfl, tw_757⟩, by decide +kernel⟩, by decide, by decide⟩,
   ⟨dd_140_41, rfl⟩,
   ⟨33, dd_140_42, rfl⟩,
   Or.inl ⟨1, rfl, dd_140_45, rfl⟩,
   ⟨rfl, tw_655, by decide, tw_372, by decide +kernel, 82, tw_781, dd_140_46, tw_657, by decide +kernel⟩,
   ⟨16, dd_140_49, rfl, rfl⟩,
   Or.inl ⟨0, rfl, dd_140_52, rfl⟩,
   ⟨18, "PairMachine$Display", fT8, 4, dd_140_53, rfl, okc_8, by decide, tw_742⟩,
   Or.inl (Or.inr (Or.inl ⟨dd_140_56, rfl, by decide⟩)),
   ⟨rfl, ⟨tw_754, by decide, tw_738, by decide +kernel, 44, tw_755, dd_140_58, tw_756, ⟨"java/lang/StringBuilder", fT9, 4, rfl, tw_757⟩, by decide +kernel⟩, by decide, by decide⟩,
   ⟨dd_140_61, rfl⟩,
   ⟨13, dd_140_62, rfl⟩,
   Or.inl ⟨0, rfl, dd_140_65, rfl⟩,
   ⟨18, "PairMachine$Display", fT8, 4, dd_140_66, rfl, okc_8, by decide, tw_742⟩,
   ⟨85, "()", dd_140_69, rfl, by decide +kernel, by decide⟩,
   ⟨rfl, ⟨tw_768, by decide, tw_738, by decide +kernel, 66, tw_769, dd_140_71, tw_770, ⟨"java/lang/StringBuilder", fT9, 4, rfl, tw_771⟩, by decide +kernel⟩, by decide, by decide⟩,
   ⟨dd_140_74, rfl⟩,
   ⟨dd_140_75, rfl⟩, trivial⟩
theorem okM_140 : mj_okE gG 140 (cM_140, 3, oM_140, hM_140) := ⟨rfl, rfl, by decide +kernel, trivial, okI_140⟩
theorem dd_141_0 : decode prog_4_method_5_code 0 = .ok (.iload_n 1, 1) := by decide +kernel
theorem dd_141_1 : decode prog_4_method_5_code 1 = .ok (.ifCond .lt 31, 3) := by decide +kernel
theorem dd_141_4 : decode prog_4_method_5_code 4 = .ok (.iload_n 1, 1) := by decide +kernel
theorem dd_141_5 : decode prog_4_method_5_code 5 = .ok (.bipush 120, 2) := by decide +kernel
theorem dd_141_7 : decode prog_4_method_5_code 7 = .ok (.if_icmp .ge 25, 3) := by decide +kernel
theorem dd_141_10 : decode prog_4_method_5_code 10 = .ok (.iload_n 1, 1) := by decide +kernel
theorem dd_141_11 : decode prog_4_method_5_code 11 = .ok (.aload_n 0, 1) := by decide +kernel
theorem dd_141_12 : decode prog_4_method_5_code 12 = .ok (.getfield 18, 3) := by decide +kernel
theorem dd_141_15 : decode prog_4_method_5_code 15 = .ok (.invokevirtual 34, 3) := by decide +kernel
theorem dd_141_18 : decode prog_4_method_5_code 18 = .ok (.if_icmp .ge 14, 3) := by decide +kernel
theorem dd_141_21 : decode prog_4_method_5_code 21 = .ok (.aload_n 0, 1) := by decide +kernel
theorem dd_141_22 : decode prog_4_method_5_code 22 = .ok (.getfield 18, 3) := by decide +kernel
theorem dd_141_25 : decode prog_4_method_5_code 25 = .ok (.iload_n 1, 1) := by decide +kernel
theorem dd_141_26 : decode prog_4_method_5_code 26 = .ok (.invokevirtual 87, 3) := by decide +kernel
theorem dd_141_29 : decode prog_4_method_5_code 29 = .ok (.goto 4, 3) := by decide +kernel
theorem dd_141_32 : decode prog_4_method_5_code 32 = .ok (.iconst (-1), 1) := by decide +kernel
theorem dd_141_33 : decode prog_4_method_5_code 33 = .ok (.ireturn, 1) := by decide +kernel
set_option maxRecDepth 100000 in
theorem okI_141 : mj_okI gG "PairMachine$Display" prog_4_method_5_code 2 (mj_off oM_141) (Option.some Jvm.ClassFile.FieldType.int) false true 0 cM_141 :=
  ⟨Or.inl ⟨1, rfl, dd_141_0, rfl⟩,
   ⟨31, dd_141_1, rfl, rfl⟩,
   Or.inl ⟨1, rfl, dd_141_4, rfl⟩,
   Or.inl (Or.inr (Or.inl ⟨dd_141_5, rfl, by decide⟩)),
   ⟨25, dd_141_7, rfl, rfl⟩,
   Or.inl ⟨1, rfl, dd_141_10, rfl⟩,
   Or.inl ⟨0, rfl, dd_141_11, rfl⟩,
   ⟨18, "PairMachine$Display", fT8, 4, dd_141_12, rfl, okc_8, by decide, tw_742⟩,
   ⟨rfl, ⟨tw_749, by decide, tw_738, by decide +kernel, 34, tw_750, dd_141_15, tw_751, ⟨"java/lang/StringBuilder", fT9, 4, rfl, tw_752⟩, by decide +kernel⟩, by decide, by decide⟩,
   ⟨14, dd_141_18, rfl, rfl⟩,
   Or.inl ⟨0, rfl, dd_141_21, rfl⟩,
   ⟨18, "PairMachine$Display", fT8, 4, dd_141_22, rfl, okc_8, by decide, tw_742⟩,
   Or.inl ⟨1, rfl, dd_141_25, rfl⟩,
   ⟨rfl, ⟨tw_782, by decide, tw_738, by decide +kernel, 87, tw_783, dd_141_26, tw_784, ⟨"java/lang/StringBuilder", fT9, 4, rfl, tw_785⟩, by decide +kernel⟩, by decide, by decide⟩,
   ⟨4, dd_141_29, rfl⟩,
   Or.inl (Or.inl ⟨dd_141_32, rfl⟩),
   ⟨dd_141_33, rfl⟩, trivial⟩
theorem okM_141 : mj_okE gG 141 (cM_141, 2, oM_141, hM_141) := ⟨rfl, rfl, by decide +kernel, trivial, okI_141⟩
theorem dd_142_0 : decode prog_6_method_2_code 0 = .ok (.iload_n 0, 1) := by decide +kernel
theorem dd_142_1 : decode prog_6_method_2_code 1 = .ok (.ifCond .lt 19, 3) := by decide +kernel
theorem dd_142_4 : decode prog_6_method_2_code 4 = .ok (.iload_n 0, 1) := by decide +kernel
theorem dd_142_5 : decode prog_6_method_2_code 5 = .ok (.getstatic 9, 3) := by decide +kernel
theorem dd_142_8 : decode prog_6_method_2_code 8 = .ok (.arraylength, 1) := by decide +kernel
theorem dd_142_9 : decode prog_6_method_2_code 9 = .ok (.if_icmp .ge 11, 3) := by decide +kernel
theorem dd_142_12 : decode prog_6_method_2_code 12 = .ok (.getstatic 9, 3) := by decide +kernel
theorem dd_142_15 : decode prog_6_method_2_code 15 = .ok (.iload_n 0, 1) := by decide +kernel
theorem dd_142_16 : decode prog_6_method_2_code 16 = .ok (.iaload, 1) := by decide +kernel
theorem dd_142_17 : decode prog_6_method_2_code 17 = .ok (.goto 4, 3) := by decide +kernel
theorem dd_142_20 : decode prog_6_method_2_code 20 = .ok (.iconst 0, 1) := by decide +kernel
theorem dd_142_21 : decode prog_6_method_2_code 21 = .ok (.ireturn, 1) := by decide +kernel
set_option maxRecDepth 100000 in
theorem okI_142 : mj_okI gG "PairMachine$Op" prog_6_method_2_code 1 (mj_off oM_142) (Option.some Jvm.ClassFile.FieldType.int) false true 0 cM_142 :=
  ⟨Or.inl ⟨0, rfl, dd_142_0, rfl⟩,
   ⟨19, dd_142_1, rfl, rfl⟩,
   Or.inl ⟨0, rfl, dd_142_4, rfl⟩,
   ⟨9, "PairMachine$Op", "NEEDS", "[I", dd_142_5, rfl, by decide +kernel, tw_786⟩,
   ⟨dd_142_8, rfl⟩,
   ⟨11, dd_142_9, rfl, rfl⟩,
   ⟨9, "PairMachine$Op", "NEEDS", "[I", dd_142_12, rfl, by decide +kernel, tw_786⟩,
   Or.inl ⟨0, rfl, dd_142_15, rfl⟩,
   ⟨dd_142_16, rfl⟩,
   ⟨4, dd_142_17, rfl⟩,
   Or.inl (Or.inl ⟨dd_142_20, rfl⟩),
   ⟨dd_142_21, rfl⟩, trivial⟩
theorem okM_142 : mj_okE gG 142 (cM_142, 1, oM_142, hM_142) := ⟨rfl, rfl, by decide +kernel, trivial, okI_142⟩
theorem dd_143_0 : decode prog_6_method_3_code 0 = .ok (.iload_n 0, 1) := by decide +kernel
theorem dd_143_1 : decode prog_6_method_3_code 1 = .ok (.bipush 63, 2) := by decide +kernel
theorem dd_143_3 : decode prog_6_method_3_code 3 = .ok (.if_icmp .ne 6, 3) := by decide +kernel
theorem dd_143_6 : decode prog_6_method_3_code 6 = .ok (.bipush 8, 2) := by decide +kernel
theorem dd_143_8 : decode prog_6_method_3_code 8 = .ok (.ireturn, 1) := by decide +kernel
theorem dd_143_9 : decode prog_6_method_3_code 9 = .ok (.ldc 15, 2) := by decide +kernel
theorem dd_143_11 : decode prog_6_method_3_code 11 = .ok (.iload_n 0, 1) := by decide +kernel
theorem dd_143_12 : decode prog_6_method_3_code 12 = .ok (.i2c, 1) := by decide +kernel
theorem dd_143_13 : decode prog_6_method_3_code 13 = .ok (.invokevirtual 17, 3) := by decide +kernel
theorem dd_143_16 : decode prog_6_method_3_code 16 = .ok (.istore_n 1, 1) := by decide +kernel
theorem dd_143_17 : decode prog_6_method_3_code 17 = .ok (.iload_n 1, 1) := by decide +kernel
theorem dd_143_18 : decode prog_6_method_3_code 18 = .ok (.ifCond .ge 7, 3) := by decide +kernel
theorem dd_143_21 : decode prog_6_method_3_code 21 = .ok (.iconst (-1), 1) := by decide +kernel
theorem dd_143_22 : decode prog_6_method_3_code 22 = .ok (.goto 7, 3) := by decide +kernel
theorem dd_143_25 : decode prog_6_method_3_code 25 = .ok (.bipush 10, 2) := by decide +kernel
theorem dd_143_27 : decode prog_6_method_3_code 27 = .ok (.iload_n 1, 1) := by decide +kernel
theorem dd_143_28 : decode prog_6_method_3_code 28 = .ok (.iadd, 1) := by decide +kernel
theorem dd_143_29 : decode prog_6_method_3_code 29 = .ok (.ireturn, 1) := by decide +kernel
set_option maxRecDepth 100000 in
theorem okI_143 : mj_okI gG "PairMachine$Op" prog_6_method_3_code 2 (mj_off oM_143) (Option.some Jvm.ClassFile.FieldType.int) false true 0 cM_143 :=
  ⟨Or.inl ⟨0, rfl, dd_143_0, rfl⟩,
   Or.inl (Or.inr (Or.inl ⟨dd_143_1, rfl, by decide⟩)),
   ⟨6, dd_143_3, rfl, rfl⟩,
   Or.inl (Or.inr (Or.inl ⟨dd_143_6, rfl, by decide⟩)),
   ⟨dd_143_8, rfl⟩,
   ⟨15, "^_!.=+-*<", dd_143_9, rfl, by decide +kernel, by decide⟩,
   Or.inl ⟨0, rfl, dd_143_11, rfl⟩,
   ⟨dd_143_12, rfl⟩,
   ⟨rfl, tw_787, by decide, tw_788, by decide +kernel, 17, tw_789, dd_143_13, tw_790, tw_791, by decide +kernel⟩,
   ⟨by decide, Or.inl ⟨1, rfl, dd_143_16, rfl⟩⟩,
   Or.inl ⟨1, rfl, dd_143_17, rfl⟩,
   ⟨7, dd_143_18, rfl, rfl⟩,
   Or.inl (Or.inl ⟨dd_143_21, rfl⟩),
   ⟨7, dd_143_22, rfl⟩,
   Or.inl (Or.inr (Or.inl ⟨dd_143_25, rfl, by decide⟩)),
   Or.inl ⟨1, rfl, dd_143_27, rfl⟩,
   ⟨dd_143_28, rfl⟩,
   ⟨dd_143_29, rfl⟩, trivial⟩
theorem okM_143 : mj_okE gG 143 (cM_143, 2, oM_143, hM_143) := ⟨rfl, rfl, by decide +kernel, trivial, okI_143⟩
theorem dd_144_0 : decode prog_6_method_4_code 0 = .ok (.iload_n 0, 1) := by decide +kernel
theorem dd_144_1 : decode prog_6_method_4_code 1 = .ok (.bipush 8, 2) := by decide +kernel
theorem dd_144_3 : decode prog_6_method_4_code 3 = .ok (.if_icmp .ne 5, 3) := by decide +kernel
theorem dd_144_6 : decode prog_6_method_4_code 6 = .ok (.iconst 3, 1) := by decide +kernel
theorem dd_144_7 : decode prog_6_method_4_code 7 = .ok (.ireturn, 1) := by decide +kernel
theorem dd_144_8 : decode prog_6_method_4_code 8 = .ok (.iload_n 0, 1) := by decide +kernel
theorem dd_144_9 : decode prog_6_method_4_code 9 = .ok (.bipush 12, 2) := by decide +kernel
theorem dd_144_11 : decode prog_6_method_4_code 11 = .ok (.if_icmp .gt 7, 3) := by decide +kernel
theorem dd_144_14 : decode prog_6_method_4_code 14 = .ok (.iconst 1, 1) := by decide +kernel
theorem dd_144_15 : decode prog_6_method_4_code 15 = .ok (.goto 4, 3) := by decide +kernel
theorem dd_144_18 : decode prog_6_method_4_code 18 = .ok (.iconst 2, 1) := by decide +kernel
theorem dd_144_19 : decode prog_6_method_4_code 19 = .ok (.ireturn, 1) := by decide +kernel
set_option maxRecDepth 100000 in
theorem okI_144 : mj_okI gG "PairMachine$Op" prog_6_method_4_code 1 (mj_off oM_144) (Option.some Jvm.ClassFile.FieldType.int) false true 0 cM_144 :=
  ⟨Or.inl ⟨0, rfl, dd_144_0, rfl⟩,
   Or.inl (Or.inr (Or.inl ⟨dd_144_1, rfl, by decide⟩)),
   ⟨5, dd_144_3, rfl, rfl⟩,
   Or.inl (Or.inl ⟨dd_144_6, rfl⟩),
   ⟨dd_144_7, rfl⟩,
   Or.inl ⟨0, rfl, dd_144_8, rfl⟩,
   Or.inl (Or.inr (Or.inl ⟨dd_144_9, rfl, by decide⟩)),
   ⟨7, dd_144_11, rfl, rfl⟩,
   Or.inl (Or.inl ⟨dd_144_14, rfl⟩),
   ⟨4, dd_144_15, rfl⟩,
   Or.inl (Or.inl ⟨dd_144_18, rfl⟩),
   ⟨dd_144_19, rfl⟩, trivial⟩
theorem okM_144 : mj_okE gG 144 (cM_144, 1, oM_144, hM_144) := ⟨rfl, rfl, by decide +kernel, trivial, okI_144⟩
theorem dd_145_0 : decode prog_11_method_2_code 0 = .ok (.ldc2_w 11, 3) := by decide +kernel
theorem dd_145_3 : decode prog_11_method_2_code 3 = .ok (.iload_n 0, 1) := by decide +kernel
theorem dd_145_4 : decode prog_11_method_2_code 4 = .ok (.i2l, 1) := by decide +kernel
theorem dd_145_5 : decode prog_11_method_2_code 5 = .ok (.ldc2_w 13, 3) := by decide +kernel
theorem dd_145_8 : decode prog_11_method_2_code 8 = .ok (.land, 1) := by decide +kernel
theorem dd_145_9 : decode prog_11_method_2_code 9 = .ok (.lor, 1) := by decide +kernel
theorem dd_145_10 : decode prog_11_method_2_code 10 = .ok (.lreturn, 1) := by decide +kernel
set_option maxRecDepth 100000 in
theorem okI_145 : mj_okI gG "PairMachine$Value" prog_11_method_2_code 1 (mj_off oM_145) (Option.some Jvm.ClassFile.FieldType.long) false true 0 cM_145 :=
  ⟨Or.inr ⟨11, dd_145_0, rfl, tw_792⟩,
   Or.inl ⟨0, rfl, dd_145_3, rfl⟩,
   ⟨dd_145_4, rfl⟩,
   Or.inr ⟨13, dd_145_5, rfl, tw_793⟩,
   ⟨dd_145_8, rfl⟩,
   ⟨dd_145_9, rfl⟩,
   ⟨dd_145_10, rfl⟩, trivial⟩
theorem okM_145 : mj_okE gG 145 (cM_145, 1, oM_145, hM_145) := ⟨rfl, rfl, by decide +kernel, trivial, okI_145⟩
theorem dd_146_0 : decode prog_11_method_3_code 0 = .ok (.ldc2_w 15, 3) := by decide +kernel
theorem dd_146_3 : decode prog_11_method_3_code 3 = .ok (.iload_n 0, 1) := by decide +kernel
theorem dd_146_4 : decode prog_11_method_3_code 4 = .ok (.i2l, 1) := by decide +kernel
theorem dd_146_5 : decode prog_11_method_3_code 5 = .ok (.ldc2_w 13, 3) := by decide +kernel
theorem dd_146_8 : decode prog_11_method_3_code 8 = .ok (.land, 1) := by decide +kernel
theorem dd_146_9 : decode prog_11_method_3_code 9 = .ok (.lor, 1) := by decide +kernel
theorem dd_146_10 : decode prog_11_method_3_code 10 = .ok (.lreturn, 1) := by decide +kernel
set_option maxRecDepth 100000 in
theorem okI_146 : mj_okI gG "PairMachine$Value" prog_11_method_3_code 1 (mj_off oM_146) (Option.some Jvm.ClassFile.FieldType.long) false true 0 cM_146 :=
  ⟨Or.inr ⟨15, dd_146_0, rfl, tw_794⟩,
   Or.inl ⟨0, rfl, dd_146_3, rfl⟩,
   ⟨dd_146_4, rfl⟩,
   Or.inr ⟨13, dd_146_5, rfl, tw_793⟩,
   ⟨dd_146_8, rfl⟩,
   ⟨dd_146_9, rfl⟩,
   ⟨dd_146_10, rfl⟩, trivial⟩
theorem okM_146 : mj_okE gG 146 (cM_146, 1, oM_146, hM_146) := ⟨rfl, rfl, by decide +kernel, trivial, okI_146⟩
theorem dd_147_0 : decode prog_11_method_4_code 0 = .ok (.ldc2_w 17, 3) := by decide +kernel
theorem dd_147_3 : decode prog_11_method_4_code 3 = .ok (.iload_n 0, 1) := by decide +kernel
theorem dd_147_4 : decode prog_11_method_4_code 4 = .ok (.i2l, 1) := by decide +kernel
theorem dd_147_5 : decode prog_11_method_4_code 5 = .ok (.ldc2_w 13, 3) := by decide +kernel
theorem dd_147_8 : decode prog_11_method_4_code 8 = .ok (.land, 1) := by decide +kernel
theorem dd_147_9 : decode prog_11_method_4_code 9 = .ok (.lor, 1) := by decide +kernel
theorem dd_147_10 : decode prog_11_method_4_code 10 = .ok (.lreturn, 1) := by decide +kernel
set_option maxRecDepth 100000 in
theorem okI_147 : mj_okI gG "PairMachine$Value" prog_11_method_4_code 1 (mj_off oM_147) (Option.some Jvm.ClassFile.FieldType.long) false true 0 cM_147 :=
  ⟨Or.inr ⟨17, dd_147_0, rfl, tw_795⟩,
   Or.inl ⟨0, rfl, dd_147_3, rfl⟩,
   ⟨dd_147_4, rfl⟩,
   Or.inr ⟨13, dd_147_5, rfl, tw_793⟩,
   ⟨dd_147_8, rfl⟩,
   ⟨dd_147_9, rfl⟩,
   ⟨dd_147_10, rfl⟩, trivial⟩
theorem okM_147 : mj_okE gG 147 (cM_147, 1, oM_147, hM_147) := ⟨rfl, rfl, by decide +kernel, trivial, okI_147⟩
theorem dd_148_0 : decode prog_11_method_5_code 0 = .ok (.ldc2_w 19, 3) := by decide +kernel
theorem dd_148_3 : decode prog_11_method_5_code 3 = .ok (.iload_n 0, 1) := by decide +kernel
theorem dd_148_4 : decode prog_11_method_5_code 4 = .ok (.i2l, 1) := by decide +kernel
theorem dd_148_5 : decode prog_11_method_5_code 5 = .ok (.ldc2_w 13, 3) := by decide +kernel
theorem dd_148_8 : decode prog_11_method_5_code 8 = .ok (.land, 1) := by decide +kernel
theorem dd_148_9 : decode prog_11_method_5_code 9 = .ok (.lor, 1) := by decide +kernel
theorem dd_148_10 : decode prog_11_method_5_code 10 = .ok (.lreturn, 1) := by decide +kernel
set_option maxRecDepth 100000 in
theorem okI_148 : mj_okI gG "PairMachine$Value" prog_11_method_5_code 1 (mj_off oM_148) (Option.some Jvm.ClassFile.FieldType.long) false true 0 cM_148 :=
  ⟨Or.inr ⟨19, dd_148_0, rfl, tw_796⟩,
   Or.inl ⟨0, rfl, dd_148_3, rfl⟩,
   ⟨dd_148_4, rfl⟩,
   Or.inr ⟨13, dd_148_5, rfl, tw_793⟩,
   ⟨dd_148_8, rfl⟩,
   ⟨dd_148_9, rfl⟩,
   ⟨dd_148_10, rfl⟩, trivial⟩
theorem okM_148 : mj_okE gG 148 (cM_148, 1, oM_148, hM_148) := ⟨rfl, rfl, by decide +kernel, trivial, okI_148⟩
theorem dd_149_0 : decode prog_11_method_6_code 0 = .ok (.lload_n 0, 1) := by decide +kernel
theorem dd_149_1 : decode prog_11_method_6_code 1 = .ok (.bipush 32, 2) := by decide +kernel
theorem dd_149_3 : decode prog_11_method_6_code 3 = .ok (.lshr, 1) := by decide +kernel
theorem dd_149_4 : decode prog_11_method_6_code 4 = .ok (.lconst 1, 1) := by decide +kernel
theorem dd_149_5 : decode prog_11_method_6_code 5 = .ok (.lcmp, 1) := by decide +kernel
theorem dd_149_6 : decode prog_11_method_6_code 6 = .ok (.ifCond .ne 7, 3) := by decide +kernel
theorem dd_149_9 : decode prog_11_method_6_code 9 = .ok (.iconst 1, 1) := by decide +kernel
theorem dd_149_10 : decode prog_11_method_6_code 10 = .ok (.goto 4, 3) := by decide +kernel
theorem dd_149_13 : decode prog_11_method_6_code 13 = .ok (.iconst 0, 1) := by decide +kernel
theorem dd_149_14 : decode prog_11_method_6_code 14 = .ok (.ireturn, 1) := by decide +kernel
set_option maxRecDepth 100000 in
theorem okI_149 : mj_okI gG "PairMachine$Value" prog_11_method_6_code 2 (mj_off oM_149) (Option.some Jvm.ClassFile.FieldType.boolean) false true 0 cM_149 :=
  ⟨Or.inl ⟨0, rfl, dd_149_0, rfl⟩,
   Or.inl (Or.inr (Or.inl ⟨dd_149_1, rfl, by decide⟩)),
   ⟨dd_149_3, rfl⟩,
   Or.inl ⟨1, rfl, dd_149_4, rfl⟩,
   ⟨dd_149_5, rfl⟩,
   ⟨7, dd_149_6, rfl, rfl⟩,
   Or.inl (Or.inl ⟨dd_149_9, rfl⟩),
   ⟨4, dd_149_10, rfl⟩,
   Or.inl (Or.inl ⟨dd_149_13, rfl⟩),
   ⟨dd_149_14, rfl⟩, trivial⟩
theorem okM_149 : mj_okE gG 149 (cM_149, 2, oM_149, hM_149) := ⟨rfl, rfl, by decide +kernel, trivial, okI_149⟩
theorem dd_150_0 : decode prog_11_method_7_code 0 = .ok (.lload_n 0, 1) := by decide +kernel
theorem dd_150_1 : decode prog_11_method_7_code 1 = .ok (.bipush 32, 2) := by decide +kernel
theorem dd_150_3 : decode prog_11_method_7_code 3 = .ok (.lshr, 1) := by decide +kernel
theorem dd_150_4 : decode prog_11_method_7_code 4 = .ok (.ldc2_w 21, 3) := by decide +kernel
theorem dd_150_7 : decode prog_11_method_7_code 7 = .ok (.lcmp, 1) := by decide +kernel
theorem dd_150_8 : decode prog_11_method_7_code 8 = .ok (.ifCond .ne 7, 3) := by decide +kernel
theorem dd_150_11 : decode prog_11_method_7_code 11 = .ok (.iconst 1, 1) := by decide +kernel
theorem dd_150_12 : decode prog_11_method_7_code 12 = .ok (.goto 4, 3) := by decide +kernel
theorem dd_150_15 : decode prog_11_method_7_code 15 = .ok (.iconst 0, 1) := by decide +kernel
theorem dd_150_16 : decode prog_11_method_7_code 16 = .ok (.ireturn, 1) := by decide +kernel
set_option maxRecDepth 100000 in
theorem okI_150 : mj_okI gG "PairMachine$Value" prog_11_method_7_code 2 (mj_off oM_150) (Option.some Jvm.ClassFile.FieldType.boolean) false true 0 cM_150 :=
  ⟨Or.inl ⟨0, rfl, dd_150_0, rfl⟩,
   Or.inl (Or.inr (Or.inl ⟨dd_150_1, rfl, by decide⟩)),
   ⟨dd_150_3, rfl⟩,
   Or.inr ⟨21, dd_150_4, rfl, tw_797⟩,
   ⟨dd_150_7, rfl⟩,
   ⟨7, dd_150_8, rfl, rfl⟩,
   Or.inl (Or.inl ⟨dd_150_11, rfl⟩),
   ⟨4, dd_150_12, rfl⟩,
   Or.inl (Or.inl ⟨dd_150_15, rfl⟩),
   ⟨dd_150_16, rfl⟩, trivial⟩
theorem okM_150 : mj_okE gG 150 (cM_150, 2, oM_150, hM_150) := ⟨rfl, rfl, by decide +kernel, trivial, okI_150⟩
theorem dd_151_0 : decode prog_11_method_8_code 0 = .ok (.lload_n 0, 1) := by decide +kernel
theorem dd_151_1 : decode prog_11_method_8_code 1 = .ok (.bipush 32, 2) := by decide +kernel
theorem dd_151_3 : decode prog_11_method_8_code 3 = .ok (.lshr, 1) := by decide +kernel
theorem dd_151_4 : decode prog_11_method_8_code 4 = .ok (.ldc2_w 23, 3) := by decide +kernel
theorem dd_151_7 : decode prog_11_method_8_code 7 = .ok (.lcmp, 1) := by decide +kernel
theorem dd_151_8 : decode prog_11_method_8_code 8 = .ok (.ifCond .ne 7, 3) := by decide +kernel
theorem dd_151_11 : decode prog_11_method_8_code 11 = .ok (.iconst 1, 1) := by decide +kernel
theorem dd_151_12 : decode prog_11_method_8_code 12 = .ok (.goto 4, 3) := by decide +kernel
theorem dd_151_15 : decode prog_11_method_8_code 15 = .ok (.iconst 0, 1) := by decide +kernel
theorem dd_151_16 : decode prog_11_method_8_code 16 = .ok (.ireturn, 1) := by decide +kernel
set_option maxRecDepth 100000 in
theorem okI_151 : mj_okI gG "PairMachine$Value" prog_11_method_8_code 2 (mj_off oM_151) (Option.some Jvm.ClassFile.FieldType.boolean) false true 0 cM_151 :=
  ⟨Or.inl ⟨0, rfl, dd_151_0, rfl⟩,
   Or.inl (Or.inr (Or.inl ⟨dd_151_1, rfl, by decide⟩)),
   ⟨dd_151_3, rfl⟩,
   Or.inr ⟨23, dd_151_4, rfl, tw_798⟩,
   ⟨dd_151_7, rfl⟩,
   ⟨7, dd_151_8, rfl, rfl⟩,
   Or.inl (Or.inl ⟨dd_151_11, rfl⟩),
   ⟨4, dd_151_12, rfl⟩,
   Or.inl (Or.inl ⟨dd_151_15, rfl⟩),
   ⟨dd_151_16, rfl⟩, trivial⟩
theorem okM_151 : mj_okE gG 151 (cM_151, 2, oM_151, hM_151) := ⟨rfl, rfl, by decide +kernel, trivial, okI_151⟩
theorem dd_152_0 : decode prog_11_method_9_code 0 = .ok (.lload_n 0, 1) := by decide +kernel
theorem dd_152_1 : decode prog_11_method_9_code 1 = .ok (.bipush 32, 2) := by decide +kernel
theorem dd_152_3 : decode prog_11_method_9_code 3 = .ok (.lshr, 1) := by decide +kernel
theorem dd_152_4 : decode prog_11_method_9_code 4 = .ok (.ldc2_w 25, 3) := by decide +kernel
theorem dd_152_7 : decode prog_11_method_9_code 7 = .ok (.lcmp, 1) := by decide +kernel
theorem dd_152_8 : decode prog_11_method_9_code 8 = .ok (.ifCond .ne 7, 3) := by decide +kernel
theorem dd_152_11 : decode prog_11_method_9_code 11 = .ok (.iconst 1, 1) := by decide +kernel
theorem dd_152_12 : decode prog_11_method_9_code 12 = .ok (.goto 4, 3) := by decide +kernel
theorem dd_152_15 : decode prog_11_method_9_code 15 = .ok (.iconst 0, 1) := by decide +kernel
theorem dd_152_16 : decode prog_11_method_9_code 16 = .ok (.ireturn, 1) := by decide +kernel
set_option maxRecDepth 100000 in
theorem okI_152 : mj_okI gG "PairMachine$Value" prog_11_method_9_code 2 (mj_off oM_152) (Option.some Jvm.ClassFile.FieldType.boolean) false true 0 cM_152 :=
  ⟨Or.inl ⟨0, rfl, dd_152_0, rfl⟩,
   Or.inl (Or.inr (Or.inl ⟨dd_152_1, rfl, by decide⟩)),
   ⟨dd_152_3, rfl⟩,
   Or.inr ⟨25, dd_152_4, rfl, tw_799⟩,
   ⟨dd_152_7, rfl⟩,
   ⟨7, dd_152_8, rfl, rfl⟩,
   Or.inl (Or.inl ⟨dd_152_11, rfl⟩),
   ⟨4, dd_152_12, rfl⟩,
   Or.inl (Or.inl ⟨dd_152_15, rfl⟩),
   ⟨dd_152_16, rfl⟩, trivial⟩
theorem okM_152 : mj_okE gG 152 (cM_152, 2, oM_152, hM_152) := ⟨rfl, rfl, by decide +kernel, trivial, okI_152⟩
theorem dd_153_0 : decode prog_11_method_10_code 0 = .ok (.lload_n 0, 1) := by decide +kernel
theorem dd_153_1 : decode prog_11_method_10_code 1 = .ok (.bipush 32, 2) := by decide +kernel
theorem dd_153_3 : decode prog_11_method_10_code 3 = .ok (.lshr, 1) := by decide +kernel
theorem dd_153_4 : decode prog_11_method_10_code 4 = .ok (.ldc2_w 21, 3) := by decide +kernel
theorem dd_153_7 : decode prog_11_method_10_code 7 = .ok (.lcmp, 1) := by decide +kernel
theorem dd_153_8 : decode prog_11_method_10_code 8 = .ok (.ifCond .lt 8, 3) := by decide +kernel
theorem dd_153_11 : decode prog_11_method_10_code 11 = .ok (.lload_n 0, 1) := by decide +kernel
theorem dd_153_12 : decode prog_11_method_10_code 12 = .ok (.l2i, 1) := by decide +kernel
theorem dd_153_13 : decode prog_11_method_10_code 13 = .ok (.goto 4, 3) := by decide +kernel
theorem dd_153_16 : decode prog_11_method_10_code 16 = .ok (.iconst (-1), 1) := by decide +kernel
theorem dd_153_17 : decode prog_11_method_10_code 17 = .ok (.ireturn, 1) := by decide +kernel
set_option maxRecDepth 100000 in
theorem okI_153 : mj_okI gG "PairMachine$Value" prog_11_method_10_code 2 (mj_off oM_153) (Option.some Jvm.ClassFile.FieldType.int) false true 0 cM_153 :=
  ⟨Or.inl ⟨0, rfl, dd_153_0, rfl⟩,
   Or.inl (Or.inr (Or.inl ⟨dd_153_1, rfl, by decide⟩)),
   ⟨dd_153_3, rfl⟩,
   Or.inr ⟨21, dd_153_4, rfl, tw_797⟩,
   ⟨dd_153_7, rfl⟩,
   ⟨8, dd_153_8, rfl, rfl⟩,
   Or.inl ⟨0, rfl, dd_153_11, rfl⟩,
   ⟨dd_153_12, rfl⟩,
   ⟨4, dd_153_13, rfl⟩,
   Or.inl (Or.inl ⟨dd_153_16, rfl⟩),
   ⟨dd_153_17, rfl⟩, trivial⟩
theorem okM_153 : mj_okE gG 153 (cM_153, 2, oM_153, hM_153) := ⟨rfl, rfl, by decide +kernel, trivial, okI_153⟩
theorem dd_154_0 : decode prog_11_method_11_code 0 = .ok (.lload_n 0, 1) := by decide +kernel
theorem dd_154_1 : decode prog_11_method_11_code 1 = .ok (.l2i, 1) := by decide +kernel
theorem dd_154_2 : decode prog_11_method_11_code 2 = .ok (.ireturn, 1) := by decide +kernel
set_option maxRecDepth 100000 in
theorem okI_154 : mj_okI gG "PairMachine$Value" prog_11_method_11_code 2 (mj_off oM_154) (Option.some Jvm.ClassFile.FieldType.int) false true 0 cM_154 :=
  ⟨Or.inl ⟨0, rfl, dd_154_0, rfl⟩,
   ⟨dd_154_1, rfl⟩,
   ⟨dd_154_2, rfl⟩, trivial⟩
theorem okM_154 : mj_okE gG 154 (cM_154, 2, oM_154, hM_154) := ⟨rfl, rfl, by decide +kernel, trivial, okI_154⟩
theorem dd_155_0 : decode prog_13_method_1_code 0 = .ok (.aload_n 0, 1) := by decide +kernel
theorem dd_155_1 : decode prog_13_method_1_code 1 = .ok (.invokespecial 1, 3) := by decide +kernel
theorem dd_155_4 : decode prog_13_method_1_code 4 = .ok (.aload_n 0, 1) := by decide +kernel
theorem dd_155_5 : decode prog_13_method_1_code 5 = .ok (.bipush 96, 2) := by decide +kernel
theorem dd_155_7 : decode prog_13_method_1_code 7 = .ok (.newarray .char, 2) := by decide +kernel
theorem dd_155_9 : decode prog_13_method_1_code 9 = .ok (.putfield 7, 3) := by decide +kernel
theorem dd_155_12 : decode prog_13_method_1_code 12 = .ok (.aload_n 0, 1) := by decide +kernel
theorem dd_155_13 : decode prog_13_method_1_code 13 = .ok (.iconst (-1), 1) := by decide +kernel
theorem dd_155_14 : decode prog_13_method_1_code 14 = .ok (.putfield 13, 3) := by decide +kernel
theorem dd_155_17 : decode prog_13_method_1_code 17 = .ok (.aload_n 0, 1) := by decide +kernel
theorem dd_155_18 : decode prog_13_method_1_code 18 = .ok (.bipush 100, 2) := by decide +kernel
theorem dd_155_20 : decode prog_13_method_1_code 20 = .ok (.newarray .int, 2) := by decide +kernel
theorem dd_155_22 : decode prog_13_method_1_code 22 = .ok (.putfield 17, 3) := by decide +kernel
theorem dd_155_25 : decode prog_13_method_1_code 25 = .ok (.aload_n 0, 1) := by decide +kernel
theorem dd_155_26 : decode prog_13_method_1_code 26 = .ok (.bipush 100, 2) := by decide +kernel
theorem dd_155_28 : decode prog_13_method_1_code 28 = .ok (.newarray .int, 2) := by decide +kernel
theorem dd_155_30 : decode prog_13_method_1_code 30 = .ok (.putfield 21, 3) := by decide +kernel
theorem dd_155_33 : decode prog_13_method_1_code 33 = .ok (.aload_n 0, 1) := by decide +kernel
theorem dd_155_34 : decode prog_13_method_1_code 34 = .ok (.bipush 100, 2) := by decide +kernel
theorem dd_155_36 : decode prog_13_method_1_code 36 = .ok (.newarray .int, 2) := by decide +kernel
theorem dd_155_38 : decode prog_13_method_1_code 38 = .ok (.putfield 24, 3) := by decide +kernel
theorem dd_155_41 : decode prog_13_method_1_code 41 = .ok (.aload_n 0, 1) := by decide +kernel
theorem dd_155_42 : decode prog_13_method_1_code 42 = .ok (.bipush 100, 2) := by decide +kernel
theorem dd_155_44 : decode prog_13_method_1_code 44 = .ok (.newarray .int, 2) := by decide +kernel
theorem dd_155_46 : decode prog_13_method_1_code 46 = .ok (.putfield 27, 3) := by decide +kernel
theorem dd_155_49 : decode prog_13_method_1_code 49 = .ok (.aload_n 0, 1) := by decide +kernel
theorem dd_155_50 : decode prog_13_method_1_code 50 = .ok (.bipush 100, 2) := by decide +kernel
theorem dd_155_52 : decode prog_13_method_1_code 52 = .ok (.newarray .int, 2) := by decide +kernel
theorem dd_155_54 : decode prog_13_method_1_code 54 = .ok (.putfield 30, 3) := by decide +kernel
theorem dd_155_57 : decode prog_13_method_1_code 57 = .ok (.aload_n 0, 1) := by decide +kernel
theorem dd_155_58 : decode prog_13_method_1_code 58 = .ok (.bipush 100, 2) := by decide +kernel
theorem dd_155_60 : decode prog_13_method_1_code 60 = .ok (.newarray .int, 2) := by decide +kernel
theorem dd_155_62 : decode prog_13_method_1_code 62 = .ok (.putfield 33, 3) := by decide +kernel
theorem dd_155_65 : decode prog_13_method_1_code 65 = .ok (.aload_n 0, 1) := by decide +kernel
theorem dd_155_66 : decode prog_13_method_1_code 66 = .ok (.bipush 100, 2) := by decide +kernel
theorem dd_155_68 : decode prog_13_method_1_code 68 = .ok (.newarray .int, 2) := by decide +kernel
theorem dd_155_70 : decode prog_13_method_1_code 70 = .ok (.putfield 36, 3) := by decide +kernel
theorem dd_155_73 : decode prog_13_method_1_code 73 = .ok (.aload_n 0, 1) := by decide +kernel
theorem dd_155_74 : decode prog_13_method_1_code 74 = .ok (.bipush 100, 2) := by decide +kernel
theorem dd_155_76 : decode prog_13_method_1_code 76 = .ok (.newarray .int, 2) := by decide +kernel
theorem dd_155_78 : decode prog_13_method_1_code 78 = .ok (.putfield 39, 3) := by decide +kernel
theorem dd_155_81 : decode prog_13_method_1_code 81 = .ok (.aload_n 0, 1) := by decide +kernel
theorem dd_155_82 : decode prog_13_method_1_code 82 = .ok (.bipush 100, 2) := by decide +kernel
theorem dd_155_84 : decode prog_13_method_1_code 84 = .ok (.newarray .int, 2) := by decide +kernel
theorem dd_155_86 : decode prog_13_method_1_code 86 = .ok (.putfield 42, 3) := by decide +kernel
theorem dd_155_89 : decode prog_13_method_1_code 89 = .ok (.aload_n 0, 1) := by decide +kernel
theorem dd_155_90 : decode prog_13_method_1_code 90 = .ok (.sipush 300, 3) := by decide +kernel
theorem dd_155_93 : decode prog_13_method_1_code 93 = .ok (.newarray .int, 2) := by decide +kernel
theorem dd_155_95 : decode prog_13_method_1_code 95 = .ok (.putfield 45, 3) := by decide +kernel
theorem dd_155_98 : decode prog_13_method_1_code 98 = .ok (.aload_n 0, 1) := by decide +kernel
theorem dd_155_99 : decode prog_13_method_1_code 99 = .ok (.bipush 100, 2) := by decide +kernel
theorem dd_155_101 : decode prog_13_method_1_code 101 = .ok (.newarray .int, 2) := by decide +kernel
theorem dd_155_103 : decode prog_13_method_1_code 103 = .ok (.putfield 48, 3) := by decide +kernel
theorem dd_155_106 : decode prog_13_method_1_code 106 = .ok (.aload_n 0, 1) := by decide +kernel
theorem dd_155_107 : decode prog_13_method_1_code 107 = .ok (.sipush 1200, 3) := by decide +kernel
theorem dd_155_110 : decode prog_13_method_1_code 110 = .ok (.newarray .int, 2) := by decide +kernel
theorem dd_155_112 : decode prog_13_method_1_code 112 = .ok (.putfield 51, 3) := by decide +kernel
theorem dd_155_115 : decode prog_13_method_1_code 115 = .ok (.aload_n 0, 1) := by decide +kernel
theorem dd_155_116 : decode prog_13_method_1_code 116 = .ok (.sipush 1200, 3) := by decide +kernel
theorem dd_155_119 : decode prog_13_method_1_code 119 = .ok (.newarray .int, 2) := by decide +kernel
theorem dd_155_121 : decode prog_13_method_1_code 121 = .ok (.putfield 54, 3) := by decide +kernel
theorem dd_155_124 : decode prog_13_method_1_code 124 = .ok (.aload_n 0, 1) := by decide +kernel
theorem dd_155_125 : decode prog_13_method_1_code 125 = .ok (.sipush 1200, 3) := by decide +kernel
theorem dd_155_128 : decode prog_13_method_1_code 128 = .ok (.newarray .int, 2) := by decide +kernel
theorem dd_155_130 : decode prog_13_method_1_code 130 = .ok (.putfield 57, 3) := by decide +kernel
theorem dd_155_133 : decode prog_13_method_1_code 133 = .ok (.aload_n 0, 1) := by decide +kernel
theorem dd_155_134 : decode prog_13_method_1_code 134 = .ok (.sipush 1200, 3) := by decide +kernel
theorem dd_155_137 : decode prog_13_method_1_code 137 = .ok (.newarray .int, 2) := by decide +kernel
theorem dd_155_139 : decode prog_13_method_1_code 139 = .ok (.putfield 60, 3) := by decide +kernel
theorem dd_155_142 : decode prog_13_method_1_code 142 = .ok (.aload_n 0, 1) := by decide +kernel
theorem dd_155_143 : decode prog_13_method_1_code 143 = .ok (.sipush 250, 3) := by decide +kernel
theorem dd_155_146 : decode prog_13_method_1_code 146 = .ok (.newarray .boolean, 2) := by decide +kernel
theorem dd_155_148 : decode prog_13_method_1_code 148 = .ok (.putfield 63, 3) := by decide +kernel
theorem dd_155_151 : decode prog_13_method_1_code 151 = .ok (.aload_n 0, 1) := by decide +kernel
theorem dd_155_152 : decode prog_13_method_1_code 152 = .ok (.sipush 250, 3) := by decide +kernel
theorem dd_155_155 : decode prog_13_method_1_code 155 = .ok (.newarray .boolean, 2) := by decide +kernel
theorem dd_155_157 : decode prog_13_method_1_code 157 = .ok (.putfield 67, 3) := by decide +kernel
theorem dd_155_160 : decode prog_13_method_1_code 160 = .ok (.aload_n 0, 1) := by decide +kernel
theorem dd_155_161 : decode prog_13_method_1_code 161 = .ok (.sipush 250, 3) := by decide +kernel
theorem dd_155_164 : decode prog_13_method_1_code 164 = .ok (.newarray .int, 2) := by decide +kernel
theorem dd_155_166 : decode prog_13_method_1_code 166 = .ok (.putfield 70, 3) := by decide +kernel
theorem dd_155_169 : decode prog_13_method_1_code 169 = .ok (.aload_n 0, 1) := by decide +kernel
theorem dd_155_170 : decode prog_13_method_1_code 170 = .ok (.sipush 250, 3) := by decide +kernel
theorem dd_155_173 : decode prog_13_method_1_code 173 = .ok (.newarray .int, 2) := by decide +kernel
theorem dd_155_175 : decode prog_13_method_1_code 175 = .ok (.putfield 73, 3) := by decide +kernel
theorem dd_155_178 : decode prog_13_method_1_code 178 = .ok (.aload_n 0, 1) := by decide +kernel
theorem dd_155_179 : decode prog_13_method_1_code 179 = .ok (.sipush 250, 3) := by decide +kernel
theorem dd_155_182 : decode prog_13_method_1_code 182 = .ok (.newarray .int, 2) := by decide +kernel
theorem dd_155_184 : decode prog_13_method_1_code 184 = .ok (.putfield 76, 3) := by decide +kernel
theorem dd_155_187 : decode prog_13_method_1_code 187 = .ok (.aload_n 0, 1) := by decide +kernel
theorem dd_155_188 : decode prog_13_method_1_code 188 = .ok (.sipush 250, 3) := by decide +kernel
theorem dd_155_191 : decode prog_13_method_1_code 191 = .ok (.newarray .int, 2) := by decide +kernel
theorem dd_155_193 : decode prog_13_method_1_code 193 = .ok (.putfield 79, 3) := by decide +kernel
theorem dd_155_196 : decode prog_13_method_1_code 196 = .ok (.aload_n 0, 1) := by decide +kernel
theorem dd_155_197 : decode prog_13_method_1_code 197 = .ok (.sipush 250, 3) := by decide +kernel
theorem dd_155_200 : decode prog_13_method_1_code 200 = .ok (.newarray .boolean, 2) := by decide +kernel
theorem dd_155_202 : decode prog_13_method_1_code 202 = .ok (.putfield 82, 3) := by decide +kernel
theorem dd_155_205 : decode prog_13_method_1_code 205 = .ok (.aload_n 0, 1) := by decide +kernel
theorem dd_155_206 : decode prog_13_method_1_code 206 = .ok (.sipush 260, 3) := by decide +kernel
theorem dd_155_209 : decode prog_13_method_1_code 209 = .ok (.newarray .int, 2) := by decide +kernel
theorem dd_155_211 : decode prog_13_method_1_code 211 = .ok (.putfield 85, 3) := by decide +kernel
theorem dd_155_214 : decode prog_13_method_1_code 214 = .ok (.aload_n 0, 1) := by decide +kernel
theorem dd_155_215 : decode prog_13_method_1_code 215 = .ok (.iconst 5, 1) := by decide +kernel
theorem dd_155_216 : decode prog_13_method_1_code 216 = .ok (.newarray .int, 2) := by decide +kernel
theorem dd_155_218 : decode prog_13_method_1_code 218 = .ok (.dup, 1) := by decide +kernel
theorem dd_155_219 : decode prog_13_method_1_code 219 = .ok (.iconst 0, 1) := by decide +kernel
theorem dd_155_220 : decode prog_13_method_1_code 220 = .ok (.iconst (-1), 1) := by decide +kernel
theorem dd_155_221 : decode prog_13_method_1_code 221 = .ok (.iastore, 1) := by decide +kernel
theorem dd_155_222 : decode prog_13_method_1_code 222 = .ok (.dup, 1) := by decide +kernel
theorem dd_155_223 : decode prog_13_method_1_code 223 = .ok (.iconst 1, 1) := by decide +kernel
theorem dd_155_224 : decode prog_13_method_1_code 224 = .ok (.iconst (-1), 1) := by decide +kernel
theorem dd_155_225 : decode prog_13_method_1_code 225 = .ok (.iastore, 1) := by decide +kernel
theorem dd_155_226 : decode prog_13_method_1_code 226 = .ok (.dup, 1) := by decide +kernel
theorem dd_155_227 : decode prog_13_method_1_code 227 = .ok (.iconst 2, 1) := by decide +kernel
theorem dd_155_228 : decode prog_13_method_1_code 228 = .ok (.iconst (-1), 1) := by decide +kernel
theorem dd_155_229 : decode prog_13_method_1_code 229 = .ok (.iastore, 1) := by decide +kernel
theorem dd_155_230 : decode prog_13_method_1_code 230 = .ok (.dup, 1) := by decide +kernel
theorem dd_155_231 : decode prog_13_method_1_code 231 = .ok (.iconst 3, 1) := by decide +kernel
theorem dd_155_232 : decode prog_13_method_1_code 232 = .ok (.iconst (-1), 1) := by decide +kernel
theorem dd_155_233 : decode prog_13_method_1_code 233 = .ok (.iastore, 1) := by decide +kernel
theorem dd_155_234 : decode prog_13_method_1_code 234 = .ok (.dup, 1) := by decide +kernel
theorem dd_155_235 : decode prog_13_method_1_code 235 = .ok (.iconst 4, 1) := by decide +kernel
theorem dd_155_236 : decode prog_13_method_1_code 236 = .ok (.iconst (-1), 1) := by decide +kernel
theorem dd_155_237 : decode prog_13_method_1_code 237 = .ok (.iastore, 1) := by decide +kernel
theorem dd_155_238 : decode prog_13_method_1_code 238 = .ok (.putfield 88, 3) := by decide +kernel
theorem dd_155_241 : decode prog_13_method_1_code 241 = .ok (.aload_n 0, 1) := by decide +kernel
theorem dd_155_242 : decode prog_13_method_1_code 242 = .ok (.bipush 120, 2) := by decide +kernel
theorem dd_155_244 : decode prog_13_method_1_code 244 = .ok (.newarray .char, 2) := by decide +kernel
theorem dd_155_246 : decode prog_13_method_1_code 246 = .ok (.putfield 91, 3) := by decide +kernel
theorem dd_155_249 : decode prog_13_method_1_code 249 = .ok (.aload_n 0, 1) := by decide +kernel
theorem dd_155_250 : decode prog_13_method_1_code 250 = .ok (.iload_n 1, 1) := by decide +kernel
theorem dd_155_251 : decode prog_13_method_1_code 251 = .ok (.bipush 20, 2) := by decide +kernel
theorem dd_155_253 : decode prog_13_method_1_code 253 = .ok (.if_icmp .ge 8, 3) := by decide +kernel
theorem dd_155_256 : decode prog_13_method_1_code 256 = .ok (.bipush 20, 2) := by decide +kernel
theorem dd_155_258 : decode prog_13_method_1_code 258 = .ok (.goto 17, 3) := by decide +kernel
theorem dd_155_261 : decode prog_13_method_1_code 261 = .ok (.iload_n 1, 1) := by decide +kernel
theorem dd_155_262 : decode prog_13_method_1_code 262 = .ok (.sipush 250, 3) := by decide +kernel
theorem dd_155_265 : decode prog_13_method_1_code 265 = .ok (.if_icmp .le 9, 3) := by decide +kernel
theorem dd_155_268 : decode prog_13_method_1_code 268 = .ok (.sipush 250, 3) := by decide +kernel
theorem dd_155_271 : decode prog_13_method_1_code 271 = .ok (.goto 4, 3) := by decide +kernel
theorem dd_155_274 : decode prog_13_method_1_code 274 = .ok (.iload_n 1, 1) := by decide +kernel
theorem dd_155_275 : decode prog_13_method_1_code 275 = .ok (.putfield 94, 3) := by decide +kernel
theorem dd_155_278 : decode prog_13_method_1_code 278 = .ok (.return_, 1) := by decide +kernel
set_option maxRecDepth 100000 in
theorem okI_155 : mj_okI gG "PairMachineModel" prog_13_method_1_code 2 (mj_off oM_155) (Option.none : Option Jvm.ClassFile.FieldType) true true 0 cM_155 :=
  ⟨Or.inl ⟨0, rfl, dd_155_0, rfl⟩,
   ⟨1, dd_155_1, rfl, tw_800, tw_97, tw_98⟩,
   Or.inl ⟨0, rfl, dd_155_4, rfl⟩,
   Or.inl (Or.inr (Or.inl ⟨dd_155_5, rfl, by decide⟩)),
   ⟨dd_155_7, rfl, tw_222⟩,
   ⟨7, "PairMachineModel", fT10, 45, dd_155_9, rfl, okc_10, by decide, tw_801, Or.inr ⟨_, rfl⟩, Or.inr ⟨rfl, by decide, rfl⟩⟩,
   Or.inl ⟨0, rfl, dd_155_12, rfl⟩,
   Or.inl (Or.inl ⟨dd_155_13, rfl⟩),
   ⟨13, "PairMachineModel", fT10, 45, dd_155_14, rfl, okc_10, by decide, tw_802, rfl, Or.inl rfl⟩,
   Or.inl ⟨0, rfl, dd_155_17, rfl⟩,
   Or.inl (Or.inr (Or.inl ⟨dd_155_18, rfl, by decide⟩)),
   ⟨dd_155_20, rfl, tw_232⟩,
   ⟨17, "PairMachineModel", fT10, 45, dd_155_22, rfl, okc_10, by decide, tw_803, Or.inr ⟨_, rfl⟩, Or.inr ⟨rfl, by decide, rfl⟩⟩,
   Or.inl ⟨0, rfl, dd_155_25, rfl⟩,
   Or.inl (Or.inr (Or.inl ⟨dd_155_26, rfl, by decide⟩)),
   ⟨dd_155_28, rfl, tw_232⟩,
   ⟨21, "PairMachineModel", fT10, 45, dd_155_30, rfl, okc_10, by decide, tw_804, Or.inr ⟨_, rfl⟩, Or.inr ⟨rfl, by decide, rfl⟩⟩,
   Or.inl ⟨0, rfl, dd_155_33, rfl⟩,
   Or.inl (Or.inr (Or.inl ⟨dd_155_34, rfl, by decide⟩)),
   ⟨dd_155_36, rfl, tw_232⟩,
   ⟨24, "PairMachineModel", fT10, 45, dd_155_38, rfl, okc_10, by decide, tw_805, Or.inr ⟨_, rfl⟩, Or.inr ⟨rfl, by decide, rfl⟩⟩,
   Or.inl ⟨0, rfl, dd_155_41, rfl⟩,
   Or.inl (Or.inr (Or.inl ⟨dd_155_42, rfl, by decide⟩)),
   ⟨dd_155_44, rfl, tw_232⟩,
   ⟨27, "PairMachineModel", fT10, 45, dd_155_46, rfl, okc_10, by decide, tw_806, Or.inr ⟨_, rfl⟩, Or.inr ⟨rfl, by decide, rfl⟩⟩,
   Or.inl ⟨0, rfl, dd_155_49, rfl⟩,
   Or.inl (Or.inr (Or.inl ⟨dd_155_50, rfl, by decide⟩)),
   ⟨dd_155_52, rfl, tw_232⟩,
   ⟨30, "PairMachineModel", fT10, 45, dd_155_54, rfl, okc_10, by decide, tw_807, Or.inr ⟨_, rfl⟩, Or.inr ⟨rfl, by decide, rfl⟩⟩,
   Or.inl ⟨0, rfl, dd_155_57, rfl⟩,
   Or.inl (Or.inr (Or.inl ⟨dd_155_58, rfl, by decide⟩)),
   ⟨dd_155_60, rfl, tw_232⟩,
   ⟨33, "PairMachineModel", fT10, 45, dd_155_62, rfl, okc_10, by decide, tw_808, Or.inr ⟨_, rfl⟩, Or.inr ⟨rfl, by decide, rfl⟩⟩,
   Or.inl ⟨0, rfl, dd_155_65, rfl⟩,
   Or.inl (Or.inr (Or.inl ⟨dd_155_66, rfl, by decide⟩)),
   ⟨dd_155_68, rfl, tw_232⟩,
   ⟨36, "PairMachineModel", fT10, 45, dd_155_70, rfl, okc_10, by decide, tw_809, Or.inr ⟨_, rfl⟩, Or.inr ⟨rfl, by decide, rfl⟩⟩,
   Or.inl ⟨0, rfl, dd_155_73, rfl⟩,
   Or.inl (Or.inr (Or.inl ⟨dd_155_74, rfl, by decide⟩)),
   ⟨dd_155_76, rfl, tw_232⟩,
   ⟨39, "PairMachineModel", fT10, 45, dd_155_78, rfl, okc_10, by decide, tw_810, Or.inr ⟨_, rfl⟩, Or.inr ⟨rfl, by decide, rfl⟩⟩,
   Or.inl ⟨0, rfl, dd_155_81, rfl⟩,
   Or.inl (Or.inr (Or.inl ⟨dd_155_82, rfl, by decide⟩)),
   ⟨dd_155_84, rfl, tw_232⟩,
   ⟨42, "PairMachineModel", fT10, 45, dd_155_86, rfl, okc_10, by decide, tw_811, Or.inr ⟨_, rfl⟩, Or.inr ⟨rfl, by decide, rfl⟩⟩,
   Or.inl ⟨0, rfl, dd_155_89, rfl⟩,
   Or.inl (Or.inr (Or.inr (Or.inl ⟨dd_155_90, rfl, by decide⟩))),
   ⟨dd_155_93, rfl, tw_232⟩,
   ⟨45, "PairMachineModel", fT10, 45, dd_155_95, rfl, okc_10, by decide, tw_812, Or.inr ⟨_, rfl⟩, Or.inr ⟨rfl, by decide, rfl⟩⟩,
   Or.inl ⟨0, rfl, dd_155_98, rfl⟩,
   Or.inl (Or.inr (Or.inl ⟨dd_155_99, rfl, by decide⟩)),
   ⟨dd_155_101, rfl, tw_232⟩,
   ⟨48, "PairMachineModel", fT10, 45, dd_155_103, rfl, okc_10, by decide, tw_813, Or.inr ⟨_, rfl⟩, Or.inr ⟨rfl, by decide, rfl⟩⟩,
   Or.inl ⟨0, rfl, dd_155_106, rfl⟩,
   Or.inl (Or.inr (Or.inr (Or.inl ⟨dd_155_107, rfl, by decide⟩))),
   ⟨dd_155_110, rfl, tw_232⟩,
   ⟨51, "PairMachineModel", fT10, 45, dd_155_112, rfl, okc_10, by decide, tw_814, Or.inr ⟨_, rfl⟩, Or.inr ⟨rfl, by decide, rfl⟩⟩,
   Or.inl ⟨0, rfl, dd_155_115, rfl⟩,
   Or.inl (Or.inr (Or.inr (Or.inl ⟨dd_155_116, rfl, by decide⟩))),
   ⟨dd_155_119, rfl, tw_232⟩,
   ⟨54, "PairMachineModel", fT10, 45, dd_155_121, rfl, okc_10, by decide, tw_815, Or.inr ⟨_, rfl⟩, Or.inr ⟨rfl, by decide, rfl⟩⟩,
   Or.inl ⟨0, rfl, dd_155_124, rfl⟩,
   Or.inl (Or.inr (Or.inr (Or.inl ⟨dd_155_125, rfl, by decide⟩))),
   ⟨dd_155_128, rfl, tw_232⟩,
   ⟨57, "PairMachineModel", fT10, 45, dd_155_130, rfl, okc_10, by decide, tw_816, Or.inr ⟨_, rfl⟩, Or.inr ⟨rfl, by decide, rfl⟩⟩,
   Or.inl ⟨0, rfl, dd_155_133, rfl⟩,
   Or.inl (Or.inr (Or.inr (Or.inl ⟨dd_155_134, rfl, by decide⟩))),
   ⟨dd_155_137, rfl, tw_232⟩,
   ⟨60, "PairMachineModel", fT10, 45, dd_155_139, rfl, okc_10, by decide, tw_817, Or.inr ⟨_, rfl⟩, Or.inr ⟨rfl, by decide, rfl⟩⟩,
   Or.inl ⟨0, rfl, dd_155_142, rfl⟩,
   Or.inl (Or.inr (Or.inr (Or.inl ⟨dd_155_143, rfl, by decide⟩))),
   ⟨dd_155_146, rfl, tw_701⟩,
   ⟨63, "PairMachineModel", fT10, 45, dd_155_148, rfl, okc_10, by decide, tw_818, Or.inr ⟨_, rfl⟩, Or.inr ⟨rfl, by decide, rfl⟩⟩,
   Or.inl ⟨0, rfl, dd_155_151, rfl⟩,
   Or.inl (Or.inr (Or.inr (Or.inl ⟨dd_155_152, rfl, by decide⟩))),
   ⟨dd_155_155, rfl, tw_701⟩,
   ⟨67, "PairMachineModel", fT10, 45, dd_155_157, rfl, okc_10, by decide, tw_819, Or.inr ⟨_, rfl⟩, Or.inr ⟨rfl, by decide, rfl⟩⟩,
   Or.inl ⟨0, rfl, dd_155_160, rfl⟩,
   Or.inl (Or.inr (Or.inr (Or.inl ⟨dd_155_161, rfl, by decide⟩))),
   ⟨dd_155_164, rfl, tw_232⟩,
   ⟨70, "PairMachineModel", fT10, 45, dd_155_166, rfl, okc_10, by decide, tw_820, Or.inr ⟨_, rfl⟩, Or.inr ⟨rfl, by decide, rfl⟩⟩,
   Or.inl ⟨0, rfl, dd_155_169, rfl⟩,
   Or.inl (Or.inr (Or.inr (Or.inl ⟨dd_155_170, rfl, by decide⟩))),
   ⟨dd_155_173, rfl, tw_232⟩,
   ⟨73, "PairMachineModel", fT10, 45, dd_155_175, rfl, okc_10, by decide, tw_821, Or.inr ⟨_, rfl⟩, Or.inr ⟨rfl, by decide, rfl⟩⟩,
   Or.inl ⟨0, rfl, dd_155_178, rfl⟩,
   Or.inl (Or.inr (Or.inr (Or.inl ⟨dd_155_179, rfl, by decide⟩))),
   ⟨dd_155_182, rfl, tw_232⟩,
   ⟨76, "PairMachineModel", fT10, 45, dd_155_184, rfl, okc_10, by decide, tw_822, Or.inr ⟨_, rfl⟩, Or.inr ⟨rfl, by decide, rfl⟩⟩,
   Or.inl ⟨0, rfl, dd_155_187, rfl⟩,
   Or.inl (Or.inr (Or.inr (Or.inl ⟨dd_155_188, rfl, by decide⟩))),
   ⟨dd_155_191, rfl, tw_232⟩,
   ⟨79, "PairMachineModel", fT10, 45, dd_155_193, rfl, okc_10, by decide, tw_823, Or.inr ⟨_, rfl⟩, Or.inr ⟨rfl, by decide, rfl⟩⟩,
   Or.inl ⟨0, rfl, dd_155_196, rfl⟩,
   Or.inl (Or.inr (Or.inr (Or.inl ⟨dd_155_197, rfl, by decide⟩))),
   ⟨dd_155_200, rfl, tw_701⟩,
   ⟨82, "PairMachineModel", fT10, 45, dd_155_202, rfl, okc_10, by decide, tw_824, Or.inr ⟨_, rfl⟩, Or.inr ⟨rfl, by decide, rfl⟩⟩,
   Or.inl ⟨0, rfl, dd_155_205, rfl⟩,
   Or.inl (Or.inr (Or.inr (Or.inl ⟨dd_155_206, rfl, by decide⟩))),
   ⟨dd_155_209, rfl, tw_232⟩,
   ⟨85, "PairMachineModel", fT10, 45, dd_155_211, rfl, okc_10, by decide, tw_825, Or.inr ⟨_, rfl⟩, Or.inr ⟨rfl, by decide, rfl⟩⟩,
   Or.inl ⟨0, rfl, dd_155_214, rfl⟩,
   Or.inl (Or.inl ⟨dd_155_215, rfl⟩),
   ⟨dd_155_216, rfl, tw_232⟩,
   ⟨dd_155_218, rfl⟩,
   Or.inl (Or.inl ⟨dd_155_219, rfl⟩),
   Or.inl (Or.inl ⟨dd_155_220, rfl⟩),
   ⟨dd_155_221, rfl⟩,
   ⟨dd_155_222, rfl⟩,
   Or.inl (Or.inl ⟨dd_155_223, rfl⟩),
   Or.inl (Or.inl ⟨dd_155_224, rfl⟩),
   ⟨dd_155_225, rfl⟩,
   ⟨dd_155_226, rfl⟩,
   Or.inl (Or.inl ⟨dd_155_227, rfl⟩),
   Or.inl (Or.inl ⟨dd_155_228, rfl⟩),
   ⟨dd_155_229, rfl⟩,
   ⟨dd_155_230, rfl⟩,
   Or.inl (Or.inl ⟨dd_155_231, rfl⟩),
   Or.inl (Or.inl ⟨dd_155_232, rfl⟩),
   ⟨dd_155_233, rfl⟩,
   ⟨dd_155_234, rfl⟩,
   Or.inl (Or.inl ⟨dd_155_235, rfl⟩),
   Or.inl (Or.inl ⟨dd_155_236, rfl⟩),
   ⟨dd_155_237, rfl⟩,
   ⟨88, "PairMachineModel", fT10, 45, dd_155_238, rfl, okc_10, by decide, tw_826, Or.inr ⟨_, rfl⟩, Or.inr ⟨rfl, by decide, rfl⟩⟩,
   Or.inl ⟨0, rfl, dd_155_241, rfl⟩,
   Or.inl (Or.inr (Or.inl ⟨dd_155_242, rfl, by decide⟩)),
   ⟨dd_155_244, rfl, tw_222⟩,
   ⟨91, "PairMachineModel", fT10, 45, dd_155_246, rfl, okc_10, by decide, tw_827, Or.inr ⟨_, rfl⟩, Or.inr ⟨rfl, by decide, rfl⟩⟩,
   Or.inl ⟨0, rfl, dd_155_249, rfl⟩,
   Or.inl ⟨1, rfl, dd_155_250, rfl⟩,
   Or.inl (Or.inr (Or.inl ⟨dd_155_251, rfl, by decide⟩)),
   ⟨8, dd_155_253, rfl, rfl⟩,
   Or.inl (Or.inr (Or.inl ⟨dd_155_256, rfl, by decide⟩)),
   ⟨17, dd_155_258, rfl⟩,
   Or.inl ⟨1, rfl, dd_155_261, rfl⟩,
   Or.inl (Or.inr (Or.inr (Or.inl ⟨dd_155_262, rfl, by decide⟩))),
   ⟨9, dd_155_265, rfl, rfl⟩,
   Or.inl (Or.inr (Or.inr (Or.inl ⟨dd_155_268, rfl, by decide⟩))),
   ⟨4, dd_155_271, rfl⟩,
   Or.inl ⟨1, rfl, dd_155_274, rfl⟩,
   ⟨94, "PairMachineModel", fT10, 45, dd_155_275, rfl, okc_10, by decide, tw_828, rfl, Or.inr ⟨rfl, by decide, rfl⟩⟩,
   ⟨dd_155_278, rfl⟩, trivial⟩
theorem okM_155 : mj_okE gG 155 (cM_155, 2, oM_155, hM_155) := ⟨rfl, rfl, by decide +kernel, trivial, okI_155⟩
end
