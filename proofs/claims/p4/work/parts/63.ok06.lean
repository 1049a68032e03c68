section
theorem dd_91_0 : decode prog_5_method_7_code 0 = .ok (.iload_n 1, 1) := by decide +kernel
theorem dd_91_1 : decode prog_5_method_7_code 1 = .ok (.tableswitch 168 1 19 #[91, 96, 101, 106, 111, 116, 121, 126, 131, 136, 136, 142, 147, 152, 157, 157, 157, 157, 163], 91) := by decide +kernel
theorem dd_91_92 : decode prog_5_method_7_code 92 = .ok (.aload_n 0, 1) := by decide +kernel
theorem dd_91_93 : decode prog_5_method_7_code 93 = .ok (.invokevirtual 99, 3) := by decide +kernel
theorem dd_91_96 : decode prog_5_method_7_code 96 = .ok (.ireturn, 1) := by decide +kernel
theorem dd_91_97 : decode prog_5_method_7_code 97 = .ok (.aload_n 0, 1) := by decide +kernel
theorem dd_91_98 : decode prog_5_method_7_code 98 = .ok (.invokevirtual 103, 3) := by decide +kernel
theorem dd_91_101 : decode prog_5_method_7_code 101 = .ok (.ireturn, 1) := by decide +kernel
theorem dd_91_102 : decode prog_5_method_7_code 102 = .ok (.aload_n 0, 1) := by decide +kernel
theorem dd_91_103 : decode prog_5_method_7_code 103 = .ok (.invokevirtual 106, 3) := by decide +kernel
theorem dd_91_106 : decode prog_5_method_7_code 106 = .ok (.ireturn, 1) := by decide +kernel
theorem dd_91_107 : decode prog_5_method_7_code 107 = .ok (.aload_n 0, 1) := by decide +kernel
theorem dd_91_108 : decode prog_5_method_7_code 108 = .ok (.invokevirtual 109, 3) := by decide +kernel
theorem dd_91_111 : decode prog_5_method_7_code 111 = .ok (.ireturn, 1) := by decide +kernel
theorem dd_91_112 : decode prog_5_method_7_code 112 = .ok (.aload_n 0, 1) := by decide +kernel
theorem dd_91_113 : decode prog_5_method_7_code 113 = .ok (.invokevirtual 112, 3) := by decide +kernel
theorem dd_91_116 : decode prog_5_method_7_code 116 = .ok (.ireturn, 1) := by decide +kernel
theorem dd_91_117 : decode prog_5_method_7_code 117 = .ok (.aload_n 0, 1) := by decide +kernel
theorem dd_91_118 : decode prog_5_method_7_code 118 = .ok (.invokevirtual 115, 3) := by decide +kernel
theorem dd_91_121 : decode prog_5_method_7_code 121 = .ok (.ireturn, 1) := by decide +kernel
theorem dd_91_122 : decode prog_5_method_7_code 122 = .ok (.aload_n 0, 1) := by decide +kernel
theorem dd_91_123 : decode prog_5_method_7_code 123 = .ok (.invokevirtual 118, 3) := by decide +kernel
theorem dd_91_126 : decode prog_5_method_7_code 126 = .ok (.ireturn, 1) := by decide +kernel
theorem dd_91_127 : decode prog_5_method_7_code 127 = .ok (.aload_n 0, 1) := by decide +kernel
theorem dd_91_128 : decode prog_5_method_7_code 128 = .ok (.invokevirtual 121, 3) := by decide +kernel
theorem dd_91_131 : decode prog_5_method_7_code 131 = .ok (.ireturn, 1) := by decide +kernel
theorem dd_91_132 : decode prog_5_method_7_code 132 = .ok (.aload_n 0, 1) := by decide +kernel
theorem dd_91_133 : decode prog_5_method_7_code 133 = .ok (.invokevirtual 124, 3) := by decide +kernel
theorem dd_91_136 : decode prog_5_method_7_code 136 = .ok (.ireturn, 1) := by decide +kernel
theorem dd_91_137 : decode prog_5_method_7_code 137 = .ok (.aload_n 0, 1) := by decide +kernel
theorem dd_91_138 : decode prog_5_method_7_code 138 = .ok (.iload_n 1, 1) := by decide +kernel
theorem dd_91_139 : decode prog_5_method_7_code 139 = .ok (.invokevirtual 127, 3) := by decide +kernel
theorem dd_91_142 : decode prog_5_method_7_code 142 = .ok (.ireturn, 1) := by decide +kernel
theorem dd_91_143 : decode prog_5_method_7_code 143 = .ok (.aload_n 0, 1) := by decide +kernel
theorem dd_91_144 : decode prog_5_method_7_code 144 = .ok (.invokevirtual 130, 3) := by decide +kernel
theorem dd_91_147 : decode prog_5_method_7_code 147 = .ok (.ireturn, 1) := by decide +kernel
theorem dd_91_148 : decode prog_5_method_7_code 148 = .ok (.aload_n 0, 1) := by decide +kernel
theorem dd_91_149 : decode prog_5_method_7_code 149 = .ok (.invokevirtual 133, 3) := by decide +kernel
theorem dd_91_152 : decode prog_5_method_7_code 152 = .ok (.ireturn, 1) := by decide +kernel
theorem dd_91_153 : decode prog_5_method_7_code 153 = .ok (.aload_n 0, 1) := by decide +kernel
theorem dd_91_154 : decode prog_5_method_7_code 154 = .ok (.invokevirtual 136, 3) := by decide +kernel
theorem dd_91_157 : decode prog_5_method_7_code 157 = .ok (.ireturn, 1) := by decide +kernel
theorem dd_91_158 : decode prog_5_method_7_code 158 = .ok (.aload_n 0, 1) := by decide +kernel
theorem dd_91_159 : decode prog_5_method_7_code 159 = .ok (.iload_n 1, 1) := by decide +kernel
theorem dd_91_160 : decode prog_5_method_7_code 160 = .ok (.invokevirtual 139, 3) := by decide +kernel
theorem dd_91_163 : decode prog_5_method_7_code 163 = .ok (.ireturn, 1) := by decide +kernel
theorem dd_91_164 : decode prog_5_method_7_code 164 = .ok (.aload_n 0, 1) := by decide +kernel
theorem dd_91_165 : decode prog_5_method_7_code 165 = .ok (.invokevirtual 142, 3) := by decide +kernel
theorem dd_91_168 : decode prog_5_method_7_code 168 = .ok (.ireturn, 1) := by decide +kernel
theorem dd_91_169 : decode prog_5_method_7_code 169 = .ok (.iconst 0, 1) := by decide +kernel
theorem dd_91_170 : decode prog_5_method_7_code 170 = .ok (.ireturn, 1) := by decide +kernel
set_option maxRecDepth 100000 in
theorem okI_91 : mj_okI gG "PairMachine$Machine" prog_5_method_7_code 2 (mj_off oM_91) (Option.some Jvm.ClassFile.FieldType.boolean) false true 0 cM_91 :=
  ⟨Or.inl ⟨1, rfl, dd_91_0, rfl⟩,
   Or.inr ⟨168, 1, #[91, 96, 101, 106, 111, 116, 121, 126, 131, 136, 136, 142, 147, 152, 157, 157, 157, 157, 163], 91, dd_91_1, rfl, rfl, (fun j hj => by
    match j, hj with
    | 0, _ => exact ⟨91, 2, rfl, rfl, by decide, rfl⟩
    | 1, _ => exact ⟨96, 5, rfl, rfl, by decide, rfl⟩
    | 2, _ => exact ⟨101, 8, rfl, rfl, by decide, rfl⟩
    | 3, _ => exact ⟨106, 11, rfl, rfl, by decide, rfl⟩
    | 4, _ => exact ⟨111, 14, rfl, rfl, by decide, rfl⟩
    | 5, _ => exact ⟨116, 17, rfl, rfl, by decide, rfl⟩
    | 6, _ => exact ⟨121, 20, rfl, rfl, by decide, rfl⟩
    | 7, _ => exact ⟨126, 23, rfl, rfl, by decide, rfl⟩
    | 8, _ => exact ⟨131, 26, rfl, rfl, by decide, rfl⟩
    | 9, _ => exact ⟨136, 29, rfl, rfl, by decide, rfl⟩
    | 10, _ => exact ⟨136, 29, rfl, rfl, by decide, rfl⟩
    | 11, _ => exact ⟨142, 33, rfl, rfl, by decide, rfl⟩
    | 12, _ => exact ⟨147, 36, rfl, rfl, by decide, rfl⟩
    | 13, _ => exact ⟨152, 39, rfl, rfl, by decide, rfl⟩
    | 14, _ => exact ⟨157, 42, rfl, rfl, by decide, rfl⟩
    | 15, _ => exact ⟨157, 42, rfl, rfl, by decide, rfl⟩
    | 16, _ => exact ⟨157, 42, rfl, rfl, by decide, rfl⟩
    | 17, _ => exact ⟨157, 42, rfl, rfl, by decide, rfl⟩
    | 18, _ => exact ⟨163, 46, rfl, rfl, by decide, rfl⟩
    | j + 19, h => exact absurd h (by simp))⟩,
   Or.inl ⟨0, rfl, dd_91_92, rfl⟩,
   ⟨rfl, tw_569, by decide, tw_143, by decide +kernel, 99, tw_570, dd_91_93, tw_571, ⟨"PairMachine$Machine", fT6, 10, rfl, tw_572⟩, by decide +kernel⟩,
   ⟨dd_91_96, rfl⟩,
   Or.inl ⟨0, rfl, dd_91_97, rfl⟩,
   ⟨rfl, tw_573, by decide, tw_143, by decide +kernel, 103, tw_574, dd_91_98, tw_575, ⟨"PairMachine$Machine", fT6, 10, rfl, tw_576⟩, by decide +kernel⟩,
   ⟨dd_91_101, rfl⟩,
   Or.inl ⟨0, rfl, dd_91_102, rfl⟩,
   ⟨rfl, tw_577, by decide, tw_143, by decide +kernel, 106, tw_578, dd_91_103, tw_579, ⟨"PairMachine$Machine", fT6, 10, rfl, tw_580⟩, by decide +kernel⟩,
   ⟨dd_91_106, rfl⟩,
   Or.inl ⟨0, rfl, dd_91_107, rfl⟩,
   ⟨rfl, tw_581, by decide, tw_143, by decide +kernel, 109, tw_582, dd_91_108, tw_583, ⟨"PairMachine$Machine", fT6, 10, rfl, tw_584⟩, by decide +kernel⟩,
   ⟨dd_91_111, rfl⟩,
   Or.inl ⟨0, rfl, dd_91_112, rfl⟩,
   ⟨rfl, tw_585, by decide, tw_143, by decide +kernel, 112, tw_586, dd_91_113, tw_587, ⟨"PairMachine$Machine", fT6, 10, rfl, tw_588⟩, by decide +kernel⟩,
   ⟨dd_91_116, rfl⟩,
   Or.inl ⟨0, rfl, dd_91_117, rfl⟩,
   ⟨rfl, tw_589, by decide, tw_143, by decide +kernel, 115, tw_590, dd_91_118, tw_591, ⟨"PairMachine$Machine", fT6, 10, rfl, tw_592⟩, by decide +kernel⟩,
   ⟨dd_91_121, rfl⟩,
   Or.inl ⟨0, rfl, dd_91_122, rfl⟩,
   ⟨rfl, tw_593, by decide, tw_143, by decide +kernel, 118, tw_594, dd_91_123, tw_595, ⟨"PairMachine$Machine", fT6, 10, rfl, tw_596⟩, by decide +kernel⟩,
   ⟨dd_91_126, rfl⟩,
   Or.inl ⟨0, rfl, dd_91_127, rfl⟩,
   ⟨rfl, tw_597, by decide, tw_143, by decide +kernel, 121, tw_598, dd_91_128, tw_599, ⟨"PairMachine$Machine", fT6, 10, rfl, tw_600⟩, by decide +kernel⟩,
   ⟨dd_91_131, rfl⟩,
   Or.inl ⟨0, rfl, dd_91_132, rfl⟩,
   ⟨rfl, tw_601, by decide, tw_143, by decide +kernel, 124, tw_602, dd_91_133, tw_603, ⟨"PairMachine$Machine", fT6, 10, rfl, tw_604⟩, by decide +kernel⟩,
   ⟨dd_91_136, rfl⟩,
   Or.inl ⟨0, rfl, dd_91_137, rfl⟩,
   Or.inl ⟨1, rfl, dd_91_138, rfl⟩,
   ⟨rfl, tw_605, by decide, tw_143, by decide +kernel, 127, tw_606, dd_91_139, tw_607, ⟨"PairMachine$Machine", fT6, 10, rfl, tw_608⟩, by decide +kernel⟩,
   ⟨dd_91_142, rfl⟩,
   Or.inl ⟨0, rfl, dd_91_143, rfl⟩,
   ⟨rfl, tw_609, by decide, tw_143, by decide +kernel, 130, tw_610, dd_91_144, tw_611, ⟨"PairMachine$Machine", fT6, 10, rfl, tw_612⟩, by decide +kernel⟩,
   ⟨dd_91_147, rfl⟩,
   Or.inl ⟨0, rfl, dd_91_148, rfl⟩,
   ⟨rfl, tw_613, by decide, tw_143, by decide +kernel, 133, tw_614, dd_91_149, tw_615, ⟨"PairMachine$Machine", fT6, 10, rfl, tw_616⟩, by decide +kernel⟩,
   ⟨dd_91_152, rfl⟩,
   Or.inl ⟨0, rfl, dd_91_153, rfl⟩,
   ⟨rfl, tw_617, by decide, tw_143, by decide +kernel, 136, tw_618, dd_91_154, tw_619, ⟨"PairMachine$Machine", fT6, 10, rfl, tw_620⟩, by decide +kernel⟩,
   ⟨dd_91_157, rfl⟩,
   Or.inl ⟨0, rfl, dd_91_158, rfl⟩,
   Or.inl ⟨1, rfl, dd_91_159, rfl⟩,
   ⟨rfl, tw_621, by decide, tw_143, by decide +kernel, 139, tw_622, dd_91_160, tw_623, ⟨"PairMachine$Machine", fT6, 10, rfl, tw_624⟩, by decide +kernel⟩,
   ⟨dd_91_163, rfl⟩,
   Or.inl ⟨0, rfl, dd_91_164, rfl⟩,
   ⟨rfl, tw_625, by decide, tw_143, by decide +kernel, 142, tw_626, dd_91_165, tw_627, ⟨"PairMachine$Machine", fT6, 10, rfl, tw_628⟩, by decide +kernel⟩,
   ⟨dd_91_168, rfl⟩,
   Or.inl (Or.inl ⟨dd_91_169, rfl⟩),
   ⟨dd_91_170, rfl⟩, trivial⟩
theorem okM_91 : mj_okE gG 91 (cM_91, 2, oM_91, hM_91) := ⟨rfl, rfl, by decide +kernel, trivial, okI_91⟩
theorem dd_92_0 : decode prog_5_method_8_code 0 = .ok (.aload_n 0, 1) := by decide +kernel
theorem dd_92_1 : decode prog_5_method_8_code 1 = .ok (.getfield 14, 3) := by decide +kernel
theorem dd_92_4 : decode prog_5_method_8_code 4 = .ok (.aload_n 0, 1) := by decide +kernel
theorem dd_92_5 : decode prog_5_method_8_code 5 = .ok (.getfield 66, 3) := by decide +kernel
theorem dd_92_8 : decode prog_5_method_8_code 8 = .ok (.invokevirtual 145, 3) := by decide +kernel
theorem dd_92_11 : decode prog_5_method_8_code 11 = .ok (.lstore_n 1, 1) := by decide +kernel
theorem dd_92_12 : decode prog_5_method_8_code 12 = .ok (.aload_n 0, 1) := by decide +kernel
theorem dd_92_13 : decode prog_5_method_8_code 13 = .ok (.aload_n 0, 1) := by decide +kernel
theorem dd_92_14 : decode prog_5_method_8_code 14 = .ok (.getfield 14, 3) := by decide +kernel
theorem dd_92_17 : decode prog_5_method_8_code 17 = .ok (.aload_n 0, 1) := by decide +kernel
theorem dd_92_18 : decode prog_5_method_8_code 18 = .ok (.getfield 14, 3) := by decide +kernel
theorem dd_92_21 : decode prog_5_method_8_code 21 = .ok (.lload_n 1, 1) := by decide +kernel
theorem dd_92_22 : decode prog_5_method_8_code 22 = .ok (.invokevirtual 149, 3) := by decide +kernel
theorem dd_92_25 : decode prog_5_method_8_code 25 = .ok (.aload_n 0, 1) := by decide +kernel
theorem dd_92_26 : decode prog_5_method_8_code 26 = .ok (.getfield 59, 3) := by decide +kernel
theorem dd_92_29 : decode prog_5_method_8_code 29 = .ok (.invokevirtual 152, 3) := by decide +kernel
theorem dd_92_32 : decode prog_5_method_8_code 32 = .ok (.putfield 59, 3) := by decide +kernel
theorem dd_92_35 : decode prog_5_method_8_code 35 = .ok (.aload_n 0, 1) := by decide +kernel
theorem dd_92_36 : decode prog_5_method_8_code 36 = .ok (.aload_n 0, 1) := by decide +kernel
theorem dd_92_37 : decode prog_5_method_8_code 37 = .ok (.getfield 14, 3) := by decide +kernel
theorem dd_92_40 : decode prog_5_method_8_code 40 = .ok (.lload_n 1, 1) := by decide +kernel
theorem dd_92_41 : decode prog_5_method_8_code 41 = .ok (.invokevirtual 145, 3) := by decide +kernel
theorem dd_92_44 : decode prog_5_method_8_code 44 = .ok (.putfield 66, 3) := by decide +kernel
theorem dd_92_47 : decode prog_5_method_8_code 47 = .ok (.iconst 1, 1) := by decide +kernel
theorem dd_92_48 : decode prog_5_method_8_code 48 = .ok (.ireturn, 1) := by decide +kernel
set_option maxRecDepth 100000 in
theorem okI_92 : mj_okI gG "PairMachine$Machine" prog_5_method_8_code 3 (mj_off oM_92) (Option.some Jvm.ClassFile.FieldType.boolean) false true 0 cM_92 :=
  ⟨Or.inl ⟨0, rfl, dd_92_0, rfl⟩,
   ⟨14, "PairMachine$Machine", fT6, 10, dd_92_1, rfl, okc_6, by decide, tw_513⟩,
   Or.inl ⟨0, rfl, dd_92_4, rfl⟩,
   ⟨66, "PairMachine$Machine", fT6, 10, dd_92_5, rfl, okc_6, by decide, tw_543⟩,
   ⟨rfl, tw_629, by decide, tw_509, by decide +kernel, 145, tw_630, dd_92_8, tw_631, ⟨"PairMachine$Store", fT7, 9, rfl, tw_632⟩, by decide +kernel⟩,
   ⟨by decide, Or.inl ⟨1, rfl, dd_92_11, rfl⟩⟩,
   Or.inl ⟨0, rfl, dd_92_12, rfl⟩,
   Or.inl ⟨0, rfl, dd_92_13, rfl⟩,
   ⟨14, "PairMachine$Machine", fT6, 10, dd_92_14, rfl, okc_6, by decide, tw_513⟩,
   Or.inl ⟨0, rfl, dd_92_17, rfl⟩,
   ⟨14, "PairMachine$Machine", fT6, 10, dd_92_18, rfl, okc_6, by decide, tw_513⟩,
   Or.inl ⟨1, rfl, dd_92_21, rfl⟩,
   ⟨rfl, tw_633, by decide, tw_509, by decide +kernel, 149, tw_634, dd_92_22, tw_635, ⟨"PairMachine$Store", fT7, 9, rfl, tw_636⟩, by decide +kernel⟩,
   Or.inl ⟨0, rfl, dd_92_25, rfl⟩,
   ⟨59, "PairMachine$Machine", fT6, 10, dd_92_26, rfl, okc_6, by decide, tw_541⟩,
   ⟨rfl, tw_637, by decide, tw_509, by decide +kernel, 152, tw_638, dd_92_29, tw_639, ⟨"PairMachine$Store", fT7, 9, rfl, tw_640⟩, by decide +kernel⟩,
   ⟨59, "PairMachine$Machine", fT6, 10, dd_92_32, rfl, okc_6, by decide, tw_541, rfl, Or.inl rfl⟩,
   Or.inl ⟨0, rfl, dd_92_35, rfl⟩,
   Or.inl ⟨0, rfl, dd_92_36, rfl⟩,
   ⟨14, "PairMachine$Machine", fT6, 10, dd_92_37, rfl, okc_6, by decide, tw_513⟩,
   Or.inl ⟨1, rfl, dd_92_40, rfl⟩,
   ⟨rfl, tw_629, by decide, tw_509, by decide +kernel, 145, tw_630, dd_92_41, tw_631, ⟨"PairMachine$Store", fT7, 9, rfl, tw_632⟩, by decide +kernel⟩,
   ⟨66, "PairMachine$Machine", fT6, 10, dd_92_44, rfl, okc_6, by decide, tw_543, rfl, Or.inl rfl⟩,
   Or.inl (Or.inl ⟨dd_92_47, rfl⟩),
   ⟨dd_92_48, rfl⟩, trivial⟩
theorem okM_92 : mj_okE gG 92 (cM_92, 3, oM_92, hM_92) := ⟨rfl, rfl, by decide +kernel, trivial, okI_92⟩
theorem dd_93_0 : decode prog_5_method_9_code 0 = .ok (.aload_n 0, 1) := by decide +kernel
theorem dd_93_1 : decode prog_5_method_9_code 1 = .ok (.getfield 14, 3) := by decide +kernel
theorem dd_93_4 : decode prog_5_method_9_code 4 = .ok (.aload_n 0, 1) := by decide +kernel
theorem dd_93_5 : decode prog_5_method_9_code 5 = .ok (.getfield 66, 3) := by decide +kernel
theorem dd_93_8 : decode prog_5_method_9_code 8 = .ok (.invokevirtual 145, 3) := by decide +kernel
theorem dd_93_11 : decode prog_5_method_9_code 11 = .ok (.lstore_n 1, 1) := by decide +kernel
theorem dd_93_12 : decode prog_5_method_9_code 12 = .ok (.aload_n 0, 1) := by decide +kernel
theorem dd_93_13 : decode prog_5_method_9_code 13 = .ok (.getfield 14, 3) := by decide +kernel
theorem dd_93_16 : decode prog_5_method_9_code 16 = .ok (.lload_n 1, 1) := by decide +kernel
theorem dd_93_17 : decode prog_5_method_9_code 17 = .ok (.invokevirtual 149, 3) := by decide +kernel
theorem dd_93_20 : decode prog_5_method_9_code 20 = .ok (.invokestatic 156, 3) := by decide +kernel
theorem dd_93_23 : decode prog_5_method_9_code 23 = .ok (.istore_n 3, 1) := by decide +kernel
theorem dd_93_24 : decode prog_5_method_9_code 24 = .ok (.aload_n 0, 1) := by decide +kernel
theorem dd_93_25 : decode prog_5_method_9_code 25 = .ok (.getfield 14, 3) := by decide +kernel
theorem dd_93_28 : decode prog_5_method_9_code 28 = .ok (.aload_n 0, 1) := by decide +kernel
theorem dd_93_29 : decode prog_5_method_9_code 29 = .ok (.getfield 63, 3) := by decide +kernel
theorem dd_93_32 : decode prog_5_method_9_code 32 = .ok (.iload_n 3, 1) := by decide +kernel
theorem dd_93_33 : decode prog_5_method_9_code 33 = .ok (.bipush 16, 2) := by decide +kernel
theorem dd_93_35 : decode prog_5_method_9_code 35 = .ok (.idiv, 1) := by decide +kernel
theorem dd_93_36 : decode prog_5_method_9_code 36 = .ok (.invokevirtual 160, 3) := by decide +kernel
theorem dd_93_39 : decode prog_5_method_9_code 39 = .ok (.lstore 4, 2) := by decide +kernel
theorem dd_93_41 : decode prog_5_method_9_code 41 = .ok (.lload 4, 2) := by decide +kernel
theorem dd_93_43 : decode prog_5_method_9_code 43 = .ok (.invokestatic 164, 3) := by decide +kernel
theorem dd_93_46 : decode prog_5_method_9_code 46 = .ok (.ifCond .ne 5, 3) := by decide +kernel
theorem dd_93_49 : decode prog_5_method_9_code 49 = .ok (.iconst 0, 1) := by decide +kernel
theorem dd_93_50 : decode prog_5_method_9_code 50 = .ok (.ireturn, 1) := by decide +kernel
theorem dd_93_51 : decode prog_5_method_9_code 51 = .ok (.aload_n 0, 1) := by decide +kernel
theorem dd_93_52 : decode prog_5_method_9_code 52 = .ok (.getfield 14, 3) := by decide +kernel
theorem dd_93_55 : decode prog_5_method_9_code 55 = .ok (.aload_n 0, 1) := by decide +kernel
theorem dd_93_56 : decode prog_5_method_9_code 56 = .ok (.getfield 14, 3) := by decide +kernel
theorem dd_93_59 : decode prog_5_method_9_code 59 = .ok (.lload 4, 2) := by decide +kernel
theorem dd_93_61 : decode prog_5_method_9_code 61 = .ok (.invokevirtual 149, 3) := by decide +kernel
theorem dd_93_64 : decode prog_5_method_9_code 64 = .ok (.iload_n 3, 1) := by decide +kernel
theorem dd_93_65 : decode prog_5_method_9_code 65 = .ok (.bipush 16, 2) := by decide +kernel
theorem dd_93_67 : decode prog_5_method_9_code 67 = .ok (.irem, 1) := by decide +kernel
theorem dd_93_68 : decode prog_5_method_9_code 68 = .ok (.invokevirtual 160, 3) := by decide +kernel
theorem dd_93_71 : decode prog_5_method_9_code 71 = .ok (.lstore 6, 2) := by decide +kernel
theorem dd_93_73 : decode prog_5_method_9_code 73 = .ok (.lload 6, 2) := by decide +kernel
theorem dd_93_75 : decode prog_5_method_9_code 75 = .ok (.invokestatic 164, 3) := by decide +kernel
theorem dd_93_78 : decode prog_5_method_9_code 78 = .ok (.ifCond .ne 5, 3) := by decide +kernel
theorem dd_93_81 : decode prog_5_method_9_code 81 = .ok (.iconst 0, 1) := by decide +kernel
theorem dd_93_82 : decode prog_5_method_9_code 82 = .ok (.ireturn, 1) := by decide +kernel
theorem dd_93_83 : decode prog_5_method_9_code 83 = .ok (.aload_n 0, 1) := by decide +kernel
theorem dd_93_84 : decode prog_5_method_9_code 84 = .ok (.aload_n 0, 1) := by decide +kernel
theorem dd_93_85 : decode prog_5_method_9_code 85 = .ok (.getfield 14, 3) := by decide +kernel
theorem dd_93_88 : decode prog_5_method_9_code 88 = .ok (.aload_n 0, 1) := by decide +kernel
theorem dd_93_89 : decode prog_5_method_9_code 89 = .ok (.getfield 14, 3) := by decide +kernel
theorem dd_93_92 : decode prog_5_method_9_code 92 = .ok (.lload 6, 2) := by decide +kernel
theorem dd_93_94 : decode prog_5_method_9_code 94 = .ok (.invokevirtual 149, 3) := by decide +kernel
theorem dd_93_97 : decode prog_5_method_9_code 97 = .ok (.aload_n 0, 1) := by decide +kernel
theorem dd_93_98 : decode prog_5_method_9_code 98 = .ok (.getfield 59, 3) := by decide +kernel
theorem dd_93_101 : decode prog_5_method_9_code 101 = .ok (.invokevirtual 152, 3) := by decide +kernel
theorem dd_93_104 : decode prog_5_method_9_code 104 = .ok (.putfield 59, 3) := by decide +kernel
theorem dd_93_107 : decode prog_5_method_9_code 107 = .ok (.aload_n 0, 1) := by decide +kernel
theorem dd_93_108 : decode prog_5_method_9_code 108 = .ok (.aload_n 0, 1) := by decide +kernel
theorem dd_93_109 : decode prog_5_method_9_code 109 = .ok (.getfield 14, 3) := by decide +kernel
theorem dd_93_112 : decode prog_5_method_9_code 112 = .ok (.lload_n 1, 1) := by decide +kernel
theorem dd_93_113 : decode prog_5_method_9_code 113 = .ok (.invokevirtual 145, 3) := by decide +kernel
theorem dd_93_116 : decode prog_5_method_9_code 116 = .ok (.putfield 66, 3) := by decide +kernel
theorem dd_93_119 : decode prog_5_method_9_code 119 = .ok (.iconst 1, 1) := by decide +kernel
theorem dd_93_120 : decode prog_5_method_9_code 120 = .ok (.ireturn, 1) := by decide +kernel
set_option maxRecDepth 100000 in
theorem okI_93 : mj_okI gG "PairMachine$Machine" prog_5_method_9_code 8 (mj_off oM_93) (Option.some Jvm.ClassFile.FieldType.boolean) false true 0 cM_93 :=
  ⟨Or.inl ⟨0, rfl, dd_93_0, rfl⟩,
   ⟨14, "PairMachine$Machine", fT6, 10, dd_93_1, rfl, okc_6, by decide, tw_513⟩,
   Or.inl ⟨0, rfl, dd_93_4, rfl⟩,
   ⟨66, "PairMachine$Machine", fT6, 10, dd_93_5, rfl, okc_6, by decide, tw_543⟩,
   ⟨rfl, tw_629, by decide, tw_509, by decide +kernel, 145, tw_630, dd_93_8, tw_631, ⟨"PairMachine$Store", fT7, 9, rfl, tw_632⟩, by decide +kernel⟩,
   ⟨by decide, Or.inl ⟨1, rfl, dd_93_11, rfl⟩⟩,
   Or.inl ⟨0, rfl, dd_93_12, rfl⟩,
   ⟨14, "PairMachine$Machine", fT6, 10, dd_93_13, rfl, okc_6, by decide, tw_513⟩,
   Or.inl ⟨1, rfl, dd_93_16, rfl⟩,
   ⟨rfl, tw_633, by decide, tw_509, by decide +kernel, 149, tw_634, dd_93_17, tw_635, ⟨"PairMachine$Store", fT7, 9, rfl, tw_636⟩, by decide +kernel⟩,
   ⟨rfl, tw_641, by decide, tw_372, by decide +kernel, 156, tw_642, dd_93_20, tw_643, by decide +kernel⟩,
   ⟨by decide, Or.inl ⟨3, rfl, dd_93_23, rfl⟩⟩,
   Or.inl ⟨0, rfl, dd_93_24, rfl⟩,
   ⟨14, "PairMachine$Machine", fT6, 10, dd_93_25, rfl, okc_6, by decide, tw_513⟩,
   Or.inl ⟨0, rfl, dd_93_28, rfl⟩,
   ⟨63, "PairMachine$Machine", fT6, 10, dd_93_29, rfl, okc_6, by decide, tw_542⟩,
   Or.inl ⟨3, rfl, dd_93_32, rfl⟩,
   Or.inl (Or.inr (Or.inl ⟨dd_93_33, rfl, by decide⟩)),
   ⟨dd_93_35, rfl⟩,
   ⟨rfl, tw_644, by decide, tw_509, by decide +kernel, 160, tw_645, dd_93_36, tw_646, ⟨"PairMachine$Store", fT7, 9, rfl, tw_647⟩, by decide +kernel⟩,
   ⟨by decide, Or.inr ⟨dd_93_39, rfl⟩⟩,
   Or.inr ⟨dd_93_41, rfl⟩,
   ⟨rfl, tw_648, by decide, tw_372, by decide +kernel, 164, tw_649, dd_93_43, tw_650, by decide +kernel⟩,
   ⟨5, dd_93_46, rfl, rfl⟩,
   Or.inl (Or.inl ⟨dd_93_49, rfl⟩),
   ⟨dd_93_50, rfl⟩,
   Or.inl ⟨0, rfl, dd_93_51, rfl⟩,
   ⟨14, "PairMachine$Machine", fT6, 10, dd_93_52, rfl, okc_6, by decide, tw_513⟩,
   Or.inl ⟨0, rfl, dd_93_55, rfl⟩,
   ⟨14, "PairMachine$Machine", fT6, 10, dd_93_56, rfl, okc_6, by decide, tw_513⟩,
   Or.inr ⟨dd_93_59, rfl⟩,
   ⟨rfl, tw_633, by decide, tw_509, by decide +kernel, 149, tw_634, dd_93_61, tw_635, ⟨"PairMachine$Store", fT7, 9, rfl, tw_636⟩, by decide +kernel⟩,
   Or.inl ⟨3, rfl, dd_93_64, rfl⟩,
   Or.inl (Or.inr (Or.inl ⟨dd_93_65, rfl, by decide⟩)),
   ⟨dd_93_67, rfl⟩,
   ⟨rfl, tw_644, by decide, tw_509, by decide +kernel, 160, tw_645, dd_93_68, tw_646, ⟨"PairMachine$Store", fT7, 9, rfl, tw_647⟩, by decide +kernel⟩,
   ⟨by decide, Or.inr ⟨dd_93_71, rfl⟩⟩,
   Or.inr ⟨dd_93_73, rfl⟩,
   ⟨rfl, tw_648, by decide, tw_372, by decide +kernel, 164, tw_649, dd_93_75, tw_650, by decide +kernel⟩,
   ⟨5, dd_93_78, rfl, rfl⟩,
   Or.inl (Or.inl ⟨dd_93_81, rfl⟩),
   ⟨dd_93_82, rfl⟩,
   Or.inl ⟨0, rfl, dd_93_83, rfl⟩,
   Or.inl ⟨0, rfl, dd_93_84, rfl⟩,
   ⟨14, "PairMachine$Machine", fT6, 10, dd_93_85, rfl, okc_6, by decide, tw_513⟩,
   Or.inl ⟨0, rfl, dd_93_88, rfl⟩,
   ⟨14, "PairMachine$Machine", fT6, 10, dd_93_89, rfl, okc_6, by decide, tw_513⟩,
   Or.inr ⟨dd_93_92, rfl⟩,
   ⟨rfl, tw_633, by decide, tw_509, by decide +kernel, 149, tw_634, dd_93_94, tw_635, ⟨"PairMachine$Store", fT7, 9, rfl, tw_636⟩, by decide +kernel⟩,
   Or.inl ⟨0, rfl, dd_93_97, rfl⟩,
   ⟨59, "PairMachine$Machine", fT6, 10, dd_93_98, rfl, okc_6, by decide, tw_541⟩,
   ⟨rfl, tw_637, by decide, tw_509, by decide +kernel, 152, tw_638, dd_93_101, tw_639, ⟨"PairMachine$Store", fT7, 9, rfl, tw_640⟩, by decide +kernel⟩,
   ⟨59, "PairMachine$Machine", fT6, 10, dd_93_104, rfl, okc_6, by decide, tw_541, rfl, Or.inl rfl⟩,
   Or.inl ⟨0, rfl, dd_93_107, rfl⟩,
   Or.inl ⟨0, rfl, dd_93_108, rfl⟩,
   ⟨14, "PairMachine$Machine", fT6, 10, dd_93_109, rfl, okc_6, by decide, tw_513⟩,
   Or.inl ⟨1, rfl, dd_93_112, rfl⟩,
   ⟨rfl, tw_629, by decide, tw_509, by decide +kernel, 145, tw_630, dd_93_113, tw_631, ⟨"PairMachine$Store", fT7, 9, rfl, tw_632⟩, by decide +kernel⟩,
   ⟨66, "PairMachine$Machine", fT6, 10, dd_93_116, rfl, okc_6, by decide, tw_543, rfl, Or.inl rfl⟩,
   Or.inl (Or.inl ⟨dd_93_119, rfl⟩),
   ⟨dd_93_120, rfl⟩, trivial⟩
theorem okM_93 : mj_okE gG 93 (cM_93, 8, oM_93, hM_93) := ⟨rfl, rfl, by decide +kernel, trivial, okI_93⟩
theorem dd_94_0 : decode prog_5_method_10_code 0 = .ok (.aload_n 0, 1) := by decide +kernel
theorem dd_94_1 : decode prog_5_method_10_code 1 = .ok (.getfield 14, 3) := by decide +kernel
theorem dd_94_4 : decode prog_5_method_10_code 4 = .ok (.aload_n 0, 1) := by decide +kernel
theorem dd_94_5 : decode prog_5_method_10_code 5 = .ok (.getfield 66, 3) := by decide +kernel
theorem dd_94_8 : decode prog_5_method_10_code 8 = .ok (.invokevirtual 145, 3) := by decide +kernel
theorem dd_94_11 : decode prog_5_method_10_code 11 = .ok (.lstore_n 1, 1) := by decide +kernel
theorem dd_94_12 : decode prog_5_method_10_code 12 = .ok (.aload_n 0, 1) := by decide +kernel
theorem dd_94_13 : decode prog_5_method_10_code 13 = .ok (.aload_n 0, 1) := by decide +kernel
theorem dd_94_14 : decode prog_5_method_10_code 14 = .ok (.getfield 14, 3) := by decide +kernel
theorem dd_94_17 : decode prog_5_method_10_code 17 = .ok (.aload_n 0, 1) := by decide +kernel
theorem dd_94_18 : decode prog_5_method_10_code 18 = .ok (.getfield 14, 3) := by decide +kernel
theorem dd_94_21 : decode prog_5_method_10_code 21 = .ok (.aload_n 0, 1) := by decide +kernel
theorem dd_94_22 : decode prog_5_method_10_code 22 = .ok (.getfield 14, 3) := by decide +kernel
theorem dd_94_25 : decode prog_5_method_10_code 25 = .ok (.lload_n 1, 1) := by decide +kernel
theorem dd_94_26 : decode prog_5_method_10_code 26 = .ok (.invokevirtual 149, 3) := by decide +kernel
theorem dd_94_29 : decode prog_5_method_10_code 29 = .ok (.aload_n 0, 1) := by decide +kernel
theorem dd_94_30 : decode prog_5_method_10_code 30 = .ok (.getfield 63, 3) := by decide +kernel
theorem dd_94_33 : decode prog_5_method_10_code 33 = .ok (.invokevirtual 168, 3) := by decide +kernel
theorem dd_94_36 : decode prog_5_method_10_code 36 = .ok (.aload_n 0, 1) := by decide +kernel
theorem dd_94_37 : decode prog_5_method_10_code 37 = .ok (.getfield 59, 3) := by decide +kernel
theorem dd_94_40 : decode prog_5_method_10_code 40 = .ok (.invokevirtual 152, 3) := by decide +kernel
theorem dd_94_43 : decode prog_5_method_10_code 43 = .ok (.putfield 59, 3) := by decide +kernel
theorem dd_94_46 : decode prog_5_method_10_code 46 = .ok (.aload_n 0, 1) := by decide +kernel
theorem dd_94_47 : decode prog_5_method_10_code 47 = .ok (.aload_n 0, 1) := by decide +kernel
theorem dd_94_48 : decode prog_5_method_10_code 48 = .ok (.getfield 14, 3) := by decide +kernel
theorem dd_94_51 : decode prog_5_method_10_code 51 = .ok (.lload_n 1, 1) := by decide +kernel
theorem dd_94_52 : decode prog_5_method_10_code 52 = .ok (.invokevirtual 145, 3) := by decide +kernel
theorem dd_94_55 : decode prog_5_method_10_code 55 = .ok (.putfield 66, 3) := by decide +kernel
theorem dd_94_58 : decode prog_5_method_10_code 58 = .ok (.iconst 1, 1) := by decide +kernel
theorem dd_94_59 : decode prog_5_method_10_code 59 = .ok (.ireturn, 1) := by decide +kernel
set_option maxRecDepth 100000 in
theorem okI_94 : mj_okI gG "PairMachine$Machine" prog_5_method_10_code 3 (mj_off oM_94) (Option.some Jvm.ClassFile.FieldType.boolean) false true 0 cM_94 :=
  ⟨Or.inl ⟨0, rfl, dd_94_0, rfl⟩,
   ⟨14, "PairMachine$Machine", fT6, 10, dd_94_1, rfl, okc_6, by decide, tw_513⟩,
   Or.inl ⟨0, rfl, dd_94_4, rfl⟩,
   ⟨66, "PairMachine$Machine", fT6, 10, dd_94_5, rfl, okc_6, by decide, tw_543⟩,
   ⟨rfl, tw_629, by decide, tw_509, by decide +kernel, 145, tw_630, dd_94_8, tw_631, ⟨"PairMachine$Store", fT7, 9, rfl, tw_632⟩, by decide +kernel⟩,
   ⟨by decide, Or.inl ⟨1, rfl, dd_94_11, rfl⟩⟩,
   Or.inl ⟨0, rfl, dd_94_12, rfl⟩,
   Or.inl ⟨0, rfl, dd_94_13, rfl⟩,
   ⟨14, "PairMachine$Machine", fT6, 10, dd_94_14, rfl, okc_6, by decide, tw_513⟩,
   Or.inl ⟨0, rfl, dd_94_17, rfl⟩,
   ⟨14, "PairMachine$Machine", fT6, 10, dd_94_18, rfl, okc_6, by decide, tw_513⟩,
   Or.inl ⟨0, rfl, dd_94_21, rfl⟩,
   ⟨14, "PairMachine$Machine", fT6, 10, dd_94_22, rfl, okc_6, by decide, tw_513⟩,
   Or.inl ⟨1, rfl, dd_94_25, rfl⟩,
   ⟨rfl, tw_633, by decide, tw_509, by decide +kernel, 149, tw_634, dd_94_26, tw_635, ⟨"PairMachine$Store", fT7, 9, rfl, tw_636⟩, by decide +kernel⟩,
   Or.inl ⟨0, rfl, dd_94_29, rfl⟩,
   ⟨63, "PairMachine$Machine", fT6, 10, dd_94_30, rfl, okc_6, by decide, tw_542⟩,
   ⟨rfl, tw_651, by decide, tw_509, by decide +kernel, 168, tw_652, dd_94_33, tw_653, ⟨"PairMachine$Store", fT7, 9, rfl, tw_654⟩, by decide +kernel⟩,
   Or.inl ⟨0, rfl, dd_94_36, rfl⟩,
   ⟨59, "PairMachine$Machine", fT6, 10, dd_94_37, rfl, okc_6, by decide, tw_541⟩,
   ⟨rfl, tw_637, by decide, tw_509, by decide +kernel, 152, tw_638, dd_94_40, tw_639, ⟨"PairMachine$Store", fT7, 9, rfl, tw_640⟩, by decide +kernel⟩,
   ⟨59, "PairMachine$Machine", fT6, 10, dd_94_43, rfl, okc_6, by decide, tw_541, rfl, Or.inl rfl⟩,
   Or.inl ⟨0, rfl, dd_94_46, rfl⟩,
   Or.inl ⟨0, rfl, dd_94_47, rfl⟩,
   ⟨14, "PairMachine$Machine", fT6, 10, dd_94_48, rfl, okc_6, by decide, tw_513⟩,
   Or.inl ⟨1, rfl, dd_94_51, rfl⟩,
   ⟨rfl, tw_629, by decide, tw_509, by decide +kernel, 145, tw_630, dd_94_52, tw_631, ⟨"PairMachine$Store", fT7, 9, rfl, tw_632⟩, by decide +kernel⟩,
   ⟨66, "PairMachine$Machine", fT6, 10, dd_94_55, rfl, okc_6, by decide, tw_543, rfl, Or.inl rfl⟩,
   Or.inl (Or.inl ⟨dd_94_58, rfl⟩),
   ⟨dd_94_59, rfl⟩, trivial⟩
theorem okM_94 : mj_okE gG 94 (cM_94, 3, oM_94, hM_94) := ⟨rfl, rfl, by decide +kernel, trivial, okI_94⟩
theorem dd_95_0 : decode prog_5_method_11_code 0 = .ok (.aload_n 0, 1) := by decide +kernel
theorem dd_95_1 : decode prog_5_method_11_code 1 = .ok (.getfield 14, 3) := by decide +kernel
theorem dd_95_4 : decode prog_5_method_11_code 4 = .ok (.aload_n 0, 1) := by decide +kernel
theorem dd_95_5 : decode prog_5_method_11_code 5 = .ok (.getfield 59, 3) := by decide +kernel
theorem dd_95_8 : decode prog_5_method_11_code 8 = .ok (.invokevirtual 149, 3) := by decide +kernel
theorem dd_95_11 : decode prog_5_method_11_code 11 = .ok (.lstore_n 1, 1) := by decide +kernel
theorem dd_95_12 : decode prog_5_method_11_code 12 = .ok (.lload_n 1, 1) := by decide +kernel
theorem dd_95_13 : decode prog_5_method_11_code 13 = .ok (.invokestatic 171, 3) := by decide +kernel
theorem dd_95_16 : decode prog_5_method_11_code 16 = .ok (.ifCond .ne 5, 3) := by decide +kernel
theorem dd_95_19 : decode prog_5_method_11_code 19 = .ok (.iconst 0, 1) := by decide +kernel
theorem dd_95_20 : decode prog_5_method_11_code 20 = .ok (.ireturn, 1) := by decide +kernel
theorem dd_95_21 : decode prog_5_method_11_code 21 = .ok (.aload_n 0, 1) := by decide +kernel
theorem dd_95_22 : decode prog_5_method_11_code 22 = .ok (.getfield 14, 3) := by decide +kernel
theorem dd_95_25 : decode prog_5_method_11_code 25 = .ok (.aload_n 0, 1) := by decide +kernel
theorem dd_95_26 : decode prog_5_method_11_code 26 = .ok (.getfield 14, 3) := by decide +kernel
theorem dd_95_29 : decode prog_5_method_11_code 29 = .ok (.aload_n 0, 1) := by decide +kernel
theorem dd_95_30 : decode prog_5_method_11_code 30 = .ok (.getfield 59, 3) := by decide +kernel
theorem dd_95_33 : decode prog_5_method_11_code 33 = .ok (.invokevirtual 145, 3) := by decide +kernel
theorem dd_95_36 : decode prog_5_method_11_code 36 = .ok (.invokevirtual 149, 3) := by decide +kernel
theorem dd_95_39 : decode prog_5_method_11_code 39 = .ok (.lstore_n 3, 1) := by decide +kernel
theorem dd_95_40 : decode prog_5_method_11_code 40 = .ok (.aload_n 0, 1) := by decide +kernel
theorem dd_95_41 : decode prog_5_method_11_code 41 = .ok (.aload_n 0, 1) := by decide +kernel
theorem dd_95_42 : decode prog_5_method_11_code 42 = .ok (.getfield 63, 3) := by decide +kernel
theorem dd_95_45 : decode prog_5_method_11_code 45 = .ok (.invokevirtual 174, 3) := by decide +kernel
theorem dd_95_48 : decode prog_5_method_11_code 48 = .ok (.aload_n 0, 1) := by decide +kernel
theorem dd_95_49 : decode prog_5_method_11_code 49 = .ok (.aload_n 0, 1) := by decide +kernel
theorem dd_95_50 : decode prog_5_method_11_code 50 = .ok (.getfield 14, 3) := by decide +kernel
theorem dd_95_53 : decode prog_5_method_11_code 53 = .ok (.lload_n 3, 1) := by decide +kernel
theorem dd_95_54 : decode prog_5_method_11_code 54 = .ok (.aload_n 0, 1) := by decide +kernel
theorem dd_95_55 : decode prog_5_method_11_code 55 = .ok (.getfield 14, 3) := by decide +kernel
theorem dd_95_58 : decode prog_5_method_11_code 58 = .ok (.lload_n 1, 1) := by decide +kernel
theorem dd_95_59 : decode prog_5_method_11_code 59 = .ok (.invokevirtual 145, 3) := by decide +kernel
theorem dd_95_62 : decode prog_5_method_11_code 62 = .ok (.invokevirtual 152, 3) := by decide +kernel
theorem dd_95_65 : decode prog_5_method_11_code 65 = .ok (.putfield 63, 3) := by decide +kernel
theorem dd_95_68 : decode prog_5_method_11_code 68 = .ok (.aload_n 0, 1) := by decide +kernel
theorem dd_95_69 : decode prog_5_method_11_code 69 = .ok (.aload_n 0, 1) := by decide +kernel
theorem dd_95_70 : decode prog_5_method_11_code 70 = .ok (.getfield 14, 3) := by decide +kernel
theorem dd_95_73 : decode prog_5_method_11_code 73 = .ok (.lload_n 1, 1) := by decide +kernel
theorem dd_95_74 : decode prog_5_method_11_code 74 = .ok (.invokevirtual 149, 3) := by decide +kernel
theorem dd_95_77 : decode prog_5_method_11_code 77 = .ok (.putfield 66, 3) := by decide +kernel
theorem dd_95_80 : decode prog_5_method_11_code 80 = .ok (.iconst 1, 1) := by decide +kernel
theorem dd_95_81 : decode prog_5_method_11_code 81 = .ok (.ireturn, 1) := by decide +kernel
set_option maxRecDepth 100000 in
theorem okI_95 : mj_okI gG "PairMachine$Machine" prog_5_method_11_code 5 (mj_off oM_95) (Option.some Jvm.ClassFile.FieldType.boolean) false true 0 cM_95 :=
  ⟨Or.inl ⟨0, rfl, dd_95_0, rfl⟩,
   ⟨14, "PairMachine$Machine", fT6, 10, dd_95_1, rfl, okc_6, by decide, tw_513⟩,
   Or.inl ⟨0, rfl, dd_95_4, rfl⟩,
   ⟨59, "PairMachine$Machine", fT6, 10, dd_95_5, rfl, okc_6, by decide, tw_541⟩,
   ⟨rfl, tw_633, by decide, tw_509, by decide +kernel, 149, tw_634, dd_95_8, tw_635, ⟨"PairMachine$Store", fT7, 9, rfl, tw_636⟩, by decide +kernel⟩,
   ⟨by decide, Or.inl ⟨1, rfl, dd_95_11, rfl⟩⟩,
   Or.inl ⟨1, rfl, dd_95_12, rfl⟩,
   ⟨rfl, tw_655, by decide, tw_372, by decide +kernel, 171, tw_656, dd_95_13, tw_657, by decide +kernel⟩,
   ⟨5, dd_95_16, rfl, rfl⟩,
   Or.inl (Or.inl ⟨dd_95_19, rfl⟩),
   ⟨dd_95_20, rfl⟩,
   Or.inl ⟨0, rfl, dd_95_21, rfl⟩,
   ⟨14, "PairMachine$Machine", fT6, 10, dd_95_22, rfl, okc_6, by decide, tw_513⟩,
   Or.inl ⟨0, rfl, dd_95_25, rfl⟩,
   ⟨14, "PairMachine$Machine", fT6, 10, dd_95_26, rfl, okc_6, by decide, tw_513⟩,
   Or.inl ⟨0, rfl, dd_95_29, rfl⟩,
   ⟨59, "PairMachine$Machine", fT6, 10, dd_95_30, rfl, okc_6, by decide, tw_541⟩,
   ⟨rfl, tw_629, by decide, tw_509, by decide +kernel, 145, tw_630, dd_95_33, tw_631, ⟨"PairMachine$Store", fT7, 9, rfl, tw_632⟩, by decide +kernel⟩,
   ⟨rfl, tw_633, by decide, tw_509, by decide +kernel, 149, tw_634, dd_95_36, tw_635, ⟨"PairMachine$Store", fT7, 9, rfl, tw_636⟩, by decide +kernel⟩,
   ⟨by decide, Or.inl ⟨3, rfl, dd_95_39, rfl⟩⟩,
   Or.inl ⟨0, rfl, dd_95_40, rfl⟩,
   Or.inl ⟨0, rfl, dd_95_41, rfl⟩,
   ⟨63, "PairMachine$Machine", fT6, 10, dd_95_42, rfl, okc_6, by decide, tw_542⟩,
   ⟨rfl, tw_658, by decide, tw_143, by decide +kernel, 174, tw_659, dd_95_45, tw_660, ⟨"PairMachine$Machine", fT6, 10, rfl, tw_661⟩, by decide +kernel⟩,
   Or.inl ⟨0, rfl, dd_95_48, rfl⟩,
   Or.inl ⟨0, rfl, dd_95_49, rfl⟩,
   ⟨14, "PairMachine$Machine", fT6, 10, dd_95_50, rfl, okc_6, by decide, tw_513⟩,
   Or.inl ⟨3, rfl, dd_95_53, rfl⟩,
   Or.inl ⟨0, rfl, dd_95_54, rfl⟩,
   ⟨14, "PairMachine$Machine", fT6, 10, dd_95_55, rfl, okc_6, by decide, tw_513⟩,
   Or.inl ⟨1, rfl, dd_95_58, rfl⟩,
   ⟨rfl, tw_629, by decide, tw_509, by decide +kernel, 145, tw_630, dd_95_59, tw_631, ⟨"PairMachine$Store", fT7, 9, rfl, tw_632⟩, by decide +kernel⟩,
   ⟨rfl, tw_637, by decide, tw_509, by decide +kernel, 152, tw_638, dd_95_62, tw_639, ⟨"PairMachine$Store", fT7, 9, rfl, tw_640⟩, by decide +kernel⟩,
   ⟨63, "PairMachine$Machine", fT6, 10, dd_95_65, rfl, okc_6, by decide, tw_542, rfl, Or.inl rfl⟩,
   Or.inl ⟨0, rfl, dd_95_68, rfl⟩,
   Or.inl ⟨0, rfl, dd_95_69, rfl⟩,
   ⟨14, "PairMachine$Machine", fT6, 10, dd_95_70, rfl, okc_6, by decide, tw_513⟩,
   Or.inl ⟨1, rfl, dd_95_73, rfl⟩,
   ⟨rfl, tw_633, by decide, tw_509, by decide +kernel, 149, tw_634, dd_95_74, tw_635, ⟨"PairMachine$Store", fT7, 9, rfl, tw_636⟩, by decide +kernel⟩,
   ⟨66, "PairMachine$Machine", fT6, 10, dd_95_77, rfl, okc_6, by decide, tw_543, rfl, Or.inl rfl⟩,
   Or.inl (Or.inl ⟨dd_95_80, rfl⟩),
   ⟨dd_95_81, rfl⟩, trivial⟩
theorem okM_95 : mj_okE gG 95 (cM_95, 5, oM_95, hM_95) := ⟨rfl, rfl, by decide +kernel, trivial, okI_95⟩
theorem dd_96_0 : decode prog_5_method_12_code 0 = .ok (.aload_n 0, 1) := by decide +kernel
theorem dd_96_1 : decode prog_5_method_12_code 1 = .ok (.getfield 14, 3) := by decide +kernel
theorem dd_96_4 : decode prog_5_method_12_code 4 = .ok (.aload_n 0, 1) := by decide +kernel
theorem dd_96_5 : decode prog_5_method_12_code 5 = .ok (.getfield 59, 3) := by decide +kernel
theorem dd_96_8 : decode prog_5_method_12_code 8 = .ok (.invokevirtual 149, 3) := by decide +kernel
theorem dd_96_11 : decode prog_5_method_12_code 11 = .ok (.lstore_n 1, 1) := by decide +kernel
theorem dd_96_12 : decode prog_5_method_12_code 12 = .ok (.lload_n 1, 1) := by decide +kernel
theorem dd_96_13 : decode prog_5_method_12_code 13 = .ok (.invokestatic 171, 3) := by decide +kernel
theorem dd_96_16 : decode prog_5_method_12_code 16 = .ok (.ifCond .ne 5, 3) := by decide +kernel
theorem dd_96_19 : decode prog_5_method_12_code 19 = .ok (.iconst 0, 1) := by decide +kernel
theorem dd_96_20 : decode prog_5_method_12_code 20 = .ok (.ireturn, 1) := by decide +kernel
theorem dd_96_21 : decode prog_5_method_12_code 21 = .ok (.aload_n 0, 1) := by decide +kernel
theorem dd_96_22 : decode prog_5_method_12_code 22 = .ok (.getfield 14, 3) := by decide +kernel
theorem dd_96_25 : decode prog_5_method_12_code 25 = .ok (.aload_n 0, 1) := by decide +kernel
theorem dd_96_26 : decode prog_5_method_12_code 26 = .ok (.getfield 14, 3) := by decide +kernel
theorem dd_96_29 : decode prog_5_method_12_code 29 = .ok (.aload_n 0, 1) := by decide +kernel
theorem dd_96_30 : decode prog_5_method_12_code 30 = .ok (.getfield 59, 3) := by decide +kernel
theorem dd_96_33 : decode prog_5_method_12_code 33 = .ok (.invokevirtual 145, 3) := by decide +kernel
theorem dd_96_36 : decode prog_5_method_12_code 36 = .ok (.invokevirtual 149, 3) := by decide +kernel
theorem dd_96_39 : decode prog_5_method_12_code 39 = .ok (.lstore_n 3, 1) := by decide +kernel
theorem dd_96_40 : decode prog_5_method_12_code 40 = .ok (.aload_n 0, 1) := by decide +kernel
theorem dd_96_41 : decode prog_5_method_12_code 41 = .ok (.aload_n 0, 1) := by decide +kernel
theorem dd_96_42 : decode prog_5_method_12_code 42 = .ok (.getfield 14, 3) := by decide +kernel
theorem dd_96_45 : decode prog_5_method_12_code 45 = .ok (.aload_n 0, 1) := by decide +kernel
theorem dd_96_46 : decode prog_5_method_12_code 46 = .ok (.getfield 63, 3) := by decide +kernel
theorem dd_96_49 : decode prog_5_method_12_code 49 = .ok (.invokevirtual 145, 3) := by decide +kernel
theorem dd_96_52 : decode prog_5_method_12_code 52 = .ok (.invokevirtual 174, 3) := by decide +kernel
theorem dd_96_55 : decode prog_5_method_12_code 55 = .ok (.aload_n 0, 1) := by decide +kernel
theorem dd_96_56 : decode prog_5_method_12_code 56 = .ok (.aload_n 0, 1) := by decide +kernel
theorem dd_96_57 : decode prog_5_method_12_code 57 = .ok (.getfield 14, 3) := by decide +kernel
theorem dd_96_60 : decode prog_5_method_12_code 60 = .ok (.lload_n 1, 1) := by decide +kernel
theorem dd_96_61 : decode prog_5_method_12_code 61 = .ok (.invokevirtual 145, 3) := by decide +kernel
theorem dd_96_64 : decode prog_5_method_12_code 64 = .ok (.putfield 63, 3) := by decide +kernel
theorem dd_96_67 : decode prog_5_method_12_code 67 = .ok (.aload_n 0, 1) := by decide +kernel
theorem dd_96_68 : decode prog_5_method_12_code 68 = .ok (.getfield 14, 3) := by decide +kernel
theorem dd_96_71 : decode prog_5_method_12_code 71 = .ok (.aload_n 0, 1) := by decide +kernel
theorem dd_96_72 : decode prog_5_method_12_code 72 = .ok (.getfield 63, 3) := by decide +kernel
theorem dd_96_75 : decode prog_5_method_12_code 75 = .ok (.lload_n 3, 1) := by decide +kernel
theorem dd_96_76 : decode prog_5_method_12_code 76 = .ok (.invokevirtual 177, 3) := by decide +kernel
theorem dd_96_79 : decode prog_5_method_12_code 79 = .ok (.aload_n 0, 1) := by decide +kernel
theorem dd_96_80 : decode prog_5_method_12_code 80 = .ok (.aload_n 0, 1) := by decide +kernel
theorem dd_96_81 : decode prog_5_method_12_code 81 = .ok (.getfield 14, 3) := by decide +kernel
theorem dd_96_84 : decode prog_5_method_12_code 84 = .ok (.lload_n 1, 1) := by decide +kernel
theorem dd_96_85 : decode prog_5_method_12_code 85 = .ok (.invokevirtual 149, 3) := by decide +kernel
theorem dd_96_88 : decode prog_5_method_12_code 88 = .ok (.putfield 66, 3) := by decide +kernel
theorem dd_96_91 : decode prog_5_method_12_code 91 = .ok (.iconst 1, 1) := by decide +kernel
theorem dd_96_92 : decode prog_5_method_12_code 92 = .ok (.ireturn, 1) := by decide +kernel
set_option maxRecDepth 100000 in
theorem okI_96 : mj_okI gG "PairMachine$Machine" prog_5_method_12_code 5 (mj_off oM_96) (Option.some Jvm.ClassFile.FieldType.boolean) false true 0 cM_96 :=
  ⟨Or.inl ⟨0, rfl, dd_96_0, rfl⟩,
   ⟨14, "PairMachine$Machine", fT6, 10, dd_96_1, rfl, okc_6, by decide, tw_513⟩,
   Or.inl ⟨0, rfl, dd_96_4, rfl⟩,
   ⟨59, "PairMachine$Machine", fT6, 10, dd_96_5, rfl, okc_6, by decide, tw_541⟩,
   ⟨rfl, tw_633, by decide, tw_509, by decide +kernel, 149, tw_634, dd_96_8, tw_635, ⟨"PairMachine$Store", fT7, 9, rfl, tw_636⟩, by decide +kernel⟩,
   ⟨by decide, Or.inl ⟨1, rfl, dd_96_11, rfl⟩⟩,
   Or.inl ⟨1, rfl, dd_96_12, rfl⟩,
   ⟨rfl, tw_655, by decide, tw_372, by decide +kernel, 171, tw_656, dd_96_13, tw_657, by decide +kernel⟩,
   ⟨5, dd_96_16, rfl, rfl⟩,
   Or.inl (Or.inl ⟨dd_96_19, rfl⟩),
   ⟨dd_96_20, rfl⟩,
   Or.inl ⟨0, rfl, dd_96_21, rfl⟩,
   ⟨14, "PairMachine$Machine", fT6, 10, dd_96_22, rfl, okc_6, by decide, tw_513⟩,
   Or.inl ⟨0, rfl, dd_96_25, rfl⟩,
   ⟨14, "PairMachine$Machine", fT6, 10, dd_96_26, rfl, okc_6, by decide, tw_513⟩,
   Or.inl ⟨0, rfl, dd_96_29, rfl⟩,
   ⟨59, "PairMachine$Machine", fT6, 10, dd_96_30, rfl, okc_6, by decide, tw_541⟩,
   ⟨rfl, tw_629, by decide, tw_509, by decide +kernel, 145, tw_630, dd_96_33, tw_631, ⟨"PairMachine$Store", fT7, 9, rfl, tw_632⟩, by decide +kernel⟩,
   ⟨rfl, tw_633, by decide, tw_509, by decide +kernel, 149, tw_634, dd_96_36, tw_635, ⟨"PairMachine$Store", fT7, 9, rfl, tw_636⟩, by decide +kernel⟩,
   ⟨by decide, Or.inl ⟨3, rfl, dd_96_39, rfl⟩⟩,
   Or.inl ⟨0, rfl, dd_96_40, rfl⟩,
   Or.inl ⟨0, rfl, dd_96_41, rfl⟩,
   ⟨14, "PairMachine$Machine", fT6, 10, dd_96_42, rfl, okc_6, by decide, tw_513⟩,
   Or.inl ⟨0, rfl, dd_96_45, rfl⟩,
   ⟨63, "PairMachine$Machine", fT6, 10, dd_96_46, rfl, okc_6, by decide, tw_542⟩,
   ⟨rfl, tw_629, by decide, tw_509, by decide +kernel, 145, tw_630, dd_96_49, tw_631, ⟨"PairMachine$Store", fT7, 9, rfl, tw_632⟩, by decide +kernel⟩,
   ⟨rfl, tw_658, by decide, tw_143, by decide +kernel, 174, tw_659, dd_96_52, tw_660, ⟨"PairMachine$Machine", fT6, 10, rfl, tw_661⟩, by decide +kernel⟩,
   Or.inl ⟨0, rfl, dd_96_55, rfl⟩,
   Or.inl ⟨0, rfl, dd_96_56, rfl⟩,
   ⟨14, "PairMachine$Machine", fT6, 10, dd_96_57, rfl, okc_6, by decide, tw_513⟩,
   Or.inl ⟨1, rfl, dd_96_60, rfl⟩,
   ⟨rfl, tw_629, by decide, tw_509, by decide +kernel, 145, tw_630, dd_96_61, tw_631, ⟨"PairMachine$Store", fT7, 9, rfl, tw_632⟩, by decide +kernel⟩,
   ⟨63, "PairMachine$Machine", fT6, 10, dd_96_64, rfl, okc_6, by decide, tw_542, rfl, Or.inl rfl⟩,
   Or.inl ⟨0, rfl, dd_96_67, rfl⟩,
   ⟨14, "PairMachine$Machine", fT6, 10, dd_96_68, rfl, okc_6, by decide, tw_513⟩,
   Or.inl ⟨0, rfl, dd_96_71, rfl⟩,
   ⟨63, "PairMachine$Machine", fT6, 10, dd_96_72, rfl, okc_6, by decide, tw_542⟩,
   Or.inl ⟨3, rfl, dd_96_75, rfl⟩,
   ⟨rfl, tw_662, by decide, tw_509, by decide +kernel, 177, tw_663, dd_96_76, tw_664, ⟨"PairMachine$Store", fT7, 9, rfl, tw_665⟩, by decide +kernel⟩,
   Or.inl ⟨0, rfl, dd_96_79, rfl⟩,
   Or.inl ⟨0, rfl, dd_96_80, rfl⟩,
   ⟨14, "PairMachine$Machine", fT6, 10, dd_96_81, rfl, okc_6, by decide, tw_513⟩,
   Or.inl ⟨1, rfl, dd_96_84, rfl⟩,
   ⟨rfl, tw_633, by decide, tw_509, by decide +kernel, 149, tw_634, dd_96_85, tw_635, ⟨"PairMachine$Store", fT7, 9, rfl, tw_636⟩, by decide +kernel⟩,
   ⟨66, "PairMachine$Machine", fT6, 10, dd_96_88, rfl, okc_6, by decide, tw_543, rfl, Or.inl rfl⟩,
   Or.inl (Or.inl ⟨dd_96_91, rfl⟩),
   ⟨dd_96_92, rfl⟩, trivial⟩
theorem okM_96 : mj_okE gG 96 (cM_96, 5, oM_96, hM_96) := ⟨rfl, rfl, by decide +kernel, trivial, okI_96⟩
theorem dd_97_0 : decode prog_5_method_13_code 0 = .ok (.aload_n 0, 1) := by decide +kernel
theorem dd_97_1 : decode prog_5_method_13_code 1 = .ok (.getfield 14, 3) := by decide +kernel
theorem dd_97_4 : decode prog_5_method_13_code 4 = .ok (.aload_n 0, 1) := by decide +kernel
theorem dd_97_5 : decode prog_5_method_13_code 5 = .ok (.getfield 14, 3) := by decide +kernel
theorem dd_97_8 : decode prog_5_method_13_code 8 = .ok (.aload_n 0, 1) := by decide +kernel
theorem dd_97_9 : decode prog_5_method_13_code 9 = .ok (.getfield 59, 3) := by decide +kernel
theorem dd_97_12 : decode prog_5_method_13_code 12 = .ok (.invokevirtual 145, 3) := by decide +kernel
theorem dd_97_15 : decode prog_5_method_13_code 15 = .ok (.invokevirtual 145, 3) := by decide +kernel
theorem dd_97_18 : decode prog_5_method_13_code 18 = .ok (.lstore_n 3, 1) := by decide +kernel
theorem dd_97_19 : decode prog_5_method_13_code 19 = .ok (.aload_n 0, 1) := by decide +kernel
theorem dd_97_20 : decode prog_5_method_13_code 20 = .ok (.aload_n 0, 1) := by decide +kernel
theorem dd_97_21 : decode prog_5_method_13_code 21 = .ok (.getfield 14, 3) := by decide +kernel
theorem dd_97_24 : decode prog_5_method_13_code 24 = .ok (.aload_n 0, 1) := by decide +kernel
theorem dd_97_25 : decode prog_5_method_13_code 25 = .ok (.getfield 14, 3) := by decide +kernel
theorem dd_97_28 : decode prog_5_method_13_code 28 = .ok (.aload_n 0, 1) := by decide +kernel
theorem dd_97_29 : decode prog_5_method_13_code 29 = .ok (.getfield 66, 3) := by decide +kernel
theorem dd_97_32 : decode prog_5_method_13_code 32 = .ok (.invokevirtual 145, 3) := by decide +kernel
theorem dd_97_35 : decode prog_5_method_13_code 35 = .ok (.aload_n 0, 1) := by decide +kernel
theorem dd_97_36 : decode prog_5_method_13_code 36 = .ok (.getfield 69, 3) := by decide +kernel
theorem dd_97_39 : decode prog_5_method_13_code 39 = .ok (.invokevirtual 152, 3) := by decide +kernel
theorem dd_97_42 : decode prog_5_method_13_code 42 = .ok (.putfield 69, 3) := by decide +kernel
theorem dd_97_45 : decode prog_5_method_13_code 45 = .ok (.aload_n 0, 1) := by decide +kernel
theorem dd_97_46 : decode prog_5_method_13_code 46 = .ok (.aload_n 0, 1) := by decide +kernel
theorem dd_97_47 : decode prog_5_method_13_code 47 = .ok (.getfield 14, 3) := by decide +kernel
theorem dd_97_50 : decode prog_5_method_13_code 50 = .ok (.lload_n 1, 1) := by decide +kernel
theorem dd_97_51 : decode prog_5_method_13_code 51 = .ok (.aload_n 0, 1) := by decide +kernel
theorem dd_97_52 : decode prog_5_method_13_code 52 = .ok (.getfield 69, 3) := by decide +kernel
theorem dd_97_55 : decode prog_5_method_13_code 55 = .ok (.invokevirtual 152, 3) := by decide +kernel
theorem dd_97_58 : decode prog_5_method_13_code 58 = .ok (.putfield 69, 3) := by decide +kernel
theorem dd_97_61 : decode prog_5_method_13_code 61 = .ok (.aload_n 0, 1) := by decide +kernel
theorem dd_97_62 : decode prog_5_method_13_code 62 = .ok (.aload_n 0, 1) := by decide +kernel
theorem dd_97_63 : decode prog_5_method_13_code 63 = .ok (.getfield 14, 3) := by decide +kernel
theorem dd_97_66 : decode prog_5_method_13_code 66 = .ok (.lload_n 3, 1) := by decide +kernel
theorem dd_97_67 : decode prog_5_method_13_code 67 = .ok (.aload_n 0, 1) := by decide +kernel
theorem dd_97_68 : decode prog_5_method_13_code 68 = .ok (.getfield 69, 3) := by decide +kernel
theorem dd_97_71 : decode prog_5_method_13_code 71 = .ok (.invokevirtual 152, 3) := by decide +kernel
theorem dd_97_74 : decode prog_5_method_13_code 74 = .ok (.putfield 69, 3) := by decide +kernel
theorem dd_97_77 : decode prog_5_method_13_code 77 = .ok (.aload_n 0, 1) := by decide +kernel
theorem dd_97_78 : decode prog_5_method_13_code 78 = .ok (.lconst 0, 1) := by decide +kernel
theorem dd_97_79 : decode prog_5_method_13_code 79 = .ok (.putfield 59, 3) := by decide +kernel
theorem dd_97_82 : decode prog_5_method_13_code 82 = .ok (.return_, 1) := by decide +kernel
set_option maxRecDepth 100000 in
theorem okI_97 : mj_okI gG "PairMachine$Machine" prog_5_method_13_code 5 (mj_off oM_97) (Option.none : Option Jvm.ClassFile.FieldType) false true 0 cM_97 :=
  ⟨Or.inl ⟨0, rfl, dd_97_0, rfl⟩,
   ⟨14, "PairMachine$Machine", fT6, 10, dd_97_1, rfl, okc_6, by decide, tw_513⟩,
   Or.inl ⟨0, rfl, dd_97_4, rfl⟩,
   ⟨14, "PairMachine$Machine", fT6, 10, dd_97_5, rfl, okc_6, by decide, tw_513⟩,
   Or.inl ⟨0, rfl, dd_97_8, rfl⟩,
   ⟨59, "PairMachine$Machine", fT6, 10, dd_97_9, rfl, okc_6, by decide, tw_541⟩,
   ⟨rfl, tw_629, by decide, tw_509, by decide +kernel, 145, tw_630, dd_97_12, tw_631, ⟨"PairMachine$Store", fT7, 9, rfl, tw_632⟩, by decide +kernel⟩,
   ⟨rfl, tw_629, by decide, tw_509, by decide +kernel, 145, tw_630, dd_97_15, tw_631, ⟨"PairMachine$Store", fT7, 9, rfl, tw_632⟩, by decide +kernel⟩,
   ⟨by decide, Or.inl ⟨3, rfl, dd_97_18, rfl⟩⟩,
   Or.inl ⟨0, rfl, dd_97_19, rfl⟩,
   Or.inl ⟨0, rfl, dd_97_20, rfl⟩,
   ⟨14, "PairMachine$Machine", fT6, 10, dd_97_21, rfl, okc_6, by decide, tw_513⟩,
   Or.inl ⟨0, rfl, dd_97_24, rfl⟩,
   ⟨14, "PairMachine$Machine", fT6, 10, dd_97_25, rfl, okc_6, by decide, tw_513⟩,
   Or.inl ⟨0, rfl, dd_97_28, rfl⟩,
   ⟨66, "PairMachine$Machine", fT6, 10, dd_97_29, rfl, okc_6, by decide, tw_543⟩,
   ⟨rfl, tw_629, by decide, tw_509, by decide +kernel, 145, tw_630, dd_97_32, tw_631, ⟨"PairMachine$Store", fT7, 9, rfl, tw_632⟩, by decide +kernel⟩,
   Or.inl ⟨0, rfl, dd_97_35, rfl⟩,
   ⟨69, "PairMachine$Machine", fT6, 10, dd_97_36, rfl, okc_6, by decide, tw_544⟩,
   ⟨rfl, tw_637, by decide, tw_509, by decide +kernel, 152, tw_638, dd_97_39, tw_639, ⟨"PairMachine$Store", fT7, 9, rfl, tw_640⟩, by decide +kernel⟩,
   ⟨69, "PairMachine$Machine", fT6, 10, dd_97_42, rfl, okc_6, by decide, tw_544, rfl, Or.inl rfl⟩,
   Or.inl ⟨0, rfl, dd_97_45, rfl⟩,
   Or.inl ⟨0, rfl, dd_97_46, rfl⟩,
   ⟨14, "PairMachine$Machine", fT6, 10, dd_97_47, rfl, okc_6, by decide, tw_513⟩,
   Or.inl ⟨1, rfl, dd_97_50, rfl⟩,
   Or.inl ⟨0, rfl, dd_97_51, rfl⟩,
   ⟨69, "PairMachine$Machine", fT6, 10, dd_97_52, rfl, okc_6, by decide, tw_544⟩,
   ⟨rfl, tw_637, by decide, tw_509, by decide +kernel, 152, tw_638, dd_97_55, tw_639, ⟨"PairMachine$Store", fT7, 9, rfl, tw_640⟩, by decide +kernel⟩,
   ⟨69, "PairMachine$Machine", fT6, 10, dd_97_58, rfl, okc_6, by decide, tw_544, rfl, Or.inl rfl⟩,
   Or.inl ⟨0, rfl, dd_97_61, rfl⟩,
   Or.inl ⟨0, rfl, dd_97_62, rfl⟩,
   ⟨14, "PairMachine$Machine", fT6, 10, dd_97_63, rfl, okc_6, by decide, tw_513⟩,
   Or.inl ⟨3, rfl, dd_97_66, rfl⟩,
   Or.inl ⟨0, rfl, dd_97_67, rfl⟩,
   ⟨69, "PairMachine$Machine", fT6, 10, dd_97_68, rfl, okc_6, by decide, tw_544⟩,
   ⟨rfl, tw_637, by decide, tw_509, by decide +kernel, 152, tw_638, dd_97_71, tw_639, ⟨"PairMachine$Store", fT7, 9, rfl, tw_640⟩, by decide +kernel⟩,
   ⟨69, "PairMachine$Machine", fT6, 10, dd_97_74, rfl, okc_6, by decide, tw_544, rfl, Or.inl rfl⟩,
   Or.inl ⟨0, rfl, dd_97_77, rfl⟩,
   Or.inl ⟨0, rfl, dd_97_78, rfl⟩,
   ⟨59, "PairMachine$Machine", fT6, 10, dd_97_79, rfl, okc_6, by decide, tw_541, rfl, Or.inl rfl⟩,
   ⟨dd_97_82, rfl⟩, trivial⟩
theorem okM_97 : mj_okE gG 97 (cM_97, 5, oM_97, hM_97) := ⟨rfl, rfl, by decide +kernel, trivial, okI_97⟩
theorem dd_98_0 : decode prog_5_method_14_code 0 = .ok (.aload_n 0, 1) := by decide +kernel
theorem dd_98_1 : decode prog_5_method_14_code 1 = .ok (.getfield 14, 3) := by decide +kernel
theorem dd_98_4 : decode prog_5_method_14_code 4 = .ok (.aload_n 0, 1) := by decide +kernel
theorem dd_98_5 : decode prog_5_method_14_code 5 = .ok (.getfield 59, 3) := by decide +kernel
theorem dd_98_8 : decode prog_5_method_14_code 8 = .ok (.invokevirtual 149, 3) := by decide +kernel
theorem dd_98_11 : decode prog_5_method_14_code 11 = .ok (.lstore_n 1, 1) := by decide +kernel
theorem dd_98_12 : decode prog_5_method_14_code 12 = .ok (.aload_n 0, 1) := by decide +kernel
theorem dd_98_13 : decode prog_5_method_14_code 13 = .ok (.getfield 14, 3) := by decide +kernel
theorem dd_98_16 : decode prog_5_method_14_code 16 = .ok (.aload_n 0, 1) := by decide +kernel
theorem dd_98_17 : decode prog_5_method_14_code 17 = .ok (.getfield 69, 3) := by decide +kernel
theorem dd_98_20 : decode prog_5_method_14_code 20 = .ok (.invokevirtual 145, 3) := by decide +kernel
theorem dd_98_23 : decode prog_5_method_14_code 23 = .ok (.lstore_n 3, 1) := by decide +kernel
theorem dd_98_24 : decode prog_5_method_14_code 24 = .ok (.aload_n 0, 1) := by decide +kernel
theorem dd_98_25 : decode prog_5_method_14_code 25 = .ok (.getfield 14, 3) := by decide +kernel
theorem dd_98_28 : decode prog_5_method_14_code 28 = .ok (.lload_n 3, 1) := by decide +kernel
theorem dd_98_29 : decode prog_5_method_14_code 29 = .ok (.invokevirtual 145, 3) := by decide +kernel
theorem dd_98_32 : decode prog_5_method_14_code 32 = .ok (.lstore 5, 2) := by decide +kernel
theorem dd_98_34 : decode prog_5_method_14_code 34 = .ok (.aload_n 0, 1) := by decide +kernel
theorem dd_98_35 : decode prog_5_method_14_code 35 = .ok (.aload_n 0, 1) := by decide +kernel
theorem dd_98_36 : decode prog_5_method_14_code 36 = .ok (.getfield 14, 3) := by decide +kernel
theorem dd_98_39 : decode prog_5_method_14_code 39 = .ok (.lload_n 1, 1) := by decide +kernel
theorem dd_98_40 : decode prog_5_method_14_code 40 = .ok (.aload_n 0, 1) := by decide +kernel
theorem dd_98_41 : decode prog_5_method_14_code 41 = .ok (.getfield 14, 3) := by decide +kernel
theorem dd_98_44 : decode prog_5_method_14_code 44 = .ok (.aload_n 0, 1) := by decide +kernel
theorem dd_98_45 : decode prog_5_method_14_code 45 = .ok (.getfield 69, 3) := by decide +kernel
theorem dd_98_48 : decode prog_5_method_14_code 48 = .ok (.invokevirtual 149, 3) := by decide +kernel
theorem dd_98_51 : decode prog_5_method_14_code 51 = .ok (.invokevirtual 152, 3) := by decide +kernel
theorem dd_98_54 : decode prog_5_method_14_code 54 = .ok (.putfield 59, 3) := by decide +kernel
theorem dd_98_57 : decode prog_5_method_14_code 57 = .ok (.aload_n 0, 1) := by decide +kernel
theorem dd_98_58 : decode prog_5_method_14_code 58 = .ok (.aload_n 0, 1) := by decide +kernel
theorem dd_98_59 : decode prog_5_method_14_code 59 = .ok (.getfield 14, 3) := by decide +kernel
theorem dd_98_62 : decode prog_5_method_14_code 62 = .ok (.lload_n 3, 1) := by decide +kernel
theorem dd_98_63 : decode prog_5_method_14_code 63 = .ok (.invokevirtual 149, 3) := by decide +kernel
theorem dd_98_66 : decode prog_5_method_14_code 66 = .ok (.putfield 63, 3) := by decide +kernel
theorem dd_98_69 : decode prog_5_method_14_code 69 = .ok (.aload_n 0, 1) := by decide +kernel
theorem dd_98_70 : decode prog_5_method_14_code 70 = .ok (.aload_n 0, 1) := by decide +kernel
theorem dd_98_71 : decode prog_5_method_14_code 71 = .ok (.getfield 14, 3) := by decide +kernel
theorem dd_98_74 : decode prog_5_method_14_code 74 = .ok (.lload 5, 2) := by decide +kernel
theorem dd_98_76 : decode prog_5_method_14_code 76 = .ok (.invokevirtual 149, 3) := by decide +kernel
theorem dd_98_79 : decode prog_5_method_14_code 79 = .ok (.putfield 66, 3) := by decide +kernel
theorem dd_98_82 : decode prog_5_method_14_code 82 = .ok (.aload_n 0, 1) := by decide +kernel
theorem dd_98_83 : decode prog_5_method_14_code 83 = .ok (.aload_n 0, 1) := by decide +kernel
theorem dd_98_84 : decode prog_5_method_14_code 84 = .ok (.getfield 14, 3) := by decide +kernel
theorem dd_98_87 : decode prog_5_method_14_code 87 = .ok (.lload 5, 2) := by decide +kernel
theorem dd_98_89 : decode prog_5_method_14_code 89 = .ok (.invokevirtual 145, 3) := by decide +kernel
theorem dd_98_92 : decode prog_5_method_14_code 92 = .ok (.putfield 69, 3) := by decide +kernel
theorem dd_98_95 : decode prog_5_method_14_code 95 = .ok (.iconst 1, 1) := by decide +kernel
theorem dd_98_96 : decode prog_5_method_14_code 96 = .ok (.ireturn, 1) := by decide +kernel
set_option maxRecDepth 100000 in
theorem okI_98 : mj_okI gG "PairMachine$Machine" prog_5_method_14_code 7 (mj_off oM_98) (Option.some Jvm.ClassFile.FieldType.boolean) false true 0 cM_98 :=
  ⟨Or.inl ⟨0, rfl, dd_98_0, rfl⟩,
   ⟨14, "PairMachine$Machine", fT6, 10, dd_98_1, rfl, okc_6, by decide, tw_513⟩,
   Or.inl ⟨0, rfl, dd_98_4, rfl⟩,
   ⟨59, "PairMachine$Machine", fT6, 10, dd_98_5, rfl, okc_6, by decide, tw_541⟩,
   ⟨rfl, tw_633, by decide, tw_509, by decide +kernel, 149, tw_634, dd_98_8, tw_635, ⟨"PairMachine$Store", fT7, 9, rfl, tw_636⟩, by decide +kernel⟩,
   ⟨by decide, Or.inl ⟨1, rfl, dd_98_11, rfl⟩⟩,
   Or.inl ⟨0, rfl, dd_98_12, rfl⟩,
   ⟨14, "PairMachine$Machine", fT6, 10, dd_98_13, rfl, okc_6, by decide, tw_513⟩,
   Or.inl ⟨0, rfl, dd_98_16, rfl⟩,
   ⟨69, "PairMachine$Machine", fT6, 10, dd_98_17, rfl, okc_6, by decide, tw_544⟩,
   ⟨rfl, tw_629, by decide, tw_509, by decide +kernel, 145, tw_630, dd_98_20, tw_631, ⟨"PairMachine$Store", fT7, 9, rfl, tw_632⟩, by decide +kernel⟩,
   ⟨by decide, Or.inl ⟨3, rfl, dd_98_23, rfl⟩⟩,
   Or.inl ⟨0, rfl, dd_98_24, rfl⟩,
   ⟨14, "PairMachine$Machine", fT6, 10, dd_98_25, rfl, okc_6, by decide, tw_513⟩,
   Or.inl ⟨3, rfl, dd_98_28, rfl⟩,
   ⟨rfl, tw_629, by decide, tw_509, by decide +kernel, 145, tw_630, dd_98_29, tw_631, ⟨"PairMachine$Store", fT7, 9, rfl, tw_632⟩, by decide +kernel⟩,
   ⟨by decide, Or.inr ⟨dd_98_32, rfl⟩⟩,
   Or.inl ⟨0, rfl, dd_98_34, rfl⟩,
   Or.inl ⟨0, rfl, dd_98_35, rfl⟩,
   ⟨14, "PairMachine$Machine", fT6, 10, dd_98_36, rfl, okc_6, by decide, tw_513⟩,
   Or.inl ⟨1, rfl, dd_98_39, rfl⟩,
   Or.inl ⟨0, rfl, dd_98_40, rfl⟩,
   ⟨14, "PairMachine$Machine", fT6, 10, dd_98_41, rfl, okc_6, by decide, tw_513⟩,
   Or.inl ⟨0, rfl, dd_98_44, rfl⟩,
   ⟨69, "PairMachine$Machine", fT6, 10, dd_98_45, rfl, okc_6, by decide, tw_544⟩,
   ⟨rfl, tw_633, by decide, tw_509, by decide +kernel, 149, tw_634, dd_98_48, tw_635, ⟨"PairMachine$Store", fT7, 9, rfl, tw_636⟩, by decide +kernel⟩,
   ⟨rfl, tw_637, by decide, tw_509, by decide +kernel, 152, tw_638, dd_98_51, tw_639, ⟨"PairMachine$Store", fT7, 9, rfl, tw_640⟩, by decide +kernel⟩,
   ⟨59, "PairMachine$Machine", fT6, 10, dd_98_54, rfl, okc_6, by decide, tw_541, rfl, Or.inl rfl⟩,
   Or.inl ⟨0, rfl, dd_98_57, rfl⟩,
   Or.inl ⟨0, rfl, dd_98_58, rfl⟩,
   ⟨14, "PairMachine$Machine", fT6, 10, dd_98_59, rfl, okc_6, by decide, tw_513⟩,
   Or.inl ⟨3, rfl, dd_98_62, rfl⟩,
   ⟨rfl, tw_633, by decide, tw_509, by decide +kernel, 149, tw_634, dd_98_63, tw_635, ⟨"PairMachine$Store", fT7, 9, rfl, tw_636⟩, by decide +kernel⟩,
   ⟨63, "PairMachine$Machine", fT6, 10, dd_98_66, rfl, okc_6, by decide, tw_542, rfl, Or.inl rfl⟩,
   Or.inl ⟨0, rfl, dd_98_69, rfl⟩,
   Or.inl ⟨0, rfl, dd_98_70, rfl⟩,
   ⟨14, "PairMachine$Machine", fT6, 10, dd_98_71, rfl, okc_6, by decide, tw_513⟩,
   Or.inr ⟨dd_98_74, rfl⟩,
   ⟨rfl, tw_633, by decide, tw_509, by decide +kernel, 149, tw_634, dd_98_76, tw_635, ⟨"PairMachine$Store", fT7, 9, rfl, tw_636⟩, by decide +kernel⟩,
   ⟨66, "PairMachine$Machine", fT6, 10, dd_98_79, rfl, okc_6, by decide, tw_543, rfl, Or.inl rfl⟩,
   Or.inl ⟨0, rfl, dd_98_82, rfl⟩,
   Or.inl ⟨0, rfl, dd_98_83, rfl⟩,
   ⟨14, "PairMachine$Machine", fT6, 10, dd_98_84, rfl, okc_6, by decide, tw_513⟩,
   Or.inr ⟨dd_98_87, rfl⟩,
   ⟨rfl, tw_629, by decide, tw_509, by decide +kernel, 145, tw_630, dd_98_89, tw_631, ⟨"PairMachine$Store", fT7, 9, rfl, tw_632⟩, by decide +kernel⟩,
   ⟨69, "PairMachine$Machine", fT6, 10, dd_98_92, rfl, okc_6, by decide, tw_544, rfl, Or.inl rfl⟩,
   Or.inl (Or.inl ⟨dd_98_95, rfl⟩),
   ⟨dd_98_96, rfl⟩, trivial⟩
theorem okM_98 : mj_okE gG 98 (cM_98, 7, oM_98, hM_98) := ⟨rfl, rfl, by decide +kernel, trivial, okI_98⟩
theorem dd_99_0 : decode prog_5_method_15_code 0 = .ok (.aload_n 0, 1) := by decide +kernel
theorem dd_99_1 : decode prog_5_method_15_code 1 = .ok (.aload_n 0, 1) := by decide +kernel
theorem dd_99_2 : decode prog_5_method_15_code 2 = .ok (.getfield 14, 3) := by decide +kernel
theorem dd_99_5 : decode prog_5_method_15_code 5 = .ok (.lconst 0, 1) := by decide +kernel
theorem dd_99_6 : decode prog_5_method_15_code 6 = .ok (.aload_n 0, 1) := by decide +kernel
theorem dd_99_7 : decode prog_5_method_15_code 7 = .ok (.getfield 63, 3) := by decide +kernel
theorem dd_99_10 : decode prog_5_method_15_code 10 = .ok (.invokevirtual 152, 3) := by decide +kernel
theorem dd_99_13 : decode prog_5_method_15_code 13 = .ok (.putfield 63, 3) := by decide +kernel
theorem dd_99_16 : decode prog_5_method_15_code 16 = .ok (.aload_n 0, 1) := by decide +kernel
theorem dd_99_17 : decode prog_5_method_15_code 17 = .ok (.aload_n 0, 1) := by decide +kernel
theorem dd_99_18 : decode prog_5_method_15_code 18 = .ok (.getfield 14, 3) := by decide +kernel
theorem dd_99_21 : decode prog_5_method_15_code 21 = .ok (.aload_n 0, 1) := by decide +kernel
theorem dd_99_22 : decode prog_5_method_15_code 22 = .ok (.getfield 66, 3) := by decide +kernel
theorem dd_99_25 : decode prog_5_method_15_code 25 = .ok (.invokevirtual 145, 3) := by decide +kernel
theorem dd_99_28 : decode prog_5_method_15_code 28 = .ok (.putfield 66, 3) := by decide +kernel
theorem dd_99_31 : decode prog_5_method_15_code 31 = .ok (.iconst 1, 1) := by decide +kernel
theorem dd_99_32 : decode prog_5_method_15_code 32 = .ok (.ireturn, 1) := by decide +kernel
set_option maxRecDepth 100000 in
theorem okI_99 : mj_okI gG "PairMachine$Machine" prog_5_method_15_code 1 (mj_off oM_99) (Option.some Jvm.ClassFile.FieldType.boolean) false true 0 cM_99 :=
  ⟨Or.inl ⟨0, rfl, dd_99_0, rfl⟩,
   Or.inl ⟨0, rfl, dd_99_1, rfl⟩,
   ⟨14, "PairMachine$Machine", fT6, 10, dd_99_2, rfl, okc_6, by decide, tw_513⟩,
   Or.inl ⟨0, rfl, dd_99_5, rfl⟩,
   Or.inl ⟨0, rfl, dd_99_6, rfl⟩,
   ⟨63, "PairMachine$Machine", fT6, 10, dd_99_7, rfl, okc_6, by decide, tw_542⟩,
   ⟨rfl, tw_637, by decide, tw_509, by decide +kernel, 152, tw_638, dd_99_10, tw_639, ⟨"PairMachine$Store", fT7, 9, rfl, tw_640⟩, by decide +kernel⟩,
   ⟨63, "PairMachine$Machine", fT6, 10, dd_99_13, rfl, okc_6, by decide, tw_542, rfl, Or.inl rfl⟩,
   Or.inl ⟨0, rfl, dd_99_16, rfl⟩,
   Or.inl ⟨0, rfl, dd_99_17, rfl⟩,
   ⟨14, "PairMachine$Machine", fT6, 10, dd_99_18, rfl, okc_6, by decide, tw_513⟩,
   Or.inl ⟨0, rfl, dd_99_21, rfl⟩,
   ⟨66, "PairMachine$Machine", fT6, 10, dd_99_22, rfl, okc_6, by decide, tw_543⟩,
   ⟨rfl, tw_629, by decide, tw_509, by decide +kernel, 145, tw_630, dd_99_25, tw_631, ⟨"PairMachine$Store", fT7, 9, rfl, tw_632⟩, by decide +kernel⟩,
   ⟨66, "PairMachine$Machine", fT6, 10, dd_99_28, rfl, okc_6, by decide, tw_543, rfl, Or.inl rfl⟩,
   Or.inl (Or.inl ⟨dd_99_31, rfl⟩),
   ⟨dd_99_32, rfl⟩, trivial⟩
theorem okM_99 : mj_okE gG 99 (cM_99, 1, oM_99, hM_99) := ⟨rfl, rfl, by decide +kernel, trivial, okI_99⟩
end
