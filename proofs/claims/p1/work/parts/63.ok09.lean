theorem dd_135_0 : decode prog_8_method_16_code 0 = .ok (.lload_n 1, 1) := by decide +kernel
theorem dd_135_1 : decode prog_8_method_16_code 1 = .ok (.invokestatic 73, 3) := by decide +kernel
theorem dd_135_4 : decode prog_8_method_16_code 4 = .ok (.istore_n 3, 1) := by decide +kernel
theorem dd_135_5 : decode prog_8_method_16_code 5 = .ok (.iload_n 3, 1) := by decide +kernel
theorem dd_135_6 : decode prog_8_method_16_code 6 = .ok (.ifCond .lt 58, 3) := by decide +kernel
theorem dd_135_9 : decode prog_8_method_16_code 9 = .ok (.iload_n 3, 1) := by decide +kernel
theorem dd_135_10 : decode prog_8_method_16_code 10 = .ok (.aload_n 0, 1) := by decide +kernel
theorem dd_135_11 : decode prog_8_method_16_code 11 = .ok (.getfield 9, 3) := by decide +kernel
theorem dd_135_14 : decode prog_8_method_16_code 14 = .ok (.if_icmp .ge 50, 3) := by decide +kernel
theorem dd_135_17 : decode prog_8_method_16_code 17 = .ok (.aload_n 0, 1) := by decide +kernel
theorem dd_135_18 : decode prog_8_method_16_code 18 = .ok (.getfield 26, 3) := by decide +kernel
theorem dd_135_21 : decode prog_8_method_16_code 21 = .ok (.iload_n 3, 1) := by decide +kernel
theorem dd_135_22 : decode prog_8_method_16_code 22 = .ok (.baload, 1) := by decide +kernel
theorem dd_135_23 : decode prog_8_method_16_code 23 = .ok (.ifCond .ne 41, 3) := by decide +kernel
theorem dd_135_26 : decode prog_8_method_16_code 26 = .ok (.aload_n 0, 1) := by decide +kernel
theorem dd_135_27 : decode prog_8_method_16_code 27 = .ok (.getfield 84, 3) := by decide +kernel
theorem dd_135_30 : decode prog_8_method_16_code 30 = .ok (.aload_n 0, 1) := by decide +kernel
theorem dd_135_31 : decode prog_8_method_16_code 31 = .ok (.getfield 9, 3) := by decide +kernel
theorem dd_135_34 : decode prog_8_method_16_code 34 = .ok (.if_icmp .ge 30, 3) := by decide +kernel
theorem dd_135_37 : decode prog_8_method_16_code 37 = .ok (.aload_n 0, 1) := by decide +kernel
theorem dd_135_38 : decode prog_8_method_16_code 38 = .ok (.getfield 26, 3) := by decide +kernel
theorem dd_135_41 : decode prog_8_method_16_code 41 = .ok (.iload_n 3, 1) := by decide +kernel
theorem dd_135_42 : decode prog_8_method_16_code 42 = .ok (.iconst 1, 1) := by decide +kernel
theorem dd_135_43 : decode prog_8_method_16_code 43 = .ok (.bastore, 1) := by decide +kernel
theorem dd_135_44 : decode prog_8_method_16_code 44 = .ok (.aload_n 0, 1) := by decide +kernel
theorem dd_135_45 : decode prog_8_method_16_code 45 = .ok (.getfield 30, 3) := by decide +kernel
theorem dd_135_48 : decode prog_8_method_16_code 48 = .ok (.aload_n 0, 1) := by decide +kernel
theorem dd_135_49 : decode prog_8_method_16_code 49 = .ok (.getfield 84, 3) := by decide +kernel
theorem dd_135_52 : decode prog_8_method_16_code 52 = .ok (.iload_n 3, 1) := by decide +kernel
theorem dd_135_53 : decode prog_8_method_16_code 53 = .ok (.iastore, 1) := by decide +kernel
theorem dd_135_54 : decode prog_8_method_16_code 54 = .ok (.aload_n 0, 1) := by decide +kernel
theorem dd_135_55 : decode prog_8_method_16_code 55 = .ok (.dup, 1) := by decide +kernel
theorem dd_135_56 : decode prog_8_method_16_code 56 = .ok (.getfield 84, 3) := by decide +kernel
theorem dd_135_59 : decode prog_8_method_16_code 59 = .ok (.iconst 1, 1) := by decide +kernel
theorem dd_135_60 : decode prog_8_method_16_code 60 = .ok (.iadd, 1) := by decide +kernel
theorem dd_135_61 : decode prog_8_method_16_code 61 = .ok (.putfield 84, 3) := by decide +kernel
theorem dd_135_64 : decode prog_8_method_16_code 64 = .ok (.return_, 1) := by decide +kernel
set_option maxRecDepth 100000 in
theorem okI_135 : mj_okI gG "PairMachine$Store" prog_8_method_16_code 4 (mj_off oM_135) (Option.none : Option Jvm.ClassFile.FieldType) false true 0 cM_135 :=
  ⟨Or.inl ⟨1, rfl, dd_135_0, rfl⟩,
   ⟨rfl, tw_678, by decide, tw_376, by decide +kernel, 73, tw_729, dd_135_1, tw_680, by decide +kernel⟩,
   ⟨by decide, Or.inl ⟨3, rfl, dd_135_4, rfl⟩⟩,
   Or.inl ⟨3, rfl, dd_135_5, rfl⟩,
   ⟨58, dd_135_6, rfl, rfl⟩,
   Or.inl ⟨3, rfl, dd_135_9, rfl⟩,
   Or.inl ⟨0, rfl, dd_135_10, rfl⟩,
   ⟨9, "PairMachine$Store", fT7, 9, dd_135_11, rfl, okc_7, by decide, tw_701⟩,
   ⟨50, dd_135_14, rfl, rfl⟩,
   Or.inl ⟨0, rfl, dd_135_17, rfl⟩,
   ⟨26, "PairMachine$Store", fT7, 9, dd_135_18, rfl, okc_7, by decide, tw_706⟩,
   Or.inl ⟨3, rfl, dd_135_21, rfl⟩,
   ⟨dd_135_22, rfl⟩,
   ⟨41, dd_135_23, rfl, rfl⟩,
   Or.inl ⟨0, rfl, dd_135_26, rfl⟩,
   ⟨84, "PairMachine$Store", fT7, 9, dd_135_27, rfl, okc_7, by decide, tw_732⟩,
   Or.inl ⟨0, rfl, dd_135_30, rfl⟩,
   ⟨9, "PairMachine$Store", fT7, 9, dd_135_31, rfl, okc_7, by decide, tw_701⟩,
   ⟨30, dd_135_34, rfl, rfl⟩,
   Or.inl ⟨0, rfl, dd_135_37, rfl⟩,
   ⟨26, "PairMachine$Store", fT7, 9, dd_135_38, rfl, okc_7, by decide, tw_706⟩,
   Or.inl ⟨3, rfl, dd_135_41, rfl⟩,
   Or.inl (Or.inl ⟨dd_135_42, rfl⟩),
   ⟨dd_135_43, rfl⟩,
   Or.inl ⟨0, rfl, dd_135_44, rfl⟩,
   ⟨30, "PairMachine$Store", fT7, 9, dd_135_45, rfl, okc_7, by decide, tw_707⟩,
   Or.inl ⟨0, rfl, dd_135_48, rfl⟩,
   ⟨84, "PairMachine$Store", fT7, 9, dd_135_49, rfl, okc_7, by decide, tw_732⟩,
   Or.inl ⟨3, rfl, dd_135_52, rfl⟩,
   ⟨dd_135_53, rfl⟩,
   Or.inl ⟨0, rfl, dd_135_54, rfl⟩,
   ⟨dd_135_55, rfl⟩,
   ⟨84, "PairMachine$Store", fT7, 9, dd_135_56, rfl, okc_7, by decide, tw_732⟩,
   Or.inl (Or.inl ⟨dd_135_59, rfl⟩),
   ⟨dd_135_60, rfl⟩,
   ⟨84, "PairMachine$Store", fT7, 9, dd_135_61, rfl, okc_7, by decide, tw_732, rfl, Or.inl rfl⟩,
   ⟨dd_135_64, rfl⟩, trivial⟩
theorem okM_135 : mj_okE gG 135 (cM_135, 4, oM_135, hM_135) := ⟨rfl, rfl, by decide +kernel, trivial, okI_135⟩
theorem dd_136_0 : decode prog_8_method_17_code 0 = .ok (.aload_n 0, 1) := by decide +kernel
theorem dd_136_1 : decode prog_8_method_17_code 1 = .ok (.getfield 33, 3) := by decide +kernel
theorem dd_136_4 : decode prog_8_method_17_code 4 = .ok (.istore_n 1, 1) := by decide +kernel
theorem dd_136_5 : decode prog_8_method_17_code 5 = .ok (.aload_n 0, 1) := by decide +kernel
theorem dd_136_6 : decode prog_8_method_17_code 6 = .ok (.iconst 0, 1) := by decide +kernel
theorem dd_136_7 : decode prog_8_method_17_code 7 = .ok (.putfield 33, 3) := by decide +kernel
theorem dd_136_10 : decode prog_8_method_17_code 10 = .ok (.iconst 0, 1) := by decide +kernel
theorem dd_136_11 : decode prog_8_method_17_code 11 = .ok (.istore_n 2, 1) := by decide +kernel
theorem dd_136_12 : decode prog_8_method_17_code 12 = .ok (.iload_n 2, 1) := by decide +kernel
theorem dd_136_13 : decode prog_8_method_17_code 13 = .ok (.aload_n 0, 1) := by decide +kernel
theorem dd_136_14 : decode prog_8_method_17_code 14 = .ok (.getfield 9, 3) := by decide +kernel
theorem dd_136_17 : decode prog_8_method_17_code 17 = .ok (.if_icmp .ge 38, 3) := by decide +kernel
theorem dd_136_20 : decode prog_8_method_17_code 20 = .ok (.aload_n 0, 1) := by decide +kernel
theorem dd_136_21 : decode prog_8_method_17_code 21 = .ok (.getfield 26, 3) := by decide +kernel
theorem dd_136_24 : decode prog_8_method_17_code 24 = .ok (.iload_n 2, 1) := by decide +kernel
theorem dd_136_25 : decode prog_8_method_17_code 25 = .ok (.baload, 1) := by decide +kernel
theorem dd_136_26 : decode prog_8_method_17_code 26 = .ok (.ifCond .ne 23, 3) := by decide +kernel
theorem dd_136_29 : decode prog_8_method_17_code 29 = .ok (.aload_n 0, 1) := by decide +kernel
theorem dd_136_30 : decode prog_8_method_17_code 30 = .ok (.getfield 22, 3) := by decide +kernel
theorem dd_136_33 : decode prog_8_method_17_code 33 = .ok (.aload_n 0, 1) := by decide +kernel
theorem dd_136_34 : decode prog_8_method_17_code 34 = .ok (.getfield 33, 3) := by decide +kernel
theorem dd_136_37 : decode prog_8_method_17_code 37 = .ok (.iload_n 2, 1) := by decide +kernel
theorem dd_136_38 : decode prog_8_method_17_code 38 = .ok (.iastore, 1) := by decide +kernel
theorem dd_136_39 : decode prog_8_method_17_code 39 = .ok (.aload_n 0, 1) := by decide +kernel
theorem dd_136_40 : decode prog_8_method_17_code 40 = .ok (.dup, 1) := by decide +kernel
theorem dd_136_41 : decode prog_8_method_17_code 41 = .ok (.getfield 33, 3) := by decide +kernel
theorem dd_136_44 : decode prog_8_method_17_code 44 = .ok (.iconst 1, 1) := by decide +kernel
theorem dd_136_45 : decode prog_8_method_17_code 45 = .ok (.iadd, 1) := by decide +kernel
theorem dd_136_46 : decode prog_8_method_17_code 46 = .ok (.putfield 33, 3) := by decide +kernel
theorem dd_136_49 : decode prog_8_method_17_code 49 = .ok (.iinc 2 1, 3) := by decide +kernel
theorem dd_136_52 : decode prog_8_method_17_code 52 = .ok (.goto (-40), 3) := by decide +kernel
theorem dd_136_55 : decode prog_8_method_17_code 55 = .ok (.aload_n 0, 1) := by decide +kernel
theorem dd_136_56 : decode prog_8_method_17_code 56 = .ok (.getfield 33, 3) := by decide +kernel
theorem dd_136_59 : decode prog_8_method_17_code 59 = .ok (.iload_n 1, 1) := by decide +kernel
theorem dd_136_60 : decode prog_8_method_17_code 60 = .ok (.isub, 1) := by decide +kernel
theorem dd_136_61 : decode prog_8_method_17_code 61 = .ok (.ireturn, 1) := by decide +kernel
set_option maxRecDepth 100000 in
theorem okI_136 : mj_okI gG "PairMachine$Store" prog_8_method_17_code 3 (mj_off oM_136) (Option.some Jvm.ClassFile.FieldType.int) false true 0 cM_136 :=
  ⟨Or.inl ⟨0, rfl, dd_136_0, rfl⟩,
   ⟨33, "PairMachine$Store", fT7, 9, dd_136_1, rfl, okc_7, by decide, tw_708⟩,
   ⟨by decide, Or.inl ⟨1, rfl, dd_136_4, rfl⟩⟩,
   Or.inl ⟨0, rfl, dd_136_5, rfl⟩,
   Or.inl (Or.inl ⟨dd_136_6, rfl⟩),
   ⟨33, "PairMachine$Store", fT7, 9, dd_136_7, rfl, okc_7, by decide, tw_708, rfl, Or.inl rfl⟩,
   Or.inl (Or.inl ⟨dd_136_10, rfl⟩),
   ⟨by decide, Or.inl ⟨2, rfl, dd_136_11, rfl⟩⟩,
   Or.inl ⟨2, rfl, dd_136_12, rfl⟩,
   Or.inl ⟨0, rfl, dd_136_13, rfl⟩,
   ⟨9, "PairMachine$Store", fT7, 9, dd_136_14, rfl, okc_7, by decide, tw_701⟩,
   ⟨38, dd_136_17, rfl, rfl⟩,
   Or.inl ⟨0, rfl, dd_136_20, rfl⟩,
   ⟨26, "PairMachine$Store", fT7, 9, dd_136_21, rfl, okc_7, by decide, tw_706⟩,
   Or.inl ⟨2, rfl, dd_136_24, rfl⟩,
   ⟨dd_136_25, rfl⟩,
   ⟨23, dd_136_26, rfl, rfl⟩,
   Or.inl ⟨0, rfl, dd_136_29, rfl⟩,
   ⟨22, "PairMachine$Store", fT7, 9, dd_136_30, rfl, okc_7, by decide, tw_704⟩,
   Or.inl ⟨0, rfl, dd_136_33, rfl⟩,
   ⟨33, "PairMachine$Store", fT7, 9, dd_136_34, rfl, okc_7, by decide, tw_708⟩,
   Or.inl ⟨2, rfl, dd_136_37, rfl⟩,
   ⟨dd_136_38, rfl⟩,
   Or.inl ⟨0, rfl, dd_136_39, rfl⟩,
   ⟨dd_136_40, rfl⟩,
   ⟨33, "PairMachine$Store", fT7, 9, dd_136_41, rfl, okc_7, by decide, tw_708⟩,
   Or.inl (Or.inl ⟨dd_136_44, rfl⟩),
   ⟨dd_136_45, rfl⟩,
   ⟨33, "PairMachine$Store", fT7, 9, dd_136_46, rfl, okc_7, by decide, tw_708, rfl, Or.inl rfl⟩,
   ⟨by decide, dd_136_49, rfl⟩,
   ⟨(-40), dd_136_52, rfl⟩,
   Or.inl ⟨0, rfl, dd_136_55, rfl⟩,
   ⟨33, "PairMachine$Store", fT7, 9, dd_136_56, rfl, okc_7, by decide, tw_708⟩,
   Or.inl ⟨1, rfl, dd_136_59, rfl⟩,
   ⟨dd_136_60, rfl⟩,
   ⟨dd_136_61, rfl⟩, trivial⟩
theorem okM_136 : mj_okE gG 136 (cM_136, 3, oM_136, hM_136) := ⟨rfl, rfl, by decide +kernel, trivial, okI_136⟩
theorem dd_137_0 : decode prog_4_method_1_code 0 = .ok (.aload_n 0, 1) := by decide +kernel
theorem dd_137_1 : decode prog_4_method_1_code 1 = .ok (.invokespecial 3, 3) := by decide +kernel
theorem dd_137_4 : decode prog_4_method_1_code 4 = .ok (.aload_n 0, 1) := by decide +kernel
theorem dd_137_5 : decode prog_4_method_1_code 5 = .ok (.aload_n 1, 1) := by decide +kernel
theorem dd_137_6 : decode prog_4_method_1_code 6 = .ok (.putfield 9, 3) := by decide +kernel
theorem dd_137_9 : decode prog_4_method_1_code 9 = .ok (.aload_n 0, 1) := by decide +kernel
theorem dd_137_10 : decode prog_4_method_1_code 10 = .ok (.new 15, 3) := by decide +kernel
theorem dd_137_13 : decode prog_4_method_1_code 13 = .ok (.dup, 1) := by decide +kernel
theorem dd_137_14 : decode prog_4_method_1_code 14 = .ok (.invokespecial 17, 3) := by decide +kernel
theorem dd_137_17 : decode prog_4_method_1_code 17 = .ok (.putfield 18, 3) := by decide +kernel
theorem dd_137_20 : decode prog_4_method_1_code 20 = .ok (.aload_n 0, 1) := by decide +kernel
theorem dd_137_21 : decode prog_4_method_1_code 21 = .ok (.bipush 120, 2) := by decide +kernel
theorem dd_137_23 : decode prog_4_method_1_code 23 = .ok (.newarray .long, 2) := by decide +kernel
theorem dd_137_25 : decode prog_4_method_1_code 25 = .ok (.putfield 22, 3) := by decide +kernel
theorem dd_137_28 : decode prog_4_method_1_code 28 = .ok (.return_, 1) := by decide +kernel
set_option maxRecDepth 100000 in
theorem okI_137 : mj_okI gG "PairMachine$Display" prog_4_method_1_code 2 (mj_off oM_137) (Option.none : Option Jvm.ClassFile.FieldType) true true 0 cM_137 :=
  ⟨Or.inl ⟨0, rfl, dd_137_0, rfl⟩,
   ⟨3, dd_137_1, rfl, tw_738, tw_101, tw_102⟩,
   Or.inl ⟨0, rfl, dd_137_4, rfl⟩,
   Or.inl ⟨1, rfl, dd_137_5, rfl⟩,
   ⟨9, "PairMachine$Display", fT8, 4, dd_137_6, rfl, okc_8, by decide, tw_739, Or.inl ⟨_, rfl⟩, Or.inr ⟨rfl, by decide, rfl⟩⟩,
   Or.inl ⟨0, rfl, dd_137_9, rfl⟩,
   ⟨15, "java/lang/StringBuilder", fT9, 4, fN9, dd_137_10, rfl, okc_9, rfl, rfl, by decide, tw_740, tw_741, tw_742⟩,
   ⟨dd_137_13, rfl⟩,
   ⟨rfl, tw_743, by decide, tw_742, by decide +kernel, 17, tw_744, dd_137_14, tw_745, rfl, rfl, rfl, by decide +kernel⟩,
   ⟨18, "PairMachine$Display", fT8, 4, dd_137_17, rfl, okc_8, by decide, tw_746, Or.inl ⟨_, rfl⟩, Or.inr ⟨rfl, by decide, rfl⟩⟩,
   Or.inl ⟨0, rfl, dd_137_20, rfl⟩,
   Or.inl (Or.inr (Or.inl ⟨dd_137_21, rfl, by decide⟩)),
   ⟨dd_137_23, rfl, tw_16⟩,
   ⟨22, "PairMachine$Display", fT8, 4, dd_137_25, rfl, okc_8, by decide, tw_747, Or.inr ⟨_, rfl⟩, Or.inr ⟨rfl, by decide, rfl⟩⟩,
   ⟨dd_137_28, rfl⟩, trivial⟩
theorem okM_137 : mj_okE gG 137 (cM_137, 2, oM_137, hM_137) := ⟨rfl, rfl, by decide +kernel, trivial, okI_137⟩
theorem dd_138_0 : decode prog_4_method_2_code 0 = .ok (.aload_n 0, 1) := by decide +kernel
theorem dd_138_1 : decode prog_4_method_2_code 1 = .ok (.getfield 18, 3) := by decide +kernel
theorem dd_138_4 : decode prog_4_method_2_code 4 = .ok (.iconst 0, 1) := by decide +kernel
theorem dd_138_8 : decode prog_4_method_2_code 8 = .ok (.aload_n 0, 1) := by decide +kernel
theorem dd_138_9 : decode prog_4_method_2_code 9 = .ok (.iconst 0, 1) := by decide +kernel
theorem dd_138_10 : decode prog_4_method_2_code 10 = .ok (.putfield 30, 3) := by decide +kernel
theorem dd_138_13 : decode prog_4_method_2_code 13 = .ok (.lload_n 1, 1) := by decide +kernel
theorem dd_138_14 : decode prog_4_method_2_code 14 = .ok (.lstore_n 3, 1) := by decide +kernel
theorem dd_138_15 : decode prog_4_method_2_code 15 = .ok (.iconst 0, 1) := by decide +kernel
theorem dd_138_16 : decode prog_4_method_2_code 16 = .ok (.istore 5, 2) := by decide +kernel
theorem dd_138_18 : decode prog_4_method_2_code 18 = .ok (.iload 5, 2) := by decide +kernel
theorem dd_138_20 : decode prog_4_method_2_code 20 = .ok (.bipush 120, 2) := by decide +kernel
theorem dd_138_22 : decode prog_4_method_2_code 22 = .ok (.if_icmp .ge 161, 3) := by decide +kernel
theorem dd_138_25 : decode prog_4_method_2_code 25 = .ok (.aload_n 0, 1) := by decide +kernel
theorem dd_138_26 : decode prog_4_method_2_code 26 = .ok (.getfield 18, 3) := by decide +kernel
theorem dd_138_32 : decode prog_4_method_2_code 32 = .ok (.bipush 120, 2) := by decide +kernel
theorem dd_138_34 : decode prog_4_method_2_code 34 = .ok (.if_icmp .ge 149, 3) := by decide +kernel
theorem dd_138_37 : decode prog_4_method_2_code 37 = .ok (.lload_n 3, 1) := by decide +kernel
theorem dd_138_38 : decode prog_4_method_2_code 38 = .ok (.invokestatic 38, 3) := by decide +kernel
theorem dd_138_41 : decode prog_4_method_2_code 41 = .ok (.ifCond .eq 61, 3) := by decide +kernel
theorem dd_138_44 : decode prog_4_method_2_code 44 = .ok (.aload_n 0, 1) := by decide +kernel
theorem dd_138_45 : decode prog_4_method_2_code 45 = .ok (.getfield 30, 3) := by decide +kernel
theorem dd_138_48 : decode prog_4_method_2_code 48 = .ok (.bipush 120, 2) := by decide +kernel
theorem dd_138_50 : decode prog_4_method_2_code 50 = .ok (.if_icmp .ge 52, 3) := by decide +kernel
theorem dd_138_53 : decode prog_4_method_2_code 53 = .ok (.aload_n 0, 1) := by decide +kernel
theorem dd_138_54 : decode prog_4_method_2_code 54 = .ok (.getfield 18, 3) := by decide +kernel
theorem dd_138_57 : decode prog_4_method_2_code 57 = .ok (.bipush 40, 2) := by decide +kernel
theorem dd_138_62 : decode prog_4_method_2_code 62 = .ok (.pop, 1) := by decide +kernel
theorem dd_138_63 : decode prog_4_method_2_code 63 = .ok (.aload_n 0, 1) := by decide +kernel
theorem dd_138_64 : decode prog_4_method_2_code 64 = .ok (.getfield 22, 3) := by decide +kernel
theorem dd_138_67 : decode prog_4_method_2_code 67 = .ok (.aload_n 0, 1) := by decide +kernel
theorem dd_138_68 : decode prog_4_method_2_code 68 = .ok (.getfield 30, 3) := by decide +kernel
theorem dd_138_71 : decode prog_4_method_2_code 71 = .ok (.aload_n 0, 1) := by decide +kernel
theorem dd_138_72 : decode prog_4_method_2_code 72 = .ok (.getfield 9, 3) := by decide +kernel
theorem dd_138_75 : decode prog_4_method_2_code 75 = .ok (.lload_n 3, 1) := by decide +kernel
theorem dd_138_76 : decode prog_4_method_2_code 76 = .ok (.invokevirtual 48, 3) := by decide +kernel
theorem dd_138_79 : decode prog_4_method_2_code 79 = .ok (.lastore, 1) := by decide +kernel
theorem dd_138_80 : decode prog_4_method_2_code 80 = .ok (.aload_n 0, 1) := by decide +kernel
theorem dd_138_81 : decode prog_4_method_2_code 81 = .ok (.dup, 1) := by decide +kernel
theorem dd_138_82 : decode prog_4_method_2_code 82 = .ok (.getfield 30, 3) := by decide +kernel
theorem dd_138_85 : decode prog_4_method_2_code 85 = .ok (.iconst 1, 1) := by decide +kernel
theorem dd_138_86 : decode prog_4_method_2_code 86 = .ok (.iadd, 1) := by decide +kernel
theorem dd_138_87 : decode prog_4_method_2_code 87 = .ok (.putfield 30, 3) := by decide +kernel
theorem dd_138_90 : decode prog_4_method_2_code 90 = .ok (.aload_n 0, 1) := by decide +kernel
theorem dd_138_91 : decode prog_4_method_2_code 91 = .ok (.getfield 9, 3) := by decide +kernel
theorem dd_138_94 : decode prog_4_method_2_code 94 = .ok (.lload_n 3, 1) := by decide +kernel
theorem dd_138_95 : decode prog_4_method_2_code 95 = .ok (.invokevirtual 54, 3) := by decide +kernel
theorem dd_138_98 : decode prog_4_method_2_code 98 = .ok (.lstore_n 3, 1) := by decide +kernel
theorem dd_138_99 : decode prog_4_method_2_code 99 = .ok (.goto 78, 3) := by decide +kernel
theorem dd_138_102 : decode prog_4_method_2_code 102 = .ok (.aload_n 0, 1) := by decide +kernel
theorem dd_138_103 : decode prog_4_method_2_code 103 = .ok (.lload_n 3, 1) := by decide +kernel
theorem dd_138_104 : decode prog_4_method_2_code 104 = .ok (.invokevirtual 57, 3) := by decide +kernel
theorem dd_138_107 : decode prog_4_method_2_code 107 = .ok (.aload_n 0, 1) := by decide +kernel
theorem dd_138_108 : decode prog_4_method_2_code 108 = .ok (.invokevirtual 61, 3) := by decide +kernel
theorem dd_138_111 : decode prog_4_method_2_code 111 = .ok (.aload_n 0, 1) := by decide +kernel
theorem dd_138_112 : decode prog_4_method_2_code 112 = .ok (.getfield 30, 3) := by decide +kernel
theorem dd_138_115 : decode prog_4_method_2_code 115 = .ok (.ifCond .ne 4, 3) := by decide +kernel
theorem dd_138_118 : decode prog_4_method_2_code 118 = .ok (.return_, 1) := by decide +kernel
theorem dd_138_119 : decode prog_4_method_2_code 119 = .ok (.aload_n 0, 1) := by decide +kernel
theorem dd_138_120 : decode prog_4_method_2_code 120 = .ok (.getfield 18, 3) := by decide +kernel
theorem dd_138_123 : decode prog_4_method_2_code 123 = .ok (.bipush 32, 2) := by decide +kernel
theorem dd_138_128 : decode prog_4_method_2_code 128 = .ok (.pop, 1) := by decide +kernel
theorem dd_138_129 : decode prog_4_method_2_code 129 = .ok (.aload_n 0, 1) := by decide +kernel
theorem dd_138_130 : decode prog_4_method_2_code 130 = .ok (.getfield 9, 3) := by decide +kernel
theorem dd_138_133 : decode prog_4_method_2_code 133 = .ok (.aload_n 0, 1) := by decide +kernel
theorem dd_138_134 : decode prog_4_method_2_code 134 = .ok (.getfield 22, 3) := by decide +kernel
theorem dd_138_137 : decode prog_4_method_2_code 137 = .ok (.aload_n 0, 1) := by decide +kernel
theorem dd_138_138 : decode prog_4_method_2_code 138 = .ok (.getfield 30, 3) := by decide +kernel
theorem dd_138_141 : decode prog_4_method_2_code 141 = .ok (.iconst 1, 1) := by decide +kernel
theorem dd_138_142 : decode prog_4_method_2_code 142 = .ok (.isub, 1) := by decide +kernel
theorem dd_138_143 : decode prog_4_method_2_code 143 = .ok (.laload, 1) := by decide +kernel
theorem dd_138_144 : decode prog_4_method_2_code 144 = .ok (.invokevirtual 54, 3) := by decide +kernel
theorem dd_138_147 : decode prog_4_method_2_code 147 = .ok (.lstore_n 3, 1) := by decide +kernel
theorem dd_138_148 : decode prog_4_method_2_code 148 = .ok (.aload_n 0, 1) := by decide +kernel
theorem dd_138_149 : decode prog_4_method_2_code 149 = .ok (.getfield 22, 3) := by decide +kernel
theorem dd_138_152 : decode prog_4_method_2_code 152 = .ok (.aload_n 0, 1) := by decide +kernel
theorem dd_138_153 : decode prog_4_method_2_code 153 = .ok (.getfield 30, 3) := by decide +kernel
theorem dd_138_156 : decode prog_4_method_2_code 156 = .ok (.iconst 1, 1) := by decide +kernel
theorem dd_138_157 : decode prog_4_method_2_code 157 = .ok (.isub, 1) := by decide +kernel
theorem dd_138_158 : decode prog_4_method_2_code 158 = .ok (.aload_n 0, 1) := by decide +kernel
theorem dd_138_159 : decode prog_4_method_2_code 159 = .ok (.getfield 9, 3) := by decide +kernel
theorem dd_138_162 : decode prog_4_method_2_code 162 = .ok (.aload_n 0, 1) := by decide +kernel
theorem dd_138_163 : decode prog_4_method_2_code 163 = .ok (.getfield 22, 3) := by decide +kernel
theorem dd_138_166 : decode prog_4_method_2_code 166 = .ok (.aload_n 0, 1) := by decide +kernel
theorem dd_138_167 : decode prog_4_method_2_code 167 = .ok (.getfield 30, 3) := by decide +kernel
theorem dd_138_170 : decode prog_4_method_2_code 170 = .ok (.iconst 1, 1) := by decide +kernel
theorem dd_138_171 : decode prog_4_method_2_code 171 = .ok (.isub, 1) := by decide +kernel
theorem dd_138_172 : decode prog_4_method_2_code 172 = .ok (.laload, 1) := by decide +kernel
theorem dd_138_173 : decode prog_4_method_2_code 173 = .ok (.invokevirtual 48, 3) := by decide +kernel
theorem dd_138_176 : decode prog_4_method_2_code 176 = .ok (.lastore, 1) := by decide +kernel
theorem dd_138_177 : decode prog_4_method_2_code 177 = .ok (.iinc 5 1, 3) := by decide +kernel
theorem dd_138_180 : decode prog_4_method_2_code 180 = .ok (.goto (-162), 3) := by decide +kernel
theorem dd_138_183 : decode prog_4_method_2_code 183 = .ok (.return_, 1) := by decide +kernel
set_option maxRecDepth 100000 in
theorem okI_138 : mj_okI gG "PairMachine$Display" prog_4_method_2_code 6 (mj_off oM_138) (Option.none : Option Jvm.ClassFile.FieldType) false true 0 cM_138 :=
  ⟨Or.inl ⟨0, rfl, dd_138_0, rfl⟩,
   ⟨18, "PairMachine$Display", fT8, 4, dd_138_1, rfl, okc_8, by decide, tw_746⟩,
   Or.inl (Or.inl ⟨dd_138_4, rfl⟩),
   trivial,
   Or.inl ⟨0, rfl, dd_138_8, rfl⟩,
   Or.inl (Or.inl ⟨dd_138_9, rfl⟩),
   ⟨30, "PairMachine$Display", fT8, 4, dd_138_10, rfl, okc_8, by decide, tw_748, rfl, Or.inl rfl⟩,
   Or.inl ⟨1, rfl, dd_138_13, rfl⟩,
   ⟨by decide, Or.inl ⟨3, rfl, dd_138_14, rfl⟩⟩,
   Or.inl (Or.inl ⟨dd_138_15, rfl⟩),
   ⟨by decide, Or.inr ⟨dd_138_16, rfl⟩⟩,
   Or.inr ⟨dd_138_18, rfl⟩,
   Or.inl (Or.inr (Or.inl ⟨dd_138_20, rfl, by decide⟩)),
   ⟨161, dd_138_22, rfl, rfl⟩,
   Or.inl ⟨0, rfl, dd_138_25, rfl⟩,
   ⟨18, "PairMachine$Display", fT8, 4, dd_138_26, rfl, okc_8, by decide, tw_746⟩,
   trivial,
   Or.inl (Or.inr (Or.inl ⟨dd_138_32, rfl, by decide⟩)),
   ⟨149, dd_138_34, rfl, rfl⟩,
   Or.inl ⟨3, rfl, dd_138_37, rfl⟩,
   ⟨rfl, tw_652, by decide, tw_376, by decide +kernel, 38, tw_749, dd_138_38, tw_654, by decide +kernel⟩,
   ⟨61, dd_138_41, rfl, rfl⟩,
   Or.inl ⟨0, rfl, dd_138_44, rfl⟩,
   ⟨30, "PairMachine$Display", fT8, 4, dd_138_45, rfl, okc_8, by decide, tw_748⟩,
   Or.inl (Or.inr (Or.inl ⟨dd_138_48, rfl, by decide⟩)),
   ⟨52, dd_138_50, rfl, rfl⟩,
   Or.inl ⟨0, rfl, dd_138_53, rfl⟩,
   ⟨18, "PairMachine$Display", fT8, 4, dd_138_54, rfl, okc_8, by decide, tw_746⟩,
   Or.inl (Or.inr (Or.inl ⟨dd_138_57, rfl, by decide⟩)),
   trivial,
   ⟨dd_138_62, rfl⟩,
   Or.inl ⟨0, rfl, dd_138_63, rfl⟩,
   ⟨22, "PairMachine$Display", fT8, 4, dd_138_64, rfl, okc_8, by decide, tw_747⟩,
   Or.inl ⟨0, rfl, dd_138_67, rfl⟩,
   ⟨30, "PairMachine$Display", fT8, 4, dd_138_68, rfl, okc_8, by decide, tw_748⟩,
   Or.inl ⟨0, rfl, dd_138_71, rfl⟩,
   ⟨9, "PairMachine$Display", fT8, 4, dd_138_72, rfl, okc_8, by decide, tw_739⟩,
   Or.inl ⟨3, rfl, dd_138_75, rfl⟩,
   ⟨rfl, tw_633, by decide, tw_513, by decide +kernel, 48, tw_750, dd_138_76, tw_635, ⟨"PairMachine$Store", fT7, 9, rfl, tw_636⟩, by decide +kernel⟩,
   ⟨dd_138_79, rfl⟩,
   Or.inl ⟨0, rfl, dd_138_80, rfl⟩,
   ⟨dd_138_81, rfl⟩,
   ⟨30, "PairMachine$Display", fT8, 4, dd_138_82, rfl, okc_8, by decide, tw_748⟩,
   Or.inl (Or.inl ⟨dd_138_85, rfl⟩),
   ⟨dd_138_86, rfl⟩,
   ⟨30, "PairMachine$Display", fT8, 4, dd_138_87, rfl, okc_8, by decide, tw_748, rfl, Or.inl rfl⟩,
   Or.inl ⟨0, rfl, dd_138_90, rfl⟩,
   ⟨9, "PairMachine$Display", fT8, 4, dd_138_91, rfl, okc_8, by decide, tw_739⟩,
   Or.inl ⟨3, rfl, dd_138_94, rfl⟩,
   ⟨rfl, tw_637, by decide, tw_513, by decide +kernel, 54, tw_751, dd_138_95, tw_639, ⟨"PairMachine$Store", fT7, 9, rfl, tw_640⟩, by decide +kernel⟩,
   ⟨by decide, Or.inl ⟨3, rfl, dd_138_98, rfl⟩⟩,
   ⟨78, dd_138_99, rfl⟩,
   Or.inl ⟨0, rfl, dd_138_102, rfl⟩,
   Or.inl ⟨3, rfl, dd_138_103, rfl⟩,
   ⟨rfl, tw_752, by decide, tw_520, by decide +kernel, 57, tw_753, dd_138_104, tw_754, ⟨"PairMachine$Display", fT8, 4, rfl, tw_755⟩, by decide +kernel⟩,
   Or.inl ⟨0, rfl, dd_138_107, rfl⟩,
   ⟨rfl, tw_756, by decide, tw_520, by decide +kernel, 61, tw_757, dd_138_108, tw_758, ⟨"PairMachine$Display", fT8, 4, rfl, tw_759⟩, by decide +kernel⟩,
   Or.inl ⟨0, rfl, dd_138_111, rfl⟩,
   ⟨30, "PairMachine$Display", fT8, 4, dd_138_112, rfl, okc_8, by decide, tw_748⟩,
   ⟨4, dd_138_115, rfl, rfl⟩,
   ⟨dd_138_118, rfl⟩,
   Or.inl ⟨0, rfl, dd_138_119, rfl⟩,
   ⟨18, "PairMachine$Display", fT8, 4, dd_138_120, rfl, okc_8, by decide, tw_746⟩,
   Or.inl (Or.inr (Or.inl ⟨dd_138_123, rfl, by decide⟩)),
   trivial,
   ⟨dd_138_128, rfl⟩,
   Or.inl ⟨0, rfl, dd_138_129, rfl⟩,
   ⟨9, "PairMachine$Display", fT8, 4, dd_138_130, rfl, okc_8, by decide, tw_739⟩,
   Or.inl ⟨0, rfl, dd_138_133, rfl⟩,
   ⟨22, "PairMachine$Display", fT8, 4, dd_138_134, rfl, okc_8, by decide, tw_747⟩,
   Or.inl ⟨0, rfl, dd_138_137, rfl⟩,
   ⟨30, "PairMachine$Display", fT8, 4, dd_138_138, rfl, okc_8, by decide, tw_748⟩,
   Or.inl (Or.inl ⟨dd_138_141, rfl⟩),
   ⟨dd_138_142, rfl⟩,
   ⟨dd_138_143, rfl⟩,
   ⟨rfl, tw_637, by decide, tw_513, by decide +kernel, 54, tw_751, dd_138_144, tw_639, ⟨"PairMachine$Store", fT7, 9, rfl, tw_640⟩, by decide +kernel⟩,
   ⟨by decide, Or.inl ⟨3, rfl, dd_138_147, rfl⟩⟩,
   Or.inl ⟨0, rfl, dd_138_148, rfl⟩,
   ⟨22, "PairMachine$Display", fT8, 4, dd_138_149, rfl, okc_8, by decide, tw_747⟩,
   Or.inl ⟨0, rfl, dd_138_152, rfl⟩,
   ⟨30, "PairMachine$Display", fT8, 4, dd_138_153, rfl, okc_8, by decide, tw_748⟩,
   Or.inl (Or.inl ⟨dd_138_156, rfl⟩),
   ⟨dd_138_157, rfl⟩,
   Or.inl ⟨0, rfl, dd_138_158, rfl⟩,
   ⟨9, "PairMachine$Display", fT8, 4, dd_138_159, rfl, okc_8, by decide, tw_739⟩,
   Or.inl ⟨0, rfl, dd_138_162, rfl⟩,
   ⟨22, "PairMachine$Display", fT8, 4, dd_138_163, rfl, okc_8, by decide, tw_747⟩,
   Or.inl ⟨0, rfl, dd_138_166, rfl⟩,
   ⟨30, "PairMachine$Display", fT8, 4, dd_138_167, rfl, okc_8, by decide, tw_748⟩,
   Or.inl (Or.inl ⟨dd_138_170, rfl⟩),
   ⟨dd_138_171, rfl⟩,
   ⟨dd_138_172, rfl⟩,
   ⟨rfl, tw_633, by decide, tw_513, by decide +kernel, 48, tw_750, dd_138_173, tw_635, ⟨"PairMachine$Store", fT7, 9, rfl, tw_636⟩, by decide +kernel⟩,
   ⟨dd_138_176, rfl⟩,
   ⟨by decide, dd_138_177, rfl⟩,
   ⟨(-162), dd_138_180, rfl⟩,
   ⟨dd_138_183, rfl⟩, trivial⟩
theorem okM_138 : mj_okE gG 138 (cM_138, 6, oM_138, hM_138) := ⟨rfl, rfl, by decide +kernel, trivial, okI_138⟩
theorem dd_139_0 : decode prog_4_method_3_code 0 = .ok (.aload_n 0, 1) := by decide +kernel
theorem dd_139_1 : decode prog_4_method_3_code 1 = .ok (.getfield 30, 3) := by decide +kernel
theorem dd_139_4 : decode prog_4_method_3_code 4 = .ok (.ifCond .le 92, 3) := by decide +kernel
theorem dd_139_7 : decode prog_4_method_3_code 7 = .ok (.aload_n 0, 1) := by decide +kernel
theorem dd_139_8 : decode prog_4_method_3_code 8 = .ok (.getfield 22, 3) := by decide +kernel
theorem dd_139_11 : decode prog_4_method_3_code 11 = .ok (.aload_n 0, 1) := by decide +kernel
theorem dd_139_12 : decode prog_4_method_3_code 12 = .ok (.getfield 30, 3) := by decide +kernel
theorem dd_139_15 : decode prog_4_method_3_code 15 = .ok (.iconst 1, 1) := by decide +kernel
theorem dd_139_16 : decode prog_4_method_3_code 16 = .ok (.isub, 1) := by decide +kernel
theorem dd_139_17 : decode prog_4_method_3_code 17 = .ok (.laload, 1) := by decide +kernel
theorem dd_139_18 : decode prog_4_method_3_code 18 = .ok (.invokestatic 38, 3) := by decide +kernel
theorem dd_139_21 : decode prog_4_method_3_code 21 = .ok (.ifCond .ne 75, 3) := by decide +kernel
theorem dd_139_24 : decode prog_4_method_3_code 24 = .ok (.aload_n 0, 1) := by decide +kernel
theorem dd_139_25 : decode prog_4_method_3_code 25 = .ok (.getfield 18, 3) := by decide +kernel
theorem dd_139_31 : decode prog_4_method_3_code 31 = .ok (.bipush 120, 2) := by decide +kernel
theorem dd_139_33 : decode prog_4_method_3_code 33 = .ok (.if_icmp .ge 63, 3) := by decide +kernel
theorem dd_139_36 : decode prog_4_method_3_code 36 = .ok (.aload_n 0, 1) := by decide +kernel
theorem dd_139_37 : decode prog_4_method_3_code 37 = .ok (.dup, 1) := by decide +kernel
theorem dd_139_38 : decode prog_4_method_3_code 38 = .ok (.getfield 30, 3) := by decide +kernel
theorem dd_139_41 : decode prog_4_method_3_code 41 = .ok (.iconst 1, 1) := by decide +kernel
theorem dd_139_42 : decode prog_4_method_3_code 42 = .ok (.isub, 1) := by decide +kernel
theorem dd_139_43 : decode prog_4_method_3_code 43 = .ok (.putfield 30, 3) := by decide +kernel
theorem dd_139_46 : decode prog_4_method_3_code 46 = .ok (.aload_n 0, 1) := by decide +kernel
theorem dd_139_47 : decode prog_4_method_3_code 47 = .ok (.getfield 22, 3) := by decide +kernel
theorem dd_139_50 : decode prog_4_method_3_code 50 = .ok (.aload_n 0, 1) := by decide +kernel
theorem dd_139_51 : decode prog_4_method_3_code 51 = .ok (.getfield 30, 3) := by decide +kernel
theorem dd_139_54 : decode prog_4_method_3_code 54 = .ok (.laload, 1) := by decide +kernel
theorem dd_139_55 : decode prog_4_method_3_code 55 = .ok (.lconst 0, 1) := by decide +kernel
theorem dd_139_56 : decode prog_4_method_3_code 56 = .ok (.lcmp, 1) := by decide +kernel
theorem dd_139_57 : decode prog_4_method_3_code 57 = .ok (.ifCond .eq 26, 3) := by decide +kernel
theorem dd_139_60 : decode prog_4_method_3_code 60 = .ok (.aload_n 0, 1) := by decide +kernel
theorem dd_139_61 : decode prog_4_method_3_code 61 = .ok (.getfield 18, 3) := by decide +kernel
theorem dd_139_69 : decode prog_4_method_3_code 69 = .ok (.pop, 1) := by decide +kernel
theorem dd_139_70 : decode prog_4_method_3_code 70 = .ok (.aload_n 0, 1) := by decide +kernel
theorem dd_139_71 : decode prog_4_method_3_code 71 = .ok (.aload_n 0, 1) := by decide +kernel
theorem dd_139_72 : decode prog_4_method_3_code 72 = .ok (.getfield 22, 3) := by decide +kernel
theorem dd_139_75 : decode prog_4_method_3_code 75 = .ok (.aload_n 0, 1) := by decide +kernel
theorem dd_139_76 : decode prog_4_method_3_code 76 = .ok (.getfield 30, 3) := by decide +kernel
theorem dd_139_79 : decode prog_4_method_3_code 79 = .ok (.laload, 1) := by decide +kernel
theorem dd_139_80 : decode prog_4_method_3_code 80 = .ok (.invokevirtual 57, 3) := by decide +kernel
theorem dd_139_83 : decode prog_4_method_3_code 83 = .ok (.aload_n 0, 1) := by decide +kernel
theorem dd_139_84 : decode prog_4_method_3_code 84 = .ok (.getfield 18, 3) := by decide +kernel
theorem dd_139_87 : decode prog_4_method_3_code 87 = .ok (.bipush 41, 2) := by decide +kernel
theorem dd_139_92 : decode prog_4_method_3_code 92 = .ok (.pop, 1) := by decide +kernel
theorem dd_139_93 : decode prog_4_method_3_code 93 = .ok (.goto (-93), 3) := by decide +kernel
theorem dd_139_96 : decode prog_4_method_3_code 96 = .ok (.return_, 1) := by decide +kernel
set_option maxRecDepth 100000 in
theorem okI_139 : mj_okI gG "PairMachine$Display" prog_4_method_3_code 1 (mj_off oM_139) (Option.none : Option Jvm.ClassFile.FieldType) false true 0 cM_139 :=
  ⟨Or.inl ⟨0, rfl, dd_139_0, rfl⟩,
   ⟨30, "PairMachine$Display", fT8, 4, dd_139_1, rfl, okc_8, by decide, tw_748⟩,
   ⟨92, dd_139_4, rfl, rfl⟩,
   Or.inl ⟨0, rfl, dd_139_7, rfl⟩,
   ⟨22, "PairMachine$Display", fT8, 4, dd_139_8, rfl, okc_8, by decide, tw_747⟩,
   Or.inl ⟨0, rfl, dd_139_11, rfl⟩,
   ⟨30, "PairMachine$Display", fT8, 4, dd_139_12, rfl, okc_8, by decide, tw_748⟩,
   Or.inl (Or.inl ⟨dd_139_15, rfl⟩),
   ⟨dd_139_16, rfl⟩,
   ⟨dd_139_17, rfl⟩,
   ⟨rfl, tw_652, by decide, tw_376, by decide +kernel, 38, tw_749, dd_139_18, tw_654, by decide +kernel⟩,
   ⟨75, dd_139_21, rfl, rfl⟩,
   Or.inl ⟨0, rfl, dd_139_24, rfl⟩,
   ⟨18, "PairMachine$Display", fT8, 4, dd_139_25, rfl, okc_8, by decide, tw_746⟩,
   trivial,
   Or.inl (Or.inr (Or.inl ⟨dd_139_31, rfl, by decide⟩)),
   ⟨63, dd_139_33, rfl, rfl⟩,
   Or.inl ⟨0, rfl, dd_139_36, rfl⟩,
   ⟨dd_139_37, rfl⟩,
   ⟨30, "PairMachine$Display", fT8, 4, dd_139_38, rfl, okc_8, by decide, tw_748⟩,
   Or.inl (Or.inl ⟨dd_139_41, rfl⟩),
   ⟨dd_139_42, rfl⟩,
   ⟨30, "PairMachine$Display", fT8, 4, dd_139_43, rfl, okc_8, by decide, tw_748, rfl, Or.inl rfl⟩,
   Or.inl ⟨0, rfl, dd_139_46, rfl⟩,
   ⟨22, "PairMachine$Display", fT8, 4, dd_139_47, rfl, okc_8, by decide, tw_747⟩,
   Or.inl ⟨0, rfl, dd_139_50, rfl⟩,
   ⟨30, "PairMachine$Display", fT8, 4, dd_139_51, rfl, okc_8, by decide, tw_748⟩,
   ⟨dd_139_54, rfl⟩,
   Or.inl ⟨0, rfl, dd_139_55, rfl⟩,
   ⟨dd_139_56, rfl⟩,
   ⟨26, dd_139_57, rfl, rfl⟩,
   Or.inl ⟨0, rfl, dd_139_60, rfl⟩,
   ⟨18, "PairMachine$Display", fT8, 4, dd_139_61, rfl, okc_8, by decide, tw_746⟩,
   trivial,
   trivial,
   ⟨dd_139_69, rfl⟩,
   Or.inl ⟨0, rfl, dd_139_70, rfl⟩,
   Or.inl ⟨0, rfl, dd_139_71, rfl⟩,
   ⟨22, "PairMachine$Display", fT8, 4, dd_139_72, rfl, okc_8, by decide, tw_747⟩,
   Or.inl ⟨0, rfl, dd_139_75, rfl⟩,
   ⟨30, "PairMachine$Display", fT8, 4, dd_139_76, rfl, okc_8, by decide, tw_748⟩,
   ⟨dd_139_79, rfl⟩,
   ⟨rfl, tw_752, by decide, tw_520, by decide +kernel, 57, tw_753, dd_139_80, tw_754, ⟨"PairMachine$Display", fT8, 4, rfl, tw_755⟩, by decide +kernel⟩,
   Or.inl ⟨0, rfl, dd_139_83, rfl⟩,
   ⟨18, "PairMachine$Display", fT8, 4, dd_139_84, rfl, okc_8, by decide, tw_746⟩,
   Or.inl (Or.inr (Or.inl ⟨dd_139_87, rfl, by decide⟩)),
   trivial,
   ⟨dd_139_92, rfl⟩,
   ⟨(-93), dd_139_93, rfl⟩,
   ⟨dd_139_96, rfl⟩, trivial⟩
theorem okM_139 : mj_okE gG 139 (cM_139, 1, oM_139, hM_139) := ⟨rfl, rfl, by decide +kernel, trivial, okI_139⟩
theorem dd_140_0 : decode prog_4_method_4_code 0 = .ok (.lload_n 1, 1) := by decide +kernel
theorem dd_140_1 : decode prog_4_method_4_code 1 = .ok (.invokestatic 69, 3) := by decide +kernel
theorem dd_140_4 : decode prog_4_method_4_code 4 = .ok (.ifCond .eq 18, 3) := by decide +kernel
theorem dd_140_7 : decode prog_4_method_4_code 7 = .ok (.aload_n 0, 1) := by decide +kernel
theorem dd_140_8 : decode prog_4_method_4_code 8 = .ok (.getfield 18, 3) := by decide +kernel
theorem dd_140_11 : decode prog_4_method_4_code 11 = .ok (.lload_n 1, 1) := by decide +kernel
theorem dd_140_12 : decode prog_4_method_4_code 12 = .ok (.invokestatic 72, 3) := by decide +kernel
theorem dd_140_18 : decode prog_4_method_4_code 18 = .ok (.pop, 1) := by decide +kernel
theorem dd_140_19 : decode prog_4_method_4_code 19 = .ok (.goto 56, 3) := by decide +kernel
theorem dd_140_22 : decode prog_4_method_4_code 22 = .ok (.lload_n 1, 1) := by decide +kernel
theorem dd_140_23 : decode prog_4_method_4_code 23 = .ok (.invokestatic 79, 3) := by decide +kernel
theorem dd_140_26 : decode prog_4_method_4_code 26 = .ok (.ifCond .eq 19, 3) := by decide +kernel
theorem dd_140_29 : decode prog_4_method_4_code 29 = .ok (.aload_n 0, 1) := by decide +kernel
theorem dd_140_30 : decode prog_4_method_4_code 30 = .ok (.getfield 18, 3) := by decide +kernel
theorem dd_140_33 : decode prog_4_method_4_code 33 = .ok (.lload_n 1, 1) := by decide +kernel
theorem dd_140_34 : decode prog_4_method_4_code 34 = .ok (.invokestatic 72, 3) := by decide +kernel
theorem dd_140_37 : decode prog_4_method_4_code 37 = .ok (.i2c, 1) := by decide +kernel
theorem dd_140_41 : decode prog_4_method_4_code 41 = .ok (.pop, 1) := by decide +kernel
theorem dd_140_42 : decode prog_4_method_4_code 42 = .ok (.goto 33, 3) := by decide +kernel
theorem dd_140_45 : decode prog_4_method_4_code 45 = .ok (.lload_n 1, 1) := by decide +kernel
theorem dd_140_46 : decode prog_4_method_4_code 46 = .ok (.invokestatic 82, 3) := by decide +kernel
theorem dd_140_49 : decode prog_4_method_4_code 49 = .ok (.ifCond .eq 16, 3) := by decide +kernel
theorem dd_140_52 : decode prog_4_method_4_code 52 = .ok (.aload_n 0, 1) := by decide +kernel
theorem dd_140_53 : decode prog_4_method_4_code 53 = .ok (.getfield 18, 3) := by decide +kernel
theorem dd_140_56 : decode prog_4_method_4_code 56 = .ok (.bipush 35, 2) := by decide +kernel
theorem dd_140_61 : decode prog_4_method_4_code 61 = .ok (.pop, 1) := by decide +kernel
theorem dd_140_62 : decode prog_4_method_4_code 62 = .ok (.goto 13, 3) := by decide +kernel
theorem dd_140_65 : decode prog_4_method_4_code 65 = .ok (.aload_n 0, 1) := by decide +kernel
theorem dd_140_66 : decode prog_4_method_4_code 66 = .ok (.getfield 18, 3) := by decide +kernel
theorem dd_140_74 : decode prog_4_method_4_code 74 = .ok (.pop, 1) := by decide +kernel
theorem dd_140_75 : decode prog_4_method_4_code 75 = .ok (.return_, 1) := by decide +kernel
set_option maxRecDepth 100000 in
theorem okI_140 : mj_okI gG "PairMachine$Display" prog_4_method_4_code 3 (mj_off oM_140) (Option.none : Option Jvm.ClassFile.FieldType) false true 0 cM_140 :=
  ⟨Or.inl ⟨1, rfl, dd_140_0, rfl⟩,
   ⟨rfl, tw_670, by decide, tw_376, by decide +kernel, 69, tw_760, dd_140_1, tw_672, by decide +kernel⟩,
   ⟨18, dd_140_4, rfl, rfl⟩,
   Or.inl ⟨0, rfl, dd_140_7, rfl⟩,
   ⟨18, "PairMachine$Display", fT8, 4, dd_140_8, rfl, okc_8, by decide, tw_746⟩,
   Or.inl ⟨1, rfl, dd_140_11, rfl⟩,
   ⟨rfl, tw_645, by decide, tw_376, by decide +kernel, 72, tw_761, dd_140_12, tw_647, by decide +kernel⟩,
   trivial,
   ⟨dd_140_18, rfl⟩,
   ⟨56, dd_140_19, rfl⟩,
   Or.inl ⟨1, rfl, dd_140_22, rfl⟩,
   ⟨rfl, tw_762, by decide, tw_376, by decide +kernel, 79, tw_763, dd_140_23, tw_764, by decide +kernel⟩,
   ⟨19, dd_140_26, rfl, rfl⟩,
   Or.inl ⟨0, rfl, dd_140_29, rfl⟩,
   ⟨18, "PairMachine$Display", fT8, 4, dd_140_30, rfl, okc_8, by decide, tw_746⟩,
   Or.inl ⟨1, rfl, dd_140_33, rfl⟩,
   ⟨rfl, tw_645, by decide, tw_376, by decide +kernel, 72, tw_761, dd_140_34, tw_647, by decide +kernel⟩,
   ⟨dd_140_37, rfl⟩,
   trivial,
   ⟨dd_140_41, rfl⟩,
   ⟨33, dd_140_42, rfl⟩,
   Or.inl ⟨1, rfl, dd_140_45, rfl⟩,
   ⟨rfl, tw_659, by decide, tw_376, by decide +kernel, 82, tw_765, dd_140_46, tw_661, by decide +kernel⟩,
   ⟨16, dd_140_49, rfl, rfl⟩,
   Or.inl ⟨0, rfl, dd_140_52, rfl⟩,
   ⟨18, "PairMachine$Display", fT8, 4, dd_140_53, rfl, okc_8, by decide, tw_746⟩,
   Or.inl (Or.inr (Or.inl ⟨dd_140_56, rfl, by decide⟩)),
   trivial,
   ⟨dd_140_61, rfl⟩,
   ⟨13, dd_140_62, rfl⟩,
   Or.inl ⟨0, rfl, dd_140_65, rfl⟩,
   ⟨18, "PairMachine$Display", fT8, 4, dd_140_66, rfl, okc_8, by decide, tw_746⟩,
   trivial,
   trivial,
   ⟨dd_140_74, rfl⟩,
   ⟨dd_140_75, rfl⟩, trivial⟩
theorem okM_140 : mj_okE gG 140 (cM_140, 3, oM_140, hM_140) := ⟨rfl, rfl, by decide +kernel, trivial, okI_140⟩
theorem dd_141_0 : decode prog_4_method_5_code 0 = .ok (.iload_n 1, 1) := by decide +kernel
theorem dd_141_1 : decode prog_4_method_5_code 1 = .ok (.ifCond .lt 31, 3) := by decide +kernel
theorem dd_141_4 : decode prog_4_method_5_code 4 = .ok (.iload_n 1, 1) := by decide +kernel
theorem dd_141_5 : decode prog_4_method_5_code 5 = .ok (.bipush 120, 2) := by decide +kernel
theorem dd_141_7 : decode prog_4_method_5_code 7 = .ok (.if_icmp .ge 25, 3) := by decide +kernel
theorem dd_141_10 : decode prog_4_method_5_code 10 = .ok (.iload_n 1, 1) := by decide +kernel
theorem dd_141_11 : decode prog_4_method_5_code 11 = .ok (.aload_n 0, 1) := by decide +kernel
theorem dd_141_12 : decode prog_4_method_5_code 12 = .ok (.getfield 18, 3) := by decide +kernel
theorem dd_141_18 : decode prog_4_method_5_code 18 = .ok (.if_icmp .ge 14, 3) := by decide +kernel
theorem dd_141_21 : decode prog_4_method_5_code 21 = .ok (.aload_n 0, 1) := by decide +kernel
theorem dd_141_22 : decode prog_4_method_5_code 22 = .ok (.getfield 18, 3) := by decide +kernel
theorem dd_141_25 : decode prog_4_method_5_code 25 = .ok (.iload_n 1, 1) := by decide +kernel
theorem dd_141_29 : decode prog_4_method_5_code 29 = .ok (.goto 4, 3) := by decide +kernel
theorem dd_141_32 : decode prog_4_method_5_code 32 = .ok (.iconst (-1), 1) := by decide +kernel
theorem dd_141_33 : decode prog_4_method_5_code 33 = .ok (.ireturn, 1) := by decide +kernel
set_option maxRecDepth 100000 in
theorem okI_141 : mj_okI gG "PairMachine$Display" prog_4_method_5_code 2 (mj_off oM_141) (Option.some Jvm.ClassFile.FieldType.int) false true 0 cM_141 :=
  ⟨Or.inl ⟨1, rfl, dd_141_0, rfl⟩,
   ⟨31, dd_141_1, rfl, rfl⟩,
   Or.inl ⟨1, rfl, dd_141_4, rfl⟩,
   Or.inl (Or.inr (Or.inl ⟨dd_141_5, rfl, by decide⟩)),
   ⟨25, dd_141_7, rfl, rfl⟩,
   Or.inl ⟨1, rfl, dd_141_10, rfl⟩,
   Or.inl ⟨0, rfl, dd_141_11, rfl⟩,
   ⟨18, "PairMachine$Display", fT8, 4, dd_141_12, rfl, okc_8, by decide, tw_746⟩,
   trivial,
   ⟨14, dd_141_18, rfl, rfl⟩,
   Or.inl ⟨0, rfl, dd_141_21, rfl⟩,
   ⟨18, "PairMachine$Display", fT8, 4, dd_141_22, rfl, okc_8, by decide, tw_746⟩,
   Or.inl ⟨1, rfl, dd_141_25, rfl⟩,
   trivial,
   ⟨4, dd_141_29, rfl⟩,
   Or.inl (Or.inl ⟨dd_141_32, rfl⟩),
   ⟨dd_141_33, rfl⟩, trivial⟩
theorem okM_141 : mj_okE gG 141 (cM_141, 2, oM_141, hM_141) := ⟨rfl, rfl, by decide +kernel, trivial, okI_141⟩
theorem dd_142_0 : decode prog_6_method_2_code 0 = .ok (.iload_n 0, 1) := by decide +kernel
theorem dd_142_1 : decode prog_6_method_2_code 1 = .ok (.ifCond .lt 19, 3) := by decide +kernel
theorem dd_142_4 : decode prog_6_method_2_code 4 = .ok (.iload_n 0, 1) := by decide +kernel
theorem dd_142_5 : decode prog_6_method_2_code 5 = .ok (.getstatic 9, 3) := by decide +kernel
theorem dd_142_8 : decode prog_6_method_2_code 8 = .ok (.arraylength, 1) := by decide +kernel
theorem dd_142_9 : decode prog_6_method_2_code 9 = .ok (.if_icmp .ge 11, 3) := by decide +kernel
theorem dd_142_12 : decode prog_6_method_2_code 12 = .ok (.getstatic 9, 3) := by decide +kernel
theorem dd_142_15 : decode prog_6_method_2_code 15 = .ok (.iload_n 0, 1) := by decide +kernel
theorem dd_142_16 : decode prog_6_method_2_code 16 = .ok (.iaload, 1) := by decide +kernel
theorem dd_142_17 : decode prog_6_method_2_code 17 = .ok (.goto 4, 3) := by decide +kernel
theorem dd_142_20 : decode prog_6_method_2_code 20 = .ok (.iconst 0, 1) := by decide +kernel
theorem dd_142_21 : decode prog_6_method_2_code 21 = .ok (.ireturn, 1) := by decide +kernel
set_option maxRecDepth 100000 in
theorem okI_142 : mj_okI gG "PairMachine$Op" prog_6_method_2_code 1 (mj_off oM_142) (Option.some Jvm.ClassFile.FieldType.int) false true 0 cM_142 :=
  ⟨Or.inl ⟨0, rfl, dd_142_0, rfl⟩,
   ⟨19, dd_142_1, rfl, rfl⟩,
   Or.inl ⟨0, rfl, dd_142_4, rfl⟩,
   ⟨9, "PairMachine$Op", "NEEDS", "[I", dd_142_5, rfl, by decide, tw_766⟩,
   ⟨dd_142_8, rfl⟩,
   ⟨11, dd_142_9, rfl, rfl⟩,
   ⟨9, "PairMachine$Op", "NEEDS", "[I", dd_142_12, rfl, by decide, tw_766⟩,
   Or.inl ⟨0, rfl, dd_142_15, rfl⟩,
   ⟨dd_142_16, rfl⟩,
   ⟨4, dd_142_17, rfl⟩,
   Or.inl (Or.inl ⟨dd_142_20, rfl⟩),
   ⟨dd_142_21, rfl⟩, trivial⟩
theorem okM_142 : mj_okE gG 142 (cM_142, 1, oM_142, hM_142) := ⟨rfl, rfl, by decide +kernel, trivial, okI_142⟩
theorem dd_143_0 : decode prog_6_method_3_code 0 = .ok (.iload_n 0, 1) := by decide +kernel
theorem dd_143_1 : decode prog_6_method_3_code 1 = .ok (.bipush 63, 2) := by decide +kernel
theorem dd_143_3 : decode prog_6_method_3_code 3 = .ok (.if_icmp .ne 6, 3) := by decide +kernel
theorem dd_143_6 : decode prog_6_method_3_code 6 = .ok (.bipush 8, 2) := by decide +kernel
theorem dd_143_8 : decode prog_6_method_3_code 8 = .ok (.ireturn, 1) := by decide +kernel
theorem dd_143_11 : decode prog_6_method_3_code 11 = .ok (.iload_n 0, 1) := by decide +kernel
theorem dd_143_12 : decode prog_6_method_3_code 12 = .ok (.i2c, 1) := by decide +kernel
theorem dd_143_16 : decode prog_6_method_3_code 16 = .ok (.istore_n 1, 1) := by decide +kernel
theorem dd_143_17 : decode prog_6_method_3_code 17 = .ok (.iload_n 1, 1) := by decide +kernel
theorem dd_143_18 : decode prog_6_method_3_code 18 = .ok (.ifCond .ge 7, 3) := by decide +kernel
theorem dd_143_21 : decode prog_6_method_3_code 21 = .ok (.iconst (-1), 1) := by decide +kernel
theorem dd_143_22 : decode prog_6_method_3_code 22 = .ok (.goto 7, 3) := by decide +kernel
theorem dd_143_25 : decode prog_6_method_3_code 25 = .ok (.bipush 10, 2) := by decide +kernel
theorem dd_143_27 : decode prog_6_method_3_code 27 = .ok (.iload_n 1, 1) := by decide +kernel
theorem dd_143_28 : decode prog_6_method_3_code 28 = .ok (.iadd, 1) := by decide +kernel
theorem dd_143_29 : decode prog_6_method_3_code 29 = .ok (.ireturn, 1) := by decide +kernel
set_option maxRecDepth 100000 in
theorem okI_143 : mj_okI gG "PairMachine$Op" prog_6_method_3_code 2 (mj_off oM_143) (Option.some Jvm.ClassFile.FieldType.int) false true 0 cM_143 :=
  ⟨Or.inl ⟨0, rfl, dd_143_0, rfl⟩,
   Or.inl (Or.inr (Or.inl ⟨dd_143_1, rfl, by decide⟩)),
   ⟨6, dd_143_3, rfl, rfl⟩,
   Or.inl (Or.inr (Or.inl ⟨dd_143_6, rfl, by decide⟩)),
   ⟨dd_143_8, rfl⟩,
   trivial,
   Or.inl ⟨0, rfl, dd_143_11, rfl⟩,
   ⟨dd_143_12, rfl⟩,
   trivial,
   ⟨by decide, Or.inl ⟨1, rfl, dd_143_16, rfl⟩⟩,
   Or.inl ⟨1, rfl, dd_143_17, rfl⟩,
   ⟨7, dd_143_18, rfl, rfl⟩,
   Or.inl (Or.inl ⟨dd_143_21, rfl⟩),
   ⟨7, dd_143_22, rfl⟩,
   Or.inl (Or.inr (Or.inl ⟨dd_143_25, rfl, by decide⟩)),
   Or.inl ⟨1, rfl, dd_143_27, rfl⟩,
   ⟨dd_143_28, rfl⟩,
   ⟨dd_143_29, rfl⟩, trivial⟩
theorem okM_143 : mj_okE gG 143 (cM_143, 2, oM_143, hM_143) := ⟨rfl, rfl, by decide +kernel, trivial, okI_143⟩
theorem dd_144_0 : decode prog_6_method_4_code 0 = .ok (.iload_n 0, 1) := by decide +kernel
theorem dd_144_1 : decode prog_6_method_4_code 1 = .ok (.bipush 8, 2) := by decide +kernel
theorem dd_144_3 : decode prog_6_method_4_code 3 = .ok (.if_icmp .ne 5, 3) := by decide +kernel
theorem dd_144_6 : decode prog_6_method_4_code 6 = .ok (.iconst 3, 1) := by decide +kernel
theorem dd_144_7 : decode prog_6_method_4_code 7 = .ok (.ireturn, 1) := by decide +kernel
theorem dd_144_8 : decode prog_6_method_4_code 8 = .ok (.iload_n 0, 1) := by decide +kernel
theorem dd_144_9 : decode prog_6_method_4_code 9 = .ok (.bipush 12, 2) := by decide +kernel
theorem dd_144_11 : decode prog_6_method_4_code 11 = .ok (.if_icmp .gt 7, 3) := by decide +kernel
theorem dd_144_14 : decode prog_6_method_4_code 14 = .ok (.iconst 1, 1) := by decide +kernel
theorem dd_144_15 : decode prog_6_method_4_code 15 = .ok (.goto 4, 3) := by decide +kernel
theorem dd_144_18 : decode prog_6_method_4_code 18 = .ok (.iconst 2, 1) := by decide +kernel
theorem dd_144_19 : decode prog_6_method_4_code 19 = .ok (.ireturn, 1) := by decide +kernel
set_option maxRecDepth 100000 in
theorem okI_144 : mj_okI gG "PairMachine$Op" prog_6_method_4_code 1 (mj_off oM_144) (Option.some Jvm.ClassFile.FieldType.int) false true 0 cM_144 :=
  ⟨Or.inl ⟨0, rfl, dd_144_0, rfl⟩,
   Or.inl (Or.inr (Or.inl ⟨dd_144_1, rfl, by decide⟩)),
   ⟨5, dd_144_3, rfl, rfl⟩,
   Or.inl (Or.inl ⟨dd_144_6, rfl⟩),
   ⟨dd_144_7, rfl⟩,
   Or.inl ⟨0, rfl, dd_144_8, rfl⟩,
   Or.inl (Or.inr (Or.inl ⟨dd_144_9, rfl, by decide⟩)),
   ⟨7, dd_144_11, rfl, rfl⟩,
   Or.inl (Or.inl ⟨dd_144_14, rfl⟩),
   ⟨4, dd_144_15, rfl⟩,
   Or.inl (Or.inl ⟨dd_144_18, rfl⟩),
   ⟨dd_144_19, rfl⟩, trivial⟩
theorem okM_144 : mj_okE gG 144 (cM_144, 1, oM_144, hM_144) := ⟨rfl, rfl, by decide +kernel, trivial, okI_144⟩
theorem dd_145_0 : decode prog_11_method_2_code 0 = .ok (.ldc2_w 11, 3) := by decide +kernel
theorem dd_145_3 : decode prog_11_method_2_code 3 = .ok (.iload_n 0, 1) := by decide +kernel
theorem dd_145_4 : decode prog_11_method_2_code 4 = .ok (.i2l, 1) := by decide +kernel
theorem dd_145_5 : decode prog_11_method_2_code 5 = .ok (.ldc2_w 13, 3) := by decide +kernel
theorem dd_145_8 : decode prog_11_method_2_code 8 = .ok (.land, 1) := by decide +kernel
theorem dd_145_9 : decode prog_11_method_2_code 9 = .ok (.lor, 1) := by decide +kernel
theorem dd_145_10 : decode prog_11_method_2_code 10 = .ok (.lreturn, 1) := by decide +kernel
set_option maxRecDepth 100000 in
theorem okI_145 : mj_okI gG "PairMachine$Value" prog_11_method_2_code 1 (mj_off oM_145) (Option.some Jvm.ClassFile.FieldType.long) false true 0 cM_145 :=
  ⟨Or.inr ⟨11, dd_145_0, rfl, tw_767⟩,
   Or.inl ⟨0, rfl, dd_145_3, rfl⟩,
   ⟨dd_145_4, rfl⟩,
   Or.inr ⟨13, dd_145_5, rfl, tw_768⟩,
   ⟨dd_145_8, rfl⟩,
   ⟨dd_145_9, rfl⟩,
   ⟨dd_145_10, rfl⟩, trivial⟩
theorem okM_145 : mj_okE gG 145 (cM_145, 1, oM_145, hM_145) := ⟨rfl, rfl, by decide +kernel, trivial, okI_145⟩
theorem dd_146_0 : decode prog_11_method_3_code 0 = .ok (.ldc2_w 15, 3) := by decide +kernel
theorem dd_146_3 : decode prog_11_method_3_code 3 = .ok (.iload_n 0, 1) := by decide +kernel
theorem dd_146_4 : decode prog_11_method_3_code 4 = .ok (.i2l, 1) := by decide +kernel
theorem dd_146_5 : decode prog_11_method_3_code 5 = .ok (.ldc2_w 13, 3) := by decide +kernel
theorem dd_146_8 : decode prog_11_method_3_code 8 = .ok (.land, 1) := by decide +kernel
theorem dd_146_9 : decode prog_11_method_3_code 9 = .ok (.lor, 1) := by decide +kernel
theorem dd_146_10 : decode prog_11_method_3_code 10 = .ok (.lreturn, 1) := by decide +kernel
set_option maxRecDepth 100000 in
theorem okI_146 : mj_okI gG "PairMachine$Value" prog_11_method_3_code 1 (mj_off oM_146) (Option.some Jvm.ClassFile.FieldType.long) false true 0 cM_146 :=
  ⟨Or.inr ⟨15, dd_146_0, rfl, tw_769⟩,
   Or.inl ⟨0, rfl, dd_146_3, rfl⟩,
   ⟨dd_146_4, rfl⟩,
   Or.inr ⟨13, dd_146_5, rfl, tw_768⟩,
   ⟨dd_146_8, rfl⟩,
   ⟨dd_146_9, rfl⟩,
   ⟨dd_146_10, rfl⟩, trivial⟩
theorem okM_146 : mj_okE gG 146 (cM_146, 1, oM_146, hM_146) := ⟨rfl, rfl, by decide +kernel, trivial, okI_146⟩
theorem dd_147_0 : decode prog_11_method_4_code 0 = .ok (.ldc2_w 17, 3) := by decide +kernel
theorem dd_147_3 : decode prog_11_method_4_code 3 = .ok (.iload_n 0, 1) := by decide +kernel
theorem dd_147_4 : decode prog_11_method_4_code 4 = .ok (.i2l, 1) := by decide +kernel
theorem dd_147_5 : decode prog_11_method_4_code 5 = .ok (.ldc2_w 13, 3) := by decide +kernel
theorem dd_147_8 : decode prog_11_method_4_code 8 = .ok (.land, 1) := by decide +kernel
theorem dd_147_9 : decode prog_11_method_4_code 9 = .ok (.lor, 1) := by decide +kernel
theorem dd_147_10 : decode prog_11_method_4_code 10 = .ok (.lreturn, 1) := by decide +kernel
set_option maxRecDepth 100000 in
theorem okI_147 : mj_okI gG "PairMachine$Value" prog_11_method_4_code 1 (mj_off oM_147) (Option.some Jvm.ClassFile.FieldType.long) false true 0 cM_147 :=
  ⟨Or.inr ⟨17, dd_147_0, rfl, tw_770⟩,
   Or.inl ⟨0, rfl, dd_147_3, rfl⟩,
   ⟨dd_147_4, rfl⟩,
   Or.inr ⟨13, dd_147_5, rfl, tw_768⟩,
   ⟨dd_147_8, rfl⟩,
   ⟨dd_147_9, rfl⟩,
   ⟨dd_147_10, rfl⟩, trivial⟩
theorem okM_147 : mj_okE gG 147 (cM_147, 1, oM_147, hM_147) := ⟨rfl, rfl, by decide +kernel, trivial, okI_147⟩
