section
theorem dd_211_0 : decode prog_13_method_58_code 0 = .ok (.aload_n 0, 1) := by decide +kernel
theorem dd_211_1 : decode prog_13_method_58_code 1 = .ok (.iload_n 1, 1) := by decide +kernel
theorem dd_211_2 : decode prog_13_method_58_code 2 = .ok (.ifCond .lt 10, 3) := by decide +kernel
theorem dd_211_5 : decode prog_13_method_58_code 5 = .ok (.iload_n 1, 1) := by decide +kernel
theorem dd_211_6 : decode prog_13_method_58_code 6 = .ok (.sipush 200, 3) := by decide +kernel
theorem dd_211_9 : decode prog_13_method_58_code 9 = .ok (.if_icmp .le 7, 3) := by decide +kernel
theorem dd_211_12 : decode prog_13_method_58_code 12 = .ok (.iconst 1, 1) := by decide +kernel
theorem dd_211_13 : decode prog_13_method_58_code 13 = .ok (.goto 4, 3) := by decide +kernel
theorem dd_211_16 : decode prog_13_method_58_code 16 = .ok (.iconst 0, 1) := by decide +kernel
theorem dd_211_17 : decode prog_13_method_58_code 17 = .ok (.putfield 97, 3) := by decide +kernel
theorem dd_211_20 : decode prog_13_method_58_code 20 = .ok (.iconst 0, 1) := by decide +kernel
theorem dd_211_21 : decode prog_13_method_58_code 21 = .ok (.istore_n 2, 1) := by decide +kernel
theorem dd_211_22 : decode prog_13_method_58_code 22 = .ok (.aload_n 0, 1) := by decide +kernel
theorem dd_211_23 : decode prog_13_method_58_code 23 = .ok (.getfield 97, 3) := by decide +kernel
theorem dd_211_26 : decode prog_13_method_58_code 26 = .ok (.ifCond .ne 36, 3) := by decide +kernel
theorem dd_211_29 : decode prog_13_method_58_code 29 = .ok (.iload_n 2, 1) := by decide +kernel
theorem dd_211_30 : decode prog_13_method_58_code 30 = .ok (.iload_n 1, 1) := by decide +kernel
theorem dd_211_31 : decode prog_13_method_58_code 31 = .ok (.if_icmp .ge 31, 3) := by decide +kernel
theorem dd_211_34 : decode prog_13_method_58_code 34 = .ok (.aload_n 0, 1) := by decide +kernel
theorem dd_211_35 : decode prog_13_method_58_code 35 = .ok (.getfield 240, 3) := by decide +kernel
theorem dd_211_38 : decode prog_13_method_58_code 38 = .ok (.iconst 1, 1) := by decide +kernel
theorem dd_211_39 : decode prog_13_method_58_code 39 = .ok (.if_icmp .ne 23, 3) := by decide +kernel
theorem dd_211_42 : decode prog_13_method_58_code 42 = .ok (.aload_n 0, 1) := by decide +kernel
theorem dd_211_43 : decode prog_13_method_58_code 43 = .ok (.invokevirtual 313, 3) := by decide +kernel
theorem dd_211_46 : decode prog_13_method_58_code 46 = .ok (.aload_n 0, 1) := by decide +kernel
theorem dd_211_47 : decode prog_13_method_58_code 47 = .ok (.dup, 1) := by decide +kernel
theorem dd_211_48 : decode prog_13_method_58_code 48 = .ok (.getfield 249, 3) := by decide +kernel
theorem dd_211_51 : decode prog_13_method_58_code 51 = .ok (.iconst 1, 1) := by decide +kernel
theorem dd_211_52 : decode prog_13_method_58_code 52 = .ok (.iadd, 1) := by decide +kernel
theorem dd_211_53 : decode prog_13_method_58_code 53 = .ok (.putfield 249, 3) := by decide +kernel
theorem dd_211_56 : decode prog_13_method_58_code 56 = .ok (.iinc 2 1, 3) := by decide +kernel
theorem dd_211_59 : decode prog_13_method_58_code 59 = .ok (.goto (-37), 3) := by decide +kernel
theorem dd_211_62 : decode prog_13_method_58_code 62 = .ok (.iload_n 2, 1) := by decide +kernel
theorem dd_211_63 : decode prog_13_method_58_code 63 = .ok (.ireturn, 1) := by decide +kernel
set_option maxRecDepth 100000 in
theorem okI_211 : mj_okI gG "PairMachineModel" prog_13_method_58_code 3 (mj_off oM_211) (Option.some Jvm.ClassFile.FieldType.int) false true 0 cM_211 :=
  ⟨Or.inl ⟨0, rfl, dd_211_0, rfl⟩,
   Or.inl ⟨1, rfl, dd_211_1, rfl⟩,
   ⟨10, dd_211_2, rfl, rfl⟩,
   Or.inl ⟨1, rfl, dd_211_5, rfl⟩,
   Or.inl (Or.inr (Or.inr (Or.inl ⟨dd_211_6, rfl, by decide⟩))),
   ⟨7, dd_211_9, rfl, rfl⟩,
   Or.inl (Or.inl ⟨dd_211_12, rfl⟩),
   ⟨4, dd_211_13, rfl⟩,
   Or.inl (Or.inl ⟨dd_211_16, rfl⟩),
   ⟨97, "PairMachineModel", fT10, 45, dd_211_17, rfl, okc_10, by decide, tw_829, rfl, Or.inl rfl⟩,
   Or.inl (Or.inl ⟨dd_211_20, rfl⟩),
   ⟨by decide, Or.inl ⟨2, rfl, dd_211_21, rfl⟩⟩,
   Or.inl ⟨0, rfl, dd_211_22, rfl⟩,
   ⟨97, "PairMachineModel", fT10, 45, dd_211_23, rfl, okc_10, by decide, tw_829⟩,
   ⟨36, dd_211_26, rfl, rfl⟩,
   Or.inl ⟨2, rfl, dd_211_29, rfl⟩,
   Or.inl ⟨1, rfl, dd_211_30, rfl⟩,
   ⟨31, dd_211_31, rfl, rfl⟩,
   Or.inl ⟨0, rfl, dd_211_34, rfl⟩,
   ⟨240, "PairMachineModel", fT10, 45, dd_211_35, rfl, okc_10, by decide, tw_968⟩,
   Or.inl (Or.inl ⟨dd_211_38, rfl⟩),
   ⟨23, dd_211_39, rfl, rfl⟩,
   Or.inl ⟨0, rfl, dd_211_42, rfl⟩,
   ⟨rfl, tw_1045, by decide, tw_12, by decide +kernel, 313, tw_1046, dd_211_43, tw_1047, ⟨"PairMachineModel", fT10, 45, rfl, tw_1048⟩, by decide +kernel⟩,
   Or.inl ⟨0, rfl, dd_211_46, rfl⟩,
   ⟨dd_211_47, rfl⟩,
   ⟨249, "PairMachineModel", fT10, 45, dd_211_48, rfl, okc_10, by decide, tw_971⟩,
   Or.inl (Or.inl ⟨dd_211_51, rfl⟩),
   ⟨dd_211_52, rfl⟩,
   ⟨249, "PairMachineModel", fT10, 45, dd_211_53, rfl, okc_10, by decide, tw_971, rfl, Or.inl rfl⟩,
   ⟨by decide, dd_211_56, rfl⟩,
   ⟨(-37), dd_211_59, rfl⟩,
   Or.inl ⟨2, rfl, dd_211_62, rfl⟩,
   ⟨dd_211_63, rfl⟩, trivial⟩
theorem okM_211 : mj_okE gG 211 (cM_211, 3, oM_211, hM_211) := ⟨rfl, rfl, by decide +kernel, trivial, okI_211⟩
theorem dd_212_0 : decode prog_13_method_59_code 0 = .ok (.aload_n 0, 1) := by decide +kernel
theorem dd_212_1 : decode prog_13_method_59_code 1 = .ok (.getfield 316, 3) := by decide +kernel
theorem dd_212_4 : decode prog_13_method_59_code 4 = .ok (.bipush 120, 2) := by decide +kernel
theorem dd_212_6 : decode prog_13_method_59_code 6 = .ok (.if_icmp .ge 24, 3) := by decide +kernel
theorem dd_212_9 : decode prog_13_method_59_code 9 = .ok (.aload_n 0, 1) := by decide +kernel
theorem dd_212_10 : decode prog_13_method_59_code 10 = .ok (.getfield 91, 3) := by decide +kernel
theorem dd_212_13 : decode prog_13_method_59_code 13 = .ok (.aload_n 0, 1) := by decide +kernel
theorem dd_212_14 : decode prog_13_method_59_code 14 = .ok (.getfield 316, 3) := by decide +kernel
theorem dd_212_17 : decode prog_13_method_59_code 17 = .ok (.iload_n 1, 1) := by decide +kernel
theorem dd_212_18 : decode prog_13_method_59_code 18 = .ok (.i2c, 1) := by decide +kernel
theorem dd_212_19 : decode prog_13_method_59_code 19 = .ok (.castore, 1) := by decide +kernel
theorem dd_212_20 : decode prog_13_method_59_code 20 = .ok (.aload_n 0, 1) := by decide +kernel
theorem dd_212_21 : decode prog_13_method_59_code 21 = .ok (.dup, 1) := by decide +kernel
theorem dd_212_22 : decode prog_13_method_59_code 22 = .ok (.getfield 316, 3) := by decide +kernel
theorem dd_212_25 : decode prog_13_method_59_code 25 = .ok (.iconst 1, 1) := by decide +kernel
theorem dd_212_26 : decode prog_13_method_59_code 26 = .ok (.iadd, 1) := by decide +kernel
theorem dd_212_27 : decode prog_13_method_59_code 27 = .ok (.putfield 316, 3) := by decide +kernel
theorem dd_212_30 : decode prog_13_method_59_code 30 = .ok (.return_, 1) := by decide +kernel
set_option maxRecDepth 100000 in
theorem okI_212 : mj_okI gG "PairMachineModel" prog_13_method_59_code 2 (mj_off oM_212) (Option.none : Option Jvm.ClassFile.FieldType) false true 0 cM_212 :=
  ⟨Or.inl ⟨0, rfl, dd_212_0, rfl⟩,
   ⟨316, "PairMachineModel", fT10, 45, dd_212_1, rfl, okc_10, by decide, tw_1049⟩,
   Or.inl (Or.inr (Or.inl ⟨dd_212_4, rfl, by decide⟩)),
   ⟨24, dd_212_6, rfl, rfl⟩,
   Or.inl ⟨0, rfl, dd_212_9, rfl⟩,
   ⟨91, "PairMachineModel", fT10, 45, dd_212_10, rfl, okc_10, by decide, tw_827⟩,
   Or.inl ⟨0, rfl, dd_212_13, rfl⟩,
   ⟨316, "PairMachineModel", fT10, 45, dd_212_14, rfl, okc_10, by decide, tw_1049⟩,
   Or.inl ⟨1, rfl, dd_212_17, rfl⟩,
   ⟨dd_212_18, rfl⟩,
   ⟨dd_212_19, rfl⟩,
   Or.inl ⟨0, rfl, dd_212_20, rfl⟩,
   ⟨dd_212_21, rfl⟩,
   ⟨316, "PairMachineModel", fT10, 45, dd_212_22, rfl, okc_10, by decide, tw_1049⟩,
   Or.inl (Or.inl ⟨dd_212_25, rfl⟩),
   ⟨dd_212_26, rfl⟩,
   ⟨316, "PairMachineModel", fT10, 45, dd_212_27, rfl, okc_10, by decide, tw_1049, rfl, Or.inl rfl⟩,
   ⟨dd_212_30, rfl⟩, trivial⟩
theorem okM_212 : mj_okE gG 212 (cM_212, 2, oM_212, hM_212) := ⟨rfl, rfl, by decide +kernel, trivial, okI_212⟩
theorem dd_213_0 : decode prog_13_method_60_code 0 = .ok (.iload_n 1, 1) := by decide +kernel
theorem dd_213_1 : decode prog_13_method_60_code 1 = .ok (.ifCond .ge 9, 3) := by decide +kernel
theorem dd_213_4 : decode prog_13_method_60_code 4 = .ok (.iload_n 1, 1) := by decide +kernel
theorem dd_213_5 : decode prog_13_method_60_code 5 = .ok (.i2l, 1) := by decide +kernel
theorem dd_213_6 : decode prog_13_method_60_code 6 = .ok (.lneg, 1) := by decide +kernel
theorem dd_213_7 : decode prog_13_method_60_code 7 = .ok (.goto 5, 3) := by decide +kernel
theorem dd_213_10 : decode prog_13_method_60_code 10 = .ok (.iload_n 1, 1) := by decide +kernel
theorem dd_213_11 : decode prog_13_method_60_code 11 = .ok (.i2l, 1) := by decide +kernel
theorem dd_213_12 : decode prog_13_method_60_code 12 = .ok (.lstore_n 2, 1) := by decide +kernel
theorem dd_213_13 : decode prog_13_method_60_code 13 = .ok (.iload_n 1, 1) := by decide +kernel
theorem dd_213_14 : decode prog_13_method_60_code 14 = .ok (.ifCond .ge 9, 3) := by decide +kernel
theorem dd_213_17 : decode prog_13_method_60_code 17 = .ok (.aload_n 0, 1) := by decide +kernel
theorem dd_213_18 : decode prog_13_method_60_code 18 = .ok (.bipush 45, 2) := by decide +kernel
theorem dd_213_20 : decode prog_13_method_60_code 20 = .ok (.invokevirtual 319, 3) := by decide +kernel
theorem dd_213_23 : decode prog_13_method_60_code 23 = .ok (.lconst 1, 1) := by decide +kernel
theorem dd_213_24 : decode prog_13_method_60_code 24 = .ok (.lstore 4, 2) := by decide +kernel
theorem dd_213_26 : decode prog_13_method_60_code 26 = .ok (.lload_n 2, 1) := by decide +kernel
theorem dd_213_27 : decode prog_13_method_60_code 27 = .ok (.lload 4, 2) := by decide +kernel
theorem dd_213_29 : decode prog_13_method_60_code 29 = .ok (.ldiv, 1) := by decide +kernel
theorem dd_213_30 : decode prog_13_method_60_code 30 = .ok (.ldc2_w 322, 3) := by decide +kernel
theorem dd_213_33 : decode prog_13_method_60_code 33 = .ok (.lcmp, 1) := by decide +kernel
theorem dd_213_34 : decode prog_13_method_60_code 34 = .ok (.ifCond .le 14, 3) := by decide +kernel
theorem dd_213_37 : decode prog_13_method_60_code 37 = .ok (.lload 4, 2) := by decide +kernel
theorem dd_213_39 : decode prog_13_method_60_code 39 = .ok (.ldc2_w 324, 3) := by decide +kernel
theorem dd_213_42 : decode prog_13_method_60_code 42 = .ok (.lmul, 1) := by decide +kernel
theorem dd_213_43 : decode prog_13_method_60_code 43 = .ok (.lstore 4, 2) := by decide +kernel
theorem dd_213_45 : decode prog_13_method_60_code 45 = .ok (.goto (-19), 3) := by decide +kernel
theorem dd_213_48 : decode prog_13_method_60_code 48 = .ok (.lload 4, 2) := by decide +kernel
theorem dd_213_50 : decode prog_13_method_60_code 50 = .ok (.lconst 0, 1) := by decide +kernel
theorem dd_213_51 : decode prog_13_method_60_code 51 = .ok (.lcmp, 1) := by decide +kernel
theorem dd_213_52 : decode prog_13_method_60_code 52 = .ok (.ifCond .le 30, 3) := by decide +kernel
theorem dd_213_55 : decode prog_13_method_60_code 55 = .ok (.aload_n 0, 1) := by decide +kernel
theorem dd_213_56 : decode prog_13_method_60_code 56 = .ok (.bipush 48, 2) := by decide +kernel
theorem dd_213_58 : decode prog_13_method_60_code 58 = .ok (.lload_n 2, 1) := by decide +kernel
theorem dd_213_59 : decode prog_13_method_60_code 59 = .ok (.lload 4, 2) := by decide +kernel
theorem dd_213_61 : decode prog_13_method_60_code 61 = .ok (.ldiv, 1) := by decide +kernel
theorem dd_213_62 : decode prog_13_method_60_code 62 = .ok (.ldc2_w 324, 3) := by decide +kernel
theorem dd_213_65 : decode prog_13_method_60_code 65 = .ok (.lrem, 1) := by decide +kernel
theorem dd_213_66 : decode prog_13_method_60_code 66 = .ok (.l2i, 1) := by decide +kernel
theorem dd_213_67 : decode prog_13_method_60_code 67 = .ok (.iadd, 1) := by decide +kernel
theorem dd_213_68 : decode prog_13_method_60_code 68 = .ok (.invokevirtual 319, 3) := by decide +kernel
theorem dd_213_71 : decode prog_13_method_60_code 71 = .ok (.lload 4, 2) := by decide +kernel
theorem dd_213_73 : decode prog_13_method_60_code 73 = .ok (.ldc2_w 324, 3) := by decide +kernel
theorem dd_213_76 : decode prog_13_method_60_code 76 = .ok (.ldiv, 1) := by decide +kernel
theorem dd_213_77 : decode prog_13_method_60_code 77 = .ok (.lstore 4, 2) := by decide +kernel
theorem dd_213_79 : decode prog_13_method_60_code 79 = .ok (.goto (-31), 3) := by decide +kernel
theorem dd_213_82 : decode prog_13_method_60_code 82 = .ok (.return_, 1) := by decide +kernel
set_option maxRecDepth 100000 in
theorem okI_213 : mj_okI gG "PairMachineModel" prog_13_method_60_code 6 (mj_off oM_213) (Option.none : Option Jvm.ClassFile.FieldType) false true 0 cM_213 :=
  ⟨Or.inl ⟨1, rfl, dd_213_0, rfl⟩,
   ⟨9, dd_213_1, rfl, rfl⟩,
   Or.inl ⟨1, rfl, dd_213_4, rfl⟩,
   ⟨dd_213_5, rfl⟩,
   ⟨dd_213_6, rfl⟩,
   ⟨5, dd_213_7, rfl⟩,
   Or.inl ⟨1, rfl, dd_213_10, rfl⟩,
   ⟨dd_213_11, rfl⟩,
   ⟨by decide, Or.inl ⟨2, rfl, dd_213_12, rfl⟩⟩,
   Or.inl ⟨1, rfl, dd_213_13, rfl⟩,
   ⟨9, dd_213_14, rfl, rfl⟩,
   Or.inl ⟨0, rfl, dd_213_17, rfl⟩,
   Or.inl (Or.inr (Or.inl ⟨dd_213_18, rfl, by decide⟩)),
   ⟨rfl, tw_1050, by decide, tw_12, by decide +kernel, 319, tw_1051, dd_213_20, tw_1052, ⟨"PairMachineModel", fT10, 45, rfl, tw_1053⟩, by decide +kernel⟩,
   Or.inl ⟨1, rfl, dd_213_23, rfl⟩,
   ⟨by decide, Or.inr ⟨dd_213_24, rfl⟩⟩,
   Or.inl ⟨2, rfl, dd_213_26, rfl⟩,
   Or.inr ⟨dd_213_27, rfl⟩,
   ⟨dd_213_29, rfl⟩,
   Or.inr ⟨322, dd_213_30, rfl, tw_1054⟩,
   ⟨dd_213_33, rfl⟩,
   ⟨14, dd_213_34, rfl, rfl⟩,
   Or.inr ⟨dd_213_37, rfl⟩,
   Or.inr ⟨324, dd_213_39, rfl, tw_1055⟩,
   ⟨dd_213_42, rfl⟩,
   ⟨by decide, Or.inr ⟨dd_213_43, rfl⟩⟩,
   ⟨(-19), dd_213_45, rfl⟩,
   Or.inr ⟨dd_213_48, rfl⟩,
   Or.inl ⟨0, rfl, dd_213_50, rfl⟩,
   ⟨dd_213_51, rfl⟩,
   ⟨30, dd_213_52, rfl, rfl⟩,
   Or.inl ⟨0, rfl, dd_213_55, rfl⟩,
   Or.inl (Or.inr (Or.inl ⟨dd_213_56, rfl, by decide⟩)),
   Or.inl ⟨2, rfl, dd_213_58, rfl⟩,
   Or.inr ⟨dd_213_59, rfl⟩,
   ⟨dd_213_61, rfl⟩,
   Or.inr ⟨324, dd_213_62, rfl, tw_1055⟩,
   ⟨dd_213_65, rfl⟩,
   ⟨dd_213_66, rfl⟩,
   ⟨dd_213_67, rfl⟩,
   ⟨rfl, tw_1050, by decide, tw_12, by decide +kernel, 319, tw_1051, dd_213_68, tw_1052, ⟨"PairMachineModel", fT10, 45, rfl, tw_1053⟩, by decide +kernel⟩,
   Or.inr ⟨dd_213_71, rfl⟩,
   Or.inr ⟨324, dd_213_73, rfl, tw_1055⟩,
   ⟨dd_213_76, rfl⟩,
   ⟨by decide, Or.inr ⟨dd_213_77, rfl⟩⟩,
   ⟨(-31), dd_213_79, rfl⟩,
   ⟨dd_213_82, rfl⟩, trivial⟩
theorem okM_213 : mj_okE gG 213 (cM_213, 6, oM_213, hM_213) := ⟨rfl, rfl, by decide +kernel, trivial, okI_213⟩
theorem dd_214_0 : decode prog_13_method_61_code 0 = .ok (.iload_n 1, 1) := by decide +kernel
theorem dd_214_1 : decode prog_13_method_61_code 1 = .ok (.iconst 3, 1) := by decide +kernel
theorem dd_214_2 : decode prog_13_method_61_code 2 = .ok (.if_icmp .ne 39, 3) := by decide +kernel
theorem dd_214_5 : decode prog_13_method_61_code 5 = .ok (.aload_n 0, 1) := by decide +kernel
theorem dd_214_6 : decode prog_13_method_61_code 6 = .ok (.getfield 67, 3) := by decide +kernel
theorem dd_214_9 : decode prog_13_method_61_code 9 = .ok (.iload_n 2, 1) := by decide +kernel
theorem dd_214_10 : decode prog_13_method_61_code 10 = .ok (.baload, 1) := by decide +kernel
theorem dd_214_11 : decode prog_13_method_61_code 11 = .ok (.ifCond .ne 30, 3) := by decide +kernel
theorem dd_214_14 : decode prog_13_method_61_code 14 = .ok (.aload_n 0, 1) := by decide +kernel
theorem dd_214_15 : decode prog_13_method_61_code 15 = .ok (.bipush 40, 2) := by decide +kernel
theorem dd_214_17 : decode prog_13_method_61_code 17 = .ok (.invokevirtual 319, 3) := by decide +kernel
theorem dd_214_20 : decode prog_13_method_61_code 20 = .ok (.aload_n 0, 1) := by decide +kernel
theorem dd_214_21 : decode prog_13_method_61_code 21 = .ok (.getfield 85, 3) := by decide +kernel
theorem dd_214_24 : decode prog_13_method_61_code 24 = .ok (.aload_n 0, 1) := by decide +kernel
theorem dd_214_25 : decode prog_13_method_61_code 25 = .ok (.getfield 211, 3) := by decide +kernel
theorem dd_214_28 : decode prog_13_method_61_code 28 = .ok (.iload_n 2, 1) := by decide +kernel
theorem dd_214_29 : decode prog_13_method_61_code 29 = .ok (.iastore, 1) := by decide +kernel
theorem dd_214_30 : decode prog_13_method_61_code 30 = .ok (.aload_n 0, 1) := by decide +kernel
theorem dd_214_31 : decode prog_13_method_61_code 31 = .ok (.dup, 1) := by decide +kernel
theorem dd_214_32 : decode prog_13_method_61_code 32 = .ok (.getfield 211, 3) := by decide +kernel
theorem dd_214_35 : decode prog_13_method_61_code 35 = .ok (.iconst 1, 1) := by decide +kernel
theorem dd_214_36 : decode prog_13_method_61_code 36 = .ok (.iadd, 1) := by decide +kernel
theorem dd_214_37 : decode prog_13_method_61_code 37 = .ok (.putfield 211, 3) := by decide +kernel
theorem dd_214_40 : decode prog_13_method_61_code 40 = .ok (.return_, 1) := by decide +kernel
theorem dd_214_41 : decode prog_13_method_61_code 41 = .ok (.iload_n 1, 1) := by decide +kernel
theorem dd_214_42 : decode prog_13_method_61_code 42 = .ok (.iconst 1, 1) := by decide +kernel
theorem dd_214_43 : decode prog_13_method_61_code 43 = .ok (.if_icmp .ne 11, 3) := by decide +kernel
theorem dd_214_46 : decode prog_13_method_61_code 46 = .ok (.aload_n 0, 1) := by decide +kernel
theorem dd_214_47 : decode prog_13_method_61_code 47 = .ok (.iload_n 2, 1) := by decide +kernel
theorem dd_214_48 : decode prog_13_method_61_code 48 = .ok (.invokevirtual 326, 3) := by decide +kernel
theorem dd_214_51 : decode prog_13_method_61_code 51 = .ok (.goto 41, 3) := by decide +kernel
theorem dd_214_54 : decode prog_13_method_61_code 54 = .ok (.iload_n 1, 1) := by decide +kernel
theorem dd_214_55 : decode prog_13_method_61_code 55 = .ok (.iconst 2, 1) := by decide +kernel
theorem dd_214_56 : decode prog_13_method_61_code 56 = .ok (.if_icmp .ne 11, 3) := by decide +kernel
theorem dd_214_59 : decode prog_13_method_61_code 59 = .ok (.aload_n 0, 1) := by decide +kernel
theorem dd_214_60 : decode prog_13_method_61_code 60 = .ok (.iload_n 2, 1) := by decide +kernel
theorem dd_214_61 : decode prog_13_method_61_code 61 = .ok (.invokevirtual 319, 3) := by decide +kernel
theorem dd_214_64 : decode prog_13_method_61_code 64 = .ok (.goto 28, 3) := by decide +kernel
theorem dd_214_67 : decode prog_13_method_61_code 67 = .ok (.iload_n 1, 1) := by decide +kernel
theorem dd_214_68 : decode prog_13_method_61_code 68 = .ok (.ifCond .ne 18, 3) := by decide +kernel
theorem dd_214_71 : decode prog_13_method_61_code 71 = .ok (.aload_n 0, 1) := by decide +kernel
theorem dd_214_72 : decode prog_13_method_61_code 72 = .ok (.bipush 40, 2) := by decide +kernel
theorem dd_214_74 : decode prog_13_method_61_code 74 = .ok (.invokevirtual 319, 3) := by decide +kernel
theorem dd_214_77 : decode prog_13_method_61_code 77 = .ok (.aload_n 0, 1) := by decide +kernel
theorem dd_214_78 : decode prog_13_method_61_code 78 = .ok (.bipush 41, 2) := by decide +kernel
theorem dd_214_80 : decode prog_13_method_61_code 80 = .ok (.invokevirtual 319, 3) := by decide +kernel
theorem dd_214_83 : decode prog_13_method_61_code 83 = .ok (.goto 9, 3) := by decide +kernel
theorem dd_214_86 : decode prog_13_method_61_code 86 = .ok (.aload_n 0, 1) := by decide +kernel
theorem dd_214_87 : decode prog_13_method_61_code 87 = .ok (.bipush 35, 2) := by decide +kernel
theorem dd_214_89 : decode prog_13_method_61_code 89 = .ok (.invokevirtual 319, 3) := by decide +kernel
theorem dd_214_92 : decode prog_13_method_61_code 92 = .ok (.return_, 1) := by decide +kernel
set_option maxRecDepth 100000 in
theorem okI_214 : mj_okI gG "PairMachineModel" prog_13_method_61_code 3 (mj_off oM_214) (Option.none : Option Jvm.ClassFile.FieldType) false true 0 cM_214 :=
  ⟨Or.inl ⟨1, rfl, dd_214_0, rfl⟩,
   Or.inl (Or.inl ⟨dd_214_1, rfl⟩),
   ⟨39, dd_214_2, rfl, rfl⟩,
   Or.inl ⟨0, rfl, dd_214_5, rfl⟩,
   ⟨67, "PairMachineModel", fT10, 45, dd_214_6, rfl, okc_10, by decide, tw_819⟩,
   Or.inl ⟨2, rfl, dd_214_9, rfl⟩,
   ⟨dd_214_10, rfl⟩,
   ⟨30, dd_214_11, rfl, rfl⟩,
   Or.inl ⟨0, rfl, dd_214_14, rfl⟩,
   Or.inl (Or.inr (Or.inl ⟨dd_214_15, rfl, by decide⟩)),
   ⟨rfl, tw_1050, by decide, tw_12, by decide +kernel, 319, tw_1051, dd_214_17, tw_1052, ⟨"PairMachineModel", fT10, 45, rfl, tw_1053⟩, by decide +kernel⟩,
   Or.inl ⟨0, rfl, dd_214_20, rfl⟩,
   ⟨85, "PairMachineModel", fT10, 45, dd_214_21, rfl, okc_10, by decide, tw_825⟩,
   Or.inl ⟨0, rfl, dd_214_24, rfl⟩,
   ⟨211, "PairMachineModel", fT10, 45, dd_214_25, rfl, okc_10, by decide, tw_938⟩,
   Or.inl ⟨2, rfl, dd_214_28, rfl⟩,
   ⟨dd_214_29, rfl⟩,
   Or.inl ⟨0, rfl, dd_214_30, rfl⟩,
   ⟨dd_214_31, rfl⟩,
   ⟨211, "PairMachineModel", fT10, 45, dd_214_32, rfl, okc_10, by decide, tw_938⟩,
   Or.inl (Or.inl ⟨dd_214_35, rfl⟩),
   ⟨dd_214_36, rfl⟩,
   ⟨211, "PairMachineModel", fT10, 45, dd_214_37, rfl, okc_10, by decide, tw_938, rfl, Or.inl rfl⟩,
   ⟨dd_214_40, rfl⟩,
   Or.inl ⟨1, rfl, dd_214_41, rfl⟩,
   Or.inl (Or.inl ⟨dd_214_42, rfl⟩),
   ⟨11, dd_214_43, rfl, rfl⟩,
   Or.inl ⟨0, rfl, dd_214_46, rfl⟩,
   Or.inl ⟨2, rfl, dd_214_47, rfl⟩,
   ⟨rfl, tw_1056, by decide, tw_12, by decide +kernel, 326, tw_1057, dd_214_48, tw_1058, ⟨"PairMachineModel", fT10, 45, rfl, tw_1059⟩, by decide +kernel⟩,
   ⟨41, dd_214_51, rfl⟩,
   Or.inl ⟨1, rfl, dd_214_54, rfl⟩,
   Or.inl (Or.inl ⟨dd_214_55, rfl⟩),
   ⟨11, dd_214_56, rfl, rfl⟩,
   Or.inl ⟨0, rfl, dd_214_59, rfl⟩,
   Or.inl ⟨2, rfl, dd_214_60, rfl⟩,
   ⟨rfl, tw_1050, by decide, tw_12, by decide +kernel, 319, tw_1051, dd_214_61, tw_1052, ⟨"PairMachineModel", fT10, 45, rfl, tw_1053⟩, by decide +kernel⟩,
   ⟨28, dd_214_64, rfl⟩,
   Or.inl ⟨1, rfl, dd_214_67, rfl⟩,
   ⟨18, dd_214_68, rfl, rfl⟩,
   Or.inl ⟨0, rfl, dd_214_71, rfl⟩,
   Or.inl (Or.inr (Or.inl ⟨dd_214_72, rfl, by decide⟩)),
   ⟨rfl, tw_1050, by decide, tw_12, by decide +kernel, 319, tw_1051, dd_214_74, tw_1052, ⟨"PairMachineModel", fT10, 45, rfl, tw_1053⟩, by decide +kernel⟩,
   Or.inl ⟨0, rfl, dd_214_77, rfl⟩,
   Or.inl (Or.inr (Or.inl ⟨dd_214_78, rfl, by decide⟩)),
   ⟨rfl, tw_1050, by decide, tw_12, by decide +kernel, 319, tw_1051, dd_214_80, tw_1052, ⟨"PairMachineModel", fT10, 45, rfl, tw_1053⟩, by decide +kernel⟩,
   ⟨9, dd_214_83, rfl⟩,
   Or.inl ⟨0, rfl, dd_214_86, rfl⟩,
   Or.inl (Or.inr (Or.inl ⟨dd_214_87, rfl, by decide⟩)),
   ⟨rfl, tw_1050, by decide, tw_12, by decide +kernel, 319, tw_1051, dd_214_89, tw_1052, ⟨"PairMachineModel", fT10, 45, rfl, tw_1053⟩, by decide +kernel⟩,
   ⟨dd_214_92, rfl⟩, trivial⟩
theorem okM_214 : mj_okE gG 214 (cM_214, 3, oM_214, hM_214) := ⟨rfl, rfl, by decide +kernel, trivial, okI_214⟩
theorem dd_215_0 : decode prog_13_method_62_code 0 = .ok (.aload_n 0, 1) := by decide +kernel
theorem dd_215_1 : decode prog_13_method_62_code 1 = .ok (.iconst 0, 1) := by decide +kernel
theorem dd_215_2 : decode prog_13_method_62_code 2 = .ok (.putfield 316, 3) := by decide +kernel
theorem dd_215_5 : decode prog_13_method_62_code 5 = .ok (.aload_n 0, 1) := by decide +kernel
theorem dd_215_6 : decode prog_13_method_62_code 6 = .ok (.iconst 0, 1) := by decide +kernel
theorem dd_215_7 : decode prog_13_method_62_code 7 = .ok (.putfield 211, 3) := by decide +kernel
theorem dd_215_10 : decode prog_13_method_62_code 10 = .ok (.aload_n 0, 1) := by decide +kernel
theorem dd_215_11 : decode prog_13_method_62_code 11 = .ok (.iconst 0, 1) := by decide +kernel
theorem dd_215_12 : decode prog_13_method_62_code 12 = .ok (.invokevirtual 301, 3) := by decide +kernel
theorem dd_215_15 : decode prog_13_method_62_code 15 = .ok (.aload_n 0, 1) := by decide +kernel
theorem dd_215_16 : decode prog_13_method_62_code 16 = .ok (.aload_n 0, 1) := by decide +kernel
theorem dd_215_17 : decode prog_13_method_62_code 17 = .ok (.getfield 258, 3) := by decide +kernel
theorem dd_215_20 : decode prog_13_method_62_code 20 = .ok (.aload_n 0, 1) := by decide +kernel
theorem dd_215_21 : decode prog_13_method_62_code 21 = .ok (.getfield 261, 3) := by decide +kernel
theorem dd_215_24 : decode prog_13_method_62_code 24 = .ok (.invokevirtual 329, 3) := by decide +kernel
theorem dd_215_27 : decode prog_13_method_62_code 27 = .ok (.aload_n 0, 1) := by decide +kernel
theorem dd_215_28 : decode prog_13_method_62_code 28 = .ok (.getfield 211, 3) := by decide +kernel
theorem dd_215_31 : decode prog_13_method_62_code 31 = .ok (.ifCond .le 185, 3) := by decide +kernel
theorem dd_215_34 : decode prog_13_method_62_code 34 = .ok (.aload_n 0, 1) := by decide +kernel
theorem dd_215_35 : decode prog_13_method_62_code 35 = .ok (.getfield 316, 3) := by decide +kernel
theorem dd_215_38 : decode prog_13_method_62_code 38 = .ok (.bipush 120, 2) := by decide +kernel
theorem dd_215_40 : decode prog_13_method_62_code 40 = .ok (.if_icmp .ge 176, 3) := by decide +kernel
theorem dd_215_43 : decode prog_13_method_62_code 43 = .ok (.aload_n 0, 1) := by decide +kernel
theorem dd_215_44 : decode prog_13_method_62_code 44 = .ok (.getfield 85, 3) := by decide +kernel
theorem dd_215_47 : decode prog_13_method_62_code 47 = .ok (.aload_n 0, 1) := by decide +kernel
theorem dd_215_48 : decode prog_13_method_62_code 48 = .ok (.getfield 211, 3) := by decide +kernel
theorem dd_215_51 : decode prog_13_method_62_code 51 = .ok (.iconst 1, 1) := by decide +kernel
theorem dd_215_52 : decode prog_13_method_62_code 52 = .ok (.isub, 1) := by decide +kernel
theorem dd_215_53 : decode prog_13_method_62_code 53 = .ok (.iaload, 1) := by decide +kernel
theorem dd_215_54 : decode prog_13_method_62_code 54 = .ok (.istore_n 1, 1) := by decide +kernel
theorem dd_215_55 : decode prog_13_method_62_code 55 = .ok (.iload_n 1, 1) := by decide +kernel
theorem dd_215_56 : decode prog_13_method_62_code 56 = .ok (.ifCond .lt 36, 3) := by decide +kernel
theorem dd_215_59 : decode prog_13_method_62_code 59 = .ok (.aload_n 0, 1) := by decide +kernel
theorem dd_215_60 : decode prog_13_method_62_code 60 = .ok (.getfield 85, 3) := by decide +kernel
theorem dd_215_63 : decode prog_13_method_62_code 63 = .ok (.aload_n 0, 1) := by decide +kernel
theorem dd_215_64 : decode prog_13_method_62_code 64 = .ok (.getfield 211, 3) := by decide +kernel
theorem dd_215_67 : decode prog_13_method_62_code 67 = .ok (.iconst 1, 1) := by decide +kernel
theorem dd_215_68 : decode prog_13_method_62_code 68 = .ok (.isub, 1) := by decide +kernel
theorem dd_215_69 : decode prog_13_method_62_code 69 = .ok (.iconst (-1), 1) := by decide +kernel
theorem dd_215_70 : decode prog_13_method_62_code 70 = .ok (.iload_n 1, 1) := by decide +kernel
theorem dd_215_71 : decode prog_13_method_62_code 71 = .ok (.isub, 1) := by decide +kernel
theorem dd_215_72 : decode prog_13_method_62_code 72 = .ok (.iastore, 1) := by decide +kernel
theorem dd_215_73 : decode prog_13_method_62_code 73 = .ok (.aload_n 0, 1) := by decide +kernel
theorem dd_215_74 : decode prog_13_method_62_code 74 = .ok (.aload_n 0, 1) := by decide +kernel
theorem dd_215_75 : decode prog_13_method_62_code 75 = .ok (.getfield 70, 3) := by decide +kernel
theorem dd_215_78 : decode prog_13_method_62_code 78 = .ok (.iload_n 1, 1) := by decide +kernel
theorem dd_215_79 : decode prog_13_method_62_code 79 = .ok (.iaload, 1) := by decide +kernel
theorem dd_215_80 : decode prog_13_method_62_code 80 = .ok (.aload_n 0, 1) := by decide +kernel
theorem dd_215_81 : decode prog_13_method_62_code 81 = .ok (.getfield 73, 3) := by decide +kernel
theorem dd_215_84 : decode prog_13_method_62_code 84 = .ok (.iload_n 1, 1) := by decide +kernel
theorem dd_215_85 : decode prog_13_method_62_code 85 = .ok (.iaload, 1) := by decide +kernel
theorem dd_215_86 : decode prog_13_method_62_code 86 = .ok (.invokevirtual 329, 3) := by decide +kernel
theorem dd_215_89 : decode prog_13_method_62_code 89 = .ok (.goto 124, 3) := by decide +kernel
theorem dd_215_92 : decode prog_13_method_62_code 92 = .ok (.iconst (-1), 1) := by decide +kernel
theorem dd_215_93 : decode prog_13_method_62_code 93 = .ok (.iload_n 1, 1) := by decide +kernel
theorem dd_215_94 : decode prog_13_method_62_code 94 = .ok (.isub, 1) := by decide +kernel
theorem dd_215_95 : decode prog_13_method_62_code 95 = .ok (.istore_n 2, 1) := by decide +kernel
theorem dd_215_96 : decode prog_13_method_62_code 96 = .ok (.aload_n 0, 1) := by decide +kernel
theorem dd_215_97 : decode prog_13_method_62_code 97 = .ok (.dup, 1) := by decide +kernel
theorem dd_215_98 : decode prog_13_method_62_code 98 = .ok (.getfield 211, 3) := by decide +kernel
theorem dd_215_101 : decode prog_13_method_62_code 101 = .ok (.iconst 1, 1) := by decide +kernel
theorem dd_215_102 : decode prog_13_method_62_code 102 = .ok (.isub, 1) := by decide +kernel
theorem dd_215_103 : decode prog_13_method_62_code 103 = .ok (.putfield 211, 3) := by decide +kernel
theorem dd_215_106 : decode prog_13_method_62_code 106 = .ok (.aload_n 0, 1) := by decide +kernel
theorem dd_215_107 : decode prog_13_method_62_code 107 = .ok (.getfield 76, 3) := by decide +kernel
theorem dd_215_110 : decode prog_13_method_62_code 110 = .ok (.iload_n 2, 1) := by decide +kernel
theorem dd_215_111 : decode prog_13_method_62_code 111 = .ok (.iaload, 1) := by decide +kernel
theorem dd_215_112 : decode prog_13_method_62_code 112 = .ok (.iconst 3, 1) := by decide +kernel
theorem dd_215_113 : decode prog_13_method_62_code 113 = .ok (.if_icmp .ne 51, 3) := by decide +kernel
theorem dd_215_116 : decode prog_13_method_62_code 116 = .ok (.aload_n 0, 1) := by decide +kernel
theorem dd_215_117 : decode prog_13_method_62_code 117 = .ok (.getfield 67, 3) := by decide +kernel
theorem dd_215_120 : decode prog_13_method_62_code 120 = .ok (.aload_n 0, 1) := by decide +kernel
theorem dd_215_121 : decode prog_13_method_62_code 121 = .ok (.getfield 79, 3) := by decide +kernel
theorem dd_215_124 : decode prog_13_method_62_code 124 = .ok (.iload_n 2, 1) := by decide +kernel
theorem dd_215_125 : decode prog_13_method_62_code 125 = .ok (.iaload, 1) := by decide +kernel
theorem dd_215_126 : decode prog_13_method_62_code 126 = .ok (.baload, 1) := by decide +kernel
theorem dd_215_127 : decode prog_13_method_62_code 127 = .ok (.ifCond .ne 37, 3) := by decide +kernel
theorem dd_215_130 : decode prog_13_method_62_code 130 = .ok (.aload_n 0, 1) := by decide +kernel
theorem dd_215_131 : decode prog_13_method_62_code 131 = .ok (.bipush 32, 2) := by decide +kernel
theorem dd_215_133 : decode prog_13_method_62_code 133 = .ok (.invokevirtual 319, 3) := by decide +kernel
theorem dd_215_136 : decode prog_13_method_62_code 136 = .ok (.aload_n 0, 1) := by decide +kernel
theorem dd_215_137 : decode prog_13_method_62_code 137 = .ok (.getfield 85, 3) := by decide +kernel
theorem dd_215_140 : decode prog_13_method_62_code 140 = .ok (.aload_n 0, 1) := by decide +kernel
theorem dd_215_141 : decode prog_13_method_62_code 141 = .ok (.getfield 211, 3) := by decide +kernel
theorem dd_215_144 : decode prog_13_method_62_code 144 = .ok (.aload_n 0, 1) := by decide +kernel
theorem dd_215_145 : decode prog_13_method_62_code 145 = .ok (.getfield 79, 3) := by decide +kernel
theorem dd_215_148 : decode prog_13_method_62_code 148 = .ok (.iload_n 2, 1) := by decide +kernel
theorem dd_215_149 : decode prog_13_method_62_code 149 = .ok (.iaload, 1) := by decide +kernel
theorem dd_215_150 : decode prog_13_method_62_code 150 = .ok (.iastore, 1) := by decide +kernel
theorem dd_215_151 : decode prog_13_method_62_code 151 = .ok (.aload_n 0, 1) := by decide +kernel
theorem dd_215_152 : decode prog_13_method_62_code 152 = .ok (.dup, 1) := by decide +kernel
theorem dd_215_153 : decode prog_13_method_62_code 153 = .ok (.getfield 211, 3) := by decide +kernel
theorem dd_215_156 : decode prog_13_method_62_code 156 = .ok (.iconst 1, 1) := by decide +kernel
theorem dd_215_157 : decode prog_13_method_62_code 157 = .ok (.iadd, 1) := by decide +kernel
theorem dd_215_158 : decode prog_13_method_62_code 158 = .ok (.putfield 211, 3) := by decide +kernel
theorem dd_215_161 : decode prog_13_method_62_code 161 = .ok (.goto 52, 3) := by decide +kernel
theorem dd_215_164 : decode prog_13_method_62_code 164 = .ok (.aload_n 0, 1) := by decide +kernel
theorem dd_215_165 : decode prog_13_method_62_code 165 = .ok (.getfield 76, 3) := by decide +kernel
theorem dd_215_168 : decode prog_13_method_62_code 168 = .ok (.iload_n 2, 1) := by decide +kernel
theorem dd_215_169 : decode prog_13_method_62_code 169 = .ok (.iaload, 1) := by decide +kernel
theorem dd_215_170 : decode prog_13_method_62_code 170 = .ok (.ifCond .eq 37, 3) := by decide +kernel
theorem dd_215_173 : decode prog_13_method_62_code 173 = .ok (.aload_n 0, 1) := by decide +kernel
theorem dd_215_174 : decode prog_13_method_62_code 174 = .ok (.bipush 32, 2) := by decide +kernel
theorem dd_215_176 : decode prog_13_method_62_code 176 = .ok (.invokevirtual 319, 3) := by decide +kernel
theorem dd_215_179 : decode prog_13_method_62_code 179 = .ok (.aload_n 0, 1) := by decide +kernel
theorem dd_215_180 : decode prog_13_method_62_code 180 = .ok (.bipush 46, 2) := by decide +kernel
theorem dd_215_182 : decode prog_13_method_62_code 182 = .ok (.invokevirtual 319, 3) := by decide +kernel
theorem dd_215_185 : decode prog_13_method_62_code 185 = .ok (.aload_n 0, 1) := by decide +kernel
theorem dd_215_186 : decode prog_13_method_62_code 186 = .ok (.bipush 32, 2) := by decide +kernel
theorem dd_215_188 : decode prog_13_method_62_code 188 = .ok (.invokevirtual 319, 3) := by decide +kernel
theorem dd_215_191 : decode prog_13_method_62_code 191 = .ok (.aload_n 0, 1) := by decide +kernel
theorem dd_215_192 : decode prog_13_method_62_code 192 = .ok (.aload_n 0, 1) := by decide +kernel
theorem dd_215_193 : decode prog_13_method_62_code 193 = .ok (.getfield 76, 3) := by decide +kernel
theorem dd_215_196 : decode prog_13_method_62_code 196 = .ok (.iload_n 2, 1) := by decide +kernel
theorem dd_215_197 : decode prog_13_method_62_code 197 = .ok (.iaload, 1) := by decide +kernel
theorem dd_215_198 : decode prog_13_method_62_code 198 = .ok (.aload_n 0, 1) := by decide +kernel
theorem dd_215_199 : decode prog_13_method_62_code 199 = .ok (.getfield 79, 3) := by decide +kernel
theorem dd_215_202 : decode prog_13_method_62_code 202 = .ok (.iload_n 2, 1) := by decide +kernel
theorem dd_215_203 : decode prog_13_method_62_code 203 = .ok (.iaload, 1) := by decide +kernel
theorem dd_215_204 : decode prog_13_method_62_code 204 = .ok (.invokevirtual 329, 3) := by decide +kernel
theorem dd_215_207 : decode prog_13_method_62_code 207 = .ok (.aload_n 0, 1) := by decide +kernel
theorem dd_215_208 : decode prog_13_method_62_code 208 = .ok (.bipush 41, 2) := by decide +kernel
theorem dd_215_210 : decode prog_13_method_62_code 210 = .ok (.invokevirtual 319, 3) := by decide +kernel
theorem dd_215_213 : decode prog_13_method_62_code 213 = .ok (.goto (-186), 3) := by decide +kernel
theorem dd_215_216 : decode prog_13_method_62_code 216 = .ok (.return_, 1) := by decide +kernel
set_option maxRecDepth 100000 in
theorem okI_215 : mj_okI gG "PairMachineModel" prog_13_method_62_code 3 (mj_off oM_215) (Option.none : Option Jvm.ClassFile.FieldType) false true 0 cM_215 :=
  ⟨Or.inl ⟨0, rfl, dd_215_0, rfl⟩,
   Or.inl (Or.inl ⟨dd_215_1, rfl⟩),
   ⟨316, "PairMachineModel", fT10, 45, dd_215_2, rfl, okc_10, by decide, tw_1049, rfl, Or.inl rfl⟩,
   Or.inl ⟨0, rfl, dd_215_5, rfl⟩,
   Or.inl (Or.inl ⟨dd_215_6, rfl⟩),
   ⟨211, "PairMachineModel", fT10, 45, dd_215_7, rfl, okc_10, by decide, tw_938, rfl, Or.inl rfl⟩,
   Or.inl ⟨0, rfl, dd_215_10, rfl⟩,
   Or.inl (Or.inl ⟨dd_215_11, rfl⟩),
   ⟨rfl, tw_1029, by decide, tw_12, by decide +kernel, 301, tw_1030, dd_215_12, tw_1031, ⟨"PairMachineModel", fT10, 45, rfl, tw_1032⟩, by decide +kernel⟩,
   Or.inl ⟨0, rfl, dd_215_15, rfl⟩,
   Or.inl ⟨0, rfl, dd_215_16, rfl⟩,
   ⟨258, "PairMachineModel", fT10, 45, dd_215_17, rfl, okc_10, by decide, tw_980⟩,
   Or.inl ⟨0, rfl, dd_215_20, rfl⟩,
   ⟨261, "PairMachineModel", fT10, 45, dd_215_21, rfl, okc_10, by decide, tw_981⟩,
   ⟨rfl, tw_1060, by decide, tw_12, by decide +kernel, 329, tw_1061, dd_215_24, tw_1062, ⟨"PairMachineModel", fT10, 45, rfl, tw_1063⟩, by decide +kernel⟩,
   Or.inl ⟨0, rfl, dd_215_27, rfl⟩,
   ⟨211, "PairMachineModel", fT10, 45, dd_215_28, rfl, okc_10, by decide, tw_938⟩,
   ⟨185, dd_215_31, rfl, rfl⟩,
   Or.inl ⟨0, rfl, dd_215_34, rfl⟩,
   ⟨316, "PairMachineModel", fT10, 45, dd_215_35, rfl, okc_10, by decide, tw_1049⟩,
   Or.inl (Or.inr (Or.inl ⟨dd_215_38, rfl, by decide⟩)),
   ⟨176, dd_215_40, rfl, rfl⟩,
   Or.inl ⟨0, rfl, dd_215_43, rfl⟩,
   ⟨85, "PairMachineModel", fT10, 45, dd_215_44, rfl, okc_10, by decide, tw_825⟩,
   Or.inl ⟨0, rfl, dd_215_47, rfl⟩,
   ⟨211, "PairMachineModel", fT10, 45, dd_215_48, rfl, okc_10, by decide, tw_938⟩,
   Or.inl (Or.inl ⟨dd_215_51, rfl⟩),
   ⟨dd_215_52, rfl⟩,
   ⟨dd_215_53, rfl⟩,
   ⟨by decide, Or.inl ⟨1, rfl, dd_215_54, rfl⟩⟩,
   Or.inl ⟨1, rfl, dd_215_55, rfl⟩,
   ⟨36, dd_215_56, rfl, rfl⟩,
   Or.inl ⟨0, rfl, dd_215_59, rfl⟩,
   ⟨85, "PairMachineModel", fT10, 45, dd_215_60, rfl, okc_10, by decide, tw_825⟩,
   Or.inl ⟨0, rfl, dd_215_63, rfl⟩,
   ⟨211, "PairMachineModel", fT10, 45, dd_215_64, rfl, okc_10, by decide, tw_938⟩,
   Or.inl (Or.inl ⟨dd_215_67, rfl⟩),
   ⟨dd_215_68, rfl⟩,
   Or.inl (Or.inl ⟨dd_215_69, rfl⟩),
   Or.inl ⟨1, rfl, dd_215_70, rfl⟩,
   ⟨dd_215_71, rfl⟩,
   ⟨dd_215_72, rfl⟩,
   Or.inl ⟨0, rfl, dd_215_73, rfl⟩,
   Or.inl ⟨0, rfl, dd_215_74, rfl⟩,
   ⟨70, "PairMachineModel", fT10, 45, dd_215_75, rfl, okc_10, by decide, tw_820⟩,
   Or.inl ⟨1, rfl, dd_215_78, rfl⟩,
   ⟨dd_215_79, rfl⟩,
   Or.inl ⟨0, rfl, dd_215_80, rfl⟩,
   ⟨73, "PairMachineModel", fT10, 45, dd_215_81, rfl, okc_10, by decide, tw_821⟩,
   Or.inl ⟨1, rfl, dd_215_84, rfl⟩,
   ⟨dd_215_85, rfl⟩,
   ⟨rfl, tw_1060, by decide, tw_12, by decide +kernel, 329, tw_1061, dd_215_86, tw_1062, ⟨"PairMachineModel", fT10, 45, rfl, tw_1063⟩, by decide +kernel⟩,
   ⟨124, dd_215_89, rfl⟩,
   Or.inl (Or.inl ⟨dd_215_92, rfl⟩),
   Or.inl ⟨1, rfl, dd_215_93, rfl⟩,
   ⟨dd_215_94, rfl⟩,
   ⟨by decide, Or.inl ⟨2, rfl, dd_215_95, rfl⟩⟩,
   Or.inl ⟨0, rfl, dd_215_96, rfl⟩,
   ⟨dd_215_97, rfl⟩,
   ⟨211, "PairMachineModel", fT10, 45, dd_215_98, rfl, okc_10, by decide, tw_938⟩,
   Or.inl (Or.inl ⟨dd_215_101, rfl⟩),
   ⟨dd_215_102, rfl⟩,
   ⟨211, "PairMachineModel", fT10, 45, dd_215_103, rfl, okc_10, by decide, tw_938, rfl, Or.inl rfl⟩,
   Or.inl ⟨0, rfl, dd_215_106, rfl⟩,
   ⟨76, "PairMachineModel", fT10, 45, dd_215_107, rfl, okc_10, by decide, tw_822⟩,
   Or.inl ⟨2, rfl, dd_215_110, rfl⟩,
   ⟨dd_215_111, rfl⟩,
   Or.inl (Or.inl ⟨dd_215_112, rfl⟩),
   ⟨51, dd_215_113, rfl, rfl⟩,
   Or.inl ⟨0, rfl, dd_215_116, rfl⟩,
   ⟨67, "PairMachineModel", fT10, 45, dd_215_117, rfl, okc_10, by decide, tw_819⟩,
   Or.inl ⟨0, rfl, dd_215_120, rfl⟩,
   ⟨79, "PairMachineModel", fT10, 45, dd_215_121, rfl, okc_10, by decide, tw_823⟩,
   Or.inl ⟨2, rfl, dd_215_124, rfl⟩,
   ⟨dd_215_125, rfl⟩,
   ⟨dd_215_126, rfl⟩,
   ⟨37, dd_215_127, rfl, rfl⟩,
   Or.inl ⟨0, rfl, dd_215_130, rfl⟩,
   Or.inl (Or.inr (Or.inl ⟨dd_215_131, rfl, by decide⟩)),
   ⟨rfl, tw_1050, by decide, tw_12, by decide +kernel, 319, tw_1051, dd_215_133, tw_1052, ⟨"PairMachineModel", fT10, 45, rfl, tw_1053⟩, by decide +kernel⟩,
   Or.inl ⟨0, rfl, dd_215_136, rfl⟩,
   ⟨85, "PairMachineModel", fT10, 45, dd_215_137, rfl, okc_10, by decide, tw_825⟩,
   Or.inl ⟨0, rfl, dd_215_140, rfl⟩,
   ⟨211, "PairMachineModel", fT10, 45, dd_215_141, rfl, okc_10, by decide, tw_938⟩,
   Or.inl ⟨0, rfl, dd_215_144, rfl⟩,
   ⟨79, "PairMachineModel", fT10, 45, dd_215_145, rfl, okc_10, by decide, tw_823⟩,
   Or.inl ⟨2, rfl, dd_215_148, rfl⟩,
   ⟨dd_215_149, rfl⟩,
   ⟨dd_215_150, rfl⟩,
   Or.inl ⟨0, rfl, dd_215_151, rfl⟩,
   ⟨dd_215_152, rfl⟩,
   ⟨211, "PairMachineModel", fT10, 45, dd_215_153, rfl, okc_10, by decide, tw_938⟩,
   Or.inl (Or.inl ⟨dd_215_156, rfl⟩),
   ⟨dd_215_157, rfl⟩,
   ⟨211, "PairMachineModel", fT10, 45, dd_215_158, rfl, okc_10, by decide, tw_938, rfl, Or.inl rfl⟩,
   ⟨52, dd_215_161, rfl⟩,
   Or.inl ⟨0, rfl, dd_215_164, rfl⟩,
   ⟨76, "PairMachineModel", fT10, 45, dd_215_165, rfl, okc_10, by decide, tw_822⟩,
   Or.inl ⟨2, rfl, dd_215_168, rfl⟩,
   ⟨dd_215_169, rfl⟩,
   ⟨37, dd_215_170, rfl, rfl⟩,
   Or.inl ⟨0, rfl, dd_215_173, rfl⟩,
   Or.inl (Or.inr (Or.inl ⟨dd_215_174, rfl, by decide⟩)),
   ⟨rfl, tw_1050, by decide, tw_12, by decide +kernel, 319, tw_1051, dd_215_176, tw_1052, ⟨"PairMachineModel", fT10, 45, rfl, tw_1053⟩, by decide +kernel⟩,
   Or.inl ⟨0, rfl, dd_215_179, rfl⟩,
   Or.inl (Or.inr (Or.inl ⟨dd_215_180, rfl, by decide⟩)),
   ⟨rfl, tw_1050, by decide, tw_12, by decide +kernel, 319, tw_1051, dd_215_182, tw_1052, ⟨"PairMachineModel", fT10, 45, rfl, tw_1053⟩, by decide +kernel⟩,
   Or.inl ⟨0, rfl, dd_215_185, rfl⟩,
   Or.inl (Or.inr (Or.inl ⟨dd_215_186, rfl, by decide⟩)),
   ⟨rfl, tw_1050, by decide, tw_12, by decide +kernel, 319, tw_1051, dd_215_188, tw_1052, ⟨"PairMachineModel", fT10, 45, rfl, tw_1053⟩, by decide +kernel⟩,
   Or.inl ⟨0, rfl, dd_215_191, rfl⟩,
   Or.inl ⟨0, rfl, dd_215_192, rfl⟩,
   ⟨76, "PairMachineModel", fT10, 45, dd_215_193, rfl, okc_10, by decide, tw_822⟩,
   Or.inl ⟨2, rfl, dd_215_196, rfl⟩,
   ⟨dd_215_197, rfl⟩,
   Or.inl ⟨0, rfl, dd_215_198, rfl⟩,
   ⟨79, "PairMachineModel", fT10, 45, dd_215_199, rfl, okc_10, by decide, tw_823⟩,
   Or.inl ⟨2, rfl, dd_215_202, rfl⟩,
   ⟨dd_215_203, rfl⟩,
   ⟨rfl, tw_1060, by decide, tw_12, by decide +kernel, 329, tw_1061, dd_215_204, tw_1062, ⟨"PairMachineModel", fT10, 45, rfl, tw_1063⟩, by decide +kernel⟩,
   Or.inl ⟨0, rfl, dd_215_207, rfl⟩,
   Or.inl (Or.inr (Or.inl ⟨dd_215_208, rfl, by decide⟩)),
   ⟨rfl, tw_1050, by decide, tw_12, by decide +kernel, 319, tw_1051, dd_215_210, tw_1052, ⟨"PairMachineModel", fT10, 45, rfl, tw_1053⟩, by decide +kernel⟩,
   ⟨(-186), dd_215_213, rfl⟩,
   ⟨dd_215_216, rfl⟩, trivial⟩
theorem okM_215 : mj_okE gG 215 (cM_215, 3, oM_215, hM_215) := ⟨rfl, rfl, by decide +kernel, trivial, okI_215⟩
theorem dd_216_0 : decode prog_13_method_63_code 0 = .ok (.aload_n 0, 1) := by decide +kernel
theorem dd_216_1 : decode prog_13_method_63_code 1 = .ok (.iconst 0, 1) := by decide +kernel
theorem dd_216_2 : decode prog_13_method_63_code 2 = .ok (.putfield 97, 3) := by decide +kernel
theorem dd_216_5 : decode prog_13_method_63_code 5 = .ok (.aload_n 0, 1) := by decide +kernel
theorem dd_216_6 : decode prog_13_method_63_code 6 = .ok (.getfield 240, 3) := by decide +kernel
theorem dd_216_9 : decode prog_13_method_63_code 9 = .ok (.ireturn, 1) := by decide +kernel
set_option maxRecDepth 100000 in
theorem okI_216 : mj_okI gG "PairMachineModel" prog_13_method_63_code 1 (mj_off oM_216) (Option.some Jvm.ClassFile.FieldType.int) false true 0 cM_216 :=
  ⟨Or.inl ⟨0, rfl, dd_216_0, rfl⟩,
   Or.inl (Or.inl ⟨dd_216_1, rfl⟩),
   ⟨97, "PairMachineModel", fT10, 45, dd_216_2, rfl, okc_10, by decide, tw_829, rfl, Or.inl rfl⟩,
   Or.inl ⟨0, rfl, dd_216_5, rfl⟩,
   ⟨240, "PairMachineModel", fT10, 45, dd_216_6, rfl, okc_10, by decide, tw_968⟩,
   ⟨dd_216_9, rfl⟩, trivial⟩
theorem okM_216 : mj_okE gG 216 (cM_216, 1, oM_216, hM_216) := ⟨rfl, rfl, by decide +kernel, trivial, okI_216⟩
theorem dd_217_0 : decode prog_13_method_64_code 0 = .ok (.iconst 0, 1) := by decide +kernel
theorem dd_217_1 : decode prog_13_method_64_code 1 = .ok (.istore_n 2, 1) := by decide +kernel
theorem dd_217_2 : decode prog_13_method_64_code 2 = .ok (.iload_n 1, 1) := by decide +kernel
theorem dd_217_3 : decode prog_13_method_64_code 3 = .ok (.istore_n 3, 1) := by decide +kernel
theorem dd_217_4 : decode prog_13_method_64_code 4 = .ok (.iload_n 3, 1) := by decide +kernel
theorem dd_217_5 : decode prog_13_method_64_code 5 = .ok (.ifCond .lt 15, 3) := by decide +kernel
theorem dd_217_8 : decode prog_13_method_64_code 8 = .ok (.iinc 2 1, 3) := by decide +kernel
theorem dd_217_11 : decode prog_13_method_64_code 11 = .ok (.aload_n 0, 1) := by decide +kernel
theorem dd_217_12 : decode prog_13_method_64_code 12 = .ok (.iload_n 3, 1) := by decide +kernel
theorem dd_217_13 : decode prog_13_method_64_code 13 = .ok (.invokevirtual 255, 3) := by decide +kernel
theorem dd_217_16 : decode prog_13_method_64_code 16 = .ok (.istore_n 3, 1) := by decide +kernel
theorem dd_217_17 : decode prog_13_method_64_code 17 = .ok (.goto (-13), 3) := by decide +kernel
theorem dd_217_20 : decode prog_13_method_64_code 20 = .ok (.iload_n 2, 1) := by decide +kernel
theorem dd_217_21 : decode prog_13_method_64_code 21 = .ok (.ireturn, 1) := by decide +kernel
set_option maxRecDepth 100000 in
theorem okI_217 : mj_okI gG "PairMachineModel" prog_13_method_64_code 4 (mj_off oM_217) (Option.some Jvm.ClassFile.FieldType.int) false true 0 cM_217 :=
  ⟨Or.inl (Or.inl ⟨dd_217_0, rfl⟩),
   ⟨by decide, Or.inl ⟨2, rfl, dd_217_1, rfl⟩⟩,
   Or.inl ⟨1, rfl, dd_217_2, rfl⟩,
   ⟨by decide, Or.inl ⟨3, rfl, dd_217_3, rfl⟩⟩,
   Or.inl ⟨3, rfl, dd_217_4, rfl⟩,
   ⟨15, dd_217_5, rfl, rfl⟩,
   ⟨by decide, dd_217_8, rfl⟩,
   Or.inl ⟨0, rfl, dd_217_11, rfl⟩,
   Or.inl ⟨3, rfl, dd_217_12, rfl⟩,
   ⟨rfl, tw_976, by decide, tw_12, by decide +kernel, 255, tw_977, dd_217_13, tw_978, ⟨"PairMachineModel", fT10, 45, rfl, tw_979⟩, by decide +kernel⟩,
   ⟨by decide, Or.inl ⟨3, rfl, dd_217_16, rfl⟩⟩,
   ⟨(-13), dd_217_17, rfl⟩,
   Or.inl ⟨2, rfl, dd_217_20, rfl⟩,
   ⟨dd_217_21, rfl⟩, trivial⟩
theorem okM_217 : mj_okE gG 217 (cM_217, 4, oM_217, hM_217) := ⟨rfl, rfl, by decide +kernel, trivial, okI_217⟩
theorem dd_218_0 : decode prog_13_method_65_code 0 = .ok (.aload_n 0, 1) := by decide +kernel
theorem dd_218_1 : decode prog_13_method_65_code 1 = .ok (.iconst 0, 1) := by decide +kernel
theorem dd_218_2 : decode prog_13_method_65_code 2 = .ok (.putfield 97, 3) := by decide +kernel
theorem dd_218_5 : decode prog_13_method_65_code 5 = .ok (.iload_n 1, 1) := by decide +kernel
theorem dd_218_6 : decode prog_13_method_65_code 6 = .ok (.tableswitch 94 0 6 #[42, 52, 57, 62, 67, 72, 83], 42) := by decide +kernel
theorem dd_218_48 : decode prog_13_method_65_code 48 = .ok (.aload_n 0, 1) := by decide +kernel
theorem dd_218_49 : decode prog_13_method_65_code 49 = .ok (.getfield 94, 3) := by decide +kernel
theorem dd_218_52 : decode prog_13_method_65_code 52 = .ok (.aload_n 0, 1) := by decide +kernel
theorem dd_218_53 : decode prog_13_method_65_code 53 = .ok (.invokevirtual 264, 3) := by decide +kernel
theorem dd_218_56 : decode prog_13_method_65_code 56 = .ok (.isub, 1) := by decide +kernel
theorem dd_218_57 : decode prog_13_method_65_code 57 = .ok (.ireturn, 1) := by decide +kernel
theorem dd_218_58 : decode prog_13_method_65_code 58 = .ok (.aload_n 0, 1) := by decide +kernel
theorem dd_218_59 : decode prog_13_method_65_code 59 = .ok (.invokevirtual 220, 3) := by decide +kernel
theorem dd_218_62 : decode prog_13_method_65_code 62 = .ok (.ireturn, 1) := by decide +kernel
theorem dd_218_63 : decode prog_13_method_65_code 63 = .ok (.aload_n 0, 1) := by decide +kernel
theorem dd_218_64 : decode prog_13_method_65_code 64 = .ok (.getfield 243, 3) := by decide +kernel
theorem dd_218_67 : decode prog_13_method_65_code 67 = .ok (.ireturn, 1) := by decide +kernel
theorem dd_218_68 : decode prog_13_method_65_code 68 = .ok (.aload_n 0, 1) := by decide +kernel
theorem dd_218_69 : decode prog_13_method_65_code 69 = .ok (.getfield 246, 3) := by decide +kernel
theorem dd_218_72 : decode prog_13_method_65_code 72 = .ok (.ireturn, 1) := by decide +kernel
theorem dd_218_73 : decode prog_13_method_65_code 73 = .ok (.aload_n 0, 1) := by decide +kernel
theorem dd_218_74 : decode prog_13_method_65_code 74 = .ok (.getfield 249, 3) := by decide +kernel
theorem dd_218_77 : decode prog_13_method_65_code 77 = .ok (.ireturn, 1) := by decide +kernel
theorem dd_218_78 : decode prog_13_method_65_code 78 = .ok (.aload_n 0, 1) := by decide +kernel
theorem dd_218_79 : decode prog_13_method_65_code 79 = .ok (.aload_n 0, 1) := by decide +kernel
theorem dd_218_80 : decode prog_13_method_65_code 80 = .ok (.getfield 88, 3) := by decide +kernel
theorem dd_218_83 : decode prog_13_method_65_code 83 = .ok (.iconst 0, 1) := by decide +kernel
theorem dd_218_84 : decode prog_13_method_65_code 84 = .ok (.iaload, 1) := by decide +kernel
theorem dd_218_85 : decode prog_13_method_65_code 85 = .ok (.invokevirtual 332, 3) := by decide +kernel
theorem dd_218_88 : decode prog_13_method_65_code 88 = .ok (.ireturn, 1) := by decide +kernel
theorem dd_218_89 : decode prog_13_method_65_code 89 = .ok (.aload_n 0, 1) := by decide +kernel
theorem dd_218_90 : decode prog_13_method_65_code 90 = .ok (.aload_n 0, 1) := by decide +kernel
theorem dd_218_91 : decode prog_13_method_65_code 91 = .ok (.getfield 88, 3) := by decide +kernel
theorem dd_218_94 : decode prog_13_method_65_code 94 = .ok (.iconst 3, 1) := by decide +kernel
theorem dd_218_95 : decode prog_13_method_65_code 95 = .ok (.iaload, 1) := by decide +kernel
theorem dd_218_96 : decode prog_13_method_65_code 96 = .ok (.invokevirtual 332, 3) := by decide +kernel
theorem dd_218_99 : decode prog_13_method_65_code 99 = .ok (.ireturn, 1) := by decide +kernel
theorem dd_218_100 : decode prog_13_method_65_code 100 = .ok (.iconst (-1), 1) := by decide +kernel
theorem dd_218_101 : decode prog_13_method_65_code 101 = .ok (.ireturn, 1) := by decide +kernel
set_option maxRecDepth 100000 in
theorem okI_218 : mj_okI gG "PairMachineModel" prog_13_method_65_code 2 (mj_off oM_218) (Option.some Jvm.ClassFile.FieldType.int) false true 0 cM_218 :=
  ⟨Or.inl ⟨0, rfl, dd_218_0, rfl⟩,
   Or.inl (Or.inl ⟨dd_218_1, rfl⟩),
   ⟨97, "PairMachineModel", fT10, 45, dd_218_2, rfl, okc_10, by decide, tw_829, rfl, Or.inl rfl⟩,
   Or.inl ⟨1, rfl, dd_218_5, rfl⟩,
   Or.inr ⟨94, 0, #[42, 52, 57, 62, 67, 72, 83], 42, dd_218_6, rfl, rfl, (fun j hj => by
    match j, hj with
    | 0, _ => exact ⟨42, 5, rfl, rfl, by decide, rfl⟩
    | 1, _ => exact ⟨52, 11, rfl, rfl, by decide, rfl⟩
    | 2, _ => exact ⟨57, 14, rfl, rfl, by decide, rfl⟩
    | 3, _ => exact ⟨62, 17, rfl, rfl, by decide, rfl⟩
    | 4, _ => exact ⟨67, 20, rfl, rfl, by decide, rfl⟩
    | 5, _ => exact ⟨72, 23, rfl, rfl, by decide, rfl⟩
    | 6, _ => exact ⟨83, 30, rfl, rfl, by decide, rfl⟩
    | j + 7, h => exact absurd h (by simp))⟩,
   Or.inl ⟨0, rfl, dd_218_48, rfl⟩,
   ⟨94, "PairMachineModel", fT10, 45, dd_218_49, rfl, okc_10, by decide, tw_828⟩,
   Or.inl ⟨0, rfl, dd_218_52, rfl⟩,
   ⟨rfl, tw_982, by decide, tw_12, by decide +kernel, 264, tw_983, dd_218_53, tw_984, ⟨"PairMachineModel", fT10, 45, rfl, tw_985⟩, by decide +kernel⟩,
   ⟨dd_218_56, rfl⟩,
   ⟨dd_218_57, rfl⟩,
   Or.inl ⟨0, rfl, dd_218_58, rfl⟩,
   ⟨rfl, tw_947, by decide, tw_12, by decide +kernel, 220, tw_948, dd_218_59, tw_949, ⟨"PairMachineModel", fT10, 45, rfl, tw_950⟩, by decide +kernel⟩,
   ⟨dd_218_62, rfl⟩,
   Or.inl ⟨0, rfl, dd_218_63, rfl⟩,
   ⟨243, "PairMachineModel", fT10, 45, dd_218_64, rfl, okc_10, by decide, tw_969⟩,
   ⟨dd_218_67, rfl⟩,
   Or.inl ⟨0, rfl, dd_218_68, rfl⟩,
   ⟨246, "PairMachineModel", fT10, 45, dd_218_69, rfl, okc_10, by decide, tw_970⟩,
   ⟨dd_218_72, rfl⟩,
   Or.inl ⟨0, rfl, dd_218_73, rfl⟩,
   ⟨249, "PairMachineModel", fT10, 45, dd_218_74, rfl, okc_10, by decide, tw_971⟩,
   ⟨dd_218_77, rfl⟩,
   Or.inl ⟨0, rfl, dd_218_78, rfl⟩,
   Or.inl ⟨0, rfl, dd_218_79, rfl⟩,
   ⟨88, "PairMachineModel", fT10, 45, dd_218_80, rfl, okc_10, by decide, tw_826⟩,
   Or.inl (Or.inl ⟨dd_218_83, rfl⟩),
   ⟨dd_218_84, rfl⟩,
   ⟨rfl, tw_1064, by decide, tw_12, by decide +kernel, 332, tw_1065, dd_218_85, tw_1066, ⟨"PairMachineModel", fT10, 45, rfl, tw_1067⟩, by decide +kernel⟩,
   ⟨dd_218_88, rfl⟩,
   Or.inl ⟨0, rfl, dd_218_89, rfl⟩,
   Or.inl ⟨0, rfl, dd_218_90, rfl⟩,
   ⟨88, "PairMachineModel", fT10, 45, dd_218_91, rfl, okc_10, by decide, tw_826⟩,
   Or.inl (Or.inl ⟨dd_218_94, rfl⟩),
   ⟨dd_218_95, rfl⟩,
   ⟨rfl, tw_1064, by decide, tw_12, by decide +kernel, 332, tw_1065, dd_218_96, tw_1066, ⟨"PairMachineModel", fT10, 45, rfl, tw_1067⟩, by decide +kernel⟩,
   ⟨dd_218_99, rfl⟩,
   Or.inl (Or.inl ⟨dd_218_100, rfl⟩),
   ⟨dd_218_101, rfl⟩, trivial⟩
theorem okM_218 : mj_okE gG 218 (cM_218, 2, oM_218, hM_218) := ⟨rfl, rfl, by decide +kernel, trivial, okI_218⟩
theorem dd_219_0 : decode prog_13_method_66_code 0 = .ok (.aload_n 0, 1) := by decide +kernel
theorem dd_219_1 : decode prog_13_method_66_code 1 = .ok (.iconst 0, 1) := by decide +kernel
theorem dd_219_2 : decode prog_13_method_66_code 2 = .ok (.putfield 97, 3) := by decide +kernel
theorem dd_219_5 : decode prog_13_method_66_code 5 = .ok (.aload_n 0, 1) := by decide +kernel
theorem dd_219_6 : decode prog_13_method_66_code 6 = .ok (.getfield 240, 3) := by decide +kernel
theorem dd_219_9 : decode prog_13_method_66_code 9 = .ok (.iconst 1, 1) := by decide +kernel
theorem dd_219_10 : decode prog_13_method_66_code 10 = .ok (.if_icmp .ne 17, 3) := by decide +kernel
theorem dd_219_13 : decode prog_13_method_66_code 13 = .ok (.aload_n 0, 1) := by decide +kernel
theorem dd_219_14 : decode prog_13_method_66_code 14 = .ok (.getfield 73, 3) := by decide +kernel
theorem dd_219_17 : decode prog_13_method_66_code 17 = .ok (.aload_n 0, 1) := by decide +kernel
theorem dd_219_18 : decode prog_13_method_66_code 18 = .ok (.getfield 88, 3) := by decide +kernel
theorem dd_219_21 : decode prog_13_method_66_code 21 = .ok (.iconst 2, 1) := by decide +kernel
theorem dd_219_22 : decode prog_13_method_66_code 22 = .ok (.iaload, 1) := by decide +kernel
theorem dd_219_23 : decode prog_13_method_66_code 23 = .ok (.iaload, 1) := by decide +kernel
theorem dd_219_24 : decode prog_13_method_66_code 24 = .ok (.goto 4, 3) := by decide +kernel
theorem dd_219_27 : decode prog_13_method_66_code 27 = .ok (.iconst (-1), 1) := by decide +kernel
theorem dd_219_28 : decode prog_13_method_66_code 28 = .ok (.ireturn, 1) := by decide +kernel
set_option maxRecDepth 100000 in
theorem okI_219 : mj_okI gG "PairMachineModel" prog_13_method_66_code 1 (mj_off oM_219) (Option.some Jvm.ClassFile.FieldType.int) false true 0 cM_219 :=
  ⟨Or.inl ⟨0, rfl, dd_219_0, rfl⟩,
   Or.inl (Or.inl ⟨dd_219_1, rfl⟩),
   ⟨97, "PairMachineModel", fT10, 45, dd_219_2, rfl, okc_10, by decide, tw_829, rfl, Or.inl rfl⟩,
   Or.inl ⟨0, rfl, dd_219_5, rfl⟩,
   ⟨240, "PairMachineModel", fT10, 45, dd_219_6, rfl, okc_10, by decide, tw_968⟩,
   Or.inl (Or.inl ⟨dd_219_9, rfl⟩),
   ⟨17, dd_219_10, rfl, rfl⟩,
   Or.inl ⟨0, rfl, dd_219_13, rfl⟩,
   ⟨73, "PairMachineModel", fT10, 45, dd_219_14, rfl, okc_10, by decide, tw_821⟩,
   Or.inl ⟨0, rfl, dd_219_17, rfl⟩,
   ⟨88, "PairMachineModel", fT10, 45, dd_219_18, rfl, okc_10, by decide, tw_826⟩,
   Or.inl (Or.inl ⟨dd_219_21, rfl⟩),
   ⟨dd_219_22, rfl⟩,
   ⟨dd_219_23, rfl⟩,
   ⟨4, dd_219_24, rfl⟩,
   Or.inl (Or.inl ⟨dd_219_27, rfl⟩),
   ⟨dd_219_28, rfl⟩, trivial⟩
theorem okM_219 : mj_okE gG 219 (cM_219, 1, oM_219, hM_219) := ⟨rfl, rfl, by decide +kernel, trivial, okI_219⟩
end
