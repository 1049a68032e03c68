section
theorem dd_212_0 : decode prog_13_method_58_code 0 = .ok (.aload_n 0, 1) := by decide +kernel
theorem dd_212_1 : decode prog_13_method_58_code 1 = .ok (.iload_n 1, 1) := by decide +kernel
theorem dd_212_2 : decode prog_13_method_58_code 2 = .ok (.ifCond .lt 10, 3) := by decide +kernel
theorem dd_212_5 : decode prog_13_method_58_code 5 = .ok (.iload_n 1, 1) := by decide +kernel
theorem dd_212_6 : decode prog_13_method_58_code 6 = .ok (.sipush 200, 3) := by decide +kernel
theorem dd_212_9 : decode prog_13_method_58_code 9 = .ok (.if_icmp .le 7, 3) := by decide +kernel
theorem dd_212_12 : decode prog_13_method_58_code 12 = .ok (.iconst 1, 1) := by decide +kernel
theorem dd_212_13 : decode prog_13_method_58_code 13 = .ok (.goto 4, 3) := by decide +kernel
theorem dd_212_16 : decode prog_13_method_58_code 16 = .ok (.iconst 0, 1) := by decide +kernel
theorem dd_212_17 : decode prog_13_method_58_code 17 = .ok (.putfield 97, 3) := by decide +kernel
theorem dd_212_20 : decode prog_13_method_58_code 20 = .ok (.iconst 0, 1) := by decide +kernel
theorem dd_212_21 : decode prog_13_method_58_code 21 = .ok (.istore_n 2, 1) := by decide +kernel
theorem dd_212_22 : decode prog_13_method_58_code 22 = .ok (.aload_n 0, 1) := by decide +kernel
theorem dd_212_23 : decode prog_13_method_58_code 23 = .ok (.getfield 97, 3) := by decide +kernel
theorem dd_212_26 : decode prog_13_method_58_code 26 = .ok (.ifCond .ne 36, 3) := by decide +kernel
theorem dd_212_29 : decode prog_13_method_58_code 29 = .ok (.iload_n 2, 1) := by decide +kernel
theorem dd_212_30 : decode prog_13_method_58_code 30 = .ok (.iload_n 1, 1) := by decide +kernel
theorem dd_212_31 : decode prog_13_method_58_code 31 = .ok (.if_icmp .ge 31, 3) := by decide +kernel
theorem dd_212_34 : decode prog_13_method_58_code 34 = .ok (.aload_n 0, 1) := by decide +kernel
theorem dd_212_35 : decode prog_13_method_58_code 35 = .ok (.getfield 240, 3) := by decide +kernel
theorem dd_212_38 : decode prog_13_method_58_code 38 = .ok (.iconst 1, 1) := by decide +kernel
theorem dd_212_39 : decode prog_13_method_58_code 39 = .ok (.if_icmp .ne 23, 3) := by decide +kernel
theorem dd_212_42 : decode prog_13_method_58_code 42 = .ok (.aload_n 0, 1) := by decide +kernel
theorem dd_212_43 : decode prog_13_method_58_code 43 = .ok (.invokevirtual 313, 3) := by decide +kernel
theorem dd_212_46 : decode prog_13_method_58_code 46 = .ok (.aload_n 0, 1) := by decide +kernel
theorem dd_212_47 : decode prog_13_method_58_code 47 = .ok (.dup, 1) := by decide +kernel
theorem dd_212_48 : decode prog_13_method_58_code 48 = .ok (.getfield 249, 3) := by decide +kernel
theorem dd_212_51 : decode prog_13_method_58_code 51 = .ok (.iconst 1, 1) := by decide +kernel
theorem dd_212_52 : decode prog_13_method_58_code 52 = .ok (.iadd, 1) := by decide +kernel
theorem dd_212_53 : decode prog_13_method_58_code 53 = .ok (.putfield 249, 3) := by decide +kernel
theorem dd_212_56 : decode prog_13_method_58_code 56 = .ok (.iinc 2 1, 3) := by decide +kernel
theorem dd_212_59 : decode prog_13_method_58_code 59 = .ok (.goto (-37), 3) := by decide +kernel
theorem dd_212_62 : decode prog_13_method_58_code 62 = .ok (.iload_n 2, 1) := by decide +kernel
theorem dd_212_63 : decode prog_13_method_58_code 63 = .ok (.ireturn, 1) := by decide +kernel
set_option maxRecDepth 100000 in
theorem okI_212 : mj_okI gG "PairMachineModel" prog_13_method_58_code 3 (mj_off oM_212) (Option.some Jvm.ClassFile.FieldType.int) false true 0 cM_212 :=
  ⟨Or.inl ⟨0, rfl, dd_212_0, rfl⟩,
   Or.inl ⟨1, rfl, dd_212_1, rfl⟩,
   ⟨10, dd_212_2, rfl, rfl⟩,
   Or.inl ⟨1, rfl, dd_212_5, rfl⟩,
   Or.inl (Or.inr (Or.inr (Or.inl ⟨dd_212_6, rfl, by decide⟩))),
   ⟨7, dd_212_9, rfl, rfl⟩,
   Or.inl (Or.inl ⟨dd_212_12, rfl⟩),
   ⟨4, dd_212_13, rfl⟩,
   Or.inl (Or.inl ⟨dd_212_16, rfl⟩),
   ⟨97, "PairMachineModel", fT10, 45, dd_212_17, rfl, okc_10, by decide, tw_833, rfl, Or.inl rfl⟩,
   Or.inl (Or.inl ⟨dd_212_20, rfl⟩),
   ⟨by decide, Or.inl ⟨2, rfl, dd_212_21, rfl⟩⟩,
   Or.inl ⟨0, rfl, dd_212_22, rfl⟩,
   ⟨97, "PairMachineModel", fT10, 45, dd_212_23, rfl, okc_10, by decide, tw_833⟩,
   ⟨36, dd_212_26, rfl, rfl⟩,
   Or.inl ⟨2, rfl, dd_212_29, rfl⟩,
   Or.inl ⟨1, rfl, dd_212_30, rfl⟩,
   ⟨31, dd_212_31, rfl, rfl⟩,
   Or.inl ⟨0, rfl, dd_212_34, rfl⟩,
   ⟨240, "PairMachineModel", fT10, 45, dd_212_35, rfl, okc_10, by decide, tw_972⟩,
   Or.inl (Or.inl ⟨dd_212_38, rfl⟩),
   ⟨23, dd_212_39, rfl, rfl⟩,
   Or.inl ⟨0, rfl, dd_212_42, rfl⟩,
   ⟨rfl, tw_1049, by decide, tw_12, by decide +kernel, 313, tw_1050, dd_212_43, tw_1051, ⟨"PairMachineModel", fT10, 45, rfl, tw_1052⟩, by decide +kernel⟩,
   Or.inl ⟨0, rfl, dd_212_46, rfl⟩,
   ⟨dd_212_47, rfl⟩,
   ⟨249, "PairMachineModel", fT10, 45, dd_212_48, rfl, okc_10, by decide, tw_975⟩,
   Or.inl (Or.inl ⟨dd_212_51, rfl⟩),
   ⟨dd_212_52, rfl⟩,
   ⟨249, "PairMachineModel", fT10, 45, dd_212_53, rfl, okc_10, by decide, tw_975, rfl, Or.inl rfl⟩,
   ⟨by decide, dd_212_56, rfl⟩,
   ⟨(-37), dd_212_59, rfl⟩,
   Or.inl ⟨2, rfl, dd_212_62, rfl⟩,
   ⟨dd_212_63, rfl⟩, trivial⟩
theorem okM_212 : mj_okE gG 212 (cM_212, 3, oM_212, hM_212) := ⟨rfl, rfl, by decide +kernel, trivial, okI_212⟩
theorem dd_213_0 : decode prog_13_method_59_code 0 = .ok (.aload_n 0, 1) := by decide +kernel
theorem dd_213_1 : decode prog_13_method_59_code 1 = .ok (.getfield 316, 3) := by decide +kernel
theorem dd_213_4 : decode prog_13_method_59_code 4 = .ok (.bipush 120, 2) := by decide +kernel
theorem dd_213_6 : decode prog_13_method_59_code 6 = .ok (.if_icmp .ge 24, 3) := by decide +kernel
theorem dd_213_9 : decode prog_13_method_59_code 9 = .ok (.aload_n 0, 1) := by decide +kernel
theorem dd_213_10 : decode prog_13_method_59_code 10 = .ok (.getfield 91, 3) := by decide +kernel
theorem dd_213_13 : decode prog_13_method_59_code 13 = .ok (.aload_n 0, 1) := by decide +kernel
theorem dd_213_14 : decode prog_13_method_59_code 14 = .ok (.getfield 316, 3) := by decide +kernel
theorem dd_213_17 : decode prog_13_method_59_code 17 = .ok (.iload_n 1, 1) := by decide +kernel
theorem dd_213_18 : decode prog_13_method_59_code 18 = .ok (.i2c, 1) := by decide +kernel
theorem dd_213_19 : decode prog_13_method_59_code 19 = .ok (.castore, 1) := by decide +kernel
theorem dd_213_20 : decode prog_13_method_59_code 20 = .ok (.aload_n 0, 1) := by decide +kernel
theorem dd_213_21 : decode prog_13_method_59_code 21 = .ok (.dup, 1) := by decide +kernel
theorem dd_213_22 : decode prog_13_method_59_code 22 = .ok (.getfield 316, 3) := by decide +kernel
theorem dd_213_25 : decode prog_13_method_59_code 25 = .ok (.iconst 1, 1) := by decide +kernel
theorem dd_213_26 : decode prog_13_method_59_code 26 = .ok (.iadd, 1) := by decide +kernel
theorem dd_213_27 : decode prog_13_method_59_code 27 = .ok (.putfield 316, 3) := by decide +kernel
theorem dd_213_30 : decode prog_13_method_59_code 30 = .ok (.return_, 1) := by decide +kernel
set_option maxRecDepth 100000 in
theorem okI_213 : mj_okI gG "PairMachineModel" prog_13_method_59_code 2 (mj_off oM_213) (Option.none : Option Jvm.ClassFile.FieldType) false true 0 cM_213 :=
  ⟨Or.inl ⟨0, rfl, dd_213_0, rfl⟩,
   ⟨316, "PairMachineModel", fT10, 45, dd_213_1, rfl, okc_10, by decide, tw_1053⟩,
   Or.inl (Or.inr (Or.inl ⟨dd_213_4, rfl, by decide⟩)),
   ⟨24, dd_213_6, rfl, rfl⟩,
   Or.inl ⟨0, rfl, dd_213_9, rfl⟩,
   ⟨91, "PairMachineModel", fT10, 45, dd_213_10, rfl, okc_10, by decide, tw_831⟩,
   Or.inl ⟨0, rfl, dd_213_13, rfl⟩,
   ⟨316, "PairMachineModel", fT10, 45, dd_213_14, rfl, okc_10, by decide, tw_1053⟩,
   Or.inl ⟨1, rfl, dd_213_17, rfl⟩,
   ⟨dd_213_18, rfl⟩,
   ⟨dd_213_19, rfl⟩,
   Or.inl ⟨0, rfl, dd_213_20, rfl⟩,
   ⟨dd_213_21, rfl⟩,
   ⟨316, "PairMachineModel", fT10, 45, dd_213_22, rfl, okc_10, by decide, tw_1053⟩,
   Or.inl (Or.inl ⟨dd_213_25, rfl⟩),
   ⟨dd_213_26, rfl⟩,
   ⟨316, "PairMachineModel", fT10, 45, dd_213_27, rfl, okc_10, by decide, tw_1053, rfl, Or.inl rfl⟩,
   ⟨dd_213_30, rfl⟩, trivial⟩
theorem okM_213 : mj_okE gG 213 (cM_213, 2, oM_213, hM_213) := ⟨rfl, rfl, by decide +kernel, trivial, okI_213⟩
theorem dd_214_0 : decode prog_13_method_60_code 0 = .ok (.iload_n 1, 1) := by decide +kernel
theorem dd_214_1 : decode prog_13_method_60_code 1 = .ok (.ifCond .ge 9, 3) := by decide +kernel
theorem dd_214_4 : decode prog_13_method_60_code 4 = .ok (.iload_n 1, 1) := by decide +kernel
theorem dd_214_5 : decode prog_13_method_60_code 5 = .ok (.i2l, 1) := by decide +kernel
theorem dd_214_6 : decode prog_13_method_60_code 6 = .ok (.lneg, 1) := by decide +kernel
theorem dd_214_7 : decode prog_13_method_60_code 7 = .ok (.goto 5, 3) := by decide +kernel
theorem dd_214_10 : decode prog_13_method_60_code 10 = .ok (.iload_n 1, 1) := by decide +kernel
theorem dd_214_11 : decode prog_13_method_60_code 11 = .ok (.i2l, 1) := by decide +kernel
theorem dd_214_12 : decode prog_13_method_60_code 12 = .ok (.lstore_n 2, 1) := by decide +kernel
theorem dd_214_13 : decode prog_13_method_60_code 13 = .ok (.iload_n 1, 1) := by decide +kernel
theorem dd_214_14 : decode prog_13_method_60_code 14 = .ok (.ifCond .ge 9, 3) := by decide +kernel
theorem dd_214_17 : decode prog_13_method_60_code 17 = .ok (.aload_n 0, 1) := by decide +kernel
theorem dd_214_18 : decode prog_13_method_60_code 18 = .ok (.bipush 45, 2) := by decide +kernel
theorem dd_214_20 : decode prog_13_method_60_code 20 = .ok (.invokevirtual 319, 3) := by decide +kernel
theorem dd_214_23 : decode prog_13_method_60_code 23 = .ok (.lconst 1, 1) := by decide +kernel
theorem dd_214_24 : decode prog_13_method_60_code 24 = .ok (.lstore 4, 2) := by decide +kernel
theorem dd_214_26 : decode prog_13_method_60_code 26 = .ok (.lload_n 2, 1) := by decide +kernel
theorem dd_214_27 : decode prog_13_method_60_code 27 = .ok (.lload 4, 2) := by decide +kernel
theorem dd_214_29 : decode prog_13_method_60_code 29 = .ok (.ldiv, 1) := by decide +kernel
theorem dd_214_30 : decode prog_13_method_60_code 30 = .ok (.ldc2_w 322, 3) := by decide +kernel
theorem dd_214_33 : decode prog_13_method_60_code 33 = .ok (.lcmp, 1) := by decide +kernel
theorem dd_214_34 : decode prog_13_method_60_code 34 = .ok (.ifCond .le 14, 3) := by decide +kernel
theorem dd_214_37 : decode prog_13_method_60_code 37 = .ok (.lload 4, 2) := by decide +kernel
theorem dd_214_39 : decode prog_13_method_60_code 39 = .ok (.ldc2_w 324, 3) := by decide +kernel
theorem dd_214_42 : decode prog_13_method_60_code 42 = .ok (.lmul, 1) := by decide +kernel
theorem dd_214_43 : decode prog_13_method_60_code 43 = .ok (.lstore 4, 2) := by decide +kernel
theorem dd_214_45 : decode prog_13_method_60_code 45 = .ok (.goto (-19), 3) := by decide +kernel
theorem dd_214_48 : decode prog_13_method_60_code 48 = .ok (.lload 4, 2) := by decide +kernel
theorem dd_214_50 : decode prog_13_method_60_code 50 = .ok (.lconst 0, 1) := by decide +kernel
theorem dd_214_51 : decode prog_13_method_60_code 51 = .ok (.lcmp, 1) := by decide +kernel
theorem dd_214_52 : decode prog_13_method_60_code 52 = .ok (.ifCond .le 30, 3) := by decide +kernel
theorem dd_214_55 : decode prog_13_method_60_code 55 = .ok (.aload_n 0, 1) := by decide +kernel
theorem dd_214_56 : decode prog_13_method_60_code 56 = .ok (.bipush 48, 2) := by decide +kernel
theorem dd_214_58 : decode prog_13_method_60_code 58 = .ok (.lload_n 2, 1) := by decide +kernel
theorem dd_214_59 : decode prog_13_method_60_code 59 = .ok (.lload 4, 2) := by decide +kernel
theorem dd_214_61 : decode prog_13_method_60_code 61 = .ok (.ldiv, 1) := by decide +kernel
theorem dd_214_62 : decode prog_13_method_60_code 62 = .ok (.ldc2_w 324, 3) := by decide +kernel
theorem dd_214_65 : decode prog_13_method_60_code 65 = .ok (.lrem, 1) := by decide +kernel
theorem dd_214_66 : decode prog_13_method_60_code 66 = .ok (.l2i, 1) := by decide +kernel
theorem dd_214_67 : decode prog_13_method_60_code 67 = .ok (.iadd, 1) := by decide +kernel
theorem dd_214_68 : decode prog_13_method_60_code 68 = .ok (.invokevirtual 319, 3) := by decide +kernel
theorem dd_214_71 : decode prog_13_method_60_code 71 = .ok (.lload 4, 2) := by decide +kernel
theorem dd_214_73 : decode prog_13_method_60_code 73 = .ok (.ldc2_w 324, 3) := by decide +kernel
theorem dd_214_76 : decode prog_13_method_60_code 76 = .ok (.ldiv, 1) := by decide +kernel
theorem dd_214_77 : decode prog_13_method_60_code 77 = .ok (.lstore 4, 2) := by decide +kernel
theorem dd_214_79 : decode prog_13_method_60_code 79 = .ok (.goto (-31), 3) := by decide +kernel
theorem dd_214_82 : decode prog_13_method_60_code 82 = .ok (.return_, 1) := by decide +kernel
set_option maxRecDepth 100000 in
theorem okI_214 : mj_okI gG "PairMachineModel" prog_13_method_60_code 6 (mj_off oM_214) (Option.none : Option Jvm.ClassFile.FieldType) false true 0 cM_214 :=
  ⟨Or.inl ⟨1, rfl, dd_214_0, rfl⟩,
   ⟨9, dd_214_1, rfl, rfl⟩,
   Or.inl ⟨1, rfl, dd_214_4, rfl⟩,
   ⟨dd_214_5, rfl⟩,
   ⟨dd_214_6, rfl⟩,
   ⟨5, dd_214_7, rfl⟩,
   Or.inl ⟨1, rfl, dd_214_10, rfl⟩,
   ⟨dd_214_11, rfl⟩,
   ⟨by decide, Or.inl ⟨2, rfl, dd_214_12, rfl⟩⟩,
   Or.inl ⟨1, rfl, dd_214_13, rfl⟩,
   ⟨9, dd_214_14, rfl, rfl⟩,
   Or.inl ⟨0, rfl, dd_214_17, rfl⟩,
   Or.inl (Or.inr (Or.inl ⟨dd_214_18, rfl, by decide⟩)),
   ⟨rfl, tw_1054, by decide, tw_12, by decide +kernel, 319, tw_1055, dd_214_20, tw_1056, ⟨"PairMachineModel", fT10, 45, rfl, tw_1057⟩, by decide +kernel⟩,
   Or.inl ⟨1, rfl, dd_214_23, rfl⟩,
   ⟨by decide, Or.inr ⟨dd_214_24, rfl⟩⟩,
   Or.inl ⟨2, rfl, dd_214_26, rfl⟩,
   Or.inr ⟨dd_214_27, rfl⟩,
   ⟨dd_214_29, rfl⟩,
   Or.inr ⟨322, dd_214_30, rfl, tw_1058⟩,
   ⟨dd_214_33, rfl⟩,
   ⟨14, dd_214_34, rfl, rfl⟩,
   Or.inr ⟨dd_214_37, rfl⟩,
   Or.inr ⟨324, dd_214_39, rfl, tw_1059⟩,
   ⟨dd_214_42, rfl⟩,
   ⟨by decide, Or.inr ⟨dd_214_43, rfl⟩⟩,
   ⟨(-19), dd_214_45, rfl⟩,
   Or.inr ⟨dd_214_48, rfl⟩,
   Or.inl ⟨0, rfl, dd_214_50, rfl⟩,
   ⟨dd_214_51, rfl⟩,
   ⟨30, dd_214_52, rfl, rfl⟩,
   Or.inl ⟨0, rfl, dd_214_55, rfl⟩,
   Or.inl (Or.inr (Or.inl ⟨dd_214_56, rfl, by decide⟩)),
   Or.inl ⟨2, rfl, dd_214_58, rfl⟩,
   Or.inr ⟨dd_214_59, rfl⟩,
   ⟨dd_214_61, rfl⟩,
   Or.inr ⟨324, dd_214_62, rfl, tw_1059⟩,
   ⟨dd_214_65, rfl⟩,
   ⟨dd_214_66, rfl⟩,
   ⟨dd_214_67, rfl⟩,
   ⟨rfl, tw_1054, by decide, tw_12, by decide +kernel, 319, tw_1055, dd_214_68, tw_1056, ⟨"PairMachineModel", fT10, 45, rfl, tw_1057⟩, by decide +kernel⟩,
   Or.inr ⟨dd_214_71, rfl⟩,
   Or.inr ⟨324, dd_214_73, rfl, tw_1059⟩,
   ⟨dd_214_76, rfl⟩,
   ⟨by decide, Or.inr ⟨dd_214_77, rfl⟩⟩,
   ⟨(-31), dd_214_79, rfl⟩,
   ⟨dd_214_82, rfl⟩, trivial⟩
theorem okM_214 : mj_okE gG 214 (cM_214, 6, oM_214, hM_214) := ⟨rfl, rfl, by decide +kernel, trivial, okI_214⟩
theorem dd_215_0 : decode prog_13_method_61_code 0 = .ok (.iload_n 1, 1) := by decide +kernel
theorem dd_215_1 : decode prog_13_method_61_code 1 = .ok (.iconst 3, 1) := by decide +kernel
theorem dd_215_2 : decode prog_13_method_61_code 2 = .ok (.if_icmp .ne 39, 3) := by decide +kernel
theorem dd_215_5 : decode prog_13_method_61_code 5 = .ok (.aload_n 0, 1) := by decide +kernel
theorem dd_215_6 : decode prog_13_method_61_code 6 = .ok (.getfield 67, 3) := by decide +kernel
theorem dd_215_9 : decode prog_13_method_61_code 9 = .ok (.iload_n 2, 1) := by decide +kernel
theorem dd_215_10 : decode prog_13_method_61_code 10 = .ok (.baload, 1) := by decide +kernel
theorem dd_215_11 : decode prog_13_method_61_code 11 = .ok (.ifCond .ne 30, 3) := by decide +kernel
theorem dd_215_14 : decode prog_13_method_61_code 14 = .ok (.aload_n 0, 1) := by decide +kernel
theorem dd_215_15 : decode prog_13_method_61_code 15 = .ok (.bipush 40, 2) := by decide +kernel
theorem dd_215_17 : decode prog_13_method_61_code 17 = .ok (.invokevirtual 319, 3) := by decide +kernel
theorem dd_215_20 : decode prog_13_method_61_code 20 = .ok (.aload_n 0, 1) := by decide +kernel
theorem dd_215_21 : decode prog_13_method_61_code 21 = .ok (.getfield 85, 3) := by decide +kernel
theorem dd_215_24 : decode prog_13_method_61_code 24 = .ok (.aload_n 0, 1) := by decide +kernel
theorem dd_215_25 : decode prog_13_method_61_code 25 = .ok (.getfield 211, 3) := by decide +kernel
theorem dd_215_28 : decode prog_13_method_61_code 28 = .ok (.iload_n 2, 1) := by decide +kernel
theorem dd_215_29 : decode prog_13_method_61_code 29 = .ok (.iastore, 1) := by decide +kernel
theorem dd_215_30 : decode prog_13_method_61_code 30 = .ok (.aload_n 0, 1) := by decide +kernel
theorem dd_215_31 : decode prog_13_method_61_code 31 = .ok (.dup, 1) := by decide +kernel
theorem dd_215_32 : decode prog_13_method_61_code 32 = .ok (.getfield 211, 3) := by decide +kernel
theorem dd_215_35 : decode prog_13_method_61_code 35 = .ok (.iconst 1, 1) := by decide +kernel
theorem dd_215_36 : decode prog_13_method_61_code 36 = .ok (.iadd, 1) := by decide +kernel
theorem dd_215_37 : decode prog_13_method_61_code 37 = .ok (.putfield 211, 3) := by decide +kernel
theorem dd_215_40 : decode prog_13_method_61_code 40 = .ok (.return_, 1) := by decide +kernel
theorem dd_215_41 : decode prog_13_method_61_code 41 = .ok (.iload_n 1, 1) := by decide +kernel
theorem dd_215_42 : decode prog_13_method_61_code 42 = .ok (.iconst 1, 1) := by decide +kernel
theorem dd_215_43 : decode prog_13_method_61_code 43 = .ok (.if_icmp .ne 11, 3) := by decide +kernel
theorem dd_215_46 : decode prog_13_method_61_code 46 = .ok (.aload_n 0, 1) := by decide +kernel
theorem dd_215_47 : decode prog_13_method_61_code 47 = .ok (.iload_n 2, 1) := by decide +kernel
theorem dd_215_48 : decode prog_13_method_61_code 48 = .ok (.invokevirtual 326, 3) := by decide +kernel
theorem dd_215_51 : decode prog_13_method_61_code 51 = .ok (.goto 41, 3) := by decide +kernel
theorem dd_215_54 : decode prog_13_method_61_code 54 = .ok (.iload_n 1, 1) := by decide +kernel
theorem dd_215_55 : decode prog_13_method_61_code 55 = .ok (.iconst 2, 1) := by decide +kernel
theorem dd_215_56 : decode prog_13_method_61_code 56 = .ok (.if_icmp .ne 11, 3) := by decide +kernel
theorem dd_215_59 : decode prog_13_method_61_code 59 = .ok (.aload_n 0, 1) := by decide +kernel
theorem dd_215_60 : decode prog_13_method_61_code 60 = .ok (.iload_n 2, 1) := by decide +kernel
theorem dd_215_61 : decode prog_13_method_61_code 61 = .ok (.invokevirtual 319, 3) := by decide +kernel
theorem dd_215_64 : decode prog_13_method_61_code 64 = .ok (.goto 28, 3) := by decide +kernel
theorem dd_215_67 : decode prog_13_method_61_code 67 = .ok (.iload_n 1, 1) := by decide +kernel
theorem dd_215_68 : decode prog_13_method_61_code 68 = .ok (.ifCond .ne 18, 3) := by decide +kernel
theorem dd_215_71 : decode prog_13_method_61_code 71 = .ok (.aload_n 0, 1) := by decide +kernel
theorem dd_215_72 : decode prog_13_method_61_code 72 = .ok (.bipush 40, 2) := by decide +kernel
theorem dd_215_74 : decode prog_13_method_61_code 74 = .ok (.invokevirtual 319, 3) := by decide +kernel
theorem dd_215_77 : decode prog_13_method_61_code 77 = .ok (.aload_n 0, 1) := by decide +kernel
theorem dd_215_78 : decode prog_13_method_61_code 78 = .ok (.bipush 41, 2) := by decide +kernel
theorem dd_215_80 : decode prog_13_method_61_code 80 = .ok (.invokevirtual 319, 3) := by decide +kernel
theorem dd_215_83 : decode prog_13_method_61_code 83 = .ok (.goto 9, 3) := by decide +kernel
theorem dd_215_86 : decode prog_13_method_61_code 86 = .ok (.aload_n 0, 1) := by decide +kernel
theorem dd_215_87 : decode prog_13_method_61_code 87 = .ok (.bipush 35, 2) := by decide +kernel
theorem dd_215_89 : decode prog_13_method_61_code 89 = .ok (.invokevirtual 319, 3) := by decide +kernel
theorem dd_215_92 : decode prog_13_method_61_code 92 = .ok (.return_, 1) := by decide +kernel
set_option maxRecDepth 100000 in
theorem okI_215 : mj_okI gG "PairMachineModel" prog_13_method_61_code 3 (mj_off oM_215) (Option.none : Option Jvm.ClassFile.FieldType) false true 0 cM_215 :=
  ⟨Or.inl ⟨1, rfl, dd_215_0, rfl⟩,
   Or.inl (Or.inl ⟨dd_215_1, rfl⟩),
   ⟨39, dd_215_2, rfl, rfl⟩,
   Or.inl ⟨0, rfl, dd_215_5, rfl⟩,
   ⟨67, "PairMachineModel", fT10, 45, dd_215_6, rfl, okc_10, by decide, tw_823⟩,
   Or.inl ⟨2, rfl, dd_215_9, rfl⟩,
   ⟨dd_215_10, rfl⟩,
   ⟨30, dd_215_11, rfl, rfl⟩,
   Or.inl ⟨0, rfl, dd_215_14, rfl⟩,
   Or.inl (Or.inr (Or.inl ⟨dd_215_15, rfl, by decide⟩)),
   ⟨rfl, tw_1054, by decide, tw_12, by decide +kernel, 319, tw_1055, dd_215_17, tw_1056, ⟨"PairMachineModel", fT10, 45, rfl, tw_1057⟩, by decide +kernel⟩,
   Or.inl ⟨0, rfl, dd_215_20, rfl⟩,
   ⟨85, "PairMachineModel", fT10, 45, dd_215_21, rfl, okc_10, by decide, tw_829⟩,
   Or.inl ⟨0, rfl, dd_215_24, rfl⟩,
   ⟨211, "PairMachineModel", fT10, 45, dd_215_25, rfl, okc_10, by decide, tw_942⟩,
   Or.inl ⟨2, rfl, dd_215_28, rfl⟩,
   ⟨dd_215_29, rfl⟩,
   Or.inl ⟨0, rfl, dd_215_30, rfl⟩,
   ⟨dd_215_31, rfl⟩,
   ⟨211, "PairMachineModel", fT10, 45, dd_215_32, rfl, okc_10, by decide, tw_942⟩,
   Or.inl (Or.inl ⟨dd_215_35, rfl⟩),
   ⟨dd_215_36, rfl⟩,
   ⟨211, "PairMachineModel", fT10, 45, dd_215_37, rfl, okc_10, by decide, tw_942, rfl, Or.inl rfl⟩,
   ⟨dd_215_40, rfl⟩,
   Or.inl ⟨1, rfl, dd_215_41, rfl⟩,
   Or.inl (Or.inl ⟨dd_215_42, rfl⟩),
   ⟨11, dd_215_43, rfl, rfl⟩,
   Or.inl ⟨0, rfl, dd_215_46, rfl⟩,
   Or.inl ⟨2, rfl, dd_215_47, rfl⟩,
   ⟨rfl, tw_1060, by decide, tw_12, by decide +kernel, 326, tw_1061, dd_215_48, tw_1062, ⟨"PairMachineModel", fT10, 45, rfl, tw_1063⟩, by decide +kernel⟩,
   ⟨41, dd_215_51, rfl⟩,
   Or.inl ⟨1, rfl, dd_215_54, rfl⟩,
   Or.inl (Or.inl ⟨dd_215_55, rfl⟩),
   ⟨11, dd_215_56, rfl, rfl⟩,
   Or.inl ⟨0, rfl, dd_215_59, rfl⟩,
   Or.inl ⟨2, rfl, dd_215_60, rfl⟩,
   ⟨rfl, tw_1054, by decide, tw_12, by decide +kernel, 319, tw_1055, dd_215_61, tw_1056, ⟨"PairMachineModel", fT10, 45, rfl, tw_1057⟩, by decide +kernel⟩,
   ⟨28, dd_215_64, rfl⟩,
   Or.inl ⟨1, rfl, dd_215_67, rfl⟩,
   ⟨18, dd_215_68, rfl, rfl⟩,
   Or.inl ⟨0, rfl, dd_215_71, rfl⟩,
   Or.inl (Or.inr (Or.inl ⟨dd_215_72, rfl, by decide⟩)),
   ⟨rfl, tw_1054, by decide, tw_12, by decide +kernel, 319, tw_1055, dd_215_74, tw_1056, ⟨"PairMachineModel", fT10, 45, rfl, tw_1057⟩, by decide +kernel⟩,
   Or.inl ⟨0, rfl, dd_215_77, rfl⟩,
   Or.inl (Or.inr (Or.inl ⟨dd_215_78, rfl, by decide⟩)),
   ⟨rfl, tw_1054, by decide, tw_12, by decide +kernel, 319, tw_1055, dd_215_80, tw_1056, ⟨"PairMachineModel", fT10, 45, rfl, tw_1057⟩, by decide +kernel⟩,
   ⟨9, dd_215_83, rfl⟩,
   Or.inl ⟨0, rfl, dd_215_86, rfl⟩,
   Or.inl (Or.inr (Or.inl ⟨dd_215_87, rfl, by decide⟩)),
   ⟨rfl, tw_1054, by decide, tw_12, by decide +kernel, 319, tw_1055, dd_215_89, tw_1056, ⟨"PairMachineModel", fT10, 45, rfl, tw_1057⟩, by decide +kernel⟩,
   ⟨dd_215_92, rfl⟩, trivial⟩
theorem okM_215 : mj_okE gG 215 (cM_215, 3, oM_215, hM_215) := ⟨rfl, rfl, by decide +kernel, trivial, okI_215⟩
theorem dd_216_0 : decode prog_13_method_62_code 0 = .ok (.aload_n 0, 1) := by decide +kernel
theorem dd_216_1 : decode prog_13_method_62_code 1 = .ok (.iconst 0, 1) := by decide +kernel
theorem dd_216_2 : decode prog_13_method_62_code 2 = .ok (.putfield 316, 3) := by decide +kernel
theorem dd_216_5 : decode prog_13_method_62_code 5 = .ok (.aload_n 0, 1) := by decide +kernel
theorem dd_216_6 : decode prog_13_method_62_code 6 = .ok (.iconst 0, 1) := by decide +kernel
theorem dd_216_7 : decode prog_13_method_62_code 7 = .ok (.putfield 211, 3) := by decide +kernel
theorem dd_216_10 : decode prog_13_method_62_code 10 = .ok (.aload_n 0, 1) := by decide +kernel
theorem dd_216_11 : decode prog_13_method_62_code 11 = .ok (.iconst 0, 1) := by decide +kernel
theorem dd_216_12 : decode prog_13_method_62_code 12 = .ok (.invokevirtual 301, 3) := by decide +kernel
theorem dd_216_15 : decode prog_13_method_62_code 15 = .ok (.aload_n 0, 1) := by decide +kernel
theorem dd_216_16 : decode prog_13_method_62_code 16 = .ok (.aload_n 0, 1) := by decide +kernel
theorem dd_216_17 : decode prog_13_method_62_code 17 = .ok (.getfield 258, 3) := by decide +kernel
theorem dd_216_20 : decode prog_13_method_62_code 20 = .ok (.aload_n 0, 1) := by decide +kernel
theorem dd_216_21 : decode prog_13_method_62_code 21 = .ok (.getfield 261, 3) := by decide +kernel
theorem dd_216_24 : decode prog_13_method_62_code 24 = .ok (.invokevirtual 329, 3) := by decide +kernel
theorem dd_216_27 : decode prog_13_method_62_code 27 = .ok (.aload_n 0, 1) := by decide +kernel
theorem dd_216_28 : decode prog_13_method_62_code 28 = .ok (.getfield 211, 3) := by decide +kernel
theorem dd_216_31 : decode prog_13_method_62_code 31 = .ok (.ifCond .le 185, 3) := by decide +kernel
theorem dd_216_34 : decode prog_13_method_62_code 34 = .ok (.aload_n 0, 1) := by decide +kernel
theorem dd_216_35 : decode prog_13_method_62_code 35 = .ok (.getfield 316, 3) := by decide +kernel
theorem dd_216_38 : decode prog_13_method_62_code 38 = .ok (.bipush 120, 2) := by decide +kernel
theorem dd_216_40 : decode prog_13_method_62_code 40 = .ok (.if_icmp .ge 176, 3) := by decide +kernel
theorem dd_216_43 : decode prog_13_method_62_code 43 = .ok (.aload_n 0, 1) := by decide +kernel
theorem dd_216_44 : decode prog_13_method_62_code 44 = .ok (.getfield 85, 3) := by decide +kernel
theorem dd_216_47 : decode prog_13_method_62_code 47 = .ok (.aload_n 0, 1) := by decide +kernel
theorem dd_216_48 : decode prog_13_method_62_code 48 = .ok (.getfield 211, 3) := by decide +kernel
theorem dd_216_51 : decode prog_13_method_62_code 51 = .ok (.iconst 1, 1) := by decide +kernel
theorem dd_216_52 : decode prog_13_method_62_code 52 = .ok (.isub, 1) := by decide +kernel
theorem dd_216_53 : decode prog_13_method_62_code 53 = .ok (.iaload, 1) := by decide +kernel
theorem dd_216_54 : decode prog_13_method_62_code 54 = .ok (.istore_n 1, 1) := by decide +kernel
theorem dd_216_55 : decode prog_13_method_62_code 55 = .ok (.iload_n 1, 1) := by decide +kernel
theorem dd_216_56 : decode prog_13_method_62_code 56 = .ok (.ifCond .lt 36, 3) := by decide +kernel
theorem dd_216_59 : decode prog_13_method_62_code 59 = .ok (.aload_n 0, 1) := by decide +kernel
theorem dd_216_60 : decode prog_13_method_62_code 60 = .ok (.getfield 85, 3) := by decide +kernel
theorem dd_216_63 : decode prog_13_method_62_code 63 = .ok (.aload_n 0, 1) := by decide +kernel
theorem dd_216_64 : decode prog_13_method_62_code 64 = .ok (.getfield 211, 3) := by decide +kernel
theorem dd_216_67 : decode prog_13_method_62_code 67 = .ok (.iconst 1, 1) := by decide +kernel
theorem dd_216_68 : decode prog_13_method_62_code 68 = .ok (.isub, 1) := by decide +kernel
theorem dd_216_69 : decode prog_13_method_62_code 69 = .ok (.iconst (-1), 1) := by decide +kernel
theorem dd_216_70 : decode prog_13_method_62_code 70 = .ok (.iload_n 1, 1) := by decide +kernel
theorem dd_216_71 : decode prog_13_method_62_code 71 = .ok (.isub, 1) := by decide +kernel
theorem dd_216_72 : decode prog_13_method_62_code 72 = .ok (.iastore, 1) := by decide +kernel
theorem dd_216_73 : decode prog_13_method_62_code 73 = .ok (.aload_n 0, 1) := by decide +kernel
theorem dd_216_74 : decode prog_13_method_62_code 74 = .ok (.aload_n 0, 1) := by decide +kernel
theorem dd_216_75 : decode prog_13_method_62_code 75 = .ok (.getfield 70, 3) := by decide +kernel
theorem dd_216_78 : decode prog_13_method_62_code 78 = .ok (.iload_n 1, 1) := by decide +kernel
theorem dd_216_79 : decode prog_13_method_62_code 79 = .ok (.iaload, 1) := by decide +kernel
theorem dd_216_80 : decode prog_13_method_62_code 80 = .ok (.aload_n 0, 1) := by decide +kernel
theorem dd_216_81 : decode prog_13_method_62_code 81 = .ok (.getfield 73, 3) := by decide +kernel
theorem dd_216_84 : decode prog_13_method_62_code 84 = .ok (.iload_n 1, 1) := by decide +kernel
theorem dd_216_85 : decode prog_13_method_62_code 85 = .ok (.iaload, 1) := by decide +kernel
theorem dd_216_86 : decode prog_13_method_62_code 86 = .ok (.invokevirtual 329, 3) := by decide +kernel
theorem dd_216_89 : decode prog_13_method_62_code 89 = .ok (.goto 124, 3) := by decide +kernel
theorem dd_216_92 : decode prog_13_method_62_code 92 = .ok (.iconst (-1), 1) := by decide +kernel
theorem dd_216_93 : decode prog_13_method_62_code 93 = .ok (.iload_n 1, 1) := by decide +kernel
theorem dd_216_94 : decode prog_13_method_62_code 94 = .ok (.isub, 1) := by decide +kernel
theorem dd_216_95 : decode prog_13_method_62_code 95 = .ok (.istore_n 2, 1) := by decide +kernel
theorem dd_216_96 : decode prog_13_method_62_code 96 = .ok (.aload_n 0, 1) := by decide +kernel
theorem dd_216_97 : decode prog_13_method_62_code 97 = .ok (.dup, 1) := by decide +kernel
theorem dd_216_98 : decode prog_13_method_62_code 98 = .ok (.getfield 211, 3) := by decide +kernel
theorem dd_216_101 : decode prog_13_method_62_code 101 = .ok (.iconst 1, 1) := by decide +kernel
theorem dd_216_102 : decode prog_13_method_62_code 102 = .ok (.isub, 1) := by decide +kernel
theorem dd_216_103 : decode prog_13_method_62_code 103 = .ok (.putfield 211, 3) := by decide +kernel
theorem dd_216_106 : decode prog_13_method_62_code 106 = .ok (.aload_n 0, 1) := by decide +kernel
theorem dd_216_107 : decode prog_13_method_62_code 107 = .ok (.getfield 76, 3) := by decide +kernel
theorem dd_216_110 : decode prog_13_method_62_code 110 = .ok (.iload_n 2, 1) := by decide +kernel
theorem dd_216_111 : decode prog_13_method_62_code 111 = .ok (.iaload, 1) := by decide +kernel
theorem dd_216_112 : decode prog_13_method_62_code 112 = .ok (.iconst 3, 1) := by decide +kernel
theorem dd_216_113 : decode prog_13_method_62_code 113 = .ok (.if_icmp .ne 51, 3) := by decide +kernel
theorem dd_216_116 : decode prog_13_method_62_code 116 = .ok (.aload_n 0, 1) := by decide +kernel
theorem dd_216_117 : decode prog_13_method_62_code 117 = .ok (.getfield 67, 3) := by decide +kernel
theorem dd_216_120 : decode prog_13_method_62_code 120 = .ok (.aload_n 0, 1) := by decide +kernel
theorem dd_216_121 : decode prog_13_method_62_code 121 = .ok (.getfield 79, 3) := by decide +kernel
theorem dd_216_124 : decode prog_13_method_62_code 124 = .ok (.iload_n 2, 1) := by decide +kernel
theorem dd_216_125 : decode prog_13_method_62_code 125 = .ok (.iaload, 1) := by decide +kernel
theorem dd_216_126 : decode prog_13_method_62_code 126 = .ok (.baload, 1) := by decide +kernel
theorem dd_216_127 : decode prog_13_method_62_code 127 = .ok (.ifCond .ne 37, 3) := by decide +kernel
theorem dd_216_130 : decode prog_13_method_62_code 130 = .ok (.aload_n 0, 1) := by decide +kernel
theorem dd_216_131 : decode prog_13_method_62_code 131 = .ok (.bipush 32, 2) := by decide +kernel
theorem dd_216_133 : decode prog_13_method_62_code 133 = .ok (.invokevirtual 319, 3) := by decide +kernel
theorem dd_216_136 : decode prog_13_method_62_code 136 = .ok (.aload_n 0, 1) := by decide +kernel
theorem dd_216_137 : decode prog_13_method_62_code 137 = .ok (.getfield 85, 3) := by decide +kernel
theorem dd_216_140 : decode prog_13_method_62_code 140 = .ok (.aload_n 0, 1) := by decide +kernel
theorem dd_216_141 : decode prog_13_method_62_code 141 = .ok (.getfield 211, 3) := by decide +kernel
theorem dd_216_144 : decode prog_13_method_62_code 144 = .ok (.aload_n 0, 1) := by decide +kernel
theorem dd_216_145 : decode prog_13_method_62_code 145 = .ok (.getfield 79, 3) := by decide +kernel
theorem dd_216_148 : decode prog_13_method_62_code 148 = .ok (.iload_n 2, 1) := by decide +kernel
theorem dd_216_149 : decode prog_13_method_62_code 149 = .ok (.iaload, 1) := by decide +kernel
theorem dd_216_150 : decode prog_13_method_62_code 150 = .ok (.iastore, 1) := by decide +kernel
theorem dd_216_151 : decode prog_13_method_62_code 151 = .ok (.aload_n 0, 1) := by decide +kernel
theorem dd_216_152 : decode prog_13_method_62_code 152 = .ok (.dup, 1) := by decide +kernel
theorem dd_216_153 : decode prog_13_method_62_code 153 = .ok (.getfield 211, 3) := by decide +kernel
theorem dd_216_156 : decode prog_13_method_62_code 156 = .ok (.iconst 1, 1) := by decide +kernel
theorem dd_216_157 : decode prog_13_method_62_code 157 = .ok (.iadd, 1) := by decide +kernel
theorem dd_216_158 : decode prog_13_method_62_code 158 = .ok (.putfield 211, 3) := by decide +kernel
theorem dd_216_161 : decode prog_13_method_62_code 161 = .ok (.goto 52, 3) := by decide +kernel
theorem dd_216_164 : decode prog_13_method_62_code 164 = .ok (.aload_n 0, 1) := by decide +kernel
theorem dd_216_165 : decode prog_13_method_62_code 165 = .ok (.getfield 76, 3) := by decide +kernel
theorem dd_216_168 : decode prog_13_method_62_code 168 = .ok (.iload_n 2, 1) := by decide +kernel
theorem dd_216_169 : decode prog_13_method_62_code 169 = .ok (.iaload, 1) := by decide +kernel
theorem dd_216_170 : decode prog_13_method_62_code 170 = .ok (.ifCond .eq 37, 3) := by decide +kernel
theorem dd_216_173 : decode prog_13_method_62_code 173 = .ok (.aload_n 0, 1) := by decide +kernel
theorem dd_216_174 : decode prog_13_method_62_code 174 = .ok (.bipush 32, 2) := by decide +kernel
theorem dd_216_176 : decode prog_13_method_62_code 176 = .ok (.invokevirtual 319, 3) := by decide +kernel
theorem dd_216_179 : decode prog_13_method_62_code 179 = .ok (.aload_n 0, 1) := by decide +kernel
theorem dd_216_180 : decode prog_13_method_62_code 180 = .ok (.bipush 46, 2) := by decide +kernel
theorem dd_216_182 : decode prog_13_method_62_code 182 = .ok (.invokevirtual 319, 3) := by decide +kernel
theorem dd_216_185 : decode prog_13_method_62_code 185 = .ok (.aload_n 0, 1) := by decide +kernel
theorem dd_216_186 : decode prog_13_method_62_code 186 = .ok (.bipush 32, 2) := by decide +kernel
theorem dd_216_188 : decode prog_13_method_62_code 188 = .ok (.invokevirtual 319, 3) := by decide +kernel
theorem dd_216_191 : decode prog_13_method_62_code 191 = .ok (.aload_n 0, 1) := by decide +kernel
theorem dd_216_192 : decode prog_13_method_62_code 192 = .ok (.aload_n 0, 1) := by decide +kernel
theorem dd_216_193 : decode prog_13_method_62_code 193 = .ok (.getfield 76, 3) := by decide +kernel
theorem dd_216_196 : decode prog_13_method_62_code 196 = .ok (.iload_n 2, 1) := by decide +kernel
theorem dd_216_197 : decode prog_13_method_62_code 197 = .ok (.iaload, 1) := by decide +kernel
theorem dd_216_198 : decode prog_13_method_62_code 198 = .ok (.aload_n 0, 1) := by decide +kernel
theorem dd_216_199 : decode prog_13_method_62_code 199 = .ok (.getfield 79, 3) := by decide +kernel
theorem dd_216_202 : decode prog_13_method_62_code 202 = .ok (.iload_n 2, 1) := by decide +kernel
theorem dd_216_203 : decode prog_13_method_62_code 203 = .ok (.iaload, 1) := by decide +kernel
theorem dd_216_204 : decode prog_13_method_62_code 204 = .ok (.invokevirtual 329, 3) := by decide +kernel
theorem dd_216_207 : decode prog_13_method_62_code 207 = .ok (.aload_n 0, 1) := by decide +kernel
theorem dd_216_208 : decode prog_13_method_62_code 208 = .ok (.bipush 41, 2) := by decide +kernel
theorem dd_216_210 : decode prog_13_method_62_code 210 = .ok (.invokevirtual 319, 3) := by decide +kernel
theorem dd_216_213 : decode prog_13_method_62_code 213 = .ok (.goto (-186), 3) := by decide +kernel
theorem dd_216_216 : decode prog_13_method_62_code 216 = .ok (.return_, 1) := by decide +kernel
set_option maxRecDepth 100000 in
theorem okI_216 : mj_okI gG "PairMachineModel" prog_13_method_62_code 3 (mj_off oM_216) (Option.none : Option Jvm.ClassFile.FieldType) false true 0 cM_216 :=
  ⟨Or.inl ⟨0, rfl, dd_216_0, rfl⟩,
   Or.inl (Or.inl ⟨dd_216_1, rfl⟩),
   ⟨316, "PairMachineModel", fT10, 45, dd_216_2, rfl, okc_10, by decide, tw_1053, rfl, Or.inl rfl⟩,
   Or.inl ⟨0, rfl, dd_216_5, rfl⟩,
   Or.inl (Or.inl ⟨dd_216_6, rfl⟩),
   ⟨211, "PairMachineModel", fT10, 45, dd_216_7, rfl, okc_10, by decide, tw_942, rfl, Or.inl rfl⟩,
   Or.inl ⟨0, rfl, dd_216_10, rfl⟩,
   Or.inl (Or.inl ⟨dd_216_11, rfl⟩),
   ⟨rfl, tw_1033, by decide, tw_12, by decide +kernel, 301, tw_1034, dd_216_12, tw_1035, ⟨"PairMachineModel", fT10, 45, rfl, tw_1036⟩, by decide +kernel⟩,
   Or.inl ⟨0, rfl, dd_216_15, rfl⟩,
   Or.inl ⟨0, rfl, dd_216_16, rfl⟩,
   ⟨258, "PairMachineModel", fT10, 45, dd_216_17, rfl, okc_10, by decide, tw_984⟩,
   Or.inl ⟨0, rfl, dd_216_20, rfl⟩,
   ⟨261, "PairMachineModel", fT10, 45, dd_216_21, rfl, okc_10, by decide, tw_985⟩,
   ⟨rfl, tw_1064, by decide, tw_12, by decide +kernel, 329, tw_1065, dd_216_24, tw_1066, ⟨"PairMachineModel", fT10, 45, rfl, tw_1067⟩, by decide +kernel⟩,
   Or.inl ⟨0, rfl, dd_216_27, rfl⟩,
   ⟨211, "PairMachineModel", fT10, 45, dd_216_28, rfl, okc_10, by decide, tw_942⟩,
   ⟨185, dd_216_31, rfl, rfl⟩,
   Or.inl ⟨0, rfl, dd_216_34, rfl⟩,
   ⟨316, "PairMachineModel", fT10, 45, dd_216_35, rfl, okc_10, by decide, tw_1053⟩,
   Or.inl (Or.inr (Or.inl ⟨dd_216_38, rfl, by decide⟩)),
   ⟨176, dd_216_40, rfl, rfl⟩,
   Or.inl ⟨0, rfl, dd_216_43, rfl⟩,
   ⟨85, "PairMachineModel", fT10, 45, dd_216_44, rfl, okc_10, by decide, tw_829⟩,
   Or.inl ⟨0, rfl, dd_216_47, rfl⟩,
   ⟨211, "PairMachineModel", fT10, 45, dd_216_48, rfl, okc_10, by decide, tw_942⟩,
   Or.inl (Or.inl ⟨dd_216_51, rfl⟩),
   ⟨dd_216_52, rfl⟩,
   ⟨dd_216_53, rfl⟩,
   ⟨by decide, Or.inl ⟨1, rfl, dd_216_54, rfl⟩⟩,
   Or.inl ⟨1, rfl, dd_216_55, rfl⟩,
   ⟨36, dd_216_56, rfl, rfl⟩,
   Or.inl ⟨0, rfl, dd_216_59, rfl⟩,
   ⟨85, "PairMachineModel", fT10, 45, dd_216_60, rfl, okc_10, by decide, tw_829⟩,
   Or.inl ⟨0, rfl, dd_216_63, rfl⟩,
   ⟨211, "PairMachineModel", fT10, 45, dd_216_64, rfl, okc_10, by decide, tw_942⟩,
   Or.inl (Or.inl ⟨dd_216_67, rfl⟩),
   ⟨dd_216_68, rfl⟩,
   Or.inl (Or.inl ⟨dd_216_69, rfl⟩),
   Or.inl ⟨1, rfl, dd_216_70, rfl⟩,
   ⟨dd_216_71, rfl⟩,
   ⟨dd_216_72, rfl⟩,
   Or.inl ⟨0, rfl, dd_216_73, rfl⟩,
   Or.inl ⟨0, rfl, dd_216_74, rfl⟩,
   ⟨70, "PairMachineModel", fT10, 45, dd_216_75, rfl, okc_10, by decide, tw_824⟩,
   Or.inl ⟨1, rfl, dd_216_78, rfl⟩,
   ⟨dd_216_79, rfl⟩,
   Or.inl ⟨0, rfl, dd_216_80, rfl⟩,
   ⟨73, "PairMachineModel", fT10, 45, dd_216_81, rfl, okc_10, by decide, tw_825⟩,
   Or.inl ⟨1, rfl, dd_216_84, rfl⟩,
   ⟨dd_216_85, rfl⟩,
   ⟨rfl, tw_1064, by decide, tw_12, by decide +kernel, 329, tw_1065, dd_216_86, tw_1066, ⟨"PairMachineModel", fT10, 45, rfl, tw_1067⟩, by decide +kernel⟩,
   ⟨124, dd_216_89, rfl⟩,
   Or.inl (Or.inl ⟨dd_216_92, rfl⟩),
   Or.inl ⟨1, rfl, dd_216_93, rfl⟩,
   ⟨dd_216_94, rfl⟩,
   ⟨by decide, Or.inl ⟨2, rfl, dd_216_95, rfl⟩⟩,
   Or.inl ⟨0, rfl, dd_216_96, rfl⟩,
   ⟨dd_216_97, rfl⟩,
   ⟨211, "PairMachineModel", fT10, 45, dd_216_98, rfl, okc_10, by decide, tw_942⟩,
   Or.inl (Or.inl ⟨dd_216_101, rfl⟩),
   ⟨dd_216_102, rfl⟩,
   ⟨211, "PairMachineModel", fT10, 45, dd_216_103, rfl, okc_10, by decide, tw_942, rfl, Or.inl rfl⟩,
   Or.inl ⟨0, rfl, dd_216_106, rfl⟩,
   ⟨76, "PairMachineModel", fT10, 45, dd_216_107, rfl, okc_10, by decide, tw_826⟩,
   Or.inl ⟨2, rfl, dd_216_110, rfl⟩,
   ⟨dd_216_111, rfl⟩,
   Or.inl (Or.inl ⟨dd_216_112, rfl⟩),
   ⟨51, dd_216_113, rfl, rfl⟩,
   Or.inl ⟨0, rfl, dd_216_116, rfl⟩,
   ⟨67, "PairMachineModel", fT10, 45, dd_216_117, rfl, okc_10, by decide, tw_823⟩,
   Or.inl ⟨0, rfl, dd_216_120, rfl⟩,
   ⟨79, "PairMachineModel", fT10, 45, dd_216_121, rfl, okc_10, by decide, tw_827⟩,
   Or.inl ⟨2, rfl, dd_216_124, rfl⟩,
   ⟨dd_216_125, rfl⟩,
   ⟨dd_216_126, rfl⟩,
   ⟨37, dd_216_127, rfl, rfl⟩,
   Or.inl ⟨0, rfl, dd_216_130, rfl⟩,
   Or.inl (Or.inr (Or.inl ⟨dd_216_131, rfl, by decide⟩)),
   ⟨rfl, tw_1054, by decide, tw_12, by decide +kernel, 319, tw_1055, dd_216_133, tw_1056, ⟨"PairMachineModel", fT10, 45, rfl, tw_1057⟩, by decide +kernel⟩,
   Or.inl ⟨0, rfl, dd_216_136, rfl⟩,
   ⟨85, "PairMachineModel", fT10, 45, dd_216_137, rfl, okc_10, by decide, tw_829⟩,
   Or.inl ⟨0, rfl, dd_216_140, rfl⟩,
   ⟨211, "PairMachineModel", fT10, 45, dd_216_141, rfl, okc_10, by decide, tw_942⟩,
   Or.inl ⟨0, rfl, dd_216_144, rfl⟩,
   ⟨79, "PairMachineModel", fT10, 45, dd_216_145, rfl, okc_10, by decide, tw_827⟩,
   Or.inl ⟨2, rfl, dd_216_148, rfl⟩,
   ⟨dd_216_149, rfl⟩,
   ⟨dd_216_150, rfl⟩,
   Or.inl ⟨0, rfl, dd_216_151, rfl⟩,
   ⟨dd_216_152, rfl⟩,
   ⟨211, "PairMachineModel", fT10, 45, dd_216_153, rfl, okc_10, by decide, tw_942⟩,
   Or.inl (Or.inl ⟨dd_216_156, rfl⟩),
   ⟨dd_216_157, rfl⟩,
   ⟨211, "PairMachineModel", fT10, 45, dd_216_158, rfl, okc_10, by decide, tw_942, rfl, Or.inl rfl⟩,
   ⟨52, dd_216_161, rfl⟩,
   Or.inl ⟨0, rfl, dd_216_164, rfl⟩,
   ⟨76, "PairMachineModel", fT10, 45, dd_216_165, rfl, okc_10, by decide, tw_826⟩,
   Or.inl ⟨2, rfl, dd_216_168, rfl⟩,
   ⟨dd_216_169, rfl⟩,
   ⟨37, dd_216_170, rfl, rfl⟩,
   Or.inl ⟨0, rfl, dd_216_173, rfl⟩,
   Or.inl (Or.inr (Or.inl ⟨dd_216_174, rfl, by decide⟩)),
   ⟨rfl, tw_1054, by decide, tw_12, by decide +kernel, 319, tw_1055, dd_216_176, tw_1056, ⟨"PairMachineModel", fT10, 45, rfl, tw_1057⟩, by decide +kernel⟩,
   Or.inl ⟨0, rfl, dd_216_179, rfl⟩,
   Or.inl (Or.inr (Or.inl ⟨dd_216_180, rfl, by decide⟩)),
   ⟨rfl, tw_1054, by decide, tw_12, by decide +kernel, 319, tw_1055, dd_216_182, tw_1056, ⟨"PairMachineModel", fT10, 45, rfl, tw_1057⟩, by decide +kernel⟩,
   Or.inl ⟨0, rfl, dd_216_185, rfl⟩,
   Or.inl (Or.inr (Or.inl ⟨dd_216_186, rfl, by decide⟩)),
   ⟨rfl, tw_1054, by decide, tw_12, by decide +kernel, 319, tw_1055, dd_216_188, tw_1056, ⟨"PairMachineModel", fT10, 45, rfl, tw_1057⟩, by decide +kernel⟩,
   Or.inl ⟨0, rfl, dd_216_191, rfl⟩,
   Or.inl ⟨0, rfl, dd_216_192, rfl⟩,
   ⟨76, "PairMachineModel", fT10, 45, dd_216_193, rfl, okc_10, by decide, tw_826⟩,
   Or.inl ⟨2, rfl, dd_216_196, rfl⟩,
   ⟨dd_216_197, rfl⟩,
   Or.inl ⟨0, rfl, dd_216_198, rfl⟩,
   ⟨79, "PairMachineModel", fT10, 45, dd_216_199, rfl, okc_10, by decide, tw_827⟩,
   Or.inl ⟨2, rfl, dd_216_202, rfl⟩,
   ⟨dd_216_203, rfl⟩,
   ⟨rfl, tw_1064, by decide, tw_12, by decide +kernel, 329, tw_1065, dd_216_204, tw_1066, ⟨"PairMachineModel", fT10, 45, rfl, tw_1067⟩, by decide +kernel⟩,
   Or.inl ⟨0, rfl, dd_216_207, rfl⟩,
   Or.inl (Or.inr (Or.inl ⟨dd_216_208, rfl, by decide⟩)),
   ⟨rfl, tw_1054, by decide, tw_12, by decide +kernel, 319, tw_1055, dd_216_210, tw_1056, ⟨"PairMachineModel", fT10, 45, rfl, tw_1057⟩, by decide +kernel⟩,
   ⟨(-186), dd_216_213, rfl⟩,
   ⟨dd_216_216, rfl⟩, trivial⟩
theorem okM_216 : mj_okE gG 216 (cM_216, 3, oM_216, hM_216) := ⟨rfl, rfl, by decide +kernel, trivial, okI_216⟩
theorem dd_217_0 : decode prog_13_method_63_code 0 = .ok (.aload_n 0, 1) := by decide +kernel
theorem dd_217_1 : decode prog_13_method_63_code 1 = .ok (.iconst 0, 1) := by decide +kernel
theorem dd_217_2 : decode prog_13_method_63_code 2 = .ok (.putfield 97, 3) := by decide +kernel
theorem dd_217_5 : decode prog_13_method_63_code 5 = .ok (.aload_n 0, 1) := by decide +kernel
theorem dd_217_6 : decode prog_13_method_63_code 6 = .ok (.getfield 240, 3) := by decide +kernel
theorem dd_217_9 : decode prog_13_method_63_code 9 = .ok (.ireturn, 1) := by decide +kernel
set_option maxRecDepth 100000 in
theorem okI_217 : mj_okI gG "PairMachineModel" prog_13_method_63_code 1 (mj_off oM_217) (Option.some Jvm.ClassFile.FieldType.int) false true 0 cM_217 :=
  ⟨Or.inl ⟨0, rfl, dd_217_0, rfl⟩,
   Or.inl (Or.inl ⟨dd_217_1, rfl⟩),
   ⟨97, "PairMachineModel", fT10, 45, dd_217_2, rfl, okc_10, by decide, tw_833, rfl, Or.inl rfl⟩,
   Or.inl ⟨0, rfl, dd_217_5, rfl⟩,
   ⟨240, "PairMachineModel", fT10, 45, dd_217_6, rfl, okc_10, by decide, tw_972⟩,
   ⟨dd_217_9, rfl⟩, trivial⟩
theorem okM_217 : mj_okE gG 217 (cM_217, 1, oM_217, hM_217) := ⟨rfl, rfl, by decide +kernel, trivial, okI_217⟩
theorem dd_218_0 : decode prog_13_method_64_code 0 = .ok (.iconst 0, 1) := by decide +kernel
theorem dd_218_1 : decode prog_13_method_64_code 1 = .ok (.istore_n 2, 1) := by decide +kernel
theorem dd_218_2 : decode prog_13_method_64_code 2 = .ok (.iload_n 1, 1) := by decide +kernel
theorem dd_218_3 : decode prog_13_method_64_code 3 = .ok (.istore_n 3, 1) := by decide +kernel
theorem dd_218_4 : decode prog_13_method_64_code 4 = .ok (.iload_n 3, 1) := by decide +kernel
theorem dd_218_5 : decode prog_13_method_64_code 5 = .ok (.ifCond .lt 15, 3) := by decide +kernel
theorem dd_218_8 : decode prog_13_method_64_code 8 = .ok (.iinc 2 1, 3) := by decide +kernel
theorem dd_218_11 : decode prog_13_method_64_code 11 = .ok (.aload_n 0, 1) := by decide +kernel
theorem dd_218_12 : decode prog_13_method_64_code 12 = .ok (.iload_n 3, 1) := by decide +kernel
theorem dd_218_13 : decode prog_13_method_64_code 13 = .ok (.invokevirtual 255, 3) := by decide +kernel
theorem dd_218_16 : decode prog_13_method_64_code 16 = .ok (.istore_n 3, 1) := by decide +kernel
theorem dd_218_17 : decode prog_13_method_64_code 17 = .ok (.goto (-13), 3) := by decide +kernel
theorem dd_218_20 : decode prog_13_method_64_code 20 = .ok (.iload_n 2, 1) := by decide +kernel
theorem dd_218_21 : decode prog_13_method_64_code 21 = .ok (.ireturn, 1) := by decide +kernel
set_option maxRecDepth 100000 in
theorem okI_218 : mj_okI gG "PairMachineModel" prog_13_method_64_code 4 (mj_off oM_218) (Option.some Jvm.ClassFile.FieldType.int) false true 0 cM_218 :=
  ⟨Or.inl (Or.inl ⟨dd_218_0, rfl⟩),
   ⟨by decide, Or.inl ⟨2, rfl, dd_218_1, rfl⟩⟩,
   Or.inl ⟨1, rfl, dd_218_2, rfl⟩,
   ⟨by decide, Or.inl ⟨3, rfl, dd_218_3, rfl⟩⟩,
   Or.inl ⟨3, rfl, dd_218_4, rfl⟩,
   ⟨15, dd_218_5, rfl, rfl⟩,
   ⟨by decide, dd_218_8, rfl⟩,
   Or.inl ⟨0, rfl, dd_218_11, rfl⟩,
   Or.inl ⟨3, rfl, dd_218_12, rfl⟩,
   ⟨rfl, tw_980, by decide, tw_12, by decide +kernel, 255, tw_981, dd_218_13, tw_982, ⟨"PairMachineModel", fT10, 45, rfl, tw_983⟩, by decide +kernel⟩,
   ⟨by decide, Or.inl ⟨3, rfl, dd_218_16, rfl⟩⟩,
   ⟨(-13), dd_218_17, rfl⟩,
   Or.inl ⟨2, rfl, dd_218_20, rfl⟩,
   ⟨dd_218_21, rfl⟩, trivial⟩
theorem okM_218 : mj_okE gG 218 (cM_218, 4, oM_218, hM_218) := ⟨rfl, rfl, by decide +kernel, trivial, okI_218⟩
theorem dd_219_0 : decode prog_13_method_65_code 0 = .ok (.aload_n 0, 1) := by decide +kernel
theorem dd_219_1 : decode prog_13_method_65_code 1 = .ok (.iconst 0, 1) := by decide +kernel
theorem dd_219_2 : decode prog_13_method_65_code 2 = .ok (.putfield 97, 3) := by decide +kernel
theorem dd_219_5 : decode prog_13_method_65_code 5 = .ok (.iload_n 1, 1) := by decide +kernel
theorem dd_219_6 : decode prog_13_method_65_code 6 = .ok (.tableswitch 94 0 6 #[42, 52, 57, 62, 67, 72, 83], 42) := by decide +kernel
theorem dd_219_48 : decode prog_13_method_65_code 48 = .ok (.aload_n 0, 1) := by decide +kernel
theorem dd_219_49 : decode prog_13_method_65_code 49 = .ok (.getfield 94, 3) := by decide +kernel
theorem dd_219_52 : decode prog_13_method_65_code 52 = .ok (.aload_n 0, 1) := by decide +kernel
theorem dd_219_53 : decode prog_13_method_65_code 53 = .ok (.invokevirtual 264, 3) := by decide +kernel
theorem dd_219_56 : decode prog_13_method_65_code 56 = .ok (.isub, 1) := by decide +kernel
theorem dd_219_57 : decode prog_13_method_65_code 57 = .ok (.ireturn, 1) := by decide +kernel
theorem dd_219_58 : decode prog_13_method_65_code 58 = .ok (.aload_n 0, 1) := by decide +kernel
theorem dd_219_59 : decode prog_13_method_65_code 59 = .ok (.invokevirtual 220, 3) := by decide +kernel
theorem dd_219_62 : decode prog_13_method_65_code 62 = .ok (.ireturn, 1) := by decide +kernel
theorem dd_219_63 : decode prog_13_method_65_code 63 = .ok (.aload_n 0, 1) := by decide +kernel
theorem dd_219_64 : decode prog_13_method_65_code 64 = .ok (.getfield 243, 3) := by decide +kernel
theorem dd_219_67 : decode prog_13_method_65_code 67 = .ok (.ireturn, 1) := by decide +kernel
theorem dd_219_68 : decode prog_13_method_65_code 68 = .ok (.aload_n 0, 1) := by decide +kernel
theorem dd_219_69 : decode prog_13_method_65_code 69 = .ok (.getfield 246, 3) := by decide +kernel
theorem dd_219_72 : decode prog_13_method_65_code 72 = .ok (.ireturn, 1) := by decide +kernel
theorem dd_219_73 : decode prog_13_method_65_code 73 = .ok (.aload_n 0, 1) := by decide +kernel
theorem dd_219_74 : decode prog_13_method_65_code 74 = .ok (.getfield 249, 3) := by decide +kernel
theorem dd_219_77 : decode prog_13_method_65_code 77 = .ok (.ireturn, 1) := by decide +kernel
theorem dd_219_78 : decode prog_13_method_65_code 78 = .ok (.aload_n 0, 1) := by decide +kernel
theorem dd_219_79 : decode prog_13_method_65_code 79 = .ok (.aload_n 0, 1) := by decide +kernel
theorem dd_219_80 : decode prog_13_method_65_code 80 = .ok (.getfield 88, 3) := by decide +kernel
theorem dd_219_83 : decode prog_13_method_65_code 83 = .ok (.iconst 0, 1) := by decide +kernel
theorem dd_219_84 : decode prog_13_method_65_code 84 = .ok (.iaload, 1) := by decide +kernel
theorem dd_219_85 : decode prog_13_method_65_code 85 = .ok (.invokevirtual 332, 3) := by decide +kernel
theorem dd_219_88 : decode prog_13_method_65_code 88 = .ok (.ireturn, 1) := by decide +kernel
theorem dd_219_89 : decode prog_13_method_65_code 89 = .ok (.aload_n 0, 1) := by decide +kernel
theorem dd_219_90 : decode prog_13_method_65_code 90 = .ok (.aload_n 0, 1) := by decide +kernel
theorem dd_219_91 : decode prog_13_method_65_code 91 = .ok (.getfield 88, 3) := by decide +kernel
theorem dd_219_94 : decode prog_13_method_65_code 94 = .ok (.iconst 3, 1) := by decide +kernel
theorem dd_219_95 : decode prog_13_method_65_code 95 = .ok (.iaload, 1) := by decide +kernel
theorem dd_219_96 : decode prog_13_method_65_code 96 = .ok (.invokevirtual 332, 3) := by decide +kernel
theorem dd_219_99 : decode prog_13_method_65_code 99 = .ok (.ireturn, 1) := by decide +kernel
theorem dd_219_100 : decode prog_13_method_65_code 100 = .ok (.iconst (-1), 1) := by decide +kernel
theorem dd_219_101 : decode prog_13_method_65_code 101 = .ok (.ireturn, 1) := by decide +kernel
set_option maxRecDepth 100000 in
theorem okI_219 : mj_okI gG "PairMachineModel" prog_13_method_65_code 2 (mj_off oM_219) (Option.some Jvm.ClassFile.FieldType.int) false true 0 cM_219 :=
  ⟨Or.inl ⟨0, rfl, dd_219_0, rfl⟩,
   Or.inl (Or.inl ⟨dd_219_1, rfl⟩),
   ⟨97, "PairMachineModel", fT10, 45, dd_219_2, rfl, okc_10, by decide, tw_833, rfl, Or.inl rfl⟩,
   Or.inl ⟨1, rfl, dd_219_5, rfl⟩,
   Or.inr ⟨94, 0, #[42, 52, 57, 62, 67, 72, 83], 42, dd_219_6, rfl, rfl, (fun j hj => by
    match j, hj with
    | 0, _ => exact ⟨42, 5, rfl, rfl, by decide, rfl⟩
    | 1, _ => exact ⟨52, 11, rfl, rfl, by decide, rfl⟩
    | 2, _ => exact ⟨57, 14, rfl, rfl, by decide, rfl⟩
    | 3, _ => exact ⟨62, 17, rfl, rfl, by decide, rfl⟩
    | 4, _ => exact ⟨67, 20, rfl, rfl, by decide, rfl⟩
    | 5, _ => exact ⟨72, 23, rfl, rfl, by decide, rfl⟩
    | 6, _ => exact ⟨83, 30, rfl, rfl, by decide, rfl⟩
    | j + 7, h => exact absurd h (by simp))⟩,
   Or.inl ⟨0, rfl, dd_219_48, rfl⟩,
   ⟨94, "PairMachineModel", fT10, 45, dd_219_49, rfl, okc_10, by decide, tw_832⟩,
   Or.inl ⟨0, rfl, dd_219_52, rfl⟩,
   ⟨rfl, tw_986, by decide, tw_12, by decide +kernel, 264, tw_987, dd_219_53, tw_988, ⟨"PairMachineModel", fT10, 45, rfl, tw_989⟩, by decide +kernel⟩,
   ⟨dd_219_56, rfl⟩,
   ⟨dd_219_57, rfl⟩,
   Or.inl ⟨0, rfl, dd_219_58, rfl⟩,
   ⟨rfl, tw_951, by decide, tw_12, by decide +kernel, 220, tw_952, dd_219_59, tw_953, ⟨"PairMachineModel", fT10, 45, rfl, tw_954⟩, by decide +kernel⟩,
   ⟨dd_219_62, rfl⟩,
   Or.inl ⟨0, rfl, dd_219_63, rfl⟩,
   ⟨243, "PairMachineModel", fT10, 45, dd_219_64, rfl, okc_10, by decide, tw_973⟩,
   ⟨dd_219_67, rfl⟩,
   Or.inl ⟨0, rfl, dd_219_68, rfl⟩,
   ⟨246, "PairMachineModel", fT10, 45, dd_219_69, rfl, okc_10, by decide, tw_974⟩,
   ⟨dd_219_72, rfl⟩,
   Or.inl ⟨0, rfl, dd_219_73, rfl⟩,
   ⟨249, "PairMachineModel", fT10, 45, dd_219_74, rfl, okc_10, by decide, tw_975⟩,
   ⟨dd_219_77, rfl⟩,
   Or.inl ⟨0, rfl, dd_219_78, rfl⟩,
   Or.inl ⟨0, rfl, dd_219_79, rfl⟩,
   ⟨88, "PairMachineModel", fT10, 45, dd_219_80, rfl, okc_10, by decide, tw_830⟩,
   Or.inl (Or.inl ⟨dd_219_83, rfl⟩),
   ⟨dd_219_84, rfl⟩,
   ⟨rfl, tw_1068, by decide, tw_12, by decide +kernel, 332, tw_1069, dd_219_85, tw_1070, ⟨"PairMachineModel", fT10, 45, rfl, tw_1071⟩, by decide +kernel⟩,
   ⟨dd_219_88, rfl⟩,
   Or.inl ⟨0, rfl, dd_219_89, rfl⟩,
   Or.inl ⟨0, rfl, dd_219_90, rfl⟩,
   ⟨88, "PairMachineModel", fT10, 45, dd_219_91, rfl, okc_10, by decide, tw_830⟩,
   Or.inl (Or.inl ⟨dd_219_94, rfl⟩),
   ⟨dd_219_95, rfl⟩,
   ⟨rfl, tw_1068, by decide, tw_12, by decide +kernel, 332, tw_1069, dd_219_96, tw_1070, ⟨"PairMachineModel", fT10, 45, rfl, tw_1071⟩, by decide +kernel⟩,
   ⟨dd_219_99, rfl⟩,
   Or.inl (Or.inl ⟨dd_219_100, rfl⟩),
   ⟨dd_219_101, rfl⟩, trivial⟩
theorem okM_219 : mj_okE gG 219 (cM_219, 2, oM_219, hM_219) := ⟨rfl, rfl, by decide +kernel, trivial, okI_219⟩
theorem dd_220_0 : decode prog_13_method_66_code 0 = .ok (.aload_n 0, 1) := by decide +kernel
theorem dd_220_1 : decode prog_13_method_66_code 1 = .ok (.iconst 0, 1) := by decide +kernel
theorem dd_220_2 : decode prog_13_method_66_code 2 = .ok (.putfield 97, 3) := by decide +kernel
theorem dd_220_5 : decode prog_13_method_66_code 5 = .ok (.aload_n 0, 1) := by decide +kernel
theorem dd_220_6 : decode prog_13_method_66_code 6 = .ok (.getfield 240, 3) := by decide +kernel
theorem dd_220_9 : decode prog_13_method_66_code 9 = .ok (.iconst 1, 1) := by decide +kernel
theorem dd_220_10 : decode prog_13_method_66_code 10 = .ok (.if_icmp .ne 17, 3) := by decide +kernel
theorem dd_220_13 : decode prog_13_method_66_code 13 = .ok (.aload_n 0, 1) := by decide +kernel
theorem dd_220_14 : decode prog_13_method_66_code 14 = .ok (.getfield 73, 3) := by decide +kernel
theorem dd_220_17 : decode prog_13_method_66_code 17 = .ok (.aload_n 0, 1) := by decide +kernel
theorem dd_220_18 : decode prog_13_method_66_code 18 = .ok (.getfield 88, 3) := by decide +kernel
theorem dd_220_21 : decode prog_13_method_66_code 21 = .ok (.iconst 2, 1) := by decide +kernel
theorem dd_220_22 : decode prog_13_method_66_code 22 = .ok (.iaload, 1) := by decide +kernel
theorem dd_220_23 : decode prog_13_method_66_code 23 = .ok (.iaload, 1) := by decide +kernel
theorem dd_220_24 : decode prog_13_method_66_code 24 = .ok (.goto 4, 3) := by decide +kernel
theorem dd_220_27 : decode prog_13_method_66_code 27 = .ok (.iconst (-1), 1) := by decide +kernel
theorem dd_220_28 : decode prog_13_method_66_code 28 = .ok (.ireturn, 1) := by decide +kernel
set_option maxRecDepth 100000 in
theorem okI_220 : mj_okI gG "PairMachineModel" prog_13_method_66_code 1 (mj_off oM_220) (Option.some Jvm.ClassFile.FieldType.int) false true 0 cM_220 :=
  ⟨Or.inl ⟨0, rfl, dd_220_0, rfl⟩,
   Or.inl (Or.inl ⟨dd_220_1, rfl⟩),
   ⟨97, "PairMachineModel", fT10, 45, dd_220_2, rfl, okc_10, by decide, tw_833, rfl, Or.inl rfl⟩,
   Or.inl ⟨0, rfl, dd_220_5, rfl⟩,
   ⟨240, "PairMachineModel", fT10, 45, dd_220_6, rfl, okc_10, by decide, tw_972⟩,
   Or.inl (Or.inl ⟨dd_220_9, rfl⟩),
   ⟨17, dd_220_10, rfl, rfl⟩,
   Or.inl ⟨0, rfl, dd_220_13, rfl⟩,
   ⟨73, "PairMachineModel", fT10, 45, dd_220_14, rfl, okc_10, by decide, tw_825⟩,
   Or.inl ⟨0, rfl, dd_220_17, rfl⟩,
   ⟨88, "PairMachineModel", fT10, 45, dd_220_18, rfl, okc_10, by decide, tw_830⟩,
   Or.inl (Or.inl ⟨dd_220_21, rfl⟩),
   ⟨dd_220_22, rfl⟩,
   ⟨dd_220_23, rfl⟩,
   ⟨4, dd_220_24, rfl⟩,
   Or.inl (Or.inl ⟨dd_220_27, rfl⟩),
   ⟨dd_220_28, rfl⟩, trivial⟩
theorem okM_220 : mj_okE gG 220 (cM_220, 1, oM_220, hM_220) := ⟨rfl, rfl, by decide +kernel, trivial, okI_220⟩
end
