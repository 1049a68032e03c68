theorem dd_221_0 : decode prog_13_method_67_code 0 = .ok (.aload_n 0, 1) := by decide +kernel
theorem dd_221_1 : decode prog_13_method_67_code 1 = .ok (.iconst 0, 1) := by decide +kernel
theorem dd_221_2 : decode prog_13_method_67_code 2 = .ok (.putfield 97, 3) := by decide +kernel
theorem dd_221_5 : decode prog_13_method_67_code 5 = .ok (.aload_n 0, 1) := by decide +kernel
theorem dd_221_6 : decode prog_13_method_67_code 6 = .ok (.getfield 240, 3) := by decide +kernel
theorem dd_221_9 : decode prog_13_method_67_code 9 = .ok (.iconst 2, 1) := by decide +kernel
theorem dd_221_10 : decode prog_13_method_67_code 10 = .ok (.if_icmp .ne 24, 3) := by decide +kernel
theorem dd_221_13 : decode prog_13_method_67_code 13 = .ok (.iload_n 1, 1) := by decide +kernel
theorem dd_221_14 : decode prog_13_method_67_code 14 = .ok (.ifCond .lt 20, 3) := by decide +kernel
theorem dd_221_17 : decode prog_13_method_67_code 17 = .ok (.iload_n 1, 1) := by decide +kernel
theorem dd_221_18 : decode prog_13_method_67_code 18 = .ok (.aload_n 0, 1) := by decide +kernel
theorem dd_221_19 : decode prog_13_method_67_code 19 = .ok (.getfield 316, 3) := by decide +kernel
theorem dd_221_22 : decode prog_13_method_67_code 22 = .ok (.if_icmp .ge 12, 3) := by decide +kernel
theorem dd_221_25 : decode prog_13_method_67_code 25 = .ok (.aload_n 0, 1) := by decide +kernel
theorem dd_221_26 : decode prog_13_method_67_code 26 = .ok (.getfield 91, 3) := by decide +kernel
theorem dd_221_29 : decode prog_13_method_67_code 29 = .ok (.iload_n 1, 1) := by decide +kernel
theorem dd_221_30 : decode prog_13_method_67_code 30 = .ok (.caload, 1) := by decide +kernel
theorem dd_221_31 : decode prog_13_method_67_code 31 = .ok (.goto 4, 3) := by decide +kernel
theorem dd_221_34 : decode prog_13_method_67_code 34 = .ok (.iconst (-1), 1) := by decide +kernel
theorem dd_221_35 : decode prog_13_method_67_code 35 = .ok (.ireturn, 1) := by decide +kernel
set_option maxRecDepth 100000 in
theorem okI_221 : mj_okI gG "PairMachineModel" prog_13_method_67_code 2 (mj_off oM_221) (Option.some Jvm.ClassFile.FieldType.int) false true 0 cM_221 :=
  ⟨Or.inl ⟨0, rfl, dd_221_0, rfl⟩,
   Or.inl (Or.inl ⟨dd_221_1, rfl⟩),
   ⟨97, "PairMachineModel", fT10, 45, dd_221_2, rfl, okc_10, by decide, tw_804, rfl, Or.inl rfl⟩,
   Or.inl ⟨0, rfl, dd_221_5, rfl⟩,
   ⟨240, "PairMachineModel", fT10, 45, dd_221_6, rfl, okc_10, by decide, tw_943⟩,
   Or.inl (Or.inl ⟨dd_221_9, rfl⟩),
   ⟨24, dd_221_10, rfl, rfl⟩,
   Or.inl ⟨1, rfl, dd_221_13, rfl⟩,
   ⟨20, dd_221_14, rfl, rfl⟩,
   Or.inl ⟨1, rfl, dd_221_17, rfl⟩,
   Or.inl ⟨0, rfl, dd_221_18, rfl⟩,
   ⟨316, "PairMachineModel", fT10, 45, dd_221_19, rfl, okc_10, by decide, tw_1024⟩,
   ⟨12, dd_221_22, rfl, rfl⟩,
   Or.inl ⟨0, rfl, dd_221_25, rfl⟩,
   ⟨91, "PairMachineModel", fT10, 45, dd_221_26, rfl, okc_10, by decide, tw_802⟩,
   Or.inl ⟨1, rfl, dd_221_29, rfl⟩,
   ⟨dd_221_30, rfl⟩,
   ⟨4, dd_221_31, rfl⟩,
   Or.inl (Or.inl ⟨dd_221_34, rfl⟩),
   ⟨dd_221_35, rfl⟩, trivial⟩
theorem okM_221 : mj_okE gG 221 (cM_221, 2, oM_221, hM_221) := ⟨rfl, rfl, by decide +kernel, trivial, okI_221⟩
theorem dd_222_0 : decode prog_24_method_1_code 0 = .ok (.aload_n 0, 1) := by decide +kernel
theorem dd_222_1 : decode prog_24_method_1_code 1 = .ok (.bipush 16, 2) := by decide +kernel
theorem dd_222_3 : decode prog_24_method_1_code 3 = .ok (.invokespecial 1, 3) := by decide +kernel
theorem dd_222_6 : decode prog_24_method_1_code 6 = .ok (.return_, 1) := by decide +kernel
set_option maxRecDepth 100000 in
theorem okI_222 : mj_okI gG "java/lang/StringBuilder" prog_24_method_1_code 1 (mj_off oM_222) (Option.none : Option Jvm.ClassFile.FieldType) true true 0 cM_222 :=
  ⟨Or.inl ⟨0, rfl, dd_222_0, rfl⟩,
   Or.inl (Or.inr (Or.inl ⟨dd_222_1, rfl, by decide⟩)),
   ⟨rfl, tw_1043, by decide, tw_1044, by decide +kernel, 1, tw_1045, dd_222_3, tw_1046, rfl, rfl, rfl, by decide +kernel⟩,
   ⟨dd_222_6, rfl⟩, trivial⟩
theorem okM_222 : mj_okE gG 222 (cM_222, 1, oM_222, hM_222) := ⟨rfl, rfl, by decide +kernel, trivial, okI_222⟩
theorem dd_223_0 : decode prog_14_method_2_code 0 = .ok (.aload_n 0, 1) := by decide +kernel
theorem dd_223_1 : decode prog_14_method_2_code 1 = .ok (.invokespecial 3, 3) := by decide +kernel
theorem dd_223_4 : decode prog_14_method_2_code 4 = .ok (.getstatic 18, 3) := by decide +kernel
theorem dd_223_7 : decode prog_14_method_2_code 7 = .ok (.ifCond .eq 18, 3) := by decide +kernel
theorem dd_223_10 : decode prog_14_method_2_code 10 = .ok (.aload_n 0, 1) := by decide +kernel
theorem dd_223_11 : decode prog_14_method_2_code 11 = .ok (.iload_n 1, 1) := by decide +kernel
theorem dd_223_12 : decode prog_14_method_2_code 12 = .ok (.newarray .byte, 2) := by decide +kernel
theorem dd_223_14 : decode prog_14_method_2_code 14 = .ok (.putfield 15, 3) := by decide +kernel
theorem dd_223_17 : decode prog_14_method_2_code 17 = .ok (.aload_n 0, 1) := by decide +kernel
theorem dd_223_18 : decode prog_14_method_2_code 18 = .ok (.iconst 0, 1) := by decide +kernel
theorem dd_223_19 : decode prog_14_method_2_code 19 = .ok (.putfield 22, 3) := by decide +kernel
theorem dd_223_22 : decode prog_14_method_2_code 22 = .ok (.goto 16, 3) := by decide +kernel
theorem dd_223_25 : decode prog_14_method_2_code 25 = .ok (.aload_n 0, 1) := by decide +kernel
theorem dd_223_26 : decode prog_14_method_2_code 26 = .ok (.iload_n 1, 1) := by decide +kernel
theorem dd_223_30 : decode prog_14_method_2_code 30 = .ok (.putfield 15, 3) := by decide +kernel
theorem dd_223_33 : decode prog_14_method_2_code 33 = .ok (.aload_n 0, 1) := by decide +kernel
theorem dd_223_34 : decode prog_14_method_2_code 34 = .ok (.iconst 1, 1) := by decide +kernel
theorem dd_223_35 : decode prog_14_method_2_code 35 = .ok (.putfield 22, 3) := by decide +kernel
theorem dd_223_38 : decode prog_14_method_2_code 38 = .ok (.return_, 1) := by decide +kernel
set_option maxRecDepth 100000 in
theorem okI_223 : mj_okI gG "java/lang/AbstractStringBuilder" prog_14_method_2_code 2 (mj_off oM_223) (Option.none : Option Jvm.ClassFile.FieldType) true true 0 cM_223 :=
  ⟨Or.inl ⟨0, rfl, dd_223_0, rfl⟩,
   ⟨3, dd_223_1, rfl, tw_1047, tw_101, tw_102⟩,
   Or.inr ⟨18, "java/lang/String", "COMPACT_STRINGS", "Z", dd_223_4, rfl, by decide, tw_1048⟩,
   ⟨18, dd_223_7, rfl, rfl⟩,
   Or.inl ⟨0, rfl, dd_223_10, rfl⟩,
   Or.inl ⟨1, rfl, dd_223_11, rfl⟩,
   ⟨dd_223_12, rfl, tw_1049⟩,
   ⟨15, "java/lang/StringBuilder", fT9, 4, dd_223_14, rfl, okc_9, by decide, tw_1050, Or.inr ⟨_, rfl⟩, Or.inl rfl⟩,
   Or.inl ⟨0, rfl, dd_223_17, rfl⟩,
   Or.inl (Or.inl ⟨dd_223_18, rfl⟩),
   ⟨22, "java/lang/StringBuilder", fT9, 4, dd_223_19, rfl, okc_9, by decide, tw_1051, Or.inr rfl, Or.inl rfl⟩,
   ⟨16, dd_223_22, rfl⟩,
   Or.inl ⟨0, rfl, dd_223_25, rfl⟩,
   Or.inl ⟨1, rfl, dd_223_26, rfl⟩,
   trivial,
   ⟨15, "java/lang/StringBuilder", fT9, 4, dd_223_30, rfl, okc_9, by decide, tw_1050, Or.inr ⟨_, rfl⟩, Or.inl rfl⟩,
   Or.inl ⟨0, rfl, dd_223_33, rfl⟩,
   Or.inl (Or.inl ⟨dd_223_34, rfl⟩),
   ⟨22, "java/lang/StringBuilder", fT9, 4, dd_223_35, rfl, okc_9, by decide, tw_1051, Or.inr rfl, Or.inl rfl⟩,
   ⟨dd_223_38, rfl⟩, trivial⟩
theorem okM_223 : mj_okE gG 223 (cM_223, 2, oM_223, hM_223) := ⟨rfl, rfl, by decide +kernel, trivial, okI_223⟩
