theorem dd_51_0 : decode prog_7_method_18_code 0 = .ok (.new 32, 3) := by decide +kernel
theorem dd_51_3 : decode prog_7_method_18_code 3 = .ok (.dup, 1) := by decide +kernel
theorem dd_51_4 : decode prog_7_method_18_code 4 = .ok (.ldc 125, 2) := by decide +kernel
theorem dd_51_6 : decode prog_7_method_18_code 6 = .ok (.invokespecial 127, 3) := by decide +kernel
theorem dd_51_9 : decode prog_7_method_18_code 9 = .ok (.athrow, 1) := by decide +kernel
set_option maxRecDepth 100000 in
theorem okI_51 : mj_okI gG "PairMachine$Reader" prog_7_method_18_code 0 (mj_off oM_51) (Option.none : Option Jvm.ClassFile.FieldType) false true 0 cM_51 :=
  ⟨⟨rfl, 32, 125, 127, "no program goes on like this", dd_51_0, dd_51_3, dd_51_4, dd_51_6, dd_51_9, by decide +kernel, by decide +kernel, by decide +kernel, by decide +kernel, by decide +kernel, by decide +kernel, by decide +kernel, by decide +kernel⟩, trivial⟩
theorem okM_51 : mj_okE gG 51 (cM_51, 0, oM_51, hM_51) := ⟨rfl, rfl, by decide +kernel, trivial, okI_51⟩
theorem dd_52_0 : decode prog_7_method_19_code 0 = .ok (.iload_n 0, 1) := by decide +kernel
theorem dd_52_1 : decode prog_7_method_19_code 1 = .ok (.bipush 97, 2) := by decide +kernel
theorem dd_52_3 : decode prog_7_method_19_code 3 = .ok (.if_icmp .lt 13, 3) := by decide +kernel
theorem dd_52_6 : decode prog_7_method_19_code 6 = .ok (.iload_n 0, 1) := by decide +kernel
theorem dd_52_7 : decode prog_7_method_19_code 7 = .ok (.bipush 122, 2) := by decide +kernel
theorem dd_52_9 : decode prog_7_method_19_code 9 = .ok (.if_icmp .gt 7, 3) := by decide +kernel
theorem dd_52_12 : decode prog_7_method_19_code 12 = .ok (.iconst 1, 1) := by decide +kernel
theorem dd_52_13 : decode prog_7_method_19_code 13 = .ok (.goto 4, 3) := by decide +kernel
theorem dd_52_16 : decode prog_7_method_19_code 16 = .ok (.iconst 0, 1) := by decide +kernel
theorem dd_52_17 : decode prog_7_method_19_code 17 = .ok (.ireturn, 1) := by decide +kernel
set_option maxRecDepth 100000 in
theorem okI_52 : mj_okI gG "PairMachine$Reader" prog_7_method_19_code 1 (mj_off oM_52) (Option.some Jvm.ClassFile.FieldType.boolean) false true 0 cM_52 :=
  ⟨Or.inl ⟨0, rfl, dd_52_0, rfl⟩,
   Or.inl (Or.inr (Or.inl ⟨dd_52_1, rfl, by decide⟩)),
   ⟨13, dd_52_3, rfl, rfl⟩,
   Or.inl ⟨0, rfl, dd_52_6, rfl⟩,
   Or.inl (Or.inr (Or.inl ⟨dd_52_7, rfl, by decide⟩)),
   ⟨7, dd_52_9, rfl, rfl⟩,
   Or.inl (Or.inl ⟨dd_52_12, rfl⟩),
   ⟨4, dd_52_13, rfl⟩,
   Or.inl (Or.inl ⟨dd_52_16, rfl⟩),
   ⟨dd_52_17, rfl⟩, trivial⟩
theorem okM_52 : mj_okE gG 52 (cM_52, 1, oM_52, hM_52) := ⟨rfl, rfl, by decide +kernel, trivial, okI_52⟩
theorem dd_53_0 : decode prog_7_method_20_code 0 = .ok (.iload_n 0, 1) := by decide +kernel
theorem dd_53_1 : decode prog_7_method_20_code 1 = .ok (.bipush 48, 2) := by decide +kernel
theorem dd_53_3 : decode prog_7_method_20_code 3 = .ok (.if_icmp .lt 13, 3) := by decide +kernel
theorem dd_53_6 : decode prog_7_method_20_code 6 = .ok (.iload_n 0, 1) := by decide +kernel
theorem dd_53_7 : decode prog_7_method_20_code 7 = .ok (.bipush 57, 2) := by decide +kernel
theorem dd_53_9 : decode prog_7_method_20_code 9 = .ok (.if_icmp .gt 7, 3) := by decide +kernel
theorem dd_53_12 : decode prog_7_method_20_code 12 = .ok (.iconst 1, 1) := by decide +kernel
theorem dd_53_13 : decode prog_7_method_20_code 13 = .ok (.goto 4, 3) := by decide +kernel
theorem dd_53_16 : decode prog_7_method_20_code 16 = .ok (.iconst 0, 1) := by decide +kernel
theorem dd_53_17 : decode prog_7_method_20_code 17 = .ok (.ireturn, 1) := by decide +kernel
set_option maxRecDepth 100000 in
theorem okI_53 : mj_okI gG "PairMachine$Reader" prog_7_method_20_code 1 (mj_off oM_53) (Option.some Jvm.ClassFile.FieldType.boolean) false true 0 cM_53 :=
  ⟨Or.inl ⟨0, rfl, dd_53_0, rfl⟩,
   Or.inl (Or.inr (Or.inl ⟨dd_53_1, rfl, by decide⟩)),
   ⟨13, dd_53_3, rfl, rfl⟩,
   Or.inl ⟨0, rfl, dd_53_6, rfl⟩,
   Or.inl (Or.inr (Or.inl ⟨dd_53_7, rfl, by decide⟩)),
   ⟨7, dd_53_9, rfl, rfl⟩,
   Or.inl (Or.inl ⟨dd_53_12, rfl⟩),
   ⟨4, dd_53_13, rfl⟩,
   Or.inl (Or.inl ⟨dd_53_16, rfl⟩),
   ⟨dd_53_17, rfl⟩, trivial⟩
theorem okM_53 : mj_okE gG 53 (cM_53, 1, oM_53, hM_53) := ⟨rfl, rfl, by decide +kernel, trivial, okI_53⟩
theorem dd_54_0 : decode prog_2_method_1_code 0 = .ok (.aload_n 0, 1) := by decide +kernel
theorem dd_54_1 : decode prog_2_method_1_code 1 = .ok (.invokespecial 3, 3) := by decide +kernel
theorem dd_54_4 : decode prog_2_method_1_code 4 = .ok (.aload_n 0, 1) := by decide +kernel
theorem dd_54_5 : decode prog_2_method_1_code 5 = .ok (.iload_n 1, 1) := by decide +kernel
theorem dd_54_6 : decode prog_2_method_1_code 6 = .ok (.newarray .long, 2) := by decide +kernel
theorem dd_54_8 : decode prog_2_method_1_code 8 = .ok (.putfield 9, 3) := by decide +kernel
theorem dd_54_11 : decode prog_2_method_1_code 11 = .ok (.aload_n 0, 1) := by decide +kernel
theorem dd_54_12 : decode prog_2_method_1_code 12 = .ok (.iload_n 1, 1) := by decide +kernel
theorem dd_54_13 : decode prog_2_method_1_code 13 = .ok (.newarray .long, 2) := by decide +kernel
theorem dd_54_15 : decode prog_2_method_1_code 15 = .ok (.putfield 15, 3) := by decide +kernel
theorem dd_54_18 : decode prog_2_method_1_code 18 = .ok (.return_, 1) := by decide +kernel
set_option maxRecDepth 100000 in
theorem okI_54 : mj_okI gG "PairMachine$Code" prog_2_method_1_code 2 (mj_off oM_54) (Option.none : Option Jvm.ClassFile.FieldType) true true 0 cM_54 :=
  ⟨Or.inl ⟨0, rfl, dd_54_0, rfl⟩,
   ⟨3, dd_54_1, rfl, tw_369, tw_101, tw_102⟩,
   Or.inl ⟨0, rfl, dd_54_4, rfl⟩,
   Or.inl ⟨1, rfl, dd_54_5, rfl⟩,
   ⟨dd_54_6, rfl, tw_16⟩,
   ⟨9, "PairMachine$Code", fT4, 5, dd_54_8, rfl, okc_4, by decide, tw_370, Or.inr ⟨_, rfl⟩, Or.inr ⟨rfl, by decide, rfl⟩⟩,
   Or.inl ⟨0, rfl, dd_54_11, rfl⟩,
   Or.inl ⟨1, rfl, dd_54_12, rfl⟩,
   ⟨dd_54_13, rfl, tw_16⟩,
   ⟨15, "PairMachine$Code", fT4, 5, dd_54_15, rfl, okc_4, by decide, tw_371, Or.inr ⟨_, rfl⟩, Or.inr ⟨rfl, by decide, rfl⟩⟩,
   ⟨dd_54_18, rfl⟩, trivial⟩
theorem okM_54 : mj_okE gG 54 (cM_54, 2, oM_54, hM_54) := ⟨rfl, rfl, by decide +kernel, trivial, okI_54⟩
theorem dd_55_0 : decode prog_2_method_2_code 0 = .ok (.aload_n 0, 1) := by decide +kernel
theorem dd_55_1 : decode prog_2_method_2_code 1 = .ok (.iconst 0, 1) := by decide +kernel
theorem dd_55_2 : decode prog_2_method_2_code 2 = .ok (.putfield 18, 3) := by decide +kernel
theorem dd_55_5 : decode prog_2_method_2_code 5 = .ok (.aload_n 0, 1) := by decide +kernel
theorem dd_55_6 : decode prog_2_method_2_code 6 = .ok (.iconst (-1), 1) := by decide +kernel
theorem dd_55_7 : decode prog_2_method_2_code 7 = .ok (.putfield 22, 3) := by decide +kernel
theorem dd_55_10 : decode prog_2_method_2_code 10 = .ok (.aload_n 0, 1) := by decide +kernel
theorem dd_55_11 : decode prog_2_method_2_code 11 = .ok (.iconst 0, 1) := by decide +kernel
theorem dd_55_12 : decode prog_2_method_2_code 12 = .ok (.putfield 25, 3) := by decide +kernel
theorem dd_55_15 : decode prog_2_method_2_code 15 = .ok (.return_, 1) := by decide +kernel
set_option maxRecDepth 100000 in
theorem okI_55 : mj_okI gG "PairMachine$Code" prog_2_method_2_code 1 (mj_off oM_55) (Option.none : Option Jvm.ClassFile.FieldType) false true 0 cM_55 :=
  ⟨Or.inl ⟨0, rfl, dd_55_0, rfl⟩,
   Or.inl (Or.inl ⟨dd_55_1, rfl⟩),
   ⟨18, "PairMachine$Code", fT4, 5, dd_55_2, rfl, okc_4, by decide, tw_372, rfl, Or.inl rfl⟩,
   Or.inl ⟨0, rfl, dd_55_5, rfl⟩,
   Or.inl (Or.inl ⟨dd_55_6, rfl⟩),
   ⟨22, "PairMachine$Code", fT4, 5, dd_55_7, rfl, okc_4, by decide, tw_373, rfl, Or.inl rfl⟩,
   Or.inl ⟨0, rfl, dd_55_10, rfl⟩,
   Or.inl (Or.inl ⟨dd_55_11, rfl⟩),
   ⟨25, "PairMachine$Code", fT4, 5, dd_55_12, rfl, okc_4, by decide, tw_374, Or.inl rfl, Or.inl rfl⟩,
   ⟨dd_55_15, rfl⟩, trivial⟩
theorem okM_55 : mj_okE gG 55 (cM_55, 1, oM_55, hM_55) := ⟨rfl, rfl, by decide +kernel, trivial, okI_55⟩
theorem dd_56_0 : decode prog_2_method_3_code 0 = .ok (.aload_n 0, 1) := by decide +kernel
theorem dd_56_1 : decode prog_2_method_3_code 1 = .ok (.getfield 18, 3) := by decide +kernel
theorem dd_56_4 : decode prog_2_method_3_code 4 = .ok (.istore_n 3, 1) := by decide +kernel
theorem dd_56_5 : decode prog_2_method_3_code 5 = .ok (.aload_n 0, 1) := by decide +kernel
theorem dd_56_6 : decode prog_2_method_3_code 6 = .ok (.dup, 1) := by decide +kernel
theorem dd_56_7 : decode prog_2_method_3_code 7 = .ok (.getfield 18, 3) := by decide +kernel
theorem dd_56_10 : decode prog_2_method_3_code 10 = .ok (.iconst 1, 1) := by decide +kernel
theorem dd_56_11 : decode prog_2_method_3_code 11 = .ok (.iadd, 1) := by decide +kernel
theorem dd_56_12 : decode prog_2_method_3_code 12 = .ok (.putfield 18, 3) := by decide +kernel
theorem dd_56_15 : decode prog_2_method_3_code 15 = .ok (.iload_n 3, 1) := by decide +kernel
theorem dd_56_16 : decode prog_2_method_3_code 16 = .ok (.aload_n 0, 1) := by decide +kernel
theorem dd_56_17 : decode prog_2_method_3_code 17 = .ok (.getfield 9, 3) := by decide +kernel
theorem dd_56_20 : decode prog_2_method_3_code 20 = .ok (.arraylength, 1) := by decide +kernel
theorem dd_56_21 : decode prog_2_method_3_code 21 = .ok (.if_icmp .ge 25, 3) := by decide +kernel
theorem dd_56_24 : decode prog_2_method_3_code 24 = .ok (.aload_n 0, 1) := by decide +kernel
theorem dd_56_25 : decode prog_2_method_3_code 25 = .ok (.getfield 9, 3) := by decide +kernel
theorem dd_56_28 : decode prog_2_method_3_code 28 = .ok (.iload_n 3, 1) := by decide +kernel
theorem dd_56_29 : decode prog_2_method_3_code 29 = .ok (.lload_n 1, 1) := by decide +kernel
theorem dd_56_30 : decode prog_2_method_3_code 30 = .ok (.lastore, 1) := by decide +kernel
theorem dd_56_31 : decode prog_2_method_3_code 31 = .ok (.aload_n 0, 1) := by decide +kernel
theorem dd_56_32 : decode prog_2_method_3_code 32 = .ok (.getfield 15, 3) := by decide +kernel
theorem dd_56_35 : decode prog_2_method_3_code 35 = .ok (.iload_n 3, 1) := by decide +kernel
theorem dd_56_36 : decode prog_2_method_3_code 36 = .ok (.lconst 0, 1) := by decide +kernel
theorem dd_56_37 : decode prog_2_method_3_code 37 = .ok (.lastore, 1) := by decide +kernel
theorem dd_56_38 : decode prog_2_method_3_code 38 = .ok (.aload_n 0, 1) := by decide +kernel
theorem dd_56_39 : decode prog_2_method_3_code 39 = .ok (.iload_n 3, 1) := by decide +kernel
theorem dd_56_40 : decode prog_2_method_3_code 40 = .ok (.invokestatic 31, 3) := by decide +kernel
theorem dd_56_43 : decode prog_2_method_3_code 43 = .ok (.invokevirtual 35, 3) := by decide +kernel
theorem dd_56_46 : decode prog_2_method_3_code 46 = .ok (.aload_n 0, 1) := by decide +kernel
theorem dd_56_47 : decode prog_2_method_3_code 47 = .ok (.iload_n 3, 1) := by decide +kernel
theorem dd_56_48 : decode prog_2_method_3_code 48 = .ok (.putfield 22, 3) := by decide +kernel
theorem dd_56_51 : decode prog_2_method_3_code 51 = .ok (.aload_n 0, 1) := by decide +kernel
theorem dd_56_52 : decode prog_2_method_3_code 52 = .ok (.iconst 0, 1) := by decide +kernel
theorem dd_56_53 : decode prog_2_method_3_code 53 = .ok (.putfield 25, 3) := by decide +kernel
theorem dd_56_56 : decode prog_2_method_3_code 56 = .ok (.return_, 1) := by decide +kernel
set_option maxRecDepth 100000 in
theorem okI_56 : mj_okI gG "PairMachine$Code" prog_2_method_3_code 4 (mj_off oM_56) (Option.none : Option Jvm.ClassFile.FieldType) false true 0 cM_56 :=
  ⟨Or.inl ⟨0, rfl, dd_56_0, rfl⟩,
   ⟨18, "PairMachine$Code", fT4, 5, dd_56_1, rfl, okc_4, by decide, tw_372⟩,
   ⟨by decide, Or.inl ⟨3, rfl, dd_56_4, rfl⟩⟩,
   Or.inl ⟨0, rfl, dd_56_5, rfl⟩,
   ⟨dd_56_6, rfl⟩,
   ⟨18, "PairMachine$Code", fT4, 5, dd_56_7, rfl, okc_4, by decide, tw_372⟩,
   Or.inl (Or.inl ⟨dd_56_10, rfl⟩),
   ⟨dd_56_11, rfl⟩,
   ⟨18, "PairMachine$Code", fT4, 5, dd_56_12, rfl, okc_4, by decide, tw_372, rfl, Or.inl rfl⟩,
   Or.inl ⟨3, rfl, dd_56_15, rfl⟩,
   Or.inl ⟨0, rfl, dd_56_16, rfl⟩,
   ⟨9, "PairMachine$Code", fT4, 5, dd_56_17, rfl, okc_4, by decide, tw_370⟩,
   ⟨dd_56_20, rfl⟩,
   ⟨25, dd_56_21, rfl, rfl⟩,
   Or.inl ⟨0, rfl, dd_56_24, rfl⟩,
   ⟨9, "PairMachine$Code", fT4, 5, dd_56_25, rfl, okc_4, by decide, tw_370⟩,
   Or.inl ⟨3, rfl, dd_56_28, rfl⟩,
   Or.inl ⟨1, rfl, dd_56_29, rfl⟩,
   ⟨dd_56_30, rfl⟩,
   Or.inl ⟨0, rfl, dd_56_31, rfl⟩,
   ⟨15, "PairMachine$Code", fT4, 5, dd_56_32, rfl, okc_4, by decide, tw_371⟩,
   Or.inl ⟨3, rfl, dd_56_35, rfl⟩,
   Or.inl ⟨0, rfl, dd_56_36, rfl⟩,
   ⟨dd_56_37, rfl⟩,
   Or.inl ⟨0, rfl, dd_56_38, rfl⟩,
   Or.inl ⟨3, rfl, dd_56_39, rfl⟩,
   ⟨rfl, tw_375, by decide, tw_376, by decide +kernel, 31, tw_377, dd_56_40, tw_378, by decide +kernel⟩,
   ⟨rfl, tw_379, by decide, tw_133, by decide +kernel, 35, tw_380, dd_56_43, tw_381, ⟨"PairMachine$Code", fT4, 5, rfl, tw_382⟩, by decide +kernel⟩,
   Or.inl ⟨0, rfl, dd_56_46, rfl⟩,
   Or.inl ⟨3, rfl, dd_56_47, rfl⟩,
   ⟨22, "PairMachine$Code", fT4, 5, dd_56_48, rfl, okc_4, by decide, tw_373, rfl, Or.inl rfl⟩,
   Or.inl ⟨0, rfl, dd_56_51, rfl⟩,
   Or.inl (Or.inl ⟨dd_56_52, rfl⟩),
   ⟨25, "PairMachine$Code", fT4, 5, dd_56_53, rfl, okc_4, by decide, tw_374, Or.inl rfl, Or.inl rfl⟩,
   ⟨dd_56_56, rfl⟩, trivial⟩
theorem okM_56 : mj_okE gG 56 (cM_56, 4, oM_56, hM_56) := ⟨rfl, rfl, by decide +kernel, trivial, okI_56⟩
theorem dd_57_0 : decode prog_2_method_4_code 0 = .ok (.aload_n 0, 1) := by decide +kernel
theorem dd_57_1 : decode prog_2_method_4_code 1 = .ok (.getfield 22, 3) := by decide +kernel
theorem dd_57_4 : decode prog_2_method_4_code 4 = .ok (.ifCond .lt 15, 3) := by decide +kernel
theorem dd_57_7 : decode prog_2_method_4_code 7 = .ok (.aload_n 0, 1) := by decide +kernel
theorem dd_57_8 : decode prog_2_method_4_code 8 = .ok (.getfield 22, 3) := by decide +kernel
theorem dd_57_11 : decode prog_2_method_4_code 11 = .ok (.aload_n 0, 1) := by decide +kernel
theorem dd_57_12 : decode prog_2_method_4_code 12 = .ok (.getfield 9, 3) := by decide +kernel
theorem dd_57_15 : decode prog_2_method_4_code 15 = .ok (.arraylength, 1) := by decide +kernel
theorem dd_57_16 : decode prog_2_method_4_code 16 = .ok (.if_icmp .lt 4, 3) := by decide +kernel
theorem dd_57_19 : decode prog_2_method_4_code 19 = .ok (.return_, 1) := by decide +kernel
theorem dd_57_20 : decode prog_2_method_4_code 20 = .ok (.aload_n 0, 1) := by decide +kernel
theorem dd_57_21 : decode prog_2_method_4_code 21 = .ok (.getfield 25, 3) := by decide +kernel
theorem dd_57_24 : decode prog_2_method_4_code 24 = .ok (.ifCond .eq 16, 3) := by decide +kernel
theorem dd_57_27 : decode prog_2_method_4_code 27 = .ok (.aload_n 0, 1) := by decide +kernel
theorem dd_57_28 : decode prog_2_method_4_code 28 = .ok (.getfield 9, 3) := by decide +kernel
theorem dd_57_31 : decode prog_2_method_4_code 31 = .ok (.aload_n 0, 1) := by decide +kernel
theorem dd_57_32 : decode prog_2_method_4_code 32 = .ok (.getfield 22, 3) := by decide +kernel
theorem dd_57_35 : decode prog_2_method_4_code 35 = .ok (.lload_n 1, 1) := by decide +kernel
theorem dd_57_36 : decode prog_2_method_4_code 36 = .ok (.lastore, 1) := by decide +kernel
theorem dd_57_37 : decode prog_2_method_4_code 37 = .ok (.goto 13, 3) := by decide +kernel
theorem dd_57_40 : decode prog_2_method_4_code 40 = .ok (.aload_n 0, 1) := by decide +kernel
theorem dd_57_41 : decode prog_2_method_4_code 41 = .ok (.getfield 15, 3) := by decide +kernel
theorem dd_57_44 : decode prog_2_method_4_code 44 = .ok (.aload_n 0, 1) := by decide +kernel
theorem dd_57_45 : decode prog_2_method_4_code 45 = .ok (.getfield 22, 3) := by decide +kernel
theorem dd_57_48 : decode prog_2_method_4_code 48 = .ok (.lload_n 1, 1) := by decide +kernel
theorem dd_57_49 : decode prog_2_method_4_code 49 = .ok (.lastore, 1) := by decide +kernel
theorem dd_57_50 : decode prog_2_method_4_code 50 = .ok (.return_, 1) := by decide +kernel
set_option maxRecDepth 100000 in
theorem okI_57 : mj_okI gG "PairMachine$Code" prog_2_method_4_code 3 (mj_off oM_57) (Option.none : Option Jvm.ClassFile.FieldType) false true 0 cM_57 :=
  ⟨Or.inl ⟨0, rfl, dd_57_0, rfl⟩,
   ⟨22, "PairMachine$Code", fT4, 5, dd_57_1, rfl, okc_4, by decide, tw_373⟩,
   ⟨15, dd_57_4, rfl, rfl⟩,
   Or.inl ⟨0, rfl, dd_57_7, rfl⟩,
   ⟨22, "PairMachine$Code", fT4, 5, dd_57_8, rfl, okc_4, by decide, tw_373⟩,
   Or.inl ⟨0, rfl, dd_57_11, rfl⟩,
   ⟨9, "PairMachine$Code", fT4, 5, dd_57_12, rfl, okc_4, by decide, tw_370⟩,
   ⟨dd_57_15, rfl⟩,
   ⟨4, dd_57_16, rfl, rfl⟩,
   ⟨dd_57_19, rfl⟩,
   Or.inl ⟨0, rfl, dd_57_20, rfl⟩,
   ⟨25, "PairMachine$Code", fT4, 5, dd_57_21, rfl, okc_4, by decide, tw_374⟩,
   ⟨16, dd_57_24, rfl, rfl⟩,
   Or.inl ⟨0, rfl, dd_57_27, rfl⟩,
   ⟨9, "PairMachine$Code", fT4, 5, dd_57_28, rfl, okc_4, by decide, tw_370⟩,
   Or.inl ⟨0, rfl, dd_57_31, rfl⟩,
   ⟨22, "PairMachine$Code", fT4, 5, dd_57_32, rfl, okc_4, by decide, tw_373⟩,
   Or.inl ⟨1, rfl, dd_57_35, rfl⟩,
   ⟨dd_57_36, rfl⟩,
   ⟨13, dd_57_37, rfl⟩,
   Or.inl ⟨0, rfl, dd_57_40, rfl⟩,
   ⟨15, "PairMachine$Code", fT4, 5, dd_57_41, rfl, okc_4, by decide, tw_371⟩,
   Or.inl ⟨0, rfl, dd_57_44, rfl⟩,
   ⟨22, "PairMachine$Code", fT4, 5, dd_57_45, rfl, okc_4, by decide, tw_373⟩,
   Or.inl ⟨1, rfl, dd_57_48, rfl⟩,
   ⟨dd_57_49, rfl⟩,
   ⟨dd_57_50, rfl⟩, trivial⟩
theorem okM_57 : mj_okE gG 57 (cM_57, 3, oM_57, hM_57) := ⟨rfl, rfl, by decide +kernel, trivial, okI_57⟩
theorem dd_58_0 : decode prog_2_method_5_code 0 = .ok (.aload_n 0, 1) := by decide +kernel
theorem dd_58_1 : decode prog_2_method_5_code 1 = .ok (.iload_n 1, 1) := by decide +kernel
theorem dd_58_2 : decode prog_2_method_5_code 2 = .ok (.invokestatic 39, 3) := by decide +kernel
theorem dd_58_5 : decode prog_2_method_5_code 5 = .ok (.invokevirtual 42, 3) := by decide +kernel
theorem dd_58_8 : decode prog_2_method_5_code 8 = .ok (.return_, 1) := by decide +kernel
set_option maxRecDepth 100000 in
theorem okI_58 : mj_okI gG "PairMachine$Code" prog_2_method_5_code 2 (mj_off oM_58) (Option.none : Option Jvm.ClassFile.FieldType) false true 0 cM_58 :=
  ⟨Or.inl ⟨0, rfl, dd_58_0, rfl⟩,
   Or.inl ⟨1, rfl, dd_58_1, rfl⟩,
   ⟨rfl, tw_383, by decide, tw_376, by decide +kernel, 39, tw_384, dd_58_2, tw_385, by decide +kernel⟩,
   ⟨rfl, tw_386, by decide, tw_133, by decide +kernel, 42, tw_387, dd_58_5, tw_388, ⟨"PairMachine$Code", fT4, 5, rfl, tw_389⟩, by decide +kernel⟩,
   ⟨dd_58_8, rfl⟩, trivial⟩
theorem okM_58 : mj_okE gG 58 (cM_58, 2, oM_58, hM_58) := ⟨rfl, rfl, by decide +kernel, trivial, okI_58⟩
theorem dd_59_0 : decode prog_2_method_6_code 0 = .ok (.aload_n 0, 1) := by decide +kernel
theorem dd_59_1 : decode prog_2_method_6_code 1 = .ok (.lconst 0, 1) := by decide +kernel
theorem dd_59_2 : decode prog_2_method_6_code 2 = .ok (.invokevirtual 42, 3) := by decide +kernel
theorem dd_59_5 : decode prog_2_method_6_code 5 = .ok (.aload_n 0, 1) := by decide +kernel
theorem dd_59_6 : decode prog_2_method_6_code 6 = .ok (.iconst 1, 1) := by decide +kernel
theorem dd_59_7 : decode prog_2_method_6_code 7 = .ok (.putfield 25, 3) := by decide +kernel
theorem dd_59_10 : decode prog_2_method_6_code 10 = .ok (.aload_n 0, 1) := by decide +kernel
theorem dd_59_11 : decode prog_2_method_6_code 11 = .ok (.getfield 22, 3) := by decide +kernel
theorem dd_59_14 : decode prog_2_method_6_code 14 = .ok (.ireturn, 1) := by decide +kernel
set_option maxRecDepth 100000 in
theorem okI_59 : mj_okI gG "PairMachine$Code" prog_2_method_6_code 1 (mj_off oM_59) (Option.some Jvm.ClassFile.FieldType.int) false true 0 cM_59 :=
  ⟨Or.inl ⟨0, rfl, dd_59_0, rfl⟩,
   Or.inl ⟨0, rfl, dd_59_1, rfl⟩,
   ⟨rfl, tw_386, by decide, tw_133, by decide +kernel, 42, tw_387, dd_59_2, tw_388, ⟨"PairMachine$Code", fT4, 5, rfl, tw_389⟩, by decide +kernel⟩,
   Or.inl ⟨0, rfl, dd_59_5, rfl⟩,
   Or.inl (Or.inl ⟨dd_59_6, rfl⟩),
   ⟨25, "PairMachine$Code", fT4, 5, dd_59_7, rfl, okc_4, by decide, tw_374, Or.inl rfl, Or.inl rfl⟩,
   Or.inl ⟨0, rfl, dd_59_10, rfl⟩,
   ⟨22, "PairMachine$Code", fT4, 5, dd_59_11, rfl, okc_4, by decide, tw_373⟩,
   ⟨dd_59_14, rfl⟩, trivial⟩
theorem okM_59 : mj_okE gG 59 (cM_59, 1, oM_59, hM_59) := ⟨rfl, rfl, by decide +kernel, trivial, okI_59⟩
theorem dd_60_0 : decode prog_2_method_7_code 0 = .ok (.aload_n 0, 1) := by decide +kernel
theorem dd_60_1 : decode prog_2_method_7_code 1 = .ok (.iload_n 1, 1) := by decide +kernel
theorem dd_60_2 : decode prog_2_method_7_code 2 = .ok (.putfield 22, 3) := by decide +kernel
theorem dd_60_5 : decode prog_2_method_7_code 5 = .ok (.aload_n 0, 1) := by decide +kernel
theorem dd_60_6 : decode prog_2_method_7_code 6 = .ok (.iconst 0, 1) := by decide +kernel
theorem dd_60_7 : decode prog_2_method_7_code 7 = .ok (.putfield 25, 3) := by decide +kernel
theorem dd_60_10 : decode prog_2_method_7_code 10 = .ok (.return_, 1) := by decide +kernel
set_option maxRecDepth 100000 in
theorem okI_60 : mj_okI gG "PairMachine$Code" prog_2_method_7_code 2 (mj_off oM_60) (Option.none : Option Jvm.ClassFile.FieldType) false true 0 cM_60 :=
  ⟨Or.inl ⟨0, rfl, dd_60_0, rfl⟩,
   Or.inl ⟨1, rfl, dd_60_1, rfl⟩,
   ⟨22, "PairMachine$Code", fT4, 5, dd_60_2, rfl, okc_4, by decide, tw_373, rfl, Or.inl rfl⟩,
   Or.inl ⟨0, rfl, dd_60_5, rfl⟩,
   Or.inl (Or.inl ⟨dd_60_6, rfl⟩),
   ⟨25, "PairMachine$Code", fT4, 5, dd_60_7, rfl, okc_4, by decide, tw_374, Or.inl rfl, Or.inl rfl⟩,
   ⟨dd_60_10, rfl⟩, trivial⟩
theorem okM_60 : mj_okE gG 60 (cM_60, 2, oM_60, hM_60) := ⟨rfl, rfl, by decide +kernel, trivial, okI_60⟩
theorem dd_61_0 : decode prog_2_method_8_code 0 = .ok (.aload_n 0, 1) := by decide +kernel
theorem dd_61_1 : decode prog_2_method_8_code 1 = .ok (.getfield 18, 3) := by decide +kernel
theorem dd_61_4 : decode prog_2_method_8_code 4 = .ok (.ireturn, 1) := by decide +kernel
set_option maxRecDepth 100000 in
theorem okI_61 : mj_okI gG "PairMachine$Code" prog_2_method_8_code 1 (mj_off oM_61) (Option.some Jvm.ClassFile.FieldType.int) false true 0 cM_61 :=
  ⟨Or.inl ⟨0, rfl, dd_61_0, rfl⟩,
   ⟨18, "PairMachine$Code", fT4, 5, dd_61_1, rfl, okc_4, by decide, tw_372⟩,
   ⟨dd_61_4, rfl⟩, trivial⟩
theorem okM_61 : mj_okE gG 61 (cM_61, 1, oM_61, hM_61) := ⟨rfl, rfl, by decide +kernel, trivial, okI_61⟩
theorem dd_62_0 : decode prog_2_method_9_code 0 = .ok (.iload_n 1, 1) := by decide +kernel
theorem dd_62_1 : decode prog_2_method_9_code 1 = .ok (.ifCond .lt 21, 3) := by decide +kernel
theorem dd_62_4 : decode prog_2_method_9_code 4 = .ok (.iload_n 1, 1) := by decide +kernel
theorem dd_62_5 : decode prog_2_method_9_code 5 = .ok (.aload_n 0, 1) := by decide +kernel
theorem dd_62_6 : decode prog_2_method_9_code 6 = .ok (.getfield 9, 3) := by decide +kernel
theorem dd_62_9 : decode prog_2_method_9_code 9 = .ok (.arraylength, 1) := by decide +kernel
theorem dd_62_10 : decode prog_2_method_9_code 10 = .ok (.if_icmp .ge 12, 3) := by decide +kernel
theorem dd_62_13 : decode prog_2_method_9_code 13 = .ok (.aload_n 0, 1) := by decide +kernel
theorem dd_62_14 : decode prog_2_method_9_code 14 = .ok (.getfield 9, 3) := by decide +kernel
theorem dd_62_17 : decode prog_2_method_9_code 17 = .ok (.iload_n 1, 1) := by decide +kernel
theorem dd_62_18 : decode prog_2_method_9_code 18 = .ok (.laload, 1) := by decide +kernel
theorem dd_62_19 : decode prog_2_method_9_code 19 = .ok (.goto 4, 3) := by decide +kernel
theorem dd_62_22 : decode prog_2_method_9_code 22 = .ok (.lconst 0, 1) := by decide +kernel
theorem dd_62_23 : decode prog_2_method_9_code 23 = .ok (.lreturn, 1) := by decide +kernel
set_option maxRecDepth 100000 in
theorem okI_62 : mj_okI gG "PairMachine$Code" prog_2_method_9_code 2 (mj_off oM_62) (Option.some Jvm.ClassFile.FieldType.long) false true 0 cM_62 :=
  ⟨Or.inl ⟨1, rfl, dd_62_0, rfl⟩,
   ⟨21, dd_62_1, rfl, rfl⟩,
   Or.inl ⟨1, rfl, dd_62_4, rfl⟩,
   Or.inl ⟨0, rfl, dd_62_5, rfl⟩,
   ⟨9, "PairMachine$Code", fT4, 5, dd_62_6, rfl, okc_4, by decide, tw_370⟩,
   ⟨dd_62_9, rfl⟩,
   ⟨12, dd_62_10, rfl, rfl⟩,
   Or.inl ⟨0, rfl, dd_62_13, rfl⟩,
   ⟨9, "PairMachine$Code", fT4, 5, dd_62_14, rfl, okc_4, by decide, tw_370⟩,
   Or.inl ⟨1, rfl, dd_62_17, rfl⟩,
   ⟨dd_62_18, rfl⟩,
   ⟨4, dd_62_19, rfl⟩,
   Or.inl ⟨0, rfl, dd_62_22, rfl⟩,
   ⟨dd_62_23, rfl⟩, trivial⟩
theorem okM_62 : mj_okE gG 62 (cM_62, 2, oM_62, hM_62) := ⟨rfl, rfl, by decide +kernel, trivial, okI_62⟩
theorem dd_63_0 : decode prog_2_method_10_code 0 = .ok (.iload_n 1, 1) := by decide +kernel
theorem dd_63_1 : decode prog_2_method_10_code 1 = .ok (.ifCond .lt 21, 3) := by decide +kernel
theorem dd_63_4 : decode prog_2_method_10_code 4 = .ok (.iload_n 1, 1) := by decide +kernel
theorem dd_63_5 : decode prog_2_method_10_code 5 = .ok (.aload_n 0, 1) := by decide +kernel
theorem dd_63_6 : decode prog_2_method_10_code 6 = .ok (.getfield 15, 3) := by decide +kernel
theorem dd_63_9 : decode prog_2_method_10_code 9 = .ok (.arraylength, 1) := by decide +kernel
theorem dd_63_10 : decode prog_2_method_10_code 10 = .ok (.if_icmp .ge 12, 3) := by decide +kernel
theorem dd_63_13 : decode prog_2_method_10_code 13 = .ok (.aload_n 0, 1) := by decide +kernel
theorem dd_63_14 : decode prog_2_method_10_code 14 = .ok (.getfield 15, 3) := by decide +kernel
theorem dd_63_17 : decode prog_2_method_10_code 17 = .ok (.iload_n 1, 1) := by decide +kernel
theorem dd_63_18 : decode prog_2_method_10_code 18 = .ok (.laload, 1) := by decide +kernel
theorem dd_63_19 : decode prog_2_method_10_code 19 = .ok (.goto 4, 3) := by decide +kernel
theorem dd_63_22 : decode prog_2_method_10_code 22 = .ok (.lconst 0, 1) := by decide +kernel
theorem dd_63_23 : decode prog_2_method_10_code 23 = .ok (.lreturn, 1) := by decide +kernel
set_option maxRecDepth 100000 in
theorem okI_63 : mj_okI gG "PairMachine$Code" prog_2_method_10_code 2 (mj_off oM_63) (Option.some Jvm.ClassFile.FieldType.long) false true 0 cM_63 :=
  ⟨Or.inl ⟨1, rfl, dd_63_0, rfl⟩,
   ⟨21, dd_63_1, rfl, rfl⟩,
   Or.inl ⟨1, rfl, dd_63_4, rfl⟩,
   Or.inl ⟨0, rfl, dd_63_5, rfl⟩,
   ⟨15, "PairMachine$Code", fT4, 5, dd_63_6, rfl, okc_4, by decide, tw_371⟩,
   ⟨dd_63_9, rfl⟩,
   ⟨12, dd_63_10, rfl, rfl⟩,
   Or.inl ⟨0, rfl, dd_63_13, rfl⟩,
   ⟨15, "PairMachine$Code", fT4, 5, dd_63_14, rfl, okc_4, by decide, tw_371⟩,
   Or.inl ⟨1, rfl, dd_63_17, rfl⟩,
   ⟨dd_63_18, rfl⟩,
   ⟨4, dd_63_19, rfl⟩,
   Or.inl ⟨0, rfl, dd_63_22, rfl⟩,
   ⟨dd_63_23, rfl⟩, trivial⟩
theorem okM_63 : mj_okE gG 63 (cM_63, 2, oM_63, hM_63) := ⟨rfl, rfl, by decide +kernel, trivial, okI_63⟩
theorem dd_64_0 : decode prog_3_method_1_code 0 = .ok (.aload_n 0, 1) := by decide +kernel
theorem dd_64_1 : decode prog_3_method_1_code 1 = .ok (.invokespecial 3, 3) := by decide +kernel
theorem dd_64_4 : decode prog_3_method_1_code 4 = .ok (.aload_n 0, 1) := by decide +kernel
theorem dd_64_5 : decode prog_3_method_1_code 5 = .ok (.aload_n 1, 1) := by decide +kernel
theorem dd_64_6 : decode prog_3_method_1_code 6 = .ok (.putfield 9, 3) := by decide +kernel
theorem dd_64_9 : decode prog_3_method_1_code 9 = .ok (.aload_n 0, 1) := by decide +kernel
theorem dd_64_10 : decode prog_3_method_1_code 10 = .ok (.aload_n 2, 1) := by decide +kernel
theorem dd_64_11 : decode prog_3_method_1_code 11 = .ok (.putfield 15, 3) := by decide +kernel
theorem dd_64_14 : decode prog_3_method_1_code 14 = .ok (.aload_n 0, 1) := by decide +kernel
theorem dd_64_15 : decode prog_3_method_1_code 15 = .ok (.bipush 9, 2) := by decide +kernel
theorem dd_64_17 : decode prog_3_method_1_code 17 = .ok (.newarray .int, 2) := by decide +kernel
theorem dd_64_19 : decode prog_3_method_1_code 19 = .ok (.putfield 19, 3) := by decide +kernel
theorem dd_64_22 : decode prog_3_method_1_code 22 = .ok (.return_, 1) := by decide +kernel
set_option maxRecDepth 100000 in
theorem okI_64 : mj_okI gG "PairMachine$Coder" prog_3_method_1_code 3 (mj_off oM_64) (Option.none : Option Jvm.ClassFile.FieldType) true true 0 cM_64 :=
  ⟨Or.inl ⟨0, rfl, dd_64_0, rfl⟩,
   ⟨3, dd_64_1, rfl, tw_390, tw_101, tw_102⟩,
   Or.inl ⟨0, rfl, dd_64_4, rfl⟩,
   Or.inl ⟨1, rfl, dd_64_5, rfl⟩,
   ⟨9, "PairMachine$Coder", fT5, 5, dd_64_6, rfl, okc_5, by decide, tw_391, Or.inl ⟨_, rfl⟩, Or.inr ⟨rfl, by decide, rfl⟩⟩,
   Or.inl ⟨0, rfl, dd_64_9, rfl⟩,
   Or.inl ⟨2, rfl, dd_64_10, rfl⟩,
   ⟨15, "PairMachine$Coder", fT5, 5, dd_64_11, rfl, okc_5, by decide, tw_392, Or.inl ⟨_, rfl⟩, Or.inr ⟨rfl, by decide, rfl⟩⟩,
   Or.inl ⟨0, rfl, dd_64_14, rfl⟩,
   Or.inl (Or.inr (Or.inl ⟨dd_64_15, rfl, by decide⟩)),
   ⟨dd_64_17, rfl, tw_236⟩,
   ⟨19, "PairMachine$Coder", fT5, 5, dd_64_19, rfl, okc_5, by decide, tw_393, Or.inr ⟨_, rfl⟩, Or.inr ⟨rfl, by decide, rfl⟩⟩,
   ⟨dd_64_22, rfl⟩, trivial⟩
theorem okM_64 : mj_okE gG 64 (cM_64, 3, oM_64, hM_64) := ⟨rfl, rfl, by decide +kernel, trivial, okI_64⟩
theorem dd_65_0 : decode prog_3_method_2_code 0 = .ok (.aload_n 0, 1) := by decide +kernel
theorem dd_65_1 : decode prog_3_method_2_code 1 = .ok (.getfield 15, 3) := by decide +kernel
theorem dd_65_4 : decode prog_3_method_2_code 4 = .ok (.invokevirtual 23, 3) := by decide +kernel
theorem dd_65_7 : decode prog_3_method_2_code 7 = .ok (.aload_n 0, 1) := by decide +kernel
theorem dd_65_8 : decode prog_3_method_2_code 8 = .ok (.iconst 0, 1) := by decide +kernel
theorem dd_65_9 : decode prog_3_method_2_code 9 = .ok (.putfield 28, 3) := by decide +kernel
theorem dd_65_12 : decode prog_3_method_2_code 12 = .ok (.aload_n 0, 1) := by decide +kernel
theorem dd_65_13 : decode prog_3_method_2_code 13 = .ok (.iconst (-1), 1) := by decide +kernel
theorem dd_65_14 : decode prog_3_method_2_code 14 = .ok (.putfield 32, 3) := by decide +kernel
theorem dd_65_17 : decode prog_3_method_2_code 17 = .ok (.aload_n 0, 1) := by decide +kernel
theorem dd_65_18 : decode prog_3_method_2_code 18 = .ok (.iconst 0, 1) := by decide +kernel
theorem dd_65_19 : decode prog_3_method_2_code 19 = .ok (.iconst 0, 1) := by decide +kernel
theorem dd_65_20 : decode prog_3_method_2_code 20 = .ok (.invokevirtual 37, 3) := by decide +kernel
theorem dd_65_23 : decode prog_3_method_2_code 23 = .ok (.aload_n 0, 1) := by decide +kernel
theorem dd_65_24 : decode prog_3_method_2_code 24 = .ok (.getfield 15, 3) := by decide +kernel
theorem dd_65_27 : decode prog_3_method_2_code 27 = .ok (.bipush 19, 2) := by decide +kernel
theorem dd_65_29 : decode prog_3_method_2_code 29 = .ok (.invokevirtual 43, 3) := by decide +kernel
theorem dd_65_32 : decode prog_3_method_2_code 32 = .ok (.aload_n 0, 1) := by decide +kernel
theorem dd_65_33 : decode prog_3_method_2_code 33 = .ok (.getfield 32, 3) := by decide +kernel
theorem dd_65_36 : decode prog_3_method_2_code 36 = .ok (.ireturn, 1) := by decide +kernel
set_option maxRecDepth 100000 in
theorem okI_65 : mj_okI gG "PairMachine$Coder" prog_3_method_2_code 1 (mj_off oM_65) (Option.some Jvm.ClassFile.FieldType.int) false true 0 cM_65 :=
  ⟨Or.inl ⟨0, rfl, dd_65_0, rfl⟩,
   ⟨15, "PairMachine$Coder", fT5, 5, dd_65_1, rfl, okc_5, by decide, tw_392⟩,
   ⟨rfl, tw_394, by decide, tw_133, by decide +kernel, 23, tw_395, dd_65_4, tw_396, ⟨"PairMachine$Code", fT4, 5, rfl, tw_397⟩, by decide +kernel⟩,
   Or.inl ⟨0, rfl, dd_65_7, rfl⟩,
   Or.inl (Or.inl ⟨dd_65_8, rfl⟩),
   ⟨28, "PairMachine$Coder", fT5, 5, dd_65_9, rfl, okc_5, by decide, tw_398, rfl, Or.inl rfl⟩,
   Or.inl ⟨0, rfl, dd_65_12, rfl⟩,
   Or.inl (Or.inl ⟨dd_65_13, rfl⟩),
   ⟨32, "PairMachine$Coder", fT5, 5, dd_65_14, rfl, okc_5, by decide, tw_399, rfl, Or.inl rfl⟩,
   Or.inl ⟨0, rfl, dd_65_17, rfl⟩,
   Or.inl (Or.inl ⟨dd_65_18, rfl⟩),
   Or.inl (Or.inl ⟨dd_65_19, rfl⟩),
   ⟨rfl, tw_400, by decide, tw_140, by decide +kernel, 37, tw_401, dd_65_20, tw_402, ⟨"PairMachine$Coder", fT5, 5, rfl, tw_403⟩, by decide +kernel⟩,
   Or.inl ⟨0, rfl, dd_65_23, rfl⟩,
   ⟨15, "PairMachine$Coder", fT5, 5, dd_65_24, rfl, okc_5, by decide, tw_392⟩,
   Or.inl (Or.inr (Or.inl ⟨dd_65_27, rfl, by decide⟩)),
   ⟨rfl, tw_404, by decide, tw_133, by decide +kernel, 43, tw_405, dd_65_29, tw_406, ⟨"PairMachine$Code", fT4, 5, rfl, tw_407⟩, by decide +kernel⟩,
   Or.inl ⟨0, rfl, dd_65_32, rfl⟩,
   ⟨32, "PairMachine$Coder", fT5, 5, dd_65_33, rfl, okc_5, by decide, tw_399⟩,
   ⟨dd_65_36, rfl⟩, trivial⟩
theorem okM_65 : mj_okE gG 65 (cM_65, 1, oM_65, hM_65) := ⟨rfl, rfl, by decide +kernel, trivial, okI_65⟩
theorem dd_66_0 : decode prog_3_method_3_code 0 = .ok (.iload_n 2, 1) := by decide +kernel
theorem dd_66_1 : decode prog_3_method_3_code 1 = .ok (.bipush 9, 2) := by decide +kernel
theorem dd_66_3 : decode prog_3_method_3_code 3 = .ok (.if_icmp .le 4, 3) := by decide +kernel
theorem dd_66_6 : decode prog_3_method_3_code 6 = .ok (.return_, 1) := by decide +kernel
theorem dd_66_7 : decode prog_3_method_3_code 7 = .ok (.aload_n 0, 1) := by decide +kernel
theorem dd_66_8 : decode prog_3_method_3_code 8 = .ok (.getfield 9, 3) := by decide +kernel
theorem dd_66_11 : decode prog_3_method_3_code 11 = .ok (.iload_n 1, 1) := by decide +kernel
theorem dd_66_12 : decode prog_3_method_3_code 12 = .ok (.invokevirtual 47, 3) := by decide +kernel
theorem dd_66_15 : decode prog_3_method_3_code 15 = .ok (.tableswitch 135 1 11 #[57, 82, 135, 66, 90, 99, 135, 117, 126, 135, 108], 57) := by decide +kernel
theorem dd_66_72 : decode prog_3_method_3_code 72 = .ok (.aload_n 0, 1) := by decide +kernel
theorem dd_66_73 : decode prog_3_method_3_code 73 = .ok (.iload_n 1, 1) := by decide +kernel
theorem dd_66_74 : decode prog_3_method_3_code 74 = .ok (.iload_n 2, 1) := by decide +kernel
theorem dd_66_75 : decode prog_3_method_3_code 75 = .ok (.invokevirtual 51, 3) := by decide +kernel
theorem dd_66_78 : decode prog_3_method_3_code 78 = .ok (.goto 72, 3) := by decide +kernel
theorem dd_66_81 : decode prog_3_method_3_code 81 = .ok (.aload_n 0, 1) := by decide +kernel
theorem dd_66_82 : decode prog_3_method_3_code 82 = .ok (.aload_n 0, 1) := by decide +kernel
theorem dd_66_83 : decode prog_3_method_3_code 83 = .ok (.getfield 9, 3) := by decide +kernel
theorem dd_66_86 : decode prog_3_method_3_code 86 = .ok (.iload_n 1, 1) := by decide +kernel
theorem dd_66_87 : decode prog_3_method_3_code 87 = .ok (.invokevirtual 54, 3) := by decide +kernel
theorem dd_66_90 : decode prog_3_method_3_code 90 = .ok (.iload_n 2, 1) := by decide +kernel
theorem dd_66_91 : decode prog_3_method_3_code 91 = .ok (.invokevirtual 51, 3) := by decide +kernel
theorem dd_66_94 : decode prog_3_method_3_code 94 = .ok (.goto 56, 3) := by decide +kernel
theorem dd_66_97 : decode prog_3_method_3_code 97 = .ok (.aload_n 0, 1) := by decide +kernel
theorem dd_66_98 : decode prog_3_method_3_code 98 = .ok (.iload_n 1, 1) := by decide +kernel
theorem dd_66_99 : decode prog_3_method_3_code 99 = .ok (.invokevirtual 57, 3) := by decide +kernel
theorem dd_66_102 : decode prog_3_method_3_code 102 = .ok (.goto 48, 3) := by decide +kernel
theorem dd_66_105 : decode prog_3_method_3_code 105 = .ok (.aload_n 0, 1) := by decide +kernel
theorem dd_66_106 : decode prog_3_method_3_code 106 = .ok (.iload_n 1, 1) := by decide +kernel
theorem dd_66_107 : decode prog_3_method_3_code 107 = .ok (.iload_n 2, 1) := by decide +kernel
theorem dd_66_108 : decode prog_3_method_3_code 108 = .ok (.invokevirtual 60, 3) := by decide +kernel
theorem dd_66_111 : decode prog_3_method_3_code 111 = .ok (.goto 39, 3) := by decide +kernel
theorem dd_66_114 : decode prog_3_method_3_code 114 = .ok (.aload_n 0, 1) := by decide +kernel
theorem dd_66_115 : decode prog_3_method_3_code 115 = .ok (.iload_n 1, 1) := by decide +kernel
theorem dd_66_116 : decode prog_3_method_3_code 116 = .ok (.iload_n 2, 1) := by decide +kernel
theorem dd_66_117 : decode prog_3_method_3_code 117 = .ok (.invokevirtual 63, 3) := by decide +kernel
theorem dd_66_120 : decode prog_3_method_3_code 120 = .ok (.goto 30, 3) := by decide +kernel
theorem dd_66_123 : decode prog_3_method_3_code 123 = .ok (.aload_n 0, 1) := by decide +kernel
theorem dd_66_124 : decode prog_3_method_3_code 124 = .ok (.iload_n 1, 1) := by decide +kernel
theorem dd_66_125 : decode prog_3_method_3_code 125 = .ok (.iload_n 2, 1) := by decide +kernel
theorem dd_66_126 : decode prog_3_method_3_code 126 = .ok (.invokevirtual 66, 3) := by decide +kernel
theorem dd_66_129 : decode prog_3_method_3_code 129 = .ok (.goto 21, 3) := by decide +kernel
theorem dd_66_132 : decode prog_3_method_3_code 132 = .ok (.aload_n 0, 1) := by decide +kernel
theorem dd_66_133 : decode prog_3_method_3_code 133 = .ok (.iload_n 1, 1) := by decide +kernel
theorem dd_66_134 : decode prog_3_method_3_code 134 = .ok (.iload_n 2, 1) := by decide +kernel
theorem dd_66_135 : decode prog_3_method_3_code 135 = .ok (.invokevirtual 69, 3) := by decide +kernel
theorem dd_66_138 : decode prog_3_method_3_code 138 = .ok (.goto 12, 3) := by decide +kernel
theorem dd_66_141 : decode prog_3_method_3_code 141 = .ok (.aload_n 0, 1) := by decide +kernel
theorem dd_66_142 : decode prog_3_method_3_code 142 = .ok (.iload_n 1, 1) := by decide +kernel
theorem dd_66_143 : decode prog_3_method_3_code 143 = .ok (.iload_n 2, 1) := by decide +kernel
theorem dd_66_144 : decode prog_3_method_3_code 144 = .ok (.invokevirtual 72, 3) := by decide +kernel
theorem dd_66_147 : decode prog_3_method_3_code 147 = .ok (.goto 3, 3) := by decide +kernel
theorem dd_66_150 : decode prog_3_method_3_code 150 = .ok (.return_, 1) := by decide +kernel
set_option maxRecDepth 100000 in
theorem okI_66 : mj_okI gG "PairMachine$Coder" prog_3_method_3_code 3 (mj_off oM_66) (Option.none : Option Jvm.ClassFile.FieldType) false true 0 cM_66 :=
  ⟨Or.inl ⟨2, rfl, dd_66_0, rfl⟩,
   Or.inl (Or.inr (Or.inl ⟨dd_66_1, rfl, by decide⟩)),
   ⟨4, dd_66_3, rfl, rfl⟩,
   ⟨dd_66_6, rfl⟩,
   Or.inl ⟨0, rfl, dd_66_7, rfl⟩,
   ⟨9, "PairMachine$Coder", fT5, 5, dd_66_8, rfl, okc_5, by decide, tw_391⟩,
   Or.inl ⟨1, rfl, dd_66_11, rfl⟩,
   ⟨rfl, tw_351, by decide, tw_113, by decide +kernel, 47, tw_408, dd_66_12, tw_353, ⟨"PairMachine$Tree", fT2, 7, rfl, tw_354⟩, by decide +kernel⟩,
   Or.inr ⟨135, 1, #[57, 82, 135, 66, 90, 99, 135, 117, 126, 135, 108], 57, dd_66_15, rfl, rfl, (fun j hj => by
    match j, hj with
    | 0, _ => exact ⟨57, 9, rfl, rfl, by decide, rfl⟩
    | 1, _ => exact ⟨82, 22, rfl, rfl, by decide, rfl⟩
    | 2, _ => exact ⟨135, 51, rfl, rfl, by decide, rfl⟩
    | 3, _ => exact ⟨66, 14, rfl, rfl, by decide, rfl⟩
    | 4, _ => exact ⟨90, 26, rfl, rfl, by decide, rfl⟩
    | 5, _ => exact ⟨99, 31, rfl, rfl, by decide, rfl⟩
    | 6, _ => exact ⟨135, 51, rfl, rfl, by decide, rfl⟩
    | 7, _ => exact ⟨117, 41, rfl, rfl, by decide, rfl⟩
    | 8, _ => exact ⟨126, 46, rfl, rfl, by decide, rfl⟩
    | 9, _ => exact ⟨135, 51, rfl, rfl, by decide, rfl⟩
    | 10, _ => exact ⟨108, 36, rfl, rfl, by decide, rfl⟩
    | j + 11, h => exact absurd h (by simp))⟩,
   Or.inl ⟨0, rfl, dd_66_72, rfl⟩,
   Or.inl ⟨1, rfl, dd_66_73, rfl⟩,
   Or.inl ⟨2, rfl, dd_66_74, rfl⟩,
   ⟨rfl, tw_409, by decide, tw_140, by decide +kernel, 51, tw_410, dd_66_75, tw_411, ⟨"PairMachine$Coder", fT5, 5, rfl, tw_412⟩, by decide +kernel⟩,
   ⟨72, dd_66_78, rfl⟩,
   Or.inl ⟨0, rfl, dd_66_81, rfl⟩,
   Or.inl ⟨0, rfl, dd_66_82, rfl⟩,
   ⟨9, "PairMachine$Coder", fT5, 5, dd_66_83, rfl, okc_5, by decide, tw_391⟩,
   Or.inl ⟨1, rfl, dd_66_86, rfl⟩,
   ⟨rfl, tw_248, by decide, tw_113, by decide +kernel, 54, tw_413, dd_66_87, tw_250, ⟨"PairMachine$Tree", fT2, 7, rfl, tw_251⟩, by decide +kernel⟩,
   Or.inl ⟨2, rfl, dd_66_90, rfl⟩,
   ⟨rfl, tw_409, by decide, tw_140, by decide +kernel, 51, tw_410, dd_66_91, tw_411, ⟨"PairMachine$Coder", fT5, 5, rfl, tw_412⟩, by decide +kernel⟩,
   ⟨56, dd_66_94, rfl⟩,
   Or.inl ⟨0, rfl, dd_66_97, rfl⟩,
   Or.inl ⟨1, rfl, dd_66_98, rfl⟩,
   ⟨rfl, tw_414, by decide, tw_140, by decide +kernel, 57, tw_415, dd_66_99, tw_416, ⟨"PairMachine$Coder", fT5, 5, rfl, tw_417⟩, by decide +kernel⟩,
   ⟨48, dd_66_102, rfl⟩,
   Or.inl ⟨0, rfl, dd_66_105, rfl⟩,
   Or.inl ⟨1, rfl, dd_66_106, rfl⟩,
   Or.inl ⟨2, rfl, dd_66_107, rfl⟩,
   ⟨rfl, tw_418, by decide, tw_140, by decide +kernel, 60, tw_419, dd_66_108, tw_420, ⟨"PairMachine$Coder", fT5, 5, rfl, tw_421⟩, by decide +kernel⟩,
   ⟨39, dd_66_111, rfl⟩,
   Or.inl ⟨0, rfl, dd_66_114, rfl⟩,
   Or.inl ⟨1, rfl, dd_66_115, rfl⟩,
   Or.inl ⟨2, rfl, dd_66_116, rfl⟩,
   ⟨rfl, tw_422, by decide, tw_140, by decide +kernel, 63, tw_423, dd_66_117, tw_424, ⟨"PairMachine$Coder", fT5, 5, rfl, tw_425⟩, by decide +kernel⟩,
   ⟨30, dd_66_120, rfl⟩,
   Or.inl ⟨0, rfl, dd_66_123, rfl⟩,
   Or.inl ⟨1, rfl, dd_66_124, rfl⟩,
   Or.inl ⟨2, rfl, dd_66_125, rfl⟩,
   ⟨rfl, tw_426, by decide, tw_140, by decide +kernel, 66, tw_427, dd_66_126, tw_428, ⟨"PairMachine$Coder", fT5, 5, rfl, tw_429⟩, by decide +kernel⟩,
   ⟨21, dd_66_129, rfl⟩,
   Or.inl ⟨0, rfl, dd_66_132, rfl⟩,
   Or.inl ⟨1, rfl, dd_66_133, rfl⟩,
   Or.inl ⟨2, rfl, dd_66_134, rfl⟩,
   ⟨rfl, tw_430, by decide, tw_140, by decide +kernel, 69, tw_431, dd_66_135, tw_432, ⟨"PairMachine$Coder", fT5, 5, rfl, tw_433⟩, by decide +kernel⟩,
   ⟨12, dd_66_138, rfl⟩,
   Or.inl ⟨0, rfl, dd_66_141, rfl⟩,
   Or.inl ⟨1, rfl, dd_66_142, rfl⟩,
   Or.inl ⟨2, rfl, dd_66_143, rfl⟩,
   ⟨rfl, tw_434, by decide, tw_140, by decide +kernel, 72, tw_435, dd_66_144, tw_436, ⟨"PairMachine$Coder", fT5, 5, rfl, tw_437⟩, by decide +kernel⟩,
   ⟨3, dd_66_147, rfl⟩,
   ⟨dd_66_150, rfl⟩, trivial⟩
theorem okM_66 : mj_okE gG 66 (cM_66, 3, oM_66, hM_66) := ⟨rfl, rfl, by decide +kernel, trivial, okI_66⟩
theorem dd_67_0 : decode prog_3_method_4_code 0 = .ok (.aload_n 0, 1) := by decide +kernel
theorem dd_67_1 : decode prog_3_method_4_code 1 = .ok (.getfield 15, 3) := by decide +kernel
theorem dd_67_4 : decode prog_3_method_4_code 4 = .ok (.iconst 1, 1) := by decide +kernel
theorem dd_67_5 : decode prog_3_method_4_code 5 = .ok (.invokevirtual 43, 3) := by decide +kernel
theorem dd_67_8 : decode prog_3_method_4_code 8 = .ok (.aload_n 0, 1) := by decide +kernel
theorem dd_67_9 : decode prog_3_method_4_code 9 = .ok (.iload_n 1, 1) := by decide +kernel
theorem dd_67_10 : decode prog_3_method_4_code 10 = .ok (.iload_n 2, 1) := by decide +kernel
theorem dd_67_11 : decode prog_3_method_4_code 11 = .ok (.invokevirtual 75, 3) := by decide +kernel
theorem dd_67_14 : decode prog_3_method_4_code 14 = .ok (.return_, 1) := by decide +kernel
set_option maxRecDepth 100000 in
theorem okI_67 : mj_okI gG "PairMachine$Coder" prog_3_method_4_code 3 (mj_off oM_67) (Option.none : Option Jvm.ClassFile.FieldType) false true 0 cM_67 :=
  ⟨Or.inl ⟨0, rfl, dd_67_0, rfl⟩,
   ⟨15, "PairMachine$Coder", fT5, 5, dd_67_1, rfl, okc_5, by decide, tw_392⟩,
   Or.inl (Or.inl ⟨dd_67_4, rfl⟩),
   ⟨rfl, tw_404, by decide, tw_133, by decide +kernel, 43, tw_405, dd_67_5, tw_406, ⟨"PairMachine$Code", fT4, 5, rfl, tw_407⟩, by decide +kernel⟩,
   Or.inl ⟨0, rfl, dd_67_8, rfl⟩,
   Or.inl ⟨1, rfl, dd_67_9, rfl⟩,
   Or.inl ⟨2, rfl, dd_67_10, rfl⟩,
   ⟨rfl, tw_438, by decide, tw_140, by decide +kernel, 75, tw_439, dd_67_11, tw_440, ⟨"PairMachine$Coder", fT5, 5, rfl, tw_441⟩, by decide +kernel⟩,
   ⟨dd_67_14, rfl⟩, trivial⟩
theorem okM_67 : mj_okE gG 67 (cM_67, 3, oM_67, hM_67) := ⟨rfl, rfl, by decide +kernel, trivial, okI_67⟩
theorem dd_68_0 : decode prog_3_method_5_code 0 = .ok (.iload_n 2, 1) := by decide +kernel
theorem dd_68_1 : decode prog_3_method_5_code 1 = .ok (.bipush 9, 2) := by decide +kernel
theorem dd_68_3 : decode prog_3_method_5_code 3 = .ok (.if_icmp .le 4, 3) := by decide +kernel
theorem dd_68_6 : decode prog_3_method_5_code 6 = .ok (.return_, 1) := by decide +kernel
theorem dd_68_7 : decode prog_3_method_5_code 7 = .ok (.aload_n 0, 1) := by decide +kernel
theorem dd_68_8 : decode prog_3_method_5_code 8 = .ok (.getfield 9, 3) := by decide +kernel
theorem dd_68_11 : decode prog_3_method_5_code 11 = .ok (.iload_n 1, 1) := by decide +kernel
theorem dd_68_12 : decode prog_3_method_5_code 12 = .ok (.invokevirtual 47, 3) := by decide +kernel
theorem dd_68_15 : decode prog_3_method_5_code 15 = .ok (.istore_n 3, 1) := by decide +kernel
theorem dd_68_16 : decode prog_3_method_5_code 16 = .ok (.iload_n 3, 1) := by decide +kernel
theorem dd_68_17 : decode prog_3_method_5_code 17 = .ok (.iconst 1, 1) := by decide +kernel
theorem dd_68_18 : decode prog_3_method_5_code 18 = .ok (.if_icmp .ne 24, 3) := by decide +kernel
theorem dd_68_21 : decode prog_3_method_5_code 21 = .ok (.aload_n 0, 1) := by decide +kernel
theorem dd_68_22 : decode prog_3_method_5_code 22 = .ok (.getfield 15, 3) := by decide +kernel
theorem dd_68_25 : decode prog_3_method_5_code 25 = .ok (.aload_n 0, 1) := by decide +kernel
theorem dd_68_26 : decode prog_3_method_5_code 26 = .ok (.getfield 9, 3) := by decide +kernel
theorem dd_68_29 : decode prog_3_method_5_code 29 = .ok (.iload_n 1, 1) := by decide +kernel
theorem dd_68_30 : decode prog_3_method_5_code 30 = .ok (.invokevirtual 78, 3) := by decide +kernel
theorem dd_68_33 : decode prog_3_method_5_code 33 = .ok (.invokestatic 81, 3) := by decide +kernel
theorem dd_68_36 : decode prog_3_method_5_code 36 = .ok (.invokevirtual 87, 3) := by decide +kernel
theorem dd_68_39 : decode prog_3_method_5_code 39 = .ok (.goto 99, 3) := by decide +kernel
theorem dd_68_42 : decode prog_3_method_5_code 42 = .ok (.iload_n 3, 1) := by decide +kernel
theorem dd_68_43 : decode prog_3_method_5_code 43 = .ok (.iconst 2, 1) := by decide +kernel
theorem dd_68_44 : decode prog_3_method_5_code 44 = .ok (.if_icmp .ne 24, 3) := by decide +kernel
theorem dd_68_47 : decode prog_3_method_5_code 47 = .ok (.aload_n 0, 1) := by decide +kernel
theorem dd_68_48 : decode prog_3_method_5_code 48 = .ok (.getfield 15, 3) := by decide +kernel
theorem dd_68_51 : decode prog_3_method_5_code 51 = .ok (.aload_n 0, 1) := by decide +kernel
theorem dd_68_52 : decode prog_3_method_5_code 52 = .ok (.getfield 9, 3) := by decide +kernel
theorem dd_68_55 : decode prog_3_method_5_code 55 = .ok (.iload_n 1, 1) := by decide +kernel
theorem dd_68_56 : decode prog_3_method_5_code 56 = .ok (.invokevirtual 78, 3) := by decide +kernel
theorem dd_68_59 : decode prog_3_method_5_code 59 = .ok (.invokestatic 91, 3) := by decide +kernel
theorem dd_68_62 : decode prog_3_method_5_code 62 = .ok (.invokevirtual 87, 3) := by decide +kernel
theorem dd_68_65 : decode prog_3_method_5_code 65 = .ok (.goto 73, 3) := by decide +kernel
theorem dd_68_68 : decode prog_3_method_5_code 68 = .ok (.aload_n 0, 1) := by decide +kernel
theorem dd_68_69 : decode prog_3_method_5_code 69 = .ok (.getfield 15, 3) := by decide +kernel
theorem dd_68_72 : decode prog_3_method_5_code 72 = .ok (.invokevirtual 94, 3) := by decide +kernel
theorem dd_68_75 : decode prog_3_method_5_code 75 = .ok (.istore 4, 2) := by decide +kernel
theorem dd_68_77 : decode prog_3_method_5_code 77 = .ok (.aload_n 0, 1) := by decide +kernel
theorem dd_68_78 : decode prog_3_method_5_code 78 = .ok (.getfield 9, 3) := by decide +kernel
theorem dd_68_81 : decode prog_3_method_5_code 81 = .ok (.iload_n 1, 1) := by decide +kernel
theorem dd_68_82 : decode prog_3_method_5_code 82 = .ok (.invokevirtual 54, 3) := by decide +kernel
theorem dd_68_85 : decode prog_3_method_5_code 85 = .ok (.istore 5, 2) := by decide +kernel
theorem dd_68_87 : decode prog_3_method_5_code 87 = .ok (.iconst 0, 1) := by decide +kernel
theorem dd_68_88 : decode prog_3_method_5_code 88 = .ok (.istore 6, 2) := by decide +kernel
theorem dd_68_90 : decode prog_3_method_5_code 90 = .ok (.iload 6, 2) := by decide +kernel
theorem dd_68_92 : decode prog_3_method_5_code 92 = .ok (.bipush 96, 2) := by decide +kernel
theorem dd_68_94 : decode prog_3_method_5_code 94 = .ok (.if_icmp .ge 35, 3) := by decide +kernel
theorem dd_68_97 : decode prog_3_method_5_code 97 = .ok (.iload 5, 2) := by decide +kernel
theorem dd_68_99 : decode prog_3_method_5_code 99 = .ok (.iconst (-1), 1) := by decide +kernel
theorem dd_68_100 : decode prog_3_method_5_code 100 = .ok (.if_icmp .eq 29, 3) := by decide +kernel
theorem dd_68_103 : decode prog_3_method_5_code 103 = .ok (.aload_n 0, 1) := by decide +kernel
theorem dd_68_104 : decode prog_3_method_5_code 104 = .ok (.iload 5, 2) := by decide +kernel
theorem dd_68_106 : decode prog_3_method_5_code 106 = .ok (.iload_n 2, 1) := by decide +kernel
theorem dd_68_107 : decode prog_3_method_5_code 107 = .ok (.iconst 1, 1) := by decide +kernel
theorem dd_68_108 : decode prog_3_method_5_code 108 = .ok (.iadd, 1) := by decide +kernel
theorem dd_68_109 : decode prog_3_method_5_code 109 = .ok (.invokevirtual 75, 3) := by decide +kernel
theorem dd_68_112 : decode prog_3_method_5_code 112 = .ok (.aload_n 0, 1) := by decide +kernel
theorem dd_68_113 : decode prog_3_method_5_code 113 = .ok (.getfield 9, 3) := by decide +kernel
theorem dd_68_116 : decode prog_3_method_5_code 116 = .ok (.iload 5, 2) := by decide +kernel
theorem dd_68_118 : decode prog_3_method_5_code 118 = .ok (.invokevirtual 100, 3) := by decide +kernel
theorem dd_68_121 : decode prog_3_method_5_code 121 = .ok (.istore 5, 2) := by decide +kernel
theorem dd_68_123 : decode prog_3_method_5_code 123 = .ok (.iinc 6 1, 3) := by decide +kernel
theorem dd_68_126 : decode prog_3_method_5_code 126 = .ok (.goto (-36), 3) := by decide +kernel
theorem dd_68_129 : decode prog_3_method_5_code 129 = .ok (.aload_n 0, 1) := by decide +kernel
theorem dd_68_130 : decode prog_3_method_5_code 130 = .ok (.getfield 15, 3) := by decide +kernel
theorem dd_68_133 : decode prog_3_method_5_code 133 = .ok (.iload 4, 2) := by decide +kernel
theorem dd_68_135 : decode prog_3_method_5_code 135 = .ok (.invokevirtual 103, 3) := by decide +kernel
theorem dd_68_138 : decode prog_3_method_5_code 138 = .ok (.return_, 1) := by decide +kernel
set_option maxRecDepth 100000 in
theorem okI_68 : mj_okI gG "PairMachine$Coder" prog_3_method_5_code 7 (mj_off oM_68) (Option.none : Option Jvm.ClassFile.FieldType) false true 0 cM_68 :=
  ⟨Or.inl ⟨2, rfl, dd_68_0, rfl⟩,
   Or.inl (Or.inr (Or.inl ⟨dd_68_1, rfl, by decide⟩)),
   ⟨4, dd_68_3, rfl, rfl⟩,
   ⟨dd_68_6, rfl⟩,
   Or.inl ⟨0, rfl, dd_68_7, rfl⟩,
   ⟨9, "PairMachine$Coder", fT5, 5, dd_68_8, rfl, okc_5, by decide, tw_391⟩,
   Or.inl ⟨1, rfl, dd_68_11, rfl⟩,
   ⟨rfl, tw_351, by decide, tw_113, by decide +kernel, 47, tw_408, dd_68_12, tw_353, ⟨"PairMachine$Tree", fT2, 7, rfl, tw_354⟩, by decide +kernel⟩,
   ⟨by decide, Or.inl ⟨3, rfl, dd_68_15, rfl⟩⟩,
   Or.inl ⟨3, rfl, dd_68_16, rfl⟩,
   Or.inl (Or.inl ⟨dd_68_17, rfl⟩),
   ⟨24, dd_68_18, rfl, rfl⟩,
   Or.inl ⟨0, rfl, dd_68_21, rfl⟩,
   ⟨15, "PairMachine$Coder", fT5, 5, dd_68_22, rfl, okc_5, by decide, tw_392⟩,
   Or.inl ⟨0, rfl, dd_68_25, rfl⟩,
   ⟨9, "PairMachine$Coder", fT5, 5, dd_68_26, rfl, okc_5, by decide, tw_391⟩,
   Or.inl ⟨1, rfl, dd_68_29, rfl⟩,
   ⟨rfl, tw_442, by decide, tw_113, by decide +kernel, 78, tw_443, dd_68_30, tw_444, ⟨"PairMachine$Tree", fT2, 7, rfl, tw_445⟩, by decide +kernel⟩,
   ⟨rfl, tw_383, by decide, tw_376, by decide +kernel, 81, tw_446, dd_68_33, tw_385, by decide +kernel⟩,
   ⟨rfl, tw_386, by decide, tw_133, by decide +kernel, 87, tw_447, dd_68_36, tw_388, ⟨"PairMachine$Code", fT4, 5, rfl, tw_389⟩, by decide +kernel⟩,
   ⟨99, dd_68_39, rfl⟩,
   Or.inl ⟨3, rfl, dd_68_42, rfl⟩,
   Or.inl (Or.inl ⟨dd_68_43, rfl⟩),
   ⟨24, dd_68_44, rfl, rfl⟩,
   Or.inl ⟨0, rfl, dd_68_47, rfl⟩,
   ⟨15, "PairMachine$Coder", fT5, 5, dd_68_48, rfl, okc_5, by decide, tw_392⟩,
   Or.inl ⟨0, rfl, dd_68_51, rfl⟩,
   ⟨9, "PairMachine$Coder", fT5, 5, dd_68_52, rfl, okc_5, by decide, tw_391⟩,
   Or.inl ⟨1, rfl, dd_68_55, rfl⟩,
   ⟨rfl, tw_442, by decide, tw_113, by decide +kernel, 78, tw_443, dd_68_56, tw_444, ⟨"PairMachine$Tree", fT2, 7, rfl, tw_445⟩, by decide +kernel⟩,
   ⟨rfl, tw_448, by decide, tw_376, by decide +kernel, 91, tw_449, dd_68_59, tw_450, by decide +kernel⟩,
   ⟨rfl, tw_386, by decide, tw_133, by decide +kernel, 87, tw_447, dd_68_62, tw_388, ⟨"PairMachine$Code", fT4, 5, rfl, tw_389⟩, by decide +kernel⟩,
   ⟨73, dd_68_65, rfl⟩,
   Or.inl ⟨0, rfl, dd_68_68, rfl⟩,
   ⟨15, "PairMachine$Coder", fT5, 5, dd_68_69, rfl, okc_5, by decide, tw_392⟩,
   ⟨rfl, tw_451, by decide, tw_133, by decide +kernel, 94, tw_452, dd_68_72, tw_453, ⟨"PairMachine$Code", fT4, 5, rfl, tw_454⟩, by decide +kernel⟩,
   ⟨by decide, Or.inr ⟨dd_68_75, rfl⟩⟩,
   Or.inl ⟨0, rfl, dd_68_77, rfl⟩,
   ⟨9, "PairMachine$Coder", fT5, 5, dd_68_78, rfl, okc_5, by decide, tw_391⟩,
   Or.inl ⟨1, rfl, dd_68_81, rfl⟩,
   ⟨rfl, tw_248, by decide, tw_113, by decide +kernel, 54, tw_413, dd_68_82, tw_250, ⟨"PairMachine$Tree", fT2, 7, rfl, tw_251⟩, by decide +kernel⟩,
   ⟨by decide, Or.inr ⟨dd_68_85, rfl⟩⟩,
   Or.inl (Or.inl ⟨dd_68_87, rfl⟩),
   ⟨by decide, Or.inr ⟨dd_68_88, rfl⟩⟩,
   Or.inr ⟨dd_68_90, rfl⟩,
   Or.inl (Or.inr (Or.inl ⟨dd_68_92, rfl, by decide⟩)),
   ⟨35, dd_68_94, rfl, rfl⟩,
   Or.inr ⟨dd_68_97, rfl⟩,
   Or.inl (Or.inl ⟨dd_68_99, rfl⟩),
   ⟨29, dd_68_100, rfl, rfl⟩,
   Or.inl ⟨0, rfl, dd_68_103, rfl⟩,
   Or.inr ⟨dd_68_104, rfl⟩,
   Or.inl ⟨2, rfl, dd_68_106, rfl⟩,
   Or.inl (Or.inl ⟨dd_68_107, rfl⟩),
   ⟨dd_68_108, rfl⟩,
   ⟨rfl, tw_438, by decide, tw_140, by decide +kernel, 75, tw_439, dd_68_109, tw_440, ⟨"PairMachine$Coder", fT5, 5, rfl, tw_441⟩, by decide +kernel⟩,
   Or.inl ⟨0, rfl, dd_68_112, rfl⟩,
   ⟨9, "PairMachine$Coder", fT5, 5, dd_68_113, rfl, okc_5, by decide, tw_391⟩,
   Or.inr ⟨dd_68_116, rfl⟩,
   ⟨rfl, tw_252, by decide, tw_113, by decide +kernel, 100, tw_455, dd_68_118, tw_254, ⟨"PairMachine$Tree", fT2, 7, rfl, tw_255⟩, by decide +kernel⟩,
   ⟨by decide, Or.inr ⟨dd_68_121, rfl⟩⟩,
   ⟨by decide, dd_68_123, rfl⟩,
   ⟨(-36), dd_68_126, rfl⟩,
   Or.inl ⟨0, rfl, dd_68_129, rfl⟩,
   ⟨15, "PairMachine$Coder", fT5, 5, dd_68_130, rfl, okc_5, by decide, tw_392⟩,
   Or.inr ⟨dd_68_133, rfl⟩,
   ⟨rfl, tw_456, by decide, tw_133, by decide +kernel, 103, tw_457, dd_68_135, tw_458, ⟨"PairMachine$Code", fT4, 5, rfl, tw_459⟩, by decide +kernel⟩,
   ⟨dd_68_138, rfl⟩, trivial⟩
theorem okM_68 : mj_okE gG 68 (cM_68, 7, oM_68, hM_68) := ⟨rfl, rfl, by decide +kernel, trivial, okI_68⟩
theorem dd_69_0 : decode prog_3_method_6_code 0 = .ok (.aload_n 0, 1) := by decide +kernel
theorem dd_69_1 : decode prog_3_method_6_code 1 = .ok (.aload_n 0, 1) := by decide +kernel
theorem dd_69_2 : decode prog_3_method_6_code 2 = .ok (.getfield 9, 3) := by decide +kernel
theorem dd_69_5 : decode prog_3_method_6_code 5 = .ok (.iload_n 1, 1) := by decide +kernel
theorem dd_69_6 : decode prog_3_method_6_code 6 = .ok (.invokevirtual 78, 3) := by decide +kernel
theorem dd_69_9 : decode prog_3_method_6_code 9 = .ok (.invokevirtual 106, 3) := by decide +kernel
theorem dd_69_12 : decode prog_3_method_6_code 12 = .ok (.istore_n 2, 1) := by decide +kernel
theorem dd_69_13 : decode prog_3_method_6_code 13 = .ok (.iload_n 2, 1) := by decide +kernel
theorem dd_69_14 : decode prog_3_method_6_code 14 = .ok (.iconst (-1), 1) := by decide +kernel
theorem dd_69_15 : decode prog_3_method_6_code 15 = .ok (.if_icmp .ne 15, 3) := by decide +kernel
theorem dd_69_18 : decode prog_3_method_6_code 18 = .ok (.aload_n 0, 1) := by decide +kernel
theorem dd_69_19 : decode prog_3_method_6_code 19 = .ok (.aload_n 0, 1) := by decide +kernel
theorem dd_69_20 : decode prog_3_method_6_code 20 = .ok (.getfield 9, 3) := by decide +kernel
theorem dd_69_23 : decode prog_3_method_6_code 23 = .ok (.iload_n 1, 1) := by decide +kernel
theorem dd_69_24 : decode prog_3_method_6_code 24 = .ok (.invokevirtual 109, 3) := by decide +kernel
theorem dd_69_27 : decode prog_3_method_6_code 27 = .ok (.invokevirtual 112, 3) := by decide +kernel
theorem dd_69_30 : decode prog_3_method_6_code 30 = .ok (.aload_n 0, 1) := by decide +kernel
theorem dd_69_31 : decode prog_3_method_6_code 31 = .ok (.getfield 15, 3) := by decide +kernel
theorem dd_69_34 : decode prog_3_method_6_code 34 = .ok (.iconst 2, 1) := by decide +kernel
theorem dd_69_35 : decode prog_3_method_6_code 35 = .ok (.invokevirtual 43, 3) := by decide +kernel
theorem dd_69_38 : decode prog_3_method_6_code 38 = .ok (.aload_n 0, 1) := by decide +kernel
theorem dd_69_39 : decode prog_3_method_6_code 39 = .ok (.getfield 15, 3) := by decide +kernel
theorem dd_69_42 : decode prog_3_method_6_code 42 = .ok (.iload_n 2, 1) := by decide +kernel
theorem dd_69_43 : decode prog_3_method_6_code 43 = .ok (.invokestatic 81, 3) := by decide +kernel
theorem dd_69_46 : decode prog_3_method_6_code 46 = .ok (.invokevirtual 87, 3) := by decide +kernel
theorem dd_69_49 : decode prog_3_method_6_code 49 = .ok (.return_, 1) := by decide +kernel
set_option maxRecDepth 100000 in
theorem okI_69 : mj_okI gG "PairMachine$Coder" prog_3_method_6_code 3 (mj_off oM_69) (Option.none : Option Jvm.ClassFile.FieldType) false true 0 cM_69 :=
  ⟨Or.inl ⟨0, rfl, dd_69_0, rfl⟩,
   Or.inl ⟨0, rfl, dd_69_1, rfl⟩,
   ⟨9, "PairMachine$Coder", fT5, 5, dd_69_2, rfl, okc_5, by decide, tw_391⟩,
   Or.inl ⟨1, rfl, dd_69_5, rfl⟩,
   ⟨rfl, tw_442, by decide, tw_113, by decide +kernel, 78, tw_443, dd_69_6, tw_444, ⟨"PairMachine$Tree", fT2, 7, rfl, tw_445⟩, by decide +kernel⟩,
   ⟨rfl, tw_460, by decide, tw_140, by decide +kernel, 106, tw_461, dd_69_9, tw_462, ⟨"PairMachine$Coder", fT5, 5, rfl, tw_463⟩, by decide +kernel⟩,
   ⟨by decide, Or.inl ⟨2, rfl, dd_69_12, rfl⟩⟩,
   Or.inl ⟨2, rfl, dd_69_13, rfl⟩,
   Or.inl (Or.inl ⟨dd_69_14, rfl⟩),
   ⟨15, dd_69_15, rfl, rfl⟩,
   Or.inl ⟨0, rfl, dd_69_18, rfl⟩,
   Or.inl ⟨0, rfl, dd_69_19, rfl⟩,
   ⟨9, "PairMachine$Coder", fT5, 5, dd_69_20, rfl, okc_5, by decide, tw_391⟩,
   Or.inl ⟨1, rfl, dd_69_23, rfl⟩,
   ⟨rfl, tw_464, by decide, tw_113, by decide +kernel, 109, tw_465, dd_69_24, tw_466, ⟨"PairMachine$Tree", fT2, 7, rfl, tw_467⟩, by decide +kernel⟩,
   ⟨rfl, tw_468, by decide, tw_140, by decide +kernel, 112, tw_469, dd_69_27, tw_470, ⟨"PairMachine$Coder", fT5, 5, rfl, tw_471⟩, by decide +kernel⟩,
   Or.inl ⟨0, rfl, dd_69_30, rfl⟩,
   ⟨15, "PairMachine$Coder", fT5, 5, dd_69_31, rfl, okc_5, by decide, tw_392⟩,
   Or.inl (Or.inl ⟨dd_69_34, rfl⟩),
   ⟨rfl, tw_404, by decide, tw_133, by decide +kernel, 43, tw_405, dd_69_35, tw_406, ⟨"PairMachine$Code", fT4, 5, rfl, tw_407⟩, by decide +kernel⟩,
   Or.inl ⟨0, rfl, dd_69_38, rfl⟩,
   ⟨15, "PairMachine$Coder", fT5, 5, dd_69_39, rfl, okc_5, by decide, tw_392⟩,
   Or.inl ⟨2, rfl, dd_69_42, rfl⟩,
   ⟨rfl, tw_383, by decide, tw_376, by decide +kernel, 81, tw_446, dd_69_43, tw_385, by decide +kernel⟩,
   ⟨rfl, tw_386, by decide, tw_133, by decide +kernel, 87, tw_447, dd_69_46, tw_388, ⟨"PairMachine$Code", fT4, 5, rfl, tw_389⟩, by decide +kernel⟩,
   ⟨dd_69_49, rfl⟩, trivial⟩
theorem okM_69 : mj_okE gG 69 (cM_69, 3, oM_69, hM_69) := ⟨rfl, rfl, by decide +kernel, trivial, okI_69⟩
theorem dd_70_0 : decode prog_3_method_7_code 0 = .ok (.aload_n 0, 1) := by decide +kernel
theorem dd_70_1 : decode prog_3_method_7_code 1 = .ok (.getfield 32, 3) := by decide +kernel
theorem dd_70_4 : decode prog_3_method_7_code 4 = .ok (.iconst (-1), 1) := by decide +kernel
theorem dd_70_5 : decode prog_3_method_7_code 5 = .ok (.if_icmp .eq 11, 3) := by decide +kernel
theorem dd_70_8 : decode prog_3_method_7_code 8 = .ok (.iload_n 1, 1) := by decide +kernel
theorem dd_70_9 : decode prog_3_method_7_code 9 = .ok (.aload_n 0, 1) := by decide +kernel
theorem dd_70_10 : decode prog_3_method_7_code 10 = .ok (.getfield 32, 3) := by decide +kernel
theorem dd_70_13 : decode prog_3_method_7_code 13 = .ok (.if_icmp .ge 8, 3) := by decide +kernel
theorem dd_70_16 : decode prog_3_method_7_code 16 = .ok (.aload_n 0, 1) := by decide +kernel
theorem dd_70_17 : decode prog_3_method_7_code 17 = .ok (.iload_n 1, 1) := by decide +kernel
theorem dd_70_18 : decode prog_3_method_7_code 18 = .ok (.putfield 32, 3) := by decide +kernel
theorem dd_70_21 : decode prog_3_method_7_code 21 = .ok (.return_, 1) := by decide +kernel
set_option maxRecDepth 100000 in
theorem okI_70 : mj_okI gG "PairMachine$Coder" prog_3_method_7_code 2 (mj_off oM_70) (Option.none : Option Jvm.ClassFile.FieldType) false true 0 cM_70 :=
  ⟨Or.inl ⟨0, rfl, dd_70_0, rfl⟩,
   ⟨32, "PairMachine$Coder", fT5, 5, dd_70_1, rfl, okc_5, by decide, tw_399⟩,
   Or.inl (Or.inl ⟨dd_70_4, rfl⟩),
   ⟨11, dd_70_5, rfl, rfl⟩,
   Or.inl ⟨1, rfl, dd_70_8, rfl⟩,
   Or.inl ⟨0, rfl, dd_70_9, rfl⟩,
   ⟨32, "PairMachine$Coder", fT5, 5, dd_70_10, rfl, okc_5, by decide, tw_399⟩,
   ⟨8, dd_70_13, rfl, rfl⟩,
   Or.inl ⟨0, rfl, dd_70_16, rfl⟩,
   Or.inl ⟨1, rfl, dd_70_17, rfl⟩,
   ⟨32, "PairMachine$Coder", fT5, 5, dd_70_18, rfl, okc_5, by decide, tw_399, rfl, Or.inl rfl⟩,
   ⟨dd_70_21, rfl⟩, trivial⟩
theorem okM_70 : mj_okE gG 70 (cM_70, 2, oM_70, hM_70) := ⟨rfl, rfl, by decide +kernel, trivial, okI_70⟩
