theorem dd_169_0 : decode prog_13_method_15_code 0 = .ok (.iload_n 0, 1) := by decide +kernel
theorem dd_169_1 : decode prog_13_method_15_code 1 = .ok (.lookupswitch 97 #[(33, 93), (42, 91), (43, 91), (45, 91), (46, 91), (60, 91), (61, 91), (63, 95), (94, 93), (95, 93)], 91) := by decide +kernel
theorem dd_169_92 : decode prog_13_method_15_code 92 = .ok (.iconst 2, 1) := by decide +kernel
theorem dd_169_93 : decode prog_13_method_15_code 93 = .ok (.ireturn, 1) := by decide +kernel
theorem dd_169_94 : decode prog_13_method_15_code 94 = .ok (.iconst 1, 1) := by decide +kernel
theorem dd_169_95 : decode prog_13_method_15_code 95 = .ok (.ireturn, 1) := by decide +kernel
theorem dd_169_96 : decode prog_13_method_15_code 96 = .ok (.iconst 3, 1) := by decide +kernel
theorem dd_169_97 : decode prog_13_method_15_code 97 = .ok (.ireturn, 1) := by decide +kernel
theorem dd_169_98 : decode prog_13_method_15_code 98 = .ok (.iconst 0, 1) := by decide +kernel
theorem dd_169_99 : decode prog_13_method_15_code 99 = .ok (.ireturn, 1) := by decide +kernel
set_option maxRecDepth 100000 in
theorem okI_169 : mj_okI gG "PairMachineModel" prog_13_method_15_code 1 (mj_off oM_169) (Option.some Jvm.ClassFile.FieldType.int) false true 0 cM_169 :=
  ⟨Or.inl ⟨0, rfl, dd_169_0, rfl⟩,
   Or.inl ⟨97, #[(33, 93), (42, 91), (43, 91), (45, 91), (46, 91), (60, 91), (61, 91), (63, 95), (94, 93), (95, 93)], 91, dd_169_1, by decide, rfl, rfl, by decide +kernel⟩,
   Or.inl (Or.inl ⟨dd_169_92, rfl⟩),
   ⟨dd_169_93, rfl⟩,
   Or.inl (Or.inl ⟨dd_169_94, rfl⟩),
   ⟨dd_169_95, rfl⟩,
   Or.inl (Or.inl ⟨dd_169_96, rfl⟩),
   ⟨dd_169_97, rfl⟩,
   Or.inl (Or.inl ⟨dd_169_98, rfl⟩),
   ⟨dd_169_99, rfl⟩, trivial⟩
theorem okM_169 : mj_okE gG 169 (cM_169, 1, oM_169, hM_169) := ⟨rfl, rfl, by decide +kernel, trivial, okI_169⟩
theorem dd_170_0 : decode prog_13_method_16_code 0 = .ok (.aload_n 0, 1) := by decide +kernel
theorem dd_170_1 : decode prog_13_method_16_code 1 = .ok (.iconst 0, 1) := by decide +kernel
theorem dd_170_2 : decode prog_13_method_16_code 2 = .ok (.iload_n 1, 1) := by decide +kernel
theorem dd_170_3 : decode prog_13_method_16_code 3 = .ok (.invokevirtual 138, 3) := by decide +kernel
theorem dd_170_6 : decode prog_13_method_16_code 6 = .ok (.istore_n 2, 1) := by decide +kernel
theorem dd_170_7 : decode prog_13_method_16_code 7 = .ok (.aload_n 0, 1) := by decide +kernel
theorem dd_170_8 : decode prog_13_method_16_code 8 = .ok (.iconst 0, 1) := by decide +kernel
theorem dd_170_9 : decode prog_13_method_16_code 9 = .ok (.invokevirtual 108, 3) := by decide +kernel
theorem dd_170_12 : decode prog_13_method_16_code 12 = .ok (.istore_n 3, 1) := by decide +kernel
theorem dd_170_13 : decode prog_13_method_16_code 13 = .ok (.iload_n 3, 1) := by decide +kernel
theorem dd_170_14 : decode prog_13_method_16_code 14 = .ok (.invokestatic 129, 3) := by decide +kernel
theorem dd_170_17 : decode prog_13_method_16_code 17 = .ok (.ifCond .eq 29, 3) := by decide +kernel
theorem dd_170_20 : decode prog_13_method_16_code 20 = .ok (.aload_n 0, 1) := by decide +kernel
theorem dd_170_21 : decode prog_13_method_16_code 21 = .ok (.getfield 17, 3) := by decide +kernel
theorem dd_170_24 : decode prog_13_method_16_code 24 = .ok (.iload_n 2, 1) := by decide +kernel
theorem dd_170_25 : decode prog_13_method_16_code 25 = .ok (.iconst 1, 1) := by decide +kernel
theorem dd_170_26 : decode prog_13_method_16_code 26 = .ok (.iastore, 1) := by decide +kernel
theorem dd_170_27 : decode prog_13_method_16_code 27 = .ok (.aload_n 0, 1) := by decide +kernel
theorem dd_170_28 : decode prog_13_method_16_code 28 = .ok (.getfield 27, 3) := by decide +kernel
theorem dd_170_31 : decode prog_13_method_16_code 31 = .ok (.iload_n 2, 1) := by decide +kernel
theorem dd_170_32 : decode prog_13_method_16_code 32 = .ok (.iload_n 3, 1) := by decide +kernel
theorem dd_170_33 : decode prog_13_method_16_code 33 = .ok (.iastore, 1) := by decide +kernel
theorem dd_170_34 : decode prog_13_method_16_code 34 = .ok (.aload_n 0, 1) := by decide +kernel
theorem dd_170_35 : decode prog_13_method_16_code 35 = .ok (.dup, 1) := by decide +kernel
theorem dd_170_36 : decode prog_13_method_16_code 36 = .ok (.getfield 105, 3) := by decide +kernel
theorem dd_170_39 : decode prog_13_method_16_code 39 = .ok (.iconst 1, 1) := by decide +kernel
theorem dd_170_40 : decode prog_13_method_16_code 40 = .ok (.iadd, 1) := by decide +kernel
theorem dd_170_41 : decode prog_13_method_16_code 41 = .ok (.putfield 105, 3) := by decide +kernel
theorem dd_170_44 : decode prog_13_method_16_code 44 = .ok (.iconst 0, 1) := by decide +kernel
theorem dd_170_45 : decode prog_13_method_16_code 45 = .ok (.ireturn, 1) := by decide +kernel
theorem dd_170_46 : decode prog_13_method_16_code 46 = .ok (.iload_n 3, 1) := by decide +kernel
theorem dd_170_47 : decode prog_13_method_16_code 47 = .ok (.bipush 39, 2) := by decide +kernel
theorem dd_170_49 : decode prog_13_method_16_code 49 = .ok (.if_icmp .ne 47, 3) := by decide +kernel
theorem dd_170_52 : decode prog_13_method_16_code 52 = .ok (.aload_n 0, 1) := by decide +kernel
theorem dd_170_53 : decode prog_13_method_16_code 53 = .ok (.getfield 17, 3) := by decide +kernel
theorem dd_170_56 : decode prog_13_method_16_code 56 = .ok (.iload_n 2, 1) := by decide +kernel
theorem dd_170_57 : decode prog_13_method_16_code 57 = .ok (.iconst 2, 1) := by decide +kernel
theorem dd_170_58 : decode prog_13_method_16_code 58 = .ok (.iastore, 1) := by decide +kernel
theorem dd_170_59 : decode prog_13_method_16_code 59 = .ok (.aload_n 0, 1) := by decide +kernel
theorem dd_170_60 : decode prog_13_method_16_code 60 = .ok (.dup, 1) := by decide +kernel
theorem dd_170_61 : decode prog_13_method_16_code 61 = .ok (.getfield 105, 3) := by decide +kernel
theorem dd_170_64 : decode prog_13_method_16_code 64 = .ok (.iconst 1, 1) := by decide +kernel
theorem dd_170_65 : decode prog_13_method_16_code 65 = .ok (.iadd, 1) := by decide +kernel
theorem dd_170_66 : decode prog_13_method_16_code 66 = .ok (.putfield 105, 3) := by decide +kernel
theorem dd_170_69 : decode prog_13_method_16_code 69 = .ok (.aload_n 0, 1) := by decide +kernel
theorem dd_170_70 : decode prog_13_method_16_code 70 = .ok (.invokevirtual 142, 3) := by decide +kernel
theorem dd_170_73 : decode prog_13_method_16_code 73 = .ok (.istore 4, 2) := by decide +kernel
theorem dd_170_75 : decode prog_13_method_16_code 75 = .ok (.aload_n 0, 1) := by decide +kernel
theorem dd_170_76 : decode prog_13_method_16_code 76 = .ok (.getfield 24, 3) := by decide +kernel
theorem dd_170_79 : decode prog_13_method_16_code 79 = .ok (.iload_n 2, 1) := by decide +kernel
theorem dd_170_80 : decode prog_13_method_16_code 80 = .ok (.aload_n 0, 1) := by decide +kernel
theorem dd_170_81 : decode prog_13_method_16_code 81 = .ok (.getfield 105, 3) := by decide +kernel
theorem dd_170_84 : decode prog_13_method_16_code 84 = .ok (.iastore, 1) := by decide +kernel
theorem dd_170_85 : decode prog_13_method_16_code 85 = .ok (.iload 4, 2) := by decide +kernel
theorem dd_170_87 : decode prog_13_method_16_code 87 = .ok (.ifCond .eq 7, 3) := by decide +kernel
theorem dd_170_90 : decode prog_13_method_16_code 90 = .ok (.iconst 0, 1) := by decide +kernel
theorem dd_170_91 : decode prog_13_method_16_code 91 = .ok (.goto 4, 3) := by decide +kernel
theorem dd_170_94 : decode prog_13_method_16_code 94 = .ok (.iconst (-1), 1) := by decide +kernel
theorem dd_170_95 : decode prog_13_method_16_code 95 = .ok (.ireturn, 1) := by decide +kernel
theorem dd_170_96 : decode prog_13_method_16_code 96 = .ok (.iload_n 3, 1) := by decide +kernel
theorem dd_170_97 : decode prog_13_method_16_code 97 = .ok (.bipush 40, 2) := by decide +kernel
theorem dd_170_99 : decode prog_13_method_16_code 99 = .ok (.if_icmp .eq 45, 3) := by decide +kernel
theorem dd_170_102 : decode prog_13_method_16_code 102 = .ok (.aload_n 0, 1) := by decide +kernel
theorem dd_170_103 : decode prog_13_method_16_code 103 = .ok (.invokevirtual 132, 3) := by decide +kernel
theorem dd_170_106 : decode prog_13_method_16_code 106 = .ok (.istore 4, 2) := by decide +kernel
theorem dd_170_108 : decode prog_13_method_16_code 108 = .ok (.aload_n 0, 1) := by decide +kernel
theorem dd_170_109 : decode prog_13_method_16_code 109 = .ok (.getfield 27, 3) := by decide +kernel
theorem dd_170_112 : decode prog_13_method_16_code 112 = .ok (.iload_n 2, 1) := by decide +kernel
theorem dd_170_113 : decode prog_13_method_16_code 113 = .ok (.iload 4, 2) := by decide +kernel
theorem dd_170_115 : decode prog_13_method_16_code 115 = .ok (.ifCond .eq 16, 3) := by decide +kernel
theorem dd_170_118 : decode prog_13_method_16_code 118 = .ok (.aload_n 0, 1) := by decide +kernel
theorem dd_170_119 : decode prog_13_method_16_code 119 = .ok (.aload_n 0, 1) := by decide +kernel
theorem dd_170_120 : decode prog_13_method_16_code 120 = .ok (.getfield 21, 3) := by decide +kernel
theorem dd_170_123 : decode prog_13_method_16_code 123 = .ok (.iload_n 2, 1) := by decide +kernel
theorem dd_170_124 : decode prog_13_method_16_code 124 = .ok (.iaload, 1) := by decide +kernel
theorem dd_170_125 : decode prog_13_method_16_code 125 = .ok (.invokevirtual 145, 3) := by decide +kernel
theorem dd_170_128 : decode prog_13_method_16_code 128 = .ok (.goto 4, 3) := by decide +kernel
theorem dd_170_131 : decode prog_13_method_16_code 131 = .ok (.iconst 0, 1) := by decide +kernel
theorem dd_170_132 : decode prog_13_method_16_code 132 = .ok (.iastore, 1) := by decide +kernel
theorem dd_170_133 : decode prog_13_method_16_code 133 = .ok (.iload 4, 2) := by decide +kernel
theorem dd_170_135 : decode prog_13_method_16_code 135 = .ok (.ifCond .eq 7, 3) := by decide +kernel
theorem dd_170_138 : decode prog_13_method_16_code 138 = .ok (.iconst 0, 1) := by decide +kernel
theorem dd_170_139 : decode prog_13_method_16_code 139 = .ok (.goto 4, 3) := by decide +kernel
theorem dd_170_142 : decode prog_13_method_16_code 142 = .ok (.iconst (-1), 1) := by decide +kernel
theorem dd_170_143 : decode prog_13_method_16_code 143 = .ok (.ireturn, 1) := by decide +kernel
theorem dd_170_144 : decode prog_13_method_16_code 144 = .ok (.aload_n 0, 1) := by decide +kernel
theorem dd_170_145 : decode prog_13_method_16_code 145 = .ok (.invokevirtual 125, 3) := by decide +kernel
theorem dd_170_148 : decode prog_13_method_16_code 148 = .ok (.ifCond .ne 5, 3) := by decide +kernel
theorem dd_170_151 : decode prog_13_method_16_code 151 = .ok (.iconst (-1), 1) := by decide +kernel
theorem dd_170_152 : decode prog_13_method_16_code 152 = .ok (.ireturn, 1) := by decide +kernel
theorem dd_170_153 : decode prog_13_method_16_code 153 = .ok (.aload_n 0, 1) := by decide +kernel
theorem dd_170_154 : decode prog_13_method_16_code 154 = .ok (.iconst 0, 1) := by decide +kernel
theorem dd_170_155 : decode prog_13_method_16_code 155 = .ok (.invokevirtual 108, 3) := by decide +kernel
theorem dd_170_158 : decode prog_13_method_16_code 158 = .ok (.istore_n 3, 1) := by decide +kernel
theorem dd_170_159 : decode prog_13_method_16_code 159 = .ok (.iload_n 3, 1) := by decide +kernel
theorem dd_170_160 : decode prog_13_method_16_code 160 = .ok (.invokestatic 149, 3) := by decide +kernel
theorem dd_170_163 : decode prog_13_method_16_code 163 = .ok (.ifCond .le 59, 3) := by decide +kernel
theorem dd_170_166 : decode prog_13_method_16_code 166 = .ok (.iload_n 3, 1) := by decide +kernel
theorem dd_170_167 : decode prog_13_method_16_code 167 = .ok (.bipush 45, 2) := by decide +kernel
theorem dd_170_169 : decode prog_13_method_16_code 169 = .ok (.if_icmp .ne 14, 3) := by decide +kernel
theorem dd_170_172 : decode prog_13_method_16_code 172 = .ok (.aload_n 0, 1) := by decide +kernel
theorem dd_170_173 : decode prog_13_method_16_code 173 = .ok (.iconst 1, 1) := by decide +kernel
theorem dd_170_174 : decode prog_13_method_16_code 174 = .ok (.invokevirtual 108, 3) := by decide +kernel
theorem dd_170_177 : decode prog_13_method_16_code 177 = .ok (.invokestatic 122, 3) := by decide +kernel
theorem dd_170_180 : decode prog_13_method_16_code 180 = .ok (.ifCond .ne 42, 3) := by decide +kernel
theorem dd_170_183 : decode prog_13_method_16_code 183 = .ok (.aload_n 0, 1) := by decide +kernel
theorem dd_170_184 : decode prog_13_method_16_code 184 = .ok (.getfield 17, 3) := by decide +kernel
theorem dd_170_187 : decode prog_13_method_16_code 187 = .ok (.iload_n 2, 1) := by decide +kernel
theorem dd_170_188 : decode prog_13_method_16_code 188 = .ok (.iconst 3, 1) := by decide +kernel
theorem dd_170_189 : decode prog_13_method_16_code 189 = .ok (.iastore, 1) := by decide +kernel
theorem dd_170_190 : decode prog_13_method_16_code 190 = .ok (.aload_n 0, 1) := by decide +kernel
theorem dd_170_191 : decode prog_13_method_16_code 191 = .ok (.getfield 27, 3) := by decide +kernel
theorem dd_170_194 : decode prog_13_method_16_code 194 = .ok (.iload_n 2, 1) := by decide +kernel
theorem dd_170_195 : decode prog_13_method_16_code 195 = .ok (.iload_n 3, 1) := by decide +kernel
theorem dd_170_196 : decode prog_13_method_16_code 196 = .ok (.iastore, 1) := by decide +kernel
theorem dd_170_197 : decode prog_13_method_16_code 197 = .ok (.aload_n 0, 1) := by decide +kernel
theorem dd_170_198 : decode prog_13_method_16_code 198 = .ok (.dup, 1) := by decide +kernel
theorem dd_170_199 : decode prog_13_method_16_code 199 = .ok (.getfield 105, 3) := by decide +kernel
theorem dd_170_202 : decode prog_13_method_16_code 202 = .ok (.iconst 1, 1) := by decide +kernel
theorem dd_170_203 : decode prog_13_method_16_code 203 = .ok (.iadd, 1) := by decide +kernel
theorem dd_170_204 : decode prog_13_method_16_code 204 = .ok (.putfield 105, 3) := by decide +kernel
theorem dd_170_207 : decode prog_13_method_16_code 207 = .ok (.aload_n 0, 1) := by decide +kernel
theorem dd_170_208 : decode prog_13_method_16_code 208 = .ok (.bipush 32, 2) := by decide +kernel
theorem dd_170_210 : decode prog_13_method_16_code 210 = .ok (.invokevirtual 115, 3) := by decide +kernel
theorem dd_170_213 : decode prog_13_method_16_code 213 = .ok (.ifCond .eq 7, 3) := by decide +kernel
theorem dd_170_216 : decode prog_13_method_16_code 216 = .ok (.iconst 1, 1) := by decide +kernel
theorem dd_170_217 : decode prog_13_method_16_code 217 = .ok (.goto 4, 3) := by decide +kernel
theorem dd_170_220 : decode prog_13_method_16_code 220 = .ok (.iconst (-1), 1) := by decide +kernel
theorem dd_170_221 : decode prog_13_method_16_code 221 = .ok (.ireturn, 1) := by decide +kernel
theorem dd_170_222 : decode prog_13_method_16_code 222 = .ok (.iload_n 3, 1) := by decide +kernel
theorem dd_170_223 : decode prog_13_method_16_code 223 = .ok (.bipush 92, 2) := by decide +kernel
theorem dd_170_225 : decode prog_13_method_16_code 225 = .ok (.if_icmp .ne 34, 3) := by decide +kernel
theorem dd_170_228 : decode prog_13_method_16_code 228 = .ok (.aload_n 0, 1) := by decide +kernel
theorem dd_170_229 : decode prog_13_method_16_code 229 = .ok (.getfield 17, 3) := by decide +kernel
theorem dd_170_232 : decode prog_13_method_16_code 232 = .ok (.iload_n 2, 1) := by decide +kernel
theorem dd_170_233 : decode prog_13_method_16_code 233 = .ok (.iconst 5, 1) := by decide +kernel
theorem dd_170_234 : decode prog_13_method_16_code 234 = .ok (.iastore, 1) := by decide +kernel
theorem dd_170_235 : decode prog_13_method_16_code 235 = .ok (.aload_n 0, 1) := by decide +kernel
theorem dd_170_236 : decode prog_13_method_16_code 236 = .ok (.dup, 1) := by decide +kernel
theorem dd_170_237 : decode prog_13_method_16_code 237 = .ok (.getfield 105, 3) := by decide +kernel
theorem dd_170_240 : decode prog_13_method_16_code 240 = .ok (.iconst 1, 1) := by decide +kernel
theorem dd_170_241 : decode prog_13_method_16_code 241 = .ok (.iadd, 1) := by decide +kernel
theorem dd_170_242 : decode prog_13_method_16_code 242 = .ok (.putfield 105, 3) := by decide +kernel
theorem dd_170_245 : decode prog_13_method_16_code 245 = .ok (.aload_n 0, 1) := by decide +kernel
theorem dd_170_246 : decode prog_13_method_16_code 246 = .ok (.iload_n 2, 1) := by decide +kernel
theorem dd_170_247 : decode prog_13_method_16_code 247 = .ok (.invokevirtual 153, 3) := by decide +kernel
theorem dd_170_250 : decode prog_13_method_16_code 250 = .ok (.ifCond .eq 7, 3) := by decide +kernel
theorem dd_170_253 : decode prog_13_method_16_code 253 = .ok (.iconst 1, 1) := by decide +kernel
theorem dd_170_254 : decode prog_13_method_16_code 254 = .ok (.goto 4, 3) := by decide +kernel
theorem dd_170_257 : decode prog_13_method_16_code 257 = .ok (.iconst (-1), 1) := by decide +kernel
theorem dd_170_258 : decode prog_13_method_16_code 258 = .ok (.ireturn, 1) := by decide +kernel
theorem dd_170_259 : decode prog_13_method_16_code 259 = .ok (.iload_n 3, 1) := by decide +kernel
theorem dd_170_260 : decode prog_13_method_16_code 260 = .ok (.bipush 58, 2) := by decide +kernel
theorem dd_170_262 : decode prog_13_method_16_code 262 = .ok (.if_icmp .eq 9, 3) := by decide +kernel
theorem dd_170_265 : decode prog_13_method_16_code 265 = .ok (.iload_n 3, 1) := by decide +kernel
theorem dd_170_266 : decode prog_13_method_16_code 266 = .ok (.bipush 59, 2) := by decide +kernel
theorem dd_170_268 : decode prog_13_method_16_code 268 = .ok (.if_icmp .ne 47, 3) := by decide +kernel
theorem dd_170_271 : decode prog_13_method_16_code 271 = .ok (.aload_n 0, 1) := by decide +kernel
theorem dd_170_272 : decode prog_13_method_16_code 272 = .ok (.getfield 17, 3) := by decide +kernel
theorem dd_170_275 : decode prog_13_method_16_code 275 = .ok (.iload_n 2, 1) := by decide +kernel
theorem dd_170_276 : decode prog_13_method_16_code 276 = .ok (.iload_n 3, 1) := by decide +kernel
theorem dd_170_277 : decode prog_13_method_16_code 277 = .ok (.bipush 58, 2) := by decide +kernel
theorem dd_170_279 : decode prog_13_method_16_code 279 = .ok (.if_icmp .ne 8, 3) := by decide +kernel
theorem dd_170_282 : decode prog_13_method_16_code 282 = .ok (.bipush 6, 2) := by decide +kernel
theorem dd_170_284 : decode prog_13_method_16_code 284 = .ok (.goto 5, 3) := by decide +kernel
theorem dd_170_287 : decode prog_13_method_16_code 287 = .ok (.bipush 7, 2) := by decide +kernel
theorem dd_170_289 : decode prog_13_method_16_code 289 = .ok (.iastore, 1) := by decide +kernel
theorem dd_170_290 : decode prog_13_method_16_code 290 = .ok (.aload_n 0, 1) := by decide +kernel
theorem dd_170_291 : decode prog_13_method_16_code 291 = .ok (.dup, 1) := by decide +kernel
theorem dd_170_292 : decode prog_13_method_16_code 292 = .ok (.getfield 105, 3) := by decide +kernel
theorem dd_170_295 : decode prog_13_method_16_code 295 = .ok (.iconst 1, 1) := by decide +kernel
theorem dd_170_296 : decode prog_13_method_16_code 296 = .ok (.iadd, 1) := by decide +kernel
theorem dd_170_297 : decode prog_13_method_16_code 297 = .ok (.putfield 105, 3) := by decide +kernel
theorem dd_170_300 : decode prog_13_method_16_code 300 = .ok (.aload_n 0, 1) := by decide +kernel
theorem dd_170_301 : decode prog_13_method_16_code 301 = .ok (.bipush 32, 2) := by decide +kernel
theorem dd_170_303 : decode prog_13_method_16_code 303 = .ok (.invokevirtual 115, 3) := by decide +kernel
theorem dd_170_306 : decode prog_13_method_16_code 306 = .ok (.ifCond .eq 7, 3) := by decide +kernel
theorem dd_170_309 : decode prog_13_method_16_code 309 = .ok (.iconst 1, 1) := by decide +kernel
theorem dd_170_310 : decode prog_13_method_16_code 310 = .ok (.goto 4, 3) := by decide +kernel
theorem dd_170_313 : decode prog_13_method_16_code 313 = .ok (.iconst (-1), 1) := by decide +kernel
theorem dd_170_314 : decode prog_13_method_16_code 314 = .ok (.ireturn, 1) := by decide +kernel
theorem dd_170_315 : decode prog_13_method_16_code 315 = .ok (.aload_n 0, 1) := by decide +kernel
theorem dd_170_316 : decode prog_13_method_16_code 316 = .ok (.getfield 17, 3) := by decide +kernel
theorem dd_170_319 : decode prog_13_method_16_code 319 = .ok (.iload_n 2, 1) := by decide +kernel
theorem dd_170_320 : decode prog_13_method_16_code 320 = .ok (.iconst 4, 1) := by decide +kernel
theorem dd_170_321 : decode prog_13_method_16_code 321 = .ok (.iastore, 1) := by decide +kernel
theorem dd_170_322 : decode prog_13_method_16_code 322 = .ok (.iconst 1, 1) := by decide +kernel
theorem dd_170_323 : decode prog_13_method_16_code 323 = .ok (.ireturn, 1) := by decide +kernel
set_option maxRecDepth 100000 in
theorem okI_170 : mj_okI gG "PairMachineModel" prog_13_method_16_code 5 (mj_off oM_170) (Option.some Jvm.ClassFile.FieldType.int) false true 0 cM_170 :=
  ⟨Or.inl ⟨0, rfl, dd_170_0, rfl⟩,
   Or.inl (Or.inl ⟨dd_170_1, rfl⟩),
   Or.inl ⟨1, rfl, dd_170_2, rfl⟩,
   ⟨rfl, tw_836, by decide, tw_12, by decide +kernel, 138, tw_837, dd_170_3, tw_838, ⟨"PairMachineModel", fT10, 45, rfl, tw_839⟩, by decide +kernel⟩,
   ⟨by decide, Or.inl ⟨2, rfl, dd_170_6, rfl⟩⟩,
   Or.inl ⟨0, rfl, dd_170_7, rfl⟩,
   Or.inl (Or.inl ⟨dd_170_8, rfl⟩),
   ⟨rfl, tw_808, by decide, tw_12, by decide +kernel, 108, tw_809, dd_170_9, tw_810, ⟨"PairMachineModel", fT10, 45, rfl, tw_811⟩, by decide +kernel⟩,
   ⟨by decide, Or.inl ⟨3, rfl, dd_170_12, rfl⟩⟩,
   Or.inl ⟨3, rfl, dd_170_13, rfl⟩,
   ⟨rfl, tw_825, by decide, tw_12, by decide +kernel, 129, tw_826, dd_170_14, tw_827, by decide +kernel⟩,
   ⟨29, dd_170_17, rfl, rfl⟩,
   Or.inl ⟨0, rfl, dd_170_20, rfl⟩,
   ⟨17, "PairMachineModel", fT10, 45, dd_170_21, rfl, okc_10, by decide, tw_778⟩,
   Or.inl ⟨2, rfl, dd_170_24, rfl⟩,
   Or.inl (Or.inl ⟨dd_170_25, rfl⟩),
   ⟨dd_170_26, rfl⟩,
   Or.inl ⟨0, rfl, dd_170_27, rfl⟩,
   ⟨27, "PairMachineModel", fT10, 45, dd_170_28, rfl, okc_10, by decide, tw_781⟩,
   Or.inl ⟨2, rfl, dd_170_31, rfl⟩,
   Or.inl ⟨3, rfl, dd_170_32, rfl⟩,
   ⟨dd_170_33, rfl⟩,
   Or.inl ⟨0, rfl, dd_170_34, rfl⟩,
   ⟨dd_170_35, rfl⟩,
   ⟨105, "PairMachineModel", fT10, 45, dd_170_36, rfl, okc_10, by decide, tw_807⟩,
   Or.inl (Or.inl ⟨dd_170_39, rfl⟩),
   ⟨dd_170_40, rfl⟩,
   ⟨105, "PairMachineModel", fT10, 45, dd_170_41, rfl, okc_10, by decide, tw_807, rfl, Or.inl rfl⟩,
   Or.inl (Or.inl ⟨dd_170_44, rfl⟩),
   ⟨dd_170_45, rfl⟩,
   Or.inl ⟨3, rfl, dd_170_46, rfl⟩,
   Or.inl (Or.inr (Or.inl ⟨dd_170_47, rfl, by decide⟩)),
   ⟨47, dd_170_49, rfl, rfl⟩,
   Or.inl ⟨0, rfl, dd_170_52, rfl⟩,
   ⟨17, "PairMachineModel", fT10, 45, dd_170_53, rfl, okc_10, by decide, tw_778⟩,
   Or.inl ⟨2, rfl, dd_170_56, rfl⟩,
   Or.inl (Or.inl ⟨dd_170_57, rfl⟩),
   ⟨dd_170_58, rfl⟩,
   Or.inl ⟨0, rfl, dd_170_59, rfl⟩,
   ⟨dd_170_60, rfl⟩,
   ⟨105, "PairMachineModel", fT10, 45, dd_170_61, rfl, okc_10, by decide, tw_807⟩,
   Or.inl (Or.inl ⟨dd_170_64, rfl⟩),
   ⟨dd_170_65, rfl⟩,
   ⟨105, "PairMachineModel", fT10, 45, dd_170_66, rfl, okc_10, by decide, tw_807, rfl, Or.inl rfl⟩,
   Or.inl ⟨0, rfl, dd_170_69, rfl⟩,
   ⟨rfl, tw_840, by decide, tw_12, by decide +kernel, 142, tw_841, dd_170_70, tw_842, ⟨"PairMachineModel", fT10, 45, rfl, tw_843⟩, by decide +kernel⟩,
   ⟨by decide, Or.inr ⟨dd_170_73, rfl⟩⟩,
   Or.inl ⟨0, rfl, dd_170_75, rfl⟩,
   ⟨24, "PairMachineModel", fT10, 45, dd_170_76, rfl, okc_10, by decide, tw_780⟩,
   Or.inl ⟨2, rfl, dd_170_79, rfl⟩,
   Or.inl ⟨0, rfl, dd_170_80, rfl⟩,
   ⟨105, "PairMachineModel", fT10, 45, dd_170_81, rfl, okc_10, by decide, tw_807⟩,
   ⟨dd_170_84, rfl⟩,
   Or.inr ⟨dd_170_85, rfl⟩,
   ⟨7, dd_170_87, rfl, rfl⟩,
   Or.inl (Or.inl ⟨dd_170_90, rfl⟩),
   ⟨4, dd_170_91, rfl⟩,
   Or.inl (Or.inl ⟨dd_170_94, rfl⟩),
   ⟨dd_170_95, rfl⟩,
   Or.inl ⟨3, rfl, dd_170_96, rfl⟩,
   Or.inl (Or.inr (Or.inl ⟨dd_170_97, rfl, by decide⟩)),
   ⟨45, dd_170_99, rfl, rfl⟩,
   Or.inl ⟨0, rfl, dd_170_102, rfl⟩,
   ⟨rfl, tw_828, by decide, tw_12, by decide +kernel, 132, tw_829, dd_170_103, tw_830, ⟨"PairMachineModel", fT10, 45, rfl, tw_831⟩, by decide +kernel⟩,
   ⟨by decide, Or.inr ⟨dd_170_106, rfl⟩⟩,
   Or.inl ⟨0, rfl, dd_170_108, rfl⟩,
   ⟨27, "PairMachineModel", fT10, 45, dd_170_109, rfl, okc_10, by decide, tw_781⟩,
   Or.inl ⟨2, rfl, dd_170_112, rfl⟩,
   Or.inr ⟨dd_170_113, rfl⟩,
   ⟨16, dd_170_115, rfl, rfl⟩,
   Or.inl ⟨0, rfl, dd_170_118, rfl⟩,
   Or.inl ⟨0, rfl, dd_170_119, rfl⟩,
   ⟨21, "PairMachineModel", fT10, 45, dd_170_120, rfl, okc_10, by decide, tw_779⟩,
   Or.inl ⟨2, rfl, dd_170_123, rfl⟩,
   ⟨dd_170_124, rfl⟩,
   ⟨rfl, tw_844, by decide, tw_12, by decide +kernel, 145, tw_845, dd_170_125, tw_846, ⟨"PairMachineModel", fT10, 45, rfl, tw_847⟩, by decide +kernel⟩,
   ⟨4, dd_170_128, rfl⟩,
   Or.inl (Or.inl ⟨dd_170_131, rfl⟩),
   ⟨dd_170_132, rfl⟩,
   Or.inr ⟨dd_170_133, rfl⟩,
   ⟨7, dd_170_135, rfl, rfl⟩,
   Or.inl (Or.inl ⟨dd_170_138, rfl⟩),
   ⟨4, dd_170_139, rfl⟩,
   Or.inl (Or.inl ⟨dd_170_142, rfl⟩),
   ⟨dd_170_143, rfl⟩,
   Or.inl ⟨0, rfl, dd_170_144, rfl⟩,
   ⟨rfl, tw_821, by decide, tw_12, by decide +kernel, 125, tw_822, dd_170_145, tw_823, ⟨"PairMachineModel", fT10, 45, rfl, tw_824⟩, by decide +kernel⟩,
   ⟨5, dd_170_148, rfl, rfl⟩,
   Or.inl (Or.inl ⟨dd_170_151, rfl⟩),
   ⟨dd_170_152, rfl⟩,
   Or.inl ⟨0, rfl, dd_170_153, rfl⟩,
   Or.inl (Or.inl ⟨dd_170_154, rfl⟩),
   ⟨rfl, tw_808, by decide, tw_12, by decide +kernel, 108, tw_809, dd_170_155, tw_810, ⟨"PairMachineModel", fT10, 45, rfl, tw_811⟩, by decide +kernel⟩,
   ⟨by decide, Or.inl ⟨3, rfl, dd_170_158, rfl⟩⟩,
   Or.inl ⟨3, rfl, dd_170_159, rfl⟩,
   ⟨rfl, tw_848, by decide, tw_12, by decide +kernel, 149, tw_849, dd_170_160, tw_850, by decide +kernel⟩,
   ⟨59, dd_170_163, rfl, rfl⟩,
   Or.inl ⟨3, rfl, dd_170_166, rfl⟩,
   Or.inl (Or.inr (Or.inl ⟨dd_170_167, rfl, by decide⟩)),
   ⟨14, dd_170_169, rfl, rfl⟩,
   Or.inl ⟨0, rfl, dd_170_172, rfl⟩,
   Or.inl (Or.inl ⟨dd_170_173, rfl⟩),
   ⟨rfl, tw_808, by decide, tw_12, by decide +kernel, 108, tw_809, dd_170_174, tw_810, ⟨"PairMachineModel", fT10, 45, rfl, tw_811⟩, by decide +kernel⟩,
   ⟨rfl, tw_818, by decide, tw_12, by decide +kernel, 122, tw_819, dd_170_177, tw_820, by decide +kernel⟩,
   ⟨42, dd_170_180, rfl, rfl⟩,
   Or.inl ⟨0, rfl, dd_170_183, rfl⟩,
   ⟨17, "PairMachineModel", fT10, 45, dd_170_184, rfl, okc_10, by decide, tw_778⟩,
   Or.inl ⟨2, rfl, dd_170_187, rfl⟩,
   Or.inl (Or.inl ⟨dd_170_188, rfl⟩),
   ⟨dd_170_189, rfl⟩,
   Or.inl ⟨0, rfl, dd_170_190, rfl⟩,
   ⟨27, "PairMachineModel", fT10, 45, dd_170_191, rfl, okc_10, by decide, tw_781⟩,
   Or.inl ⟨2, rfl, dd_170_194, rfl⟩,
   Or.inl ⟨3, rfl, dd_170_195, rfl⟩,
   ⟨dd_170_196, rfl⟩,
   Or.inl ⟨0, rfl, dd_170_197, rfl⟩,
   ⟨dd_170_198, rfl⟩,
   ⟨105, "PairMachineModel", fT10, 45, dd_170_199, rfl, okc_10, by decide, tw_807⟩,
   Or.inl (Or.inl ⟨dd_170_202, rfl⟩),
   ⟨dd_170_203, rfl⟩,
   ⟨105, "PairMachineModel", fT10, 45, dd_170_204, rfl, okc_10, by decide, tw_807, rfl, Or.inl rfl⟩,
   Or.inl ⟨0, rfl, dd_170_207, rfl⟩,
   Or.inl (Or.inr (Or.inl ⟨dd_170_208, rfl, by decide⟩)),
   ⟨rfl, tw_813, by decide, tw_12, by decide +kernel, 115, tw_814, dd_170_210, tw_815, ⟨"PairMachineModel", fT10, 45, rfl, tw_816⟩, by decide +kernel⟩,
   ⟨7, dd_170_213, rfl, rfl⟩,
   Or.inl (Or.inl ⟨dd_170_216, rfl⟩),
   ⟨4, dd_170_217, rfl⟩,
   Or.inl (Or.inl ⟨dd_170_220, rfl⟩),
   ⟨dd_170_221, rfl⟩,
   Or.inl ⟨3, rfl, dd_170_222, rfl⟩,
   Or.inl (Or.inr (Or.inl ⟨dd_170_223, rfl, by decide⟩)),
   ⟨34, dd_170_225, rfl, rfl⟩,
   Or.inl ⟨0, rfl, dd_170_228, rfl⟩,
   ⟨17, "PairMachineModel", fT10, 45, dd_170_229, rfl, okc_10, by decide, tw_778⟩,
   Or.inl ⟨2, rfl, dd_170_232, rfl⟩,
   Or.inl (Or.inl ⟨dd_170_233, rfl⟩),
   ⟨dd_170_234, rfl⟩,
   Or.inl ⟨0, rfl, dd_170_235, rfl⟩,
   ⟨dd_170_236, rfl⟩,
   ⟨105, "PairMachineModel", fT10, 45, dd_170_237, rfl, okc_10, by decide, tw_807⟩,
   Or.inl (Or.inl ⟨dd_170_240, rfl⟩),
   ⟨dd_170_241, rfl⟩,
   ⟨105, "PairMachineModel", fT10, 45, dd_170_242, rfl, okc_10, by decide, tw_807, rfl, Or.inl rfl⟩,
   Or.inl ⟨0, rfl, dd_170_245, rfl⟩,
   Or.inl ⟨2, rfl, dd_170_246, rfl⟩,
   ⟨rfl, tw_851, by decide, tw_12, by decide +kernel, 153, tw_852, dd_170_247, tw_853, ⟨"PairMachineModel", fT10, 45, rfl, tw_854⟩, by decide +kernel⟩,
   ⟨7, dd_170_250, rfl, rfl⟩,
   Or.inl (Or.inl ⟨dd_170_253, rfl⟩),
   ⟨4, dd_170_254, rfl⟩,
   Or.inl (Or.inl ⟨dd_170_257, rfl⟩),
   ⟨dd_170_258, rfl⟩,
   Or.inl ⟨3, rfl, dd_170_259, rfl⟩,
   Or.inl (Or.inr (Or.inl ⟨dd_170_260, rfl, by decide⟩)),
   ⟨9, dd_170_262, rfl, rfl⟩,
   Or.inl ⟨3, rfl, dd_170_265, rfl⟩,
   Or.inl (Or.inr (Or.inl ⟨dd_170_266, rfl, by decide⟩)),
   ⟨47, dd_170_268, rfl, rfl⟩,
   Or.inl ⟨0, rfl, dd_170_271, rfl⟩,
   ⟨17, "PairMachineModel", fT10, 45, dd_170_272, rfl, okc_10, by decide, tw_778⟩,
   Or.inl ⟨2, rfl, dd_170_275, rfl⟩,
   Or.inl ⟨3, rfl, dd_170_276, rfl⟩,
   Or.inl (Or.inr (Or.inl ⟨dd_170_277, rfl, by decide⟩)),
   ⟨8, dd_170_279, rfl, rfl⟩,
   Or.inl (Or.inr (Or.inl ⟨dd_170_282, rfl, by decide⟩)),
   ⟨5, dd_170_284, rfl⟩,
   Or.inl (Or.inr (Or.inl ⟨dd_170_287, rfl, by decide⟩)),
   ⟨dd_170_289, rfl⟩,
   Or.inl ⟨0, rfl, dd_170_290, rfl⟩,
   ⟨dd_170_291, rfl⟩,
   ⟨105, "PairMachineModel", fT10, 45, dd_170_292, rfl, okc_10, by decide, tw_807⟩,
   Or.inl (Or.inl ⟨dd_170_295, rfl⟩),
   ⟨dd_170_296, rfl⟩,
   ⟨105, "PairMachineModel", fT10, 45, dd_170_297, rfl, okc_10, by decide, tw_807, rfl, Or.inl rfl⟩,
   Or.inl ⟨0, rfl, dd_170_300, rfl⟩,
   Or.inl (Or.inr (Or.inl ⟨dd_170_301, rfl, by decide⟩)),
   ⟨rfl, tw_813, by decide, tw_12, by decide +kernel, 115, tw_814, dd_170_303, tw_815, ⟨"PairMachineModel", fT10, 45, rfl, tw_816⟩, by decide +kernel⟩,
   ⟨7, dd_170_306, rfl, rfl⟩,
   Or.inl (Or.inl ⟨dd_170_309, rfl⟩),
   ⟨4, dd_170_310, rfl⟩,
   Or.inl (Or.inl ⟨dd_170_313, rfl⟩),
   ⟨dd_170_314, rfl⟩,
   Or.inl ⟨0, rfl, dd_170_315, rfl⟩,
   ⟨17, "PairMachineModel", fT10, 45, dd_170_316, rfl, okc_10, by decide, tw_778⟩,
   Or.inl ⟨2, rfl, dd_170_319, rfl⟩,
   Or.inl (Or.inl ⟨dd_170_320, rfl⟩),
   ⟨dd_170_321, rfl⟩,
   Or.inl (Or.inl ⟨dd_170_322, rfl⟩),
   ⟨dd_170_323, rfl⟩, trivial⟩
theorem okM_170 : mj_okE gG 170 (cM_170, 5, oM_170, hM_170) := ⟨rfl, rfl, by decide +kernel, trivial, okI_170⟩
theorem dd_171_0 : decode prog_13_method_17_code 0 = .ok (.aload_n 0, 1) := by decide +kernel
theorem dd_171_1 : decode prog_13_method_17_code 1 = .ok (.invokevirtual 125, 3) := by decide +kernel
theorem dd_171_4 : decode prog_13_method_17_code 4 = .ok (.ifCond .ne 5, 3) := by decide +kernel
theorem dd_171_7 : decode prog_13_method_17_code 7 = .ok (.iconst 0, 1) := by decide +kernel
theorem dd_171_8 : decode prog_13_method_17_code 8 = .ok (.ireturn, 1) := by decide +kernel
theorem dd_171_9 : decode prog_13_method_17_code 9 = .ok (.aload_n 0, 1) := by decide +kernel
theorem dd_171_10 : decode prog_13_method_17_code 10 = .ok (.iconst 0, 1) := by decide +kernel
theorem dd_171_11 : decode prog_13_method_17_code 11 = .ok (.invokevirtual 108, 3) := by decide +kernel
theorem dd_171_14 : decode prog_13_method_17_code 14 = .ok (.istore_n 2, 1) := by decide +kernel
theorem dd_171_15 : decode prog_13_method_17_code 15 = .ok (.iload_n 2, 1) := by decide +kernel
theorem dd_171_16 : decode prog_13_method_17_code 16 = .ok (.invokestatic 129, 3) := by decide +kernel
theorem dd_171_19 : decode prog_13_method_17_code 19 = .ok (.istore_n 3, 1) := by decide +kernel
theorem dd_171_20 : decode prog_13_method_17_code 20 = .ok (.aload_n 0, 1) := by decide +kernel
theorem dd_171_21 : decode prog_13_method_17_code 21 = .ok (.getfield 39, 3) := by decide +kernel
theorem dd_171_24 : decode prog_13_method_17_code 24 = .ok (.aload_n 0, 1) := by decide +kernel
theorem dd_171_25 : decode prog_13_method_17_code 25 = .ok (.getfield 33, 3) := by decide +kernel
theorem dd_171_28 : decode prog_13_method_17_code 28 = .ok (.iload_n 1, 1) := by decide +kernel
theorem dd_171_29 : decode prog_13_method_17_code 29 = .ok (.iaload, 1) := by decide +kernel
theorem dd_171_30 : decode prog_13_method_17_code 30 = .ok (.iaload, 1) := by decide +kernel
theorem dd_171_31 : decode prog_13_method_17_code 31 = .ok (.istore 4, 2) := by decide +kernel
theorem dd_171_33 : decode prog_13_method_17_code 33 = .ok (.iload 4, 2) := by decide +kernel
theorem dd_171_35 : decode prog_13_method_17_code 35 = .ok (.ifCond .lt 36, 3) := by decide +kernel
theorem dd_171_38 : decode prog_13_method_17_code 38 = .ok (.iload_n 3, 1) := by decide +kernel
theorem dd_171_39 : decode prog_13_method_17_code 39 = .ok (.ifCond .eq 18, 3) := by decide +kernel
theorem dd_171_42 : decode prog_13_method_17_code 42 = .ok (.aload_n 0, 1) := by decide +kernel
theorem dd_171_43 : decode prog_13_method_17_code 43 = .ok (.getfield 48, 3) := by decide +kernel
theorem dd_171_46 : decode prog_13_method_17_code 46 = .ok (.iload 4, 2) := by decide +kernel
theorem dd_171_48 : decode prog_13_method_17_code 48 = .ok (.iaload, 1) := by decide +kernel
theorem dd_171_49 : decode prog_13_method_17_code 49 = .ok (.iload_n 2, 1) := by decide +kernel
theorem dd_171_50 : decode prog_13_method_17_code 50 = .ok (.if_icmp .eq 7, 3) := by decide +kernel
theorem dd_171_53 : decode prog_13_method_17_code 53 = .ok (.iconst 1, 1) := by decide +kernel
theorem dd_171_54 : decode prog_13_method_17_code 54 = .ok (.goto 4, 3) := by decide +kernel
theorem dd_171_57 : decode prog_13_method_17_code 57 = .ok (.iconst 0, 1) := by decide +kernel
theorem dd_171_58 : decode prog_13_method_17_code 58 = .ok (.istore_n 3, 1) := by decide +kernel
theorem dd_171_59 : decode prog_13_method_17_code 59 = .ok (.aload_n 0, 1) := by decide +kernel
theorem dd_171_60 : decode prog_13_method_17_code 60 = .ok (.getfield 39, 3) := by decide +kernel
theorem dd_171_63 : decode prog_13_method_17_code 63 = .ok (.iload 4, 2) := by decide +kernel
theorem dd_171_65 : decode prog_13_method_17_code 65 = .ok (.iaload, 1) := by decide +kernel
theorem dd_171_66 : decode prog_13_method_17_code 66 = .ok (.istore 4, 2) := by decide +kernel
theorem dd_171_68 : decode prog_13_method_17_code 68 = .ok (.goto (-35), 3) := by decide +kernel
theorem dd_171_71 : decode prog_13_method_17_code 71 = .ok (.iload_n 3, 1) := by decide +kernel
theorem dd_171_72 : decode prog_13_method_17_code 72 = .ok (.ifCond .ne 5, 3) := by decide +kernel
theorem dd_171_75 : decode prog_13_method_17_code 75 = .ok (.iconst 0, 1) := by decide +kernel
theorem dd_171_76 : decode prog_13_method_17_code 76 = .ok (.ireturn, 1) := by decide +kernel
theorem dd_171_77 : decode prog_13_method_17_code 77 = .ok (.aload_n 0, 1) := by decide +kernel
theorem dd_171_78 : decode prog_13_method_17_code 78 = .ok (.getfield 45, 3) := by decide +kernel
theorem dd_171_81 : decode prog_13_method_17_code 81 = .ok (.iconst 3, 1) := by decide +kernel
theorem dd_171_82 : decode prog_13_method_17_code 82 = .ok (.iload_n 1, 1) := by decide +kernel
theorem dd_171_83 : decode prog_13_method_17_code 83 = .ok (.imul, 1) := by decide +kernel
theorem dd_171_84 : decode prog_13_method_17_code 84 = .ok (.iload_n 2, 1) := by decide +kernel
theorem dd_171_85 : decode prog_13_method_17_code 85 = .ok (.iastore, 1) := by decide +kernel
theorem dd_171_86 : decode prog_13_method_17_code 86 = .ok (.aload_n 0, 1) := by decide +kernel
theorem dd_171_87 : decode prog_13_method_17_code 87 = .ok (.dup, 1) := by decide +kernel
theorem dd_171_88 : decode prog_13_method_17_code 88 = .ok (.getfield 105, 3) := by decide +kernel
theorem dd_171_91 : decode prog_13_method_17_code 91 = .ok (.iconst 1, 1) := by decide +kernel
theorem dd_171_92 : decode prog_13_method_17_code 92 = .ok (.iadd, 1) := by decide +kernel
theorem dd_171_93 : decode prog_13_method_17_code 93 = .ok (.putfield 105, 3) := by decide +kernel
theorem dd_171_96 : decode prog_13_method_17_code 96 = .ok (.aload_n 0, 1) := by decide +kernel
theorem dd_171_97 : decode prog_13_method_17_code 97 = .ok (.bipush 32, 2) := by decide +kernel
theorem dd_171_99 : decode prog_13_method_17_code 99 = .ok (.invokevirtual 115, 3) := by decide +kernel
theorem dd_171_102 : decode prog_13_method_17_code 102 = .ok (.ifCond .ne 5, 3) := by decide +kernel
theorem dd_171_105 : decode prog_13_method_17_code 105 = .ok (.iconst 0, 1) := by decide +kernel
theorem dd_171_106 : decode prog_13_method_17_code 106 = .ok (.ireturn, 1) := by decide +kernel
theorem dd_171_107 : decode prog_13_method_17_code 107 = .ok (.aload_n 0, 1) := by decide +kernel
theorem dd_171_108 : decode prog_13_method_17_code 108 = .ok (.getfield 17, 3) := by decide +kernel
theorem dd_171_111 : decode prog_13_method_17_code 111 = .ok (.iload_n 1, 1) := by decide +kernel
theorem dd_171_112 : decode prog_13_method_17_code 112 = .ok (.iaload, 1) := by decide +kernel
theorem dd_171_113 : decode prog_13_method_17_code 113 = .ok (.bipush 7, 2) := by decide +kernel
theorem dd_171_115 : decode prog_13_method_17_code 115 = .ok (.if_icmp .ne 44, 3) := by decide +kernel
theorem dd_171_118 : decode prog_13_method_17_code 118 = .ok (.aload_n 0, 1) := by decide +kernel
theorem dd_171_119 : decode prog_13_method_17_code 119 = .ok (.iconst 0, 1) := by decide +kernel
theorem dd_171_120 : decode prog_13_method_17_code 120 = .ok (.invokevirtual 108, 3) := by decide +kernel
theorem dd_171_123 : decode prog_13_method_17_code 123 = .ok (.bipush 40, 2) := by decide +kernel
theorem dd_171_125 : decode prog_13_method_17_code 125 = .ok (.if_icmp .ne 34, 3) := by decide +kernel
theorem dd_171_128 : decode prog_13_method_17_code 128 = .ok (.aload_n 0, 1) := by decide +kernel
theorem dd_171_129 : decode prog_13_method_17_code 129 = .ok (.getfield 112, 3) := by decide +kernel
theorem dd_171_132 : decode prog_13_method_17_code 132 = .ok (.bipush 9, 2) := by decide +kernel
theorem dd_171_134 : decode prog_13_method_17_code 134 = .ok (.if_icmp .ge 25, 3) := by decide +kernel
theorem dd_171_137 : decode prog_13_method_17_code 137 = .ok (.aload_n 0, 1) := by decide +kernel
theorem dd_171_138 : decode prog_13_method_17_code 138 = .ok (.iconst 1, 1) := by decide +kernel
theorem dd_171_139 : decode prog_13_method_17_code 139 = .ok (.invokevirtual 108, 3) := by decide +kernel
theorem dd_171_142 : decode prog_13_method_17_code 142 = .ok (.bipush 92, 2) := by decide +kernel
theorem dd_171_144 : decode prog_13_method_17_code 144 = .ok (.if_icmp .eq 15, 3) := by decide +kernel
theorem dd_171_147 : decode prog_13_method_17_code 147 = .ok (.aload_n 0, 1) := by decide +kernel
theorem dd_171_148 : decode prog_13_method_17_code 148 = .ok (.dup, 1) := by decide +kernel
theorem dd_171_149 : decode prog_13_method_17_code 149 = .ok (.getfield 105, 3) := by decide +kernel
theorem dd_171_152 : decode prog_13_method_17_code 152 = .ok (.iconst 1, 1) := by decide +kernel
theorem dd_171_153 : decode prog_13_method_17_code 153 = .ok (.iadd, 1) := by decide +kernel
theorem dd_171_154 : decode prog_13_method_17_code 154 = .ok (.putfield 105, 3) := by decide +kernel
theorem dd_171_157 : decode prog_13_method_17_code 157 = .ok (.iconst 0, 1) := by decide +kernel
theorem dd_171_158 : decode prog_13_method_17_code 158 = .ok (.ireturn, 1) := by decide +kernel
theorem dd_171_159 : decode prog_13_method_17_code 159 = .ok (.aload_n 0, 1) := by decide +kernel
theorem dd_171_160 : decode prog_13_method_17_code 160 = .ok (.getfield 17, 3) := by decide +kernel
theorem dd_171_163 : decode prog_13_method_17_code 163 = .ok (.iload_n 1, 1) := by decide +kernel
theorem dd_171_164 : decode prog_13_method_17_code 164 = .ok (.iaload, 1) := by decide +kernel
theorem dd_171_165 : decode prog_13_method_17_code 165 = .ok (.bipush 6, 2) := by decide +kernel
theorem dd_171_167 : decode prog_13_method_17_code 167 = .ok (.if_icmp .eq 22, 3) := by decide +kernel
theorem dd_171_170 : decode prog_13_method_17_code 170 = .ok (.aload_n 0, 1) := by decide +kernel
theorem dd_171_171 : decode prog_13_method_17_code 171 = .ok (.iconst 0, 1) := by decide +kernel
theorem dd_171_172 : decode prog_13_method_17_code 172 = .ok (.invokevirtual 108, 3) := by decide +kernel
theorem dd_171_175 : decode prog_13_method_17_code 175 = .ok (.bipush 40, 2) := by decide +kernel
theorem dd_171_177 : decode prog_13_method_17_code 177 = .ok (.if_icmp .ne 16, 3) := by decide +kernel
theorem dd_171_180 : decode prog_13_method_17_code 180 = .ok (.aload_n 0, 1) := by decide +kernel
theorem dd_171_181 : decode prog_13_method_17_code 181 = .ok (.getfield 112, 3) := by decide +kernel
theorem dd_171_184 : decode prog_13_method_17_code 184 = .ok (.bipush 9, 2) := by decide +kernel
theorem dd_171_186 : decode prog_13_method_17_code 186 = .ok (.if_icmp .ge 7, 3) := by decide +kernel
theorem dd_171_189 : decode prog_13_method_17_code 189 = .ok (.iconst 1, 1) := by decide +kernel
theorem dd_171_190 : decode prog_13_method_17_code 190 = .ok (.goto 4, 3) := by decide +kernel
theorem dd_171_193 : decode prog_13_method_17_code 193 = .ok (.iconst 0, 1) := by decide +kernel
theorem dd_171_194 : decode prog_13_method_17_code 194 = .ok (.ireturn, 1) := by decide +kernel
set_option maxRecDepth 100000 in
theorem okI_171 : mj_okI gG "PairMachineModel" prog_13_method_17_code 5 (mj_off oM_171) (Option.some Jvm.ClassFile.FieldType.boolean) false true 0 cM_171 :=
  ⟨Or.inl ⟨0, rfl, dd_171_0, rfl⟩,
   ⟨rfl, tw_821, by decide, tw_12, by decide +kernel, 125, tw_822, dd_171_1, tw_823, ⟨"PairMachineModel", fT10, 45, rfl, tw_824⟩, by decide +kernel⟩,
   ⟨5, dd_171_4, rfl, rfl⟩,
   Or.inl (Or.inl ⟨dd_171_7, rfl⟩),
   ⟨dd_171_8, rfl⟩,
   Or.inl ⟨0, rfl, dd_171_9, rfl⟩,
   Or.inl (Or.inl ⟨dd_171_10, rfl⟩),
   ⟨rfl, tw_808, by decide, tw_12, by decide +kernel, 108, tw_809, dd_171_11, tw_810, ⟨"PairMachineModel", fT10, 45, rfl, tw_811⟩, by decide +kernel⟩,
   ⟨by decide, Or.inl ⟨2, rfl, dd_171_14, rfl⟩⟩,
   Or.inl ⟨2, rfl, dd_171_15, rfl⟩,
   ⟨rfl, tw_825, by decide, tw_12, by decide +kernel, 129, tw_826, dd_171_16, tw_827, by decide +kernel⟩,
   ⟨by decide, Or.inl ⟨3, rfl, dd_171_19, rfl⟩⟩,
   Or.inl ⟨0, rfl, dd_171_20, rfl⟩,
   ⟨39, "PairMachineModel", fT10, 45, dd_171_21, rfl, okc_10, by decide, tw_785⟩,
   Or.inl ⟨0, rfl, dd_171_24, rfl⟩,
   ⟨33, "PairMachineModel", fT10, 45, dd_171_25, rfl, okc_10, by decide, tw_783⟩,
   Or.inl ⟨1, rfl, dd_171_28, rfl⟩,
   ⟨dd_171_29, rfl⟩,
   ⟨dd_171_30, rfl⟩,
   ⟨by decide, Or.inr ⟨dd_171_31, rfl⟩⟩,
   Or.inr ⟨dd_171_33, rfl⟩,
   ⟨36, dd_171_35, rfl, rfl⟩,
   Or.inl ⟨3, rfl, dd_171_38, rfl⟩,
   ⟨18, dd_171_39, rfl, rfl⟩,
   Or.inl ⟨0, rfl, dd_171_42, rfl⟩,
   ⟨48, "PairMachineModel", fT10, 45, dd_171_43, rfl, okc_10, by decide, tw_788⟩,
   Or.inr ⟨dd_171_46, rfl⟩,
   ⟨dd_171_48, rfl⟩,
   Or.inl ⟨2, rfl, dd_171_49, rfl⟩,
   ⟨7, dd_171_50, rfl, rfl⟩,
   Or.inl (Or.inl ⟨dd_171_53, rfl⟩),
   ⟨4, dd_171_54, rfl⟩,
   Or.inl (Or.inl ⟨dd_171_57, rfl⟩),
   ⟨by decide, Or.inl ⟨3, rfl, dd_171_58, rfl⟩⟩,
   Or.inl ⟨0, rfl, dd_171_59, rfl⟩,
   ⟨39, "PairMachineModel", fT10, 45, dd_171_60, rfl, okc_10, by decide, tw_785⟩,
   Or.inr ⟨dd_171_63, rfl⟩,
   ⟨dd_171_65, rfl⟩,
   ⟨by decide, Or.inr ⟨dd_171_66, rfl⟩⟩,
   ⟨(-35), dd_171_68, rfl⟩,
   Or.inl ⟨3, rfl, dd_171_71, rfl⟩,
   ⟨5, dd_171_72, rfl, rfl⟩,
   Or.inl (Or.inl ⟨dd_171_75, rfl⟩),
   ⟨dd_171_76, rfl⟩,
   Or.inl ⟨0, rfl, dd_171_77, rfl⟩,
   ⟨45, "PairMachineModel", fT10, 45, dd_171_78, rfl, okc_10, by decide, tw_787⟩,
   Or.inl (Or.inl ⟨dd_171_81, rfl⟩),
   Or.inl ⟨1, rfl, dd_171_82, rfl⟩,
   ⟨dd_171_83, rfl⟩,
   Or.inl ⟨2, rfl, dd_171_84, rfl⟩,
   ⟨dd_171_85, rfl⟩,
   Or.inl ⟨0, rfl, dd_171_86, rfl⟩,
   ⟨dd_171_87, rfl⟩,
   ⟨105, "PairMachineModel", fT10, 45, dd_171_88, rfl, okc_10, by decide, tw_807⟩,
   Or.inl (Or.inl ⟨dd_171_91, rfl⟩),
   ⟨dd_171_92, rfl⟩,
   ⟨105, "PairMachineModel", fT10, 45, dd_171_93, rfl, okc_10, by decide, tw_807, rfl, Or.inl rfl⟩,
   Or.inl ⟨0, rfl, dd_171_96, rfl⟩,
   Or.inl (Or.inr (Or.inl ⟨dd_171_97, rfl, by decide⟩)),
   ⟨rfl, tw_813, by decide, tw_12, by decide +kernel, 115, tw_814, dd_171_99, tw_815, ⟨"PairMachineModel", fT10, 45, rfl, tw_816⟩, by decide +kernel⟩,
   ⟨5, dd_171_102, rfl, rfl⟩,
   Or.inl (Or.inl ⟨dd_171_105, rfl⟩),
   ⟨dd_171_106, rfl⟩,
   Or.inl ⟨0, rfl, dd_171_107, rfl⟩,
   ⟨17, "PairMachineModel", fT10, 45, dd_171_108, rfl, okc_10, by decide, tw_778⟩,
   Or.inl ⟨1, rfl, dd_171_111, rfl⟩,
   ⟨dd_171_112, rfl⟩,
   Or.inl (Or.inr (Or.inl ⟨dd_171_113, rfl, by decide⟩)),
   ⟨44, dd_171_115, rfl, rfl⟩,
   Or.inl ⟨0, rfl, dd_171_118, rfl⟩,
   Or.inl (Or.inl ⟨dd_171_119, rfl⟩),
   ⟨rfl, tw_808, by decide, tw_12, by decide +kernel, 108, tw_809, dd_171_120, tw_810, ⟨"PairMachineModel", fT10, 45, rfl, tw_811⟩, by decide +kernel⟩,
   Or.inl (Or.inr (Or.inl ⟨dd_171_123, rfl, by decide⟩)),
   ⟨34, dd_171_125, rfl, rfl⟩,
   Or.inl ⟨0, rfl, dd_171_128, rfl⟩,
   ⟨112, "PairMachineModel", fT10, 45, dd_171_129, rfl, okc_10, by decide, tw_812⟩,
   Or.inl (Or.inr (Or.inl ⟨dd_171_132, rfl, by decide⟩)),
   ⟨25, dd_171_134, rfl, rfl⟩,
   Or.inl ⟨0, rfl, dd_171_137, rfl⟩,
   Or.inl (Or.inl ⟨dd_171_138, rfl⟩),
   ⟨rfl, tw_808, by decide, tw_12, by decide +kernel, 108, tw_809, dd_171_139, tw_810, ⟨"PairMachineModel", fT10, 45, rfl, tw_811⟩, by decide +kernel⟩,
   Or.inl (Or.inr (Or.inl ⟨dd_171_142, rfl, by decide⟩)),
   ⟨15, dd_171_144, rfl, rfl⟩,
   Or.inl ⟨0, rfl, dd_171_147, rfl⟩,
   ⟨dd_171_148, rfl⟩,
   ⟨105, "PairMachineModel", fT10, 45, dd_171_149, rfl, okc_10, by decide, tw_807⟩,
   Or.inl (Or.inl ⟨dd_171_152, rfl⟩),
   ⟨dd_171_153, rfl⟩,
   ⟨105, "PairMachineModel", fT10, 45, dd_171_154, rfl, okc_10, by decide, tw_807, rfl, Or.inl rfl⟩,
   Or.inl (Or.inl ⟨dd_171_157, rfl⟩),
   ⟨dd_171_158, rfl⟩,
   Or.inl ⟨0, rfl, dd_171_159, rfl⟩,
   ⟨17, "PairMachineModel", fT10, 45, dd_171_160, rfl, okc_10, by decide, tw_778⟩,
   Or.inl ⟨1, rfl, dd_171_163, rfl⟩,
   ⟨dd_171_164, rfl⟩,
   Or.inl (Or.inr (Or.inl ⟨dd_171_165, rfl, by decide⟩)),
   ⟨22, dd_171_167, rfl, rfl⟩,
   Or.inl ⟨0, rfl, dd_171_170, rfl⟩,
   Or.inl (Or.inl ⟨dd_171_171, rfl⟩),
   ⟨rfl, tw_808, by decide, tw_12, by decide +kernel, 108, tw_809, dd_171_172, tw_810, ⟨"PairMachineModel", fT10, 45, rfl, tw_811⟩, by decide +kernel⟩,
   Or.inl (Or.inr (Or.inl ⟨dd_171_175, rfl, by decide⟩)),
   ⟨16, dd_171_177, rfl, rfl⟩,
   Or.inl ⟨0, rfl, dd_171_180, rfl⟩,
   ⟨112, "PairMachineModel", fT10, 45, dd_171_181, rfl, okc_10, by decide, tw_812⟩,
   Or.inl (Or.inr (Or.inl ⟨dd_171_184, rfl, by decide⟩)),
   ⟨7, dd_171_186, rfl, rfl⟩,
   Or.inl (Or.inl ⟨dd_171_189, rfl⟩),
   ⟨4, dd_171_190, rfl⟩,
   Or.inl (Or.inl ⟨dd_171_193, rfl⟩),
   ⟨dd_171_194, rfl⟩, trivial⟩
theorem okM_171 : mj_okE gG 171 (cM_171, 5, oM_171, hM_171) := ⟨rfl, rfl, by decide +kernel, trivial, okI_171⟩
theorem dd_172_0 : decode prog_13_method_18_code 0 = .ok (.aload_n 0, 1) := by decide +kernel
theorem dd_172_1 : decode prog_13_method_18_code 1 = .ok (.getfield 17, 3) := by decide +kernel
theorem dd_172_4 : decode prog_13_method_18_code 4 = .ok (.iload_n 1, 1) := by decide +kernel
theorem dd_172_5 : decode prog_13_method_18_code 5 = .ok (.iaload, 1) := by decide +kernel
theorem dd_172_6 : decode prog_13_method_18_code 6 = .ok (.iconst 3, 1) := by decide +kernel
theorem dd_172_7 : decode prog_13_method_18_code 7 = .ok (.if_icmp .ne 37, 3) := by decide +kernel
theorem dd_172_10 : decode prog_13_method_18_code 10 = .ok (.aload_n 0, 1) := by decide +kernel
theorem dd_172_11 : decode prog_13_method_18_code 11 = .ok (.getfield 42, 3) := by decide +kernel
theorem dd_172_14 : decode prog_13_method_18_code 14 = .ok (.iload_n 1, 1) := by decide +kernel
theorem dd_172_15 : decode prog_13_method_18_code 15 = .ok (.iaload, 1) := by decide +kernel
theorem dd_172_16 : decode prog_13_method_18_code 16 = .ok (.aload_n 0, 1) := by decide +kernel
theorem dd_172_17 : decode prog_13_method_18_code 17 = .ok (.getfield 27, 3) := by decide +kernel
theorem dd_172_20 : decode prog_13_method_18_code 20 = .ok (.iload_n 1, 1) := by decide +kernel
theorem dd_172_21 : decode prog_13_method_18_code 21 = .ok (.iaload, 1) := by decide +kernel
theorem dd_172_22 : decode prog_13_method_18_code 22 = .ok (.i2c, 1) := by decide +kernel
theorem dd_172_23 : decode prog_13_method_18_code 23 = .ok (.invokestatic 149, 3) := by decide +kernel
theorem dd_172_26 : decode prog_13_method_18_code 26 = .ok (.if_icmp .ge 18, 3) := by decide +kernel
theorem dd_172_29 : decode prog_13_method_18_code 29 = .ok (.aload_n 0, 1) := by decide +kernel
theorem dd_172_30 : decode prog_13_method_18_code 30 = .ok (.bipush 32, 2) := by decide +kernel
theorem dd_172_32 : decode prog_13_method_18_code 32 = .ok (.invokevirtual 115, 3) := by decide +kernel
theorem dd_172_35 : decode prog_13_method_18_code 35 = .ok (.ifCond .eq 7, 3) := by decide +kernel
theorem dd_172_38 : decode prog_13_method_18_code 38 = .ok (.iconst 1, 1) := by decide +kernel
theorem dd_172_39 : decode prog_13_method_18_code 39 = .ok (.goto 4, 3) := by decide +kernel
theorem dd_172_42 : decode prog_13_method_18_code 42 = .ok (.iconst (-1), 1) := by decide +kernel
theorem dd_172_43 : decode prog_13_method_18_code 43 = .ok (.ireturn, 1) := by decide +kernel
theorem dd_172_44 : decode prog_13_method_18_code 44 = .ok (.aload_n 0, 1) := by decide +kernel
theorem dd_172_45 : decode prog_13_method_18_code 45 = .ok (.getfield 17, 3) := by decide +kernel
theorem dd_172_48 : decode prog_13_method_18_code 48 = .ok (.iload_n 1, 1) := by decide +kernel
theorem dd_172_49 : decode prog_13_method_18_code 49 = .ok (.iaload, 1) := by decide +kernel
theorem dd_172_50 : decode prog_13_method_18_code 50 = .ok (.iconst 4, 1) := by decide +kernel
theorem dd_172_51 : decode prog_13_method_18_code 51 = .ok (.if_icmp .ne 24, 3) := by decide +kernel
theorem dd_172_54 : decode prog_13_method_18_code 54 = .ok (.aload_n 0, 1) := by decide +kernel
theorem dd_172_55 : decode prog_13_method_18_code 55 = .ok (.getfield 42, 3) := by decide +kernel
theorem dd_172_58 : decode prog_13_method_18_code 58 = .ok (.iload_n 1, 1) := by decide +kernel
theorem dd_172_59 : decode prog_13_method_18_code 59 = .ok (.iaload, 1) := by decide +kernel
theorem dd_172_60 : decode prog_13_method_18_code 60 = .ok (.iconst 4, 1) := by decide +kernel
theorem dd_172_61 : decode prog_13_method_18_code 61 = .ok (.if_icmp .ge 14, 3) := by decide +kernel
theorem dd_172_64 : decode prog_13_method_18_code 64 = .ok (.aload_n 0, 1) := by decide +kernel
theorem dd_172_65 : decode prog_13_method_18_code 65 = .ok (.bipush 32, 2) := by decide +kernel
theorem dd_172_67 : decode prog_13_method_18_code 67 = .ok (.invokevirtual 115, 3) := by decide +kernel
theorem dd_172_70 : decode prog_13_method_18_code 70 = .ok (.ifCond .eq 5, 3) := by decide +kernel
theorem dd_172_73 : decode prog_13_method_18_code 73 = .ok (.iconst 1, 1) := by decide +kernel
theorem dd_172_74 : decode prog_13_method_18_code 74 = .ok (.ireturn, 1) := by decide +kernel
theorem dd_172_75 : decode prog_13_method_18_code 75 = .ok (.aload_n 0, 1) := by decide +kernel
theorem dd_172_76 : decode prog_13_method_18_code 76 = .ok (.getfield 17, 3) := by decide +kernel
theorem dd_172_79 : decode prog_13_method_18_code 79 = .ok (.iload_n 1, 1) := by decide +kernel
theorem dd_172_80 : decode prog_13_method_18_code 80 = .ok (.iaload, 1) := by decide +kernel
theorem dd_172_81 : decode prog_13_method_18_code 81 = .ok (.bipush 6, 2) := by decide +kernel
theorem dd_172_83 : decode prog_13_method_18_code 83 = .ok (.if_icmp .eq 14, 3) := by decide +kernel
theorem dd_172_86 : decode prog_13_method_18_code 86 = .ok (.aload_n 0, 1) := by decide +kernel
theorem dd_172_87 : decode prog_13_method_18_code 87 = .ok (.getfield 17, 3) := by decide +kernel
theorem dd_172_90 : decode prog_13_method_18_code 90 = .ok (.iload_n 1, 1) := by decide +kernel
theorem dd_172_91 : decode prog_13_method_18_code 91 = .ok (.iaload, 1) := by decide +kernel
theorem dd_172_92 : decode prog_13_method_18_code 92 = .ok (.bipush 7, 2) := by decide +kernel
theorem dd_172_94 : decode prog_13_method_18_code 94 = .ok (.if_icmp .ne 94, 3) := by decide +kernel
theorem dd_172_97 : decode prog_13_method_18_code 97 = .ok (.aload_n 0, 1) := by decide +kernel
theorem dd_172_98 : decode prog_13_method_18_code 98 = .ok (.getfield 42, 3) := by decide +kernel
theorem dd_172_101 : decode prog_13_method_18_code 101 = .ok (.iload_n 1, 1) := by decide +kernel
theorem dd_172_102 : decode prog_13_method_18_code 102 = .ok (.iaload, 1) := by decide +kernel
theorem dd_172_103 : decode prog_13_method_18_code 103 = .ok (.iconst 1, 1) := by decide +kernel
theorem dd_172_104 : decode prog_13_method_18_code 104 = .ok (.if_icmp .le 31, 3) := by decide +kernel
theorem dd_172_107 : decode prog_13_method_18_code 107 = .ok (.aload_n 0, 1) := by decide +kernel
theorem dd_172_108 : decode prog_13_method_18_code 108 = .ok (.getfield 48, 3) := by decide +kernel
theorem dd_172_111 : decode prog_13_method_18_code 111 = .ok (.aload_n 0, 1) := by decide +kernel
theorem dd_172_112 : decode prog_13_method_18_code 112 = .ok (.getfield 36, 3) := by decide +kernel
theorem dd_172_115 : decode prog_13_method_18_code 115 = .ok (.iload_n 1, 1) := by decide +kernel
theorem dd_172_116 : decode prog_13_method_18_code 116 = .ok (.iaload, 1) := by decide +kernel
theorem dd_172_117 : decode prog_13_method_18_code 117 = .ok (.aload_n 0, 1) := by decide +kernel
theorem dd_172_118 : decode prog_13_method_18_code 118 = .ok (.getfield 45, 3) := by decide +kernel
theorem dd_172_121 : decode prog_13_method_18_code 121 = .ok (.iconst 3, 1) := by decide +kernel
theorem dd_172_122 : decode prog_13_method_18_code 122 = .ok (.iload_n 1, 1) := by decide +kernel
theorem dd_172_123 : decode prog_13_method_18_code 123 = .ok (.imul, 1) := by decide +kernel
theorem dd_172_124 : decode prog_13_method_18_code 124 = .ok (.iaload, 1) := by decide +kernel
theorem dd_172_125 : decode prog_13_method_18_code 125 = .ok (.iastore, 1) := by decide +kernel
theorem dd_172_126 : decode prog_13_method_18_code 126 = .ok (.aload_n 0, 1) := by decide +kernel
theorem dd_172_127 : decode prog_13_method_18_code 127 = .ok (.invokevirtual 135, 3) := by decide +kernel
theorem dd_172_130 : decode prog_13_method_18_code 130 = .ok (.ifCond .ne 5, 3) := by decide +kernel
theorem dd_172_133 : decode prog_13_method_18_code 133 = .ok (.iconst (-1), 1) := by decide +kernel
theorem dd_172_134 : decode prog_13_method_18_code 134 = .ok (.ireturn, 1) := by decide +kernel
theorem dd_172_135 : decode prog_13_method_18_code 135 = .ok (.aload_n 0, 1) := by decide +kernel
theorem dd_172_136 : decode prog_13_method_18_code 136 = .ok (.getfield 42, 3) := by decide +kernel
theorem dd_172_139 : decode prog_13_method_18_code 139 = .ok (.iload_n 1, 1) := by decide +kernel
theorem dd_172_140 : decode prog_13_method_18_code 140 = .ok (.iaload, 1) := by decide +kernel
theorem dd_172_141 : decode prog_13_method_18_code 141 = .ok (.iconst 1, 1) := by decide +kernel
theorem dd_172_142 : decode prog_13_method_18_code 142 = .ok (.if_icmp .eq 23, 3) := by decide +kernel
theorem dd_172_145 : decode prog_13_method_18_code 145 = .ok (.aload_n 0, 1) := by decide +kernel
theorem dd_172_146 : decode prog_13_method_18_code 146 = .ok (.getfield 42, 3) := by decide +kernel
theorem dd_172_149 : decode prog_13_method_18_code 149 = .ok (.iload_n 1, 1) := by decide +kernel
theorem dd_172_150 : decode prog_13_method_18_code 150 = .ok (.iaload, 1) := by decide +kernel
theorem dd_172_151 : decode prog_13_method_18_code 151 = .ok (.iconst 4, 1) := by decide +kernel
theorem dd_172_152 : decode prog_13_method_18_code 152 = .ok (.if_icmp .ge 36, 3) := by decide +kernel
theorem dd_172_155 : decode prog_13_method_18_code 155 = .ok (.aload_n 0, 1) := by decide +kernel
theorem dd_172_156 : decode prog_13_method_18_code 156 = .ok (.iconst 0, 1) := by decide +kernel
theorem dd_172_157 : decode prog_13_method_18_code 157 = .ok (.invokevirtual 108, 3) := by decide +kernel
theorem dd_172_160 : decode prog_13_method_18_code 160 = .ok (.bipush 32, 2) := by decide +kernel
theorem dd_172_162 : decode prog_13_method_18_code 162 = .ok (.if_icmp .ne 26, 3) := by decide +kernel
theorem dd_172_165 : decode prog_13_method_18_code 165 = .ok (.aload_n 0, 1) := by decide +kernel
theorem dd_172_166 : decode prog_13_method_18_code 166 = .ok (.bipush 32, 2) := by decide +kernel
theorem dd_172_168 : decode prog_13_method_18_code 168 = .ok (.invokevirtual 115, 3) := by decide +kernel
theorem dd_172_171 : decode prog_13_method_18_code 171 = .ok (.ifCond .eq 15, 3) := by decide +kernel
theorem dd_172_174 : decode prog_13_method_18_code 174 = .ok (.aload_n 0, 1) := by decide +kernel
theorem dd_172_175 : decode prog_13_method_18_code 175 = .ok (.iload_n 1, 1) := by decide +kernel
theorem dd_172_176 : decode prog_13_method_18_code 176 = .ok (.invokevirtual 157, 3) := by decide +kernel
theorem dd_172_179 : decode prog_13_method_18_code 179 = .ok (.ifCond .eq 7, 3) := by decide +kernel
theorem dd_172_182 : decode prog_13_method_18_code 182 = .ok (.iconst 1, 1) := by decide +kernel
theorem dd_172_183 : decode prog_13_method_18_code 183 = .ok (.goto 4, 3) := by decide +kernel
theorem dd_172_186 : decode prog_13_method_18_code 186 = .ok (.iconst (-1), 1) := by decide +kernel
theorem dd_172_187 : decode prog_13_method_18_code 187 = .ok (.ireturn, 1) := by decide +kernel
theorem dd_172_188 : decode prog_13_method_18_code 188 = .ok (.aload_n 0, 1) := by decide +kernel
theorem dd_172_189 : decode prog_13_method_18_code 189 = .ok (.invokevirtual 135, 3) := by decide +kernel
theorem dd_172_192 : decode prog_13_method_18_code 192 = .ok (.ifCond .eq 7, 3) := by decide +kernel
theorem dd_172_195 : decode prog_13_method_18_code 195 = .ok (.iconst 0, 1) := by decide +kernel
theorem dd_172_196 : decode prog_13_method_18_code 196 = .ok (.goto 4, 3) := by decide +kernel
theorem dd_172_199 : decode prog_13_method_18_code 199 = .ok (.iconst (-1), 1) := by decide +kernel
theorem dd_172_200 : decode prog_13_method_18_code 200 = .ok (.ireturn, 1) := by decide +kernel
set_option maxRecDepth 100000 in
theorem okI_172 : mj_okI gG "PairMachineModel" prog_13_method_18_code 2 (mj_off oM_172) (Option.some Jvm.ClassFile.FieldType.int) false true 0 cM_172 :=
  ⟨Or.inl ⟨0, rfl, dd_172_0, rfl⟩,
   ⟨17, "PairMachineModel", fT10, 45, dd_172_1, rfl, okc_10, by decide, tw_778⟩,
   Or.inl ⟨1, rfl, dd_172_4, rfl⟩,
   ⟨dd_172_5, rfl⟩,
   Or.inl (Or.inl ⟨dd_172_6, rfl⟩),
   ⟨37, dd_172_7, rfl, rfl⟩,
   Or.inl ⟨0, rfl, dd_172_10, rfl⟩,
   ⟨42, "PairMachineModel", fT10, 45, dd_172_11, rfl, okc_10, by decide, tw_786⟩,
   Or.inl ⟨1, rfl, dd_172_14, rfl⟩,
   ⟨dd_172_15, rfl⟩,
   Or.inl ⟨0, rfl, dd_172_16, rfl⟩,
   ⟨27, "PairMachineModel", fT10, 45, dd_172_17, rfl, okc_10, by decide, tw_781⟩,
   Or.inl ⟨1, rfl, dd_172_20, rfl⟩,
   ⟨dd_172_21, rfl⟩,
   ⟨dd_172_22, rfl⟩,
   ⟨rfl, tw_848, by decide, tw_12, by decide +kernel, 149, tw_849, dd_172_23, tw_850, by decide +kernel⟩,
   ⟨18, dd_172_26, rfl, rfl⟩,
   Or.inl ⟨0, rfl, dd_172_29, rfl⟩,
   Or.inl (Or.inr (Or.inl ⟨dd_172_30, rfl, by decide⟩)),
   ⟨rfl, tw_813, by decide, tw_12, by decide +kernel, 115, tw_814, dd_172_32, tw_815, ⟨"PairMachineModel", fT10, 45, rfl, tw_816⟩, by decide +kernel⟩,
   ⟨7, dd_172_35, rfl, rfl⟩,
   Or.inl (Or.inl ⟨dd_172_38, rfl⟩),
   ⟨4, dd_172_39, rfl⟩,
   Or.inl (Or.inl ⟨dd_172_42, rfl⟩),
   ⟨dd_172_43, rfl⟩,
   Or.inl ⟨0, rfl, dd_172_44, rfl⟩,
   ⟨17, "PairMachineModel", fT10, 45, dd_172_45, rfl, okc_10, by decide, tw_778⟩,
   Or.inl ⟨1, rfl, dd_172_48, rfl⟩,
   ⟨dd_172_49, rfl⟩,
   Or.inl (Or.inl ⟨dd_172_50, rfl⟩),
   ⟨24, dd_172_51, rfl, rfl⟩,
   Or.inl ⟨0, rfl, dd_172_54, rfl⟩,
   ⟨42, "PairMachineModel", fT10, 45, dd_172_55, rfl, okc_10, by decide, tw_786⟩,
   Or.inl ⟨1, rfl, dd_172_58, rfl⟩,
   ⟨dd_172_59, rfl⟩,
   Or.inl (Or.inl ⟨dd_172_60, rfl⟩),
   ⟨14, dd_172_61, rfl, rfl⟩,
   Or.inl ⟨0, rfl, dd_172_64, rfl⟩,
   Or.inl (Or.inr (Or.inl ⟨dd_172_65, rfl, by decide⟩)),
   ⟨rfl, tw_813, by decide, tw_12, by decide +kernel, 115, tw_814, dd_172_67, tw_815, ⟨"PairMachineModel", fT10, 45, rfl, tw_816⟩, by decide +kernel⟩,
   ⟨5, dd_172_70, rfl, rfl⟩,
   Or.inl (Or.inl ⟨dd_172_73, rfl⟩),
   ⟨dd_172_74, rfl⟩,
   Or.inl ⟨0, rfl, dd_172_75, rfl⟩,
   ⟨17, "PairMachineModel", fT10, 45, dd_172_76, rfl, okc_10, by decide, tw_778⟩,
   Or.inl ⟨1, rfl, dd_172_79, rfl⟩,
   ⟨dd_172_80, rfl⟩,
   Or.inl (Or.inr (Or.inl ⟨dd_172_81, rfl, by decide⟩)),
   ⟨14, dd_172_83, rfl, rfl⟩,
   Or.inl ⟨0, rfl, dd_172_86, rfl⟩,
   ⟨17, "PairMachineModel", fT10, 45, dd_172_87, rfl, okc_10, by decide, tw_778⟩,
   Or.inl ⟨1, rfl, dd_172_90, rfl⟩,
   ⟨dd_172_91, rfl⟩,
   Or.inl (Or.inr (Or.inl ⟨dd_172_92, rfl, by decide⟩)),
   ⟨94, dd_172_94, rfl, rfl⟩,
   Or.inl ⟨0, rfl, dd_172_97, rfl⟩,
   ⟨42, "PairMachineModel", fT10, 45, dd_172_98, rfl, okc_10, by decide, tw_786⟩,
   Or.inl ⟨1, rfl, dd_172_101, rfl⟩,
   ⟨dd_172_102, rfl⟩,
   Or.inl (Or.inl ⟨dd_172_103, rfl⟩),
   ⟨31, dd_172_104, rfl, rfl⟩,
   Or.inl ⟨0, rfl, dd_172_107, rfl⟩,
   ⟨48, "PairMachineModel", fT10, 45, dd_172_108, rfl, okc_10, by decide, tw_788⟩,
   Or.inl ⟨0, rfl, dd_172_111, rfl⟩,
   ⟨36, "PairMachineModel", fT10, 45, dd_172_112, rfl, okc_10, by decide, tw_784⟩,
   Or.inl ⟨1, rfl, dd_172_115, rfl⟩,
   ⟨dd_172_116, rfl⟩,
   Or.inl ⟨0, rfl, dd_172_117, rfl⟩,
   ⟨45, "PairMachineModel", fT10, 45, dd_172_118, rfl, okc_10, by decide, tw_787⟩,
   Or.inl (Or.inl ⟨dd_172_121, rfl⟩),
   Or.inl ⟨1, rfl, dd_172_122, rfl⟩,
   ⟨dd_172_123, rfl⟩,
   ⟨dd_172_124, rfl⟩,
   ⟨dd_172_125, rfl⟩,
   Or.inl ⟨0, rfl, dd_172_126, rfl⟩,
   ⟨rfl, tw_832, by decide, tw_12, by decide +kernel, 135, tw_833, dd_172_127, tw_834, ⟨"PairMachineModel", fT10, 45, rfl, tw_835⟩, by decide +kernel⟩,
   ⟨5, dd_172_130, rfl, rfl⟩,
   Or.inl (Or.inl ⟨dd_172_133, rfl⟩),
   ⟨dd_172_134, rfl⟩,
   Or.inl ⟨0, rfl, dd_172_135, rfl⟩,
   ⟨42, "PairMachineModel", fT10, 45, dd_172_136, rfl, okc_10, by decide, tw_786⟩,
   Or.inl ⟨1, rfl, dd_172_139, rfl⟩,
   ⟨dd_172_140, rfl⟩,
   Or.inl (Or.inl ⟨dd_172_141, rfl⟩),
   ⟨23, dd_172_142, rfl, rfl⟩,
   Or.inl ⟨0, rfl, dd_172_145, rfl⟩,
   ⟨42, "PairMachineModel", fT10, 45, dd_172_146, rfl, okc_10, by decide, tw_786⟩,
   Or.inl ⟨1, rfl, dd_172_149, rfl⟩,
   ⟨dd_172_150, rfl⟩,
   Or.inl (Or.inl ⟨dd_172_151, rfl⟩),
   ⟨36, dd_172_152, rfl, rfl⟩,
   Or.inl ⟨0, rfl, dd_172_155, rfl⟩,
   Or.inl (Or.inl ⟨dd_172_156, rfl⟩),
   ⟨rfl, tw_808, by decide, tw_12, by decide +kernel, 108, tw_809, dd_172_157, tw_810, ⟨"PairMachineModel", fT10, 45, rfl, tw_811⟩, by decide +kernel⟩,
   Or.inl (Or.inr (Or.inl ⟨dd_172_160, rfl, by decide⟩)),
   ⟨26, dd_172_162, rfl, rfl⟩,
   Or.inl ⟨0, rfl, dd_172_165, rfl⟩,
   Or.inl (Or.inr (Or.inl ⟨dd_172_166, rfl, by decide⟩)),
   ⟨rfl, tw_813, by decide, tw_12, by decide +kernel, 115, tw_814, dd_172_168, tw_815, ⟨"PairMachineModel", fT10, 45, rfl, tw_816⟩, by decide +kernel⟩,
   ⟨15, dd_172_171, rfl, rfl⟩,
   Or.inl ⟨0, rfl, dd_172_174, rfl⟩,
   Or.inl ⟨1, rfl, dd_172_175, rfl⟩,
   ⟨rfl, tw_855, by decide, tw_12, by decide +kernel, 157, tw_856, dd_172_176, tw_857, ⟨"PairMachineModel", fT10, 45, rfl, tw_858⟩, by decide +kernel⟩,
   ⟨7, dd_172_179, rfl, rfl⟩,
   Or.inl (Or.inl ⟨dd_172_182, rfl⟩),
   ⟨4, dd_172_183, rfl⟩,
   Or.inl (Or.inl ⟨dd_172_186, rfl⟩),
   ⟨dd_172_187, rfl⟩,
   Or.inl ⟨0, rfl, dd_172_188, rfl⟩,
   ⟨rfl, tw_832, by decide, tw_12, by decide +kernel, 135, tw_833, dd_172_189, tw_834, ⟨"PairMachineModel", fT10, 45, rfl, tw_835⟩, by decide +kernel⟩,
   ⟨7, dd_172_192, rfl, rfl⟩,
   Or.inl (Or.inl ⟨dd_172_195, rfl⟩),
   ⟨4, dd_172_196, rfl⟩,
   Or.inl (Or.inl ⟨dd_172_199, rfl⟩),
   ⟨dd_172_200, rfl⟩, trivial⟩
theorem okM_172 : mj_okE gG 172 (cM_172, 2, oM_172, hM_172) := ⟨rfl, rfl, by decide +kernel, trivial, okI_172⟩
