section
theorem dd_0_0 : decode code 0 = .ok (.new 8, 3) := by decide +kernel
theorem dd_0_3 : decode code 3 = .ok (.dup, 1) := by decide +kernel
theorem dd_0_4 : decode code 4 = .ok (.aload_n 0, 1) := by decide +kernel
theorem dd_0_5 : decode code 5 = .ok (.iconst 0, 1) := by decide +kernel
theorem dd_0_6 : decode code 6 = .ok (.invokestatic 21, 3) := by decide +kernel
theorem dd_0_9 : decode code 9 = .ok (.invokespecial 27, 3) := by decide +kernel
theorem dd_0_12 : decode code 12 = .ok (.astore_n 1, 1) := by decide +kernel
theorem dd_0_13 : decode code 13 = .ok (.new 30, 3) := by decide +kernel
theorem dd_0_16 : decode code 16 = .ok (.dup, 1) := by decide +kernel
theorem dd_0_17 : decode code 17 = .ok (.aload_n 0, 1) := by decide +kernel
theorem dd_0_18 : decode code 18 = .ok (.iconst 0, 1) := by decide +kernel
theorem dd_0_19 : decode code 19 = .ok (.invokestatic 21, 3) := by decide +kernel
theorem dd_0_22 : decode code 22 = .ok (.invokespecial 32, 3) := by decide +kernel
theorem dd_0_25 : decode code 25 = .ok (.astore_n 2, 1) := by decide +kernel
theorem dd_0_26 : decode code 26 = .ok (.iconst 1, 1) := by decide +kernel
theorem dd_0_27 : decode code 27 = .ok (.newarray .long, 2) := by decide +kernel
theorem dd_0_29 : decode code 29 = .ok (.astore_n 3, 1) := by decide +kernel
theorem dd_0_30 : decode code 30 = .ok (.iconst 1, 1) := by decide +kernel
theorem dd_0_31 : decode code 31 = .ok (.istore 4, 2) := by decide +kernel
theorem dd_0_33 : decode code 33 = .ok (.iload 4, 2) := by decide +kernel
theorem dd_0_35 : decode code 35 = .ok (.aload_n 0, 1) := by decide +kernel
theorem dd_0_36 : decode code 36 = .ok (.arraylength, 1) := by decide +kernel
theorem dd_0_37 : decode code 37 = .ok (.iconst 3, 1) := by decide +kernel
theorem dd_0_38 : decode code 38 = .ok (.isub, 1) := by decide +kernel
theorem dd_0_39 : decode code 39 = .ok (.if_icmp .gt 270, 3) := by decide +kernel
theorem dd_0_42 : decode code 42 = .ok (.aload_n 0, 1) := by decide +kernel
theorem dd_0_43 : decode code 43 = .ok (.iload 4, 2) := by decide +kernel
theorem dd_0_45 : decode code 45 = .ok (.iaload, 1) := by decide +kernel
theorem dd_0_46 : decode code 46 = .ok (.bipush 15, 2) := by decide +kernel
theorem dd_0_48 : decode code 48 = .ok (.iand, 1) := by decide +kernel
theorem dd_0_49 : decode code 49 = .ok (.tableswitch 254 0 8 #[51, 108, 124, 137, 150, 178, 191, 216, 229], 51) := by decide +kernel
theorem dd_0_100 : decode code 100 = .ok (.aload_n 1, 1) := by decide +kernel
theorem dd_0_101 : decode code 101 = .ok (.aload_n 0, 1) := by decide +kernel
theorem dd_0_102 : decode code 102 = .ok (.iload 4, 2) := by decide +kernel
theorem dd_0_104 : decode code 104 = .ok (.iconst 1, 1) := by decide +kernel
theorem dd_0_105 : decode code 105 = .ok (.iadd, 1) := by decide +kernel
theorem dd_0_106 : decode code 106 = .ok (.iaload, 1) := by decide +kernel
theorem dd_0_107 : decode code 107 = .ok (.i2l, 1) := by decide +kernel
theorem dd_0_108 : decode code 108 = .ok (.bipush 32, 2) := by decide +kernel
theorem dd_0_110 : decode code 110 = .ok (.lshl, 1) := by decide +kernel
theorem dd_0_111 : decode code 111 = .ok (.aload_n 0, 1) := by decide +kernel
theorem dd_0_112 : decode code 112 = .ok (.iload 4, 2) := by decide +kernel
theorem dd_0_114 : decode code 114 = .ok (.iconst 2, 1) := by decide +kernel
theorem dd_0_115 : decode code 115 = .ok (.iadd, 1) := by decide +kernel
theorem dd_0_116 : decode code 116 = .ok (.iaload, 1) := by decide +kernel
theorem dd_0_117 : decode code 117 = .ok (.i2l, 1) := by decide +kernel
theorem dd_0_118 : decode code 118 = .ok (.ldc2_w 33, 3) := by decide +kernel
theorem dd_0_121 : decode code 121 = .ok (.land, 1) := by decide +kernel
theorem dd_0_122 : decode code 122 = .ok (.lor, 1) := by decide +kernel
theorem dd_0_123 : decode code 123 = .ok (.invokevirtual 35, 3) := by decide +kernel
theorem dd_0_126 : decode code 126 = .ok (.pop, 1) := by decide +kernel
theorem dd_0_127 : decode code 127 = .ok (.aload_n 2, 1) := by decide +kernel
theorem dd_0_128 : decode code 128 = .ok (.aload_n 0, 1) := by decide +kernel
theorem dd_0_129 : decode code 129 = .ok (.iload 4, 2) := by decide +kernel
theorem dd_0_131 : decode code 131 = .ok (.iconst 1, 1) := by decide +kernel
theorem dd_0_132 : decode code 132 = .ok (.iadd, 1) := by decide +kernel
theorem dd_0_133 : decode code 133 = .ok (.iaload, 1) := by decide +kernel
theorem dd_0_134 : decode code 134 = .ok (.i2l, 1) := by decide +kernel
theorem dd_0_135 : decode code 135 = .ok (.bipush 32, 2) := by decide +kernel
theorem dd_0_137 : decode code 137 = .ok (.lshl, 1) := by decide +kernel
theorem dd_0_138 : decode code 138 = .ok (.aload_n 0, 1) := by decide +kernel
theorem dd_0_139 : decode code 139 = .ok (.iload 4, 2) := by decide +kernel
theorem dd_0_141 : decode code 141 = .ok (.iconst 2, 1) := by decide +kernel
theorem dd_0_142 : decode code 142 = .ok (.iadd, 1) := by decide +kernel
theorem dd_0_143 : decode code 143 = .ok (.iaload, 1) := by decide +kernel
theorem dd_0_144 : decode code 144 = .ok (.i2l, 1) := by decide +kernel
theorem dd_0_145 : decode code 145 = .ok (.ldc2_w 33, 3) := by decide +kernel
theorem dd_0_148 : decode code 148 = .ok (.land, 1) := by decide +kernel
theorem dd_0_149 : decode code 149 = .ok (.lor, 1) := by decide +kernel
theorem dd_0_150 : decode code 150 = .ok (.invokevirtual 39, 3) := by decide +kernel
theorem dd_0_153 : decode code 153 = .ok (.pop, 1) := by decide +kernel
theorem dd_0_154 : decode code 154 = .ok (.goto 149, 3) := by decide +kernel
theorem dd_0_157 : decode code 157 = .ok (.aload_n 1, 1) := by decide +kernel
theorem dd_0_158 : decode code 158 = .ok (.aload_n 3, 1) := by decide +kernel
theorem dd_0_159 : decode code 159 = .ok (.invokestatic 40, 3) := by decide +kernel
theorem dd_0_162 : decode code 162 = .ok (.istore 5, 2) := by decide +kernel
theorem dd_0_164 : decode code 164 = .ok (.aload_n 2, 1) := by decide +kernel
theorem dd_0_165 : decode code 165 = .ok (.invokevirtual 43, 3) := by decide +kernel
theorem dd_0_168 : decode code 168 = .ok (.istore 6, 2) := by decide +kernel
theorem dd_0_170 : decode code 170 = .ok (.goto 133, 3) := by decide +kernel
theorem dd_0_173 : decode code 173 = .ok (.aload_n 1, 1) := by decide +kernel
theorem dd_0_174 : decode code 174 = .ok (.invokevirtual 44, 3) := by decide +kernel
theorem dd_0_177 : decode code 177 = .ok (.aload_n 2, 1) := by decide +kernel
theorem dd_0_178 : decode code 178 = .ok (.invokevirtual 47, 3) := by decide +kernel
theorem dd_0_181 : decode code 181 = .ok (.if_icmp .eq 122, 3) := by decide +kernel
theorem dd_0_184 : decode code 184 = .ok (.iconst 0, 1) := by decide +kernel
theorem dd_0_185 : decode code 185 = .ok (.ireturn, 1) := by decide +kernel
theorem dd_0_186 : decode code 186 = .ok (.aload_n 1, 1) := by decide +kernel
theorem dd_0_187 : decode code 187 = .ok (.invokevirtual 48, 3) := by decide +kernel
theorem dd_0_190 : decode code 190 = .ok (.pop, 1) := by decide +kernel
theorem dd_0_191 : decode code 191 = .ok (.aload_n 2, 1) := by decide +kernel
theorem dd_0_192 : decode code 192 = .ok (.invokevirtual 52, 3) := by decide +kernel
theorem dd_0_195 : decode code 195 = .ok (.pop, 1) := by decide +kernel
theorem dd_0_196 : decode code 196 = .ok (.goto 107, 3) := by decide +kernel
theorem dd_0_199 : decode code 199 = .ok (.aload_n 1, 1) := by decide +kernel
theorem dd_0_200 : decode code 200 = .ok (.aload_n 0, 1) := by decide +kernel
theorem dd_0_201 : decode code 201 = .ok (.iload 4, 2) := by decide +kernel
theorem dd_0_203 : decode code 203 = .ok (.iconst 1, 1) := by decide +kernel
theorem dd_0_204 : decode code 204 = .ok (.iadd, 1) := by decide +kernel
theorem dd_0_205 : decode code 205 = .ok (.iaload, 1) := by decide +kernel
theorem dd_0_206 : decode code 206 = .ok (.aload_n 3, 1) := by decide +kernel
theorem dd_0_207 : decode code 207 = .ok (.invokestatic 53, 3) := by decide +kernel
theorem dd_0_210 : decode code 210 = .ok (.istore 5, 2) := by decide +kernel
theorem dd_0_212 : decode code 212 = .ok (.aload_n 2, 1) := by decide +kernel
theorem dd_0_213 : decode code 213 = .ok (.aload_n 0, 1) := by decide +kernel
theorem dd_0_214 : decode code 214 = .ok (.iload 4, 2) := by decide +kernel
theorem dd_0_216 : decode code 216 = .ok (.iconst 1, 1) := by decide +kernel
theorem dd_0_217 : decode code 217 = .ok (.iadd, 1) := by decide +kernel
theorem dd_0_218 : decode code 218 = .ok (.iaload, 1) := by decide +kernel
theorem dd_0_219 : decode code 219 = .ok (.invokevirtual 56, 3) := by decide +kernel
theorem dd_0_222 : decode code 222 = .ok (.istore 6, 2) := by decide +kernel
theorem dd_0_224 : decode code 224 = .ok (.goto 79, 3) := by decide +kernel
theorem dd_0_227 : decode code 227 = .ok (.aload_n 1, 1) := by decide +kernel
theorem dd_0_228 : decode code 228 = .ok (.invokevirtual 57, 3) := by decide +kernel
theorem dd_0_231 : decode code 231 = .ok (.pop, 1) := by decide +kernel
theorem dd_0_232 : decode code 232 = .ok (.aload_n 2, 1) := by decide +kernel
theorem dd_0_233 : decode code 233 = .ok (.invokevirtual 60, 3) := by decide +kernel
theorem dd_0_236 : decode code 236 = .ok (.pop, 1) := by decide +kernel
theorem dd_0_237 : decode code 237 = .ok (.goto 66, 3) := by decide +kernel
theorem dd_0_240 : decode code 240 = .ok (.aload_n 1, 1) := by decide +kernel
theorem dd_0_241 : decode code 241 = .ok (.aload_n 0, 1) := by decide +kernel
theorem dd_0_242 : decode code 242 = .ok (.iload 4, 2) := by decide +kernel
theorem dd_0_244 : decode code 244 = .ok (.iconst 1, 1) := by decide +kernel
theorem dd_0_245 : decode code 245 = .ok (.iadd, 1) := by decide +kernel
theorem dd_0_246 : decode code 246 = .ok (.iaload, 1) := by decide +kernel
theorem dd_0_247 : decode code 247 = .ok (.invokevirtual 61, 3) := by decide +kernel
theorem dd_0_250 : decode code 250 = .ok (.pop, 1) := by decide +kernel
theorem dd_0_251 : decode code 251 = .ok (.aload_n 2, 1) := by decide +kernel
theorem dd_0_252 : decode code 252 = .ok (.aload_n 0, 1) := by decide +kernel
theorem dd_0_253 : decode code 253 = .ok (.iload 4, 2) := by decide +kernel
theorem dd_0_255 : decode code 255 = .ok (.iconst 1, 1) := by decide +kernel
theorem dd_0_256 : decode code 256 = .ok (.iadd, 1) := by decide +kernel
theorem dd_0_257 : decode code 257 = .ok (.iaload, 1) := by decide +kernel
theorem dd_0_258 : decode code 258 = .ok (.invokevirtual 64, 3) := by decide +kernel
theorem dd_0_261 : decode code 261 = .ok (.pop, 1) := by decide +kernel
theorem dd_0_262 : decode code 262 = .ok (.goto 41, 3) := by decide +kernel
theorem dd_0_265 : decode code 265 = .ok (.aload_n 1, 1) := by decide +kernel
theorem dd_0_266 : decode code 266 = .ok (.invokevirtual 65, 3) := by decide +kernel
theorem dd_0_269 : decode code 269 = .ok (.pop, 1) := by decide +kernel
theorem dd_0_270 : decode code 270 = .ok (.aload_n 2, 1) := by decide +kernel
theorem dd_0_271 : decode code 271 = .ok (.invokevirtual 68, 3) := by decide +kernel
theorem dd_0_274 : decode code 274 = .ok (.pop, 1) := by decide +kernel
theorem dd_0_275 : decode code 275 = .ok (.goto 28, 3) := by decide +kernel
theorem dd_0_278 : decode code 278 = .ok (.aload_n 1, 1) := by decide +kernel
theorem dd_0_279 : decode code 279 = .ok (.aload_n 0, 1) := by decide +kernel
theorem dd_0_280 : decode code 280 = .ok (.iload 4, 2) := by decide +kernel
theorem dd_0_282 : decode code 282 = .ok (.iconst 1, 1) := by decide +kernel
theorem dd_0_283 : decode code 283 = .ok (.iadd, 1) := by decide +kernel
theorem dd_0_284 : decode code 284 = .ok (.iaload, 1) := by decide +kernel
theorem dd_0_285 : decode code 285 = .ok (.invokevirtual 69, 3) := by decide +kernel
theorem dd_0_288 : decode code 288 = .ok (.pop, 1) := by decide +kernel
theorem dd_0_289 : decode code 289 = .ok (.aload_n 2, 1) := by decide +kernel
theorem dd_0_290 : decode code 290 = .ok (.aload_n 0, 1) := by decide +kernel
theorem dd_0_291 : decode code 291 = .ok (.iload 4, 2) := by decide +kernel
theorem dd_0_293 : decode code 293 = .ok (.iconst 1, 1) := by decide +kernel
theorem dd_0_294 : decode code 294 = .ok (.iadd, 1) := by decide +kernel
theorem dd_0_295 : decode code 295 = .ok (.iaload, 1) := by decide +kernel
theorem dd_0_296 : decode code 296 = .ok (.invokevirtual 72, 3) := by decide +kernel
theorem dd_0_299 : decode code 299 = .ok (.pop, 1) := by decide +kernel
theorem dd_0_300 : decode code 300 = .ok (.goto 3, 3) := by decide +kernel
theorem dd_0_303 : decode code 303 = .ok (.iinc 4 3, 3) := by decide +kernel
theorem dd_0_306 : decode code 306 = .ok (.goto (-273), 3) := by decide +kernel
theorem dd_0_309 : decode code 309 = .ok (.iconst 1, 1) := by decide +kernel
theorem dd_0_310 : decode code 310 = .ok (.ireturn, 1) := by decide +kernel
set_option maxRecDepth 100000 in
theorem okI_0 : mj_okI gG "PairMachineLaw" code 7 (mj_off oM_0) (some .boolean) false true 0 cM_0 :=
  ⟨⟨8, "PairMachine", fT0, 7, fN0, dd_0_0, rfl, okc_0, rfl, rfl, by decide, tw_0, tw_1, tw_2⟩,
   ⟨dd_0_3, rfl⟩,
   Or.inl ⟨0, rfl, dd_0_4, rfl⟩,
   Or.inl (Or.inl ⟨dd_0_5, rfl⟩),
   ⟨rfl, tw_3, by decide, tw_4, by decide +kernel, 21, tw_5, dd_0_6, tw_6, by decide +kernel⟩,
   ⟨rfl, tw_7, by decide, tw_2, by decide +kernel, 27, tw_8, dd_0_9, tw_9, rfl, rfl, rfl, by decide +kernel⟩,
   ⟨by decide, Or.inl ⟨1, rfl, dd_0_12, rfl⟩⟩,
   ⟨30, "PairMachineModel", fT10, 45, fN10, dd_0_13, rfl, okc_10, rfl, rfl, by decide, tw_10, tw_11, tw_12⟩,
   ⟨dd_0_16, rfl⟩,
   Or.inl ⟨0, rfl, dd_0_17, rfl⟩,
   Or.inl (Or.inl ⟨dd_0_18, rfl⟩),
   ⟨rfl, tw_3, by decide, tw_4, by decide +kernel, 21, tw_5, dd_0_19, tw_6, by decide +kernel⟩,
   ⟨rfl, tw_13, by decide, tw_12, by decide +kernel, 32, tw_14, dd_0_22, tw_15, rfl, rfl, rfl, by decide +kernel⟩,
   ⟨by decide, Or.inl ⟨2, rfl, dd_0_25, rfl⟩⟩,
   Or.inl (Or.inl ⟨dd_0_26, rfl⟩),
   ⟨dd_0_27, rfl, tw_16⟩,
   ⟨by decide, Or.inl ⟨3, rfl, dd_0_29, rfl⟩⟩,
   Or.inl (Or.inl ⟨dd_0_30, rfl⟩),
   ⟨by decide, Or.inr ⟨dd_0_31, rfl⟩⟩,
   Or.inr ⟨dd_0_33, rfl⟩,
   Or.inl ⟨0, rfl, dd_0_35, rfl⟩,
   ⟨dd_0_36, rfl⟩,
   Or.inl (Or.inl ⟨dd_0_37, rfl⟩),
   ⟨dd_0_38, rfl⟩,
   ⟨270, dd_0_39, rfl, rfl⟩,
   Or.inl ⟨0, rfl, dd_0_42, rfl⟩,
   Or.inr ⟨dd_0_43, rfl⟩,
   ⟨dd_0_45, rfl⟩,
   Or.inl (Or.inr (Or.inl ⟨dd_0_46, rfl, by decide⟩)),
   ⟨dd_0_48, rfl⟩,
   Or.inr ⟨254, 0, #[51, 108, 124, 137, 150, 178, 191, 216, 229], 51, dd_0_49, rfl, rfl, (fun j hj => by
    match j, hj with
    | 0, _ => exact ⟨51, 31, rfl, rfl, by decide, rfl⟩
    | 1, _ => exact ⟨108, 72, rfl, rfl, by decide, rfl⟩
    | 2, _ => exact ⟨124, 80, rfl, rfl, by decide, rfl⟩
    | 3, _ => exact ⟨137, 87, rfl, rfl, by decide, rfl⟩
    | 4, _ => exact ⟨150, 94, rfl, rfl, by decide, rfl⟩
    | 5, _ => exact ⟨178, 112, rfl, rfl, by decide, rfl⟩
    | 6, _ => exact ⟨191, 119, rfl, rfl, by decide, rfl⟩
    | 7, _ => exact ⟨216, 136, rfl, rfl, by decide, rfl⟩
    | 8, _ => exact ⟨229, 143, rfl, rfl, by decide, rfl⟩
    | j + 9, h => exact absurd h (by simp))⟩,
   Or.inl ⟨1, rfl, dd_0_100, rfl⟩,
   Or.inl ⟨0, rfl, dd_0_101, rfl⟩,
   Or.inr ⟨dd_0_102, rfl⟩,
   Or.inl (Or.inl ⟨dd_0_104, rfl⟩),
   ⟨dd_0_105, rfl⟩,
   ⟨dd_0_106, rfl⟩,
   ⟨dd_0_107, rfl⟩,
   Or.inl (Or.inr (Or.inl ⟨dd_0_108, rfl, by decide⟩)),
   ⟨dd_0_110, rfl⟩,
   Or.inl ⟨0, rfl, dd_0_111, rfl⟩,
   Or.inr ⟨dd_0_112, rfl⟩,
   Or.inl (Or.inl ⟨dd_0_114, rfl⟩),
   ⟨dd_0_115, rfl⟩,
   ⟨dd_0_116, rfl⟩,
   ⟨dd_0_117, rfl⟩,
   Or.inr ⟨33, dd_0_118, rfl, tw_17⟩,
   ⟨dd_0_121, rfl⟩,
   ⟨dd_0_122, rfl⟩,
   ⟨rfl, tw_18, by decide, tw_2, by decide +kernel, 35, tw_19, dd_0_123, tw_20, ⟨"PairMachine", fT0, 7, rfl, tw_21⟩, by decide +kernel⟩,
   ⟨dd_0_126, rfl⟩,
   Or.inl ⟨2, rfl, dd_0_127, rfl⟩,
   Or.inl ⟨0, rfl, dd_0_128, rfl⟩,
   Or.inr ⟨dd_0_129, rfl⟩,
   Or.inl (Or.inl ⟨dd_0_131, rfl⟩),
   ⟨dd_0_132, rfl⟩,
   ⟨dd_0_133, rfl⟩,
   ⟨dd_0_134, rfl⟩,
   Or.inl (Or.inr (Or.inl ⟨dd_0_135, rfl, by decide⟩)),
   ⟨dd_0_137, rfl⟩,
   Or.inl ⟨0, rfl, dd_0_138, rfl⟩,
   Or.inr ⟨dd_0_139, rfl⟩,
   Or.inl (Or.inl ⟨dd_0_141, rfl⟩),
   ⟨dd_0_142, rfl⟩,
   ⟨dd_0_143, rfl⟩,
   ⟨dd_0_144, rfl⟩,
   Or.inr ⟨33, dd_0_145, rfl, tw_17⟩,
   ⟨dd_0_148, rfl⟩,
   ⟨dd_0_149, rfl⟩,
   ⟨rfl, tw_22, by decide, tw_12, by decide +kernel, 39, tw_23, dd_0_150, tw_24, ⟨"PairMachineModel", fT10, 45, rfl, tw_25⟩, by decide +kernel⟩,
   ⟨dd_0_153, rfl⟩,
   ⟨149, dd_0_154, rfl⟩,
   Or.inl ⟨1, rfl, dd_0_157, rfl⟩,
   Or.inl ⟨3, rfl, dd_0_158, rfl⟩,
   ⟨rfl, tw_26, by decide, tw_4, by decide +kernel, 40, tw_27, dd_0_159, tw_28, by decide +kernel⟩,
   ⟨by decide, Or.inr ⟨dd_0_162, rfl⟩⟩,
   Or.inl ⟨2, rfl, dd_0_164, rfl⟩,
   ⟨rfl, tw_29, by decide, tw_12, by decide +kernel, 43, tw_30, dd_0_165, tw_31, ⟨"PairMachineModel", fT10, 45, rfl, tw_32⟩, by decide +kernel⟩,
   ⟨by decide, Or.inr ⟨dd_0_168, rfl⟩⟩,
   ⟨133, dd_0_170, rfl⟩,
   Or.inl ⟨1, rfl, dd_0_173, rfl⟩,
   ⟨rfl, tw_33, by decide, tw_2, by decide +kernel, 44, tw_34, dd_0_174, tw_35, ⟨"PairMachine", fT0, 7, rfl, tw_36⟩, by decide +kernel⟩,
   Or.inl ⟨2, rfl, dd_0_177, rfl⟩,
   ⟨rfl, tw_37, by decide, tw_12, by decide +kernel, 47, tw_38, dd_0_178, tw_39, ⟨"PairMachineModel", fT10, 45, rfl, tw_40⟩, by decide +kernel⟩,
   ⟨122, dd_0_181, rfl, rfl⟩,
   Or.inl (Or.inl ⟨dd_0_184, rfl⟩),
   ⟨dd_0_185, rfl⟩,
   Or.inl ⟨1, rfl, dd_0_186, rfl⟩,
   ⟨rfl, tw_41, by decide, tw_2, by decide +kernel, 48, tw_42, dd_0_187, tw_43, ⟨"PairMachine", fT0, 7, rfl, tw_44⟩, by decide +kernel⟩,
   ⟨dd_0_190, rfl⟩,
   Or.inl ⟨2, rfl, dd_0_191, rfl⟩,
   ⟨rfl, tw_45, by decide, tw_12, by decide +kernel, 52, tw_46, dd_0_192, tw_47, ⟨"PairMachineModel", fT10, 45, rfl, tw_48⟩, by decide +kernel⟩,
   ⟨dd_0_195, rfl⟩,
   ⟨107, dd_0_196, rfl⟩,
   Or.inl ⟨1, rfl, dd_0_199, rfl⟩,
   Or.inl ⟨0, rfl, dd_0_200, rfl⟩,
   Or.inr ⟨dd_0_201, rfl⟩,
   Or.inl (Or.inl ⟨dd_0_203, rfl⟩),
   ⟨dd_0_204, rfl⟩,
   ⟨dd_0_205, rfl⟩,
   Or.inl ⟨3, rfl, dd_0_206, rfl⟩,
   ⟨rfl, tw_49, by decide, tw_4, by decide +kernel, 53, tw_50, dd_0_207, tw_51, by decide +kernel⟩,
   ⟨by decide, Or.inr ⟨dd_0_210, rfl⟩⟩,
   Or.inl ⟨2, rfl, dd_0_212, rfl⟩,
   Or.inl ⟨0, rfl, dd_0_213, rfl⟩,
   Or.inr ⟨dd_0_214, rfl⟩,
   Or.inl (Or.inl ⟨dd_0_216, rfl⟩),
   ⟨dd_0_217, rfl⟩,
   ⟨dd_0_218, rfl⟩,
   ⟨rfl, tw_52, by decide, tw_12, by decide +kernel, 56, tw_53, dd_0_219, tw_54, ⟨"PairMachineModel", fT10, 45, rfl, tw_55⟩, by decide +kernel⟩,
   ⟨by decide, Or.inr ⟨dd_0_222, rfl⟩⟩,
   ⟨79, dd_0_224, rfl⟩,
   Or.inl ⟨1, rfl, dd_0_227, rfl⟩,
   ⟨rfl, tw_56, by decide, tw_2, by decide +kernel, 57, tw_57, dd_0_228, tw_58, ⟨"PairMachine", fT0, 7, rfl, tw_59⟩, by decide +kernel⟩,
   ⟨dd_0_231, rfl⟩,
   Or.inl ⟨2, rfl, dd_0_232, rfl⟩,
   ⟨rfl, tw_60, by decide, tw_12, by decide +kernel, 60, tw_61, dd_0_233, tw_62, ⟨"PairMachineModel", fT10, 45, rfl, tw_63⟩, by decide +kernel⟩,
   ⟨dd_0_236, rfl⟩,
   ⟨66, dd_0_237, rfl⟩,
   Or.inl ⟨1, rfl, dd_0_240, rfl⟩,
   Or.inl ⟨0, rfl, dd_0_241, rfl⟩,
   Or.inr ⟨dd_0_242, rfl⟩,
   Or.inl (Or.inl ⟨dd_0_244, rfl⟩),
   ⟨dd_0_245, rfl⟩,
   ⟨dd_0_246, rfl⟩,
   ⟨rfl, tw_64, by decide, tw_2, by decide +kernel, 61, tw_65, dd_0_247, tw_66, ⟨"PairMachine", fT0, 7, rfl, tw_67⟩, by decide +kernel⟩,
   ⟨dd_0_250, rfl⟩,
   Or.inl ⟨2, rfl, dd_0_251, rfl⟩,
   Or.inl ⟨0, rfl, dd_0_252, rfl⟩,
   Or.inr ⟨dd_0_253, rfl⟩,
   Or.inl (Or.inl ⟨dd_0_255, rfl⟩),
   ⟨dd_0_256, rfl⟩,
   ⟨dd_0_257, rfl⟩,
   ⟨rfl, tw_68, by decide, tw_12, by decide +kernel, 64, tw_69, dd_0_258, tw_70, ⟨"PairMachineModel", fT10, 45, rfl, tw_71⟩, by decide +kernel⟩,
   ⟨dd_0_261, rfl⟩,
   ⟨41, dd_0_262, rfl⟩,
   Or.inl ⟨1, rfl, dd_0_265, rfl⟩,
   ⟨rfl, tw_72, by decide, tw_2, by decide +kernel, 65, tw_73, dd_0_266, tw_74, ⟨"PairMachine", fT0, 7, rfl, tw_75⟩, by decide +kernel⟩,
   ⟨dd_0_269, rfl⟩,
   Or.inl ⟨2, rfl, dd_0_270, rfl⟩,
   ⟨rfl, tw_76, by decide, tw_12, by decide +kernel, 68, tw_77, dd_0_271, tw_78, ⟨"PairMachineModel", fT10, 45, rfl, tw_79⟩, by decide +kernel⟩,
   ⟨dd_0_274, rfl⟩,
   ⟨28, dd_0_275, rfl⟩,
   Or.inl ⟨1, rfl, dd_0_278, rfl⟩,
   Or.inl ⟨0, rfl, dd_0_279, rfl⟩,
   Or.inr ⟨dd_0_280, rfl⟩,
   Or.inl (Or.inl ⟨dd_0_282, rfl⟩),
   ⟨dd_0_283, rfl⟩,
   ⟨dd_0_284, rfl⟩,
   ⟨rfl, tw_80, by decide, tw_2, by decide +kernel, 69, tw_81, dd_0_285, tw_82, ⟨"PairMachine", fT0, 7, rfl, tw_83⟩, by decide +kernel⟩,
   ⟨dd_0_288, rfl⟩,
   Or.inl ⟨2, rfl, dd_0_289, rfl⟩,
   Or.inl ⟨0, rfl, dd_0_290, rfl⟩,
   Or.inr ⟨dd_0_291, rfl⟩,
   Or.inl (Or.inl ⟨dd_0_293, rfl⟩),
   ⟨dd_0_294, rfl⟩,
   ⟨dd_0_295, rfl⟩,
   ⟨rfl, tw_84, by decide, tw_12, by decide +kernel, 72, tw_85, dd_0_296, tw_86, ⟨"PairMachineModel", fT10, 45, rfl, tw_87⟩, by decide +kernel⟩,
   ⟨dd_0_299, rfl⟩,
   ⟨3, dd_0_300, rfl⟩,
   ⟨by decide, dd_0_303, rfl⟩,
   ⟨(-273), dd_0_306, rfl⟩,
   Or.inl (Or.inl ⟨dd_0_309, rfl⟩),
   ⟨dd_0_310, rfl⟩, trivial⟩
theorem okM_0 : mj_okE gG 0 (cM_0, 7, oM_0, hM_0) := ⟨rfl, rfl, by decide +kernel, trivial, okI_0⟩
theorem dd_1_0 : decode method_2_code 0 = .ok (.iload_n 1, 1) := by decide +kernel
theorem dd_1_1 : decode method_2_code 1 = .ok (.aload_n 0, 1) := by decide +kernel
theorem dd_1_2 : decode method_2_code 2 = .ok (.arraylength, 1) := by decide +kernel
theorem dd_1_3 : decode method_2_code 3 = .ok (.if_icmp .ge 9, 3) := by decide +kernel
theorem dd_1_6 : decode method_2_code 6 = .ok (.aload_n 0, 1) := by decide +kernel
theorem dd_1_7 : decode method_2_code 7 = .ok (.iload_n 1, 1) := by decide +kernel
theorem dd_1_8 : decode method_2_code 8 = .ok (.iaload, 1) := by decide +kernel
theorem dd_1_9 : decode method_2_code 9 = .ok (.goto 4, 3) := by decide +kernel
theorem dd_1_12 : decode method_2_code 12 = .ok (.iconst 0, 1) := by decide +kernel
theorem dd_1_13 : decode method_2_code 13 = .ok (.ireturn, 1) := by decide +kernel
set_option maxRecDepth 100000 in
theorem okI_1 : mj_okI gG "PairMachineLaw" method_2_code 2 (mj_off oM_1) (Option.some Jvm.ClassFile.FieldType.int) false true 0 cM_1 :=
  ⟨Or.inl ⟨1, rfl, dd_1_0, rfl⟩,
   Or.inl ⟨0, rfl, dd_1_1, rfl⟩,
   ⟨dd_1_2, rfl⟩,
   ⟨9, dd_1_3, rfl, rfl⟩,
   Or.inl ⟨0, rfl, dd_1_6, rfl⟩,
   Or.inl ⟨1, rfl, dd_1_7, rfl⟩,
   ⟨dd_1_8, rfl⟩,
   ⟨4, dd_1_9, rfl⟩,
   Or.inl (Or.inl ⟨dd_1_12, rfl⟩),
   ⟨dd_1_13, rfl⟩, trivial⟩
theorem okM_1 : mj_okE gG 1 (cM_1, 2, oM_1, hM_1) := ⟨rfl, rfl, by decide +kernel, trivial, okI_1⟩
theorem dd_2_0 : decode method_3_code 0 = .ok (.aload_n 1, 1) := by decide +kernel
theorem dd_2_1 : decode method_3_code 1 = .ok (.iconst 0, 1) := by decide +kernel
theorem dd_2_2 : decode method_3_code 2 = .ok (.aload_n 0, 1) := by decide +kernel
theorem dd_2_3 : decode method_3_code 3 = .ok (.invokevirtual 7, 3) := by decide +kernel
theorem dd_2_6 : decode method_3_code 6 = .ok (.i2l, 1) := by decide +kernel
theorem dd_2_7 : decode method_3_code 7 = .ok (.lastore, 1) := by decide +kernel
theorem dd_2_8 : decode method_3_code 8 = .ok (.goto 9, 3) := by decide +kernel
theorem dd_2_11 : decode method_3_code 11 = .ok (.astore_n 2, 1) := by decide +kernel
theorem dd_2_12 : decode method_3_code 12 = .ok (.iconst 1, 1) := by decide +kernel
theorem dd_2_13 : decode method_3_code 13 = .ok (.ireturn, 1) := by decide +kernel
theorem dd_2_14 : decode method_3_code 14 = .ok (.astore_n 2, 1) := by decide +kernel
theorem dd_2_15 : decode method_3_code 15 = .ok (.iconst 2, 1) := by decide +kernel
theorem dd_2_16 : decode method_3_code 16 = .ok (.ireturn, 1) := by decide +kernel
theorem dd_2_17 : decode method_3_code 17 = .ok (.iconst 0, 1) := by decide +kernel
theorem dd_2_18 : decode method_3_code 18 = .ok (.ireturn, 1) := by decide +kernel
set_option maxRecDepth 100000 in
theorem okI_2 : mj_okI gG "PairMachineLaw" method_3_code 3 (mj_off oM_2) (Option.some Jvm.ClassFile.FieldType.int) false false 0 cM_2 :=
  ⟨Or.inl ⟨1, rfl, dd_2_0, rfl⟩,
   Or.inl (Or.inl ⟨dd_2_1, rfl⟩),
   Or.inl ⟨0, rfl, dd_2_2, rfl⟩,
   ⟨rfl, tw_88, by decide, tw_2, by decide +kernel, 7, tw_89, dd_2_3, tw_90, ⟨"PairMachine", fT0, 7, rfl, tw_91⟩, by decide +kernel⟩,
   ⟨dd_2_6, rfl⟩,
   ⟨dd_2_7, rfl⟩,
   ⟨9, dd_2_8, rfl⟩,
   ⟨by decide, Or.inl ⟨2, rfl, dd_2_11, rfl⟩⟩,
   Or.inl (Or.inl ⟨dd_2_12, rfl⟩),
   ⟨dd_2_13, rfl⟩,
   ⟨by decide, Or.inl ⟨2, rfl, dd_2_14, rfl⟩⟩,
   Or.inl (Or.inl ⟨dd_2_15, rfl⟩),
   ⟨dd_2_16, rfl⟩,
   Or.inl (Or.inl ⟨dd_2_17, rfl⟩),
   ⟨dd_2_18, rfl⟩, trivial⟩
theorem okM_2 : mj_okE gG 2 (cM_2, 3, oM_2, hM_2) := ⟨rfl, rfl, by decide +kernel, ⟨⟨rfl, rfl, rfl, by decide, by decide, Or.inl ⟨2, rfl, dd_2_11, rfl⟩, tw_1301, by decide +kernel, by decide +kernel⟩, ⟨⟨rfl, rfl, rfl, by decide, by decide, Or.inl ⟨2, rfl, dd_2_14, rfl⟩, tw_1300, by decide +kernel, by decide +kernel⟩, trivial⟩⟩, okI_2⟩
theorem dd_3_0 : decode method_4_code 0 = .ok (.aload_n 2, 1) := by decide +kernel
theorem dd_3_1 : decode method_4_code 1 = .ok (.iconst 0, 1) := by decide +kernel
theorem dd_3_2 : decode method_4_code 2 = .ok (.aload_n 0, 1) := by decide +kernel
theorem dd_3_3 : decode method_4_code 3 = .ok (.iload_n 1, 1) := by decide +kernel
theorem dd_3_4 : decode method_4_code 4 = .ok (.invokevirtual 17, 3) := by decide +kernel
theorem dd_3_7 : decode method_4_code 7 = .ok (.i2l, 1) := by decide +kernel
theorem dd_3_8 : decode method_4_code 8 = .ok (.lastore, 1) := by decide +kernel
theorem dd_3_9 : decode method_4_code 9 = .ok (.goto 6, 3) := by decide +kernel
theorem dd_3_12 : decode method_4_code 12 = .ok (.astore_n 3, 1) := by decide +kernel
theorem dd_3_13 : decode method_4_code 13 = .ok (.iconst 1, 1) := by decide +kernel
theorem dd_3_14 : decode method_4_code 14 = .ok (.ireturn, 1) := by decide +kernel
theorem dd_3_15 : decode method_4_code 15 = .ok (.iconst 0, 1) := by decide +kernel
theorem dd_3_16 : decode method_4_code 16 = .ok (.ireturn, 1) := by decide +kernel
set_option maxRecDepth 100000 in
theorem okI_3 : mj_okI gG "PairMachineLaw" method_4_code 4 (mj_off oM_3) (Option.some Jvm.ClassFile.FieldType.int) false false 0 cM_3 :=
  ⟨Or.inl ⟨2, rfl, dd_3_0, rfl⟩,
   Or.inl (Or.inl ⟨dd_3_1, rfl⟩),
   Or.inl ⟨0, rfl, dd_3_2, rfl⟩,
   Or.inl ⟨1, rfl, dd_3_3, rfl⟩,
   ⟨rfl, tw_92, by decide, tw_2, by decide +kernel, 17, tw_93, dd_3_4, tw_94, ⟨"PairMachine", fT0, 7, rfl, tw_95⟩, by decide +kernel⟩,
   ⟨dd_3_7, rfl⟩,
   ⟨dd_3_8, rfl⟩,
   ⟨6, dd_3_9, rfl⟩,
   ⟨by decide, Or.inl ⟨3, rfl, dd_3_12, rfl⟩⟩,
   Or.inl (Or.inl ⟨dd_3_13, rfl⟩),
   ⟨dd_3_14, rfl⟩,
   Or.inl (Or.inl ⟨dd_3_15, rfl⟩),
   ⟨dd_3_16, rfl⟩, trivial⟩
theorem okM_3 : mj_okE gG 3 (cM_3, 4, oM_3, hM_3) := ⟨rfl, rfl, by decide +kernel, ⟨⟨rfl, rfl, rfl, by decide, by decide, Or.inl ⟨3, rfl, dd_3_12, rfl⟩, tw_1301, by decide +kernel, by decide +kernel⟩, trivial⟩, okI_3⟩
theorem dd_4_0 : decode prog_1_method_1_code 0 = .ok (.aload_n 0, 1) := by decide +kernel
theorem dd_4_1 : decode prog_1_method_1_code 1 = .ok (.invokespecial 1, 3) := by decide +kernel
theorem dd_4_4 : decode prog_1_method_1_code 4 = .ok (.aload_n 0, 1) := by decide +kernel
theorem dd_4_5 : decode prog_1_method_1_code 5 = .ok (.bipush 20, 2) := by decide +kernel
theorem dd_4_7 : decode prog_1_method_1_code 7 = .ok (.sipush 250, 3) := by decide +kernel
theorem dd_4_10 : decode prog_1_method_1_code 10 = .ok (.iload_n 1, 1) := by decide +kernel
theorem dd_4_11 : decode prog_1_method_1_code 11 = .ok (.invokestatic 9, 3) := by decide +kernel
theorem dd_4_14 : decode prog_1_method_1_code 14 = .ok (.invokestatic 15, 3) := by decide +kernel
theorem dd_4_17 : decode prog_1_method_1_code 17 = .ok (.putfield 18, 3) := by decide +kernel
theorem dd_4_20 : decode prog_1_method_1_code 20 = .ok (.new 22, 3) := by decide +kernel
theorem dd_4_23 : decode prog_1_method_1_code 23 = .ok (.dup, 1) := by decide +kernel
theorem dd_4_24 : decode prog_1_method_1_code 24 = .ok (.invokespecial 24, 3) := by decide +kernel
theorem dd_4_27 : decode prog_1_method_1_code 27 = .ok (.astore_n 2, 1) := by decide +kernel
theorem dd_4_28 : decode prog_1_method_1_code 28 = .ok (.aload_n 0, 1) := by decide +kernel
theorem dd_4_29 : decode prog_1_method_1_code 29 = .ok (.new 25, 3) := by decide +kernel
theorem dd_4_32 : decode prog_1_method_1_code 32 = .ok (.dup, 1) := by decide +kernel
theorem dd_4_33 : decode prog_1_method_1_code 33 = .ok (.invokespecial 27, 3) := by decide +kernel
theorem dd_4_36 : decode prog_1_method_1_code 36 = .ok (.putfield 28, 3) := by decide +kernel
theorem dd_4_39 : decode prog_1_method_1_code 39 = .ok (.aload_n 0, 1) := by decide +kernel
theorem dd_4_40 : decode prog_1_method_1_code 40 = .ok (.new 32, 3) := by decide +kernel
theorem dd_4_43 : decode prog_1_method_1_code 43 = .ok (.dup, 1) := by decide +kernel
theorem dd_4_44 : decode prog_1_method_1_code 44 = .ok (.aload_n 0, 1) := by decide +kernel
theorem dd_4_45 : decode prog_1_method_1_code 45 = .ok (.getfield 28, 3) := by decide +kernel
theorem dd_4_48 : decode prog_1_method_1_code 48 = .ok (.aload_n 2, 1) := by decide +kernel
theorem dd_4_49 : decode prog_1_method_1_code 49 = .ok (.invokespecial 34, 3) := by decide +kernel
theorem dd_4_52 : decode prog_1_method_1_code 52 = .ok (.putfield 37, 3) := by decide +kernel
theorem dd_4_55 : decode prog_1_method_1_code 55 = .ok (.aload_n 0, 1) := by decide +kernel
theorem dd_4_56 : decode prog_1_method_1_code 56 = .ok (.new 41, 3) := by decide +kernel
theorem dd_4_59 : decode prog_1_method_1_code 59 = .ok (.dup, 1) := by decide +kernel
theorem dd_4_60 : decode prog_1_method_1_code 60 = .ok (.aload_n 0, 1) := by decide +kernel
theorem dd_4_61 : decode prog_1_method_1_code 61 = .ok (.getfield 18, 3) := by decide +kernel
theorem dd_4_64 : decode prog_1_method_1_code 64 = .ok (.invokespecial 43, 3) := by decide +kernel
theorem dd_4_67 : decode prog_1_method_1_code 67 = .ok (.putfield 46, 3) := by decide +kernel
theorem dd_4_70 : decode prog_1_method_1_code 70 = .ok (.aload_n 0, 1) := by decide +kernel
theorem dd_4_71 : decode prog_1_method_1_code 71 = .ok (.new 50, 3) := by decide +kernel
theorem dd_4_74 : decode prog_1_method_1_code 74 = .ok (.dup, 1) := by decide +kernel
theorem dd_4_75 : decode prog_1_method_1_code 75 = .ok (.aload_n 2, 1) := by decide +kernel
theorem dd_4_76 : decode prog_1_method_1_code 76 = .ok (.aload_n 0, 1) := by decide +kernel
theorem dd_4_77 : decode prog_1_method_1_code 77 = .ok (.getfield 46, 3) := by decide +kernel
theorem dd_4_80 : decode prog_1_method_1_code 80 = .ok (.invokespecial 52, 3) := by decide +kernel
theorem dd_4_83 : decode prog_1_method_1_code 83 = .ok (.putfield 55, 3) := by decide +kernel
theorem dd_4_86 : decode prog_1_method_1_code 86 = .ok (.aload_n 0, 1) := by decide +kernel
theorem dd_4_87 : decode prog_1_method_1_code 87 = .ok (.new 59, 3) := by decide +kernel
theorem dd_4_90 : decode prog_1_method_1_code 90 = .ok (.dup, 1) := by decide +kernel
theorem dd_4_91 : decode prog_1_method_1_code 91 = .ok (.aload_n 0, 1) := by decide +kernel
theorem dd_4_92 : decode prog_1_method_1_code 92 = .ok (.getfield 18, 3) := by decide +kernel
theorem dd_4_95 : decode prog_1_method_1_code 95 = .ok (.invokespecial 61, 3) := by decide +kernel
theorem dd_4_98 : decode prog_1_method_1_code 98 = .ok (.putfield 62, 3) := by decide +kernel
theorem dd_4_101 : decode prog_1_method_1_code 101 = .ok (.aload_n 0, 1) := by decide +kernel
theorem dd_4_102 : decode prog_1_method_1_code 102 = .ok (.iconst (-1), 1) := by decide +kernel
theorem dd_4_103 : decode prog_1_method_1_code 103 = .ok (.putfield 66, 3) := by decide +kernel
theorem dd_4_106 : decode prog_1_method_1_code 106 = .ok (.return_, 1) := by decide +kernel
set_option maxRecDepth 100000 in
theorem okI_4 : mj_okI gG "PairMachine" prog_1_method_1_code 3 (mj_off oM_4) (Option.none : Option Jvm.ClassFile.FieldType) true true 0 cM_4 :=
  ⟨Or.inl ⟨0, rfl, dd_4_0, rfl⟩,
   ⟨1, dd_4_1, rfl, tw_96, tw_97, tw_98⟩,
   Or.inl ⟨0, rfl, dd_4_4, rfl⟩,
   Or.inl (Or.inr (Or.inl ⟨dd_4_5, rfl, by decide⟩)),
   Or.inl (Or.inr (Or.inr (Or.inl ⟨dd_4_7, rfl, by decide⟩))),
   Or.inl ⟨1, rfl, dd_4_10, rfl⟩,
   ⟨9, dd_4_11, rfl, tw_99, tw_100, tw_101, tw_102⟩,
   ⟨15, dd_4_14, rfl, tw_99, tw_103, tw_104, tw_105⟩,
   ⟨18, "PairMachine", fT0, 7, dd_4_17, rfl, okc_0, by decide, tw_106, rfl, Or.inr ⟨rfl, by decide, rfl⟩⟩,
   ⟨22, "PairMachine$Tree", fT2, 7, fN2, dd_4_20, rfl, okc_2, rfl, rfl, by decide, tw_107, tw_108, tw_109⟩,
   ⟨dd_4_23, rfl⟩,
   ⟨rfl, tw_110, by decide, tw_109, by decide +kernel, 24, tw_111, dd_4_24, tw_112, rfl, rfl, rfl, by decide +kernel⟩,
   ⟨by decide, Or.inl ⟨2, rfl, dd_4_27, rfl⟩⟩,
   Or.inl ⟨0, rfl, dd_4_28, rfl⟩,
   ⟨25, "PairMachine$Text", fT1, 2, fN1, dd_4_29, rfl, okc_1, rfl, rfl, by decide, tw_113, tw_114, tw_115⟩,
   ⟨dd_4_32, rfl⟩,
   ⟨rfl, tw_116, by decide, tw_115, by decide +kernel, 27, tw_117, dd_4_33, tw_118, rfl, rfl, rfl, by decide +kernel⟩,
   ⟨28, "PairMachine", fT0, 7, dd_4_36, rfl, okc_0, by decide, tw_119, Or.inl ⟨_, rfl⟩, Or.inr ⟨rfl, by decide, rfl⟩⟩,
   Or.inl ⟨0, rfl, dd_4_39, rfl⟩,
   ⟨32, "PairMachine$Reader", fT3, 3, fN3, dd_4_40, rfl, okc_3, rfl, rfl, by decide, tw_120, tw_121, tw_122⟩,
   ⟨dd_4_43, rfl⟩,
   Or.inl ⟨0, rfl, dd_4_44, rfl⟩,
   ⟨28, "PairMachine", fT0, 7, dd_4_45, rfl, okc_0, by decide, tw_119⟩,
   Or.inl ⟨2, rfl, dd_4_48, rfl⟩,
   ⟨rfl, tw_123, by decide, tw_122, by decide +kernel, 34, tw_124, dd_4_49, tw_125, rfl, rfl, rfl, by decide +kernel⟩,
   ⟨37, "PairMachine", fT0, 7, dd_4_52, rfl, okc_0, by decide, tw_126, Or.inl ⟨_, rfl⟩, Or.inr ⟨rfl, by decide, rfl⟩⟩,
   Or.inl ⟨0, rfl, dd_4_55, rfl⟩,
   ⟨41, "PairMachine$Code", fT4, 5, fN4, dd_4_56, rfl, okc_4, rfl, rfl, by decide, tw_127, tw_128, tw_129⟩,
   ⟨dd_4_59, rfl⟩,
   Or.inl ⟨0, rfl, dd_4_60, rfl⟩,
   ⟨18, "PairMachine", fT0, 7, dd_4_61, rfl, okc_0, by decide, tw_106⟩,
   ⟨rfl, tw_130, by decide, tw_129, by decide +kernel, 43, tw_131, dd_4_64, tw_132, rfl, rfl, rfl, by decide +kernel⟩,
   ⟨46, "PairMachine", fT0, 7, dd_4_67, rfl, okc_0, by decide, tw_133, Or.inl ⟨_, rfl⟩, Or.inr ⟨rfl, by decide, rfl⟩⟩,
   Or.inl ⟨0, rfl, dd_4_70, rfl⟩,
   ⟨50, "PairMachine$Coder", fT5, 5, fN5, dd_4_71, rfl, okc_5, rfl, rfl, by decide, tw_134, tw_135, tw_136⟩,
   ⟨dd_4_74, rfl⟩,
   Or.inl ⟨2, rfl, dd_4_75, rfl⟩,
   Or.inl ⟨0, rfl, dd_4_76, rfl⟩,
   ⟨46, "PairMachine", fT0, 7, dd_4_77, rfl, okc_0, by decide, tw_133⟩,
   ⟨rfl, tw_137, by decide, tw_136, by decide +kernel, 52, tw_138, dd_4_80, tw_139, rfl, rfl, rfl, by decide +kernel⟩,
   ⟨55, "PairMachine", fT0, 7, dd_4_83, rfl, okc_0, by decide, tw_140, Or.inl ⟨_, rfl⟩, Or.inr ⟨rfl, by decide, rfl⟩⟩,
   Or.inl ⟨0, rfl, dd_4_86, rfl⟩,
   ⟨59, "PairMachine$Machine", fT6, 10, fN6, dd_4_87, rfl, okc_6, rfl, rfl, by decide, tw_141, tw_142, tw_143⟩,
   ⟨dd_4_90, rfl⟩,
   Or.inl ⟨0, rfl, dd_4_91, rfl⟩,
   ⟨18, "PairMachine", fT0, 7, dd_4_92, rfl, okc_0, by decide, tw_106⟩,
   ⟨rfl, tw_144, by decide, tw_143, by decide +kernel, 61, tw_145, dd_4_95, tw_146, rfl, rfl, rfl, by decide +kernel⟩,
   ⟨62, "PairMachine", fT0, 7, dd_4_98, rfl, okc_0, by decide, tw_147, Or.inl ⟨_, rfl⟩, Or.inr ⟨rfl, by decide, rfl⟩⟩,
   Or.inl ⟨0, rfl, dd_4_101, rfl⟩,
   Or.inl (Or.inl ⟨dd_4_102, rfl⟩),
   ⟨66, "PairMachine", fT0, 7, dd_4_103, rfl, okc_0, by decide, tw_148, rfl, Or.inl rfl⟩,
   ⟨dd_4_106, rfl⟩, trivial⟩
theorem okM_4 : mj_okE gG 4 (cM_4, 3, oM_4, hM_4) := ⟨rfl, rfl, by decide +kernel, trivial, okI_4⟩
theorem dd_5_0 : decode prog_1_method_2_code 0 = .ok (.aload_n 0, 1) := by decide +kernel
theorem dd_5_1 : decode prog_1_method_2_code 1 = .ok (.getfield 28, 3) := by decide +kernel
theorem dd_5_4 : decode prog_1_method_2_code 4 = .ok (.lload_n 1, 1) := by decide +kernel
theorem dd_5_5 : decode prog_1_method_2_code 5 = .ok (.invokevirtual 69, 3) := by decide +kernel
theorem dd_5_8 : decode prog_1_method_2_code 8 = .ok (.ireturn, 1) := by decide +kernel
set_option maxRecDepth 100000 in
theorem okI_5 : mj_okI gG "PairMachine" prog_1_method_2_code 3 (mj_off oM_5) (Option.some Jvm.ClassFile.FieldType.boolean) false true 0 cM_5 :=
  ⟨Or.inl ⟨0, rfl, dd_5_0, rfl⟩,
   ⟨28, "PairMachine", fT0, 7, dd_5_1, rfl, okc_0, by decide, tw_119⟩,
   Or.inl ⟨1, rfl, dd_5_4, rfl⟩,
   ⟨rfl, tw_149, by decide, tw_115, by decide +kernel, 69, tw_150, dd_5_5, tw_151, ⟨"PairMachine$Text", fT1, 2, rfl, tw_152⟩, by decide +kernel⟩,
   ⟨dd_5_8, rfl⟩, trivial⟩
theorem okM_5 : mj_okE gG 5 (cM_5, 3, oM_5, hM_5) := ⟨rfl, rfl, by decide +kernel, trivial, okI_5⟩
theorem dd_6_0 : decode prog_1_method_3_code 0 = .ok (.aload_n 0, 1) := by decide +kernel
theorem dd_6_1 : decode prog_1_method_3_code 1 = .ok (.aload_n 0, 1) := by decide +kernel
theorem dd_6_2 : decode prog_1_method_3_code 2 = .ok (.getfield 37, 3) := by decide +kernel
theorem dd_6_5 : decode prog_1_method_3_code 5 = .ok (.invokevirtual 73, 3) := by decide +kernel
theorem dd_6_8 : decode prog_1_method_3_code 8 = .ok (.putfield 66, 3) := by decide +kernel
theorem dd_6_11 : decode prog_1_method_3_code 11 = .ok (.aload_n 0, 1) := by decide +kernel
theorem dd_6_12 : decode prog_1_method_3_code 12 = .ok (.getfield 28, 3) := by decide +kernel
theorem dd_6_15 : decode prog_1_method_3_code 15 = .ok (.invokevirtual 77, 3) := by decide +kernel
theorem dd_6_18 : decode prog_1_method_3_code 18 = .ok (.aload_n 0, 1) := by decide +kernel
theorem dd_6_19 : decode prog_1_method_3_code 19 = .ok (.getfield 66, 3) := by decide +kernel
theorem dd_6_22 : decode prog_1_method_3_code 22 = .ok (.iconst (-1), 1) := by decide +kernel
theorem dd_6_23 : decode prog_1_method_3_code 23 = .ok (.if_icmp .ne 14, 3) := by decide +kernel
theorem dd_6_26 : decode prog_1_method_3_code 26 = .ok (.aload_n 0, 1) := by decide +kernel
theorem dd_6_27 : decode prog_1_method_3_code 27 = .ok (.aload_n 0, 1) := by decide +kernel
theorem dd_6_28 : decode prog_1_method_3_code 28 = .ok (.getfield 55, 3) := by decide +kernel
theorem dd_6_31 : decode prog_1_method_3_code 31 = .ok (.invokevirtual 80, 3) := by decide +kernel
theorem dd_6_34 : decode prog_1_method_3_code 34 = .ok (.putfield 66, 3) := by decide +kernel
theorem dd_6_37 : decode prog_1_method_3_code 37 = .ok (.aload_n 0, 1) := by decide +kernel
theorem dd_6_38 : decode prog_1_method_3_code 38 = .ok (.getfield 66, 3) := by decide +kernel
theorem dd_6_41 : decode prog_1_method_3_code 41 = .ok (.iconst (-1), 1) := by decide +kernel
theorem dd_6_42 : decode prog_1_method_3_code 42 = .ok (.if_icmp .eq 13, 3) := by decide +kernel
theorem dd_6_45 : decode prog_1_method_3_code 45 = .ok (.new 83, 3) := by decide +kernel
theorem dd_6_48 : decode prog_1_method_3_code 48 = .ok (.dup, 1) := by decide +kernel
theorem dd_6_49 : decode prog_1_method_3_code 49 = .ok (.ldc 85, 2) := by decide +kernel
theorem dd_6_51 : decode prog_1_method_3_code 51 = .ok (.invokespecial 87, 3) := by decide +kernel
theorem dd_6_54 : decode prog_1_method_3_code 54 = .ok (.athrow, 1) := by decide +kernel
theorem dd_6_55 : decode prog_1_method_3_code 55 = .ok (.aload_n 0, 1) := by decide +kernel
theorem dd_6_56 : decode prog_1_method_3_code 56 = .ok (.getfield 46, 3) := by decide +kernel
theorem dd_6_59 : decode prog_1_method_3_code 59 = .ok (.invokevirtual 90, 3) := by decide +kernel
theorem dd_6_62 : decode prog_1_method_3_code 62 = .ok (.aload_n 0, 1) := by decide +kernel
theorem dd_6_63 : decode prog_1_method_3_code 63 = .ok (.getfield 18, 3) := by decide +kernel
theorem dd_6_66 : decode prog_1_method_3_code 66 = .ok (.if_icmp .le 13, 3) := by decide +kernel
theorem dd_6_69 : decode prog_1_method_3_code 69 = .ok (.new 93, 3) := by decide +kernel
theorem dd_6_72 : decode prog_1_method_3_code 72 = .ok (.dup, 1) := by decide +kernel
theorem dd_6_73 : decode prog_1_method_3_code 73 = .ok (.ldc 95, 2) := by decide +kernel
theorem dd_6_75 : decode prog_1_method_3_code 75 = .ok (.invokespecial 97, 3) := by decide +kernel
theorem dd_6_78 : decode prog_1_method_3_code 78 = .ok (.athrow, 1) := by decide +kernel
theorem dd_6_79 : decode prog_1_method_3_code 79 = .ok (.aload_n 0, 1) := by decide +kernel
theorem dd_6_80 : decode prog_1_method_3_code 80 = .ok (.getfield 62, 3) := by decide +kernel
theorem dd_6_83 : decode prog_1_method_3_code 83 = .ok (.aload_n 0, 1) := by decide +kernel
theorem dd_6_84 : decode prog_1_method_3_code 84 = .ok (.getfield 46, 3) := by decide +kernel
theorem dd_6_87 : decode prog_1_method_3_code 87 = .ok (.invokevirtual 98, 3) := by decide +kernel
theorem dd_6_90 : decode prog_1_method_3_code 90 = .ok (.aload_n 0, 1) := by decide +kernel
theorem dd_6_91 : decode prog_1_method_3_code 91 = .ok (.getfield 46, 3) := by decide +kernel
theorem dd_6_94 : decode prog_1_method_3_code 94 = .ok (.invokevirtual 90, 3) := by decide +kernel
theorem dd_6_97 : decode prog_1_method_3_code 97 = .ok (.ireturn, 1) := by decide +kernel
set_option maxRecDepth 100000 in
theorem okI_6 : mj_okI gG "PairMachine" prog_1_method_3_code 1 (mj_off oM_6) (Option.some Jvm.ClassFile.FieldType.int) false true 0 cM_6 :=
  ⟨Or.inl ⟨0, rfl, dd_6_0, rfl⟩,
   Or.inl ⟨0, rfl, dd_6_1, rfl⟩,
   ⟨37, "PairMachine", fT0, 7, dd_6_2, rfl, okc_0, by decide, tw_126⟩,
   ⟨rfl, tw_153, by decide, tw_122, by decide +kernel, 73, tw_154, dd_6_5, tw_155, ⟨"PairMachine$Reader", fT3, 3, rfl, tw_156⟩, by decide +kernel⟩,
   ⟨66, "PairMachine", fT0, 7, dd_6_8, rfl, okc_0, by decide, tw_148, rfl, Or.inl rfl⟩,
   Or.inl ⟨0, rfl, dd_6_11, rfl⟩,
   ⟨28, "PairMachine", fT0, 7, dd_6_12, rfl, okc_0, by decide, tw_119⟩,
   ⟨rfl, tw_157, by decide, tw_115, by decide +kernel, 77, tw_158, dd_6_15, tw_159, ⟨"PairMachine$Text", fT1, 2, rfl, tw_160⟩, by decide +kernel⟩,
   Or.inl ⟨0, rfl, dd_6_18, rfl⟩,
   ⟨66, "PairMachine", fT0, 7, dd_6_19, rfl, okc_0, by decide, tw_148⟩,
   Or.inl (Or.inl ⟨dd_6_22, rfl⟩),
   ⟨14, dd_6_23, rfl, rfl⟩,
   Or.inl ⟨0, rfl, dd_6_26, rfl⟩,
   Or.inl ⟨0, rfl, dd_6_27, rfl⟩,
   ⟨55, "PairMachine", fT0, 7, dd_6_28, rfl, okc_0, by decide, tw_140⟩,
   ⟨rfl, tw_161, by decide, tw_136, by decide +kernel, 80, tw_162, dd_6_31, tw_163, ⟨"PairMachine$Coder", fT5, 5, rfl, tw_164⟩, by decide +kernel⟩,
   ⟨66, "PairMachine", fT0, 7, dd_6_34, rfl, okc_0, by decide, tw_148, rfl, Or.inl rfl⟩,
   Or.inl ⟨0, rfl, dd_6_37, rfl⟩,
   ⟨66, "PairMachine", fT0, 7, dd_6_38, rfl, okc_0, by decide, tw_148⟩,
   Or.inl (Or.inl ⟨dd_6_41, rfl⟩),
   ⟨13, dd_6_42, rfl, rfl⟩,
   ⟨rfl, 83, 85, 87, "the text is no program, or a variable is not known", dd_6_45, dd_6_48, dd_6_49, dd_6_51, dd_6_54, by decide +kernel, by decide +kernel, by decide +kernel, by decide +kernel, by decide +kernel, by decide +kernel, by decide +kernel, by decide +kernel⟩,
   Or.inl ⟨0, rfl, dd_6_55, rfl⟩,
   ⟨46, "PairMachine", fT0, 7, dd_6_56, rfl, okc_0, by decide, tw_133⟩,
   ⟨rfl, tw_165, by decide, tw_129, by decide +kernel, 90, tw_166, dd_6_59, tw_167, ⟨"PairMachine$Code", fT4, 5, rfl, tw_168⟩, by decide +kernel⟩,
   Or.inl ⟨0, rfl, dd_6_62, rfl⟩,
   ⟨18, "PairMachine", fT0, 7, dd_6_63, rfl, okc_0, by decide, tw_106⟩,
   ⟨13, dd_6_66, rfl, rfl⟩,
   ⟨rfl, 93, 95, 97, "the code has more cells than the store", dd_6_69, dd_6_72, dd_6_73, dd_6_75, dd_6_78, by decide +kernel, by decide +kernel, by decide +kernel, by decide +kernel, by decide +kernel, by decide +kernel, by decide +kernel, by decide +kernel⟩,
   Or.inl ⟨0, rfl, dd_6_79, rfl⟩,
   ⟨62, "PairMachine", fT0, 7, dd_6_80, rfl, okc_0, by decide, tw_147⟩,
   Or.inl ⟨0, rfl, dd_6_83, rfl⟩,
   ⟨46, "PairMachine", fT0, 7, dd_6_84, rfl, okc_0, by decide, tw_133⟩,
   ⟨rfl, tw_169, by decide, tw_143, by decide +kernel, 98, tw_170, dd_6_87, tw_171, ⟨"PairMachine$Machine", fT6, 10, rfl, tw_172⟩, by decide +kernel⟩,
   Or.inl ⟨0, rfl, dd_6_90, rfl⟩,
   ⟨46, "PairMachine", fT0, 7, dd_6_91, rfl, okc_0, by decide, tw_133⟩,
   ⟨rfl, tw_165, by decide, tw_129, by decide +kernel, 90, tw_166, dd_6_94, tw_167, ⟨"PairMachine$Code", fT4, 5, rfl, tw_168⟩, by decide +kernel⟩,
   ⟨dd_6_97, rfl⟩, trivial⟩
theorem okM_6 : mj_okE gG 6 (cM_6, 1, oM_6, hM_6) := ⟨rfl, rfl, by decide +kernel, trivial, okI_6⟩
theorem dd_7_0 : decode prog_1_method_4_code 0 = .ok (.aload_n 0, 1) := by decide +kernel
theorem dd_7_1 : decode prog_1_method_4_code 1 = .ok (.getfield 66, 3) := by decide +kernel
theorem dd_7_4 : decode prog_1_method_4_code 4 = .ok (.ireturn, 1) := by decide +kernel
set_option maxRecDepth 100000 in
theorem okI_7 : mj_okI gG "PairMachine" prog_1_method_4_code 1 (mj_off oM_7) (Option.some Jvm.ClassFile.FieldType.int) false true 0 cM_7 :=
  ⟨Or.inl ⟨0, rfl, dd_7_0, rfl⟩,
   ⟨66, "PairMachine", fT0, 7, dd_7_1, rfl, okc_0, by decide, tw_148⟩,
   ⟨dd_7_4, rfl⟩, trivial⟩
theorem okM_7 : mj_okE gG 7 (cM_7, 1, oM_7, hM_7) := ⟨rfl, rfl, by decide +kernel, trivial, okI_7⟩
theorem dd_8_0 : decode prog_1_method_5_code 0 = .ok (.aload_n 0, 1) := by decide +kernel
theorem dd_8_1 : decode prog_1_method_5_code 1 = .ok (.getfield 62, 3) := by decide +kernel
theorem dd_8_4 : decode prog_1_method_5_code 4 = .ok (.invokevirtual 102, 3) := by decide +kernel
theorem dd_8_7 : decode prog_1_method_5_code 7 = .ok (.ireturn, 1) := by decide +kernel
set_option maxRecDepth 100000 in
theorem okI_8 : mj_okI gG "PairMachine" prog_1_method_5_code 1 (mj_off oM_8) (Option.some Jvm.ClassFile.FieldType.boolean) false true 0 cM_8 :=
  ⟨Or.inl ⟨0, rfl, dd_8_0, rfl⟩,
   ⟨62, "PairMachine", fT0, 7, dd_8_1, rfl, okc_0, by decide, tw_147⟩,
   ⟨rfl, tw_173, by decide, tw_143, by decide +kernel, 102, tw_174, dd_8_4, tw_175, ⟨"PairMachine$Machine", fT6, 10, rfl, tw_176⟩, by decide +kernel⟩,
   ⟨dd_8_7, rfl⟩, trivial⟩
theorem okM_8 : mj_okE gG 8 (cM_8, 1, oM_8, hM_8) := ⟨rfl, rfl, by decide +kernel, trivial, okI_8⟩
theorem dd_9_0 : decode prog_1_method_6_code 0 = .ok (.iload_n 1, 1) := by decide +kernel
theorem dd_9_1 : decode prog_1_method_6_code 1 = .ok (.ifCond .lt 10, 3) := by decide +kernel
theorem dd_9_4 : decode prog_1_method_6_code 4 = .ok (.iload_n 1, 1) := by decide +kernel
theorem dd_9_5 : decode prog_1_method_6_code 5 = .ok (.sipush 200, 3) := by decide +kernel
theorem dd_9_8 : decode prog_1_method_6_code 8 = .ok (.if_icmp .le 13, 3) := by decide +kernel
theorem dd_9_11 : decode prog_1_method_6_code 11 = .ok (.new 83, 3) := by decide +kernel
theorem dd_9_14 : decode prog_1_method_6_code 14 = .ok (.dup, 1) := by decide +kernel
theorem dd_9_15 : decode prog_1_method_6_code 15 = .ok (.ldc 106, 2) := by decide +kernel
theorem dd_9_17 : decode prog_1_method_6_code 17 = .ok (.invokespecial 87, 3) := by decide +kernel
theorem dd_9_20 : decode prog_1_method_6_code 20 = .ok (.athrow, 1) := by decide +kernel
theorem dd_9_21 : decode prog_1_method_6_code 21 = .ok (.iconst 0, 1) := by decide +kernel
theorem dd_9_22 : decode prog_1_method_6_code 22 = .ok (.istore_n 2, 1) := by decide +kernel
theorem dd_9_23 : decode prog_1_method_6_code 23 = .ok (.iload_n 2, 1) := by decide +kernel
theorem dd_9_24 : decode prog_1_method_6_code 24 = .ok (.iload_n 1, 1) := by decide +kernel
theorem dd_9_25 : decode prog_1_method_6_code 25 = .ok (.if_icmp .ge 27, 3) := by decide +kernel
theorem dd_9_28 : decode prog_1_method_6_code 28 = .ok (.aload_n 0, 1) := by decide +kernel
theorem dd_9_29 : decode prog_1_method_6_code 29 = .ok (.getfield 62, 3) := by decide +kernel
theorem dd_9_32 : decode prog_1_method_6_code 32 = .ok (.invokevirtual 108, 3) := by decide +kernel
theorem dd_9_35 : decode prog_1_method_6_code 35 = .ok (.iconst 1, 1) := by decide +kernel
theorem dd_9_36 : decode prog_1_method_6_code 36 = .ok (.if_icmp .ne 16, 3) := by decide +kernel
theorem dd_9_39 : decode prog_1_method_6_code 39 = .ok (.aload_n 0, 1) := by decide +kernel
theorem dd_9_40 : decode prog_1_method_6_code 40 = .ok (.getfield 62, 3) := by decide +kernel
theorem dd_9_43 : decode prog_1_method_6_code 43 = .ok (.invokevirtual 111, 3) := by decide +kernel
theorem dd_9_46 : decode prog_1_method_6_code 46 = .ok (.iinc 2 1, 3) := by decide +kernel
theorem dd_9_49 : decode prog_1_method_6_code 49 = .ok (.goto (-26), 3) := by decide +kernel
theorem dd_9_52 : decode prog_1_method_6_code 52 = .ok (.iload_n 2, 1) := by decide +kernel
theorem dd_9_53 : decode prog_1_method_6_code 53 = .ok (.ireturn, 1) := by decide +kernel
set_option maxRecDepth 100000 in
theorem okI_9 : mj_okI gG "PairMachine" prog_1_method_6_code 3 (mj_off oM_9) (Option.some Jvm.ClassFile.FieldType.int) false true 0 cM_9 :=
  ⟨Or.inl ⟨1, rfl, dd_9_0, rfl⟩,
   ⟨10, dd_9_1, rfl, rfl⟩,
   Or.inl ⟨1, rfl, dd_9_4, rfl⟩,
   Or.inl (Or.inr (Or.inr (Or.inl ⟨dd_9_5, rfl, by decide⟩))),
   ⟨13, dd_9_8, rfl, rfl⟩,
   ⟨rfl, 83, 106, 87, "the number of steps is not 0 .. 200", dd_9_11, dd_9_14, dd_9_15, dd_9_17, dd_9_20, by decide +kernel, by decide +kernel, by decide +kernel, by decide +kernel, by decide +kernel, by decide +kernel, by decide +kernel, by decide +kernel⟩,
   Or.inl (Or.inl ⟨dd_9_21, rfl⟩),
   ⟨by decide, Or.inl ⟨2, rfl, dd_9_22, rfl⟩⟩,
   Or.inl ⟨2, rfl, dd_9_23, rfl⟩,
   Or.inl ⟨1, rfl, dd_9_24, rfl⟩,
   ⟨27, dd_9_25, rfl, rfl⟩,
   Or.inl ⟨0, rfl, dd_9_28, rfl⟩,
   ⟨62, "PairMachine", fT0, 7, dd_9_29, rfl, okc_0, by decide, tw_147⟩,
   ⟨rfl, tw_177, by decide, tw_143, by decide +kernel, 108, tw_178, dd_9_32, tw_179, ⟨"PairMachine$Machine", fT6, 10, rfl, tw_180⟩, by decide +kernel⟩,
   Or.inl (Or.inl ⟨dd_9_35, rfl⟩),
   ⟨16, dd_9_36, rfl, rfl⟩,
   Or.inl ⟨0, rfl, dd_9_39, rfl⟩,
   ⟨62, "PairMachine", fT0, 7, dd_9_40, rfl, okc_0, by decide, tw_147⟩,
   ⟨rfl, tw_181, by decide, tw_143, by decide +kernel, 111, tw_182, dd_9_43, tw_183, ⟨"PairMachine$Machine", fT6, 10, rfl, tw_184⟩, by decide +kernel⟩,
   ⟨by decide, dd_9_46, rfl⟩,
   ⟨(-26), dd_9_49, rfl⟩,
   Or.inl ⟨2, rfl, dd_9_52, rfl⟩,
   ⟨dd_9_53, rfl⟩, trivial⟩
theorem okM_9 : mj_okE gG 9 (cM_9, 3, oM_9, hM_9) := ⟨rfl, rfl, by decide +kernel, trivial, okI_9⟩
theorem dd_10_0 : decode prog_1_method_7_code 0 = .ok (.aload_n 0, 1) := by decide +kernel
theorem dd_10_1 : decode prog_1_method_7_code 1 = .ok (.getfield 62, 3) := by decide +kernel
theorem dd_10_4 : decode prog_1_method_7_code 4 = .ok (.invokevirtual 108, 3) := by decide +kernel
theorem dd_10_7 : decode prog_1_method_7_code 7 = .ok (.ireturn, 1) := by decide +kernel
set_option maxRecDepth 100000 in
theorem okI_10 : mj_okI gG "PairMachine" prog_1_method_7_code 1 (mj_off oM_10) (Option.some Jvm.ClassFile.FieldType.int) false true 0 cM_10 :=
  ⟨Or.inl ⟨0, rfl, dd_10_0, rfl⟩,
   ⟨62, "PairMachine", fT0, 7, dd_10_1, rfl, okc_0, by decide, tw_147⟩,
   ⟨rfl, tw_177, by decide, tw_143, by decide +kernel, 108, tw_178, dd_10_4, tw_179, ⟨"PairMachine$Machine", fT6, 10, rfl, tw_180⟩, by decide +kernel⟩,
   ⟨dd_10_7, rfl⟩, trivial⟩
theorem okM_10 : mj_okE gG 10 (cM_10, 1, oM_10, hM_10) := ⟨rfl, rfl, by decide +kernel, trivial, okI_10⟩
theorem dd_11_0 : decode prog_1_method_8_code 0 = .ok (.iload_n 1, 1) := by decide +kernel
theorem dd_11_1 : decode prog_1_method_8_code 1 = .ok (.tableswitch 99 0 6 #[43, 51, 59, 67, 75, 83, 91], 43) := by decide +kernel
theorem dd_11_44 : decode prog_1_method_8_code 44 = .ok (.aload_n 0, 1) := by decide +kernel
theorem dd_11_45 : decode prog_1_method_8_code 45 = .ok (.getfield 62, 3) := by decide +kernel
theorem dd_11_48 : decode prog_1_method_8_code 48 = .ok (.invokevirtual 114, 3) := by decide +kernel
theorem dd_11_51 : decode prog_1_method_8_code 51 = .ok (.ireturn, 1) := by decide +kernel
theorem dd_11_52 : decode prog_1_method_8_code 52 = .ok (.aload_n 0, 1) := by decide +kernel
theorem dd_11_53 : decode prog_1_method_8_code 53 = .ok (.getfield 62, 3) := by decide +kernel
theorem dd_11_56 : decode prog_1_method_8_code 56 = .ok (.invokevirtual 117, 3) := by decide +kernel
theorem dd_11_59 : decode prog_1_method_8_code 59 = .ok (.ireturn, 1) := by decide +kernel
theorem dd_11_60 : decode prog_1_method_8_code 60 = .ok (.aload_n 0, 1) := by decide +kernel
theorem dd_11_61 : decode prog_1_method_8_code 61 = .ok (.getfield 62, 3) := by decide +kernel
theorem dd_11_64 : decode prog_1_method_8_code 64 = .ok (.invokevirtual 120, 3) := by decide +kernel
theorem dd_11_67 : decode prog_1_method_8_code 67 = .ok (.ireturn, 1) := by decide +kernel
theorem dd_11_68 : decode prog_1_method_8_code 68 = .ok (.aload_n 0, 1) := by decide +kernel
theorem dd_11_69 : decode prog_1_method_8_code 69 = .ok (.getfield 62, 3) := by decide +kernel
theorem dd_11_72 : decode prog_1_method_8_code 72 = .ok (.invokevirtual 123, 3) := by decide +kernel
theorem dd_11_75 : decode prog_1_method_8_code 75 = .ok (.ireturn, 1) := by decide +kernel
theorem dd_11_76 : decode prog_1_method_8_code 76 = .ok (.aload_n 0, 1) := by decide +kernel
theorem dd_11_77 : decode prog_1_method_8_code 77 = .ok (.getfield 62, 3) := by decide +kernel
theorem dd_11_80 : decode prog_1_method_8_code 80 = .ok (.invokevirtual 126, 3) := by decide +kernel
theorem dd_11_83 : decode prog_1_method_8_code 83 = .ok (.ireturn, 1) := by decide +kernel
theorem dd_11_84 : decode prog_1_method_8_code 84 = .ok (.aload_n 0, 1) := by decide +kernel
theorem dd_11_85 : decode prog_1_method_8_code 85 = .ok (.getfield 62, 3) := by decide +kernel
theorem dd_11_88 : decode prog_1_method_8_code 88 = .ok (.invokevirtual 129, 3) := by decide +kernel
theorem dd_11_91 : decode prog_1_method_8_code 91 = .ok (.ireturn, 1) := by decide +kernel
theorem dd_11_92 : decode prog_1_method_8_code 92 = .ok (.aload_n 0, 1) := by decide +kernel
theorem dd_11_93 : decode prog_1_method_8_code 93 = .ok (.getfield 62, 3) := by decide +kernel
theorem dd_11_96 : decode prog_1_method_8_code 96 = .ok (.invokevirtual 132, 3) := by decide +kernel
theorem dd_11_99 : decode prog_1_method_8_code 99 = .ok (.ireturn, 1) := by decide +kernel
theorem dd_11_100 : decode prog_1_method_8_code 100 = .ok (.iconst (-1), 1) := by decide +kernel
theorem dd_11_101 : decode prog_1_method_8_code 101 = .ok (.ireturn, 1) := by decide +kernel
set_option maxRecDepth 100000 in
theorem okI_11 : mj_okI gG "PairMachine" prog_1_method_8_code 2 (mj_off oM_11) (Option.some Jvm.ClassFile.FieldType.int) false true 0 cM_11 :=
  ⟨Or.inl ⟨1, rfl, dd_11_0, rfl⟩,
   Or.inr ⟨99, 0, #[43, 51, 59, 67, 75, 83, 91], 43, dd_11_1, rfl, rfl, (fun j hj => by
    match j, hj with
    | 0, _ => exact ⟨43, 2, rfl, rfl, by decide, rfl⟩
    | 1, _ => exact ⟨51, 6, rfl, rfl, by decide, rfl⟩
    | 2, _ => exact ⟨59, 10, rfl, rfl, by decide, rfl⟩
    | 3, _ => exact ⟨67, 14, rfl, rfl, by decide, rfl⟩
    | 4, _ => exact ⟨75, 18, rfl, rfl, by decide, rfl⟩
    | 5, _ => exact ⟨83, 22, rfl, rfl, by decide, rfl⟩
    | 6, _ => exact ⟨91, 26, rfl, rfl, by decide, rfl⟩
    | j + 7, h => exact absurd h (by simp))⟩,
   Or.inl ⟨0, rfl, dd_11_44, rfl⟩,
   ⟨62, "PairMachine", fT0, 7, dd_11_45, rfl, okc_0, by decide, tw_147⟩,
   ⟨rfl, tw_185, by decide, tw_143, by decide +kernel, 114, tw_186, dd_11_48, tw_187, ⟨"PairMachine$Machine", fT6, 10, rfl, tw_188⟩, by decide +kernel⟩,
   ⟨dd_11_51, rfl⟩,
   Or.inl ⟨0, rfl, dd_11_52, rfl⟩,
   ⟨62, "PairMachine", fT0, 7, dd_11_53, rfl, okc_0, by decide, tw_147⟩,
   ⟨rfl, tw_189, by decide, tw_143, by decide +kernel, 117, tw_190, dd_11_56, tw_191, ⟨"PairMachine$Machine", fT6, 10, rfl, tw_192⟩, by decide +kernel⟩,
   ⟨dd_11_59, rfl⟩,
   Or.inl ⟨0, rfl, dd_11_60, rfl⟩,
   ⟨62, "PairMachine", fT0, 7, dd_11_61, rfl, okc_0, by decide, tw_147⟩,
   ⟨rfl, tw_193, by decide, tw_143, by decide +kernel, 120, tw_194, dd_11_64, tw_195, ⟨"PairMachine$Machine", fT6, 10, rfl, tw_196⟩, by decide +kernel⟩,
   ⟨dd_11_67, rfl⟩,
   Or.inl ⟨0, rfl, dd_11_68, rfl⟩,
   ⟨62, "PairMachine", fT0, 7, dd_11_69, rfl, okc_0, by decide, tw_147⟩,
   ⟨rfl, tw_197, by decide, tw_143, by decide +kernel, 123, tw_198, dd_11_72, tw_199, ⟨"PairMachine$Machine", fT6, 10, rfl, tw_200⟩, by decide +kernel⟩,
   ⟨dd_11_75, rfl⟩,
   Or.inl ⟨0, rfl, dd_11_76, rfl⟩,
   ⟨62, "PairMachine", fT0, 7, dd_11_77, rfl, okc_0, by decide, tw_147⟩,
   ⟨rfl, tw_201, by decide, tw_143, by decide +kernel, 126, tw_202, dd_11_80, tw_203, ⟨"PairMachine$Machine", fT6, 10, rfl, tw_204⟩, by decide +kernel⟩,
   ⟨dd_11_83, rfl⟩,
   Or.inl ⟨0, rfl, dd_11_84, rfl⟩,
   ⟨62, "PairMachine", fT0, 7, dd_11_85, rfl, okc_0, by decide, tw_147⟩,
   ⟨rfl, tw_205, by decide, tw_143, by decide +kernel, 129, tw_206, dd_11_88, tw_207, ⟨"PairMachine$Machine", fT6, 10, rfl, tw_208⟩, by decide +kernel⟩,
   ⟨dd_11_91, rfl⟩,
   Or.inl ⟨0, rfl, dd_11_92, rfl⟩,
   ⟨62, "PairMachine", fT0, 7, dd_11_93, rfl, okc_0, by decide, tw_147⟩,
   ⟨rfl, tw_209, by decide, tw_143, by decide +kernel, 132, tw_210, dd_11_96, tw_211, ⟨"PairMachine$Machine", fT6, 10, rfl, tw_212⟩, by decide +kernel⟩,
   ⟨dd_11_99, rfl⟩,
   Or.inl (Or.inl ⟨dd_11_100, rfl⟩),
   ⟨dd_11_101, rfl⟩, trivial⟩
theorem okM_11 : mj_okE gG 11 (cM_11, 2, oM_11, hM_11) := ⟨rfl, rfl, by decide +kernel, trivial, okI_11⟩
end
