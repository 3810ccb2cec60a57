theorem dX11_init_0 : decode cX11_init 0 = .ok (.aload_n 0, 1) := by decide +kernel
theorem dX11_init_1 : decode cX11_init 1 = .ok (.invokespecial 3, 3) := by decide +kernel
theorem dX11_init_4 : decode cX11_init 4 = .ok (.aload_n 0, 1) := by decide +kernel
theorem dX11_init_5 : decode cX11_init 5 = .ok (.bipush 12, 2) := by decide +kernel
theorem dX11_init_7 : decode cX11_init 7 = .ok (.newarray .int, 2) := by decide +kernel
theorem dX11_init_9 : decode cX11_init 9 = .ok (.putfield 9, 3) := by decide +kernel
theorem dX11_init_12 : decode cX11_init 12 = .ok (.aload_n 0, 1) := by decide +kernel
theorem dX11_init_13 : decode cX11_init 13 = .ok (.bipush 12, 2) := by decide +kernel
theorem dX11_init_15 : decode cX11_init 15 = .ok (.newarray .int, 2) := by decide +kernel
theorem dX11_init_17 : decode cX11_init 17 = .ok (.putfield 15, 3) := by decide +kernel
theorem dX11_init_20 : decode cX11_init 20 = .ok (.aload_n 0, 1) := by decide +kernel
theorem dX11_init_21 : decode cX11_init 21 = .ok (.bipush 6, 2) := by decide +kernel
theorem dX11_init_23 : decode cX11_init 23 = .ok (.newarray .int, 2) := by decide +kernel
theorem dX11_init_25 : decode cX11_init 25 = .ok (.putfield 18, 3) := by decide +kernel
theorem dX11_init_28 : decode cX11_init 28 = .ok (.aload_n 0, 1) := by decide +kernel
theorem dX11_init_29 : decode cX11_init 29 = .ok (.bipush 6, 2) := by decide +kernel
theorem dX11_init_31 : decode cX11_init 31 = .ok (.newarray .int, 2) := by decide +kernel
theorem dX11_init_33 : decode cX11_init 33 = .ok (.putfield 21, 3) := by decide +kernel
theorem dX11_init_36 : decode cX11_init 36 = .ok (.aload_n 0, 1) := by decide +kernel
theorem dX11_init_37 : decode cX11_init 37 = .ok (.bipush 6, 2) := by decide +kernel
theorem dX11_init_39 : decode cX11_init 39 = .ok (.newarray .int, 2) := by decide +kernel
theorem dX11_init_41 : decode cX11_init 41 = .ok (.putfield 24, 3) := by decide +kernel
theorem dX11_init_44 : decode cX11_init 44 = .ok (.aload_n 0, 1) := by decide +kernel
theorem dX11_init_45 : decode cX11_init 45 = .ok (.bipush 6, 2) := by decide +kernel
theorem dX11_init_47 : decode cX11_init 47 = .ok (.newarray .int, 2) := by decide +kernel
theorem dX11_init_49 : decode cX11_init 49 = .ok (.putfield 27, 3) := by decide +kernel
theorem dX11_init_52 : decode cX11_init 52 = .ok (.aload_n 0, 1) := by decide +kernel
theorem dX11_init_53 : decode cX11_init 53 = .ok (.bipush 6, 2) := by decide +kernel
theorem dX11_init_55 : decode cX11_init 55 = .ok (.newarray .int, 2) := by decide +kernel
theorem dX11_init_57 : decode cX11_init 57 = .ok (.putfield 30, 3) := by decide +kernel
theorem dX11_init_60 : decode cX11_init 60 = .ok (.aload_n 0, 1) := by decide +kernel
theorem dX11_init_61 : decode cX11_init 61 = .ok (.bipush 24, 2) := by decide +kernel
theorem dX11_init_63 : decode cX11_init 63 = .ok (.newarray .int, 2) := by decide +kernel
theorem dX11_init_65 : decode cX11_init 65 = .ok (.putfield 33, 3) := by decide +kernel
theorem dX11_init_68 : decode cX11_init 68 = .ok (.aload_n 0, 1) := by decide +kernel
theorem dX11_init_69 : decode cX11_init 69 = .ok (.bipush 100, 2) := by decide +kernel
theorem dX11_init_71 : decode cX11_init 71 = .ok (.newarray .int, 2) := by decide +kernel
theorem dX11_init_73 : decode cX11_init 73 = .ok (.putfield 36, 3) := by decide +kernel
theorem dX11_init_76 : decode cX11_init 76 = .ok (.aload_n 0, 1) := by decide +kernel
theorem dX11_init_77 : decode cX11_init 77 = .ok (.bipush 6, 2) := by decide +kernel
theorem dX11_init_79 : decode cX11_init 79 = .ok (.newarray .int, 2) := by decide +kernel
theorem dX11_init_81 : decode cX11_init 81 = .ok (.putfield 39, 3) := by decide +kernel
theorem dX11_init_84 : decode cX11_init 84 = .ok (.aload_n 0, 1) := by decide +kernel
theorem dX11_init_85 : decode cX11_init 85 = .ok (.bipush 61, 2) := by decide +kernel
theorem dX11_init_87 : decode cX11_init 87 = .ok (.newarray .int, 2) := by decide +kernel
theorem dX11_init_89 : decode cX11_init 89 = .ok (.putfield 42, 3) := by decide +kernel
theorem dX11_init_92 : decode cX11_init 92 = .ok (.aload_n 0, 1) := by decide +kernel
theorem dX11_init_93 : decode cX11_init 93 = .ok (.bipush 61, 2) := by decide +kernel
theorem dX11_init_95 : decode cX11_init 95 = .ok (.newarray .int, 2) := by decide +kernel
theorem dX11_init_97 : decode cX11_init 97 = .ok (.putfield 45, 3) := by decide +kernel
theorem dX11_init_100 : decode cX11_init 100 = .ok (.aload_n 0, 1) := by decide +kernel
theorem dX11_init_101 : decode cX11_init 101 = .ok (.bipush 61, 2) := by decide +kernel
theorem dX11_init_103 : decode cX11_init 103 = .ok (.newarray .int, 2) := by decide +kernel
theorem dX11_init_105 : decode cX11_init 105 = .ok (.putfield 48, 3) := by decide +kernel
theorem dX11_init_108 : decode cX11_init 108 = .ok (.aload_n 0, 1) := by decide +kernel
theorem dX11_init_109 : decode cX11_init 109 = .ok (.bipush 61, 2) := by decide +kernel
theorem dX11_init_111 : decode cX11_init 111 = .ok (.newarray .int, 2) := by decide +kernel
theorem dX11_init_113 : decode cX11_init 113 = .ok (.putfield 51, 3) := by decide +kernel
theorem dX11_init_116 : decode cX11_init 116 = .ok (.aload_n 0, 1) := by decide +kernel
theorem dX11_init_117 : decode cX11_init 117 = .ok (.sipush 800, 3) := by decide +kernel
theorem dX11_init_120 : decode cX11_init 120 = .ok (.newarray .int, 2) := by decide +kernel
theorem dX11_init_122 : decode cX11_init 122 = .ok (.putfield 54, 3) := by decide +kernel
theorem dX11_init_125 : decode cX11_init 125 = .ok (.aload_n 0, 1) := by decide +kernel
theorem dX11_init_126 : decode cX11_init 126 = .ok (.bipush 110, 2) := by decide +kernel
theorem dX11_init_128 : decode cX11_init 128 = .ok (.newarray .boolean, 2) := by decide +kernel
theorem dX11_init_130 : decode cX11_init 130 = .ok (.putfield 57, 3) := by decide +kernel
theorem dX11_init_133 : decode cX11_init 133 = .ok (.aload_n 0, 1) := by decide +kernel
theorem dX11_init_134 : decode cX11_init 134 = .ok (.iconst 5, 1) := by decide +kernel
theorem dX11_init_135 : decode cX11_init 135 = .ok (.newarray .int, 2) := by decide +kernel
theorem dX11_init_137 : decode cX11_init 137 = .ok (.putfield 61, 3) := by decide +kernel
theorem dX11_init_140 : decode cX11_init 140 = .ok (.aload_n 0, 1) := by decide +kernel
theorem dX11_init_141 : decode cX11_init 141 = .ok (.iconst 5, 1) := by decide +kernel
theorem dX11_init_142 : decode cX11_init 142 = .ok (.newarray .int, 2) := by decide +kernel
theorem dX11_init_144 : decode cX11_init 144 = .ok (.putfield 64, 3) := by decide +kernel
theorem dX11_init_147 : decode cX11_init 147 = .ok (.aload_n 0, 1) := by decide +kernel
theorem dX11_init_148 : decode cX11_init 148 = .ok (.iconst 5, 1) := by decide +kernel
theorem dX11_init_149 : decode cX11_init 149 = .ok (.newarray .int, 2) := by decide +kernel
theorem dX11_init_151 : decode cX11_init 151 = .ok (.putfield 67, 3) := by decide +kernel
theorem dX11_init_154 : decode cX11_init 154 = .ok (.aload_n 0, 1) := by decide +kernel
theorem dX11_init_155 : decode cX11_init 155 = .ok (.iconst 5, 1) := by decide +kernel
theorem dX11_init_156 : decode cX11_init 156 = .ok (.newarray .int, 2) := by decide +kernel
theorem dX11_init_158 : decode cX11_init 158 = .ok (.putfield 70, 3) := by decide +kernel
theorem dX11_init_161 : decode cX11_init 161 = .ok (.aload_n 0, 1) := by decide +kernel
theorem dX11_init_162 : decode cX11_init 162 = .ok (.bipush 10, 2) := by decide +kernel
theorem dX11_init_164 : decode cX11_init 164 = .ok (.newarray .int, 2) := by decide +kernel
theorem dX11_init_166 : decode cX11_init 166 = .ok (.putfield 73, 3) := by decide +kernel
theorem dX11_init_169 : decode cX11_init 169 = .ok (.aload_n 0, 1) := by decide +kernel
theorem dX11_init_170 : decode cX11_init 170 = .ok (.bipush 10, 2) := by decide +kernel
theorem dX11_init_172 : decode cX11_init 172 = .ok (.newarray .int, 2) := by decide +kernel
theorem dX11_init_174 : decode cX11_init 174 = .ok (.putfield 76, 3) := by decide +kernel
theorem dX11_init_177 : decode cX11_init 177 = .ok (.aload_n 0, 1) := by decide +kernel
theorem dX11_init_178 : decode cX11_init 178 = .ok (.bipush 8, 2) := by decide +kernel
theorem dX11_init_180 : decode cX11_init 180 = .ok (.newarray .int, 2) := by decide +kernel
theorem dX11_init_182 : decode cX11_init 182 = .ok (.putfield 79, 3) := by decide +kernel
theorem dX11_init_185 : decode cX11_init 185 = .ok (.aload_n 0, 1) := by decide +kernel
theorem dX11_init_186 : decode cX11_init 186 = .ok (.bipush 8, 2) := by decide +kernel
theorem dX11_init_188 : decode cX11_init 188 = .ok (.newarray .int, 2) := by decide +kernel
theorem dX11_init_190 : decode cX11_init 190 = .ok (.putfield 82, 3) := by decide +kernel
theorem dX11_init_193 : decode cX11_init 193 = .ok (.aload_n 0, 1) := by decide +kernel
theorem dX11_init_194 : decode cX11_init 194 = .ok (.bipush 20, 2) := by decide +kernel
theorem dX11_init_196 : decode cX11_init 196 = .ok (.newarray .int, 2) := by decide +kernel
theorem dX11_init_198 : decode cX11_init 198 = .ok (.putfield 85, 3) := by decide +kernel
theorem dX11_init_201 : decode cX11_init 201 = .ok (.aload_n 0, 1) := by decide +kernel
theorem dX11_init_202 : decode cX11_init 202 = .ok (.sipush 140, 3) := by decide +kernel
theorem dX11_init_205 : decode cX11_init 205 = .ok (.newarray .int, 2) := by decide +kernel
theorem dX11_init_207 : decode cX11_init 207 = .ok (.putfield 88, 3) := by decide +kernel
theorem dX11_init_210 : decode cX11_init 210 = .ok (.aload_n 0, 1) := by decide +kernel
theorem dX11_init_211 : decode cX11_init 211 = .ok (.sipush 140, 3) := by decide +kernel
theorem dX11_init_214 : decode cX11_init 214 = .ok (.newarray .int, 2) := by decide +kernel
theorem dX11_init_216 : decode cX11_init 216 = .ok (.putfield 91, 3) := by decide +kernel
theorem dX11_init_219 : decode cX11_init 219 = .ok (.aload_n 0, 1) := by decide +kernel
theorem dX11_init_220 : decode cX11_init 220 = .ok (.bipush 6, 2) := by decide +kernel
theorem dX11_init_222 : decode cX11_init 222 = .ok (.newarray .int, 2) := by decide +kernel
theorem dX11_init_224 : decode cX11_init 224 = .ok (.putfield 94, 3) := by decide +kernel
theorem dX11_init_227 : decode cX11_init 227 = .ok (.aload_n 0, 1) := by decide +kernel
theorem dX11_init_228 : decode cX11_init 228 = .ok (.bipush 6, 2) := by decide +kernel
theorem dX11_init_230 : decode cX11_init 230 = .ok (.newarray .int, 2) := by decide +kernel
theorem dX11_init_232 : decode cX11_init 232 = .ok (.putfield 97, 3) := by decide +kernel
theorem dX11_init_235 : decode cX11_init 235 = .ok (.aload_n 0, 1) := by decide +kernel
theorem dX11_init_236 : decode cX11_init 236 = .ok (.bipush 6, 2) := by decide +kernel
theorem dX11_init_238 : decode cX11_init 238 = .ok (.newarray .int, 2) := by decide +kernel
theorem dX11_init_240 : decode cX11_init 240 = .ok (.putfield 100, 3) := by decide +kernel
theorem dX11_init_243 : decode cX11_init 243 = .ok (.aload_n 0, 1) := by decide +kernel
theorem dX11_init_244 : decode cX11_init 244 = .ok (.sipush 360, 3) := by decide +kernel
theorem dX11_init_247 : decode cX11_init 247 = .ok (.newarray .long, 2) := by decide +kernel
theorem dX11_init_249 : decode cX11_init 249 = .ok (.putfield 103, 3) := by decide +kernel
theorem dX11_init_252 : decode cX11_init 252 = .ok (.iconst 0, 1) := by decide +kernel
theorem dX11_init_253 : decode cX11_init 253 = .ok (.istore_n 1, 1) := by decide +kernel
theorem dX11_init_254 : decode cX11_init 254 = .ok (.iload_n 1, 1) := by decide +kernel
theorem dX11_init_255 : decode cX11_init 255 = .ok (.bipush 12, 2) := by decide +kernel
theorem dX11_init_257 : decode cX11_init 257 = .ok (.if_icmp .ge 19, 3) := by decide +kernel
theorem dX11_init_260 : decode cX11_init 260 = .ok (.aload_n 0, 1) := by decide +kernel
theorem dX11_init_261 : decode cX11_init 261 = .ok (.getfield 9, 3) := by decide +kernel
theorem dX11_init_264 : decode cX11_init 264 = .ok (.iload_n 1, 1) := by decide +kernel
theorem dX11_init_265 : decode cX11_init 265 = .ok (.iload_n 1, 1) := by decide +kernel
theorem dX11_init_266 : decode cX11_init 266 = .ok (.bipush 10, 2) := by decide +kernel
theorem dX11_init_268 : decode cX11_init 268 = .ok (.irem, 1) := by decide +kernel
theorem dX11_init_269 : decode cX11_init 269 = .ok (.iastore, 1) := by decide +kernel
theorem dX11_init_270 : decode cX11_init 270 = .ok (.iinc 1 1, 3) := by decide +kernel
theorem dX11_init_273 : decode cX11_init 273 = .ok (.goto (-19), 3) := by decide +kernel
theorem dX11_init_276 : decode cX11_init 276 = .ok (.aload_n 0, 1) := by decide +kernel
theorem dX11_init_277 : decode cX11_init 277 = .ok (.iconst (-1), 1) := by decide +kernel
theorem dX11_init_278 : decode cX11_init 278 = .ok (.putfield 107, 3) := by decide +kernel
theorem dX11_init_281 : decode cX11_init 281 = .ok (.iconst 0, 1) := by decide +kernel
theorem dX11_init_282 : decode cX11_init 282 = .ok (.istore_n 1, 1) := by decide +kernel
theorem dX11_init_283 : decode cX11_init 283 = .ok (.iload_n 1, 1) := by decide +kernel
theorem dX11_init_284 : decode cX11_init 284 = .ok (.bipush 6, 2) := by decide +kernel
theorem dX11_init_286 : decode cX11_init 286 = .ok (.if_icmp .ge 16, 3) := by decide +kernel
theorem dX11_init_289 : decode cX11_init 289 = .ok (.aload_n 0, 1) := by decide +kernel
theorem dX11_init_290 : decode cX11_init 290 = .ok (.getfield 97, 3) := by decide +kernel
theorem dX11_init_293 : decode cX11_init 293 = .ok (.iload_n 1, 1) := by decide +kernel
theorem dX11_init_294 : decode cX11_init 294 = .ok (.iconst (-1), 1) := by decide +kernel
theorem dX11_init_295 : decode cX11_init 295 = .ok (.iastore, 1) := by decide +kernel
theorem dX11_init_296 : decode cX11_init 296 = .ok (.iinc 1 1, 3) := by decide +kernel
theorem dX11_init_299 : decode cX11_init 299 = .ok (.goto (-16), 3) := by decide +kernel
theorem dX11_init_302 : decode cX11_init 302 = .ok (.return_, 1) := by decide +kernel
theorem dX11_within_0 : decode cX11_within 0 = .ok (.iload_n 0, 1) := by decide +kernel
theorem dX11_within_1 : decode cX11_within 1 = .ok (.iload_n 1, 1) := by decide +kernel
theorem dX11_within_2 : decode cX11_within 2 = .ok (.if_icmp .lt 12, 3) := by decide +kernel
theorem dX11_within_5 : decode cX11_within 5 = .ok (.iload_n 0, 1) := by decide +kernel
theorem dX11_within_6 : decode cX11_within 6 = .ok (.iload_n 2, 1) := by decide +kernel
theorem dX11_within_7 : decode cX11_within 7 = .ok (.if_icmp .gt 7, 3) := by decide +kernel
theorem dX11_within_10 : decode cX11_within 10 = .ok (.iconst 1, 1) := by decide +kernel
theorem dX11_within_11 : decode cX11_within 11 = .ok (.goto 4, 3) := by decide +kernel
theorem dX11_within_14 : decode cX11_within 14 = .ok (.iconst 0, 1) := by decide +kernel
theorem dX11_within_15 : decode cX11_within 15 = .ok (.ireturn, 1) := by decide +kernel
theorem dX11_isOne_0 : decode cX11_isOne 0 = .ok (.iload_n 1, 1) := by decide +kernel
theorem dX11_isOne_1 : decode cX11_isOne 1 = .ok (.iconst 0, 1) := by decide +kernel
theorem dX11_isOne_2 : decode cX11_isOne 2 = .ok (.aload_n 0, 1) := by decide +kernel
theorem dX11_isOne_3 : decode cX11_isOne 3 = .ok (.getfield 111, 3) := by decide +kernel
theorem dX11_isOne_6 : decode cX11_isOne 6 = .ok (.iconst 1, 1) := by decide +kernel
theorem dX11_isOne_7 : decode cX11_isOne 7 = .ok (.isub, 1) := by decide +kernel
theorem dX11_isOne_8 : decode cX11_isOne 8 = .ok (.invokestatic 114, 3) := by decide +kernel
theorem dX11_isOne_11 : decode cX11_isOne 11 = .ok (.ireturn, 1) := by decide +kernel
theorem dX11_isPurpose_0 : decode cX11_isPurpose 0 = .ok (.iload_n 0, 1) := by decide +kernel
theorem dX11_isPurpose_1 : decode cX11_isPurpose 1 = .ok (.iconst 0, 1) := by decide +kernel
theorem dX11_isPurpose_2 : decode cX11_isPurpose 2 = .ok (.bipush 11, 2) := by decide +kernel
theorem dX11_isPurpose_4 : decode cX11_isPurpose 4 = .ok (.invokestatic 114, 3) := by decide +kernel
theorem dX11_isPurpose_7 : decode cX11_isPurpose 7 = .ok (.ireturn, 1) := by decide +kernel
theorem dX11_has_0 : decode cX11_has 0 = .ok (.iload_n 0, 1) := by decide +kernel
theorem dX11_has_1 : decode cX11_has 1 = .ok (.iload_n 1, 1) := by decide +kernel
theorem dX11_has_2 : decode cX11_has 2 = .ok (.ishr, 1) := by decide +kernel
theorem dX11_has_3 : decode cX11_has 3 = .ok (.iconst 1, 1) := by decide +kernel
theorem dX11_has_4 : decode cX11_has 4 = .ok (.iand, 1) := by decide +kernel
theorem dX11_has_5 : decode cX11_has 5 = .ok (.iconst 1, 1) := by decide +kernel
theorem dX11_has_6 : decode cX11_has 6 = .ok (.if_icmp .ne 7, 3) := by decide +kernel
theorem dX11_has_9 : decode cX11_has 9 = .ok (.iconst 1, 1) := by decide +kernel
theorem dX11_has_10 : decode cX11_has 10 = .ok (.goto 4, 3) := by decide +kernel
theorem dX11_has_13 : decode cX11_has 13 = .ok (.iconst 0, 1) := by decide +kernel
theorem dX11_has_14 : decode cX11_has 14 = .ok (.ireturn, 1) := by decide +kernel
theorem dX11_guest_0 : decode cX11_guest 0 = .ok (.iload_n 1, 1) := by decide +kernel
theorem dX11_guest_1 : decode cX11_guest 1 = .ok (.iconst 0, 1) := by decide +kernel
theorem dX11_guest_2 : decode cX11_guest 2 = .ok (.bipush 6, 2) := by decide +kernel
theorem dX11_guest_4 : decode cX11_guest 4 = .ok (.invokestatic 114, 3) := by decide +kernel
theorem dX11_guest_7 : decode cX11_guest 7 = .ok (.ifCond .ne 5, 3) := by decide +kernel
theorem dX11_guest_10 : decode cX11_guest 10 = .ok (.iconst (-1), 1) := by decide +kernel
theorem dX11_guest_11 : decode cX11_guest 11 = .ok (.ireturn, 1) := by decide +kernel
theorem dX11_guest_12 : decode cX11_guest 12 = .ok (.iload_n 2, 1) := by decide +kernel
theorem dX11_guest_13 : decode cX11_guest 13 = .ok (.iconst 0, 1) := by decide +kernel
theorem dX11_guest_14 : decode cX11_guest 14 = .ok (.bipush 9, 2) := by decide +kernel
theorem dX11_guest_16 : decode cX11_guest 16 = .ok (.invokestatic 114, 3) := by decide +kernel
theorem dX11_guest_19 : decode cX11_guest 19 = .ok (.ifCond .eq 14, 3) := by decide +kernel
theorem dX11_guest_22 : decode cX11_guest 22 = .ok (.iload_n 3, 1) := by decide +kernel
theorem dX11_guest_23 : decode cX11_guest 23 = .ok (.iconst 0, 1) := by decide +kernel
theorem dX11_guest_24 : decode cX11_guest 24 = .ok (.sipush 4095, 3) := by decide +kernel
theorem dX11_guest_27 : decode cX11_guest 27 = .ok (.invokestatic 114, 3) := by decide +kernel
theorem dX11_guest_30 : decode cX11_guest 30 = .ok (.ifCond .ne 6, 3) := by decide +kernel
theorem dX11_guest_33 : decode cX11_guest 33 = .ok (.bipush (-2), 2) := by decide +kernel
theorem dX11_guest_35 : decode cX11_guest 35 = .ok (.ireturn, 1) := by decide +kernel
theorem dX11_guest_36 : decode cX11_guest 36 = .ok (.aload_n 0, 1) := by decide +kernel
theorem dX11_guest_37 : decode cX11_guest 37 = .ok (.getfield 111, 3) := by decide +kernel
theorem dX11_guest_40 : decode cX11_guest 40 = .ok (.bipush 6, 2) := by decide +kernel
theorem dX11_guest_42 : decode cX11_guest 42 = .ok (.if_icmp .ne 6, 3) := by decide +kernel
theorem dX11_guest_45 : decode cX11_guest 45 = .ok (.bipush (-4), 2) := by decide +kernel
theorem dX11_guest_47 : decode cX11_guest 47 = .ok (.ireturn, 1) := by decide +kernel
theorem dX11_guest_48 : decode cX11_guest 48 = .ok (.aload_n 0, 1) := by decide +kernel
theorem dX11_guest_49 : decode cX11_guest 49 = .ok (.getfield 18, 3) := by decide +kernel
theorem dX11_guest_52 : decode cX11_guest 52 = .ok (.aload_n 0, 1) := by decide +kernel
theorem dX11_guest_53 : decode cX11_guest 53 = .ok (.getfield 111, 3) := by decide +kernel
theorem dX11_guest_56 : decode cX11_guest 56 = .ok (.iload_n 1, 1) := by decide +kernel
theorem dX11_guest_57 : decode cX11_guest 57 = .ok (.iastore, 1) := by decide +kernel
theorem dX11_guest_58 : decode cX11_guest 58 = .ok (.aload_n 0, 1) := by decide +kernel
theorem dX11_guest_59 : decode cX11_guest 59 = .ok (.getfield 21, 3) := by decide +kernel
theorem dX11_guest_62 : decode cX11_guest 62 = .ok (.aload_n 0, 1) := by decide +kernel
theorem dX11_guest_63 : decode cX11_guest 63 = .ok (.getfield 111, 3) := by decide +kernel
theorem dX11_guest_66 : decode cX11_guest 66 = .ok (.iload_n 2, 1) := by decide +kernel
theorem dX11_guest_67 : decode cX11_guest 67 = .ok (.iastore, 1) := by decide +kernel
theorem dX11_guest_68 : decode cX11_guest 68 = .ok (.aload_n 0, 1) := by decide +kernel
theorem dX11_guest_69 : decode cX11_guest 69 = .ok (.getfield 24, 3) := by decide +kernel
theorem dX11_guest_72 : decode cX11_guest 72 = .ok (.aload_n 0, 1) := by decide +kernel
theorem dX11_guest_73 : decode cX11_guest 73 = .ok (.getfield 111, 3) := by decide +kernel
theorem dX11_guest_76 : decode cX11_guest 76 = .ok (.iload_n 3, 1) := by decide +kernel
theorem dX11_guest_77 : decode cX11_guest 77 = .ok (.iastore, 1) := by decide +kernel
theorem dX11_guest_78 : decode cX11_guest 78 = .ok (.aload_n 0, 1) := by decide +kernel
theorem dX11_guest_79 : decode cX11_guest 79 = .ok (.getfield 27, 3) := by decide +kernel
theorem dX11_guest_82 : decode cX11_guest 82 = .ok (.aload_n 0, 1) := by decide +kernel
theorem dX11_guest_83 : decode cX11_guest 83 = .ok (.getfield 111, 3) := by decide +kernel
theorem dX11_guest_86 : decode cX11_guest 86 = .ok (.iconst 0, 1) := by decide +kernel
theorem dX11_guest_87 : decode cX11_guest 87 = .ok (.iastore, 1) := by decide +kernel
theorem dX11_guest_88 : decode cX11_guest 88 = .ok (.aload_n 0, 1) := by decide +kernel
theorem dX11_guest_89 : decode cX11_guest 89 = .ok (.getfield 30, 3) := by decide +kernel
theorem dX11_guest_92 : decode cX11_guest 92 = .ok (.aload_n 0, 1) := by decide +kernel
theorem dX11_guest_93 : decode cX11_guest 93 = .ok (.getfield 111, 3) := by decide +kernel
theorem dX11_guest_96 : decode cX11_guest 96 = .ok (.iconst 1, 1) := by decide +kernel
theorem dX11_guest_97 : decode cX11_guest 97 = .ok (.iastore, 1) := by decide +kernel
theorem dX11_guest_98 : decode cX11_guest 98 = .ok (.iconst 0, 1) := by decide +kernel
theorem dX11_guest_99 : decode cX11_guest 99 = .ok (.istore 4, 2) := by decide +kernel
theorem dX11_guest_101 : decode cX11_guest 101 = .ok (.iload 4, 2) := by decide +kernel
theorem dX11_guest_103 : decode cX11_guest 103 = .ok (.iconst 4, 1) := by decide +kernel
theorem dX11_guest_104 : decode cX11_guest 104 = .ok (.if_icmp .ge 24, 3) := by decide +kernel
theorem dX11_guest_107 : decode cX11_guest 107 = .ok (.aload_n 0, 1) := by decide +kernel
theorem dX11_guest_108 : decode cX11_guest 108 = .ok (.getfield 33, 3) := by decide +kernel
theorem dX11_guest_111 : decode cX11_guest 111 = .ok (.iconst 4, 1) := by decide +kernel
theorem dX11_guest_112 : decode cX11_guest 112 = .ok (.aload_n 0, 1) := by decide +kernel
theorem dX11_guest_113 : decode cX11_guest 113 = .ok (.getfield 111, 3) := by decide +kernel
theorem dX11_guest_116 : decode cX11_guest 116 = .ok (.imul, 1) := by decide +kernel
theorem dX11_guest_117 : decode cX11_guest 117 = .ok (.iload 4, 2) := by decide +kernel
theorem dX11_guest_119 : decode cX11_guest 119 = .ok (.iadd, 1) := by decide +kernel
theorem dX11_guest_120 : decode cX11_guest 120 = .ok (.iconst 0, 1) := by decide +kernel
theorem dX11_guest_121 : decode cX11_guest 121 = .ok (.iastore, 1) := by decide +kernel
theorem dX11_guest_122 : decode cX11_guest 122 = .ok (.iinc 4 1, 3) := by decide +kernel
theorem dX11_guest_125 : decode cX11_guest 125 = .ok (.goto (-24), 3) := by decide +kernel
theorem dX11_guest_128 : decode cX11_guest 128 = .ok (.aload_n 0, 1) := by decide +kernel
theorem dX11_guest_129 : decode cX11_guest 129 = .ok (.dup, 1) := by decide +kernel
theorem dX11_guest_130 : decode cX11_guest 130 = .ok (.getfield 111, 3) := by decide +kernel
theorem dX11_guest_133 : decode cX11_guest 133 = .ok (.dup_x1, 1) := by decide +kernel
theorem dX11_guest_134 : decode cX11_guest 134 = .ok (.iconst 1, 1) := by decide +kernel
theorem dX11_guest_135 : decode cX11_guest 135 = .ok (.iadd, 1) := by decide +kernel
theorem dX11_guest_136 : decode cX11_guest 136 = .ok (.putfield 111, 3) := by decide +kernel
theorem dX11_guest_139 : decode cX11_guest 139 = .ok (.ireturn, 1) := by decide +kernel
theorem dX11_of_0 : decode cX11_of 0 = .ok (.aload_n 0, 1) := by decide +kernel
theorem dX11_of_1 : decode cX11_of 1 = .ok (.iload_n 1, 1) := by decide +kernel
theorem dX11_of_2 : decode cX11_of 2 = .ok (.invokevirtual 118, 3) := by decide +kernel
theorem dX11_of_5 : decode cX11_of 5 = .ok (.ifCond .ne 7, 3) := by decide +kernel
theorem dX11_of_8 : decode cX11_of 8 = .ok (.sipush (-10001), 3) := by decide +kernel
theorem dX11_of_11 : decode cX11_of 11 = .ok (.ireturn, 1) := by decide +kernel
theorem dX11_of_12 : decode cX11_of 12 = .ok (.iload_n 2, 1) := by decide +kernel
theorem dX11_of_13 : decode cX11_of 13 = .ok (.bipush 10, 2) := by decide +kernel
theorem dX11_of_15 : decode cX11_of 15 = .ok (.isub, 1) := by decide +kernel
theorem dX11_of_16 : decode cX11_of 16 = .ok (.invokestatic 122, 3) := by decide +kernel
theorem dX11_of_19 : decode cX11_of 19 = .ok (.ifCond .eq 13, 3) := by decide +kernel
theorem dX11_of_22 : decode cX11_of 22 = .ok (.aload_n 0, 1) := by decide +kernel
theorem dX11_of_23 : decode cX11_of 23 = .ok (.iload_n 1, 1) := by decide +kernel
theorem dX11_of_24 : decode cX11_of 24 = .ok (.iload_n 2, 1) := by decide +kernel
theorem dX11_of_25 : decode cX11_of 25 = .ok (.bipush 10, 2) := by decide +kernel
theorem dX11_of_27 : decode cX11_of 27 = .ok (.isub, 1) := by decide +kernel
theorem dX11_of_28 : decode cX11_of 28 = .ok (.invokevirtual 125, 3) := by decide +kernel
theorem dX11_of_31 : decode cX11_of 31 = .ok (.ireturn, 1) := by decide +kernel
theorem dX11_of_32 : decode cX11_of 32 = .ok (.iload_n 2, 1) := by decide +kernel
theorem dX11_of_33 : decode cX11_of 33 = .ok (.tableswitch 100 0 7 #[47, 54, 61, 68, 75, 82, 88, 94], 47) := by decide +kernel
theorem dX11_of_80 : decode cX11_of 80 = .ok (.aload_n 0, 1) := by decide +kernel
theorem dX11_of_81 : decode cX11_of 81 = .ok (.getfield 18, 3) := by decide +kernel
theorem dX11_of_84 : decode cX11_of 84 = .ok (.iload_n 1, 1) := by decide +kernel
theorem dX11_of_85 : decode cX11_of 85 = .ok (.iaload, 1) := by decide +kernel
theorem dX11_of_86 : decode cX11_of 86 = .ok (.ireturn, 1) := by decide +kernel
theorem dX11_of_87 : decode cX11_of 87 = .ok (.aload_n 0, 1) := by decide +kernel
theorem dX11_of_88 : decode cX11_of 88 = .ok (.getfield 21, 3) := by decide +kernel
theorem dX11_of_91 : decode cX11_of 91 = .ok (.iload_n 1, 1) := by decide +kernel
theorem dX11_of_92 : decode cX11_of 92 = .ok (.iaload, 1) := by decide +kernel
theorem dX11_of_93 : decode cX11_of 93 = .ok (.ireturn, 1) := by decide +kernel
theorem dX11_of_94 : decode cX11_of 94 = .ok (.aload_n 0, 1) := by decide +kernel
theorem dX11_of_95 : decode cX11_of 95 = .ok (.getfield 24, 3) := by decide +kernel
theorem dX11_of_98 : decode cX11_of 98 = .ok (.iload_n 1, 1) := by decide +kernel
theorem dX11_of_99 : decode cX11_of 99 = .ok (.iaload, 1) := by decide +kernel
theorem dX11_of_100 : decode cX11_of 100 = .ok (.ireturn, 1) := by decide +kernel
theorem dX11_of_101 : decode cX11_of 101 = .ok (.aload_n 0, 1) := by decide +kernel
theorem dX11_of_102 : decode cX11_of 102 = .ok (.getfield 27, 3) := by decide +kernel
theorem dX11_of_105 : decode cX11_of 105 = .ok (.iload_n 1, 1) := by decide +kernel
theorem dX11_of_106 : decode cX11_of 106 = .ok (.iaload, 1) := by decide +kernel
theorem dX11_of_107 : decode cX11_of 107 = .ok (.ireturn, 1) := by decide +kernel
theorem dX11_of_108 : decode cX11_of 108 = .ok (.aload_n 0, 1) := by decide +kernel
theorem dX11_of_109 : decode cX11_of 109 = .ok (.getfield 30, 3) := by decide +kernel
theorem dX11_of_112 : decode cX11_of 112 = .ok (.iload_n 1, 1) := by decide +kernel
theorem dX11_of_113 : decode cX11_of 113 = .ok (.iaload, 1) := by decide +kernel
theorem dX11_of_114 : decode cX11_of 114 = .ok (.ireturn, 1) := by decide +kernel
theorem dX11_of_115 : decode cX11_of 115 = .ok (.aload_n 0, 1) := by decide +kernel
theorem dX11_of_116 : decode cX11_of 116 = .ok (.iload_n 1, 1) := by decide +kernel
theorem dX11_of_117 : decode cX11_of 117 = .ok (.invokevirtual 129, 3) := by decide +kernel
theorem dX11_of_120 : decode cX11_of 120 = .ok (.ireturn, 1) := by decide +kernel
theorem dX11_of_121 : decode cX11_of 121 = .ok (.aload_n 0, 1) := by decide +kernel
theorem dX11_of_122 : decode cX11_of 122 = .ok (.iload_n 1, 1) := by decide +kernel
theorem dX11_of_123 : decode cX11_of 123 = .ok (.invokevirtual 133, 3) := by decide +kernel
theorem dX11_of_126 : decode cX11_of 126 = .ok (.ireturn, 1) := by decide +kernel
theorem dX11_of_127 : decode cX11_of 127 = .ok (.aload_n 0, 1) := by decide +kernel
theorem dX11_of_128 : decode cX11_of 128 = .ok (.iload_n 1, 1) := by decide +kernel
theorem dX11_of_129 : decode cX11_of 129 = .ok (.invokevirtual 136, 3) := by decide +kernel
theorem dX11_of_132 : decode cX11_of 132 = .ok (.ireturn, 1) := by decide +kernel
theorem dX11_of_133 : decode cX11_of 133 = .ok (.sipush (-10001), 3) := by decide +kernel
theorem dX11_of_136 : decode cX11_of 136 = .ok (.ireturn, 1) := by decide +kernel
theorem dX11_set_0 : decode cX11_set 0 = .ok (.aload_n 0, 1) := by decide +kernel
theorem dX11_set_1 : decode cX11_set 1 = .ok (.iload_n 1, 1) := by decide +kernel
theorem dX11_set_2 : decode cX11_set 2 = .ok (.invokevirtual 118, 3) := by decide +kernel
theorem dX11_set_5 : decode cX11_set 5 = .ok (.ifCond .eq 12, 3) := by decide +kernel
theorem dX11_set_8 : decode cX11_set 8 = .ok (.iload_n 2, 1) := by decide +kernel
theorem dX11_set_9 : decode cX11_set 9 = .ok (.iconst 0, 1) := by decide +kernel
theorem dX11_set_10 : decode cX11_set 10 = .ok (.iconst 1, 1) := by decide +kernel
theorem dX11_set_11 : decode cX11_set 11 = .ok (.invokestatic 114, 3) := by decide +kernel
theorem dX11_set_14 : decode cX11_set 14 = .ok (.ifCond .ne 5, 3) := by decide +kernel
theorem dX11_set_17 : decode cX11_set 17 = .ok (.iconst (-1), 1) := by decide +kernel
theorem dX11_set_18 : decode cX11_set 18 = .ok (.ireturn, 1) := by decide +kernel
theorem dX11_set_19 : decode cX11_set 19 = .ok (.iload_n 3, 1) := by decide +kernel
theorem dX11_set_20 : decode cX11_set 20 = .ok (.iconst 0, 1) := by decide +kernel
theorem dX11_set_21 : decode cX11_set 21 = .ok (.sipush 4095, 3) := by decide +kernel
theorem dX11_set_24 : decode cX11_set 24 = .ok (.invokestatic 114, 3) := by decide +kernel
theorem dX11_set_27 : decode cX11_set 27 = .ok (.ifCond .ne 6, 3) := by decide +kernel
theorem dX11_set_30 : decode cX11_set 30 = .ok (.bipush (-2), 2) := by decide +kernel
theorem dX11_set_32 : decode cX11_set 32 = .ok (.ireturn, 1) := by decide +kernel
theorem dX11_set_33 : decode cX11_set 33 = .ok (.iload_n 2, 1) := by decide +kernel
theorem dX11_set_34 : decode cX11_set 34 = .ok (.ifCond .ne 12, 3) := by decide +kernel
theorem dX11_set_37 : decode cX11_set 37 = .ok (.aload_n 0, 1) := by decide +kernel
theorem dX11_set_38 : decode cX11_set 38 = .ok (.getfield 24, 3) := by decide +kernel
theorem dX11_set_41 : decode cX11_set 41 = .ok (.iload_n 1, 1) := by decide +kernel
theorem dX11_set_42 : decode cX11_set 42 = .ok (.iaload, 1) := by decide +kernel
theorem dX11_set_43 : decode cX11_set 43 = .ok (.goto 9, 3) := by decide +kernel
theorem dX11_set_46 : decode cX11_set 46 = .ok (.aload_n 0, 1) := by decide +kernel
theorem dX11_set_47 : decode cX11_set 47 = .ok (.getfield 27, 3) := by decide +kernel
theorem dX11_set_50 : decode cX11_set 50 = .ok (.iload_n 1, 1) := by decide +kernel
theorem dX11_set_51 : decode cX11_set 51 = .ok (.iaload, 1) := by decide +kernel
theorem dX11_set_52 : decode cX11_set 52 = .ok (.istore 4, 2) := by decide +kernel
theorem dX11_set_54 : decode cX11_set 54 = .ok (.iload_n 2, 1) := by decide +kernel
theorem dX11_set_55 : decode cX11_set 55 = .ok (.ifCond .ne 13, 3) := by decide +kernel
theorem dX11_set_58 : decode cX11_set 58 = .ok (.aload_n 0, 1) := by decide +kernel
theorem dX11_set_59 : decode cX11_set 59 = .ok (.getfield 24, 3) := by decide +kernel
theorem dX11_set_62 : decode cX11_set 62 = .ok (.iload_n 1, 1) := by decide +kernel
theorem dX11_set_63 : decode cX11_set 63 = .ok (.iload_n 3, 1) := by decide +kernel
theorem dX11_set_64 : decode cX11_set 64 = .ok (.iastore, 1) := by decide +kernel
theorem dX11_set_65 : decode cX11_set 65 = .ok (.goto 10, 3) := by decide +kernel
theorem dX11_set_68 : decode cX11_set 68 = .ok (.aload_n 0, 1) := by decide +kernel
theorem dX11_set_69 : decode cX11_set 69 = .ok (.getfield 27, 3) := by decide +kernel
theorem dX11_set_72 : decode cX11_set 72 = .ok (.iload_n 1, 1) := by decide +kernel
theorem dX11_set_73 : decode cX11_set 73 = .ok (.iload_n 3, 1) := by decide +kernel
theorem dX11_set_74 : decode cX11_set 74 = .ok (.iastore, 1) := by decide +kernel
theorem dX11_set_75 : decode cX11_set 75 = .ok (.iload 4, 2) := by decide +kernel
theorem dX11_set_77 : decode cX11_set 77 = .ok (.ireturn, 1) := by decide +kernel
theorem dX11_weight_0 : decode cX11_weight 0 = .ok (.iload_n 1, 1) := by decide +kernel
theorem dX11_weight_1 : decode cX11_weight 1 = .ok (.invokestatic 122, 3) := by decide +kernel
theorem dX11_weight_4 : decode cX11_weight 4 = .ok (.ifCond .ne 5, 3) := by decide +kernel
theorem dX11_weight_7 : decode cX11_weight 7 = .ok (.iconst (-1), 1) := by decide +kernel
theorem dX11_weight_8 : decode cX11_weight 8 = .ok (.ireturn, 1) := by decide +kernel
theorem dX11_weight_9 : decode cX11_weight 9 = .ok (.iload_n 2, 1) := by decide +kernel
theorem dX11_weight_10 : decode cX11_weight 10 = .ok (.iconst 0, 1) := by decide +kernel
theorem dX11_weight_11 : decode cX11_weight 11 = .ok (.bipush 9, 2) := by decide +kernel
theorem dX11_weight_13 : decode cX11_weight 13 = .ok (.invokestatic 114, 3) := by decide +kernel
theorem dX11_weight_16 : decode cX11_weight 16 = .ok (.ifCond .ne 6, 3) := by decide +kernel
theorem dX11_weight_19 : decode cX11_weight 19 = .ok (.bipush (-2), 2) := by decide +kernel
theorem dX11_weight_21 : decode cX11_weight 21 = .ok (.ireturn, 1) := by decide +kernel
theorem dX11_weight_22 : decode cX11_weight 22 = .ok (.aload_n 0, 1) := by decide +kernel
theorem dX11_weight_23 : decode cX11_weight 23 = .ok (.getfield 9, 3) := by decide +kernel
theorem dX11_weight_26 : decode cX11_weight 26 = .ok (.iload_n 1, 1) := by decide +kernel
theorem dX11_weight_27 : decode cX11_weight 27 = .ok (.iaload, 1) := by decide +kernel
theorem dX11_weight_28 : decode cX11_weight 28 = .ok (.istore_n 3, 1) := by decide +kernel
theorem dX11_weight_29 : decode cX11_weight 29 = .ok (.aload_n 0, 1) := by decide +kernel
theorem dX11_weight_30 : decode cX11_weight 30 = .ok (.getfield 9, 3) := by decide +kernel
theorem dX11_weight_33 : decode cX11_weight 33 = .ok (.iload_n 1, 1) := by decide +kernel
theorem dX11_weight_34 : decode cX11_weight 34 = .ok (.iload_n 2, 1) := by decide +kernel
theorem dX11_weight_35 : decode cX11_weight 35 = .ok (.iastore, 1) := by decide +kernel
theorem dX11_weight_36 : decode cX11_weight 36 = .ok (.iload_n 3, 1) := by decide +kernel
theorem dX11_weight_37 : decode cX11_weight 37 = .ok (.ireturn, 1) := by decide +kernel
theorem dX11_stay_0 : decode cX11_stay 0 = .ok (.aload_n 0, 1) := by decide +kernel
theorem dX11_stay_1 : decode cX11_stay 1 = .ok (.iload_n 1, 1) := by decide +kernel
theorem dX11_stay_2 : decode cX11_stay 2 = .ok (.invokevirtual 118, 3) := by decide +kernel
theorem dX11_stay_5 : decode cX11_stay 5 = .ok (.ifCond .ne 5, 3) := by decide +kernel
theorem dX11_stay_8 : decode cX11_stay 8 = .ok (.iconst (-1), 1) := by decide +kernel
theorem dX11_stay_9 : decode cX11_stay 9 = .ok (.ireturn, 1) := by decide +kernel
theorem dX11_stay_10 : decode cX11_stay 10 = .ok (.aload_n 0, 1) := by decide +kernel
theorem dX11_stay_11 : decode cX11_stay 11 = .ok (.getfield 30, 3) := by decide +kernel
theorem dX11_stay_14 : decode cX11_stay 14 = .ok (.iload_n 1, 1) := by decide +kernel
theorem dX11_stay_15 : decode cX11_stay 15 = .ok (.iaload, 1) := by decide +kernel
theorem dX11_stay_16 : decode cX11_stay 16 = .ok (.istore_n 3, 1) := by decide +kernel
theorem dX11_stay_17 : decode cX11_stay 17 = .ok (.aload_n 0, 1) := by decide +kernel
theorem dX11_stay_18 : decode cX11_stay 18 = .ok (.getfield 30, 3) := by decide +kernel
theorem dX11_stay_21 : decode cX11_stay 21 = .ok (.iload_n 1, 1) := by decide +kernel
theorem dX11_stay_22 : decode cX11_stay 22 = .ok (.iload_n 2, 1) := by decide +kernel
theorem dX11_stay_23 : decode cX11_stay 23 = .ok (.ifCond .eq 7, 3) := by decide +kernel
theorem dX11_stay_26 : decode cX11_stay 26 = .ok (.iconst 1, 1) := by decide +kernel
theorem dX11_stay_27 : decode cX11_stay 27 = .ok (.goto 4, 3) := by decide +kernel
theorem dX11_stay_30 : decode cX11_stay 30 = .ok (.iconst 0, 1) := by decide +kernel
theorem dX11_stay_31 : decode cX11_stay 31 = .ok (.iastore, 1) := by decide +kernel
theorem dX11_stay_32 : decode cX11_stay 32 = .ok (.iload_n 3, 1) := by decide +kernel
theorem dX11_stay_33 : decode cX11_stay 33 = .ok (.ireturn, 1) := by decide +kernel
theorem dX11_redeem_0 : decode cX11_redeem 0 = .ok (.aload_n 0, 1) := by decide +kernel
theorem dX11_redeem_1 : decode cX11_redeem 1 = .ok (.iload_n 1, 1) := by decide +kernel
theorem dX11_redeem_2 : decode cX11_redeem 2 = .ok (.invokevirtual 118, 3) := by decide +kernel
theorem dX11_redeem_5 : decode cX11_redeem 5 = .ok (.ifCond .eq 10, 3) := by decide +kernel
theorem dX11_redeem_8 : decode cX11_redeem 8 = .ok (.iload_n 2, 1) := by decide +kernel
theorem dX11_redeem_9 : decode cX11_redeem 9 = .ok (.invokestatic 122, 3) := by decide +kernel
theorem dX11_redeem_12 : decode cX11_redeem 12 = .ok (.ifCond .ne 5, 3) := by decide +kernel
theorem dX11_redeem_15 : decode cX11_redeem 15 = .ok (.iconst (-1), 1) := by decide +kernel
theorem dX11_redeem_16 : decode cX11_redeem 16 = .ok (.ireturn, 1) := by decide +kernel
theorem dX11_redeem_17 : decode cX11_redeem 17 = .ok (.aload_n 0, 1) := by decide +kernel
theorem dX11_redeem_18 : decode cX11_redeem 18 = .ok (.getfield 27, 3) := by decide +kernel
theorem dX11_redeem_21 : decode cX11_redeem 21 = .ok (.iload_n 1, 1) := by decide +kernel
theorem dX11_redeem_22 : decode cX11_redeem 22 = .ok (.iaload, 1) := by decide +kernel
theorem dX11_redeem_23 : decode cX11_redeem 23 = .ok (.iload_n 2, 1) := by decide +kernel
theorem dX11_redeem_24 : decode cX11_redeem 24 = .ok (.invokestatic 139, 3) := by decide +kernel
theorem dX11_redeem_27 : decode cX11_redeem 27 = .ok (.ifCond .eq 25, 3) := by decide +kernel
theorem dX11_redeem_30 : decode cX11_redeem 30 = .ok (.aload_n 0, 1) := by decide +kernel
theorem dX11_redeem_31 : decode cX11_redeem 31 = .ok (.getfield 24, 3) := by decide +kernel
theorem dX11_redeem_34 : decode cX11_redeem 34 = .ok (.iload_n 1, 1) := by decide +kernel
theorem dX11_redeem_35 : decode cX11_redeem 35 = .ok (.iaload, 1) := by decide +kernel
theorem dX11_redeem_36 : decode cX11_redeem 36 = .ok (.iload_n 2, 1) := by decide +kernel
theorem dX11_redeem_37 : decode cX11_redeem 37 = .ok (.invokestatic 139, 3) := by decide +kernel
theorem dX11_redeem_40 : decode cX11_redeem 40 = .ok (.ifCond .ne 12, 3) := by decide +kernel
theorem dX11_redeem_43 : decode cX11_redeem 43 = .ok (.aload_n 0, 1) := by decide +kernel
theorem dX11_redeem_44 : decode cX11_redeem 44 = .ok (.getfield 15, 3) := by decide +kernel
theorem dX11_redeem_47 : decode cX11_redeem 47 = .ok (.iload_n 2, 1) := by decide +kernel
theorem dX11_redeem_48 : decode cX11_redeem 48 = .ok (.iaload, 1) := by decide +kernel
theorem dX11_redeem_49 : decode cX11_redeem 49 = .ok (.ifCond .ne 6, 3) := by decide +kernel
theorem dX11_redeem_52 : decode cX11_redeem 52 = .ok (.bipush (-3), 2) := by decide +kernel
theorem dX11_redeem_54 : decode cX11_redeem 54 = .ok (.ireturn, 1) := by decide +kernel
theorem dX11_redeem_55 : decode cX11_redeem 55 = .ok (.aload_n 0, 1) := by decide +kernel
theorem dX11_redeem_56 : decode cX11_redeem 56 = .ok (.getfield 24, 3) := by decide +kernel
theorem dX11_redeem_59 : decode cX11_redeem 59 = .ok (.iload_n 1, 1) := by decide +kernel
theorem dX11_redeem_60 : decode cX11_redeem 60 = .ok (.dup2, 1) := by decide +kernel
theorem dX11_redeem_61 : decode cX11_redeem 61 = .ok (.iaload, 1) := by decide +kernel
theorem dX11_redeem_62 : decode cX11_redeem 62 = .ok (.iconst 1, 1) := by decide +kernel
theorem dX11_redeem_63 : decode cX11_redeem 63 = .ok (.iload_n 2, 1) := by decide +kernel
theorem dX11_redeem_64 : decode cX11_redeem 64 = .ok (.ishl, 1) := by decide +kernel
theorem dX11_redeem_65 : decode cX11_redeem 65 = .ok (.ior, 1) := by decide +kernel
theorem dX11_redeem_66 : decode cX11_redeem 66 = .ok (.iastore, 1) := by decide +kernel
theorem dX11_redeem_67 : decode cX11_redeem 67 = .ok (.aload_n 0, 1) := by decide +kernel
theorem dX11_redeem_68 : decode cX11_redeem 68 = .ok (.getfield 27, 3) := by decide +kernel
theorem dX11_redeem_71 : decode cX11_redeem 71 = .ok (.iload_n 1, 1) := by decide +kernel
theorem dX11_redeem_72 : decode cX11_redeem 72 = .ok (.dup2, 1) := by decide +kernel
theorem dX11_redeem_73 : decode cX11_redeem 73 = .ok (.iaload, 1) := by decide +kernel
theorem dX11_redeem_74 : decode cX11_redeem 74 = .ok (.iconst 1, 1) := by decide +kernel
theorem dX11_redeem_75 : decode cX11_redeem 75 = .ok (.iload_n 2, 1) := by decide +kernel
theorem dX11_redeem_76 : decode cX11_redeem 76 = .ok (.ishl, 1) := by decide +kernel
theorem dX11_redeem_77 : decode cX11_redeem 77 = .ok (.iconst (-1), 1) := by decide +kernel
theorem dX11_redeem_78 : decode cX11_redeem 78 = .ok (.ixor, 1) := by decide +kernel
theorem dX11_redeem_79 : decode cX11_redeem 79 = .ok (.iand, 1) := by decide +kernel
theorem dX11_redeem_80 : decode cX11_redeem 80 = .ok (.iastore, 1) := by decide +kernel
theorem dX11_redeem_81 : decode cX11_redeem 81 = .ok (.aload_n 0, 1) := by decide +kernel
theorem dX11_redeem_82 : decode cX11_redeem 82 = .ok (.getfield 15, 3) := by decide +kernel
theorem dX11_redeem_85 : decode cX11_redeem 85 = .ok (.iload_n 2, 1) := by decide +kernel
theorem dX11_redeem_86 : decode cX11_redeem 86 = .ok (.dup2, 1) := by decide +kernel
theorem dX11_redeem_87 : decode cX11_redeem 87 = .ok (.iaload, 1) := by decide +kernel
theorem dX11_redeem_88 : decode cX11_redeem 88 = .ok (.iconst 1, 1) := by decide +kernel
theorem dX11_redeem_89 : decode cX11_redeem 89 = .ok (.isub, 1) := by decide +kernel
theorem dX11_redeem_90 : decode cX11_redeem 90 = .ok (.iastore, 1) := by decide +kernel
theorem dX11_redeem_91 : decode cX11_redeem 91 = .ok (.aload_n 0, 1) := by decide +kernel
theorem dX11_redeem_92 : decode cX11_redeem 92 = .ok (.getfield 15, 3) := by decide +kernel
theorem dX11_redeem_95 : decode cX11_redeem 95 = .ok (.iload_n 2, 1) := by decide +kernel
theorem dX11_redeem_96 : decode cX11_redeem 96 = .ok (.iaload, 1) := by decide +kernel
theorem dX11_redeem_97 : decode cX11_redeem 97 = .ok (.ireturn, 1) := by decide +kernel
theorem dX11_row_0 : decode cX11_row 0 = .ok (.aload_n 0, 1) := by decide +kernel
theorem dX11_row_1 : decode cX11_row 1 = .ok (.iload_n 1, 1) := by decide +kernel
theorem dX11_row_2 : decode cX11_row 2 = .ok (.invokevirtual 118, 3) := by decide +kernel
theorem dX11_row_5 : decode cX11_row 5 = .ok (.ifCond .eq 12, 3) := by decide +kernel
theorem dX11_row_8 : decode cX11_row 8 = .ok (.iload_n 2, 1) := by decide +kernel
theorem dX11_row_9 : decode cX11_row 9 = .ok (.iconst 0, 1) := by decide +kernel
theorem dX11_row_10 : decode cX11_row 10 = .ok (.iconst 3, 1) := by decide +kernel
theorem dX11_row_11 : decode cX11_row 11 = .ok (.invokestatic 114, 3) := by decide +kernel
theorem dX11_row_14 : decode cX11_row 14 = .ok (.ifCond .ne 5, 3) := by decide +kernel
theorem dX11_row_17 : decode cX11_row 17 = .ok (.iconst (-1), 1) := by decide +kernel
theorem dX11_row_18 : decode cX11_row 18 = .ok (.ireturn, 1) := by decide +kernel
theorem dX11_row_19 : decode cX11_row 19 = .ok (.iload_n 3, 1) := by decide +kernel
theorem dX11_row_20 : decode cX11_row 20 = .ok (.iconst 0, 1) := by decide +kernel
theorem dX11_row_21 : decode cX11_row 21 = .ok (.bipush 9, 2) := by decide +kernel
theorem dX11_row_23 : decode cX11_row 23 = .ok (.invokestatic 114, 3) := by decide +kernel
theorem dX11_row_26 : decode cX11_row 26 = .ok (.ifCond .ne 6, 3) := by decide +kernel
theorem dX11_row_29 : decode cX11_row 29 = .ok (.bipush (-2), 2) := by decide +kernel
theorem dX11_row_31 : decode cX11_row 31 = .ok (.ireturn, 1) := by decide +kernel
theorem dX11_row_32 : decode cX11_row 32 = .ok (.aload_n 0, 1) := by decide +kernel
theorem dX11_row_33 : decode cX11_row 33 = .ok (.getfield 18, 3) := by decide +kernel
theorem dX11_row_36 : decode cX11_row 36 = .ok (.iload_n 1, 1) := by decide +kernel
theorem dX11_row_37 : decode cX11_row 37 = .ok (.iaload, 1) := by decide +kernel
theorem dX11_row_38 : decode cX11_row 38 = .ok (.bipush 6, 2) := by decide +kernel
theorem dX11_row_40 : decode cX11_row 40 = .ok (.if_icmp .eq 6, 3) := by decide +kernel
theorem dX11_row_43 : decode cX11_row 43 = .ok (.bipush (-3), 2) := by decide +kernel
theorem dX11_row_45 : decode cX11_row 45 = .ok (.ireturn, 1) := by decide +kernel
theorem dX11_row_46 : decode cX11_row 46 = .ok (.aload_n 0, 1) := by decide +kernel
theorem dX11_row_47 : decode cX11_row 47 = .ok (.getfield 33, 3) := by decide +kernel
theorem dX11_row_50 : decode cX11_row 50 = .ok (.iconst 4, 1) := by decide +kernel
theorem dX11_row_51 : decode cX11_row 51 = .ok (.iload_n 1, 1) := by decide +kernel
theorem dX11_row_52 : decode cX11_row 52 = .ok (.imul, 1) := by decide +kernel
theorem dX11_row_53 : decode cX11_row 53 = .ok (.iload_n 2, 1) := by decide +kernel
theorem dX11_row_54 : decode cX11_row 54 = .ok (.iadd, 1) := by decide +kernel
theorem dX11_row_55 : decode cX11_row 55 = .ok (.iaload, 1) := by decide +kernel
theorem dX11_row_56 : decode cX11_row 56 = .ok (.istore 4, 2) := by decide +kernel
theorem dX11_row_58 : decode cX11_row 58 = .ok (.aload_n 0, 1) := by decide +kernel
theorem dX11_row_59 : decode cX11_row 59 = .ok (.getfield 33, 3) := by decide +kernel
theorem dX11_row_62 : decode cX11_row 62 = .ok (.iconst 4, 1) := by decide +kernel
theorem dX11_row_63 : decode cX11_row 63 = .ok (.iload_n 1, 1) := by decide +kernel
theorem dX11_row_64 : decode cX11_row 64 = .ok (.imul, 1) := by decide +kernel
theorem dX11_row_65 : decode cX11_row 65 = .ok (.iload_n 2, 1) := by decide +kernel
theorem dX11_row_66 : decode cX11_row 66 = .ok (.iadd, 1) := by decide +kernel
theorem dX11_row_67 : decode cX11_row 67 = .ok (.iload_n 3, 1) := by decide +kernel
theorem dX11_row_68 : decode cX11_row 68 = .ok (.iastore, 1) := by decide +kernel
theorem dX11_row_69 : decode cX11_row 69 = .ok (.iload 4, 2) := by decide +kernel
theorem dX11_row_71 : decode cX11_row 71 = .ok (.ireturn, 1) := by decide +kernel
theorem dX11_feed_0 : decode cX11_feed 0 = .ok (.iload_n 1, 1) := by decide +kernel
theorem dX11_feed_1 : decode cX11_feed 1 = .ok (.iconst 0, 1) := by decide +kernel
theorem dX11_feed_2 : decode cX11_feed 2 = .ok (.bipush 127, 2) := by decide +kernel
theorem dX11_feed_4 : decode cX11_feed 4 = .ok (.invokestatic 114, 3) := by decide +kernel
theorem dX11_feed_7 : decode cX11_feed 7 = .ok (.ifCond .ne 6, 3) := by decide +kernel
theorem dX11_feed_10 : decode cX11_feed 10 = .ok (.bipush (-2), 2) := by decide +kernel
theorem dX11_feed_12 : decode cX11_feed 12 = .ok (.ireturn, 1) := by decide +kernel
theorem dX11_feed_13 : decode cX11_feed 13 = .ok (.aload_n 0, 1) := by decide +kernel
theorem dX11_feed_14 : decode cX11_feed 14 = .ok (.getfield 143, 3) := by decide +kernel
theorem dX11_feed_17 : decode cX11_feed 17 = .ok (.bipush 100, 2) := by decide +kernel
theorem dX11_feed_19 : decode cX11_feed 19 = .ok (.if_icmp .ne 6, 3) := by decide +kernel
theorem dX11_feed_22 : decode cX11_feed 22 = .ok (.bipush (-4), 2) := by decide +kernel
theorem dX11_feed_24 : decode cX11_feed 24 = .ok (.ireturn, 1) := by decide +kernel
theorem dX11_feed_25 : decode cX11_feed 25 = .ok (.aload_n 0, 1) := by decide +kernel
theorem dX11_feed_26 : decode cX11_feed 26 = .ok (.getfield 36, 3) := by decide +kernel
theorem dX11_feed_29 : decode cX11_feed 29 = .ok (.aload_n 0, 1) := by decide +kernel
theorem dX11_feed_30 : decode cX11_feed 30 = .ok (.dup, 1) := by decide +kernel
theorem dX11_feed_31 : decode cX11_feed 31 = .ok (.getfield 143, 3) := by decide +kernel
theorem dX11_feed_34 : decode cX11_feed 34 = .ok (.dup_x1, 1) := by decide +kernel
theorem dX11_feed_35 : decode cX11_feed 35 = .ok (.iconst 1, 1) := by decide +kernel
theorem dX11_feed_36 : decode cX11_feed 36 = .ok (.iadd, 1) := by decide +kernel
theorem dX11_feed_37 : decode cX11_feed 37 = .ok (.putfield 143, 3) := by decide +kernel
theorem dX11_feed_40 : decode cX11_feed 40 = .ok (.iload_n 1, 1) := by decide +kernel
theorem dX11_feed_41 : decode cX11_feed 41 = .ok (.iastore, 1) := by decide +kernel
theorem dX11_feed_42 : decode cX11_feed 42 = .ok (.aload_n 0, 1) := by decide +kernel
theorem dX11_feed_43 : decode cX11_feed 43 = .ok (.getfield 143, 3) := by decide +kernel
theorem dX11_feed_46 : decode cX11_feed 46 = .ok (.ireturn, 1) := by decide +kernel
theorem dX11_is_0 : decode cX11_is 0 = .ok (.aload_n 0, 1) := by decide +kernel
theorem dX11_is_1 : decode cX11_is 1 = .ok (.getfield 146, 3) := by decide +kernel
theorem dX11_is_4 : decode cX11_is 4 = .ok (.aload_n 0, 1) := by decide +kernel
theorem dX11_is_5 : decode cX11_is 5 = .ok (.getfield 143, 3) := by decide +kernel
theorem dX11_is_8 : decode cX11_is 8 = .ok (.if_icmp .eq 16, 3) := by decide +kernel
theorem dX11_is_11 : decode cX11_is 11 = .ok (.aload_n 0, 1) := by decide +kernel
theorem dX11_is_12 : decode cX11_is 12 = .ok (.getfield 36, 3) := by decide +kernel
theorem dX11_is_15 : decode cX11_is 15 = .ok (.aload_n 0, 1) := by decide +kernel
theorem dX11_is_16 : decode cX11_is 16 = .ok (.getfield 146, 3) := by decide +kernel
theorem dX11_is_19 : decode cX11_is 19 = .ok (.iaload, 1) := by decide +kernel
theorem dX11_is_20 : decode cX11_is 20 = .ok (.iload_n 1, 1) := by decide +kernel
theorem dX11_is_21 : decode cX11_is 21 = .ok (.if_icmp .eq 5, 3) := by decide +kernel
theorem dX11_is_24 : decode cX11_is 24 = .ok (.iconst 0, 1) := by decide +kernel
theorem dX11_is_25 : decode cX11_is 25 = .ok (.ireturn, 1) := by decide +kernel
theorem dX11_is_26 : decode cX11_is 26 = .ok (.aload_n 0, 1) := by decide +kernel
theorem dX11_is_27 : decode cX11_is 27 = .ok (.dup, 1) := by decide +kernel
theorem dX11_is_28 : decode cX11_is 28 = .ok (.getfield 146, 3) := by decide +kernel
theorem dX11_is_31 : decode cX11_is 31 = .ok (.iconst 1, 1) := by decide +kernel
theorem dX11_is_32 : decode cX11_is 32 = .ok (.iadd, 1) := by decide +kernel
theorem dX11_is_33 : decode cX11_is 33 = .ok (.putfield 146, 3) := by decide +kernel
theorem dX11_is_36 : decode cX11_is 36 = .ok (.iconst 1, 1) := by decide +kernel
theorem dX11_is_37 : decode cX11_is 37 = .ok (.ireturn, 1) := by decide +kernel
theorem dX11_isDigit_0 : decode cX11_isDigit 0 = .ok (.aload_n 0, 1) := by decide +kernel
theorem dX11_isDigit_1 : decode cX11_isDigit 1 = .ok (.getfield 146, 3) := by decide +kernel
theorem dX11_isDigit_4 : decode cX11_isDigit 4 = .ok (.aload_n 0, 1) := by decide +kernel
theorem dX11_isDigit_5 : decode cX11_isDigit 5 = .ok (.getfield 143, 3) := by decide +kernel
theorem dX11_isDigit_8 : decode cX11_isDigit 8 = .ok (.if_icmp .ge 35, 3) := by decide +kernel
theorem dX11_isDigit_11 : decode cX11_isDigit 11 = .ok (.aload_n 0, 1) := by decide +kernel
theorem dX11_isDigit_12 : decode cX11_isDigit 12 = .ok (.getfield 36, 3) := by decide +kernel
theorem dX11_isDigit_15 : decode cX11_isDigit 15 = .ok (.aload_n 0, 1) := by decide +kernel
theorem dX11_isDigit_16 : decode cX11_isDigit 16 = .ok (.getfield 146, 3) := by decide +kernel
theorem dX11_isDigit_19 : decode cX11_isDigit 19 = .ok (.iaload, 1) := by decide +kernel
theorem dX11_isDigit_20 : decode cX11_isDigit 20 = .ok (.bipush 48, 2) := by decide +kernel
theorem dX11_isDigit_22 : decode cX11_isDigit 22 = .ok (.if_icmp .lt 21, 3) := by decide +kernel
theorem dX11_isDigit_25 : decode cX11_isDigit 25 = .ok (.aload_n 0, 1) := by decide +kernel
theorem dX11_isDigit_26 : decode cX11_isDigit 26 = .ok (.getfield 36, 3) := by decide +kernel
theorem dX11_isDigit_29 : decode cX11_isDigit 29 = .ok (.aload_n 0, 1) := by decide +kernel
theorem dX11_isDigit_30 : decode cX11_isDigit 30 = .ok (.getfield 146, 3) := by decide +kernel
theorem dX11_isDigit_33 : decode cX11_isDigit 33 = .ok (.iaload, 1) := by decide +kernel
theorem dX11_isDigit_34 : decode cX11_isDigit 34 = .ok (.bipush 57, 2) := by decide +kernel
theorem dX11_isDigit_36 : decode cX11_isDigit 36 = .ok (.if_icmp .gt 7, 3) := by decide +kernel
theorem dX11_isDigit_39 : decode cX11_isDigit 39 = .ok (.iconst 1, 1) := by decide +kernel
theorem dX11_isDigit_40 : decode cX11_isDigit 40 = .ok (.goto 4, 3) := by decide +kernel
theorem dX11_isDigit_43 : decode cX11_isDigit 43 = .ok (.iconst 0, 1) := by decide +kernel
theorem dX11_isDigit_44 : decode cX11_isDigit 44 = .ok (.ireturn, 1) := by decide +kernel
theorem dX11_isNumber_0 : decode cX11_isNumber 0 = .ok (.aload_n 0, 1) := by decide +kernel
theorem dX11_isNumber_1 : decode cX11_isNumber 1 = .ok (.iconst 0, 1) := by decide +kernel
theorem dX11_isNumber_2 : decode cX11_isNumber 2 = .ok (.putfield 149, 3) := by decide +kernel
theorem dX11_isNumber_5 : decode cX11_isNumber 5 = .ok (.aload_n 0, 1) := by decide +kernel
theorem dX11_isNumber_6 : decode cX11_isNumber 6 = .ok (.iconst 0, 1) := by decide +kernel
theorem dX11_isNumber_7 : decode cX11_isNumber 7 = .ok (.putfield 152, 3) := by decide +kernel
theorem dX11_isNumber_10 : decode cX11_isNumber 10 = .ok (.aload_n 0, 1) := by decide +kernel
theorem dX11_isNumber_11 : decode cX11_isNumber 11 = .ok (.getfield 152, 3) := by decide +kernel
theorem dX11_isNumber_14 : decode cX11_isNumber 14 = .ok (.iconst 2, 1) := by decide +kernel
theorem dX11_isNumber_15 : decode cX11_isNumber 15 = .ok (.if_icmp .ge 57, 3) := by decide +kernel
theorem dX11_isNumber_18 : decode cX11_isNumber 18 = .ok (.aload_n 0, 1) := by decide +kernel
theorem dX11_isNumber_19 : decode cX11_isNumber 19 = .ok (.invokevirtual 155, 3) := by decide +kernel
theorem dX11_isNumber_22 : decode cX11_isNumber 22 = .ok (.ifCond .eq 50, 3) := by decide +kernel
theorem dX11_isNumber_25 : decode cX11_isNumber 25 = .ok (.aload_n 0, 1) := by decide +kernel
theorem dX11_isNumber_26 : decode cX11_isNumber 26 = .ok (.bipush 10, 2) := by decide +kernel
theorem dX11_isNumber_28 : decode cX11_isNumber 28 = .ok (.aload_n 0, 1) := by decide +kernel
theorem dX11_isNumber_29 : decode cX11_isNumber 29 = .ok (.getfield 149, 3) := by decide +kernel
theorem dX11_isNumber_32 : decode cX11_isNumber 32 = .ok (.imul, 1) := by decide +kernel
theorem dX11_isNumber_33 : decode cX11_isNumber 33 = .ok (.aload_n 0, 1) := by decide +kernel
theorem dX11_isNumber_34 : decode cX11_isNumber 34 = .ok (.getfield 36, 3) := by decide +kernel
theorem dX11_isNumber_37 : decode cX11_isNumber 37 = .ok (.aload_n 0, 1) := by decide +kernel
theorem dX11_isNumber_38 : decode cX11_isNumber 38 = .ok (.getfield 146, 3) := by decide +kernel
theorem dX11_isNumber_41 : decode cX11_isNumber 41 = .ok (.iaload, 1) := by decide +kernel
theorem dX11_isNumber_42 : decode cX11_isNumber 42 = .ok (.iadd, 1) := by decide +kernel
theorem dX11_isNumber_43 : decode cX11_isNumber 43 = .ok (.bipush 48, 2) := by decide +kernel
theorem dX11_isNumber_45 : decode cX11_isNumber 45 = .ok (.isub, 1) := by decide +kernel
theorem dX11_isNumber_46 : decode cX11_isNumber 46 = .ok (.putfield 149, 3) := by decide +kernel
theorem dX11_isNumber_49 : decode cX11_isNumber 49 = .ok (.aload_n 0, 1) := by decide +kernel
theorem dX11_isNumber_50 : decode cX11_isNumber 50 = .ok (.dup, 1) := by decide +kernel
theorem dX11_isNumber_51 : decode cX11_isNumber 51 = .ok (.getfield 146, 3) := by decide +kernel
theorem dX11_isNumber_54 : decode cX11_isNumber 54 = .ok (.iconst 1, 1) := by decide +kernel
theorem dX11_isNumber_55 : decode cX11_isNumber 55 = .ok (.iadd, 1) := by decide +kernel
theorem dX11_isNumber_56 : decode cX11_isNumber 56 = .ok (.putfield 146, 3) := by decide +kernel
theorem dX11_isNumber_59 : decode cX11_isNumber 59 = .ok (.aload_n 0, 1) := by decide +kernel
theorem dX11_isNumber_60 : decode cX11_isNumber 60 = .ok (.dup, 1) := by decide +kernel
theorem dX11_isNumber_61 : decode cX11_isNumber 61 = .ok (.getfield 152, 3) := by decide +kernel
theorem dX11_isNumber_64 : decode cX11_isNumber 64 = .ok (.iconst 1, 1) := by decide +kernel
theorem dX11_isNumber_65 : decode cX11_isNumber 65 = .ok (.iadd, 1) := by decide +kernel
theorem dX11_isNumber_66 : decode cX11_isNumber 66 = .ok (.putfield 152, 3) := by decide +kernel
theorem dX11_isNumber_69 : decode cX11_isNumber 69 = .ok (.goto (-59), 3) := by decide +kernel
theorem dX11_isNumber_72 : decode cX11_isNumber 72 = .ok (.aload_n 0, 1) := by decide +kernel
theorem dX11_isNumber_73 : decode cX11_isNumber 73 = .ok (.getfield 152, 3) := by decide +kernel
theorem dX11_isNumber_76 : decode cX11_isNumber 76 = .ok (.ifCond .le 7, 3) := by decide +kernel
theorem dX11_isNumber_79 : decode cX11_isNumber 79 = .ok (.iconst 1, 1) := by decide +kernel
theorem dX11_isNumber_80 : decode cX11_isNumber 80 = .ok (.goto 4, 3) := by decide +kernel
theorem dX11_isNumber_83 : decode cX11_isNumber 83 = .ok (.iconst 0, 1) := by decide +kernel
theorem dX11_isNumber_84 : decode cX11_isNumber 84 = .ok (.ireturn, 1) := by decide +kernel
theorem dX11_isAll_0 : decode cX11_isAll 0 = .ok (.iconst 0, 1) := by decide +kernel
theorem dX11_isAll_1 : decode cX11_isAll 1 = .ok (.istore_n 2, 1) := by decide +kernel
theorem dX11_isAll_2 : decode cX11_isAll 2 = .ok (.iload_n 2, 1) := by decide +kernel
theorem dX11_isAll_3 : decode cX11_isAll 3 = .ok (.aload_n 1, 1) := by decide +kernel
theorem dX11_isAll_4 : decode cX11_isAll 4 = .ok (.invokevirtual 159, 3) := by decide +kernel
theorem dX11_isAll_7 : decode cX11_isAll 7 = .ok (.if_icmp .ge 23, 3) := by decide +kernel
theorem dX11_isAll_10 : decode cX11_isAll 10 = .ok (.aload_n 0, 1) := by decide +kernel
theorem dX11_isAll_11 : decode cX11_isAll 11 = .ok (.aload_n 1, 1) := by decide +kernel
theorem dX11_isAll_12 : decode cX11_isAll 12 = .ok (.iload_n 2, 1) := by decide +kernel
theorem dX11_isAll_13 : decode cX11_isAll 13 = .ok (.invokevirtual 164, 3) := by decide +kernel
theorem dX11_isAll_16 : decode cX11_isAll 16 = .ok (.invokevirtual 168, 3) := by decide +kernel
theorem dX11_isAll_19 : decode cX11_isAll 19 = .ok (.ifCond .ne 5, 3) := by decide +kernel
theorem dX11_isAll_22 : decode cX11_isAll 22 = .ok (.iconst 0, 1) := by decide +kernel
theorem dX11_isAll_23 : decode cX11_isAll 23 = .ok (.ireturn, 1) := by decide +kernel
theorem dX11_isAll_24 : decode cX11_isAll 24 = .ok (.iinc 2 1, 3) := by decide +kernel
theorem dX11_isAll_27 : decode cX11_isAll 27 = .ok (.goto (-25), 3) := by decide +kernel
theorem dX11_isAll_30 : decode cX11_isAll 30 = .ok (.iconst 1, 1) := by decide +kernel
theorem dX11_isAll_31 : decode cX11_isAll 31 = .ok (.ireturn, 1) := by decide +kernel
theorem dX11_codes_0 : decode cX11_codes 0 = .ok (.aload_n 0, 1) := by decide +kernel
theorem dX11_codes_1 : decode cX11_codes 1 = .ok (.getfield 54, 3) := by decide +kernel
theorem dX11_codes_4 : decode cX11_codes 4 = .ok (.aload_n 0, 1) := by decide +kernel
theorem dX11_codes_5 : decode cX11_codes 5 = .ok (.dup, 1) := by decide +kernel
theorem dX11_codes_6 : decode cX11_codes 6 = .ok (.getfield 171, 3) := by decide +kernel
theorem dX11_codes_9 : decode cX11_codes 9 = .ok (.dup_x1, 1) := by decide +kernel
theorem dX11_codes_10 : decode cX11_codes 10 = .ok (.iconst 1, 1) := by decide +kernel
theorem dX11_codes_11 : decode cX11_codes 11 = .ok (.iadd, 1) := by decide +kernel
theorem dX11_codes_12 : decode cX11_codes 12 = .ok (.putfield 171, 3) := by decide +kernel
theorem dX11_codes_15 : decode cX11_codes 15 = .ok (.iload_n 1, 1) := by decide +kernel
theorem dX11_codes_16 : decode cX11_codes 16 = .ok (.iastore, 1) := by decide +kernel
theorem dX11_codes_17 : decode cX11_codes 17 = .ok (.iconst 1, 1) := by decide +kernel
theorem dX11_codes_18 : decode cX11_codes 18 = .ok (.ireturn, 1) := by decide +kernel
theorem dX11_isTest_0 : decode cX11_isTest 0 = .ok (.aload_n 0, 1) := by decide +kernel
theorem dX11_isTest_1 : decode cX11_isTest 1 = .ok (.getfield 146, 3) := by decide +kernel
theorem dX11_isTest_4 : decode cX11_isTest 4 = .ok (.aload_n 0, 1) := by decide +kernel
theorem dX11_isTest_5 : decode cX11_isTest 5 = .ok (.getfield 143, 3) := by decide +kernel
theorem dX11_isTest_8 : decode cX11_isTest 8 = .ok (.if_icmp .ge 32, 3) := by decide +kernel
theorem dX11_isTest_11 : decode cX11_isTest 11 = .ok (.aload_n 0, 1) := by decide +kernel
theorem dX11_isTest_12 : decode cX11_isTest 12 = .ok (.getfield 36, 3) := by decide +kernel
theorem dX11_isTest_15 : decode cX11_isTest 15 = .ok (.aload_n 0, 1) := by decide +kernel
theorem dX11_isTest_16 : decode cX11_isTest 16 = .ok (.getfield 146, 3) := by decide +kernel
theorem dX11_isTest_19 : decode cX11_isTest 19 = .ok (.iaload, 1) := by decide +kernel
theorem dX11_isTest_20 : decode cX11_isTest 20 = .ok (.ifCond .le 20, 3) := by decide +kernel
theorem dX11_isTest_23 : decode cX11_isTest 23 = .ok (.ldc 174, 2) := by decide +kernel
theorem dX11_isTest_25 : decode cX11_isTest 25 = .ok (.aload_n 0, 1) := by decide +kernel
theorem dX11_isTest_26 : decode cX11_isTest 26 = .ok (.getfield 36, 3) := by decide +kernel
theorem dX11_isTest_29 : decode cX11_isTest 29 = .ok (.aload_n 0, 1) := by decide +kernel
theorem dX11_isTest_30 : decode cX11_isTest 30 = .ok (.getfield 146, 3) := by decide +kernel
theorem dX11_isTest_33 : decode cX11_isTest 33 = .ok (.iaload, 1) := by decide +kernel
theorem dX11_isTest_34 : decode cX11_isTest 34 = .ok (.invokevirtual 176, 3) := by decide +kernel
theorem dX11_isTest_37 : decode cX11_isTest 37 = .ok (.goto 4, 3) := by decide +kernel
theorem dX11_isTest_40 : decode cX11_isTest 40 = .ok (.iconst (-1), 1) := by decide +kernel
theorem dX11_isTest_41 : decode cX11_isTest 41 = .ok (.istore_n 1, 1) := by decide +kernel
theorem dX11_isTest_42 : decode cX11_isTest 42 = .ok (.iload_n 1, 1) := by decide +kernel
theorem dX11_isTest_43 : decode cX11_isTest 43 = .ok (.ifCond .ge 5, 3) := by decide +kernel
theorem dX11_isTest_46 : decode cX11_isTest 46 = .ok (.iconst 0, 1) := by decide +kernel
theorem dX11_isTest_47 : decode cX11_isTest 47 = .ok (.ireturn, 1) := by decide +kernel
theorem dX11_isTest_48 : decode cX11_isTest 48 = .ok (.aload_n 0, 1) := by decide +kernel
theorem dX11_isTest_49 : decode cX11_isTest 49 = .ok (.dup, 1) := by decide +kernel
theorem dX11_isTest_50 : decode cX11_isTest 50 = .ok (.getfield 146, 3) := by decide +kernel
theorem dX11_isTest_53 : decode cX11_isTest 53 = .ok (.iconst 1, 1) := by decide +kernel
theorem dX11_isTest_54 : decode cX11_isTest 54 = .ok (.iadd, 1) := by decide +kernel
theorem dX11_isTest_55 : decode cX11_isTest 55 = .ok (.putfield 146, 3) := by decide +kernel
theorem dX11_isTest_58 : decode cX11_isTest 58 = .ok (.aload_n 0, 1) := by decide +kernel
theorem dX11_isTest_59 : decode cX11_isTest 59 = .ok (.getfield 146, 3) := by decide +kernel
theorem dX11_isTest_62 : decode cX11_isTest 62 = .ok (.aload_n 0, 1) := by decide +kernel
theorem dX11_isTest_63 : decode cX11_isTest 63 = .ok (.getfield 143, 3) := by decide +kernel
theorem dX11_isTest_66 : decode cX11_isTest 66 = .ok (.if_icmp .ge 32, 3) := by decide +kernel
theorem dX11_isTest_69 : decode cX11_isTest 69 = .ok (.aload_n 0, 1) := by decide +kernel
theorem dX11_isTest_70 : decode cX11_isTest 70 = .ok (.getfield 36, 3) := by decide +kernel
theorem dX11_isTest_73 : decode cX11_isTest 73 = .ok (.aload_n 0, 1) := by decide +kernel
theorem dX11_isTest_74 : decode cX11_isTest 74 = .ok (.getfield 146, 3) := by decide +kernel
theorem dX11_isTest_77 : decode cX11_isTest 77 = .ok (.iaload, 1) := by decide +kernel
theorem dX11_isTest_78 : decode cX11_isTest 78 = .ok (.ifCond .le 20, 3) := by decide +kernel
theorem dX11_isTest_81 : decode cX11_isTest 81 = .ok (.ldc 179, 2) := by decide +kernel
theorem dX11_isTest_83 : decode cX11_isTest 83 = .ok (.aload_n 0, 1) := by decide +kernel
theorem dX11_isTest_84 : decode cX11_isTest 84 = .ok (.getfield 36, 3) := by decide +kernel
theorem dX11_isTest_87 : decode cX11_isTest 87 = .ok (.aload_n 0, 1) := by decide +kernel
theorem dX11_isTest_88 : decode cX11_isTest 88 = .ok (.getfield 146, 3) := by decide +kernel
theorem dX11_isTest_91 : decode cX11_isTest 91 = .ok (.iaload, 1) := by decide +kernel
theorem dX11_isTest_92 : decode cX11_isTest 92 = .ok (.invokevirtual 176, 3) := by decide +kernel
theorem dX11_isTest_95 : decode cX11_isTest 95 = .ok (.goto 4, 3) := by decide +kernel
theorem dX11_isTest_98 : decode cX11_isTest 98 = .ok (.iconst (-1), 1) := by decide +kernel
theorem dX11_isTest_99 : decode cX11_isTest 99 = .ok (.istore_n 2, 1) := by decide +kernel
theorem dX11_isTest_100 : decode cX11_isTest 100 = .ok (.iload_n 2, 1) := by decide +kernel
theorem dX11_isTest_101 : decode cX11_isTest 101 = .ok (.ifCond .ge 5, 3) := by decide +kernel
theorem dX11_isTest_104 : decode cX11_isTest 104 = .ok (.iconst 0, 1) := by decide +kernel
theorem dX11_isTest_105 : decode cX11_isTest 105 = .ok (.ireturn, 1) := by decide +kernel
theorem dX11_isTest_106 : decode cX11_isTest 106 = .ok (.aload_n 0, 1) := by decide +kernel
theorem dX11_isTest_107 : decode cX11_isTest 107 = .ok (.dup, 1) := by decide +kernel
theorem dX11_isTest_108 : decode cX11_isTest 108 = .ok (.getfield 146, 3) := by decide +kernel
theorem dX11_isTest_111 : decode cX11_isTest 111 = .ok (.iconst 1, 1) := by decide +kernel
theorem dX11_isTest_112 : decode cX11_isTest 112 = .ok (.iadd, 1) := by decide +kernel
theorem dX11_isTest_113 : decode cX11_isTest 113 = .ok (.putfield 146, 3) := by decide +kernel
theorem dX11_isTest_116 : decode cX11_isTest 116 = .ok (.aload_n 0, 1) := by decide +kernel
theorem dX11_isTest_117 : decode cX11_isTest 117 = .ok (.invokevirtual 181, 3) := by decide +kernel
theorem dX11_isTest_120 : decode cX11_isTest 120 = .ok (.ifCond .eq 31, 3) := by decide +kernel
theorem dX11_isTest_123 : decode cX11_isTest 123 = .ok (.aload_n 0, 1) := by decide +kernel
theorem dX11_isTest_124 : decode cX11_isTest 124 = .ok (.iconst 3, 1) := by decide +kernel
theorem dX11_isTest_125 : decode cX11_isTest 125 = .ok (.sipush 300, 3) := by decide +kernel
theorem dX11_isTest_128 : decode cX11_isTest 128 = .ok (.iload_n 1, 1) := by decide +kernel
theorem dX11_isTest_129 : decode cX11_isTest 129 = .ok (.imul, 1) := by decide +kernel
theorem dX11_isTest_130 : decode cX11_isTest 130 = .ok (.iadd, 1) := by decide +kernel
theorem dX11_isTest_131 : decode cX11_isTest 131 = .ok (.bipush 100, 2) := by decide +kernel
theorem dX11_isTest_133 : decode cX11_isTest 133 = .ok (.iload_n 2, 1) := by decide +kernel
theorem dX11_isTest_134 : decode cX11_isTest 134 = .ok (.imul, 1) := by decide +kernel
theorem dX11_isTest_135 : decode cX11_isTest 135 = .ok (.iadd, 1) := by decide +kernel
theorem dX11_isTest_136 : decode cX11_isTest 136 = .ok (.aload_n 0, 1) := by decide +kernel
theorem dX11_isTest_137 : decode cX11_isTest 137 = .ok (.getfield 149, 3) := by decide +kernel
theorem dX11_isTest_140 : decode cX11_isTest 140 = .ok (.iadd, 1) := by decide +kernel
theorem dX11_isTest_141 : decode cX11_isTest 141 = .ok (.invokevirtual 184, 3) := by decide +kernel
theorem dX11_isTest_144 : decode cX11_isTest 144 = .ok (.ifCond .eq 7, 3) := by decide +kernel
theorem dX11_isTest_147 : decode cX11_isTest 147 = .ok (.iconst 1, 1) := by decide +kernel
theorem dX11_isTest_148 : decode cX11_isTest 148 = .ok (.goto 4, 3) := by decide +kernel
theorem dX11_isTest_151 : decode cX11_isTest 151 = .ok (.iconst 0, 1) := by decide +kernel
theorem dX11_isTest_152 : decode cX11_isTest 152 = .ok (.ireturn, 1) := by decide +kernel
theorem dX11_isOpened_0 : decode cX11_isOpened 0 = .ok (.aload_n 0, 1) := by decide +kernel
theorem dX11_isOpened_1 : decode cX11_isOpened 1 = .ok (.getfield 187, 3) := by decide +kernel
theorem dX11_isOpened_4 : decode cX11_isOpened 4 = .ok (.iconst 4, 1) := by decide +kernel
theorem dX11_isOpened_5 : decode cX11_isOpened 5 = .ok (.if_icmp .eq 11, 3) := by decide +kernel
theorem dX11_isOpened_8 : decode cX11_isOpened 8 = .ok (.aload_n 0, 1) := by decide +kernel
theorem dX11_isOpened_9 : decode cX11_isOpened 9 = .ok (.iload_n 1, 1) := by decide +kernel
theorem dX11_isOpened_10 : decode cX11_isOpened 10 = .ok (.invokevirtual 168, 3) := by decide +kernel
theorem dX11_isOpened_13 : decode cX11_isOpened 13 = .ok (.ifCond .ne 5, 3) := by decide +kernel
theorem dX11_isOpened_16 : decode cX11_isOpened 16 = .ok (.iconst 0, 1) := by decide +kernel
theorem dX11_isOpened_17 : decode cX11_isOpened 17 = .ok (.ireturn, 1) := by decide +kernel
theorem dX11_isOpened_18 : decode cX11_isOpened 18 = .ok (.aload_n 0, 1) := by decide +kernel
theorem dX11_isOpened_19 : decode cX11_isOpened 19 = .ok (.dup, 1) := by decide +kernel
theorem dX11_isOpened_20 : decode cX11_isOpened 20 = .ok (.getfield 187, 3) := by decide +kernel
theorem dX11_isOpened_23 : decode cX11_isOpened 23 = .ok (.iconst 1, 1) := by decide +kernel
theorem dX11_isOpened_24 : decode cX11_isOpened 24 = .ok (.iadd, 1) := by decide +kernel
theorem dX11_isOpened_25 : decode cX11_isOpened 25 = .ok (.putfield 187, 3) := by decide +kernel
theorem dX11_isOpened_28 : decode cX11_isOpened 28 = .ok (.iconst 1, 1) := by decide +kernel
theorem dX11_isOpened_29 : decode cX11_isOpened 29 = .ok (.ireturn, 1) := by decide +kernel
theorem dX11_isF_0 : decode cX11_isF 0 = .ok (.aload_n 0, 1) := by decide +kernel
theorem dX11_isF_1 : decode cX11_isF 1 = .ok (.bipush 33, 2) := by decide +kernel
theorem dX11_isF_3 : decode cX11_isF 3 = .ok (.invokevirtual 190, 3) := by decide +kernel
theorem dX11_isF_6 : decode cX11_isF 6 = .ok (.ifCond .eq 27, 3) := by decide +kernel
theorem dX11_isF_9 : decode cX11_isF 9 = .ok (.aload_n 0, 1) := by decide +kernel
theorem dX11_isF_10 : decode cX11_isF 10 = .ok (.invokevirtual 193, 3) := by decide +kernel
theorem dX11_isF_13 : decode cX11_isF 13 = .ok (.ifCond .eq 15, 3) := by decide +kernel
theorem dX11_isF_16 : decode cX11_isF 16 = .ok (.aload_n 0, 1) := by decide +kernel
theorem dX11_isF_17 : decode cX11_isF 17 = .ok (.iconst 0, 1) := by decide +kernel
theorem dX11_isF_18 : decode cX11_isF 18 = .ok (.invokevirtual 184, 3) := by decide +kernel
theorem dX11_isF_21 : decode cX11_isF 21 = .ok (.ifCond .eq 7, 3) := by decide +kernel
theorem dX11_isF_24 : decode cX11_isF 24 = .ok (.iconst 1, 1) := by decide +kernel
theorem dX11_isF_25 : decode cX11_isF 25 = .ok (.goto 4, 3) := by decide +kernel
theorem dX11_isF_28 : decode cX11_isF 28 = .ok (.iconst 0, 1) := by decide +kernel
theorem dX11_isF_29 : decode cX11_isF 29 = .ok (.istore_n 1, 1) := by decide +kernel
theorem dX11_isF_30 : decode cX11_isF 30 = .ok (.goto 42, 3) := by decide +kernel
theorem dX11_isF_33 : decode cX11_isF 33 = .ok (.aload_n 0, 1) := by decide +kernel
theorem dX11_isF_34 : decode cX11_isF 34 = .ok (.bipush 40, 2) := by decide +kernel
theorem dX11_isF_36 : decode cX11_isF 36 = .ok (.invokevirtual 190, 3) := by decide +kernel
theorem dX11_isF_39 : decode cX11_isF 39 = .ok (.ifCond .eq 28, 3) := by decide +kernel
theorem dX11_isF_42 : decode cX11_isF 42 = .ok (.aload_n 0, 1) := by decide +kernel
theorem dX11_isF_43 : decode cX11_isF 43 = .ok (.invokevirtual 196, 3) := by decide +kernel
theorem dX11_isF_46 : decode cX11_isF 46 = .ok (.ifCond .eq 16, 3) := by decide +kernel
theorem dX11_isF_49 : decode cX11_isF 49 = .ok (.aload_n 0, 1) := by decide +kernel
theorem dX11_isF_50 : decode cX11_isF 50 = .ok (.bipush 41, 2) := by decide +kernel
theorem dX11_isF_52 : decode cX11_isF 52 = .ok (.invokevirtual 168, 3) := by decide +kernel
theorem dX11_isF_55 : decode cX11_isF 55 = .ok (.ifCond .eq 7, 3) := by decide +kernel
theorem dX11_isF_58 : decode cX11_isF 58 = .ok (.iconst 1, 1) := by decide +kernel
theorem dX11_isF_59 : decode cX11_isF 59 = .ok (.goto 4, 3) := by decide +kernel
theorem dX11_isF_62 : decode cX11_isF 62 = .ok (.iconst 0, 1) := by decide +kernel
theorem dX11_isF_63 : decode cX11_isF 63 = .ok (.istore_n 1, 1) := by decide +kernel
theorem dX11_isF_64 : decode cX11_isF 64 = .ok (.goto 8, 3) := by decide +kernel
theorem dX11_isF_67 : decode cX11_isF 67 = .ok (.aload_n 0, 1) := by decide +kernel
theorem dX11_isF_68 : decode cX11_isF 68 = .ok (.invokevirtual 199, 3) := by decide +kernel
theorem dX11_isF_71 : decode cX11_isF 71 = .ok (.ireturn, 1) := by decide +kernel
theorem dX11_isF_72 : decode cX11_isF 72 = .ok (.aload_n 0, 1) := by decide +kernel
theorem dX11_isF_73 : decode cX11_isF 73 = .ok (.dup, 1) := by decide +kernel
theorem dX11_isF_74 : decode cX11_isF 74 = .ok (.getfield 187, 3) := by decide +kernel
theorem dX11_isF_77 : decode cX11_isF 77 = .ok (.iconst 1, 1) := by decide +kernel
theorem dX11_isF_78 : decode cX11_isF 78 = .ok (.isub, 1) := by decide +kernel
theorem dX11_isF_79 : decode cX11_isF 79 = .ok (.putfield 187, 3) := by decide +kernel
theorem dX11_isF_82 : decode cX11_isF 82 = .ok (.iload_n 1, 1) := by decide +kernel
theorem dX11_isF_83 : decode cX11_isF 83 = .ok (.ireturn, 1) := by decide +kernel
theorem dX11_isT_0 : decode cX11_isT 0 = .ok (.aload_n 0, 1) := by decide +kernel
theorem dX11_isT_1 : decode cX11_isT 1 = .ok (.invokevirtual 193, 3) := by decide +kernel
theorem dX11_isT_4 : decode cX11_isT 4 = .ok (.ifCond .ne 5, 3) := by decide +kernel
theorem dX11_isT_7 : decode cX11_isT 7 = .ok (.iconst 0, 1) := by decide +kernel
theorem dX11_isT_8 : decode cX11_isT 8 = .ok (.ireturn, 1) := by decide +kernel
theorem dX11_isT_9 : decode cX11_isT 9 = .ok (.aload_n 0, 1) := by decide +kernel
theorem dX11_isT_10 : decode cX11_isT 10 = .ok (.bipush 38, 2) := by decide +kernel
theorem dX11_isT_12 : decode cX11_isT 12 = .ok (.invokevirtual 168, 3) := by decide +kernel
theorem dX11_isT_15 : decode cX11_isT 15 = .ok (.ifCond .eq 20, 3) := by decide +kernel
theorem dX11_isT_18 : decode cX11_isT 18 = .ok (.aload_n 0, 1) := by decide +kernel
theorem dX11_isT_19 : decode cX11_isT 19 = .ok (.invokevirtual 193, 3) := by decide +kernel
theorem dX11_isT_22 : decode cX11_isT 22 = .ok (.ifCond .eq 11, 3) := by decide +kernel
theorem dX11_isT_25 : decode cX11_isT 25 = .ok (.aload_n 0, 1) := by decide +kernel
theorem dX11_isT_26 : decode cX11_isT 26 = .ok (.iconst 1, 1) := by decide +kernel
theorem dX11_isT_27 : decode cX11_isT 27 = .ok (.invokevirtual 184, 3) := by decide +kernel
theorem dX11_isT_30 : decode cX11_isT 30 = .ok (.ifCond .ne (-21), 3) := by decide +kernel
theorem dX11_isT_33 : decode cX11_isT 33 = .ok (.iconst 0, 1) := by decide +kernel
theorem dX11_isT_34 : decode cX11_isT 34 = .ok (.ireturn, 1) := by decide +kernel
theorem dX11_isT_35 : decode cX11_isT 35 = .ok (.iconst 1, 1) := by decide +kernel
theorem dX11_isT_36 : decode cX11_isT 36 = .ok (.ireturn, 1) := by decide +kernel
theorem dX11_isE_0 : decode cX11_isE 0 = .ok (.aload_n 0, 1) := by decide +kernel
theorem dX11_isE_1 : decode cX11_isE 1 = .ok (.invokevirtual 202, 3) := by decide +kernel
theorem dX11_isE_4 : decode cX11_isE 4 = .ok (.ifCond .ne 5, 3) := by decide +kernel
theorem dX11_isE_7 : decode cX11_isE 7 = .ok (.iconst 0, 1) := by decide +kernel
theorem dX11_isE_8 : decode cX11_isE 8 = .ok (.ireturn, 1) := by decide +kernel
theorem dX11_isE_9 : decode cX11_isE 9 = .ok (.aload_n 0, 1) := by decide +kernel
theorem dX11_isE_10 : decode cX11_isE 10 = .ok (.bipush 124, 2) := by decide +kernel
theorem dX11_isE_12 : decode cX11_isE 12 = .ok (.invokevirtual 168, 3) := by decide +kernel
theorem dX11_isE_15 : decode cX11_isE 15 = .ok (.ifCond .eq 20, 3) := by decide +kernel
theorem dX11_isE_18 : decode cX11_isE 18 = .ok (.aload_n 0, 1) := by decide +kernel
theorem dX11_isE_19 : decode cX11_isE 19 = .ok (.invokevirtual 202, 3) := by decide +kernel
theorem dX11_isE_22 : decode cX11_isE 22 = .ok (.ifCond .eq 11, 3) := by decide +kernel
theorem dX11_isE_25 : decode cX11_isE 25 = .ok (.aload_n 0, 1) := by decide +kernel
theorem dX11_isE_26 : decode cX11_isE 26 = .ok (.iconst 2, 1) := by decide +kernel
theorem dX11_isE_27 : decode cX11_isE 27 = .ok (.invokevirtual 184, 3) := by decide +kernel
theorem dX11_isE_30 : decode cX11_isE 30 = .ok (.ifCond .ne (-21), 3) := by decide +kernel
theorem dX11_isE_33 : decode cX11_isE 33 = .ok (.iconst 0, 1) := by decide +kernel
theorem dX11_isE_34 : decode cX11_isE 34 = .ok (.ireturn, 1) := by decide +kernel
theorem dX11_isE_35 : decode cX11_isE 35 = .ok (.iconst 1, 1) := by decide +kernel
theorem dX11_isE_36 : decode cX11_isE 36 = .ok (.ireturn, 1) := by decide +kernel
theorem dX11_isClause_0 : decode cX11_isClause 0 = .ok (.iconst (-1), 1) := by decide +kernel
theorem dX11_isClause_1 : decode cX11_isClause 1 = .ok (.istore_n 2, 1) := by decide +kernel
theorem dX11_isClause_2 : decode cX11_isClause 2 = .ok (.aload_n 0, 1) := by decide +kernel
theorem dX11_isClause_3 : decode cX11_isClause 3 = .ok (.getfield 146, 3) := by decide +kernel
theorem dX11_isClause_6 : decode cX11_isClause 6 = .ok (.aload_n 0, 1) := by decide +kernel
theorem dX11_isClause_7 : decode cX11_isClause 7 = .ok (.getfield 143, 3) := by decide +kernel
theorem dX11_isClause_10 : decode cX11_isClause 10 = .ok (.if_icmp .ge 59, 3) := by decide +kernel
theorem dX11_isClause_13 : decode cX11_isClause 13 = .ok (.aload_n 0, 1) := by decide +kernel
theorem dX11_isClause_14 : decode cX11_isClause 14 = .ok (.getfield 36, 3) := by decide +kernel
theorem dX11_isClause_17 : decode cX11_isClause 17 = .ok (.aload_n 0, 1) := by decide +kernel
theorem dX11_isClause_18 : decode cX11_isClause 18 = .ok (.getfield 146, 3) := by decide +kernel
theorem dX11_isClause_21 : decode cX11_isClause 21 = .ok (.iaload, 1) := by decide +kernel
theorem dX11_isClause_22 : decode cX11_isClause 22 = .ok (.bipush 102, 2) := by decide +kernel
theorem dX11_isClause_24 : decode cX11_isClause 24 = .ok (.if_icmp .ne 7, 3) := by decide +kernel
theorem dX11_isClause_27 : decode cX11_isClause 27 = .ok (.iconst 0, 1) := by decide +kernel
theorem dX11_isClause_28 : decode cX11_isClause 28 = .ok (.goto 40, 3) := by decide +kernel
theorem dX11_isClause_31 : decode cX11_isClause 31 = .ok (.aload_n 0, 1) := by decide +kernel
theorem dX11_isClause_32 : decode cX11_isClause 32 = .ok (.getfield 36, 3) := by decide +kernel
theorem dX11_isClause_35 : decode cX11_isClause 35 = .ok (.aload_n 0, 1) := by decide +kernel
theorem dX11_isClause_36 : decode cX11_isClause 36 = .ok (.getfield 146, 3) := by decide +kernel
theorem dX11_isClause_39 : decode cX11_isClause 39 = .ok (.iaload, 1) := by decide +kernel
theorem dX11_isClause_40 : decode cX11_isClause 40 = .ok (.bipush 108, 2) := by decide +kernel
theorem dX11_isClause_42 : decode cX11_isClause 42 = .ok (.if_icmp .ne 7, 3) := by decide +kernel
theorem dX11_isClause_45 : decode cX11_isClause 45 = .ok (.iconst 1, 1) := by decide +kernel
theorem dX11_isClause_46 : decode cX11_isClause 46 = .ok (.goto 22, 3) := by decide +kernel
theorem dX11_isClause_49 : decode cX11_isClause 49 = .ok (.aload_n 0, 1) := by decide +kernel
theorem dX11_isClause_50 : decode cX11_isClause 50 = .ok (.getfield 36, 3) := by decide +kernel
theorem dX11_isClause_53 : decode cX11_isClause 53 = .ok (.aload_n 0, 1) := by decide +kernel
theorem dX11_isClause_54 : decode cX11_isClause 54 = .ok (.getfield 146, 3) := by decide +kernel
theorem dX11_isClause_57 : decode cX11_isClause 57 = .ok (.iaload, 1) := by decide +kernel
theorem dX11_isClause_58 : decode cX11_isClause 58 = .ok (.bipush 107, 2) := by decide +kernel
theorem dX11_isClause_60 : decode cX11_isClause 60 = .ok (.if_icmp .ne 7, 3) := by decide +kernel
theorem dX11_isClause_63 : decode cX11_isClause 63 = .ok (.iconst 2, 1) := by decide +kernel
theorem dX11_isClause_64 : decode cX11_isClause 64 = .ok (.goto 4, 3) := by decide +kernel
theorem dX11_isClause_67 : decode cX11_isClause 67 = .ok (.iconst (-1), 1) := by decide +kernel
theorem dX11_isClause_68 : decode cX11_isClause 68 = .ok (.istore_n 2, 1) := by decide +kernel
theorem dX11_isClause_69 : decode cX11_isClause 69 = .ok (.iload_n 2, 1) := by decide +kernel
theorem dX11_isClause_70 : decode cX11_isClause 70 = .ok (.ifCond .ne 12, 3) := by decide +kernel
theorem dX11_isClause_73 : decode cX11_isClause 73 = .ok (.aload_n 0, 1) := by decide +kernel
theorem dX11_isClause_74 : decode cX11_isClause 74 = .ok (.ldc 205, 2) := by decide +kernel
theorem dX11_isClause_76 : decode cX11_isClause 76 = .ok (.invokevirtual 207, 3) := by decide +kernel
theorem dX11_isClause_79 : decode cX11_isClause 79 = .ok (.goto 36, 3) := by decide +kernel
theorem dX11_isClause_82 : decode cX11_isClause 82 = .ok (.iload_n 2, 1) := by decide +kernel
theorem dX11_isClause_83 : decode cX11_isClause 83 = .ok (.iconst 1, 1) := by decide +kernel
theorem dX11_isClause_84 : decode cX11_isClause 84 = .ok (.if_icmp .ne 12, 3) := by decide +kernel
theorem dX11_isClause_87 : decode cX11_isClause 87 = .ok (.aload_n 0, 1) := by decide +kernel
theorem dX11_isClause_88 : decode cX11_isClause 88 = .ok (.ldc 211, 2) := by decide +kernel
theorem dX11_isClause_90 : decode cX11_isClause 90 = .ok (.invokevirtual 207, 3) := by decide +kernel
theorem dX11_isClause_93 : decode cX11_isClause 93 = .ok (.goto 22, 3) := by decide +kernel
theorem dX11_isClause_96 : decode cX11_isClause 96 = .ok (.iload_n 2, 1) := by decide +kernel
theorem dX11_isClause_97 : decode cX11_isClause 97 = .ok (.iconst 2, 1) := by decide +kernel
theorem dX11_isClause_98 : decode cX11_isClause 98 = .ok (.if_icmp .ne 16, 3) := by decide +kernel
theorem dX11_isClause_101 : decode cX11_isClause 101 = .ok (.aload_n 0, 1) := by decide +kernel
theorem dX11_isClause_102 : decode cX11_isClause 102 = .ok (.ldc 213, 2) := by decide +kernel
theorem dX11_isClause_104 : decode cX11_isClause 104 = .ok (.invokevirtual 207, 3) := by decide +kernel
theorem dX11_isClause_107 : decode cX11_isClause 107 = .ok (.ifCond .eq 7, 3) := by decide +kernel
theorem dX11_isClause_110 : decode cX11_isClause 110 = .ok (.iconst 1, 1) := by decide +kernel
theorem dX11_isClause_111 : decode cX11_isClause 111 = .ok (.goto 4, 3) := by decide +kernel
theorem dX11_isClause_114 : decode cX11_isClause 114 = .ok (.iconst 0, 1) := by decide +kernel
theorem dX11_isClause_115 : decode cX11_isClause 115 = .ok (.istore_n 3, 1) := by decide +kernel
theorem dX11_isClause_116 : decode cX11_isClause 116 = .ok (.iload_n 3, 1) := by decide +kernel
theorem dX11_isClause_117 : decode cX11_isClause 117 = .ok (.ifCond .eq 10, 3) := by decide +kernel
theorem dX11_isClause_120 : decode cX11_isClause 120 = .ok (.aload_n 0, 1) := by decide +kernel
theorem dX11_isClause_121 : decode cX11_isClause 121 = .ok (.invokevirtual 181, 3) := by decide +kernel
theorem dX11_isClause_124 : decode cX11_isClause 124 = .ok (.ifCond .ne 5, 3) := by decide +kernel
theorem dX11_isClause_127 : decode cX11_isClause 127 = .ok (.iconst 0, 1) := by decide +kernel
theorem dX11_isClause_128 : decode cX11_isClause 128 = .ok (.ireturn, 1) := by decide +kernel
theorem dX11_isClause_129 : decode cX11_isClause 129 = .ok (.aload_n 0, 1) := by decide +kernel
theorem dX11_isClause_130 : decode cX11_isClause 130 = .ok (.getfield 42, 3) := by decide +kernel
theorem dX11_isClause_133 : decode cX11_isClause 133 = .ok (.iload_n 1, 1) := by decide +kernel
theorem dX11_isClause_134 : decode cX11_isClause 134 = .ok (.iload_n 2, 1) := by decide +kernel
theorem dX11_isClause_135 : decode cX11_isClause 135 = .ok (.iastore, 1) := by decide +kernel
theorem dX11_isClause_136 : decode cX11_isClause 136 = .ok (.aload_n 0, 1) := by decide +kernel
theorem dX11_isClause_137 : decode cX11_isClause 137 = .ok (.getfield 45, 3) := by decide +kernel
theorem dX11_isClause_140 : decode cX11_isClause 140 = .ok (.iload_n 1, 1) := by decide +kernel
theorem dX11_isClause_141 : decode cX11_isClause 141 = .ok (.aload_n 0, 1) := by decide +kernel
theorem dX11_isClause_142 : decode cX11_isClause 142 = .ok (.getfield 149, 3) := by decide +kernel
theorem dX11_isClause_145 : decode cX11_isClause 145 = .ok (.iastore, 1) := by decide +kernel
theorem dX11_isClause_146 : decode cX11_isClause 146 = .ok (.aload_n 0, 1) := by decide +kernel
theorem dX11_isClause_147 : decode cX11_isClause 147 = .ok (.getfield 48, 3) := by decide +kernel
theorem dX11_isClause_150 : decode cX11_isClause 150 = .ok (.iload_n 1, 1) := by decide +kernel
theorem dX11_isClause_151 : decode cX11_isClause 151 = .ok (.aload_n 0, 1) := by decide +kernel
theorem dX11_isClause_152 : decode cX11_isClause 152 = .ok (.getfield 171, 3) := by decide +kernel
theorem dX11_isClause_155 : decode cX11_isClause 155 = .ok (.iastore, 1) := by decide +kernel
theorem dX11_isClause_156 : decode cX11_isClause 156 = .ok (.aload_n 0, 1) := by decide +kernel
theorem dX11_isClause_157 : decode cX11_isClause 157 = .ok (.iconst 0, 1) := by decide +kernel
theorem dX11_isClause_158 : decode cX11_isClause 158 = .ok (.putfield 187, 3) := by decide +kernel
theorem dX11_isClause_161 : decode cX11_isClause 161 = .ok (.iload_n 2, 1) := by decide +kernel
theorem dX11_isClause_162 : decode cX11_isClause 162 = .ok (.iconst 2, 1) := by decide +kernel
theorem dX11_isClause_163 : decode cX11_isClause 163 = .ok (.if_icmp .ge 21, 3) := by decide +kernel
theorem dX11_isClause_166 : decode cX11_isClause 166 = .ok (.aload_n 0, 1) := by decide +kernel
theorem dX11_isClause_167 : decode cX11_isClause 167 = .ok (.bipush 32, 2) := by decide +kernel
theorem dX11_isClause_169 : decode cX11_isClause 169 = .ok (.invokevirtual 168, 3) := by decide +kernel
theorem dX11_isClause_172 : decode cX11_isClause 172 = .ok (.ifCond .eq 10, 3) := by decide +kernel
theorem dX11_isClause_175 : decode cX11_isClause 175 = .ok (.aload_n 0, 1) := by decide +kernel
theorem dX11_isClause_176 : decode cX11_isClause 176 = .ok (.invokevirtual 196, 3) := by decide +kernel
theorem dX11_isClause_179 : decode cX11_isClause 179 = .ok (.ifCond .ne 5, 3) := by decide +kernel
theorem dX11_isClause_182 : decode cX11_isClause 182 = .ok (.iconst 0, 1) := by decide +kernel
theorem dX11_isClause_183 : decode cX11_isClause 183 = .ok (.ireturn, 1) := by decide +kernel
theorem dX11_isClause_184 : decode cX11_isClause 184 = .ok (.aload_n 0, 1) := by decide +kernel
theorem dX11_isClause_185 : decode cX11_isClause 185 = .ok (.getfield 51, 3) := by decide +kernel
theorem dX11_isClause_188 : decode cX11_isClause 188 = .ok (.iload_n 1, 1) := by decide +kernel
theorem dX11_isClause_189 : decode cX11_isClause 189 = .ok (.aload_n 0, 1) := by decide +kernel
theorem dX11_isClause_190 : decode cX11_isClause 190 = .ok (.getfield 171, 3) := by decide +kernel
theorem dX11_isClause_193 : decode cX11_isClause 193 = .ok (.aload_n 0, 1) := by decide +kernel
theorem dX11_isClause_194 : decode cX11_isClause 194 = .ok (.getfield 48, 3) := by decide +kernel
theorem dX11_isClause_197 : decode cX11_isClause 197 = .ok (.iload_n 1, 1) := by decide +kernel
theorem dX11_isClause_198 : decode cX11_isClause 198 = .ok (.iaload, 1) := by decide +kernel
theorem dX11_isClause_199 : decode cX11_isClause 199 = .ok (.isub, 1) := by decide +kernel
theorem dX11_isClause_200 : decode cX11_isClause 200 = .ok (.iastore, 1) := by decide +kernel
theorem dX11_isClause_201 : decode cX11_isClause 201 = .ok (.iconst 1, 1) := by decide +kernel
theorem dX11_isClause_202 : decode cX11_isClause 202 = .ok (.ireturn, 1) := by decide +kernel
theorem dX11_house_0 : decode cX11_house 0 = .ok (.aload_n 0, 1) := by decide +kernel
theorem dX11_house_1 : decode cX11_house 1 = .ok (.getfield 215, 3) := by decide +kernel
theorem dX11_house_4 : decode cX11_house 4 = .ok (.bipush 6, 2) := by decide +kernel
theorem dX11_house_6 : decode cX11_house 6 = .ok (.if_icmp .ne 6, 3) := by decide +kernel
theorem dX11_house_9 : decode cX11_house 9 = .ok (.bipush (-4), 2) := by decide +kernel
theorem dX11_house_11 : decode cX11_house 11 = .ok (.ireturn, 1) := by decide +kernel
theorem dX11_house_12 : decode cX11_house 12 = .ok (.aload_n 0, 1) := by decide +kernel
theorem dX11_house_13 : decode cX11_house 13 = .ok (.getfield 171, 3) := by decide +kernel
theorem dX11_house_16 : decode cX11_house 16 = .ok (.istore_n 1, 1) := by decide +kernel
theorem dX11_house_17 : decode cX11_house 17 = .ok (.aload_n 0, 1) := by decide +kernel
theorem dX11_house_18 : decode cX11_house 18 = .ok (.iconst 0, 1) := by decide +kernel
theorem dX11_house_19 : decode cX11_house 19 = .ok (.putfield 146, 3) := by decide +kernel
theorem dX11_house_22 : decode cX11_house 22 = .ok (.iconst 0, 1) := by decide +kernel
theorem dX11_house_23 : decode cX11_house 23 = .ok (.istore_n 2, 1) := by decide +kernel
theorem dX11_house_24 : decode cX11_house 24 = .ok (.iconst 1, 1) := by decide +kernel
theorem dX11_house_25 : decode cX11_house 25 = .ok (.istore_n 3, 1) := by decide +kernel
theorem dX11_house_26 : decode cX11_house 26 = .ok (.iconst 0, 1) := by decide +kernel
theorem dX11_house_27 : decode cX11_house 27 = .ok (.istore 4, 2) := by decide +kernel
theorem dX11_house_29 : decode cX11_house 29 = .ok (.iload_n 3, 1) := by decide +kernel
theorem dX11_house_30 : decode cX11_house 30 = .ok (.ifCond .eq 93, 3) := by decide +kernel
theorem dX11_house_33 : decode cX11_house 33 = .ok (.iload 4, 2) := by decide +kernel
theorem dX11_house_35 : decode cX11_house 35 = .ok (.ifCond .ne 88, 3) := by decide +kernel
theorem dX11_house_38 : decode cX11_house 38 = .ok (.iload_n 2, 1) := by decide +kernel
theorem dX11_house_39 : decode cX11_house 39 = .ok (.bipush 10, 2) := by decide +kernel
theorem dX11_house_41 : decode cX11_house 41 = .ok (.if_icmp .ge 23, 3) := by decide +kernel
theorem dX11_house_44 : decode cX11_house 44 = .ok (.aload_n 0, 1) := by decide +kernel
theorem dX11_house_45 : decode cX11_house 45 = .ok (.bipush 10, 2) := by decide +kernel
theorem dX11_house_47 : decode cX11_house 47 = .ok (.aload_n 0, 1) := by decide +kernel
theorem dX11_house_48 : decode cX11_house 48 = .ok (.getfield 215, 3) := by decide +kernel
theorem dX11_house_51 : decode cX11_house 51 = .ok (.imul, 1) := by decide +kernel
theorem dX11_house_52 : decode cX11_house 52 = .ok (.iload_n 2, 1) := by decide +kernel
theorem dX11_house_53 : decode cX11_house 53 = .ok (.iadd, 1) := by decide +kernel
theorem dX11_house_54 : decode cX11_house 54 = .ok (.invokevirtual 218, 3) := by decide +kernel
theorem dX11_house_57 : decode cX11_house 57 = .ok (.ifCond .eq 7, 3) := by decide +kernel
theorem dX11_house_60 : decode cX11_house 60 = .ok (.iconst 1, 1) := by decide +kernel
theorem dX11_house_61 : decode cX11_house 61 = .ok (.goto 4, 3) := by decide +kernel
theorem dX11_house_64 : decode cX11_house 64 = .ok (.iconst 0, 1) := by decide +kernel
theorem dX11_house_65 : decode cX11_house 65 = .ok (.istore_n 3, 1) := by decide +kernel
theorem dX11_house_66 : decode cX11_house 66 = .ok (.iload_n 3, 1) := by decide +kernel
theorem dX11_house_67 : decode cX11_house 67 = .ok (.ifCond .ne 6, 3) := by decide +kernel
theorem dX11_house_70 : decode cX11_house 70 = .ok (.goto (-41), 3) := by decide +kernel
theorem dX11_house_73 : decode cX11_house 73 = .ok (.iinc 2 1, 3) := by decide +kernel
theorem dX11_house_76 : decode cX11_house 76 = .ok (.aload_n 0, 1) := by decide +kernel
theorem dX11_house_77 : decode cX11_house 77 = .ok (.getfield 146, 3) := by decide +kernel
theorem dX11_house_80 : decode cX11_house 80 = .ok (.aload_n 0, 1) := by decide +kernel
theorem dX11_house_81 : decode cX11_house 81 = .ok (.getfield 143, 3) := by decide +kernel
theorem dX11_house_84 : decode cX11_house 84 = .ok (.if_icmp .ne 7, 3) := by decide +kernel
theorem dX11_house_87 : decode cX11_house 87 = .ok (.iconst 1, 1) := by decide +kernel
theorem dX11_house_88 : decode cX11_house 88 = .ok (.goto 4, 3) := by decide +kernel
theorem dX11_house_91 : decode cX11_house 91 = .ok (.iconst 0, 1) := by decide +kernel
theorem dX11_house_92 : decode cX11_house 92 = .ok (.istore 4, 2) := by decide +kernel
theorem dX11_house_94 : decode cX11_house 94 = .ok (.iload 4, 2) := by decide +kernel
theorem dX11_house_96 : decode cX11_house 96 = .ok (.ifCond .ne 18, 3) := by decide +kernel
theorem dX11_house_99 : decode cX11_house 99 = .ok (.iload_n 2, 1) := by decide +kernel
theorem dX11_house_100 : decode cX11_house 100 = .ok (.bipush 10, 2) := by decide +kernel
theorem dX11_house_102 : decode cX11_house 102 = .ok (.if_icmp .ge 16, 3) := by decide +kernel
theorem dX11_house_105 : decode cX11_house 105 = .ok (.aload_n 0, 1) := by decide +kernel
theorem dX11_house_106 : decode cX11_house 106 = .ok (.bipush 59, 2) := by decide +kernel
theorem dX11_house_108 : decode cX11_house 108 = .ok (.invokevirtual 168, 3) := by decide +kernel
theorem dX11_house_111 : decode cX11_house 111 = .ok (.ifCond .eq 7, 3) := by decide +kernel
theorem dX11_house_114 : decode cX11_house 114 = .ok (.iconst 1, 1) := by decide +kernel
theorem dX11_house_115 : decode cX11_house 115 = .ok (.goto 4, 3) := by decide +kernel
theorem dX11_house_118 : decode cX11_house 118 = .ok (.iconst 0, 1) := by decide +kernel
theorem dX11_house_119 : decode cX11_house 119 = .ok (.istore_n 3, 1) := by decide +kernel
theorem dX11_house_120 : decode cX11_house 120 = .ok (.goto (-91), 3) := by decide +kernel
theorem dX11_house_123 : decode cX11_house 123 = .ok (.aload_n 0, 1) := by decide +kernel
theorem dX11_house_124 : decode cX11_house 124 = .ok (.iconst 0, 1) := by decide +kernel
theorem dX11_house_125 : decode cX11_house 125 = .ok (.putfield 143, 3) := by decide +kernel
theorem dX11_house_128 : decode cX11_house 128 = .ok (.iload 4, 2) := by decide +kernel
theorem dX11_house_130 : decode cX11_house 130 = .ok (.ifCond .ne 16, 3) := by decide +kernel
theorem dX11_house_133 : decode cX11_house 133 = .ok (.aload_n 0, 1) := by decide +kernel
theorem dX11_house_134 : decode cX11_house 134 = .ok (.iload_n 1, 1) := by decide +kernel
theorem dX11_house_135 : decode cX11_house 135 = .ok (.putfield 171, 3) := by decide +kernel
theorem dX11_house_138 : decode cX11_house 138 = .ok (.bipush (-10), 2) := by decide +kernel
theorem dX11_house_140 : decode cX11_house 140 = .ok (.aload_n 0, 1) := by decide +kernel
theorem dX11_house_141 : decode cX11_house 141 = .ok (.getfield 146, 3) := by decide +kernel
theorem dX11_house_144 : decode cX11_house 144 = .ok (.isub, 1) := by decide +kernel
theorem dX11_house_145 : decode cX11_house 145 = .ok (.ireturn, 1) := by decide +kernel
theorem dX11_house_146 : decode cX11_house 146 = .ok (.aload_n 0, 1) := by decide +kernel
theorem dX11_house_147 : decode cX11_house 147 = .ok (.getfield 39, 3) := by decide +kernel
theorem dX11_house_150 : decode cX11_house 150 = .ok (.aload_n 0, 1) := by decide +kernel
theorem dX11_house_151 : decode cX11_house 151 = .ok (.getfield 215, 3) := by decide +kernel
theorem dX11_house_154 : decode cX11_house 154 = .ok (.iload_n 2, 1) := by decide +kernel
theorem dX11_house_155 : decode cX11_house 155 = .ok (.iastore, 1) := by decide +kernel
theorem dX11_house_156 : decode cX11_house 156 = .ok (.aload_n 0, 1) := by decide +kernel
theorem dX11_house_157 : decode cX11_house 157 = .ok (.aload_n 0, 1) := by decide +kernel
theorem dX11_house_158 : decode cX11_house 158 = .ok (.getfield 215, 3) := by decide +kernel
theorem dX11_house_161 : decode cX11_house 161 = .ok (.putfield 107, 3) := by decide +kernel
theorem dX11_house_164 : decode cX11_house 164 = .ok (.aload_n 0, 1) := by decide +kernel
theorem dX11_house_165 : decode cX11_house 165 = .ok (.dup, 1) := by decide +kernel
theorem dX11_house_166 : decode cX11_house 166 = .ok (.getfield 215, 3) := by decide +kernel
theorem dX11_house_169 : decode cX11_house 169 = .ok (.dup_x1, 1) := by decide +kernel
theorem dX11_house_170 : decode cX11_house 170 = .ok (.iconst 1, 1) := by decide +kernel
theorem dX11_house_171 : decode cX11_house 171 = .ok (.iadd, 1) := by decide +kernel
theorem dX11_house_172 : decode cX11_house 172 = .ok (.putfield 215, 3) := by decide +kernel
theorem dX11_house_175 : decode cX11_house 175 = .ok (.ireturn, 1) := by decide +kernel
theorem dX11_letterOf_0 : decode cX11_letterOf 0 = .ok (.iload_n 3, 1) := by decide +kernel
theorem dX11_letterOf_1 : decode cX11_letterOf 1 = .ok (.tableswitch 60 0 4 #[35, 37, 44, 51, 53], 35) := by decide +kernel
theorem dX11_letterOf_36 : decode cX11_letterOf 36 = .ok (.iload_n 1, 1) := by decide +kernel
theorem dX11_letterOf_37 : decode cX11_letterOf 37 = .ok (.ireturn, 1) := by decide +kernel
theorem dX11_letterOf_38 : decode cX11_letterOf 38 = .ok (.aload_n 0, 1) := by decide +kernel
theorem dX11_letterOf_39 : decode cX11_letterOf 39 = .ok (.getfield 18, 3) := by decide +kernel
theorem dX11_letterOf_42 : decode cX11_letterOf 42 = .ok (.iload_n 1, 1) := by decide +kernel
theorem dX11_letterOf_43 : decode cX11_letterOf 43 = .ok (.iaload, 1) := by decide +kernel
theorem dX11_letterOf_44 : decode cX11_letterOf 44 = .ok (.ireturn, 1) := by decide +kernel
theorem dX11_letterOf_45 : decode cX11_letterOf 45 = .ok (.aload_n 0, 1) := by decide +kernel
theorem dX11_letterOf_46 : decode cX11_letterOf 46 = .ok (.getfield 21, 3) := by decide +kernel
theorem dX11_letterOf_49 : decode cX11_letterOf 49 = .ok (.iload_n 1, 1) := by decide +kernel
theorem dX11_letterOf_50 : decode cX11_letterOf 50 = .ok (.iaload, 1) := by decide +kernel
theorem dX11_letterOf_51 : decode cX11_letterOf 51 = .ok (.ireturn, 1) := by decide +kernel
theorem dX11_letterOf_52 : decode cX11_letterOf 52 = .ok (.iload_n 2, 1) := by decide +kernel
theorem dX11_letterOf_53 : decode cX11_letterOf 53 = .ok (.ireturn, 1) := by decide +kernel
theorem dX11_letterOf_54 : decode cX11_letterOf 54 = .ok (.aload_n 0, 1) := by decide +kernel
theorem dX11_letterOf_55 : decode cX11_letterOf 55 = .ok (.getfield 9, 3) := by decide +kernel
theorem dX11_letterOf_58 : decode cX11_letterOf 58 = .ok (.iload_n 2, 1) := by decide +kernel
theorem dX11_letterOf_59 : decode cX11_letterOf 59 = .ok (.iaload, 1) := by decide +kernel
theorem dX11_letterOf_60 : decode cX11_letterOf 60 = .ok (.ireturn, 1) := by decide +kernel
theorem dX11_letterOf_61 : decode cX11_letterOf 61 = .ok (.aload_n 0, 1) := by decide +kernel
theorem dX11_letterOf_62 : decode cX11_letterOf 62 = .ok (.getfield 221, 3) := by decide +kernel
theorem dX11_letterOf_65 : decode cX11_letterOf 65 = .ok (.bipush 10, 2) := by decide +kernel
theorem dX11_letterOf_67 : decode cX11_letterOf 67 = .ok (.irem, 1) := by decide +kernel
theorem dX11_letterOf_68 : decode cX11_letterOf 68 = .ok (.ireturn, 1) := by decide +kernel
theorem dX11_isTrue_0 : decode cX11_isTrue 0 = .ok (.iconst 0, 1) := by decide +kernel
theorem dX11_isTrue_1 : decode cX11_isTrue 1 = .ok (.istore 4, 2) := by decide +kernel
theorem dX11_isTrue_3 : decode cX11_isTrue 3 = .ok (.aload_n 0, 1) := by decide +kernel
theorem dX11_isTrue_4 : decode cX11_isTrue 4 = .ok (.getfield 48, 3) := by decide +kernel
theorem dX11_isTrue_7 : decode cX11_isTrue 7 = .ok (.iload_n 3, 1) := by decide +kernel
theorem dX11_isTrue_8 : decode cX11_isTrue 8 = .ok (.iaload, 1) := by decide +kernel
theorem dX11_isTrue_9 : decode cX11_isTrue 9 = .ok (.istore 5, 2) := by decide +kernel
theorem dX11_isTrue_11 : decode cX11_isTrue 11 = .ok (.iload 5, 2) := by decide +kernel
theorem dX11_isTrue_13 : decode cX11_isTrue 13 = .ok (.aload_n 0, 1) := by decide +kernel
theorem dX11_isTrue_14 : decode cX11_isTrue 14 = .ok (.getfield 48, 3) := by decide +kernel
theorem dX11_isTrue_17 : decode cX11_isTrue 17 = .ok (.iload_n 3, 1) := by decide +kernel
theorem dX11_isTrue_18 : decode cX11_isTrue 18 = .ok (.iaload, 1) := by decide +kernel
theorem dX11_isTrue_19 : decode cX11_isTrue 19 = .ok (.aload_n 0, 1) := by decide +kernel
theorem dX11_isTrue_20 : decode cX11_isTrue 20 = .ok (.getfield 51, 3) := by decide +kernel
theorem dX11_isTrue_23 : decode cX11_isTrue 23 = .ok (.iload_n 3, 1) := by decide +kernel
theorem dX11_isTrue_24 : decode cX11_isTrue 24 = .ok (.iaload, 1) := by decide +kernel
theorem dX11_isTrue_25 : decode cX11_isTrue 25 = .ok (.iadd, 1) := by decide +kernel
theorem dX11_isTrue_26 : decode cX11_isTrue 26 = .ok (.if_icmp .ge 235, 3) := by decide +kernel
theorem dX11_isTrue_29 : decode cX11_isTrue 29 = .ok (.aload_n 0, 1) := by decide +kernel
theorem dX11_isTrue_30 : decode cX11_isTrue 30 = .ok (.getfield 54, 3) := by decide +kernel
theorem dX11_isTrue_33 : decode cX11_isTrue 33 = .ok (.iload 5, 2) := by decide +kernel
theorem dX11_isTrue_35 : decode cX11_isTrue 35 = .ok (.iaload, 1) := by decide +kernel
theorem dX11_isTrue_36 : decode cX11_isTrue 36 = .ok (.istore 6, 2) := by decide +kernel
theorem dX11_isTrue_38 : decode cX11_isTrue 38 = .ok (.iload 6, 2) := by decide +kernel
theorem dX11_isTrue_40 : decode cX11_isTrue 40 = .ok (.iconst 3, 1) := by decide +kernel
theorem dX11_isTrue_41 : decode cX11_isTrue 41 = .ok (.if_icmp .lt 105, 3) := by decide +kernel
theorem dX11_isTrue_44 : decode cX11_isTrue 44 = .ok (.aload_n 0, 1) := by decide +kernel
theorem dX11_isTrue_45 : decode cX11_isTrue 45 = .ok (.iload_n 1, 1) := by decide +kernel
theorem dX11_isTrue_46 : decode cX11_isTrue 46 = .ok (.iload_n 2, 1) := by decide +kernel
theorem dX11_isTrue_47 : decode cX11_isTrue 47 = .ok (.iload 6, 2) := by decide +kernel
theorem dX11_isTrue_49 : decode cX11_isTrue 49 = .ok (.iconst 3, 1) := by decide +kernel
theorem dX11_isTrue_50 : decode cX11_isTrue 50 = .ok (.isub, 1) := by decide +kernel
theorem dX11_isTrue_51 : decode cX11_isTrue 51 = .ok (.sipush 300, 3) := by decide +kernel
theorem dX11_isTrue_54 : decode cX11_isTrue 54 = .ok (.idiv, 1) := by decide +kernel
theorem dX11_isTrue_55 : decode cX11_isTrue 55 = .ok (.invokevirtual 224, 3) := by decide +kernel
theorem dX11_isTrue_58 : decode cX11_isTrue 58 = .ok (.istore 7, 2) := by decide +kernel
theorem dX11_isTrue_60 : decode cX11_isTrue 60 = .ok (.iload 6, 2) := by decide +kernel
theorem dX11_isTrue_62 : decode cX11_isTrue 62 = .ok (.iconst 3, 1) := by decide +kernel
theorem dX11_isTrue_63 : decode cX11_isTrue 63 = .ok (.isub, 1) := by decide +kernel
theorem dX11_isTrue_64 : decode cX11_isTrue 64 = .ok (.bipush 100, 2) := by decide +kernel
theorem dX11_isTrue_66 : decode cX11_isTrue 66 = .ok (.irem, 1) := by decide +kernel
theorem dX11_isTrue_67 : decode cX11_isTrue 67 = .ok (.istore 8, 2) := by decide +kernel
theorem dX11_isTrue_69 : decode cX11_isTrue 69 = .ok (.iload 6, 2) := by decide +kernel
theorem dX11_isTrue_71 : decode cX11_isTrue 71 = .ok (.iconst 3, 1) := by decide +kernel
theorem dX11_isTrue_72 : decode cX11_isTrue 72 = .ok (.isub, 1) := by decide +kernel
theorem dX11_isTrue_73 : decode cX11_isTrue 73 = .ok (.bipush 100, 2) := by decide +kernel
theorem dX11_isTrue_75 : decode cX11_isTrue 75 = .ok (.idiv, 1) := by decide +kernel
theorem dX11_isTrue_76 : decode cX11_isTrue 76 = .ok (.iconst 3, 1) := by decide +kernel
theorem dX11_isTrue_77 : decode cX11_isTrue 77 = .ok (.irem, 1) := by decide +kernel
theorem dX11_isTrue_78 : decode cX11_isTrue 78 = .ok (.istore 9, 2) := by decide +kernel
theorem dX11_isTrue_80 : decode cX11_isTrue 80 = .ok (.aload_n 0, 1) := by decide +kernel
theorem dX11_isTrue_81 : decode cX11_isTrue 81 = .ok (.getfield 57, 3) := by decide +kernel
theorem dX11_isTrue_84 : decode cX11_isTrue 84 = .ok (.iload 4, 2) := by decide +kernel
theorem dX11_isTrue_86 : decode cX11_isTrue 86 = .ok (.iinc 4 1, 3) := by decide +kernel
theorem dX11_isTrue_89 : decode cX11_isTrue 89 = .ok (.iload 9, 2) := by decide +kernel
theorem dX11_isTrue_91 : decode cX11_isTrue 91 = .ok (.ifCond .ne 18, 3) := by decide +kernel
theorem dX11_isTrue_94 : decode cX11_isTrue 94 = .ok (.iload 7, 2) := by decide +kernel
theorem dX11_isTrue_96 : decode cX11_isTrue 96 = .ok (.iload 8, 2) := by decide +kernel
theorem dX11_isTrue_98 : decode cX11_isTrue 98 = .ok (.if_icmp .ge 7, 3) := by decide +kernel
theorem dX11_isTrue_101 : decode cX11_isTrue 101 = .ok (.iconst 1, 1) := by decide +kernel
theorem dX11_isTrue_102 : decode cX11_isTrue 102 = .ok (.goto 40, 3) := by decide +kernel
theorem dX11_isTrue_105 : decode cX11_isTrue 105 = .ok (.iconst 0, 1) := by decide +kernel
theorem dX11_isTrue_106 : decode cX11_isTrue 106 = .ok (.goto 36, 3) := by decide +kernel
theorem dX11_isTrue_109 : decode cX11_isTrue 109 = .ok (.iload 9, 2) := by decide +kernel
theorem dX11_isTrue_111 : decode cX11_isTrue 111 = .ok (.iconst 1, 1) := by decide +kernel
theorem dX11_isTrue_112 : decode cX11_isTrue 112 = .ok (.if_icmp .ne 18, 3) := by decide +kernel
theorem dX11_isTrue_115 : decode cX11_isTrue 115 = .ok (.iload 7, 2) := by decide +kernel
theorem dX11_isTrue_117 : decode cX11_isTrue 117 = .ok (.iload 8, 2) := by decide +kernel
theorem dX11_isTrue_119 : decode cX11_isTrue 119 = .ok (.if_icmp .ne 7, 3) := by decide +kernel
theorem dX11_isTrue_122 : decode cX11_isTrue 122 = .ok (.iconst 1, 1) := by decide +kernel
theorem dX11_isTrue_123 : decode cX11_isTrue 123 = .ok (.goto 19, 3) := by decide +kernel
theorem dX11_isTrue_126 : decode cX11_isTrue 126 = .ok (.iconst 0, 1) := by decide +kernel
theorem dX11_isTrue_127 : decode cX11_isTrue 127 = .ok (.goto 15, 3) := by decide +kernel
theorem dX11_isTrue_130 : decode cX11_isTrue 130 = .ok (.iload 7, 2) := by decide +kernel
theorem dX11_isTrue_132 : decode cX11_isTrue 132 = .ok (.iload 8, 2) := by decide +kernel
theorem dX11_isTrue_134 : decode cX11_isTrue 134 = .ok (.if_icmp .le 7, 3) := by decide +kernel
theorem dX11_isTrue_137 : decode cX11_isTrue 137 = .ok (.iconst 1, 1) := by decide +kernel
theorem dX11_isTrue_138 : decode cX11_isTrue 138 = .ok (.goto 4, 3) := by decide +kernel
theorem dX11_isTrue_141 : decode cX11_isTrue 141 = .ok (.iconst 0, 1) := by decide +kernel
theorem dX11_isTrue_142 : decode cX11_isTrue 142 = .ok (.bastore, 1) := by decide +kernel
theorem dX11_isTrue_143 : decode cX11_isTrue 143 = .ok (.goto 112, 3) := by decide +kernel
theorem dX11_isTrue_146 : decode cX11_isTrue 146 = .ok (.iload 6, 2) := by decide +kernel
theorem dX11_isTrue_148 : decode cX11_isTrue 148 = .ok (.ifCond .ne 32, 3) := by decide +kernel
theorem dX11_isTrue_151 : decode cX11_isTrue 151 = .ok (.aload_n 0, 1) := by decide +kernel
theorem dX11_isTrue_152 : decode cX11_isTrue 152 = .ok (.getfield 57, 3) := by decide +kernel
theorem dX11_isTrue_155 : decode cX11_isTrue 155 = .ok (.iload 4, 2) := by decide +kernel
theorem dX11_isTrue_157 : decode cX11_isTrue 157 = .ok (.iconst 1, 1) := by decide +kernel
theorem dX11_isTrue_158 : decode cX11_isTrue 158 = .ok (.isub, 1) := by decide +kernel
theorem dX11_isTrue_159 : decode cX11_isTrue 159 = .ok (.aload_n 0, 1) := by decide +kernel
theorem dX11_isTrue_160 : decode cX11_isTrue 160 = .ok (.getfield 57, 3) := by decide +kernel
theorem dX11_isTrue_163 : decode cX11_isTrue 163 = .ok (.iload 4, 2) := by decide +kernel
theorem dX11_isTrue_165 : decode cX11_isTrue 165 = .ok (.iconst 1, 1) := by decide +kernel
theorem dX11_isTrue_166 : decode cX11_isTrue 166 = .ok (.isub, 1) := by decide +kernel
theorem dX11_isTrue_167 : decode cX11_isTrue 167 = .ok (.baload, 1) := by decide +kernel
theorem dX11_isTrue_168 : decode cX11_isTrue 168 = .ok (.ifCond .ne 7, 3) := by decide +kernel
theorem dX11_isTrue_171 : decode cX11_isTrue 171 = .ok (.iconst 1, 1) := by decide +kernel
theorem dX11_isTrue_172 : decode cX11_isTrue 172 = .ok (.goto 4, 3) := by decide +kernel
theorem dX11_isTrue_175 : decode cX11_isTrue 175 = .ok (.iconst 0, 1) := by decide +kernel
theorem dX11_isTrue_176 : decode cX11_isTrue 176 = .ok (.bastore, 1) := by decide +kernel
theorem dX11_isTrue_177 : decode cX11_isTrue 177 = .ok (.goto 78, 3) := by decide +kernel
theorem dX11_isTrue_180 : decode cX11_isTrue 180 = .ok (.iinc 4 (-1), 3) := by decide +kernel
theorem dX11_isTrue_183 : decode cX11_isTrue 183 = .ok (.aload_n 0, 1) := by decide +kernel
theorem dX11_isTrue_184 : decode cX11_isTrue 184 = .ok (.getfield 57, 3) := by decide +kernel
theorem dX11_isTrue_187 : decode cX11_isTrue 187 = .ok (.iload 4, 2) := by decide +kernel
theorem dX11_isTrue_189 : decode cX11_isTrue 189 = .ok (.iconst 1, 1) := by decide +kernel
theorem dX11_isTrue_190 : decode cX11_isTrue 190 = .ok (.isub, 1) := by decide +kernel
theorem dX11_isTrue_191 : decode cX11_isTrue 191 = .ok (.iload 6, 2) := by decide +kernel
theorem dX11_isTrue_193 : decode cX11_isTrue 193 = .ok (.iconst 1, 1) := by decide +kernel
theorem dX11_isTrue_194 : decode cX11_isTrue 194 = .ok (.if_icmp .ne 33, 3) := by decide +kernel
theorem dX11_isTrue_197 : decode cX11_isTrue 197 = .ok (.aload_n 0, 1) := by decide +kernel
theorem dX11_isTrue_198 : decode cX11_isTrue 198 = .ok (.getfield 57, 3) := by decide +kernel
theorem dX11_isTrue_201 : decode cX11_isTrue 201 = .ok (.iload 4, 2) := by decide +kernel
theorem dX11_isTrue_203 : decode cX11_isTrue 203 = .ok (.iconst 1, 1) := by decide +kernel
theorem dX11_isTrue_204 : decode cX11_isTrue 204 = .ok (.isub, 1) := by decide +kernel
theorem dX11_isTrue_205 : decode cX11_isTrue 205 = .ok (.baload, 1) := by decide +kernel
theorem dX11_isTrue_206 : decode cX11_isTrue 206 = .ok (.ifCond .eq 17, 3) := by decide +kernel
theorem dX11_isTrue_209 : decode cX11_isTrue 209 = .ok (.aload_n 0, 1) := by decide +kernel
theorem dX11_isTrue_210 : decode cX11_isTrue 210 = .ok (.getfield 57, 3) := by decide +kernel
theorem dX11_isTrue_213 : decode cX11_isTrue 213 = .ok (.iload 4, 2) := by decide +kernel
theorem dX11_isTrue_215 : decode cX11_isTrue 215 = .ok (.baload, 1) := by decide +kernel
theorem dX11_isTrue_216 : decode cX11_isTrue 216 = .ok (.ifCond .eq 7, 3) := by decide +kernel
theorem dX11_isTrue_219 : decode cX11_isTrue 219 = .ok (.iconst 1, 1) := by decide +kernel
theorem dX11_isTrue_220 : decode cX11_isTrue 220 = .ok (.goto 34, 3) := by decide +kernel
theorem dX11_isTrue_223 : decode cX11_isTrue 223 = .ok (.iconst 0, 1) := by decide +kernel
theorem dX11_isTrue_224 : decode cX11_isTrue 224 = .ok (.goto 30, 3) := by decide +kernel
theorem dX11_isTrue_227 : decode cX11_isTrue 227 = .ok (.aload_n 0, 1) := by decide +kernel
theorem dX11_isTrue_228 : decode cX11_isTrue 228 = .ok (.getfield 57, 3) := by decide +kernel
theorem dX11_isTrue_231 : decode cX11_isTrue 231 = .ok (.iload 4, 2) := by decide +kernel
theorem dX11_isTrue_233 : decode cX11_isTrue 233 = .ok (.iconst 1, 1) := by decide +kernel
theorem dX11_isTrue_234 : decode cX11_isTrue 234 = .ok (.isub, 1) := by decide +kernel
theorem dX11_isTrue_235 : decode cX11_isTrue 235 = .ok (.baload, 1) := by decide +kernel
theorem dX11_isTrue_236 : decode cX11_isTrue 236 = .ok (.ifCond .ne 13, 3) := by decide +kernel
theorem dX11_isTrue_239 : decode cX11_isTrue 239 = .ok (.aload_n 0, 1) := by decide +kernel
theorem dX11_isTrue_240 : decode cX11_isTrue 240 = .ok (.getfield 57, 3) := by decide +kernel
theorem dX11_isTrue_243 : decode cX11_isTrue 243 = .ok (.iload 4, 2) := by decide +kernel
theorem dX11_isTrue_245 : decode cX11_isTrue 245 = .ok (.baload, 1) := by decide +kernel
theorem dX11_isTrue_246 : decode cX11_isTrue 246 = .ok (.ifCond .eq 7, 3) := by decide +kernel
theorem dX11_isTrue_249 : decode cX11_isTrue 249 = .ok (.iconst 1, 1) := by decide +kernel
theorem dX11_isTrue_250 : decode cX11_isTrue 250 = .ok (.goto 4, 3) := by decide +kernel
theorem dX11_isTrue_253 : decode cX11_isTrue 253 = .ok (.iconst 0, 1) := by decide +kernel
theorem dX11_isTrue_254 : decode cX11_isTrue 254 = .ok (.bastore, 1) := by decide +kernel
theorem dX11_isTrue_255 : decode cX11_isTrue 255 = .ok (.iinc 5 1, 3) := by decide +kernel
theorem dX11_isTrue_258 : decode cX11_isTrue 258 = .ok (.goto (-247), 3) := by decide +kernel
theorem dX11_isTrue_261 : decode cX11_isTrue 261 = .ok (.aload_n 0, 1) := by decide +kernel
theorem dX11_isTrue_262 : decode cX11_isTrue 262 = .ok (.getfield 57, 3) := by decide +kernel
theorem dX11_isTrue_265 : decode cX11_isTrue 265 = .ok (.iconst 0, 1) := by decide +kernel
theorem dX11_isTrue_266 : decode cX11_isTrue 266 = .ok (.baload, 1) := by decide +kernel
theorem dX11_isTrue_267 : decode cX11_isTrue 267 = .ok (.ireturn, 1) := by decide +kernel
theorem dX11_sum_0 : decode cX11_sum 0 = .ok (.iconst 5, 1) := by decide +kernel
theorem dX11_sum_1 : decode cX11_sum 1 = .ok (.iconst 2, 1) := by decide +kernel
theorem dX11_sum_2 : decode cX11_sum 2 = .ok (.aload_n 0, 1) := by decide +kernel
theorem dX11_sum_3 : decode cX11_sum 3 = .ok (.getfield 9, 3) := by decide +kernel
theorem dX11_sum_6 : decode cX11_sum 6 = .ok (.iload_n 2, 1) := by decide +kernel
theorem dX11_sum_7 : decode cX11_sum 7 = .ok (.iaload, 1) := by decide +kernel
theorem dX11_sum_8 : decode cX11_sum 8 = .ok (.imul, 1) := by decide +kernel
theorem dX11_sum_9 : decode cX11_sum 9 = .ok (.iadd, 1) := by decide +kernel
theorem dX11_sum_10 : decode cX11_sum 10 = .ok (.istore_n 3, 1) := by decide +kernel
theorem dX11_sum_11 : decode cX11_sum 11 = .ok (.iconst 0, 1) := by decide +kernel
theorem dX11_sum_12 : decode cX11_sum 12 = .ok (.istore 4, 2) := by decide +kernel
theorem dX11_sum_14 : decode cX11_sum 14 = .ok (.aload_n 0, 1) := by decide +kernel
theorem dX11_sum_15 : decode cX11_sum 15 = .ok (.getfield 107, 3) := by decide +kernel
theorem dX11_sum_18 : decode cX11_sum 18 = .ok (.iconst (-1), 1) := by decide +kernel
theorem dX11_sum_19 : decode cX11_sum 19 = .ok (.if_icmp .eq 88, 3) := by decide +kernel
theorem dX11_sum_22 : decode cX11_sum 22 = .ok (.iload 4, 2) := by decide +kernel
theorem dX11_sum_24 : decode cX11_sum 24 = .ok (.aload_n 0, 1) := by decide +kernel
theorem dX11_sum_25 : decode cX11_sum 25 = .ok (.getfield 39, 3) := by decide +kernel
theorem dX11_sum_28 : decode cX11_sum 28 = .ok (.aload_n 0, 1) := by decide +kernel
theorem dX11_sum_29 : decode cX11_sum 29 = .ok (.getfield 107, 3) := by decide +kernel
theorem dX11_sum_32 : decode cX11_sum 32 = .ok (.iaload, 1) := by decide +kernel
theorem dX11_sum_33 : decode cX11_sum 33 = .ok (.if_icmp .ge 74, 3) := by decide +kernel
theorem dX11_sum_36 : decode cX11_sum 36 = .ok (.bipush 10, 2) := by decide +kernel
theorem dX11_sum_38 : decode cX11_sum 38 = .ok (.aload_n 0, 1) := by decide +kernel
theorem dX11_sum_39 : decode cX11_sum 39 = .ok (.getfield 107, 3) := by decide +kernel
theorem dX11_sum_42 : decode cX11_sum 42 = .ok (.imul, 1) := by decide +kernel
theorem dX11_sum_43 : decode cX11_sum 43 = .ok (.iload 4, 2) := by decide +kernel
theorem dX11_sum_45 : decode cX11_sum 45 = .ok (.iadd, 1) := by decide +kernel
theorem dX11_sum_46 : decode cX11_sum 46 = .ok (.istore 5, 2) := by decide +kernel
theorem dX11_sum_48 : decode cX11_sum 48 = .ok (.aload_n 0, 1) := by decide +kernel
theorem dX11_sum_49 : decode cX11_sum 49 = .ok (.getfield 42, 3) := by decide +kernel
theorem dX11_sum_52 : decode cX11_sum 52 = .ok (.iload 5, 2) := by decide +kernel
theorem dX11_sum_54 : decode cX11_sum 54 = .ok (.iaload, 1) := by decide +kernel
theorem dX11_sum_55 : decode cX11_sum 55 = .ok (.iconst 2, 1) := by decide +kernel
theorem dX11_sum_56 : decode cX11_sum 56 = .ok (.if_icmp .ge 45, 3) := by decide +kernel
theorem dX11_sum_59 : decode cX11_sum 59 = .ok (.aload_n 0, 1) := by decide +kernel
theorem dX11_sum_60 : decode cX11_sum 60 = .ok (.iload_n 1, 1) := by decide +kernel
theorem dX11_sum_61 : decode cX11_sum 61 = .ok (.iload_n 2, 1) := by decide +kernel
theorem dX11_sum_62 : decode cX11_sum 62 = .ok (.iload 5, 2) := by decide +kernel
theorem dX11_sum_64 : decode cX11_sum 64 = .ok (.invokevirtual 228, 3) := by decide +kernel
theorem dX11_sum_67 : decode cX11_sum 67 = .ok (.ifCond .eq 34, 3) := by decide +kernel
theorem dX11_sum_70 : decode cX11_sum 70 = .ok (.iload_n 3, 1) := by decide +kernel
theorem dX11_sum_71 : decode cX11_sum 71 = .ok (.aload_n 0, 1) := by decide +kernel
theorem dX11_sum_72 : decode cX11_sum 72 = .ok (.getfield 42, 3) := by decide +kernel
theorem dX11_sum_75 : decode cX11_sum 75 = .ok (.iload 5, 2) := by decide +kernel
theorem dX11_sum_77 : decode cX11_sum 77 = .ok (.iaload, 1) := by decide +kernel
theorem dX11_sum_78 : decode cX11_sum 78 = .ok (.ifCond .ne 13, 3) := by decide +kernel
theorem dX11_sum_81 : decode cX11_sum 81 = .ok (.aload_n 0, 1) := by decide +kernel
theorem dX11_sum_82 : decode cX11_sum 82 = .ok (.getfield 45, 3) := by decide +kernel
theorem dX11_sum_85 : decode cX11_sum 85 = .ok (.iload 5, 2) := by decide +kernel
theorem dX11_sum_87 : decode cX11_sum 87 = .ok (.iaload, 1) := by decide +kernel
theorem dX11_sum_88 : decode cX11_sum 88 = .ok (.goto 11, 3) := by decide +kernel
theorem dX11_sum_91 : decode cX11_sum 91 = .ok (.aload_n 0, 1) := by decide +kernel
theorem dX11_sum_92 : decode cX11_sum 92 = .ok (.getfield 45, 3) := by decide +kernel
theorem dX11_sum_95 : decode cX11_sum 95 = .ok (.iload 5, 2) := by decide +kernel
theorem dX11_sum_97 : decode cX11_sum 97 = .ok (.iaload, 1) := by decide +kernel
theorem dX11_sum_98 : decode cX11_sum 98 = .ok (.ineg, 1) := by decide +kernel
theorem dX11_sum_99 : decode cX11_sum 99 = .ok (.iadd, 1) := by decide +kernel
theorem dX11_sum_100 : decode cX11_sum 100 = .ok (.istore_n 3, 1) := by decide +kernel
theorem dX11_sum_101 : decode cX11_sum 101 = .ok (.iinc 4 1, 3) := by decide +kernel
theorem dX11_sum_104 : decode cX11_sum 104 = .ok (.goto (-90), 3) := by decide +kernel
theorem dX11_sum_107 : decode cX11_sum 107 = .ok (.iload_n 3, 1) := by decide +kernel
theorem dX11_sum_108 : decode cX11_sum 108 = .ok (.ireturn, 1) := by decide +kernel
theorem dX11_keepOf_0 : decode cX11_keepOf 0 = .ok (.iconst 3, 1) := by decide +kernel
theorem dX11_keepOf_1 : decode cX11_keepOf 1 = .ok (.istore_n 1, 1) := by decide +kernel
theorem dX11_keepOf_2 : decode cX11_keepOf 2 = .ok (.iconst 0, 1) := by decide +kernel
theorem dX11_keepOf_3 : decode cX11_keepOf 3 = .ok (.istore_n 2, 1) := by decide +kernel
theorem dX11_keepOf_4 : decode cX11_keepOf 4 = .ok (.aload_n 0, 1) := by decide +kernel
theorem dX11_keepOf_5 : decode cX11_keepOf 5 = .ok (.getfield 107, 3) := by decide +kernel
theorem dX11_keepOf_8 : decode cX11_keepOf 8 = .ok (.iconst (-1), 1) := by decide +kernel
theorem dX11_keepOf_9 : decode cX11_keepOf 9 = .ok (.if_icmp .eq 55, 3) := by decide +kernel
theorem dX11_keepOf_12 : decode cX11_keepOf 12 = .ok (.iload_n 2, 1) := by decide +kernel
theorem dX11_keepOf_13 : decode cX11_keepOf 13 = .ok (.aload_n 0, 1) := by decide +kernel
theorem dX11_keepOf_14 : decode cX11_keepOf 14 = .ok (.getfield 39, 3) := by decide +kernel
theorem dX11_keepOf_17 : decode cX11_keepOf 17 = .ok (.aload_n 0, 1) := by decide +kernel
theorem dX11_keepOf_18 : decode cX11_keepOf 18 = .ok (.getfield 107, 3) := by decide +kernel
theorem dX11_keepOf_21 : decode cX11_keepOf 21 = .ok (.iaload, 1) := by decide +kernel
theorem dX11_keepOf_22 : decode cX11_keepOf 22 = .ok (.if_icmp .ge 42, 3) := by decide +kernel
theorem dX11_keepOf_25 : decode cX11_keepOf 25 = .ok (.aload_n 0, 1) := by decide +kernel
theorem dX11_keepOf_26 : decode cX11_keepOf 26 = .ok (.getfield 42, 3) := by decide +kernel
theorem dX11_keepOf_29 : decode cX11_keepOf 29 = .ok (.bipush 10, 2) := by decide +kernel
theorem dX11_keepOf_31 : decode cX11_keepOf 31 = .ok (.aload_n 0, 1) := by decide +kernel
theorem dX11_keepOf_32 : decode cX11_keepOf 32 = .ok (.getfield 107, 3) := by decide +kernel
theorem dX11_keepOf_35 : decode cX11_keepOf 35 = .ok (.imul, 1) := by decide +kernel
theorem dX11_keepOf_36 : decode cX11_keepOf 36 = .ok (.iload_n 2, 1) := by decide +kernel
theorem dX11_keepOf_37 : decode cX11_keepOf 37 = .ok (.iadd, 1) := by decide +kernel
theorem dX11_keepOf_38 : decode cX11_keepOf 38 = .ok (.iaload, 1) := by decide +kernel
theorem dX11_keepOf_39 : decode cX11_keepOf 39 = .ok (.iconst 2, 1) := by decide +kernel
theorem dX11_keepOf_40 : decode cX11_keepOf 40 = .ok (.if_icmp .ne 18, 3) := by decide +kernel
theorem dX11_keepOf_43 : decode cX11_keepOf 43 = .ok (.aload_n 0, 1) := by decide +kernel
theorem dX11_keepOf_44 : decode cX11_keepOf 44 = .ok (.getfield 45, 3) := by decide +kernel
theorem dX11_keepOf_47 : decode cX11_keepOf 47 = .ok (.bipush 10, 2) := by decide +kernel
theorem dX11_keepOf_49 : decode cX11_keepOf 49 = .ok (.aload_n 0, 1) := by decide +kernel
theorem dX11_keepOf_50 : decode cX11_keepOf 50 = .ok (.getfield 107, 3) := by decide +kernel
theorem dX11_keepOf_53 : decode cX11_keepOf 53 = .ok (.imul, 1) := by decide +kernel
theorem dX11_keepOf_54 : decode cX11_keepOf 54 = .ok (.iload_n 2, 1) := by decide +kernel
theorem dX11_keepOf_55 : decode cX11_keepOf 55 = .ok (.iadd, 1) := by decide +kernel
theorem dX11_keepOf_56 : decode cX11_keepOf 56 = .ok (.iaload, 1) := by decide +kernel
theorem dX11_keepOf_57 : decode cX11_keepOf 57 = .ok (.istore_n 1, 1) := by decide +kernel
theorem dX11_keepOf_58 : decode cX11_keepOf 58 = .ok (.iinc 2 1, 3) := by decide +kernel
theorem dX11_keepOf_61 : decode cX11_keepOf 61 = .ok (.goto (-57), 3) := by decide +kernel
theorem dX11_keepOf_64 : decode cX11_keepOf 64 = .ok (.iload_n 1, 1) := by decide +kernel
theorem dX11_keepOf_65 : decode cX11_keepOf 65 = .ok (.ireturn, 1) := by decide +kernel
theorem dX11_tempts_0 : decode cX11_tempts 0 = .ok (.aload_n 0, 1) := by decide +kernel
theorem dX11_tempts_1 : decode cX11_tempts 1 = .ok (.iload_n 1, 1) := by decide +kernel
theorem dX11_tempts_2 : decode cX11_tempts 2 = .ok (.iload_n 2, 1) := by decide +kernel
theorem dX11_tempts_3 : decode cX11_tempts 3 = .ok (.invokevirtual 231, 3) := by decide +kernel
theorem dX11_tempts_6 : decode cX11_tempts 6 = .ok (.istore_n 3, 1) := by decide +kernel
theorem dX11_tempts_7 : decode cX11_tempts 7 = .ok (.iload_n 2, 1) := by decide +kernel
theorem dX11_tempts_8 : decode cX11_tempts 8 = .ok (.iconst 2, 1) := by decide +kernel
theorem dX11_tempts_9 : decode cX11_tempts 9 = .ok (.irem, 1) := by decide +kernel
theorem dX11_tempts_10 : decode cX11_tempts 10 = .ok (.ifCond .ne 14, 3) := by decide +kernel
theorem dX11_tempts_13 : decode cX11_tempts 13 = .ok (.iload_n 3, 1) := by decide +kernel
theorem dX11_tempts_14 : decode cX11_tempts 14 = .ok (.aload_n 0, 1) := by decide +kernel
theorem dX11_tempts_15 : decode cX11_tempts 15 = .ok (.getfield 21, 3) := by decide +kernel
theorem dX11_tempts_18 : decode cX11_tempts 18 = .ok (.iload_n 1, 1) := by decide +kernel
theorem dX11_tempts_19 : decode cX11_tempts 19 = .ok (.iaload, 1) := by decide +kernel
theorem dX11_tempts_20 : decode cX11_tempts 20 = .ok (.iadd, 1) := by decide +kernel
theorem dX11_tempts_21 : decode cX11_tempts 21 = .ok (.goto 4, 3) := by decide +kernel
theorem dX11_tempts_24 : decode cX11_tempts 24 = .ok (.iload_n 3, 1) := by decide +kernel
theorem dX11_tempts_25 : decode cX11_tempts 25 = .ok (.istore 4, 2) := by decide +kernel
theorem dX11_tempts_27 : decode cX11_tempts 27 = .ok (.aload_n 0, 1) := by decide +kernel
theorem dX11_tempts_28 : decode cX11_tempts 28 = .ok (.getfield 21, 3) := by decide +kernel
theorem dX11_tempts_31 : decode cX11_tempts 31 = .ok (.iload_n 1, 1) := by decide +kernel
theorem dX11_tempts_32 : decode cX11_tempts 32 = .ok (.iaload, 1) := by decide +kernel
theorem dX11_tempts_33 : decode cX11_tempts 33 = .ok (.aload_n 0, 1) := by decide +kernel
theorem dX11_tempts_34 : decode cX11_tempts 34 = .ok (.getfield 9, 3) := by decide +kernel
theorem dX11_tempts_37 : decode cX11_tempts 37 = .ok (.iload_n 2, 1) := by decide +kernel
theorem dX11_tempts_38 : decode cX11_tempts 38 = .ok (.iaload, 1) := by decide +kernel
theorem dX11_tempts_39 : decode cX11_tempts 39 = .ok (.if_icmp .le 7, 3) := by decide +kernel
theorem dX11_tempts_42 : decode cX11_tempts 42 = .ok (.iconst 0, 1) := by decide +kernel
theorem dX11_tempts_43 : decode cX11_tempts 43 = .ok (.goto 4, 3) := by decide +kernel
theorem dX11_tempts_46 : decode cX11_tempts 46 = .ok (.iload_n 3, 1) := by decide +kernel
theorem dX11_tempts_47 : decode cX11_tempts 47 = .ok (.istore 5, 2) := by decide +kernel
theorem dX11_tempts_49 : decode cX11_tempts 49 = .ok (.aload_n 0, 1) := by decide +kernel
theorem dX11_tempts_50 : decode cX11_tempts 50 = .ok (.getfield 18, 3) := by decide +kernel
theorem dX11_tempts_53 : decode cX11_tempts 53 = .ok (.iload_n 1, 1) := by decide +kernel
theorem dX11_tempts_54 : decode cX11_tempts 54 = .ok (.iaload, 1) := by decide +kernel
theorem dX11_tempts_55 : decode cX11_tempts 55 = .ok (.tableswitch 98 1 6 #[37, 40, 44, 47, 71, 82], 37) := by decide +kernel
theorem dX11_tempts_92 : decode cX11_tempts 92 = .ok (.iload 4, 2) := by decide +kernel
theorem dX11_tempts_94 : decode cX11_tempts 94 = .ok (.ireturn, 1) := by decide +kernel
theorem dX11_tempts_95 : decode cX11_tempts 95 = .ok (.iload_n 3, 1) := by decide +kernel
theorem dX11_tempts_96 : decode cX11_tempts 96 = .ok (.iconst 2, 1) := by decide +kernel
theorem dX11_tempts_97 : decode cX11_tempts 97 = .ok (.idiv, 1) := by decide +kernel
theorem dX11_tempts_98 : decode cX11_tempts 98 = .ok (.ireturn, 1) := by decide +kernel
theorem dX11_tempts_99 : decode cX11_tempts 99 = .ok (.iload 5, 2) := by decide +kernel
theorem dX11_tempts_101 : decode cX11_tempts 101 = .ok (.ireturn, 1) := by decide +kernel
theorem dX11_tempts_102 : decode cX11_tempts 102 = .ok (.aload_n 0, 1) := by decide +kernel
theorem dX11_tempts_103 : decode cX11_tempts 103 = .ok (.getfield 27, 3) := by decide +kernel
theorem dX11_tempts_106 : decode cX11_tempts 106 = .ok (.iload_n 1, 1) := by decide +kernel
theorem dX11_tempts_107 : decode cX11_tempts 107 = .ok (.iaload, 1) := by decide +kernel
theorem dX11_tempts_108 : decode cX11_tempts 108 = .ok (.iload_n 2, 1) := by decide +kernel
theorem dX11_tempts_109 : decode cX11_tempts 109 = .ok (.invokestatic 139, 3) := by decide +kernel
theorem dX11_tempts_112 : decode cX11_tempts 112 = .ok (.ifCond .eq 11, 3) := by decide +kernel
theorem dX11_tempts_115 : decode cX11_tempts 115 = .ok (.iload 4, 2) := by decide +kernel
theorem dX11_tempts_117 : decode cX11_tempts 117 = .ok (.bipush 10, 2) := by decide +kernel
theorem dX11_tempts_119 : decode cX11_tempts 119 = .ok (.isub, 1) := by decide +kernel
theorem dX11_tempts_120 : decode cX11_tempts 120 = .ok (.goto 5, 3) := by decide +kernel
theorem dX11_tempts_123 : decode cX11_tempts 123 = .ok (.iload 4, 2) := by decide +kernel
theorem dX11_tempts_125 : decode cX11_tempts 125 = .ok (.ireturn, 1) := by decide +kernel
theorem dX11_tempts_126 : decode cX11_tempts 126 = .ok (.iload_n 3, 1) := by decide +kernel
theorem dX11_tempts_127 : decode cX11_tempts 127 = .ok (.iconst 2, 1) := by decide +kernel
theorem dX11_tempts_128 : decode cX11_tempts 128 = .ok (.idiv, 1) := by decide +kernel
theorem dX11_tempts_129 : decode cX11_tempts 129 = .ok (.aload_n 0, 1) := by decide +kernel
theorem dX11_tempts_130 : decode cX11_tempts 130 = .ok (.getfield 221, 3) := by decide +kernel
theorem dX11_tempts_133 : decode cX11_tempts 133 = .ok (.iconst 5, 1) := by decide +kernel
theorem dX11_tempts_134 : decode cX11_tempts 134 = .ok (.irem, 1) := by decide +kernel
theorem dX11_tempts_135 : decode cX11_tempts 135 = .ok (.iadd, 1) := by decide +kernel
theorem dX11_tempts_136 : decode cX11_tempts 136 = .ok (.ireturn, 1) := by decide +kernel
theorem dX11_tempts_137 : decode cX11_tempts 137 = .ok (.iload 5, 2) := by decide +kernel
theorem dX11_tempts_139 : decode cX11_tempts 139 = .ok (.aload_n 0, 1) := by decide +kernel
theorem dX11_tempts_140 : decode cX11_tempts 140 = .ok (.getfield 33, 3) := by decide +kernel
theorem dX11_tempts_143 : decode cX11_tempts 143 = .ok (.iconst 4, 1) := by decide +kernel
theorem dX11_tempts_144 : decode cX11_tempts 144 = .ok (.iload_n 1, 1) := by decide +kernel
theorem dX11_tempts_145 : decode cX11_tempts 145 = .ok (.imul, 1) := by decide +kernel
theorem dX11_tempts_146 : decode cX11_tempts 146 = .ok (.iload_n 2, 1) := by decide +kernel
theorem dX11_tempts_147 : decode cX11_tempts 147 = .ok (.iconst 4, 1) := by decide +kernel
theorem dX11_tempts_148 : decode cX11_tempts 148 = .ok (.irem, 1) := by decide +kernel
theorem dX11_tempts_149 : decode cX11_tempts 149 = .ok (.iadd, 1) := by decide +kernel
theorem dX11_tempts_150 : decode cX11_tempts 150 = .ok (.iaload, 1) := by decide +kernel
theorem dX11_tempts_151 : decode cX11_tempts 151 = .ok (.iadd, 1) := by decide +kernel
theorem dX11_tempts_152 : decode cX11_tempts 152 = .ok (.ireturn, 1) := by decide +kernel
theorem dX11_tempts_153 : decode cX11_tempts 153 = .ok (.iload_n 3, 1) := by decide +kernel
theorem dX11_tempts_154 : decode cX11_tempts 154 = .ok (.ireturn, 1) := by decide +kernel
theorem dX11_prey_0 : decode cX11_prey 0 = .ok (.bipush (-5), 2) := by decide +kernel
theorem dX11_prey_2 : decode cX11_prey 2 = .ok (.istore_n 2, 1) := by decide +kernel
theorem dX11_prey_3 : decode cX11_prey 3 = .ok (.iconst 0, 1) := by decide +kernel
theorem dX11_prey_4 : decode cX11_prey 4 = .ok (.istore_n 3, 1) := by decide +kernel
theorem dX11_prey_5 : decode cX11_prey 5 = .ok (.iconst 0, 1) := by decide +kernel
theorem dX11_prey_6 : decode cX11_prey 6 = .ok (.istore 4, 2) := by decide +kernel
theorem dX11_prey_8 : decode cX11_prey 8 = .ok (.iload 4, 2) := by decide +kernel
theorem dX11_prey_10 : decode cX11_prey 10 = .ok (.bipush 12, 2) := by decide +kernel
theorem dX11_prey_12 : decode cX11_prey 12 = .ok (.if_icmp .ge 60, 3) := by decide +kernel
theorem dX11_prey_15 : decode cX11_prey 15 = .ok (.aload_n 0, 1) := by decide +kernel
theorem dX11_prey_16 : decode cX11_prey 16 = .ok (.getfield 30, 3) := by decide +kernel
theorem dX11_prey_19 : decode cX11_prey 19 = .ok (.iload_n 1, 1) := by decide +kernel
theorem dX11_prey_20 : decode cX11_prey 20 = .ok (.iaload, 1) := by decide +kernel
theorem dX11_prey_21 : decode cX11_prey 21 = .ok (.iconst 1, 1) := by decide +kernel
theorem dX11_prey_22 : decode cX11_prey 22 = .ok (.if_icmp .ne 50, 3) := by decide +kernel
theorem dX11_prey_25 : decode cX11_prey 25 = .ok (.aload_n 0, 1) := by decide +kernel
theorem dX11_prey_26 : decode cX11_prey 26 = .ok (.getfield 24, 3) := by decide +kernel
theorem dX11_prey_29 : decode cX11_prey 29 = .ok (.iload_n 1, 1) := by decide +kernel
theorem dX11_prey_30 : decode cX11_prey 30 = .ok (.iaload, 1) := by decide +kernel
theorem dX11_prey_31 : decode cX11_prey 31 = .ok (.iload 4, 2) := by decide +kernel
theorem dX11_prey_33 : decode cX11_prey 33 = .ok (.invokestatic 139, 3) := by decide +kernel
theorem dX11_prey_36 : decode cX11_prey 36 = .ok (.ifCond .ne 6, 3) := by decide +kernel
theorem dX11_prey_39 : decode cX11_prey 39 = .ok (.goto 27, 3) := by decide +kernel
theorem dX11_prey_42 : decode cX11_prey 42 = .ok (.aload_n 0, 1) := by decide +kernel
theorem dX11_prey_43 : decode cX11_prey 43 = .ok (.iload_n 1, 1) := by decide +kernel
theorem dX11_prey_44 : decode cX11_prey 44 = .ok (.iload 4, 2) := by decide +kernel
theorem dX11_prey_46 : decode cX11_prey 46 = .ok (.invokevirtual 125, 3) := by decide +kernel
theorem dX11_prey_49 : decode cX11_prey 49 = .ok (.istore 5, 2) := by decide +kernel
theorem dX11_prey_51 : decode cX11_prey 51 = .ok (.iload 5, 2) := by decide +kernel
theorem dX11_prey_53 : decode cX11_prey 53 = .ok (.iload_n 3, 1) := by decide +kernel
theorem dX11_prey_54 : decode cX11_prey 54 = .ok (.if_icmp .gt 6, 3) := by decide +kernel
theorem dX11_prey_57 : decode cX11_prey 57 = .ok (.goto 9, 3) := by decide +kernel
theorem dX11_prey_60 : decode cX11_prey 60 = .ok (.iload 5, 2) := by decide +kernel
theorem dX11_prey_62 : decode cX11_prey 62 = .ok (.istore_n 3, 1) := by decide +kernel
theorem dX11_prey_63 : decode cX11_prey 63 = .ok (.iload 4, 2) := by decide +kernel
theorem dX11_prey_65 : decode cX11_prey 65 = .ok (.istore_n 2, 1) := by decide +kernel
theorem dX11_prey_66 : decode cX11_prey 66 = .ok (.iinc 4 1, 3) := by decide +kernel
theorem dX11_prey_69 : decode cX11_prey 69 = .ok (.goto (-61), 3) := by decide +kernel
theorem dX11_prey_72 : decode cX11_prey 72 = .ok (.iload_n 2, 1) := by decide +kernel
theorem dX11_prey_73 : decode cX11_prey 73 = .ok (.ireturn, 1) := by decide +kernel
theorem dX11_goesNight_0 : decode cX11_goesNight 0 = .ok (.iconst 0, 1) := by decide +kernel
theorem dX11_goesNight_1 : decode cX11_goesNight 1 = .ok (.istore_n 1, 1) := by decide +kernel
theorem dX11_goesNight_2 : decode cX11_goesNight 2 = .ok (.iload_n 1, 1) := by decide +kernel
theorem dX11_goesNight_3 : decode cX11_goesNight 3 = .ok (.aload_n 0, 1) := by decide +kernel
theorem dX11_goesNight_4 : decode cX11_goesNight 4 = .ok (.getfield 111, 3) := by decide +kernel
theorem dX11_goesNight_7 : decode cX11_goesNight 7 = .ok (.if_icmp .ge 20, 3) := by decide +kernel
theorem dX11_goesNight_10 : decode cX11_goesNight 10 = .ok (.aload_n 0, 1) := by decide +kernel
theorem dX11_goesNight_11 : decode cX11_goesNight 11 = .ok (.getfield 94, 3) := by decide +kernel
theorem dX11_goesNight_14 : decode cX11_goesNight 14 = .ok (.iload_n 1, 1) := by decide +kernel
theorem dX11_goesNight_15 : decode cX11_goesNight 15 = .ok (.aload_n 0, 1) := by decide +kernel
theorem dX11_goesNight_16 : decode cX11_goesNight 16 = .ok (.iload_n 1, 1) := by decide +kernel
theorem dX11_goesNight_17 : decode cX11_goesNight 17 = .ok (.invokevirtual 129, 3) := by decide +kernel
theorem dX11_goesNight_20 : decode cX11_goesNight 20 = .ok (.iastore, 1) := by decide +kernel
theorem dX11_goesNight_21 : decode cX11_goesNight 21 = .ok (.iinc 1 1, 3) := by decide +kernel
theorem dX11_goesNight_24 : decode cX11_goesNight 24 = .ok (.goto (-22), 3) := by decide +kernel
theorem dX11_goesNight_27 : decode cX11_goesNight 27 = .ok (.iconst 0, 1) := by decide +kernel
theorem dX11_goesNight_28 : decode cX11_goesNight 28 = .ok (.istore_n 1, 1) := by decide +kernel
theorem dX11_goesNight_29 : decode cX11_goesNight 29 = .ok (.iload_n 1, 1) := by decide +kernel
theorem dX11_goesNight_30 : decode cX11_goesNight 30 = .ok (.aload_n 0, 1) := by decide +kernel
theorem dX11_goesNight_31 : decode cX11_goesNight 31 = .ok (.getfield 111, 3) := by decide +kernel
theorem dX11_goesNight_34 : decode cX11_goesNight 34 = .ok (.if_icmp .ge 70, 3) := by decide +kernel
theorem dX11_goesNight_37 : decode cX11_goesNight 37 = .ok (.aload_n 0, 1) := by decide +kernel
theorem dX11_goesNight_38 : decode cX11_goesNight 38 = .ok (.getfield 94, 3) := by decide +kernel
theorem dX11_goesNight_41 : decode cX11_goesNight 41 = .ok (.iload_n 1, 1) := by decide +kernel
theorem dX11_goesNight_42 : decode cX11_goesNight 42 = .ok (.iaload, 1) := by decide +kernel
theorem dX11_goesNight_43 : decode cX11_goesNight 43 = .ok (.istore_n 2, 1) := by decide +kernel
theorem dX11_goesNight_44 : decode cX11_goesNight 44 = .ok (.iload_n 2, 1) := by decide +kernel
theorem dX11_goesNight_45 : decode cX11_goesNight 45 = .ok (.bipush (-5), 2) := by decide +kernel
theorem dX11_goesNight_47 : decode cX11_goesNight 47 = .ok (.if_icmp .ne 6, 3) := by decide +kernel
theorem dX11_goesNight_50 : decode cX11_goesNight 50 = .ok (.goto 48, 3) := by decide +kernel
theorem dX11_goesNight_53 : decode cX11_goesNight 53 = .ok (.aload_n 0, 1) := by decide +kernel
theorem dX11_goesNight_54 : decode cX11_goesNight 54 = .ok (.getfield 24, 3) := by decide +kernel
theorem dX11_goesNight_57 : decode cX11_goesNight 57 = .ok (.iload_n 1, 1) := by decide +kernel
theorem dX11_goesNight_58 : decode cX11_goesNight 58 = .ok (.dup2, 1) := by decide +kernel
theorem dX11_goesNight_59 : decode cX11_goesNight 59 = .ok (.iaload, 1) := by decide +kernel
theorem dX11_goesNight_60 : decode cX11_goesNight 60 = .ok (.iconst 1, 1) := by decide +kernel
theorem dX11_goesNight_61 : decode cX11_goesNight 61 = .ok (.iload_n 2, 1) := by decide +kernel
theorem dX11_goesNight_62 : decode cX11_goesNight 62 = .ok (.ishl, 1) := by decide +kernel
theorem dX11_goesNight_63 : decode cX11_goesNight 63 = .ok (.iconst (-1), 1) := by decide +kernel
theorem dX11_goesNight_64 : decode cX11_goesNight 64 = .ok (.ixor, 1) := by decide +kernel
theorem dX11_goesNight_65 : decode cX11_goesNight 65 = .ok (.iand, 1) := by decide +kernel
theorem dX11_goesNight_66 : decode cX11_goesNight 66 = .ok (.iastore, 1) := by decide +kernel
theorem dX11_goesNight_67 : decode cX11_goesNight 67 = .ok (.aload_n 0, 1) := by decide +kernel
theorem dX11_goesNight_68 : decode cX11_goesNight 68 = .ok (.getfield 27, 3) := by decide +kernel
theorem dX11_goesNight_71 : decode cX11_goesNight 71 = .ok (.iload_n 1, 1) := by decide +kernel
theorem dX11_goesNight_72 : decode cX11_goesNight 72 = .ok (.dup2, 1) := by decide +kernel
theorem dX11_goesNight_73 : decode cX11_goesNight 73 = .ok (.iaload, 1) := by decide +kernel
theorem dX11_goesNight_74 : decode cX11_goesNight 74 = .ok (.iconst 1, 1) := by decide +kernel
theorem dX11_goesNight_75 : decode cX11_goesNight 75 = .ok (.iload_n 2, 1) := by decide +kernel
theorem dX11_goesNight_76 : decode cX11_goesNight 76 = .ok (.ishl, 1) := by decide +kernel
theorem dX11_goesNight_77 : decode cX11_goesNight 77 = .ok (.ior, 1) := by decide +kernel
theorem dX11_goesNight_78 : decode cX11_goesNight 78 = .ok (.iastore, 1) := by decide +kernel
theorem dX11_goesNight_79 : decode cX11_goesNight 79 = .ok (.aload_n 0, 1) := by decide +kernel
theorem dX11_goesNight_80 : decode cX11_goesNight 80 = .ok (.getfield 15, 3) := by decide +kernel
theorem dX11_goesNight_83 : decode cX11_goesNight 83 = .ok (.iload_n 2, 1) := by decide +kernel
theorem dX11_goesNight_84 : decode cX11_goesNight 84 = .ok (.bipush 99, 2) := by decide +kernel
theorem dX11_goesNight_86 : decode cX11_goesNight 86 = .ok (.aload_n 0, 1) := by decide +kernel
theorem dX11_goesNight_87 : decode cX11_goesNight 87 = .ok (.getfield 15, 3) := by decide +kernel
theorem dX11_goesNight_90 : decode cX11_goesNight 90 = .ok (.iload_n 2, 1) := by decide +kernel
theorem dX11_goesNight_91 : decode cX11_goesNight 91 = .ok (.iaload, 1) := by decide +kernel
theorem dX11_goesNight_92 : decode cX11_goesNight 92 = .ok (.iconst 1, 1) := by decide +kernel
theorem dX11_goesNight_93 : decode cX11_goesNight 93 = .ok (.iadd, 1) := by decide +kernel
theorem dX11_goesNight_94 : decode cX11_goesNight 94 = .ok (.invokestatic 234, 3) := by decide +kernel
theorem dX11_goesNight_97 : decode cX11_goesNight 97 = .ok (.iastore, 1) := by decide +kernel
theorem dX11_goesNight_98 : decode cX11_goesNight 98 = .ok (.iinc 1 1, 3) := by decide +kernel
theorem dX11_goesNight_101 : decode cX11_goesNight 101 = .ok (.goto (-72), 3) := by decide +kernel
theorem dX11_goesNight_104 : decode cX11_goesNight 104 = .ok (.aload_n 0, 1) := by decide +kernel
theorem dX11_goesNight_105 : decode cX11_goesNight 105 = .ok (.dup, 1) := by decide +kernel
theorem dX11_goesNight_106 : decode cX11_goesNight 106 = .ok (.getfield 221, 3) := by decide +kernel
theorem dX11_goesNight_109 : decode cX11_goesNight 109 = .ok (.iconst 1, 1) := by decide +kernel
theorem dX11_goesNight_110 : decode cX11_goesNight 110 = .ok (.iadd, 1) := by decide +kernel
theorem dX11_goesNight_111 : decode cX11_goesNight 111 = .ok (.putfield 221, 3) := by decide +kernel
theorem dX11_goesNight_114 : decode cX11_goesNight 114 = .ok (.aload_n 0, 1) := by decide +kernel
theorem dX11_goesNight_115 : decode cX11_goesNight 115 = .ok (.invokevirtual 239, 3) := by decide +kernel
theorem dX11_goesNight_118 : decode cX11_goesNight 118 = .ok (.istore_n 1, 1) := by decide +kernel
theorem dX11_goesNight_119 : decode cX11_goesNight 119 = .ok (.iload_n 1, 1) := by decide +kernel
theorem dX11_goesNight_120 : decode cX11_goesNight 120 = .ok (.ifCond .eq 12, 3) := by decide +kernel
theorem dX11_goesNight_123 : decode cX11_goesNight 123 = .ok (.aload_n 0, 1) := by decide +kernel
theorem dX11_goesNight_124 : decode cX11_goesNight 124 = .ok (.getfield 221, 3) := by decide +kernel
theorem dX11_goesNight_127 : decode cX11_goesNight 127 = .ok (.iload_n 1, 1) := by decide +kernel
theorem dX11_goesNight_128 : decode cX11_goesNight 128 = .ok (.irem, 1) := by decide +kernel
theorem dX11_goesNight_129 : decode cX11_goesNight 129 = .ok (.ifCond .eq 4, 3) := by decide +kernel
theorem dX11_goesNight_132 : decode cX11_goesNight 132 = .ok (.return_, 1) := by decide +kernel
theorem dX11_goesNight_133 : decode cX11_goesNight 133 = .ok (.iconst 0, 1) := by decide +kernel
theorem dX11_goesNight_134 : decode cX11_goesNight 134 = .ok (.istore_n 2, 1) := by decide +kernel
theorem dX11_goesNight_135 : decode cX11_goesNight 135 = .ok (.iload_n 2, 1) := by decide +kernel
theorem dX11_goesNight_136 : decode cX11_goesNight 136 = .ok (.bipush 12, 2) := by decide +kernel
theorem dX11_goesNight_138 : decode cX11_goesNight 138 = .ok (.if_icmp .ge 27, 3) := by decide +kernel
theorem dX11_goesNight_141 : decode cX11_goesNight 141 = .ok (.aload_n 0, 1) := by decide +kernel
theorem dX11_goesNight_142 : decode cX11_goesNight 142 = .ok (.getfield 15, 3) := by decide +kernel
theorem dX11_goesNight_145 : decode cX11_goesNight 145 = .ok (.iload_n 2, 1) := by decide +kernel
theorem dX11_goesNight_146 : decode cX11_goesNight 146 = .ok (.iconst 0, 1) := by decide +kernel
theorem dX11_goesNight_147 : decode cX11_goesNight 147 = .ok (.aload_n 0, 1) := by decide +kernel
theorem dX11_goesNight_148 : decode cX11_goesNight 148 = .ok (.getfield 15, 3) := by decide +kernel
theorem dX11_goesNight_151 : decode cX11_goesNight 151 = .ok (.iload_n 2, 1) := by decide +kernel
theorem dX11_goesNight_152 : decode cX11_goesNight 152 = .ok (.iaload, 1) := by decide +kernel
theorem dX11_goesNight_153 : decode cX11_goesNight 153 = .ok (.iconst 1, 1) := by decide +kernel
theorem dX11_goesNight_154 : decode cX11_goesNight 154 = .ok (.isub, 1) := by decide +kernel
theorem dX11_goesNight_155 : decode cX11_goesNight 155 = .ok (.invokestatic 242, 3) := by decide +kernel
theorem dX11_goesNight_158 : decode cX11_goesNight 158 = .ok (.iastore, 1) := by decide +kernel
theorem dX11_goesNight_159 : decode cX11_goesNight 159 = .ok (.iinc 2 1, 3) := by decide +kernel
theorem dX11_goesNight_162 : decode cX11_goesNight 162 = .ok (.goto (-27), 3) := by decide +kernel
theorem dX11_goesNight_165 : decode cX11_goesNight 165 = .ok (.return_, 1) := by decide +kernel
theorem dX11_allMean_0 : decode cX11_allMean 0 = .ok (.iconst 0, 1) := by decide +kernel
theorem dX11_allMean_1 : decode cX11_allMean 1 = .ok (.istore_n 1, 1) := by decide +kernel
theorem dX11_allMean_2 : decode cX11_allMean 2 = .ok (.iconst 0, 1) := by decide +kernel
theorem dX11_allMean_3 : decode cX11_allMean 3 = .ok (.istore_n 2, 1) := by decide +kernel
theorem dX11_allMean_4 : decode cX11_allMean 4 = .ok (.iload_n 2, 1) := by decide +kernel
theorem dX11_allMean_5 : decode cX11_allMean 5 = .ok (.aload_n 0, 1) := by decide +kernel
theorem dX11_allMean_6 : decode cX11_allMean 6 = .ok (.getfield 111, 3) := by decide +kernel
theorem dX11_allMean_9 : decode cX11_allMean 9 = .ok (.if_icmp .ge 21, 3) := by decide +kernel
theorem dX11_allMean_12 : decode cX11_allMean 12 = .ok (.iload_n 1, 1) := by decide +kernel
theorem dX11_allMean_13 : decode cX11_allMean 13 = .ok (.aload_n 0, 1) := by decide +kernel
theorem dX11_allMean_14 : decode cX11_allMean 14 = .ok (.getfield 24, 3) := by decide +kernel
theorem dX11_allMean_17 : decode cX11_allMean 17 = .ok (.iload_n 2, 1) := by decide +kernel
theorem dX11_allMean_18 : decode cX11_allMean 18 = .ok (.iaload, 1) := by decide +kernel
theorem dX11_allMean_19 : decode cX11_allMean 19 = .ok (.invokestatic 245, 3) := by decide +kernel
theorem dX11_allMean_22 : decode cX11_allMean 22 = .ok (.iadd, 1) := by decide +kernel
theorem dX11_allMean_23 : decode cX11_allMean 23 = .ok (.istore_n 1, 1) := by decide +kernel
theorem dX11_allMean_24 : decode cX11_allMean 24 = .ok (.iinc 2 1, 3) := by decide +kernel
theorem dX11_allMean_27 : decode cX11_allMean 27 = .ok (.goto (-23), 3) := by decide +kernel
theorem dX11_allMean_30 : decode cX11_allMean 30 = .ok (.iload_n 1, 1) := by decide +kernel
theorem dX11_allMean_31 : decode cX11_allMean 31 = .ok (.ireturn, 1) := by decide +kernel
theorem dX11_allCellar_0 : decode cX11_allCellar 0 = .ok (.iconst 0, 1) := by decide +kernel
theorem dX11_allCellar_1 : decode cX11_allCellar 1 = .ok (.istore_n 1, 1) := by decide +kernel
theorem dX11_allCellar_2 : decode cX11_allCellar 2 = .ok (.iconst 0, 1) := by decide +kernel
theorem dX11_allCellar_3 : decode cX11_allCellar 3 = .ok (.istore_n 2, 1) := by decide +kernel
theorem dX11_allCellar_4 : decode cX11_allCellar 4 = .ok (.iload_n 2, 1) := by decide +kernel
theorem dX11_allCellar_5 : decode cX11_allCellar 5 = .ok (.bipush 12, 2) := by decide +kernel
theorem dX11_allCellar_7 : decode cX11_allCellar 7 = .ok (.if_icmp .ge 18, 3) := by decide +kernel
theorem dX11_allCellar_10 : decode cX11_allCellar 10 = .ok (.iload_n 1, 1) := by decide +kernel
theorem dX11_allCellar_11 : decode cX11_allCellar 11 = .ok (.aload_n 0, 1) := by decide +kernel
theorem dX11_allCellar_12 : decode cX11_allCellar 12 = .ok (.getfield 15, 3) := by decide +kernel
theorem dX11_allCellar_15 : decode cX11_allCellar 15 = .ok (.iload_n 2, 1) := by decide +kernel
theorem dX11_allCellar_16 : decode cX11_allCellar 16 = .ok (.iaload, 1) := by decide +kernel
theorem dX11_allCellar_17 : decode cX11_allCellar 17 = .ok (.iadd, 1) := by decide +kernel
theorem dX11_allCellar_18 : decode cX11_allCellar 18 = .ok (.istore_n 1, 1) := by decide +kernel
theorem dX11_allCellar_19 : decode cX11_allCellar 19 = .ok (.iinc 2 1, 3) := by decide +kernel
theorem dX11_allCellar_22 : decode cX11_allCellar 22 = .ok (.goto (-18), 3) := by decide +kernel
theorem dX11_allCellar_25 : decode cX11_allCellar 25 = .ok (.iload_n 1, 1) := by decide +kernel
theorem dX11_allCellar_26 : decode cX11_allCellar 26 = .ok (.ireturn, 1) := by decide +kernel
theorem dX11_allIn_0 : decode cX11_allIn 0 = .ok (.iconst 0, 1) := by decide +kernel
theorem dX11_allIn_1 : decode cX11_allIn 1 = .ok (.istore_n 1, 1) := by decide +kernel
theorem dX11_allIn_2 : decode cX11_allIn 2 = .ok (.iconst 0, 1) := by decide +kernel
theorem dX11_allIn_3 : decode cX11_allIn 3 = .ok (.istore_n 2, 1) := by decide +kernel
theorem dX11_allIn_4 : decode cX11_allIn 4 = .ok (.iload_n 2, 1) := by decide +kernel
theorem dX11_allIn_5 : decode cX11_allIn 5 = .ok (.aload_n 0, 1) := by decide +kernel
theorem dX11_allIn_6 : decode cX11_allIn 6 = .ok (.getfield 111, 3) := by decide +kernel
theorem dX11_allIn_9 : decode cX11_allIn 9 = .ok (.if_icmp .ge 20, 3) := by decide +kernel
theorem dX11_allIn_12 : decode cX11_allIn 12 = .ok (.iload_n 1, 1) := by decide +kernel
theorem dX11_allIn_13 : decode cX11_allIn 13 = .ok (.aload_n 0, 1) := by decide +kernel
theorem dX11_allIn_14 : decode cX11_allIn 14 = .ok (.getfield 30, 3) := by decide +kernel
theorem dX11_allIn_17 : decode cX11_allIn 17 = .ok (.iload_n 2, 1) := by decide +kernel
theorem dX11_allIn_18 : decode cX11_allIn 18 = .ok (.iaload, 1) := by decide +kernel
theorem dX11_allIn_19 : decode cX11_allIn 19 = .ok (.iload_n 2, 1) := by decide +kernel
theorem dX11_allIn_20 : decode cX11_allIn 20 = .ok (.ishl, 1) := by decide +kernel
theorem dX11_allIn_21 : decode cX11_allIn 21 = .ok (.ior, 1) := by decide +kernel
theorem dX11_allIn_22 : decode cX11_allIn 22 = .ok (.istore_n 1, 1) := by decide +kernel
theorem dX11_allIn_23 : decode cX11_allIn 23 = .ok (.iinc 2 1, 3) := by decide +kernel
theorem dX11_allIn_26 : decode cX11_allIn 26 = .ok (.goto (-22), 3) := by decide +kernel
theorem dX11_allIn_29 : decode cX11_allIn 29 = .ok (.iload_n 1, 1) := by decide +kernel
theorem dX11_allIn_30 : decode cX11_allIn 30 = .ok (.ireturn, 1) := by decide +kernel
theorem dX11_mayGive_0 : decode cX11_mayGive 0 = .ok (.aload_n 0, 1) := by decide +kernel
theorem dX11_mayGive_1 : decode cX11_mayGive 1 = .ok (.getfield 24, 3) := by decide +kernel
theorem dX11_mayGive_4 : decode cX11_mayGive 4 = .ok (.iload_n 1, 1) := by decide +kernel
theorem dX11_mayGive_5 : decode cX11_mayGive 5 = .ok (.iaload, 1) := by decide +kernel
theorem dX11_mayGive_6 : decode cX11_mayGive 6 = .ok (.aload_n 0, 1) := by decide +kernel
theorem dX11_mayGive_7 : decode cX11_mayGive 7 = .ok (.getfield 27, 3) := by decide +kernel
theorem dX11_mayGive_10 : decode cX11_mayGive 10 = .ok (.iload_n 2, 1) := by decide +kernel
theorem dX11_mayGive_11 : decode cX11_mayGive 11 = .ok (.iaload, 1) := by decide +kernel
theorem dX11_mayGive_12 : decode cX11_mayGive 12 = .ok (.iand, 1) := by decide +kernel
theorem dX11_mayGive_13 : decode cX11_mayGive 13 = .ok (.aload_n 0, 1) := by decide +kernel
theorem dX11_mayGive_14 : decode cX11_mayGive 14 = .ok (.getfield 24, 3) := by decide +kernel
theorem dX11_mayGive_17 : decode cX11_mayGive 17 = .ok (.iload_n 2, 1) := by decide +kernel
theorem dX11_mayGive_18 : decode cX11_mayGive 18 = .ok (.iaload, 1) := by decide +kernel
theorem dX11_mayGive_19 : decode cX11_mayGive 19 = .ok (.iconst (-1), 1) := by decide +kernel
theorem dX11_mayGive_20 : decode cX11_mayGive 20 = .ok (.ixor, 1) := by decide +kernel
theorem dX11_mayGive_21 : decode cX11_mayGive 21 = .ok (.iand, 1) := by decide +kernel
theorem dX11_mayGive_22 : decode cX11_mayGive 22 = .ok (.ireturn, 1) := by decide +kernel
theorem dX11_ringFrom_0 : decode cX11_ringFrom 0 = .ok (.iload 4, 2) := by decide +kernel
theorem dX11_ringFrom_2 : decode cX11_ringFrom 2 = .ok (.iconst 1, 1) := by decide +kernel
theorem dX11_ringFrom_3 : decode cX11_ringFrom 3 = .ok (.if_icmp .le 17, 3) := by decide +kernel
theorem dX11_ringFrom_6 : decode cX11_ringFrom 6 = .ok (.aload_n 0, 1) := by decide +kernel
theorem dX11_ringFrom_7 : decode cX11_ringFrom 7 = .ok (.iload_n 2, 1) := by decide +kernel
theorem dX11_ringFrom_8 : decode cX11_ringFrom 8 = .ok (.iload_n 1, 1) := by decide +kernel
theorem dX11_ringFrom_9 : decode cX11_ringFrom 9 = .ok (.invokevirtual 250, 3) := by decide +kernel
theorem dX11_ringFrom_12 : decode cX11_ringFrom 12 = .ok (.ifCond .eq 8, 3) := by decide +kernel
theorem dX11_ringFrom_15 : decode cX11_ringFrom 15 = .ok (.iload 4, 2) := by decide +kernel
theorem dX11_ringFrom_17 : decode cX11_ringFrom 17 = .ok (.goto 4, 3) := by decide +kernel
theorem dX11_ringFrom_20 : decode cX11_ringFrom 20 = .ok (.iconst 0, 1) := by decide +kernel
theorem dX11_ringFrom_21 : decode cX11_ringFrom 21 = .ok (.istore 5, 2) := by decide +kernel
theorem dX11_ringFrom_23 : decode cX11_ringFrom 23 = .ok (.iload_n 1, 1) := by decide +kernel
theorem dX11_ringFrom_24 : decode cX11_ringFrom 24 = .ok (.iconst 1, 1) := by decide +kernel
theorem dX11_ringFrom_25 : decode cX11_ringFrom 25 = .ok (.iadd, 1) := by decide +kernel
theorem dX11_ringFrom_26 : decode cX11_ringFrom 26 = .ok (.istore 6, 2) := by decide +kernel
theorem dX11_ringFrom_28 : decode cX11_ringFrom 28 = .ok (.iload 6, 2) := by decide +kernel
theorem dX11_ringFrom_30 : decode cX11_ringFrom 30 = .ok (.aload_n 0, 1) := by decide +kernel
theorem dX11_ringFrom_31 : decode cX11_ringFrom 31 = .ok (.getfield 111, 3) := by decide +kernel
theorem dX11_ringFrom_34 : decode cX11_ringFrom 34 = .ok (.if_icmp .ge 52, 3) := by decide +kernel
theorem dX11_ringFrom_37 : decode cX11_ringFrom 37 = .ok (.iload_n 3, 1) := by decide +kernel
theorem dX11_ringFrom_38 : decode cX11_ringFrom 38 = .ok (.iload 6, 2) := by decide +kernel
theorem dX11_ringFrom_40 : decode cX11_ringFrom 40 = .ok (.invokestatic 139, 3) := by decide +kernel
theorem dX11_ringFrom_43 : decode cX11_ringFrom 43 = .ok (.ifCond .ne 37, 3) := by decide +kernel
theorem dX11_ringFrom_46 : decode cX11_ringFrom 46 = .ok (.aload_n 0, 1) := by decide +kernel
theorem dX11_ringFrom_47 : decode cX11_ringFrom 47 = .ok (.iload_n 2, 1) := by decide +kernel
theorem dX11_ringFrom_48 : decode cX11_ringFrom 48 = .ok (.iload 6, 2) := by decide +kernel
theorem dX11_ringFrom_50 : decode cX11_ringFrom 50 = .ok (.invokevirtual 250, 3) := by decide +kernel
theorem dX11_ringFrom_53 : decode cX11_ringFrom 53 = .ok (.ifCond .eq 27, 3) := by decide +kernel
theorem dX11_ringFrom_56 : decode cX11_ringFrom 56 = .ok (.iload 5, 2) := by decide +kernel
theorem dX11_ringFrom_58 : decode cX11_ringFrom 58 = .ok (.aload_n 0, 1) := by decide +kernel
theorem dX11_ringFrom_59 : decode cX11_ringFrom 59 = .ok (.iload_n 1, 1) := by decide +kernel
theorem dX11_ringFrom_60 : decode cX11_ringFrom 60 = .ok (.iload 6, 2) := by decide +kernel
theorem dX11_ringFrom_62 : decode cX11_ringFrom 62 = .ok (.iload_n 3, 1) := by decide +kernel
theorem dX11_ringFrom_63 : decode cX11_ringFrom 63 = .ok (.iconst 1, 1) := by decide +kernel
theorem dX11_ringFrom_64 : decode cX11_ringFrom 64 = .ok (.iload 6, 2) := by decide +kernel
theorem dX11_ringFrom_66 : decode cX11_ringFrom 66 = .ok (.ishl, 1) := by decide +kernel
theorem dX11_ringFrom_67 : decode cX11_ringFrom 67 = .ok (.ior, 1) := by decide +kernel
theorem dX11_ringFrom_68 : decode cX11_ringFrom 68 = .ok (.iload 4, 2) := by decide +kernel
theorem dX11_ringFrom_70 : decode cX11_ringFrom 70 = .ok (.iconst 1, 1) := by decide +kernel
theorem dX11_ringFrom_71 : decode cX11_ringFrom 71 = .ok (.iadd, 1) := by decide +kernel
theorem dX11_ringFrom_72 : decode cX11_ringFrom 72 = .ok (.invokevirtual 253, 3) := by decide +kernel
theorem dX11_ringFrom_75 : decode cX11_ringFrom 75 = .ok (.invokestatic 242, 3) := by decide +kernel
theorem dX11_ringFrom_78 : decode cX11_ringFrom 78 = .ok (.istore 5, 2) := by decide +kernel
theorem dX11_ringFrom_80 : decode cX11_ringFrom 80 = .ok (.iinc 6 1, 3) := by decide +kernel
theorem dX11_ringFrom_83 : decode cX11_ringFrom 83 = .ok (.goto (-55), 3) := by decide +kernel
theorem dX11_ringFrom_86 : decode cX11_ringFrom 86 = .ok (.iload 5, 2) := by decide +kernel
theorem dX11_ringFrom_88 : decode cX11_ringFrom 88 = .ok (.ireturn, 1) := by decide +kernel
theorem dX11_ring_0 : decode cX11_ring 0 = .ok (.iconst 0, 1) := by decide +kernel
theorem dX11_ring_1 : decode cX11_ring 1 = .ok (.istore_n 1, 1) := by decide +kernel
theorem dX11_ring_2 : decode cX11_ring 2 = .ok (.iconst 0, 1) := by decide +kernel
theorem dX11_ring_3 : decode cX11_ring 3 = .ok (.istore_n 2, 1) := by decide +kernel
theorem dX11_ring_4 : decode cX11_ring 4 = .ok (.iload_n 2, 1) := by decide +kernel
theorem dX11_ring_5 : decode cX11_ring 5 = .ok (.aload_n 0, 1) := by decide +kernel
theorem dX11_ring_6 : decode cX11_ring 6 = .ok (.getfield 111, 3) := by decide +kernel
theorem dX11_ring_9 : decode cX11_ring 9 = .ok (.if_icmp .ge 24, 3) := by decide +kernel
theorem dX11_ring_12 : decode cX11_ring 12 = .ok (.iload_n 1, 1) := by decide +kernel
theorem dX11_ring_13 : decode cX11_ring 13 = .ok (.aload_n 0, 1) := by decide +kernel
theorem dX11_ring_14 : decode cX11_ring 14 = .ok (.iload_n 2, 1) := by decide +kernel
theorem dX11_ring_15 : decode cX11_ring 15 = .ok (.iload_n 2, 1) := by decide +kernel
theorem dX11_ring_16 : decode cX11_ring 16 = .ok (.iconst 1, 1) := by decide +kernel
theorem dX11_ring_17 : decode cX11_ring 17 = .ok (.iload_n 2, 1) := by decide +kernel
theorem dX11_ring_18 : decode cX11_ring 18 = .ok (.ishl, 1) := by decide +kernel
theorem dX11_ring_19 : decode cX11_ring 19 = .ok (.iconst 1, 1) := by decide +kernel
theorem dX11_ring_20 : decode cX11_ring 20 = .ok (.invokevirtual 253, 3) := by decide +kernel
theorem dX11_ring_23 : decode cX11_ring 23 = .ok (.invokestatic 242, 3) := by decide +kernel
theorem dX11_ring_26 : decode cX11_ring 26 = .ok (.istore_n 1, 1) := by decide +kernel
theorem dX11_ring_27 : decode cX11_ring 27 = .ok (.iinc 2 1, 3) := by decide +kernel
theorem dX11_ring_30 : decode cX11_ring 30 = .ok (.goto (-26), 3) := by decide +kernel
theorem dX11_ring_33 : decode cX11_ring 33 = .ok (.iload_n 1, 1) := by decide +kernel
theorem dX11_ring_34 : decode cX11_ring 34 = .ok (.ireturn, 1) := by decide +kernel
theorem dX11_backTo_0 : decode cX11_backTo 0 = .ok (.iconst 0, 1) := by decide +kernel
theorem dX11_backTo_1 : decode cX11_backTo 1 = .ok (.istore_n 2, 1) := by decide +kernel
theorem dX11_backTo_2 : decode cX11_backTo 2 = .ok (.iconst 0, 1) := by decide +kernel
theorem dX11_backTo_3 : decode cX11_backTo 3 = .ok (.istore_n 3, 1) := by decide +kernel
theorem dX11_backTo_4 : decode cX11_backTo 4 = .ok (.iload_n 3, 1) := by decide +kernel
theorem dX11_backTo_5 : decode cX11_backTo 5 = .ok (.bipush 12, 2) := by decide +kernel
theorem dX11_backTo_7 : decode cX11_backTo 7 = .ok (.if_icmp .ge 24, 3) := by decide +kernel
theorem dX11_backTo_10 : decode cX11_backTo 10 = .ok (.aload_n 0, 1) := by decide +kernel
theorem dX11_backTo_11 : decode cX11_backTo 11 = .ok (.getfield 15, 3) := by decide +kernel
theorem dX11_backTo_14 : decode cX11_backTo 14 = .ok (.iload_n 3, 1) := by decide +kernel
theorem dX11_backTo_15 : decode cX11_backTo 15 = .ok (.iaload, 1) := by decide +kernel
theorem dX11_backTo_16 : decode cX11_backTo 16 = .ok (.ifCond .le 9, 3) := by decide +kernel
theorem dX11_backTo_19 : decode cX11_backTo 19 = .ok (.iload_n 2, 1) := by decide +kernel
theorem dX11_backTo_20 : decode cX11_backTo 20 = .ok (.iconst 1, 1) := by decide +kernel
theorem dX11_backTo_21 : decode cX11_backTo 21 = .ok (.iload_n 3, 1) := by decide +kernel
theorem dX11_backTo_22 : decode cX11_backTo 22 = .ok (.ishl, 1) := by decide +kernel
theorem dX11_backTo_23 : decode cX11_backTo 23 = .ok (.ior, 1) := by decide +kernel
theorem dX11_backTo_24 : decode cX11_backTo 24 = .ok (.istore_n 2, 1) := by decide +kernel
theorem dX11_backTo_25 : decode cX11_backTo 25 = .ok (.iinc 3 1, 3) := by decide +kernel
theorem dX11_backTo_28 : decode cX11_backTo 28 = .ok (.goto (-24), 3) := by decide +kernel
theorem dX11_backTo_31 : decode cX11_backTo 31 = .ok (.iconst 0, 1) := by decide +kernel
theorem dX11_backTo_32 : decode cX11_backTo 32 = .ok (.istore_n 3, 1) := by decide +kernel
theorem dX11_backTo_33 : decode cX11_backTo 33 = .ok (.iload_n 3, 1) := by decide +kernel
theorem dX11_backTo_34 : decode cX11_backTo 34 = .ok (.aload_n 0, 1) := by decide +kernel
theorem dX11_backTo_35 : decode cX11_backTo 35 = .ok (.getfield 111, 3) := by decide +kernel
theorem dX11_backTo_38 : decode cX11_backTo 38 = .ok (.if_icmp .ge 23, 3) := by decide +kernel
theorem dX11_backTo_41 : decode cX11_backTo 41 = .ok (.iload_n 3, 1) := by decide +kernel
theorem dX11_backTo_42 : decode cX11_backTo 42 = .ok (.iload_n 1, 1) := by decide +kernel
theorem dX11_backTo_43 : decode cX11_backTo 43 = .ok (.if_icmp .eq 12, 3) := by decide +kernel
theorem dX11_backTo_46 : decode cX11_backTo 46 = .ok (.iload_n 2, 1) := by decide +kernel
theorem dX11_backTo_47 : decode cX11_backTo 47 = .ok (.aload_n 0, 1) := by decide +kernel
theorem dX11_backTo_48 : decode cX11_backTo 48 = .ok (.getfield 24, 3) := by decide +kernel
theorem dX11_backTo_51 : decode cX11_backTo 51 = .ok (.iload_n 3, 1) := by decide +kernel
theorem dX11_backTo_52 : decode cX11_backTo 52 = .ok (.iaload, 1) := by decide +kernel
theorem dX11_backTo_53 : decode cX11_backTo 53 = .ok (.ior, 1) := by decide +kernel
theorem dX11_backTo_54 : decode cX11_backTo 54 = .ok (.istore_n 2, 1) := by decide +kernel
theorem dX11_backTo_55 : decode cX11_backTo 55 = .ok (.iinc 3 1, 3) := by decide +kernel
theorem dX11_backTo_58 : decode cX11_backTo 58 = .ok (.goto (-25), 3) := by decide +kernel
theorem dX11_backTo_61 : decode cX11_backTo 61 = .ok (.iload_n 2, 1) := by decide +kernel
theorem dX11_backTo_62 : decode cX11_backTo 62 = .ok (.aload_n 0, 1) := by decide +kernel
theorem dX11_backTo_63 : decode cX11_backTo 63 = .ok (.getfield 27, 3) := by decide +kernel
theorem dX11_backTo_66 : decode cX11_backTo 66 = .ok (.iload_n 1, 1) := by decide +kernel
theorem dX11_backTo_67 : decode cX11_backTo 67 = .ok (.iaload, 1) := by decide +kernel
theorem dX11_backTo_68 : decode cX11_backTo 68 = .ok (.iand, 1) := by decide +kernel
theorem dX11_backTo_69 : decode cX11_backTo 69 = .ok (.aload_n 0, 1) := by decide +kernel
theorem dX11_backTo_70 : decode cX11_backTo 70 = .ok (.getfield 24, 3) := by decide +kernel
theorem dX11_backTo_73 : decode cX11_backTo 73 = .ok (.iload_n 1, 1) := by decide +kernel
theorem dX11_backTo_74 : decode cX11_backTo 74 = .ok (.iaload, 1) := by decide +kernel
theorem dX11_backTo_75 : decode cX11_backTo 75 = .ok (.iconst (-1), 1) := by decide +kernel
theorem dX11_backTo_76 : decode cX11_backTo 76 = .ok (.ixor, 1) := by decide +kernel
theorem dX11_backTo_77 : decode cX11_backTo 77 = .ok (.iand, 1) := by decide +kernel
theorem dX11_backTo_78 : decode cX11_backTo 78 = .ok (.ireturn, 1) := by decide +kernel
theorem dX11_told_0 : decode cX11_told 0 = .ok (.iload_n 1, 1) := by decide +kernel
theorem dX11_told_1 : decode cX11_told 1 = .ok (.bipush 10, 2) := by decide +kernel
theorem dX11_told_3 : decode cX11_told 3 = .ok (.isub, 1) := by decide +kernel
theorem dX11_told_4 : decode cX11_told 4 = .ok (.invokestatic 122, 3) := by decide +kernel
theorem dX11_told_7 : decode cX11_told 7 = .ok (.ifCond .eq 13, 3) := by decide +kernel
theorem dX11_told_10 : decode cX11_told 10 = .ok (.aload_n 0, 1) := by decide +kernel
theorem dX11_told_11 : decode cX11_told 11 = .ok (.getfield 15, 3) := by decide +kernel
theorem dX11_told_14 : decode cX11_told 14 = .ok (.iload_n 1, 1) := by decide +kernel
theorem dX11_told_15 : decode cX11_told 15 = .ok (.bipush 10, 2) := by decide +kernel
theorem dX11_told_17 : decode cX11_told 17 = .ok (.isub, 1) := by decide +kernel
theorem dX11_told_18 : decode cX11_told 18 = .ok (.iaload, 1) := by decide +kernel
theorem dX11_told_19 : decode cX11_told 19 = .ok (.ireturn, 1) := by decide +kernel
theorem dX11_told_20 : decode cX11_told 20 = .ok (.iload_n 1, 1) := by decide +kernel
theorem dX11_told_21 : decode cX11_told 21 = .ok (.bipush 30, 2) := by decide +kernel
theorem dX11_told_23 : decode cX11_told 23 = .ok (.isub, 1) := by decide +kernel
theorem dX11_told_24 : decode cX11_told 24 = .ok (.invokestatic 122, 3) := by decide +kernel
theorem dX11_told_27 : decode cX11_told 27 = .ok (.ifCond .eq 13, 3) := by decide +kernel
theorem dX11_told_30 : decode cX11_told 30 = .ok (.aload_n 0, 1) := by decide +kernel
theorem dX11_told_31 : decode cX11_told 31 = .ok (.getfield 9, 3) := by decide +kernel
theorem dX11_told_34 : decode cX11_told 34 = .ok (.iload_n 1, 1) := by decide +kernel
theorem dX11_told_35 : decode cX11_told 35 = .ok (.bipush 30, 2) := by decide +kernel
theorem dX11_told_37 : decode cX11_told 37 = .ok (.isub, 1) := by decide +kernel
theorem dX11_told_38 : decode cX11_told 38 = .ok (.iaload, 1) := by decide +kernel
theorem dX11_told_39 : decode cX11_told 39 = .ok (.ireturn, 1) := by decide +kernel
theorem dX11_told_40 : decode cX11_told 40 = .ok (.iload_n 1, 1) := by decide +kernel
theorem dX11_told_41 : decode cX11_told 41 = .ok (.tableswitch 60 0 4 #[35, 40, 45, 50, 55], 35) := by decide +kernel
theorem dX11_told_76 : decode cX11_told 76 = .ok (.aload_n 0, 1) := by decide +kernel
theorem dX11_told_77 : decode cX11_told 77 = .ok (.getfield 221, 3) := by decide +kernel
theorem dX11_told_80 : decode cX11_told 80 = .ok (.ireturn, 1) := by decide +kernel
theorem dX11_told_81 : decode cX11_told 81 = .ok (.aload_n 0, 1) := by decide +kernel
theorem dX11_told_82 : decode cX11_told 82 = .ok (.invokevirtual 239, 3) := by decide +kernel
theorem dX11_told_85 : decode cX11_told 85 = .ok (.ireturn, 1) := by decide +kernel
theorem dX11_told_86 : decode cX11_told 86 = .ok (.aload_n 0, 1) := by decide +kernel
theorem dX11_told_87 : decode cX11_told 87 = .ok (.invokevirtual 257, 3) := by decide +kernel
theorem dX11_told_90 : decode cX11_told 90 = .ok (.ireturn, 1) := by decide +kernel
theorem dX11_told_91 : decode cX11_told 91 = .ok (.aload_n 0, 1) := by decide +kernel
theorem dX11_told_92 : decode cX11_told 92 = .ok (.invokevirtual 260, 3) := by decide +kernel
theorem dX11_told_95 : decode cX11_told 95 = .ok (.ireturn, 1) := by decide +kernel
theorem dX11_told_96 : decode cX11_told 96 = .ok (.aload_n 0, 1) := by decide +kernel
theorem dX11_told_97 : decode cX11_told 97 = .ok (.invokevirtual 263, 3) := by decide +kernel
theorem dX11_told_100 : decode cX11_told 100 = .ok (.ireturn, 1) := by decide +kernel
theorem dX11_told_101 : decode cX11_told 101 = .ok (.iconst (-1), 1) := by decide +kernel
theorem dX11_told_102 : decode cX11_told 102 = .ok (.ireturn, 1) := by decide +kernel
theorem dX11_pass_0 : decode cX11_pass 0 = .ok (.iload_n 1, 1) := by decide +kernel
theorem dX11_pass_1 : decode cX11_pass 1 = .ok (.iconst 0, 1) := by decide +kernel
theorem dX11_pass_2 : decode cX11_pass 2 = .ok (.bipush 60, 2) := by decide +kernel
theorem dX11_pass_4 : decode cX11_pass 4 = .ok (.invokestatic 114, 3) := by decide +kernel
theorem dX11_pass_7 : decode cX11_pass 7 = .ok (.ifCond .ne 6, 3) := by decide +kernel
theorem dX11_pass_10 : decode cX11_pass 10 = .ok (.bipush (-2), 2) := by decide +kernel
theorem dX11_pass_12 : decode cX11_pass 12 = .ok (.ireturn, 1) := by decide +kernel
theorem dX11_pass_13 : decode cX11_pass 13 = .ok (.aload_n 0, 1) := by decide +kernel
theorem dX11_pass_14 : decode cX11_pass 14 = .ok (.getfield 221, 3) := by decide +kernel
theorem dX11_pass_17 : decode cX11_pass 17 = .ok (.iload_n 1, 1) := by decide +kernel
theorem dX11_pass_18 : decode cX11_pass 18 = .ok (.iadd, 1) := by decide +kernel
theorem dX11_pass_19 : decode cX11_pass 19 = .ok (.sipush 9999, 3) := by decide +kernel
theorem dX11_pass_22 : decode cX11_pass 22 = .ok (.if_icmp .le 6, 3) := by decide +kernel
theorem dX11_pass_25 : decode cX11_pass 25 = .ok (.bipush (-3), 2) := by decide +kernel
theorem dX11_pass_27 : decode cX11_pass 27 = .ok (.ireturn, 1) := by decide +kernel
theorem dX11_pass_28 : decode cX11_pass 28 = .ok (.iconst 0, 1) := by decide +kernel
theorem dX11_pass_29 : decode cX11_pass 29 = .ok (.istore_n 2, 1) := by decide +kernel
theorem dX11_pass_30 : decode cX11_pass 30 = .ok (.iload_n 2, 1) := by decide +kernel
theorem dX11_pass_31 : decode cX11_pass 31 = .ok (.iload_n 1, 1) := by decide +kernel
theorem dX11_pass_32 : decode cX11_pass 32 = .ok (.if_icmp .ge 13, 3) := by decide +kernel
theorem dX11_pass_35 : decode cX11_pass 35 = .ok (.aload_n 0, 1) := by decide +kernel
theorem dX11_pass_36 : decode cX11_pass 36 = .ok (.invokevirtual 266, 3) := by decide +kernel
theorem dX11_pass_39 : decode cX11_pass 39 = .ok (.iinc 2 1, 3) := by decide +kernel
theorem dX11_pass_42 : decode cX11_pass 42 = .ok (.goto (-12), 3) := by decide +kernel
theorem dX11_pass_45 : decode cX11_pass 45 = .ok (.aload_n 0, 1) := by decide +kernel
theorem dX11_pass_46 : decode cX11_pass 46 = .ok (.getfield 221, 3) := by decide +kernel
theorem dX11_pass_49 : decode cX11_pass 49 = .ok (.ireturn, 1) := by decide +kernel
theorem dX11_on_0 : decode cX11_on 0 = .ok (.iload_n 2, 1) := by decide +kernel
theorem dX11_on_1 : decode cX11_on 1 = .ok (.ifCond .eq 26, 3) := by decide +kernel
theorem dX11_on_4 : decode cX11_on 4 = .ok (.iload_n 2, 1) := by decide +kernel
theorem dX11_on_5 : decode cX11_on 5 = .ok (.bipush 10, 2) := by decide +kernel
theorem dX11_on_7 : decode cX11_on 7 = .ok (.isub, 1) := by decide +kernel
theorem dX11_on_8 : decode cX11_on 8 = .ok (.invokestatic 122, 3) := by decide +kernel
theorem dX11_on_11 : decode cX11_on 11 = .ok (.ifCond .ne 16, 3) := by decide +kernel
theorem dX11_on_14 : decode cX11_on 14 = .ok (.aload_n 0, 1) := by decide +kernel
theorem dX11_on_15 : decode cX11_on 15 = .ok (.iload_n 2, 1) := by decide +kernel
theorem dX11_on_16 : decode cX11_on 16 = .ok (.bipush 30, 2) := by decide +kernel
theorem dX11_on_18 : decode cX11_on 18 = .ok (.isub, 1) := by decide +kernel
theorem dX11_on_19 : decode cX11_on 19 = .ok (.invokevirtual 118, 3) := by decide +kernel
theorem dX11_on_22 : decode cX11_on 22 = .ok (.ifCond .ne 5, 3) := by decide +kernel
theorem dX11_on_25 : decode cX11_on 25 = .ok (.iconst (-1), 1) := by decide +kernel
theorem dX11_on_26 : decode cX11_on 26 = .ok (.ireturn, 1) := by decide +kernel
theorem dX11_on_27 : decode cX11_on 27 = .ok (.iload_n 1, 1) := by decide +kernel
theorem dX11_on_28 : decode cX11_on 28 = .ok (.iconst 0, 1) := by decide +kernel
theorem dX11_on_29 : decode cX11_on 29 = .ok (.bipush 60, 2) := by decide +kernel
theorem dX11_on_31 : decode cX11_on 31 = .ok (.invokestatic 114, 3) := by decide +kernel
theorem dX11_on_34 : decode cX11_on 34 = .ok (.ifCond .ne 6, 3) := by decide +kernel
theorem dX11_on_37 : decode cX11_on 37 = .ok (.bipush (-2), 2) := by decide +kernel
theorem dX11_on_39 : decode cX11_on 39 = .ok (.ireturn, 1) := by decide +kernel
theorem dX11_on_40 : decode cX11_on 40 = .ok (.aload_n 0, 1) := by decide +kernel
theorem dX11_on_41 : decode cX11_on 41 = .ok (.aload_n 0, 1) := by decide +kernel
theorem dX11_on_42 : decode cX11_on 42 = .ok (.getfield 91, 3) := by decide +kernel
theorem dX11_on_45 : decode cX11_on 45 = .ok (.invokevirtual 269, 3) := by decide +kernel
theorem dX11_on_48 : decode cX11_on 48 = .ok (.iconst 0, 1) := by decide +kernel
theorem dX11_on_49 : decode cX11_on 49 = .ok (.istore_n 3, 1) := by decide +kernel
theorem dX11_on_50 : decode cX11_on 50 = .ok (.iload_n 3, 1) := by decide +kernel
theorem dX11_on_51 : decode cX11_on 51 = .ok (.iload_n 1, 1) := by decide +kernel
theorem dX11_on_52 : decode cX11_on 52 = .ok (.if_icmp .ge 13, 3) := by decide +kernel
theorem dX11_on_55 : decode cX11_on 55 = .ok (.aload_n 0, 1) := by decide +kernel
theorem dX11_on_56 : decode cX11_on 56 = .ok (.invokevirtual 266, 3) := by decide +kernel
theorem dX11_on_59 : decode cX11_on 59 = .ok (.iinc 3 1, 3) := by decide +kernel
theorem dX11_on_62 : decode cX11_on 62 = .ok (.goto (-12), 3) := by decide +kernel
theorem dX11_on_65 : decode cX11_on 65 = .ok (.iload_n 2, 1) := by decide +kernel
theorem dX11_on_66 : decode cX11_on 66 = .ok (.ifCond .ne 10, 3) := by decide +kernel
theorem dX11_on_69 : decode cX11_on 69 = .ok (.aload_n 0, 1) := by decide +kernel
theorem dX11_on_70 : decode cX11_on 70 = .ok (.invokevirtual 257, 3) := by decide +kernel
theorem dX11_on_73 : decode cX11_on 73 = .ok (.goto 30, 3) := by decide +kernel
theorem dX11_on_76 : decode cX11_on 76 = .ok (.iload_n 2, 1) := by decide +kernel
theorem dX11_on_77 : decode cX11_on 77 = .ok (.bipush 30, 2) := by decide +kernel
theorem dX11_on_79 : decode cX11_on 79 = .ok (.if_icmp .ge 15, 3) := by decide +kernel
theorem dX11_on_82 : decode cX11_on 82 = .ok (.aload_n 0, 1) := by decide +kernel
theorem dX11_on_83 : decode cX11_on 83 = .ok (.getfield 15, 3) := by decide +kernel
theorem dX11_on_86 : decode cX11_on 86 = .ok (.iload_n 2, 1) := by decide +kernel
theorem dX11_on_87 : decode cX11_on 87 = .ok (.bipush 10, 2) := by decide +kernel
theorem dX11_on_89 : decode cX11_on 89 = .ok (.isub, 1) := by decide +kernel
theorem dX11_on_90 : decode cX11_on 90 = .ok (.iaload, 1) := by decide +kernel
theorem dX11_on_91 : decode cX11_on 91 = .ok (.goto 12, 3) := by decide +kernel
theorem dX11_on_94 : decode cX11_on 94 = .ok (.aload_n 0, 1) := by decide +kernel
theorem dX11_on_95 : decode cX11_on 95 = .ok (.getfield 24, 3) := by decide +kernel
theorem dX11_on_98 : decode cX11_on 98 = .ok (.iload_n 2, 1) := by decide +kernel
theorem dX11_on_99 : decode cX11_on 99 = .ok (.bipush 30, 2) := by decide +kernel
theorem dX11_on_101 : decode cX11_on 101 = .ok (.isub, 1) := by decide +kernel
theorem dX11_on_102 : decode cX11_on 102 = .ok (.iaload, 1) := by decide +kernel
theorem dX11_on_103 : decode cX11_on 103 = .ok (.istore_n 3, 1) := by decide +kernel
theorem dX11_on_104 : decode cX11_on 104 = .ok (.aload_n 0, 1) := by decide +kernel
theorem dX11_on_105 : decode cX11_on 105 = .ok (.aload_n 0, 1) := by decide +kernel
theorem dX11_on_106 : decode cX11_on 106 = .ok (.getfield 91, 3) := by decide +kernel
theorem dX11_on_109 : decode cX11_on 109 = .ok (.invokevirtual 273, 3) := by decide +kernel
theorem dX11_on_112 : decode cX11_on 112 = .ok (.iload_n 3, 1) := by decide +kernel
theorem dX11_on_113 : decode cX11_on 113 = .ok (.ireturn, 1) := by decide +kernel
theorem dX11_empty_0 : decode cX11_empty 0 = .ok (.aload_n 0, 1) := by decide +kernel
theorem dX11_empty_1 : decode cX11_empty 1 = .ok (.aload_n 0, 1) := by decide +kernel
theorem dX11_empty_2 : decode cX11_empty 2 = .ok (.getfield 91, 3) := by decide +kernel
theorem dX11_empty_5 : decode cX11_empty 5 = .ok (.invokevirtual 269, 3) := by decide +kernel
theorem dX11_empty_8 : decode cX11_empty 8 = .ok (.bipush (-5), 2) := by decide +kernel
theorem dX11_empty_10 : decode cX11_empty 10 = .ok (.istore_n 2, 1) := by decide +kernel
theorem dX11_empty_11 : decode cX11_empty 11 = .ok (.iconst 0, 1) := by decide +kernel
theorem dX11_empty_12 : decode cX11_empty 12 = .ok (.istore_n 3, 1) := by decide +kernel
theorem dX11_empty_13 : decode cX11_empty 13 = .ok (.iload_n 3, 1) := by decide +kernel
theorem dX11_empty_14 : decode cX11_empty 14 = .ok (.bipush 61, 2) := by decide +kernel
theorem dX11_empty_16 : decode cX11_empty 16 = .ok (.if_icmp .ge 34, 3) := by decide +kernel
theorem dX11_empty_19 : decode cX11_empty 19 = .ok (.iload_n 2, 1) := by decide +kernel
theorem dX11_empty_20 : decode cX11_empty 20 = .ok (.bipush (-5), 2) := by decide +kernel
theorem dX11_empty_22 : decode cX11_empty 22 = .ok (.if_icmp .ne 28, 3) := by decide +kernel
theorem dX11_empty_25 : decode cX11_empty 25 = .ok (.iload_n 3, 1) := by decide +kernel
theorem dX11_empty_26 : decode cX11_empty 26 = .ok (.ifCond .le 7, 3) := by decide +kernel
theorem dX11_empty_29 : decode cX11_empty 29 = .ok (.aload_n 0, 1) := by decide +kernel
theorem dX11_empty_30 : decode cX11_empty 30 = .ok (.invokevirtual 266, 3) := by decide +kernel
theorem dX11_empty_33 : decode cX11_empty 33 = .ok (.aload_n 0, 1) := by decide +kernel
theorem dX11_empty_34 : decode cX11_empty 34 = .ok (.getfield 24, 3) := by decide +kernel
theorem dX11_empty_37 : decode cX11_empty 37 = .ok (.iload_n 1, 1) := by decide +kernel
theorem dX11_empty_38 : decode cX11_empty 38 = .ok (.iaload, 1) := by decide +kernel
theorem dX11_empty_39 : decode cX11_empty 39 = .ok (.ifCond .ne 5, 3) := by decide +kernel
theorem dX11_empty_42 : decode cX11_empty 42 = .ok (.iload_n 3, 1) := by decide +kernel
theorem dX11_empty_43 : decode cX11_empty 43 = .ok (.istore_n 2, 1) := by decide +kernel
theorem dX11_empty_44 : decode cX11_empty 44 = .ok (.iinc 3 1, 3) := by decide +kernel
theorem dX11_empty_47 : decode cX11_empty 47 = .ok (.goto (-34), 3) := by decide +kernel
theorem dX11_empty_50 : decode cX11_empty 50 = .ok (.aload_n 0, 1) := by decide +kernel
theorem dX11_empty_51 : decode cX11_empty 51 = .ok (.aload_n 0, 1) := by decide +kernel
theorem dX11_empty_52 : decode cX11_empty 52 = .ok (.getfield 91, 3) := by decide +kernel
theorem dX11_empty_55 : decode cX11_empty 55 = .ok (.invokevirtual 273, 3) := by decide +kernel
theorem dX11_empty_58 : decode cX11_empty 58 = .ok (.iload_n 2, 1) := by decide +kernel
theorem dX11_empty_59 : decode cX11_empty 59 = .ok (.ireturn, 1) := by decide +kernel
theorem dX11_lasts_0 : decode cX11_lasts 0 = .ok (.aload_n 0, 1) := by decide +kernel
theorem dX11_lasts_1 : decode cX11_lasts 1 = .ok (.iload_n 1, 1) := by decide +kernel
theorem dX11_lasts_2 : decode cX11_lasts 2 = .ok (.invokevirtual 118, 3) := by decide +kernel
theorem dX11_lasts_5 : decode cX11_lasts 5 = .ok (.ifCond .eq 10, 3) := by decide +kernel
theorem dX11_lasts_8 : decode cX11_lasts 8 = .ok (.iload_n 2, 1) := by decide +kernel
theorem dX11_lasts_9 : decode cX11_lasts 9 = .ok (.invokestatic 122, 3) := by decide +kernel
theorem dX11_lasts_12 : decode cX11_lasts 12 = .ok (.ifCond .ne 5, 3) := by decide +kernel
theorem dX11_lasts_15 : decode cX11_lasts 15 = .ok (.iconst (-1), 1) := by decide +kernel
theorem dX11_lasts_16 : decode cX11_lasts 16 = .ok (.ireturn, 1) := by decide +kernel
theorem dX11_lasts_17 : decode cX11_lasts 17 = .ok (.aload_n 0, 1) := by decide +kernel
theorem dX11_lasts_18 : decode cX11_lasts 18 = .ok (.getfield 24, 3) := by decide +kernel
theorem dX11_lasts_21 : decode cX11_lasts 21 = .ok (.iload_n 1, 1) := by decide +kernel
theorem dX11_lasts_22 : decode cX11_lasts 22 = .ok (.iaload, 1) := by decide +kernel
theorem dX11_lasts_23 : decode cX11_lasts 23 = .ok (.iload_n 2, 1) := by decide +kernel
theorem dX11_lasts_24 : decode cX11_lasts 24 = .ok (.invokestatic 139, 3) := by decide +kernel
theorem dX11_lasts_27 : decode cX11_lasts 27 = .ok (.ifCond .ne 6, 3) := by decide +kernel
theorem dX11_lasts_30 : decode cX11_lasts 30 = .ok (.bipush (-5), 2) := by decide +kernel
theorem dX11_lasts_32 : decode cX11_lasts 32 = .ok (.ireturn, 1) := by decide +kernel
theorem dX11_lasts_33 : decode cX11_lasts 33 = .ok (.aload_n 0, 1) := by decide +kernel
theorem dX11_lasts_34 : decode cX11_lasts 34 = .ok (.aload_n 0, 1) := by decide +kernel
theorem dX11_lasts_35 : decode cX11_lasts 35 = .ok (.getfield 91, 3) := by decide +kernel
theorem dX11_lasts_38 : decode cX11_lasts 38 = .ok (.invokevirtual 269, 3) := by decide +kernel
theorem dX11_lasts_41 : decode cX11_lasts 41 = .ok (.bipush (-5), 2) := by decide +kernel
theorem dX11_lasts_43 : decode cX11_lasts 43 = .ok (.istore_n 3, 1) := by decide +kernel
theorem dX11_lasts_44 : decode cX11_lasts 44 = .ok (.iconst 1, 1) := by decide +kernel
theorem dX11_lasts_45 : decode cX11_lasts 45 = .ok (.istore 4, 2) := by decide +kernel
theorem dX11_lasts_47 : decode cX11_lasts 47 = .ok (.iload 4, 2) := by decide +kernel
theorem dX11_lasts_49 : decode cX11_lasts 49 = .ok (.bipush 61, 2) := by decide +kernel
theorem dX11_lasts_51 : decode cX11_lasts 51 = .ok (.if_icmp .ge 35, 3) := by decide +kernel
theorem dX11_lasts_54 : decode cX11_lasts 54 = .ok (.iload_n 3, 1) := by decide +kernel
theorem dX11_lasts_55 : decode cX11_lasts 55 = .ok (.bipush (-5), 2) := by decide +kernel
theorem dX11_lasts_57 : decode cX11_lasts 57 = .ok (.if_icmp .ne 29, 3) := by decide +kernel
theorem dX11_lasts_60 : decode cX11_lasts 60 = .ok (.aload_n 0, 1) := by decide +kernel
theorem dX11_lasts_61 : decode cX11_lasts 61 = .ok (.invokevirtual 266, 3) := by decide +kernel
theorem dX11_lasts_64 : decode cX11_lasts 64 = .ok (.aload_n 0, 1) := by decide +kernel
theorem dX11_lasts_65 : decode cX11_lasts 65 = .ok (.getfield 24, 3) := by decide +kernel
theorem dX11_lasts_68 : decode cX11_lasts 68 = .ok (.iload_n 1, 1) := by decide +kernel
theorem dX11_lasts_69 : decode cX11_lasts 69 = .ok (.iaload, 1) := by decide +kernel
theorem dX11_lasts_70 : decode cX11_lasts 70 = .ok (.iload_n 2, 1) := by decide +kernel
theorem dX11_lasts_71 : decode cX11_lasts 71 = .ok (.invokestatic 139, 3) := by decide +kernel
theorem dX11_lasts_74 : decode cX11_lasts 74 = .ok (.ifCond .ne 6, 3) := by decide +kernel
theorem dX11_lasts_77 : decode cX11_lasts 77 = .ok (.iload 4, 2) := by decide +kernel
theorem dX11_lasts_79 : decode cX11_lasts 79 = .ok (.istore_n 3, 1) := by decide +kernel
theorem dX11_lasts_80 : decode cX11_lasts 80 = .ok (.iinc 4 1, 3) := by decide +kernel
theorem dX11_lasts_83 : decode cX11_lasts 83 = .ok (.goto (-36), 3) := by decide +kernel
theorem dX11_lasts_86 : decode cX11_lasts 86 = .ok (.aload_n 0, 1) := by decide +kernel
theorem dX11_lasts_87 : decode cX11_lasts 87 = .ok (.aload_n 0, 1) := by decide +kernel
theorem dX11_lasts_88 : decode cX11_lasts 88 = .ok (.getfield 91, 3) := by decide +kernel
theorem dX11_lasts_91 : decode cX11_lasts 91 = .ok (.invokevirtual 273, 3) := by decide +kernel
theorem dX11_lasts_94 : decode cX11_lasts 94 = .ok (.iload_n 3, 1) := by decide +kernel
theorem dX11_lasts_95 : decode cX11_lasts 95 = .ok (.ireturn, 1) := by decide +kernel
theorem dX11_goesOne_0 : decode cX11_goesOne 0 = .ok (.aload_n 0, 1) := by decide +kernel
theorem dX11_goesOne_1 : decode cX11_goesOne 1 = .ok (.iload_n 1, 1) := by decide +kernel
theorem dX11_goesOne_2 : decode cX11_goesOne 2 = .ok (.invokevirtual 129, 3) := by decide +kernel
theorem dX11_goesOne_5 : decode cX11_goesOne 5 = .ok (.istore_n 2, 1) := by decide +kernel
theorem dX11_goesOne_6 : decode cX11_goesOne 6 = .ok (.iload_n 2, 1) := by decide +kernel
theorem dX11_goesOne_7 : decode cX11_goesOne 7 = .ok (.bipush (-5), 2) := by decide +kernel
theorem dX11_goesOne_9 : decode cX11_goesOne 9 = .ok (.if_icmp .eq 29, 3) := by decide +kernel
theorem dX11_goesOne_12 : decode cX11_goesOne 12 = .ok (.aload_n 0, 1) := by decide +kernel
theorem dX11_goesOne_13 : decode cX11_goesOne 13 = .ok (.getfield 24, 3) := by decide +kernel
theorem dX11_goesOne_16 : decode cX11_goesOne 16 = .ok (.iload_n 1, 1) := by decide +kernel
theorem dX11_goesOne_17 : decode cX11_goesOne 17 = .ok (.dup2, 1) := by decide +kernel
theorem dX11_goesOne_18 : decode cX11_goesOne 18 = .ok (.iaload, 1) := by decide +kernel
theorem dX11_goesOne_19 : decode cX11_goesOne 19 = .ok (.iconst 1, 1) := by decide +kernel
theorem dX11_goesOne_20 : decode cX11_goesOne 20 = .ok (.iload_n 2, 1) := by decide +kernel
theorem dX11_goesOne_21 : decode cX11_goesOne 21 = .ok (.ishl, 1) := by decide +kernel
theorem dX11_goesOne_22 : decode cX11_goesOne 22 = .ok (.iconst (-1), 1) := by decide +kernel
theorem dX11_goesOne_23 : decode cX11_goesOne 23 = .ok (.ixor, 1) := by decide +kernel
theorem dX11_goesOne_24 : decode cX11_goesOne 24 = .ok (.iand, 1) := by decide +kernel
theorem dX11_goesOne_25 : decode cX11_goesOne 25 = .ok (.iastore, 1) := by decide +kernel
theorem dX11_goesOne_26 : decode cX11_goesOne 26 = .ok (.aload_n 0, 1) := by decide +kernel
theorem dX11_goesOne_27 : decode cX11_goesOne 27 = .ok (.getfield 27, 3) := by decide +kernel
theorem dX11_goesOne_30 : decode cX11_goesOne 30 = .ok (.iload_n 1, 1) := by decide +kernel
theorem dX11_goesOne_31 : decode cX11_goesOne 31 = .ok (.dup2, 1) := by decide +kernel
theorem dX11_goesOne_32 : decode cX11_goesOne 32 = .ok (.iaload, 1) := by decide +kernel
theorem dX11_goesOne_33 : decode cX11_goesOne 33 = .ok (.iconst 1, 1) := by decide +kernel
theorem dX11_goesOne_34 : decode cX11_goesOne 34 = .ok (.iload_n 2, 1) := by decide +kernel
theorem dX11_goesOne_35 : decode cX11_goesOne 35 = .ok (.ishl, 1) := by decide +kernel
theorem dX11_goesOne_36 : decode cX11_goesOne 36 = .ok (.ior, 1) := by decide +kernel
theorem dX11_goesOne_37 : decode cX11_goesOne 37 = .ok (.iastore, 1) := by decide +kernel
theorem dX11_goesOne_38 : decode cX11_goesOne 38 = .ok (.aload_n 0, 1) := by decide +kernel
theorem dX11_goesOne_39 : decode cX11_goesOne 39 = .ok (.dup, 1) := by decide +kernel
theorem dX11_goesOne_40 : decode cX11_goesOne 40 = .ok (.getfield 221, 3) := by decide +kernel
theorem dX11_goesOne_43 : decode cX11_goesOne 43 = .ok (.iconst 1, 1) := by decide +kernel
theorem dX11_goesOne_44 : decode cX11_goesOne 44 = .ok (.iadd, 1) := by decide +kernel
theorem dX11_goesOne_45 : decode cX11_goesOne 45 = .ok (.putfield 221, 3) := by decide +kernel
theorem dX11_goesOne_48 : decode cX11_goesOne 48 = .ok (.return_, 1) := by decide +kernel
theorem dX11_restores_0 : decode cX11_restores 0 = .ok (.aload_n 0, 1) := by decide +kernel
theorem dX11_restores_1 : decode cX11_restores 1 = .ok (.getfield 24, 3) := by decide +kernel
theorem dX11_restores_4 : decode cX11_restores 4 = .ok (.iload_n 1, 1) := by decide +kernel
theorem dX11_restores_5 : decode cX11_restores 5 = .ok (.iload_n 2, 1) := by decide +kernel
theorem dX11_restores_6 : decode cX11_restores 6 = .ok (.iastore, 1) := by decide +kernel
theorem dX11_restores_7 : decode cX11_restores 7 = .ok (.aload_n 0, 1) := by decide +kernel
theorem dX11_restores_8 : decode cX11_restores 8 = .ok (.getfield 27, 3) := by decide +kernel
theorem dX11_restores_11 : decode cX11_restores 11 = .ok (.iload_n 1, 1) := by decide +kernel
theorem dX11_restores_12 : decode cX11_restores 12 = .ok (.iload_n 3, 1) := by decide +kernel
theorem dX11_restores_13 : decode cX11_restores 13 = .ok (.iastore, 1) := by decide +kernel
theorem dX11_restores_14 : decode cX11_restores 14 = .ok (.aload_n 0, 1) := by decide +kernel
theorem dX11_restores_15 : decode cX11_restores 15 = .ok (.iload 4, 2) := by decide +kernel
theorem dX11_restores_17 : decode cX11_restores 17 = .ok (.putfield 221, 3) := by decide +kernel
theorem dX11_restores_20 : decode cX11_restores 20 = .ok (.return_, 1) := by decide +kernel
theorem dX11_decoys_0 : decode cX11_decoys 0 = .ok (.aload_n 0, 1) := by decide +kernel
theorem dX11_decoys_1 : decode cX11_decoys 1 = .ok (.iload_n 1, 1) := by decide +kernel
theorem dX11_decoys_2 : decode cX11_decoys 2 = .ok (.invokevirtual 118, 3) := by decide +kernel
theorem dX11_decoys_5 : decode cX11_decoys 5 = .ok (.ifCond .eq 10, 3) := by decide +kernel
theorem dX11_decoys_8 : decode cX11_decoys 8 = .ok (.iload_n 2, 1) := by decide +kernel
theorem dX11_decoys_9 : decode cX11_decoys 9 = .ok (.invokestatic 122, 3) := by decide +kernel
theorem dX11_decoys_12 : decode cX11_decoys 12 = .ok (.ifCond .ne 5, 3) := by decide +kernel
theorem dX11_decoys_15 : decode cX11_decoys 15 = .ok (.iconst (-1), 1) := by decide +kernel
theorem dX11_decoys_16 : decode cX11_decoys 16 = .ok (.ireturn, 1) := by decide +kernel
theorem dX11_decoys_17 : decode cX11_decoys 17 = .ok (.iload_n 3, 1) := by decide +kernel
theorem dX11_decoys_18 : decode cX11_decoys 18 = .ok (.iconst 1, 1) := by decide +kernel
theorem dX11_decoys_19 : decode cX11_decoys 19 = .ok (.bipush 6, 2) := by decide +kernel
theorem dX11_decoys_21 : decode cX11_decoys 21 = .ok (.invokestatic 114, 3) := by decide +kernel
theorem dX11_decoys_24 : decode cX11_decoys 24 = .ok (.ifCond .ne 6, 3) := by decide +kernel
theorem dX11_decoys_27 : decode cX11_decoys 27 = .ok (.bipush (-2), 2) := by decide +kernel
theorem dX11_decoys_29 : decode cX11_decoys 29 = .ok (.ireturn, 1) := by decide +kernel
theorem dX11_decoys_30 : decode cX11_decoys 30 = .ok (.aload_n 0, 1) := by decide +kernel
theorem dX11_decoys_31 : decode cX11_decoys 31 = .ok (.getfield 24, 3) := by decide +kernel
theorem dX11_decoys_34 : decode cX11_decoys 34 = .ok (.iload_n 1, 1) := by decide +kernel
theorem dX11_decoys_35 : decode cX11_decoys 35 = .ok (.iaload, 1) := by decide +kernel
theorem dX11_decoys_36 : decode cX11_decoys 36 = .ok (.iload_n 2, 1) := by decide +kernel
theorem dX11_decoys_37 : decode cX11_decoys 37 = .ok (.invokestatic 139, 3) := by decide +kernel
theorem dX11_decoys_40 : decode cX11_decoys 40 = .ok (.ifCond .ne 6, 3) := by decide +kernel
theorem dX11_decoys_43 : decode cX11_decoys 43 = .ok (.bipush (-5), 2) := by decide +kernel
theorem dX11_decoys_45 : decode cX11_decoys 45 = .ok (.ireturn, 1) := by decide +kernel
theorem dX11_decoys_46 : decode cX11_decoys 46 = .ok (.aload_n 0, 1) := by decide +kernel
theorem dX11_decoys_47 : decode cX11_decoys 47 = .ok (.getfield 24, 3) := by decide +kernel
theorem dX11_decoys_50 : decode cX11_decoys 50 = .ok (.iload_n 1, 1) := by decide +kernel
theorem dX11_decoys_51 : decode cX11_decoys 51 = .ok (.iaload, 1) := by decide +kernel
theorem dX11_decoys_52 : decode cX11_decoys 52 = .ok (.istore 4, 2) := by decide +kernel
theorem dX11_decoys_54 : decode cX11_decoys 54 = .ok (.aload_n 0, 1) := by decide +kernel
theorem dX11_decoys_55 : decode cX11_decoys 55 = .ok (.getfield 27, 3) := by decide +kernel
theorem dX11_decoys_58 : decode cX11_decoys 58 = .ok (.iload_n 1, 1) := by decide +kernel
theorem dX11_decoys_59 : decode cX11_decoys 59 = .ok (.iaload, 1) := by decide +kernel
theorem dX11_decoys_60 : decode cX11_decoys 60 = .ok (.istore 5, 2) := by decide +kernel
theorem dX11_decoys_62 : decode cX11_decoys 62 = .ok (.aload_n 0, 1) := by decide +kernel
theorem dX11_decoys_63 : decode cX11_decoys 63 = .ok (.getfield 221, 3) := by decide +kernel
theorem dX11_decoys_66 : decode cX11_decoys 66 = .ok (.istore 6, 2) := by decide +kernel
theorem dX11_decoys_68 : decode cX11_decoys 68 = .ok (.bipush (-5), 2) := by decide +kernel
theorem dX11_decoys_70 : decode cX11_decoys 70 = .ok (.istore 7, 2) := by decide +kernel
theorem dX11_decoys_72 : decode cX11_decoys 72 = .ok (.iconst 0, 1) := by decide +kernel
theorem dX11_decoys_73 : decode cX11_decoys 73 = .ok (.istore 8, 2) := by decide +kernel
theorem dX11_decoys_75 : decode cX11_decoys 75 = .ok (.iload 8, 2) := by decide +kernel
theorem dX11_decoys_77 : decode cX11_decoys 77 = .ok (.sipush 4096, 3) := by decide +kernel
theorem dX11_decoys_80 : decode cX11_decoys 80 = .ok (.if_icmp .ge 99, 3) := by decide +kernel
theorem dX11_decoys_83 : decode cX11_decoys 83 = .ok (.iload 8, 2) := by decide +kernel
theorem dX11_decoys_85 : decode cX11_decoys 85 = .ok (.iload 4, 2) := by decide +kernel
theorem dX11_decoys_87 : decode cX11_decoys 87 = .ok (.iand, 1) := by decide +kernel
theorem dX11_decoys_88 : decode cX11_decoys 88 = .ok (.ifCond .ne 85, 3) := by decide +kernel
theorem dX11_decoys_91 : decode cX11_decoys 91 = .ok (.iload 7, 2) := by decide +kernel
theorem dX11_decoys_93 : decode cX11_decoys 93 = .ok (.bipush (-5), 2) := by decide +kernel
theorem dX11_decoys_95 : decode cX11_decoys 95 = .ok (.if_icmp .eq 19, 3) := by decide +kernel
theorem dX11_decoys_98 : decode cX11_decoys 98 = .ok (.iload 8, 2) := by decide +kernel
theorem dX11_decoys_100 : decode cX11_decoys 100 = .ok (.invokestatic 245, 3) := by decide +kernel
theorem dX11_decoys_103 : decode cX11_decoys 103 = .ok (.iload 7, 2) := by decide +kernel
theorem dX11_decoys_105 : decode cX11_decoys 105 = .ok (.invokestatic 245, 3) := by decide +kernel
theorem dX11_decoys_108 : decode cX11_decoys 108 = .ok (.if_icmp .lt 6, 3) := by decide +kernel
theorem dX11_decoys_111 : decode cX11_decoys 111 = .ok (.goto 62, 3) := by decide +kernel
theorem dX11_decoys_114 : decode cX11_decoys 114 = .ok (.aload_n 0, 1) := by decide +kernel
theorem dX11_decoys_115 : decode cX11_decoys 115 = .ok (.getfield 24, 3) := by decide +kernel
theorem dX11_decoys_118 : decode cX11_decoys 118 = .ok (.iload_n 1, 1) := by decide +kernel
theorem dX11_decoys_119 : decode cX11_decoys 119 = .ok (.iload 4, 2) := by decide +kernel
theorem dX11_decoys_121 : decode cX11_decoys 121 = .ok (.iload 8, 2) := by decide +kernel
theorem dX11_decoys_123 : decode cX11_decoys 123 = .ok (.ior, 1) := by decide +kernel
theorem dX11_decoys_124 : decode cX11_decoys 124 = .ok (.iastore, 1) := by decide +kernel
theorem dX11_decoys_125 : decode cX11_decoys 125 = .ok (.iconst 0, 1) := by decide +kernel
theorem dX11_decoys_126 : decode cX11_decoys 126 = .ok (.istore 9, 2) := by decide +kernel
theorem dX11_decoys_128 : decode cX11_decoys 128 = .ok (.iload 9, 2) := by decide +kernel
theorem dX11_decoys_130 : decode cX11_decoys 130 = .ok (.iload_n 3, 1) := by decide +kernel
theorem dX11_decoys_131 : decode cX11_decoys 131 = .ok (.if_icmp .ge 14, 3) := by decide +kernel
theorem dX11_decoys_134 : decode cX11_decoys 134 = .ok (.aload_n 0, 1) := by decide +kernel
theorem dX11_decoys_135 : decode cX11_decoys 135 = .ok (.iload_n 1, 1) := by decide +kernel
theorem dX11_decoys_136 : decode cX11_decoys 136 = .ok (.invokevirtual 276, 3) := by decide +kernel
theorem dX11_decoys_139 : decode cX11_decoys 139 = .ok (.iinc 9 1, 3) := by decide +kernel
theorem dX11_decoys_142 : decode cX11_decoys 142 = .ok (.goto (-14), 3) := by decide +kernel
theorem dX11_decoys_145 : decode cX11_decoys 145 = .ok (.aload_n 0, 1) := by decide +kernel
theorem dX11_decoys_146 : decode cX11_decoys 146 = .ok (.getfield 24, 3) := by decide +kernel
theorem dX11_decoys_149 : decode cX11_decoys 149 = .ok (.iload_n 1, 1) := by decide +kernel
theorem dX11_decoys_150 : decode cX11_decoys 150 = .ok (.iaload, 1) := by decide +kernel
theorem dX11_decoys_151 : decode cX11_decoys 151 = .ok (.iload_n 2, 1) := by decide +kernel
theorem dX11_decoys_152 : decode cX11_decoys 152 = .ok (.invokestatic 139, 3) := by decide +kernel
theorem dX11_decoys_155 : decode cX11_decoys 155 = .ok (.ifCond .eq 7, 3) := by decide +kernel
theorem dX11_decoys_158 : decode cX11_decoys 158 = .ok (.iload 8, 2) := by decide +kernel
theorem dX11_decoys_160 : decode cX11_decoys 160 = .ok (.istore 7, 2) := by decide +kernel
theorem dX11_decoys_162 : decode cX11_decoys 162 = .ok (.aload_n 0, 1) := by decide +kernel
theorem dX11_decoys_163 : decode cX11_decoys 163 = .ok (.iload_n 1, 1) := by decide +kernel
theorem dX11_decoys_164 : decode cX11_decoys 164 = .ok (.iload 4, 2) := by decide +kernel
theorem dX11_decoys_166 : decode cX11_decoys 166 = .ok (.iload 5, 2) := by decide +kernel
theorem dX11_decoys_168 : decode cX11_decoys 168 = .ok (.iload 6, 2) := by decide +kernel
theorem dX11_decoys_170 : decode cX11_decoys 170 = .ok (.invokevirtual 280, 3) := by decide +kernel
theorem dX11_decoys_173 : decode cX11_decoys 173 = .ok (.iinc 8 1, 3) := by decide +kernel
theorem dX11_decoys_176 : decode cX11_decoys 176 = .ok (.goto (-101), 3) := by decide +kernel
theorem dX11_decoys_179 : decode cX11_decoys 179 = .ok (.iload 7, 2) := by decide +kernel
theorem dX11_decoys_181 : decode cX11_decoys 181 = .ok (.ireturn, 1) := by decide +kernel
theorem dX11_see_0 : decode cX11_see 0 = .ok (.iload_n 1, 1) := by decide +kernel
theorem dX11_see_1 : decode cX11_see 1 = .ok (.iconst (-1), 1) := by decide +kernel
theorem dX11_see_2 : decode cX11_see 2 = .ok (.if_icmp .ne 10, 3) := by decide +kernel
theorem dX11_see_5 : decode cX11_see 5 = .ok (.aload_n 0, 1) := by decide +kernel
theorem dX11_see_6 : decode cX11_see 6 = .ok (.iconst 0, 1) := by decide +kernel
theorem dX11_see_7 : decode cX11_see 7 = .ok (.putfield 284, 3) := by decide +kernel
theorem dX11_see_10 : decode cX11_see 10 = .ok (.iconst 0, 1) := by decide +kernel
theorem dX11_see_11 : decode cX11_see 11 = .ok (.ireturn, 1) := by decide +kernel
theorem dX11_see_12 : decode cX11_see 12 = .ok (.aload_n 0, 1) := by decide +kernel
theorem dX11_see_13 : decode cX11_see 13 = .ok (.iload_n 1, 1) := by decide +kernel
theorem dX11_see_14 : decode cX11_see 14 = .ok (.invokevirtual 118, 3) := by decide +kernel
theorem dX11_see_17 : decode cX11_see 17 = .ok (.ifCond .eq 10, 3) := by decide +kernel
theorem dX11_see_20 : decode cX11_see 20 = .ok (.iload_n 3, 1) := by decide +kernel
theorem dX11_see_21 : decode cX11_see 21 = .ok (.invokestatic 122, 3) := by decide +kernel
theorem dX11_see_24 : decode cX11_see 24 = .ok (.ifCond .ne 5, 3) := by decide +kernel
theorem dX11_see_27 : decode cX11_see 27 = .ok (.iconst (-1), 1) := by decide +kernel
theorem dX11_see_28 : decode cX11_see 28 = .ok (.ireturn, 1) := by decide +kernel
theorem dX11_see_29 : decode cX11_see 29 = .ok (.iload_n 2, 1) := by decide +kernel
theorem dX11_see_30 : decode cX11_see 30 = .ok (.iconst 0, 1) := by decide +kernel
theorem dX11_see_31 : decode cX11_see 31 = .ok (.bipush 12, 2) := by decide +kernel
theorem dX11_see_33 : decode cX11_see 33 = .ok (.invokestatic 114, 3) := by decide +kernel
theorem dX11_see_36 : decode cX11_see 36 = .ok (.ifCond .ne 6, 3) := by decide +kernel
theorem dX11_see_39 : decode cX11_see 39 = .ok (.bipush (-2), 2) := by decide +kernel
theorem dX11_see_41 : decode cX11_see 41 = .ok (.ireturn, 1) := by decide +kernel
theorem dX11_see_42 : decode cX11_see 42 = .ok (.aload_n 0, 1) := by decide +kernel
theorem dX11_see_43 : decode cX11_see 43 = .ok (.getfield 284, 3) := by decide +kernel
theorem dX11_see_46 : decode cX11_see 46 = .ok (.iconst 5, 1) := by decide +kernel
theorem dX11_see_47 : decode cX11_see 47 = .ok (.if_icmp .ne 6, 3) := by decide +kernel
theorem dX11_see_50 : decode cX11_see 50 = .ok (.bipush (-4), 2) := by decide +kernel
theorem dX11_see_52 : decode cX11_see 52 = .ok (.ireturn, 1) := by decide +kernel
theorem dX11_see_53 : decode cX11_see 53 = .ok (.aload_n 0, 1) := by decide +kernel
theorem dX11_see_54 : decode cX11_see 54 = .ok (.getfield 61, 3) := by decide +kernel
theorem dX11_see_57 : decode cX11_see 57 = .ok (.aload_n 0, 1) := by decide +kernel
theorem dX11_see_58 : decode cX11_see 58 = .ok (.getfield 284, 3) := by decide +kernel
theorem dX11_see_61 : decode cX11_see 61 = .ok (.iload_n 1, 1) := by decide +kernel
theorem dX11_see_62 : decode cX11_see 62 = .ok (.iastore, 1) := by decide +kernel
theorem dX11_see_63 : decode cX11_see 63 = .ok (.aload_n 0, 1) := by decide +kernel
theorem dX11_see_64 : decode cX11_see 64 = .ok (.getfield 64, 3) := by decide +kernel
theorem dX11_see_67 : decode cX11_see 67 = .ok (.aload_n 0, 1) := by decide +kernel
theorem dX11_see_68 : decode cX11_see 68 = .ok (.getfield 284, 3) := by decide +kernel
theorem dX11_see_71 : decode cX11_see 71 = .ok (.iload_n 2, 1) := by decide +kernel
theorem dX11_see_72 : decode cX11_see 72 = .ok (.iastore, 1) := by decide +kernel
theorem dX11_see_73 : decode cX11_see 73 = .ok (.aload_n 0, 1) := by decide +kernel
theorem dX11_see_74 : decode cX11_see 74 = .ok (.getfield 67, 3) := by decide +kernel
theorem dX11_see_77 : decode cX11_see 77 = .ok (.aload_n 0, 1) := by decide +kernel
theorem dX11_see_78 : decode cX11_see 78 = .ok (.getfield 284, 3) := by decide +kernel
theorem dX11_see_81 : decode cX11_see 81 = .ok (.iload_n 3, 1) := by decide +kernel
theorem dX11_see_82 : decode cX11_see 82 = .ok (.iastore, 1) := by decide +kernel
theorem dX11_see_83 : decode cX11_see 83 = .ok (.aload_n 0, 1) := by decide +kernel
theorem dX11_see_84 : decode cX11_see 84 = .ok (.getfield 70, 3) := by decide +kernel
theorem dX11_see_87 : decode cX11_see 87 = .ok (.aload_n 0, 1) := by decide +kernel
theorem dX11_see_88 : decode cX11_see 88 = .ok (.dup, 1) := by decide +kernel
theorem dX11_see_89 : decode cX11_see 89 = .ok (.getfield 284, 3) := by decide +kernel
theorem dX11_see_92 : decode cX11_see 92 = .ok (.dup_x1, 1) := by decide +kernel
theorem dX11_see_93 : decode cX11_see 93 = .ok (.iconst 1, 1) := by decide +kernel
theorem dX11_see_94 : decode cX11_see 94 = .ok (.iadd, 1) := by decide +kernel
theorem dX11_see_95 : decode cX11_see 95 = .ok (.putfield 284, 3) := by decide +kernel
theorem dX11_see_98 : decode cX11_see 98 = .ok (.iload 4, 2) := by decide +kernel
theorem dX11_see_100 : decode cX11_see 100 = .ok (.ifCond .eq 7, 3) := by decide +kernel
theorem dX11_see_103 : decode cX11_see 103 = .ok (.iconst 1, 1) := by decide +kernel
theorem dX11_see_104 : decode cX11_see 104 = .ok (.goto 4, 3) := by decide +kernel
theorem dX11_see_107 : decode cX11_see 107 = .ok (.iconst 0, 1) := by decide +kernel
theorem dX11_see_108 : decode cX11_see 108 = .ok (.iastore, 1) := by decide +kernel
theorem dX11_see_109 : decode cX11_see 109 = .ok (.aload_n 0, 1) := by decide +kernel
theorem dX11_see_110 : decode cX11_see 110 = .ok (.getfield 284, 3) := by decide +kernel
theorem dX11_see_113 : decode cX11_see 113 = .ok (.ireturn, 1) := by decide +kernel
theorem dX11_isSeen_0 : decode cX11_isSeen 0 = .ok (.aload_n 0, 1) := by decide +kernel
theorem dX11_isSeen_1 : decode cX11_isSeen 1 = .ok (.getfield 24, 3) := by decide +kernel
theorem dX11_isSeen_4 : decode cX11_isSeen 4 = .ok (.iload_n 1, 1) := by decide +kernel
theorem dX11_isSeen_5 : decode cX11_isSeen 5 = .ok (.iaload, 1) := by decide +kernel
theorem dX11_isSeen_6 : decode cX11_isSeen 6 = .ok (.istore_n 2, 1) := by decide +kernel
theorem dX11_isSeen_7 : decode cX11_isSeen 7 = .ok (.aload_n 0, 1) := by decide +kernel
theorem dX11_isSeen_8 : decode cX11_isSeen 8 = .ok (.getfield 27, 3) := by decide +kernel
theorem dX11_isSeen_11 : decode cX11_isSeen 11 = .ok (.iload_n 1, 1) := by decide +kernel
theorem dX11_isSeen_12 : decode cX11_isSeen 12 = .ok (.iaload, 1) := by decide +kernel
theorem dX11_isSeen_13 : decode cX11_isSeen 13 = .ok (.istore_n 3, 1) := by decide +kernel
theorem dX11_isSeen_14 : decode cX11_isSeen 14 = .ok (.aload_n 0, 1) := by decide +kernel
theorem dX11_isSeen_15 : decode cX11_isSeen 15 = .ok (.getfield 221, 3) := by decide +kernel
theorem dX11_isSeen_18 : decode cX11_isSeen 18 = .ok (.istore 4, 2) := by decide +kernel
theorem dX11_isSeen_20 : decode cX11_isSeen 20 = .ok (.iconst 1, 1) := by decide +kernel
theorem dX11_isSeen_21 : decode cX11_isSeen 21 = .ok (.istore 5, 2) := by decide +kernel
theorem dX11_isSeen_23 : decode cX11_isSeen 23 = .ok (.iconst 0, 1) := by decide +kernel
theorem dX11_isSeen_24 : decode cX11_isSeen 24 = .ok (.istore 6, 2) := by decide +kernel
theorem dX11_isSeen_26 : decode cX11_isSeen 26 = .ok (.iload 6, 2) := by decide +kernel
theorem dX11_isSeen_28 : decode cX11_isSeen 28 = .ok (.bipush 13, 2) := by decide +kernel
theorem dX11_isSeen_30 : decode cX11_isSeen 30 = .ok (.if_icmp .ge 103, 3) := by decide +kernel
theorem dX11_isSeen_33 : decode cX11_isSeen 33 = .ok (.iload 5, 2) := by decide +kernel
theorem dX11_isSeen_35 : decode cX11_isSeen 35 = .ok (.ifCond .eq 98, 3) := by decide +kernel
theorem dX11_isSeen_38 : decode cX11_isSeen 38 = .ok (.iload 6, 2) := by decide +kernel
theorem dX11_isSeen_40 : decode cX11_isSeen 40 = .ok (.ifCond .le 8, 3) := by decide +kernel
theorem dX11_isSeen_43 : decode cX11_isSeen 43 = .ok (.aload_n 0, 1) := by decide +kernel
theorem dX11_isSeen_44 : decode cX11_isSeen 44 = .ok (.iload_n 1, 1) := by decide +kernel
theorem dX11_isSeen_45 : decode cX11_isSeen 45 = .ok (.invokevirtual 276, 3) := by decide +kernel
theorem dX11_isSeen_48 : decode cX11_isSeen 48 = .ok (.iconst 0, 1) := by decide +kernel
theorem dX11_isSeen_49 : decode cX11_isSeen 49 = .ok (.istore 7, 2) := by decide +kernel
theorem dX11_isSeen_51 : decode cX11_isSeen 51 = .ok (.iload 7, 2) := by decide +kernel
theorem dX11_isSeen_53 : decode cX11_isSeen 53 = .ok (.aload_n 0, 1) := by decide +kernel
theorem dX11_isSeen_54 : decode cX11_isSeen 54 = .ok (.getfield 284, 3) := by decide +kernel
theorem dX11_isSeen_57 : decode cX11_isSeen 57 = .ok (.if_icmp .ge 70, 3) := by decide +kernel
theorem dX11_isSeen_60 : decode cX11_isSeen 60 = .ok (.aload_n 0, 1) := by decide +kernel
theorem dX11_isSeen_61 : decode cX11_isSeen 61 = .ok (.getfield 61, 3) := by decide +kernel
theorem dX11_isSeen_64 : decode cX11_isSeen 64 = .ok (.iload 7, 2) := by decide +kernel
theorem dX11_isSeen_66 : decode cX11_isSeen 66 = .ok (.iaload, 1) := by decide +kernel
theorem dX11_isSeen_67 : decode cX11_isSeen 67 = .ok (.iload_n 1, 1) := by decide +kernel
theorem dX11_isSeen_68 : decode cX11_isSeen 68 = .ok (.if_icmp .ne 53, 3) := by decide +kernel
theorem dX11_isSeen_71 : decode cX11_isSeen 71 = .ok (.aload_n 0, 1) := by decide +kernel
theorem dX11_isSeen_72 : decode cX11_isSeen 72 = .ok (.getfield 64, 3) := by decide +kernel
theorem dX11_isSeen_75 : decode cX11_isSeen 75 = .ok (.iload 7, 2) := by decide +kernel
theorem dX11_isSeen_77 : decode cX11_isSeen 77 = .ok (.iaload, 1) := by decide +kernel
theorem dX11_isSeen_78 : decode cX11_isSeen 78 = .ok (.iload 6, 2) := by decide +kernel
theorem dX11_isSeen_80 : decode cX11_isSeen 80 = .ok (.if_icmp .ne 41, 3) := by decide +kernel
theorem dX11_isSeen_83 : decode cX11_isSeen 83 = .ok (.aload_n 0, 1) := by decide +kernel
theorem dX11_isSeen_84 : decode cX11_isSeen 84 = .ok (.getfield 24, 3) := by decide +kernel
theorem dX11_isSeen_87 : decode cX11_isSeen 87 = .ok (.iload_n 1, 1) := by decide +kernel
theorem dX11_isSeen_88 : decode cX11_isSeen 88 = .ok (.iaload, 1) := by decide +kernel
theorem dX11_isSeen_89 : decode cX11_isSeen 89 = .ok (.aload_n 0, 1) := by decide +kernel
theorem dX11_isSeen_90 : decode cX11_isSeen 90 = .ok (.getfield 67, 3) := by decide +kernel
theorem dX11_isSeen_93 : decode cX11_isSeen 93 = .ok (.iload 7, 2) := by decide +kernel
theorem dX11_isSeen_95 : decode cX11_isSeen 95 = .ok (.iaload, 1) := by decide +kernel
theorem dX11_isSeen_96 : decode cX11_isSeen 96 = .ok (.invokestatic 139, 3) := by decide +kernel
theorem dX11_isSeen_99 : decode cX11_isSeen 99 = .ok (.aload_n 0, 1) := by decide +kernel
theorem dX11_isSeen_100 : decode cX11_isSeen 100 = .ok (.getfield 70, 3) := by decide +kernel
theorem dX11_isSeen_103 : decode cX11_isSeen 103 = .ok (.iload 7, 2) := by decide +kernel
theorem dX11_isSeen_105 : decode cX11_isSeen 105 = .ok (.iaload, 1) := by decide +kernel
theorem dX11_isSeen_106 : decode cX11_isSeen 106 = .ok (.iconst 1, 1) := by decide +kernel
theorem dX11_isSeen_107 : decode cX11_isSeen 107 = .ok (.if_icmp .ne 7, 3) := by decide +kernel
theorem dX11_isSeen_110 : decode cX11_isSeen 110 = .ok (.iconst 1, 1) := by decide +kernel
theorem dX11_isSeen_111 : decode cX11_isSeen 111 = .ok (.goto 4, 3) := by decide +kernel
theorem dX11_isSeen_114 : decode cX11_isSeen 114 = .ok (.iconst 0, 1) := by decide +kernel
theorem dX11_isSeen_115 : decode cX11_isSeen 115 = .ok (.if_icmp .eq 6, 3) := by decide +kernel
theorem dX11_isSeen_118 : decode cX11_isSeen 118 = .ok (.iconst 0, 1) := by decide +kernel
theorem dX11_isSeen_119 : decode cX11_isSeen 119 = .ok (.istore 5, 2) := by decide +kernel
theorem dX11_isSeen_121 : decode cX11_isSeen 121 = .ok (.iinc 7 1, 3) := by decide +kernel
theorem dX11_isSeen_124 : decode cX11_isSeen 124 = .ok (.goto (-73), 3) := by decide +kernel
theorem dX11_isSeen_127 : decode cX11_isSeen 127 = .ok (.iinc 6 1, 3) := by decide +kernel
theorem dX11_isSeen_130 : decode cX11_isSeen 130 = .ok (.goto (-104), 3) := by decide +kernel
theorem dX11_isSeen_133 : decode cX11_isSeen 133 = .ok (.aload_n 0, 1) := by decide +kernel
theorem dX11_isSeen_134 : decode cX11_isSeen 134 = .ok (.iload_n 1, 1) := by decide +kernel
theorem dX11_isSeen_135 : decode cX11_isSeen 135 = .ok (.iload_n 2, 1) := by decide +kernel
theorem dX11_isSeen_136 : decode cX11_isSeen 136 = .ok (.iload_n 3, 1) := by decide +kernel
theorem dX11_isSeen_137 : decode cX11_isSeen 137 = .ok (.iload 4, 2) := by decide +kernel
theorem dX11_isSeen_139 : decode cX11_isSeen 139 = .ok (.invokevirtual 280, 3) := by decide +kernel
theorem dX11_isSeen_142 : decode cX11_isSeen 142 = .ok (.iload 5, 2) := by decide +kernel
theorem dX11_isSeen_144 : decode cX11_isSeen 144 = .ok (.ireturn, 1) := by decide +kernel
theorem dX11_meant_0 : decode cX11_meant 0 = .ok (.aload_n 0, 1) := by decide +kernel
theorem dX11_meant_1 : decode cX11_meant 1 = .ok (.iload_n 1, 1) := by decide +kernel
theorem dX11_meant_2 : decode cX11_meant 2 = .ok (.invokevirtual 118, 3) := by decide +kernel
theorem dX11_meant_5 : decode cX11_meant 5 = .ok (.ifCond .eq 12, 3) := by decide +kernel
theorem dX11_meant_8 : decode cX11_meant 8 = .ok (.iload_n 2, 1) := by decide +kernel
theorem dX11_meant_9 : decode cX11_meant 9 = .ok (.iconst 0, 1) := by decide +kernel
theorem dX11_meant_10 : decode cX11_meant 10 = .ok (.iconst 1, 1) := by decide +kernel
theorem dX11_meant_11 : decode cX11_meant 11 = .ok (.invokestatic 114, 3) := by decide +kernel
theorem dX11_meant_14 : decode cX11_meant 14 = .ok (.ifCond .ne 5, 3) := by decide +kernel
theorem dX11_meant_17 : decode cX11_meant 17 = .ok (.iconst (-1), 1) := by decide +kernel
theorem dX11_meant_18 : decode cX11_meant 18 = .ok (.ireturn, 1) := by decide +kernel
theorem dX11_meant_19 : decode cX11_meant 19 = .ok (.aload_n 0, 1) := by decide +kernel
theorem dX11_meant_20 : decode cX11_meant 20 = .ok (.getfield 24, 3) := by decide +kernel
theorem dX11_meant_23 : decode cX11_meant 23 = .ok (.iload_n 1, 1) := by decide +kernel
theorem dX11_meant_24 : decode cX11_meant 24 = .ok (.iaload, 1) := by decide +kernel
theorem dX11_meant_25 : decode cX11_meant 25 = .ok (.istore_n 3, 1) := by decide +kernel
theorem dX11_meant_26 : decode cX11_meant 26 = .ok (.iconst 0, 1) := by decide +kernel
theorem dX11_meant_27 : decode cX11_meant 27 = .ok (.istore 4, 2) := by decide +kernel
theorem dX11_meant_29 : decode cX11_meant 29 = .ok (.bipush (-5), 2) := by decide +kernel
theorem dX11_meant_31 : decode cX11_meant 31 = .ok (.istore 5, 2) := by decide +kernel
theorem dX11_meant_33 : decode cX11_meant 33 = .ok (.sipush 4095, 3) := by decide +kernel
theorem dX11_meant_36 : decode cX11_meant 36 = .ok (.istore 6, 2) := by decide +kernel
theorem dX11_meant_38 : decode cX11_meant 38 = .ok (.iload 6, 2) := by decide +kernel
theorem dX11_meant_40 : decode cX11_meant 40 = .ok (.ifCond .lt 35, 3) := by decide +kernel
theorem dX11_meant_43 : decode cX11_meant 43 = .ok (.aload_n 0, 1) := by decide +kernel
theorem dX11_meant_44 : decode cX11_meant 44 = .ok (.getfield 24, 3) := by decide +kernel
theorem dX11_meant_47 : decode cX11_meant 47 = .ok (.iload_n 1, 1) := by decide +kernel
theorem dX11_meant_48 : decode cX11_meant 48 = .ok (.iload 6, 2) := by decide +kernel
theorem dX11_meant_50 : decode cX11_meant 50 = .ok (.iastore, 1) := by decide +kernel
theorem dX11_meant_51 : decode cX11_meant 51 = .ok (.aload_n 0, 1) := by decide +kernel
theorem dX11_meant_52 : decode cX11_meant 52 = .ok (.iload_n 1, 1) := by decide +kernel
theorem dX11_meant_53 : decode cX11_meant 53 = .ok (.invokevirtual 287, 3) := by decide +kernel
theorem dX11_meant_56 : decode cX11_meant 56 = .ok (.ifCond .ne 6, 3) := by decide +kernel
theorem dX11_meant_59 : decode cX11_meant 59 = .ok (.goto 10, 3) := by decide +kernel
theorem dX11_meant_62 : decode cX11_meant 62 = .ok (.iinc 4 1, 3) := by decide +kernel
theorem dX11_meant_65 : decode cX11_meant 65 = .ok (.iload 6, 2) := by decide +kernel
theorem dX11_meant_67 : decode cX11_meant 67 = .ok (.istore 5, 2) := by decide +kernel
theorem dX11_meant_69 : decode cX11_meant 69 = .ok (.iinc 6 (-1), 3) := by decide +kernel
theorem dX11_meant_72 : decode cX11_meant 72 = .ok (.goto (-34), 3) := by decide +kernel
theorem dX11_meant_75 : decode cX11_meant 75 = .ok (.aload_n 0, 1) := by decide +kernel
theorem dX11_meant_76 : decode cX11_meant 76 = .ok (.getfield 24, 3) := by decide +kernel
theorem dX11_meant_79 : decode cX11_meant 79 = .ok (.iload_n 1, 1) := by decide +kernel
theorem dX11_meant_80 : decode cX11_meant 80 = .ok (.iload_n 3, 1) := by decide +kernel
theorem dX11_meant_81 : decode cX11_meant 81 = .ok (.iastore, 1) := by decide +kernel
theorem dX11_meant_82 : decode cX11_meant 82 = .ok (.iload_n 2, 1) := by decide +kernel
theorem dX11_meant_83 : decode cX11_meant 83 = .ok (.ifCond .ne 8, 3) := by decide +kernel
theorem dX11_meant_86 : decode cX11_meant 86 = .ok (.iload 4, 2) := by decide +kernel
theorem dX11_meant_88 : decode cX11_meant 88 = .ok (.goto 5, 3) := by decide +kernel
theorem dX11_meant_91 : decode cX11_meant 91 = .ok (.iload 5, 2) := by decide +kernel
theorem dX11_meant_93 : decode cX11_meant 93 = .ok (.ireturn, 1) := by decide +kernel
theorem dX11_can_0 : decode cX11_can 0 = .ok (.aload_n 0, 1) := by decide +kernel
theorem dX11_can_1 : decode cX11_can 1 = .ok (.iload_n 1, 1) := by decide +kernel
theorem dX11_can_2 : decode cX11_can 2 = .ok (.invokevirtual 118, 3) := by decide +kernel
theorem dX11_can_5 : decode cX11_can 5 = .ok (.ifCond .eq 12, 3) := by decide +kernel
theorem dX11_can_8 : decode cX11_can 8 = .ok (.iload_n 2, 1) := by decide +kernel
theorem dX11_can_9 : decode cX11_can 9 = .ok (.iconst 0, 1) := by decide +kernel
theorem dX11_can_10 : decode cX11_can 10 = .ok (.iconst 1, 1) := by decide +kernel
theorem dX11_can_11 : decode cX11_can 11 = .ok (.invokestatic 114, 3) := by decide +kernel
theorem dX11_can_14 : decode cX11_can 14 = .ok (.ifCond .ne 5, 3) := by decide +kernel
theorem dX11_can_17 : decode cX11_can 17 = .ok (.iconst (-1), 1) := by decide +kernel
theorem dX11_can_18 : decode cX11_can 18 = .ok (.ireturn, 1) := by decide +kernel
theorem dX11_can_19 : decode cX11_can 19 = .ok (.aload_n 0, 1) := by decide +kernel
theorem dX11_can_20 : decode cX11_can 20 = .ok (.getfield 21, 3) := by decide +kernel
theorem dX11_can_23 : decode cX11_can 23 = .ok (.iload_n 1, 1) := by decide +kernel
theorem dX11_can_24 : decode cX11_can 24 = .ok (.iaload, 1) := by decide +kernel
theorem dX11_can_25 : decode cX11_can 25 = .ok (.istore_n 3, 1) := by decide +kernel
theorem dX11_can_26 : decode cX11_can 26 = .ok (.iconst 0, 1) := by decide +kernel
theorem dX11_can_27 : decode cX11_can 27 = .ok (.istore 4, 2) := by decide +kernel
theorem dX11_can_29 : decode cX11_can 29 = .ok (.bipush (-5), 2) := by decide +kernel
theorem dX11_can_31 : decode cX11_can 31 = .ok (.istore 5, 2) := by decide +kernel
theorem dX11_can_33 : decode cX11_can 33 = .ok (.bipush 9, 2) := by decide +kernel
theorem dX11_can_35 : decode cX11_can 35 = .ok (.istore 6, 2) := by decide +kernel
theorem dX11_can_37 : decode cX11_can 37 = .ok (.iload 6, 2) := by decide +kernel
theorem dX11_can_39 : decode cX11_can 39 = .ok (.ifCond .lt 35, 3) := by decide +kernel
theorem dX11_can_42 : decode cX11_can 42 = .ok (.aload_n 0, 1) := by decide +kernel
theorem dX11_can_43 : decode cX11_can 43 = .ok (.getfield 21, 3) := by decide +kernel
theorem dX11_can_46 : decode cX11_can 46 = .ok (.iload_n 1, 1) := by decide +kernel
theorem dX11_can_47 : decode cX11_can 47 = .ok (.iload 6, 2) := by decide +kernel
theorem dX11_can_49 : decode cX11_can 49 = .ok (.iastore, 1) := by decide +kernel
theorem dX11_can_50 : decode cX11_can 50 = .ok (.aload_n 0, 1) := by decide +kernel
theorem dX11_can_51 : decode cX11_can 51 = .ok (.iload_n 1, 1) := by decide +kernel
theorem dX11_can_52 : decode cX11_can 52 = .ok (.invokevirtual 287, 3) := by decide +kernel
theorem dX11_can_55 : decode cX11_can 55 = .ok (.ifCond .ne 6, 3) := by decide +kernel
theorem dX11_can_58 : decode cX11_can 58 = .ok (.goto 10, 3) := by decide +kernel
theorem dX11_can_61 : decode cX11_can 61 = .ok (.iinc 4 1, 3) := by decide +kernel
theorem dX11_can_64 : decode cX11_can 64 = .ok (.iload 6, 2) := by decide +kernel
theorem dX11_can_66 : decode cX11_can 66 = .ok (.istore 5, 2) := by decide +kernel
theorem dX11_can_68 : decode cX11_can 68 = .ok (.iinc 6 (-1), 3) := by decide +kernel
theorem dX11_can_71 : decode cX11_can 71 = .ok (.goto (-34), 3) := by decide +kernel
theorem dX11_can_74 : decode cX11_can 74 = .ok (.aload_n 0, 1) := by decide +kernel
theorem dX11_can_75 : decode cX11_can 75 = .ok (.getfield 21, 3) := by decide +kernel
theorem dX11_can_78 : decode cX11_can 78 = .ok (.iload_n 1, 1) := by decide +kernel
theorem dX11_can_79 : decode cX11_can 79 = .ok (.iload_n 3, 1) := by decide +kernel
theorem dX11_can_80 : decode cX11_can 80 = .ok (.iastore, 1) := by decide +kernel
theorem dX11_can_81 : decode cX11_can 81 = .ok (.iload_n 2, 1) := by decide +kernel
theorem dX11_can_82 : decode cX11_can 82 = .ok (.ifCond .ne 8, 3) := by decide +kernel
theorem dX11_can_85 : decode cX11_can 85 = .ok (.iload 4, 2) := by decide +kernel
theorem dX11_can_87 : decode cX11_can 87 = .ok (.goto 5, 3) := by decide +kernel
theorem dX11_can_90 : decode cX11_can 90 = .ok (.iload 5, 2) := by decide +kernel
theorem dX11_can_92 : decode cX11_can 92 = .ok (.ireturn, 1) := by decide +kernel
theorem dX11_part_0 : decode cX11_part 0 = .ok (.lload_n 0, 1) := by decide +kernel
theorem dX11_part_1 : decode cX11_part 1 = .ok (.lstore 5, 2) := by decide +kernel
theorem dX11_part_3 : decode cX11_part 3 = .ok (.lload_n 2, 1) := by decide +kernel
theorem dX11_part_4 : decode cX11_part 4 = .ok (.lstore 7, 2) := by decide +kernel
theorem dX11_part_6 : decode cX11_part 6 = .ok (.lload 7, 2) := by decide +kernel
theorem dX11_part_8 : decode cX11_part 8 = .ok (.lconst 0, 1) := by decide +kernel
theorem dX11_part_9 : decode cX11_part 9 = .ok (.lcmp, 1) := by decide +kernel
theorem dX11_part_10 : decode cX11_part 10 = .ok (.ifCond .eq 21, 3) := by decide +kernel
theorem dX11_part_13 : decode cX11_part 13 = .ok (.lload 5, 2) := by decide +kernel
theorem dX11_part_15 : decode cX11_part 15 = .ok (.lload 7, 2) := by decide +kernel
theorem dX11_part_17 : decode cX11_part 17 = .ok (.lrem, 1) := by decide +kernel
theorem dX11_part_18 : decode cX11_part 18 = .ok (.lstore 9, 2) := by decide +kernel
theorem dX11_part_20 : decode cX11_part 20 = .ok (.lload 7, 2) := by decide +kernel
theorem dX11_part_22 : decode cX11_part 22 = .ok (.lstore 5, 2) := by decide +kernel
theorem dX11_part_24 : decode cX11_part 24 = .ok (.lload 9, 2) := by decide +kernel
theorem dX11_part_26 : decode cX11_part 26 = .ok (.lstore 7, 2) := by decide +kernel
theorem dX11_part_28 : decode cX11_part 28 = .ok (.goto (-22), 3) := by decide +kernel
theorem dX11_part_31 : decode cX11_part 31 = .ok (.iload 4, 2) := by decide +kernel
theorem dX11_part_33 : decode cX11_part 33 = .ok (.ifCond .ne 10, 3) := by decide +kernel
theorem dX11_part_36 : decode cX11_part 36 = .ok (.lload_n 0, 1) := by decide +kernel
theorem dX11_part_37 : decode cX11_part 37 = .ok (.lload 5, 2) := by decide +kernel
theorem dX11_part_39 : decode cX11_part 39 = .ok (.ldiv, 1) := by decide +kernel
theorem dX11_part_40 : decode cX11_part 40 = .ok (.goto 7, 3) := by decide +kernel
theorem dX11_part_43 : decode cX11_part 43 = .ok (.lload_n 2, 1) := by decide +kernel
theorem dX11_part_44 : decode cX11_part 44 = .ok (.lload 5, 2) := by decide +kernel
theorem dX11_part_46 : decode cX11_part 46 = .ok (.ldiv, 1) := by decide +kernel
theorem dX11_part_47 : decode cX11_part 47 = .ok (.lreturn, 1) := by decide +kernel
theorem dX11_odds_0 : decode cX11_odds 0 = .ok (.aload_n 0, 1) := by decide +kernel
theorem dX11_odds_1 : decode cX11_odds 1 = .ok (.iload_n 1, 1) := by decide +kernel
theorem dX11_odds_2 : decode cX11_odds 2 = .ok (.invokevirtual 118, 3) := by decide +kernel
theorem dX11_odds_5 : decode cX11_odds 5 = .ok (.ifCond .eq 12, 3) := by decide +kernel
theorem dX11_odds_8 : decode cX11_odds 8 = .ok (.iload_n 2, 1) := by decide +kernel
theorem dX11_odds_9 : decode cX11_odds 9 = .ok (.iconst 0, 1) := by decide +kernel
theorem dX11_odds_10 : decode cX11_odds 10 = .ok (.iconst 1, 1) := by decide +kernel
theorem dX11_odds_11 : decode cX11_odds 11 = .ok (.invokestatic 114, 3) := by decide +kernel
theorem dX11_odds_14 : decode cX11_odds 14 = .ok (.ifCond .ne 7, 3) := by decide +kernel
theorem dX11_odds_17 : decode cX11_odds 17 = .ok (.ldc2_w 290, 3) := by decide +kernel
theorem dX11_odds_20 : decode cX11_odds 20 = .ok (.lreturn, 1) := by decide +kernel
theorem dX11_odds_21 : decode cX11_odds 21 = .ok (.aload_n 0, 1) := by decide +kernel
theorem dX11_odds_22 : decode cX11_odds 22 = .ok (.getfield 24, 3) := by decide +kernel
theorem dX11_odds_25 : decode cX11_odds 25 = .ok (.iload_n 1, 1) := by decide +kernel
theorem dX11_odds_26 : decode cX11_odds 26 = .ok (.iaload, 1) := by decide +kernel
theorem dX11_odds_27 : decode cX11_odds 27 = .ok (.istore_n 3, 1) := by decide +kernel
theorem dX11_odds_28 : decode cX11_odds 28 = .ok (.aload_n 0, 1) := by decide +kernel
theorem dX11_odds_29 : decode cX11_odds 29 = .ok (.iload_n 1, 1) := by decide +kernel
theorem dX11_odds_30 : decode cX11_odds 30 = .ok (.invokevirtual 129, 3) := by decide +kernel
theorem dX11_odds_33 : decode cX11_odds 33 = .ok (.istore 4, 2) := by decide +kernel
theorem dX11_odds_35 : decode cX11_odds 35 = .ok (.iconst 0, 1) := by decide +kernel
theorem dX11_odds_36 : decode cX11_odds 36 = .ok (.istore 5, 2) := by decide +kernel
theorem dX11_odds_38 : decode cX11_odds 38 = .ok (.iconst 0, 1) := by decide +kernel
theorem dX11_odds_39 : decode cX11_odds 39 = .ok (.istore 6, 2) := by decide +kernel
theorem dX11_odds_41 : decode cX11_odds 41 = .ok (.iload 6, 2) := by decide +kernel
theorem dX11_odds_43 : decode cX11_odds 43 = .ok (.bipush 12, 2) := by decide +kernel
theorem dX11_odds_45 : decode cX11_odds 45 = .ok (.if_icmp .ge 34, 3) := by decide +kernel
theorem dX11_odds_48 : decode cX11_odds 48 = .ok (.aload_n 0, 1) := by decide +kernel
theorem dX11_odds_49 : decode cX11_odds 49 = .ok (.getfield 24, 3) := by decide +kernel
theorem dX11_odds_52 : decode cX11_odds 52 = .ok (.iload_n 1, 1) := by decide +kernel
theorem dX11_odds_53 : decode cX11_odds 53 = .ok (.iload_n 3, 1) := by decide +kernel
theorem dX11_odds_54 : decode cX11_odds 54 = .ok (.iconst 1, 1) := by decide +kernel
theorem dX11_odds_55 : decode cX11_odds 55 = .ok (.iload 6, 2) := by decide +kernel
theorem dX11_odds_57 : decode cX11_odds 57 = .ok (.ishl, 1) := by decide +kernel
theorem dX11_odds_58 : decode cX11_odds 58 = .ok (.ior, 1) := by decide +kernel
theorem dX11_odds_59 : decode cX11_odds 59 = .ok (.iastore, 1) := by decide +kernel
theorem dX11_odds_60 : decode cX11_odds 60 = .ok (.aload_n 0, 1) := by decide +kernel
theorem dX11_odds_61 : decode cX11_odds 61 = .ok (.iload_n 1, 1) := by decide +kernel
theorem dX11_odds_62 : decode cX11_odds 62 = .ok (.invokevirtual 129, 3) := by decide +kernel
theorem dX11_odds_65 : decode cX11_odds 65 = .ok (.iload 4, 2) := by decide +kernel
theorem dX11_odds_67 : decode cX11_odds 67 = .ok (.if_icmp .eq 6, 3) := by decide +kernel
theorem dX11_odds_70 : decode cX11_odds 70 = .ok (.iinc 5 1, 3) := by decide +kernel
theorem dX11_odds_73 : decode cX11_odds 73 = .ok (.iinc 6 1, 3) := by decide +kernel
theorem dX11_odds_76 : decode cX11_odds 76 = .ok (.goto (-35), 3) := by decide +kernel
theorem dX11_odds_79 : decode cX11_odds 79 = .ok (.aload_n 0, 1) := by decide +kernel
theorem dX11_odds_80 : decode cX11_odds 80 = .ok (.getfield 24, 3) := by decide +kernel
theorem dX11_odds_83 : decode cX11_odds 83 = .ok (.iload_n 1, 1) := by decide +kernel
theorem dX11_odds_84 : decode cX11_odds 84 = .ok (.iload_n 3, 1) := by decide +kernel
theorem dX11_odds_85 : decode cX11_odds 85 = .ok (.iastore, 1) := by decide +kernel
theorem dX11_odds_86 : decode cX11_odds 86 = .ok (.iload 5, 2) := by decide +kernel
theorem dX11_odds_88 : decode cX11_odds 88 = .ok (.i2l, 1) := by decide +kernel
theorem dX11_odds_89 : decode cX11_odds 89 = .ok (.ldc2_w 292, 3) := by decide +kernel
theorem dX11_odds_92 : decode cX11_odds 92 = .ok (.iload_n 2, 1) := by decide +kernel
theorem dX11_odds_93 : decode cX11_odds 93 = .ok (.invokestatic 294, 3) := by decide +kernel
theorem dX11_odds_96 : decode cX11_odds 96 = .ok (.lreturn, 1) := by decide +kernel
theorem dX11_mean_0 : decode cX11_mean 0 = .ok (.iload_n 1, 1) := by decide +kernel
theorem dX11_mean_1 : decode cX11_mean 1 = .ok (.iconst 0, 1) := by decide +kernel
theorem dX11_mean_2 : decode cX11_mean 2 = .ok (.bipush 60, 2) := by decide +kernel
theorem dX11_mean_4 : decode cX11_mean 4 = .ok (.invokestatic 114, 3) := by decide +kernel
theorem dX11_mean_7 : decode cX11_mean 7 = .ok (.ifCond .eq 19, 3) := by decide +kernel
theorem dX11_mean_10 : decode cX11_mean 10 = .ok (.iload_n 2, 1) := by decide +kernel
theorem dX11_mean_11 : decode cX11_mean 11 = .ok (.iconst 0, 1) := by decide +kernel
theorem dX11_mean_12 : decode cX11_mean 12 = .ok (.iconst 1, 1) := by decide +kernel
theorem dX11_mean_13 : decode cX11_mean 13 = .ok (.invokestatic 114, 3) := by decide +kernel
theorem dX11_mean_16 : decode cX11_mean 16 = .ok (.ifCond .eq 10, 3) := by decide +kernel
theorem dX11_mean_19 : decode cX11_mean 19 = .ok (.aload_n 0, 1) := by decide +kernel
theorem dX11_mean_20 : decode cX11_mean 20 = .ok (.getfield 111, 3) := by decide +kernel
theorem dX11_mean_23 : decode cX11_mean 23 = .ok (.ifCond .ne 7, 3) := by decide +kernel
theorem dX11_mean_26 : decode cX11_mean 26 = .ok (.ldc2_w 290, 3) := by decide +kernel
theorem dX11_mean_29 : decode cX11_mean 29 = .ok (.lreturn, 1) := by decide +kernel
theorem dX11_mean_30 : decode cX11_mean 30 = .ok (.aload_n 0, 1) := by decide +kernel
theorem dX11_mean_31 : decode cX11_mean 31 = .ok (.iload_n 1, 1) := by decide +kernel
theorem dX11_mean_32 : decode cX11_mean 32 = .ok (.iconst 0, 1) := by decide +kernel
theorem dX11_mean_33 : decode cX11_mean 33 = .ok (.invokevirtual 298, 3) := by decide +kernel
theorem dX11_mean_36 : decode cX11_mean 36 = .ok (.i2l, 1) := by decide +kernel
theorem dX11_mean_37 : decode cX11_mean 37 = .ok (.aload_n 0, 1) := by decide +kernel
theorem dX11_mean_38 : decode cX11_mean 38 = .ok (.getfield 111, 3) := by decide +kernel
theorem dX11_mean_41 : decode cX11_mean 41 = .ok (.i2l, 1) := by decide +kernel
theorem dX11_mean_42 : decode cX11_mean 42 = .ok (.iload_n 2, 1) := by decide +kernel
theorem dX11_mean_43 : decode cX11_mean 43 = .ok (.invokestatic 294, 3) := by decide +kernel
theorem dX11_mean_46 : decode cX11_mean 46 = .ok (.lreturn, 1) := by decide +kernel
theorem dX11_plan_0 : decode cX11_plan 0 = .ok (.iload_n 1, 1) := by decide +kernel
theorem dX11_plan_1 : decode cX11_plan 1 = .ok (.iconst (-1), 1) := by decide +kernel
theorem dX11_plan_2 : decode cX11_plan 2 = .ok (.if_icmp .ne 10, 3) := by decide +kernel
theorem dX11_plan_5 : decode cX11_plan 5 = .ok (.aload_n 0, 1) := by decide +kernel
theorem dX11_plan_6 : decode cX11_plan 6 = .ok (.iconst 0, 1) := by decide +kernel
theorem dX11_plan_7 : decode cX11_plan 7 = .ok (.putfield 301, 3) := by decide +kernel
theorem dX11_plan_10 : decode cX11_plan 10 = .ok (.iconst 0, 1) := by decide +kernel
theorem dX11_plan_11 : decode cX11_plan 11 = .ok (.ireturn, 1) := by decide +kernel
theorem dX11_plan_12 : decode cX11_plan 12 = .ok (.iload_n 1, 1) := by decide +kernel
theorem dX11_plan_13 : decode cX11_plan 13 = .ok (.iconst 0, 1) := by decide +kernel
theorem dX11_plan_14 : decode cX11_plan 14 = .ok (.iconst 3, 1) := by decide +kernel
theorem dX11_plan_15 : decode cX11_plan 15 = .ok (.invokestatic 114, 3) := by decide +kernel
theorem dX11_plan_18 : decode cX11_plan 18 = .ok (.ifCond .eq 15, 3) := by decide +kernel
theorem dX11_plan_21 : decode cX11_plan 21 = .ok (.iload_n 1, 1) := by decide +kernel
theorem dX11_plan_22 : decode cX11_plan 22 = .ok (.ifCond .le 13, 3) := by decide +kernel
theorem dX11_plan_25 : decode cX11_plan 25 = .ok (.aload_n 0, 1) := by decide +kernel
theorem dX11_plan_26 : decode cX11_plan 26 = .ok (.iload_n 2, 1) := by decide +kernel
theorem dX11_plan_27 : decode cX11_plan 27 = .ok (.invokevirtual 118, 3) := by decide +kernel
theorem dX11_plan_30 : decode cX11_plan 30 = .ok (.ifCond .ne 5, 3) := by decide +kernel
theorem dX11_plan_33 : decode cX11_plan 33 = .ok (.iconst (-1), 1) := by decide +kernel
theorem dX11_plan_34 : decode cX11_plan 34 = .ok (.ireturn, 1) := by decide +kernel
theorem dX11_plan_35 : decode cX11_plan 35 = .ok (.aload_n 0, 1) := by decide +kernel
theorem dX11_plan_36 : decode cX11_plan 36 = .ok (.getfield 301, 3) := by decide +kernel
theorem dX11_plan_39 : decode cX11_plan 39 = .ok (.bipush 10, 2) := by decide +kernel
theorem dX11_plan_41 : decode cX11_plan 41 = .ok (.if_icmp .ne 6, 3) := by decide +kernel
theorem dX11_plan_44 : decode cX11_plan 44 = .ok (.bipush (-4), 2) := by decide +kernel
theorem dX11_plan_46 : decode cX11_plan 46 = .ok (.ireturn, 1) := by decide +kernel
theorem dX11_plan_47 : decode cX11_plan 47 = .ok (.aload_n 0, 1) := by decide +kernel
theorem dX11_plan_48 : decode cX11_plan 48 = .ok (.getfield 73, 3) := by decide +kernel
theorem dX11_plan_51 : decode cX11_plan 51 = .ok (.aload_n 0, 1) := by decide +kernel
theorem dX11_plan_52 : decode cX11_plan 52 = .ok (.getfield 301, 3) := by decide +kernel
theorem dX11_plan_55 : decode cX11_plan 55 = .ok (.iload_n 1, 1) := by decide +kernel
theorem dX11_plan_56 : decode cX11_plan 56 = .ok (.iastore, 1) := by decide +kernel
theorem dX11_plan_57 : decode cX11_plan 57 = .ok (.aload_n 0, 1) := by decide +kernel
theorem dX11_plan_58 : decode cX11_plan 58 = .ok (.getfield 76, 3) := by decide +kernel
theorem dX11_plan_61 : decode cX11_plan 61 = .ok (.aload_n 0, 1) := by decide +kernel
theorem dX11_plan_62 : decode cX11_plan 62 = .ok (.dup, 1) := by decide +kernel
theorem dX11_plan_63 : decode cX11_plan 63 = .ok (.getfield 301, 3) := by decide +kernel
theorem dX11_plan_66 : decode cX11_plan 66 = .ok (.dup_x1, 1) := by decide +kernel
theorem dX11_plan_67 : decode cX11_plan 67 = .ok (.iconst 1, 1) := by decide +kernel
theorem dX11_plan_68 : decode cX11_plan 68 = .ok (.iadd, 1) := by decide +kernel
theorem dX11_plan_69 : decode cX11_plan 69 = .ok (.putfield 301, 3) := by decide +kernel
theorem dX11_plan_72 : decode cX11_plan 72 = .ok (.iload_n 1, 1) := by decide +kernel
theorem dX11_plan_73 : decode cX11_plan 73 = .ok (.ifCond .ne 7, 3) := by decide +kernel
theorem dX11_plan_76 : decode cX11_plan 76 = .ok (.iconst 0, 1) := by decide +kernel
theorem dX11_plan_77 : decode cX11_plan 77 = .ok (.goto 4, 3) := by decide +kernel
theorem dX11_plan_80 : decode cX11_plan 80 = .ok (.iload_n 2, 1) := by decide +kernel
theorem dX11_plan_81 : decode cX11_plan 81 = .ok (.iastore, 1) := by decide +kernel
theorem dX11_plan_82 : decode cX11_plan 82 = .ok (.aload_n 0, 1) := by decide +kernel
theorem dX11_plan_83 : decode cX11_plan 83 = .ok (.getfield 301, 3) := by decide +kernel
theorem dX11_plan_86 : decode cX11_plan 86 = .ok (.ireturn, 1) := by decide +kernel
theorem dX11_ends_0 : decode cX11_ends 0 = .ok (.iload_n 1, 1) := by decide +kernel
theorem dX11_ends_1 : decode cX11_ends 1 = .ok (.iconst 0, 1) := by decide +kernel
theorem dX11_ends_2 : decode cX11_ends 2 = .ok (.iconst 1, 1) := by decide +kernel
theorem dX11_ends_3 : decode cX11_ends 3 = .ok (.invokestatic 114, 3) := by decide +kernel
theorem dX11_ends_6 : decode cX11_ends 6 = .ok (.ifCond .ne 5, 3) := by decide +kernel
theorem dX11_ends_9 : decode cX11_ends 9 = .ok (.iconst (-1), 1) := by decide +kernel
theorem dX11_ends_10 : decode cX11_ends 10 = .ok (.ireturn, 1) := by decide +kernel
theorem dX11_ends_11 : decode cX11_ends 11 = .ok (.aload_n 0, 1) := by decide +kernel
theorem dX11_ends_12 : decode cX11_ends 12 = .ok (.aload_n 0, 1) := by decide +kernel
theorem dX11_ends_13 : decode cX11_ends 13 = .ok (.getfield 91, 3) := by decide +kernel
theorem dX11_ends_16 : decode cX11_ends 16 = .ok (.invokevirtual 269, 3) := by decide +kernel
theorem dX11_ends_19 : decode cX11_ends 19 = .ok (.iconst 0, 1) := by decide +kernel
theorem dX11_ends_20 : decode cX11_ends 20 = .ok (.istore_n 2, 1) := by decide +kernel
theorem dX11_ends_21 : decode cX11_ends 21 = .ok (.iload_n 2, 1) := by decide +kernel
theorem dX11_ends_22 : decode cX11_ends 22 = .ok (.aload_n 0, 1) := by decide +kernel
theorem dX11_ends_23 : decode cX11_ends 23 = .ok (.getfield 301, 3) := by decide +kernel
theorem dX11_ends_26 : decode cX11_ends 26 = .ok (.if_icmp .ge 81, 3) := by decide +kernel
theorem dX11_ends_29 : decode cX11_ends 29 = .ok (.aload_n 0, 1) := by decide +kernel
theorem dX11_ends_30 : decode cX11_ends 30 = .ok (.getfield 76, 3) := by decide +kernel
theorem dX11_ends_33 : decode cX11_ends 33 = .ok (.iload_n 2, 1) := by decide +kernel
theorem dX11_ends_34 : decode cX11_ends 34 = .ok (.iaload, 1) := by decide +kernel
theorem dX11_ends_35 : decode cX11_ends 35 = .ok (.istore_n 3, 1) := by decide +kernel
theorem dX11_ends_36 : decode cX11_ends 36 = .ok (.aload_n 0, 1) := by decide +kernel
theorem dX11_ends_37 : decode cX11_ends 37 = .ok (.getfield 73, 3) := by decide +kernel
theorem dX11_ends_40 : decode cX11_ends 40 = .ok (.iload_n 2, 1) := by decide +kernel
theorem dX11_ends_41 : decode cX11_ends 41 = .ok (.iaload, 1) := by decide +kernel
theorem dX11_ends_42 : decode cX11_ends 42 = .ok (.ifCond .ne 10, 3) := by decide +kernel
theorem dX11_ends_45 : decode cX11_ends 45 = .ok (.aload_n 0, 1) := by decide +kernel
theorem dX11_ends_46 : decode cX11_ends 46 = .ok (.invokevirtual 266, 3) := by decide +kernel
theorem dX11_ends_49 : decode cX11_ends 49 = .ok (.goto 52, 3) := by decide +kernel
theorem dX11_ends_52 : decode cX11_ends 52 = .ok (.aload_n 0, 1) := by decide +kernel
theorem dX11_ends_53 : decode cX11_ends 53 = .ok (.getfield 73, 3) := by decide +kernel
theorem dX11_ends_56 : decode cX11_ends 56 = .ok (.iload_n 2, 1) := by decide +kernel
theorem dX11_ends_57 : decode cX11_ends 57 = .ok (.iaload, 1) := by decide +kernel
theorem dX11_ends_58 : decode cX11_ends 58 = .ok (.iconst 3, 1) := by decide +kernel
theorem dX11_ends_59 : decode cX11_ends 59 = .ok (.if_icmp .ge 20, 3) := by decide +kernel
theorem dX11_ends_62 : decode cX11_ends 62 = .ok (.aload_n 0, 1) := by decide +kernel
theorem dX11_ends_63 : decode cX11_ends 63 = .ok (.getfield 30, 3) := by decide +kernel
theorem dX11_ends_66 : decode cX11_ends 66 = .ok (.iload_n 3, 1) := by decide +kernel
theorem dX11_ends_67 : decode cX11_ends 67 = .ok (.aload_n 0, 1) := by decide +kernel
theorem dX11_ends_68 : decode cX11_ends 68 = .ok (.getfield 73, 3) := by decide +kernel
theorem dX11_ends_71 : decode cX11_ends 71 = .ok (.iload_n 2, 1) := by decide +kernel
theorem dX11_ends_72 : decode cX11_ends 72 = .ok (.iaload, 1) := by decide +kernel
theorem dX11_ends_73 : decode cX11_ends 73 = .ok (.iconst 1, 1) := by decide +kernel
theorem dX11_ends_74 : decode cX11_ends 74 = .ok (.isub, 1) := by decide +kernel
theorem dX11_ends_75 : decode cX11_ends 75 = .ok (.iastore, 1) := by decide +kernel
theorem dX11_ends_76 : decode cX11_ends 76 = .ok (.goto 25, 3) := by decide +kernel
theorem dX11_ends_79 : decode cX11_ends 79 = .ok (.aload_n 0, 1) := by decide +kernel
theorem dX11_ends_80 : decode cX11_ends 80 = .ok (.getfield 24, 3) := by decide +kernel
theorem dX11_ends_83 : decode cX11_ends 83 = .ok (.iload_n 3, 1) := by decide +kernel
theorem dX11_ends_84 : decode cX11_ends 84 = .ok (.dup2, 1) := by decide +kernel
theorem dX11_ends_85 : decode cX11_ends 85 = .ok (.iaload, 1) := by decide +kernel
theorem dX11_ends_86 : decode cX11_ends 86 = .ok (.aload_n 0, 1) := by decide +kernel
theorem dX11_ends_87 : decode cX11_ends 87 = .ok (.getfield 27, 3) := by decide +kernel
theorem dX11_ends_90 : decode cX11_ends 90 = .ok (.iload_n 3, 1) := by decide +kernel
theorem dX11_ends_91 : decode cX11_ends 91 = .ok (.iaload, 1) := by decide +kernel
theorem dX11_ends_92 : decode cX11_ends 92 = .ok (.ior, 1) := by decide +kernel
theorem dX11_ends_93 : decode cX11_ends 93 = .ok (.iastore, 1) := by decide +kernel
theorem dX11_ends_94 : decode cX11_ends 94 = .ok (.aload_n 0, 1) := by decide +kernel
theorem dX11_ends_95 : decode cX11_ends 95 = .ok (.getfield 27, 3) := by decide +kernel
theorem dX11_ends_98 : decode cX11_ends 98 = .ok (.iload_n 3, 1) := by decide +kernel
theorem dX11_ends_99 : decode cX11_ends 99 = .ok (.iconst 0, 1) := by decide +kernel
theorem dX11_ends_100 : decode cX11_ends 100 = .ok (.iastore, 1) := by decide +kernel
theorem dX11_ends_101 : decode cX11_ends 101 = .ok (.iinc 2 1, 3) := by decide +kernel
theorem dX11_ends_104 : decode cX11_ends 104 = .ok (.goto (-83), 3) := by decide +kernel
theorem dX11_ends_107 : decode cX11_ends 107 = .ok (.iload_n 1, 1) := by decide +kernel
theorem dX11_ends_108 : decode cX11_ends 108 = .ok (.ifCond .ne 10, 3) := by decide +kernel
theorem dX11_ends_111 : decode cX11_ends 111 = .ok (.aload_n 0, 1) := by decide +kernel
theorem dX11_ends_112 : decode cX11_ends 112 = .ok (.invokevirtual 257, 3) := by decide +kernel
theorem dX11_ends_115 : decode cX11_ends 115 = .ok (.goto 7, 3) := by decide +kernel
theorem dX11_ends_118 : decode cX11_ends 118 = .ok (.aload_n 0, 1) := by decide +kernel
theorem dX11_ends_119 : decode cX11_ends 119 = .ok (.invokevirtual 304, 3) := by decide +kernel
theorem dX11_ends_122 : decode cX11_ends 122 = .ok (.istore_n 2, 1) := by decide +kernel
theorem dX11_ends_123 : decode cX11_ends 123 = .ok (.aload_n 0, 1) := by decide +kernel
theorem dX11_ends_124 : decode cX11_ends 124 = .ok (.aload_n 0, 1) := by decide +kernel
theorem dX11_ends_125 : decode cX11_ends 125 = .ok (.getfield 91, 3) := by decide +kernel
theorem dX11_ends_128 : decode cX11_ends 128 = .ok (.invokevirtual 273, 3) := by decide +kernel
theorem dX11_ends_131 : decode cX11_ends 131 = .ok (.iload_n 2, 1) := by decide +kernel
theorem dX11_ends_132 : decode cX11_ends 132 = .ok (.ireturn, 1) := by decide +kernel
theorem dX11_book_0 : decode cX11_book 0 = .ok (.iload_n 1, 1) := by decide +kernel
theorem dX11_book_1 : decode cX11_book 1 = .ok (.iconst (-1), 1) := by decide +kernel
theorem dX11_book_2 : decode cX11_book 2 = .ok (.if_icmp .ne 10, 3) := by decide +kernel
theorem dX11_book_5 : decode cX11_book 5 = .ok (.aload_n 0, 1) := by decide +kernel
theorem dX11_book_6 : decode cX11_book 6 = .ok (.iconst 0, 1) := by decide +kernel
theorem dX11_book_7 : decode cX11_book 7 = .ok (.putfield 307, 3) := by decide +kernel
theorem dX11_book_10 : decode cX11_book 10 = .ok (.iconst 0, 1) := by decide +kernel
theorem dX11_book_11 : decode cX11_book 11 = .ok (.ireturn, 1) := by decide +kernel
theorem dX11_book_12 : decode cX11_book 12 = .ok (.iload_n 1, 1) := by decide +kernel
theorem dX11_book_13 : decode cX11_book 13 = .ok (.invokestatic 122, 3) := by decide +kernel
theorem dX11_book_16 : decode cX11_book 16 = .ok (.ifCond .ne 5, 3) := by decide +kernel
theorem dX11_book_19 : decode cX11_book 19 = .ok (.iconst (-1), 1) := by decide +kernel
theorem dX11_book_20 : decode cX11_book 20 = .ok (.ireturn, 1) := by decide +kernel
theorem dX11_book_21 : decode cX11_book 21 = .ok (.iload_n 2, 1) := by decide +kernel
theorem dX11_book_22 : decode cX11_book 22 = .ok (.iconst 0, 1) := by decide +kernel
theorem dX11_book_23 : decode cX11_book 23 = .ok (.bipush 99, 2) := by decide +kernel
theorem dX11_book_25 : decode cX11_book 25 = .ok (.invokestatic 114, 3) := by decide +kernel
theorem dX11_book_28 : decode cX11_book 28 = .ok (.ifCond .ne 6, 3) := by decide +kernel
theorem dX11_book_31 : decode cX11_book 31 = .ok (.bipush (-2), 2) := by decide +kernel
theorem dX11_book_33 : decode cX11_book 33 = .ok (.ireturn, 1) := by decide +kernel
theorem dX11_book_34 : decode cX11_book 34 = .ok (.aload_n 0, 1) := by decide +kernel
theorem dX11_book_35 : decode cX11_book 35 = .ok (.getfield 307, 3) := by decide +kernel
theorem dX11_book_38 : decode cX11_book 38 = .ok (.bipush 8, 2) := by decide +kernel
theorem dX11_book_40 : decode cX11_book 40 = .ok (.if_icmp .ne 6, 3) := by decide +kernel
theorem dX11_book_43 : decode cX11_book 43 = .ok (.bipush (-4), 2) := by decide +kernel
theorem dX11_book_45 : decode cX11_book 45 = .ok (.ireturn, 1) := by decide +kernel
theorem dX11_book_46 : decode cX11_book 46 = .ok (.aload_n 0, 1) := by decide +kernel
theorem dX11_book_47 : decode cX11_book 47 = .ok (.getfield 79, 3) := by decide +kernel
theorem dX11_book_50 : decode cX11_book 50 = .ok (.aload_n 0, 1) := by decide +kernel
theorem dX11_book_51 : decode cX11_book 51 = .ok (.getfield 307, 3) := by decide +kernel
theorem dX11_book_54 : decode cX11_book 54 = .ok (.iload_n 1, 1) := by decide +kernel
theorem dX11_book_55 : decode cX11_book 55 = .ok (.iastore, 1) := by decide +kernel
theorem dX11_book_56 : decode cX11_book 56 = .ok (.aload_n 0, 1) := by decide +kernel
theorem dX11_book_57 : decode cX11_book 57 = .ok (.getfield 82, 3) := by decide +kernel
theorem dX11_book_60 : decode cX11_book 60 = .ok (.aload_n 0, 1) := by decide +kernel
theorem dX11_book_61 : decode cX11_book 61 = .ok (.dup, 1) := by decide +kernel
theorem dX11_book_62 : decode cX11_book 62 = .ok (.getfield 307, 3) := by decide +kernel
theorem dX11_book_65 : decode cX11_book 65 = .ok (.dup_x1, 1) := by decide +kernel
theorem dX11_book_66 : decode cX11_book 66 = .ok (.iconst 1, 1) := by decide +kernel
theorem dX11_book_67 : decode cX11_book 67 = .ok (.iadd, 1) := by decide +kernel
theorem dX11_book_68 : decode cX11_book 68 = .ok (.putfield 307, 3) := by decide +kernel
theorem dX11_book_71 : decode cX11_book 71 = .ok (.iload_n 2, 1) := by decide +kernel
theorem dX11_book_72 : decode cX11_book 72 = .ok (.iastore, 1) := by decide +kernel
theorem dX11_book_73 : decode cX11_book 73 = .ok (.aload_n 0, 1) := by decide +kernel
theorem dX11_book_74 : decode cX11_book 74 = .ok (.getfield 307, 3) := by decide +kernel
theorem dX11_book_77 : decode cX11_book 77 = .ok (.ireturn, 1) := by decide +kernel
theorem dX11_looked_0 : decode cX11_looked 0 = .ok (.iconst 0, 1) := by decide +kernel
theorem dX11_looked_1 : decode cX11_looked 1 = .ok (.istore_n 1, 1) := by decide +kernel
theorem dX11_looked_2 : decode cX11_looked 2 = .ok (.iload_n 1, 1) := by decide +kernel
theorem dX11_looked_3 : decode cX11_looked 3 = .ok (.aload_n 0, 1) := by decide +kernel
theorem dX11_looked_4 : decode cX11_looked 4 = .ok (.getfield 307, 3) := by decide +kernel
theorem dX11_looked_7 : decode cX11_looked 7 = .ok (.if_icmp .ge 31, 3) := by decide +kernel
theorem dX11_looked_10 : decode cX11_looked 10 = .ok (.aload_n 0, 1) := by decide +kernel
theorem dX11_looked_11 : decode cX11_looked 11 = .ok (.getfield 15, 3) := by decide +kernel
theorem dX11_looked_14 : decode cX11_looked 14 = .ok (.aload_n 0, 1) := by decide +kernel
theorem dX11_looked_15 : decode cX11_looked 15 = .ok (.getfield 79, 3) := by decide +kernel
theorem dX11_looked_18 : decode cX11_looked 18 = .ok (.iload_n 1, 1) := by decide +kernel
theorem dX11_looked_19 : decode cX11_looked 19 = .ok (.iaload, 1) := by decide +kernel
theorem dX11_looked_20 : decode cX11_looked 20 = .ok (.iaload, 1) := by decide +kernel
theorem dX11_looked_21 : decode cX11_looked 21 = .ok (.aload_n 0, 1) := by decide +kernel
theorem dX11_looked_22 : decode cX11_looked 22 = .ok (.getfield 82, 3) := by decide +kernel
theorem dX11_looked_25 : decode cX11_looked 25 = .ok (.iload_n 1, 1) := by decide +kernel
theorem dX11_looked_26 : decode cX11_looked 26 = .ok (.iaload, 1) := by decide +kernel
theorem dX11_looked_27 : decode cX11_looked 27 = .ok (.if_icmp .eq 5, 3) := by decide +kernel
theorem dX11_looked_30 : decode cX11_looked 30 = .ok (.iload_n 1, 1) := by decide +kernel
theorem dX11_looked_31 : decode cX11_looked 31 = .ok (.ireturn, 1) := by decide +kernel
theorem dX11_looked_32 : decode cX11_looked 32 = .ok (.iinc 1 1, 3) := by decide +kernel
theorem dX11_looked_35 : decode cX11_looked 35 = .ok (.goto (-33), 3) := by decide +kernel
theorem dX11_looked_38 : decode cX11_looked 38 = .ok (.bipush (-5), 2) := by decide +kernel
theorem dX11_looked_40 : decode cX11_looked 40 = .ok (.ireturn, 1) := by decide +kernel
theorem dX11_judge_0 : decode cX11_judge 0 = .ok (.iload_n 1, 1) := by decide +kernel
theorem dX11_judge_1 : decode cX11_judge 1 = .ok (.iconst 0, 1) := by decide +kernel
theorem dX11_judge_2 : decode cX11_judge 2 = .ok (.iconst 5, 1) := by decide +kernel
theorem dX11_judge_3 : decode cX11_judge 3 = .ok (.invokestatic 114, 3) := by decide +kernel
theorem dX11_judge_6 : decode cX11_judge 6 = .ok (.ifCond .ne 5, 3) := by decide +kernel
theorem dX11_judge_9 : decode cX11_judge 9 = .ok (.iconst (-1), 1) := by decide +kernel
theorem dX11_judge_10 : decode cX11_judge 10 = .ok (.ireturn, 1) := by decide +kernel
theorem dX11_judge_11 : decode cX11_judge 11 = .ok (.aload_n 0, 1) := by decide +kernel
theorem dX11_judge_12 : decode cX11_judge 12 = .ok (.getfield 97, 3) := by decide +kernel
theorem dX11_judge_15 : decode cX11_judge 15 = .ok (.iload_n 1, 1) := by decide +kernel
theorem dX11_judge_16 : decode cX11_judge 16 = .ok (.iaload, 1) := by decide +kernel
theorem dX11_judge_17 : decode cX11_judge 17 = .ok (.iconst (-1), 1) := by decide +kernel
theorem dX11_judge_18 : decode cX11_judge 18 = .ok (.if_icmp .eq 15, 3) := by decide +kernel
theorem dX11_judge_21 : decode cX11_judge 21 = .ok (.aload_n 0, 1) := by decide +kernel
theorem dX11_judge_22 : decode cX11_judge 22 = .ok (.getfield 97, 3) := by decide +kernel
theorem dX11_judge_25 : decode cX11_judge 25 = .ok (.iload_n 1, 1) := by decide +kernel
theorem dX11_judge_26 : decode cX11_judge 26 = .ok (.iaload, 1) := by decide +kernel
theorem dX11_judge_27 : decode cX11_judge 27 = .ok (.ifCond .eq 6, 3) := by decide +kernel
theorem dX11_judge_30 : decode cX11_judge 30 = .ok (.bipush (-12), 2) := by decide +kernel
theorem dX11_judge_32 : decode cX11_judge 32 = .ok (.ireturn, 1) := by decide +kernel
theorem dX11_judge_33 : decode cX11_judge 33 = .ok (.iconst 0, 1) := by decide +kernel
theorem dX11_judge_34 : decode cX11_judge 34 = .ok (.istore_n 3, 1) := by decide +kernel
theorem dX11_judge_35 : decode cX11_judge 35 = .ok (.iload_n 3, 1) := by decide +kernel
theorem dX11_judge_36 : decode cX11_judge 36 = .ok (.bipush 12, 2) := by decide +kernel
theorem dX11_judge_38 : decode cX11_judge 38 = .ok (.if_icmp .ge 70, 3) := by decide +kernel
theorem dX11_judge_41 : decode cX11_judge 41 = .ok (.aload_n 0, 1) := by decide +kernel
theorem dX11_judge_42 : decode cX11_judge 42 = .ok (.getfield 97, 3) := by decide +kernel
theorem dX11_judge_45 : decode cX11_judge 45 = .ok (.iload_n 1, 1) := by decide +kernel
theorem dX11_judge_46 : decode cX11_judge 46 = .ok (.iaload, 1) := by decide +kernel
theorem dX11_judge_47 : decode cX11_judge 47 = .ok (.iconst (-1), 1) := by decide +kernel
theorem dX11_judge_48 : decode cX11_judge 48 = .ok (.if_icmp .eq 23, 3) := by decide +kernel
theorem dX11_judge_51 : decode cX11_judge 51 = .ok (.iload_n 2, 1) := by decide +kernel
theorem dX11_judge_52 : decode cX11_judge 52 = .ok (.ifCond .lt 19, 3) := by decide +kernel
theorem dX11_judge_55 : decode cX11_judge 55 = .ok (.iload_n 2, 1) := by decide +kernel
theorem dX11_judge_56 : decode cX11_judge 56 = .ok (.i2l, 1) := by decide +kernel
theorem dX11_judge_57 : decode cX11_judge 57 = .ok (.iload_n 3, 1) := by decide +kernel
theorem dX11_judge_58 : decode cX11_judge 58 = .ok (.i2l, 1) := by decide +kernel
theorem dX11_judge_59 : decode cX11_judge 59 = .ok (.ladd, 1) := by decide +kernel
theorem dX11_judge_60 : decode cX11_judge 60 = .ok (.aload_n 0, 1) := by decide +kernel
theorem dX11_judge_61 : decode cX11_judge 61 = .ok (.getfield 100, 3) := by decide +kernel
theorem dX11_judge_64 : decode cX11_judge 64 = .ok (.iload_n 1, 1) := by decide +kernel
theorem dX11_judge_65 : decode cX11_judge 65 = .ok (.iaload, 1) := by decide +kernel
theorem dX11_judge_66 : decode cX11_judge 66 = .ok (.i2l, 1) := by decide +kernel
theorem dX11_judge_67 : decode cX11_judge 67 = .ok (.lcmp, 1) := by decide +kernel
theorem dX11_judge_68 : decode cX11_judge 68 = .ok (.ifCond .lt 8, 3) := by decide +kernel
theorem dX11_judge_71 : decode cX11_judge 71 = .ok (.bipush 100, 2) := by decide +kernel
theorem dX11_judge_73 : decode cX11_judge 73 = .ok (.iload_n 3, 1) := by decide +kernel
theorem dX11_judge_74 : decode cX11_judge 74 = .ok (.iadd, 1) := by decide +kernel
theorem dX11_judge_75 : decode cX11_judge 75 = .ok (.ireturn, 1) := by decide +kernel
theorem dX11_judge_76 : decode cX11_judge 76 = .ok (.aload_n 0, 1) := by decide +kernel
theorem dX11_judge_77 : decode cX11_judge 77 = .ok (.getfield 103, 3) := by decide +kernel
theorem dX11_judge_80 : decode cX11_judge 80 = .ok (.bipush 60, 2) := by decide +kernel
theorem dX11_judge_82 : decode cX11_judge 82 = .ok (.iload_n 1, 1) := by decide +kernel
theorem dX11_judge_83 : decode cX11_judge 83 = .ok (.imul, 1) := by decide +kernel
theorem dX11_judge_84 : decode cX11_judge 84 = .ok (.iload_n 2, 1) := by decide +kernel
theorem dX11_judge_85 : decode cX11_judge 85 = .ok (.iadd, 1) := by decide +kernel
theorem dX11_judge_86 : decode cX11_judge 86 = .ok (.iload_n 3, 1) := by decide +kernel
theorem dX11_judge_87 : decode cX11_judge 87 = .ok (.iadd, 1) := by decide +kernel
theorem dX11_judge_88 : decode cX11_judge 88 = .ok (.laload, 1) := by decide +kernel
theorem dX11_judge_89 : decode cX11_judge 89 = .ok (.aload_n 0, 1) := by decide +kernel
theorem dX11_judge_90 : decode cX11_judge 90 = .ok (.getfield 15, 3) := by decide +kernel
theorem dX11_judge_93 : decode cX11_judge 93 = .ok (.iload_n 3, 1) := by decide +kernel
theorem dX11_judge_94 : decode cX11_judge 94 = .ok (.iaload, 1) := by decide +kernel
theorem dX11_judge_95 : decode cX11_judge 95 = .ok (.i2l, 1) := by decide +kernel
theorem dX11_judge_96 : decode cX11_judge 96 = .ok (.lcmp, 1) := by decide +kernel
theorem dX11_judge_97 : decode cX11_judge 97 = .ok (.ifCond .eq 5, 3) := by decide +kernel
theorem dX11_judge_100 : decode cX11_judge 100 = .ok (.iload_n 3, 1) := by decide +kernel
theorem dX11_judge_101 : decode cX11_judge 101 = .ok (.ireturn, 1) := by decide +kernel
theorem dX11_judge_102 : decode cX11_judge 102 = .ok (.iinc 3 1, 3) := by decide +kernel
theorem dX11_judge_105 : decode cX11_judge 105 = .ok (.goto (-70), 3) := by decide +kernel
theorem dX11_judge_108 : decode cX11_judge 108 = .ok (.bipush (-5), 2) := by decide +kernel
theorem dX11_judge_110 : decode cX11_judge 110 = .ok (.ireturn, 1) := by decide +kernel
theorem dX11_keep_0 : decode cX11_keep 0 = .ok (.iconst 0, 1) := by decide +kernel
theorem dX11_keep_1 : decode cX11_keep 1 = .ok (.istore_n 2, 1) := by decide +kernel
theorem dX11_keep_2 : decode cX11_keep 2 = .ok (.iload_n 2, 1) := by decide +kernel
theorem dX11_keep_3 : decode cX11_keep 3 = .ok (.bipush 12, 2) := by decide +kernel
theorem dX11_keep_5 : decode cX11_keep 5 = .ok (.if_icmp .ge 30, 3) := by decide +kernel
theorem dX11_keep_8 : decode cX11_keep 8 = .ok (.aload_n 1, 1) := by decide +kernel
theorem dX11_keep_9 : decode cX11_keep 9 = .ok (.iload_n 2, 1) := by decide +kernel
theorem dX11_keep_10 : decode cX11_keep 10 = .ok (.aload_n 0, 1) := by decide +kernel
theorem dX11_keep_11 : decode cX11_keep 11 = .ok (.getfield 9, 3) := by decide +kernel
theorem dX11_keep_14 : decode cX11_keep 14 = .ok (.iload_n 2, 1) := by decide +kernel
theorem dX11_keep_15 : decode cX11_keep 15 = .ok (.iaload, 1) := by decide +kernel
theorem dX11_keep_16 : decode cX11_keep 16 = .ok (.iastore, 1) := by decide +kernel
theorem dX11_keep_17 : decode cX11_keep 17 = .ok (.aload_n 1, 1) := by decide +kernel
theorem dX11_keep_18 : decode cX11_keep 18 = .ok (.bipush 12, 2) := by decide +kernel
theorem dX11_keep_20 : decode cX11_keep 20 = .ok (.iload_n 2, 1) := by decide +kernel
theorem dX11_keep_21 : decode cX11_keep 21 = .ok (.iadd, 1) := by decide +kernel
theorem dX11_keep_22 : decode cX11_keep 22 = .ok (.aload_n 0, 1) := by decide +kernel
theorem dX11_keep_23 : decode cX11_keep 23 = .ok (.getfield 15, 3) := by decide +kernel
theorem dX11_keep_26 : decode cX11_keep 26 = .ok (.iload_n 2, 1) := by decide +kernel
theorem dX11_keep_27 : decode cX11_keep 27 = .ok (.iaload, 1) := by decide +kernel
theorem dX11_keep_28 : decode cX11_keep 28 = .ok (.iastore, 1) := by decide +kernel
theorem dX11_keep_29 : decode cX11_keep 29 = .ok (.iinc 2 1, 3) := by decide +kernel
theorem dX11_keep_32 : decode cX11_keep 32 = .ok (.goto (-30), 3) := by decide +kernel
theorem dX11_keep_35 : decode cX11_keep 35 = .ok (.iconst 0, 1) := by decide +kernel
theorem dX11_keep_36 : decode cX11_keep 36 = .ok (.istore_n 2, 1) := by decide +kernel
theorem dX11_keep_37 : decode cX11_keep 37 = .ok (.iload_n 2, 1) := by decide +kernel
theorem dX11_keep_38 : decode cX11_keep 38 = .ok (.bipush 6, 2) := by decide +kernel
theorem dX11_keep_40 : decode cX11_keep 40 = .ok (.if_icmp .ge 69, 3) := by decide +kernel
theorem dX11_keep_43 : decode cX11_keep 43 = .ok (.aload_n 1, 1) := by decide +kernel
theorem dX11_keep_44 : decode cX11_keep 44 = .ok (.bipush 24, 2) := by decide +kernel
theorem dX11_keep_46 : decode cX11_keep 46 = .ok (.iload_n 2, 1) := by decide +kernel
theorem dX11_keep_47 : decode cX11_keep 47 = .ok (.iadd, 1) := by decide +kernel
theorem dX11_keep_48 : decode cX11_keep 48 = .ok (.aload_n 0, 1) := by decide +kernel
theorem dX11_keep_49 : decode cX11_keep 49 = .ok (.getfield 18, 3) := by decide +kernel
theorem dX11_keep_52 : decode cX11_keep 52 = .ok (.iload_n 2, 1) := by decide +kernel
theorem dX11_keep_53 : decode cX11_keep 53 = .ok (.iaload, 1) := by decide +kernel
theorem dX11_keep_54 : decode cX11_keep 54 = .ok (.iastore, 1) := by decide +kernel
theorem dX11_keep_55 : decode cX11_keep 55 = .ok (.aload_n 1, 1) := by decide +kernel
theorem dX11_keep_56 : decode cX11_keep 56 = .ok (.bipush 30, 2) := by decide +kernel
theorem dX11_keep_58 : decode cX11_keep 58 = .ok (.iload_n 2, 1) := by decide +kernel
theorem dX11_keep_59 : decode cX11_keep 59 = .ok (.iadd, 1) := by decide +kernel
theorem dX11_keep_60 : decode cX11_keep 60 = .ok (.aload_n 0, 1) := by decide +kernel
theorem dX11_keep_61 : decode cX11_keep 61 = .ok (.getfield 21, 3) := by decide +kernel
theorem dX11_keep_64 : decode cX11_keep 64 = .ok (.iload_n 2, 1) := by decide +kernel
theorem dX11_keep_65 : decode cX11_keep 65 = .ok (.iaload, 1) := by decide +kernel
theorem dX11_keep_66 : decode cX11_keep 66 = .ok (.iastore, 1) := by decide +kernel
theorem dX11_keep_67 : decode cX11_keep 67 = .ok (.aload_n 1, 1) := by decide +kernel
theorem dX11_keep_68 : decode cX11_keep 68 = .ok (.bipush 36, 2) := by decide +kernel
theorem dX11_keep_70 : decode cX11_keep 70 = .ok (.iload_n 2, 1) := by decide +kernel
theorem dX11_keep_71 : decode cX11_keep 71 = .ok (.iadd, 1) := by decide +kernel
theorem dX11_keep_72 : decode cX11_keep 72 = .ok (.aload_n 0, 1) := by decide +kernel
theorem dX11_keep_73 : decode cX11_keep 73 = .ok (.getfield 24, 3) := by decide +kernel
theorem dX11_keep_76 : decode cX11_keep 76 = .ok (.iload_n 2, 1) := by decide +kernel
theorem dX11_keep_77 : decode cX11_keep 77 = .ok (.iaload, 1) := by decide +kernel
theorem dX11_keep_78 : decode cX11_keep 78 = .ok (.iastore, 1) := by decide +kernel
theorem dX11_keep_79 : decode cX11_keep 79 = .ok (.aload_n 1, 1) := by decide +kernel
theorem dX11_keep_80 : decode cX11_keep 80 = .ok (.bipush 42, 2) := by decide +kernel
theorem dX11_keep_82 : decode cX11_keep 82 = .ok (.iload_n 2, 1) := by decide +kernel
theorem dX11_keep_83 : decode cX11_keep 83 = .ok (.iadd, 1) := by decide +kernel
theorem dX11_keep_84 : decode cX11_keep 84 = .ok (.aload_n 0, 1) := by decide +kernel
theorem dX11_keep_85 : decode cX11_keep 85 = .ok (.getfield 27, 3) := by decide +kernel
theorem dX11_keep_88 : decode cX11_keep 88 = .ok (.iload_n 2, 1) := by decide +kernel
theorem dX11_keep_89 : decode cX11_keep 89 = .ok (.iaload, 1) := by decide +kernel
theorem dX11_keep_90 : decode cX11_keep 90 = .ok (.iastore, 1) := by decide +kernel
theorem dX11_keep_91 : decode cX11_keep 91 = .ok (.aload_n 1, 1) := by decide +kernel
theorem dX11_keep_92 : decode cX11_keep 92 = .ok (.bipush 48, 2) := by decide +kernel
theorem dX11_keep_94 : decode cX11_keep 94 = .ok (.iload_n 2, 1) := by decide +kernel
theorem dX11_keep_95 : decode cX11_keep 95 = .ok (.iadd, 1) := by decide +kernel
theorem dX11_keep_96 : decode cX11_keep 96 = .ok (.aload_n 0, 1) := by decide +kernel
theorem dX11_keep_97 : decode cX11_keep 97 = .ok (.getfield 30, 3) := by decide +kernel
theorem dX11_keep_100 : decode cX11_keep 100 = .ok (.iload_n 2, 1) := by decide +kernel
theorem dX11_keep_101 : decode cX11_keep 101 = .ok (.iaload, 1) := by decide +kernel
theorem dX11_keep_102 : decode cX11_keep 102 = .ok (.iastore, 1) := by decide +kernel
theorem dX11_keep_103 : decode cX11_keep 103 = .ok (.iinc 2 1, 3) := by decide +kernel
theorem dX11_keep_106 : decode cX11_keep 106 = .ok (.goto (-69), 3) := by decide +kernel
theorem dX11_keep_109 : decode cX11_keep 109 = .ok (.iconst 0, 1) := by decide +kernel
theorem dX11_keep_110 : decode cX11_keep 110 = .ok (.istore_n 2, 1) := by decide +kernel
theorem dX11_keep_111 : decode cX11_keep 111 = .ok (.iload_n 2, 1) := by decide +kernel
theorem dX11_keep_112 : decode cX11_keep 112 = .ok (.bipush 24, 2) := by decide +kernel
theorem dX11_keep_114 : decode cX11_keep 114 = .ok (.if_icmp .ge 21, 3) := by decide +kernel
theorem dX11_keep_117 : decode cX11_keep 117 = .ok (.aload_n 1, 1) := by decide +kernel
theorem dX11_keep_118 : decode cX11_keep 118 = .ok (.bipush 54, 2) := by decide +kernel
theorem dX11_keep_120 : decode cX11_keep 120 = .ok (.iload_n 2, 1) := by decide +kernel
theorem dX11_keep_121 : decode cX11_keep 121 = .ok (.iadd, 1) := by decide +kernel
theorem dX11_keep_122 : decode cX11_keep 122 = .ok (.aload_n 0, 1) := by decide +kernel
theorem dX11_keep_123 : decode cX11_keep 123 = .ok (.getfield 33, 3) := by decide +kernel
theorem dX11_keep_126 : decode cX11_keep 126 = .ok (.iload_n 2, 1) := by decide +kernel
theorem dX11_keep_127 : decode cX11_keep 127 = .ok (.iaload, 1) := by decide +kernel
theorem dX11_keep_128 : decode cX11_keep 128 = .ok (.iastore, 1) := by decide +kernel
theorem dX11_keep_129 : decode cX11_keep 129 = .ok (.iinc 2 1, 3) := by decide +kernel
theorem dX11_keep_132 : decode cX11_keep 132 = .ok (.goto (-21), 3) := by decide +kernel
theorem dX11_keep_135 : decode cX11_keep 135 = .ok (.iconst 0, 1) := by decide +kernel
theorem dX11_keep_136 : decode cX11_keep 136 = .ok (.istore_n 2, 1) := by decide +kernel
theorem dX11_keep_137 : decode cX11_keep 137 = .ok (.iload_n 2, 1) := by decide +kernel
theorem dX11_keep_138 : decode cX11_keep 138 = .ok (.iconst 5, 1) := by decide +kernel
theorem dX11_keep_139 : decode cX11_keep 139 = .ok (.if_icmp .ge 57, 3) := by decide +kernel
theorem dX11_keep_142 : decode cX11_keep 142 = .ok (.aload_n 1, 1) := by decide +kernel
theorem dX11_keep_143 : decode cX11_keep 143 = .ok (.bipush 78, 2) := by decide +kernel
theorem dX11_keep_145 : decode cX11_keep 145 = .ok (.iload_n 2, 1) := by decide +kernel
theorem dX11_keep_146 : decode cX11_keep 146 = .ok (.iadd, 1) := by decide +kernel
theorem dX11_keep_147 : decode cX11_keep 147 = .ok (.aload_n 0, 1) := by decide +kernel
theorem dX11_keep_148 : decode cX11_keep 148 = .ok (.getfield 61, 3) := by decide +kernel
theorem dX11_keep_151 : decode cX11_keep 151 = .ok (.iload_n 2, 1) := by decide +kernel
theorem dX11_keep_152 : decode cX11_keep 152 = .ok (.iaload, 1) := by decide +kernel
theorem dX11_keep_153 : decode cX11_keep 153 = .ok (.iastore, 1) := by decide +kernel
theorem dX11_keep_154 : decode cX11_keep 154 = .ok (.aload_n 1, 1) := by decide +kernel
theorem dX11_keep_155 : decode cX11_keep 155 = .ok (.bipush 83, 2) := by decide +kernel
theorem dX11_keep_157 : decode cX11_keep 157 = .ok (.iload_n 2, 1) := by decide +kernel
theorem dX11_keep_158 : decode cX11_keep 158 = .ok (.iadd, 1) := by decide +kernel
theorem dX11_keep_159 : decode cX11_keep 159 = .ok (.aload_n 0, 1) := by decide +kernel
theorem dX11_keep_160 : decode cX11_keep 160 = .ok (.getfield 64, 3) := by decide +kernel
theorem dX11_keep_163 : decode cX11_keep 163 = .ok (.iload_n 2, 1) := by decide +kernel
theorem dX11_keep_164 : decode cX11_keep 164 = .ok (.iaload, 1) := by decide +kernel
theorem dX11_keep_165 : decode cX11_keep 165 = .ok (.iastore, 1) := by decide +kernel
theorem dX11_keep_166 : decode cX11_keep 166 = .ok (.aload_n 1, 1) := by decide +kernel
theorem dX11_keep_167 : decode cX11_keep 167 = .ok (.bipush 88, 2) := by decide +kernel
theorem dX11_keep_169 : decode cX11_keep 169 = .ok (.iload_n 2, 1) := by decide +kernel
theorem dX11_keep_170 : decode cX11_keep 170 = .ok (.iadd, 1) := by decide +kernel
theorem dX11_keep_171 : decode cX11_keep 171 = .ok (.aload_n 0, 1) := by decide +kernel
theorem dX11_keep_172 : decode cX11_keep 172 = .ok (.getfield 67, 3) := by decide +kernel
theorem dX11_keep_175 : decode cX11_keep 175 = .ok (.iload_n 2, 1) := by decide +kernel
theorem dX11_keep_176 : decode cX11_keep 176 = .ok (.iaload, 1) := by decide +kernel
theorem dX11_keep_177 : decode cX11_keep 177 = .ok (.iastore, 1) := by decide +kernel
theorem dX11_keep_178 : decode cX11_keep 178 = .ok (.aload_n 1, 1) := by decide +kernel
theorem dX11_keep_179 : decode cX11_keep 179 = .ok (.bipush 93, 2) := by decide +kernel
theorem dX11_keep_181 : decode cX11_keep 181 = .ok (.iload_n 2, 1) := by decide +kernel
theorem dX11_keep_182 : decode cX11_keep 182 = .ok (.iadd, 1) := by decide +kernel
theorem dX11_keep_183 : decode cX11_keep 183 = .ok (.aload_n 0, 1) := by decide +kernel
theorem dX11_keep_184 : decode cX11_keep 184 = .ok (.getfield 70, 3) := by decide +kernel
theorem dX11_keep_187 : decode cX11_keep 187 = .ok (.iload_n 2, 1) := by decide +kernel
theorem dX11_keep_188 : decode cX11_keep 188 = .ok (.iaload, 1) := by decide +kernel
theorem dX11_keep_189 : decode cX11_keep 189 = .ok (.iastore, 1) := by decide +kernel
theorem dX11_keep_190 : decode cX11_keep 190 = .ok (.iinc 2 1, 3) := by decide +kernel
theorem dX11_keep_193 : decode cX11_keep 193 = .ok (.goto (-56), 3) := by decide +kernel
theorem dX11_keep_196 : decode cX11_keep 196 = .ok (.iconst 0, 1) := by decide +kernel
theorem dX11_keep_197 : decode cX11_keep 197 = .ok (.istore_n 2, 1) := by decide +kernel
theorem dX11_keep_198 : decode cX11_keep 198 = .ok (.iload_n 2, 1) := by decide +kernel
theorem dX11_keep_199 : decode cX11_keep 199 = .ok (.bipush 10, 2) := by decide +kernel
theorem dX11_keep_201 : decode cX11_keep 201 = .ok (.if_icmp .ge 33, 3) := by decide +kernel
theorem dX11_keep_204 : decode cX11_keep 204 = .ok (.aload_n 1, 1) := by decide +kernel
theorem dX11_keep_205 : decode cX11_keep 205 = .ok (.bipush 98, 2) := by decide +kernel
theorem dX11_keep_207 : decode cX11_keep 207 = .ok (.iload_n 2, 1) := by decide +kernel
theorem dX11_keep_208 : decode cX11_keep 208 = .ok (.iadd, 1) := by decide +kernel
theorem dX11_keep_209 : decode cX11_keep 209 = .ok (.aload_n 0, 1) := by decide +kernel
theorem dX11_keep_210 : decode cX11_keep 210 = .ok (.getfield 73, 3) := by decide +kernel
theorem dX11_keep_213 : decode cX11_keep 213 = .ok (.iload_n 2, 1) := by decide +kernel
theorem dX11_keep_214 : decode cX11_keep 214 = .ok (.iaload, 1) := by decide +kernel
theorem dX11_keep_215 : decode cX11_keep 215 = .ok (.iastore, 1) := by decide +kernel
theorem dX11_keep_216 : decode cX11_keep 216 = .ok (.aload_n 1, 1) := by decide +kernel
theorem dX11_keep_217 : decode cX11_keep 217 = .ok (.bipush 108, 2) := by decide +kernel
theorem dX11_keep_219 : decode cX11_keep 219 = .ok (.iload_n 2, 1) := by decide +kernel
theorem dX11_keep_220 : decode cX11_keep 220 = .ok (.iadd, 1) := by decide +kernel
theorem dX11_keep_221 : decode cX11_keep 221 = .ok (.aload_n 0, 1) := by decide +kernel
theorem dX11_keep_222 : decode cX11_keep 222 = .ok (.getfield 76, 3) := by decide +kernel
theorem dX11_keep_225 : decode cX11_keep 225 = .ok (.iload_n 2, 1) := by decide +kernel
theorem dX11_keep_226 : decode cX11_keep 226 = .ok (.iaload, 1) := by decide +kernel
theorem dX11_keep_227 : decode cX11_keep 227 = .ok (.iastore, 1) := by decide +kernel
theorem dX11_keep_228 : decode cX11_keep 228 = .ok (.iinc 2 1, 3) := by decide +kernel
theorem dX11_keep_231 : decode cX11_keep 231 = .ok (.goto (-33), 3) := by decide +kernel
theorem dX11_keep_234 : decode cX11_keep 234 = .ok (.iconst 0, 1) := by decide +kernel
theorem dX11_keep_235 : decode cX11_keep 235 = .ok (.istore_n 2, 1) := by decide +kernel
theorem dX11_keep_236 : decode cX11_keep 236 = .ok (.iload_n 2, 1) := by decide +kernel
theorem dX11_keep_237 : decode cX11_keep 237 = .ok (.bipush 8, 2) := by decide +kernel
theorem dX11_keep_239 : decode cX11_keep 239 = .ok (.if_icmp .ge 33, 3) := by decide +kernel
theorem dX11_keep_242 : decode cX11_keep 242 = .ok (.aload_n 1, 1) := by decide +kernel
theorem dX11_keep_243 : decode cX11_keep 243 = .ok (.bipush 118, 2) := by decide +kernel
theorem dX11_keep_245 : decode cX11_keep 245 = .ok (.iload_n 2, 1) := by decide +kernel
theorem dX11_keep_246 : decode cX11_keep 246 = .ok (.iadd, 1) := by decide +kernel
theorem dX11_keep_247 : decode cX11_keep 247 = .ok (.aload_n 0, 1) := by decide +kernel
theorem dX11_keep_248 : decode cX11_keep 248 = .ok (.getfield 79, 3) := by decide +kernel
theorem dX11_keep_251 : decode cX11_keep 251 = .ok (.iload_n 2, 1) := by decide +kernel
theorem dX11_keep_252 : decode cX11_keep 252 = .ok (.iaload, 1) := by decide +kernel
theorem dX11_keep_253 : decode cX11_keep 253 = .ok (.iastore, 1) := by decide +kernel
theorem dX11_keep_254 : decode cX11_keep 254 = .ok (.aload_n 1, 1) := by decide +kernel
theorem dX11_keep_255 : decode cX11_keep 255 = .ok (.bipush 126, 2) := by decide +kernel
theorem dX11_keep_257 : decode cX11_keep 257 = .ok (.iload_n 2, 1) := by decide +kernel
theorem dX11_keep_258 : decode cX11_keep 258 = .ok (.iadd, 1) := by decide +kernel
theorem dX11_keep_259 : decode cX11_keep 259 = .ok (.aload_n 0, 1) := by decide +kernel
theorem dX11_keep_260 : decode cX11_keep 260 = .ok (.getfield 82, 3) := by decide +kernel
theorem dX11_keep_263 : decode cX11_keep 263 = .ok (.iload_n 2, 1) := by decide +kernel
theorem dX11_keep_264 : decode cX11_keep 264 = .ok (.iaload, 1) := by decide +kernel
theorem dX11_keep_265 : decode cX11_keep 265 = .ok (.iastore, 1) := by decide +kernel
theorem dX11_keep_266 : decode cX11_keep 266 = .ok (.iinc 2 1, 3) := by decide +kernel
theorem dX11_keep_269 : decode cX11_keep 269 = .ok (.goto (-33), 3) := by decide +kernel
theorem dX11_keep_272 : decode cX11_keep 272 = .ok (.aload_n 1, 1) := by decide +kernel
theorem dX11_keep_273 : decode cX11_keep 273 = .ok (.sipush 134, 3) := by decide +kernel
theorem dX11_keep_276 : decode cX11_keep 276 = .ok (.aload_n 0, 1) := by decide +kernel
theorem dX11_keep_277 : decode cX11_keep 277 = .ok (.getfield 111, 3) := by decide +kernel
theorem dX11_keep_280 : decode cX11_keep 280 = .ok (.iastore, 1) := by decide +kernel
theorem dX11_keep_281 : decode cX11_keep 281 = .ok (.aload_n 1, 1) := by decide +kernel
theorem dX11_keep_282 : decode cX11_keep 282 = .ok (.sipush 135, 3) := by decide +kernel
theorem dX11_keep_285 : decode cX11_keep 285 = .ok (.aload_n 0, 1) := by decide +kernel
theorem dX11_keep_286 : decode cX11_keep 286 = .ok (.getfield 221, 3) := by decide +kernel
theorem dX11_keep_289 : decode cX11_keep 289 = .ok (.iastore, 1) := by decide +kernel
theorem dX11_keep_290 : decode cX11_keep 290 = .ok (.aload_n 1, 1) := by decide +kernel
theorem dX11_keep_291 : decode cX11_keep 291 = .ok (.sipush 136, 3) := by decide +kernel
theorem dX11_keep_294 : decode cX11_keep 294 = .ok (.aload_n 0, 1) := by decide +kernel
theorem dX11_keep_295 : decode cX11_keep 295 = .ok (.getfield 284, 3) := by decide +kernel
theorem dX11_keep_298 : decode cX11_keep 298 = .ok (.iastore, 1) := by decide +kernel
theorem dX11_keep_299 : decode cX11_keep 299 = .ok (.aload_n 1, 1) := by decide +kernel
theorem dX11_keep_300 : decode cX11_keep 300 = .ok (.sipush 137, 3) := by decide +kernel
theorem dX11_keep_303 : decode cX11_keep 303 = .ok (.aload_n 0, 1) := by decide +kernel
theorem dX11_keep_304 : decode cX11_keep 304 = .ok (.getfield 301, 3) := by decide +kernel
theorem dX11_keep_307 : decode cX11_keep 307 = .ok (.iastore, 1) := by decide +kernel
theorem dX11_keep_308 : decode cX11_keep 308 = .ok (.aload_n 1, 1) := by decide +kernel
theorem dX11_keep_309 : decode cX11_keep 309 = .ok (.sipush 138, 3) := by decide +kernel
theorem dX11_keep_312 : decode cX11_keep 312 = .ok (.aload_n 0, 1) := by decide +kernel
theorem dX11_keep_313 : decode cX11_keep 313 = .ok (.getfield 307, 3) := by decide +kernel
theorem dX11_keep_316 : decode cX11_keep 316 = .ok (.iastore, 1) := by decide +kernel
theorem dX11_keep_317 : decode cX11_keep 317 = .ok (.aload_n 1, 1) := by decide +kernel
theorem dX11_keep_318 : decode cX11_keep 318 = .ok (.sipush 139, 3) := by decide +kernel
theorem dX11_keep_321 : decode cX11_keep 321 = .ok (.aload_n 0, 1) := by decide +kernel
theorem dX11_keep_322 : decode cX11_keep 322 = .ok (.getfield 107, 3) := by decide +kernel
theorem dX11_keep_325 : decode cX11_keep 325 = .ok (.iastore, 1) := by decide +kernel
theorem dX11_keep_326 : decode cX11_keep 326 = .ok (.return_, 1) := by decide +kernel
theorem dX11_again_0 : decode cX11_again 0 = .ok (.iconst 0, 1) := by decide +kernel
theorem dX11_again_1 : decode cX11_again 1 = .ok (.istore_n 2, 1) := by decide +kernel
theorem dX11_again_2 : decode cX11_again 2 = .ok (.iload_n 2, 1) := by decide +kernel
theorem dX11_again_3 : decode cX11_again 3 = .ok (.bipush 12, 2) := by decide +kernel
theorem dX11_again_5 : decode cX11_again 5 = .ok (.if_icmp .ge 30, 3) := by decide +kernel
theorem dX11_again_8 : decode cX11_again 8 = .ok (.aload_n 0, 1) := by decide +kernel
theorem dX11_again_9 : decode cX11_again 9 = .ok (.getfield 9, 3) := by decide +kernel
theorem dX11_again_12 : decode cX11_again 12 = .ok (.iload_n 2, 1) := by decide +kernel
theorem dX11_again_13 : decode cX11_again 13 = .ok (.aload_n 1, 1) := by decide +kernel
theorem dX11_again_14 : decode cX11_again 14 = .ok (.iload_n 2, 1) := by decide +kernel
theorem dX11_again_15 : decode cX11_again 15 = .ok (.iaload, 1) := by decide +kernel
theorem dX11_again_16 : decode cX11_again 16 = .ok (.iastore, 1) := by decide +kernel
theorem dX11_again_17 : decode cX11_again 17 = .ok (.aload_n 0, 1) := by decide +kernel
theorem dX11_again_18 : decode cX11_again 18 = .ok (.getfield 15, 3) := by decide +kernel
theorem dX11_again_21 : decode cX11_again 21 = .ok (.iload_n 2, 1) := by decide +kernel
theorem dX11_again_22 : decode cX11_again 22 = .ok (.aload_n 1, 1) := by decide +kernel
theorem dX11_again_23 : decode cX11_again 23 = .ok (.bipush 12, 2) := by decide +kernel
theorem dX11_again_25 : decode cX11_again 25 = .ok (.iload_n 2, 1) := by decide +kernel
theorem dX11_again_26 : decode cX11_again 26 = .ok (.iadd, 1) := by decide +kernel
theorem dX11_again_27 : decode cX11_again 27 = .ok (.iaload, 1) := by decide +kernel
theorem dX11_again_28 : decode cX11_again 28 = .ok (.iastore, 1) := by decide +kernel
theorem dX11_again_29 : decode cX11_again 29 = .ok (.iinc 2 1, 3) := by decide +kernel
theorem dX11_again_32 : decode cX11_again 32 = .ok (.goto (-30), 3) := by decide +kernel
theorem dX11_again_35 : decode cX11_again 35 = .ok (.iconst 0, 1) := by decide +kernel
theorem dX11_again_36 : decode cX11_again 36 = .ok (.istore_n 2, 1) := by decide +kernel
theorem dX11_again_37 : decode cX11_again 37 = .ok (.iload_n 2, 1) := by decide +kernel
theorem dX11_again_38 : decode cX11_again 38 = .ok (.bipush 6, 2) := by decide +kernel
theorem dX11_again_40 : decode cX11_again 40 = .ok (.if_icmp .ge 69, 3) := by decide +kernel
theorem dX11_again_43 : decode cX11_again 43 = .ok (.aload_n 0, 1) := by decide +kernel
theorem dX11_again_44 : decode cX11_again 44 = .ok (.getfield 18, 3) := by decide +kernel
theorem dX11_again_47 : decode cX11_again 47 = .ok (.iload_n 2, 1) := by decide +kernel
theorem dX11_again_48 : decode cX11_again 48 = .ok (.aload_n 1, 1) := by decide +kernel
theorem dX11_again_49 : decode cX11_again 49 = .ok (.bipush 24, 2) := by decide +kernel
theorem dX11_again_51 : decode cX11_again 51 = .ok (.iload_n 2, 1) := by decide +kernel
theorem dX11_again_52 : decode cX11_again 52 = .ok (.iadd, 1) := by decide +kernel
theorem dX11_again_53 : decode cX11_again 53 = .ok (.iaload, 1) := by decide +kernel
theorem dX11_again_54 : decode cX11_again 54 = .ok (.iastore, 1) := by decide +kernel
theorem dX11_again_55 : decode cX11_again 55 = .ok (.aload_n 0, 1) := by decide +kernel
theorem dX11_again_56 : decode cX11_again 56 = .ok (.getfield 21, 3) := by decide +kernel
theorem dX11_again_59 : decode cX11_again 59 = .ok (.iload_n 2, 1) := by decide +kernel
theorem dX11_again_60 : decode cX11_again 60 = .ok (.aload_n 1, 1) := by decide +kernel
theorem dX11_again_61 : decode cX11_again 61 = .ok (.bipush 30, 2) := by decide +kernel
theorem dX11_again_63 : decode cX11_again 63 = .ok (.iload_n 2, 1) := by decide +kernel
theorem dX11_again_64 : decode cX11_again 64 = .ok (.iadd, 1) := by decide +kernel
theorem dX11_again_65 : decode cX11_again 65 = .ok (.iaload, 1) := by decide +kernel
theorem dX11_again_66 : decode cX11_again 66 = .ok (.iastore, 1) := by decide +kernel
theorem dX11_again_67 : decode cX11_again 67 = .ok (.aload_n 0, 1) := by decide +kernel
theorem dX11_again_68 : decode cX11_again 68 = .ok (.getfield 24, 3) := by decide +kernel
theorem dX11_again_71 : decode cX11_again 71 = .ok (.iload_n 2, 1) := by decide +kernel
theorem dX11_again_72 : decode cX11_again 72 = .ok (.aload_n 1, 1) := by decide +kernel
theorem dX11_again_73 : decode cX11_again 73 = .ok (.bipush 36, 2) := by decide +kernel
theorem dX11_again_75 : decode cX11_again 75 = .ok (.iload_n 2, 1) := by decide +kernel
theorem dX11_again_76 : decode cX11_again 76 = .ok (.iadd, 1) := by decide +kernel
theorem dX11_again_77 : decode cX11_again 77 = .ok (.iaload, 1) := by decide +kernel
theorem dX11_again_78 : decode cX11_again 78 = .ok (.iastore, 1) := by decide +kernel
theorem dX11_again_79 : decode cX11_again 79 = .ok (.aload_n 0, 1) := by decide +kernel
theorem dX11_again_80 : decode cX11_again 80 = .ok (.getfield 27, 3) := by decide +kernel
theorem dX11_again_83 : decode cX11_again 83 = .ok (.iload_n 2, 1) := by decide +kernel
theorem dX11_again_84 : decode cX11_again 84 = .ok (.aload_n 1, 1) := by decide +kernel
theorem dX11_again_85 : decode cX11_again 85 = .ok (.bipush 42, 2) := by decide +kernel
theorem dX11_again_87 : decode cX11_again 87 = .ok (.iload_n 2, 1) := by decide +kernel
theorem dX11_again_88 : decode cX11_again 88 = .ok (.iadd, 1) := by decide +kernel
theorem dX11_again_89 : decode cX11_again 89 = .ok (.iaload, 1) := by decide +kernel
theorem dX11_again_90 : decode cX11_again 90 = .ok (.iastore, 1) := by decide +kernel
theorem dX11_again_91 : decode cX11_again 91 = .ok (.aload_n 0, 1) := by decide +kernel
theorem dX11_again_92 : decode cX11_again 92 = .ok (.getfield 30, 3) := by decide +kernel
theorem dX11_again_95 : decode cX11_again 95 = .ok (.iload_n 2, 1) := by decide +kernel
theorem dX11_again_96 : decode cX11_again 96 = .ok (.aload_n 1, 1) := by decide +kernel
theorem dX11_again_97 : decode cX11_again 97 = .ok (.bipush 48, 2) := by decide +kernel
theorem dX11_again_99 : decode cX11_again 99 = .ok (.iload_n 2, 1) := by decide +kernel
theorem dX11_again_100 : decode cX11_again 100 = .ok (.iadd, 1) := by decide +kernel
theorem dX11_again_101 : decode cX11_again 101 = .ok (.iaload, 1) := by decide +kernel
theorem dX11_again_102 : decode cX11_again 102 = .ok (.iastore, 1) := by decide +kernel
theorem dX11_again_103 : decode cX11_again 103 = .ok (.iinc 2 1, 3) := by decide +kernel
theorem dX11_again_106 : decode cX11_again 106 = .ok (.goto (-69), 3) := by decide +kernel
theorem dX11_again_109 : decode cX11_again 109 = .ok (.iconst 0, 1) := by decide +kernel
theorem dX11_again_110 : decode cX11_again 110 = .ok (.istore_n 2, 1) := by decide +kernel
theorem dX11_again_111 : decode cX11_again 111 = .ok (.iload_n 2, 1) := by decide +kernel
theorem dX11_again_112 : decode cX11_again 112 = .ok (.bipush 24, 2) := by decide +kernel
theorem dX11_again_114 : decode cX11_again 114 = .ok (.if_icmp .ge 21, 3) := by decide +kernel
theorem dX11_again_117 : decode cX11_again 117 = .ok (.aload_n 0, 1) := by decide +kernel
theorem dX11_again_118 : decode cX11_again 118 = .ok (.getfield 33, 3) := by decide +kernel
theorem dX11_again_121 : decode cX11_again 121 = .ok (.iload_n 2, 1) := by decide +kernel
theorem dX11_again_122 : decode cX11_again 122 = .ok (.aload_n 1, 1) := by decide +kernel
theorem dX11_again_123 : decode cX11_again 123 = .ok (.bipush 54, 2) := by decide +kernel
theorem dX11_again_125 : decode cX11_again 125 = .ok (.iload_n 2, 1) := by decide +kernel
theorem dX11_again_126 : decode cX11_again 126 = .ok (.iadd, 1) := by decide +kernel
theorem dX11_again_127 : decode cX11_again 127 = .ok (.iaload, 1) := by decide +kernel
theorem dX11_again_128 : decode cX11_again 128 = .ok (.iastore, 1) := by decide +kernel
theorem dX11_again_129 : decode cX11_again 129 = .ok (.iinc 2 1, 3) := by decide +kernel
theorem dX11_again_132 : decode cX11_again 132 = .ok (.goto (-21), 3) := by decide +kernel
theorem dX11_again_135 : decode cX11_again 135 = .ok (.iconst 0, 1) := by decide +kernel
theorem dX11_again_136 : decode cX11_again 136 = .ok (.istore_n 2, 1) := by decide +kernel
theorem dX11_again_137 : decode cX11_again 137 = .ok (.iload_n 2, 1) := by decide +kernel
theorem dX11_again_138 : decode cX11_again 138 = .ok (.iconst 5, 1) := by decide +kernel
theorem dX11_again_139 : decode cX11_again 139 = .ok (.if_icmp .ge 57, 3) := by decide +kernel
theorem dX11_again_142 : decode cX11_again 142 = .ok (.aload_n 0, 1) := by decide +kernel
theorem dX11_again_143 : decode cX11_again 143 = .ok (.getfield 61, 3) := by decide +kernel
theorem dX11_again_146 : decode cX11_again 146 = .ok (.iload_n 2, 1) := by decide +kernel
theorem dX11_again_147 : decode cX11_again 147 = .ok (.aload_n 1, 1) := by decide +kernel
theorem dX11_again_148 : decode cX11_again 148 = .ok (.bipush 78, 2) := by decide +kernel
theorem dX11_again_150 : decode cX11_again 150 = .ok (.iload_n 2, 1) := by decide +kernel
theorem dX11_again_151 : decode cX11_again 151 = .ok (.iadd, 1) := by decide +kernel
theorem dX11_again_152 : decode cX11_again 152 = .ok (.iaload, 1) := by decide +kernel
theorem dX11_again_153 : decode cX11_again 153 = .ok (.iastore, 1) := by decide +kernel
theorem dX11_again_154 : decode cX11_again 154 = .ok (.aload_n 0, 1) := by decide +kernel
theorem dX11_again_155 : decode cX11_again 155 = .ok (.getfield 64, 3) := by decide +kernel
theorem dX11_again_158 : decode cX11_again 158 = .ok (.iload_n 2, 1) := by decide +kernel
theorem dX11_again_159 : decode cX11_again 159 = .ok (.aload_n 1, 1) := by decide +kernel
theorem dX11_again_160 : decode cX11_again 160 = .ok (.bipush 83, 2) := by decide +kernel
theorem dX11_again_162 : decode cX11_again 162 = .ok (.iload_n 2, 1) := by decide +kernel
theorem dX11_again_163 : decode cX11_again 163 = .ok (.iadd, 1) := by decide +kernel
theorem dX11_again_164 : decode cX11_again 164 = .ok (.iaload, 1) := by decide +kernel
theorem dX11_again_165 : decode cX11_again 165 = .ok (.iastore, 1) := by decide +kernel
theorem dX11_again_166 : decode cX11_again 166 = .ok (.aload_n 0, 1) := by decide +kernel
theorem dX11_again_167 : decode cX11_again 167 = .ok (.getfield 67, 3) := by decide +kernel
theorem dX11_again_170 : decode cX11_again 170 = .ok (.iload_n 2, 1) := by decide +kernel
theorem dX11_again_171 : decode cX11_again 171 = .ok (.aload_n 1, 1) := by decide +kernel
theorem dX11_again_172 : decode cX11_again 172 = .ok (.bipush 88, 2) := by decide +kernel
theorem dX11_again_174 : decode cX11_again 174 = .ok (.iload_n 2, 1) := by decide +kernel
theorem dX11_again_175 : decode cX11_again 175 = .ok (.iadd, 1) := by decide +kernel
theorem dX11_again_176 : decode cX11_again 176 = .ok (.iaload, 1) := by decide +kernel
theorem dX11_again_177 : decode cX11_again 177 = .ok (.iastore, 1) := by decide +kernel
theorem dX11_again_178 : decode cX11_again 178 = .ok (.aload_n 0, 1) := by decide +kernel
theorem dX11_again_179 : decode cX11_again 179 = .ok (.getfield 70, 3) := by decide +kernel
theorem dX11_again_182 : decode cX11_again 182 = .ok (.iload_n 2, 1) := by decide +kernel
theorem dX11_again_183 : decode cX11_again 183 = .ok (.aload_n 1, 1) := by decide +kernel
theorem dX11_again_184 : decode cX11_again 184 = .ok (.bipush 93, 2) := by decide +kernel
theorem dX11_again_186 : decode cX11_again 186 = .ok (.iload_n 2, 1) := by decide +kernel
theorem dX11_again_187 : decode cX11_again 187 = .ok (.iadd, 1) := by decide +kernel
theorem dX11_again_188 : decode cX11_again 188 = .ok (.iaload, 1) := by decide +kernel
theorem dX11_again_189 : decode cX11_again 189 = .ok (.iastore, 1) := by decide +kernel
theorem dX11_again_190 : decode cX11_again 190 = .ok (.iinc 2 1, 3) := by decide +kernel
theorem dX11_again_193 : decode cX11_again 193 = .ok (.goto (-56), 3) := by decide +kernel
theorem dX11_again_196 : decode cX11_again 196 = .ok (.iconst 0, 1) := by decide +kernel
theorem dX11_again_197 : decode cX11_again 197 = .ok (.istore_n 2, 1) := by decide +kernel
theorem dX11_again_198 : decode cX11_again 198 = .ok (.iload_n 2, 1) := by decide +kernel
theorem dX11_again_199 : decode cX11_again 199 = .ok (.bipush 10, 2) := by decide +kernel
theorem dX11_again_201 : decode cX11_again 201 = .ok (.if_icmp .ge 33, 3) := by decide +kernel
theorem dX11_again_204 : decode cX11_again 204 = .ok (.aload_n 0, 1) := by decide +kernel
theorem dX11_again_205 : decode cX11_again 205 = .ok (.getfield 73, 3) := by decide +kernel
theorem dX11_again_208 : decode cX11_again 208 = .ok (.iload_n 2, 1) := by decide +kernel
theorem dX11_again_209 : decode cX11_again 209 = .ok (.aload_n 1, 1) := by decide +kernel
theorem dX11_again_210 : decode cX11_again 210 = .ok (.bipush 98, 2) := by decide +kernel
theorem dX11_again_212 : decode cX11_again 212 = .ok (.iload_n 2, 1) := by decide +kernel
theorem dX11_again_213 : decode cX11_again 213 = .ok (.iadd, 1) := by decide +kernel
theorem dX11_again_214 : decode cX11_again 214 = .ok (.iaload, 1) := by decide +kernel
theorem dX11_again_215 : decode cX11_again 215 = .ok (.iastore, 1) := by decide +kernel
theorem dX11_again_216 : decode cX11_again 216 = .ok (.aload_n 0, 1) := by decide +kernel
theorem dX11_again_217 : decode cX11_again 217 = .ok (.getfield 76, 3) := by decide +kernel
theorem dX11_again_220 : decode cX11_again 220 = .ok (.iload_n 2, 1) := by decide +kernel
theorem dX11_again_221 : decode cX11_again 221 = .ok (.aload_n 1, 1) := by decide +kernel
theorem dX11_again_222 : decode cX11_again 222 = .ok (.bipush 108, 2) := by decide +kernel
theorem dX11_again_224 : decode cX11_again 224 = .ok (.iload_n 2, 1) := by decide +kernel
theorem dX11_again_225 : decode cX11_again 225 = .ok (.iadd, 1) := by decide +kernel
theorem dX11_again_226 : decode cX11_again 226 = .ok (.iaload, 1) := by decide +kernel
theorem dX11_again_227 : decode cX11_again 227 = .ok (.iastore, 1) := by decide +kernel
theorem dX11_again_228 : decode cX11_again 228 = .ok (.iinc 2 1, 3) := by decide +kernel
theorem dX11_again_231 : decode cX11_again 231 = .ok (.goto (-33), 3) := by decide +kernel
theorem dX11_again_234 : decode cX11_again 234 = .ok (.iconst 0, 1) := by decide +kernel
theorem dX11_again_235 : decode cX11_again 235 = .ok (.istore_n 2, 1) := by decide +kernel
theorem dX11_again_236 : decode cX11_again 236 = .ok (.iload_n 2, 1) := by decide +kernel
theorem dX11_again_237 : decode cX11_again 237 = .ok (.bipush 8, 2) := by decide +kernel
theorem dX11_again_239 : decode cX11_again 239 = .ok (.if_icmp .ge 33, 3) := by decide +kernel
theorem dX11_again_242 : decode cX11_again 242 = .ok (.aload_n 0, 1) := by decide +kernel
theorem dX11_again_243 : decode cX11_again 243 = .ok (.getfield 79, 3) := by decide +kernel
theorem dX11_again_246 : decode cX11_again 246 = .ok (.iload_n 2, 1) := by decide +kernel
theorem dX11_again_247 : decode cX11_again 247 = .ok (.aload_n 1, 1) := by decide +kernel
theorem dX11_again_248 : decode cX11_again 248 = .ok (.bipush 118, 2) := by decide +kernel
theorem dX11_again_250 : decode cX11_again 250 = .ok (.iload_n 2, 1) := by decide +kernel
theorem dX11_again_251 : decode cX11_again 251 = .ok (.iadd, 1) := by decide +kernel
theorem dX11_again_252 : decode cX11_again 252 = .ok (.iaload, 1) := by decide +kernel
theorem dX11_again_253 : decode cX11_again 253 = .ok (.iastore, 1) := by decide +kernel
theorem dX11_again_254 : decode cX11_again 254 = .ok (.aload_n 0, 1) := by decide +kernel
theorem dX11_again_255 : decode cX11_again 255 = .ok (.getfield 82, 3) := by decide +kernel
theorem dX11_again_258 : decode cX11_again 258 = .ok (.iload_n 2, 1) := by decide +kernel
theorem dX11_again_259 : decode cX11_again 259 = .ok (.aload_n 1, 1) := by decide +kernel
theorem dX11_again_260 : decode cX11_again 260 = .ok (.bipush 126, 2) := by decide +kernel
theorem dX11_again_262 : decode cX11_again 262 = .ok (.iload_n 2, 1) := by decide +kernel
theorem dX11_again_263 : decode cX11_again 263 = .ok (.iadd, 1) := by decide +kernel
theorem dX11_again_264 : decode cX11_again 264 = .ok (.iaload, 1) := by decide +kernel
theorem dX11_again_265 : decode cX11_again 265 = .ok (.iastore, 1) := by decide +kernel
theorem dX11_again_266 : decode cX11_again 266 = .ok (.iinc 2 1, 3) := by decide +kernel
theorem dX11_again_269 : decode cX11_again 269 = .ok (.goto (-33), 3) := by decide +kernel
theorem dX11_again_272 : decode cX11_again 272 = .ok (.aload_n 0, 1) := by decide +kernel
theorem dX11_again_273 : decode cX11_again 273 = .ok (.aload_n 1, 1) := by decide +kernel
theorem dX11_again_274 : decode cX11_again 274 = .ok (.sipush 134, 3) := by decide +kernel
theorem dX11_again_277 : decode cX11_again 277 = .ok (.iaload, 1) := by decide +kernel
theorem dX11_again_278 : decode cX11_again 278 = .ok (.putfield 111, 3) := by decide +kernel
theorem dX11_again_281 : decode cX11_again 281 = .ok (.aload_n 0, 1) := by decide +kernel
theorem dX11_again_282 : decode cX11_again 282 = .ok (.aload_n 1, 1) := by decide +kernel
theorem dX11_again_283 : decode cX11_again 283 = .ok (.sipush 135, 3) := by decide +kernel
theorem dX11_again_286 : decode cX11_again 286 = .ok (.iaload, 1) := by decide +kernel
theorem dX11_again_287 : decode cX11_again 287 = .ok (.putfield 221, 3) := by decide +kernel
theorem dX11_again_290 : decode cX11_again 290 = .ok (.aload_n 0, 1) := by decide +kernel
theorem dX11_again_291 : decode cX11_again 291 = .ok (.aload_n 1, 1) := by decide +kernel
theorem dX11_again_292 : decode cX11_again 292 = .ok (.sipush 136, 3) := by decide +kernel
theorem dX11_again_295 : decode cX11_again 295 = .ok (.iaload, 1) := by decide +kernel
theorem dX11_again_296 : decode cX11_again 296 = .ok (.putfield 284, 3) := by decide +kernel
theorem dX11_again_299 : decode cX11_again 299 = .ok (.aload_n 0, 1) := by decide +kernel
theorem dX11_again_300 : decode cX11_again 300 = .ok (.aload_n 1, 1) := by decide +kernel
theorem dX11_again_301 : decode cX11_again 301 = .ok (.sipush 137, 3) := by decide +kernel
theorem dX11_again_304 : decode cX11_again 304 = .ok (.iaload, 1) := by decide +kernel
theorem dX11_again_305 : decode cX11_again 305 = .ok (.putfield 301, 3) := by decide +kernel
theorem dX11_again_308 : decode cX11_again 308 = .ok (.aload_n 0, 1) := by decide +kernel
theorem dX11_again_309 : decode cX11_again 309 = .ok (.aload_n 1, 1) := by decide +kernel
theorem dX11_again_310 : decode cX11_again 310 = .ok (.sipush 138, 3) := by decide +kernel
theorem dX11_again_313 : decode cX11_again 313 = .ok (.iaload, 1) := by decide +kernel
theorem dX11_again_314 : decode cX11_again 314 = .ok (.putfield 307, 3) := by decide +kernel
theorem dX11_again_317 : decode cX11_again 317 = .ok (.aload_n 0, 1) := by decide +kernel
theorem dX11_again_318 : decode cX11_again 318 = .ok (.aload_n 1, 1) := by decide +kernel
theorem dX11_again_319 : decode cX11_again 319 = .ok (.sipush 139, 3) := by decide +kernel
theorem dX11_again_322 : decode cX11_again 322 = .ok (.iaload, 1) := by decide +kernel
theorem dX11_again_323 : decode cX11_again 323 = .ok (.putfield 107, 3) := by decide +kernel
theorem dX11_again_326 : decode cX11_again 326 = .ok (.return_, 1) := by decide +kernel
theorem dX11_image_0 : decode cX11_image 0 = .ok (.aload_n 0, 1) := by decide +kernel
theorem dX11_image_1 : decode cX11_image 1 = .ok (.iconst 1, 1) := by decide +kernel
theorem dX11_image_2 : decode cX11_image 2 = .ok (.putfield 310, 3) := by decide +kernel
theorem dX11_image_5 : decode cX11_image 5 = .ok (.aload_n 0, 1) := by decide +kernel
theorem dX11_image_6 : decode cX11_image 6 = .ok (.aload_n 0, 1) := by decide +kernel
theorem dX11_image_7 : decode cX11_image 7 = .ok (.getfield 88, 3) := by decide +kernel
theorem dX11_image_10 : decode cX11_image 10 = .ok (.invokevirtual 269, 3) := by decide +kernel
theorem dX11_image_13 : decode cX11_image 13 = .ok (.aload_n 0, 1) := by decide +kernel
theorem dX11_image_14 : decode cX11_image 14 = .ok (.getfield 111, 3) := by decide +kernel
theorem dX11_image_17 : decode cX11_image 17 = .ok (.ireturn, 1) := by decide +kernel
theorem dX11_undo_0 : decode cX11_undo 0 = .ok (.aload_n 0, 1) := by decide +kernel
theorem dX11_undo_1 : decode cX11_undo 1 = .ok (.getfield 310, 3) := by decide +kernel
theorem dX11_undo_4 : decode cX11_undo 4 = .ok (.ifCond .ne 6, 3) := by decide +kernel
theorem dX11_undo_7 : decode cX11_undo 7 = .ok (.bipush (-3), 2) := by decide +kernel
theorem dX11_undo_9 : decode cX11_undo 9 = .ok (.ireturn, 1) := by decide +kernel
theorem dX11_undo_10 : decode cX11_undo 10 = .ok (.aload_n 0, 1) := by decide +kernel
theorem dX11_undo_11 : decode cX11_undo 11 = .ok (.aload_n 0, 1) := by decide +kernel
theorem dX11_undo_12 : decode cX11_undo 12 = .ok (.getfield 88, 3) := by decide +kernel
theorem dX11_undo_15 : decode cX11_undo 15 = .ok (.invokevirtual 273, 3) := by decide +kernel
theorem dX11_undo_18 : decode cX11_undo 18 = .ok (.aload_n 0, 1) := by decide +kernel
theorem dX11_undo_19 : decode cX11_undo 19 = .ok (.getfield 111, 3) := by decide +kernel
theorem dX11_undo_22 : decode cX11_undo 22 = .ok (.ireturn, 1) := by decide +kernel
theorem dX11_ran_0 : decode cX11_ran 0 = .ok (.aload_n 0, 1) := by decide +kernel
theorem dX11_ran_1 : decode cX11_ran 1 = .ok (.getfield 314, 3) := by decide +kernel
theorem dX11_ran_4 : decode cX11_ran 4 = .ok (.bipush 20, 2) := by decide +kernel
theorem dX11_ran_6 : decode cX11_ran 6 = .ok (.if_icmp .ge 13, 3) := by decide +kernel
theorem dX11_ran_9 : decode cX11_ran 9 = .ok (.aload_n 0, 1) := by decide +kernel
theorem dX11_ran_10 : decode cX11_ran 10 = .ok (.getfield 85, 3) := by decide +kernel
theorem dX11_ran_13 : decode cX11_ran 13 = .ok (.aload_n 0, 1) := by decide +kernel
theorem dX11_ran_14 : decode cX11_ran 14 = .ok (.getfield 314, 3) := by decide +kernel
theorem dX11_ran_17 : decode cX11_ran 17 = .ok (.iload_n 1, 1) := by decide +kernel
theorem dX11_ran_18 : decode cX11_ran 18 = .ok (.iastore, 1) := by decide +kernel
theorem dX11_ran_19 : decode cX11_ran 19 = .ok (.aload_n 0, 1) := by decide +kernel
theorem dX11_ran_20 : decode cX11_ran 20 = .ok (.dup, 1) := by decide +kernel
theorem dX11_ran_21 : decode cX11_ran 21 = .ok (.getfield 314, 3) := by decide +kernel
theorem dX11_ran_24 : decode cX11_ran 24 = .ok (.iconst 1, 1) := by decide +kernel
theorem dX11_ran_25 : decode cX11_ran 25 = .ok (.iadd, 1) := by decide +kernel
theorem dX11_ran_26 : decode cX11_ran 26 = .ok (.putfield 314, 3) := by decide +kernel
theorem dX11_ran_29 : decode cX11_ran 29 = .ok (.return_, 1) := by decide +kernel
theorem dX11_above_0 : decode cX11_above 0 = .ok (.iload_n 0, 1) := by decide +kernel
theorem dX11_above_1 : decode cX11_above 1 = .ok (.iconst 4, 1) := by decide +kernel
theorem dX11_above_2 : decode cX11_above 2 = .ok (.if_icmp .ne 7, 3) := by decide +kernel
theorem dX11_above_5 : decode cX11_above 5 = .ok (.iconst 1, 1) := by decide +kernel
theorem dX11_above_6 : decode cX11_above 6 = .ok (.goto 23, 3) := by decide +kernel
theorem dX11_above_9 : decode cX11_above 9 = .ok (.iload_n 0, 1) := by decide +kernel
theorem dX11_above_10 : decode cX11_above 10 = .ok (.iconst 5, 1) := by decide +kernel
theorem dX11_above_11 : decode cX11_above 11 = .ok (.if_icmp .ne 7, 3) := by decide +kernel
theorem dX11_above_14 : decode cX11_above 14 = .ok (.iconst 2, 1) := by decide +kernel
theorem dX11_above_15 : decode cX11_above 15 = .ok (.goto 14, 3) := by decide +kernel
theorem dX11_above_18 : decode cX11_above 18 = .ok (.iload_n 0, 1) := by decide +kernel
theorem dX11_above_19 : decode cX11_above 19 = .ok (.bipush 6, 2) := by decide +kernel
theorem dX11_above_21 : decode cX11_above 21 = .ok (.if_icmp .ne 7, 3) := by decide +kernel
theorem dX11_above_24 : decode cX11_above 24 = .ok (.iconst 3, 1) := by decide +kernel
theorem dX11_above_25 : decode cX11_above 25 = .ok (.goto 4, 3) := by decide +kernel
theorem dX11_above_28 : decode cX11_above 28 = .ok (.iconst 0, 1) := by decide +kernel
theorem dX11_above_29 : decode cX11_above 29 = .ok (.ireturn, 1) := by decide +kernel
theorem dX11_sleeps_0 : decode cX11_sleeps 0 = .ok (.iload_n 2, 1) := by decide +kernel
theorem dX11_sleeps_1 : decode cX11_sleeps 1 = .ok (.tableswitch 105 0 6 #[95, 105, 43, 105, 59, 105, 74], 43) := by decide +kernel
theorem dX11_sleeps_44 : decode cX11_sleeps 44 = .ok (.aload_n 0, 1) := by decide +kernel
theorem dX11_sleeps_45 : decode cX11_sleeps 45 = .ok (.bipush 30, 2) := by decide +kernel
theorem dX11_sleeps_47 : decode cX11_sleeps 47 = .ok (.invokevirtual 317, 3) := by decide +kernel
theorem dX11_sleeps_50 : decode cX11_sleeps 50 = .ok (.aload_n 0, 1) := by decide +kernel
theorem dX11_sleeps_51 : decode cX11_sleeps 51 = .ok (.iload_n 1, 1) := by decide +kernel
theorem dX11_sleeps_52 : decode cX11_sleeps 52 = .ok (.iconst 0, 1) := by decide +kernel
theorem dX11_sleeps_53 : decode cX11_sleeps 53 = .ok (.iload_n 3, 1) := by decide +kernel
theorem dX11_sleeps_54 : decode cX11_sleeps 54 = .ok (.iconst 3, 1) := by decide +kernel
theorem dX11_sleeps_55 : decode cX11_sleeps 55 = .ok (.imul, 1) := by decide +kernel
theorem dX11_sleeps_56 : decode cX11_sleeps 56 = .ok (.invokevirtual 320, 3) := by decide +kernel
theorem dX11_sleeps_59 : decode cX11_sleeps 59 = .ok (.ireturn, 1) := by decide +kernel
theorem dX11_sleeps_60 : decode cX11_sleeps 60 = .ok (.aload_n 0, 1) := by decide +kernel
theorem dX11_sleeps_61 : decode cX11_sleeps 61 = .ok (.bipush 50, 2) := by decide +kernel
theorem dX11_sleeps_63 : decode cX11_sleeps 63 = .ok (.invokevirtual 317, 3) := by decide +kernel
theorem dX11_sleeps_66 : decode cX11_sleeps 66 = .ok (.aload_n 0, 1) := by decide +kernel
theorem dX11_sleeps_67 : decode cX11_sleeps 67 = .ok (.iload_n 1, 1) := by decide +kernel
theorem dX11_sleeps_68 : decode cX11_sleeps 68 = .ok (.iconst 1, 1) := by decide +kernel
theorem dX11_sleeps_69 : decode cX11_sleeps 69 = .ok (.iload_n 3, 1) := by decide +kernel
theorem dX11_sleeps_70 : decode cX11_sleeps 70 = .ok (.invokevirtual 320, 3) := by decide +kernel
theorem dX11_sleeps_73 : decode cX11_sleeps 73 = .ok (.ineg, 1) := by decide +kernel
theorem dX11_sleeps_74 : decode cX11_sleeps 74 = .ok (.ireturn, 1) := by decide +kernel
theorem dX11_sleeps_75 : decode cX11_sleeps 75 = .ok (.aload_n 0, 1) := by decide +kernel
theorem dX11_sleeps_76 : decode cX11_sleeps 76 = .ok (.bipush 71, 2) := by decide +kernel
theorem dX11_sleeps_78 : decode cX11_sleeps 78 = .ok (.invokevirtual 317, 3) := by decide +kernel
theorem dX11_sleeps_81 : decode cX11_sleeps 81 = .ok (.aload_n 0, 1) := by decide +kernel
theorem dX11_sleeps_82 : decode cX11_sleeps 82 = .ok (.iload_n 1, 1) := by decide +kernel
theorem dX11_sleeps_83 : decode cX11_sleeps 83 = .ok (.iconst 3, 1) := by decide +kernel
theorem dX11_sleeps_84 : decode cX11_sleeps 84 = .ok (.iload_n 3, 1) := by decide +kernel
theorem dX11_sleeps_85 : decode cX11_sleeps 85 = .ok (.invokevirtual 320, 3) := by decide +kernel
theorem dX11_sleeps_88 : decode cX11_sleeps 88 = .ok (.aload_n 0, 1) := by decide +kernel
theorem dX11_sleeps_89 : decode cX11_sleeps 89 = .ok (.getfield 21, 3) := by decide +kernel
theorem dX11_sleeps_92 : decode cX11_sleeps 92 = .ok (.iload_n 1, 1) := by decide +kernel
theorem dX11_sleeps_93 : decode cX11_sleeps 93 = .ok (.iaload, 1) := by decide +kernel
theorem dX11_sleeps_94 : decode cX11_sleeps 94 = .ok (.ixor, 1) := by decide +kernel
theorem dX11_sleeps_95 : decode cX11_sleeps 95 = .ok (.ireturn, 1) := by decide +kernel
theorem dX11_sleeps_96 : decode cX11_sleeps 96 = .ok (.aload_n 0, 1) := by decide +kernel
theorem dX11_sleeps_97 : decode cX11_sleeps 97 = .ok (.bipush 10, 2) := by decide +kernel
theorem dX11_sleeps_99 : decode cX11_sleeps 99 = .ok (.invokevirtual 317, 3) := by decide +kernel
theorem dX11_sleeps_102 : decode cX11_sleeps 102 = .ok (.iload_n 3, 1) := by decide +kernel
theorem dX11_sleeps_103 : decode cX11_sleeps 103 = .ok (.iload_n 1, 1) := by decide +kernel
theorem dX11_sleeps_104 : decode cX11_sleeps 104 = .ok (.iadd, 1) := by decide +kernel
theorem dX11_sleeps_105 : decode cX11_sleeps 105 = .ok (.ireturn, 1) := by decide +kernel
theorem dX11_sleeps_106 : decode cX11_sleeps 106 = .ok (.aload_n 0, 1) := by decide +kernel
theorem dX11_sleeps_107 : decode cX11_sleeps 107 = .ok (.iload_n 1, 1) := by decide +kernel
theorem dX11_sleeps_108 : decode cX11_sleeps 108 = .ok (.iload_n 2, 1) := by decide +kernel
theorem dX11_sleeps_109 : decode cX11_sleeps 109 = .ok (.invokestatic 323, 3) := by decide +kernel
theorem dX11_sleeps_112 : decode cX11_sleeps 112 = .ok (.iload_n 3, 1) := by decide +kernel
theorem dX11_sleeps_113 : decode cX11_sleeps 113 = .ok (.invokevirtual 320, 3) := by decide +kernel
theorem dX11_sleeps_116 : decode cX11_sleeps 116 = .ok (.ireturn, 1) := by decide +kernel
theorem dX11_wakes_0 : decode cX11_wakes 0 = .ok (.iload_n 2, 1) := by decide +kernel
theorem dX11_wakes_1 : decode cX11_wakes 1 = .ok (.tableswitch 128 0 6 #[102, 43, 128, 128, 60, 128, 76], 43) := by decide +kernel
theorem dX11_wakes_44 : decode cX11_wakes 44 = .ok (.aload_n 0, 1) := by decide +kernel
theorem dX11_wakes_45 : decode cX11_wakes 45 = .ok (.bipush 20, 2) := by decide +kernel
theorem dX11_wakes_47 : decode cX11_wakes 47 = .ok (.invokevirtual 317, 3) := by decide +kernel
theorem dX11_wakes_50 : decode cX11_wakes 50 = .ok (.aload_n 0, 1) := by decide +kernel
theorem dX11_wakes_51 : decode cX11_wakes 51 = .ok (.iload_n 1, 1) := by decide +kernel
theorem dX11_wakes_52 : decode cX11_wakes 52 = .ok (.iconst 0, 1) := by decide +kernel
theorem dX11_wakes_53 : decode cX11_wakes 53 = .ok (.iload_n 3, 1) := by decide +kernel
theorem dX11_wakes_54 : decode cX11_wakes 54 = .ok (.invokevirtual 326, 3) := by decide +kernel
theorem dX11_wakes_57 : decode cX11_wakes 57 = .ok (.bipush 6, 2) := by decide +kernel
theorem dX11_wakes_59 : decode cX11_wakes 59 = .ok (.ixor, 1) := by decide +kernel
theorem dX11_wakes_60 : decode cX11_wakes 60 = .ok (.ireturn, 1) := by decide +kernel
theorem dX11_wakes_61 : decode cX11_wakes 61 = .ok (.aload_n 0, 1) := by decide +kernel
theorem dX11_wakes_62 : decode cX11_wakes 62 = .ok (.bipush 51, 2) := by decide +kernel
theorem dX11_wakes_64 : decode cX11_wakes 64 = .ok (.invokevirtual 317, 3) := by decide +kernel
theorem dX11_wakes_67 : decode cX11_wakes 67 = .ok (.aload_n 0, 1) := by decide +kernel
theorem dX11_wakes_68 : decode cX11_wakes 68 = .ok (.iload_n 1, 1) := by decide +kernel
theorem dX11_wakes_69 : decode cX11_wakes 69 = .ok (.iconst 1, 1) := by decide +kernel
theorem dX11_wakes_70 : decode cX11_wakes 70 = .ok (.iload_n 3, 1) := by decide +kernel
theorem dX11_wakes_71 : decode cX11_wakes 71 = .ok (.iconst 1, 1) := by decide +kernel
theorem dX11_wakes_72 : decode cX11_wakes 72 = .ok (.iadd, 1) := by decide +kernel
theorem dX11_wakes_73 : decode cX11_wakes 73 = .ok (.invokevirtual 326, 3) := by decide +kernel
theorem dX11_wakes_76 : decode cX11_wakes 76 = .ok (.ireturn, 1) := by decide +kernel
theorem dX11_wakes_77 : decode cX11_wakes 77 = .ok (.aload_n 0, 1) := by decide +kernel
theorem dX11_wakes_78 : decode cX11_wakes 78 = .ok (.bipush 70, 2) := by decide +kernel
theorem dX11_wakes_80 : decode cX11_wakes 80 = .ok (.invokevirtual 317, 3) := by decide +kernel
theorem dX11_wakes_83 : decode cX11_wakes 83 = .ok (.aload_n 0, 1) := by decide +kernel
theorem dX11_wakes_84 : decode cX11_wakes 84 = .ok (.iload_n 1, 1) := by decide +kernel
theorem dX11_wakes_85 : decode cX11_wakes 85 = .ok (.iconst 3, 1) := by decide +kernel
theorem dX11_wakes_86 : decode cX11_wakes 86 = .ok (.iload_n 3, 1) := by decide +kernel
theorem dX11_wakes_87 : decode cX11_wakes 87 = .ok (.invokevirtual 326, 3) := by decide +kernel
theorem dX11_wakes_90 : decode cX11_wakes 90 = .ok (.istore 4, 2) := by decide +kernel
theorem dX11_wakes_92 : decode cX11_wakes 92 = .ok (.iload 4, 2) := by decide +kernel
theorem dX11_wakes_94 : decode cX11_wakes 94 = .ok (.aload_n 0, 1) := by decide +kernel
theorem dX11_wakes_95 : decode cX11_wakes 95 = .ok (.iload_n 1, 1) := by decide +kernel
theorem dX11_wakes_96 : decode cX11_wakes 96 = .ok (.iconst 3, 1) := by decide +kernel
theorem dX11_wakes_97 : decode cX11_wakes 97 = .ok (.iconst 2, 1) := by decide +kernel
theorem dX11_wakes_98 : decode cX11_wakes 98 = .ok (.invokevirtual 320, 3) := by decide +kernel
theorem dX11_wakes_101 : decode cX11_wakes 101 = .ok (.iadd, 1) := by decide +kernel
theorem dX11_wakes_102 : decode cX11_wakes 102 = .ok (.ireturn, 1) := by decide +kernel
theorem dX11_wakes_103 : decode cX11_wakes 103 = .ok (.aload_n 0, 1) := by decide +kernel
theorem dX11_wakes_104 : decode cX11_wakes 104 = .ok (.bipush 11, 2) := by decide +kernel
theorem dX11_wakes_106 : decode cX11_wakes 106 = .ok (.invokevirtual 317, 3) := by decide +kernel
theorem dX11_wakes_109 : decode cX11_wakes 109 = .ok (.aload_n 0, 1) := by decide +kernel
theorem dX11_wakes_110 : decode cX11_wakes 110 = .ok (.iload_n 1, 1) := by decide +kernel
theorem dX11_wakes_111 : decode cX11_wakes 111 = .ok (.aload_n 0, 1) := by decide +kernel
theorem dX11_wakes_112 : decode cX11_wakes 112 = .ok (.getfield 18, 3) := by decide +kernel
theorem dX11_wakes_115 : decode cX11_wakes 115 = .ok (.iload_n 1, 1) := by decide +kernel
theorem dX11_wakes_116 : decode cX11_wakes 116 = .ok (.iaload, 1) := by decide +kernel
theorem dX11_wakes_117 : decode cX11_wakes 117 = .ok (.iload_n 3, 1) := by decide +kernel
theorem dX11_wakes_118 : decode cX11_wakes 118 = .ok (.invokevirtual 320, 3) := by decide +kernel
theorem dX11_wakes_121 : decode cX11_wakes 121 = .ok (.aload_n 0, 1) := by decide +kernel
theorem dX11_wakes_122 : decode cX11_wakes 122 = .ok (.getfield 21, 3) := by decide +kernel
theorem dX11_wakes_125 : decode cX11_wakes 125 = .ok (.iload_n 1, 1) := by decide +kernel
theorem dX11_wakes_126 : decode cX11_wakes 126 = .ok (.iaload, 1) := by decide +kernel
theorem dX11_wakes_127 : decode cX11_wakes 127 = .ok (.isub, 1) := by decide +kernel
theorem dX11_wakes_128 : decode cX11_wakes 128 = .ok (.ireturn, 1) := by decide +kernel
theorem dX11_wakes_129 : decode cX11_wakes 129 = .ok (.aload_n 0, 1) := by decide +kernel
theorem dX11_wakes_130 : decode cX11_wakes 130 = .ok (.iload_n 1, 1) := by decide +kernel
theorem dX11_wakes_131 : decode cX11_wakes 131 = .ok (.iload_n 2, 1) := by decide +kernel
theorem dX11_wakes_132 : decode cX11_wakes 132 = .ok (.invokestatic 323, 3) := by decide +kernel
theorem dX11_wakes_135 : decode cX11_wakes 135 = .ok (.iload_n 3, 1) := by decide +kernel
theorem dX11_wakes_136 : decode cX11_wakes 136 = .ok (.invokevirtual 326, 3) := by decide +kernel
theorem dX11_wakes_139 : decode cX11_wakes 139 = .ok (.ireturn, 1) := by decide +kernel
theorem dX11_tells_0 : decode cX11_tells 0 = .ok (.iload_n 2, 1) := by decide +kernel
theorem dX11_tells_1 : decode cX11_tells 1 = .ok (.lookupswitch 103 #[(0, 82), (3, 35), (5, 66)], 35) := by decide +kernel
theorem dX11_tells_36 : decode cX11_tells 36 = .ok (.aload_n 0, 1) := by decide +kernel
theorem dX11_tells_37 : decode cX11_tells 37 = .ok (.bipush 40, 2) := by decide +kernel
theorem dX11_tells_39 : decode cX11_tells 39 = .ok (.invokevirtual 317, 3) := by decide +kernel
theorem dX11_tells_42 : decode cX11_tells 42 = .ok (.aload_n 0, 1) := by decide +kernel
theorem dX11_tells_43 : decode cX11_tells 43 = .ok (.iload_n 1, 1) := by decide +kernel
theorem dX11_tells_44 : decode cX11_tells 44 = .ok (.iconst 0, 1) := by decide +kernel
theorem dX11_tells_45 : decode cX11_tells 45 = .ok (.iload_n 3, 1) := by decide +kernel
theorem dX11_tells_46 : decode cX11_tells 46 = .ok (.invokevirtual 329, 3) := by decide +kernel
theorem dX11_tells_49 : decode cX11_tells 49 = .ok (.istore 4, 2) := by decide +kernel
theorem dX11_tells_51 : decode cX11_tells 51 = .ok (.iload 4, 2) := by decide +kernel
theorem dX11_tells_53 : decode cX11_tells 53 = .ok (.aload_n 0, 1) := by decide +kernel
theorem dX11_tells_54 : decode cX11_tells 54 = .ok (.iload_n 1, 1) := by decide +kernel
theorem dX11_tells_55 : decode cX11_tells 55 = .ok (.aload_n 0, 1) := by decide +kernel
theorem dX11_tells_56 : decode cX11_tells 56 = .ok (.getfield 18, 3) := by decide +kernel
theorem dX11_tells_59 : decode cX11_tells 59 = .ok (.iload_n 1, 1) := by decide +kernel
theorem dX11_tells_60 : decode cX11_tells 60 = .ok (.iaload, 1) := by decide +kernel
theorem dX11_tells_61 : decode cX11_tells 61 = .ok (.iconst 1, 1) := by decide +kernel
theorem dX11_tells_62 : decode cX11_tells 62 = .ok (.invokevirtual 326, 3) := by decide +kernel
theorem dX11_tells_65 : decode cX11_tells 65 = .ok (.iadd, 1) := by decide +kernel
theorem dX11_tells_66 : decode cX11_tells 66 = .ok (.ireturn, 1) := by decide +kernel
theorem dX11_tells_67 : decode cX11_tells 67 = .ok (.aload_n 0, 1) := by decide +kernel
theorem dX11_tells_68 : decode cX11_tells 68 = .ok (.bipush 60, 2) := by decide +kernel
theorem dX11_tells_70 : decode cX11_tells 70 = .ok (.invokevirtual 317, 3) := by decide +kernel
theorem dX11_tells_73 : decode cX11_tells 73 = .ok (.aload_n 0, 1) := by decide +kernel
theorem dX11_tells_74 : decode cX11_tells 74 = .ok (.iload_n 1, 1) := by decide +kernel
theorem dX11_tells_75 : decode cX11_tells 75 = .ok (.iconst 2, 1) := by decide +kernel
theorem dX11_tells_76 : decode cX11_tells 76 = .ok (.iload_n 3, 1) := by decide +kernel
theorem dX11_tells_77 : decode cX11_tells 77 = .ok (.iload_n 1, 1) := by decide +kernel
theorem dX11_tells_78 : decode cX11_tells 78 = .ok (.isub, 1) := by decide +kernel
theorem dX11_tells_79 : decode cX11_tells 79 = .ok (.invokevirtual 329, 3) := by decide +kernel
theorem dX11_tells_82 : decode cX11_tells 82 = .ok (.ireturn, 1) := by decide +kernel
theorem dX11_tells_83 : decode cX11_tells 83 = .ok (.aload_n 0, 1) := by decide +kernel
theorem dX11_tells_84 : decode cX11_tells 84 = .ok (.bipush 12, 2) := by decide +kernel
theorem dX11_tells_86 : decode cX11_tells 86 = .ok (.invokevirtual 317, 3) := by decide +kernel
theorem dX11_tells_89 : decode cX11_tells 89 = .ok (.aload_n 0, 1) := by decide +kernel
theorem dX11_tells_90 : decode cX11_tells 90 = .ok (.iload_n 1, 1) := by decide +kernel
theorem dX11_tells_91 : decode cX11_tells 91 = .ok (.aload_n 0, 1) := by decide +kernel
theorem dX11_tells_92 : decode cX11_tells 92 = .ok (.getfield 18, 3) := by decide +kernel
theorem dX11_tells_95 : decode cX11_tells 95 = .ok (.iload_n 1, 1) := by decide +kernel
theorem dX11_tells_96 : decode cX11_tells 96 = .ok (.iaload, 1) := by decide +kernel
theorem dX11_tells_97 : decode cX11_tells 97 = .ok (.iload_n 3, 1) := by decide +kernel
theorem dX11_tells_98 : decode cX11_tells 98 = .ok (.invokevirtual 326, 3) := by decide +kernel
theorem dX11_tells_101 : decode cX11_tells 101 = .ok (.iconst 2, 1) := by decide +kernel
theorem dX11_tells_102 : decode cX11_tells 102 = .ok (.imul, 1) := by decide +kernel
theorem dX11_tells_103 : decode cX11_tells 103 = .ok (.ireturn, 1) := by decide +kernel
theorem dX11_tells_104 : decode cX11_tells 104 = .ok (.aload_n 0, 1) := by decide +kernel
theorem dX11_tells_105 : decode cX11_tells 105 = .ok (.iload_n 1, 1) := by decide +kernel
theorem dX11_tells_106 : decode cX11_tells 106 = .ok (.iload_n 2, 1) := by decide +kernel
theorem dX11_tells_107 : decode cX11_tells 107 = .ok (.invokestatic 323, 3) := by decide +kernel
theorem dX11_tells_110 : decode cX11_tells 110 = .ok (.iload_n 3, 1) := by decide +kernel
theorem dX11_tells_111 : decode cX11_tells 111 = .ok (.invokevirtual 329, 3) := by decide +kernel
theorem dX11_tells_114 : decode cX11_tells 114 = .ok (.ireturn, 1) := by decide +kernel
theorem dX11_act_0 : decode cX11_act 0 = .ok (.aload_n 0, 1) := by decide +kernel
theorem dX11_act_1 : decode cX11_act 1 = .ok (.iconst 0, 1) := by decide +kernel
theorem dX11_act_2 : decode cX11_act 2 = .ok (.putfield 314, 3) := by decide +kernel
theorem dX11_act_5 : decode cX11_act 5 = .ok (.aload_n 0, 1) := by decide +kernel
theorem dX11_act_6 : decode cX11_act 6 = .ok (.iload_n 1, 1) := by decide +kernel
theorem dX11_act_7 : decode cX11_act 7 = .ok (.invokevirtual 118, 3) := by decide +kernel
theorem dX11_act_10 : decode cX11_act 10 = .ok (.ifCond .eq 12, 3) := by decide +kernel
theorem dX11_act_13 : decode cX11_act 13 = .ok (.iload_n 2, 1) := by decide +kernel
theorem dX11_act_14 : decode cX11_act 14 = .ok (.iconst 0, 1) := by decide +kernel
theorem dX11_act_15 : decode cX11_act 15 = .ok (.iconst 2, 1) := by decide +kernel
theorem dX11_act_16 : decode cX11_act 16 = .ok (.invokestatic 114, 3) := by decide +kernel
theorem dX11_act_19 : decode cX11_act 19 = .ok (.ifCond .ne 5, 3) := by decide +kernel
theorem dX11_act_22 : decode cX11_act 22 = .ok (.iconst 0, 1) := by decide +kernel
theorem dX11_act_23 : decode cX11_act 23 = .ok (.ireturn, 1) := by decide +kernel
theorem dX11_act_24 : decode cX11_act 24 = .ok (.aload_n 0, 1) := by decide +kernel
theorem dX11_act_25 : decode cX11_act 25 = .ok (.getfield 18, 3) := by decide +kernel
theorem dX11_act_28 : decode cX11_act 28 = .ok (.iload_n 1, 1) := by decide +kernel
theorem dX11_act_29 : decode cX11_act 29 = .ok (.iaload, 1) := by decide +kernel
theorem dX11_act_30 : decode cX11_act 30 = .ok (.istore 4, 2) := by decide +kernel
theorem dX11_act_32 : decode cX11_act 32 = .ok (.iload_n 2, 1) := by decide +kernel
theorem dX11_act_33 : decode cX11_act 33 = .ok (.ifCond .ne 14, 3) := by decide +kernel
theorem dX11_act_36 : decode cX11_act 36 = .ok (.aload_n 0, 1) := by decide +kernel
theorem dX11_act_37 : decode cX11_act 37 = .ok (.iload_n 1, 1) := by decide +kernel
theorem dX11_act_38 : decode cX11_act 38 = .ok (.iload 4, 2) := by decide +kernel
theorem dX11_act_40 : decode cX11_act 40 = .ok (.iload_n 3, 1) := by decide +kernel
theorem dX11_act_41 : decode cX11_act 41 = .ok (.invokevirtual 320, 3) := by decide +kernel
theorem dX11_act_44 : decode cX11_act 44 = .ok (.goto 27, 3) := by decide +kernel
theorem dX11_act_47 : decode cX11_act 47 = .ok (.iload_n 2, 1) := by decide +kernel
theorem dX11_act_48 : decode cX11_act 48 = .ok (.iconst 1, 1) := by decide +kernel
theorem dX11_act_49 : decode cX11_act 49 = .ok (.if_icmp .ne 14, 3) := by decide +kernel
theorem dX11_act_52 : decode cX11_act 52 = .ok (.aload_n 0, 1) := by decide +kernel
theorem dX11_act_53 : decode cX11_act 53 = .ok (.iload_n 1, 1) := by decide +kernel
theorem dX11_act_54 : decode cX11_act 54 = .ok (.iload 4, 2) := by decide +kernel
theorem dX11_act_56 : decode cX11_act 56 = .ok (.iload_n 3, 1) := by decide +kernel
theorem dX11_act_57 : decode cX11_act 57 = .ok (.invokevirtual 326, 3) := by decide +kernel
theorem dX11_act_60 : decode cX11_act 60 = .ok (.goto 11, 3) := by decide +kernel
theorem dX11_act_63 : decode cX11_act 63 = .ok (.aload_n 0, 1) := by decide +kernel
theorem dX11_act_64 : decode cX11_act 64 = .ok (.iload_n 1, 1) := by decide +kernel
theorem dX11_act_65 : decode cX11_act 65 = .ok (.iload 4, 2) := by decide +kernel
theorem dX11_act_67 : decode cX11_act 67 = .ok (.iload_n 3, 1) := by decide +kernel
theorem dX11_act_68 : decode cX11_act 68 = .ok (.invokevirtual 329, 3) := by decide +kernel
theorem dX11_act_71 : decode cX11_act 71 = .ok (.ireturn, 1) := by decide +kernel
theorem dX11_trace_0 : decode cX11_trace 0 = .ok (.iload_n 1, 1) := by decide +kernel
theorem dX11_trace_1 : decode cX11_trace 1 = .ok (.iconst 0, 1) := by decide +kernel
theorem dX11_trace_2 : decode cX11_trace 2 = .ok (.bipush 20, 2) := by decide +kernel
theorem dX11_trace_4 : decode cX11_trace 4 = .ok (.aload_n 0, 1) := by decide +kernel
theorem dX11_trace_5 : decode cX11_trace 5 = .ok (.getfield 314, 3) := by decide +kernel
theorem dX11_trace_8 : decode cX11_trace 8 = .ok (.invokestatic 234, 3) := by decide +kernel
theorem dX11_trace_11 : decode cX11_trace 11 = .ok (.iconst 1, 1) := by decide +kernel
theorem dX11_trace_12 : decode cX11_trace 12 = .ok (.isub, 1) := by decide +kernel
theorem dX11_trace_13 : decode cX11_trace 13 = .ok (.invokestatic 114, 3) := by decide +kernel
theorem dX11_trace_16 : decode cX11_trace 16 = .ok (.ifCond .eq 12, 3) := by decide +kernel
theorem dX11_trace_19 : decode cX11_trace 19 = .ok (.aload_n 0, 1) := by decide +kernel
theorem dX11_trace_20 : decode cX11_trace 20 = .ok (.getfield 85, 3) := by decide +kernel
theorem dX11_trace_23 : decode cX11_trace 23 = .ok (.iload_n 1, 1) := by decide +kernel
theorem dX11_trace_24 : decode cX11_trace 24 = .ok (.iaload, 1) := by decide +kernel
theorem dX11_trace_25 : decode cX11_trace 25 = .ok (.goto 4, 3) := by decide +kernel
theorem dX11_trace_28 : decode cX11_trace 28 = .ok (.iconst (-1), 1) := by decide +kernel
theorem dX11_trace_29 : decode cX11_trace 29 = .ok (.ireturn, 1) := by decide +kernel
theorem dX11_taken_0 : decode cX11_taken 0 = .ok (.iload_n 2, 1) := by decide +kernel
theorem dX11_taken_1 : decode cX11_taken 1 = .ok (.iconst 0, 1) := by decide +kernel
theorem dX11_taken_2 : decode cX11_taken 2 = .ok (.bipush 6, 2) := by decide +kernel
theorem dX11_taken_4 : decode cX11_taken 4 = .ok (.invokestatic 114, 3) := by decide +kernel
theorem dX11_taken_7 : decode cX11_taken 7 = .ok (.ifCond .ne 6, 3) := by decide +kernel
theorem dX11_taken_10 : decode cX11_taken 10 = .ok (.bipush (-2), 2) := by decide +kernel
theorem dX11_taken_12 : decode cX11_taken 12 = .ok (.ireturn, 1) := by decide +kernel
theorem dX11_taken_13 : decode cX11_taken 13 = .ok (.aload_n 0, 1) := by decide +kernel
theorem dX11_taken_14 : decode cX11_taken 14 = .ok (.iload_n 1, 1) := by decide +kernel
theorem dX11_taken_15 : decode cX11_taken 15 = .ok (.invokevirtual 118, 3) := by decide +kernel
theorem dX11_taken_18 : decode cX11_taken 18 = .ok (.ifCond .ne 6, 3) := by decide +kernel
theorem dX11_taken_21 : decode cX11_taken 21 = .ok (.bipush (-11), 2) := by decide +kernel
theorem dX11_taken_23 : decode cX11_taken 23 = .ok (.ireturn, 1) := by decide +kernel
theorem dX11_taken_24 : decode cX11_taken 24 = .ok (.aload_n 0, 1) := by decide +kernel
theorem dX11_taken_25 : decode cX11_taken 25 = .ok (.getfield 18, 3) := by decide +kernel
theorem dX11_taken_28 : decode cX11_taken 28 = .ok (.iload_n 1, 1) := by decide +kernel
theorem dX11_taken_29 : decode cX11_taken 29 = .ok (.iaload, 1) := by decide +kernel
theorem dX11_taken_30 : decode cX11_taken 30 = .ok (.istore_n 3, 1) := by decide +kernel
theorem dX11_taken_31 : decode cX11_taken 31 = .ok (.iload_n 3, 1) := by decide +kernel
theorem dX11_taken_32 : decode cX11_taken 32 = .ok (.iload_n 2, 1) := by decide +kernel
theorem dX11_taken_33 : decode cX11_taken 33 = .ok (.if_icmp .eq 15, 3) := by decide +kernel
theorem dX11_taken_36 : decode cX11_taken 36 = .ok (.iload_n 3, 1) := by decide +kernel
theorem dX11_taken_37 : decode cX11_taken 37 = .ok (.ifCond .le 11, 3) := by decide +kernel
theorem dX11_taken_40 : decode cX11_taken 40 = .ok (.iload_n 3, 1) := by decide +kernel
theorem dX11_taken_41 : decode cX11_taken 41 = .ok (.invokestatic 323, 3) := by decide +kernel
theorem dX11_taken_44 : decode cX11_taken 44 = .ok (.istore_n 3, 1) := by decide +kernel
theorem dX11_taken_45 : decode cX11_taken 45 = .ok (.goto (-14), 3) := by decide +kernel
theorem dX11_taken_48 : decode cX11_taken 48 = .ok (.iload_n 3, 1) := by decide +kernel
theorem dX11_taken_49 : decode cX11_taken 49 = .ok (.iload_n 2, 1) := by decide +kernel
theorem dX11_taken_50 : decode cX11_taken 50 = .ok (.if_icmp .ne 12, 3) := by decide +kernel
theorem dX11_taken_53 : decode cX11_taken 53 = .ok (.aload_n 0, 1) := by decide +kernel
theorem dX11_taken_54 : decode cX11_taken 54 = .ok (.getfield 18, 3) := by decide +kernel
theorem dX11_taken_57 : decode cX11_taken 57 = .ok (.iload_n 1, 1) := by decide +kernel
theorem dX11_taken_58 : decode cX11_taken 58 = .ok (.iaload, 1) := by decide +kernel
theorem dX11_taken_59 : decode cX11_taken 59 = .ok (.goto 5, 3) := by decide +kernel
theorem dX11_taken_62 : decode cX11_taken 62 = .ok (.bipush (-12), 2) := by decide +kernel
theorem dX11_taken_64 : decode cX11_taken 64 = .ok (.ireturn, 1) := by decide +kernel
theorem dX11_count_0 : decode cX11_count 0 = .ok (.iload_n 1, 1) := by decide +kernel
theorem dX11_count_1 : decode cX11_count 1 = .ok (.tableswitch 78 0 6 #[43, 48, 53, 58, 63, 68, 73], 43) := by decide +kernel
theorem dX11_count_44 : decode cX11_count 44 = .ok (.aload_n 0, 1) := by decide +kernel
theorem dX11_count_45 : decode cX11_count 45 = .ok (.getfield 111, 3) := by decide +kernel
theorem dX11_count_48 : decode cX11_count 48 = .ok (.ireturn, 1) := by decide +kernel
theorem dX11_count_49 : decode cX11_count 49 = .ok (.aload_n 0, 1) := by decide +kernel
theorem dX11_count_50 : decode cX11_count 50 = .ok (.getfield 215, 3) := by decide +kernel
theorem dX11_count_53 : decode cX11_count 53 = .ok (.ireturn, 1) := by decide +kernel
theorem dX11_count_54 : decode cX11_count 54 = .ok (.aload_n 0, 1) := by decide +kernel
theorem dX11_count_55 : decode cX11_count 55 = .ok (.getfield 284, 3) := by decide +kernel
theorem dX11_count_58 : decode cX11_count 58 = .ok (.ireturn, 1) := by decide +kernel
theorem dX11_count_59 : decode cX11_count 59 = .ok (.aload_n 0, 1) := by decide +kernel
theorem dX11_count_60 : decode cX11_count 60 = .ok (.getfield 301, 3) := by decide +kernel
theorem dX11_count_63 : decode cX11_count 63 = .ok (.ireturn, 1) := by decide +kernel
theorem dX11_count_64 : decode cX11_count 64 = .ok (.aload_n 0, 1) := by decide +kernel
theorem dX11_count_65 : decode cX11_count 65 = .ok (.getfield 307, 3) := by decide +kernel
theorem dX11_count_68 : decode cX11_count 68 = .ok (.ireturn, 1) := by decide +kernel
theorem dX11_count_69 : decode cX11_count 69 = .ok (.aload_n 0, 1) := by decide +kernel
theorem dX11_count_70 : decode cX11_count 70 = .ok (.getfield 143, 3) := by decide +kernel
theorem dX11_count_73 : decode cX11_count 73 = .ok (.ireturn, 1) := by decide +kernel
theorem dX11_count_74 : decode cX11_count 74 = .ok (.aload_n 0, 1) := by decide +kernel
theorem dX11_count_75 : decode cX11_count 75 = .ok (.getfield 314, 3) := by decide +kernel
theorem dX11_count_78 : decode cX11_count 78 = .ok (.ireturn, 1) := by decide +kernel
theorem dX11_count_79 : decode cX11_count 79 = .ok (.bipush (-2), 2) := by decide +kernel
theorem dX11_count_81 : decode cX11_count 81 = .ok (.ireturn, 1) := by decide +kernel
theorem dX11_isTape_0 : decode cX11_isTape 0 = .ok (.iload_n 0, 1) := by decide +kernel
theorem dX11_isTape_1 : decode cX11_isTape 1 = .ok (.iconst 0, 1) := by decide +kernel
theorem dX11_isTape_2 : decode cX11_isTape 2 = .ok (.iconst 5, 1) := by decide +kernel
theorem dX11_isTape_3 : decode cX11_isTape 3 = .ok (.invokestatic 114, 3) := by decide +kernel
theorem dX11_isTape_6 : decode cX11_isTape 6 = .ok (.ireturn, 1) := by decide +kernel
theorem dX11_tape_0 : decode cX11_tape 0 = .ok (.iload_n 1, 1) := by decide +kernel
theorem dX11_tape_1 : decode cX11_tape 1 = .ok (.invokestatic 332, 3) := by decide +kernel
theorem dX11_tape_4 : decode cX11_tape 4 = .ok (.ifCond .ne 5, 3) := by decide +kernel
theorem dX11_tape_7 : decode cX11_tape 7 = .ok (.iconst (-1), 1) := by decide +kernel
theorem dX11_tape_8 : decode cX11_tape 8 = .ok (.ireturn, 1) := by decide +kernel
theorem dX11_tape_9 : decode cX11_tape 9 = .ok (.iload_n 2, 1) := by decide +kernel
theorem dX11_tape_10 : decode cX11_tape 10 = .ok (.iconst (-1), 1) := by decide +kernel
theorem dX11_tape_11 : decode cX11_tape 11 = .ok (.iconst 4, 1) := by decide +kernel
theorem dX11_tape_12 : decode cX11_tape 12 = .ok (.invokestatic 114, 3) := by decide +kernel
theorem dX11_tape_15 : decode cX11_tape 15 = .ok (.ifCond .eq 13, 3) := by decide +kernel
theorem dX11_tape_18 : decode cX11_tape 18 = .ok (.iload_n 2, 1) := by decide +kernel
theorem dX11_tape_19 : decode cX11_tape 19 = .ok (.ifCond .lt 12, 3) := by decide +kernel
theorem dX11_tape_22 : decode cX11_tape 22 = .ok (.iload_n 3, 1) := by decide +kernel
theorem dX11_tape_23 : decode cX11_tape 23 = .ok (.bipush 60, 2) := by decide +kernel
theorem dX11_tape_25 : decode cX11_tape 25 = .ok (.if_icmp .le 6, 3) := by decide +kernel
theorem dX11_tape_28 : decode cX11_tape 28 = .ok (.bipush (-2), 2) := by decide +kernel
theorem dX11_tape_30 : decode cX11_tape 30 = .ok (.ireturn, 1) := by decide +kernel
theorem dX11_tape_31 : decode cX11_tape 31 = .ok (.iload_n 2, 1) := by decide +kernel
theorem dX11_tape_32 : decode cX11_tape 32 = .ok (.ifCond .lt 10, 3) := by decide +kernel
theorem dX11_tape_35 : decode cX11_tape 35 = .ok (.iload_n 3, 1) := by decide +kernel
theorem dX11_tape_36 : decode cX11_tape 36 = .ok (.ifCond .ge 6, 3) := by decide +kernel
theorem dX11_tape_39 : decode cX11_tape 39 = .ok (.bipush (-14), 2) := by decide +kernel
theorem dX11_tape_41 : decode cX11_tape 41 = .ok (.ireturn, 1) := by decide +kernel
theorem dX11_tape_42 : decode cX11_tape 42 = .ok (.aload_n 0, 1) := by decide +kernel
theorem dX11_tape_43 : decode cX11_tape 43 = .ok (.getfield 97, 3) := by decide +kernel
theorem dX11_tape_46 : decode cX11_tape 46 = .ok (.iload_n 1, 1) := by decide +kernel
theorem dX11_tape_47 : decode cX11_tape 47 = .ok (.iload_n 2, 1) := by decide +kernel
theorem dX11_tape_48 : decode cX11_tape 48 = .ok (.iastore, 1) := by decide +kernel
theorem dX11_tape_49 : decode cX11_tape 49 = .ok (.aload_n 0, 1) := by decide +kernel
theorem dX11_tape_50 : decode cX11_tape 50 = .ok (.getfield 100, 3) := by decide +kernel
theorem dX11_tape_53 : decode cX11_tape 53 = .ok (.iload_n 1, 1) := by decide +kernel
theorem dX11_tape_54 : decode cX11_tape 54 = .ok (.iload_n 2, 1) := by decide +kernel
theorem dX11_tape_55 : decode cX11_tape 55 = .ok (.ifCond .ge 7, 3) := by decide +kernel
theorem dX11_tape_58 : decode cX11_tape 58 = .ok (.iconst 0, 1) := by decide +kernel
theorem dX11_tape_59 : decode cX11_tape 59 = .ok (.goto 4, 3) := by decide +kernel
theorem dX11_tape_62 : decode cX11_tape 62 = .ok (.iload_n 3, 1) := by decide +kernel
theorem dX11_tape_63 : decode cX11_tape 63 = .ok (.iastore, 1) := by decide +kernel
theorem dX11_tape_64 : decode cX11_tape 64 = .ok (.iconst 0, 1) := by decide +kernel
theorem dX11_tape_65 : decode cX11_tape 65 = .ok (.istore 4, 2) := by decide +kernel
theorem dX11_tape_67 : decode cX11_tape 67 = .ok (.iload 4, 2) := by decide +kernel
theorem dX11_tape_69 : decode cX11_tape 69 = .ok (.bipush 60, 2) := by decide +kernel
theorem dX11_tape_71 : decode cX11_tape 71 = .ok (.if_icmp .ge 22, 3) := by decide +kernel
theorem dX11_tape_74 : decode cX11_tape 74 = .ok (.aload_n 0, 1) := by decide +kernel
theorem dX11_tape_75 : decode cX11_tape 75 = .ok (.getfield 103, 3) := by decide +kernel
theorem dX11_tape_78 : decode cX11_tape 78 = .ok (.bipush 60, 2) := by decide +kernel
theorem dX11_tape_80 : decode cX11_tape 80 = .ok (.iload_n 1, 1) := by decide +kernel
theorem dX11_tape_81 : decode cX11_tape 81 = .ok (.imul, 1) := by decide +kernel
theorem dX11_tape_82 : decode cX11_tape 82 = .ok (.iload 4, 2) := by decide +kernel
theorem dX11_tape_84 : decode cX11_tape 84 = .ok (.iadd, 1) := by decide +kernel
theorem dX11_tape_85 : decode cX11_tape 85 = .ok (.lconst 0, 1) := by decide +kernel
theorem dX11_tape_86 : decode cX11_tape 86 = .ok (.lastore, 1) := by decide +kernel
theorem dX11_tape_87 : decode cX11_tape 87 = .ok (.iinc 4 1, 3) := by decide +kernel
theorem dX11_tape_90 : decode cX11_tape 90 = .ok (.goto (-23), 3) := by decide +kernel
theorem dX11_tape_93 : decode cX11_tape 93 = .ok (.iconst 1, 1) := by decide +kernel
theorem dX11_tape_94 : decode cX11_tape 94 = .ok (.ireturn, 1) := by decide +kernel
theorem dX11_kept_0 : decode cX11_kept 0 = .ok (.iload_n 0, 1) := by decide +kernel
theorem dX11_kept_1 : decode cX11_kept 1 = .ok (.tableswitch 47 0 3 #[31, 36, 41, 45], 31) := by decide +kernel
theorem dX11_kept_32 : decode cX11_kept 32 = .ok (.lload_n 1, 1) := by decide +kernel
theorem dX11_kept_33 : decode cX11_kept 33 = .ok (.l2i, 1) := by decide +kernel
theorem dX11_kept_34 : decode cX11_kept 34 = .ok (.i2b, 1) := by decide +kernel
theorem dX11_kept_35 : decode cX11_kept 35 = .ok (.i2l, 1) := by decide +kernel
theorem dX11_kept_36 : decode cX11_kept 36 = .ok (.lreturn, 1) := by decide +kernel
theorem dX11_kept_37 : decode cX11_kept 37 = .ok (.lload_n 1, 1) := by decide +kernel
theorem dX11_kept_38 : decode cX11_kept 38 = .ok (.l2i, 1) := by decide +kernel
theorem dX11_kept_39 : decode cX11_kept 39 = .ok (.i2s, 1) := by decide +kernel
theorem dX11_kept_40 : decode cX11_kept 40 = .ok (.i2l, 1) := by decide +kernel
theorem dX11_kept_41 : decode cX11_kept 41 = .ok (.lreturn, 1) := by decide +kernel
theorem dX11_kept_42 : decode cX11_kept 42 = .ok (.lload_n 1, 1) := by decide +kernel
theorem dX11_kept_43 : decode cX11_kept 43 = .ok (.l2i, 1) := by decide +kernel
theorem dX11_kept_44 : decode cX11_kept 44 = .ok (.i2l, 1) := by decide +kernel
theorem dX11_kept_45 : decode cX11_kept 45 = .ok (.lreturn, 1) := by decide +kernel
theorem dX11_kept_46 : decode cX11_kept 46 = .ok (.lload_n 1, 1) := by decide +kernel
theorem dX11_kept_47 : decode cX11_kept 47 = .ok (.lreturn, 1) := by decide +kernel
theorem dX11_kept_48 : decode cX11_kept 48 = .ok (.lload_n 1, 1) := by decide +kernel
theorem dX11_kept_49 : decode cX11_kept 49 = .ok (.lconst 0, 1) := by decide +kernel
theorem dX11_kept_50 : decode cX11_kept 50 = .ok (.lcmp, 1) := by decide +kernel
theorem dX11_kept_51 : decode cX11_kept 51 = .ok (.ifCond .eq 7, 3) := by decide +kernel
theorem dX11_kept_54 : decode cX11_kept 54 = .ok (.lconst 1, 1) := by decide +kernel
theorem dX11_kept_55 : decode cX11_kept 55 = .ok (.goto 4, 3) := by decide +kernel
theorem dX11_kept_58 : decode cX11_kept 58 = .ok (.lconst 0, 1) := by decide +kernel
theorem dX11_kept_59 : decode cX11_kept 59 = .ok (.lreturn, 1) := by decide +kernel
theorem dX11_item_0 : decode cX11_item 0 = .ok (.iload_n 1, 1) := by decide +kernel
theorem dX11_item_1 : decode cX11_item 1 = .ok (.invokestatic 332, 3) := by decide +kernel
theorem dX11_item_4 : decode cX11_item 4 = .ok (.ifCond .ne 5, 3) := by decide +kernel
theorem dX11_item_7 : decode cX11_item 7 = .ok (.iconst (-1), 1) := by decide +kernel
theorem dX11_item_8 : decode cX11_item 8 = .ok (.ireturn, 1) := by decide +kernel
theorem dX11_item_9 : decode cX11_item 9 = .ok (.aload_n 0, 1) := by decide +kernel
theorem dX11_item_10 : decode cX11_item 10 = .ok (.getfield 97, 3) := by decide +kernel
theorem dX11_item_13 : decode cX11_item 13 = .ok (.iload_n 1, 1) := by decide +kernel
theorem dX11_item_14 : decode cX11_item 14 = .ok (.iaload, 1) := by decide +kernel
theorem dX11_item_15 : decode cX11_item 15 = .ok (.ifCond .ge 6, 3) := by decide +kernel
theorem dX11_item_18 : decode cX11_item 18 = .ok (.bipush (-11), 2) := by decide +kernel
theorem dX11_item_20 : decode cX11_item 20 = .ok (.ireturn, 1) := by decide +kernel
theorem dX11_item_21 : decode cX11_item 21 = .ok (.iload_n 2, 1) := by decide +kernel
theorem dX11_item_22 : decode cX11_item 22 = .ok (.iconst 0, 1) := by decide +kernel
theorem dX11_item_23 : decode cX11_item 23 = .ok (.aload_n 0, 1) := by decide +kernel
theorem dX11_item_24 : decode cX11_item 24 = .ok (.getfield 100, 3) := by decide +kernel
theorem dX11_item_27 : decode cX11_item 27 = .ok (.iload_n 1, 1) := by decide +kernel
theorem dX11_item_28 : decode cX11_item 28 = .ok (.iaload, 1) := by decide +kernel
theorem dX11_item_29 : decode cX11_item 29 = .ok (.iconst 1, 1) := by decide +kernel
theorem dX11_item_30 : decode cX11_item 30 = .ok (.isub, 1) := by decide +kernel
theorem dX11_item_31 : decode cX11_item 31 = .ok (.invokestatic 114, 3) := by decide +kernel
theorem dX11_item_34 : decode cX11_item 34 = .ok (.ifCond .ne 6, 3) := by decide +kernel
theorem dX11_item_37 : decode cX11_item 37 = .ok (.bipush (-13), 2) := by decide +kernel
theorem dX11_item_39 : decode cX11_item 39 = .ok (.ireturn, 1) := by decide +kernel
theorem dX11_item_40 : decode cX11_item 40 = .ok (.aload_n 0, 1) := by decide +kernel
theorem dX11_item_41 : decode cX11_item 41 = .ok (.getfield 103, 3) := by decide +kernel
theorem dX11_item_44 : decode cX11_item 44 = .ok (.bipush 60, 2) := by decide +kernel
theorem dX11_item_46 : decode cX11_item 46 = .ok (.iload_n 1, 1) := by decide +kernel
theorem dX11_item_47 : decode cX11_item 47 = .ok (.imul, 1) := by decide +kernel
theorem dX11_item_48 : decode cX11_item 48 = .ok (.iload_n 2, 1) := by decide +kernel
theorem dX11_item_49 : decode cX11_item 49 = .ok (.iadd, 1) := by decide +kernel
theorem dX11_item_50 : decode cX11_item 50 = .ok (.aload_n 0, 1) := by decide +kernel
theorem dX11_item_51 : decode cX11_item 51 = .ok (.getfield 97, 3) := by decide +kernel
theorem dX11_item_54 : decode cX11_item 54 = .ok (.iload_n 1, 1) := by decide +kernel
theorem dX11_item_55 : decode cX11_item 55 = .ok (.iaload, 1) := by decide +kernel
theorem dX11_item_56 : decode cX11_item 56 = .ok (.lload_n 3, 1) := by decide +kernel
theorem dX11_item_57 : decode cX11_item 57 = .ok (.invokestatic 335, 3) := by decide +kernel
theorem dX11_item_60 : decode cX11_item 60 = .ok (.lastore, 1) := by decide +kernel
theorem dX11_item_61 : decode cX11_item 61 = .ok (.iconst 1, 1) := by decide +kernel
theorem dX11_item_62 : decode cX11_item 62 = .ok (.ireturn, 1) := by decide +kernel
theorem dX11_read_0 : decode cX11_read 0 = .ok (.iload_n 1, 1) := by decide +kernel
theorem dX11_read_1 : decode cX11_read 1 = .ok (.invokestatic 332, 3) := by decide +kernel
theorem dX11_read_4 : decode cX11_read 4 = .ok (.ifCond .eq 42, 3) := by decide +kernel
theorem dX11_read_7 : decode cX11_read 7 = .ok (.aload_n 0, 1) := by decide +kernel
theorem dX11_read_8 : decode cX11_read 8 = .ok (.getfield 97, 3) := by decide +kernel
theorem dX11_read_11 : decode cX11_read 11 = .ok (.iload_n 1, 1) := by decide +kernel
theorem dX11_read_12 : decode cX11_read 12 = .ok (.iaload, 1) := by decide +kernel
theorem dX11_read_13 : decode cX11_read 13 = .ok (.ifCond .lt 33, 3) := by decide +kernel
theorem dX11_read_16 : decode cX11_read 16 = .ok (.iload_n 2, 1) := by decide +kernel
theorem dX11_read_17 : decode cX11_read 17 = .ok (.iconst 0, 1) := by decide +kernel
theorem dX11_read_18 : decode cX11_read 18 = .ok (.aload_n 0, 1) := by decide +kernel
theorem dX11_read_19 : decode cX11_read 19 = .ok (.getfield 100, 3) := by decide +kernel
theorem dX11_read_22 : decode cX11_read 22 = .ok (.iload_n 1, 1) := by decide +kernel
theorem dX11_read_23 : decode cX11_read 23 = .ok (.iaload, 1) := by decide +kernel
theorem dX11_read_24 : decode cX11_read 24 = .ok (.iconst 1, 1) := by decide +kernel
theorem dX11_read_25 : decode cX11_read 25 = .ok (.isub, 1) := by decide +kernel
theorem dX11_read_26 : decode cX11_read 26 = .ok (.invokestatic 114, 3) := by decide +kernel
theorem dX11_read_29 : decode cX11_read 29 = .ok (.ifCond .eq 17, 3) := by decide +kernel
theorem dX11_read_32 : decode cX11_read 32 = .ok (.aload_n 0, 1) := by decide +kernel
theorem dX11_read_33 : decode cX11_read 33 = .ok (.getfield 103, 3) := by decide +kernel
theorem dX11_read_36 : decode cX11_read 36 = .ok (.bipush 60, 2) := by decide +kernel
theorem dX11_read_38 : decode cX11_read 38 = .ok (.iload_n 1, 1) := by decide +kernel
theorem dX11_read_39 : decode cX11_read 39 = .ok (.imul, 1) := by decide +kernel
theorem dX11_read_40 : decode cX11_read 40 = .ok (.iload_n 2, 1) := by decide +kernel
theorem dX11_read_41 : decode cX11_read 41 = .ok (.iadd, 1) := by decide +kernel
theorem dX11_read_42 : decode cX11_read 42 = .ok (.laload, 1) := by decide +kernel
theorem dX11_read_43 : decode cX11_read 43 = .ok (.goto 6, 3) := by decide +kernel
theorem dX11_read_46 : decode cX11_read 46 = .ok (.ldc2_w 290, 3) := by decide +kernel
theorem dX11_read_49 : decode cX11_read 49 = .ok (.lreturn, 1) := by decide +kernel
theorem dX11_shift_0 : decode cX11_shift 0 = .ok (.iload_n 1, 1) := by decide +kernel
theorem dX11_shift_1 : decode cX11_shift 1 = .ok (.invokestatic 332, 3) := by decide +kernel
theorem dX11_shift_4 : decode cX11_shift 4 = .ok (.ifCond .eq 10, 3) := by decide +kernel
theorem dX11_shift_7 : decode cX11_shift 7 = .ok (.iload_n 3, 1) := by decide +kernel
theorem dX11_shift_8 : decode cX11_shift 8 = .ok (.invokestatic 332, 3) := by decide +kernel
theorem dX11_shift_11 : decode cX11_shift 11 = .ok (.ifCond .ne 5, 3) := by decide +kernel
theorem dX11_shift_14 : decode cX11_shift 14 = .ok (.iconst (-1), 1) := by decide +kernel
theorem dX11_shift_15 : decode cX11_shift 15 = .ok (.ireturn, 1) := by decide +kernel
theorem dX11_shift_16 : decode cX11_shift 16 = .ok (.aload_n 0, 1) := by decide +kernel
theorem dX11_shift_17 : decode cX11_shift 17 = .ok (.getfield 97, 3) := by decide +kernel
theorem dX11_shift_20 : decode cX11_shift 20 = .ok (.iload_n 1, 1) := by decide +kernel
theorem dX11_shift_21 : decode cX11_shift 21 = .ok (.iaload, 1) := by decide +kernel
theorem dX11_shift_22 : decode cX11_shift 22 = .ok (.ifCond .lt 12, 3) := by decide +kernel
theorem dX11_shift_25 : decode cX11_shift 25 = .ok (.aload_n 0, 1) := by decide +kernel
theorem dX11_shift_26 : decode cX11_shift 26 = .ok (.getfield 97, 3) := by decide +kernel
theorem dX11_shift_29 : decode cX11_shift 29 = .ok (.iload_n 3, 1) := by decide +kernel
theorem dX11_shift_30 : decode cX11_shift 30 = .ok (.iaload, 1) := by decide +kernel
theorem dX11_shift_31 : decode cX11_shift 31 = .ok (.ifCond .ge 6, 3) := by decide +kernel
theorem dX11_shift_34 : decode cX11_shift 34 = .ok (.bipush (-11), 2) := by decide +kernel
theorem dX11_shift_36 : decode cX11_shift 36 = .ok (.ireturn, 1) := by decide +kernel
theorem dX11_shift_37 : decode cX11_shift 37 = .ok (.aload_n 0, 1) := by decide +kernel
theorem dX11_shift_38 : decode cX11_shift 38 = .ok (.getfield 97, 3) := by decide +kernel
theorem dX11_shift_41 : decode cX11_shift 41 = .ok (.iload_n 1, 1) := by decide +kernel
theorem dX11_shift_42 : decode cX11_shift 42 = .ok (.iaload, 1) := by decide +kernel
theorem dX11_shift_43 : decode cX11_shift 43 = .ok (.aload_n 0, 1) := by decide +kernel
theorem dX11_shift_44 : decode cX11_shift 44 = .ok (.getfield 97, 3) := by decide +kernel
theorem dX11_shift_47 : decode cX11_shift 47 = .ok (.iload_n 3, 1) := by decide +kernel
theorem dX11_shift_48 : decode cX11_shift 48 = .ok (.iaload, 1) := by decide +kernel
theorem dX11_shift_49 : decode cX11_shift 49 = .ok (.if_icmp .eq 6, 3) := by decide +kernel
theorem dX11_shift_52 : decode cX11_shift 52 = .ok (.bipush (-12), 2) := by decide +kernel
theorem dX11_shift_54 : decode cX11_shift 54 = .ok (.ireturn, 1) := by decide +kernel
theorem dX11_shift_55 : decode cX11_shift 55 = .ok (.iload 5, 2) := by decide +kernel
theorem dX11_shift_57 : decode cX11_shift 57 = .ok (.ifCond .lt 47, 3) := by decide +kernel
theorem dX11_shift_60 : decode cX11_shift 60 = .ok (.iload_n 2, 1) := by decide +kernel
theorem dX11_shift_61 : decode cX11_shift 61 = .ok (.ifCond .lt 43, 3) := by decide +kernel
theorem dX11_shift_64 : decode cX11_shift 64 = .ok (.iload 4, 2) := by decide +kernel
theorem dX11_shift_66 : decode cX11_shift 66 = .ok (.ifCond .lt 38, 3) := by decide +kernel
theorem dX11_shift_69 : decode cX11_shift 69 = .ok (.iload_n 2, 1) := by decide +kernel
theorem dX11_shift_70 : decode cX11_shift 70 = .ok (.i2l, 1) := by decide +kernel
theorem dX11_shift_71 : decode cX11_shift 71 = .ok (.iload 5, 2) := by decide +kernel
theorem dX11_shift_73 : decode cX11_shift 73 = .ok (.i2l, 1) := by decide +kernel
theorem dX11_shift_74 : decode cX11_shift 74 = .ok (.ladd, 1) := by decide +kernel
theorem dX11_shift_75 : decode cX11_shift 75 = .ok (.aload_n 0, 1) := by decide +kernel
theorem dX11_shift_76 : decode cX11_shift 76 = .ok (.getfield 100, 3) := by decide +kernel
theorem dX11_shift_79 : decode cX11_shift 79 = .ok (.iload_n 1, 1) := by decide +kernel
theorem dX11_shift_80 : decode cX11_shift 80 = .ok (.iaload, 1) := by decide +kernel
theorem dX11_shift_81 : decode cX11_shift 81 = .ok (.i2l, 1) := by decide +kernel
theorem dX11_shift_82 : decode cX11_shift 82 = .ok (.lcmp, 1) := by decide +kernel
theorem dX11_shift_83 : decode cX11_shift 83 = .ok (.ifCond .gt 21, 3) := by decide +kernel
theorem dX11_shift_86 : decode cX11_shift 86 = .ok (.iload 4, 2) := by decide +kernel
theorem dX11_shift_88 : decode cX11_shift 88 = .ok (.i2l, 1) := by decide +kernel
theorem dX11_shift_89 : decode cX11_shift 89 = .ok (.iload 5, 2) := by decide +kernel
theorem dX11_shift_91 : decode cX11_shift 91 = .ok (.i2l, 1) := by decide +kernel
theorem dX11_shift_92 : decode cX11_shift 92 = .ok (.ladd, 1) := by decide +kernel
theorem dX11_shift_93 : decode cX11_shift 93 = .ok (.aload_n 0, 1) := by decide +kernel
theorem dX11_shift_94 : decode cX11_shift 94 = .ok (.getfield 100, 3) := by decide +kernel
theorem dX11_shift_97 : decode cX11_shift 97 = .ok (.iload_n 3, 1) := by decide +kernel
theorem dX11_shift_98 : decode cX11_shift 98 = .ok (.iaload, 1) := by decide +kernel
theorem dX11_shift_99 : decode cX11_shift 99 = .ok (.i2l, 1) := by decide +kernel
theorem dX11_shift_100 : decode cX11_shift 100 = .ok (.lcmp, 1) := by decide +kernel
theorem dX11_shift_101 : decode cX11_shift 101 = .ok (.ifCond .le 6, 3) := by decide +kernel
theorem dX11_shift_104 : decode cX11_shift 104 = .ok (.bipush (-13), 2) := by decide +kernel
theorem dX11_shift_106 : decode cX11_shift 106 = .ok (.ireturn, 1) := by decide +kernel
theorem dX11_shift_107 : decode cX11_shift 107 = .ok (.iload_n 1, 1) := by decide +kernel
theorem dX11_shift_108 : decode cX11_shift 108 = .ok (.iload_n 3, 1) := by decide +kernel
theorem dX11_shift_109 : decode cX11_shift 109 = .ok (.if_icmp .ne 58, 3) := by decide +kernel
theorem dX11_shift_112 : decode cX11_shift 112 = .ok (.iload_n 2, 1) := by decide +kernel
theorem dX11_shift_113 : decode cX11_shift 113 = .ok (.iload 4, 2) := by decide +kernel
theorem dX11_shift_115 : decode cX11_shift 115 = .ok (.if_icmp .ge 52, 3) := by decide +kernel
theorem dX11_shift_118 : decode cX11_shift 118 = .ok (.iload 5, 2) := by decide +kernel
theorem dX11_shift_120 : decode cX11_shift 120 = .ok (.iconst 1, 1) := by decide +kernel
theorem dX11_shift_121 : decode cX11_shift 121 = .ok (.isub, 1) := by decide +kernel
theorem dX11_shift_122 : decode cX11_shift 122 = .ok (.istore 6, 2) := by decide +kernel
theorem dX11_shift_124 : decode cX11_shift 124 = .ok (.iload 6, 2) := by decide +kernel
theorem dX11_shift_126 : decode cX11_shift 126 = .ok (.ifCond .lt 38, 3) := by decide +kernel
theorem dX11_shift_129 : decode cX11_shift 129 = .ok (.aload_n 0, 1) := by decide +kernel
theorem dX11_shift_130 : decode cX11_shift 130 = .ok (.getfield 103, 3) := by decide +kernel
theorem dX11_shift_133 : decode cX11_shift 133 = .ok (.bipush 60, 2) := by decide +kernel
theorem dX11_shift_135 : decode cX11_shift 135 = .ok (.iload_n 3, 1) := by decide +kernel
theorem dX11_shift_136 : decode cX11_shift 136 = .ok (.imul, 1) := by decide +kernel
theorem dX11_shift_137 : decode cX11_shift 137 = .ok (.iload 4, 2) := by decide +kernel
theorem dX11_shift_139 : decode cX11_shift 139 = .ok (.iadd, 1) := by decide +kernel
theorem dX11_shift_140 : decode cX11_shift 140 = .ok (.iload 6, 2) := by decide +kernel
theorem dX11_shift_142 : decode cX11_shift 142 = .ok (.iadd, 1) := by decide +kernel
theorem dX11_shift_143 : decode cX11_shift 143 = .ok (.aload_n 0, 1) := by decide +kernel
theorem dX11_shift_144 : decode cX11_shift 144 = .ok (.getfield 103, 3) := by decide +kernel
theorem dX11_shift_147 : decode cX11_shift 147 = .ok (.bipush 60, 2) := by decide +kernel
theorem dX11_shift_149 : decode cX11_shift 149 = .ok (.iload_n 1, 1) := by decide +kernel
theorem dX11_shift_150 : decode cX11_shift 150 = .ok (.imul, 1) := by decide +kernel
theorem dX11_shift_151 : decode cX11_shift 151 = .ok (.iload_n 2, 1) := by decide +kernel
theorem dX11_shift_152 : decode cX11_shift 152 = .ok (.iadd, 1) := by decide +kernel
theorem dX11_shift_153 : decode cX11_shift 153 = .ok (.iload 6, 2) := by decide +kernel
theorem dX11_shift_155 : decode cX11_shift 155 = .ok (.iadd, 1) := by decide +kernel
theorem dX11_shift_156 : decode cX11_shift 156 = .ok (.laload, 1) := by decide +kernel
theorem dX11_shift_157 : decode cX11_shift 157 = .ok (.lastore, 1) := by decide +kernel
theorem dX11_shift_158 : decode cX11_shift 158 = .ok (.iinc 6 (-1), 3) := by decide +kernel
theorem dX11_shift_161 : decode cX11_shift 161 = .ok (.goto (-37), 3) := by decide +kernel
theorem dX11_shift_164 : decode cX11_shift 164 = .ok (.goto 48, 3) := by decide +kernel
theorem dX11_shift_167 : decode cX11_shift 167 = .ok (.iconst 0, 1) := by decide +kernel
theorem dX11_shift_168 : decode cX11_shift 168 = .ok (.istore 6, 2) := by decide +kernel
theorem dX11_shift_170 : decode cX11_shift 170 = .ok (.iload 6, 2) := by decide +kernel
theorem dX11_shift_172 : decode cX11_shift 172 = .ok (.iload 5, 2) := by decide +kernel
theorem dX11_shift_174 : decode cX11_shift 174 = .ok (.if_icmp .ge 38, 3) := by decide +kernel
theorem dX11_shift_177 : decode cX11_shift 177 = .ok (.aload_n 0, 1) := by decide +kernel
theorem dX11_shift_178 : decode cX11_shift 178 = .ok (.getfield 103, 3) := by decide +kernel
theorem dX11_shift_181 : decode cX11_shift 181 = .ok (.bipush 60, 2) := by decide +kernel
theorem dX11_shift_183 : decode cX11_shift 183 = .ok (.iload_n 3, 1) := by decide +kernel
theorem dX11_shift_184 : decode cX11_shift 184 = .ok (.imul, 1) := by decide +kernel
theorem dX11_shift_185 : decode cX11_shift 185 = .ok (.iload 4, 2) := by decide +kernel
theorem dX11_shift_187 : decode cX11_shift 187 = .ok (.iadd, 1) := by decide +kernel
theorem dX11_shift_188 : decode cX11_shift 188 = .ok (.iload 6, 2) := by decide +kernel
theorem dX11_shift_190 : decode cX11_shift 190 = .ok (.iadd, 1) := by decide +kernel
theorem dX11_shift_191 : decode cX11_shift 191 = .ok (.aload_n 0, 1) := by decide +kernel
theorem dX11_shift_192 : decode cX11_shift 192 = .ok (.getfield 103, 3) := by decide +kernel
theorem dX11_shift_195 : decode cX11_shift 195 = .ok (.bipush 60, 2) := by decide +kernel
theorem dX11_shift_197 : decode cX11_shift 197 = .ok (.iload_n 1, 1) := by decide +kernel
theorem dX11_shift_198 : decode cX11_shift 198 = .ok (.imul, 1) := by decide +kernel
theorem dX11_shift_199 : decode cX11_shift 199 = .ok (.iload_n 2, 1) := by decide +kernel
theorem dX11_shift_200 : decode cX11_shift 200 = .ok (.iadd, 1) := by decide +kernel
theorem dX11_shift_201 : decode cX11_shift 201 = .ok (.iload 6, 2) := by decide +kernel
theorem dX11_shift_203 : decode cX11_shift 203 = .ok (.iadd, 1) := by decide +kernel
theorem dX11_shift_204 : decode cX11_shift 204 = .ok (.laload, 1) := by decide +kernel
theorem dX11_shift_205 : decode cX11_shift 205 = .ok (.lastore, 1) := by decide +kernel
theorem dX11_shift_206 : decode cX11_shift 206 = .ok (.iinc 6 1, 3) := by decide +kernel
theorem dX11_shift_209 : decode cX11_shift 209 = .ok (.goto (-39), 3) := by decide +kernel
theorem dX11_shift_212 : decode cX11_shift 212 = .ok (.iload 5, 2) := by decide +kernel
theorem dX11_shift_214 : decode cX11_shift 214 = .ok (.ireturn, 1) := by decide +kernel
