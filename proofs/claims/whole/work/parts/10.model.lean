theorem dMo_init_0 : decode cMo_init 0 = .ok (.aload_n 0, 1) := by decide +kernel
theorem dMo_init_1 : decode cMo_init 1 = .ok (.invokespecial 1, 3) := by decide +kernel
theorem dMo_init_4 : decode cMo_init 4 = .ok (.aload_n 0, 1) := by decide +kernel
theorem dMo_init_5 : decode cMo_init 5 = .ok (.bipush 7, 2) := by decide +kernel
theorem dMo_init_7 : decode cMo_init 7 = .ok (.newarray .boolean, 2) := by decide +kernel
theorem dMo_init_9 : decode cMo_init 9 = .ok (.putfield 7, 3) := by decide +kernel
theorem dMo_init_12 : decode cMo_init 12 = .ok (.aload_n 0, 1) := by decide +kernel
theorem dMo_init_13 : decode cMo_init 13 = .ok (.bipush 7, 2) := by decide +kernel
theorem dMo_init_15 : decode cMo_init 15 = .ok (.newarray .int, 2) := by decide +kernel
theorem dMo_init_17 : decode cMo_init 17 = .ok (.putfield 13, 3) := by decide +kernel
theorem dMo_init_20 : decode cMo_init 20 = .ok (.aload_n 0, 1) := by decide +kernel
theorem dMo_init_21 : decode cMo_init 21 = .ok (.bipush 7, 2) := by decide +kernel
theorem dMo_init_23 : decode cMo_init 23 = .ok (.newarray .int, 2) := by decide +kernel
theorem dMo_init_25 : decode cMo_init 25 = .ok (.putfield 17, 3) := by decide +kernel
theorem dMo_init_28 : decode cMo_init 28 = .ok (.aload_n 0, 1) := by decide +kernel
theorem dMo_init_29 : decode cMo_init 29 = .ok (.bipush 7, 2) := by decide +kernel
theorem dMo_init_31 : decode cMo_init 31 = .ok (.newarray .boolean, 2) := by decide +kernel
theorem dMo_init_33 : decode cMo_init 33 = .ok (.putfield 20, 3) := by decide +kernel
theorem dMo_init_36 : decode cMo_init 36 = .ok (.aload_n 0, 1) := by decide +kernel
theorem dMo_init_37 : decode cMo_init 37 = .ok (.bipush 7, 2) := by decide +kernel
theorem dMo_init_39 : decode cMo_init 39 = .ok (.newarray .boolean, 2) := by decide +kernel
theorem dMo_init_41 : decode cMo_init 41 = .ok (.putfield 23, 3) := by decide +kernel
theorem dMo_init_44 : decode cMo_init 44 = .ok (.aload_n 0, 1) := by decide +kernel
theorem dMo_init_45 : decode cMo_init 45 = .ok (.bipush 112, 2) := by decide +kernel
theorem dMo_init_47 : decode cMo_init 47 = .ok (.newarray .int, 2) := by decide +kernel
theorem dMo_init_49 : decode cMo_init 49 = .ok (.putfield 26, 3) := by decide +kernel
theorem dMo_init_52 : decode cMo_init 52 = .ok (.aload_n 0, 1) := by decide +kernel
theorem dMo_init_53 : decode cMo_init 53 = .ok (.bipush 112, 2) := by decide +kernel
theorem dMo_init_55 : decode cMo_init 55 = .ok (.newarray .int, 2) := by decide +kernel
theorem dMo_init_57 : decode cMo_init 57 = .ok (.putfield 29, 3) := by decide +kernel
theorem dMo_init_60 : decode cMo_init 60 = .ok (.aload_n 0, 1) := by decide +kernel
theorem dMo_init_61 : decode cMo_init 61 = .ok (.bipush 56, 2) := by decide +kernel
theorem dMo_init_63 : decode cMo_init 63 = .ok (.newarray .int, 2) := by decide +kernel
theorem dMo_init_65 : decode cMo_init 65 = .ok (.putfield 32, 3) := by decide +kernel
theorem dMo_init_68 : decode cMo_init 68 = .ok (.aload_n 0, 1) := by decide +kernel
theorem dMo_init_69 : decode cMo_init 69 = .ok (.bipush 56, 2) := by decide +kernel
theorem dMo_init_71 : decode cMo_init 71 = .ok (.newarray .int, 2) := by decide +kernel
theorem dMo_init_73 : decode cMo_init 73 = .ok (.putfield 35, 3) := by decide +kernel
theorem dMo_init_76 : decode cMo_init 76 = .ok (.aload_n 0, 1) := by decide +kernel
theorem dMo_init_77 : decode cMo_init 77 = .ok (.bipush 64, 2) := by decide +kernel
theorem dMo_init_79 : decode cMo_init 79 = .ok (.newarray .int, 2) := by decide +kernel
theorem dMo_init_81 : decode cMo_init 81 = .ok (.putfield 38, 3) := by decide +kernel
theorem dMo_init_84 : decode cMo_init 84 = .ok (.aload_n 0, 1) := by decide +kernel
theorem dMo_init_85 : decode cMo_init 85 = .ok (.bipush 64, 2) := by decide +kernel
theorem dMo_init_87 : decode cMo_init 87 = .ok (.newarray .int, 2) := by decide +kernel
theorem dMo_init_89 : decode cMo_init 89 = .ok (.putfield 41, 3) := by decide +kernel
theorem dMo_init_92 : decode cMo_init 92 = .ok (.aload_n 0, 1) := by decide +kernel
theorem dMo_init_93 : decode cMo_init 93 = .ok (.bipush 64, 2) := by decide +kernel
theorem dMo_init_95 : decode cMo_init 95 = .ok (.newarray .int, 2) := by decide +kernel
theorem dMo_init_97 : decode cMo_init 97 = .ok (.putfield 44, 3) := by decide +kernel
theorem dMo_init_100 : decode cMo_init 100 = .ok (.aload_n 0, 1) := by decide +kernel
theorem dMo_init_101 : decode cMo_init 101 = .ok (.bipush 64, 2) := by decide +kernel
theorem dMo_init_103 : decode cMo_init 103 = .ok (.newarray .int, 2) := by decide +kernel
theorem dMo_init_105 : decode cMo_init 105 = .ok (.putfield 47, 3) := by decide +kernel
theorem dMo_init_108 : decode cMo_init 108 = .ok (.aload_n 0, 1) := by decide +kernel
theorem dMo_init_109 : decode cMo_init 109 = .ok (.bipush 64, 2) := by decide +kernel
theorem dMo_init_111 : decode cMo_init 111 = .ok (.newarray .long, 2) := by decide +kernel
theorem dMo_init_113 : decode cMo_init 113 = .ok (.putfield 50, 3) := by decide +kernel
theorem dMo_init_116 : decode cMo_init 116 = .ok (.aload_n 0, 1) := by decide +kernel
theorem dMo_init_117 : decode cMo_init 117 = .ok (.bipush 64, 2) := by decide +kernel
theorem dMo_init_119 : decode cMo_init 119 = .ok (.newarray .int, 2) := by decide +kernel
theorem dMo_init_121 : decode cMo_init 121 = .ok (.putfield 54, 3) := by decide +kernel
theorem dMo_init_124 : decode cMo_init 124 = .ok (.aload_n 0, 1) := by decide +kernel
theorem dMo_init_125 : decode cMo_init 125 = .ok (.bipush 64, 2) := by decide +kernel
theorem dMo_init_127 : decode cMo_init 127 = .ok (.newarray .int, 2) := by decide +kernel
theorem dMo_init_129 : decode cMo_init 129 = .ok (.putfield 57, 3) := by decide +kernel
theorem dMo_init_132 : decode cMo_init 132 = .ok (.aload_n 0, 1) := by decide +kernel
theorem dMo_init_133 : decode cMo_init 133 = .ok (.bipush 64, 2) := by decide +kernel
theorem dMo_init_135 : decode cMo_init 135 = .ok (.newarray .long, 2) := by decide +kernel
theorem dMo_init_137 : decode cMo_init 137 = .ok (.putfield 60, 3) := by decide +kernel
theorem dMo_init_140 : decode cMo_init 140 = .ok (.aload_n 0, 1) := by decide +kernel
theorem dMo_init_141 : decode cMo_init 141 = .ok (.iconst 4, 1) := by decide +kernel
theorem dMo_init_142 : decode cMo_init 142 = .ok (.newarray .int, 2) := by decide +kernel
theorem dMo_init_144 : decode cMo_init 144 = .ok (.putfield 63, 3) := by decide +kernel
theorem dMo_init_147 : decode cMo_init 147 = .ok (.aload_n 0, 1) := by decide +kernel
theorem dMo_init_148 : decode cMo_init 148 = .ok (.iconst 4, 1) := by decide +kernel
theorem dMo_init_149 : decode cMo_init 149 = .ok (.newarray .int, 2) := by decide +kernel
theorem dMo_init_151 : decode cMo_init 151 = .ok (.putfield 66, 3) := by decide +kernel
theorem dMo_init_154 : decode cMo_init 154 = .ok (.aload_n 0, 1) := by decide +kernel
theorem dMo_init_155 : decode cMo_init 155 = .ok (.iconst 4, 1) := by decide +kernel
theorem dMo_init_156 : decode cMo_init 156 = .ok (.newarray .int, 2) := by decide +kernel
theorem dMo_init_158 : decode cMo_init 158 = .ok (.putfield 69, 3) := by decide +kernel
theorem dMo_init_161 : decode cMo_init 161 = .ok (.aload_n 0, 1) := by decide +kernel
theorem dMo_init_162 : decode cMo_init 162 = .ok (.iconst 4, 1) := by decide +kernel
theorem dMo_init_163 : decode cMo_init 163 = .ok (.newarray .boolean, 2) := by decide +kernel
theorem dMo_init_165 : decode cMo_init 165 = .ok (.putfield 72, 3) := by decide +kernel
theorem dMo_init_168 : decode cMo_init 168 = .ok (.aload_n 0, 1) := by decide +kernel
theorem dMo_init_169 : decode cMo_init 169 = .ok (.iconst 4, 1) := by decide +kernel
theorem dMo_init_170 : decode cMo_init 170 = .ok (.newarray .int, 2) := by decide +kernel
theorem dMo_init_172 : decode cMo_init 172 = .ok (.putfield 75, 3) := by decide +kernel
theorem dMo_init_175 : decode cMo_init 175 = .ok (.aload_n 0, 1) := by decide +kernel
theorem dMo_init_176 : decode cMo_init 176 = .ok (.bipush 36, 2) := by decide +kernel
theorem dMo_init_178 : decode cMo_init 178 = .ok (.newarray .int, 2) := by decide +kernel
theorem dMo_init_180 : decode cMo_init 180 = .ok (.putfield 78, 3) := by decide +kernel
theorem dMo_init_183 : decode cMo_init 183 = .ok (.aload_n 0, 1) := by decide +kernel
theorem dMo_init_184 : decode cMo_init 184 = .ok (.bipush 8, 2) := by decide +kernel
theorem dMo_init_186 : decode cMo_init 186 = .ok (.newarray .int, 2) := by decide +kernel
theorem dMo_init_188 : decode cMo_init 188 = .ok (.putfield 81, 3) := by decide +kernel
theorem dMo_init_191 : decode cMo_init 191 = .ok (.aload_n 0, 1) := by decide +kernel
theorem dMo_init_192 : decode cMo_init 192 = .ok (.iconst 2, 1) := by decide +kernel
theorem dMo_init_193 : decode cMo_init 193 = .ok (.newarray .int, 2) := by decide +kernel
theorem dMo_init_195 : decode cMo_init 195 = .ok (.putfield 84, 3) := by decide +kernel
theorem dMo_init_198 : decode cMo_init 198 = .ok (.aload_n 0, 1) := by decide +kernel
theorem dMo_init_199 : decode cMo_init 199 = .ok (.iconst 2, 1) := by decide +kernel
theorem dMo_init_200 : decode cMo_init 200 = .ok (.newarray .int, 2) := by decide +kernel
theorem dMo_init_202 : decode cMo_init 202 = .ok (.putfield 87, 3) := by decide +kernel
theorem dMo_init_205 : decode cMo_init 205 = .ok (.aload_n 0, 1) := by decide +kernel
theorem dMo_init_206 : decode cMo_init 206 = .ok (.iconst 2, 1) := by decide +kernel
theorem dMo_init_207 : decode cMo_init 207 = .ok (.newarray .int, 2) := by decide +kernel
theorem dMo_init_209 : decode cMo_init 209 = .ok (.putfield 90, 3) := by decide +kernel
theorem dMo_init_212 : decode cMo_init 212 = .ok (.aload_n 0, 1) := by decide +kernel
theorem dMo_init_213 : decode cMo_init 213 = .ok (.iconst 2, 1) := by decide +kernel
theorem dMo_init_214 : decode cMo_init 214 = .ok (.newarray .int, 2) := by decide +kernel
theorem dMo_init_216 : decode cMo_init 216 = .ok (.putfield 93, 3) := by decide +kernel
theorem dMo_init_219 : decode cMo_init 219 = .ok (.aload_n 0, 1) := by decide +kernel
theorem dMo_init_220 : decode cMo_init 220 = .ok (.iconst 2, 1) := by decide +kernel
theorem dMo_init_221 : decode cMo_init 221 = .ok (.newarray .int, 2) := by decide +kernel
theorem dMo_init_223 : decode cMo_init 223 = .ok (.putfield 96, 3) := by decide +kernel
theorem dMo_init_226 : decode cMo_init 226 = .ok (.aload_n 0, 1) := by decide +kernel
theorem dMo_init_227 : decode cMo_init 227 = .ok (.iconst 2, 1) := by decide +kernel
theorem dMo_init_228 : decode cMo_init 228 = .ok (.newarray .int, 2) := by decide +kernel
theorem dMo_init_230 : decode cMo_init 230 = .ok (.putfield 99, 3) := by decide +kernel
theorem dMo_init_233 : decode cMo_init 233 = .ok (.aload_n 0, 1) := by decide +kernel
theorem dMo_init_234 : decode cMo_init 234 = .ok (.iconst 2, 1) := by decide +kernel
theorem dMo_init_235 : decode cMo_init 235 = .ok (.newarray .long, 2) := by decide +kernel
theorem dMo_init_237 : decode cMo_init 237 = .ok (.putfield 102, 3) := by decide +kernel
theorem dMo_init_240 : decode cMo_init 240 = .ok (.aload_n 0, 1) := by decide +kernel
theorem dMo_init_241 : decode cMo_init 241 = .ok (.iconst 2, 1) := by decide +kernel
theorem dMo_init_242 : decode cMo_init 242 = .ok (.newarray .boolean, 2) := by decide +kernel
theorem dMo_init_244 : decode cMo_init 244 = .ok (.putfield 105, 3) := by decide +kernel
theorem dMo_init_247 : decode cMo_init 247 = .ok (.aload_n 0, 1) := by decide +kernel
theorem dMo_init_248 : decode cMo_init 248 = .ok (.iconst 2, 1) := by decide +kernel
theorem dMo_init_249 : decode cMo_init 249 = .ok (.newarray .boolean, 2) := by decide +kernel
theorem dMo_init_251 : decode cMo_init 251 = .ok (.putfield 108, 3) := by decide +kernel
theorem dMo_init_254 : decode cMo_init 254 = .ok (.aload_n 0, 1) := by decide +kernel
theorem dMo_init_255 : decode cMo_init 255 = .ok (.sipush 192, 3) := by decide +kernel
theorem dMo_init_258 : decode cMo_init 258 = .ok (.newarray .int, 2) := by decide +kernel
theorem dMo_init_260 : decode cMo_init 260 = .ok (.putfield 111, 3) := by decide +kernel
theorem dMo_init_263 : decode cMo_init 263 = .ok (.aload_n 0, 1) := by decide +kernel
theorem dMo_init_264 : decode cMo_init 264 = .ok (.iconst 4, 1) := by decide +kernel
theorem dMo_init_265 : decode cMo_init 265 = .ok (.newarray .int, 2) := by decide +kernel
theorem dMo_init_267 : decode cMo_init 267 = .ok (.putfield 114, 3) := by decide +kernel
theorem dMo_init_270 : decode cMo_init 270 = .ok (.iconst 0, 1) := by decide +kernel
theorem dMo_init_271 : decode cMo_init 271 = .ok (.istore_n 1, 1) := by decide +kernel
theorem dMo_init_272 : decode cMo_init 272 = .ok (.iload_n 1, 1) := by decide +kernel
theorem dMo_init_273 : decode cMo_init 273 = .ok (.iconst 2, 1) := by decide +kernel
theorem dMo_init_274 : decode cMo_init 274 = .ok (.if_icmp .ge 23, 3) := by decide +kernel
theorem dMo_init_277 : decode cMo_init 277 = .ok (.aload_n 0, 1) := by decide +kernel
theorem dMo_init_278 : decode cMo_init 278 = .ok (.getfield 87, 3) := by decide +kernel
theorem dMo_init_281 : decode cMo_init 281 = .ok (.iload_n 1, 1) := by decide +kernel
theorem dMo_init_282 : decode cMo_init 282 = .ok (.iconst (-1), 1) := by decide +kernel
theorem dMo_init_283 : decode cMo_init 283 = .ok (.iastore, 1) := by decide +kernel
theorem dMo_init_284 : decode cMo_init 284 = .ok (.aload_n 0, 1) := by decide +kernel
theorem dMo_init_285 : decode cMo_init 285 = .ok (.getfield 96, 3) := by decide +kernel
theorem dMo_init_288 : decode cMo_init 288 = .ok (.iload_n 1, 1) := by decide +kernel
theorem dMo_init_289 : decode cMo_init 289 = .ok (.iconst (-1), 1) := by decide +kernel
theorem dMo_init_290 : decode cMo_init 290 = .ok (.iastore, 1) := by decide +kernel
theorem dMo_init_291 : decode cMo_init 291 = .ok (.iinc 1 1, 3) := by decide +kernel
theorem dMo_init_294 : decode cMo_init 294 = .ok (.goto (-22), 3) := by decide +kernel
theorem dMo_init_297 : decode cMo_init 297 = .ok (.return_, 1) := by decide +kernel
theorem dMo_within_0 : decode cMo_within 0 = .ok (.iload_n 0, 1) := by decide +kernel
theorem dMo_within_1 : decode cMo_within 1 = .ok (.iload_n 1, 1) := by decide +kernel
theorem dMo_within_2 : decode cMo_within 2 = .ok (.if_icmp .lt 12, 3) := by decide +kernel
theorem dMo_within_5 : decode cMo_within 5 = .ok (.iload_n 0, 1) := by decide +kernel
theorem dMo_within_6 : decode cMo_within 6 = .ok (.iload_n 2, 1) := by decide +kernel
theorem dMo_within_7 : decode cMo_within 7 = .ok (.if_icmp .gt 7, 3) := by decide +kernel
theorem dMo_within_10 : decode cMo_within 10 = .ok (.iconst 1, 1) := by decide +kernel
theorem dMo_within_11 : decode cMo_within 11 = .ok (.goto 4, 3) := by decide +kernel
theorem dMo_within_14 : decode cMo_within 14 = .ok (.iconst 0, 1) := by decide +kernel
theorem dMo_within_15 : decode cMo_within 15 = .ok (.ireturn, 1) := by decide +kernel
theorem dMo_attach_0 : decode cMo_attach 0 = .ok (.iload_n 1, 1) := by decide +kernel
theorem dMo_attach_1 : decode cMo_attach 1 = .ok (.iconst 1, 1) := by decide +kernel
theorem dMo_attach_2 : decode cMo_attach 2 = .ok (.bipush 6, 2) := by decide +kernel
theorem dMo_attach_4 : decode cMo_attach 4 = .ok (.invokestatic 117, 3) := by decide +kernel
theorem dMo_attach_7 : decode cMo_attach 7 = .ok (.ifCond .eq 30, 3) := by decide +kernel
theorem dMo_attach_10 : decode cMo_attach 10 = .ok (.iload_n 2, 1) := by decide +kernel
theorem dMo_attach_11 : decode cMo_attach 11 = .ok (.iconst 0, 1) := by decide +kernel
theorem dMo_attach_12 : decode cMo_attach 12 = .ok (.iconst 1, 1) := by decide +kernel
theorem dMo_attach_13 : decode cMo_attach 13 = .ok (.invokestatic 117, 3) := by decide +kernel
theorem dMo_attach_16 : decode cMo_attach 16 = .ok (.ifCond .eq 21, 3) := by decide +kernel
theorem dMo_attach_19 : decode cMo_attach 19 = .ok (.iload_n 3, 1) := by decide +kernel
theorem dMo_attach_20 : decode cMo_attach 20 = .ok (.iconst 0, 1) := by decide +kernel
theorem dMo_attach_21 : decode cMo_attach 21 = .ok (.iconst 5, 1) := by decide +kernel
theorem dMo_attach_22 : decode cMo_attach 22 = .ok (.invokestatic 117, 3) := by decide +kernel
theorem dMo_attach_25 : decode cMo_attach 25 = .ok (.ifCond .eq 12, 3) := by decide +kernel
theorem dMo_attach_28 : decode cMo_attach 28 = .ok (.aload_n 0, 1) := by decide +kernel
theorem dMo_attach_29 : decode cMo_attach 29 = .ok (.getfield 7, 3) := by decide +kernel
theorem dMo_attach_32 : decode cMo_attach 32 = .ok (.iload_n 1, 1) := by decide +kernel
theorem dMo_attach_33 : decode cMo_attach 33 = .ok (.baload, 1) := by decide +kernel
theorem dMo_attach_34 : decode cMo_attach 34 = .ok (.ifCond .eq 5, 3) := by decide +kernel
theorem dMo_attach_37 : decode cMo_attach 37 = .ok (.iconst 0, 1) := by decide +kernel
theorem dMo_attach_38 : decode cMo_attach 38 = .ok (.ireturn, 1) := by decide +kernel
theorem dMo_attach_39 : decode cMo_attach 39 = .ok (.aload_n 0, 1) := by decide +kernel
theorem dMo_attach_40 : decode cMo_attach 40 = .ok (.getfield 7, 3) := by decide +kernel
theorem dMo_attach_43 : decode cMo_attach 43 = .ok (.iload_n 1, 1) := by decide +kernel
theorem dMo_attach_44 : decode cMo_attach 44 = .ok (.iconst 1, 1) := by decide +kernel
theorem dMo_attach_45 : decode cMo_attach 45 = .ok (.bastore, 1) := by decide +kernel
theorem dMo_attach_46 : decode cMo_attach 46 = .ok (.aload_n 0, 1) := by decide +kernel
theorem dMo_attach_47 : decode cMo_attach 47 = .ok (.getfield 13, 3) := by decide +kernel
theorem dMo_attach_50 : decode cMo_attach 50 = .ok (.iload_n 1, 1) := by decide +kernel
theorem dMo_attach_51 : decode cMo_attach 51 = .ok (.iload_n 2, 1) := by decide +kernel
theorem dMo_attach_52 : decode cMo_attach 52 = .ok (.iastore, 1) := by decide +kernel
theorem dMo_attach_53 : decode cMo_attach 53 = .ok (.aload_n 0, 1) := by decide +kernel
theorem dMo_attach_54 : decode cMo_attach 54 = .ok (.getfield 17, 3) := by decide +kernel
theorem dMo_attach_57 : decode cMo_attach 57 = .ok (.iload_n 1, 1) := by decide +kernel
theorem dMo_attach_58 : decode cMo_attach 58 = .ok (.iload_n 3, 1) := by decide +kernel
theorem dMo_attach_59 : decode cMo_attach 59 = .ok (.iastore, 1) := by decide +kernel
theorem dMo_attach_60 : decode cMo_attach 60 = .ok (.iconst 1, 1) := by decide +kernel
theorem dMo_attach_61 : decode cMo_attach 61 = .ok (.ireturn, 1) := by decide +kernel
theorem dMo_power_0 : decode cMo_power 0 = .ok (.iload_n 1, 1) := by decide +kernel
theorem dMo_power_1 : decode cMo_power 1 = .ok (.iconst 1, 1) := by decide +kernel
theorem dMo_power_2 : decode cMo_power 2 = .ok (.bipush 6, 2) := by decide +kernel
theorem dMo_power_4 : decode cMo_power 4 = .ok (.invokestatic 117, 3) := by decide +kernel
theorem dMo_power_7 : decode cMo_power 7 = .ok (.ifCond .ne 5, 3) := by decide +kernel
theorem dMo_power_10 : decode cMo_power 10 = .ok (.iconst 0, 1) := by decide +kernel
theorem dMo_power_11 : decode cMo_power 11 = .ok (.ireturn, 1) := by decide +kernel
theorem dMo_power_12 : decode cMo_power 12 = .ok (.aload_n 0, 1) := by decide +kernel
theorem dMo_power_13 : decode cMo_power 13 = .ok (.getfield 20, 3) := by decide +kernel
theorem dMo_power_16 : decode cMo_power 16 = .ok (.iload_n 1, 1) := by decide +kernel
theorem dMo_power_17 : decode cMo_power 17 = .ok (.iload_n 2, 1) := by decide +kernel
theorem dMo_power_18 : decode cMo_power 18 = .ok (.ifCond .ne 7, 3) := by decide +kernel
theorem dMo_power_21 : decode cMo_power 21 = .ok (.iconst 1, 1) := by decide +kernel
theorem dMo_power_22 : decode cMo_power 22 = .ok (.goto 4, 3) := by decide +kernel
theorem dMo_power_25 : decode cMo_power 25 = .ok (.iconst 0, 1) := by decide +kernel
theorem dMo_power_26 : decode cMo_power 26 = .ok (.bastore, 1) := by decide +kernel
theorem dMo_power_27 : decode cMo_power 27 = .ok (.iconst 1, 1) := by decide +kernel
theorem dMo_power_28 : decode cMo_power 28 = .ok (.ireturn, 1) := by decide +kernel
theorem dMo_place_0 : decode cMo_place 0 = .ok (.iload_n 0, 1) := by decide +kernel
theorem dMo_place_1 : decode cMo_place 1 = .ok (.iconst 1, 1) := by decide +kernel
theorem dMo_place_2 : decode cMo_place 2 = .ok (.bipush 6, 2) := by decide +kernel
theorem dMo_place_4 : decode cMo_place 4 = .ok (.invokestatic 117, 3) := by decide +kernel
theorem dMo_place_7 : decode cMo_place 7 = .ok (.ifCond .eq 36, 3) := by decide +kernel
theorem dMo_place_10 : decode cMo_place 10 = .ok (.iload_n 1, 1) := by decide +kernel
theorem dMo_place_11 : decode cMo_place 11 = .ok (.iconst 1, 1) := by decide +kernel
theorem dMo_place_12 : decode cMo_place 12 = .ok (.iconst 4, 1) := by decide +kernel
theorem dMo_place_13 : decode cMo_place 13 = .ok (.invokestatic 117, 3) := by decide +kernel
theorem dMo_place_16 : decode cMo_place 16 = .ok (.ifCond .eq 27, 3) := by decide +kernel
theorem dMo_place_19 : decode cMo_place 19 = .ok (.iload_n 2, 1) := by decide +kernel
theorem dMo_place_20 : decode cMo_place 20 = .ok (.iconst 0, 1) := by decide +kernel
theorem dMo_place_21 : decode cMo_place 21 = .ok (.iload_n 1, 1) := by decide +kernel
theorem dMo_place_22 : decode cMo_place 22 = .ok (.iconst 3, 1) := by decide +kernel
theorem dMo_place_23 : decode cMo_place 23 = .ok (.if_icmp .ge 8, 3) := by decide +kernel
theorem dMo_place_26 : decode cMo_place 26 = .ok (.bipush 15, 2) := by decide +kernel
theorem dMo_place_28 : decode cMo_place 28 = .ok (.goto 5, 3) := by decide +kernel
theorem dMo_place_31 : decode cMo_place 31 = .ok (.bipush 7, 2) := by decide +kernel
theorem dMo_place_33 : decode cMo_place 33 = .ok (.invokestatic 117, 3) := by decide +kernel
theorem dMo_place_36 : decode cMo_place 36 = .ok (.ifCond .eq 7, 3) := by decide +kernel
theorem dMo_place_39 : decode cMo_place 39 = .ok (.iconst 1, 1) := by decide +kernel
theorem dMo_place_40 : decode cMo_place 40 = .ok (.goto 4, 3) := by decide +kernel
theorem dMo_place_43 : decode cMo_place 43 = .ok (.iconst 0, 1) := by decide +kernel
theorem dMo_place_44 : decode cMo_place 44 = .ok (.ireturn, 1) := by decide +kernel
theorem dMo_process_0 : decode cMo_process 0 = .ok (.iload_n 1, 1) := by decide +kernel
theorem dMo_process_1 : decode cMo_process 1 = .ok (.iload_n 2, 1) := by decide +kernel
theorem dMo_process_2 : decode cMo_process 2 = .ok (.iload_n 3, 1) := by decide +kernel
theorem dMo_process_3 : decode cMo_process 3 = .ok (.invokestatic 121, 3) := by decide +kernel
theorem dMo_process_6 : decode cMo_process 6 = .ok (.ifCond .eq 33, 3) := by decide +kernel
theorem dMo_process_9 : decode cMo_process 9 = .ok (.iload_n 2, 1) := by decide +kernel
theorem dMo_process_10 : decode cMo_process 10 = .ok (.iconst 2, 1) := by decide +kernel
theorem dMo_process_11 : decode cMo_process 11 = .ok (.if_icmp .eq 8, 3) := by decide +kernel
theorem dMo_process_14 : decode cMo_process 14 = .ok (.iload_n 2, 1) := by decide +kernel
theorem dMo_process_15 : decode cMo_process 15 = .ok (.iconst 4, 1) := by decide +kernel
theorem dMo_process_16 : decode cMo_process 16 = .ok (.if_icmp .ne 23, 3) := by decide +kernel
theorem dMo_process_19 : decode cMo_process 19 = .ok (.iload 4, 2) := by decide +kernel
theorem dMo_process_21 : decode cMo_process 21 = .ok (.iconst 0, 1) := by decide +kernel
theorem dMo_process_22 : decode cMo_process 22 = .ok (.iload_n 2, 1) := by decide +kernel
theorem dMo_process_23 : decode cMo_process 23 = .ok (.iconst 2, 1) := by decide +kernel
theorem dMo_process_24 : decode cMo_process 24 = .ok (.if_icmp .ne 7, 3) := by decide +kernel
theorem dMo_process_27 : decode cMo_process 27 = .ok (.iconst 1, 1) := by decide +kernel
theorem dMo_process_28 : decode cMo_process 28 = .ok (.goto 5, 3) := by decide +kernel
theorem dMo_process_31 : decode cMo_process 31 = .ok (.ldc 124, 2) := by decide +kernel
theorem dMo_process_33 : decode cMo_process 33 = .ok (.invokestatic 117, 3) := by decide +kernel
theorem dMo_process_36 : decode cMo_process 36 = .ok (.ifCond .ne 5, 3) := by decide +kernel
theorem dMo_process_39 : decode cMo_process 39 = .ok (.iconst 0, 1) := by decide +kernel
theorem dMo_process_40 : decode cMo_process 40 = .ok (.ireturn, 1) := by decide +kernel
theorem dMo_process_41 : decode cMo_process 41 = .ok (.iload_n 2, 1) := by decide +kernel
theorem dMo_process_42 : decode cMo_process 42 = .ok (.iconst 2, 1) := by decide +kernel
theorem dMo_process_43 : decode cMo_process 43 = .ok (.if_icmp .ne 19, 3) := by decide +kernel
theorem dMo_process_46 : decode cMo_process 46 = .ok (.aload_n 0, 1) := by decide +kernel
theorem dMo_process_47 : decode cMo_process 47 = .ok (.getfield 29, 3) := by decide +kernel
theorem dMo_process_50 : decode cMo_process 50 = .ok (.bipush 16, 2) := by decide +kernel
theorem dMo_process_52 : decode cMo_process 52 = .ok (.iload_n 1, 1) := by decide +kernel
theorem dMo_process_53 : decode cMo_process 53 = .ok (.imul, 1) := by decide +kernel
theorem dMo_process_54 : decode cMo_process 54 = .ok (.iload_n 3, 1) := by decide +kernel
theorem dMo_process_55 : decode cMo_process 55 = .ok (.iadd, 1) := by decide +kernel
theorem dMo_process_56 : decode cMo_process 56 = .ok (.iload 4, 2) := by decide +kernel
theorem dMo_process_58 : decode cMo_process 58 = .ok (.iastore, 1) := by decide +kernel
theorem dMo_process_59 : decode cMo_process 59 = .ok (.goto 16, 3) := by decide +kernel
theorem dMo_process_62 : decode cMo_process 62 = .ok (.aload_n 0, 1) := by decide +kernel
theorem dMo_process_63 : decode cMo_process 63 = .ok (.getfield 35, 3) := by decide +kernel
theorem dMo_process_66 : decode cMo_process 66 = .ok (.bipush 8, 2) := by decide +kernel
theorem dMo_process_68 : decode cMo_process 68 = .ok (.iload_n 1, 1) := by decide +kernel
theorem dMo_process_69 : decode cMo_process 69 = .ok (.imul, 1) := by decide +kernel
theorem dMo_process_70 : decode cMo_process 70 = .ok (.iload_n 3, 1) := by decide +kernel
theorem dMo_process_71 : decode cMo_process 71 = .ok (.iadd, 1) := by decide +kernel
theorem dMo_process_72 : decode cMo_process 72 = .ok (.iload 4, 2) := by decide +kernel
theorem dMo_process_74 : decode cMo_process 74 = .ok (.iastore, 1) := by decide +kernel
theorem dMo_process_75 : decode cMo_process 75 = .ok (.iconst 1, 1) := by decide +kernel
theorem dMo_process_76 : decode cMo_process 76 = .ok (.ireturn, 1) := by decide +kernel
theorem dMo_cell_0 : decode cMo_cell 0 = .ok (.iload_n 1, 1) := by decide +kernel
theorem dMo_cell_1 : decode cMo_cell 1 = .ok (.iload_n 2, 1) := by decide +kernel
theorem dMo_cell_2 : decode cMo_cell 2 = .ok (.iload_n 3, 1) := by decide +kernel
theorem dMo_cell_3 : decode cMo_cell 3 = .ok (.invokestatic 121, 3) := by decide +kernel
theorem dMo_cell_6 : decode cMo_cell 6 = .ok (.ifCond .ne 5, 3) := by decide +kernel
theorem dMo_cell_9 : decode cMo_cell 9 = .ok (.iconst (-1), 1) := by decide +kernel
theorem dMo_cell_10 : decode cMo_cell 10 = .ok (.ireturn, 1) := by decide +kernel
theorem dMo_cell_11 : decode cMo_cell 11 = .ok (.iload_n 2, 1) := by decide +kernel
theorem dMo_cell_12 : decode cMo_cell 12 = .ok (.tableswitch 64 1 3 #[28, 40, 52], 28) := by decide +kernel
theorem dMo_cell_40 : decode cMo_cell 40 = .ok (.aload_n 0, 1) := by decide +kernel
theorem dMo_cell_41 : decode cMo_cell 41 = .ok (.getfield 26, 3) := by decide +kernel
theorem dMo_cell_44 : decode cMo_cell 44 = .ok (.bipush 16, 2) := by decide +kernel
theorem dMo_cell_46 : decode cMo_cell 46 = .ok (.iload_n 1, 1) := by decide +kernel
theorem dMo_cell_47 : decode cMo_cell 47 = .ok (.imul, 1) := by decide +kernel
theorem dMo_cell_48 : decode cMo_cell 48 = .ok (.iload_n 3, 1) := by decide +kernel
theorem dMo_cell_49 : decode cMo_cell 49 = .ok (.iadd, 1) := by decide +kernel
theorem dMo_cell_50 : decode cMo_cell 50 = .ok (.iaload, 1) := by decide +kernel
theorem dMo_cell_51 : decode cMo_cell 51 = .ok (.ireturn, 1) := by decide +kernel
theorem dMo_cell_52 : decode cMo_cell 52 = .ok (.aload_n 0, 1) := by decide +kernel
theorem dMo_cell_53 : decode cMo_cell 53 = .ok (.getfield 29, 3) := by decide +kernel
theorem dMo_cell_56 : decode cMo_cell 56 = .ok (.bipush 16, 2) := by decide +kernel
theorem dMo_cell_58 : decode cMo_cell 58 = .ok (.iload_n 1, 1) := by decide +kernel
theorem dMo_cell_59 : decode cMo_cell 59 = .ok (.imul, 1) := by decide +kernel
theorem dMo_cell_60 : decode cMo_cell 60 = .ok (.iload_n 3, 1) := by decide +kernel
theorem dMo_cell_61 : decode cMo_cell 61 = .ok (.iadd, 1) := by decide +kernel
theorem dMo_cell_62 : decode cMo_cell 62 = .ok (.iaload, 1) := by decide +kernel
theorem dMo_cell_63 : decode cMo_cell 63 = .ok (.ireturn, 1) := by decide +kernel
theorem dMo_cell_64 : decode cMo_cell 64 = .ok (.aload_n 0, 1) := by decide +kernel
theorem dMo_cell_65 : decode cMo_cell 65 = .ok (.getfield 32, 3) := by decide +kernel
theorem dMo_cell_68 : decode cMo_cell 68 = .ok (.bipush 8, 2) := by decide +kernel
theorem dMo_cell_70 : decode cMo_cell 70 = .ok (.iload_n 1, 1) := by decide +kernel
theorem dMo_cell_71 : decode cMo_cell 71 = .ok (.imul, 1) := by decide +kernel
theorem dMo_cell_72 : decode cMo_cell 72 = .ok (.iload_n 3, 1) := by decide +kernel
theorem dMo_cell_73 : decode cMo_cell 73 = .ok (.iadd, 1) := by decide +kernel
theorem dMo_cell_74 : decode cMo_cell 74 = .ok (.iaload, 1) := by decide +kernel
theorem dMo_cell_75 : decode cMo_cell 75 = .ok (.ireturn, 1) := by decide +kernel
theorem dMo_cell_76 : decode cMo_cell 76 = .ok (.aload_n 0, 1) := by decide +kernel
theorem dMo_cell_77 : decode cMo_cell 77 = .ok (.getfield 35, 3) := by decide +kernel
theorem dMo_cell_80 : decode cMo_cell 80 = .ok (.bipush 8, 2) := by decide +kernel
theorem dMo_cell_82 : decode cMo_cell 82 = .ok (.iload_n 1, 1) := by decide +kernel
theorem dMo_cell_83 : decode cMo_cell 83 = .ok (.imul, 1) := by decide +kernel
theorem dMo_cell_84 : decode cMo_cell 84 = .ok (.iload_n 3, 1) := by decide +kernel
theorem dMo_cell_85 : decode cMo_cell 85 = .ok (.iadd, 1) := by decide +kernel
theorem dMo_cell_86 : decode cMo_cell 86 = .ok (.iaload, 1) := by decide +kernel
theorem dMo_cell_87 : decode cMo_cell 87 = .ok (.ireturn, 1) := by decide +kernel
theorem dMo_point_0 : decode cMo_point 0 = .ok (.iload_n 1, 1) := by decide +kernel
theorem dMo_point_1 : decode cMo_point 1 = .ok (.iconst 1, 1) := by decide +kernel
theorem dMo_point_2 : decode cMo_point 2 = .ok (.bipush 6, 2) := by decide +kernel
theorem dMo_point_4 : decode cMo_point 4 = .ok (.invokestatic 117, 3) := by decide +kernel
theorem dMo_point_7 : decode cMo_point 7 = .ok (.ifCond .eq 40, 3) := by decide +kernel
theorem dMo_point_10 : decode cMo_point 10 = .ok (.aload_n 0, 1) := by decide +kernel
theorem dMo_point_11 : decode cMo_point 11 = .ok (.getfield 7, 3) := by decide +kernel
theorem dMo_point_14 : decode cMo_point 14 = .ok (.iload_n 1, 1) := by decide +kernel
theorem dMo_point_15 : decode cMo_point 15 = .ok (.baload, 1) := by decide +kernel
theorem dMo_point_16 : decode cMo_point 16 = .ok (.ifCond .eq 31, 3) := by decide +kernel
theorem dMo_point_19 : decode cMo_point 19 = .ok (.iload_n 2, 1) := by decide +kernel
theorem dMo_point_20 : decode cMo_point 20 = .ok (.iconst 3, 1) := by decide +kernel
theorem dMo_point_21 : decode cMo_point 21 = .ok (.if_icmp .eq 8, 3) := by decide +kernel
theorem dMo_point_24 : decode cMo_point 24 = .ok (.iload_n 2, 1) := by decide +kernel
theorem dMo_point_25 : decode cMo_point 25 = .ok (.iconst 4, 1) := by decide +kernel
theorem dMo_point_26 : decode cMo_point 26 = .ok (.if_icmp .ne 21, 3) := by decide +kernel
theorem dMo_point_29 : decode cMo_point 29 = .ok (.iload_n 3, 1) := by decide +kernel
theorem dMo_point_30 : decode cMo_point 30 = .ok (.iconst 0, 1) := by decide +kernel
theorem dMo_point_31 : decode cMo_point 31 = .ok (.bipush 7, 2) := by decide +kernel
theorem dMo_point_33 : decode cMo_point 33 = .ok (.invokestatic 117, 3) := by decide +kernel
theorem dMo_point_36 : decode cMo_point 36 = .ok (.ifCond .eq 11, 3) := by decide +kernel
theorem dMo_point_39 : decode cMo_point 39 = .ok (.aload_n 0, 1) := by decide +kernel
theorem dMo_point_40 : decode cMo_point 40 = .ok (.getfield 125, 3) := by decide +kernel
theorem dMo_point_43 : decode cMo_point 43 = .ok (.iconst 4, 1) := by decide +kernel
theorem dMo_point_44 : decode cMo_point 44 = .ok (.if_icmp .ne 5, 3) := by decide +kernel
theorem dMo_point_47 : decode cMo_point 47 = .ok (.iconst (-1), 1) := by decide +kernel
theorem dMo_point_48 : decode cMo_point 48 = .ok (.ireturn, 1) := by decide +kernel
theorem dMo_point_49 : decode cMo_point 49 = .ok (.aload_n 0, 1) := by decide +kernel
theorem dMo_point_50 : decode cMo_point 50 = .ok (.getfield 63, 3) := by decide +kernel
theorem dMo_point_53 : decode cMo_point 53 = .ok (.aload_n 0, 1) := by decide +kernel
theorem dMo_point_54 : decode cMo_point 54 = .ok (.getfield 125, 3) := by decide +kernel
theorem dMo_point_57 : decode cMo_point 57 = .ok (.iload_n 1, 1) := by decide +kernel
theorem dMo_point_58 : decode cMo_point 58 = .ok (.iastore, 1) := by decide +kernel
theorem dMo_point_59 : decode cMo_point 59 = .ok (.aload_n 0, 1) := by decide +kernel
theorem dMo_point_60 : decode cMo_point 60 = .ok (.getfield 66, 3) := by decide +kernel
theorem dMo_point_63 : decode cMo_point 63 = .ok (.aload_n 0, 1) := by decide +kernel
theorem dMo_point_64 : decode cMo_point 64 = .ok (.getfield 125, 3) := by decide +kernel
theorem dMo_point_67 : decode cMo_point 67 = .ok (.iload_n 2, 1) := by decide +kernel
theorem dMo_point_68 : decode cMo_point 68 = .ok (.iastore, 1) := by decide +kernel
theorem dMo_point_69 : decode cMo_point 69 = .ok (.aload_n 0, 1) := by decide +kernel
theorem dMo_point_70 : decode cMo_point 70 = .ok (.getfield 69, 3) := by decide +kernel
theorem dMo_point_73 : decode cMo_point 73 = .ok (.aload_n 0, 1) := by decide +kernel
theorem dMo_point_74 : decode cMo_point 74 = .ok (.getfield 125, 3) := by decide +kernel
theorem dMo_point_77 : decode cMo_point 77 = .ok (.iload_n 3, 1) := by decide +kernel
theorem dMo_point_78 : decode cMo_point 78 = .ok (.iastore, 1) := by decide +kernel
theorem dMo_point_79 : decode cMo_point 79 = .ok (.aload_n 0, 1) := by decide +kernel
theorem dMo_point_80 : decode cMo_point 80 = .ok (.dup, 1) := by decide +kernel
theorem dMo_point_81 : decode cMo_point 81 = .ok (.getfield 125, 3) := by decide +kernel
theorem dMo_point_84 : decode cMo_point 84 = .ok (.iconst 1, 1) := by decide +kernel
theorem dMo_point_85 : decode cMo_point 85 = .ok (.iadd, 1) := by decide +kernel
theorem dMo_point_86 : decode cMo_point 86 = .ok (.putfield 125, 3) := by decide +kernel
theorem dMo_point_89 : decode cMo_point 89 = .ok (.aload_n 0, 1) := by decide +kernel
theorem dMo_point_90 : decode cMo_point 90 = .ok (.getfield 125, 3) := by decide +kernel
theorem dMo_point_93 : decode cMo_point 93 = .ok (.iconst 1, 1) := by decide +kernel
theorem dMo_point_94 : decode cMo_point 94 = .ok (.isub, 1) := by decide +kernel
theorem dMo_point_95 : decode cMo_point 95 = .ok (.ireturn, 1) := by decide +kernel
theorem dMo_put_0 : decode cMo_put 0 = .ok (.aload_n 0, 1) := by decide +kernel
theorem dMo_put_1 : decode cMo_put 1 = .ok (.getfield 81, 3) := by decide +kernel
theorem dMo_put_4 : decode cMo_put 4 = .ok (.iconst 4, 1) := by decide +kernel
theorem dMo_put_5 : decode cMo_put 5 = .ok (.iload_n 1, 1) := by decide +kernel
theorem dMo_put_6 : decode cMo_put 6 = .ok (.imul, 1) := by decide +kernel
theorem dMo_put_7 : decode cMo_put 7 = .ok (.aload_n 0, 1) := by decide +kernel
theorem dMo_put_8 : decode cMo_put 8 = .ok (.getfield 84, 3) := by decide +kernel
theorem dMo_put_11 : decode cMo_put 11 = .ok (.iload_n 1, 1) := by decide +kernel
theorem dMo_put_12 : decode cMo_put 12 = .ok (.iaload, 1) := by decide +kernel
theorem dMo_put_13 : decode cMo_put 13 = .ok (.iadd, 1) := by decide +kernel
theorem dMo_put_14 : decode cMo_put 14 = .ok (.iload_n 2, 1) := by decide +kernel
theorem dMo_put_15 : decode cMo_put 15 = .ok (.iastore, 1) := by decide +kernel
theorem dMo_put_16 : decode cMo_put 16 = .ok (.aload_n 0, 1) := by decide +kernel
theorem dMo_put_17 : decode cMo_put 17 = .ok (.getfield 84, 3) := by decide +kernel
theorem dMo_put_20 : decode cMo_put 20 = .ok (.iload_n 1, 1) := by decide +kernel
theorem dMo_put_21 : decode cMo_put 21 = .ok (.dup2, 1) := by decide +kernel
theorem dMo_put_22 : decode cMo_put 22 = .ok (.iaload, 1) := by decide +kernel
theorem dMo_put_23 : decode cMo_put 23 = .ok (.iconst 1, 1) := by decide +kernel
theorem dMo_put_24 : decode cMo_put 24 = .ok (.iadd, 1) := by decide +kernel
theorem dMo_put_25 : decode cMo_put 25 = .ok (.iastore, 1) := by decide +kernel
theorem dMo_put_26 : decode cMo_put 26 = .ok (.return_, 1) := by decide +kernel
theorem dMo_request_0 : decode cMo_request 0 = .ok (.iload_n 1, 1) := by decide +kernel
theorem dMo_request_1 : decode cMo_request 1 = .ok (.iconst 0, 1) := by decide +kernel
theorem dMo_request_2 : decode cMo_request 2 = .ok (.sipush 247, 3) := by decide +kernel
theorem dMo_request_5 : decode cMo_request 5 = .ok (.invokestatic 117, 3) := by decide +kernel
theorem dMo_request_8 : decode cMo_request 8 = .ok (.ifCond .eq 43, 3) := by decide +kernel
theorem dMo_request_11 : decode cMo_request 11 = .ok (.iload_n 2, 1) := by decide +kernel
theorem dMo_request_12 : decode cMo_request 12 = .ok (.iconst 1, 1) := by decide +kernel
theorem dMo_request_13 : decode cMo_request 13 = .ok (.bipush 127, 2) := by decide +kernel
theorem dMo_request_15 : decode cMo_request 15 = .ok (.invokestatic 117, 3) := by decide +kernel
theorem dMo_request_18 : decode cMo_request 18 = .ok (.ifCond .eq 33, 3) := by decide +kernel
theorem dMo_request_21 : decode cMo_request 21 = .ok (.iload_n 3, 1) := by decide +kernel
theorem dMo_request_22 : decode cMo_request 22 = .ok (.iconst 0, 1) := by decide +kernel
theorem dMo_request_23 : decode cMo_request 23 = .ok (.ldc 124, 2) := by decide +kernel
theorem dMo_request_25 : decode cMo_request 25 = .ok (.invokestatic 117, 3) := by decide +kernel
theorem dMo_request_28 : decode cMo_request 28 = .ok (.ifCond .eq 23, 3) := by decide +kernel
theorem dMo_request_31 : decode cMo_request 31 = .ok (.iload 4, 2) := by decide +kernel
theorem dMo_request_33 : decode cMo_request 33 = .ok (.iconst 0, 1) := by decide +kernel
theorem dMo_request_34 : decode cMo_request 34 = .ok (.bipush 16, 2) := by decide +kernel
theorem dMo_request_36 : decode cMo_request 36 = .ok (.invokestatic 117, 3) := by decide +kernel
theorem dMo_request_39 : decode cMo_request 39 = .ok (.ifCond .eq 12, 3) := by decide +kernel
theorem dMo_request_42 : decode cMo_request 42 = .ok (.aload_n 0, 1) := by decide +kernel
theorem dMo_request_43 : decode cMo_request 43 = .ok (.getfield 129, 3) := by decide +kernel
theorem dMo_request_46 : decode cMo_request 46 = .ok (.bipush 64, 2) := by decide +kernel
theorem dMo_request_48 : decode cMo_request 48 = .ok (.if_icmp .ne 5, 3) := by decide +kernel
theorem dMo_request_51 : decode cMo_request 51 = .ok (.iconst (-1), 1) := by decide +kernel
theorem dMo_request_52 : decode cMo_request 52 = .ok (.ireturn, 1) := by decide +kernel
theorem dMo_request_53 : decode cMo_request 53 = .ok (.aload_n 0, 1) := by decide +kernel
theorem dMo_request_54 : decode cMo_request 54 = .ok (.getfield 129, 3) := by decide +kernel
theorem dMo_request_57 : decode cMo_request 57 = .ok (.istore 7, 2) := by decide +kernel
theorem dMo_request_59 : decode cMo_request 59 = .ok (.aload_n 0, 1) := by decide +kernel
theorem dMo_request_60 : decode cMo_request 60 = .ok (.dup, 1) := by decide +kernel
theorem dMo_request_61 : decode cMo_request 61 = .ok (.getfield 129, 3) := by decide +kernel
theorem dMo_request_64 : decode cMo_request 64 = .ok (.iconst 1, 1) := by decide +kernel
theorem dMo_request_65 : decode cMo_request 65 = .ok (.iadd, 1) := by decide +kernel
theorem dMo_request_66 : decode cMo_request 66 = .ok (.putfield 129, 3) := by decide +kernel
theorem dMo_request_69 : decode cMo_request 69 = .ok (.aload_n 0, 1) := by decide +kernel
theorem dMo_request_70 : decode cMo_request 70 = .ok (.getfield 38, 3) := by decide +kernel
theorem dMo_request_73 : decode cMo_request 73 = .ok (.iload 7, 2) := by decide +kernel
theorem dMo_request_75 : decode cMo_request 75 = .ok (.iload_n 1, 1) := by decide +kernel
theorem dMo_request_76 : decode cMo_request 76 = .ok (.iastore, 1) := by decide +kernel
theorem dMo_request_77 : decode cMo_request 77 = .ok (.aload_n 0, 1) := by decide +kernel
theorem dMo_request_78 : decode cMo_request 78 = .ok (.getfield 41, 3) := by decide +kernel
theorem dMo_request_81 : decode cMo_request 81 = .ok (.iload 7, 2) := by decide +kernel
theorem dMo_request_83 : decode cMo_request 83 = .ok (.iload_n 2, 1) := by decide +kernel
theorem dMo_request_84 : decode cMo_request 84 = .ok (.iastore, 1) := by decide +kernel
theorem dMo_request_85 : decode cMo_request 85 = .ok (.aload_n 0, 1) := by decide +kernel
theorem dMo_request_86 : decode cMo_request 86 = .ok (.getfield 44, 3) := by decide +kernel
theorem dMo_request_89 : decode cMo_request 89 = .ok (.iload 7, 2) := by decide +kernel
theorem dMo_request_91 : decode cMo_request 91 = .ok (.iload_n 3, 1) := by decide +kernel
theorem dMo_request_92 : decode cMo_request 92 = .ok (.iastore, 1) := by decide +kernel
theorem dMo_request_93 : decode cMo_request 93 = .ok (.aload_n 0, 1) := by decide +kernel
theorem dMo_request_94 : decode cMo_request 94 = .ok (.getfield 47, 3) := by decide +kernel
theorem dMo_request_97 : decode cMo_request 97 = .ok (.iload 7, 2) := by decide +kernel
theorem dMo_request_99 : decode cMo_request 99 = .ok (.iload 4, 2) := by decide +kernel
theorem dMo_request_101 : decode cMo_request 101 = .ok (.iastore, 1) := by decide +kernel
theorem dMo_request_102 : decode cMo_request 102 = .ok (.aload_n 0, 1) := by decide +kernel
theorem dMo_request_103 : decode cMo_request 103 = .ok (.getfield 50, 3) := by decide +kernel
theorem dMo_request_106 : decode cMo_request 106 = .ok (.iload 7, 2) := by decide +kernel
theorem dMo_request_108 : decode cMo_request 108 = .ok (.lload 5, 2) := by decide +kernel
theorem dMo_request_110 : decode cMo_request 110 = .ok (.lastore, 1) := by decide +kernel
theorem dMo_request_111 : decode cMo_request 111 = .ok (.iload_n 1, 1) := by decide +kernel
theorem dMo_request_112 : decode cMo_request 112 = .ok (.ifCond .ne 48, 3) := by decide +kernel
theorem dMo_request_115 : decode cMo_request 115 = .ok (.aload_n 0, 1) := by decide +kernel
theorem dMo_request_116 : decode cMo_request 116 = .ok (.getfield 54, 3) := by decide +kernel
theorem dMo_request_119 : decode cMo_request 119 = .ok (.iload 7, 2) := by decide +kernel
theorem dMo_request_121 : decode cMo_request 121 = .ok (.iconst 3, 1) := by decide +kernel
theorem dMo_request_122 : decode cMo_request 122 = .ok (.iastore, 1) := by decide +kernel
theorem dMo_request_123 : decode cMo_request 123 = .ok (.iconst 0, 1) := by decide +kernel
theorem dMo_request_124 : decode cMo_request 124 = .ok (.istore 8, 2) := by decide +kernel
theorem dMo_request_126 : decode cMo_request 126 = .ok (.iload 8, 2) := by decide +kernel
theorem dMo_request_128 : decode cMo_request 128 = .ok (.iconst 2, 1) := by decide +kernel
theorem dMo_request_129 : decode cMo_request 129 = .ok (.if_icmp .ge 28, 3) := by decide +kernel
theorem dMo_request_132 : decode cMo_request 132 = .ok (.aload_n 0, 1) := by decide +kernel
theorem dMo_request_133 : decode cMo_request 133 = .ok (.getfield 84, 3) := by decide +kernel
theorem dMo_request_136 : decode cMo_request 136 = .ok (.iload 8, 2) := by decide +kernel
theorem dMo_request_138 : decode cMo_request 138 = .ok (.iaload, 1) := by decide +kernel
theorem dMo_request_139 : decode cMo_request 139 = .ok (.iconst 4, 1) := by decide +kernel
theorem dMo_request_140 : decode cMo_request 140 = .ok (.if_icmp .ge 11, 3) := by decide +kernel
theorem dMo_request_143 : decode cMo_request 143 = .ok (.aload_n 0, 1) := by decide +kernel
theorem dMo_request_144 : decode cMo_request 144 = .ok (.iload 8, 2) := by decide +kernel
theorem dMo_request_146 : decode cMo_request 146 = .ok (.iload 7, 2) := by decide +kernel
theorem dMo_request_148 : decode cMo_request 148 = .ok (.invokevirtual 132, 3) := by decide +kernel
theorem dMo_request_151 : decode cMo_request 151 = .ok (.iinc 8 1, 3) := by decide +kernel
theorem dMo_request_154 : decode cMo_request 154 = .ok (.goto (-28), 3) := by decide +kernel
theorem dMo_request_157 : decode cMo_request 157 = .ok (.goto 65, 3) := by decide +kernel
theorem dMo_request_160 : decode cMo_request 160 = .ok (.iload_n 1, 1) := by decide +kernel
theorem dMo_request_161 : decode cMo_request 161 = .ok (.bipush 6, 2) := by decide +kernel
theorem dMo_request_163 : decode cMo_request 163 = .ok (.if_icmp .gt 27, 3) := by decide +kernel
theorem dMo_request_166 : decode cMo_request 166 = .ok (.aload_n 0, 1) := by decide +kernel
theorem dMo_request_167 : decode cMo_request 167 = .ok (.getfield 7, 3) := by decide +kernel
theorem dMo_request_170 : decode cMo_request 170 = .ok (.iload_n 1, 1) := by decide +kernel
theorem dMo_request_171 : decode cMo_request 171 = .ok (.baload, 1) := by decide +kernel
theorem dMo_request_172 : decode cMo_request 172 = .ok (.ifCond .eq 18, 3) := by decide +kernel
theorem dMo_request_175 : decode cMo_request 175 = .ok (.aload_n 0, 1) := by decide +kernel
theorem dMo_request_176 : decode cMo_request 176 = .ok (.getfield 84, 3) := by decide +kernel
theorem dMo_request_179 : decode cMo_request 179 = .ok (.aload_n 0, 1) := by decide +kernel
theorem dMo_request_180 : decode cMo_request 180 = .ok (.getfield 13, 3) := by decide +kernel
theorem dMo_request_183 : decode cMo_request 183 = .ok (.iload_n 1, 1) := by decide +kernel
theorem dMo_request_184 : decode cMo_request 184 = .ok (.iaload, 1) := by decide +kernel
theorem dMo_request_185 : decode cMo_request 185 = .ok (.iaload, 1) := by decide +kernel
theorem dMo_request_186 : decode cMo_request 186 = .ok (.iconst 4, 1) := by decide +kernel
theorem dMo_request_187 : decode cMo_request 187 = .ok (.if_icmp .ne 23, 3) := by decide +kernel
theorem dMo_request_190 : decode cMo_request 190 = .ok (.aload_n 0, 1) := by decide +kernel
theorem dMo_request_191 : decode cMo_request 191 = .ok (.getfield 54, 3) := by decide +kernel
theorem dMo_request_194 : decode cMo_request 194 = .ok (.iload 7, 2) := by decide +kernel
theorem dMo_request_196 : decode cMo_request 196 = .ok (.iconst 2, 1) := by decide +kernel
theorem dMo_request_197 : decode cMo_request 197 = .ok (.iastore, 1) := by decide +kernel
theorem dMo_request_198 : decode cMo_request 198 = .ok (.aload_n 0, 1) := by decide +kernel
theorem dMo_request_199 : decode cMo_request 199 = .ok (.getfield 57, 3) := by decide +kernel
theorem dMo_request_202 : decode cMo_request 202 = .ok (.iload 7, 2) := by decide +kernel
theorem dMo_request_204 : decode cMo_request 204 = .ok (.bipush 10, 2) := by decide +kernel
theorem dMo_request_206 : decode cMo_request 206 = .ok (.iastore, 1) := by decide +kernel
theorem dMo_request_207 : decode cMo_request 207 = .ok (.goto 15, 3) := by decide +kernel
theorem dMo_request_210 : decode cMo_request 210 = .ok (.aload_n 0, 1) := by decide +kernel
theorem dMo_request_211 : decode cMo_request 211 = .ok (.aload_n 0, 1) := by decide +kernel
theorem dMo_request_212 : decode cMo_request 212 = .ok (.getfield 13, 3) := by decide +kernel
theorem dMo_request_215 : decode cMo_request 215 = .ok (.iload_n 1, 1) := by decide +kernel
theorem dMo_request_216 : decode cMo_request 216 = .ok (.iaload, 1) := by decide +kernel
theorem dMo_request_217 : decode cMo_request 217 = .ok (.iload 7, 2) := by decide +kernel
theorem dMo_request_219 : decode cMo_request 219 = .ok (.invokevirtual 132, 3) := by decide +kernel
theorem dMo_request_222 : decode cMo_request 222 = .ok (.iload 7, 2) := by decide +kernel
theorem dMo_request_224 : decode cMo_request 224 = .ok (.ireturn, 1) := by decide +kernel
theorem dMo_fault_0 : decode cMo_fault 0 = .ok (.iload_n 1, 1) := by decide +kernel
theorem dMo_fault_1 : decode cMo_fault 1 = .ok (.iconst 0, 1) := by decide +kernel
theorem dMo_fault_2 : decode cMo_fault 2 = .ok (.iconst 1, 1) := by decide +kernel
theorem dMo_fault_3 : decode cMo_fault 3 = .ok (.invokestatic 117, 3) := by decide +kernel
theorem dMo_fault_6 : decode cMo_fault 6 = .ok (.ifCond .eq 39, 3) := by decide +kernel
theorem dMo_fault_9 : decode cMo_fault 9 = .ok (.iload_n 3, 1) := by decide +kernel
theorem dMo_fault_10 : decode cMo_fault 10 = .ok (.iconst 0, 1) := by decide +kernel
theorem dMo_fault_11 : decode cMo_fault 11 = .ok (.sipush 400, 3) := by decide +kernel
theorem dMo_fault_14 : decode cMo_fault 14 = .ok (.invokestatic 117, 3) := by decide +kernel
theorem dMo_fault_17 : decode cMo_fault 17 = .ok (.ifCond .eq 28, 3) := by decide +kernel
theorem dMo_fault_20 : decode cMo_fault 20 = .ok (.iload_n 2, 1) := by decide +kernel
theorem dMo_fault_21 : decode cMo_fault 21 = .ok (.ifCond .eq 15, 3) := by decide +kernel
theorem dMo_fault_24 : decode cMo_fault 24 = .ok (.aload_n 0, 1) := by decide +kernel
theorem dMo_fault_25 : decode cMo_fault 25 = .ok (.getfield 108, 3) := by decide +kernel
theorem dMo_fault_28 : decode cMo_fault 28 = .ok (.iload_n 1, 1) := by decide +kernel
theorem dMo_fault_29 : decode cMo_fault 29 = .ok (.baload, 1) := by decide +kernel
theorem dMo_fault_30 : decode cMo_fault 30 = .ok (.ifCond .eq 17, 3) := by decide +kernel
theorem dMo_fault_33 : decode cMo_fault 33 = .ok (.goto 12, 3) := by decide +kernel
theorem dMo_fault_36 : decode cMo_fault 36 = .ok (.aload_n 0, 1) := by decide +kernel
theorem dMo_fault_37 : decode cMo_fault 37 = .ok (.getfield 105, 3) := by decide +kernel
theorem dMo_fault_40 : decode cMo_fault 40 = .ok (.iload_n 1, 1) := by decide +kernel
theorem dMo_fault_41 : decode cMo_fault 41 = .ok (.baload, 1) := by decide +kernel
theorem dMo_fault_42 : decode cMo_fault 42 = .ok (.ifCond .eq 5, 3) := by decide +kernel
theorem dMo_fault_45 : decode cMo_fault 45 = .ok (.iconst 0, 1) := by decide +kernel
theorem dMo_fault_46 : decode cMo_fault 46 = .ok (.ireturn, 1) := by decide +kernel
theorem dMo_fault_47 : decode cMo_fault 47 = .ok (.iload_n 2, 1) := by decide +kernel
theorem dMo_fault_48 : decode cMo_fault 48 = .ok (.ifCond .eq 13, 3) := by decide +kernel
theorem dMo_fault_51 : decode cMo_fault 51 = .ok (.aload_n 0, 1) := by decide +kernel
theorem dMo_fault_52 : decode cMo_fault 52 = .ok (.getfield 108, 3) := by decide +kernel
theorem dMo_fault_55 : decode cMo_fault 55 = .ok (.iload_n 1, 1) := by decide +kernel
theorem dMo_fault_56 : decode cMo_fault 56 = .ok (.iconst 1, 1) := by decide +kernel
theorem dMo_fault_57 : decode cMo_fault 57 = .ok (.bastore, 1) := by decide +kernel
theorem dMo_fault_58 : decode cMo_fault 58 = .ok (.goto 10, 3) := by decide +kernel
theorem dMo_fault_61 : decode cMo_fault 61 = .ok (.aload_n 0, 1) := by decide +kernel
theorem dMo_fault_62 : decode cMo_fault 62 = .ok (.getfield 105, 3) := by decide +kernel
theorem dMo_fault_65 : decode cMo_fault 65 = .ok (.iload_n 1, 1) := by decide +kernel
theorem dMo_fault_66 : decode cMo_fault 66 = .ok (.iconst 1, 1) := by decide +kernel
theorem dMo_fault_67 : decode cMo_fault 67 = .ok (.bastore, 1) := by decide +kernel
theorem dMo_fault_68 : decode cMo_fault 68 = .ok (.iconst 1, 1) := by decide +kernel
theorem dMo_fault_69 : decode cMo_fault 69 = .ok (.ireturn, 1) := by decide +kernel
theorem dMo_add_0 : decode cMo_add 0 = .ok (.aload_n 0, 1) := by decide +kernel
theorem dMo_add_1 : decode cMo_add 1 = .ok (.getfield 111, 3) := by decide +kernel
theorem dMo_add_4 : decode cMo_add 4 = .ok (.bipush 48, 2) := by decide +kernel
theorem dMo_add_6 : decode cMo_add 6 = .ok (.iload_n 1, 1) := by decide +kernel
theorem dMo_add_7 : decode cMo_add 7 = .ok (.imul, 1) := by decide +kernel
theorem dMo_add_8 : decode cMo_add 8 = .ok (.aload_n 0, 1) := by decide +kernel
theorem dMo_add_9 : decode cMo_add 9 = .ok (.getfield 114, 3) := by decide +kernel
theorem dMo_add_12 : decode cMo_add 12 = .ok (.iload_n 1, 1) := by decide +kernel
theorem dMo_add_13 : decode cMo_add 13 = .ok (.iaload, 1) := by decide +kernel
theorem dMo_add_14 : decode cMo_add 14 = .ok (.iadd, 1) := by decide +kernel
theorem dMo_add_15 : decode cMo_add 15 = .ok (.iload_n 2, 1) := by decide +kernel
theorem dMo_add_16 : decode cMo_add 16 = .ok (.iastore, 1) := by decide +kernel
theorem dMo_add_17 : decode cMo_add 17 = .ok (.aload_n 0, 1) := by decide +kernel
theorem dMo_add_18 : decode cMo_add 18 = .ok (.getfield 114, 3) := by decide +kernel
theorem dMo_add_21 : decode cMo_add 21 = .ok (.iload_n 1, 1) := by decide +kernel
theorem dMo_add_22 : decode cMo_add 22 = .ok (.dup2, 1) := by decide +kernel
theorem dMo_add_23 : decode cMo_add 23 = .ok (.iaload, 1) := by decide +kernel
theorem dMo_add_24 : decode cMo_add 24 = .ok (.iconst 1, 1) := by decide +kernel
theorem dMo_add_25 : decode cMo_add 25 = .ok (.iadd, 1) := by decide +kernel
theorem dMo_add_26 : decode cMo_add 26 = .ok (.iastore, 1) := by decide +kernel
theorem dMo_add_27 : decode cMo_add 27 = .ok (.return_, 1) := by decide +kernel
theorem dMo_begin_0 : decode cMo_begin 0 = .ok (.aload_n 0, 1) := by decide +kernel
theorem dMo_begin_1 : decode cMo_begin 1 = .ok (.getfield 114, 3) := by decide +kernel
theorem dMo_begin_4 : decode cMo_begin 4 = .ok (.iload_n 1, 1) := by decide +kernel
theorem dMo_begin_5 : decode cMo_begin 5 = .ok (.iconst 0, 1) := by decide +kernel
theorem dMo_begin_6 : decode cMo_begin 6 = .ok (.iastore, 1) := by decide +kernel
theorem dMo_begin_7 : decode cMo_begin 7 = .ok (.aload_n 0, 1) := by decide +kernel
theorem dMo_begin_8 : decode cMo_begin 8 = .ok (.iload_n 1, 1) := by decide +kernel
theorem dMo_begin_9 : decode cMo_begin 9 = .ok (.iload_n 2, 1) := by decide +kernel
theorem dMo_begin_10 : decode cMo_begin 10 = .ok (.invokevirtual 136, 3) := by decide +kernel
theorem dMo_begin_13 : decode cMo_begin 13 = .ok (.aload_n 0, 1) := by decide +kernel
theorem dMo_begin_14 : decode cMo_begin 14 = .ok (.iload_n 1, 1) := by decide +kernel
theorem dMo_begin_15 : decode cMo_begin 15 = .ok (.iload_n 3, 1) := by decide +kernel
theorem dMo_begin_16 : decode cMo_begin 16 = .ok (.invokevirtual 136, 3) := by decide +kernel
theorem dMo_begin_19 : decode cMo_begin 19 = .ok (.return_, 1) := by decide +kernel
theorem dMo_addWord_0 : decode cMo_addWord 0 = .ok (.aload_n 0, 1) := by decide +kernel
theorem dMo_addWord_1 : decode cMo_addWord 1 = .ok (.iload_n 1, 1) := by decide +kernel
theorem dMo_addWord_2 : decode cMo_addWord 2 = .ok (.iload_n 2, 1) := by decide +kernel
theorem dMo_addWord_3 : decode cMo_addWord 3 = .ok (.bipush 8, 2) := by decide +kernel
theorem dMo_addWord_5 : decode cMo_addWord 5 = .ok (.ishr, 1) := by decide +kernel
theorem dMo_addWord_6 : decode cMo_addWord 6 = .ok (.invokevirtual 136, 3) := by decide +kernel
theorem dMo_addWord_9 : decode cMo_addWord 9 = .ok (.aload_n 0, 1) := by decide +kernel
theorem dMo_addWord_10 : decode cMo_addWord 10 = .ok (.iload_n 1, 1) := by decide +kernel
theorem dMo_addWord_11 : decode cMo_addWord 11 = .ok (.iload_n 2, 1) := by decide +kernel
theorem dMo_addWord_12 : decode cMo_addWord 12 = .ok (.sipush 255, 3) := by decide +kernel
theorem dMo_addWord_15 : decode cMo_addWord 15 = .ok (.iand, 1) := by decide +kernel
theorem dMo_addWord_16 : decode cMo_addWord 16 = .ok (.invokevirtual 136, 3) := by decide +kernel
theorem dMo_addWord_19 : decode cMo_addWord 19 = .ok (.return_, 1) := by decide +kernel
theorem dMo_addSum_0 : decode cMo_addSum 0 = .ok (.ldc 124, 2) := by decide +kernel
theorem dMo_addSum_2 : decode cMo_addSum 2 = .ok (.istore_n 2, 1) := by decide +kernel
theorem dMo_addSum_3 : decode cMo_addSum 3 = .ok (.iconst 0, 1) := by decide +kernel
theorem dMo_addSum_4 : decode cMo_addSum 4 = .ok (.istore_n 3, 1) := by decide +kernel
theorem dMo_addSum_5 : decode cMo_addSum 5 = .ok (.iload_n 3, 1) := by decide +kernel
theorem dMo_addSum_6 : decode cMo_addSum 6 = .ok (.aload_n 0, 1) := by decide +kernel
theorem dMo_addSum_7 : decode cMo_addSum 7 = .ok (.getfield 114, 3) := by decide +kernel
theorem dMo_addSum_10 : decode cMo_addSum 10 = .ok (.iload_n 1, 1) := by decide +kernel
theorem dMo_addSum_11 : decode cMo_addSum 11 = .ok (.iaload, 1) := by decide +kernel
theorem dMo_addSum_12 : decode cMo_addSum 12 = .ok (.if_icmp .ge 59, 3) := by decide +kernel
theorem dMo_addSum_15 : decode cMo_addSum 15 = .ok (.iload_n 2, 1) := by decide +kernel
theorem dMo_addSum_16 : decode cMo_addSum 16 = .ok (.aload_n 0, 1) := by decide +kernel
theorem dMo_addSum_17 : decode cMo_addSum 17 = .ok (.getfield 111, 3) := by decide +kernel
theorem dMo_addSum_20 : decode cMo_addSum 20 = .ok (.bipush 48, 2) := by decide +kernel
theorem dMo_addSum_22 : decode cMo_addSum 22 = .ok (.iload_n 1, 1) := by decide +kernel
theorem dMo_addSum_23 : decode cMo_addSum 23 = .ok (.imul, 1) := by decide +kernel
theorem dMo_addSum_24 : decode cMo_addSum 24 = .ok (.iload_n 3, 1) := by decide +kernel
theorem dMo_addSum_25 : decode cMo_addSum 25 = .ok (.iadd, 1) := by decide +kernel
theorem dMo_addSum_26 : decode cMo_addSum 26 = .ok (.iaload, 1) := by decide +kernel
theorem dMo_addSum_27 : decode cMo_addSum 27 = .ok (.ixor, 1) := by decide +kernel
theorem dMo_addSum_28 : decode cMo_addSum 28 = .ok (.istore_n 2, 1) := by decide +kernel
theorem dMo_addSum_29 : decode cMo_addSum 29 = .ok (.iconst 0, 1) := by decide +kernel
theorem dMo_addSum_30 : decode cMo_addSum 30 = .ok (.istore 4, 2) := by decide +kernel
theorem dMo_addSum_32 : decode cMo_addSum 32 = .ok (.iload 4, 2) := by decide +kernel
theorem dMo_addSum_34 : decode cMo_addSum 34 = .ok (.bipush 8, 2) := by decide +kernel
theorem dMo_addSum_36 : decode cMo_addSum 36 = .ok (.if_icmp .ge 29, 3) := by decide +kernel
theorem dMo_addSum_39 : decode cMo_addSum 39 = .ok (.iload_n 2, 1) := by decide +kernel
theorem dMo_addSum_40 : decode cMo_addSum 40 = .ok (.iconst 1, 1) := by decide +kernel
theorem dMo_addSum_41 : decode cMo_addSum 41 = .ok (.iand, 1) := by decide +kernel
theorem dMo_addSum_42 : decode cMo_addSum 42 = .ok (.iconst 1, 1) := by decide +kernel
theorem dMo_addSum_43 : decode cMo_addSum 43 = .ok (.if_icmp .ne 12, 3) := by decide +kernel
theorem dMo_addSum_46 : decode cMo_addSum 46 = .ok (.iload_n 2, 1) := by decide +kernel
theorem dMo_addSum_47 : decode cMo_addSum 47 = .ok (.iconst 1, 1) := by decide +kernel
theorem dMo_addSum_48 : decode cMo_addSum 48 = .ok (.ishr, 1) := by decide +kernel
theorem dMo_addSum_49 : decode cMo_addSum 49 = .ok (.ldc 139, 2) := by decide +kernel
theorem dMo_addSum_51 : decode cMo_addSum 51 = .ok (.ixor, 1) := by decide +kernel
theorem dMo_addSum_52 : decode cMo_addSum 52 = .ok (.goto 6, 3) := by decide +kernel
theorem dMo_addSum_55 : decode cMo_addSum 55 = .ok (.iload_n 2, 1) := by decide +kernel
theorem dMo_addSum_56 : decode cMo_addSum 56 = .ok (.iconst 1, 1) := by decide +kernel
theorem dMo_addSum_57 : decode cMo_addSum 57 = .ok (.ishr, 1) := by decide +kernel
theorem dMo_addSum_58 : decode cMo_addSum 58 = .ok (.istore_n 2, 1) := by decide +kernel
theorem dMo_addSum_59 : decode cMo_addSum 59 = .ok (.iinc 4 1, 3) := by decide +kernel
theorem dMo_addSum_62 : decode cMo_addSum 62 = .ok (.goto (-30), 3) := by decide +kernel
theorem dMo_addSum_65 : decode cMo_addSum 65 = .ok (.iinc 3 1, 3) := by decide +kernel
theorem dMo_addSum_68 : decode cMo_addSum 68 = .ok (.goto (-63), 3) := by decide +kernel
theorem dMo_addSum_71 : decode cMo_addSum 71 = .ok (.aload_n 0, 1) := by decide +kernel
theorem dMo_addSum_72 : decode cMo_addSum 72 = .ok (.iload_n 1, 1) := by decide +kernel
theorem dMo_addSum_73 : decode cMo_addSum 73 = .ok (.iload_n 2, 1) := by decide +kernel
theorem dMo_addSum_74 : decode cMo_addSum 74 = .ok (.sipush 255, 3) := by decide +kernel
theorem dMo_addSum_77 : decode cMo_addSum 77 = .ok (.iand, 1) := by decide +kernel
theorem dMo_addSum_78 : decode cMo_addSum 78 = .ok (.invokevirtual 136, 3) := by decide +kernel
theorem dMo_addSum_81 : decode cMo_addSum 81 = .ok (.aload_n 0, 1) := by decide +kernel
theorem dMo_addSum_82 : decode cMo_addSum 82 = .ok (.iload_n 1, 1) := by decide +kernel
theorem dMo_addSum_83 : decode cMo_addSum 83 = .ok (.iload_n 2, 1) := by decide +kernel
theorem dMo_addSum_84 : decode cMo_addSum 84 = .ok (.bipush 8, 2) := by decide +kernel
theorem dMo_addSum_86 : decode cMo_addSum 86 = .ok (.ishr, 1) := by decide +kernel
theorem dMo_addSum_87 : decode cMo_addSum 87 = .ok (.invokevirtual 136, 3) := by decide +kernel
theorem dMo_addSum_90 : decode cMo_addSum 90 = .ok (.return_, 1) := by decide +kernel
theorem dMo_word_0 : decode cMo_word 0 = .ok (.lload_n 0, 1) := by decide +kernel
theorem dMo_word_1 : decode cMo_word 1 = .ok (.bipush 16, 2) := by decide +kernel
theorem dMo_word_3 : decode cMo_word 3 = .ok (.iload_n 2, 1) := by decide +kernel
theorem dMo_word_4 : decode cMo_word 4 = .ok (.iconst 3, 1) := by decide +kernel
theorem dMo_word_5 : decode cMo_word 5 = .ok (.iand, 1) := by decide +kernel
theorem dMo_word_6 : decode cMo_word 6 = .ok (.imul, 1) := by decide +kernel
theorem dMo_word_7 : decode cMo_word 7 = .ok (.lushr, 1) := by decide +kernel
theorem dMo_word_8 : decode cMo_word 8 = .ok (.ldc2_w 140, 3) := by decide +kernel
theorem dMo_word_11 : decode cMo_word 11 = .ok (.land, 1) := by decide +kernel
theorem dMo_word_12 : decode cMo_word 12 = .ok (.l2i, 1) := by decide +kernel
theorem dMo_word_13 : decode cMo_word 13 = .ok (.ireturn, 1) := by decide +kernel
theorem dMo_addBits_0 : decode cMo_addBits 0 = .ok (.iload 4, 2) := by decide +kernel
theorem dMo_addBits_2 : decode cMo_addBits 2 = .ok (.bipush 7, 2) := by decide +kernel
theorem dMo_addBits_4 : decode cMo_addBits 4 = .ok (.iadd, 1) := by decide +kernel
theorem dMo_addBits_5 : decode cMo_addBits 5 = .ok (.bipush 8, 2) := by decide +kernel
theorem dMo_addBits_7 : decode cMo_addBits 7 = .ok (.idiv, 1) := by decide +kernel
theorem dMo_addBits_8 : decode cMo_addBits 8 = .ok (.istore 5, 2) := by decide +kernel
theorem dMo_addBits_10 : decode cMo_addBits 10 = .ok (.aload_n 0, 1) := by decide +kernel
theorem dMo_addBits_11 : decode cMo_addBits 11 = .ok (.iload_n 1, 1) := by decide +kernel
theorem dMo_addBits_12 : decode cMo_addBits 12 = .ok (.iload 5, 2) := by decide +kernel
theorem dMo_addBits_14 : decode cMo_addBits 14 = .ok (.invokevirtual 136, 3) := by decide +kernel
theorem dMo_addBits_17 : decode cMo_addBits 17 = .ok (.iconst 0, 1) := by decide +kernel
theorem dMo_addBits_18 : decode cMo_addBits 18 = .ok (.istore 6, 2) := by decide +kernel
theorem dMo_addBits_20 : decode cMo_addBits 20 = .ok (.iload 6, 2) := by decide +kernel
theorem dMo_addBits_22 : decode cMo_addBits 22 = .ok (.iload 5, 2) := by decide +kernel
theorem dMo_addBits_24 : decode cMo_addBits 24 = .ok (.if_icmp .ge 79, 3) := by decide +kernel
theorem dMo_addBits_27 : decode cMo_addBits 27 = .ok (.iconst 0, 1) := by decide +kernel
theorem dMo_addBits_28 : decode cMo_addBits 28 = .ok (.istore 7, 2) := by decide +kernel
theorem dMo_addBits_30 : decode cMo_addBits 30 = .ok (.iconst 0, 1) := by decide +kernel
theorem dMo_addBits_31 : decode cMo_addBits 31 = .ok (.istore 8, 2) := by decide +kernel
theorem dMo_addBits_33 : decode cMo_addBits 33 = .ok (.iload 8, 2) := by decide +kernel
theorem dMo_addBits_35 : decode cMo_addBits 35 = .ok (.bipush 8, 2) := by decide +kernel
theorem dMo_addBits_37 : decode cMo_addBits 37 = .ok (.if_icmp .ge 53, 3) := by decide +kernel
theorem dMo_addBits_40 : decode cMo_addBits 40 = .ok (.bipush 8, 2) := by decide +kernel
theorem dMo_addBits_42 : decode cMo_addBits 42 = .ok (.iload 6, 2) := by decide +kernel
theorem dMo_addBits_44 : decode cMo_addBits 44 = .ok (.imul, 1) := by decide +kernel
theorem dMo_addBits_45 : decode cMo_addBits 45 = .ok (.iload 8, 2) := by decide +kernel
theorem dMo_addBits_47 : decode cMo_addBits 47 = .ok (.iadd, 1) := by decide +kernel
theorem dMo_addBits_48 : decode cMo_addBits 48 = .ok (.iload 4, 2) := by decide +kernel
theorem dMo_addBits_50 : decode cMo_addBits 50 = .ok (.if_icmp .ge 40, 3) := by decide +kernel
theorem dMo_addBits_53 : decode cMo_addBits 53 = .ok (.lload_n 2, 1) := by decide +kernel
theorem dMo_addBits_54 : decode cMo_addBits 54 = .ok (.bipush 8, 2) := by decide +kernel
theorem dMo_addBits_56 : decode cMo_addBits 56 = .ok (.iload 6, 2) := by decide +kernel
theorem dMo_addBits_58 : decode cMo_addBits 58 = .ok (.imul, 1) := by decide +kernel
theorem dMo_addBits_59 : decode cMo_addBits 59 = .ok (.iload 8, 2) := by decide +kernel
theorem dMo_addBits_61 : decode cMo_addBits 61 = .ok (.iadd, 1) := by decide +kernel
theorem dMo_addBits_62 : decode cMo_addBits 62 = .ok (.lushr, 1) := by decide +kernel
theorem dMo_addBits_63 : decode cMo_addBits 63 = .ok (.lconst 1, 1) := by decide +kernel
theorem dMo_addBits_64 : decode cMo_addBits 64 = .ok (.land, 1) := by decide +kernel
theorem dMo_addBits_65 : decode cMo_addBits 65 = .ok (.lconst 1, 1) := by decide +kernel
theorem dMo_addBits_66 : decode cMo_addBits 66 = .ok (.lcmp, 1) := by decide +kernel
theorem dMo_addBits_67 : decode cMo_addBits 67 = .ok (.ifCond .ne 13, 3) := by decide +kernel
theorem dMo_addBits_70 : decode cMo_addBits 70 = .ok (.iload 7, 2) := by decide +kernel
theorem dMo_addBits_72 : decode cMo_addBits 72 = .ok (.iconst 1, 1) := by decide +kernel
theorem dMo_addBits_73 : decode cMo_addBits 73 = .ok (.iload 8, 2) := by decide +kernel
theorem dMo_addBits_75 : decode cMo_addBits 75 = .ok (.ishl, 1) := by decide +kernel
theorem dMo_addBits_76 : decode cMo_addBits 76 = .ok (.ior, 1) := by decide +kernel
theorem dMo_addBits_77 : decode cMo_addBits 77 = .ok (.goto 5, 3) := by decide +kernel
theorem dMo_addBits_80 : decode cMo_addBits 80 = .ok (.iload 7, 2) := by decide +kernel
theorem dMo_addBits_82 : decode cMo_addBits 82 = .ok (.istore 7, 2) := by decide +kernel
theorem dMo_addBits_84 : decode cMo_addBits 84 = .ok (.iinc 8 1, 3) := by decide +kernel
theorem dMo_addBits_87 : decode cMo_addBits 87 = .ok (.goto (-54), 3) := by decide +kernel
theorem dMo_addBits_90 : decode cMo_addBits 90 = .ok (.aload_n 0, 1) := by decide +kernel
theorem dMo_addBits_91 : decode cMo_addBits 91 = .ok (.iload_n 1, 1) := by decide +kernel
theorem dMo_addBits_92 : decode cMo_addBits 92 = .ok (.iload 7, 2) := by decide +kernel
theorem dMo_addBits_94 : decode cMo_addBits 94 = .ok (.invokevirtual 136, 3) := by decide +kernel
theorem dMo_addBits_97 : decode cMo_addBits 97 = .ok (.iinc 6 1, 3) := by decide +kernel
theorem dMo_addBits_100 : decode cMo_addBits 100 = .ok (.goto (-80), 3) := by decide +kernel
theorem dMo_addBits_103 : decode cMo_addBits 103 = .ok (.return_, 1) := by decide +kernel
theorem dMo_addWords_0 : decode cMo_addWords 0 = .ok (.aload_n 0, 1) := by decide +kernel
theorem dMo_addWords_1 : decode cMo_addWords 1 = .ok (.iload_n 1, 1) := by decide +kernel
theorem dMo_addWords_2 : decode cMo_addWords 2 = .ok (.iconst 2, 1) := by decide +kernel
theorem dMo_addWords_3 : decode cMo_addWords 3 = .ok (.iload 4, 2) := by decide +kernel
theorem dMo_addWords_5 : decode cMo_addWords 5 = .ok (.imul, 1) := by decide +kernel
theorem dMo_addWords_6 : decode cMo_addWords 6 = .ok (.invokevirtual 136, 3) := by decide +kernel
theorem dMo_addWords_9 : decode cMo_addWords 9 = .ok (.iconst 0, 1) := by decide +kernel
theorem dMo_addWords_10 : decode cMo_addWords 10 = .ok (.istore 5, 2) := by decide +kernel
theorem dMo_addWords_12 : decode cMo_addWords 12 = .ok (.iload 5, 2) := by decide +kernel
theorem dMo_addWords_14 : decode cMo_addWords 14 = .ok (.iload 4, 2) := by decide +kernel
theorem dMo_addWords_16 : decode cMo_addWords 16 = .ok (.if_icmp .ge 20, 3) := by decide +kernel
theorem dMo_addWords_19 : decode cMo_addWords 19 = .ok (.aload_n 0, 1) := by decide +kernel
theorem dMo_addWords_20 : decode cMo_addWords 20 = .ok (.iload_n 1, 1) := by decide +kernel
theorem dMo_addWords_21 : decode cMo_addWords 21 = .ok (.lload_n 2, 1) := by decide +kernel
theorem dMo_addWords_22 : decode cMo_addWords 22 = .ok (.iload 5, 2) := by decide +kernel
theorem dMo_addWords_24 : decode cMo_addWords 24 = .ok (.invokestatic 142, 3) := by decide +kernel
theorem dMo_addWords_27 : decode cMo_addWords 27 = .ok (.invokevirtual 146, 3) := by decide +kernel
theorem dMo_addWords_30 : decode cMo_addWords 30 = .ok (.iinc 5 1, 3) := by decide +kernel
theorem dMo_addWords_33 : decode cMo_addWords 33 = .ok (.goto (-21), 3) := by decide +kernel
theorem dMo_addWords_36 : decode cMo_addWords 36 = .ok (.return_, 1) := by decide +kernel
theorem dMo_writeRequest_0 : decode cMo_writeRequest 0 = .ok (.aload_n 0, 1) := by decide +kernel
theorem dMo_writeRequest_1 : decode cMo_writeRequest 1 = .ok (.iload_n 1, 1) := by decide +kernel
theorem dMo_writeRequest_2 : decode cMo_writeRequest 2 = .ok (.iload_n 2, 1) := by decide +kernel
theorem dMo_writeRequest_3 : decode cMo_writeRequest 3 = .ok (.iload_n 3, 1) := by decide +kernel
theorem dMo_writeRequest_4 : decode cMo_writeRequest 4 = .ok (.invokevirtual 149, 3) := by decide +kernel
theorem dMo_writeRequest_7 : decode cMo_writeRequest 7 = .ok (.iload_n 3, 1) := by decide +kernel
theorem dMo_writeRequest_8 : decode cMo_writeRequest 8 = .ok (.iconst 1, 1) := by decide +kernel
theorem dMo_writeRequest_9 : decode cMo_writeRequest 9 = .ok (.if_icmp .lt 8, 3) := by decide +kernel
theorem dMo_writeRequest_12 : decode cMo_writeRequest 12 = .ok (.iload_n 3, 1) := by decide +kernel
theorem dMo_writeRequest_13 : decode cMo_writeRequest 13 = .ok (.iconst 4, 1) := by decide +kernel
theorem dMo_writeRequest_14 : decode cMo_writeRequest 14 = .ok (.if_icmp .le 15, 3) := by decide +kernel
theorem dMo_writeRequest_17 : decode cMo_writeRequest 17 = .ok (.iload_n 3, 1) := by decide +kernel
theorem dMo_writeRequest_18 : decode cMo_writeRequest 18 = .ok (.bipush 15, 2) := by decide +kernel
theorem dMo_writeRequest_20 : decode cMo_writeRequest 20 = .ok (.if_icmp .eq 9, 3) := by decide +kernel
theorem dMo_writeRequest_23 : decode cMo_writeRequest 23 = .ok (.iload_n 3, 1) := by decide +kernel
theorem dMo_writeRequest_24 : decode cMo_writeRequest 24 = .ok (.bipush 16, 2) := by decide +kernel
theorem dMo_writeRequest_26 : decode cMo_writeRequest 26 = .ok (.if_icmp .ne 7, 3) := by decide +kernel
theorem dMo_writeRequest_29 : decode cMo_writeRequest 29 = .ok (.iconst 1, 1) := by decide +kernel
theorem dMo_writeRequest_30 : decode cMo_writeRequest 30 = .ok (.goto 4, 3) := by decide +kernel
theorem dMo_writeRequest_33 : decode cMo_writeRequest 33 = .ok (.iconst 0, 1) := by decide +kernel
theorem dMo_writeRequest_34 : decode cMo_writeRequest 34 = .ok (.istore 8, 2) := by decide +kernel
theorem dMo_writeRequest_36 : decode cMo_writeRequest 36 = .ok (.iload_n 3, 1) := by decide +kernel
theorem dMo_writeRequest_37 : decode cMo_writeRequest 37 = .ok (.iconst 5, 1) := by decide +kernel
theorem dMo_writeRequest_38 : decode cMo_writeRequest 38 = .ok (.if_icmp .eq 21, 3) := by decide +kernel
theorem dMo_writeRequest_41 : decode cMo_writeRequest 41 = .ok (.iload_n 3, 1) := by decide +kernel
theorem dMo_writeRequest_42 : decode cMo_writeRequest 42 = .ok (.bipush 6, 2) := by decide +kernel
theorem dMo_writeRequest_44 : decode cMo_writeRequest 44 = .ok (.if_icmp .eq 15, 3) := by decide +kernel
theorem dMo_writeRequest_47 : decode cMo_writeRequest 47 = .ok (.iload_n 3, 1) := by decide +kernel
theorem dMo_writeRequest_48 : decode cMo_writeRequest 48 = .ok (.bipush 22, 2) := by decide +kernel
theorem dMo_writeRequest_50 : decode cMo_writeRequest 50 = .ok (.if_icmp .eq 9, 3) := by decide +kernel
theorem dMo_writeRequest_53 : decode cMo_writeRequest 53 = .ok (.iload_n 3, 1) := by decide +kernel
theorem dMo_writeRequest_54 : decode cMo_writeRequest 54 = .ok (.bipush 8, 2) := by decide +kernel
theorem dMo_writeRequest_56 : decode cMo_writeRequest 56 = .ok (.if_icmp .ne 7, 3) := by decide +kernel
theorem dMo_writeRequest_59 : decode cMo_writeRequest 59 = .ok (.iconst 1, 1) := by decide +kernel
theorem dMo_writeRequest_60 : decode cMo_writeRequest 60 = .ok (.goto 4, 3) := by decide +kernel
theorem dMo_writeRequest_63 : decode cMo_writeRequest 63 = .ok (.iconst 0, 1) := by decide +kernel
theorem dMo_writeRequest_64 : decode cMo_writeRequest 64 = .ok (.istore 9, 2) := by decide +kernel
theorem dMo_writeRequest_66 : decode cMo_writeRequest 66 = .ok (.iload 8, 2) := by decide +kernel
theorem dMo_writeRequest_68 : decode cMo_writeRequest 68 = .ok (.ifCond .ne 8, 3) := by decide +kernel
theorem dMo_writeRequest_71 : decode cMo_writeRequest 71 = .ok (.iload 9, 2) := by decide +kernel
theorem dMo_writeRequest_73 : decode cMo_writeRequest 73 = .ok (.ifCond .eq 31, 3) := by decide +kernel
theorem dMo_writeRequest_76 : decode cMo_writeRequest 76 = .ok (.aload_n 0, 1) := by decide +kernel
theorem dMo_writeRequest_77 : decode cMo_writeRequest 77 = .ok (.iload_n 1, 1) := by decide +kernel
theorem dMo_writeRequest_78 : decode cMo_writeRequest 78 = .ok (.iload 4, 2) := by decide +kernel
theorem dMo_writeRequest_80 : decode cMo_writeRequest 80 = .ok (.invokevirtual 146, 3) := by decide +kernel
theorem dMo_writeRequest_83 : decode cMo_writeRequest 83 = .ok (.aload_n 0, 1) := by decide +kernel
theorem dMo_writeRequest_84 : decode cMo_writeRequest 84 = .ok (.iload_n 1, 1) := by decide +kernel
theorem dMo_writeRequest_85 : decode cMo_writeRequest 85 = .ok (.iload 8, 2) := by decide +kernel
theorem dMo_writeRequest_87 : decode cMo_writeRequest 87 = .ok (.ifCond .eq 8, 3) := by decide +kernel
theorem dMo_writeRequest_90 : decode cMo_writeRequest 90 = .ok (.iload 5, 2) := by decide +kernel
theorem dMo_writeRequest_92 : decode cMo_writeRequest 92 = .ok (.goto 9, 3) := by decide +kernel
theorem dMo_writeRequest_95 : decode cMo_writeRequest 95 = .ok (.lload 6, 2) := by decide +kernel
theorem dMo_writeRequest_97 : decode cMo_writeRequest 97 = .ok (.iconst 0, 1) := by decide +kernel
theorem dMo_writeRequest_98 : decode cMo_writeRequest 98 = .ok (.invokestatic 142, 3) := by decide +kernel
theorem dMo_writeRequest_101 : decode cMo_writeRequest 101 = .ok (.invokevirtual 146, 3) := by decide +kernel
theorem dMo_writeRequest_104 : decode cMo_writeRequest 104 = .ok (.iload_n 3, 1) := by decide +kernel
theorem dMo_writeRequest_105 : decode cMo_writeRequest 105 = .ok (.bipush 22, 2) := by decide +kernel
theorem dMo_writeRequest_107 : decode cMo_writeRequest 107 = .ok (.if_icmp .ne 17, 3) := by decide +kernel
theorem dMo_writeRequest_110 : decode cMo_writeRequest 110 = .ok (.aload_n 0, 1) := by decide +kernel
theorem dMo_writeRequest_111 : decode cMo_writeRequest 111 = .ok (.iload_n 1, 1) := by decide +kernel
theorem dMo_writeRequest_112 : decode cMo_writeRequest 112 = .ok (.lload 6, 2) := by decide +kernel
theorem dMo_writeRequest_114 : decode cMo_writeRequest 114 = .ok (.iconst 1, 1) := by decide +kernel
theorem dMo_writeRequest_115 : decode cMo_writeRequest 115 = .ok (.invokestatic 142, 3) := by decide +kernel
theorem dMo_writeRequest_118 : decode cMo_writeRequest 118 = .ok (.invokevirtual 146, 3) := by decide +kernel
theorem dMo_writeRequest_121 : decode cMo_writeRequest 121 = .ok (.goto 36, 3) := by decide +kernel
theorem dMo_writeRequest_124 : decode cMo_writeRequest 124 = .ok (.iload_n 3, 1) := by decide +kernel
theorem dMo_writeRequest_125 : decode cMo_writeRequest 125 = .ok (.bipush 15, 2) := by decide +kernel
theorem dMo_writeRequest_127 : decode cMo_writeRequest 127 = .ok (.if_icmp .ne 15, 3) := by decide +kernel
theorem dMo_writeRequest_130 : decode cMo_writeRequest 130 = .ok (.aload_n 0, 1) := by decide +kernel
theorem dMo_writeRequest_131 : decode cMo_writeRequest 131 = .ok (.iload_n 1, 1) := by decide +kernel
theorem dMo_writeRequest_132 : decode cMo_writeRequest 132 = .ok (.lload 6, 2) := by decide +kernel
theorem dMo_writeRequest_134 : decode cMo_writeRequest 134 = .ok (.iload 5, 2) := by decide +kernel
theorem dMo_writeRequest_136 : decode cMo_writeRequest 136 = .ok (.invokevirtual 153, 3) := by decide +kernel
theorem dMo_writeRequest_139 : decode cMo_writeRequest 139 = .ok (.goto 18, 3) := by decide +kernel
theorem dMo_writeRequest_142 : decode cMo_writeRequest 142 = .ok (.iload_n 3, 1) := by decide +kernel
theorem dMo_writeRequest_143 : decode cMo_writeRequest 143 = .ok (.bipush 16, 2) := by decide +kernel
theorem dMo_writeRequest_145 : decode cMo_writeRequest 145 = .ok (.if_icmp .ne 12, 3) := by decide +kernel
theorem dMo_writeRequest_148 : decode cMo_writeRequest 148 = .ok (.aload_n 0, 1) := by decide +kernel
theorem dMo_writeRequest_149 : decode cMo_writeRequest 149 = .ok (.iload_n 1, 1) := by decide +kernel
theorem dMo_writeRequest_150 : decode cMo_writeRequest 150 = .ok (.lload 6, 2) := by decide +kernel
theorem dMo_writeRequest_152 : decode cMo_writeRequest 152 = .ok (.iload 5, 2) := by decide +kernel
theorem dMo_writeRequest_154 : decode cMo_writeRequest 154 = .ok (.invokevirtual 157, 3) := by decide +kernel
theorem dMo_writeRequest_157 : decode cMo_writeRequest 157 = .ok (.aload_n 0, 1) := by decide +kernel
theorem dMo_writeRequest_158 : decode cMo_writeRequest 158 = .ok (.iload_n 1, 1) := by decide +kernel
theorem dMo_writeRequest_159 : decode cMo_writeRequest 159 = .ok (.invokevirtual 160, 3) := by decide +kernel
theorem dMo_writeRequest_162 : decode cMo_writeRequest 162 = .ok (.return_, 1) := by decide +kernel
theorem dMo_writeAnswer_0 : decode cMo_writeAnswer 0 = .ok (.iload_n 1, 1) := by decide +kernel
theorem dMo_writeAnswer_1 : decode cMo_writeAnswer 1 = .ok (.iconst 2, 1) := by decide +kernel
theorem dMo_writeAnswer_2 : decode cMo_writeAnswer 2 = .ok (.iadd, 1) := by decide +kernel
theorem dMo_writeAnswer_3 : decode cMo_writeAnswer 3 = .ok (.istore 8, 2) := by decide +kernel
theorem dMo_writeAnswer_5 : decode cMo_writeAnswer 5 = .ok (.aload_n 0, 1) := by decide +kernel
theorem dMo_writeAnswer_6 : decode cMo_writeAnswer 6 = .ok (.getfield 164, 3) := by decide +kernel
theorem dMo_writeAnswer_9 : decode cMo_writeAnswer 9 = .ok (.ifCond .le 34, 3) := by decide +kernel
theorem dMo_writeAnswer_12 : decode cMo_writeAnswer 12 = .ok (.aload_n 0, 1) := by decide +kernel
theorem dMo_writeAnswer_13 : decode cMo_writeAnswer 13 = .ok (.iload 8, 2) := by decide +kernel
theorem dMo_writeAnswer_15 : decode cMo_writeAnswer 15 = .ok (.iload_n 2, 1) := by decide +kernel
theorem dMo_writeAnswer_16 : decode cMo_writeAnswer 16 = .ok (.iload_n 3, 1) := by decide +kernel
theorem dMo_writeAnswer_17 : decode cMo_writeAnswer 17 = .ok (.sipush 128, 3) := by decide +kernel
theorem dMo_writeAnswer_20 : decode cMo_writeAnswer 20 = .ok (.iadd, 1) := by decide +kernel
theorem dMo_writeAnswer_21 : decode cMo_writeAnswer 21 = .ok (.invokevirtual 149, 3) := by decide +kernel
theorem dMo_writeAnswer_24 : decode cMo_writeAnswer 24 = .ok (.aload_n 0, 1) := by decide +kernel
theorem dMo_writeAnswer_25 : decode cMo_writeAnswer 25 = .ok (.iload 8, 2) := by decide +kernel
theorem dMo_writeAnswer_27 : decode cMo_writeAnswer 27 = .ok (.aload_n 0, 1) := by decide +kernel
theorem dMo_writeAnswer_28 : decode cMo_writeAnswer 28 = .ok (.getfield 164, 3) := by decide +kernel
theorem dMo_writeAnswer_31 : decode cMo_writeAnswer 31 = .ok (.invokevirtual 136, 3) := by decide +kernel
theorem dMo_writeAnswer_34 : decode cMo_writeAnswer 34 = .ok (.aload_n 0, 1) := by decide +kernel
theorem dMo_writeAnswer_35 : decode cMo_writeAnswer 35 = .ok (.iload 8, 2) := by decide +kernel
theorem dMo_writeAnswer_37 : decode cMo_writeAnswer 37 = .ok (.invokevirtual 160, 3) := by decide +kernel
theorem dMo_writeAnswer_40 : decode cMo_writeAnswer 40 = .ok (.goto 140, 3) := by decide +kernel
theorem dMo_writeAnswer_43 : decode cMo_writeAnswer 43 = .ok (.iload_n 3, 1) := by decide +kernel
theorem dMo_writeAnswer_44 : decode cMo_writeAnswer 44 = .ok (.iconst 1, 1) := by decide +kernel
theorem dMo_writeAnswer_45 : decode cMo_writeAnswer 45 = .ok (.if_icmp .eq 8, 3) := by decide +kernel
theorem dMo_writeAnswer_48 : decode cMo_writeAnswer 48 = .ok (.iload_n 3, 1) := by decide +kernel
theorem dMo_writeAnswer_49 : decode cMo_writeAnswer 49 = .ok (.iconst 2, 1) := by decide +kernel
theorem dMo_writeAnswer_50 : decode cMo_writeAnswer 50 = .ok (.if_icmp .ne 32, 3) := by decide +kernel
theorem dMo_writeAnswer_53 : decode cMo_writeAnswer 53 = .ok (.aload_n 0, 1) := by decide +kernel
theorem dMo_writeAnswer_54 : decode cMo_writeAnswer 54 = .ok (.iload 8, 2) := by decide +kernel
theorem dMo_writeAnswer_56 : decode cMo_writeAnswer 56 = .ok (.iload_n 2, 1) := by decide +kernel
theorem dMo_writeAnswer_57 : decode cMo_writeAnswer 57 = .ok (.iload_n 3, 1) := by decide +kernel
theorem dMo_writeAnswer_58 : decode cMo_writeAnswer 58 = .ok (.invokevirtual 149, 3) := by decide +kernel
theorem dMo_writeAnswer_61 : decode cMo_writeAnswer 61 = .ok (.aload_n 0, 1) := by decide +kernel
theorem dMo_writeAnswer_62 : decode cMo_writeAnswer 62 = .ok (.iload 8, 2) := by decide +kernel
theorem dMo_writeAnswer_64 : decode cMo_writeAnswer 64 = .ok (.aload_n 0, 1) := by decide +kernel
theorem dMo_writeAnswer_65 : decode cMo_writeAnswer 65 = .ok (.getfield 167, 3) := by decide +kernel
theorem dMo_writeAnswer_68 : decode cMo_writeAnswer 68 = .ok (.iload 5, 2) := by decide +kernel
theorem dMo_writeAnswer_70 : decode cMo_writeAnswer 70 = .ok (.invokevirtual 153, 3) := by decide +kernel
theorem dMo_writeAnswer_73 : decode cMo_writeAnswer 73 = .ok (.aload_n 0, 1) := by decide +kernel
theorem dMo_writeAnswer_74 : decode cMo_writeAnswer 74 = .ok (.iload 8, 2) := by decide +kernel
theorem dMo_writeAnswer_76 : decode cMo_writeAnswer 76 = .ok (.invokevirtual 160, 3) := by decide +kernel
theorem dMo_writeAnswer_79 : decode cMo_writeAnswer 79 = .ok (.goto 101, 3) := by decide +kernel
theorem dMo_writeAnswer_82 : decode cMo_writeAnswer 82 = .ok (.iload_n 3, 1) := by decide +kernel
theorem dMo_writeAnswer_83 : decode cMo_writeAnswer 83 = .ok (.iconst 3, 1) := by decide +kernel
theorem dMo_writeAnswer_84 : decode cMo_writeAnswer 84 = .ok (.if_icmp .eq 8, 3) := by decide +kernel
theorem dMo_writeAnswer_87 : decode cMo_writeAnswer 87 = .ok (.iload_n 3, 1) := by decide +kernel
theorem dMo_writeAnswer_88 : decode cMo_writeAnswer 88 = .ok (.iconst 4, 1) := by decide +kernel
theorem dMo_writeAnswer_89 : decode cMo_writeAnswer 89 = .ok (.if_icmp .ne 32, 3) := by decide +kernel
theorem dMo_writeAnswer_92 : decode cMo_writeAnswer 92 = .ok (.aload_n 0, 1) := by decide +kernel
theorem dMo_writeAnswer_93 : decode cMo_writeAnswer 93 = .ok (.iload 8, 2) := by decide +kernel
theorem dMo_writeAnswer_95 : decode cMo_writeAnswer 95 = .ok (.iload_n 2, 1) := by decide +kernel
theorem dMo_writeAnswer_96 : decode cMo_writeAnswer 96 = .ok (.iload_n 3, 1) := by decide +kernel
theorem dMo_writeAnswer_97 : decode cMo_writeAnswer 97 = .ok (.invokevirtual 149, 3) := by decide +kernel
theorem dMo_writeAnswer_100 : decode cMo_writeAnswer 100 = .ok (.aload_n 0, 1) := by decide +kernel
theorem dMo_writeAnswer_101 : decode cMo_writeAnswer 101 = .ok (.iload 8, 2) := by decide +kernel
theorem dMo_writeAnswer_103 : decode cMo_writeAnswer 103 = .ok (.aload_n 0, 1) := by decide +kernel
theorem dMo_writeAnswer_104 : decode cMo_writeAnswer 104 = .ok (.getfield 167, 3) := by decide +kernel
theorem dMo_writeAnswer_107 : decode cMo_writeAnswer 107 = .ok (.iload 5, 2) := by decide +kernel
theorem dMo_writeAnswer_109 : decode cMo_writeAnswer 109 = .ok (.invokevirtual 157, 3) := by decide +kernel
theorem dMo_writeAnswer_112 : decode cMo_writeAnswer 112 = .ok (.aload_n 0, 1) := by decide +kernel
theorem dMo_writeAnswer_113 : decode cMo_writeAnswer 113 = .ok (.iload 8, 2) := by decide +kernel
theorem dMo_writeAnswer_115 : decode cMo_writeAnswer 115 = .ok (.invokevirtual 160, 3) := by decide +kernel
theorem dMo_writeAnswer_118 : decode cMo_writeAnswer 118 = .ok (.goto 62, 3) := by decide +kernel
theorem dMo_writeAnswer_121 : decode cMo_writeAnswer 121 = .ok (.iload_n 3, 1) := by decide +kernel
theorem dMo_writeAnswer_122 : decode cMo_writeAnswer 122 = .ok (.bipush 15, 2) := by decide +kernel
theorem dMo_writeAnswer_124 : decode cMo_writeAnswer 124 = .ok (.if_icmp .eq 9, 3) := by decide +kernel
theorem dMo_writeAnswer_127 : decode cMo_writeAnswer 127 = .ok (.iload_n 3, 1) := by decide +kernel
theorem dMo_writeAnswer_128 : decode cMo_writeAnswer 128 = .ok (.bipush 16, 2) := by decide +kernel
theorem dMo_writeAnswer_130 : decode cMo_writeAnswer 130 = .ok (.if_icmp .ne 36, 3) := by decide +kernel
theorem dMo_writeAnswer_133 : decode cMo_writeAnswer 133 = .ok (.aload_n 0, 1) := by decide +kernel
theorem dMo_writeAnswer_134 : decode cMo_writeAnswer 134 = .ok (.iload 8, 2) := by decide +kernel
theorem dMo_writeAnswer_136 : decode cMo_writeAnswer 136 = .ok (.iload_n 2, 1) := by decide +kernel
theorem dMo_writeAnswer_137 : decode cMo_writeAnswer 137 = .ok (.iload_n 3, 1) := by decide +kernel
theorem dMo_writeAnswer_138 : decode cMo_writeAnswer 138 = .ok (.invokevirtual 149, 3) := by decide +kernel
theorem dMo_writeAnswer_141 : decode cMo_writeAnswer 141 = .ok (.aload_n 0, 1) := by decide +kernel
theorem dMo_writeAnswer_142 : decode cMo_writeAnswer 142 = .ok (.iload 8, 2) := by decide +kernel
theorem dMo_writeAnswer_144 : decode cMo_writeAnswer 144 = .ok (.iload 4, 2) := by decide +kernel
theorem dMo_writeAnswer_146 : decode cMo_writeAnswer 146 = .ok (.invokevirtual 146, 3) := by decide +kernel
theorem dMo_writeAnswer_149 : decode cMo_writeAnswer 149 = .ok (.aload_n 0, 1) := by decide +kernel
theorem dMo_writeAnswer_150 : decode cMo_writeAnswer 150 = .ok (.iload 8, 2) := by decide +kernel
theorem dMo_writeAnswer_152 : decode cMo_writeAnswer 152 = .ok (.iload 5, 2) := by decide +kernel
theorem dMo_writeAnswer_154 : decode cMo_writeAnswer 154 = .ok (.invokevirtual 146, 3) := by decide +kernel
theorem dMo_writeAnswer_157 : decode cMo_writeAnswer 157 = .ok (.aload_n 0, 1) := by decide +kernel
theorem dMo_writeAnswer_158 : decode cMo_writeAnswer 158 = .ok (.iload 8, 2) := by decide +kernel
theorem dMo_writeAnswer_160 : decode cMo_writeAnswer 160 = .ok (.invokevirtual 160, 3) := by decide +kernel
theorem dMo_writeAnswer_163 : decode cMo_writeAnswer 163 = .ok (.goto 17, 3) := by decide +kernel
theorem dMo_writeAnswer_166 : decode cMo_writeAnswer 166 = .ok (.aload_n 0, 1) := by decide +kernel
theorem dMo_writeAnswer_167 : decode cMo_writeAnswer 167 = .ok (.iload 8, 2) := by decide +kernel
theorem dMo_writeAnswer_169 : decode cMo_writeAnswer 169 = .ok (.iload_n 2, 1) := by decide +kernel
theorem dMo_writeAnswer_170 : decode cMo_writeAnswer 170 = .ok (.iload_n 3, 1) := by decide +kernel
theorem dMo_writeAnswer_171 : decode cMo_writeAnswer 171 = .ok (.iload 4, 2) := by decide +kernel
theorem dMo_writeAnswer_173 : decode cMo_writeAnswer 173 = .ok (.iload 5, 2) := by decide +kernel
theorem dMo_writeAnswer_175 : decode cMo_writeAnswer 175 = .ok (.lload 6, 2) := by decide +kernel
theorem dMo_writeAnswer_177 : decode cMo_writeAnswer 177 = .ok (.invokevirtual 171, 3) := by decide +kernel
theorem dMo_writeAnswer_180 : decode cMo_writeAnswer 180 = .ok (.return_, 1) := by decide +kernel
theorem dMo_wrong_0 : decode cMo_wrong 0 = .ok (.lload_n 3, 1) := by decide +kernel
theorem dMo_wrong_1 : decode cMo_wrong 1 = .ok (.iconst 0, 1) := by decide +kernel
theorem dMo_wrong_2 : decode cMo_wrong 2 = .ok (.invokestatic 142, 3) := by decide +kernel
theorem dMo_wrong_5 : decode cMo_wrong 5 = .ok (.istore 5, 2) := by decide +kernel
theorem dMo_wrong_7 : decode cMo_wrong 7 = .ok (.iload_n 0, 1) := by decide +kernel
theorem dMo_wrong_8 : decode cMo_wrong 8 = .ok (.iconst 1, 1) := by decide +kernel
theorem dMo_wrong_9 : decode cMo_wrong 9 = .ok (.if_icmp .eq 14, 3) := by decide +kernel
theorem dMo_wrong_12 : decode cMo_wrong 12 = .ok (.iload_n 0, 1) := by decide +kernel
theorem dMo_wrong_13 : decode cMo_wrong 13 = .ok (.iconst 2, 1) := by decide +kernel
theorem dMo_wrong_14 : decode cMo_wrong 14 = .ok (.if_icmp .eq 9, 3) := by decide +kernel
theorem dMo_wrong_17 : decode cMo_wrong 17 = .ok (.iload_n 0, 1) := by decide +kernel
theorem dMo_wrong_18 : decode cMo_wrong 18 = .ok (.bipush 15, 2) := by decide +kernel
theorem dMo_wrong_20 : decode cMo_wrong 20 = .ok (.if_icmp .ne 7, 3) := by decide +kernel
theorem dMo_wrong_23 : decode cMo_wrong 23 = .ok (.iconst 1, 1) := by decide +kernel
theorem dMo_wrong_24 : decode cMo_wrong 24 = .ok (.goto 4, 3) := by decide +kernel
theorem dMo_wrong_27 : decode cMo_wrong 27 = .ok (.iconst 0, 1) := by decide +kernel
theorem dMo_wrong_28 : decode cMo_wrong 28 = .ok (.istore 6, 2) := by decide +kernel
theorem dMo_wrong_30 : decode cMo_wrong 30 = .ok (.iload_n 0, 1) := by decide +kernel
theorem dMo_wrong_31 : decode cMo_wrong 31 = .ok (.iconst 3, 1) := by decide +kernel
theorem dMo_wrong_32 : decode cMo_wrong 32 = .ok (.if_icmp .eq 14, 3) := by decide +kernel
theorem dMo_wrong_35 : decode cMo_wrong 35 = .ok (.iload_n 0, 1) := by decide +kernel
theorem dMo_wrong_36 : decode cMo_wrong 36 = .ok (.iconst 4, 1) := by decide +kernel
theorem dMo_wrong_37 : decode cMo_wrong 37 = .ok (.if_icmp .eq 9, 3) := by decide +kernel
theorem dMo_wrong_40 : decode cMo_wrong 40 = .ok (.iload_n 0, 1) := by decide +kernel
theorem dMo_wrong_41 : decode cMo_wrong 41 = .ok (.bipush 16, 2) := by decide +kernel
theorem dMo_wrong_43 : decode cMo_wrong 43 = .ok (.if_icmp .ne 7, 3) := by decide +kernel
theorem dMo_wrong_46 : decode cMo_wrong 46 = .ok (.iconst 1, 1) := by decide +kernel
theorem dMo_wrong_47 : decode cMo_wrong 47 = .ok (.goto 4, 3) := by decide +kernel
theorem dMo_wrong_50 : decode cMo_wrong 50 = .ok (.iconst 0, 1) := by decide +kernel
theorem dMo_wrong_51 : decode cMo_wrong 51 = .ok (.istore 7, 2) := by decide +kernel
theorem dMo_wrong_53 : decode cMo_wrong 53 = .ok (.iload 6, 2) := by decide +kernel
theorem dMo_wrong_55 : decode cMo_wrong 55 = .ok (.ifCond .ne 33, 3) := by decide +kernel
theorem dMo_wrong_58 : decode cMo_wrong 58 = .ok (.iload 7, 2) := by decide +kernel
theorem dMo_wrong_60 : decode cMo_wrong 60 = .ok (.ifCond .ne 28, 3) := by decide +kernel
theorem dMo_wrong_63 : decode cMo_wrong 63 = .ok (.iload_n 0, 1) := by decide +kernel
theorem dMo_wrong_64 : decode cMo_wrong 64 = .ok (.iconst 5, 1) := by decide +kernel
theorem dMo_wrong_65 : decode cMo_wrong 65 = .ok (.if_icmp .eq 23, 3) := by decide +kernel
theorem dMo_wrong_68 : decode cMo_wrong 68 = .ok (.iload_n 0, 1) := by decide +kernel
theorem dMo_wrong_69 : decode cMo_wrong 69 = .ok (.bipush 6, 2) := by decide +kernel
theorem dMo_wrong_71 : decode cMo_wrong 71 = .ok (.if_icmp .eq 17, 3) := by decide +kernel
theorem dMo_wrong_74 : decode cMo_wrong 74 = .ok (.iload_n 0, 1) := by decide +kernel
theorem dMo_wrong_75 : decode cMo_wrong 75 = .ok (.bipush 8, 2) := by decide +kernel
theorem dMo_wrong_77 : decode cMo_wrong 77 = .ok (.if_icmp .eq 11, 3) := by decide +kernel
theorem dMo_wrong_80 : decode cMo_wrong 80 = .ok (.iload_n 0, 1) := by decide +kernel
theorem dMo_wrong_81 : decode cMo_wrong 81 = .ok (.bipush 22, 2) := by decide +kernel
theorem dMo_wrong_83 : decode cMo_wrong 83 = .ok (.if_icmp .eq 5, 3) := by decide +kernel
theorem dMo_wrong_86 : decode cMo_wrong 86 = .ok (.iconst 1, 1) := by decide +kernel
theorem dMo_wrong_87 : decode cMo_wrong 87 = .ok (.ireturn, 1) := by decide +kernel
theorem dMo_wrong_88 : decode cMo_wrong 88 = .ok (.iload 6, 2) := by decide +kernel
theorem dMo_wrong_90 : decode cMo_wrong 90 = .ok (.ifCond .eq 13, 3) := by decide +kernel
theorem dMo_wrong_93 : decode cMo_wrong 93 = .ok (.iload_n 2, 1) := by decide +kernel
theorem dMo_wrong_94 : decode cMo_wrong 94 = .ok (.iconst 1, 1) := by decide +kernel
theorem dMo_wrong_95 : decode cMo_wrong 95 = .ok (.bipush 16, 2) := by decide +kernel
theorem dMo_wrong_97 : decode cMo_wrong 97 = .ok (.invokestatic 117, 3) := by decide +kernel
theorem dMo_wrong_100 : decode cMo_wrong 100 = .ok (.ifCond .eq 54, 3) := by decide +kernel
theorem dMo_wrong_103 : decode cMo_wrong 103 = .ok (.iload 7, 2) := by decide +kernel
theorem dMo_wrong_105 : decode cMo_wrong 105 = .ok (.ifCond .eq 12, 3) := by decide +kernel
theorem dMo_wrong_108 : decode cMo_wrong 108 = .ok (.iload_n 2, 1) := by decide +kernel
theorem dMo_wrong_109 : decode cMo_wrong 109 = .ok (.iconst 1, 1) := by decide +kernel
theorem dMo_wrong_110 : decode cMo_wrong 110 = .ok (.iconst 4, 1) := by decide +kernel
theorem dMo_wrong_111 : decode cMo_wrong 111 = .ok (.invokestatic 117, 3) := by decide +kernel
theorem dMo_wrong_114 : decode cMo_wrong 114 = .ok (.ifCond .eq 40, 3) := by decide +kernel
theorem dMo_wrong_117 : decode cMo_wrong 117 = .ok (.iload_n 0, 1) := by decide +kernel
theorem dMo_wrong_118 : decode cMo_wrong 118 = .ok (.iconst 5, 1) := by decide +kernel
theorem dMo_wrong_119 : decode cMo_wrong 119 = .ok (.if_icmp .ne 15, 3) := by decide +kernel
theorem dMo_wrong_122 : decode cMo_wrong 122 = .ok (.iload 5, 2) := by decide +kernel
theorem dMo_wrong_124 : decode cMo_wrong 124 = .ok (.ifCond .eq 10, 3) := by decide +kernel
theorem dMo_wrong_127 : decode cMo_wrong 127 = .ok (.iload 5, 2) := by decide +kernel
theorem dMo_wrong_129 : decode cMo_wrong 129 = .ok (.ldc 175, 2) := by decide +kernel
theorem dMo_wrong_131 : decode cMo_wrong 131 = .ok (.if_icmp .ne 23, 3) := by decide +kernel
theorem dMo_wrong_134 : decode cMo_wrong 134 = .ok (.iload_n 0, 1) := by decide +kernel
theorem dMo_wrong_135 : decode cMo_wrong 135 = .ok (.bipush 8, 2) := by decide +kernel
theorem dMo_wrong_137 : decode cMo_wrong 137 = .ok (.if_icmp .ne 21, 3) := by decide +kernel
theorem dMo_wrong_140 : decode cMo_wrong 140 = .ok (.iload_n 1, 1) := by decide +kernel
theorem dMo_wrong_141 : decode cMo_wrong 141 = .ok (.ifCond .eq 17, 3) := by decide +kernel
theorem dMo_wrong_144 : decode cMo_wrong 144 = .ok (.iload_n 1, 1) := by decide +kernel
theorem dMo_wrong_145 : decode cMo_wrong 145 = .ok (.iconst 1, 1) := by decide +kernel
theorem dMo_wrong_146 : decode cMo_wrong 146 = .ok (.if_icmp .eq 12, 3) := by decide +kernel
theorem dMo_wrong_149 : decode cMo_wrong 149 = .ok (.iload_n 1, 1) := by decide +kernel
theorem dMo_wrong_150 : decode cMo_wrong 150 = .ok (.iconst 4, 1) := by decide +kernel
theorem dMo_wrong_151 : decode cMo_wrong 151 = .ok (.if_icmp .eq 7, 3) := by decide +kernel
theorem dMo_wrong_154 : decode cMo_wrong 154 = .ok (.iconst 1, 1) := by decide +kernel
theorem dMo_wrong_155 : decode cMo_wrong 155 = .ok (.goto 4, 3) := by decide +kernel
theorem dMo_wrong_158 : decode cMo_wrong 158 = .ok (.iconst 0, 1) := by decide +kernel
theorem dMo_wrong_159 : decode cMo_wrong 159 = .ok (.istore 8, 2) := by decide +kernel
theorem dMo_wrong_161 : decode cMo_wrong 161 = .ok (.iload 6, 2) := by decide +kernel
theorem dMo_wrong_163 : decode cMo_wrong 163 = .ok (.ifCond .eq 11, 3) := by decide +kernel
theorem dMo_wrong_166 : decode cMo_wrong 166 = .ok (.iload_n 1, 1) := by decide +kernel
theorem dMo_wrong_167 : decode cMo_wrong 167 = .ok (.iload_n 2, 1) := by decide +kernel
theorem dMo_wrong_168 : decode cMo_wrong 168 = .ok (.iadd, 1) := by decide +kernel
theorem dMo_wrong_169 : decode cMo_wrong 169 = .ok (.bipush 16, 2) := by decide +kernel
theorem dMo_wrong_171 : decode cMo_wrong 171 = .ok (.if_icmp .gt 45, 3) := by decide +kernel
theorem dMo_wrong_174 : decode cMo_wrong 174 = .ok (.iload 7, 2) := by decide +kernel
theorem dMo_wrong_176 : decode cMo_wrong 176 = .ok (.ifCond .eq 11, 3) := by decide +kernel
theorem dMo_wrong_179 : decode cMo_wrong 179 = .ok (.iload_n 1, 1) := by decide +kernel
theorem dMo_wrong_180 : decode cMo_wrong 180 = .ok (.iload_n 2, 1) := by decide +kernel
theorem dMo_wrong_181 : decode cMo_wrong 181 = .ok (.iadd, 1) := by decide +kernel
theorem dMo_wrong_182 : decode cMo_wrong 182 = .ok (.bipush 8, 2) := by decide +kernel
theorem dMo_wrong_184 : decode cMo_wrong 184 = .ok (.if_icmp .gt 32, 3) := by decide +kernel
theorem dMo_wrong_187 : decode cMo_wrong 187 = .ok (.iload_n 0, 1) := by decide +kernel
theorem dMo_wrong_188 : decode cMo_wrong 188 = .ok (.iconst 5, 1) := by decide +kernel
theorem dMo_wrong_189 : decode cMo_wrong 189 = .ok (.if_icmp .ne 9, 3) := by decide +kernel
theorem dMo_wrong_192 : decode cMo_wrong 192 = .ok (.iload_n 1, 1) := by decide +kernel
theorem dMo_wrong_193 : decode cMo_wrong 193 = .ok (.bipush 15, 2) := by decide +kernel
theorem dMo_wrong_195 : decode cMo_wrong 195 = .ok (.if_icmp .gt 21, 3) := by decide +kernel
theorem dMo_wrong_198 : decode cMo_wrong 198 = .ok (.iload_n 0, 1) := by decide +kernel
theorem dMo_wrong_199 : decode cMo_wrong 199 = .ok (.bipush 6, 2) := by decide +kernel
theorem dMo_wrong_201 : decode cMo_wrong 201 = .ok (.if_icmp .eq 9, 3) := by decide +kernel
theorem dMo_wrong_204 : decode cMo_wrong 204 = .ok (.iload_n 0, 1) := by decide +kernel
theorem dMo_wrong_205 : decode cMo_wrong 205 = .ok (.bipush 22, 2) := by decide +kernel
theorem dMo_wrong_207 : decode cMo_wrong 207 = .ok (.if_icmp .ne 13, 3) := by decide +kernel
theorem dMo_wrong_210 : decode cMo_wrong 210 = .ok (.iload_n 1, 1) := by decide +kernel
theorem dMo_wrong_211 : decode cMo_wrong 211 = .ok (.bipush 7, 2) := by decide +kernel
theorem dMo_wrong_213 : decode cMo_wrong 213 = .ok (.if_icmp .le 7, 3) := by decide +kernel
theorem dMo_wrong_216 : decode cMo_wrong 216 = .ok (.iconst 1, 1) := by decide +kernel
theorem dMo_wrong_217 : decode cMo_wrong 217 = .ok (.goto 4, 3) := by decide +kernel
theorem dMo_wrong_220 : decode cMo_wrong 220 = .ok (.iconst 0, 1) := by decide +kernel
theorem dMo_wrong_221 : decode cMo_wrong 221 = .ok (.istore 9, 2) := by decide +kernel
theorem dMo_wrong_223 : decode cMo_wrong 223 = .ok (.iload 8, 2) := by decide +kernel
theorem dMo_wrong_225 : decode cMo_wrong 225 = .ok (.ifCond .eq 7, 3) := by decide +kernel
theorem dMo_wrong_228 : decode cMo_wrong 228 = .ok (.iconst 3, 1) := by decide +kernel
theorem dMo_wrong_229 : decode cMo_wrong 229 = .ok (.goto 13, 3) := by decide +kernel
theorem dMo_wrong_232 : decode cMo_wrong 232 = .ok (.iload 9, 2) := by decide +kernel
theorem dMo_wrong_234 : decode cMo_wrong 234 = .ok (.ifCond .eq 7, 3) := by decide +kernel
theorem dMo_wrong_237 : decode cMo_wrong 237 = .ok (.iconst 2, 1) := by decide +kernel
theorem dMo_wrong_238 : decode cMo_wrong 238 = .ok (.goto 4, 3) := by decide +kernel
theorem dMo_wrong_241 : decode cMo_wrong 241 = .ok (.iconst 0, 1) := by decide +kernel
theorem dMo_wrong_242 : decode cMo_wrong 242 = .ok (.ireturn, 1) := by decide +kernel
theorem dMo_read_0 : decode cMo_read 0 = .ok (.lconst 0, 1) := by decide +kernel
theorem dMo_read_1 : decode cMo_read 1 = .ok (.lstore 5, 2) := by decide +kernel
theorem dMo_read_3 : decode cMo_read 3 = .ok (.iload 4, 2) := by decide +kernel
theorem dMo_read_5 : decode cMo_read 5 = .ok (.iconst 1, 1) := by decide +kernel
theorem dMo_read_6 : decode cMo_read 6 = .ok (.isub, 1) := by decide +kernel
theorem dMo_read_7 : decode cMo_read 7 = .ok (.istore 7, 2) := by decide +kernel
theorem dMo_read_9 : decode cMo_read 9 = .ok (.iload 7, 2) := by decide +kernel
theorem dMo_read_11 : decode cMo_read 11 = .ok (.ifCond .lt 104, 3) := by decide +kernel
theorem dMo_read_14 : decode cMo_read 14 = .ok (.iload_n 3, 1) := by decide +kernel
theorem dMo_read_15 : decode cMo_read 15 = .ok (.iload 7, 2) := by decide +kernel
theorem dMo_read_17 : decode cMo_read 17 = .ok (.iadd, 1) := by decide +kernel
theorem dMo_read_18 : decode cMo_read 18 = .ok (.istore 8, 2) := by decide +kernel
theorem dMo_read_20 : decode cMo_read 20 = .ok (.iload_n 2, 1) := by decide +kernel
theorem dMo_read_21 : decode cMo_read 21 = .ok (.iconst 3, 1) := by decide +kernel
theorem dMo_read_22 : decode cMo_read 22 = .ok (.if_icmp .ge 46, 3) := by decide +kernel
theorem dMo_read_25 : decode cMo_read 25 = .ok (.lload 5, 2) := by decide +kernel
theorem dMo_read_27 : decode cMo_read 27 = .ok (.iconst 1, 1) := by decide +kernel
theorem dMo_read_28 : decode cMo_read 28 = .ok (.lshl, 1) := by decide +kernel
theorem dMo_read_29 : decode cMo_read 29 = .ok (.iload_n 2, 1) := by decide +kernel
theorem dMo_read_30 : decode cMo_read 30 = .ok (.iconst 1, 1) := by decide +kernel
theorem dMo_read_31 : decode cMo_read 31 = .ok (.if_icmp .ne 18, 3) := by decide +kernel
theorem dMo_read_34 : decode cMo_read 34 = .ok (.aload_n 0, 1) := by decide +kernel
theorem dMo_read_35 : decode cMo_read 35 = .ok (.getfield 26, 3) := by decide +kernel
theorem dMo_read_38 : decode cMo_read 38 = .ok (.bipush 16, 2) := by decide +kernel
theorem dMo_read_40 : decode cMo_read 40 = .ok (.iload_n 1, 1) := by decide +kernel
theorem dMo_read_41 : decode cMo_read 41 = .ok (.imul, 1) := by decide +kernel
theorem dMo_read_42 : decode cMo_read 42 = .ok (.iload 8, 2) := by decide +kernel
theorem dMo_read_44 : decode cMo_read 44 = .ok (.iadd, 1) := by decide +kernel
theorem dMo_read_45 : decode cMo_read 45 = .ok (.iaload, 1) := by decide +kernel
theorem dMo_read_46 : decode cMo_read 46 = .ok (.goto 15, 3) := by decide +kernel
theorem dMo_read_49 : decode cMo_read 49 = .ok (.aload_n 0, 1) := by decide +kernel
theorem dMo_read_50 : decode cMo_read 50 = .ok (.getfield 29, 3) := by decide +kernel
theorem dMo_read_53 : decode cMo_read 53 = .ok (.bipush 16, 2) := by decide +kernel
theorem dMo_read_55 : decode cMo_read 55 = .ok (.iload_n 1, 1) := by decide +kernel
theorem dMo_read_56 : decode cMo_read 56 = .ok (.imul, 1) := by decide +kernel
theorem dMo_read_57 : decode cMo_read 57 = .ok (.iload 8, 2) := by decide +kernel
theorem dMo_read_59 : decode cMo_read 59 = .ok (.iadd, 1) := by decide +kernel
theorem dMo_read_60 : decode cMo_read 60 = .ok (.iaload, 1) := by decide +kernel
theorem dMo_read_61 : decode cMo_read 61 = .ok (.i2l, 1) := by decide +kernel
theorem dMo_read_62 : decode cMo_read 62 = .ok (.lor, 1) := by decide +kernel
theorem dMo_read_63 : decode cMo_read 63 = .ok (.lstore 5, 2) := by decide +kernel
theorem dMo_read_65 : decode cMo_read 65 = .ok (.goto 44, 3) := by decide +kernel
theorem dMo_read_68 : decode cMo_read 68 = .ok (.lload 5, 2) := by decide +kernel
theorem dMo_read_70 : decode cMo_read 70 = .ok (.bipush 16, 2) := by decide +kernel
theorem dMo_read_72 : decode cMo_read 72 = .ok (.lshl, 1) := by decide +kernel
theorem dMo_read_73 : decode cMo_read 73 = .ok (.iload_n 2, 1) := by decide +kernel
theorem dMo_read_74 : decode cMo_read 74 = .ok (.iconst 3, 1) := by decide +kernel
theorem dMo_read_75 : decode cMo_read 75 = .ok (.if_icmp .ne 18, 3) := by decide +kernel
theorem dMo_read_78 : decode cMo_read 78 = .ok (.aload_n 0, 1) := by decide +kernel
theorem dMo_read_79 : decode cMo_read 79 = .ok (.getfield 32, 3) := by decide +kernel
theorem dMo_read_82 : decode cMo_read 82 = .ok (.bipush 8, 2) := by decide +kernel
theorem dMo_read_84 : decode cMo_read 84 = .ok (.iload_n 1, 1) := by decide +kernel
theorem dMo_read_85 : decode cMo_read 85 = .ok (.imul, 1) := by decide +kernel
theorem dMo_read_86 : decode cMo_read 86 = .ok (.iload 8, 2) := by decide +kernel
theorem dMo_read_88 : decode cMo_read 88 = .ok (.iadd, 1) := by decide +kernel
theorem dMo_read_89 : decode cMo_read 89 = .ok (.iaload, 1) := by decide +kernel
theorem dMo_read_90 : decode cMo_read 90 = .ok (.goto 15, 3) := by decide +kernel
theorem dMo_read_93 : decode cMo_read 93 = .ok (.aload_n 0, 1) := by decide +kernel
theorem dMo_read_94 : decode cMo_read 94 = .ok (.getfield 35, 3) := by decide +kernel
theorem dMo_read_97 : decode cMo_read 97 = .ok (.bipush 8, 2) := by decide +kernel
theorem dMo_read_99 : decode cMo_read 99 = .ok (.iload_n 1, 1) := by decide +kernel
theorem dMo_read_100 : decode cMo_read 100 = .ok (.imul, 1) := by decide +kernel
theorem dMo_read_101 : decode cMo_read 101 = .ok (.iload 8, 2) := by decide +kernel
theorem dMo_read_103 : decode cMo_read 103 = .ok (.iadd, 1) := by decide +kernel
theorem dMo_read_104 : decode cMo_read 104 = .ok (.iaload, 1) := by decide +kernel
theorem dMo_read_105 : decode cMo_read 105 = .ok (.i2l, 1) := by decide +kernel
theorem dMo_read_106 : decode cMo_read 106 = .ok (.lor, 1) := by decide +kernel
theorem dMo_read_107 : decode cMo_read 107 = .ok (.lstore 5, 2) := by decide +kernel
theorem dMo_read_109 : decode cMo_read 109 = .ok (.iinc 7 (-1), 3) := by decide +kernel
theorem dMo_read_112 : decode cMo_read 112 = .ok (.goto (-103), 3) := by decide +kernel
theorem dMo_read_115 : decode cMo_read 115 = .ok (.lload 5, 2) := by decide +kernel
theorem dMo_read_117 : decode cMo_read 117 = .ok (.lreturn, 1) := by decide +kernel
theorem dMo_write_0 : decode cMo_write 0 = .ok (.iconst 0, 1) := by decide +kernel
theorem dMo_write_1 : decode cMo_write 1 = .ok (.istore 7, 2) := by decide +kernel
theorem dMo_write_3 : decode cMo_write 3 = .ok (.iload 7, 2) := by decide +kernel
theorem dMo_write_5 : decode cMo_write 5 = .ok (.iload 4, 2) := by decide +kernel
theorem dMo_write_7 : decode cMo_write 7 = .ok (.if_icmp .ge 61, 3) := by decide +kernel
theorem dMo_write_10 : decode cMo_write 10 = .ok (.iload_n 2, 1) := by decide +kernel
theorem dMo_write_11 : decode cMo_write 11 = .ok (.bipush 15, 2) := by decide +kernel
theorem dMo_write_13 : decode cMo_write 13 = .ok (.if_icmp .ne 28, 3) := by decide +kernel
theorem dMo_write_16 : decode cMo_write 16 = .ok (.aload_n 0, 1) := by decide +kernel
theorem dMo_write_17 : decode cMo_write 17 = .ok (.getfield 26, 3) := by decide +kernel
theorem dMo_write_20 : decode cMo_write 20 = .ok (.bipush 16, 2) := by decide +kernel
theorem dMo_write_22 : decode cMo_write 22 = .ok (.iload_n 1, 1) := by decide +kernel
theorem dMo_write_23 : decode cMo_write 23 = .ok (.imul, 1) := by decide +kernel
theorem dMo_write_24 : decode cMo_write 24 = .ok (.iload_n 3, 1) := by decide +kernel
theorem dMo_write_25 : decode cMo_write 25 = .ok (.iadd, 1) := by decide +kernel
theorem dMo_write_26 : decode cMo_write 26 = .ok (.iload 7, 2) := by decide +kernel
theorem dMo_write_28 : decode cMo_write 28 = .ok (.iadd, 1) := by decide +kernel
theorem dMo_write_29 : decode cMo_write 29 = .ok (.lload 5, 2) := by decide +kernel
theorem dMo_write_31 : decode cMo_write 31 = .ok (.iload 7, 2) := by decide +kernel
theorem dMo_write_33 : decode cMo_write 33 = .ok (.lushr, 1) := by decide +kernel
theorem dMo_write_34 : decode cMo_write 34 = .ok (.lconst 1, 1) := by decide +kernel
theorem dMo_write_35 : decode cMo_write 35 = .ok (.land, 1) := by decide +kernel
theorem dMo_write_36 : decode cMo_write 36 = .ok (.l2i, 1) := by decide +kernel
theorem dMo_write_37 : decode cMo_write 37 = .ok (.iastore, 1) := by decide +kernel
theorem dMo_write_38 : decode cMo_write 38 = .ok (.goto 24, 3) := by decide +kernel
theorem dMo_write_41 : decode cMo_write 41 = .ok (.aload_n 0, 1) := by decide +kernel
theorem dMo_write_42 : decode cMo_write 42 = .ok (.getfield 32, 3) := by decide +kernel
theorem dMo_write_45 : decode cMo_write 45 = .ok (.bipush 8, 2) := by decide +kernel
theorem dMo_write_47 : decode cMo_write 47 = .ok (.iload_n 1, 1) := by decide +kernel
theorem dMo_write_48 : decode cMo_write 48 = .ok (.imul, 1) := by decide +kernel
theorem dMo_write_49 : decode cMo_write 49 = .ok (.iload_n 3, 1) := by decide +kernel
theorem dMo_write_50 : decode cMo_write 50 = .ok (.iadd, 1) := by decide +kernel
theorem dMo_write_51 : decode cMo_write 51 = .ok (.iload 7, 2) := by decide +kernel
theorem dMo_write_53 : decode cMo_write 53 = .ok (.iadd, 1) := by decide +kernel
theorem dMo_write_54 : decode cMo_write 54 = .ok (.lload 5, 2) := by decide +kernel
theorem dMo_write_56 : decode cMo_write 56 = .ok (.iload 7, 2) := by decide +kernel
theorem dMo_write_58 : decode cMo_write 58 = .ok (.invokestatic 142, 3) := by decide +kernel
theorem dMo_write_61 : decode cMo_write 61 = .ok (.iastore, 1) := by decide +kernel
theorem dMo_write_62 : decode cMo_write 62 = .ok (.iinc 7 1, 3) := by decide +kernel
theorem dMo_write_65 : decode cMo_write 65 = .ok (.goto (-62), 3) := by decide +kernel
theorem dMo_write_68 : decode cMo_write 68 = .ok (.return_, 1) := by decide +kernel
theorem dMo_act_0 : decode cMo_act 0 = .ok (.lload 5, 2) := by decide +kernel
theorem dMo_act_2 : decode cMo_act 2 = .ok (.iconst 0, 1) := by decide +kernel
theorem dMo_act_3 : decode cMo_act 3 = .ok (.invokestatic 142, 3) := by decide +kernel
theorem dMo_act_6 : decode cMo_act 6 = .ok (.istore 7, 2) := by decide +kernel
theorem dMo_act_8 : decode cMo_act 8 = .ok (.lload 5, 2) := by decide +kernel
theorem dMo_act_10 : decode cMo_act 10 = .ok (.iconst 1, 1) := by decide +kernel
theorem dMo_act_11 : decode cMo_act 11 = .ok (.invokestatic 142, 3) := by decide +kernel
theorem dMo_act_14 : decode cMo_act 14 = .ok (.istore 8, 2) := by decide +kernel
theorem dMo_act_16 : decode cMo_act 16 = .ok (.aload_n 0, 1) := by decide +kernel
theorem dMo_act_17 : decode cMo_act 17 = .ok (.iload 7, 2) := by decide +kernel
theorem dMo_act_19 : decode cMo_act 19 = .ok (.i2l, 1) := by decide +kernel
theorem dMo_act_20 : decode cMo_act 20 = .ok (.putfield 167, 3) := by decide +kernel
theorem dMo_act_23 : decode cMo_act 23 = .ok (.iload_n 2, 1) := by decide +kernel
theorem dMo_act_24 : decode cMo_act 24 = .ok (.tableswitch 231 5 22 #[88, 112, 231, 178, 231, 231, 231, 231, 231, 231, 210, 210, 231, 231, 231, 231, 231, 128], 88) := by decide +kernel
theorem dMo_act_112 : decode cMo_act 112 = .ok (.aload_n 0, 1) := by decide +kernel
theorem dMo_act_113 : decode cMo_act 113 = .ok (.getfield 26, 3) := by decide +kernel
theorem dMo_act_116 : decode cMo_act 116 = .ok (.bipush 16, 2) := by decide +kernel
theorem dMo_act_118 : decode cMo_act 118 = .ok (.iload_n 1, 1) := by decide +kernel
theorem dMo_act_119 : decode cMo_act 119 = .ok (.imul, 1) := by decide +kernel
theorem dMo_act_120 : decode cMo_act 120 = .ok (.iload_n 3, 1) := by decide +kernel
theorem dMo_act_121 : decode cMo_act 121 = .ok (.iadd, 1) := by decide +kernel
theorem dMo_act_122 : decode cMo_act 122 = .ok (.iload 7, 2) := by decide +kernel
theorem dMo_act_124 : decode cMo_act 124 = .ok (.ifCond .ne 7, 3) := by decide +kernel
theorem dMo_act_127 : decode cMo_act 127 = .ok (.iconst 0, 1) := by decide +kernel
theorem dMo_act_128 : decode cMo_act 128 = .ok (.goto 4, 3) := by decide +kernel
theorem dMo_act_131 : decode cMo_act 131 = .ok (.iconst 1, 1) := by decide +kernel
theorem dMo_act_132 : decode cMo_act 132 = .ok (.iastore, 1) := by decide +kernel
theorem dMo_act_133 : decode cMo_act 133 = .ok (.goto 135, 3) := by decide +kernel
theorem dMo_act_136 : decode cMo_act 136 = .ok (.aload_n 0, 1) := by decide +kernel
theorem dMo_act_137 : decode cMo_act 137 = .ok (.getfield 32, 3) := by decide +kernel
theorem dMo_act_140 : decode cMo_act 140 = .ok (.bipush 8, 2) := by decide +kernel
theorem dMo_act_142 : decode cMo_act 142 = .ok (.iload_n 1, 1) := by decide +kernel
theorem dMo_act_143 : decode cMo_act 143 = .ok (.imul, 1) := by decide +kernel
theorem dMo_act_144 : decode cMo_act 144 = .ok (.iload_n 3, 1) := by decide +kernel
theorem dMo_act_145 : decode cMo_act 145 = .ok (.iadd, 1) := by decide +kernel
theorem dMo_act_146 : decode cMo_act 146 = .ok (.iload 7, 2) := by decide +kernel
theorem dMo_act_148 : decode cMo_act 148 = .ok (.iastore, 1) := by decide +kernel
theorem dMo_act_149 : decode cMo_act 149 = .ok (.goto 119, 3) := by decide +kernel
theorem dMo_act_152 : decode cMo_act 152 = .ok (.aload_n 0, 1) := by decide +kernel
theorem dMo_act_153 : decode cMo_act 153 = .ok (.getfield 32, 3) := by decide +kernel
theorem dMo_act_156 : decode cMo_act 156 = .ok (.bipush 8, 2) := by decide +kernel
theorem dMo_act_158 : decode cMo_act 158 = .ok (.iload_n 1, 1) := by decide +kernel
theorem dMo_act_159 : decode cMo_act 159 = .ok (.imul, 1) := by decide +kernel
theorem dMo_act_160 : decode cMo_act 160 = .ok (.iload_n 3, 1) := by decide +kernel
theorem dMo_act_161 : decode cMo_act 161 = .ok (.iadd, 1) := by decide +kernel
theorem dMo_act_162 : decode cMo_act 162 = .ok (.aload_n 0, 1) := by decide +kernel
theorem dMo_act_163 : decode cMo_act 163 = .ok (.getfield 32, 3) := by decide +kernel
theorem dMo_act_166 : decode cMo_act 166 = .ok (.bipush 8, 2) := by decide +kernel
theorem dMo_act_168 : decode cMo_act 168 = .ok (.iload_n 1, 1) := by decide +kernel
theorem dMo_act_169 : decode cMo_act 169 = .ok (.imul, 1) := by decide +kernel
theorem dMo_act_170 : decode cMo_act 170 = .ok (.iload_n 3, 1) := by decide +kernel
theorem dMo_act_171 : decode cMo_act 171 = .ok (.iadd, 1) := by decide +kernel
theorem dMo_act_172 : decode cMo_act 172 = .ok (.iaload, 1) := by decide +kernel
theorem dMo_act_173 : decode cMo_act 173 = .ok (.iload 7, 2) := by decide +kernel
theorem dMo_act_175 : decode cMo_act 175 = .ok (.iand, 1) := by decide +kernel
theorem dMo_act_176 : decode cMo_act 176 = .ok (.iload 8, 2) := by decide +kernel
theorem dMo_act_178 : decode cMo_act 178 = .ok (.iload 7, 2) := by decide +kernel
theorem dMo_act_180 : decode cMo_act 180 = .ok (.iconst (-1), 1) := by decide +kernel
theorem dMo_act_181 : decode cMo_act 181 = .ok (.ixor, 1) := by decide +kernel
theorem dMo_act_182 : decode cMo_act 182 = .ok (.iand, 1) := by decide +kernel
theorem dMo_act_183 : decode cMo_act 183 = .ok (.ior, 1) := by decide +kernel
theorem dMo_act_184 : decode cMo_act 184 = .ok (.iastore, 1) := by decide +kernel
theorem dMo_act_185 : decode cMo_act 185 = .ok (.aload_n 0, 1) := by decide +kernel
theorem dMo_act_186 : decode cMo_act 186 = .ok (.iload 7, 2) := by decide +kernel
theorem dMo_act_188 : decode cMo_act 188 = .ok (.i2l, 1) := by decide +kernel
theorem dMo_act_189 : decode cMo_act 189 = .ok (.iload 8, 2) := by decide +kernel
theorem dMo_act_191 : decode cMo_act 191 = .ok (.i2l, 1) := by decide +kernel
theorem dMo_act_192 : decode cMo_act 192 = .ok (.bipush 16, 2) := by decide +kernel
theorem dMo_act_194 : decode cMo_act 194 = .ok (.lshl, 1) := by decide +kernel
theorem dMo_act_195 : decode cMo_act 195 = .ok (.lor, 1) := by decide +kernel
theorem dMo_act_196 : decode cMo_act 196 = .ok (.putfield 167, 3) := by decide +kernel
theorem dMo_act_199 : decode cMo_act 199 = .ok (.goto 69, 3) := by decide +kernel
theorem dMo_act_202 : decode cMo_act 202 = .ok (.aload_n 0, 1) := by decide +kernel
theorem dMo_act_203 : decode cMo_act 203 = .ok (.getfield 23, 3) := by decide +kernel
theorem dMo_act_206 : decode cMo_act 206 = .ok (.iload_n 1, 1) := by decide +kernel
theorem dMo_act_207 : decode cMo_act 207 = .ok (.iload_n 3, 1) := by decide +kernel
theorem dMo_act_208 : decode cMo_act 208 = .ok (.iconst 4, 1) := by decide +kernel
theorem dMo_act_209 : decode cMo_act 209 = .ok (.if_icmp .eq 16, 3) := by decide +kernel
theorem dMo_act_212 : decode cMo_act 212 = .ok (.iload_n 3, 1) := by decide +kernel
theorem dMo_act_213 : decode cMo_act 213 = .ok (.ifCond .ne 16, 3) := by decide +kernel
theorem dMo_act_216 : decode cMo_act 216 = .ok (.aload_n 0, 1) := by decide +kernel
theorem dMo_act_217 : decode cMo_act 217 = .ok (.getfield 23, 3) := by decide +kernel
theorem dMo_act_220 : decode cMo_act 220 = .ok (.iload_n 1, 1) := by decide +kernel
theorem dMo_act_221 : decode cMo_act 221 = .ok (.baload, 1) := by decide +kernel
theorem dMo_act_222 : decode cMo_act 222 = .ok (.ifCond .eq 7, 3) := by decide +kernel
theorem dMo_act_225 : decode cMo_act 225 = .ok (.iconst 1, 1) := by decide +kernel
theorem dMo_act_226 : decode cMo_act 226 = .ok (.goto 4, 3) := by decide +kernel
theorem dMo_act_229 : decode cMo_act 229 = .ok (.iconst 0, 1) := by decide +kernel
theorem dMo_act_230 : decode cMo_act 230 = .ok (.bastore, 1) := by decide +kernel
theorem dMo_act_231 : decode cMo_act 231 = .ok (.goto 37, 3) := by decide +kernel
theorem dMo_act_234 : decode cMo_act 234 = .ok (.aload_n 0, 1) := by decide +kernel
theorem dMo_act_235 : decode cMo_act 235 = .ok (.iload_n 1, 1) := by decide +kernel
theorem dMo_act_236 : decode cMo_act 236 = .ok (.iload_n 2, 1) := by decide +kernel
theorem dMo_act_237 : decode cMo_act 237 = .ok (.iload_n 3, 1) := by decide +kernel
theorem dMo_act_238 : decode cMo_act 238 = .ok (.iload 4, 2) := by decide +kernel
theorem dMo_act_240 : decode cMo_act 240 = .ok (.lload 5, 2) := by decide +kernel
theorem dMo_act_242 : decode cMo_act 242 = .ok (.invokevirtual 176, 3) := by decide +kernel
theorem dMo_act_245 : decode cMo_act 245 = .ok (.aload_n 0, 1) := by decide +kernel
theorem dMo_act_246 : decode cMo_act 246 = .ok (.iload 4, 2) := by decide +kernel
theorem dMo_act_248 : decode cMo_act 248 = .ok (.i2l, 1) := by decide +kernel
theorem dMo_act_249 : decode cMo_act 249 = .ok (.putfield 167, 3) := by decide +kernel
theorem dMo_act_252 : decode cMo_act 252 = .ok (.goto 16, 3) := by decide +kernel
theorem dMo_act_255 : decode cMo_act 255 = .ok (.aload_n 0, 1) := by decide +kernel
theorem dMo_act_256 : decode cMo_act 256 = .ok (.aload_n 0, 1) := by decide +kernel
theorem dMo_act_257 : decode cMo_act 257 = .ok (.iload_n 1, 1) := by decide +kernel
theorem dMo_act_258 : decode cMo_act 258 = .ok (.iload_n 2, 1) := by decide +kernel
theorem dMo_act_259 : decode cMo_act 259 = .ok (.iload_n 3, 1) := by decide +kernel
theorem dMo_act_260 : decode cMo_act 260 = .ok (.iload 4, 2) := by decide +kernel
theorem dMo_act_262 : decode cMo_act 262 = .ok (.invokevirtual 180, 3) := by decide +kernel
theorem dMo_act_265 : decode cMo_act 265 = .ok (.putfield 167, 3) := by decide +kernel
theorem dMo_act_268 : decode cMo_act 268 = .ok (.return_, 1) := by decide +kernel
theorem dMo_gets_0 : decode cMo_gets 0 = .ok (.aload_n 0, 1) := by decide +kernel
theorem dMo_gets_1 : decode cMo_gets 1 = .ok (.getfield 23, 3) := by decide +kernel
theorem dMo_gets_4 : decode cMo_gets 4 = .ok (.iload_n 1, 1) := by decide +kernel
theorem dMo_gets_5 : decode cMo_gets 5 = .ok (.baload, 1) := by decide +kernel
theorem dMo_gets_6 : decode cMo_gets 6 = .ok (.istore 8, 2) := by decide +kernel
theorem dMo_gets_8 : decode cMo_gets 8 = .ok (.aload_n 0, 1) := by decide +kernel
theorem dMo_gets_9 : decode cMo_gets 9 = .ok (.getfield 20, 3) := by decide +kernel
theorem dMo_gets_12 : decode cMo_gets 12 = .ok (.iload_n 1, 1) := by decide +kernel
theorem dMo_gets_13 : decode cMo_gets 13 = .ok (.baload, 1) := by decide +kernel
theorem dMo_gets_14 : decode cMo_gets 14 = .ok (.ifCond .ne 14, 3) := by decide +kernel
theorem dMo_gets_17 : decode cMo_gets 17 = .ok (.iload 8, 2) := by decide +kernel
theorem dMo_gets_19 : decode cMo_gets 19 = .ok (.ifCond .eq 11, 3) := by decide +kernel
theorem dMo_gets_22 : decode cMo_gets 22 = .ok (.iload_n 2, 1) := by decide +kernel
theorem dMo_gets_23 : decode cMo_gets 23 = .ok (.bipush 8, 2) := by decide +kernel
theorem dMo_gets_25 : decode cMo_gets 25 = .ok (.if_icmp .eq 5, 3) := by decide +kernel
theorem dMo_gets_28 : decode cMo_gets 28 = .ok (.iconst 0, 1) := by decide +kernel
theorem dMo_gets_29 : decode cMo_gets 29 = .ok (.ireturn, 1) := by decide +kernel
theorem dMo_gets_30 : decode cMo_gets 30 = .ok (.aload_n 0, 1) := by decide +kernel
theorem dMo_gets_31 : decode cMo_gets 31 = .ok (.iload_n 2, 1) := by decide +kernel
theorem dMo_gets_32 : decode cMo_gets 32 = .ok (.iload_n 3, 1) := by decide +kernel
theorem dMo_gets_33 : decode cMo_gets 33 = .ok (.iload 4, 2) := by decide +kernel
theorem dMo_gets_35 : decode cMo_gets 35 = .ok (.lload 5, 2) := by decide +kernel
theorem dMo_gets_37 : decode cMo_gets 37 = .ok (.invokestatic 184, 3) := by decide +kernel
theorem dMo_gets_40 : decode cMo_gets 40 = .ok (.putfield 164, 3) := by decide +kernel
theorem dMo_gets_43 : decode cMo_gets 43 = .ok (.aload_n 0, 1) := by decide +kernel
theorem dMo_gets_44 : decode cMo_gets 44 = .ok (.lconst 0, 1) := by decide +kernel
theorem dMo_gets_45 : decode cMo_gets 45 = .ok (.putfield 167, 3) := by decide +kernel
theorem dMo_gets_48 : decode cMo_gets 48 = .ok (.aload_n 0, 1) := by decide +kernel
theorem dMo_gets_49 : decode cMo_gets 49 = .ok (.getfield 164, 3) := by decide +kernel
theorem dMo_gets_52 : decode cMo_gets 52 = .ok (.ifCond .ne 14, 3) := by decide +kernel
theorem dMo_gets_55 : decode cMo_gets 55 = .ok (.aload_n 0, 1) := by decide +kernel
theorem dMo_gets_56 : decode cMo_gets 56 = .ok (.iload_n 1, 1) := by decide +kernel
theorem dMo_gets_57 : decode cMo_gets 57 = .ok (.iload_n 2, 1) := by decide +kernel
theorem dMo_gets_58 : decode cMo_gets 58 = .ok (.iload_n 3, 1) := by decide +kernel
theorem dMo_gets_59 : decode cMo_gets 59 = .ok (.iload 4, 2) := by decide +kernel
theorem dMo_gets_61 : decode cMo_gets 61 = .ok (.lload 5, 2) := by decide +kernel
theorem dMo_gets_63 : decode cMo_gets 63 = .ok (.invokevirtual 188, 3) := by decide +kernel
theorem dMo_gets_66 : decode cMo_gets 66 = .ok (.iload 7, 2) := by decide +kernel
theorem dMo_gets_68 : decode cMo_gets 68 = .ok (.ifCond .ne 21, 3) := by decide +kernel
theorem dMo_gets_71 : decode cMo_gets 71 = .ok (.iload 8, 2) := by decide +kernel
theorem dMo_gets_73 : decode cMo_gets 73 = .ok (.ifCond .ne 16, 3) := by decide +kernel
theorem dMo_gets_76 : decode cMo_gets 76 = .ok (.aload_n 0, 1) := by decide +kernel
theorem dMo_gets_77 : decode cMo_gets 77 = .ok (.getfield 23, 3) := by decide +kernel
theorem dMo_gets_80 : decode cMo_gets 80 = .ok (.iload_n 1, 1) := by decide +kernel
theorem dMo_gets_81 : decode cMo_gets 81 = .ok (.baload, 1) := by decide +kernel
theorem dMo_gets_82 : decode cMo_gets 82 = .ok (.ifCond .ne 7, 3) := by decide +kernel
theorem dMo_gets_85 : decode cMo_gets 85 = .ok (.iconst 1, 1) := by decide +kernel
theorem dMo_gets_86 : decode cMo_gets 86 = .ok (.goto 4, 3) := by decide +kernel
theorem dMo_gets_89 : decode cMo_gets 89 = .ok (.iconst 0, 1) := by decide +kernel
theorem dMo_gets_90 : decode cMo_gets 90 = .ok (.ireturn, 1) := by decide +kernel
theorem dMo_isBroadcast_0 : decode cMo_isBroadcast 0 = .ok (.iload_n 1, 1) := by decide +kernel
theorem dMo_isBroadcast_1 : decode cMo_isBroadcast 1 = .ok (.bipush 64, 2) := by decide +kernel
theorem dMo_isBroadcast_3 : decode cMo_isBroadcast 3 = .ok (.if_icmp .ge 16, 3) := by decide +kernel
theorem dMo_isBroadcast_6 : decode cMo_isBroadcast 6 = .ok (.aload_n 0, 1) := by decide +kernel
theorem dMo_isBroadcast_7 : decode cMo_isBroadcast 7 = .ok (.getfield 38, 3) := by decide +kernel
theorem dMo_isBroadcast_10 : decode cMo_isBroadcast 10 = .ok (.iload_n 1, 1) := by decide +kernel
theorem dMo_isBroadcast_11 : decode cMo_isBroadcast 11 = .ok (.iaload, 1) := by decide +kernel
theorem dMo_isBroadcast_12 : decode cMo_isBroadcast 12 = .ok (.ifCond .ne 7, 3) := by decide +kernel
theorem dMo_isBroadcast_15 : decode cMo_isBroadcast 15 = .ok (.iconst 1, 1) := by decide +kernel
theorem dMo_isBroadcast_16 : decode cMo_isBroadcast 16 = .ok (.goto 4, 3) := by decide +kernel
theorem dMo_isBroadcast_19 : decode cMo_isBroadcast 19 = .ok (.iconst 0, 1) := by decide +kernel
theorem dMo_isBroadcast_20 : decode cMo_isBroadcast 20 = .ok (.ireturn, 1) := by decide +kernel
theorem dMo_take_0 : decode cMo_take 0 = .ok (.aload_n 0, 1) := by decide +kernel
theorem dMo_take_1 : decode cMo_take 1 = .ok (.getfield 72, 3) := by decide +kernel
theorem dMo_take_4 : decode cMo_take 4 = .ok (.iload_n 1, 1) := by decide +kernel
theorem dMo_take_5 : decode cMo_take 5 = .ok (.baload, 1) := by decide +kernel
theorem dMo_take_6 : decode cMo_take 6 = .ok (.ifCond .eq 14, 3) := by decide +kernel
theorem dMo_take_9 : decode cMo_take 9 = .ok (.aload_n 0, 1) := by decide +kernel
theorem dMo_take_10 : decode cMo_take 10 = .ok (.getfield 75, 3) := by decide +kernel
theorem dMo_take_13 : decode cMo_take 13 = .ok (.iload_n 1, 1) := by decide +kernel
theorem dMo_take_14 : decode cMo_take 14 = .ok (.iaload, 1) := by decide +kernel
theorem dMo_take_15 : decode cMo_take 15 = .ok (.iload_n 2, 1) := by decide +kernel
theorem dMo_take_16 : decode cMo_take 16 = .ok (.if_icmp .ne 4, 3) := by decide +kernel
theorem dMo_take_19 : decode cMo_take 19 = .ok (.return_, 1) := by decide +kernel
theorem dMo_take_20 : decode cMo_take 20 = .ok (.aload_n 0, 1) := by decide +kernel
theorem dMo_take_21 : decode cMo_take 21 = .ok (.getfield 72, 3) := by decide +kernel
theorem dMo_take_24 : decode cMo_take 24 = .ok (.iload_n 1, 1) := by decide +kernel
theorem dMo_take_25 : decode cMo_take 25 = .ok (.iconst 1, 1) := by decide +kernel
theorem dMo_take_26 : decode cMo_take 26 = .ok (.bastore, 1) := by decide +kernel
theorem dMo_take_27 : decode cMo_take 27 = .ok (.aload_n 0, 1) := by decide +kernel
theorem dMo_take_28 : decode cMo_take 28 = .ok (.getfield 75, 3) := by decide +kernel
theorem dMo_take_31 : decode cMo_take 31 = .ok (.iload_n 1, 1) := by decide +kernel
theorem dMo_take_32 : decode cMo_take 32 = .ok (.iload_n 2, 1) := by decide +kernel
theorem dMo_take_33 : decode cMo_take 33 = .ok (.iastore, 1) := by decide +kernel
theorem dMo_take_34 : decode cMo_take 34 = .ok (.aload_n 0, 1) := by decide +kernel
theorem dMo_take_35 : decode cMo_take 35 = .ok (.getfield 210, 3) := by decide +kernel
theorem dMo_take_38 : decode cMo_take 38 = .ok (.bipush 12, 2) := by decide +kernel
theorem dMo_take_40 : decode cMo_take 40 = .ok (.if_icmp .ne 41, 3) := by decide +kernel
theorem dMo_take_43 : decode cMo_take 43 = .ok (.aload_n 0, 1) := by decide +kernel
theorem dMo_take_44 : decode cMo_take 44 = .ok (.dup, 1) := by decide +kernel
theorem dMo_take_45 : decode cMo_take 45 = .ok (.getfield 210, 3) := by decide +kernel
theorem dMo_take_48 : decode cMo_take 48 = .ok (.iconst 1, 1) := by decide +kernel
theorem dMo_take_49 : decode cMo_take 49 = .ok (.isub, 1) := by decide +kernel
theorem dMo_take_50 : decode cMo_take 50 = .ok (.putfield 210, 3) := by decide +kernel
theorem dMo_take_53 : decode cMo_take 53 = .ok (.iconst 0, 1) := by decide +kernel
theorem dMo_take_54 : decode cMo_take 54 = .ok (.istore_n 3, 1) := by decide +kernel
theorem dMo_take_55 : decode cMo_take 55 = .ok (.iload_n 3, 1) := by decide +kernel
theorem dMo_take_56 : decode cMo_take 56 = .ok (.bipush 33, 2) := by decide +kernel
theorem dMo_take_58 : decode cMo_take 58 = .ok (.if_icmp .ge 23, 3) := by decide +kernel
theorem dMo_take_61 : decode cMo_take 61 = .ok (.aload_n 0, 1) := by decide +kernel
theorem dMo_take_62 : decode cMo_take 62 = .ok (.getfield 78, 3) := by decide +kernel
theorem dMo_take_65 : decode cMo_take 65 = .ok (.iload_n 3, 1) := by decide +kernel
theorem dMo_take_66 : decode cMo_take 66 = .ok (.aload_n 0, 1) := by decide +kernel
theorem dMo_take_67 : decode cMo_take 67 = .ok (.getfield 78, 3) := by decide +kernel
theorem dMo_take_70 : decode cMo_take 70 = .ok (.iload_n 3, 1) := by decide +kernel
theorem dMo_take_71 : decode cMo_take 71 = .ok (.iconst 3, 1) := by decide +kernel
theorem dMo_take_72 : decode cMo_take 72 = .ok (.iadd, 1) := by decide +kernel
theorem dMo_take_73 : decode cMo_take 73 = .ok (.iaload, 1) := by decide +kernel
theorem dMo_take_74 : decode cMo_take 74 = .ok (.iastore, 1) := by decide +kernel
theorem dMo_take_75 : decode cMo_take 75 = .ok (.iinc 3 1, 3) := by decide +kernel
theorem dMo_take_78 : decode cMo_take 78 = .ok (.goto (-23), 3) := by decide +kernel
theorem dMo_take_81 : decode cMo_take 81 = .ok (.aload_n 0, 1) := by decide +kernel
theorem dMo_take_82 : decode cMo_take 82 = .ok (.getfield 78, 3) := by decide +kernel
theorem dMo_take_85 : decode cMo_take 85 = .ok (.iconst 3, 1) := by decide +kernel
theorem dMo_take_86 : decode cMo_take 86 = .ok (.aload_n 0, 1) := by decide +kernel
theorem dMo_take_87 : decode cMo_take 87 = .ok (.getfield 210, 3) := by decide +kernel
theorem dMo_take_90 : decode cMo_take 90 = .ok (.imul, 1) := by decide +kernel
theorem dMo_take_91 : decode cMo_take 91 = .ok (.aload_n 0, 1) := by decide +kernel
theorem dMo_take_92 : decode cMo_take 92 = .ok (.getfield 191, 3) := by decide +kernel
theorem dMo_take_95 : decode cMo_take 95 = .ok (.iastore, 1) := by decide +kernel
theorem dMo_take_96 : decode cMo_take 96 = .ok (.aload_n 0, 1) := by decide +kernel
theorem dMo_take_97 : decode cMo_take 97 = .ok (.getfield 78, 3) := by decide +kernel
theorem dMo_take_100 : decode cMo_take 100 = .ok (.iconst 3, 1) := by decide +kernel
theorem dMo_take_101 : decode cMo_take 101 = .ok (.aload_n 0, 1) := by decide +kernel
theorem dMo_take_102 : decode cMo_take 102 = .ok (.getfield 210, 3) := by decide +kernel
theorem dMo_take_105 : decode cMo_take 105 = .ok (.imul, 1) := by decide +kernel
theorem dMo_take_106 : decode cMo_take 106 = .ok (.iconst 1, 1) := by decide +kernel
theorem dMo_take_107 : decode cMo_take 107 = .ok (.iadd, 1) := by decide +kernel
theorem dMo_take_108 : decode cMo_take 108 = .ok (.iload_n 1, 1) := by decide +kernel
theorem dMo_take_109 : decode cMo_take 109 = .ok (.iastore, 1) := by decide +kernel
theorem dMo_take_110 : decode cMo_take 110 = .ok (.aload_n 0, 1) := by decide +kernel
theorem dMo_take_111 : decode cMo_take 111 = .ok (.getfield 78, 3) := by decide +kernel
theorem dMo_take_114 : decode cMo_take 114 = .ok (.iconst 3, 1) := by decide +kernel
theorem dMo_take_115 : decode cMo_take 115 = .ok (.aload_n 0, 1) := by decide +kernel
theorem dMo_take_116 : decode cMo_take 116 = .ok (.getfield 210, 3) := by decide +kernel
theorem dMo_take_119 : decode cMo_take 119 = .ok (.imul, 1) := by decide +kernel
theorem dMo_take_120 : decode cMo_take 120 = .ok (.iconst 2, 1) := by decide +kernel
theorem dMo_take_121 : decode cMo_take 121 = .ok (.iadd, 1) := by decide +kernel
theorem dMo_take_122 : decode cMo_take 122 = .ok (.iload_n 2, 1) := by decide +kernel
theorem dMo_take_123 : decode cMo_take 123 = .ok (.iastore, 1) := by decide +kernel
theorem dMo_take_124 : decode cMo_take 124 = .ok (.aload_n 0, 1) := by decide +kernel
theorem dMo_take_125 : decode cMo_take 125 = .ok (.dup, 1) := by decide +kernel
theorem dMo_take_126 : decode cMo_take 126 = .ok (.getfield 210, 3) := by decide +kernel
theorem dMo_take_129 : decode cMo_take 129 = .ok (.iconst 1, 1) := by decide +kernel
theorem dMo_take_130 : decode cMo_take 130 = .ok (.iadd, 1) := by decide +kernel
theorem dMo_take_131 : decode cMo_take 131 = .ok (.putfield 210, 3) := by decide +kernel
theorem dMo_take_134 : decode cMo_take 134 = .ok (.return_, 1) := by decide +kernel
theorem dMo_comes_0 : decode cMo_comes 0 = .ok (.aload_n 0, 1) := by decide +kernel
theorem dMo_comes_1 : decode cMo_comes 1 = .ok (.getfield 87, 3) := by decide +kernel
theorem dMo_comes_4 : decode cMo_comes 4 = .ok (.iload_n 1, 1) := by decide +kernel
theorem dMo_comes_5 : decode cMo_comes 5 = .ok (.iaload, 1) := by decide +kernel
theorem dMo_comes_6 : decode cMo_comes 6 = .ok (.istore_n 2, 1) := by decide +kernel
theorem dMo_comes_7 : decode cMo_comes 7 = .ok (.aload_n 0, 1) := by decide +kernel
theorem dMo_comes_8 : decode cMo_comes 8 = .ok (.getfield 87, 3) := by decide +kernel
theorem dMo_comes_11 : decode cMo_comes 11 = .ok (.iload_n 1, 1) := by decide +kernel
theorem dMo_comes_12 : decode cMo_comes 12 = .ok (.iconst (-1), 1) := by decide +kernel
theorem dMo_comes_13 : decode cMo_comes 13 = .ok (.iastore, 1) := by decide +kernel
theorem dMo_comes_14 : decode cMo_comes 14 = .ok (.aload_n 0, 1) := by decide +kernel
theorem dMo_comes_15 : decode cMo_comes 15 = .ok (.getfield 96, 3) := by decide +kernel
theorem dMo_comes_18 : decode cMo_comes 18 = .ok (.iload_n 1, 1) := by decide +kernel
theorem dMo_comes_19 : decode cMo_comes 19 = .ok (.iconst (-1), 1) := by decide +kernel
theorem dMo_comes_20 : decode cMo_comes 20 = .ok (.iastore, 1) := by decide +kernel
theorem dMo_comes_21 : decode cMo_comes 21 = .ok (.iload_n 2, 1) := by decide +kernel
theorem dMo_comes_22 : decode cMo_comes 22 = .ok (.bipush 64, 2) := by decide +kernel
theorem dMo_comes_24 : decode cMo_comes 24 = .ok (.if_icmp .lt 19, 3) := by decide +kernel
theorem dMo_comes_27 : decode cMo_comes 27 = .ok (.aload_n 0, 1) := by decide +kernel
theorem dMo_comes_28 : decode cMo_comes 28 = .ok (.iload_n 2, 1) := by decide +kernel
theorem dMo_comes_29 : decode cMo_comes 29 = .ok (.bipush 64, 2) := by decide +kernel
theorem dMo_comes_31 : decode cMo_comes 31 = .ok (.isub, 1) := by decide +kernel
theorem dMo_comes_32 : decode cMo_comes 32 = .ok (.aload_n 0, 1) := by decide +kernel
theorem dMo_comes_33 : decode cMo_comes 33 = .ok (.getfield 102, 3) := by decide +kernel
theorem dMo_comes_36 : decode cMo_comes 36 = .ok (.iload_n 1, 1) := by decide +kernel
theorem dMo_comes_37 : decode cMo_comes 37 = .ok (.laload, 1) := by decide +kernel
theorem dMo_comes_38 : decode cMo_comes 38 = .ok (.l2i, 1) := by decide +kernel
theorem dMo_comes_39 : decode cMo_comes 39 = .ok (.invokevirtual 207, 3) := by decide +kernel
theorem dMo_comes_42 : decode cMo_comes 42 = .ok (.return_, 1) := by decide +kernel
theorem dMo_comes_43 : decode cMo_comes 43 = .ok (.aload_n 0, 1) := by decide +kernel
theorem dMo_comes_44 : decode cMo_comes 44 = .ok (.getfield 54, 3) := by decide +kernel
theorem dMo_comes_47 : decode cMo_comes 47 = .ok (.iload_n 2, 1) := by decide +kernel
theorem dMo_comes_48 : decode cMo_comes 48 = .ok (.aload_n 0, 1) := by decide +kernel
theorem dMo_comes_49 : decode cMo_comes 49 = .ok (.getfield 99, 3) := by decide +kernel
theorem dMo_comes_52 : decode cMo_comes 52 = .ok (.iload_n 1, 1) := by decide +kernel
theorem dMo_comes_53 : decode cMo_comes 53 = .ok (.iaload, 1) := by decide +kernel
theorem dMo_comes_54 : decode cMo_comes 54 = .ok (.ifCond .le 7, 3) := by decide +kernel
theorem dMo_comes_57 : decode cMo_comes 57 = .ok (.iconst 2, 1) := by decide +kernel
theorem dMo_comes_58 : decode cMo_comes 58 = .ok (.goto 4, 3) := by decide +kernel
theorem dMo_comes_61 : decode cMo_comes 61 = .ok (.iconst 1, 1) := by decide +kernel
theorem dMo_comes_62 : decode cMo_comes 62 = .ok (.iastore, 1) := by decide +kernel
theorem dMo_comes_63 : decode cMo_comes 63 = .ok (.aload_n 0, 1) := by decide +kernel
theorem dMo_comes_64 : decode cMo_comes 64 = .ok (.getfield 57, 3) := by decide +kernel
theorem dMo_comes_67 : decode cMo_comes 67 = .ok (.iload_n 2, 1) := by decide +kernel
theorem dMo_comes_68 : decode cMo_comes 68 = .ok (.aload_n 0, 1) := by decide +kernel
theorem dMo_comes_69 : decode cMo_comes 69 = .ok (.getfield 99, 3) := by decide +kernel
theorem dMo_comes_72 : decode cMo_comes 72 = .ok (.iload_n 1, 1) := by decide +kernel
theorem dMo_comes_73 : decode cMo_comes 73 = .ok (.iaload, 1) := by decide +kernel
theorem dMo_comes_74 : decode cMo_comes 74 = .ok (.iastore, 1) := by decide +kernel
theorem dMo_comes_75 : decode cMo_comes 75 = .ok (.aload_n 0, 1) := by decide +kernel
theorem dMo_comes_76 : decode cMo_comes 76 = .ok (.getfield 60, 3) := by decide +kernel
theorem dMo_comes_79 : decode cMo_comes 79 = .ok (.iload_n 2, 1) := by decide +kernel
theorem dMo_comes_80 : decode cMo_comes 80 = .ok (.aload_n 0, 1) := by decide +kernel
theorem dMo_comes_81 : decode cMo_comes 81 = .ok (.getfield 99, 3) := by decide +kernel
theorem dMo_comes_84 : decode cMo_comes 84 = .ok (.iload_n 1, 1) := by decide +kernel
theorem dMo_comes_85 : decode cMo_comes 85 = .ok (.iaload, 1) := by decide +kernel
theorem dMo_comes_86 : decode cMo_comes 86 = .ok (.ifCond .le 7, 3) := by decide +kernel
theorem dMo_comes_89 : decode cMo_comes 89 = .ok (.lconst 0, 1) := by decide +kernel
theorem dMo_comes_90 : decode cMo_comes 90 = .ok (.goto 9, 3) := by decide +kernel
theorem dMo_comes_93 : decode cMo_comes 93 = .ok (.aload_n 0, 1) := by decide +kernel
theorem dMo_comes_94 : decode cMo_comes 94 = .ok (.getfield 102, 3) := by decide +kernel
theorem dMo_comes_97 : decode cMo_comes 97 = .ok (.iload_n 1, 1) := by decide +kernel
theorem dMo_comes_98 : decode cMo_comes 98 = .ok (.laload, 1) := by decide +kernel
theorem dMo_comes_99 : decode cMo_comes 99 = .ok (.lastore, 1) := by decide +kernel
theorem dMo_comes_100 : decode cMo_comes 100 = .ok (.return_, 1) := by decide +kernel
theorem dMo_carry_0 : decode cMo_carry 0 = .ok (.aload_n 0, 1) := by decide +kernel
theorem dMo_carry_1 : decode cMo_carry 1 = .ok (.iload_n 1, 1) := by decide +kernel
theorem dMo_carry_2 : decode cMo_carry 2 = .ok (.iload_n 2, 1) := by decide +kernel
theorem dMo_carry_3 : decode cMo_carry 3 = .ok (.iload_n 3, 1) := by decide +kernel
theorem dMo_carry_4 : decode cMo_carry 4 = .ok (.iload 4, 2) := by decide +kernel
theorem dMo_carry_6 : decode cMo_carry 6 = .ok (.iload 5, 2) := by decide +kernel
theorem dMo_carry_8 : decode cMo_carry 8 = .ok (.lload 6, 2) := by decide +kernel
theorem dMo_carry_10 : decode cMo_carry 10 = .ok (.invokevirtual 171, 3) := by decide +kernel
theorem dMo_carry_13 : decode cMo_carry 13 = .ok (.aload_n 0, 1) := by decide +kernel
theorem dMo_carry_14 : decode cMo_carry 14 = .ok (.getfield 105, 3) := by decide +kernel
theorem dMo_carry_17 : decode cMo_carry 17 = .ok (.iload_n 1, 1) := by decide +kernel
theorem dMo_carry_18 : decode cMo_carry 18 = .ok (.baload, 1) := by decide +kernel
theorem dMo_carry_19 : decode cMo_carry 19 = .ok (.ifCond .eq 11, 3) := by decide +kernel
theorem dMo_carry_22 : decode cMo_carry 22 = .ok (.aload_n 0, 1) := by decide +kernel
theorem dMo_carry_23 : decode cMo_carry 23 = .ok (.getfield 105, 3) := by decide +kernel
theorem dMo_carry_26 : decode cMo_carry 26 = .ok (.iload_n 1, 1) := by decide +kernel
theorem dMo_carry_27 : decode cMo_carry 27 = .ok (.iconst 0, 1) := by decide +kernel
theorem dMo_carry_28 : decode cMo_carry 28 = .ok (.bastore, 1) := by decide +kernel
theorem dMo_carry_29 : decode cMo_carry 29 = .ok (.return_, 1) := by decide +kernel
theorem dMo_carry_30 : decode cMo_carry 30 = .ok (.iconst 0, 1) := by decide +kernel
theorem dMo_carry_31 : decode cMo_carry 31 = .ok (.istore 8, 2) := by decide +kernel
theorem dMo_carry_33 : decode cMo_carry 33 = .ok (.iconst 1, 1) := by decide +kernel
theorem dMo_carry_34 : decode cMo_carry 34 = .ok (.istore 9, 2) := by decide +kernel
theorem dMo_carry_36 : decode cMo_carry 36 = .ok (.iload 9, 2) := by decide +kernel
theorem dMo_carry_38 : decode cMo_carry 38 = .ok (.bipush 6, 2) := by decide +kernel
theorem dMo_carry_40 : decode cMo_carry 40 = .ok (.if_icmp .gt 77, 3) := by decide +kernel
theorem dMo_carry_43 : decode cMo_carry 43 = .ok (.aload_n 0, 1) := by decide +kernel
theorem dMo_carry_44 : decode cMo_carry 44 = .ok (.getfield 7, 3) := by decide +kernel
theorem dMo_carry_47 : decode cMo_carry 47 = .ok (.iload 9, 2) := by decide +kernel
theorem dMo_carry_49 : decode cMo_carry 49 = .ok (.baload, 1) := by decide +kernel
theorem dMo_carry_50 : decode cMo_carry 50 = .ok (.ifCond .eq 61, 3) := by decide +kernel
theorem dMo_carry_53 : decode cMo_carry 53 = .ok (.aload_n 0, 1) := by decide +kernel
theorem dMo_carry_54 : decode cMo_carry 54 = .ok (.getfield 13, 3) := by decide +kernel
theorem dMo_carry_57 : decode cMo_carry 57 = .ok (.iload 9, 2) := by decide +kernel
theorem dMo_carry_59 : decode cMo_carry 59 = .ok (.iaload, 1) := by decide +kernel
theorem dMo_carry_60 : decode cMo_carry 60 = .ok (.iload_n 1, 1) := by decide +kernel
theorem dMo_carry_61 : decode cMo_carry 61 = .ok (.if_icmp .ne 50, 3) := by decide +kernel
theorem dMo_carry_64 : decode cMo_carry 64 = .ok (.iload_n 2, 1) := by decide +kernel
theorem dMo_carry_65 : decode cMo_carry 65 = .ok (.ifCond .eq 9, 3) := by decide +kernel
theorem dMo_carry_68 : decode cMo_carry 68 = .ok (.iload_n 2, 1) := by decide +kernel
theorem dMo_carry_69 : decode cMo_carry 69 = .ok (.iload 9, 2) := by decide +kernel
theorem dMo_carry_71 : decode cMo_carry 71 = .ok (.if_icmp .ne 40, 3) := by decide +kernel
theorem dMo_carry_74 : decode cMo_carry 74 = .ok (.aload_n 0, 1) := by decide +kernel
theorem dMo_carry_75 : decode cMo_carry 75 = .ok (.iload 9, 2) := by decide +kernel
theorem dMo_carry_77 : decode cMo_carry 77 = .ok (.iload_n 3, 1) := by decide +kernel
theorem dMo_carry_78 : decode cMo_carry 78 = .ok (.iload 4, 2) := by decide +kernel
theorem dMo_carry_80 : decode cMo_carry 80 = .ok (.iload 5, 2) := by decide +kernel
theorem dMo_carry_82 : decode cMo_carry 82 = .ok (.lload 6, 2) := by decide +kernel
theorem dMo_carry_84 : decode cMo_carry 84 = .ok (.iload_n 2, 1) := by decide +kernel
theorem dMo_carry_85 : decode cMo_carry 85 = .ok (.ifCond .ne 7, 3) := by decide +kernel
theorem dMo_carry_88 : decode cMo_carry 88 = .ok (.iconst 1, 1) := by decide +kernel
theorem dMo_carry_89 : decode cMo_carry 89 = .ok (.goto 4, 3) := by decide +kernel
theorem dMo_carry_92 : decode cMo_carry 92 = .ok (.iconst 0, 1) := by decide +kernel
theorem dMo_carry_93 : decode cMo_carry 93 = .ok (.invokevirtual 197, 3) := by decide +kernel
theorem dMo_carry_96 : decode cMo_carry 96 = .ok (.ifCond .ne 8, 3) := by decide +kernel
theorem dMo_carry_99 : decode cMo_carry 99 = .ok (.iload 8, 2) := by decide +kernel
theorem dMo_carry_101 : decode cMo_carry 101 = .ok (.ifCond .eq 7, 3) := by decide +kernel
theorem dMo_carry_104 : decode cMo_carry 104 = .ok (.iconst 1, 1) := by decide +kernel
theorem dMo_carry_105 : decode cMo_carry 105 = .ok (.goto 4, 3) := by decide +kernel
theorem dMo_carry_108 : decode cMo_carry 108 = .ok (.iconst 0, 1) := by decide +kernel
theorem dMo_carry_109 : decode cMo_carry 109 = .ok (.istore 8, 2) := by decide +kernel
theorem dMo_carry_111 : decode cMo_carry 111 = .ok (.iinc 9 1, 3) := by decide +kernel
theorem dMo_carry_114 : decode cMo_carry 114 = .ok (.goto (-78), 3) := by decide +kernel
theorem dMo_carry_117 : decode cMo_carry 117 = .ok (.iload 8, 2) := by decide +kernel
theorem dMo_carry_119 : decode cMo_carry 119 = .ok (.ifCond .ne 4, 3) := by decide +kernel
theorem dMo_carry_122 : decode cMo_carry 122 = .ok (.return_, 1) := by decide +kernel
theorem dMo_carry_123 : decode cMo_carry 123 = .ok (.aload_n 0, 1) := by decide +kernel
theorem dMo_carry_124 : decode cMo_carry 124 = .ok (.iload_n 1, 1) := by decide +kernel
theorem dMo_carry_125 : decode cMo_carry 125 = .ok (.iload_n 2, 1) := by decide +kernel
theorem dMo_carry_126 : decode cMo_carry 126 = .ok (.iload_n 3, 1) := by decide +kernel
theorem dMo_carry_127 : decode cMo_carry 127 = .ok (.iload 4, 2) := by decide +kernel
theorem dMo_carry_129 : decode cMo_carry 129 = .ok (.iload 5, 2) := by decide +kernel
theorem dMo_carry_131 : decode cMo_carry 131 = .ok (.lload 6, 2) := by decide +kernel
theorem dMo_carry_133 : decode cMo_carry 133 = .ok (.invokevirtual 201, 3) := by decide +kernel
theorem dMo_carry_136 : decode cMo_carry 136 = .ok (.aload_n 0, 1) := by decide +kernel
theorem dMo_carry_137 : decode cMo_carry 137 = .ok (.getfield 108, 3) := by decide +kernel
theorem dMo_carry_140 : decode cMo_carry 140 = .ok (.iload_n 1, 1) := by decide +kernel
theorem dMo_carry_141 : decode cMo_carry 141 = .ok (.baload, 1) := by decide +kernel
theorem dMo_carry_142 : decode cMo_carry 142 = .ok (.ifCond .eq 11, 3) := by decide +kernel
theorem dMo_carry_145 : decode cMo_carry 145 = .ok (.aload_n 0, 1) := by decide +kernel
theorem dMo_carry_146 : decode cMo_carry 146 = .ok (.getfield 108, 3) := by decide +kernel
theorem dMo_carry_149 : decode cMo_carry 149 = .ok (.iload_n 1, 1) := by decide +kernel
theorem dMo_carry_150 : decode cMo_carry 150 = .ok (.iconst 0, 1) := by decide +kernel
theorem dMo_carry_151 : decode cMo_carry 151 = .ok (.bastore, 1) := by decide +kernel
theorem dMo_carry_152 : decode cMo_carry 152 = .ok (.return_, 1) := by decide +kernel
theorem dMo_carry_153 : decode cMo_carry 153 = .ok (.aload_n 0, 1) := by decide +kernel
theorem dMo_carry_154 : decode cMo_carry 154 = .ok (.getfield 96, 3) := by decide +kernel
theorem dMo_carry_157 : decode cMo_carry 157 = .ok (.iload_n 1, 1) := by decide +kernel
theorem dMo_carry_158 : decode cMo_carry 158 = .ok (.aload_n 0, 1) := by decide +kernel
theorem dMo_carry_159 : decode cMo_carry 159 = .ok (.getfield 17, 3) := by decide +kernel
theorem dMo_carry_162 : decode cMo_carry 162 = .ok (.iload_n 2, 1) := by decide +kernel
theorem dMo_carry_163 : decode cMo_carry 163 = .ok (.iaload, 1) := by decide +kernel
theorem dMo_carry_164 : decode cMo_carry 164 = .ok (.iconst 3, 1) := by decide +kernel
theorem dMo_carry_165 : decode cMo_carry 165 = .ok (.if_icmp .ge 17, 3) := by decide +kernel
theorem dMo_carry_168 : decode cMo_carry 168 = .ok (.aload_n 0, 1) := by decide +kernel
theorem dMo_carry_169 : decode cMo_carry 169 = .ok (.getfield 191, 3) := by decide +kernel
theorem dMo_carry_172 : decode cMo_carry 172 = .ok (.aload_n 0, 1) := by decide +kernel
theorem dMo_carry_173 : decode cMo_carry 173 = .ok (.getfield 17, 3) := by decide +kernel
theorem dMo_carry_176 : decode cMo_carry 176 = .ok (.iload_n 2, 1) := by decide +kernel
theorem dMo_carry_177 : decode cMo_carry 177 = .ok (.iaload, 1) := by decide +kernel
theorem dMo_carry_178 : decode cMo_carry 178 = .ok (.iadd, 1) := by decide +kernel
theorem dMo_carry_179 : decode cMo_carry 179 = .ok (.goto 4, 3) := by decide +kernel
theorem dMo_carry_182 : decode cMo_carry 182 = .ok (.iconst (-1), 1) := by decide +kernel
theorem dMo_carry_183 : decode cMo_carry 183 = .ok (.iastore, 1) := by decide +kernel
theorem dMo_carry_184 : decode cMo_carry 184 = .ok (.aload_n 0, 1) := by decide +kernel
theorem dMo_carry_185 : decode cMo_carry 185 = .ok (.getfield 99, 3) := by decide +kernel
theorem dMo_carry_188 : decode cMo_carry 188 = .ok (.iload_n 1, 1) := by decide +kernel
theorem dMo_carry_189 : decode cMo_carry 189 = .ok (.aload_n 0, 1) := by decide +kernel
theorem dMo_carry_190 : decode cMo_carry 190 = .ok (.getfield 164, 3) := by decide +kernel
theorem dMo_carry_193 : decode cMo_carry 193 = .ok (.iastore, 1) := by decide +kernel
theorem dMo_carry_194 : decode cMo_carry 194 = .ok (.aload_n 0, 1) := by decide +kernel
theorem dMo_carry_195 : decode cMo_carry 195 = .ok (.getfield 102, 3) := by decide +kernel
theorem dMo_carry_198 : decode cMo_carry 198 = .ok (.iload_n 1, 1) := by decide +kernel
theorem dMo_carry_199 : decode cMo_carry 199 = .ok (.aload_n 0, 1) := by decide +kernel
theorem dMo_carry_200 : decode cMo_carry 200 = .ok (.getfield 167, 3) := by decide +kernel
theorem dMo_carry_203 : decode cMo_carry 203 = .ok (.lastore, 1) := by decide +kernel
theorem dMo_carry_204 : decode cMo_carry 204 = .ok (.aload_n 0, 1) := by decide +kernel
theorem dMo_carry_205 : decode cMo_carry 205 = .ok (.getfield 96, 3) := by decide +kernel
theorem dMo_carry_208 : decode cMo_carry 208 = .ok (.iload_n 1, 1) := by decide +kernel
theorem dMo_carry_209 : decode cMo_carry 209 = .ok (.iaload, 1) := by decide +kernel
theorem dMo_carry_210 : decode cMo_carry 210 = .ok (.aload_n 0, 1) := by decide +kernel
theorem dMo_carry_211 : decode cMo_carry 211 = .ok (.getfield 191, 3) := by decide +kernel
theorem dMo_carry_214 : decode cMo_carry 214 = .ok (.if_icmp .ne 8, 3) := by decide +kernel
theorem dMo_carry_217 : decode cMo_carry 217 = .ok (.aload_n 0, 1) := by decide +kernel
theorem dMo_carry_218 : decode cMo_carry 218 = .ok (.iload_n 1, 1) := by decide +kernel
theorem dMo_carry_219 : decode cMo_carry 219 = .ok (.invokevirtual 204, 3) := by decide +kernel
theorem dMo_carry_222 : decode cMo_carry 222 = .ok (.return_, 1) := by decide +kernel
theorem dMo_send_0 : decode cMo_send 0 = .ok (.aload_n 0, 1) := by decide +kernel
theorem dMo_send_1 : decode cMo_send 1 = .ok (.getfield 87, 3) := by decide +kernel
theorem dMo_send_4 : decode cMo_send 4 = .ok (.iload_n 1, 1) := by decide +kernel
theorem dMo_send_5 : decode cMo_send 5 = .ok (.iaload, 1) := by decide +kernel
theorem dMo_send_6 : decode cMo_send 6 = .ok (.istore_n 2, 1) := by decide +kernel
theorem dMo_send_7 : decode cMo_send 7 = .ok (.aload_n 0, 1) := by decide +kernel
theorem dMo_send_8 : decode cMo_send 8 = .ok (.getfield 90, 3) := by decide +kernel
theorem dMo_send_11 : decode cMo_send 11 = .ok (.iload_n 1, 1) := by decide +kernel
theorem dMo_send_12 : decode cMo_send 12 = .ok (.dup2, 1) := by decide +kernel
theorem dMo_send_13 : decode cMo_send 13 = .ok (.iaload, 1) := by decide +kernel
theorem dMo_send_14 : decode cMo_send 14 = .ok (.iconst 1, 1) := by decide +kernel
theorem dMo_send_15 : decode cMo_send 15 = .ok (.iadd, 1) := by decide +kernel
theorem dMo_send_16 : decode cMo_send 16 = .ok (.iastore, 1) := by decide +kernel
theorem dMo_send_17 : decode cMo_send 17 = .ok (.aload_n 0, 1) := by decide +kernel
theorem dMo_send_18 : decode cMo_send 18 = .ok (.getfield 93, 3) := by decide +kernel
theorem dMo_send_21 : decode cMo_send 21 = .ok (.iload_n 1, 1) := by decide +kernel
theorem dMo_send_22 : decode cMo_send 22 = .ok (.aload_n 0, 1) := by decide +kernel
theorem dMo_send_23 : decode cMo_send 23 = .ok (.getfield 191, 3) := by decide +kernel
theorem dMo_send_26 : decode cMo_send 26 = .ok (.iastore, 1) := by decide +kernel
theorem dMo_send_27 : decode cMo_send 27 = .ok (.aload_n 0, 1) := by decide +kernel
theorem dMo_send_28 : decode cMo_send 28 = .ok (.getfield 96, 3) := by decide +kernel
theorem dMo_send_31 : decode cMo_send 31 = .ok (.iload_n 1, 1) := by decide +kernel
theorem dMo_send_32 : decode cMo_send 32 = .ok (.iconst (-1), 1) := by decide +kernel
theorem dMo_send_33 : decode cMo_send 33 = .ok (.iastore, 1) := by decide +kernel
theorem dMo_send_34 : decode cMo_send 34 = .ok (.iload_n 2, 1) := by decide +kernel
theorem dMo_send_35 : decode cMo_send 35 = .ok (.bipush 64, 2) := by decide +kernel
theorem dMo_send_37 : decode cMo_send 37 = .ok (.if_icmp .ge 41, 3) := by decide +kernel
theorem dMo_send_40 : decode cMo_send 40 = .ok (.aload_n 0, 1) := by decide +kernel
theorem dMo_send_41 : decode cMo_send 41 = .ok (.iload_n 1, 1) := by decide +kernel
theorem dMo_send_42 : decode cMo_send 42 = .ok (.aload_n 0, 1) := by decide +kernel
theorem dMo_send_43 : decode cMo_send 43 = .ok (.getfield 38, 3) := by decide +kernel
theorem dMo_send_46 : decode cMo_send 46 = .ok (.iload_n 2, 1) := by decide +kernel
theorem dMo_send_47 : decode cMo_send 47 = .ok (.iaload, 1) := by decide +kernel
theorem dMo_send_48 : decode cMo_send 48 = .ok (.aload_n 0, 1) := by decide +kernel
theorem dMo_send_49 : decode cMo_send 49 = .ok (.getfield 41, 3) := by decide +kernel
theorem dMo_send_52 : decode cMo_send 52 = .ok (.iload_n 2, 1) := by decide +kernel
theorem dMo_send_53 : decode cMo_send 53 = .ok (.iaload, 1) := by decide +kernel
theorem dMo_send_54 : decode cMo_send 54 = .ok (.aload_n 0, 1) := by decide +kernel
theorem dMo_send_55 : decode cMo_send 55 = .ok (.getfield 44, 3) := by decide +kernel
theorem dMo_send_58 : decode cMo_send 58 = .ok (.iload_n 2, 1) := by decide +kernel
theorem dMo_send_59 : decode cMo_send 59 = .ok (.iaload, 1) := by decide +kernel
theorem dMo_send_60 : decode cMo_send 60 = .ok (.aload_n 0, 1) := by decide +kernel
theorem dMo_send_61 : decode cMo_send 61 = .ok (.getfield 47, 3) := by decide +kernel
theorem dMo_send_64 : decode cMo_send 64 = .ok (.iload_n 2, 1) := by decide +kernel
theorem dMo_send_65 : decode cMo_send 65 = .ok (.iaload, 1) := by decide +kernel
theorem dMo_send_66 : decode cMo_send 66 = .ok (.aload_n 0, 1) := by decide +kernel
theorem dMo_send_67 : decode cMo_send 67 = .ok (.getfield 50, 3) := by decide +kernel
theorem dMo_send_70 : decode cMo_send 70 = .ok (.iload_n 2, 1) := by decide +kernel
theorem dMo_send_71 : decode cMo_send 71 = .ok (.laload, 1) := by decide +kernel
theorem dMo_send_72 : decode cMo_send 72 = .ok (.invokevirtual 194, 3) := by decide +kernel
theorem dMo_send_75 : decode cMo_send 75 = .ok (.goto 37, 3) := by decide +kernel
theorem dMo_send_78 : decode cMo_send 78 = .ok (.aload_n 0, 1) := by decide +kernel
theorem dMo_send_79 : decode cMo_send 79 = .ok (.iload_n 1, 1) := by decide +kernel
theorem dMo_send_80 : decode cMo_send 80 = .ok (.aload_n 0, 1) := by decide +kernel
theorem dMo_send_81 : decode cMo_send 81 = .ok (.getfield 63, 3) := by decide +kernel
theorem dMo_send_84 : decode cMo_send 84 = .ok (.iload_n 2, 1) := by decide +kernel
theorem dMo_send_85 : decode cMo_send 85 = .ok (.bipush 64, 2) := by decide +kernel
theorem dMo_send_87 : decode cMo_send 87 = .ok (.isub, 1) := by decide +kernel
theorem dMo_send_88 : decode cMo_send 88 = .ok (.iaload, 1) := by decide +kernel
theorem dMo_send_89 : decode cMo_send 89 = .ok (.aload_n 0, 1) := by decide +kernel
theorem dMo_send_90 : decode cMo_send 90 = .ok (.getfield 66, 3) := by decide +kernel
theorem dMo_send_93 : decode cMo_send 93 = .ok (.iload_n 2, 1) := by decide +kernel
theorem dMo_send_94 : decode cMo_send 94 = .ok (.bipush 64, 2) := by decide +kernel
theorem dMo_send_96 : decode cMo_send 96 = .ok (.isub, 1) := by decide +kernel
theorem dMo_send_97 : decode cMo_send 97 = .ok (.iaload, 1) := by decide +kernel
theorem dMo_send_98 : decode cMo_send 98 = .ok (.aload_n 0, 1) := by decide +kernel
theorem dMo_send_99 : decode cMo_send 99 = .ok (.getfield 69, 3) := by decide +kernel
theorem dMo_send_102 : decode cMo_send 102 = .ok (.iload_n 2, 1) := by decide +kernel
theorem dMo_send_103 : decode cMo_send 103 = .ok (.bipush 64, 2) := by decide +kernel
theorem dMo_send_105 : decode cMo_send 105 = .ok (.isub, 1) := by decide +kernel
theorem dMo_send_106 : decode cMo_send 106 = .ok (.iaload, 1) := by decide +kernel
theorem dMo_send_107 : decode cMo_send 107 = .ok (.iconst 1, 1) := by decide +kernel
theorem dMo_send_108 : decode cMo_send 108 = .ok (.lconst 0, 1) := by decide +kernel
theorem dMo_send_109 : decode cMo_send 109 = .ok (.invokevirtual 194, 3) := by decide +kernel
theorem dMo_send_112 : decode cMo_send 112 = .ok (.return_, 1) := by decide +kernel
theorem dMo_polls_0 : decode cMo_polls 0 = .ok (.aload_n 0, 1) := by decide +kernel
theorem dMo_polls_1 : decode cMo_polls 1 = .ok (.getfield 87, 3) := by decide +kernel
theorem dMo_polls_4 : decode cMo_polls 4 = .ok (.iload_n 1, 1) := by decide +kernel
theorem dMo_polls_5 : decode cMo_polls 5 = .ok (.iaload, 1) := by decide +kernel
theorem dMo_polls_6 : decode cMo_polls 6 = .ok (.bipush 64, 2) := by decide +kernel
theorem dMo_polls_8 : decode cMo_polls 8 = .ok (.iload_n 2, 1) := by decide +kernel
theorem dMo_polls_9 : decode cMo_polls 9 = .ok (.iadd, 1) := by decide +kernel
theorem dMo_polls_10 : decode cMo_polls 10 = .ok (.if_icmp .ne 7, 3) := by decide +kernel
theorem dMo_polls_13 : decode cMo_polls 13 = .ok (.iconst 1, 1) := by decide +kernel
theorem dMo_polls_14 : decode cMo_polls 14 = .ok (.goto 4, 3) := by decide +kernel
theorem dMo_polls_17 : decode cMo_polls 17 = .ok (.iconst 0, 1) := by decide +kernel
theorem dMo_polls_18 : decode cMo_polls 18 = .ok (.istore_n 3, 1) := by decide +kernel
theorem dMo_polls_19 : decode cMo_polls 19 = .ok (.iconst 0, 1) := by decide +kernel
theorem dMo_polls_20 : decode cMo_polls 20 = .ok (.istore 4, 2) := by decide +kernel
theorem dMo_polls_22 : decode cMo_polls 22 = .ok (.iload 4, 2) := by decide +kernel
theorem dMo_polls_24 : decode cMo_polls 24 = .ok (.aload_n 0, 1) := by decide +kernel
theorem dMo_polls_25 : decode cMo_polls 25 = .ok (.getfield 84, 3) := by decide +kernel
theorem dMo_polls_28 : decode cMo_polls 28 = .ok (.iload_n 1, 1) := by decide +kernel
theorem dMo_polls_29 : decode cMo_polls 29 = .ok (.iaload, 1) := by decide +kernel
theorem dMo_polls_30 : decode cMo_polls 30 = .ok (.if_icmp .ge 37, 3) := by decide +kernel
theorem dMo_polls_33 : decode cMo_polls 33 = .ok (.iload_n 3, 1) := by decide +kernel
theorem dMo_polls_34 : decode cMo_polls 34 = .ok (.ifCond .ne 21, 3) := by decide +kernel
theorem dMo_polls_37 : decode cMo_polls 37 = .ok (.aload_n 0, 1) := by decide +kernel
theorem dMo_polls_38 : decode cMo_polls 38 = .ok (.getfield 81, 3) := by decide +kernel
theorem dMo_polls_41 : decode cMo_polls 41 = .ok (.iconst 4, 1) := by decide +kernel
theorem dMo_polls_42 : decode cMo_polls 42 = .ok (.iload_n 1, 1) := by decide +kernel
theorem dMo_polls_43 : decode cMo_polls 43 = .ok (.imul, 1) := by decide +kernel
theorem dMo_polls_44 : decode cMo_polls 44 = .ok (.iload 4, 2) := by decide +kernel
theorem dMo_polls_46 : decode cMo_polls 46 = .ok (.iadd, 1) := by decide +kernel
theorem dMo_polls_47 : decode cMo_polls 47 = .ok (.iaload, 1) := by decide +kernel
theorem dMo_polls_48 : decode cMo_polls 48 = .ok (.bipush 64, 2) := by decide +kernel
theorem dMo_polls_50 : decode cMo_polls 50 = .ok (.iload_n 2, 1) := by decide +kernel
theorem dMo_polls_51 : decode cMo_polls 51 = .ok (.iadd, 1) := by decide +kernel
theorem dMo_polls_52 : decode cMo_polls 52 = .ok (.if_icmp .ne 7, 3) := by decide +kernel
theorem dMo_polls_55 : decode cMo_polls 55 = .ok (.iconst 1, 1) := by decide +kernel
theorem dMo_polls_56 : decode cMo_polls 56 = .ok (.goto 4, 3) := by decide +kernel
theorem dMo_polls_59 : decode cMo_polls 59 = .ok (.iconst 0, 1) := by decide +kernel
theorem dMo_polls_60 : decode cMo_polls 60 = .ok (.istore_n 3, 1) := by decide +kernel
theorem dMo_polls_61 : decode cMo_polls 61 = .ok (.iinc 4 1, 3) := by decide +kernel
theorem dMo_polls_64 : decode cMo_polls 64 = .ok (.goto (-42), 3) := by decide +kernel
theorem dMo_polls_67 : decode cMo_polls 67 = .ok (.iload_n 3, 1) := by decide +kernel
theorem dMo_polls_68 : decode cMo_polls 68 = .ok (.ireturn, 1) := by decide +kernel
theorem dMo_goOn_0 : decode cMo_goOn 0 = .ok (.aload_n 0, 1) := by decide +kernel
theorem dMo_goOn_1 : decode cMo_goOn 1 = .ok (.getfield 87, 3) := by decide +kernel
theorem dMo_goOn_4 : decode cMo_goOn 4 = .ok (.iload_n 1, 1) := by decide +kernel
theorem dMo_goOn_5 : decode cMo_goOn 5 = .ok (.iaload, 1) := by decide +kernel
theorem dMo_goOn_6 : decode cMo_goOn 6 = .ok (.istore_n 2, 1) := by decide +kernel
theorem dMo_goOn_7 : decode cMo_goOn 7 = .ok (.aload_n 0, 1) := by decide +kernel
theorem dMo_goOn_8 : decode cMo_goOn 8 = .ok (.getfield 96, 3) := by decide +kernel
theorem dMo_goOn_11 : decode cMo_goOn 11 = .ok (.iload_n 1, 1) := by decide +kernel
theorem dMo_goOn_12 : decode cMo_goOn 12 = .ok (.iaload, 1) := by decide +kernel
theorem dMo_goOn_13 : decode cMo_goOn 13 = .ok (.aload_n 0, 1) := by decide +kernel
theorem dMo_goOn_14 : decode cMo_goOn 14 = .ok (.getfield 191, 3) := by decide +kernel
theorem dMo_goOn_17 : decode cMo_goOn 17 = .ok (.if_icmp .ne 9, 3) := by decide +kernel
theorem dMo_goOn_20 : decode cMo_goOn 20 = .ok (.aload_n 0, 1) := by decide +kernel
theorem dMo_goOn_21 : decode cMo_goOn 21 = .ok (.iload_n 1, 1) := by decide +kernel
theorem dMo_goOn_22 : decode cMo_goOn 22 = .ok (.invokevirtual 204, 3) := by decide +kernel
theorem dMo_goOn_25 : decode cMo_goOn 25 = .ok (.return_, 1) := by decide +kernel
theorem dMo_goOn_26 : decode cMo_goOn 26 = .ok (.aload_n 0, 1) := by decide +kernel
theorem dMo_goOn_27 : decode cMo_goOn 27 = .ok (.iload_n 2, 1) := by decide +kernel
theorem dMo_goOn_28 : decode cMo_goOn 28 = .ok (.invokevirtual 213, 3) := by decide +kernel
theorem dMo_goOn_31 : decode cMo_goOn 31 = .ok (.istore_n 3, 1) := by decide +kernel
theorem dMo_goOn_32 : decode cMo_goOn 32 = .ok (.aload_n 0, 1) := by decide +kernel
theorem dMo_goOn_33 : decode cMo_goOn 33 = .ok (.getfield 191, 3) := by decide +kernel
theorem dMo_goOn_36 : decode cMo_goOn 36 = .ok (.aload_n 0, 1) := by decide +kernel
theorem dMo_goOn_37 : decode cMo_goOn 37 = .ok (.getfield 93, 3) := by decide +kernel
theorem dMo_goOn_40 : decode cMo_goOn 40 = .ok (.iload_n 1, 1) := by decide +kernel
theorem dMo_goOn_41 : decode cMo_goOn 41 = .ok (.iaload, 1) := by decide +kernel
theorem dMo_goOn_42 : decode cMo_goOn 42 = .ok (.isub, 1) := by decide +kernel
theorem dMo_goOn_43 : decode cMo_goOn 43 = .ok (.iload_n 3, 1) := by decide +kernel
theorem dMo_goOn_44 : decode cMo_goOn 44 = .ok (.ifCond .eq 7, 3) := by decide +kernel
theorem dMo_goOn_47 : decode cMo_goOn 47 = .ok (.iconst 2, 1) := by decide +kernel
theorem dMo_goOn_48 : decode cMo_goOn 48 = .ok (.goto 4, 3) := by decide +kernel
theorem dMo_goOn_51 : decode cMo_goOn 51 = .ok (.iconst 3, 1) := by decide +kernel
theorem dMo_goOn_52 : decode cMo_goOn 52 = .ok (.if_icmp .ge 4, 3) := by decide +kernel
theorem dMo_goOn_55 : decode cMo_goOn 55 = .ok (.return_, 1) := by decide +kernel
theorem dMo_goOn_56 : decode cMo_goOn 56 = .ok (.iload_n 3, 1) := by decide +kernel
theorem dMo_goOn_57 : decode cMo_goOn 57 = .ok (.ifCond .ne 19, 3) := by decide +kernel
theorem dMo_goOn_60 : decode cMo_goOn 60 = .ok (.aload_n 0, 1) := by decide +kernel
theorem dMo_goOn_61 : decode cMo_goOn 61 = .ok (.getfield 90, 3) := by decide +kernel
theorem dMo_goOn_64 : decode cMo_goOn 64 = .ok (.iload_n 1, 1) := by decide +kernel
theorem dMo_goOn_65 : decode cMo_goOn 65 = .ok (.iaload, 1) := by decide +kernel
theorem dMo_goOn_66 : decode cMo_goOn 66 = .ok (.iconst 3, 1) := by decide +kernel
theorem dMo_goOn_67 : decode cMo_goOn 67 = .ok (.if_icmp .ge 9, 3) := by decide +kernel
theorem dMo_goOn_70 : decode cMo_goOn 70 = .ok (.aload_n 0, 1) := by decide +kernel
theorem dMo_goOn_71 : decode cMo_goOn 71 = .ok (.iload_n 1, 1) := by decide +kernel
theorem dMo_goOn_72 : decode cMo_goOn 72 = .ok (.invokevirtual 217, 3) := by decide +kernel
theorem dMo_goOn_75 : decode cMo_goOn 75 = .ok (.return_, 1) := by decide +kernel
theorem dMo_goOn_76 : decode cMo_goOn 76 = .ok (.aload_n 0, 1) := by decide +kernel
theorem dMo_goOn_77 : decode cMo_goOn 77 = .ok (.getfield 87, 3) := by decide +kernel
theorem dMo_goOn_80 : decode cMo_goOn 80 = .ok (.iload_n 1, 1) := by decide +kernel
theorem dMo_goOn_81 : decode cMo_goOn 81 = .ok (.iconst (-1), 1) := by decide +kernel
theorem dMo_goOn_82 : decode cMo_goOn 82 = .ok (.iastore, 1) := by decide +kernel
theorem dMo_goOn_83 : decode cMo_goOn 83 = .ok (.iload_n 3, 1) := by decide +kernel
theorem dMo_goOn_84 : decode cMo_goOn 84 = .ok (.ifCond .ne 24, 3) := by decide +kernel
theorem dMo_goOn_87 : decode cMo_goOn 87 = .ok (.iload_n 2, 1) := by decide +kernel
theorem dMo_goOn_88 : decode cMo_goOn 88 = .ok (.bipush 64, 2) := by decide +kernel
theorem dMo_goOn_90 : decode cMo_goOn 90 = .ok (.if_icmp .ge 18, 3) := by decide +kernel
theorem dMo_goOn_93 : decode cMo_goOn 93 = .ok (.aload_n 0, 1) := by decide +kernel
theorem dMo_goOn_94 : decode cMo_goOn 94 = .ok (.getfield 54, 3) := by decide +kernel
theorem dMo_goOn_97 : decode cMo_goOn 97 = .ok (.iload_n 2, 1) := by decide +kernel
theorem dMo_goOn_98 : decode cMo_goOn 98 = .ok (.iconst 2, 1) := by decide +kernel
theorem dMo_goOn_99 : decode cMo_goOn 99 = .ok (.iastore, 1) := by decide +kernel
theorem dMo_goOn_100 : decode cMo_goOn 100 = .ok (.aload_n 0, 1) := by decide +kernel
theorem dMo_goOn_101 : decode cMo_goOn 101 = .ok (.getfield 57, 3) := by decide +kernel
theorem dMo_goOn_104 : decode cMo_goOn 104 = .ok (.iload_n 2, 1) := by decide +kernel
theorem dMo_goOn_105 : decode cMo_goOn 105 = .ok (.bipush 11, 2) := by decide +kernel
theorem dMo_goOn_107 : decode cMo_goOn 107 = .ok (.iastore, 1) := by decide +kernel
theorem dMo_goOn_108 : decode cMo_goOn 108 = .ok (.return_, 1) := by decide +kernel
theorem dMo_begins_0 : decode cMo_begins 0 = .ok (.aload_n 0, 1) := by decide +kernel
theorem dMo_begins_1 : decode cMo_begins 1 = .ok (.getfield 87, 3) := by decide +kernel
theorem dMo_begins_4 : decode cMo_begins 4 = .ok (.iload_n 1, 1) := by decide +kernel
theorem dMo_begins_5 : decode cMo_begins 5 = .ok (.aload_n 0, 1) := by decide +kernel
theorem dMo_begins_6 : decode cMo_begins 6 = .ok (.getfield 81, 3) := by decide +kernel
theorem dMo_begins_9 : decode cMo_begins 9 = .ok (.iconst 4, 1) := by decide +kernel
theorem dMo_begins_10 : decode cMo_begins 10 = .ok (.iload_n 1, 1) := by decide +kernel
theorem dMo_begins_11 : decode cMo_begins 11 = .ok (.imul, 1) := by decide +kernel
theorem dMo_begins_12 : decode cMo_begins 12 = .ok (.iaload, 1) := by decide +kernel
theorem dMo_begins_13 : decode cMo_begins 13 = .ok (.iastore, 1) := by decide +kernel
theorem dMo_begins_14 : decode cMo_begins 14 = .ok (.aload_n 0, 1) := by decide +kernel
theorem dMo_begins_15 : decode cMo_begins 15 = .ok (.getfield 90, 3) := by decide +kernel
theorem dMo_begins_18 : decode cMo_begins 18 = .ok (.iload_n 1, 1) := by decide +kernel
theorem dMo_begins_19 : decode cMo_begins 19 = .ok (.iconst 0, 1) := by decide +kernel
theorem dMo_begins_20 : decode cMo_begins 20 = .ok (.iastore, 1) := by decide +kernel
theorem dMo_begins_21 : decode cMo_begins 21 = .ok (.aload_n 0, 1) := by decide +kernel
theorem dMo_begins_22 : decode cMo_begins 22 = .ok (.getfield 84, 3) := by decide +kernel
theorem dMo_begins_25 : decode cMo_begins 25 = .ok (.iload_n 1, 1) := by decide +kernel
theorem dMo_begins_26 : decode cMo_begins 26 = .ok (.dup2, 1) := by decide +kernel
theorem dMo_begins_27 : decode cMo_begins 27 = .ok (.iaload, 1) := by decide +kernel
theorem dMo_begins_28 : decode cMo_begins 28 = .ok (.iconst 1, 1) := by decide +kernel
theorem dMo_begins_29 : decode cMo_begins 29 = .ok (.isub, 1) := by decide +kernel
theorem dMo_begins_30 : decode cMo_begins 30 = .ok (.iastore, 1) := by decide +kernel
theorem dMo_begins_31 : decode cMo_begins 31 = .ok (.iconst 0, 1) := by decide +kernel
theorem dMo_begins_32 : decode cMo_begins 32 = .ok (.istore_n 2, 1) := by decide +kernel
theorem dMo_begins_33 : decode cMo_begins 33 = .ok (.iload_n 2, 1) := by decide +kernel
theorem dMo_begins_34 : decode cMo_begins 34 = .ok (.aload_n 0, 1) := by decide +kernel
theorem dMo_begins_35 : decode cMo_begins 35 = .ok (.getfield 84, 3) := by decide +kernel
theorem dMo_begins_38 : decode cMo_begins 38 = .ok (.iload_n 1, 1) := by decide +kernel
theorem dMo_begins_39 : decode cMo_begins 39 = .ok (.iaload, 1) := by decide +kernel
theorem dMo_begins_40 : decode cMo_begins 40 = .ok (.if_icmp .ge 31, 3) := by decide +kernel
theorem dMo_begins_43 : decode cMo_begins 43 = .ok (.aload_n 0, 1) := by decide +kernel
theorem dMo_begins_44 : decode cMo_begins 44 = .ok (.getfield 81, 3) := by decide +kernel
theorem dMo_begins_47 : decode cMo_begins 47 = .ok (.iconst 4, 1) := by decide +kernel
theorem dMo_begins_48 : decode cMo_begins 48 = .ok (.iload_n 1, 1) := by decide +kernel
theorem dMo_begins_49 : decode cMo_begins 49 = .ok (.imul, 1) := by decide +kernel
theorem dMo_begins_50 : decode cMo_begins 50 = .ok (.iload_n 2, 1) := by decide +kernel
theorem dMo_begins_51 : decode cMo_begins 51 = .ok (.iadd, 1) := by decide +kernel
theorem dMo_begins_52 : decode cMo_begins 52 = .ok (.aload_n 0, 1) := by decide +kernel
theorem dMo_begins_53 : decode cMo_begins 53 = .ok (.getfield 81, 3) := by decide +kernel
theorem dMo_begins_56 : decode cMo_begins 56 = .ok (.iconst 4, 1) := by decide +kernel
theorem dMo_begins_57 : decode cMo_begins 57 = .ok (.iload_n 1, 1) := by decide +kernel
theorem dMo_begins_58 : decode cMo_begins 58 = .ok (.imul, 1) := by decide +kernel
theorem dMo_begins_59 : decode cMo_begins 59 = .ok (.iload_n 2, 1) := by decide +kernel
theorem dMo_begins_60 : decode cMo_begins 60 = .ok (.iadd, 1) := by decide +kernel
theorem dMo_begins_61 : decode cMo_begins 61 = .ok (.iconst 1, 1) := by decide +kernel
theorem dMo_begins_62 : decode cMo_begins 62 = .ok (.iadd, 1) := by decide +kernel
theorem dMo_begins_63 : decode cMo_begins 63 = .ok (.iaload, 1) := by decide +kernel
theorem dMo_begins_64 : decode cMo_begins 64 = .ok (.iastore, 1) := by decide +kernel
theorem dMo_begins_65 : decode cMo_begins 65 = .ok (.iinc 2 1, 3) := by decide +kernel
theorem dMo_begins_68 : decode cMo_begins 68 = .ok (.goto (-35), 3) := by decide +kernel
theorem dMo_begins_71 : decode cMo_begins 71 = .ok (.aload_n 0, 1) := by decide +kernel
theorem dMo_begins_72 : decode cMo_begins 72 = .ok (.iload_n 1, 1) := by decide +kernel
theorem dMo_begins_73 : decode cMo_begins 73 = .ok (.invokevirtual 217, 3) := by decide +kernel
theorem dMo_begins_76 : decode cMo_begins 76 = .ok (.return_, 1) := by decide +kernel
theorem dMo_tick_0 : decode cMo_tick 0 = .ok (.aload_n 0, 1) := by decide +kernel
theorem dMo_tick_1 : decode cMo_tick 1 = .ok (.dup, 1) := by decide +kernel
theorem dMo_tick_2 : decode cMo_tick 2 = .ok (.getfield 191, 3) := by decide +kernel
theorem dMo_tick_5 : decode cMo_tick 5 = .ok (.iconst 1, 1) := by decide +kernel
theorem dMo_tick_6 : decode cMo_tick 6 = .ok (.iadd, 1) := by decide +kernel
theorem dMo_tick_7 : decode cMo_tick 7 = .ok (.putfield 191, 3) := by decide +kernel
theorem dMo_tick_10 : decode cMo_tick 10 = .ok (.iconst 0, 1) := by decide +kernel
theorem dMo_tick_11 : decode cMo_tick 11 = .ok (.istore_n 1, 1) := by decide +kernel
theorem dMo_tick_12 : decode cMo_tick 12 = .ok (.iload_n 1, 1) := by decide +kernel
theorem dMo_tick_13 : decode cMo_tick 13 = .ok (.aload_n 0, 1) := by decide +kernel
theorem dMo_tick_14 : decode cMo_tick 14 = .ok (.getfield 125, 3) := by decide +kernel
theorem dMo_tick_17 : decode cMo_tick 17 = .ok (.if_icmp .ge 59, 3) := by decide +kernel
theorem dMo_tick_20 : decode cMo_tick 20 = .ok (.aload_n 0, 1) := by decide +kernel
theorem dMo_tick_21 : decode cMo_tick 21 = .ok (.getfield 191, 3) := by decide +kernel
theorem dMo_tick_24 : decode cMo_tick 24 = .ok (.bipush 8, 2) := by decide +kernel
theorem dMo_tick_26 : decode cMo_tick 26 = .ok (.irem, 1) := by decide +kernel
theorem dMo_tick_27 : decode cMo_tick 27 = .ok (.ifCond .ne 49, 3) := by decide +kernel
theorem dMo_tick_30 : decode cMo_tick 30 = .ok (.aload_n 0, 1) := by decide +kernel
theorem dMo_tick_31 : decode cMo_tick 31 = .ok (.getfield 13, 3) := by decide +kernel
theorem dMo_tick_34 : decode cMo_tick 34 = .ok (.aload_n 0, 1) := by decide +kernel
theorem dMo_tick_35 : decode cMo_tick 35 = .ok (.getfield 63, 3) := by decide +kernel
theorem dMo_tick_38 : decode cMo_tick 38 = .ok (.iload_n 1, 1) := by decide +kernel
theorem dMo_tick_39 : decode cMo_tick 39 = .ok (.iaload, 1) := by decide +kernel
theorem dMo_tick_40 : decode cMo_tick 40 = .ok (.iaload, 1) := by decide +kernel
theorem dMo_tick_41 : decode cMo_tick 41 = .ok (.istore_n 2, 1) := by decide +kernel
theorem dMo_tick_42 : decode cMo_tick 42 = .ok (.aload_n 0, 1) := by decide +kernel
theorem dMo_tick_43 : decode cMo_tick 43 = .ok (.iload_n 2, 1) := by decide +kernel
theorem dMo_tick_44 : decode cMo_tick 44 = .ok (.iload_n 1, 1) := by decide +kernel
theorem dMo_tick_45 : decode cMo_tick 45 = .ok (.invokevirtual 220, 3) := by decide +kernel
theorem dMo_tick_48 : decode cMo_tick 48 = .ok (.ifCond .ne 22, 3) := by decide +kernel
theorem dMo_tick_51 : decode cMo_tick 51 = .ok (.aload_n 0, 1) := by decide +kernel
theorem dMo_tick_52 : decode cMo_tick 52 = .ok (.getfield 84, 3) := by decide +kernel
theorem dMo_tick_55 : decode cMo_tick 55 = .ok (.iload_n 2, 1) := by decide +kernel
theorem dMo_tick_56 : decode cMo_tick 56 = .ok (.iaload, 1) := by decide +kernel
theorem dMo_tick_57 : decode cMo_tick 57 = .ok (.iconst 4, 1) := by decide +kernel
theorem dMo_tick_58 : decode cMo_tick 58 = .ok (.if_icmp .ge 12, 3) := by decide +kernel
theorem dMo_tick_61 : decode cMo_tick 61 = .ok (.aload_n 0, 1) := by decide +kernel
theorem dMo_tick_62 : decode cMo_tick 62 = .ok (.iload_n 2, 1) := by decide +kernel
theorem dMo_tick_63 : decode cMo_tick 63 = .ok (.bipush 64, 2) := by decide +kernel
theorem dMo_tick_65 : decode cMo_tick 65 = .ok (.iload_n 1, 1) := by decide +kernel
theorem dMo_tick_66 : decode cMo_tick 66 = .ok (.iadd, 1) := by decide +kernel
theorem dMo_tick_67 : decode cMo_tick 67 = .ok (.invokevirtual 132, 3) := by decide +kernel
theorem dMo_tick_70 : decode cMo_tick 70 = .ok (.iinc 1 1, 3) := by decide +kernel
theorem dMo_tick_73 : decode cMo_tick 73 = .ok (.goto (-61), 3) := by decide +kernel
theorem dMo_tick_76 : decode cMo_tick 76 = .ok (.iconst 0, 1) := by decide +kernel
theorem dMo_tick_77 : decode cMo_tick 77 = .ok (.istore_n 1, 1) := by decide +kernel
theorem dMo_tick_78 : decode cMo_tick 78 = .ok (.iload_n 1, 1) := by decide +kernel
theorem dMo_tick_79 : decode cMo_tick 79 = .ok (.iconst 2, 1) := by decide +kernel
theorem dMo_tick_80 : decode cMo_tick 80 = .ok (.if_icmp .ge 46, 3) := by decide +kernel
theorem dMo_tick_83 : decode cMo_tick 83 = .ok (.aload_n 0, 1) := by decide +kernel
theorem dMo_tick_84 : decode cMo_tick 84 = .ok (.getfield 87, 3) := by decide +kernel
theorem dMo_tick_87 : decode cMo_tick 87 = .ok (.iload_n 1, 1) := by decide +kernel
theorem dMo_tick_88 : decode cMo_tick 88 = .ok (.iaload, 1) := by decide +kernel
theorem dMo_tick_89 : decode cMo_tick 89 = .ok (.ifCond .lt 8, 3) := by decide +kernel
theorem dMo_tick_92 : decode cMo_tick 92 = .ok (.aload_n 0, 1) := by decide +kernel
theorem dMo_tick_93 : decode cMo_tick 93 = .ok (.iload_n 1, 1) := by decide +kernel
theorem dMo_tick_94 : decode cMo_tick 94 = .ok (.invokevirtual 224, 3) := by decide +kernel
theorem dMo_tick_97 : decode cMo_tick 97 = .ok (.aload_n 0, 1) := by decide +kernel
theorem dMo_tick_98 : decode cMo_tick 98 = .ok (.getfield 87, 3) := by decide +kernel
theorem dMo_tick_101 : decode cMo_tick 101 = .ok (.iload_n 1, 1) := by decide +kernel
theorem dMo_tick_102 : decode cMo_tick 102 = .ok (.iaload, 1) := by decide +kernel
theorem dMo_tick_103 : decode cMo_tick 103 = .ok (.ifCond .ge 17, 3) := by decide +kernel
theorem dMo_tick_106 : decode cMo_tick 106 = .ok (.aload_n 0, 1) := by decide +kernel
theorem dMo_tick_107 : decode cMo_tick 107 = .ok (.getfield 84, 3) := by decide +kernel
theorem dMo_tick_110 : decode cMo_tick 110 = .ok (.iload_n 1, 1) := by decide +kernel
theorem dMo_tick_111 : decode cMo_tick 111 = .ok (.iaload, 1) := by decide +kernel
theorem dMo_tick_112 : decode cMo_tick 112 = .ok (.ifCond .le 8, 3) := by decide +kernel
theorem dMo_tick_115 : decode cMo_tick 115 = .ok (.aload_n 0, 1) := by decide +kernel
theorem dMo_tick_116 : decode cMo_tick 116 = .ok (.iload_n 1, 1) := by decide +kernel
theorem dMo_tick_117 : decode cMo_tick 117 = .ok (.invokevirtual 227, 3) := by decide +kernel
theorem dMo_tick_120 : decode cMo_tick 120 = .ok (.iinc 1 1, 3) := by decide +kernel
theorem dMo_tick_123 : decode cMo_tick 123 = .ok (.goto (-45), 3) := by decide +kernel
theorem dMo_tick_126 : decode cMo_tick 126 = .ok (.aload_n 0, 1) := by decide +kernel
theorem dMo_tick_127 : decode cMo_tick 127 = .ok (.getfield 191, 3) := by decide +kernel
theorem dMo_tick_130 : decode cMo_tick 130 = .ok (.ireturn, 1) := by decide +kernel
theorem dMo_reply_0 : decode cMo_reply 0 = .ok (.iload_n 1, 1) := by decide +kernel
theorem dMo_reply_1 : decode cMo_reply 1 = .ok (.iconst 0, 1) := by decide +kernel
theorem dMo_reply_2 : decode cMo_reply 2 = .ok (.aload_n 0, 1) := by decide +kernel
theorem dMo_reply_3 : decode cMo_reply 3 = .ok (.getfield 129, 3) := by decide +kernel
theorem dMo_reply_6 : decode cMo_reply 6 = .ok (.iconst 1, 1) := by decide +kernel
theorem dMo_reply_7 : decode cMo_reply 7 = .ok (.isub, 1) := by decide +kernel
theorem dMo_reply_8 : decode cMo_reply 8 = .ok (.invokestatic 117, 3) := by decide +kernel
theorem dMo_reply_11 : decode cMo_reply 11 = .ok (.ifCond .eq 12, 3) := by decide +kernel
theorem dMo_reply_14 : decode cMo_reply 14 = .ok (.iload_n 2, 1) := by decide +kernel
theorem dMo_reply_15 : decode cMo_reply 15 = .ok (.iconst 0, 1) := by decide +kernel
theorem dMo_reply_16 : decode cMo_reply 16 = .ok (.iconst 2, 1) := by decide +kernel
theorem dMo_reply_17 : decode cMo_reply 17 = .ok (.invokestatic 117, 3) := by decide +kernel
theorem dMo_reply_20 : decode cMo_reply 20 = .ok (.ifCond .ne 7, 3) := by decide +kernel
theorem dMo_reply_23 : decode cMo_reply 23 = .ok (.ldc2_w 230, 3) := by decide +kernel
theorem dMo_reply_26 : decode cMo_reply 26 = .ok (.lreturn, 1) := by decide +kernel
theorem dMo_reply_27 : decode cMo_reply 27 = .ok (.iload_n 2, 1) := by decide +kernel
theorem dMo_reply_28 : decode cMo_reply 28 = .ok (.ifCond .ne 13, 3) := by decide +kernel
theorem dMo_reply_31 : decode cMo_reply 31 = .ok (.aload_n 0, 1) := by decide +kernel
theorem dMo_reply_32 : decode cMo_reply 32 = .ok (.getfield 54, 3) := by decide +kernel
theorem dMo_reply_35 : decode cMo_reply 35 = .ok (.iload_n 1, 1) := by decide +kernel
theorem dMo_reply_36 : decode cMo_reply 36 = .ok (.iaload, 1) := by decide +kernel
theorem dMo_reply_37 : decode cMo_reply 37 = .ok (.i2l, 1) := by decide +kernel
theorem dMo_reply_38 : decode cMo_reply 38 = .ok (.goto 24, 3) := by decide +kernel
theorem dMo_reply_41 : decode cMo_reply 41 = .ok (.iload_n 2, 1) := by decide +kernel
theorem dMo_reply_42 : decode cMo_reply 42 = .ok (.iconst 1, 1) := by decide +kernel
theorem dMo_reply_43 : decode cMo_reply 43 = .ok (.if_icmp .ne 13, 3) := by decide +kernel
theorem dMo_reply_46 : decode cMo_reply 46 = .ok (.aload_n 0, 1) := by decide +kernel
theorem dMo_reply_47 : decode cMo_reply 47 = .ok (.getfield 57, 3) := by decide +kernel
theorem dMo_reply_50 : decode cMo_reply 50 = .ok (.iload_n 1, 1) := by decide +kernel
theorem dMo_reply_51 : decode cMo_reply 51 = .ok (.iaload, 1) := by decide +kernel
theorem dMo_reply_52 : decode cMo_reply 52 = .ok (.i2l, 1) := by decide +kernel
theorem dMo_reply_53 : decode cMo_reply 53 = .ok (.goto 9, 3) := by decide +kernel
theorem dMo_reply_56 : decode cMo_reply 56 = .ok (.aload_n 0, 1) := by decide +kernel
theorem dMo_reply_57 : decode cMo_reply 57 = .ok (.getfield 60, 3) := by decide +kernel
theorem dMo_reply_60 : decode cMo_reply 60 = .ok (.iload_n 1, 1) := by decide +kernel
theorem dMo_reply_61 : decode cMo_reply 61 = .ok (.laload, 1) := by decide +kernel
theorem dMo_reply_62 : decode cMo_reply 62 = .ok (.lreturn, 1) := by decide +kernel
theorem dMo_line_0 : decode cMo_line 0 = .ok (.iload_n 1, 1) := by decide +kernel
theorem dMo_line_1 : decode cMo_line 1 = .ok (.iconst 0, 1) := by decide +kernel
theorem dMo_line_2 : decode cMo_line 2 = .ok (.iconst 1, 1) := by decide +kernel
theorem dMo_line_3 : decode cMo_line 3 = .ok (.invokestatic 117, 3) := by decide +kernel
theorem dMo_line_6 : decode cMo_line 6 = .ok (.ifCond .eq 12, 3) := by decide +kernel
theorem dMo_line_9 : decode cMo_line 9 = .ok (.iload_n 2, 1) := by decide +kernel
theorem dMo_line_10 : decode cMo_line 10 = .ok (.iconst 0, 1) := by decide +kernel
theorem dMo_line_11 : decode cMo_line 11 = .ok (.iconst 2, 1) := by decide +kernel
theorem dMo_line_12 : decode cMo_line 12 = .ok (.invokestatic 117, 3) := by decide +kernel
theorem dMo_line_15 : decode cMo_line 15 = .ok (.ifCond .ne 5, 3) := by decide +kernel
theorem dMo_line_18 : decode cMo_line 18 = .ok (.iconst (-1), 1) := by decide +kernel
theorem dMo_line_19 : decode cMo_line 19 = .ok (.ireturn, 1) := by decide +kernel
theorem dMo_line_20 : decode cMo_line 20 = .ok (.iload_n 2, 1) := by decide +kernel
theorem dMo_line_21 : decode cMo_line 21 = .ok (.ifCond .ne 10, 3) := by decide +kernel
theorem dMo_line_24 : decode cMo_line 24 = .ok (.aload_n 0, 1) := by decide +kernel
theorem dMo_line_25 : decode cMo_line 25 = .ok (.getfield 84, 3) := by decide +kernel
theorem dMo_line_28 : decode cMo_line 28 = .ok (.iload_n 1, 1) := by decide +kernel
theorem dMo_line_29 : decode cMo_line 29 = .ok (.iaload, 1) := by decide +kernel
theorem dMo_line_30 : decode cMo_line 30 = .ok (.ireturn, 1) := by decide +kernel
theorem dMo_line_31 : decode cMo_line 31 = .ok (.iload_n 2, 1) := by decide +kernel
theorem dMo_line_32 : decode cMo_line 32 = .ok (.iconst 2, 1) := by decide +kernel
theorem dMo_line_33 : decode cMo_line 33 = .ok (.if_icmp .ne 12, 3) := by decide +kernel
theorem dMo_line_36 : decode cMo_line 36 = .ok (.aload_n 0, 1) := by decide +kernel
theorem dMo_line_37 : decode cMo_line 37 = .ok (.getfield 87, 3) := by decide +kernel
theorem dMo_line_40 : decode cMo_line 40 = .ok (.iload_n 1, 1) := by decide +kernel
theorem dMo_line_41 : decode cMo_line 41 = .ok (.iaload, 1) := by decide +kernel
theorem dMo_line_42 : decode cMo_line 42 = .ok (.goto 22, 3) := by decide +kernel
theorem dMo_line_45 : decode cMo_line 45 = .ok (.aload_n 0, 1) := by decide +kernel
theorem dMo_line_46 : decode cMo_line 46 = .ok (.getfield 87, 3) := by decide +kernel
theorem dMo_line_49 : decode cMo_line 49 = .ok (.iload_n 1, 1) := by decide +kernel
theorem dMo_line_50 : decode cMo_line 50 = .ok (.iaload, 1) := by decide +kernel
theorem dMo_line_51 : decode cMo_line 51 = .ok (.ifCond .ge 7, 3) := by decide +kernel
theorem dMo_line_54 : decode cMo_line 54 = .ok (.iconst 0, 1) := by decide +kernel
theorem dMo_line_55 : decode cMo_line 55 = .ok (.goto 9, 3) := by decide +kernel
theorem dMo_line_58 : decode cMo_line 58 = .ok (.aload_n 0, 1) := by decide +kernel
theorem dMo_line_59 : decode cMo_line 59 = .ok (.getfield 90, 3) := by decide +kernel
theorem dMo_line_62 : decode cMo_line 62 = .ok (.iload_n 1, 1) := by decide +kernel
theorem dMo_line_63 : decode cMo_line 63 = .ok (.iaload, 1) := by decide +kernel
theorem dMo_line_64 : decode cMo_line 64 = .ok (.ireturn, 1) := by decide +kernel
theorem dMo_wire_0 : decode cMo_wire 0 = .ok (.iload_n 1, 1) := by decide +kernel
theorem dMo_wire_1 : decode cMo_wire 1 = .ok (.iconst 0, 1) := by decide +kernel
theorem dMo_wire_2 : decode cMo_wire 2 = .ok (.iconst 1, 1) := by decide +kernel
theorem dMo_wire_3 : decode cMo_wire 3 = .ok (.invokestatic 117, 3) := by decide +kernel
theorem dMo_wire_6 : decode cMo_wire 6 = .ok (.ifCond .ne 5, 3) := by decide +kernel
theorem dMo_wire_9 : decode cMo_wire 9 = .ok (.iconst (-1), 1) := by decide +kernel
theorem dMo_wire_10 : decode cMo_wire 10 = .ok (.ireturn, 1) := by decide +kernel
theorem dMo_wire_11 : decode cMo_wire 11 = .ok (.iload_n 2, 1) := by decide +kernel
theorem dMo_wire_12 : decode cMo_wire 12 = .ok (.ifCond .eq 9, 3) := by decide +kernel
theorem dMo_wire_15 : decode cMo_wire 15 = .ok (.iload_n 1, 1) := by decide +kernel
theorem dMo_wire_16 : decode cMo_wire 16 = .ok (.iconst 2, 1) := by decide +kernel
theorem dMo_wire_17 : decode cMo_wire 17 = .ok (.iadd, 1) := by decide +kernel
theorem dMo_wire_18 : decode cMo_wire 18 = .ok (.goto 4, 3) := by decide +kernel
theorem dMo_wire_21 : decode cMo_wire 21 = .ok (.iload_n 1, 1) := by decide +kernel
theorem dMo_wire_22 : decode cMo_wire 22 = .ok (.istore 4, 2) := by decide +kernel
theorem dMo_wire_24 : decode cMo_wire 24 = .ok (.iload_n 3, 1) := by decide +kernel
theorem dMo_wire_25 : decode cMo_wire 25 = .ok (.iconst (-1), 1) := by decide +kernel
theorem dMo_wire_26 : decode cMo_wire 26 = .ok (.if_icmp .ne 11, 3) := by decide +kernel
theorem dMo_wire_29 : decode cMo_wire 29 = .ok (.aload_n 0, 1) := by decide +kernel
theorem dMo_wire_30 : decode cMo_wire 30 = .ok (.getfield 114, 3) := by decide +kernel
theorem dMo_wire_33 : decode cMo_wire 33 = .ok (.iload 4, 2) := by decide +kernel
theorem dMo_wire_35 : decode cMo_wire 35 = .ok (.iaload, 1) := by decide +kernel
theorem dMo_wire_36 : decode cMo_wire 36 = .ok (.ireturn, 1) := by decide +kernel
theorem dMo_wire_37 : decode cMo_wire 37 = .ok (.iload_n 3, 1) := by decide +kernel
theorem dMo_wire_38 : decode cMo_wire 38 = .ok (.iconst 0, 1) := by decide +kernel
theorem dMo_wire_39 : decode cMo_wire 39 = .ok (.aload_n 0, 1) := by decide +kernel
theorem dMo_wire_40 : decode cMo_wire 40 = .ok (.getfield 114, 3) := by decide +kernel
theorem dMo_wire_43 : decode cMo_wire 43 = .ok (.iload 4, 2) := by decide +kernel
theorem dMo_wire_45 : decode cMo_wire 45 = .ok (.iaload, 1) := by decide +kernel
theorem dMo_wire_46 : decode cMo_wire 46 = .ok (.iconst 1, 1) := by decide +kernel
theorem dMo_wire_47 : decode cMo_wire 47 = .ok (.isub, 1) := by decide +kernel
theorem dMo_wire_48 : decode cMo_wire 48 = .ok (.invokestatic 117, 3) := by decide +kernel
theorem dMo_wire_51 : decode cMo_wire 51 = .ok (.ifCond .eq 18, 3) := by decide +kernel
theorem dMo_wire_54 : decode cMo_wire 54 = .ok (.aload_n 0, 1) := by decide +kernel
theorem dMo_wire_55 : decode cMo_wire 55 = .ok (.getfield 111, 3) := by decide +kernel
theorem dMo_wire_58 : decode cMo_wire 58 = .ok (.bipush 48, 2) := by decide +kernel
theorem dMo_wire_60 : decode cMo_wire 60 = .ok (.iload 4, 2) := by decide +kernel
theorem dMo_wire_62 : decode cMo_wire 62 = .ok (.imul, 1) := by decide +kernel
theorem dMo_wire_63 : decode cMo_wire 63 = .ok (.iload_n 3, 1) := by decide +kernel
theorem dMo_wire_64 : decode cMo_wire 64 = .ok (.iadd, 1) := by decide +kernel
theorem dMo_wire_65 : decode cMo_wire 65 = .ok (.iaload, 1) := by decide +kernel
theorem dMo_wire_66 : decode cMo_wire 66 = .ok (.goto 4, 3) := by decide +kernel
theorem dMo_wire_69 : decode cMo_wire 69 = .ok (.iconst (-1), 1) := by decide +kernel
theorem dMo_wire_70 : decode cMo_wire 70 = .ok (.ireturn, 1) := by decide +kernel
theorem dMo_sample_0 : decode cMo_sample 0 = .ok (.iload_n 1, 1) := by decide +kernel
theorem dMo_sample_1 : decode cMo_sample 1 = .ok (.iconst 0, 1) := by decide +kernel
theorem dMo_sample_2 : decode cMo_sample 2 = .ok (.aload_n 0, 1) := by decide +kernel
theorem dMo_sample_3 : decode cMo_sample 3 = .ok (.getfield 210, 3) := by decide +kernel
theorem dMo_sample_6 : decode cMo_sample 6 = .ok (.iconst 1, 1) := by decide +kernel
theorem dMo_sample_7 : decode cMo_sample 7 = .ok (.isub, 1) := by decide +kernel
theorem dMo_sample_8 : decode cMo_sample 8 = .ok (.invokestatic 117, 3) := by decide +kernel
theorem dMo_sample_11 : decode cMo_sample 11 = .ok (.ifCond .eq 25, 3) := by decide +kernel
theorem dMo_sample_14 : decode cMo_sample 14 = .ok (.iload_n 2, 1) := by decide +kernel
theorem dMo_sample_15 : decode cMo_sample 15 = .ok (.iconst 0, 1) := by decide +kernel
theorem dMo_sample_16 : decode cMo_sample 16 = .ok (.iconst 2, 1) := by decide +kernel
theorem dMo_sample_17 : decode cMo_sample 17 = .ok (.invokestatic 117, 3) := by decide +kernel
theorem dMo_sample_20 : decode cMo_sample 20 = .ok (.ifCond .eq 16, 3) := by decide +kernel
theorem dMo_sample_23 : decode cMo_sample 23 = .ok (.aload_n 0, 1) := by decide +kernel
theorem dMo_sample_24 : decode cMo_sample 24 = .ok (.getfield 78, 3) := by decide +kernel
theorem dMo_sample_27 : decode cMo_sample 27 = .ok (.iconst 3, 1) := by decide +kernel
theorem dMo_sample_28 : decode cMo_sample 28 = .ok (.iload_n 1, 1) := by decide +kernel
theorem dMo_sample_29 : decode cMo_sample 29 = .ok (.imul, 1) := by decide +kernel
theorem dMo_sample_30 : decode cMo_sample 30 = .ok (.iload_n 2, 1) := by decide +kernel
theorem dMo_sample_31 : decode cMo_sample 31 = .ok (.iadd, 1) := by decide +kernel
theorem dMo_sample_32 : decode cMo_sample 32 = .ok (.iaload, 1) := by decide +kernel
theorem dMo_sample_33 : decode cMo_sample 33 = .ok (.goto 4, 3) := by decide +kernel
theorem dMo_sample_36 : decode cMo_sample 36 = .ok (.iconst (-1), 1) := by decide +kernel
theorem dMo_sample_37 : decode cMo_sample 37 = .ok (.ireturn, 1) := by decide +kernel
theorem dMo_samples_0 : decode cMo_samples 0 = .ok (.iconst 0, 1) := by decide +kernel
theorem dMo_samples_1 : decode cMo_samples 1 = .ok (.istore 4, 2) := by decide +kernel
theorem dMo_samples_3 : decode cMo_samples 3 = .ok (.iconst 0, 1) := by decide +kernel
theorem dMo_samples_4 : decode cMo_samples 4 = .ok (.istore 5, 2) := by decide +kernel
theorem dMo_samples_6 : decode cMo_samples 6 = .ok (.iload 5, 2) := by decide +kernel
theorem dMo_samples_8 : decode cMo_samples 8 = .ok (.aload_n 0, 1) := by decide +kernel
theorem dMo_samples_9 : decode cMo_samples 9 = .ok (.getfield 210, 3) := by decide +kernel
theorem dMo_samples_12 : decode cMo_samples 12 = .ok (.if_icmp .ge 73, 3) := by decide +kernel
theorem dMo_samples_15 : decode cMo_samples 15 = .ok (.aload_n 0, 1) := by decide +kernel
theorem dMo_samples_16 : decode cMo_samples 16 = .ok (.getfield 78, 3) := by decide +kernel
theorem dMo_samples_19 : decode cMo_samples 19 = .ok (.iconst 3, 1) := by decide +kernel
theorem dMo_samples_20 : decode cMo_samples 20 = .ok (.iload 5, 2) := by decide +kernel
theorem dMo_samples_22 : decode cMo_samples 22 = .ok (.imul, 1) := by decide +kernel
theorem dMo_samples_23 : decode cMo_samples 23 = .ok (.iconst 1, 1) := by decide +kernel
theorem dMo_samples_24 : decode cMo_samples 24 = .ok (.iadd, 1) := by decide +kernel
theorem dMo_samples_25 : decode cMo_samples 25 = .ok (.iaload, 1) := by decide +kernel
theorem dMo_samples_26 : decode cMo_samples 26 = .ok (.iload_n 1, 1) := by decide +kernel
theorem dMo_samples_27 : decode cMo_samples 27 = .ok (.if_icmp .ne 33, 3) := by decide +kernel
theorem dMo_samples_30 : decode cMo_samples 30 = .ok (.aload_n 0, 1) := by decide +kernel
theorem dMo_samples_31 : decode cMo_samples 31 = .ok (.getfield 78, 3) := by decide +kernel
theorem dMo_samples_34 : decode cMo_samples 34 = .ok (.iconst 3, 1) := by decide +kernel
theorem dMo_samples_35 : decode cMo_samples 35 = .ok (.iload 5, 2) := by decide +kernel
theorem dMo_samples_37 : decode cMo_samples 37 = .ok (.imul, 1) := by decide +kernel
theorem dMo_samples_38 : decode cMo_samples 38 = .ok (.iaload, 1) := by decide +kernel
theorem dMo_samples_39 : decode cMo_samples 39 = .ok (.iload_n 2, 1) := by decide +kernel
theorem dMo_samples_40 : decode cMo_samples 40 = .ok (.if_icmp .lt 20, 3) := by decide +kernel
theorem dMo_samples_43 : decode cMo_samples 43 = .ok (.aload_n 0, 1) := by decide +kernel
theorem dMo_samples_44 : decode cMo_samples 44 = .ok (.getfield 78, 3) := by decide +kernel
theorem dMo_samples_47 : decode cMo_samples 47 = .ok (.iconst 3, 1) := by decide +kernel
theorem dMo_samples_48 : decode cMo_samples 48 = .ok (.iload 5, 2) := by decide +kernel
theorem dMo_samples_50 : decode cMo_samples 50 = .ok (.imul, 1) := by decide +kernel
theorem dMo_samples_51 : decode cMo_samples 51 = .ok (.iaload, 1) := by decide +kernel
theorem dMo_samples_52 : decode cMo_samples 52 = .ok (.iload_n 3, 1) := by decide +kernel
theorem dMo_samples_53 : decode cMo_samples 53 = .ok (.if_icmp .gt 7, 3) := by decide +kernel
theorem dMo_samples_56 : decode cMo_samples 56 = .ok (.iconst 1, 1) := by decide +kernel
theorem dMo_samples_57 : decode cMo_samples 57 = .ok (.goto 4, 3) := by decide +kernel
theorem dMo_samples_60 : decode cMo_samples 60 = .ok (.iconst 0, 1) := by decide +kernel
theorem dMo_samples_61 : decode cMo_samples 61 = .ok (.istore 6, 2) := by decide +kernel
theorem dMo_samples_63 : decode cMo_samples 63 = .ok (.iload 6, 2) := by decide +kernel
theorem dMo_samples_65 : decode cMo_samples 65 = .ok (.ifCond .eq 10, 3) := by decide +kernel
theorem dMo_samples_68 : decode cMo_samples 68 = .ok (.iload 4, 2) := by decide +kernel
theorem dMo_samples_70 : decode cMo_samples 70 = .ok (.iconst 1, 1) := by decide +kernel
theorem dMo_samples_71 : decode cMo_samples 71 = .ok (.iadd, 1) := by decide +kernel
theorem dMo_samples_72 : decode cMo_samples 72 = .ok (.goto 5, 3) := by decide +kernel
theorem dMo_samples_75 : decode cMo_samples 75 = .ok (.iload 4, 2) := by decide +kernel
theorem dMo_samples_77 : decode cMo_samples 77 = .ok (.istore 4, 2) := by decide +kernel
theorem dMo_samples_79 : decode cMo_samples 79 = .ok (.iinc 5 1, 3) := by decide +kernel
theorem dMo_samples_82 : decode cMo_samples 82 = .ok (.goto (-76), 3) := by decide +kernel
theorem dMo_samples_85 : decode cMo_samples 85 = .ok (.iload 4, 2) := by decide +kernel
theorem dMo_samples_87 : decode cMo_samples 87 = .ok (.ireturn, 1) := by decide +kernel
def fMo_init_L272 (t0 : Nat) : Int32 × Ws → Option ((Int32 × Ws) ⊕ (Ws)) :=
  fun (i36, S37) => if (2 : Int32) ≤ i36 then some (.inr S37) else (gR S37 t0 [8] 29).bind fun r40 => (r40).bind fun a41 => (sI S37 a41 0 i36 (-1 : Int32)).bind fun S42 => (gR S42 t0 [8] 32).bind fun r43 => (r43).bind fun a44 => (sI S42 a44 0 i36 (-1 : Int32)).bind fun S45 => some (.inl (i36 + 1, S45))
def fMo_init (t0 : Nat) (S : Ws) : Option (Ws) :=
  (pV (S.add (.inl (1, 7, .inl (fun _ => 0)))) t0 [8] 1 (.ref S.1)).bind fun S1 => (pV (S1.add (.inl (0, 7, .inl (fun _ => 0)))) t0 [8] 2 (.ref S1.1)).bind fun S2 => (pV (S2.add (.inl (0, 7, .inl (fun _ => 0)))) t0 [8] 3 (.ref S2.1)).bind fun S3 => (pV (S3.add (.inl (1, 7, .inl (fun _ => 0)))) t0 [8] 4 (.ref S3.1)).bind fun S4 => (pV (S4.add (.inl (1, 7, .inl (fun _ => 0)))) t0 [8] 5 (.ref S4.1)).bind fun S5 => (pV (S5.add (.inl (0, 112, .inl (fun _ => 0)))) t0 [8] 6 (.ref S5.1)).bind fun S6 => (pV (S6.add (.inl (0, 112, .inl (fun _ => 0)))) t0 [8] 7 (.ref S6.1)).bind fun S7 => (pV (S7.add (.inl (0, 56, .inl (fun _ => 0)))) t0 [8] 8 (.ref S7.1)).bind fun S8 => (pV (S8.add (.inl (0, 56, .inl (fun _ => 0)))) t0 [8] 9 (.ref S8.1)).bind fun S9 => (pV (S9.add (.inl (0, 64, .inl (fun _ => 0)))) t0 [8] 11 (.ref S9.1)).bind fun S10 => (pV (S10.add (.inl (0, 64, .inl (fun _ => 0)))) t0 [8] 12 (.ref S10.1)).bind fun S11 => (pV (S11.add (.inl (0, 64, .inl (fun _ => 0)))) t0 [8] 13 (.ref S11.1)).bind fun S12 => (pV (S12.add (.inl (0, 64, .inl (fun _ => 0)))) t0 [8] 14 (.ref S12.1)).bind fun S13 => (pV (S13.add (.inl (2, 64, .inr (.inl (fun _ => 0))))) t0 [8] 15 (.ref S13.1)).bind fun S14 => (pV (S14.add (.inl (0, 64, .inl (fun _ => 0)))) t0 [8] 16 (.ref S14.1)).bind fun S15 => (pV (S15.add (.inl (0, 64, .inl (fun _ => 0)))) t0 [8] 17 (.ref S15.1)).bind fun S16 => (pV (S16.add (.inl (2, 64, .inr (.inl (fun _ => 0))))) t0 [8] 18 (.ref S16.1)).bind fun S17 => (pV (S17.add (.inl (0, 4, .inl (fun _ => 0)))) t0 [8] 20 (.ref S17.1)).bind fun S18 => (pV (S18.add (.inl (0, 4, .inl (fun _ => 0)))) t0 [8] 21 (.ref S18.1)).bind fun S19 => (pV (S19.add (.inl (0, 4, .inl (fun _ => 0)))) t0 [8] 22 (.ref S19.1)).bind fun S20 => (pV (S20.add (.inl (1, 4, .inl (fun _ => 0)))) t0 [8] 23 (.ref S20.1)).bind fun S21 => (pV (S21.add (.inl (0, 4, .inl (fun _ => 0)))) t0 [8] 24 (.ref S21.1)).bind fun S22 => (pV (S22.add (.inl (0, 36, .inl (fun _ => 0)))) t0 [8] 26 (.ref S22.1)).bind fun S23 => (pV (S23.add (.inl (0, 8, .inl (fun _ => 0)))) t0 [8] 27 (.ref S23.1)).bind fun S24 => (pV (S24.add (.inl (0, 2, .inl (fun _ => 0)))) t0 [8] 28 (.ref S24.1)).bind fun S25 => (pV (S25.add (.inl (0, 2, .inl (fun _ => 0)))) t0 [8] 29 (.ref S25.1)).bind fun S26 => (pV (S26.add (.inl (0, 2, .inl (fun _ => 0)))) t0 [8] 30 (.ref S26.1)).bind fun S27 => (pV (S27.add (.inl (0, 2, .inl (fun _ => 0)))) t0 [8] 31 (.ref S27.1)).bind fun S28 => (pV (S28.add (.inl (0, 2, .inl (fun _ => 0)))) t0 [8] 32 (.ref S28.1)).bind fun S29 => (pV (S29.add (.inl (0, 2, .inl (fun _ => 0)))) t0 [8] 33 (.ref S29.1)).bind fun S30 => (pV (S30.add (.inl (2, 2, .inr (.inl (fun _ => 0))))) t0 [8] 34 (.ref S30.1)).bind fun S31 => (pV (S31.add (.inl (1, 2, .inl (fun _ => 0)))) t0 [8] 35 (.ref S31.1)).bind fun S32 => (pV (S32.add (.inl (1, 2, .inl (fun _ => 0)))) t0 [8] 36 (.ref S32.1)).bind fun S33 => (pV (S33.add (.inl (0, 192, .inl (fun _ => 0)))) t0 [8] 37 (.ref S33.1)).bind fun S34 => (pV (S34.add (.inl (0, 4, .inl (fun _ => 0)))) t0 [8] 38 (.ref S34.1)).bind fun S35 => (lp (fMo_init_L272 t0) 1000 ((0 : Int32), S35)).bind fun S39 => some S39
set_option maxRecDepth 100000 in
set_option maxHeartbeats 4000000 in
theorem kMo_init (l : Launch) (D : va_G) (tc : Nat → ClassId) (b : Nat) (t0 : Nat) (S Sz : Ws) (h : fMo_init t0 S = some Sz) : Met l yMo_init wsMo_init { frames := 1, cells := 35, slots := 1161, locals := 40 } (va_Pc [.ref t0] (Wp D vwCl (hTy tc) b S)) (va_Qv (fun _ : Unit => True) (fun _ => Wp D vwCl (hTy tc) b Sz) (fun q => b ≤ q)) 35 1161 (fun q => b ≤ q) := by
  refine hq_ofW (cc := cMo_init) (maxL := 2) (ret := none) (by decide) rfl (Nat.le_of_ble_eq_true rfl) fun p e s m args below meth c hx hb hr hts hown hlocks hnm hml H locs ls hl hW => ?_
  have hts : ∀ w ∈ lwG, w.before args s = true := fun w h => hts w (List.mem_cons_of_mem _ h)
  have hown : s.vm.findClass "SerialPlantModel" = some m.cls := hown
  have hl : lv_has ls 2 [(0, .ref t0)] := hl
  unfold fMo_init at h
  refine lv_aload_n hx hb dMo_init_0 rfl (lv_at hl 0 rfl) ?_
  refine W.objInit hx hb hown (hts _ w_601) (hts _ w_17) (hts _ w_oi) rfl (by rw [hml]; exact hl.1) rfl dMo_init_1 (Nat.le_of_ble_eq_true rfl) (Nat.le_of_ble_eq_true rfl) ?_
  refine W.eq (g2 := F0 m 4 ls []) rfl ?_
  refine lv_aload_n hx hb dMo_init_4 rfl (lv_at hl 0 rfl) ?_
  refine lv_bipush hx hb dMo_init_5 (v := (7 : Int32)) rfl ?_
  refine hq_newa (atype := .boolean) (ty := .boolean) (N := 7) (a0 := .inl (fun _ => 0)) (ce := 1) (sl := 7) hx hb (hts _ w_726) rfl (fun _ h => by cases h) hW 1 rfl (fun _ => rfl) (by decide) rfl (by decide) rfl rfl (Nat.le_of_ble_eq_true rfl) (Nat.le_of_ble_eq_true rfl) dMo_init_7 (fun H hW => ?_)
  replace h := ob h; obtain ⟨S1, eS1, h⟩ := h
  refine hq_put hx hb hts hown hW eS1 (F_Mo_7 hts) (P_Mo_Mo_1 hnm) rfl rfl dMo_init_9 (fun H locs hW => ?_)
  refine lv_aload_n hx hb dMo_init_12 rfl (lv_at hl 0 rfl) ?_
  refine lv_bipush hx hb dMo_init_13 (v := (7 : Int32)) rfl ?_
  refine hq_newa (atype := .int) (ty := .int) (N := 7) (a0 := .inl (fun _ => 0)) (ce := 2) (sl := 14) hx hb (hts _ w_56) rfl (fun _ h => by cases h) hW 0 rfl (fun _ => rfl) (by decide) rfl (by decide) rfl rfl (Nat.le_of_ble_eq_true rfl) (Nat.le_of_ble_eq_true rfl) dMo_init_15 (fun H hW => ?_)
  replace h := ob h; obtain ⟨S2, eS2, h⟩ := h
  refine hq_put hx hb hts hown hW eS2 (F_Mo_13 hts) (P_Mo_Mo_2 hnm) rfl rfl dMo_init_17 (fun H locs hW => ?_)
  refine lv_aload_n hx hb dMo_init_20 rfl (lv_at hl 0 rfl) ?_
  refine lv_bipush hx hb dMo_init_21 (v := (7 : Int32)) rfl ?_
  refine hq_newa (atype := .int) (ty := .int) (N := 7) (a0 := .inl (fun _ => 0)) (ce := 3) (sl := 21) hx hb (hts _ w_56) rfl (fun _ h => by cases h) hW 0 rfl (fun _ => rfl) (by decide) rfl (by decide) rfl rfl (Nat.le_of_ble_eq_true rfl) (Nat.le_of_ble_eq_true rfl) dMo_init_23 (fun H hW => ?_)
  replace h := ob h; obtain ⟨S3, eS3, h⟩ := h
  refine hq_put hx hb hts hown hW eS3 (F_Mo_17 hts) (P_Mo_Mo_3 hnm) rfl rfl dMo_init_25 (fun H locs hW => ?_)
  refine lv_aload_n hx hb dMo_init_28 rfl (lv_at hl 0 rfl) ?_
  refine lv_bipush hx hb dMo_init_29 (v := (7 : Int32)) rfl ?_
  refine hq_newa (atype := .boolean) (ty := .boolean) (N := 7) (a0 := .inl (fun _ => 0)) (ce := 4) (sl := 28) hx hb (hts _ w_726) rfl (fun _ h => by cases h) hW 1 rfl (fun _ => rfl) (by decide) rfl (by decide) rfl rfl (Nat.le_of_ble_eq_true rfl) (Nat.le_of_ble_eq_true rfl) dMo_init_31 (fun H hW => ?_)
  replace h := ob h; obtain ⟨S4, eS4, h⟩ := h
  refine hq_put hx hb hts hown hW eS4 (F_Mo_20 hts) (P_Mo_Mo_4 hnm) rfl rfl dMo_init_33 (fun H locs hW => ?_)
  refine lv_aload_n hx hb dMo_init_36 rfl (lv_at hl 0 rfl) ?_
  refine lv_bipush hx hb dMo_init_37 (v := (7 : Int32)) rfl ?_
  refine hq_newa (atype := .boolean) (ty := .boolean) (N := 7) (a0 := .inl (fun _ => 0)) (ce := 5) (sl := 35) hx hb (hts _ w_726) rfl (fun _ h => by cases h) hW 1 rfl (fun _ => rfl) (by decide) rfl (by decide) rfl rfl (Nat.le_of_ble_eq_true rfl) (Nat.le_of_ble_eq_true rfl) dMo_init_39 (fun H hW => ?_)
  replace h := ob h; obtain ⟨S5, eS5, h⟩ := h
  refine hq_put hx hb hts hown hW eS5 (F_Mo_23 hts) (P_Mo_Mo_5 hnm) rfl rfl dMo_init_41 (fun H locs hW => ?_)
  refine lv_aload_n hx hb dMo_init_44 rfl (lv_at hl 0 rfl) ?_
  refine lv_bipush hx hb dMo_init_45 (v := (112 : Int32)) rfl ?_
  refine hq_newa (atype := .int) (ty := .int) (N := 112) (a0 := .inl (fun _ => 0)) (ce := 6) (sl := 147) hx hb (hts _ w_56) rfl (fun _ h => by cases h) hW 0 rfl (fun _ => rfl) (by decide) rfl (by decide) rfl rfl (Nat.le_of_ble_eq_true rfl) (Nat.le_of_ble_eq_true rfl) dMo_init_47 (fun H hW => ?_)
  replace h := ob h; obtain ⟨S6, eS6, h⟩ := h
  refine hq_put hx hb hts hown hW eS6 (F_Mo_26 hts) (P_Mo_Mo_6 hnm) rfl rfl dMo_init_49 (fun H locs hW => ?_)
  refine lv_aload_n hx hb dMo_init_52 rfl (lv_at hl 0 rfl) ?_
  refine lv_bipush hx hb dMo_init_53 (v := (112 : Int32)) rfl ?_
  refine hq_newa (atype := .int) (ty := .int) (N := 112) (a0 := .inl (fun _ => 0)) (ce := 7) (sl := 259) hx hb (hts _ w_56) rfl (fun _ h => by cases h) hW 0 rfl (fun _ => rfl) (by decide) rfl (by decide) rfl rfl (Nat.le_of_ble_eq_true rfl) (Nat.le_of_ble_eq_true rfl) dMo_init_55 (fun H hW => ?_)
  replace h := ob h; obtain ⟨S7, eS7, h⟩ := h
  refine hq_put hx hb hts hown hW eS7 (F_Mo_29 hts) (P_Mo_Mo_7 hnm) rfl rfl dMo_init_57 (fun H locs hW => ?_)
  refine lv_aload_n hx hb dMo_init_60 rfl (lv_at hl 0 rfl) ?_
  refine lv_bipush hx hb dMo_init_61 (v := (56 : Int32)) rfl ?_
  refine hq_newa (atype := .int) (ty := .int) (N := 56) (a0 := .inl (fun _ => 0)) (ce := 8) (sl := 315) hx hb (hts _ w_56) rfl (fun _ h => by cases h) hW 0 rfl (fun _ => rfl) (by decide) rfl (by decide) rfl rfl (Nat.le_of_ble_eq_true rfl) (Nat.le_of_ble_eq_true rfl) dMo_init_63 (fun H hW => ?_)
  replace h := ob h; obtain ⟨S8, eS8, h⟩ := h
  refine hq_put hx hb hts hown hW eS8 (F_Mo_32 hts) (P_Mo_Mo_8 hnm) rfl rfl dMo_init_65 (fun H locs hW => ?_)
  refine lv_aload_n hx hb dMo_init_68 rfl (lv_at hl 0 rfl) ?_
  refine lv_bipush hx hb dMo_init_69 (v := (56 : Int32)) rfl ?_
  refine hq_newa (atype := .int) (ty := .int) (N := 56) (a0 := .inl (fun _ => 0)) (ce := 9) (sl := 371) hx hb (hts _ w_56) rfl (fun _ h => by cases h) hW 0 rfl (fun _ => rfl) (by decide) rfl (by decide) rfl rfl (Nat.le_of_ble_eq_true rfl) (Nat.le_of_ble_eq_true rfl) dMo_init_71 (fun H hW => ?_)
  replace h := ob h; obtain ⟨S9, eS9, h⟩ := h
  refine hq_put hx hb hts hown hW eS9 (F_Mo_35 hts) (P_Mo_Mo_9 hnm) rfl rfl dMo_init_73 (fun H locs hW => ?_)
  refine lv_aload_n hx hb dMo_init_76 rfl (lv_at hl 0 rfl) ?_
  refine lv_bipush hx hb dMo_init_77 (v := (64 : Int32)) rfl ?_
  refine hq_newa (atype := .int) (ty := .int) (N := 64) (a0 := .inl (fun _ => 0)) (ce := 10) (sl := 435) hx hb (hts _ w_56) rfl (fun _ h => by cases h) hW 0 rfl (fun _ => rfl) (by decide) rfl (by decide) rfl rfl (Nat.le_of_ble_eq_true rfl) (Nat.le_of_ble_eq_true rfl) dMo_init_79 (fun H hW => ?_)
  replace h := ob h; obtain ⟨S10, eS10, h⟩ := h
  refine hq_put hx hb hts hown hW eS10 (F_Mo_38 hts) (P_Mo_Mo_11 hnm) rfl rfl dMo_init_81 (fun H locs hW => ?_)
  refine lv_aload_n hx hb dMo_init_84 rfl (lv_at hl 0 rfl) ?_
  refine lv_bipush hx hb dMo_init_85 (v := (64 : Int32)) rfl ?_
  refine hq_newa (atype := .int) (ty := .int) (N := 64) (a0 := .inl (fun _ => 0)) (ce := 11) (sl := 499) hx hb (hts _ w_56) rfl (fun _ h => by cases h) hW 0 rfl (fun _ => rfl) (by decide) rfl (by decide) rfl rfl (Nat.le_of_ble_eq_true rfl) (Nat.le_of_ble_eq_true rfl) dMo_init_87 (fun H hW => ?_)
  replace h := ob h; obtain ⟨S11, eS11, h⟩ := h
  refine hq_put hx hb hts hown hW eS11 (F_Mo_41 hts) (P_Mo_Mo_12 hnm) rfl rfl dMo_init_89 (fun H locs hW => ?_)
  refine lv_aload_n hx hb dMo_init_92 rfl (lv_at hl 0 rfl) ?_
  refine lv_bipush hx hb dMo_init_93 (v := (64 : Int32)) rfl ?_
  refine hq_newa (atype := .int) (ty := .int) (N := 64) (a0 := .inl (fun _ => 0)) (ce := 12) (sl := 563) hx hb (hts _ w_56) rfl (fun _ h => by cases h) hW 0 rfl (fun _ => rfl) (by decide) rfl (by decide) rfl rfl (Nat.le_of_ble_eq_true rfl) (Nat.le_of_ble_eq_true rfl) dMo_init_95 (fun H hW => ?_)
  replace h := ob h; obtain ⟨S12, eS12, h⟩ := h
  refine hq_put hx hb hts hown hW eS12 (F_Mo_44 hts) (P_Mo_Mo_13 hnm) rfl rfl dMo_init_97 (fun H locs hW => ?_)
  refine lv_aload_n hx hb dMo_init_100 rfl (lv_at hl 0 rfl) ?_
  refine lv_bipush hx hb dMo_init_101 (v := (64 : Int32)) rfl ?_
  refine hq_newa (atype := .int) (ty := .int) (N := 64) (a0 := .inl (fun _ => 0)) (ce := 13) (sl := 627) hx hb (hts _ w_56) rfl (fun _ h => by cases h) hW 0 rfl (fun _ => rfl) (by decide) rfl (by decide) rfl rfl (Nat.le_of_ble_eq_true rfl) (Nat.le_of_ble_eq_true rfl) dMo_init_103 (fun H hW => ?_)
  replace h := ob h; obtain ⟨S13, eS13, h⟩ := h
  refine hq_put hx hb hts hown hW eS13 (F_Mo_47 hts) (P_Mo_Mo_14 hnm) rfl rfl dMo_init_105 (fun H locs hW => ?_)
  refine lv_aload_n hx hb dMo_init_108 rfl (lv_at hl 0 rfl) ?_
  refine lv_bipush hx hb dMo_init_109 (v := (64 : Int32)) rfl ?_
  refine hq_newa (atype := .long) (ty := .long) (N := 64) (a0 := .inr (.inl (fun _ => 0))) (ce := 14) (sl := 691) hx hb (hts _ w_727) rfl (fun _ h => by cases h) hW 2 rfl (fun _ => rfl) (by decide) rfl (by decide) rfl rfl (Nat.le_of_ble_eq_true rfl) (Nat.le_of_ble_eq_true rfl) dMo_init_111 (fun H hW => ?_)
  replace h := ob h; obtain ⟨S14, eS14, h⟩ := h
  refine hq_put hx hb hts hown hW eS14 (F_Mo_50 hts) (P_Mo_Mo_15 hnm) rfl rfl dMo_init_113 (fun H locs hW => ?_)
  refine lv_aload_n hx hb dMo_init_116 rfl (lv_at hl 0 rfl) ?_
  refine lv_bipush hx hb dMo_init_117 (v := (64 : Int32)) rfl ?_
  refine hq_newa (atype := .int) (ty := .int) (N := 64) (a0 := .inl (fun _ => 0)) (ce := 15) (sl := 755) hx hb (hts _ w_56) rfl (fun _ h => by cases h) hW 0 rfl (fun _ => rfl) (by decide) rfl (by decide) rfl rfl (Nat.le_of_ble_eq_true rfl) (Nat.le_of_ble_eq_true rfl) dMo_init_119 (fun H hW => ?_)
  replace h := ob h; obtain ⟨S15, eS15, h⟩ := h
  refine hq_put hx hb hts hown hW eS15 (F_Mo_54 hts) (P_Mo_Mo_16 hnm) rfl rfl dMo_init_121 (fun H locs hW => ?_)
  refine lv_aload_n hx hb dMo_init_124 rfl (lv_at hl 0 rfl) ?_
  refine lv_bipush hx hb dMo_init_125 (v := (64 : Int32)) rfl ?_
  refine hq_newa (atype := .int) (ty := .int) (N := 64) (a0 := .inl (fun _ => 0)) (ce := 16) (sl := 819) hx hb (hts _ w_56) rfl (fun _ h => by cases h) hW 0 rfl (fun _ => rfl) (by decide) rfl (by decide) rfl rfl (Nat.le_of_ble_eq_true rfl) (Nat.le_of_ble_eq_true rfl) dMo_init_127 (fun H hW => ?_)
  replace h := ob h; obtain ⟨S16, eS16, h⟩ := h
  refine hq_put hx hb hts hown hW eS16 (F_Mo_57 hts) (P_Mo_Mo_17 hnm) rfl rfl dMo_init_129 (fun H locs hW => ?_)
  refine lv_aload_n hx hb dMo_init_132 rfl (lv_at hl 0 rfl) ?_
  refine lv_bipush hx hb dMo_init_133 (v := (64 : Int32)) rfl ?_
  refine hq_newa (atype := .long) (ty := .long) (N := 64) (a0 := .inr (.inl (fun _ => 0))) (ce := 17) (sl := 883) hx hb (hts _ w_727) rfl (fun _ h => by cases h) hW 2 rfl (fun _ => rfl) (by decide) rfl (by decide) rfl rfl (Nat.le_of_ble_eq_true rfl) (Nat.le_of_ble_eq_true rfl) dMo_init_135 (fun H hW => ?_)
  replace h := ob h; obtain ⟨S17, eS17, h⟩ := h
  refine hq_put hx hb hts hown hW eS17 (F_Mo_60 hts) (P_Mo_Mo_18 hnm) rfl rfl dMo_init_137 (fun H locs hW => ?_)
  refine lv_aload_n hx hb dMo_init_140 rfl (lv_at hl 0 rfl) ?_
  refine lv_iconst hx hb dMo_init_141 (v := (4 : Int32)) rfl ?_
  refine hq_newa (atype := .int) (ty := .int) (N := 4) (a0 := .inl (fun _ => 0)) (ce := 18) (sl := 887) hx hb (hts _ w_56) rfl (fun _ h => by cases h) hW 0 rfl (fun _ => rfl) (by decide) rfl (by decide) rfl rfl (Nat.le_of_ble_eq_true rfl) (Nat.le_of_ble_eq_true rfl) dMo_init_142 (fun H hW => ?_)
  replace h := ob h; obtain ⟨S18, eS18, h⟩ := h
  refine hq_put hx hb hts hown hW eS18 (F_Mo_63 hts) (P_Mo_Mo_20 hnm) rfl rfl dMo_init_144 (fun H locs hW => ?_)
  refine lv_aload_n hx hb dMo_init_147 rfl (lv_at hl 0 rfl) ?_
  refine lv_iconst hx hb dMo_init_148 (v := (4 : Int32)) rfl ?_
  refine hq_newa (atype := .int) (ty := .int) (N := 4) (a0 := .inl (fun _ => 0)) (ce := 19) (sl := 891) hx hb (hts _ w_56) rfl (fun _ h => by cases h) hW 0 rfl (fun _ => rfl) (by decide) rfl (by decide) rfl rfl (Nat.le_of_ble_eq_true rfl) (Nat.le_of_ble_eq_true rfl) dMo_init_149 (fun H hW => ?_)
  replace h := ob h; obtain ⟨S19, eS19, h⟩ := h
  refine hq_put hx hb hts hown hW eS19 (F_Mo_66 hts) (P_Mo_Mo_21 hnm) rfl rfl dMo_init_151 (fun H locs hW => ?_)
  refine lv_aload_n hx hb dMo_init_154 rfl (lv_at hl 0 rfl) ?_
  refine lv_iconst hx hb dMo_init_155 (v := (4 : Int32)) rfl ?_
  refine hq_newa (atype := .int) (ty := .int) (N := 4) (a0 := .inl (fun _ => 0)) (ce := 20) (sl := 895) hx hb (hts _ w_56) rfl (fun _ h => by cases h) hW 0 rfl (fun _ => rfl) (by decide) rfl (by decide) rfl rfl (Nat.le_of_ble_eq_true rfl) (Nat.le_of_ble_eq_true rfl) dMo_init_156 (fun H hW => ?_)
  replace h := ob h; obtain ⟨S20, eS20, h⟩ := h
  refine hq_put hx hb hts hown hW eS20 (F_Mo_69 hts) (P_Mo_Mo_22 hnm) rfl rfl dMo_init_158 (fun H locs hW => ?_)
  refine lv_aload_n hx hb dMo_init_161 rfl (lv_at hl 0 rfl) ?_
  refine lv_iconst hx hb dMo_init_162 (v := (4 : Int32)) rfl ?_
  refine hq_newa (atype := .boolean) (ty := .boolean) (N := 4) (a0 := .inl (fun _ => 0)) (ce := 21) (sl := 899) hx hb (hts _ w_726) rfl (fun _ h => by cases h) hW 1 rfl (fun _ => rfl) (by decide) rfl (by decide) rfl rfl (Nat.le_of_ble_eq_true rfl) (Nat.le_of_ble_eq_true rfl) dMo_init_163 (fun H hW => ?_)
  replace h := ob h; obtain ⟨S21, eS21, h⟩ := h
  refine hq_put hx hb hts hown hW eS21 (F_Mo_72 hts) (P_Mo_Mo_23 hnm) rfl rfl dMo_init_165 (fun H locs hW => ?_)
  refine lv_aload_n hx hb dMo_init_168 rfl (lv_at hl 0 rfl) ?_
  refine lv_iconst hx hb dMo_init_169 (v := (4 : Int32)) rfl ?_
  refine hq_newa (atype := .int) (ty := .int) (N := 4) (a0 := .inl (fun _ => 0)) (ce := 22) (sl := 903) hx hb (hts _ w_56) rfl (fun _ h => by cases h) hW 0 rfl (fun _ => rfl) (by decide) rfl (by decide) rfl rfl (Nat.le_of_ble_eq_true rfl) (Nat.le_of_ble_eq_true rfl) dMo_init_170 (fun H hW => ?_)
  replace h := ob h; obtain ⟨S22, eS22, h⟩ := h
  refine hq_put hx hb hts hown hW eS22 (F_Mo_75 hts) (P_Mo_Mo_24 hnm) rfl rfl dMo_init_172 (fun H locs hW => ?_)
  refine lv_aload_n hx hb dMo_init_175 rfl (lv_at hl 0 rfl) ?_
  refine lv_bipush hx hb dMo_init_176 (v := (36 : Int32)) rfl ?_
  refine hq_newa (atype := .int) (ty := .int) (N := 36) (a0 := .inl (fun _ => 0)) (ce := 23) (sl := 939) hx hb (hts _ w_56) rfl (fun _ h => by cases h) hW 0 rfl (fun _ => rfl) (by decide) rfl (by decide) rfl rfl (Nat.le_of_ble_eq_true rfl) (Nat.le_of_ble_eq_true rfl) dMo_init_178 (fun H hW => ?_)
  replace h := ob h; obtain ⟨S23, eS23, h⟩ := h
  refine hq_put hx hb hts hown hW eS23 (F_Mo_78 hts) (P_Mo_Mo_26 hnm) rfl rfl dMo_init_180 (fun H locs hW => ?_)
  refine lv_aload_n hx hb dMo_init_183 rfl (lv_at hl 0 rfl) ?_
  refine lv_bipush hx hb dMo_init_184 (v := (8 : Int32)) rfl ?_
  refine hq_newa (atype := .int) (ty := .int) (N := 8) (a0 := .inl (fun _ => 0)) (ce := 24) (sl := 947) hx hb (hts _ w_56) rfl (fun _ h => by cases h) hW 0 rfl (fun _ => rfl) (by decide) rfl (by decide) rfl rfl (Nat.le_of_ble_eq_true rfl) (Nat.le_of_ble_eq_true rfl) dMo_init_186 (fun H hW => ?_)
  replace h := ob h; obtain ⟨S24, eS24, h⟩ := h
  refine hq_put hx hb hts hown hW eS24 (F_Mo_81 hts) (P_Mo_Mo_27 hnm) rfl rfl dMo_init_188 (fun H locs hW => ?_)
  refine lv_aload_n hx hb dMo_init_191 rfl (lv_at hl 0 rfl) ?_
  refine lv_iconst hx hb dMo_init_192 (v := (2 : Int32)) rfl ?_
  refine hq_newa (atype := .int) (ty := .int) (N := 2) (a0 := .inl (fun _ => 0)) (ce := 25) (sl := 949) hx hb (hts _ w_56) rfl (fun _ h => by cases h) hW 0 rfl (fun _ => rfl) (by decide) rfl (by decide) rfl rfl (Nat.le_of_ble_eq_true rfl) (Nat.le_of_ble_eq_true rfl) dMo_init_193 (fun H hW => ?_)
  replace h := ob h; obtain ⟨S25, eS25, h⟩ := h
  refine hq_put hx hb hts hown hW eS25 (F_Mo_84 hts) (P_Mo_Mo_28 hnm) rfl rfl dMo_init_195 (fun H locs hW => ?_)
  refine lv_aload_n hx hb dMo_init_198 rfl (lv_at hl 0 rfl) ?_
  refine lv_iconst hx hb dMo_init_199 (v := (2 : Int32)) rfl ?_
  refine hq_newa (atype := .int) (ty := .int) (N := 2) (a0 := .inl (fun _ => 0)) (ce := 26) (sl := 951) hx hb (hts _ w_56) rfl (fun _ h => by cases h) hW 0 rfl (fun _ => rfl) (by decide) rfl (by decide) rfl rfl (Nat.le_of_ble_eq_true rfl) (Nat.le_of_ble_eq_true rfl) dMo_init_200 (fun H hW => ?_)
  replace h := ob h; obtain ⟨S26, eS26, h⟩ := h
  refine hq_put hx hb hts hown hW eS26 (F_Mo_87 hts) (P_Mo_Mo_29 hnm) rfl rfl dMo_init_202 (fun H locs hW => ?_)
  refine lv_aload_n hx hb dMo_init_205 rfl (lv_at hl 0 rfl) ?_
  refine lv_iconst hx hb dMo_init_206 (v := (2 : Int32)) rfl ?_
  refine hq_newa (atype := .int) (ty := .int) (N := 2) (a0 := .inl (fun _ => 0)) (ce := 27) (sl := 953) hx hb (hts _ w_56) rfl (fun _ h => by cases h) hW 0 rfl (fun _ => rfl) (by decide) rfl (by decide) rfl rfl (Nat.le_of_ble_eq_true rfl) (Nat.le_of_ble_eq_true rfl) dMo_init_207 (fun H hW => ?_)
  replace h := ob h; obtain ⟨S27, eS27, h⟩ := h
  refine hq_put hx hb hts hown hW eS27 (F_Mo_90 hts) (P_Mo_Mo_30 hnm) rfl rfl dMo_init_209 (fun H locs hW => ?_)
  refine lv_aload_n hx hb dMo_init_212 rfl (lv_at hl 0 rfl) ?_
  refine lv_iconst hx hb dMo_init_213 (v := (2 : Int32)) rfl ?_
  refine hq_newa (atype := .int) (ty := .int) (N := 2) (a0 := .inl (fun _ => 0)) (ce := 28) (sl := 955) hx hb (hts _ w_56) rfl (fun _ h => by cases h) hW 0 rfl (fun _ => rfl) (by decide) rfl (by decide) rfl rfl (Nat.le_of_ble_eq_true rfl) (Nat.le_of_ble_eq_true rfl) dMo_init_214 (fun H hW => ?_)
  replace h := ob h; obtain ⟨S28, eS28, h⟩ := h
  refine hq_put hx hb hts hown hW eS28 (F_Mo_93 hts) (P_Mo_Mo_31 hnm) rfl rfl dMo_init_216 (fun H locs hW => ?_)
  refine lv_aload_n hx hb dMo_init_219 rfl (lv_at hl 0 rfl) ?_
  refine lv_iconst hx hb dMo_init_220 (v := (2 : Int32)) rfl ?_
  refine hq_newa (atype := .int) (ty := .int) (N := 2) (a0 := .inl (fun _ => 0)) (ce := 29) (sl := 957) hx hb (hts _ w_56) rfl (fun _ h => by cases h) hW 0 rfl (fun _ => rfl) (by decide) rfl (by decide) rfl rfl (Nat.le_of_ble_eq_true rfl) (Nat.le_of_ble_eq_true rfl) dMo_init_221 (fun H hW => ?_)
  replace h := ob h; obtain ⟨S29, eS29, h⟩ := h
  refine hq_put hx hb hts hown hW eS29 (F_Mo_96 hts) (P_Mo_Mo_32 hnm) rfl rfl dMo_init_223 (fun H locs hW => ?_)
  refine lv_aload_n hx hb dMo_init_226 rfl (lv_at hl 0 rfl) ?_
  refine lv_iconst hx hb dMo_init_227 (v := (2 : Int32)) rfl ?_
  refine hq_newa (atype := .int) (ty := .int) (N := 2) (a0 := .inl (fun _ => 0)) (ce := 30) (sl := 959) hx hb (hts _ w_56) rfl (fun _ h => by cases h) hW 0 rfl (fun _ => rfl) (by decide) rfl (by decide) rfl rfl (Nat.le_of_ble_eq_true rfl) (Nat.le_of_ble_eq_true rfl) dMo_init_228 (fun H hW => ?_)
  replace h := ob h; obtain ⟨S30, eS30, h⟩ := h
  refine hq_put hx hb hts hown hW eS30 (F_Mo_99 hts) (P_Mo_Mo_33 hnm) rfl rfl dMo_init_230 (fun H locs hW => ?_)
  refine lv_aload_n hx hb dMo_init_233 rfl (lv_at hl 0 rfl) ?_
  refine lv_iconst hx hb dMo_init_234 (v := (2 : Int32)) rfl ?_
  refine hq_newa (atype := .long) (ty := .long) (N := 2) (a0 := .inr (.inl (fun _ => 0))) (ce := 31) (sl := 961) hx hb (hts _ w_727) rfl (fun _ h => by cases h) hW 2 rfl (fun _ => rfl) (by decide) rfl (by decide) rfl rfl (Nat.le_of_ble_eq_true rfl) (Nat.le_of_ble_eq_true rfl) dMo_init_235 (fun H hW => ?_)
  replace h := ob h; obtain ⟨S31, eS31, h⟩ := h
  refine hq_put hx hb hts hown hW eS31 (F_Mo_102 hts) (P_Mo_Mo_34 hnm) rfl rfl dMo_init_237 (fun H locs hW => ?_)
  refine lv_aload_n hx hb dMo_init_240 rfl (lv_at hl 0 rfl) ?_
  refine lv_iconst hx hb dMo_init_241 (v := (2 : Int32)) rfl ?_
  refine hq_newa (atype := .boolean) (ty := .boolean) (N := 2) (a0 := .inl (fun _ => 0)) (ce := 32) (sl := 963) hx hb (hts _ w_726) rfl (fun _ h => by cases h) hW 1 rfl (fun _ => rfl) (by decide) rfl (by decide) rfl rfl (Nat.le_of_ble_eq_true rfl) (Nat.le_of_ble_eq_true rfl) dMo_init_242 (fun H hW => ?_)
  replace h := ob h; obtain ⟨S32, eS32, h⟩ := h
  refine hq_put hx hb hts hown hW eS32 (F_Mo_105 hts) (P_Mo_Mo_35 hnm) rfl rfl dMo_init_244 (fun H locs hW => ?_)
  refine lv_aload_n hx hb dMo_init_247 rfl (lv_at hl 0 rfl) ?_
  refine lv_iconst hx hb dMo_init_248 (v := (2 : Int32)) rfl ?_
  refine hq_newa (atype := .boolean) (ty := .boolean) (N := 2) (a0 := .inl (fun _ => 0)) (ce := 33) (sl := 965) hx hb (hts _ w_726) rfl (fun _ h => by cases h) hW 1 rfl (fun _ => rfl) (by decide) rfl (by decide) rfl rfl (Nat.le_of_ble_eq_true rfl) (Nat.le_of_ble_eq_true rfl) dMo_init_249 (fun H hW => ?_)
  replace h := ob h; obtain ⟨S33, eS33, h⟩ := h
  refine hq_put hx hb hts hown hW eS33 (F_Mo_108 hts) (P_Mo_Mo_36 hnm) rfl rfl dMo_init_251 (fun H locs hW => ?_)
  refine lv_aload_n hx hb dMo_init_254 rfl (lv_at hl 0 rfl) ?_
  refine lv_sipush hx hb dMo_init_255 (v := (192 : Int32)) rfl ?_
  refine hq_newa (atype := .int) (ty := .int) (N := 192) (a0 := .inl (fun _ => 0)) (ce := 34) (sl := 1157) hx hb (hts _ w_56) rfl (fun _ h => by cases h) hW 0 rfl (fun _ => rfl) (by decide) rfl (by decide) rfl rfl (Nat.le_of_ble_eq_true rfl) (Nat.le_of_ble_eq_true rfl) dMo_init_258 (fun H hW => ?_)
  replace h := ob h; obtain ⟨S34, eS34, h⟩ := h
  refine hq_put hx hb hts hown hW eS34 (F_Mo_111 hts) (P_Mo_Mo_37 hnm) rfl rfl dMo_init_260 (fun H locs hW => ?_)
  refine lv_aload_n hx hb dMo_init_263 rfl (lv_at hl 0 rfl) ?_
  refine lv_iconst hx hb dMo_init_264 (v := (4 : Int32)) rfl ?_
  refine hq_newa (atype := .int) (ty := .int) (N := 4) (a0 := .inl (fun _ => 0)) (ce := 35) (sl := 1161) hx hb (hts _ w_56) rfl (fun _ h => by cases h) hW 0 rfl (fun _ => rfl) (by decide) rfl (by decide) rfl rfl (Nat.le_of_ble_eq_true rfl) (Nat.le_of_ble_eq_true rfl) dMo_init_265 (fun H hW => ?_)
  replace h := ob h; obtain ⟨S35, eS35, h⟩ := h
  refine hq_put hx hb hts hown hW eS35 (F_Mo_114 hts) (P_Mo_Mo_38 hnm) rfl rfl dMo_init_267 (fun H locs hW => ?_)
  refine lv_iconst hx hb dMo_init_270 (v := (0 : Int32)) rfl ?_
  refine lv_istore_n (lv' := [(1, .int (0 : Int32)), (0, .ref t0)]) hx hb dMo_init_271 rfl hl (Nat.le_of_ble_eq_true rfl) (by first | rfl | (simp [List.filter, rf_cat] <;> rfl)) (fun ls hl => ?_)
  replace h := ob h; obtain ⟨S39, eS39, h⟩ := h
  have hX : (fun q' => ∀ (H : Heap) (locs : List Loc) (ls : Array Slot), lv_has ls 2 [] → Wd D vwCl (hTy tc) b q' s H locs → W p l e { frames := 1, cells := 35, slots := 1161, locals := 40 } s m args below meth c H locs 35 1161 (MQ below (va_Qv (fun _ : Unit => True) (fun _ => Wp D vwCl (hTy tc) b Sz) (fun q => b ≤ q)) args s 35 1161 (fun q => b ≤ q)) (F0 m 297 ls [])) S39 := by
    intro H locs ls hl hW
    exact hq_vret hx hb hr hlocks h (Nat.le_of_ble_eq_true rfl) (Nat.le_of_ble_eq_true rfl) hW dMo_init_297
  refine lp_ind (P := fun q' => ∀ (H : Heap) (locs : List Loc) (ls : Array Slot), lv_has ls 2 [(0, .ref t0), (1, .int q'.1)] → Wd D vwCl (hTy tc) b q'.2 s H locs → W p l e { frames := 1, cells := 35, slots := 1161, locals := 40 } s m args below meth c H locs 35 1161 (MQ below (va_Qv (fun _ : Unit => True) (fun _ => Wp D vwCl (hTy tc) b Sz) (fun q => b ≤ q)) args s 35 1161 (fun q => b ≤ q)) (F0 m 272 ls [])) (Q := fun q' => ∀ (H : Heap) (locs : List Loc) (ls : Array Slot), lv_has ls 2 [] → Wd D vwCl (hTy tc) b q' s H locs → W p l e { frames := 1, cells := 35, slots := 1161, locals := 40 } s m args below meth c H locs 35 1161 (MQ below (va_Qv (fun _ : Unit => True) (fun _ => Wp D vwCl (hTy tc) b Sz) (fun q => b ≤ q)) args s 35 1161 (fun q => b ≤ q)) (F0 m 297 ls [])) (fun q' x38 h hin hex => ?_) hX _ _ eS39 _ _ _ (lv_sub hl [1, 0] rfl) hW
  obtain ⟨i36, S37⟩ := q'
  intro H locs ls hl hW
  unfold fMo_init_L272 at h
  refine lv_iload_n hx hb dMo_init_272 rfl (lv_at hl 1 rfl) ?_
  refine lv_iconst hx hb dMo_init_273 (v := (2 : Int32)) rfl ?_
  refine lv_icmp_ge hx hb dMo_init_274 (tgt := 297) rfl (fun hc46 => ?_) (fun hc46 => ?_)
  · replace h := if_t hc46 h
    exact hex _ (Option.some.inj h).symm _ _ _ (lv_sub hl [] rfl) hW
  · replace h := if_f hc46 h
    refine lv_aload_n hx hb dMo_init_277 rfl (lv_at hl 0 rfl) ?_
    replace h := ob h; obtain ⟨r40, er40, h⟩ := h
    refine hq_get hx hb hts hown hW (gR_V er40) (F_Mo_87 hts) dMo_init_278 ?_
    refine lv_iload_n hx hb dMo_init_281 rfl (lv_at hl 1 rfl) ?_
    refine lv_iconst hx hb dMo_init_282 (v := (-1 : Int32)) rfl ?_
    replace h := ob h; obtain ⟨a41, hra41, h⟩ := h
    subst hra41
    replace h := ob h; obtain ⟨S42, eS42, h⟩ := h
    refine hq_iast hx hb hW eS42 rfl dMo_init_283 (fun H locs hW => ?_)
    refine lv_aload_n hx hb dMo_init_284 rfl (lv_at hl 0 rfl) ?_
    replace h := ob h; obtain ⟨r43, er43, h⟩ := h
    refine hq_get hx hb hts hown hW (gR_V er43) (F_Mo_96 hts) dMo_init_285 ?_
    refine lv_iload_n hx hb dMo_init_288 rfl (lv_at hl 1 rfl) ?_
    refine lv_iconst hx hb dMo_init_289 (v := (-1 : Int32)) rfl ?_
    replace h := ob h; obtain ⟨a44, hra44, h⟩ := h
    subst hra44
    replace h := ob h; obtain ⟨S45, eS45, h⟩ := h
    refine hq_iast hx hb hW eS45 rfl dMo_init_290 (fun H locs hW => ?_)
    refine lv_iinc (k := 1) (v := i36 + 1) (lv' := [(1, .int (i36 + 1)), (0, .ref t0)]) hx hb dMo_init_291 hl rfl rfl (Nat.le_of_ble_eq_true rfl) (by first | rfl | (simp [List.filter, rf_cat] <;> rfl)) (fun ls hl => ?_)
    refine lv_goto hx hb dMo_init_294 (tgt := 272) rfl ?_
    exact hin _ (Option.some.inj h).symm _ _ _ (lv_sub hl [1, 0] rfl) hW
def fMo_within (t0 : Int32) (t1 : Int32) (t2 : Int32) (S : Ws) : Option (Int32 × Ws) :=
  if t0 < t1 then (bz (0 : Int32)).bind fun z1 => some ((0 : Int32), S) else if t2 < t0 then (bz (0 : Int32)).bind fun z2 => some ((0 : Int32), S) else (bz (1 : Int32)).bind fun z3 => some ((1 : Int32), S)
set_option maxRecDepth 100000 in
set_option maxHeartbeats 4000000 in
theorem kMo_within (l : Launch) (D : va_G) (tc : Nat → ClassId) (b : Nat) (t0 : Int32) (t1 : Int32) (t2 : Int32) (S Sz : Ws) (rr : Int32) (h : fMo_within t0 t1 t2 S = some (rr, Sz)) : Met l yMo_within wsMo_within { frames := 1, cells := 0, slots := 0, locals := 40 } (va_Pc [.int t0, .int t1, .int t2] (Wp D vwCl (hTy tc) b S)) (va_Qi (fun x (_ : Unit) => x = rr) (fun _ => Wp D vwCl (hTy tc) b Sz) (fun q => b ≤ q)) 0 0 (fun q => b ≤ q) := by
  refine hq_ofW (cc := cMo_within) (maxL := 3) (ret := (some .boolean)) (by decide) rfl (Nat.le_of_ble_eq_true rfl) fun p e s m args below meth c hx hb hr hts hown hlocks hnm hml H locs ls hl hW => ?_
  have hts : ∀ w ∈ lwG, w.before args s = true := fun w h => hts w (List.mem_cons_of_mem _ h)
  have hown : s.vm.findClass "SerialPlantModel" = some m.cls := hown
  have hl : lv_has ls 3 [(0, .int t0), (1, .int t1), (2, .int t2)] := hl
  unfold fMo_within at h
  refine lv_iload_n hx hb dMo_within_0 rfl (lv_at hl 0 rfl) ?_
  refine lv_iload_n hx hb dMo_within_1 rfl (lv_at hl 1 rfl) ?_
  refine lv_icmp_lt hx hb dMo_within_2 (tgt := 14) rfl (fun hc5 => ?_) (fun hc5 => ?_)
  · replace h := if_t hc5 h
    refine lv_iconst hx hb dMo_within_14 (v := (0 : Int32)) rfl ?_
    replace h := ob h; obtain ⟨z1, ez1, h⟩ := h
    exact hq_zret hx hb hr hlocks (bz_some ez1).2 h (Nat.le_of_ble_eq_true rfl) (Nat.le_of_ble_eq_true rfl) hW dMo_within_15
  · replace h := if_f hc5 h
    refine lv_iload_n hx hb dMo_within_5 rfl (lv_at hl 0 rfl) ?_
    refine lv_iload_n hx hb dMo_within_6 rfl (lv_at hl 2 rfl) ?_
    refine lv_icmp_gt hx hb dMo_within_7 (tgt := 14) rfl (fun hc4 => ?_) (fun hc4 => ?_)
    · replace h := if_t hc4 h
      refine lv_iconst hx hb dMo_within_14 (v := (0 : Int32)) rfl ?_
      replace h := ob h; obtain ⟨z2, ez2, h⟩ := h
      exact hq_zret hx hb hr hlocks (bz_some ez2).2 h (Nat.le_of_ble_eq_true rfl) (Nat.le_of_ble_eq_true rfl) hW dMo_within_15
    · replace h := if_f hc4 h
      refine lv_iconst hx hb dMo_within_10 (v := (1 : Int32)) rfl ?_
      refine lv_goto hx hb dMo_within_11 (tgt := 15) rfl ?_
      replace h := ob h; obtain ⟨z3, ez3, h⟩ := h
      exact hq_zret hx hb hr hlocks (bz_some ez3).2 h (Nat.le_of_ble_eq_true rfl) (Nat.le_of_ble_eq_true rfl) hW dMo_within_15
def fMo_attach (t0 : Nat) (t1 : Int32) (t2 : Int32) (t3 : Int32) (S : Ws) : Option (Int32 × Ws) :=
  (fMo_within t1 (1 : Int32) (6 : Int32) S).bind fun (v2, S1) => if v2 = 0 then (bz (0 : Int32)).bind fun z3 => some ((0 : Int32), S1) else (fMo_within t2 (0 : Int32) (1 : Int32) S1).bind fun (v5, S4) => if v5 = 0 then (bz (0 : Int32)).bind fun z6 => some ((0 : Int32), S4) else (fMo_within t3 (0 : Int32) (5 : Int32) S4).bind fun (v8, S7) => if v8 = 0 then (bz (0 : Int32)).bind fun z9 => some ((0 : Int32), S7) else (gR S7 t0 [8] 1).bind fun r10 => (r10).bind fun a11 => (aI S7 a11 1 t1).bind fun v12 => if v12 = 0 then (gR S7 t0 [8] 1).bind fun r13 => (r13).bind fun a14 => (bz (1 : Int32)).bind fun z16 => (sI S7 a14 1 t1 (1 : Int32)).bind fun S15 => (gR S15 t0 [8] 2).bind fun r17 => (r17).bind fun a18 => (sI S15 a18 0 t1 t2).bind fun S19 => (gR S19 t0 [8] 3).bind fun r20 => (r20).bind fun a21 => (sI S19 a21 0 t1 t3).bind fun S22 => (bz (1 : Int32)).bind fun z23 => some ((1 : Int32), S22) else (bz (0 : Int32)).bind fun z24 => some ((0 : Int32), S7)
set_option maxRecDepth 100000 in
set_option maxHeartbeats 4000000 in
theorem kMo_attach (l : Launch) (D : va_G) (tc : Nat → ClassId) (b : Nat) (t0 : Nat) (t1 : Int32) (t2 : Int32) (t3 : Int32) (S Sz : Ws) (rr : Int32) (h : fMo_attach t0 t1 t2 t3 S = some (rr, Sz)) : Met l yMo_attach wsMo_attach { frames := 2, cells := 0, slots := 0, locals := 80 } (va_Pc [.ref t0, .int t1, .int t2, .int t3] (Wp D vwCl (hTy tc) b S)) (va_Qi (fun x (_ : Unit) => x = rr) (fun _ => Wp D vwCl (hTy tc) b Sz) (fun q => b ≤ q)) 0 0 (fun q => b ≤ q) := by
  refine hq_ofW (cc := cMo_attach) (maxL := 4) (ret := (some .boolean)) (by decide) rfl (Nat.le_of_ble_eq_true rfl) fun p e s m args below meth c hx hb hr hts hown hlocks hnm hml H locs ls hl hW => ?_
  have hts : ∀ w ∈ lwG, w.before args s = true := fun w h => hts w (List.mem_cons_of_mem _ h)
  have hown : s.vm.findClass "SerialPlantModel" = some m.cls := hown
  have hl : lv_has ls 4 [(0, .ref t0), (1, .int t1), (2, .int t2), (3, .int t3)] := hl
  unfold fMo_attach at h
  refine lv_iload_n hx hb dMo_attach_0 rfl (lv_at hl 1 rfl) ?_
  refine lv_iconst hx hb dMo_attach_1 (v := (1 : Int32)) rfl ?_
  refine lv_bipush hx hb dMo_attach_2 (v := (6 : Int32)) rfl ?_
  replace h := ob h; obtain ⟨⟨v2, S1⟩, eS1, h⟩ := h
  refine hq_calli (ce := 0) (sl := 0) (va_runS (As := [.int t1, .int (1 : Int32), .int (6 : Int32)]) (rest := []) ⟨hx, hb, hml, hown, hts⟩ (kMo_within l D tc b t1 (1 : Int32) (6 : Int32) S _ _ eS1) (cwS 3 hts GS_Mo_117 rfl rfl rfl hd_Mo_within_S_Mo ⟨Nat.le_of_ble_eq_true rfl, Nat.le_of_ble_eq_true rfl⟩) (hq_preS hW) rfl rfl hl.1 rfl (lv_room (by first | exact Nat.le_of_ble_eq_true rfl | (simp only [List.map, rf_cat]; exact Nat.le_of_ble_eq_true rfl))) dMo_attach_4 ⟨Nat.le_of_ble_eq_true rfl, Nat.le_of_ble_eq_true rfl⟩) hW rfl rfl (fun H locs hW => ?_)
  refine lv_if_eq hx hb dMo_attach_7 (tgt := 37) rfl (fun hc28 => ?_) (fun hc28 => ?_)
  · replace h := if_t hc28 h
    refine lv_iconst hx hb dMo_attach_37 (v := (0 : Int32)) rfl ?_
    replace h := ob h; obtain ⟨z3, ez3, h⟩ := h
    exact hq_zret hx hb hr hlocks (bz_some ez3).2 h (Nat.le_of_ble_eq_true rfl) (Nat.le_of_ble_eq_true rfl) hW dMo_attach_38
  · replace h := if_f hc28 h
    refine lv_iload_n hx hb dMo_attach_10 rfl (lv_at hl 2 rfl) ?_
    refine lv_iconst hx hb dMo_attach_11 (v := (0 : Int32)) rfl ?_
    refine lv_iconst hx hb dMo_attach_12 (v := (1 : Int32)) rfl ?_
    replace h := ob h; obtain ⟨⟨v5, S4⟩, eS4, h⟩ := h
    refine hq_calli (ce := 0) (sl := 0) (va_runS (As := [.int t2, .int (0 : Int32), .int (1 : Int32)]) (rest := []) ⟨hx, hb, hml, hown, hts⟩ (kMo_within l D tc b t2 (0 : Int32) (1 : Int32) S1 _ _ eS4) (cwS 3 hts GS_Mo_117 rfl rfl rfl hd_Mo_within_S_Mo ⟨Nat.le_of_ble_eq_true rfl, Nat.le_of_ble_eq_true rfl⟩) (hq_preS hW) rfl rfl hl.1 rfl (lv_room (by first | exact Nat.le_of_ble_eq_true rfl | (simp only [List.map, rf_cat]; exact Nat.le_of_ble_eq_true rfl))) dMo_attach_13 ⟨Nat.le_of_ble_eq_true rfl, Nat.le_of_ble_eq_true rfl⟩) hW rfl rfl (fun H locs hW => ?_)
    refine lv_if_eq hx hb dMo_attach_16 (tgt := 37) rfl (fun hc27 => ?_) (fun hc27 => ?_)
    · replace h := if_t hc27 h
      refine lv_iconst hx hb dMo_attach_37 (v := (0 : Int32)) rfl ?_
      replace h := ob h; obtain ⟨z6, ez6, h⟩ := h
      exact hq_zret hx hb hr hlocks (bz_some ez6).2 h (Nat.le_of_ble_eq_true rfl) (Nat.le_of_ble_eq_true rfl) hW dMo_attach_38
    · replace h := if_f hc27 h
      refine lv_iload_n hx hb dMo_attach_19 rfl (lv_at hl 3 rfl) ?_
      refine lv_iconst hx hb dMo_attach_20 (v := (0 : Int32)) rfl ?_
      refine lv_iconst hx hb dMo_attach_21 (v := (5 : Int32)) rfl ?_
      replace h := ob h; obtain ⟨⟨v8, S7⟩, eS7, h⟩ := h
      refine hq_calli (ce := 0) (sl := 0) (va_runS (As := [.int t3, .int (0 : Int32), .int (5 : Int32)]) (rest := []) ⟨hx, hb, hml, hown, hts⟩ (kMo_within l D tc b t3 (0 : Int32) (5 : Int32) S4 _ _ eS7) (cwS 3 hts GS_Mo_117 rfl rfl rfl hd_Mo_within_S_Mo ⟨Nat.le_of_ble_eq_true rfl, Nat.le_of_ble_eq_true rfl⟩) (hq_preS hW) rfl rfl hl.1 rfl (lv_room (by first | exact Nat.le_of_ble_eq_true rfl | (simp only [List.map, rf_cat]; exact Nat.le_of_ble_eq_true rfl))) dMo_attach_22 ⟨Nat.le_of_ble_eq_true rfl, Nat.le_of_ble_eq_true rfl⟩) hW rfl rfl (fun H locs hW => ?_)
      refine lv_if_eq hx hb dMo_attach_25 (tgt := 37) rfl (fun hc26 => ?_) (fun hc26 => ?_)
      · replace h := if_t hc26 h
        refine lv_iconst hx hb dMo_attach_37 (v := (0 : Int32)) rfl ?_
        replace h := ob h; obtain ⟨z9, ez9, h⟩ := h
        exact hq_zret hx hb hr hlocks (bz_some ez9).2 h (Nat.le_of_ble_eq_true rfl) (Nat.le_of_ble_eq_true rfl) hW dMo_attach_38
      · replace h := if_f hc26 h
        refine lv_aload_n hx hb dMo_attach_28 rfl (lv_at hl 0 rfl) ?_
        replace h := ob h; obtain ⟨r10, er10, h⟩ := h
        refine hq_get hx hb hts hown hW (gR_V er10) (F_Mo_7 hts) dMo_attach_29 ?_
        refine lv_iload_n hx hb dMo_attach_32 rfl (lv_at hl 1 rfl) ?_
        replace h := ob h; obtain ⟨a11, hra11, h⟩ := h
        subst hra11
        replace h := ob h; obtain ⟨v12, ev12, h⟩ := h
        refine hq_zald hx hb hW ev12 rfl dMo_attach_33 ?_
        refine lv_if_eq hx hb dMo_attach_34 (tgt := 39) rfl (fun hc25 => ?_) (fun hc25 => ?_)
        · replace h := if_t hc25 h
          refine lv_aload_n hx hb dMo_attach_39 rfl (lv_at hl 0 rfl) ?_
          replace h := ob h; obtain ⟨r13, er13, h⟩ := h
          refine hq_get hx hb hts hown hW (gR_V er13) (F_Mo_7 hts) dMo_attach_40 ?_
          refine lv_iload_n hx hb dMo_attach_43 rfl (lv_at hl 1 rfl) ?_
          refine lv_iconst hx hb dMo_attach_44 (v := (1 : Int32)) rfl ?_
          replace h := ob h; obtain ⟨a14, hra14, h⟩ := h
          subst hra14
          replace h := ob h; obtain ⟨z16, ez16, h⟩ := h
          replace h := ob h; obtain ⟨S15, eS15, h⟩ := h
          refine hq_zast hx hb hW eS15 rfl (bz_some ez16).2 dMo_attach_45 (fun H locs hW => ?_)
          refine lv_aload_n hx hb dMo_attach_46 rfl (lv_at hl 0 rfl) ?_
          replace h := ob h; obtain ⟨r17, er17, h⟩ := h
          refine hq_get hx hb hts hown hW (gR_V er17) (F_Mo_13 hts) dMo_attach_47 ?_
          refine lv_iload_n hx hb dMo_attach_50 rfl (lv_at hl 1 rfl) ?_
          refine lv_iload_n hx hb dMo_attach_51 rfl (lv_at hl 2 rfl) ?_
          replace h := ob h; obtain ⟨a18, hra18, h⟩ := h
          subst hra18
          replace h := ob h; obtain ⟨S19, eS19, h⟩ := h
          refine hq_iast hx hb hW eS19 rfl dMo_attach_52 (fun H locs hW => ?_)
          refine lv_aload_n hx hb dMo_attach_53 rfl (lv_at hl 0 rfl) ?_
          replace h := ob h; obtain ⟨r20, er20, h⟩ := h
          refine hq_get hx hb hts hown hW (gR_V er20) (F_Mo_17 hts) dMo_attach_54 ?_
          refine lv_iload_n hx hb dMo_attach_57 rfl (lv_at hl 1 rfl) ?_
          refine lv_iload_n hx hb dMo_attach_58 rfl (lv_at hl 3 rfl) ?_
          replace h := ob h; obtain ⟨a21, hra21, h⟩ := h
          subst hra21
          replace h := ob h; obtain ⟨S22, eS22, h⟩ := h
          refine hq_iast hx hb hW eS22 rfl dMo_attach_59 (fun H locs hW => ?_)
          refine lv_iconst hx hb dMo_attach_60 (v := (1 : Int32)) rfl ?_
          replace h := ob h; obtain ⟨z23, ez23, h⟩ := h
          exact hq_zret hx hb hr hlocks (bz_some ez23).2 h (Nat.le_of_ble_eq_true rfl) (Nat.le_of_ble_eq_true rfl) hW dMo_attach_61
        · replace h := if_f hc25 h
          refine lv_iconst hx hb dMo_attach_37 (v := (0 : Int32)) rfl ?_
          replace h := ob h; obtain ⟨z24, ez24, h⟩ := h
          exact hq_zret hx hb hr hlocks (bz_some ez24).2 h (Nat.le_of_ble_eq_true rfl) (Nat.le_of_ble_eq_true rfl) hW dMo_attach_38
def fMo_power (t0 : Nat) (t1 : Int32) (t2 : Int32) (S : Ws) : Option (Int32 × Ws) :=
  (fMo_within t1 (1 : Int32) (6 : Int32) S).bind fun (v2, S1) => if v2 = 0 then (bz (0 : Int32)).bind fun z11 => some ((0 : Int32), S1) else (gR S1 t0 [8] 4).bind fun r3 => (if t2 = 0 then some (1 : Int32) else some (0 : Int32)).bind fun i4 => (r3).bind fun a7 => (bz i4).bind fun z9 => (sI S1 a7 1 t1 i4).bind fun S8 => (bz (1 : Int32)).bind fun z10 => some ((1 : Int32), S8)
set_option maxRecDepth 100000 in
set_option maxHeartbeats 4000000 in
theorem kMo_power (l : Launch) (D : va_G) (tc : Nat → ClassId) (b : Nat) (t0 : Nat) (t1 : Int32) (t2 : Int32) (S Sz : Ws) (rr : Int32) (h : fMo_power t0 t1 t2 S = some (rr, Sz)) : Met l yMo_power wsMo_power { frames := 2, cells := 0, slots := 0, locals := 80 } (va_Pc [.ref t0, .int t1, .int t2] (Wp D vwCl (hTy tc) b S)) (va_Qi (fun x (_ : Unit) => x = rr) (fun _ => Wp D vwCl (hTy tc) b Sz) (fun q => b ≤ q)) 0 0 (fun q => b ≤ q) := by
  refine hq_ofW (cc := cMo_power) (maxL := 3) (ret := (some .boolean)) (by decide) rfl (Nat.le_of_ble_eq_true rfl) fun p e s m args below meth c hx hb hr hts hown hlocks hnm hml H locs ls hl hW => ?_
  have hts : ∀ w ∈ lwG, w.before args s = true := fun w h => hts w (List.mem_cons_of_mem _ h)
  have hown : s.vm.findClass "SerialPlantModel" = some m.cls := hown
  have hl : lv_has ls 3 [(0, .ref t0), (1, .int t1), (2, .int t2)] := hl
  unfold fMo_power at h
  refine lv_iload_n hx hb dMo_power_0 rfl (lv_at hl 1 rfl) ?_
  refine lv_iconst hx hb dMo_power_1 (v := (1 : Int32)) rfl ?_
  refine lv_bipush hx hb dMo_power_2 (v := (6 : Int32)) rfl ?_
  replace h := ob h; obtain ⟨⟨v2, S1⟩, eS1, h⟩ := h
  refine hq_calli (ce := 0) (sl := 0) (va_runS (As := [.int t1, .int (1 : Int32), .int (6 : Int32)]) (rest := []) ⟨hx, hb, hml, hown, hts⟩ (kMo_within l D tc b t1 (1 : Int32) (6 : Int32) S _ _ eS1) (cwS 3 hts GS_Mo_117 rfl rfl rfl hd_Mo_within_S_Mo ⟨Nat.le_of_ble_eq_true rfl, Nat.le_of_ble_eq_true rfl⟩) (hq_preS hW) rfl rfl hl.1 rfl (lv_room (by first | exact Nat.le_of_ble_eq_true rfl | (simp only [List.map, rf_cat]; exact Nat.le_of_ble_eq_true rfl))) dMo_power_4 ⟨Nat.le_of_ble_eq_true rfl, Nat.le_of_ble_eq_true rfl⟩) hW rfl rfl (fun H locs hW => ?_)
  refine lv_if_ne hx hb dMo_power_7 (tgt := 12) rfl (fun hc12 => ?_) (fun hc12 => ?_)
  · replace h := if_f hc12 h
    refine lv_aload_n hx hb dMo_power_12 rfl (lv_at hl 0 rfl) ?_
    replace h := ob h; obtain ⟨r3, er3, h⟩ := h
    refine hq_get hx hb hts hown hW (gR_V er3) (F_Mo_20 hts) dMo_power_13 ?_
    refine lv_iload_n hx hb dMo_power_16 rfl (lv_at hl 1 rfl) ?_
    refine lv_iload_n hx hb dMo_power_17 rfl (lv_at hl 2 rfl) ?_
    replace h := ob h; obtain ⟨q5, e26, h⟩ := h
    have hJ26 : ∀ q', q' = q5 → ∀ (H : Heap) (locs : List Loc) (ls : Array Slot), lv_has ls 3 [] → Wd D vwCl (hTy tc) b S1 s H locs → W p l e { frames := 2, cells := 0, slots := 0, locals := 80 } s m args below meth c H locs 0 0 (MQ below (va_Qi (fun x (_ : Unit) => x = rr) (fun _ => Wp D vwCl (hTy tc) b Sz) (fun q => b ≤ q)) args s 0 0 (fun q => b ≤ q)) (F0 m 26 ls [.int q', .int t1, va_rf r3]) := by
      intro i4 hq'; subst hq'
      intro H locs ls hl hW
      replace h := ob h; obtain ⟨a7, hra7, h⟩ := h
      subst hra7
      replace h := ob h; obtain ⟨z9, ez9, h⟩ := h
      replace h := ob h; obtain ⟨S8, eS8, h⟩ := h
      refine hq_zast hx hb hW eS8 rfl (bz_some ez9).2 dMo_power_26 (fun H locs hW => ?_)
      refine lv_iconst hx hb dMo_power_27 (v := (1 : Int32)) rfl ?_
      replace h := ob h; obtain ⟨z10, ez10, h⟩ := h
      exact hq_zret hx hb hr hlocks (bz_some ez10).2 h (Nat.le_of_ble_eq_true rfl) (Nat.le_of_ble_eq_true rfl) hW dMo_power_28
    clear h; have h := e26; clear e26
    refine lv_if_ne hx hb dMo_power_18 (tgt := 25) rfl (fun hc6 => ?_) (fun hc6 => ?_)
    · replace h := if_f hc6 h
      refine lv_iconst hx hb dMo_power_25 (v := (0 : Int32)) rfl ?_
      exact hJ26 _ (Option.some.inj h) _ _ _ (lv_sub hl [] rfl) hW
    · replace h := if_t hc6 h
      refine lv_iconst hx hb dMo_power_21 (v := (1 : Int32)) rfl ?_
      refine lv_goto hx hb dMo_power_22 (tgt := 26) rfl ?_
      exact hJ26 _ (Option.some.inj h) _ _ _ (lv_sub hl [] rfl) hW
  · replace h := if_t hc12 h
    refine lv_iconst hx hb dMo_power_10 (v := (0 : Int32)) rfl ?_
    replace h := ob h; obtain ⟨z11, ez11, h⟩ := h
    exact hq_zret hx hb hr hlocks (bz_some ez11).2 h (Nat.le_of_ble_eq_true rfl) (Nat.le_of_ble_eq_true rfl) hW dMo_power_11
def fMo_place (t0 : Int32) (t1 : Int32) (t2 : Int32) (S : Ws) : Option (Int32 × Ws) :=
  (fMo_within t0 (1 : Int32) (6 : Int32) S).bind fun (v2, S1) => if v2 = 0 then (bz (0 : Int32)).bind fun z3 => some ((0 : Int32), S1) else (fMo_within t1 (1 : Int32) (4 : Int32) S1).bind fun (v5, S4) => if v5 = 0 then (bz (0 : Int32)).bind fun z6 => some ((0 : Int32), S4) else (if (3 : Int32) ≤ t1 then some (7 : Int32) else some (15 : Int32)).bind fun i7 => (fMo_within t2 (0 : Int32) i7 S4).bind fun (v11, S10) => if v11 = 0 then (bz (0 : Int32)).bind fun z12 => some ((0 : Int32), S10) else (bz (1 : Int32)).bind fun z13 => some ((1 : Int32), S10)
set_option maxRecDepth 100000 in
set_option maxHeartbeats 4000000 in
theorem kMo_place (l : Launch) (D : va_G) (tc : Nat → ClassId) (b : Nat) (t0 : Int32) (t1 : Int32) (t2 : Int32) (S Sz : Ws) (rr : Int32) (h : fMo_place t0 t1 t2 S = some (rr, Sz)) : Met l yMo_place wsMo_place { frames := 2, cells := 0, slots := 0, locals := 80 } (va_Pc [.int t0, .int t1, .int t2] (Wp D vwCl (hTy tc) b S)) (va_Qi (fun x (_ : Unit) => x = rr) (fun _ => Wp D vwCl (hTy tc) b Sz) (fun q => b ≤ q)) 0 0 (fun q => b ≤ q) := by
  refine hq_ofW (cc := cMo_place) (maxL := 3) (ret := (some .boolean)) (by decide) rfl (Nat.le_of_ble_eq_true rfl) fun p e s m args below meth c hx hb hr hts hown hlocks hnm hml H locs ls hl hW => ?_
  have hts : ∀ w ∈ lwG, w.before args s = true := fun w h => hts w (List.mem_cons_of_mem _ h)
  have hown : s.vm.findClass "SerialPlantModel" = some m.cls := hown
  have hl : lv_has ls 3 [(0, .int t0), (1, .int t1), (2, .int t2)] := hl
  unfold fMo_place at h
  refine lv_iload_n hx hb dMo_place_0 rfl (lv_at hl 0 rfl) ?_
  refine lv_iconst hx hb dMo_place_1 (v := (1 : Int32)) rfl ?_
  refine lv_bipush hx hb dMo_place_2 (v := (6 : Int32)) rfl ?_
  replace h := ob h; obtain ⟨⟨v2, S1⟩, eS1, h⟩ := h
  refine hq_calli (ce := 0) (sl := 0) (va_runS (As := [.int t0, .int (1 : Int32), .int (6 : Int32)]) (rest := []) ⟨hx, hb, hml, hown, hts⟩ (kMo_within l D tc b t0 (1 : Int32) (6 : Int32) S _ _ eS1) (cwS 3 hts GS_Mo_117 rfl rfl rfl hd_Mo_within_S_Mo ⟨Nat.le_of_ble_eq_true rfl, Nat.le_of_ble_eq_true rfl⟩) (hq_preS hW) rfl rfl hl.1 rfl (lv_room (by first | exact Nat.le_of_ble_eq_true rfl | (simp only [List.map, rf_cat]; exact Nat.le_of_ble_eq_true rfl))) dMo_place_4 ⟨Nat.le_of_ble_eq_true rfl, Nat.le_of_ble_eq_true rfl⟩) hW rfl rfl (fun H locs hW => ?_)
  refine lv_if_eq hx hb dMo_place_7 (tgt := 43) rfl (fun hc16 => ?_) (fun hc16 => ?_)
  · replace h := if_t hc16 h
    refine lv_iconst hx hb dMo_place_43 (v := (0 : Int32)) rfl ?_
    replace h := ob h; obtain ⟨z3, ez3, h⟩ := h
    exact hq_zret hx hb hr hlocks (bz_some ez3).2 h (Nat.le_of_ble_eq_true rfl) (Nat.le_of_ble_eq_true rfl) hW dMo_place_44
  · replace h := if_f hc16 h
    refine lv_iload_n hx hb dMo_place_10 rfl (lv_at hl 1 rfl) ?_
    refine lv_iconst hx hb dMo_place_11 (v := (1 : Int32)) rfl ?_
    refine lv_iconst hx hb dMo_place_12 (v := (4 : Int32)) rfl ?_
    replace h := ob h; obtain ⟨⟨v5, S4⟩, eS4, h⟩ := h
    refine hq_calli (ce := 0) (sl := 0) (va_runS (As := [.int t1, .int (1 : Int32), .int (4 : Int32)]) (rest := []) ⟨hx, hb, hml, hown, hts⟩ (kMo_within l D tc b t1 (1 : Int32) (4 : Int32) S1 _ _ eS4) (cwS 3 hts GS_Mo_117 rfl rfl rfl hd_Mo_within_S_Mo ⟨Nat.le_of_ble_eq_true rfl, Nat.le_of_ble_eq_true rfl⟩) (hq_preS hW) rfl rfl hl.1 rfl (lv_room (by first | exact Nat.le_of_ble_eq_true rfl | (simp only [List.map, rf_cat]; exact Nat.le_of_ble_eq_true rfl))) dMo_place_13 ⟨Nat.le_of_ble_eq_true rfl, Nat.le_of_ble_eq_true rfl⟩) hW rfl rfl (fun H locs hW => ?_)
    refine lv_if_eq hx hb dMo_place_16 (tgt := 43) rfl (fun hc15 => ?_) (fun hc15 => ?_)
    · replace h := if_t hc15 h
      refine lv_iconst hx hb dMo_place_43 (v := (0 : Int32)) rfl ?_
      replace h := ob h; obtain ⟨z6, ez6, h⟩ := h
      exact hq_zret hx hb hr hlocks (bz_some ez6).2 h (Nat.le_of_ble_eq_true rfl) (Nat.le_of_ble_eq_true rfl) hW dMo_place_44
    · replace h := if_f hc15 h
      refine lv_iload_n hx hb dMo_place_19 rfl (lv_at hl 2 rfl) ?_
      refine lv_iconst hx hb dMo_place_20 (v := (0 : Int32)) rfl ?_
      refine lv_iload_n hx hb dMo_place_21 rfl (lv_at hl 1 rfl) ?_
      refine lv_iconst hx hb dMo_place_22 (v := (3 : Int32)) rfl ?_
      replace h := ob h; obtain ⟨q8, e33, h⟩ := h
      have hJ33 : ∀ q', q' = q8 → ∀ (H : Heap) (locs : List Loc) (ls : Array Slot), lv_has ls 3 [] → Wd D vwCl (hTy tc) b S4 s H locs → W p l e { frames := 2, cells := 0, slots := 0, locals := 80 } s m args below meth c H locs 0 0 (MQ below (va_Qi (fun x (_ : Unit) => x = rr) (fun _ => Wp D vwCl (hTy tc) b Sz) (fun q => b ≤ q)) args s 0 0 (fun q => b ≤ q)) (F0 m 33 ls [.int q', .int (0 : Int32), .int t2]) := by
        intro i7 hq'; subst hq'
        intro H locs ls hl hW
        replace h := ob h; obtain ⟨⟨v11, S10⟩, eS10, h⟩ := h
        refine hq_calli (ce := 0) (sl := 0) (va_runS (As := [.int t2, .int (0 : Int32), .int i7]) (rest := []) ⟨hx, hb, hml, hown, hts⟩ (kMo_within l D tc b t2 (0 : Int32) i7 S4 _ _ eS10) (cwS 3 hts GS_Mo_117 rfl rfl rfl hd_Mo_within_S_Mo ⟨Nat.le_of_ble_eq_true rfl, Nat.le_of_ble_eq_true rfl⟩) (hq_preS hW) rfl rfl hl.1 rfl (lv_room (by first | exact Nat.le_of_ble_eq_true rfl | (simp only [List.map, rf_cat]; exact Nat.le_of_ble_eq_true rfl))) dMo_place_33 ⟨Nat.le_of_ble_eq_true rfl, Nat.le_of_ble_eq_true rfl⟩) hW rfl rfl (fun H locs hW => ?_)
        refine lv_if_eq hx hb dMo_place_36 (tgt := 43) rfl (fun hc14 => ?_) (fun hc14 => ?_)
        · replace h := if_t hc14 h
          refine lv_iconst hx hb dMo_place_43 (v := (0 : Int32)) rfl ?_
          replace h := ob h; obtain ⟨z12, ez12, h⟩ := h
          exact hq_zret hx hb hr hlocks (bz_some ez12).2 h (Nat.le_of_ble_eq_true rfl) (Nat.le_of_ble_eq_true rfl) hW dMo_place_44
        · replace h := if_f hc14 h
          refine lv_iconst hx hb dMo_place_39 (v := (1 : Int32)) rfl ?_
          refine lv_goto hx hb dMo_place_40 (tgt := 44) rfl ?_
          replace h := ob h; obtain ⟨z13, ez13, h⟩ := h
          exact hq_zret hx hb hr hlocks (bz_some ez13).2 h (Nat.le_of_ble_eq_true rfl) (Nat.le_of_ble_eq_true rfl) hW dMo_place_44
      clear h; have h := e33; clear e33
      refine lv_icmp_ge hx hb dMo_place_23 (tgt := 31) rfl (fun hc9 => ?_) (fun hc9 => ?_)
      · replace h := if_t hc9 h
        refine lv_bipush hx hb dMo_place_31 (v := (7 : Int32)) rfl ?_
        exact hJ33 _ (Option.some.inj h) _ _ _ (lv_sub hl [] rfl) hW
      · replace h := if_f hc9 h
        refine lv_bipush hx hb dMo_place_26 (v := (15 : Int32)) rfl ?_
        refine lv_goto hx hb dMo_place_28 (tgt := 33) rfl ?_
        exact hJ33 _ (Option.some.inj h) _ _ _ (lv_sub hl [] rfl) hW
def fMo_process_J19_1 (t2 : Int32) (t4 : Int32) (S1 : Ws) (t0 : Nat) (t1 : Int32) (t3 : Int32)  : Option (Int32 × Ws) :=
  (if t2 = (2 : Int32) then some (1 : Int32) else some (65535 : Int32)).bind fun i4 => (fMo_within t4 (0 : Int32) i4 S1).bind fun (v8, S7) => if v8 = 0 then (bz (0 : Int32)).bind fun z18 => some ((0 : Int32), S7) else if t2 = (2 : Int32) then (gR S7 t0 [8] 7).bind fun r13 => (r13).bind fun a14 => (sI S7 a14 0 (((16 : Int32) * t1) + t3) t4).bind fun S15 => (bz (1 : Int32)).bind fun z16 => some ((1 : Int32), S15) else (gR S7 t0 [8] 9).bind fun r9 => (r9).bind fun a10 => (sI S7 a10 0 (((8 : Int32) * t1) + t3) t4).bind fun S11 => (bz (1 : Int32)).bind fun z12 => some ((1 : Int32), S11)
def fMo_process (t0 : Nat) (t1 : Int32) (t2 : Int32) (t3 : Int32) (t4 : Int32) (S : Ws) : Option (Int32 × Ws) :=
  (fMo_place t1 t2 t3 S).bind fun (v2, S1) => if v2 = 0 then (bz (0 : Int32)).bind fun z3 => some ((0 : Int32), S1) else if t2 = (2 : Int32) then fMo_process_J19_1 t2 t4 S1 t0 t1 t3 else if t2 = (4 : Int32) then fMo_process_J19_1 t2 t4 S1 t0 t1 t3 else (bz (0 : Int32)).bind fun z20 => some ((0 : Int32), S1)
set_option maxRecDepth 100000 in
set_option maxHeartbeats 4000000 in
theorem kMo_process (l : Launch) (D : va_G) (tc : Nat → ClassId) (b : Nat) (t0 : Nat) (t1 : Int32) (t2 : Int32) (t3 : Int32) (t4 : Int32) (S Sz : Ws) (rr : Int32) (h : fMo_process t0 t1 t2 t3 t4 S = some (rr, Sz)) : Met l yMo_process wsMo_process { frames := 3, cells := 0, slots := 0, locals := 120 } (va_Pc [.ref t0, .int t1, .int t2, .int t3, .int t4] (Wp D vwCl (hTy tc) b S)) (va_Qi (fun x (_ : Unit) => x = rr) (fun _ => Wp D vwCl (hTy tc) b Sz) (fun q => b ≤ q)) 0 0 (fun q => b ≤ q) := by
  refine hq_ofW (cc := cMo_process) (maxL := 5) (ret := (some .boolean)) (by decide) rfl (Nat.le_of_ble_eq_true rfl) fun p e s m args below meth c hx hb hr hts hown hlocks hnm hml H locs ls hl hW => ?_
  have hts : ∀ w ∈ lwG, w.before args s = true := fun w h => hts w (List.mem_cons_of_mem _ h)
  have hown : s.vm.findClass "SerialPlantModel" = some m.cls := hown
  have hl : lv_has ls 5 [(0, .ref t0), (1, .int t1), (2, .int t2), (3, .int t3), (4, .int t4)] := hl
  unfold fMo_process at h
  refine lv_iload_n hx hb dMo_process_0 rfl (lv_at hl 1 rfl) ?_
  refine lv_iload_n hx hb dMo_process_1 rfl (lv_at hl 2 rfl) ?_
  refine lv_iload_n hx hb dMo_process_2 rfl (lv_at hl 3 rfl) ?_
  replace h := ob h; obtain ⟨⟨v2, S1⟩, eS1, h⟩ := h
  refine hq_calli (ce := 0) (sl := 0) (va_runS (As := [.int t1, .int t2, .int t3]) (rest := []) ⟨hx, hb, hml, hown, hts⟩ (kMo_place l D tc b t1 t2 t3 S _ _ eS1) (cwS 3 hts GS_Mo_121 rfl rfl rfl hd_Mo_place_S_Mo ⟨Nat.le_of_ble_eq_true rfl, Nat.le_of_ble_eq_true rfl⟩) (hq_preS hW) rfl rfl hl.1 rfl (lv_room (by first | exact Nat.le_of_ble_eq_true rfl | (simp only [List.map, rf_cat]; exact Nat.le_of_ble_eq_true rfl))) dMo_process_3 ⟨Nat.le_of_ble_eq_true rfl, Nat.le_of_ble_eq_true rfl⟩) hW rfl rfl (fun H locs hW => ?_)
  refine lv_if_eq hx hb dMo_process_6 (tgt := 39) rfl (fun hc23 => ?_) (fun hc23 => ?_)
  · replace h := if_t hc23 h
    refine lv_iconst hx hb dMo_process_39 (v := (0 : Int32)) rfl ?_
    replace h := ob h; obtain ⟨z3, ez3, h⟩ := h
    exact hq_zret hx hb hr hlocks (bz_some ez3).2 h (Nat.le_of_ble_eq_true rfl) (Nat.le_of_ble_eq_true rfl) hW dMo_process_40
  · replace h := if_f hc23 h
    refine lv_iload_n hx hb dMo_process_9 rfl (lv_at hl 2 rfl) ?_
    refine lv_iconst hx hb dMo_process_10 (v := (2 : Int32)) rfl ?_
    have hP19_1 : ∀  (H : Heap) (locs : List Loc) (ls : Array Slot), lv_has ls 5 [(0, .ref t0), (1, .int t1), (2, .int t2), (3, .int t3), (4, .int t4)] → Wd D vwCl (hTy tc) b S1 s H locs → fMo_process_J19_1 t2 t4 S1 t0 t1 t3 = some (rr, Sz) → W p l e { frames := 3, cells := 0, slots := 0, locals := 120 } s m args below meth c H locs 0 0 (MQ below (va_Qi (fun x (_ : Unit) => x = rr) (fun _ => Wp D vwCl (hTy tc) b Sz) (fun q => b ≤ q)) args s 0 0 (fun q => b ≤ q)) (F0 m 19 ls []) := by
      intro  H locs ls hl hW h
      unfold fMo_process_J19_1 at h
      refine lv_iload hx hb dMo_process_19 (lv_at hl 4 rfl) ?_
      refine lv_iconst hx hb dMo_process_21 (v := (0 : Int32)) rfl ?_
      refine lv_iload_n hx hb dMo_process_22 rfl (lv_at hl 2 rfl) ?_
      refine lv_iconst hx hb dMo_process_23 (v := (2 : Int32)) rfl ?_
      replace h := ob h; obtain ⟨q5, e33, h⟩ := h
      have hJ33 : ∀ q', q' = q5 → ∀ (H : Heap) (locs : List Loc) (ls : Array Slot), lv_has ls 5 [(0, .ref t0), (1, .int t1), (2, .int t2), (3, .int t3), (4, .int t4)] → Wd D vwCl (hTy tc) b S1 s H locs → W p l e { frames := 3, cells := 0, slots := 0, locals := 120 } s m args below meth c H locs 0 0 (MQ below (va_Qi (fun x (_ : Unit) => x = rr) (fun _ => Wp D vwCl (hTy tc) b Sz) (fun q => b ≤ q)) args s 0 0 (fun q => b ≤ q)) (F0 m 33 ls [.int q', .int (0 : Int32), .int t4]) := by
        intro i4 hq'; subst hq'
        intro H locs ls hl hW
        replace h := ob h; obtain ⟨⟨v8, S7⟩, eS7, h⟩ := h
        refine hq_calli (ce := 0) (sl := 0) (va_runS (As := [.int t4, .int (0 : Int32), .int i4]) (rest := []) ⟨hx, hb, hml, hown, hts⟩ (kMo_within l D tc b t4 (0 : Int32) i4 S1 _ _ eS7) (cwS 3 hts GS_Mo_117 rfl rfl rfl hd_Mo_within_S_Mo ⟨Nat.le_of_ble_eq_true rfl, Nat.le_of_ble_eq_true rfl⟩) (hq_preS hW) rfl rfl hl.1 rfl (lv_room (by first | exact Nat.le_of_ble_eq_true rfl | (simp only [List.map, rf_cat]; exact Nat.le_of_ble_eq_true rfl))) dMo_process_33 ⟨Nat.le_of_ble_eq_true rfl, Nat.le_of_ble_eq_true rfl⟩) hW rfl rfl (fun H locs hW => ?_)
        refine lv_if_ne hx hb dMo_process_36 (tgt := 41) rfl (fun hc19 => ?_) (fun hc19 => ?_)
        · replace h := if_f hc19 h
          refine lv_iload_n hx hb dMo_process_41 rfl (lv_at hl 2 rfl) ?_
          refine lv_iconst hx hb dMo_process_42 (v := (2 : Int32)) rfl ?_
          refine lv_icmp_ne hx hb dMo_process_43 (tgt := 62) rfl (fun hc17 => ?_) (fun hc17 => ?_)
          · replace h := if_f hc17 h
            refine lv_aload_n hx hb dMo_process_62 rfl (lv_at hl 0 rfl) ?_
            replace h := ob h; obtain ⟨r9, er9, h⟩ := h
            refine hq_get hx hb hts hown hW (gR_V er9) (F_Mo_35 hts) dMo_process_63 ?_
            refine lv_bipush hx hb dMo_process_66 (v := (8 : Int32)) rfl ?_
            refine lv_iload_n hx hb dMo_process_68 rfl (lv_at hl 1 rfl) ?_
            refine lv_imul hx hb dMo_process_69 ?_
            refine lv_iload_n hx hb dMo_process_70 rfl (lv_at hl 3 rfl) ?_
            refine lv_iadd hx hb dMo_process_71 ?_
            refine lv_iload hx hb dMo_process_72 (lv_at hl 4 rfl) ?_
            replace h := ob h; obtain ⟨a10, hra10, h⟩ := h
            subst hra10
            replace h := ob h; obtain ⟨S11, eS11, h⟩ := h
            refine hq_iast hx hb hW eS11 rfl dMo_process_74 (fun H locs hW => ?_)
            refine lv_iconst hx hb dMo_process_75 (v := (1 : Int32)) rfl ?_
            replace h := ob h; obtain ⟨z12, ez12, h⟩ := h
            exact hq_zret hx hb hr hlocks (bz_some ez12).2 h (Nat.le_of_ble_eq_true rfl) (Nat.le_of_ble_eq_true rfl) hW dMo_process_76
          · replace h := if_t hc17 h
            refine lv_aload_n hx hb dMo_process_46 rfl (lv_at hl 0 rfl) ?_
            replace h := ob h; obtain ⟨r13, er13, h⟩ := h
            refine hq_get hx hb hts hown hW (gR_V er13) (F_Mo_29 hts) dMo_process_47 ?_
            refine lv_bipush hx hb dMo_process_50 (v := (16 : Int32)) rfl ?_
            refine lv_iload_n hx hb dMo_process_52 rfl (lv_at hl 1 rfl) ?_
            refine lv_imul hx hb dMo_process_53 ?_
            refine lv_iload_n hx hb dMo_process_54 rfl (lv_at hl 3 rfl) ?_
            refine lv_iadd hx hb dMo_process_55 ?_
            refine lv_iload hx hb dMo_process_56 (lv_at hl 4 rfl) ?_
            replace h := ob h; obtain ⟨a14, hra14, h⟩ := h
            subst hra14
            replace h := ob h; obtain ⟨S15, eS15, h⟩ := h
            refine hq_iast hx hb hW eS15 rfl dMo_process_58 (fun H locs hW => ?_)
            refine lv_goto hx hb dMo_process_59 (tgt := 75) rfl ?_
            refine lv_iconst hx hb dMo_process_75 (v := (1 : Int32)) rfl ?_
            replace h := ob h; obtain ⟨z16, ez16, h⟩ := h
            exact hq_zret hx hb hr hlocks (bz_some ez16).2 h (Nat.le_of_ble_eq_true rfl) (Nat.le_of_ble_eq_true rfl) hW dMo_process_76
        · replace h := if_t hc19 h
          refine lv_iconst hx hb dMo_process_39 (v := (0 : Int32)) rfl ?_
          replace h := ob h; obtain ⟨z18, ez18, h⟩ := h
          exact hq_zret hx hb hr hlocks (bz_some ez18).2 h (Nat.le_of_ble_eq_true rfl) (Nat.le_of_ble_eq_true rfl) hW dMo_process_40
      clear h; have h := e33; clear e33
      refine lv_icmp_ne hx hb dMo_process_24 (tgt := 31) rfl (fun hc6 => ?_) (fun hc6 => ?_)
      · replace h := if_f hc6 h
        refine lv_ldc hx hb (v := (65535 : Int32)) hown (hts _ w_746) dMo_process_31 ?_
        exact hJ33 _ (Option.some.inj h) _ _ _ (lv_sub hl [0, 1, 2, 3, 4] rfl) hW
      · replace h := if_t hc6 h
        refine lv_iconst hx hb dMo_process_27 (v := (1 : Int32)) rfl ?_
        refine lv_goto hx hb dMo_process_28 (tgt := 33) rfl ?_
        exact hJ33 _ (Option.some.inj h) _ _ _ (lv_sub hl [0, 1, 2, 3, 4] rfl) hW
    refine lv_icmp_eq hx hb dMo_process_11 (tgt := 19) rfl (fun hc22 => ?_) (fun hc22 => ?_)
    · replace h := if_t hc22 h
      exact hP19_1  _ _ _ (lv_sub hl [0, 1, 2, 3, 4] rfl) hW h
    · replace h := if_f hc22 h
      refine lv_iload_n hx hb dMo_process_14 rfl (lv_at hl 2 rfl) ?_
      refine lv_iconst hx hb dMo_process_15 (v := (4 : Int32)) rfl ?_
      refine lv_icmp_ne hx hb dMo_process_16 (tgt := 39) rfl (fun hc21 => ?_) (fun hc21 => ?_)
      · replace h := if_f hc21 h
        refine lv_iconst hx hb dMo_process_39 (v := (0 : Int32)) rfl ?_
        replace h := ob h; obtain ⟨z20, ez20, h⟩ := h
        exact hq_zret hx hb hr hlocks (bz_some ez20).2 h (Nat.le_of_ble_eq_true rfl) (Nat.le_of_ble_eq_true rfl) hW dMo_process_40
      · replace h := if_t hc21 h
        exact hP19_1  _ _ _ (lv_sub hl [0, 1, 2, 3, 4] rfl) hW h
def fMo_cell (t0 : Nat) (t1 : Int32) (t2 : Int32) (t3 : Int32) (S : Ws) : Option (Int32 × Ws) :=
  (fMo_place t1 t2 t3 S).bind fun (v2, S1) => if v2 = 0 then some ((-1 : Int32), S1) else if t2 = 1 then (gR S1 t0 [8] 6).bind fun r4 => (r4).bind fun a5 => (aI S1 a5 0 (((16 : Int32) * t1) + t3)).bind fun v6 => some (v6, S1) else if t2 = 2 then (gR S1 t0 [8] 7).bind fun r8 => (r8).bind fun a9 => (aI S1 a9 0 (((16 : Int32) * t1) + t3)).bind fun v10 => some (v10, S1) else if t2 = 3 then (gR S1 t0 [8] 8).bind fun r12 => (r12).bind fun a13 => (aI S1 a13 0 (((8 : Int32) * t1) + t3)).bind fun v14 => some (v14, S1) else (gR S1 t0 [8] 9).bind fun r15 => (r15).bind fun a16 => (aI S1 a16 0 (((8 : Int32) * t1) + t3)).bind fun v17 => some (v17, S1)
set_option maxRecDepth 100000 in
set_option maxHeartbeats 4000000 in
theorem kMo_cell (l : Launch) (D : va_G) (tc : Nat → ClassId) (b : Nat) (t0 : Nat) (t1 : Int32) (t2 : Int32) (t3 : Int32) (S Sz : Ws) (rr : Int32) (h : fMo_cell t0 t1 t2 t3 S = some (rr, Sz)) : Met l yMo_cell wsMo_cell { frames := 3, cells := 0, slots := 0, locals := 120 } (va_Pc [.ref t0, .int t1, .int t2, .int t3] (Wp D vwCl (hTy tc) b S)) (va_Qi (fun x (_ : Unit) => x = rr) (fun _ => Wp D vwCl (hTy tc) b Sz) (fun q => b ≤ q)) 0 0 (fun q => b ≤ q) := by
  refine hq_ofW (cc := cMo_cell) (maxL := 4) (ret := (some .int)) (by decide) rfl (Nat.le_of_ble_eq_true rfl) fun p e s m args below meth c hx hb hr hts hown hlocks hnm hml H locs ls hl hW => ?_
  have hts : ∀ w ∈ lwG, w.before args s = true := fun w h => hts w (List.mem_cons_of_mem _ h)
  have hown : s.vm.findClass "SerialPlantModel" = some m.cls := hown
  have hl : lv_has ls 4 [(0, .ref t0), (1, .int t1), (2, .int t2), (3, .int t3)] := hl
  unfold fMo_cell at h
  refine lv_iload_n hx hb dMo_cell_0 rfl (lv_at hl 1 rfl) ?_
  refine lv_iload_n hx hb dMo_cell_1 rfl (lv_at hl 2 rfl) ?_
  refine lv_iload_n hx hb dMo_cell_2 rfl (lv_at hl 3 rfl) ?_
  replace h := ob h; obtain ⟨⟨v2, S1⟩, eS1, h⟩ := h
  refine hq_calli (ce := 0) (sl := 0) (va_runS (As := [.int t1, .int t2, .int t3]) (rest := []) ⟨hx, hb, hml, hown, hts⟩ (kMo_place l D tc b t1 t2 t3 S _ _ eS1) (cwS 3 hts GS_Mo_121 rfl rfl rfl hd_Mo_place_S_Mo ⟨Nat.le_of_ble_eq_true rfl, Nat.le_of_ble_eq_true rfl⟩) (hq_preS hW) rfl rfl hl.1 rfl (lv_room (by first | exact Nat.le_of_ble_eq_true rfl | (simp only [List.map, rf_cat]; exact Nat.le_of_ble_eq_true rfl))) dMo_cell_3 ⟨Nat.le_of_ble_eq_true rfl, Nat.le_of_ble_eq_true rfl⟩) hW rfl rfl (fun H locs hW => ?_)
  refine lv_if_ne hx hb dMo_cell_6 (tgt := 11) rfl (fun hc18 => ?_) (fun hc18 => ?_)
  · replace h := if_f hc18 h
    refine lv_iload_n hx hb dMo_cell_11 rfl (lv_at hl 2 rfl) ?_
    by_cases hc3 : t2 = 1
    · replace h := if_t hc3 h
      refine lv_tableIn hx hb dMo_cell_12 (tgt := 40) (by rw [hc3]; decide) (by rw [hc3]; decide) (by rw [hc3] <;> rfl) rfl ?_
      refine lv_aload_n hx hb dMo_cell_40 rfl (lv_at hl 0 rfl) ?_
      replace h := ob h; obtain ⟨r4, er4, h⟩ := h
      refine hq_get hx hb hts hown hW (gR_V er4) (F_Mo_26 hts) dMo_cell_41 ?_
      refine lv_bipush hx hb dMo_cell_44 (v := (16 : Int32)) rfl ?_
      refine lv_iload_n hx hb dMo_cell_46 rfl (lv_at hl 1 rfl) ?_
      refine lv_imul hx hb dMo_cell_47 ?_
      refine lv_iload_n hx hb dMo_cell_48 rfl (lv_at hl 3 rfl) ?_
      refine lv_iadd hx hb dMo_cell_49 ?_
      replace h := ob h; obtain ⟨a5, hra5, h⟩ := h
      subst hra5
      replace h := ob h; obtain ⟨v6, ev6, h⟩ := h
      refine hq_iald hx hb hW ev6 rfl dMo_cell_50 ?_
      exact hq_iret hx hb hr hlocks h (Nat.le_of_ble_eq_true rfl) (Nat.le_of_ble_eq_true rfl) hW dMo_cell_51
    · replace h := if_f hc3 h
      have hc3n0 := hc3
      by_cases hc7 : t2 = 2
      · replace h := if_t hc7 h
        refine lv_tableIn hx hb dMo_cell_12 (tgt := 52) (by rw [hc7]; decide) (by rw [hc7]; decide) (by rw [hc7] <;> rfl) rfl ?_
        refine lv_aload_n hx hb dMo_cell_52 rfl (lv_at hl 0 rfl) ?_
        replace h := ob h; obtain ⟨r8, er8, h⟩ := h
        refine hq_get hx hb hts hown hW (gR_V er8) (F_Mo_29 hts) dMo_cell_53 ?_
        refine lv_bipush hx hb dMo_cell_56 (v := (16 : Int32)) rfl ?_
        refine lv_iload_n hx hb dMo_cell_58 rfl (lv_at hl 1 rfl) ?_
        refine lv_imul hx hb dMo_cell_59 ?_
        refine lv_iload_n hx hb dMo_cell_60 rfl (lv_at hl 3 rfl) ?_
        refine lv_iadd hx hb dMo_cell_61 ?_
        replace h := ob h; obtain ⟨a9, hra9, h⟩ := h
        subst hra9
        replace h := ob h; obtain ⟨v10, ev10, h⟩ := h
        refine hq_iald hx hb hW ev10 rfl dMo_cell_62 ?_
        exact hq_iret hx hb hr hlocks h (Nat.le_of_ble_eq_true rfl) (Nat.le_of_ble_eq_true rfl) hW dMo_cell_63
      · replace h := if_f hc7 h
        have hc7n0 := hc7
        by_cases hc11 : t2 = 3
        · replace h := if_t hc11 h
          refine lv_tableIn hx hb dMo_cell_12 (tgt := 64) (by rw [hc11]; decide) (by rw [hc11]; decide) (by rw [hc11] <;> rfl) rfl ?_
          refine lv_aload_n hx hb dMo_cell_64 rfl (lv_at hl 0 rfl) ?_
          replace h := ob h; obtain ⟨r12, er12, h⟩ := h
          refine hq_get hx hb hts hown hW (gR_V er12) (F_Mo_32 hts) dMo_cell_65 ?_
          refine lv_bipush hx hb dMo_cell_68 (v := (8 : Int32)) rfl ?_
          refine lv_iload_n hx hb dMo_cell_70 rfl (lv_at hl 1 rfl) ?_
          refine lv_imul hx hb dMo_cell_71 ?_
          refine lv_iload_n hx hb dMo_cell_72 rfl (lv_at hl 3 rfl) ?_
          refine lv_iadd hx hb dMo_cell_73 ?_
          replace h := ob h; obtain ⟨a13, hra13, h⟩ := h
          subst hra13
          replace h := ob h; obtain ⟨v14, ev14, h⟩ := h
          refine hq_iald hx hb hW ev14 rfl dMo_cell_74 ?_
          exact hq_iret hx hb hr hlocks h (Nat.le_of_ble_eq_true rfl) (Nat.le_of_ble_eq_true rfl) hW dMo_cell_75
        · replace h := if_f hc11 h
          have hc11n0 := hc11
          refine lv_tableOut hx hb dMo_cell_12 (tgt := 76) (by have g0 := lv_neT hc3n0 (a := 1) rfl; have g1 := lv_neT hc7n0 (a := 2) rfl; have g2 := lv_neT hc11n0 (a := 3) rfl; omega) rfl ?_
          refine lv_aload_n hx hb dMo_cell_76 rfl (lv_at hl 0 rfl) ?_
          replace h := ob h; obtain ⟨r15, er15, h⟩ := h
          refine hq_get hx hb hts hown hW (gR_V er15) (F_Mo_35 hts) dMo_cell_77 ?_
          refine lv_bipush hx hb dMo_cell_80 (v := (8 : Int32)) rfl ?_
          refine lv_iload_n hx hb dMo_cell_82 rfl (lv_at hl 1 rfl) ?_
          refine lv_imul hx hb dMo_cell_83 ?_
          refine lv_iload_n hx hb dMo_cell_84 rfl (lv_at hl 3 rfl) ?_
          refine lv_iadd hx hb dMo_cell_85 ?_
          replace h := ob h; obtain ⟨a16, hra16, h⟩ := h
          subst hra16
          replace h := ob h; obtain ⟨v17, ev17, h⟩ := h
          refine hq_iald hx hb hW ev17 rfl dMo_cell_86 ?_
          exact hq_iret hx hb hr hlocks h (Nat.le_of_ble_eq_true rfl) (Nat.le_of_ble_eq_true rfl) hW dMo_cell_87
  · replace h := if_t hc18 h
    refine lv_iconst hx hb dMo_cell_9 (v := (-1 : Int32)) rfl ?_
    exact hq_iret hx hb hr hlocks h (Nat.le_of_ble_eq_true rfl) (Nat.le_of_ble_eq_true rfl) hW dMo_cell_10
def fMo_point_J29_1 (t3 : Int32) (S1 : Ws) (t0 : Nat) (t1 : Int32) (t2 : Int32)  : Option (Int32 × Ws) :=
  (fMo_within t3 (0 : Int32) (7 : Int32) S1).bind fun (v7, S6) => if v7 = 0 then some ((-1 : Int32), S6) else (gI S6 t0 [8] 19).bind fun v8 => if v8 = (4 : Int32) then some ((-1 : Int32), S6) else (gR S6 t0 [8] 20).bind fun r9 => (gI S6 t0 [8] 19).bind fun v10 => (r9).bind fun a11 => (sI S6 a11 0 v10 t1).bind fun S12 => (gR S12 t0 [8] 21).bind fun r13 => (gI S12 t0 [8] 19).bind fun v14 => (r13).bind fun a15 => (sI S12 a15 0 v14 t2).bind fun S16 => (gR S16 t0 [8] 22).bind fun r17 => (gI S16 t0 [8] 19).bind fun v18 => (r17).bind fun a19 => (sI S16 a19 0 v18 t3).bind fun S20 => (gI S20 t0 [8] 19).bind fun v21 => (pV S20 t0 [8] 19 (.int (v21 + (1 : Int32)))).bind fun S22 => (gI S22 t0 [8] 19).bind fun v23 => some (v23 - (1 : Int32), S22)
def fMo_point (t0 : Nat) (t1 : Int32) (t2 : Int32) (t3 : Int32) (S : Ws) : Option (Int32 × Ws) :=
  (fMo_within t1 (1 : Int32) (6 : Int32) S).bind fun (v2, S1) => if v2 = 0 then some ((-1 : Int32), S1) else (gR S1 t0 [8] 1).bind fun r3 => (r3).bind fun a4 => (aI S1 a4 1 t1).bind fun v5 => if v5 = 0 then some ((-1 : Int32), S1) else if t2 = (3 : Int32) then fMo_point_J29_1 t3 S1 t0 t1 t2 else if t2 = (4 : Int32) then fMo_point_J29_1 t3 S1 t0 t1 t2 else some ((-1 : Int32), S1)
set_option maxRecDepth 100000 in
set_option maxHeartbeats 4000000 in
theorem kMo_point (l : Launch) (D : va_G) (tc : Nat → ClassId) (b : Nat) (t0 : Nat) (t1 : Int32) (t2 : Int32) (t3 : Int32) (S Sz : Ws) (rr : Int32) (h : fMo_point t0 t1 t2 t3 S = some (rr, Sz)) : Met l yMo_point wsMo_point { frames := 2, cells := 0, slots := 0, locals := 80 } (va_Pc [.ref t0, .int t1, .int t2, .int t3] (Wp D vwCl (hTy tc) b S)) (va_Qi (fun x (_ : Unit) => x = rr) (fun _ => Wp D vwCl (hTy tc) b Sz) (fun q => b ≤ q)) 0 0 (fun q => b ≤ q) := by
  refine hq_ofW (cc := cMo_point) (maxL := 4) (ret := (some .int)) (by decide) rfl (Nat.le_of_ble_eq_true rfl) fun p e s m args below meth c hx hb hr hts hown hlocks hnm hml H locs ls hl hW => ?_
  have hts : ∀ w ∈ lwG, w.before args s = true := fun w h => hts w (List.mem_cons_of_mem _ h)
  have hown : s.vm.findClass "SerialPlantModel" = some m.cls := hown
  have hl : lv_has ls 4 [(0, .ref t0), (1, .int t1), (2, .int t2), (3, .int t3)] := hl
  unfold fMo_point at h
  refine lv_iload_n hx hb dMo_point_0 rfl (lv_at hl 1 rfl) ?_
  refine lv_iconst hx hb dMo_point_1 (v := (1 : Int32)) rfl ?_
  refine lv_bipush hx hb dMo_point_2 (v := (6 : Int32)) rfl ?_
  replace h := ob h; obtain ⟨⟨v2, S1⟩, eS1, h⟩ := h
  refine hq_calli (ce := 0) (sl := 0) (va_runS (As := [.int t1, .int (1 : Int32), .int (6 : Int32)]) (rest := []) ⟨hx, hb, hml, hown, hts⟩ (kMo_within l D tc b t1 (1 : Int32) (6 : Int32) S _ _ eS1) (cwS 3 hts GS_Mo_117 rfl rfl rfl hd_Mo_within_S_Mo ⟨Nat.le_of_ble_eq_true rfl, Nat.le_of_ble_eq_true rfl⟩) (hq_preS hW) rfl rfl hl.1 rfl (lv_room (by first | exact Nat.le_of_ble_eq_true rfl | (simp only [List.map, rf_cat]; exact Nat.le_of_ble_eq_true rfl))) dMo_point_4 ⟨Nat.le_of_ble_eq_true rfl, Nat.le_of_ble_eq_true rfl⟩) hW rfl rfl (fun H locs hW => ?_)
  refine lv_if_eq hx hb dMo_point_7 (tgt := 47) rfl (fun hc29 => ?_) (fun hc29 => ?_)
  · replace h := if_t hc29 h
    refine lv_iconst hx hb dMo_point_47 (v := (-1 : Int32)) rfl ?_
    exact hq_iret hx hb hr hlocks h (Nat.le_of_ble_eq_true rfl) (Nat.le_of_ble_eq_true rfl) hW dMo_point_48
  · replace h := if_f hc29 h
    refine lv_aload_n hx hb dMo_point_10 rfl (lv_at hl 0 rfl) ?_
    replace h := ob h; obtain ⟨r3, er3, h⟩ := h
    refine hq_get hx hb hts hown hW (gR_V er3) (F_Mo_7 hts) dMo_point_11 ?_
    refine lv_iload_n hx hb dMo_point_14 rfl (lv_at hl 1 rfl) ?_
    replace h := ob h; obtain ⟨a4, hra4, h⟩ := h
    subst hra4
    replace h := ob h; obtain ⟨v5, ev5, h⟩ := h
    refine hq_zald hx hb hW ev5 rfl dMo_point_15 ?_
    refine lv_if_eq hx hb dMo_point_16 (tgt := 47) rfl (fun hc28 => ?_) (fun hc28 => ?_)
    · replace h := if_t hc28 h
      refine lv_iconst hx hb dMo_point_47 (v := (-1 : Int32)) rfl ?_
      exact hq_iret hx hb hr hlocks h (Nat.le_of_ble_eq_true rfl) (Nat.le_of_ble_eq_true rfl) hW dMo_point_48
    · replace h := if_f hc28 h
      refine lv_iload_n hx hb dMo_point_19 rfl (lv_at hl 2 rfl) ?_
      refine lv_iconst hx hb dMo_point_20 (v := (3 : Int32)) rfl ?_
      have hP29_1 : ∀  (H : Heap) (locs : List Loc) (ls : Array Slot), lv_has ls 4 [(0, .ref t0), (1, .int t1), (2, .int t2), (3, .int t3)] → Wd D vwCl (hTy tc) b S1 s H locs → fMo_point_J29_1 t3 S1 t0 t1 t2 = some (rr, Sz) → W p l e { frames := 2, cells := 0, slots := 0, locals := 80 } s m args below meth c H locs 0 0 (MQ below (va_Qi (fun x (_ : Unit) => x = rr) (fun _ => Wp D vwCl (hTy tc) b Sz) (fun q => b ≤ q)) args s 0 0 (fun q => b ≤ q)) (F0 m 29 ls []) := by
        intro  H locs ls hl hW h
        unfold fMo_point_J29_1 at h
        refine lv_iload_n hx hb dMo_point_29 rfl (lv_at hl 3 rfl) ?_
        refine lv_iconst hx hb dMo_point_30 (v := (0 : Int32)) rfl ?_
        refine lv_bipush hx hb dMo_point_31 (v := (7 : Int32)) rfl ?_
        replace h := ob h; obtain ⟨⟨v7, S6⟩, eS6, h⟩ := h
        refine hq_calli (ce := 0) (sl := 0) (va_runS (As := [.int t3, .int (0 : Int32), .int (7 : Int32)]) (rest := []) ⟨hx, hb, hml, hown, hts⟩ (kMo_within l D tc b t3 (0 : Int32) (7 : Int32) S1 _ _ eS6) (cwS 3 hts GS_Mo_117 rfl rfl rfl hd_Mo_within_S_Mo ⟨Nat.le_of_ble_eq_true rfl, Nat.le_of_ble_eq_true rfl⟩) (hq_preS hW) rfl rfl hl.1 rfl (lv_room (by first | exact Nat.le_of_ble_eq_true rfl | (simp only [List.map, rf_cat]; exact Nat.le_of_ble_eq_true rfl))) dMo_point_33 ⟨Nat.le_of_ble_eq_true rfl, Nat.le_of_ble_eq_true rfl⟩) hW rfl rfl (fun H locs hW => ?_)
        refine lv_if_eq hx hb dMo_point_36 (tgt := 47) rfl (fun hc25 => ?_) (fun hc25 => ?_)
        · replace h := if_t hc25 h
          refine lv_iconst hx hb dMo_point_47 (v := (-1 : Int32)) rfl ?_
          exact hq_iret hx hb hr hlocks h (Nat.le_of_ble_eq_true rfl) (Nat.le_of_ble_eq_true rfl) hW dMo_point_48
        · replace h := if_f hc25 h
          refine lv_aload_n hx hb dMo_point_39 rfl (lv_at hl 0 rfl) ?_
          replace h := ob h; obtain ⟨v8, ev8, h⟩ := h
          refine hq_get hx hb hts hown hW (gI_V ev8) (F_Mo_125 hts) dMo_point_40 ?_
          refine lv_iconst hx hb dMo_point_43 (v := (4 : Int32)) rfl ?_
          refine lv_icmp_ne hx hb dMo_point_44 (tgt := 49) rfl (fun hc24 => ?_) (fun hc24 => ?_)
          · replace h := if_f hc24 h
            refine lv_aload_n hx hb dMo_point_49 rfl (lv_at hl 0 rfl) ?_
            replace h := ob h; obtain ⟨r9, er9, h⟩ := h
            refine hq_get hx hb hts hown hW (gR_V er9) (F_Mo_63 hts) dMo_point_50 ?_
            refine lv_aload_n hx hb dMo_point_53 rfl (lv_at hl 0 rfl) ?_
            replace h := ob h; obtain ⟨v10, ev10, h⟩ := h
            refine hq_get hx hb hts hown hW (gI_V ev10) (F_Mo_125 hts) dMo_point_54 ?_
            refine lv_iload_n hx hb dMo_point_57 rfl (lv_at hl 1 rfl) ?_
            replace h := ob h; obtain ⟨a11, hra11, h⟩ := h
            subst hra11
            replace h := ob h; obtain ⟨S12, eS12, h⟩ := h
            refine hq_iast hx hb hW eS12 rfl dMo_point_58 (fun H locs hW => ?_)
            refine lv_aload_n hx hb dMo_point_59 rfl (lv_at hl 0 rfl) ?_
            replace h := ob h; obtain ⟨r13, er13, h⟩ := h
            refine hq_get hx hb hts hown hW (gR_V er13) (F_Mo_66 hts) dMo_point_60 ?_
            refine lv_aload_n hx hb dMo_point_63 rfl (lv_at hl 0 rfl) ?_
            replace h := ob h; obtain ⟨v14, ev14, h⟩ := h
            refine hq_get hx hb hts hown hW (gI_V ev14) (F_Mo_125 hts) dMo_point_64 ?_
            refine lv_iload_n hx hb dMo_point_67 rfl (lv_at hl 2 rfl) ?_
            replace h := ob h; obtain ⟨a15, hra15, h⟩ := h
            subst hra15
            replace h := ob h; obtain ⟨S16, eS16, h⟩ := h
            refine hq_iast hx hb hW eS16 rfl dMo_point_68 (fun H locs hW => ?_)
            refine lv_aload_n hx hb dMo_point_69 rfl (lv_at hl 0 rfl) ?_
            replace h := ob h; obtain ⟨r17, er17, h⟩ := h
            refine hq_get hx hb hts hown hW (gR_V er17) (F_Mo_69 hts) dMo_point_70 ?_
            refine lv_aload_n hx hb dMo_point_73 rfl (lv_at hl 0 rfl) ?_
            replace h := ob h; obtain ⟨v18, ev18, h⟩ := h
            refine hq_get hx hb hts hown hW (gI_V ev18) (F_Mo_125 hts) dMo_point_74 ?_
            refine lv_iload_n hx hb dMo_point_77 rfl (lv_at hl 3 rfl) ?_
            replace h := ob h; obtain ⟨a19, hra19, h⟩ := h
            subst hra19
            replace h := ob h; obtain ⟨S20, eS20, h⟩ := h
            refine hq_iast hx hb hW eS20 rfl dMo_point_78 (fun H locs hW => ?_)
            refine lv_aload_n hx hb dMo_point_79 rfl (lv_at hl 0 rfl) ?_
            refine lv_dup hx hb dMo_point_80 rfl ?_
            replace h := ob h; obtain ⟨v21, ev21, h⟩ := h
            refine hq_get hx hb hts hown hW (gI_V ev21) (F_Mo_125 hts) dMo_point_81 ?_
            refine lv_iconst hx hb dMo_point_84 (v := (1 : Int32)) rfl ?_
            refine lv_iadd hx hb dMo_point_85 ?_
            replace h := ob h; obtain ⟨S22, eS22, h⟩ := h
            refine hq_put hx hb hts hown hW eS22 (F_Mo_125 hts) P_Mo_Mo_19 rfl rfl dMo_point_86 (fun H locs hW => ?_)
            refine lv_aload_n hx hb dMo_point_89 rfl (lv_at hl 0 rfl) ?_
            replace h := ob h; obtain ⟨v23, ev23, h⟩ := h
            refine hq_get hx hb hts hown hW (gI_V ev23) (F_Mo_125 hts) dMo_point_90 ?_
            refine lv_iconst hx hb dMo_point_93 (v := (1 : Int32)) rfl ?_
            refine lv_isub hx hb dMo_point_94 ?_
            exact hq_iret hx hb hr hlocks h (Nat.le_of_ble_eq_true rfl) (Nat.le_of_ble_eq_true rfl) hW dMo_point_95
          · replace h := if_t hc24 h
            refine lv_iconst hx hb dMo_point_47 (v := (-1 : Int32)) rfl ?_
            exact hq_iret hx hb hr hlocks h (Nat.le_of_ble_eq_true rfl) (Nat.le_of_ble_eq_true rfl) hW dMo_point_48
      refine lv_icmp_eq hx hb dMo_point_21 (tgt := 29) rfl (fun hc27 => ?_) (fun hc27 => ?_)
      · replace h := if_t hc27 h
        exact hP29_1  _ _ _ (lv_sub hl [0, 1, 2, 3] rfl) hW h
      · replace h := if_f hc27 h
        refine lv_iload_n hx hb dMo_point_24 rfl (lv_at hl 2 rfl) ?_
        refine lv_iconst hx hb dMo_point_25 (v := (4 : Int32)) rfl ?_
        refine lv_icmp_ne hx hb dMo_point_26 (tgt := 47) rfl (fun hc26 => ?_) (fun hc26 => ?_)
        · replace h := if_f hc26 h
          refine lv_iconst hx hb dMo_point_47 (v := (-1 : Int32)) rfl ?_
          exact hq_iret hx hb hr hlocks h (Nat.le_of_ble_eq_true rfl) (Nat.le_of_ble_eq_true rfl) hW dMo_point_48
        · replace h := if_t hc26 h
          exact hP29_1  _ _ _ (lv_sub hl [0, 1, 2, 3] rfl) hW h
def fMo_put (t0 : Nat) (t1 : Int32) (t2 : Int32) (S : Ws) : Option (Ws) :=
  (gR S t0 [8] 27).bind fun r1 => (gR S t0 [8] 28).bind fun r2 => (r2).bind fun a3 => (aI S a3 0 t1).bind fun v4 => (r1).bind fun a5 => (sI S a5 0 (((4 : Int32) * t1) + v4) t2).bind fun S6 => (gR S6 t0 [8] 28).bind fun r7 => (r7).bind fun a8 => (aI S6 a8 0 t1).bind fun v9 => (sI S6 a8 0 t1 (v9 + (1 : Int32))).bind fun S10 => some S10
set_option maxRecDepth 100000 in
set_option maxHeartbeats 4000000 in
theorem kMo_put (l : Launch) (D : va_G) (tc : Nat → ClassId) (b : Nat) (t0 : Nat) (t1 : Int32) (t2 : Int32) (S Sz : Ws) (h : fMo_put t0 t1 t2 S = some Sz) : Met l yMo_put wsMo_put { frames := 1, cells := 0, slots := 0, locals := 40 } (va_Pc [.ref t0, .int t1, .int t2] (Wp D vwCl (hTy tc) b S)) (va_Qv (fun _ : Unit => True) (fun _ => Wp D vwCl (hTy tc) b Sz) (fun q => b ≤ q)) 0 0 (fun q => b ≤ q) := by
  refine hq_ofW (cc := cMo_put) (maxL := 3) (ret := none) (by decide) rfl (Nat.le_of_ble_eq_true rfl) fun p e s m args below meth c hx hb hr hts hown hlocks hnm hml H locs ls hl hW => ?_
  have hts : ∀ w ∈ lwG, w.before args s = true := fun w h => hts w (List.mem_cons_of_mem _ h)
  have hown : s.vm.findClass "SerialPlantModel" = some m.cls := hown
  have hl : lv_has ls 3 [(0, .ref t0), (1, .int t1), (2, .int t2)] := hl
  unfold fMo_put at h
  refine lv_aload_n hx hb dMo_put_0 rfl (lv_at hl 0 rfl) ?_
  replace h := ob h; obtain ⟨r1, er1, h⟩ := h
  refine hq_get hx hb hts hown hW (gR_V er1) (F_Mo_81 hts) dMo_put_1 ?_
  refine lv_iconst hx hb dMo_put_4 (v := (4 : Int32)) rfl ?_
  refine lv_iload_n hx hb dMo_put_5 rfl (lv_at hl 1 rfl) ?_
  refine lv_imul hx hb dMo_put_6 ?_
  refine lv_aload_n hx hb dMo_put_7 rfl (lv_at hl 0 rfl) ?_
  replace h := ob h; obtain ⟨r2, er2, h⟩ := h
  refine hq_get hx hb hts hown hW (gR_V er2) (F_Mo_84 hts) dMo_put_8 ?_
  refine lv_iload_n hx hb dMo_put_11 rfl (lv_at hl 1 rfl) ?_
  replace h := ob h; obtain ⟨a3, hra3, h⟩ := h
  subst hra3
  replace h := ob h; obtain ⟨v4, ev4, h⟩ := h
  refine hq_iald hx hb hW ev4 rfl dMo_put_12 ?_
  refine lv_iadd hx hb dMo_put_13 ?_
  refine lv_iload_n hx hb dMo_put_14 rfl (lv_at hl 2 rfl) ?_
  replace h := ob h; obtain ⟨a5, hra5, h⟩ := h
  subst hra5
  replace h := ob h; obtain ⟨S6, eS6, h⟩ := h
  refine hq_iast hx hb hW eS6 rfl dMo_put_15 (fun H locs hW => ?_)
  refine lv_aload_n hx hb dMo_put_16 rfl (lv_at hl 0 rfl) ?_
  replace h := ob h; obtain ⟨r7, er7, h⟩ := h
  refine hq_get hx hb hts hown hW (gR_V er7) (F_Mo_84 hts) dMo_put_17 ?_
  refine lv_iload_n hx hb dMo_put_20 rfl (lv_at hl 1 rfl) ?_
  refine lv_dup2_11 hx hb dMo_put_21 rfl (rf_cat _) ?_
  replace h := ob h; obtain ⟨a8, hra8, h⟩ := h
  subst hra8
  replace h := ob h; obtain ⟨v9, ev9, h⟩ := h
  refine hq_iald hx hb hW ev9 rfl dMo_put_22 ?_
  refine lv_iconst hx hb dMo_put_23 (v := (1 : Int32)) rfl ?_
  refine lv_iadd hx hb dMo_put_24 ?_
  replace h := ob h; obtain ⟨S10, eS10, h⟩ := h
  refine hq_iast hx hb hW eS10 rfl dMo_put_25 (fun H locs hW => ?_)
  exact hq_vret hx hb hr hlocks h (Nat.le_of_ble_eq_true rfl) (Nat.le_of_ble_eq_true rfl) hW dMo_put_26
def fMo_request_J190_1 (t0 : Nat) (v10 : Int32)  (S28 : Ws) : Option (Int32 × Ws) :=
  (gR S28 t0 [8] 16).bind fun r29 => (r29).bind fun a30 => (sI S28 a30 0 v10 (2 : Int32)).bind fun S31 => (gR S31 t0 [8] 17).bind fun r32 => (r32).bind fun a33 => (sI S31 a33 0 v10 (10 : Int32)).bind fun S34 => some (v10, S34)
def fMo_request_L126 (t0 : Nat) (v10 : Int32) : Int32 × Ws → Option ((Int32 × Ws) ⊕ (Ws)) :=
  fun (i55, S56) => if (2 : Int32) ≤ i55 then some (.inr S56) else (gR S56 t0 [8] 28).bind fun r59 => (r59).bind fun a60 => (aI S56 a60 0 i55).bind fun v61 => if (4 : Int32) ≤ v61 then some (.inl (i55 + 1, S56)) else (gO S56 t0 [8]).bind fun q63 => (fMo_put t0 i55 v10 S56).bind fun S62 => some (.inl (i55 + 1, S62))
def fMo_request (t0 : Nat) (t1 : Int32) (t2 : Int32) (t3 : Int32) (t4 : Int32) (t5 : Int64) (S : Ws) : Option (Int32 × Ws) :=
  (fMo_within t1 (0 : Int32) (247 : Int32) S).bind fun (v2, S1) => if v2 = 0 then some ((-1 : Int32), S1) else (fMo_within t2 (1 : Int32) (127 : Int32) S1).bind fun (v4, S3) => if v4 = 0 then some ((-1 : Int32), S3) else (fMo_within t3 (0 : Int32) (65535 : Int32) S3).bind fun (v6, S5) => if v6 = 0 then some ((-1 : Int32), S5) else (fMo_within t4 (0 : Int32) (16 : Int32) S5).bind fun (v8, S7) => if v8 = 0 then some ((-1 : Int32), S7) else (gI S7 t0 [8] 10).bind fun v9 => if v9 = (64 : Int32) then some ((-1 : Int32), S7) else (gI S7 t0 [8] 10).bind fun v10 => (gI S7 t0 [8] 10).bind fun v11 => (pV S7 t0 [8] 10 (.int (v11 + (1 : Int32)))).bind fun S12 => (gR S12 t0 [8] 11).bind fun r13 => (r13).bind fun a14 => (sI S12 a14 0 v10 t1).bind fun S15 => (gR S15 t0 [8] 12).bind fun r16 => (r16).bind fun a17 => (sI S15 a17 0 v10 t2).bind fun S18 => (gR S18 t0 [8] 13).bind fun r19 => (r19).bind fun a20 => (sI S18 a20 0 v10 t3).bind fun S21 => (gR S21 t0 [8] 14).bind fun r22 => (r22).bind fun a23 => (sI S21 a23 0 v10 t4).bind fun S24 => (gR S24 t0 [8] 15).bind fun r25 => (r25).bind fun a26 => (sL S24 a26 2 v10 t5).bind fun S27 => if t1 = 0 then (gR S27 t0 [8] 16).bind fun r52 => (r52).bind fun a53 => (sI S27 a53 0 v10 (3 : Int32)).bind fun S54 => (lp (fMo_request_L126 t0 v10) 1000 ((0 : Int32), S54)).bind fun S58 => some (v10, S58) else if (6 : Int32) < t1 then fMo_request_J190_1 t0 v10 S27 else (gR S27 t0 [8] 1).bind fun r35 => (r35).bind fun a36 => (aI S27 a36 1 t1).bind fun v37 => if v37 = 0 then fMo_request_J190_1 t0 v10 S27 else (gR S27 t0 [8] 28).bind fun r38 => (gR S27 t0 [8] 2).bind fun r39 => (r39).bind fun a40 => (aI S27 a40 0 t1).bind fun v41 => (r38).bind fun a42 => (aI S27 a42 0 v41).bind fun v43 => if v43 = (4 : Int32) then fMo_request_J190_1 t0 v10 S27 else (gR S27 t0 [8] 2).bind fun r44 => (r44).bind fun a45 => (aI S27 a45 0 t1).bind fun v46 => (gO S27 t0 [8]).bind fun q48 => (fMo_put t0 v46 v10 S27).bind fun S47 => some (v10, S47)
set_option maxRecDepth 100000 in
set_option maxHeartbeats 4000000 in
theorem kMo_request (l : Launch) (D : va_G) (tc : Nat → ClassId) (b : Nat) (t0 : Nat) (t1 : Int32) (t2 : Int32) (t3 : Int32) (t4 : Int32) (t5 : Int64) (S Sz : Ws) (rr : Int32) (h : fMo_request t0 t1 t2 t3 t4 t5 S = some (rr, Sz)) : Met l yMo_request wsMo_request { frames := 2, cells := 0, slots := 0, locals := 80 } (va_Pc [.ref t0, .int t1, .int t2, .int t3, .int t4, .long t5] (Wp D vwCl (hTy tc) b S)) (va_Qi (fun x (_ : Unit) => x = rr) (fun _ => Wp D vwCl (hTy tc) b Sz) (fun q => b ≤ q)) 0 0 (fun q => b ≤ q) := by
  refine hq_ofW (cc := cMo_request) (maxL := 9) (ret := (some .int)) (by decide) rfl (Nat.le_of_ble_eq_true rfl) fun p e s m args below meth c hx hb hr hts hown hlocks hnm hml H locs ls hl hW => ?_
  have hts : ∀ w ∈ lwG, w.before args s = true := fun w h => hts w (List.mem_cons_of_mem _ h)
  have hown : s.vm.findClass "SerialPlantModel" = some m.cls := hown
  have hl : lv_has ls 9 [(0, .ref t0), (1, .int t1), (2, .int t2), (3, .int t3), (4, .int t4), (5, .long t5)] := hl
  unfold fMo_request at h
  refine lv_iload_n hx hb dMo_request_0 rfl (lv_at hl 1 rfl) ?_
  refine lv_iconst hx hb dMo_request_1 (v := (0 : Int32)) rfl ?_
  refine lv_sipush hx hb dMo_request_2 (v := (247 : Int32)) rfl ?_
  replace h := ob h; obtain ⟨⟨v2, S1⟩, eS1, h⟩ := h
  refine hq_calli (ce := 0) (sl := 0) (va_runS (As := [.int t1, .int (0 : Int32), .int (247 : Int32)]) (rest := []) ⟨hx, hb, hml, hown, hts⟩ (kMo_within l D tc b t1 (0 : Int32) (247 : Int32) S _ _ eS1) (cwS 3 hts GS_Mo_117 rfl rfl rfl hd_Mo_within_S_Mo ⟨Nat.le_of_ble_eq_true rfl, Nat.le_of_ble_eq_true rfl⟩) (hq_preS hW) rfl rfl hl.1 rfl (lv_room (by first | exact Nat.le_of_ble_eq_true rfl | (simp only [List.map, rf_cat]; exact Nat.le_of_ble_eq_true rfl))) dMo_request_5 ⟨Nat.le_of_ble_eq_true rfl, Nat.le_of_ble_eq_true rfl⟩) hW rfl rfl (fun H locs hW => ?_)
  refine lv_if_eq hx hb dMo_request_8 (tgt := 51) rfl (fun hc71 => ?_) (fun hc71 => ?_)
  · replace h := if_t hc71 h
    refine lv_iconst hx hb dMo_request_51 (v := (-1 : Int32)) rfl ?_
    exact hq_iret hx hb hr hlocks h (Nat.le_of_ble_eq_true rfl) (Nat.le_of_ble_eq_true rfl) hW dMo_request_52
  · replace h := if_f hc71 h
    refine lv_iload_n hx hb dMo_request_11 rfl (lv_at hl 2 rfl) ?_
    refine lv_iconst hx hb dMo_request_12 (v := (1 : Int32)) rfl ?_
    refine lv_bipush hx hb dMo_request_13 (v := (127 : Int32)) rfl ?_
    replace h := ob h; obtain ⟨⟨v4, S3⟩, eS3, h⟩ := h
    refine hq_calli (ce := 0) (sl := 0) (va_runS (As := [.int t2, .int (1 : Int32), .int (127 : Int32)]) (rest := []) ⟨hx, hb, hml, hown, hts⟩ (kMo_within l D tc b t2 (1 : Int32) (127 : Int32) S1 _ _ eS3) (cwS 3 hts GS_Mo_117 rfl rfl rfl hd_Mo_within_S_Mo ⟨Nat.le_of_ble_eq_true rfl, Nat.le_of_ble_eq_true rfl⟩) (hq_preS hW) rfl rfl hl.1 rfl (lv_room (by first | exact Nat.le_of_ble_eq_true rfl | (simp only [List.map, rf_cat]; exact Nat.le_of_ble_eq_true rfl))) dMo_request_15 ⟨Nat.le_of_ble_eq_true rfl, Nat.le_of_ble_eq_true rfl⟩) hW rfl rfl (fun H locs hW => ?_)
    refine lv_if_eq hx hb dMo_request_18 (tgt := 51) rfl (fun hc70 => ?_) (fun hc70 => ?_)
    · replace h := if_t hc70 h
      refine lv_iconst hx hb dMo_request_51 (v := (-1 : Int32)) rfl ?_
      exact hq_iret hx hb hr hlocks h (Nat.le_of_ble_eq_true rfl) (Nat.le_of_ble_eq_true rfl) hW dMo_request_52
    · replace h := if_f hc70 h
      refine lv_iload_n hx hb dMo_request_21 rfl (lv_at hl 3 rfl) ?_
      refine lv_iconst hx hb dMo_request_22 (v := (0 : Int32)) rfl ?_
      refine lv_ldc hx hb (v := (65535 : Int32)) hown (hts _ w_746) dMo_request_23 ?_
      replace h := ob h; obtain ⟨⟨v6, S5⟩, eS5, h⟩ := h
      refine hq_calli (ce := 0) (sl := 0) (va_runS (As := [.int t3, .int (0 : Int32), .int (65535 : Int32)]) (rest := []) ⟨hx, hb, hml, hown, hts⟩ (kMo_within l D tc b t3 (0 : Int32) (65535 : Int32) S3 _ _ eS5) (cwS 3 hts GS_Mo_117 rfl rfl rfl hd_Mo_within_S_Mo ⟨Nat.le_of_ble_eq_true rfl, Nat.le_of_ble_eq_true rfl⟩) (hq_preS hW) rfl rfl hl.1 rfl (lv_room (by first | exact Nat.le_of_ble_eq_true rfl | (simp only [List.map, rf_cat]; exact Nat.le_of_ble_eq_true rfl))) dMo_request_25 ⟨Nat.le_of_ble_eq_true rfl, Nat.le_of_ble_eq_true rfl⟩) hW rfl rfl (fun H locs hW => ?_)
      refine lv_if_eq hx hb dMo_request_28 (tgt := 51) rfl (fun hc69 => ?_) (fun hc69 => ?_)
      · replace h := if_t hc69 h
        refine lv_iconst hx hb dMo_request_51 (v := (-1 : Int32)) rfl ?_
        exact hq_iret hx hb hr hlocks h (Nat.le_of_ble_eq_true rfl) (Nat.le_of_ble_eq_true rfl) hW dMo_request_52
      · replace h := if_f hc69 h
        refine lv_iload hx hb dMo_request_31 (lv_at hl 4 rfl) ?_
        refine lv_iconst hx hb dMo_request_33 (v := (0 : Int32)) rfl ?_
        refine lv_bipush hx hb dMo_request_34 (v := (16 : Int32)) rfl ?_
        replace h := ob h; obtain ⟨⟨v8, S7⟩, eS7, h⟩ := h
        refine hq_calli (ce := 0) (sl := 0) (va_runS (As := [.int t4, .int (0 : Int32), .int (16 : Int32)]) (rest := []) ⟨hx, hb, hml, hown, hts⟩ (kMo_within l D tc b t4 (0 : Int32) (16 : Int32) S5 _ _ eS7) (cwS 3 hts GS_Mo_117 rfl rfl rfl hd_Mo_within_S_Mo ⟨Nat.le_of_ble_eq_true rfl, Nat.le_of_ble_eq_true rfl⟩) (hq_preS hW) rfl rfl hl.1 rfl (lv_room (by first | exact Nat.le_of_ble_eq_true rfl | (simp only [List.map, rf_cat]; exact Nat.le_of_ble_eq_true rfl))) dMo_request_36 ⟨Nat.le_of_ble_eq_true rfl, Nat.le_of_ble_eq_true rfl⟩) hW rfl rfl (fun H locs hW => ?_)
        refine lv_if_eq hx hb dMo_request_39 (tgt := 51) rfl (fun hc68 => ?_) (fun hc68 => ?_)
        · replace h := if_t hc68 h
          refine lv_iconst hx hb dMo_request_51 (v := (-1 : Int32)) rfl ?_
          exact hq_iret hx hb hr hlocks h (Nat.le_of_ble_eq_true rfl) (Nat.le_of_ble_eq_true rfl) hW dMo_request_52
        · replace h := if_f hc68 h
          refine lv_aload_n hx hb dMo_request_42 rfl (lv_at hl 0 rfl) ?_
          replace h := ob h; obtain ⟨v9, ev9, h⟩ := h
          refine hq_get hx hb hts hown hW (gI_V ev9) (F_Mo_129 hts) dMo_request_43 ?_
          refine lv_bipush hx hb dMo_request_46 (v := (64 : Int32)) rfl ?_
          refine lv_icmp_ne hx hb dMo_request_48 (tgt := 53) rfl (fun hc67 => ?_) (fun hc67 => ?_)
          · replace h := if_f hc67 h
            refine lv_aload_n hx hb dMo_request_53 rfl (lv_at hl 0 rfl) ?_
            replace h := ob h; obtain ⟨v10, ev10, h⟩ := h
            refine hq_get hx hb hts hown hW (gI_V ev10) (F_Mo_129 hts) dMo_request_54 ?_
            refine lv_istore (lv' := [(7, .int v10), (0, .ref t0), (1, .int t1), (2, .int t2), (3, .int t3), (4, .int t4), (5, .long t5)]) hx hb dMo_request_57 hl (Nat.le_of_ble_eq_true rfl) (by first | rfl | (simp [List.filter, rf_cat] <;> rfl)) (fun ls hl => ?_)
            refine lv_aload_n hx hb dMo_request_59 rfl (lv_at hl 1 rfl) ?_
            refine lv_dup hx hb dMo_request_60 rfl ?_
            replace h := ob h; obtain ⟨v11, ev11, h⟩ := h
            refine hq_get hx hb hts hown hW (gI_V ev11) (F_Mo_129 hts) dMo_request_61 ?_
            refine lv_iconst hx hb dMo_request_64 (v := (1 : Int32)) rfl ?_
            refine lv_iadd hx hb dMo_request_65 ?_
            replace h := ob h; obtain ⟨S12, eS12, h⟩ := h
            refine hq_put hx hb hts hown hW eS12 (F_Mo_129 hts) P_Mo_Mo_10 rfl rfl dMo_request_66 (fun H locs hW => ?_)
            refine lv_aload_n hx hb dMo_request_69 rfl (lv_at hl 1 rfl) ?_
            replace h := ob h; obtain ⟨r13, er13, h⟩ := h
            refine hq_get hx hb hts hown hW (gR_V er13) (F_Mo_38 hts) dMo_request_70 ?_
            refine lv_iload hx hb dMo_request_73 (lv_at hl 0 rfl) ?_
            refine lv_iload_n hx hb dMo_request_75 rfl (lv_at hl 2 rfl) ?_
            replace h := ob h; obtain ⟨a14, hra14, h⟩ := h
            subst hra14
            replace h := ob h; obtain ⟨S15, eS15, h⟩ := h
            refine hq_iast hx hb hW eS15 rfl dMo_request_76 (fun H locs hW => ?_)
            refine lv_aload_n hx hb dMo_request_77 rfl (lv_at hl 1 rfl) ?_
            replace h := ob h; obtain ⟨r16, er16, h⟩ := h
            refine hq_get hx hb hts hown hW (gR_V er16) (F_Mo_41 hts) dMo_request_78 ?_
            refine lv_iload hx hb dMo_request_81 (lv_at hl 0 rfl) ?_
            refine lv_iload_n hx hb dMo_request_83 rfl (lv_at hl 3 rfl) ?_
            replace h := ob h; obtain ⟨a17, hra17, h⟩ := h
            subst hra17
            replace h := ob h; obtain ⟨S18, eS18, h⟩ := h
            refine hq_iast hx hb hW eS18 rfl dMo_request_84 (fun H locs hW => ?_)
            refine lv_aload_n hx hb dMo_request_85 rfl (lv_at hl 1 rfl) ?_
            replace h := ob h; obtain ⟨r19, er19, h⟩ := h
            refine hq_get hx hb hts hown hW (gR_V er19) (F_Mo_44 hts) dMo_request_86 ?_
            refine lv_iload hx hb dMo_request_89 (lv_at hl 0 rfl) ?_
            refine lv_iload_n hx hb dMo_request_91 rfl (lv_at hl 4 rfl) ?_
            replace h := ob h; obtain ⟨a20, hra20, h⟩ := h
            subst hra20
            replace h := ob h; obtain ⟨S21, eS21, h⟩ := h
            refine hq_iast hx hb hW eS21 rfl dMo_request_92 (fun H locs hW => ?_)
            refine lv_aload_n hx hb dMo_request_93 rfl (lv_at hl 1 rfl) ?_
            replace h := ob h; obtain ⟨r22, er22, h⟩ := h
            refine hq_get hx hb hts hown hW (gR_V er22) (F_Mo_47 hts) dMo_request_94 ?_
            refine lv_iload hx hb dMo_request_97 (lv_at hl 0 rfl) ?_
            refine lv_iload hx hb dMo_request_99 (lv_at hl 5 rfl) ?_
            replace h := ob h; obtain ⟨a23, hra23, h⟩ := h
            subst hra23
            replace h := ob h; obtain ⟨S24, eS24, h⟩ := h
            refine hq_iast hx hb hW eS24 rfl dMo_request_101 (fun H locs hW => ?_)
            refine lv_aload_n hx hb dMo_request_102 rfl (lv_at hl 1 rfl) ?_
            replace h := ob h; obtain ⟨r25, er25, h⟩ := h
            refine hq_get hx hb hts hown hW (gR_V er25) (F_Mo_50 hts) dMo_request_103 ?_
            refine lv_iload hx hb dMo_request_106 (lv_at hl 0 rfl) ?_
            refine lv_lload hx hb dMo_request_108 (lv_at hl 6 rfl) ?_
            replace h := ob h; obtain ⟨a26, hra26, h⟩ := h
            subst hra26
            replace h := ob h; obtain ⟨S27, eS27, h⟩ := h
            refine hq_last hx hb hW eS27 rfl dMo_request_110 (fun H locs hW => ?_)
            refine lv_iload_n hx hb dMo_request_111 rfl (lv_at hl 2 rfl) ?_
            refine lv_if_ne hx hb dMo_request_112 (tgt := 160) rfl (fun hc66 => ?_) (fun hc66 => ?_)
            · replace h := if_f hc66 h
              refine lv_iload_n hx hb dMo_request_160 rfl (lv_at hl 2 rfl) ?_
              refine lv_bipush hx hb dMo_request_161 (v := (6 : Int32)) rfl ?_
              have hP190_1 : ∀  (S28 : Ws) (H : Heap) (locs : List Loc) (ls : Array Slot), lv_has ls 9 [(0, .ref t0), (7, .int v10)] → Wd D vwCl (hTy tc) b S28 s H locs → fMo_request_J190_1 t0 v10 S28 = some (rr, Sz) → W p l e { frames := 2, cells := 0, slots := 0, locals := 80 } s m args below meth c H locs 0 0 (MQ below (va_Qi (fun x (_ : Unit) => x = rr) (fun _ => Wp D vwCl (hTy tc) b Sz) (fun q => b ≤ q)) args s 0 0 (fun q => b ≤ q)) (F0 m 190 ls []) := by
                intro S28 H locs ls hl hW h
                unfold fMo_request_J190_1 at h
                refine lv_aload_n hx hb dMo_request_190 rfl (lv_at hl 0 rfl) ?_
                replace h := ob h; obtain ⟨r29, er29, h⟩ := h
                refine hq_get hx hb hts hown hW (gR_V er29) (F_Mo_54 hts) dMo_request_191 ?_
                refine lv_iload hx hb dMo_request_194 (lv_at hl 1 rfl) ?_
                refine lv_iconst hx hb dMo_request_196 (v := (2 : Int32)) rfl ?_
                replace h := ob h; obtain ⟨a30, hra30, h⟩ := h
                subst hra30
                replace h := ob h; obtain ⟨S31, eS31, h⟩ := h
                refine hq_iast hx hb hW eS31 rfl dMo_request_197 (fun H locs hW => ?_)
                refine lv_aload_n hx hb dMo_request_198 rfl (lv_at hl 0 rfl) ?_
                replace h := ob h; obtain ⟨r32, er32, h⟩ := h
                refine hq_get hx hb hts hown hW (gR_V er32) (F_Mo_57 hts) dMo_request_199 ?_
                refine lv_iload hx hb dMo_request_202 (lv_at hl 1 rfl) ?_
                refine lv_bipush hx hb dMo_request_204 (v := (10 : Int32)) rfl ?_
                replace h := ob h; obtain ⟨a33, hra33, h⟩ := h
                subst hra33
                replace h := ob h; obtain ⟨S34, eS34, h⟩ := h
                refine hq_iast hx hb hW eS34 rfl dMo_request_206 (fun H locs hW => ?_)
                refine lv_goto hx hb dMo_request_207 (tgt := 222) rfl ?_
                refine lv_iload hx hb dMo_request_222 (lv_at hl 1 rfl) ?_
                exact hq_iret hx hb hr hlocks h (Nat.le_of_ble_eq_true rfl) (Nat.le_of_ble_eq_true rfl) hW dMo_request_224
              refine lv_icmp_gt hx hb dMo_request_163 (tgt := 190) rfl (fun hc51 => ?_) (fun hc51 => ?_)
              · replace h := if_t hc51 h
                exact hP190_1 _ _ _ _ (lv_sub hl [1, 0] rfl) hW h
              · replace h := if_f hc51 h
                refine lv_aload_n hx hb dMo_request_166 rfl (lv_at hl 1 rfl) ?_
                replace h := ob h; obtain ⟨r35, er35, h⟩ := h
                refine hq_get hx hb hts hown hW (gR_V er35) (F_Mo_7 hts) dMo_request_167 ?_
                refine lv_iload_n hx hb dMo_request_170 rfl (lv_at hl 2 rfl) ?_
                replace h := ob h; obtain ⟨a36, hra36, h⟩ := h
                subst hra36
                replace h := ob h; obtain ⟨v37, ev37, h⟩ := h
                refine hq_zald hx hb hW ev37 rfl dMo_request_171 ?_
                refine lv_if_eq hx hb dMo_request_172 (tgt := 190) rfl (fun hc50 => ?_) (fun hc50 => ?_)
                · replace h := if_t hc50 h
                  exact hP190_1 _ _ _ _ (lv_sub hl [1, 0] rfl) hW h
                · replace h := if_f hc50 h
                  refine lv_aload_n hx hb dMo_request_175 rfl (lv_at hl 1 rfl) ?_
                  replace h := ob h; obtain ⟨r38, er38, h⟩ := h
                  refine hq_get hx hb hts hown hW (gR_V er38) (F_Mo_84 hts) dMo_request_176 ?_
                  refine lv_aload_n hx hb dMo_request_179 rfl (lv_at hl 1 rfl) ?_
                  replace h := ob h; obtain ⟨r39, er39, h⟩ := h
                  refine hq_get hx hb hts hown hW (gR_V er39) (F_Mo_13 hts) dMo_request_180 ?_
                  refine lv_iload_n hx hb dMo_request_183 rfl (lv_at hl 2 rfl) ?_
                  replace h := ob h; obtain ⟨a40, hra40, h⟩ := h
                  subst hra40
                  replace h := ob h; obtain ⟨v41, ev41, h⟩ := h
                  refine hq_iald hx hb hW ev41 rfl dMo_request_184 ?_
                  replace h := ob h; obtain ⟨a42, hra42, h⟩ := h
                  subst hra42
                  replace h := ob h; obtain ⟨v43, ev43, h⟩ := h
                  refine hq_iald hx hb hW ev43 rfl dMo_request_185 ?_
                  refine lv_iconst hx hb dMo_request_186 (v := (4 : Int32)) rfl ?_
                  refine lv_icmp_ne hx hb dMo_request_187 (tgt := 210) rfl (fun hc49 => ?_) (fun hc49 => ?_)
                  · replace h := if_f hc49 h
                    refine lv_aload_n hx hb dMo_request_210 rfl (lv_at hl 1 rfl) ?_
                    refine lv_aload_n hx hb dMo_request_211 rfl (lv_at hl 1 rfl) ?_
                    replace h := ob h; obtain ⟨r44, er44, h⟩ := h
                    refine hq_get hx hb hts hown hW (gR_V er44) (F_Mo_13 hts) dMo_request_212 ?_
                    refine lv_iload_n hx hb dMo_request_215 rfl (lv_at hl 2 rfl) ?_
                    replace h := ob h; obtain ⟨a45, hra45, h⟩ := h
                    subst hra45
                    replace h := ob h; obtain ⟨v46, ev46, h⟩ := h
                    refine hq_iald hx hb hW ev46 rfl dMo_request_216 ?_
                    refine lv_iload hx hb dMo_request_217 (lv_at hl 0 rfl) ?_
                    replace h := ob h; obtain ⟨q48, eq48, h⟩ := h
                    replace h := ob h; obtain ⟨S47, eS47, h⟩ := h
                    refine hq_callv (ce := 0) (sl := 0) (va_runV (As := [.int v46, .int v10]) (rest := []) ⟨hx, hb, hml, hown, hts⟩ (kMo_put l D tc b t0 v46 v10 S27 _ eS47) (cwV 2 hts GV_Mo_132_Mo rfl rfl rfl hd_Mo_put_V ⟨Nat.le_of_ble_eq_true rfl, Nat.le_of_ble_eq_true rfl⟩) (hq_preV1 hW eq48 rfl rfl) rfl rfl hl.1 rfl (lv_room (by first | exact Nat.le_of_ble_eq_true rfl | (simp only [List.map, rf_cat]; exact Nat.le_of_ble_eq_true rfl))) dMo_request_219 ⟨Nat.le_of_ble_eq_true rfl, Nat.le_of_ble_eq_true rfl⟩) hW rfl rfl (fun H locs hW => ?_)
                    refine lv_iload hx hb dMo_request_222 (lv_at hl 0 rfl) ?_
                    exact hq_iret hx hb hr hlocks h (Nat.le_of_ble_eq_true rfl) (Nat.le_of_ble_eq_true rfl) hW dMo_request_224
                  · replace h := if_t hc49 h
                    exact hP190_1 _ _ _ _ (lv_sub hl [1, 0] rfl) hW h
            · replace h := if_t hc66 h
              refine lv_aload_n hx hb dMo_request_115 rfl (lv_at hl 1 rfl) ?_
              replace h := ob h; obtain ⟨r52, er52, h⟩ := h
              refine hq_get hx hb hts hown hW (gR_V er52) (F_Mo_54 hts) dMo_request_116 ?_
              refine lv_iload hx hb dMo_request_119 (lv_at hl 0 rfl) ?_
              refine lv_iconst hx hb dMo_request_121 (v := (3 : Int32)) rfl ?_
              replace h := ob h; obtain ⟨a53, hra53, h⟩ := h
              subst hra53
              replace h := ob h; obtain ⟨S54, eS54, h⟩ := h
              refine hq_iast hx hb hW eS54 rfl dMo_request_122 (fun H locs hW => ?_)
              refine lv_iconst hx hb dMo_request_123 (v := (0 : Int32)) rfl ?_
              refine lv_istore (lv' := [(8, .int (0 : Int32)), (7, .int v10), (0, .ref t0), (1, .int t1), (2, .int t2), (3, .int t3), (4, .int t4), (5, .long t5)]) hx hb dMo_request_124 hl (Nat.le_of_ble_eq_true rfl) (by first | rfl | (simp [List.filter, rf_cat] <;> rfl)) (fun ls hl => ?_)
              replace h := ob h; obtain ⟨S58, eS58, h⟩ := h
              have hX : (fun q' => ∀ (H : Heap) (locs : List Loc) (ls : Array Slot), lv_has ls 9 [(7, .int v10)] → Wd D vwCl (hTy tc) b q' s H locs → W p l e { frames := 2, cells := 0, slots := 0, locals := 80 } s m args below meth c H locs 0 0 (MQ below (va_Qi (fun x (_ : Unit) => x = rr) (fun _ => Wp D vwCl (hTy tc) b Sz) (fun q => b ≤ q)) args s 0 0 (fun q => b ≤ q)) (F0 m 157 ls [])) S58 := by
                intro H locs ls hl hW
                refine lv_goto hx hb dMo_request_157 (tgt := 222) rfl ?_
                refine lv_iload hx hb dMo_request_222 (lv_at hl 0 rfl) ?_
                exact hq_iret hx hb hr hlocks h (Nat.le_of_ble_eq_true rfl) (Nat.le_of_ble_eq_true rfl) hW dMo_request_224
              refine lp_ind (P := fun q' => ∀ (H : Heap) (locs : List Loc) (ls : Array Slot), lv_has ls 9 [(0, .ref t0), (7, .int v10), (8, .int q'.1)] → Wd D vwCl (hTy tc) b q'.2 s H locs → W p l e { frames := 2, cells := 0, slots := 0, locals := 80 } s m args below meth c H locs 0 0 (MQ below (va_Qi (fun x (_ : Unit) => x = rr) (fun _ => Wp D vwCl (hTy tc) b Sz) (fun q => b ≤ q)) args s 0 0 (fun q => b ≤ q)) (F0 m 126 ls [])) (Q := fun q' => ∀ (H : Heap) (locs : List Loc) (ls : Array Slot), lv_has ls 9 [(7, .int v10)] → Wd D vwCl (hTy tc) b q' s H locs → W p l e { frames := 2, cells := 0, slots := 0, locals := 80 } s m args below meth c H locs 0 0 (MQ below (va_Qi (fun x (_ : Unit) => x = rr) (fun _ => Wp D vwCl (hTy tc) b Sz) (fun q => b ≤ q)) args s 0 0 (fun q => b ≤ q)) (F0 m 157 ls [])) (fun q' x57 h hin hex => ?_) hX _ _ eS58 _ _ _ (lv_sub hl [2, 1, 0] rfl) hW
              obtain ⟨i55, S56⟩ := q'
              intro H locs ls hl hW
              unfold fMo_request_L126 at h
              refine lv_iload hx hb dMo_request_126 (lv_at hl 2 rfl) ?_
              refine lv_iconst hx hb dMo_request_128 (v := (2 : Int32)) rfl ?_
              refine lv_icmp_ge hx hb dMo_request_129 (tgt := 157) rfl (fun hc65 => ?_) (fun hc65 => ?_)
              · replace h := if_t hc65 h
                exact hex _ (Option.some.inj h).symm _ _ _ (lv_sub hl [1] rfl) hW
              · replace h := if_f hc65 h
                refine lv_aload_n hx hb dMo_request_132 rfl (lv_at hl 0 rfl) ?_
                replace h := ob h; obtain ⟨r59, er59, h⟩ := h
                refine hq_get hx hb hts hown hW (gR_V er59) (F_Mo_84 hts) dMo_request_133 ?_
                refine lv_iload hx hb dMo_request_136 (lv_at hl 2 rfl) ?_
                replace h := ob h; obtain ⟨a60, hra60, h⟩ := h
                subst hra60
                replace h := ob h; obtain ⟨v61, ev61, h⟩ := h
                refine hq_iald hx hb hW ev61 rfl dMo_request_138 ?_
                refine lv_iconst hx hb dMo_request_139 (v := (4 : Int32)) rfl ?_
                refine lv_icmp_ge hx hb dMo_request_140 (tgt := 151) rfl (fun hc64 => ?_) (fun hc64 => ?_)
                · replace h := if_t hc64 h
                  refine lv_iinc (k := 2) (v := i55 + 1) (lv' := [(8, .int (i55 + 1)), (0, .ref t0), (7, .int v10)]) hx hb dMo_request_151 hl rfl rfl (Nat.le_of_ble_eq_true rfl) (by first | rfl | (simp [List.filter, rf_cat] <;> rfl)) (fun ls hl => ?_)
                  refine lv_goto hx hb dMo_request_154 (tgt := 126) rfl ?_
                  exact hin _ (Option.some.inj h).symm _ _ _ (lv_sub hl [1, 2, 0] rfl) hW
                · replace h := if_f hc64 h
                  refine lv_aload_n hx hb dMo_request_143 rfl (lv_at hl 0 rfl) ?_
                  refine lv_iload hx hb dMo_request_144 (lv_at hl 2 rfl) ?_
                  refine lv_iload hx hb dMo_request_146 (lv_at hl 1 rfl) ?_
                  replace h := ob h; obtain ⟨q63, eq63, h⟩ := h
                  replace h := ob h; obtain ⟨S62, eS62, h⟩ := h
                  refine hq_callv (ce := 0) (sl := 0) (va_runV (As := [.int i55, .int v10]) (rest := []) ⟨hx, hb, hml, hown, hts⟩ (kMo_put l D tc b t0 i55 v10 S56 _ eS62) (cwV 2 hts GV_Mo_132_Mo rfl rfl rfl hd_Mo_put_V ⟨Nat.le_of_ble_eq_true rfl, Nat.le_of_ble_eq_true rfl⟩) (hq_preV1 hW eq63 rfl rfl) rfl rfl hl.1 rfl (lv_room (by first | exact Nat.le_of_ble_eq_true rfl | (simp only [List.map, rf_cat]; exact Nat.le_of_ble_eq_true rfl))) dMo_request_148 ⟨Nat.le_of_ble_eq_true rfl, Nat.le_of_ble_eq_true rfl⟩) hW rfl rfl (fun H locs hW => ?_)
                  refine lv_iinc (k := 2) (v := i55 + 1) (lv' := [(8, .int (i55 + 1)), (0, .ref t0), (7, .int v10)]) hx hb dMo_request_151 hl rfl rfl (Nat.le_of_ble_eq_true rfl) (by first | rfl | (simp [List.filter, rf_cat] <;> rfl)) (fun ls hl => ?_)
                  refine lv_goto hx hb dMo_request_154 (tgt := 126) rfl ?_
                  exact hin _ (Option.some.inj h).symm _ _ _ (lv_sub hl [1, 2, 0] rfl) hW
          · replace h := if_t hc67 h
            refine lv_iconst hx hb dMo_request_51 (v := (-1 : Int32)) rfl ?_
            exact hq_iret hx hb hr hlocks h (Nat.le_of_ble_eq_true rfl) (Nat.le_of_ble_eq_true rfl) hW dMo_request_52
def fMo_fault_J47_1 (t2 : Int32) (S4 : Ws) (t0 : Nat) (t1 : Int32)  : Option (Int32 × Ws) :=
  if t2 = 0 then (gR S4 t0 [8] 35).bind fun r7 => (r7).bind fun a8 => (bz (1 : Int32)).bind fun z10 => (sI S4 a8 1 t1 (1 : Int32)).bind fun S9 => (bz (1 : Int32)).bind fun z11 => some ((1 : Int32), S9) else (gR S4 t0 [8] 36).bind fun r12 => (r12).bind fun a13 => (bz (1 : Int32)).bind fun z15 => (sI S4 a13 1 t1 (1 : Int32)).bind fun S14 => (bz (1 : Int32)).bind fun z16 => some ((1 : Int32), S14)
def fMo_fault (t0 : Nat) (t1 : Int32) (t2 : Int32) (t3 : Int32) (S : Ws) : Option (Int32 × Ws) :=
  (fMo_within t1 (0 : Int32) (1 : Int32) S).bind fun (v2, S1) => if v2 = 0 then (bz (0 : Int32)).bind fun z3 => some ((0 : Int32), S1) else (fMo_within t3 (0 : Int32) (400 : Int32) S1).bind fun (v5, S4) => if v5 = 0 then (bz (0 : Int32)).bind fun z6 => some ((0 : Int32), S4) else if t2 = 0 then (gR S4 t0 [8] 35).bind fun r18 => (r18).bind fun a19 => (aI S4 a19 1 t1).bind fun v20 => if v20 = 0 then fMo_fault_J47_1 t2 S4 t0 t1 else (bz (0 : Int32)).bind fun z21 => some ((0 : Int32), S4) else (gR S4 t0 [8] 36).bind fun r23 => (r23).bind fun a24 => (aI S4 a24 1 t1).bind fun v25 => if v25 = 0 then fMo_fault_J47_1 t2 S4 t0 t1 else (bz (0 : Int32)).bind fun z26 => some ((0 : Int32), S4)
set_option maxRecDepth 100000 in
set_option maxHeartbeats 4000000 in
theorem kMo_fault (l : Launch) (D : va_G) (tc : Nat → ClassId) (b : Nat) (t0 : Nat) (t1 : Int32) (t2 : Int32) (t3 : Int32) (S Sz : Ws) (rr : Int32) (h : fMo_fault t0 t1 t2 t3 S = some (rr, Sz)) : Met l yMo_fault wsMo_fault { frames := 2, cells := 0, slots := 0, locals := 80 } (va_Pc [.ref t0, .int t1, .int t2, .int t3] (Wp D vwCl (hTy tc) b S)) (va_Qi (fun x (_ : Unit) => x = rr) (fun _ => Wp D vwCl (hTy tc) b Sz) (fun q => b ≤ q)) 0 0 (fun q => b ≤ q) := by
  refine hq_ofW (cc := cMo_fault) (maxL := 4) (ret := (some .boolean)) (by decide) rfl (Nat.le_of_ble_eq_true rfl) fun p e s m args below meth c hx hb hr hts hown hlocks hnm hml H locs ls hl hW => ?_
  have hts : ∀ w ∈ lwG, w.before args s = true := fun w h => hts w (List.mem_cons_of_mem _ h)
  have hown : s.vm.findClass "SerialPlantModel" = some m.cls := hown
  have hl : lv_has ls 4 [(0, .ref t0), (1, .int t1), (2, .int t2), (3, .int t3)] := hl
  unfold fMo_fault at h
  refine lv_iload_n hx hb dMo_fault_0 rfl (lv_at hl 1 rfl) ?_
  refine lv_iconst hx hb dMo_fault_1 (v := (0 : Int32)) rfl ?_
  refine lv_iconst hx hb dMo_fault_2 (v := (1 : Int32)) rfl ?_
  replace h := ob h; obtain ⟨⟨v2, S1⟩, eS1, h⟩ := h
  refine hq_calli (ce := 0) (sl := 0) (va_runS (As := [.int t1, .int (0 : Int32), .int (1 : Int32)]) (rest := []) ⟨hx, hb, hml, hown, hts⟩ (kMo_within l D tc b t1 (0 : Int32) (1 : Int32) S _ _ eS1) (cwS 3 hts GS_Mo_117 rfl rfl rfl hd_Mo_within_S_Mo ⟨Nat.le_of_ble_eq_true rfl, Nat.le_of_ble_eq_true rfl⟩) (hq_preS hW) rfl rfl hl.1 rfl (lv_room (by first | exact Nat.le_of_ble_eq_true rfl | (simp only [List.map, rf_cat]; exact Nat.le_of_ble_eq_true rfl))) dMo_fault_3 ⟨Nat.le_of_ble_eq_true rfl, Nat.le_of_ble_eq_true rfl⟩) hW rfl rfl (fun H locs hW => ?_)
  refine lv_if_eq hx hb dMo_fault_6 (tgt := 45) rfl (fun hc30 => ?_) (fun hc30 => ?_)
  · replace h := if_t hc30 h
    refine lv_iconst hx hb dMo_fault_45 (v := (0 : Int32)) rfl ?_
    replace h := ob h; obtain ⟨z3, ez3, h⟩ := h
    exact hq_zret hx hb hr hlocks (bz_some ez3).2 h (Nat.le_of_ble_eq_true rfl) (Nat.le_of_ble_eq_true rfl) hW dMo_fault_46
  · replace h := if_f hc30 h
    refine lv_iload_n hx hb dMo_fault_9 rfl (lv_at hl 3 rfl) ?_
    refine lv_iconst hx hb dMo_fault_10 (v := (0 : Int32)) rfl ?_
    refine lv_sipush hx hb dMo_fault_11 (v := (400 : Int32)) rfl ?_
    replace h := ob h; obtain ⟨⟨v5, S4⟩, eS4, h⟩ := h
    refine hq_calli (ce := 0) (sl := 0) (va_runS (As := [.int t3, .int (0 : Int32), .int (400 : Int32)]) (rest := []) ⟨hx, hb, hml, hown, hts⟩ (kMo_within l D tc b t3 (0 : Int32) (400 : Int32) S1 _ _ eS4) (cwS 3 hts GS_Mo_117 rfl rfl rfl hd_Mo_within_S_Mo ⟨Nat.le_of_ble_eq_true rfl, Nat.le_of_ble_eq_true rfl⟩) (hq_preS hW) rfl rfl hl.1 rfl (lv_room (by first | exact Nat.le_of_ble_eq_true rfl | (simp only [List.map, rf_cat]; exact Nat.le_of_ble_eq_true rfl))) dMo_fault_14 ⟨Nat.le_of_ble_eq_true rfl, Nat.le_of_ble_eq_true rfl⟩) hW rfl rfl (fun H locs hW => ?_)
    refine lv_if_eq hx hb dMo_fault_17 (tgt := 45) rfl (fun hc29 => ?_) (fun hc29 => ?_)
    · replace h := if_t hc29 h
      refine lv_iconst hx hb dMo_fault_45 (v := (0 : Int32)) rfl ?_
      replace h := ob h; obtain ⟨z6, ez6, h⟩ := h
      exact hq_zret hx hb hr hlocks (bz_some ez6).2 h (Nat.le_of_ble_eq_true rfl) (Nat.le_of_ble_eq_true rfl) hW dMo_fault_46
    · replace h := if_f hc29 h
      refine lv_iload_n hx hb dMo_fault_20 rfl (lv_at hl 2 rfl) ?_
      have hP47_1 : ∀  (H : Heap) (locs : List Loc) (ls : Array Slot), lv_has ls 4 [(0, .ref t0), (1, .int t1), (2, .int t2)] → Wd D vwCl (hTy tc) b S4 s H locs → fMo_fault_J47_1 t2 S4 t0 t1 = some (rr, Sz) → W p l e { frames := 2, cells := 0, slots := 0, locals := 80 } s m args below meth c H locs 0 0 (MQ below (va_Qi (fun x (_ : Unit) => x = rr) (fun _ => Wp D vwCl (hTy tc) b Sz) (fun q => b ≤ q)) args s 0 0 (fun q => b ≤ q)) (F0 m 47 ls []) := by
        intro  H locs ls hl hW h
        unfold fMo_fault_J47_1 at h
        refine lv_iload_n hx hb dMo_fault_47 rfl (lv_at hl 2 rfl) ?_
        refine lv_if_eq hx hb dMo_fault_48 (tgt := 61) rfl (fun hc17 => ?_) (fun hc17 => ?_)
        · replace h := if_t hc17 h
          refine lv_aload_n hx hb dMo_fault_61 rfl (lv_at hl 0 rfl) ?_
          replace h := ob h; obtain ⟨r7, er7, h⟩ := h
          refine hq_get hx hb hts hown hW (gR_V er7) (F_Mo_105 hts) dMo_fault_62 ?_
          refine lv_iload_n hx hb dMo_fault_65 rfl (lv_at hl 1 rfl) ?_
          refine lv_iconst hx hb dMo_fault_66 (v := (1 : Int32)) rfl ?_
          replace h := ob h; obtain ⟨a8, hra8, h⟩ := h
          subst hra8
          replace h := ob h; obtain ⟨z10, ez10, h⟩ := h
          replace h := ob h; obtain ⟨S9, eS9, h⟩ := h
          refine hq_zast hx hb hW eS9 rfl (bz_some ez10).2 dMo_fault_67 (fun H locs hW => ?_)
          refine lv_iconst hx hb dMo_fault_68 (v := (1 : Int32)) rfl ?_
          replace h := ob h; obtain ⟨z11, ez11, h⟩ := h
          exact hq_zret hx hb hr hlocks (bz_some ez11).2 h (Nat.le_of_ble_eq_true rfl) (Nat.le_of_ble_eq_true rfl) hW dMo_fault_69
        · replace h := if_f hc17 h
          refine lv_aload_n hx hb dMo_fault_51 rfl (lv_at hl 0 rfl) ?_
          replace h := ob h; obtain ⟨r12, er12, h⟩ := h
          refine hq_get hx hb hts hown hW (gR_V er12) (F_Mo_108 hts) dMo_fault_52 ?_
          refine lv_iload_n hx hb dMo_fault_55 rfl (lv_at hl 1 rfl) ?_
          refine lv_iconst hx hb dMo_fault_56 (v := (1 : Int32)) rfl ?_
          replace h := ob h; obtain ⟨a13, hra13, h⟩ := h
          subst hra13
          replace h := ob h; obtain ⟨z15, ez15, h⟩ := h
          replace h := ob h; obtain ⟨S14, eS14, h⟩ := h
          refine hq_zast hx hb hW eS14 rfl (bz_some ez15).2 dMo_fault_57 (fun H locs hW => ?_)
          refine lv_goto hx hb dMo_fault_58 (tgt := 68) rfl ?_
          refine lv_iconst hx hb dMo_fault_68 (v := (1 : Int32)) rfl ?_
          replace h := ob h; obtain ⟨z16, ez16, h⟩ := h
          exact hq_zret hx hb hr hlocks (bz_some ez16).2 h (Nat.le_of_ble_eq_true rfl) (Nat.le_of_ble_eq_true rfl) hW dMo_fault_69
      refine lv_if_eq hx hb dMo_fault_21 (tgt := 36) rfl (fun hc28 => ?_) (fun hc28 => ?_)
      · replace h := if_t hc28 h
        refine lv_aload_n hx hb dMo_fault_36 rfl (lv_at hl 0 rfl) ?_
        replace h := ob h; obtain ⟨r18, er18, h⟩ := h
        refine hq_get hx hb hts hown hW (gR_V er18) (F_Mo_105 hts) dMo_fault_37 ?_
        refine lv_iload_n hx hb dMo_fault_40 rfl (lv_at hl 1 rfl) ?_
        replace h := ob h; obtain ⟨a19, hra19, h⟩ := h
        subst hra19
        replace h := ob h; obtain ⟨v20, ev20, h⟩ := h
        refine hq_zald hx hb hW ev20 rfl dMo_fault_41 ?_
        refine lv_if_eq hx hb dMo_fault_42 (tgt := 47) rfl (fun hc22 => ?_) (fun hc22 => ?_)
        · replace h := if_t hc22 h
          exact hP47_1  _ _ _ (lv_sub hl [0, 1, 2] rfl) hW h
        · replace h := if_f hc22 h
          refine lv_iconst hx hb dMo_fault_45 (v := (0 : Int32)) rfl ?_
          replace h := ob h; obtain ⟨z21, ez21, h⟩ := h
          exact hq_zret hx hb hr hlocks (bz_some ez21).2 h (Nat.le_of_ble_eq_true rfl) (Nat.le_of_ble_eq_true rfl) hW dMo_fault_46
      · replace h := if_f hc28 h
        refine lv_aload_n hx hb dMo_fault_24 rfl (lv_at hl 0 rfl) ?_
        replace h := ob h; obtain ⟨r23, er23, h⟩ := h
        refine hq_get hx hb hts hown hW (gR_V er23) (F_Mo_108 hts) dMo_fault_25 ?_
        refine lv_iload_n hx hb dMo_fault_28 rfl (lv_at hl 1 rfl) ?_
        replace h := ob h; obtain ⟨a24, hra24, h⟩ := h
        subst hra24
        replace h := ob h; obtain ⟨v25, ev25, h⟩ := h
        refine hq_zald hx hb hW ev25 rfl dMo_fault_29 ?_
        refine lv_if_eq hx hb dMo_fault_30 (tgt := 47) rfl (fun hc27 => ?_) (fun hc27 => ?_)
        · replace h := if_t hc27 h
          exact hP47_1  _ _ _ (lv_sub hl [0, 1, 2] rfl) hW h
        · replace h := if_f hc27 h
          refine lv_goto hx hb dMo_fault_33 (tgt := 45) rfl ?_
          refine lv_iconst hx hb dMo_fault_45 (v := (0 : Int32)) rfl ?_
          replace h := ob h; obtain ⟨z26, ez26, h⟩ := h
          exact hq_zret hx hb hr hlocks (bz_some ez26).2 h (Nat.le_of_ble_eq_true rfl) (Nat.le_of_ble_eq_true rfl) hW dMo_fault_46
def fMo_add (t0 : Nat) (t1 : Int32) (t2 : Int32) (S : Ws) : Option (Ws) :=
  (gR S t0 [8] 37).bind fun r1 => (gR S t0 [8] 38).bind fun r2 => (r2).bind fun a3 => (aI S a3 0 t1).bind fun v4 => (r1).bind fun a5 => (sI S a5 0 (((48 : Int32) * t1) + v4) t2).bind fun S6 => (gR S6 t0 [8] 38).bind fun r7 => (r7).bind fun a8 => (aI S6 a8 0 t1).bind fun v9 => (sI S6 a8 0 t1 (v9 + (1 : Int32))).bind fun S10 => some S10
set_option maxRecDepth 100000 in
set_option maxHeartbeats 4000000 in
theorem kMo_add (l : Launch) (D : va_G) (tc : Nat → ClassId) (b : Nat) (t0 : Nat) (t1 : Int32) (t2 : Int32) (S Sz : Ws) (h : fMo_add t0 t1 t2 S = some Sz) : Met l yMo_add wsMo_add { frames := 1, cells := 0, slots := 0, locals := 40 } (va_Pc [.ref t0, .int t1, .int t2] (Wp D vwCl (hTy tc) b S)) (va_Qv (fun _ : Unit => True) (fun _ => Wp D vwCl (hTy tc) b Sz) (fun q => b ≤ q)) 0 0 (fun q => b ≤ q) := by
  refine hq_ofW (cc := cMo_add) (maxL := 3) (ret := none) (by decide) rfl (Nat.le_of_ble_eq_true rfl) fun p e s m args below meth c hx hb hr hts hown hlocks hnm hml H locs ls hl hW => ?_
  have hts : ∀ w ∈ lwG, w.before args s = true := fun w h => hts w (List.mem_cons_of_mem _ h)
  have hown : s.vm.findClass "SerialPlantModel" = some m.cls := hown
  have hl : lv_has ls 3 [(0, .ref t0), (1, .int t1), (2, .int t2)] := hl
  unfold fMo_add at h
  refine lv_aload_n hx hb dMo_add_0 rfl (lv_at hl 0 rfl) ?_
  replace h := ob h; obtain ⟨r1, er1, h⟩ := h
  refine hq_get hx hb hts hown hW (gR_V er1) (F_Mo_111 hts) dMo_add_1 ?_
  refine lv_bipush hx hb dMo_add_4 (v := (48 : Int32)) rfl ?_
  refine lv_iload_n hx hb dMo_add_6 rfl (lv_at hl 1 rfl) ?_
  refine lv_imul hx hb dMo_add_7 ?_
  refine lv_aload_n hx hb dMo_add_8 rfl (lv_at hl 0 rfl) ?_
  replace h := ob h; obtain ⟨r2, er2, h⟩ := h
  refine hq_get hx hb hts hown hW (gR_V er2) (F_Mo_114 hts) dMo_add_9 ?_
  refine lv_iload_n hx hb dMo_add_12 rfl (lv_at hl 1 rfl) ?_
  replace h := ob h; obtain ⟨a3, hra3, h⟩ := h
  subst hra3
  replace h := ob h; obtain ⟨v4, ev4, h⟩ := h
  refine hq_iald hx hb hW ev4 rfl dMo_add_13 ?_
  refine lv_iadd hx hb dMo_add_14 ?_
  refine lv_iload_n hx hb dMo_add_15 rfl (lv_at hl 2 rfl) ?_
  replace h := ob h; obtain ⟨a5, hra5, h⟩ := h
  subst hra5
  replace h := ob h; obtain ⟨S6, eS6, h⟩ := h
  refine hq_iast hx hb hW eS6 rfl dMo_add_16 (fun H locs hW => ?_)
  refine lv_aload_n hx hb dMo_add_17 rfl (lv_at hl 0 rfl) ?_
  replace h := ob h; obtain ⟨r7, er7, h⟩ := h
  refine hq_get hx hb hts hown hW (gR_V er7) (F_Mo_114 hts) dMo_add_18 ?_
  refine lv_iload_n hx hb dMo_add_21 rfl (lv_at hl 1 rfl) ?_
  refine lv_dup2_11 hx hb dMo_add_22 rfl (rf_cat _) ?_
  replace h := ob h; obtain ⟨a8, hra8, h⟩ := h
  subst hra8
  replace h := ob h; obtain ⟨v9, ev9, h⟩ := h
  refine hq_iald hx hb hW ev9 rfl dMo_add_23 ?_
  refine lv_iconst hx hb dMo_add_24 (v := (1 : Int32)) rfl ?_
  refine lv_iadd hx hb dMo_add_25 ?_
  replace h := ob h; obtain ⟨S10, eS10, h⟩ := h
  refine hq_iast hx hb hW eS10 rfl dMo_add_26 (fun H locs hW => ?_)
  exact hq_vret hx hb hr hlocks h (Nat.le_of_ble_eq_true rfl) (Nat.le_of_ble_eq_true rfl) hW dMo_add_27
def fMo_begin (t0 : Nat) (t1 : Int32) (t2 : Int32) (t3 : Int32) (S : Ws) : Option (Ws) :=
  (gR S t0 [8] 38).bind fun r1 => (r1).bind fun a2 => (sI S a2 0 t1 (0 : Int32)).bind fun S3 => (gO S3 t0 [8]).bind fun q5 => (fMo_add t0 t1 t2 S3).bind fun S4 => (gO S4 t0 [8]).bind fun q7 => (fMo_add t0 t1 t3 S4).bind fun S6 => some S6
set_option maxRecDepth 100000 in
set_option maxHeartbeats 4000000 in
theorem kMo_begin (l : Launch) (D : va_G) (tc : Nat → ClassId) (b : Nat) (t0 : Nat) (t1 : Int32) (t2 : Int32) (t3 : Int32) (S Sz : Ws) (h : fMo_begin t0 t1 t2 t3 S = some Sz) : Met l yMo_begin wsMo_begin { frames := 2, cells := 0, slots := 0, locals := 80 } (va_Pc [.ref t0, .int t1, .int t2, .int t3] (Wp D vwCl (hTy tc) b S)) (va_Qv (fun _ : Unit => True) (fun _ => Wp D vwCl (hTy tc) b Sz) (fun q => b ≤ q)) 0 0 (fun q => b ≤ q) := by
  refine hq_ofW (cc := cMo_begin) (maxL := 4) (ret := none) (by decide) rfl (Nat.le_of_ble_eq_true rfl) fun p e s m args below meth c hx hb hr hts hown hlocks hnm hml H locs ls hl hW => ?_
  have hts : ∀ w ∈ lwG, w.before args s = true := fun w h => hts w (List.mem_cons_of_mem _ h)
  have hown : s.vm.findClass "SerialPlantModel" = some m.cls := hown
  have hl : lv_has ls 4 [(0, .ref t0), (1, .int t1), (2, .int t2), (3, .int t3)] := hl
  unfold fMo_begin at h
  refine lv_aload_n hx hb dMo_begin_0 rfl (lv_at hl 0 rfl) ?_
  replace h := ob h; obtain ⟨r1, er1, h⟩ := h
  refine hq_get hx hb hts hown hW (gR_V er1) (F_Mo_114 hts) dMo_begin_1 ?_
  refine lv_iload_n hx hb dMo_begin_4 rfl (lv_at hl 1 rfl) ?_
  refine lv_iconst hx hb dMo_begin_5 (v := (0 : Int32)) rfl ?_
  replace h := ob h; obtain ⟨a2, hra2, h⟩ := h
  subst hra2
  replace h := ob h; obtain ⟨S3, eS3, h⟩ := h
  refine hq_iast hx hb hW eS3 rfl dMo_begin_6 (fun H locs hW => ?_)
  refine lv_aload_n hx hb dMo_begin_7 rfl (lv_at hl 0 rfl) ?_
  refine lv_iload_n hx hb dMo_begin_8 rfl (lv_at hl 1 rfl) ?_
  refine lv_iload_n hx hb dMo_begin_9 rfl (lv_at hl 2 rfl) ?_
  replace h := ob h; obtain ⟨q5, eq5, h⟩ := h
  replace h := ob h; obtain ⟨S4, eS4, h⟩ := h
  refine hq_callv (ce := 0) (sl := 0) (va_runV (As := [.int t1, .int t2]) (rest := []) ⟨hx, hb, hml, hown, hts⟩ (kMo_add l D tc b t0 t1 t2 S3 _ eS4) (cwV 2 hts GV_Mo_136_Mo rfl rfl rfl hd_Mo_add_V ⟨Nat.le_of_ble_eq_true rfl, Nat.le_of_ble_eq_true rfl⟩) (hq_preV1 hW eq5 rfl rfl) rfl rfl hl.1 rfl (lv_room (by first | exact Nat.le_of_ble_eq_true rfl | (simp only [List.map, rf_cat]; exact Nat.le_of_ble_eq_true rfl))) dMo_begin_10 ⟨Nat.le_of_ble_eq_true rfl, Nat.le_of_ble_eq_true rfl⟩) hW rfl rfl (fun H locs hW => ?_)
  refine lv_aload_n hx hb dMo_begin_13 rfl (lv_at hl 0 rfl) ?_
  refine lv_iload_n hx hb dMo_begin_14 rfl (lv_at hl 1 rfl) ?_
  refine lv_iload_n hx hb dMo_begin_15 rfl (lv_at hl 3 rfl) ?_
  replace h := ob h; obtain ⟨q7, eq7, h⟩ := h
  replace h := ob h; obtain ⟨S6, eS6, h⟩ := h
  refine hq_callv (ce := 0) (sl := 0) (va_runV (As := [.int t1, .int t3]) (rest := []) ⟨hx, hb, hml, hown, hts⟩ (kMo_add l D tc b t0 t1 t3 S4 _ eS6) (cwV 2 hts GV_Mo_136_Mo rfl rfl rfl hd_Mo_add_V ⟨Nat.le_of_ble_eq_true rfl, Nat.le_of_ble_eq_true rfl⟩) (hq_preV1 hW eq7 rfl rfl) rfl rfl hl.1 rfl (lv_room (by first | exact Nat.le_of_ble_eq_true rfl | (simp only [List.map, rf_cat]; exact Nat.le_of_ble_eq_true rfl))) dMo_begin_16 ⟨Nat.le_of_ble_eq_true rfl, Nat.le_of_ble_eq_true rfl⟩) hW rfl rfl (fun H locs hW => ?_)
  exact hq_vret hx hb hr hlocks h (Nat.le_of_ble_eq_true rfl) (Nat.le_of_ble_eq_true rfl) hW dMo_begin_19
def fMo_addWord (t0 : Nat) (t1 : Int32) (t2 : Int32) (S : Ws) : Option (Ws) :=
  (gO S t0 [8]).bind fun q2 => (fMo_add t0 t1 (t2 >>> ((8 : Int32) &&& 31)) S).bind fun S1 => (gO S1 t0 [8]).bind fun q4 => (fMo_add t0 t1 (t2 &&& (255 : Int32)) S1).bind fun S3 => some S3
set_option maxRecDepth 100000 in
set_option maxHeartbeats 4000000 in
theorem kMo_addWord (l : Launch) (D : va_G) (tc : Nat → ClassId) (b : Nat) (t0 : Nat) (t1 : Int32) (t2 : Int32) (S Sz : Ws) (h : fMo_addWord t0 t1 t2 S = some Sz) : Met l yMo_addWord wsMo_addWord { frames := 2, cells := 0, slots := 0, locals := 80 } (va_Pc [.ref t0, .int t1, .int t2] (Wp D vwCl (hTy tc) b S)) (va_Qv (fun _ : Unit => True) (fun _ => Wp D vwCl (hTy tc) b Sz) (fun q => b ≤ q)) 0 0 (fun q => b ≤ q) := by
  refine hq_ofW (cc := cMo_addWord) (maxL := 3) (ret := none) (by decide) rfl (Nat.le_of_ble_eq_true rfl) fun p e s m args below meth c hx hb hr hts hown hlocks hnm hml H locs ls hl hW => ?_
  have hts : ∀ w ∈ lwG, w.before args s = true := fun w h => hts w (List.mem_cons_of_mem _ h)
  have hown : s.vm.findClass "SerialPlantModel" = some m.cls := hown
  have hl : lv_has ls 3 [(0, .ref t0), (1, .int t1), (2, .int t2)] := hl
  unfold fMo_addWord at h
  refine lv_aload_n hx hb dMo_addWord_0 rfl (lv_at hl 0 rfl) ?_
  refine lv_iload_n hx hb dMo_addWord_1 rfl (lv_at hl 1 rfl) ?_
  refine lv_iload_n hx hb dMo_addWord_2 rfl (lv_at hl 2 rfl) ?_
  refine lv_bipush hx hb dMo_addWord_3 (v := (8 : Int32)) rfl ?_
  refine lv_ishr hx hb dMo_addWord_5 ?_
  replace h := ob h; obtain ⟨q2, eq2, h⟩ := h
  replace h := ob h; obtain ⟨S1, eS1, h⟩ := h
  refine hq_callv (ce := 0) (sl := 0) (va_runV (As := [.int t1, .int (t2 >>> ((8 : Int32) &&& 31))]) (rest := []) ⟨hx, hb, hml, hown, hts⟩ (kMo_add l D tc b t0 t1 (t2 >>> ((8 : Int32) &&& 31)) S _ eS1) (cwV 2 hts GV_Mo_136_Mo rfl rfl rfl hd_Mo_add_V ⟨Nat.le_of_ble_eq_true rfl, Nat.le_of_ble_eq_true rfl⟩) (hq_preV1 hW eq2 rfl rfl) rfl rfl hl.1 rfl (lv_room (by first | exact Nat.le_of_ble_eq_true rfl | (simp only [List.map, rf_cat]; exact Nat.le_of_ble_eq_true rfl))) dMo_addWord_6 ⟨Nat.le_of_ble_eq_true rfl, Nat.le_of_ble_eq_true rfl⟩) hW rfl rfl (fun H locs hW => ?_)
  refine lv_aload_n hx hb dMo_addWord_9 rfl (lv_at hl 0 rfl) ?_
  refine lv_iload_n hx hb dMo_addWord_10 rfl (lv_at hl 1 rfl) ?_
  refine lv_iload_n hx hb dMo_addWord_11 rfl (lv_at hl 2 rfl) ?_
  refine lv_sipush hx hb dMo_addWord_12 (v := (255 : Int32)) rfl ?_
  refine lv_iand hx hb dMo_addWord_15 ?_
  replace h := ob h; obtain ⟨q4, eq4, h⟩ := h
  replace h := ob h; obtain ⟨S3, eS3, h⟩ := h
  refine hq_callv (ce := 0) (sl := 0) (va_runV (As := [.int t1, .int (t2 &&& (255 : Int32))]) (rest := []) ⟨hx, hb, hml, hown, hts⟩ (kMo_add l D tc b t0 t1 (t2 &&& (255 : Int32)) S1 _ eS3) (cwV 2 hts GV_Mo_136_Mo rfl rfl rfl hd_Mo_add_V ⟨Nat.le_of_ble_eq_true rfl, Nat.le_of_ble_eq_true rfl⟩) (hq_preV1 hW eq4 rfl rfl) rfl rfl hl.1 rfl (lv_room (by first | exact Nat.le_of_ble_eq_true rfl | (simp only [List.map, rf_cat]; exact Nat.le_of_ble_eq_true rfl))) dMo_addWord_16 ⟨Nat.le_of_ble_eq_true rfl, Nat.le_of_ble_eq_true rfl⟩) hW rfl rfl (fun H locs hW => ?_)
  exact hq_vret hx hb hr hlocks h (Nat.le_of_ble_eq_true rfl) (Nat.le_of_ble_eq_true rfl) hW dMo_addWord_19
def fMo_addSum_L32  : Int32 × Int32 → Option ((Int32 × Int32) ⊕ (Int32)) :=
  fun (i11, i12) => if (8 : Int32) ≤ i12 then some (.inr i11) else (if (i11 &&& (1 : Int32)) = (1 : Int32) then some ((i11 >>> ((1 : Int32) &&& 31)) ^^^ (40961 : Int32)) else some (i11 >>> ((1 : Int32) &&& 31))).bind fun i15 => some (.inl (i15, i12 + 1))
def fMo_addSum_L5 (S : Ws) (t0 : Nat) (t1 : Int32) : Int32 × Int32 → Option ((Int32 × Int32) ⊕ (Int32)) :=
  fun (i1, i2) => (gR S t0 [8] 38).bind fun r5 => (r5).bind fun a6 => (aI S a6 0 t1).bind fun v7 => if v7 ≤ i2 then some (.inr i1) else (gR S t0 [8] 37).bind fun r8 => (r8).bind fun a9 => (aI S a9 0 (((48 : Int32) * t1) + i2)).bind fun v10 => (lp (fMo_addSum_L32) 1000 (i1 ^^^ v10, (0 : Int32))).bind fun i14 => some (.inl (i14, i2 + 1))
def fMo_addSum (t0 : Nat) (t1 : Int32) (S : Ws) : Option (Ws) :=
  (lp (fMo_addSum_L5 S t0 t1) 1000 ((65535 : Int32), (0 : Int32))).bind fun i4 => (gO S t0 [8]).bind fun q21 => (fMo_add t0 t1 (i4 &&& (255 : Int32)) S).bind fun S20 => (gO S20 t0 [8]).bind fun q23 => (fMo_add t0 t1 (i4 >>> ((8 : Int32) &&& 31)) S20).bind fun S22 => some S22
set_option maxRecDepth 100000 in
set_option maxHeartbeats 4000000 in
theorem kMo_addSum (l : Launch) (D : va_G) (tc : Nat → ClassId) (b : Nat) (t0 : Nat) (t1 : Int32) (S Sz : Ws) (h : fMo_addSum t0 t1 S = some Sz) : Met l yMo_addSum wsMo_addSum { frames := 2, cells := 0, slots := 0, locals := 80 } (va_Pc [.ref t0, .int t1] (Wp D vwCl (hTy tc) b S)) (va_Qv (fun _ : Unit => True) (fun _ => Wp D vwCl (hTy tc) b Sz) (fun q => b ≤ q)) 0 0 (fun q => b ≤ q) := by
  refine hq_ofW (cc := cMo_addSum) (maxL := 5) (ret := none) (by decide) rfl (Nat.le_of_ble_eq_true rfl) fun p e s m args below meth c hx hb hr hts hown hlocks hnm hml H locs ls hl hW => ?_
  have hts : ∀ w ∈ lwG, w.before args s = true := fun w h => hts w (List.mem_cons_of_mem _ h)
  have hown : s.vm.findClass "SerialPlantModel" = some m.cls := hown
  have hl : lv_has ls 5 [(0, .ref t0), (1, .int t1)] := hl
  unfold fMo_addSum at h
  refine lv_ldc hx hb (v := (65535 : Int32)) hown (hts _ w_746) dMo_addSum_0 ?_
  refine lv_istore_n (lv' := [(2, .int (65535 : Int32)), (0, .ref t0), (1, .int t1)]) hx hb dMo_addSum_2 rfl hl (Nat.le_of_ble_eq_true rfl) (by first | rfl | (simp [List.filter, rf_cat] <;> rfl)) (fun ls hl => ?_)
  refine lv_iconst hx hb dMo_addSum_3 (v := (0 : Int32)) rfl ?_
  refine lv_istore_n (lv' := [(3, .int (0 : Int32)), (2, .int (65535 : Int32)), (0, .ref t0), (1, .int t1)]) hx hb dMo_addSum_4 rfl hl (Nat.le_of_ble_eq_true rfl) (by first | rfl | (simp [List.filter, rf_cat] <;> rfl)) (fun ls hl => ?_)
  replace h := ob h; obtain ⟨i4, ei4, h⟩ := h
  have hX : (fun q' => ∀ (H : Heap) (locs : List Loc) (ls : Array Slot), lv_has ls 5 [(0, .ref t0), (1, .int t1), (2, .int q')] → Wd D vwCl (hTy tc) b S s H locs → W p l e { frames := 2, cells := 0, slots := 0, locals := 80 } s m args below meth c H locs 0 0 (MQ below (va_Qv (fun _ : Unit => True) (fun _ => Wp D vwCl (hTy tc) b Sz) (fun q => b ≤ q)) args s 0 0 (fun q => b ≤ q)) (F0 m 71 ls [])) i4 := by
    intro H locs ls hl hW
    refine lv_aload_n hx hb dMo_addSum_71 rfl (lv_at hl 0 rfl) ?_
    refine lv_iload_n hx hb dMo_addSum_72 rfl (lv_at hl 1 rfl) ?_
    refine lv_iload_n hx hb dMo_addSum_73 rfl (lv_at hl 2 rfl) ?_
    refine lv_sipush hx hb dMo_addSum_74 (v := (255 : Int32)) rfl ?_
    refine lv_iand hx hb dMo_addSum_77 ?_
    replace h := ob h; obtain ⟨q21, eq21, h⟩ := h
    replace h := ob h; obtain ⟨S20, eS20, h⟩ := h
    refine hq_callv (ce := 0) (sl := 0) (va_runV (As := [.int t1, .int (i4 &&& (255 : Int32))]) (rest := []) ⟨hx, hb, hml, hown, hts⟩ (kMo_add l D tc b t0 t1 (i4 &&& (255 : Int32)) S _ eS20) (cwV 2 hts GV_Mo_136_Mo rfl rfl rfl hd_Mo_add_V ⟨Nat.le_of_ble_eq_true rfl, Nat.le_of_ble_eq_true rfl⟩) (hq_preV1 hW eq21 rfl rfl) rfl rfl hl.1 rfl (lv_room (by first | exact Nat.le_of_ble_eq_true rfl | (simp only [List.map, rf_cat]; exact Nat.le_of_ble_eq_true rfl))) dMo_addSum_78 ⟨Nat.le_of_ble_eq_true rfl, Nat.le_of_ble_eq_true rfl⟩) hW rfl rfl (fun H locs hW => ?_)
    refine lv_aload_n hx hb dMo_addSum_81 rfl (lv_at hl 0 rfl) ?_
    refine lv_iload_n hx hb dMo_addSum_82 rfl (lv_at hl 1 rfl) ?_
    refine lv_iload_n hx hb dMo_addSum_83 rfl (lv_at hl 2 rfl) ?_
    refine lv_bipush hx hb dMo_addSum_84 (v := (8 : Int32)) rfl ?_
    refine lv_ishr hx hb dMo_addSum_86 ?_
    replace h := ob h; obtain ⟨q23, eq23, h⟩ := h
    replace h := ob h; obtain ⟨S22, eS22, h⟩ := h
    refine hq_callv (ce := 0) (sl := 0) (va_runV (As := [.int t1, .int (i4 >>> ((8 : Int32) &&& 31))]) (rest := []) ⟨hx, hb, hml, hown, hts⟩ (kMo_add l D tc b t0 t1 (i4 >>> ((8 : Int32) &&& 31)) S20 _ eS22) (cwV 2 hts GV_Mo_136_Mo rfl rfl rfl hd_Mo_add_V ⟨Nat.le_of_ble_eq_true rfl, Nat.le_of_ble_eq_true rfl⟩) (hq_preV1 hW eq23 rfl rfl) rfl rfl hl.1 rfl (lv_room (by first | exact Nat.le_of_ble_eq_true rfl | (simp only [List.map, rf_cat]; exact Nat.le_of_ble_eq_true rfl))) dMo_addSum_87 ⟨Nat.le_of_ble_eq_true rfl, Nat.le_of_ble_eq_true rfl⟩) hW rfl rfl (fun H locs hW => ?_)
    exact hq_vret hx hb hr hlocks h (Nat.le_of_ble_eq_true rfl) (Nat.le_of_ble_eq_true rfl) hW dMo_addSum_90
  refine lp_ind (P := fun q' => ∀ (H : Heap) (locs : List Loc) (ls : Array Slot), lv_has ls 5 [(0, .ref t0), (1, .int t1), (2, .int q'.1), (3, .int q'.2)] → Wd D vwCl (hTy tc) b S s H locs → W p l e { frames := 2, cells := 0, slots := 0, locals := 80 } s m args below meth c H locs 0 0 (MQ below (va_Qv (fun _ : Unit => True) (fun _ => Wp D vwCl (hTy tc) b Sz) (fun q => b ≤ q)) args s 0 0 (fun q => b ≤ q)) (F0 m 5 ls [])) (Q := fun q' => ∀ (H : Heap) (locs : List Loc) (ls : Array Slot), lv_has ls 5 [(0, .ref t0), (1, .int t1), (2, .int q')] → Wd D vwCl (hTy tc) b S s H locs → W p l e { frames := 2, cells := 0, slots := 0, locals := 80 } s m args below meth c H locs 0 0 (MQ below (va_Qv (fun _ : Unit => True) (fun _ => Wp D vwCl (hTy tc) b Sz) (fun q => b ≤ q)) args s 0 0 (fun q => b ≤ q)) (F0 m 71 ls [])) (fun q' x3 h hin hex => ?_) hX _ _ ei4 _ _ _ (lv_sub hl [2, 3, 1, 0] rfl) hW
  obtain ⟨i1, i2⟩ := q'
  intro H locs ls hl hW
  unfold fMo_addSum_L5 at h
  refine lv_iload_n hx hb dMo_addSum_5 rfl (lv_at hl 3 rfl) ?_
  refine lv_aload_n hx hb dMo_addSum_6 rfl (lv_at hl 0 rfl) ?_
  replace h := ob h; obtain ⟨r5, er5, h⟩ := h
  refine hq_get hx hb hts hown hW (gR_V er5) (F_Mo_114 hts) dMo_addSum_7 ?_
  refine lv_iload_n hx hb dMo_addSum_10 rfl (lv_at hl 1 rfl) ?_
  replace h := ob h; obtain ⟨a6, hra6, h⟩ := h
  subst hra6
  replace h := ob h; obtain ⟨v7, ev7, h⟩ := h
  refine hq_iald hx hb hW ev7 rfl dMo_addSum_11 ?_
  refine lv_icmp_ge hx hb dMo_addSum_12 (tgt := 71) rfl (fun hc19 => ?_) (fun hc19 => ?_)
  · replace h := if_t hc19 h
    exact hex _ (Option.some.inj h).symm _ _ _ (lv_sub hl [0, 1, 2] rfl) hW
  · replace h := if_f hc19 h
    refine lv_iload_n hx hb dMo_addSum_15 rfl (lv_at hl 2 rfl) ?_
    refine lv_aload_n hx hb dMo_addSum_16 rfl (lv_at hl 0 rfl) ?_
    replace h := ob h; obtain ⟨r8, er8, h⟩ := h
    refine hq_get hx hb hts hown hW (gR_V er8) (F_Mo_111 hts) dMo_addSum_17 ?_
    refine lv_bipush hx hb dMo_addSum_20 (v := (48 : Int32)) rfl ?_
    refine lv_iload_n hx hb dMo_addSum_22 rfl (lv_at hl 1 rfl) ?_
    refine lv_imul hx hb dMo_addSum_23 ?_
    refine lv_iload_n hx hb dMo_addSum_24 rfl (lv_at hl 3 rfl) ?_
    refine lv_iadd hx hb dMo_addSum_25 ?_
    replace h := ob h; obtain ⟨a9, hra9, h⟩ := h
    subst hra9
    replace h := ob h; obtain ⟨v10, ev10, h⟩ := h
    refine hq_iald hx hb hW ev10 rfl dMo_addSum_26 ?_
    refine lv_ixor hx hb dMo_addSum_27 ?_
    refine lv_istore_n (lv' := [(2, .int (i1 ^^^ v10)), (0, .ref t0), (1, .int t1), (3, .int i2)]) hx hb dMo_addSum_28 rfl hl (Nat.le_of_ble_eq_true rfl) (by first | rfl | (simp [List.filter, rf_cat] <;> rfl)) (fun ls hl => ?_)
    refine lv_iconst hx hb dMo_addSum_29 (v := (0 : Int32)) rfl ?_
    refine lv_istore (lv' := [(4, .int (0 : Int32)), (2, .int (i1 ^^^ v10)), (0, .ref t0), (1, .int t1), (3, .int i2)]) hx hb dMo_addSum_30 hl (Nat.le_of_ble_eq_true rfl) (by first | rfl | (simp [List.filter, rf_cat] <;> rfl)) (fun ls hl => ?_)
    replace h := ob h; obtain ⟨i14, ei14, h⟩ := h
    have hX : (fun q' => ∀ (H : Heap) (locs : List Loc) (ls : Array Slot), lv_has ls 5 [(0, .ref t0), (1, .int t1), (2, .int q'), (3, .int i2)] → Wd D vwCl (hTy tc) b S s H locs → W p l e { frames := 2, cells := 0, slots := 0, locals := 80 } s m args below meth c H locs 0 0 (MQ below (va_Qv (fun _ : Unit => True) (fun _ => Wp D vwCl (hTy tc) b Sz) (fun q => b ≤ q)) args s 0 0 (fun q => b ≤ q)) (F0 m 65 ls [])) i14 := by
      intro H locs ls hl hW
      refine lv_iinc (k := 3) (v := i2 + 1) (lv' := [(3, .int (i2 + 1)), (0, .ref t0), (1, .int t1), (2, .int i14)]) hx hb dMo_addSum_65 hl rfl rfl (Nat.le_of_ble_eq_true rfl) (by first | rfl | (simp [List.filter, rf_cat] <;> rfl)) (fun ls hl => ?_)
      refine lv_goto hx hb dMo_addSum_68 (tgt := 5) rfl ?_
      exact hin _ (Option.some.inj h).symm _ _ _ (lv_sub hl [1, 2, 3, 0] rfl) hW
    refine lp_ind (P := fun q' => ∀ (H : Heap) (locs : List Loc) (ls : Array Slot), lv_has ls 5 [(0, .ref t0), (1, .int t1), (2, .int q'.1), (3, .int i2), (4, .int q'.2)] → Wd D vwCl (hTy tc) b S s H locs → W p l e { frames := 2, cells := 0, slots := 0, locals := 80 } s m args below meth c H locs 0 0 (MQ below (va_Qv (fun _ : Unit => True) (fun _ => Wp D vwCl (hTy tc) b Sz) (fun q => b ≤ q)) args s 0 0 (fun q => b ≤ q)) (F0 m 32 ls [])) (Q := fun q' => ∀ (H : Heap) (locs : List Loc) (ls : Array Slot), lv_has ls 5 [(0, .ref t0), (1, .int t1), (2, .int q'), (3, .int i2)] → Wd D vwCl (hTy tc) b S s H locs → W p l e { frames := 2, cells := 0, slots := 0, locals := 80 } s m args below meth c H locs 0 0 (MQ below (va_Qv (fun _ : Unit => True) (fun _ => Wp D vwCl (hTy tc) b Sz) (fun q => b ≤ q)) args s 0 0 (fun q => b ≤ q)) (F0 m 65 ls [])) (fun q' x13 h hin hex => ?_) hX _ _ ei14 _ _ _ (lv_sub hl [2, 3, 1, 4, 0] rfl) hW
    obtain ⟨i11, i12⟩ := q'
    intro H locs ls hl hW
    unfold fMo_addSum_L32 at h
    refine lv_iload hx hb dMo_addSum_32 (lv_at hl 4 rfl) ?_
    refine lv_bipush hx hb dMo_addSum_34 (v := (8 : Int32)) rfl ?_
    refine lv_icmp_ge hx hb dMo_addSum_36 (tgt := 65) rfl (fun hc18 => ?_) (fun hc18 => ?_)
    · replace h := if_t hc18 h
      exact hex _ (Option.some.inj h).symm _ _ _ (lv_sub hl [0, 1, 2, 3] rfl) hW
    · replace h := if_f hc18 h
      refine lv_iload_n hx hb dMo_addSum_39 rfl (lv_at hl 2 rfl) ?_
      refine lv_iconst hx hb dMo_addSum_40 (v := (1 : Int32)) rfl ?_
      refine lv_iand hx hb dMo_addSum_41 ?_
      refine lv_iconst hx hb dMo_addSum_42 (v := (1 : Int32)) rfl ?_
      replace h := ob h; obtain ⟨q16, e58, h⟩ := h
      have hJ58 : ∀ q', q' = q16 → ∀ (H : Heap) (locs : List Loc) (ls : Array Slot), lv_has ls 5 [(0, .ref t0), (1, .int t1), (3, .int i2), (4, .int i12)] → Wd D vwCl (hTy tc) b S s H locs → W p l e { frames := 2, cells := 0, slots := 0, locals := 80 } s m args below meth c H locs 0 0 (MQ below (va_Qv (fun _ : Unit => True) (fun _ => Wp D vwCl (hTy tc) b Sz) (fun q => b ≤ q)) args s 0 0 (fun q => b ≤ q)) (F0 m 58 ls [.int q']) := by
        intro i15 hq'; subst hq'
        intro H locs ls hl hW
        refine lv_istore_n (lv' := [(2, .int i15), (0, .ref t0), (1, .int t1), (3, .int i2), (4, .int i12)]) hx hb dMo_addSum_58 rfl hl (Nat.le_of_ble_eq_true rfl) (by first | rfl | (simp [List.filter, rf_cat] <;> rfl)) (fun ls hl => ?_)
        refine lv_iinc (k := 4) (v := i12 + 1) (lv' := [(4, .int (i12 + 1)), (2, .int i15), (0, .ref t0), (1, .int t1), (3, .int i2)]) hx hb dMo_addSum_59 hl rfl rfl (Nat.le_of_ble_eq_true rfl) (by first | rfl | (simp [List.filter, rf_cat] <;> rfl)) (fun ls hl => ?_)
        refine lv_goto hx hb dMo_addSum_62 (tgt := 32) rfl ?_
        exact hin _ (Option.some.inj h).symm _ _ _ (lv_sub hl [2, 3, 1, 4, 0] rfl) hW
      clear h; have h := e58; clear e58
      refine lv_icmp_ne hx hb dMo_addSum_43 (tgt := 55) rfl (fun hc17 => ?_) (fun hc17 => ?_)
      · replace h := if_f hc17 h
        refine lv_iload_n hx hb dMo_addSum_55 rfl (lv_at hl 2 rfl) ?_
        refine lv_iconst hx hb dMo_addSum_56 (v := (1 : Int32)) rfl ?_
        refine lv_ishr hx hb dMo_addSum_57 ?_
        exact hJ58 _ (Option.some.inj h) _ _ _ (lv_sub hl [0, 1, 3, 4] rfl) hW
      · replace h := if_t hc17 h
        refine lv_iload_n hx hb dMo_addSum_46 rfl (lv_at hl 2 rfl) ?_
        refine lv_iconst hx hb dMo_addSum_47 (v := (1 : Int32)) rfl ?_
        refine lv_ishr hx hb dMo_addSum_48 ?_
        refine lv_ldc hx hb (v := (40961 : Int32)) hown (hts _ w_831) dMo_addSum_49 ?_
        refine lv_ixor hx hb dMo_addSum_51 ?_
        refine lv_goto hx hb dMo_addSum_52 (tgt := 58) rfl ?_
        exact hJ58 _ (Option.some.inj h) _ _ _ (lv_sub hl [0, 1, 3, 4] rfl) hW
def fMo_word (t0 : Int64) (t2 : Int32) (S : Ws) : Option (Int32 × Ws) :=
  some ((((t0.toUInt64 >>> (((16 : Int32) * (t2 &&& (3 : Int32))).toInt64.toUInt64 &&& Int64.toUInt64 63)).toInt64) &&& (65535 : Int64)).toInt32, S)
set_option maxRecDepth 100000 in
set_option maxHeartbeats 4000000 in
theorem kMo_word (l : Launch) (D : va_G) (tc : Nat → ClassId) (b : Nat) (t0 : Int64) (t2 : Int32) (S Sz : Ws) (rr : Int32) (h : fMo_word t0 t2 S = some (rr, Sz)) : Met l yMo_word wsMo_word { frames := 1, cells := 0, slots := 0, locals := 40 } (va_Pc [.long t0, .int t2] (Wp D vwCl (hTy tc) b S)) (va_Qi (fun x (_ : Unit) => x = rr) (fun _ => Wp D vwCl (hTy tc) b Sz) (fun q => b ≤ q)) 0 0 (fun q => b ≤ q) := by
  refine hq_ofW (cc := cMo_word) (maxL := 3) (ret := (some .int)) (by decide) rfl (Nat.le_of_ble_eq_true rfl) fun p e s m args below meth c hx hb hr hts hown hlocks hnm hml H locs ls hl hW => ?_
  have hts : ∀ w ∈ lwG, w.before args s = true := fun w h => hts w (List.mem_cons_of_mem _ h)
  have hown : s.vm.findClass "SerialPlantModel" = some m.cls := hown
  have hl : lv_has ls 3 [(0, .long t0), (2, .int t2)] := hl
  unfold fMo_word at h
  refine lv_lload_n hx hb dMo_word_0 rfl (lv_at hl 0 rfl) ?_
  refine lv_bipush hx hb dMo_word_1 (v := (16 : Int32)) rfl ?_
  refine lv_iload_n hx hb dMo_word_3 rfl (lv_at hl 1 rfl) ?_
  refine lv_iconst hx hb dMo_word_4 (v := (3 : Int32)) rfl ?_
  refine lv_iand hx hb dMo_word_5 ?_
  refine lv_imul hx hb dMo_word_6 ?_
  refine lv_lushr hx hb dMo_word_7 (v := (t0.toUInt64 >>> (((16 : Int32) * (t2 &&& (3 : Int32))).toInt64.toUInt64 &&& Int64.toUInt64 63)).toInt64) rfl ?_
  refine lv_ldc2 hx hb (v := (65535 : Int64)) hown (hts _ w_818) dMo_word_8 ?_
  refine lv_land hx hb dMo_word_11 ?_
  refine lv_l2i hx hb dMo_word_12 (v := (((t0.toUInt64 >>> (((16 : Int32) * (t2 &&& (3 : Int32))).toInt64.toUInt64 &&& Int64.toUInt64 63)).toInt64) &&& (65535 : Int64)).toInt32) rfl ?_
  exact hq_iret hx hb hr hlocks h (Nat.le_of_ble_eq_true rfl) (Nat.le_of_ble_eq_true rfl) hW dMo_word_13
def fMo_addBits_L33 (t2 : Int64) (t4 : Int32) (i3 : Int32) : Int32 × Int32 → Option ((Int32 × Int32) ⊕ (Int32)) :=
  fun (i7, i8) => if (8 : Int32) ≤ i8 then some (.inr i7) else if t4 ≤ (((8 : Int32) * i3) + i8) then some (.inr i7) else (if (lg_cmp (((t2.toUInt64 >>> ((((8 : Int32) * i3) + i8).toInt64.toUInt64 &&& Int64.toUInt64 63)).toInt64) &&& (1 : Int64)) (1 : Int64)) = 0 then some (i7 ||| ((1 : Int32) <<< (i8 &&& 31))) else some i7).bind fun i11 => some (.inl (i11, i8 + 1))
def fMo_addBits_L20 (t0 : Nat) (t1 : Int32) (t2 : Int64) (t4 : Int32) : Int32 × Ws → Option ((Int32 × Ws) ⊕ (Ws)) :=
  fun (i3, S4) => if ((t4 + (7 : Int32)) / (8 : Int32)) ≤ i3 then some (.inr S4) else (lp (fMo_addBits_L33 t2 t4 i3) 1000 ((0 : Int32), (0 : Int32))).bind fun i10 => (gO S4 t0 [8]).bind fun q17 => (fMo_add t0 t1 i10 S4).bind fun S16 => some (.inl (i3 + 1, S16))
def fMo_addBits (t0 : Nat) (t1 : Int32) (t2 : Int64) (t4 : Int32) (S : Ws) : Option (Ws) :=
  (gO S t0 [8]).bind fun q2 => (fMo_add t0 t1 ((t4 + (7 : Int32)) / (8 : Int32)) S).bind fun S1 => (lp (fMo_addBits_L20 t0 t1 t2 t4) 1000 ((0 : Int32), S1)).bind fun S6 => some S6
set_option maxRecDepth 100000 in
set_option maxHeartbeats 4000000 in
theorem kMo_addBits (l : Launch) (D : va_G) (tc : Nat → ClassId) (b : Nat) (t0 : Nat) (t1 : Int32) (t2 : Int64) (t4 : Int32) (S Sz : Ws) (h : fMo_addBits t0 t1 t2 t4 S = some Sz) : Met l yMo_addBits wsMo_addBits { frames := 2, cells := 0, slots := 0, locals := 80 } (va_Pc [.ref t0, .int t1, .long t2, .int t4] (Wp D vwCl (hTy tc) b S)) (va_Qv (fun _ : Unit => True) (fun _ => Wp D vwCl (hTy tc) b Sz) (fun q => b ≤ q)) 0 0 (fun q => b ≤ q) := by
  refine hq_ofW (cc := cMo_addBits) (maxL := 9) (ret := none) (by decide) rfl (Nat.le_of_ble_eq_true rfl) fun p e s m args below meth c hx hb hr hts hown hlocks hnm hml H locs ls hl hW => ?_
  have hts : ∀ w ∈ lwG, w.before args s = true := fun w h => hts w (List.mem_cons_of_mem _ h)
  have hown : s.vm.findClass "SerialPlantModel" = some m.cls := hown
  have hl : lv_has ls 9 [(0, .ref t0), (1, .int t1), (2, .long t2), (4, .int t4)] := hl
  unfold fMo_addBits at h
  refine lv_iload hx hb dMo_addBits_0 (lv_at hl 3 rfl) ?_
  refine lv_bipush hx hb dMo_addBits_2 (v := (7 : Int32)) rfl ?_
  refine lv_iadd hx hb dMo_addBits_4 ?_
  refine lv_bipush hx hb dMo_addBits_5 (v := (8 : Int32)) rfl ?_
  refine lv_idiv hx hb dMo_addBits_7 (by decide) ?_
  refine lv_istore (lv' := [(5, .int ((t4 + (7 : Int32)) / (8 : Int32))), (0, .ref t0), (1, .int t1), (2, .long t2), (4, .int t4)]) hx hb dMo_addBits_8 hl (Nat.le_of_ble_eq_true rfl) (by first | rfl | (simp [List.filter, rf_cat] <;> rfl)) (fun ls hl => ?_)
  refine lv_aload_n hx hb dMo_addBits_10 rfl (lv_at hl 1 rfl) ?_
  refine lv_iload_n hx hb dMo_addBits_11 rfl (lv_at hl 2 rfl) ?_
  refine lv_iload hx hb dMo_addBits_12 (lv_at hl 0 rfl) ?_
  replace h := ob h; obtain ⟨q2, eq2, h⟩ := h
  replace h := ob h; obtain ⟨S1, eS1, h⟩ := h
  refine hq_callv (ce := 0) (sl := 0) (va_runV (As := [.int t1, .int ((t4 + (7 : Int32)) / (8 : Int32))]) (rest := []) ⟨hx, hb, hml, hown, hts⟩ (kMo_add l D tc b t0 t1 ((t4 + (7 : Int32)) / (8 : Int32)) S _ eS1) (cwV 2 hts GV_Mo_136_Mo rfl rfl rfl hd_Mo_add_V ⟨Nat.le_of_ble_eq_true rfl, Nat.le_of_ble_eq_true rfl⟩) (hq_preV1 hW eq2 rfl rfl) rfl rfl hl.1 rfl (lv_room (by first | exact Nat.le_of_ble_eq_true rfl | (simp only [List.map, rf_cat]; exact Nat.le_of_ble_eq_true rfl))) dMo_addBits_14 ⟨Nat.le_of_ble_eq_true rfl, Nat.le_of_ble_eq_true rfl⟩) hW rfl rfl (fun H locs hW => ?_)
  refine lv_iconst hx hb dMo_addBits_17 (v := (0 : Int32)) rfl ?_
  refine lv_istore (lv' := [(6, .int (0 : Int32)), (5, .int ((t4 + (7 : Int32)) / (8 : Int32))), (0, .ref t0), (1, .int t1), (2, .long t2), (4, .int t4)]) hx hb dMo_addBits_18 hl (Nat.le_of_ble_eq_true rfl) (by first | rfl | (simp [List.filter, rf_cat] <;> rfl)) (fun ls hl => ?_)
  replace h := ob h; obtain ⟨S6, eS6, h⟩ := h
  have hX : (fun q' => ∀ (H : Heap) (locs : List Loc) (ls : Array Slot), lv_has ls 9 [] → Wd D vwCl (hTy tc) b q' s H locs → W p l e { frames := 2, cells := 0, slots := 0, locals := 80 } s m args below meth c H locs 0 0 (MQ below (va_Qv (fun _ : Unit => True) (fun _ => Wp D vwCl (hTy tc) b Sz) (fun q => b ≤ q)) args s 0 0 (fun q => b ≤ q)) (F0 m 103 ls [])) S6 := by
    intro H locs ls hl hW
    exact hq_vret hx hb hr hlocks h (Nat.le_of_ble_eq_true rfl) (Nat.le_of_ble_eq_true rfl) hW dMo_addBits_103
  refine lp_ind (P := fun q' => ∀ (H : Heap) (locs : List Loc) (ls : Array Slot), lv_has ls 9 [(0, .ref t0), (1, .int t1), (2, .long t2), (4, .int t4), (5, .int ((t4 + (7 : Int32)) / (8 : Int32))), (6, .int q'.1)] → Wd D vwCl (hTy tc) b q'.2 s H locs → W p l e { frames := 2, cells := 0, slots := 0, locals := 80 } s m args below meth c H locs 0 0 (MQ below (va_Qv (fun _ : Unit => True) (fun _ => Wp D vwCl (hTy tc) b Sz) (fun q => b ≤ q)) args s 0 0 (fun q => b ≤ q)) (F0 m 20 ls [])) (Q := fun q' => ∀ (H : Heap) (locs : List Loc) (ls : Array Slot), lv_has ls 9 [] → Wd D vwCl (hTy tc) b q' s H locs → W p l e { frames := 2, cells := 0, slots := 0, locals := 80 } s m args below meth c H locs 0 0 (MQ below (va_Qv (fun _ : Unit => True) (fun _ => Wp D vwCl (hTy tc) b Sz) (fun q => b ≤ q)) args s 0 0 (fun q => b ≤ q)) (F0 m 103 ls [])) (fun q' x5 h hin hex => ?_) hX _ _ eS6 _ _ _ (lv_sub hl [2, 3, 4, 5, 1, 0] rfl) hW
  obtain ⟨i3, S4⟩ := q'
  intro H locs ls hl hW
  unfold fMo_addBits_L20 at h
  refine lv_iload hx hb dMo_addBits_20 (lv_at hl 5 rfl) ?_
  refine lv_iload hx hb dMo_addBits_22 (lv_at hl 4 rfl) ?_
  refine lv_icmp_ge hx hb dMo_addBits_24 (tgt := 103) rfl (fun hc18 => ?_) (fun hc18 => ?_)
  · replace h := if_t hc18 h
    exact hex _ (Option.some.inj h).symm _ _ _ (lv_sub hl [] rfl) hW
  · replace h := if_f hc18 h
    refine lv_iconst hx hb dMo_addBits_27 (v := (0 : Int32)) rfl ?_
    refine lv_istore (lv' := [(7, .int (0 : Int32)), (0, .ref t0), (1, .int t1), (2, .long t2), (4, .int t4), (5, .int ((t4 + (7 : Int32)) / (8 : Int32))), (6, .int i3)]) hx hb dMo_addBits_28 hl (Nat.le_of_ble_eq_true rfl) (by first | rfl | (simp [List.filter, rf_cat] <;> rfl)) (fun ls hl => ?_)
    refine lv_iconst hx hb dMo_addBits_30 (v := (0 : Int32)) rfl ?_
    refine lv_istore (lv' := [(8, .int (0 : Int32)), (7, .int (0 : Int32)), (0, .ref t0), (1, .int t1), (2, .long t2), (4, .int t4), (5, .int ((t4 + (7 : Int32)) / (8 : Int32))), (6, .int i3)]) hx hb dMo_addBits_31 hl (Nat.le_of_ble_eq_true rfl) (by first | rfl | (simp [List.filter, rf_cat] <;> rfl)) (fun ls hl => ?_)
    replace h := ob h; obtain ⟨i10, ei10, h⟩ := h
    have hX : (fun q' => ∀ (H : Heap) (locs : List Loc) (ls : Array Slot), lv_has ls 9 [(0, .ref t0), (1, .int t1), (2, .long t2), (4, .int t4), (5, .int ((t4 + (7 : Int32)) / (8 : Int32))), (6, .int i3), (7, .int q')] → Wd D vwCl (hTy tc) b S4 s H locs → W p l e { frames := 2, cells := 0, slots := 0, locals := 80 } s m args below meth c H locs 0 0 (MQ below (va_Qv (fun _ : Unit => True) (fun _ => Wp D vwCl (hTy tc) b Sz) (fun q => b ≤ q)) args s 0 0 (fun q => b ≤ q)) (F0 m 90 ls [])) i10 := by
      intro H locs ls hl hW
      refine lv_aload_n hx hb dMo_addBits_90 rfl (lv_at hl 0 rfl) ?_
      refine lv_iload_n hx hb dMo_addBits_91 rfl (lv_at hl 1 rfl) ?_
      refine lv_iload hx hb dMo_addBits_92 (lv_at hl 6 rfl) ?_
      replace h := ob h; obtain ⟨q17, eq17, h⟩ := h
      replace h := ob h; obtain ⟨S16, eS16, h⟩ := h
      refine hq_callv (ce := 0) (sl := 0) (va_runV (As := [.int t1, .int i10]) (rest := []) ⟨hx, hb, hml, hown, hts⟩ (kMo_add l D tc b t0 t1 i10 S4 _ eS16) (cwV 2 hts GV_Mo_136_Mo rfl rfl rfl hd_Mo_add_V ⟨Nat.le_of_ble_eq_true rfl, Nat.le_of_ble_eq_true rfl⟩) (hq_preV1 hW eq17 rfl rfl) rfl rfl hl.1 rfl (lv_room (by first | exact Nat.le_of_ble_eq_true rfl | (simp only [List.map, rf_cat]; exact Nat.le_of_ble_eq_true rfl))) dMo_addBits_94 ⟨Nat.le_of_ble_eq_true rfl, Nat.le_of_ble_eq_true rfl⟩) hW rfl rfl (fun H locs hW => ?_)
      refine lv_iinc (k := 5) (v := i3 + 1) (lv' := [(6, .int (i3 + 1)), (0, .ref t0), (1, .int t1), (2, .long t2), (4, .int t4), (5, .int ((t4 + (7 : Int32)) / (8 : Int32))), (7, .int i10)]) hx hb dMo_addBits_97 hl rfl rfl (Nat.le_of_ble_eq_true rfl) (by first | rfl | (simp [List.filter, rf_cat] <;> rfl)) (fun ls hl => ?_)
      refine lv_goto hx hb dMo_addBits_100 (tgt := 20) rfl ?_
      exact hin _ (Option.some.inj h).symm _ _ _ (lv_sub hl [1, 2, 3, 4, 5, 0] rfl) hW
    refine lp_ind (P := fun q' => ∀ (H : Heap) (locs : List Loc) (ls : Array Slot), lv_has ls 9 [(0, .ref t0), (1, .int t1), (2, .long t2), (4, .int t4), (5, .int ((t4 + (7 : Int32)) / (8 : Int32))), (6, .int i3), (7, .int q'.1), (8, .int q'.2)] → Wd D vwCl (hTy tc) b S4 s H locs → W p l e { frames := 2, cells := 0, slots := 0, locals := 80 } s m args below meth c H locs 0 0 (MQ below (va_Qv (fun _ : Unit => True) (fun _ => Wp D vwCl (hTy tc) b Sz) (fun q => b ≤ q)) args s 0 0 (fun q => b ≤ q)) (F0 m 33 ls [])) (Q := fun q' => ∀ (H : Heap) (locs : List Loc) (ls : Array Slot), lv_has ls 9 [(0, .ref t0), (1, .int t1), (2, .long t2), (4, .int t4), (5, .int ((t4 + (7 : Int32)) / (8 : Int32))), (6, .int i3), (7, .int q')] → Wd D vwCl (hTy tc) b S4 s H locs → W p l e { frames := 2, cells := 0, slots := 0, locals := 80 } s m args below meth c H locs 0 0 (MQ below (va_Qv (fun _ : Unit => True) (fun _ => Wp D vwCl (hTy tc) b Sz) (fun q => b ≤ q)) args s 0 0 (fun q => b ≤ q)) (F0 m 90 ls [])) (fun q' x9 h hin hex => ?_) hX _ _ ei10 _ _ _ (lv_sub hl [2, 3, 4, 5, 6, 7, 1, 0] rfl) hW
    obtain ⟨i7, i8⟩ := q'
    intro H locs ls hl hW
    unfold fMo_addBits_L33 at h
    refine lv_iload hx hb dMo_addBits_33 (lv_at hl 7 rfl) ?_
    refine lv_bipush hx hb dMo_addBits_35 (v := (8 : Int32)) rfl ?_
    refine lv_icmp_ge hx hb dMo_addBits_37 (tgt := 90) rfl (fun hc15 => ?_) (fun hc15 => ?_)
    · replace h := if_t hc15 h
      exact hex _ (Option.some.inj h).symm _ _ _ (lv_sub hl [0, 1, 2, 3, 4, 5, 6] rfl) hW
    · replace h := if_f hc15 h
      refine lv_bipush hx hb dMo_addBits_40 (v := (8 : Int32)) rfl ?_
      refine lv_iload hx hb dMo_addBits_42 (lv_at hl 5 rfl) ?_
      refine lv_imul hx hb dMo_addBits_44 ?_
      refine lv_iload hx hb dMo_addBits_45 (lv_at hl 7 rfl) ?_
      refine lv_iadd hx hb dMo_addBits_47 ?_
      refine lv_iload hx hb dMo_addBits_48 (lv_at hl 3 rfl) ?_
      refine lv_icmp_ge hx hb dMo_addBits_50 (tgt := 90) rfl (fun hc14 => ?_) (fun hc14 => ?_)
      · replace h := if_t hc14 h
        exact hex _ (Option.some.inj h).symm _ _ _ (lv_sub hl [0, 1, 2, 3, 4, 5, 6] rfl) hW
      · replace h := if_f hc14 h
        refine lv_lload_n hx hb dMo_addBits_53 rfl (lv_at hl 2 rfl) ?_
        refine lv_bipush hx hb dMo_addBits_54 (v := (8 : Int32)) rfl ?_
        refine lv_iload hx hb dMo_addBits_56 (lv_at hl 5 rfl) ?_
        refine lv_imul hx hb dMo_addBits_58 ?_
        refine lv_iload hx hb dMo_addBits_59 (lv_at hl 7 rfl) ?_
        refine lv_iadd hx hb dMo_addBits_61 ?_
        refine lv_lushr hx hb dMo_addBits_62 (v := (t2.toUInt64 >>> ((((8 : Int32) * i3) + i8).toInt64.toUInt64 &&& Int64.toUInt64 63)).toInt64) rfl ?_
        refine lv_lconst hx hb dMo_addBits_63 (v := (1 : Int64)) rfl ?_
        refine lv_land hx hb dMo_addBits_64 ?_
        refine lv_lconst hx hb dMo_addBits_65 (v := (1 : Int64)) rfl ?_
        refine W.lcmp hx hb dMo_addBits_66 ?_
        replace h := ob h; obtain ⟨q12, e82, h⟩ := h
        have hJ82 : ∀ q', q' = q12 → ∀ (H : Heap) (locs : List Loc) (ls : Array Slot), lv_has ls 9 [(0, .ref t0), (1, .int t1), (2, .long t2), (4, .int t4), (5, .int ((t4 + (7 : Int32)) / (8 : Int32))), (6, .int i3), (8, .int i8)] → Wd D vwCl (hTy tc) b S4 s H locs → W p l e { frames := 2, cells := 0, slots := 0, locals := 80 } s m args below meth c H locs 0 0 (MQ below (va_Qv (fun _ : Unit => True) (fun _ => Wp D vwCl (hTy tc) b Sz) (fun q => b ≤ q)) args s 0 0 (fun q => b ≤ q)) (F0 m 82 ls [.int q']) := by
          intro i11 hq'; subst hq'
          intro H locs ls hl hW
          refine lv_istore (lv' := [(7, .int i11), (0, .ref t0), (1, .int t1), (2, .long t2), (4, .int t4), (5, .int ((t4 + (7 : Int32)) / (8 : Int32))), (6, .int i3), (8, .int i8)]) hx hb dMo_addBits_82 hl (Nat.le_of_ble_eq_true rfl) (by first | rfl | (simp [List.filter, rf_cat] <;> rfl)) (fun ls hl => ?_)
          refine lv_iinc (k := 7) (v := i8 + 1) (lv' := [(8, .int (i8 + 1)), (7, .int i11), (0, .ref t0), (1, .int t1), (2, .long t2), (4, .int t4), (5, .int ((t4 + (7 : Int32)) / (8 : Int32))), (6, .int i3)]) hx hb dMo_addBits_84 hl rfl rfl (Nat.le_of_ble_eq_true rfl) (by first | rfl | (simp [List.filter, rf_cat] <;> rfl)) (fun ls hl => ?_)
          refine lv_goto hx hb dMo_addBits_87 (tgt := 33) rfl ?_
          exact hin _ (Option.some.inj h).symm _ _ _ (lv_sub hl [2, 3, 4, 5, 6, 7, 1, 0] rfl) hW
        clear h; have h := e82; clear e82
        refine lv_if_ne hx hb dMo_addBits_67 (tgt := 80) rfl (fun hc13 => ?_) (fun hc13 => ?_)
        · replace h := if_f hc13 h
          refine lv_iload hx hb dMo_addBits_80 (lv_at hl 6 rfl) ?_
          exact hJ82 _ (Option.some.inj h) _ _ _ (lv_sub hl [0, 1, 2, 3, 4, 5, 7] rfl) hW
        · replace h := if_t hc13 h
          refine lv_iload hx hb dMo_addBits_70 (lv_at hl 6 rfl) ?_
          refine lv_iconst hx hb dMo_addBits_72 (v := (1 : Int32)) rfl ?_
          refine lv_iload hx hb dMo_addBits_73 (lv_at hl 7 rfl) ?_
          refine lv_ishl hx hb dMo_addBits_75 ?_
          refine lv_ior hx hb dMo_addBits_76 ?_
          refine lv_goto hx hb dMo_addBits_77 (tgt := 82) rfl ?_
          exact hJ82 _ (Option.some.inj h) _ _ _ (lv_sub hl [0, 1, 2, 3, 4, 5, 7] rfl) hW
def fMo_addWords_L12 (t0 : Nat) (t1 : Int32) (t2 : Int64) (t4 : Int32) : Int32 × Ws → Option ((Int32 × Ws) ⊕ (Ws)) :=
  fun (i3, S4) => if t4 ≤ i3 then some (.inr S4) else (fMo_word t2 i3 S4).bind fun (v8, S7) => (gO S7 t0 [8]).bind fun q10 => (fMo_addWord t0 t1 v8 S7).bind fun S9 => some (.inl (i3 + 1, S9))
def fMo_addWords (t0 : Nat) (t1 : Int32) (t2 : Int64) (t4 : Int32) (S : Ws) : Option (Ws) :=
  (gO S t0 [8]).bind fun q2 => (fMo_add t0 t1 ((2 : Int32) * t4) S).bind fun S1 => (lp (fMo_addWords_L12 t0 t1 t2 t4) 1000 ((0 : Int32), S1)).bind fun S6 => some S6
set_option maxRecDepth 100000 in
set_option maxHeartbeats 4000000 in
theorem kMo_addWords (l : Launch) (D : va_G) (tc : Nat → ClassId) (b : Nat) (t0 : Nat) (t1 : Int32) (t2 : Int64) (t4 : Int32) (S Sz : Ws) (h : fMo_addWords t0 t1 t2 t4 S = some Sz) : Met l yMo_addWords wsMo_addWords { frames := 3, cells := 0, slots := 0, locals := 120 } (va_Pc [.ref t0, .int t1, .long t2, .int t4] (Wp D vwCl (hTy tc) b S)) (va_Qv (fun _ : Unit => True) (fun _ => Wp D vwCl (hTy tc) b Sz) (fun q => b ≤ q)) 0 0 (fun q => b ≤ q) := by
  refine hq_ofW (cc := cMo_addWords) (maxL := 6) (ret := none) (by decide) rfl (Nat.le_of_ble_eq_true rfl) fun p e s m args below meth c hx hb hr hts hown hlocks hnm hml H locs ls hl hW => ?_
  have hts : ∀ w ∈ lwG, w.before args s = true := fun w h => hts w (List.mem_cons_of_mem _ h)
  have hown : s.vm.findClass "SerialPlantModel" = some m.cls := hown
  have hl : lv_has ls 6 [(0, .ref t0), (1, .int t1), (2, .long t2), (4, .int t4)] := hl
  unfold fMo_addWords at h
  refine lv_aload_n hx hb dMo_addWords_0 rfl (lv_at hl 0 rfl) ?_
  refine lv_iload_n hx hb dMo_addWords_1 rfl (lv_at hl 1 rfl) ?_
  refine lv_iconst hx hb dMo_addWords_2 (v := (2 : Int32)) rfl ?_
  refine lv_iload hx hb dMo_addWords_3 (lv_at hl 3 rfl) ?_
  refine lv_imul hx hb dMo_addWords_5 ?_
  replace h := ob h; obtain ⟨q2, eq2, h⟩ := h
  replace h := ob h; obtain ⟨S1, eS1, h⟩ := h
  refine hq_callv (ce := 0) (sl := 0) (va_runV (As := [.int t1, .int ((2 : Int32) * t4)]) (rest := []) ⟨hx, hb, hml, hown, hts⟩ (kMo_add l D tc b t0 t1 ((2 : Int32) * t4) S _ eS1) (cwV 2 hts GV_Mo_136_Mo rfl rfl rfl hd_Mo_add_V ⟨Nat.le_of_ble_eq_true rfl, Nat.le_of_ble_eq_true rfl⟩) (hq_preV1 hW eq2 rfl rfl) rfl rfl hl.1 rfl (lv_room (by first | exact Nat.le_of_ble_eq_true rfl | (simp only [List.map, rf_cat]; exact Nat.le_of_ble_eq_true rfl))) dMo_addWords_6 ⟨Nat.le_of_ble_eq_true rfl, Nat.le_of_ble_eq_true rfl⟩) hW rfl rfl (fun H locs hW => ?_)
  refine lv_iconst hx hb dMo_addWords_9 (v := (0 : Int32)) rfl ?_
  refine lv_istore (lv' := [(5, .int (0 : Int32)), (0, .ref t0), (1, .int t1), (2, .long t2), (4, .int t4)]) hx hb dMo_addWords_10 hl (Nat.le_of_ble_eq_true rfl) (by first | rfl | (simp [List.filter, rf_cat] <;> rfl)) (fun ls hl => ?_)
  replace h := ob h; obtain ⟨S6, eS6, h⟩ := h
  have hX : (fun q' => ∀ (H : Heap) (locs : List Loc) (ls : Array Slot), lv_has ls 6 [] → Wd D vwCl (hTy tc) b q' s H locs → W p l e { frames := 3, cells := 0, slots := 0, locals := 120 } s m args below meth c H locs 0 0 (MQ below (va_Qv (fun _ : Unit => True) (fun _ => Wp D vwCl (hTy tc) b Sz) (fun q => b ≤ q)) args s 0 0 (fun q => b ≤ q)) (F0 m 36 ls [])) S6 := by
    intro H locs ls hl hW
    exact hq_vret hx hb hr hlocks h (Nat.le_of_ble_eq_true rfl) (Nat.le_of_ble_eq_true rfl) hW dMo_addWords_36
  refine lp_ind (P := fun q' => ∀ (H : Heap) (locs : List Loc) (ls : Array Slot), lv_has ls 6 [(0, .ref t0), (1, .int t1), (2, .long t2), (4, .int t4), (5, .int q'.1)] → Wd D vwCl (hTy tc) b q'.2 s H locs → W p l e { frames := 3, cells := 0, slots := 0, locals := 120 } s m args below meth c H locs 0 0 (MQ below (va_Qv (fun _ : Unit => True) (fun _ => Wp D vwCl (hTy tc) b Sz) (fun q => b ≤ q)) args s 0 0 (fun q => b ≤ q)) (F0 m 12 ls [])) (Q := fun q' => ∀ (H : Heap) (locs : List Loc) (ls : Array Slot), lv_has ls 6 [] → Wd D vwCl (hTy tc) b q' s H locs → W p l e { frames := 3, cells := 0, slots := 0, locals := 120 } s m args below meth c H locs 0 0 (MQ below (va_Qv (fun _ : Unit => True) (fun _ => Wp D vwCl (hTy tc) b Sz) (fun q => b ≤ q)) args s 0 0 (fun q => b ≤ q)) (F0 m 36 ls [])) (fun q' x5 h hin hex => ?_) hX _ _ eS6 _ _ _ (lv_sub hl [1, 2, 3, 4, 0] rfl) hW
  obtain ⟨i3, S4⟩ := q'
  intro H locs ls hl hW
  unfold fMo_addWords_L12 at h
  refine lv_iload hx hb dMo_addWords_12 (lv_at hl 4 rfl) ?_
  refine lv_iload hx hb dMo_addWords_14 (lv_at hl 3 rfl) ?_
  refine lv_icmp_ge hx hb dMo_addWords_16 (tgt := 36) rfl (fun hc11 => ?_) (fun hc11 => ?_)
  · replace h := if_t hc11 h
    exact hex _ (Option.some.inj h).symm _ _ _ (lv_sub hl [] rfl) hW
  · replace h := if_f hc11 h
    refine lv_aload_n hx hb dMo_addWords_19 rfl (lv_at hl 0 rfl) ?_
    refine lv_iload_n hx hb dMo_addWords_20 rfl (lv_at hl 1 rfl) ?_
    refine lv_lload_n hx hb dMo_addWords_21 rfl (lv_at hl 2 rfl) ?_
    refine lv_iload hx hb dMo_addWords_22 (lv_at hl 4 rfl) ?_
    replace h := ob h; obtain ⟨⟨v8, S7⟩, eS7, h⟩ := h
    refine hq_calli (ce := 0) (sl := 0) (va_runS (As := [.long t2, .int i3]) (rest := [.int t1, .ref t0]) ⟨hx, hb, hml, hown, hts⟩ (kMo_word l D tc b t2 i3 S4 _ _ eS7) (cwS 2 hts GS_Mo_142 rfl rfl rfl hd_Mo_word_S_Mo ⟨Nat.le_of_ble_eq_true rfl, Nat.le_of_ble_eq_true rfl⟩) (hq_preS hW) rfl rfl hl.1 rfl (lv_room (by first | exact Nat.le_of_ble_eq_true rfl | (simp only [List.map, rf_cat]; exact Nat.le_of_ble_eq_true rfl))) dMo_addWords_24 ⟨Nat.le_of_ble_eq_true rfl, Nat.le_of_ble_eq_true rfl⟩) hW rfl rfl (fun H locs hW => ?_)
    replace h := ob h; obtain ⟨q10, eq10, h⟩ := h
    replace h := ob h; obtain ⟨S9, eS9, h⟩ := h
    refine hq_callv (ce := 0) (sl := 0) (va_runV (As := [.int t1, .int v8]) (rest := []) ⟨hx, hb, hml, hown, hts⟩ (kMo_addWord l D tc b t0 t1 v8 S7 _ eS9) (cwV 2 hts GV_Mo_146_Mo rfl rfl rfl hd_Mo_addWord_V ⟨Nat.le_of_ble_eq_true rfl, Nat.le_of_ble_eq_true rfl⟩) (hq_preV1 hW eq10 rfl rfl) rfl rfl hl.1 rfl (lv_room (by first | exact Nat.le_of_ble_eq_true rfl | (simp only [List.map, rf_cat]; exact Nat.le_of_ble_eq_true rfl))) dMo_addWords_27 ⟨Nat.le_of_ble_eq_true rfl, Nat.le_of_ble_eq_true rfl⟩) hW rfl rfl (fun H locs hW => ?_)
    refine lv_iinc (k := 4) (v := i3 + 1) (lv' := [(5, .int (i3 + 1)), (0, .ref t0), (1, .int t1), (2, .long t2), (4, .int t4)]) hx hb dMo_addWords_30 hl rfl rfl (Nat.le_of_ble_eq_true rfl) (by first | rfl | (simp [List.filter, rf_cat] <;> rfl)) (fun ls hl => ?_)
    refine lv_goto hx hb dMo_addWords_33 (tgt := 12) rfl ?_
    exact hin _ (Option.some.inj h).symm _ _ _ (lv_sub hl [1, 2, 3, 4, 0] rfl) hW
def fMo_writeRequest_J17_1 (t3 : Int32)  : Option (Int32) :=
  if t3 = (15 : Int32) then some (1 : Int32) else if t3 = (16 : Int32) then some (1 : Int32) else some (0 : Int32)
def fMo_writeRequest_J76_2 (S1 : Ws) (t0 : Nat) (t1 : Int32) (t4 : Int32) (i3 : Int32) (t6 : Int64) (t5 : Int32)  : Option (Ws) :=
  (gO S1 t0 [8]).bind fun q18 => (fMo_addWord t0 t1 t4 S1).bind fun S17 => if i3 = 0 then (fMo_word t6 (0 : Int32) S17).bind fun (v20, S19) => (gO S19 t0 [8]).bind fun q22 => (fMo_addWord t0 t1 v20 S19).bind fun S21 => some S21 else (gO S17 t0 [8]).bind fun q24 => (fMo_addWord t0 t1 t5 S17).bind fun S23 => some S23
def fMo_writeRequest (t0 : Nat) (t1 : Int32) (t2 : Int32) (t3 : Int32) (t4 : Int32) (t5 : Int32) (t6 : Int64) (S : Ws) : Option (Ws) :=
  (gO S t0 [8]).bind fun q2 => (fMo_begin t0 t1 t2 t3 S).bind fun S1 => (if t3 < (1 : Int32) then fMo_writeRequest_J17_1 t3 else if t3 ≤ (4 : Int32) then some (1 : Int32) else fMo_writeRequest_J17_1 t3).bind fun i3 => (if t3 = (5 : Int32) then some (1 : Int32) else if t3 = (6 : Int32) then some (1 : Int32) else if t3 = (22 : Int32) then some (1 : Int32) else if t3 = (8 : Int32) then some (1 : Int32) else some (0 : Int32)).bind fun i9 => (if i3 = 0 then if i9 = 0 then some S1 else fMo_writeRequest_J76_2 S1 t0 t1 t4 i3 t6 t5 else fMo_writeRequest_J76_2 S1 t0 t1 t4 i3 t6 t5).bind fun S15 => (if t3 = (22 : Int32) then (fMo_word t6 (1 : Int32) S15).bind fun (v37, S36) => (gO S36 t0 [8]).bind fun q39 => (fMo_addWord t0 t1 v37 S36).bind fun S38 => some S38 else if t3 = (15 : Int32) then (gO S15 t0 [8]).bind fun q34 => (fMo_addBits t0 t1 t6 t5 S15).bind fun S33 => some S33 else if t3 = (16 : Int32) then (gO S15 t0 [8]).bind fun q31 => (fMo_addWords t0 t1 t6 t5 S15).bind fun S30 => some S30 else some S15).bind fun S28 => (gO S28 t0 [8]).bind fun q42 => (fMo_addSum t0 t1 S28).bind fun S41 => some S41
set_option maxRecDepth 100000 in
set_option maxHeartbeats 4000000 in
theorem kMo_writeRequest (l : Launch) (D : va_G) (tc : Nat → ClassId) (b : Nat) (t0 : Nat) (t1 : Int32) (t2 : Int32) (t3 : Int32) (t4 : Int32) (t5 : Int32) (t6 : Int64) (S Sz : Ws) (h : fMo_writeRequest t0 t1 t2 t3 t4 t5 t6 S = some Sz) : Met l yMo_writeRequest wsMo_writeRequest { frames := 4, cells := 0, slots := 0, locals := 160 } (va_Pc [.ref t0, .int t1, .int t2, .int t3, .int t4, .int t5, .long t6] (Wp D vwCl (hTy tc) b S)) (va_Qv (fun _ : Unit => True) (fun _ => Wp D vwCl (hTy tc) b Sz) (fun q => b ≤ q)) 0 0 (fun q => b ≤ q) := by
  refine hq_ofW (cc := cMo_writeRequest) (maxL := 10) (ret := none) (by decide) rfl (Nat.le_of_ble_eq_true rfl) fun p e s m args below meth c hx hb hr hts hown hlocks hnm hml H locs ls hl hW => ?_
  have hts : ∀ w ∈ lwG, w.before args s = true := fun w h => hts w (List.mem_cons_of_mem _ h)
  have hown : s.vm.findClass "SerialPlantModel" = some m.cls := hown
  have hl : lv_has ls 10 [(0, .ref t0), (1, .int t1), (2, .int t2), (3, .int t3), (4, .int t4), (5, .int t5), (6, .long t6)] := hl
  unfold fMo_writeRequest at h
  refine lv_aload_n hx hb dMo_writeRequest_0 rfl (lv_at hl 0 rfl) ?_
  refine lv_iload_n hx hb dMo_writeRequest_1 rfl (lv_at hl 1 rfl) ?_
  refine lv_iload_n hx hb dMo_writeRequest_2 rfl (lv_at hl 2 rfl) ?_
  refine lv_iload_n hx hb dMo_writeRequest_3 rfl (lv_at hl 3 rfl) ?_
  replace h := ob h; obtain ⟨q2, eq2, h⟩ := h
  replace h := ob h; obtain ⟨S1, eS1, h⟩ := h
  refine hq_callv (ce := 0) (sl := 0) (va_runV (As := [.int t1, .int t2, .int t3]) (rest := []) ⟨hx, hb, hml, hown, hts⟩ (kMo_begin l D tc b t0 t1 t2 t3 S _ eS1) (cwV 3 hts GV_Mo_149_Mo rfl rfl rfl hd_Mo_begin_V ⟨Nat.le_of_ble_eq_true rfl, Nat.le_of_ble_eq_true rfl⟩) (hq_preV1 hW eq2 rfl rfl) rfl rfl hl.1 rfl (lv_room (by first | exact Nat.le_of_ble_eq_true rfl | (simp only [List.map, rf_cat]; exact Nat.le_of_ble_eq_true rfl))) dMo_writeRequest_4 ⟨Nat.le_of_ble_eq_true rfl, Nat.le_of_ble_eq_true rfl⟩) hW rfl rfl (fun H locs hW => ?_)
  refine lv_iload_n hx hb dMo_writeRequest_7 rfl (lv_at hl 3 rfl) ?_
  refine lv_iconst hx hb dMo_writeRequest_8 (v := (1 : Int32)) rfl ?_
  replace h := ob h; obtain ⟨q4, e34, h⟩ := h
  have hJ34 : ∀ q', q' = q4 → ∀ (H : Heap) (locs : List Loc) (ls : Array Slot), lv_has ls 10 [(0, .ref t0), (1, .int t1), (3, .int t3), (4, .int t4), (5, .int t5), (6, .long t6)] → Wd D vwCl (hTy tc) b S1 s H locs → W p l e { frames := 4, cells := 0, slots := 0, locals := 160 } s m args below meth c H locs 0 0 (MQ below (va_Qv (fun _ : Unit => True) (fun _ => Wp D vwCl (hTy tc) b Sz) (fun q => b ≤ q)) args s 0 0 (fun q => b ≤ q)) (F0 m 34 ls [.int q']) := by
    intro i3 hq'; subst hq'
    intro H locs ls hl hW
    refine lv_istore (lv' := [(8, .int i3), (0, .ref t0), (1, .int t1), (3, .int t3), (4, .int t4), (5, .int t5), (6, .long t6)]) hx hb dMo_writeRequest_34 hl (Nat.le_of_ble_eq_true rfl) (by first | rfl | (simp [List.filter, rf_cat] <;> rfl)) (fun ls hl => ?_)
    refine lv_iload_n hx hb dMo_writeRequest_36 rfl (lv_at hl 3 rfl) ?_
    refine lv_iconst hx hb dMo_writeRequest_37 (v := (5 : Int32)) rfl ?_
    replace h := ob h; obtain ⟨q10, e64, h⟩ := h
    have hJ64 : ∀ q', q' = q10 → ∀ (H : Heap) (locs : List Loc) (ls : Array Slot), lv_has ls 10 [(0, .ref t0), (1, .int t1), (3, .int t3), (4, .int t4), (5, .int t5), (6, .long t6), (8, .int i3)] → Wd D vwCl (hTy tc) b S1 s H locs → W p l e { frames := 4, cells := 0, slots := 0, locals := 160 } s m args below meth c H locs 0 0 (MQ below (va_Qv (fun _ : Unit => True) (fun _ => Wp D vwCl (hTy tc) b Sz) (fun q => b ≤ q)) args s 0 0 (fun q => b ≤ q)) (F0 m 64 ls [.int q']) := by
      intro i9 hq'; subst hq'
      intro H locs ls hl hW
      refine lv_istore (lv' := [(9, .int i9), (0, .ref t0), (1, .int t1), (3, .int t3), (4, .int t4), (5, .int t5), (6, .long t6), (8, .int i3)]) hx hb dMo_writeRequest_64 hl (Nat.le_of_ble_eq_true rfl) (by first | rfl | (simp [List.filter, rf_cat] <;> rfl)) (fun ls hl => ?_)
      refine lv_iload hx hb dMo_writeRequest_66 (lv_at hl 7 rfl) ?_
      replace h := ob h; obtain ⟨q16, e104, h⟩ := h
      have hJ104 : ∀ q', q' = q16 → ∀ (H : Heap) (locs : List Loc) (ls : Array Slot), lv_has ls 10 [(0, .ref t0), (1, .int t1), (3, .int t3), (5, .int t5), (6, .long t6)] → Wd D vwCl (hTy tc) b q' s H locs → W p l e { frames := 4, cells := 0, slots := 0, locals := 160 } s m args below meth c H locs 0 0 (MQ below (va_Qv (fun _ : Unit => True) (fun _ => Wp D vwCl (hTy tc) b Sz) (fun q => b ≤ q)) args s 0 0 (fun q => b ≤ q)) (F0 m 104 ls []) := by
        intro S15 hq'; subst hq'
        intro H locs ls hl hW
        refine lv_iload_n hx hb dMo_writeRequest_104 rfl (lv_at hl 2 rfl) ?_
        refine lv_bipush hx hb dMo_writeRequest_105 (v := (22 : Int32)) rfl ?_
        replace h := ob h; obtain ⟨q29, e157, h⟩ := h
        have hJ157 : ∀ q', q' = q29 → ∀ (H : Heap) (locs : List Loc) (ls : Array Slot), lv_has ls 10 [(0, .ref t0), (1, .int t1)] → Wd D vwCl (hTy tc) b q' s H locs → W p l e { frames := 4, cells := 0, slots := 0, locals := 160 } s m args below meth c H locs 0 0 (MQ below (va_Qv (fun _ : Unit => True) (fun _ => Wp D vwCl (hTy tc) b Sz) (fun q => b ≤ q)) args s 0 0 (fun q => b ≤ q)) (F0 m 157 ls []) := by
          intro S28 hq'; subst hq'
          intro H locs ls hl hW
          refine lv_aload_n hx hb dMo_writeRequest_157 rfl (lv_at hl 0 rfl) ?_
          refine lv_iload_n hx hb dMo_writeRequest_158 rfl (lv_at hl 1 rfl) ?_
          replace h := ob h; obtain ⟨q42, eq42, h⟩ := h
          replace h := ob h; obtain ⟨S41, eS41, h⟩ := h
          refine hq_callv (ce := 0) (sl := 0) (va_runV (As := [.int t1]) (rest := []) ⟨hx, hb, hml, hown, hts⟩ (kMo_addSum l D tc b t0 t1 S28 _ eS41) (cwV 1 hts GV_Mo_160_Mo rfl rfl rfl hd_Mo_addSum_V ⟨Nat.le_of_ble_eq_true rfl, Nat.le_of_ble_eq_true rfl⟩) (hq_preV1 hW eq42 rfl rfl) rfl rfl hl.1 rfl (lv_room (by first | exact Nat.le_of_ble_eq_true rfl | (simp only [List.map, rf_cat]; exact Nat.le_of_ble_eq_true rfl))) dMo_writeRequest_159 ⟨Nat.le_of_ble_eq_true rfl, Nat.le_of_ble_eq_true rfl⟩) hW rfl rfl (fun H locs hW => ?_)
          exact hq_vret hx hb hr hlocks h (Nat.le_of_ble_eq_true rfl) (Nat.le_of_ble_eq_true rfl) hW dMo_writeRequest_162
        clear h; have h := e157; clear e157
        refine lv_icmp_ne hx hb dMo_writeRequest_107 (tgt := 124) rfl (fun hc40 => ?_) (fun hc40 => ?_)
        · replace h := if_f hc40 h
          refine lv_iload_n hx hb dMo_writeRequest_124 rfl (lv_at hl 2 rfl) ?_
          refine lv_bipush hx hb dMo_writeRequest_125 (v := (15 : Int32)) rfl ?_
          refine lv_icmp_ne hx hb dMo_writeRequest_127 (tgt := 142) rfl (fun hc35 => ?_) (fun hc35 => ?_)
          · replace h := if_f hc35 h
            refine lv_iload_n hx hb dMo_writeRequest_142 rfl (lv_at hl 2 rfl) ?_
            refine lv_bipush hx hb dMo_writeRequest_143 (v := (16 : Int32)) rfl ?_
            refine lv_icmp_ne hx hb dMo_writeRequest_145 (tgt := 157) rfl (fun hc32 => ?_) (fun hc32 => ?_)
            · replace h := if_f hc32 h
              exact hJ157 _ (Option.some.inj h) _ _ _ (lv_sub hl [0, 1] rfl) hW
            · replace h := if_t hc32 h
              refine lv_aload_n hx hb dMo_writeRequest_148 rfl (lv_at hl 0 rfl) ?_
              refine lv_iload_n hx hb dMo_writeRequest_149 rfl (lv_at hl 1 rfl) ?_
              refine lv_lload hx hb dMo_writeRequest_150 (lv_at hl 4 rfl) ?_
              refine lv_iload hx hb dMo_writeRequest_152 (lv_at hl 3 rfl) ?_
              replace h := ob h; obtain ⟨q31, eq31, h⟩ := h
              replace h := ob h; obtain ⟨S30, eS30, h⟩ := h
              refine hq_callv (ce := 0) (sl := 0) (va_runV (As := [.int t1, .long t6, .int t5]) (rest := []) ⟨hx, hb, hml, hown, hts⟩ (kMo_addWords l D tc b t0 t1 t6 t5 S15 _ eS30) (cwV 3 hts GV_Mo_157_Mo rfl rfl rfl hd_Mo_addWords_V ⟨Nat.le_of_ble_eq_true rfl, Nat.le_of_ble_eq_true rfl⟩) (hq_preV1 hW eq31 rfl rfl) rfl rfl hl.1 rfl (lv_room (by first | exact Nat.le_of_ble_eq_true rfl | (simp only [List.map, rf_cat]; exact Nat.le_of_ble_eq_true rfl))) dMo_writeRequest_154 ⟨Nat.le_of_ble_eq_true rfl, Nat.le_of_ble_eq_true rfl⟩) hW rfl rfl (fun H locs hW => ?_)
              exact hJ157 _ (Option.some.inj h) _ _ _ (lv_sub hl [0, 1] rfl) hW
          · replace h := if_t hc35 h
            refine lv_aload_n hx hb dMo_writeRequest_130 rfl (lv_at hl 0 rfl) ?_
            refine lv_iload_n hx hb dMo_writeRequest_131 rfl (lv_at hl 1 rfl) ?_
            refine lv_lload hx hb dMo_writeRequest_132 (lv_at hl 4 rfl) ?_
            refine lv_iload hx hb dMo_writeRequest_134 (lv_at hl 3 rfl) ?_
            replace h := ob h; obtain ⟨q34, eq34, h⟩ := h
            replace h := ob h; obtain ⟨S33, eS33, h⟩ := h
            refine hq_callv (ce := 0) (sl := 0) (va_runV (As := [.int t1, .long t6, .int t5]) (rest := []) ⟨hx, hb, hml, hown, hts⟩ (kMo_addBits l D tc b t0 t1 t6 t5 S15 _ eS33) (cwV 3 hts GV_Mo_153_Mo rfl rfl rfl hd_Mo_addBits_V ⟨Nat.le_of_ble_eq_true rfl, Nat.le_of_ble_eq_true rfl⟩) (hq_preV1 hW eq34 rfl rfl) rfl rfl hl.1 rfl (lv_room (by first | exact Nat.le_of_ble_eq_true rfl | (simp only [List.map, rf_cat]; exact Nat.le_of_ble_eq_true rfl))) dMo_writeRequest_136 ⟨Nat.le_of_ble_eq_true rfl, Nat.le_of_ble_eq_true rfl⟩) hW rfl rfl (fun H locs hW => ?_)
            refine lv_goto hx hb dMo_writeRequest_139 (tgt := 157) rfl ?_
            exact hJ157 _ (Option.some.inj h) _ _ _ (lv_sub hl [0, 1] rfl) hW
        · replace h := if_t hc40 h
          refine lv_aload_n hx hb dMo_writeRequest_110 rfl (lv_at hl 0 rfl) ?_
          refine lv_iload_n hx hb dMo_writeRequest_111 rfl (lv_at hl 1 rfl) ?_
          refine lv_lload hx hb dMo_writeRequest_112 (lv_at hl 4 rfl) ?_
          refine lv_iconst hx hb dMo_writeRequest_114 (v := (1 : Int32)) rfl ?_
          replace h := ob h; obtain ⟨⟨v37, S36⟩, eS36, h⟩ := h
          refine hq_calli (ce := 0) (sl := 0) (va_runS (As := [.long t6, .int (1 : Int32)]) (rest := [.int t1, .ref t0]) ⟨hx, hb, hml, hown, hts⟩ (kMo_word l D tc b t6 (1 : Int32) S15 _ _ eS36) (cwS 2 hts GS_Mo_142 rfl rfl rfl hd_Mo_word_S_Mo ⟨Nat.le_of_ble_eq_true rfl, Nat.le_of_ble_eq_true rfl⟩) (hq_preS hW) rfl rfl hl.1 rfl (lv_room (by first | exact Nat.le_of_ble_eq_true rfl | (simp only [List.map, rf_cat]; exact Nat.le_of_ble_eq_true rfl))) dMo_writeRequest_115 ⟨Nat.le_of_ble_eq_true rfl, Nat.le_of_ble_eq_true rfl⟩) hW rfl rfl (fun H locs hW => ?_)
          replace h := ob h; obtain ⟨q39, eq39, h⟩ := h
          replace h := ob h; obtain ⟨S38, eS38, h⟩ := h
          refine hq_callv (ce := 0) (sl := 0) (va_runV (As := [.int t1, .int v37]) (rest := []) ⟨hx, hb, hml, hown, hts⟩ (kMo_addWord l D tc b t0 t1 v37 S36 _ eS38) (cwV 2 hts GV_Mo_146_Mo rfl rfl rfl hd_Mo_addWord_V ⟨Nat.le_of_ble_eq_true rfl, Nat.le_of_ble_eq_true rfl⟩) (hq_preV1 hW eq39 rfl rfl) rfl rfl hl.1 rfl (lv_room (by first | exact Nat.le_of_ble_eq_true rfl | (simp only [List.map, rf_cat]; exact Nat.le_of_ble_eq_true rfl))) dMo_writeRequest_118 ⟨Nat.le_of_ble_eq_true rfl, Nat.le_of_ble_eq_true rfl⟩) hW rfl rfl (fun H locs hW => ?_)
          refine lv_goto hx hb dMo_writeRequest_121 (tgt := 157) rfl ?_
          exact hJ157 _ (Option.some.inj h) _ _ _ (lv_sub hl [0, 1] rfl) hW
      clear h; have h := e104; clear e104
      have hP76_2 : ∀  (H : Heap) (locs : List Loc) (ls : Array Slot), lv_has ls 10 [(0, .ref t0), (1, .int t1), (3, .int t3), (4, .int t4), (5, .int t5), (6, .long t6), (8, .int i3)] → Wd D vwCl (hTy tc) b S1 s H locs → fMo_writeRequest_J76_2 S1 t0 t1 t4 i3 t6 t5 = some q16 → W p l e { frames := 4, cells := 0, slots := 0, locals := 160 } s m args below meth c H locs 0 0 (MQ below (va_Qv (fun _ : Unit => True) (fun _ => Wp D vwCl (hTy tc) b Sz) (fun q => b ≤ q)) args s 0 0 (fun q => b ≤ q)) (F0 m 76 ls []) := by
        intro  H locs ls hl hW h
        unfold fMo_writeRequest_J76_2 at h
        refine lv_aload_n hx hb dMo_writeRequest_76 rfl (lv_at hl 0 rfl) ?_
        refine lv_iload_n hx hb dMo_writeRequest_77 rfl (lv_at hl 1 rfl) ?_
        refine lv_iload hx hb dMo_writeRequest_78 (lv_at hl 3 rfl) ?_
        replace h := ob h; obtain ⟨q18, eq18, h⟩ := h
        replace h := ob h; obtain ⟨S17, eS17, h⟩ := h
        refine hq_callv (ce := 0) (sl := 0) (va_runV (As := [.int t1, .int t4]) (rest := []) ⟨hx, hb, hml, hown, hts⟩ (kMo_addWord l D tc b t0 t1 t4 S1 _ eS17) (cwV 2 hts GV_Mo_146_Mo rfl rfl rfl hd_Mo_addWord_V ⟨Nat.le_of_ble_eq_true rfl, Nat.le_of_ble_eq_true rfl⟩) (hq_preV1 hW eq18 rfl rfl) rfl rfl hl.1 rfl (lv_room (by first | exact Nat.le_of_ble_eq_true rfl | (simp only [List.map, rf_cat]; exact Nat.le_of_ble_eq_true rfl))) dMo_writeRequest_80 ⟨Nat.le_of_ble_eq_true rfl, Nat.le_of_ble_eq_true rfl⟩) hW rfl rfl (fun H locs hW => ?_)
        refine lv_aload_n hx hb dMo_writeRequest_83 rfl (lv_at hl 0 rfl) ?_
        refine lv_iload_n hx hb dMo_writeRequest_84 rfl (lv_at hl 1 rfl) ?_
        refine lv_iload hx hb dMo_writeRequest_85 (lv_at hl 6 rfl) ?_
        refine lv_if_eq hx hb dMo_writeRequest_87 (tgt := 95) rfl (fun hc25 => ?_) (fun hc25 => ?_)
        · replace h := if_t hc25 h
          refine lv_lload hx hb dMo_writeRequest_95 (lv_at hl 5 rfl) ?_
          refine lv_iconst hx hb dMo_writeRequest_97 (v := (0 : Int32)) rfl ?_
          replace h := ob h; obtain ⟨⟨v20, S19⟩, eS19, h⟩ := h
          refine hq_calli (ce := 0) (sl := 0) (va_runS (As := [.long t6, .int (0 : Int32)]) (rest := [.int t1, .ref t0]) ⟨hx, hb, hml, hown, hts⟩ (kMo_word l D tc b t6 (0 : Int32) S17 _ _ eS19) (cwS 2 hts GS_Mo_142 rfl rfl rfl hd_Mo_word_S_Mo ⟨Nat.le_of_ble_eq_true rfl, Nat.le_of_ble_eq_true rfl⟩) (hq_preS hW) rfl rfl hl.1 rfl (lv_room (by first | exact Nat.le_of_ble_eq_true rfl | (simp only [List.map, rf_cat]; exact Nat.le_of_ble_eq_true rfl))) dMo_writeRequest_98 ⟨Nat.le_of_ble_eq_true rfl, Nat.le_of_ble_eq_true rfl⟩) hW rfl rfl (fun H locs hW => ?_)
          replace h := ob h; obtain ⟨q22, eq22, h⟩ := h
          replace h := ob h; obtain ⟨S21, eS21, h⟩ := h
          refine hq_callv (ce := 0) (sl := 0) (va_runV (As := [.int t1, .int v20]) (rest := []) ⟨hx, hb, hml, hown, hts⟩ (kMo_addWord l D tc b t0 t1 v20 S19 _ eS21) (cwV 2 hts GV_Mo_146_Mo rfl rfl rfl hd_Mo_addWord_V ⟨Nat.le_of_ble_eq_true rfl, Nat.le_of_ble_eq_true rfl⟩) (hq_preV1 hW eq22 rfl rfl) rfl rfl hl.1 rfl (lv_room (by first | exact Nat.le_of_ble_eq_true rfl | (simp only [List.map, rf_cat]; exact Nat.le_of_ble_eq_true rfl))) dMo_writeRequest_101 ⟨Nat.le_of_ble_eq_true rfl, Nat.le_of_ble_eq_true rfl⟩) hW rfl rfl (fun H locs hW => ?_)
          exact hJ104 _ (Option.some.inj h) _ _ _ (lv_sub hl [0, 1, 2, 4, 5] rfl) hW
        · replace h := if_f hc25 h
          refine lv_iload hx hb dMo_writeRequest_90 (lv_at hl 4 rfl) ?_
          refine lv_goto hx hb dMo_writeRequest_92 (tgt := 101) rfl ?_
          replace h := ob h; obtain ⟨q24, eq24, h⟩ := h
          replace h := ob h; obtain ⟨S23, eS23, h⟩ := h
          refine hq_callv (ce := 0) (sl := 0) (va_runV (As := [.int t1, .int t5]) (rest := []) ⟨hx, hb, hml, hown, hts⟩ (kMo_addWord l D tc b t0 t1 t5 S17 _ eS23) (cwV 2 hts GV_Mo_146_Mo rfl rfl rfl hd_Mo_addWord_V ⟨Nat.le_of_ble_eq_true rfl, Nat.le_of_ble_eq_true rfl⟩) (hq_preV1 hW eq24 rfl rfl) rfl rfl hl.1 rfl (lv_room (by first | exact Nat.le_of_ble_eq_true rfl | (simp only [List.map, rf_cat]; exact Nat.le_of_ble_eq_true rfl))) dMo_writeRequest_101 ⟨Nat.le_of_ble_eq_true rfl, Nat.le_of_ble_eq_true rfl⟩) hW rfl rfl (fun H locs hW => ?_)
          exact hJ104 _ (Option.some.inj h) _ _ _ (lv_sub hl [0, 1, 2, 4, 5] rfl) hW
      refine lv_if_ne hx hb dMo_writeRequest_68 (tgt := 76) rfl (fun hc27 => ?_) (fun hc27 => ?_)
      · replace h := if_f hc27 h
        exact hP76_2  _ _ _ (lv_sub hl [1, 2, 3, 4, 5, 6, 7] rfl) hW h
      · replace h := if_t hc27 h
        refine lv_iload hx hb dMo_writeRequest_71 (lv_at hl 0 rfl) ?_
        refine lv_if_eq hx hb dMo_writeRequest_73 (tgt := 104) rfl (fun hc26 => ?_) (fun hc26 => ?_)
        · replace h := if_t hc26 h
          exact hJ104 _ (Option.some.inj h) _ _ _ (lv_sub hl [1, 2, 3, 5, 6] rfl) hW
        · replace h := if_f hc26 h
          exact hP76_2  _ _ _ (lv_sub hl [1, 2, 3, 4, 5, 6, 7] rfl) hW h
    clear h; have h := e64; clear e64
    refine lv_icmp_eq hx hb dMo_writeRequest_38 (tgt := 59) rfl (fun hc14 => ?_) (fun hc14 => ?_)
    · replace h := if_t hc14 h
      refine lv_iconst hx hb dMo_writeRequest_59 (v := (1 : Int32)) rfl ?_
      refine lv_goto hx hb dMo_writeRequest_60 (tgt := 64) rfl ?_
      exact hJ64 _ (Option.some.inj h) _ _ _ (lv_sub hl [1, 2, 3, 4, 5, 6, 0] rfl) hW
    · replace h := if_f hc14 h
      refine lv_iload_n hx hb dMo_writeRequest_41 rfl (lv_at hl 3 rfl) ?_
      refine lv_bipush hx hb dMo_writeRequest_42 (v := (6 : Int32)) rfl ?_
      refine lv_icmp_eq hx hb dMo_writeRequest_44 (tgt := 59) rfl (fun hc13 => ?_) (fun hc13 => ?_)
      · replace h := if_t hc13 h
        refine lv_iconst hx hb dMo_writeRequest_59 (v := (1 : Int32)) rfl ?_
        refine lv_goto hx hb dMo_writeRequest_60 (tgt := 64) rfl ?_
        exact hJ64 _ (Option.some.inj h) _ _ _ (lv_sub hl [1, 2, 3, 4, 5, 6, 0] rfl) hW
      · replace h := if_f hc13 h
        refine lv_iload_n hx hb dMo_writeRequest_47 rfl (lv_at hl 3 rfl) ?_
        refine lv_bipush hx hb dMo_writeRequest_48 (v := (22 : Int32)) rfl ?_
        refine lv_icmp_eq hx hb dMo_writeRequest_50 (tgt := 59) rfl (fun hc12 => ?_) (fun hc12 => ?_)
        · replace h := if_t hc12 h
          refine lv_iconst hx hb dMo_writeRequest_59 (v := (1 : Int32)) rfl ?_
          refine lv_goto hx hb dMo_writeRequest_60 (tgt := 64) rfl ?_
          exact hJ64 _ (Option.some.inj h) _ _ _ (lv_sub hl [1, 2, 3, 4, 5, 6, 0] rfl) hW
        · replace h := if_f hc12 h
          refine lv_iload_n hx hb dMo_writeRequest_53 rfl (lv_at hl 3 rfl) ?_
          refine lv_bipush hx hb dMo_writeRequest_54 (v := (8 : Int32)) rfl ?_
          refine lv_icmp_ne hx hb dMo_writeRequest_56 (tgt := 63) rfl (fun hc11 => ?_) (fun hc11 => ?_)
          · replace h := if_f hc11 h
            refine lv_iconst hx hb dMo_writeRequest_63 (v := (0 : Int32)) rfl ?_
            exact hJ64 _ (Option.some.inj h) _ _ _ (lv_sub hl [1, 2, 3, 4, 5, 6, 0] rfl) hW
          · replace h := if_t hc11 h
            refine lv_iconst hx hb dMo_writeRequest_59 (v := (1 : Int32)) rfl ?_
            refine lv_goto hx hb dMo_writeRequest_60 (tgt := 64) rfl ?_
            exact hJ64 _ (Option.some.inj h) _ _ _ (lv_sub hl [1, 2, 3, 4, 5, 6, 0] rfl) hW
  clear h; have h := e34; clear e34
  have hP17_1 : ∀  (H : Heap) (locs : List Loc) (ls : Array Slot), lv_has ls 10 [(0, .ref t0), (1, .int t1), (3, .int t3), (4, .int t4), (5, .int t5), (6, .long t6)] → Wd D vwCl (hTy tc) b S1 s H locs → fMo_writeRequest_J17_1 t3 = some q4 → W p l e { frames := 4, cells := 0, slots := 0, locals := 160 } s m args below meth c H locs 0 0 (MQ below (va_Qv (fun _ : Unit => True) (fun _ => Wp D vwCl (hTy tc) b Sz) (fun q => b ≤ q)) args s 0 0 (fun q => b ≤ q)) (F0 m 17 ls []) := by
    intro  H locs ls hl hW h
    unfold fMo_writeRequest_J17_1 at h
    refine lv_iload_n hx hb dMo_writeRequest_17 rfl (lv_at hl 2 rfl) ?_
    refine lv_bipush hx hb dMo_writeRequest_18 (v := (15 : Int32)) rfl ?_
    refine lv_icmp_eq hx hb dMo_writeRequest_20 (tgt := 29) rfl (fun hc6 => ?_) (fun hc6 => ?_)
    · replace h := if_t hc6 h
      refine lv_iconst hx hb dMo_writeRequest_29 (v := (1 : Int32)) rfl ?_
      refine lv_goto hx hb dMo_writeRequest_30 (tgt := 34) rfl ?_
      exact hJ34 _ (Option.some.inj h) _ _ _ (lv_sub hl [0, 1, 2, 3, 4, 5] rfl) hW
    · replace h := if_f hc6 h
      refine lv_iload_n hx hb dMo_writeRequest_23 rfl (lv_at hl 2 rfl) ?_
      refine lv_bipush hx hb dMo_writeRequest_24 (v := (16 : Int32)) rfl ?_
      refine lv_icmp_ne hx hb dMo_writeRequest_26 (tgt := 33) rfl (fun hc5 => ?_) (fun hc5 => ?_)
      · replace h := if_f hc5 h
        refine lv_iconst hx hb dMo_writeRequest_33 (v := (0 : Int32)) rfl ?_
        exact hJ34 _ (Option.some.inj h) _ _ _ (lv_sub hl [0, 1, 2, 3, 4, 5] rfl) hW
      · replace h := if_t hc5 h
        refine lv_iconst hx hb dMo_writeRequest_29 (v := (1 : Int32)) rfl ?_
        refine lv_goto hx hb dMo_writeRequest_30 (tgt := 34) rfl ?_
        exact hJ34 _ (Option.some.inj h) _ _ _ (lv_sub hl [0, 1, 2, 3, 4, 5] rfl) hW
  refine lv_icmp_lt hx hb dMo_writeRequest_9 (tgt := 17) rfl (fun hc8 => ?_) (fun hc8 => ?_)
  · replace h := if_t hc8 h
    exact hP17_1  _ _ _ (lv_sub hl [0, 1, 3, 4, 5, 6] rfl) hW h
  · replace h := if_f hc8 h
    refine lv_iload_n hx hb dMo_writeRequest_12 rfl (lv_at hl 3 rfl) ?_
    refine lv_iconst hx hb dMo_writeRequest_13 (v := (4 : Int32)) rfl ?_
    refine lv_icmp_le hx hb dMo_writeRequest_14 (tgt := 29) rfl (fun hc7 => ?_) (fun hc7 => ?_)
    · replace h := if_t hc7 h
      refine lv_iconst hx hb dMo_writeRequest_29 (v := (1 : Int32)) rfl ?_
      refine lv_goto hx hb dMo_writeRequest_30 (tgt := 34) rfl ?_
      exact hJ34 _ (Option.some.inj h) _ _ _ (lv_sub hl [0, 1, 3, 4, 5, 6] rfl) hW
    · replace h := if_f hc7 h
      exact hP17_1  _ _ _ (lv_sub hl [0, 1, 3, 4, 5, 6] rfl) hW h
def fMo_writeAnswer_J53_1 (t0 : Nat) (t1 : Int32) (t2 : Int32) (t3 : Int32) (t5 : Int32)  (S2 : Ws) : Option (Ws) :=
  (gO S2 t0 [8]).bind fun q4 => (fMo_begin t0 (t1 + (2 : Int32)) t2 t3 S2).bind fun S3 => (gL S3 t0 [8] 40).bind fun u5 => (gO S3 t0 [8]).bind fun q7 => (fMo_addBits t0 (t1 + (2 : Int32)) u5 t5 S3).bind fun S6 => (gO S6 t0 [8]).bind fun q9 => (fMo_addSum t0 (t1 + (2 : Int32)) S6).bind fun S8 => some S8
def fMo_writeAnswer_J92_2 (t0 : Nat) (t1 : Int32) (t2 : Int32) (t3 : Int32) (t5 : Int32)  (S10 : Ws) : Option (Ws) :=
  (gO S10 t0 [8]).bind fun q12 => (fMo_begin t0 (t1 + (2 : Int32)) t2 t3 S10).bind fun S11 => (gL S11 t0 [8] 40).bind fun u13 => (gO S11 t0 [8]).bind fun q15 => (fMo_addWords t0 (t1 + (2 : Int32)) u13 t5 S11).bind fun S14 => (gO S14 t0 [8]).bind fun q17 => (fMo_addSum t0 (t1 + (2 : Int32)) S14).bind fun S16 => some S16
def fMo_writeAnswer_J133_3 (t0 : Nat) (t1 : Int32) (t2 : Int32) (t3 : Int32) (t4 : Int32) (t5 : Int32)  (S18 : Ws) : Option (Ws) :=
  (gO S18 t0 [8]).bind fun q20 => (fMo_begin t0 (t1 + (2 : Int32)) t2 t3 S18).bind fun S19 => (gO S19 t0 [8]).bind fun q22 => (fMo_addWord t0 (t1 + (2 : Int32)) t4 S19).bind fun S21 => (gO S21 t0 [8]).bind fun q24 => (fMo_addWord t0 (t1 + (2 : Int32)) t5 S21).bind fun S23 => (gO S23 t0 [8]).bind fun q26 => (fMo_addSum t0 (t1 + (2 : Int32)) S23).bind fun S25 => some S25
def fMo_writeAnswer (t0 : Nat) (t1 : Int32) (t2 : Int32) (t3 : Int32) (t4 : Int32) (t5 : Int32) (t6 : Int64) (S : Ws) : Option (Ws) :=
  (gI S t0 [8] 39).bind fun v1 => if v1 ≤ 0 then if t3 = (1 : Int32) then fMo_writeAnswer_J53_1 t0 t1 t2 t3 t5 S else if t3 = (2 : Int32) then fMo_writeAnswer_J53_1 t0 t1 t2 t3 t5 S else if t3 = (3 : Int32) then fMo_writeAnswer_J92_2 t0 t1 t2 t3 t5 S else if t3 = (4 : Int32) then fMo_writeAnswer_J92_2 t0 t1 t2 t3 t5 S else if t3 = (15 : Int32) then fMo_writeAnswer_J133_3 t0 t1 t2 t3 t4 t5 S else if t3 = (16 : Int32) then fMo_writeAnswer_J133_3 t0 t1 t2 t3 t4 t5 S else (gO S t0 [8]).bind fun q28 => (fMo_writeRequest t0 (t1 + (2 : Int32)) t2 t3 t4 t5 t6 S).bind fun S27 => some S27 else (gO S t0 [8]).bind fun q36 => (fMo_begin t0 (t1 + (2 : Int32)) t2 (t3 + (128 : Int32)) S).bind fun S35 => (gI S35 t0 [8] 39).bind fun v37 => (gO S35 t0 [8]).bind fun q39 => (fMo_add t0 (t1 + (2 : Int32)) v37 S35).bind fun S38 => (gO S38 t0 [8]).bind fun q41 => (fMo_addSum t0 (t1 + (2 : Int32)) S38).bind fun S40 => some S40
set_option maxRecDepth 100000 in
set_option maxHeartbeats 4000000 in
theorem kMo_writeAnswer (l : Launch) (D : va_G) (tc : Nat → ClassId) (b : Nat) (t0 : Nat) (t1 : Int32) (t2 : Int32) (t3 : Int32) (t4 : Int32) (t5 : Int32) (t6 : Int64) (S Sz : Ws) (h : fMo_writeAnswer t0 t1 t2 t3 t4 t5 t6 S = some Sz) : Met l yMo_writeAnswer wsMo_writeAnswer { frames := 5, cells := 0, slots := 0, locals := 200 } (va_Pc [.ref t0, .int t1, .int t2, .int t3, .int t4, .int t5, .long t6] (Wp D vwCl (hTy tc) b S)) (va_Qv (fun _ : Unit => True) (fun _ => Wp D vwCl (hTy tc) b Sz) (fun q => b ≤ q)) 0 0 (fun q => b ≤ q) := by
  refine hq_ofW (cc := cMo_writeAnswer) (maxL := 9) (ret := none) (by decide) rfl (Nat.le_of_ble_eq_true rfl) fun p e s m args below meth c hx hb hr hts hown hlocks hnm hml H locs ls hl hW => ?_
  have hts : ∀ w ∈ lwG, w.before args s = true := fun w h => hts w (List.mem_cons_of_mem _ h)
  have hown : s.vm.findClass "SerialPlantModel" = some m.cls := hown
  have hl : lv_has ls 9 [(0, .ref t0), (1, .int t1), (2, .int t2), (3, .int t3), (4, .int t4), (5, .int t5), (6, .long t6)] := hl
  unfold fMo_writeAnswer at h
  refine lv_iload_n hx hb dMo_writeAnswer_0 rfl (lv_at hl 1 rfl) ?_
  refine lv_iconst hx hb dMo_writeAnswer_1 (v := (2 : Int32)) rfl ?_
  refine lv_iadd hx hb dMo_writeAnswer_2 ?_
  refine lv_istore (lv' := [(8, .int (t1 + (2 : Int32))), (0, .ref t0), (1, .int t1), (2, .int t2), (3, .int t3), (4, .int t4), (5, .int t5), (6, .long t6)]) hx hb dMo_writeAnswer_3 hl (Nat.le_of_ble_eq_true rfl) (by first | rfl | (simp [List.filter, rf_cat] <;> rfl)) (fun ls hl => ?_)
  refine lv_aload_n hx hb dMo_writeAnswer_5 rfl (lv_at hl 1 rfl) ?_
  replace h := ob h; obtain ⟨v1, ev1, h⟩ := h
  refine hq_get hx hb hts hown hW (gI_V ev1) (F_Mo_164 hts) dMo_writeAnswer_6 ?_
  refine lv_if_le hx hb dMo_writeAnswer_9 (tgt := 43) rfl (fun hc42 => ?_) (fun hc42 => ?_)
  · replace h := if_t hc42 h
    refine lv_iload_n hx hb dMo_writeAnswer_43 rfl (lv_at hl 4 rfl) ?_
    refine lv_iconst hx hb dMo_writeAnswer_44 (v := (1 : Int32)) rfl ?_
    have hP53_1 : ∀  (S2 : Ws) (H : Heap) (locs : List Loc) (ls : Array Slot), lv_has ls 9 [(0, .ref t0), (2, .int t2), (3, .int t3), (5, .int t5), (8, .int (t1 + (2 : Int32)))] → Wd D vwCl (hTy tc) b S2 s H locs → fMo_writeAnswer_J53_1 t0 t1 t2 t3 t5 S2 = some Sz → W p l e { frames := 5, cells := 0, slots := 0, locals := 200 } s m args below meth c H locs 0 0 (MQ below (va_Qv (fun _ : Unit => True) (fun _ => Wp D vwCl (hTy tc) b Sz) (fun q => b ≤ q)) args s 0 0 (fun q => b ≤ q)) (F0 m 53 ls []) := by
      intro S2 H locs ls hl hW h
      unfold fMo_writeAnswer_J53_1 at h
      refine lv_aload_n hx hb dMo_writeAnswer_53 rfl (lv_at hl 0 rfl) ?_
      refine lv_iload hx hb dMo_writeAnswer_54 (lv_at hl 4 rfl) ?_
      refine lv_iload_n hx hb dMo_writeAnswer_56 rfl (lv_at hl 1 rfl) ?_
      refine lv_iload_n hx hb dMo_writeAnswer_57 rfl (lv_at hl 2 rfl) ?_
      replace h := ob h; obtain ⟨q4, eq4, h⟩ := h
      replace h := ob h; obtain ⟨S3, eS3, h⟩ := h
      refine hq_callv (ce := 0) (sl := 0) (va_runV (As := [.int (t1 + (2 : Int32)), .int t2, .int t3]) (rest := []) ⟨hx, hb, hml, hown, hts⟩ (kMo_begin l D tc b t0 (t1 + (2 : Int32)) t2 t3 S2 _ eS3) (cwV 3 hts GV_Mo_149_Mo rfl rfl rfl hd_Mo_begin_V ⟨Nat.le_of_ble_eq_true rfl, Nat.le_of_ble_eq_true rfl⟩) (hq_preV1 hW eq4 rfl rfl) rfl rfl hl.1 rfl (lv_room (by first | exact Nat.le_of_ble_eq_true rfl | (simp only [List.map, rf_cat]; exact Nat.le_of_ble_eq_true rfl))) dMo_writeAnswer_58 ⟨Nat.le_of_ble_eq_true rfl, Nat.le_of_ble_eq_true rfl⟩) hW rfl rfl (fun H locs hW => ?_)
      refine lv_aload_n hx hb dMo_writeAnswer_61 rfl (lv_at hl 0 rfl) ?_
      refine lv_iload hx hb dMo_writeAnswer_62 (lv_at hl 4 rfl) ?_
      refine lv_aload_n hx hb dMo_writeAnswer_64 rfl (lv_at hl 0 rfl) ?_
      replace h := ob h; obtain ⟨u5, eu5, h⟩ := h
      refine hq_get hx hb hts hown hW (gL_V eu5) (F_Mo_167 hts) dMo_writeAnswer_65 ?_
      refine lv_iload hx hb dMo_writeAnswer_68 (lv_at hl 3 rfl) ?_
      replace h := ob h; obtain ⟨q7, eq7, h⟩ := h
      replace h := ob h; obtain ⟨S6, eS6, h⟩ := h
      refine hq_callv (ce := 0) (sl := 0) (va_runV (As := [.int (t1 + (2 : Int32)), .long u5, .int t5]) (rest := []) ⟨hx, hb, hml, hown, hts⟩ (kMo_addBits l D tc b t0 (t1 + (2 : Int32)) u5 t5 S3 _ eS6) (cwV 3 hts GV_Mo_153_Mo rfl rfl rfl hd_Mo_addBits_V ⟨Nat.le_of_ble_eq_true rfl, Nat.le_of_ble_eq_true rfl⟩) (hq_preV1 hW eq7 rfl rfl) rfl rfl hl.1 rfl (lv_room (by first | exact Nat.le_of_ble_eq_true rfl | (simp only [List.map, rf_cat]; exact Nat.le_of_ble_eq_true rfl))) dMo_writeAnswer_70 ⟨Nat.le_of_ble_eq_true rfl, Nat.le_of_ble_eq_true rfl⟩) hW rfl rfl (fun H locs hW => ?_)
      refine lv_aload_n hx hb dMo_writeAnswer_73 rfl (lv_at hl 0 rfl) ?_
      refine lv_iload hx hb dMo_writeAnswer_74 (lv_at hl 4 rfl) ?_
      replace h := ob h; obtain ⟨q9, eq9, h⟩ := h
      replace h := ob h; obtain ⟨S8, eS8, h⟩ := h
      refine hq_callv (ce := 0) (sl := 0) (va_runV (As := [.int (t1 + (2 : Int32))]) (rest := []) ⟨hx, hb, hml, hown, hts⟩ (kMo_addSum l D tc b t0 (t1 + (2 : Int32)) S6 _ eS8) (cwV 1 hts GV_Mo_160_Mo rfl rfl rfl hd_Mo_addSum_V ⟨Nat.le_of_ble_eq_true rfl, Nat.le_of_ble_eq_true rfl⟩) (hq_preV1 hW eq9 rfl rfl) rfl rfl hl.1 rfl (lv_room (by first | exact Nat.le_of_ble_eq_true rfl | (simp only [List.map, rf_cat]; exact Nat.le_of_ble_eq_true rfl))) dMo_writeAnswer_76 ⟨Nat.le_of_ble_eq_true rfl, Nat.le_of_ble_eq_true rfl⟩) hW rfl rfl (fun H locs hW => ?_)
      refine lv_goto hx hb dMo_writeAnswer_79 (tgt := 180) rfl ?_
      exact hq_vret hx hb hr hlocks h (Nat.le_of_ble_eq_true rfl) (Nat.le_of_ble_eq_true rfl) hW dMo_writeAnswer_180
    refine lv_icmp_eq hx hb dMo_writeAnswer_45 (tgt := 53) rfl (fun hc34 => ?_) (fun hc34 => ?_)
    · replace h := if_t hc34 h
      exact hP53_1 _ _ _ _ (lv_sub hl [1, 3, 4, 6, 0] rfl) hW h
    · replace h := if_f hc34 h
      refine lv_iload_n hx hb dMo_writeAnswer_48 rfl (lv_at hl 4 rfl) ?_
      refine lv_iconst hx hb dMo_writeAnswer_49 (v := (2 : Int32)) rfl ?_
      refine lv_icmp_ne hx hb dMo_writeAnswer_50 (tgt := 82) rfl (fun hc33 => ?_) (fun hc33 => ?_)
      · replace h := if_f hc33 h
        refine lv_iload_n hx hb dMo_writeAnswer_82 rfl (lv_at hl 4 rfl) ?_
        refine lv_iconst hx hb dMo_writeAnswer_83 (v := (3 : Int32)) rfl ?_
        have hP92_2 : ∀  (S10 : Ws) (H : Heap) (locs : List Loc) (ls : Array Slot), lv_has ls 9 [(0, .ref t0), (2, .int t2), (3, .int t3), (5, .int t5), (8, .int (t1 + (2 : Int32)))] → Wd D vwCl (hTy tc) b S10 s H locs → fMo_writeAnswer_J92_2 t0 t1 t2 t3 t5 S10 = some Sz → W p l e { frames := 5, cells := 0, slots := 0, locals := 200 } s m args below meth c H locs 0 0 (MQ below (va_Qv (fun _ : Unit => True) (fun _ => Wp D vwCl (hTy tc) b Sz) (fun q => b ≤ q)) args s 0 0 (fun q => b ≤ q)) (F0 m 92 ls []) := by
          intro S10 H locs ls hl hW h
          unfold fMo_writeAnswer_J92_2 at h
          refine lv_aload_n hx hb dMo_writeAnswer_92 rfl (lv_at hl 0 rfl) ?_
          refine lv_iload hx hb dMo_writeAnswer_93 (lv_at hl 4 rfl) ?_
          refine lv_iload_n hx hb dMo_writeAnswer_95 rfl (lv_at hl 1 rfl) ?_
          refine lv_iload_n hx hb dMo_writeAnswer_96 rfl (lv_at hl 2 rfl) ?_
          replace h := ob h; obtain ⟨q12, eq12, h⟩ := h
          replace h := ob h; obtain ⟨S11, eS11, h⟩ := h
          refine hq_callv (ce := 0) (sl := 0) (va_runV (As := [.int (t1 + (2 : Int32)), .int t2, .int t3]) (rest := []) ⟨hx, hb, hml, hown, hts⟩ (kMo_begin l D tc b t0 (t1 + (2 : Int32)) t2 t3 S10 _ eS11) (cwV 3 hts GV_Mo_149_Mo rfl rfl rfl hd_Mo_begin_V ⟨Nat.le_of_ble_eq_true rfl, Nat.le_of_ble_eq_true rfl⟩) (hq_preV1 hW eq12 rfl rfl) rfl rfl hl.1 rfl (lv_room (by first | exact Nat.le_of_ble_eq_true rfl | (simp only [List.map, rf_cat]; exact Nat.le_of_ble_eq_true rfl))) dMo_writeAnswer_97 ⟨Nat.le_of_ble_eq_true rfl, Nat.le_of_ble_eq_true rfl⟩) hW rfl rfl (fun H locs hW => ?_)
          refine lv_aload_n hx hb dMo_writeAnswer_100 rfl (lv_at hl 0 rfl) ?_
          refine lv_iload hx hb dMo_writeAnswer_101 (lv_at hl 4 rfl) ?_
          refine lv_aload_n hx hb dMo_writeAnswer_103 rfl (lv_at hl 0 rfl) ?_
          replace h := ob h; obtain ⟨u13, eu13, h⟩ := h
          refine hq_get hx hb hts hown hW (gL_V eu13) (F_Mo_167 hts) dMo_writeAnswer_104 ?_
          refine lv_iload hx hb dMo_writeAnswer_107 (lv_at hl 3 rfl) ?_
          replace h := ob h; obtain ⟨q15, eq15, h⟩ := h
          replace h := ob h; obtain ⟨S14, eS14, h⟩ := h
          refine hq_callv (ce := 0) (sl := 0) (va_runV (As := [.int (t1 + (2 : Int32)), .long u13, .int t5]) (rest := []) ⟨hx, hb, hml, hown, hts⟩ (kMo_addWords l D tc b t0 (t1 + (2 : Int32)) u13 t5 S11 _ eS14) (cwV 3 hts GV_Mo_157_Mo rfl rfl rfl hd_Mo_addWords_V ⟨Nat.le_of_ble_eq_true rfl, Nat.le_of_ble_eq_true rfl⟩) (hq_preV1 hW eq15 rfl rfl) rfl rfl hl.1 rfl (lv_room (by first | exact Nat.le_of_ble_eq_true rfl | (simp only [List.map, rf_cat]; exact Nat.le_of_ble_eq_true rfl))) dMo_writeAnswer_109 ⟨Nat.le_of_ble_eq_true rfl, Nat.le_of_ble_eq_true rfl⟩) hW rfl rfl (fun H locs hW => ?_)
          refine lv_aload_n hx hb dMo_writeAnswer_112 rfl (lv_at hl 0 rfl) ?_
          refine lv_iload hx hb dMo_writeAnswer_113 (lv_at hl 4 rfl) ?_
          replace h := ob h; obtain ⟨q17, eq17, h⟩ := h
          replace h := ob h; obtain ⟨S16, eS16, h⟩ := h
          refine hq_callv (ce := 0) (sl := 0) (va_runV (As := [.int (t1 + (2 : Int32))]) (rest := []) ⟨hx, hb, hml, hown, hts⟩ (kMo_addSum l D tc b t0 (t1 + (2 : Int32)) S14 _ eS16) (cwV 1 hts GV_Mo_160_Mo rfl rfl rfl hd_Mo_addSum_V ⟨Nat.le_of_ble_eq_true rfl, Nat.le_of_ble_eq_true rfl⟩) (hq_preV1 hW eq17 rfl rfl) rfl rfl hl.1 rfl (lv_room (by first | exact Nat.le_of_ble_eq_true rfl | (simp only [List.map, rf_cat]; exact Nat.le_of_ble_eq_true rfl))) dMo_writeAnswer_115 ⟨Nat.le_of_ble_eq_true rfl, Nat.le_of_ble_eq_true rfl⟩) hW rfl rfl (fun H locs hW => ?_)
          refine lv_goto hx hb dMo_writeAnswer_118 (tgt := 180) rfl ?_
          exact hq_vret hx hb hr hlocks h (Nat.le_of_ble_eq_true rfl) (Nat.le_of_ble_eq_true rfl) hW dMo_writeAnswer_180
        refine lv_icmp_eq hx hb dMo_writeAnswer_84 (tgt := 92) rfl (fun hc32 => ?_) (fun hc32 => ?_)
        · replace h := if_t hc32 h
          exact hP92_2 _ _ _ _ (lv_sub hl [1, 3, 4, 6, 0] rfl) hW h
        · replace h := if_f hc32 h
          refine lv_iload_n hx hb dMo_writeAnswer_87 rfl (lv_at hl 4 rfl) ?_
          refine lv_iconst hx hb dMo_writeAnswer_88 (v := (4 : Int32)) rfl ?_
          refine lv_icmp_ne hx hb dMo_writeAnswer_89 (tgt := 121) rfl (fun hc31 => ?_) (fun hc31 => ?_)
          · replace h := if_f hc31 h
            refine lv_iload_n hx hb dMo_writeAnswer_121 rfl (lv_at hl 4 rfl) ?_
            refine lv_bipush hx hb dMo_writeAnswer_122 (v := (15 : Int32)) rfl ?_
            have hP133_3 : ∀  (S18 : Ws) (H : Heap) (locs : List Loc) (ls : Array Slot), lv_has ls 9 [(0, .ref t0), (2, .int t2), (3, .int t3), (4, .int t4), (5, .int t5), (8, .int (t1 + (2 : Int32)))] → Wd D vwCl (hTy tc) b S18 s H locs → fMo_writeAnswer_J133_3 t0 t1 t2 t3 t4 t5 S18 = some Sz → W p l e { frames := 5, cells := 0, slots := 0, locals := 200 } s m args below meth c H locs 0 0 (MQ below (va_Qv (fun _ : Unit => True) (fun _ => Wp D vwCl (hTy tc) b Sz) (fun q => b ≤ q)) args s 0 0 (fun q => b ≤ q)) (F0 m 133 ls []) := by
              intro S18 H locs ls hl hW h
              unfold fMo_writeAnswer_J133_3 at h
              refine lv_aload_n hx hb dMo_writeAnswer_133 rfl (lv_at hl 0 rfl) ?_
              refine lv_iload hx hb dMo_writeAnswer_134 (lv_at hl 5 rfl) ?_
              refine lv_iload_n hx hb dMo_writeAnswer_136 rfl (lv_at hl 1 rfl) ?_
              refine lv_iload_n hx hb dMo_writeAnswer_137 rfl (lv_at hl 2 rfl) ?_
              replace h := ob h; obtain ⟨q20, eq20, h⟩ := h
              replace h := ob h; obtain ⟨S19, eS19, h⟩ := h
              refine hq_callv (ce := 0) (sl := 0) (va_runV (As := [.int (t1 + (2 : Int32)), .int t2, .int t3]) (rest := []) ⟨hx, hb, hml, hown, hts⟩ (kMo_begin l D tc b t0 (t1 + (2 : Int32)) t2 t3 S18 _ eS19) (cwV 3 hts GV_Mo_149_Mo rfl rfl rfl hd_Mo_begin_V ⟨Nat.le_of_ble_eq_true rfl, Nat.le_of_ble_eq_true rfl⟩) (hq_preV1 hW eq20 rfl rfl) rfl rfl hl.1 rfl (lv_room (by first | exact Nat.le_of_ble_eq_true rfl | (simp only [List.map, rf_cat]; exact Nat.le_of_ble_eq_true rfl))) dMo_writeAnswer_138 ⟨Nat.le_of_ble_eq_true rfl, Nat.le_of_ble_eq_true rfl⟩) hW rfl rfl (fun H locs hW => ?_)
              refine lv_aload_n hx hb dMo_writeAnswer_141 rfl (lv_at hl 0 rfl) ?_
              refine lv_iload hx hb dMo_writeAnswer_142 (lv_at hl 5 rfl) ?_
              refine lv_iload hx hb dMo_writeAnswer_144 (lv_at hl 3 rfl) ?_
              replace h := ob h; obtain ⟨q22, eq22, h⟩ := h
              replace h := ob h; obtain ⟨S21, eS21, h⟩ := h
              refine hq_callv (ce := 0) (sl := 0) (va_runV (As := [.int (t1 + (2 : Int32)), .int t4]) (rest := []) ⟨hx, hb, hml, hown, hts⟩ (kMo_addWord l D tc b t0 (t1 + (2 : Int32)) t4 S19 _ eS21) (cwV 2 hts GV_Mo_146_Mo rfl rfl rfl hd_Mo_addWord_V ⟨Nat.le_of_ble_eq_true rfl, Nat.le_of_ble_eq_true rfl⟩) (hq_preV1 hW eq22 rfl rfl) rfl rfl hl.1 rfl (lv_room (by first | exact Nat.le_of_ble_eq_true rfl | (simp only [List.map, rf_cat]; exact Nat.le_of_ble_eq_true rfl))) dMo_writeAnswer_146 ⟨Nat.le_of_ble_eq_true rfl, Nat.le_of_ble_eq_true rfl⟩) hW rfl rfl (fun H locs hW => ?_)
              refine lv_aload_n hx hb dMo_writeAnswer_149 rfl (lv_at hl 0 rfl) ?_
              refine lv_iload hx hb dMo_writeAnswer_150 (lv_at hl 5 rfl) ?_
              refine lv_iload hx hb dMo_writeAnswer_152 (lv_at hl 4 rfl) ?_
              replace h := ob h; obtain ⟨q24, eq24, h⟩ := h
              replace h := ob h; obtain ⟨S23, eS23, h⟩ := h
              refine hq_callv (ce := 0) (sl := 0) (va_runV (As := [.int (t1 + (2 : Int32)), .int t5]) (rest := []) ⟨hx, hb, hml, hown, hts⟩ (kMo_addWord l D tc b t0 (t1 + (2 : Int32)) t5 S21 _ eS23) (cwV 2 hts GV_Mo_146_Mo rfl rfl rfl hd_Mo_addWord_V ⟨Nat.le_of_ble_eq_true rfl, Nat.le_of_ble_eq_true rfl⟩) (hq_preV1 hW eq24 rfl rfl) rfl rfl hl.1 rfl (lv_room (by first | exact Nat.le_of_ble_eq_true rfl | (simp only [List.map, rf_cat]; exact Nat.le_of_ble_eq_true rfl))) dMo_writeAnswer_154 ⟨Nat.le_of_ble_eq_true rfl, Nat.le_of_ble_eq_true rfl⟩) hW rfl rfl (fun H locs hW => ?_)
              refine lv_aload_n hx hb dMo_writeAnswer_157 rfl (lv_at hl 0 rfl) ?_
              refine lv_iload hx hb dMo_writeAnswer_158 (lv_at hl 5 rfl) ?_
              replace h := ob h; obtain ⟨q26, eq26, h⟩ := h
              replace h := ob h; obtain ⟨S25, eS25, h⟩ := h
              refine hq_callv (ce := 0) (sl := 0) (va_runV (As := [.int (t1 + (2 : Int32))]) (rest := []) ⟨hx, hb, hml, hown, hts⟩ (kMo_addSum l D tc b t0 (t1 + (2 : Int32)) S23 _ eS25) (cwV 1 hts GV_Mo_160_Mo rfl rfl rfl hd_Mo_addSum_V ⟨Nat.le_of_ble_eq_true rfl, Nat.le_of_ble_eq_true rfl⟩) (hq_preV1 hW eq26 rfl rfl) rfl rfl hl.1 rfl (lv_room (by first | exact Nat.le_of_ble_eq_true rfl | (simp only [List.map, rf_cat]; exact Nat.le_of_ble_eq_true rfl))) dMo_writeAnswer_160 ⟨Nat.le_of_ble_eq_true rfl, Nat.le_of_ble_eq_true rfl⟩) hW rfl rfl (fun H locs hW => ?_)
              refine lv_goto hx hb dMo_writeAnswer_163 (tgt := 180) rfl ?_
              exact hq_vret hx hb hr hlocks h (Nat.le_of_ble_eq_true rfl) (Nat.le_of_ble_eq_true rfl) hW dMo_writeAnswer_180
            refine lv_icmp_eq hx hb dMo_writeAnswer_124 (tgt := 133) rfl (fun hc30 => ?_) (fun hc30 => ?_)
            · replace h := if_t hc30 h
              exact hP133_3 _ _ _ _ (lv_sub hl [1, 3, 4, 5, 6, 0] rfl) hW h
            · replace h := if_f hc30 h
              refine lv_iload_n hx hb dMo_writeAnswer_127 rfl (lv_at hl 4 rfl) ?_
              refine lv_bipush hx hb dMo_writeAnswer_128 (v := (16 : Int32)) rfl ?_
              refine lv_icmp_ne hx hb dMo_writeAnswer_130 (tgt := 166) rfl (fun hc29 => ?_) (fun hc29 => ?_)
              · replace h := if_f hc29 h
                refine lv_aload_n hx hb dMo_writeAnswer_166 rfl (lv_at hl 1 rfl) ?_
                refine lv_iload hx hb dMo_writeAnswer_167 (lv_at hl 0 rfl) ?_
                refine lv_iload_n hx hb dMo_writeAnswer_169 rfl (lv_at hl 3 rfl) ?_
                refine lv_iload_n hx hb dMo_writeAnswer_170 rfl (lv_at hl 4 rfl) ?_
                refine lv_iload hx hb dMo_writeAnswer_171 (lv_at hl 5 rfl) ?_
                refine lv_iload hx hb dMo_writeAnswer_173 (lv_at hl 6 rfl) ?_
                refine lv_lload hx hb dMo_writeAnswer_175 (lv_at hl 7 rfl) ?_
                replace h := ob h; obtain ⟨q28, eq28, h⟩ := h
                replace h := ob h; obtain ⟨S27, eS27, h⟩ := h
                refine hq_callv (ce := 0) (sl := 0) (va_runV (As := [.int (t1 + (2 : Int32)), .int t2, .int t3, .int t4, .int t5, .long t6]) (rest := []) ⟨hx, hb, hml, hown, hts⟩ (kMo_writeRequest l D tc b t0 (t1 + (2 : Int32)) t2 t3 t4 t5 t6 S _ eS27) (cwV 6 hts GV_Mo_171_Mo rfl rfl rfl hd_Mo_writeRequest_V ⟨Nat.le_of_ble_eq_true rfl, Nat.le_of_ble_eq_true rfl⟩) (hq_preV1 hW eq28 rfl rfl) rfl rfl hl.1 rfl (lv_room (by first | exact Nat.le_of_ble_eq_true rfl | (simp only [List.map, rf_cat]; exact Nat.le_of_ble_eq_true rfl))) dMo_writeAnswer_177 ⟨Nat.le_of_ble_eq_true rfl, Nat.le_of_ble_eq_true rfl⟩) hW rfl rfl (fun H locs hW => ?_)
                exact hq_vret hx hb hr hlocks h (Nat.le_of_ble_eq_true rfl) (Nat.le_of_ble_eq_true rfl) hW dMo_writeAnswer_180
              · replace h := if_t hc29 h
                exact hP133_3 _ _ _ _ (lv_sub hl [1, 3, 4, 5, 6, 0] rfl) hW h
          · replace h := if_t hc31 h
            exact hP92_2 _ _ _ _ (lv_sub hl [1, 3, 4, 6, 0] rfl) hW h
      · replace h := if_t hc33 h
        exact hP53_1 _ _ _ _ (lv_sub hl [1, 3, 4, 6, 0] rfl) hW h
  · replace h := if_f hc42 h
    refine lv_aload_n hx hb dMo_writeAnswer_12 rfl (lv_at hl 1 rfl) ?_
    refine lv_iload hx hb dMo_writeAnswer_13 (lv_at hl 0 rfl) ?_
    refine lv_iload_n hx hb dMo_writeAnswer_15 rfl (lv_at hl 3 rfl) ?_
    refine lv_iload_n hx hb dMo_writeAnswer_16 rfl (lv_at hl 4 rfl) ?_
    refine lv_sipush hx hb dMo_writeAnswer_17 (v := (128 : Int32)) rfl ?_
    refine lv_iadd hx hb dMo_writeAnswer_20 ?_
    replace h := ob h; obtain ⟨q36, eq36, h⟩ := h
    replace h := ob h; obtain ⟨S35, eS35, h⟩ := h
    refine hq_callv (ce := 0) (sl := 0) (va_runV (As := [.int (t1 + (2 : Int32)), .int t2, .int (t3 + (128 : Int32))]) (rest := []) ⟨hx, hb, hml, hown, hts⟩ (kMo_begin l D tc b t0 (t1 + (2 : Int32)) t2 (t3 + (128 : Int32)) S _ eS35) (cwV 3 hts GV_Mo_149_Mo rfl rfl rfl hd_Mo_begin_V ⟨Nat.le_of_ble_eq_true rfl, Nat.le_of_ble_eq_true rfl⟩) (hq_preV1 hW eq36 rfl rfl) rfl rfl hl.1 rfl (lv_room (by first | exact Nat.le_of_ble_eq_true rfl | (simp only [List.map, rf_cat]; exact Nat.le_of_ble_eq_true rfl))) dMo_writeAnswer_21 ⟨Nat.le_of_ble_eq_true rfl, Nat.le_of_ble_eq_true rfl⟩) hW rfl rfl (fun H locs hW => ?_)
    refine lv_aload_n hx hb dMo_writeAnswer_24 rfl (lv_at hl 1 rfl) ?_
    refine lv_iload hx hb dMo_writeAnswer_25 (lv_at hl 0 rfl) ?_
    refine lv_aload_n hx hb dMo_writeAnswer_27 rfl (lv_at hl 1 rfl) ?_
    replace h := ob h; obtain ⟨v37, ev37, h⟩ := h
    refine hq_get hx hb hts hown hW (gI_V ev37) (F_Mo_164 hts) dMo_writeAnswer_28 ?_
    replace h := ob h; obtain ⟨q39, eq39, h⟩ := h
    replace h := ob h; obtain ⟨S38, eS38, h⟩ := h
    refine hq_callv (ce := 0) (sl := 0) (va_runV (As := [.int (t1 + (2 : Int32)), .int v37]) (rest := []) ⟨hx, hb, hml, hown, hts⟩ (kMo_add l D tc b t0 (t1 + (2 : Int32)) v37 S35 _ eS38) (cwV 2 hts GV_Mo_136_Mo rfl rfl rfl hd_Mo_add_V ⟨Nat.le_of_ble_eq_true rfl, Nat.le_of_ble_eq_true rfl⟩) (hq_preV1 hW eq39 rfl rfl) rfl rfl hl.1 rfl (lv_room (by first | exact Nat.le_of_ble_eq_true rfl | (simp only [List.map, rf_cat]; exact Nat.le_of_ble_eq_true rfl))) dMo_writeAnswer_31 ⟨Nat.le_of_ble_eq_true rfl, Nat.le_of_ble_eq_true rfl⟩) hW rfl rfl (fun H locs hW => ?_)
    refine lv_aload_n hx hb dMo_writeAnswer_34 rfl (lv_at hl 1 rfl) ?_
    refine lv_iload hx hb dMo_writeAnswer_35 (lv_at hl 0 rfl) ?_
    replace h := ob h; obtain ⟨q41, eq41, h⟩ := h
    replace h := ob h; obtain ⟨S40, eS40, h⟩ := h
    refine hq_callv (ce := 0) (sl := 0) (va_runV (As := [.int (t1 + (2 : Int32))]) (rest := []) ⟨hx, hb, hml, hown, hts⟩ (kMo_addSum l D tc b t0 (t1 + (2 : Int32)) S38 _ eS40) (cwV 1 hts GV_Mo_160_Mo rfl rfl rfl hd_Mo_addSum_V ⟨Nat.le_of_ble_eq_true rfl, Nat.le_of_ble_eq_true rfl⟩) (hq_preV1 hW eq41 rfl rfl) rfl rfl hl.1 rfl (lv_room (by first | exact Nat.le_of_ble_eq_true rfl | (simp only [List.map, rf_cat]; exact Nat.le_of_ble_eq_true rfl))) dMo_writeAnswer_37 ⟨Nat.le_of_ble_eq_true rfl, Nat.le_of_ble_eq_true rfl⟩) hW rfl rfl (fun H locs hW => ?_)
    refine lv_goto hx hb dMo_writeAnswer_40 (tgt := 180) rfl ?_
    exact hq_vret hx hb hr hlocks h (Nat.le_of_ble_eq_true rfl) (Nat.le_of_ble_eq_true rfl) hW dMo_writeAnswer_180
def fMo_wrong_J134_1 (t0 : Int32) (t1 : Int32) (S17 : Ws)  : Option (Int32 × Ws) :=
  if t0 = (8 : Int32) then if t1 = 0 then some ((0 : Int32), S17) else if t1 = (1 : Int32) then some ((0 : Int32), S17) else if t1 = (4 : Int32) then some ((0 : Int32), S17) else some ((1 : Int32), S17) else some ((0 : Int32), S17)
def fMo_wrong_J117_2 (t0 : Int32) (v2 : Int32) (t1 : Int32)  (S17 : Ws) : Option (Int32 × Ws) :=
  if t0 = (5 : Int32) then if v2 = 0 then fMo_wrong_J134_1 t0 t1 S17 else if v2 = (65280 : Int32) then fMo_wrong_J134_1 t0 t1 S17 else some ((1 : Int32), S17) else fMo_wrong_J134_1 t0 t1 S17
def fMo_wrong_J103_3 (i8 : Int32) (t0 : Int32) (v2 : Int32) (t1 : Int32) (t2 : Int32)  (S16 : Ws) : Option (Int32 × Ws) :=
  if i8 = 0 then fMo_wrong_J117_2 t0 v2 t1 S16 else (fMo_within t2 (1 : Int32) (4 : Int32) S16).bind fun (v26, S25) => if v26 = 0 then some ((1 : Int32), S25) else fMo_wrong_J117_2 t0 v2 t1 S25
def fMo_wrong_J198_4 (t0 : Int32) (t1 : Int32)  : Option (Int32) :=
  if t0 = (6 : Int32) then if t1 ≤ (7 : Int32) then some (0 : Int32) else some (1 : Int32) else if t0 = (22 : Int32) then if t1 ≤ (7 : Int32) then some (0 : Int32) else some (1 : Int32) else some (0 : Int32)
def fMo_wrong_J187_5 (t0 : Int32) (t1 : Int32)  : Option (Int32) :=
  if t0 = (5 : Int32) then if (15 : Int32) < t1 then some (1 : Int32) else fMo_wrong_J198_4 t0 t1 else fMo_wrong_J198_4 t0 t1
def fMo_wrong_J174_6 (i8 : Int32) (t0 : Int32) (t1 : Int32) (t2 : Int32)  : Option (Int32) :=
  if i8 = 0 then fMo_wrong_J187_5 t0 t1 else if (8 : Int32) < (t1 + t2) then some (1 : Int32) else fMo_wrong_J187_5 t0 t1
def fMo_wrong_J88_7 (i3 : Int32) (i8 : Int32) (t0 : Int32) (v2 : Int32) (t1 : Int32) (t2 : Int32) (S1 : Ws)  : Option (Int32 × Ws) :=
  (if i3 = 0 then fMo_wrong_J103_3 i8 t0 v2 t1 t2 S1 else (fMo_within t2 (1 : Int32) (16 : Int32) S1).bind fun (v30, S29) => if v30 = 0 then some ((1 : Int32), S29) else fMo_wrong_J103_3 i8 t0 v2 t1 t2 S29).bind fun (i13, S14) => (if i3 = 0 then fMo_wrong_J174_6 i8 t0 t1 t2 else if (16 : Int32) < (t1 + t2) then some (1 : Int32) else fMo_wrong_J174_6 i8 t0 t1 t2).bind fun i33 => if i13 = 0 then if i33 = 0 then some ((0 : Int32), S14) else some ((2 : Int32), S14) else some ((3 : Int32), S14)
def fMo_wrong (t0 : Int32) (t1 : Int32) (t2 : Int32) (t3 : Int64) (S : Ws) : Option (Int32 × Ws) :=
  (fMo_word t3 (0 : Int32) S).bind fun (v2, S1) => (if t0 = (1 : Int32) then some (1 : Int32) else if t0 = (2 : Int32) then some (1 : Int32) else if t0 = (15 : Int32) then some (1 : Int32) else some (0 : Int32)).bind fun i3 => (if t0 = (3 : Int32) then some (1 : Int32) else if t0 = (4 : Int32) then some (1 : Int32) else if t0 = (16 : Int32) then some (1 : Int32) else some (0 : Int32)).bind fun i8 => if i3 = 0 then if i8 = 0 then if t0 = (5 : Int32) then fMo_wrong_J88_7 i3 i8 t0 v2 t1 t2 S1 else if t0 = (6 : Int32) then fMo_wrong_J88_7 i3 i8 t0 v2 t1 t2 S1 else if t0 = (8 : Int32) then fMo_wrong_J88_7 i3 i8 t0 v2 t1 t2 S1 else if t0 = (22 : Int32) then fMo_wrong_J88_7 i3 i8 t0 v2 t1 t2 S1 else some ((1 : Int32), S1) else fMo_wrong_J88_7 i3 i8 t0 v2 t1 t2 S1 else fMo_wrong_J88_7 i3 i8 t0 v2 t1 t2 S1
set_option maxRecDepth 100000 in
set_option maxHeartbeats 4000000 in
theorem kMo_wrong (l : Launch) (D : va_G) (tc : Nat → ClassId) (b : Nat) (t0 : Int32) (t1 : Int32) (t2 : Int32) (t3 : Int64) (S Sz : Ws) (rr : Int32) (h : fMo_wrong t0 t1 t2 t3 S = some (rr, Sz)) : Met l yMo_wrong wsMo_wrong { frames := 2, cells := 0, slots := 0, locals := 80 } (va_Pc [.int t0, .int t1, .int t2, .long t3] (Wp D vwCl (hTy tc) b S)) (va_Qi (fun x (_ : Unit) => x = rr) (fun _ => Wp D vwCl (hTy tc) b Sz) (fun q => b ≤ q)) 0 0 (fun q => b ≤ q) := by
  refine hq_ofW (cc := cMo_wrong) (maxL := 10) (ret := (some .int)) (by decide) rfl (Nat.le_of_ble_eq_true rfl) fun p e s m args below meth c hx hb hr hts hown hlocks hnm hml H locs ls hl hW => ?_
  have hts : ∀ w ∈ lwG, w.before args s = true := fun w h => hts w (List.mem_cons_of_mem _ h)
  have hown : s.vm.findClass "SerialPlantModel" = some m.cls := hown
  have hl : lv_has ls 10 [(0, .int t0), (1, .int t1), (2, .int t2), (3, .long t3)] := hl
  unfold fMo_wrong at h
  refine lv_lload_n hx hb dMo_wrong_0 rfl (lv_at hl 3 rfl) ?_
  refine lv_iconst hx hb dMo_wrong_1 (v := (0 : Int32)) rfl ?_
  replace h := ob h; obtain ⟨⟨v2, S1⟩, eS1, h⟩ := h
  refine hq_calli (ce := 0) (sl := 0) (va_runS (As := [.long t3, .int (0 : Int32)]) (rest := []) ⟨hx, hb, hml, hown, hts⟩ (kMo_word l D tc b t3 (0 : Int32) S _ _ eS1) (cwS 2 hts GS_Mo_142 rfl rfl rfl hd_Mo_word_S_Mo ⟨Nat.le_of_ble_eq_true rfl, Nat.le_of_ble_eq_true rfl⟩) (hq_preS hW) rfl rfl hl.1 rfl (lv_room (by first | exact Nat.le_of_ble_eq_true rfl | (simp only [List.map, rf_cat]; exact Nat.le_of_ble_eq_true rfl))) dMo_wrong_2 ⟨Nat.le_of_ble_eq_true rfl, Nat.le_of_ble_eq_true rfl⟩) hW rfl rfl (fun H locs hW => ?_)
  refine lv_istore (lv' := [(5, .int v2), (0, .int t0), (1, .int t1), (2, .int t2), (3, .long t3)]) hx hb dMo_wrong_5 hl (Nat.le_of_ble_eq_true rfl) (by first | rfl | (simp [List.filter, rf_cat] <;> rfl)) (fun ls hl => ?_)
  refine lv_iload_n hx hb dMo_wrong_7 rfl (lv_at hl 1 rfl) ?_
  refine lv_iconst hx hb dMo_wrong_8 (v := (1 : Int32)) rfl ?_
  replace h := ob h; obtain ⟨q4, e28, h⟩ := h
  have hJ28 : ∀ q', q' = q4 → ∀ (H : Heap) (locs : List Loc) (ls : Array Slot), lv_has ls 10 [(0, .int t0), (1, .int t1), (2, .int t2), (5, .int v2)] → Wd D vwCl (hTy tc) b S1 s H locs → W p l e { frames := 2, cells := 0, slots := 0, locals := 80 } s m args below meth c H locs 0 0 (MQ below (va_Qi (fun x (_ : Unit) => x = rr) (fun _ => Wp D vwCl (hTy tc) b Sz) (fun q => b ≤ q)) args s 0 0 (fun q => b ≤ q)) (F0 m 28 ls [.int q']) := by
    intro i3 hq'; subst hq'
    intro H locs ls hl hW
    refine lv_istore (lv' := [(6, .int i3), (0, .int t0), (1, .int t1), (2, .int t2), (5, .int v2)]) hx hb dMo_wrong_28 hl (Nat.le_of_ble_eq_true rfl) (by first | rfl | (simp [List.filter, rf_cat] <;> rfl)) (fun ls hl => ?_)
    refine lv_iload_n hx hb dMo_wrong_30 rfl (lv_at hl 1 rfl) ?_
    refine lv_iconst hx hb dMo_wrong_31 (v := (3 : Int32)) rfl ?_
    replace h := ob h; obtain ⟨q9, e51, h⟩ := h
    have hJ51 : ∀ q', q' = q9 → ∀ (H : Heap) (locs : List Loc) (ls : Array Slot), lv_has ls 10 [(0, .int t0), (1, .int t1), (2, .int t2), (5, .int v2), (6, .int i3)] → Wd D vwCl (hTy tc) b S1 s H locs → W p l e { frames := 2, cells := 0, slots := 0, locals := 80 } s m args below meth c H locs 0 0 (MQ below (va_Qi (fun x (_ : Unit) => x = rr) (fun _ => Wp D vwCl (hTy tc) b Sz) (fun q => b ≤ q)) args s 0 0 (fun q => b ≤ q)) (F0 m 51 ls [.int q']) := by
      intro i8 hq'; subst hq'
      intro H locs ls hl hW
      refine lv_istore (lv' := [(7, .int i8), (0, .int t0), (1, .int t1), (2, .int t2), (5, .int v2), (6, .int i3)]) hx hb dMo_wrong_51 hl (Nat.le_of_ble_eq_true rfl) (by first | rfl | (simp [List.filter, rf_cat] <;> rfl)) (fun ls hl => ?_)
      refine lv_iload hx hb dMo_wrong_53 (lv_at hl 5 rfl) ?_
      have hP88_7 : ∀  (H : Heap) (locs : List Loc) (ls : Array Slot), lv_has ls 10 [(0, .int t0), (1, .int t1), (2, .int t2), (5, .int v2), (6, .int i3), (7, .int i8)] → Wd D vwCl (hTy tc) b S1 s H locs → fMo_wrong_J88_7 i3 i8 t0 v2 t1 t2 S1 = some (rr, Sz) → W p l e { frames := 2, cells := 0, slots := 0, locals := 80 } s m args below meth c H locs 0 0 (MQ below (va_Qi (fun x (_ : Unit) => x = rr) (fun _ => Wp D vwCl (hTy tc) b Sz) (fun q => b ≤ q)) args s 0 0 (fun q => b ≤ q)) (F0 m 88 ls []) := by
        intro  H locs ls hl hW h
        unfold fMo_wrong_J88_7 at h
        refine lv_iload hx hb dMo_wrong_88 (lv_at hl 4 rfl) ?_
        replace h := ob h; obtain ⟨q15, e159, h⟩ := h
        have hJ159 : ∀ q', q' = q15 → ∀ (H : Heap) (locs : List Loc) (ls : Array Slot), lv_has ls 10 [(0, .int t0), (1, .int t1), (2, .int t2), (6, .int i3), (7, .int i8)] → Wd D vwCl (hTy tc) b q'.2 s H locs → W p l e { frames := 2, cells := 0, slots := 0, locals := 80 } s m args below meth c H locs 0 0 (MQ below (va_Qi (fun x (_ : Unit) => x = rr) (fun _ => Wp D vwCl (hTy tc) b Sz) (fun q => b ≤ q)) args s 0 0 (fun q => b ≤ q)) (F0 m 159 ls [.int q'.1]) := by
          intro q' hq'; subst hq'; obtain ⟨i13, S14⟩ := q'
          intro H locs ls hl hW
          refine lv_istore (lv' := [(8, .int i13), (0, .int t0), (1, .int t1), (2, .int t2), (6, .int i3), (7, .int i8)]) hx hb dMo_wrong_159 hl (Nat.le_of_ble_eq_true rfl) (by first | rfl | (simp [List.filter, rf_cat] <;> rfl)) (fun ls hl => ?_)
          refine lv_iload hx hb dMo_wrong_161 (lv_at hl 4 rfl) ?_
          replace h := ob h; obtain ⟨q34, e221, h⟩ := h
          have hJ221 : ∀ q', q' = q34 → ∀ (H : Heap) (locs : List Loc) (ls : Array Slot), lv_has ls 10 [(8, .int i13)] → Wd D vwCl (hTy tc) b S14 s H locs → W p l e { frames := 2, cells := 0, slots := 0, locals := 80 } s m args below meth c H locs 0 0 (MQ below (va_Qi (fun x (_ : Unit) => x = rr) (fun _ => Wp D vwCl (hTy tc) b Sz) (fun q => b ≤ q)) args s 0 0 (fun q => b ≤ q)) (F0 m 221 ls [.int q']) := by
            intro i33 hq'; subst hq'
            intro H locs ls hl hW
            refine lv_istore (lv' := [(9, .int i33), (8, .int i13)]) hx hb dMo_wrong_221 hl (Nat.le_of_ble_eq_true rfl) (by first | rfl | (simp [List.filter, rf_cat] <;> rfl)) (fun ls hl => ?_)
            refine lv_iload hx hb dMo_wrong_223 (lv_at hl 1 rfl) ?_
            refine lv_if_eq hx hb dMo_wrong_225 (tgt := 232) rfl (fun hc46 => ?_) (fun hc46 => ?_)
            · replace h := if_t hc46 h
              refine lv_iload hx hb dMo_wrong_232 (lv_at hl 0 rfl) ?_
              refine lv_if_eq hx hb dMo_wrong_234 (tgt := 241) rfl (fun hc45 => ?_) (fun hc45 => ?_)
              · replace h := if_t hc45 h
                refine lv_iconst hx hb dMo_wrong_241 (v := (0 : Int32)) rfl ?_
                exact hq_iret hx hb hr hlocks h (Nat.le_of_ble_eq_true rfl) (Nat.le_of_ble_eq_true rfl) hW dMo_wrong_242
              · replace h := if_f hc45 h
                refine lv_iconst hx hb dMo_wrong_237 (v := (2 : Int32)) rfl ?_
                refine lv_goto hx hb dMo_wrong_238 (tgt := 242) rfl ?_
                exact hq_iret hx hb hr hlocks h (Nat.le_of_ble_eq_true rfl) (Nat.le_of_ble_eq_true rfl) hW dMo_wrong_242
            · replace h := if_f hc46 h
              refine lv_iconst hx hb dMo_wrong_228 (v := (3 : Int32)) rfl ?_
              refine lv_goto hx hb dMo_wrong_229 (tgt := 242) rfl ?_
              exact hq_iret hx hb hr hlocks h (Nat.le_of_ble_eq_true rfl) (Nat.le_of_ble_eq_true rfl) hW dMo_wrong_242
          clear h; have h := e221; clear e221
          have hP174_6 : ∀  (H : Heap) (locs : List Loc) (ls : Array Slot), lv_has ls 10 [(0, .int t0), (1, .int t1), (2, .int t2), (7, .int i8), (8, .int i13)] → Wd D vwCl (hTy tc) b S14 s H locs → fMo_wrong_J174_6 i8 t0 t1 t2 = some q34 → W p l e { frames := 2, cells := 0, slots := 0, locals := 80 } s m args below meth c H locs 0 0 (MQ below (va_Qi (fun x (_ : Unit) => x = rr) (fun _ => Wp D vwCl (hTy tc) b Sz) (fun q => b ≤ q)) args s 0 0 (fun q => b ≤ q)) (F0 m 174 ls []) := by
            intro  H locs ls hl hW h
            unfold fMo_wrong_J174_6 at h
            refine lv_iload hx hb dMo_wrong_174 (lv_at hl 3 rfl) ?_
            have hP187_5 : ∀  (H : Heap) (locs : List Loc) (ls : Array Slot), lv_has ls 10 [(0, .int t0), (1, .int t1), (8, .int i13)] → Wd D vwCl (hTy tc) b S14 s H locs → fMo_wrong_J187_5 t0 t1 = some q34 → W p l e { frames := 2, cells := 0, slots := 0, locals := 80 } s m args below meth c H locs 0 0 (MQ below (va_Qi (fun x (_ : Unit) => x = rr) (fun _ => Wp D vwCl (hTy tc) b Sz) (fun q => b ≤ q)) args s 0 0 (fun q => b ≤ q)) (F0 m 187 ls []) := by
              intro  H locs ls hl hW h
              unfold fMo_wrong_J187_5 at h
              refine lv_iload_n hx hb dMo_wrong_187 rfl (lv_at hl 0 rfl) ?_
              refine lv_iconst hx hb dMo_wrong_188 (v := (5 : Int32)) rfl ?_
              have hP198_4 : ∀  (H : Heap) (locs : List Loc) (ls : Array Slot), lv_has ls 10 [(0, .int t0), (1, .int t1), (8, .int i13)] → Wd D vwCl (hTy tc) b S14 s H locs → fMo_wrong_J198_4 t0 t1 = some q34 → W p l e { frames := 2, cells := 0, slots := 0, locals := 80 } s m args below meth c H locs 0 0 (MQ below (va_Qi (fun x (_ : Unit) => x = rr) (fun _ => Wp D vwCl (hTy tc) b Sz) (fun q => b ≤ q)) args s 0 0 (fun q => b ≤ q)) (F0 m 198 ls []) := by
                intro  H locs ls hl hW h
                unfold fMo_wrong_J198_4 at h
                refine lv_iload_n hx hb dMo_wrong_198 rfl (lv_at hl 0 rfl) ?_
                refine lv_bipush hx hb dMo_wrong_199 (v := (6 : Int32)) rfl ?_
                refine lv_icmp_eq hx hb dMo_wrong_201 (tgt := 210) rfl (fun hc38 => ?_) (fun hc38 => ?_)
                · replace h := if_t hc38 h
                  refine lv_iload_n hx hb dMo_wrong_210 rfl (lv_at hl 1 rfl) ?_
                  refine lv_bipush hx hb dMo_wrong_211 (v := (7 : Int32)) rfl ?_
                  refine lv_icmp_le hx hb dMo_wrong_213 (tgt := 220) rfl (fun hc35 => ?_) (fun hc35 => ?_)
                  · replace h := if_t hc35 h
                    refine lv_iconst hx hb dMo_wrong_220 (v := (0 : Int32)) rfl ?_
                    exact hJ221 _ (Option.some.inj h) _ _ _ (lv_sub hl [2] rfl) hW
                  · replace h := if_f hc35 h
                    refine lv_iconst hx hb dMo_wrong_216 (v := (1 : Int32)) rfl ?_
                    refine lv_goto hx hb dMo_wrong_217 (tgt := 221) rfl ?_
                    exact hJ221 _ (Option.some.inj h) _ _ _ (lv_sub hl [2] rfl) hW
                · replace h := if_f hc38 h
                  refine lv_iload_n hx hb dMo_wrong_204 rfl (lv_at hl 0 rfl) ?_
                  refine lv_bipush hx hb dMo_wrong_205 (v := (22 : Int32)) rfl ?_
                  refine lv_icmp_ne hx hb dMo_wrong_207 (tgt := 220) rfl (fun hc37 => ?_) (fun hc37 => ?_)
                  · replace h := if_f hc37 h
                    refine lv_iconst hx hb dMo_wrong_220 (v := (0 : Int32)) rfl ?_
                    exact hJ221 _ (Option.some.inj h) _ _ _ (lv_sub hl [2] rfl) hW
                  · replace h := if_t hc37 h
                    refine lv_iload_n hx hb dMo_wrong_210 rfl (lv_at hl 1 rfl) ?_
                    refine lv_bipush hx hb dMo_wrong_211 (v := (7 : Int32)) rfl ?_
                    refine lv_icmp_le hx hb dMo_wrong_213 (tgt := 220) rfl (fun hc36 => ?_) (fun hc36 => ?_)
                    · replace h := if_t hc36 h
                      refine lv_iconst hx hb dMo_wrong_220 (v := (0 : Int32)) rfl ?_
                      exact hJ221 _ (Option.some.inj h) _ _ _ (lv_sub hl [2] rfl) hW
                    · replace h := if_f hc36 h
                      refine lv_iconst hx hb dMo_wrong_216 (v := (1 : Int32)) rfl ?_
                      refine lv_goto hx hb dMo_wrong_217 (tgt := 221) rfl ?_
                      exact hJ221 _ (Option.some.inj h) _ _ _ (lv_sub hl [2] rfl) hW
              refine lv_icmp_ne hx hb dMo_wrong_189 (tgt := 198) rfl (fun hc40 => ?_) (fun hc40 => ?_)
              · replace h := if_f hc40 h
                exact hP198_4  _ _ _ (lv_sub hl [0, 1, 2] rfl) hW h
              · replace h := if_t hc40 h
                refine lv_iload_n hx hb dMo_wrong_192 rfl (lv_at hl 1 rfl) ?_
                refine lv_bipush hx hb dMo_wrong_193 (v := (15 : Int32)) rfl ?_
                refine lv_icmp_gt hx hb dMo_wrong_195 (tgt := 216) rfl (fun hc39 => ?_) (fun hc39 => ?_)
                · replace h := if_t hc39 h
                  refine lv_iconst hx hb dMo_wrong_216 (v := (1 : Int32)) rfl ?_
                  refine lv_goto hx hb dMo_wrong_217 (tgt := 221) rfl ?_
                  exact hJ221 _ (Option.some.inj h) _ _ _ (lv_sub hl [2] rfl) hW
                · replace h := if_f hc39 h
                  exact hP198_4  _ _ _ (lv_sub hl [0, 1, 2] rfl) hW h
            refine lv_if_eq hx hb dMo_wrong_176 (tgt := 187) rfl (fun hc42 => ?_) (fun hc42 => ?_)
            · replace h := if_t hc42 h
              exact hP187_5  _ _ _ (lv_sub hl [0, 1, 4] rfl) hW h
            · replace h := if_f hc42 h
              refine lv_iload_n hx hb dMo_wrong_179 rfl (lv_at hl 1 rfl) ?_
              refine lv_iload_n hx hb dMo_wrong_180 rfl (lv_at hl 2 rfl) ?_
              refine lv_iadd hx hb dMo_wrong_181 ?_
              refine lv_bipush hx hb dMo_wrong_182 (v := (8 : Int32)) rfl ?_
              refine lv_icmp_gt hx hb dMo_wrong_184 (tgt := 216) rfl (fun hc41 => ?_) (fun hc41 => ?_)
              · replace h := if_t hc41 h
                refine lv_iconst hx hb dMo_wrong_216 (v := (1 : Int32)) rfl ?_
                refine lv_goto hx hb dMo_wrong_217 (tgt := 221) rfl ?_
                exact hJ221 _ (Option.some.inj h) _ _ _ (lv_sub hl [4] rfl) hW
              · replace h := if_f hc41 h
                exact hP187_5  _ _ _ (lv_sub hl [0, 1, 4] rfl) hW h
          refine lv_if_eq hx hb dMo_wrong_163 (tgt := 174) rfl (fun hc44 => ?_) (fun hc44 => ?_)
          · replace h := if_t hc44 h
            exact hP174_6  _ _ _ (lv_sub hl [1, 2, 3, 5, 0] rfl) hW h
          · replace h := if_f hc44 h
            refine lv_iload_n hx hb dMo_wrong_166 rfl (lv_at hl 2 rfl) ?_
            refine lv_iload_n hx hb dMo_wrong_167 rfl (lv_at hl 3 rfl) ?_
            refine lv_iadd hx hb dMo_wrong_168 ?_
            refine lv_bipush hx hb dMo_wrong_169 (v := (16 : Int32)) rfl ?_
            refine lv_icmp_gt hx hb dMo_wrong_171 (tgt := 216) rfl (fun hc43 => ?_) (fun hc43 => ?_)
            · replace h := if_t hc43 h
              refine lv_iconst hx hb dMo_wrong_216 (v := (1 : Int32)) rfl ?_
              refine lv_goto hx hb dMo_wrong_217 (tgt := 221) rfl ?_
              exact hJ221 _ (Option.some.inj h) _ _ _ (lv_sub hl [0] rfl) hW
            · replace h := if_f hc43 h
              exact hP174_6  _ _ _ (lv_sub hl [1, 2, 3, 5, 0] rfl) hW h
        clear h; have h := e159; clear e159
        have hP103_3 : ∀  (S16 : Ws) (H : Heap) (locs : List Loc) (ls : Array Slot), lv_has ls 10 [(0, .int t0), (1, .int t1), (2, .int t2), (5, .int v2), (6, .int i3), (7, .int i8)] → Wd D vwCl (hTy tc) b S16 s H locs → fMo_wrong_J103_3 i8 t0 v2 t1 t2 S16 = some q15 → W p l e { frames := 2, cells := 0, slots := 0, locals := 80 } s m args below meth c H locs 0 0 (MQ below (va_Qi (fun x (_ : Unit) => x = rr) (fun _ => Wp D vwCl (hTy tc) b Sz) (fun q => b ≤ q)) args s 0 0 (fun q => b ≤ q)) (F0 m 103 ls []) := by
          intro S16 H locs ls hl hW h
          unfold fMo_wrong_J103_3 at h
          refine lv_iload hx hb dMo_wrong_103 (lv_at hl 5 rfl) ?_
          have hP117_2 : ∀  (S17 : Ws) (H : Heap) (locs : List Loc) (ls : Array Slot), lv_has ls 10 [(0, .int t0), (1, .int t1), (2, .int t2), (5, .int v2), (6, .int i3), (7, .int i8)] → Wd D vwCl (hTy tc) b S17 s H locs → fMo_wrong_J117_2 t0 v2 t1 S17 = some q15 → W p l e { frames := 2, cells := 0, slots := 0, locals := 80 } s m args below meth c H locs 0 0 (MQ below (va_Qi (fun x (_ : Unit) => x = rr) (fun _ => Wp D vwCl (hTy tc) b Sz) (fun q => b ≤ q)) args s 0 0 (fun q => b ≤ q)) (F0 m 117 ls []) := by
            intro S17 H locs ls hl hW h
            unfold fMo_wrong_J117_2 at h
            refine lv_iload_n hx hb dMo_wrong_117 rfl (lv_at hl 0 rfl) ?_
            refine lv_iconst hx hb dMo_wrong_118 (v := (5 : Int32)) rfl ?_
            have hP134_1 : ∀  (H : Heap) (locs : List Loc) (ls : Array Slot), lv_has ls 10 [(0, .int t0), (1, .int t1), (2, .int t2), (6, .int i3), (7, .int i8)] → Wd D vwCl (hTy tc) b S17 s H locs → fMo_wrong_J134_1 t0 t1 S17 = some q15 → W p l e { frames := 2, cells := 0, slots := 0, locals := 80 } s m args below meth c H locs 0 0 (MQ below (va_Qi (fun x (_ : Unit) => x = rr) (fun _ => Wp D vwCl (hTy tc) b Sz) (fun q => b ≤ q)) args s 0 0 (fun q => b ≤ q)) (F0 m 134 ls []) := by
              intro  H locs ls hl hW h
              unfold fMo_wrong_J134_1 at h
              refine lv_iload_n hx hb dMo_wrong_134 rfl (lv_at hl 0 rfl) ?_
              refine lv_bipush hx hb dMo_wrong_135 (v := (8 : Int32)) rfl ?_
              refine lv_icmp_ne hx hb dMo_wrong_137 (tgt := 158) rfl (fun hc21 => ?_) (fun hc21 => ?_)
              · replace h := if_f hc21 h
                refine lv_iconst hx hb dMo_wrong_158 (v := (0 : Int32)) rfl ?_
                exact hJ159 _ (Option.some.inj h) _ _ _ (lv_sub hl [0, 1, 2, 3, 4] rfl) hW
              · replace h := if_t hc21 h
                refine lv_iload_n hx hb dMo_wrong_140 rfl (lv_at hl 1 rfl) ?_
                refine lv_if_eq hx hb dMo_wrong_141 (tgt := 158) rfl (fun hc20 => ?_) (fun hc20 => ?_)
                · replace h := if_t hc20 h
                  refine lv_iconst hx hb dMo_wrong_158 (v := (0 : Int32)) rfl ?_
                  exact hJ159 _ (Option.some.inj h) _ _ _ (lv_sub hl [0, 1, 2, 3, 4] rfl) hW
                · replace h := if_f hc20 h
                  refine lv_iload_n hx hb dMo_wrong_144 rfl (lv_at hl 1 rfl) ?_
                  refine lv_iconst hx hb dMo_wrong_145 (v := (1 : Int32)) rfl ?_
                  refine lv_icmp_eq hx hb dMo_wrong_146 (tgt := 158) rfl (fun hc19 => ?_) (fun hc19 => ?_)
                  · replace h := if_t hc19 h
                    refine lv_iconst hx hb dMo_wrong_158 (v := (0 : Int32)) rfl ?_
                    exact hJ159 _ (Option.some.inj h) _ _ _ (lv_sub hl [0, 1, 2, 3, 4] rfl) hW
                  · replace h := if_f hc19 h
                    refine lv_iload_n hx hb dMo_wrong_149 rfl (lv_at hl 1 rfl) ?_
                    refine lv_iconst hx hb dMo_wrong_150 (v := (4 : Int32)) rfl ?_
                    refine lv_icmp_eq hx hb dMo_wrong_151 (tgt := 158) rfl (fun hc18 => ?_) (fun hc18 => ?_)
                    · replace h := if_t hc18 h
                      refine lv_iconst hx hb dMo_wrong_158 (v := (0 : Int32)) rfl ?_
                      exact hJ159 _ (Option.some.inj h) _ _ _ (lv_sub hl [0, 1, 2, 3, 4] rfl) hW
                    · replace h := if_f hc18 h
                      refine lv_iconst hx hb dMo_wrong_154 (v := (1 : Int32)) rfl ?_
                      refine lv_goto hx hb dMo_wrong_155 (tgt := 159) rfl ?_
                      exact hJ159 _ (Option.some.inj h) _ _ _ (lv_sub hl [0, 1, 2, 3, 4] rfl) hW
            refine lv_icmp_ne hx hb dMo_wrong_119 (tgt := 134) rfl (fun hc24 => ?_) (fun hc24 => ?_)
            · replace h := if_f hc24 h
              exact hP134_1  _ _ _ (lv_sub hl [0, 1, 2, 4, 5] rfl) hW h
            · replace h := if_t hc24 h
              refine lv_iload hx hb dMo_wrong_122 (lv_at hl 3 rfl) ?_
              refine lv_if_eq hx hb dMo_wrong_124 (tgt := 134) rfl (fun hc23 => ?_) (fun hc23 => ?_)
              · replace h := if_t hc23 h
                exact hP134_1  _ _ _ (lv_sub hl [0, 1, 2, 4, 5] rfl) hW h
              · replace h := if_f hc23 h
                refine lv_iload hx hb dMo_wrong_127 (lv_at hl 3 rfl) ?_
                refine lv_ldc hx hb (v := (65280 : Int32)) hown (hts _ w_839) dMo_wrong_129 ?_
                refine lv_icmp_ne hx hb dMo_wrong_131 (tgt := 154) rfl (fun hc22 => ?_) (fun hc22 => ?_)
                · replace h := if_f hc22 h
                  refine lv_iconst hx hb dMo_wrong_154 (v := (1 : Int32)) rfl ?_
                  refine lv_goto hx hb dMo_wrong_155 (tgt := 159) rfl ?_
                  exact hJ159 _ (Option.some.inj h) _ _ _ (lv_sub hl [0, 1, 2, 4, 5] rfl) hW
                · replace h := if_t hc22 h
                  exact hP134_1  _ _ _ (lv_sub hl [0, 1, 2, 4, 5] rfl) hW h
          refine lv_if_eq hx hb dMo_wrong_105 (tgt := 117) rfl (fun hc28 => ?_) (fun hc28 => ?_)
          · replace h := if_t hc28 h
            exact hP117_2 _ _ _ _ (lv_sub hl [0, 1, 2, 3, 4, 5] rfl) hW h
          · replace h := if_f hc28 h
            refine lv_iload_n hx hb dMo_wrong_108 rfl (lv_at hl 2 rfl) ?_
            refine lv_iconst hx hb dMo_wrong_109 (v := (1 : Int32)) rfl ?_
            refine lv_iconst hx hb dMo_wrong_110 (v := (4 : Int32)) rfl ?_
            replace h := ob h; obtain ⟨⟨v26, S25⟩, eS25, h⟩ := h
            refine hq_calli (ce := 0) (sl := 0) (va_runS (As := [.int t2, .int (1 : Int32), .int (4 : Int32)]) (rest := []) ⟨hx, hb, hml, hown, hts⟩ (kMo_within l D tc b t2 (1 : Int32) (4 : Int32) S16 _ _ eS25) (cwS 3 hts GS_Mo_117 rfl rfl rfl hd_Mo_within_S_Mo ⟨Nat.le_of_ble_eq_true rfl, Nat.le_of_ble_eq_true rfl⟩) (hq_preS hW) rfl rfl hl.1 rfl (lv_room (by first | exact Nat.le_of_ble_eq_true rfl | (simp only [List.map, rf_cat]; exact Nat.le_of_ble_eq_true rfl))) dMo_wrong_111 ⟨Nat.le_of_ble_eq_true rfl, Nat.le_of_ble_eq_true rfl⟩) hW rfl rfl (fun H locs hW => ?_)
            refine lv_if_eq hx hb dMo_wrong_114 (tgt := 154) rfl (fun hc27 => ?_) (fun hc27 => ?_)
            · replace h := if_t hc27 h
              refine lv_iconst hx hb dMo_wrong_154 (v := (1 : Int32)) rfl ?_
              refine lv_goto hx hb dMo_wrong_155 (tgt := 159) rfl ?_
              exact hJ159 _ (Option.some.inj h) _ _ _ (lv_sub hl [0, 1, 2, 4, 5] rfl) hW
            · replace h := if_f hc27 h
              exact hP117_2 _ _ _ _ (lv_sub hl [0, 1, 2, 3, 4, 5] rfl) hW h
        refine lv_if_eq hx hb dMo_wrong_90 (tgt := 103) rfl (fun hc32 => ?_) (fun hc32 => ?_)
        · replace h := if_t hc32 h
          exact hP103_3 _ _ _ _ (lv_sub hl [0, 1, 2, 3, 4, 5] rfl) hW h
        · replace h := if_f hc32 h
          refine lv_iload_n hx hb dMo_wrong_93 rfl (lv_at hl 2 rfl) ?_
          refine lv_iconst hx hb dMo_wrong_94 (v := (1 : Int32)) rfl ?_
          refine lv_bipush hx hb dMo_wrong_95 (v := (16 : Int32)) rfl ?_
          replace h := ob h; obtain ⟨⟨v30, S29⟩, eS29, h⟩ := h
          refine hq_calli (ce := 0) (sl := 0) (va_runS (As := [.int t2, .int (1 : Int32), .int (16 : Int32)]) (rest := []) ⟨hx, hb, hml, hown, hts⟩ (kMo_within l D tc b t2 (1 : Int32) (16 : Int32) S1 _ _ eS29) (cwS 3 hts GS_Mo_117 rfl rfl rfl hd_Mo_within_S_Mo ⟨Nat.le_of_ble_eq_true rfl, Nat.le_of_ble_eq_true rfl⟩) (hq_preS hW) rfl rfl hl.1 rfl (lv_room (by first | exact Nat.le_of_ble_eq_true rfl | (simp only [List.map, rf_cat]; exact Nat.le_of_ble_eq_true rfl))) dMo_wrong_97 ⟨Nat.le_of_ble_eq_true rfl, Nat.le_of_ble_eq_true rfl⟩) hW rfl rfl (fun H locs hW => ?_)
          refine lv_if_eq hx hb dMo_wrong_100 (tgt := 154) rfl (fun hc31 => ?_) (fun hc31 => ?_)
          · replace h := if_t hc31 h
            refine lv_iconst hx hb dMo_wrong_154 (v := (1 : Int32)) rfl ?_
            refine lv_goto hx hb dMo_wrong_155 (tgt := 159) rfl ?_
            exact hJ159 _ (Option.some.inj h) _ _ _ (lv_sub hl [0, 1, 2, 4, 5] rfl) hW
          · replace h := if_f hc31 h
            exact hP103_3 _ _ _ _ (lv_sub hl [0, 1, 2, 3, 4, 5] rfl) hW h
      refine lv_if_ne hx hb dMo_wrong_55 (tgt := 88) rfl (fun hc52 => ?_) (fun hc52 => ?_)
      · replace h := if_f hc52 h
        exact hP88_7  _ _ _ (lv_sub hl [1, 2, 3, 4, 5, 0] rfl) hW h
      · replace h := if_t hc52 h
        refine lv_iload hx hb dMo_wrong_58 (lv_at hl 0 rfl) ?_
        refine lv_if_ne hx hb dMo_wrong_60 (tgt := 88) rfl (fun hc51 => ?_) (fun hc51 => ?_)
        · replace h := if_f hc51 h
          exact hP88_7  _ _ _ (lv_sub hl [1, 2, 3, 4, 5, 0] rfl) hW h
        · replace h := if_t hc51 h
          refine lv_iload_n hx hb dMo_wrong_63 rfl (lv_at hl 1 rfl) ?_
          refine lv_iconst hx hb dMo_wrong_64 (v := (5 : Int32)) rfl ?_
          refine lv_icmp_eq hx hb dMo_wrong_65 (tgt := 88) rfl (fun hc50 => ?_) (fun hc50 => ?_)
          · replace h := if_t hc50 h
            exact hP88_7  _ _ _ (lv_sub hl [1, 2, 3, 4, 5, 0] rfl) hW h
          · replace h := if_f hc50 h
            refine lv_iload_n hx hb dMo_wrong_68 rfl (lv_at hl 1 rfl) ?_
            refine lv_bipush hx hb dMo_wrong_69 (v := (6 : Int32)) rfl ?_
            refine lv_icmp_eq hx hb dMo_wrong_71 (tgt := 88) rfl (fun hc49 => ?_) (fun hc49 => ?_)
            · replace h := if_t hc49 h
              exact hP88_7  _ _ _ (lv_sub hl [1, 2, 3, 4, 5, 0] rfl) hW h
            · replace h := if_f hc49 h
              refine lv_iload_n hx hb dMo_wrong_74 rfl (lv_at hl 1 rfl) ?_
              refine lv_bipush hx hb dMo_wrong_75 (v := (8 : Int32)) rfl ?_
              refine lv_icmp_eq hx hb dMo_wrong_77 (tgt := 88) rfl (fun hc48 => ?_) (fun hc48 => ?_)
              · replace h := if_t hc48 h
                exact hP88_7  _ _ _ (lv_sub hl [1, 2, 3, 4, 5, 0] rfl) hW h
              · replace h := if_f hc48 h
                refine lv_iload_n hx hb dMo_wrong_80 rfl (lv_at hl 1 rfl) ?_
                refine lv_bipush hx hb dMo_wrong_81 (v := (22 : Int32)) rfl ?_
                refine lv_icmp_eq hx hb dMo_wrong_83 (tgt := 88) rfl (fun hc47 => ?_) (fun hc47 => ?_)
                · replace h := if_t hc47 h
                  exact hP88_7  _ _ _ (lv_sub hl [1, 2, 3, 4, 5, 0] rfl) hW h
                · replace h := if_f hc47 h
                  refine lv_iconst hx hb dMo_wrong_86 (v := (1 : Int32)) rfl ?_
                  exact hq_iret hx hb hr hlocks h (Nat.le_of_ble_eq_true rfl) (Nat.le_of_ble_eq_true rfl) hW dMo_wrong_87
    clear h; have h := e51; clear e51
    refine lv_icmp_eq hx hb dMo_wrong_32 (tgt := 46) rfl (fun hc12 => ?_) (fun hc12 => ?_)
    · replace h := if_t hc12 h
      refine lv_iconst hx hb dMo_wrong_46 (v := (1 : Int32)) rfl ?_
      refine lv_goto hx hb dMo_wrong_47 (tgt := 51) rfl ?_
      exact hJ51 _ (Option.some.inj h) _ _ _ (lv_sub hl [1, 2, 3, 4, 0] rfl) hW
    · replace h := if_f hc12 h
      refine lv_iload_n hx hb dMo_wrong_35 rfl (lv_at hl 1 rfl) ?_
      refine lv_iconst hx hb dMo_wrong_36 (v := (4 : Int32)) rfl ?_
      refine lv_icmp_eq hx hb dMo_wrong_37 (tgt := 46) rfl (fun hc11 => ?_) (fun hc11 => ?_)
      · replace h := if_t hc11 h
        refine lv_iconst hx hb dMo_wrong_46 (v := (1 : Int32)) rfl ?_
        refine lv_goto hx hb dMo_wrong_47 (tgt := 51) rfl ?_
        exact hJ51 _ (Option.some.inj h) _ _ _ (lv_sub hl [1, 2, 3, 4, 0] rfl) hW
      · replace h := if_f hc11 h
        refine lv_iload_n hx hb dMo_wrong_40 rfl (lv_at hl 1 rfl) ?_
        refine lv_bipush hx hb dMo_wrong_41 (v := (16 : Int32)) rfl ?_
        refine lv_icmp_ne hx hb dMo_wrong_43 (tgt := 50) rfl (fun hc10 => ?_) (fun hc10 => ?_)
        · replace h := if_f hc10 h
          refine lv_iconst hx hb dMo_wrong_50 (v := (0 : Int32)) rfl ?_
          exact hJ51 _ (Option.some.inj h) _ _ _ (lv_sub hl [1, 2, 3, 4, 0] rfl) hW
        · replace h := if_t hc10 h
          refine lv_iconst hx hb dMo_wrong_46 (v := (1 : Int32)) rfl ?_
          refine lv_goto hx hb dMo_wrong_47 (tgt := 51) rfl ?_
          exact hJ51 _ (Option.some.inj h) _ _ _ (lv_sub hl [1, 2, 3, 4, 0] rfl) hW
  clear h; have h := e28; clear e28
  refine lv_icmp_eq hx hb dMo_wrong_9 (tgt := 23) rfl (fun hc7 => ?_) (fun hc7 => ?_)
  · replace h := if_t hc7 h
    refine lv_iconst hx hb dMo_wrong_23 (v := (1 : Int32)) rfl ?_
    refine lv_goto hx hb dMo_wrong_24 (tgt := 28) rfl ?_
    exact hJ28 _ (Option.some.inj h) _ _ _ (lv_sub hl [1, 2, 3, 0] rfl) hW
  · replace h := if_f hc7 h
    refine lv_iload_n hx hb dMo_wrong_12 rfl (lv_at hl 1 rfl) ?_
    refine lv_iconst hx hb dMo_wrong_13 (v := (2 : Int32)) rfl ?_
    refine lv_icmp_eq hx hb dMo_wrong_14 (tgt := 23) rfl (fun hc6 => ?_) (fun hc6 => ?_)
    · replace h := if_t hc6 h
      refine lv_iconst hx hb dMo_wrong_23 (v := (1 : Int32)) rfl ?_
      refine lv_goto hx hb dMo_wrong_24 (tgt := 28) rfl ?_
      exact hJ28 _ (Option.some.inj h) _ _ _ (lv_sub hl [1, 2, 3, 0] rfl) hW
    · replace h := if_f hc6 h
      refine lv_iload_n hx hb dMo_wrong_17 rfl (lv_at hl 1 rfl) ?_
      refine lv_bipush hx hb dMo_wrong_18 (v := (15 : Int32)) rfl ?_
      refine lv_icmp_ne hx hb dMo_wrong_20 (tgt := 27) rfl (fun hc5 => ?_) (fun hc5 => ?_)
      · replace h := if_f hc5 h
        refine lv_iconst hx hb dMo_wrong_27 (v := (0 : Int32)) rfl ?_
        exact hJ28 _ (Option.some.inj h) _ _ _ (lv_sub hl [1, 2, 3, 0] rfl) hW
      · replace h := if_t hc5 h
        refine lv_iconst hx hb dMo_wrong_23 (v := (1 : Int32)) rfl ?_
        refine lv_goto hx hb dMo_wrong_24 (tgt := 28) rfl ?_
        exact hJ28 _ (Option.some.inj h) _ _ _ (lv_sub hl [1, 2, 3, 0] rfl) hW
def fMo_read_L9 (S : Ws) (t0 : Nat) (t1 : Int32) (t2 : Int32) (t3 : Int32) : Int64 × Int32 → Option ((Int64 × Int32) ⊕ (Int64)) :=
  fun (j1, i2) => if i2 < 0 then some (.inr j1) else if (3 : Int32) ≤ t2 then (if t2 = (3 : Int32) then (gR S t0 [8] 8).bind fun r10 => (r10).bind fun a11 => (aI S a11 0 (((8 : Int32) * t1) + (t3 + i2))).bind fun v12 => some v12 else (gR S t0 [8] 9).bind fun r7 => (r7).bind fun a8 => (aI S a8 0 (((8 : Int32) * t1) + (t3 + i2))).bind fun v9 => some v9).bind fun i5 => some (.inl ((j1 <<< ((16 : Int32).toInt64 &&& 63)) ||| i5.toInt64, i2 + (-1))) else (if t2 = (1 : Int32) then (gR S t0 [8] 6).bind fun r19 => (r19).bind fun a20 => (aI S a20 0 (((16 : Int32) * t1) + (t3 + i2))).bind fun v21 => some v21 else (gR S t0 [8] 7).bind fun r16 => (r16).bind fun a17 => (aI S a17 0 (((16 : Int32) * t1) + (t3 + i2))).bind fun v18 => some v18).bind fun i14 => some (.inl ((j1 <<< ((1 : Int32).toInt64 &&& 63)) ||| i14.toInt64, i2 + (-1)))
def fMo_read (t0 : Nat) (t1 : Int32) (t2 : Int32) (t3 : Int32) (t4 : Int32) (S : Ws) : Option (Int64 × Ws) :=
  (lp (fMo_read_L9 S t0 t1 t2 t3) 1000 ((0 : Int64), t4 - (1 : Int32))).bind fun j4 => some (j4, S)
set_option maxRecDepth 100000 in
set_option maxHeartbeats 4000000 in
theorem kMo_read (l : Launch) (D : va_G) (tc : Nat → ClassId) (b : Nat) (t0 : Nat) (t1 : Int32) (t2 : Int32) (t3 : Int32) (t4 : Int32) (S Sz : Ws) (rr : Int64) (h : fMo_read t0 t1 t2 t3 t4 S = some (rr, Sz)) : Met l yMo_read wsMo_read { frames := 1, cells := 0, slots := 0, locals := 40 } (va_Pc [.ref t0, .int t1, .int t2, .int t3, .int t4] (Wp D vwCl (hTy tc) b S)) (va_Ql (fun x (_ : Unit) => x = rr) (fun _ => Wp D vwCl (hTy tc) b Sz) (fun q => b ≤ q)) 0 0 (fun q => b ≤ q) := by
  refine hq_ofW (cc := cMo_read) (maxL := 9) (ret := (some .long)) (by decide) rfl (Nat.le_of_ble_eq_true rfl) fun p e s m args below meth c hx hb hr hts hown hlocks hnm hml H locs ls hl hW => ?_
  have hts : ∀ w ∈ lwG, w.before args s = true := fun w h => hts w (List.mem_cons_of_mem _ h)
  have hown : s.vm.findClass "SerialPlantModel" = some m.cls := hown
  have hl : lv_has ls 9 [(0, .ref t0), (1, .int t1), (2, .int t2), (3, .int t3), (4, .int t4)] := hl
  unfold fMo_read at h
  refine lv_lconst hx hb dMo_read_0 (v := (0 : Int64)) rfl ?_
  refine lv_lstore (lv' := [(5, .long (0 : Int64)), (0, .ref t0), (1, .int t1), (2, .int t2), (3, .int t3), (4, .int t4)]) hx hb dMo_read_1 hl (Nat.le_of_ble_eq_true rfl) (by first | rfl | (simp [List.filter, rf_cat] <;> rfl)) (fun ls hl => ?_)
  refine lv_iload hx hb dMo_read_3 (lv_at hl 5 rfl) ?_
  refine lv_iconst hx hb dMo_read_5 (v := (1 : Int32)) rfl ?_
  refine lv_isub hx hb dMo_read_6 ?_
  refine lv_istore (lv' := [(7, .int (t4 - (1 : Int32))), (5, .long (0 : Int64)), (0, .ref t0), (1, .int t1), (2, .int t2), (3, .int t3), (4, .int t4)]) hx hb dMo_read_7 hl (Nat.le_of_ble_eq_true rfl) (by first | rfl | (simp [List.filter, rf_cat] <;> rfl)) (fun ls hl => ?_)
  replace h := ob h; obtain ⟨j4, ej4, h⟩ := h
  have hX : (fun q' => ∀ (H : Heap) (locs : List Loc) (ls : Array Slot), lv_has ls 9 [(5, .long q')] → Wd D vwCl (hTy tc) b S s H locs → W p l e { frames := 1, cells := 0, slots := 0, locals := 40 } s m args below meth c H locs 0 0 (MQ below (va_Ql (fun x (_ : Unit) => x = rr) (fun _ => Wp D vwCl (hTy tc) b Sz) (fun q => b ≤ q)) args s 0 0 (fun q => b ≤ q)) (F0 m 115 ls [])) j4 := by
    intro H locs ls hl hW
    refine lv_lload hx hb dMo_read_115 (lv_at hl 0 rfl) ?_
    exact hq_lret hx hb hr hlocks h (Nat.le_of_ble_eq_true rfl) (Nat.le_of_ble_eq_true rfl) hW dMo_read_117
  refine lp_ind (P := fun q' => ∀ (H : Heap) (locs : List Loc) (ls : Array Slot), lv_has ls 9 [(0, .ref t0), (1, .int t1), (2, .int t2), (3, .int t3), (5, .long q'.1), (7, .int q'.2)] → Wd D vwCl (hTy tc) b S s H locs → W p l e { frames := 1, cells := 0, slots := 0, locals := 40 } s m args below meth c H locs 0 0 (MQ below (va_Ql (fun x (_ : Unit) => x = rr) (fun _ => Wp D vwCl (hTy tc) b Sz) (fun q => b ≤ q)) args s 0 0 (fun q => b ≤ q)) (F0 m 9 ls [])) (Q := fun q' => ∀ (H : Heap) (locs : List Loc) (ls : Array Slot), lv_has ls 9 [(5, .long q')] → Wd D vwCl (hTy tc) b S s H locs → W p l e { frames := 1, cells := 0, slots := 0, locals := 40 } s m args below meth c H locs 0 0 (MQ below (va_Ql (fun x (_ : Unit) => x = rr) (fun _ => Wp D vwCl (hTy tc) b Sz) (fun q => b ≤ q)) args s 0 0 (fun q => b ≤ q)) (F0 m 115 ls [])) (fun q' x3 h hin hex => ?_) hX _ _ ej4 _ _ _ (lv_sub hl [2, 3, 4, 5, 1, 0] rfl) hW
  obtain ⟨j1, i2⟩ := q'
  intro H locs ls hl hW
  unfold fMo_read_L9 at h
  refine lv_iload hx hb dMo_read_9 (lv_at hl 5 rfl) ?_
  refine lv_if_lt hx hb dMo_read_11 (tgt := 115) rfl (fun hc24 => ?_) (fun hc24 => ?_)
  · replace h := if_t hc24 h
    exact hex _ (Option.some.inj h).symm _ _ _ (lv_sub hl [4] rfl) hW
  · replace h := if_f hc24 h
    refine lv_iload_n hx hb dMo_read_14 rfl (lv_at hl 3 rfl) ?_
    refine lv_iload hx hb dMo_read_15 (lv_at hl 5 rfl) ?_
    refine lv_iadd hx hb dMo_read_17 ?_
    refine lv_istore (lv' := [(8, .int (t3 + i2)), (0, .ref t0), (1, .int t1), (2, .int t2), (3, .int t3), (5, .long j1), (7, .int i2)]) hx hb dMo_read_18 hl (Nat.le_of_ble_eq_true rfl) (by first | rfl | (simp [List.filter, rf_cat] <;> rfl)) (fun ls hl => ?_)
    refine lv_iload_n hx hb dMo_read_20 rfl (lv_at hl 3 rfl) ?_
    refine lv_iconst hx hb dMo_read_21 (v := (3 : Int32)) rfl ?_
    refine lv_icmp_ge hx hb dMo_read_22 (tgt := 68) rfl (fun hc23 => ?_) (fun hc23 => ?_)
    · replace h := if_t hc23 h
      refine lv_lload hx hb dMo_read_68 (lv_at hl 5 rfl) ?_
      refine lv_bipush hx hb dMo_read_70 (v := (16 : Int32)) rfl ?_
      refine lv_lshl hx hb dMo_read_72 (v := j1 <<< ((16 : Int32).toInt64 &&& 63)) rfl ?_
      refine lv_iload_n hx hb dMo_read_73 rfl (lv_at hl 3 rfl) ?_
      refine lv_iconst hx hb dMo_read_74 (v := (3 : Int32)) rfl ?_
      replace h := ob h; obtain ⟨q6, e105, h⟩ := h
      have hJ105 : ∀ q', q' = q6 → ∀ (H : Heap) (locs : List Loc) (ls : Array Slot), lv_has ls 9 [(0, .ref t0), (1, .int t1), (2, .int t2), (3, .int t3), (7, .int i2)] → Wd D vwCl (hTy tc) b S s H locs → W p l e { frames := 1, cells := 0, slots := 0, locals := 40 } s m args below meth c H locs 0 0 (MQ below (va_Ql (fun x (_ : Unit) => x = rr) (fun _ => Wp D vwCl (hTy tc) b Sz) (fun q => b ≤ q)) args s 0 0 (fun q => b ≤ q)) (F0 m 105 ls [.int q', .long (j1 <<< ((16 : Int32).toInt64 &&& 63))]) := by
        intro i5 hq'; subst hq'
        intro H locs ls hl hW
        refine lv_i2l hx hb dMo_read_105 (v := i5.toInt64) rfl ?_
        refine lv_lor hx hb dMo_read_106 ?_
        refine lv_lstore (lv' := [(5, .long ((j1 <<< ((16 : Int32).toInt64 &&& 63)) ||| i5.toInt64)), (0, .ref t0), (1, .int t1), (2, .int t2), (3, .int t3), (7, .int i2)]) hx hb dMo_read_107 hl (Nat.le_of_ble_eq_true rfl) (by first | rfl | (simp [List.filter, rf_cat] <;> rfl)) (fun ls hl => ?_)
        refine lv_iinc (k := 5) (v := i2 + (-1)) (lv' := [(7, .int (i2 + (-1))), (5, .long ((j1 <<< ((16 : Int32).toInt64 &&& 63)) ||| i5.toInt64)), (0, .ref t0), (1, .int t1), (2, .int t2), (3, .int t3)]) hx hb dMo_read_109 hl rfl rfl (Nat.le_of_ble_eq_true rfl) (by first | rfl | (simp [List.filter, rf_cat] <;> rfl)) (fun ls hl => ?_)
        refine lv_goto hx hb dMo_read_112 (tgt := 9) rfl ?_
        exact hin _ (Option.some.inj h).symm _ _ _ (lv_sub hl [2, 3, 4, 5, 1, 0] rfl) hW
      clear h; have h := e105; clear e105
      refine lv_icmp_ne hx hb dMo_read_75 (tgt := 93) rfl (fun hc13 => ?_) (fun hc13 => ?_)
      · replace h := if_f hc13 h
        refine lv_aload_n hx hb dMo_read_93 rfl (lv_at hl 1 rfl) ?_
        replace h := ob h; obtain ⟨r7, er7, h⟩ := h
        refine hq_get hx hb hts hown hW (gR_V er7) (F_Mo_35 hts) dMo_read_94 ?_
        refine lv_bipush hx hb dMo_read_97 (v := (8 : Int32)) rfl ?_
        refine lv_iload_n hx hb dMo_read_99 rfl (lv_at hl 2 rfl) ?_
        refine lv_imul hx hb dMo_read_100 ?_
        refine lv_iload hx hb dMo_read_101 (lv_at hl 0 rfl) ?_
        refine lv_iadd hx hb dMo_read_103 ?_
        replace h := ob h; obtain ⟨a8, hra8, h⟩ := h
        subst hra8
        replace h := ob h; obtain ⟨v9, ev9, h⟩ := h
        refine hq_iald hx hb hW ev9 rfl dMo_read_104 ?_
        exact hJ105 _ (Option.some.inj h) _ _ _ (lv_sub hl [1, 2, 3, 4, 6] rfl) hW
      · replace h := if_t hc13 h
        refine lv_aload_n hx hb dMo_read_78 rfl (lv_at hl 1 rfl) ?_
        replace h := ob h; obtain ⟨r10, er10, h⟩ := h
        refine hq_get hx hb hts hown hW (gR_V er10) (F_Mo_32 hts) dMo_read_79 ?_
        refine lv_bipush hx hb dMo_read_82 (v := (8 : Int32)) rfl ?_
        refine lv_iload_n hx hb dMo_read_84 rfl (lv_at hl 2 rfl) ?_
        refine lv_imul hx hb dMo_read_85 ?_
        refine lv_iload hx hb dMo_read_86 (lv_at hl 0 rfl) ?_
        refine lv_iadd hx hb dMo_read_88 ?_
        replace h := ob h; obtain ⟨a11, hra11, h⟩ := h
        subst hra11
        replace h := ob h; obtain ⟨v12, ev12, h⟩ := h
        refine hq_iald hx hb hW ev12 rfl dMo_read_89 ?_
        refine lv_goto hx hb dMo_read_90 (tgt := 105) rfl ?_
        exact hJ105 _ (Option.some.inj h) _ _ _ (lv_sub hl [1, 2, 3, 4, 6] rfl) hW
    · replace h := if_f hc23 h
      refine lv_lload hx hb dMo_read_25 (lv_at hl 5 rfl) ?_
      refine lv_iconst hx hb dMo_read_27 (v := (1 : Int32)) rfl ?_
      refine lv_lshl hx hb dMo_read_28 (v := j1 <<< ((1 : Int32).toInt64 &&& 63)) rfl ?_
      refine lv_iload_n hx hb dMo_read_29 rfl (lv_at hl 3 rfl) ?_
      refine lv_iconst hx hb dMo_read_30 (v := (1 : Int32)) rfl ?_
      replace h := ob h; obtain ⟨q15, e61, h⟩ := h
      have hJ61 : ∀ q', q' = q15 → ∀ (H : Heap) (locs : List Loc) (ls : Array Slot), lv_has ls 9 [(0, .ref t0), (1, .int t1), (2, .int t2), (3, .int t3), (7, .int i2)] → Wd D vwCl (hTy tc) b S s H locs → W p l e { frames := 1, cells := 0, slots := 0, locals := 40 } s m args below meth c H locs 0 0 (MQ below (va_Ql (fun x (_ : Unit) => x = rr) (fun _ => Wp D vwCl (hTy tc) b Sz) (fun q => b ≤ q)) args s 0 0 (fun q => b ≤ q)) (F0 m 61 ls [.int q', .long (j1 <<< ((1 : Int32).toInt64 &&& 63))]) := by
        intro i14 hq'; subst hq'
        intro H locs ls hl hW
        refine lv_i2l hx hb dMo_read_61 (v := i14.toInt64) rfl ?_
        refine lv_lor hx hb dMo_read_62 ?_
        refine lv_lstore (lv' := [(5, .long ((j1 <<< ((1 : Int32).toInt64 &&& 63)) ||| i14.toInt64)), (0, .ref t0), (1, .int t1), (2, .int t2), (3, .int t3), (7, .int i2)]) hx hb dMo_read_63 hl (Nat.le_of_ble_eq_true rfl) (by first | rfl | (simp [List.filter, rf_cat] <;> rfl)) (fun ls hl => ?_)
        refine lv_goto hx hb dMo_read_65 (tgt := 109) rfl ?_
        refine lv_iinc (k := 5) (v := i2 + (-1)) (lv' := [(7, .int (i2 + (-1))), (5, .long ((j1 <<< ((1 : Int32).toInt64 &&& 63)) ||| i14.toInt64)), (0, .ref t0), (1, .int t1), (2, .int t2), (3, .int t3)]) hx hb dMo_read_109 hl rfl rfl (Nat.le_of_ble_eq_true rfl) (by first | rfl | (simp [List.filter, rf_cat] <;> rfl)) (fun ls hl => ?_)
        refine lv_goto hx hb dMo_read_112 (tgt := 9) rfl ?_
        exact hin _ (Option.some.inj h).symm _ _ _ (lv_sub hl [2, 3, 4, 5, 1, 0] rfl) hW
      clear h; have h := e61; clear e61
      refine lv_icmp_ne hx hb dMo_read_31 (tgt := 49) rfl (fun hc22 => ?_) (fun hc22 => ?_)
      · replace h := if_f hc22 h
        refine lv_aload_n hx hb dMo_read_49 rfl (lv_at hl 1 rfl) ?_
        replace h := ob h; obtain ⟨r16, er16, h⟩ := h
        refine hq_get hx hb hts hown hW (gR_V er16) (F_Mo_29 hts) dMo_read_50 ?_
        refine lv_bipush hx hb dMo_read_53 (v := (16 : Int32)) rfl ?_
        refine lv_iload_n hx hb dMo_read_55 rfl (lv_at hl 2 rfl) ?_
        refine lv_imul hx hb dMo_read_56 ?_
        refine lv_iload hx hb dMo_read_57 (lv_at hl 0 rfl) ?_
        refine lv_iadd hx hb dMo_read_59 ?_
        replace h := ob h; obtain ⟨a17, hra17, h⟩ := h
        subst hra17
        replace h := ob h; obtain ⟨v18, ev18, h⟩ := h
        refine hq_iald hx hb hW ev18 rfl dMo_read_60 ?_
        exact hJ61 _ (Option.some.inj h) _ _ _ (lv_sub hl [1, 2, 3, 4, 6] rfl) hW
      · replace h := if_t hc22 h
        refine lv_aload_n hx hb dMo_read_34 rfl (lv_at hl 1 rfl) ?_
        replace h := ob h; obtain ⟨r19, er19, h⟩ := h
        refine hq_get hx hb hts hown hW (gR_V er19) (F_Mo_26 hts) dMo_read_35 ?_
        refine lv_bipush hx hb dMo_read_38 (v := (16 : Int32)) rfl ?_
        refine lv_iload_n hx hb dMo_read_40 rfl (lv_at hl 2 rfl) ?_
        refine lv_imul hx hb dMo_read_41 ?_
        refine lv_iload hx hb dMo_read_42 (lv_at hl 0 rfl) ?_
        refine lv_iadd hx hb dMo_read_44 ?_
        replace h := ob h; obtain ⟨a20, hra20, h⟩ := h
        subst hra20
        replace h := ob h; obtain ⟨v21, ev21, h⟩ := h
        refine hq_iald hx hb hW ev21 rfl dMo_read_45 ?_
        refine lv_goto hx hb dMo_read_46 (tgt := 61) rfl ?_
        exact hJ61 _ (Option.some.inj h) _ _ _ (lv_sub hl [1, 2, 3, 4, 6] rfl) hW
def fMo_write_L3 (t0 : Nat) (t1 : Int32) (t2 : Int32) (t3 : Int32) (t4 : Int32) (t5 : Int64) : Int32 × Ws → Option ((Int32 × Ws) ⊕ (Ws)) :=
  fun (i1, S2) => if t4 ≤ i1 then some (.inr S2) else if t2 = (15 : Int32) then (gR S2 t0 [8] 6).bind fun r10 => (r10).bind fun a11 => (sI S2 a11 0 ((((16 : Int32) * t1) + t3) + i1) ((((t5.toUInt64 >>> (i1.toInt64.toUInt64 &&& Int64.toUInt64 63)).toInt64) &&& (1 : Int64)).toInt32)).bind fun S12 => some (.inl (i1 + 1, S12)) else (gR S2 t0 [8] 8).bind fun r5 => (fMo_word t5 i1 S2).bind fun (v7, S6) => (r5).bind fun a8 => (sI S6 a8 0 ((((8 : Int32) * t1) + t3) + i1) v7).bind fun S9 => some (.inl (i1 + 1, S9))
def fMo_write (t0 : Nat) (t1 : Int32) (t2 : Int32) (t3 : Int32) (t4 : Int32) (t5 : Int64) (S : Ws) : Option (Ws) :=
  (lp (fMo_write_L3 t0 t1 t2 t3 t4 t5) 1000 ((0 : Int32), S)).bind fun S4 => some S4
set_option maxRecDepth 100000 in
set_option maxHeartbeats 4000000 in
theorem kMo_write (l : Launch) (D : va_G) (tc : Nat → ClassId) (b : Nat) (t0 : Nat) (t1 : Int32) (t2 : Int32) (t3 : Int32) (t4 : Int32) (t5 : Int64) (S Sz : Ws) (h : fMo_write t0 t1 t2 t3 t4 t5 S = some Sz) : Met l yMo_write wsMo_write { frames := 2, cells := 0, slots := 0, locals := 80 } (va_Pc [.ref t0, .int t1, .int t2, .int t3, .int t4, .long t5] (Wp D vwCl (hTy tc) b S)) (va_Qv (fun _ : Unit => True) (fun _ => Wp D vwCl (hTy tc) b Sz) (fun q => b ≤ q)) 0 0 (fun q => b ≤ q) := by
  refine hq_ofW (cc := cMo_write) (maxL := 8) (ret := none) (by decide) rfl (Nat.le_of_ble_eq_true rfl) fun p e s m args below meth c hx hb hr hts hown hlocks hnm hml H locs ls hl hW => ?_
  have hts : ∀ w ∈ lwG, w.before args s = true := fun w h => hts w (List.mem_cons_of_mem _ h)
  have hown : s.vm.findClass "SerialPlantModel" = some m.cls := hown
  have hl : lv_has ls 8 [(0, .ref t0), (1, .int t1), (2, .int t2), (3, .int t3), (4, .int t4), (5, .long t5)] := hl
  unfold fMo_write at h
  refine lv_iconst hx hb dMo_write_0 (v := (0 : Int32)) rfl ?_
  refine lv_istore (lv' := [(7, .int (0 : Int32)), (0, .ref t0), (1, .int t1), (2, .int t2), (3, .int t3), (4, .int t4), (5, .long t5)]) hx hb dMo_write_1 hl (Nat.le_of_ble_eq_true rfl) (by first | rfl | (simp [List.filter, rf_cat] <;> rfl)) (fun ls hl => ?_)
  replace h := ob h; obtain ⟨S4, eS4, h⟩ := h
  have hX : (fun q' => ∀ (H : Heap) (locs : List Loc) (ls : Array Slot), lv_has ls 8 [] → Wd D vwCl (hTy tc) b q' s H locs → W p l e { frames := 2, cells := 0, slots := 0, locals := 80 } s m args below meth c H locs 0 0 (MQ below (va_Qv (fun _ : Unit => True) (fun _ => Wp D vwCl (hTy tc) b Sz) (fun q => b ≤ q)) args s 0 0 (fun q => b ≤ q)) (F0 m 68 ls [])) S4 := by
    intro H locs ls hl hW
    exact hq_vret hx hb hr hlocks h (Nat.le_of_ble_eq_true rfl) (Nat.le_of_ble_eq_true rfl) hW dMo_write_68
  refine lp_ind (P := fun q' => ∀ (H : Heap) (locs : List Loc) (ls : Array Slot), lv_has ls 8 [(0, .ref t0), (1, .int t1), (2, .int t2), (3, .int t3), (4, .int t4), (5, .long t5), (7, .int q'.1)] → Wd D vwCl (hTy tc) b q'.2 s H locs → W p l e { frames := 2, cells := 0, slots := 0, locals := 80 } s m args below meth c H locs 0 0 (MQ below (va_Qv (fun _ : Unit => True) (fun _ => Wp D vwCl (hTy tc) b Sz) (fun q => b ≤ q)) args s 0 0 (fun q => b ≤ q)) (F0 m 3 ls [])) (Q := fun q' => ∀ (H : Heap) (locs : List Loc) (ls : Array Slot), lv_has ls 8 [] → Wd D vwCl (hTy tc) b q' s H locs → W p l e { frames := 2, cells := 0, slots := 0, locals := 80 } s m args below meth c H locs 0 0 (MQ below (va_Qv (fun _ : Unit => True) (fun _ => Wp D vwCl (hTy tc) b Sz) (fun q => b ≤ q)) args s 0 0 (fun q => b ≤ q)) (F0 m 68 ls [])) (fun q' x3 h hin hex => ?_) hX _ _ eS4 _ _ _ (lv_sub hl [1, 2, 3, 4, 5, 6, 0] rfl) hW
  obtain ⟨i1, S2⟩ := q'
  intro H locs ls hl hW
  unfold fMo_write_L3 at h
  refine lv_iload hx hb dMo_write_3 (lv_at hl 6 rfl) ?_
  refine lv_iload hx hb dMo_write_5 (lv_at hl 4 rfl) ?_
  refine lv_icmp_ge hx hb dMo_write_7 (tgt := 68) rfl (fun hc14 => ?_) (fun hc14 => ?_)
  · replace h := if_t hc14 h
    exact hex _ (Option.some.inj h).symm _ _ _ (lv_sub hl [] rfl) hW
  · replace h := if_f hc14 h
    refine lv_iload_n hx hb dMo_write_10 rfl (lv_at hl 2 rfl) ?_
    refine lv_bipush hx hb dMo_write_11 (v := (15 : Int32)) rfl ?_
    refine lv_icmp_ne hx hb dMo_write_13 (tgt := 41) rfl (fun hc13 => ?_) (fun hc13 => ?_)
    · replace h := if_f hc13 h
      refine lv_aload_n hx hb dMo_write_41 rfl (lv_at hl 0 rfl) ?_
      replace h := ob h; obtain ⟨r5, er5, h⟩ := h
      refine hq_get hx hb hts hown hW (gR_V er5) (F_Mo_32 hts) dMo_write_42 ?_
      refine lv_bipush hx hb dMo_write_45 (v := (8 : Int32)) rfl ?_
      refine lv_iload_n hx hb dMo_write_47 rfl (lv_at hl 1 rfl) ?_
      refine lv_imul hx hb dMo_write_48 ?_
      refine lv_iload_n hx hb dMo_write_49 rfl (lv_at hl 3 rfl) ?_
      refine lv_iadd hx hb dMo_write_50 ?_
      refine lv_iload hx hb dMo_write_51 (lv_at hl 6 rfl) ?_
      refine lv_iadd hx hb dMo_write_53 ?_
      refine lv_lload hx hb dMo_write_54 (lv_at hl 5 rfl) ?_
      refine lv_iload hx hb dMo_write_56 (lv_at hl 6 rfl) ?_
      replace h := ob h; obtain ⟨⟨v7, S6⟩, eS6, h⟩ := h
      refine hq_calli (ce := 0) (sl := 0) (va_runS (As := [.long t5, .int i1]) (rest := [.int ((((8 : Int32) * t1) + t3) + i1), va_rf r5]) ⟨hx, hb, hml, hown, hts⟩ (kMo_word l D tc b t5 i1 S2 _ _ eS6) (cwS 2 hts GS_Mo_142 rfl rfl rfl hd_Mo_word_S_Mo ⟨Nat.le_of_ble_eq_true rfl, Nat.le_of_ble_eq_true rfl⟩) (hq_preS hW) rfl rfl hl.1 rfl (lv_room (by first | exact Nat.le_of_ble_eq_true rfl | (simp only [List.map, rf_cat]; exact Nat.le_of_ble_eq_true rfl))) dMo_write_58 ⟨Nat.le_of_ble_eq_true rfl, Nat.le_of_ble_eq_true rfl⟩) hW rfl rfl (fun H locs hW => ?_)
      replace h := ob h; obtain ⟨a8, hra8, h⟩ := h
      subst hra8
      replace h := ob h; obtain ⟨S9, eS9, h⟩ := h
      refine hq_iast hx hb hW eS9 rfl dMo_write_61 (fun H locs hW => ?_)
      refine lv_iinc (k := 6) (v := i1 + 1) (lv' := [(7, .int (i1 + 1)), (0, .ref t0), (1, .int t1), (2, .int t2), (3, .int t3), (4, .int t4), (5, .long t5)]) hx hb dMo_write_62 hl rfl rfl (Nat.le_of_ble_eq_true rfl) (by first | rfl | (simp [List.filter, rf_cat] <;> rfl)) (fun ls hl => ?_)
      refine lv_goto hx hb dMo_write_65 (tgt := 3) rfl ?_
      exact hin _ (Option.some.inj h).symm _ _ _ (lv_sub hl [1, 2, 3, 4, 5, 6, 0] rfl) hW
    · replace h := if_t hc13 h
      refine lv_aload_n hx hb dMo_write_16 rfl (lv_at hl 0 rfl) ?_
      replace h := ob h; obtain ⟨r10, er10, h⟩ := h
      refine hq_get hx hb hts hown hW (gR_V er10) (F_Mo_26 hts) dMo_write_17 ?_
      refine lv_bipush hx hb dMo_write_20 (v := (16 : Int32)) rfl ?_
      refine lv_iload_n hx hb dMo_write_22 rfl (lv_at hl 1 rfl) ?_
      refine lv_imul hx hb dMo_write_23 ?_
      refine lv_iload_n hx hb dMo_write_24 rfl (lv_at hl 3 rfl) ?_
      refine lv_iadd hx hb dMo_write_25 ?_
      refine lv_iload hx hb dMo_write_26 (lv_at hl 6 rfl) ?_
      refine lv_iadd hx hb dMo_write_28 ?_
      refine lv_lload hx hb dMo_write_29 (lv_at hl 5 rfl) ?_
      refine lv_iload hx hb dMo_write_31 (lv_at hl 6 rfl) ?_
      refine lv_lushr hx hb dMo_write_33 (v := (t5.toUInt64 >>> (i1.toInt64.toUInt64 &&& Int64.toUInt64 63)).toInt64) rfl ?_
      refine lv_lconst hx hb dMo_write_34 (v := (1 : Int64)) rfl ?_
      refine lv_land hx hb dMo_write_35 ?_
      refine lv_l2i hx hb dMo_write_36 (v := (((t5.toUInt64 >>> (i1.toInt64.toUInt64 &&& Int64.toUInt64 63)).toInt64) &&& (1 : Int64)).toInt32) rfl ?_
      replace h := ob h; obtain ⟨a11, hra11, h⟩ := h
      subst hra11
      replace h := ob h; obtain ⟨S12, eS12, h⟩ := h
      refine hq_iast hx hb hW eS12 rfl dMo_write_37 (fun H locs hW => ?_)
      refine lv_goto hx hb dMo_write_38 (tgt := 62) rfl ?_
      refine lv_iinc (k := 6) (v := i1 + 1) (lv' := [(7, .int (i1 + 1)), (0, .ref t0), (1, .int t1), (2, .int t2), (3, .int t3), (4, .int t4), (5, .long t5)]) hx hb dMo_write_62 hl rfl rfl (Nat.le_of_ble_eq_true rfl) (by first | rfl | (simp [List.filter, rf_cat] <;> rfl)) (fun ls hl => ?_)
      refine lv_goto hx hb dMo_write_65 (tgt := 3) rfl ?_
      exact hin _ (Option.some.inj h).symm _ _ _ (lv_sub hl [1, 2, 3, 4, 5, 6, 0] rfl) hW
def fMo_act (t0 : Nat) (t1 : Int32) (t2 : Int32) (t3 : Int32) (t4 : Int32) (t5 : Int64) (S : Ws) : Option (Ws) :=
  (fMo_word t5 (0 : Int32) S).bind fun (v2, S1) => (fMo_word t5 (1 : Int32) S1).bind fun (v4, S3) => (pV S3 t0 [8] 40 (.long v2.toInt64)).bind fun S5 => if t2 = 5 then (gR S5 t0 [8] 6).bind fun r7 => (if v2 = 0 then some (0 : Int32) else some (1 : Int32)).bind fun i8 => (r7).bind fun a11 => (sI S5 a11 0 (((16 : Int32) * t1) + t3) i8).bind fun S12 => some S12 else if t2 = 6 then (gR S5 t0 [8] 8).bind fun r14 => (r14).bind fun a15 => (sI S5 a15 0 (((8 : Int32) * t1) + t3) v2).bind fun S16 => some S16 else if t2 = 7 ∨ t2 = 9 ∨ t2 = 10 ∨ t2 = 11 ∨ t2 = 12 ∨ t2 = 13 ∨ t2 = 14 ∨ t2 = 17 ∨ t2 = 18 ∨ t2 = 19 ∨ t2 = 20 ∨ t2 = 21 then (gO S5 t0 [8]).bind fun q20 => (fMo_read t0 t1 t2 t3 t4 S5).bind fun (u19, S18) => (pV S18 t0 [8] 40 (.long u19)).bind fun S21 => some S21 else if t2 = 8 then (gR S5 t0 [8] 5).bind fun r24 => (if t3 = (4 : Int32) then some (1 : Int32) else if t3 = 0 then (gR S5 t0 [8] 5).bind fun r27 => (r27).bind fun a28 => (aI S5 a28 1 t1).bind fun v29 => if v29 = 0 then some (0 : Int32) else some (1 : Int32) else some (0 : Int32)).bind fun i25 => (r24).bind fun a33 => (bz i25).bind fun z35 => (sI S5 a33 1 t1 i25).bind fun S34 => some S34 else if t2 = 15 ∨ t2 = 16 then (gO S5 t0 [8]).bind fun q38 => (fMo_write t0 t1 t2 t3 t4 t5 S5).bind fun S37 => (pV S37 t0 [8] 40 (.long t4.toInt64)).bind fun S39 => some S39 else if t2 = 22 then (gR S5 t0 [8] 8).bind fun r42 => (gR S5 t0 [8] 8).bind fun r43 => (r43).bind fun a44 => (aI S5 a44 0 (((8 : Int32) * t1) + t3)).bind fun v45 => (r42).bind fun a46 => (sI S5 a46 0 (((8 : Int32) * t1) + t3) ((v45 &&& v2) ||| (v4 &&& (v2 ^^^ (-1 : Int32))))).bind fun S47 => (pV S47 t0 [8] 40 (.long (v2.toInt64 ||| (v4.toInt64 <<< ((16 : Int32).toInt64 &&& 63))))).bind fun S48 => some S48 else (gO S5 t0 [8]).bind fun q51 => (fMo_read t0 t1 t2 t3 t4 S5).bind fun (u50, S49) => (pV S49 t0 [8] 40 (.long u50)).bind fun S52 => some S52
set_option maxRecDepth 100000 in
set_option maxHeartbeats 4000000 in
theorem kMo_act (l : Launch) (D : va_G) (tc : Nat → ClassId) (b : Nat) (t0 : Nat) (t1 : Int32) (t2 : Int32) (t3 : Int32) (t4 : Int32) (t5 : Int64) (S Sz : Ws) (h : fMo_act t0 t1 t2 t3 t4 t5 S = some Sz) : Met l yMo_act wsMo_act { frames := 3, cells := 0, slots := 0, locals := 120 } (va_Pc [.ref t0, .int t1, .int t2, .int t3, .int t4, .long t5] (Wp D vwCl (hTy tc) b S)) (va_Qv (fun _ : Unit => True) (fun _ => Wp D vwCl (hTy tc) b Sz) (fun q => b ≤ q)) 0 0 (fun q => b ≤ q) := by
  refine hq_ofW (cc := cMo_act) (maxL := 9) (ret := none) (by decide) rfl (Nat.le_of_ble_eq_true rfl) fun p e s m args below meth c hx hb hr hts hown hlocks hnm hml H locs ls hl hW => ?_
  have hts : ∀ w ∈ lwG, w.before args s = true := fun w h => hts w (List.mem_cons_of_mem _ h)
  have hown : s.vm.findClass "SerialPlantModel" = some m.cls := hown
  have hl : lv_has ls 9 [(0, .ref t0), (1, .int t1), (2, .int t2), (3, .int t3), (4, .int t4), (5, .long t5)] := hl
  unfold fMo_act at h
  refine lv_lload hx hb dMo_act_0 (lv_at hl 5 rfl) ?_
  refine lv_iconst hx hb dMo_act_2 (v := (0 : Int32)) rfl ?_
  replace h := ob h; obtain ⟨⟨v2, S1⟩, eS1, h⟩ := h
  refine hq_calli (ce := 0) (sl := 0) (va_runS (As := [.long t5, .int (0 : Int32)]) (rest := []) ⟨hx, hb, hml, hown, hts⟩ (kMo_word l D tc b t5 (0 : Int32) S _ _ eS1) (cwS 2 hts GS_Mo_142 rfl rfl rfl hd_Mo_word_S_Mo ⟨Nat.le_of_ble_eq_true rfl, Nat.le_of_ble_eq_true rfl⟩) (hq_preS hW) rfl rfl hl.1 rfl (lv_room (by first | exact Nat.le_of_ble_eq_true rfl | (simp only [List.map, rf_cat]; exact Nat.le_of_ble_eq_true rfl))) dMo_act_3 ⟨Nat.le_of_ble_eq_true rfl, Nat.le_of_ble_eq_true rfl⟩) hW rfl rfl (fun H locs hW => ?_)
  refine lv_istore (lv' := [(7, .int v2), (0, .ref t0), (1, .int t1), (2, .int t2), (3, .int t3), (4, .int t4), (5, .long t5)]) hx hb dMo_act_6 hl (Nat.le_of_ble_eq_true rfl) (by first | rfl | (simp [List.filter, rf_cat] <;> rfl)) (fun ls hl => ?_)
  refine lv_lload hx hb dMo_act_8 (lv_at hl 6 rfl) ?_
  refine lv_iconst hx hb dMo_act_10 (v := (1 : Int32)) rfl ?_
  replace h := ob h; obtain ⟨⟨v4, S3⟩, eS3, h⟩ := h
  refine hq_calli (ce := 0) (sl := 0) (va_runS (As := [.long t5, .int (1 : Int32)]) (rest := []) ⟨hx, hb, hml, hown, hts⟩ (kMo_word l D tc b t5 (1 : Int32) S1 _ _ eS3) (cwS 2 hts GS_Mo_142 rfl rfl rfl hd_Mo_word_S_Mo ⟨Nat.le_of_ble_eq_true rfl, Nat.le_of_ble_eq_true rfl⟩) (hq_preS hW) rfl rfl hl.1 rfl (lv_room (by first | exact Nat.le_of_ble_eq_true rfl | (simp only [List.map, rf_cat]; exact Nat.le_of_ble_eq_true rfl))) dMo_act_11 ⟨Nat.le_of_ble_eq_true rfl, Nat.le_of_ble_eq_true rfl⟩) hW rfl rfl (fun H locs hW => ?_)
  refine lv_istore (lv' := [(8, .int v4), (7, .int v2), (0, .ref t0), (1, .int t1), (2, .int t2), (3, .int t3), (4, .int t4), (5, .long t5)]) hx hb dMo_act_14 hl (Nat.le_of_ble_eq_true rfl) (by first | rfl | (simp [List.filter, rf_cat] <;> rfl)) (fun ls hl => ?_)
  refine lv_aload_n hx hb dMo_act_16 rfl (lv_at hl 2 rfl) ?_
  refine lv_iload hx hb dMo_act_17 (lv_at hl 1 rfl) ?_
  refine lv_i2l hx hb dMo_act_19 (v := v2.toInt64) rfl ?_
  replace h := ob h; obtain ⟨S5, eS5, h⟩ := h
  refine hq_put hx hb hts hown hW eS5 (F_Mo_167 hts) P_Mo_Mo_40 rfl rfl dMo_act_20 (fun H locs hW => ?_)
  refine lv_iload_n hx hb dMo_act_23 rfl (lv_at hl 4 rfl) ?_
  by_cases hc6 : t2 = 5
  · replace h := if_t hc6 h
    refine lv_tableIn hx hb dMo_act_24 (tgt := 112) (by rw [hc6]; decide) (by rw [hc6]; decide) (by rw [hc6] <;> rfl) rfl ?_
    refine lv_aload_n hx hb dMo_act_112 rfl (lv_at hl 2 rfl) ?_
    replace h := ob h; obtain ⟨r7, er7, h⟩ := h
    refine hq_get hx hb hts hown hW (gR_V er7) (F_Mo_26 hts) dMo_act_113 ?_
    refine lv_bipush hx hb dMo_act_116 (v := (16 : Int32)) rfl ?_
    refine lv_iload_n hx hb dMo_act_118 rfl (lv_at hl 3 rfl) ?_
    refine lv_imul hx hb dMo_act_119 ?_
    refine lv_iload_n hx hb dMo_act_120 rfl (lv_at hl 5 rfl) ?_
    refine lv_iadd hx hb dMo_act_121 ?_
    refine lv_iload hx hb dMo_act_122 (lv_at hl 1 rfl) ?_
    replace h := ob h; obtain ⟨q9, e132, h⟩ := h
    have hJ132 : ∀ q', q' = q9 → ∀ (H : Heap) (locs : List Loc) (ls : Array Slot), lv_has ls 9 [] → Wd D vwCl (hTy tc) b S5 s H locs → W p l e { frames := 3, cells := 0, slots := 0, locals := 120 } s m args below meth c H locs 0 0 (MQ below (va_Qv (fun _ : Unit => True) (fun _ => Wp D vwCl (hTy tc) b Sz) (fun q => b ≤ q)) args s 0 0 (fun q => b ≤ q)) (F0 m 132 ls [.int q', .int (((16 : Int32) * t1) + t3), va_rf r7]) := by
      intro i8 hq'; subst hq'
      intro H locs ls hl hW
      replace h := ob h; obtain ⟨a11, hra11, h⟩ := h
      subst hra11
      replace h := ob h; obtain ⟨S12, eS12, h⟩ := h
      refine hq_iast hx hb hW eS12 rfl dMo_act_132 (fun H locs hW => ?_)
      refine lv_goto hx hb dMo_act_133 (tgt := 268) rfl ?_
      exact hq_vret hx hb hr hlocks h (Nat.le_of_ble_eq_true rfl) (Nat.le_of_ble_eq_true rfl) hW dMo_act_268
    clear h; have h := e132; clear e132
    refine lv_if_ne hx hb dMo_act_124 (tgt := 131) rfl (fun hc10 => ?_) (fun hc10 => ?_)
    · replace h := if_f hc10 h
      refine lv_iconst hx hb dMo_act_131 (v := (1 : Int32)) rfl ?_
      exact hJ132 _ (Option.some.inj h) _ _ _ (lv_sub hl [] rfl) hW
    · replace h := if_t hc10 h
      refine lv_iconst hx hb dMo_act_127 (v := (0 : Int32)) rfl ?_
      refine lv_goto hx hb dMo_act_128 (tgt := 132) rfl ?_
      exact hJ132 _ (Option.some.inj h) _ _ _ (lv_sub hl [] rfl) hW
  · replace h := if_f hc6 h
    have hc6n0 := hc6
    by_cases hc13 : t2 = 6
    · replace h := if_t hc13 h
      refine lv_tableIn hx hb dMo_act_24 (tgt := 136) (by rw [hc13]; decide) (by rw [hc13]; decide) (by rw [hc13] <;> rfl) rfl ?_
      refine lv_aload_n hx hb dMo_act_136 rfl (lv_at hl 2 rfl) ?_
      replace h := ob h; obtain ⟨r14, er14, h⟩ := h
      refine hq_get hx hb hts hown hW (gR_V er14) (F_Mo_32 hts) dMo_act_137 ?_
      refine lv_bipush hx hb dMo_act_140 (v := (8 : Int32)) rfl ?_
      refine lv_iload_n hx hb dMo_act_142 rfl (lv_at hl 3 rfl) ?_
      refine lv_imul hx hb dMo_act_143 ?_
      refine lv_iload_n hx hb dMo_act_144 rfl (lv_at hl 5 rfl) ?_
      refine lv_iadd hx hb dMo_act_145 ?_
      refine lv_iload hx hb dMo_act_146 (lv_at hl 1 rfl) ?_
      replace h := ob h; obtain ⟨a15, hra15, h⟩ := h
      subst hra15
      replace h := ob h; obtain ⟨S16, eS16, h⟩ := h
      refine hq_iast hx hb hW eS16 rfl dMo_act_148 (fun H locs hW => ?_)
      refine lv_goto hx hb dMo_act_149 (tgt := 268) rfl ?_
      exact hq_vret hx hb hr hlocks h (Nat.le_of_ble_eq_true rfl) (Nat.le_of_ble_eq_true rfl) hW dMo_act_268
    · replace h := if_f hc13 h
      have hc13n0 := hc13
      by_cases hc17 : t2 = 7 ∨ t2 = 9 ∨ t2 = 10 ∨ t2 = 11 ∨ t2 = 12 ∨ t2 = 13 ∨ t2 = 14 ∨ t2 = 17 ∨ t2 = 18 ∨ t2 = 19 ∨ t2 = 20 ∨ t2 = 21
      · replace h := if_t hc17 h
        have hT22 : W p l e { frames := 3, cells := 0, slots := 0, locals := 120 } s m args below meth c H locs 0 0 (MQ below (va_Qv (fun _ : Unit => True) (fun _ => Wp D vwCl (hTy tc) b Sz) (fun q => b ≤ q)) args s 0 0 (fun q => b ≤ q)) (F0 m 255 ls []) := by
          refine lv_aload_n hx hb dMo_act_255 rfl (lv_at hl 2 rfl) ?_
          refine lv_aload_n hx hb dMo_act_256 rfl (lv_at hl 2 rfl) ?_
          refine lv_iload_n hx hb dMo_act_257 rfl (lv_at hl 3 rfl) ?_
          refine lv_iload_n hx hb dMo_act_258 rfl (lv_at hl 4 rfl) ?_
          refine lv_iload_n hx hb dMo_act_259 rfl (lv_at hl 5 rfl) ?_
          refine lv_iload hx hb dMo_act_260 (lv_at hl 6 rfl) ?_
          replace h := ob h; obtain ⟨q20, eq20, h⟩ := h
          replace h := ob h; obtain ⟨⟨u19, S18⟩, eS18, h⟩ := h
          refine hq_calll (ce := 0) (sl := 0) (va_runV (As := [.int t1, .int t2, .int t3, .int t4]) (rest := [.ref t0]) ⟨hx, hb, hml, hown, hts⟩ (kMo_read l D tc b t0 t1 t2 t3 t4 S5 _ _ eS18) (cwV 4 hts GV_Mo_180_Mo rfl rfl rfl hd_Mo_read_V ⟨Nat.le_of_ble_eq_true rfl, Nat.le_of_ble_eq_true rfl⟩) (hq_preV1 hW eq20 rfl rfl) rfl rfl hl.1 rfl (lv_room (by first | exact Nat.le_of_ble_eq_true rfl | (simp only [List.map, rf_cat]; exact Nat.le_of_ble_eq_true rfl))) dMo_act_262 ⟨Nat.le_of_ble_eq_true rfl, Nat.le_of_ble_eq_true rfl⟩) hW rfl rfl (fun H locs hW => ?_)
          replace h := ob h; obtain ⟨S21, eS21, h⟩ := h
          refine hq_put hx hb hts hown hW eS21 (F_Mo_167 hts) P_Mo_Mo_40 rfl rfl dMo_act_265 (fun H locs hW => ?_)
          exact hq_vret hx hb hr hlocks h (Nat.le_of_ble_eq_true rfl) (Nat.le_of_ble_eq_true rfl) hW dMo_act_268
        rcases hc17 with hc17 | hc17 | hc17 | hc17 | hc17 | hc17 | hc17 | hc17 | hc17 | hc17 | hc17 | hc17
        · refine lv_tableIn hx hb dMo_act_24 (tgt := 255) (by rw [hc17]; decide) (by rw [hc17]; decide) (by rw [hc17] <;> rfl) rfl ?_
          exact hT22
        · refine lv_tableIn hx hb dMo_act_24 (tgt := 255) (by rw [hc17]; decide) (by rw [hc17]; decide) (by rw [hc17] <;> rfl) rfl ?_
          exact hT22
        · refine lv_tableIn hx hb dMo_act_24 (tgt := 255) (by rw [hc17]; decide) (by rw [hc17]; decide) (by rw [hc17] <;> rfl) rfl ?_
          exact hT22
        · refine lv_tableIn hx hb dMo_act_24 (tgt := 255) (by rw [hc17]; decide) (by rw [hc17]; decide) (by rw [hc17] <;> rfl) rfl ?_
          exact hT22
        · refine lv_tableIn hx hb dMo_act_24 (tgt := 255) (by rw [hc17]; decide) (by rw [hc17]; decide) (by rw [hc17] <;> rfl) rfl ?_
          exact hT22
        · refine lv_tableIn hx hb dMo_act_24 (tgt := 255) (by rw [hc17]; decide) (by rw [hc17]; decide) (by rw [hc17] <;> rfl) rfl ?_
          exact hT22
        · refine lv_tableIn hx hb dMo_act_24 (tgt := 255) (by rw [hc17]; decide) (by rw [hc17]; decide) (by rw [hc17] <;> rfl) rfl ?_
          exact hT22
        · refine lv_tableIn hx hb dMo_act_24 (tgt := 255) (by rw [hc17]; decide) (by rw [hc17]; decide) (by rw [hc17] <;> rfl) rfl ?_
          exact hT22
        · refine lv_tableIn hx hb dMo_act_24 (tgt := 255) (by rw [hc17]; decide) (by rw [hc17]; decide) (by rw [hc17] <;> rfl) rfl ?_
          exact hT22
        · refine lv_tableIn hx hb dMo_act_24 (tgt := 255) (by rw [hc17]; decide) (by rw [hc17]; decide) (by rw [hc17] <;> rfl) rfl ?_
          exact hT22
        · refine lv_tableIn hx hb dMo_act_24 (tgt := 255) (by rw [hc17]; decide) (by rw [hc17]; decide) (by rw [hc17] <;> rfl) rfl ?_
          exact hT22
        · refine lv_tableIn hx hb dMo_act_24 (tgt := 255) (by rw [hc17]; decide) (by rw [hc17]; decide) (by rw [hc17] <;> rfl) rfl ?_
          exact hT22
      · replace h := if_f hc17 h
        have hc17n0 : ¬ t2 = 7 := fun q => hc17 (Or.inl q)
        have hc17n1 : ¬ t2 = 9 := fun q => hc17 (Or.inr (Or.inl q))
        have hc17n2 : ¬ t2 = 10 := fun q => hc17 (Or.inr (Or.inr (Or.inl q)))
        have hc17n3 : ¬ t2 = 11 := fun q => hc17 (Or.inr (Or.inr (Or.inr (Or.inl q))))
        have hc17n4 : ¬ t2 = 12 := fun q => hc17 (Or.inr (Or.inr (Or.inr (Or.inr (Or.inl q)))))
        have hc17n5 : ¬ t2 = 13 := fun q => hc17 (Or.inr (Or.inr (Or.inr (Or.inr (Or.inr (Or.inl q))))))
        have hc17n6 : ¬ t2 = 14 := fun q => hc17 (Or.inr (Or.inr (Or.inr (Or.inr (Or.inr (Or.inr (Or.inl q)))))))
        have hc17n7 : ¬ t2 = 17 := fun q => hc17 (Or.inr (Or.inr (Or.inr (Or.inr (Or.inr (Or.inr (Or.inr (Or.inl q))))))))
        have hc17n8 : ¬ t2 = 18 := fun q => hc17 (Or.inr (Or.inr (Or.inr (Or.inr (Or.inr (Or.inr (Or.inr (Or.inr (Or.inl q)))))))))
        have hc17n9 : ¬ t2 = 19 := fun q => hc17 (Or.inr (Or.inr (Or.inr (Or.inr (Or.inr (Or.inr (Or.inr (Or.inr (Or.inr (Or.inl q))))))))))
        have hc17n10 : ¬ t2 = 20 := fun q => hc17 (Or.inr (Or.inr (Or.inr (Or.inr (Or.inr (Or.inr (Or.inr (Or.inr (Or.inr (Or.inr (Or.inl q)))))))))))
        have hc17n11 : ¬ t2 = 21 := fun q => hc17 (Or.inr (Or.inr (Or.inr (Or.inr (Or.inr (Or.inr (Or.inr (Or.inr (Or.inr (Or.inr (Or.inr q)))))))))))
        by_cases hc23 : t2 = 8
        · replace h := if_t hc23 h
          refine lv_tableIn hx hb dMo_act_24 (tgt := 202) (by rw [hc23]; decide) (by rw [hc23]; decide) (by rw [hc23] <;> rfl) rfl ?_
          refine lv_aload_n hx hb dMo_act_202 rfl (lv_at hl 2 rfl) ?_
          replace h := ob h; obtain ⟨r24, er24, h⟩ := h
          refine hq_get hx hb hts hown hW (gR_V er24) (F_Mo_23 hts) dMo_act_203 ?_
          refine lv_iload_n hx hb dMo_act_206 rfl (lv_at hl 3 rfl) ?_
          refine lv_iload_n hx hb dMo_act_207 rfl (lv_at hl 5 rfl) ?_
          refine lv_iconst hx hb dMo_act_208 (v := (4 : Int32)) rfl ?_
          replace h := ob h; obtain ⟨q26, e230, h⟩ := h
          have hJ230 : ∀ q', q' = q26 → ∀ (H : Heap) (locs : List Loc) (ls : Array Slot), lv_has ls 9 [] → Wd D vwCl (hTy tc) b S5 s H locs → W p l e { frames := 3, cells := 0, slots := 0, locals := 120 } s m args below meth c H locs 0 0 (MQ below (va_Qv (fun _ : Unit => True) (fun _ => Wp D vwCl (hTy tc) b Sz) (fun q => b ≤ q)) args s 0 0 (fun q => b ≤ q)) (F0 m 230 ls [.int q', .int t1, va_rf r24]) := by
            intro i25 hq'; subst hq'
            intro H locs ls hl hW
            replace h := ob h; obtain ⟨a33, hra33, h⟩ := h
            subst hra33
            replace h := ob h; obtain ⟨z35, ez35, h⟩ := h
            replace h := ob h; obtain ⟨S34, eS34, h⟩ := h
            refine hq_zast hx hb hW eS34 rfl (bz_some ez35).2 dMo_act_230 (fun H locs hW => ?_)
            refine lv_goto hx hb dMo_act_231 (tgt := 268) rfl ?_
            exact hq_vret hx hb hr hlocks h (Nat.le_of_ble_eq_true rfl) (Nat.le_of_ble_eq_true rfl) hW dMo_act_268
          clear h; have h := e230; clear e230
          refine lv_icmp_eq hx hb dMo_act_209 (tgt := 225) rfl (fun hc32 => ?_) (fun hc32 => ?_)
          · replace h := if_t hc32 h
            refine lv_iconst hx hb dMo_act_225 (v := (1 : Int32)) rfl ?_
            refine lv_goto hx hb dMo_act_226 (tgt := 230) rfl ?_
            exact hJ230 _ (Option.some.inj h) _ _ _ (lv_sub hl [] rfl) hW
          · replace h := if_f hc32 h
            refine lv_iload_n hx hb dMo_act_212 rfl (lv_at hl 5 rfl) ?_
            refine lv_if_ne hx hb dMo_act_213 (tgt := 229) rfl (fun hc31 => ?_) (fun hc31 => ?_)
            · replace h := if_f hc31 h
              refine lv_iconst hx hb dMo_act_229 (v := (0 : Int32)) rfl ?_
              exact hJ230 _ (Option.some.inj h) _ _ _ (lv_sub hl [] rfl) hW
            · replace h := if_t hc31 h
              refine lv_aload_n hx hb dMo_act_216 rfl (lv_at hl 2 rfl) ?_
              replace h := ob h; obtain ⟨r27, er27, h⟩ := h
              refine hq_get hx hb hts hown hW (gR_V er27) (F_Mo_23 hts) dMo_act_217 ?_
              refine lv_iload_n hx hb dMo_act_220 rfl (lv_at hl 3 rfl) ?_
              replace h := ob h; obtain ⟨a28, hra28, h⟩ := h
              subst hra28
              replace h := ob h; obtain ⟨v29, ev29, h⟩ := h
              refine hq_zald hx hb hW ev29 rfl dMo_act_221 ?_
              refine lv_if_eq hx hb dMo_act_222 (tgt := 229) rfl (fun hc30 => ?_) (fun hc30 => ?_)
              · replace h := if_t hc30 h
                refine lv_iconst hx hb dMo_act_229 (v := (0 : Int32)) rfl ?_
                exact hJ230 _ (Option.some.inj h) _ _ _ (lv_sub hl [] rfl) hW
              · replace h := if_f hc30 h
                refine lv_iconst hx hb dMo_act_225 (v := (1 : Int32)) rfl ?_
                refine lv_goto hx hb dMo_act_226 (tgt := 230) rfl ?_
                exact hJ230 _ (Option.some.inj h) _ _ _ (lv_sub hl [] rfl) hW
        · replace h := if_f hc23 h
          have hc23n0 := hc23
          by_cases hc36 : t2 = 15 ∨ t2 = 16
          · replace h := if_t hc36 h
            have hT40 : W p l e { frames := 3, cells := 0, slots := 0, locals := 120 } s m args below meth c H locs 0 0 (MQ below (va_Qv (fun _ : Unit => True) (fun _ => Wp D vwCl (hTy tc) b Sz) (fun q => b ≤ q)) args s 0 0 (fun q => b ≤ q)) (F0 m 234 ls []) := by
              refine lv_aload_n hx hb dMo_act_234 rfl (lv_at hl 2 rfl) ?_
              refine lv_iload_n hx hb dMo_act_235 rfl (lv_at hl 3 rfl) ?_
              refine lv_iload_n hx hb dMo_act_236 rfl (lv_at hl 4 rfl) ?_
              refine lv_iload_n hx hb dMo_act_237 rfl (lv_at hl 5 rfl) ?_
              refine lv_iload hx hb dMo_act_238 (lv_at hl 6 rfl) ?_
              refine lv_lload hx hb dMo_act_240 (lv_at hl 7 rfl) ?_
              replace h := ob h; obtain ⟨q38, eq38, h⟩ := h
              replace h := ob h; obtain ⟨S37, eS37, h⟩ := h
              refine hq_callv (ce := 0) (sl := 0) (va_runV (As := [.int t1, .int t2, .int t3, .int t4, .long t5]) (rest := []) ⟨hx, hb, hml, hown, hts⟩ (kMo_write l D tc b t0 t1 t2 t3 t4 t5 S5 _ eS37) (cwV 5 hts GV_Mo_176_Mo rfl rfl rfl hd_Mo_write_V ⟨Nat.le_of_ble_eq_true rfl, Nat.le_of_ble_eq_true rfl⟩) (hq_preV1 hW eq38 rfl rfl) rfl rfl hl.1 rfl (lv_room (by first | exact Nat.le_of_ble_eq_true rfl | (simp only [List.map, rf_cat]; exact Nat.le_of_ble_eq_true rfl))) dMo_act_242 ⟨Nat.le_of_ble_eq_true rfl, Nat.le_of_ble_eq_true rfl⟩) hW rfl rfl (fun H locs hW => ?_)
              refine lv_aload_n hx hb dMo_act_245 rfl (lv_at hl 2 rfl) ?_
              refine lv_iload hx hb dMo_act_246 (lv_at hl 6 rfl) ?_
              refine lv_i2l hx hb dMo_act_248 (v := t4.toInt64) rfl ?_
              replace h := ob h; obtain ⟨S39, eS39, h⟩ := h
              refine hq_put hx hb hts hown hW eS39 (F_Mo_167 hts) P_Mo_Mo_40 rfl rfl dMo_act_249 (fun H locs hW => ?_)
              refine lv_goto hx hb dMo_act_252 (tgt := 268) rfl ?_
              exact hq_vret hx hb hr hlocks h (Nat.le_of_ble_eq_true rfl) (Nat.le_of_ble_eq_true rfl) hW dMo_act_268
            rcases hc36 with hc36 | hc36
            · refine lv_tableIn hx hb dMo_act_24 (tgt := 234) (by rw [hc36]; decide) (by rw [hc36]; decide) (by rw [hc36] <;> rfl) rfl ?_
              exact hT40
            · refine lv_tableIn hx hb dMo_act_24 (tgt := 234) (by rw [hc36]; decide) (by rw [hc36]; decide) (by rw [hc36] <;> rfl) rfl ?_
              exact hT40
          · replace h := if_f hc36 h
            have hc36n0 : ¬ t2 = 15 := fun q => hc36 (Or.inl q)
            have hc36n1 : ¬ t2 = 16 := fun q => hc36 (Or.inr q)
            by_cases hc41 : t2 = 22
            · replace h := if_t hc41 h
              refine lv_tableIn hx hb dMo_act_24 (tgt := 152) (by rw [hc41]; decide) (by rw [hc41]; decide) (by rw [hc41] <;> rfl) rfl ?_
              refine lv_aload_n hx hb dMo_act_152 rfl (lv_at hl 2 rfl) ?_
              replace h := ob h; obtain ⟨r42, er42, h⟩ := h
              refine hq_get hx hb hts hown hW (gR_V er42) (F_Mo_32 hts) dMo_act_153 ?_
              refine lv_bipush hx hb dMo_act_156 (v := (8 : Int32)) rfl ?_
              refine lv_iload_n hx hb dMo_act_158 rfl (lv_at hl 3 rfl) ?_
              refine lv_imul hx hb dMo_act_159 ?_
              refine lv_iload_n hx hb dMo_act_160 rfl (lv_at hl 5 rfl) ?_
              refine lv_iadd hx hb dMo_act_161 ?_
              refine lv_aload_n hx hb dMo_act_162 rfl (lv_at hl 2 rfl) ?_
              replace h := ob h; obtain ⟨r43, er43, h⟩ := h
              refine hq_get hx hb hts hown hW (gR_V er43) (F_Mo_32 hts) dMo_act_163 ?_
              refine lv_bipush hx hb dMo_act_166 (v := (8 : Int32)) rfl ?_
              refine lv_iload_n hx hb dMo_act_168 rfl (lv_at hl 3 rfl) ?_
              refine lv_imul hx hb dMo_act_169 ?_
              refine lv_iload_n hx hb dMo_act_170 rfl (lv_at hl 5 rfl) ?_
              refine lv_iadd hx hb dMo_act_171 ?_
              replace h := ob h; obtain ⟨a44, hra44, h⟩ := h
              subst hra44
              replace h := ob h; obtain ⟨v45, ev45, h⟩ := h
              refine hq_iald hx hb hW ev45 rfl dMo_act_172 ?_
              refine lv_iload hx hb dMo_act_173 (lv_at hl 1 rfl) ?_
              refine lv_iand hx hb dMo_act_175 ?_
              refine lv_iload hx hb dMo_act_176 (lv_at hl 0 rfl) ?_
              refine lv_iload hx hb dMo_act_178 (lv_at hl 1 rfl) ?_
              refine lv_iconst hx hb dMo_act_180 (v := (-1 : Int32)) rfl ?_
              refine lv_ixor hx hb dMo_act_181 ?_
              refine lv_iand hx hb dMo_act_182 ?_
              refine lv_ior hx hb dMo_act_183 ?_
              replace h := ob h; obtain ⟨a46, hra46, h⟩ := h
              subst hra46
              replace h := ob h; obtain ⟨S47, eS47, h⟩ := h
              refine hq_iast hx hb hW eS47 rfl dMo_act_184 (fun H locs hW => ?_)
              refine lv_aload_n hx hb dMo_act_185 rfl (lv_at hl 2 rfl) ?_
              refine lv_iload hx hb dMo_act_186 (lv_at hl 1 rfl) ?_
              refine lv_i2l hx hb dMo_act_188 (v := v2.toInt64) rfl ?_
              refine lv_iload hx hb dMo_act_189 (lv_at hl 0 rfl) ?_
              refine lv_i2l hx hb dMo_act_191 (v := v4.toInt64) rfl ?_
              refine lv_bipush hx hb dMo_act_192 (v := (16 : Int32)) rfl ?_
              refine lv_lshl hx hb dMo_act_194 (v := v4.toInt64 <<< ((16 : Int32).toInt64 &&& 63)) rfl ?_
              refine lv_lor hx hb dMo_act_195 ?_
              replace h := ob h; obtain ⟨S48, eS48, h⟩ := h
              refine hq_put hx hb hts hown hW eS48 (F_Mo_167 hts) P_Mo_Mo_40 rfl rfl dMo_act_196 (fun H locs hW => ?_)
              refine lv_goto hx hb dMo_act_199 (tgt := 268) rfl ?_
              exact hq_vret hx hb hr hlocks h (Nat.le_of_ble_eq_true rfl) (Nat.le_of_ble_eq_true rfl) hW dMo_act_268
            · replace h := if_f hc41 h
              have hc41n0 := hc41
              refine lv_tableOut hx hb dMo_act_24 (tgt := 255) (by have g0 := lv_neT hc6n0 (a := 5) rfl; have g1 := lv_neT hc13n0 (a := 6) rfl; have g2 := lv_neT hc17n0 (a := 7) rfl; have g3 := lv_neT hc23n0 (a := 8) rfl; have g4 := lv_neT hc17n1 (a := 9) rfl; have g5 := lv_neT hc17n2 (a := 10) rfl; have g6 := lv_neT hc17n3 (a := 11) rfl; have g7 := lv_neT hc17n4 (a := 12) rfl; have g8 := lv_neT hc17n5 (a := 13) rfl; have g9 := lv_neT hc17n6 (a := 14) rfl; have g10 := lv_neT hc36n0 (a := 15) rfl; have g11 := lv_neT hc36n1 (a := 16) rfl; have g12 := lv_neT hc17n7 (a := 17) rfl; have g13 := lv_neT hc17n8 (a := 18) rfl; have g14 := lv_neT hc17n9 (a := 19) rfl; have g15 := lv_neT hc17n10 (a := 20) rfl; have g16 := lv_neT hc17n11 (a := 21) rfl; have g17 := lv_neT hc41n0 (a := 22) rfl; omega) rfl ?_
              refine lv_aload_n hx hb dMo_act_255 rfl (lv_at hl 2 rfl) ?_
              refine lv_aload_n hx hb dMo_act_256 rfl (lv_at hl 2 rfl) ?_
              refine lv_iload_n hx hb dMo_act_257 rfl (lv_at hl 3 rfl) ?_
              refine lv_iload_n hx hb dMo_act_258 rfl (lv_at hl 4 rfl) ?_
              refine lv_iload_n hx hb dMo_act_259 rfl (lv_at hl 5 rfl) ?_
              refine lv_iload hx hb dMo_act_260 (lv_at hl 6 rfl) ?_
              replace h := ob h; obtain ⟨q51, eq51, h⟩ := h
              replace h := ob h; obtain ⟨⟨u50, S49⟩, eS49, h⟩ := h
              refine hq_calll (ce := 0) (sl := 0) (va_runV (As := [.int t1, .int t2, .int t3, .int t4]) (rest := [.ref t0]) ⟨hx, hb, hml, hown, hts⟩ (kMo_read l D tc b t0 t1 t2 t3 t4 S5 _ _ eS49) (cwV 4 hts GV_Mo_180_Mo rfl rfl rfl hd_Mo_read_V ⟨Nat.le_of_ble_eq_true rfl, Nat.le_of_ble_eq_true rfl⟩) (hq_preV1 hW eq51 rfl rfl) rfl rfl hl.1 rfl (lv_room (by first | exact Nat.le_of_ble_eq_true rfl | (simp only [List.map, rf_cat]; exact Nat.le_of_ble_eq_true rfl))) dMo_act_262 ⟨Nat.le_of_ble_eq_true rfl, Nat.le_of_ble_eq_true rfl⟩) hW rfl rfl (fun H locs hW => ?_)
              replace h := ob h; obtain ⟨S52, eS52, h⟩ := h
              refine hq_put hx hb hts hown hW eS52 (F_Mo_167 hts) P_Mo_Mo_40 rfl rfl dMo_act_265 (fun H locs hW => ?_)
              exact hq_vret hx hb hr hlocks h (Nat.le_of_ble_eq_true rfl) (Nat.le_of_ble_eq_true rfl) hW dMo_act_268
def fMo_gets_J30_1 (t2 : Int32) (t3 : Int32) (t4 : Int32) (t5 : Int64) (S : Ws) (t0 : Nat) (t1 : Int32) (t7 : Int32) (v3 : Int32)  : Option (Int32 × Ws) :=
  (fMo_wrong t2 t3 t4 t5 S).bind fun (v9, S8) => (pV S8 t0 [8] 39 (.int v9)).bind fun S10 => (pV S10 t0 [8] 40 (.long (0 : Int64))).bind fun S11 => (gI S11 t0 [8] 39).bind fun v12 => (if v12 = 0 then (gO S11 t0 [8]).bind fun q16 => (fMo_act t0 t1 t2 t3 t4 t5 S11).bind fun S15 => some S15 else some S11).bind fun S13 => if t7 = 0 then if v3 = 0 then (gR S13 t0 [8] 5).bind fun r20 => (r20).bind fun a21 => (aI S13 a21 1 t1).bind fun v22 => if v22 = 0 then (bz (1 : Int32)).bind fun z24 => some ((1 : Int32), S13) else (bz (0 : Int32)).bind fun z23 => some ((0 : Int32), S13) else (bz (0 : Int32)).bind fun z19 => some ((0 : Int32), S13) else (bz (0 : Int32)).bind fun z18 => some ((0 : Int32), S13)
def fMo_gets (t0 : Nat) (t1 : Int32) (t2 : Int32) (t3 : Int32) (t4 : Int32) (t5 : Int64) (t7 : Int32) (S : Ws) : Option (Int32 × Ws) :=
  (gR S t0 [8] 5).bind fun r1 => (r1).bind fun a2 => (aI S a2 1 t1).bind fun v3 => (gR S t0 [8] 4).bind fun r4 => (r4).bind fun a5 => (aI S a5 1 t1).bind fun v6 => if v6 = 0 then if v3 = 0 then fMo_gets_J30_1 t2 t3 t4 t5 S t0 t1 t7 v3 else if t2 = (8 : Int32) then fMo_gets_J30_1 t2 t3 t4 t5 S t0 t1 t7 v3 else (bz (0 : Int32)).bind fun z28 => some ((0 : Int32), S) else (bz (0 : Int32)).bind fun z7 => some ((0 : Int32), S)
set_option maxRecDepth 100000 in
set_option maxHeartbeats 4000000 in
theorem kMo_gets (l : Launch) (D : va_G) (tc : Nat → ClassId) (b : Nat) (t0 : Nat) (t1 : Int32) (t2 : Int32) (t3 : Int32) (t4 : Int32) (t5 : Int64) (t7 : Int32) (S Sz : Ws) (rr : Int32) (h : fMo_gets t0 t1 t2 t3 t4 t5 t7 S = some (rr, Sz)) : Met l yMo_gets wsMo_gets { frames := 4, cells := 0, slots := 0, locals := 160 } (va_Pc [.ref t0, .int t1, .int t2, .int t3, .int t4, .long t5, .int t7] (Wp D vwCl (hTy tc) b S)) (va_Qi (fun x (_ : Unit) => x = rr) (fun _ => Wp D vwCl (hTy tc) b Sz) (fun q => b ≤ q)) 0 0 (fun q => b ≤ q) := by
  refine hq_ofW (cc := cMo_gets) (maxL := 9) (ret := (some .boolean)) (by decide) rfl (Nat.le_of_ble_eq_true rfl) fun p e s m args below meth c hx hb hr hts hown hlocks hnm hml H locs ls hl hW => ?_
  have hts : ∀ w ∈ lwG, w.before args s = true := fun w h => hts w (List.mem_cons_of_mem _ h)
  have hown : s.vm.findClass "SerialPlantModel" = some m.cls := hown
  have hl : lv_has ls 9 [(0, .ref t0), (1, .int t1), (2, .int t2), (3, .int t3), (4, .int t4), (5, .long t5), (7, .int t7)] := hl
  unfold fMo_gets at h
  refine lv_aload_n hx hb dMo_gets_0 rfl (lv_at hl 0 rfl) ?_
  replace h := ob h; obtain ⟨r1, er1, h⟩ := h
  refine hq_get hx hb hts hown hW (gR_V er1) (F_Mo_23 hts) dMo_gets_1 ?_
  refine lv_iload_n hx hb dMo_gets_4 rfl (lv_at hl 1 rfl) ?_
  replace h := ob h; obtain ⟨a2, hra2, h⟩ := h
  subst hra2
  replace h := ob h; obtain ⟨v3, ev3, h⟩ := h
  refine hq_zald hx hb hW ev3 rfl dMo_gets_5 ?_
  refine lv_istore (lv' := [(8, .int v3), (0, .ref t0), (1, .int t1), (2, .int t2), (3, .int t3), (4, .int t4), (5, .long t5), (7, .int t7)]) hx hb dMo_gets_6 hl (Nat.le_of_ble_eq_true rfl) (by first | rfl | (simp [List.filter, rf_cat] <;> rfl)) (fun ls hl => ?_)
  refine lv_aload_n hx hb dMo_gets_8 rfl (lv_at hl 1 rfl) ?_
  replace h := ob h; obtain ⟨r4, er4, h⟩ := h
  refine hq_get hx hb hts hown hW (gR_V er4) (F_Mo_20 hts) dMo_gets_9 ?_
  refine lv_iload_n hx hb dMo_gets_12 rfl (lv_at hl 2 rfl) ?_
  replace h := ob h; obtain ⟨a5, hra5, h⟩ := h
  subst hra5
  replace h := ob h; obtain ⟨v6, ev6, h⟩ := h
  refine hq_zald hx hb hW ev6 rfl dMo_gets_13 ?_
  refine lv_if_ne hx hb dMo_gets_14 (tgt := 28) rfl (fun hc31 => ?_) (fun hc31 => ?_)
  · replace h := if_f hc31 h
    refine lv_iconst hx hb dMo_gets_28 (v := (0 : Int32)) rfl ?_
    replace h := ob h; obtain ⟨z7, ez7, h⟩ := h
    exact hq_zret hx hb hr hlocks (bz_some ez7).2 h (Nat.le_of_ble_eq_true rfl) (Nat.le_of_ble_eq_true rfl) hW dMo_gets_29
  · replace h := if_t hc31 h
    refine lv_iload hx hb dMo_gets_17 (lv_at hl 0 rfl) ?_
    have hP30_1 : ∀  (H : Heap) (locs : List Loc) (ls : Array Slot), lv_has ls 9 [(0, .ref t0), (1, .int t1), (2, .int t2), (3, .int t3), (4, .int t4), (5, .long t5), (7, .int t7), (8, .int v3)] → Wd D vwCl (hTy tc) b S s H locs → fMo_gets_J30_1 t2 t3 t4 t5 S t0 t1 t7 v3 = some (rr, Sz) → W p l e { frames := 4, cells := 0, slots := 0, locals := 160 } s m args below meth c H locs 0 0 (MQ below (va_Qi (fun x (_ : Unit) => x = rr) (fun _ => Wp D vwCl (hTy tc) b Sz) (fun q => b ≤ q)) args s 0 0 (fun q => b ≤ q)) (F0 m 30 ls []) := by
      intro  H locs ls hl hW h
      unfold fMo_gets_J30_1 at h
      refine lv_aload_n hx hb dMo_gets_30 rfl (lv_at hl 0 rfl) ?_
      refine lv_iload_n hx hb dMo_gets_31 rfl (lv_at hl 2 rfl) ?_
      refine lv_iload_n hx hb dMo_gets_32 rfl (lv_at hl 3 rfl) ?_
      refine lv_iload hx hb dMo_gets_33 (lv_at hl 4 rfl) ?_
      refine lv_lload hx hb dMo_gets_35 (lv_at hl 5 rfl) ?_
      replace h := ob h; obtain ⟨⟨v9, S8⟩, eS8, h⟩ := h
      refine hq_calli (ce := 0) (sl := 0) (va_runS (As := [.int t2, .int t3, .int t4, .long t5]) (rest := [.ref t0]) ⟨hx, hb, hml, hown, hts⟩ (kMo_wrong l D tc b t2 t3 t4 t5 S _ _ eS8) (cwS 4 hts GS_Mo_184 rfl rfl rfl hd_Mo_wrong_S_Mo ⟨Nat.le_of_ble_eq_true rfl, Nat.le_of_ble_eq_true rfl⟩) (hq_preS hW) rfl rfl hl.1 rfl (lv_room (by first | exact Nat.le_of_ble_eq_true rfl | (simp only [List.map, rf_cat]; exact Nat.le_of_ble_eq_true rfl))) dMo_gets_37 ⟨Nat.le_of_ble_eq_true rfl, Nat.le_of_ble_eq_true rfl⟩) hW rfl rfl (fun H locs hW => ?_)
      replace h := ob h; obtain ⟨S10, eS10, h⟩ := h
      refine hq_put hx hb hts hown hW eS10 (F_Mo_164 hts) P_Mo_Mo_39 rfl rfl dMo_gets_40 (fun H locs hW => ?_)
      refine lv_aload_n hx hb dMo_gets_43 rfl (lv_at hl 0 rfl) ?_
      refine lv_lconst hx hb dMo_gets_44 (v := (0 : Int64)) rfl ?_
      replace h := ob h; obtain ⟨S11, eS11, h⟩ := h
      refine hq_put hx hb hts hown hW eS11 (F_Mo_167 hts) P_Mo_Mo_40 rfl rfl dMo_gets_45 (fun H locs hW => ?_)
      refine lv_aload_n hx hb dMo_gets_48 rfl (lv_at hl 0 rfl) ?_
      replace h := ob h; obtain ⟨v12, ev12, h⟩ := h
      refine hq_get hx hb hts hown hW (gI_V ev12) (F_Mo_164 hts) dMo_gets_49 ?_
      replace h := ob h; obtain ⟨q14, e66, h⟩ := h
      have hJ66 : ∀ q', q' = q14 → ∀ (H : Heap) (locs : List Loc) (ls : Array Slot), lv_has ls 9 [(0, .ref t0), (1, .int t1), (7, .int t7), (8, .int v3)] → Wd D vwCl (hTy tc) b q' s H locs → W p l e { frames := 4, cells := 0, slots := 0, locals := 160 } s m args below meth c H locs 0 0 (MQ below (va_Qi (fun x (_ : Unit) => x = rr) (fun _ => Wp D vwCl (hTy tc) b Sz) (fun q => b ≤ q)) args s 0 0 (fun q => b ≤ q)) (F0 m 66 ls []) := by
        intro S13 hq'; subst hq'
        intro H locs ls hl hW
        refine lv_iload hx hb dMo_gets_66 (lv_at hl 2 rfl) ?_
        refine lv_if_ne hx hb dMo_gets_68 (tgt := 89) rfl (fun hc27 => ?_) (fun hc27 => ?_)
        · replace h := if_f hc27 h
          refine lv_iconst hx hb dMo_gets_89 (v := (0 : Int32)) rfl ?_
          replace h := ob h; obtain ⟨z18, ez18, h⟩ := h
          exact hq_zret hx hb hr hlocks (bz_some ez18).2 h (Nat.le_of_ble_eq_true rfl) (Nat.le_of_ble_eq_true rfl) hW dMo_gets_90
        · replace h := if_t hc27 h
          refine lv_iload hx hb dMo_gets_71 (lv_at hl 3 rfl) ?_
          refine lv_if_ne hx hb dMo_gets_73 (tgt := 89) rfl (fun hc26 => ?_) (fun hc26 => ?_)
          · replace h := if_f hc26 h
            refine lv_iconst hx hb dMo_gets_89 (v := (0 : Int32)) rfl ?_
            replace h := ob h; obtain ⟨z19, ez19, h⟩ := h
            exact hq_zret hx hb hr hlocks (bz_some ez19).2 h (Nat.le_of_ble_eq_true rfl) (Nat.le_of_ble_eq_true rfl) hW dMo_gets_90
          · replace h := if_t hc26 h
            refine lv_aload_n hx hb dMo_gets_76 rfl (lv_at hl 0 rfl) ?_
            replace h := ob h; obtain ⟨r20, er20, h⟩ := h
            refine hq_get hx hb hts hown hW (gR_V er20) (F_Mo_23 hts) dMo_gets_77 ?_
            refine lv_iload_n hx hb dMo_gets_80 rfl (lv_at hl 1 rfl) ?_
            replace h := ob h; obtain ⟨a21, hra21, h⟩ := h
            subst hra21
            replace h := ob h; obtain ⟨v22, ev22, h⟩ := h
            refine hq_zald hx hb hW ev22 rfl dMo_gets_81 ?_
            refine lv_if_ne hx hb dMo_gets_82 (tgt := 89) rfl (fun hc25 => ?_) (fun hc25 => ?_)
            · replace h := if_f hc25 h
              refine lv_iconst hx hb dMo_gets_89 (v := (0 : Int32)) rfl ?_
              replace h := ob h; obtain ⟨z23, ez23, h⟩ := h
              exact hq_zret hx hb hr hlocks (bz_some ez23).2 h (Nat.le_of_ble_eq_true rfl) (Nat.le_of_ble_eq_true rfl) hW dMo_gets_90
            · replace h := if_t hc25 h
              refine lv_iconst hx hb dMo_gets_85 (v := (1 : Int32)) rfl ?_
              refine lv_goto hx hb dMo_gets_86 (tgt := 90) rfl ?_
              replace h := ob h; obtain ⟨z24, ez24, h⟩ := h
              exact hq_zret hx hb hr hlocks (bz_some ez24).2 h (Nat.le_of_ble_eq_true rfl) (Nat.le_of_ble_eq_true rfl) hW dMo_gets_90
      clear h; have h := e66; clear e66
      refine lv_if_ne hx hb dMo_gets_52 (tgt := 66) rfl (fun hc17 => ?_) (fun hc17 => ?_)
      · replace h := if_f hc17 h
        exact hJ66 _ (Option.some.inj h) _ _ _ (lv_sub hl [0, 1, 6, 7] rfl) hW
      · replace h := if_t hc17 h
        refine lv_aload_n hx hb dMo_gets_55 rfl (lv_at hl 0 rfl) ?_
        refine lv_iload_n hx hb dMo_gets_56 rfl (lv_at hl 1 rfl) ?_
        refine lv_iload_n hx hb dMo_gets_57 rfl (lv_at hl 2 rfl) ?_
        refine lv_iload_n hx hb dMo_gets_58 rfl (lv_at hl 3 rfl) ?_
        refine lv_iload hx hb dMo_gets_59 (lv_at hl 4 rfl) ?_
        refine lv_lload hx hb dMo_gets_61 (lv_at hl 5 rfl) ?_
        replace h := ob h; obtain ⟨q16, eq16, h⟩ := h
        replace h := ob h; obtain ⟨S15, eS15, h⟩ := h
        refine hq_callv (ce := 0) (sl := 0) (va_runV (As := [.int t1, .int t2, .int t3, .int t4, .long t5]) (rest := []) ⟨hx, hb, hml, hown, hts⟩ (kMo_act l D tc b t0 t1 t2 t3 t4 t5 S11 _ eS15) (cwV 5 hts GV_Mo_188_Mo rfl rfl rfl hd_Mo_act_V ⟨Nat.le_of_ble_eq_true rfl, Nat.le_of_ble_eq_true rfl⟩) (hq_preV1 hW eq16 rfl rfl) rfl rfl hl.1 rfl (lv_room (by first | exact Nat.le_of_ble_eq_true rfl | (simp only [List.map, rf_cat]; exact Nat.le_of_ble_eq_true rfl))) dMo_gets_63 ⟨Nat.le_of_ble_eq_true rfl, Nat.le_of_ble_eq_true rfl⟩) hW rfl rfl (fun H locs hW => ?_)
        exact hJ66 _ (Option.some.inj h) _ _ _ (lv_sub hl [0, 1, 6, 7] rfl) hW
    refine lv_if_eq hx hb dMo_gets_19 (tgt := 30) rfl (fun hc30 => ?_) (fun hc30 => ?_)
    · replace h := if_t hc30 h
      exact hP30_1  _ _ _ (lv_sub hl [1, 2, 3, 4, 5, 6, 7, 0] rfl) hW h
    · replace h := if_f hc30 h
      refine lv_iload_n hx hb dMo_gets_22 rfl (lv_at hl 3 rfl) ?_
      refine lv_bipush hx hb dMo_gets_23 (v := (8 : Int32)) rfl ?_
      refine lv_icmp_eq hx hb dMo_gets_25 (tgt := 30) rfl (fun hc29 => ?_) (fun hc29 => ?_)
      · replace h := if_t hc29 h
        exact hP30_1  _ _ _ (lv_sub hl [1, 2, 3, 4, 5, 6, 7, 0] rfl) hW h
      · replace h := if_f hc29 h
        refine lv_iconst hx hb dMo_gets_28 (v := (0 : Int32)) rfl ?_
        replace h := ob h; obtain ⟨z28, ez28, h⟩ := h
        exact hq_zret hx hb hr hlocks (bz_some ez28).2 h (Nat.le_of_ble_eq_true rfl) (Nat.le_of_ble_eq_true rfl) hW dMo_gets_29
def fMo_isBroadcast (t0 : Nat) (t1 : Int32) (S : Ws) : Option (Int32 × Ws) :=
  if (64 : Int32) ≤ t1 then (bz (0 : Int32)).bind fun z1 => some ((0 : Int32), S) else (gR S t0 [8] 11).bind fun r2 => (r2).bind fun a3 => (aI S a3 0 t1).bind fun v4 => if v4 = 0 then (bz (1 : Int32)).bind fun z6 => some ((1 : Int32), S) else (bz (0 : Int32)).bind fun z5 => some ((0 : Int32), S)
set_option maxRecDepth 100000 in
set_option maxHeartbeats 4000000 in
theorem kMo_isBroadcast (l : Launch) (D : va_G) (tc : Nat → ClassId) (b : Nat) (t0 : Nat) (t1 : Int32) (S Sz : Ws) (rr : Int32) (h : fMo_isBroadcast t0 t1 S = some (rr, Sz)) : Met l yMo_isBroadcast wsMo_isBroadcast { frames := 1, cells := 0, slots := 0, locals := 40 } (va_Pc [.ref t0, .int t1] (Wp D vwCl (hTy tc) b S)) (va_Qi (fun x (_ : Unit) => x = rr) (fun _ => Wp D vwCl (hTy tc) b Sz) (fun q => b ≤ q)) 0 0 (fun q => b ≤ q) := by
  refine hq_ofW (cc := cMo_isBroadcast) (maxL := 2) (ret := (some .boolean)) (by decide) rfl (Nat.le_of_ble_eq_true rfl) fun p e s m args below meth c hx hb hr hts hown hlocks hnm hml H locs ls hl hW => ?_
  have hts : ∀ w ∈ lwG, w.before args s = true := fun w h => hts w (List.mem_cons_of_mem _ h)
  have hown : s.vm.findClass "SerialPlantModel" = some m.cls := hown
  have hl : lv_has ls 2 [(0, .ref t0), (1, .int t1)] := hl
  unfold fMo_isBroadcast at h
  refine lv_iload_n hx hb dMo_isBroadcast_0 rfl (lv_at hl 1 rfl) ?_
  refine lv_bipush hx hb dMo_isBroadcast_1 (v := (64 : Int32)) rfl ?_
  refine lv_icmp_ge hx hb dMo_isBroadcast_3 (tgt := 19) rfl (fun hc8 => ?_) (fun hc8 => ?_)
  · replace h := if_t hc8 h
    refine lv_iconst hx hb dMo_isBroadcast_19 (v := (0 : Int32)) rfl ?_
    replace h := ob h; obtain ⟨z1, ez1, h⟩ := h
    exact hq_zret hx hb hr hlocks (bz_some ez1).2 h (Nat.le_of_ble_eq_true rfl) (Nat.le_of_ble_eq_true rfl) hW dMo_isBroadcast_20
  · replace h := if_f hc8 h
    refine lv_aload_n hx hb dMo_isBroadcast_6 rfl (lv_at hl 0 rfl) ?_
    replace h := ob h; obtain ⟨r2, er2, h⟩ := h
    refine hq_get hx hb hts hown hW (gR_V er2) (F_Mo_38 hts) dMo_isBroadcast_7 ?_
    refine lv_iload_n hx hb dMo_isBroadcast_10 rfl (lv_at hl 1 rfl) ?_
    replace h := ob h; obtain ⟨a3, hra3, h⟩ := h
    subst hra3
    replace h := ob h; obtain ⟨v4, ev4, h⟩ := h
    refine hq_iald hx hb hW ev4 rfl dMo_isBroadcast_11 ?_
    refine lv_if_ne hx hb dMo_isBroadcast_12 (tgt := 19) rfl (fun hc7 => ?_) (fun hc7 => ?_)
    · replace h := if_f hc7 h
      refine lv_iconst hx hb dMo_isBroadcast_19 (v := (0 : Int32)) rfl ?_
      replace h := ob h; obtain ⟨z5, ez5, h⟩ := h
      exact hq_zret hx hb hr hlocks (bz_some ez5).2 h (Nat.le_of_ble_eq_true rfl) (Nat.le_of_ble_eq_true rfl) hW dMo_isBroadcast_20
    · replace h := if_t hc7 h
      refine lv_iconst hx hb dMo_isBroadcast_15 (v := (1 : Int32)) rfl ?_
      refine lv_goto hx hb dMo_isBroadcast_16 (tgt := 20) rfl ?_
      replace h := ob h; obtain ⟨z6, ez6, h⟩ := h
      exact hq_zret hx hb hr hlocks (bz_some ez6).2 h (Nat.le_of_ble_eq_true rfl) (Nat.le_of_ble_eq_true rfl) hW dMo_isBroadcast_20
def fMo_take_L55 (t0 : Nat) : Int32 × Ws → Option ((Int32 × Ws) ⊕ (Ws)) :=
  fun (i16, S17) => if (33 : Int32) ≤ i16 then some (.inr S17) else (gR S17 t0 [8] 26).bind fun r20 => (gR S17 t0 [8] 26).bind fun r21 => (r21).bind fun a22 => (aI S17 a22 0 (i16 + (3 : Int32))).bind fun v23 => (r20).bind fun a24 => (sI S17 a24 0 i16 v23).bind fun S25 => some (.inl (i16 + 1, S25))
def fMo_take_J20_1 (S : Ws) (t0 : Nat) (t1 : Int32) (t2 : Int32)  : Option (Ws) :=
  (gR S t0 [8] 23).bind fun r4 => (r4).bind fun a5 => (bz (1 : Int32)).bind fun z7 => (sI S a5 1 t1 (1 : Int32)).bind fun S6 => (gR S6 t0 [8] 24).bind fun r8 => (r8).bind fun a9 => (sI S6 a9 0 t1 t2).bind fun S10 => (gI S10 t0 [8] 25).bind fun v11 => (if v11 = (12 : Int32) then (gI S10 t0 [8] 25).bind fun v14 => (pV S10 t0 [8] 25 (.int (v14 - (1 : Int32)))).bind fun S15 => (lp (fMo_take_L55 t0) 1000 ((0 : Int32), S15)).bind fun S19 => some S19 else some S10).bind fun S12 => (gR S12 t0 [8] 26).bind fun r28 => (gI S12 t0 [8] 25).bind fun v29 => (gI S12 t0 [8] 0).bind fun v30 => (r28).bind fun a31 => (sI S12 a31 0 ((3 : Int32) * v29) v30).bind fun S32 => (gR S32 t0 [8] 26).bind fun r33 => (gI S32 t0 [8] 25).bind fun v34 => (r33).bind fun a35 => (sI S32 a35 0 (((3 : Int32) * v34) + (1 : Int32)) t1).bind fun S36 => (gR S36 t0 [8] 26).bind fun r37 => (gI S36 t0 [8] 25).bind fun v38 => (r37).bind fun a39 => (sI S36 a39 0 (((3 : Int32) * v38) + (2 : Int32)) t2).bind fun S40 => (gI S40 t0 [8] 25).bind fun v41 => (pV S40 t0 [8] 25 (.int (v41 + (1 : Int32)))).bind fun S42 => some S42
def fMo_take (t0 : Nat) (t1 : Int32) (t2 : Int32) (S : Ws) : Option (Ws) :=
  (gR S t0 [8] 23).bind fun r1 => (r1).bind fun a2 => (aI S a2 1 t1).bind fun v3 => if v3 = 0 then fMo_take_J20_1 S t0 t1 t2 else (gR S t0 [8] 24).bind fun r43 => (r43).bind fun a44 => (aI S a44 0 t1).bind fun v45 => if v45 = t2 then some S else fMo_take_J20_1 S t0 t1 t2
set_option maxRecDepth 100000 in
set_option maxHeartbeats 4000000 in
theorem kMo_take (l : Launch) (D : va_G) (tc : Nat → ClassId) (b : Nat) (t0 : Nat) (t1 : Int32) (t2 : Int32) (S Sz : Ws) (h : fMo_take t0 t1 t2 S = some Sz) : Met l yMo_take wsMo_take { frames := 1, cells := 0, slots := 0, locals := 40 } (va_Pc [.ref t0, .int t1, .int t2] (Wp D vwCl (hTy tc) b S)) (va_Qv (fun _ : Unit => True) (fun _ => Wp D vwCl (hTy tc) b Sz) (fun q => b ≤ q)) 0 0 (fun q => b ≤ q) := by
  refine hq_ofW (cc := cMo_take) (maxL := 4) (ret := none) (by decide) rfl (Nat.le_of_ble_eq_true rfl) fun p e s m args below meth c hx hb hr hts hown hlocks hnm hml H locs ls hl hW => ?_
  have hts : ∀ w ∈ lwG, w.before args s = true := fun w h => hts w (List.mem_cons_of_mem _ h)
  have hown : s.vm.findClass "SerialPlantModel" = some m.cls := hown
  have hl : lv_has ls 4 [(0, .ref t0), (1, .int t1), (2, .int t2)] := hl
  unfold fMo_take at h
  refine lv_aload_n hx hb dMo_take_0 rfl (lv_at hl 0 rfl) ?_
  replace h := ob h; obtain ⟨r1, er1, h⟩ := h
  refine hq_get hx hb hts hown hW (gR_V er1) (F_Mo_72 hts) dMo_take_1 ?_
  refine lv_iload_n hx hb dMo_take_4 rfl (lv_at hl 1 rfl) ?_
  replace h := ob h; obtain ⟨a2, hra2, h⟩ := h
  subst hra2
  replace h := ob h; obtain ⟨v3, ev3, h⟩ := h
  refine hq_zald hx hb hW ev3 rfl dMo_take_5 ?_
  have hP20_1 : ∀  (H : Heap) (locs : List Loc) (ls : Array Slot), lv_has ls 4 [(0, .ref t0), (1, .int t1), (2, .int t2)] → Wd D vwCl (hTy tc) b S s H locs → fMo_take_J20_1 S t0 t1 t2 = some Sz → W p l e { frames := 1, cells := 0, slots := 0, locals := 40 } s m args below meth c H locs 0 0 (MQ below (va_Qv (fun _ : Unit => True) (fun _ => Wp D vwCl (hTy tc) b Sz) (fun q => b ≤ q)) args s 0 0 (fun q => b ≤ q)) (F0 m 20 ls []) := by
    intro  H locs ls hl hW h
    unfold fMo_take_J20_1 at h
    refine lv_aload_n hx hb dMo_take_20 rfl (lv_at hl 0 rfl) ?_
    replace h := ob h; obtain ⟨r4, er4, h⟩ := h
    refine hq_get hx hb hts hown hW (gR_V er4) (F_Mo_72 hts) dMo_take_21 ?_
    refine lv_iload_n hx hb dMo_take_24 rfl (lv_at hl 1 rfl) ?_
    refine lv_iconst hx hb dMo_take_25 (v := (1 : Int32)) rfl ?_
    replace h := ob h; obtain ⟨a5, hra5, h⟩ := h
    subst hra5
    replace h := ob h; obtain ⟨z7, ez7, h⟩ := h
    replace h := ob h; obtain ⟨S6, eS6, h⟩ := h
    refine hq_zast hx hb hW eS6 rfl (bz_some ez7).2 dMo_take_26 (fun H locs hW => ?_)
    refine lv_aload_n hx hb dMo_take_27 rfl (lv_at hl 0 rfl) ?_
    replace h := ob h; obtain ⟨r8, er8, h⟩ := h
    refine hq_get hx hb hts hown hW (gR_V er8) (F_Mo_75 hts) dMo_take_28 ?_
    refine lv_iload_n hx hb dMo_take_31 rfl (lv_at hl 1 rfl) ?_
    refine lv_iload_n hx hb dMo_take_32 rfl (lv_at hl 2 rfl) ?_
    replace h := ob h; obtain ⟨a9, hra9, h⟩ := h
    subst hra9
    replace h := ob h; obtain ⟨S10, eS10, h⟩ := h
    refine hq_iast hx hb hW eS10 rfl dMo_take_33 (fun H locs hW => ?_)
    refine lv_aload_n hx hb dMo_take_34 rfl (lv_at hl 0 rfl) ?_
    replace h := ob h; obtain ⟨v11, ev11, h⟩ := h
    refine hq_get hx hb hts hown hW (gI_V ev11) (F_Mo_210 hts) dMo_take_35 ?_
    refine lv_bipush hx hb dMo_take_38 (v := (12 : Int32)) rfl ?_
    replace h := ob h; obtain ⟨q13, e81, h⟩ := h
    have hJ81 : ∀ q', q' = q13 → ∀ (H : Heap) (locs : List Loc) (ls : Array Slot), lv_has ls 4 [(0, .ref t0), (1, .int t1), (2, .int t2)] → Wd D vwCl (hTy tc) b q' s H locs → W p l e { frames := 1, cells := 0, slots := 0, locals := 40 } s m args below meth c H locs 0 0 (MQ below (va_Qv (fun _ : Unit => True) (fun _ => Wp D vwCl (hTy tc) b Sz) (fun q => b ≤ q)) args s 0 0 (fun q => b ≤ q)) (F0 m 81 ls []) := by
      intro S12 hq'; subst hq'
      intro H locs ls hl hW
      refine lv_aload_n hx hb dMo_take_81 rfl (lv_at hl 0 rfl) ?_
      replace h := ob h; obtain ⟨r28, er28, h⟩ := h
      refine hq_get hx hb hts hown hW (gR_V er28) (F_Mo_78 hts) dMo_take_82 ?_
      refine lv_iconst hx hb dMo_take_85 (v := (3 : Int32)) rfl ?_
      refine lv_aload_n hx hb dMo_take_86 rfl (lv_at hl 0 rfl) ?_
      replace h := ob h; obtain ⟨v29, ev29, h⟩ := h
      refine hq_get hx hb hts hown hW (gI_V ev29) (F_Mo_210 hts) dMo_take_87 ?_
      refine lv_imul hx hb dMo_take_90 ?_
      refine lv_aload_n hx hb dMo_take_91 rfl (lv_at hl 0 rfl) ?_
      replace h := ob h; obtain ⟨v30, ev30, h⟩ := h
      refine hq_get hx hb hts hown hW (gI_V ev30) (F_Mo_191 hts) dMo_take_92 ?_
      replace h := ob h; obtain ⟨a31, hra31, h⟩ := h
      subst hra31
      replace h := ob h; obtain ⟨S32, eS32, h⟩ := h
      refine hq_iast hx hb hW eS32 rfl dMo_take_95 (fun H locs hW => ?_)
      refine lv_aload_n hx hb dMo_take_96 rfl (lv_at hl 0 rfl) ?_
      replace h := ob h; obtain ⟨r33, er33, h⟩ := h
      refine hq_get hx hb hts hown hW (gR_V er33) (F_Mo_78 hts) dMo_take_97 ?_
      refine lv_iconst hx hb dMo_take_100 (v := (3 : Int32)) rfl ?_
      refine lv_aload_n hx hb dMo_take_101 rfl (lv_at hl 0 rfl) ?_
      replace h := ob h; obtain ⟨v34, ev34, h⟩ := h
      refine hq_get hx hb hts hown hW (gI_V ev34) (F_Mo_210 hts) dMo_take_102 ?_
      refine lv_imul hx hb dMo_take_105 ?_
      refine lv_iconst hx hb dMo_take_106 (v := (1 : Int32)) rfl ?_
      refine lv_iadd hx hb dMo_take_107 ?_
      refine lv_iload_n hx hb dMo_take_108 rfl (lv_at hl 1 rfl) ?_
      replace h := ob h; obtain ⟨a35, hra35, h⟩ := h
      subst hra35
      replace h := ob h; obtain ⟨S36, eS36, h⟩ := h
      refine hq_iast hx hb hW eS36 rfl dMo_take_109 (fun H locs hW => ?_)
      refine lv_aload_n hx hb dMo_take_110 rfl (lv_at hl 0 rfl) ?_
      replace h := ob h; obtain ⟨r37, er37, h⟩ := h
      refine hq_get hx hb hts hown hW (gR_V er37) (F_Mo_78 hts) dMo_take_111 ?_
      refine lv_iconst hx hb dMo_take_114 (v := (3 : Int32)) rfl ?_
      refine lv_aload_n hx hb dMo_take_115 rfl (lv_at hl 0 rfl) ?_
      replace h := ob h; obtain ⟨v38, ev38, h⟩ := h
      refine hq_get hx hb hts hown hW (gI_V ev38) (F_Mo_210 hts) dMo_take_116 ?_
      refine lv_imul hx hb dMo_take_119 ?_
      refine lv_iconst hx hb dMo_take_120 (v := (2 : Int32)) rfl ?_
      refine lv_iadd hx hb dMo_take_121 ?_
      refine lv_iload_n hx hb dMo_take_122 rfl (lv_at hl 2 rfl) ?_
      replace h := ob h; obtain ⟨a39, hra39, h⟩ := h
      subst hra39
      replace h := ob h; obtain ⟨S40, eS40, h⟩ := h
      refine hq_iast hx hb hW eS40 rfl dMo_take_123 (fun H locs hW => ?_)
      refine lv_aload_n hx hb dMo_take_124 rfl (lv_at hl 0 rfl) ?_
      refine lv_dup hx hb dMo_take_125 rfl ?_
      replace h := ob h; obtain ⟨v41, ev41, h⟩ := h
      refine hq_get hx hb hts hown hW (gI_V ev41) (F_Mo_210 hts) dMo_take_126 ?_
      refine lv_iconst hx hb dMo_take_129 (v := (1 : Int32)) rfl ?_
      refine lv_iadd hx hb dMo_take_130 ?_
      replace h := ob h; obtain ⟨S42, eS42, h⟩ := h
      refine hq_put hx hb hts hown hW eS42 (F_Mo_210 hts) P_Mo_Mo_25 rfl rfl dMo_take_131 (fun H locs hW => ?_)
      exact hq_vret hx hb hr hlocks h (Nat.le_of_ble_eq_true rfl) (Nat.le_of_ble_eq_true rfl) hW dMo_take_134
    clear h; have h := e81; clear e81
    refine lv_icmp_ne hx hb dMo_take_40 (tgt := 81) rfl (fun hc27 => ?_) (fun hc27 => ?_)
    · replace h := if_f hc27 h
      exact hJ81 _ (Option.some.inj h) _ _ _ (lv_sub hl [0, 1, 2] rfl) hW
    · replace h := if_t hc27 h
      refine lv_aload_n hx hb dMo_take_43 rfl (lv_at hl 0 rfl) ?_
      refine lv_dup hx hb dMo_take_44 rfl ?_
      replace h := ob h; obtain ⟨v14, ev14, h⟩ := h
      refine hq_get hx hb hts hown hW (gI_V ev14) (F_Mo_210 hts) dMo_take_45 ?_
      refine lv_iconst hx hb dMo_take_48 (v := (1 : Int32)) rfl ?_
      refine lv_isub hx hb dMo_take_49 ?_
      replace h := ob h; obtain ⟨S15, eS15, h⟩ := h
      refine hq_put hx hb hts hown hW eS15 (F_Mo_210 hts) P_Mo_Mo_25 rfl rfl dMo_take_50 (fun H locs hW => ?_)
      refine lv_iconst hx hb dMo_take_53 (v := (0 : Int32)) rfl ?_
      refine lv_istore_n (lv' := [(3, .int (0 : Int32)), (0, .ref t0), (1, .int t1), (2, .int t2)]) hx hb dMo_take_54 rfl hl (Nat.le_of_ble_eq_true rfl) (by first | rfl | (simp [List.filter, rf_cat] <;> rfl)) (fun ls hl => ?_)
      replace h := ob h; obtain ⟨S19, eS19, h⟩ := h
      have hX : (fun q' => ∀ (H : Heap) (locs : List Loc) (ls : Array Slot), lv_has ls 4 [(0, .ref t0), (1, .int t1), (2, .int t2)] → Wd D vwCl (hTy tc) b q' s H locs → W p l e { frames := 1, cells := 0, slots := 0, locals := 40 } s m args below meth c H locs 0 0 (MQ below (va_Qv (fun _ : Unit => True) (fun _ => Wp D vwCl (hTy tc) b Sz) (fun q => b ≤ q)) args s 0 0 (fun q => b ≤ q)) (F0 m 81 ls [])) S19 := by
        intro H locs ls hl hW
        exact hJ81 _ (Option.some.inj h) _ _ _ (lv_sub hl [0, 1, 2] rfl) hW
      refine lp_ind (P := fun q' => ∀ (H : Heap) (locs : List Loc) (ls : Array Slot), lv_has ls 4 [(0, .ref t0), (1, .int t1), (2, .int t2), (3, .int q'.1)] → Wd D vwCl (hTy tc) b q'.2 s H locs → W p l e { frames := 1, cells := 0, slots := 0, locals := 40 } s m args below meth c H locs 0 0 (MQ below (va_Qv (fun _ : Unit => True) (fun _ => Wp D vwCl (hTy tc) b Sz) (fun q => b ≤ q)) args s 0 0 (fun q => b ≤ q)) (F0 m 55 ls [])) (Q := fun q' => ∀ (H : Heap) (locs : List Loc) (ls : Array Slot), lv_has ls 4 [(0, .ref t0), (1, .int t1), (2, .int t2)] → Wd D vwCl (hTy tc) b q' s H locs → W p l e { frames := 1, cells := 0, slots := 0, locals := 40 } s m args below meth c H locs 0 0 (MQ below (va_Qv (fun _ : Unit => True) (fun _ => Wp D vwCl (hTy tc) b Sz) (fun q => b ≤ q)) args s 0 0 (fun q => b ≤ q)) (F0 m 81 ls [])) (fun q' x18 h hin hex => ?_) hX _ _ eS19 _ _ _ (lv_sub hl [1, 2, 3, 0] rfl) hW
      obtain ⟨i16, S17⟩ := q'
      intro H locs ls hl hW
      unfold fMo_take_L55 at h
      refine lv_iload_n hx hb dMo_take_55 rfl (lv_at hl 3 rfl) ?_
      refine lv_bipush hx hb dMo_take_56 (v := (33 : Int32)) rfl ?_
      refine lv_icmp_ge hx hb dMo_take_58 (tgt := 81) rfl (fun hc26 => ?_) (fun hc26 => ?_)
      · replace h := if_t hc26 h
        exact hex _ (Option.some.inj h).symm _ _ _ (lv_sub hl [0, 1, 2] rfl) hW
      · replace h := if_f hc26 h
        refine lv_aload_n hx hb dMo_take_61 rfl (lv_at hl 0 rfl) ?_
        replace h := ob h; obtain ⟨r20, er20, h⟩ := h
        refine hq_get hx hb hts hown hW (gR_V er20) (F_Mo_78 hts) dMo_take_62 ?_
        refine lv_iload_n hx hb dMo_take_65 rfl (lv_at hl 3 rfl) ?_
        refine lv_aload_n hx hb dMo_take_66 rfl (lv_at hl 0 rfl) ?_
        replace h := ob h; obtain ⟨r21, er21, h⟩ := h
        refine hq_get hx hb hts hown hW (gR_V er21) (F_Mo_78 hts) dMo_take_67 ?_
        refine lv_iload_n hx hb dMo_take_70 rfl (lv_at hl 3 rfl) ?_
        refine lv_iconst hx hb dMo_take_71 (v := (3 : Int32)) rfl ?_
        refine lv_iadd hx hb dMo_take_72 ?_
        replace h := ob h; obtain ⟨a22, hra22, h⟩ := h
        subst hra22
        replace h := ob h; obtain ⟨v23, ev23, h⟩ := h
        refine hq_iald hx hb hW ev23 rfl dMo_take_73 ?_
        replace h := ob h; obtain ⟨a24, hra24, h⟩ := h
        subst hra24
        replace h := ob h; obtain ⟨S25, eS25, h⟩ := h
        refine hq_iast hx hb hW eS25 rfl dMo_take_74 (fun H locs hW => ?_)
        refine lv_iinc (k := 3) (v := i16 + 1) (lv' := [(3, .int (i16 + 1)), (0, .ref t0), (1, .int t1), (2, .int t2)]) hx hb dMo_take_75 hl rfl rfl (Nat.le_of_ble_eq_true rfl) (by first | rfl | (simp [List.filter, rf_cat] <;> rfl)) (fun ls hl => ?_)
        refine lv_goto hx hb dMo_take_78 (tgt := 55) rfl ?_
        exact hin _ (Option.some.inj h).symm _ _ _ (lv_sub hl [1, 2, 3, 0] rfl) hW
  refine lv_if_eq hx hb dMo_take_6 (tgt := 20) rfl (fun hc47 => ?_) (fun hc47 => ?_)
  · replace h := if_t hc47 h
    exact hP20_1  _ _ _ (lv_sub hl [0, 1, 2] rfl) hW h
  · replace h := if_f hc47 h
    refine lv_aload_n hx hb dMo_take_9 rfl (lv_at hl 0 rfl) ?_
    replace h := ob h; obtain ⟨r43, er43, h⟩ := h
    refine hq_get hx hb hts hown hW (gR_V er43) (F_Mo_75 hts) dMo_take_10 ?_
    refine lv_iload_n hx hb dMo_take_13 rfl (lv_at hl 1 rfl) ?_
    replace h := ob h; obtain ⟨a44, hra44, h⟩ := h
    subst hra44
    replace h := ob h; obtain ⟨v45, ev45, h⟩ := h
    refine hq_iald hx hb hW ev45 rfl dMo_take_14 ?_
    refine lv_iload_n hx hb dMo_take_15 rfl (lv_at hl 2 rfl) ?_
    refine lv_icmp_ne hx hb dMo_take_16 (tgt := 20) rfl (fun hc46 => ?_) (fun hc46 => ?_)
    · replace h := if_f hc46 h
      exact hP20_1  _ _ _ (lv_sub hl [0, 1, 2] rfl) hW h
    · replace h := if_t hc46 h
      exact hq_vret hx hb hr hlocks h (Nat.le_of_ble_eq_true rfl) (Nat.le_of_ble_eq_true rfl) hW dMo_take_19
def fMo_comes (t0 : Nat) (t1 : Int32) (S : Ws) : Option (Ws) :=
  (gR S t0 [8] 29).bind fun r1 => (r1).bind fun a2 => (aI S a2 0 t1).bind fun v3 => (gR S t0 [8] 29).bind fun r4 => (r4).bind fun a5 => (sI S a5 0 t1 (-1 : Int32)).bind fun S6 => (gR S6 t0 [8] 32).bind fun r7 => (r7).bind fun a8 => (sI S6 a8 0 t1 (-1 : Int32)).bind fun S9 => if v3 < (64 : Int32) then (gR S9 t0 [8] 16).bind fun r10 => (gR S9 t0 [8] 33).bind fun r11 => (r11).bind fun a12 => (aI S9 a12 0 t1).bind fun v13 => (if v13 ≤ 0 then some (1 : Int32) else some (2 : Int32)).bind fun i14 => (r10).bind fun a17 => (sI S9 a17 0 v3 i14).bind fun S18 => (gR S18 t0 [8] 17).bind fun r19 => (gR S18 t0 [8] 33).bind fun r20 => (r20).bind fun a21 => (aI S18 a21 0 t1).bind fun v22 => (r19).bind fun a23 => (sI S18 a23 0 v3 v22).bind fun S24 => (gR S24 t0 [8] 18).bind fun r25 => (gR S24 t0 [8] 33).bind fun r26 => (r26).bind fun a27 => (aI S24 a27 0 t1).bind fun v28 => if v28 ≤ 0 then (gR S24 t0 [8] 34).bind fun r29 => (r29).bind fun a30 => (aL S24 a30 2 t1).bind fun u31 => (r25).bind fun a32 => (sL S24 a32 2 v3 u31).bind fun S33 => some S33 else (r25).bind fun a34 => (sL S24 a34 2 v3 (0 : Int64)).bind fun S35 => some S35 else (gR S9 t0 [8] 34).bind fun r37 => (r37).bind fun a38 => (aL S9 a38 2 t1).bind fun u39 => (gO S9 t0 [8]).bind fun q41 => (fMo_take t0 (v3 - (64 : Int32)) u39.toInt32 S9).bind fun S40 => some S40
set_option maxRecDepth 100000 in
set_option maxHeartbeats 4000000 in
theorem kMo_comes (l : Launch) (D : va_G) (tc : Nat → ClassId) (b : Nat) (t0 : Nat) (t1 : Int32) (S Sz : Ws) (h : fMo_comes t0 t1 S = some Sz) : Met l yMo_comes wsMo_comes { frames := 2, cells := 0, slots := 0, locals := 80 } (va_Pc [.ref t0, .int t1] (Wp D vwCl (hTy tc) b S)) (va_Qv (fun _ : Unit => True) (fun _ => Wp D vwCl (hTy tc) b Sz) (fun q => b ≤ q)) 0 0 (fun q => b ≤ q) := by
  refine hq_ofW (cc := cMo_comes) (maxL := 3) (ret := none) (by decide) rfl (Nat.le_of_ble_eq_true rfl) fun p e s m args below meth c hx hb hr hts hown hlocks hnm hml H locs ls hl hW => ?_
  have hts : ∀ w ∈ lwG, w.before args s = true := fun w h => hts w (List.mem_cons_of_mem _ h)
  have hown : s.vm.findClass "SerialPlantModel" = some m.cls := hown
  have hl : lv_has ls 3 [(0, .ref t0), (1, .int t1)] := hl
  unfold fMo_comes at h
  refine lv_aload_n hx hb dMo_comes_0 rfl (lv_at hl 0 rfl) ?_
  replace h := ob h; obtain ⟨r1, er1, h⟩ := h
  refine hq_get hx hb hts hown hW (gR_V er1) (F_Mo_87 hts) dMo_comes_1 ?_
  refine lv_iload_n hx hb dMo_comes_4 rfl (lv_at hl 1 rfl) ?_
  replace h := ob h; obtain ⟨a2, hra2, h⟩ := h
  subst hra2
  replace h := ob h; obtain ⟨v3, ev3, h⟩ := h
  refine hq_iald hx hb hW ev3 rfl dMo_comes_5 ?_
  refine lv_istore_n (lv' := [(2, .int v3), (0, .ref t0), (1, .int t1)]) hx hb dMo_comes_6 rfl hl (Nat.le_of_ble_eq_true rfl) (by first | rfl | (simp [List.filter, rf_cat] <;> rfl)) (fun ls hl => ?_)
  refine lv_aload_n hx hb dMo_comes_7 rfl (lv_at hl 1 rfl) ?_
  replace h := ob h; obtain ⟨r4, er4, h⟩ := h
  refine hq_get hx hb hts hown hW (gR_V er4) (F_Mo_87 hts) dMo_comes_8 ?_
  refine lv_iload_n hx hb dMo_comes_11 rfl (lv_at hl 2 rfl) ?_
  refine lv_iconst hx hb dMo_comes_12 (v := (-1 : Int32)) rfl ?_
  replace h := ob h; obtain ⟨a5, hra5, h⟩ := h
  subst hra5
  replace h := ob h; obtain ⟨S6, eS6, h⟩ := h
  refine hq_iast hx hb hW eS6 rfl dMo_comes_13 (fun H locs hW => ?_)
  refine lv_aload_n hx hb dMo_comes_14 rfl (lv_at hl 1 rfl) ?_
  replace h := ob h; obtain ⟨r7, er7, h⟩ := h
  refine hq_get hx hb hts hown hW (gR_V er7) (F_Mo_96 hts) dMo_comes_15 ?_
  refine lv_iload_n hx hb dMo_comes_18 rfl (lv_at hl 2 rfl) ?_
  refine lv_iconst hx hb dMo_comes_19 (v := (-1 : Int32)) rfl ?_
  replace h := ob h; obtain ⟨a8, hra8, h⟩ := h
  subst hra8
  replace h := ob h; obtain ⟨S9, eS9, h⟩ := h
  refine hq_iast hx hb hW eS9 rfl dMo_comes_20 (fun H locs hW => ?_)
  refine lv_iload_n hx hb dMo_comes_21 rfl (lv_at hl 0 rfl) ?_
  refine lv_bipush hx hb dMo_comes_22 (v := (64 : Int32)) rfl ?_
  refine lv_icmp_lt hx hb dMo_comes_24 (tgt := 43) rfl (fun hc42 => ?_) (fun hc42 => ?_)
  · replace h := if_t hc42 h
    refine lv_aload_n hx hb dMo_comes_43 rfl (lv_at hl 1 rfl) ?_
    replace h := ob h; obtain ⟨r10, er10, h⟩ := h
    refine hq_get hx hb hts hown hW (gR_V er10) (F_Mo_54 hts) dMo_comes_44 ?_
    refine lv_iload_n hx hb dMo_comes_47 rfl (lv_at hl 0 rfl) ?_
    refine lv_aload_n hx hb dMo_comes_48 rfl (lv_at hl 1 rfl) ?_
    replace h := ob h; obtain ⟨r11, er11, h⟩ := h
    refine hq_get hx hb hts hown hW (gR_V er11) (F_Mo_99 hts) dMo_comes_49 ?_
    refine lv_iload_n hx hb dMo_comes_52 rfl (lv_at hl 2 rfl) ?_
    replace h := ob h; obtain ⟨a12, hra12, h⟩ := h
    subst hra12
    replace h := ob h; obtain ⟨v13, ev13, h⟩ := h
    refine hq_iald hx hb hW ev13 rfl dMo_comes_53 ?_
    replace h := ob h; obtain ⟨q15, e62, h⟩ := h
    have hJ62 : ∀ q', q' = q15 → ∀ (H : Heap) (locs : List Loc) (ls : Array Slot), lv_has ls 3 [(0, .ref t0), (1, .int t1), (2, .int v3)] → Wd D vwCl (hTy tc) b S9 s H locs → W p l e { frames := 2, cells := 0, slots := 0, locals := 80 } s m args below meth c H locs 0 0 (MQ below (va_Qv (fun _ : Unit => True) (fun _ => Wp D vwCl (hTy tc) b Sz) (fun q => b ≤ q)) args s 0 0 (fun q => b ≤ q)) (F0 m 62 ls [.int q', .int v3, va_rf r10]) := by
      intro i14 hq'; subst hq'
      intro H locs ls hl hW
      replace h := ob h; obtain ⟨a17, hra17, h⟩ := h
      subst hra17
      replace h := ob h; obtain ⟨S18, eS18, h⟩ := h
      refine hq_iast hx hb hW eS18 rfl dMo_comes_62 (fun H locs hW => ?_)
      refine lv_aload_n hx hb dMo_comes_63 rfl (lv_at hl 0 rfl) ?_
      replace h := ob h; obtain ⟨r19, er19, h⟩ := h
      refine hq_get hx hb hts hown hW (gR_V er19) (F_Mo_57 hts) dMo_comes_64 ?_
      refine lv_iload_n hx hb dMo_comes_67 rfl (lv_at hl 2 rfl) ?_
      refine lv_aload_n hx hb dMo_comes_68 rfl (lv_at hl 0 rfl) ?_
      replace h := ob h; obtain ⟨r20, er20, h⟩ := h
      refine hq_get hx hb hts hown hW (gR_V er20) (F_Mo_99 hts) dMo_comes_69 ?_
      refine lv_iload_n hx hb dMo_comes_72 rfl (lv_at hl 1 rfl) ?_
      replace h := ob h; obtain ⟨a21, hra21, h⟩ := h
      subst hra21
      replace h := ob h; obtain ⟨v22, ev22, h⟩ := h
      refine hq_iald hx hb hW ev22 rfl dMo_comes_73 ?_
      replace h := ob h; obtain ⟨a23, hra23, h⟩ := h
      subst hra23
      replace h := ob h; obtain ⟨S24, eS24, h⟩ := h
      refine hq_iast hx hb hW eS24 rfl dMo_comes_74 (fun H locs hW => ?_)
      refine lv_aload_n hx hb dMo_comes_75 rfl (lv_at hl 0 rfl) ?_
      replace h := ob h; obtain ⟨r25, er25, h⟩ := h
      refine hq_get hx hb hts hown hW (gR_V er25) (F_Mo_60 hts) dMo_comes_76 ?_
      refine lv_iload_n hx hb dMo_comes_79 rfl (lv_at hl 2 rfl) ?_
      refine lv_aload_n hx hb dMo_comes_80 rfl (lv_at hl 0 rfl) ?_
      replace h := ob h; obtain ⟨r26, er26, h⟩ := h
      refine hq_get hx hb hts hown hW (gR_V er26) (F_Mo_99 hts) dMo_comes_81 ?_
      refine lv_iload_n hx hb dMo_comes_84 rfl (lv_at hl 1 rfl) ?_
      replace h := ob h; obtain ⟨a27, hra27, h⟩ := h
      subst hra27
      replace h := ob h; obtain ⟨v28, ev28, h⟩ := h
      refine hq_iald hx hb hW ev28 rfl dMo_comes_85 ?_
      refine lv_if_le hx hb dMo_comes_86 (tgt := 93) rfl (fun hc36 => ?_) (fun hc36 => ?_)
      · replace h := if_t hc36 h
        refine lv_aload_n hx hb dMo_comes_93 rfl (lv_at hl 0 rfl) ?_
        replace h := ob h; obtain ⟨r29, er29, h⟩ := h
        refine hq_get hx hb hts hown hW (gR_V er29) (F_Mo_102 hts) dMo_comes_94 ?_
        refine lv_iload_n hx hb dMo_comes_97 rfl (lv_at hl 1 rfl) ?_
        replace h := ob h; obtain ⟨a30, hra30, h⟩ := h
        subst hra30
        replace h := ob h; obtain ⟨u31, eu31, h⟩ := h
        refine hq_lald hx hb hW eu31 rfl dMo_comes_98 ?_
        replace h := ob h; obtain ⟨a32, hra32, h⟩ := h
        subst hra32
        replace h := ob h; obtain ⟨S33, eS33, h⟩ := h
        refine hq_last hx hb hW eS33 rfl dMo_comes_99 (fun H locs hW => ?_)
        exact hq_vret hx hb hr hlocks h (Nat.le_of_ble_eq_true rfl) (Nat.le_of_ble_eq_true rfl) hW dMo_comes_100
      · replace h := if_f hc36 h
        refine lv_lconst hx hb dMo_comes_89 (v := (0 : Int64)) rfl ?_
        refine lv_goto hx hb dMo_comes_90 (tgt := 99) rfl ?_
        replace h := ob h; obtain ⟨a34, hra34, h⟩ := h
        subst hra34
        replace h := ob h; obtain ⟨S35, eS35, h⟩ := h
        refine hq_last hx hb hW eS35 rfl dMo_comes_99 (fun H locs hW => ?_)
        exact hq_vret hx hb hr hlocks h (Nat.le_of_ble_eq_true rfl) (Nat.le_of_ble_eq_true rfl) hW dMo_comes_100
    clear h; have h := e62; clear e62
    refine lv_if_le hx hb dMo_comes_54 (tgt := 61) rfl (fun hc16 => ?_) (fun hc16 => ?_)
    · replace h := if_t hc16 h
      refine lv_iconst hx hb dMo_comes_61 (v := (1 : Int32)) rfl ?_
      exact hJ62 _ (Option.some.inj h) _ _ _ (lv_sub hl [1, 2, 0] rfl) hW
    · replace h := if_f hc16 h
      refine lv_iconst hx hb dMo_comes_57 (v := (2 : Int32)) rfl ?_
      refine lv_goto hx hb dMo_comes_58 (tgt := 62) rfl ?_
      exact hJ62 _ (Option.some.inj h) _ _ _ (lv_sub hl [1, 2, 0] rfl) hW
  · replace h := if_f hc42 h
    refine lv_aload_n hx hb dMo_comes_27 rfl (lv_at hl 1 rfl) ?_
    refine lv_iload_n hx hb dMo_comes_28 rfl (lv_at hl 0 rfl) ?_
    refine lv_bipush hx hb dMo_comes_29 (v := (64 : Int32)) rfl ?_
    refine lv_isub hx hb dMo_comes_31 ?_
    refine lv_aload_n hx hb dMo_comes_32 rfl (lv_at hl 1 rfl) ?_
    replace h := ob h; obtain ⟨r37, er37, h⟩ := h
    refine hq_get hx hb hts hown hW (gR_V er37) (F_Mo_102 hts) dMo_comes_33 ?_
    refine lv_iload_n hx hb dMo_comes_36 rfl (lv_at hl 2 rfl) ?_
    replace h := ob h; obtain ⟨a38, hra38, h⟩ := h
    subst hra38
    replace h := ob h; obtain ⟨u39, eu39, h⟩ := h
    refine hq_lald hx hb hW eu39 rfl dMo_comes_37 ?_
    refine lv_l2i hx hb dMo_comes_38 (v := u39.toInt32) rfl ?_
    replace h := ob h; obtain ⟨q41, eq41, h⟩ := h
    replace h := ob h; obtain ⟨S40, eS40, h⟩ := h
    refine hq_callv (ce := 0) (sl := 0) (va_runV (As := [.int (v3 - (64 : Int32)), .int u39.toInt32]) (rest := []) ⟨hx, hb, hml, hown, hts⟩ (kMo_take l D tc b t0 (v3 - (64 : Int32)) u39.toInt32 S9 _ eS40) (cwV 2 hts GV_Mo_207_Mo rfl rfl rfl hd_Mo_take_V ⟨Nat.le_of_ble_eq_true rfl, Nat.le_of_ble_eq_true rfl⟩) (hq_preV1 hW eq41 rfl rfl) rfl rfl hl.1 rfl (lv_room (by first | exact Nat.le_of_ble_eq_true rfl | (simp only [List.map, rf_cat]; exact Nat.le_of_ble_eq_true rfl))) dMo_comes_39 ⟨Nat.le_of_ble_eq_true rfl, Nat.le_of_ble_eq_true rfl⟩) hW rfl rfl (fun H locs hW => ?_)
    exact hq_vret hx hb hr hlocks h (Nat.le_of_ble_eq_true rfl) (Nat.le_of_ble_eq_true rfl) hW dMo_comes_42
def fMo_carry_J74_1 (t2 : Int32) (S8 : Ws) (t0 : Nat) (t3 : Int32) (t4 : Int32) (t5 : Int32) (t6 : Int64) (i6 : Int32) (i18 : Int32) : Option ((Int32 × Int32 × Ws) ⊕ (Int32 × Ws)) :=
  (if t2 = 0 then some (1 : Int32) else some (0 : Int32)).bind fun i19 => (gO S8 t0 [8]).bind fun q24 => (fMo_gets t0 i18 t3 t4 t5 t6 i19 S8).bind fun (v23, S22) => (if v23 = 0 then if i6 = 0 then some (0 : Int32) else some (1 : Int32) else some (1 : Int32)).bind fun i25 => some (.inl (i25, i18 + 1, S22))
def fMo_carry_L36 (t0 : Nat) (t1 : Int32) (t2 : Int32) (t3 : Int32) (t4 : Int32) (t5 : Int32) (t6 : Int64) : Int32 × Int32 × Ws → Option ((Int32 × Int32 × Ws) ⊕ (Int32 × Ws)) :=
  fun (i6, i7, S8) => if (6 : Int32) < i7 then some (.inr (i6, S8)) else (gR S8 t0 [8] 1).bind fun r12 => (r12).bind fun a13 => (aI S8 a13 1 i7).bind fun v14 => if v14 = 0 then some (.inl (i6, i7 + 1, S8)) else (gR S8 t0 [8] 2).bind fun r15 => (r15).bind fun a16 => (aI S8 a16 0 i7).bind fun v17 => if v17 = t1 then if t2 = 0 then fMo_carry_J74_1 t2 S8 t0 t3 t4 t5 t6 i6 i7 else if t2 = i7 then fMo_carry_J74_1 t2 S8 t0 t3 t4 t5 t6 i6 i7 else some (.inl (i6, i7 + 1, S8)) else some (.inl (i6, i7 + 1, S8))
def fMo_carry (t0 : Nat) (t1 : Int32) (t2 : Int32) (t3 : Int32) (t4 : Int32) (t5 : Int32) (t6 : Int64) (S : Ws) : Option (Ws) :=
  (gO S t0 [8]).bind fun q2 => (fMo_writeRequest t0 t1 t2 t3 t4 t5 t6 S).bind fun S1 => (gR S1 t0 [8] 35).bind fun r3 => (r3).bind fun a4 => (aI S1 a4 1 t1).bind fun v5 => if v5 = 0 then (lp (fMo_carry_L36 t0 t1 t2 t3 t4 t5 t6) 1000 ((0 : Int32), (1 : Int32), S1)).bind fun (i10, S11) => if i10 = 0 then some S11 else (gO S11 t0 [8]).bind fun q35 => (fMo_writeAnswer t0 t1 t2 t3 t4 t5 t6 S11).bind fun S34 => (gR S34 t0 [8] 36).bind fun r36 => (r36).bind fun a37 => (aI S34 a37 1 t1).bind fun v38 => if v38 = 0 then (gR S34 t0 [8] 32).bind fun r39 => (gR S34 t0 [8] 3).bind fun r40 => (r40).bind fun a41 => (aI S34 a41 0 t2).bind fun v42 => (if (3 : Int32) ≤ v42 then some (-1 : Int32) else (gI S34 t0 [8] 0).bind fun v45 => (gR S34 t0 [8] 3).bind fun r46 => (r46).bind fun a47 => (aI S34 a47 0 t2).bind fun v48 => some (v45 + v48)).bind fun i43 => (r39).bind fun a50 => (sI S34 a50 0 t1 i43).bind fun S51 => (gR S51 t0 [8] 33).bind fun r52 => (gI S51 t0 [8] 39).bind fun v53 => (r52).bind fun a54 => (sI S51 a54 0 t1 v53).bind fun S55 => (gR S55 t0 [8] 34).bind fun r56 => (gL S55 t0 [8] 40).bind fun u57 => (r56).bind fun a58 => (sL S55 a58 2 t1 u57).bind fun S59 => (gR S59 t0 [8] 32).bind fun r60 => (r60).bind fun a61 => (aI S59 a61 0 t1).bind fun v62 => (gI S59 t0 [8] 0).bind fun v63 => if v62 = v63 then (gO S59 t0 [8]).bind fun q65 => (fMo_comes t0 t1 S59).bind fun S64 => some S64 else some S59 else (gR S34 t0 [8] 36).bind fun r67 => (r67).bind fun a68 => (bz (0 : Int32)).bind fun z70 => (sI S34 a68 1 t1 (0 : Int32)).bind fun S69 => some S69 else (gR S1 t0 [8] 35).bind fun r74 => (r74).bind fun a75 => (bz (0 : Int32)).bind fun z77 => (sI S1 a75 1 t1 (0 : Int32)).bind fun S76 => some S76
set_option maxRecDepth 100000 in
set_option maxHeartbeats 4000000 in
theorem kMo_carry (l : Launch) (D : va_G) (tc : Nat → ClassId) (b : Nat) (t0 : Nat) (t1 : Int32) (t2 : Int32) (t3 : Int32) (t4 : Int32) (t5 : Int32) (t6 : Int64) (S Sz : Ws) (h : fMo_carry t0 t1 t2 t3 t4 t5 t6 S = some Sz) : Met l yMo_carry wsMo_carry { frames := 6, cells := 0, slots := 0, locals := 240 } (va_Pc [.ref t0, .int t1, .int t2, .int t3, .int t4, .int t5, .long t6] (Wp D vwCl (hTy tc) b S)) (va_Qv (fun _ : Unit => True) (fun _ => Wp D vwCl (hTy tc) b Sz) (fun q => b ≤ q)) 0 0 (fun q => b ≤ q) := by
  refine hq_ofW (cc := cMo_carry) (maxL := 10) (ret := none) (by decide) rfl (Nat.le_of_ble_eq_true rfl) fun p e s m args below meth c hx hb hr hts hown hlocks hnm hml H locs ls hl hW => ?_
  have hts : ∀ w ∈ lwG, w.before args s = true := fun w h => hts w (List.mem_cons_of_mem _ h)
  have hown : s.vm.findClass "SerialPlantModel" = some m.cls := hown
  have hl : lv_has ls 10 [(0, .ref t0), (1, .int t1), (2, .int t2), (3, .int t3), (4, .int t4), (5, .int t5), (6, .long t6)] := hl
  unfold fMo_carry at h
  refine lv_aload_n hx hb dMo_carry_0 rfl (lv_at hl 0 rfl) ?_
  refine lv_iload_n hx hb dMo_carry_1 rfl (lv_at hl 1 rfl) ?_
  refine lv_iload_n hx hb dMo_carry_2 rfl (lv_at hl 2 rfl) ?_
  refine lv_iload_n hx hb dMo_carry_3 rfl (lv_at hl 3 rfl) ?_
  refine lv_iload hx hb dMo_carry_4 (lv_at hl 4 rfl) ?_
  refine lv_iload hx hb dMo_carry_6 (lv_at hl 5 rfl) ?_
  refine lv_lload hx hb dMo_carry_8 (lv_at hl 6 rfl) ?_
  replace h := ob h; obtain ⟨q2, eq2, h⟩ := h
  replace h := ob h; obtain ⟨S1, eS1, h⟩ := h
  refine hq_callv (ce := 0) (sl := 0) (va_runV (As := [.int t1, .int t2, .int t3, .int t4, .int t5, .long t6]) (rest := []) ⟨hx, hb, hml, hown, hts⟩ (kMo_writeRequest l D tc b t0 t1 t2 t3 t4 t5 t6 S _ eS1) (cwV 6 hts GV_Mo_171_Mo rfl rfl rfl hd_Mo_writeRequest_V ⟨Nat.le_of_ble_eq_true rfl, Nat.le_of_ble_eq_true rfl⟩) (hq_preV1 hW eq2 rfl rfl) rfl rfl hl.1 rfl (lv_room (by first | exact Nat.le_of_ble_eq_true rfl | (simp only [List.map, rf_cat]; exact Nat.le_of_ble_eq_true rfl))) dMo_carry_10 ⟨Nat.le_of_ble_eq_true rfl, Nat.le_of_ble_eq_true rfl⟩) hW rfl rfl (fun H locs hW => ?_)
  refine lv_aload_n hx hb dMo_carry_13 rfl (lv_at hl 0 rfl) ?_
  replace h := ob h; obtain ⟨r3, er3, h⟩ := h
  refine hq_get hx hb hts hown hW (gR_V er3) (F_Mo_105 hts) dMo_carry_14 ?_
  refine lv_iload_n hx hb dMo_carry_17 rfl (lv_at hl 1 rfl) ?_
  replace h := ob h; obtain ⟨a4, hra4, h⟩ := h
  subst hra4
  replace h := ob h; obtain ⟨v5, ev5, h⟩ := h
  refine hq_zald hx hb hW ev5 rfl dMo_carry_18 ?_
  refine lv_if_eq hx hb dMo_carry_19 (tgt := 30) rfl (fun hc78 => ?_) (fun hc78 => ?_)
  · replace h := if_t hc78 h
    refine lv_iconst hx hb dMo_carry_30 (v := (0 : Int32)) rfl ?_
    refine lv_istore (lv' := [(8, .int (0 : Int32)), (0, .ref t0), (1, .int t1), (2, .int t2), (3, .int t3), (4, .int t4), (5, .int t5), (6, .long t6)]) hx hb dMo_carry_31 hl (Nat.le_of_ble_eq_true rfl) (by first | rfl | (simp [List.filter, rf_cat] <;> rfl)) (fun ls hl => ?_)
    refine lv_iconst hx hb dMo_carry_33 (v := (1 : Int32)) rfl ?_
    refine lv_istore (lv' := [(9, .int (1 : Int32)), (8, .int (0 : Int32)), (0, .ref t0), (1, .int t1), (2, .int t2), (3, .int t3), (4, .int t4), (5, .int t5), (6, .long t6)]) hx hb dMo_carry_34 hl (Nat.le_of_ble_eq_true rfl) (by first | rfl | (simp [List.filter, rf_cat] <;> rfl)) (fun ls hl => ?_)
    replace h := ob h; obtain ⟨q73, eq73, h⟩ := h
    have hX : (fun q' => ∀ (H : Heap) (locs : List Loc) (ls : Array Slot), lv_has ls 10 [(0, .ref t0), (1, .int t1), (2, .int t2), (3, .int t3), (4, .int t4), (5, .int t5), (6, .long t6), (8, .int q'.1)] → Wd D vwCl (hTy tc) b q'.2 s H locs → W p l e { frames := 6, cells := 0, slots := 0, locals := 240 } s m args below meth c H locs 0 0 (MQ below (va_Qv (fun _ : Unit => True) (fun _ => Wp D vwCl (hTy tc) b Sz) (fun q => b ≤ q)) args s 0 0 (fun q => b ≤ q)) (F0 m 117 ls [])) q73 := by
      obtain ⟨i10, S11⟩ := q73
      intro H locs ls hl hW
      refine lv_iload hx hb dMo_carry_117 (lv_at hl 7 rfl) ?_
      refine lv_if_ne hx hb dMo_carry_119 (tgt := 123) rfl (fun hc72 => ?_) (fun hc72 => ?_)
      · replace h := if_f hc72 h
        refine lv_aload_n hx hb dMo_carry_123 rfl (lv_at hl 0 rfl) ?_
        refine lv_iload_n hx hb dMo_carry_124 rfl (lv_at hl 1 rfl) ?_
        refine lv_iload_n hx hb dMo_carry_125 rfl (lv_at hl 2 rfl) ?_
        refine lv_iload_n hx hb dMo_carry_126 rfl (lv_at hl 3 rfl) ?_
        refine lv_iload hx hb dMo_carry_127 (lv_at hl 4 rfl) ?_
        refine lv_iload hx hb dMo_carry_129 (lv_at hl 5 rfl) ?_
        refine lv_lload hx hb dMo_carry_131 (lv_at hl 6 rfl) ?_
        replace h := ob h; obtain ⟨q35, eq35, h⟩ := h
        replace h := ob h; obtain ⟨S34, eS34, h⟩ := h
        refine hq_callv (ce := 0) (sl := 0) (va_runV (As := [.int t1, .int t2, .int t3, .int t4, .int t5, .long t6]) (rest := []) ⟨hx, hb, hml, hown, hts⟩ (kMo_writeAnswer l D tc b t0 t1 t2 t3 t4 t5 t6 S11 _ eS34) (cwV 6 hts GV_Mo_201_Mo rfl rfl rfl hd_Mo_writeAnswer_V ⟨Nat.le_of_ble_eq_true rfl, Nat.le_of_ble_eq_true rfl⟩) (hq_preV1 hW eq35 rfl rfl) rfl rfl hl.1 rfl (lv_room (by first | exact Nat.le_of_ble_eq_true rfl | (simp only [List.map, rf_cat]; exact Nat.le_of_ble_eq_true rfl))) dMo_carry_133 ⟨Nat.le_of_ble_eq_true rfl, Nat.le_of_ble_eq_true rfl⟩) hW rfl rfl (fun H locs hW => ?_)
        refine lv_aload_n hx hb dMo_carry_136 rfl (lv_at hl 0 rfl) ?_
        replace h := ob h; obtain ⟨r36, er36, h⟩ := h
        refine hq_get hx hb hts hown hW (gR_V er36) (F_Mo_108 hts) dMo_carry_137 ?_
        refine lv_iload_n hx hb dMo_carry_140 rfl (lv_at hl 1 rfl) ?_
        replace h := ob h; obtain ⟨a37, hra37, h⟩ := h
        subst hra37
        replace h := ob h; obtain ⟨v38, ev38, h⟩ := h
        refine hq_zald hx hb hW ev38 rfl dMo_carry_141 ?_
        refine lv_if_eq hx hb dMo_carry_142 (tgt := 153) rfl (fun hc71 => ?_) (fun hc71 => ?_)
        · replace h := if_t hc71 h
          refine lv_aload_n hx hb dMo_carry_153 rfl (lv_at hl 0 rfl) ?_
          replace h := ob h; obtain ⟨r39, er39, h⟩ := h
          refine hq_get hx hb hts hown hW (gR_V er39) (F_Mo_96 hts) dMo_carry_154 ?_
          refine lv_iload_n hx hb dMo_carry_157 rfl (lv_at hl 1 rfl) ?_
          refine lv_aload_n hx hb dMo_carry_158 rfl (lv_at hl 0 rfl) ?_
          replace h := ob h; obtain ⟨r40, er40, h⟩ := h
          refine hq_get hx hb hts hown hW (gR_V er40) (F_Mo_17 hts) dMo_carry_159 ?_
          refine lv_iload_n hx hb dMo_carry_162 rfl (lv_at hl 2 rfl) ?_
          replace h := ob h; obtain ⟨a41, hra41, h⟩ := h
          subst hra41
          replace h := ob h; obtain ⟨v42, ev42, h⟩ := h
          refine hq_iald hx hb hW ev42 rfl dMo_carry_163 ?_
          refine lv_iconst hx hb dMo_carry_164 (v := (3 : Int32)) rfl ?_
          replace h := ob h; obtain ⟨q44, e183, h⟩ := h
          have hJ183 : ∀ q', q' = q44 → ∀ (H : Heap) (locs : List Loc) (ls : Array Slot), lv_has ls 10 [(0, .ref t0), (1, .int t1)] → Wd D vwCl (hTy tc) b S34 s H locs → W p l e { frames := 6, cells := 0, slots := 0, locals := 240 } s m args below meth c H locs 0 0 (MQ below (va_Qv (fun _ : Unit => True) (fun _ => Wp D vwCl (hTy tc) b Sz) (fun q => b ≤ q)) args s 0 0 (fun q => b ≤ q)) (F0 m 183 ls [.int q', .int t1, va_rf r39]) := by
            intro i43 hq'; subst hq'
            intro H locs ls hl hW
            replace h := ob h; obtain ⟨a50, hra50, h⟩ := h
            subst hra50
            replace h := ob h; obtain ⟨S51, eS51, h⟩ := h
            refine hq_iast hx hb hW eS51 rfl dMo_carry_183 (fun H locs hW => ?_)
            refine lv_aload_n hx hb dMo_carry_184 rfl (lv_at hl 0 rfl) ?_
            replace h := ob h; obtain ⟨r52, er52, h⟩ := h
            refine hq_get hx hb hts hown hW (gR_V er52) (F_Mo_99 hts) dMo_carry_185 ?_
            refine lv_iload_n hx hb dMo_carry_188 rfl (lv_at hl 1 rfl) ?_
            refine lv_aload_n hx hb dMo_carry_189 rfl (lv_at hl 0 rfl) ?_
            replace h := ob h; obtain ⟨v53, ev53, h⟩ := h
            refine hq_get hx hb hts hown hW (gI_V ev53) (F_Mo_164 hts) dMo_carry_190 ?_
            replace h := ob h; obtain ⟨a54, hra54, h⟩ := h
            subst hra54
            replace h := ob h; obtain ⟨S55, eS55, h⟩ := h
            refine hq_iast hx hb hW eS55 rfl dMo_carry_193 (fun H locs hW => ?_)
            refine lv_aload_n hx hb dMo_carry_194 rfl (lv_at hl 0 rfl) ?_
            replace h := ob h; obtain ⟨r56, er56, h⟩ := h
            refine hq_get hx hb hts hown hW (gR_V er56) (F_Mo_102 hts) dMo_carry_195 ?_
            refine lv_iload_n hx hb dMo_carry_198 rfl (lv_at hl 1 rfl) ?_
            refine lv_aload_n hx hb dMo_carry_199 rfl (lv_at hl 0 rfl) ?_
            replace h := ob h; obtain ⟨u57, eu57, h⟩ := h
            refine hq_get hx hb hts hown hW (gL_V eu57) (F_Mo_167 hts) dMo_carry_200 ?_
            replace h := ob h; obtain ⟨a58, hra58, h⟩ := h
            subst hra58
            replace h := ob h; obtain ⟨S59, eS59, h⟩ := h
            refine hq_last hx hb hW eS59 rfl dMo_carry_203 (fun H locs hW => ?_)
            refine lv_aload_n hx hb dMo_carry_204 rfl (lv_at hl 0 rfl) ?_
            replace h := ob h; obtain ⟨r60, er60, h⟩ := h
            refine hq_get hx hb hts hown hW (gR_V er60) (F_Mo_96 hts) dMo_carry_205 ?_
            refine lv_iload_n hx hb dMo_carry_208 rfl (lv_at hl 1 rfl) ?_
            replace h := ob h; obtain ⟨a61, hra61, h⟩ := h
            subst hra61
            replace h := ob h; obtain ⟨v62, ev62, h⟩ := h
            refine hq_iald hx hb hW ev62 rfl dMo_carry_209 ?_
            refine lv_aload_n hx hb dMo_carry_210 rfl (lv_at hl 0 rfl) ?_
            replace h := ob h; obtain ⟨v63, ev63, h⟩ := h
            refine hq_get hx hb hts hown hW (gI_V ev63) (F_Mo_191 hts) dMo_carry_211 ?_
            refine lv_icmp_ne hx hb dMo_carry_214 (tgt := 222) rfl (fun hc66 => ?_) (fun hc66 => ?_)
            · replace h := if_f hc66 h
              exact hq_vret hx hb hr hlocks h (Nat.le_of_ble_eq_true rfl) (Nat.le_of_ble_eq_true rfl) hW dMo_carry_222
            · replace h := if_t hc66 h
              refine lv_aload_n hx hb dMo_carry_217 rfl (lv_at hl 0 rfl) ?_
              refine lv_iload_n hx hb dMo_carry_218 rfl (lv_at hl 1 rfl) ?_
              replace h := ob h; obtain ⟨q65, eq65, h⟩ := h
              replace h := ob h; obtain ⟨S64, eS64, h⟩ := h
              refine hq_callv (ce := 0) (sl := 0) (va_runV (As := [.int t1]) (rest := []) ⟨hx, hb, hml, hown, hts⟩ (kMo_comes l D tc b t0 t1 S59 _ eS64) (cwV 1 hts GV_Mo_204_Mo rfl rfl rfl hd_Mo_comes_V ⟨Nat.le_of_ble_eq_true rfl, Nat.le_of_ble_eq_true rfl⟩) (hq_preV1 hW eq65 rfl rfl) rfl rfl hl.1 rfl (lv_room (by first | exact Nat.le_of_ble_eq_true rfl | (simp only [List.map, rf_cat]; exact Nat.le_of_ble_eq_true rfl))) dMo_carry_219 ⟨Nat.le_of_ble_eq_true rfl, Nat.le_of_ble_eq_true rfl⟩) hW rfl rfl (fun H locs hW => ?_)
              exact hq_vret hx hb hr hlocks h (Nat.le_of_ble_eq_true rfl) (Nat.le_of_ble_eq_true rfl) hW dMo_carry_222
          clear h; have h := e183; clear e183
          refine lv_icmp_ge hx hb dMo_carry_165 (tgt := 182) rfl (fun hc49 => ?_) (fun hc49 => ?_)
          · replace h := if_t hc49 h
            refine lv_iconst hx hb dMo_carry_182 (v := (-1 : Int32)) rfl ?_
            exact hJ183 _ (Option.some.inj h) _ _ _ (lv_sub hl [0, 1] rfl) hW
          · replace h := if_f hc49 h
            refine lv_aload_n hx hb dMo_carry_168 rfl (lv_at hl 0 rfl) ?_
            replace h := ob h; obtain ⟨v45, ev45, h⟩ := h
            refine hq_get hx hb hts hown hW (gI_V ev45) (F_Mo_191 hts) dMo_carry_169 ?_
            refine lv_aload_n hx hb dMo_carry_172 rfl (lv_at hl 0 rfl) ?_
            replace h := ob h; obtain ⟨r46, er46, h⟩ := h
            refine hq_get hx hb hts hown hW (gR_V er46) (F_Mo_17 hts) dMo_carry_173 ?_
            refine lv_iload_n hx hb dMo_carry_176 rfl (lv_at hl 2 rfl) ?_
            replace h := ob h; obtain ⟨a47, hra47, h⟩ := h
            subst hra47
            replace h := ob h; obtain ⟨v48, ev48, h⟩ := h
            refine hq_iald hx hb hW ev48 rfl dMo_carry_177 ?_
            refine lv_iadd hx hb dMo_carry_178 ?_
            refine lv_goto hx hb dMo_carry_179 (tgt := 183) rfl ?_
            exact hJ183 _ (Option.some.inj h) _ _ _ (lv_sub hl [0, 1] rfl) hW
        · replace h := if_f hc71 h
          refine lv_aload_n hx hb dMo_carry_145 rfl (lv_at hl 0 rfl) ?_
          replace h := ob h; obtain ⟨r67, er67, h⟩ := h
          refine hq_get hx hb hts hown hW (gR_V er67) (F_Mo_108 hts) dMo_carry_146 ?_
          refine lv_iload_n hx hb dMo_carry_149 rfl (lv_at hl 1 rfl) ?_
          refine lv_iconst hx hb dMo_carry_150 (v := (0 : Int32)) rfl ?_
          replace h := ob h; obtain ⟨a68, hra68, h⟩ := h
          subst hra68
          replace h := ob h; obtain ⟨z70, ez70, h⟩ := h
          replace h := ob h; obtain ⟨S69, eS69, h⟩ := h
          refine hq_zast hx hb hW eS69 rfl (bz_some ez70).2 dMo_carry_151 (fun H locs hW => ?_)
          exact hq_vret hx hb hr hlocks h (Nat.le_of_ble_eq_true rfl) (Nat.le_of_ble_eq_true rfl) hW dMo_carry_152
      · replace h := if_t hc72 h
        exact hq_vret hx hb hr hlocks h (Nat.le_of_ble_eq_true rfl) (Nat.le_of_ble_eq_true rfl) hW dMo_carry_122
    refine lp_ind (P := fun q' => ∀ (H : Heap) (locs : List Loc) (ls : Array Slot), lv_has ls 10 [(0, .ref t0), (1, .int t1), (2, .int t2), (3, .int t3), (4, .int t4), (5, .int t5), (6, .long t6), (8, .int q'.1), (9, .int q'.2.1)] → Wd D vwCl (hTy tc) b q'.2.2 s H locs → W p l e { frames := 6, cells := 0, slots := 0, locals := 240 } s m args below meth c H locs 0 0 (MQ below (va_Qv (fun _ : Unit => True) (fun _ => Wp D vwCl (hTy tc) b Sz) (fun q => b ≤ q)) args s 0 0 (fun q => b ≤ q)) (F0 m 36 ls [])) (Q := fun q' => ∀ (H : Heap) (locs : List Loc) (ls : Array Slot), lv_has ls 10 [(0, .ref t0), (1, .int t1), (2, .int t2), (3, .int t3), (4, .int t4), (5, .int t5), (6, .long t6), (8, .int q'.1)] → Wd D vwCl (hTy tc) b q'.2 s H locs → W p l e { frames := 6, cells := 0, slots := 0, locals := 240 } s m args below meth c H locs 0 0 (MQ below (va_Qv (fun _ : Unit => True) (fun _ => Wp D vwCl (hTy tc) b Sz) (fun q => b ≤ q)) args s 0 0 (fun q => b ≤ q)) (F0 m 117 ls [])) (fun q' x9 h hin hex => ?_) hX _ _ eq73 _ _ _ (lv_sub hl [2, 3, 4, 5, 6, 7, 8, 1, 0] rfl) hW
    obtain ⟨i6, i7, S8⟩ := q'
    intro H locs ls hl hW
    unfold fMo_carry_L36 at h
    refine lv_iload hx hb dMo_carry_36 (lv_at hl 8 rfl) ?_
    refine lv_bipush hx hb dMo_carry_38 (v := (6 : Int32)) rfl ?_
    refine lv_icmp_gt hx hb dMo_carry_40 (tgt := 117) rfl (fun hc33 => ?_) (fun hc33 => ?_)
    · replace h := if_t hc33 h
      exact hex _ (Option.some.inj h).symm _ _ _ (lv_sub hl [0, 1, 2, 3, 4, 5, 6, 7] rfl) hW
    · replace h := if_f hc33 h
      refine lv_aload_n hx hb dMo_carry_43 rfl (lv_at hl 0 rfl) ?_
      replace h := ob h; obtain ⟨r12, er12, h⟩ := h
      refine hq_get hx hb hts hown hW (gR_V er12) (F_Mo_7 hts) dMo_carry_44 ?_
      refine lv_iload hx hb dMo_carry_47 (lv_at hl 8 rfl) ?_
      replace h := ob h; obtain ⟨a13, hra13, h⟩ := h
      subst hra13
      replace h := ob h; obtain ⟨v14, ev14, h⟩ := h
      refine hq_zald hx hb hW ev14 rfl dMo_carry_49 ?_
      refine lv_if_eq hx hb dMo_carry_50 (tgt := 111) rfl (fun hc32 => ?_) (fun hc32 => ?_)
      · replace h := if_t hc32 h
        refine lv_iinc (k := 8) (v := i7 + 1) (lv' := [(9, .int (i7 + 1)), (0, .ref t0), (1, .int t1), (2, .int t2), (3, .int t3), (4, .int t4), (5, .int t5), (6, .long t6), (8, .int i6)]) hx hb dMo_carry_111 hl rfl rfl (Nat.le_of_ble_eq_true rfl) (by first | rfl | (simp [List.filter, rf_cat] <;> rfl)) (fun ls hl => ?_)
        refine lv_goto hx hb dMo_carry_114 (tgt := 36) rfl ?_
        exact hin _ (Option.some.inj h).symm _ _ _ (lv_sub hl [1, 2, 3, 4, 5, 6, 7, 8, 0] rfl) hW
      · replace h := if_f hc32 h
        refine lv_aload_n hx hb dMo_carry_53 rfl (lv_at hl 0 rfl) ?_
        replace h := ob h; obtain ⟨r15, er15, h⟩ := h
        refine hq_get hx hb hts hown hW (gR_V er15) (F_Mo_13 hts) dMo_carry_54 ?_
        refine lv_iload hx hb dMo_carry_57 (lv_at hl 8 rfl) ?_
        replace h := ob h; obtain ⟨a16, hra16, h⟩ := h
        subst hra16
        replace h := ob h; obtain ⟨v17, ev17, h⟩ := h
        refine hq_iald hx hb hW ev17 rfl dMo_carry_59 ?_
        refine lv_iload_n hx hb dMo_carry_60 rfl (lv_at hl 1 rfl) ?_
        refine lv_icmp_ne hx hb dMo_carry_61 (tgt := 111) rfl (fun hc31 => ?_) (fun hc31 => ?_)
        · replace h := if_f hc31 h
          refine lv_iinc (k := 8) (v := i7 + 1) (lv' := [(9, .int (i7 + 1)), (0, .ref t0), (1, .int t1), (2, .int t2), (3, .int t3), (4, .int t4), (5, .int t5), (6, .long t6), (8, .int i6)]) hx hb dMo_carry_111 hl rfl rfl (Nat.le_of_ble_eq_true rfl) (by first | rfl | (simp [List.filter, rf_cat] <;> rfl)) (fun ls hl => ?_)
          refine lv_goto hx hb dMo_carry_114 (tgt := 36) rfl ?_
          exact hin _ (Option.some.inj h).symm _ _ _ (lv_sub hl [1, 2, 3, 4, 5, 6, 7, 8, 0] rfl) hW
        · replace h := if_t hc31 h
          refine lv_iload_n hx hb dMo_carry_64 rfl (lv_at hl 2 rfl) ?_
          have hP74_1 : ∀ (i18 : Int32) (H : Heap) (locs : List Loc) (ls : Array Slot), lv_has ls 10 [(0, .ref t0), (1, .int t1), (2, .int t2), (3, .int t3), (4, .int t4), (5, .int t5), (6, .long t6), (8, .int i6), (9, .int i18)] → Wd D vwCl (hTy tc) b S8 s H locs → fMo_carry_J74_1 t2 S8 t0 t3 t4 t5 t6 i6 i18 = some x9 → W p l e { frames := 6, cells := 0, slots := 0, locals := 240 } s m args below meth c H locs 0 0 (MQ below (va_Qv (fun _ : Unit => True) (fun _ => Wp D vwCl (hTy tc) b Sz) (fun q => b ≤ q)) args s 0 0 (fun q => b ≤ q)) (F0 m 74 ls []) := by
            intro i18 H locs ls hl hW h
            unfold fMo_carry_J74_1 at h
            refine lv_aload_n hx hb dMo_carry_74 rfl (lv_at hl 0 rfl) ?_
            refine lv_iload hx hb dMo_carry_75 (lv_at hl 8 rfl) ?_
            refine lv_iload_n hx hb dMo_carry_77 rfl (lv_at hl 3 rfl) ?_
            refine lv_iload hx hb dMo_carry_78 (lv_at hl 4 rfl) ?_
            refine lv_iload hx hb dMo_carry_80 (lv_at hl 5 rfl) ?_
            refine lv_lload hx hb dMo_carry_82 (lv_at hl 6 rfl) ?_
            refine lv_iload_n hx hb dMo_carry_84 rfl (lv_at hl 2 rfl) ?_
            replace h := ob h; obtain ⟨q20, e93, h⟩ := h
            have hJ93 : ∀ q', q' = q20 → ∀ (H : Heap) (locs : List Loc) (ls : Array Slot), lv_has ls 10 [(0, .ref t0), (1, .int t1), (2, .int t2), (3, .int t3), (4, .int t4), (5, .int t5), (6, .long t6), (8, .int i6), (9, .int i18)] → Wd D vwCl (hTy tc) b S8 s H locs → W p l e { frames := 6, cells := 0, slots := 0, locals := 240 } s m args below meth c H locs 0 0 (MQ below (va_Qv (fun _ : Unit => True) (fun _ => Wp D vwCl (hTy tc) b Sz) (fun q => b ≤ q)) args s 0 0 (fun q => b ≤ q)) (F0 m 93 ls [.int q', .long t6, .int t5, .int t4, .int t3, .int i18, .ref t0]) := by
              intro i19 hq'; subst hq'
              intro H locs ls hl hW
              replace h := ob h; obtain ⟨q24, eq24, h⟩ := h
              replace h := ob h; obtain ⟨⟨v23, S22⟩, eS22, h⟩ := h
              refine hq_calli (ce := 0) (sl := 0) (va_runV (As := [.int i18, .int t3, .int t4, .int t5, .long t6, .int i19]) (rest := []) ⟨hx, hb, hml, hown, hts⟩ (kMo_gets l D tc b t0 i18 t3 t4 t5 t6 i19 S8 _ _ eS22) (cwV 6 hts GV_Mo_197_Mo rfl rfl rfl hd_Mo_gets_V ⟨Nat.le_of_ble_eq_true rfl, Nat.le_of_ble_eq_true rfl⟩) (hq_preV1 hW eq24 rfl rfl) rfl rfl hl.1 rfl (lv_room (by first | exact Nat.le_of_ble_eq_true rfl | (simp only [List.map, rf_cat]; exact Nat.le_of_ble_eq_true rfl))) dMo_carry_93 ⟨Nat.le_of_ble_eq_true rfl, Nat.le_of_ble_eq_true rfl⟩) hW rfl rfl (fun H locs hW => ?_)
              replace h := ob h; obtain ⟨q26, e109, h⟩ := h
              have hJ109 : ∀ q', q' = q26 → ∀ (H : Heap) (locs : List Loc) (ls : Array Slot), lv_has ls 10 [(0, .ref t0), (1, .int t1), (2, .int t2), (3, .int t3), (4, .int t4), (5, .int t5), (6, .long t6), (9, .int i18)] → Wd D vwCl (hTy tc) b S22 s H locs → W p l e { frames := 6, cells := 0, slots := 0, locals := 240 } s m args below meth c H locs 0 0 (MQ below (va_Qv (fun _ : Unit => True) (fun _ => Wp D vwCl (hTy tc) b Sz) (fun q => b ≤ q)) args s 0 0 (fun q => b ≤ q)) (F0 m 109 ls [.int q']) := by
                intro i25 hq'; subst hq'
                intro H locs ls hl hW
                refine lv_istore (lv' := [(8, .int i25), (0, .ref t0), (1, .int t1), (2, .int t2), (3, .int t3), (4, .int t4), (5, .int t5), (6, .long t6), (9, .int i18)]) hx hb dMo_carry_109 hl (Nat.le_of_ble_eq_true rfl) (by first | rfl | (simp [List.filter, rf_cat] <;> rfl)) (fun ls hl => ?_)
                refine lv_iinc (k := 8) (v := i18 + 1) (lv' := [(9, .int (i18 + 1)), (8, .int i25), (0, .ref t0), (1, .int t1), (2, .int t2), (3, .int t3), (4, .int t4), (5, .int t5), (6, .long t6)]) hx hb dMo_carry_111 hl rfl rfl (Nat.le_of_ble_eq_true rfl) (by first | rfl | (simp [List.filter, rf_cat] <;> rfl)) (fun ls hl => ?_)
                refine lv_goto hx hb dMo_carry_114 (tgt := 36) rfl ?_
                exact hin _ (Option.some.inj h).symm _ _ _ (lv_sub hl [2, 3, 4, 5, 6, 7, 8, 1, 0] rfl) hW
              clear h; have h := e109; clear e109
              refine lv_if_ne hx hb dMo_carry_96 (tgt := 104) rfl (fun hc28 => ?_) (fun hc28 => ?_)
              · replace h := if_f hc28 h
                refine lv_iconst hx hb dMo_carry_104 (v := (1 : Int32)) rfl ?_
                refine lv_goto hx hb dMo_carry_105 (tgt := 109) rfl ?_
                exact hJ109 _ (Option.some.inj h) _ _ _ (lv_sub hl [0, 1, 2, 3, 4, 5, 6, 8] rfl) hW
              · replace h := if_t hc28 h
                refine lv_iload hx hb dMo_carry_99 (lv_at hl 7 rfl) ?_
                refine lv_if_eq hx hb dMo_carry_101 (tgt := 108) rfl (fun hc27 => ?_) (fun hc27 => ?_)
                · replace h := if_t hc27 h
                  refine lv_iconst hx hb dMo_carry_108 (v := (0 : Int32)) rfl ?_
                  exact hJ109 _ (Option.some.inj h) _ _ _ (lv_sub hl [0, 1, 2, 3, 4, 5, 6, 8] rfl) hW
                · replace h := if_f hc27 h
                  refine lv_iconst hx hb dMo_carry_104 (v := (1 : Int32)) rfl ?_
                  refine lv_goto hx hb dMo_carry_105 (tgt := 109) rfl ?_
                  exact hJ109 _ (Option.some.inj h) _ _ _ (lv_sub hl [0, 1, 2, 3, 4, 5, 6, 8] rfl) hW
            clear h; have h := e93; clear e93
            refine lv_if_ne hx hb dMo_carry_85 (tgt := 92) rfl (fun hc21 => ?_) (fun hc21 => ?_)
            · replace h := if_f hc21 h
              refine lv_iconst hx hb dMo_carry_92 (v := (0 : Int32)) rfl ?_
              exact hJ93 _ (Option.some.inj h) _ _ _ (lv_sub hl [0, 1, 2, 3, 4, 5, 6, 7, 8] rfl) hW
            · replace h := if_t hc21 h
              refine lv_iconst hx hb dMo_carry_88 (v := (1 : Int32)) rfl ?_
              refine lv_goto hx hb dMo_carry_89 (tgt := 93) rfl ?_
              exact hJ93 _ (Option.some.inj h) _ _ _ (lv_sub hl [0, 1, 2, 3, 4, 5, 6, 7, 8] rfl) hW
          refine lv_if_eq hx hb dMo_carry_65 (tgt := 74) rfl (fun hc30 => ?_) (fun hc30 => ?_)
          · replace h := if_t hc30 h
            exact hP74_1 _ _ _ _ (lv_sub hl [0, 1, 2, 3, 4, 5, 6, 7, 8] rfl) hW h
          · replace h := if_f hc30 h
            refine lv_iload_n hx hb dMo_carry_68 rfl (lv_at hl 2 rfl) ?_
            refine lv_iload hx hb dMo_carry_69 (lv_at hl 8 rfl) ?_
            refine lv_icmp_ne hx hb dMo_carry_71 (tgt := 111) rfl (fun hc29 => ?_) (fun hc29 => ?_)
            · replace h := if_f hc29 h
              refine lv_iinc (k := 8) (v := i7 + 1) (lv' := [(9, .int (i7 + 1)), (0, .ref t0), (1, .int t1), (2, .int t2), (3, .int t3), (4, .int t4), (5, .int t5), (6, .long t6), (8, .int i6)]) hx hb dMo_carry_111 hl rfl rfl (Nat.le_of_ble_eq_true rfl) (by first | rfl | (simp [List.filter, rf_cat] <;> rfl)) (fun ls hl => ?_)
              refine lv_goto hx hb dMo_carry_114 (tgt := 36) rfl ?_
              exact hin _ (Option.some.inj h).symm _ _ _ (lv_sub hl [1, 2, 3, 4, 5, 6, 7, 8, 0] rfl) hW
            · replace h := if_t hc29 h
              exact hP74_1 _ _ _ _ (lv_sub hl [0, 1, 2, 3, 4, 5, 6, 7, 8] rfl) hW h
  · replace h := if_f hc78 h
    refine lv_aload_n hx hb dMo_carry_22 rfl (lv_at hl 0 rfl) ?_
    replace h := ob h; obtain ⟨r74, er74, h⟩ := h
    refine hq_get hx hb hts hown hW (gR_V er74) (F_Mo_105 hts) dMo_carry_23 ?_
    refine lv_iload_n hx hb dMo_carry_26 rfl (lv_at hl 1 rfl) ?_
    refine lv_iconst hx hb dMo_carry_27 (v := (0 : Int32)) rfl ?_
    replace h := ob h; obtain ⟨a75, hra75, h⟩ := h
    subst hra75
    replace h := ob h; obtain ⟨z77, ez77, h⟩ := h
    replace h := ob h; obtain ⟨S76, eS76, h⟩ := h
    refine hq_zast hx hb hW eS76 rfl (bz_some ez77).2 dMo_carry_28 (fun H locs hW => ?_)
    exact hq_vret hx hb hr hlocks h (Nat.le_of_ble_eq_true rfl) (Nat.le_of_ble_eq_true rfl) hW dMo_carry_29
def fMo_send (t0 : Nat) (t1 : Int32) (S : Ws) : Option (Ws) :=
  (gR S t0 [8] 29).bind fun r1 => (r1).bind fun a2 => (aI S a2 0 t1).bind fun v3 => (gR S t0 [8] 30).bind fun r4 => (r4).bind fun a5 => (aI S a5 0 t1).bind fun v6 => (sI S a5 0 t1 (v6 + (1 : Int32))).bind fun S7 => (gR S7 t0 [8] 31).bind fun r8 => (gI S7 t0 [8] 0).bind fun v9 => (r8).bind fun a10 => (sI S7 a10 0 t1 v9).bind fun S11 => (gR S11 t0 [8] 32).bind fun r12 => (r12).bind fun a13 => (sI S11 a13 0 t1 (-1 : Int32)).bind fun S14 => if (64 : Int32) ≤ v3 then (gR S14 t0 [8] 20).bind fun r15 => (r15).bind fun a16 => (aI S14 a16 0 (v3 - (64 : Int32))).bind fun v17 => (gR S14 t0 [8] 21).bind fun r18 => (r18).bind fun a19 => (aI S14 a19 0 (v3 - (64 : Int32))).bind fun v20 => (gR S14 t0 [8] 22).bind fun r21 => (r21).bind fun a22 => (aI S14 a22 0 (v3 - (64 : Int32))).bind fun v23 => (gO S14 t0 [8]).bind fun q25 => (fMo_carry t0 t1 v17 v20 v23 (1 : Int32) (0 : Int64) S14).bind fun S24 => some S24 else (gR S14 t0 [8] 11).bind fun r26 => (r26).bind fun a27 => (aI S14 a27 0 v3).bind fun v28 => (gR S14 t0 [8] 12).bind fun r29 => (r29).bind fun a30 => (aI S14 a30 0 v3).bind fun v31 => (gR S14 t0 [8] 13).bind fun r32 => (r32).bind fun a33 => (aI S14 a33 0 v3).bind fun v34 => (gR S14 t0 [8] 14).bind fun r35 => (r35).bind fun a36 => (aI S14 a36 0 v3).bind fun v37 => (gR S14 t0 [8] 15).bind fun r38 => (r38).bind fun a39 => (aL S14 a39 2 v3).bind fun u40 => (gO S14 t0 [8]).bind fun q42 => (fMo_carry t0 t1 v28 v31 v34 v37 u40 S14).bind fun S41 => some S41
set_option maxRecDepth 100000 in
set_option maxHeartbeats 4000000 in
theorem kMo_send (l : Launch) (D : va_G) (tc : Nat → ClassId) (b : Nat) (t0 : Nat) (t1 : Int32) (S Sz : Ws) (h : fMo_send t0 t1 S = some Sz) : Met l yMo_send wsMo_send { frames := 7, cells := 0, slots := 0, locals := 280 } (va_Pc [.ref t0, .int t1] (Wp D vwCl (hTy tc) b S)) (va_Qv (fun _ : Unit => True) (fun _ => Wp D vwCl (hTy tc) b Sz) (fun q => b ≤ q)) 0 0 (fun q => b ≤ q) := by
  refine hq_ofW (cc := cMo_send) (maxL := 3) (ret := none) (by decide) rfl (Nat.le_of_ble_eq_true rfl) fun p e s m args below meth c hx hb hr hts hown hlocks hnm hml H locs ls hl hW => ?_
  have hts : ∀ w ∈ lwG, w.before args s = true := fun w h => hts w (List.mem_cons_of_mem _ h)
  have hown : s.vm.findClass "SerialPlantModel" = some m.cls := hown
  have hl : lv_has ls 3 [(0, .ref t0), (1, .int t1)] := hl
  unfold fMo_send at h
  refine lv_aload_n hx hb dMo_send_0 rfl (lv_at hl 0 rfl) ?_
  replace h := ob h; obtain ⟨r1, er1, h⟩ := h
  refine hq_get hx hb hts hown hW (gR_V er1) (F_Mo_87 hts) dMo_send_1 ?_
  refine lv_iload_n hx hb dMo_send_4 rfl (lv_at hl 1 rfl) ?_
  replace h := ob h; obtain ⟨a2, hra2, h⟩ := h
  subst hra2
  replace h := ob h; obtain ⟨v3, ev3, h⟩ := h
  refine hq_iald hx hb hW ev3 rfl dMo_send_5 ?_
  refine lv_istore_n (lv' := [(2, .int v3), (0, .ref t0), (1, .int t1)]) hx hb dMo_send_6 rfl hl (Nat.le_of_ble_eq_true rfl) (by first | rfl | (simp [List.filter, rf_cat] <;> rfl)) (fun ls hl => ?_)
  refine lv_aload_n hx hb dMo_send_7 rfl (lv_at hl 1 rfl) ?_
  replace h := ob h; obtain ⟨r4, er4, h⟩ := h
  refine hq_get hx hb hts hown hW (gR_V er4) (F_Mo_90 hts) dMo_send_8 ?_
  refine lv_iload_n hx hb dMo_send_11 rfl (lv_at hl 2 rfl) ?_
  refine lv_dup2_11 hx hb dMo_send_12 rfl (rf_cat _) ?_
  replace h := ob h; obtain ⟨a5, hra5, h⟩ := h
  subst hra5
  replace h := ob h; obtain ⟨v6, ev6, h⟩ := h
  refine hq_iald hx hb hW ev6 rfl dMo_send_13 ?_
  refine lv_iconst hx hb dMo_send_14 (v := (1 : Int32)) rfl ?_
  refine lv_iadd hx hb dMo_send_15 ?_
  replace h := ob h; obtain ⟨S7, eS7, h⟩ := h
  refine hq_iast hx hb hW eS7 rfl dMo_send_16 (fun H locs hW => ?_)
  refine lv_aload_n hx hb dMo_send_17 rfl (lv_at hl 1 rfl) ?_
  replace h := ob h; obtain ⟨r8, er8, h⟩ := h
  refine hq_get hx hb hts hown hW (gR_V er8) (F_Mo_93 hts) dMo_send_18 ?_
  refine lv_iload_n hx hb dMo_send_21 rfl (lv_at hl 2 rfl) ?_
  refine lv_aload_n hx hb dMo_send_22 rfl (lv_at hl 1 rfl) ?_
  replace h := ob h; obtain ⟨v9, ev9, h⟩ := h
  refine hq_get hx hb hts hown hW (gI_V ev9) (F_Mo_191 hts) dMo_send_23 ?_
  replace h := ob h; obtain ⟨a10, hra10, h⟩ := h
  subst hra10
  replace h := ob h; obtain ⟨S11, eS11, h⟩ := h
  refine hq_iast hx hb hW eS11 rfl dMo_send_26 (fun H locs hW => ?_)
  refine lv_aload_n hx hb dMo_send_27 rfl (lv_at hl 1 rfl) ?_
  replace h := ob h; obtain ⟨r12, er12, h⟩ := h
  refine hq_get hx hb hts hown hW (gR_V er12) (F_Mo_96 hts) dMo_send_28 ?_
  refine lv_iload_n hx hb dMo_send_31 rfl (lv_at hl 2 rfl) ?_
  refine lv_iconst hx hb dMo_send_32 (v := (-1 : Int32)) rfl ?_
  replace h := ob h; obtain ⟨a13, hra13, h⟩ := h
  subst hra13
  replace h := ob h; obtain ⟨S14, eS14, h⟩ := h
  refine hq_iast hx hb hW eS14 rfl dMo_send_33 (fun H locs hW => ?_)
  refine lv_iload_n hx hb dMo_send_34 rfl (lv_at hl 0 rfl) ?_
  refine lv_bipush hx hb dMo_send_35 (v := (64 : Int32)) rfl ?_
  refine lv_icmp_ge hx hb dMo_send_37 (tgt := 78) rfl (fun hc43 => ?_) (fun hc43 => ?_)
  · replace h := if_t hc43 h
    refine lv_aload_n hx hb dMo_send_78 rfl (lv_at hl 1 rfl) ?_
    refine lv_iload_n hx hb dMo_send_79 rfl (lv_at hl 2 rfl) ?_
    refine lv_aload_n hx hb dMo_send_80 rfl (lv_at hl 1 rfl) ?_
    replace h := ob h; obtain ⟨r15, er15, h⟩ := h
    refine hq_get hx hb hts hown hW (gR_V er15) (F_Mo_63 hts) dMo_send_81 ?_
    refine lv_iload_n hx hb dMo_send_84 rfl (lv_at hl 0 rfl) ?_
    refine lv_bipush hx hb dMo_send_85 (v := (64 : Int32)) rfl ?_
    refine lv_isub hx hb dMo_send_87 ?_
    replace h := ob h; obtain ⟨a16, hra16, h⟩ := h
    subst hra16
    replace h := ob h; obtain ⟨v17, ev17, h⟩ := h
    refine hq_iald hx hb hW ev17 rfl dMo_send_88 ?_
    refine lv_aload_n hx hb dMo_send_89 rfl (lv_at hl 1 rfl) ?_
    replace h := ob h; obtain ⟨r18, er18, h⟩ := h
    refine hq_get hx hb hts hown hW (gR_V er18) (F_Mo_66 hts) dMo_send_90 ?_
    refine lv_iload_n hx hb dMo_send_93 rfl (lv_at hl 0 rfl) ?_
    refine lv_bipush hx hb dMo_send_94 (v := (64 : Int32)) rfl ?_
    refine lv_isub hx hb dMo_send_96 ?_
    replace h := ob h; obtain ⟨a19, hra19, h⟩ := h
    subst hra19
    replace h := ob h; obtain ⟨v20, ev20, h⟩ := h
    refine hq_iald hx hb hW ev20 rfl dMo_send_97 ?_
    refine lv_aload_n hx hb dMo_send_98 rfl (lv_at hl 1 rfl) ?_
    replace h := ob h; obtain ⟨r21, er21, h⟩ := h
    refine hq_get hx hb hts hown hW (gR_V er21) (F_Mo_69 hts) dMo_send_99 ?_
    refine lv_iload_n hx hb dMo_send_102 rfl (lv_at hl 0 rfl) ?_
    refine lv_bipush hx hb dMo_send_103 (v := (64 : Int32)) rfl ?_
    refine lv_isub hx hb dMo_send_105 ?_
    replace h := ob h; obtain ⟨a22, hra22, h⟩ := h
    subst hra22
    replace h := ob h; obtain ⟨v23, ev23, h⟩ := h
    refine hq_iald hx hb hW ev23 rfl dMo_send_106 ?_
    refine lv_iconst hx hb dMo_send_107 (v := (1 : Int32)) rfl ?_
    refine lv_lconst hx hb dMo_send_108 (v := (0 : Int64)) rfl ?_
    replace h := ob h; obtain ⟨q25, eq25, h⟩ := h
    replace h := ob h; obtain ⟨S24, eS24, h⟩ := h
    refine hq_callv (ce := 0) (sl := 0) (va_runV (As := [.int t1, .int v17, .int v20, .int v23, .int (1 : Int32), .long (0 : Int64)]) (rest := []) ⟨hx, hb, hml, hown, hts⟩ (kMo_carry l D tc b t0 t1 v17 v20 v23 (1 : Int32) (0 : Int64) S14 _ eS24) (cwV 6 hts GV_Mo_194_Mo rfl rfl rfl hd_Mo_carry_V ⟨Nat.le_of_ble_eq_true rfl, Nat.le_of_ble_eq_true rfl⟩) (hq_preV1 hW eq25 rfl rfl) rfl rfl hl.1 rfl (lv_room (by first | exact Nat.le_of_ble_eq_true rfl | (simp only [List.map, rf_cat]; exact Nat.le_of_ble_eq_true rfl))) dMo_send_109 ⟨Nat.le_of_ble_eq_true rfl, Nat.le_of_ble_eq_true rfl⟩) hW rfl rfl (fun H locs hW => ?_)
    exact hq_vret hx hb hr hlocks h (Nat.le_of_ble_eq_true rfl) (Nat.le_of_ble_eq_true rfl) hW dMo_send_112
  · replace h := if_f hc43 h
    refine lv_aload_n hx hb dMo_send_40 rfl (lv_at hl 1 rfl) ?_
    refine lv_iload_n hx hb dMo_send_41 rfl (lv_at hl 2 rfl) ?_
    refine lv_aload_n hx hb dMo_send_42 rfl (lv_at hl 1 rfl) ?_
    replace h := ob h; obtain ⟨r26, er26, h⟩ := h
    refine hq_get hx hb hts hown hW (gR_V er26) (F_Mo_38 hts) dMo_send_43 ?_
    refine lv_iload_n hx hb dMo_send_46 rfl (lv_at hl 0 rfl) ?_
    replace h := ob h; obtain ⟨a27, hra27, h⟩ := h
    subst hra27
    replace h := ob h; obtain ⟨v28, ev28, h⟩ := h
    refine hq_iald hx hb hW ev28 rfl dMo_send_47 ?_
    refine lv_aload_n hx hb dMo_send_48 rfl (lv_at hl 1 rfl) ?_
    replace h := ob h; obtain ⟨r29, er29, h⟩ := h
    refine hq_get hx hb hts hown hW (gR_V er29) (F_Mo_41 hts) dMo_send_49 ?_
    refine lv_iload_n hx hb dMo_send_52 rfl (lv_at hl 0 rfl) ?_
    replace h := ob h; obtain ⟨a30, hra30, h⟩ := h
    subst hra30
    replace h := ob h; obtain ⟨v31, ev31, h⟩ := h
    refine hq_iald hx hb hW ev31 rfl dMo_send_53 ?_
    refine lv_aload_n hx hb dMo_send_54 rfl (lv_at hl 1 rfl) ?_
    replace h := ob h; obtain ⟨r32, er32, h⟩ := h
    refine hq_get hx hb hts hown hW (gR_V er32) (F_Mo_44 hts) dMo_send_55 ?_
    refine lv_iload_n hx hb dMo_send_58 rfl (lv_at hl 0 rfl) ?_
    replace h := ob h; obtain ⟨a33, hra33, h⟩ := h
    subst hra33
    replace h := ob h; obtain ⟨v34, ev34, h⟩ := h
    refine hq_iald hx hb hW ev34 rfl dMo_send_59 ?_
    refine lv_aload_n hx hb dMo_send_60 rfl (lv_at hl 1 rfl) ?_
    replace h := ob h; obtain ⟨r35, er35, h⟩ := h
    refine hq_get hx hb hts hown hW (gR_V er35) (F_Mo_47 hts) dMo_send_61 ?_
    refine lv_iload_n hx hb dMo_send_64 rfl (lv_at hl 0 rfl) ?_
    replace h := ob h; obtain ⟨a36, hra36, h⟩ := h
    subst hra36
    replace h := ob h; obtain ⟨v37, ev37, h⟩ := h
    refine hq_iald hx hb hW ev37 rfl dMo_send_65 ?_
    refine lv_aload_n hx hb dMo_send_66 rfl (lv_at hl 1 rfl) ?_
    replace h := ob h; obtain ⟨r38, er38, h⟩ := h
    refine hq_get hx hb hts hown hW (gR_V er38) (F_Mo_50 hts) dMo_send_67 ?_
    refine lv_iload_n hx hb dMo_send_70 rfl (lv_at hl 0 rfl) ?_
    replace h := ob h; obtain ⟨a39, hra39, h⟩ := h
    subst hra39
    replace h := ob h; obtain ⟨u40, eu40, h⟩ := h
    refine hq_lald hx hb hW eu40 rfl dMo_send_71 ?_
    replace h := ob h; obtain ⟨q42, eq42, h⟩ := h
    replace h := ob h; obtain ⟨S41, eS41, h⟩ := h
    refine hq_callv (ce := 0) (sl := 0) (va_runV (As := [.int t1, .int v28, .int v31, .int v34, .int v37, .long u40]) (rest := []) ⟨hx, hb, hml, hown, hts⟩ (kMo_carry l D tc b t0 t1 v28 v31 v34 v37 u40 S14 _ eS41) (cwV 6 hts GV_Mo_194_Mo rfl rfl rfl hd_Mo_carry_V ⟨Nat.le_of_ble_eq_true rfl, Nat.le_of_ble_eq_true rfl⟩) (hq_preV1 hW eq42 rfl rfl) rfl rfl hl.1 rfl (lv_room (by first | exact Nat.le_of_ble_eq_true rfl | (simp only [List.map, rf_cat]; exact Nat.le_of_ble_eq_true rfl))) dMo_send_72 ⟨Nat.le_of_ble_eq_true rfl, Nat.le_of_ble_eq_true rfl⟩) hW rfl rfl (fun H locs hW => ?_)
    refine lv_goto hx hb dMo_send_75 (tgt := 112) rfl ?_
    exact hq_vret hx hb hr hlocks h (Nat.le_of_ble_eq_true rfl) (Nat.le_of_ble_eq_true rfl) hW dMo_send_112
def fMo_polls_L22 (S : Ws) (t0 : Nat) (t1 : Int32) (t2 : Int32) : Int32 × Int32 → Option ((Int32 × Int32) ⊕ (Int32)) :=
  fun (i7, i8) => (gR S t0 [8] 28).bind fun r11 => (r11).bind fun a12 => (aI S a12 0 t1).bind fun v13 => if v13 ≤ i8 then some (.inr i7) else (if i7 = 0 then (gR S t0 [8] 27).bind fun r16 => (r16).bind fun a17 => (aI S a17 0 (((4 : Int32) * t1) + i8)).bind fun v18 => if v18 = ((64 : Int32) + t2) then some (1 : Int32) else some (0 : Int32) else some (1 : Int32)).bind fun i14 => some (.inl (i14, i8 + 1))
def fMo_polls (t0 : Nat) (t1 : Int32) (t2 : Int32) (S : Ws) : Option (Int32 × Ws) :=
  (gR S t0 [8] 29).bind fun r1 => (r1).bind fun a2 => (aI S a2 0 t1).bind fun v3 => (if v3 = ((64 : Int32) + t2) then some (1 : Int32) else some (0 : Int32)).bind fun i4 => (lp (fMo_polls_L22 S t0 t1 t2) 1000 (i4, (0 : Int32))).bind fun i10 => (bz i10).bind fun z22 => some (i10, S)
set_option maxRecDepth 100000 in
set_option maxHeartbeats 4000000 in
theorem kMo_polls (l : Launch) (D : va_G) (tc : Nat → ClassId) (b : Nat) (t0 : Nat) (t1 : Int32) (t2 : Int32) (S Sz : Ws) (rr : Int32) (h : fMo_polls t0 t1 t2 S = some (rr, Sz)) : Met l yMo_polls wsMo_polls { frames := 1, cells := 0, slots := 0, locals := 40 } (va_Pc [.ref t0, .int t1, .int t2] (Wp D vwCl (hTy tc) b S)) (va_Qi (fun x (_ : Unit) => x = rr) (fun _ => Wp D vwCl (hTy tc) b Sz) (fun q => b ≤ q)) 0 0 (fun q => b ≤ q) := by
  refine hq_ofW (cc := cMo_polls) (maxL := 5) (ret := (some .boolean)) (by decide) rfl (Nat.le_of_ble_eq_true rfl) fun p e s m args below meth c hx hb hr hts hown hlocks hnm hml H locs ls hl hW => ?_
  have hts : ∀ w ∈ lwG, w.before args s = true := fun w h => hts w (List.mem_cons_of_mem _ h)
  have hown : s.vm.findClass "SerialPlantModel" = some m.cls := hown
  have hl : lv_has ls 5 [(0, .ref t0), (1, .int t1), (2, .int t2)] := hl
  unfold fMo_polls at h
  refine lv_aload_n hx hb dMo_polls_0 rfl (lv_at hl 0 rfl) ?_
  replace h := ob h; obtain ⟨r1, er1, h⟩ := h
  refine hq_get hx hb hts hown hW (gR_V er1) (F_Mo_87 hts) dMo_polls_1 ?_
  refine lv_iload_n hx hb dMo_polls_4 rfl (lv_at hl 1 rfl) ?_
  replace h := ob h; obtain ⟨a2, hra2, h⟩ := h
  subst hra2
  replace h := ob h; obtain ⟨v3, ev3, h⟩ := h
  refine hq_iald hx hb hW ev3 rfl dMo_polls_5 ?_
  refine lv_bipush hx hb dMo_polls_6 (v := (64 : Int32)) rfl ?_
  refine lv_iload_n hx hb dMo_polls_8 rfl (lv_at hl 2 rfl) ?_
  refine lv_iadd hx hb dMo_polls_9 ?_
  replace h := ob h; obtain ⟨q5, e18, h⟩ := h
  have hJ18 : ∀ q', q' = q5 → ∀ (H : Heap) (locs : List Loc) (ls : Array Slot), lv_has ls 5 [(0, .ref t0), (1, .int t1), (2, .int t2)] → Wd D vwCl (hTy tc) b S s H locs → W p l e { frames := 1, cells := 0, slots := 0, locals := 40 } s m args below meth c H locs 0 0 (MQ below (va_Qi (fun x (_ : Unit) => x = rr) (fun _ => Wp D vwCl (hTy tc) b Sz) (fun q => b ≤ q)) args s 0 0 (fun q => b ≤ q)) (F0 m 18 ls [.int q']) := by
    intro i4 hq'; subst hq'
    intro H locs ls hl hW
    refine lv_istore_n (lv' := [(3, .int i4), (0, .ref t0), (1, .int t1), (2, .int t2)]) hx hb dMo_polls_18 rfl hl (Nat.le_of_ble_eq_true rfl) (by first | rfl | (simp [List.filter, rf_cat] <;> rfl)) (fun ls hl => ?_)
    refine lv_iconst hx hb dMo_polls_19 (v := (0 : Int32)) rfl ?_
    refine lv_istore (lv' := [(4, .int (0 : Int32)), (3, .int i4), (0, .ref t0), (1, .int t1), (2, .int t2)]) hx hb dMo_polls_20 hl (Nat.le_of_ble_eq_true rfl) (by first | rfl | (simp [List.filter, rf_cat] <;> rfl)) (fun ls hl => ?_)
    replace h := ob h; obtain ⟨i10, ei10, h⟩ := h
    have hX : (fun q' => ∀ (H : Heap) (locs : List Loc) (ls : Array Slot), lv_has ls 5 [(3, .int q')] → Wd D vwCl (hTy tc) b S s H locs → W p l e { frames := 1, cells := 0, slots := 0, locals := 40 } s m args below meth c H locs 0 0 (MQ below (va_Qi (fun x (_ : Unit) => x = rr) (fun _ => Wp D vwCl (hTy tc) b Sz) (fun q => b ≤ q)) args s 0 0 (fun q => b ≤ q)) (F0 m 67 ls [])) i10 := by
      intro H locs ls hl hW
      refine lv_iload_n hx hb dMo_polls_67 rfl (lv_at hl 0 rfl) ?_
      replace h := ob h; obtain ⟨z22, ez22, h⟩ := h
      exact hq_zret hx hb hr hlocks (bz_some ez22).2 h (Nat.le_of_ble_eq_true rfl) (Nat.le_of_ble_eq_true rfl) hW dMo_polls_68
    refine lp_ind (P := fun q' => ∀ (H : Heap) (locs : List Loc) (ls : Array Slot), lv_has ls 5 [(0, .ref t0), (1, .int t1), (2, .int t2), (3, .int q'.1), (4, .int q'.2)] → Wd D vwCl (hTy tc) b S s H locs → W p l e { frames := 1, cells := 0, slots := 0, locals := 40 } s m args below meth c H locs 0 0 (MQ below (va_Qi (fun x (_ : Unit) => x = rr) (fun _ => Wp D vwCl (hTy tc) b Sz) (fun q => b ≤ q)) args s 0 0 (fun q => b ≤ q)) (F0 m 22 ls [])) (Q := fun q' => ∀ (H : Heap) (locs : List Loc) (ls : Array Slot), lv_has ls 5 [(3, .int q')] → Wd D vwCl (hTy tc) b S s H locs → W p l e { frames := 1, cells := 0, slots := 0, locals := 40 } s m args below meth c H locs 0 0 (MQ below (va_Qi (fun x (_ : Unit) => x = rr) (fun _ => Wp D vwCl (hTy tc) b Sz) (fun q => b ≤ q)) args s 0 0 (fun q => b ≤ q)) (F0 m 67 ls [])) (fun q' x9 h hin hex => ?_) hX _ _ ei10 _ _ _ (lv_sub hl [2, 3, 4, 1, 0] rfl) hW
    obtain ⟨i7, i8⟩ := q'
    intro H locs ls hl hW
    unfold fMo_polls_L22 at h
    refine lv_iload hx hb dMo_polls_22 (lv_at hl 4 rfl) ?_
    refine lv_aload_n hx hb dMo_polls_24 rfl (lv_at hl 0 rfl) ?_
    replace h := ob h; obtain ⟨r11, er11, h⟩ := h
    refine hq_get hx hb hts hown hW (gR_V er11) (F_Mo_84 hts) dMo_polls_25 ?_
    refine lv_iload_n hx hb dMo_polls_28 rfl (lv_at hl 1 rfl) ?_
    replace h := ob h; obtain ⟨a12, hra12, h⟩ := h
    subst hra12
    replace h := ob h; obtain ⟨v13, ev13, h⟩ := h
    refine hq_iald hx hb hW ev13 rfl dMo_polls_29 ?_
    refine lv_icmp_ge hx hb dMo_polls_30 (tgt := 67) rfl (fun hc21 => ?_) (fun hc21 => ?_)
    · replace h := if_t hc21 h
      exact hex _ (Option.some.inj h).symm _ _ _ (lv_sub hl [3] rfl) hW
    · replace h := if_f hc21 h
      refine lv_iload_n hx hb dMo_polls_33 rfl (lv_at hl 3 rfl) ?_
      replace h := ob h; obtain ⟨q15, e60, h⟩ := h
      have hJ60 : ∀ q', q' = q15 → ∀ (H : Heap) (locs : List Loc) (ls : Array Slot), lv_has ls 5 [(0, .ref t0), (1, .int t1), (2, .int t2), (4, .int i8)] → Wd D vwCl (hTy tc) b S s H locs → W p l e { frames := 1, cells := 0, slots := 0, locals := 40 } s m args below meth c H locs 0 0 (MQ below (va_Qi (fun x (_ : Unit) => x = rr) (fun _ => Wp D vwCl (hTy tc) b Sz) (fun q => b ≤ q)) args s 0 0 (fun q => b ≤ q)) (F0 m 60 ls [.int q']) := by
        intro i14 hq'; subst hq'
        intro H locs ls hl hW
        refine lv_istore_n (lv' := [(3, .int i14), (0, .ref t0), (1, .int t1), (2, .int t2), (4, .int i8)]) hx hb dMo_polls_60 rfl hl (Nat.le_of_ble_eq_true rfl) (by first | rfl | (simp [List.filter, rf_cat] <;> rfl)) (fun ls hl => ?_)
        refine lv_iinc (k := 4) (v := i8 + 1) (lv' := [(4, .int (i8 + 1)), (3, .int i14), (0, .ref t0), (1, .int t1), (2, .int t2)]) hx hb dMo_polls_61 hl rfl rfl (Nat.le_of_ble_eq_true rfl) (by first | rfl | (simp [List.filter, rf_cat] <;> rfl)) (fun ls hl => ?_)
        refine lv_goto hx hb dMo_polls_64 (tgt := 22) rfl ?_
        exact hin _ (Option.some.inj h).symm _ _ _ (lv_sub hl [2, 3, 4, 1, 0] rfl) hW
      clear h; have h := e60; clear e60
      refine lv_if_ne hx hb dMo_polls_34 (tgt := 55) rfl (fun hc20 => ?_) (fun hc20 => ?_)
      · replace h := if_f hc20 h
        refine lv_iconst hx hb dMo_polls_55 (v := (1 : Int32)) rfl ?_
        refine lv_goto hx hb dMo_polls_56 (tgt := 60) rfl ?_
        exact hJ60 _ (Option.some.inj h) _ _ _ (lv_sub hl [0, 1, 2, 4] rfl) hW
      · replace h := if_t hc20 h
        refine lv_aload_n hx hb dMo_polls_37 rfl (lv_at hl 0 rfl) ?_
        replace h := ob h; obtain ⟨r16, er16, h⟩ := h
        refine hq_get hx hb hts hown hW (gR_V er16) (F_Mo_81 hts) dMo_polls_38 ?_
        refine lv_iconst hx hb dMo_polls_41 (v := (4 : Int32)) rfl ?_
        refine lv_iload_n hx hb dMo_polls_42 rfl (lv_at hl 1 rfl) ?_
        refine lv_imul hx hb dMo_polls_43 ?_
        refine lv_iload hx hb dMo_polls_44 (lv_at hl 4 rfl) ?_
        refine lv_iadd hx hb dMo_polls_46 ?_
        replace h := ob h; obtain ⟨a17, hra17, h⟩ := h
        subst hra17
        replace h := ob h; obtain ⟨v18, ev18, h⟩ := h
        refine hq_iald hx hb hW ev18 rfl dMo_polls_47 ?_
        refine lv_bipush hx hb dMo_polls_48 (v := (64 : Int32)) rfl ?_
        refine lv_iload_n hx hb dMo_polls_50 rfl (lv_at hl 2 rfl) ?_
        refine lv_iadd hx hb dMo_polls_51 ?_
        refine lv_icmp_ne hx hb dMo_polls_52 (tgt := 59) rfl (fun hc19 => ?_) (fun hc19 => ?_)
        · replace h := if_f hc19 h
          refine lv_iconst hx hb dMo_polls_59 (v := (0 : Int32)) rfl ?_
          exact hJ60 _ (Option.some.inj h) _ _ _ (lv_sub hl [0, 1, 2, 4] rfl) hW
        · replace h := if_t hc19 h
          refine lv_iconst hx hb dMo_polls_55 (v := (1 : Int32)) rfl ?_
          refine lv_goto hx hb dMo_polls_56 (tgt := 60) rfl ?_
          exact hJ60 _ (Option.some.inj h) _ _ _ (lv_sub hl [0, 1, 2, 4] rfl) hW
  clear h; have h := e18; clear e18
  refine lv_icmp_ne hx hb dMo_polls_10 (tgt := 17) rfl (fun hc6 => ?_) (fun hc6 => ?_)
  · replace h := if_f hc6 h
    refine lv_iconst hx hb dMo_polls_17 (v := (0 : Int32)) rfl ?_
    exact hJ18 _ (Option.some.inj h) _ _ _ (lv_sub hl [0, 1, 2] rfl) hW
  · replace h := if_t hc6 h
    refine lv_iconst hx hb dMo_polls_13 (v := (1 : Int32)) rfl ?_
    refine lv_goto hx hb dMo_polls_14 (tgt := 18) rfl ?_
    exact hJ18 _ (Option.some.inj h) _ _ _ (lv_sub hl [0, 1, 2] rfl) hW
def fMo_goOn_J76_1 (t0 : Nat) (t1 : Int32) (v9 : Int32) (v3 : Int32)  (S18 : Ws) : Option (Ws) :=
  (gR S18 t0 [8] 29).bind fun r19 => (r19).bind fun a20 => (sI S18 a20 0 t1 (-1 : Int32)).bind fun S21 => if v9 = 0 then if (64 : Int32) ≤ v3 then some S21 else (gR S21 t0 [8] 16).bind fun r22 => (r22).bind fun a23 => (sI S21 a23 0 v3 (2 : Int32)).bind fun S24 => (gR S24 t0 [8] 17).bind fun r25 => (r25).bind fun a26 => (sI S24 a26 0 v3 (11 : Int32)).bind fun S27 => some S27 else some S21
def fMo_goOn (t0 : Nat) (t1 : Int32) (S : Ws) : Option (Ws) :=
  (gR S t0 [8] 29).bind fun r1 => (r1).bind fun a2 => (aI S a2 0 t1).bind fun v3 => (gR S t0 [8] 32).bind fun r4 => (r4).bind fun a5 => (aI S a5 0 t1).bind fun v6 => (gI S t0 [8] 0).bind fun v7 => if v6 = v7 then (gO S t0 [8]).bind fun q39 => (fMo_comes t0 t1 S).bind fun S38 => some S38 else (gO S t0 [8]).bind fun q10 => (fMo_isBroadcast t0 v3 S).bind fun (v9, S8) => (gI S8 t0 [8] 0).bind fun v11 => (gR S8 t0 [8] 31).bind fun r12 => (r12).bind fun a13 => (aI S8 a13 0 t1).bind fun v14 => (if v9 = 0 then some (3 : Int32) else some (2 : Int32)).bind fun i15 => if i15 ≤ (v11 - v14) then if v9 = 0 then (gR S8 t0 [8] 30).bind fun r30 => (r30).bind fun a31 => (aI S8 a31 0 t1).bind fun v32 => if (3 : Int32) ≤ v32 then fMo_goOn_J76_1 t0 t1 v9 v3 S8 else (gO S8 t0 [8]).bind fun q34 => (fMo_send t0 t1 S8).bind fun S33 => some S33 else fMo_goOn_J76_1 t0 t1 v9 v3 S8 else some S8
set_option maxRecDepth 100000 in
set_option maxHeartbeats 4000000 in
theorem kMo_goOn (l : Launch) (D : va_G) (tc : Nat → ClassId) (b : Nat) (t0 : Nat) (t1 : Int32) (S Sz : Ws) (h : fMo_goOn t0 t1 S = some Sz) : Met l yMo_goOn wsMo_goOn { frames := 8, cells := 0, slots := 0, locals := 320 } (va_Pc [.ref t0, .int t1] (Wp D vwCl (hTy tc) b S)) (va_Qv (fun _ : Unit => True) (fun _ => Wp D vwCl (hTy tc) b Sz) (fun q => b ≤ q)) 0 0 (fun q => b ≤ q) := by
  refine hq_ofW (cc := cMo_goOn) (maxL := 4) (ret := none) (by decide) rfl (Nat.le_of_ble_eq_true rfl) fun p e s m args below meth c hx hb hr hts hown hlocks hnm hml H locs ls hl hW => ?_
  have hts : ∀ w ∈ lwG, w.before args s = true := fun w h => hts w (List.mem_cons_of_mem _ h)
  have hown : s.vm.findClass "SerialPlantModel" = some m.cls := hown
  have hl : lv_has ls 4 [(0, .ref t0), (1, .int t1)] := hl
  unfold fMo_goOn at h
  refine lv_aload_n hx hb dMo_goOn_0 rfl (lv_at hl 0 rfl) ?_
  replace h := ob h; obtain ⟨r1, er1, h⟩ := h
  refine hq_get hx hb hts hown hW (gR_V er1) (F_Mo_87 hts) dMo_goOn_1 ?_
  refine lv_iload_n hx hb dMo_goOn_4 rfl (lv_at hl 1 rfl) ?_
  replace h := ob h; obtain ⟨a2, hra2, h⟩ := h
  subst hra2
  replace h := ob h; obtain ⟨v3, ev3, h⟩ := h
  refine hq_iald hx hb hW ev3 rfl dMo_goOn_5 ?_
  refine lv_istore_n (lv' := [(2, .int v3), (0, .ref t0), (1, .int t1)]) hx hb dMo_goOn_6 rfl hl (Nat.le_of_ble_eq_true rfl) (by first | rfl | (simp [List.filter, rf_cat] <;> rfl)) (fun ls hl => ?_)
  refine lv_aload_n hx hb dMo_goOn_7 rfl (lv_at hl 1 rfl) ?_
  replace h := ob h; obtain ⟨r4, er4, h⟩ := h
  refine hq_get hx hb hts hown hW (gR_V er4) (F_Mo_96 hts) dMo_goOn_8 ?_
  refine lv_iload_n hx hb dMo_goOn_11 rfl (lv_at hl 2 rfl) ?_
  replace h := ob h; obtain ⟨a5, hra5, h⟩ := h
  subst hra5
  replace h := ob h; obtain ⟨v6, ev6, h⟩ := h
  refine hq_iald hx hb hW ev6 rfl dMo_goOn_12 ?_
  refine lv_aload_n hx hb dMo_goOn_13 rfl (lv_at hl 1 rfl) ?_
  replace h := ob h; obtain ⟨v7, ev7, h⟩ := h
  refine hq_get hx hb hts hown hW (gI_V ev7) (F_Mo_191 hts) dMo_goOn_14 ?_
  refine lv_icmp_ne hx hb dMo_goOn_17 (tgt := 26) rfl (fun hc40 => ?_) (fun hc40 => ?_)
  · replace h := if_f hc40 h
    refine lv_aload_n hx hb dMo_goOn_26 rfl (lv_at hl 1 rfl) ?_
    refine lv_iload_n hx hb dMo_goOn_27 rfl (lv_at hl 0 rfl) ?_
    replace h := ob h; obtain ⟨q10, eq10, h⟩ := h
    replace h := ob h; obtain ⟨⟨v9, S8⟩, eS8, h⟩ := h
    refine hq_calli (ce := 0) (sl := 0) (va_runV (As := [.int v3]) (rest := []) ⟨hx, hb, hml, hown, hts⟩ (kMo_isBroadcast l D tc b t0 v3 S _ _ eS8) (cwV 1 hts GV_Mo_213_Mo rfl rfl rfl hd_Mo_isBroadcast_V ⟨Nat.le_of_ble_eq_true rfl, Nat.le_of_ble_eq_true rfl⟩) (hq_preV1 hW eq10 rfl rfl) rfl rfl hl.1 rfl (lv_room (by first | exact Nat.le_of_ble_eq_true rfl | (simp only [List.map, rf_cat]; exact Nat.le_of_ble_eq_true rfl))) dMo_goOn_28 ⟨Nat.le_of_ble_eq_true rfl, Nat.le_of_ble_eq_true rfl⟩) hW rfl rfl (fun H locs hW => ?_)
    refine lv_istore_n (lv' := [(3, .int v9), (2, .int v3), (0, .ref t0), (1, .int t1)]) hx hb dMo_goOn_31 rfl hl (Nat.le_of_ble_eq_true rfl) (by first | rfl | (simp [List.filter, rf_cat] <;> rfl)) (fun ls hl => ?_)
    refine lv_aload_n hx hb dMo_goOn_32 rfl (lv_at hl 2 rfl) ?_
    replace h := ob h; obtain ⟨v11, ev11, h⟩ := h
    refine hq_get hx hb hts hown hW (gI_V ev11) (F_Mo_191 hts) dMo_goOn_33 ?_
    refine lv_aload_n hx hb dMo_goOn_36 rfl (lv_at hl 2 rfl) ?_
    replace h := ob h; obtain ⟨r12, er12, h⟩ := h
    refine hq_get hx hb hts hown hW (gR_V er12) (F_Mo_93 hts) dMo_goOn_37 ?_
    refine lv_iload_n hx hb dMo_goOn_40 rfl (lv_at hl 3 rfl) ?_
    replace h := ob h; obtain ⟨a13, hra13, h⟩ := h
    subst hra13
    replace h := ob h; obtain ⟨v14, ev14, h⟩ := h
    refine hq_iald hx hb hW ev14 rfl dMo_goOn_41 ?_
    refine lv_isub hx hb dMo_goOn_42 ?_
    refine lv_iload_n hx hb dMo_goOn_43 rfl (lv_at hl 0 rfl) ?_
    replace h := ob h; obtain ⟨q16, e52, h⟩ := h
    have hJ52 : ∀ q', q' = q16 → ∀ (H : Heap) (locs : List Loc) (ls : Array Slot), lv_has ls 4 [(0, .ref t0), (1, .int t1), (2, .int v3), (3, .int v9)] → Wd D vwCl (hTy tc) b S8 s H locs → W p l e { frames := 8, cells := 0, slots := 0, locals := 320 } s m args below meth c H locs 0 0 (MQ below (va_Qv (fun _ : Unit => True) (fun _ => Wp D vwCl (hTy tc) b Sz) (fun q => b ≤ q)) args s 0 0 (fun q => b ≤ q)) (F0 m 52 ls [.int q', .int (v11 - v14)]) := by
      intro i15 hq'; subst hq'
      intro H locs ls hl hW
      refine lv_icmp_ge hx hb dMo_goOn_52 (tgt := 56) rfl (fun hc37 => ?_) (fun hc37 => ?_)
      · replace h := if_t hc37 h
        refine lv_iload_n hx hb dMo_goOn_56 rfl (lv_at hl 3 rfl) ?_
        have hP76_1 : ∀  (S18 : Ws) (H : Heap) (locs : List Loc) (ls : Array Slot), lv_has ls 4 [(0, .ref t0), (1, .int t1), (2, .int v3), (3, .int v9)] → Wd D vwCl (hTy tc) b S18 s H locs → fMo_goOn_J76_1 t0 t1 v9 v3 S18 = some Sz → W p l e { frames := 8, cells := 0, slots := 0, locals := 320 } s m args below meth c H locs 0 0 (MQ below (va_Qv (fun _ : Unit => True) (fun _ => Wp D vwCl (hTy tc) b Sz) (fun q => b ≤ q)) args s 0 0 (fun q => b ≤ q)) (F0 m 76 ls []) := by
          intro S18 H locs ls hl hW h
          unfold fMo_goOn_J76_1 at h
          refine lv_aload_n hx hb dMo_goOn_76 rfl (lv_at hl 0 rfl) ?_
          replace h := ob h; obtain ⟨r19, er19, h⟩ := h
          refine hq_get hx hb hts hown hW (gR_V er19) (F_Mo_87 hts) dMo_goOn_77 ?_
          refine lv_iload_n hx hb dMo_goOn_80 rfl (lv_at hl 1 rfl) ?_
          refine lv_iconst hx hb dMo_goOn_81 (v := (-1 : Int32)) rfl ?_
          replace h := ob h; obtain ⟨a20, hra20, h⟩ := h
          subst hra20
          replace h := ob h; obtain ⟨S21, eS21, h⟩ := h
          refine hq_iast hx hb hW eS21 rfl dMo_goOn_82 (fun H locs hW => ?_)
          refine lv_iload_n hx hb dMo_goOn_83 rfl (lv_at hl 3 rfl) ?_
          refine lv_if_ne hx hb dMo_goOn_84 (tgt := 108) rfl (fun hc29 => ?_) (fun hc29 => ?_)
          · replace h := if_f hc29 h
            exact hq_vret hx hb hr hlocks h (Nat.le_of_ble_eq_true rfl) (Nat.le_of_ble_eq_true rfl) hW dMo_goOn_108
          · replace h := if_t hc29 h
            refine lv_iload_n hx hb dMo_goOn_87 rfl (lv_at hl 2 rfl) ?_
            refine lv_bipush hx hb dMo_goOn_88 (v := (64 : Int32)) rfl ?_
            refine lv_icmp_ge hx hb dMo_goOn_90 (tgt := 108) rfl (fun hc28 => ?_) (fun hc28 => ?_)
            · replace h := if_t hc28 h
              exact hq_vret hx hb hr hlocks h (Nat.le_of_ble_eq_true rfl) (Nat.le_of_ble_eq_true rfl) hW dMo_goOn_108
            · replace h := if_f hc28 h
              refine lv_aload_n hx hb dMo_goOn_93 rfl (lv_at hl 0 rfl) ?_
              replace h := ob h; obtain ⟨r22, er22, h⟩ := h
              refine hq_get hx hb hts hown hW (gR_V er22) (F_Mo_54 hts) dMo_goOn_94 ?_
              refine lv_iload_n hx hb dMo_goOn_97 rfl (lv_at hl 2 rfl) ?_
              refine lv_iconst hx hb dMo_goOn_98 (v := (2 : Int32)) rfl ?_
              replace h := ob h; obtain ⟨a23, hra23, h⟩ := h
              subst hra23
              replace h := ob h; obtain ⟨S24, eS24, h⟩ := h
              refine hq_iast hx hb hW eS24 rfl dMo_goOn_99 (fun H locs hW => ?_)
              refine lv_aload_n hx hb dMo_goOn_100 rfl (lv_at hl 0 rfl) ?_
              replace h := ob h; obtain ⟨r25, er25, h⟩ := h
              refine hq_get hx hb hts hown hW (gR_V er25) (F_Mo_57 hts) dMo_goOn_101 ?_
              refine lv_iload_n hx hb dMo_goOn_104 rfl (lv_at hl 2 rfl) ?_
              refine lv_bipush hx hb dMo_goOn_105 (v := (11 : Int32)) rfl ?_
              replace h := ob h; obtain ⟨a26, hra26, h⟩ := h
              subst hra26
              replace h := ob h; obtain ⟨S27, eS27, h⟩ := h
              refine hq_iast hx hb hW eS27 rfl dMo_goOn_107 (fun H locs hW => ?_)
              exact hq_vret hx hb hr hlocks h (Nat.le_of_ble_eq_true rfl) (Nat.le_of_ble_eq_true rfl) hW dMo_goOn_108
        refine lv_if_ne hx hb dMo_goOn_57 (tgt := 76) rfl (fun hc36 => ?_) (fun hc36 => ?_)
        · replace h := if_f hc36 h
          exact hP76_1 _ _ _ _ (lv_sub hl [0, 1, 2, 3] rfl) hW h
        · replace h := if_t hc36 h
          refine lv_aload_n hx hb dMo_goOn_60 rfl (lv_at hl 0 rfl) ?_
          replace h := ob h; obtain ⟨r30, er30, h⟩ := h
          refine hq_get hx hb hts hown hW (gR_V er30) (F_Mo_90 hts) dMo_goOn_61 ?_
          refine lv_iload_n hx hb dMo_goOn_64 rfl (lv_at hl 1 rfl) ?_
          replace h := ob h; obtain ⟨a31, hra31, h⟩ := h
          subst hra31
          replace h := ob h; obtain ⟨v32, ev32, h⟩ := h
          refine hq_iald hx hb hW ev32 rfl dMo_goOn_65 ?_
          refine lv_iconst hx hb dMo_goOn_66 (v := (3 : Int32)) rfl ?_
          refine lv_icmp_ge hx hb dMo_goOn_67 (tgt := 76) rfl (fun hc35 => ?_) (fun hc35 => ?_)
          · replace h := if_t hc35 h
            exact hP76_1 _ _ _ _ (lv_sub hl [0, 1, 2, 3] rfl) hW h
          · replace h := if_f hc35 h
            refine lv_aload_n hx hb dMo_goOn_70 rfl (lv_at hl 0 rfl) ?_
            refine lv_iload_n hx hb dMo_goOn_71 rfl (lv_at hl 1 rfl) ?_
            replace h := ob h; obtain ⟨q34, eq34, h⟩ := h
            replace h := ob h; obtain ⟨S33, eS33, h⟩ := h
            refine hq_callv (ce := 0) (sl := 0) (va_runV (As := [.int t1]) (rest := []) ⟨hx, hb, hml, hown, hts⟩ (kMo_send l D tc b t0 t1 S8 _ eS33) (cwV 1 hts GV_Mo_217_Mo rfl rfl rfl hd_Mo_send_V ⟨Nat.le_of_ble_eq_true rfl, Nat.le_of_ble_eq_true rfl⟩) (hq_preV1 hW eq34 rfl rfl) rfl rfl hl.1 rfl (lv_room (by first | exact Nat.le_of_ble_eq_true rfl | (simp only [List.map, rf_cat]; exact Nat.le_of_ble_eq_true rfl))) dMo_goOn_72 ⟨Nat.le_of_ble_eq_true rfl, Nat.le_of_ble_eq_true rfl⟩) hW rfl rfl (fun H locs hW => ?_)
            exact hq_vret hx hb hr hlocks h (Nat.le_of_ble_eq_true rfl) (Nat.le_of_ble_eq_true rfl) hW dMo_goOn_75
      · replace h := if_f hc37 h
        exact hq_vret hx hb hr hlocks h (Nat.le_of_ble_eq_true rfl) (Nat.le_of_ble_eq_true rfl) hW dMo_goOn_55
    clear h; have h := e52; clear e52
    refine lv_if_eq hx hb dMo_goOn_44 (tgt := 51) rfl (fun hc17 => ?_) (fun hc17 => ?_)
    · replace h := if_t hc17 h
      refine lv_iconst hx hb dMo_goOn_51 (v := (3 : Int32)) rfl ?_
      exact hJ52 _ (Option.some.inj h) _ _ _ (lv_sub hl [2, 3, 1, 0] rfl) hW
    · replace h := if_f hc17 h
      refine lv_iconst hx hb dMo_goOn_47 (v := (2 : Int32)) rfl ?_
      refine lv_goto hx hb dMo_goOn_48 (tgt := 52) rfl ?_
      exact hJ52 _ (Option.some.inj h) _ _ _ (lv_sub hl [2, 3, 1, 0] rfl) hW
  · replace h := if_t hc40 h
    refine lv_aload_n hx hb dMo_goOn_20 rfl (lv_at hl 1 rfl) ?_
    refine lv_iload_n hx hb dMo_goOn_21 rfl (lv_at hl 2 rfl) ?_
    replace h := ob h; obtain ⟨q39, eq39, h⟩ := h
    replace h := ob h; obtain ⟨S38, eS38, h⟩ := h
    refine hq_callv (ce := 0) (sl := 0) (va_runV (As := [.int t1]) (rest := []) ⟨hx, hb, hml, hown, hts⟩ (kMo_comes l D tc b t0 t1 S _ eS38) (cwV 1 hts GV_Mo_204_Mo rfl rfl rfl hd_Mo_comes_V ⟨Nat.le_of_ble_eq_true rfl, Nat.le_of_ble_eq_true rfl⟩) (hq_preV1 hW eq39 rfl rfl) rfl rfl hl.1 rfl (lv_room (by first | exact Nat.le_of_ble_eq_true rfl | (simp only [List.map, rf_cat]; exact Nat.le_of_ble_eq_true rfl))) dMo_goOn_22 ⟨Nat.le_of_ble_eq_true rfl, Nat.le_of_ble_eq_true rfl⟩) hW rfl rfl (fun H locs hW => ?_)
    exact hq_vret hx hb hr hlocks h (Nat.le_of_ble_eq_true rfl) (Nat.le_of_ble_eq_true rfl) hW dMo_goOn_25
def fMo_begins_L33 (t0 : Nat) (t1 : Int32) : Int32 × Ws → Option ((Int32 × Ws) ⊕ (Ws)) :=
  fun (i14, S15) => (gR S15 t0 [8] 28).bind fun r18 => (r18).bind fun a19 => (aI S15 a19 0 t1).bind fun v20 => if v20 ≤ i14 then some (.inr S15) else (gR S15 t0 [8] 27).bind fun r21 => (gR S15 t0 [8] 27).bind fun r22 => (r22).bind fun a23 => (aI S15 a23 0 ((((4 : Int32) * t1) + i14) + (1 : Int32))).bind fun v24 => (r21).bind fun a25 => (sI S15 a25 0 (((4 : Int32) * t1) + i14) v24).bind fun S26 => some (.inl (i14 + 1, S26))
def fMo_begins (t0 : Nat) (t1 : Int32) (S : Ws) : Option (Ws) :=
  (gR S t0 [8] 29).bind fun r1 => (gR S t0 [8] 27).bind fun r2 => (r2).bind fun a3 => (aI S a3 0 ((4 : Int32) * t1)).bind fun v4 => (r1).bind fun a5 => (sI S a5 0 t1 v4).bind fun S6 => (gR S6 t0 [8] 30).bind fun r7 => (r7).bind fun a8 => (sI S6 a8 0 t1 (0 : Int32)).bind fun S9 => (gR S9 t0 [8] 28).bind fun r10 => (r10).bind fun a11 => (aI S9 a11 0 t1).bind fun v12 => (sI S9 a11 0 t1 (v12 - (1 : Int32))).bind fun S13 => (lp (fMo_begins_L33 t0 t1) 1000 ((0 : Int32), S13)).bind fun S17 => (gO S17 t0 [8]).bind fun q29 => (fMo_send t0 t1 S17).bind fun S28 => some S28
set_option maxRecDepth 100000 in
set_option maxHeartbeats 4000000 in
theorem kMo_begins (l : Launch) (D : va_G) (tc : Nat → ClassId) (b : Nat) (t0 : Nat) (t1 : Int32) (S Sz : Ws) (h : fMo_begins t0 t1 S = some Sz) : Met l yMo_begins wsMo_begins { frames := 8, cells := 0, slots := 0, locals := 320 } (va_Pc [.ref t0, .int t1] (Wp D vwCl (hTy tc) b S)) (va_Qv (fun _ : Unit => True) (fun _ => Wp D vwCl (hTy tc) b Sz) (fun q => b ≤ q)) 0 0 (fun q => b ≤ q) := by
  refine hq_ofW (cc := cMo_begins) (maxL := 3) (ret := none) (by decide) rfl (Nat.le_of_ble_eq_true rfl) fun p e s m args below meth c hx hb hr hts hown hlocks hnm hml H locs ls hl hW => ?_
  have hts : ∀ w ∈ lwG, w.before args s = true := fun w h => hts w (List.mem_cons_of_mem _ h)
  have hown : s.vm.findClass "SerialPlantModel" = some m.cls := hown
  have hl : lv_has ls 3 [(0, .ref t0), (1, .int t1)] := hl
  unfold fMo_begins at h
  refine lv_aload_n hx hb dMo_begins_0 rfl (lv_at hl 0 rfl) ?_
  replace h := ob h; obtain ⟨r1, er1, h⟩ := h
  refine hq_get hx hb hts hown hW (gR_V er1) (F_Mo_87 hts) dMo_begins_1 ?_
  refine lv_iload_n hx hb dMo_begins_4 rfl (lv_at hl 1 rfl) ?_
  refine lv_aload_n hx hb dMo_begins_5 rfl (lv_at hl 0 rfl) ?_
  replace h := ob h; obtain ⟨r2, er2, h⟩ := h
  refine hq_get hx hb hts hown hW (gR_V er2) (F_Mo_81 hts) dMo_begins_6 ?_
  refine lv_iconst hx hb dMo_begins_9 (v := (4 : Int32)) rfl ?_
  refine lv_iload_n hx hb dMo_begins_10 rfl (lv_at hl 1 rfl) ?_
  refine lv_imul hx hb dMo_begins_11 ?_
  replace h := ob h; obtain ⟨a3, hra3, h⟩ := h
  subst hra3
  replace h := ob h; obtain ⟨v4, ev4, h⟩ := h
  refine hq_iald hx hb hW ev4 rfl dMo_begins_12 ?_
  replace h := ob h; obtain ⟨a5, hra5, h⟩ := h
  subst hra5
  replace h := ob h; obtain ⟨S6, eS6, h⟩ := h
  refine hq_iast hx hb hW eS6 rfl dMo_begins_13 (fun H locs hW => ?_)
  refine lv_aload_n hx hb dMo_begins_14 rfl (lv_at hl 0 rfl) ?_
  replace h := ob h; obtain ⟨r7, er7, h⟩ := h
  refine hq_get hx hb hts hown hW (gR_V er7) (F_Mo_90 hts) dMo_begins_15 ?_
  refine lv_iload_n hx hb dMo_begins_18 rfl (lv_at hl 1 rfl) ?_
  refine lv_iconst hx hb dMo_begins_19 (v := (0 : Int32)) rfl ?_
  replace h := ob h; obtain ⟨a8, hra8, h⟩ := h
  subst hra8
  replace h := ob h; obtain ⟨S9, eS9, h⟩ := h
  refine hq_iast hx hb hW eS9 rfl dMo_begins_20 (fun H locs hW => ?_)
  refine lv_aload_n hx hb dMo_begins_21 rfl (lv_at hl 0 rfl) ?_
  replace h := ob h; obtain ⟨r10, er10, h⟩ := h
  refine hq_get hx hb hts hown hW (gR_V er10) (F_Mo_84 hts) dMo_begins_22 ?_
  refine lv_iload_n hx hb dMo_begins_25 rfl (lv_at hl 1 rfl) ?_
  refine lv_dup2_11 hx hb dMo_begins_26 rfl (rf_cat _) ?_
  replace h := ob h; obtain ⟨a11, hra11, h⟩ := h
  subst hra11
  replace h := ob h; obtain ⟨v12, ev12, h⟩ := h
  refine hq_iald hx hb hW ev12 rfl dMo_begins_27 ?_
  refine lv_iconst hx hb dMo_begins_28 (v := (1 : Int32)) rfl ?_
  refine lv_isub hx hb dMo_begins_29 ?_
  replace h := ob h; obtain ⟨S13, eS13, h⟩ := h
  refine hq_iast hx hb hW eS13 rfl dMo_begins_30 (fun H locs hW => ?_)
  refine lv_iconst hx hb dMo_begins_31 (v := (0 : Int32)) rfl ?_
  refine lv_istore_n (lv' := [(2, .int (0 : Int32)), (0, .ref t0), (1, .int t1)]) hx hb dMo_begins_32 rfl hl (Nat.le_of_ble_eq_true rfl) (by first | rfl | (simp [List.filter, rf_cat] <;> rfl)) (fun ls hl => ?_)
  replace h := ob h; obtain ⟨S17, eS17, h⟩ := h
  have hX : (fun q' => ∀ (H : Heap) (locs : List Loc) (ls : Array Slot), lv_has ls 3 [(0, .ref t0), (1, .int t1)] → Wd D vwCl (hTy tc) b q' s H locs → W p l e { frames := 8, cells := 0, slots := 0, locals := 320 } s m args below meth c H locs 0 0 (MQ below (va_Qv (fun _ : Unit => True) (fun _ => Wp D vwCl (hTy tc) b Sz) (fun q => b ≤ q)) args s 0 0 (fun q => b ≤ q)) (F0 m 71 ls [])) S17 := by
    intro H locs ls hl hW
    refine lv_aload_n hx hb dMo_begins_71 rfl (lv_at hl 0 rfl) ?_
    refine lv_iload_n hx hb dMo_begins_72 rfl (lv_at hl 1 rfl) ?_
    replace h := ob h; obtain ⟨q29, eq29, h⟩ := h
    replace h := ob h; obtain ⟨S28, eS28, h⟩ := h
    refine hq_callv (ce := 0) (sl := 0) (va_runV (As := [.int t1]) (rest := []) ⟨hx, hb, hml, hown, hts⟩ (kMo_send l D tc b t0 t1 S17 _ eS28) (cwV 1 hts GV_Mo_217_Mo rfl rfl rfl hd_Mo_send_V ⟨Nat.le_of_ble_eq_true rfl, Nat.le_of_ble_eq_true rfl⟩) (hq_preV1 hW eq29 rfl rfl) rfl rfl hl.1 rfl (lv_room (by first | exact Nat.le_of_ble_eq_true rfl | (simp only [List.map, rf_cat]; exact Nat.le_of_ble_eq_true rfl))) dMo_begins_73 ⟨Nat.le_of_ble_eq_true rfl, Nat.le_of_ble_eq_true rfl⟩) hW rfl rfl (fun H locs hW => ?_)
    exact hq_vret hx hb hr hlocks h (Nat.le_of_ble_eq_true rfl) (Nat.le_of_ble_eq_true rfl) hW dMo_begins_76
  refine lp_ind (P := fun q' => ∀ (H : Heap) (locs : List Loc) (ls : Array Slot), lv_has ls 3 [(0, .ref t0), (1, .int t1), (2, .int q'.1)] → Wd D vwCl (hTy tc) b q'.2 s H locs → W p l e { frames := 8, cells := 0, slots := 0, locals := 320 } s m args below meth c H locs 0 0 (MQ below (va_Qv (fun _ : Unit => True) (fun _ => Wp D vwCl (hTy tc) b Sz) (fun q => b ≤ q)) args s 0 0 (fun q => b ≤ q)) (F0 m 33 ls [])) (Q := fun q' => ∀ (H : Heap) (locs : List Loc) (ls : Array Slot), lv_has ls 3 [(0, .ref t0), (1, .int t1)] → Wd D vwCl (hTy tc) b q' s H locs → W p l e { frames := 8, cells := 0, slots := 0, locals := 320 } s m args below meth c H locs 0 0 (MQ below (va_Qv (fun _ : Unit => True) (fun _ => Wp D vwCl (hTy tc) b Sz) (fun q => b ≤ q)) args s 0 0 (fun q => b ≤ q)) (F0 m 71 ls [])) (fun q' x16 h hin hex => ?_) hX _ _ eS17 _ _ _ (lv_sub hl [1, 2, 0] rfl) hW
  obtain ⟨i14, S15⟩ := q'
  intro H locs ls hl hW
  unfold fMo_begins_L33 at h
  refine lv_iload_n hx hb dMo_begins_33 rfl (lv_at hl 2 rfl) ?_
  refine lv_aload_n hx hb dMo_begins_34 rfl (lv_at hl 0 rfl) ?_
  replace h := ob h; obtain ⟨r18, er18, h⟩ := h
  refine hq_get hx hb hts hown hW (gR_V er18) (F_Mo_84 hts) dMo_begins_35 ?_
  refine lv_iload_n hx hb dMo_begins_38 rfl (lv_at hl 1 rfl) ?_
  replace h := ob h; obtain ⟨a19, hra19, h⟩ := h
  subst hra19
  replace h := ob h; obtain ⟨v20, ev20, h⟩ := h
  refine hq_iald hx hb hW ev20 rfl dMo_begins_39 ?_
  refine lv_icmp_ge hx hb dMo_begins_40 (tgt := 71) rfl (fun hc27 => ?_) (fun hc27 => ?_)
  · replace h := if_t hc27 h
    exact hex _ (Option.some.inj h).symm _ _ _ (lv_sub hl [0, 1] rfl) hW
  · replace h := if_f hc27 h
    refine lv_aload_n hx hb dMo_begins_43 rfl (lv_at hl 0 rfl) ?_
    replace h := ob h; obtain ⟨r21, er21, h⟩ := h
    refine hq_get hx hb hts hown hW (gR_V er21) (F_Mo_81 hts) dMo_begins_44 ?_
    refine lv_iconst hx hb dMo_begins_47 (v := (4 : Int32)) rfl ?_
    refine lv_iload_n hx hb dMo_begins_48 rfl (lv_at hl 1 rfl) ?_
    refine lv_imul hx hb dMo_begins_49 ?_
    refine lv_iload_n hx hb dMo_begins_50 rfl (lv_at hl 2 rfl) ?_
    refine lv_iadd hx hb dMo_begins_51 ?_
    refine lv_aload_n hx hb dMo_begins_52 rfl (lv_at hl 0 rfl) ?_
    replace h := ob h; obtain ⟨r22, er22, h⟩ := h
    refine hq_get hx hb hts hown hW (gR_V er22) (F_Mo_81 hts) dMo_begins_53 ?_
    refine lv_iconst hx hb dMo_begins_56 (v := (4 : Int32)) rfl ?_
    refine lv_iload_n hx hb dMo_begins_57 rfl (lv_at hl 1 rfl) ?_
    refine lv_imul hx hb dMo_begins_58 ?_
    refine lv_iload_n hx hb dMo_begins_59 rfl (lv_at hl 2 rfl) ?_
    refine lv_iadd hx hb dMo_begins_60 ?_
    refine lv_iconst hx hb dMo_begins_61 (v := (1 : Int32)) rfl ?_
    refine lv_iadd hx hb dMo_begins_62 ?_
    replace h := ob h; obtain ⟨a23, hra23, h⟩ := h
    subst hra23
    replace h := ob h; obtain ⟨v24, ev24, h⟩ := h
    refine hq_iald hx hb hW ev24 rfl dMo_begins_63 ?_
    replace h := ob h; obtain ⟨a25, hra25, h⟩ := h
    subst hra25
    replace h := ob h; obtain ⟨S26, eS26, h⟩ := h
    refine hq_iast hx hb hW eS26 rfl dMo_begins_64 (fun H locs hW => ?_)
    refine lv_iinc (k := 2) (v := i14 + 1) (lv' := [(2, .int (i14 + 1)), (0, .ref t0), (1, .int t1)]) hx hb dMo_begins_65 hl rfl rfl (Nat.le_of_ble_eq_true rfl) (by first | rfl | (simp [List.filter, rf_cat] <;> rfl)) (fun ls hl => ?_)
    refine lv_goto hx hb dMo_begins_68 (tgt := 33) rfl ?_
    exact hin _ (Option.some.inj h).symm _ _ _ (lv_sub hl [1, 2, 0] rfl) hW
def fMo_tick_L12 (t0 : Nat) : Int32 × Ws → Option ((Int32 × Ws) ⊕ (Ws)) :=
  fun (i3, S4) => (gI S4 t0 [8] 19).bind fun v7 => if v7 ≤ i3 then some (.inr S4) else (gI S4 t0 [8] 0).bind fun v8 => if (v8 - v8 / (8 : Int32) * (8 : Int32)) = 0 then (gR S4 t0 [8] 2).bind fun r9 => (gR S4 t0 [8] 20).bind fun r10 => (r10).bind fun a11 => (aI S4 a11 0 i3).bind fun v12 => (r9).bind fun a13 => (aI S4 a13 0 v12).bind fun v14 => (gO S4 t0 [8]).bind fun q17 => (fMo_polls t0 v14 i3 S4).bind fun (v16, S15) => if v16 = 0 then (gR S15 t0 [8] 28).bind fun r18 => (r18).bind fun a19 => (aI S15 a19 0 v14).bind fun v20 => if (4 : Int32) ≤ v20 then some (.inl (i3 + 1, S15)) else (gO S15 t0 [8]).bind fun q22 => (fMo_put t0 v14 ((64 : Int32) + i3) S15).bind fun S21 => some (.inl (i3 + 1, S21)) else some (.inl (i3 + 1, S15)) else some (.inr S4)
def fMo_tick_L78 (t0 : Nat) : Int32 × Ws → Option ((Int32 × Ws) ⊕ (Ws)) :=
  fun (i27, S28) => if (2 : Int32) ≤ i27 then some (.inr S28) else (gR S28 t0 [8] 29).bind fun r31 => (r31).bind fun a32 => (aI S28 a32 0 i27).bind fun v33 => (if v33 < 0 then some S28 else (gO S28 t0 [8]).bind fun q37 => (fMo_goOn t0 i27 S28).bind fun S36 => some S36).bind fun S34 => (gR S34 t0 [8] 29).bind fun r39 => (r39).bind fun a40 => (aI S34 a40 0 i27).bind fun v41 => if 0 ≤ v41 then some (.inl (i27 + 1, S34)) else (gR S34 t0 [8] 28).bind fun r42 => (r42).bind fun a43 => (aI S34 a43 0 i27).bind fun v44 => if v44 ≤ 0 then some (.inl (i27 + 1, S34)) else (gO S34 t0 [8]).bind fun q46 => (fMo_begins t0 i27 S34).bind fun S45 => some (.inl (i27 + 1, S45))
def fMo_tick (t0 : Nat) (S : Ws) : Option (Int32 × Ws) :=
  (gI S t0 [8] 0).bind fun v1 => (pV S t0 [8] 0 (.int (v1 + (1 : Int32)))).bind fun S2 => (lp (fMo_tick_L12 t0) 1000 ((0 : Int32), S2)).bind fun S6 => (lp (fMo_tick_L78 t0) 1000 ((0 : Int32), S6)).bind fun S30 => (gI S30 t0 [8] 0).bind fun v50 => some (v50, S30)
set_option maxRecDepth 100000 in
set_option maxHeartbeats 4000000 in
theorem kMo_tick (l : Launch) (D : va_G) (tc : Nat → ClassId) (b : Nat) (t0 : Nat) (S Sz : Ws) (rr : Int32) (h : fMo_tick t0 S = some (rr, Sz)) : Met l yMo_tick wsMo_tick { frames := 9, cells := 0, slots := 0, locals := 360 } (va_Pc [.ref t0] (Wp D vwCl (hTy tc) b S)) (va_Qi (fun x (_ : Unit) => x = rr) (fun _ => Wp D vwCl (hTy tc) b Sz) (fun q => b ≤ q)) 0 0 (fun q => b ≤ q) := by
  refine hq_ofW (cc := cMo_tick) (maxL := 3) (ret := (some .int)) (by decide) rfl (Nat.le_of_ble_eq_true rfl) fun p e s m args below meth c hx hb hr hts hown hlocks hnm hml H locs ls hl hW => ?_
  have hts : ∀ w ∈ lwG, w.before args s = true := fun w h => hts w (List.mem_cons_of_mem _ h)
  have hown : s.vm.findClass "SerialPlantModel" = some m.cls := hown
  have hl : lv_has ls 3 [(0, .ref t0)] := hl
  unfold fMo_tick at h
  refine lv_aload_n hx hb dMo_tick_0 rfl (lv_at hl 0 rfl) ?_
  refine lv_dup hx hb dMo_tick_1 rfl ?_
  replace h := ob h; obtain ⟨v1, ev1, h⟩ := h
  refine hq_get hx hb hts hown hW (gI_V ev1) (F_Mo_191 hts) dMo_tick_2 ?_
  refine lv_iconst hx hb dMo_tick_5 (v := (1 : Int32)) rfl ?_
  refine lv_iadd hx hb dMo_tick_6 ?_
  replace h := ob h; obtain ⟨S2, eS2, h⟩ := h
  refine hq_put hx hb hts hown hW eS2 (F_Mo_191 hts) P_Mo_Mo_0 rfl rfl dMo_tick_7 (fun H locs hW => ?_)
  refine lv_iconst hx hb dMo_tick_10 (v := (0 : Int32)) rfl ?_
  refine lv_istore_n (lv' := [(1, .int (0 : Int32)), (0, .ref t0)]) hx hb dMo_tick_11 rfl hl (Nat.le_of_ble_eq_true rfl) (by first | rfl | (simp [List.filter, rf_cat] <;> rfl)) (fun ls hl => ?_)
  replace h := ob h; obtain ⟨S6, eS6, h⟩ := h
  have hX : (fun q' => ∀ (H : Heap) (locs : List Loc) (ls : Array Slot), lv_has ls 3 [(0, .ref t0)] → Wd D vwCl (hTy tc) b q' s H locs → W p l e { frames := 9, cells := 0, slots := 0, locals := 360 } s m args below meth c H locs 0 0 (MQ below (va_Qi (fun x (_ : Unit) => x = rr) (fun _ => Wp D vwCl (hTy tc) b Sz) (fun q => b ≤ q)) args s 0 0 (fun q => b ≤ q)) (F0 m 76 ls [])) S6 := by
    intro H locs ls hl hW
    refine lv_iconst hx hb dMo_tick_76 (v := (0 : Int32)) rfl ?_
    refine lv_istore_n (lv' := [(1, .int (0 : Int32)), (0, .ref t0)]) hx hb dMo_tick_77 rfl hl (Nat.le_of_ble_eq_true rfl) (by first | rfl | (simp [List.filter, rf_cat] <;> rfl)) (fun ls hl => ?_)
    replace h := ob h; obtain ⟨S30, eS30, h⟩ := h
    have hX : (fun q' => ∀ (H : Heap) (locs : List Loc) (ls : Array Slot), lv_has ls 3 [(0, .ref t0)] → Wd D vwCl (hTy tc) b q' s H locs → W p l e { frames := 9, cells := 0, slots := 0, locals := 360 } s m args below meth c H locs 0 0 (MQ below (va_Qi (fun x (_ : Unit) => x = rr) (fun _ => Wp D vwCl (hTy tc) b Sz) (fun q => b ≤ q)) args s 0 0 (fun q => b ≤ q)) (F0 m 126 ls [])) S30 := by
      intro H locs ls hl hW
      refine lv_aload_n hx hb dMo_tick_126 rfl (lv_at hl 0 rfl) ?_
      replace h := ob h; obtain ⟨v50, ev50, h⟩ := h
      refine hq_get hx hb hts hown hW (gI_V ev50) (F_Mo_191 hts) dMo_tick_127 ?_
      exact hq_iret hx hb hr hlocks h (Nat.le_of_ble_eq_true rfl) (Nat.le_of_ble_eq_true rfl) hW dMo_tick_130
    refine lp_ind (P := fun q' => ∀ (H : Heap) (locs : List Loc) (ls : Array Slot), lv_has ls 3 [(0, .ref t0), (1, .int q'.1)] → Wd D vwCl (hTy tc) b q'.2 s H locs → W p l e { frames := 9, cells := 0, slots := 0, locals := 360 } s m args below meth c H locs 0 0 (MQ below (va_Qi (fun x (_ : Unit) => x = rr) (fun _ => Wp D vwCl (hTy tc) b Sz) (fun q => b ≤ q)) args s 0 0 (fun q => b ≤ q)) (F0 m 78 ls [])) (Q := fun q' => ∀ (H : Heap) (locs : List Loc) (ls : Array Slot), lv_has ls 3 [(0, .ref t0)] → Wd D vwCl (hTy tc) b q' s H locs → W p l e { frames := 9, cells := 0, slots := 0, locals := 360 } s m args below meth c H locs 0 0 (MQ below (va_Qi (fun x (_ : Unit) => x = rr) (fun _ => Wp D vwCl (hTy tc) b Sz) (fun q => b ≤ q)) args s 0 0 (fun q => b ≤ q)) (F0 m 126 ls [])) (fun q' x29 h hin hex => ?_) hX _ _ eS30 _ _ _ (lv_sub hl [1, 0] rfl) hW
    obtain ⟨i27, S28⟩ := q'
    intro H locs ls hl hW
    unfold fMo_tick_L78 at h
    refine lv_iload_n hx hb dMo_tick_78 rfl (lv_at hl 1 rfl) ?_
    refine lv_iconst hx hb dMo_tick_79 (v := (2 : Int32)) rfl ?_
    refine lv_icmp_ge hx hb dMo_tick_80 (tgt := 126) rfl (fun hc49 => ?_) (fun hc49 => ?_)
    · replace h := if_t hc49 h
      exact hex _ (Option.some.inj h).symm _ _ _ (lv_sub hl [0] rfl) hW
    · replace h := if_f hc49 h
      refine lv_aload_n hx hb dMo_tick_83 rfl (lv_at hl 0 rfl) ?_
      replace h := ob h; obtain ⟨r31, er31, h⟩ := h
      refine hq_get hx hb hts hown hW (gR_V er31) (F_Mo_87 hts) dMo_tick_84 ?_
      refine lv_iload_n hx hb dMo_tick_87 rfl (lv_at hl 1 rfl) ?_
      replace h := ob h; obtain ⟨a32, hra32, h⟩ := h
      subst hra32
      replace h := ob h; obtain ⟨v33, ev33, h⟩ := h
      refine hq_iald hx hb hW ev33 rfl dMo_tick_88 ?_
      replace h := ob h; obtain ⟨q35, e97, h⟩ := h
      have hJ97 : ∀ q', q' = q35 → ∀ (H : Heap) (locs : List Loc) (ls : Array Slot), lv_has ls 3 [(0, .ref t0), (1, .int i27)] → Wd D vwCl (hTy tc) b q' s H locs → W p l e { frames := 9, cells := 0, slots := 0, locals := 360 } s m args below meth c H locs 0 0 (MQ below (va_Qi (fun x (_ : Unit) => x = rr) (fun _ => Wp D vwCl (hTy tc) b Sz) (fun q => b ≤ q)) args s 0 0 (fun q => b ≤ q)) (F0 m 97 ls []) := by
        intro S34 hq'; subst hq'
        intro H locs ls hl hW
        refine lv_aload_n hx hb dMo_tick_97 rfl (lv_at hl 0 rfl) ?_
        replace h := ob h; obtain ⟨r39, er39, h⟩ := h
        refine hq_get hx hb hts hown hW (gR_V er39) (F_Mo_87 hts) dMo_tick_98 ?_
        refine lv_iload_n hx hb dMo_tick_101 rfl (lv_at hl 1 rfl) ?_
        replace h := ob h; obtain ⟨a40, hra40, h⟩ := h
        subst hra40
        replace h := ob h; obtain ⟨v41, ev41, h⟩ := h
        refine hq_iald hx hb hW ev41 rfl dMo_tick_102 ?_
        refine lv_if_ge hx hb dMo_tick_103 (tgt := 120) rfl (fun hc48 => ?_) (fun hc48 => ?_)
        · replace h := if_t hc48 h
          refine lv_iinc (k := 1) (v := i27 + 1) (lv' := [(1, .int (i27 + 1)), (0, .ref t0)]) hx hb dMo_tick_120 hl rfl rfl (Nat.le_of_ble_eq_true rfl) (by first | rfl | (simp [List.filter, rf_cat] <;> rfl)) (fun ls hl => ?_)
          refine lv_goto hx hb dMo_tick_123 (tgt := 78) rfl ?_
          exact hin _ (Option.some.inj h).symm _ _ _ (lv_sub hl [1, 0] rfl) hW
        · replace h := if_f hc48 h
          refine lv_aload_n hx hb dMo_tick_106 rfl (lv_at hl 0 rfl) ?_
          replace h := ob h; obtain ⟨r42, er42, h⟩ := h
          refine hq_get hx hb hts hown hW (gR_V er42) (F_Mo_84 hts) dMo_tick_107 ?_
          refine lv_iload_n hx hb dMo_tick_110 rfl (lv_at hl 1 rfl) ?_
          replace h := ob h; obtain ⟨a43, hra43, h⟩ := h
          subst hra43
          replace h := ob h; obtain ⟨v44, ev44, h⟩ := h
          refine hq_iald hx hb hW ev44 rfl dMo_tick_111 ?_
          refine lv_if_le hx hb dMo_tick_112 (tgt := 120) rfl (fun hc47 => ?_) (fun hc47 => ?_)
          · replace h := if_t hc47 h
            refine lv_iinc (k := 1) (v := i27 + 1) (lv' := [(1, .int (i27 + 1)), (0, .ref t0)]) hx hb dMo_tick_120 hl rfl rfl (Nat.le_of_ble_eq_true rfl) (by first | rfl | (simp [List.filter, rf_cat] <;> rfl)) (fun ls hl => ?_)
            refine lv_goto hx hb dMo_tick_123 (tgt := 78) rfl ?_
            exact hin _ (Option.some.inj h).symm _ _ _ (lv_sub hl [1, 0] rfl) hW
          · replace h := if_f hc47 h
            refine lv_aload_n hx hb dMo_tick_115 rfl (lv_at hl 0 rfl) ?_
            refine lv_iload_n hx hb dMo_tick_116 rfl (lv_at hl 1 rfl) ?_
            replace h := ob h; obtain ⟨q46, eq46, h⟩ := h
            replace h := ob h; obtain ⟨S45, eS45, h⟩ := h
            refine hq_callv (ce := 0) (sl := 0) (va_runV (As := [.int i27]) (rest := []) ⟨hx, hb, hml, hown, hts⟩ (kMo_begins l D tc b t0 i27 S34 _ eS45) (cwV 1 hts GV_Mo_227_Mo rfl rfl rfl hd_Mo_begins_V ⟨Nat.le_of_ble_eq_true rfl, Nat.le_of_ble_eq_true rfl⟩) (hq_preV1 hW eq46 rfl rfl) rfl rfl hl.1 rfl (lv_room (by first | exact Nat.le_of_ble_eq_true rfl | (simp only [List.map, rf_cat]; exact Nat.le_of_ble_eq_true rfl))) dMo_tick_117 ⟨Nat.le_of_ble_eq_true rfl, Nat.le_of_ble_eq_true rfl⟩) hW rfl rfl (fun H locs hW => ?_)
            refine lv_iinc (k := 1) (v := i27 + 1) (lv' := [(1, .int (i27 + 1)), (0, .ref t0)]) hx hb dMo_tick_120 hl rfl rfl (Nat.le_of_ble_eq_true rfl) (by first | rfl | (simp [List.filter, rf_cat] <;> rfl)) (fun ls hl => ?_)
            refine lv_goto hx hb dMo_tick_123 (tgt := 78) rfl ?_
            exact hin _ (Option.some.inj h).symm _ _ _ (lv_sub hl [1, 0] rfl) hW
      clear h; have h := e97; clear e97
      refine lv_if_lt hx hb dMo_tick_89 (tgt := 97) rfl (fun hc38 => ?_) (fun hc38 => ?_)
      · replace h := if_t hc38 h
        exact hJ97 _ (Option.some.inj h) _ _ _ (lv_sub hl [0, 1] rfl) hW
      · replace h := if_f hc38 h
        refine lv_aload_n hx hb dMo_tick_92 rfl (lv_at hl 0 rfl) ?_
        refine lv_iload_n hx hb dMo_tick_93 rfl (lv_at hl 1 rfl) ?_
        replace h := ob h; obtain ⟨q37, eq37, h⟩ := h
        replace h := ob h; obtain ⟨S36, eS36, h⟩ := h
        refine hq_callv (ce := 0) (sl := 0) (va_runV (As := [.int i27]) (rest := []) ⟨hx, hb, hml, hown, hts⟩ (kMo_goOn l D tc b t0 i27 S28 _ eS36) (cwV 1 hts GV_Mo_224_Mo rfl rfl rfl hd_Mo_goOn_V ⟨Nat.le_of_ble_eq_true rfl, Nat.le_of_ble_eq_true rfl⟩) (hq_preV1 hW eq37 rfl rfl) rfl rfl hl.1 rfl (lv_room (by first | exact Nat.le_of_ble_eq_true rfl | (simp only [List.map, rf_cat]; exact Nat.le_of_ble_eq_true rfl))) dMo_tick_94 ⟨Nat.le_of_ble_eq_true rfl, Nat.le_of_ble_eq_true rfl⟩) hW rfl rfl (fun H locs hW => ?_)
        exact hJ97 _ (Option.some.inj h) _ _ _ (lv_sub hl [0, 1] rfl) hW
  refine lp_ind (P := fun q' => ∀ (H : Heap) (locs : List Loc) (ls : Array Slot), lv_has ls 3 [(0, .ref t0), (1, .int q'.1)] → Wd D vwCl (hTy tc) b q'.2 s H locs → W p l e { frames := 9, cells := 0, slots := 0, locals := 360 } s m args below meth c H locs 0 0 (MQ below (va_Qi (fun x (_ : Unit) => x = rr) (fun _ => Wp D vwCl (hTy tc) b Sz) (fun q => b ≤ q)) args s 0 0 (fun q => b ≤ q)) (F0 m 12 ls [])) (Q := fun q' => ∀ (H : Heap) (locs : List Loc) (ls : Array Slot), lv_has ls 3 [(0, .ref t0)] → Wd D vwCl (hTy tc) b q' s H locs → W p l e { frames := 9, cells := 0, slots := 0, locals := 360 } s m args below meth c H locs 0 0 (MQ below (va_Qi (fun x (_ : Unit) => x = rr) (fun _ => Wp D vwCl (hTy tc) b Sz) (fun q => b ≤ q)) args s 0 0 (fun q => b ≤ q)) (F0 m 76 ls [])) (fun q' x5 h hin hex => ?_) hX _ _ eS6 _ _ _ (lv_sub hl [1, 0] rfl) hW
  obtain ⟨i3, S4⟩ := q'
  intro H locs ls hl hW
  unfold fMo_tick_L12 at h
  refine lv_iload_n hx hb dMo_tick_12 rfl (lv_at hl 1 rfl) ?_
  refine lv_aload_n hx hb dMo_tick_13 rfl (lv_at hl 0 rfl) ?_
  replace h := ob h; obtain ⟨v7, ev7, h⟩ := h
  refine hq_get hx hb hts hown hW (gI_V ev7) (F_Mo_125 hts) dMo_tick_14 ?_
  refine lv_icmp_ge hx hb dMo_tick_17 (tgt := 76) rfl (fun hc26 => ?_) (fun hc26 => ?_)
  · replace h := if_t hc26 h
    exact hex _ (Option.some.inj h).symm _ _ _ (lv_sub hl [0] rfl) hW
  · replace h := if_f hc26 h
    refine lv_aload_n hx hb dMo_tick_20 rfl (lv_at hl 0 rfl) ?_
    replace h := ob h; obtain ⟨v8, ev8, h⟩ := h
    refine hq_get hx hb hts hown hW (gI_V ev8) (F_Mo_191 hts) dMo_tick_21 ?_
    refine lv_bipush hx hb dMo_tick_24 (v := (8 : Int32)) rfl ?_
    refine lv_irem hx hb dMo_tick_26 (by decide) ?_
    refine lv_if_ne hx hb dMo_tick_27 (tgt := 76) rfl (fun hc25 => ?_) (fun hc25 => ?_)
    · replace h := if_f hc25 h
      exact hex _ (Option.some.inj h).symm _ _ _ (lv_sub hl [0] rfl) hW
    · replace h := if_t hc25 h
      refine lv_aload_n hx hb dMo_tick_30 rfl (lv_at hl 0 rfl) ?_
      replace h := ob h; obtain ⟨r9, er9, h⟩ := h
      refine hq_get hx hb hts hown hW (gR_V er9) (F_Mo_13 hts) dMo_tick_31 ?_
      refine lv_aload_n hx hb dMo_tick_34 rfl (lv_at hl 0 rfl) ?_
      replace h := ob h; obtain ⟨r10, er10, h⟩ := h
      refine hq_get hx hb hts hown hW (gR_V er10) (F_Mo_63 hts) dMo_tick_35 ?_
      refine lv_iload_n hx hb dMo_tick_38 rfl (lv_at hl 1 rfl) ?_
      replace h := ob h; obtain ⟨a11, hra11, h⟩ := h
      subst hra11
      replace h := ob h; obtain ⟨v12, ev12, h⟩ := h
      refine hq_iald hx hb hW ev12 rfl dMo_tick_39 ?_
      replace h := ob h; obtain ⟨a13, hra13, h⟩ := h
      subst hra13
      replace h := ob h; obtain ⟨v14, ev14, h⟩ := h
      refine hq_iald hx hb hW ev14 rfl dMo_tick_40 ?_
      refine lv_istore_n (lv' := [(2, .int v14), (0, .ref t0), (1, .int i3)]) hx hb dMo_tick_41 rfl hl (Nat.le_of_ble_eq_true rfl) (by first | rfl | (simp [List.filter, rf_cat] <;> rfl)) (fun ls hl => ?_)
      refine lv_aload_n hx hb dMo_tick_42 rfl (lv_at hl 1 rfl) ?_
      refine lv_iload_n hx hb dMo_tick_43 rfl (lv_at hl 0 rfl) ?_
      refine lv_iload_n hx hb dMo_tick_44 rfl (lv_at hl 2 rfl) ?_
      replace h := ob h; obtain ⟨q17, eq17, h⟩ := h
      replace h := ob h; obtain ⟨⟨v16, S15⟩, eS15, h⟩ := h
      refine hq_calli (ce := 0) (sl := 0) (va_runV (As := [.int v14, .int i3]) (rest := []) ⟨hx, hb, hml, hown, hts⟩ (kMo_polls l D tc b t0 v14 i3 S4 _ _ eS15) (cwV 2 hts GV_Mo_220_Mo rfl rfl rfl hd_Mo_polls_V ⟨Nat.le_of_ble_eq_true rfl, Nat.le_of_ble_eq_true rfl⟩) (hq_preV1 hW eq17 rfl rfl) rfl rfl hl.1 rfl (lv_room (by first | exact Nat.le_of_ble_eq_true rfl | (simp only [List.map, rf_cat]; exact Nat.le_of_ble_eq_true rfl))) dMo_tick_45 ⟨Nat.le_of_ble_eq_true rfl, Nat.le_of_ble_eq_true rfl⟩) hW rfl rfl (fun H locs hW => ?_)
      refine lv_if_ne hx hb dMo_tick_48 (tgt := 70) rfl (fun hc24 => ?_) (fun hc24 => ?_)
      · replace h := if_f hc24 h
        refine lv_iinc (k := 2) (v := i3 + 1) (lv' := [(1, .int (i3 + 1)), (2, .int v14), (0, .ref t0)]) hx hb dMo_tick_70 hl rfl rfl (Nat.le_of_ble_eq_true rfl) (by first | rfl | (simp [List.filter, rf_cat] <;> rfl)) (fun ls hl => ?_)
        refine lv_goto hx hb dMo_tick_73 (tgt := 12) rfl ?_
        exact hin _ (Option.some.inj h).symm _ _ _ (lv_sub hl [2, 0] rfl) hW
      · replace h := if_t hc24 h
        refine lv_aload_n hx hb dMo_tick_51 rfl (lv_at hl 1 rfl) ?_
        replace h := ob h; obtain ⟨r18, er18, h⟩ := h
        refine hq_get hx hb hts hown hW (gR_V er18) (F_Mo_84 hts) dMo_tick_52 ?_
        refine lv_iload_n hx hb dMo_tick_55 rfl (lv_at hl 0 rfl) ?_
        replace h := ob h; obtain ⟨a19, hra19, h⟩ := h
        subst hra19
        replace h := ob h; obtain ⟨v20, ev20, h⟩ := h
        refine hq_iald hx hb hW ev20 rfl dMo_tick_56 ?_
        refine lv_iconst hx hb dMo_tick_57 (v := (4 : Int32)) rfl ?_
        refine lv_icmp_ge hx hb dMo_tick_58 (tgt := 70) rfl (fun hc23 => ?_) (fun hc23 => ?_)
        · replace h := if_t hc23 h
          refine lv_iinc (k := 2) (v := i3 + 1) (lv' := [(1, .int (i3 + 1)), (2, .int v14), (0, .ref t0)]) hx hb dMo_tick_70 hl rfl rfl (Nat.le_of_ble_eq_true rfl) (by first | rfl | (simp [List.filter, rf_cat] <;> rfl)) (fun ls hl => ?_)
          refine lv_goto hx hb dMo_tick_73 (tgt := 12) rfl ?_
          exact hin _ (Option.some.inj h).symm _ _ _ (lv_sub hl [2, 0] rfl) hW
        · replace h := if_f hc23 h
          refine lv_aload_n hx hb dMo_tick_61 rfl (lv_at hl 1 rfl) ?_
          refine lv_iload_n hx hb dMo_tick_62 rfl (lv_at hl 0 rfl) ?_
          refine lv_bipush hx hb dMo_tick_63 (v := (64 : Int32)) rfl ?_
          refine lv_iload_n hx hb dMo_tick_65 rfl (lv_at hl 2 rfl) ?_
          refine lv_iadd hx hb dMo_tick_66 ?_
          replace h := ob h; obtain ⟨q22, eq22, h⟩ := h
          replace h := ob h; obtain ⟨S21, eS21, h⟩ := h
          refine hq_callv (ce := 0) (sl := 0) (va_runV (As := [.int v14, .int ((64 : Int32) + i3)]) (rest := []) ⟨hx, hb, hml, hown, hts⟩ (kMo_put l D tc b t0 v14 ((64 : Int32) + i3) S15 _ eS21) (cwV 2 hts GV_Mo_132_Mo rfl rfl rfl hd_Mo_put_V ⟨Nat.le_of_ble_eq_true rfl, Nat.le_of_ble_eq_true rfl⟩) (hq_preV1 hW eq22 rfl rfl) rfl rfl hl.1 rfl (lv_room (by first | exact Nat.le_of_ble_eq_true rfl | (simp only [List.map, rf_cat]; exact Nat.le_of_ble_eq_true rfl))) dMo_tick_67 ⟨Nat.le_of_ble_eq_true rfl, Nat.le_of_ble_eq_true rfl⟩) hW rfl rfl (fun H locs hW => ?_)
          refine lv_iinc (k := 2) (v := i3 + 1) (lv' := [(1, .int (i3 + 1)), (2, .int v14), (0, .ref t0)]) hx hb dMo_tick_70 hl rfl rfl (Nat.le_of_ble_eq_true rfl) (by first | rfl | (simp [List.filter, rf_cat] <;> rfl)) (fun ls hl => ?_)
          refine lv_goto hx hb dMo_tick_73 (tgt := 12) rfl ?_
          exact hin _ (Option.some.inj h).symm _ _ _ (lv_sub hl [2, 0] rfl) hW
def fMo_reply (t0 : Nat) (t1 : Int32) (t2 : Int32) (S : Ws) : Option (Int64 × Ws) :=
  (gI S t0 [8] 10).bind fun v1 => (fMo_within t1 (0 : Int32) (v1 - (1 : Int32)) S).bind fun (v3, S2) => if v3 = 0 then some ((-1 : Int64), S2) else (fMo_within t2 (0 : Int32) (2 : Int32) S2).bind fun (v5, S4) => if v5 = 0 then some ((-1 : Int64), S4) else if t2 = 0 then (gR S4 t0 [8] 16).bind fun r13 => (r13).bind fun a14 => (aI S4 a14 0 t1).bind fun v15 => some (v15.toInt64, S4) else if t2 = (1 : Int32) then (gR S4 t0 [8] 17).bind fun r9 => (r9).bind fun a10 => (aI S4 a10 0 t1).bind fun v11 => some (v11.toInt64, S4) else (gR S4 t0 [8] 18).bind fun r6 => (r6).bind fun a7 => (aL S4 a7 2 t1).bind fun u8 => some (u8, S4)
set_option maxRecDepth 100000 in
set_option maxHeartbeats 4000000 in
theorem kMo_reply (l : Launch) (D : va_G) (tc : Nat → ClassId) (b : Nat) (t0 : Nat) (t1 : Int32) (t2 : Int32) (S Sz : Ws) (rr : Int64) (h : fMo_reply t0 t1 t2 S = some (rr, Sz)) : Met l yMo_reply wsMo_reply { frames := 2, cells := 0, slots := 0, locals := 80 } (va_Pc [.ref t0, .int t1, .int t2] (Wp D vwCl (hTy tc) b S)) (va_Ql (fun x (_ : Unit) => x = rr) (fun _ => Wp D vwCl (hTy tc) b Sz) (fun q => b ≤ q)) 0 0 (fun q => b ≤ q) := by
  refine hq_ofW (cc := cMo_reply) (maxL := 3) (ret := (some .long)) (by decide) rfl (Nat.le_of_ble_eq_true rfl) fun p e s m args below meth c hx hb hr hts hown hlocks hnm hml H locs ls hl hW => ?_
  have hts : ∀ w ∈ lwG, w.before args s = true := fun w h => hts w (List.mem_cons_of_mem _ h)
  have hown : s.vm.findClass "SerialPlantModel" = some m.cls := hown
  have hl : lv_has ls 3 [(0, .ref t0), (1, .int t1), (2, .int t2)] := hl
  unfold fMo_reply at h
  refine lv_iload_n hx hb dMo_reply_0 rfl (lv_at hl 1 rfl) ?_
  refine lv_iconst hx hb dMo_reply_1 (v := (0 : Int32)) rfl ?_
  refine lv_aload_n hx hb dMo_reply_2 rfl (lv_at hl 0 rfl) ?_
  replace h := ob h; obtain ⟨v1, ev1, h⟩ := h
  refine hq_get hx hb hts hown hW (gI_V ev1) (F_Mo_129 hts) dMo_reply_3 ?_
  refine lv_iconst hx hb dMo_reply_6 (v := (1 : Int32)) rfl ?_
  refine lv_isub hx hb dMo_reply_7 ?_
  replace h := ob h; obtain ⟨⟨v3, S2⟩, eS2, h⟩ := h
  refine hq_calli (ce := 0) (sl := 0) (va_runS (As := [.int t1, .int (0 : Int32), .int (v1 - (1 : Int32))]) (rest := []) ⟨hx, hb, hml, hown, hts⟩ (kMo_within l D tc b t1 (0 : Int32) (v1 - (1 : Int32)) S _ _ eS2) (cwS 3 hts GS_Mo_117 rfl rfl rfl hd_Mo_within_S_Mo ⟨Nat.le_of_ble_eq_true rfl, Nat.le_of_ble_eq_true rfl⟩) (hq_preS hW) rfl rfl hl.1 rfl (lv_room (by first | exact Nat.le_of_ble_eq_true rfl | (simp only [List.map, rf_cat]; exact Nat.le_of_ble_eq_true rfl))) dMo_reply_8 ⟨Nat.le_of_ble_eq_true rfl, Nat.le_of_ble_eq_true rfl⟩) hW rfl rfl (fun H locs hW => ?_)
  refine lv_if_eq hx hb dMo_reply_11 (tgt := 23) rfl (fun hc18 => ?_) (fun hc18 => ?_)
  · replace h := if_t hc18 h
    refine lv_ldc2 hx hb (v := (-1 : Int64)) hown (hts _ w_864) dMo_reply_23 ?_
    exact hq_lret hx hb hr hlocks h (Nat.le_of_ble_eq_true rfl) (Nat.le_of_ble_eq_true rfl) hW dMo_reply_26
  · replace h := if_f hc18 h
    refine lv_iload_n hx hb dMo_reply_14 rfl (lv_at hl 2 rfl) ?_
    refine lv_iconst hx hb dMo_reply_15 (v := (0 : Int32)) rfl ?_
    refine lv_iconst hx hb dMo_reply_16 (v := (2 : Int32)) rfl ?_
    replace h := ob h; obtain ⟨⟨v5, S4⟩, eS4, h⟩ := h
    refine hq_calli (ce := 0) (sl := 0) (va_runS (As := [.int t2, .int (0 : Int32), .int (2 : Int32)]) (rest := []) ⟨hx, hb, hml, hown, hts⟩ (kMo_within l D tc b t2 (0 : Int32) (2 : Int32) S2 _ _ eS4) (cwS 3 hts GS_Mo_117 rfl rfl rfl hd_Mo_within_S_Mo ⟨Nat.le_of_ble_eq_true rfl, Nat.le_of_ble_eq_true rfl⟩) (hq_preS hW) rfl rfl hl.1 rfl (lv_room (by first | exact Nat.le_of_ble_eq_true rfl | (simp only [List.map, rf_cat]; exact Nat.le_of_ble_eq_true rfl))) dMo_reply_17 ⟨Nat.le_of_ble_eq_true rfl, Nat.le_of_ble_eq_true rfl⟩) hW rfl rfl (fun H locs hW => ?_)
    refine lv_if_ne hx hb dMo_reply_20 (tgt := 27) rfl (fun hc17 => ?_) (fun hc17 => ?_)
    · replace h := if_f hc17 h
      refine lv_iload_n hx hb dMo_reply_27 rfl (lv_at hl 2 rfl) ?_
      refine lv_if_ne hx hb dMo_reply_28 (tgt := 41) rfl (fun hc16 => ?_) (fun hc16 => ?_)
      · replace h := if_f hc16 h
        refine lv_iload_n hx hb dMo_reply_41 rfl (lv_at hl 2 rfl) ?_
        refine lv_iconst hx hb dMo_reply_42 (v := (1 : Int32)) rfl ?_
        refine lv_icmp_ne hx hb dMo_reply_43 (tgt := 56) rfl (fun hc12 => ?_) (fun hc12 => ?_)
        · replace h := if_f hc12 h
          refine lv_aload_n hx hb dMo_reply_56 rfl (lv_at hl 0 rfl) ?_
          replace h := ob h; obtain ⟨r6, er6, h⟩ := h
          refine hq_get hx hb hts hown hW (gR_V er6) (F_Mo_60 hts) dMo_reply_57 ?_
          refine lv_iload_n hx hb dMo_reply_60 rfl (lv_at hl 1 rfl) ?_
          replace h := ob h; obtain ⟨a7, hra7, h⟩ := h
          subst hra7
          replace h := ob h; obtain ⟨u8, eu8, h⟩ := h
          refine hq_lald hx hb hW eu8 rfl dMo_reply_61 ?_
          exact hq_lret hx hb hr hlocks h (Nat.le_of_ble_eq_true rfl) (Nat.le_of_ble_eq_true rfl) hW dMo_reply_62
        · replace h := if_t hc12 h
          refine lv_aload_n hx hb dMo_reply_46 rfl (lv_at hl 0 rfl) ?_
          replace h := ob h; obtain ⟨r9, er9, h⟩ := h
          refine hq_get hx hb hts hown hW (gR_V er9) (F_Mo_57 hts) dMo_reply_47 ?_
          refine lv_iload_n hx hb dMo_reply_50 rfl (lv_at hl 1 rfl) ?_
          replace h := ob h; obtain ⟨a10, hra10, h⟩ := h
          subst hra10
          replace h := ob h; obtain ⟨v11, ev11, h⟩ := h
          refine hq_iald hx hb hW ev11 rfl dMo_reply_51 ?_
          refine lv_i2l hx hb dMo_reply_52 (v := v11.toInt64) rfl ?_
          refine lv_goto hx hb dMo_reply_53 (tgt := 62) rfl ?_
          exact hq_lret hx hb hr hlocks h (Nat.le_of_ble_eq_true rfl) (Nat.le_of_ble_eq_true rfl) hW dMo_reply_62
      · replace h := if_t hc16 h
        refine lv_aload_n hx hb dMo_reply_31 rfl (lv_at hl 0 rfl) ?_
        replace h := ob h; obtain ⟨r13, er13, h⟩ := h
        refine hq_get hx hb hts hown hW (gR_V er13) (F_Mo_54 hts) dMo_reply_32 ?_
        refine lv_iload_n hx hb dMo_reply_35 rfl (lv_at hl 1 rfl) ?_
        replace h := ob h; obtain ⟨a14, hra14, h⟩ := h
        subst hra14
        replace h := ob h; obtain ⟨v15, ev15, h⟩ := h
        refine hq_iald hx hb hW ev15 rfl dMo_reply_36 ?_
        refine lv_i2l hx hb dMo_reply_37 (v := v15.toInt64) rfl ?_
        refine lv_goto hx hb dMo_reply_38 (tgt := 62) rfl ?_
        exact hq_lret hx hb hr hlocks h (Nat.le_of_ble_eq_true rfl) (Nat.le_of_ble_eq_true rfl) hW dMo_reply_62
    · replace h := if_t hc17 h
      refine lv_ldc2 hx hb (v := (-1 : Int64)) hown (hts _ w_864) dMo_reply_23 ?_
      exact hq_lret hx hb hr hlocks h (Nat.le_of_ble_eq_true rfl) (Nat.le_of_ble_eq_true rfl) hW dMo_reply_26
def fMo_line (t0 : Nat) (t1 : Int32) (t2 : Int32) (S : Ws) : Option (Int32 × Ws) :=
  (fMo_within t1 (0 : Int32) (1 : Int32) S).bind fun (v2, S1) => if v2 = 0 then some ((-1 : Int32), S1) else (fMo_within t2 (0 : Int32) (2 : Int32) S1).bind fun (v4, S3) => if v4 = 0 then some ((-1 : Int32), S3) else if t2 = 0 then (gR S3 t0 [8] 28).bind fun r16 => (r16).bind fun a17 => (aI S3 a17 0 t1).bind fun v18 => some (v18, S3) else if t2 = (2 : Int32) then (gR S3 t0 [8] 29).bind fun r12 => (r12).bind fun a13 => (aI S3 a13 0 t1).bind fun v14 => some (v14, S3) else (gR S3 t0 [8] 29).bind fun r5 => (r5).bind fun a6 => (aI S3 a6 0 t1).bind fun v7 => if 0 ≤ v7 then (gR S3 t0 [8] 30).bind fun r8 => (r8).bind fun a9 => (aI S3 a9 0 t1).bind fun v10 => some (v10, S3) else some ((0 : Int32), S3)
set_option maxRecDepth 100000 in
set_option maxHeartbeats 4000000 in
theorem kMo_line (l : Launch) (D : va_G) (tc : Nat → ClassId) (b : Nat) (t0 : Nat) (t1 : Int32) (t2 : Int32) (S Sz : Ws) (rr : Int32) (h : fMo_line t0 t1 t2 S = some (rr, Sz)) : Met l yMo_line wsMo_line { frames := 2, cells := 0, slots := 0, locals := 80 } (va_Pc [.ref t0, .int t1, .int t2] (Wp D vwCl (hTy tc) b S)) (va_Qi (fun x (_ : Unit) => x = rr) (fun _ => Wp D vwCl (hTy tc) b Sz) (fun q => b ≤ q)) 0 0 (fun q => b ≤ q) := by
  refine hq_ofW (cc := cMo_line) (maxL := 3) (ret := (some .int)) (by decide) rfl (Nat.le_of_ble_eq_true rfl) fun p e s m args below meth c hx hb hr hts hown hlocks hnm hml H locs ls hl hW => ?_
  have hts : ∀ w ∈ lwG, w.before args s = true := fun w h => hts w (List.mem_cons_of_mem _ h)
  have hown : s.vm.findClass "SerialPlantModel" = some m.cls := hown
  have hl : lv_has ls 3 [(0, .ref t0), (1, .int t1), (2, .int t2)] := hl
  unfold fMo_line at h
  refine lv_iload_n hx hb dMo_line_0 rfl (lv_at hl 1 rfl) ?_
  refine lv_iconst hx hb dMo_line_1 (v := (0 : Int32)) rfl ?_
  refine lv_iconst hx hb dMo_line_2 (v := (1 : Int32)) rfl ?_
  replace h := ob h; obtain ⟨⟨v2, S1⟩, eS1, h⟩ := h
  refine hq_calli (ce := 0) (sl := 0) (va_runS (As := [.int t1, .int (0 : Int32), .int (1 : Int32)]) (rest := []) ⟨hx, hb, hml, hown, hts⟩ (kMo_within l D tc b t1 (0 : Int32) (1 : Int32) S _ _ eS1) (cwS 3 hts GS_Mo_117 rfl rfl rfl hd_Mo_within_S_Mo ⟨Nat.le_of_ble_eq_true rfl, Nat.le_of_ble_eq_true rfl⟩) (hq_preS hW) rfl rfl hl.1 rfl (lv_room (by first | exact Nat.le_of_ble_eq_true rfl | (simp only [List.map, rf_cat]; exact Nat.le_of_ble_eq_true rfl))) dMo_line_3 ⟨Nat.le_of_ble_eq_true rfl, Nat.le_of_ble_eq_true rfl⟩) hW rfl rfl (fun H locs hW => ?_)
  refine lv_if_eq hx hb dMo_line_6 (tgt := 18) rfl (fun hc21 => ?_) (fun hc21 => ?_)
  · replace h := if_t hc21 h
    refine lv_iconst hx hb dMo_line_18 (v := (-1 : Int32)) rfl ?_
    exact hq_iret hx hb hr hlocks h (Nat.le_of_ble_eq_true rfl) (Nat.le_of_ble_eq_true rfl) hW dMo_line_19
  · replace h := if_f hc21 h
    refine lv_iload_n hx hb dMo_line_9 rfl (lv_at hl 2 rfl) ?_
    refine lv_iconst hx hb dMo_line_10 (v := (0 : Int32)) rfl ?_
    refine lv_iconst hx hb dMo_line_11 (v := (2 : Int32)) rfl ?_
    replace h := ob h; obtain ⟨⟨v4, S3⟩, eS3, h⟩ := h
    refine hq_calli (ce := 0) (sl := 0) (va_runS (As := [.int t2, .int (0 : Int32), .int (2 : Int32)]) (rest := []) ⟨hx, hb, hml, hown, hts⟩ (kMo_within l D tc b t2 (0 : Int32) (2 : Int32) S1 _ _ eS3) (cwS 3 hts GS_Mo_117 rfl rfl rfl hd_Mo_within_S_Mo ⟨Nat.le_of_ble_eq_true rfl, Nat.le_of_ble_eq_true rfl⟩) (hq_preS hW) rfl rfl hl.1 rfl (lv_room (by first | exact Nat.le_of_ble_eq_true rfl | (simp only [List.map, rf_cat]; exact Nat.le_of_ble_eq_true rfl))) dMo_line_12 ⟨Nat.le_of_ble_eq_true rfl, Nat.le_of_ble_eq_true rfl⟩) hW rfl rfl (fun H locs hW => ?_)
    refine lv_if_ne hx hb dMo_line_15 (tgt := 20) rfl (fun hc20 => ?_) (fun hc20 => ?_)
    · replace h := if_f hc20 h
      refine lv_iload_n hx hb dMo_line_20 rfl (lv_at hl 2 rfl) ?_
      refine lv_if_ne hx hb dMo_line_21 (tgt := 31) rfl (fun hc19 => ?_) (fun hc19 => ?_)
      · replace h := if_f hc19 h
        refine lv_iload_n hx hb dMo_line_31 rfl (lv_at hl 2 rfl) ?_
        refine lv_iconst hx hb dMo_line_32 (v := (2 : Int32)) rfl ?_
        refine lv_icmp_ne hx hb dMo_line_33 (tgt := 45) rfl (fun hc15 => ?_) (fun hc15 => ?_)
        · replace h := if_f hc15 h
          refine lv_aload_n hx hb dMo_line_45 rfl (lv_at hl 0 rfl) ?_
          replace h := ob h; obtain ⟨r5, er5, h⟩ := h
          refine hq_get hx hb hts hown hW (gR_V er5) (F_Mo_87 hts) dMo_line_46 ?_
          refine lv_iload_n hx hb dMo_line_49 rfl (lv_at hl 1 rfl) ?_
          replace h := ob h; obtain ⟨a6, hra6, h⟩ := h
          subst hra6
          replace h := ob h; obtain ⟨v7, ev7, h⟩ := h
          refine hq_iald hx hb hW ev7 rfl dMo_line_50 ?_
          refine lv_if_ge hx hb dMo_line_51 (tgt := 58) rfl (fun hc11 => ?_) (fun hc11 => ?_)
          · replace h := if_t hc11 h
            refine lv_aload_n hx hb dMo_line_58 rfl (lv_at hl 0 rfl) ?_
            replace h := ob h; obtain ⟨r8, er8, h⟩ := h
            refine hq_get hx hb hts hown hW (gR_V er8) (F_Mo_90 hts) dMo_line_59 ?_
            refine lv_iload_n hx hb dMo_line_62 rfl (lv_at hl 1 rfl) ?_
            replace h := ob h; obtain ⟨a9, hra9, h⟩ := h
            subst hra9
            replace h := ob h; obtain ⟨v10, ev10, h⟩ := h
            refine hq_iald hx hb hW ev10 rfl dMo_line_63 ?_
            exact hq_iret hx hb hr hlocks h (Nat.le_of_ble_eq_true rfl) (Nat.le_of_ble_eq_true rfl) hW dMo_line_64
          · replace h := if_f hc11 h
            refine lv_iconst hx hb dMo_line_54 (v := (0 : Int32)) rfl ?_
            refine lv_goto hx hb dMo_line_55 (tgt := 64) rfl ?_
            exact hq_iret hx hb hr hlocks h (Nat.le_of_ble_eq_true rfl) (Nat.le_of_ble_eq_true rfl) hW dMo_line_64
        · replace h := if_t hc15 h
          refine lv_aload_n hx hb dMo_line_36 rfl (lv_at hl 0 rfl) ?_
          replace h := ob h; obtain ⟨r12, er12, h⟩ := h
          refine hq_get hx hb hts hown hW (gR_V er12) (F_Mo_87 hts) dMo_line_37 ?_
          refine lv_iload_n hx hb dMo_line_40 rfl (lv_at hl 1 rfl) ?_
          replace h := ob h; obtain ⟨a13, hra13, h⟩ := h
          subst hra13
          replace h := ob h; obtain ⟨v14, ev14, h⟩ := h
          refine hq_iald hx hb hW ev14 rfl dMo_line_41 ?_
          refine lv_goto hx hb dMo_line_42 (tgt := 64) rfl ?_
          exact hq_iret hx hb hr hlocks h (Nat.le_of_ble_eq_true rfl) (Nat.le_of_ble_eq_true rfl) hW dMo_line_64
      · replace h := if_t hc19 h
        refine lv_aload_n hx hb dMo_line_24 rfl (lv_at hl 0 rfl) ?_
        replace h := ob h; obtain ⟨r16, er16, h⟩ := h
        refine hq_get hx hb hts hown hW (gR_V er16) (F_Mo_84 hts) dMo_line_25 ?_
        refine lv_iload_n hx hb dMo_line_28 rfl (lv_at hl 1 rfl) ?_
        replace h := ob h; obtain ⟨a17, hra17, h⟩ := h
        subst hra17
        replace h := ob h; obtain ⟨v18, ev18, h⟩ := h
        refine hq_iald hx hb hW ev18 rfl dMo_line_29 ?_
        exact hq_iret hx hb hr hlocks h (Nat.le_of_ble_eq_true rfl) (Nat.le_of_ble_eq_true rfl) hW dMo_line_30
    · replace h := if_t hc20 h
      refine lv_iconst hx hb dMo_line_18 (v := (-1 : Int32)) rfl ?_
      exact hq_iret hx hb hr hlocks h (Nat.le_of_ble_eq_true rfl) (Nat.le_of_ble_eq_true rfl) hW dMo_line_19
def fMo_wire (t0 : Nat) (t1 : Int32) (t2 : Int32) (t3 : Int32) (S : Ws) : Option (Int32 × Ws) :=
  (fMo_within t1 (0 : Int32) (1 : Int32) S).bind fun (v2, S1) => if v2 = 0 then some ((-1 : Int32), S1) else (if t2 = 0 then some t1 else some (t1 + (2 : Int32))).bind fun i3 => if t3 = (-1 : Int32) then (gR S1 t0 [8] 38).bind fun r15 => (r15).bind fun a16 => (aI S1 a16 0 i3).bind fun v17 => some (v17, S1) else (gR S1 t0 [8] 38).bind fun r6 => (r6).bind fun a7 => (aI S1 a7 0 i3).bind fun v8 => (fMo_within t3 (0 : Int32) (v8 - (1 : Int32)) S1).bind fun (v10, S9) => if v10 = 0 then some ((-1 : Int32), S9) else (gR S9 t0 [8] 37).bind fun r11 => (r11).bind fun a12 => (aI S9 a12 0 (((48 : Int32) * i3) + t3)).bind fun v13 => some (v13, S9)
set_option maxRecDepth 100000 in
set_option maxHeartbeats 4000000 in
theorem kMo_wire (l : Launch) (D : va_G) (tc : Nat → ClassId) (b : Nat) (t0 : Nat) (t1 : Int32) (t2 : Int32) (t3 : Int32) (S Sz : Ws) (rr : Int32) (h : fMo_wire t0 t1 t2 t3 S = some (rr, Sz)) : Met l yMo_wire wsMo_wire { frames := 2, cells := 0, slots := 0, locals := 80 } (va_Pc [.ref t0, .int t1, .int t2, .int t3] (Wp D vwCl (hTy tc) b S)) (va_Qi (fun x (_ : Unit) => x = rr) (fun _ => Wp D vwCl (hTy tc) b Sz) (fun q => b ≤ q)) 0 0 (fun q => b ≤ q) := by
  refine hq_ofW (cc := cMo_wire) (maxL := 5) (ret := (some .int)) (by decide) rfl (Nat.le_of_ble_eq_true rfl) fun p e s m args below meth c hx hb hr hts hown hlocks hnm hml H locs ls hl hW => ?_
  have hts : ∀ w ∈ lwG, w.before args s = true := fun w h => hts w (List.mem_cons_of_mem _ h)
  have hown : s.vm.findClass "SerialPlantModel" = some m.cls := hown
  have hl : lv_has ls 5 [(0, .ref t0), (1, .int t1), (2, .int t2), (3, .int t3)] := hl
  unfold fMo_wire at h
  refine lv_iload_n hx hb dMo_wire_0 rfl (lv_at hl 1 rfl) ?_
  refine lv_iconst hx hb dMo_wire_1 (v := (0 : Int32)) rfl ?_
  refine lv_iconst hx hb dMo_wire_2 (v := (1 : Int32)) rfl ?_
  replace h := ob h; obtain ⟨⟨v2, S1⟩, eS1, h⟩ := h
  refine hq_calli (ce := 0) (sl := 0) (va_runS (As := [.int t1, .int (0 : Int32), .int (1 : Int32)]) (rest := []) ⟨hx, hb, hml, hown, hts⟩ (kMo_within l D tc b t1 (0 : Int32) (1 : Int32) S _ _ eS1) (cwS 3 hts GS_Mo_117 rfl rfl rfl hd_Mo_within_S_Mo ⟨Nat.le_of_ble_eq_true rfl, Nat.le_of_ble_eq_true rfl⟩) (hq_preS hW) rfl rfl hl.1 rfl (lv_room (by first | exact Nat.le_of_ble_eq_true rfl | (simp only [List.map, rf_cat]; exact Nat.le_of_ble_eq_true rfl))) dMo_wire_3 ⟨Nat.le_of_ble_eq_true rfl, Nat.le_of_ble_eq_true rfl⟩) hW rfl rfl (fun H locs hW => ?_)
  refine lv_if_ne hx hb dMo_wire_6 (tgt := 11) rfl (fun hc19 => ?_) (fun hc19 => ?_)
  · replace h := if_f hc19 h
    refine lv_iload_n hx hb dMo_wire_11 rfl (lv_at hl 2 rfl) ?_
    replace h := ob h; obtain ⟨q4, e22, h⟩ := h
    have hJ22 : ∀ q', q' = q4 → ∀ (H : Heap) (locs : List Loc) (ls : Array Slot), lv_has ls 5 [(0, .ref t0), (3, .int t3)] → Wd D vwCl (hTy tc) b S1 s H locs → W p l e { frames := 2, cells := 0, slots := 0, locals := 80 } s m args below meth c H locs 0 0 (MQ below (va_Qi (fun x (_ : Unit) => x = rr) (fun _ => Wp D vwCl (hTy tc) b Sz) (fun q => b ≤ q)) args s 0 0 (fun q => b ≤ q)) (F0 m 22 ls [.int q']) := by
      intro i3 hq'; subst hq'
      intro H locs ls hl hW
      refine lv_istore (lv' := [(4, .int i3), (0, .ref t0), (3, .int t3)]) hx hb dMo_wire_22 hl (Nat.le_of_ble_eq_true rfl) (by first | rfl | (simp [List.filter, rf_cat] <;> rfl)) (fun ls hl => ?_)
      refine lv_iload_n hx hb dMo_wire_24 rfl (lv_at hl 2 rfl) ?_
      refine lv_iconst hx hb dMo_wire_25 (v := (-1 : Int32)) rfl ?_
      refine lv_icmp_ne hx hb dMo_wire_26 (tgt := 37) rfl (fun hc18 => ?_) (fun hc18 => ?_)
      · replace h := if_f hc18 h
        refine lv_iload_n hx hb dMo_wire_37 rfl (lv_at hl 2 rfl) ?_
        refine lv_iconst hx hb dMo_wire_38 (v := (0 : Int32)) rfl ?_
        refine lv_aload_n hx hb dMo_wire_39 rfl (lv_at hl 1 rfl) ?_
        replace h := ob h; obtain ⟨r6, er6, h⟩ := h
        refine hq_get hx hb hts hown hW (gR_V er6) (F_Mo_114 hts) dMo_wire_40 ?_
        refine lv_iload hx hb dMo_wire_43 (lv_at hl 0 rfl) ?_
        replace h := ob h; obtain ⟨a7, hra7, h⟩ := h
        subst hra7
        replace h := ob h; obtain ⟨v8, ev8, h⟩ := h
        refine hq_iald hx hb hW ev8 rfl dMo_wire_45 ?_
        refine lv_iconst hx hb dMo_wire_46 (v := (1 : Int32)) rfl ?_
        refine lv_isub hx hb dMo_wire_47 ?_
        replace h := ob h; obtain ⟨⟨v10, S9⟩, eS9, h⟩ := h
        refine hq_calli (ce := 0) (sl := 0) (va_runS (As := [.int t3, .int (0 : Int32), .int (v8 - (1 : Int32))]) (rest := []) ⟨hx, hb, hml, hown, hts⟩ (kMo_within l D tc b t3 (0 : Int32) (v8 - (1 : Int32)) S1 _ _ eS9) (cwS 3 hts GS_Mo_117 rfl rfl rfl hd_Mo_within_S_Mo ⟨Nat.le_of_ble_eq_true rfl, Nat.le_of_ble_eq_true rfl⟩) (hq_preS hW) rfl rfl hl.1 rfl (lv_room (by first | exact Nat.le_of_ble_eq_true rfl | (simp only [List.map, rf_cat]; exact Nat.le_of_ble_eq_true rfl))) dMo_wire_48 ⟨Nat.le_of_ble_eq_true rfl, Nat.le_of_ble_eq_true rfl⟩) hW rfl rfl (fun H locs hW => ?_)
        refine lv_if_eq hx hb dMo_wire_51 (tgt := 69) rfl (fun hc14 => ?_) (fun hc14 => ?_)
        · replace h := if_t hc14 h
          refine lv_iconst hx hb dMo_wire_69 (v := (-1 : Int32)) rfl ?_
          exact hq_iret hx hb hr hlocks h (Nat.le_of_ble_eq_true rfl) (Nat.le_of_ble_eq_true rfl) hW dMo_wire_70
        · replace h := if_f hc14 h
          refine lv_aload_n hx hb dMo_wire_54 rfl (lv_at hl 1 rfl) ?_
          replace h := ob h; obtain ⟨r11, er11, h⟩ := h
          refine hq_get hx hb hts hown hW (gR_V er11) (F_Mo_111 hts) dMo_wire_55 ?_
          refine lv_bipush hx hb dMo_wire_58 (v := (48 : Int32)) rfl ?_
          refine lv_iload hx hb dMo_wire_60 (lv_at hl 0 rfl) ?_
          refine lv_imul hx hb dMo_wire_62 ?_
          refine lv_iload_n hx hb dMo_wire_63 rfl (lv_at hl 2 rfl) ?_
          refine lv_iadd hx hb dMo_wire_64 ?_
          replace h := ob h; obtain ⟨a12, hra12, h⟩ := h
          subst hra12
          replace h := ob h; obtain ⟨v13, ev13, h⟩ := h
          refine hq_iald hx hb hW ev13 rfl dMo_wire_65 ?_
          refine lv_goto hx hb dMo_wire_66 (tgt := 70) rfl ?_
          exact hq_iret hx hb hr hlocks h (Nat.le_of_ble_eq_true rfl) (Nat.le_of_ble_eq_true rfl) hW dMo_wire_70
      · replace h := if_t hc18 h
        refine lv_aload_n hx hb dMo_wire_29 rfl (lv_at hl 1 rfl) ?_
        replace h := ob h; obtain ⟨r15, er15, h⟩ := h
        refine hq_get hx hb hts hown hW (gR_V er15) (F_Mo_114 hts) dMo_wire_30 ?_
        refine lv_iload hx hb dMo_wire_33 (lv_at hl 0 rfl) ?_
        replace h := ob h; obtain ⟨a16, hra16, h⟩ := h
        subst hra16
        replace h := ob h; obtain ⟨v17, ev17, h⟩ := h
        refine hq_iald hx hb hW ev17 rfl dMo_wire_35 ?_
        exact hq_iret hx hb hr hlocks h (Nat.le_of_ble_eq_true rfl) (Nat.le_of_ble_eq_true rfl) hW dMo_wire_36
    clear h; have h := e22; clear e22
    refine lv_if_eq hx hb dMo_wire_12 (tgt := 21) rfl (fun hc5 => ?_) (fun hc5 => ?_)
    · replace h := if_t hc5 h
      refine lv_iload_n hx hb dMo_wire_21 rfl (lv_at hl 1 rfl) ?_
      exact hJ22 _ (Option.some.inj h) _ _ _ (lv_sub hl [0, 3] rfl) hW
    · replace h := if_f hc5 h
      refine lv_iload_n hx hb dMo_wire_15 rfl (lv_at hl 1 rfl) ?_
      refine lv_iconst hx hb dMo_wire_16 (v := (2 : Int32)) rfl ?_
      refine lv_iadd hx hb dMo_wire_17 ?_
      refine lv_goto hx hb dMo_wire_18 (tgt := 22) rfl ?_
      exact hJ22 _ (Option.some.inj h) _ _ _ (lv_sub hl [0, 3] rfl) hW
  · replace h := if_t hc19 h
    refine lv_iconst hx hb dMo_wire_9 (v := (-1 : Int32)) rfl ?_
    exact hq_iret hx hb hr hlocks h (Nat.le_of_ble_eq_true rfl) (Nat.le_of_ble_eq_true rfl) hW dMo_wire_10
def fMo_sample (t0 : Nat) (t1 : Int32) (t2 : Int32) (S : Ws) : Option (Int32 × Ws) :=
  (gI S t0 [8] 25).bind fun v1 => (fMo_within t1 (0 : Int32) (v1 - (1 : Int32)) S).bind fun (v3, S2) => if v3 = 0 then some ((-1 : Int32), S2) else (fMo_within t2 (0 : Int32) (2 : Int32) S2).bind fun (v5, S4) => if v5 = 0 then some ((-1 : Int32), S4) else (gR S4 t0 [8] 26).bind fun r6 => (r6).bind fun a7 => (aI S4 a7 0 (((3 : Int32) * t1) + t2)).bind fun v8 => some (v8, S4)
set_option maxRecDepth 100000 in
set_option maxHeartbeats 4000000 in
theorem kMo_sample (l : Launch) (D : va_G) (tc : Nat → ClassId) (b : Nat) (t0 : Nat) (t1 : Int32) (t2 : Int32) (S Sz : Ws) (rr : Int32) (h : fMo_sample t0 t1 t2 S = some (rr, Sz)) : Met l yMo_sample wsMo_sample { frames := 2, cells := 0, slots := 0, locals := 80 } (va_Pc [.ref t0, .int t1, .int t2] (Wp D vwCl (hTy tc) b S)) (va_Qi (fun x (_ : Unit) => x = rr) (fun _ => Wp D vwCl (hTy tc) b Sz) (fun q => b ≤ q)) 0 0 (fun q => b ≤ q) := by
  refine hq_ofW (cc := cMo_sample) (maxL := 3) (ret := (some .int)) (by decide) rfl (Nat.le_of_ble_eq_true rfl) fun p e s m args below meth c hx hb hr hts hown hlocks hnm hml H locs ls hl hW => ?_
  have hts : ∀ w ∈ lwG, w.before args s = true := fun w h => hts w (List.mem_cons_of_mem _ h)
  have hown : s.vm.findClass "SerialPlantModel" = some m.cls := hown
  have hl : lv_has ls 3 [(0, .ref t0), (1, .int t1), (2, .int t2)] := hl
  unfold fMo_sample at h
  refine lv_iload_n hx hb dMo_sample_0 rfl (lv_at hl 1 rfl) ?_
  refine lv_iconst hx hb dMo_sample_1 (v := (0 : Int32)) rfl ?_
  refine lv_aload_n hx hb dMo_sample_2 rfl (lv_at hl 0 rfl) ?_
  replace h := ob h; obtain ⟨v1, ev1, h⟩ := h
  refine hq_get hx hb hts hown hW (gI_V ev1) (F_Mo_210 hts) dMo_sample_3 ?_
  refine lv_iconst hx hb dMo_sample_6 (v := (1 : Int32)) rfl ?_
  refine lv_isub hx hb dMo_sample_7 ?_
  replace h := ob h; obtain ⟨⟨v3, S2⟩, eS2, h⟩ := h
  refine hq_calli (ce := 0) (sl := 0) (va_runS (As := [.int t1, .int (0 : Int32), .int (v1 - (1 : Int32))]) (rest := []) ⟨hx, hb, hml, hown, hts⟩ (kMo_within l D tc b t1 (0 : Int32) (v1 - (1 : Int32)) S _ _ eS2) (cwS 3 hts GS_Mo_117 rfl rfl rfl hd_Mo_within_S_Mo ⟨Nat.le_of_ble_eq_true rfl, Nat.le_of_ble_eq_true rfl⟩) (hq_preS hW) rfl rfl hl.1 rfl (lv_room (by first | exact Nat.le_of_ble_eq_true rfl | (simp only [List.map, rf_cat]; exact Nat.le_of_ble_eq_true rfl))) dMo_sample_8 ⟨Nat.le_of_ble_eq_true rfl, Nat.le_of_ble_eq_true rfl⟩) hW rfl rfl (fun H locs hW => ?_)
  refine lv_if_eq hx hb dMo_sample_11 (tgt := 36) rfl (fun hc10 => ?_) (fun hc10 => ?_)
  · replace h := if_t hc10 h
    refine lv_iconst hx hb dMo_sample_36 (v := (-1 : Int32)) rfl ?_
    exact hq_iret hx hb hr hlocks h (Nat.le_of_ble_eq_true rfl) (Nat.le_of_ble_eq_true rfl) hW dMo_sample_37
  · replace h := if_f hc10 h
    refine lv_iload_n hx hb dMo_sample_14 rfl (lv_at hl 2 rfl) ?_
    refine lv_iconst hx hb dMo_sample_15 (v := (0 : Int32)) rfl ?_
    refine lv_iconst hx hb dMo_sample_16 (v := (2 : Int32)) rfl ?_
    replace h := ob h; obtain ⟨⟨v5, S4⟩, eS4, h⟩ := h
    refine hq_calli (ce := 0) (sl := 0) (va_runS (As := [.int t2, .int (0 : Int32), .int (2 : Int32)]) (rest := []) ⟨hx, hb, hml, hown, hts⟩ (kMo_within l D tc b t2 (0 : Int32) (2 : Int32) S2 _ _ eS4) (cwS 3 hts GS_Mo_117 rfl rfl rfl hd_Mo_within_S_Mo ⟨Nat.le_of_ble_eq_true rfl, Nat.le_of_ble_eq_true rfl⟩) (hq_preS hW) rfl rfl hl.1 rfl (lv_room (by first | exact Nat.le_of_ble_eq_true rfl | (simp only [List.map, rf_cat]; exact Nat.le_of_ble_eq_true rfl))) dMo_sample_17 ⟨Nat.le_of_ble_eq_true rfl, Nat.le_of_ble_eq_true rfl⟩) hW rfl rfl (fun H locs hW => ?_)
    refine lv_if_eq hx hb dMo_sample_20 (tgt := 36) rfl (fun hc9 => ?_) (fun hc9 => ?_)
    · replace h := if_t hc9 h
      refine lv_iconst hx hb dMo_sample_36 (v := (-1 : Int32)) rfl ?_
      exact hq_iret hx hb hr hlocks h (Nat.le_of_ble_eq_true rfl) (Nat.le_of_ble_eq_true rfl) hW dMo_sample_37
    · replace h := if_f hc9 h
      refine lv_aload_n hx hb dMo_sample_23 rfl (lv_at hl 0 rfl) ?_
      replace h := ob h; obtain ⟨r6, er6, h⟩ := h
      refine hq_get hx hb hts hown hW (gR_V er6) (F_Mo_78 hts) dMo_sample_24 ?_
      refine lv_iconst hx hb dMo_sample_27 (v := (3 : Int32)) rfl ?_
      refine lv_iload_n hx hb dMo_sample_28 rfl (lv_at hl 1 rfl) ?_
      refine lv_imul hx hb dMo_sample_29 ?_
      refine lv_iload_n hx hb dMo_sample_30 rfl (lv_at hl 2 rfl) ?_
      refine lv_iadd hx hb dMo_sample_31 ?_
      replace h := ob h; obtain ⟨a7, hra7, h⟩ := h
      subst hra7
      replace h := ob h; obtain ⟨v8, ev8, h⟩ := h
      refine hq_iald hx hb hW ev8 rfl dMo_sample_32 ?_
      refine lv_goto hx hb dMo_sample_33 (tgt := 37) rfl ?_
      exact hq_iret hx hb hr hlocks h (Nat.le_of_ble_eq_true rfl) (Nat.le_of_ble_eq_true rfl) hW dMo_sample_37
def fMo_samples_L6 (S : Ws) (t0 : Nat) (t1 : Int32) (t2 : Int32) (t3 : Int32) : Int32 × Int32 → Option ((Int32 × Int32) ⊕ (Int32)) :=
  fun (i1, i2) => (gI S t0 [8] 25).bind fun v5 => if v5 ≤ i2 then some (.inr i1) else (gR S t0 [8] 26).bind fun r6 => (r6).bind fun a7 => (aI S a7 0 (((3 : Int32) * i2) + (1 : Int32))).bind fun v8 => (if v8 = t1 then (gR S t0 [8] 26).bind fun r11 => (r11).bind fun a12 => (aI S a12 0 ((3 : Int32) * i2)).bind fun v13 => if v13 < t2 then some (0 : Int32) else (gR S t0 [8] 26).bind fun r14 => (r14).bind fun a15 => (aI S a15 0 ((3 : Int32) * i2)).bind fun v16 => if t3 < v16 then some (0 : Int32) else some (1 : Int32) else some (0 : Int32)).bind fun i9 => (if i9 = 0 then some i1 else some (i1 + (1 : Int32))).bind fun i20 => some (.inl (i20, i2 + 1))
def fMo_samples (t0 : Nat) (t1 : Int32) (t2 : Int32) (t3 : Int32) (S : Ws) : Option (Int32 × Ws) :=
  (lp (fMo_samples_L6 S t0 t1 t2 t3) 1000 ((0 : Int32), (0 : Int32))).bind fun i4 => some (i4, S)
set_option maxRecDepth 100000 in
set_option maxHeartbeats 4000000 in
theorem kMo_samples (l : Launch) (D : va_G) (tc : Nat → ClassId) (b : Nat) (t0 : Nat) (t1 : Int32) (t2 : Int32) (t3 : Int32) (S Sz : Ws) (rr : Int32) (h : fMo_samples t0 t1 t2 t3 S = some (rr, Sz)) : Met l yMo_samples wsMo_samples { frames := 1, cells := 0, slots := 0, locals := 40 } (va_Pc [.ref t0, .int t1, .int t2, .int t3] (Wp D vwCl (hTy tc) b S)) (va_Qi (fun x (_ : Unit) => x = rr) (fun _ => Wp D vwCl (hTy tc) b Sz) (fun q => b ≤ q)) 0 0 (fun q => b ≤ q) := by
  refine hq_ofW (cc := cMo_samples) (maxL := 7) (ret := (some .int)) (by decide) rfl (Nat.le_of_ble_eq_true rfl) fun p e s m args below meth c hx hb hr hts hown hlocks hnm hml H locs ls hl hW => ?_
  have hts : ∀ w ∈ lwG, w.before args s = true := fun w h => hts w (List.mem_cons_of_mem _ h)
  have hown : s.vm.findClass "SerialPlantModel" = some m.cls := hown
  have hl : lv_has ls 7 [(0, .ref t0), (1, .int t1), (2, .int t2), (3, .int t3)] := hl
  unfold fMo_samples at h
  refine lv_iconst hx hb dMo_samples_0 (v := (0 : Int32)) rfl ?_
  refine lv_istore (lv' := [(4, .int (0 : Int32)), (0, .ref t0), (1, .int t1), (2, .int t2), (3, .int t3)]) hx hb dMo_samples_1 hl (Nat.le_of_ble_eq_true rfl) (by first | rfl | (simp [List.filter, rf_cat] <;> rfl)) (fun ls hl => ?_)
  refine lv_iconst hx hb dMo_samples_3 (v := (0 : Int32)) rfl ?_
  refine lv_istore (lv' := [(5, .int (0 : Int32)), (4, .int (0 : Int32)), (0, .ref t0), (1, .int t1), (2, .int t2), (3, .int t3)]) hx hb dMo_samples_4 hl (Nat.le_of_ble_eq_true rfl) (by first | rfl | (simp [List.filter, rf_cat] <;> rfl)) (fun ls hl => ?_)
  replace h := ob h; obtain ⟨i4, ei4, h⟩ := h
  have hX : (fun q' => ∀ (H : Heap) (locs : List Loc) (ls : Array Slot), lv_has ls 7 [(4, .int q')] → Wd D vwCl (hTy tc) b S s H locs → W p l e { frames := 1, cells := 0, slots := 0, locals := 40 } s m args below meth c H locs 0 0 (MQ below (va_Qi (fun x (_ : Unit) => x = rr) (fun _ => Wp D vwCl (hTy tc) b Sz) (fun q => b ≤ q)) args s 0 0 (fun q => b ≤ q)) (F0 m 85 ls [])) i4 := by
    intro H locs ls hl hW
    refine lv_iload hx hb dMo_samples_85 (lv_at hl 0 rfl) ?_
    exact hq_iret hx hb hr hlocks h (Nat.le_of_ble_eq_true rfl) (Nat.le_of_ble_eq_true rfl) hW dMo_samples_87
  refine lp_ind (P := fun q' => ∀ (H : Heap) (locs : List Loc) (ls : Array Slot), lv_has ls 7 [(0, .ref t0), (1, .int t1), (2, .int t2), (3, .int t3), (4, .int q'.1), (5, .int q'.2)] → Wd D vwCl (hTy tc) b S s H locs → W p l e { frames := 1, cells := 0, slots := 0, locals := 40 } s m args below meth c H locs 0 0 (MQ below (va_Qi (fun x (_ : Unit) => x = rr) (fun _ => Wp D vwCl (hTy tc) b Sz) (fun q => b ≤ q)) args s 0 0 (fun q => b ≤ q)) (F0 m 6 ls [])) (Q := fun q' => ∀ (H : Heap) (locs : List Loc) (ls : Array Slot), lv_has ls 7 [(4, .int q')] → Wd D vwCl (hTy tc) b S s H locs → W p l e { frames := 1, cells := 0, slots := 0, locals := 40 } s m args below meth c H locs 0 0 (MQ below (va_Qi (fun x (_ : Unit) => x = rr) (fun _ => Wp D vwCl (hTy tc) b Sz) (fun q => b ≤ q)) args s 0 0 (fun q => b ≤ q)) (F0 m 85 ls [])) (fun q' x3 h hin hex => ?_) hX _ _ ei4 _ _ _ (lv_sub hl [2, 3, 4, 5, 1, 0] rfl) hW
  obtain ⟨i1, i2⟩ := q'
  intro H locs ls hl hW
  unfold fMo_samples_L6 at h
  refine lv_iload hx hb dMo_samples_6 (lv_at hl 5 rfl) ?_
  refine lv_aload_n hx hb dMo_samples_8 rfl (lv_at hl 0 rfl) ?_
  replace h := ob h; obtain ⟨v5, ev5, h⟩ := h
  refine hq_get hx hb hts hown hW (gI_V ev5) (F_Mo_210 hts) dMo_samples_9 ?_
  refine lv_icmp_ge hx hb dMo_samples_12 (tgt := 85) rfl (fun hc23 => ?_) (fun hc23 => ?_)
  · replace h := if_t hc23 h
    exact hex _ (Option.some.inj h).symm _ _ _ (lv_sub hl [4] rfl) hW
  · replace h := if_f hc23 h
    refine lv_aload_n hx hb dMo_samples_15 rfl (lv_at hl 0 rfl) ?_
    replace h := ob h; obtain ⟨r6, er6, h⟩ := h
    refine hq_get hx hb hts hown hW (gR_V er6) (F_Mo_78 hts) dMo_samples_16 ?_
    refine lv_iconst hx hb dMo_samples_19 (v := (3 : Int32)) rfl ?_
    refine lv_iload hx hb dMo_samples_20 (lv_at hl 5 rfl) ?_
    refine lv_imul hx hb dMo_samples_22 ?_
    refine lv_iconst hx hb dMo_samples_23 (v := (1 : Int32)) rfl ?_
    refine lv_iadd hx hb dMo_samples_24 ?_
    replace h := ob h; obtain ⟨a7, hra7, h⟩ := h
    subst hra7
    replace h := ob h; obtain ⟨v8, ev8, h⟩ := h
    refine hq_iald hx hb hW ev8 rfl dMo_samples_25 ?_
    refine lv_iload_n hx hb dMo_samples_26 rfl (lv_at hl 1 rfl) ?_
    replace h := ob h; obtain ⟨q10, e61, h⟩ := h
    have hJ61 : ∀ q', q' = q10 → ∀ (H : Heap) (locs : List Loc) (ls : Array Slot), lv_has ls 7 [(0, .ref t0), (1, .int t1), (2, .int t2), (3, .int t3), (4, .int i1), (5, .int i2)] → Wd D vwCl (hTy tc) b S s H locs → W p l e { frames := 1, cells := 0, slots := 0, locals := 40 } s m args below meth c H locs 0 0 (MQ below (va_Qi (fun x (_ : Unit) => x = rr) (fun _ => Wp D vwCl (hTy tc) b Sz) (fun q => b ≤ q)) args s 0 0 (fun q => b ≤ q)) (F0 m 61 ls [.int q']) := by
      intro i9 hq'; subst hq'
      intro H locs ls hl hW
      refine lv_istore (lv' := [(6, .int i9), (0, .ref t0), (1, .int t1), (2, .int t2), (3, .int t3), (4, .int i1), (5, .int i2)]) hx hb dMo_samples_61 hl (Nat.le_of_ble_eq_true rfl) (by first | rfl | (simp [List.filter, rf_cat] <;> rfl)) (fun ls hl => ?_)
      refine lv_iload hx hb dMo_samples_63 (lv_at hl 0 rfl) ?_
      replace h := ob h; obtain ⟨q21, e77, h⟩ := h
      have hJ77 : ∀ q', q' = q21 → ∀ (H : Heap) (locs : List Loc) (ls : Array Slot), lv_has ls 7 [(0, .ref t0), (1, .int t1), (2, .int t2), (3, .int t3), (5, .int i2)] → Wd D vwCl (hTy tc) b S s H locs → W p l e { frames := 1, cells := 0, slots := 0, locals := 40 } s m args below meth c H locs 0 0 (MQ below (va_Qi (fun x (_ : Unit) => x = rr) (fun _ => Wp D vwCl (hTy tc) b Sz) (fun q => b ≤ q)) args s 0 0 (fun q => b ≤ q)) (F0 m 77 ls [.int q']) := by
        intro i20 hq'; subst hq'
        intro H locs ls hl hW
        refine lv_istore (lv' := [(4, .int i20), (0, .ref t0), (1, .int t1), (2, .int t2), (3, .int t3), (5, .int i2)]) hx hb dMo_samples_77 hl (Nat.le_of_ble_eq_true rfl) (by first | rfl | (simp [List.filter, rf_cat] <;> rfl)) (fun ls hl => ?_)
        refine lv_iinc (k := 5) (v := i2 + 1) (lv' := [(5, .int (i2 + 1)), (4, .int i20), (0, .ref t0), (1, .int t1), (2, .int t2), (3, .int t3)]) hx hb dMo_samples_79 hl rfl rfl (Nat.le_of_ble_eq_true rfl) (by first | rfl | (simp [List.filter, rf_cat] <;> rfl)) (fun ls hl => ?_)
        refine lv_goto hx hb dMo_samples_82 (tgt := 6) rfl ?_
        exact hin _ (Option.some.inj h).symm _ _ _ (lv_sub hl [2, 3, 4, 5, 1, 0] rfl) hW
      clear h; have h := e77; clear e77
      refine lv_if_eq hx hb dMo_samples_65 (tgt := 75) rfl (fun hc22 => ?_) (fun hc22 => ?_)
      · replace h := if_t hc22 h
        refine lv_iload hx hb dMo_samples_75 (lv_at hl 5 rfl) ?_
        exact hJ77 _ (Option.some.inj h) _ _ _ (lv_sub hl [1, 2, 3, 4, 6] rfl) hW
      · replace h := if_f hc22 h
        refine lv_iload hx hb dMo_samples_68 (lv_at hl 5 rfl) ?_
        refine lv_iconst hx hb dMo_samples_70 (v := (1 : Int32)) rfl ?_
        refine lv_iadd hx hb dMo_samples_71 ?_
        refine lv_goto hx hb dMo_samples_72 (tgt := 77) rfl ?_
        exact hJ77 _ (Option.some.inj h) _ _ _ (lv_sub hl [1, 2, 3, 4, 6] rfl) hW
    clear h; have h := e61; clear e61
    refine lv_icmp_ne hx hb dMo_samples_27 (tgt := 60) rfl (fun hc19 => ?_) (fun hc19 => ?_)
    · replace h := if_f hc19 h
      refine lv_iconst hx hb dMo_samples_60 (v := (0 : Int32)) rfl ?_
      exact hJ61 _ (Option.some.inj h) _ _ _ (lv_sub hl [0, 1, 2, 3, 4, 5] rfl) hW
    · replace h := if_t hc19 h
      refine lv_aload_n hx hb dMo_samples_30 rfl (lv_at hl 0 rfl) ?_
      replace h := ob h; obtain ⟨r11, er11, h⟩ := h
      refine hq_get hx hb hts hown hW (gR_V er11) (F_Mo_78 hts) dMo_samples_31 ?_
      refine lv_iconst hx hb dMo_samples_34 (v := (3 : Int32)) rfl ?_
      refine lv_iload hx hb dMo_samples_35 (lv_at hl 5 rfl) ?_
      refine lv_imul hx hb dMo_samples_37 ?_
      replace h := ob h; obtain ⟨a12, hra12, h⟩ := h
      subst hra12
      replace h := ob h; obtain ⟨v13, ev13, h⟩ := h
      refine hq_iald hx hb hW ev13 rfl dMo_samples_38 ?_
      refine lv_iload_n hx hb dMo_samples_39 rfl (lv_at hl 2 rfl) ?_
      refine lv_icmp_lt hx hb dMo_samples_40 (tgt := 60) rfl (fun hc18 => ?_) (fun hc18 => ?_)
      · replace h := if_t hc18 h
        refine lv_iconst hx hb dMo_samples_60 (v := (0 : Int32)) rfl ?_
        exact hJ61 _ (Option.some.inj h) _ _ _ (lv_sub hl [0, 1, 2, 3, 4, 5] rfl) hW
      · replace h := if_f hc18 h
        refine lv_aload_n hx hb dMo_samples_43 rfl (lv_at hl 0 rfl) ?_
        replace h := ob h; obtain ⟨r14, er14, h⟩ := h
        refine hq_get hx hb hts hown hW (gR_V er14) (F_Mo_78 hts) dMo_samples_44 ?_
        refine lv_iconst hx hb dMo_samples_47 (v := (3 : Int32)) rfl ?_
        refine lv_iload hx hb dMo_samples_48 (lv_at hl 5 rfl) ?_
        refine lv_imul hx hb dMo_samples_50 ?_
        replace h := ob h; obtain ⟨a15, hra15, h⟩ := h
        subst hra15
        replace h := ob h; obtain ⟨v16, ev16, h⟩ := h
        refine hq_iald hx hb hW ev16 rfl dMo_samples_51 ?_
        refine lv_iload_n hx hb dMo_samples_52 rfl (lv_at hl 3 rfl) ?_
        refine lv_icmp_gt hx hb dMo_samples_53 (tgt := 60) rfl (fun hc17 => ?_) (fun hc17 => ?_)
        · replace h := if_t hc17 h
          refine lv_iconst hx hb dMo_samples_60 (v := (0 : Int32)) rfl ?_
          exact hJ61 _ (Option.some.inj h) _ _ _ (lv_sub hl [0, 1, 2, 3, 4, 5] rfl) hW
        · replace h := if_f hc17 h
          refine lv_iconst hx hb dMo_samples_56 (v := (1 : Int32)) rfl ?_
          refine lv_goto hx hb dMo_samples_57 (tgt := 61) rfl ?_
          exact hJ61 _ (Option.some.inj h) _ _ _ (lv_sub hl [0, 1, 2, 3, 4, 5] rfl) hW
