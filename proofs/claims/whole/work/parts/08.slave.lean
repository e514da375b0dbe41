theorem dSl_init_0 : decode cSl_init 0 = .ok (.aload_n 0, 1) := by decide +kernel
theorem dSl_init_1 : decode cSl_init 1 = .ok (.invokespecial 3, 3) := by decide +kernel
theorem dSl_init_4 : decode cSl_init 4 = .ok (.aload_n 0, 1) := by decide +kernel
theorem dSl_init_5 : decode cSl_init 5 = .ok (.bipush 16, 2) := by decide +kernel
theorem dSl_init_7 : decode cSl_init 7 = .ok (.newarray .int, 2) := by decide +kernel
theorem dSl_init_9 : decode cSl_init 9 = .ok (.putfield 9, 3) := by decide +kernel
theorem dSl_init_12 : decode cSl_init 12 = .ok (.aload_n 0, 1) := by decide +kernel
theorem dSl_init_13 : decode cSl_init 13 = .ok (.bipush 16, 2) := by decide +kernel
theorem dSl_init_15 : decode cSl_init 15 = .ok (.newarray .int, 2) := by decide +kernel
theorem dSl_init_17 : decode cSl_init 17 = .ok (.putfield 15, 3) := by decide +kernel
theorem dSl_init_20 : decode cSl_init 20 = .ok (.aload_n 0, 1) := by decide +kernel
theorem dSl_init_21 : decode cSl_init 21 = .ok (.bipush 8, 2) := by decide +kernel
theorem dSl_init_23 : decode cSl_init 23 = .ok (.newarray .int, 2) := by decide +kernel
theorem dSl_init_25 : decode cSl_init 25 = .ok (.putfield 18, 3) := by decide +kernel
theorem dSl_init_28 : decode cSl_init 28 = .ok (.aload_n 0, 1) := by decide +kernel
theorem dSl_init_29 : decode cSl_init 29 = .ok (.bipush 8, 2) := by decide +kernel
theorem dSl_init_31 : decode cSl_init 31 = .ok (.newarray .int, 2) := by decide +kernel
theorem dSl_init_33 : decode cSl_init 33 = .ok (.putfield 21, 3) := by decide +kernel
theorem dSl_init_36 : decode cSl_init 36 = .ok (.aload_n 0, 1) := by decide +kernel
theorem dSl_init_37 : decode cSl_init 37 = .ok (.iconst (-1), 1) := by decide +kernel
theorem dSl_init_38 : decode cSl_init 38 = .ok (.putfield 24, 3) := by decide +kernel
theorem dSl_init_41 : decode cSl_init 41 = .ok (.aload_n 0, 1) := by decide +kernel
theorem dSl_init_42 : decode cSl_init 42 = .ok (.iconst 1, 1) := by decide +kernel
theorem dSl_init_43 : decode cSl_init 43 = .ok (.putfield 28, 3) := by decide +kernel
theorem dSl_init_46 : decode cSl_init 46 = .ok (.aload_n 0, 1) := by decide +kernel
theorem dSl_init_47 : decode cSl_init 47 = .ok (.iload_n 1, 1) := by decide +kernel
theorem dSl_init_48 : decode cSl_init 48 = .ok (.putfield 32, 3) := by decide +kernel
theorem dSl_init_51 : decode cSl_init 51 = .ok (.return_, 1) := by decide +kernel
theorem dSl_isAttached_0 : decode cSl_isAttached 0 = .ok (.aload_n 0, 1) := by decide +kernel
theorem dSl_isAttached_1 : decode cSl_isAttached 1 = .ok (.getfield 24, 3) := by decide +kernel
theorem dSl_isAttached_4 : decode cSl_isAttached 4 = .ok (.iconst (-1), 1) := by decide +kernel
theorem dSl_isAttached_5 : decode cSl_isAttached 5 = .ok (.if_icmp .eq 7, 3) := by decide +kernel
theorem dSl_isAttached_8 : decode cSl_isAttached 8 = .ok (.iconst 1, 1) := by decide +kernel
theorem dSl_isAttached_9 : decode cSl_isAttached 9 = .ok (.goto 4, 3) := by decide +kernel
theorem dSl_isAttached_12 : decode cSl_isAttached 12 = .ok (.iconst 0, 1) := by decide +kernel
theorem dSl_isAttached_13 : decode cSl_isAttached 13 = .ok (.ireturn, 1) := by decide +kernel
theorem dSl_tableOf_0 : decode cSl_tableOf 0 = .ok (.iload_n 1, 1) := by decide +kernel
theorem dSl_tableOf_1 : decode cSl_tableOf 1 = .ok (.tableswitch 42 1 3 #[27, 32, 37], 27) := by decide +kernel
theorem dSl_tableOf_28 : decode cSl_tableOf 28 = .ok (.aload_n 0, 1) := by decide +kernel
theorem dSl_tableOf_29 : decode cSl_tableOf 29 = .ok (.getfield 9, 3) := by decide +kernel
theorem dSl_tableOf_32 : decode cSl_tableOf 32 = .ok (.areturn, 1) := by decide +kernel
theorem dSl_tableOf_33 : decode cSl_tableOf 33 = .ok (.aload_n 0, 1) := by decide +kernel
theorem dSl_tableOf_34 : decode cSl_tableOf 34 = .ok (.getfield 15, 3) := by decide +kernel
theorem dSl_tableOf_37 : decode cSl_tableOf 37 = .ok (.areturn, 1) := by decide +kernel
theorem dSl_tableOf_38 : decode cSl_tableOf 38 = .ok (.aload_n 0, 1) := by decide +kernel
theorem dSl_tableOf_39 : decode cSl_tableOf 39 = .ok (.getfield 18, 3) := by decide +kernel
theorem dSl_tableOf_42 : decode cSl_tableOf 42 = .ok (.areturn, 1) := by decide +kernel
theorem dSl_tableOf_43 : decode cSl_tableOf 43 = .ok (.aload_n 0, 1) := by decide +kernel
theorem dSl_tableOf_44 : decode cSl_tableOf 44 = .ok (.getfield 21, 3) := by decide +kernel
theorem dSl_tableOf_47 : decode cSl_tableOf 47 = .ok (.areturn, 1) := by decide +kernel
theorem dSl_isMeantBy_0 : decode cSl_isMeantBy 0 = .ok (.aload_n 1, 1) := by decide +kernel
theorem dSl_isMeantBy_1 : decode cSl_isMeantBy 1 = .ok (.invokevirtual 35, 3) := by decide +kernel
theorem dSl_isMeantBy_4 : decode cSl_isMeantBy 4 = .ok (.ifCond .ne 14, 3) := by decide +kernel
theorem dSl_isMeantBy_7 : decode cSl_isMeantBy 7 = .ok (.aload_n 1, 1) := by decide +kernel
theorem dSl_isMeantBy_8 : decode cSl_isMeantBy 8 = .ok (.getfield 41, 3) := by decide +kernel
theorem dSl_isMeantBy_11 : decode cSl_isMeantBy 11 = .ok (.aload_n 0, 1) := by decide +kernel
theorem dSl_isMeantBy_12 : decode cSl_isMeantBy 12 = .ok (.getfield 32, 3) := by decide +kernel
theorem dSl_isMeantBy_15 : decode cSl_isMeantBy 15 = .ok (.if_icmp .ne 7, 3) := by decide +kernel
theorem dSl_isMeantBy_18 : decode cSl_isMeantBy 18 = .ok (.iconst 1, 1) := by decide +kernel
theorem dSl_isMeantBy_19 : decode cSl_isMeantBy 19 = .ok (.goto 4, 3) := by decide +kernel
theorem dSl_isMeantBy_22 : decode cSl_isMeantBy 22 = .ok (.iconst 0, 1) := by decide +kernel
theorem dSl_isMeantBy_23 : decode cSl_isMeantBy 23 = .ok (.ireturn, 1) := by decide +kernel
theorem dSl_put_0 : decode cSl_put 0 = .ok (.iload_n 1, 1) := by decide +kernel
theorem dSl_put_1 : decode cSl_put 1 = .ok (.ifCond .lt 13, 3) := by decide +kernel
theorem dSl_put_4 : decode cSl_put 4 = .ok (.iload_n 1, 1) := by decide +kernel
theorem dSl_put_5 : decode cSl_put 5 = .ok (.aload_n 0, 1) := by decide +kernel
theorem dSl_put_6 : decode cSl_put 6 = .ok (.arraylength, 1) := by decide +kernel
theorem dSl_put_7 : decode cSl_put 7 = .ok (.if_icmp .ge 7, 3) := by decide +kernel
theorem dSl_put_10 : decode cSl_put 10 = .ok (.aload_n 0, 1) := by decide +kernel
theorem dSl_put_11 : decode cSl_put 11 = .ok (.iload_n 1, 1) := by decide +kernel
theorem dSl_put_12 : decode cSl_put 12 = .ok (.iload_n 2, 1) := by decide +kernel
theorem dSl_put_13 : decode cSl_put 13 = .ok (.iastore, 1) := by decide +kernel
theorem dSl_put_14 : decode cSl_put 14 = .ok (.return_, 1) := by decide +kernel
theorem dSl_get_0 : decode cSl_get 0 = .ok (.iload_n 1, 1) := by decide +kernel
theorem dSl_get_1 : decode cSl_get 1 = .ok (.ifCond .lt 15, 3) := by decide +kernel
theorem dSl_get_4 : decode cSl_get 4 = .ok (.iload_n 1, 1) := by decide +kernel
theorem dSl_get_5 : decode cSl_get 5 = .ok (.aload_n 0, 1) := by decide +kernel
theorem dSl_get_6 : decode cSl_get 6 = .ok (.arraylength, 1) := by decide +kernel
theorem dSl_get_7 : decode cSl_get 7 = .ok (.if_icmp .ge 9, 3) := by decide +kernel
theorem dSl_get_10 : decode cSl_get 10 = .ok (.aload_n 0, 1) := by decide +kernel
theorem dSl_get_11 : decode cSl_get 11 = .ok (.iload_n 1, 1) := by decide +kernel
theorem dSl_get_12 : decode cSl_get 12 = .ok (.iaload, 1) := by decide +kernel
theorem dSl_get_13 : decode cSl_get 13 = .ok (.goto 4, 3) := by decide +kernel
theorem dSl_get_16 : decode cSl_get 16 = .ok (.iconst 0, 1) := by decide +kernel
theorem dSl_get_17 : decode cSl_get 17 = .ok (.ireturn, 1) := by decide +kernel
theorem dSl_masked_0 : decode cSl_masked 0 = .ok (.iload_n 0, 1) := by decide +kernel
theorem dSl_masked_1 : decode cSl_masked 1 = .ok (.iload_n 1, 1) := by decide +kernel
theorem dSl_masked_2 : decode cSl_masked 2 = .ok (.iand, 1) := by decide +kernel
theorem dSl_masked_3 : decode cSl_masked 3 = .ok (.iload_n 2, 1) := by decide +kernel
theorem dSl_masked_4 : decode cSl_masked 4 = .ok (.iload_n 1, 1) := by decide +kernel
theorem dSl_masked_5 : decode cSl_masked 5 = .ok (.iconst (-1), 1) := by decide +kernel
theorem dSl_masked_6 : decode cSl_masked 6 = .ok (.ixor, 1) := by decide +kernel
theorem dSl_masked_7 : decode cSl_masked 7 = .ok (.iand, 1) := by decide +kernel
theorem dSl_masked_8 : decode cSl_masked 8 = .ok (.ior, 1) := by decide +kernel
theorem dSl_masked_9 : decode cSl_masked 9 = .ok (.ireturn, 1) := by decide +kernel
theorem dSl_changeMode_0 : decode cSl_changeMode 0 = .ok (.iload_n 1, 1) := by decide +kernel
theorem dSl_changeMode_1 : decode cSl_changeMode 1 = .ok (.iconst 1, 1) := by decide +kernel
theorem dSl_changeMode_2 : decode cSl_changeMode 2 = .ok (.if_icmp .ne 11, 3) := by decide +kernel
theorem dSl_changeMode_5 : decode cSl_changeMode 5 = .ok (.aload_n 0, 1) := by decide +kernel
theorem dSl_changeMode_6 : decode cSl_changeMode 6 = .ok (.iconst 0, 1) := by decide +kernel
theorem dSl_changeMode_7 : decode cSl_changeMode 7 = .ok (.putfield 44, 3) := by decide +kernel
theorem dSl_changeMode_10 : decode cSl_changeMode 10 = .ok (.goto 13, 3) := by decide +kernel
theorem dSl_changeMode_13 : decode cSl_changeMode 13 = .ok (.iload_n 1, 1) := by decide +kernel
theorem dSl_changeMode_14 : decode cSl_changeMode 14 = .ok (.iconst 4, 1) := by decide +kernel
theorem dSl_changeMode_15 : decode cSl_changeMode 15 = .ok (.if_icmp .ne 8, 3) := by decide +kernel
theorem dSl_changeMode_18 : decode cSl_changeMode 18 = .ok (.aload_n 0, 1) := by decide +kernel
theorem dSl_changeMode_19 : decode cSl_changeMode 19 = .ok (.iconst 1, 1) := by decide +kernel
theorem dSl_changeMode_20 : decode cSl_changeMode 20 = .ok (.putfield 44, 3) := by decide +kernel
theorem dSl_changeMode_23 : decode cSl_changeMode 23 = .ok (.return_, 1) := by decide +kernel
theorem dSl_carryOut_0 : decode cSl_carryOut 0 = .ok (.aload_n 1, 1) := by decide +kernel
theorem dSl_carryOut_1 : decode cSl_carryOut 1 = .ok (.getfield 47, 3) := by decide +kernel
theorem dSl_carryOut_4 : decode cSl_carryOut 4 = .ok (.tableswitch 259 5 22 #[88, 117, 259, 248, 259, 259, 259, 259, 259, 259, 174, 211, 259, 259, 259, 259, 259, 136], 88) := by decide +kernel
theorem dSl_carryOut_92 : decode cSl_carryOut 92 = .ok (.aload_n 0, 1) := by decide +kernel
theorem dSl_carryOut_93 : decode cSl_carryOut 93 = .ok (.getfield 9, 3) := by decide +kernel
theorem dSl_carryOut_96 : decode cSl_carryOut 96 = .ok (.aload_n 1, 1) := by decide +kernel
theorem dSl_carryOut_97 : decode cSl_carryOut 97 = .ok (.getfield 58, 3) := by decide +kernel
theorem dSl_carryOut_100 : decode cSl_carryOut 100 = .ok (.aload_n 1, 1) := by decide +kernel
theorem dSl_carryOut_101 : decode cSl_carryOut 101 = .ok (.iconst 0, 1) := by decide +kernel
theorem dSl_carryOut_102 : decode cSl_carryOut 102 = .ok (.invokevirtual 61, 3) := by decide +kernel
theorem dSl_carryOut_105 : decode cSl_carryOut 105 = .ok (.ldc 65, 2) := by decide +kernel
theorem dSl_carryOut_107 : decode cSl_carryOut 107 = .ok (.if_icmp .ne 7, 3) := by decide +kernel
theorem dSl_carryOut_110 : decode cSl_carryOut 110 = .ok (.iconst 1, 1) := by decide +kernel
theorem dSl_carryOut_111 : decode cSl_carryOut 111 = .ok (.goto 4, 3) := by decide +kernel
theorem dSl_carryOut_114 : decode cSl_carryOut 114 = .ok (.iconst 0, 1) := by decide +kernel
theorem dSl_carryOut_115 : decode cSl_carryOut 115 = .ok (.invokestatic 66, 3) := by decide +kernel
theorem dSl_carryOut_118 : decode cSl_carryOut 118 = .ok (.goto 145, 3) := by decide +kernel
theorem dSl_carryOut_121 : decode cSl_carryOut 121 = .ok (.aload_n 0, 1) := by decide +kernel
theorem dSl_carryOut_122 : decode cSl_carryOut 122 = .ok (.getfield 18, 3) := by decide +kernel
theorem dSl_carryOut_125 : decode cSl_carryOut 125 = .ok (.aload_n 1, 1) := by decide +kernel
theorem dSl_carryOut_126 : decode cSl_carryOut 126 = .ok (.getfield 58, 3) := by decide +kernel
theorem dSl_carryOut_129 : decode cSl_carryOut 129 = .ok (.aload_n 1, 1) := by decide +kernel
theorem dSl_carryOut_130 : decode cSl_carryOut 130 = .ok (.iconst 0, 1) := by decide +kernel
theorem dSl_carryOut_131 : decode cSl_carryOut 131 = .ok (.invokevirtual 61, 3) := by decide +kernel
theorem dSl_carryOut_134 : decode cSl_carryOut 134 = .ok (.invokestatic 66, 3) := by decide +kernel
theorem dSl_carryOut_137 : decode cSl_carryOut 137 = .ok (.goto 126, 3) := by decide +kernel
theorem dSl_carryOut_140 : decode cSl_carryOut 140 = .ok (.aload_n 0, 1) := by decide +kernel
theorem dSl_carryOut_141 : decode cSl_carryOut 141 = .ok (.getfield 18, 3) := by decide +kernel
theorem dSl_carryOut_144 : decode cSl_carryOut 144 = .ok (.aload_n 1, 1) := by decide +kernel
theorem dSl_carryOut_145 : decode cSl_carryOut 145 = .ok (.getfield 58, 3) := by decide +kernel
theorem dSl_carryOut_148 : decode cSl_carryOut 148 = .ok (.aload_n 0, 1) := by decide +kernel
theorem dSl_carryOut_149 : decode cSl_carryOut 149 = .ok (.getfield 18, 3) := by decide +kernel
theorem dSl_carryOut_152 : decode cSl_carryOut 152 = .ok (.aload_n 1, 1) := by decide +kernel
theorem dSl_carryOut_153 : decode cSl_carryOut 153 = .ok (.getfield 58, 3) := by decide +kernel
theorem dSl_carryOut_156 : decode cSl_carryOut 156 = .ok (.invokestatic 70, 3) := by decide +kernel
theorem dSl_carryOut_159 : decode cSl_carryOut 159 = .ok (.aload_n 1, 1) := by decide +kernel
theorem dSl_carryOut_160 : decode cSl_carryOut 160 = .ok (.iconst 0, 1) := by decide +kernel
theorem dSl_carryOut_161 : decode cSl_carryOut 161 = .ok (.invokevirtual 61, 3) := by decide +kernel
theorem dSl_carryOut_164 : decode cSl_carryOut 164 = .ok (.aload_n 1, 1) := by decide +kernel
theorem dSl_carryOut_165 : decode cSl_carryOut 165 = .ok (.iconst 1, 1) := by decide +kernel
theorem dSl_carryOut_166 : decode cSl_carryOut 166 = .ok (.invokevirtual 61, 3) := by decide +kernel
theorem dSl_carryOut_169 : decode cSl_carryOut 169 = .ok (.invokestatic 74, 3) := by decide +kernel
theorem dSl_carryOut_172 : decode cSl_carryOut 172 = .ok (.invokestatic 66, 3) := by decide +kernel
theorem dSl_carryOut_175 : decode cSl_carryOut 175 = .ok (.goto 88, 3) := by decide +kernel
theorem dSl_carryOut_178 : decode cSl_carryOut 178 = .ok (.iconst 0, 1) := by decide +kernel
theorem dSl_carryOut_179 : decode cSl_carryOut 179 = .ok (.istore_n 2, 1) := by decide +kernel
theorem dSl_carryOut_180 : decode cSl_carryOut 180 = .ok (.iload_n 2, 1) := by decide +kernel
theorem dSl_carryOut_181 : decode cSl_carryOut 181 = .ok (.aload_n 1, 1) := by decide +kernel
theorem dSl_carryOut_182 : decode cSl_carryOut 182 = .ok (.getfield 78, 3) := by decide +kernel
theorem dSl_carryOut_185 : decode cSl_carryOut 185 = .ok (.if_icmp .ge 27, 3) := by decide +kernel
theorem dSl_carryOut_188 : decode cSl_carryOut 188 = .ok (.aload_n 0, 1) := by decide +kernel
theorem dSl_carryOut_189 : decode cSl_carryOut 189 = .ok (.getfield 9, 3) := by decide +kernel
theorem dSl_carryOut_192 : decode cSl_carryOut 192 = .ok (.aload_n 1, 1) := by decide +kernel
theorem dSl_carryOut_193 : decode cSl_carryOut 193 = .ok (.getfield 58, 3) := by decide +kernel
theorem dSl_carryOut_196 : decode cSl_carryOut 196 = .ok (.iload_n 2, 1) := by decide +kernel
theorem dSl_carryOut_197 : decode cSl_carryOut 197 = .ok (.iadd, 1) := by decide +kernel
theorem dSl_carryOut_198 : decode cSl_carryOut 198 = .ok (.aload_n 1, 1) := by decide +kernel
theorem dSl_carryOut_199 : decode cSl_carryOut 199 = .ok (.iload_n 2, 1) := by decide +kernel
theorem dSl_carryOut_200 : decode cSl_carryOut 200 = .ok (.invokevirtual 81, 3) := by decide +kernel
theorem dSl_carryOut_203 : decode cSl_carryOut 203 = .ok (.invokestatic 66, 3) := by decide +kernel
theorem dSl_carryOut_206 : decode cSl_carryOut 206 = .ok (.iinc 2 1, 3) := by decide +kernel
theorem dSl_carryOut_209 : decode cSl_carryOut 209 = .ok (.goto (-29), 3) := by decide +kernel
theorem dSl_carryOut_212 : decode cSl_carryOut 212 = .ok (.goto 51, 3) := by decide +kernel
theorem dSl_carryOut_215 : decode cSl_carryOut 215 = .ok (.iconst 0, 1) := by decide +kernel
theorem dSl_carryOut_216 : decode cSl_carryOut 216 = .ok (.istore_n 2, 1) := by decide +kernel
theorem dSl_carryOut_217 : decode cSl_carryOut 217 = .ok (.iload_n 2, 1) := by decide +kernel
theorem dSl_carryOut_218 : decode cSl_carryOut 218 = .ok (.aload_n 1, 1) := by decide +kernel
theorem dSl_carryOut_219 : decode cSl_carryOut 219 = .ok (.getfield 78, 3) := by decide +kernel
theorem dSl_carryOut_222 : decode cSl_carryOut 222 = .ok (.if_icmp .ge 27, 3) := by decide +kernel
theorem dSl_carryOut_225 : decode cSl_carryOut 225 = .ok (.aload_n 0, 1) := by decide +kernel
theorem dSl_carryOut_226 : decode cSl_carryOut 226 = .ok (.getfield 18, 3) := by decide +kernel
theorem dSl_carryOut_229 : decode cSl_carryOut 229 = .ok (.aload_n 1, 1) := by decide +kernel
theorem dSl_carryOut_230 : decode cSl_carryOut 230 = .ok (.getfield 58, 3) := by decide +kernel
theorem dSl_carryOut_233 : decode cSl_carryOut 233 = .ok (.iload_n 2, 1) := by decide +kernel
theorem dSl_carryOut_234 : decode cSl_carryOut 234 = .ok (.iadd, 1) := by decide +kernel
theorem dSl_carryOut_235 : decode cSl_carryOut 235 = .ok (.aload_n 1, 1) := by decide +kernel
theorem dSl_carryOut_236 : decode cSl_carryOut 236 = .ok (.iload_n 2, 1) := by decide +kernel
theorem dSl_carryOut_237 : decode cSl_carryOut 237 = .ok (.invokevirtual 61, 3) := by decide +kernel
theorem dSl_carryOut_240 : decode cSl_carryOut 240 = .ok (.invokestatic 66, 3) := by decide +kernel
theorem dSl_carryOut_243 : decode cSl_carryOut 243 = .ok (.iinc 2 1, 3) := by decide +kernel
theorem dSl_carryOut_246 : decode cSl_carryOut 246 = .ok (.goto (-29), 3) := by decide +kernel
theorem dSl_carryOut_249 : decode cSl_carryOut 249 = .ok (.goto 14, 3) := by decide +kernel
theorem dSl_carryOut_252 : decode cSl_carryOut 252 = .ok (.aload_n 0, 1) := by decide +kernel
theorem dSl_carryOut_253 : decode cSl_carryOut 253 = .ok (.aload_n 1, 1) := by decide +kernel
theorem dSl_carryOut_254 : decode cSl_carryOut 254 = .ok (.getfield 58, 3) := by decide +kernel
theorem dSl_carryOut_257 : decode cSl_carryOut 257 = .ok (.invokevirtual 84, 3) := by decide +kernel
theorem dSl_carryOut_260 : decode cSl_carryOut 260 = .ok (.goto 3, 3) := by decide +kernel
theorem dSl_carryOut_263 : decode cSl_carryOut 263 = .ok (.return_, 1) := by decide +kernel
theorem dSl_obey_0 : decode cSl_obey 0 = .ok (.aload_n 0, 1) := by decide +kernel
theorem dSl_obey_1 : decode cSl_obey 1 = .ok (.getfield 44, 3) := by decide +kernel
theorem dSl_obey_4 : decode cSl_obey 4 = .ok (.istore_n 2, 1) := by decide +kernel
theorem dSl_obey_5 : decode cSl_obey 5 = .ok (.aload_n 0, 1) := by decide +kernel
theorem dSl_obey_6 : decode cSl_obey 6 = .ok (.getfield 28, 3) := by decide +kernel
theorem dSl_obey_9 : decode cSl_obey 9 = .ok (.ifCond .eq 16, 3) := by decide +kernel
theorem dSl_obey_12 : decode cSl_obey 12 = .ok (.iload_n 2, 1) := by decide +kernel
theorem dSl_obey_13 : decode cSl_obey 13 = .ok (.ifCond .eq 14, 3) := by decide +kernel
theorem dSl_obey_16 : decode cSl_obey 16 = .ok (.aload_n 1, 1) := by decide +kernel
theorem dSl_obey_17 : decode cSl_obey 17 = .ok (.getfield 47, 3) := by decide +kernel
theorem dSl_obey_20 : decode cSl_obey 20 = .ok (.bipush 8, 2) := by decide +kernel
theorem dSl_obey_22 : decode cSl_obey 22 = .ok (.if_icmp .eq 5, 3) := by decide +kernel
theorem dSl_obey_25 : decode cSl_obey 25 = .ok (.iconst 0, 1) := by decide +kernel
theorem dSl_obey_26 : decode cSl_obey 26 = .ok (.ireturn, 1) := by decide +kernel
theorem dSl_obey_27 : decode cSl_obey 27 = .ok (.aload_n 1, 1) := by decide +kernel
theorem dSl_obey_28 : decode cSl_obey 28 = .ok (.invokevirtual 50, 3) := by decide +kernel
theorem dSl_obey_31 : decode cSl_obey 31 = .ok (.ifCond .ne 8, 3) := by decide +kernel
theorem dSl_obey_34 : decode cSl_obey 34 = .ok (.aload_n 0, 1) := by decide +kernel
theorem dSl_obey_35 : decode cSl_obey 35 = .ok (.aload_n 1, 1) := by decide +kernel
theorem dSl_obey_36 : decode cSl_obey 36 = .ok (.invokevirtual 54, 3) := by decide +kernel
theorem dSl_obey_39 : decode cSl_obey 39 = .ok (.aload_n 1, 1) := by decide +kernel
theorem dSl_obey_40 : decode cSl_obey 40 = .ok (.invokevirtual 35, 3) := by decide +kernel
theorem dSl_obey_43 : decode cSl_obey 43 = .ok (.ifCond .ne 18, 3) := by decide +kernel
theorem dSl_obey_46 : decode cSl_obey 46 = .ok (.iload_n 2, 1) := by decide +kernel
theorem dSl_obey_47 : decode cSl_obey 47 = .ok (.ifCond .ne 14, 3) := by decide +kernel
theorem dSl_obey_50 : decode cSl_obey 50 = .ok (.aload_n 0, 1) := by decide +kernel
theorem dSl_obey_51 : decode cSl_obey 51 = .ok (.getfield 44, 3) := by decide +kernel
theorem dSl_obey_54 : decode cSl_obey 54 = .ok (.ifCond .ne 7, 3) := by decide +kernel
theorem dSl_obey_57 : decode cSl_obey 57 = .ok (.iconst 1, 1) := by decide +kernel
theorem dSl_obey_58 : decode cSl_obey 58 = .ok (.goto 4, 3) := by decide +kernel
theorem dSl_obey_61 : decode cSl_obey 61 = .ok (.iconst 0, 1) := by decide +kernel
theorem dSl_obey_62 : decode cSl_obey 62 = .ok (.ireturn, 1) := by decide +kernel
theorem dSl_writeBits_0 : decode cSl_writeBits 0 = .ok (.aload_n 0, 1) := by decide +kernel
theorem dSl_writeBits_1 : decode cSl_writeBits 1 = .ok (.aload_n 1, 1) := by decide +kernel
theorem dSl_writeBits_2 : decode cSl_writeBits 2 = .ok (.getfield 47, 3) := by decide +kernel
theorem dSl_writeBits_5 : decode cSl_writeBits 5 = .ok (.invokevirtual 114, 3) := by decide +kernel
theorem dSl_writeBits_8 : decode cSl_writeBits 8 = .ok (.astore_n 3, 1) := by decide +kernel
theorem dSl_writeBits_9 : decode cSl_writeBits 9 = .ok (.aload_n 2, 1) := by decide +kernel
theorem dSl_writeBits_10 : decode cSl_writeBits 10 = .ok (.aload_n 1, 1) := by decide +kernel
theorem dSl_writeBits_11 : decode cSl_writeBits 11 = .ok (.getfield 41, 3) := by decide +kernel
theorem dSl_writeBits_14 : decode cSl_writeBits 14 = .ok (.aload_n 1, 1) := by decide +kernel
theorem dSl_writeBits_15 : decode cSl_writeBits 15 = .ok (.getfield 47, 3) := by decide +kernel
theorem dSl_writeBits_18 : decode cSl_writeBits 18 = .ok (.invokevirtual 88, 3) := by decide +kernel
theorem dSl_writeBits_21 : decode cSl_writeBits 21 = .ok (.aload_n 2, 1) := by decide +kernel
theorem dSl_writeBits_22 : decode cSl_writeBits 22 = .ok (.aload_n 1, 1) := by decide +kernel
theorem dSl_writeBits_23 : decode cSl_writeBits 23 = .ok (.invokevirtual 118, 3) := by decide +kernel
theorem dSl_writeBits_26 : decode cSl_writeBits 26 = .ok (.invokevirtual 94, 3) := by decide +kernel
theorem dSl_writeBits_29 : decode cSl_writeBits 29 = .ok (.iconst 0, 1) := by decide +kernel
theorem dSl_writeBits_30 : decode cSl_writeBits 30 = .ok (.istore 4, 2) := by decide +kernel
theorem dSl_writeBits_32 : decode cSl_writeBits 32 = .ok (.iload 4, 2) := by decide +kernel
theorem dSl_writeBits_34 : decode cSl_writeBits 34 = .ok (.aload_n 1, 1) := by decide +kernel
theorem dSl_writeBits_35 : decode cSl_writeBits 35 = .ok (.invokevirtual 118, 3) := by decide +kernel
theorem dSl_writeBits_38 : decode cSl_writeBits 38 = .ok (.if_icmp .ge 74, 3) := by decide +kernel
theorem dSl_writeBits_41 : decode cSl_writeBits 41 = .ok (.iconst 0, 1) := by decide +kernel
theorem dSl_writeBits_42 : decode cSl_writeBits 42 = .ok (.istore 5, 2) := by decide +kernel
theorem dSl_writeBits_44 : decode cSl_writeBits 44 = .ok (.iconst 0, 1) := by decide +kernel
theorem dSl_writeBits_45 : decode cSl_writeBits 45 = .ok (.istore 6, 2) := by decide +kernel
theorem dSl_writeBits_47 : decode cSl_writeBits 47 = .ok (.iload 6, 2) := by decide +kernel
theorem dSl_writeBits_49 : decode cSl_writeBits 49 = .ok (.bipush 8, 2) := by decide +kernel
theorem dSl_writeBits_51 : decode cSl_writeBits 51 = .ok (.if_icmp .ge 49, 3) := by decide +kernel
theorem dSl_writeBits_54 : decode cSl_writeBits 54 = .ok (.bipush 8, 2) := by decide +kernel
theorem dSl_writeBits_56 : decode cSl_writeBits 56 = .ok (.iload 4, 2) := by decide +kernel
theorem dSl_writeBits_58 : decode cSl_writeBits 58 = .ok (.imul, 1) := by decide +kernel
theorem dSl_writeBits_59 : decode cSl_writeBits 59 = .ok (.iload 6, 2) := by decide +kernel
theorem dSl_writeBits_61 : decode cSl_writeBits 61 = .ok (.iadd, 1) := by decide +kernel
theorem dSl_writeBits_62 : decode cSl_writeBits 62 = .ok (.aload_n 1, 1) := by decide +kernel
theorem dSl_writeBits_63 : decode cSl_writeBits 63 = .ok (.getfield 78, 3) := by decide +kernel
theorem dSl_writeBits_66 : decode cSl_writeBits 66 = .ok (.if_icmp .ge 34, 3) := by decide +kernel
theorem dSl_writeBits_69 : decode cSl_writeBits 69 = .ok (.iload 5, 2) := by decide +kernel
theorem dSl_writeBits_71 : decode cSl_writeBits 71 = .ok (.aload_n 3, 1) := by decide +kernel
theorem dSl_writeBits_72 : decode cSl_writeBits 72 = .ok (.aload_n 1, 1) := by decide +kernel
theorem dSl_writeBits_73 : decode cSl_writeBits 73 = .ok (.getfield 58, 3) := by decide +kernel
theorem dSl_writeBits_76 : decode cSl_writeBits 76 = .ok (.bipush 8, 2) := by decide +kernel
theorem dSl_writeBits_78 : decode cSl_writeBits 78 = .ok (.iload 4, 2) := by decide +kernel
theorem dSl_writeBits_80 : decode cSl_writeBits 80 = .ok (.imul, 1) := by decide +kernel
theorem dSl_writeBits_81 : decode cSl_writeBits 81 = .ok (.iadd, 1) := by decide +kernel
theorem dSl_writeBits_82 : decode cSl_writeBits 82 = .ok (.iload 6, 2) := by decide +kernel
theorem dSl_writeBits_84 : decode cSl_writeBits 84 = .ok (.iadd, 1) := by decide +kernel
theorem dSl_writeBits_85 : decode cSl_writeBits 85 = .ok (.invokestatic 70, 3) := by decide +kernel
theorem dSl_writeBits_88 : decode cSl_writeBits 88 = .ok (.iload 6, 2) := by decide +kernel
theorem dSl_writeBits_90 : decode cSl_writeBits 90 = .ok (.ishl, 1) := by decide +kernel
theorem dSl_writeBits_91 : decode cSl_writeBits 91 = .ok (.ior, 1) := by decide +kernel
theorem dSl_writeBits_92 : decode cSl_writeBits 92 = .ok (.istore 5, 2) := by decide +kernel
theorem dSl_writeBits_94 : decode cSl_writeBits 94 = .ok (.iinc 6 1, 3) := by decide +kernel
theorem dSl_writeBits_97 : decode cSl_writeBits 97 = .ok (.goto (-50), 3) := by decide +kernel
theorem dSl_writeBits_100 : decode cSl_writeBits 100 = .ok (.aload_n 2, 1) := by decide +kernel
theorem dSl_writeBits_101 : decode cSl_writeBits 101 = .ok (.iload 5, 2) := by decide +kernel
theorem dSl_writeBits_103 : decode cSl_writeBits 103 = .ok (.invokevirtual 94, 3) := by decide +kernel
theorem dSl_writeBits_106 : decode cSl_writeBits 106 = .ok (.iinc 4 1, 3) := by decide +kernel
theorem dSl_writeBits_109 : decode cSl_writeBits 109 = .ok (.goto (-77), 3) := by decide +kernel
theorem dSl_writeBits_112 : decode cSl_writeBits 112 = .ok (.aload_n 2, 1) := by decide +kernel
theorem dSl_writeBits_113 : decode cSl_writeBits 113 = .ok (.invokevirtual 97, 3) := by decide +kernel
theorem dSl_writeBits_116 : decode cSl_writeBits 116 = .ok (.return_, 1) := by decide +kernel
theorem dSl_writeWords_0 : decode cSl_writeWords 0 = .ok (.aload_n 0, 1) := by decide +kernel
theorem dSl_writeWords_1 : decode cSl_writeWords 1 = .ok (.aload_n 1, 1) := by decide +kernel
theorem dSl_writeWords_2 : decode cSl_writeWords 2 = .ok (.getfield 47, 3) := by decide +kernel
theorem dSl_writeWords_5 : decode cSl_writeWords 5 = .ok (.invokevirtual 114, 3) := by decide +kernel
theorem dSl_writeWords_8 : decode cSl_writeWords 8 = .ok (.astore_n 3, 1) := by decide +kernel
theorem dSl_writeWords_9 : decode cSl_writeWords 9 = .ok (.aload_n 2, 1) := by decide +kernel
theorem dSl_writeWords_10 : decode cSl_writeWords 10 = .ok (.aload_n 1, 1) := by decide +kernel
theorem dSl_writeWords_11 : decode cSl_writeWords 11 = .ok (.getfield 41, 3) := by decide +kernel
theorem dSl_writeWords_14 : decode cSl_writeWords 14 = .ok (.aload_n 1, 1) := by decide +kernel
theorem dSl_writeWords_15 : decode cSl_writeWords 15 = .ok (.getfield 47, 3) := by decide +kernel
theorem dSl_writeWords_18 : decode cSl_writeWords 18 = .ok (.invokevirtual 88, 3) := by decide +kernel
theorem dSl_writeWords_21 : decode cSl_writeWords 21 = .ok (.aload_n 2, 1) := by decide +kernel
theorem dSl_writeWords_22 : decode cSl_writeWords 22 = .ok (.iconst 2, 1) := by decide +kernel
theorem dSl_writeWords_23 : decode cSl_writeWords 23 = .ok (.aload_n 1, 1) := by decide +kernel
theorem dSl_writeWords_24 : decode cSl_writeWords 24 = .ok (.getfield 78, 3) := by decide +kernel
theorem dSl_writeWords_27 : decode cSl_writeWords 27 = .ok (.imul, 1) := by decide +kernel
theorem dSl_writeWords_28 : decode cSl_writeWords 28 = .ok (.invokevirtual 94, 3) := by decide +kernel
theorem dSl_writeWords_31 : decode cSl_writeWords 31 = .ok (.iconst 0, 1) := by decide +kernel
theorem dSl_writeWords_32 : decode cSl_writeWords 32 = .ok (.istore 4, 2) := by decide +kernel
theorem dSl_writeWords_34 : decode cSl_writeWords 34 = .ok (.iload 4, 2) := by decide +kernel
theorem dSl_writeWords_36 : decode cSl_writeWords 36 = .ok (.aload_n 1, 1) := by decide +kernel
theorem dSl_writeWords_37 : decode cSl_writeWords 37 = .ok (.getfield 78, 3) := by decide +kernel
theorem dSl_writeWords_40 : decode cSl_writeWords 40 = .ok (.if_icmp .ge 24, 3) := by decide +kernel
theorem dSl_writeWords_43 : decode cSl_writeWords 43 = .ok (.aload_n 2, 1) := by decide +kernel
theorem dSl_writeWords_44 : decode cSl_writeWords 44 = .ok (.aload_n 3, 1) := by decide +kernel
theorem dSl_writeWords_45 : decode cSl_writeWords 45 = .ok (.aload_n 1, 1) := by decide +kernel
theorem dSl_writeWords_46 : decode cSl_writeWords 46 = .ok (.getfield 58, 3) := by decide +kernel
theorem dSl_writeWords_49 : decode cSl_writeWords 49 = .ok (.iload 4, 2) := by decide +kernel
theorem dSl_writeWords_51 : decode cSl_writeWords 51 = .ok (.iadd, 1) := by decide +kernel
theorem dSl_writeWords_52 : decode cSl_writeWords 52 = .ok (.invokestatic 70, 3) := by decide +kernel
theorem dSl_writeWords_55 : decode cSl_writeWords 55 = .ok (.invokevirtual 107, 3) := by decide +kernel
theorem dSl_writeWords_58 : decode cSl_writeWords 58 = .ok (.iinc 4 1, 3) := by decide +kernel
theorem dSl_writeWords_61 : decode cSl_writeWords 61 = .ok (.goto (-27), 3) := by decide +kernel
theorem dSl_writeWords_64 : decode cSl_writeWords 64 = .ok (.aload_n 2, 1) := by decide +kernel
theorem dSl_writeWords_65 : decode cSl_writeWords 65 = .ok (.invokevirtual 97, 3) := by decide +kernel
theorem dSl_writeWords_68 : decode cSl_writeWords 68 = .ok (.return_, 1) := by decide +kernel
theorem dSl_writeAnswer_0 : decode cSl_writeAnswer 0 = .ok (.aload_n 1, 1) := by decide +kernel
theorem dSl_writeAnswer_1 : decode cSl_writeAnswer 1 = .ok (.invokevirtual 50, 3) := by decide +kernel
theorem dSl_writeAnswer_4 : decode cSl_writeAnswer 4 = .ok (.istore 4, 2) := by decide +kernel
theorem dSl_writeAnswer_6 : decode cSl_writeAnswer 6 = .ok (.iload 4, 2) := by decide +kernel
theorem dSl_writeAnswer_8 : decode cSl_writeAnswer 8 = .ok (.ifCond .eq 30, 3) := by decide +kernel
theorem dSl_writeAnswer_11 : decode cSl_writeAnswer 11 = .ok (.aload_n 3, 1) := by decide +kernel
theorem dSl_writeAnswer_12 : decode cSl_writeAnswer 12 = .ok (.aload_n 1, 1) := by decide +kernel
theorem dSl_writeAnswer_13 : decode cSl_writeAnswer 13 = .ok (.getfield 41, 3) := by decide +kernel
theorem dSl_writeAnswer_16 : decode cSl_writeAnswer 16 = .ok (.aload_n 1, 1) := by decide +kernel
theorem dSl_writeAnswer_17 : decode cSl_writeAnswer 17 = .ok (.getfield 47, 3) := by decide +kernel
theorem dSl_writeAnswer_20 : decode cSl_writeAnswer 20 = .ok (.sipush 128, 3) := by decide +kernel
theorem dSl_writeAnswer_23 : decode cSl_writeAnswer 23 = .ok (.iadd, 1) := by decide +kernel
theorem dSl_writeAnswer_24 : decode cSl_writeAnswer 24 = .ok (.invokevirtual 88, 3) := by decide +kernel
theorem dSl_writeAnswer_27 : decode cSl_writeAnswer 27 = .ok (.aload_n 3, 1) := by decide +kernel
theorem dSl_writeAnswer_28 : decode cSl_writeAnswer 28 = .ok (.iload 4, 2) := by decide +kernel
theorem dSl_writeAnswer_30 : decode cSl_writeAnswer 30 = .ok (.invokevirtual 94, 3) := by decide +kernel
theorem dSl_writeAnswer_33 : decode cSl_writeAnswer 33 = .ok (.aload_n 3, 1) := by decide +kernel
theorem dSl_writeAnswer_34 : decode cSl_writeAnswer 34 = .ok (.invokevirtual 97, 3) := by decide +kernel
theorem dSl_writeAnswer_37 : decode cSl_writeAnswer 37 = .ok (.return_, 1) := by decide +kernel
theorem dSl_writeAnswer_38 : decode cSl_writeAnswer 38 = .ok (.aload_n 1, 1) := by decide +kernel
theorem dSl_writeAnswer_39 : decode cSl_writeAnswer 39 = .ok (.getfield 47, 3) := by decide +kernel
theorem dSl_writeAnswer_42 : decode cSl_writeAnswer 42 = .ok (.tableswitch 131 1 16 #[78, 78, 87, 87, 131, 131, 131, 131, 131, 131, 131, 131, 131, 131, 96, 96], 78) := by decide +kernel
theorem dSl_writeAnswer_120 : decode cSl_writeAnswer 120 = .ok (.aload_n 0, 1) := by decide +kernel
theorem dSl_writeAnswer_121 : decode cSl_writeAnswer 121 = .ok (.aload_n 1, 1) := by decide +kernel
theorem dSl_writeAnswer_122 : decode cSl_writeAnswer 122 = .ok (.aload_n 3, 1) := by decide +kernel
theorem dSl_writeAnswer_123 : decode cSl_writeAnswer 123 = .ok (.invokevirtual 100, 3) := by decide +kernel
theorem dSl_writeAnswer_126 : decode cSl_writeAnswer 126 = .ok (.goto 52, 3) := by decide +kernel
theorem dSl_writeAnswer_129 : decode cSl_writeAnswer 129 = .ok (.aload_n 0, 1) := by decide +kernel
theorem dSl_writeAnswer_130 : decode cSl_writeAnswer 130 = .ok (.aload_n 1, 1) := by decide +kernel
theorem dSl_writeAnswer_131 : decode cSl_writeAnswer 131 = .ok (.aload_n 3, 1) := by decide +kernel
theorem dSl_writeAnswer_132 : decode cSl_writeAnswer 132 = .ok (.invokevirtual 104, 3) := by decide +kernel
theorem dSl_writeAnswer_135 : decode cSl_writeAnswer 135 = .ok (.goto 43, 3) := by decide +kernel
theorem dSl_writeAnswer_138 : decode cSl_writeAnswer 138 = .ok (.aload_n 3, 1) := by decide +kernel
theorem dSl_writeAnswer_139 : decode cSl_writeAnswer 139 = .ok (.aload_n 1, 1) := by decide +kernel
theorem dSl_writeAnswer_140 : decode cSl_writeAnswer 140 = .ok (.getfield 41, 3) := by decide +kernel
theorem dSl_writeAnswer_143 : decode cSl_writeAnswer 143 = .ok (.aload_n 1, 1) := by decide +kernel
theorem dSl_writeAnswer_144 : decode cSl_writeAnswer 144 = .ok (.getfield 47, 3) := by decide +kernel
theorem dSl_writeAnswer_147 : decode cSl_writeAnswer 147 = .ok (.invokevirtual 88, 3) := by decide +kernel
theorem dSl_writeAnswer_150 : decode cSl_writeAnswer 150 = .ok (.aload_n 3, 1) := by decide +kernel
theorem dSl_writeAnswer_151 : decode cSl_writeAnswer 151 = .ok (.aload_n 1, 1) := by decide +kernel
theorem dSl_writeAnswer_152 : decode cSl_writeAnswer 152 = .ok (.getfield 58, 3) := by decide +kernel
theorem dSl_writeAnswer_155 : decode cSl_writeAnswer 155 = .ok (.invokevirtual 107, 3) := by decide +kernel
theorem dSl_writeAnswer_158 : decode cSl_writeAnswer 158 = .ok (.aload_n 3, 1) := by decide +kernel
theorem dSl_writeAnswer_159 : decode cSl_writeAnswer 159 = .ok (.aload_n 1, 1) := by decide +kernel
theorem dSl_writeAnswer_160 : decode cSl_writeAnswer 160 = .ok (.getfield 78, 3) := by decide +kernel
theorem dSl_writeAnswer_163 : decode cSl_writeAnswer 163 = .ok (.invokevirtual 107, 3) := by decide +kernel
theorem dSl_writeAnswer_166 : decode cSl_writeAnswer 166 = .ok (.aload_n 3, 1) := by decide +kernel
theorem dSl_writeAnswer_167 : decode cSl_writeAnswer 167 = .ok (.invokevirtual 97, 3) := by decide +kernel
theorem dSl_writeAnswer_170 : decode cSl_writeAnswer 170 = .ok (.goto 8, 3) := by decide +kernel
theorem dSl_writeAnswer_173 : decode cSl_writeAnswer 173 = .ok (.aload_n 3, 1) := by decide +kernel
theorem dSl_writeAnswer_174 : decode cSl_writeAnswer 174 = .ok (.aload_n 2, 1) := by decide +kernel
theorem dSl_writeAnswer_175 : decode cSl_writeAnswer 175 = .ok (.invokevirtual 110, 3) := by decide +kernel
theorem dSl_writeAnswer_178 : decode cSl_writeAnswer 178 = .ok (.return_, 1) := by decide +kernel
def fSl_init (t0 : Nat) (t1 : Int32) (S : Ws) : Option (Ws) :=
  (pV (S.add (.inl (0, 16, .inl (fun _ => 0)))) t0 [5] 1 (.ref S.1)).bind fun S1 => (pV (S1.add (.inl (0, 16, .inl (fun _ => 0)))) t0 [5] 2 (.ref S1.1)).bind fun S2 => (pV (S2.add (.inl (0, 8, .inl (fun _ => 0)))) t0 [5] 3 (.ref S2.1)).bind fun S3 => (pV (S3.add (.inl (0, 8, .inl (fun _ => 0)))) t0 [5] 4 (.ref S3.1)).bind fun S4 => (pV S4 t0 [5] 5 (.int (-1 : Int32))).bind fun S5 => (bz (1 : Int32)).bind fun z7 => (pV S5 t0 [5] 7 (.int (1 : Int32))).bind fun S6 => (pV S6 t0 [5] 0 (.int t1)).bind fun S8 => some S8
set_option maxRecDepth 100000 in
set_option maxHeartbeats 4000000 in
theorem kSl_init (l : Launch) (D : va_G) (tc : Nat → ClassId) (b : Nat) (t0 : Nat) (t1 : Int32) (S Sz : Ws) (h : fSl_init t0 t1 S = some Sz) : Met l ySl_init wsSl_init { frames := 1, cells := 4, slots := 48, locals := 40 } (va_Pc [.ref t0, .int t1] (Wp D vwCl (hTy tc) b S)) (va_Qv (fun _ : Unit => True) (fun _ => Wp D vwCl (hTy tc) b Sz) (fun q => b ≤ q)) 4 48 (fun q => b ≤ q) := by
  refine hq_ofW (cc := cSl_init) (maxL := 2) (ret := none) (by decide) rfl (Nat.le_of_ble_eq_true rfl) fun p e s m args below meth c hx hb hr hts hown hlocks hnm hml H locs ls hl hW => ?_
  have hts : ∀ w ∈ lwG, w.before args s = true := fun w h => hts w (List.mem_cons_of_mem _ h)
  have hown : s.vm.findClass "SerialPlant$Slave" = some m.cls := hown
  have hl : lv_has ls 2 [(0, .ref t0), (1, .int t1)] := hl
  unfold fSl_init at h
  refine lv_aload_n hx hb dSl_init_0 rfl (lv_at hl 0 rfl) ?_
  refine W.objInit hx hb hown (hts _ w_25) (hts _ w_17) (hts _ w_oi) rfl (by rw [hml]; exact hl.1) rfl dSl_init_1 (Nat.le_of_ble_eq_true rfl) (Nat.le_of_ble_eq_true rfl) ?_
  refine W.eq (g2 := F0 m 4 ls []) rfl ?_
  refine lv_aload_n hx hb dSl_init_4 rfl (lv_at hl 0 rfl) ?_
  refine lv_bipush hx hb dSl_init_5 (v := (16 : Int32)) rfl ?_
  refine hq_newa (atype := .int) (ty := .int) (N := 16) (a0 := .inl (fun _ => 0)) (ce := 1) (sl := 16) hx hb (hts _ w_56) rfl (fun _ h => by cases h) hW 0 rfl (fun _ => rfl) (by decide) rfl (by decide) rfl rfl (Nat.le_of_ble_eq_true rfl) (Nat.le_of_ble_eq_true rfl) dSl_init_7 (fun H hW => ?_)
  replace h := ob h; obtain ⟨S1, eS1, h⟩ := h
  refine hq_put hx hb hts hown hW eS1 (F_Sl_9 hts) (P_Sl_Sl_1 hnm) rfl rfl dSl_init_9 (fun H locs hW => ?_)
  refine lv_aload_n hx hb dSl_init_12 rfl (lv_at hl 0 rfl) ?_
  refine lv_bipush hx hb dSl_init_13 (v := (16 : Int32)) rfl ?_
  refine hq_newa (atype := .int) (ty := .int) (N := 16) (a0 := .inl (fun _ => 0)) (ce := 2) (sl := 32) hx hb (hts _ w_56) rfl (fun _ h => by cases h) hW 0 rfl (fun _ => rfl) (by decide) rfl (by decide) rfl rfl (Nat.le_of_ble_eq_true rfl) (Nat.le_of_ble_eq_true rfl) dSl_init_15 (fun H hW => ?_)
  replace h := ob h; obtain ⟨S2, eS2, h⟩ := h
  refine hq_put hx hb hts hown hW eS2 (F_Sl_15 hts) (P_Sl_Sl_2 hnm) rfl rfl dSl_init_17 (fun H locs hW => ?_)
  refine lv_aload_n hx hb dSl_init_20 rfl (lv_at hl 0 rfl) ?_
  refine lv_bipush hx hb dSl_init_21 (v := (8 : Int32)) rfl ?_
  refine hq_newa (atype := .int) (ty := .int) (N := 8) (a0 := .inl (fun _ => 0)) (ce := 3) (sl := 40) hx hb (hts _ w_56) rfl (fun _ h => by cases h) hW 0 rfl (fun _ => rfl) (by decide) rfl (by decide) rfl rfl (Nat.le_of_ble_eq_true rfl) (Nat.le_of_ble_eq_true rfl) dSl_init_23 (fun H hW => ?_)
  replace h := ob h; obtain ⟨S3, eS3, h⟩ := h
  refine hq_put hx hb hts hown hW eS3 (F_Sl_18 hts) (P_Sl_Sl_3 hnm) rfl rfl dSl_init_25 (fun H locs hW => ?_)
  refine lv_aload_n hx hb dSl_init_28 rfl (lv_at hl 0 rfl) ?_
  refine lv_bipush hx hb dSl_init_29 (v := (8 : Int32)) rfl ?_
  refine hq_newa (atype := .int) (ty := .int) (N := 8) (a0 := .inl (fun _ => 0)) (ce := 4) (sl := 48) hx hb (hts _ w_56) rfl (fun _ h => by cases h) hW 0 rfl (fun _ => rfl) (by decide) rfl (by decide) rfl rfl (Nat.le_of_ble_eq_true rfl) (Nat.le_of_ble_eq_true rfl) dSl_init_31 (fun H hW => ?_)
  replace h := ob h; obtain ⟨S4, eS4, h⟩ := h
  refine hq_put hx hb hts hown hW eS4 (F_Sl_21 hts) (P_Sl_Sl_4 hnm) rfl rfl dSl_init_33 (fun H locs hW => ?_)
  refine lv_aload_n hx hb dSl_init_36 rfl (lv_at hl 0 rfl) ?_
  refine lv_iconst hx hb dSl_init_37 (v := (-1 : Int32)) rfl ?_
  replace h := ob h; obtain ⟨S5, eS5, h⟩ := h
  refine hq_put hx hb hts hown hW eS5 (F_Sl_24 hts) P_Sl_Sl_5 rfl rfl dSl_init_38 (fun H locs hW => ?_)
  refine lv_aload_n hx hb dSl_init_41 rfl (lv_at hl 0 rfl) ?_
  refine lv_iconst hx hb dSl_init_42 (v := (1 : Int32)) rfl ?_
  replace h := ob h; obtain ⟨z7, ez7, h⟩ := h
  replace h := ob h; obtain ⟨S6, eS6, h⟩ := h
  refine hq_put hx hb hts hown hW eS6 (F_Sl_28 hts) P_Sl_Sl_7 (bz_nar (bz_some ez7).2) (bz_fits (bz_some ez7).2) dSl_init_43 (fun H locs hW => ?_)
  refine lv_aload_n hx hb dSl_init_46 rfl (lv_at hl 0 rfl) ?_
  refine lv_iload_n hx hb dSl_init_47 rfl (lv_at hl 1 rfl) ?_
  replace h := ob h; obtain ⟨S8, eS8, h⟩ := h
  refine hq_put hx hb hts hown hW eS8 (F_Sl_32 hts) (P_Sl_Sl_0 hnm) rfl rfl dSl_init_48 (fun H locs hW => ?_)
  exact hq_vret hx hb hr hlocks h (Nat.le_of_ble_eq_true rfl) (Nat.le_of_ble_eq_true rfl) hW dSl_init_51
def fSl_isAttached (t0 : Nat) (S : Ws) : Option (Int32 × Ws) :=
  (gI S t0 [5] 5).bind fun v1 => if v1 = (-1 : Int32) then (bz (0 : Int32)).bind fun z2 => some ((0 : Int32), S) else (bz (1 : Int32)).bind fun z3 => some ((1 : Int32), S)
set_option maxRecDepth 100000 in
set_option maxHeartbeats 4000000 in
theorem kSl_isAttached (l : Launch) (D : va_G) (tc : Nat → ClassId) (b : Nat) (t0 : Nat) (S Sz : Ws) (rr : Int32) (h : fSl_isAttached t0 S = some (rr, Sz)) : Met l ySl_isAttached wsSl_isAttached { frames := 1, cells := 0, slots := 0, locals := 40 } (va_Pc [.ref t0] (Wp D vwCl (hTy tc) b S)) (va_Qi (fun x (_ : Unit) => x = rr) (fun _ => Wp D vwCl (hTy tc) b Sz) (fun q => b ≤ q)) 0 0 (fun q => b ≤ q) := by
  refine hq_ofW (cc := cSl_isAttached) (maxL := 1) (ret := (some .boolean)) (by decide) rfl (Nat.le_of_ble_eq_true rfl) fun p e s m args below meth c hx hb hr hts hown hlocks hnm hml H locs ls hl hW => ?_
  have hts : ∀ w ∈ lwG, w.before args s = true := fun w h => hts w (List.mem_cons_of_mem _ h)
  have hown : s.vm.findClass "SerialPlant$Slave" = some m.cls := hown
  have hl : lv_has ls 1 [(0, .ref t0)] := hl
  unfold fSl_isAttached at h
  refine lv_aload_n hx hb dSl_isAttached_0 rfl (lv_at hl 0 rfl) ?_
  replace h := ob h; obtain ⟨v1, ev1, h⟩ := h
  refine hq_get hx hb hts hown hW (gI_V ev1) (F_Sl_24 hts) dSl_isAttached_1 ?_
  refine lv_iconst hx hb dSl_isAttached_4 (v := (-1 : Int32)) rfl ?_
  refine lv_icmp_eq hx hb dSl_isAttached_5 (tgt := 12) rfl (fun hc4 => ?_) (fun hc4 => ?_)
  · replace h := if_t hc4 h
    refine lv_iconst hx hb dSl_isAttached_12 (v := (0 : Int32)) rfl ?_
    replace h := ob h; obtain ⟨z2, ez2, h⟩ := h
    exact hq_zret hx hb hr hlocks (bz_some ez2).2 h (Nat.le_of_ble_eq_true rfl) (Nat.le_of_ble_eq_true rfl) hW dSl_isAttached_13
  · replace h := if_f hc4 h
    refine lv_iconst hx hb dSl_isAttached_8 (v := (1 : Int32)) rfl ?_
    refine lv_goto hx hb dSl_isAttached_9 (tgt := 13) rfl ?_
    replace h := ob h; obtain ⟨z3, ez3, h⟩ := h
    exact hq_zret hx hb hr hlocks (bz_some ez3).2 h (Nat.le_of_ble_eq_true rfl) (Nat.le_of_ble_eq_true rfl) hW dSl_isAttached_13
def fSl_tableOf (t0 : Nat) (t1 : Int32) (S : Ws) : Option (Option Nat × Ws) :=
  if t1 = 1 then (gR S t0 [5] 1).bind fun r2 => some (r2, S) else if t1 = 2 then (gR S t0 [5] 2).bind fun r4 => some (r4, S) else if t1 = 3 then (gR S t0 [5] 3).bind fun r6 => some (r6, S) else (gR S t0 [5] 4).bind fun r7 => some (r7, S)
set_option maxRecDepth 100000 in
set_option maxHeartbeats 4000000 in
theorem kSl_tableOf (l : Launch) (D : va_G) (tc : Nat → ClassId) (b : Nat) (t0 : Nat) (t1 : Int32) (S Sz : Ws) (rr : Option Nat) (h : fSl_tableOf t0 t1 S = some (rr, Sz)) : Met l ySl_tableOf wsSl_tableOf { frames := 1, cells := 0, slots := 0, locals := 40 } (va_Pc [.ref t0, .int t1] (Wp D vwCl (hTy tc) b S)) (va_Qq (fun x (_ : Unit) => x = rr) (fun _ => Wp D vwCl (hTy tc) b Sz) (fun q => b ≤ q)) 0 0 (fun q => b ≤ q) := by
  refine hq_ofW (cc := cSl_tableOf) (maxL := 2) (ret := (some (.array .int))) (by decide) rfl (Nat.le_of_ble_eq_true rfl) fun p e s m args below meth c hx hb hr hts hown hlocks hnm hml H locs ls hl hW => ?_
  have hts : ∀ w ∈ lwG, w.before args s = true := fun w h => hts w (List.mem_cons_of_mem _ h)
  have hown : s.vm.findClass "SerialPlant$Slave" = some m.cls := hown
  have hl : lv_has ls 2 [(0, .ref t0), (1, .int t1)] := hl
  unfold fSl_tableOf at h
  refine lv_iload_n hx hb dSl_tableOf_0 rfl (lv_at hl 1 rfl) ?_
  by_cases hc1 : t1 = 1
  · replace h := if_t hc1 h
    refine lv_tableIn hx hb dSl_tableOf_1 (tgt := 28) (by rw [hc1]; decide) (by rw [hc1]; decide) (by rw [hc1] <;> rfl) rfl ?_
    refine lv_aload_n hx hb dSl_tableOf_28 rfl (lv_at hl 0 rfl) ?_
    replace h := ob h; obtain ⟨r2, er2, h⟩ := h
    refine hq_get hx hb hts hown hW (gR_V er2) (F_Sl_9 hts) dSl_tableOf_29 ?_
    exact hq_aret (v := r2) hx hb hr hlocks (by first | exact Or.inl ⟨_, rfl⟩ | exact Or.inr ⟨_, rfl⟩) h (Nat.le_of_ble_eq_true rfl) (Nat.le_of_ble_eq_true rfl) hW dSl_tableOf_32
  · replace h := if_f hc1 h
    have hc1n0 := hc1
    by_cases hc3 : t1 = 2
    · replace h := if_t hc3 h
      refine lv_tableIn hx hb dSl_tableOf_1 (tgt := 33) (by rw [hc3]; decide) (by rw [hc3]; decide) (by rw [hc3] <;> rfl) rfl ?_
      refine lv_aload_n hx hb dSl_tableOf_33 rfl (lv_at hl 0 rfl) ?_
      replace h := ob h; obtain ⟨r4, er4, h⟩ := h
      refine hq_get hx hb hts hown hW (gR_V er4) (F_Sl_15 hts) dSl_tableOf_34 ?_
      exact hq_aret (v := r4) hx hb hr hlocks (by first | exact Or.inl ⟨_, rfl⟩ | exact Or.inr ⟨_, rfl⟩) h (Nat.le_of_ble_eq_true rfl) (Nat.le_of_ble_eq_true rfl) hW dSl_tableOf_37
    · replace h := if_f hc3 h
      have hc3n0 := hc3
      by_cases hc5 : t1 = 3
      · replace h := if_t hc5 h
        refine lv_tableIn hx hb dSl_tableOf_1 (tgt := 38) (by rw [hc5]; decide) (by rw [hc5]; decide) (by rw [hc5] <;> rfl) rfl ?_
        refine lv_aload_n hx hb dSl_tableOf_38 rfl (lv_at hl 0 rfl) ?_
        replace h := ob h; obtain ⟨r6, er6, h⟩ := h
        refine hq_get hx hb hts hown hW (gR_V er6) (F_Sl_18 hts) dSl_tableOf_39 ?_
        exact hq_aret (v := r6) hx hb hr hlocks (by first | exact Or.inl ⟨_, rfl⟩ | exact Or.inr ⟨_, rfl⟩) h (Nat.le_of_ble_eq_true rfl) (Nat.le_of_ble_eq_true rfl) hW dSl_tableOf_42
      · replace h := if_f hc5 h
        have hc5n0 := hc5
        refine lv_tableOut hx hb dSl_tableOf_1 (tgt := 43) (by have g0 := lv_neT hc1n0 (a := 1) rfl; have g1 := lv_neT hc3n0 (a := 2) rfl; have g2 := lv_neT hc5n0 (a := 3) rfl; omega) rfl ?_
        refine lv_aload_n hx hb dSl_tableOf_43 rfl (lv_at hl 0 rfl) ?_
        replace h := ob h; obtain ⟨r7, er7, h⟩ := h
        refine hq_get hx hb hts hown hW (gR_V er7) (F_Sl_21 hts) dSl_tableOf_44 ?_
        exact hq_aret (v := r7) hx hb hr hlocks (by first | exact Or.inl ⟨_, rfl⟩ | exact Or.inr ⟨_, rfl⟩) h (Nat.le_of_ble_eq_true rfl) (Nat.le_of_ble_eq_true rfl) hW dSl_tableOf_47
def fSl_isMeantBy (t0 : Nat) (t1 : Nat) (S : Ws) : Option (Int32 × Ws) :=
  (gO S t1 [3, 4]).bind fun q3 => (fJo_isBroadcast t1 S).bind fun (v2, S1) => if v2 = 0 then (gI S1 t1 [3, 4] 1).bind fun v6 => (gI S1 t0 [5] 0).bind fun v7 => if v6 = v7 then (bz (1 : Int32)).bind fun z9 => some ((1 : Int32), S1) else (bz (0 : Int32)).bind fun z8 => some ((0 : Int32), S1) else (bz (1 : Int32)).bind fun z5 => some ((1 : Int32), S1)
set_option maxRecDepth 100000 in
set_option maxHeartbeats 4000000 in
theorem kSl_isMeantBy (l : Launch) (D : va_G) (tc : Nat → ClassId) (b : Nat) (t0 : Nat) (t1 : Nat) (S Sz : Ws) (rr : Int32) (h : fSl_isMeantBy t0 t1 S = some (rr, Sz)) : Met l ySl_isMeantBy wsSl_isMeantBy { frames := 2, cells := 0, slots := 0, locals := 80 } (va_Pc [.ref t0, .ref t1] (Wp D vwCl (hTy tc) b S)) (va_Qi (fun x (_ : Unit) => x = rr) (fun _ => Wp D vwCl (hTy tc) b Sz) (fun q => b ≤ q)) 0 0 (fun q => b ≤ q) := by
  refine hq_ofW (cc := cSl_isMeantBy) (maxL := 2) (ret := (some .boolean)) (by decide) rfl (Nat.le_of_ble_eq_true rfl) fun p e s m args below meth c hx hb hr hts hown hlocks hnm hml H locs ls hl hW => ?_
  have hts : ∀ w ∈ lwG, w.before args s = true := fun w h => hts w (List.mem_cons_of_mem _ h)
  have hown : s.vm.findClass "SerialPlant$Slave" = some m.cls := hown
  have hl : lv_has ls 2 [(0, .ref t0), (1, .ref t1)] := hl
  unfold fSl_isMeantBy at h
  refine lv_aload_n hx hb dSl_isMeantBy_0 rfl (lv_at hl 1 rfl) ?_
  replace h := ob h; obtain ⟨q3, eq3, h⟩ := h
  replace h := ob h; obtain ⟨⟨v2, S1⟩, eS1, h⟩ := h
  have hR4 : va_Run p l e { frames := 2, cells := 0, slots := 0, locals := 80 } s m args below meth c H locs 0 0 0 0 (F0 m 1 ls [.ref t1]) [] (va_Qi (fun x (_ : Unit) => x = v2) (fun _ => Wp D vwCl (hTy tc) b S1) (fun q => b ≤ q) (.ref t1 :: []).toArray) (fun q => b ≤ q) := by
    rcases mem2 (gO_some eq3).2 with hq | hq
    · exact va_runU (As := []) (rest := []) ⟨hx, hb, hml, hown, hts⟩ (kJo_isBroadcast l D tc b t1 S _ _ eS1) (va_cwU 0 hts GU_Sl_35_Po rfl rfl rfl rfl hd_Jo_isBroadcast_U ⟨Nat.le_of_ble_eq_true rfl, Nat.le_of_ble_eq_true rfl⟩) (hq_preV hW (gO_some eq3).1 (by rw [hq]; rfl) rfl) rfl rfl hl.1 rfl (lv_room (by first | exact Nat.le_of_ble_eq_true rfl | (simp only [List.map, rf_cat]; exact Nat.le_of_ble_eq_true rfl))) dSl_isMeantBy_1 ⟨Nat.le_of_ble_eq_true rfl, Nat.le_of_ble_eq_true rfl⟩
    · exact va_runU (As := []) (rest := []) ⟨hx, hb, hml, hown, hts⟩ (kJo_isBroadcast l D tc b t1 S _ _ eS1) (va_cwU 0 hts GU_Sl_35_Re rfl rfl rfl rfl hd_Jo_isBroadcast_U ⟨Nat.le_of_ble_eq_true rfl, Nat.le_of_ble_eq_true rfl⟩) (hq_preV hW (gO_some eq3).1 (by rw [hq]; rfl) rfl) rfl rfl hl.1 rfl (lv_room (by first | exact Nat.le_of_ble_eq_true rfl | (simp only [List.map, rf_cat]; exact Nat.le_of_ble_eq_true rfl))) dSl_isMeantBy_1 ⟨Nat.le_of_ble_eq_true rfl, Nat.le_of_ble_eq_true rfl⟩
  refine hq_calli (ce := 0) (sl := 0) (hR4) hW rfl rfl (fun H locs hW => ?_)
  refine lv_if_ne hx hb dSl_isMeantBy_4 (tgt := 18) rfl (fun hc11 => ?_) (fun hc11 => ?_)
  · replace h := if_f hc11 h
    refine lv_iconst hx hb dSl_isMeantBy_18 (v := (1 : Int32)) rfl ?_
    refine lv_goto hx hb dSl_isMeantBy_19 (tgt := 23) rfl ?_
    replace h := ob h; obtain ⟨z5, ez5, h⟩ := h
    exact hq_zret hx hb hr hlocks (bz_some ez5).2 h (Nat.le_of_ble_eq_true rfl) (Nat.le_of_ble_eq_true rfl) hW dSl_isMeantBy_23
  · replace h := if_t hc11 h
    refine lv_aload_n hx hb dSl_isMeantBy_7 rfl (lv_at hl 1 rfl) ?_
    replace h := ob h; obtain ⟨v6, ev6, h⟩ := h
    refine hq_get hx hb hts hown hW (gI_V ev6) (F_Sl_41 hts) dSl_isMeantBy_8 ?_
    refine lv_aload_n hx hb dSl_isMeantBy_11 rfl (lv_at hl 0 rfl) ?_
    replace h := ob h; obtain ⟨v7, ev7, h⟩ := h
    refine hq_get hx hb hts hown hW (gI_V ev7) (F_Sl_32 hts) dSl_isMeantBy_12 ?_
    refine lv_icmp_ne hx hb dSl_isMeantBy_15 (tgt := 22) rfl (fun hc10 => ?_) (fun hc10 => ?_)
    · replace h := if_f hc10 h
      refine lv_iconst hx hb dSl_isMeantBy_22 (v := (0 : Int32)) rfl ?_
      replace h := ob h; obtain ⟨z8, ez8, h⟩ := h
      exact hq_zret hx hb hr hlocks (bz_some ez8).2 h (Nat.le_of_ble_eq_true rfl) (Nat.le_of_ble_eq_true rfl) hW dSl_isMeantBy_23
    · replace h := if_t hc10 h
      refine lv_iconst hx hb dSl_isMeantBy_18 (v := (1 : Int32)) rfl ?_
      refine lv_goto hx hb dSl_isMeantBy_19 (tgt := 23) rfl ?_
      replace h := ob h; obtain ⟨z9, ez9, h⟩ := h
      exact hq_zret hx hb hr hlocks (bz_some ez9).2 h (Nat.le_of_ble_eq_true rfl) (Nat.le_of_ble_eq_true rfl) hW dSl_isMeantBy_23
def fSl_put (t0 : Nat) (t1 : Int32) (t2 : Int32) (S : Ws) : Option (Ws) :=
  if t1 < 0 then some S else (aN S t0 0).bind fun v1 => if v1 ≤ t1 then some S else (sI S t0 0 t1 t2).bind fun S2 => some S2
set_option maxRecDepth 100000 in
set_option maxHeartbeats 4000000 in
theorem kSl_put (l : Launch) (D : va_G) (tc : Nat → ClassId) (b : Nat) (t0 : Nat) (t1 : Int32) (t2 : Int32) (S Sz : Ws) (h : fSl_put t0 t1 t2 S = some Sz) : Met l ySl_put wsSl_put { frames := 1, cells := 0, slots := 0, locals := 40 } (va_Pc [.ref t0, .int t1, .int t2] (Wp D vwCl (hTy tc) b S)) (va_Qv (fun _ : Unit => True) (fun _ => Wp D vwCl (hTy tc) b Sz) (fun q => b ≤ q)) 0 0 (fun q => b ≤ q) := by
  refine hq_ofW (cc := cSl_put) (maxL := 3) (ret := none) (by decide) rfl (Nat.le_of_ble_eq_true rfl) fun p e s m args below meth c hx hb hr hts hown hlocks hnm hml H locs ls hl hW => ?_
  have hts : ∀ w ∈ lwG, w.before args s = true := fun w h => hts w (List.mem_cons_of_mem _ h)
  have hown : s.vm.findClass "SerialPlant$Slave" = some m.cls := hown
  have hl : lv_has ls 3 [(0, .ref t0), (1, .int t1), (2, .int t2)] := hl
  unfold fSl_put at h
  refine lv_iload_n hx hb dSl_put_0 rfl (lv_at hl 1 rfl) ?_
  refine lv_if_lt hx hb dSl_put_1 (tgt := 14) rfl (fun hc4 => ?_) (fun hc4 => ?_)
  · replace h := if_t hc4 h
    exact hq_vret hx hb hr hlocks h (Nat.le_of_ble_eq_true rfl) (Nat.le_of_ble_eq_true rfl) hW dSl_put_14
  · replace h := if_f hc4 h
    refine lv_iload_n hx hb dSl_put_4 rfl (lv_at hl 1 rfl) ?_
    refine lv_aload_n hx hb dSl_put_5 rfl (lv_at hl 0 rfl) ?_
    replace h := ob h; obtain ⟨v1, ev1, h⟩ := h
    refine hq_alen hx hb hW ev1 rfl dSl_put_6 ?_
    refine lv_icmp_ge hx hb dSl_put_7 (tgt := 14) rfl (fun hc3 => ?_) (fun hc3 => ?_)
    · replace h := if_t hc3 h
      exact hq_vret hx hb hr hlocks h (Nat.le_of_ble_eq_true rfl) (Nat.le_of_ble_eq_true rfl) hW dSl_put_14
    · replace h := if_f hc3 h
      refine lv_aload_n hx hb dSl_put_10 rfl (lv_at hl 0 rfl) ?_
      refine lv_iload_n hx hb dSl_put_11 rfl (lv_at hl 1 rfl) ?_
      refine lv_iload_n hx hb dSl_put_12 rfl (lv_at hl 2 rfl) ?_
      replace h := ob h; obtain ⟨S2, eS2, h⟩ := h
      refine hq_iast hx hb hW eS2 rfl dSl_put_13 (fun H locs hW => ?_)
      exact hq_vret hx hb hr hlocks h (Nat.le_of_ble_eq_true rfl) (Nat.le_of_ble_eq_true rfl) hW dSl_put_14
def fSl_get (t0 : Nat) (t1 : Int32) (S : Ws) : Option (Int32 × Ws) :=
  if t1 < 0 then some ((0 : Int32), S) else (aN S t0 0).bind fun v1 => if v1 ≤ t1 then some ((0 : Int32), S) else (aI S t0 0 t1).bind fun v2 => some (v2, S)
set_option maxRecDepth 100000 in
set_option maxHeartbeats 4000000 in
theorem kSl_get (l : Launch) (D : va_G) (tc : Nat → ClassId) (b : Nat) (t0 : Nat) (t1 : Int32) (S Sz : Ws) (rr : Int32) (h : fSl_get t0 t1 S = some (rr, Sz)) : Met l ySl_get wsSl_get { frames := 1, cells := 0, slots := 0, locals := 40 } (va_Pc [.ref t0, .int t1] (Wp D vwCl (hTy tc) b S)) (va_Qi (fun x (_ : Unit) => x = rr) (fun _ => Wp D vwCl (hTy tc) b Sz) (fun q => b ≤ q)) 0 0 (fun q => b ≤ q) := by
  refine hq_ofW (cc := cSl_get) (maxL := 2) (ret := (some .int)) (by decide) rfl (Nat.le_of_ble_eq_true rfl) fun p e s m args below meth c hx hb hr hts hown hlocks hnm hml H locs ls hl hW => ?_
  have hts : ∀ w ∈ lwG, w.before args s = true := fun w h => hts w (List.mem_cons_of_mem _ h)
  have hown : s.vm.findClass "SerialPlant$Slave" = some m.cls := hown
  have hl : lv_has ls 2 [(0, .ref t0), (1, .int t1)] := hl
  unfold fSl_get at h
  refine lv_iload_n hx hb dSl_get_0 rfl (lv_at hl 1 rfl) ?_
  refine lv_if_lt hx hb dSl_get_1 (tgt := 16) rfl (fun hc4 => ?_) (fun hc4 => ?_)
  · replace h := if_t hc4 h
    refine lv_iconst hx hb dSl_get_16 (v := (0 : Int32)) rfl ?_
    exact hq_iret hx hb hr hlocks h (Nat.le_of_ble_eq_true rfl) (Nat.le_of_ble_eq_true rfl) hW dSl_get_17
  · replace h := if_f hc4 h
    refine lv_iload_n hx hb dSl_get_4 rfl (lv_at hl 1 rfl) ?_
    refine lv_aload_n hx hb dSl_get_5 rfl (lv_at hl 0 rfl) ?_
    replace h := ob h; obtain ⟨v1, ev1, h⟩ := h
    refine hq_alen hx hb hW ev1 rfl dSl_get_6 ?_
    refine lv_icmp_ge hx hb dSl_get_7 (tgt := 16) rfl (fun hc3 => ?_) (fun hc3 => ?_)
    · replace h := if_t hc3 h
      refine lv_iconst hx hb dSl_get_16 (v := (0 : Int32)) rfl ?_
      exact hq_iret hx hb hr hlocks h (Nat.le_of_ble_eq_true rfl) (Nat.le_of_ble_eq_true rfl) hW dSl_get_17
    · replace h := if_f hc3 h
      refine lv_aload_n hx hb dSl_get_10 rfl (lv_at hl 0 rfl) ?_
      refine lv_iload_n hx hb dSl_get_11 rfl (lv_at hl 1 rfl) ?_
      replace h := ob h; obtain ⟨v2, ev2, h⟩ := h
      refine hq_iald hx hb hW ev2 rfl dSl_get_12 ?_
      refine lv_goto hx hb dSl_get_13 (tgt := 17) rfl ?_
      exact hq_iret hx hb hr hlocks h (Nat.le_of_ble_eq_true rfl) (Nat.le_of_ble_eq_true rfl) hW dSl_get_17
def fSl_masked (t0 : Int32) (t1 : Int32) (t2 : Int32) (S : Ws) : Option (Int32 × Ws) :=
  some ((t0 &&& t1) ||| (t2 &&& (t1 ^^^ (-1 : Int32))), S)
set_option maxRecDepth 100000 in
set_option maxHeartbeats 4000000 in
theorem kSl_masked (l : Launch) (D : va_G) (tc : Nat → ClassId) (b : Nat) (t0 : Int32) (t1 : Int32) (t2 : Int32) (S Sz : Ws) (rr : Int32) (h : fSl_masked t0 t1 t2 S = some (rr, Sz)) : Met l ySl_masked wsSl_masked { frames := 1, cells := 0, slots := 0, locals := 40 } (va_Pc [.int t0, .int t1, .int t2] (Wp D vwCl (hTy tc) b S)) (va_Qi (fun x (_ : Unit) => x = rr) (fun _ => Wp D vwCl (hTy tc) b Sz) (fun q => b ≤ q)) 0 0 (fun q => b ≤ q) := by
  refine hq_ofW (cc := cSl_masked) (maxL := 3) (ret := (some .int)) (by decide) rfl (Nat.le_of_ble_eq_true rfl) fun p e s m args below meth c hx hb hr hts hown hlocks hnm hml H locs ls hl hW => ?_
  have hts : ∀ w ∈ lwG, w.before args s = true := fun w h => hts w (List.mem_cons_of_mem _ h)
  have hown : s.vm.findClass "SerialPlant$Slave" = some m.cls := hown
  have hl : lv_has ls 3 [(0, .int t0), (1, .int t1), (2, .int t2)] := hl
  unfold fSl_masked at h
  refine lv_iload_n hx hb dSl_masked_0 rfl (lv_at hl 0 rfl) ?_
  refine lv_iload_n hx hb dSl_masked_1 rfl (lv_at hl 1 rfl) ?_
  refine lv_iand hx hb dSl_masked_2 ?_
  refine lv_iload_n hx hb dSl_masked_3 rfl (lv_at hl 2 rfl) ?_
  refine lv_iload_n hx hb dSl_masked_4 rfl (lv_at hl 1 rfl) ?_
  refine lv_iconst hx hb dSl_masked_5 (v := (-1 : Int32)) rfl ?_
  refine lv_ixor hx hb dSl_masked_6 ?_
  refine lv_iand hx hb dSl_masked_7 ?_
  refine lv_ior hx hb dSl_masked_8 ?_
  exact hq_iret hx hb hr hlocks h (Nat.le_of_ble_eq_true rfl) (Nat.le_of_ble_eq_true rfl) hW dSl_masked_9
def fSl_changeMode (t0 : Nat) (t1 : Int32) (S : Ws) : Option (Ws) :=
  if t1 = (1 : Int32) then (bz (0 : Int32)).bind fun z5 => (pV S t0 [5] 8 (.int (0 : Int32))).bind fun S4 => some S4 else if t1 = (4 : Int32) then (bz (1 : Int32)).bind fun z2 => (pV S t0 [5] 8 (.int (1 : Int32))).bind fun S1 => some S1 else some S
set_option maxRecDepth 100000 in
set_option maxHeartbeats 4000000 in
theorem kSl_changeMode (l : Launch) (D : va_G) (tc : Nat → ClassId) (b : Nat) (t0 : Nat) (t1 : Int32) (S Sz : Ws) (h : fSl_changeMode t0 t1 S = some Sz) : Met l ySl_changeMode wsSl_changeMode { frames := 1, cells := 0, slots := 0, locals := 40 } (va_Pc [.ref t0, .int t1] (Wp D vwCl (hTy tc) b S)) (va_Qv (fun _ : Unit => True) (fun _ => Wp D vwCl (hTy tc) b Sz) (fun q => b ≤ q)) 0 0 (fun q => b ≤ q) := by
  refine hq_ofW (cc := cSl_changeMode) (maxL := 2) (ret := none) (by decide) rfl (Nat.le_of_ble_eq_true rfl) fun p e s m args below meth c hx hb hr hts hown hlocks hnm hml H locs ls hl hW => ?_
  have hts : ∀ w ∈ lwG, w.before args s = true := fun w h => hts w (List.mem_cons_of_mem _ h)
  have hown : s.vm.findClass "SerialPlant$Slave" = some m.cls := hown
  have hl : lv_has ls 2 [(0, .ref t0), (1, .int t1)] := hl
  unfold fSl_changeMode at h
  refine lv_iload_n hx hb dSl_changeMode_0 rfl (lv_at hl 1 rfl) ?_
  refine lv_iconst hx hb dSl_changeMode_1 (v := (1 : Int32)) rfl ?_
  refine lv_icmp_ne hx hb dSl_changeMode_2 (tgt := 13) rfl (fun hc6 => ?_) (fun hc6 => ?_)
  · replace h := if_f hc6 h
    refine lv_iload_n hx hb dSl_changeMode_13 rfl (lv_at hl 1 rfl) ?_
    refine lv_iconst hx hb dSl_changeMode_14 (v := (4 : Int32)) rfl ?_
    refine lv_icmp_ne hx hb dSl_changeMode_15 (tgt := 23) rfl (fun hc3 => ?_) (fun hc3 => ?_)
    · replace h := if_f hc3 h
      exact hq_vret hx hb hr hlocks h (Nat.le_of_ble_eq_true rfl) (Nat.le_of_ble_eq_true rfl) hW dSl_changeMode_23
    · replace h := if_t hc3 h
      refine lv_aload_n hx hb dSl_changeMode_18 rfl (lv_at hl 0 rfl) ?_
      refine lv_iconst hx hb dSl_changeMode_19 (v := (1 : Int32)) rfl ?_
      replace h := ob h; obtain ⟨z2, ez2, h⟩ := h
      replace h := ob h; obtain ⟨S1, eS1, h⟩ := h
      refine hq_put hx hb hts hown hW eS1 (F_Sl_44 hts) P_Sl_Sl_8 (bz_nar (bz_some ez2).2) (bz_fits (bz_some ez2).2) dSl_changeMode_20 (fun H locs hW => ?_)
      exact hq_vret hx hb hr hlocks h (Nat.le_of_ble_eq_true rfl) (Nat.le_of_ble_eq_true rfl) hW dSl_changeMode_23
  · replace h := if_t hc6 h
    refine lv_aload_n hx hb dSl_changeMode_5 rfl (lv_at hl 0 rfl) ?_
    refine lv_iconst hx hb dSl_changeMode_6 (v := (0 : Int32)) rfl ?_
    replace h := ob h; obtain ⟨z5, ez5, h⟩ := h
    replace h := ob h; obtain ⟨S4, eS4, h⟩ := h
    refine hq_put hx hb hts hown hW eS4 (F_Sl_44 hts) P_Sl_Sl_8 (bz_nar (bz_some ez5).2) (bz_fits (bz_some ez5).2) dSl_changeMode_7 (fun H locs hW => ?_)
    refine lv_goto hx hb dSl_changeMode_10 (tgt := 23) rfl ?_
    exact hq_vret hx hb hr hlocks h (Nat.le_of_ble_eq_true rfl) (Nat.le_of_ble_eq_true rfl) hW dSl_changeMode_23
def fSl_carryOut_L180 (t0 : Nat) (t1 : Nat) : Int32 × Ws → Option ((Int32 × Ws) ⊕ (Ws)) :=
  fun (i30, S31) => (gI S31 t1 [3, 4] 4).bind fun v34 => if v34 ≤ i30 then some (.inr S31) else (gR S31 t0 [5] 1).bind fun r35 => (gI S31 t1 [3, 4] 3).bind fun v36 => (gO S31 t1 [3, 4]).bind fun q39 => (fJo_bit t1 i30 S31).bind fun (v38, S37) => (r35).bind fun a41 => (fSl_put a41 (v36 + i30) v38 S37).bind fun S42 => some (.inl (i30 + 1, S42))
def fSl_carryOut_L217 (t0 : Nat) (t1 : Nat) : Int32 × Ws → Option ((Int32 × Ws) ⊕ (Ws)) :=
  fun (i45, S46) => (gI S46 t1 [3, 4] 4).bind fun v49 => if v49 ≤ i45 then some (.inr S46) else (gR S46 t0 [5] 3).bind fun r50 => (gI S46 t1 [3, 4] 3).bind fun v51 => (gO S46 t1 [3, 4]).bind fun q54 => (fJo_word t1 i45 S46).bind fun (v53, S52) => (r50).bind fun a56 => (fSl_put a56 (v51 + i45) v53 S52).bind fun S57 => some (.inl (i45 + 1, S57))
def fSl_carryOut (t0 : Nat) (t1 : Nat) (S : Ws) : Option (Ws) :=
  (gI S t1 [3, 4] 2).bind fun v1 => if v1 = 5 then (gR S t0 [5] 1).bind fun r3 => (gI S t1 [3, 4] 3).bind fun v4 => (gO S t1 [3, 4]).bind fun q7 => (fJo_word t1 (0 : Int32) S).bind fun (v6, S5) => (if v6 = (65280 : Int32) then some (1 : Int32) else some (0 : Int32)).bind fun i9 => (r3).bind fun a12 => (fSl_put a12 v4 i9 S5).bind fun S13 => some S13 else if v1 = 6 then (gR S t0 [5] 3).bind fun r15 => (gI S t1 [3, 4] 3).bind fun v16 => (gO S t1 [3, 4]).bind fun q19 => (fJo_word t1 (0 : Int32) S).bind fun (v18, S17) => (r15).bind fun a21 => (fSl_put a21 v16 v18 S17).bind fun S22 => some S22 else if v1 = 7 ∨ v1 = 9 ∨ v1 = 10 ∨ v1 = 11 ∨ v1 = 12 ∨ v1 = 13 ∨ v1 = 14 ∨ v1 = 17 ∨ v1 = 18 ∨ v1 = 19 ∨ v1 = 20 ∨ v1 = 21 then some S else if v1 = 8 then (gI S t1 [3, 4] 3).bind fun v26 => (gO S t0 [5]).bind fun q28 => (fSl_changeMode t0 v26 S).bind fun S27 => some S27 else if v1 = 15 then (lp (fSl_carryOut_L180 t0 t1) 1000 ((0 : Int32), S)).bind fun S33 => some S33 else if v1 = 16 then (lp (fSl_carryOut_L217 t0 t1) 1000 ((0 : Int32), S)).bind fun S48 => some S48 else if v1 = 22 then (gR S t0 [5] 3).bind fun r60 => (gI S t1 [3, 4] 3).bind fun v61 => (gR S t0 [5] 3).bind fun r62 => (gI S t1 [3, 4] 3).bind fun v63 => (r62).bind fun a64 => (fSl_get a64 v63 S).bind fun (v66, S65) => (gO S65 t1 [3, 4]).bind fun q69 => (fJo_word t1 (0 : Int32) S65).bind fun (v68, S67) => (gO S67 t1 [3, 4]).bind fun q73 => (fJo_word t1 (1 : Int32) S67).bind fun (v72, S71) => (fSl_masked v66 v68 v72 S71).bind fun (v76, S75) => (r60).bind fun a77 => (fSl_put a77 v61 v76 S75).bind fun S78 => some S78 else some S
set_option maxRecDepth 100000 in
set_option maxHeartbeats 4000000 in
theorem kSl_carryOut (l : Launch) (D : va_G) (tc : Nat → ClassId) (b : Nat) (t0 : Nat) (t1 : Nat) (S Sz : Ws) (h : fSl_carryOut t0 t1 S = some Sz) : Met l ySl_carryOut wsSl_carryOut { frames := 2, cells := 0, slots := 0, locals := 80 } (va_Pc [.ref t0, .ref t1] (Wp D vwCl (hTy tc) b S)) (va_Qv (fun _ : Unit => True) (fun _ => Wp D vwCl (hTy tc) b Sz) (fun q => b ≤ q)) 0 0 (fun q => b ≤ q) := by
  refine hq_ofW (cc := cSl_carryOut) (maxL := 3) (ret := none) (by decide) rfl (Nat.le_of_ble_eq_true rfl) fun p e s m args below meth c hx hb hr hts hown hlocks hnm hml H locs ls hl hW => ?_
  have hts : ∀ w ∈ lwG, w.before args s = true := fun w h => hts w (List.mem_cons_of_mem _ h)
  have hown : s.vm.findClass "SerialPlant$Slave" = some m.cls := hown
  have hl : lv_has ls 3 [(0, .ref t0), (1, .ref t1)] := hl
  unfold fSl_carryOut at h
  refine lv_aload_n hx hb dSl_carryOut_0 rfl (lv_at hl 1 rfl) ?_
  replace h := ob h; obtain ⟨v1, ev1, h⟩ := h
  refine hq_get hx hb hts hown hW (gI_V ev1) (F_Sl_47 hts) dSl_carryOut_1 ?_
  by_cases hc2 : v1 = 5
  · replace h := if_t hc2 h
    refine lv_tableIn hx hb dSl_carryOut_4 (tgt := 92) (by rw [hc2]; decide) (by rw [hc2]; decide) (by rw [hc2] <;> rfl) rfl ?_
    refine lv_aload_n hx hb dSl_carryOut_92 rfl (lv_at hl 0 rfl) ?_
    replace h := ob h; obtain ⟨r3, er3, h⟩ := h
    refine hq_get hx hb hts hown hW (gR_V er3) (F_Sl_9 hts) dSl_carryOut_93 ?_
    refine lv_aload_n hx hb dSl_carryOut_96 rfl (lv_at hl 1 rfl) ?_
    replace h := ob h; obtain ⟨v4, ev4, h⟩ := h
    refine hq_get hx hb hts hown hW (gI_V ev4) (F_Sl_58 hts) dSl_carryOut_97 ?_
    refine lv_aload_n hx hb dSl_carryOut_100 rfl (lv_at hl 1 rfl) ?_
    refine lv_iconst hx hb dSl_carryOut_101 (v := (0 : Int32)) rfl ?_
    replace h := ob h; obtain ⟨q7, eq7, h⟩ := h
    replace h := ob h; obtain ⟨⟨v6, S5⟩, eS5, h⟩ := h
    have hR8 : va_Run p l e { frames := 2, cells := 0, slots := 0, locals := 80 } s m args below meth c H locs 0 0 0 0 (F0 m 102 ls [.int (0 : Int32), .ref t1, .int v4, va_rf r3]) [.int v4, va_rf r3] (va_Qi (fun x (_ : Unit) => x = v6) (fun _ => Wp D vwCl (hTy tc) b S5) (fun q => b ≤ q) (.ref t1 :: [.int (0 : Int32)]).toArray) (fun q => b ≤ q) := by
      rcases mem2 (gO_some eq7).2 with hq | hq
      · exact va_runU (As := [.int (0 : Int32)]) (rest := [.int v4, va_rf r3]) ⟨hx, hb, hml, hown, hts⟩ (kJo_word l D tc b t1 (0 : Int32) S _ _ eS5) (va_cwU 1 hts GU_Sl_61_Po rfl rfl rfl rfl hd_Jo_word_U ⟨Nat.le_of_ble_eq_true rfl, Nat.le_of_ble_eq_true rfl⟩) (hq_preV hW (gO_some eq7).1 (by rw [hq]; rfl) rfl) rfl rfl hl.1 rfl (lv_room (by first | exact Nat.le_of_ble_eq_true rfl | (simp only [List.map, rf_cat]; exact Nat.le_of_ble_eq_true rfl))) dSl_carryOut_102 ⟨Nat.le_of_ble_eq_true rfl, Nat.le_of_ble_eq_true rfl⟩
      · exact va_runU (As := [.int (0 : Int32)]) (rest := [.int v4, va_rf r3]) ⟨hx, hb, hml, hown, hts⟩ (kJo_word l D tc b t1 (0 : Int32) S _ _ eS5) (va_cwU 1 hts GU_Sl_61_Re rfl rfl rfl rfl hd_Jo_word_U ⟨Nat.le_of_ble_eq_true rfl, Nat.le_of_ble_eq_true rfl⟩) (hq_preV hW (gO_some eq7).1 (by rw [hq]; rfl) rfl) rfl rfl hl.1 rfl (lv_room (by first | exact Nat.le_of_ble_eq_true rfl | (simp only [List.map, rf_cat]; exact Nat.le_of_ble_eq_true rfl))) dSl_carryOut_102 ⟨Nat.le_of_ble_eq_true rfl, Nat.le_of_ble_eq_true rfl⟩
    refine hq_calli (ce := 0) (sl := 0) (hR8) hW rfl rfl (fun H locs hW => ?_)
    refine lv_ldc hx hb (v := (65280 : Int32)) hown (hts _ w_506) dSl_carryOut_105 ?_
    replace h := ob h; obtain ⟨q10, e115, h⟩ := h
    have hJ115 : ∀ q', q' = q10 → ∀ (H : Heap) (locs : List Loc) (ls : Array Slot), lv_has ls 3 [] → Wd D vwCl (hTy tc) b S5 s H locs → W p l e { frames := 2, cells := 0, slots := 0, locals := 80 } s m args below meth c H locs 0 0 (MQ below (va_Qv (fun _ : Unit => True) (fun _ => Wp D vwCl (hTy tc) b Sz) (fun q => b ≤ q)) args s 0 0 (fun q => b ≤ q)) (F0 m 115 ls [.int q', .int v4, va_rf r3]) := by
      intro i9 hq'; subst hq'
      intro H locs ls hl hW
      replace h := ob h; obtain ⟨a12, hra12, h⟩ := h
      subst hra12
      replace h := ob h; obtain ⟨S13, eS13, h⟩ := h
      refine hq_callv (ce := 0) (sl := 0) (va_runS (As := [.ref a12, .int v4, .int i9]) (rest := []) ⟨hx, hb, hml, hown, hts⟩ (kSl_put l D tc b a12 v4 i9 S5 _ eS13) (cwS 3 hts GS_Sl_66 rfl rfl rfl hd_Sl_put_S_Sl ⟨Nat.le_of_ble_eq_true rfl, Nat.le_of_ble_eq_true rfl⟩) (hq_preS hW) rfl rfl hl.1 rfl (lv_room (by first | exact Nat.le_of_ble_eq_true rfl | (simp only [List.map, rf_cat]; exact Nat.le_of_ble_eq_true rfl))) dSl_carryOut_115 ⟨Nat.le_of_ble_eq_true rfl, Nat.le_of_ble_eq_true rfl⟩) hW rfl rfl (fun H locs hW => ?_)
      refine lv_goto hx hb dSl_carryOut_118 (tgt := 263) rfl ?_
      exact hq_vret hx hb hr hlocks h (Nat.le_of_ble_eq_true rfl) (Nat.le_of_ble_eq_true rfl) hW dSl_carryOut_263
    clear h; have h := e115; clear e115
    refine lv_icmp_ne hx hb dSl_carryOut_107 (tgt := 114) rfl (fun hc11 => ?_) (fun hc11 => ?_)
    · replace h := if_f hc11 h
      refine lv_iconst hx hb dSl_carryOut_114 (v := (0 : Int32)) rfl ?_
      exact hJ115 _ (Option.some.inj h) _ _ _ (lv_sub hl [] rfl) hW
    · replace h := if_t hc11 h
      refine lv_iconst hx hb dSl_carryOut_110 (v := (1 : Int32)) rfl ?_
      refine lv_goto hx hb dSl_carryOut_111 (tgt := 115) rfl ?_
      exact hJ115 _ (Option.some.inj h) _ _ _ (lv_sub hl [] rfl) hW
  · replace h := if_f hc2 h
    have hc2n0 := hc2
    by_cases hc14 : v1 = 6
    · replace h := if_t hc14 h
      refine lv_tableIn hx hb dSl_carryOut_4 (tgt := 121) (by rw [hc14]; decide) (by rw [hc14]; decide) (by rw [hc14] <;> rfl) rfl ?_
      refine lv_aload_n hx hb dSl_carryOut_121 rfl (lv_at hl 0 rfl) ?_
      replace h := ob h; obtain ⟨r15, er15, h⟩ := h
      refine hq_get hx hb hts hown hW (gR_V er15) (F_Sl_18 hts) dSl_carryOut_122 ?_
      refine lv_aload_n hx hb dSl_carryOut_125 rfl (lv_at hl 1 rfl) ?_
      replace h := ob h; obtain ⟨v16, ev16, h⟩ := h
      refine hq_get hx hb hts hown hW (gI_V ev16) (F_Sl_58 hts) dSl_carryOut_126 ?_
      refine lv_aload_n hx hb dSl_carryOut_129 rfl (lv_at hl 1 rfl) ?_
      refine lv_iconst hx hb dSl_carryOut_130 (v := (0 : Int32)) rfl ?_
      replace h := ob h; obtain ⟨q19, eq19, h⟩ := h
      replace h := ob h; obtain ⟨⟨v18, S17⟩, eS17, h⟩ := h
      have hR20 : va_Run p l e { frames := 2, cells := 0, slots := 0, locals := 80 } s m args below meth c H locs 0 0 0 0 (F0 m 131 ls [.int (0 : Int32), .ref t1, .int v16, va_rf r15]) [.int v16, va_rf r15] (va_Qi (fun x (_ : Unit) => x = v18) (fun _ => Wp D vwCl (hTy tc) b S17) (fun q => b ≤ q) (.ref t1 :: [.int (0 : Int32)]).toArray) (fun q => b ≤ q) := by
        rcases mem2 (gO_some eq19).2 with hq | hq
        · exact va_runU (As := [.int (0 : Int32)]) (rest := [.int v16, va_rf r15]) ⟨hx, hb, hml, hown, hts⟩ (kJo_word l D tc b t1 (0 : Int32) S _ _ eS17) (va_cwU 1 hts GU_Sl_61_Po rfl rfl rfl rfl hd_Jo_word_U ⟨Nat.le_of_ble_eq_true rfl, Nat.le_of_ble_eq_true rfl⟩) (hq_preV hW (gO_some eq19).1 (by rw [hq]; rfl) rfl) rfl rfl hl.1 rfl (lv_room (by first | exact Nat.le_of_ble_eq_true rfl | (simp only [List.map, rf_cat]; exact Nat.le_of_ble_eq_true rfl))) dSl_carryOut_131 ⟨Nat.le_of_ble_eq_true rfl, Nat.le_of_ble_eq_true rfl⟩
        · exact va_runU (As := [.int (0 : Int32)]) (rest := [.int v16, va_rf r15]) ⟨hx, hb, hml, hown, hts⟩ (kJo_word l D tc b t1 (0 : Int32) S _ _ eS17) (va_cwU 1 hts GU_Sl_61_Re rfl rfl rfl rfl hd_Jo_word_U ⟨Nat.le_of_ble_eq_true rfl, Nat.le_of_ble_eq_true rfl⟩) (hq_preV hW (gO_some eq19).1 (by rw [hq]; rfl) rfl) rfl rfl hl.1 rfl (lv_room (by first | exact Nat.le_of_ble_eq_true rfl | (simp only [List.map, rf_cat]; exact Nat.le_of_ble_eq_true rfl))) dSl_carryOut_131 ⟨Nat.le_of_ble_eq_true rfl, Nat.le_of_ble_eq_true rfl⟩
      refine hq_calli (ce := 0) (sl := 0) (hR20) hW rfl rfl (fun H locs hW => ?_)
      replace h := ob h; obtain ⟨a21, hra21, h⟩ := h
      subst hra21
      replace h := ob h; obtain ⟨S22, eS22, h⟩ := h
      refine hq_callv (ce := 0) (sl := 0) (va_runS (As := [.ref a21, .int v16, .int v18]) (rest := []) ⟨hx, hb, hml, hown, hts⟩ (kSl_put l D tc b a21 v16 v18 S17 _ eS22) (cwS 3 hts GS_Sl_66 rfl rfl rfl hd_Sl_put_S_Sl ⟨Nat.le_of_ble_eq_true rfl, Nat.le_of_ble_eq_true rfl⟩) (hq_preS hW) rfl rfl hl.1 rfl (lv_room (by first | exact Nat.le_of_ble_eq_true rfl | (simp only [List.map, rf_cat]; exact Nat.le_of_ble_eq_true rfl))) dSl_carryOut_134 ⟨Nat.le_of_ble_eq_true rfl, Nat.le_of_ble_eq_true rfl⟩) hW rfl rfl (fun H locs hW => ?_)
      refine lv_goto hx hb dSl_carryOut_137 (tgt := 263) rfl ?_
      exact hq_vret hx hb hr hlocks h (Nat.le_of_ble_eq_true rfl) (Nat.le_of_ble_eq_true rfl) hW dSl_carryOut_263
    · replace h := if_f hc14 h
      have hc14n0 := hc14
      by_cases hc23 : v1 = 7 ∨ v1 = 9 ∨ v1 = 10 ∨ v1 = 11 ∨ v1 = 12 ∨ v1 = 13 ∨ v1 = 14 ∨ v1 = 17 ∨ v1 = 18 ∨ v1 = 19 ∨ v1 = 20 ∨ v1 = 21
      · replace h := if_t hc23 h
        have hT24 : W p l e { frames := 2, cells := 0, slots := 0, locals := 80 } s m args below meth c H locs 0 0 (MQ below (va_Qv (fun _ : Unit => True) (fun _ => Wp D vwCl (hTy tc) b Sz) (fun q => b ≤ q)) args s 0 0 (fun q => b ≤ q)) (F0 m 263 ls []) := by
          exact hq_vret hx hb hr hlocks h (Nat.le_of_ble_eq_true rfl) (Nat.le_of_ble_eq_true rfl) hW dSl_carryOut_263
        rcases hc23 with hc23 | hc23 | hc23 | hc23 | hc23 | hc23 | hc23 | hc23 | hc23 | hc23 | hc23 | hc23
        · refine lv_tableIn hx hb dSl_carryOut_4 (tgt := 263) (by rw [hc23]; decide) (by rw [hc23]; decide) (by rw [hc23] <;> rfl) rfl ?_
          exact hT24
        · refine lv_tableIn hx hb dSl_carryOut_4 (tgt := 263) (by rw [hc23]; decide) (by rw [hc23]; decide) (by rw [hc23] <;> rfl) rfl ?_
          exact hT24
        · refine lv_tableIn hx hb dSl_carryOut_4 (tgt := 263) (by rw [hc23]; decide) (by rw [hc23]; decide) (by rw [hc23] <;> rfl) rfl ?_
          exact hT24
        · refine lv_tableIn hx hb dSl_carryOut_4 (tgt := 263) (by rw [hc23]; decide) (by rw [hc23]; decide) (by rw [hc23] <;> rfl) rfl ?_
          exact hT24
        · refine lv_tableIn hx hb dSl_carryOut_4 (tgt := 263) (by rw [hc23]; decide) (by rw [hc23]; decide) (by rw [hc23] <;> rfl) rfl ?_
          exact hT24
        · refine lv_tableIn hx hb dSl_carryOut_4 (tgt := 263) (by rw [hc23]; decide) (by rw [hc23]; decide) (by rw [hc23] <;> rfl) rfl ?_
          exact hT24
        · refine lv_tableIn hx hb dSl_carryOut_4 (tgt := 263) (by rw [hc23]; decide) (by rw [hc23]; decide) (by rw [hc23] <;> rfl) rfl ?_
          exact hT24
        · refine lv_tableIn hx hb dSl_carryOut_4 (tgt := 263) (by rw [hc23]; decide) (by rw [hc23]; decide) (by rw [hc23] <;> rfl) rfl ?_
          exact hT24
        · refine lv_tableIn hx hb dSl_carryOut_4 (tgt := 263) (by rw [hc23]; decide) (by rw [hc23]; decide) (by rw [hc23] <;> rfl) rfl ?_
          exact hT24
        · refine lv_tableIn hx hb dSl_carryOut_4 (tgt := 263) (by rw [hc23]; decide) (by rw [hc23]; decide) (by rw [hc23] <;> rfl) rfl ?_
          exact hT24
        · refine lv_tableIn hx hb dSl_carryOut_4 (tgt := 263) (by rw [hc23]; decide) (by rw [hc23]; decide) (by rw [hc23] <;> rfl) rfl ?_
          exact hT24
        · refine lv_tableIn hx hb dSl_carryOut_4 (tgt := 263) (by rw [hc23]; decide) (by rw [hc23]; decide) (by rw [hc23] <;> rfl) rfl ?_
          exact hT24
      · replace h := if_f hc23 h
        have hc23n0 : ¬ v1 = 7 := fun q => hc23 (Or.inl q)
        have hc23n1 : ¬ v1 = 9 := fun q => hc23 (Or.inr (Or.inl q))
        have hc23n2 : ¬ v1 = 10 := fun q => hc23 (Or.inr (Or.inr (Or.inl q)))
        have hc23n3 : ¬ v1 = 11 := fun q => hc23 (Or.inr (Or.inr (Or.inr (Or.inl q))))
        have hc23n4 : ¬ v1 = 12 := fun q => hc23 (Or.inr (Or.inr (Or.inr (Or.inr (Or.inl q)))))
        have hc23n5 : ¬ v1 = 13 := fun q => hc23 (Or.inr (Or.inr (Or.inr (Or.inr (Or.inr (Or.inl q))))))
        have hc23n6 : ¬ v1 = 14 := fun q => hc23 (Or.inr (Or.inr (Or.inr (Or.inr (Or.inr (Or.inr (Or.inl q)))))))
        have hc23n7 : ¬ v1 = 17 := fun q => hc23 (Or.inr (Or.inr (Or.inr (Or.inr (Or.inr (Or.inr (Or.inr (Or.inl q))))))))
        have hc23n8 : ¬ v1 = 18 := fun q => hc23 (Or.inr (Or.inr (Or.inr (Or.inr (Or.inr (Or.inr (Or.inr (Or.inr (Or.inl q)))))))))
        have hc23n9 : ¬ v1 = 19 := fun q => hc23 (Or.inr (Or.inr (Or.inr (Or.inr (Or.inr (Or.inr (Or.inr (Or.inr (Or.inr (Or.inl q))))))))))
        have hc23n10 : ¬ v1 = 20 := fun q => hc23 (Or.inr (Or.inr (Or.inr (Or.inr (Or.inr (Or.inr (Or.inr (Or.inr (Or.inr (Or.inr (Or.inl q)))))))))))
        have hc23n11 : ¬ v1 = 21 := fun q => hc23 (Or.inr (Or.inr (Or.inr (Or.inr (Or.inr (Or.inr (Or.inr (Or.inr (Or.inr (Or.inr (Or.inr q)))))))))))
        by_cases hc25 : v1 = 8
        · replace h := if_t hc25 h
          refine lv_tableIn hx hb dSl_carryOut_4 (tgt := 252) (by rw [hc25]; decide) (by rw [hc25]; decide) (by rw [hc25] <;> rfl) rfl ?_
          refine lv_aload_n hx hb dSl_carryOut_252 rfl (lv_at hl 0 rfl) ?_
          refine lv_aload_n hx hb dSl_carryOut_253 rfl (lv_at hl 1 rfl) ?_
          replace h := ob h; obtain ⟨v26, ev26, h⟩ := h
          refine hq_get hx hb hts hown hW (gI_V ev26) (F_Sl_58 hts) dSl_carryOut_254 ?_
          replace h := ob h; obtain ⟨q28, eq28, h⟩ := h
          replace h := ob h; obtain ⟨S27, eS27, h⟩ := h
          refine hq_callv (ce := 0) (sl := 0) (va_runV (As := [.int v26]) (rest := []) ⟨hx, hb, hml, hown, hts⟩ (kSl_changeMode l D tc b t0 v26 S _ eS27) (cwV 1 hts GV_Sl_84_Sl rfl rfl rfl hd_Sl_changeMode_V ⟨Nat.le_of_ble_eq_true rfl, Nat.le_of_ble_eq_true rfl⟩) (hq_preV1 hW eq28 rfl rfl) rfl rfl hl.1 rfl (lv_room (by first | exact Nat.le_of_ble_eq_true rfl | (simp only [List.map, rf_cat]; exact Nat.le_of_ble_eq_true rfl))) dSl_carryOut_257 ⟨Nat.le_of_ble_eq_true rfl, Nat.le_of_ble_eq_true rfl⟩) hW rfl rfl (fun H locs hW => ?_)
          refine lv_goto hx hb dSl_carryOut_260 (tgt := 263) rfl ?_
          exact hq_vret hx hb hr hlocks h (Nat.le_of_ble_eq_true rfl) (Nat.le_of_ble_eq_true rfl) hW dSl_carryOut_263
        · replace h := if_f hc25 h
          have hc25n0 := hc25
          by_cases hc29 : v1 = 15
          · replace h := if_t hc29 h
            refine lv_tableIn hx hb dSl_carryOut_4 (tgt := 178) (by rw [hc29]; decide) (by rw [hc29]; decide) (by rw [hc29] <;> rfl) rfl ?_
            refine lv_iconst hx hb dSl_carryOut_178 (v := (0 : Int32)) rfl ?_
            refine lv_istore_n (lv' := [(2, .int (0 : Int32)), (0, .ref t0), (1, .ref t1)]) hx hb dSl_carryOut_179 rfl hl (Nat.le_of_ble_eq_true rfl) (by first | rfl | (simp [List.filter, rf_cat] <;> rfl)) (fun ls hl => ?_)
            replace h := ob h; obtain ⟨S33, eS33, h⟩ := h
            have hX : (fun q' => ∀ (H : Heap) (locs : List Loc) (ls : Array Slot), lv_has ls 3 [] → Wd D vwCl (hTy tc) b q' s H locs → W p l e { frames := 2, cells := 0, slots := 0, locals := 80 } s m args below meth c H locs 0 0 (MQ below (va_Qv (fun _ : Unit => True) (fun _ => Wp D vwCl (hTy tc) b Sz) (fun q => b ≤ q)) args s 0 0 (fun q => b ≤ q)) (F0 m 212 ls [])) S33 := by
              intro H locs ls hl hW
              refine lv_goto hx hb dSl_carryOut_212 (tgt := 263) rfl ?_
              exact hq_vret hx hb hr hlocks h (Nat.le_of_ble_eq_true rfl) (Nat.le_of_ble_eq_true rfl) hW dSl_carryOut_263
            refine lp_ind (P := fun q' => ∀ (H : Heap) (locs : List Loc) (ls : Array Slot), lv_has ls 3 [(0, .ref t0), (1, .ref t1), (2, .int q'.1)] → Wd D vwCl (hTy tc) b q'.2 s H locs → W p l e { frames := 2, cells := 0, slots := 0, locals := 80 } s m args below meth c H locs 0 0 (MQ below (va_Qv (fun _ : Unit => True) (fun _ => Wp D vwCl (hTy tc) b Sz) (fun q => b ≤ q)) args s 0 0 (fun q => b ≤ q)) (F0 m 180 ls [])) (Q := fun q' => ∀ (H : Heap) (locs : List Loc) (ls : Array Slot), lv_has ls 3 [] → Wd D vwCl (hTy tc) b q' s H locs → W p l e { frames := 2, cells := 0, slots := 0, locals := 80 } s m args below meth c H locs 0 0 (MQ below (va_Qv (fun _ : Unit => True) (fun _ => Wp D vwCl (hTy tc) b Sz) (fun q => b ≤ q)) args s 0 0 (fun q => b ≤ q)) (F0 m 212 ls [])) (fun q' x32 h hin hex => ?_) hX _ _ eS33 _ _ _ (lv_sub hl [1, 2, 0] rfl) hW
            obtain ⟨i30, S31⟩ := q'
            intro H locs ls hl hW
            unfold fSl_carryOut_L180 at h
            refine lv_iload_n hx hb dSl_carryOut_180 rfl (lv_at hl 2 rfl) ?_
            refine lv_aload_n hx hb dSl_carryOut_181 rfl (lv_at hl 1 rfl) ?_
            replace h := ob h; obtain ⟨v34, ev34, h⟩ := h
            refine hq_get hx hb hts hown hW (gI_V ev34) (F_Sl_78 hts) dSl_carryOut_182 ?_
            refine lv_icmp_ge hx hb dSl_carryOut_185 (tgt := 212) rfl (fun hc43 => ?_) (fun hc43 => ?_)
            · replace h := if_t hc43 h
              exact hex _ (Option.some.inj h).symm _ _ _ (lv_sub hl [] rfl) hW
            · replace h := if_f hc43 h
              refine lv_aload_n hx hb dSl_carryOut_188 rfl (lv_at hl 0 rfl) ?_
              replace h := ob h; obtain ⟨r35, er35, h⟩ := h
              refine hq_get hx hb hts hown hW (gR_V er35) (F_Sl_9 hts) dSl_carryOut_189 ?_
              refine lv_aload_n hx hb dSl_carryOut_192 rfl (lv_at hl 1 rfl) ?_
              replace h := ob h; obtain ⟨v36, ev36, h⟩ := h
              refine hq_get hx hb hts hown hW (gI_V ev36) (F_Sl_58 hts) dSl_carryOut_193 ?_
              refine lv_iload_n hx hb dSl_carryOut_196 rfl (lv_at hl 2 rfl) ?_
              refine lv_iadd hx hb dSl_carryOut_197 ?_
              refine lv_aload_n hx hb dSl_carryOut_198 rfl (lv_at hl 1 rfl) ?_
              refine lv_iload_n hx hb dSl_carryOut_199 rfl (lv_at hl 2 rfl) ?_
              replace h := ob h; obtain ⟨q39, eq39, h⟩ := h
              replace h := ob h; obtain ⟨⟨v38, S37⟩, eS37, h⟩ := h
              have hR40 : va_Run p l e { frames := 2, cells := 0, slots := 0, locals := 80 } s m args below meth c H locs 0 0 0 0 (F0 m 200 ls [.int i30, .ref t1, .int (v36 + i30), va_rf r35]) [.int (v36 + i30), va_rf r35] (va_Qi (fun x (_ : Unit) => x = v38) (fun _ => Wp D vwCl (hTy tc) b S37) (fun q => b ≤ q) (.ref t1 :: [.int i30]).toArray) (fun q => b ≤ q) := by
                rcases mem2 (gO_some eq39).2 with hq | hq
                · exact va_runU (As := [.int i30]) (rest := [.int (v36 + i30), va_rf r35]) ⟨hx, hb, hml, hown, hts⟩ (kJo_bit l D tc b t1 i30 S31 _ _ eS37) (va_cwU 1 hts GU_Sl_81_Po rfl rfl rfl rfl hd_Jo_bit_U ⟨Nat.le_of_ble_eq_true rfl, Nat.le_of_ble_eq_true rfl⟩) (hq_preV hW (gO_some eq39).1 (by rw [hq]; rfl) rfl) rfl rfl hl.1 rfl (lv_room (by first | exact Nat.le_of_ble_eq_true rfl | (simp only [List.map, rf_cat]; exact Nat.le_of_ble_eq_true rfl))) dSl_carryOut_200 ⟨Nat.le_of_ble_eq_true rfl, Nat.le_of_ble_eq_true rfl⟩
                · exact va_runU (As := [.int i30]) (rest := [.int (v36 + i30), va_rf r35]) ⟨hx, hb, hml, hown, hts⟩ (kJo_bit l D tc b t1 i30 S31 _ _ eS37) (va_cwU 1 hts GU_Sl_81_Re rfl rfl rfl rfl hd_Jo_bit_U ⟨Nat.le_of_ble_eq_true rfl, Nat.le_of_ble_eq_true rfl⟩) (hq_preV hW (gO_some eq39).1 (by rw [hq]; rfl) rfl) rfl rfl hl.1 rfl (lv_room (by first | exact Nat.le_of_ble_eq_true rfl | (simp only [List.map, rf_cat]; exact Nat.le_of_ble_eq_true rfl))) dSl_carryOut_200 ⟨Nat.le_of_ble_eq_true rfl, Nat.le_of_ble_eq_true rfl⟩
              refine hq_calli (ce := 0) (sl := 0) (hR40) hW rfl rfl (fun H locs hW => ?_)
              replace h := ob h; obtain ⟨a41, hra41, h⟩ := h
              subst hra41
              replace h := ob h; obtain ⟨S42, eS42, h⟩ := h
              refine hq_callv (ce := 0) (sl := 0) (va_runS (As := [.ref a41, .int (v36 + i30), .int v38]) (rest := []) ⟨hx, hb, hml, hown, hts⟩ (kSl_put l D tc b a41 (v36 + i30) v38 S37 _ eS42) (cwS 3 hts GS_Sl_66 rfl rfl rfl hd_Sl_put_S_Sl ⟨Nat.le_of_ble_eq_true rfl, Nat.le_of_ble_eq_true rfl⟩) (hq_preS hW) rfl rfl hl.1 rfl (lv_room (by first | exact Nat.le_of_ble_eq_true rfl | (simp only [List.map, rf_cat]; exact Nat.le_of_ble_eq_true rfl))) dSl_carryOut_203 ⟨Nat.le_of_ble_eq_true rfl, Nat.le_of_ble_eq_true rfl⟩) hW rfl rfl (fun H locs hW => ?_)
              refine lv_iinc (k := 2) (v := i30 + 1) (lv' := [(2, .int (i30 + 1)), (0, .ref t0), (1, .ref t1)]) hx hb dSl_carryOut_206 hl rfl rfl (Nat.le_of_ble_eq_true rfl) (by first | rfl | (simp [List.filter, rf_cat] <;> rfl)) (fun ls hl => ?_)
              refine lv_goto hx hb dSl_carryOut_209 (tgt := 180) rfl ?_
              exact hin _ (Option.some.inj h).symm _ _ _ (lv_sub hl [1, 2, 0] rfl) hW
          · replace h := if_f hc29 h
            have hc29n0 := hc29
            by_cases hc44 : v1 = 16
            · replace h := if_t hc44 h
              refine lv_tableIn hx hb dSl_carryOut_4 (tgt := 215) (by rw [hc44]; decide) (by rw [hc44]; decide) (by rw [hc44] <;> rfl) rfl ?_
              refine lv_iconst hx hb dSl_carryOut_215 (v := (0 : Int32)) rfl ?_
              refine lv_istore_n (lv' := [(2, .int (0 : Int32)), (0, .ref t0), (1, .ref t1)]) hx hb dSl_carryOut_216 rfl hl (Nat.le_of_ble_eq_true rfl) (by first | rfl | (simp [List.filter, rf_cat] <;> rfl)) (fun ls hl => ?_)
              replace h := ob h; obtain ⟨S48, eS48, h⟩ := h
              have hX : (fun q' => ∀ (H : Heap) (locs : List Loc) (ls : Array Slot), lv_has ls 3 [] → Wd D vwCl (hTy tc) b q' s H locs → W p l e { frames := 2, cells := 0, slots := 0, locals := 80 } s m args below meth c H locs 0 0 (MQ below (va_Qv (fun _ : Unit => True) (fun _ => Wp D vwCl (hTy tc) b Sz) (fun q => b ≤ q)) args s 0 0 (fun q => b ≤ q)) (F0 m 249 ls [])) S48 := by
                intro H locs ls hl hW
                refine lv_goto hx hb dSl_carryOut_249 (tgt := 263) rfl ?_
                exact hq_vret hx hb hr hlocks h (Nat.le_of_ble_eq_true rfl) (Nat.le_of_ble_eq_true rfl) hW dSl_carryOut_263
              refine lp_ind (P := fun q' => ∀ (H : Heap) (locs : List Loc) (ls : Array Slot), lv_has ls 3 [(0, .ref t0), (1, .ref t1), (2, .int q'.1)] → Wd D vwCl (hTy tc) b q'.2 s H locs → W p l e { frames := 2, cells := 0, slots := 0, locals := 80 } s m args below meth c H locs 0 0 (MQ below (va_Qv (fun _ : Unit => True) (fun _ => Wp D vwCl (hTy tc) b Sz) (fun q => b ≤ q)) args s 0 0 (fun q => b ≤ q)) (F0 m 217 ls [])) (Q := fun q' => ∀ (H : Heap) (locs : List Loc) (ls : Array Slot), lv_has ls 3 [] → Wd D vwCl (hTy tc) b q' s H locs → W p l e { frames := 2, cells := 0, slots := 0, locals := 80 } s m args below meth c H locs 0 0 (MQ below (va_Qv (fun _ : Unit => True) (fun _ => Wp D vwCl (hTy tc) b Sz) (fun q => b ≤ q)) args s 0 0 (fun q => b ≤ q)) (F0 m 249 ls [])) (fun q' x47 h hin hex => ?_) hX _ _ eS48 _ _ _ (lv_sub hl [1, 2, 0] rfl) hW
              obtain ⟨i45, S46⟩ := q'
              intro H locs ls hl hW
              unfold fSl_carryOut_L217 at h
              refine lv_iload_n hx hb dSl_carryOut_217 rfl (lv_at hl 2 rfl) ?_
              refine lv_aload_n hx hb dSl_carryOut_218 rfl (lv_at hl 1 rfl) ?_
              replace h := ob h; obtain ⟨v49, ev49, h⟩ := h
              refine hq_get hx hb hts hown hW (gI_V ev49) (F_Sl_78 hts) dSl_carryOut_219 ?_
              refine lv_icmp_ge hx hb dSl_carryOut_222 (tgt := 249) rfl (fun hc58 => ?_) (fun hc58 => ?_)
              · replace h := if_t hc58 h
                exact hex _ (Option.some.inj h).symm _ _ _ (lv_sub hl [] rfl) hW
              · replace h := if_f hc58 h
                refine lv_aload_n hx hb dSl_carryOut_225 rfl (lv_at hl 0 rfl) ?_
                replace h := ob h; obtain ⟨r50, er50, h⟩ := h
                refine hq_get hx hb hts hown hW (gR_V er50) (F_Sl_18 hts) dSl_carryOut_226 ?_
                refine lv_aload_n hx hb dSl_carryOut_229 rfl (lv_at hl 1 rfl) ?_
                replace h := ob h; obtain ⟨v51, ev51, h⟩ := h
                refine hq_get hx hb hts hown hW (gI_V ev51) (F_Sl_58 hts) dSl_carryOut_230 ?_
                refine lv_iload_n hx hb dSl_carryOut_233 rfl (lv_at hl 2 rfl) ?_
                refine lv_iadd hx hb dSl_carryOut_234 ?_
                refine lv_aload_n hx hb dSl_carryOut_235 rfl (lv_at hl 1 rfl) ?_
                refine lv_iload_n hx hb dSl_carryOut_236 rfl (lv_at hl 2 rfl) ?_
                replace h := ob h; obtain ⟨q54, eq54, h⟩ := h
                replace h := ob h; obtain ⟨⟨v53, S52⟩, eS52, h⟩ := h
                have hR55 : va_Run p l e { frames := 2, cells := 0, slots := 0, locals := 80 } s m args below meth c H locs 0 0 0 0 (F0 m 237 ls [.int i45, .ref t1, .int (v51 + i45), va_rf r50]) [.int (v51 + i45), va_rf r50] (va_Qi (fun x (_ : Unit) => x = v53) (fun _ => Wp D vwCl (hTy tc) b S52) (fun q => b ≤ q) (.ref t1 :: [.int i45]).toArray) (fun q => b ≤ q) := by
                  rcases mem2 (gO_some eq54).2 with hq | hq
                  · exact va_runU (As := [.int i45]) (rest := [.int (v51 + i45), va_rf r50]) ⟨hx, hb, hml, hown, hts⟩ (kJo_word l D tc b t1 i45 S46 _ _ eS52) (va_cwU 1 hts GU_Sl_61_Po rfl rfl rfl rfl hd_Jo_word_U ⟨Nat.le_of_ble_eq_true rfl, Nat.le_of_ble_eq_true rfl⟩) (hq_preV hW (gO_some eq54).1 (by rw [hq]; rfl) rfl) rfl rfl hl.1 rfl (lv_room (by first | exact Nat.le_of_ble_eq_true rfl | (simp only [List.map, rf_cat]; exact Nat.le_of_ble_eq_true rfl))) dSl_carryOut_237 ⟨Nat.le_of_ble_eq_true rfl, Nat.le_of_ble_eq_true rfl⟩
                  · exact va_runU (As := [.int i45]) (rest := [.int (v51 + i45), va_rf r50]) ⟨hx, hb, hml, hown, hts⟩ (kJo_word l D tc b t1 i45 S46 _ _ eS52) (va_cwU 1 hts GU_Sl_61_Re rfl rfl rfl rfl hd_Jo_word_U ⟨Nat.le_of_ble_eq_true rfl, Nat.le_of_ble_eq_true rfl⟩) (hq_preV hW (gO_some eq54).1 (by rw [hq]; rfl) rfl) rfl rfl hl.1 rfl (lv_room (by first | exact Nat.le_of_ble_eq_true rfl | (simp only [List.map, rf_cat]; exact Nat.le_of_ble_eq_true rfl))) dSl_carryOut_237 ⟨Nat.le_of_ble_eq_true rfl, Nat.le_of_ble_eq_true rfl⟩
                refine hq_calli (ce := 0) (sl := 0) (hR55) hW rfl rfl (fun H locs hW => ?_)
                replace h := ob h; obtain ⟨a56, hra56, h⟩ := h
                subst hra56
                replace h := ob h; obtain ⟨S57, eS57, h⟩ := h
                refine hq_callv (ce := 0) (sl := 0) (va_runS (As := [.ref a56, .int (v51 + i45), .int v53]) (rest := []) ⟨hx, hb, hml, hown, hts⟩ (kSl_put l D tc b a56 (v51 + i45) v53 S52 _ eS57) (cwS 3 hts GS_Sl_66 rfl rfl rfl hd_Sl_put_S_Sl ⟨Nat.le_of_ble_eq_true rfl, Nat.le_of_ble_eq_true rfl⟩) (hq_preS hW) rfl rfl hl.1 rfl (lv_room (by first | exact Nat.le_of_ble_eq_true rfl | (simp only [List.map, rf_cat]; exact Nat.le_of_ble_eq_true rfl))) dSl_carryOut_240 ⟨Nat.le_of_ble_eq_true rfl, Nat.le_of_ble_eq_true rfl⟩) hW rfl rfl (fun H locs hW => ?_)
                refine lv_iinc (k := 2) (v := i45 + 1) (lv' := [(2, .int (i45 + 1)), (0, .ref t0), (1, .ref t1)]) hx hb dSl_carryOut_243 hl rfl rfl (Nat.le_of_ble_eq_true rfl) (by first | rfl | (simp [List.filter, rf_cat] <;> rfl)) (fun ls hl => ?_)
                refine lv_goto hx hb dSl_carryOut_246 (tgt := 217) rfl ?_
                exact hin _ (Option.some.inj h).symm _ _ _ (lv_sub hl [1, 2, 0] rfl) hW
            · replace h := if_f hc44 h
              have hc44n0 := hc44
              by_cases hc59 : v1 = 22
              · replace h := if_t hc59 h
                refine lv_tableIn hx hb dSl_carryOut_4 (tgt := 140) (by rw [hc59]; decide) (by rw [hc59]; decide) (by rw [hc59] <;> rfl) rfl ?_
                refine lv_aload_n hx hb dSl_carryOut_140 rfl (lv_at hl 0 rfl) ?_
                replace h := ob h; obtain ⟨r60, er60, h⟩ := h
                refine hq_get hx hb hts hown hW (gR_V er60) (F_Sl_18 hts) dSl_carryOut_141 ?_
                refine lv_aload_n hx hb dSl_carryOut_144 rfl (lv_at hl 1 rfl) ?_
                replace h := ob h; obtain ⟨v61, ev61, h⟩ := h
                refine hq_get hx hb hts hown hW (gI_V ev61) (F_Sl_58 hts) dSl_carryOut_145 ?_
                refine lv_aload_n hx hb dSl_carryOut_148 rfl (lv_at hl 0 rfl) ?_
                replace h := ob h; obtain ⟨r62, er62, h⟩ := h
                refine hq_get hx hb hts hown hW (gR_V er62) (F_Sl_18 hts) dSl_carryOut_149 ?_
                refine lv_aload_n hx hb dSl_carryOut_152 rfl (lv_at hl 1 rfl) ?_
                replace h := ob h; obtain ⟨v63, ev63, h⟩ := h
                refine hq_get hx hb hts hown hW (gI_V ev63) (F_Sl_58 hts) dSl_carryOut_153 ?_
                replace h := ob h; obtain ⟨a64, hra64, h⟩ := h
                subst hra64
                replace h := ob h; obtain ⟨⟨v66, S65⟩, eS65, h⟩ := h
                refine hq_calli (ce := 0) (sl := 0) (va_runS (As := [.ref a64, .int v63]) (rest := [.int v61, va_rf r60]) ⟨hx, hb, hml, hown, hts⟩ (kSl_get l D tc b a64 v63 S _ _ eS65) (cwS 2 hts GS_Sl_70 rfl rfl rfl hd_Sl_get_S_Sl ⟨Nat.le_of_ble_eq_true rfl, Nat.le_of_ble_eq_true rfl⟩) (hq_preS hW) rfl rfl hl.1 rfl (lv_room (by first | exact Nat.le_of_ble_eq_true rfl | (simp only [List.map, rf_cat]; exact Nat.le_of_ble_eq_true rfl))) dSl_carryOut_156 ⟨Nat.le_of_ble_eq_true rfl, Nat.le_of_ble_eq_true rfl⟩) hW rfl rfl (fun H locs hW => ?_)
                refine lv_aload_n hx hb dSl_carryOut_159 rfl (lv_at hl 1 rfl) ?_
                refine lv_iconst hx hb dSl_carryOut_160 (v := (0 : Int32)) rfl ?_
                replace h := ob h; obtain ⟨q69, eq69, h⟩ := h
                replace h := ob h; obtain ⟨⟨v68, S67⟩, eS67, h⟩ := h
                have hR70 : va_Run p l e { frames := 2, cells := 0, slots := 0, locals := 80 } s m args below meth c H locs 0 0 0 0 (F0 m 161 ls [.int (0 : Int32), .ref t1, .int v66, .int v61, va_rf r60]) [.int v66, .int v61, va_rf r60] (va_Qi (fun x (_ : Unit) => x = v68) (fun _ => Wp D vwCl (hTy tc) b S67) (fun q => b ≤ q) (.ref t1 :: [.int (0 : Int32)]).toArray) (fun q => b ≤ q) := by
                  rcases mem2 (gO_some eq69).2 with hq | hq
                  · exact va_runU (As := [.int (0 : Int32)]) (rest := [.int v66, .int v61, va_rf r60]) ⟨hx, hb, hml, hown, hts⟩ (kJo_word l D tc b t1 (0 : Int32) S65 _ _ eS67) (va_cwU 1 hts GU_Sl_61_Po rfl rfl rfl rfl hd_Jo_word_U ⟨Nat.le_of_ble_eq_true rfl, Nat.le_of_ble_eq_true rfl⟩) (hq_preV hW (gO_some eq69).1 (by rw [hq]; rfl) rfl) rfl rfl hl.1 rfl (lv_room (by first | exact Nat.le_of_ble_eq_true rfl | (simp only [List.map, rf_cat]; exact Nat.le_of_ble_eq_true rfl))) dSl_carryOut_161 ⟨Nat.le_of_ble_eq_true rfl, Nat.le_of_ble_eq_true rfl⟩
                  · exact va_runU (As := [.int (0 : Int32)]) (rest := [.int v66, .int v61, va_rf r60]) ⟨hx, hb, hml, hown, hts⟩ (kJo_word l D tc b t1 (0 : Int32) S65 _ _ eS67) (va_cwU 1 hts GU_Sl_61_Re rfl rfl rfl rfl hd_Jo_word_U ⟨Nat.le_of_ble_eq_true rfl, Nat.le_of_ble_eq_true rfl⟩) (hq_preV hW (gO_some eq69).1 (by rw [hq]; rfl) rfl) rfl rfl hl.1 rfl (lv_room (by first | exact Nat.le_of_ble_eq_true rfl | (simp only [List.map, rf_cat]; exact Nat.le_of_ble_eq_true rfl))) dSl_carryOut_161 ⟨Nat.le_of_ble_eq_true rfl, Nat.le_of_ble_eq_true rfl⟩
                refine hq_calli (ce := 0) (sl := 0) (hR70) hW rfl rfl (fun H locs hW => ?_)
                refine lv_aload_n hx hb dSl_carryOut_164 rfl (lv_at hl 1 rfl) ?_
                refine lv_iconst hx hb dSl_carryOut_165 (v := (1 : Int32)) rfl ?_
                replace h := ob h; obtain ⟨q73, eq73, h⟩ := h
                replace h := ob h; obtain ⟨⟨v72, S71⟩, eS71, h⟩ := h
                have hR74 : va_Run p l e { frames := 2, cells := 0, slots := 0, locals := 80 } s m args below meth c H locs 0 0 0 0 (F0 m 166 ls [.int (1 : Int32), .ref t1, .int v68, .int v66, .int v61, va_rf r60]) [.int v68, .int v66, .int v61, va_rf r60] (va_Qi (fun x (_ : Unit) => x = v72) (fun _ => Wp D vwCl (hTy tc) b S71) (fun q => b ≤ q) (.ref t1 :: [.int (1 : Int32)]).toArray) (fun q => b ≤ q) := by
                  rcases mem2 (gO_some eq73).2 with hq | hq
                  · exact va_runU (As := [.int (1 : Int32)]) (rest := [.int v68, .int v66, .int v61, va_rf r60]) ⟨hx, hb, hml, hown, hts⟩ (kJo_word l D tc b t1 (1 : Int32) S67 _ _ eS71) (va_cwU 1 hts GU_Sl_61_Po rfl rfl rfl rfl hd_Jo_word_U ⟨Nat.le_of_ble_eq_true rfl, Nat.le_of_ble_eq_true rfl⟩) (hq_preV hW (gO_some eq73).1 (by rw [hq]; rfl) rfl) rfl rfl hl.1 rfl (lv_room (by first | exact Nat.le_of_ble_eq_true rfl | (simp only [List.map, rf_cat]; exact Nat.le_of_ble_eq_true rfl))) dSl_carryOut_166 ⟨Nat.le_of_ble_eq_true rfl, Nat.le_of_ble_eq_true rfl⟩
                  · exact va_runU (As := [.int (1 : Int32)]) (rest := [.int v68, .int v66, .int v61, va_rf r60]) ⟨hx, hb, hml, hown, hts⟩ (kJo_word l D tc b t1 (1 : Int32) S67 _ _ eS71) (va_cwU 1 hts GU_Sl_61_Re rfl rfl rfl rfl hd_Jo_word_U ⟨Nat.le_of_ble_eq_true rfl, Nat.le_of_ble_eq_true rfl⟩) (hq_preV hW (gO_some eq73).1 (by rw [hq]; rfl) rfl) rfl rfl hl.1 rfl (lv_room (by first | exact Nat.le_of_ble_eq_true rfl | (simp only [List.map, rf_cat]; exact Nat.le_of_ble_eq_true rfl))) dSl_carryOut_166 ⟨Nat.le_of_ble_eq_true rfl, Nat.le_of_ble_eq_true rfl⟩
                refine hq_calli (ce := 0) (sl := 0) (hR74) hW rfl rfl (fun H locs hW => ?_)
                replace h := ob h; obtain ⟨⟨v76, S75⟩, eS75, h⟩ := h
                refine hq_calli (ce := 0) (sl := 0) (va_runS (As := [.int v66, .int v68, .int v72]) (rest := [.int v61, va_rf r60]) ⟨hx, hb, hml, hown, hts⟩ (kSl_masked l D tc b v66 v68 v72 S71 _ _ eS75) (cwS 3 hts GS_Sl_74 rfl rfl rfl hd_Sl_masked_S_Sl ⟨Nat.le_of_ble_eq_true rfl, Nat.le_of_ble_eq_true rfl⟩) (hq_preS hW) rfl rfl hl.1 rfl (lv_room (by first | exact Nat.le_of_ble_eq_true rfl | (simp only [List.map, rf_cat]; exact Nat.le_of_ble_eq_true rfl))) dSl_carryOut_169 ⟨Nat.le_of_ble_eq_true rfl, Nat.le_of_ble_eq_true rfl⟩) hW rfl rfl (fun H locs hW => ?_)
                replace h := ob h; obtain ⟨a77, hra77, h⟩ := h
                subst hra77
                replace h := ob h; obtain ⟨S78, eS78, h⟩ := h
                refine hq_callv (ce := 0) (sl := 0) (va_runS (As := [.ref a77, .int v61, .int v76]) (rest := []) ⟨hx, hb, hml, hown, hts⟩ (kSl_put l D tc b a77 v61 v76 S75 _ eS78) (cwS 3 hts GS_Sl_66 rfl rfl rfl hd_Sl_put_S_Sl ⟨Nat.le_of_ble_eq_true rfl, Nat.le_of_ble_eq_true rfl⟩) (hq_preS hW) rfl rfl hl.1 rfl (lv_room (by first | exact Nat.le_of_ble_eq_true rfl | (simp only [List.map, rf_cat]; exact Nat.le_of_ble_eq_true rfl))) dSl_carryOut_172 ⟨Nat.le_of_ble_eq_true rfl, Nat.le_of_ble_eq_true rfl⟩) hW rfl rfl (fun H locs hW => ?_)
                refine lv_goto hx hb dSl_carryOut_175 (tgt := 263) rfl ?_
                exact hq_vret hx hb hr hlocks h (Nat.le_of_ble_eq_true rfl) (Nat.le_of_ble_eq_true rfl) hW dSl_carryOut_263
              · replace h := if_f hc59 h
                have hc59n0 := hc59
                refine lv_tableOut hx hb dSl_carryOut_4 (tgt := 263) (by have g0 := lv_neT hc2n0 (a := 5) rfl; have g1 := lv_neT hc14n0 (a := 6) rfl; have g2 := lv_neT hc23n0 (a := 7) rfl; have g3 := lv_neT hc25n0 (a := 8) rfl; have g4 := lv_neT hc23n1 (a := 9) rfl; have g5 := lv_neT hc23n2 (a := 10) rfl; have g6 := lv_neT hc23n3 (a := 11) rfl; have g7 := lv_neT hc23n4 (a := 12) rfl; have g8 := lv_neT hc23n5 (a := 13) rfl; have g9 := lv_neT hc23n6 (a := 14) rfl; have g10 := lv_neT hc29n0 (a := 15) rfl; have g11 := lv_neT hc44n0 (a := 16) rfl; have g12 := lv_neT hc23n7 (a := 17) rfl; have g13 := lv_neT hc23n8 (a := 18) rfl; have g14 := lv_neT hc23n9 (a := 19) rfl; have g15 := lv_neT hc23n10 (a := 20) rfl; have g16 := lv_neT hc23n11 (a := 21) rfl; have g17 := lv_neT hc59n0 (a := 22) rfl; omega) rfl ?_
                exact hq_vret hx hb hr hlocks h (Nat.le_of_ble_eq_true rfl) (Nat.le_of_ble_eq_true rfl) hW dSl_carryOut_263
def fSl_obey_J27_1 (S : Ws) (t1 : Nat) (t0 : Nat) (v1 : Int32)  : Option (Int32 × Ws) :=
  (gO S t1 [3, 4]).bind fun q6 => (fJo_refusal t1 S).bind fun (v5, S4) => (if v5 = 0 then (gO S4 t0 [5]).bind fun q11 => (fSl_carryOut t0 t1 S4).bind fun S10 => some S10 else some S4).bind fun S8 => (gO S8 t1 [3, 4]).bind fun q15 => (fJo_isBroadcast t1 S8).bind fun (v14, S13) => if v14 = 0 then if v1 = 0 then (gI S13 t0 [5] 8).bind fun v19 => if v19 = 0 then (bz (1 : Int32)).bind fun z21 => some ((1 : Int32), S13) else (bz (0 : Int32)).bind fun z20 => some ((0 : Int32), S13) else (bz (0 : Int32)).bind fun z18 => some ((0 : Int32), S13) else (bz (0 : Int32)).bind fun z17 => some ((0 : Int32), S13)
def fSl_obey (t0 : Nat) (t1 : Nat) (S : Ws) : Option (Int32 × Ws) :=
  (gI S t0 [5] 8).bind fun v1 => (gI S t0 [5] 7).bind fun v2 => if v2 = 0 then (bz (0 : Int32)).bind fun z3 => some ((0 : Int32), S) else if v1 = 0 then fSl_obey_J27_1 S t1 t0 v1 else (gI S t1 [3, 4] 2).bind fun v25 => if v25 = (8 : Int32) then fSl_obey_J27_1 S t1 t0 v1 else (bz (0 : Int32)).bind fun z26 => some ((0 : Int32), S)
set_option maxRecDepth 100000 in
set_option maxHeartbeats 4000000 in
theorem kSl_obey (l : Launch) (D : va_G) (tc : Nat → ClassId) (b : Nat) (t0 : Nat) (t1 : Nat) (S Sz : Ws) (rr : Int32) (h : fSl_obey t0 t1 S = some (rr, Sz)) : Met l ySl_obey wsSl_obey { frames := 3, cells := 0, slots := 0, locals := 120 } (va_Pc [.ref t0, .ref t1] (Wp D vwCl (hTy tc) b S)) (va_Qi (fun x (_ : Unit) => x = rr) (fun _ => Wp D vwCl (hTy tc) b Sz) (fun q => b ≤ q)) 0 0 (fun q => b ≤ q) := by
  refine hq_ofW (cc := cSl_obey) (maxL := 3) (ret := (some .boolean)) (by decide) rfl (Nat.le_of_ble_eq_true rfl) fun p e s m args below meth c hx hb hr hts hown hlocks hnm hml H locs ls hl hW => ?_
  have hts : ∀ w ∈ lwG, w.before args s = true := fun w h => hts w (List.mem_cons_of_mem _ h)
  have hown : s.vm.findClass "SerialPlant$Slave" = some m.cls := hown
  have hl : lv_has ls 3 [(0, .ref t0), (1, .ref t1)] := hl
  unfold fSl_obey at h
  refine lv_aload_n hx hb dSl_obey_0 rfl (lv_at hl 0 rfl) ?_
  replace h := ob h; obtain ⟨v1, ev1, h⟩ := h
  refine hq_get hx hb hts hown hW (gI_V ev1) (F_Sl_44 hts) dSl_obey_1 ?_
  refine lv_istore_n (lv' := [(2, .int v1), (0, .ref t0), (1, .ref t1)]) hx hb dSl_obey_4 rfl hl (Nat.le_of_ble_eq_true rfl) (by first | rfl | (simp [List.filter, rf_cat] <;> rfl)) (fun ls hl => ?_)
  refine lv_aload_n hx hb dSl_obey_5 rfl (lv_at hl 1 rfl) ?_
  replace h := ob h; obtain ⟨v2, ev2, h⟩ := h
  refine hq_get hx hb hts hown hW (gI_V ev2) (F_Sl_28 hts) dSl_obey_6 ?_
  refine lv_if_eq hx hb dSl_obey_9 (tgt := 25) rfl (fun hc29 => ?_) (fun hc29 => ?_)
  · replace h := if_t hc29 h
    refine lv_iconst hx hb dSl_obey_25 (v := (0 : Int32)) rfl ?_
    replace h := ob h; obtain ⟨z3, ez3, h⟩ := h
    exact hq_zret hx hb hr hlocks (bz_some ez3).2 h (Nat.le_of_ble_eq_true rfl) (Nat.le_of_ble_eq_true rfl) hW dSl_obey_26
  · replace h := if_f hc29 h
    refine lv_iload_n hx hb dSl_obey_12 rfl (lv_at hl 0 rfl) ?_
    have hP27_1 : ∀  (H : Heap) (locs : List Loc) (ls : Array Slot), lv_has ls 3 [(0, .ref t0), (1, .ref t1), (2, .int v1)] → Wd D vwCl (hTy tc) b S s H locs → fSl_obey_J27_1 S t1 t0 v1 = some (rr, Sz) → W p l e { frames := 3, cells := 0, slots := 0, locals := 120 } s m args below meth c H locs 0 0 (MQ below (va_Qi (fun x (_ : Unit) => x = rr) (fun _ => Wp D vwCl (hTy tc) b Sz) (fun q => b ≤ q)) args s 0 0 (fun q => b ≤ q)) (F0 m 27 ls []) := by
      intro  H locs ls hl hW h
      unfold fSl_obey_J27_1 at h
      refine lv_aload_n hx hb dSl_obey_27 rfl (lv_at hl 1 rfl) ?_
      replace h := ob h; obtain ⟨q6, eq6, h⟩ := h
      replace h := ob h; obtain ⟨⟨v5, S4⟩, eS4, h⟩ := h
      have hR7 : va_Run p l e { frames := 3, cells := 0, slots := 0, locals := 120 } s m args below meth c H locs 0 0 0 0 (F0 m 28 ls [.ref t1]) [] (va_Qi (fun x (_ : Unit) => x = v5) (fun _ => Wp D vwCl (hTy tc) b S4) (fun q => b ≤ q) (.ref t1 :: []).toArray) (fun q => b ≤ q) := by
        rcases mem2 (gO_some eq6).2 with hq | hq
        · exact va_runU (As := []) (rest := []) ⟨hx, hb, hml, hown, hts⟩ (kJo_refusal l D tc b t1 S _ _ eS4) (va_cwU 0 hts GU_Sl_50_Po rfl rfl rfl rfl hd_Jo_refusal_U ⟨Nat.le_of_ble_eq_true rfl, Nat.le_of_ble_eq_true rfl⟩) (hq_preV hW (gO_some eq6).1 (by rw [hq]; rfl) rfl) rfl rfl hl.1 rfl (lv_room (by first | exact Nat.le_of_ble_eq_true rfl | (simp only [List.map, rf_cat]; exact Nat.le_of_ble_eq_true rfl))) dSl_obey_28 ⟨Nat.le_of_ble_eq_true rfl, Nat.le_of_ble_eq_true rfl⟩
        · exact va_runU (As := []) (rest := []) ⟨hx, hb, hml, hown, hts⟩ (kJo_refusal l D tc b t1 S _ _ eS4) (va_cwU 0 hts GU_Sl_50_Re rfl rfl rfl rfl hd_Jo_refusal_U ⟨Nat.le_of_ble_eq_true rfl, Nat.le_of_ble_eq_true rfl⟩) (hq_preV hW (gO_some eq6).1 (by rw [hq]; rfl) rfl) rfl rfl hl.1 rfl (lv_room (by first | exact Nat.le_of_ble_eq_true rfl | (simp only [List.map, rf_cat]; exact Nat.le_of_ble_eq_true rfl))) dSl_obey_28 ⟨Nat.le_of_ble_eq_true rfl, Nat.le_of_ble_eq_true rfl⟩
      refine hq_calli (ce := 0) (sl := 0) (hR7) hW rfl rfl (fun H locs hW => ?_)
      replace h := ob h; obtain ⟨q9, e39, h⟩ := h
      have hJ39 : ∀ q', q' = q9 → ∀ (H : Heap) (locs : List Loc) (ls : Array Slot), lv_has ls 3 [(0, .ref t0), (1, .ref t1), (2, .int v1)] → Wd D vwCl (hTy tc) b q' s H locs → W p l e { frames := 3, cells := 0, slots := 0, locals := 120 } s m args below meth c H locs 0 0 (MQ below (va_Qi (fun x (_ : Unit) => x = rr) (fun _ => Wp D vwCl (hTy tc) b Sz) (fun q => b ≤ q)) args s 0 0 (fun q => b ≤ q)) (F0 m 39 ls []) := by
        intro S8 hq'; subst hq'
        intro H locs ls hl hW
        refine lv_aload_n hx hb dSl_obey_39 rfl (lv_at hl 1 rfl) ?_
        replace h := ob h; obtain ⟨q15, eq15, h⟩ := h
        replace h := ob h; obtain ⟨⟨v14, S13⟩, eS13, h⟩ := h
        have hR16 : va_Run p l e { frames := 3, cells := 0, slots := 0, locals := 120 } s m args below meth c H locs 0 0 0 0 (F0 m 40 ls [.ref t1]) [] (va_Qi (fun x (_ : Unit) => x = v14) (fun _ => Wp D vwCl (hTy tc) b S13) (fun q => b ≤ q) (.ref t1 :: []).toArray) (fun q => b ≤ q) := by
          rcases mem2 (gO_some eq15).2 with hq | hq
          · exact va_runU (As := []) (rest := []) ⟨hx, hb, hml, hown, hts⟩ (kJo_isBroadcast l D tc b t1 S8 _ _ eS13) (va_cwU 0 hts GU_Sl_35_Po rfl rfl rfl rfl hd_Jo_isBroadcast_U ⟨Nat.le_of_ble_eq_true rfl, Nat.le_of_ble_eq_true rfl⟩) (hq_preV hW (gO_some eq15).1 (by rw [hq]; rfl) rfl) rfl rfl hl.1 rfl (lv_room (by first | exact Nat.le_of_ble_eq_true rfl | (simp only [List.map, rf_cat]; exact Nat.le_of_ble_eq_true rfl))) dSl_obey_40 ⟨Nat.le_of_ble_eq_true rfl, Nat.le_of_ble_eq_true rfl⟩
          · exact va_runU (As := []) (rest := []) ⟨hx, hb, hml, hown, hts⟩ (kJo_isBroadcast l D tc b t1 S8 _ _ eS13) (va_cwU 0 hts GU_Sl_35_Re rfl rfl rfl rfl hd_Jo_isBroadcast_U ⟨Nat.le_of_ble_eq_true rfl, Nat.le_of_ble_eq_true rfl⟩) (hq_preV hW (gO_some eq15).1 (by rw [hq]; rfl) rfl) rfl rfl hl.1 rfl (lv_room (by first | exact Nat.le_of_ble_eq_true rfl | (simp only [List.map, rf_cat]; exact Nat.le_of_ble_eq_true rfl))) dSl_obey_40 ⟨Nat.le_of_ble_eq_true rfl, Nat.le_of_ble_eq_true rfl⟩
        refine hq_calli (ce := 0) (sl := 0) (hR16) hW rfl rfl (fun H locs hW => ?_)
        refine lv_if_ne hx hb dSl_obey_43 (tgt := 61) rfl (fun hc24 => ?_) (fun hc24 => ?_)
        · replace h := if_f hc24 h
          refine lv_iconst hx hb dSl_obey_61 (v := (0 : Int32)) rfl ?_
          replace h := ob h; obtain ⟨z17, ez17, h⟩ := h
          exact hq_zret hx hb hr hlocks (bz_some ez17).2 h (Nat.le_of_ble_eq_true rfl) (Nat.le_of_ble_eq_true rfl) hW dSl_obey_62
        · replace h := if_t hc24 h
          refine lv_iload_n hx hb dSl_obey_46 rfl (lv_at hl 2 rfl) ?_
          refine lv_if_ne hx hb dSl_obey_47 (tgt := 61) rfl (fun hc23 => ?_) (fun hc23 => ?_)
          · replace h := if_f hc23 h
            refine lv_iconst hx hb dSl_obey_61 (v := (0 : Int32)) rfl ?_
            replace h := ob h; obtain ⟨z18, ez18, h⟩ := h
            exact hq_zret hx hb hr hlocks (bz_some ez18).2 h (Nat.le_of_ble_eq_true rfl) (Nat.le_of_ble_eq_true rfl) hW dSl_obey_62
          · replace h := if_t hc23 h
            refine lv_aload_n hx hb dSl_obey_50 rfl (lv_at hl 0 rfl) ?_
            replace h := ob h; obtain ⟨v19, ev19, h⟩ := h
            refine hq_get hx hb hts hown hW (gI_V ev19) (F_Sl_44 hts) dSl_obey_51 ?_
            refine lv_if_ne hx hb dSl_obey_54 (tgt := 61) rfl (fun hc22 => ?_) (fun hc22 => ?_)
            · replace h := if_f hc22 h
              refine lv_iconst hx hb dSl_obey_61 (v := (0 : Int32)) rfl ?_
              replace h := ob h; obtain ⟨z20, ez20, h⟩ := h
              exact hq_zret hx hb hr hlocks (bz_some ez20).2 h (Nat.le_of_ble_eq_true rfl) (Nat.le_of_ble_eq_true rfl) hW dSl_obey_62
            · replace h := if_t hc22 h
              refine lv_iconst hx hb dSl_obey_57 (v := (1 : Int32)) rfl ?_
              refine lv_goto hx hb dSl_obey_58 (tgt := 62) rfl ?_
              replace h := ob h; obtain ⟨z21, ez21, h⟩ := h
              exact hq_zret hx hb hr hlocks (bz_some ez21).2 h (Nat.le_of_ble_eq_true rfl) (Nat.le_of_ble_eq_true rfl) hW dSl_obey_62
      clear h; have h := e39; clear e39
      refine lv_if_ne hx hb dSl_obey_31 (tgt := 39) rfl (fun hc12 => ?_) (fun hc12 => ?_)
      · replace h := if_f hc12 h
        exact hJ39 _ (Option.some.inj h) _ _ _ (lv_sub hl [0, 1, 2] rfl) hW
      · replace h := if_t hc12 h
        refine lv_aload_n hx hb dSl_obey_34 rfl (lv_at hl 0 rfl) ?_
        refine lv_aload_n hx hb dSl_obey_35 rfl (lv_at hl 1 rfl) ?_
        replace h := ob h; obtain ⟨q11, eq11, h⟩ := h
        replace h := ob h; obtain ⟨S10, eS10, h⟩ := h
        refine hq_callv (ce := 0) (sl := 0) (va_runV (As := [.ref t1]) (rest := []) ⟨hx, hb, hml, hown, hts⟩ (kSl_carryOut l D tc b t0 t1 S4 _ eS10) (cwV 1 hts GV_Sl_54_Sl rfl rfl rfl hd_Sl_carryOut_V ⟨Nat.le_of_ble_eq_true rfl, Nat.le_of_ble_eq_true rfl⟩) (hq_preV1 hW eq11 rfl rfl) rfl rfl hl.1 rfl (lv_room (by first | exact Nat.le_of_ble_eq_true rfl | (simp only [List.map, rf_cat]; exact Nat.le_of_ble_eq_true rfl))) dSl_obey_36 ⟨Nat.le_of_ble_eq_true rfl, Nat.le_of_ble_eq_true rfl⟩) hW rfl rfl (fun H locs hW => ?_)
        exact hJ39 _ (Option.some.inj h) _ _ _ (lv_sub hl [0, 1, 2] rfl) hW
    refine lv_if_eq hx hb dSl_obey_13 (tgt := 27) rfl (fun hc28 => ?_) (fun hc28 => ?_)
    · replace h := if_t hc28 h
      exact hP27_1  _ _ _ (lv_sub hl [1, 2, 0] rfl) hW h
    · replace h := if_f hc28 h
      refine lv_aload_n hx hb dSl_obey_16 rfl (lv_at hl 2 rfl) ?_
      replace h := ob h; obtain ⟨v25, ev25, h⟩ := h
      refine hq_get hx hb hts hown hW (gI_V ev25) (F_Sl_47 hts) dSl_obey_17 ?_
      refine lv_bipush hx hb dSl_obey_20 (v := (8 : Int32)) rfl ?_
      refine lv_icmp_eq hx hb dSl_obey_22 (tgt := 27) rfl (fun hc27 => ?_) (fun hc27 => ?_)
      · replace h := if_t hc27 h
        exact hP27_1  _ _ _ (lv_sub hl [1, 2, 0] rfl) hW h
      · replace h := if_f hc27 h
        refine lv_iconst hx hb dSl_obey_25 (v := (0 : Int32)) rfl ?_
        replace h := ob h; obtain ⟨z26, ez26, h⟩ := h
        exact hq_zret hx hb hr hlocks (bz_some ez26).2 h (Nat.le_of_ble_eq_true rfl) (Nat.le_of_ble_eq_true rfl) hW dSl_obey_26
def fSl_writeBits_L47 (t1 : Nat) (i15 : Int32) (r3 : Option Nat) : Int32 × Int32 × Ws → Option ((Int32 × Int32 × Ws) ⊕ (Int32 × Ws)) :=
  fun (i23, i24, S25) => if (8 : Int32) ≤ i24 then some (.inr (i23, S25)) else (gI S25 t1 [3, 4] 4).bind fun v29 => if v29 ≤ (((8 : Int32) * i15) + i24) then some (.inr (i23, S25)) else (gI S25 t1 [3, 4] 3).bind fun v30 => (r3).bind fun a31 => (fSl_get a31 ((v30 + ((8 : Int32) * i15)) + i24) S25).bind fun (v33, S32) => some (.inl (i23 ||| (v33 <<< (i24 &&& 31)), i24 + 1, S32))
def fSl_writeBits_L32 (t1 : Nat) (t2 : Nat) (r3 : Option Nat) : Int32 × Ws → Option ((Int32 × Ws) ⊕ (Ws)) :=
  fun (i15, S16) => (gO S16 t1 [3, 4]).bind fun q21 => (fJo_bitBytes t1 S16).bind fun (v20, S19) => if v20 ≤ i15 then some (.inr S19) else (lp (fSl_writeBits_L47 t1 i15 r3) 1000 ((0 : Int32), (0 : Int32), S19)).bind fun (i27, S28) => (gO S28 t2 [0]).bind fun q37 => (fFr_addByte t2 i27 S28).bind fun S36 => some (.inl (i15 + 1, S36))
def fSl_writeBits (t0 : Nat) (t1 : Nat) (t2 : Nat) (S : Ws) : Option (Ws) :=
  (gI S t1 [3, 4] 2).bind fun v1 => (gO S t0 [5]).bind fun q4 => (fSl_tableOf t0 v1 S).bind fun (r3, S2) => (gI S2 t1 [3, 4] 1).bind fun v5 => (gI S2 t1 [3, 4] 2).bind fun v6 => (gO S2 t2 [0]).bind fun q8 => (fFr_begin t2 v5 v6 S2).bind fun S7 => (gO S7 t1 [3, 4]).bind fun q11 => (fJo_bitBytes t1 S7).bind fun (v10, S9) => (gO S9 t2 [0]).bind fun q14 => (fFr_addByte t2 v10 S9).bind fun S13 => (lp (fSl_writeBits_L32 t1 t2 r3) 1000 ((0 : Int32), S13)).bind fun S18 => (gO S18 t2 [0]).bind fun q41 => (fFr_addSum t2 S18).bind fun S40 => some S40
set_option maxRecDepth 100000 in
set_option maxHeartbeats 4000000 in
theorem kSl_writeBits (l : Launch) (D : va_G) (tc : Nat → ClassId) (b : Nat) (t0 : Nat) (t1 : Nat) (t2 : Nat) (S Sz : Ws) (h : fSl_writeBits t0 t1 t2 S = some Sz) : Met l ySl_writeBits wsSl_writeBits { frames := 3, cells := 0, slots := 0, locals := 120 } (va_Pc [.ref t0, .ref t1, .ref t2] (Wp D vwCl (hTy tc) b S)) (va_Qv (fun _ : Unit => True) (fun _ => Wp D vwCl (hTy tc) b Sz) (fun q => b ≤ q)) 0 0 (fun q => b ≤ q) := by
  refine hq_ofW (cc := cSl_writeBits) (maxL := 7) (ret := none) (by decide) rfl (Nat.le_of_ble_eq_true rfl) fun p e s m args below meth c hx hb hr hts hown hlocks hnm hml H locs ls hl hW => ?_
  have hts : ∀ w ∈ lwG, w.before args s = true := fun w h => hts w (List.mem_cons_of_mem _ h)
  have hown : s.vm.findClass "SerialPlant$Slave" = some m.cls := hown
  have hl : lv_has ls 7 [(0, .ref t0), (1, .ref t1), (2, .ref t2)] := hl
  unfold fSl_writeBits at h
  refine lv_aload_n hx hb dSl_writeBits_0 rfl (lv_at hl 0 rfl) ?_
  refine lv_aload_n hx hb dSl_writeBits_1 rfl (lv_at hl 1 rfl) ?_
  replace h := ob h; obtain ⟨v1, ev1, h⟩ := h
  refine hq_get hx hb hts hown hW (gI_V ev1) (F_Sl_47 hts) dSl_writeBits_2 ?_
  replace h := ob h; obtain ⟨q4, eq4, h⟩ := h
  replace h := ob h; obtain ⟨⟨r3, S2⟩, eS2, h⟩ := h
  refine hq_callq (ce := 0) (sl := 0) (va_runV (As := [.int v1]) (rest := []) ⟨hx, hb, hml, hown, hts⟩ (kSl_tableOf l D tc b t0 v1 S _ _ eS2) (cwV 1 hts GV_Sl_114_Sl rfl rfl rfl hd_Sl_tableOf_V ⟨Nat.le_of_ble_eq_true rfl, Nat.le_of_ble_eq_true rfl⟩) (hq_preV1 hW eq4 rfl rfl) rfl rfl hl.1 rfl (lv_room (by first | exact Nat.le_of_ble_eq_true rfl | (simp only [List.map, rf_cat]; exact Nat.le_of_ble_eq_true rfl))) dSl_writeBits_5 ⟨Nat.le_of_ble_eq_true rfl, Nat.le_of_ble_eq_true rfl⟩) hW rfl rfl (fun H locs hW => ?_)
  refine hq_astore_n (x := r3) (lv' := [(3, va_rf r3), (0, .ref t0), (1, .ref t1), (2, .ref t2)]) hx hb dSl_writeBits_8 rfl hl (Nat.le_of_ble_eq_true rfl) (by first | rfl | (simp [List.filter, rf_cat] <;> rfl)) (fun ls hl => ?_)
  refine lv_aload_n hx hb dSl_writeBits_9 rfl (lv_at hl 3 rfl) ?_
  refine lv_aload_n hx hb dSl_writeBits_10 rfl (lv_at hl 2 rfl) ?_
  replace h := ob h; obtain ⟨v5, ev5, h⟩ := h
  refine hq_get hx hb hts hown hW (gI_V ev5) (F_Sl_41 hts) dSl_writeBits_11 ?_
  refine lv_aload_n hx hb dSl_writeBits_14 rfl (lv_at hl 2 rfl) ?_
  replace h := ob h; obtain ⟨v6, ev6, h⟩ := h
  refine hq_get hx hb hts hown hW (gI_V ev6) (F_Sl_47 hts) dSl_writeBits_15 ?_
  replace h := ob h; obtain ⟨q8, eq8, h⟩ := h
  replace h := ob h; obtain ⟨S7, eS7, h⟩ := h
  refine hq_callv (ce := 0) (sl := 0) (va_runV (As := [.int v5, .int v6]) (rest := []) ⟨hx, hb, hml, hown, hts⟩ (kFr_begin l D tc b t2 v5 v6 S2 _ eS7) (cwV 2 hts GV_Sl_88_Fr rfl rfl rfl hd_Fr_begin_V ⟨Nat.le_of_ble_eq_true rfl, Nat.le_of_ble_eq_true rfl⟩) (hq_preV1 hW eq8 rfl rfl) rfl rfl hl.1 rfl (lv_room (by first | exact Nat.le_of_ble_eq_true rfl | (simp only [List.map, rf_cat]; exact Nat.le_of_ble_eq_true rfl))) dSl_writeBits_18 ⟨Nat.le_of_ble_eq_true rfl, Nat.le_of_ble_eq_true rfl⟩) hW rfl rfl (fun H locs hW => ?_)
  refine lv_aload_n hx hb dSl_writeBits_21 rfl (lv_at hl 3 rfl) ?_
  refine lv_aload_n hx hb dSl_writeBits_22 rfl (lv_at hl 2 rfl) ?_
  replace h := ob h; obtain ⟨q11, eq11, h⟩ := h
  replace h := ob h; obtain ⟨⟨v10, S9⟩, eS9, h⟩ := h
  have hR12 : va_Run p l e { frames := 3, cells := 0, slots := 0, locals := 120 } s m args below meth c H locs 0 0 0 0 (F0 m 23 ls [.ref t1, .ref t2]) [.ref t2] (va_Qi (fun x (_ : Unit) => x = v10) (fun _ => Wp D vwCl (hTy tc) b S9) (fun q => b ≤ q) (.ref t1 :: []).toArray) (fun q => b ≤ q) := by
    rcases mem2 (gO_some eq11).2 with hq | hq
    · exact va_runU (As := []) (rest := [.ref t2]) ⟨hx, hb, hml, hown, hts⟩ (kJo_bitBytes l D tc b t1 S7 _ _ eS9) (va_cwU 0 hts GU_Sl_118_Po rfl rfl rfl rfl hd_Jo_bitBytes_U ⟨Nat.le_of_ble_eq_true rfl, Nat.le_of_ble_eq_true rfl⟩) (hq_preV hW (gO_some eq11).1 (by rw [hq]; rfl) rfl) rfl rfl hl.1 rfl (lv_room (by first | exact Nat.le_of_ble_eq_true rfl | (simp only [List.map, rf_cat]; exact Nat.le_of_ble_eq_true rfl))) dSl_writeBits_23 ⟨Nat.le_of_ble_eq_true rfl, Nat.le_of_ble_eq_true rfl⟩
    · exact va_runU (As := []) (rest := [.ref t2]) ⟨hx, hb, hml, hown, hts⟩ (kJo_bitBytes l D tc b t1 S7 _ _ eS9) (va_cwU 0 hts GU_Sl_118_Re rfl rfl rfl rfl hd_Jo_bitBytes_U ⟨Nat.le_of_ble_eq_true rfl, Nat.le_of_ble_eq_true rfl⟩) (hq_preV hW (gO_some eq11).1 (by rw [hq]; rfl) rfl) rfl rfl hl.1 rfl (lv_room (by first | exact Nat.le_of_ble_eq_true rfl | (simp only [List.map, rf_cat]; exact Nat.le_of_ble_eq_true rfl))) dSl_writeBits_23 ⟨Nat.le_of_ble_eq_true rfl, Nat.le_of_ble_eq_true rfl⟩
  refine hq_calli (ce := 0) (sl := 0) (hR12) hW rfl rfl (fun H locs hW => ?_)
  replace h := ob h; obtain ⟨q14, eq14, h⟩ := h
  replace h := ob h; obtain ⟨S13, eS13, h⟩ := h
  refine hq_callv (ce := 0) (sl := 0) (va_runV (As := [.int v10]) (rest := []) ⟨hx, hb, hml, hown, hts⟩ (kFr_addByte l D tc b t2 v10 S9 _ eS13) (cwV 1 hts GV_Sl_94_Fr rfl rfl rfl hd_Fr_addByte_V ⟨Nat.le_of_ble_eq_true rfl, Nat.le_of_ble_eq_true rfl⟩) (hq_preV1 hW eq14 rfl rfl) rfl rfl hl.1 rfl (lv_room (by first | exact Nat.le_of_ble_eq_true rfl | (simp only [List.map, rf_cat]; exact Nat.le_of_ble_eq_true rfl))) dSl_writeBits_26 ⟨Nat.le_of_ble_eq_true rfl, Nat.le_of_ble_eq_true rfl⟩) hW rfl rfl (fun H locs hW => ?_)
  refine lv_iconst hx hb dSl_writeBits_29 (v := (0 : Int32)) rfl ?_
  refine lv_istore (lv' := [(4, .int (0 : Int32)), (3, va_rf r3), (0, .ref t0), (1, .ref t1), (2, .ref t2)]) hx hb dSl_writeBits_30 hl (Nat.le_of_ble_eq_true rfl) (by first | rfl | (simp [List.filter, rf_cat] <;> rfl)) (fun ls hl => ?_)
  replace h := ob h; obtain ⟨S18, eS18, h⟩ := h
  have hX : (fun q' => ∀ (H : Heap) (locs : List Loc) (ls : Array Slot), lv_has ls 7 [(2, .ref t2)] → Wd D vwCl (hTy tc) b q' s H locs → W p l e { frames := 3, cells := 0, slots := 0, locals := 120 } s m args below meth c H locs 0 0 (MQ below (va_Qv (fun _ : Unit => True) (fun _ => Wp D vwCl (hTy tc) b Sz) (fun q => b ≤ q)) args s 0 0 (fun q => b ≤ q)) (F0 m 112 ls [])) S18 := by
    intro H locs ls hl hW
    refine lv_aload_n hx hb dSl_writeBits_112 rfl (lv_at hl 0 rfl) ?_
    replace h := ob h; obtain ⟨q41, eq41, h⟩ := h
    replace h := ob h; obtain ⟨S40, eS40, h⟩ := h
    refine hq_callv (ce := 0) (sl := 0) (va_runV (As := []) (rest := []) ⟨hx, hb, hml, hown, hts⟩ (kFr_addSum l D tc b t2 S18 _ eS40) (cwV 0 hts GV_Sl_97_Fr rfl rfl rfl hd_Fr_addSum_V ⟨Nat.le_of_ble_eq_true rfl, Nat.le_of_ble_eq_true rfl⟩) (hq_preV1 hW eq41 rfl rfl) rfl rfl hl.1 rfl (lv_room (by first | exact Nat.le_of_ble_eq_true rfl | (simp only [List.map, rf_cat]; exact Nat.le_of_ble_eq_true rfl))) dSl_writeBits_113 ⟨Nat.le_of_ble_eq_true rfl, Nat.le_of_ble_eq_true rfl⟩) hW rfl rfl (fun H locs hW => ?_)
    exact hq_vret hx hb hr hlocks h (Nat.le_of_ble_eq_true rfl) (Nat.le_of_ble_eq_true rfl) hW dSl_writeBits_116
  refine lp_ind (P := fun q' => ∀ (H : Heap) (locs : List Loc) (ls : Array Slot), lv_has ls 7 [(1, .ref t1), (2, .ref t2), (3, va_rf r3), (4, .int q'.1)] → Wd D vwCl (hTy tc) b q'.2 s H locs → W p l e { frames := 3, cells := 0, slots := 0, locals := 120 } s m args below meth c H locs 0 0 (MQ below (va_Qv (fun _ : Unit => True) (fun _ => Wp D vwCl (hTy tc) b Sz) (fun q => b ≤ q)) args s 0 0 (fun q => b ≤ q)) (F0 m 32 ls [])) (Q := fun q' => ∀ (H : Heap) (locs : List Loc) (ls : Array Slot), lv_has ls 7 [(2, .ref t2)] → Wd D vwCl (hTy tc) b q' s H locs → W p l e { frames := 3, cells := 0, slots := 0, locals := 120 } s m args below meth c H locs 0 0 (MQ below (va_Qv (fun _ : Unit => True) (fun _ => Wp D vwCl (hTy tc) b Sz) (fun q => b ≤ q)) args s 0 0 (fun q => b ≤ q)) (F0 m 112 ls [])) (fun q' x17 h hin hex => ?_) hX _ _ eS18 _ _ _ (lv_sub hl [3, 4, 1, 0] rfl) hW
  obtain ⟨i15, S16⟩ := q'
  intro H locs ls hl hW
  unfold fSl_writeBits_L32 at h
  refine lv_iload hx hb dSl_writeBits_32 (lv_at hl 3 rfl) ?_
  refine lv_aload_n hx hb dSl_writeBits_34 rfl (lv_at hl 0 rfl) ?_
  replace h := ob h; obtain ⟨q21, eq21, h⟩ := h
  replace h := ob h; obtain ⟨⟨v20, S19⟩, eS19, h⟩ := h
  have hR22 : va_Run p l e { frames := 3, cells := 0, slots := 0, locals := 120 } s m args below meth c H locs 0 0 0 0 (F0 m 35 ls [.ref t1, .int i15]) [.int i15] (va_Qi (fun x (_ : Unit) => x = v20) (fun _ => Wp D vwCl (hTy tc) b S19) (fun q => b ≤ q) (.ref t1 :: []).toArray) (fun q => b ≤ q) := by
    rcases mem2 (gO_some eq21).2 with hq | hq
    · exact va_runU (As := []) (rest := [.int i15]) ⟨hx, hb, hml, hown, hts⟩ (kJo_bitBytes l D tc b t1 S16 _ _ eS19) (va_cwU 0 hts GU_Sl_118_Po rfl rfl rfl rfl hd_Jo_bitBytes_U ⟨Nat.le_of_ble_eq_true rfl, Nat.le_of_ble_eq_true rfl⟩) (hq_preV hW (gO_some eq21).1 (by rw [hq]; rfl) rfl) rfl rfl hl.1 rfl (lv_room (by first | exact Nat.le_of_ble_eq_true rfl | (simp only [List.map, rf_cat]; exact Nat.le_of_ble_eq_true rfl))) dSl_writeBits_35 ⟨Nat.le_of_ble_eq_true rfl, Nat.le_of_ble_eq_true rfl⟩
    · exact va_runU (As := []) (rest := [.int i15]) ⟨hx, hb, hml, hown, hts⟩ (kJo_bitBytes l D tc b t1 S16 _ _ eS19) (va_cwU 0 hts GU_Sl_118_Re rfl rfl rfl rfl hd_Jo_bitBytes_U ⟨Nat.le_of_ble_eq_true rfl, Nat.le_of_ble_eq_true rfl⟩) (hq_preV hW (gO_some eq21).1 (by rw [hq]; rfl) rfl) rfl rfl hl.1 rfl (lv_room (by first | exact Nat.le_of_ble_eq_true rfl | (simp only [List.map, rf_cat]; exact Nat.le_of_ble_eq_true rfl))) dSl_writeBits_35 ⟨Nat.le_of_ble_eq_true rfl, Nat.le_of_ble_eq_true rfl⟩
  refine hq_calli (ce := 0) (sl := 0) (hR22) hW rfl rfl (fun H locs hW => ?_)
  refine lv_icmp_ge hx hb dSl_writeBits_38 (tgt := 112) rfl (fun hc39 => ?_) (fun hc39 => ?_)
  · replace h := if_t hc39 h
    exact hex _ (Option.some.inj h).symm _ _ _ (lv_sub hl [1] rfl) hW
  · replace h := if_f hc39 h
    refine lv_iconst hx hb dSl_writeBits_41 (v := (0 : Int32)) rfl ?_
    refine lv_istore (lv' := [(5, .int (0 : Int32)), (1, .ref t1), (2, .ref t2), (3, va_rf r3), (4, .int i15)]) hx hb dSl_writeBits_42 hl (Nat.le_of_ble_eq_true rfl) (by first | rfl | (simp [List.filter, rf_cat] <;> rfl)) (fun ls hl => ?_)
    refine lv_iconst hx hb dSl_writeBits_44 (v := (0 : Int32)) rfl ?_
    refine lv_istore (lv' := [(6, .int (0 : Int32)), (5, .int (0 : Int32)), (1, .ref t1), (2, .ref t2), (3, va_rf r3), (4, .int i15)]) hx hb dSl_writeBits_45 hl (Nat.le_of_ble_eq_true rfl) (by first | rfl | (simp [List.filter, rf_cat] <;> rfl)) (fun ls hl => ?_)
    replace h := ob h; obtain ⟨q38, eq38, h⟩ := h
    have hX : (fun q' => ∀ (H : Heap) (locs : List Loc) (ls : Array Slot), lv_has ls 7 [(1, .ref t1), (2, .ref t2), (3, va_rf r3), (4, .int i15), (5, .int q'.1)] → Wd D vwCl (hTy tc) b q'.2 s H locs → W p l e { frames := 3, cells := 0, slots := 0, locals := 120 } s m args below meth c H locs 0 0 (MQ below (va_Qv (fun _ : Unit => True) (fun _ => Wp D vwCl (hTy tc) b Sz) (fun q => b ≤ q)) args s 0 0 (fun q => b ≤ q)) (F0 m 100 ls [])) q38 := by
      obtain ⟨i27, S28⟩ := q38
      intro H locs ls hl hW
      refine lv_aload_n hx hb dSl_writeBits_100 rfl (lv_at hl 1 rfl) ?_
      refine lv_iload hx hb dSl_writeBits_101 (lv_at hl 4 rfl) ?_
      replace h := ob h; obtain ⟨q37, eq37, h⟩ := h
      replace h := ob h; obtain ⟨S36, eS36, h⟩ := h
      refine hq_callv (ce := 0) (sl := 0) (va_runV (As := [.int i27]) (rest := []) ⟨hx, hb, hml, hown, hts⟩ (kFr_addByte l D tc b t2 i27 S28 _ eS36) (cwV 1 hts GV_Sl_94_Fr rfl rfl rfl hd_Fr_addByte_V ⟨Nat.le_of_ble_eq_true rfl, Nat.le_of_ble_eq_true rfl⟩) (hq_preV1 hW eq37 rfl rfl) rfl rfl hl.1 rfl (lv_room (by first | exact Nat.le_of_ble_eq_true rfl | (simp only [List.map, rf_cat]; exact Nat.le_of_ble_eq_true rfl))) dSl_writeBits_103 ⟨Nat.le_of_ble_eq_true rfl, Nat.le_of_ble_eq_true rfl⟩) hW rfl rfl (fun H locs hW => ?_)
      refine lv_iinc (k := 3) (v := i15 + 1) (lv' := [(4, .int (i15 + 1)), (1, .ref t1), (2, .ref t2), (3, va_rf r3), (5, .int i27)]) hx hb dSl_writeBits_106 hl rfl rfl (Nat.le_of_ble_eq_true rfl) (by first | rfl | (simp [List.filter, rf_cat] <;> rfl)) (fun ls hl => ?_)
      refine lv_goto hx hb dSl_writeBits_109 (tgt := 32) rfl ?_
      exact hin _ (Option.some.inj h).symm _ _ _ (lv_sub hl [1, 2, 3, 0] rfl) hW
    refine lp_ind (P := fun q' => ∀ (H : Heap) (locs : List Loc) (ls : Array Slot), lv_has ls 7 [(1, .ref t1), (2, .ref t2), (3, va_rf r3), (4, .int i15), (5, .int q'.1), (6, .int q'.2.1)] → Wd D vwCl (hTy tc) b q'.2.2 s H locs → W p l e { frames := 3, cells := 0, slots := 0, locals := 120 } s m args below meth c H locs 0 0 (MQ below (va_Qv (fun _ : Unit => True) (fun _ => Wp D vwCl (hTy tc) b Sz) (fun q => b ≤ q)) args s 0 0 (fun q => b ≤ q)) (F0 m 47 ls [])) (Q := fun q' => ∀ (H : Heap) (locs : List Loc) (ls : Array Slot), lv_has ls 7 [(1, .ref t1), (2, .ref t2), (3, va_rf r3), (4, .int i15), (5, .int q'.1)] → Wd D vwCl (hTy tc) b q'.2 s H locs → W p l e { frames := 3, cells := 0, slots := 0, locals := 120 } s m args below meth c H locs 0 0 (MQ below (va_Qv (fun _ : Unit => True) (fun _ => Wp D vwCl (hTy tc) b Sz) (fun q => b ≤ q)) args s 0 0 (fun q => b ≤ q)) (F0 m 100 ls [])) (fun q' x26 h hin hex => ?_) hX _ _ eq38 _ _ _ (lv_sub hl [2, 3, 4, 5, 1, 0] rfl) hW
    obtain ⟨i23, i24, S25⟩ := q'
    intro H locs ls hl hW
    unfold fSl_writeBits_L47 at h
    refine lv_iload hx hb dSl_writeBits_47 (lv_at hl 5 rfl) ?_
    refine lv_bipush hx hb dSl_writeBits_49 (v := (8 : Int32)) rfl ?_
    refine lv_icmp_ge hx hb dSl_writeBits_51 (tgt := 100) rfl (fun hc35 => ?_) (fun hc35 => ?_)
    · replace h := if_t hc35 h
      exact hex _ (Option.some.inj h).symm _ _ _ (lv_sub hl [0, 1, 2, 3, 4] rfl) hW
    · replace h := if_f hc35 h
      refine lv_bipush hx hb dSl_writeBits_54 (v := (8 : Int32)) rfl ?_
      refine lv_iload hx hb dSl_writeBits_56 (lv_at hl 3 rfl) ?_
      refine lv_imul hx hb dSl_writeBits_58 ?_
      refine lv_iload hx hb dSl_writeBits_59 (lv_at hl 5 rfl) ?_
      refine lv_iadd hx hb dSl_writeBits_61 ?_
      refine lv_aload_n hx hb dSl_writeBits_62 rfl (lv_at hl 0 rfl) ?_
      replace h := ob h; obtain ⟨v29, ev29, h⟩ := h
      refine hq_get hx hb hts hown hW (gI_V ev29) (F_Sl_78 hts) dSl_writeBits_63 ?_
      refine lv_icmp_ge hx hb dSl_writeBits_66 (tgt := 100) rfl (fun hc34 => ?_) (fun hc34 => ?_)
      · replace h := if_t hc34 h
        exact hex _ (Option.some.inj h).symm _ _ _ (lv_sub hl [0, 1, 2, 3, 4] rfl) hW
      · replace h := if_f hc34 h
        refine lv_iload hx hb dSl_writeBits_69 (lv_at hl 4 rfl) ?_
        refine hq_aload_n (x := r3) hx hb dSl_writeBits_71 rfl (lv_at hl 2 rfl) ?_
        refine lv_aload_n hx hb dSl_writeBits_72 rfl (lv_at hl 0 rfl) ?_
        replace h := ob h; obtain ⟨v30, ev30, h⟩ := h
        refine hq_get hx hb hts hown hW (gI_V ev30) (F_Sl_58 hts) dSl_writeBits_73 ?_
        refine lv_bipush hx hb dSl_writeBits_76 (v := (8 : Int32)) rfl ?_
        refine lv_iload hx hb dSl_writeBits_78 (lv_at hl 3 rfl) ?_
        refine lv_imul hx hb dSl_writeBits_80 ?_
        refine lv_iadd hx hb dSl_writeBits_81 ?_
        refine lv_iload hx hb dSl_writeBits_82 (lv_at hl 5 rfl) ?_
        refine lv_iadd hx hb dSl_writeBits_84 ?_
        replace h := ob h; obtain ⟨a31, hra31, h⟩ := h
        subst hra31
        replace h := ob h; obtain ⟨⟨v33, S32⟩, eS32, h⟩ := h
        refine hq_calli (ce := 0) (sl := 0) (va_runS (As := [.ref a31, .int ((v30 + ((8 : Int32) * i15)) + i24)]) (rest := [.int i23]) ⟨hx, hb, hml, hown, hts⟩ (kSl_get l D tc b a31 ((v30 + ((8 : Int32) * i15)) + i24) S25 _ _ eS32) (cwS 2 hts GS_Sl_70 rfl rfl rfl hd_Sl_get_S_Sl ⟨Nat.le_of_ble_eq_true rfl, Nat.le_of_ble_eq_true rfl⟩) (hq_preS hW) rfl rfl hl.1 rfl (lv_room (by first | exact Nat.le_of_ble_eq_true rfl | (simp only [List.map, rf_cat]; exact Nat.le_of_ble_eq_true rfl))) dSl_writeBits_85 ⟨Nat.le_of_ble_eq_true rfl, Nat.le_of_ble_eq_true rfl⟩) hW rfl rfl (fun H locs hW => ?_)
        refine lv_iload hx hb dSl_writeBits_88 (lv_at hl 5 rfl) ?_
        refine lv_ishl hx hb dSl_writeBits_90 ?_
        refine lv_ior hx hb dSl_writeBits_91 ?_
        refine lv_istore (lv' := [(5, .int (i23 ||| (v33 <<< (i24 &&& 31)))), (1, .ref t1), (2, .ref t2), (3, .ref a31), (4, .int i15), (6, .int i24)]) hx hb dSl_writeBits_92 hl (Nat.le_of_ble_eq_true rfl) (by first | rfl | (simp [List.filter, rf_cat] <;> rfl)) (fun ls hl => ?_)
        refine lv_iinc (k := 5) (v := i24 + 1) (lv' := [(6, .int (i24 + 1)), (5, .int (i23 ||| (v33 <<< (i24 &&& 31)))), (1, .ref t1), (2, .ref t2), (3, .ref a31), (4, .int i15)]) hx hb dSl_writeBits_94 hl rfl rfl (Nat.le_of_ble_eq_true rfl) (by first | rfl | (simp [List.filter, rf_cat] <;> rfl)) (fun ls hl => ?_)
        refine lv_goto hx hb dSl_writeBits_97 (tgt := 47) rfl ?_
        exact hin _ (Option.some.inj h).symm _ _ _ (lv_sub hl [2, 3, 4, 5, 1, 0] rfl) hW
def fSl_writeWords_L34 (t1 : Nat) (t2 : Nat) (r3 : Option Nat) : Int32 × Ws → Option ((Int32 × Ws) ⊕ (Ws)) :=
  fun (i12, S13) => (gI S13 t1 [3, 4] 4).bind fun v16 => if v16 ≤ i12 then some (.inr S13) else (gI S13 t1 [3, 4] 3).bind fun v17 => (r3).bind fun a18 => (fSl_get a18 (v17 + i12) S13).bind fun (v20, S19) => (gO S19 t2 [0]).bind fun q22 => (fFr_addWord t2 v20 S19).bind fun S21 => some (.inl (i12 + 1, S21))
def fSl_writeWords (t0 : Nat) (t1 : Nat) (t2 : Nat) (S : Ws) : Option (Ws) :=
  (gI S t1 [3, 4] 2).bind fun v1 => (gO S t0 [5]).bind fun q4 => (fSl_tableOf t0 v1 S).bind fun (r3, S2) => (gI S2 t1 [3, 4] 1).bind fun v5 => (gI S2 t1 [3, 4] 2).bind fun v6 => (gO S2 t2 [0]).bind fun q8 => (fFr_begin t2 v5 v6 S2).bind fun S7 => (gI S7 t1 [3, 4] 4).bind fun v9 => (gO S7 t2 [0]).bind fun q11 => (fFr_addByte t2 ((2 : Int32) * v9) S7).bind fun S10 => (lp (fSl_writeWords_L34 t1 t2 r3) 1000 ((0 : Int32), S10)).bind fun S15 => (gO S15 t2 [0]).bind fun q25 => (fFr_addSum t2 S15).bind fun S24 => some S24
set_option maxRecDepth 100000 in
set_option maxHeartbeats 4000000 in
theorem kSl_writeWords (l : Launch) (D : va_G) (tc : Nat → ClassId) (b : Nat) (t0 : Nat) (t1 : Nat) (t2 : Nat) (S Sz : Ws) (h : fSl_writeWords t0 t1 t2 S = some Sz) : Met l ySl_writeWords wsSl_writeWords { frames := 3, cells := 0, slots := 0, locals := 120 } (va_Pc [.ref t0, .ref t1, .ref t2] (Wp D vwCl (hTy tc) b S)) (va_Qv (fun _ : Unit => True) (fun _ => Wp D vwCl (hTy tc) b Sz) (fun q => b ≤ q)) 0 0 (fun q => b ≤ q) := by
  refine hq_ofW (cc := cSl_writeWords) (maxL := 5) (ret := none) (by decide) rfl (Nat.le_of_ble_eq_true rfl) fun p e s m args below meth c hx hb hr hts hown hlocks hnm hml H locs ls hl hW => ?_
  have hts : ∀ w ∈ lwG, w.before args s = true := fun w h => hts w (List.mem_cons_of_mem _ h)
  have hown : s.vm.findClass "SerialPlant$Slave" = some m.cls := hown
  have hl : lv_has ls 5 [(0, .ref t0), (1, .ref t1), (2, .ref t2)] := hl
  unfold fSl_writeWords at h
  refine lv_aload_n hx hb dSl_writeWords_0 rfl (lv_at hl 0 rfl) ?_
  refine lv_aload_n hx hb dSl_writeWords_1 rfl (lv_at hl 1 rfl) ?_
  replace h := ob h; obtain ⟨v1, ev1, h⟩ := h
  refine hq_get hx hb hts hown hW (gI_V ev1) (F_Sl_47 hts) dSl_writeWords_2 ?_
  replace h := ob h; obtain ⟨q4, eq4, h⟩ := h
  replace h := ob h; obtain ⟨⟨r3, S2⟩, eS2, h⟩ := h
  refine hq_callq (ce := 0) (sl := 0) (va_runV (As := [.int v1]) (rest := []) ⟨hx, hb, hml, hown, hts⟩ (kSl_tableOf l D tc b t0 v1 S _ _ eS2) (cwV 1 hts GV_Sl_114_Sl rfl rfl rfl hd_Sl_tableOf_V ⟨Nat.le_of_ble_eq_true rfl, Nat.le_of_ble_eq_true rfl⟩) (hq_preV1 hW eq4 rfl rfl) rfl rfl hl.1 rfl (lv_room (by first | exact Nat.le_of_ble_eq_true rfl | (simp only [List.map, rf_cat]; exact Nat.le_of_ble_eq_true rfl))) dSl_writeWords_5 ⟨Nat.le_of_ble_eq_true rfl, Nat.le_of_ble_eq_true rfl⟩) hW rfl rfl (fun H locs hW => ?_)
  refine hq_astore_n (x := r3) (lv' := [(3, va_rf r3), (0, .ref t0), (1, .ref t1), (2, .ref t2)]) hx hb dSl_writeWords_8 rfl hl (Nat.le_of_ble_eq_true rfl) (by first | rfl | (simp [List.filter, rf_cat] <;> rfl)) (fun ls hl => ?_)
  refine lv_aload_n hx hb dSl_writeWords_9 rfl (lv_at hl 3 rfl) ?_
  refine lv_aload_n hx hb dSl_writeWords_10 rfl (lv_at hl 2 rfl) ?_
  replace h := ob h; obtain ⟨v5, ev5, h⟩ := h
  refine hq_get hx hb hts hown hW (gI_V ev5) (F_Sl_41 hts) dSl_writeWords_11 ?_
  refine lv_aload_n hx hb dSl_writeWords_14 rfl (lv_at hl 2 rfl) ?_
  replace h := ob h; obtain ⟨v6, ev6, h⟩ := h
  refine hq_get hx hb hts hown hW (gI_V ev6) (F_Sl_47 hts) dSl_writeWords_15 ?_
  replace h := ob h; obtain ⟨q8, eq8, h⟩ := h
  replace h := ob h; obtain ⟨S7, eS7, h⟩ := h
  refine hq_callv (ce := 0) (sl := 0) (va_runV (As := [.int v5, .int v6]) (rest := []) ⟨hx, hb, hml, hown, hts⟩ (kFr_begin l D tc b t2 v5 v6 S2 _ eS7) (cwV 2 hts GV_Sl_88_Fr rfl rfl rfl hd_Fr_begin_V ⟨Nat.le_of_ble_eq_true rfl, Nat.le_of_ble_eq_true rfl⟩) (hq_preV1 hW eq8 rfl rfl) rfl rfl hl.1 rfl (lv_room (by first | exact Nat.le_of_ble_eq_true rfl | (simp only [List.map, rf_cat]; exact Nat.le_of_ble_eq_true rfl))) dSl_writeWords_18 ⟨Nat.le_of_ble_eq_true rfl, Nat.le_of_ble_eq_true rfl⟩) hW rfl rfl (fun H locs hW => ?_)
  refine lv_aload_n hx hb dSl_writeWords_21 rfl (lv_at hl 3 rfl) ?_
  refine lv_iconst hx hb dSl_writeWords_22 (v := (2 : Int32)) rfl ?_
  refine lv_aload_n hx hb dSl_writeWords_23 rfl (lv_at hl 2 rfl) ?_
  replace h := ob h; obtain ⟨v9, ev9, h⟩ := h
  refine hq_get hx hb hts hown hW (gI_V ev9) (F_Sl_78 hts) dSl_writeWords_24 ?_
  refine lv_imul hx hb dSl_writeWords_27 ?_
  replace h := ob h; obtain ⟨q11, eq11, h⟩ := h
  replace h := ob h; obtain ⟨S10, eS10, h⟩ := h
  refine hq_callv (ce := 0) (sl := 0) (va_runV (As := [.int ((2 : Int32) * v9)]) (rest := []) ⟨hx, hb, hml, hown, hts⟩ (kFr_addByte l D tc b t2 ((2 : Int32) * v9) S7 _ eS10) (cwV 1 hts GV_Sl_94_Fr rfl rfl rfl hd_Fr_addByte_V ⟨Nat.le_of_ble_eq_true rfl, Nat.le_of_ble_eq_true rfl⟩) (hq_preV1 hW eq11 rfl rfl) rfl rfl hl.1 rfl (lv_room (by first | exact Nat.le_of_ble_eq_true rfl | (simp only [List.map, rf_cat]; exact Nat.le_of_ble_eq_true rfl))) dSl_writeWords_28 ⟨Nat.le_of_ble_eq_true rfl, Nat.le_of_ble_eq_true rfl⟩) hW rfl rfl (fun H locs hW => ?_)
  refine lv_iconst hx hb dSl_writeWords_31 (v := (0 : Int32)) rfl ?_
  refine lv_istore (lv' := [(4, .int (0 : Int32)), (3, va_rf r3), (0, .ref t0), (1, .ref t1), (2, .ref t2)]) hx hb dSl_writeWords_32 hl (Nat.le_of_ble_eq_true rfl) (by first | rfl | (simp [List.filter, rf_cat] <;> rfl)) (fun ls hl => ?_)
  replace h := ob h; obtain ⟨S15, eS15, h⟩ := h
  have hX : (fun q' => ∀ (H : Heap) (locs : List Loc) (ls : Array Slot), lv_has ls 5 [(2, .ref t2)] → Wd D vwCl (hTy tc) b q' s H locs → W p l e { frames := 3, cells := 0, slots := 0, locals := 120 } s m args below meth c H locs 0 0 (MQ below (va_Qv (fun _ : Unit => True) (fun _ => Wp D vwCl (hTy tc) b Sz) (fun q => b ≤ q)) args s 0 0 (fun q => b ≤ q)) (F0 m 64 ls [])) S15 := by
    intro H locs ls hl hW
    refine lv_aload_n hx hb dSl_writeWords_64 rfl (lv_at hl 0 rfl) ?_
    replace h := ob h; obtain ⟨q25, eq25, h⟩ := h
    replace h := ob h; obtain ⟨S24, eS24, h⟩ := h
    refine hq_callv (ce := 0) (sl := 0) (va_runV (As := []) (rest := []) ⟨hx, hb, hml, hown, hts⟩ (kFr_addSum l D tc b t2 S15 _ eS24) (cwV 0 hts GV_Sl_97_Fr rfl rfl rfl hd_Fr_addSum_V ⟨Nat.le_of_ble_eq_true rfl, Nat.le_of_ble_eq_true rfl⟩) (hq_preV1 hW eq25 rfl rfl) rfl rfl hl.1 rfl (lv_room (by first | exact Nat.le_of_ble_eq_true rfl | (simp only [List.map, rf_cat]; exact Nat.le_of_ble_eq_true rfl))) dSl_writeWords_65 ⟨Nat.le_of_ble_eq_true rfl, Nat.le_of_ble_eq_true rfl⟩) hW rfl rfl (fun H locs hW => ?_)
    exact hq_vret hx hb hr hlocks h (Nat.le_of_ble_eq_true rfl) (Nat.le_of_ble_eq_true rfl) hW dSl_writeWords_68
  refine lp_ind (P := fun q' => ∀ (H : Heap) (locs : List Loc) (ls : Array Slot), lv_has ls 5 [(1, .ref t1), (2, .ref t2), (3, va_rf r3), (4, .int q'.1)] → Wd D vwCl (hTy tc) b q'.2 s H locs → W p l e { frames := 3, cells := 0, slots := 0, locals := 120 } s m args below meth c H locs 0 0 (MQ below (va_Qv (fun _ : Unit => True) (fun _ => Wp D vwCl (hTy tc) b Sz) (fun q => b ≤ q)) args s 0 0 (fun q => b ≤ q)) (F0 m 34 ls [])) (Q := fun q' => ∀ (H : Heap) (locs : List Loc) (ls : Array Slot), lv_has ls 5 [(2, .ref t2)] → Wd D vwCl (hTy tc) b q' s H locs → W p l e { frames := 3, cells := 0, slots := 0, locals := 120 } s m args below meth c H locs 0 0 (MQ below (va_Qv (fun _ : Unit => True) (fun _ => Wp D vwCl (hTy tc) b Sz) (fun q => b ≤ q)) args s 0 0 (fun q => b ≤ q)) (F0 m 64 ls [])) (fun q' x14 h hin hex => ?_) hX _ _ eS15 _ _ _ (lv_sub hl [3, 4, 1, 0] rfl) hW
  obtain ⟨i12, S13⟩ := q'
  intro H locs ls hl hW
  unfold fSl_writeWords_L34 at h
  refine lv_iload hx hb dSl_writeWords_34 (lv_at hl 3 rfl) ?_
  refine lv_aload_n hx hb dSl_writeWords_36 rfl (lv_at hl 0 rfl) ?_
  replace h := ob h; obtain ⟨v16, ev16, h⟩ := h
  refine hq_get hx hb hts hown hW (gI_V ev16) (F_Sl_78 hts) dSl_writeWords_37 ?_
  refine lv_icmp_ge hx hb dSl_writeWords_40 (tgt := 64) rfl (fun hc23 => ?_) (fun hc23 => ?_)
  · replace h := if_t hc23 h
    exact hex _ (Option.some.inj h).symm _ _ _ (lv_sub hl [1] rfl) hW
  · replace h := if_f hc23 h
    refine lv_aload_n hx hb dSl_writeWords_43 rfl (lv_at hl 1 rfl) ?_
    refine hq_aload_n (x := r3) hx hb dSl_writeWords_44 rfl (lv_at hl 2 rfl) ?_
    refine lv_aload_n hx hb dSl_writeWords_45 rfl (lv_at hl 0 rfl) ?_
    replace h := ob h; obtain ⟨v17, ev17, h⟩ := h
    refine hq_get hx hb hts hown hW (gI_V ev17) (F_Sl_58 hts) dSl_writeWords_46 ?_
    refine lv_iload hx hb dSl_writeWords_49 (lv_at hl 3 rfl) ?_
    refine lv_iadd hx hb dSl_writeWords_51 ?_
    replace h := ob h; obtain ⟨a18, hra18, h⟩ := h
    subst hra18
    replace h := ob h; obtain ⟨⟨v20, S19⟩, eS19, h⟩ := h
    refine hq_calli (ce := 0) (sl := 0) (va_runS (As := [.ref a18, .int (v17 + i12)]) (rest := [.ref t2]) ⟨hx, hb, hml, hown, hts⟩ (kSl_get l D tc b a18 (v17 + i12) S13 _ _ eS19) (cwS 2 hts GS_Sl_70 rfl rfl rfl hd_Sl_get_S_Sl ⟨Nat.le_of_ble_eq_true rfl, Nat.le_of_ble_eq_true rfl⟩) (hq_preS hW) rfl rfl hl.1 rfl (lv_room (by first | exact Nat.le_of_ble_eq_true rfl | (simp only [List.map, rf_cat]; exact Nat.le_of_ble_eq_true rfl))) dSl_writeWords_52 ⟨Nat.le_of_ble_eq_true rfl, Nat.le_of_ble_eq_true rfl⟩) hW rfl rfl (fun H locs hW => ?_)
    replace h := ob h; obtain ⟨q22, eq22, h⟩ := h
    replace h := ob h; obtain ⟨S21, eS21, h⟩ := h
    refine hq_callv (ce := 0) (sl := 0) (va_runV (As := [.int v20]) (rest := []) ⟨hx, hb, hml, hown, hts⟩ (kFr_addWord l D tc b t2 v20 S19 _ eS21) (cwV 1 hts GV_Sl_107_Fr rfl rfl rfl hd_Fr_addWord_V ⟨Nat.le_of_ble_eq_true rfl, Nat.le_of_ble_eq_true rfl⟩) (hq_preV1 hW eq22 rfl rfl) rfl rfl hl.1 rfl (lv_room (by first | exact Nat.le_of_ble_eq_true rfl | (simp only [List.map, rf_cat]; exact Nat.le_of_ble_eq_true rfl))) dSl_writeWords_55 ⟨Nat.le_of_ble_eq_true rfl, Nat.le_of_ble_eq_true rfl⟩) hW rfl rfl (fun H locs hW => ?_)
    refine lv_iinc (k := 3) (v := i12 + 1) (lv' := [(4, .int (i12 + 1)), (1, .ref t1), (2, .ref t2), (3, .ref a18)]) hx hb dSl_writeWords_58 hl rfl rfl (Nat.le_of_ble_eq_true rfl) (by first | rfl | (simp [List.filter, rf_cat] <;> rfl)) (fun ls hl => ?_)
    refine lv_goto hx hb dSl_writeWords_61 (tgt := 34) rfl ?_
    exact hin _ (Option.some.inj h).symm _ _ _ (lv_sub hl [1, 2, 3, 0] rfl) hW
def fSl_writeAnswer (t0 : Nat) (t1 : Nat) (t2 : Nat) (t3 : Nat) (S : Ws) : Option (Ws) :=
  (gO S t1 [3, 4]).bind fun q3 => (fJo_refusal t1 S).bind fun (v2, S1) => if v2 = 0 then (gI S1 t1 [3, 4] 2).bind fun v5 => if v5 = 1 ∨ v5 = 2 then (gO S1 t0 [5]).bind fun q8 => (fSl_writeBits t0 t1 t3 S1).bind fun S7 => some S7 else if v5 = 3 ∨ v5 = 4 then (gO S1 t0 [5]).bind fun q12 => (fSl_writeWords t0 t1 t3 S1).bind fun S11 => some S11 else if v5 = 5 ∨ v5 = 6 ∨ v5 = 7 ∨ v5 = 8 ∨ v5 = 9 ∨ v5 = 10 ∨ v5 = 11 ∨ v5 = 12 ∨ v5 = 13 ∨ v5 = 14 then (gO S1 t3 [0]).bind fun q16 => (fFr_copyFrom t3 t2 S1).bind fun S15 => some S15 else if v5 = 15 ∨ v5 = 16 then (gI S1 t1 [3, 4] 1).bind fun v19 => (gI S1 t1 [3, 4] 2).bind fun v20 => (gO S1 t3 [0]).bind fun q22 => (fFr_begin t3 v19 v20 S1).bind fun S21 => (gI S21 t1 [3, 4] 3).bind fun v23 => (gO S21 t3 [0]).bind fun q25 => (fFr_addWord t3 v23 S21).bind fun S24 => (gI S24 t1 [3, 4] 4).bind fun v26 => (gO S24 t3 [0]).bind fun q28 => (fFr_addWord t3 v26 S24).bind fun S27 => (gO S27 t3 [0]).bind fun q30 => (fFr_addSum t3 S27).bind fun S29 => some S29 else (gO S1 t3 [0]).bind fun q33 => (fFr_copyFrom t3 t2 S1).bind fun S32 => some S32 else (gI S1 t1 [3, 4] 1).bind fun v34 => (gI S1 t1 [3, 4] 2).bind fun v35 => (gO S1 t3 [0]).bind fun q37 => (fFr_begin t3 v34 (v35 + (128 : Int32)) S1).bind fun S36 => (gO S36 t3 [0]).bind fun q39 => (fFr_addByte t3 v2 S36).bind fun S38 => (gO S38 t3 [0]).bind fun q41 => (fFr_addSum t3 S38).bind fun S40 => some S40
set_option maxRecDepth 100000 in
set_option maxHeartbeats 4000000 in
theorem kSl_writeAnswer (l : Launch) (D : va_G) (tc : Nat → ClassId) (b : Nat) (t0 : Nat) (t1 : Nat) (t2 : Nat) (t3 : Nat) (S Sz : Ws) (h : fSl_writeAnswer t0 t1 t2 t3 S = some Sz) : Met l ySl_writeAnswer wsSl_writeAnswer { frames := 4, cells := 0, slots := 0, locals := 160 } (va_Pc [.ref t0, .ref t1, .ref t2, .ref t3] (Wp D vwCl (hTy tc) b S)) (va_Qv (fun _ : Unit => True) (fun _ => Wp D vwCl (hTy tc) b Sz) (fun q => b ≤ q)) 0 0 (fun q => b ≤ q) := by
  refine hq_ofW (cc := cSl_writeAnswer) (maxL := 5) (ret := none) (by decide) rfl (Nat.le_of_ble_eq_true rfl) fun p e s m args below meth c hx hb hr hts hown hlocks hnm hml H locs ls hl hW => ?_
  have hts : ∀ w ∈ lwG, w.before args s = true := fun w h => hts w (List.mem_cons_of_mem _ h)
  have hown : s.vm.findClass "SerialPlant$Slave" = some m.cls := hown
  have hl : lv_has ls 5 [(0, .ref t0), (1, .ref t1), (2, .ref t2), (3, .ref t3)] := hl
  unfold fSl_writeAnswer at h
  refine lv_aload_n hx hb dSl_writeAnswer_0 rfl (lv_at hl 1 rfl) ?_
  replace h := ob h; obtain ⟨q3, eq3, h⟩ := h
  replace h := ob h; obtain ⟨⟨v2, S1⟩, eS1, h⟩ := h
  have hR4 : va_Run p l e { frames := 4, cells := 0, slots := 0, locals := 160 } s m args below meth c H locs 0 0 0 0 (F0 m 1 ls [.ref t1]) [] (va_Qi (fun x (_ : Unit) => x = v2) (fun _ => Wp D vwCl (hTy tc) b S1) (fun q => b ≤ q) (.ref t1 :: []).toArray) (fun q => b ≤ q) := by
    rcases mem2 (gO_some eq3).2 with hq | hq
    · exact va_runU (As := []) (rest := []) ⟨hx, hb, hml, hown, hts⟩ (kJo_refusal l D tc b t1 S _ _ eS1) (va_cwU 0 hts GU_Sl_50_Po rfl rfl rfl rfl hd_Jo_refusal_U ⟨Nat.le_of_ble_eq_true rfl, Nat.le_of_ble_eq_true rfl⟩) (hq_preV hW (gO_some eq3).1 (by rw [hq]; rfl) rfl) rfl rfl hl.1 rfl (lv_room (by first | exact Nat.le_of_ble_eq_true rfl | (simp only [List.map, rf_cat]; exact Nat.le_of_ble_eq_true rfl))) dSl_writeAnswer_1 ⟨Nat.le_of_ble_eq_true rfl, Nat.le_of_ble_eq_true rfl⟩
    · exact va_runU (As := []) (rest := []) ⟨hx, hb, hml, hown, hts⟩ (kJo_refusal l D tc b t1 S _ _ eS1) (va_cwU 0 hts GU_Sl_50_Re rfl rfl rfl rfl hd_Jo_refusal_U ⟨Nat.le_of_ble_eq_true rfl, Nat.le_of_ble_eq_true rfl⟩) (hq_preV hW (gO_some eq3).1 (by rw [hq]; rfl) rfl) rfl rfl hl.1 rfl (lv_room (by first | exact Nat.le_of_ble_eq_true rfl | (simp only [List.map, rf_cat]; exact Nat.le_of_ble_eq_true rfl))) dSl_writeAnswer_1 ⟨Nat.le_of_ble_eq_true rfl, Nat.le_of_ble_eq_true rfl⟩
  refine hq_calli (ce := 0) (sl := 0) (hR4) hW rfl rfl (fun H locs hW => ?_)
  refine lv_istore (lv' := [(4, .int v2), (0, .ref t0), (1, .ref t1), (2, .ref t2), (3, .ref t3)]) hx hb dSl_writeAnswer_4 hl (Nat.le_of_ble_eq_true rfl) (by first | rfl | (simp [List.filter, rf_cat] <;> rfl)) (fun ls hl => ?_)
  refine lv_iload hx hb dSl_writeAnswer_6 (lv_at hl 0 rfl) ?_
  refine lv_if_eq hx hb dSl_writeAnswer_8 (tgt := 38) rfl (fun hc42 => ?_) (fun hc42 => ?_)
  · replace h := if_t hc42 h
    refine lv_aload_n hx hb dSl_writeAnswer_38 rfl (lv_at hl 2 rfl) ?_
    replace h := ob h; obtain ⟨v5, ev5, h⟩ := h
    refine hq_get hx hb hts hown hW (gI_V ev5) (F_Sl_47 hts) dSl_writeAnswer_39 ?_
    by_cases hc6 : v5 = 1 ∨ v5 = 2
    · replace h := if_t hc6 h
      have hT9 : W p l e { frames := 4, cells := 0, slots := 0, locals := 160 } s m args below meth c H locs 0 0 (MQ below (va_Qv (fun _ : Unit => True) (fun _ => Wp D vwCl (hTy tc) b Sz) (fun q => b ≤ q)) args s 0 0 (fun q => b ≤ q)) (F0 m 120 ls []) := by
        refine lv_aload_n hx hb dSl_writeAnswer_120 rfl (lv_at hl 1 rfl) ?_
        refine lv_aload_n hx hb dSl_writeAnswer_121 rfl (lv_at hl 2 rfl) ?_
        refine lv_aload_n hx hb dSl_writeAnswer_122 rfl (lv_at hl 4 rfl) ?_
        replace h := ob h; obtain ⟨q8, eq8, h⟩ := h
        replace h := ob h; obtain ⟨S7, eS7, h⟩ := h
        refine hq_callv (ce := 0) (sl := 0) (va_runV (As := [.ref t1, .ref t3]) (rest := []) ⟨hx, hb, hml, hown, hts⟩ (kSl_writeBits l D tc b t0 t1 t3 S1 _ eS7) (cwV 2 hts GV_Sl_100_Sl rfl rfl rfl hd_Sl_writeBits_V ⟨Nat.le_of_ble_eq_true rfl, Nat.le_of_ble_eq_true rfl⟩) (hq_preV1 hW eq8 rfl rfl) rfl rfl hl.1 rfl (lv_room (by first | exact Nat.le_of_ble_eq_true rfl | (simp only [List.map, rf_cat]; exact Nat.le_of_ble_eq_true rfl))) dSl_writeAnswer_123 ⟨Nat.le_of_ble_eq_true rfl, Nat.le_of_ble_eq_true rfl⟩) hW rfl rfl (fun H locs hW => ?_)
        refine lv_goto hx hb dSl_writeAnswer_126 (tgt := 178) rfl ?_
        exact hq_vret hx hb hr hlocks h (Nat.le_of_ble_eq_true rfl) (Nat.le_of_ble_eq_true rfl) hW dSl_writeAnswer_178
      rcases hc6 with hc6 | hc6
      · refine lv_tableIn hx hb dSl_writeAnswer_42 (tgt := 120) (by rw [hc6]; decide) (by rw [hc6]; decide) (by rw [hc6] <;> rfl) rfl ?_
        exact hT9
      · refine lv_tableIn hx hb dSl_writeAnswer_42 (tgt := 120) (by rw [hc6]; decide) (by rw [hc6]; decide) (by rw [hc6] <;> rfl) rfl ?_
        exact hT9
    · replace h := if_f hc6 h
      have hc6n0 : ¬ v5 = 1 := fun q => hc6 (Or.inl q)
      have hc6n1 : ¬ v5 = 2 := fun q => hc6 (Or.inr q)
      by_cases hc10 : v5 = 3 ∨ v5 = 4
      · replace h := if_t hc10 h
        have hT13 : W p l e { frames := 4, cells := 0, slots := 0, locals := 160 } s m args below meth c H locs 0 0 (MQ below (va_Qv (fun _ : Unit => True) (fun _ => Wp D vwCl (hTy tc) b Sz) (fun q => b ≤ q)) args s 0 0 (fun q => b ≤ q)) (F0 m 129 ls []) := by
          refine lv_aload_n hx hb dSl_writeAnswer_129 rfl (lv_at hl 1 rfl) ?_
          refine lv_aload_n hx hb dSl_writeAnswer_130 rfl (lv_at hl 2 rfl) ?_
          refine lv_aload_n hx hb dSl_writeAnswer_131 rfl (lv_at hl 4 rfl) ?_
          replace h := ob h; obtain ⟨q12, eq12, h⟩ := h
          replace h := ob h; obtain ⟨S11, eS11, h⟩ := h
          refine hq_callv (ce := 0) (sl := 0) (va_runV (As := [.ref t1, .ref t3]) (rest := []) ⟨hx, hb, hml, hown, hts⟩ (kSl_writeWords l D tc b t0 t1 t3 S1 _ eS11) (cwV 2 hts GV_Sl_104_Sl rfl rfl rfl hd_Sl_writeWords_V ⟨Nat.le_of_ble_eq_true rfl, Nat.le_of_ble_eq_true rfl⟩) (hq_preV1 hW eq12 rfl rfl) rfl rfl hl.1 rfl (lv_room (by first | exact Nat.le_of_ble_eq_true rfl | (simp only [List.map, rf_cat]; exact Nat.le_of_ble_eq_true rfl))) dSl_writeAnswer_132 ⟨Nat.le_of_ble_eq_true rfl, Nat.le_of_ble_eq_true rfl⟩) hW rfl rfl (fun H locs hW => ?_)
          refine lv_goto hx hb dSl_writeAnswer_135 (tgt := 178) rfl ?_
          exact hq_vret hx hb hr hlocks h (Nat.le_of_ble_eq_true rfl) (Nat.le_of_ble_eq_true rfl) hW dSl_writeAnswer_178
        rcases hc10 with hc10 | hc10
        · refine lv_tableIn hx hb dSl_writeAnswer_42 (tgt := 129) (by rw [hc10]; decide) (by rw [hc10]; decide) (by rw [hc10] <;> rfl) rfl ?_
          exact hT13
        · refine lv_tableIn hx hb dSl_writeAnswer_42 (tgt := 129) (by rw [hc10]; decide) (by rw [hc10]; decide) (by rw [hc10] <;> rfl) rfl ?_
          exact hT13
      · replace h := if_f hc10 h
        have hc10n0 : ¬ v5 = 3 := fun q => hc10 (Or.inl q)
        have hc10n1 : ¬ v5 = 4 := fun q => hc10 (Or.inr q)
        by_cases hc14 : v5 = 5 ∨ v5 = 6 ∨ v5 = 7 ∨ v5 = 8 ∨ v5 = 9 ∨ v5 = 10 ∨ v5 = 11 ∨ v5 = 12 ∨ v5 = 13 ∨ v5 = 14
        · replace h := if_t hc14 h
          have hT17 : W p l e { frames := 4, cells := 0, slots := 0, locals := 160 } s m args below meth c H locs 0 0 (MQ below (va_Qv (fun _ : Unit => True) (fun _ => Wp D vwCl (hTy tc) b Sz) (fun q => b ≤ q)) args s 0 0 (fun q => b ≤ q)) (F0 m 173 ls []) := by
            refine lv_aload_n hx hb dSl_writeAnswer_173 rfl (lv_at hl 4 rfl) ?_
            refine lv_aload_n hx hb dSl_writeAnswer_174 rfl (lv_at hl 3 rfl) ?_
            replace h := ob h; obtain ⟨q16, eq16, h⟩ := h
            replace h := ob h; obtain ⟨S15, eS15, h⟩ := h
            refine hq_callv (ce := 0) (sl := 0) (va_runV (As := [.ref t2]) (rest := []) ⟨hx, hb, hml, hown, hts⟩ (kFr_copyFrom l D tc b t3 t2 S1 _ eS15) (cwV 1 hts GV_Sl_110_Fr rfl rfl rfl hd_Fr_copyFrom_V ⟨Nat.le_of_ble_eq_true rfl, Nat.le_of_ble_eq_true rfl⟩) (hq_preV1 hW eq16 rfl rfl) rfl rfl hl.1 rfl (lv_room (by first | exact Nat.le_of_ble_eq_true rfl | (simp only [List.map, rf_cat]; exact Nat.le_of_ble_eq_true rfl))) dSl_writeAnswer_175 ⟨Nat.le_of_ble_eq_true rfl, Nat.le_of_ble_eq_true rfl⟩) hW rfl rfl (fun H locs hW => ?_)
            exact hq_vret hx hb hr hlocks h (Nat.le_of_ble_eq_true rfl) (Nat.le_of_ble_eq_true rfl) hW dSl_writeAnswer_178
          rcases hc14 with hc14 | hc14 | hc14 | hc14 | hc14 | hc14 | hc14 | hc14 | hc14 | hc14
          · refine lv_tableIn hx hb dSl_writeAnswer_42 (tgt := 173) (by rw [hc14]; decide) (by rw [hc14]; decide) (by rw [hc14] <;> rfl) rfl ?_
            exact hT17
          · refine lv_tableIn hx hb dSl_writeAnswer_42 (tgt := 173) (by rw [hc14]; decide) (by rw [hc14]; decide) (by rw [hc14] <;> rfl) rfl ?_
            exact hT17
          · refine lv_tableIn hx hb dSl_writeAnswer_42 (tgt := 173) (by rw [hc14]; decide) (by rw [hc14]; decide) (by rw [hc14] <;> rfl) rfl ?_
            exact hT17
          · refine lv_tableIn hx hb dSl_writeAnswer_42 (tgt := 173) (by rw [hc14]; decide) (by rw [hc14]; decide) (by rw [hc14] <;> rfl) rfl ?_
            exact hT17
          · refine lv_tableIn hx hb dSl_writeAnswer_42 (tgt := 173) (by rw [hc14]; decide) (by rw [hc14]; decide) (by rw [hc14] <;> rfl) rfl ?_
            exact hT17
          · refine lv_tableIn hx hb dSl_writeAnswer_42 (tgt := 173) (by rw [hc14]; decide) (by rw [hc14]; decide) (by rw [hc14] <;> rfl) rfl ?_
            exact hT17
          · refine lv_tableIn hx hb dSl_writeAnswer_42 (tgt := 173) (by rw [hc14]; decide) (by rw [hc14]; decide) (by rw [hc14] <;> rfl) rfl ?_
            exact hT17
          · refine lv_tableIn hx hb dSl_writeAnswer_42 (tgt := 173) (by rw [hc14]; decide) (by rw [hc14]; decide) (by rw [hc14] <;> rfl) rfl ?_
            exact hT17
          · refine lv_tableIn hx hb dSl_writeAnswer_42 (tgt := 173) (by rw [hc14]; decide) (by rw [hc14]; decide) (by rw [hc14] <;> rfl) rfl ?_
            exact hT17
          · refine lv_tableIn hx hb dSl_writeAnswer_42 (tgt := 173) (by rw [hc14]; decide) (by rw [hc14]; decide) (by rw [hc14] <;> rfl) rfl ?_
            exact hT17
        · replace h := if_f hc14 h
          have hc14n0 : ¬ v5 = 5 := fun q => hc14 (Or.inl q)
          have hc14n1 : ¬ v5 = 6 := fun q => hc14 (Or.inr (Or.inl q))
          have hc14n2 : ¬ v5 = 7 := fun q => hc14 (Or.inr (Or.inr (Or.inl q)))
          have hc14n3 : ¬ v5 = 8 := fun q => hc14 (Or.inr (Or.inr (Or.inr (Or.inl q))))
          have hc14n4 : ¬ v5 = 9 := fun q => hc14 (Or.inr (Or.inr (Or.inr (Or.inr (Or.inl q)))))
          have hc14n5 : ¬ v5 = 10 := fun q => hc14 (Or.inr (Or.inr (Or.inr (Or.inr (Or.inr (Or.inl q))))))
          have hc14n6 : ¬ v5 = 11 := fun q => hc14 (Or.inr (Or.inr (Or.inr (Or.inr (Or.inr (Or.inr (Or.inl q)))))))
          have hc14n7 : ¬ v5 = 12 := fun q => hc14 (Or.inr (Or.inr (Or.inr (Or.inr (Or.inr (Or.inr (Or.inr (Or.inl q))))))))
          have hc14n8 : ¬ v5 = 13 := fun q => hc14 (Or.inr (Or.inr (Or.inr (Or.inr (Or.inr (Or.inr (Or.inr (Or.inr (Or.inl q)))))))))
          have hc14n9 : ¬ v5 = 14 := fun q => hc14 (Or.inr (Or.inr (Or.inr (Or.inr (Or.inr (Or.inr (Or.inr (Or.inr (Or.inr q)))))))))
          by_cases hc18 : v5 = 15 ∨ v5 = 16
          · replace h := if_t hc18 h
            have hT31 : W p l e { frames := 4, cells := 0, slots := 0, locals := 160 } s m args below meth c H locs 0 0 (MQ below (va_Qv (fun _ : Unit => True) (fun _ => Wp D vwCl (hTy tc) b Sz) (fun q => b ≤ q)) args s 0 0 (fun q => b ≤ q)) (F0 m 138 ls []) := by
              refine lv_aload_n hx hb dSl_writeAnswer_138 rfl (lv_at hl 4 rfl) ?_
              refine lv_aload_n hx hb dSl_writeAnswer_139 rfl (lv_at hl 2 rfl) ?_
              replace h := ob h; obtain ⟨v19, ev19, h⟩ := h
              refine hq_get hx hb hts hown hW (gI_V ev19) (F_Sl_41 hts) dSl_writeAnswer_140 ?_
              refine lv_aload_n hx hb dSl_writeAnswer_143 rfl (lv_at hl 2 rfl) ?_
              replace h := ob h; obtain ⟨v20, ev20, h⟩ := h
              refine hq_get hx hb hts hown hW (gI_V ev20) (F_Sl_47 hts) dSl_writeAnswer_144 ?_
              replace h := ob h; obtain ⟨q22, eq22, h⟩ := h
              replace h := ob h; obtain ⟨S21, eS21, h⟩ := h
              refine hq_callv (ce := 0) (sl := 0) (va_runV (As := [.int v19, .int v20]) (rest := []) ⟨hx, hb, hml, hown, hts⟩ (kFr_begin l D tc b t3 v19 v20 S1 _ eS21) (cwV 2 hts GV_Sl_88_Fr rfl rfl rfl hd_Fr_begin_V ⟨Nat.le_of_ble_eq_true rfl, Nat.le_of_ble_eq_true rfl⟩) (hq_preV1 hW eq22 rfl rfl) rfl rfl hl.1 rfl (lv_room (by first | exact Nat.le_of_ble_eq_true rfl | (simp only [List.map, rf_cat]; exact Nat.le_of_ble_eq_true rfl))) dSl_writeAnswer_147 ⟨Nat.le_of_ble_eq_true rfl, Nat.le_of_ble_eq_true rfl⟩) hW rfl rfl (fun H locs hW => ?_)
              refine lv_aload_n hx hb dSl_writeAnswer_150 rfl (lv_at hl 4 rfl) ?_
              refine lv_aload_n hx hb dSl_writeAnswer_151 rfl (lv_at hl 2 rfl) ?_
              replace h := ob h; obtain ⟨v23, ev23, h⟩ := h
              refine hq_get hx hb hts hown hW (gI_V ev23) (F_Sl_58 hts) dSl_writeAnswer_152 ?_
              replace h := ob h; obtain ⟨q25, eq25, h⟩ := h
              replace h := ob h; obtain ⟨S24, eS24, h⟩ := h
              refine hq_callv (ce := 0) (sl := 0) (va_runV (As := [.int v23]) (rest := []) ⟨hx, hb, hml, hown, hts⟩ (kFr_addWord l D tc b t3 v23 S21 _ eS24) (cwV 1 hts GV_Sl_107_Fr rfl rfl rfl hd_Fr_addWord_V ⟨Nat.le_of_ble_eq_true rfl, Nat.le_of_ble_eq_true rfl⟩) (hq_preV1 hW eq25 rfl rfl) rfl rfl hl.1 rfl (lv_room (by first | exact Nat.le_of_ble_eq_true rfl | (simp only [List.map, rf_cat]; exact Nat.le_of_ble_eq_true rfl))) dSl_writeAnswer_155 ⟨Nat.le_of_ble_eq_true rfl, Nat.le_of_ble_eq_true rfl⟩) hW rfl rfl (fun H locs hW => ?_)
              refine lv_aload_n hx hb dSl_writeAnswer_158 rfl (lv_at hl 4 rfl) ?_
              refine lv_aload_n hx hb dSl_writeAnswer_159 rfl (lv_at hl 2 rfl) ?_
              replace h := ob h; obtain ⟨v26, ev26, h⟩ := h
              refine hq_get hx hb hts hown hW (gI_V ev26) (F_Sl_78 hts) dSl_writeAnswer_160 ?_
              replace h := ob h; obtain ⟨q28, eq28, h⟩ := h
              replace h := ob h; obtain ⟨S27, eS27, h⟩ := h
              refine hq_callv (ce := 0) (sl := 0) (va_runV (As := [.int v26]) (rest := []) ⟨hx, hb, hml, hown, hts⟩ (kFr_addWord l D tc b t3 v26 S24 _ eS27) (cwV 1 hts GV_Sl_107_Fr rfl rfl rfl hd_Fr_addWord_V ⟨Nat.le_of_ble_eq_true rfl, Nat.le_of_ble_eq_true rfl⟩) (hq_preV1 hW eq28 rfl rfl) rfl rfl hl.1 rfl (lv_room (by first | exact Nat.le_of_ble_eq_true rfl | (simp only [List.map, rf_cat]; exact Nat.le_of_ble_eq_true rfl))) dSl_writeAnswer_163 ⟨Nat.le_of_ble_eq_true rfl, Nat.le_of_ble_eq_true rfl⟩) hW rfl rfl (fun H locs hW => ?_)
              refine lv_aload_n hx hb dSl_writeAnswer_166 rfl (lv_at hl 4 rfl) ?_
              replace h := ob h; obtain ⟨q30, eq30, h⟩ := h
              replace h := ob h; obtain ⟨S29, eS29, h⟩ := h
              refine hq_callv (ce := 0) (sl := 0) (va_runV (As := []) (rest := []) ⟨hx, hb, hml, hown, hts⟩ (kFr_addSum l D tc b t3 S27 _ eS29) (cwV 0 hts GV_Sl_97_Fr rfl rfl rfl hd_Fr_addSum_V ⟨Nat.le_of_ble_eq_true rfl, Nat.le_of_ble_eq_true rfl⟩) (hq_preV1 hW eq30 rfl rfl) rfl rfl hl.1 rfl (lv_room (by first | exact Nat.le_of_ble_eq_true rfl | (simp only [List.map, rf_cat]; exact Nat.le_of_ble_eq_true rfl))) dSl_writeAnswer_167 ⟨Nat.le_of_ble_eq_true rfl, Nat.le_of_ble_eq_true rfl⟩) hW rfl rfl (fun H locs hW => ?_)
              refine lv_goto hx hb dSl_writeAnswer_170 (tgt := 178) rfl ?_
              exact hq_vret hx hb hr hlocks h (Nat.le_of_ble_eq_true rfl) (Nat.le_of_ble_eq_true rfl) hW dSl_writeAnswer_178
            rcases hc18 with hc18 | hc18
            · refine lv_tableIn hx hb dSl_writeAnswer_42 (tgt := 138) (by rw [hc18]; decide) (by rw [hc18]; decide) (by rw [hc18] <;> rfl) rfl ?_
              exact hT31
            · refine lv_tableIn hx hb dSl_writeAnswer_42 (tgt := 138) (by rw [hc18]; decide) (by rw [hc18]; decide) (by rw [hc18] <;> rfl) rfl ?_
              exact hT31
          · replace h := if_f hc18 h
            have hc18n0 : ¬ v5 = 15 := fun q => hc18 (Or.inl q)
            have hc18n1 : ¬ v5 = 16 := fun q => hc18 (Or.inr q)
            refine lv_tableOut hx hb dSl_writeAnswer_42 (tgt := 173) (by have g0 := lv_neT hc6n0 (a := 1) rfl; have g1 := lv_neT hc6n1 (a := 2) rfl; have g2 := lv_neT hc10n0 (a := 3) rfl; have g3 := lv_neT hc10n1 (a := 4) rfl; have g4 := lv_neT hc14n0 (a := 5) rfl; have g5 := lv_neT hc14n1 (a := 6) rfl; have g6 := lv_neT hc14n2 (a := 7) rfl; have g7 := lv_neT hc14n3 (a := 8) rfl; have g8 := lv_neT hc14n4 (a := 9) rfl; have g9 := lv_neT hc14n5 (a := 10) rfl; have g10 := lv_neT hc14n6 (a := 11) rfl; have g11 := lv_neT hc14n7 (a := 12) rfl; have g12 := lv_neT hc14n8 (a := 13) rfl; have g13 := lv_neT hc14n9 (a := 14) rfl; have g14 := lv_neT hc18n0 (a := 15) rfl; have g15 := lv_neT hc18n1 (a := 16) rfl; omega) rfl ?_
            refine lv_aload_n hx hb dSl_writeAnswer_173 rfl (lv_at hl 4 rfl) ?_
            refine lv_aload_n hx hb dSl_writeAnswer_174 rfl (lv_at hl 3 rfl) ?_
            replace h := ob h; obtain ⟨q33, eq33, h⟩ := h
            replace h := ob h; obtain ⟨S32, eS32, h⟩ := h
            refine hq_callv (ce := 0) (sl := 0) (va_runV (As := [.ref t2]) (rest := []) ⟨hx, hb, hml, hown, hts⟩ (kFr_copyFrom l D tc b t3 t2 S1 _ eS32) (cwV 1 hts GV_Sl_110_Fr rfl rfl rfl hd_Fr_copyFrom_V ⟨Nat.le_of_ble_eq_true rfl, Nat.le_of_ble_eq_true rfl⟩) (hq_preV1 hW eq33 rfl rfl) rfl rfl hl.1 rfl (lv_room (by first | exact Nat.le_of_ble_eq_true rfl | (simp only [List.map, rf_cat]; exact Nat.le_of_ble_eq_true rfl))) dSl_writeAnswer_175 ⟨Nat.le_of_ble_eq_true rfl, Nat.le_of_ble_eq_true rfl⟩) hW rfl rfl (fun H locs hW => ?_)
            exact hq_vret hx hb hr hlocks h (Nat.le_of_ble_eq_true rfl) (Nat.le_of_ble_eq_true rfl) hW dSl_writeAnswer_178
  · replace h := if_f hc42 h
    refine lv_aload_n hx hb dSl_writeAnswer_11 rfl (lv_at hl 4 rfl) ?_
    refine lv_aload_n hx hb dSl_writeAnswer_12 rfl (lv_at hl 2 rfl) ?_
    replace h := ob h; obtain ⟨v34, ev34, h⟩ := h
    refine hq_get hx hb hts hown hW (gI_V ev34) (F_Sl_41 hts) dSl_writeAnswer_13 ?_
    refine lv_aload_n hx hb dSl_writeAnswer_16 rfl (lv_at hl 2 rfl) ?_
    replace h := ob h; obtain ⟨v35, ev35, h⟩ := h
    refine hq_get hx hb hts hown hW (gI_V ev35) (F_Sl_47 hts) dSl_writeAnswer_17 ?_
    refine lv_sipush hx hb dSl_writeAnswer_20 (v := (128 : Int32)) rfl ?_
    refine lv_iadd hx hb dSl_writeAnswer_23 ?_
    replace h := ob h; obtain ⟨q37, eq37, h⟩ := h
    replace h := ob h; obtain ⟨S36, eS36, h⟩ := h
    refine hq_callv (ce := 0) (sl := 0) (va_runV (As := [.int v34, .int (v35 + (128 : Int32))]) (rest := []) ⟨hx, hb, hml, hown, hts⟩ (kFr_begin l D tc b t3 v34 (v35 + (128 : Int32)) S1 _ eS36) (cwV 2 hts GV_Sl_88_Fr rfl rfl rfl hd_Fr_begin_V ⟨Nat.le_of_ble_eq_true rfl, Nat.le_of_ble_eq_true rfl⟩) (hq_preV1 hW eq37 rfl rfl) rfl rfl hl.1 rfl (lv_room (by first | exact Nat.le_of_ble_eq_true rfl | (simp only [List.map, rf_cat]; exact Nat.le_of_ble_eq_true rfl))) dSl_writeAnswer_24 ⟨Nat.le_of_ble_eq_true rfl, Nat.le_of_ble_eq_true rfl⟩) hW rfl rfl (fun H locs hW => ?_)
    refine lv_aload_n hx hb dSl_writeAnswer_27 rfl (lv_at hl 4 rfl) ?_
    refine lv_iload hx hb dSl_writeAnswer_28 (lv_at hl 0 rfl) ?_
    replace h := ob h; obtain ⟨q39, eq39, h⟩ := h
    replace h := ob h; obtain ⟨S38, eS38, h⟩ := h
    refine hq_callv (ce := 0) (sl := 0) (va_runV (As := [.int v2]) (rest := []) ⟨hx, hb, hml, hown, hts⟩ (kFr_addByte l D tc b t3 v2 S36 _ eS38) (cwV 1 hts GV_Sl_94_Fr rfl rfl rfl hd_Fr_addByte_V ⟨Nat.le_of_ble_eq_true rfl, Nat.le_of_ble_eq_true rfl⟩) (hq_preV1 hW eq39 rfl rfl) rfl rfl hl.1 rfl (lv_room (by first | exact Nat.le_of_ble_eq_true rfl | (simp only [List.map, rf_cat]; exact Nat.le_of_ble_eq_true rfl))) dSl_writeAnswer_30 ⟨Nat.le_of_ble_eq_true rfl, Nat.le_of_ble_eq_true rfl⟩) hW rfl rfl (fun H locs hW => ?_)
    refine lv_aload_n hx hb dSl_writeAnswer_33 rfl (lv_at hl 4 rfl) ?_
    replace h := ob h; obtain ⟨q41, eq41, h⟩ := h
    replace h := ob h; obtain ⟨S40, eS40, h⟩ := h
    refine hq_callv (ce := 0) (sl := 0) (va_runV (As := []) (rest := []) ⟨hx, hb, hml, hown, hts⟩ (kFr_addSum l D tc b t3 S38 _ eS40) (cwV 0 hts GV_Sl_97_Fr rfl rfl rfl hd_Fr_addSum_V ⟨Nat.le_of_ble_eq_true rfl, Nat.le_of_ble_eq_true rfl⟩) (hq_preV1 hW eq41 rfl rfl) rfl rfl hl.1 rfl (lv_room (by first | exact Nat.le_of_ble_eq_true rfl | (simp only [List.map, rf_cat]; exact Nat.le_of_ble_eq_true rfl))) dSl_writeAnswer_34 ⟨Nat.le_of_ble_eq_true rfl, Nat.le_of_ble_eq_true rfl⟩) hW rfl rfl (fun H locs hW => ?_)
    exact hq_vret hx hb hr hlocks h (Nat.le_of_ble_eq_true rfl) (Nat.le_of_ble_eq_true rfl) hW dSl_writeAnswer_37
