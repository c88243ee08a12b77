theorem dX8_advances_115 : dcd cX8_advances 115 = some (.lload_n 2, 116) := by decide +kernel
theorem dX8_advances_116 : dcd cX8_advances 116 = some (.lstore_n 2, 117) := by decide +kernel
theorem dX8_advances_117 : dcd cX8_advances 117 = some (.aload_n 0, 118) := by decide +kernel
theorem dX8_advances_118 : dcd cX8_advances 118 = some (.dup, 119) := by decide +kernel
theorem dX8_advances_119 : dcd cX8_advances 119 = some (.getfield 91, 122) := by decide +kernel
theorem dX8_advances_122 : dcd cX8_advances 122 = some (.iconst 1, 123) := by decide +kernel
theorem dX8_advances_123 : dcd cX8_advances 123 = some (.iadd, 124) := by decide +kernel
theorem dX8_advances_124 : dcd cX8_advances 124 = some (.putfield 91, 127) := by decide +kernel
theorem dX8_advances_127 : dcd cX8_advances 127 = some (.goto (-59), 130) := by decide +kernel
theorem dX8_advances_130 : dcd cX8_advances 130 = some (.aload_n 0, 131) := by decide +kernel
theorem dX8_advances_131 : dcd cX8_advances 131 = some (.lload_n 2, 132) := by decide +kernel
theorem dX8_advances_132 : dcd cX8_advances 132 = some (.invokestatic 104, 135) := by decide +kernel
theorem dX8_advances_135 : dcd cX8_advances 135 = some (.putfield 108, 138) := by decide +kernel
theorem dX8_advances_138 : dcd cX8_advances 138 = some (.aload_n 0, 139) := by decide +kernel
theorem dX8_advances_139 : dcd cX8_advances 139 = some (.aload_n 0, 140) := by decide +kernel
theorem dX8_advances_140 : dcd cX8_advances 140 = some (.getfield 108, 143) := by decide +kernel
theorem dX8_advances_143 : dcd cX8_advances 143 = some (.bipush (-9), 145) := by decide +kernel
theorem dX8_advances_145 : dcd cX8_advances 145 = some (.if_icmp .ne 7, 148) := by decide +kernel
theorem dX8_advances_148 : dcd cX8_advances 148 = some (.iconst 4, 149) := by decide +kernel
theorem dX8_advances_149 : dcd cX8_advances 149 = some (.goto 4, 152) := by decide +kernel
theorem dX8_advances_152 : dcd cX8_advances 152 = some (.iconst 1, 153) := by decide +kernel
theorem dX8_advances_153 : dcd cX8_advances 153 = some (.putfield 101, 156) := by decide +kernel
theorem dX8_advances_156 : dcd cX8_advances 156 = some (.goto 156, 159) := by decide +kernel
theorem dX8_advances_159 : dcd cX8_advances 159 = some (.iload_n 1, 160) := by decide +kernel
theorem dX8_advances_160 : dcd cX8_advances 160 = some (.bipush 48, 162) := by decide +kernel
theorem dX8_advances_162 : dcd cX8_advances 162 = some (.bipush 57, 164) := by decide +kernel
theorem dX8_advances_164 : dcd cX8_advances 164 = some (.invokestatic 72, 167) := by decide +kernel
theorem dX8_advances_167 : dcd cX8_advances 167 = some (.ifCond .eq 120, 170) := by decide +kernel
theorem dX8_advances_170 : dcd cX8_advances 170 = some (.aload_n 0, 171) := by decide +kernel
theorem dX8_advances_171 : dcd cX8_advances 171 = some (.iconst 0, 172) := by decide +kernel
theorem dX8_advances_172 : dcd cX8_advances 172 = some (.putfield 108, 175) := by decide +kernel
theorem dX8_advances_175 : dcd cX8_advances 175 = some (.aload_n 0, 176) := by decide +kernel
theorem dX8_advances_176 : dcd cX8_advances 176 = some (.aload_n 0, 177) := by decide +kernel
theorem dX8_advances_177 : dcd cX8_advances 177 = some (.getfield 91, 180) := by decide +kernel
theorem dX8_advances_180 : dcd cX8_advances 180 = some (.invokevirtual 94, 183) := by decide +kernel
theorem dX8_advances_183 : dcd cX8_advances 183 = some (.bipush 48, 185) := by decide +kernel
theorem dX8_advances_185 : dcd cX8_advances 185 = some (.bipush 57, 187) := by decide +kernel
theorem dX8_advances_187 : dcd cX8_advances 187 = some (.invokestatic 72, 190) := by decide +kernel
theorem dX8_advances_190 : dcd cX8_advances 190 = some (.ifCond .eq 56, 193) := by decide +kernel
theorem dX8_advances_193 : dcd cX8_advances 193 = some (.aload_n 0, 194) := by decide +kernel
theorem dX8_advances_194 : dcd cX8_advances 194 = some (.aload_n 0, 195) := by decide +kernel
theorem dX8_advances_195 : dcd cX8_advances 195 = some (.getfield 108, 198) := by decide +kernel
theorem dX8_advances_198 : dcd cX8_advances 198 = some (.sipush 250, 201) := by decide +kernel
theorem dX8_advances_201 : dcd cX8_advances 201 = some (.if_icmp .le 10, 204) := by decide +kernel
theorem dX8_advances_204 : dcd cX8_advances 204 = some (.aload_n 0, 205) := by decide +kernel
theorem dX8_advances_205 : dcd cX8_advances 205 = some (.getfield 108, 208) := by decide +kernel
theorem dX8_advances_208 : dcd cX8_advances 208 = some (.goto 22, 211) := by decide +kernel
theorem dX8_advances_211 : dcd cX8_advances 211 = some (.bipush 10, 213) := by decide +kernel
theorem dX8_advances_213 : dcd cX8_advances 213 = some (.aload_n 0, 214) := by decide +kernel
theorem dX8_advances_214 : dcd cX8_advances 214 = some (.getfield 108, 217) := by decide +kernel
theorem dX8_advances_217 : dcd cX8_advances 217 = some (.imul, 218) := by decide +kernel
theorem dX8_advances_218 : dcd cX8_advances 218 = some (.aload_n 0, 219) := by decide +kernel
theorem dX8_advances_219 : dcd cX8_advances 219 = some (.aload_n 0, 220) := by decide +kernel
theorem dX8_advances_220 : dcd cX8_advances 220 = some (.getfield 91, 223) := by decide +kernel
theorem dX8_advances_223 : dcd cX8_advances 223 = some (.invokevirtual 94, 226) := by decide +kernel
theorem dX8_advances_226 : dcd cX8_advances 226 = some (.iadd, 227) := by decide +kernel
theorem dX8_advances_227 : dcd cX8_advances 227 = some (.bipush 48, 229) := by decide +kernel
theorem dX8_advances_229 : dcd cX8_advances 229 = some (.isub, 230) := by decide +kernel
theorem dX8_advances_230 : dcd cX8_advances 230 = some (.putfield 108, 233) := by decide +kernel
theorem dX8_advances_233 : dcd cX8_advances 233 = some (.aload_n 0, 234) := by decide +kernel
theorem dX8_advances_234 : dcd cX8_advances 234 = some (.dup, 235) := by decide +kernel
theorem dX8_advances_235 : dcd cX8_advances 235 = some (.getfield 91, 238) := by decide +kernel
theorem dX8_advances_238 : dcd cX8_advances 238 = some (.iconst 1, 239) := by decide +kernel
theorem dX8_advances_239 : dcd cX8_advances 239 = some (.iadd, 240) := by decide +kernel
theorem dX8_advances_240 : dcd cX8_advances 240 = some (.putfield 91, 243) := by decide +kernel
theorem dX8_advances_243 : dcd cX8_advances 243 = some (.goto (-68), 246) := by decide +kernel
theorem dX8_advances_246 : dcd cX8_advances 246 = some (.aload_n 0, 247) := by decide +kernel
theorem dX8_advances_247 : dcd cX8_advances 247 = some (.aload_n 0, 248) := by decide +kernel
theorem dX8_advances_248 : dcd cX8_advances 248 = some (.getfield 108, 251) := by decide +kernel
theorem dX8_advances_251 : dcd cX8_advances 251 = some (.sipush 250, 254) := by decide +kernel
theorem dX8_advances_254 : dcd cX8_advances 254 = some (.if_icmp .gt 22, 257) := by decide +kernel
theorem dX8_advances_257 : dcd cX8_advances 257 = some (.iload_n 1, 258) := by decide +kernel
theorem dX8_advances_258 : dcd cX8_advances 258 = some (.bipush 48, 260) := by decide +kernel
theorem dX8_advances_260 : dcd cX8_advances 260 = some (.if_icmp .ne 20, 263) := by decide +kernel
theorem dX8_advances_263 : dcd cX8_advances 263 = some (.aload_n 0, 264) := by decide +kernel
theorem dX8_advances_264 : dcd cX8_advances 264 = some (.getfield 91, 267) := by decide +kernel
theorem dX8_advances_267 : dcd cX8_advances 267 = some (.aload_n 0, 268) := by decide +kernel
theorem dX8_advances_268 : dcd cX8_advances 268 = some (.getfield 98, 271) := by decide +kernel
theorem dX8_advances_271 : dcd cX8_advances 271 = some (.isub, 272) := by decide +kernel
theorem dX8_advances_272 : dcd cX8_advances 272 = some (.iconst 1, 273) := by decide +kernel
theorem dX8_advances_273 : dcd cX8_advances 273 = some (.if_icmp .le 7, 276) := by decide +kernel
theorem dX8_advances_276 : dcd cX8_advances 276 = some (.iconst 4, 277) := by decide +kernel
theorem dX8_advances_277 : dcd cX8_advances 277 = some (.goto 4, 280) := by decide +kernel
theorem dX8_advances_280 : dcd cX8_advances 280 = some (.iconst 2, 281) := by decide +kernel
theorem dX8_advances_281 : dcd cX8_advances 281 = some (.putfield 101, 284) := by decide +kernel
theorem dX8_advances_284 : dcd cX8_advances 284 = some (.goto 28, 287) := by decide +kernel
theorem dX8_advances_287 : dcd cX8_advances 287 = some (.aload_n 0, 288) := by decide +kernel
theorem dX8_advances_288 : dcd cX8_advances 288 = some (.dup, 289) := by decide +kernel
theorem dX8_advances_289 : dcd cX8_advances 289 = some (.getfield 91, 292) := by decide +kernel
theorem dX8_advances_292 : dcd cX8_advances 292 = some (.iconst 1, 293) := by decide +kernel
theorem dX8_advances_293 : dcd cX8_advances 293 = some (.iadd, 294) := by decide +kernel
theorem dX8_advances_294 : dcd cX8_advances 294 = some (.putfield 91, 297) := by decide +kernel
theorem dX8_advances_297 : dcd cX8_advances 297 = some (.aload_n 0, 298) := by decide +kernel
theorem dX8_advances_298 : dcd cX8_advances 298 = some (.iload_n 1, 299) := by decide +kernel
theorem dX8_advances_299 : dcd cX8_advances 299 = some (.bipush 59, 301) := by decide +kernel
theorem dX8_advances_301 : dcd cX8_advances 301 = some (.if_icmp .ne 7, 304) := by decide +kernel
theorem dX8_advances_304 : dcd cX8_advances 304 = some (.iconst 3, 305) := by decide +kernel
theorem dX8_advances_305 : dcd cX8_advances 305 = some (.goto 4, 308) := by decide +kernel
theorem dX8_advances_308 : dcd cX8_advances 308 = some (.iconst 4, 309) := by decide +kernel
theorem dX8_advances_309 : dcd cX8_advances 309 = some (.putfield 101, 312) := by decide +kernel
theorem dX8_advances_312 : dcd cX8_advances 312 = some (.return_, 313) := by decide +kernel
theorem dX8_isWell_0 : dcd cX8_isWell 0 = some (.aload_n 0, 1) := by decide +kernel
theorem dX8_isWell_1 : dcd cX8_isWell 1 = some (.getfield 111, 4) := by decide +kernel
theorem dX8_isWell_4 : dcd cX8_isWell 4 = some (.ifCond .ge 7, 7) := by decide +kernel
theorem dX8_isWell_7 : dcd cX8_isWell 7 = some (.iconst 1, 8) := by decide +kernel
theorem dX8_isWell_8 : dcd cX8_isWell 8 = some (.goto 4, 11) := by decide +kernel
theorem dX8_isWell_11 : dcd cX8_isWell 11 = some (.iconst 0, 12) := by decide +kernel
theorem dX8_isWell_12 : dcd cX8_isWell 12 = some (.ireturn, 13) := by decide +kernel
theorem dX8_takes_0 : dcd cX8_takes 0 = some (.aload_n 0, 1) := by decide +kernel
theorem dX8_takes_1 : dcd cX8_takes 1 = some (.invokevirtual 114, 4) := by decide +kernel
theorem dX8_takes_4 : dcd cX8_takes 4 = some (.ifCond .ne 5, 7) := by decide +kernel
theorem dX8_takes_7 : dcd cX8_takes 7 = some (.iconst 0, 8) := by decide +kernel
theorem dX8_takes_8 : dcd cX8_takes 8 = some (.ireturn, 9) := by decide +kernel
theorem dX8_takes_9 : dcd cX8_takes 9 = some (.iload_n 1, 10) := by decide +kernel
theorem dX8_takes_10 : dcd cX8_takes 10 = some (.ifCond .ne 13, 13) := by decide +kernel
theorem dX8_takes_13 : dcd cX8_takes 13 = some (.aload_n 0, 14) := by decide +kernel
theorem dX8_takes_14 : dcd cX8_takes 14 = some (.aload_n 0, 15) := by decide +kernel
theorem dX8_takes_15 : dcd cX8_takes 15 = some (.getfield 98, 18) := by decide +kernel
theorem dX8_takes_18 : dcd cX8_takes 18 = some (.putfield 111, 21) := by decide +kernel
theorem dX8_takes_21 : dcd cX8_takes 21 = some (.iconst 0, 22) := by decide +kernel
theorem dX8_takes_22 : dcd cX8_takes 22 = some (.ireturn, 23) := by decide +kernel
theorem dX8_takes_23 : dcd cX8_takes 23 = some (.aload_n 0, 24) := by decide +kernel
theorem dX8_takes_24 : dcd cX8_takes 24 = some (.getfield 108, 27) := by decide +kernel
theorem dX8_takes_27 : dcd cX8_takes 27 = some (.istore_n 2, 28) := by decide +kernel
theorem dX8_takes_28 : dcd cX8_takes 28 = some (.aload_n 0, 29) := by decide +kernel
theorem dX8_takes_29 : dcd cX8_takes 29 = some (.invokevirtual 118, 32) := by decide +kernel
theorem dX8_takes_32 : dcd cX8_takes 32 = some (.iload_n 2, 33) := by decide +kernel
theorem dX8_takes_33 : dcd cX8_takes 33 = some (.ireturn, 34) := by decide +kernel
theorem dX8_number_0 : dcd cX8_number 0 = some (.aload_n 0, 1) := by decide +kernel
theorem dX8_number_1 : dcd cX8_number 1 = some (.aload_n 0, 2) := by decide +kernel
theorem dX8_number_2 : dcd cX8_number 2 = some (.getfield 101, 5) := by decide +kernel
theorem dX8_number_5 : dcd cX8_number 5 = some (.iconst 2, 6) := by decide +kernel
theorem dX8_number_6 : dcd cX8_number 6 = some (.if_icmp .ne 19, 9) := by decide +kernel
theorem dX8_number_9 : dcd cX8_number 9 = some (.aload_n 0, 10) := by decide +kernel
theorem dX8_number_10 : dcd cX8_number 10 = some (.getfield 108, 13) := by decide +kernel
theorem dX8_number_13 : dcd cX8_number 13 = some (.iload_n 1, 14) := by decide +kernel
theorem dX8_number_14 : dcd cX8_number 14 = some (.iload_n 2, 15) := by decide +kernel
theorem dX8_number_15 : dcd cX8_number 15 = some (.invokestatic 72, 18) := by decide +kernel
theorem dX8_number_18 : dcd cX8_number 18 = some (.ifCond .eq 7, 21) := by decide +kernel
theorem dX8_number_21 : dcd cX8_number 21 = some (.iconst 1, 22) := by decide +kernel
theorem dX8_number_22 : dcd cX8_number 22 = some (.goto 4, 25) := by decide +kernel
theorem dX8_number_25 : dcd cX8_number 25 = some (.iconst 0, 26) := by decide +kernel
theorem dX8_number_26 : dcd cX8_number 26 = some (.invokevirtual 121, 29) := by decide +kernel
theorem dX8_number_29 : dcd cX8_number 29 = some (.ireturn, 30) := by decide +kernel
theorem dX8_isWord_0 : dcd cX8_isWord 0 = some (.aload_n 0, 1) := by decide +kernel
theorem dX8_isWord_1 : dcd cX8_isWord 1 = some (.invokevirtual 114, 4) := by decide +kernel
theorem dX8_isWord_4 : dcd cX8_isWord 4 = some (.ifCond .eq 23, 7) := by decide +kernel
theorem dX8_isWord_7 : dcd cX8_isWord 7 = some (.aload_n 0, 8) := by decide +kernel
theorem dX8_isWord_8 : dcd cX8_isWord 8 = some (.getfield 101, 11) := by decide +kernel
theorem dX8_isWord_11 : dcd cX8_isWord 11 = some (.iconst 1, 12) := by decide +kernel
theorem dX8_isWord_12 : dcd cX8_isWord 12 = some (.if_icmp .ne 15, 15) := by decide +kernel
theorem dX8_isWord_15 : dcd cX8_isWord 15 = some (.aload_n 0, 16) := by decide +kernel
theorem dX8_isWord_16 : dcd cX8_isWord 16 = some (.getfield 108, 19) := by decide +kernel
theorem dX8_isWord_19 : dcd cX8_isWord 19 = some (.iload_n 1, 20) := by decide +kernel
theorem dX8_isWord_20 : dcd cX8_isWord 20 = some (.if_icmp .ne 7, 23) := by decide +kernel
theorem dX8_isWord_23 : dcd cX8_isWord 23 = some (.iconst 1, 24) := by decide +kernel
theorem dX8_isWord_24 : dcd cX8_isWord 24 = some (.goto 4, 27) := by decide +kernel
theorem dX8_isWord_27 : dcd cX8_isWord 27 = some (.iconst 0, 28) := by decide +kernel
theorem dX8_isWord_28 : dcd cX8_isWord 28 = some (.ireturn, 29) := by decide +kernel
theorem dX8_readsAct_0 : dcd cX8_readsAct 0 = some (.bipush 9, 2) := by decide +kernel
theorem dX8_readsAct_2 : dcd cX8_readsAct 2 = some (.bipush 10, 4) := by decide +kernel
theorem dX8_readsAct_4 : dcd cX8_readsAct 4 = some (.aload_n 0, 5) := by decide +kernel
theorem dX8_readsAct_5 : dcd cX8_readsAct 5 = some (.getfield 125, 8) := by decide +kernel
theorem dX8_readsAct_8 : dcd cX8_readsAct 8 = some (.iadd, 9) := by decide +kernel
theorem dX8_readsAct_9 : dcd cX8_readsAct 9 = some (.imul, 10) := by decide +kernel
theorem dX8_readsAct_10 : dcd cX8_readsAct 10 = some (.istore_n 1, 11) := by decide +kernel
theorem dX8_readsAct_11 : dcd cX8_readsAct 11 = some (.aload_n 0, 12) := by decide +kernel
theorem dX8_readsAct_12 : dcd cX8_readsAct 12 = some (.getfield 13, 15) := by decide +kernel
theorem dX8_readsAct_15 : dcd cX8_readsAct 15 = some (.iload_n 1, 16) := by decide +kernel
theorem dX8_readsAct_16 : dcd cX8_readsAct 16 = some (.iconst 0, 17) := by decide +kernel
theorem dX8_readsAct_17 : dcd cX8_readsAct 17 = some (.iadd, 18) := by decide +kernel
theorem dX8_readsAct_18 : dcd cX8_readsAct 18 = some (.aload_n 0, 19) := by decide +kernel
theorem dX8_readsAct_19 : dcd cX8_readsAct 19 = some (.iconst 0, 20) := by decide +kernel
theorem dX8_readsAct_20 : dcd cX8_readsAct 20 = some (.iconst 5, 21) := by decide +kernel
theorem dX8_readsAct_21 : dcd cX8_readsAct 21 = some (.invokevirtual 128, 24) := by decide +kernel
theorem dX8_readsAct_24 : dcd cX8_readsAct 24 = some (.iastore, 25) := by decide +kernel
theorem dX8_readsAct_25 : dcd cX8_readsAct 25 = some (.aload_n 0, 26) := by decide +kernel
theorem dX8_readsAct_26 : dcd cX8_readsAct 26 = some (.getfield 13, 29) := by decide +kernel
theorem dX8_readsAct_29 : dcd cX8_readsAct 29 = some (.iload_n 1, 30) := by decide +kernel
theorem dX8_readsAct_30 : dcd cX8_readsAct 30 = some (.iconst 1, 31) := by decide +kernel
theorem dX8_readsAct_31 : dcd cX8_readsAct 31 = some (.iadd, 32) := by decide +kernel
theorem dX8_readsAct_32 : dcd cX8_readsAct 32 = some (.aload_n 0, 33) := by decide +kernel
theorem dX8_readsAct_33 : dcd cX8_readsAct 33 = some (.iconst 1, 34) := by decide +kernel
theorem dX8_readsAct_34 : dcd cX8_readsAct 34 = some (.bipush 30, 36) := by decide +kernel
theorem dX8_readsAct_36 : dcd cX8_readsAct 36 = some (.invokevirtual 128, 39) := by decide +kernel
theorem dX8_readsAct_39 : dcd cX8_readsAct 39 = some (.iastore, 40) := by decide +kernel
theorem dX8_readsAct_40 : dcd cX8_readsAct 40 = some (.aload_n 0, 41) := by decide +kernel
theorem dX8_readsAct_41 : dcd cX8_readsAct 41 = some (.getfield 13, 44) := by decide +kernel
theorem dX8_readsAct_44 : dcd cX8_readsAct 44 = some (.iload_n 1, 45) := by decide +kernel
theorem dX8_readsAct_45 : dcd cX8_readsAct 45 = some (.iconst 2, 46) := by decide +kernel
theorem dX8_readsAct_46 : dcd cX8_readsAct 46 = some (.iadd, 47) := by decide +kernel
theorem dX8_readsAct_47 : dcd cX8_readsAct 47 = some (.aload_n 0, 48) := by decide +kernel
theorem dX8_readsAct_48 : dcd cX8_readsAct 48 = some (.iconst 0, 49) := by decide +kernel
theorem dX8_readsAct_49 : dcd cX8_readsAct 49 = some (.bipush 30, 51) := by decide +kernel
theorem dX8_readsAct_51 : dcd cX8_readsAct 51 = some (.invokevirtual 128, 54) := by decide +kernel
theorem dX8_readsAct_54 : dcd cX8_readsAct 54 = some (.iastore, 55) := by decide +kernel
theorem dX8_readsAct_55 : dcd cX8_readsAct 55 = some (.aload_n 0, 56) := by decide +kernel
theorem dX8_readsAct_56 : dcd cX8_readsAct 56 = some (.getfield 13, 59) := by decide +kernel
theorem dX8_readsAct_59 : dcd cX8_readsAct 59 = some (.iload_n 1, 60) := by decide +kernel
theorem dX8_readsAct_60 : dcd cX8_readsAct 60 = some (.iconst 3, 61) := by decide +kernel
theorem dX8_readsAct_61 : dcd cX8_readsAct 61 = some (.iadd, 62) := by decide +kernel
theorem dX8_readsAct_62 : dcd cX8_readsAct 62 = some (.iconst 0, 63) := by decide +kernel
theorem dX8_readsAct_63 : dcd cX8_readsAct 63 = some (.iastore, 64) := by decide +kernel
theorem dX8_readsAct_64 : dcd cX8_readsAct 64 = some (.aload_n 0, 65) := by decide +kernel
theorem dX8_readsAct_65 : dcd cX8_readsAct 65 = some (.getfield 13, 68) := by decide +kernel
theorem dX8_readsAct_68 : dcd cX8_readsAct 68 = some (.iload_n 1, 69) := by decide +kernel
theorem dX8_readsAct_69 : dcd cX8_readsAct 69 = some (.iconst 4, 70) := by decide +kernel
theorem dX8_readsAct_70 : dcd cX8_readsAct 70 = some (.iadd, 71) := by decide +kernel
theorem dX8_readsAct_71 : dcd cX8_readsAct 71 = some (.iconst 0, 72) := by decide +kernel
theorem dX8_readsAct_72 : dcd cX8_readsAct 72 = some (.iastore, 73) := by decide +kernel
theorem dX8_readsAct_73 : dcd cX8_readsAct 73 = some (.aload_n 0, 74) := by decide +kernel
theorem dX8_readsAct_74 : dcd cX8_readsAct 74 = some (.getfield 13, 77) := by decide +kernel
theorem dX8_readsAct_77 : dcd cX8_readsAct 77 = some (.iload_n 1, 78) := by decide +kernel
theorem dX8_readsAct_78 : dcd cX8_readsAct 78 = some (.iconst 5, 79) := by decide +kernel
theorem dX8_readsAct_79 : dcd cX8_readsAct 79 = some (.iadd, 80) := by decide +kernel
theorem dX8_readsAct_80 : dcd cX8_readsAct 80 = some (.iconst 0, 81) := by decide +kernel
theorem dX8_readsAct_81 : dcd cX8_readsAct 81 = some (.iastore, 82) := by decide +kernel
theorem dX8_readsAct_82 : dcd cX8_readsAct 82 = some (.aload_n 0, 83) := by decide +kernel
theorem dX8_readsAct_83 : dcd cX8_readsAct 83 = some (.getfield 13, 86) := by decide +kernel
theorem dX8_readsAct_86 : dcd cX8_readsAct 86 = some (.iload_n 1, 87) := by decide +kernel
theorem dX8_readsAct_87 : dcd cX8_readsAct 87 = some (.bipush 6, 89) := by decide +kernel
theorem dX8_readsAct_89 : dcd cX8_readsAct 89 = some (.iadd, 90) := by decide +kernel
theorem dX8_readsAct_90 : dcd cX8_readsAct 90 = some (.iconst 0, 91) := by decide +kernel
theorem dX8_readsAct_91 : dcd cX8_readsAct 91 = some (.iastore, 92) := by decide +kernel
theorem dX8_readsAct_92 : dcd cX8_readsAct 92 = some (.aload_n 0, 93) := by decide +kernel
theorem dX8_readsAct_93 : dcd cX8_readsAct 93 = some (.getfield 13, 96) := by decide +kernel
theorem dX8_readsAct_96 : dcd cX8_readsAct 96 = some (.iload_n 1, 97) := by decide +kernel
theorem dX8_readsAct_97 : dcd cX8_readsAct 97 = some (.bipush 7, 99) := by decide +kernel
theorem dX8_readsAct_99 : dcd cX8_readsAct 99 = some (.iadd, 100) := by decide +kernel
theorem dX8_readsAct_100 : dcd cX8_readsAct 100 = some (.iconst 0, 101) := by decide +kernel
theorem dX8_readsAct_101 : dcd cX8_readsAct 101 = some (.iastore, 102) := by decide +kernel
theorem dX8_readsAct_102 : dcd cX8_readsAct 102 = some (.aload_n 0, 103) := by decide +kernel
theorem dX8_readsAct_103 : dcd cX8_readsAct 103 = some (.getfield 13, 106) := by decide +kernel
theorem dX8_readsAct_106 : dcd cX8_readsAct 106 = some (.iload_n 1, 107) := by decide +kernel
theorem dX8_readsAct_107 : dcd cX8_readsAct 107 = some (.bipush 8, 109) := by decide +kernel
theorem dX8_readsAct_109 : dcd cX8_readsAct 109 = some (.iadd, 110) := by decide +kernel
theorem dX8_readsAct_110 : dcd cX8_readsAct 110 = some (.iconst 0, 111) := by decide +kernel
theorem dX8_readsAct_111 : dcd cX8_readsAct 111 = some (.iastore, 112) := by decide +kernel
theorem dX8_readsAct_112 : dcd cX8_readsAct 112 = some (.aload_n 0, 113) := by decide +kernel
theorem dX8_readsAct_113 : dcd cX8_readsAct 113 = some (.iconst 1, 114) := by decide +kernel
theorem dX8_readsAct_114 : dcd cX8_readsAct 114 = some (.invokevirtual 132, 117) := by decide +kernel
theorem dX8_readsAct_117 : dcd cX8_readsAct 117 = some (.ifCond .eq 19, 120) := by decide +kernel
theorem dX8_readsAct_120 : dcd cX8_readsAct 120 = some (.aload_n 0, 121) := by decide +kernel
theorem dX8_readsAct_121 : dcd cX8_readsAct 121 = some (.getfield 13, 124) := by decide +kernel
theorem dX8_readsAct_124 : dcd cX8_readsAct 124 = some (.iload_n 1, 125) := by decide +kernel
theorem dX8_readsAct_125 : dcd cX8_readsAct 125 = some (.iconst 3, 126) := by decide +kernel
theorem dX8_readsAct_126 : dcd cX8_readsAct 126 = some (.iadd, 127) := by decide +kernel
theorem dX8_readsAct_127 : dcd cX8_readsAct 127 = some (.iconst 1, 128) := by decide +kernel
theorem dX8_readsAct_128 : dcd cX8_readsAct 128 = some (.iastore, 129) := by decide +kernel
theorem dX8_readsAct_129 : dcd cX8_readsAct 129 = some (.aload_n 0, 130) := by decide +kernel
theorem dX8_readsAct_130 : dcd cX8_readsAct 130 = some (.invokevirtual 118, 133) := by decide +kernel
theorem dX8_readsAct_133 : dcd cX8_readsAct 133 = some (.goto 45, 136) := by decide +kernel
theorem dX8_readsAct_136 : dcd cX8_readsAct 136 = some (.aload_n 0, 137) := by decide +kernel
theorem dX8_readsAct_137 : dcd cX8_readsAct 137 = some (.iconst 2, 138) := by decide +kernel
theorem dX8_readsAct_138 : dcd cX8_readsAct 138 = some (.invokevirtual 132, 141) := by decide +kernel
theorem dX8_readsAct_141 : dcd cX8_readsAct 141 = some (.ifCond .eq 37, 144) := by decide +kernel
theorem dX8_readsAct_144 : dcd cX8_readsAct 144 = some (.aload_n 0, 145) := by decide +kernel
theorem dX8_readsAct_145 : dcd cX8_readsAct 145 = some (.invokevirtual 118, 148) := by decide +kernel
theorem dX8_readsAct_148 : dcd cX8_readsAct 148 = some (.aload_n 0, 149) := by decide +kernel
theorem dX8_readsAct_149 : dcd cX8_readsAct 149 = some (.getfield 13, 152) := by decide +kernel
theorem dX8_readsAct_152 : dcd cX8_readsAct 152 = some (.iload_n 1, 153) := by decide +kernel
theorem dX8_readsAct_153 : dcd cX8_readsAct 153 = some (.iconst 4, 154) := by decide +kernel
theorem dX8_readsAct_154 : dcd cX8_readsAct 154 = some (.iadd, 155) := by decide +kernel
theorem dX8_readsAct_155 : dcd cX8_readsAct 155 = some (.aload_n 0, 156) := by decide +kernel
theorem dX8_readsAct_156 : dcd cX8_readsAct 156 = some (.iconst 0, 157) := by decide +kernel
theorem dX8_readsAct_157 : dcd cX8_readsAct 157 = some (.bipush 9, 159) := by decide +kernel
theorem dX8_readsAct_159 : dcd cX8_readsAct 159 = some (.invokevirtual 128, 162) := by decide +kernel
theorem dX8_readsAct_162 : dcd cX8_readsAct 162 = some (.iastore, 163) := by decide +kernel
theorem dX8_readsAct_163 : dcd cX8_readsAct 163 = some (.aload_n 0, 164) := by decide +kernel
theorem dX8_readsAct_164 : dcd cX8_readsAct 164 = some (.getfield 13, 167) := by decide +kernel
theorem dX8_readsAct_167 : dcd cX8_readsAct 167 = some (.iload_n 1, 168) := by decide +kernel
theorem dX8_readsAct_168 : dcd cX8_readsAct 168 = some (.iconst 5, 169) := by decide +kernel
theorem dX8_readsAct_169 : dcd cX8_readsAct 169 = some (.iadd, 170) := by decide +kernel
theorem dX8_readsAct_170 : dcd cX8_readsAct 170 = some (.aload_n 0, 171) := by decide +kernel
theorem dX8_readsAct_171 : dcd cX8_readsAct 171 = some (.iconst 0, 172) := by decide +kernel
theorem dX8_readsAct_172 : dcd cX8_readsAct 172 = some (.bipush 9, 174) := by decide +kernel
theorem dX8_readsAct_174 : dcd cX8_readsAct 174 = some (.invokevirtual 128, 177) := by decide +kernel
theorem dX8_readsAct_177 : dcd cX8_readsAct 177 = some (.iastore, 178) := by decide +kernel
theorem dX8_readsAct_178 : dcd cX8_readsAct 178 = some (.aload_n 0, 179) := by decide +kernel
theorem dX8_readsAct_179 : dcd cX8_readsAct 179 = some (.iconst 3, 180) := by decide +kernel
theorem dX8_readsAct_180 : dcd cX8_readsAct 180 = some (.invokevirtual 132, 183) := by decide +kernel
theorem dX8_readsAct_183 : dcd cX8_readsAct 183 = some (.ifCond .ne 11, 186) := by decide +kernel
theorem dX8_readsAct_186 : dcd cX8_readsAct 186 = some (.aload_n 0, 187) := by decide +kernel
theorem dX8_readsAct_187 : dcd cX8_readsAct 187 = some (.iconst 4, 188) := by decide +kernel
theorem dX8_readsAct_188 : dcd cX8_readsAct 188 = some (.invokevirtual 132, 191) := by decide +kernel
theorem dX8_readsAct_191 : dcd cX8_readsAct 191 = some (.ifCond .eq 29, 194) := by decide +kernel
theorem dX8_readsAct_194 : dcd cX8_readsAct 194 = some (.aload_n 0, 195) := by decide +kernel
theorem dX8_readsAct_195 : dcd cX8_readsAct 195 = some (.getfield 13, 198) := by decide +kernel
theorem dX8_readsAct_198 : dcd cX8_readsAct 198 = some (.iload_n 1, 199) := by decide +kernel
theorem dX8_readsAct_199 : dcd cX8_readsAct 199 = some (.bipush 6, 201) := by decide +kernel
theorem dX8_readsAct_201 : dcd cX8_readsAct 201 = some (.iadd, 202) := by decide +kernel
theorem dX8_readsAct_202 : dcd cX8_readsAct 202 = some (.aload_n 0, 203) := by decide +kernel
theorem dX8_readsAct_203 : dcd cX8_readsAct 203 = some (.getfield 108, 206) := by decide +kernel
theorem dX8_readsAct_206 : dcd cX8_readsAct 206 = some (.iconst 3, 207) := by decide +kernel
theorem dX8_readsAct_207 : dcd cX8_readsAct 207 = some (.if_icmp .ne 7, 210) := by decide +kernel
theorem dX8_readsAct_210 : dcd cX8_readsAct 210 = some (.iconst 1, 211) := by decide +kernel
theorem dX8_readsAct_211 : dcd cX8_readsAct 211 = some (.goto 4, 214) := by decide +kernel
theorem dX8_readsAct_214 : dcd cX8_readsAct 214 = some (.iconst 2, 215) := by decide +kernel
theorem dX8_readsAct_215 : dcd cX8_readsAct 215 = some (.iastore, 216) := by decide +kernel
theorem dX8_readsAct_216 : dcd cX8_readsAct 216 = some (.aload_n 0, 217) := by decide +kernel
theorem dX8_readsAct_217 : dcd cX8_readsAct 217 = some (.invokevirtual 118, 220) := by decide +kernel
theorem dX8_readsAct_220 : dcd cX8_readsAct 220 = some (.aload_n 0, 221) := by decide +kernel
theorem dX8_readsAct_221 : dcd cX8_readsAct 221 = some (.iconst 5, 222) := by decide +kernel
theorem dX8_readsAct_222 : dcd cX8_readsAct 222 = some (.invokevirtual 132, 225) := by decide +kernel
theorem dX8_readsAct_225 : dcd cX8_readsAct 225 = some (.ifCond .eq 24, 228) := by decide +kernel
theorem dX8_readsAct_228 : dcd cX8_readsAct 228 = some (.aload_n 0, 229) := by decide +kernel
theorem dX8_readsAct_229 : dcd cX8_readsAct 229 = some (.invokevirtual 118, 232) := by decide +kernel
theorem dX8_readsAct_232 : dcd cX8_readsAct 232 = some (.aload_n 0, 233) := by decide +kernel
theorem dX8_readsAct_233 : dcd cX8_readsAct 233 = some (.getfield 13, 236) := by decide +kernel
theorem dX8_readsAct_236 : dcd cX8_readsAct 236 = some (.iload_n 1, 237) := by decide +kernel
theorem dX8_readsAct_237 : dcd cX8_readsAct 237 = some (.bipush 7, 239) := by decide +kernel
theorem dX8_readsAct_239 : dcd cX8_readsAct 239 = some (.iadd, 240) := by decide +kernel
theorem dX8_readsAct_240 : dcd cX8_readsAct 240 = some (.aload_n 0, 241) := by decide +kernel
theorem dX8_readsAct_241 : dcd cX8_readsAct 241 = some (.iconst 1, 242) := by decide +kernel
theorem dX8_readsAct_242 : dcd cX8_readsAct 242 = some (.sipush 250, 245) := by decide +kernel
theorem dX8_readsAct_245 : dcd cX8_readsAct 245 = some (.invokevirtual 128, 248) := by decide +kernel
theorem dX8_readsAct_248 : dcd cX8_readsAct 248 = some (.iastore, 249) := by decide +kernel
theorem dX8_readsAct_249 : dcd cX8_readsAct 249 = some (.aload_n 0, 250) := by decide +kernel
theorem dX8_readsAct_250 : dcd cX8_readsAct 250 = some (.dup, 251) := by decide +kernel
theorem dX8_readsAct_251 : dcd cX8_readsAct 251 = some (.getfield 125, 254) := by decide +kernel
theorem dX8_readsAct_254 : dcd cX8_readsAct 254 = some (.iconst 1, 255) := by decide +kernel
theorem dX8_readsAct_255 : dcd cX8_readsAct 255 = some (.iadd, 256) := by decide +kernel
theorem dX8_readsAct_256 : dcd cX8_readsAct 256 = some (.putfield 125, 259) := by decide +kernel
theorem dX8_readsAct_259 : dcd cX8_readsAct 259 = some (.return_, 260) := by decide +kernel
theorem dX8_readsFeud_0 : dcd cX8_readsFeud 0 = some (.aload_n 0, 1) := by decide +kernel
theorem dX8_readsFeud_1 : dcd cX8_readsFeud 1 = some (.iconst 0, 2) := by decide +kernel
theorem dX8_readsFeud_2 : dcd cX8_readsFeud 2 = some (.aload_n 0, 3) := by decide +kernel
theorem dX8_readsFeud_3 : dcd cX8_readsFeud 3 = some (.getfield 125, 6) := by decide +kernel
theorem dX8_readsFeud_6 : dcd cX8_readsFeud 6 = some (.iconst 1, 7) := by decide +kernel
theorem dX8_readsFeud_7 : dcd cX8_readsFeud 7 = some (.isub, 8) := by decide +kernel
theorem dX8_readsFeud_8 : dcd cX8_readsFeud 8 = some (.invokevirtual 128, 11) := by decide +kernel
theorem dX8_readsFeud_11 : dcd cX8_readsFeud 11 = some (.istore_n 1, 12) := by decide +kernel
theorem dX8_readsFeud_12 : dcd cX8_readsFeud 12 = some (.aload_n 0, 13) := by decide +kernel
theorem dX8_readsFeud_13 : dcd cX8_readsFeud 13 = some (.aload_n 0, 14) := by decide +kernel
theorem dX8_readsFeud_14 : dcd cX8_readsFeud 14 = some (.getfield 101, 17) := by decide +kernel
theorem dX8_readsFeud_17 : dcd cX8_readsFeud 17 = some (.iconst 2, 18) := by decide +kernel
theorem dX8_readsFeud_18 : dcd cX8_readsFeud 18 = some (.if_icmp .ne 32, 21) := by decide +kernel
theorem dX8_readsFeud_21 : dcd cX8_readsFeud 21 = some (.aload_n 0, 22) := by decide +kernel
theorem dX8_readsFeud_22 : dcd cX8_readsFeud 22 = some (.getfield 108, 25) := by decide +kernel
theorem dX8_readsFeud_25 : dcd cX8_readsFeud 25 = some (.iconst 0, 26) := by decide +kernel
theorem dX8_readsFeud_26 : dcd cX8_readsFeud 26 = some (.aload_n 0, 27) := by decide +kernel
theorem dX8_readsFeud_27 : dcd cX8_readsFeud 27 = some (.getfield 125, 30) := by decide +kernel
theorem dX8_readsFeud_30 : dcd cX8_readsFeud 30 = some (.iconst 1, 31) := by decide +kernel
theorem dX8_readsFeud_31 : dcd cX8_readsFeud 31 = some (.isub, 32) := by decide +kernel
theorem dX8_readsFeud_32 : dcd cX8_readsFeud 32 = some (.invokestatic 72, 35) := by decide +kernel
theorem dX8_readsFeud_35 : dcd cX8_readsFeud 35 = some (.ifCond .eq 15, 38) := by decide +kernel
theorem dX8_readsFeud_38 : dcd cX8_readsFeud 38 = some (.aload_n 0, 39) := by decide +kernel
theorem dX8_readsFeud_39 : dcd cX8_readsFeud 39 = some (.getfield 108, 42) := by decide +kernel
theorem dX8_readsFeud_42 : dcd cX8_readsFeud 42 = some (.iload_n 1, 43) := by decide +kernel
theorem dX8_readsFeud_43 : dcd cX8_readsFeud 43 = some (.if_icmp .eq 7, 46) := by decide +kernel
theorem dX8_readsFeud_46 : dcd cX8_readsFeud 46 = some (.iconst 1, 47) := by decide +kernel
theorem dX8_readsFeud_47 : dcd cX8_readsFeud 47 = some (.goto 4, 50) := by decide +kernel
theorem dX8_readsFeud_50 : dcd cX8_readsFeud 50 = some (.iconst 0, 51) := by decide +kernel
theorem dX8_readsFeud_51 : dcd cX8_readsFeud 51 = some (.invokevirtual 121, 54) := by decide +kernel
theorem dX8_readsFeud_54 : dcd cX8_readsFeud 54 = some (.istore_n 2, 55) := by decide +kernel
theorem dX8_readsFeud_55 : dcd cX8_readsFeud 55 = some (.aload_n 0, 56) := by decide +kernel
theorem dX8_readsFeud_56 : dcd cX8_readsFeud 56 = some (.invokevirtual 114, 59) := by decide +kernel
theorem dX8_readsFeud_59 : dcd cX8_readsFeud 59 = some (.ifCond .eq 45, 62) := by decide +kernel
theorem dX8_readsFeud_62 : dcd cX8_readsFeud 62 = some (.aload_n 0, 63) := by decide +kernel
theorem dX8_readsFeud_63 : dcd cX8_readsFeud 63 = some (.getfield 13, 66) := by decide +kernel
theorem dX8_readsFeud_66 : dcd cX8_readsFeud 66 = some (.bipush 9, 68) := by decide +kernel
theorem dX8_readsFeud_68 : dcd cX8_readsFeud 68 = some (.bipush 10, 70) := by decide +kernel
theorem dX8_readsFeud_70 : dcd cX8_readsFeud 70 = some (.iload_n 1, 71) := by decide +kernel
theorem dX8_readsFeud_71 : dcd cX8_readsFeud 71 = some (.iadd, 72) := by decide +kernel
theorem dX8_readsFeud_72 : dcd cX8_readsFeud 72 = some (.imul, 73) := by decide +kernel
theorem dX8_readsFeud_73 : dcd cX8_readsFeud 73 = some (.bipush 8, 75) := by decide +kernel
theorem dX8_readsFeud_75 : dcd cX8_readsFeud 75 = some (.iadd, 76) := by decide +kernel
theorem dX8_readsFeud_76 : dcd cX8_readsFeud 76 = some (.dup2, 77) := by decide +kernel
theorem dX8_readsFeud_77 : dcd cX8_readsFeud 77 = some (.iaload, 78) := by decide +kernel
theorem dX8_readsFeud_78 : dcd cX8_readsFeud 78 = some (.iconst 1, 79) := by decide +kernel
theorem dX8_readsFeud_79 : dcd cX8_readsFeud 79 = some (.iload_n 2, 80) := by decide +kernel
theorem dX8_readsFeud_80 : dcd cX8_readsFeud 80 = some (.ishl, 81) := by decide +kernel
theorem dX8_readsFeud_81 : dcd cX8_readsFeud 81 = some (.ior, 82) := by decide +kernel
theorem dX8_readsFeud_82 : dcd cX8_readsFeud 82 = some (.iastore, 83) := by decide +kernel
theorem dX8_readsFeud_83 : dcd cX8_readsFeud 83 = some (.aload_n 0, 84) := by decide +kernel
theorem dX8_readsFeud_84 : dcd cX8_readsFeud 84 = some (.getfield 13, 87) := by decide +kernel
theorem dX8_readsFeud_87 : dcd cX8_readsFeud 87 = some (.bipush 9, 89) := by decide +kernel
theorem dX8_readsFeud_89 : dcd cX8_readsFeud 89 = some (.bipush 10, 91) := by decide +kernel
theorem dX8_readsFeud_91 : dcd cX8_readsFeud 91 = some (.iload_n 2, 92) := by decide +kernel
theorem dX8_readsFeud_92 : dcd cX8_readsFeud 92 = some (.iadd, 93) := by decide +kernel
theorem dX8_readsFeud_93 : dcd cX8_readsFeud 93 = some (.imul, 94) := by decide +kernel
theorem dX8_readsFeud_94 : dcd cX8_readsFeud 94 = some (.bipush 8, 96) := by decide +kernel
theorem dX8_readsFeud_96 : dcd cX8_readsFeud 96 = some (.iadd, 97) := by decide +kernel
theorem dX8_readsFeud_97 : dcd cX8_readsFeud 97 = some (.dup2, 98) := by decide +kernel
theorem dX8_readsFeud_98 : dcd cX8_readsFeud 98 = some (.iaload, 99) := by decide +kernel
theorem dX8_readsFeud_99 : dcd cX8_readsFeud 99 = some (.iconst 1, 100) := by decide +kernel
theorem dX8_readsFeud_100 : dcd cX8_readsFeud 100 = some (.iload_n 1, 101) := by decide +kernel
theorem dX8_readsFeud_101 : dcd cX8_readsFeud 101 = some (.ishl, 102) := by decide +kernel
theorem dX8_readsFeud_102 : dcd cX8_readsFeud 102 = some (.ior, 103) := by decide +kernel
theorem dX8_readsFeud_103 : dcd cX8_readsFeud 103 = some (.iastore, 104) := by decide +kernel
theorem dX8_readsFeud_104 : dcd cX8_readsFeud 104 = some (.return_, 105) := by decide +kernel
theorem dX8_acts_0 : dcd cX8_acts 0 = some (.aload_n 0, 1) := by decide +kernel
theorem dX8_acts_1 : dcd cX8_acts 1 = some (.iconst 0, 2) := by decide +kernel
theorem dX8_acts_2 : dcd cX8_acts 2 = some (.putfield 68, 5) := by decide +kernel
theorem dX8_acts_5 : dcd cX8_acts 5 = some (.aload_n 0, 6) := by decide +kernel
theorem dX8_acts_6 : dcd cX8_acts 6 = some (.iconst (-1), 7) := by decide +kernel
theorem dX8_acts_7 : dcd cX8_acts 7 = some (.putfield 111, 10) := by decide +kernel
theorem dX8_acts_10 : dcd cX8_acts 10 = some (.aload_n 0, 11) := by decide +kernel
theorem dX8_acts_11 : dcd cX8_acts 11 = some (.iconst 0, 12) := by decide +kernel
theorem dX8_acts_12 : dcd cX8_acts 12 = some (.putfield 91, 15) := by decide +kernel
theorem dX8_acts_15 : dcd cX8_acts 15 = some (.iconst 0, 16) := by decide +kernel
theorem dX8_acts_16 : dcd cX8_acts 16 = some (.istore_n 1, 17) := by decide +kernel
theorem dX8_acts_17 : dcd cX8_acts 17 = some (.aload_n 0, 18) := by decide +kernel
theorem dX8_acts_18 : dcd cX8_acts 18 = some (.iconst 0, 19) := by decide +kernel
theorem dX8_acts_19 : dcd cX8_acts 19 = some (.putfield 125, 22) := by decide +kernel
theorem dX8_acts_22 : dcd cX8_acts 22 = some (.aload_n 0, 23) := by decide +kernel
theorem dX8_acts_23 : dcd cX8_acts 23 = some (.invokevirtual 118, 26) := by decide +kernel
theorem dX8_acts_26 : dcd cX8_acts 26 = some (.aload_n 0, 27) := by decide +kernel
theorem dX8_acts_27 : dcd cX8_acts 27 = some (.invokevirtual 114, 30) := by decide +kernel
theorem dX8_acts_30 : dcd cX8_acts 30 = some (.ifCond .eq 109, 33) := by decide +kernel
theorem dX8_acts_33 : dcd cX8_acts 33 = some (.aload_n 0, 34) := by decide +kernel
theorem dX8_acts_34 : dcd cX8_acts 34 = some (.getfield 101, 37) := by decide +kernel
theorem dX8_acts_37 : dcd cX8_acts 37 = some (.ifCond .eq 102, 40) := by decide +kernel
theorem dX8_acts_40 : dcd cX8_acts 40 = some (.aload_n 0, 41) := by decide +kernel
theorem dX8_acts_41 : dcd cX8_acts 41 = some (.aload_n 0, 42) := by decide +kernel
theorem dX8_acts_42 : dcd cX8_acts 42 = some (.getfield 101, 45) := by decide +kernel
theorem dX8_acts_45 : dcd cX8_acts 45 = some (.iconst 1, 46) := by decide +kernel
theorem dX8_acts_46 : dcd cX8_acts 46 = some (.if_icmp .ne 35, 49) := by decide +kernel
theorem dX8_acts_49 : dcd cX8_acts 49 = some (.aload_n 0, 50) := by decide +kernel
theorem dX8_acts_50 : dcd cX8_acts 50 = some (.getfield 108, 53) := by decide +kernel
theorem dX8_acts_53 : dcd cX8_acts 53 = some (.ifCond .ne 15, 56) := by decide +kernel
theorem dX8_acts_56 : dcd cX8_acts 56 = some (.aload_n 0, 57) := by decide +kernel
theorem dX8_acts_57 : dcd cX8_acts 57 = some (.getfield 125, 60) := by decide +kernel
theorem dX8_acts_60 : dcd cX8_acts 60 = some (.bipush 9, 62) := by decide +kernel
theorem dX8_acts_62 : dcd cX8_acts 62 = some (.if_icmp .ge 19, 65) := by decide +kernel
theorem dX8_acts_65 : dcd cX8_acts 65 = some (.goto 12, 68) := by decide +kernel
theorem dX8_acts_68 : dcd cX8_acts 68 = some (.aload_n 0, 69) := by decide +kernel
theorem dX8_acts_69 : dcd cX8_acts 69 = some (.getfield 108, 72) := by decide +kernel
theorem dX8_acts_72 : dcd cX8_acts 72 = some (.bipush 6, 74) := by decide +kernel
theorem dX8_acts_74 : dcd cX8_acts 74 = some (.if_icmp .ne 7, 77) := by decide +kernel
theorem dX8_acts_77 : dcd cX8_acts 77 = some (.iconst 1, 78) := by decide +kernel
theorem dX8_acts_78 : dcd cX8_acts 78 = some (.goto 4, 81) := by decide +kernel
theorem dX8_acts_81 : dcd cX8_acts 81 = some (.iconst 0, 82) := by decide +kernel
theorem dX8_acts_82 : dcd cX8_acts 82 = some (.invokevirtual 121, 85) := by decide +kernel
theorem dX8_acts_85 : dcd cX8_acts 85 = some (.istore_n 2, 86) := by decide +kernel
theorem dX8_acts_86 : dcd cX8_acts 86 = some (.aload_n 0, 87) := by decide +kernel
theorem dX8_acts_87 : dcd cX8_acts 87 = some (.invokevirtual 114, 90) := by decide +kernel
theorem dX8_acts_90 : dcd cX8_acts 90 = some (.ifCond .eq 14, 93) := by decide +kernel
theorem dX8_acts_93 : dcd cX8_acts 93 = some (.iload_n 2, 94) := by decide +kernel
theorem dX8_acts_94 : dcd cX8_acts 94 = some (.ifCond .ne 10, 97) := by decide +kernel
theorem dX8_acts_97 : dcd cX8_acts 97 = some (.aload_n 0, 98) := by decide +kernel
theorem dX8_acts_98 : dcd cX8_acts 98 = some (.invokevirtual 136, 101) := by decide +kernel
theorem dX8_acts_101 : dcd cX8_acts 101 = some (.goto 14, 104) := by decide +kernel
theorem dX8_acts_104 : dcd cX8_acts 104 = some (.aload_n 0, 105) := by decide +kernel
theorem dX8_acts_105 : dcd cX8_acts 105 = some (.invokevirtual 114, 108) := by decide +kernel
theorem dX8_acts_108 : dcd cX8_acts 108 = some (.ifCond .eq 7, 111) := by decide +kernel
theorem dX8_acts_111 : dcd cX8_acts 111 = some (.aload_n 0, 112) := by decide +kernel
theorem dX8_acts_112 : dcd cX8_acts 112 = some (.invokevirtual 139, 115) := by decide +kernel
theorem dX8_acts_115 : dcd cX8_acts 115 = some (.aload_n 0, 116) := by decide +kernel
theorem dX8_acts_116 : dcd cX8_acts 116 = some (.aload_n 0, 117) := by decide +kernel
theorem dX8_acts_117 : dcd cX8_acts 117 = some (.getfield 101, 120) := by decide +kernel
theorem dX8_acts_120 : dcd cX8_acts 120 = some (.iconst 3, 121) := by decide +kernel
theorem dX8_acts_121 : dcd cX8_acts 121 = some (.if_icmp .ne 7, 124) := by decide +kernel
theorem dX8_acts_124 : dcd cX8_acts 124 = some (.iconst 1, 125) := by decide +kernel
theorem dX8_acts_125 : dcd cX8_acts 125 = some (.goto 4, 128) := by decide +kernel
theorem dX8_acts_128 : dcd cX8_acts 128 = some (.iconst 0, 129) := by decide +kernel
theorem dX8_acts_129 : dcd cX8_acts 129 = some (.invokevirtual 121, 132) := by decide +kernel
theorem dX8_acts_132 : dcd cX8_acts 132 = some (.pop, 133) := by decide +kernel
theorem dX8_acts_133 : dcd cX8_acts 133 = some (.iinc 1 1, 136) := by decide +kernel
theorem dX8_acts_136 : dcd cX8_acts 136 = some (.goto (-110), 139) := by decide +kernel
theorem dX8_acts_139 : dcd cX8_acts 139 = some (.aload_n 0, 140) := by decide +kernel
theorem dX8_acts_140 : dcd cX8_acts 140 = some (.invokevirtual 114, 143) := by decide +kernel
theorem dX8_acts_143 : dcd cX8_acts 143 = some (.ifCond .ne 11, 146) := by decide +kernel
theorem dX8_acts_146 : dcd cX8_acts 146 = some (.bipush (-10), 148) := by decide +kernel
theorem dX8_acts_148 : dcd cX8_acts 148 = some (.aload_n 0, 149) := by decide +kernel
theorem dX8_acts_149 : dcd cX8_acts 149 = some (.getfield 111, 152) := by decide +kernel
theorem dX8_acts_152 : dcd cX8_acts 152 = some (.isub, 153) := by decide +kernel
theorem dX8_acts_153 : dcd cX8_acts 153 = some (.ireturn, 154) := by decide +kernel
theorem dX8_acts_154 : dcd cX8_acts 154 = some (.iconst 0, 155) := by decide +kernel
theorem dX8_acts_155 : dcd cX8_acts 155 = some (.istore_n 2, 156) := by decide +kernel
theorem dX8_acts_156 : dcd cX8_acts 156 = some (.iload_n 2, 157) := by decide +kernel
theorem dX8_acts_157 : dcd cX8_acts 157 = some (.bipush 81, 159) := by decide +kernel
theorem dX8_acts_159 : dcd cX8_acts 159 = some (.if_icmp .ge 24, 162) := by decide +kernel
theorem dX8_acts_162 : dcd cX8_acts 162 = some (.aload_n 0, 163) := by decide +kernel
theorem dX8_acts_163 : dcd cX8_acts 163 = some (.getfield 13, 166) := by decide +kernel
theorem dX8_acts_166 : dcd cX8_acts 166 = some (.iload_n 2, 167) := by decide +kernel
theorem dX8_acts_167 : dcd cX8_acts 167 = some (.aload_n 0, 168) := by decide +kernel
theorem dX8_acts_168 : dcd cX8_acts 168 = some (.getfield 13, 171) := by decide +kernel
theorem dX8_acts_171 : dcd cX8_acts 171 = some (.bipush 90, 173) := by decide +kernel
theorem dX8_acts_173 : dcd cX8_acts 173 = some (.iload_n 2, 174) := by decide +kernel
theorem dX8_acts_174 : dcd cX8_acts 174 = some (.iadd, 175) := by decide +kernel
theorem dX8_acts_175 : dcd cX8_acts 175 = some (.iaload, 176) := by decide +kernel
theorem dX8_acts_176 : dcd cX8_acts 176 = some (.iastore, 177) := by decide +kernel
theorem dX8_acts_177 : dcd cX8_acts 177 = some (.iinc 2 1, 180) := by decide +kernel
theorem dX8_acts_180 : dcd cX8_acts 180 = some (.goto (-24), 183) := by decide +kernel
theorem dX8_acts_183 : dcd cX8_acts 183 = some (.aload_n 0, 184) := by decide +kernel
theorem dX8_acts_184 : dcd cX8_acts 184 = some (.aload_n 0, 185) := by decide +kernel
theorem dX8_acts_185 : dcd cX8_acts 185 = some (.getfield 125, 188) := by decide +kernel
theorem dX8_acts_188 : dcd cX8_acts 188 = some (.putfield 142, 191) := by decide +kernel
theorem dX8_acts_191 : dcd cX8_acts 191 = some (.iconst 0, 192) := by decide +kernel
theorem dX8_acts_192 : dcd cX8_acts 192 = some (.istore_n 2, 193) := by decide +kernel
theorem dX8_acts_193 : dcd cX8_acts 193 = some (.iload_n 2, 194) := by decide +kernel
theorem dX8_acts_194 : dcd cX8_acts 194 = some (.bipush 9, 196) := by decide +kernel
theorem dX8_acts_196 : dcd cX8_acts 196 = some (.if_icmp .ge 16, 199) := by decide +kernel
theorem dX8_acts_199 : dcd cX8_acts 199 = some (.aload_n 0, 200) := by decide +kernel
theorem dX8_acts_200 : dcd cX8_acts 200 = some (.getfield 19, 203) := by decide +kernel
theorem dX8_acts_203 : dcd cX8_acts 203 = some (.iload_n 2, 204) := by decide +kernel
theorem dX8_acts_204 : dcd cX8_acts 204 = some (.iconst 0, 205) := by decide +kernel
theorem dX8_acts_205 : dcd cX8_acts 205 = some (.iastore, 206) := by decide +kernel
theorem dX8_acts_206 : dcd cX8_acts 206 = some (.iinc 2 1, 209) := by decide +kernel
theorem dX8_acts_209 : dcd cX8_acts 209 = some (.goto (-16), 212) := by decide +kernel
theorem dX8_acts_212 : dcd cX8_acts 212 = some (.aload_n 0, 213) := by decide +kernel
theorem dX8_acts_213 : dcd cX8_acts 213 = some (.getfield 22, 216) := by decide +kernel
theorem dX8_acts_216 : dcd cX8_acts 216 = some (.iconst 0, 217) := by decide +kernel
theorem dX8_acts_217 : dcd cX8_acts 217 = some (.iconst 0, 218) := by decide +kernel
theorem dX8_acts_218 : dcd cX8_acts 218 = some (.iastore, 219) := by decide +kernel
theorem dX8_acts_219 : dcd cX8_acts 219 = some (.aload_n 0, 220) := by decide +kernel
theorem dX8_acts_220 : dcd cX8_acts 220 = some (.getfield 22, 223) := by decide +kernel
theorem dX8_acts_223 : dcd cX8_acts 223 = some (.iconst 1, 224) := by decide +kernel
theorem dX8_acts_224 : dcd cX8_acts 224 = some (.iconst 0, 225) := by decide +kernel
theorem dX8_acts_225 : dcd cX8_acts 225 = some (.iastore, 226) := by decide +kernel
theorem dX8_acts_226 : dcd cX8_acts 226 = some (.aload_n 0, 227) := by decide +kernel
theorem dX8_acts_227 : dcd cX8_acts 227 = some (.iconst 0, 228) := by decide +kernel
theorem dX8_acts_228 : dcd cX8_acts 228 = some (.putfield 145, 231) := by decide +kernel
theorem dX8_acts_231 : dcd cX8_acts 231 = some (.aload_n 0, 232) := by decide +kernel
theorem dX8_acts_232 : dcd cX8_acts 232 = some (.getfield 28, 235) := by decide +kernel
theorem dX8_acts_235 : dcd cX8_acts 235 = some (.iconst 0, 236) := by decide +kernel
theorem dX8_acts_236 : dcd cX8_acts 236 = some (.iconst 0, 237) := by decide +kernel
theorem dX8_acts_237 : dcd cX8_acts 237 = some (.bastore, 238) := by decide +kernel
theorem dX8_acts_238 : dcd cX8_acts 238 = some (.aload_n 0, 239) := by decide +kernel
theorem dX8_acts_239 : dcd cX8_acts 239 = some (.getfield 28, 242) := by decide +kernel
theorem dX8_acts_242 : dcd cX8_acts 242 = some (.iconst 1, 243) := by decide +kernel
theorem dX8_acts_243 : dcd cX8_acts 243 = some (.iconst 0, 244) := by decide +kernel
theorem dX8_acts_244 : dcd cX8_acts 244 = some (.bastore, 245) := by decide +kernel
theorem dX8_acts_245 : dcd cX8_acts 245 = some (.aload_n 0, 246) := by decide +kernel
theorem dX8_acts_246 : dcd cX8_acts 246 = some (.iconst 0, 247) := by decide +kernel
theorem dX8_acts_247 : dcd cX8_acts 247 = some (.putfield 76, 250) := by decide +kernel
theorem dX8_acts_250 : dcd cX8_acts 250 = some (.iload_n 1, 251) := by decide +kernel
theorem dX8_acts_251 : dcd cX8_acts 251 = some (.ireturn, 252) := by decide +kernel
theorem dX8_isAct_0 : dcd cX8_isAct 0 = some (.iload_n 1, 1) := by decide +kernel
theorem dX8_isAct_1 : dcd cX8_isAct 1 = some (.iconst 0, 2) := by decide +kernel
theorem dX8_isAct_2 : dcd cX8_isAct 2 = some (.aload_n 0, 3) := by decide +kernel
theorem dX8_isAct_3 : dcd cX8_isAct 3 = some (.getfield 142, 6) := by decide +kernel
theorem dX8_isAct_6 : dcd cX8_isAct 6 = some (.iconst 1, 7) := by decide +kernel
theorem dX8_isAct_7 : dcd cX8_isAct 7 = some (.isub, 8) := by decide +kernel
theorem dX8_isAct_8 : dcd cX8_isAct 8 = some (.invokestatic 72, 11) := by decide +kernel
theorem dX8_isAct_11 : dcd cX8_isAct 11 = some (.ireturn, 12) := by decide +kernel
theorem dX8_act_0 : dcd cX8_act 0 = some (.aload_n 0, 1) := by decide +kernel
theorem dX8_act_1 : dcd cX8_act 1 = some (.iconst 0, 2) := by decide +kernel
theorem dX8_act_2 : dcd cX8_act 2 = some (.putfield 68, 5) := by decide +kernel
theorem dX8_act_5 : dcd cX8_act 5 = some (.aload_n 0, 6) := by decide +kernel
theorem dX8_act_6 : dcd cX8_act 6 = some (.iload_n 1, 7) := by decide +kernel
theorem dX8_act_7 : dcd cX8_act 7 = some (.invokevirtual 148, 10) := by decide +kernel
theorem dX8_act_10 : dcd cX8_act 10 = some (.ifCond .eq 13, 13) := by decide +kernel
theorem dX8_act_13 : dcd cX8_act 13 = some (.iload_n 2, 14) := by decide +kernel
theorem dX8_act_14 : dcd cX8_act 14 = some (.iconst 0, 15) := by decide +kernel
theorem dX8_act_15 : dcd cX8_act 15 = some (.bipush 8, 17) := by decide +kernel
theorem dX8_act_17 : dcd cX8_act 17 = some (.invokestatic 72, 20) := by decide +kernel
theorem dX8_act_20 : dcd cX8_act 20 = some (.ifCond .ne 7, 23) := by decide +kernel
theorem dX8_act_23 : dcd cX8_act 23 = some (.iconst (-1), 24) := by decide +kernel
theorem dX8_act_24 : dcd cX8_act 24 = some (.goto 24, 27) := by decide +kernel
theorem dX8_act_27 : dcd cX8_act 27 = some (.iload_n 2, 28) := by decide +kernel
theorem dX8_act_28 : dcd cX8_act 28 = some (.bipush 8, 30) := by decide +kernel
theorem dX8_act_30 : dcd cX8_act 30 = some (.if_icmp .ne 12, 33) := by decide +kernel
theorem dX8_act_33 : dcd cX8_act 33 = some (.aload_n 0, 34) := by decide +kernel
theorem dX8_act_34 : dcd cX8_act 34 = some (.getfield 19, 37) := by decide +kernel
theorem dX8_act_37 : dcd cX8_act 37 = some (.iload_n 1, 38) := by decide +kernel
theorem dX8_act_38 : dcd cX8_act 38 = some (.iaload, 39) := by decide +kernel
theorem dX8_act_39 : dcd cX8_act 39 = some (.goto 9, 42) := by decide +kernel
theorem dX8_act_42 : dcd cX8_act 42 = some (.aload_n 0, 43) := by decide +kernel
theorem dX8_act_43 : dcd cX8_act 43 = some (.iload_n 1, 44) := by decide +kernel
theorem dX8_act_44 : dcd cX8_act 44 = some (.iload_n 2, 45) := by decide +kernel
theorem dX8_act_45 : dcd cX8_act 45 = some (.invokevirtual 151, 48) := by decide +kernel
theorem dX8_act_48 : dcd cX8_act 48 = some (.ireturn, 49) := by decide +kernel
theorem dX8_feud_0 : dcd cX8_feud 0 = some (.aload_n 0, 1) := by decide +kernel
theorem dX8_feud_1 : dcd cX8_feud 1 = some (.iconst 0, 2) := by decide +kernel
theorem dX8_feud_2 : dcd cX8_feud 2 = some (.putfield 68, 5) := by decide +kernel
theorem dX8_feud_5 : dcd cX8_feud 5 = some (.aload_n 0, 6) := by decide +kernel
theorem dX8_feud_6 : dcd cX8_feud 6 = some (.iload_n 1, 7) := by decide +kernel
theorem dX8_feud_7 : dcd cX8_feud 7 = some (.invokevirtual 148, 10) := by decide +kernel
theorem dX8_feud_10 : dcd cX8_feud 10 = some (.ifCond .eq 30, 13) := by decide +kernel
theorem dX8_feud_13 : dcd cX8_feud 13 = some (.aload_n 0, 14) := by decide +kernel
theorem dX8_feud_14 : dcd cX8_feud 14 = some (.iload_n 2, 15) := by decide +kernel
theorem dX8_feud_15 : dcd cX8_feud 15 = some (.invokevirtual 148, 18) := by decide +kernel
theorem dX8_feud_18 : dcd cX8_feud 18 = some (.ifCond .eq 22, 21) := by decide +kernel
theorem dX8_feud_21 : dcd cX8_feud 21 = some (.iload_n 1, 22) := by decide +kernel
theorem dX8_feud_22 : dcd cX8_feud 22 = some (.iload_n 2, 23) := by decide +kernel
theorem dX8_feud_23 : dcd cX8_feud 23 = some (.if_icmp .eq 17, 26) := by decide +kernel
theorem dX8_feud_26 : dcd cX8_feud 26 = some (.aload_n 0, 27) := by decide +kernel
theorem dX8_feud_27 : dcd cX8_feud 27 = some (.iload_n 1, 28) := by decide +kernel
theorem dX8_feud_28 : dcd cX8_feud 28 = some (.bipush 8, 30) := by decide +kernel
theorem dX8_feud_30 : dcd cX8_feud 30 = some (.invokevirtual 151, 33) := by decide +kernel
theorem dX8_feud_33 : dcd cX8_feud 33 = some (.iload_n 2, 34) := by decide +kernel
theorem dX8_feud_34 : dcd cX8_feud 34 = some (.ishr, 35) := by decide +kernel
theorem dX8_feud_35 : dcd cX8_feud 35 = some (.iconst 1, 36) := by decide +kernel
theorem dX8_feud_36 : dcd cX8_feud 36 = some (.iand, 37) := by decide +kernel
theorem dX8_feud_37 : dcd cX8_feud 37 = some (.goto 4, 40) := by decide +kernel
theorem dX8_feud_40 : dcd cX8_feud 40 = some (.iconst (-1), 41) := by decide +kernel
theorem dX8_feud_41 : dcd cX8_feud 41 = some (.ireturn, 42) := by decide +kernel
theorem dX8_tune_0 : dcd cX8_tune 0 = some (.aload_n 0, 1) := by decide +kernel
theorem dX8_tune_1 : dcd cX8_tune 1 = some (.iconst 0, 2) := by decide +kernel
theorem dX8_tune_2 : dcd cX8_tune 2 = some (.putfield 68, 5) := by decide +kernel
theorem dX8_tune_5 : dcd cX8_tune 5 = some (.iload_n 1, 6) := by decide +kernel
theorem dX8_tune_6 : dcd cX8_tune 6 = some (.iconst 1, 7) := by decide +kernel
theorem dX8_tune_7 : dcd cX8_tune 7 = some (.if_icmp .ne 8, 10) := by decide +kernel
theorem dX8_tune_10 : dcd cX8_tune 10 = some (.bipush 10, 12) := by decide +kernel
theorem dX8_tune_12 : dcd cX8_tune 12 = some (.goto 4, 15) := by decide +kernel
theorem dX8_tune_15 : dcd cX8_tune 15 = some (.iconst 0, 16) := by decide +kernel
theorem dX8_tune_16 : dcd cX8_tune 16 = some (.istore_n 3, 17) := by decide +kernel
theorem dX8_tune_17 : dcd cX8_tune 17 = some (.iload_n 1, 18) := by decide +kernel
theorem dX8_tune_18 : dcd cX8_tune 18 = some (.iconst 1, 19) := by decide +kernel
theorem dX8_tune_19 : dcd cX8_tune 19 = some (.if_icmp .ne 9, 22) := by decide +kernel
theorem dX8_tune_22 : dcd cX8_tune 22 = some (.sipush 400, 25) := by decide +kernel
theorem dX8_tune_25 : dcd cX8_tune 25 = some (.goto 48, 28) := by decide +kernel
theorem dX8_tune_28 : dcd cX8_tune 28 = some (.iload_n 1, 29) := by decide +kernel
theorem dX8_tune_29 : dcd cX8_tune 29 = some (.iconst 2, 30) := by decide +kernel
theorem dX8_tune_30 : dcd cX8_tune 30 = some (.if_icmp .ne 8, 33) := by decide +kernel
theorem dX8_tune_33 : dcd cX8_tune 33 = some (.bipush 30, 35) := by decide +kernel
theorem dX8_tune_35 : dcd cX8_tune 35 = some (.goto 38, 38) := by decide +kernel
theorem dX8_tune_38 : dcd cX8_tune 38 = some (.iload_n 1, 39) := by decide +kernel
theorem dX8_tune_39 : dcd cX8_tune 39 = some (.iconst 4, 40) := by decide +kernel
theorem dX8_tune_40 : dcd cX8_tune 40 = some (.if_icmp .ne 8, 43) := by decide +kernel
theorem dX8_tune_43 : dcd cX8_tune 43 = some (.bipush 10, 45) := by decide +kernel
theorem dX8_tune_45 : dcd cX8_tune 45 = some (.goto 28, 48) := by decide +kernel
theorem dX8_tune_48 : dcd cX8_tune 48 = some (.iload_n 1, 49) := by decide +kernel
theorem dX8_tune_49 : dcd cX8_tune 49 = some (.bipush 6, 51) := by decide +kernel
theorem dX8_tune_51 : dcd cX8_tune 51 = some (.if_icmp .ne 8, 54) := by decide +kernel
theorem dX8_tune_54 : dcd cX8_tune 54 = some (.bipush 99, 56) := by decide +kernel
theorem dX8_tune_56 : dcd cX8_tune 56 = some (.goto 17, 59) := by decide +kernel
theorem dX8_tune_59 : dcd cX8_tune 59 = some (.iload_n 1, 60) := by decide +kernel
theorem dX8_tune_60 : dcd cX8_tune 60 = some (.bipush 7, 62) := by decide +kernel
theorem dX8_tune_62 : dcd cX8_tune 62 = some (.if_icmp .ne 9, 65) := by decide +kernel
theorem dX8_tune_65 : dcd cX8_tune 65 = some (.sipush 999, 68) := by decide +kernel
theorem dX8_tune_68 : dcd cX8_tune 68 = some (.goto 5, 71) := by decide +kernel
theorem dX8_tune_71 : dcd cX8_tune 71 = some (.bipush 9, 73) := by decide +kernel
theorem dX8_tune_73 : dcd cX8_tune 73 = some (.istore 4, 75) := by decide +kernel
theorem dX8_tune_75 : dcd cX8_tune 75 = some (.iload_n 1, 76) := by decide +kernel
theorem dX8_tune_76 : dcd cX8_tune 76 = some (.iconst 0, 77) := by decide +kernel
theorem dX8_tune_77 : dcd cX8_tune 77 = some (.bipush 7, 79) := by decide +kernel
theorem dX8_tune_79 : dcd cX8_tune 79 = some (.invokestatic 72, 82) := by decide +kernel
theorem dX8_tune_82 : dcd cX8_tune 82 = some (.ifCond .eq 13, 85) := by decide +kernel
theorem dX8_tune_85 : dcd cX8_tune 85 = some (.iload_n 2, 86) := by decide +kernel
theorem dX8_tune_86 : dcd cX8_tune 86 = some (.iload_n 3, 87) := by decide +kernel
theorem dX8_tune_87 : dcd cX8_tune 87 = some (.iload 4, 89) := by decide +kernel
theorem dX8_tune_89 : dcd cX8_tune 89 = some (.invokestatic 72, 92) := by decide +kernel
theorem dX8_tune_92 : dcd cX8_tune 92 = some (.ifCond .ne 5, 95) := by decide +kernel
theorem dX8_tune_95 : dcd cX8_tune 95 = some (.iconst (-1), 96) := by decide +kernel
theorem dX8_tune_96 : dcd cX8_tune 96 = some (.ireturn, 97) := by decide +kernel
theorem dX8_tune_97 : dcd cX8_tune 97 = some (.aload_n 0, 98) := by decide +kernel
theorem dX8_tune_98 : dcd cX8_tune 98 = some (.getfield 16, 101) := by decide +kernel
theorem dX8_tune_101 : dcd cX8_tune 101 = some (.iload_n 1, 102) := by decide +kernel
theorem dX8_tune_102 : dcd cX8_tune 102 = some (.iaload, 103) := by decide +kernel
theorem dX8_tune_103 : dcd cX8_tune 103 = some (.istore 5, 105) := by decide +kernel
theorem dX8_tune_105 : dcd cX8_tune 105 = some (.aload_n 0, 106) := by decide +kernel
theorem dX8_tune_106 : dcd cX8_tune 106 = some (.getfield 16, 109) := by decide +kernel
theorem dX8_tune_109 : dcd cX8_tune 109 = some (.iload_n 1, 110) := by decide +kernel
theorem dX8_tune_110 : dcd cX8_tune 110 = some (.iload_n 2, 111) := by decide +kernel
theorem dX8_tune_111 : dcd cX8_tune 111 = some (.iastore, 112) := by decide +kernel
theorem dX8_tune_112 : dcd cX8_tune 112 = some (.iload 5, 114) := by decide +kernel
theorem dX8_tune_114 : dcd cX8_tune 114 = some (.ireturn, 115) := by decide +kernel
theorem dX8_family_0 : dcd cX8_family 0 = some (.aload_n 0, 1) := by decide +kernel
theorem dX8_family_1 : dcd cX8_family 1 = some (.iconst 0, 2) := by decide +kernel
theorem dX8_family_2 : dcd cX8_family 2 = some (.putfield 68, 5) := by decide +kernel
theorem dX8_family_5 : dcd cX8_family 5 = some (.aload_n 0, 6) := by decide +kernel
theorem dX8_family_6 : dcd cX8_family 6 = some (.iload_n 1, 7) := by decide +kernel
theorem dX8_family_7 : dcd cX8_family 7 = some (.invokevirtual 148, 10) := by decide +kernel
theorem dX8_family_10 : dcd cX8_family 10 = some (.ifCond .eq 13, 13) := by decide +kernel
theorem dX8_family_13 : dcd cX8_family 13 = some (.iload_n 2, 14) := by decide +kernel
theorem dX8_family_14 : dcd cX8_family 14 = some (.iconst 0, 15) := by decide +kernel
theorem dX8_family_15 : dcd cX8_family 15 = some (.bipush 99, 17) := by decide +kernel
theorem dX8_family_17 : dcd cX8_family 17 = some (.invokestatic 72, 20) := by decide +kernel
theorem dX8_family_20 : dcd cX8_family 20 = some (.ifCond .ne 5, 23) := by decide +kernel
theorem dX8_family_23 : dcd cX8_family 23 = some (.iconst (-1), 24) := by decide +kernel
theorem dX8_family_24 : dcd cX8_family 24 = some (.ireturn, 25) := by decide +kernel
theorem dX8_family_25 : dcd cX8_family 25 = some (.aload_n 0, 26) := by decide +kernel
theorem dX8_family_26 : dcd cX8_family 26 = some (.getfield 19, 29) := by decide +kernel
theorem dX8_family_29 : dcd cX8_family 29 = some (.iload_n 1, 30) := by decide +kernel
theorem dX8_family_30 : dcd cX8_family 30 = some (.iaload, 31) := by decide +kernel
theorem dX8_family_31 : dcd cX8_family 31 = some (.istore_n 3, 32) := by decide +kernel
theorem dX8_family_32 : dcd cX8_family 32 = some (.aload_n 0, 33) := by decide +kernel
theorem dX8_family_33 : dcd cX8_family 33 = some (.getfield 19, 36) := by decide +kernel
theorem dX8_family_36 : dcd cX8_family 36 = some (.iload_n 1, 37) := by decide +kernel
theorem dX8_family_37 : dcd cX8_family 37 = some (.iload_n 2, 38) := by decide +kernel
theorem dX8_family_38 : dcd cX8_family 38 = some (.iastore, 39) := by decide +kernel
theorem dX8_family_39 : dcd cX8_family 39 = some (.iload_n 3, 40) := by decide +kernel
theorem dX8_family_40 : dcd cX8_family 40 = some (.ireturn, 41) := by decide +kernel
theorem dX8_placeOf_0 : dcd cX8_placeOf 0 = some (.iconst 0, 1) := by decide +kernel
theorem dX8_placeOf_1 : dcd cX8_placeOf 1 = some (.istore_n 2, 2) := by decide +kernel
theorem dX8_placeOf_2 : dcd cX8_placeOf 2 = some (.iload_n 2, 3) := by decide +kernel
theorem dX8_placeOf_3 : dcd cX8_placeOf 3 = some (.aload_n 0, 4) := by decide +kernel
theorem dX8_placeOf_4 : dcd cX8_placeOf 4 = some (.getfield 22, 7) := by decide +kernel
theorem dX8_placeOf_7 : dcd cX8_placeOf 7 = some (.iconst 0, 8) := by decide +kernel
theorem dX8_placeOf_8 : dcd cX8_placeOf 8 = some (.iaload, 9) := by decide +kernel
theorem dX8_placeOf_9 : dcd cX8_placeOf 9 = some (.if_icmp .ge 23, 12) := by decide +kernel
theorem dX8_placeOf_12 : dcd cX8_placeOf 12 = some (.aload_n 0, 13) := by decide +kernel
theorem dX8_placeOf_13 : dcd cX8_placeOf 13 = some (.getfield 22, 16) := by decide +kernel
theorem dX8_placeOf_16 : dcd cX8_placeOf 16 = some (.iconst 3, 17) := by decide +kernel
theorem dX8_placeOf_17 : dcd cX8_placeOf 17 = some (.iload_n 2, 18) := by decide +kernel
theorem dX8_placeOf_18 : dcd cX8_placeOf 18 = some (.iadd, 19) := by decide +kernel
theorem dX8_placeOf_19 : dcd cX8_placeOf 19 = some (.iaload, 20) := by decide +kernel
theorem dX8_placeOf_20 : dcd cX8_placeOf 20 = some (.iload_n 1, 21) := by decide +kernel
theorem dX8_placeOf_21 : dcd cX8_placeOf 21 = some (.if_icmp .ne 5, 24) := by decide +kernel
theorem dX8_placeOf_24 : dcd cX8_placeOf 24 = some (.iload_n 2, 25) := by decide +kernel
theorem dX8_placeOf_25 : dcd cX8_placeOf 25 = some (.ireturn, 26) := by decide +kernel
theorem dX8_placeOf_26 : dcd cX8_placeOf 26 = some (.iinc 2 1, 29) := by decide +kernel
theorem dX8_placeOf_29 : dcd cX8_placeOf 29 = some (.goto (-27), 32) := by decide +kernel
theorem dX8_placeOf_32 : dcd cX8_placeOf 32 = some (.bipush (-9), 34) := by decide +kernel
theorem dX8_placeOf_34 : dcd cX8_placeOf 34 = some (.ireturn, 35) := by decide +kernel
theorem dX8_place_0 : dcd cX8_place 0 = some (.aload_n 0, 1) := by decide +kernel
theorem dX8_place_1 : dcd cX8_place 1 = some (.iconst 0, 2) := by decide +kernel
theorem dX8_place_2 : dcd cX8_place 2 = some (.putfield 68, 5) := by decide +kernel
theorem dX8_place_5 : dcd cX8_place 5 = some (.aload_n 0, 6) := by decide +kernel
theorem dX8_place_6 : dcd cX8_place 6 = some (.iload_n 1, 7) := by decide +kernel
theorem dX8_place_7 : dcd cX8_place 7 = some (.invokevirtual 148, 10) := by decide +kernel
theorem dX8_place_10 : dcd cX8_place 10 = some (.ifCond .ne 5, 13) := by decide +kernel
theorem dX8_place_13 : dcd cX8_place 13 = some (.iconst (-1), 14) := by decide +kernel
theorem dX8_place_14 : dcd cX8_place 14 = some (.ireturn, 15) := by decide +kernel
theorem dX8_place_15 : dcd cX8_place 15 = some (.aload_n 0, 16) := by decide +kernel
theorem dX8_place_16 : dcd cX8_place 16 = some (.iload_n 1, 17) := by decide +kernel
theorem dX8_place_17 : dcd cX8_place 17 = some (.invokevirtual 154, 20) := by decide +kernel
theorem dX8_place_20 : dcd cX8_place 20 = some (.bipush (-9), 22) := by decide +kernel
theorem dX8_place_22 : dcd cX8_place 22 = some (.if_icmp .eq 6, 25) := by decide +kernel
theorem dX8_place_25 : dcd cX8_place 25 = some (.bipush (-2), 27) := by decide +kernel
theorem dX8_place_27 : dcd cX8_place 27 = some (.ireturn, 28) := by decide +kernel
theorem dX8_place_28 : dcd cX8_place 28 = some (.aload_n 0, 29) := by decide +kernel
theorem dX8_place_29 : dcd cX8_place 29 = some (.getfield 22, 32) := by decide +kernel
theorem dX8_place_32 : dcd cX8_place 32 = some (.iconst 3, 33) := by decide +kernel
theorem dX8_place_33 : dcd cX8_place 33 = some (.aload_n 0, 34) := by decide +kernel
theorem dX8_place_34 : dcd cX8_place 34 = some (.getfield 22, 37) := by decide +kernel
theorem dX8_place_37 : dcd cX8_place 37 = some (.iconst 0, 38) := by decide +kernel
theorem dX8_place_38 : dcd cX8_place 38 = some (.iaload, 39) := by decide +kernel
theorem dX8_place_39 : dcd cX8_place 39 = some (.iadd, 40) := by decide +kernel
theorem dX8_place_40 : dcd cX8_place 40 = some (.iload_n 1, 41) := by decide +kernel
theorem dX8_place_41 : dcd cX8_place 41 = some (.iastore, 42) := by decide +kernel
theorem dX8_place_42 : dcd cX8_place 42 = some (.aload_n 0, 43) := by decide +kernel
theorem dX8_place_43 : dcd cX8_place 43 = some (.getfield 22, 46) := by decide +kernel
theorem dX8_place_46 : dcd cX8_place 46 = some (.iconst 0, 47) := by decide +kernel
theorem dX8_place_47 : dcd cX8_place 47 = some (.dup2, 48) := by decide +kernel
theorem dX8_place_48 : dcd cX8_place 48 = some (.iaload, 49) := by decide +kernel
theorem dX8_place_49 : dcd cX8_place 49 = some (.iconst 1, 50) := by decide +kernel
theorem dX8_place_50 : dcd cX8_place 50 = some (.iadd, 51) := by decide +kernel
theorem dX8_place_51 : dcd cX8_place 51 = some (.iastore, 52) := by decide +kernel
theorem dX8_place_52 : dcd cX8_place 52 = some (.aload_n 0, 53) := by decide +kernel
theorem dX8_place_53 : dcd cX8_place 53 = some (.getfield 22, 56) := by decide +kernel
theorem dX8_place_56 : dcd cX8_place 56 = some (.iconst 0, 57) := by decide +kernel
theorem dX8_place_57 : dcd cX8_place 57 = some (.iaload, 58) := by decide +kernel
theorem dX8_place_58 : dcd cX8_place 58 = some (.ireturn, 59) := by decide +kernel
theorem dX8_empty_0 : dcd cX8_empty 0 = some (.aload_n 0, 1) := by decide +kernel
theorem dX8_empty_1 : dcd cX8_empty 1 = some (.iconst 0, 2) := by decide +kernel
theorem dX8_empty_2 : dcd cX8_empty 2 = some (.putfield 68, 5) := by decide +kernel
theorem dX8_empty_5 : dcd cX8_empty 5 = some (.aload_n 0, 6) := by decide +kernel
theorem dX8_empty_6 : dcd cX8_empty 6 = some (.getfield 22, 9) := by decide +kernel
theorem dX8_empty_9 : dcd cX8_empty 9 = some (.iconst 0, 10) := by decide +kernel
theorem dX8_empty_10 : dcd cX8_empty 10 = some (.iaload, 11) := by decide +kernel
theorem dX8_empty_11 : dcd cX8_empty 11 = some (.istore_n 1, 12) := by decide +kernel
theorem dX8_empty_12 : dcd cX8_empty 12 = some (.aload_n 0, 13) := by decide +kernel
theorem dX8_empty_13 : dcd cX8_empty 13 = some (.getfield 22, 16) := by decide +kernel
theorem dX8_empty_16 : dcd cX8_empty 16 = some (.iconst 0, 17) := by decide +kernel
theorem dX8_empty_17 : dcd cX8_empty 17 = some (.iconst 0, 18) := by decide +kernel
theorem dX8_empty_18 : dcd cX8_empty 18 = some (.iastore, 19) := by decide +kernel
theorem dX8_empty_19 : dcd cX8_empty 19 = some (.aload_n 0, 20) := by decide +kernel
theorem dX8_empty_20 : dcd cX8_empty 20 = some (.getfield 22, 23) := by decide +kernel
theorem dX8_empty_23 : dcd cX8_empty 23 = some (.iconst 1, 24) := by decide +kernel
theorem dX8_empty_24 : dcd cX8_empty 24 = some (.iconst 0, 25) := by decide +kernel
theorem dX8_empty_25 : dcd cX8_empty 25 = some (.iastore, 26) := by decide +kernel
theorem dX8_empty_26 : dcd cX8_empty 26 = some (.iload_n 1, 27) := by decide +kernel
theorem dX8_empty_27 : dcd cX8_empty 27 = some (.ireturn, 28) := by decide +kernel
theorem dX8_rest_0 : dcd cX8_rest 0 = some (.aload_n 0, 1) := by decide +kernel
theorem dX8_rest_1 : dcd cX8_rest 1 = some (.iconst 0, 2) := by decide +kernel
theorem dX8_rest_2 : dcd cX8_rest 2 = some (.putfield 68, 5) := by decide +kernel
theorem dX8_rest_5 : dcd cX8_rest 5 = some (.iload_n 1, 6) := by decide +kernel
theorem dX8_rest_6 : dcd cX8_rest 6 = some (.iconst 0, 7) := by decide +kernel
theorem dX8_rest_7 : dcd cX8_rest 7 = some (.aload_n 0, 8) := by decide +kernel
theorem dX8_rest_8 : dcd cX8_rest 8 = some (.getfield 22, 11) := by decide +kernel
theorem dX8_rest_11 : dcd cX8_rest 11 = some (.iconst 0, 12) := by decide +kernel
theorem dX8_rest_12 : dcd cX8_rest 12 = some (.iaload, 13) := by decide +kernel
theorem dX8_rest_13 : dcd cX8_rest 13 = some (.iconst 1, 14) := by decide +kernel
theorem dX8_rest_14 : dcd cX8_rest 14 = some (.isub, 15) := by decide +kernel
theorem dX8_rest_15 : dcd cX8_rest 15 = some (.invokestatic 72, 18) := by decide +kernel
theorem dX8_rest_18 : dcd cX8_rest 18 = some (.ifCond .ne 5, 21) := by decide +kernel
theorem dX8_rest_21 : dcd cX8_rest 21 = some (.iconst (-1), 22) := by decide +kernel
theorem dX8_rest_22 : dcd cX8_rest 22 = some (.ireturn, 23) := by decide +kernel
theorem dX8_rest_23 : dcd cX8_rest 23 = some (.aload_n 0, 24) := by decide +kernel
theorem dX8_rest_24 : dcd cX8_rest 24 = some (.getfield 22, 27) := by decide +kernel
theorem dX8_rest_27 : dcd cX8_rest 27 = some (.iconst 1, 28) := by decide +kernel
theorem dX8_rest_28 : dcd cX8_rest 28 = some (.iaload, 29) := by decide +kernel
theorem dX8_rest_29 : dcd cX8_rest 29 = some (.istore_n 2, 30) := by decide +kernel
theorem dX8_rest_30 : dcd cX8_rest 30 = some (.aload_n 0, 31) := by decide +kernel
theorem dX8_rest_31 : dcd cX8_rest 31 = some (.getfield 22, 34) := by decide +kernel
theorem dX8_rest_34 : dcd cX8_rest 34 = some (.iconst 1, 35) := by decide +kernel
theorem dX8_rest_35 : dcd cX8_rest 35 = some (.iload_n 1, 36) := by decide +kernel
theorem dX8_rest_36 : dcd cX8_rest 36 = some (.iastore, 37) := by decide +kernel
theorem dX8_rest_37 : dcd cX8_rest 37 = some (.iload_n 2, 38) := by decide +kernel
theorem dX8_rest_38 : dcd cX8_rest 38 = some (.ireturn, 39) := by decide +kernel
theorem dX8_isPlace_0 : dcd cX8_isPlace 0 = some (.iload_n 1, 1) := by decide +kernel
theorem dX8_isPlace_1 : dcd cX8_isPlace 1 = some (.iconst 0, 2) := by decide +kernel
theorem dX8_isPlace_2 : dcd cX8_isPlace 2 = some (.aload_n 0, 3) := by decide +kernel
theorem dX8_isPlace_3 : dcd cX8_isPlace 3 = some (.getfield 22, 6) := by decide +kernel
theorem dX8_isPlace_6 : dcd cX8_isPlace 6 = some (.iconst 0, 7) := by decide +kernel
theorem dX8_isPlace_7 : dcd cX8_isPlace 7 = some (.iaload, 8) := by decide +kernel
theorem dX8_isPlace_8 : dcd cX8_isPlace 8 = some (.iconst 1, 9) := by decide +kernel
theorem dX8_isPlace_9 : dcd cX8_isPlace 9 = some (.isub, 10) := by decide +kernel
theorem dX8_isPlace_10 : dcd cX8_isPlace 10 = some (.invokestatic 72, 13) := by decide +kernel
theorem dX8_isPlace_13 : dcd cX8_isPlace 13 = some (.ireturn, 14) := by decide +kernel
theorem dX8_on_0 : dcd cX8_on 0 = some (.aload_n 0, 1) := by decide +kernel
theorem dX8_on_1 : dcd cX8_on 1 = some (.iconst 0, 2) := by decide +kernel
theorem dX8_on_2 : dcd cX8_on 2 = some (.putfield 68, 5) := by decide +kernel
theorem dX8_on_5 : dcd cX8_on 5 = some (.aload_n 0, 6) := by decide +kernel
theorem dX8_on_6 : dcd cX8_on 6 = some (.iload_n 1, 7) := by decide +kernel
theorem dX8_on_7 : dcd cX8_on 7 = some (.invokevirtual 157, 10) := by decide +kernel
theorem dX8_on_10 : dcd cX8_on 10 = some (.ifCond .eq 14, 13) := by decide +kernel
theorem dX8_on_13 : dcd cX8_on 13 = some (.aload_n 0, 14) := by decide +kernel
theorem dX8_on_14 : dcd cX8_on 14 = some (.getfield 22, 17) := by decide +kernel
theorem dX8_on_17 : dcd cX8_on 17 = some (.iconst 3, 18) := by decide +kernel
theorem dX8_on_18 : dcd cX8_on 18 = some (.iload_n 1, 19) := by decide +kernel
theorem dX8_on_19 : dcd cX8_on 19 = some (.iadd, 20) := by decide +kernel
theorem dX8_on_20 : dcd cX8_on 20 = some (.iaload, 21) := by decide +kernel
theorem dX8_on_21 : dcd cX8_on 21 = some (.goto 4, 24) := by decide +kernel
theorem dX8_on_24 : dcd cX8_on 24 = some (.iconst (-1), 25) := by decide +kernel
theorem dX8_on_25 : dcd cX8_on 25 = some (.ireturn, 26) := by decide +kernel
theorem dX8_asBilled_0 : dcd cX8_asBilled 0 = some (.aload_n 0, 1) := by decide +kernel
theorem dX8_asBilled_1 : dcd cX8_asBilled 1 = some (.aload_n 0, 2) := by decide +kernel
theorem dX8_asBilled_2 : dcd cX8_asBilled 2 = some (.getfield 22, 5) := by decide +kernel
theorem dX8_asBilled_5 : dcd cX8_asBilled 5 = some (.iconst 0, 6) := by decide +kernel
theorem dX8_asBilled_6 : dcd cX8_asBilled 6 = some (.iaload, 7) := by decide +kernel
theorem dX8_asBilled_7 : dcd cX8_asBilled 7 = some (.putfield 160, 10) := by decide +kernel
theorem dX8_asBilled_10 : dcd cX8_asBilled 10 = some (.aload_n 0, 11) := by decide +kernel
theorem dX8_asBilled_11 : dcd cX8_asBilled 11 = some (.aload_n 0, 12) := by decide +kernel
theorem dX8_asBilled_12 : dcd cX8_asBilled 12 = some (.getfield 22, 15) := by decide +kernel
theorem dX8_asBilled_15 : dcd cX8_asBilled 15 = some (.iconst 1, 16) := by decide +kernel
theorem dX8_asBilled_16 : dcd cX8_asBilled 16 = some (.iaload, 17) := by decide +kernel
theorem dX8_asBilled_17 : dcd cX8_asBilled 17 = some (.putfield 163, 20) := by decide +kernel
theorem dX8_asBilled_20 : dcd cX8_asBilled 20 = some (.iconst 0, 21) := by decide +kernel
theorem dX8_asBilled_21 : dcd cX8_asBilled 21 = some (.istore_n 1, 22) := by decide +kernel
theorem dX8_asBilled_22 : dcd cX8_asBilled 22 = some (.iload_n 1, 23) := by decide +kernel
theorem dX8_asBilled_23 : dcd cX8_asBilled 23 = some (.aload_n 0, 24) := by decide +kernel
theorem dX8_asBilled_24 : dcd cX8_asBilled 24 = some (.getfield 160, 27) := by decide +kernel
theorem dX8_asBilled_27 : dcd cX8_asBilled 27 = some (.if_icmp .ge 23, 30) := by decide +kernel
theorem dX8_asBilled_30 : dcd cX8_asBilled 30 = some (.aload_n 0, 31) := by decide +kernel
theorem dX8_asBilled_31 : dcd cX8_asBilled 31 = some (.getfield 32, 34) := by decide +kernel
theorem dX8_asBilled_34 : dcd cX8_asBilled 34 = some (.iload_n 1, 35) := by decide +kernel
theorem dX8_asBilled_35 : dcd cX8_asBilled 35 = some (.aload_n 0, 36) := by decide +kernel
theorem dX8_asBilled_36 : dcd cX8_asBilled 36 = some (.getfield 22, 39) := by decide +kernel
theorem dX8_asBilled_39 : dcd cX8_asBilled 39 = some (.iconst 3, 40) := by decide +kernel
theorem dX8_asBilled_40 : dcd cX8_asBilled 40 = some (.iload_n 1, 41) := by decide +kernel
theorem dX8_asBilled_41 : dcd cX8_asBilled 41 = some (.iadd, 42) := by decide +kernel
theorem dX8_asBilled_42 : dcd cX8_asBilled 42 = some (.iaload, 43) := by decide +kernel
theorem dX8_asBilled_43 : dcd cX8_asBilled 43 = some (.iastore, 44) := by decide +kernel
theorem dX8_asBilled_44 : dcd cX8_asBilled 44 = some (.iinc 1 1, 47) := by decide +kernel
theorem dX8_asBilled_47 : dcd cX8_asBilled 47 = some (.goto (-25), 50) := by decide +kernel
theorem dX8_asBilled_50 : dcd cX8_asBilled 50 = some (.return_, 51) := by decide +kernel
theorem dX8_end_0 : dcd cX8_end 0 = some (.aload_n 0, 1) := by decide +kernel
theorem dX8_end_1 : dcd cX8_end 1 = some (.getfield 38, 4) := by decide +kernel
theorem dX8_end_4 : dcd cX8_end 4 = some (.iload_n 1, 5) := by decide +kernel
theorem dX8_end_5 : dcd cX8_end 5 = some (.iaload, 6) := by decide +kernel
theorem dX8_end_6 : dcd cX8_end 6 = some (.aload_n 0, 7) := by decide +kernel
theorem dX8_end_7 : dcd cX8_end 7 = some (.aload_n 0, 8) := by decide +kernel
theorem dX8_end_8 : dcd cX8_end 8 = some (.getfield 32, 11) := by decide +kernel
theorem dX8_end_11 : dcd cX8_end 11 = some (.iload_n 1, 12) := by decide +kernel
theorem dX8_end_12 : dcd cX8_end 12 = some (.iaload, 13) := by decide +kernel
theorem dX8_end_13 : dcd cX8_end 13 = some (.iconst 1, 14) := by decide +kernel
theorem dX8_end_14 : dcd cX8_end 14 = some (.invokevirtual 151, 17) := by decide +kernel
theorem dX8_end_17 : dcd cX8_end 17 = some (.iadd, 18) := by decide +kernel
theorem dX8_end_18 : dcd cX8_end 18 = some (.ireturn, 19) := by decide +kernel
theorem dX8_isFront_0 : dcd cX8_isFront 0 = some (.aload_n 0, 1) := by decide +kernel
theorem dX8_isFront_1 : dcd cX8_isFront 1 = some (.aload_n 0, 2) := by decide +kernel
theorem dX8_isFront_2 : dcd cX8_isFront 2 = some (.getfield 32, 5) := by decide +kernel
theorem dX8_isFront_5 : dcd cX8_isFront 5 = some (.iload_n 1, 6) := by decide +kernel
theorem dX8_isFront_6 : dcd cX8_isFront 6 = some (.iaload, 7) := by decide +kernel
theorem dX8_isFront_7 : dcd cX8_isFront 7 = some (.iconst 3, 8) := by decide +kernel
theorem dX8_isFront_8 : dcd cX8_isFront 8 = some (.invokevirtual 151, 11) := by decide +kernel
theorem dX8_isFront_11 : dcd cX8_isFront 11 = some (.iconst 1, 12) := by decide +kernel
theorem dX8_isFront_12 : dcd cX8_isFront 12 = some (.if_icmp .ne 7, 15) := by decide +kernel
theorem dX8_isFront_15 : dcd cX8_isFront 15 = some (.iconst 1, 16) := by decide +kernel
theorem dX8_isFront_16 : dcd cX8_isFront 16 = some (.goto 4, 19) := by decide +kernel
theorem dX8_isFront_19 : dcd cX8_isFront 19 = some (.iconst 0, 20) := by decide +kernel
theorem dX8_isFront_20 : dcd cX8_isFront 20 = some (.ireturn, 21) := by decide +kernel
theorem dX8_gapOf_0 : dcd cX8_gapOf 0 = some (.aload_n 0, 1) := by decide +kernel
theorem dX8_gapOf_1 : dcd cX8_gapOf 1 = some (.iload_n 1, 2) := by decide +kernel
theorem dX8_gapOf_2 : dcd cX8_gapOf 2 = some (.invokevirtual 166, 5) := by decide +kernel
theorem dX8_gapOf_5 : dcd cX8_gapOf 5 = some (.ifCond .eq 5, 8) := by decide +kernel
theorem dX8_gapOf_8 : dcd cX8_gapOf 8 = some (.iconst 0, 9) := by decide +kernel
theorem dX8_gapOf_9 : dcd cX8_gapOf 9 = some (.ireturn, 10) := by decide +kernel
theorem dX8_gapOf_10 : dcd cX8_gapOf 10 = some (.aload_n 0, 11) := by decide +kernel
theorem dX8_gapOf_11 : dcd cX8_gapOf 11 = some (.aload_n 0, 12) := by decide +kernel
theorem dX8_gapOf_12 : dcd cX8_gapOf 12 = some (.getfield 32, 15) := by decide +kernel
theorem dX8_gapOf_15 : dcd cX8_gapOf 15 = some (.iload_n 1, 16) := by decide +kernel
theorem dX8_gapOf_16 : dcd cX8_gapOf 16 = some (.iaload, 17) := by decide +kernel
theorem dX8_gapOf_17 : dcd cX8_gapOf 17 = some (.iconst 4, 18) := by decide +kernel
theorem dX8_gapOf_18 : dcd cX8_gapOf 18 = some (.invokevirtual 151, 21) := by decide +kernel
theorem dX8_gapOf_21 : dcd cX8_gapOf 21 = some (.istore_n 2, 22) := by decide +kernel
theorem dX8_gapOf_22 : dcd cX8_gapOf 22 = some (.iload_n 1, 23) := by decide +kernel
theorem dX8_gapOf_23 : dcd cX8_gapOf 23 = some (.iconst 1, 24) := by decide +kernel
theorem dX8_gapOf_24 : dcd cX8_gapOf 24 = some (.isub, 25) := by decide +kernel
theorem dX8_gapOf_25 : dcd cX8_gapOf 25 = some (.istore_n 3, 26) := by decide +kernel
theorem dX8_gapOf_26 : dcd cX8_gapOf 26 = some (.iload_n 3, 27) := by decide +kernel
theorem dX8_gapOf_27 : dcd cX8_gapOf 27 = some (.ifCond .lt 31, 30) := by decide +kernel
theorem dX8_gapOf_30 : dcd cX8_gapOf 30 = some (.aload_n 0, 31) := by decide +kernel
theorem dX8_gapOf_31 : dcd cX8_gapOf 31 = some (.iload_n 3, 32) := by decide +kernel
theorem dX8_gapOf_32 : dcd cX8_gapOf 32 = some (.invokevirtual 166, 35) := by decide +kernel
theorem dX8_gapOf_35 : dcd cX8_gapOf 35 = some (.ifCond .eq 23, 38) := by decide +kernel
theorem dX8_gapOf_38 : dcd cX8_gapOf 38 = some (.iload_n 2, 39) := by decide +kernel
theorem dX8_gapOf_39 : dcd cX8_gapOf 39 = some (.aload_n 0, 40) := by decide +kernel
theorem dX8_gapOf_40 : dcd cX8_gapOf 40 = some (.aload_n 0, 41) := by decide +kernel
theorem dX8_gapOf_41 : dcd cX8_gapOf 41 = some (.getfield 32, 44) := by decide +kernel
theorem dX8_gapOf_44 : dcd cX8_gapOf 44 = some (.iload_n 3, 45) := by decide +kernel
theorem dX8_gapOf_45 : dcd cX8_gapOf 45 = some (.iaload, 46) := by decide +kernel
theorem dX8_gapOf_46 : dcd cX8_gapOf 46 = some (.iconst 1, 47) := by decide +kernel
theorem dX8_gapOf_47 : dcd cX8_gapOf 47 = some (.invokevirtual 151, 50) := by decide +kernel
theorem dX8_gapOf_50 : dcd cX8_gapOf 50 = some (.isub, 51) := by decide +kernel
theorem dX8_gapOf_51 : dcd cX8_gapOf 51 = some (.istore_n 2, 52) := by decide +kernel
theorem dX8_gapOf_52 : dcd cX8_gapOf 52 = some (.iinc 3 (-1), 55) := by decide +kernel
theorem dX8_gapOf_55 : dcd cX8_gapOf 55 = some (.goto (-29), 58) := by decide +kernel
theorem dX8_gapOf_58 : dcd cX8_gapOf 58 = some (.iload_n 2, 59) := by decide +kernel
theorem dX8_gapOf_59 : dcd cX8_gapOf 59 = some (.iload_n 3, 60) := by decide +kernel
theorem dX8_gapOf_60 : dcd cX8_gapOf 60 = some (.ifCond .lt 17, 63) := by decide +kernel
theorem dX8_gapOf_63 : dcd cX8_gapOf 63 = some (.aload_n 0, 64) := by decide +kernel
theorem dX8_gapOf_64 : dcd cX8_gapOf 64 = some (.aload_n 0, 65) := by decide +kernel
theorem dX8_gapOf_65 : dcd cX8_gapOf 65 = some (.getfield 32, 68) := by decide +kernel
theorem dX8_gapOf_68 : dcd cX8_gapOf 68 = some (.iload_n 3, 69) := by decide +kernel
theorem dX8_gapOf_69 : dcd cX8_gapOf 69 = some (.iaload, 70) := by decide +kernel
theorem dX8_gapOf_70 : dcd cX8_gapOf 70 = some (.iconst 5, 71) := by decide +kernel
theorem dX8_gapOf_71 : dcd cX8_gapOf 71 = some (.invokevirtual 151, 74) := by decide +kernel
theorem dX8_gapOf_74 : dcd cX8_gapOf 74 = some (.goto 4, 77) := by decide +kernel
theorem dX8_gapOf_77 : dcd cX8_gapOf 77 = some (.iconst 0, 78) := by decide +kernel
theorem dX8_gapOf_78 : dcd cX8_gapOf 78 = some (.iadd, 79) := by decide +kernel
theorem dX8_gapOf_79 : dcd cX8_gapOf 79 = some (.istore_n 2, 80) := by decide +kernel
theorem dX8_gapOf_80 : dcd cX8_gapOf 80 = some (.iload_n 2, 81) := by decide +kernel
theorem dX8_gapOf_81 : dcd cX8_gapOf 81 = some (.aload_n 0, 82) := by decide +kernel
theorem dX8_gapOf_82 : dcd cX8_gapOf 82 = some (.getfield 163, 85) := by decide +kernel
theorem dX8_gapOf_85 : dcd cX8_gapOf 85 = some (.ifCond .le 28, 88) := by decide +kernel
theorem dX8_gapOf_88 : dcd cX8_gapOf 88 = some (.aload_n 0, 89) := by decide +kernel
theorem dX8_gapOf_89 : dcd cX8_gapOf 89 = some (.getfield 163, 92) := by decide +kernel
theorem dX8_gapOf_92 : dcd cX8_gapOf 92 = some (.iload_n 3, 93) := by decide +kernel
theorem dX8_gapOf_93 : dcd cX8_gapOf 93 = some (.if_icmp .le 20, 96) := by decide +kernel
theorem dX8_gapOf_96 : dcd cX8_gapOf 96 = some (.aload_n 0, 97) := by decide +kernel
theorem dX8_gapOf_97 : dcd cX8_gapOf 97 = some (.getfield 163, 100) := by decide +kernel
theorem dX8_gapOf_100 : dcd cX8_gapOf 100 = some (.iload_n 1, 101) := by decide +kernel
theorem dX8_gapOf_101 : dcd cX8_gapOf 101 = some (.if_icmp .gt 12, 104) := by decide +kernel
theorem dX8_gapOf_104 : dcd cX8_gapOf 104 = some (.aload_n 0, 105) := by decide +kernel
theorem dX8_gapOf_105 : dcd cX8_gapOf 105 = some (.getfield 16, 108) := by decide +kernel
theorem dX8_gapOf_108 : dcd cX8_gapOf 108 = some (.iconst 2, 109) := by decide +kernel
theorem dX8_gapOf_109 : dcd cX8_gapOf 109 = some (.iaload, 110) := by decide +kernel
theorem dX8_gapOf_110 : dcd cX8_gapOf 110 = some (.goto 4, 113) := by decide +kernel
theorem dX8_gapOf_113 : dcd cX8_gapOf 113 = some (.iconst 0, 114) := by decide +kernel
theorem dX8_gapOf_114 : dcd cX8_gapOf 114 = some (.isub, 115) := by decide +kernel
theorem dX8_gapOf_115 : dcd cX8_gapOf 115 = some (.istore_n 2, 116) := by decide +kernel
theorem dX8_gapOf_116 : dcd cX8_gapOf 116 = some (.iload_n 2, 117) := by decide +kernel
theorem dX8_gapOf_117 : dcd cX8_gapOf 117 = some (.ifCond .ge 7, 120) := by decide +kernel
theorem dX8_gapOf_120 : dcd cX8_gapOf 120 = some (.iconst 0, 121) := by decide +kernel
theorem dX8_gapOf_121 : dcd cX8_gapOf 121 = some (.goto 4, 124) := by decide +kernel
theorem dX8_gapOf_124 : dcd cX8_gapOf 124 = some (.iload_n 2, 125) := by decide +kernel
theorem dX8_gapOf_125 : dcd cX8_gapOf 125 = some (.ireturn, 126) := by decide +kernel
theorem dX8_lays_0 : dcd cX8_lays 0 = some (.iconst 0, 1) := by decide +kernel
theorem dX8_lays_1 : dcd cX8_lays 1 = some (.istore_n 1, 2) := by decide +kernel
theorem dX8_lays_2 : dcd cX8_lays 2 = some (.iload_n 1, 3) := by decide +kernel
theorem dX8_lays_3 : dcd cX8_lays 3 = some (.aload_n 0, 4) := by decide +kernel
theorem dX8_lays_4 : dcd cX8_lays 4 = some (.getfield 160, 7) := by decide +kernel
theorem dX8_lays_7 : dcd cX8_lays 7 = some (.if_icmp .ge 74, 10) := by decide +kernel
theorem dX8_lays_10 : dcd cX8_lays 10 = some (.aload_n 0, 11) := by decide +kernel
theorem dX8_lays_11 : dcd cX8_lays 11 = some (.getfield 35, 14) := by decide +kernel
theorem dX8_lays_14 : dcd cX8_lays 14 = some (.iload_n 1, 15) := by decide +kernel
theorem dX8_lays_15 : dcd cX8_lays 15 = some (.aload_n 0, 16) := by decide +kernel
theorem dX8_lays_16 : dcd cX8_lays 16 = some (.iload_n 1, 17) := by decide +kernel
theorem dX8_lays_17 : dcd cX8_lays 17 = some (.invokevirtual 169, 20) := by decide +kernel
theorem dX8_lays_20 : dcd cX8_lays 20 = some (.iastore, 21) := by decide +kernel
theorem dX8_lays_21 : dcd cX8_lays 21 = some (.aload_n 0, 22) := by decide +kernel
theorem dX8_lays_22 : dcd cX8_lays 22 = some (.getfield 38, 25) := by decide +kernel
theorem dX8_lays_25 : dcd cX8_lays 25 = some (.iload_n 1, 26) := by decide +kernel
theorem dX8_lays_26 : dcd cX8_lays 26 = some (.iload_n 1, 27) := by decide +kernel
theorem dX8_lays_27 : dcd cX8_lays 27 = some (.ifCond .ne 7, 30) := by decide +kernel
theorem dX8_lays_30 : dcd cX8_lays 30 = some (.iconst 0, 31) := by decide +kernel
theorem dX8_lays_31 : dcd cX8_lays 31 = some (.goto 10, 34) := by decide +kernel
theorem dX8_lays_34 : dcd cX8_lays 34 = some (.aload_n 0, 35) := by decide +kernel
theorem dX8_lays_35 : dcd cX8_lays 35 = some (.iload_n 1, 36) := by decide +kernel
theorem dX8_lays_36 : dcd cX8_lays 36 = some (.iconst 1, 37) := by decide +kernel
theorem dX8_lays_37 : dcd cX8_lays 37 = some (.isub, 38) := by decide +kernel
theorem dX8_lays_38 : dcd cX8_lays 38 = some (.invokevirtual 172, 41) := by decide +kernel
theorem dX8_lays_41 : dcd cX8_lays 41 = some (.aload_n 0, 42) := by decide +kernel
theorem dX8_lays_42 : dcd cX8_lays 42 = some (.getfield 163, 45) := by decide +kernel
theorem dX8_lays_45 : dcd cX8_lays 45 = some (.ifCond .le 20, 48) := by decide +kernel
theorem dX8_lays_48 : dcd cX8_lays 48 = some (.iload_n 1, 49) := by decide +kernel
theorem dX8_lays_49 : dcd cX8_lays 49 = some (.aload_n 0, 50) := by decide +kernel
theorem dX8_lays_50 : dcd cX8_lays 50 = some (.getfield 163, 53) := by decide +kernel
theorem dX8_lays_53 : dcd cX8_lays 53 = some (.if_icmp .ne 12, 56) := by decide +kernel
theorem dX8_lays_56 : dcd cX8_lays 56 = some (.aload_n 0, 57) := by decide +kernel
theorem dX8_lays_57 : dcd cX8_lays 57 = some (.getfield 16, 60) := by decide +kernel
theorem dX8_lays_60 : dcd cX8_lays 60 = some (.iconst 2, 61) := by decide +kernel
theorem dX8_lays_61 : dcd cX8_lays 61 = some (.iaload, 62) := by decide +kernel
theorem dX8_lays_62 : dcd cX8_lays 62 = some (.goto 4, 65) := by decide +kernel
theorem dX8_lays_65 : dcd cX8_lays 65 = some (.iconst 0, 66) := by decide +kernel
theorem dX8_lays_66 : dcd cX8_lays 66 = some (.iadd, 67) := by decide +kernel
theorem dX8_lays_67 : dcd cX8_lays 67 = some (.aload_n 0, 68) := by decide +kernel
theorem dX8_lays_68 : dcd cX8_lays 68 = some (.getfield 35, 71) := by decide +kernel
theorem dX8_lays_71 : dcd cX8_lays 71 = some (.iload_n 1, 72) := by decide +kernel
theorem dX8_lays_72 : dcd cX8_lays 72 = some (.iaload, 73) := by decide +kernel
theorem dX8_lays_73 : dcd cX8_lays 73 = some (.iadd, 74) := by decide +kernel
theorem dX8_lays_74 : dcd cX8_lays 74 = some (.iastore, 75) := by decide +kernel
theorem dX8_lays_75 : dcd cX8_lays 75 = some (.iinc 1 1, 78) := by decide +kernel
theorem dX8_lays_78 : dcd cX8_lays 78 = some (.goto (-76), 81) := by decide +kernel
theorem dX8_lays_81 : dcd cX8_lays 81 = some (.return_, 82) := by decide +kernel
theorem dX8_minute_0 : dcd cX8_minute 0 = some (.aload_n 0, 1) := by decide +kernel
theorem dX8_minute_1 : dcd cX8_minute 1 = some (.iconst 0, 2) := by decide +kernel
theorem dX8_minute_2 : dcd cX8_minute 2 = some (.putfield 68, 5) := by decide +kernel
theorem dX8_minute_5 : dcd cX8_minute 5 = some (.aload_n 0, 6) := by decide +kernel
theorem dX8_minute_6 : dcd cX8_minute 6 = some (.iload_n 1, 7) := by decide +kernel
theorem dX8_minute_7 : dcd cX8_minute 7 = some (.invokevirtual 157, 10) := by decide +kernel
theorem dX8_minute_10 : dcd cX8_minute 10 = some (.ifCond .eq 12, 13) := by decide +kernel
theorem dX8_minute_13 : dcd cX8_minute 13 = some (.iload_n 2, 14) := by decide +kernel
theorem dX8_minute_14 : dcd cX8_minute 14 = some (.iconst 0, 15) := by decide +kernel
theorem dX8_minute_15 : dcd cX8_minute 15 = some (.iconst 2, 16) := by decide +kernel
theorem dX8_minute_16 : dcd cX8_minute 16 = some (.invokestatic 72, 19) := by decide +kernel
theorem dX8_minute_19 : dcd cX8_minute 19 = some (.ifCond .ne 5, 22) := by decide +kernel
theorem dX8_minute_22 : dcd cX8_minute 22 = some (.iconst (-1), 23) := by decide +kernel
theorem dX8_minute_23 : dcd cX8_minute 23 = some (.ireturn, 24) := by decide +kernel
theorem dX8_minute_24 : dcd cX8_minute 24 = some (.aload_n 0, 25) := by decide +kernel
theorem dX8_minute_25 : dcd cX8_minute 25 = some (.invokevirtual 175, 28) := by decide +kernel
theorem dX8_minute_28 : dcd cX8_minute 28 = some (.aload_n 0, 29) := by decide +kernel
theorem dX8_minute_29 : dcd cX8_minute 29 = some (.invokevirtual 178, 32) := by decide +kernel
theorem dX8_minute_32 : dcd cX8_minute 32 = some (.iload_n 2, 33) := by decide +kernel
theorem dX8_minute_33 : dcd cX8_minute 33 = some (.ifCond .ne 12, 36) := by decide +kernel
theorem dX8_minute_36 : dcd cX8_minute 36 = some (.aload_n 0, 37) := by decide +kernel
theorem dX8_minute_37 : dcd cX8_minute 37 = some (.getfield 35, 40) := by decide +kernel
theorem dX8_minute_40 : dcd cX8_minute 40 = some (.iload_n 1, 41) := by decide +kernel
theorem dX8_minute_41 : dcd cX8_minute 41 = some (.iaload, 42) := by decide +kernel
theorem dX8_minute_42 : dcd cX8_minute 42 = some (.goto 22, 45) := by decide +kernel
theorem dX8_minute_45 : dcd cX8_minute 45 = some (.iload_n 2, 46) := by decide +kernel
theorem dX8_minute_46 : dcd cX8_minute 46 = some (.iconst 1, 47) := by decide +kernel
theorem dX8_minute_47 : dcd cX8_minute 47 = some (.if_icmp .ne 12, 50) := by decide +kernel
theorem dX8_minute_50 : dcd cX8_minute 50 = some (.aload_n 0, 51) := by decide +kernel
theorem dX8_minute_51 : dcd cX8_minute 51 = some (.getfield 38, 54) := by decide +kernel
theorem dX8_minute_54 : dcd cX8_minute 54 = some (.iload_n 1, 55) := by decide +kernel
theorem dX8_minute_55 : dcd cX8_minute 55 = some (.iaload, 56) := by decide +kernel
theorem dX8_minute_56 : dcd cX8_minute 56 = some (.goto 8, 59) := by decide +kernel
theorem dX8_minute_59 : dcd cX8_minute 59 = some (.aload_n 0, 60) := by decide +kernel
theorem dX8_minute_60 : dcd cX8_minute 60 = some (.iload_n 1, 61) := by decide +kernel
theorem dX8_minute_61 : dcd cX8_minute 61 = some (.invokevirtual 172, 64) := by decide +kernel
theorem dX8_minute_64 : dcd cX8_minute 64 = some (.ireturn, 65) := by decide +kernel
theorem dX8_isStaged_0 : dcd cX8_isStaged 0 = some (.aload_n 0, 1) := by decide +kernel
theorem dX8_isStaged_1 : dcd cX8_isStaged 1 = some (.invokevirtual 178, 4) := by decide +kernel
theorem dX8_isStaged_4 : dcd cX8_isStaged 4 = some (.aload_n 0, 5) := by decide +kernel
theorem dX8_isStaged_5 : dcd cX8_isStaged 5 = some (.iconst 0, 6) := by decide +kernel
theorem dX8_isStaged_6 : dcd cX8_isStaged 6 = some (.putfield 181, 9) := by decide +kernel
theorem dX8_isStaged_9 : dcd cX8_isStaged 9 = some (.iconst 0, 10) := by decide +kernel
theorem dX8_isStaged_10 : dcd cX8_isStaged 10 = some (.istore_n 1, 11) := by decide +kernel
theorem dX8_isStaged_11 : dcd cX8_isStaged 11 = some (.iload_n 1, 12) := by decide +kernel
theorem dX8_isStaged_12 : dcd cX8_isStaged 12 = some (.aload_n 0, 13) := by decide +kernel
theorem dX8_isStaged_13 : dcd cX8_isStaged 13 = some (.getfield 160, 16) := by decide +kernel
theorem dX8_isStaged_16 : dcd cX8_isStaged 16 = some (.if_icmp .ge 229, 19) := by decide +kernel
theorem dX8_isStaged_19 : dcd cX8_isStaged 19 = some (.iload_n 1, 20) := by decide +kernel
theorem dX8_isStaged_20 : dcd cX8_isStaged 20 = some (.ifCond .le 22, 23) := by decide +kernel
theorem dX8_isStaged_23 : dcd cX8_isStaged 23 = some (.aload_n 0, 24) := by decide +kernel
theorem dX8_isStaged_24 : dcd cX8_isStaged 24 = some (.getfield 163, 27) := by decide +kernel
theorem dX8_isStaged_27 : dcd cX8_isStaged 27 = some (.ifCond .le 11, 30) := by decide +kernel
theorem dX8_isStaged_30 : dcd cX8_isStaged 30 = some (.iload_n 1, 31) := by decide +kernel
theorem dX8_isStaged_31 : dcd cX8_isStaged 31 = some (.aload_n 0, 32) := by decide +kernel
theorem dX8_isStaged_32 : dcd cX8_isStaged 32 = some (.getfield 163, 35) := by decide +kernel
theorem dX8_isStaged_35 : dcd cX8_isStaged 35 = some (.if_icmp .eq 7, 38) := by decide +kernel
theorem dX8_isStaged_38 : dcd cX8_isStaged 38 = some (.iconst 1, 39) := by decide +kernel
theorem dX8_isStaged_39 : dcd cX8_isStaged 39 = some (.goto 4, 42) := by decide +kernel
theorem dX8_isStaged_42 : dcd cX8_isStaged 42 = some (.iconst 0, 43) := by decide +kernel
theorem dX8_isStaged_43 : dcd cX8_isStaged 43 = some (.istore_n 2, 44) := by decide +kernel
theorem dX8_isStaged_44 : dcd cX8_isStaged 44 = some (.iload_n 1, 45) := by decide +kernel
theorem dX8_isStaged_45 : dcd cX8_isStaged 45 = some (.ifCond .le 34, 48) := by decide +kernel
theorem dX8_isStaged_48 : dcd cX8_isStaged 48 = some (.aload_n 0, 49) := by decide +kernel
theorem dX8_isStaged_49 : dcd cX8_isStaged 49 = some (.aload_n 0, 50) := by decide +kernel
theorem dX8_isStaged_50 : dcd cX8_isStaged 50 = some (.getfield 32, 53) := by decide +kernel
theorem dX8_isStaged_53 : dcd cX8_isStaged 53 = some (.iload_n 1, 54) := by decide +kernel
theorem dX8_isStaged_54 : dcd cX8_isStaged 54 = some (.iaload, 55) := by decide +kernel
theorem dX8_isStaged_55 : dcd cX8_isStaged 55 = some (.bipush 8, 57) := by decide +kernel
theorem dX8_isStaged_57 : dcd cX8_isStaged 57 = some (.invokevirtual 151, 60) := by decide +kernel
theorem dX8_isStaged_60 : dcd cX8_isStaged 60 = some (.aload_n 0, 61) := by decide +kernel
theorem dX8_isStaged_61 : dcd cX8_isStaged 61 = some (.getfield 32, 64) := by decide +kernel
theorem dX8_isStaged_64 : dcd cX8_isStaged 64 = some (.iload_n 1, 65) := by decide +kernel
theorem dX8_isStaged_65 : dcd cX8_isStaged 65 = some (.iconst 1, 66) := by decide +kernel
theorem dX8_isStaged_66 : dcd cX8_isStaged 66 = some (.isub, 67) := by decide +kernel
theorem dX8_isStaged_67 : dcd cX8_isStaged 67 = some (.iaload, 68) := by decide +kernel
theorem dX8_isStaged_68 : dcd cX8_isStaged 68 = some (.ishr, 69) := by decide +kernel
theorem dX8_isStaged_69 : dcd cX8_isStaged 69 = some (.iconst 1, 70) := by decide +kernel
theorem dX8_isStaged_70 : dcd cX8_isStaged 70 = some (.iand, 71) := by decide +kernel
theorem dX8_isStaged_71 : dcd cX8_isStaged 71 = some (.iconst 1, 72) := by decide +kernel
theorem dX8_isStaged_72 : dcd cX8_isStaged 72 = some (.if_icmp .ne 7, 75) := by decide +kernel
theorem dX8_isStaged_75 : dcd cX8_isStaged 75 = some (.iconst 1, 76) := by decide +kernel
theorem dX8_isStaged_76 : dcd cX8_isStaged 76 = some (.goto 4, 79) := by decide +kernel
theorem dX8_isStaged_79 : dcd cX8_isStaged 79 = some (.iconst 0, 80) := by decide +kernel
theorem dX8_isStaged_80 : dcd cX8_isStaged 80 = some (.istore_n 3, 81) := by decide +kernel
theorem dX8_isStaged_81 : dcd cX8_isStaged 81 = some (.aload_n 0, 82) := by decide +kernel
theorem dX8_isStaged_82 : dcd cX8_isStaged 82 = some (.aload_n 0, 83) := by decide +kernel
theorem dX8_isStaged_83 : dcd cX8_isStaged 83 = some (.getfield 32, 86) := by decide +kernel
theorem dX8_isStaged_86 : dcd cX8_isStaged 86 = some (.iload_n 1, 87) := by decide +kernel
theorem dX8_isStaged_87 : dcd cX8_isStaged 87 = some (.iaload, 88) := by decide +kernel
theorem dX8_isStaged_88 : dcd cX8_isStaged 88 = some (.bipush 7, 90) := by decide +kernel
theorem dX8_isStaged_90 : dcd cX8_isStaged 90 = some (.invokevirtual 151, 93) := by decide +kernel
theorem dX8_isStaged_93 : dcd cX8_isStaged 93 = some (.istore 4, 95) := by decide +kernel
theorem dX8_isStaged_95 : dcd cX8_isStaged 95 = some (.aload_n 0, 96) := by decide +kernel
theorem dX8_isStaged_96 : dcd cX8_isStaged 96 = some (.getfield 35, 99) := by decide +kernel
theorem dX8_isStaged_99 : dcd cX8_isStaged 99 = some (.iload_n 1, 100) := by decide +kernel
theorem dX8_isStaged_100 : dcd cX8_isStaged 100 = some (.iaload, 101) := by decide +kernel
theorem dX8_isStaged_101 : dcd cX8_isStaged 101 = some (.aload_n 0, 102) := by decide +kernel
theorem dX8_isStaged_102 : dcd cX8_isStaged 102 = some (.getfield 16, 105) := by decide +kernel
theorem dX8_isStaged_105 : dcd cX8_isStaged 105 = some (.iconst 0, 106) := by decide +kernel
theorem dX8_isStaged_106 : dcd cX8_isStaged 106 = some (.iaload, 107) := by decide +kernel
theorem dX8_isStaged_107 : dcd cX8_isStaged 107 = some (.if_icmp .le 7, 110) := by decide +kernel
theorem dX8_isStaged_110 : dcd cX8_isStaged 110 = some (.iconst 1, 111) := by decide +kernel
theorem dX8_isStaged_111 : dcd cX8_isStaged 111 = some (.goto 94, 114) := by decide +kernel
theorem dX8_isStaged_114 : dcd cX8_isStaged 114 = some (.iload_n 2, 115) := by decide +kernel
theorem dX8_isStaged_115 : dcd cX8_isStaged 115 = some (.ifCond .eq 34, 118) := by decide +kernel
theorem dX8_isStaged_118 : dcd cX8_isStaged 118 = some (.aload_n 0, 119) := by decide +kernel
theorem dX8_isStaged_119 : dcd cX8_isStaged 119 = some (.aload_n 0, 120) := by decide +kernel
theorem dX8_isStaged_120 : dcd cX8_isStaged 120 = some (.getfield 32, 123) := by decide +kernel
theorem dX8_isStaged_123 : dcd cX8_isStaged 123 = some (.iload_n 1, 124) := by decide +kernel
theorem dX8_isStaged_124 : dcd cX8_isStaged 124 = some (.iaload, 125) := by decide +kernel
theorem dX8_isStaged_125 : dcd cX8_isStaged 125 = some (.iconst 0, 126) := by decide +kernel
theorem dX8_isStaged_126 : dcd cX8_isStaged 126 = some (.invokevirtual 151, 129) := by decide +kernel
theorem dX8_isStaged_129 : dcd cX8_isStaged 129 = some (.aload_n 0, 130) := by decide +kernel
theorem dX8_isStaged_130 : dcd cX8_isStaged 130 = some (.aload_n 0, 131) := by decide +kernel
theorem dX8_isStaged_131 : dcd cX8_isStaged 131 = some (.getfield 32, 134) := by decide +kernel
theorem dX8_isStaged_134 : dcd cX8_isStaged 134 = some (.iload_n 1, 135) := by decide +kernel
theorem dX8_isStaged_135 : dcd cX8_isStaged 135 = some (.iconst 1, 136) := by decide +kernel
theorem dX8_isStaged_136 : dcd cX8_isStaged 136 = some (.isub, 137) := by decide +kernel
theorem dX8_isStaged_137 : dcd cX8_isStaged 137 = some (.iaload, 138) := by decide +kernel
theorem dX8_isStaged_138 : dcd cX8_isStaged 138 = some (.iconst 0, 139) := by decide +kernel
theorem dX8_isStaged_139 : dcd cX8_isStaged 139 = some (.invokevirtual 151, 142) := by decide +kernel
theorem dX8_isStaged_142 : dcd cX8_isStaged 142 = some (.if_icmp .ne 7, 145) := by decide +kernel
theorem dX8_isStaged_145 : dcd cX8_isStaged 145 = some (.iconst 2, 146) := by decide +kernel
theorem dX8_isStaged_146 : dcd cX8_isStaged 146 = some (.goto 59, 149) := by decide +kernel
theorem dX8_isStaged_149 : dcd cX8_isStaged 149 = some (.iload_n 3, 150) := by decide +kernel
theorem dX8_isStaged_150 : dcd cX8_isStaged 150 = some (.ifCond .eq 7, 153) := by decide +kernel
theorem dX8_isStaged_153 : dcd cX8_isStaged 153 = some (.iconst 3, 154) := by decide +kernel
theorem dX8_isStaged_154 : dcd cX8_isStaged 154 = some (.goto 51, 157) := by decide +kernel
theorem dX8_isStaged_157 : dcd cX8_isStaged 157 = some (.iload 4, 159) := by decide +kernel
theorem dX8_isStaged_159 : dcd cX8_isStaged 159 = some (.ifCond .le 17, 162) := by decide +kernel
theorem dX8_isStaged_162 : dcd cX8_isStaged 162 = some (.aload_n 0, 163) := by decide +kernel
theorem dX8_isStaged_163 : dcd cX8_isStaged 163 = some (.iload_n 1, 164) := by decide +kernel
theorem dX8_isStaged_164 : dcd cX8_isStaged 164 = some (.invokevirtual 172, 167) := by decide +kernel
theorem dX8_isStaged_167 : dcd cX8_isStaged 167 = some (.iload 4, 169) := by decide +kernel
theorem dX8_isStaged_169 : dcd cX8_isStaged 169 = some (.if_icmp .le 7, 172) := by decide +kernel
theorem dX8_isStaged_172 : dcd cX8_isStaged 172 = some (.iconst 4, 173) := by decide +kernel
theorem dX8_isStaged_173 : dcd cX8_isStaged 173 = some (.goto 32, 176) := by decide +kernel
theorem dX8_isStaged_176 : dcd cX8_isStaged 176 = some (.iload_n 1, 177) := by decide +kernel
theorem dX8_isStaged_177 : dcd cX8_isStaged 177 = some (.aload_n 0, 178) := by decide +kernel
theorem dX8_isStaged_178 : dcd cX8_isStaged 178 = some (.getfield 160, 181) := by decide +kernel
theorem dX8_isStaged_181 : dcd cX8_isStaged 181 = some (.iconst 1, 182) := by decide +kernel
theorem dX8_isStaged_182 : dcd cX8_isStaged 182 = some (.isub, 183) := by decide +kernel
theorem dX8_isStaged_183 : dcd cX8_isStaged 183 = some (.if_icmp .ne 21, 186) := by decide +kernel
theorem dX8_isStaged_186 : dcd cX8_isStaged 186 = some (.aload_n 0, 187) := by decide +kernel
theorem dX8_isStaged_187 : dcd cX8_isStaged 187 = some (.iload_n 1, 188) := by decide +kernel
theorem dX8_isStaged_188 : dcd cX8_isStaged 188 = some (.invokevirtual 172, 191) := by decide +kernel
theorem dX8_isStaged_191 : dcd cX8_isStaged 191 = some (.aload_n 0, 192) := by decide +kernel
theorem dX8_isStaged_192 : dcd cX8_isStaged 192 = some (.getfield 16, 195) := by decide +kernel
theorem dX8_isStaged_195 : dcd cX8_isStaged 195 = some (.iconst 1, 196) := by decide +kernel
theorem dX8_isStaged_196 : dcd cX8_isStaged 196 = some (.iaload, 197) := by decide +kernel
theorem dX8_isStaged_197 : dcd cX8_isStaged 197 = some (.if_icmp .le 7, 200) := by decide +kernel
theorem dX8_isStaged_200 : dcd cX8_isStaged 200 = some (.iconst 5, 201) := by decide +kernel
theorem dX8_isStaged_201 : dcd cX8_isStaged 201 = some (.goto 4, 204) := by decide +kernel
theorem dX8_isStaged_204 : dcd cX8_isStaged 204 = some (.iconst 0, 205) := by decide +kernel
theorem dX8_isStaged_205 : dcd cX8_isStaged 205 = some (.istore 5, 207) := by decide +kernel
theorem dX8_isStaged_207 : dcd cX8_isStaged 207 = some (.iload 5, 209) := by decide +kernel
theorem dX8_isStaged_209 : dcd cX8_isStaged 209 = some (.ifCond .le 30, 212) := by decide +kernel
theorem dX8_isStaged_212 : dcd cX8_isStaged 212 = some (.aload_n 0, 213) := by decide +kernel
theorem dX8_isStaged_213 : dcd cX8_isStaged 213 = some (.getfield 181, 216) := by decide +kernel
theorem dX8_isStaged_216 : dcd cX8_isStaged 216 = some (.ifCond .eq 12, 219) := by decide +kernel
theorem dX8_isStaged_219 : dcd cX8_isStaged 219 = some (.iload 5, 221) := by decide +kernel
theorem dX8_isStaged_221 : dcd cX8_isStaged 221 = some (.aload_n 0, 222) := by decide +kernel
theorem dX8_isStaged_222 : dcd cX8_isStaged 222 = some (.getfield 181, 225) := by decide +kernel
theorem dX8_isStaged_225 : dcd cX8_isStaged 225 = some (.if_icmp .ge 14, 228) := by decide +kernel
theorem dX8_isStaged_228 : dcd cX8_isStaged 228 = some (.aload_n 0, 229) := by decide +kernel
theorem dX8_isStaged_229 : dcd cX8_isStaged 229 = some (.iload 5, 231) := by decide +kernel
theorem dX8_isStaged_231 : dcd cX8_isStaged 231 = some (.putfield 181, 234) := by decide +kernel
theorem dX8_isStaged_234 : dcd cX8_isStaged 234 = some (.aload_n 0, 235) := by decide +kernel
theorem dX8_isStaged_235 : dcd cX8_isStaged 235 = some (.iload_n 1, 236) := by decide +kernel
theorem dX8_isStaged_236 : dcd cX8_isStaged 236 = some (.putfield 184, 239) := by decide +kernel
theorem dX8_isStaged_239 : dcd cX8_isStaged 239 = some (.iinc 1 1, 242) := by decide +kernel
theorem dX8_isStaged_242 : dcd cX8_isStaged 242 = some (.goto (-231), 245) := by decide +kernel
theorem dX8_isStaged_245 : dcd cX8_isStaged 245 = some (.aload_n 0, 246) := by decide +kernel
theorem dX8_isStaged_246 : dcd cX8_isStaged 246 = some (.getfield 181, 249) := by decide +kernel
theorem dX8_isStaged_249 : dcd cX8_isStaged 249 = some (.ifCond .ne 7, 252) := by decide +kernel
theorem dX8_isStaged_252 : dcd cX8_isStaged 252 = some (.iconst 1, 253) := by decide +kernel
theorem dX8_isStaged_253 : dcd cX8_isStaged 253 = some (.goto 4, 256) := by decide +kernel
theorem dX8_isStaged_256 : dcd cX8_isStaged 256 = some (.iconst 0, 257) := by decide +kernel
theorem dX8_isStaged_257 : dcd cX8_isStaged 257 = some (.ireturn, 258) := by decide +kernel
theorem dX8_staged_0 : dcd cX8_staged 0 = some (.aload_n 0, 1) := by decide +kernel
theorem dX8_staged_1 : dcd cX8_staged 1 = some (.iconst 0, 2) := by decide +kernel
theorem dX8_staged_2 : dcd cX8_staged 2 = some (.putfield 68, 5) := by decide +kernel
theorem dX8_staged_5 : dcd cX8_staged 5 = some (.iload_n 1, 6) := by decide +kernel
theorem dX8_staged_6 : dcd cX8_staged 6 = some (.iconst 0, 7) := by decide +kernel
theorem dX8_staged_7 : dcd cX8_staged 7 = some (.iconst 1, 8) := by decide +kernel
theorem dX8_staged_8 : dcd cX8_staged 8 = some (.invokestatic 72, 11) := by decide +kernel
theorem dX8_staged_11 : dcd cX8_staged 11 = some (.ifCond .ne 5, 14) := by decide +kernel
theorem dX8_staged_14 : dcd cX8_staged 14 = some (.iconst (-1), 15) := by decide +kernel
theorem dX8_staged_15 : dcd cX8_staged 15 = some (.ireturn, 16) := by decide +kernel
theorem dX8_staged_16 : dcd cX8_staged 16 = some (.aload_n 0, 17) := by decide +kernel
theorem dX8_staged_17 : dcd cX8_staged 17 = some (.getfield 22, 20) := by decide +kernel
theorem dX8_staged_20 : dcd cX8_staged 20 = some (.iconst 0, 21) := by decide +kernel
theorem dX8_staged_21 : dcd cX8_staged 21 = some (.iaload, 22) := by decide +kernel
theorem dX8_staged_22 : dcd cX8_staged 22 = some (.ifCond .ne 6, 25) := by decide +kernel
theorem dX8_staged_25 : dcd cX8_staged 25 = some (.bipush (-2), 27) := by decide +kernel
theorem dX8_staged_27 : dcd cX8_staged 27 = some (.ireturn, 28) := by decide +kernel
theorem dX8_staged_28 : dcd cX8_staged 28 = some (.aload_n 0, 29) := by decide +kernel
theorem dX8_staged_29 : dcd cX8_staged 29 = some (.invokevirtual 175, 32) := by decide +kernel
theorem dX8_staged_32 : dcd cX8_staged 32 = some (.aload_n 0, 33) := by decide +kernel
theorem dX8_staged_33 : dcd cX8_staged 33 = some (.invokevirtual 187, 36) := by decide +kernel
theorem dX8_staged_36 : dcd cX8_staged 36 = some (.ifCond .eq 8, 39) := by decide +kernel
theorem dX8_staged_39 : dcd cX8_staged 39 = some (.bipush (-9), 41) := by decide +kernel
theorem dX8_staged_41 : dcd cX8_staged 41 = some (.goto 18, 44) := by decide +kernel
theorem dX8_staged_44 : dcd cX8_staged 44 = some (.iload_n 1, 45) := by decide +kernel
theorem dX8_staged_45 : dcd cX8_staged 45 = some (.ifCond .ne 10, 48) := by decide +kernel
theorem dX8_staged_48 : dcd cX8_staged 48 = some (.aload_n 0, 49) := by decide +kernel
theorem dX8_staged_49 : dcd cX8_staged 49 = some (.getfield 181, 52) := by decide +kernel
theorem dX8_staged_52 : dcd cX8_staged 52 = some (.goto 7, 55) := by decide +kernel
theorem dX8_staged_55 : dcd cX8_staged 55 = some (.aload_n 0, 56) := by decide +kernel
theorem dX8_staged_56 : dcd cX8_staged 56 = some (.getfield 184, 59) := by decide +kernel
theorem dX8_staged_59 : dcd cX8_staged 59 = some (.ireturn, 60) := by decide +kernel
theorem dX8_draws_0 : dcd cX8_draws 0 = some (.aload_n 0, 1) := by decide +kernel
theorem dX8_draws_1 : dcd cX8_draws 1 = some (.getfield 22, 4) := by decide +kernel
theorem dX8_draws_4 : dcd cX8_draws 4 = some (.iconst 2, 5) := by decide +kernel
theorem dX8_draws_5 : dcd cX8_draws 5 = some (.aload_n 0, 6) := by decide +kernel
theorem dX8_draws_6 : dcd cX8_draws 6 = some (.getfield 22, 9) := by decide +kernel
theorem dX8_draws_9 : dcd cX8_draws 9 = some (.iconst 2, 10) := by decide +kernel
theorem dX8_draws_10 : dcd cX8_draws 10 = some (.iaload, 11) := by decide +kernel
theorem dX8_draws_11 : dcd cX8_draws 11 = some (.ldc 190, 13) := by decide +kernel
theorem dX8_draws_13 : dcd cX8_draws 13 = some (.imul, 14) := by decide +kernel
theorem dX8_draws_14 : dcd cX8_draws 14 = some (.sipush 12345, 17) := by decide +kernel
theorem dX8_draws_17 : dcd cX8_draws 17 = some (.iadd, 18) := by decide +kernel
theorem dX8_draws_18 : dcd cX8_draws 18 = some (.iastore, 19) := by decide +kernel
theorem dX8_draws_19 : dcd cX8_draws 19 = some (.aload_n 0, 20) := by decide +kernel
theorem dX8_draws_20 : dcd cX8_draws 20 = some (.getfield 22, 23) := by decide +kernel
theorem dX8_draws_23 : dcd cX8_draws 23 = some (.iconst 2, 24) := by decide +kernel
theorem dX8_draws_24 : dcd cX8_draws 24 = some (.iaload, 25) := by decide +kernel
theorem dX8_draws_25 : dcd cX8_draws 25 = some (.bipush 16, 27) := by decide +kernel
theorem dX8_draws_27 : dcd cX8_draws 27 = some (.ishr, 28) := by decide +kernel
theorem dX8_draws_28 : dcd cX8_draws 28 = some (.ldc 191, 30) := by decide +kernel
theorem dX8_draws_30 : dcd cX8_draws 30 = some (.iand, 31) := by decide +kernel
theorem dX8_draws_31 : dcd cX8_draws 31 = some (.iconst 5, 32) := by decide +kernel
theorem dX8_draws_32 : dcd cX8_draws 32 = some (.irem, 33) := by decide +kernel
theorem dX8_draws_33 : dcd cX8_draws 33 = some (.ireturn, 34) := by decide +kernel
theorem dX8_nightOf_0 : dcd cX8_nightOf 0 = some (.aload_n 0, 1) := by decide +kernel
theorem dX8_nightOf_1 : dcd cX8_nightOf 1 = some (.getfield 16, 4) := by decide +kernel
theorem dX8_nightOf_4 : dcd cX8_nightOf 4 = some (.bipush 6, 6) := by decide +kernel
theorem dX8_nightOf_6 : dcd cX8_nightOf 6 = some (.iaload, 7) := by decide +kernel
theorem dX8_nightOf_7 : dcd cX8_nightOf 7 = some (.istore_n 2, 8) := by decide +kernel
theorem dX8_nightOf_8 : dcd cX8_nightOf 8 = some (.aload_n 0, 9) := by decide +kernel
theorem dX8_nightOf_9 : dcd cX8_nightOf 9 = some (.getfield 16, 12) := by decide +kernel
theorem dX8_nightOf_12 : dcd cX8_nightOf 12 = some (.bipush 7, 14) := by decide +kernel
theorem dX8_nightOf_14 : dcd cX8_nightOf 14 = some (.iaload, 15) := by decide +kernel
theorem dX8_nightOf_15 : dcd cX8_nightOf 15 = some (.istore_n 3, 16) := by decide +kernel
theorem dX8_nightOf_16 : dcd cX8_nightOf 16 = some (.aload_n 0, 17) := by decide +kernel
theorem dX8_nightOf_17 : dcd cX8_nightOf 17 = some (.iconst 0, 18) := by decide +kernel
theorem dX8_nightOf_18 : dcd cX8_nightOf 18 = some (.putfield 192, 21) := by decide +kernel
theorem dX8_nightOf_21 : dcd cX8_nightOf 21 = some (.aload_n 0, 22) := by decide +kernel
theorem dX8_nightOf_22 : dcd cX8_nightOf 22 = some (.iconst 0, 23) := by decide +kernel
theorem dX8_nightOf_23 : dcd cX8_nightOf 23 = some (.putfield 195, 26) := by decide +kernel
theorem dX8_nightOf_26 : dcd cX8_nightOf 26 = some (.iconst 0, 27) := by decide +kernel
theorem dX8_nightOf_27 : dcd cX8_nightOf 27 = some (.istore 4, 29) := by decide +kernel
theorem dX8_nightOf_29 : dcd cX8_nightOf 29 = some (.iload 4, 31) := by decide +kernel
theorem dX8_nightOf_31 : dcd cX8_nightOf 31 = some (.aload_n 0, 32) := by decide +kernel
theorem dX8_nightOf_32 : dcd cX8_nightOf 32 = some (.getfield 160, 35) := by decide +kernel
theorem dX8_nightOf_35 : dcd cX8_nightOf 35 = some (.if_icmp .ge 398, 38) := by decide +kernel
theorem dX8_nightOf_38 : dcd cX8_nightOf 38 = some (.aload_n 0, 39) := by decide +kernel
theorem dX8_nightOf_39 : dcd cX8_nightOf 39 = some (.getfield 163, 42) := by decide +kernel
theorem dX8_nightOf_42 : dcd cX8_nightOf 42 = some (.ifCond .le 16, 45) := by decide +kernel
theorem dX8_nightOf_45 : dcd cX8_nightOf 45 = some (.iload 4, 47) := by decide +kernel
theorem dX8_nightOf_47 : dcd cX8_nightOf 47 = some (.aload_n 0, 48) := by decide +kernel
theorem dX8_nightOf_48 : dcd cX8_nightOf 48 = some (.getfield 163, 51) := by decide +kernel
theorem dX8_nightOf_51 : dcd cX8_nightOf 51 = some (.if_icmp .ne 7, 54) := by decide +kernel
theorem dX8_nightOf_54 : dcd cX8_nightOf 54 = some (.iconst 1, 55) := by decide +kernel
theorem dX8_nightOf_55 : dcd cX8_nightOf 55 = some (.goto 4, 58) := by decide +kernel
theorem dX8_nightOf_58 : dcd cX8_nightOf 58 = some (.iconst 0, 59) := by decide +kernel
theorem dX8_nightOf_59 : dcd cX8_nightOf 59 = some (.istore 5, 61) := by decide +kernel
theorem dX8_nightOf_61 : dcd cX8_nightOf 61 = some (.iload 5, 63) := by decide +kernel
theorem dX8_nightOf_63 : dcd cX8_nightOf 63 = some (.ifCond .eq 23, 66) := by decide +kernel
theorem dX8_nightOf_66 : dcd cX8_nightOf 66 = some (.aload_n 0, 67) := by decide +kernel
theorem dX8_nightOf_67 : dcd cX8_nightOf 67 = some (.dup, 68) := by decide +kernel
theorem dX8_nightOf_68 : dcd cX8_nightOf 68 = some (.getfield 192, 71) := by decide +kernel
theorem dX8_nightOf_71 : dcd cX8_nightOf 71 = some (.iload_n 3, 72) := by decide +kernel
theorem dX8_nightOf_72 : dcd cX8_nightOf 72 = some (.iload_n 2, 73) := by decide +kernel
theorem dX8_nightOf_73 : dcd cX8_nightOf 73 = some (.imul, 74) := by decide +kernel
theorem dX8_nightOf_74 : dcd cX8_nightOf 74 = some (.sipush 1000, 77) := by decide +kernel
theorem dX8_nightOf_77 : dcd cX8_nightOf 77 = some (.idiv, 78) := by decide +kernel
theorem dX8_nightOf_78 : dcd cX8_nightOf 78 = some (.iadd, 79) := by decide +kernel
theorem dX8_nightOf_79 : dcd cX8_nightOf 79 = some (.putfield 192, 82) := by decide +kernel
theorem dX8_nightOf_82 : dcd cX8_nightOf 82 = some (.iload_n 2, 83) := by decide +kernel
theorem dX8_nightOf_83 : dcd cX8_nightOf 83 = some (.iconst 2, 84) := by decide +kernel
theorem dX8_nightOf_84 : dcd cX8_nightOf 84 = some (.idiv, 85) := by decide +kernel
theorem dX8_nightOf_85 : dcd cX8_nightOf 85 = some (.istore_n 2, 86) := by decide +kernel
theorem dX8_nightOf_86 : dcd cX8_nightOf 86 = some (.iload_n 2, 87) := by decide +kernel
theorem dX8_nightOf_87 : dcd cX8_nightOf 87 = some (.aload_n 0, 88) := by decide +kernel
theorem dX8_nightOf_88 : dcd cX8_nightOf 88 = some (.getfield 16, 91) := by decide +kernel
theorem dX8_nightOf_91 : dcd cX8_nightOf 91 = some (.iconst 3, 92) := by decide +kernel
theorem dX8_nightOf_92 : dcd cX8_nightOf 92 = some (.iaload, 93) := by decide +kernel
theorem dX8_nightOf_93 : dcd cX8_nightOf 93 = some (.aload_n 0, 94) := by decide +kernel
theorem dX8_nightOf_94 : dcd cX8_nightOf 94 = some (.getfield 35, 97) := by decide +kernel
theorem dX8_nightOf_97 : dcd cX8_nightOf 97 = some (.iload 4, 99) := by decide +kernel
theorem dX8_nightOf_99 : dcd cX8_nightOf 99 = some (.iaload, 100) := by decide +kernel
theorem dX8_nightOf_100 : dcd cX8_nightOf 100 = some (.imul, 101) := by decide +kernel
theorem dX8_nightOf_101 : dcd cX8_nightOf 101 = some (.invokestatic 198, 104) := by decide +kernel
theorem dX8_nightOf_104 : dcd cX8_nightOf 104 = some (.istore_n 2, 105) := by decide +kernel
theorem dX8_nightOf_105 : dcd cX8_nightOf 105 = some (.aload_n 0, 106) := by decide +kernel
theorem dX8_nightOf_106 : dcd cX8_nightOf 106 = some (.aload_n 0, 107) := by decide +kernel
theorem dX8_nightOf_107 : dcd cX8_nightOf 107 = some (.getfield 32, 110) := by decide +kernel
theorem dX8_nightOf_110 : dcd cX8_nightOf 110 = some (.iload 4, 112) := by decide +kernel
theorem dX8_nightOf_112 : dcd cX8_nightOf 112 = some (.iaload, 113) := by decide +kernel
theorem dX8_nightOf_113 : dcd cX8_nightOf 113 = some (.bipush 6, 115) := by decide +kernel
theorem dX8_nightOf_115 : dcd cX8_nightOf 115 = some (.invokevirtual 151, 118) := by decide +kernel
theorem dX8_nightOf_118 : dcd cX8_nightOf 118 = some (.istore 6, 120) := by decide +kernel
theorem dX8_nightOf_120 : dcd cX8_nightOf 120 = some (.iload 4, 122) := by decide +kernel
theorem dX8_nightOf_122 : dcd cX8_nightOf 122 = some (.ifCond .le 26, 125) := by decide +kernel
theorem dX8_nightOf_125 : dcd cX8_nightOf 125 = some (.iload 5, 127) := by decide +kernel
theorem dX8_nightOf_127 : dcd cX8_nightOf 127 = some (.ifCond .ne 21, 130) := by decide +kernel
theorem dX8_nightOf_130 : dcd cX8_nightOf 130 = some (.aload_n 0, 131) := by decide +kernel
theorem dX8_nightOf_131 : dcd cX8_nightOf 131 = some (.aload_n 0, 132) := by decide +kernel
theorem dX8_nightOf_132 : dcd cX8_nightOf 132 = some (.getfield 32, 135) := by decide +kernel
theorem dX8_nightOf_135 : dcd cX8_nightOf 135 = some (.iload 4, 137) := by decide +kernel
theorem dX8_nightOf_137 : dcd cX8_nightOf 137 = some (.iconst 1, 138) := by decide +kernel
theorem dX8_nightOf_138 : dcd cX8_nightOf 138 = some (.isub, 139) := by decide +kernel
theorem dX8_nightOf_139 : dcd cX8_nightOf 139 = some (.iaload, 140) := by decide +kernel
theorem dX8_nightOf_140 : dcd cX8_nightOf 140 = some (.bipush 6, 142) := by decide +kernel
theorem dX8_nightOf_142 : dcd cX8_nightOf 142 = some (.invokevirtual 151, 145) := by decide +kernel
theorem dX8_nightOf_145 : dcd cX8_nightOf 145 = some (.goto 4, 148) := by decide +kernel
theorem dX8_nightOf_148 : dcd cX8_nightOf 148 = some (.iconst 0, 149) := by decide +kernel
theorem dX8_nightOf_149 : dcd cX8_nightOf 149 = some (.istore 7, 151) := by decide +kernel
theorem dX8_nightOf_151 : dcd cX8_nightOf 151 = some (.iload_n 2, 152) := by decide +kernel
theorem dX8_nightOf_152 : dcd cX8_nightOf 152 = some (.iload 6, 154) := by decide +kernel
theorem dX8_nightOf_154 : dcd cX8_nightOf 154 = some (.ifCond .le 15, 157) := by decide +kernel
theorem dX8_nightOf_157 : dcd cX8_nightOf 157 = some (.iload 6, 159) := by decide +kernel
theorem dX8_nightOf_159 : dcd cX8_nightOf 159 = some (.iload 7, 161) := by decide +kernel
theorem dX8_nightOf_161 : dcd cX8_nightOf 161 = some (.if_icmp .ne 8, 164) := by decide +kernel
theorem dX8_nightOf_164 : dcd cX8_nightOf 164 = some (.bipush 10, 166) := by decide +kernel
theorem dX8_nightOf_166 : dcd cX8_nightOf 166 = some (.goto 4, 169) := by decide +kernel
theorem dX8_nightOf_169 : dcd cX8_nightOf 169 = some (.iconst 0, 170) := by decide +kernel
theorem dX8_nightOf_170 : dcd cX8_nightOf 170 = some (.invokestatic 198, 173) := by decide +kernel
theorem dX8_nightOf_173 : dcd cX8_nightOf 173 = some (.istore_n 2, 174) := by decide +kernel
theorem dX8_nightOf_174 : dcd cX8_nightOf 174 = some (.iload_n 2, 175) := by decide +kernel
theorem dX8_nightOf_175 : dcd cX8_nightOf 175 = some (.iload 6, 177) := by decide +kernel
theorem dX8_nightOf_177 : dcd cX8_nightOf 177 = some (.iconst 2, 178) := by decide +kernel
theorem dX8_nightOf_178 : dcd cX8_nightOf 178 = some (.if_icmp .ne 13, 181) := by decide +kernel
theorem dX8_nightOf_181 : dcd cX8_nightOf 181 = some (.iload 7, 183) := by decide +kernel
theorem dX8_nightOf_183 : dcd cX8_nightOf 183 = some (.iconst 1, 184) := by decide +kernel
theorem dX8_nightOf_184 : dcd cX8_nightOf 184 = some (.if_icmp .ne 7, 187) := by decide +kernel
theorem dX8_nightOf_187 : dcd cX8_nightOf 187 = some (.iconst 5, 188) := by decide +kernel
theorem dX8_nightOf_188 : dcd cX8_nightOf 188 = some (.goto 4, 191) := by decide +kernel
theorem dX8_nightOf_191 : dcd cX8_nightOf 191 = some (.iconst 0, 192) := by decide +kernel
theorem dX8_nightOf_192 : dcd cX8_nightOf 192 = some (.invokestatic 198, 195) := by decide +kernel
theorem dX8_nightOf_195 : dcd cX8_nightOf 195 = some (.istore_n 2, 196) := by decide +kernel
theorem dX8_nightOf_196 : dcd cX8_nightOf 196 = some (.aload_n 0, 197) := by decide +kernel
theorem dX8_nightOf_197 : dcd cX8_nightOf 197 = some (.getfield 41, 200) := by decide +kernel
theorem dX8_nightOf_200 : dcd cX8_nightOf 200 = some (.iload 4, 202) := by decide +kernel
theorem dX8_nightOf_202 : dcd cX8_nightOf 202 = some (.iload_n 2, 203) := by decide +kernel
theorem dX8_nightOf_203 : dcd cX8_nightOf 203 = some (.iastore, 204) := by decide +kernel
theorem dX8_nightOf_204 : dcd cX8_nightOf 204 = some (.iload 4, 206) := by decide +kernel
theorem dX8_nightOf_206 : dcd cX8_nightOf 206 = some (.ifCond .ne 12, 209) := by decide +kernel
theorem dX8_nightOf_209 : dcd cX8_nightOf 209 = some (.aload_n 0, 210) := by decide +kernel
theorem dX8_nightOf_210 : dcd cX8_nightOf 210 = some (.getfield 16, 213) := by decide +kernel
theorem dX8_nightOf_213 : dcd cX8_nightOf 213 = some (.iconst 4, 214) := by decide +kernel
theorem dX8_nightOf_214 : dcd cX8_nightOf 214 = some (.iaload, 215) := by decide +kernel
theorem dX8_nightOf_215 : dcd cX8_nightOf 215 = some (.goto 25, 218) := by decide +kernel
theorem dX8_nightOf_218 : dcd cX8_nightOf 218 = some (.iload 4, 220) := by decide +kernel
theorem dX8_nightOf_220 : dcd cX8_nightOf 220 = some (.iconst 1, 221) := by decide +kernel
theorem dX8_nightOf_221 : dcd cX8_nightOf 221 = some (.if_icmp .ne 17, 224) := by decide +kernel
theorem dX8_nightOf_224 : dcd cX8_nightOf 224 = some (.aload_n 0, 225) := by decide +kernel
theorem dX8_nightOf_225 : dcd cX8_nightOf 225 = some (.getfield 16, 228) := by decide +kernel
theorem dX8_nightOf_228 : dcd cX8_nightOf 228 = some (.iconst 4, 229) := by decide +kernel
theorem dX8_nightOf_229 : dcd cX8_nightOf 229 = some (.iaload, 230) := by decide +kernel
theorem dX8_nightOf_230 : dcd cX8_nightOf 230 = some (.bipush 10, 232) := by decide +kernel
theorem dX8_nightOf_232 : dcd cX8_nightOf 232 = some (.iadd, 233) := by decide +kernel
theorem dX8_nightOf_233 : dcd cX8_nightOf 233 = some (.iconst 2, 234) := by decide +kernel
theorem dX8_nightOf_234 : dcd cX8_nightOf 234 = some (.idiv, 235) := by decide +kernel
theorem dX8_nightOf_235 : dcd cX8_nightOf 235 = some (.goto 5, 238) := by decide +kernel
theorem dX8_nightOf_238 : dcd cX8_nightOf 238 = some (.bipush 10, 240) := by decide +kernel
theorem dX8_nightOf_240 : dcd cX8_nightOf 240 = some (.istore 8, 242) := by decide +kernel
theorem dX8_nightOf_242 : dcd cX8_nightOf 242 = some (.aload_n 0, 243) := by decide +kernel
theorem dX8_nightOf_243 : dcd cX8_nightOf 243 = some (.aload_n 0, 244) := by decide +kernel
theorem dX8_nightOf_244 : dcd cX8_nightOf 244 = some (.getfield 32, 247) := by decide +kernel
theorem dX8_nightOf_247 : dcd cX8_nightOf 247 = some (.iload 4, 249) := by decide +kernel
theorem dX8_nightOf_249 : dcd cX8_nightOf 249 = some (.iaload, 250) := by decide +kernel
theorem dX8_nightOf_250 : dcd cX8_nightOf 250 = some (.iconst 2, 251) := by decide +kernel
theorem dX8_nightOf_251 : dcd cX8_nightOf 251 = some (.invokevirtual 151, 254) := by decide +kernel
theorem dX8_nightOf_254 : dcd cX8_nightOf 254 = some (.bipush 100, 256) := by decide +kernel
theorem dX8_nightOf_256 : dcd cX8_nightOf 256 = some (.iload_n 2, 257) := by decide +kernel
theorem dX8_nightOf_257 : dcd cX8_nightOf 257 = some (.iadd, 258) := by decide +kernel
theorem dX8_nightOf_258 : dcd cX8_nightOf 258 = some (.imul, 259) := by decide +kernel
theorem dX8_nightOf_259 : dcd cX8_nightOf 259 = some (.bipush 100, 261) := by decide +kernel
theorem dX8_nightOf_261 : dcd cX8_nightOf 261 = some (.idiv, 262) := by decide +kernel
theorem dX8_nightOf_262 : dcd cX8_nightOf 262 = some (.iload 8, 264) := by decide +kernel
theorem dX8_nightOf_264 : dcd cX8_nightOf 264 = some (.imul, 265) := by decide +kernel
theorem dX8_nightOf_265 : dcd cX8_nightOf 265 = some (.bipush 10, 267) := by decide +kernel
theorem dX8_nightOf_267 : dcd cX8_nightOf 267 = some (.idiv, 268) := by decide +kernel
theorem dX8_nightOf_268 : dcd cX8_nightOf 268 = some (.istore 9, 270) := by decide +kernel
theorem dX8_nightOf_270 : dcd cX8_nightOf 270 = some (.iload 9, 272) := by decide +kernel
theorem dX8_nightOf_272 : dcd cX8_nightOf 272 = some (.iload 4, 274) := by decide +kernel
theorem dX8_nightOf_274 : dcd cX8_nightOf 274 = some (.iconst 5, 275) := by decide +kernel
theorem dX8_nightOf_275 : dcd cX8_nightOf 275 = some (.if_icmp .le 17, 278) := by decide +kernel
theorem dX8_nightOf_278 : dcd cX8_nightOf 278 = some (.aload_n 0, 279) := by decide +kernel
theorem dX8_nightOf_279 : dcd cX8_nightOf 279 = some (.getfield 16, 282) := by decide +kernel
theorem dX8_nightOf_282 : dcd cX8_nightOf 282 = some (.iconst 5, 283) := by decide +kernel
theorem dX8_nightOf_283 : dcd cX8_nightOf 283 = some (.iaload, 284) := by decide +kernel
theorem dX8_nightOf_284 : dcd cX8_nightOf 284 = some (.iload 4, 286) := by decide +kernel
theorem dX8_nightOf_286 : dcd cX8_nightOf 286 = some (.iconst 5, 287) := by decide +kernel
theorem dX8_nightOf_287 : dcd cX8_nightOf 287 = some (.isub, 288) := by decide +kernel
theorem dX8_nightOf_288 : dcd cX8_nightOf 288 = some (.imul, 289) := by decide +kernel
theorem dX8_nightOf_289 : dcd cX8_nightOf 289 = some (.goto 4, 292) := by decide +kernel
theorem dX8_nightOf_292 : dcd cX8_nightOf 292 = some (.iconst 0, 293) := by decide +kernel
theorem dX8_nightOf_293 : dcd cX8_nightOf 293 = some (.invokestatic 198, 296) := by decide +kernel
theorem dX8_nightOf_296 : dcd cX8_nightOf 296 = some (.istore 9, 298) := by decide +kernel
theorem dX8_nightOf_298 : dcd cX8_nightOf 298 = some (.iload_n 1, 299) := by decide +kernel
theorem dX8_nightOf_299 : dcd cX8_nightOf 299 = some (.ifCond .eq 17, 302) := by decide +kernel
theorem dX8_nightOf_302 : dcd cX8_nightOf 302 = some (.iload 9, 304) := by decide +kernel
theorem dX8_nightOf_304 : dcd cX8_nightOf 304 = some (.iconst 2, 305) := by decide +kernel
theorem dX8_nightOf_305 : dcd cX8_nightOf 305 = some (.aload_n 0, 306) := by decide +kernel
theorem dX8_nightOf_306 : dcd cX8_nightOf 306 = some (.invokevirtual 201, 309) := by decide +kernel
theorem dX8_nightOf_309 : dcd cX8_nightOf 309 = some (.isub, 310) := by decide +kernel
theorem dX8_nightOf_310 : dcd cX8_nightOf 310 = some (.invokestatic 198, 313) := by decide +kernel
theorem dX8_nightOf_313 : dcd cX8_nightOf 313 = some (.goto 5, 316) := by decide +kernel
theorem dX8_nightOf_316 : dcd cX8_nightOf 316 = some (.iload 9, 318) := by decide +kernel
theorem dX8_nightOf_318 : dcd cX8_nightOf 318 = some (.istore 9, 320) := by decide +kernel
theorem dX8_nightOf_320 : dcd cX8_nightOf 320 = some (.aload_n 0, 321) := by decide +kernel
theorem dX8_nightOf_321 : dcd cX8_nightOf 321 = some (.getfield 44, 324) := by decide +kernel
theorem dX8_nightOf_324 : dcd cX8_nightOf 324 = some (.iload 4, 326) := by decide +kernel
theorem dX8_nightOf_326 : dcd cX8_nightOf 326 = some (.iload 9, 328) := by decide +kernel
theorem dX8_nightOf_328 : dcd cX8_nightOf 328 = some (.iastore, 329) := by decide +kernel
theorem dX8_nightOf_329 : dcd cX8_nightOf 329 = some (.iload_n 2, 330) := by decide +kernel
theorem dX8_nightOf_330 : dcd cX8_nightOf 330 = some (.iload 9, 332) := by decide +kernel
theorem dX8_nightOf_332 : dcd cX8_nightOf 332 = some (.iadd, 333) := by decide +kernel
theorem dX8_nightOf_333 : dcd cX8_nightOf 333 = some (.bipush 12, 335) := by decide +kernel
theorem dX8_nightOf_335 : dcd cX8_nightOf 335 = some (.isub, 336) := by decide +kernel
theorem dX8_nightOf_336 : dcd cX8_nightOf 336 = some (.istore_n 2, 337) := by decide +kernel
theorem dX8_nightOf_337 : dcd cX8_nightOf 337 = some (.iload_n 2, 338) := by decide +kernel
theorem dX8_nightOf_338 : dcd cX8_nightOf 338 = some (.ifCond .ge 7, 341) := by decide +kernel
theorem dX8_nightOf_341 : dcd cX8_nightOf 341 = some (.iconst 0, 342) := by decide +kernel
theorem dX8_nightOf_342 : dcd cX8_nightOf 342 = some (.goto 15, 345) := by decide +kernel
theorem dX8_nightOf_345 : dcd cX8_nightOf 345 = some (.iload_n 2, 346) := by decide +kernel
theorem dX8_nightOf_346 : dcd cX8_nightOf 346 = some (.bipush 100, 348) := by decide +kernel
theorem dX8_nightOf_348 : dcd cX8_nightOf 348 = some (.if_icmp .le 8, 351) := by decide +kernel
theorem dX8_nightOf_351 : dcd cX8_nightOf 351 = some (.bipush 100, 353) := by decide +kernel
theorem dX8_nightOf_353 : dcd cX8_nightOf 353 = some (.goto 4, 356) := by decide +kernel
theorem dX8_nightOf_356 : dcd cX8_nightOf 356 = some (.iload_n 2, 357) := by decide +kernel
theorem dX8_nightOf_357 : dcd cX8_nightOf 357 = some (.istore_n 2, 358) := by decide +kernel
theorem dX8_nightOf_358 : dcd cX8_nightOf 358 = some (.iload_n 3, 359) := by decide +kernel
theorem dX8_nightOf_359 : dcd cX8_nightOf 359 = some (.iload 9, 361) := by decide +kernel
theorem dX8_nightOf_361 : dcd cX8_nightOf 361 = some (.bipush 8, 363) := by decide +kernel
theorem dX8_nightOf_363 : dcd cX8_nightOf 363 = some (.if_icmp .ge 16, 366) := by decide +kernel
theorem dX8_nightOf_366 : dcd cX8_nightOf 366 = some (.iload_n 3, 367) := by decide +kernel
theorem dX8_nightOf_367 : dcd cX8_nightOf 367 = some (.bipush 8, 369) := by decide +kernel
theorem dX8_nightOf_369 : dcd cX8_nightOf 369 = some (.iload 9, 371) := by decide +kernel
theorem dX8_nightOf_371 : dcd cX8_nightOf 371 = some (.isub, 372) := by decide +kernel
theorem dX8_nightOf_372 : dcd cX8_nightOf 372 = some (.imul, 373) := by decide +kernel
theorem dX8_nightOf_373 : dcd cX8_nightOf 373 = some (.bipush 100, 375) := by decide +kernel
theorem dX8_nightOf_375 : dcd cX8_nightOf 375 = some (.idiv, 376) := by decide +kernel
theorem dX8_nightOf_376 : dcd cX8_nightOf 376 = some (.goto 4, 379) := by decide +kernel
theorem dX8_nightOf_379 : dcd cX8_nightOf 379 = some (.iconst 0, 380) := by decide +kernel
theorem dX8_nightOf_380 : dcd cX8_nightOf 380 = some (.isub, 381) := by decide +kernel
theorem dX8_nightOf_381 : dcd cX8_nightOf 381 = some (.istore_n 3, 382) := by decide +kernel
theorem dX8_nightOf_382 : dcd cX8_nightOf 382 = some (.aload_n 0, 383) := by decide +kernel
theorem dX8_nightOf_383 : dcd cX8_nightOf 383 = some (.getfield 47, 386) := by decide +kernel
theorem dX8_nightOf_386 : dcd cX8_nightOf 386 = some (.iload 4, 388) := by decide +kernel
theorem dX8_nightOf_388 : dcd cX8_nightOf 388 = some (.iload_n 2, 389) := by decide +kernel
theorem dX8_nightOf_389 : dcd cX8_nightOf 389 = some (.iastore, 390) := by decide +kernel
theorem dX8_nightOf_390 : dcd cX8_nightOf 390 = some (.aload_n 0, 391) := by decide +kernel
theorem dX8_nightOf_391 : dcd cX8_nightOf 391 = some (.getfield 50, 394) := by decide +kernel
theorem dX8_nightOf_394 : dcd cX8_nightOf 394 = some (.iload 4, 396) := by decide +kernel
theorem dX8_nightOf_396 : dcd cX8_nightOf 396 = some (.iload_n 3, 397) := by decide +kernel
theorem dX8_nightOf_397 : dcd cX8_nightOf 397 = some (.iastore, 398) := by decide +kernel
theorem dX8_nightOf_398 : dcd cX8_nightOf 398 = some (.aload_n 0, 399) := by decide +kernel
theorem dX8_nightOf_399 : dcd cX8_nightOf 399 = some (.dup, 400) := by decide +kernel
theorem dX8_nightOf_400 : dcd cX8_nightOf 400 = some (.getfield 195, 403) := by decide +kernel
theorem dX8_nightOf_403 : dcd cX8_nightOf 403 = some (.iload 9, 405) := by decide +kernel
theorem dX8_nightOf_405 : dcd cX8_nightOf 405 = some (.iload 4, 407) := by decide +kernel
theorem dX8_nightOf_407 : dcd cX8_nightOf 407 = some (.aload_n 0, 408) := by decide +kernel
theorem dX8_nightOf_408 : dcd cX8_nightOf 408 = some (.getfield 160, 411) := by decide +kernel
theorem dX8_nightOf_411 : dcd cX8_nightOf 411 = some (.iconst 1, 412) := by decide +kernel
theorem dX8_nightOf_412 : dcd cX8_nightOf 412 = some (.isub, 413) := by decide +kernel
theorem dX8_nightOf_413 : dcd cX8_nightOf 413 = some (.if_icmp .ne 8, 416) := by decide +kernel
theorem dX8_nightOf_416 : dcd cX8_nightOf 416 = some (.iload 9, 418) := by decide +kernel
theorem dX8_nightOf_418 : dcd cX8_nightOf 418 = some (.goto 4, 421) := by decide +kernel
theorem dX8_nightOf_421 : dcd cX8_nightOf 421 = some (.iconst 0, 422) := by decide +kernel
theorem dX8_nightOf_422 : dcd cX8_nightOf 422 = some (.iadd, 423) := by decide +kernel
theorem dX8_nightOf_423 : dcd cX8_nightOf 423 = some (.iadd, 424) := by decide +kernel
theorem dX8_nightOf_424 : dcd cX8_nightOf 424 = some (.putfield 195, 427) := by decide +kernel
theorem dX8_nightOf_427 : dcd cX8_nightOf 427 = some (.iinc 4 1, 430) := by decide +kernel
theorem dX8_nightOf_430 : dcd cX8_nightOf 430 = some (.goto (-401), 433) := by decide +kernel
theorem dX8_nightOf_433 : dcd cX8_nightOf 433 = some (.aload_n 0, 434) := by decide +kernel
theorem dX8_nightOf_434 : dcd cX8_nightOf 434 = some (.dup, 435) := by decide +kernel
theorem dX8_nightOf_435 : dcd cX8_nightOf 435 = some (.getfield 195, 438) := by decide +kernel
theorem dX8_nightOf_438 : dcd cX8_nightOf 438 = some (.aload_n 0, 439) := by decide +kernel
theorem dX8_nightOf_439 : dcd cX8_nightOf 439 = some (.getfield 192, 442) := by decide +kernel
theorem dX8_nightOf_442 : dcd cX8_nightOf 442 = some (.iadd, 443) := by decide +kernel
theorem dX8_nightOf_443 : dcd cX8_nightOf 443 = some (.putfield 195, 446) := by decide +kernel
theorem dX8_nightOf_446 : dcd cX8_nightOf 446 = some (.aload_n 0, 447) := by decide +kernel
theorem dX8_nightOf_447 : dcd cX8_nightOf 447 = some (.getfield 195, 450) := by decide +kernel
theorem dX8_nightOf_450 : dcd cX8_nightOf 450 = some (.ireturn, 451) := by decide +kernel
theorem dX8_less_0 : dcd cX8_less 0 = some (.iload_n 0, 1) := by decide +kernel
theorem dX8_less_1 : dcd cX8_less 1 = some (.iload_n 1, 2) := by decide +kernel
theorem dX8_less_2 : dcd cX8_less 2 = some (.if_icmp .ge 7, 5) := by decide +kernel
theorem dX8_less_5 : dcd cX8_less 5 = some (.iconst 0, 6) := by decide +kernel
theorem dX8_less_6 : dcd cX8_less 6 = some (.goto 6, 9) := by decide +kernel
theorem dX8_less_9 : dcd cX8_less 9 = some (.iload_n 0, 10) := by decide +kernel
theorem dX8_less_10 : dcd cX8_less 10 = some (.iload_n 1, 11) := by decide +kernel
theorem dX8_less_11 : dcd cX8_less 11 = some (.isub, 12) := by decide +kernel
theorem dX8_less_12 : dcd cX8_less 12 = some (.ireturn, 13) := by decide +kernel
theorem dX8_night_0 : dcd cX8_night 0 = some (.aload_n 0, 1) := by decide +kernel
theorem dX8_night_1 : dcd cX8_night 1 = some (.iconst 0, 2) := by decide +kernel
theorem dX8_night_2 : dcd cX8_night 2 = some (.putfield 68, 5) := by decide +kernel
theorem dX8_night_5 : dcd cX8_night 5 = some (.aload_n 0, 6) := by decide +kernel
theorem dX8_night_6 : dcd cX8_night 6 = some (.iload_n 1, 7) := by decide +kernel
theorem dX8_night_7 : dcd cX8_night 7 = some (.invokevirtual 157, 10) := by decide +kernel
theorem dX8_night_10 : dcd cX8_night 10 = some (.ifCond .eq 12, 13) := by decide +kernel
theorem dX8_night_13 : dcd cX8_night 13 = some (.iload_n 2, 14) := by decide +kernel
theorem dX8_night_14 : dcd cX8_night 14 = some (.iconst 0, 15) := by decide +kernel
theorem dX8_night_15 : dcd cX8_night 15 = some (.iconst 3, 16) := by decide +kernel
theorem dX8_night_16 : dcd cX8_night 16 = some (.invokestatic 72, 19) := by decide +kernel
theorem dX8_night_19 : dcd cX8_night 19 = some (.ifCond .ne 5, 22) := by decide +kernel
theorem dX8_night_22 : dcd cX8_night 22 = some (.iconst (-1), 23) := by decide +kernel
theorem dX8_night_23 : dcd cX8_night 23 = some (.ireturn, 24) := by decide +kernel
theorem dX8_night_24 : dcd cX8_night 24 = some (.aload_n 0, 25) := by decide +kernel
theorem dX8_night_25 : dcd cX8_night 25 = some (.invokevirtual 175, 28) := by decide +kernel
theorem dX8_night_28 : dcd cX8_night 28 = some (.aload_n 0, 29) := by decide +kernel
theorem dX8_night_29 : dcd cX8_night 29 = some (.invokevirtual 178, 32) := by decide +kernel
theorem dX8_night_32 : dcd cX8_night 32 = some (.aload_n 0, 33) := by decide +kernel
theorem dX8_night_33 : dcd cX8_night 33 = some (.iconst 0, 34) := by decide +kernel
theorem dX8_night_34 : dcd cX8_night 34 = some (.invokevirtual 205, 37) := by decide +kernel
theorem dX8_night_37 : dcd cX8_night 37 = some (.pop, 38) := by decide +kernel
theorem dX8_night_38 : dcd cX8_night 38 = some (.iload_n 2, 39) := by decide +kernel
theorem dX8_night_39 : dcd cX8_night 39 = some (.ifCond .ne 12, 42) := by decide +kernel
theorem dX8_night_42 : dcd cX8_night 42 = some (.aload_n 0, 43) := by decide +kernel
theorem dX8_night_43 : dcd cX8_night 43 = some (.getfield 41, 46) := by decide +kernel
theorem dX8_night_46 : dcd cX8_night 46 = some (.iload_n 1, 47) := by decide +kernel
theorem dX8_night_47 : dcd cX8_night 47 = some (.iaload, 48) := by decide +kernel
theorem dX8_night_48 : dcd cX8_night 48 = some (.goto 37, 51) := by decide +kernel
theorem dX8_night_51 : dcd cX8_night 51 = some (.iload_n 2, 52) := by decide +kernel
theorem dX8_night_52 : dcd cX8_night 52 = some (.iconst 1, 53) := by decide +kernel
theorem dX8_night_53 : dcd cX8_night 53 = some (.if_icmp .ne 12, 56) := by decide +kernel
theorem dX8_night_56 : dcd cX8_night 56 = some (.aload_n 0, 57) := by decide +kernel
theorem dX8_night_57 : dcd cX8_night 57 = some (.getfield 44, 60) := by decide +kernel
theorem dX8_night_60 : dcd cX8_night 60 = some (.iload_n 1, 61) := by decide +kernel
theorem dX8_night_61 : dcd cX8_night 61 = some (.iaload, 62) := by decide +kernel
theorem dX8_night_62 : dcd cX8_night 62 = some (.goto 23, 65) := by decide +kernel
theorem dX8_night_65 : dcd cX8_night 65 = some (.iload_n 2, 66) := by decide +kernel
theorem dX8_night_66 : dcd cX8_night 66 = some (.iconst 2, 67) := by decide +kernel
theorem dX8_night_67 : dcd cX8_night 67 = some (.if_icmp .ne 12, 70) := by decide +kernel
theorem dX8_night_70 : dcd cX8_night 70 = some (.aload_n 0, 71) := by decide +kernel
theorem dX8_night_71 : dcd cX8_night 71 = some (.getfield 47, 74) := by decide +kernel
theorem dX8_night_74 : dcd cX8_night 74 = some (.iload_n 1, 75) := by decide +kernel
theorem dX8_night_75 : dcd cX8_night 75 = some (.iaload, 76) := by decide +kernel
theorem dX8_night_76 : dcd cX8_night 76 = some (.goto 9, 79) := by decide +kernel
theorem dX8_night_79 : dcd cX8_night 79 = some (.aload_n 0, 80) := by decide +kernel
theorem dX8_night_80 : dcd cX8_night 80 = some (.getfield 50, 83) := by decide +kernel
theorem dX8_night_83 : dcd cX8_night 83 = some (.iload_n 1, 84) := by decide +kernel
theorem dX8_night_84 : dcd cX8_night 84 = some (.iaload, 85) := by decide +kernel
theorem dX8_night_85 : dcd cX8_night 85 = some (.ireturn, 86) := by decide +kernel
theorem dX8_worth_0 : dcd cX8_worth 0 = some (.aload_n 0, 1) := by decide +kernel
theorem dX8_worth_1 : dcd cX8_worth 1 = some (.iconst 0, 2) := by decide +kernel
theorem dX8_worth_2 : dcd cX8_worth 2 = some (.putfield 68, 5) := by decide +kernel
theorem dX8_worth_5 : dcd cX8_worth 5 = some (.iload_n 1, 6) := by decide +kernel
theorem dX8_worth_6 : dcd cX8_worth 6 = some (.iconst 0, 7) := by decide +kernel
theorem dX8_worth_7 : dcd cX8_worth 7 = some (.iconst 3, 8) := by decide +kernel
theorem dX8_worth_8 : dcd cX8_worth 8 = some (.invokestatic 72, 11) := by decide +kernel
theorem dX8_worth_11 : dcd cX8_worth 11 = some (.ifCond .ne 5, 14) := by decide +kernel
theorem dX8_worth_14 : dcd cX8_worth 14 = some (.iconst (-1), 15) := by decide +kernel
theorem dX8_worth_15 : dcd cX8_worth 15 = some (.ireturn, 16) := by decide +kernel
theorem dX8_worth_16 : dcd cX8_worth 16 = some (.aload_n 0, 17) := by decide +kernel
theorem dX8_worth_17 : dcd cX8_worth 17 = some (.getfield 22, 20) := by decide +kernel
theorem dX8_worth_20 : dcd cX8_worth 20 = some (.iconst 0, 21) := by decide +kernel
theorem dX8_worth_21 : dcd cX8_worth 21 = some (.iaload, 22) := by decide +kernel
theorem dX8_worth_22 : dcd cX8_worth 22 = some (.ifCond .ne 6, 25) := by decide +kernel
theorem dX8_worth_25 : dcd cX8_worth 25 = some (.bipush (-2), 27) := by decide +kernel
theorem dX8_worth_27 : dcd cX8_worth 27 = some (.ireturn, 28) := by decide +kernel
theorem dX8_worth_28 : dcd cX8_worth 28 = some (.aload_n 0, 29) := by decide +kernel
theorem dX8_worth_29 : dcd cX8_worth 29 = some (.invokevirtual 175, 32) := by decide +kernel
theorem dX8_worth_32 : dcd cX8_worth 32 = some (.aload_n 0, 33) := by decide +kernel
theorem dX8_worth_33 : dcd cX8_worth 33 = some (.invokevirtual 178, 36) := by decide +kernel
theorem dX8_worth_36 : dcd cX8_worth 36 = some (.aload_n 0, 37) := by decide +kernel
theorem dX8_worth_37 : dcd cX8_worth 37 = some (.iconst 0, 38) := by decide +kernel
theorem dX8_worth_38 : dcd cX8_worth 38 = some (.invokevirtual 205, 41) := by decide +kernel
theorem dX8_worth_41 : dcd cX8_worth 41 = some (.pop, 42) := by decide +kernel
theorem dX8_worth_42 : dcd cX8_worth 42 = some (.iload_n 1, 43) := by decide +kernel
theorem dX8_worth_43 : dcd cX8_worth 43 = some (.ifCond .ne 10, 46) := by decide +kernel
theorem dX8_worth_46 : dcd cX8_worth 46 = some (.aload_n 0, 47) := by decide +kernel
theorem dX8_worth_47 : dcd cX8_worth 47 = some (.getfield 195, 50) := by decide +kernel
theorem dX8_worth_50 : dcd cX8_worth 50 = some (.goto 44, 53) := by decide +kernel
theorem dX8_worth_53 : dcd cX8_worth 53 = some (.iload_n 1, 54) := by decide +kernel
theorem dX8_worth_54 : dcd cX8_worth 54 = some (.iconst 1, 55) := by decide +kernel
theorem dX8_worth_55 : dcd cX8_worth 55 = some (.if_icmp .ne 10, 58) := by decide +kernel
theorem dX8_worth_58 : dcd cX8_worth 58 = some (.aload_n 0, 59) := by decide +kernel
theorem dX8_worth_59 : dcd cX8_worth 59 = some (.getfield 192, 62) := by decide +kernel
theorem dX8_worth_62 : dcd cX8_worth 62 = some (.goto 32, 65) := by decide +kernel
theorem dX8_worth_65 : dcd cX8_worth 65 = some (.iload_n 1, 66) := by decide +kernel
theorem dX8_worth_66 : dcd cX8_worth 66 = some (.iconst 2, 67) := by decide +kernel
theorem dX8_worth_67 : dcd cX8_worth 67 = some (.if_icmp .ne 17, 70) := by decide +kernel
theorem dX8_worth_70 : dcd cX8_worth 70 = some (.aload_n 0, 71) := by decide +kernel
theorem dX8_worth_71 : dcd cX8_worth 71 = some (.getfield 50, 74) := by decide +kernel
theorem dX8_worth_74 : dcd cX8_worth 74 = some (.aload_n 0, 75) := by decide +kernel
theorem dX8_worth_75 : dcd cX8_worth 75 = some (.getfield 160, 78) := by decide +kernel
theorem dX8_worth_78 : dcd cX8_worth 78 = some (.iconst 1, 79) := by decide +kernel
theorem dX8_worth_79 : dcd cX8_worth 79 = some (.isub, 80) := by decide +kernel
theorem dX8_worth_80 : dcd cX8_worth 80 = some (.iaload, 81) := by decide +kernel
theorem dX8_worth_81 : dcd cX8_worth 81 = some (.goto 13, 84) := by decide +kernel
theorem dX8_worth_84 : dcd cX8_worth 84 = some (.aload_n 0, 85) := by decide +kernel
theorem dX8_worth_85 : dcd cX8_worth 85 = some (.aload_n 0, 86) := by decide +kernel
theorem dX8_worth_86 : dcd cX8_worth 86 = some (.getfield 160, 89) := by decide +kernel
theorem dX8_worth_89 : dcd cX8_worth 89 = some (.iconst 1, 90) := by decide +kernel
theorem dX8_worth_90 : dcd cX8_worth 90 = some (.isub, 91) := by decide +kernel
theorem dX8_worth_91 : dcd cX8_worth 91 = some (.invokevirtual 172, 94) := by decide +kernel
theorem dX8_worth_94 : dcd cX8_worth 94 = some (.ireturn, 95) := by decide +kernel
theorem dX8_goesOn_0 : dcd cX8_goesOn 0 = some (.aload_n 0, 1) := by decide +kernel
theorem dX8_goesOn_1 : dcd cX8_goesOn 1 = some (.getfield 160, 4) := by decide +kernel
theorem dX8_goesOn_4 : dcd cX8_goesOn 4 = some (.iconst 2, 5) := by decide +kernel
theorem dX8_goesOn_5 : dcd cX8_goesOn 5 = some (.isub, 6) := by decide +kernel
theorem dX8_goesOn_6 : dcd cX8_goesOn 6 = some (.istore_n 1, 7) := by decide +kernel
theorem dX8_goesOn_7 : dcd cX8_goesOn 7 = some (.iload_n 1, 8) := by decide +kernel
theorem dX8_goesOn_8 : dcd cX8_goesOn 8 = some (.ifCond .lt 26, 11) := by decide +kernel
theorem dX8_goesOn_11 : dcd cX8_goesOn 11 = some (.aload_n 0, 12) := by decide +kernel
theorem dX8_goesOn_12 : dcd cX8_goesOn 12 = some (.getfield 32, 15) := by decide +kernel
theorem dX8_goesOn_15 : dcd cX8_goesOn 15 = some (.iload_n 1, 16) := by decide +kernel
theorem dX8_goesOn_16 : dcd cX8_goesOn 16 = some (.iaload, 17) := by decide +kernel
theorem dX8_goesOn_17 : dcd cX8_goesOn 17 = some (.aload_n 0, 18) := by decide +kernel
theorem dX8_goesOn_18 : dcd cX8_goesOn 18 = some (.getfield 32, 21) := by decide +kernel
theorem dX8_goesOn_21 : dcd cX8_goesOn 21 = some (.iload_n 1, 22) := by decide +kernel
theorem dX8_goesOn_22 : dcd cX8_goesOn 22 = some (.iconst 1, 23) := by decide +kernel
theorem dX8_goesOn_23 : dcd cX8_goesOn 23 = some (.iadd, 24) := by decide +kernel
theorem dX8_goesOn_24 : dcd cX8_goesOn 24 = some (.iaload, 25) := by decide +kernel
theorem dX8_goesOn_25 : dcd cX8_goesOn 25 = some (.if_icmp .le 9, 28) := by decide +kernel
theorem dX8_goesOn_28 : dcd cX8_goesOn 28 = some (.iinc 1 (-1), 31) := by decide +kernel
theorem dX8_goesOn_31 : dcd cX8_goesOn 31 = some (.goto (-24), 34) := by decide +kernel
theorem dX8_goesOn_34 : dcd cX8_goesOn 34 = some (.iload_n 1, 35) := by decide +kernel
theorem dX8_goesOn_35 : dcd cX8_goesOn 35 = some (.ifCond .ge 5, 38) := by decide +kernel
theorem dX8_goesOn_38 : dcd cX8_goesOn 38 = some (.iconst 0, 39) := by decide +kernel
theorem dX8_goesOn_39 : dcd cX8_goesOn 39 = some (.ireturn, 40) := by decide +kernel
theorem dX8_goesOn_40 : dcd cX8_goesOn 40 = some (.aload_n 0, 41) := by decide +kernel
theorem dX8_goesOn_41 : dcd cX8_goesOn 41 = some (.getfield 160, 44) := by decide +kernel
theorem dX8_goesOn_44 : dcd cX8_goesOn 44 = some (.iconst 1, 45) := by decide +kernel
theorem dX8_goesOn_45 : dcd cX8_goesOn 45 = some (.isub, 46) := by decide +kernel
theorem dX8_goesOn_46 : dcd cX8_goesOn 46 = some (.istore_n 2, 47) := by decide +kernel
theorem dX8_goesOn_47 : dcd cX8_goesOn 47 = some (.aload_n 0, 48) := by decide +kernel
theorem dX8_goesOn_48 : dcd cX8_goesOn 48 = some (.getfield 32, 51) := by decide +kernel
theorem dX8_goesOn_51 : dcd cX8_goesOn 51 = some (.iload_n 2, 52) := by decide +kernel
theorem dX8_goesOn_52 : dcd cX8_goesOn 52 = some (.iaload, 53) := by decide +kernel
theorem dX8_goesOn_53 : dcd cX8_goesOn 53 = some (.aload_n 0, 54) := by decide +kernel
theorem dX8_goesOn_54 : dcd cX8_goesOn 54 = some (.getfield 32, 57) := by decide +kernel
theorem dX8_goesOn_57 : dcd cX8_goesOn 57 = some (.iload_n 1, 58) := by decide +kernel
theorem dX8_goesOn_58 : dcd cX8_goesOn 58 = some (.iaload, 59) := by decide +kernel
theorem dX8_goesOn_59 : dcd cX8_goesOn 59 = some (.if_icmp .ge 9, 62) := by decide +kernel
theorem dX8_goesOn_62 : dcd cX8_goesOn 62 = some (.iinc 2 (-1), 65) := by decide +kernel
theorem dX8_goesOn_65 : dcd cX8_goesOn 65 = some (.goto (-18), 68) := by decide +kernel
theorem dX8_goesOn_68 : dcd cX8_goesOn 68 = some (.aload_n 0, 69) := by decide +kernel
theorem dX8_goesOn_69 : dcd cX8_goesOn 69 = some (.iload_n 1, 70) := by decide +kernel
theorem dX8_goesOn_70 : dcd cX8_goesOn 70 = some (.iload_n 2, 71) := by decide +kernel
theorem dX8_goesOn_71 : dcd cX8_goesOn 71 = some (.invokevirtual 208, 74) := by decide +kernel
theorem dX8_goesOn_74 : dcd cX8_goesOn 74 = some (.iload_n 1, 75) := by decide +kernel
theorem dX8_goesOn_75 : dcd cX8_goesOn 75 = some (.iconst 1, 76) := by decide +kernel
theorem dX8_goesOn_76 : dcd cX8_goesOn 76 = some (.iadd, 77) := by decide +kernel
theorem dX8_goesOn_77 : dcd cX8_goesOn 77 = some (.istore_n 3, 78) := by decide +kernel
theorem dX8_goesOn_78 : dcd cX8_goesOn 78 = some (.aload_n 0, 79) := by decide +kernel
theorem dX8_goesOn_79 : dcd cX8_goesOn 79 = some (.getfield 160, 82) := by decide +kernel
theorem dX8_goesOn_82 : dcd cX8_goesOn 82 = some (.iconst 1, 83) := by decide +kernel
theorem dX8_goesOn_83 : dcd cX8_goesOn 83 = some (.isub, 84) := by decide +kernel
theorem dX8_goesOn_84 : dcd cX8_goesOn 84 = some (.istore 4, 86) := by decide +kernel
theorem dX8_goesOn_86 : dcd cX8_goesOn 86 = some (.iload_n 3, 87) := by decide +kernel
theorem dX8_goesOn_87 : dcd cX8_goesOn 87 = some (.iload 4, 89) := by decide +kernel
theorem dX8_goesOn_89 : dcd cX8_goesOn 89 = some (.if_icmp .ge 19, 92) := by decide +kernel
theorem dX8_goesOn_92 : dcd cX8_goesOn 92 = some (.aload_n 0, 93) := by decide +kernel
theorem dX8_goesOn_93 : dcd cX8_goesOn 93 = some (.iload_n 3, 94) := by decide +kernel
theorem dX8_goesOn_94 : dcd cX8_goesOn 94 = some (.iload 4, 96) := by decide +kernel
theorem dX8_goesOn_96 : dcd cX8_goesOn 96 = some (.invokevirtual 208, 99) := by decide +kernel
theorem dX8_goesOn_99 : dcd cX8_goesOn 99 = some (.iinc 3 1, 102) := by decide +kernel
theorem dX8_goesOn_102 : dcd cX8_goesOn 102 = some (.iinc 4 (-1), 105) := by decide +kernel
theorem dX8_goesOn_105 : dcd cX8_goesOn 105 = some (.goto (-19), 108) := by decide +kernel
theorem dX8_goesOn_108 : dcd cX8_goesOn 108 = some (.iconst 1, 109) := by decide +kernel
theorem dX8_goesOn_109 : dcd cX8_goesOn 109 = some (.ireturn, 110) := by decide +kernel
theorem dX8_swaps_0 : dcd cX8_swaps 0 = some (.aload_n 0, 1) := by decide +kernel
theorem dX8_swaps_1 : dcd cX8_swaps 1 = some (.getfield 32, 4) := by decide +kernel
theorem dX8_swaps_4 : dcd cX8_swaps 4 = some (.iload_n 1, 5) := by decide +kernel
theorem dX8_swaps_5 : dcd cX8_swaps 5 = some (.iaload, 6) := by decide +kernel
theorem dX8_swaps_6 : dcd cX8_swaps 6 = some (.istore_n 3, 7) := by decide +kernel
theorem dX8_swaps_7 : dcd cX8_swaps 7 = some (.aload_n 0, 8) := by decide +kernel
theorem dX8_swaps_8 : dcd cX8_swaps 8 = some (.getfield 32, 11) := by decide +kernel
theorem dX8_swaps_11 : dcd cX8_swaps 11 = some (.iload_n 1, 12) := by decide +kernel
theorem dX8_swaps_12 : dcd cX8_swaps 12 = some (.aload_n 0, 13) := by decide +kernel
theorem dX8_swaps_13 : dcd cX8_swaps 13 = some (.getfield 32, 16) := by decide +kernel
theorem dX8_swaps_16 : dcd cX8_swaps 16 = some (.iload_n 2, 17) := by decide +kernel
theorem dX8_swaps_17 : dcd cX8_swaps 17 = some (.iaload, 18) := by decide +kernel
theorem dX8_swaps_18 : dcd cX8_swaps 18 = some (.iastore, 19) := by decide +kernel
theorem dX8_swaps_19 : dcd cX8_swaps 19 = some (.aload_n 0, 20) := by decide +kernel
theorem dX8_swaps_20 : dcd cX8_swaps 20 = some (.getfield 32, 23) := by decide +kernel
theorem dX8_swaps_23 : dcd cX8_swaps 23 = some (.iload_n 2, 24) := by decide +kernel
theorem dX8_swaps_24 : dcd cX8_swaps 24 = some (.iload_n 3, 25) := by decide +kernel
theorem dX8_swaps_25 : dcd cX8_swaps 25 = some (.iastore, 26) := by decide +kernel
theorem dX8_swaps_26 : dcd cX8_swaps 26 = some (.return_, 27) := by decide +kernel
theorem dX8_sortsRow_0 : dcd cX8_sortsRow 0 = some (.iconst 1, 1) := by decide +kernel
theorem dX8_sortsRow_1 : dcd cX8_sortsRow 1 = some (.istore_n 1, 2) := by decide +kernel
theorem dX8_sortsRow_2 : dcd cX8_sortsRow 2 = some (.iload_n 1, 3) := by decide +kernel
theorem dX8_sortsRow_3 : dcd cX8_sortsRow 3 = some (.aload_n 0, 4) := by decide +kernel
theorem dX8_sortsRow_4 : dcd cX8_sortsRow 4 = some (.getfield 160, 7) := by decide +kernel
theorem dX8_sortsRow_7 : dcd cX8_sortsRow 7 = some (.if_icmp .ge 46, 10) := by decide +kernel
theorem dX8_sortsRow_10 : dcd cX8_sortsRow 10 = some (.iload_n 1, 11) := by decide +kernel
theorem dX8_sortsRow_11 : dcd cX8_sortsRow 11 = some (.istore_n 2, 12) := by decide +kernel
theorem dX8_sortsRow_12 : dcd cX8_sortsRow 12 = some (.iload_n 2, 13) := by decide +kernel
theorem dX8_sortsRow_13 : dcd cX8_sortsRow 13 = some (.ifCond .le 34, 16) := by decide +kernel
theorem dX8_sortsRow_16 : dcd cX8_sortsRow 16 = some (.aload_n 0, 17) := by decide +kernel
theorem dX8_sortsRow_17 : dcd cX8_sortsRow 17 = some (.getfield 32, 20) := by decide +kernel
theorem dX8_sortsRow_20 : dcd cX8_sortsRow 20 = some (.iload_n 2, 21) := by decide +kernel
theorem dX8_sortsRow_21 : dcd cX8_sortsRow 21 = some (.iaload, 22) := by decide +kernel
theorem dX8_sortsRow_22 : dcd cX8_sortsRow 22 = some (.aload_n 0, 23) := by decide +kernel
theorem dX8_sortsRow_23 : dcd cX8_sortsRow 23 = some (.getfield 32, 26) := by decide +kernel
theorem dX8_sortsRow_26 : dcd cX8_sortsRow 26 = some (.iload_n 2, 27) := by decide +kernel
theorem dX8_sortsRow_27 : dcd cX8_sortsRow 27 = some (.iconst 1, 28) := by decide +kernel
theorem dX8_sortsRow_28 : dcd cX8_sortsRow 28 = some (.isub, 29) := by decide +kernel
theorem dX8_sortsRow_29 : dcd cX8_sortsRow 29 = some (.iaload, 30) := by decide +kernel
theorem dX8_sortsRow_30 : dcd cX8_sortsRow 30 = some (.if_icmp .ge 17, 33) := by decide +kernel
theorem dX8_sortsRow_33 : dcd cX8_sortsRow 33 = some (.aload_n 0, 34) := by decide +kernel
theorem dX8_sortsRow_34 : dcd cX8_sortsRow 34 = some (.iload_n 2, 35) := by decide +kernel
theorem dX8_sortsRow_35 : dcd cX8_sortsRow 35 = some (.iload_n 2, 36) := by decide +kernel
theorem dX8_sortsRow_36 : dcd cX8_sortsRow 36 = some (.iconst 1, 37) := by decide +kernel
theorem dX8_sortsRow_37 : dcd cX8_sortsRow 37 = some (.isub, 38) := by decide +kernel
theorem dX8_sortsRow_38 : dcd cX8_sortsRow 38 = some (.invokevirtual 208, 41) := by decide +kernel
theorem dX8_sortsRow_41 : dcd cX8_sortsRow 41 = some (.iinc 2 (-1), 44) := by decide +kernel
theorem dX8_sortsRow_44 : dcd cX8_sortsRow 44 = some (.goto (-32), 47) := by decide +kernel
theorem dX8_sortsRow_47 : dcd cX8_sortsRow 47 = some (.iinc 1 1, 50) := by decide +kernel
theorem dX8_sortsRow_50 : dcd cX8_sortsRow 50 = some (.goto (-48), 53) := by decide +kernel
theorem dX8_sortsRow_53 : dcd cX8_sortsRow 53 = some (.return_, 54) := by decide +kernel
theorem dX8_orderOf_0 : dcd cX8_orderOf 0 = some (.iconst 0, 1) := by decide +kernel
theorem dX8_orderOf_1 : dcd cX8_orderOf 1 = some (.istore_n 1, 2) := by decide +kernel
theorem dX8_orderOf_2 : dcd cX8_orderOf 2 = some (.iconst 0, 3) := by decide +kernel
theorem dX8_orderOf_3 : dcd cX8_orderOf 3 = some (.istore_n 2, 4) := by decide +kernel
theorem dX8_orderOf_4 : dcd cX8_orderOf 4 = some (.iload_n 2, 5) := by decide +kernel
theorem dX8_orderOf_5 : dcd cX8_orderOf 5 = some (.aload_n 0, 6) := by decide +kernel
theorem dX8_orderOf_6 : dcd cX8_orderOf 6 = some (.getfield 160, 9) := by decide +kernel
theorem dX8_orderOf_9 : dcd cX8_orderOf 9 = some (.if_icmp .ge 21, 12) := by decide +kernel
theorem dX8_orderOf_12 : dcd cX8_orderOf 12 = some (.bipush 10, 14) := by decide +kernel
theorem dX8_orderOf_14 : dcd cX8_orderOf 14 = some (.iload_n 1, 15) := by decide +kernel
theorem dX8_orderOf_15 : dcd cX8_orderOf 15 = some (.imul, 16) := by decide +kernel
theorem dX8_orderOf_16 : dcd cX8_orderOf 16 = some (.aload_n 0, 17) := by decide +kernel
theorem dX8_orderOf_17 : dcd cX8_orderOf 17 = some (.getfield 32, 20) := by decide +kernel
theorem dX8_orderOf_20 : dcd cX8_orderOf 20 = some (.iload_n 2, 21) := by decide +kernel
theorem dX8_orderOf_21 : dcd cX8_orderOf 21 = some (.iaload, 22) := by decide +kernel
theorem dX8_orderOf_22 : dcd cX8_orderOf 22 = some (.iadd, 23) := by decide +kernel
theorem dX8_orderOf_23 : dcd cX8_orderOf 23 = some (.istore_n 1, 24) := by decide +kernel
theorem dX8_orderOf_24 : dcd cX8_orderOf 24 = some (.iinc 2 1, 27) := by decide +kernel
theorem dX8_orderOf_27 : dcd cX8_orderOf 27 = some (.goto (-23), 30) := by decide +kernel
theorem dX8_orderOf_30 : dcd cX8_orderOf 30 = some (.iload_n 1, 31) := by decide +kernel
theorem dX8_orderOf_31 : dcd cX8_orderOf 31 = some (.ireturn, 32) := by decide +kernel
theorem dX8_goesThrough_0 : dcd cX8_goesThrough 0 = some (.aload_n 0, 1) := by decide +kernel
theorem dX8_goesThrough_1 : dcd cX8_goesThrough 1 = some (.invokevirtual 175, 4) := by decide +kernel
theorem dX8_goesThrough_4 : dcd cX8_goesThrough 4 = some (.aload_n 0, 5) := by decide +kernel
theorem dX8_goesThrough_5 : dcd cX8_goesThrough 5 = some (.invokevirtual 212, 8) := by decide +kernel
theorem dX8_goesThrough_8 : dcd cX8_goesThrough 8 = some (.aload_n 0, 9) := by decide +kernel
theorem dX8_goesThrough_9 : dcd cX8_goesThrough 9 = some (.bipush (-9), 11) := by decide +kernel
theorem dX8_goesThrough_11 : dcd cX8_goesThrough 11 = some (.putfield 215, 14) := by decide +kernel
theorem dX8_goesThrough_14 : dcd cX8_goesThrough 14 = some (.aload_n 0, 15) := by decide +kernel
theorem dX8_goesThrough_15 : dcd cX8_goesThrough 15 = some (.iconst 0, 16) := by decide +kernel
theorem dX8_goesThrough_16 : dcd cX8_goesThrough 16 = some (.putfield 218, 19) := by decide +kernel
theorem dX8_goesThrough_19 : dcd cX8_goesThrough 19 = some (.iconst 1, 20) := by decide +kernel
theorem dX8_goesThrough_20 : dcd cX8_goesThrough 20 = some (.istore_n 1, 21) := by decide +kernel
theorem dX8_goesThrough_21 : dcd cX8_goesThrough 21 = some (.iload_n 1, 22) := by decide +kernel
theorem dX8_goesThrough_22 : dcd cX8_goesThrough 22 = some (.ifCond .eq 101, 25) := by decide +kernel
theorem dX8_goesThrough_25 : dcd cX8_goesThrough 25 = some (.aload_n 0, 26) := by decide +kernel
theorem dX8_goesThrough_26 : dcd cX8_goesThrough 26 = some (.iconst 0, 27) := by decide +kernel
theorem dX8_goesThrough_27 : dcd cX8_goesThrough 27 = some (.putfield 163, 30) := by decide +kernel
theorem dX8_goesThrough_30 : dcd cX8_goesThrough 30 = some (.aload_n 0, 31) := by decide +kernel
theorem dX8_goesThrough_31 : dcd cX8_goesThrough 31 = some (.getfield 163, 34) := by decide +kernel
theorem dX8_goesThrough_34 : dcd cX8_goesThrough 34 = some (.aload_n 0, 35) := by decide +kernel
theorem dX8_goesThrough_35 : dcd cX8_goesThrough 35 = some (.getfield 160, 38) := by decide +kernel
theorem dX8_goesThrough_38 : dcd cX8_goesThrough 38 = some (.if_icmp .ge 77, 41) := by decide +kernel
theorem dX8_goesThrough_41 : dcd cX8_goesThrough 41 = some (.aload_n 0, 42) := by decide +kernel
theorem dX8_goesThrough_42 : dcd cX8_goesThrough 42 = some (.invokevirtual 187, 45) := by decide +kernel
theorem dX8_goesThrough_45 : dcd cX8_goesThrough 45 = some (.ifCond .eq 57, 48) := by decide +kernel
theorem dX8_goesThrough_48 : dcd cX8_goesThrough 48 = some (.aload_n 0, 49) := by decide +kernel
theorem dX8_goesThrough_49 : dcd cX8_goesThrough 49 = some (.dup, 50) := by decide +kernel
theorem dX8_goesThrough_50 : dcd cX8_goesThrough 50 = some (.getfield 218, 53) := by decide +kernel
theorem dX8_goesThrough_53 : dcd cX8_goesThrough 53 = some (.iconst 1, 54) := by decide +kernel
theorem dX8_goesThrough_54 : dcd cX8_goesThrough 54 = some (.iadd, 55) := by decide +kernel
theorem dX8_goesThrough_55 : dcd cX8_goesThrough 55 = some (.putfield 218, 58) := by decide +kernel
theorem dX8_goesThrough_58 : dcd cX8_goesThrough 58 = some (.aload_n 0, 59) := by decide +kernel
theorem dX8_goesThrough_59 : dcd cX8_goesThrough 59 = some (.iconst 0, 60) := by decide +kernel
theorem dX8_goesThrough_60 : dcd cX8_goesThrough 60 = some (.invokevirtual 205, 63) := by decide +kernel
theorem dX8_goesThrough_63 : dcd cX8_goesThrough 63 = some (.istore_n 2, 64) := by decide +kernel
theorem dX8_goesThrough_64 : dcd cX8_goesThrough 64 = some (.aload_n 0, 65) := by decide +kernel
theorem dX8_goesThrough_65 : dcd cX8_goesThrough 65 = some (.getfield 215, 68) := by decide +kernel
theorem dX8_goesThrough_68 : dcd cX8_goesThrough 68 = some (.bipush (-9), 70) := by decide +kernel
theorem dX8_goesThrough_70 : dcd cX8_goesThrough 70 = some (.if_icmp .eq 11, 73) := by decide +kernel
theorem dX8_goesThrough_73 : dcd cX8_goesThrough 73 = some (.iload_n 2, 74) := by decide +kernel
theorem dX8_goesThrough_74 : dcd cX8_goesThrough 74 = some (.aload_n 0, 75) := by decide +kernel
theorem dX8_goesThrough_75 : dcd cX8_goesThrough 75 = some (.getfield 215, 78) := by decide +kernel
theorem dX8_goesThrough_78 : dcd cX8_goesThrough 78 = some (.if_icmp .le 24, 81) := by decide +kernel
theorem dX8_goesThrough_81 : dcd cX8_goesThrough 81 = some (.aload_n 0, 82) := by decide +kernel
theorem dX8_goesThrough_82 : dcd cX8_goesThrough 82 = some (.iload_n 2, 83) := by decide +kernel
theorem dX8_goesThrough_83 : dcd cX8_goesThrough 83 = some (.putfield 215, 86) := by decide +kernel
theorem dX8_goesThrough_86 : dcd cX8_goesThrough 86 = some (.aload_n 0, 87) := by decide +kernel
theorem dX8_goesThrough_87 : dcd cX8_goesThrough 87 = some (.aload_n 0, 88) := by decide +kernel
theorem dX8_goesThrough_88 : dcd cX8_goesThrough 88 = some (.invokevirtual 221, 91) := by decide +kernel
theorem dX8_goesThrough_91 : dcd cX8_goesThrough 91 = some (.putfield 224, 94) := by decide +kernel
theorem dX8_goesThrough_94 : dcd cX8_goesThrough 94 = some (.aload_n 0, 95) := by decide +kernel
theorem dX8_goesThrough_95 : dcd cX8_goesThrough 95 = some (.aload_n 0, 96) := by decide +kernel
theorem dX8_goesThrough_96 : dcd cX8_goesThrough 96 = some (.getfield 163, 99) := by decide +kernel
theorem dX8_goesThrough_99 : dcd cX8_goesThrough 99 = some (.putfield 227, 102) := by decide +kernel
theorem dX8_goesThrough_102 : dcd cX8_goesThrough 102 = some (.aload_n 0, 103) := by decide +kernel
theorem dX8_goesThrough_103 : dcd cX8_goesThrough 103 = some (.dup, 104) := by decide +kernel
theorem dX8_goesThrough_104 : dcd cX8_goesThrough 104 = some (.getfield 163, 107) := by decide +kernel
theorem dX8_goesThrough_107 : dcd cX8_goesThrough 107 = some (.iconst 1, 108) := by decide +kernel
theorem dX8_goesThrough_108 : dcd cX8_goesThrough 108 = some (.iadd, 109) := by decide +kernel
theorem dX8_goesThrough_109 : dcd cX8_goesThrough 109 = some (.putfield 163, 112) := by decide +kernel
theorem dX8_goesThrough_112 : dcd cX8_goesThrough 112 = some (.goto (-82), 115) := by decide +kernel
theorem dX8_goesThrough_115 : dcd cX8_goesThrough 115 = some (.aload_n 0, 116) := by decide +kernel
theorem dX8_goesThrough_116 : dcd cX8_goesThrough 116 = some (.invokevirtual 230, 119) := by decide +kernel
theorem dX8_goesThrough_119 : dcd cX8_goesThrough 119 = some (.istore_n 1, 120) := by decide +kernel
theorem dX8_goesThrough_120 : dcd cX8_goesThrough 120 = some (.goto (-99), 123) := by decide +kernel
theorem dX8_goesThrough_123 : dcd cX8_goesThrough 123 = some (.return_, 124) := by decide +kernel
theorem dX8_best_0 : dcd cX8_best 0 = some (.aload_n 0, 1) := by decide +kernel
theorem dX8_best_1 : dcd cX8_best 1 = some (.iconst 0, 2) := by decide +kernel
theorem dX8_best_2 : dcd cX8_best 2 = some (.putfield 68, 5) := by decide +kernel
theorem dX8_best_5 : dcd cX8_best 5 = some (.iload_n 1, 6) := by decide +kernel
theorem dX8_best_6 : dcd cX8_best 6 = some (.iconst 0, 7) := by decide +kernel
theorem dX8_best_7 : dcd cX8_best 7 = some (.iconst 3, 8) := by decide +kernel
theorem dX8_best_8 : dcd cX8_best 8 = some (.invokestatic 72, 11) := by decide +kernel
theorem dX8_best_11 : dcd cX8_best 11 = some (.ifCond .ne 5, 14) := by decide +kernel
theorem dX8_best_14 : dcd cX8_best 14 = some (.iconst (-1), 15) := by decide +kernel
theorem dX8_best_15 : dcd cX8_best 15 = some (.ireturn, 16) := by decide +kernel
theorem dX8_best_16 : dcd cX8_best 16 = some (.aload_n 0, 17) := by decide +kernel
theorem dX8_best_17 : dcd cX8_best 17 = some (.getfield 22, 20) := by decide +kernel
theorem dX8_best_20 : dcd cX8_best 20 = some (.iconst 0, 21) := by decide +kernel
theorem dX8_best_21 : dcd cX8_best 21 = some (.iaload, 22) := by decide +kernel
theorem dX8_best_22 : dcd cX8_best 22 = some (.iconst 1, 23) := by decide +kernel
theorem dX8_best_23 : dcd cX8_best 23 = some (.bipush 7, 25) := by decide +kernel
theorem dX8_best_25 : dcd cX8_best 25 = some (.invokestatic 72, 28) := by decide +kernel
theorem dX8_best_28 : dcd cX8_best 28 = some (.ifCond .ne 6, 31) := by decide +kernel
theorem dX8_best_31 : dcd cX8_best 31 = some (.bipush (-2), 33) := by decide +kernel
theorem dX8_best_33 : dcd cX8_best 33 = some (.ireturn, 34) := by decide +kernel
theorem dX8_best_34 : dcd cX8_best 34 = some (.aload_n 0, 35) := by decide +kernel
theorem dX8_best_35 : dcd cX8_best 35 = some (.invokevirtual 233, 38) := by decide +kernel
theorem dX8_best_38 : dcd cX8_best 38 = some (.iload_n 1, 39) := by decide +kernel
theorem dX8_best_39 : dcd cX8_best 39 = some (.iconst 3, 40) := by decide +kernel
theorem dX8_best_40 : dcd cX8_best 40 = some (.if_icmp .ne 10, 43) := by decide +kernel
theorem dX8_best_43 : dcd cX8_best 43 = some (.aload_n 0, 44) := by decide +kernel
theorem dX8_best_44 : dcd cX8_best 44 = some (.getfield 218, 47) := by decide +kernel
theorem dX8_best_47 : dcd cX8_best 47 = some (.goto 39, 50) := by decide +kernel
theorem dX8_best_50 : dcd cX8_best 50 = some (.aload_n 0, 51) := by decide +kernel
theorem dX8_best_51 : dcd cX8_best 51 = some (.getfield 215, 54) := by decide +kernel
theorem dX8_best_54 : dcd cX8_best 54 = some (.bipush (-9), 56) := by decide +kernel
theorem dX8_best_56 : dcd cX8_best 56 = some (.if_icmp .eq 7, 59) := by decide +kernel
theorem dX8_best_59 : dcd cX8_best 59 = some (.iload_n 1, 60) := by decide +kernel
theorem dX8_best_60 : dcd cX8_best 60 = some (.ifCond .ne 10, 63) := by decide +kernel
theorem dX8_best_63 : dcd cX8_best 63 = some (.aload_n 0, 64) := by decide +kernel
theorem dX8_best_64 : dcd cX8_best 64 = some (.getfield 215, 67) := by decide +kernel
theorem dX8_best_67 : dcd cX8_best 67 = some (.goto 19, 70) := by decide +kernel
theorem dX8_best_70 : dcd cX8_best 70 = some (.iload_n 1, 71) := by decide +kernel
theorem dX8_best_71 : dcd cX8_best 71 = some (.iconst 1, 72) := by decide +kernel
theorem dX8_best_72 : dcd cX8_best 72 = some (.if_icmp .ne 10, 75) := by decide +kernel
theorem dX8_best_75 : dcd cX8_best 75 = some (.aload_n 0, 76) := by decide +kernel
theorem dX8_best_76 : dcd cX8_best 76 = some (.getfield 224, 79) := by decide +kernel
theorem dX8_best_79 : dcd cX8_best 79 = some (.goto 7, 82) := by decide +kernel
theorem dX8_best_82 : dcd cX8_best 82 = some (.aload_n 0, 83) := by decide +kernel
theorem dX8_best_83 : dcd cX8_best 83 = some (.getfield 227, 86) := by decide +kernel
theorem dX8_best_86 : dcd cX8_best 86 = some (.ireturn, 87) := by decide +kernel
theorem dX8_custom_0 : dcd cX8_custom 0 = some (.aload_n 0, 1) := by decide +kernel
theorem dX8_custom_1 : dcd cX8_custom 1 = some (.iconst 0, 2) := by decide +kernel
theorem dX8_custom_2 : dcd cX8_custom 2 = some (.putfield 68, 5) := by decide +kernel
theorem dX8_custom_5 : dcd cX8_custom 5 = some (.aload_n 0, 6) := by decide +kernel
theorem dX8_custom_6 : dcd cX8_custom 6 = some (.getfield 22, 9) := by decide +kernel
theorem dX8_custom_9 : dcd cX8_custom 9 = some (.iconst 0, 10) := by decide +kernel
theorem dX8_custom_10 : dcd cX8_custom 10 = some (.iaload, 11) := by decide +kernel
theorem dX8_custom_11 : dcd cX8_custom 11 = some (.ifCond .ne 6, 14) := by decide +kernel
theorem dX8_custom_14 : dcd cX8_custom 14 = some (.bipush (-2), 16) := by decide +kernel
theorem dX8_custom_16 : dcd cX8_custom 16 = some (.ireturn, 17) := by decide +kernel
theorem dX8_custom_17 : dcd cX8_custom 17 = some (.aload_n 0, 18) := by decide +kernel
theorem dX8_custom_18 : dcd cX8_custom 18 = some (.invokevirtual 175, 21) := by decide +kernel
theorem dX8_custom_21 : dcd cX8_custom 21 = some (.aload_n 0, 22) := by decide +kernel
theorem dX8_custom_22 : dcd cX8_custom 22 = some (.invokevirtual 212, 25) := by decide +kernel
theorem dX8_custom_25 : dcd cX8_custom 25 = some (.iconst 1, 26) := by decide +kernel
theorem dX8_custom_26 : dcd cX8_custom 26 = some (.istore_n 1, 27) := by decide +kernel
theorem dX8_custom_27 : dcd cX8_custom 27 = some (.iload_n 1, 28) := by decide +kernel
theorem dX8_custom_28 : dcd cX8_custom 28 = some (.aload_n 0, 29) := by decide +kernel
theorem dX8_custom_29 : dcd cX8_custom 29 = some (.getfield 160, 32) := by decide +kernel
theorem dX8_custom_32 : dcd cX8_custom 32 = some (.if_icmp .ge 56, 35) := by decide +kernel
theorem dX8_custom_35 : dcd cX8_custom 35 = some (.iload_n 1, 36) := by decide +kernel
theorem dX8_custom_36 : dcd cX8_custom 36 = some (.istore_n 2, 37) := by decide +kernel
theorem dX8_custom_37 : dcd cX8_custom 37 = some (.iload_n 2, 38) := by decide +kernel
theorem dX8_custom_38 : dcd cX8_custom 38 = some (.ifCond .le 44, 41) := by decide +kernel
theorem dX8_custom_41 : dcd cX8_custom 41 = some (.aload_n 0, 42) := by decide +kernel
theorem dX8_custom_42 : dcd cX8_custom 42 = some (.aload_n 0, 43) := by decide +kernel
theorem dX8_custom_43 : dcd cX8_custom 43 = some (.getfield 32, 46) := by decide +kernel
theorem dX8_custom_46 : dcd cX8_custom 46 = some (.iload_n 2, 47) := by decide +kernel
theorem dX8_custom_47 : dcd cX8_custom 47 = some (.iaload, 48) := by decide +kernel
theorem dX8_custom_48 : dcd cX8_custom 48 = some (.iconst 2, 49) := by decide +kernel
theorem dX8_custom_49 : dcd cX8_custom 49 = some (.invokevirtual 151, 52) := by decide +kernel
theorem dX8_custom_52 : dcd cX8_custom 52 = some (.aload_n 0, 53) := by decide +kernel
theorem dX8_custom_53 : dcd cX8_custom 53 = some (.aload_n 0, 54) := by decide +kernel
theorem dX8_custom_54 : dcd cX8_custom 54 = some (.getfield 32, 57) := by decide +kernel
theorem dX8_custom_57 : dcd cX8_custom 57 = some (.iload_n 2, 58) := by decide +kernel
theorem dX8_custom_58 : dcd cX8_custom 58 = some (.iconst 1, 59) := by decide +kernel
theorem dX8_custom_59 : dcd cX8_custom 59 = some (.isub, 60) := by decide +kernel
theorem dX8_custom_60 : dcd cX8_custom 60 = some (.iaload, 61) := by decide +kernel
theorem dX8_custom_61 : dcd cX8_custom 61 = some (.iconst 2, 62) := by decide +kernel
theorem dX8_custom_62 : dcd cX8_custom 62 = some (.invokevirtual 151, 65) := by decide +kernel
theorem dX8_custom_65 : dcd cX8_custom 65 = some (.if_icmp .ge 17, 68) := by decide +kernel
theorem dX8_custom_68 : dcd cX8_custom 68 = some (.aload_n 0, 69) := by decide +kernel
theorem dX8_custom_69 : dcd cX8_custom 69 = some (.iload_n 2, 70) := by decide +kernel
theorem dX8_custom_70 : dcd cX8_custom 70 = some (.iload_n 2, 71) := by decide +kernel
theorem dX8_custom_71 : dcd cX8_custom 71 = some (.iconst 1, 72) := by decide +kernel
theorem dX8_custom_72 : dcd cX8_custom 72 = some (.isub, 73) := by decide +kernel
theorem dX8_custom_73 : dcd cX8_custom 73 = some (.invokevirtual 208, 76) := by decide +kernel
theorem dX8_custom_76 : dcd cX8_custom 76 = some (.iinc 2 (-1), 79) := by decide +kernel
theorem dX8_custom_79 : dcd cX8_custom 79 = some (.goto (-42), 82) := by decide +kernel
theorem dX8_custom_82 : dcd cX8_custom 82 = some (.iinc 1 1, 85) := by decide +kernel
theorem dX8_custom_85 : dcd cX8_custom 85 = some (.goto (-58), 88) := by decide +kernel
theorem dX8_custom_88 : dcd cX8_custom 88 = some (.aload_n 0, 89) := by decide +kernel
theorem dX8_custom_89 : dcd cX8_custom 89 = some (.getfield 160, 92) := by decide +kernel
theorem dX8_custom_92 : dcd cX8_custom 92 = some (.iconst 1, 93) := by decide +kernel
theorem dX8_custom_93 : dcd cX8_custom 93 = some (.if_icmp .le 19, 96) := by decide +kernel
theorem dX8_custom_96 : dcd cX8_custom 96 = some (.aload_n 0, 97) := by decide +kernel
theorem dX8_custom_97 : dcd cX8_custom 97 = some (.aload_n 0, 98) := by decide +kernel
theorem dX8_custom_98 : dcd cX8_custom 98 = some (.getfield 160, 101) := by decide +kernel
theorem dX8_custom_101 : dcd cX8_custom 101 = some (.iconst 1, 102) := by decide +kernel
theorem dX8_custom_102 : dcd cX8_custom 102 = some (.isub, 103) := by decide +kernel
theorem dX8_custom_103 : dcd cX8_custom 103 = some (.aload_n 0, 104) := by decide +kernel
theorem dX8_custom_104 : dcd cX8_custom 104 = some (.getfield 160, 107) := by decide +kernel
theorem dX8_custom_107 : dcd cX8_custom 107 = some (.iconst 2, 108) := by decide +kernel
theorem dX8_custom_108 : dcd cX8_custom 108 = some (.isub, 109) := by decide +kernel
theorem dX8_custom_109 : dcd cX8_custom 109 = some (.invokevirtual 208, 112) := by decide +kernel
theorem dX8_custom_112 : dcd cX8_custom 112 = some (.aload_n 0, 113) := by decide +kernel
theorem dX8_custom_113 : dcd cX8_custom 113 = some (.invokevirtual 178, 116) := by decide +kernel
theorem dX8_custom_116 : dcd cX8_custom 116 = some (.aload_n 0, 117) := by decide +kernel
theorem dX8_custom_117 : dcd cX8_custom 117 = some (.iconst 0, 118) := by decide +kernel
theorem dX8_custom_118 : dcd cX8_custom 118 = some (.invokevirtual 205, 121) := by decide +kernel
theorem dX8_custom_121 : dcd cX8_custom 121 = some (.ireturn, 122) := by decide +kernel
theorem dX8_when_0 : dcd cX8_when 0 = some (.aload_n 0, 1) := by decide +kernel
theorem dX8_when_1 : dcd cX8_when 1 = some (.iconst 0, 2) := by decide +kernel
theorem dX8_when_2 : dcd cX8_when 2 = some (.putfield 68, 5) := by decide +kernel
theorem dX8_when_5 : dcd cX8_when 5 = some (.aload_n 0, 6) := by decide +kernel
theorem dX8_when_6 : dcd cX8_when 6 = some (.getfield 22, 9) := by decide +kernel
theorem dX8_when_9 : dcd cX8_when 9 = some (.iconst 0, 10) := by decide +kernel
theorem dX8_when_10 : dcd cX8_when 10 = some (.iaload, 11) := by decide +kernel
theorem dX8_when_11 : dcd cX8_when 11 = some (.ifCond .ne 6, 14) := by decide +kernel
theorem dX8_when_14 : dcd cX8_when 14 = some (.bipush (-2), 16) := by decide +kernel
theorem dX8_when_16 : dcd cX8_when 16 = some (.ireturn, 17) := by decide +kernel
theorem dX8_when_17 : dcd cX8_when 17 = some (.aload_n 0, 18) := by decide +kernel
theorem dX8_when_18 : dcd cX8_when 18 = some (.invokevirtual 175, 21) := by decide +kernel
theorem dX8_when_21 : dcd cX8_when 21 = some (.bipush (-9), 23) := by decide +kernel
theorem dX8_when_23 : dcd cX8_when 23 = some (.istore_n 1, 24) := by decide +kernel
theorem dX8_when_24 : dcd cX8_when 24 = some (.bipush (-9), 26) := by decide +kernel
theorem dX8_when_26 : dcd cX8_when 26 = some (.istore_n 2, 27) := by decide +kernel
theorem dX8_when_27 : dcd cX8_when 27 = some (.aload_n 0, 28) := by decide +kernel
theorem dX8_when_28 : dcd cX8_when 28 = some (.iconst 0, 29) := by decide +kernel
theorem dX8_when_29 : dcd cX8_when 29 = some (.putfield 163, 32) := by decide +kernel
theorem dX8_when_32 : dcd cX8_when 32 = some (.aload_n 0, 33) := by decide +kernel
theorem dX8_when_33 : dcd cX8_when 33 = some (.getfield 163, 36) := by decide +kernel
theorem dX8_when_36 : dcd cX8_when 36 = some (.aload_n 0, 37) := by decide +kernel
theorem dX8_when_37 : dcd cX8_when 37 = some (.getfield 160, 40) := by decide +kernel
theorem dX8_when_40 : dcd cX8_when 40 = some (.if_icmp .ge 59, 43) := by decide +kernel
theorem dX8_when_43 : dcd cX8_when 43 = some (.aload_n 0, 44) := by decide +kernel
theorem dX8_when_44 : dcd cX8_when 44 = some (.invokevirtual 187, 47) := by decide +kernel
theorem dX8_when_47 : dcd cX8_when 47 = some (.ifCond .eq 11, 50) := by decide +kernel
theorem dX8_when_50 : dcd cX8_when 50 = some (.aload_n 0, 51) := by decide +kernel
theorem dX8_when_51 : dcd cX8_when 51 = some (.iconst 0, 52) := by decide +kernel
theorem dX8_when_52 : dcd cX8_when 52 = some (.invokevirtual 205, 55) := by decide +kernel
theorem dX8_when_55 : dcd cX8_when 55 = some (.goto 5, 58) := by decide +kernel
theorem dX8_when_58 : dcd cX8_when 58 = some (.bipush (-9), 60) := by decide +kernel
theorem dX8_when_60 : dcd cX8_when 60 = some (.istore_n 3, 61) := by decide +kernel
theorem dX8_when_61 : dcd cX8_when 61 = some (.iload_n 3, 62) := by decide +kernel
theorem dX8_when_62 : dcd cX8_when 62 = some (.iload_n 2, 63) := by decide +kernel
theorem dX8_when_63 : dcd cX8_when 63 = some (.if_icmp .le 10, 66) := by decide +kernel
theorem dX8_when_66 : dcd cX8_when 66 = some (.aload_n 0, 67) := by decide +kernel
theorem dX8_when_67 : dcd cX8_when 67 = some (.getfield 163, 70) := by decide +kernel
theorem dX8_when_70 : dcd cX8_when 70 = some (.goto 4, 73) := by decide +kernel
theorem dX8_when_73 : dcd cX8_when 73 = some (.iload_n 1, 74) := by decide +kernel
theorem dX8_when_74 : dcd cX8_when 74 = some (.istore_n 1, 75) := by decide +kernel
theorem dX8_when_75 : dcd cX8_when 75 = some (.iload_n 3, 76) := by decide +kernel
theorem dX8_when_76 : dcd cX8_when 76 = some (.iload_n 2, 77) := by decide +kernel
theorem dX8_when_77 : dcd cX8_when 77 = some (.if_icmp .le 7, 80) := by decide +kernel
theorem dX8_when_80 : dcd cX8_when 80 = some (.iload_n 3, 81) := by decide +kernel
theorem dX8_when_81 : dcd cX8_when 81 = some (.goto 4, 84) := by decide +kernel
theorem dX8_when_84 : dcd cX8_when 84 = some (.iload_n 2, 85) := by decide +kernel
theorem dX8_when_85 : dcd cX8_when 85 = some (.istore_n 2, 86) := by decide +kernel
theorem dX8_when_86 : dcd cX8_when 86 = some (.aload_n 0, 87) := by decide +kernel
theorem dX8_when_87 : dcd cX8_when 87 = some (.dup, 88) := by decide +kernel
theorem dX8_when_88 : dcd cX8_when 88 = some (.getfield 163, 91) := by decide +kernel
theorem dX8_when_91 : dcd cX8_when 91 = some (.iconst 1, 92) := by decide +kernel
theorem dX8_when_92 : dcd cX8_when 92 = some (.iadd, 93) := by decide +kernel
theorem dX8_when_93 : dcd cX8_when 93 = some (.putfield 163, 96) := by decide +kernel
theorem dX8_when_96 : dcd cX8_when 96 = some (.goto (-64), 99) := by decide +kernel
theorem dX8_when_99 : dcd cX8_when 99 = some (.iload_n 1, 100) := by decide +kernel
theorem dX8_when_100 : dcd cX8_when 100 = some (.ireturn, 101) := by decide +kernel
theorem dX8_movedOf_0 : dcd cX8_movedOf 0 = some (.iconst 0, 1) := by decide +kernel
theorem dX8_movedOf_1 : dcd cX8_movedOf 1 = some (.istore_n 1, 2) := by decide +kernel
theorem dX8_movedOf_2 : dcd cX8_movedOf 2 = some (.iconst 0, 3) := by decide +kernel
theorem dX8_movedOf_3 : dcd cX8_movedOf 3 = some (.istore_n 2, 4) := by decide +kernel
theorem dX8_movedOf_4 : dcd cX8_movedOf 4 = some (.iload_n 2, 5) := by decide +kernel
theorem dX8_movedOf_5 : dcd cX8_movedOf 5 = some (.aload_n 0, 6) := by decide +kernel
theorem dX8_movedOf_6 : dcd cX8_movedOf 6 = some (.getfield 160, 9) := by decide +kernel
theorem dX8_movedOf_9 : dcd cX8_movedOf 9 = some (.if_icmp .ge 32, 12) := by decide +kernel
theorem dX8_movedOf_12 : dcd cX8_movedOf 12 = some (.iload_n 1, 13) := by decide +kernel
theorem dX8_movedOf_13 : dcd cX8_movedOf 13 = some (.aload_n 0, 14) := by decide +kernel
theorem dX8_movedOf_14 : dcd cX8_movedOf 14 = some (.getfield 32, 17) := by decide +kernel
theorem dX8_movedOf_17 : dcd cX8_movedOf 17 = some (.iload_n 2, 18) := by decide +kernel
theorem dX8_movedOf_18 : dcd cX8_movedOf 18 = some (.iaload, 19) := by decide +kernel
theorem dX8_movedOf_19 : dcd cX8_movedOf 19 = some (.aload_n 0, 20) := by decide +kernel
theorem dX8_movedOf_20 : dcd cX8_movedOf 20 = some (.getfield 62, 23) := by decide +kernel
theorem dX8_movedOf_23 : dcd cX8_movedOf 23 = some (.iload_n 2, 24) := by decide +kernel
theorem dX8_movedOf_24 : dcd cX8_movedOf 24 = some (.iaload, 25) := by decide +kernel
theorem dX8_movedOf_25 : dcd cX8_movedOf 25 = some (.if_icmp .ne 7, 28) := by decide +kernel
theorem dX8_movedOf_28 : dcd cX8_movedOf 28 = some (.iconst 0, 29) := by decide +kernel
theorem dX8_movedOf_29 : dcd cX8_movedOf 29 = some (.goto 4, 32) := by decide +kernel
theorem dX8_movedOf_32 : dcd cX8_movedOf 32 = some (.iconst 1, 33) := by decide +kernel
theorem dX8_movedOf_33 : dcd cX8_movedOf 33 = some (.iadd, 34) := by decide +kernel
theorem dX8_movedOf_34 : dcd cX8_movedOf 34 = some (.istore_n 1, 35) := by decide +kernel
theorem dX8_movedOf_35 : dcd cX8_movedOf 35 = some (.iinc 2 1, 38) := by decide +kernel
theorem dX8_movedOf_38 : dcd cX8_movedOf 38 = some (.goto (-34), 41) := by decide +kernel
theorem dX8_movedOf_41 : dcd cX8_movedOf 41 = some (.iload_n 1, 42) := by decide +kernel
theorem dX8_movedOf_42 : dcd cX8_movedOf 42 = some (.ireturn, 43) := by decide +kernel
theorem dX8_ill_0 : dcd cX8_ill 0 = some (.aload_n 0, 1) := by decide +kernel
theorem dX8_ill_1 : dcd cX8_ill 1 = some (.iconst 0, 2) := by decide +kernel
theorem dX8_ill_2 : dcd cX8_ill 2 = some (.putfield 68, 5) := by decide +kernel
theorem dX8_ill_5 : dcd cX8_ill 5 = some (.aload_n 0, 6) := by decide +kernel
theorem dX8_ill_6 : dcd cX8_ill 6 = some (.iload_n 1, 7) := by decide +kernel
theorem dX8_ill_7 : dcd cX8_ill 7 = some (.invokevirtual 148, 10) := by decide +kernel
theorem dX8_ill_10 : dcd cX8_ill 10 = some (.ifCond .eq 11, 13) := by decide +kernel
theorem dX8_ill_13 : dcd cX8_ill 13 = some (.aload_n 0, 14) := by decide +kernel
theorem dX8_ill_14 : dcd cX8_ill 14 = some (.iload_n 1, 15) := by decide +kernel
theorem dX8_ill_15 : dcd cX8_ill 15 = some (.invokevirtual 154, 18) := by decide +kernel
theorem dX8_ill_18 : dcd cX8_ill 18 = some (.goto 5, 21) := by decide +kernel
theorem dX8_ill_21 : dcd cX8_ill 21 = some (.bipush (-9), 23) := by decide +kernel
theorem dX8_ill_23 : dcd cX8_ill 23 = some (.istore_n 3, 24) := by decide +kernel
theorem dX8_ill_24 : dcd cX8_ill 24 = some (.iload_n 3, 25) := by decide +kernel
theorem dX8_ill_25 : dcd cX8_ill 25 = some (.bipush (-9), 27) := by decide +kernel
theorem dX8_ill_27 : dcd cX8_ill 27 = some (.if_icmp .eq 12, 30) := by decide +kernel
theorem dX8_ill_30 : dcd cX8_ill 30 = some (.iload_n 2, 31) := by decide +kernel
theorem dX8_ill_31 : dcd cX8_ill 31 = some (.iconst 0, 32) := by decide +kernel
theorem dX8_ill_32 : dcd cX8_ill 32 = some (.iconst 2, 33) := by decide +kernel
theorem dX8_ill_33 : dcd cX8_ill 33 = some (.invokestatic 72, 36) := by decide +kernel
theorem dX8_ill_36 : dcd cX8_ill 36 = some (.ifCond .ne 5, 39) := by decide +kernel
theorem dX8_ill_39 : dcd cX8_ill 39 = some (.iconst (-1), 40) := by decide +kernel
theorem dX8_ill_40 : dcd cX8_ill 40 = some (.ireturn, 41) := by decide +kernel
theorem dX8_ill_41 : dcd cX8_ill 41 = some (.aload_n 0, 42) := by decide +kernel
theorem dX8_ill_42 : dcd cX8_ill 42 = some (.getfield 22, 45) := by decide +kernel
theorem dX8_ill_45 : dcd cX8_ill 45 = some (.iconst 0, 46) := by decide +kernel
theorem dX8_ill_46 : dcd cX8_ill 46 = some (.iaload, 47) := by decide +kernel
theorem dX8_ill_47 : dcd cX8_ill 47 = some (.iconst 2, 48) := by decide +kernel
theorem dX8_ill_48 : dcd cX8_ill 48 = some (.bipush 7, 50) := by decide +kernel
theorem dX8_ill_50 : dcd cX8_ill 50 = some (.invokestatic 72, 53) := by decide +kernel
theorem dX8_ill_53 : dcd cX8_ill 53 = some (.ifCond .ne 6, 56) := by decide +kernel
theorem dX8_ill_56 : dcd cX8_ill 56 = some (.bipush (-2), 58) := by decide +kernel
theorem dX8_ill_58 : dcd cX8_ill 58 = some (.ireturn, 59) := by decide +kernel
theorem dX8_ill_59 : dcd cX8_ill 59 = some (.aload_n 0, 60) := by decide +kernel
theorem dX8_ill_60 : dcd cX8_ill 60 = some (.invokevirtual 175, 63) := by decide +kernel
theorem dX8_ill_63 : dcd cX8_ill 63 = some (.aload_n 0, 64) := by decide +kernel
theorem dX8_ill_64 : dcd cX8_ill 64 = some (.dup, 65) := by decide +kernel
theorem dX8_ill_65 : dcd cX8_ill 65 = some (.getfield 160, 68) := by decide +kernel
theorem dX8_ill_68 : dcd cX8_ill 68 = some (.iconst 1, 69) := by decide +kernel
theorem dX8_ill_69 : dcd cX8_ill 69 = some (.isub, 70) := by decide +kernel
theorem dX8_ill_70 : dcd cX8_ill 70 = some (.putfield 160, 73) := by decide +kernel
theorem dX8_ill_73 : dcd cX8_ill 73 = some (.iconst 0, 74) := by decide +kernel
theorem dX8_ill_74 : dcd cX8_ill 74 = some (.istore 4, 76) := by decide +kernel
theorem dX8_ill_76 : dcd cX8_ill 76 = some (.iload 4, 78) := by decide +kernel
theorem dX8_ill_78 : dcd cX8_ill 78 = some (.aload_n 0, 79) := by decide +kernel
theorem dX8_ill_79 : dcd cX8_ill 79 = some (.getfield 160, 82) := by decide +kernel
theorem dX8_ill_82 : dcd cX8_ill 82 = some (.if_icmp .ge 52, 85) := by decide +kernel
theorem dX8_ill_85 : dcd cX8_ill 85 = some (.aload_n 0, 86) := by decide +kernel
theorem dX8_ill_86 : dcd cX8_ill 86 = some (.getfield 32, 89) := by decide +kernel
theorem dX8_ill_89 : dcd cX8_ill 89 = some (.iload 4, 91) := by decide +kernel
theorem dX8_ill_91 : dcd cX8_ill 91 = some (.aload_n 0, 92) := by decide +kernel
theorem dX8_ill_92 : dcd cX8_ill 92 = some (.getfield 22, 95) := by decide +kernel
theorem dX8_ill_95 : dcd cX8_ill 95 = some (.iconst 3, 96) := by decide +kernel
theorem dX8_ill_96 : dcd cX8_ill 96 = some (.iload 4, 98) := by decide +kernel
theorem dX8_ill_98 : dcd cX8_ill 98 = some (.iload_n 3, 99) := by decide +kernel
theorem dX8_ill_99 : dcd cX8_ill 99 = some (.if_icmp .ge 8, 102) := by decide +kernel
theorem dX8_ill_102 : dcd cX8_ill 102 = some (.iload 4, 104) := by decide +kernel
theorem dX8_ill_104 : dcd cX8_ill 104 = some (.goto 7, 107) := by decide +kernel
theorem dX8_ill_107 : dcd cX8_ill 107 = some (.iload 4, 109) := by decide +kernel
theorem dX8_ill_109 : dcd cX8_ill 109 = some (.iconst 1, 110) := by decide +kernel
theorem dX8_ill_110 : dcd cX8_ill 110 = some (.iadd, 111) := by decide +kernel
theorem dX8_ill_111 : dcd cX8_ill 111 = some (.iadd, 112) := by decide +kernel
theorem dX8_ill_112 : dcd cX8_ill 112 = some (.iaload, 113) := by decide +kernel
theorem dX8_ill_113 : dcd cX8_ill 113 = some (.iastore, 114) := by decide +kernel
theorem dX8_ill_114 : dcd cX8_ill 114 = some (.aload_n 0, 115) := by decide +kernel
theorem dX8_ill_115 : dcd cX8_ill 115 = some (.getfield 62, 118) := by decide +kernel
theorem dX8_ill_118 : dcd cX8_ill 118 = some (.iload 4, 120) := by decide +kernel
theorem dX8_ill_120 : dcd cX8_ill 120 = some (.aload_n 0, 121) := by decide +kernel
theorem dX8_ill_121 : dcd cX8_ill 121 = some (.getfield 32, 124) := by decide +kernel
theorem dX8_ill_124 : dcd cX8_ill 124 = some (.iload 4, 126) := by decide +kernel
theorem dX8_ill_126 : dcd cX8_ill 126 = some (.iaload, 127) := by decide +kernel
theorem dX8_ill_127 : dcd cX8_ill 127 = some (.iastore, 128) := by decide +kernel
theorem dX8_ill_128 : dcd cX8_ill 128 = some (.iinc 4 1, 131) := by decide +kernel
theorem dX8_ill_131 : dcd cX8_ill 131 = some (.goto (-55), 134) := by decide +kernel
theorem dX8_ill_134 : dcd cX8_ill 134 = some (.aload_n 0, 135) := by decide +kernel
theorem dX8_ill_135 : dcd cX8_ill 135 = some (.dup, 136) := by decide +kernel
theorem dX8_ill_136 : dcd cX8_ill 136 = some (.getfield 163, 139) := by decide +kernel
