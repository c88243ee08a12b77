theorem dX8_ill_139 : dcd cX8_ill 139 = some (.iload_n 3, 140) := by decide +kernel
theorem dX8_ill_140 : dcd cX8_ill 140 = some (.aload_n 0, 141) := by decide +kernel
theorem dX8_ill_141 : dcd cX8_ill 141 = some (.getfield 163, 144) := by decide +kernel
theorem dX8_ill_144 : dcd cX8_ill 144 = some (.if_icmp .ge 7, 147) := by decide +kernel
theorem dX8_ill_147 : dcd cX8_ill 147 = some (.iconst 1, 148) := by decide +kernel
theorem dX8_ill_148 : dcd cX8_ill 148 = some (.goto 4, 151) := by decide +kernel
theorem dX8_ill_151 : dcd cX8_ill 151 = some (.iconst 0, 152) := by decide +kernel
theorem dX8_ill_152 : dcd cX8_ill 152 = some (.isub, 153) := by decide +kernel
theorem dX8_ill_153 : dcd cX8_ill 153 = some (.putfield 163, 156) := by decide +kernel
theorem dX8_ill_156 : dcd cX8_ill 156 = some (.aload_n 0, 157) := by decide +kernel
theorem dX8_ill_157 : dcd cX8_ill 157 = some (.aload_n 0, 158) := by decide +kernel
theorem dX8_ill_158 : dcd cX8_ill 158 = some (.getfield 163, 161) := by decide +kernel
theorem dX8_ill_161 : dcd cX8_ill 161 = some (.aload_n 0, 162) := by decide +kernel
theorem dX8_ill_162 : dcd cX8_ill 162 = some (.getfield 160, 165) := by decide +kernel
theorem dX8_ill_165 : dcd cX8_ill 165 = some (.if_icmp .lt 7, 168) := by decide +kernel
theorem dX8_ill_168 : dcd cX8_ill 168 = some (.iconst 0, 169) := by decide +kernel
theorem dX8_ill_169 : dcd cX8_ill 169 = some (.goto 7, 172) := by decide +kernel
theorem dX8_ill_172 : dcd cX8_ill 172 = some (.aload_n 0, 173) := by decide +kernel
theorem dX8_ill_173 : dcd cX8_ill 173 = some (.getfield 163, 176) := by decide +kernel
theorem dX8_ill_176 : dcd cX8_ill 176 = some (.putfield 163, 179) := by decide +kernel
theorem dX8_ill_179 : dcd cX8_ill 179 = some (.aload_n 0, 180) := by decide +kernel
theorem dX8_ill_180 : dcd cX8_ill 180 = some (.invokevirtual 212, 183) := by decide +kernel
theorem dX8_ill_183 : dcd cX8_ill 183 = some (.aload_n 0, 184) := by decide +kernel
theorem dX8_ill_184 : dcd cX8_ill 184 = some (.bipush (-9), 186) := by decide +kernel
theorem dX8_ill_186 : dcd cX8_ill 186 = some (.putfield 236, 189) := by decide +kernel
theorem dX8_ill_189 : dcd cX8_ill 189 = some (.iconst 1, 190) := by decide +kernel
theorem dX8_ill_190 : dcd cX8_ill 190 = some (.istore 4, 192) := by decide +kernel
theorem dX8_ill_192 : dcd cX8_ill 192 = some (.iload 4, 194) := by decide +kernel
theorem dX8_ill_194 : dcd cX8_ill 194 = some (.ifCond .eq 88, 197) := by decide +kernel
theorem dX8_ill_197 : dcd cX8_ill 197 = some (.aload_n 0, 198) := by decide +kernel
theorem dX8_ill_198 : dcd cX8_ill 198 = some (.invokevirtual 187, 201) := by decide +kernel
theorem dX8_ill_201 : dcd cX8_ill 201 = some (.ifCond .eq 72, 204) := by decide +kernel
theorem dX8_ill_204 : dcd cX8_ill 204 = some (.aload_n 0, 205) := by decide +kernel
theorem dX8_ill_205 : dcd cX8_ill 205 = some (.invokevirtual 239, 208) := by decide +kernel
theorem dX8_ill_208 : dcd cX8_ill 208 = some (.istore 5, 210) := by decide +kernel
theorem dX8_ill_210 : dcd cX8_ill 210 = some (.aload_n 0, 211) := by decide +kernel
theorem dX8_ill_211 : dcd cX8_ill 211 = some (.iconst 0, 212) := by decide +kernel
theorem dX8_ill_212 : dcd cX8_ill 212 = some (.invokevirtual 205, 215) := by decide +kernel
theorem dX8_ill_215 : dcd cX8_ill 215 = some (.istore 6, 217) := by decide +kernel
theorem dX8_ill_217 : dcd cX8_ill 217 = some (.aload_n 0, 218) := by decide +kernel
theorem dX8_ill_218 : dcd cX8_ill 218 = some (.getfield 236, 221) := by decide +kernel
theorem dX8_ill_221 : dcd cX8_ill 221 = some (.bipush (-9), 223) := by decide +kernel
theorem dX8_ill_223 : dcd cX8_ill 223 = some (.if_icmp .eq 30, 226) := by decide +kernel
theorem dX8_ill_226 : dcd cX8_ill 226 = some (.iload 5, 228) := by decide +kernel
theorem dX8_ill_228 : dcd cX8_ill 228 = some (.aload_n 0, 229) := by decide +kernel
theorem dX8_ill_229 : dcd cX8_ill 229 = some (.getfield 236, 232) := by decide +kernel
theorem dX8_ill_232 : dcd cX8_ill 232 = some (.if_icmp .lt 21, 235) := by decide +kernel
theorem dX8_ill_235 : dcd cX8_ill 235 = some (.iload 5, 237) := by decide +kernel
theorem dX8_ill_237 : dcd cX8_ill 237 = some (.aload_n 0, 238) := by decide +kernel
theorem dX8_ill_238 : dcd cX8_ill 238 = some (.getfield 236, 241) := by decide +kernel
theorem dX8_ill_241 : dcd cX8_ill 241 = some (.if_icmp .ne 32, 244) := by decide +kernel
theorem dX8_ill_244 : dcd cX8_ill 244 = some (.iload 6, 246) := by decide +kernel
theorem dX8_ill_246 : dcd cX8_ill 246 = some (.aload_n 0, 247) := by decide +kernel
theorem dX8_ill_247 : dcd cX8_ill 247 = some (.getfield 215, 250) := by decide +kernel
theorem dX8_ill_250 : dcd cX8_ill 250 = some (.if_icmp .le 23, 253) := by decide +kernel
theorem dX8_ill_253 : dcd cX8_ill 253 = some (.aload_n 0, 254) := by decide +kernel
theorem dX8_ill_254 : dcd cX8_ill 254 = some (.iload 5, 256) := by decide +kernel
theorem dX8_ill_256 : dcd cX8_ill 256 = some (.putfield 236, 259) := by decide +kernel
theorem dX8_ill_259 : dcd cX8_ill 259 = some (.aload_n 0, 260) := by decide +kernel
theorem dX8_ill_260 : dcd cX8_ill 260 = some (.iload 6, 262) := by decide +kernel
theorem dX8_ill_262 : dcd cX8_ill 262 = some (.putfield 215, 265) := by decide +kernel
theorem dX8_ill_265 : dcd cX8_ill 265 = some (.aload_n 0, 266) := by decide +kernel
theorem dX8_ill_266 : dcd cX8_ill 266 = some (.aload_n 0, 267) := by decide +kernel
theorem dX8_ill_267 : dcd cX8_ill 267 = some (.invokevirtual 221, 270) := by decide +kernel
theorem dX8_ill_270 : dcd cX8_ill 270 = some (.putfield 224, 273) := by decide +kernel
theorem dX8_ill_273 : dcd cX8_ill 273 = some (.aload_n 0, 274) := by decide +kernel
theorem dX8_ill_274 : dcd cX8_ill 274 = some (.invokevirtual 230, 277) := by decide +kernel
theorem dX8_ill_277 : dcd cX8_ill 277 = some (.istore 4, 279) := by decide +kernel
theorem dX8_ill_279 : dcd cX8_ill 279 = some (.goto (-87), 282) := by decide +kernel
theorem dX8_ill_282 : dcd cX8_ill 282 = some (.aload_n 0, 283) := by decide +kernel
theorem dX8_ill_283 : dcd cX8_ill 283 = some (.getfield 236, 286) := by decide +kernel
theorem dX8_ill_286 : dcd cX8_ill 286 = some (.bipush (-9), 288) := by decide +kernel
theorem dX8_ill_288 : dcd cX8_ill 288 = some (.if_icmp .eq 7, 291) := by decide +kernel
theorem dX8_ill_291 : dcd cX8_ill 291 = some (.iload_n 2, 292) := by decide +kernel
theorem dX8_ill_292 : dcd cX8_ill 292 = some (.ifCond .ne 10, 295) := by decide +kernel
theorem dX8_ill_295 : dcd cX8_ill 295 = some (.aload_n 0, 296) := by decide +kernel
theorem dX8_ill_296 : dcd cX8_ill 296 = some (.getfield 236, 299) := by decide +kernel
theorem dX8_ill_299 : dcd cX8_ill 299 = some (.goto 19, 302) := by decide +kernel
theorem dX8_ill_302 : dcd cX8_ill 302 = some (.iload_n 2, 303) := by decide +kernel
theorem dX8_ill_303 : dcd cX8_ill 303 = some (.iconst 1, 304) := by decide +kernel
theorem dX8_ill_304 : dcd cX8_ill 304 = some (.if_icmp .ne 10, 307) := by decide +kernel
theorem dX8_ill_307 : dcd cX8_ill 307 = some (.aload_n 0, 308) := by decide +kernel
theorem dX8_ill_308 : dcd cX8_ill 308 = some (.getfield 224, 311) := by decide +kernel
theorem dX8_ill_311 : dcd cX8_ill 311 = some (.goto 7, 314) := by decide +kernel
theorem dX8_ill_314 : dcd cX8_ill 314 = some (.aload_n 0, 315) := by decide +kernel
theorem dX8_ill_315 : dcd cX8_ill 315 = some (.getfield 215, 318) := by decide +kernel
theorem dX8_ill_318 : dcd cX8_ill 318 = some (.ireturn, 319) := by decide +kernel
theorem dX8_halves_0 : dcd cX8_halves 0 = some (.aload_n 0, 1) := by decide +kernel
theorem dX8_halves_1 : dcd cX8_halves 1 = some (.iconst 0, 2) := by decide +kernel
theorem dX8_halves_2 : dcd cX8_halves 2 = some (.putfield 68, 5) := by decide +kernel
theorem dX8_halves_5 : dcd cX8_halves 5 = some (.iload_n 1, 6) := by decide +kernel
theorem dX8_halves_6 : dcd cX8_halves 6 = some (.iconst 0, 7) := by decide +kernel
theorem dX8_halves_7 : dcd cX8_halves 7 = some (.iconst 1, 8) := by decide +kernel
theorem dX8_halves_8 : dcd cX8_halves 8 = some (.invokestatic 72, 11) := by decide +kernel
theorem dX8_halves_11 : dcd cX8_halves 11 = some (.ifCond .ne 5, 14) := by decide +kernel
theorem dX8_halves_14 : dcd cX8_halves 14 = some (.iconst (-1), 15) := by decide +kernel
theorem dX8_halves_15 : dcd cX8_halves 15 = some (.ireturn, 16) := by decide +kernel
theorem dX8_halves_16 : dcd cX8_halves 16 = some (.aload_n 0, 17) := by decide +kernel
theorem dX8_halves_17 : dcd cX8_halves 17 = some (.getfield 22, 20) := by decide +kernel
theorem dX8_halves_20 : dcd cX8_halves 20 = some (.iconst 0, 21) := by decide +kernel
theorem dX8_halves_21 : dcd cX8_halves 21 = some (.iaload, 22) := by decide +kernel
theorem dX8_halves_22 : dcd cX8_halves 22 = some (.iconst 2, 23) := by decide +kernel
theorem dX8_halves_23 : dcd cX8_halves 23 = some (.if_icmp .ge 6, 26) := by decide +kernel
theorem dX8_halves_26 : dcd cX8_halves 26 = some (.bipush (-2), 28) := by decide +kernel
theorem dX8_halves_28 : dcd cX8_halves 28 = some (.ireturn, 29) := by decide +kernel
theorem dX8_halves_29 : dcd cX8_halves 29 = some (.iconst 0, 30) := by decide +kernel
theorem dX8_halves_30 : dcd cX8_halves 30 = some (.istore_n 2, 31) := by decide +kernel
theorem dX8_halves_31 : dcd cX8_halves 31 = some (.iconst 0, 32) := by decide +kernel
theorem dX8_halves_32 : dcd cX8_halves 32 = some (.istore_n 3, 33) := by decide +kernel
theorem dX8_halves_33 : dcd cX8_halves 33 = some (.iconst 0, 34) := by decide +kernel
theorem dX8_halves_34 : dcd cX8_halves 34 = some (.istore 4, 36) := by decide +kernel
theorem dX8_halves_36 : dcd cX8_halves 36 = some (.iload 4, 38) := by decide +kernel
theorem dX8_halves_38 : dcd cX8_halves 38 = some (.aload_n 0, 39) := by decide +kernel
theorem dX8_halves_39 : dcd cX8_halves 39 = some (.getfield 22, 42) := by decide +kernel
theorem dX8_halves_42 : dcd cX8_halves 42 = some (.iconst 0, 43) := by decide +kernel
theorem dX8_halves_43 : dcd cX8_halves 43 = some (.iaload, 44) := by decide +kernel
theorem dX8_halves_44 : dcd cX8_halves 44 = some (.if_icmp .ge 40, 47) := by decide +kernel
theorem dX8_halves_47 : dcd cX8_halves 47 = some (.iload_n 2, 48) := by decide +kernel
theorem dX8_halves_48 : dcd cX8_halves 48 = some (.iconst 1, 49) := by decide +kernel
theorem dX8_halves_49 : dcd cX8_halves 49 = some (.aload_n 0, 50) := by decide +kernel
theorem dX8_halves_50 : dcd cX8_halves 50 = some (.getfield 22, 53) := by decide +kernel
theorem dX8_halves_53 : dcd cX8_halves 53 = some (.iconst 3, 54) := by decide +kernel
theorem dX8_halves_54 : dcd cX8_halves 54 = some (.iload 4, 56) := by decide +kernel
theorem dX8_halves_56 : dcd cX8_halves 56 = some (.iadd, 57) := by decide +kernel
theorem dX8_halves_57 : dcd cX8_halves 57 = some (.iaload, 58) := by decide +kernel
theorem dX8_halves_58 : dcd cX8_halves 58 = some (.ishl, 59) := by decide +kernel
theorem dX8_halves_59 : dcd cX8_halves 59 = some (.ior, 60) := by decide +kernel
theorem dX8_halves_60 : dcd cX8_halves 60 = some (.istore_n 2, 61) := by decide +kernel
theorem dX8_halves_61 : dcd cX8_halves 61 = some (.iload_n 3, 62) := by decide +kernel
theorem dX8_halves_62 : dcd cX8_halves 62 = some (.aload_n 0, 63) := by decide +kernel
theorem dX8_halves_63 : dcd cX8_halves 63 = some (.aload_n 0, 64) := by decide +kernel
theorem dX8_halves_64 : dcd cX8_halves 64 = some (.getfield 22, 67) := by decide +kernel
theorem dX8_halves_67 : dcd cX8_halves 67 = some (.iconst 3, 68) := by decide +kernel
theorem dX8_halves_68 : dcd cX8_halves 68 = some (.iload 4, 70) := by decide +kernel
theorem dX8_halves_70 : dcd cX8_halves 70 = some (.iadd, 71) := by decide +kernel
theorem dX8_halves_71 : dcd cX8_halves 71 = some (.iaload, 72) := by decide +kernel
theorem dX8_halves_72 : dcd cX8_halves 72 = some (.iconst 2, 73) := by decide +kernel
theorem dX8_halves_73 : dcd cX8_halves 73 = some (.invokevirtual 151, 76) := by decide +kernel
theorem dX8_halves_76 : dcd cX8_halves 76 = some (.iadd, 77) := by decide +kernel
theorem dX8_halves_77 : dcd cX8_halves 77 = some (.istore_n 3, 78) := by decide +kernel
theorem dX8_halves_78 : dcd cX8_halves 78 = some (.iinc 4 1, 81) := by decide +kernel
theorem dX8_halves_81 : dcd cX8_halves 81 = some (.goto (-45), 84) := by decide +kernel
theorem dX8_halves_84 : dcd cX8_halves 84 = some (.bipush (-9), 86) := by decide +kernel
theorem dX8_halves_86 : dcd cX8_halves 86 = some (.istore 4, 88) := by decide +kernel
theorem dX8_halves_88 : dcd cX8_halves 88 = some (.bipush (-9), 90) := by decide +kernel
theorem dX8_halves_90 : dcd cX8_halves 90 = some (.istore 5, 92) := by decide +kernel
theorem dX8_halves_92 : dcd cX8_halves 92 = some (.iconst 1, 93) := by decide +kernel
theorem dX8_halves_93 : dcd cX8_halves 93 = some (.istore 6, 95) := by decide +kernel
theorem dX8_halves_95 : dcd cX8_halves 95 = some (.iload 6, 97) := by decide +kernel
theorem dX8_halves_97 : dcd cX8_halves 97 = some (.iload_n 2, 98) := by decide +kernel
theorem dX8_halves_98 : dcd cX8_halves 98 = some (.if_icmp .gt 48, 101) := by decide +kernel
theorem dX8_halves_101 : dcd cX8_halves 101 = some (.aload_n 0, 102) := by decide +kernel
theorem dX8_halves_102 : dcd cX8_halves 102 = some (.iload 6, 104) := by decide +kernel
theorem dX8_halves_104 : dcd cX8_halves 104 = some (.iload_n 2, 105) := by decide +kernel
theorem dX8_halves_105 : dcd cX8_halves 105 = some (.iload_n 3, 106) := by decide +kernel
theorem dX8_halves_106 : dcd cX8_halves 106 = some (.invokevirtual 242, 109) := by decide +kernel
theorem dX8_halves_109 : dcd cX8_halves 109 = some (.istore 7, 111) := by decide +kernel
theorem dX8_halves_111 : dcd cX8_halves 111 = some (.iload 7, 113) := by decide +kernel
theorem dX8_halves_113 : dcd cX8_halves 113 = some (.bipush (-9), 115) := by decide +kernel
theorem dX8_halves_115 : dcd cX8_halves 115 = some (.if_icmp .eq 25, 118) := by decide +kernel
theorem dX8_halves_118 : dcd cX8_halves 118 = some (.iload 4, 120) := by decide +kernel
theorem dX8_halves_120 : dcd cX8_halves 120 = some (.bipush (-9), 122) := by decide +kernel
theorem dX8_halves_122 : dcd cX8_halves 122 = some (.if_icmp .eq 10, 125) := by decide +kernel
theorem dX8_halves_125 : dcd cX8_halves 125 = some (.iload 7, 127) := by decide +kernel
theorem dX8_halves_127 : dcd cX8_halves 127 = some (.iload 5, 129) := by decide +kernel
theorem dX8_halves_129 : dcd cX8_halves 129 = some (.if_icmp .ge 11, 132) := by decide +kernel
theorem dX8_halves_132 : dcd cX8_halves 132 = some (.iload 6, 134) := by decide +kernel
theorem dX8_halves_134 : dcd cX8_halves 134 = some (.istore 4, 136) := by decide +kernel
theorem dX8_halves_136 : dcd cX8_halves 136 = some (.iload 7, 138) := by decide +kernel
theorem dX8_halves_138 : dcd cX8_halves 138 = some (.istore 5, 140) := by decide +kernel
theorem dX8_halves_140 : dcd cX8_halves 140 = some (.iinc 6 1, 143) := by decide +kernel
theorem dX8_halves_143 : dcd cX8_halves 143 = some (.goto (-48), 146) := by decide +kernel
theorem dX8_halves_146 : dcd cX8_halves 146 = some (.iload_n 1, 147) := by decide +kernel
theorem dX8_halves_147 : dcd cX8_halves 147 = some (.ifCond .ne 8, 150) := by decide +kernel
theorem dX8_halves_150 : dcd cX8_halves 150 = some (.iload 4, 152) := by decide +kernel
theorem dX8_halves_152 : dcd cX8_halves 152 = some (.goto 5, 155) := by decide +kernel
theorem dX8_halves_155 : dcd cX8_halves 155 = some (.iload 5, 157) := by decide +kernel
theorem dX8_halves_157 : dcd cX8_halves 157 = some (.ireturn, 158) := by decide +kernel
theorem dX8_hallsOf_0 : dcd cX8_hallsOf 0 = some (.iconst 0, 1) := by decide +kernel
theorem dX8_hallsOf_1 : dcd cX8_hallsOf 1 = some (.istore 4, 3) := by decide +kernel
theorem dX8_hallsOf_3 : dcd cX8_hallsOf 3 = some (.iload_n 2, 4) := by decide +kernel
theorem dX8_hallsOf_4 : dcd cX8_hallsOf 4 = some (.iload 4, 6) := by decide +kernel
theorem dX8_hallsOf_6 : dcd cX8_hallsOf 6 = some (.ishr, 7) := by decide +kernel
theorem dX8_hallsOf_7 : dcd cX8_hallsOf 7 = some (.iconst 1, 8) := by decide +kernel
theorem dX8_hallsOf_8 : dcd cX8_hallsOf 8 = some (.iand, 9) := by decide +kernel
theorem dX8_hallsOf_9 : dcd cX8_hallsOf 9 = some (.ifCond .ne 9, 12) := by decide +kernel
theorem dX8_hallsOf_12 : dcd cX8_hallsOf 12 = some (.iinc 4 1, 15) := by decide +kernel
theorem dX8_hallsOf_15 : dcd cX8_hallsOf 15 = some (.goto (-12), 18) := by decide +kernel
theorem dX8_hallsOf_18 : dcd cX8_hallsOf 18 = some (.iload_n 1, 19) := by decide +kernel
theorem dX8_hallsOf_19 : dcd cX8_hallsOf 19 = some (.iload_n 2, 20) := by decide +kernel
theorem dX8_hallsOf_20 : dcd cX8_hallsOf 20 = some (.iconst (-1), 21) := by decide +kernel
theorem dX8_hallsOf_21 : dcd cX8_hallsOf 21 = some (.ixor, 22) := by decide +kernel
theorem dX8_hallsOf_22 : dcd cX8_hallsOf 22 = some (.iand, 23) := by decide +kernel
theorem dX8_hallsOf_23 : dcd cX8_hallsOf 23 = some (.ifCond .ne 12, 26) := by decide +kernel
theorem dX8_hallsOf_26 : dcd cX8_hallsOf 26 = some (.iload_n 1, 27) := by decide +kernel
theorem dX8_hallsOf_27 : dcd cX8_hallsOf 27 = some (.iload 4, 29) := by decide +kernel
theorem dX8_hallsOf_29 : dcd cX8_hallsOf 29 = some (.ishr, 30) := by decide +kernel
theorem dX8_hallsOf_30 : dcd cX8_hallsOf 30 = some (.iconst 1, 31) := by decide +kernel
theorem dX8_hallsOf_31 : dcd cX8_hallsOf 31 = some (.iand, 32) := by decide +kernel
theorem dX8_hallsOf_32 : dcd cX8_hallsOf 32 = some (.ifCond .ne 6, 35) := by decide +kernel
theorem dX8_hallsOf_35 : dcd cX8_hallsOf 35 = some (.bipush (-9), 37) := by decide +kernel
theorem dX8_hallsOf_37 : dcd cX8_hallsOf 37 = some (.ireturn, 38) := by decide +kernel
theorem dX8_hallsOf_38 : dcd cX8_hallsOf 38 = some (.iconst 0, 39) := by decide +kernel
theorem dX8_hallsOf_39 : dcd cX8_hallsOf 39 = some (.istore 5, 41) := by decide +kernel
theorem dX8_hallsOf_41 : dcd cX8_hallsOf 41 = some (.iconst 0, 42) := by decide +kernel
theorem dX8_hallsOf_42 : dcd cX8_hallsOf 42 = some (.istore 6, 44) := by decide +kernel
theorem dX8_hallsOf_44 : dcd cX8_hallsOf 44 = some (.iconst 0, 45) := by decide +kernel
theorem dX8_hallsOf_45 : dcd cX8_hallsOf 45 = some (.istore 7, 47) := by decide +kernel
theorem dX8_hallsOf_47 : dcd cX8_hallsOf 47 = some (.iconst 0, 48) := by decide +kernel
theorem dX8_hallsOf_48 : dcd cX8_hallsOf 48 = some (.istore 8, 50) := by decide +kernel
theorem dX8_hallsOf_50 : dcd cX8_hallsOf 50 = some (.iconst 0, 51) := by decide +kernel
theorem dX8_hallsOf_51 : dcd cX8_hallsOf 51 = some (.istore 9, 53) := by decide +kernel
theorem dX8_hallsOf_53 : dcd cX8_hallsOf 53 = some (.iconst 0, 54) := by decide +kernel
theorem dX8_hallsOf_54 : dcd cX8_hallsOf 54 = some (.istore 10, 56) := by decide +kernel
theorem dX8_hallsOf_56 : dcd cX8_hallsOf 56 = some (.iload 10, 58) := by decide +kernel
theorem dX8_hallsOf_58 : dcd cX8_hallsOf 58 = some (.aload_n 0, 59) := by decide +kernel
theorem dX8_hallsOf_59 : dcd cX8_hallsOf 59 = some (.getfield 142, 62) := by decide +kernel
theorem dX8_hallsOf_62 : dcd cX8_hallsOf 62 = some (.if_icmp .ge 107, 65) := by decide +kernel
theorem dX8_hallsOf_65 : dcd cX8_hallsOf 65 = some (.iconst 1, 66) := by decide +kernel
theorem dX8_hallsOf_66 : dcd cX8_hallsOf 66 = some (.aload_n 0, 67) := by decide +kernel
theorem dX8_hallsOf_67 : dcd cX8_hallsOf 67 = some (.iload 10, 69) := by decide +kernel
theorem dX8_hallsOf_69 : dcd cX8_hallsOf 69 = some (.iconst 0, 70) := by decide +kernel
theorem dX8_hallsOf_70 : dcd cX8_hallsOf 70 = some (.invokevirtual 151, 73) := by decide +kernel
theorem dX8_hallsOf_73 : dcd cX8_hallsOf 73 = some (.ishl, 74) := by decide +kernel
theorem dX8_hallsOf_74 : dcd cX8_hallsOf 74 = some (.istore 11, 76) := by decide +kernel
theorem dX8_hallsOf_76 : dcd cX8_hallsOf 76 = some (.iload_n 1, 77) := by decide +kernel
theorem dX8_hallsOf_77 : dcd cX8_hallsOf 77 = some (.iload 10, 79) := by decide +kernel
theorem dX8_hallsOf_79 : dcd cX8_hallsOf 79 = some (.ishr, 80) := by decide +kernel
theorem dX8_hallsOf_80 : dcd cX8_hallsOf 80 = some (.iconst 1, 81) := by decide +kernel
theorem dX8_hallsOf_81 : dcd cX8_hallsOf 81 = some (.iand, 82) := by decide +kernel
theorem dX8_hallsOf_82 : dcd cX8_hallsOf 82 = some (.iconst 1, 83) := by decide +kernel
theorem dX8_hallsOf_83 : dcd cX8_hallsOf 83 = some (.if_icmp .ne 44, 86) := by decide +kernel
theorem dX8_hallsOf_86 : dcd cX8_hallsOf 86 = some (.iload 5, 88) := by decide +kernel
theorem dX8_hallsOf_88 : dcd cX8_hallsOf 88 = some (.iload 7, 90) := by decide +kernel
theorem dX8_hallsOf_90 : dcd cX8_hallsOf 90 = some (.iload 11, 92) := by decide +kernel
theorem dX8_hallsOf_92 : dcd cX8_hallsOf 92 = some (.iand, 93) := by decide +kernel
theorem dX8_hallsOf_93 : dcd cX8_hallsOf 93 = some (.ifCond .ne 7, 96) := by decide +kernel
theorem dX8_hallsOf_96 : dcd cX8_hallsOf 96 = some (.iconst 1, 97) := by decide +kernel
theorem dX8_hallsOf_97 : dcd cX8_hallsOf 97 = some (.goto 5, 100) := by decide +kernel
theorem dX8_hallsOf_100 : dcd cX8_hallsOf 100 = some (.bipush 100, 102) := by decide +kernel
theorem dX8_hallsOf_102 : dcd cX8_hallsOf 102 = some (.iadd, 103) := by decide +kernel
theorem dX8_hallsOf_103 : dcd cX8_hallsOf 103 = some (.istore 5, 105) := by decide +kernel
theorem dX8_hallsOf_105 : dcd cX8_hallsOf 105 = some (.iload 7, 107) := by decide +kernel
theorem dX8_hallsOf_107 : dcd cX8_hallsOf 107 = some (.iload 11, 109) := by decide +kernel
theorem dX8_hallsOf_109 : dcd cX8_hallsOf 109 = some (.ior, 110) := by decide +kernel
theorem dX8_hallsOf_110 : dcd cX8_hallsOf 110 = some (.istore 7, 112) := by decide +kernel
theorem dX8_hallsOf_112 : dcd cX8_hallsOf 112 = some (.iload 9, 114) := by decide +kernel
theorem dX8_hallsOf_114 : dcd cX8_hallsOf 114 = some (.aload_n 0, 115) := by decide +kernel
theorem dX8_hallsOf_115 : dcd cX8_hallsOf 115 = some (.iload 10, 117) := by decide +kernel
theorem dX8_hallsOf_117 : dcd cX8_hallsOf 117 = some (.iconst 2, 118) := by decide +kernel
theorem dX8_hallsOf_118 : dcd cX8_hallsOf 118 = some (.invokevirtual 151, 121) := by decide +kernel
theorem dX8_hallsOf_121 : dcd cX8_hallsOf 121 = some (.iadd, 122) := by decide +kernel
theorem dX8_hallsOf_122 : dcd cX8_hallsOf 122 = some (.istore 9, 124) := by decide +kernel
theorem dX8_hallsOf_124 : dcd cX8_hallsOf 124 = some (.goto 39, 127) := by decide +kernel
theorem dX8_hallsOf_127 : dcd cX8_hallsOf 127 = some (.iload_n 2, 128) := by decide +kernel
theorem dX8_hallsOf_128 : dcd cX8_hallsOf 128 = some (.iload 10, 130) := by decide +kernel
theorem dX8_hallsOf_130 : dcd cX8_hallsOf 130 = some (.ishr, 131) := by decide +kernel
theorem dX8_hallsOf_131 : dcd cX8_hallsOf 131 = some (.iconst 1, 132) := by decide +kernel
theorem dX8_hallsOf_132 : dcd cX8_hallsOf 132 = some (.iand, 133) := by decide +kernel
theorem dX8_hallsOf_133 : dcd cX8_hallsOf 133 = some (.iconst 1, 134) := by decide +kernel
theorem dX8_hallsOf_134 : dcd cX8_hallsOf 134 = some (.if_icmp .ne 29, 137) := by decide +kernel
theorem dX8_hallsOf_137 : dcd cX8_hallsOf 137 = some (.iload 6, 139) := by decide +kernel
theorem dX8_hallsOf_139 : dcd cX8_hallsOf 139 = some (.iload 8, 141) := by decide +kernel
theorem dX8_hallsOf_141 : dcd cX8_hallsOf 141 = some (.iload 11, 143) := by decide +kernel
theorem dX8_hallsOf_143 : dcd cX8_hallsOf 143 = some (.iand, 144) := by decide +kernel
theorem dX8_hallsOf_144 : dcd cX8_hallsOf 144 = some (.ifCond .ne 7, 147) := by decide +kernel
theorem dX8_hallsOf_147 : dcd cX8_hallsOf 147 = some (.iconst 1, 148) := by decide +kernel
theorem dX8_hallsOf_148 : dcd cX8_hallsOf 148 = some (.goto 5, 151) := by decide +kernel
theorem dX8_hallsOf_151 : dcd cX8_hallsOf 151 = some (.bipush 100, 153) := by decide +kernel
theorem dX8_hallsOf_153 : dcd cX8_hallsOf 153 = some (.iadd, 154) := by decide +kernel
theorem dX8_hallsOf_154 : dcd cX8_hallsOf 154 = some (.istore 6, 156) := by decide +kernel
theorem dX8_hallsOf_156 : dcd cX8_hallsOf 156 = some (.iload 8, 158) := by decide +kernel
theorem dX8_hallsOf_158 : dcd cX8_hallsOf 158 = some (.iload 11, 160) := by decide +kernel
theorem dX8_hallsOf_160 : dcd cX8_hallsOf 160 = some (.ior, 161) := by decide +kernel
theorem dX8_hallsOf_161 : dcd cX8_hallsOf 161 = some (.istore 8, 163) := by decide +kernel
theorem dX8_hallsOf_163 : dcd cX8_hallsOf 163 = some (.iinc 10 1, 166) := by decide +kernel
theorem dX8_hallsOf_166 : dcd cX8_hallsOf 166 = some (.goto (-110), 169) := by decide +kernel
theorem dX8_hallsOf_169 : dcd cX8_hallsOf 169 = some (.iload 5, 171) := by decide +kernel
theorem dX8_hallsOf_171 : dcd cX8_hallsOf 171 = some (.bipush 9, 173) := by decide +kernel
theorem dX8_hallsOf_173 : dcd cX8_hallsOf 173 = some (.if_icmp .gt 23, 176) := by decide +kernel
theorem dX8_hallsOf_176 : dcd cX8_hallsOf 176 = some (.iload 6, 178) := by decide +kernel
theorem dX8_hallsOf_178 : dcd cX8_hallsOf 178 = some (.bipush 9, 180) := by decide +kernel
theorem dX8_hallsOf_180 : dcd cX8_hallsOf 180 = some (.if_icmp .gt 16, 183) := by decide +kernel
theorem dX8_hallsOf_183 : dcd cX8_hallsOf 183 = some (.iload 5, 185) := by decide +kernel
theorem dX8_hallsOf_185 : dcd cX8_hallsOf 185 = some (.iload 6, 187) := by decide +kernel
theorem dX8_hallsOf_187 : dcd cX8_hallsOf 187 = some (.isub, 188) := by decide +kernel
theorem dX8_hallsOf_188 : dcd cX8_hallsOf 188 = some (.iconst (-1), 189) := by decide +kernel
theorem dX8_hallsOf_189 : dcd cX8_hallsOf 189 = some (.iconst 1, 190) := by decide +kernel
theorem dX8_hallsOf_190 : dcd cX8_hallsOf 190 = some (.invokestatic 72, 193) := by decide +kernel
theorem dX8_hallsOf_193 : dcd cX8_hallsOf 193 = some (.ifCond .ne 6, 196) := by decide +kernel
theorem dX8_hallsOf_196 : dcd cX8_hallsOf 196 = some (.bipush (-9), 198) := by decide +kernel
theorem dX8_hallsOf_198 : dcd cX8_hallsOf 198 = some (.ireturn, 199) := by decide +kernel
theorem dX8_hallsOf_199 : dcd cX8_hallsOf 199 = some (.iconst 2, 200) := by decide +kernel
theorem dX8_hallsOf_200 : dcd cX8_hallsOf 200 = some (.iload 9, 202) := by decide +kernel
theorem dX8_hallsOf_202 : dcd cX8_hallsOf 202 = some (.imul, 203) := by decide +kernel
theorem dX8_hallsOf_203 : dcd cX8_hallsOf 203 = some (.iload_n 3, 204) := by decide +kernel
theorem dX8_hallsOf_204 : dcd cX8_hallsOf 204 = some (.isub, 205) := by decide +kernel
theorem dX8_hallsOf_205 : dcd cX8_hallsOf 205 = some (.istore 10, 207) := by decide +kernel
theorem dX8_hallsOf_207 : dcd cX8_hallsOf 207 = some (.iload 10, 209) := by decide +kernel
theorem dX8_hallsOf_209 : dcd cX8_hallsOf 209 = some (.ifCond .ge 9, 212) := by decide +kernel
theorem dX8_hallsOf_212 : dcd cX8_hallsOf 212 = some (.iload 10, 214) := by decide +kernel
theorem dX8_hallsOf_214 : dcd cX8_hallsOf 214 = some (.ineg, 215) := by decide +kernel
theorem dX8_hallsOf_215 : dcd cX8_hallsOf 215 = some (.goto 5, 218) := by decide +kernel
theorem dX8_hallsOf_218 : dcd cX8_hallsOf 218 = some (.iload 10, 220) := by decide +kernel
theorem dX8_hallsOf_220 : dcd cX8_hallsOf 220 = some (.ireturn, 221) := by decide +kernel
theorem dX8_tryout_0 : dcd cX8_tryout 0 = some (.aload_n 0, 1) := by decide +kernel
theorem dX8_tryout_1 : dcd cX8_tryout 1 = some (.iconst 0, 2) := by decide +kernel
theorem dX8_tryout_2 : dcd cX8_tryout 2 = some (.putfield 68, 5) := by decide +kernel
theorem dX8_tryout_5 : dcd cX8_tryout 5 = some (.iload_n 1, 6) := by decide +kernel
theorem dX8_tryout_6 : dcd cX8_tryout 6 = some (.iconst 0, 7) := by decide +kernel
theorem dX8_tryout_7 : dcd cX8_tryout 7 = some (.iconst 5, 8) := by decide +kernel
theorem dX8_tryout_8 : dcd cX8_tryout 8 = some (.invokestatic 72, 11) := by decide +kernel
theorem dX8_tryout_11 : dcd cX8_tryout 11 = some (.ifCond .eq 33, 14) := by decide +kernel
theorem dX8_tryout_14 : dcd cX8_tryout 14 = some (.iload_n 2, 15) := by decide +kernel
theorem dX8_tryout_15 : dcd cX8_tryout 15 = some (.iconst 1, 16) := by decide +kernel
theorem dX8_tryout_16 : dcd cX8_tryout 16 = some (.bipush 30, 18) := by decide +kernel
theorem dX8_tryout_18 : dcd cX8_tryout 18 = some (.invokestatic 72, 21) := by decide +kernel
theorem dX8_tryout_21 : dcd cX8_tryout 21 = some (.ifCond .eq 23, 24) := by decide +kernel
theorem dX8_tryout_24 : dcd cX8_tryout 24 = some (.iload_n 3, 25) := by decide +kernel
theorem dX8_tryout_25 : dcd cX8_tryout 25 = some (.iconst 0, 26) := by decide +kernel
theorem dX8_tryout_26 : dcd cX8_tryout 26 = some (.bipush 30, 28) := by decide +kernel
theorem dX8_tryout_28 : dcd cX8_tryout 28 = some (.invokestatic 72, 31) := by decide +kernel
theorem dX8_tryout_31 : dcd cX8_tryout 31 = some (.ifCond .eq 13, 34) := by decide +kernel
theorem dX8_tryout_34 : dcd cX8_tryout 34 = some (.iload 4, 36) := by decide +kernel
theorem dX8_tryout_36 : dcd cX8_tryout 36 = some (.iconst 0, 37) := by decide +kernel
theorem dX8_tryout_37 : dcd cX8_tryout 37 = some (.iconst 1, 38) := by decide +kernel
theorem dX8_tryout_38 : dcd cX8_tryout 38 = some (.invokestatic 72, 41) := by decide +kernel
theorem dX8_tryout_41 : dcd cX8_tryout 41 = some (.ifCond .ne 5, 44) := by decide +kernel
theorem dX8_tryout_44 : dcd cX8_tryout 44 = some (.iconst (-1), 45) := by decide +kernel
theorem dX8_tryout_45 : dcd cX8_tryout 45 = some (.ireturn, 46) := by decide +kernel
theorem dX8_tryout_46 : dcd cX8_tryout 46 = some (.iconst 0, 47) := by decide +kernel
theorem dX8_tryout_47 : dcd cX8_tryout 47 = some (.istore 5, 49) := by decide +kernel
theorem dX8_tryout_49 : dcd cX8_tryout 49 = some (.iload 5, 51) := by decide +kernel
theorem dX8_tryout_51 : dcd cX8_tryout 51 = some (.bipush 9, 53) := by decide +kernel
theorem dX8_tryout_53 : dcd cX8_tryout 53 = some (.if_icmp .ge 49, 56) := by decide +kernel
theorem dX8_tryout_56 : dcd cX8_tryout 56 = some (.aload_n 0, 57) := by decide +kernel
theorem dX8_tryout_57 : dcd cX8_tryout 57 = some (.getfield 13, 60) := by decide +kernel
theorem dX8_tryout_60 : dcd cX8_tryout 60 = some (.bipush 81, 62) := by decide +kernel
theorem dX8_tryout_62 : dcd cX8_tryout 62 = some (.iload 5, 64) := by decide +kernel
theorem dX8_tryout_64 : dcd cX8_tryout 64 = some (.iadd, 65) := by decide +kernel
theorem dX8_tryout_65 : dcd cX8_tryout 65 = some (.iload 5, 67) := by decide +kernel
theorem dX8_tryout_67 : dcd cX8_tryout 67 = some (.ifCond .ne 7, 70) := by decide +kernel
theorem dX8_tryout_70 : dcd cX8_tryout 70 = some (.iload_n 1, 71) := by decide +kernel
theorem dX8_tryout_71 : dcd cX8_tryout 71 = some (.goto 24, 74) := by decide +kernel
theorem dX8_tryout_74 : dcd cX8_tryout 74 = some (.iload 5, 76) := by decide +kernel
theorem dX8_tryout_76 : dcd cX8_tryout 76 = some (.iconst 1, 77) := by decide +kernel
theorem dX8_tryout_77 : dcd cX8_tryout 77 = some (.if_icmp .ne 7, 80) := by decide +kernel
theorem dX8_tryout_80 : dcd cX8_tryout 80 = some (.iload_n 2, 81) := by decide +kernel
theorem dX8_tryout_81 : dcd cX8_tryout 81 = some (.goto 14, 84) := by decide +kernel
theorem dX8_tryout_84 : dcd cX8_tryout 84 = some (.iload 5, 86) := by decide +kernel
theorem dX8_tryout_86 : dcd cX8_tryout 86 = some (.iconst 2, 87) := by decide +kernel
theorem dX8_tryout_87 : dcd cX8_tryout 87 = some (.if_icmp .ne 7, 90) := by decide +kernel
theorem dX8_tryout_90 : dcd cX8_tryout 90 = some (.iload_n 3, 91) := by decide +kernel
theorem dX8_tryout_91 : dcd cX8_tryout 91 = some (.goto 4, 94) := by decide +kernel
theorem dX8_tryout_94 : dcd cX8_tryout 94 = some (.iconst 0, 95) := by decide +kernel
theorem dX8_tryout_95 : dcd cX8_tryout 95 = some (.iastore, 96) := by decide +kernel
theorem dX8_tryout_96 : dcd cX8_tryout 96 = some (.iinc 5 1, 99) := by decide +kernel
theorem dX8_tryout_99 : dcd cX8_tryout 99 = some (.goto (-50), 102) := by decide +kernel
theorem dX8_tryout_102 : dcd cX8_tryout 102 = some (.bipush (-9), 104) := by decide +kernel
theorem dX8_tryout_104 : dcd cX8_tryout 104 = some (.istore 5, 106) := by decide +kernel
theorem dX8_tryout_106 : dcd cX8_tryout 106 = some (.bipush (-9), 108) := by decide +kernel
theorem dX8_tryout_108 : dcd cX8_tryout 108 = some (.istore 6, 110) := by decide +kernel
theorem dX8_tryout_110 : dcd cX8_tryout 110 = some (.iconst 0, 111) := by decide +kernel
theorem dX8_tryout_111 : dcd cX8_tryout 111 = some (.istore 7, 113) := by decide +kernel
theorem dX8_tryout_113 : dcd cX8_tryout 113 = some (.iload 7, 115) := by decide +kernel
theorem dX8_tryout_115 : dcd cX8_tryout 115 = some (.aload_n 0, 116) := by decide +kernel
theorem dX8_tryout_116 : dcd cX8_tryout 116 = some (.getfield 22, 119) := by decide +kernel
theorem dX8_tryout_119 : dcd cX8_tryout 119 = some (.iconst 0, 120) := by decide +kernel
theorem dX8_tryout_120 : dcd cX8_tryout 120 = some (.iaload, 121) := by decide +kernel
theorem dX8_tryout_121 : dcd cX8_tryout 121 = some (.if_icmp .gt 164, 124) := by decide +kernel
theorem dX8_tryout_124 : dcd cX8_tryout 124 = some (.aload_n 0, 125) := by decide +kernel
theorem dX8_tryout_125 : dcd cX8_tryout 125 = some (.aload_n 0, 126) := by decide +kernel
theorem dX8_tryout_126 : dcd cX8_tryout 126 = some (.getfield 22, 129) := by decide +kernel
theorem dX8_tryout_129 : dcd cX8_tryout 129 = some (.iconst 0, 130) := by decide +kernel
theorem dX8_tryout_130 : dcd cX8_tryout 130 = some (.iaload, 131) := by decide +kernel
theorem dX8_tryout_131 : dcd cX8_tryout 131 = some (.iconst 1, 132) := by decide +kernel
theorem dX8_tryout_132 : dcd cX8_tryout 132 = some (.iadd, 133) := by decide +kernel
theorem dX8_tryout_133 : dcd cX8_tryout 133 = some (.putfield 160, 136) := by decide +kernel
theorem dX8_tryout_136 : dcd cX8_tryout 136 = some (.aload_n 0, 137) := by decide +kernel
theorem dX8_tryout_137 : dcd cX8_tryout 137 = some (.aload_n 0, 138) := by decide +kernel
theorem dX8_tryout_138 : dcd cX8_tryout 138 = some (.getfield 22, 141) := by decide +kernel
theorem dX8_tryout_141 : dcd cX8_tryout 141 = some (.iconst 1, 142) := by decide +kernel
theorem dX8_tryout_142 : dcd cX8_tryout 142 = some (.iaload, 143) := by decide +kernel
theorem dX8_tryout_143 : dcd cX8_tryout 143 = some (.iload 7, 145) := by decide +kernel
theorem dX8_tryout_145 : dcd cX8_tryout 145 = some (.if_icmp .le 14, 148) := by decide +kernel
theorem dX8_tryout_148 : dcd cX8_tryout 148 = some (.aload_n 0, 149) := by decide +kernel
theorem dX8_tryout_149 : dcd cX8_tryout 149 = some (.getfield 22, 152) := by decide +kernel
theorem dX8_tryout_152 : dcd cX8_tryout 152 = some (.iconst 1, 153) := by decide +kernel
theorem dX8_tryout_153 : dcd cX8_tryout 153 = some (.iaload, 154) := by decide +kernel
theorem dX8_tryout_154 : dcd cX8_tryout 154 = some (.iconst 1, 155) := by decide +kernel
theorem dX8_tryout_155 : dcd cX8_tryout 155 = some (.iadd, 156) := by decide +kernel
theorem dX8_tryout_156 : dcd cX8_tryout 156 = some (.goto 9, 159) := by decide +kernel
theorem dX8_tryout_159 : dcd cX8_tryout 159 = some (.aload_n 0, 160) := by decide +kernel
theorem dX8_tryout_160 : dcd cX8_tryout 160 = some (.getfield 22, 163) := by decide +kernel
theorem dX8_tryout_163 : dcd cX8_tryout 163 = some (.iconst 1, 164) := by decide +kernel
theorem dX8_tryout_164 : dcd cX8_tryout 164 = some (.iaload, 165) := by decide +kernel
theorem dX8_tryout_165 : dcd cX8_tryout 165 = some (.putfield 163, 168) := by decide +kernel
theorem dX8_tryout_168 : dcd cX8_tryout 168 = some (.iconst 0, 169) := by decide +kernel
theorem dX8_tryout_169 : dcd cX8_tryout 169 = some (.istore 8, 171) := by decide +kernel
theorem dX8_tryout_171 : dcd cX8_tryout 171 = some (.iload 8, 173) := by decide +kernel
theorem dX8_tryout_173 : dcd cX8_tryout 173 = some (.aload_n 0, 174) := by decide +kernel
theorem dX8_tryout_174 : dcd cX8_tryout 174 = some (.getfield 160, 177) := by decide +kernel
theorem dX8_tryout_177 : dcd cX8_tryout 177 = some (.if_icmp .ge 51, 180) := by decide +kernel
theorem dX8_tryout_180 : dcd cX8_tryout 180 = some (.aload_n 0, 181) := by decide +kernel
theorem dX8_tryout_181 : dcd cX8_tryout 181 = some (.getfield 32, 184) := by decide +kernel
theorem dX8_tryout_184 : dcd cX8_tryout 184 = some (.iload 8, 186) := by decide +kernel
theorem dX8_tryout_186 : dcd cX8_tryout 186 = some (.iload 8, 188) := by decide +kernel
theorem dX8_tryout_188 : dcd cX8_tryout 188 = some (.iload 7, 190) := by decide +kernel
theorem dX8_tryout_190 : dcd cX8_tryout 190 = some (.if_icmp .ne 8, 193) := by decide +kernel
theorem dX8_tryout_193 : dcd cX8_tryout 193 = some (.bipush 9, 195) := by decide +kernel
theorem dX8_tryout_195 : dcd cX8_tryout 195 = some (.goto 26, 198) := by decide +kernel
theorem dX8_tryout_198 : dcd cX8_tryout 198 = some (.aload_n 0, 199) := by decide +kernel
theorem dX8_tryout_199 : dcd cX8_tryout 199 = some (.getfield 22, 202) := by decide +kernel
theorem dX8_tryout_202 : dcd cX8_tryout 202 = some (.iconst 3, 203) := by decide +kernel
theorem dX8_tryout_203 : dcd cX8_tryout 203 = some (.iload 8, 205) := by decide +kernel
theorem dX8_tryout_205 : dcd cX8_tryout 205 = some (.iload 7, 207) := by decide +kernel
theorem dX8_tryout_207 : dcd cX8_tryout 207 = some (.if_icmp .ge 8, 210) := by decide +kernel
theorem dX8_tryout_210 : dcd cX8_tryout 210 = some (.iload 8, 212) := by decide +kernel
theorem dX8_tryout_212 : dcd cX8_tryout 212 = some (.goto 7, 215) := by decide +kernel
theorem dX8_tryout_215 : dcd cX8_tryout 215 = some (.iload 8, 217) := by decide +kernel
theorem dX8_tryout_217 : dcd cX8_tryout 217 = some (.iconst 1, 218) := by decide +kernel
theorem dX8_tryout_218 : dcd cX8_tryout 218 = some (.isub, 219) := by decide +kernel
theorem dX8_tryout_219 : dcd cX8_tryout 219 = some (.iadd, 220) := by decide +kernel
theorem dX8_tryout_220 : dcd cX8_tryout 220 = some (.iaload, 221) := by decide +kernel
theorem dX8_tryout_221 : dcd cX8_tryout 221 = some (.iastore, 222) := by decide +kernel
theorem dX8_tryout_222 : dcd cX8_tryout 222 = some (.iinc 8 1, 225) := by decide +kernel
theorem dX8_tryout_225 : dcd cX8_tryout 225 = some (.goto (-54), 228) := by decide +kernel
theorem dX8_tryout_228 : dcd cX8_tryout 228 = some (.aload_n 0, 229) := by decide +kernel
theorem dX8_tryout_229 : dcd cX8_tryout 229 = some (.invokevirtual 187, 232) := by decide +kernel
theorem dX8_tryout_232 : dcd cX8_tryout 232 = some (.ifCond .eq 11, 235) := by decide +kernel
theorem dX8_tryout_235 : dcd cX8_tryout 235 = some (.aload_n 0, 236) := by decide +kernel
theorem dX8_tryout_236 : dcd cX8_tryout 236 = some (.iconst 0, 237) := by decide +kernel
theorem dX8_tryout_237 : dcd cX8_tryout 237 = some (.invokevirtual 205, 240) := by decide +kernel
theorem dX8_tryout_240 : dcd cX8_tryout 240 = some (.goto 5, 243) := by decide +kernel
theorem dX8_tryout_243 : dcd cX8_tryout 243 = some (.bipush (-9), 245) := by decide +kernel
theorem dX8_tryout_245 : dcd cX8_tryout 245 = some (.istore 8, 247) := by decide +kernel
theorem dX8_tryout_247 : dcd cX8_tryout 247 = some (.iload 8, 249) := by decide +kernel
theorem dX8_tryout_249 : dcd cX8_tryout 249 = some (.iload 6, 251) := by decide +kernel
theorem dX8_tryout_251 : dcd cX8_tryout 251 = some (.if_icmp .le 8, 254) := by decide +kernel
theorem dX8_tryout_254 : dcd cX8_tryout 254 = some (.iload 7, 256) := by decide +kernel
theorem dX8_tryout_256 : dcd cX8_tryout 256 = some (.goto 5, 259) := by decide +kernel
theorem dX8_tryout_259 : dcd cX8_tryout 259 = some (.iload 5, 261) := by decide +kernel
theorem dX8_tryout_261 : dcd cX8_tryout 261 = some (.istore 5, 263) := by decide +kernel
theorem dX8_tryout_263 : dcd cX8_tryout 263 = some (.iload 8, 265) := by decide +kernel
theorem dX8_tryout_265 : dcd cX8_tryout 265 = some (.iload 6, 267) := by decide +kernel
theorem dX8_tryout_267 : dcd cX8_tryout 267 = some (.if_icmp .le 8, 270) := by decide +kernel
theorem dX8_tryout_270 : dcd cX8_tryout 270 = some (.iload 8, 272) := by decide +kernel
theorem dX8_tryout_272 : dcd cX8_tryout 272 = some (.goto 5, 275) := by decide +kernel
theorem dX8_tryout_275 : dcd cX8_tryout 275 = some (.iload 6, 277) := by decide +kernel
theorem dX8_tryout_277 : dcd cX8_tryout 277 = some (.istore 6, 279) := by decide +kernel
theorem dX8_tryout_279 : dcd cX8_tryout 279 = some (.iinc 7 1, 282) := by decide +kernel
theorem dX8_tryout_282 : dcd cX8_tryout 282 = some (.goto (-169), 285) := by decide +kernel
theorem dX8_tryout_285 : dcd cX8_tryout 285 = some (.iload 4, 287) := by decide +kernel
theorem dX8_tryout_287 : dcd cX8_tryout 287 = some (.ifCond .ne 8, 290) := by decide +kernel
theorem dX8_tryout_290 : dcd cX8_tryout 290 = some (.iload 5, 292) := by decide +kernel
theorem dX8_tryout_292 : dcd cX8_tryout 292 = some (.goto 5, 295) := by decide +kernel
theorem dX8_tryout_295 : dcd cX8_tryout 295 = some (.iload 6, 297) := by decide +kernel
theorem dX8_tryout_297 : dcd cX8_tryout 297 = some (.ireturn, 298) := by decide +kernel
theorem dX8_mark_0 : dcd cX8_mark 0 = some (.aload_n 0, 1) := by decide +kernel
theorem dX8_mark_1 : dcd cX8_mark 1 = some (.iconst 0, 2) := by decide +kernel
theorem dX8_mark_2 : dcd cX8_mark 2 = some (.putfield 68, 5) := by decide +kernel
theorem dX8_mark_5 : dcd cX8_mark 5 = some (.aload_n 0, 6) := by decide +kernel
theorem dX8_mark_6 : dcd cX8_mark 6 = some (.iload_n 1, 7) := by decide +kernel
theorem dX8_mark_7 : dcd cX8_mark 7 = some (.invokevirtual 148, 10) := by decide +kernel
theorem dX8_mark_10 : dcd cX8_mark 10 = some (.ifCond .eq 23, 13) := by decide +kernel
theorem dX8_mark_13 : dcd cX8_mark 13 = some (.iload_n 2, 14) := by decide +kernel
theorem dX8_mark_14 : dcd cX8_mark 14 = some (.iconst 0, 15) := by decide +kernel
theorem dX8_mark_15 : dcd cX8_mark 15 = some (.bipush 8, 17) := by decide +kernel
theorem dX8_mark_17 : dcd cX8_mark 17 = some (.invokestatic 72, 20) := by decide +kernel
theorem dX8_mark_20 : dcd cX8_mark 20 = some (.ifCond .eq 13, 23) := by decide +kernel
theorem dX8_mark_23 : dcd cX8_mark 23 = some (.iload_n 3, 24) := by decide +kernel
theorem dX8_mark_24 : dcd cX8_mark 24 = some (.iconst 0, 25) := by decide +kernel
theorem dX8_mark_25 : dcd cX8_mark 25 = some (.bipush 99, 27) := by decide +kernel
theorem dX8_mark_27 : dcd cX8_mark 27 = some (.invokestatic 72, 30) := by decide +kernel
theorem dX8_mark_30 : dcd cX8_mark 30 = some (.ifCond .ne 5, 33) := by decide +kernel
theorem dX8_mark_33 : dcd cX8_mark 33 = some (.iconst (-1), 34) := by decide +kernel
theorem dX8_mark_34 : dcd cX8_mark 34 = some (.ireturn, 35) := by decide +kernel
theorem dX8_mark_35 : dcd cX8_mark 35 = some (.aload_n 0, 36) := by decide +kernel
theorem dX8_mark_36 : dcd cX8_mark 36 = some (.getfield 145, 39) := by decide +kernel
theorem dX8_mark_39 : dcd cX8_mark 39 = some (.bipush 60, 41) := by decide +kernel
theorem dX8_mark_41 : dcd cX8_mark 41 = some (.if_icmp .ne 6, 44) := by decide +kernel
theorem dX8_mark_44 : dcd cX8_mark 44 = some (.bipush (-3), 46) := by decide +kernel
theorem dX8_mark_46 : dcd cX8_mark 46 = some (.ireturn, 47) := by decide +kernel
theorem dX8_mark_47 : dcd cX8_mark 47 = some (.aload_n 0, 48) := by decide +kernel
theorem dX8_mark_48 : dcd cX8_mark 48 = some (.getfield 53, 51) := by decide +kernel
theorem dX8_mark_51 : dcd cX8_mark 51 = some (.aload_n 0, 52) := by decide +kernel
theorem dX8_mark_52 : dcd cX8_mark 52 = some (.getfield 145, 55) := by decide +kernel
theorem dX8_mark_55 : dcd cX8_mark 55 = some (.iload_n 1, 56) := by decide +kernel
theorem dX8_mark_56 : dcd cX8_mark 56 = some (.iastore, 57) := by decide +kernel
theorem dX8_mark_57 : dcd cX8_mark 57 = some (.aload_n 0, 58) := by decide +kernel
theorem dX8_mark_58 : dcd cX8_mark 58 = some (.getfield 56, 61) := by decide +kernel
theorem dX8_mark_61 : dcd cX8_mark 61 = some (.aload_n 0, 62) := by decide +kernel
theorem dX8_mark_62 : dcd cX8_mark 62 = some (.getfield 145, 65) := by decide +kernel
theorem dX8_mark_65 : dcd cX8_mark 65 = some (.iload_n 2, 66) := by decide +kernel
theorem dX8_mark_66 : dcd cX8_mark 66 = some (.iastore, 67) := by decide +kernel
theorem dX8_mark_67 : dcd cX8_mark 67 = some (.aload_n 0, 68) := by decide +kernel
theorem dX8_mark_68 : dcd cX8_mark 68 = some (.getfield 59, 71) := by decide +kernel
theorem dX8_mark_71 : dcd cX8_mark 71 = some (.aload_n 0, 72) := by decide +kernel
theorem dX8_mark_72 : dcd cX8_mark 72 = some (.getfield 145, 75) := by decide +kernel
theorem dX8_mark_75 : dcd cX8_mark 75 = some (.iload_n 3, 76) := by decide +kernel
theorem dX8_mark_76 : dcd cX8_mark 76 = some (.iastore, 77) := by decide +kernel
theorem dX8_mark_77 : dcd cX8_mark 77 = some (.aload_n 0, 78) := by decide +kernel
theorem dX8_mark_78 : dcd cX8_mark 78 = some (.dup, 79) := by decide +kernel
theorem dX8_mark_79 : dcd cX8_mark 79 = some (.getfield 145, 82) := by decide +kernel
theorem dX8_mark_82 : dcd cX8_mark 82 = some (.iconst 1, 83) := by decide +kernel
theorem dX8_mark_83 : dcd cX8_mark 83 = some (.iadd, 84) := by decide +kernel
theorem dX8_mark_84 : dcd cX8_mark 84 = some (.putfield 145, 87) := by decide +kernel
theorem dX8_mark_87 : dcd cX8_mark 87 = some (.aload_n 0, 88) := by decide +kernel
theorem dX8_mark_88 : dcd cX8_mark 88 = some (.getfield 145, 91) := by decide +kernel
theorem dX8_mark_91 : dcd cX8_mark 91 = some (.ireturn, 92) := by decide +kernel
theorem dX8_gcd_0 : dcd cX8_gcd 0 = some (.lload_n 0, 1) := by decide +kernel
theorem dX8_gcd_1 : dcd cX8_gcd 1 = some (.lconst 0, 2) := by decide +kernel
theorem dX8_gcd_2 : dcd cX8_gcd 2 = some (.lcmp, 3) := by decide +kernel
theorem dX8_gcd_3 : dcd cX8_gcd 3 = some (.ifCond .ge 8, 6) := by decide +kernel
theorem dX8_gcd_6 : dcd cX8_gcd 6 = some (.lload_n 0, 7) := by decide +kernel
theorem dX8_gcd_7 : dcd cX8_gcd 7 = some (.lneg, 8) := by decide +kernel
theorem dX8_gcd_8 : dcd cX8_gcd 8 = some (.goto 4, 11) := by decide +kernel
theorem dX8_gcd_11 : dcd cX8_gcd 11 = some (.lload_n 0, 12) := by decide +kernel
theorem dX8_gcd_12 : dcd cX8_gcd 12 = some (.lstore 4, 14) := by decide +kernel
theorem dX8_gcd_14 : dcd cX8_gcd 14 = some (.lload_n 2, 15) := by decide +kernel
theorem dX8_gcd_15 : dcd cX8_gcd 15 = some (.lstore 6, 17) := by decide +kernel
theorem dX8_gcd_17 : dcd cX8_gcd 17 = some (.lload 6, 19) := by decide +kernel
theorem dX8_gcd_19 : dcd cX8_gcd 19 = some (.lconst 0, 20) := by decide +kernel
theorem dX8_gcd_20 : dcd cX8_gcd 20 = some (.lcmp, 21) := by decide +kernel
theorem dX8_gcd_21 : dcd cX8_gcd 21 = some (.ifCond .eq 21, 24) := by decide +kernel
theorem dX8_gcd_24 : dcd cX8_gcd 24 = some (.lload 4, 26) := by decide +kernel
theorem dX8_gcd_26 : dcd cX8_gcd 26 = some (.lload 6, 28) := by decide +kernel
theorem dX8_gcd_28 : dcd cX8_gcd 28 = some (.lrem, 29) := by decide +kernel
theorem dX8_gcd_29 : dcd cX8_gcd 29 = some (.lstore 8, 31) := by decide +kernel
theorem dX8_gcd_31 : dcd cX8_gcd 31 = some (.lload 6, 33) := by decide +kernel
theorem dX8_gcd_33 : dcd cX8_gcd 33 = some (.lstore 4, 35) := by decide +kernel
theorem dX8_gcd_35 : dcd cX8_gcd 35 = some (.lload 8, 37) := by decide +kernel
theorem dX8_gcd_37 : dcd cX8_gcd 37 = some (.lstore 6, 39) := by decide +kernel
theorem dX8_gcd_39 : dcd cX8_gcd 39 = some (.goto (-22), 42) := by decide +kernel
theorem dX8_gcd_42 : dcd cX8_gcd 42 = some (.lload 4, 44) := by decide +kernel
theorem dX8_gcd_44 : dcd cX8_gcd 44 = some (.lreturn, 45) := by decide +kernel
theorem dX8_parted_0 : dcd cX8_parted 0 = some (.aload_n 0, 1) := by decide +kernel
theorem dX8_parted_1 : dcd cX8_parted 1 = some (.iconst 0, 2) := by decide +kernel
theorem dX8_parted_2 : dcd cX8_parted 2 = some (.putfield 68, 5) := by decide +kernel
theorem dX8_parted_5 : dcd cX8_parted 5 = some (.aload_n 0, 6) := by decide +kernel
theorem dX8_parted_6 : dcd cX8_parted 6 = some (.iload_n 1, 7) := by decide +kernel
theorem dX8_parted_7 : dcd cX8_parted 7 = some (.invokevirtual 148, 10) := by decide +kernel
theorem dX8_parted_10 : dcd cX8_parted 10 = some (.ifCond .eq 12, 13) := by decide +kernel
theorem dX8_parted_13 : dcd cX8_parted 13 = some (.iload_n 2, 14) := by decide +kernel
theorem dX8_parted_14 : dcd cX8_parted 14 = some (.iconst 0, 15) := by decide +kernel
theorem dX8_parted_15 : dcd cX8_parted 15 = some (.iconst 1, 16) := by decide +kernel
theorem dX8_parted_16 : dcd cX8_parted 16 = some (.invokestatic 72, 19) := by decide +kernel
theorem dX8_parted_19 : dcd cX8_parted 19 = some (.ifCond .ne 6, 22) := by decide +kernel
theorem dX8_parted_22 : dcd cX8_parted 22 = some (.ldc 246, 24) := by decide +kernel
theorem dX8_parted_24 : dcd cX8_parted 24 = some (.ireturn, 25) := by decide +kernel
theorem dX8_parted_25 : dcd cX8_parted 25 = some (.lconst 0, 26) := by decide +kernel
theorem dX8_parted_26 : dcd cX8_parted 26 = some (.lstore_n 3, 27) := by decide +kernel
theorem dX8_parted_27 : dcd cX8_parted 27 = some (.lconst 1, 28) := by decide +kernel
theorem dX8_parted_28 : dcd cX8_parted 28 = some (.lstore 5, 30) := by decide +kernel
theorem dX8_parted_30 : dcd cX8_parted 30 = some (.iconst 0, 31) := by decide +kernel
theorem dX8_parted_31 : dcd cX8_parted 31 = some (.istore 7, 33) := by decide +kernel
theorem dX8_parted_33 : dcd cX8_parted 33 = some (.iconst 0, 34) := by decide +kernel
theorem dX8_parted_34 : dcd cX8_parted 34 = some (.istore 8, 36) := by decide +kernel
theorem dX8_parted_36 : dcd cX8_parted 36 = some (.iload 8, 38) := by decide +kernel
theorem dX8_parted_38 : dcd cX8_parted 38 = some (.bipush 9, 40) := by decide +kernel
theorem dX8_parted_40 : dcd cX8_parted 40 = some (.if_icmp .ge 159, 43) := by decide +kernel
theorem dX8_parted_43 : dcd cX8_parted 43 = some (.lconst 0, 44) := by decide +kernel
theorem dX8_parted_44 : dcd cX8_parted 44 = some (.lstore 9, 46) := by decide +kernel
theorem dX8_parted_46 : dcd cX8_parted 46 = some (.lconst 0, 47) := by decide +kernel
theorem dX8_parted_47 : dcd cX8_parted 47 = some (.lstore 11, 49) := by decide +kernel
theorem dX8_parted_49 : dcd cX8_parted 49 = some (.iconst 0, 50) := by decide +kernel
theorem dX8_parted_50 : dcd cX8_parted 50 = some (.istore 13, 52) := by decide +kernel
theorem dX8_parted_52 : dcd cX8_parted 52 = some (.iconst 0, 53) := by decide +kernel
theorem dX8_parted_53 : dcd cX8_parted 53 = some (.istore 14, 55) := by decide +kernel
theorem dX8_parted_55 : dcd cX8_parted 55 = some (.iconst 0, 56) := by decide +kernel
theorem dX8_parted_56 : dcd cX8_parted 56 = some (.istore 15, 58) := by decide +kernel
theorem dX8_parted_58 : dcd cX8_parted 58 = some (.iload 15, 60) := by decide +kernel
theorem dX8_parted_60 : dcd cX8_parted 60 = some (.aload_n 0, 61) := by decide +kernel
theorem dX8_parted_61 : dcd cX8_parted 61 = some (.getfield 145, 64) := by decide +kernel
theorem dX8_parted_64 : dcd cX8_parted 64 = some (.if_icmp .ge 86, 67) := by decide +kernel
theorem dX8_parted_67 : dcd cX8_parted 67 = some (.aload_n 0, 68) := by decide +kernel
theorem dX8_parted_68 : dcd cX8_parted 68 = some (.getfield 56, 71) := by decide +kernel
theorem dX8_parted_71 : dcd cX8_parted 71 = some (.iload 15, 73) := by decide +kernel
theorem dX8_parted_73 : dcd cX8_parted 73 = some (.iaload, 74) := by decide +kernel
theorem dX8_parted_74 : dcd cX8_parted 74 = some (.iload 8, 76) := by decide +kernel
theorem dX8_parted_76 : dcd cX8_parted 76 = some (.if_icmp .ne 68, 79) := by decide +kernel
theorem dX8_parted_79 : dcd cX8_parted 79 = some (.iinc 13 1, 82) := by decide +kernel
theorem dX8_parted_82 : dcd cX8_parted 82 = some (.lload 11, 84) := by decide +kernel
theorem dX8_parted_84 : dcd cX8_parted 84 = some (.aload_n 0, 85) := by decide +kernel
theorem dX8_parted_85 : dcd cX8_parted 85 = some (.getfield 59, 88) := by decide +kernel
theorem dX8_parted_88 : dcd cX8_parted 88 = some (.iload 15, 90) := by decide +kernel
theorem dX8_parted_90 : dcd cX8_parted 90 = some (.iaload, 91) := by decide +kernel
theorem dX8_parted_91 : dcd cX8_parted 91 = some (.i2l, 92) := by decide +kernel
theorem dX8_parted_92 : dcd cX8_parted 92 = some (.ladd, 93) := by decide +kernel
theorem dX8_parted_93 : dcd cX8_parted 93 = some (.lstore 11, 95) := by decide +kernel
theorem dX8_parted_95 : dcd cX8_parted 95 = some (.lload 9, 97) := by decide +kernel
theorem dX8_parted_97 : dcd cX8_parted 97 = some (.aload_n 0, 98) := by decide +kernel
theorem dX8_parted_98 : dcd cX8_parted 98 = some (.getfield 53, 101) := by decide +kernel
theorem dX8_parted_101 : dcd cX8_parted 101 = some (.iload 15, 103) := by decide +kernel
theorem dX8_parted_103 : dcd cX8_parted 103 = some (.iaload, 104) := by decide +kernel
theorem dX8_parted_104 : dcd cX8_parted 104 = some (.iload_n 1, 105) := by decide +kernel
theorem dX8_parted_105 : dcd cX8_parted 105 = some (.if_icmp .ne 14, 108) := by decide +kernel
theorem dX8_parted_108 : dcd cX8_parted 108 = some (.aload_n 0, 109) := by decide +kernel
theorem dX8_parted_109 : dcd cX8_parted 109 = some (.getfield 59, 112) := by decide +kernel
theorem dX8_parted_112 : dcd cX8_parted 112 = some (.iload 15, 114) := by decide +kernel
theorem dX8_parted_114 : dcd cX8_parted 114 = some (.iaload, 115) := by decide +kernel
theorem dX8_parted_115 : dcd cX8_parted 115 = some (.i2l, 116) := by decide +kernel
theorem dX8_parted_116 : dcd cX8_parted 116 = some (.goto 4, 119) := by decide +kernel
theorem dX8_parted_119 : dcd cX8_parted 119 = some (.lconst 0, 120) := by decide +kernel
theorem dX8_parted_120 : dcd cX8_parted 120 = some (.ladd, 121) := by decide +kernel
theorem dX8_parted_121 : dcd cX8_parted 121 = some (.lstore 9, 123) := by decide +kernel
theorem dX8_parted_123 : dcd cX8_parted 123 = some (.iload 14, 125) := by decide +kernel
theorem dX8_parted_125 : dcd cX8_parted 125 = some (.aload_n 0, 126) := by decide +kernel
theorem dX8_parted_126 : dcd cX8_parted 126 = some (.getfield 53, 129) := by decide +kernel
theorem dX8_parted_129 : dcd cX8_parted 129 = some (.iload 15, 131) := by decide +kernel
theorem dX8_parted_131 : dcd cX8_parted 131 = some (.iaload, 132) := by decide +kernel
theorem dX8_parted_132 : dcd cX8_parted 132 = some (.iload_n 1, 133) := by decide +kernel
theorem dX8_parted_133 : dcd cX8_parted 133 = some (.if_icmp .ne 7, 136) := by decide +kernel
theorem dX8_parted_136 : dcd cX8_parted 136 = some (.iconst 1, 137) := by decide +kernel
theorem dX8_parted_137 : dcd cX8_parted 137 = some (.goto 4, 140) := by decide +kernel
theorem dX8_parted_140 : dcd cX8_parted 140 = some (.iconst 0, 141) := by decide +kernel
theorem dX8_parted_141 : dcd cX8_parted 141 = some (.iadd, 142) := by decide +kernel
theorem dX8_parted_142 : dcd cX8_parted 142 = some (.istore 14, 144) := by decide +kernel
theorem dX8_parted_144 : dcd cX8_parted 144 = some (.iinc 15 1, 147) := by decide +kernel
theorem dX8_parted_147 : dcd cX8_parted 147 = some (.goto (-89), 150) := by decide +kernel
theorem dX8_parted_150 : dcd cX8_parted 150 = some (.iload 14, 152) := by decide +kernel
theorem dX8_parted_152 : dcd cX8_parted 152 = some (.ifCond .le 41, 155) := by decide +kernel
theorem dX8_parted_155 : dcd cX8_parted 155 = some (.lload_n 3, 156) := by decide +kernel
theorem dX8_parted_156 : dcd cX8_parted 156 = some (.iload 13, 158) := by decide +kernel
theorem dX8_parted_158 : dcd cX8_parted 158 = some (.i2l, 159) := by decide +kernel
theorem dX8_parted_159 : dcd cX8_parted 159 = some (.lmul, 160) := by decide +kernel
theorem dX8_parted_160 : dcd cX8_parted 160 = some (.lload 9, 162) := by decide +kernel
theorem dX8_parted_162 : dcd cX8_parted 162 = some (.iload 13, 164) := by decide +kernel
theorem dX8_parted_164 : dcd cX8_parted 164 = some (.i2l, 165) := by decide +kernel
theorem dX8_parted_165 : dcd cX8_parted 165 = some (.lmul, 166) := by decide +kernel
theorem dX8_parted_166 : dcd cX8_parted 166 = some (.iload 14, 168) := by decide +kernel
theorem dX8_parted_168 : dcd cX8_parted 168 = some (.i2l, 169) := by decide +kernel
theorem dX8_parted_169 : dcd cX8_parted 169 = some (.lload 11, 171) := by decide +kernel
theorem dX8_parted_171 : dcd cX8_parted 171 = some (.lmul, 172) := by decide +kernel
theorem dX8_parted_172 : dcd cX8_parted 172 = some (.lsub, 173) := by decide +kernel
theorem dX8_parted_173 : dcd cX8_parted 173 = some (.lload 5, 175) := by decide +kernel
theorem dX8_parted_175 : dcd cX8_parted 175 = some (.lmul, 176) := by decide +kernel
theorem dX8_parted_176 : dcd cX8_parted 176 = some (.ladd, 177) := by decide +kernel
theorem dX8_parted_177 : dcd cX8_parted 177 = some (.lstore_n 3, 178) := by decide +kernel
theorem dX8_parted_178 : dcd cX8_parted 178 = some (.lload 5, 180) := by decide +kernel
theorem dX8_parted_180 : dcd cX8_parted 180 = some (.iload 13, 182) := by decide +kernel
theorem dX8_parted_182 : dcd cX8_parted 182 = some (.i2l, 183) := by decide +kernel
theorem dX8_parted_183 : dcd cX8_parted 183 = some (.lmul, 184) := by decide +kernel
theorem dX8_parted_184 : dcd cX8_parted 184 = some (.lstore 5, 186) := by decide +kernel
theorem dX8_parted_186 : dcd cX8_parted 186 = some (.iload 7, 188) := by decide +kernel
theorem dX8_parted_188 : dcd cX8_parted 188 = some (.iload 14, 190) := by decide +kernel
theorem dX8_parted_190 : dcd cX8_parted 190 = some (.iadd, 191) := by decide +kernel
theorem dX8_parted_191 : dcd cX8_parted 191 = some (.istore 7, 193) := by decide +kernel
theorem dX8_parted_193 : dcd cX8_parted 193 = some (.iinc 8 1, 196) := by decide +kernel
theorem dX8_parted_196 : dcd cX8_parted 196 = some (.goto (-160), 199) := by decide +kernel
theorem dX8_parted_199 : dcd cX8_parted 199 = some (.iload 7, 201) := by decide +kernel
theorem dX8_parted_201 : dcd cX8_parted 201 = some (.ifCond .ne 6, 204) := by decide +kernel
theorem dX8_parted_204 : dcd cX8_parted 204 = some (.ldc 246, 206) := by decide +kernel
theorem dX8_parted_206 : dcd cX8_parted 206 = some (.ireturn, 207) := by decide +kernel
theorem dX8_parted_207 : dcd cX8_parted 207 = some (.lload 5, 209) := by decide +kernel
theorem dX8_parted_209 : dcd cX8_parted 209 = some (.iload 7, 211) := by decide +kernel
theorem dX8_parted_211 : dcd cX8_parted 211 = some (.i2l, 212) := by decide +kernel
theorem dX8_parted_212 : dcd cX8_parted 212 = some (.lmul, 213) := by decide +kernel
theorem dX8_parted_213 : dcd cX8_parted 213 = some (.lstore 5, 215) := by decide +kernel
theorem dX8_parted_215 : dcd cX8_parted 215 = some (.lload_n 3, 216) := by decide +kernel
theorem dX8_parted_216 : dcd cX8_parted 216 = some (.lload 5, 218) := by decide +kernel
theorem dX8_parted_218 : dcd cX8_parted 218 = some (.invokestatic 247, 221) := by decide +kernel
theorem dX8_parted_221 : dcd cX8_parted 221 = some (.lstore 8, 223) := by decide +kernel
theorem dX8_parted_223 : dcd cX8_parted 223 = some (.iload_n 2, 224) := by decide +kernel
theorem dX8_parted_224 : dcd cX8_parted 224 = some (.ifCond .ne 10, 227) := by decide +kernel
theorem dX8_parted_227 : dcd cX8_parted 227 = some (.lload_n 3, 228) := by decide +kernel
theorem dX8_parted_228 : dcd cX8_parted 228 = some (.lload 8, 230) := by decide +kernel
theorem dX8_parted_230 : dcd cX8_parted 230 = some (.ldiv, 231) := by decide +kernel
theorem dX8_parted_231 : dcd cX8_parted 231 = some (.goto 8, 234) := by decide +kernel
theorem dX8_parted_234 : dcd cX8_parted 234 = some (.lload 5, 236) := by decide +kernel
theorem dX8_parted_236 : dcd cX8_parted 236 = some (.lload 8, 238) := by decide +kernel
theorem dX8_parted_238 : dcd cX8_parted 238 = some (.ldiv, 239) := by decide +kernel
theorem dX8_parted_239 : dcd cX8_parted 239 = some (.l2i, 240) := by decide +kernel
theorem dX8_parted_240 : dcd cX8_parted 240 = some (.ireturn, 241) := by decide +kernel
theorem dX8_opener_0 : dcd cX8_opener 0 = some (.aload_n 0, 1) := by decide +kernel
theorem dX8_opener_1 : dcd cX8_opener 1 = some (.iconst 0, 2) := by decide +kernel
theorem dX8_opener_2 : dcd cX8_opener 2 = some (.putfield 68, 5) := by decide +kernel
theorem dX8_opener_5 : dcd cX8_opener 5 = some (.bipush (-9), 7) := by decide +kernel
theorem dX8_opener_7 : dcd cX8_opener 7 = some (.istore_n 1, 8) := by decide +kernel
theorem dX8_opener_8 : dcd cX8_opener 8 = some (.iconst 0, 9) := by decide +kernel
theorem dX8_opener_9 : dcd cX8_opener 9 = some (.istore_n 2, 10) := by decide +kernel
theorem dX8_opener_10 : dcd cX8_opener 10 = some (.iconst 0, 11) := by decide +kernel
theorem dX8_opener_11 : dcd cX8_opener 11 = some (.istore_n 3, 12) := by decide +kernel
theorem dX8_opener_12 : dcd cX8_opener 12 = some (.iload_n 3, 13) := by decide +kernel
theorem dX8_opener_13 : dcd cX8_opener 13 = some (.aload_n 0, 14) := by decide +kernel
theorem dX8_opener_14 : dcd cX8_opener 14 = some (.getfield 142, 17) := by decide +kernel
theorem dX8_opener_17 : dcd cX8_opener 17 = some (.if_icmp .ge 99, 20) := by decide +kernel
theorem dX8_opener_20 : dcd cX8_opener 20 = some (.iconst 0, 21) := by decide +kernel
theorem dX8_opener_21 : dcd cX8_opener 21 = some (.istore 4, 23) := by decide +kernel
theorem dX8_opener_23 : dcd cX8_opener 23 = some (.iconst 0, 24) := by decide +kernel
theorem dX8_opener_24 : dcd cX8_opener 24 = some (.istore 5, 26) := by decide +kernel
theorem dX8_opener_26 : dcd cX8_opener 26 = some (.iload 5, 28) := by decide +kernel
theorem dX8_opener_28 : dcd cX8_opener 28 = some (.aload_n 0, 29) := by decide +kernel
theorem dX8_opener_29 : dcd cX8_opener 29 = some (.getfield 145, 32) := by decide +kernel
theorem dX8_opener_32 : dcd cX8_opener 32 = some (.if_icmp .ge 40, 35) := by decide +kernel
theorem dX8_opener_35 : dcd cX8_opener 35 = some (.iload 4, 37) := by decide +kernel
theorem dX8_opener_37 : dcd cX8_opener 37 = some (.aload_n 0, 38) := by decide +kernel
theorem dX8_opener_38 : dcd cX8_opener 38 = some (.getfield 53, 41) := by decide +kernel
theorem dX8_opener_41 : dcd cX8_opener 41 = some (.iload 5, 43) := by decide +kernel
theorem dX8_opener_43 : dcd cX8_opener 43 = some (.iaload, 44) := by decide +kernel
theorem dX8_opener_44 : dcd cX8_opener 44 = some (.iload_n 3, 45) := by decide +kernel
theorem dX8_opener_45 : dcd cX8_opener 45 = some (.if_icmp .ne 17, 48) := by decide +kernel
theorem dX8_opener_48 : dcd cX8_opener 48 = some (.aload_n 0, 49) := by decide +kernel
theorem dX8_opener_49 : dcd cX8_opener 49 = some (.getfield 56, 52) := by decide +kernel
theorem dX8_opener_52 : dcd cX8_opener 52 = some (.iload 5, 54) := by decide +kernel
theorem dX8_opener_54 : dcd cX8_opener 54 = some (.iaload, 55) := by decide +kernel
theorem dX8_opener_55 : dcd cX8_opener 55 = some (.ifCond .ne 7, 58) := by decide +kernel
theorem dX8_opener_58 : dcd cX8_opener 58 = some (.iconst 1, 59) := by decide +kernel
theorem dX8_opener_59 : dcd cX8_opener 59 = some (.goto 4, 62) := by decide +kernel
theorem dX8_opener_62 : dcd cX8_opener 62 = some (.iconst 0, 63) := by decide +kernel
theorem dX8_opener_63 : dcd cX8_opener 63 = some (.iadd, 64) := by decide +kernel
theorem dX8_opener_64 : dcd cX8_opener 64 = some (.istore 4, 66) := by decide +kernel
theorem dX8_opener_66 : dcd cX8_opener 66 = some (.iinc 5 1, 69) := by decide +kernel
theorem dX8_opener_69 : dcd cX8_opener 69 = some (.goto (-43), 72) := by decide +kernel
theorem dX8_opener_72 : dcd cX8_opener 72 = some (.iload_n 1, 73) := by decide +kernel
theorem dX8_opener_73 : dcd cX8_opener 73 = some (.bipush (-9), 75) := by decide +kernel
theorem dX8_opener_75 : dcd cX8_opener 75 = some (.if_icmp .eq 30, 78) := by decide +kernel
theorem dX8_opener_78 : dcd cX8_opener 78 = some (.iload 4, 80) := by decide +kernel
theorem dX8_opener_80 : dcd cX8_opener 80 = some (.iload_n 2, 81) := by decide +kernel
theorem dX8_opener_81 : dcd cX8_opener 81 = some (.if_icmp .lt 24, 84) := by decide +kernel
theorem dX8_opener_84 : dcd cX8_opener 84 = some (.iload 4, 86) := by decide +kernel
theorem dX8_opener_86 : dcd cX8_opener 86 = some (.iload_n 2, 87) := by decide +kernel
theorem dX8_opener_87 : dcd cX8_opener 87 = some (.if_icmp .ne 23, 90) := by decide +kernel
theorem dX8_opener_90 : dcd cX8_opener 90 = some (.aload_n 0, 91) := by decide +kernel
theorem dX8_opener_91 : dcd cX8_opener 91 = some (.iload_n 3, 92) := by decide +kernel
theorem dX8_opener_92 : dcd cX8_opener 92 = some (.iconst 2, 93) := by decide +kernel
theorem dX8_opener_93 : dcd cX8_opener 93 = some (.invokevirtual 151, 96) := by decide +kernel
theorem dX8_opener_96 : dcd cX8_opener 96 = some (.aload_n 0, 97) := by decide +kernel
theorem dX8_opener_97 : dcd cX8_opener 97 = some (.iload_n 1, 98) := by decide +kernel
theorem dX8_opener_98 : dcd cX8_opener 98 = some (.iconst 2, 99) := by decide +kernel
theorem dX8_opener_99 : dcd cX8_opener 99 = some (.invokevirtual 151, 102) := by decide +kernel
theorem dX8_opener_102 : dcd cX8_opener 102 = some (.if_icmp .ge 8, 105) := by decide +kernel
theorem dX8_opener_105 : dcd cX8_opener 105 = some (.iload_n 3, 106) := by decide +kernel
theorem dX8_opener_106 : dcd cX8_opener 106 = some (.istore_n 1, 107) := by decide +kernel
theorem dX8_opener_107 : dcd cX8_opener 107 = some (.iload 4, 109) := by decide +kernel
theorem dX8_opener_109 : dcd cX8_opener 109 = some (.istore_n 2, 110) := by decide +kernel
theorem dX8_opener_110 : dcd cX8_opener 110 = some (.iinc 3 1, 113) := by decide +kernel
theorem dX8_opener_113 : dcd cX8_opener 113 = some (.goto (-101), 116) := by decide +kernel
theorem dX8_opener_116 : dcd cX8_opener 116 = some (.iload_n 1, 117) := by decide +kernel
theorem dX8_opener_117 : dcd cX8_opener 117 = some (.ireturn, 118) := by decide +kernel
theorem dX8_hold_0 : dcd cX8_hold 0 = some (.aload_n 0, 1) := by decide +kernel
theorem dX8_hold_1 : dcd cX8_hold 1 = some (.iconst 0, 2) := by decide +kernel
theorem dX8_hold_2 : dcd cX8_hold 2 = some (.putfield 68, 5) := by decide +kernel
theorem dX8_hold_5 : dcd cX8_hold 5 = some (.iload_n 1, 6) := by decide +kernel
theorem dX8_hold_6 : dcd cX8_hold 6 = some (.iconst 0, 7) := by decide +kernel
theorem dX8_hold_7 : dcd cX8_hold 7 = some (.iconst 1, 8) := by decide +kernel
theorem dX8_hold_8 : dcd cX8_hold 8 = some (.invokestatic 72, 11) := by decide +kernel
theorem dX8_hold_11 : dcd cX8_hold 11 = some (.ifCond .ne 5, 14) := by decide +kernel
theorem dX8_hold_14 : dcd cX8_hold 14 = some (.iconst (-1), 15) := by decide +kernel
theorem dX8_hold_15 : dcd cX8_hold 15 = some (.ireturn, 16) := by decide +kernel
theorem dX8_hold_16 : dcd cX8_hold 16 = some (.aload_n 0, 17) := by decide +kernel
theorem dX8_hold_17 : dcd cX8_hold 17 = some (.getfield 22, 20) := by decide +kernel
theorem dX8_hold_20 : dcd cX8_hold 20 = some (.iconst 0, 21) := by decide +kernel
theorem dX8_hold_21 : dcd cX8_hold 21 = some (.iaload, 22) := by decide +kernel
theorem dX8_hold_22 : dcd cX8_hold 22 = some (.ifCond .ne 6, 25) := by decide +kernel
theorem dX8_hold_25 : dcd cX8_hold 25 = some (.bipush (-2), 27) := by decide +kernel
theorem dX8_hold_27 : dcd cX8_hold 27 = some (.ireturn, 28) := by decide +kernel
theorem dX8_hold_28 : dcd cX8_hold 28 = some (.aload_n 0, 29) := by decide +kernel
theorem dX8_hold_29 : dcd cX8_hold 29 = some (.invokevirtual 175, 32) := by decide +kernel
theorem dX8_hold_32 : dcd cX8_hold 32 = some (.aload_n 0, 33) := by decide +kernel
theorem dX8_hold_33 : dcd cX8_hold 33 = some (.invokevirtual 212, 36) := by decide +kernel
theorem dX8_hold_36 : dcd cX8_hold 36 = some (.iconst 1, 37) := by decide +kernel
theorem dX8_hold_37 : dcd cX8_hold 37 = some (.aload_n 0, 38) := by decide +kernel
theorem dX8_hold_38 : dcd cX8_hold 38 = some (.getfield 160, 41) := by decide +kernel
theorem dX8_hold_41 : dcd cX8_hold 41 = some (.ishl, 42) := by decide +kernel
theorem dX8_hold_42 : dcd cX8_hold 42 = some (.iconst 1, 43) := by decide +kernel
theorem dX8_hold_43 : dcd cX8_hold 43 = some (.isub, 44) := by decide +kernel
theorem dX8_hold_44 : dcd cX8_hold 44 = some (.istore_n 2, 45) := by decide +kernel
theorem dX8_hold_45 : dcd cX8_hold 45 = some (.iload_n 2, 46) := by decide +kernel
theorem dX8_hold_46 : dcd cX8_hold 46 = some (.istore_n 3, 47) := by decide +kernel
theorem dX8_hold_47 : dcd cX8_hold 47 = some (.iload_n 3, 48) := by decide +kernel
theorem dX8_hold_48 : dcd cX8_hold 48 = some (.ifCond .lt 174, 51) := by decide +kernel
theorem dX8_hold_51 : dcd cX8_hold 51 = some (.iconst 0, 52) := by decide +kernel
theorem dX8_hold_52 : dcd cX8_hold 52 = some (.istore 4, 54) := by decide +kernel
theorem dX8_hold_54 : dcd cX8_hold 54 = some (.iconst 0, 55) := by decide +kernel
theorem dX8_hold_55 : dcd cX8_hold 55 = some (.istore 5, 57) := by decide +kernel
theorem dX8_hold_57 : dcd cX8_hold 57 = some (.iload 5, 59) := by decide +kernel
theorem dX8_hold_59 : dcd cX8_hold 59 = some (.aload_n 0, 60) := by decide +kernel
theorem dX8_hold_60 : dcd cX8_hold 60 = some (.getfield 160, 63) := by decide +kernel
theorem dX8_hold_63 : dcd cX8_hold 63 = some (.if_icmp .ge 40, 66) := by decide +kernel
theorem dX8_hold_66 : dcd cX8_hold 66 = some (.iload 4, 68) := by decide +kernel
theorem dX8_hold_68 : dcd cX8_hold 68 = some (.iload_n 3, 69) := by decide +kernel
theorem dX8_hold_69 : dcd cX8_hold 69 = some (.iload 5, 71) := by decide +kernel
theorem dX8_hold_71 : dcd cX8_hold 71 = some (.ishr, 72) := by decide +kernel
theorem dX8_hold_72 : dcd cX8_hold 72 = some (.iconst 1, 73) := by decide +kernel
theorem dX8_hold_73 : dcd cX8_hold 73 = some (.iand, 74) := by decide +kernel
theorem dX8_hold_74 : dcd cX8_hold 74 = some (.iconst 1, 75) := by decide +kernel
theorem dX8_hold_75 : dcd cX8_hold 75 = some (.if_icmp .ne 18, 78) := by decide +kernel
theorem dX8_hold_78 : dcd cX8_hold 78 = some (.aload_n 0, 79) := by decide +kernel
theorem dX8_hold_79 : dcd cX8_hold 79 = some (.aload_n 0, 80) := by decide +kernel
theorem dX8_hold_80 : dcd cX8_hold 80 = some (.getfield 32, 83) := by decide +kernel
theorem dX8_hold_83 : dcd cX8_hold 83 = some (.iload 5, 85) := by decide +kernel
theorem dX8_hold_85 : dcd cX8_hold 85 = some (.iaload, 86) := by decide +kernel
theorem dX8_hold_86 : dcd cX8_hold 86 = some (.iconst 1, 87) := by decide +kernel
theorem dX8_hold_87 : dcd cX8_hold 87 = some (.invokevirtual 151, 90) := by decide +kernel
theorem dX8_hold_90 : dcd cX8_hold 90 = some (.goto 4, 93) := by decide +kernel
theorem dX8_hold_93 : dcd cX8_hold 93 = some (.iconst 0, 94) := by decide +kernel
theorem dX8_hold_94 : dcd cX8_hold 94 = some (.iadd, 95) := by decide +kernel
theorem dX8_hold_95 : dcd cX8_hold 95 = some (.istore 4, 97) := by decide +kernel
theorem dX8_hold_97 : dcd cX8_hold 97 = some (.iinc 5 1, 100) := by decide +kernel
theorem dX8_hold_100 : dcd cX8_hold 100 = some (.goto (-43), 103) := by decide +kernel
theorem dX8_hold_103 : dcd cX8_hold 103 = some (.aload_n 0, 104) := by decide +kernel
theorem dX8_hold_104 : dcd cX8_hold 104 = some (.getfield 65, 107) := by decide +kernel
theorem dX8_hold_107 : dcd cX8_hold 107 = some (.iload_n 3, 108) := by decide +kernel
theorem dX8_hold_108 : dcd cX8_hold 108 = some (.iload_n 3, 109) := by decide +kernel
theorem dX8_hold_109 : dcd cX8_hold 109 = some (.iload_n 2, 110) := by decide +kernel
theorem dX8_hold_110 : dcd cX8_hold 110 = some (.if_icmp .ne 7, 113) := by decide +kernel
theorem dX8_hold_113 : dcd cX8_hold 113 = some (.iconst 0, 114) := by decide +kernel
theorem dX8_hold_114 : dcd cX8_hold 114 = some (.goto 4, 117) := by decide +kernel
theorem dX8_hold_117 : dcd cX8_hold 117 = some (.iconst (-1), 118) := by decide +kernel
theorem dX8_hold_118 : dcd cX8_hold 118 = some (.iastore, 119) := by decide +kernel
theorem dX8_hold_119 : dcd cX8_hold 119 = some (.iconst 0, 120) := by decide +kernel
theorem dX8_hold_120 : dcd cX8_hold 120 = some (.istore 5, 122) := by decide +kernel
theorem dX8_hold_122 : dcd cX8_hold 122 = some (.iload 5, 124) := by decide +kernel
theorem dX8_hold_124 : dcd cX8_hold 124 = some (.aload_n 0, 125) := by decide +kernel
theorem dX8_hold_125 : dcd cX8_hold 125 = some (.getfield 160, 128) := by decide +kernel
theorem dX8_hold_128 : dcd cX8_hold 128 = some (.if_icmp .ge 88, 131) := by decide +kernel
theorem dX8_hold_131 : dcd cX8_hold 131 = some (.iload_n 3, 132) := by decide +kernel
theorem dX8_hold_132 : dcd cX8_hold 132 = some (.iload 5, 134) := by decide +kernel
theorem dX8_hold_134 : dcd cX8_hold 134 = some (.ishr, 135) := by decide +kernel
theorem dX8_hold_135 : dcd cX8_hold 135 = some (.iconst 1, 136) := by decide +kernel
theorem dX8_hold_136 : dcd cX8_hold 136 = some (.iand, 137) := by decide +kernel
theorem dX8_hold_137 : dcd cX8_hold 137 = some (.ifCond .ne 73, 140) := by decide +kernel
theorem dX8_hold_140 : dcd cX8_hold 140 = some (.aload_n 0, 141) := by decide +kernel
theorem dX8_hold_141 : dcd cX8_hold 141 = some (.getfield 65, 144) := by decide +kernel
theorem dX8_hold_144 : dcd cX8_hold 144 = some (.iload_n 3, 145) := by decide +kernel
theorem dX8_hold_145 : dcd cX8_hold 145 = some (.iconst 1, 146) := by decide +kernel
theorem dX8_hold_146 : dcd cX8_hold 146 = some (.iload 5, 148) := by decide +kernel
theorem dX8_hold_148 : dcd cX8_hold 148 = some (.ishl, 149) := by decide +kernel
theorem dX8_hold_149 : dcd cX8_hold 149 = some (.ior, 150) := by decide +kernel
theorem dX8_hold_150 : dcd cX8_hold 150 = some (.iaload, 151) := by decide +kernel
theorem dX8_hold_151 : dcd cX8_hold 151 = some (.aload_n 0, 152) := by decide +kernel
theorem dX8_hold_152 : dcd cX8_hold 152 = some (.getfield 19, 155) := by decide +kernel
theorem dX8_hold_155 : dcd cX8_hold 155 = some (.aload_n 0, 156) := by decide +kernel
theorem dX8_hold_156 : dcd cX8_hold 156 = some (.getfield 32, 159) := by decide +kernel
theorem dX8_hold_159 : dcd cX8_hold 159 = some (.iload 5, 161) := by decide +kernel
theorem dX8_hold_161 : dcd cX8_hold 161 = some (.iaload, 162) := by decide +kernel
theorem dX8_hold_162 : dcd cX8_hold 162 = some (.iaload, 163) := by decide +kernel
theorem dX8_hold_163 : dcd cX8_hold 163 = some (.iload 4, 165) := by decide +kernel
theorem dX8_hold_165 : dcd cX8_hold 165 = some (.aload_n 0, 166) := by decide +kernel
theorem dX8_hold_166 : dcd cX8_hold 166 = some (.aload_n 0, 167) := by decide +kernel
theorem dX8_hold_167 : dcd cX8_hold 167 = some (.getfield 32, 170) := by decide +kernel
theorem dX8_hold_170 : dcd cX8_hold 170 = some (.iload 5, 172) := by decide +kernel
theorem dX8_hold_172 : dcd cX8_hold 172 = some (.iaload, 173) := by decide +kernel
theorem dX8_hold_173 : dcd cX8_hold 173 = some (.iconst 1, 174) := by decide +kernel
theorem dX8_hold_174 : dcd cX8_hold 174 = some (.invokevirtual 151, 177) := by decide +kernel
theorem dX8_hold_177 : dcd cX8_hold 177 = some (.iadd, 178) := by decide +kernel
theorem dX8_hold_178 : dcd cX8_hold 178 = some (.imul, 179) := by decide +kernel
theorem dX8_hold_179 : dcd cX8_hold 179 = some (.iadd, 180) := by decide +kernel
theorem dX8_hold_180 : dcd cX8_hold 180 = some (.istore 6, 182) := by decide +kernel
theorem dX8_hold_182 : dcd cX8_hold 182 = some (.aload_n 0, 183) := by decide +kernel
theorem dX8_hold_183 : dcd cX8_hold 183 = some (.getfield 65, 186) := by decide +kernel
theorem dX8_hold_186 : dcd cX8_hold 186 = some (.iload_n 3, 187) := by decide +kernel
theorem dX8_hold_187 : dcd cX8_hold 187 = some (.iload 6, 189) := by decide +kernel
theorem dX8_hold_189 : dcd cX8_hold 189 = some (.aload_n 0, 190) := by decide +kernel
theorem dX8_hold_190 : dcd cX8_hold 190 = some (.getfield 65, 193) := by decide +kernel
theorem dX8_hold_193 : dcd cX8_hold 193 = some (.iload_n 3, 194) := by decide +kernel
theorem dX8_hold_194 : dcd cX8_hold 194 = some (.iaload, 195) := by decide +kernel
theorem dX8_hold_195 : dcd cX8_hold 195 = some (.if_icmp .le 8, 198) := by decide +kernel
theorem dX8_hold_198 : dcd cX8_hold 198 = some (.iload 6, 200) := by decide +kernel
theorem dX8_hold_200 : dcd cX8_hold 200 = some (.goto 9, 203) := by decide +kernel
theorem dX8_hold_203 : dcd cX8_hold 203 = some (.aload_n 0, 204) := by decide +kernel
theorem dX8_hold_204 : dcd cX8_hold 204 = some (.getfield 65, 207) := by decide +kernel
theorem dX8_hold_207 : dcd cX8_hold 207 = some (.iload_n 3, 208) := by decide +kernel
theorem dX8_hold_208 : dcd cX8_hold 208 = some (.iaload, 209) := by decide +kernel
theorem dX8_hold_209 : dcd cX8_hold 209 = some (.iastore, 210) := by decide +kernel
theorem dX8_hold_210 : dcd cX8_hold 210 = some (.iinc 5 1, 213) := by decide +kernel
theorem dX8_hold_213 : dcd cX8_hold 213 = some (.goto (-91), 216) := by decide +kernel
theorem dX8_hold_216 : dcd cX8_hold 216 = some (.iinc 3 (-1), 219) := by decide +kernel
theorem dX8_hold_219 : dcd cX8_hold 219 = some (.goto (-172), 222) := by decide +kernel
theorem dX8_hold_222 : dcd cX8_hold 222 = some (.iload_n 1, 223) := by decide +kernel
theorem dX8_hold_223 : dcd cX8_hold 223 = some (.ifCond .ne 10, 226) := by decide +kernel
theorem dX8_hold_226 : dcd cX8_hold 226 = some (.aload_n 0, 227) := by decide +kernel
theorem dX8_hold_227 : dcd cX8_hold 227 = some (.getfield 65, 230) := by decide +kernel
theorem dX8_hold_230 : dcd cX8_hold 230 = some (.iconst 0, 231) := by decide +kernel
theorem dX8_hold_231 : dcd cX8_hold 231 = some (.iaload, 232) := by decide +kernel
theorem dX8_hold_232 : dcd cX8_hold 232 = some (.ireturn, 233) := by decide +kernel
theorem dX8_hold_233 : dcd cX8_hold 233 = some (.iconst 0, 234) := by decide +kernel
theorem dX8_hold_234 : dcd cX8_hold 234 = some (.istore_n 3, 235) := by decide +kernel
theorem dX8_hold_235 : dcd cX8_hold 235 = some (.iconst 0, 236) := by decide +kernel
theorem dX8_hold_236 : dcd cX8_hold 236 = some (.istore 4, 238) := by decide +kernel
theorem dX8_hold_238 : dcd cX8_hold 238 = some (.iconst 0, 239) := by decide +kernel
theorem dX8_hold_239 : dcd cX8_hold 239 = some (.istore 5, 241) := by decide +kernel
theorem dX8_hold_241 : dcd cX8_hold 241 = some (.iload 4, 243) := by decide +kernel
theorem dX8_hold_243 : dcd cX8_hold 243 = some (.iload_n 2, 244) := by decide +kernel
theorem dX8_hold_244 : dcd cX8_hold 244 = some (.if_icmp .eq 116, 247) := by decide +kernel
theorem dX8_hold_247 : dcd cX8_hold 247 = some (.iconst 0, 248) := by decide +kernel
theorem dX8_hold_248 : dcd cX8_hold 248 = some (.istore 6, 250) := by decide +kernel
theorem dX8_hold_250 : dcd cX8_hold 250 = some (.iload 4, 252) := by decide +kernel
theorem dX8_hold_252 : dcd cX8_hold 252 = some (.iload 6, 254) := by decide +kernel
theorem dX8_hold_254 : dcd cX8_hold 254 = some (.ishr, 255) := by decide +kernel
theorem dX8_hold_255 : dcd cX8_hold 255 = some (.iconst 1, 256) := by decide +kernel
theorem dX8_hold_256 : dcd cX8_hold 256 = some (.iand, 257) := by decide +kernel
theorem dX8_hold_257 : dcd cX8_hold 257 = some (.iconst 1, 258) := by decide +kernel
theorem dX8_hold_258 : dcd cX8_hold 258 = some (.if_icmp .eq 54, 261) := by decide +kernel
theorem dX8_hold_261 : dcd cX8_hold 261 = some (.aload_n 0, 262) := by decide +kernel
theorem dX8_hold_262 : dcd cX8_hold 262 = some (.getfield 65, 265) := by decide +kernel
theorem dX8_hold_265 : dcd cX8_hold 265 = some (.iload 4, 267) := by decide +kernel
theorem dX8_hold_267 : dcd cX8_hold 267 = some (.iconst 1, 268) := by decide +kernel
theorem dX8_hold_268 : dcd cX8_hold 268 = some (.iload 6, 270) := by decide +kernel
theorem dX8_hold_270 : dcd cX8_hold 270 = some (.ishl, 271) := by decide +kernel
theorem dX8_hold_271 : dcd cX8_hold 271 = some (.ior, 272) := by decide +kernel
theorem dX8_hold_272 : dcd cX8_hold 272 = some (.iaload, 273) := by decide +kernel
theorem dX8_hold_273 : dcd cX8_hold 273 = some (.aload_n 0, 274) := by decide +kernel
theorem dX8_hold_274 : dcd cX8_hold 274 = some (.getfield 19, 277) := by decide +kernel
theorem dX8_hold_277 : dcd cX8_hold 277 = some (.aload_n 0, 278) := by decide +kernel
theorem dX8_hold_278 : dcd cX8_hold 278 = some (.getfield 32, 281) := by decide +kernel
theorem dX8_hold_281 : dcd cX8_hold 281 = some (.iload 6, 283) := by decide +kernel
theorem dX8_hold_283 : dcd cX8_hold 283 = some (.iaload, 284) := by decide +kernel
theorem dX8_hold_284 : dcd cX8_hold 284 = some (.iaload, 285) := by decide +kernel
theorem dX8_hold_285 : dcd cX8_hold 285 = some (.iload 5, 287) := by decide +kernel
theorem dX8_hold_287 : dcd cX8_hold 287 = some (.aload_n 0, 288) := by decide +kernel
theorem dX8_hold_288 : dcd cX8_hold 288 = some (.aload_n 0, 289) := by decide +kernel
theorem dX8_hold_289 : dcd cX8_hold 289 = some (.getfield 32, 292) := by decide +kernel
theorem dX8_hold_292 : dcd cX8_hold 292 = some (.iload 6, 294) := by decide +kernel
theorem dX8_hold_294 : dcd cX8_hold 294 = some (.iaload, 295) := by decide +kernel
theorem dX8_hold_295 : dcd cX8_hold 295 = some (.iconst 1, 296) := by decide +kernel
theorem dX8_hold_296 : dcd cX8_hold 296 = some (.invokevirtual 151, 299) := by decide +kernel
theorem dX8_hold_299 : dcd cX8_hold 299 = some (.iadd, 300) := by decide +kernel
theorem dX8_hold_300 : dcd cX8_hold 300 = some (.imul, 301) := by decide +kernel
theorem dX8_hold_301 : dcd cX8_hold 301 = some (.iadd, 302) := by decide +kernel
theorem dX8_hold_302 : dcd cX8_hold 302 = some (.aload_n 0, 303) := by decide +kernel
theorem dX8_hold_303 : dcd cX8_hold 303 = some (.getfield 65, 306) := by decide +kernel
theorem dX8_hold_306 : dcd cX8_hold 306 = some (.iload 4, 308) := by decide +kernel
theorem dX8_hold_308 : dcd cX8_hold 308 = some (.iaload, 309) := by decide +kernel
theorem dX8_hold_309 : dcd cX8_hold 309 = some (.if_icmp .eq 9, 312) := by decide +kernel
theorem dX8_hold_312 : dcd cX8_hold 312 = some (.iinc 6 1, 315) := by decide +kernel
theorem dX8_hold_315 : dcd cX8_hold 315 = some (.goto (-65), 318) := by decide +kernel
theorem dX8_hold_318 : dcd cX8_hold 318 = some (.bipush 10, 320) := by decide +kernel
theorem dX8_hold_320 : dcd cX8_hold 320 = some (.iload_n 3, 321) := by decide +kernel
theorem dX8_hold_321 : dcd cX8_hold 321 = some (.imul, 322) := by decide +kernel
theorem dX8_hold_322 : dcd cX8_hold 322 = some (.aload_n 0, 323) := by decide +kernel
theorem dX8_hold_323 : dcd cX8_hold 323 = some (.getfield 32, 326) := by decide +kernel
theorem dX8_hold_326 : dcd cX8_hold 326 = some (.iload 6, 328) := by decide +kernel
theorem dX8_hold_328 : dcd cX8_hold 328 = some (.iaload, 329) := by decide +kernel
theorem dX8_hold_329 : dcd cX8_hold 329 = some (.iadd, 330) := by decide +kernel
theorem dX8_hold_330 : dcd cX8_hold 330 = some (.istore_n 3, 331) := by decide +kernel
theorem dX8_hold_331 : dcd cX8_hold 331 = some (.iload 5, 333) := by decide +kernel
theorem dX8_hold_333 : dcd cX8_hold 333 = some (.aload_n 0, 334) := by decide +kernel
theorem dX8_hold_334 : dcd cX8_hold 334 = some (.aload_n 0, 335) := by decide +kernel
theorem dX8_hold_335 : dcd cX8_hold 335 = some (.getfield 32, 338) := by decide +kernel
theorem dX8_hold_338 : dcd cX8_hold 338 = some (.iload 6, 340) := by decide +kernel
theorem dX8_hold_340 : dcd cX8_hold 340 = some (.iaload, 341) := by decide +kernel
theorem dX8_hold_341 : dcd cX8_hold 341 = some (.iconst 1, 342) := by decide +kernel
theorem dX8_hold_342 : dcd cX8_hold 342 = some (.invokevirtual 151, 345) := by decide +kernel
theorem dX8_hold_345 : dcd cX8_hold 345 = some (.iadd, 346) := by decide +kernel
theorem dX8_hold_346 : dcd cX8_hold 346 = some (.istore 5, 348) := by decide +kernel
theorem dX8_hold_348 : dcd cX8_hold 348 = some (.iload 4, 350) := by decide +kernel
theorem dX8_hold_350 : dcd cX8_hold 350 = some (.iconst 1, 351) := by decide +kernel
theorem dX8_hold_351 : dcd cX8_hold 351 = some (.iload 6, 353) := by decide +kernel
theorem dX8_hold_353 : dcd cX8_hold 353 = some (.ishl, 354) := by decide +kernel
theorem dX8_hold_354 : dcd cX8_hold 354 = some (.ior, 355) := by decide +kernel
theorem dX8_hold_355 : dcd cX8_hold 355 = some (.istore 4, 357) := by decide +kernel
theorem dX8_hold_357 : dcd cX8_hold 357 = some (.goto (-116), 360) := by decide +kernel
theorem dX8_hold_360 : dcd cX8_hold 360 = some (.iload_n 3, 361) := by decide +kernel
theorem dX8_hold_361 : dcd cX8_hold 361 = some (.ireturn, 362) := by decide +kernel
theorem dX8_drawn_0 : dcd cX8_drawn 0 = some (.aload_n 0, 1) := by decide +kernel
theorem dX8_drawn_1 : dcd cX8_drawn 1 = some (.iconst 0, 2) := by decide +kernel
theorem dX8_drawn_2 : dcd cX8_drawn 2 = some (.putfield 68, 5) := by decide +kernel
theorem dX8_drawn_5 : dcd cX8_drawn 5 = some (.aload_n 0, 6) := by decide +kernel
theorem dX8_drawn_6 : dcd cX8_drawn 6 = some (.getfield 22, 9) := by decide +kernel
theorem dX8_drawn_9 : dcd cX8_drawn 9 = some (.iconst 0, 10) := by decide +kernel
theorem dX8_drawn_10 : dcd cX8_drawn 10 = some (.iaload, 11) := by decide +kernel
theorem dX8_drawn_11 : dcd cX8_drawn 11 = some (.ifCond .ne 6, 14) := by decide +kernel
theorem dX8_drawn_14 : dcd cX8_drawn 14 = some (.bipush (-2), 16) := by decide +kernel
theorem dX8_drawn_16 : dcd cX8_drawn 16 = some (.ireturn, 17) := by decide +kernel
theorem dX8_drawn_17 : dcd cX8_drawn 17 = some (.aload_n 0, 18) := by decide +kernel
theorem dX8_drawn_18 : dcd cX8_drawn 18 = some (.invokevirtual 175, 21) := by decide +kernel
theorem dX8_drawn_21 : dcd cX8_drawn 21 = some (.aload_n 0, 22) := by decide +kernel
theorem dX8_drawn_22 : dcd cX8_drawn 22 = some (.invokevirtual 178, 25) := by decide +kernel
theorem dX8_drawn_25 : dcd cX8_drawn 25 = some (.aload_n 0, 26) := by decide +kernel
theorem dX8_drawn_26 : dcd cX8_drawn 26 = some (.iconst 1, 27) := by decide +kernel
theorem dX8_drawn_27 : dcd cX8_drawn 27 = some (.invokevirtual 205, 30) := by decide +kernel
theorem dX8_drawn_30 : dcd cX8_drawn 30 = some (.ireturn, 31) := by decide +kernel
theorem dX8_lot_0 : dcd cX8_lot 0 = some (.aload_n 0, 1) := by decide +kernel
theorem dX8_lot_1 : dcd cX8_lot 1 = some (.iconst 0, 2) := by decide +kernel
theorem dX8_lot_2 : dcd cX8_lot 2 = some (.putfield 68, 5) := by decide +kernel
theorem dX8_lot_5 : dcd cX8_lot 5 = some (.aload_n 0, 6) := by decide +kernel
theorem dX8_lot_6 : dcd cX8_lot 6 = some (.getfield 22, 9) := by decide +kernel
theorem dX8_lot_9 : dcd cX8_lot 9 = some (.iconst 2, 10) := by decide +kernel
theorem dX8_lot_10 : dcd cX8_lot 10 = some (.iaload, 11) := by decide +kernel
theorem dX8_lot_11 : dcd cX8_lot 11 = some (.istore_n 2, 12) := by decide +kernel
theorem dX8_lot_12 : dcd cX8_lot 12 = some (.aload_n 0, 13) := by decide +kernel
theorem dX8_lot_13 : dcd cX8_lot 13 = some (.getfield 22, 16) := by decide +kernel
theorem dX8_lot_16 : dcd cX8_lot 16 = some (.iconst 2, 17) := by decide +kernel
theorem dX8_lot_17 : dcd cX8_lot 17 = some (.iload_n 1, 18) := by decide +kernel
theorem dX8_lot_18 : dcd cX8_lot 18 = some (.iastore, 19) := by decide +kernel
theorem dX8_lot_19 : dcd cX8_lot 19 = some (.iload_n 2, 20) := by decide +kernel
theorem dX8_lot_20 : dcd cX8_lot 20 = some (.ireturn, 21) := by decide +kernel
theorem dX8_rate_0 : dcd cX8_rate 0 = some (.aload_n 0, 1) := by decide +kernel
theorem dX8_rate_1 : dcd cX8_rate 1 = some (.iconst 0, 2) := by decide +kernel
theorem dX8_rate_2 : dcd cX8_rate 2 = some (.putfield 68, 5) := by decide +kernel
theorem dX8_rate_5 : dcd cX8_rate 5 = some (.iload_n 1, 6) := by decide +kernel
theorem dX8_rate_6 : dcd cX8_rate 6 = some (.iconst 0, 7) := by decide +kernel
theorem dX8_rate_7 : dcd cX8_rate 7 = some (.iconst 5, 8) := by decide +kernel
theorem dX8_rate_8 : dcd cX8_rate 8 = some (.invokestatic 72, 11) := by decide +kernel
theorem dX8_rate_11 : dcd cX8_rate 11 = some (.ifCond .eq 11, 14) := by decide +kernel
theorem dX8_rate_14 : dcd cX8_rate 14 = some (.aload_n 0, 15) := by decide +kernel
theorem dX8_rate_15 : dcd cX8_rate 15 = some (.iload_n 2, 16) := by decide +kernel
theorem dX8_rate_16 : dcd cX8_rate 16 = some (.invokevirtual 148, 19) := by decide +kernel
theorem dX8_rate_19 : dcd cX8_rate 19 = some (.ifCond .ne 6, 22) := by decide +kernel
theorem dX8_rate_22 : dcd cX8_rate 22 = some (.ldc 246, 24) := by decide +kernel
theorem dX8_rate_24 : dcd cX8_rate 24 = some (.ireturn, 25) := by decide +kernel
theorem dX8_rate_25 : dcd cX8_rate 25 = some (.aload_n 0, 26) := by decide +kernel
theorem dX8_rate_26 : dcd cX8_rate 26 = some (.iload_n 2, 27) := by decide +kernel
theorem dX8_rate_27 : dcd cX8_rate 27 = some (.iconst 2, 28) := by decide +kernel
theorem dX8_rate_28 : dcd cX8_rate 28 = some (.invokevirtual 151, 31) := by decide +kernel
theorem dX8_rate_31 : dcd cX8_rate 31 = some (.istore_n 3, 32) := by decide +kernel
theorem dX8_rate_32 : dcd cX8_rate 32 = some (.iload_n 3, 33) := by decide +kernel
theorem dX8_rate_33 : dcd cX8_rate 33 = some (.aload_n 0, 34) := by decide +kernel
theorem dX8_rate_34 : dcd cX8_rate 34 = some (.getfield 16, 37) := by decide +kernel
theorem dX8_rate_37 : dcd cX8_rate 37 = some (.iconst 4, 38) := by decide +kernel
theorem dX8_rate_38 : dcd cX8_rate 38 = some (.iaload, 39) := by decide +kernel
theorem dX8_rate_39 : dcd cX8_rate 39 = some (.iadd, 40) := by decide +kernel
theorem dX8_rate_40 : dcd cX8_rate 40 = some (.istore 4, 42) := by decide +kernel
theorem dX8_rate_42 : dcd cX8_rate 42 = some (.iload_n 3, 43) := by decide +kernel
theorem dX8_rate_43 : dcd cX8_rate 43 = some (.aload_n 0, 44) := by decide +kernel
theorem dX8_rate_44 : dcd cX8_rate 44 = some (.iload_n 2, 45) := by decide +kernel
theorem dX8_rate_45 : dcd cX8_rate 45 = some (.iconst 4, 46) := by decide +kernel
theorem dX8_rate_46 : dcd cX8_rate 46 = some (.invokevirtual 151, 49) := by decide +kernel
theorem dX8_rate_49 : dcd cX8_rate 49 = some (.isub, 50) := by decide +kernel
theorem dX8_rate_50 : dcd cX8_rate 50 = some (.aload_n 0, 51) := by decide +kernel
theorem dX8_rate_51 : dcd cX8_rate 51 = some (.iload_n 2, 52) := by decide +kernel
theorem dX8_rate_52 : dcd cX8_rate 52 = some (.iconst 5, 53) := by decide +kernel
theorem dX8_rate_53 : dcd cX8_rate 53 = some (.invokevirtual 151, 56) := by decide +kernel
theorem dX8_rate_56 : dcd cX8_rate 56 = some (.isub, 57) := by decide +kernel
theorem dX8_rate_57 : dcd cX8_rate 57 = some (.istore 5, 59) := by decide +kernel
theorem dX8_rate_59 : dcd cX8_rate 59 = some (.aload_n 0, 60) := by decide +kernel
theorem dX8_rate_60 : dcd cX8_rate 60 = some (.dup, 61) := by decide +kernel
theorem dX8_rate_61 : dcd cX8_rate 61 = some (.getfield 251, 64) := by decide +kernel
theorem dX8_rate_64 : dcd cX8_rate 64 = some (.iload_n 1, 65) := by decide +kernel
theorem dX8_rate_65 : dcd cX8_rate 65 = some (.ifCond .ne 7, 68) := by decide +kernel
theorem dX8_rate_68 : dcd cX8_rate 68 = some (.lconst 1, 69) := by decide +kernel
theorem dX8_rate_69 : dcd cX8_rate 69 = some (.goto 50, 72) := by decide +kernel
theorem dX8_rate_72 : dcd cX8_rate 72 = some (.iload_n 1, 73) := by decide +kernel
theorem dX8_rate_73 : dcd cX8_rate 73 = some (.iconst 1, 74) := by decide +kernel
theorem dX8_rate_74 : dcd cX8_rate 74 = some (.if_icmp .ne 9, 77) := by decide +kernel
theorem dX8_rate_77 : dcd cX8_rate 77 = some (.ldc2_w 255, 80) := by decide +kernel
theorem dX8_rate_80 : dcd cX8_rate 80 = some (.goto 39, 83) := by decide +kernel
theorem dX8_rate_83 : dcd cX8_rate 83 = some (.iload_n 1, 84) := by decide +kernel
theorem dX8_rate_84 : dcd cX8_rate 84 = some (.iconst 2, 85) := by decide +kernel
theorem dX8_rate_85 : dcd cX8_rate 85 = some (.if_icmp .ne 9, 88) := by decide +kernel
theorem dX8_rate_88 : dcd cX8_rate 88 = some (.ldc2_w 257, 91) := by decide +kernel
theorem dX8_rate_91 : dcd cX8_rate 91 = some (.goto 28, 94) := by decide +kernel
theorem dX8_rate_94 : dcd cX8_rate 94 = some (.iload_n 1, 95) := by decide +kernel
theorem dX8_rate_95 : dcd cX8_rate 95 = some (.iconst 3, 96) := by decide +kernel
theorem dX8_rate_96 : dcd cX8_rate 96 = some (.if_icmp .ne 9, 99) := by decide +kernel
theorem dX8_rate_99 : dcd cX8_rate 99 = some (.ldc2_w 259, 102) := by decide +kernel
theorem dX8_rate_102 : dcd cX8_rate 102 = some (.goto 17, 105) := by decide +kernel
theorem dX8_rate_105 : dcd cX8_rate 105 = some (.iload_n 1, 106) := by decide +kernel
theorem dX8_rate_106 : dcd cX8_rate 106 = some (.iconst 4, 107) := by decide +kernel
theorem dX8_rate_107 : dcd cX8_rate 107 = some (.if_icmp .ne 9, 110) := by decide +kernel
theorem dX8_rate_110 : dcd cX8_rate 110 = some (.ldc2_w 261, 113) := by decide +kernel
theorem dX8_rate_113 : dcd cX8_rate 113 = some (.goto 6, 116) := by decide +kernel
theorem dX8_rate_116 : dcd cX8_rate 116 = some (.ldc2_w 263, 119) := by decide +kernel
theorem dX8_rate_119 : dcd cX8_rate 119 = some (.ladd, 120) := by decide +kernel
theorem dX8_rate_120 : dcd cX8_rate 120 = some (.putfield 251, 123) := by decide +kernel
theorem dX8_rate_123 : dcd cX8_rate 123 = some (.iload_n 1, 124) := by decide +kernel
theorem dX8_rate_124 : dcd cX8_rate 124 = some (.ifCond .ne 7, 127) := by decide +kernel
theorem dX8_rate_127 : dcd cX8_rate 127 = some (.iload_n 3, 128) := by decide +kernel
theorem dX8_rate_128 : dcd cX8_rate 128 = some (.goto 60, 131) := by decide +kernel
theorem dX8_rate_131 : dcd cX8_rate 131 = some (.iload_n 1, 132) := by decide +kernel
theorem dX8_rate_132 : dcd cX8_rate 132 = some (.iconst 1, 133) := by decide +kernel
theorem dX8_rate_133 : dcd cX8_rate 133 = some (.if_icmp .ne 8, 136) := by decide +kernel
theorem dX8_rate_136 : dcd cX8_rate 136 = some (.iload 4, 138) := by decide +kernel
theorem dX8_rate_138 : dcd cX8_rate 138 = some (.goto 50, 141) := by decide +kernel
theorem dX8_rate_141 : dcd cX8_rate 141 = some (.iload_n 1, 142) := by decide +kernel
theorem dX8_rate_142 : dcd cX8_rate 142 = some (.iconst 2, 143) := by decide +kernel
theorem dX8_rate_143 : dcd cX8_rate 143 = some (.if_icmp .ne 14, 146) := by decide +kernel
theorem dX8_rate_146 : dcd cX8_rate 146 = some (.iload_n 3, 147) := by decide +kernel
theorem dX8_rate_147 : dcd cX8_rate 147 = some (.aload_n 0, 148) := by decide +kernel
theorem dX8_rate_148 : dcd cX8_rate 148 = some (.iload_n 2, 149) := by decide +kernel
theorem dX8_rate_149 : dcd cX8_rate 149 = some (.iconst 1, 150) := by decide +kernel
theorem dX8_rate_150 : dcd cX8_rate 150 = some (.invokevirtual 151, 153) := by decide +kernel
theorem dX8_rate_153 : dcd cX8_rate 153 = some (.iadd, 154) := by decide +kernel
theorem dX8_rate_154 : dcd cX8_rate 154 = some (.goto 34, 157) := by decide +kernel
theorem dX8_rate_157 : dcd cX8_rate 157 = some (.iload_n 1, 158) := by decide +kernel
theorem dX8_rate_158 : dcd cX8_rate 158 = some (.iconst 3, 159) := by decide +kernel
theorem dX8_rate_159 : dcd cX8_rate 159 = some (.if_icmp .ne 10, 162) := by decide +kernel
theorem dX8_rate_162 : dcd cX8_rate 162 = some (.iconst 2, 163) := by decide +kernel
theorem dX8_rate_163 : dcd cX8_rate 163 = some (.iload 4, 165) := by decide +kernel
theorem dX8_rate_165 : dcd cX8_rate 165 = some (.imul, 166) := by decide +kernel
theorem dX8_rate_166 : dcd cX8_rate 166 = some (.goto 22, 169) := by decide +kernel
theorem dX8_rate_169 : dcd cX8_rate 169 = some (.iload_n 1, 170) := by decide +kernel
theorem dX8_rate_170 : dcd cX8_rate 170 = some (.iconst 4, 171) := by decide +kernel
theorem dX8_rate_171 : dcd cX8_rate 171 = some (.if_icmp .ne 15, 174) := by decide +kernel
theorem dX8_rate_174 : dcd cX8_rate 174 = some (.iload 5, 176) := by decide +kernel
theorem dX8_rate_176 : dcd cX8_rate 176 = some (.aload_n 0, 177) := by decide +kernel
theorem dX8_rate_177 : dcd cX8_rate 177 = some (.getfield 19, 180) := by decide +kernel
theorem dX8_rate_180 : dcd cX8_rate 180 = some (.iload_n 2, 181) := by decide +kernel
theorem dX8_rate_181 : dcd cX8_rate 181 = some (.iaload, 182) := by decide +kernel
theorem dX8_rate_182 : dcd cX8_rate 182 = some (.iadd, 183) := by decide +kernel
theorem dX8_rate_183 : dcd cX8_rate 183 = some (.goto 5, 186) := by decide +kernel
theorem dX8_rate_186 : dcd cX8_rate 186 = some (.iload 5, 188) := by decide +kernel
theorem dX8_rate_188 : dcd cX8_rate 188 = some (.ireturn, 189) := by decide +kernel
theorem dX8_keep_0 : dcd cX8_keep 0 = some (.aload_n 0, 1) := by decide +kernel
theorem dX8_keep_1 : dcd cX8_keep 1 = some (.iconst 0, 2) := by decide +kernel
theorem dX8_keep_2 : dcd cX8_keep 2 = some (.putfield 68, 5) := by decide +kernel
theorem dX8_keep_5 : dcd cX8_keep 5 = some (.iload_n 1, 6) := by decide +kernel
theorem dX8_keep_6 : dcd cX8_keep 6 = some (.iconst 0, 7) := by decide +kernel
theorem dX8_keep_7 : dcd cX8_keep 7 = some (.iconst 1, 8) := by decide +kernel
theorem dX8_keep_8 : dcd cX8_keep 8 = some (.invokestatic 72, 11) := by decide +kernel
theorem dX8_keep_11 : dcd cX8_keep 11 = some (.ifCond .ne 5, 14) := by decide +kernel
theorem dX8_keep_14 : dcd cX8_keep 14 = some (.iconst (-1), 15) := by decide +kernel
theorem dX8_keep_15 : dcd cX8_keep 15 = some (.ireturn, 16) := by decide +kernel
theorem dX8_keep_16 : dcd cX8_keep 16 = some (.iconst 0, 17) := by decide +kernel
theorem dX8_keep_17 : dcd cX8_keep 17 = some (.istore_n 2, 18) := by decide +kernel
theorem dX8_keep_18 : dcd cX8_keep 18 = some (.iload_n 2, 19) := by decide +kernel
theorem dX8_keep_19 : dcd cX8_keep 19 = some (.bipush 12, 21) := by decide +kernel
theorem dX8_keep_21 : dcd cX8_keep 21 = some (.if_icmp .ge 26, 24) := by decide +kernel
theorem dX8_keep_24 : dcd cX8_keep 24 = some (.aload_n 0, 25) := by decide +kernel
theorem dX8_keep_25 : dcd cX8_keep 25 = some (.getfield 25, 28) := by decide +kernel
theorem dX8_keep_28 : dcd cX8_keep 28 = some (.bipush 12, 30) := by decide +kernel
theorem dX8_keep_30 : dcd cX8_keep 30 = some (.iload_n 1, 31) := by decide +kernel
theorem dX8_keep_31 : dcd cX8_keep 31 = some (.imul, 32) := by decide +kernel
theorem dX8_keep_32 : dcd cX8_keep 32 = some (.iload_n 2, 33) := by decide +kernel
theorem dX8_keep_33 : dcd cX8_keep 33 = some (.iadd, 34) := by decide +kernel
theorem dX8_keep_34 : dcd cX8_keep 34 = some (.aload_n 0, 35) := by decide +kernel
theorem dX8_keep_35 : dcd cX8_keep 35 = some (.getfield 22, 38) := by decide +kernel
theorem dX8_keep_38 : dcd cX8_keep 38 = some (.iload_n 2, 39) := by decide +kernel
theorem dX8_keep_39 : dcd cX8_keep 39 = some (.iaload, 40) := by decide +kernel
theorem dX8_keep_40 : dcd cX8_keep 40 = some (.iastore, 41) := by decide +kernel
theorem dX8_keep_41 : dcd cX8_keep 41 = some (.iinc 2 1, 44) := by decide +kernel
theorem dX8_keep_44 : dcd cX8_keep 44 = some (.goto (-26), 47) := by decide +kernel
theorem dX8_keep_47 : dcd cX8_keep 47 = some (.aload_n 0, 48) := by decide +kernel
theorem dX8_keep_48 : dcd cX8_keep 48 = some (.getfield 28, 51) := by decide +kernel
theorem dX8_keep_51 : dcd cX8_keep 51 = some (.iload_n 1, 52) := by decide +kernel
theorem dX8_keep_52 : dcd cX8_keep 52 = some (.iconst 1, 53) := by decide +kernel
theorem dX8_keep_53 : dcd cX8_keep 53 = some (.bastore, 54) := by decide +kernel
theorem dX8_keep_54 : dcd cX8_keep 54 = some (.aload_n 0, 55) := by decide +kernel
theorem dX8_keep_55 : dcd cX8_keep 55 = some (.getfield 22, 58) := by decide +kernel
theorem dX8_keep_58 : dcd cX8_keep 58 = some (.iconst 0, 59) := by decide +kernel
theorem dX8_keep_59 : dcd cX8_keep 59 = some (.iaload, 60) := by decide +kernel
theorem dX8_keep_60 : dcd cX8_keep 60 = some (.ireturn, 61) := by decide +kernel
theorem dX8_back_0 : dcd cX8_back 0 = some (.aload_n 0, 1) := by decide +kernel
theorem dX8_back_1 : dcd cX8_back 1 = some (.iconst 0, 2) := by decide +kernel
theorem dX8_back_2 : dcd cX8_back 2 = some (.putfield 68, 5) := by decide +kernel
theorem dX8_back_5 : dcd cX8_back 5 = some (.iload_n 1, 6) := by decide +kernel
theorem dX8_back_6 : dcd cX8_back 6 = some (.iconst 0, 7) := by decide +kernel
theorem dX8_back_7 : dcd cX8_back 7 = some (.iconst 1, 8) := by decide +kernel
theorem dX8_back_8 : dcd cX8_back 8 = some (.invokestatic 72, 11) := by decide +kernel
theorem dX8_back_11 : dcd cX8_back 11 = some (.ifCond .ne 5, 14) := by decide +kernel
theorem dX8_back_14 : dcd cX8_back 14 = some (.iconst (-1), 15) := by decide +kernel
theorem dX8_back_15 : dcd cX8_back 15 = some (.ireturn, 16) := by decide +kernel
theorem dX8_back_16 : dcd cX8_back 16 = some (.aload_n 0, 17) := by decide +kernel
theorem dX8_back_17 : dcd cX8_back 17 = some (.getfield 28, 20) := by decide +kernel
theorem dX8_back_20 : dcd cX8_back 20 = some (.iload_n 1, 21) := by decide +kernel
theorem dX8_back_21 : dcd cX8_back 21 = some (.baload, 22) := by decide +kernel
theorem dX8_back_22 : dcd cX8_back 22 = some (.ifCond .ne 6, 25) := by decide +kernel
theorem dX8_back_25 : dcd cX8_back 25 = some (.bipush (-2), 27) := by decide +kernel
theorem dX8_back_27 : dcd cX8_back 27 = some (.ireturn, 28) := by decide +kernel
theorem dX8_back_28 : dcd cX8_back 28 = some (.iconst 0, 29) := by decide +kernel
theorem dX8_back_29 : dcd cX8_back 29 = some (.istore_n 2, 30) := by decide +kernel
theorem dX8_back_30 : dcd cX8_back 30 = some (.iload_n 2, 31) := by decide +kernel
theorem dX8_back_31 : dcd cX8_back 31 = some (.bipush 12, 33) := by decide +kernel
theorem dX8_back_33 : dcd cX8_back 33 = some (.if_icmp .ge 26, 36) := by decide +kernel
theorem dX8_back_36 : dcd cX8_back 36 = some (.aload_n 0, 37) := by decide +kernel
theorem dX8_back_37 : dcd cX8_back 37 = some (.getfield 22, 40) := by decide +kernel
theorem dX8_back_40 : dcd cX8_back 40 = some (.iload_n 2, 41) := by decide +kernel
theorem dX8_back_41 : dcd cX8_back 41 = some (.aload_n 0, 42) := by decide +kernel
theorem dX8_back_42 : dcd cX8_back 42 = some (.getfield 25, 45) := by decide +kernel
theorem dX8_back_45 : dcd cX8_back 45 = some (.bipush 12, 47) := by decide +kernel
theorem dX8_back_47 : dcd cX8_back 47 = some (.iload_n 1, 48) := by decide +kernel
theorem dX8_back_48 : dcd cX8_back 48 = some (.imul, 49) := by decide +kernel
theorem dX8_back_49 : dcd cX8_back 49 = some (.iload_n 2, 50) := by decide +kernel
theorem dX8_back_50 : dcd cX8_back 50 = some (.iadd, 51) := by decide +kernel
theorem dX8_back_51 : dcd cX8_back 51 = some (.iaload, 52) := by decide +kernel
theorem dX8_back_52 : dcd cX8_back 52 = some (.iastore, 53) := by decide +kernel
theorem dX8_back_53 : dcd cX8_back 53 = some (.iinc 2 1, 56) := by decide +kernel
theorem dX8_back_56 : dcd cX8_back 56 = some (.goto (-26), 59) := by decide +kernel
theorem dX8_back_59 : dcd cX8_back 59 = some (.aload_n 0, 60) := by decide +kernel
theorem dX8_back_60 : dcd cX8_back 60 = some (.getfield 22, 63) := by decide +kernel
theorem dX8_back_63 : dcd cX8_back 63 = some (.iconst 0, 64) := by decide +kernel
theorem dX8_back_64 : dcd cX8_back 64 = some (.iaload, 65) := by decide +kernel
theorem dX8_back_65 : dcd cX8_back 65 = some (.ireturn, 66) := by decide +kernel
theorem dX8_count_0 : dcd cX8_count 0 = some (.aload_n 0, 1) := by decide +kernel
theorem dX8_count_1 : dcd cX8_count 1 = some (.iconst 0, 2) := by decide +kernel
theorem dX8_count_2 : dcd cX8_count 2 = some (.putfield 68, 5) := by decide +kernel
theorem dX8_count_5 : dcd cX8_count 5 = some (.iload_n 1, 6) := by decide +kernel
theorem dX8_count_6 : dcd cX8_count 6 = some (.ifCond .ne 10, 9) := by decide +kernel
theorem dX8_count_9 : dcd cX8_count 9 = some (.aload_n 0, 10) := by decide +kernel
theorem dX8_count_10 : dcd cX8_count 10 = some (.getfield 142, 13) := by decide +kernel
theorem dX8_count_13 : dcd cX8_count 13 = some (.goto 56, 16) := by decide +kernel
theorem dX8_count_16 : dcd cX8_count 16 = some (.iload_n 1, 17) := by decide +kernel
theorem dX8_count_17 : dcd cX8_count 17 = some (.iconst 1, 18) := by decide +kernel
theorem dX8_count_18 : dcd cX8_count 18 = some (.if_icmp .ne 12, 21) := by decide +kernel
theorem dX8_count_21 : dcd cX8_count 21 = some (.aload_n 0, 22) := by decide +kernel
theorem dX8_count_22 : dcd cX8_count 22 = some (.getfield 22, 25) := by decide +kernel
theorem dX8_count_25 : dcd cX8_count 25 = some (.iconst 0, 26) := by decide +kernel
theorem dX8_count_26 : dcd cX8_count 26 = some (.iaload, 27) := by decide +kernel
theorem dX8_count_27 : dcd cX8_count 27 = some (.goto 42, 30) := by decide +kernel
theorem dX8_count_30 : dcd cX8_count 30 = some (.iload_n 1, 31) := by decide +kernel
theorem dX8_count_31 : dcd cX8_count 31 = some (.iconst 2, 32) := by decide +kernel
theorem dX8_count_32 : dcd cX8_count 32 = some (.if_icmp .ne 12, 35) := by decide +kernel
theorem dX8_count_35 : dcd cX8_count 35 = some (.aload_n 0, 36) := by decide +kernel
theorem dX8_count_36 : dcd cX8_count 36 = some (.getfield 22, 39) := by decide +kernel
theorem dX8_count_39 : dcd cX8_count 39 = some (.iconst 1, 40) := by decide +kernel
theorem dX8_count_40 : dcd cX8_count 40 = some (.iaload, 41) := by decide +kernel
theorem dX8_count_41 : dcd cX8_count 41 = some (.goto 28, 44) := by decide +kernel
theorem dX8_count_44 : dcd cX8_count 44 = some (.iload_n 1, 45) := by decide +kernel
theorem dX8_count_45 : dcd cX8_count 45 = some (.iconst 3, 46) := by decide +kernel
theorem dX8_count_46 : dcd cX8_count 46 = some (.if_icmp .ne 10, 49) := by decide +kernel
theorem dX8_count_49 : dcd cX8_count 49 = some (.aload_n 0, 50) := by decide +kernel
theorem dX8_count_50 : dcd cX8_count 50 = some (.getfield 145, 53) := by decide +kernel
theorem dX8_count_53 : dcd cX8_count 53 = some (.goto 16, 56) := by decide +kernel
theorem dX8_count_56 : dcd cX8_count 56 = some (.iload_n 1, 57) := by decide +kernel
theorem dX8_count_57 : dcd cX8_count 57 = some (.iconst 4, 58) := by decide +kernel
theorem dX8_count_58 : dcd cX8_count 58 = some (.if_icmp .ne 10, 61) := by decide +kernel
theorem dX8_count_61 : dcd cX8_count 61 = some (.aload_n 0, 62) := by decide +kernel
theorem dX8_count_62 : dcd cX8_count 62 = some (.getfield 76, 65) := by decide +kernel
theorem dX8_count_65 : dcd cX8_count 65 = some (.goto 4, 68) := by decide +kernel
theorem dX8_count_68 : dcd cX8_count 68 = some (.iconst (-1), 69) := by decide +kernel
theorem dX8_count_69 : dcd cX8_count 69 = some (.ireturn, 70) := by decide +kernel
theorem dX8_trace_0 : dcd cX8_trace 0 = some (.aload_n 0, 1) := by decide +kernel
theorem dX8_trace_1 : dcd cX8_trace 1 = some (.iconst 0, 2) := by decide +kernel
theorem dX8_trace_2 : dcd cX8_trace 2 = some (.putfield 68, 5) := by decide +kernel
theorem dX8_trace_5 : dcd cX8_trace 5 = some (.aload_n 0, 6) := by decide +kernel
theorem dX8_trace_6 : dcd cX8_trace 6 = some (.getfield 251, 9) := by decide +kernel
theorem dX8_trace_9 : dcd cX8_trace 9 = some (.lreturn, 10) := by decide +kernel
theorem dJ6_bitCount_0f7a4_0 : dcd cJ6_bitCount_0f7a4 0 = some (.iload_n 0, 1) := by decide +kernel
theorem dJ6_bitCount_0f7a4_1 : dcd cJ6_bitCount_0f7a4 1 = some (.iload_n 0, 2) := by decide +kernel
theorem dJ6_bitCount_0f7a4_2 : dcd cJ6_bitCount_0f7a4 2 = some (.iconst 1, 3) := by decide +kernel
theorem dJ6_bitCount_0f7a4_3 : dcd cJ6_bitCount_0f7a4 3 = some (.iushr, 4) := by decide +kernel
theorem dJ6_bitCount_0f7a4_4 : dcd cJ6_bitCount_0f7a4 4 = some (.ldc_w 265, 7) := by decide +kernel
theorem dJ6_bitCount_0f7a4_7 : dcd cJ6_bitCount_0f7a4 7 = some (.iand, 8) := by decide +kernel
theorem dJ6_bitCount_0f7a4_8 : dcd cJ6_bitCount_0f7a4 8 = some (.isub, 9) := by decide +kernel
theorem dJ6_bitCount_0f7a4_9 : dcd cJ6_bitCount_0f7a4 9 = some (.istore_n 0, 10) := by decide +kernel
theorem dJ6_bitCount_0f7a4_10 : dcd cJ6_bitCount_0f7a4 10 = some (.iload_n 0, 11) := by decide +kernel
theorem dJ6_bitCount_0f7a4_11 : dcd cJ6_bitCount_0f7a4 11 = some (.ldc_w 266, 14) := by decide +kernel
theorem dJ6_bitCount_0f7a4_14 : dcd cJ6_bitCount_0f7a4 14 = some (.iand, 15) := by decide +kernel
theorem dJ6_bitCount_0f7a4_15 : dcd cJ6_bitCount_0f7a4 15 = some (.iload_n 0, 16) := by decide +kernel
theorem dJ6_bitCount_0f7a4_16 : dcd cJ6_bitCount_0f7a4 16 = some (.iconst 2, 17) := by decide +kernel
theorem dJ6_bitCount_0f7a4_17 : dcd cJ6_bitCount_0f7a4 17 = some (.iushr, 18) := by decide +kernel
theorem dJ6_bitCount_0f7a4_18 : dcd cJ6_bitCount_0f7a4 18 = some (.ldc_w 266, 21) := by decide +kernel
theorem dJ6_bitCount_0f7a4_21 : dcd cJ6_bitCount_0f7a4 21 = some (.iand, 22) := by decide +kernel
theorem dJ6_bitCount_0f7a4_22 : dcd cJ6_bitCount_0f7a4 22 = some (.iadd, 23) := by decide +kernel
theorem dJ6_bitCount_0f7a4_23 : dcd cJ6_bitCount_0f7a4 23 = some (.istore_n 0, 24) := by decide +kernel
theorem dJ6_bitCount_0f7a4_24 : dcd cJ6_bitCount_0f7a4 24 = some (.iload_n 0, 25) := by decide +kernel
theorem dJ6_bitCount_0f7a4_25 : dcd cJ6_bitCount_0f7a4 25 = some (.iload_n 0, 26) := by decide +kernel
theorem dJ6_bitCount_0f7a4_26 : dcd cJ6_bitCount_0f7a4 26 = some (.iconst 4, 27) := by decide +kernel
theorem dJ6_bitCount_0f7a4_27 : dcd cJ6_bitCount_0f7a4 27 = some (.iushr, 28) := by decide +kernel
theorem dJ6_bitCount_0f7a4_28 : dcd cJ6_bitCount_0f7a4 28 = some (.iadd, 29) := by decide +kernel
theorem dJ6_bitCount_0f7a4_29 : dcd cJ6_bitCount_0f7a4 29 = some (.ldc_w 267, 32) := by decide +kernel
theorem dJ6_bitCount_0f7a4_32 : dcd cJ6_bitCount_0f7a4 32 = some (.iand, 33) := by decide +kernel
theorem dJ6_bitCount_0f7a4_33 : dcd cJ6_bitCount_0f7a4 33 = some (.istore_n 0, 34) := by decide +kernel
theorem dJ6_bitCount_0f7a4_34 : dcd cJ6_bitCount_0f7a4 34 = some (.iload_n 0, 35) := by decide +kernel
theorem dJ6_bitCount_0f7a4_35 : dcd cJ6_bitCount_0f7a4 35 = some (.iload_n 0, 36) := by decide +kernel
theorem dJ6_bitCount_0f7a4_36 : dcd cJ6_bitCount_0f7a4 36 = some (.bipush 8, 38) := by decide +kernel
theorem dJ6_bitCount_0f7a4_38 : dcd cJ6_bitCount_0f7a4 38 = some (.iushr, 39) := by decide +kernel
theorem dJ6_bitCount_0f7a4_39 : dcd cJ6_bitCount_0f7a4 39 = some (.iadd, 40) := by decide +kernel
theorem dJ6_bitCount_0f7a4_40 : dcd cJ6_bitCount_0f7a4 40 = some (.istore_n 0, 41) := by decide +kernel
theorem dJ6_bitCount_0f7a4_41 : dcd cJ6_bitCount_0f7a4 41 = some (.iload_n 0, 42) := by decide +kernel
theorem dJ6_bitCount_0f7a4_42 : dcd cJ6_bitCount_0f7a4 42 = some (.iload_n 0, 43) := by decide +kernel
theorem dJ6_bitCount_0f7a4_43 : dcd cJ6_bitCount_0f7a4 43 = some (.bipush 16, 45) := by decide +kernel
theorem dJ6_bitCount_0f7a4_45 : dcd cJ6_bitCount_0f7a4 45 = some (.iushr, 46) := by decide +kernel
theorem dJ6_bitCount_0f7a4_46 : dcd cJ6_bitCount_0f7a4 46 = some (.iadd, 47) := by decide +kernel
theorem dJ6_bitCount_0f7a4_47 : dcd cJ6_bitCount_0f7a4 47 = some (.istore_n 0, 48) := by decide +kernel
theorem dJ6_bitCount_0f7a4_48 : dcd cJ6_bitCount_0f7a4 48 = some (.iload_n 0, 49) := by decide +kernel
theorem dJ6_bitCount_0f7a4_49 : dcd cJ6_bitCount_0f7a4 49 = some (.bipush 63, 51) := by decide +kernel
theorem dJ6_bitCount_0f7a4_51 : dcd cJ6_bitCount_0f7a4 51 = some (.iand, 52) := by decide +kernel
theorem dJ6_bitCount_0f7a4_52 : dcd cJ6_bitCount_0f7a4 52 = some (.ireturn, 53) := by decide +kernel
theorem dJ9_abs_0f7a4_0 : dcd cJ9_abs_0f7a4 0 = some (.iload_n 0, 1) := by decide +kernel
theorem dJ9_abs_0f7a4_1 : dcd cJ9_abs_0f7a4 1 = some (.ifCond .ge 8, 4) := by decide +kernel
theorem dJ9_abs_0f7a4_4 : dcd cJ9_abs_0f7a4 4 = some (.iload_n 0, 5) := by decide +kernel
theorem dJ9_abs_0f7a4_5 : dcd cJ9_abs_0f7a4 5 = some (.ineg, 6) := by decide +kernel
theorem dJ9_abs_0f7a4_6 : dcd cJ9_abs_0f7a4 6 = some (.goto 4, 9) := by decide +kernel
theorem dJ9_abs_0f7a4_9 : dcd cJ9_abs_0f7a4 9 = some (.iload_n 0, 10) := by decide +kernel
theorem dJ9_abs_0f7a4_10 : dcd cJ9_abs_0f7a4 10 = some (.ireturn, 11) := by decide +kernel
theorem dJ9_abs_067f4_0 : dcd cJ9_abs_067f4 0 = some (.lload_n 0, 1) := by decide +kernel
theorem dJ9_abs_067f4_1 : dcd cJ9_abs_067f4 1 = some (.lconst 0, 2) := by decide +kernel
theorem dJ9_abs_067f4_2 : dcd cJ9_abs_067f4 2 = some (.lcmp, 3) := by decide +kernel
theorem dJ9_abs_067f4_3 : dcd cJ9_abs_067f4 3 = some (.ifCond .ge 8, 6) := by decide +kernel
theorem dJ9_abs_067f4_6 : dcd cJ9_abs_067f4 6 = some (.lload_n 0, 7) := by decide +kernel
theorem dJ9_abs_067f4_7 : dcd cJ9_abs_067f4 7 = some (.lneg, 8) := by decide +kernel
theorem dJ9_abs_067f4_8 : dcd cJ9_abs_067f4 8 = some (.goto 4, 11) := by decide +kernel
theorem dJ9_abs_067f4_11 : dcd cJ9_abs_067f4 11 = some (.lload_n 0, 12) := by decide +kernel
theorem dJ9_abs_067f4_12 : dcd cJ9_abs_067f4 12 = some (.lreturn, 13) := by decide +kernel
theorem dJ9_max_7cf53_0 : dcd cJ9_max_7cf53 0 = some (.iload_n 0, 1) := by decide +kernel
theorem dJ9_max_7cf53_1 : dcd cJ9_max_7cf53 1 = some (.iload_n 1, 2) := by decide +kernel
theorem dJ9_max_7cf53_2 : dcd cJ9_max_7cf53 2 = some (.if_icmp .lt 7, 5) := by decide +kernel
theorem dJ9_max_7cf53_5 : dcd cJ9_max_7cf53 5 = some (.iload_n 0, 6) := by decide +kernel
theorem dJ9_max_7cf53_6 : dcd cJ9_max_7cf53 6 = some (.goto 4, 9) := by decide +kernel
theorem dJ9_max_7cf53_9 : dcd cJ9_max_7cf53 9 = some (.iload_n 1, 10) := by decide +kernel
theorem dJ9_max_7cf53_10 : dcd cJ9_max_7cf53 10 = some (.ireturn, 11) := by decide +kernel
theorem dJ9_min_7cf53_0 : dcd cJ9_min_7cf53 0 = some (.iload_n 0, 1) := by decide +kernel
theorem dJ9_min_7cf53_1 : dcd cJ9_min_7cf53 1 = some (.iload_n 1, 2) := by decide +kernel
theorem dJ9_min_7cf53_2 : dcd cJ9_min_7cf53 2 = some (.if_icmp .gt 7, 5) := by decide +kernel
theorem dJ9_min_7cf53_5 : dcd cJ9_min_7cf53 5 = some (.iload_n 0, 6) := by decide +kernel
theorem dJ9_min_7cf53_6 : dcd cJ9_min_7cf53 6 = some (.goto 4, 9) := by decide +kernel
theorem dJ9_min_7cf53_9 : dcd cJ9_min_7cf53 9 = some (.iload_n 1, 10) := by decide +kernel
theorem dJ9_min_7cf53_10 : dcd cJ9_min_7cf53 10 = some (.ireturn, 11) := by decide +kernel
theorem dJ0_length_8abf5_0 : dcd cJ0_length_8abf5 0 = some (.aload_n 0, 1) := by decide +kernel
theorem dJ0_length_8abf5_1 : dcd cJ0_length_8abf5 1 = some (.getfield 9, 4) := by decide +kernel
theorem dJ0_length_8abf5_4 : dcd cJ0_length_8abf5 4 = some (.arraylength, 5) := by decide +kernel
theorem dJ0_length_8abf5_5 : dcd cJ0_length_8abf5 5 = some (.aload_n 0, 6) := by decide +kernel
theorem dJ0_length_8abf5_6 : dcd cJ0_length_8abf5 6 = some (.invokevirtual 335, 9) := by decide +kernel
theorem dJ0_length_8abf5_9 : dcd cJ0_length_8abf5 9 = some (.ishr, 10) := by decide +kernel
theorem dJ0_length_8abf5_10 : dcd cJ0_length_8abf5 10 = some (.ireturn, 11) := by decide +kernel
theorem dJ0_charAt_5068e_0 : dcd cJ0_charAt_5068e 0 = some (.aload_n 0, 1) := by decide +kernel
theorem dJ0_charAt_5068e_1 : dcd cJ0_charAt_5068e 1 = some (.invokevirtual 492, 4) := by decide +kernel
theorem dJ0_charAt_5068e_4 : dcd cJ0_charAt_5068e 4 = some (.ifCond .eq 12, 7) := by decide +kernel
theorem dJ0_charAt_5068e_7 : dcd cJ0_charAt_5068e 7 = some (.aload_n 0, 8) := by decide +kernel
theorem dJ0_charAt_5068e_8 : dcd cJ0_charAt_5068e 8 = some (.getfield 9, 11) := by decide +kernel
theorem dJ0_charAt_5068e_11 : dcd cJ0_charAt_5068e 11 = some (.iload_n 1, 12) := by decide +kernel
theorem dJ0_charAt_5068e_12 : dcd cJ0_charAt_5068e 12 = some (.invokestatic 495, 15) := by decide +kernel
theorem dJ0_charAt_5068e_15 : dcd cJ0_charAt_5068e 15 = some (.ireturn, 16) := by decide +kernel
theorem dJ0_charAt_5068e_16 : dcd cJ0_charAt_5068e 16 = some (.aload_n 0, 17) := by decide +kernel
theorem dJ0_charAt_5068e_17 : dcd cJ0_charAt_5068e 17 = some (.getfield 9, 20) := by decide +kernel
theorem dJ0_charAt_5068e_20 : dcd cJ0_charAt_5068e 20 = some (.iload_n 1, 21) := by decide +kernel
theorem dJ0_charAt_5068e_21 : dcd cJ0_charAt_5068e 21 = some (.invokestatic 498, 24) := by decide +kernel
theorem dJ0_charAt_5068e_24 : dcd cJ0_charAt_5068e 24 = some (.ireturn, 25) := by decide +kernel
theorem dJ0_coder_7d493_0 : dcd cJ0_coder_7d493 0 = some (.getstatic 38, 3) := by decide +kernel
theorem dJ0_coder_7d493_3 : dcd cJ0_coder_7d493 3 = some (.ifCond .eq 10, 6) := by decide +kernel
theorem dJ0_coder_7d493_6 : dcd cJ0_coder_7d493 6 = some (.aload_n 0, 7) := by decide +kernel
theorem dJ0_coder_7d493_7 : dcd cJ0_coder_7d493 7 = some (.getfield 15, 10) := by decide +kernel
theorem dJ0_coder_7d493_10 : dcd cJ0_coder_7d493 10 = some (.goto 4, 13) := by decide +kernel
theorem dJ0_coder_7d493_13 : dcd cJ0_coder_7d493 13 = some (.iconst 1, 14) := by decide +kernel
theorem dJ0_coder_7d493_14 : dcd cJ0_coder_7d493 14 = some (.ireturn, 15) := by decide +kernel
theorem dJ0_isLatin1_aae02_0 : dcd cJ0_isLatin1_aae02 0 = some (.getstatic 38, 3) := by decide +kernel
theorem dJ0_isLatin1_aae02_3 : dcd cJ0_isLatin1_aae02 3 = some (.ifCond .eq 14, 6) := by decide +kernel
theorem dJ0_isLatin1_aae02_6 : dcd cJ0_isLatin1_aae02 6 = some (.aload_n 0, 7) := by decide +kernel
theorem dJ0_isLatin1_aae02_7 : dcd cJ0_isLatin1_aae02 7 = some (.getfield 15, 10) := by decide +kernel
theorem dJ0_isLatin1_aae02_10 : dcd cJ0_isLatin1_aae02 10 = some (.ifCond .ne 7, 13) := by decide +kernel
theorem dJ0_isLatin1_aae02_13 : dcd cJ0_isLatin1_aae02 13 = some (.iconst 1, 14) := by decide +kernel
theorem dJ0_isLatin1_aae02_14 : dcd cJ0_isLatin1_aae02 14 = some (.goto 4, 17) := by decide +kernel
theorem dJ0_isLatin1_aae02_17 : dcd cJ0_isLatin1_aae02 17 = some (.iconst 0, 18) := by decide +kernel
theorem dJ0_isLatin1_aae02_18 : dcd cJ0_isLatin1_aae02 18 = some (.ireturn, 19) := by decide +kernel
theorem dJ0_checkIndex_df160_0 : dcd cJ0_checkIndex_df160 0 = some (.iload_n 0, 1) := by decide +kernel
theorem dJ0_checkIndex_df160_1 : dcd cJ0_checkIndex_df160 1 = some (.iload_n 1, 2) := by decide +kernel
theorem dJ0_checkIndex_df160_2 : dcd cJ0_checkIndex_df160 2 = some (.getstatic 1053, 5) := by decide +kernel
theorem dJ0_checkIndex_df160_5 : dcd cJ0_checkIndex_df160 5 = some (.invokestatic 1059, 8) := by decide +kernel
theorem dJ0_checkIndex_df160_8 : dcd cJ0_checkIndex_df160 8 = some (.pop, 9) := by decide +kernel
theorem dJ0_checkIndex_df160_9 : dcd cJ0_checkIndex_df160 9 = some (.return_, 10) := by decide +kernel
theorem dJ1_charAt_3b067_0 : dcd cJ1_charAt_3b067 0 = some (.iload_n 1, 1) := by decide +kernel
theorem dJ1_charAt_3b067_1 : dcd cJ1_charAt_3b067 1 = some (.aload_n 0, 2) := by decide +kernel
theorem dJ1_charAt_3b067_2 : dcd cJ1_charAt_3b067 2 = some (.arraylength, 3) := by decide +kernel
theorem dJ1_charAt_3b067_3 : dcd cJ1_charAt_3b067 3 = some (.invokestatic 9, 6) := by decide +kernel
theorem dJ1_charAt_3b067_6 : dcd cJ1_charAt_3b067 6 = some (.aload_n 0, 7) := by decide +kernel
theorem dJ1_charAt_3b067_7 : dcd cJ1_charAt_3b067 7 = some (.iload_n 1, 8) := by decide +kernel
theorem dJ1_charAt_3b067_8 : dcd cJ1_charAt_3b067 8 = some (.baload, 9) := by decide +kernel
theorem dJ1_charAt_3b067_9 : dcd cJ1_charAt_3b067 9 = some (.sipush 255, 12) := by decide +kernel
theorem dJ1_charAt_3b067_12 : dcd cJ1_charAt_3b067 12 = some (.iand, 13) := by decide +kernel
theorem dJ1_charAt_3b067_13 : dcd cJ1_charAt_3b067 13 = some (.i2c, 14) := by decide +kernel
theorem dJ1_charAt_3b067_14 : dcd cJ1_charAt_3b067 14 = some (.ireturn, 15) := by decide +kernel
theorem dJ2_getChar_3b067_0 : dcd cJ2_getChar_3b067 0 = some (.getstatic 44, 3) := by decide +kernel
theorem dJ2_getChar_3b067_3 : dcd cJ2_getChar_3b067 3 = some (.ifCond .ne 25, 6) := by decide +kernel
theorem dJ2_getChar_3b067_6 : dcd cJ2_getChar_3b067 6 = some (.iload_n 1, 7) := by decide +kernel
theorem dJ2_getChar_3b067_7 : dcd cJ2_getChar_3b067 7 = some (.ifCond .lt 11, 10) := by decide +kernel
theorem dJ2_getChar_3b067_10 : dcd cJ2_getChar_3b067 10 = some (.iload_n 1, 11) := by decide +kernel
theorem dJ2_getChar_3b067_11 : dcd cJ2_getChar_3b067 11 = some (.aload_n 0, 12) := by decide +kernel
theorem dJ2_getChar_3b067_12 : dcd cJ2_getChar_3b067 12 = some (.invokestatic 48, 15) := by decide +kernel
theorem dJ2_getChar_3b067_15 : dcd cJ2_getChar_3b067 15 = some (.if_icmp .lt 13, 18) := by decide +kernel
theorem dJ2_getChar_3b067_18 : dcd cJ2_getChar_3b067 18 = some (.new 52, 21) := by decide +kernel
theorem dJ2_getChar_3b067_21 : dcd cJ2_getChar_3b067 21 = some (.dup, 22) := by decide +kernel
theorem dJ2_getChar_3b067_22 : dcd cJ2_getChar_3b067 22 = some (.ldc 54, 24) := by decide +kernel
theorem dJ2_getChar_3b067_24 : dcd cJ2_getChar_3b067 24 = some (.invokespecial 56, 27) := by decide +kernel
theorem dJ2_getChar_3b067_27 : dcd cJ2_getChar_3b067 27 = some (.athrow, 28) := by decide +kernel
theorem dJ2_getChar_3b067_28 : dcd cJ2_getChar_3b067 28 = some (.iload_n 1, 29) := by decide +kernel
theorem dJ2_getChar_3b067_29 : dcd cJ2_getChar_3b067 29 = some (.iconst 1, 30) := by decide +kernel
theorem dJ2_getChar_3b067_30 : dcd cJ2_getChar_3b067 30 = some (.ishl, 31) := by decide +kernel
theorem dJ2_getChar_3b067_31 : dcd cJ2_getChar_3b067 31 = some (.istore_n 1, 32) := by decide +kernel
theorem dJ2_getChar_3b067_32 : dcd cJ2_getChar_3b067 32 = some (.aload_n 0, 33) := by decide +kernel
theorem dJ2_getChar_3b067_33 : dcd cJ2_getChar_3b067 33 = some (.iload_n 1, 34) := by decide +kernel
theorem dJ2_getChar_3b067_34 : dcd cJ2_getChar_3b067 34 = some (.iinc 1 1, 37) := by decide +kernel
theorem dJ2_getChar_3b067_37 : dcd cJ2_getChar_3b067 37 = some (.baload, 38) := by decide +kernel
theorem dJ2_getChar_3b067_38 : dcd cJ2_getChar_3b067 38 = some (.sipush 255, 41) := by decide +kernel
theorem dJ2_getChar_3b067_41 : dcd cJ2_getChar_3b067 41 = some (.iand, 42) := by decide +kernel
theorem dJ2_getChar_3b067_42 : dcd cJ2_getChar_3b067 42 = some (.getstatic 59, 45) := by decide +kernel
theorem dJ2_getChar_3b067_45 : dcd cJ2_getChar_3b067 45 = some (.ishl, 46) := by decide +kernel
theorem dJ2_getChar_3b067_46 : dcd cJ2_getChar_3b067 46 = some (.aload_n 0, 47) := by decide +kernel
theorem dJ2_getChar_3b067_47 : dcd cJ2_getChar_3b067 47 = some (.iload_n 1, 48) := by decide +kernel
theorem dJ2_getChar_3b067_48 : dcd cJ2_getChar_3b067 48 = some (.baload, 49) := by decide +kernel
theorem dJ2_getChar_3b067_49 : dcd cJ2_getChar_3b067 49 = some (.sipush 255, 52) := by decide +kernel
theorem dJ2_getChar_3b067_52 : dcd cJ2_getChar_3b067 52 = some (.iand, 53) := by decide +kernel
theorem dJ2_getChar_3b067_53 : dcd cJ2_getChar_3b067 53 = some (.getstatic 63, 56) := by decide +kernel
theorem dJ2_getChar_3b067_56 : dcd cJ2_getChar_3b067 56 = some (.ishl, 57) := by decide +kernel
theorem dJ2_getChar_3b067_57 : dcd cJ2_getChar_3b067 57 = some (.ior, 58) := by decide +kernel
theorem dJ2_getChar_3b067_58 : dcd cJ2_getChar_3b067 58 = some (.i2c, 59) := by decide +kernel
theorem dJ2_getChar_3b067_59 : dcd cJ2_getChar_3b067 59 = some (.ireturn, 60) := by decide +kernel
theorem dJ2_length_9d52b_0 : dcd cJ2_length_9d52b 0 = some (.aload_n 0, 1) := by decide +kernel
theorem dJ2_length_9d52b_1 : dcd cJ2_length_9d52b 1 = some (.arraylength, 2) := by decide +kernel
theorem dJ2_length_9d52b_2 : dcd cJ2_length_9d52b 2 = some (.iconst 1, 3) := by decide +kernel
theorem dJ2_length_9d52b_3 : dcd cJ2_length_9d52b 3 = some (.ishr, 4) := by decide +kernel
theorem dJ2_length_9d52b_4 : dcd cJ2_length_9d52b 4 = some (.ireturn, 5) := by decide +kernel
theorem dJ2_charAt_3b067_0 : dcd cJ2_charAt_3b067 0 = some (.iload_n 1, 1) := by decide +kernel
theorem dJ2_charAt_3b067_1 : dcd cJ2_charAt_3b067 1 = some (.aload_n 0, 2) := by decide +kernel
theorem dJ2_charAt_3b067_2 : dcd cJ2_charAt_3b067 2 = some (.invokestatic 67, 5) := by decide +kernel
theorem dJ2_charAt_3b067_5 : dcd cJ2_charAt_3b067 5 = some (.aload_n 0, 6) := by decide +kernel
theorem dJ2_charAt_3b067_6 : dcd cJ2_charAt_3b067 6 = some (.iload_n 1, 7) := by decide +kernel
theorem dJ2_charAt_3b067_7 : dcd cJ2_charAt_3b067 7 = some (.invokestatic 71, 10) := by decide +kernel
theorem dJ2_charAt_3b067_10 : dcd cJ2_charAt_3b067 10 = some (.ireturn, 11) := by decide +kernel
theorem dJ2_checkIndex_2214a_0 : dcd cJ2_checkIndex_2214a 0 = some (.iload_n 0, 1) := by decide +kernel
theorem dJ2_checkIndex_2214a_1 : dcd cJ2_checkIndex_2214a 1 = some (.aload_n 1, 2) := by decide +kernel
theorem dJ2_checkIndex_2214a_2 : dcd cJ2_checkIndex_2214a 2 = some (.invokestatic 48, 5) := by decide +kernel
theorem dJ2_checkIndex_2214a_5 : dcd cJ2_checkIndex_2214a 5 = some (.invokestatic 414, 8) := by decide +kernel
theorem dJ2_checkIndex_2214a_8 : dcd cJ2_checkIndex_2214a 8 = some (.return_, 9) := by decide +kernel
theorem dJ3_checkIndex_8e157_0 : dcd cJ3_checkIndex_8e157 0 = some (.iload_n 0, 1) := by decide +kernel
theorem dJ3_checkIndex_8e157_1 : dcd cJ3_checkIndex_8e157 1 = some (.ifCond .lt 8, 4) := by decide +kernel
theorem dJ3_checkIndex_8e157_4 : dcd cJ3_checkIndex_8e157 4 = some (.iload_n 0, 5) := by decide +kernel
theorem dJ3_checkIndex_8e157_5 : dcd cJ3_checkIndex_8e157 5 = some (.iload_n 1, 6) := by decide +kernel
theorem dJ3_checkIndex_8e157_6 : dcd cJ3_checkIndex_8e157 6 = some (.if_icmp .lt 10, 9) := by decide +kernel
theorem dJ3_checkIndex_8e157_9 : dcd cJ3_checkIndex_8e157 9 = some (.aload_n 2, 10) := by decide +kernel
theorem dJ3_checkIndex_8e157_10 : dcd cJ3_checkIndex_8e157 10 = some (.iload_n 0, 11) := by decide +kernel
theorem dJ3_checkIndex_8e157_11 : dcd cJ3_checkIndex_8e157 11 = some (.iload_n 1, 12) := by decide +kernel
theorem dJ3_checkIndex_8e157_12 : dcd cJ3_checkIndex_8e157 12 = some (.invokestatic 95, 15) := by decide +kernel
theorem dJ3_checkIndex_8e157_15 : dcd cJ3_checkIndex_8e157 15 = some (.athrow, 16) := by decide +kernel
theorem dJ3_checkIndex_8e157_16 : dcd cJ3_checkIndex_8e157 16 = some (.iload_n 0, 17) := by decide +kernel
theorem dJ3_checkIndex_8e157_17 : dcd cJ3_checkIndex_8e157 17 = some (.ireturn, 18) := by decide +kernel
theorem dL_law_0 : dcd cL_law 0 = some (.new 7, 3) := by decide +kernel
theorem dL_law_3 : dcd cL_law 3 = some (.dup, 4) := by decide +kernel
theorem dL_law_4 : dcd cL_law 4 = some (.invokespecial 9, 7) := by decide +kernel
theorem dL_law_7 : dcd cL_law 7 = some (.astore_n 1, 8) := by decide +kernel
theorem dL_law_8 : dcd cL_law 8 = some (.new 10, 11) := by decide +kernel
theorem dL_law_11 : dcd cL_law 11 = some (.dup, 12) := by decide +kernel
theorem dL_law_12 : dcd cL_law 12 = some (.invokespecial 12, 15) := by decide +kernel
theorem dL_law_15 : dcd cL_law 15 = some (.astore_n 2, 16) := by decide +kernel
theorem dL_law_16 : dcd cL_law 16 = some (.iconst 0, 17) := by decide +kernel
theorem dL_law_17 : dcd cL_law 17 = some (.istore_n 3, 18) := by decide +kernel
theorem dL_law_18 : dcd cL_law 18 = some (.iload_n 3, 19) := by decide +kernel
theorem dL_law_19 : dcd cL_law 19 = some (.aload_n 0, 20) := by decide +kernel
theorem dL_law_20 : dcd cL_law 20 = some (.arraylength, 21) := by decide +kernel
theorem dL_law_21 : dcd cL_law 21 = some (.iconst 5, 22) := by decide +kernel
theorem dL_law_22 : dcd cL_law 22 = some (.isub, 23) := by decide +kernel
theorem dL_law_23 : dcd cL_law 23 = some (.if_icmp .gt 996, 26) := by decide +kernel
theorem dL_law_26 : dcd cL_law 26 = some (.aload_n 0, 27) := by decide +kernel
theorem dL_law_27 : dcd cL_law 27 = some (.iload_n 3, 28) := by decide +kernel
theorem dL_law_28 : dcd cL_law 28 = some (.iaload, 29) := by decide +kernel
theorem dL_law_29 : dcd cL_law 29 = some (.bipush 31, 31) := by decide +kernel
theorem dL_law_31 : dcd cL_law 31 = some (.iand, 32) := by decide +kernel
theorem dL_law_32 : dcd cL_law 32 = some (.tableswitch 981 0 31 #[144, 207, 220, 233, 266, 299, 332, 365, 388, 401, 424, 447, 480, 503, 536, 559, 582, 595, 608, 641, 664, 717, 760, 793, 806, 829, 842, 865, 898, 921, 944, 967], 176) := by decide +kernel
theorem dL_law_176 : dcd cL_law 176 = some (.aload_n 1, 177) := by decide +kernel
theorem dL_law_177 : dcd cL_law 177 = some (.aload_n 0, 178) := by decide +kernel
theorem dL_law_178 : dcd cL_law 178 = some (.iload_n 3, 179) := by decide +kernel
theorem dL_law_179 : dcd cL_law 179 = some (.iconst 1, 180) := by decide +kernel
theorem dL_law_180 : dcd cL_law 180 = some (.iadd, 181) := by decide +kernel
theorem dL_law_181 : dcd cL_law 181 = some (.iaload, 182) := by decide +kernel
theorem dL_law_182 : dcd cL_law 182 = some (.i2l, 183) := by decide +kernel
theorem dL_law_183 : dcd cL_law 183 = some (.bipush 32, 185) := by decide +kernel
theorem dL_law_185 : dcd cL_law 185 = some (.lshl, 186) := by decide +kernel
theorem dL_law_186 : dcd cL_law 186 = some (.aload_n 0, 187) := by decide +kernel
theorem dL_law_187 : dcd cL_law 187 = some (.iload_n 3, 188) := by decide +kernel
theorem dL_law_188 : dcd cL_law 188 = some (.iconst 2, 189) := by decide +kernel
theorem dL_law_189 : dcd cL_law 189 = some (.iadd, 190) := by decide +kernel
theorem dL_law_190 : dcd cL_law 190 = some (.iaload, 191) := by decide +kernel
theorem dL_law_191 : dcd cL_law 191 = some (.i2l, 192) := by decide +kernel
theorem dL_law_192 : dcd cL_law 192 = some (.ldc2_w 13, 195) := by decide +kernel
theorem dL_law_195 : dcd cL_law 195 = some (.land, 196) := by decide +kernel
theorem dL_law_196 : dcd cL_law 196 = some (.lor, 197) := by decide +kernel
theorem dL_law_197 : dcd cL_law 197 = some (.aload_n 0, 198) := by decide +kernel
theorem dL_law_198 : dcd cL_law 198 = some (.iload_n 3, 199) := by decide +kernel
theorem dL_law_199 : dcd cL_law 199 = some (.iconst 3, 200) := by decide +kernel
theorem dL_law_200 : dcd cL_law 200 = some (.iadd, 201) := by decide +kernel
theorem dL_law_201 : dcd cL_law 201 = some (.iaload, 202) := by decide +kernel
theorem dL_law_202 : dcd cL_law 202 = some (.invokevirtual 15, 205) := by decide +kernel
theorem dL_law_205 : dcd cL_law 205 = some (.aload_n 2, 206) := by decide +kernel
theorem dL_law_206 : dcd cL_law 206 = some (.aload_n 0, 207) := by decide +kernel
theorem dL_law_207 : dcd cL_law 207 = some (.iload_n 3, 208) := by decide +kernel
theorem dL_law_208 : dcd cL_law 208 = some (.iconst 1, 209) := by decide +kernel
theorem dL_law_209 : dcd cL_law 209 = some (.iadd, 210) := by decide +kernel
theorem dL_law_210 : dcd cL_law 210 = some (.iaload, 211) := by decide +kernel
theorem dL_law_211 : dcd cL_law 211 = some (.i2l, 212) := by decide +kernel
theorem dL_law_212 : dcd cL_law 212 = some (.bipush 32, 214) := by decide +kernel
theorem dL_law_214 : dcd cL_law 214 = some (.lshl, 215) := by decide +kernel
theorem dL_law_215 : dcd cL_law 215 = some (.aload_n 0, 216) := by decide +kernel
theorem dL_law_216 : dcd cL_law 216 = some (.iload_n 3, 217) := by decide +kernel
theorem dL_law_217 : dcd cL_law 217 = some (.iconst 2, 218) := by decide +kernel
theorem dL_law_218 : dcd cL_law 218 = some (.iadd, 219) := by decide +kernel
theorem dL_law_219 : dcd cL_law 219 = some (.iaload, 220) := by decide +kernel
theorem dL_law_220 : dcd cL_law 220 = some (.i2l, 221) := by decide +kernel
theorem dL_law_221 : dcd cL_law 221 = some (.ldc2_w 13, 224) := by decide +kernel
theorem dL_law_224 : dcd cL_law 224 = some (.land, 225) := by decide +kernel
theorem dL_law_225 : dcd cL_law 225 = some (.lor, 226) := by decide +kernel
theorem dL_law_226 : dcd cL_law 226 = some (.aload_n 0, 227) := by decide +kernel
theorem dL_law_227 : dcd cL_law 227 = some (.iload_n 3, 228) := by decide +kernel
theorem dL_law_228 : dcd cL_law 228 = some (.iconst 3, 229) := by decide +kernel
theorem dL_law_229 : dcd cL_law 229 = some (.iadd, 230) := by decide +kernel
theorem dL_law_230 : dcd cL_law 230 = some (.iaload, 231) := by decide +kernel
theorem dL_law_231 : dcd cL_law 231 = some (.invokevirtual 19, 234) := by decide +kernel
theorem dL_law_234 : dcd cL_law 234 = some (.if_icmp .eq 779, 237) := by decide +kernel
theorem dL_law_237 : dcd cL_law 237 = some (.iconst 0, 238) := by decide +kernel
theorem dL_law_238 : dcd cL_law 238 = some (.ireturn, 239) := by decide +kernel
theorem dL_law_239 : dcd cL_law 239 = some (.aload_n 1, 240) := by decide +kernel
theorem dL_law_240 : dcd cL_law 240 = some (.invokevirtual 20, 243) := by decide +kernel
theorem dL_law_243 : dcd cL_law 243 = some (.aload_n 2, 244) := by decide +kernel
theorem dL_law_244 : dcd cL_law 244 = some (.invokevirtual 24, 247) := by decide +kernel
theorem dL_law_247 : dcd cL_law 247 = some (.if_icmp .eq 766, 250) := by decide +kernel
theorem dL_law_250 : dcd cL_law 250 = some (.iconst 0, 251) := by decide +kernel
theorem dL_law_251 : dcd cL_law 251 = some (.ireturn, 252) := by decide +kernel
theorem dL_law_252 : dcd cL_law 252 = some (.aload_n 1, 253) := by decide +kernel
theorem dL_law_253 : dcd cL_law 253 = some (.invokevirtual 25, 256) := by decide +kernel
theorem dL_law_256 : dcd cL_law 256 = some (.aload_n 2, 257) := by decide +kernel
theorem dL_law_257 : dcd cL_law 257 = some (.invokevirtual 28, 260) := by decide +kernel
theorem dL_law_260 : dcd cL_law 260 = some (.if_icmp .eq 753, 263) := by decide +kernel
theorem dL_law_263 : dcd cL_law 263 = some (.iconst 0, 264) := by decide +kernel
theorem dL_law_264 : dcd cL_law 264 = some (.ireturn, 265) := by decide +kernel
theorem dL_law_265 : dcd cL_law 265 = some (.aload_n 1, 266) := by decide +kernel
theorem dL_law_266 : dcd cL_law 266 = some (.aload_n 0, 267) := by decide +kernel
theorem dL_law_267 : dcd cL_law 267 = some (.iload_n 3, 268) := by decide +kernel
theorem dL_law_268 : dcd cL_law 268 = some (.iconst 1, 269) := by decide +kernel
theorem dL_law_269 : dcd cL_law 269 = some (.iadd, 270) := by decide +kernel
theorem dL_law_270 : dcd cL_law 270 = some (.iaload, 271) := by decide +kernel
theorem dL_law_271 : dcd cL_law 271 = some (.aload_n 0, 272) := by decide +kernel
theorem dL_law_272 : dcd cL_law 272 = some (.iload_n 3, 273) := by decide +kernel
theorem dL_law_273 : dcd cL_law 273 = some (.iconst 2, 274) := by decide +kernel
theorem dL_law_274 : dcd cL_law 274 = some (.iadd, 275) := by decide +kernel
theorem dL_law_275 : dcd cL_law 275 = some (.iaload, 276) := by decide +kernel
theorem dL_law_276 : dcd cL_law 276 = some (.invokevirtual 29, 279) := by decide +kernel
theorem dL_law_279 : dcd cL_law 279 = some (.aload_n 2, 280) := by decide +kernel
theorem dL_law_280 : dcd cL_law 280 = some (.aload_n 0, 281) := by decide +kernel
theorem dL_law_281 : dcd cL_law 281 = some (.iload_n 3, 282) := by decide +kernel
theorem dL_law_282 : dcd cL_law 282 = some (.iconst 1, 283) := by decide +kernel
theorem dL_law_283 : dcd cL_law 283 = some (.iadd, 284) := by decide +kernel
theorem dL_law_284 : dcd cL_law 284 = some (.iaload, 285) := by decide +kernel
theorem dL_law_285 : dcd cL_law 285 = some (.aload_n 0, 286) := by decide +kernel
theorem dL_law_286 : dcd cL_law 286 = some (.iload_n 3, 287) := by decide +kernel
theorem dL_law_287 : dcd cL_law 287 = some (.iconst 2, 288) := by decide +kernel
theorem dL_law_288 : dcd cL_law 288 = some (.iadd, 289) := by decide +kernel
theorem dL_law_289 : dcd cL_law 289 = some (.iaload, 290) := by decide +kernel
theorem dL_law_290 : dcd cL_law 290 = some (.invokevirtual 33, 293) := by decide +kernel
theorem dL_law_293 : dcd cL_law 293 = some (.if_icmp .eq 720, 296) := by decide +kernel
theorem dL_law_296 : dcd cL_law 296 = some (.iconst 0, 297) := by decide +kernel
theorem dL_law_297 : dcd cL_law 297 = some (.ireturn, 298) := by decide +kernel
theorem dL_law_298 : dcd cL_law 298 = some (.aload_n 1, 299) := by decide +kernel
theorem dL_law_299 : dcd cL_law 299 = some (.aload_n 0, 300) := by decide +kernel
theorem dL_law_300 : dcd cL_law 300 = some (.iload_n 3, 301) := by decide +kernel
theorem dL_law_301 : dcd cL_law 301 = some (.iconst 1, 302) := by decide +kernel
theorem dL_law_302 : dcd cL_law 302 = some (.iadd, 303) := by decide +kernel
theorem dL_law_303 : dcd cL_law 303 = some (.iaload, 304) := by decide +kernel
theorem dL_law_304 : dcd cL_law 304 = some (.aload_n 0, 305) := by decide +kernel
theorem dL_law_305 : dcd cL_law 305 = some (.iload_n 3, 306) := by decide +kernel
theorem dL_law_306 : dcd cL_law 306 = some (.iconst 2, 307) := by decide +kernel
theorem dL_law_307 : dcd cL_law 307 = some (.iadd, 308) := by decide +kernel
theorem dL_law_308 : dcd cL_law 308 = some (.iaload, 309) := by decide +kernel
theorem dL_law_309 : dcd cL_law 309 = some (.invokevirtual 34, 312) := by decide +kernel
theorem dL_law_312 : dcd cL_law 312 = some (.aload_n 2, 313) := by decide +kernel
theorem dL_law_313 : dcd cL_law 313 = some (.aload_n 0, 314) := by decide +kernel
theorem dL_law_314 : dcd cL_law 314 = some (.iload_n 3, 315) := by decide +kernel
theorem dL_law_315 : dcd cL_law 315 = some (.iconst 1, 316) := by decide +kernel
theorem dL_law_316 : dcd cL_law 316 = some (.iadd, 317) := by decide +kernel
theorem dL_law_317 : dcd cL_law 317 = some (.iaload, 318) := by decide +kernel
theorem dL_law_318 : dcd cL_law 318 = some (.aload_n 0, 319) := by decide +kernel
theorem dL_law_319 : dcd cL_law 319 = some (.iload_n 3, 320) := by decide +kernel
theorem dL_law_320 : dcd cL_law 320 = some (.iconst 2, 321) := by decide +kernel
theorem dL_law_321 : dcd cL_law 321 = some (.iadd, 322) := by decide +kernel
theorem dL_law_322 : dcd cL_law 322 = some (.iaload, 323) := by decide +kernel
theorem dL_law_323 : dcd cL_law 323 = some (.invokevirtual 37, 326) := by decide +kernel
theorem dL_law_326 : dcd cL_law 326 = some (.if_icmp .eq 687, 329) := by decide +kernel
theorem dL_law_329 : dcd cL_law 329 = some (.iconst 0, 330) := by decide +kernel
theorem dL_law_330 : dcd cL_law 330 = some (.ireturn, 331) := by decide +kernel
theorem dL_law_331 : dcd cL_law 331 = some (.aload_n 1, 332) := by decide +kernel
theorem dL_law_332 : dcd cL_law 332 = some (.aload_n 0, 333) := by decide +kernel
theorem dL_law_333 : dcd cL_law 333 = some (.iload_n 3, 334) := by decide +kernel
theorem dL_law_334 : dcd cL_law 334 = some (.iconst 1, 335) := by decide +kernel
theorem dL_law_335 : dcd cL_law 335 = some (.iadd, 336) := by decide +kernel
theorem dL_law_336 : dcd cL_law 336 = some (.iaload, 337) := by decide +kernel
theorem dL_law_337 : dcd cL_law 337 = some (.aload_n 0, 338) := by decide +kernel
theorem dL_law_338 : dcd cL_law 338 = some (.iload_n 3, 339) := by decide +kernel
theorem dL_law_339 : dcd cL_law 339 = some (.iconst 2, 340) := by decide +kernel
theorem dL_law_340 : dcd cL_law 340 = some (.iadd, 341) := by decide +kernel
theorem dL_law_341 : dcd cL_law 341 = some (.iaload, 342) := by decide +kernel
theorem dL_law_342 : dcd cL_law 342 = some (.invokevirtual 38, 345) := by decide +kernel
theorem dL_law_345 : dcd cL_law 345 = some (.aload_n 2, 346) := by decide +kernel
theorem dL_law_346 : dcd cL_law 346 = some (.aload_n 0, 347) := by decide +kernel
theorem dL_law_347 : dcd cL_law 347 = some (.iload_n 3, 348) := by decide +kernel
theorem dL_law_348 : dcd cL_law 348 = some (.iconst 1, 349) := by decide +kernel
theorem dL_law_349 : dcd cL_law 349 = some (.iadd, 350) := by decide +kernel
theorem dL_law_350 : dcd cL_law 350 = some (.iaload, 351) := by decide +kernel
theorem dL_law_351 : dcd cL_law 351 = some (.aload_n 0, 352) := by decide +kernel
theorem dL_law_352 : dcd cL_law 352 = some (.iload_n 3, 353) := by decide +kernel
theorem dL_law_353 : dcd cL_law 353 = some (.iconst 2, 354) := by decide +kernel
theorem dL_law_354 : dcd cL_law 354 = some (.iadd, 355) := by decide +kernel
theorem dL_law_355 : dcd cL_law 355 = some (.iaload, 356) := by decide +kernel
theorem dL_law_356 : dcd cL_law 356 = some (.invokevirtual 41, 359) := by decide +kernel
theorem dL_law_359 : dcd cL_law 359 = some (.if_icmp .eq 654, 362) := by decide +kernel
theorem dL_law_362 : dcd cL_law 362 = some (.iconst 0, 363) := by decide +kernel
theorem dL_law_363 : dcd cL_law 363 = some (.ireturn, 364) := by decide +kernel
theorem dL_law_364 : dcd cL_law 364 = some (.aload_n 1, 365) := by decide +kernel
theorem dL_law_365 : dcd cL_law 365 = some (.aload_n 0, 366) := by decide +kernel
theorem dL_law_366 : dcd cL_law 366 = some (.iload_n 3, 367) := by decide +kernel
theorem dL_law_367 : dcd cL_law 367 = some (.iconst 1, 368) := by decide +kernel
theorem dL_law_368 : dcd cL_law 368 = some (.iadd, 369) := by decide +kernel
theorem dL_law_369 : dcd cL_law 369 = some (.iaload, 370) := by decide +kernel
theorem dL_law_370 : dcd cL_law 370 = some (.aload_n 0, 371) := by decide +kernel
theorem dL_law_371 : dcd cL_law 371 = some (.iload_n 3, 372) := by decide +kernel
theorem dL_law_372 : dcd cL_law 372 = some (.iconst 2, 373) := by decide +kernel
theorem dL_law_373 : dcd cL_law 373 = some (.iadd, 374) := by decide +kernel
theorem dL_law_374 : dcd cL_law 374 = some (.iaload, 375) := by decide +kernel
theorem dL_law_375 : dcd cL_law 375 = some (.invokevirtual 42, 378) := by decide +kernel
theorem dL_law_378 : dcd cL_law 378 = some (.aload_n 2, 379) := by decide +kernel
theorem dL_law_379 : dcd cL_law 379 = some (.aload_n 0, 380) := by decide +kernel
theorem dL_law_380 : dcd cL_law 380 = some (.iload_n 3, 381) := by decide +kernel
theorem dL_law_381 : dcd cL_law 381 = some (.iconst 1, 382) := by decide +kernel
theorem dL_law_382 : dcd cL_law 382 = some (.iadd, 383) := by decide +kernel
theorem dL_law_383 : dcd cL_law 383 = some (.iaload, 384) := by decide +kernel
theorem dL_law_384 : dcd cL_law 384 = some (.aload_n 0, 385) := by decide +kernel
theorem dL_law_385 : dcd cL_law 385 = some (.iload_n 3, 386) := by decide +kernel
theorem dL_law_386 : dcd cL_law 386 = some (.iconst 2, 387) := by decide +kernel
theorem dL_law_387 : dcd cL_law 387 = some (.iadd, 388) := by decide +kernel
theorem dL_law_388 : dcd cL_law 388 = some (.iaload, 389) := by decide +kernel
theorem dL_law_389 : dcd cL_law 389 = some (.invokevirtual 45, 392) := by decide +kernel
theorem dL_law_392 : dcd cL_law 392 = some (.if_icmp .eq 621, 395) := by decide +kernel
theorem dL_law_395 : dcd cL_law 395 = some (.iconst 0, 396) := by decide +kernel
theorem dL_law_396 : dcd cL_law 396 = some (.ireturn, 397) := by decide +kernel
theorem dL_law_397 : dcd cL_law 397 = some (.aload_n 1, 398) := by decide +kernel
theorem dL_law_398 : dcd cL_law 398 = some (.aload_n 0, 399) := by decide +kernel
theorem dL_law_399 : dcd cL_law 399 = some (.iload_n 3, 400) := by decide +kernel
theorem dL_law_400 : dcd cL_law 400 = some (.iconst 1, 401) := by decide +kernel
theorem dL_law_401 : dcd cL_law 401 = some (.iadd, 402) := by decide +kernel
theorem dL_law_402 : dcd cL_law 402 = some (.iaload, 403) := by decide +kernel
theorem dL_law_403 : dcd cL_law 403 = some (.invokevirtual 46, 406) := by decide +kernel
theorem dL_law_406 : dcd cL_law 406 = some (.aload_n 2, 407) := by decide +kernel
theorem dL_law_407 : dcd cL_law 407 = some (.aload_n 0, 408) := by decide +kernel
theorem dL_law_408 : dcd cL_law 408 = some (.iload_n 3, 409) := by decide +kernel
theorem dL_law_409 : dcd cL_law 409 = some (.iconst 1, 410) := by decide +kernel
theorem dL_law_410 : dcd cL_law 410 = some (.iadd, 411) := by decide +kernel
theorem dL_law_411 : dcd cL_law 411 = some (.iaload, 412) := by decide +kernel
theorem dL_law_412 : dcd cL_law 412 = some (.invokevirtual 50, 415) := by decide +kernel
theorem dL_law_415 : dcd cL_law 415 = some (.if_icmp .eq 598, 418) := by decide +kernel
theorem dL_law_418 : dcd cL_law 418 = some (.iconst 0, 419) := by decide +kernel
theorem dL_law_419 : dcd cL_law 419 = some (.ireturn, 420) := by decide +kernel
theorem dL_law_420 : dcd cL_law 420 = some (.aload_n 1, 421) := by decide +kernel
theorem dL_law_421 : dcd cL_law 421 = some (.invokevirtual 51, 424) := by decide +kernel
theorem dL_law_424 : dcd cL_law 424 = some (.aload_n 2, 425) := by decide +kernel
theorem dL_law_425 : dcd cL_law 425 = some (.invokevirtual 54, 428) := by decide +kernel
theorem dL_law_428 : dcd cL_law 428 = some (.if_icmp .eq 585, 431) := by decide +kernel
theorem dL_law_431 : dcd cL_law 431 = some (.iconst 0, 432) := by decide +kernel
theorem dL_law_432 : dcd cL_law 432 = some (.ireturn, 433) := by decide +kernel
theorem dL_law_433 : dcd cL_law 433 = some (.aload_n 1, 434) := by decide +kernel
theorem dL_law_434 : dcd cL_law 434 = some (.aload_n 0, 435) := by decide +kernel
theorem dL_law_435 : dcd cL_law 435 = some (.iload_n 3, 436) := by decide +kernel
theorem dL_law_436 : dcd cL_law 436 = some (.iconst 1, 437) := by decide +kernel
theorem dL_law_437 : dcd cL_law 437 = some (.iadd, 438) := by decide +kernel
theorem dL_law_438 : dcd cL_law 438 = some (.iaload, 439) := by decide +kernel
theorem dL_law_439 : dcd cL_law 439 = some (.invokevirtual 55, 442) := by decide +kernel
theorem dL_law_442 : dcd cL_law 442 = some (.aload_n 2, 443) := by decide +kernel
theorem dL_law_443 : dcd cL_law 443 = some (.aload_n 0, 444) := by decide +kernel
theorem dL_law_444 : dcd cL_law 444 = some (.iload_n 3, 445) := by decide +kernel
theorem dL_law_445 : dcd cL_law 445 = some (.iconst 1, 446) := by decide +kernel
theorem dL_law_446 : dcd cL_law 446 = some (.iadd, 447) := by decide +kernel
theorem dL_law_447 : dcd cL_law 447 = some (.iaload, 448) := by decide +kernel
theorem dL_law_448 : dcd cL_law 448 = some (.invokevirtual 58, 451) := by decide +kernel
theorem dL_law_451 : dcd cL_law 451 = some (.if_icmp .eq 562, 454) := by decide +kernel
theorem dL_law_454 : dcd cL_law 454 = some (.iconst 0, 455) := by decide +kernel
theorem dL_law_455 : dcd cL_law 455 = some (.ireturn, 456) := by decide +kernel
theorem dL_law_456 : dcd cL_law 456 = some (.aload_n 1, 457) := by decide +kernel
theorem dL_law_457 : dcd cL_law 457 = some (.aload_n 0, 458) := by decide +kernel
theorem dL_law_458 : dcd cL_law 458 = some (.iload_n 3, 459) := by decide +kernel
theorem dL_law_459 : dcd cL_law 459 = some (.iconst 1, 460) := by decide +kernel
theorem dL_law_460 : dcd cL_law 460 = some (.iadd, 461) := by decide +kernel
theorem dL_law_461 : dcd cL_law 461 = some (.iaload, 462) := by decide +kernel
theorem dL_law_462 : dcd cL_law 462 = some (.invokevirtual 59, 465) := by decide +kernel
theorem dL_law_465 : dcd cL_law 465 = some (.aload_n 2, 466) := by decide +kernel
theorem dL_law_466 : dcd cL_law 466 = some (.aload_n 0, 467) := by decide +kernel
theorem dL_law_467 : dcd cL_law 467 = some (.iload_n 3, 468) := by decide +kernel
theorem dL_law_468 : dcd cL_law 468 = some (.iconst 1, 469) := by decide +kernel
theorem dL_law_469 : dcd cL_law 469 = some (.iadd, 470) := by decide +kernel
theorem dL_law_470 : dcd cL_law 470 = some (.iaload, 471) := by decide +kernel
theorem dL_law_471 : dcd cL_law 471 = some (.invokevirtual 62, 474) := by decide +kernel
theorem dL_law_474 : dcd cL_law 474 = some (.if_icmp .eq 539, 477) := by decide +kernel
theorem dL_law_477 : dcd cL_law 477 = some (.iconst 0, 478) := by decide +kernel
theorem dL_law_478 : dcd cL_law 478 = some (.ireturn, 479) := by decide +kernel
theorem dL_law_479 : dcd cL_law 479 = some (.aload_n 1, 480) := by decide +kernel
theorem dL_law_480 : dcd cL_law 480 = some (.aload_n 0, 481) := by decide +kernel
theorem dL_law_481 : dcd cL_law 481 = some (.iload_n 3, 482) := by decide +kernel
theorem dL_law_482 : dcd cL_law 482 = some (.iconst 1, 483) := by decide +kernel
theorem dL_law_483 : dcd cL_law 483 = some (.iadd, 484) := by decide +kernel
theorem dL_law_484 : dcd cL_law 484 = some (.iaload, 485) := by decide +kernel
theorem dL_law_485 : dcd cL_law 485 = some (.aload_n 0, 486) := by decide +kernel
theorem dL_law_486 : dcd cL_law 486 = some (.iload_n 3, 487) := by decide +kernel
theorem dL_law_487 : dcd cL_law 487 = some (.iconst 2, 488) := by decide +kernel
theorem dL_law_488 : dcd cL_law 488 = some (.iadd, 489) := by decide +kernel
theorem dL_law_489 : dcd cL_law 489 = some (.iaload, 490) := by decide +kernel
theorem dL_law_490 : dcd cL_law 490 = some (.invokevirtual 63, 493) := by decide +kernel
theorem dL_law_493 : dcd cL_law 493 = some (.aload_n 2, 494) := by decide +kernel
theorem dL_law_494 : dcd cL_law 494 = some (.aload_n 0, 495) := by decide +kernel
theorem dL_law_495 : dcd cL_law 495 = some (.iload_n 3, 496) := by decide +kernel
theorem dL_law_496 : dcd cL_law 496 = some (.iconst 1, 497) := by decide +kernel
theorem dL_law_497 : dcd cL_law 497 = some (.iadd, 498) := by decide +kernel
theorem dL_law_498 : dcd cL_law 498 = some (.iaload, 499) := by decide +kernel
theorem dL_law_499 : dcd cL_law 499 = some (.aload_n 0, 500) := by decide +kernel
theorem dL_law_500 : dcd cL_law 500 = some (.iload_n 3, 501) := by decide +kernel
theorem dL_law_501 : dcd cL_law 501 = some (.iconst 2, 502) := by decide +kernel
theorem dL_law_502 : dcd cL_law 502 = some (.iadd, 503) := by decide +kernel
theorem dL_law_503 : dcd cL_law 503 = some (.iaload, 504) := by decide +kernel
theorem dL_law_504 : dcd cL_law 504 = some (.invokevirtual 66, 507) := by decide +kernel
theorem dL_law_507 : dcd cL_law 507 = some (.if_icmp .eq 506, 510) := by decide +kernel
theorem dL_law_510 : dcd cL_law 510 = some (.iconst 0, 511) := by decide +kernel
theorem dL_law_511 : dcd cL_law 511 = some (.ireturn, 512) := by decide +kernel
theorem dL_law_512 : dcd cL_law 512 = some (.aload_n 1, 513) := by decide +kernel
theorem dL_law_513 : dcd cL_law 513 = some (.aload_n 0, 514) := by decide +kernel
theorem dL_law_514 : dcd cL_law 514 = some (.iload_n 3, 515) := by decide +kernel
theorem dL_law_515 : dcd cL_law 515 = some (.iconst 1, 516) := by decide +kernel
theorem dL_law_516 : dcd cL_law 516 = some (.iadd, 517) := by decide +kernel
theorem dL_law_517 : dcd cL_law 517 = some (.iaload, 518) := by decide +kernel
theorem dL_law_518 : dcd cL_law 518 = some (.invokevirtual 67, 521) := by decide +kernel
theorem dL_law_521 : dcd cL_law 521 = some (.aload_n 2, 522) := by decide +kernel
theorem dL_law_522 : dcd cL_law 522 = some (.aload_n 0, 523) := by decide +kernel
theorem dL_law_523 : dcd cL_law 523 = some (.iload_n 3, 524) := by decide +kernel
theorem dL_law_524 : dcd cL_law 524 = some (.iconst 1, 525) := by decide +kernel
theorem dL_law_525 : dcd cL_law 525 = some (.iadd, 526) := by decide +kernel
theorem dL_law_526 : dcd cL_law 526 = some (.iaload, 527) := by decide +kernel
theorem dL_law_527 : dcd cL_law 527 = some (.invokevirtual 70, 530) := by decide +kernel
theorem dL_law_530 : dcd cL_law 530 = some (.if_icmp .eq 483, 533) := by decide +kernel
theorem dL_law_533 : dcd cL_law 533 = some (.iconst 0, 534) := by decide +kernel
theorem dL_law_534 : dcd cL_law 534 = some (.ireturn, 535) := by decide +kernel
theorem dL_law_535 : dcd cL_law 535 = some (.aload_n 1, 536) := by decide +kernel
theorem dL_law_536 : dcd cL_law 536 = some (.aload_n 0, 537) := by decide +kernel
theorem dL_law_537 : dcd cL_law 537 = some (.iload_n 3, 538) := by decide +kernel
theorem dL_law_538 : dcd cL_law 538 = some (.iconst 1, 539) := by decide +kernel
theorem dL_law_539 : dcd cL_law 539 = some (.iadd, 540) := by decide +kernel
theorem dL_law_540 : dcd cL_law 540 = some (.iaload, 541) := by decide +kernel
theorem dL_law_541 : dcd cL_law 541 = some (.aload_n 0, 542) := by decide +kernel
theorem dL_law_542 : dcd cL_law 542 = some (.iload_n 3, 543) := by decide +kernel
theorem dL_law_543 : dcd cL_law 543 = some (.iconst 2, 544) := by decide +kernel
theorem dL_law_544 : dcd cL_law 544 = some (.iadd, 545) := by decide +kernel
theorem dL_law_545 : dcd cL_law 545 = some (.iaload, 546) := by decide +kernel
theorem dL_law_546 : dcd cL_law 546 = some (.invokevirtual 71, 549) := by decide +kernel
theorem dL_law_549 : dcd cL_law 549 = some (.aload_n 2, 550) := by decide +kernel
theorem dL_law_550 : dcd cL_law 550 = some (.aload_n 0, 551) := by decide +kernel
theorem dL_law_551 : dcd cL_law 551 = some (.iload_n 3, 552) := by decide +kernel
theorem dL_law_552 : dcd cL_law 552 = some (.iconst 1, 553) := by decide +kernel
theorem dL_law_553 : dcd cL_law 553 = some (.iadd, 554) := by decide +kernel
theorem dL_law_554 : dcd cL_law 554 = some (.iaload, 555) := by decide +kernel
theorem dL_law_555 : dcd cL_law 555 = some (.aload_n 0, 556) := by decide +kernel
theorem dL_law_556 : dcd cL_law 556 = some (.iload_n 3, 557) := by decide +kernel
theorem dL_law_557 : dcd cL_law 557 = some (.iconst 2, 558) := by decide +kernel
theorem dL_law_558 : dcd cL_law 558 = some (.iadd, 559) := by decide +kernel
theorem dL_law_559 : dcd cL_law 559 = some (.iaload, 560) := by decide +kernel
theorem dL_law_560 : dcd cL_law 560 = some (.invokevirtual 74, 563) := by decide +kernel
theorem dL_law_563 : dcd cL_law 563 = some (.if_icmp .eq 450, 566) := by decide +kernel
theorem dL_law_566 : dcd cL_law 566 = some (.iconst 0, 567) := by decide +kernel
theorem dL_law_567 : dcd cL_law 567 = some (.ireturn, 568) := by decide +kernel
theorem dL_law_568 : dcd cL_law 568 = some (.aload_n 1, 569) := by decide +kernel
theorem dL_law_569 : dcd cL_law 569 = some (.aload_n 0, 570) := by decide +kernel
theorem dL_law_570 : dcd cL_law 570 = some (.iload_n 3, 571) := by decide +kernel
theorem dL_law_571 : dcd cL_law 571 = some (.iconst 1, 572) := by decide +kernel
theorem dL_law_572 : dcd cL_law 572 = some (.iadd, 573) := by decide +kernel
theorem dL_law_573 : dcd cL_law 573 = some (.iaload, 574) := by decide +kernel
theorem dL_law_574 : dcd cL_law 574 = some (.invokevirtual 75, 577) := by decide +kernel
theorem dL_law_577 : dcd cL_law 577 = some (.aload_n 2, 578) := by decide +kernel
theorem dL_law_578 : dcd cL_law 578 = some (.aload_n 0, 579) := by decide +kernel
theorem dL_law_579 : dcd cL_law 579 = some (.iload_n 3, 580) := by decide +kernel
theorem dL_law_580 : dcd cL_law 580 = some (.iconst 1, 581) := by decide +kernel
theorem dL_law_581 : dcd cL_law 581 = some (.iadd, 582) := by decide +kernel
theorem dL_law_582 : dcd cL_law 582 = some (.iaload, 583) := by decide +kernel
theorem dL_law_583 : dcd cL_law 583 = some (.invokevirtual 78, 586) := by decide +kernel
theorem dL_law_586 : dcd cL_law 586 = some (.if_icmp .eq 427, 589) := by decide +kernel
theorem dL_law_589 : dcd cL_law 589 = some (.iconst 0, 590) := by decide +kernel
theorem dL_law_590 : dcd cL_law 590 = some (.ireturn, 591) := by decide +kernel
theorem dL_law_591 : dcd cL_law 591 = some (.aload_n 1, 592) := by decide +kernel
theorem dL_law_592 : dcd cL_law 592 = some (.aload_n 0, 593) := by decide +kernel
theorem dL_law_593 : dcd cL_law 593 = some (.iload_n 3, 594) := by decide +kernel
theorem dL_law_594 : dcd cL_law 594 = some (.iconst 1, 595) := by decide +kernel
theorem dL_law_595 : dcd cL_law 595 = some (.iadd, 596) := by decide +kernel
theorem dL_law_596 : dcd cL_law 596 = some (.iaload, 597) := by decide +kernel
theorem dL_law_597 : dcd cL_law 597 = some (.invokevirtual 79, 600) := by decide +kernel
theorem dL_law_600 : dcd cL_law 600 = some (.aload_n 2, 601) := by decide +kernel
theorem dL_law_601 : dcd cL_law 601 = some (.aload_n 0, 602) := by decide +kernel
theorem dL_law_602 : dcd cL_law 602 = some (.iload_n 3, 603) := by decide +kernel
theorem dL_law_603 : dcd cL_law 603 = some (.iconst 1, 604) := by decide +kernel
theorem dL_law_604 : dcd cL_law 604 = some (.iadd, 605) := by decide +kernel
theorem dL_law_605 : dcd cL_law 605 = some (.iaload, 606) := by decide +kernel
theorem dL_law_606 : dcd cL_law 606 = some (.invokevirtual 82, 609) := by decide +kernel
theorem dL_law_609 : dcd cL_law 609 = some (.if_icmp .eq 404, 612) := by decide +kernel
theorem dL_law_612 : dcd cL_law 612 = some (.iconst 0, 613) := by decide +kernel
theorem dL_law_613 : dcd cL_law 613 = some (.ireturn, 614) := by decide +kernel
theorem dL_law_614 : dcd cL_law 614 = some (.aload_n 1, 615) := by decide +kernel
theorem dL_law_615 : dcd cL_law 615 = some (.invokevirtual 83, 618) := by decide +kernel
theorem dL_law_618 : dcd cL_law 618 = some (.aload_n 2, 619) := by decide +kernel
theorem dL_law_619 : dcd cL_law 619 = some (.invokevirtual 86, 622) := by decide +kernel
theorem dL_law_622 : dcd cL_law 622 = some (.if_icmp .eq 391, 625) := by decide +kernel
theorem dL_law_625 : dcd cL_law 625 = some (.iconst 0, 626) := by decide +kernel
theorem dL_law_626 : dcd cL_law 626 = some (.ireturn, 627) := by decide +kernel
theorem dL_law_627 : dcd cL_law 627 = some (.aload_n 1, 628) := by decide +kernel
theorem dL_law_628 : dcd cL_law 628 = some (.invokevirtual 87, 631) := by decide +kernel
theorem dL_law_631 : dcd cL_law 631 = some (.aload_n 2, 632) := by decide +kernel
theorem dL_law_632 : dcd cL_law 632 = some (.invokevirtual 90, 635) := by decide +kernel
theorem dL_law_635 : dcd cL_law 635 = some (.if_icmp .eq 378, 638) := by decide +kernel
theorem dL_law_638 : dcd cL_law 638 = some (.iconst 0, 639) := by decide +kernel
theorem dL_law_639 : dcd cL_law 639 = some (.ireturn, 640) := by decide +kernel
theorem dL_law_640 : dcd cL_law 640 = some (.aload_n 1, 641) := by decide +kernel
theorem dL_law_641 : dcd cL_law 641 = some (.aload_n 0, 642) := by decide +kernel
theorem dL_law_642 : dcd cL_law 642 = some (.iload_n 3, 643) := by decide +kernel
theorem dL_law_643 : dcd cL_law 643 = some (.iconst 1, 644) := by decide +kernel
theorem dL_law_644 : dcd cL_law 644 = some (.iadd, 645) := by decide +kernel
theorem dL_law_645 : dcd cL_law 645 = some (.iaload, 646) := by decide +kernel
theorem dL_law_646 : dcd cL_law 646 = some (.aload_n 0, 647) := by decide +kernel
theorem dL_law_647 : dcd cL_law 647 = some (.iload_n 3, 648) := by decide +kernel
theorem dL_law_648 : dcd cL_law 648 = some (.iconst 2, 649) := by decide +kernel
theorem dL_law_649 : dcd cL_law 649 = some (.iadd, 650) := by decide +kernel
theorem dL_law_650 : dcd cL_law 650 = some (.iaload, 651) := by decide +kernel
theorem dL_law_651 : dcd cL_law 651 = some (.invokevirtual 91, 654) := by decide +kernel
theorem dL_law_654 : dcd cL_law 654 = some (.aload_n 2, 655) := by decide +kernel
theorem dL_law_655 : dcd cL_law 655 = some (.aload_n 0, 656) := by decide +kernel
theorem dL_law_656 : dcd cL_law 656 = some (.iload_n 3, 657) := by decide +kernel
theorem dL_law_657 : dcd cL_law 657 = some (.iconst 1, 658) := by decide +kernel
theorem dL_law_658 : dcd cL_law 658 = some (.iadd, 659) := by decide +kernel
theorem dL_law_659 : dcd cL_law 659 = some (.iaload, 660) := by decide +kernel
theorem dL_law_660 : dcd cL_law 660 = some (.aload_n 0, 661) := by decide +kernel
theorem dL_law_661 : dcd cL_law 661 = some (.iload_n 3, 662) := by decide +kernel
theorem dL_law_662 : dcd cL_law 662 = some (.iconst 2, 663) := by decide +kernel
theorem dL_law_663 : dcd cL_law 663 = some (.iadd, 664) := by decide +kernel
theorem dL_law_664 : dcd cL_law 664 = some (.iaload, 665) := by decide +kernel
theorem dL_law_665 : dcd cL_law 665 = some (.invokevirtual 94, 668) := by decide +kernel
theorem dL_law_668 : dcd cL_law 668 = some (.if_icmp .eq 345, 671) := by decide +kernel
theorem dL_law_671 : dcd cL_law 671 = some (.iconst 0, 672) := by decide +kernel
theorem dL_law_672 : dcd cL_law 672 = some (.ireturn, 673) := by decide +kernel
theorem dL_law_673 : dcd cL_law 673 = some (.aload_n 1, 674) := by decide +kernel
theorem dL_law_674 : dcd cL_law 674 = some (.aload_n 0, 675) := by decide +kernel
theorem dL_law_675 : dcd cL_law 675 = some (.iload_n 3, 676) := by decide +kernel
theorem dL_law_676 : dcd cL_law 676 = some (.iconst 1, 677) := by decide +kernel
theorem dL_law_677 : dcd cL_law 677 = some (.iadd, 678) := by decide +kernel
theorem dL_law_678 : dcd cL_law 678 = some (.iaload, 679) := by decide +kernel
theorem dL_law_679 : dcd cL_law 679 = some (.invokevirtual 95, 682) := by decide +kernel
theorem dL_law_682 : dcd cL_law 682 = some (.aload_n 2, 683) := by decide +kernel
theorem dL_law_683 : dcd cL_law 683 = some (.aload_n 0, 684) := by decide +kernel
theorem dL_law_684 : dcd cL_law 684 = some (.iload_n 3, 685) := by decide +kernel
theorem dL_law_685 : dcd cL_law 685 = some (.iconst 1, 686) := by decide +kernel
theorem dL_law_686 : dcd cL_law 686 = some (.iadd, 687) := by decide +kernel
theorem dL_law_687 : dcd cL_law 687 = some (.iaload, 688) := by decide +kernel
theorem dL_law_688 : dcd cL_law 688 = some (.invokevirtual 98, 691) := by decide +kernel
theorem dL_law_691 : dcd cL_law 691 = some (.if_icmp .eq 322, 694) := by decide +kernel
theorem dL_law_694 : dcd cL_law 694 = some (.iconst 0, 695) := by decide +kernel
theorem dL_law_695 : dcd cL_law 695 = some (.ireturn, 696) := by decide +kernel
theorem dL_law_696 : dcd cL_law 696 = some (.aload_n 1, 697) := by decide +kernel
theorem dL_law_697 : dcd cL_law 697 = some (.aload_n 0, 698) := by decide +kernel
theorem dL_law_698 : dcd cL_law 698 = some (.iload_n 3, 699) := by decide +kernel
theorem dL_law_699 : dcd cL_law 699 = some (.iconst 1, 700) := by decide +kernel
theorem dL_law_700 : dcd cL_law 700 = some (.iadd, 701) := by decide +kernel
theorem dL_law_701 : dcd cL_law 701 = some (.iaload, 702) := by decide +kernel
theorem dL_law_702 : dcd cL_law 702 = some (.aload_n 0, 703) := by decide +kernel
theorem dL_law_703 : dcd cL_law 703 = some (.iload_n 3, 704) := by decide +kernel
theorem dL_law_704 : dcd cL_law 704 = some (.iconst 2, 705) := by decide +kernel
theorem dL_law_705 : dcd cL_law 705 = some (.iadd, 706) := by decide +kernel
theorem dL_law_706 : dcd cL_law 706 = some (.iaload, 707) := by decide +kernel
theorem dL_law_707 : dcd cL_law 707 = some (.aload_n 0, 708) := by decide +kernel
theorem dL_law_708 : dcd cL_law 708 = some (.iload_n 3, 709) := by decide +kernel
theorem dL_law_709 : dcd cL_law 709 = some (.iconst 3, 710) := by decide +kernel
theorem dL_law_710 : dcd cL_law 710 = some (.iadd, 711) := by decide +kernel
theorem dL_law_711 : dcd cL_law 711 = some (.iaload, 712) := by decide +kernel
theorem dL_law_712 : dcd cL_law 712 = some (.aload_n 0, 713) := by decide +kernel
theorem dL_law_713 : dcd cL_law 713 = some (.iload_n 3, 714) := by decide +kernel
theorem dL_law_714 : dcd cL_law 714 = some (.iconst 4, 715) := by decide +kernel
theorem dL_law_715 : dcd cL_law 715 = some (.iadd, 716) := by decide +kernel
theorem dL_law_716 : dcd cL_law 716 = some (.iaload, 717) := by decide +kernel
theorem dL_law_717 : dcd cL_law 717 = some (.invokevirtual 99, 720) := by decide +kernel
theorem dL_law_720 : dcd cL_law 720 = some (.aload_n 2, 721) := by decide +kernel
theorem dL_law_721 : dcd cL_law 721 = some (.aload_n 0, 722) := by decide +kernel
theorem dL_law_722 : dcd cL_law 722 = some (.iload_n 3, 723) := by decide +kernel
theorem dL_law_723 : dcd cL_law 723 = some (.iconst 1, 724) := by decide +kernel
theorem dL_law_724 : dcd cL_law 724 = some (.iadd, 725) := by decide +kernel
theorem dL_law_725 : dcd cL_law 725 = some (.iaload, 726) := by decide +kernel
theorem dL_law_726 : dcd cL_law 726 = some (.aload_n 0, 727) := by decide +kernel
theorem dL_law_727 : dcd cL_law 727 = some (.iload_n 3, 728) := by decide +kernel
theorem dL_law_728 : dcd cL_law 728 = some (.iconst 2, 729) := by decide +kernel
theorem dL_law_729 : dcd cL_law 729 = some (.iadd, 730) := by decide +kernel
theorem dL_law_730 : dcd cL_law 730 = some (.iaload, 731) := by decide +kernel
theorem dL_law_731 : dcd cL_law 731 = some (.aload_n 0, 732) := by decide +kernel
theorem dL_law_732 : dcd cL_law 732 = some (.iload_n 3, 733) := by decide +kernel
theorem dL_law_733 : dcd cL_law 733 = some (.iconst 3, 734) := by decide +kernel
theorem dL_law_734 : dcd cL_law 734 = some (.iadd, 735) := by decide +kernel
theorem dL_law_735 : dcd cL_law 735 = some (.iaload, 736) := by decide +kernel
theorem dL_law_736 : dcd cL_law 736 = some (.aload_n 0, 737) := by decide +kernel
theorem dL_law_737 : dcd cL_law 737 = some (.iload_n 3, 738) := by decide +kernel
theorem dL_law_738 : dcd cL_law 738 = some (.iconst 4, 739) := by decide +kernel
theorem dL_law_739 : dcd cL_law 739 = some (.iadd, 740) := by decide +kernel
theorem dL_law_740 : dcd cL_law 740 = some (.iaload, 741) := by decide +kernel
theorem dL_law_741 : dcd cL_law 741 = some (.invokevirtual 103, 744) := by decide +kernel
theorem dL_law_744 : dcd cL_law 744 = some (.if_icmp .eq 269, 747) := by decide +kernel
theorem dL_law_747 : dcd cL_law 747 = some (.iconst 0, 748) := by decide +kernel
theorem dL_law_748 : dcd cL_law 748 = some (.ireturn, 749) := by decide +kernel
theorem dL_law_749 : dcd cL_law 749 = some (.aload_n 1, 750) := by decide +kernel
theorem dL_law_750 : dcd cL_law 750 = some (.aload_n 0, 751) := by decide +kernel
theorem dL_law_751 : dcd cL_law 751 = some (.iload_n 3, 752) := by decide +kernel
theorem dL_law_752 : dcd cL_law 752 = some (.iconst 1, 753) := by decide +kernel
theorem dL_law_753 : dcd cL_law 753 = some (.iadd, 754) := by decide +kernel
theorem dL_law_754 : dcd cL_law 754 = some (.iaload, 755) := by decide +kernel
theorem dL_law_755 : dcd cL_law 755 = some (.aload_n 0, 756) := by decide +kernel
theorem dL_law_756 : dcd cL_law 756 = some (.iload_n 3, 757) := by decide +kernel
theorem dL_law_757 : dcd cL_law 757 = some (.iconst 2, 758) := by decide +kernel
theorem dL_law_758 : dcd cL_law 758 = some (.iadd, 759) := by decide +kernel
theorem dL_law_759 : dcd cL_law 759 = some (.iaload, 760) := by decide +kernel
theorem dL_law_760 : dcd cL_law 760 = some (.aload_n 0, 761) := by decide +kernel
theorem dL_law_761 : dcd cL_law 761 = some (.iload_n 3, 762) := by decide +kernel
theorem dL_law_762 : dcd cL_law 762 = some (.iconst 3, 763) := by decide +kernel
theorem dL_law_763 : dcd cL_law 763 = some (.iadd, 764) := by decide +kernel
theorem dL_law_764 : dcd cL_law 764 = some (.iaload, 765) := by decide +kernel
theorem dL_law_765 : dcd cL_law 765 = some (.invokevirtual 104, 768) := by decide +kernel
theorem dL_law_768 : dcd cL_law 768 = some (.aload_n 2, 769) := by decide +kernel
theorem dL_law_769 : dcd cL_law 769 = some (.aload_n 0, 770) := by decide +kernel
theorem dL_law_770 : dcd cL_law 770 = some (.iload_n 3, 771) := by decide +kernel
theorem dL_law_771 : dcd cL_law 771 = some (.iconst 1, 772) := by decide +kernel
theorem dL_law_772 : dcd cL_law 772 = some (.iadd, 773) := by decide +kernel
theorem dL_law_773 : dcd cL_law 773 = some (.iaload, 774) := by decide +kernel
theorem dL_law_774 : dcd cL_law 774 = some (.aload_n 0, 775) := by decide +kernel
theorem dL_law_775 : dcd cL_law 775 = some (.iload_n 3, 776) := by decide +kernel
theorem dL_law_776 : dcd cL_law 776 = some (.iconst 2, 777) := by decide +kernel
theorem dL_law_777 : dcd cL_law 777 = some (.iadd, 778) := by decide +kernel
theorem dL_law_778 : dcd cL_law 778 = some (.iaload, 779) := by decide +kernel
theorem dL_law_779 : dcd cL_law 779 = some (.aload_n 0, 780) := by decide +kernel
theorem dL_law_780 : dcd cL_law 780 = some (.iload_n 3, 781) := by decide +kernel
theorem dL_law_781 : dcd cL_law 781 = some (.iconst 3, 782) := by decide +kernel
theorem dL_law_782 : dcd cL_law 782 = some (.iadd, 783) := by decide +kernel
theorem dL_law_783 : dcd cL_law 783 = some (.iaload, 784) := by decide +kernel
theorem dL_law_784 : dcd cL_law 784 = some (.invokevirtual 108, 787) := by decide +kernel
theorem dL_law_787 : dcd cL_law 787 = some (.if_icmp .eq 226, 790) := by decide +kernel
theorem dL_law_790 : dcd cL_law 790 = some (.iconst 0, 791) := by decide +kernel
theorem dL_law_791 : dcd cL_law 791 = some (.ireturn, 792) := by decide +kernel
theorem dL_law_792 : dcd cL_law 792 = some (.aload_n 1, 793) := by decide +kernel
theorem dL_law_793 : dcd cL_law 793 = some (.aload_n 0, 794) := by decide +kernel
theorem dL_law_794 : dcd cL_law 794 = some (.iload_n 3, 795) := by decide +kernel
theorem dL_law_795 : dcd cL_law 795 = some (.iconst 1, 796) := by decide +kernel
theorem dL_law_796 : dcd cL_law 796 = some (.iadd, 797) := by decide +kernel
theorem dL_law_797 : dcd cL_law 797 = some (.iaload, 798) := by decide +kernel
theorem dL_law_798 : dcd cL_law 798 = some (.aload_n 0, 799) := by decide +kernel
theorem dL_law_799 : dcd cL_law 799 = some (.iload_n 3, 800) := by decide +kernel
theorem dL_law_800 : dcd cL_law 800 = some (.iconst 2, 801) := by decide +kernel
theorem dL_law_801 : dcd cL_law 801 = some (.iadd, 802) := by decide +kernel
theorem dL_law_802 : dcd cL_law 802 = some (.iaload, 803) := by decide +kernel
theorem dL_law_803 : dcd cL_law 803 = some (.invokevirtual 109, 806) := by decide +kernel
theorem dL_law_806 : dcd cL_law 806 = some (.aload_n 2, 807) := by decide +kernel
theorem dL_law_807 : dcd cL_law 807 = some (.aload_n 0, 808) := by decide +kernel
theorem dL_law_808 : dcd cL_law 808 = some (.iload_n 3, 809) := by decide +kernel
theorem dL_law_809 : dcd cL_law 809 = some (.iconst 1, 810) := by decide +kernel
theorem dL_law_810 : dcd cL_law 810 = some (.iadd, 811) := by decide +kernel
theorem dL_law_811 : dcd cL_law 811 = some (.iaload, 812) := by decide +kernel
theorem dL_law_812 : dcd cL_law 812 = some (.aload_n 0, 813) := by decide +kernel
theorem dL_law_813 : dcd cL_law 813 = some (.iload_n 3, 814) := by decide +kernel
theorem dL_law_814 : dcd cL_law 814 = some (.iconst 2, 815) := by decide +kernel
theorem dL_law_815 : dcd cL_law 815 = some (.iadd, 816) := by decide +kernel
theorem dL_law_816 : dcd cL_law 816 = some (.iaload, 817) := by decide +kernel
theorem dL_law_817 : dcd cL_law 817 = some (.invokevirtual 112, 820) := by decide +kernel
theorem dL_law_820 : dcd cL_law 820 = some (.if_icmp .eq 193, 823) := by decide +kernel
theorem dL_law_823 : dcd cL_law 823 = some (.iconst 0, 824) := by decide +kernel
theorem dL_law_824 : dcd cL_law 824 = some (.ireturn, 825) := by decide +kernel
theorem dL_law_825 : dcd cL_law 825 = some (.aload_n 1, 826) := by decide +kernel
theorem dL_law_826 : dcd cL_law 826 = some (.invokevirtual 113, 829) := by decide +kernel
theorem dL_law_829 : dcd cL_law 829 = some (.aload_n 2, 830) := by decide +kernel
theorem dL_law_830 : dcd cL_law 830 = some (.invokevirtual 116, 833) := by decide +kernel
theorem dL_law_833 : dcd cL_law 833 = some (.if_icmp .eq 180, 836) := by decide +kernel
theorem dL_law_836 : dcd cL_law 836 = some (.iconst 0, 837) := by decide +kernel
theorem dL_law_837 : dcd cL_law 837 = some (.ireturn, 838) := by decide +kernel
theorem dL_law_838 : dcd cL_law 838 = some (.aload_n 1, 839) := by decide +kernel
theorem dL_law_839 : dcd cL_law 839 = some (.aload_n 0, 840) := by decide +kernel
theorem dL_law_840 : dcd cL_law 840 = some (.iload_n 3, 841) := by decide +kernel
theorem dL_law_841 : dcd cL_law 841 = some (.iconst 1, 842) := by decide +kernel
theorem dL_law_842 : dcd cL_law 842 = some (.iadd, 843) := by decide +kernel
theorem dL_law_843 : dcd cL_law 843 = some (.iaload, 844) := by decide +kernel
theorem dL_law_844 : dcd cL_law 844 = some (.invokevirtual 117, 847) := by decide +kernel
theorem dL_law_847 : dcd cL_law 847 = some (.aload_n 2, 848) := by decide +kernel
theorem dL_law_848 : dcd cL_law 848 = some (.aload_n 0, 849) := by decide +kernel
theorem dL_law_849 : dcd cL_law 849 = some (.iload_n 3, 850) := by decide +kernel
theorem dL_law_850 : dcd cL_law 850 = some (.iconst 1, 851) := by decide +kernel
theorem dL_law_851 : dcd cL_law 851 = some (.iadd, 852) := by decide +kernel
theorem dL_law_852 : dcd cL_law 852 = some (.iaload, 853) := by decide +kernel
theorem dL_law_853 : dcd cL_law 853 = some (.invokevirtual 120, 856) := by decide +kernel
theorem dL_law_856 : dcd cL_law 856 = some (.if_icmp .eq 157, 859) := by decide +kernel
theorem dL_law_859 : dcd cL_law 859 = some (.iconst 0, 860) := by decide +kernel
theorem dL_law_860 : dcd cL_law 860 = some (.ireturn, 861) := by decide +kernel
theorem dL_law_861 : dcd cL_law 861 = some (.aload_n 1, 862) := by decide +kernel
theorem dL_law_862 : dcd cL_law 862 = some (.invokevirtual 121, 865) := by decide +kernel
theorem dL_law_865 : dcd cL_law 865 = some (.aload_n 2, 866) := by decide +kernel
theorem dL_law_866 : dcd cL_law 866 = some (.invokevirtual 124, 869) := by decide +kernel
theorem dL_law_869 : dcd cL_law 869 = some (.if_icmp .eq 144, 872) := by decide +kernel
theorem dL_law_872 : dcd cL_law 872 = some (.iconst 0, 873) := by decide +kernel
theorem dL_law_873 : dcd cL_law 873 = some (.ireturn, 874) := by decide +kernel
theorem dL_law_874 : dcd cL_law 874 = some (.aload_n 1, 875) := by decide +kernel
theorem dL_law_875 : dcd cL_law 875 = some (.aload_n 0, 876) := by decide +kernel
theorem dL_law_876 : dcd cL_law 876 = some (.iload_n 3, 877) := by decide +kernel
theorem dL_law_877 : dcd cL_law 877 = some (.iconst 1, 878) := by decide +kernel
theorem dL_law_878 : dcd cL_law 878 = some (.iadd, 879) := by decide +kernel
theorem dL_law_879 : dcd cL_law 879 = some (.iaload, 880) := by decide +kernel
theorem dL_law_880 : dcd cL_law 880 = some (.invokevirtual 125, 883) := by decide +kernel
theorem dL_law_883 : dcd cL_law 883 = some (.aload_n 2, 884) := by decide +kernel
theorem dL_law_884 : dcd cL_law 884 = some (.aload_n 0, 885) := by decide +kernel
theorem dL_law_885 : dcd cL_law 885 = some (.iload_n 3, 886) := by decide +kernel
theorem dL_law_886 : dcd cL_law 886 = some (.iconst 1, 887) := by decide +kernel
theorem dL_law_887 : dcd cL_law 887 = some (.iadd, 888) := by decide +kernel
theorem dL_law_888 : dcd cL_law 888 = some (.iaload, 889) := by decide +kernel
theorem dL_law_889 : dcd cL_law 889 = some (.invokevirtual 128, 892) := by decide +kernel
theorem dL_law_892 : dcd cL_law 892 = some (.if_icmp .eq 121, 895) := by decide +kernel
theorem dL_law_895 : dcd cL_law 895 = some (.iconst 0, 896) := by decide +kernel
theorem dL_law_896 : dcd cL_law 896 = some (.ireturn, 897) := by decide +kernel
theorem dL_law_897 : dcd cL_law 897 = some (.aload_n 1, 898) := by decide +kernel
theorem dL_law_898 : dcd cL_law 898 = some (.aload_n 0, 899) := by decide +kernel
theorem dL_law_899 : dcd cL_law 899 = some (.iload_n 3, 900) := by decide +kernel
theorem dL_law_900 : dcd cL_law 900 = some (.iconst 1, 901) := by decide +kernel
theorem dL_law_901 : dcd cL_law 901 = some (.iadd, 902) := by decide +kernel
theorem dL_law_902 : dcd cL_law 902 = some (.iaload, 903) := by decide +kernel
theorem dL_law_903 : dcd cL_law 903 = some (.aload_n 0, 904) := by decide +kernel
theorem dL_law_904 : dcd cL_law 904 = some (.iload_n 3, 905) := by decide +kernel
theorem dL_law_905 : dcd cL_law 905 = some (.iconst 2, 906) := by decide +kernel
theorem dL_law_906 : dcd cL_law 906 = some (.iadd, 907) := by decide +kernel
theorem dL_law_907 : dcd cL_law 907 = some (.iaload, 908) := by decide +kernel
theorem dL_law_908 : dcd cL_law 908 = some (.invokevirtual 129, 911) := by decide +kernel
theorem dL_law_911 : dcd cL_law 911 = some (.aload_n 2, 912) := by decide +kernel
theorem dL_law_912 : dcd cL_law 912 = some (.aload_n 0, 913) := by decide +kernel
theorem dL_law_913 : dcd cL_law 913 = some (.iload_n 3, 914) := by decide +kernel
theorem dL_law_914 : dcd cL_law 914 = some (.iconst 1, 915) := by decide +kernel
theorem dL_law_915 : dcd cL_law 915 = some (.iadd, 916) := by decide +kernel
theorem dL_law_916 : dcd cL_law 916 = some (.iaload, 917) := by decide +kernel
theorem dL_law_917 : dcd cL_law 917 = some (.aload_n 0, 918) := by decide +kernel
theorem dL_law_918 : dcd cL_law 918 = some (.iload_n 3, 919) := by decide +kernel
theorem dL_law_919 : dcd cL_law 919 = some (.iconst 2, 920) := by decide +kernel
theorem dL_law_920 : dcd cL_law 920 = some (.iadd, 921) := by decide +kernel
theorem dL_law_921 : dcd cL_law 921 = some (.iaload, 922) := by decide +kernel
theorem dL_law_922 : dcd cL_law 922 = some (.invokevirtual 132, 925) := by decide +kernel
theorem dL_law_925 : dcd cL_law 925 = some (.if_icmp .eq 88, 928) := by decide +kernel
theorem dL_law_928 : dcd cL_law 928 = some (.iconst 0, 929) := by decide +kernel
theorem dL_law_929 : dcd cL_law 929 = some (.ireturn, 930) := by decide +kernel
theorem dL_law_930 : dcd cL_law 930 = some (.aload_n 1, 931) := by decide +kernel
theorem dL_law_931 : dcd cL_law 931 = some (.aload_n 0, 932) := by decide +kernel
theorem dL_law_932 : dcd cL_law 932 = some (.iload_n 3, 933) := by decide +kernel
theorem dL_law_933 : dcd cL_law 933 = some (.iconst 1, 934) := by decide +kernel
theorem dL_law_934 : dcd cL_law 934 = some (.iadd, 935) := by decide +kernel
theorem dL_law_935 : dcd cL_law 935 = some (.iaload, 936) := by decide +kernel
theorem dL_law_936 : dcd cL_law 936 = some (.invokevirtual 133, 939) := by decide +kernel
theorem dL_law_939 : dcd cL_law 939 = some (.aload_n 2, 940) := by decide +kernel
theorem dL_law_940 : dcd cL_law 940 = some (.aload_n 0, 941) := by decide +kernel
theorem dL_law_941 : dcd cL_law 941 = some (.iload_n 3, 942) := by decide +kernel
theorem dL_law_942 : dcd cL_law 942 = some (.iconst 1, 943) := by decide +kernel
theorem dL_law_943 : dcd cL_law 943 = some (.iadd, 944) := by decide +kernel
theorem dL_law_944 : dcd cL_law 944 = some (.iaload, 945) := by decide +kernel
theorem dL_law_945 : dcd cL_law 945 = some (.invokevirtual 136, 948) := by decide +kernel
theorem dL_law_948 : dcd cL_law 948 = some (.if_icmp .eq 65, 951) := by decide +kernel
theorem dL_law_951 : dcd cL_law 951 = some (.iconst 0, 952) := by decide +kernel
theorem dL_law_952 : dcd cL_law 952 = some (.ireturn, 953) := by decide +kernel
theorem dL_law_953 : dcd cL_law 953 = some (.aload_n 1, 954) := by decide +kernel
theorem dL_law_954 : dcd cL_law 954 = some (.aload_n 0, 955) := by decide +kernel
theorem dL_law_955 : dcd cL_law 955 = some (.iload_n 3, 956) := by decide +kernel
theorem dL_law_956 : dcd cL_law 956 = some (.iconst 1, 957) := by decide +kernel
theorem dL_law_957 : dcd cL_law 957 = some (.iadd, 958) := by decide +kernel
theorem dL_law_958 : dcd cL_law 958 = some (.iaload, 959) := by decide +kernel
theorem dL_law_959 : dcd cL_law 959 = some (.invokevirtual 137, 962) := by decide +kernel
theorem dL_law_962 : dcd cL_law 962 = some (.aload_n 2, 963) := by decide +kernel
theorem dL_law_963 : dcd cL_law 963 = some (.aload_n 0, 964) := by decide +kernel
theorem dL_law_964 : dcd cL_law 964 = some (.iload_n 3, 965) := by decide +kernel
theorem dL_law_965 : dcd cL_law 965 = some (.iconst 1, 966) := by decide +kernel
theorem dL_law_966 : dcd cL_law 966 = some (.iadd, 967) := by decide +kernel
theorem dL_law_967 : dcd cL_law 967 = some (.iaload, 968) := by decide +kernel
theorem dL_law_968 : dcd cL_law 968 = some (.invokevirtual 140, 971) := by decide +kernel
theorem dL_law_971 : dcd cL_law 971 = some (.if_icmp .eq 42, 974) := by decide +kernel
theorem dL_law_974 : dcd cL_law 974 = some (.iconst 0, 975) := by decide +kernel
theorem dL_law_975 : dcd cL_law 975 = some (.ireturn, 976) := by decide +kernel
theorem dL_law_976 : dcd cL_law 976 = some (.aload_n 1, 977) := by decide +kernel
theorem dL_law_977 : dcd cL_law 977 = some (.aload_n 0, 978) := by decide +kernel
theorem dL_law_978 : dcd cL_law 978 = some (.iload_n 3, 979) := by decide +kernel
theorem dL_law_979 : dcd cL_law 979 = some (.iconst 1, 980) := by decide +kernel
theorem dL_law_980 : dcd cL_law 980 = some (.iadd, 981) := by decide +kernel
theorem dL_law_981 : dcd cL_law 981 = some (.iaload, 982) := by decide +kernel
theorem dL_law_982 : dcd cL_law 982 = some (.invokevirtual 141, 985) := by decide +kernel
theorem dL_law_985 : dcd cL_law 985 = some (.aload_n 2, 986) := by decide +kernel
theorem dL_law_986 : dcd cL_law 986 = some (.aload_n 0, 987) := by decide +kernel
theorem dL_law_987 : dcd cL_law 987 = some (.iload_n 3, 988) := by decide +kernel
theorem dL_law_988 : dcd cL_law 988 = some (.iconst 1, 989) := by decide +kernel
theorem dL_law_989 : dcd cL_law 989 = some (.iadd, 990) := by decide +kernel
theorem dL_law_990 : dcd cL_law 990 = some (.iaload, 991) := by decide +kernel
theorem dL_law_991 : dcd cL_law 991 = some (.invokevirtual 144, 994) := by decide +kernel
theorem dL_law_994 : dcd cL_law 994 = some (.if_icmp .eq 19, 997) := by decide +kernel
theorem dL_law_997 : dcd cL_law 997 = some (.iconst 0, 998) := by decide +kernel
theorem dL_law_998 : dcd cL_law 998 = some (.ireturn, 999) := by decide +kernel
theorem dL_law_999 : dcd cL_law 999 = some (.aload_n 1, 1000) := by decide +kernel
theorem dL_law_1000 : dcd cL_law 1000 = some (.invokevirtual 145, 1003) := by decide +kernel
theorem dL_law_1003 : dcd cL_law 1003 = some (.aload_n 2, 1004) := by decide +kernel
theorem dL_law_1004 : dcd cL_law 1004 = some (.invokevirtual 149, 1007) := by decide +kernel
theorem dL_law_1007 : dcd cL_law 1007 = some (.lcmp, 1008) := by decide +kernel
theorem dL_law_1008 : dcd cL_law 1008 = some (.ifCond .eq 5, 1011) := by decide +kernel
theorem dL_law_1011 : dcd cL_law 1011 = some (.iconst 0, 1012) := by decide +kernel
theorem dL_law_1012 : dcd cL_law 1012 = some (.ireturn, 1013) := by decide +kernel
theorem dL_law_1013 : dcd cL_law 1013 = some (.iinc 3 5, 1016) := by decide +kernel
theorem dL_law_1016 : dcd cL_law 1016 = some (.goto (-998), 1019) := by decide +kernel
theorem dL_law_1019 : dcd cL_law 1019 = some (.iconst 1, 1020) := by decide +kernel
theorem dL_law_1020 : dcd cL_law 1020 = some (.ireturn, 1021) := by decide +kernel
