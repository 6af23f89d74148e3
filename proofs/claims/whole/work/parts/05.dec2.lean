theorem dX8_forth_9 : decode cX8_forth 9 = .ok (.iconst (-1), 1) := by decide +kernel
theorem dX8_forth_10 : decode cX8_forth 10 = .ok (.if_icmp .ne 7, 3) := by decide +kernel
theorem dX8_forth_13 : decode cX8_forth 13 = .ok (.iconst (-1), 1) := by decide +kernel
theorem dX8_forth_14 : decode cX8_forth 14 = .ok (.goto 12, 3) := by decide +kernel
theorem dX8_forth_17 : decode cX8_forth 17 = .ok (.aload_n 0, 1) := by decide +kernel
theorem dX8_forth_18 : decode cX8_forth 18 = .ok (.aload_n 0, 1) := by decide +kernel
theorem dX8_forth_19 : decode cX8_forth 19 = .ok (.getfield 101, 3) := by decide +kernel
theorem dX8_forth_22 : decode cX8_forth 22 = .ok (.iconst 1, 1) := by decide +kernel
theorem dX8_forth_23 : decode cX8_forth 23 = .ok (.invokevirtual 199, 3) := by decide +kernel
theorem dX8_forth_26 : decode cX8_forth 26 = .ok (.istore_n 1, 1) := by decide +kernel
theorem dX8_forth_27 : decode cX8_forth 27 = .ok (.iload_n 1, 1) := by decide +kernel
theorem dX8_forth_28 : decode cX8_forth 28 = .ok (.iconst (-1), 1) := by decide +kernel
theorem dX8_forth_29 : decode cX8_forth 29 = .ok (.if_icmp .eq 8, 3) := by decide +kernel
theorem dX8_forth_32 : decode cX8_forth 32 = .ok (.aload_n 0, 1) := by decide +kernel
theorem dX8_forth_33 : decode cX8_forth 33 = .ok (.iload_n 1, 1) := by decide +kernel
theorem dX8_forth_34 : decode cX8_forth 34 = .ok (.invokevirtual 224, 3) := by decide +kernel
theorem dX8_forth_37 : decode cX8_forth 37 = .ok (.iload_n 1, 1) := by decide +kernel
theorem dX8_forth_38 : decode cX8_forth 38 = .ok (.ireturn, 1) := by decide +kernel
theorem dX8_goesTo_0 : decode cX8_goesTo 0 = .ok (.aload_n 0, 1) := by decide +kernel
theorem dX8_goesTo_1 : decode cX8_goesTo 1 = .ok (.getfield 101, 3) := by decide +kernel
theorem dX8_goesTo_4 : decode cX8_goesTo 4 = .ok (.iconst (-1), 1) := by decide +kernel
theorem dX8_goesTo_5 : decode cX8_goesTo 5 = .ok (.if_icmp .eq 36, 3) := by decide +kernel
theorem dX8_goesTo_8 : decode cX8_goesTo 8 = .ok (.aload_n 0, 1) := by decide +kernel
theorem dX8_goesTo_9 : decode cX8_goesTo 9 = .ok (.getfield 202, 3) := by decide +kernel
theorem dX8_goesTo_12 : decode cX8_goesTo 12 = .ok (.sipush 8192, 3) := by decide +kernel
theorem dX8_goesTo_15 : decode cX8_goesTo 15 = .ok (.if_icmp .ge 26, 3) := by decide +kernel
theorem dX8_goesTo_18 : decode cX8_goesTo 18 = .ok (.aload_n 0, 1) := by decide +kernel
theorem dX8_goesTo_19 : decode cX8_goesTo 19 = .ok (.getfield 105, 3) := by decide +kernel
theorem dX8_goesTo_22 : decode cX8_goesTo 22 = .ok (.aload_n 0, 1) := by decide +kernel
theorem dX8_goesTo_23 : decode cX8_goesTo 23 = .ok (.getfield 202, 3) := by decide +kernel
theorem dX8_goesTo_26 : decode cX8_goesTo 26 = .ok (.aload_n 0, 1) := by decide +kernel
theorem dX8_goesTo_27 : decode cX8_goesTo 27 = .ok (.getfield 101, 3) := by decide +kernel
theorem dX8_goesTo_30 : decode cX8_goesTo 30 = .ok (.iastore, 1) := by decide +kernel
theorem dX8_goesTo_31 : decode cX8_goesTo 31 = .ok (.aload_n 0, 1) := by decide +kernel
theorem dX8_goesTo_32 : decode cX8_goesTo 32 = .ok (.dup, 1) := by decide +kernel
theorem dX8_goesTo_33 : decode cX8_goesTo 33 = .ok (.getfield 202, 3) := by decide +kernel
theorem dX8_goesTo_36 : decode cX8_goesTo 36 = .ok (.iconst 1, 1) := by decide +kernel
theorem dX8_goesTo_37 : decode cX8_goesTo 37 = .ok (.iadd, 1) := by decide +kernel
theorem dX8_goesTo_38 : decode cX8_goesTo 38 = .ok (.putfield 202, 3) := by decide +kernel
theorem dX8_goesTo_41 : decode cX8_goesTo 41 = .ok (.aload_n 0, 1) := by decide +kernel
theorem dX8_goesTo_42 : decode cX8_goesTo 42 = .ok (.iload_n 1, 1) := by decide +kernel
theorem dX8_goesTo_43 : decode cX8_goesTo 43 = .ok (.putfield 101, 3) := by decide +kernel
theorem dX8_goesTo_46 : decode cX8_goesTo 46 = .ok (.return_, 1) := by decide +kernel
theorem dX8_grown_0 : decode cX8_grown 0 = .ok (.aload_n 0, 1) := by decide +kernel
theorem dX8_grown_1 : decode cX8_grown 1 = .ok (.getfield 53, 3) := by decide +kernel
theorem dX8_grown_4 : decode cX8_grown 4 = .ok (.iload_n 1, 1) := by decide +kernel
theorem dX8_grown_5 : decode cX8_grown 5 = .ok (.iaload, 1) := by decide +kernel
theorem dX8_grown_6 : decode cX8_grown 6 = .ok (.aload_n 0, 1) := by decide +kernel
theorem dX8_grown_7 : decode cX8_grown 7 = .ok (.getfield 23, 3) := by decide +kernel
theorem dX8_grown_10 : decode cX8_grown 10 = .ok (.aload_n 0, 1) := by decide +kernel
theorem dX8_grown_11 : decode cX8_grown 11 = .ok (.getfield 7, 3) := by decide +kernel
theorem dX8_grown_14 : decode cX8_grown 14 = .ok (.iload_n 2, 1) := by decide +kernel
theorem dX8_grown_15 : decode cX8_grown 15 = .ok (.iaload, 1) := by decide +kernel
theorem dX8_grown_16 : decode cX8_grown 16 = .ok (.iaload, 1) := by decide +kernel
theorem dX8_grown_17 : decode cX8_grown 17 = .ok (.imul, 1) := by decide +kernel
theorem dX8_grown_18 : decode cX8_grown 18 = .ok (.bipush 99, 2) := by decide +kernel
theorem dX8_grown_20 : decode cX8_grown 20 = .ok (.iadd, 1) := by decide +kernel
theorem dX8_grown_21 : decode cX8_grown 21 = .ok (.bipush 100, 2) := by decide +kernel
theorem dX8_grown_23 : decode cX8_grown 23 = .ok (.idiv, 1) := by decide +kernel
theorem dX8_grown_24 : decode cX8_grown 24 = .ok (.ireturn, 1) := by decide +kernel
theorem dX8_here_0 : decode cX8_here 0 = .ok (.aload_n 0, 1) := by decide +kernel
theorem dX8_here_1 : decode cX8_here 1 = .ok (.iconst 0, 1) := by decide +kernel
theorem dX8_here_2 : decode cX8_here 2 = .ok (.putfield 108, 3) := by decide +kernel
theorem dX8_here_5 : decode cX8_here 5 = .ok (.aload_n 0, 1) := by decide +kernel
theorem dX8_here_6 : decode cX8_here 6 = .ok (.getfield 101, 3) := by decide +kernel
theorem dX8_here_9 : decode cX8_here 9 = .ok (.ireturn, 1) := by decide +kernel
theorem dX8_in_0 : decode cX8_in 0 = .ok (.iload_n 0, 1) := by decide +kernel
theorem dX8_in_1 : decode cX8_in 1 = .ok (.iload_n 1, 1) := by decide +kernel
theorem dX8_in_2 : decode cX8_in 2 = .ok (.if_icmp .lt 12, 3) := by decide +kernel
theorem dX8_in_5 : decode cX8_in 5 = .ok (.iload_n 0, 1) := by decide +kernel
theorem dX8_in_6 : decode cX8_in 6 = .ok (.iload_n 2, 1) := by decide +kernel
theorem dX8_in_7 : decode cX8_in 7 = .ok (.if_icmp .gt 7, 3) := by decide +kernel
theorem dX8_in_10 : decode cX8_in 10 = .ok (.iconst 1, 1) := by decide +kernel
theorem dX8_in_11 : decode cX8_in 11 = .ok (.goto 4, 3) := by decide +kernel
theorem dX8_in_14 : decode cX8_in 14 = .ok (.iconst 0, 1) := by decide +kernel
theorem dX8_in_15 : decode cX8_in 15 = .ok (.ireturn, 1) := by decide +kernel
theorem dX8_init_0 : decode cX8_init 0 = .ok (.aload_n 0, 1) := by decide +kernel
theorem dX8_init_1 : decode cX8_init 1 = .ok (.invokespecial 1, 3) := by decide +kernel
theorem dX8_init_4 : decode cX8_init 4 = .ok (.aload_n 0, 1) := by decide +kernel
theorem dX8_init_5 : decode cX8_init 5 = .ok (.bipush 10, 2) := by decide +kernel
theorem dX8_init_7 : decode cX8_init 7 = .ok (.newarray .int, 2) := by decide +kernel
theorem dX8_init_9 : decode cX8_init 9 = .ok (.putfield 7, 3) := by decide +kernel
theorem dX8_init_12 : decode cX8_init 12 = .ok (.aload_n 0, 1) := by decide +kernel
theorem dX8_init_13 : decode cX8_init 13 = .ok (.bipush 10, 2) := by decide +kernel
theorem dX8_init_15 : decode cX8_init 15 = .ok (.newarray .int, 2) := by decide +kernel
theorem dX8_init_17 : decode cX8_init 17 = .ok (.putfield 13, 3) := by decide +kernel
theorem dX8_init_20 : decode cX8_init 20 = .ok (.aload_n 0, 1) := by decide +kernel
theorem dX8_init_21 : decode cX8_init 21 = .ok (.bipush 80, 2) := by decide +kernel
theorem dX8_init_23 : decode cX8_init 23 = .ok (.newarray .int, 2) := by decide +kernel
theorem dX8_init_25 : decode cX8_init 25 = .ok (.putfield 16, 3) := by decide +kernel
theorem dX8_init_28 : decode cX8_init 28 = .ok (.aload_n 0, 1) := by decide +kernel
theorem dX8_init_29 : decode cX8_init 29 = .ok (.bipush 10, 2) := by decide +kernel
theorem dX8_init_31 : decode cX8_init 31 = .ok (.newarray .boolean, 2) := by decide +kernel
theorem dX8_init_33 : decode cX8_init 33 = .ok (.putfield 19, 3) := by decide +kernel
theorem dX8_init_36 : decode cX8_init 36 = .ok (.aload_n 0, 1) := by decide +kernel
theorem dX8_init_37 : decode cX8_init 37 = .ok (.iconst 3, 1) := by decide +kernel
theorem dX8_init_38 : decode cX8_init 38 = .ok (.newarray .int, 2) := by decide +kernel
theorem dX8_init_40 : decode cX8_init 40 = .ok (.putfield 23, 3) := by decide +kernel
theorem dX8_init_43 : decode cX8_init 43 = .ok (.aload_n 0, 1) := by decide +kernel
theorem dX8_init_44 : decode cX8_init 44 = .ok (.bipush 50, 2) := by decide +kernel
theorem dX8_init_46 : decode cX8_init 46 = .ok (.newarray .int, 2) := by decide +kernel
theorem dX8_init_48 : decode cX8_init 48 = .ok (.putfield 26, 3) := by decide +kernel
theorem dX8_init_51 : decode cX8_init 51 = .ok (.aload_n 0, 1) := by decide +kernel
theorem dX8_init_52 : decode cX8_init 52 = .ok (.bipush 50, 2) := by decide +kernel
theorem dX8_init_54 : decode cX8_init 54 = .ok (.newarray .int, 2) := by decide +kernel
theorem dX8_init_56 : decode cX8_init 56 = .ok (.putfield 29, 3) := by decide +kernel
theorem dX8_init_59 : decode cX8_init 59 = .ok (.aload_n 0, 1) := by decide +kernel
theorem dX8_init_60 : decode cX8_init 60 = .ok (.bipush 50, 2) := by decide +kernel
theorem dX8_init_62 : decode cX8_init 62 = .ok (.newarray .int, 2) := by decide +kernel
theorem dX8_init_64 : decode cX8_init 64 = .ok (.putfield 32, 3) := by decide +kernel
theorem dX8_init_67 : decode cX8_init 67 = .ok (.aload_n 0, 1) := by decide +kernel
theorem dX8_init_68 : decode cX8_init 68 = .ok (.bipush 50, 2) := by decide +kernel
theorem dX8_init_70 : decode cX8_init 70 = .ok (.newarray .int, 2) := by decide +kernel
theorem dX8_init_72 : decode cX8_init 72 = .ok (.putfield 35, 3) := by decide +kernel
theorem dX8_init_75 : decode cX8_init 75 = .ok (.aload_n 0, 1) := by decide +kernel
theorem dX8_init_76 : decode cX8_init 76 = .ok (.bipush 50, 2) := by decide +kernel
theorem dX8_init_78 : decode cX8_init 78 = .ok (.newarray .int, 2) := by decide +kernel
theorem dX8_init_80 : decode cX8_init 80 = .ok (.putfield 38, 3) := by decide +kernel
theorem dX8_init_83 : decode cX8_init 83 = .ok (.aload_n 0, 1) := by decide +kernel
theorem dX8_init_84 : decode cX8_init 84 = .ok (.sipush 300, 3) := by decide +kernel
theorem dX8_init_87 : decode cX8_init 87 = .ok (.newarray .int, 2) := by decide +kernel
theorem dX8_init_89 : decode cX8_init 89 = .ok (.putfield 41, 3) := by decide +kernel
theorem dX8_init_92 : decode cX8_init 92 = .ok (.aload_n 0, 1) := by decide +kernel
theorem dX8_init_93 : decode cX8_init 93 = .ok (.bipush 50, 2) := by decide +kernel
theorem dX8_init_95 : decode cX8_init 95 = .ok (.newarray .int, 2) := by decide +kernel
theorem dX8_init_97 : decode cX8_init 97 = .ok (.putfield 44, 3) := by decide +kernel
theorem dX8_init_100 : decode cX8_init 100 = .ok (.aload_n 0, 1) := by decide +kernel
theorem dX8_init_101 : decode cX8_init 101 = .ok (.sipush 200, 3) := by decide +kernel
theorem dX8_init_104 : decode cX8_init 104 = .ok (.newarray .int, 2) := by decide +kernel
theorem dX8_init_106 : decode cX8_init 106 = .ok (.putfield 47, 3) := by decide +kernel
theorem dX8_init_109 : decode cX8_init 109 = .ok (.aload_n 0, 1) := by decide +kernel
theorem dX8_init_110 : decode cX8_init 110 = .ok (.bipush 80, 2) := by decide +kernel
theorem dX8_init_112 : decode cX8_init 112 = .ok (.newarray .int, 2) := by decide +kernel
theorem dX8_init_114 : decode cX8_init 114 = .ok (.putfield 50, 3) := by decide +kernel
theorem dX8_init_117 : decode cX8_init 117 = .ok (.aload_n 0, 1) := by decide +kernel
theorem dX8_init_118 : decode cX8_init 118 = .ok (.bipush 80, 2) := by decide +kernel
theorem dX8_init_120 : decode cX8_init 120 = .ok (.newarray .int, 2) := by decide +kernel
theorem dX8_init_122 : decode cX8_init 122 = .ok (.putfield 53, 3) := by decide +kernel
theorem dX8_init_125 : decode cX8_init 125 = .ok (.aload_n 0, 1) := by decide +kernel
theorem dX8_init_126 : decode cX8_init 126 = .ok (.bipush 80, 2) := by decide +kernel
theorem dX8_init_128 : decode cX8_init 128 = .ok (.newarray .int, 2) := by decide +kernel
theorem dX8_init_130 : decode cX8_init 130 = .ok (.putfield 56, 3) := by decide +kernel
theorem dX8_init_133 : decode cX8_init 133 = .ok (.aload_n 0, 1) := by decide +kernel
theorem dX8_init_134 : decode cX8_init 134 = .ok (.sipush 250, 3) := by decide +kernel
theorem dX8_init_137 : decode cX8_init 137 = .ok (.newarray .int, 2) := by decide +kernel
theorem dX8_init_139 : decode cX8_init 139 = .ok (.putfield 59, 3) := by decide +kernel
theorem dX8_init_142 : decode cX8_init 142 = .ok (.aload_n 0, 1) := by decide +kernel
theorem dX8_init_143 : decode cX8_init 143 = .ok (.sipush 320, 3) := by decide +kernel
theorem dX8_init_146 : decode cX8_init 146 = .ok (.newarray .int, 2) := by decide +kernel
theorem dX8_init_148 : decode cX8_init 148 = .ok (.putfield 62, 3) := by decide +kernel
theorem dX8_init_151 : decode cX8_init 151 = .ok (.aload_n 0, 1) := by decide +kernel
theorem dX8_init_152 : decode cX8_init 152 = .ok (.sipush 384, 3) := by decide +kernel
theorem dX8_init_155 : decode cX8_init 155 = .ok (.newarray .int, 2) := by decide +kernel
theorem dX8_init_157 : decode cX8_init 157 = .ok (.putfield 65, 3) := by decide +kernel
theorem dX8_init_160 : decode cX8_init 160 = .ok (.aload_n 0, 1) := by decide +kernel
theorem dX8_init_161 : decode cX8_init 161 = .ok (.bipush 10, 2) := by decide +kernel
theorem dX8_init_163 : decode cX8_init 163 = .ok (.newarray .int, 2) := by decide +kernel
theorem dX8_init_165 : decode cX8_init 165 = .ok (.putfield 68, 3) := by decide +kernel
theorem dX8_init_168 : decode cX8_init 168 = .ok (.aload_n 0, 1) := by decide +kernel
theorem dX8_init_169 : decode cX8_init 169 = .ok (.bipush 10, 2) := by decide +kernel
theorem dX8_init_171 : decode cX8_init 171 = .ok (.newarray .int, 2) := by decide +kernel
theorem dX8_init_173 : decode cX8_init 173 = .ok (.putfield 71, 3) := by decide +kernel
theorem dX8_init_176 : decode cX8_init 176 = .ok (.aload_n 0, 1) := by decide +kernel
theorem dX8_init_177 : decode cX8_init 177 = .ok (.bipush 10, 2) := by decide +kernel
theorem dX8_init_179 : decode cX8_init 179 = .ok (.newarray .int, 2) := by decide +kernel
theorem dX8_init_181 : decode cX8_init 181 = .ok (.putfield 74, 3) := by decide +kernel
theorem dX8_init_184 : decode cX8_init 184 = .ok (.aload_n 0, 1) := by decide +kernel
theorem dX8_init_185 : decode cX8_init 185 = .ok (.bipush 80, 2) := by decide +kernel
theorem dX8_init_187 : decode cX8_init 187 = .ok (.newarray .int, 2) := by decide +kernel
theorem dX8_init_189 : decode cX8_init 189 = .ok (.putfield 77, 3) := by decide +kernel
theorem dX8_init_192 : decode cX8_init 192 = .ok (.aload_n 0, 1) := by decide +kernel
theorem dX8_init_193 : decode cX8_init 193 = .ok (.iconst 3, 1) := by decide +kernel
theorem dX8_init_194 : decode cX8_init 194 = .ok (.newarray .int, 2) := by decide +kernel
theorem dX8_init_196 : decode cX8_init 196 = .ok (.putfield 80, 3) := by decide +kernel
theorem dX8_init_199 : decode cX8_init 199 = .ok (.aload_n 0, 1) := by decide +kernel
theorem dX8_init_200 : decode cX8_init 200 = .ok (.bipush 50, 2) := by decide +kernel
theorem dX8_init_202 : decode cX8_init 202 = .ok (.newarray .int, 2) := by decide +kernel
theorem dX8_init_204 : decode cX8_init 204 = .ok (.putfield 83, 3) := by decide +kernel
theorem dX8_init_207 : decode cX8_init 207 = .ok (.aload_n 0, 1) := by decide +kernel
theorem dX8_init_208 : decode cX8_init 208 = .ok (.bipush 50, 2) := by decide +kernel
theorem dX8_init_210 : decode cX8_init 210 = .ok (.newarray .int, 2) := by decide +kernel
theorem dX8_init_212 : decode cX8_init 212 = .ok (.putfield 86, 3) := by decide +kernel
theorem dX8_init_215 : decode cX8_init 215 = .ok (.aload_n 0, 1) := by decide +kernel
theorem dX8_init_216 : decode cX8_init 216 = .ok (.bipush 50, 2) := by decide +kernel
theorem dX8_init_218 : decode cX8_init 218 = .ok (.newarray .int, 2) := by decide +kernel
theorem dX8_init_220 : decode cX8_init 220 = .ok (.putfield 89, 3) := by decide +kernel
theorem dX8_init_223 : decode cX8_init 223 = .ok (.aload_n 0, 1) := by decide +kernel
theorem dX8_init_224 : decode cX8_init 224 = .ok (.sipush 200, 3) := by decide +kernel
theorem dX8_init_227 : decode cX8_init 227 = .ok (.newarray .int, 2) := by decide +kernel
theorem dX8_init_229 : decode cX8_init 229 = .ok (.putfield 92, 3) := by decide +kernel
theorem dX8_init_232 : decode cX8_init 232 = .ok (.aload_n 0, 1) := by decide +kernel
theorem dX8_init_233 : decode cX8_init 233 = .ok (.bipush 80, 2) := by decide +kernel
theorem dX8_init_235 : decode cX8_init 235 = .ok (.newarray .int, 2) := by decide +kernel
theorem dX8_init_237 : decode cX8_init 237 = .ok (.putfield 95, 3) := by decide +kernel
theorem dX8_init_240 : decode cX8_init 240 = .ok (.aload_n 0, 1) := by decide +kernel
theorem dX8_init_241 : decode cX8_init 241 = .ok (.sipush 250, 3) := by decide +kernel
theorem dX8_init_244 : decode cX8_init 244 = .ok (.newarray .int, 2) := by decide +kernel
theorem dX8_init_246 : decode cX8_init 246 = .ok (.putfield 98, 3) := by decide +kernel
theorem dX8_init_249 : decode cX8_init 249 = .ok (.aload_n 0, 1) := by decide +kernel
theorem dX8_init_250 : decode cX8_init 250 = .ok (.iconst (-1), 1) := by decide +kernel
theorem dX8_init_251 : decode cX8_init 251 = .ok (.putfield 101, 3) := by decide +kernel
theorem dX8_init_254 : decode cX8_init 254 = .ok (.aload_n 0, 1) := by decide +kernel
theorem dX8_init_255 : decode cX8_init 255 = .ok (.sipush 8192, 3) := by decide +kernel
theorem dX8_init_258 : decode cX8_init 258 = .ok (.newarray .int, 2) := by decide +kernel
theorem dX8_init_260 : decode cX8_init 260 = .ok (.putfield 105, 3) := by decide +kernel
theorem dX8_init_263 : decode cX8_init 263 = .ok (.iconst 0, 1) := by decide +kernel
theorem dX8_init_264 : decode cX8_init 264 = .ok (.istore_n 1, 1) := by decide +kernel
theorem dX8_init_265 : decode cX8_init 265 = .ok (.iload_n 1, 1) := by decide +kernel
theorem dX8_init_266 : decode cX8_init 266 = .ok (.iconst 3, 1) := by decide +kernel
theorem dX8_init_267 : decode cX8_init 267 = .ok (.if_icmp .ge 17, 3) := by decide +kernel
theorem dX8_init_270 : decode cX8_init 270 = .ok (.aload_n 0, 1) := by decide +kernel
theorem dX8_init_271 : decode cX8_init 271 = .ok (.getfield 23, 3) := by decide +kernel
theorem dX8_init_274 : decode cX8_init 274 = .ok (.iload_n 1, 1) := by decide +kernel
theorem dX8_init_275 : decode cX8_init 275 = .ok (.bipush 100, 2) := by decide +kernel
theorem dX8_init_277 : decode cX8_init 277 = .ok (.iastore, 1) := by decide +kernel
theorem dX8_init_278 : decode cX8_init 278 = .ok (.iinc 1 1, 3) := by decide +kernel
theorem dX8_init_281 : decode cX8_init 281 = .ok (.goto (-16), 3) := by decide +kernel
theorem dX8_init_284 : decode cX8_init 284 = .ok (.return_, 1) := by decide +kernel
theorem dX8_inserts_0 : decode cX8_inserts 0 = .ok (.iload_n 2, 1) := by decide +kernel
theorem dX8_inserts_1 : decode cX8_inserts 1 = .ok (.istore 5, 2) := by decide +kernel
theorem dX8_inserts_3 : decode cX8_inserts 3 = .ok (.iload 5, 2) := by decide +kernel
theorem dX8_inserts_5 : decode cX8_inserts 5 = .ok (.iload_n 3, 1) := by decide +kernel
theorem dX8_inserts_6 : decode cX8_inserts 6 = .ok (.if_icmp .le 23, 3) := by decide +kernel
theorem dX8_inserts_9 : decode cX8_inserts 9 = .ok (.aload_n 0, 1) := by decide +kernel
theorem dX8_inserts_10 : decode cX8_inserts 10 = .ok (.iload_n 1, 1) := by decide +kernel
theorem dX8_inserts_11 : decode cX8_inserts 11 = .ok (.iload 5, 2) := by decide +kernel
theorem dX8_inserts_13 : decode cX8_inserts 13 = .ok (.iadd, 1) := by decide +kernel
theorem dX8_inserts_14 : decode cX8_inserts 14 = .ok (.aload_n 0, 1) := by decide +kernel
theorem dX8_inserts_15 : decode cX8_inserts 15 = .ok (.iload_n 1, 1) := by decide +kernel
theorem dX8_inserts_16 : decode cX8_inserts 16 = .ok (.iload 5, 2) := by decide +kernel
theorem dX8_inserts_18 : decode cX8_inserts 18 = .ok (.iadd, 1) := by decide +kernel
theorem dX8_inserts_19 : decode cX8_inserts 19 = .ok (.iconst 1, 1) := by decide +kernel
theorem dX8_inserts_20 : decode cX8_inserts 20 = .ok (.isub, 1) := by decide +kernel
theorem dX8_inserts_21 : decode cX8_inserts 21 = .ok (.iaload, 1) := by decide +kernel
theorem dX8_inserts_22 : decode cX8_inserts 22 = .ok (.iastore, 1) := by decide +kernel
theorem dX8_inserts_23 : decode cX8_inserts 23 = .ok (.iinc 5 (-1), 3) := by decide +kernel
theorem dX8_inserts_26 : decode cX8_inserts 26 = .ok (.goto (-23), 3) := by decide +kernel
theorem dX8_inserts_29 : decode cX8_inserts 29 = .ok (.aload_n 0, 1) := by decide +kernel
theorem dX8_inserts_30 : decode cX8_inserts 30 = .ok (.iload_n 1, 1) := by decide +kernel
theorem dX8_inserts_31 : decode cX8_inserts 31 = .ok (.iload_n 3, 1) := by decide +kernel
theorem dX8_inserts_32 : decode cX8_inserts 32 = .ok (.iadd, 1) := by decide +kernel
theorem dX8_inserts_33 : decode cX8_inserts 33 = .ok (.iload 4, 2) := by decide +kernel
theorem dX8_inserts_35 : decode cX8_inserts 35 = .ok (.iastore, 1) := by decide +kernel
theorem dX8_inserts_36 : decode cX8_inserts 36 = .ok (.return_, 1) := by decide +kernel
theorem dX8_isBalloon_0 : decode cX8_isBalloon 0 = .ok (.iload_n 1, 1) := by decide +kernel
theorem dX8_isBalloon_1 : decode cX8_isBalloon 1 = .ok (.iconst 0, 1) := by decide +kernel
theorem dX8_isBalloon_2 : decode cX8_isBalloon 2 = .ok (.aload_n 0, 1) := by decide +kernel
theorem dX8_isBalloon_3 : decode cX8_isBalloon 3 = .ok (.getfield 121, 3) := by decide +kernel
theorem dX8_isBalloon_6 : decode cX8_isBalloon 6 = .ok (.iconst 1, 1) := by decide +kernel
theorem dX8_isBalloon_7 : decode cX8_isBalloon 7 = .ok (.isub, 1) := by decide +kernel
theorem dX8_isBalloon_8 : decode cX8_isBalloon 8 = .ok (.invokestatic 114, 3) := by decide +kernel
theorem dX8_isBalloon_11 : decode cX8_isBalloon 11 = .ok (.ifCond .eq 17, 3) := by decide +kernel
theorem dX8_isBalloon_14 : decode cX8_isBalloon 14 = .ok (.aload_n 0, 1) := by decide +kernel
theorem dX8_isBalloon_15 : decode cX8_isBalloon 15 = .ok (.getfield 50, 3) := by decide +kernel
theorem dX8_isBalloon_18 : decode cX8_isBalloon 18 = .ok (.iload_n 1, 1) := by decide +kernel
theorem dX8_isBalloon_19 : decode cX8_isBalloon 19 = .ok (.iaload, 1) := by decide +kernel
theorem dX8_isBalloon_20 : decode cX8_isBalloon 20 = .ok (.iconst (-1), 1) := by decide +kernel
theorem dX8_isBalloon_21 : decode cX8_isBalloon 21 = .ok (.if_icmp .eq 7, 3) := by decide +kernel
theorem dX8_isBalloon_24 : decode cX8_isBalloon 24 = .ok (.iconst 1, 1) := by decide +kernel
theorem dX8_isBalloon_25 : decode cX8_isBalloon 25 = .ok (.goto 4, 3) := by decide +kernel
theorem dX8_isBalloon_28 : decode cX8_isBalloon 28 = .ok (.iconst 0, 1) := by decide +kernel
theorem dX8_isBalloon_29 : decode cX8_isBalloon 29 = .ok (.ireturn, 1) := by decide +kernel
theorem dX8_isBefore_0 : decode cX8_isBefore 0 = .ok (.aload_n 0, 1) := by decide +kernel
theorem dX8_isBefore_1 : decode cX8_isBefore 1 = .ok (.getfield 50, 3) := by decide +kernel
theorem dX8_isBefore_4 : decode cX8_isBefore 4 = .ok (.iload_n 1, 1) := by decide +kernel
theorem dX8_isBefore_5 : decode cX8_isBefore 5 = .ok (.iaload, 1) := by decide +kernel
theorem dX8_isBefore_6 : decode cX8_isBefore 6 = .ok (.istore_n 3, 1) := by decide +kernel
theorem dX8_isBefore_7 : decode cX8_isBefore 7 = .ok (.aload_n 0, 1) := by decide +kernel
theorem dX8_isBefore_8 : decode cX8_isBefore 8 = .ok (.getfield 50, 3) := by decide +kernel
theorem dX8_isBefore_11 : decode cX8_isBefore 11 = .ok (.iload_n 2, 1) := by decide +kernel
theorem dX8_isBefore_12 : decode cX8_isBefore 12 = .ok (.iaload, 1) := by decide +kernel
theorem dX8_isBefore_13 : decode cX8_isBefore 13 = .ok (.istore 4, 2) := by decide +kernel
theorem dX8_isBefore_15 : decode cX8_isBefore 15 = .ok (.iload_n 3, 1) := by decide +kernel
theorem dX8_isBefore_16 : decode cX8_isBefore 16 = .ok (.iload 4, 2) := by decide +kernel
theorem dX8_isBefore_18 : decode cX8_isBefore 18 = .ok (.if_icmp .ne 35, 3) := by decide +kernel
theorem dX8_isBefore_21 : decode cX8_isBefore 21 = .ok (.aload_n 0, 1) := by decide +kernel
theorem dX8_isBefore_22 : decode cX8_isBefore 22 = .ok (.getfield 47, 3) := by decide +kernel
theorem dX8_isBefore_25 : decode cX8_isBefore 25 = .ok (.iconst 4, 1) := by decide +kernel
theorem dX8_isBefore_26 : decode cX8_isBefore 26 = .ok (.iload_n 3, 1) := by decide +kernel
theorem dX8_isBefore_27 : decode cX8_isBefore 27 = .ok (.imul, 1) := by decide +kernel
theorem dX8_isBefore_28 : decode cX8_isBefore 28 = .ok (.iload_n 1, 1) := by decide +kernel
theorem dX8_isBefore_29 : decode cX8_isBefore 29 = .ok (.invokestatic 150, 3) := by decide +kernel
theorem dX8_isBefore_32 : decode cX8_isBefore 32 = .ok (.aload_n 0, 1) := by decide +kernel
theorem dX8_isBefore_33 : decode cX8_isBefore 33 = .ok (.getfield 47, 3) := by decide +kernel
theorem dX8_isBefore_36 : decode cX8_isBefore 36 = .ok (.iconst 4, 1) := by decide +kernel
theorem dX8_isBefore_37 : decode cX8_isBefore 37 = .ok (.iload 4, 2) := by decide +kernel
theorem dX8_isBefore_39 : decode cX8_isBefore 39 = .ok (.imul, 1) := by decide +kernel
theorem dX8_isBefore_40 : decode cX8_isBefore 40 = .ok (.iload_n 2, 1) := by decide +kernel
theorem dX8_isBefore_41 : decode cX8_isBefore 41 = .ok (.invokestatic 150, 3) := by decide +kernel
theorem dX8_isBefore_44 : decode cX8_isBefore 44 = .ok (.if_icmp .ge 7, 3) := by decide +kernel
theorem dX8_isBefore_47 : decode cX8_isBefore 47 = .ok (.iconst 1, 1) := by decide +kernel
theorem dX8_isBefore_48 : decode cX8_isBefore 48 = .ok (.goto 4, 3) := by decide +kernel
theorem dX8_isBefore_51 : decode cX8_isBefore 51 = .ok (.iconst 0, 1) := by decide +kernel
theorem dX8_isBefore_52 : decode cX8_isBefore 52 = .ok (.ireturn, 1) := by decide +kernel
theorem dX8_isBefore_53 : decode cX8_isBefore 53 = .ok (.aload_n 0, 1) := by decide +kernel
theorem dX8_isBefore_54 : decode cX8_isBefore 54 = .ok (.iload_n 3, 1) := by decide +kernel
theorem dX8_isBefore_55 : decode cX8_isBefore 55 = .ok (.invokevirtual 154, 3) := by decide +kernel
theorem dX8_isBefore_58 : decode cX8_isBefore 58 = .ok (.aload_n 0, 1) := by decide +kernel
theorem dX8_isBefore_59 : decode cX8_isBefore 59 = .ok (.iload 4, 2) := by decide +kernel
theorem dX8_isBefore_61 : decode cX8_isBefore 61 = .ok (.invokevirtual 154, 3) := by decide +kernel
theorem dX8_isBefore_64 : decode cX8_isBefore 64 = .ok (.if_icmp .ge 7, 3) := by decide +kernel
theorem dX8_isBefore_67 : decode cX8_isBefore 67 = .ok (.iconst 1, 1) := by decide +kernel
theorem dX8_isBefore_68 : decode cX8_isBefore 68 = .ok (.goto 4, 3) := by decide +kernel
theorem dX8_isBefore_71 : decode cX8_isBefore 71 = .ok (.iconst 0, 1) := by decide +kernel
theorem dX8_isBefore_72 : decode cX8_isBefore 72 = .ok (.ireturn, 1) := by decide +kernel
theorem dX8_isFree_0 : decode cX8_isFree 0 = .ok (.iconst 1, 1) := by decide +kernel
theorem dX8_isFree_1 : decode cX8_isFree 1 = .ok (.istore 6, 2) := by decide +kernel
theorem dX8_isFree_3 : decode cX8_isFree 3 = .ok (.iconst 0, 1) := by decide +kernel
theorem dX8_isFree_4 : decode cX8_isFree 4 = .ok (.istore 7, 2) := by decide +kernel
theorem dX8_isFree_6 : decode cX8_isFree 6 = .ok (.iload 7, 2) := by decide +kernel
theorem dX8_isFree_8 : decode cX8_isFree 8 = .ok (.iload 4, 2) := by decide +kernel
theorem dX8_isFree_10 : decode cX8_isFree 10 = .ok (.iload 5, 2) := by decide +kernel
theorem dX8_isFree_12 : decode cX8_isFree 12 = .ok (.imul, 1) := by decide +kernel
theorem dX8_isFree_13 : decode cX8_isFree 13 = .ok (.if_icmp .ge 47, 3) := by decide +kernel
theorem dX8_isFree_16 : decode cX8_isFree 16 = .ok (.iload 6, 2) := by decide +kernel
theorem dX8_isFree_18 : decode cX8_isFree 18 = .ok (.ifCond .eq 33, 3) := by decide +kernel
theorem dX8_isFree_21 : decode cX8_isFree 21 = .ok (.aload_n 0, 1) := by decide +kernel
theorem dX8_isFree_22 : decode cX8_isFree 22 = .ok (.getfield 65, 3) := by decide +kernel
theorem dX8_isFree_25 : decode cX8_isFree 25 = .ok (.iload_n 1, 1) := by decide +kernel
theorem dX8_isFree_26 : decode cX8_isFree 26 = .ok (.iload_n 3, 1) := by decide +kernel
theorem dX8_isFree_27 : decode cX8_isFree 27 = .ok (.iload 7, 2) := by decide +kernel
theorem dX8_isFree_29 : decode cX8_isFree 29 = .ok (.iload 4, 2) := by decide +kernel
theorem dX8_isFree_31 : decode cX8_isFree 31 = .ok (.idiv, 1) := by decide +kernel
theorem dX8_isFree_32 : decode cX8_isFree 32 = .ok (.iadd, 1) := by decide +kernel
theorem dX8_isFree_33 : decode cX8_isFree 33 = .ok (.imul, 1) := by decide +kernel
theorem dX8_isFree_34 : decode cX8_isFree 34 = .ok (.iload_n 2, 1) := by decide +kernel
theorem dX8_isFree_35 : decode cX8_isFree 35 = .ok (.iadd, 1) := by decide +kernel
theorem dX8_isFree_36 : decode cX8_isFree 36 = .ok (.iload 7, 2) := by decide +kernel
theorem dX8_isFree_38 : decode cX8_isFree 38 = .ok (.iload 4, 2) := by decide +kernel
theorem dX8_isFree_40 : decode cX8_isFree 40 = .ok (.irem, 1) := by decide +kernel
theorem dX8_isFree_41 : decode cX8_isFree 41 = .ok (.iadd, 1) := by decide +kernel
theorem dX8_isFree_42 : decode cX8_isFree 42 = .ok (.iaload, 1) := by decide +kernel
theorem dX8_isFree_43 : decode cX8_isFree 43 = .ok (.iconst (-1), 1) := by decide +kernel
theorem dX8_isFree_44 : decode cX8_isFree 44 = .ok (.if_icmp .ne 7, 3) := by decide +kernel
theorem dX8_isFree_47 : decode cX8_isFree 47 = .ok (.iconst 1, 1) := by decide +kernel
theorem dX8_isFree_48 : decode cX8_isFree 48 = .ok (.goto 4, 3) := by decide +kernel
theorem dX8_isFree_51 : decode cX8_isFree 51 = .ok (.iconst 0, 1) := by decide +kernel
theorem dX8_isFree_52 : decode cX8_isFree 52 = .ok (.istore 6, 2) := by decide +kernel
theorem dX8_isFree_54 : decode cX8_isFree 54 = .ok (.iinc 7 1, 3) := by decide +kernel
theorem dX8_isFree_57 : decode cX8_isFree 57 = .ok (.goto (-51), 3) := by decide +kernel
theorem dX8_isFree_60 : decode cX8_isFree 60 = .ok (.iload 6, 2) := by decide +kernel
theorem dX8_isFree_62 : decode cX8_isFree 62 = .ok (.ireturn, 1) := by decide +kernel
theorem dX8_isFromRight_0 : decode cX8_isFromRight 0 = .ok (.aload_n 0, 1) := by decide +kernel
theorem dX8_isFromRight_1 : decode cX8_isFromRight 1 = .ok (.getfield 7, 3) := by decide +kernel
theorem dX8_isFromRight_4 : decode cX8_isFromRight 4 = .ok (.iload_n 1, 1) := by decide +kernel
theorem dX8_isFromRight_5 : decode cX8_isFromRight 5 = .ok (.iaload, 1) := by decide +kernel
theorem dX8_isFromRight_6 : decode cX8_isFromRight 6 = .ok (.iconst 1, 1) := by decide +kernel
theorem dX8_isFromRight_7 : decode cX8_isFromRight 7 = .ok (.if_icmp .ne 7, 3) := by decide +kernel
theorem dX8_isFromRight_10 : decode cX8_isFromRight 10 = .ok (.iconst 1, 1) := by decide +kernel
theorem dX8_isFromRight_11 : decode cX8_isFromRight 11 = .ok (.goto 4, 3) := by decide +kernel
theorem dX8_isFromRight_14 : decode cX8_isFromRight 14 = .ok (.iconst 0, 1) := by decide +kernel
theorem dX8_isFromRight_15 : decode cX8_isFromRight 15 = .ok (.ireturn, 1) := by decide +kernel
theorem dX8_isPage_0 : decode cX8_isPage 0 = .ok (.iload_n 1, 1) := by decide +kernel
theorem dX8_isPage_1 : decode cX8_isPage 1 = .ok (.iconst 0, 1) := by decide +kernel
theorem dX8_isPage_2 : decode cX8_isPage 2 = .ok (.aload_n 0, 1) := by decide +kernel
theorem dX8_isPage_3 : decode cX8_isPage 3 = .ok (.getfield 111, 3) := by decide +kernel
theorem dX8_isPage_6 : decode cX8_isPage 6 = .ok (.iconst 1, 1) := by decide +kernel
theorem dX8_isPage_7 : decode cX8_isPage 7 = .ok (.isub, 1) := by decide +kernel
theorem dX8_isPage_8 : decode cX8_isPage 8 = .ok (.invokestatic 114, 3) := by decide +kernel
theorem dX8_isPage_11 : decode cX8_isPage 11 = .ok (.ireturn, 1) := by decide +kernel
theorem dX8_isPanel_0 : decode cX8_isPanel 0 = .ok (.iload_n 1, 1) := by decide +kernel
theorem dX8_isPanel_1 : decode cX8_isPanel 1 = .ok (.iconst 0, 1) := by decide +kernel
theorem dX8_isPanel_2 : decode cX8_isPanel 2 = .ok (.aload_n 0, 1) := by decide +kernel
theorem dX8_isPanel_3 : decode cX8_isPanel 3 = .ok (.getfield 118, 3) := by decide +kernel
theorem dX8_isPanel_6 : decode cX8_isPanel 6 = .ok (.iconst 1, 1) := by decide +kernel
theorem dX8_isPanel_7 : decode cX8_isPanel 7 = .ok (.isub, 1) := by decide +kernel
theorem dX8_isPanel_8 : decode cX8_isPanel 8 = .ok (.invokestatic 114, 3) := by decide +kernel
theorem dX8_isPanel_11 : decode cX8_isPanel 11 = .ok (.ifCond .eq 17, 3) := by decide +kernel
theorem dX8_isPanel_14 : decode cX8_isPanel 14 = .ok (.aload_n 0, 1) := by decide +kernel
theorem dX8_isPanel_15 : decode cX8_isPanel 15 = .ok (.getfield 26, 3) := by decide +kernel
theorem dX8_isPanel_18 : decode cX8_isPanel 18 = .ok (.iload_n 1, 1) := by decide +kernel
theorem dX8_isPanel_19 : decode cX8_isPanel 19 = .ok (.iaload, 1) := by decide +kernel
theorem dX8_isPanel_20 : decode cX8_isPanel 20 = .ok (.iconst (-1), 1) := by decide +kernel
theorem dX8_isPanel_21 : decode cX8_isPanel 21 = .ok (.if_icmp .eq 7, 3) := by decide +kernel
theorem dX8_isPanel_24 : decode cX8_isPanel 24 = .ok (.iconst 1, 1) := by decide +kernel
theorem dX8_isPanel_25 : decode cX8_isPanel 25 = .ok (.goto 4, 3) := by decide +kernel
theorem dX8_isPanel_28 : decode cX8_isPanel 28 = .ok (.iconst 0, 1) := by decide +kernel
theorem dX8_isPanel_29 : decode cX8_isPanel 29 = .ok (.ireturn, 1) := by decide +kernel
theorem dX8_isSize_0 : decode cX8_isSize 0 = .ok (.iload_n 0, 1) := by decide +kernel
theorem dX8_isSize_1 : decode cX8_isSize 1 = .ok (.iconst 4, 1) := by decide +kernel
theorem dX8_isSize_2 : decode cX8_isSize 2 = .ok (.if_icmp .eq 21, 3) := by decide +kernel
theorem dX8_isSize_5 : decode cX8_isSize 5 = .ok (.iload_n 0, 1) := by decide +kernel
theorem dX8_isSize_6 : decode cX8_isSize 6 = .ok (.bipush 8, 2) := by decide +kernel
theorem dX8_isSize_8 : decode cX8_isSize 8 = .ok (.if_icmp .eq 15, 3) := by decide +kernel
theorem dX8_isSize_11 : decode cX8_isSize 11 = .ok (.iload_n 0, 1) := by decide +kernel
theorem dX8_isSize_12 : decode cX8_isSize 12 = .ok (.bipush 12, 2) := by decide +kernel
theorem dX8_isSize_14 : decode cX8_isSize 14 = .ok (.if_icmp .eq 9, 3) := by decide +kernel
theorem dX8_isSize_17 : decode cX8_isSize 17 = .ok (.iload_n 0, 1) := by decide +kernel
theorem dX8_isSize_18 : decode cX8_isSize 18 = .ok (.bipush 16, 2) := by decide +kernel
theorem dX8_isSize_20 : decode cX8_isSize 20 = .ok (.if_icmp .ne 7, 3) := by decide +kernel
theorem dX8_isSize_23 : decode cX8_isSize 23 = .ok (.iconst 1, 1) := by decide +kernel
theorem dX8_isSize_24 : decode cX8_isSize 24 = .ok (.goto 4, 3) := by decide +kernel
theorem dX8_isSize_27 : decode cX8_isSize 27 = .ok (.iconst 0, 1) := by decide +kernel
theorem dX8_isSize_28 : decode cX8_isSize 28 = .ok (.ireturn, 1) := by decide +kernel
theorem dX8_jump_0 : decode cX8_jump 0 = .ok (.aload_n 0, 1) := by decide +kernel
theorem dX8_jump_1 : decode cX8_jump 1 = .ok (.iload_n 1, 1) := by decide +kernel
theorem dX8_jump_2 : decode cX8_jump 2 = .ok (.invokevirtual 189, 3) := by decide +kernel
theorem dX8_jump_5 : decode cX8_jump 5 = .ok (.ifCond .ne 9, 3) := by decide +kernel
theorem dX8_jump_8 : decode cX8_jump 8 = .ok (.aload_n 0, 1) := by decide +kernel
theorem dX8_jump_9 : decode cX8_jump 9 = .ok (.iconst 1, 1) := by decide +kernel
theorem dX8_jump_10 : decode cX8_jump 10 = .ok (.invokevirtual 176, 3) := by decide +kernel
theorem dX8_jump_13 : decode cX8_jump 13 = .ok (.ireturn, 1) := by decide +kernel
theorem dX8_jump_14 : decode cX8_jump 14 = .ok (.aload_n 0, 1) := by decide +kernel
theorem dX8_jump_15 : decode cX8_jump 15 = .ok (.iconst 0, 1) := by decide +kernel
theorem dX8_jump_16 : decode cX8_jump 16 = .ok (.putfield 108, 3) := by decide +kernel
theorem dX8_jump_19 : decode cX8_jump 19 = .ok (.aload_n 0, 1) := by decide +kernel
theorem dX8_jump_20 : decode cX8_jump 20 = .ok (.iload_n 1, 1) := by decide +kernel
theorem dX8_jump_21 : decode cX8_jump 21 = .ok (.invokevirtual 224, 3) := by decide +kernel
theorem dX8_jump_24 : decode cX8_jump 24 = .ok (.aload_n 0, 1) := by decide +kernel
theorem dX8_jump_25 : decode cX8_jump 25 = .ok (.getfield 202, 3) := by decide +kernel
theorem dX8_jump_28 : decode cX8_jump 28 = .ok (.ireturn, 1) := by decide +kernel
theorem dX8_keeps_0 : decode cX8_keeps 0 = .ok (.aload_n 0, 1) := by decide +kernel
theorem dX8_keeps_1 : decode cX8_keeps 1 = .ok (.getfield 7, 3) := by decide +kernel
theorem dX8_keeps_4 : decode cX8_keeps 4 = .ok (.aload_n 0, 1) := by decide +kernel
theorem dX8_keeps_5 : decode cX8_keeps 5 = .ok (.getfield 71, 3) := by decide +kernel
theorem dX8_keeps_8 : decode cX8_keeps 8 = .ok (.invokestatic 162, 3) := by decide +kernel
theorem dX8_keeps_11 : decode cX8_keeps 11 = .ok (.aload_n 0, 1) := by decide +kernel
theorem dX8_keeps_12 : decode cX8_keeps 12 = .ok (.getfield 13, 3) := by decide +kernel
theorem dX8_keeps_15 : decode cX8_keeps 15 = .ok (.aload_n 0, 1) := by decide +kernel
theorem dX8_keeps_16 : decode cX8_keeps 16 = .ok (.getfield 74, 3) := by decide +kernel
theorem dX8_keeps_19 : decode cX8_keeps 19 = .ok (.invokestatic 162, 3) := by decide +kernel
theorem dX8_keeps_22 : decode cX8_keeps 22 = .ok (.aload_n 0, 1) := by decide +kernel
theorem dX8_keeps_23 : decode cX8_keeps 23 = .ok (.getfield 16, 3) := by decide +kernel
theorem dX8_keeps_26 : decode cX8_keeps 26 = .ok (.aload_n 0, 1) := by decide +kernel
theorem dX8_keeps_27 : decode cX8_keeps 27 = .ok (.getfield 77, 3) := by decide +kernel
theorem dX8_keeps_30 : decode cX8_keeps 30 = .ok (.invokestatic 162, 3) := by decide +kernel
theorem dX8_keeps_33 : decode cX8_keeps 33 = .ok (.aload_n 0, 1) := by decide +kernel
theorem dX8_keeps_34 : decode cX8_keeps 34 = .ok (.getfield 23, 3) := by decide +kernel
theorem dX8_keeps_37 : decode cX8_keeps 37 = .ok (.aload_n 0, 1) := by decide +kernel
theorem dX8_keeps_38 : decode cX8_keeps 38 = .ok (.getfield 80, 3) := by decide +kernel
theorem dX8_keeps_41 : decode cX8_keeps 41 = .ok (.invokestatic 162, 3) := by decide +kernel
theorem dX8_keeps_44 : decode cX8_keeps 44 = .ok (.aload_n 0, 1) := by decide +kernel
theorem dX8_keeps_45 : decode cX8_keeps 45 = .ok (.getfield 26, 3) := by decide +kernel
theorem dX8_keeps_48 : decode cX8_keeps 48 = .ok (.aload_n 0, 1) := by decide +kernel
theorem dX8_keeps_49 : decode cX8_keeps 49 = .ok (.getfield 83, 3) := by decide +kernel
theorem dX8_keeps_52 : decode cX8_keeps 52 = .ok (.invokestatic 162, 3) := by decide +kernel
theorem dX8_keeps_55 : decode cX8_keeps 55 = .ok (.aload_n 0, 1) := by decide +kernel
theorem dX8_keeps_56 : decode cX8_keeps 56 = .ok (.getfield 38, 3) := by decide +kernel
theorem dX8_keeps_59 : decode cX8_keeps 59 = .ok (.aload_n 0, 1) := by decide +kernel
theorem dX8_keeps_60 : decode cX8_keeps 60 = .ok (.getfield 86, 3) := by decide +kernel
theorem dX8_keeps_63 : decode cX8_keeps 63 = .ok (.invokestatic 162, 3) := by decide +kernel
theorem dX8_keeps_66 : decode cX8_keeps 66 = .ok (.aload_n 0, 1) := by decide +kernel
theorem dX8_keeps_67 : decode cX8_keeps 67 = .ok (.getfield 44, 3) := by decide +kernel
theorem dX8_keeps_70 : decode cX8_keeps 70 = .ok (.aload_n 0, 1) := by decide +kernel
theorem dX8_keeps_71 : decode cX8_keeps 71 = .ok (.getfield 89, 3) := by decide +kernel
theorem dX8_keeps_74 : decode cX8_keeps 74 = .ok (.invokestatic 162, 3) := by decide +kernel
theorem dX8_keeps_77 : decode cX8_keeps 77 = .ok (.aload_n 0, 1) := by decide +kernel
theorem dX8_keeps_78 : decode cX8_keeps 78 = .ok (.getfield 47, 3) := by decide +kernel
theorem dX8_keeps_81 : decode cX8_keeps 81 = .ok (.aload_n 0, 1) := by decide +kernel
theorem dX8_keeps_82 : decode cX8_keeps 82 = .ok (.getfield 92, 3) := by decide +kernel
theorem dX8_keeps_85 : decode cX8_keeps 85 = .ok (.invokestatic 162, 3) := by decide +kernel
theorem dX8_keeps_88 : decode cX8_keeps 88 = .ok (.aload_n 0, 1) := by decide +kernel
theorem dX8_keeps_89 : decode cX8_keeps 89 = .ok (.getfield 50, 3) := by decide +kernel
theorem dX8_keeps_92 : decode cX8_keeps 92 = .ok (.aload_n 0, 1) := by decide +kernel
theorem dX8_keeps_93 : decode cX8_keeps 93 = .ok (.getfield 95, 3) := by decide +kernel
theorem dX8_keeps_96 : decode cX8_keeps 96 = .ok (.invokestatic 162, 3) := by decide +kernel
theorem dX8_keeps_99 : decode cX8_keeps 99 = .ok (.aload_n 0, 1) := by decide +kernel
theorem dX8_keeps_100 : decode cX8_keeps 100 = .ok (.getfield 59, 3) := by decide +kernel
theorem dX8_keeps_103 : decode cX8_keeps 103 = .ok (.aload_n 0, 1) := by decide +kernel
theorem dX8_keeps_104 : decode cX8_keeps 104 = .ok (.getfield 98, 3) := by decide +kernel
theorem dX8_keeps_107 : decode cX8_keeps 107 = .ok (.invokestatic 162, 3) := by decide +kernel
theorem dX8_keeps_110 : decode cX8_keeps 110 = .ok (.return_, 1) := by decide +kernel
theorem dX8_laysAll_0 : decode cX8_laysAll 0 = .ok (.iconst 1, 1) := by decide +kernel
theorem dX8_laysAll_1 : decode cX8_laysAll 1 = .ok (.istore_n 1, 1) := by decide +kernel
theorem dX8_laysAll_2 : decode cX8_laysAll 2 = .ok (.iconst 0, 1) := by decide +kernel
theorem dX8_laysAll_3 : decode cX8_laysAll 3 = .ok (.istore_n 2, 1) := by decide +kernel
theorem dX8_laysAll_4 : decode cX8_laysAll 4 = .ok (.iload_n 2, 1) := by decide +kernel
theorem dX8_laysAll_5 : decode cX8_laysAll 5 = .ok (.aload_n 0, 1) := by decide +kernel
theorem dX8_laysAll_6 : decode cX8_laysAll 6 = .ok (.getfield 111, 3) := by decide +kernel
theorem dX8_laysAll_9 : decode cX8_laysAll 9 = .ok (.if_icmp .ge 27, 3) := by decide +kernel
theorem dX8_laysAll_12 : decode cX8_laysAll 12 = .ok (.aload_n 0, 1) := by decide +kernel
theorem dX8_laysAll_13 : decode cX8_laysAll 13 = .ok (.iload_n 2, 1) := by decide +kernel
theorem dX8_laysAll_14 : decode cX8_laysAll 14 = .ok (.invokevirtual 147, 3) := by decide +kernel
theorem dX8_laysAll_17 : decode cX8_laysAll 17 = .ok (.ifCond .eq 11, 3) := by decide +kernel
theorem dX8_laysAll_20 : decode cX8_laysAll 20 = .ok (.iload_n 1, 1) := by decide +kernel
theorem dX8_laysAll_21 : decode cX8_laysAll 21 = .ok (.ifCond .eq 7, 3) := by decide +kernel
theorem dX8_laysAll_24 : decode cX8_laysAll 24 = .ok (.iconst 1, 1) := by decide +kernel
theorem dX8_laysAll_25 : decode cX8_laysAll 25 = .ok (.goto 4, 3) := by decide +kernel
theorem dX8_laysAll_28 : decode cX8_laysAll 28 = .ok (.iconst 0, 1) := by decide +kernel
theorem dX8_laysAll_29 : decode cX8_laysAll 29 = .ok (.istore_n 1, 1) := by decide +kernel
theorem dX8_laysAll_30 : decode cX8_laysAll 30 = .ok (.iinc 2 1, 3) := by decide +kernel
theorem dX8_laysAll_33 : decode cX8_laysAll 33 = .ok (.goto (-29), 3) := by decide +kernel
theorem dX8_laysAll_36 : decode cX8_laysAll 36 = .ok (.iload_n 1, 1) := by decide +kernel
theorem dX8_laysAll_37 : decode cX8_laysAll 37 = .ok (.ireturn, 1) := by decide +kernel
theorem dX8_laysPage_0 : decode cX8_laysPage 0 = .ok (.iconst 0, 1) := by decide +kernel
theorem dX8_laysPage_1 : decode cX8_laysPage 1 = .ok (.istore_n 2, 1) := by decide +kernel
theorem dX8_laysPage_2 : decode cX8_laysPage 2 = .ok (.iconst 0, 1) := by decide +kernel
theorem dX8_laysPage_3 : decode cX8_laysPage 3 = .ok (.istore_n 3, 1) := by decide +kernel
theorem dX8_laysPage_4 : decode cX8_laysPage 4 = .ok (.aload_n 0, 1) := by decide +kernel
theorem dX8_laysPage_5 : decode cX8_laysPage 5 = .ok (.getfield 68, 3) := by decide +kernel
theorem dX8_laysPage_8 : decode cX8_laysPage 8 = .ok (.iload_n 1, 1) := by decide +kernel
theorem dX8_laysPage_9 : decode cX8_laysPage 9 = .ok (.iconst 0, 1) := by decide +kernel
theorem dX8_laysPage_10 : decode cX8_laysPage 10 = .ok (.iastore, 1) := by decide +kernel
theorem dX8_laysPage_11 : decode cX8_laysPage 11 = .ok (.iload_n 2, 1) := by decide +kernel
theorem dX8_laysPage_12 : decode cX8_laysPage 12 = .ok (.aload_n 0, 1) := by decide +kernel
theorem dX8_laysPage_13 : decode cX8_laysPage 13 = .ok (.getfield 13, 3) := by decide +kernel
theorem dX8_laysPage_16 : decode cX8_laysPage 16 = .ok (.iload_n 1, 1) := by decide +kernel
theorem dX8_laysPage_17 : decode cX8_laysPage 17 = .ok (.iaload, 1) := by decide +kernel
theorem dX8_laysPage_18 : decode cX8_laysPage 18 = .ok (.if_icmp .ge 128, 3) := by decide +kernel
theorem dX8_laysPage_21 : decode cX8_laysPage 21 = .ok (.iload_n 2, 1) := by decide +kernel
theorem dX8_laysPage_22 : decode cX8_laysPage 22 = .ok (.istore 4, 2) := by decide +kernel
theorem dX8_laysPage_24 : decode cX8_laysPage 24 = .ok (.iconst 0, 1) := by decide +kernel
theorem dX8_laysPage_25 : decode cX8_laysPage 25 = .ok (.istore 5, 2) := by decide +kernel
theorem dX8_laysPage_27 : decode cX8_laysPage 27 = .ok (.iload 4, 2) := by decide +kernel
theorem dX8_laysPage_29 : decode cX8_laysPage 29 = .ok (.aload_n 0, 1) := by decide +kernel
theorem dX8_laysPage_30 : decode cX8_laysPage 30 = .ok (.getfield 13, 3) := by decide +kernel
theorem dX8_laysPage_33 : decode cX8_laysPage 33 = .ok (.iload_n 1, 1) := by decide +kernel
theorem dX8_laysPage_34 : decode cX8_laysPage 34 = .ok (.iaload, 1) := by decide +kernel
theorem dX8_laysPage_35 : decode cX8_laysPage 35 = .ok (.if_icmp .ge 56, 3) := by decide +kernel
theorem dX8_laysPage_38 : decode cX8_laysPage 38 = .ok (.iload 5, 2) := by decide +kernel
theorem dX8_laysPage_40 : decode cX8_laysPage 40 = .ok (.aload_n 0, 1) := by decide +kernel
theorem dX8_laysPage_41 : decode cX8_laysPage 41 = .ok (.getfield 32, 3) := by decide +kernel
theorem dX8_laysPage_44 : decode cX8_laysPage 44 = .ok (.aload_n 0, 1) := by decide +kernel
theorem dX8_laysPage_45 : decode cX8_laysPage 45 = .ok (.getfield 16, 3) := by decide +kernel
theorem dX8_laysPage_48 : decode cX8_laysPage 48 = .ok (.bipush 8, 2) := by decide +kernel
theorem dX8_laysPage_50 : decode cX8_laysPage 50 = .ok (.iload_n 1, 1) := by decide +kernel
theorem dX8_laysPage_51 : decode cX8_laysPage 51 = .ok (.imul, 1) := by decide +kernel
theorem dX8_laysPage_52 : decode cX8_laysPage 52 = .ok (.iload 4, 2) := by decide +kernel
theorem dX8_laysPage_54 : decode cX8_laysPage 54 = .ok (.iadd, 1) := by decide +kernel
theorem dX8_laysPage_55 : decode cX8_laysPage 55 = .ok (.iaload, 1) := by decide +kernel
theorem dX8_laysPage_56 : decode cX8_laysPage 56 = .ok (.iaload, 1) := by decide +kernel
theorem dX8_laysPage_57 : decode cX8_laysPage 57 = .ok (.iadd, 1) := by decide +kernel
theorem dX8_laysPage_58 : decode cX8_laysPage 58 = .ok (.bipush 24, 2) := by decide +kernel
theorem dX8_laysPage_60 : decode cX8_laysPage 60 = .ok (.if_icmp .gt 31, 3) := by decide +kernel
theorem dX8_laysPage_63 : decode cX8_laysPage 63 = .ok (.iload 5, 2) := by decide +kernel
theorem dX8_laysPage_65 : decode cX8_laysPage 65 = .ok (.aload_n 0, 1) := by decide +kernel
theorem dX8_laysPage_66 : decode cX8_laysPage 66 = .ok (.getfield 32, 3) := by decide +kernel
theorem dX8_laysPage_69 : decode cX8_laysPage 69 = .ok (.aload_n 0, 1) := by decide +kernel
theorem dX8_laysPage_70 : decode cX8_laysPage 70 = .ok (.getfield 16, 3) := by decide +kernel
theorem dX8_laysPage_73 : decode cX8_laysPage 73 = .ok (.bipush 8, 2) := by decide +kernel
theorem dX8_laysPage_75 : decode cX8_laysPage 75 = .ok (.iload_n 1, 1) := by decide +kernel
theorem dX8_laysPage_76 : decode cX8_laysPage 76 = .ok (.imul, 1) := by decide +kernel
theorem dX8_laysPage_77 : decode cX8_laysPage 77 = .ok (.iload 4, 2) := by decide +kernel
theorem dX8_laysPage_79 : decode cX8_laysPage 79 = .ok (.iadd, 1) := by decide +kernel
theorem dX8_laysPage_80 : decode cX8_laysPage 80 = .ok (.iaload, 1) := by decide +kernel
theorem dX8_laysPage_81 : decode cX8_laysPage 81 = .ok (.iaload, 1) := by decide +kernel
theorem dX8_laysPage_82 : decode cX8_laysPage 82 = .ok (.iadd, 1) := by decide +kernel
theorem dX8_laysPage_83 : decode cX8_laysPage 83 = .ok (.istore 5, 2) := by decide +kernel
theorem dX8_laysPage_85 : decode cX8_laysPage 85 = .ok (.iinc 4 1, 3) := by decide +kernel
theorem dX8_laysPage_88 : decode cX8_laysPage 88 = .ok (.goto (-61), 3) := by decide +kernel
theorem dX8_laysPage_91 : decode cX8_laysPage 91 = .ok (.aload_n 0, 1) := by decide +kernel
theorem dX8_laysPage_92 : decode cX8_laysPage 92 = .ok (.iload_n 1, 1) := by decide +kernel
theorem dX8_laysPage_93 : decode cX8_laysPage 93 = .ok (.iload_n 2, 1) := by decide +kernel
theorem dX8_laysPage_94 : decode cX8_laysPage 94 = .ok (.iload 4, 2) := by decide +kernel
theorem dX8_laysPage_96 : decode cX8_laysPage 96 = .ok (.aload_n 0, 1) := by decide +kernel
theorem dX8_laysPage_97 : decode cX8_laysPage 97 = .ok (.getfield 68, 3) := by decide +kernel
theorem dX8_laysPage_100 : decode cX8_laysPage 100 = .ok (.iload_n 1, 1) := by decide +kernel
theorem dX8_laysPage_101 : decode cX8_laysPage 101 = .ok (.iaload, 1) := by decide +kernel
theorem dX8_laysPage_102 : decode cX8_laysPage 102 = .ok (.iload_n 3, 1) := by decide +kernel
theorem dX8_laysPage_103 : decode cX8_laysPage 103 = .ok (.invokevirtual 143, 3) := by decide +kernel
theorem dX8_laysPage_106 : decode cX8_laysPage 106 = .ok (.istore 6, 2) := by decide +kernel
theorem dX8_laysPage_108 : decode cX8_laysPage 108 = .ok (.iload 6, 2) := by decide +kernel
theorem dX8_laysPage_110 : decode cX8_laysPage 110 = .ok (.iconst (-1), 1) := by decide +kernel
theorem dX8_laysPage_111 : decode cX8_laysPage 111 = .ok (.if_icmp .eq 12, 3) := by decide +kernel
theorem dX8_laysPage_114 : decode cX8_laysPage 114 = .ok (.iload_n 3, 1) := by decide +kernel
theorem dX8_laysPage_115 : decode cX8_laysPage 115 = .ok (.iload 6, 2) := by decide +kernel
theorem dX8_laysPage_117 : decode cX8_laysPage 117 = .ok (.iadd, 1) := by decide +kernel
theorem dX8_laysPage_118 : decode cX8_laysPage 118 = .ok (.bipush 50, 2) := by decide +kernel
theorem dX8_laysPage_120 : decode cX8_laysPage 120 = .ok (.if_icmp .le 5, 3) := by decide +kernel
theorem dX8_laysPage_123 : decode cX8_laysPage 123 = .ok (.iconst 0, 1) := by decide +kernel
theorem dX8_laysPage_124 : decode cX8_laysPage 124 = .ok (.ireturn, 1) := by decide +kernel
theorem dX8_laysPage_125 : decode cX8_laysPage 125 = .ok (.iload_n 3, 1) := by decide +kernel
theorem dX8_laysPage_126 : decode cX8_laysPage 126 = .ok (.iload 6, 2) := by decide +kernel
theorem dX8_laysPage_128 : decode cX8_laysPage 128 = .ok (.iadd, 1) := by decide +kernel
theorem dX8_laysPage_129 : decode cX8_laysPage 129 = .ok (.istore_n 3, 1) := by decide +kernel
theorem dX8_laysPage_130 : decode cX8_laysPage 130 = .ok (.aload_n 0, 1) := by decide +kernel
theorem dX8_laysPage_131 : decode cX8_laysPage 131 = .ok (.getfield 68, 3) := by decide +kernel
theorem dX8_laysPage_134 : decode cX8_laysPage 134 = .ok (.iload_n 1, 1) := by decide +kernel
theorem dX8_laysPage_135 : decode cX8_laysPage 135 = .ok (.dup2, 1) := by decide +kernel
theorem dX8_laysPage_136 : decode cX8_laysPage 136 = .ok (.iaload, 1) := by decide +kernel
theorem dX8_laysPage_137 : decode cX8_laysPage 137 = .ok (.iconst 1, 1) := by decide +kernel
theorem dX8_laysPage_138 : decode cX8_laysPage 138 = .ok (.iadd, 1) := by decide +kernel
theorem dX8_laysPage_139 : decode cX8_laysPage 139 = .ok (.iastore, 1) := by decide +kernel
theorem dX8_laysPage_140 : decode cX8_laysPage 140 = .ok (.iload 4, 2) := by decide +kernel
theorem dX8_laysPage_142 : decode cX8_laysPage 142 = .ok (.istore_n 2, 1) := by decide +kernel
theorem dX8_laysPage_143 : decode cX8_laysPage 143 = .ok (.goto (-132), 3) := by decide +kernel
theorem dX8_laysPage_146 : decode cX8_laysPage 146 = .ok (.iconst 1, 1) := by decide +kernel
theorem dX8_laysPage_147 : decode cX8_laysPage 147 = .ok (.ireturn, 1) := by decide +kernel
theorem dX8_laysRow_0 : decode cX8_laysRow 0 = .ok (.bipush 24, 2) := by decide +kernel
theorem dX8_laysRow_2 : decode cX8_laysRow 2 = .ok (.istore 6, 2) := by decide +kernel
theorem dX8_laysRow_4 : decode cX8_laysRow 4 = .ok (.iconst 0, 1) := by decide +kernel
theorem dX8_laysRow_5 : decode cX8_laysRow 5 = .ok (.istore 7, 2) := by decide +kernel
theorem dX8_laysRow_7 : decode cX8_laysRow 7 = .ok (.iconst 0, 1) := by decide +kernel
theorem dX8_laysRow_8 : decode cX8_laysRow 8 = .ok (.istore 8, 2) := by decide +kernel
theorem dX8_laysRow_10 : decode cX8_laysRow 10 = .ok (.iload_n 2, 1) := by decide +kernel
theorem dX8_laysRow_11 : decode cX8_laysRow 11 = .ok (.istore 9, 2) := by decide +kernel
theorem dX8_laysRow_13 : decode cX8_laysRow 13 = .ok (.iload 9, 2) := by decide +kernel
theorem dX8_laysRow_15 : decode cX8_laysRow 15 = .ok (.iload_n 3, 1) := by decide +kernel
theorem dX8_laysRow_16 : decode cX8_laysRow 16 = .ok (.if_icmp .ge 73, 3) := by decide +kernel
theorem dX8_laysRow_19 : decode cX8_laysRow 19 = .ok (.aload_n 0, 1) := by decide +kernel
theorem dX8_laysRow_20 : decode cX8_laysRow 20 = .ok (.getfield 16, 3) := by decide +kernel
theorem dX8_laysRow_23 : decode cX8_laysRow 23 = .ok (.bipush 8, 2) := by decide +kernel
theorem dX8_laysRow_25 : decode cX8_laysRow 25 = .ok (.iload_n 1, 1) := by decide +kernel
theorem dX8_laysRow_26 : decode cX8_laysRow 26 = .ok (.imul, 1) := by decide +kernel
theorem dX8_laysRow_27 : decode cX8_laysRow 27 = .ok (.iload 9, 2) := by decide +kernel
theorem dX8_laysRow_29 : decode cX8_laysRow 29 = .ok (.iadd, 1) := by decide +kernel
theorem dX8_laysRow_30 : decode cX8_laysRow 30 = .ok (.iaload, 1) := by decide +kernel
theorem dX8_laysRow_31 : decode cX8_laysRow 31 = .ok (.istore 10, 2) := by decide +kernel
theorem dX8_laysRow_33 : decode cX8_laysRow 33 = .ok (.iload 6, 2) := by decide +kernel
theorem dX8_laysRow_35 : decode cX8_laysRow 35 = .ok (.aload_n 0, 1) := by decide +kernel
theorem dX8_laysRow_36 : decode cX8_laysRow 36 = .ok (.getfield 32, 3) := by decide +kernel
theorem dX8_laysRow_39 : decode cX8_laysRow 39 = .ok (.iload 10, 2) := by decide +kernel
theorem dX8_laysRow_41 : decode cX8_laysRow 41 = .ok (.iaload, 1) := by decide +kernel
theorem dX8_laysRow_42 : decode cX8_laysRow 42 = .ok (.isub, 1) := by decide +kernel
theorem dX8_laysRow_43 : decode cX8_laysRow 43 = .ok (.istore 6, 2) := by decide +kernel
theorem dX8_laysRow_45 : decode cX8_laysRow 45 = .ok (.iload 7, 2) := by decide +kernel
theorem dX8_laysRow_47 : decode cX8_laysRow 47 = .ok (.aload_n 0, 1) := by decide +kernel
theorem dX8_laysRow_48 : decode cX8_laysRow 48 = .ok (.getfield 29, 3) := by decide +kernel
theorem dX8_laysRow_51 : decode cX8_laysRow 51 = .ok (.iload 10, 2) := by decide +kernel
theorem dX8_laysRow_53 : decode cX8_laysRow 53 = .ok (.iaload, 1) := by decide +kernel
theorem dX8_laysRow_54 : decode cX8_laysRow 54 = .ok (.iadd, 1) := by decide +kernel
theorem dX8_laysRow_55 : decode cX8_laysRow 55 = .ok (.istore 7, 2) := by decide +kernel
theorem dX8_laysRow_57 : decode cX8_laysRow 57 = .ok (.aload_n 0, 1) := by decide +kernel
theorem dX8_laysRow_58 : decode cX8_laysRow 58 = .ok (.getfield 35, 3) := by decide +kernel
theorem dX8_laysRow_61 : decode cX8_laysRow 61 = .ok (.iload 10, 2) := by decide +kernel
theorem dX8_laysRow_63 : decode cX8_laysRow 63 = .ok (.iaload, 1) := by decide +kernel
theorem dX8_laysRow_64 : decode cX8_laysRow 64 = .ok (.iload 8, 2) := by decide +kernel
theorem dX8_laysRow_66 : decode cX8_laysRow 66 = .ok (.if_icmp .le 13, 3) := by decide +kernel
theorem dX8_laysRow_69 : decode cX8_laysRow 69 = .ok (.aload_n 0, 1) := by decide +kernel
theorem dX8_laysRow_70 : decode cX8_laysRow 70 = .ok (.getfield 35, 3) := by decide +kernel
theorem dX8_laysRow_73 : decode cX8_laysRow 73 = .ok (.iload 10, 2) := by decide +kernel
theorem dX8_laysRow_75 : decode cX8_laysRow 75 = .ok (.iaload, 1) := by decide +kernel
theorem dX8_laysRow_76 : decode cX8_laysRow 76 = .ok (.goto 5, 3) := by decide +kernel
theorem dX8_laysRow_79 : decode cX8_laysRow 79 = .ok (.iload 8, 2) := by decide +kernel
theorem dX8_laysRow_81 : decode cX8_laysRow 81 = .ok (.istore 8, 2) := by decide +kernel
theorem dX8_laysRow_83 : decode cX8_laysRow 83 = .ok (.iinc 9 1, 3) := by decide +kernel
theorem dX8_laysRow_86 : decode cX8_laysRow 86 = .ok (.goto (-73), 3) := by decide +kernel
theorem dX8_laysRow_89 : decode cX8_laysRow 89 = .ok (.iload 6, 2) := by decide +kernel
theorem dX8_laysRow_91 : decode cX8_laysRow 91 = .ok (.istore 9, 2) := by decide +kernel
theorem dX8_laysRow_93 : decode cX8_laysRow 93 = .ok (.iload_n 2, 1) := by decide +kernel
theorem dX8_laysRow_94 : decode cX8_laysRow 94 = .ok (.istore 10, 2) := by decide +kernel
theorem dX8_laysRow_96 : decode cX8_laysRow 96 = .ok (.iload 10, 2) := by decide +kernel
theorem dX8_laysRow_98 : decode cX8_laysRow 98 = .ok (.iload_n 3, 1) := by decide +kernel
theorem dX8_laysRow_99 : decode cX8_laysRow 99 = .ok (.if_icmp .ge 73, 3) := by decide +kernel
theorem dX8_laysRow_102 : decode cX8_laysRow 102 = .ok (.aload_n 0, 1) := by decide +kernel
theorem dX8_laysRow_103 : decode cX8_laysRow 103 = .ok (.getfield 16, 3) := by decide +kernel
theorem dX8_laysRow_106 : decode cX8_laysRow 106 = .ok (.bipush 8, 2) := by decide +kernel
theorem dX8_laysRow_108 : decode cX8_laysRow 108 = .ok (.iload_n 1, 1) := by decide +kernel
theorem dX8_laysRow_109 : decode cX8_laysRow 109 = .ok (.imul, 1) := by decide +kernel
theorem dX8_laysRow_110 : decode cX8_laysRow 110 = .ok (.iload 10, 2) := by decide +kernel
theorem dX8_laysRow_112 : decode cX8_laysRow 112 = .ok (.iadd, 1) := by decide +kernel
theorem dX8_laysRow_113 : decode cX8_laysRow 113 = .ok (.iaload, 1) := by decide +kernel
theorem dX8_laysRow_114 : decode cX8_laysRow 114 = .ok (.istore 11, 2) := by decide +kernel
theorem dX8_laysRow_116 : decode cX8_laysRow 116 = .ok (.aload_n 0, 1) := by decide +kernel
theorem dX8_laysRow_117 : decode cX8_laysRow 117 = .ok (.getfield 59, 3) := by decide +kernel
theorem dX8_laysRow_120 : decode cX8_laysRow 120 = .ok (.iconst 5, 1) := by decide +kernel
theorem dX8_laysRow_121 : decode cX8_laysRow 121 = .ok (.iload 11, 2) := by decide +kernel
theorem dX8_laysRow_123 : decode cX8_laysRow 123 = .ok (.imul, 1) := by decide +kernel
theorem dX8_laysRow_124 : decode cX8_laysRow 124 = .ok (.iconst 3, 1) := by decide +kernel
theorem dX8_laysRow_125 : decode cX8_laysRow 125 = .ok (.iadd, 1) := by decide +kernel
theorem dX8_laysRow_126 : decode cX8_laysRow 126 = .ok (.aload_n 0, 1) := by decide +kernel
theorem dX8_laysRow_127 : decode cX8_laysRow 127 = .ok (.getfield 32, 3) := by decide +kernel
theorem dX8_laysRow_130 : decode cX8_laysRow 130 = .ok (.iload 11, 2) := by decide +kernel
theorem dX8_laysRow_132 : decode cX8_laysRow 132 = .ok (.iaload, 1) := by decide +kernel
theorem dX8_laysRow_133 : decode cX8_laysRow 133 = .ok (.iload 6, 2) := by decide +kernel
theorem dX8_laysRow_135 : decode cX8_laysRow 135 = .ok (.aload_n 0, 1) := by decide +kernel
theorem dX8_laysRow_136 : decode cX8_laysRow 136 = .ok (.getfield 29, 3) := by decide +kernel
theorem dX8_laysRow_139 : decode cX8_laysRow 139 = .ok (.iload 11, 2) := by decide +kernel
theorem dX8_laysRow_141 : decode cX8_laysRow 141 = .ok (.iaload, 1) := by decide +kernel
theorem dX8_laysRow_142 : decode cX8_laysRow 142 = .ok (.imul, 1) := by decide +kernel
theorem dX8_laysRow_143 : decode cX8_laysRow 143 = .ok (.iload 7, 2) := by decide +kernel
theorem dX8_laysRow_145 : decode cX8_laysRow 145 = .ok (.idiv, 1) := by decide +kernel
theorem dX8_laysRow_146 : decode cX8_laysRow 146 = .ok (.iadd, 1) := by decide +kernel
theorem dX8_laysRow_147 : decode cX8_laysRow 147 = .ok (.iastore, 1) := by decide +kernel
theorem dX8_laysRow_148 : decode cX8_laysRow 148 = .ok (.iload 9, 2) := by decide +kernel
theorem dX8_laysRow_150 : decode cX8_laysRow 150 = .ok (.iload 6, 2) := by decide +kernel
theorem dX8_laysRow_152 : decode cX8_laysRow 152 = .ok (.aload_n 0, 1) := by decide +kernel
theorem dX8_laysRow_153 : decode cX8_laysRow 153 = .ok (.getfield 29, 3) := by decide +kernel
theorem dX8_laysRow_156 : decode cX8_laysRow 156 = .ok (.iload 11, 2) := by decide +kernel
theorem dX8_laysRow_158 : decode cX8_laysRow 158 = .ok (.iaload, 1) := by decide +kernel
theorem dX8_laysRow_159 : decode cX8_laysRow 159 = .ok (.imul, 1) := by decide +kernel
theorem dX8_laysRow_160 : decode cX8_laysRow 160 = .ok (.iload 7, 2) := by decide +kernel
theorem dX8_laysRow_162 : decode cX8_laysRow 162 = .ok (.idiv, 1) := by decide +kernel
theorem dX8_laysRow_163 : decode cX8_laysRow 163 = .ok (.isub, 1) := by decide +kernel
theorem dX8_laysRow_164 : decode cX8_laysRow 164 = .ok (.istore 9, 2) := by decide +kernel
theorem dX8_laysRow_166 : decode cX8_laysRow 166 = .ok (.iinc 10 1, 3) := by decide +kernel
theorem dX8_laysRow_169 : decode cX8_laysRow 169 = .ok (.goto (-73), 3) := by decide +kernel
theorem dX8_laysRow_172 : decode cX8_laysRow 172 = .ok (.iconst 0, 1) := by decide +kernel
theorem dX8_laysRow_173 : decode cX8_laysRow 173 = .ok (.istore 10, 2) := by decide +kernel
theorem dX8_laysRow_175 : decode cX8_laysRow 175 = .ok (.iload_n 2, 1) := by decide +kernel
theorem dX8_laysRow_176 : decode cX8_laysRow 176 = .ok (.istore 11, 2) := by decide +kernel
theorem dX8_laysRow_178 : decode cX8_laysRow 178 = .ok (.iload 11, 2) := by decide +kernel
theorem dX8_laysRow_180 : decode cX8_laysRow 180 = .ok (.iload_n 3, 1) := by decide +kernel
theorem dX8_laysRow_181 : decode cX8_laysRow 181 = .ok (.if_icmp .ge 132, 3) := by decide +kernel
theorem dX8_laysRow_184 : decode cX8_laysRow 184 = .ok (.aload_n 0, 1) := by decide +kernel
theorem dX8_laysRow_185 : decode cX8_laysRow 185 = .ok (.getfield 16, 3) := by decide +kernel
theorem dX8_laysRow_188 : decode cX8_laysRow 188 = .ok (.bipush 8, 2) := by decide +kernel
theorem dX8_laysRow_190 : decode cX8_laysRow 190 = .ok (.iload_n 1, 1) := by decide +kernel
theorem dX8_laysRow_191 : decode cX8_laysRow 191 = .ok (.imul, 1) := by decide +kernel
theorem dX8_laysRow_192 : decode cX8_laysRow 192 = .ok (.iload 11, 2) := by decide +kernel
theorem dX8_laysRow_194 : decode cX8_laysRow 194 = .ok (.iadd, 1) := by decide +kernel
theorem dX8_laysRow_195 : decode cX8_laysRow 195 = .ok (.iaload, 1) := by decide +kernel
theorem dX8_laysRow_196 : decode cX8_laysRow 196 = .ok (.istore 12, 2) := by decide +kernel
theorem dX8_laysRow_198 : decode cX8_laysRow 198 = .ok (.aload_n 0, 1) := by decide +kernel
theorem dX8_laysRow_199 : decode cX8_laysRow 199 = .ok (.getfield 59, 3) := by decide +kernel
theorem dX8_laysRow_202 : decode cX8_laysRow 202 = .ok (.iconst 5, 1) := by decide +kernel
theorem dX8_laysRow_203 : decode cX8_laysRow 203 = .ok (.iload 12, 2) := by decide +kernel
theorem dX8_laysRow_205 : decode cX8_laysRow 205 = .ok (.imul, 1) := by decide +kernel
theorem dX8_laysRow_206 : decode cX8_laysRow 206 = .ok (.iconst 3, 1) := by decide +kernel
theorem dX8_laysRow_207 : decode cX8_laysRow 207 = .ok (.iadd, 1) := by decide +kernel
theorem dX8_laysRow_208 : decode cX8_laysRow 208 = .ok (.dup2, 1) := by decide +kernel
theorem dX8_laysRow_209 : decode cX8_laysRow 209 = .ok (.iaload, 1) := by decide +kernel
theorem dX8_laysRow_210 : decode cX8_laysRow 210 = .ok (.iload 11, 2) := by decide +kernel
theorem dX8_laysRow_212 : decode cX8_laysRow 212 = .ok (.iload_n 2, 1) := by decide +kernel
theorem dX8_laysRow_213 : decode cX8_laysRow 213 = .ok (.isub, 1) := by decide +kernel
theorem dX8_laysRow_214 : decode cX8_laysRow 214 = .ok (.iload 9, 2) := by decide +kernel
theorem dX8_laysRow_216 : decode cX8_laysRow 216 = .ok (.if_icmp .ge 7, 3) := by decide +kernel
theorem dX8_laysRow_219 : decode cX8_laysRow 219 = .ok (.iconst 1, 1) := by decide +kernel
theorem dX8_laysRow_220 : decode cX8_laysRow 220 = .ok (.goto 4, 3) := by decide +kernel
theorem dX8_laysRow_223 : decode cX8_laysRow 223 = .ok (.iconst 0, 1) := by decide +kernel
theorem dX8_laysRow_224 : decode cX8_laysRow 224 = .ok (.iadd, 1) := by decide +kernel
theorem dX8_laysRow_225 : decode cX8_laysRow 225 = .ok (.iastore, 1) := by decide +kernel
theorem dX8_laysRow_226 : decode cX8_laysRow 226 = .ok (.aload_n 0, 1) := by decide +kernel
theorem dX8_laysRow_227 : decode cX8_laysRow 227 = .ok (.getfield 59, 3) := by decide +kernel
theorem dX8_laysRow_230 : decode cX8_laysRow 230 = .ok (.iconst 5, 1) := by decide +kernel
theorem dX8_laysRow_231 : decode cX8_laysRow 231 = .ok (.iload 12, 2) := by decide +kernel
theorem dX8_laysRow_233 : decode cX8_laysRow 233 = .ok (.imul, 1) := by decide +kernel
theorem dX8_laysRow_234 : decode cX8_laysRow 234 = .ok (.iload 4, 2) := by decide +kernel
theorem dX8_laysRow_236 : decode cX8_laysRow 236 = .ok (.iastore, 1) := by decide +kernel
theorem dX8_laysRow_237 : decode cX8_laysRow 237 = .ok (.aload_n 0, 1) := by decide +kernel
theorem dX8_laysRow_238 : decode cX8_laysRow 238 = .ok (.getfield 59, 3) := by decide +kernel
theorem dX8_laysRow_241 : decode cX8_laysRow 241 = .ok (.iconst 5, 1) := by decide +kernel
theorem dX8_laysRow_242 : decode cX8_laysRow 242 = .ok (.iload 12, 2) := by decide +kernel
theorem dX8_laysRow_244 : decode cX8_laysRow 244 = .ok (.imul, 1) := by decide +kernel
theorem dX8_laysRow_245 : decode cX8_laysRow 245 = .ok (.iconst 1, 1) := by decide +kernel
theorem dX8_laysRow_246 : decode cX8_laysRow 246 = .ok (.iadd, 1) := by decide +kernel
theorem dX8_laysRow_247 : decode cX8_laysRow 247 = .ok (.aload_n 0, 1) := by decide +kernel
theorem dX8_laysRow_248 : decode cX8_laysRow 248 = .ok (.iload_n 1, 1) := by decide +kernel
theorem dX8_laysRow_249 : decode cX8_laysRow 249 = .ok (.invokevirtual 132, 3) := by decide +kernel
theorem dX8_laysRow_252 : decode cX8_laysRow 252 = .ok (.ifCond .eq 23, 3) := by decide +kernel
theorem dX8_laysRow_255 : decode cX8_laysRow 255 = .ok (.bipush 24, 2) := by decide +kernel
theorem dX8_laysRow_257 : decode cX8_laysRow 257 = .ok (.iload 10, 2) := by decide +kernel
theorem dX8_laysRow_259 : decode cX8_laysRow 259 = .ok (.isub, 1) := by decide +kernel
theorem dX8_laysRow_260 : decode cX8_laysRow 260 = .ok (.aload_n 0, 1) := by decide +kernel
theorem dX8_laysRow_261 : decode cX8_laysRow 261 = .ok (.getfield 59, 3) := by decide +kernel
theorem dX8_laysRow_264 : decode cX8_laysRow 264 = .ok (.iconst 5, 1) := by decide +kernel
theorem dX8_laysRow_265 : decode cX8_laysRow 265 = .ok (.iload 12, 2) := by decide +kernel
theorem dX8_laysRow_267 : decode cX8_laysRow 267 = .ok (.imul, 1) := by decide +kernel
theorem dX8_laysRow_268 : decode cX8_laysRow 268 = .ok (.iconst 3, 1) := by decide +kernel
theorem dX8_laysRow_269 : decode cX8_laysRow 269 = .ok (.iadd, 1) := by decide +kernel
theorem dX8_laysRow_270 : decode cX8_laysRow 270 = .ok (.iaload, 1) := by decide +kernel
theorem dX8_laysRow_271 : decode cX8_laysRow 271 = .ok (.isub, 1) := by decide +kernel
theorem dX8_laysRow_272 : decode cX8_laysRow 272 = .ok (.goto 5, 3) := by decide +kernel
theorem dX8_laysRow_275 : decode cX8_laysRow 275 = .ok (.iload 10, 2) := by decide +kernel
theorem dX8_laysRow_277 : decode cX8_laysRow 277 = .ok (.iastore, 1) := by decide +kernel
theorem dX8_laysRow_278 : decode cX8_laysRow 278 = .ok (.aload_n 0, 1) := by decide +kernel
theorem dX8_laysRow_279 : decode cX8_laysRow 279 = .ok (.getfield 59, 3) := by decide +kernel
theorem dX8_laysRow_282 : decode cX8_laysRow 282 = .ok (.iconst 5, 1) := by decide +kernel
theorem dX8_laysRow_283 : decode cX8_laysRow 283 = .ok (.iload 12, 2) := by decide +kernel
theorem dX8_laysRow_285 : decode cX8_laysRow 285 = .ok (.imul, 1) := by decide +kernel
theorem dX8_laysRow_286 : decode cX8_laysRow 286 = .ok (.iconst 2, 1) := by decide +kernel
theorem dX8_laysRow_287 : decode cX8_laysRow 287 = .ok (.iadd, 1) := by decide +kernel
theorem dX8_laysRow_288 : decode cX8_laysRow 288 = .ok (.iload 5, 2) := by decide +kernel
theorem dX8_laysRow_290 : decode cX8_laysRow 290 = .ok (.iastore, 1) := by decide +kernel
theorem dX8_laysRow_291 : decode cX8_laysRow 291 = .ok (.iload 10, 2) := by decide +kernel
theorem dX8_laysRow_293 : decode cX8_laysRow 293 = .ok (.aload_n 0, 1) := by decide +kernel
theorem dX8_laysRow_294 : decode cX8_laysRow 294 = .ok (.getfield 59, 3) := by decide +kernel
theorem dX8_laysRow_297 : decode cX8_laysRow 297 = .ok (.iconst 5, 1) := by decide +kernel
theorem dX8_laysRow_298 : decode cX8_laysRow 298 = .ok (.iload 12, 2) := by decide +kernel
theorem dX8_laysRow_300 : decode cX8_laysRow 300 = .ok (.imul, 1) := by decide +kernel
theorem dX8_laysRow_301 : decode cX8_laysRow 301 = .ok (.iconst 3, 1) := by decide +kernel
theorem dX8_laysRow_302 : decode cX8_laysRow 302 = .ok (.iadd, 1) := by decide +kernel
theorem dX8_laysRow_303 : decode cX8_laysRow 303 = .ok (.iaload, 1) := by decide +kernel
theorem dX8_laysRow_304 : decode cX8_laysRow 304 = .ok (.iadd, 1) := by decide +kernel
theorem dX8_laysRow_305 : decode cX8_laysRow 305 = .ok (.istore 10, 2) := by decide +kernel
theorem dX8_laysRow_307 : decode cX8_laysRow 307 = .ok (.iinc 11 1, 3) := by decide +kernel
theorem dX8_laysRow_310 : decode cX8_laysRow 310 = .ok (.goto (-132), 3) := by decide +kernel
theorem dX8_laysRow_313 : decode cX8_laysRow 313 = .ok (.iconst 0, 1) := by decide +kernel
theorem dX8_laysRow_314 : decode cX8_laysRow 314 = .ok (.istore 11, 2) := by decide +kernel
theorem dX8_laysRow_316 : decode cX8_laysRow 316 = .ok (.iload 11, 2) := by decide +kernel
theorem dX8_laysRow_318 : decode cX8_laysRow 318 = .ok (.ifCond .ne 99, 3) := by decide +kernel
theorem dX8_laysRow_321 : decode cX8_laysRow 321 = .ok (.iload 8, 2) := by decide +kernel
theorem dX8_laysRow_323 : decode cX8_laysRow 323 = .ok (.bipush 16, 2) := by decide +kernel
theorem dX8_laysRow_325 : decode cX8_laysRow 325 = .ok (.if_icmp .gt 92, 3) := by decide +kernel
theorem dX8_laysRow_328 : decode cX8_laysRow 328 = .ok (.iconst 1, 1) := by decide +kernel
theorem dX8_laysRow_329 : decode cX8_laysRow 329 = .ok (.istore 11, 2) := by decide +kernel
theorem dX8_laysRow_331 : decode cX8_laysRow 331 = .ok (.iload_n 2, 1) := by decide +kernel
theorem dX8_laysRow_332 : decode cX8_laysRow 332 = .ok (.istore 12, 2) := by decide +kernel
theorem dX8_laysRow_334 : decode cX8_laysRow 334 = .ok (.iload 12, 2) := by decide +kernel
theorem dX8_laysRow_336 : decode cX8_laysRow 336 = .ok (.iload_n 3, 1) := by decide +kernel
theorem dX8_laysRow_337 : decode cX8_laysRow 337 = .ok (.if_icmp .ge 62, 3) := by decide +kernel
theorem dX8_laysRow_340 : decode cX8_laysRow 340 = .ok (.iload 11, 2) := by decide +kernel
theorem dX8_laysRow_342 : decode cX8_laysRow 342 = .ok (.ifCond .eq 57, 3) := by decide +kernel
theorem dX8_laysRow_345 : decode cX8_laysRow 345 = .ok (.aload_n 0, 1) := by decide +kernel
theorem dX8_laysRow_346 : decode cX8_laysRow 346 = .ok (.getfield 16, 3) := by decide +kernel
theorem dX8_laysRow_349 : decode cX8_laysRow 349 = .ok (.bipush 8, 2) := by decide +kernel
theorem dX8_laysRow_351 : decode cX8_laysRow 351 = .ok (.iload_n 1, 1) := by decide +kernel
theorem dX8_laysRow_352 : decode cX8_laysRow 352 = .ok (.imul, 1) := by decide +kernel
theorem dX8_laysRow_353 : decode cX8_laysRow 353 = .ok (.iload 12, 2) := by decide +kernel
theorem dX8_laysRow_355 : decode cX8_laysRow 355 = .ok (.iadd, 1) := by decide +kernel
theorem dX8_laysRow_356 : decode cX8_laysRow 356 = .ok (.iaload, 1) := by decide +kernel
theorem dX8_laysRow_357 : decode cX8_laysRow 357 = .ok (.istore 13, 2) := by decide +kernel
theorem dX8_laysRow_359 : decode cX8_laysRow 359 = .ok (.aload_n 0, 1) := by decide +kernel
theorem dX8_laysRow_360 : decode cX8_laysRow 360 = .ok (.iload 13, 2) := by decide +kernel
theorem dX8_laysRow_362 : decode cX8_laysRow 362 = .ok (.aload_n 0, 1) := by decide +kernel
theorem dX8_laysRow_363 : decode cX8_laysRow 363 = .ok (.getfield 59, 3) := by decide +kernel
theorem dX8_laysRow_366 : decode cX8_laysRow 366 = .ok (.iconst 5, 1) := by decide +kernel
theorem dX8_laysRow_367 : decode cX8_laysRow 367 = .ok (.iload 13, 2) := by decide +kernel
theorem dX8_laysRow_369 : decode cX8_laysRow 369 = .ok (.imul, 1) := by decide +kernel
theorem dX8_laysRow_370 : decode cX8_laysRow 370 = .ok (.iconst 3, 1) := by decide +kernel
theorem dX8_laysRow_371 : decode cX8_laysRow 371 = .ok (.iadd, 1) := by decide +kernel
theorem dX8_laysRow_372 : decode cX8_laysRow 372 = .ok (.iaload, 1) := by decide +kernel
theorem dX8_laysRow_373 : decode cX8_laysRow 373 = .ok (.iload 8, 2) := by decide +kernel
theorem dX8_laysRow_375 : decode cX8_laysRow 375 = .ok (.invokevirtual 140, 3) := by decide +kernel
theorem dX8_laysRow_378 : decode cX8_laysRow 378 = .ok (.istore 11, 2) := by decide +kernel
theorem dX8_laysRow_380 : decode cX8_laysRow 380 = .ok (.aload_n 0, 1) := by decide +kernel
theorem dX8_laysRow_381 : decode cX8_laysRow 381 = .ok (.getfield 59, 3) := by decide +kernel
theorem dX8_laysRow_384 : decode cX8_laysRow 384 = .ok (.iconst 5, 1) := by decide +kernel
theorem dX8_laysRow_385 : decode cX8_laysRow 385 = .ok (.iload 13, 2) := by decide +kernel
theorem dX8_laysRow_387 : decode cX8_laysRow 387 = .ok (.imul, 1) := by decide +kernel
theorem dX8_laysRow_388 : decode cX8_laysRow 388 = .ok (.iconst 4, 1) := by decide +kernel
theorem dX8_laysRow_389 : decode cX8_laysRow 389 = .ok (.iadd, 1) := by decide +kernel
theorem dX8_laysRow_390 : decode cX8_laysRow 390 = .ok (.iload 8, 2) := by decide +kernel
theorem dX8_laysRow_392 : decode cX8_laysRow 392 = .ok (.iastore, 1) := by decide +kernel
theorem dX8_laysRow_393 : decode cX8_laysRow 393 = .ok (.iinc 12 1, 3) := by decide +kernel
theorem dX8_laysRow_396 : decode cX8_laysRow 396 = .ok (.goto (-62), 3) := by decide +kernel
theorem dX8_laysRow_399 : decode cX8_laysRow 399 = .ok (.iload 8, 2) := by decide +kernel
theorem dX8_laysRow_401 : decode cX8_laysRow 401 = .ok (.iload 11, 2) := by decide +kernel
theorem dX8_laysRow_403 : decode cX8_laysRow 403 = .ok (.ifCond .eq 7, 3) := by decide +kernel
theorem dX8_laysRow_406 : decode cX8_laysRow 406 = .ok (.iconst 0, 1) := by decide +kernel
theorem dX8_laysRow_407 : decode cX8_laysRow 407 = .ok (.goto 4, 3) := by decide +kernel
theorem dX8_laysRow_410 : decode cX8_laysRow 410 = .ok (.iconst 1, 1) := by decide +kernel
theorem dX8_laysRow_411 : decode cX8_laysRow 411 = .ok (.iadd, 1) := by decide +kernel
theorem dX8_laysRow_412 : decode cX8_laysRow 412 = .ok (.istore 8, 2) := by decide +kernel
theorem dX8_laysRow_414 : decode cX8_laysRow 414 = .ok (.goto (-98), 3) := by decide +kernel
theorem dX8_laysRow_417 : decode cX8_laysRow 417 = .ok (.iload 11, 2) := by decide +kernel
theorem dX8_laysRow_419 : decode cX8_laysRow 419 = .ok (.ifCond .eq 8, 3) := by decide +kernel
theorem dX8_laysRow_422 : decode cX8_laysRow 422 = .ok (.iload 8, 2) := by decide +kernel
theorem dX8_laysRow_424 : decode cX8_laysRow 424 = .ok (.goto 4, 3) := by decide +kernel
theorem dX8_laysRow_427 : decode cX8_laysRow 427 = .ok (.iconst (-1), 1) := by decide +kernel
theorem dX8_laysRow_428 : decode cX8_laysRow 428 = .ok (.ireturn, 1) := by decide +kernel
theorem dX8_leaf_0 : decode cX8_leaf 0 = .ok (.aload_n 0, 1) := by decide +kernel
theorem dX8_leaf_1 : decode cX8_leaf 1 = .ok (.aload_n 0, 1) := by decide +kernel
theorem dX8_leaf_2 : decode cX8_leaf 2 = .ok (.iload_n 1, 1) := by decide +kernel
theorem dX8_leaf_3 : decode cX8_leaf 3 = .ok (.invokevirtual 173, 3) := by decide +kernel
theorem dX8_leaf_6 : decode cX8_leaf 6 = .ok (.ifCond .ne 7, 3) := by decide +kernel
theorem dX8_leaf_9 : decode cX8_leaf 9 = .ok (.iconst 1, 1) := by decide +kernel
theorem dX8_leaf_10 : decode cX8_leaf 10 = .ok (.goto 15, 3) := by decide +kernel
theorem dX8_leaf_13 : decode cX8_leaf 13 = .ok (.iload_n 2, 1) := by decide +kernel
theorem dX8_leaf_14 : decode cX8_leaf 14 = .ok (.invokestatic 218, 3) := by decide +kernel
theorem dX8_leaf_17 : decode cX8_leaf 17 = .ok (.ifCond .eq 7, 3) := by decide +kernel
theorem dX8_leaf_20 : decode cX8_leaf 20 = .ok (.iconst 0, 1) := by decide +kernel
theorem dX8_leaf_21 : decode cX8_leaf 21 = .ok (.goto 4, 3) := by decide +kernel
theorem dX8_leaf_24 : decode cX8_leaf 24 = .ok (.iconst 2, 1) := by decide +kernel
theorem dX8_leaf_25 : decode cX8_leaf 25 = .ok (.putfield 108, 3) := by decide +kernel
theorem dX8_leaf_28 : decode cX8_leaf 28 = .ok (.aload_n 0, 1) := by decide +kernel
theorem dX8_leaf_29 : decode cX8_leaf 29 = .ok (.getfield 108, 3) := by decide +kernel
theorem dX8_leaf_32 : decode cX8_leaf 32 = .ok (.ifCond .le 7, 3) := by decide +kernel
theorem dX8_leaf_35 : decode cX8_leaf 35 = .ok (.iconst 0, 1) := by decide +kernel
theorem dX8_leaf_36 : decode cX8_leaf 36 = .ok (.goto 9, 3) := by decide +kernel
theorem dX8_leaf_39 : decode cX8_leaf 39 = .ok (.aload_n 0, 1) := by decide +kernel
theorem dX8_leaf_40 : decode cX8_leaf 40 = .ok (.iload_n 1, 1) := by decide +kernel
theorem dX8_leaf_41 : decode cX8_leaf 41 = .ok (.iload_n 2, 1) := by decide +kernel
theorem dX8_leaf_42 : decode cX8_leaf 42 = .ok (.invokevirtual 221, 3) := by decide +kernel
theorem dX8_leaf_45 : decode cX8_leaf 45 = .ok (.ireturn, 1) := by decide +kernel
theorem dX8_leafOf_0 : decode cX8_leafOf 0 = .ok (.iconst 0, 1) := by decide +kernel
theorem dX8_leafOf_1 : decode cX8_leafOf 1 = .ok (.istore_n 3, 1) := by decide +kernel
theorem dX8_leafOf_2 : decode cX8_leafOf 2 = .ok (.iconst 0, 1) := by decide +kernel
theorem dX8_leafOf_3 : decode cX8_leafOf 3 = .ok (.istore 4, 2) := by decide +kernel
theorem dX8_leafOf_5 : decode cX8_leafOf 5 = .ok (.iload 4, 2) := by decide +kernel
theorem dX8_leafOf_7 : decode cX8_leafOf 7 = .ok (.iload_n 1, 1) := by decide +kernel
theorem dX8_leafOf_8 : decode cX8_leafOf 8 = .ok (.if_icmp .ge 20, 3) := by decide +kernel
theorem dX8_leafOf_11 : decode cX8_leafOf 11 = .ok (.aload_n 0, 1) := by decide +kernel
theorem dX8_leafOf_12 : decode cX8_leafOf 12 = .ok (.iload 4, 2) := by decide +kernel
theorem dX8_leafOf_14 : decode cX8_leafOf 14 = .ok (.iload_n 3, 1) := by decide +kernel
theorem dX8_leafOf_15 : decode cX8_leafOf 15 = .ok (.iload_n 2, 1) := by decide +kernel
theorem dX8_leafOf_16 : decode cX8_leafOf 16 = .ok (.invokevirtual 214, 3) := by decide +kernel
theorem dX8_leafOf_19 : decode cX8_leafOf 19 = .ok (.iconst 1, 1) := by decide +kernel
theorem dX8_leafOf_20 : decode cX8_leafOf 20 = .ok (.iadd, 1) := by decide +kernel
theorem dX8_leafOf_21 : decode cX8_leafOf 21 = .ok (.istore_n 3, 1) := by decide +kernel
theorem dX8_leafOf_22 : decode cX8_leafOf 22 = .ok (.iinc 4 1, 3) := by decide +kernel
theorem dX8_leafOf_25 : decode cX8_leafOf 25 = .ok (.goto (-20), 3) := by decide +kernel
theorem dX8_leafOf_28 : decode cX8_leafOf 28 = .ok (.iload_n 1, 1) := by decide +kernel
theorem dX8_leafOf_29 : decode cX8_leafOf 29 = .ok (.aload_n 0, 1) := by decide +kernel
theorem dX8_leafOf_30 : decode cX8_leafOf 30 = .ok (.getfield 111, 3) := by decide +kernel
theorem dX8_leafOf_33 : decode cX8_leafOf 33 = .ok (.if_icmp .ge 13, 3) := by decide +kernel
theorem dX8_leafOf_36 : decode cX8_leafOf 36 = .ok (.aload_n 0, 1) := by decide +kernel
theorem dX8_leafOf_37 : decode cX8_leafOf 37 = .ok (.iload_n 1, 1) := by decide +kernel
theorem dX8_leafOf_38 : decode cX8_leafOf 38 = .ok (.iload_n 3, 1) := by decide +kernel
theorem dX8_leafOf_39 : decode cX8_leafOf 39 = .ok (.iload_n 2, 1) := by decide +kernel
theorem dX8_leafOf_40 : decode cX8_leafOf 40 = .ok (.invokevirtual 214, 3) := by decide +kernel
theorem dX8_leafOf_43 : decode cX8_leafOf 43 = .ok (.goto 4, 3) := by decide +kernel
theorem dX8_leafOf_46 : decode cX8_leafOf 46 = .ok (.iload_n 3, 1) := by decide +kernel
theorem dX8_leafOf_47 : decode cX8_leafOf 47 = .ok (.ireturn, 1) := by decide +kernel
theorem dX8_leaves_0 : decode cX8_leaves 0 = .ok (.aload_n 0, 1) := by decide +kernel
theorem dX8_leaves_1 : decode cX8_leaves 1 = .ok (.iload_n 1, 1) := by decide +kernel
theorem dX8_leaves_2 : decode cX8_leaves 2 = .ok (.invokestatic 218, 3) := by decide +kernel
theorem dX8_leaves_5 : decode cX8_leaves 5 = .ok (.ifCond .eq 7, 3) := by decide +kernel
theorem dX8_leaves_8 : decode cX8_leaves 8 = .ok (.iconst 0, 1) := by decide +kernel
theorem dX8_leaves_9 : decode cX8_leaves 9 = .ok (.goto 4, 3) := by decide +kernel
theorem dX8_leaves_12 : decode cX8_leaves 12 = .ok (.iconst 1, 1) := by decide +kernel
theorem dX8_leaves_13 : decode cX8_leaves 13 = .ok (.putfield 108, 3) := by decide +kernel
theorem dX8_leaves_16 : decode cX8_leaves 16 = .ok (.aload_n 0, 1) := by decide +kernel
theorem dX8_leaves_17 : decode cX8_leaves 17 = .ok (.getfield 108, 3) := by decide +kernel
theorem dX8_leaves_20 : decode cX8_leaves 20 = .ok (.ifCond .le 7, 3) := by decide +kernel
theorem dX8_leaves_23 : decode cX8_leaves 23 = .ok (.iconst 0, 1) := by decide +kernel
theorem dX8_leaves_24 : decode cX8_leaves 24 = .ok (.goto 20, 3) := by decide +kernel
theorem dX8_leaves_27 : decode cX8_leaves 27 = .ok (.aload_n 0, 1) := by decide +kernel
theorem dX8_leaves_28 : decode cX8_leaves 28 = .ok (.aload_n 0, 1) := by decide +kernel
theorem dX8_leaves_29 : decode cX8_leaves 29 = .ok (.getfield 111, 3) := by decide +kernel
theorem dX8_leaves_32 : decode cX8_leaves 32 = .ok (.iload_n 1, 1) := by decide +kernel
theorem dX8_leaves_33 : decode cX8_leaves 33 = .ok (.invokevirtual 221, 3) := by decide +kernel
theorem dX8_leaves_36 : decode cX8_leaves 36 = .ok (.iload_n 1, 1) := by decide +kernel
theorem dX8_leaves_37 : decode cX8_leaves 37 = .ok (.iadd, 1) := by decide +kernel
theorem dX8_leaves_38 : decode cX8_leaves 38 = .ok (.iconst 1, 1) := by decide +kernel
theorem dX8_leaves_39 : decode cX8_leaves 39 = .ok (.isub, 1) := by decide +kernel
theorem dX8_leaves_40 : decode cX8_leaves 40 = .ok (.iload_n 1, 1) := by decide +kernel
theorem dX8_leaves_41 : decode cX8_leaves 41 = .ok (.idiv, 1) := by decide +kernel
theorem dX8_leaves_42 : decode cX8_leaves 42 = .ok (.iload_n 1, 1) := by decide +kernel
theorem dX8_leaves_43 : decode cX8_leaves 43 = .ok (.imul, 1) := by decide +kernel
theorem dX8_leaves_44 : decode cX8_leaves 44 = .ok (.ireturn, 1) := by decide +kernel
theorem dX8_lies_0 : decode cX8_lies 0 = .ok (.aload_n 0, 1) := by decide +kernel
theorem dX8_lies_1 : decode cX8_lies 1 = .ok (.aload_n 0, 1) := by decide +kernel
theorem dX8_lies_2 : decode cX8_lies 2 = .ok (.iload_n 1, 1) := by decide +kernel
theorem dX8_lies_3 : decode cX8_lies 3 = .ok (.invokevirtual 189, 3) := by decide +kernel
theorem dX8_lies_6 : decode cX8_lies 6 = .ok (.ifCond .ne 7, 3) := by decide +kernel
theorem dX8_lies_9 : decode cX8_lies 9 = .ok (.iconst 1, 1) := by decide +kernel
theorem dX8_lies_10 : decode cX8_lies 10 = .ok (.goto 17, 3) := by decide +kernel
theorem dX8_lies_13 : decode cX8_lies 13 = .ok (.iload_n 2, 1) := by decide +kernel
theorem dX8_lies_14 : decode cX8_lies 14 = .ok (.iconst 0, 1) := by decide +kernel
theorem dX8_lies_15 : decode cX8_lies 15 = .ok (.iconst 4, 1) := by decide +kernel
theorem dX8_lies_16 : decode cX8_lies 16 = .ok (.invokestatic 114, 3) := by decide +kernel
theorem dX8_lies_19 : decode cX8_lies 19 = .ok (.ifCond .eq 7, 3) := by decide +kernel
theorem dX8_lies_22 : decode cX8_lies 22 = .ok (.iconst 0, 1) := by decide +kernel
theorem dX8_lies_23 : decode cX8_lies 23 = .ok (.goto 4, 3) := by decide +kernel
theorem dX8_lies_26 : decode cX8_lies 26 = .ok (.iconst 2, 1) := by decide +kernel
theorem dX8_lies_27 : decode cX8_lies 27 = .ok (.putfield 108, 3) := by decide +kernel
theorem dX8_lies_30 : decode cX8_lies 30 = .ok (.aload_n 0, 1) := by decide +kernel
theorem dX8_lies_31 : decode cX8_lies 31 = .ok (.getfield 108, 3) := by decide +kernel
theorem dX8_lies_34 : decode cX8_lies 34 = .ok (.ifCond .le 7, 3) := by decide +kernel
theorem dX8_lies_37 : decode cX8_lies 37 = .ok (.iconst 0, 1) := by decide +kernel
theorem dX8_lies_38 : decode cX8_lies 38 = .ok (.goto 13, 3) := by decide +kernel
theorem dX8_lies_41 : decode cX8_lies 41 = .ok (.aload_n 0, 1) := by decide +kernel
theorem dX8_lies_42 : decode cX8_lies 42 = .ok (.getfield 59, 3) := by decide +kernel
theorem dX8_lies_45 : decode cX8_lies 45 = .ok (.iconst 5, 1) := by decide +kernel
theorem dX8_lies_46 : decode cX8_lies 46 = .ok (.iload_n 1, 1) := by decide +kernel
theorem dX8_lies_47 : decode cX8_lies 47 = .ok (.imul, 1) := by decide +kernel
theorem dX8_lies_48 : decode cX8_lies 48 = .ok (.iload_n 2, 1) := by decide +kernel
theorem dX8_lies_49 : decode cX8_lies 49 = .ok (.iadd, 1) := by decide +kernel
theorem dX8_lies_50 : decode cX8_lies 50 = .ok (.iaload, 1) := by decide +kernel
theorem dX8_lies_51 : decode cX8_lies 51 = .ok (.ireturn, 1) := by decide +kernel
theorem dX8_moveBalloon_0 : decode cX8_moveBalloon 0 = .ok (.aload_n 0, 1) := by decide +kernel
theorem dX8_moveBalloon_1 : decode cX8_moveBalloon 1 = .ok (.iload_n 1, 1) := by decide +kernel
theorem dX8_moveBalloon_2 : decode cX8_moveBalloon 2 = .ok (.invokevirtual 205, 3) := by decide +kernel
theorem dX8_moveBalloon_5 : decode cX8_moveBalloon 5 = .ok (.ifCond .eq 15, 3) := by decide +kernel
theorem dX8_moveBalloon_8 : decode cX8_moveBalloon 8 = .ok (.aload_n 0, 1) := by decide +kernel
theorem dX8_moveBalloon_9 : decode cX8_moveBalloon 9 = .ok (.iload_n 2, 1) := by decide +kernel
theorem dX8_moveBalloon_10 : decode cX8_moveBalloon 10 = .ok (.invokevirtual 189, 3) := by decide +kernel
theorem dX8_moveBalloon_13 : decode cX8_moveBalloon 13 = .ok (.ifCond .eq 7, 3) := by decide +kernel
theorem dX8_moveBalloon_16 : decode cX8_moveBalloon 16 = .ok (.iconst 1, 1) := by decide +kernel
theorem dX8_moveBalloon_17 : decode cX8_moveBalloon 17 = .ok (.goto 4, 3) := by decide +kernel
theorem dX8_moveBalloon_20 : decode cX8_moveBalloon 20 = .ok (.iconst 0, 1) := by decide +kernel
theorem dX8_moveBalloon_21 : decode cX8_moveBalloon 21 = .ok (.istore 4, 2) := by decide +kernel
theorem dX8_moveBalloon_23 : decode cX8_moveBalloon 23 = .ok (.aload_n 0, 1) := by decide +kernel
theorem dX8_moveBalloon_24 : decode cX8_moveBalloon 24 = .ok (.iload 4, 2) := by decide +kernel
theorem dX8_moveBalloon_26 : decode cX8_moveBalloon 26 = .ok (.ifCond .eq 37, 3) := by decide +kernel
theorem dX8_moveBalloon_29 : decode cX8_moveBalloon 29 = .ok (.iload_n 3, 1) := by decide +kernel
theorem dX8_moveBalloon_30 : decode cX8_moveBalloon 30 = .ok (.iconst 0, 1) := by decide +kernel
theorem dX8_moveBalloon_31 : decode cX8_moveBalloon 31 = .ok (.aload_n 0, 1) := by decide +kernel
theorem dX8_moveBalloon_32 : decode cX8_moveBalloon 32 = .ok (.getfield 44, 3) := by decide +kernel
theorem dX8_moveBalloon_35 : decode cX8_moveBalloon 35 = .ok (.iload_n 2, 1) := by decide +kernel
theorem dX8_moveBalloon_36 : decode cX8_moveBalloon 36 = .ok (.iaload, 1) := by decide +kernel
theorem dX8_moveBalloon_37 : decode cX8_moveBalloon 37 = .ok (.aload_n 0, 1) := by decide +kernel
theorem dX8_moveBalloon_38 : decode cX8_moveBalloon 38 = .ok (.getfield 50, 3) := by decide +kernel
theorem dX8_moveBalloon_41 : decode cX8_moveBalloon 41 = .ok (.iload_n 1, 1) := by decide +kernel
theorem dX8_moveBalloon_42 : decode cX8_moveBalloon 42 = .ok (.iaload, 1) := by decide +kernel
theorem dX8_moveBalloon_43 : decode cX8_moveBalloon 43 = .ok (.iload_n 2, 1) := by decide +kernel
theorem dX8_moveBalloon_44 : decode cX8_moveBalloon 44 = .ok (.if_icmp .ne 7, 3) := by decide +kernel
theorem dX8_moveBalloon_47 : decode cX8_moveBalloon 47 = .ok (.iconst 1, 1) := by decide +kernel
theorem dX8_moveBalloon_48 : decode cX8_moveBalloon 48 = .ok (.goto 4, 3) := by decide +kernel
theorem dX8_moveBalloon_51 : decode cX8_moveBalloon 51 = .ok (.iconst 0, 1) := by decide +kernel
theorem dX8_moveBalloon_52 : decode cX8_moveBalloon 52 = .ok (.isub, 1) := by decide +kernel
theorem dX8_moveBalloon_53 : decode cX8_moveBalloon 53 = .ok (.invokestatic 114, 3) := by decide +kernel
theorem dX8_moveBalloon_56 : decode cX8_moveBalloon 56 = .ok (.ifCond .eq 7, 3) := by decide +kernel
theorem dX8_moveBalloon_59 : decode cX8_moveBalloon 59 = .ok (.iconst 0, 1) := by decide +kernel
theorem dX8_moveBalloon_60 : decode cX8_moveBalloon 60 = .ok (.goto 4, 3) := by decide +kernel
theorem dX8_moveBalloon_63 : decode cX8_moveBalloon 63 = .ok (.iconst 1, 1) := by decide +kernel
theorem dX8_moveBalloon_64 : decode cX8_moveBalloon 64 = .ok (.putfield 108, 3) := by decide +kernel
theorem dX8_moveBalloon_67 : decode cX8_moveBalloon 67 = .ok (.aload_n 0, 1) := by decide +kernel
theorem dX8_moveBalloon_68 : decode cX8_moveBalloon 68 = .ok (.getfield 108, 3) := by decide +kernel
theorem dX8_moveBalloon_71 : decode cX8_moveBalloon 71 = .ok (.ifCond .le 4, 3) := by decide +kernel
theorem dX8_moveBalloon_74 : decode cX8_moveBalloon 74 = .ok (.return_, 1) := by decide +kernel
theorem dX8_moveBalloon_75 : decode cX8_moveBalloon 75 = .ok (.aload_n 0, 1) := by decide +kernel
theorem dX8_moveBalloon_76 : decode cX8_moveBalloon 76 = .ok (.getfield 50, 3) := by decide +kernel
theorem dX8_moveBalloon_79 : decode cX8_moveBalloon 79 = .ok (.iload_n 1, 1) := by decide +kernel
theorem dX8_moveBalloon_80 : decode cX8_moveBalloon 80 = .ok (.iaload, 1) := by decide +kernel
theorem dX8_moveBalloon_81 : decode cX8_moveBalloon 81 = .ok (.istore 5, 2) := by decide +kernel
theorem dX8_moveBalloon_83 : decode cX8_moveBalloon 83 = .ok (.aload_n 0, 1) := by decide +kernel
theorem dX8_moveBalloon_84 : decode cX8_moveBalloon 84 = .ok (.iload 5, 2) := by decide +kernel
theorem dX8_moveBalloon_86 : decode cX8_moveBalloon 86 = .ok (.iload_n 2, 1) := by decide +kernel
theorem dX8_moveBalloon_87 : decode cX8_moveBalloon 87 = .ok (.if_icmp .eq 17, 3) := by decide +kernel
theorem dX8_moveBalloon_90 : decode cX8_moveBalloon 90 = .ok (.aload_n 0, 1) := by decide +kernel
theorem dX8_moveBalloon_91 : decode cX8_moveBalloon 91 = .ok (.getfield 44, 3) := by decide +kernel
theorem dX8_moveBalloon_94 : decode cX8_moveBalloon 94 = .ok (.iload_n 2, 1) := by decide +kernel
theorem dX8_moveBalloon_95 : decode cX8_moveBalloon 95 = .ok (.iaload, 1) := by decide +kernel
theorem dX8_moveBalloon_96 : decode cX8_moveBalloon 96 = .ok (.iconst 4, 1) := by decide +kernel
theorem dX8_moveBalloon_97 : decode cX8_moveBalloon 97 = .ok (.if_icmp .ne 7, 3) := by decide +kernel
theorem dX8_moveBalloon_100 : decode cX8_moveBalloon 100 = .ok (.iconst 2, 1) := by decide +kernel
theorem dX8_moveBalloon_101 : decode cX8_moveBalloon 101 = .ok (.goto 4, 3) := by decide +kernel
theorem dX8_moveBalloon_104 : decode cX8_moveBalloon 104 = .ok (.iconst 0, 1) := by decide +kernel
theorem dX8_moveBalloon_105 : decode cX8_moveBalloon 105 = .ok (.putfield 108, 3) := by decide +kernel
theorem dX8_moveBalloon_108 : decode cX8_moveBalloon 108 = .ok (.aload_n 0, 1) := by decide +kernel
theorem dX8_moveBalloon_109 : decode cX8_moveBalloon 109 = .ok (.getfield 108, 3) := by decide +kernel
theorem dX8_moveBalloon_112 : decode cX8_moveBalloon 112 = .ok (.ifCond .le 4, 3) := by decide +kernel
theorem dX8_moveBalloon_115 : decode cX8_moveBalloon 115 = .ok (.return_, 1) := by decide +kernel
theorem dX8_moveBalloon_116 : decode cX8_moveBalloon 116 = .ok (.aload_n 0, 1) := by decide +kernel
theorem dX8_moveBalloon_117 : decode cX8_moveBalloon 117 = .ok (.invokevirtual 179, 3) := by decide +kernel
theorem dX8_moveBalloon_120 : decode cX8_moveBalloon 120 = .ok (.aload_n 0, 1) := by decide +kernel
theorem dX8_moveBalloon_121 : decode cX8_moveBalloon 121 = .ok (.getfield 47, 3) := by decide +kernel
theorem dX8_moveBalloon_124 : decode cX8_moveBalloon 124 = .ok (.iconst 4, 1) := by decide +kernel
theorem dX8_moveBalloon_125 : decode cX8_moveBalloon 125 = .ok (.iload 5, 2) := by decide +kernel
theorem dX8_moveBalloon_127 : decode cX8_moveBalloon 127 = .ok (.imul, 1) := by decide +kernel
theorem dX8_moveBalloon_128 : decode cX8_moveBalloon 128 = .ok (.aload_n 0, 1) := by decide +kernel
theorem dX8_moveBalloon_129 : decode cX8_moveBalloon 129 = .ok (.getfield 44, 3) := by decide +kernel
theorem dX8_moveBalloon_132 : decode cX8_moveBalloon 132 = .ok (.iload 5, 2) := by decide +kernel
theorem dX8_moveBalloon_134 : decode cX8_moveBalloon 134 = .ok (.iaload, 1) := by decide +kernel
theorem dX8_moveBalloon_135 : decode cX8_moveBalloon 135 = .ok (.aload_n 0, 1) := by decide +kernel
theorem dX8_moveBalloon_136 : decode cX8_moveBalloon 136 = .ok (.getfield 47, 3) := by decide +kernel
theorem dX8_moveBalloon_139 : decode cX8_moveBalloon 139 = .ok (.iconst 4, 1) := by decide +kernel
theorem dX8_moveBalloon_140 : decode cX8_moveBalloon 140 = .ok (.iload 5, 2) := by decide +kernel
theorem dX8_moveBalloon_142 : decode cX8_moveBalloon 142 = .ok (.imul, 1) := by decide +kernel
theorem dX8_moveBalloon_143 : decode cX8_moveBalloon 143 = .ok (.iload_n 1, 1) := by decide +kernel
theorem dX8_moveBalloon_144 : decode cX8_moveBalloon 144 = .ok (.invokestatic 150, 3) := by decide +kernel
theorem dX8_moveBalloon_147 : decode cX8_moveBalloon 147 = .ok (.invokestatic 192, 3) := by decide +kernel
theorem dX8_moveBalloon_150 : decode cX8_moveBalloon 150 = .ok (.aload_n 0, 1) := by decide +kernel
theorem dX8_moveBalloon_151 : decode cX8_moveBalloon 151 = .ok (.getfield 44, 3) := by decide +kernel
theorem dX8_moveBalloon_154 : decode cX8_moveBalloon 154 = .ok (.iload 5, 2) := by decide +kernel
theorem dX8_moveBalloon_156 : decode cX8_moveBalloon 156 = .ok (.dup2, 1) := by decide +kernel
theorem dX8_moveBalloon_157 : decode cX8_moveBalloon 157 = .ok (.iaload, 1) := by decide +kernel
theorem dX8_moveBalloon_158 : decode cX8_moveBalloon 158 = .ok (.iconst 1, 1) := by decide +kernel
theorem dX8_moveBalloon_159 : decode cX8_moveBalloon 159 = .ok (.isub, 1) := by decide +kernel
theorem dX8_moveBalloon_160 : decode cX8_moveBalloon 160 = .ok (.iastore, 1) := by decide +kernel
theorem dX8_moveBalloon_161 : decode cX8_moveBalloon 161 = .ok (.aload_n 0, 1) := by decide +kernel
theorem dX8_moveBalloon_162 : decode cX8_moveBalloon 162 = .ok (.getfield 47, 3) := by decide +kernel
theorem dX8_moveBalloon_165 : decode cX8_moveBalloon 165 = .ok (.iconst 4, 1) := by decide +kernel
theorem dX8_moveBalloon_166 : decode cX8_moveBalloon 166 = .ok (.iload_n 2, 1) := by decide +kernel
theorem dX8_moveBalloon_167 : decode cX8_moveBalloon 167 = .ok (.imul, 1) := by decide +kernel
theorem dX8_moveBalloon_168 : decode cX8_moveBalloon 168 = .ok (.aload_n 0, 1) := by decide +kernel
theorem dX8_moveBalloon_169 : decode cX8_moveBalloon 169 = .ok (.getfield 44, 3) := by decide +kernel
theorem dX8_moveBalloon_172 : decode cX8_moveBalloon 172 = .ok (.iload_n 2, 1) := by decide +kernel
theorem dX8_moveBalloon_173 : decode cX8_moveBalloon 173 = .ok (.iaload, 1) := by decide +kernel
theorem dX8_moveBalloon_174 : decode cX8_moveBalloon 174 = .ok (.iload_n 3, 1) := by decide +kernel
theorem dX8_moveBalloon_175 : decode cX8_moveBalloon 175 = .ok (.iload_n 1, 1) := by decide +kernel
theorem dX8_moveBalloon_176 : decode cX8_moveBalloon 176 = .ok (.invokestatic 182, 3) := by decide +kernel
theorem dX8_moveBalloon_179 : decode cX8_moveBalloon 179 = .ok (.aload_n 0, 1) := by decide +kernel
theorem dX8_moveBalloon_180 : decode cX8_moveBalloon 180 = .ok (.getfield 44, 3) := by decide +kernel
theorem dX8_moveBalloon_183 : decode cX8_moveBalloon 183 = .ok (.iload_n 2, 1) := by decide +kernel
theorem dX8_moveBalloon_184 : decode cX8_moveBalloon 184 = .ok (.dup2, 1) := by decide +kernel
theorem dX8_moveBalloon_185 : decode cX8_moveBalloon 185 = .ok (.iaload, 1) := by decide +kernel
theorem dX8_moveBalloon_186 : decode cX8_moveBalloon 186 = .ok (.iconst 1, 1) := by decide +kernel
theorem dX8_moveBalloon_187 : decode cX8_moveBalloon 187 = .ok (.iadd, 1) := by decide +kernel
theorem dX8_moveBalloon_188 : decode cX8_moveBalloon 188 = .ok (.iastore, 1) := by decide +kernel
theorem dX8_moveBalloon_189 : decode cX8_moveBalloon 189 = .ok (.aload_n 0, 1) := by decide +kernel
theorem dX8_moveBalloon_190 : decode cX8_moveBalloon 190 = .ok (.getfield 50, 3) := by decide +kernel
theorem dX8_moveBalloon_193 : decode cX8_moveBalloon 193 = .ok (.iload_n 1, 1) := by decide +kernel
theorem dX8_moveBalloon_194 : decode cX8_moveBalloon 194 = .ok (.iload_n 2, 1) := by decide +kernel
theorem dX8_moveBalloon_195 : decode cX8_moveBalloon 195 = .ok (.iastore, 1) := by decide +kernel
theorem dX8_moveBalloon_196 : decode cX8_moveBalloon 196 = .ok (.aload_n 0, 1) := by decide +kernel
theorem dX8_moveBalloon_197 : decode cX8_moveBalloon 197 = .ok (.aload_n 0, 1) := by decide +kernel
theorem dX8_moveBalloon_198 : decode cX8_moveBalloon 198 = .ok (.invokevirtual 186, 3) := by decide +kernel
theorem dX8_moveBalloon_201 : decode cX8_moveBalloon 201 = .ok (.ifCond .eq 7, 3) := by decide +kernel
theorem dX8_moveBalloon_204 : decode cX8_moveBalloon 204 = .ok (.iconst 0, 1) := by decide +kernel
theorem dX8_moveBalloon_205 : decode cX8_moveBalloon 205 = .ok (.goto 4, 3) := by decide +kernel
theorem dX8_moveBalloon_208 : decode cX8_moveBalloon 208 = .ok (.iconst 2, 1) := by decide +kernel
theorem dX8_moveBalloon_209 : decode cX8_moveBalloon 209 = .ok (.putfield 108, 3) := by decide +kernel
theorem dX8_moveBalloon_212 : decode cX8_moveBalloon 212 = .ok (.return_, 1) := by decide +kernel
theorem dX8_movePanel_0 : decode cX8_movePanel 0 = .ok (.aload_n 0, 1) := by decide +kernel
theorem dX8_movePanel_1 : decode cX8_movePanel 1 = .ok (.iload_n 1, 1) := by decide +kernel
theorem dX8_movePanel_2 : decode cX8_movePanel 2 = .ok (.invokevirtual 189, 3) := by decide +kernel
theorem dX8_movePanel_5 : decode cX8_movePanel 5 = .ok (.ifCond .eq 24, 3) := by decide +kernel
theorem dX8_movePanel_8 : decode cX8_movePanel 8 = .ok (.iload_n 2, 1) := by decide +kernel
theorem dX8_movePanel_9 : decode cX8_movePanel 9 = .ok (.iconst 0, 1) := by decide +kernel
theorem dX8_movePanel_10 : decode cX8_movePanel 10 = .ok (.aload_n 0, 1) := by decide +kernel
theorem dX8_movePanel_11 : decode cX8_movePanel 11 = .ok (.getfield 13, 3) := by decide +kernel
theorem dX8_movePanel_14 : decode cX8_movePanel 14 = .ok (.aload_n 0, 1) := by decide +kernel
theorem dX8_movePanel_15 : decode cX8_movePanel 15 = .ok (.getfield 26, 3) := by decide +kernel
theorem dX8_movePanel_18 : decode cX8_movePanel 18 = .ok (.iload_n 1, 1) := by decide +kernel
theorem dX8_movePanel_19 : decode cX8_movePanel 19 = .ok (.iaload, 1) := by decide +kernel
theorem dX8_movePanel_20 : decode cX8_movePanel 20 = .ok (.iaload, 1) := by decide +kernel
theorem dX8_movePanel_21 : decode cX8_movePanel 21 = .ok (.iconst 1, 1) := by decide +kernel
theorem dX8_movePanel_22 : decode cX8_movePanel 22 = .ok (.isub, 1) := by decide +kernel
theorem dX8_movePanel_23 : decode cX8_movePanel 23 = .ok (.invokestatic 114, 3) := by decide +kernel
theorem dX8_movePanel_26 : decode cX8_movePanel 26 = .ok (.ifCond .ne 9, 3) := by decide +kernel
theorem dX8_movePanel_29 : decode cX8_movePanel 29 = .ok (.aload_n 0, 1) := by decide +kernel
theorem dX8_movePanel_30 : decode cX8_movePanel 30 = .ok (.iconst 1, 1) := by decide +kernel
theorem dX8_movePanel_31 : decode cX8_movePanel 31 = .ok (.invokevirtual 176, 3) := by decide +kernel
theorem dX8_movePanel_34 : decode cX8_movePanel 34 = .ok (.ireturn, 1) := by decide +kernel
theorem dX8_movePanel_35 : decode cX8_movePanel 35 = .ok (.aload_n 0, 1) := by decide +kernel
theorem dX8_movePanel_36 : decode cX8_movePanel 36 = .ok (.getfield 26, 3) := by decide +kernel
theorem dX8_movePanel_39 : decode cX8_movePanel 39 = .ok (.iload_n 1, 1) := by decide +kernel
theorem dX8_movePanel_40 : decode cX8_movePanel 40 = .ok (.iaload, 1) := by decide +kernel
theorem dX8_movePanel_41 : decode cX8_movePanel 41 = .ok (.istore_n 3, 1) := by decide +kernel
theorem dX8_movePanel_42 : decode cX8_movePanel 42 = .ok (.aload_n 0, 1) := by decide +kernel
theorem dX8_movePanel_43 : decode cX8_movePanel 43 = .ok (.invokevirtual 179, 3) := by decide +kernel
theorem dX8_movePanel_46 : decode cX8_movePanel 46 = .ok (.aload_n 0, 1) := by decide +kernel
theorem dX8_movePanel_47 : decode cX8_movePanel 47 = .ok (.getfield 16, 3) := by decide +kernel
theorem dX8_movePanel_50 : decode cX8_movePanel 50 = .ok (.bipush 8, 2) := by decide +kernel
theorem dX8_movePanel_52 : decode cX8_movePanel 52 = .ok (.iload_n 3, 1) := by decide +kernel
theorem dX8_movePanel_53 : decode cX8_movePanel 53 = .ok (.imul, 1) := by decide +kernel
theorem dX8_movePanel_54 : decode cX8_movePanel 54 = .ok (.aload_n 0, 1) := by decide +kernel
theorem dX8_movePanel_55 : decode cX8_movePanel 55 = .ok (.getfield 13, 3) := by decide +kernel
theorem dX8_movePanel_58 : decode cX8_movePanel 58 = .ok (.iload_n 3, 1) := by decide +kernel
theorem dX8_movePanel_59 : decode cX8_movePanel 59 = .ok (.iaload, 1) := by decide +kernel
theorem dX8_movePanel_60 : decode cX8_movePanel 60 = .ok (.aload_n 0, 1) := by decide +kernel
theorem dX8_movePanel_61 : decode cX8_movePanel 61 = .ok (.getfield 16, 3) := by decide +kernel
theorem dX8_movePanel_64 : decode cX8_movePanel 64 = .ok (.bipush 8, 2) := by decide +kernel
theorem dX8_movePanel_66 : decode cX8_movePanel 66 = .ok (.iload_n 3, 1) := by decide +kernel
theorem dX8_movePanel_67 : decode cX8_movePanel 67 = .ok (.imul, 1) := by decide +kernel
theorem dX8_movePanel_68 : decode cX8_movePanel 68 = .ok (.iload_n 1, 1) := by decide +kernel
theorem dX8_movePanel_69 : decode cX8_movePanel 69 = .ok (.invokestatic 150, 3) := by decide +kernel
theorem dX8_movePanel_72 : decode cX8_movePanel 72 = .ok (.invokestatic 192, 3) := by decide +kernel
theorem dX8_movePanel_75 : decode cX8_movePanel 75 = .ok (.aload_n 0, 1) := by decide +kernel
theorem dX8_movePanel_76 : decode cX8_movePanel 76 = .ok (.getfield 16, 3) := by decide +kernel
theorem dX8_movePanel_79 : decode cX8_movePanel 79 = .ok (.bipush 8, 2) := by decide +kernel
theorem dX8_movePanel_81 : decode cX8_movePanel 81 = .ok (.iload_n 3, 1) := by decide +kernel
theorem dX8_movePanel_82 : decode cX8_movePanel 82 = .ok (.imul, 1) := by decide +kernel
theorem dX8_movePanel_83 : decode cX8_movePanel 83 = .ok (.aload_n 0, 1) := by decide +kernel
theorem dX8_movePanel_84 : decode cX8_movePanel 84 = .ok (.getfield 13, 3) := by decide +kernel
theorem dX8_movePanel_87 : decode cX8_movePanel 87 = .ok (.iload_n 3, 1) := by decide +kernel
theorem dX8_movePanel_88 : decode cX8_movePanel 88 = .ok (.iaload, 1) := by decide +kernel
theorem dX8_movePanel_89 : decode cX8_movePanel 89 = .ok (.iconst 1, 1) := by decide +kernel
theorem dX8_movePanel_90 : decode cX8_movePanel 90 = .ok (.isub, 1) := by decide +kernel
theorem dX8_movePanel_91 : decode cX8_movePanel 91 = .ok (.iload_n 2, 1) := by decide +kernel
theorem dX8_movePanel_92 : decode cX8_movePanel 92 = .ok (.iload_n 1, 1) := by decide +kernel
theorem dX8_movePanel_93 : decode cX8_movePanel 93 = .ok (.invokestatic 182, 3) := by decide +kernel
theorem dX8_movePanel_96 : decode cX8_movePanel 96 = .ok (.aload_n 0, 1) := by decide +kernel
theorem dX8_movePanel_97 : decode cX8_movePanel 97 = .ok (.aload_n 0, 1) := by decide +kernel
theorem dX8_movePanel_98 : decode cX8_movePanel 98 = .ok (.invokevirtual 186, 3) := by decide +kernel
theorem dX8_movePanel_101 : decode cX8_movePanel 101 = .ok (.ifCond .eq 7, 3) := by decide +kernel
theorem dX8_movePanel_104 : decode cX8_movePanel 104 = .ok (.iconst 0, 1) := by decide +kernel
theorem dX8_movePanel_105 : decode cX8_movePanel 105 = .ok (.goto 4, 3) := by decide +kernel
theorem dX8_movePanel_108 : decode cX8_movePanel 108 = .ok (.iconst 2, 1) := by decide +kernel
theorem dX8_movePanel_109 : decode cX8_movePanel 109 = .ok (.putfield 108, 3) := by decide +kernel
theorem dX8_movePanel_112 : decode cX8_movePanel 112 = .ok (.aload_n 0, 1) := by decide +kernel
theorem dX8_movePanel_113 : decode cX8_movePanel 113 = .ok (.getfield 108, 3) := by decide +kernel
theorem dX8_movePanel_116 : decode cX8_movePanel 116 = .ok (.ifCond .le 7, 3) := by decide +kernel
theorem dX8_movePanel_119 : decode cX8_movePanel 119 = .ok (.iconst 0, 1) := by decide +kernel
theorem dX8_movePanel_120 : decode cX8_movePanel 120 = .ok (.goto 8, 3) := by decide +kernel
theorem dX8_movePanel_123 : decode cX8_movePanel 123 = .ok (.aload_n 0, 1) := by decide +kernel
theorem dX8_movePanel_124 : decode cX8_movePanel 124 = .ok (.iload_n 3, 1) := by decide +kernel
theorem dX8_movePanel_125 : decode cX8_movePanel 125 = .ok (.invokevirtual 196, 3) := by decide +kernel
theorem dX8_movePanel_128 : decode cX8_movePanel 128 = .ok (.ireturn, 1) := by decide +kernel
theorem dX8_moved_0 : decode cX8_moved 0 = .ok (.iload_n 2, 1) := by decide +kernel
theorem dX8_moved_1 : decode cX8_moved 1 = .ok (.istore 4, 2) := by decide +kernel
theorem dX8_moved_3 : decode cX8_moved 3 = .ok (.aload_n 0, 1) := by decide +kernel
theorem dX8_moved_4 : decode cX8_moved 4 = .ok (.getfield 19, 3) := by decide +kernel
theorem dX8_moved_7 : decode cX8_moved 7 = .ok (.iload_n 1, 1) := by decide +kernel
theorem dX8_moved_8 : decode cX8_moved 8 = .ok (.baload, 1) := by decide +kernel
theorem dX8_moved_9 : decode cX8_moved 9 = .ok (.ifCond .eq 21, 3) := by decide +kernel
theorem dX8_moved_12 : decode cX8_moved 12 = .ok (.iload 4, 2) := by decide +kernel
theorem dX8_moved_14 : decode cX8_moved 14 = .ok (.iload_n 3, 1) := by decide +kernel
theorem dX8_moved_15 : decode cX8_moved 15 = .ok (.irem, 1) := by decide +kernel
theorem dX8_moved_16 : decode cX8_moved 16 = .ok (.iload_n 3, 1) := by decide +kernel
theorem dX8_moved_17 : decode cX8_moved 17 = .ok (.iconst 2, 1) := by decide +kernel
theorem dX8_moved_18 : decode cX8_moved 18 = .ok (.idiv, 1) := by decide +kernel
theorem dX8_moved_19 : decode cX8_moved 19 = .ok (.iconst 1, 1) := by decide +kernel
theorem dX8_moved_20 : decode cX8_moved 20 = .ok (.isub, 1) := by decide +kernel
theorem dX8_moved_21 : decode cX8_moved 21 = .ok (.if_icmp .eq 9, 3) := by decide +kernel
theorem dX8_moved_24 : decode cX8_moved 24 = .ok (.iinc 4 1, 3) := by decide +kernel
theorem dX8_moved_27 : decode cX8_moved 27 = .ok (.goto (-24), 3) := by decide +kernel
theorem dX8_moved_30 : decode cX8_moved 30 = .ok (.iload 4, 2) := by decide +kernel
theorem dX8_moved_32 : decode cX8_moved 32 = .ok (.ireturn, 1) := by decide +kernel
theorem dX8_neighbour_0 : decode cX8_neighbour 0 = .ok (.iconst (-1), 1) := by decide +kernel
theorem dX8_neighbour_1 : decode cX8_neighbour 1 = .ok (.istore_n 3, 1) := by decide +kernel
theorem dX8_neighbour_2 : decode cX8_neighbour 2 = .ok (.iconst 0, 1) := by decide +kernel
theorem dX8_neighbour_3 : decode cX8_neighbour 3 = .ok (.istore 4, 2) := by decide +kernel
theorem dX8_neighbour_5 : decode cX8_neighbour 5 = .ok (.iload 4, 2) := by decide +kernel
theorem dX8_neighbour_7 : decode cX8_neighbour 7 = .ok (.aload_n 0, 1) := by decide +kernel
theorem dX8_neighbour_8 : decode cX8_neighbour 8 = .ok (.getfield 118, 3) := by decide +kernel
theorem dX8_neighbour_11 : decode cX8_neighbour 11 = .ok (.if_icmp .ge 126, 3) := by decide +kernel
theorem dX8_neighbour_14 : decode cX8_neighbour 14 = .ok (.aload_n 0, 1) := by decide +kernel
theorem dX8_neighbour_15 : decode cX8_neighbour 15 = .ok (.getfield 26, 3) := by decide +kernel
theorem dX8_neighbour_18 : decode cX8_neighbour 18 = .ok (.iload 4, 2) := by decide +kernel
theorem dX8_neighbour_20 : decode cX8_neighbour 20 = .ok (.iaload, 1) := by decide +kernel
theorem dX8_neighbour_21 : decode cX8_neighbour 21 = .ok (.iconst (-1), 1) := by decide +kernel
theorem dX8_neighbour_22 : decode cX8_neighbour 22 = .ok (.if_icmp .eq 42, 3) := by decide +kernel
theorem dX8_neighbour_25 : decode cX8_neighbour 25 = .ok (.iload_n 2, 1) := by decide +kernel
theorem dX8_neighbour_26 : decode cX8_neighbour 26 = .ok (.ifCond .le 20, 3) := by decide +kernel
theorem dX8_neighbour_29 : decode cX8_neighbour 29 = .ok (.aload_n 0, 1) := by decide +kernel
theorem dX8_neighbour_30 : decode cX8_neighbour 30 = .ok (.iload 4, 2) := by decide +kernel
theorem dX8_neighbour_32 : decode cX8_neighbour 32 = .ok (.invokevirtual 154, 3) := by decide +kernel
theorem dX8_neighbour_35 : decode cX8_neighbour 35 = .ok (.aload_n 0, 1) := by decide +kernel
theorem dX8_neighbour_36 : decode cX8_neighbour 36 = .ok (.iload_n 1, 1) := by decide +kernel
theorem dX8_neighbour_37 : decode cX8_neighbour 37 = .ok (.invokevirtual 154, 3) := by decide +kernel
theorem dX8_neighbour_40 : decode cX8_neighbour 40 = .ok (.if_icmp .le 24, 3) := by decide +kernel
theorem dX8_neighbour_43 : decode cX8_neighbour 43 = .ok (.goto 17, 3) := by decide +kernel
theorem dX8_neighbour_46 : decode cX8_neighbour 46 = .ok (.aload_n 0, 1) := by decide +kernel
theorem dX8_neighbour_47 : decode cX8_neighbour 47 = .ok (.iload 4, 2) := by decide +kernel
theorem dX8_neighbour_49 : decode cX8_neighbour 49 = .ok (.invokevirtual 154, 3) := by decide +kernel
theorem dX8_neighbour_52 : decode cX8_neighbour 52 = .ok (.aload_n 0, 1) := by decide +kernel
theorem dX8_neighbour_53 : decode cX8_neighbour 53 = .ok (.iload_n 1, 1) := by decide +kernel
theorem dX8_neighbour_54 : decode cX8_neighbour 54 = .ok (.invokevirtual 154, 3) := by decide +kernel
theorem dX8_neighbour_57 : decode cX8_neighbour 57 = .ok (.if_icmp .ge 7, 3) := by decide +kernel
theorem dX8_neighbour_60 : decode cX8_neighbour 60 = .ok (.iconst 1, 1) := by decide +kernel
theorem dX8_neighbour_61 : decode cX8_neighbour 61 = .ok (.goto 4, 3) := by decide +kernel
theorem dX8_neighbour_64 : decode cX8_neighbour 64 = .ok (.iconst 0, 1) := by decide +kernel
theorem dX8_neighbour_65 : decode cX8_neighbour 65 = .ok (.istore 5, 2) := by decide +kernel
theorem dX8_neighbour_67 : decode cX8_neighbour 67 = .ok (.iload 5, 2) := by decide +kernel
theorem dX8_neighbour_69 : decode cX8_neighbour 69 = .ok (.ifCond .eq 47, 3) := by decide +kernel
theorem dX8_neighbour_72 : decode cX8_neighbour 72 = .ok (.iload_n 3, 1) := by decide +kernel
theorem dX8_neighbour_73 : decode cX8_neighbour 73 = .ok (.iconst (-1), 1) := by decide +kernel
theorem dX8_neighbour_74 : decode cX8_neighbour 74 = .ok (.if_icmp .eq 38, 3) := by decide +kernel
theorem dX8_neighbour_77 : decode cX8_neighbour 77 = .ok (.iload_n 2, 1) := by decide +kernel
theorem dX8_neighbour_78 : decode cX8_neighbour 78 = .ok (.ifCond .le 20, 3) := by decide +kernel
theorem dX8_neighbour_81 : decode cX8_neighbour 81 = .ok (.aload_n 0, 1) := by decide +kernel
theorem dX8_neighbour_82 : decode cX8_neighbour 82 = .ok (.iload 4, 2) := by decide +kernel
theorem dX8_neighbour_84 : decode cX8_neighbour 84 = .ok (.invokevirtual 154, 3) := by decide +kernel
theorem dX8_neighbour_87 : decode cX8_neighbour 87 = .ok (.aload_n 0, 1) := by decide +kernel
theorem dX8_neighbour_88 : decode cX8_neighbour 88 = .ok (.iload_n 3, 1) := by decide +kernel
theorem dX8_neighbour_89 : decode cX8_neighbour 89 = .ok (.invokevirtual 154, 3) := by decide +kernel
theorem dX8_neighbour_92 : decode cX8_neighbour 92 = .ok (.if_icmp .ge 24, 3) := by decide +kernel
theorem dX8_neighbour_95 : decode cX8_neighbour 95 = .ok (.goto 17, 3) := by decide +kernel
theorem dX8_neighbour_98 : decode cX8_neighbour 98 = .ok (.aload_n 0, 1) := by decide +kernel
theorem dX8_neighbour_99 : decode cX8_neighbour 99 = .ok (.iload 4, 2) := by decide +kernel
theorem dX8_neighbour_101 : decode cX8_neighbour 101 = .ok (.invokevirtual 154, 3) := by decide +kernel
theorem dX8_neighbour_104 : decode cX8_neighbour 104 = .ok (.aload_n 0, 1) := by decide +kernel
theorem dX8_neighbour_105 : decode cX8_neighbour 105 = .ok (.iload_n 3, 1) := by decide +kernel
theorem dX8_neighbour_106 : decode cX8_neighbour 106 = .ok (.invokevirtual 154, 3) := by decide +kernel
theorem dX8_neighbour_109 : decode cX8_neighbour 109 = .ok (.if_icmp .le 7, 3) := by decide +kernel
theorem dX8_neighbour_112 : decode cX8_neighbour 112 = .ok (.iconst 1, 1) := by decide +kernel
theorem dX8_neighbour_113 : decode cX8_neighbour 113 = .ok (.goto 4, 3) := by decide +kernel
theorem dX8_neighbour_116 : decode cX8_neighbour 116 = .ok (.iconst 0, 1) := by decide +kernel
theorem dX8_neighbour_117 : decode cX8_neighbour 117 = .ok (.istore 6, 2) := by decide +kernel
theorem dX8_neighbour_119 : decode cX8_neighbour 119 = .ok (.iload 6, 2) := by decide +kernel
theorem dX8_neighbour_121 : decode cX8_neighbour 121 = .ok (.ifCond .eq 8, 3) := by decide +kernel
theorem dX8_neighbour_124 : decode cX8_neighbour 124 = .ok (.iload 4, 2) := by decide +kernel
theorem dX8_neighbour_126 : decode cX8_neighbour 126 = .ok (.goto 4, 3) := by decide +kernel
theorem dX8_neighbour_129 : decode cX8_neighbour 129 = .ok (.iload_n 3, 1) := by decide +kernel
theorem dX8_neighbour_130 : decode cX8_neighbour 130 = .ok (.istore_n 3, 1) := by decide +kernel
theorem dX8_neighbour_131 : decode cX8_neighbour 131 = .ok (.iinc 4 1, 3) := by decide +kernel
theorem dX8_neighbour_134 : decode cX8_neighbour 134 = .ok (.goto (-129), 3) := by decide +kernel
theorem dX8_neighbour_137 : decode cX8_neighbour 137 = .ok (.iload_n 3, 1) := by decide +kernel
theorem dX8_neighbour_138 : decode cX8_neighbour 138 = .ok (.ireturn, 1) := by decide +kernel
theorem dX8_open_0 : decode cX8_open 0 = .ok (.aload_n 0, 1) := by decide +kernel
theorem dX8_open_1 : decode cX8_open 1 = .ok (.iconst 0, 1) := by decide +kernel
theorem dX8_open_2 : decode cX8_open 2 = .ok (.putfield 108, 3) := by decide +kernel
theorem dX8_open_5 : decode cX8_open 5 = .ok (.aload_n 0, 1) := by decide +kernel
theorem dX8_open_6 : decode cX8_open 6 = .ok (.iconst 0, 1) := by decide +kernel
theorem dX8_open_7 : decode cX8_open 7 = .ok (.putfield 202, 3) := by decide +kernel
theorem dX8_open_10 : decode cX8_open 10 = .ok (.aload_n 0, 1) := by decide +kernel
theorem dX8_open_11 : decode cX8_open 11 = .ok (.iconst (-1), 1) := by decide +kernel
theorem dX8_open_12 : decode cX8_open 12 = .ok (.putfield 101, 3) := by decide +kernel
theorem dX8_open_15 : decode cX8_open 15 = .ok (.iconst 0, 1) := by decide +kernel
theorem dX8_open_16 : decode cX8_open 16 = .ok (.istore_n 1, 1) := by decide +kernel
theorem dX8_open_17 : decode cX8_open 17 = .ok (.iload_n 1, 1) := by decide +kernel
theorem dX8_open_18 : decode cX8_open 18 = .ok (.aload_n 0, 1) := by decide +kernel
theorem dX8_open_19 : decode cX8_open 19 = .ok (.getfield 118, 3) := by decide +kernel
theorem dX8_open_22 : decode cX8_open 22 = .ok (.if_icmp .ge 55, 3) := by decide +kernel
theorem dX8_open_25 : decode cX8_open 25 = .ok (.aload_n 0, 1) := by decide +kernel
theorem dX8_open_26 : decode cX8_open 26 = .ok (.aload_n 0, 1) := by decide +kernel
theorem dX8_open_27 : decode cX8_open 27 = .ok (.getfield 26, 3) := by decide +kernel
theorem dX8_open_30 : decode cX8_open 30 = .ok (.iload_n 1, 1) := by decide +kernel
theorem dX8_open_31 : decode cX8_open 31 = .ok (.iaload, 1) := by decide +kernel
theorem dX8_open_32 : decode cX8_open 32 = .ok (.iconst (-1), 1) := by decide +kernel
theorem dX8_open_33 : decode cX8_open 33 = .ok (.if_icmp .eq 31, 3) := by decide +kernel
theorem dX8_open_36 : decode cX8_open 36 = .ok (.aload_n 0, 1) := by decide +kernel
theorem dX8_open_37 : decode cX8_open 37 = .ok (.getfield 101, 3) := by decide +kernel
theorem dX8_open_40 : decode cX8_open 40 = .ok (.iconst (-1), 1) := by decide +kernel
theorem dX8_open_41 : decode cX8_open 41 = .ok (.if_icmp .eq 19, 3) := by decide +kernel
theorem dX8_open_44 : decode cX8_open 44 = .ok (.aload_n 0, 1) := by decide +kernel
theorem dX8_open_45 : decode cX8_open 45 = .ok (.iload_n 1, 1) := by decide +kernel
theorem dX8_open_46 : decode cX8_open 46 = .ok (.invokevirtual 154, 3) := by decide +kernel
theorem dX8_open_49 : decode cX8_open 49 = .ok (.aload_n 0, 1) := by decide +kernel
theorem dX8_open_50 : decode cX8_open 50 = .ok (.aload_n 0, 1) := by decide +kernel
theorem dX8_open_51 : decode cX8_open 51 = .ok (.getfield 101, 3) := by decide +kernel
theorem dX8_open_54 : decode cX8_open 54 = .ok (.invokevirtual 154, 3) := by decide +kernel
theorem dX8_open_57 : decode cX8_open 57 = .ok (.if_icmp .ge 7, 3) := by decide +kernel
theorem dX8_open_60 : decode cX8_open 60 = .ok (.iload_n 1, 1) := by decide +kernel
theorem dX8_open_61 : decode cX8_open 61 = .ok (.goto 7, 3) := by decide +kernel
theorem dX8_open_64 : decode cX8_open 64 = .ok (.aload_n 0, 1) := by decide +kernel
theorem dX8_open_65 : decode cX8_open 65 = .ok (.getfield 101, 3) := by decide +kernel
theorem dX8_open_68 : decode cX8_open 68 = .ok (.putfield 101, 3) := by decide +kernel
theorem dX8_open_71 : decode cX8_open 71 = .ok (.iinc 1 1, 3) := by decide +kernel
theorem dX8_open_74 : decode cX8_open 74 = .ok (.goto (-57), 3) := by decide +kernel
theorem dX8_open_77 : decode cX8_open 77 = .ok (.aload_n 0, 1) := by decide +kernel
theorem dX8_open_78 : decode cX8_open 78 = .ok (.getfield 101, 3) := by decide +kernel
theorem dX8_open_81 : decode cX8_open 81 = .ok (.ireturn, 1) := by decide +kernel
theorem dX8_page_0 : decode cX8_page 0 = .ok (.aload_n 0, 1) := by decide +kernel
theorem dX8_page_1 : decode cX8_page 1 = .ok (.aload_n 0, 1) := by decide +kernel
theorem dX8_page_2 : decode cX8_page 2 = .ok (.getfield 111, 3) := by decide +kernel
theorem dX8_page_5 : decode cX8_page 5 = .ok (.bipush 10, 2) := by decide +kernel
theorem dX8_page_7 : decode cX8_page 7 = .ok (.if_icmp .ne 7, 3) := by decide +kernel
theorem dX8_page_10 : decode cX8_page 10 = .ok (.iconst 1, 1) := by decide +kernel
theorem dX8_page_11 : decode cX8_page 11 = .ok (.goto 4, 3) := by decide +kernel
theorem dX8_page_14 : decode cX8_page 14 = .ok (.iconst 0, 1) := by decide +kernel
theorem dX8_page_15 : decode cX8_page 15 = .ok (.putfield 108, 3) := by decide +kernel
theorem dX8_page_18 : decode cX8_page 18 = .ok (.aload_n 0, 1) := by decide +kernel
theorem dX8_page_19 : decode cX8_page 19 = .ok (.getfield 108, 3) := by decide +kernel
theorem dX8_page_22 : decode cX8_page 22 = .ok (.ifCond .le 5, 3) := by decide +kernel
theorem dX8_page_25 : decode cX8_page 25 = .ok (.iconst 0, 1) := by decide +kernel
theorem dX8_page_26 : decode cX8_page 26 = .ok (.ireturn, 1) := by decide +kernel
theorem dX8_page_27 : decode cX8_page 27 = .ok (.aload_n 0, 1) := by decide +kernel
theorem dX8_page_28 : decode cX8_page 28 = .ok (.dup, 1) := by decide +kernel
theorem dX8_page_29 : decode cX8_page 29 = .ok (.getfield 111, 3) := by decide +kernel
theorem dX8_page_32 : decode cX8_page 32 = .ok (.iconst 1, 1) := by decide +kernel
theorem dX8_page_33 : decode cX8_page 33 = .ok (.iadd, 1) := by decide +kernel
theorem dX8_page_34 : decode cX8_page 34 = .ok (.putfield 111, 3) := by decide +kernel
theorem dX8_page_37 : decode cX8_page 37 = .ok (.aload_n 0, 1) := by decide +kernel
theorem dX8_page_38 : decode cX8_page 38 = .ok (.getfield 111, 3) := by decide +kernel
theorem dX8_page_41 : decode cX8_page 41 = .ok (.iconst 1, 1) := by decide +kernel
theorem dX8_page_42 : decode cX8_page 42 = .ok (.isub, 1) := by decide +kernel
theorem dX8_page_43 : decode cX8_page 43 = .ok (.ireturn, 1) := by decide +kernel
theorem dX8_pages_0 : decode cX8_pages 0 = .ok (.aload_n 0, 1) := by decide +kernel
theorem dX8_pages_1 : decode cX8_pages 1 = .ok (.iconst 0, 1) := by decide +kernel
theorem dX8_pages_2 : decode cX8_pages 2 = .ok (.putfield 108, 3) := by decide +kernel
theorem dX8_pages_5 : decode cX8_pages 5 = .ok (.aload_n 0, 1) := by decide +kernel
theorem dX8_pages_6 : decode cX8_pages 6 = .ok (.getfield 111, 3) := by decide +kernel
theorem dX8_pages_9 : decode cX8_pages 9 = .ok (.ireturn, 1) := by decide +kernel
theorem dX8_panel_0 : decode cX8_panel 0 = .ok (.aload_n 0, 1) := by decide +kernel
theorem dX8_panel_1 : decode cX8_panel 1 = .ok (.iload_n 1, 1) := by decide +kernel
theorem dX8_panel_2 : decode cX8_panel 2 = .ok (.invokevirtual 173, 3) := by decide +kernel
theorem dX8_panel_5 : decode cX8_panel 5 = .ok (.ifCond .eq 17, 3) := by decide +kernel
theorem dX8_panel_8 : decode cX8_panel 8 = .ok (.iload_n 2, 1) := by decide +kernel
theorem dX8_panel_9 : decode cX8_panel 9 = .ok (.iconst 0, 1) := by decide +kernel
theorem dX8_panel_10 : decode cX8_panel 10 = .ok (.aload_n 0, 1) := by decide +kernel
theorem dX8_panel_11 : decode cX8_panel 11 = .ok (.getfield 13, 3) := by decide +kernel
theorem dX8_panel_14 : decode cX8_panel 14 = .ok (.iload_n 1, 1) := by decide +kernel
theorem dX8_panel_15 : decode cX8_panel 15 = .ok (.iaload, 1) := by decide +kernel
theorem dX8_panel_16 : decode cX8_panel 16 = .ok (.invokestatic 114, 3) := by decide +kernel
theorem dX8_panel_19 : decode cX8_panel 19 = .ok (.ifCond .ne 9, 3) := by decide +kernel
theorem dX8_panel_22 : decode cX8_panel 22 = .ok (.aload_n 0, 1) := by decide +kernel
theorem dX8_panel_23 : decode cX8_panel 23 = .ok (.iconst 1, 1) := by decide +kernel
theorem dX8_panel_24 : decode cX8_panel 24 = .ok (.invokevirtual 176, 3) := by decide +kernel
theorem dX8_panel_27 : decode cX8_panel 27 = .ok (.ireturn, 1) := by decide +kernel
theorem dX8_panel_28 : decode cX8_panel 28 = .ok (.aload_n 0, 1) := by decide +kernel
theorem dX8_panel_29 : decode cX8_panel 29 = .ok (.iload_n 3, 1) := by decide +kernel
theorem dX8_panel_30 : decode cX8_panel 30 = .ok (.iconst 1, 1) := by decide +kernel
theorem dX8_panel_31 : decode cX8_panel 31 = .ok (.bipush 9, 2) := by decide +kernel
theorem dX8_panel_33 : decode cX8_panel 33 = .ok (.invokestatic 114, 3) := by decide +kernel
theorem dX8_panel_36 : decode cX8_panel 36 = .ok (.ifCond .eq 25, 3) := by decide +kernel
theorem dX8_panel_39 : decode cX8_panel 39 = .ok (.iload 4, 2) := by decide +kernel
theorem dX8_panel_41 : decode cX8_panel 41 = .ok (.iconst 4, 1) := by decide +kernel
theorem dX8_panel_42 : decode cX8_panel 42 = .ok (.bipush 24, 2) := by decide +kernel
theorem dX8_panel_44 : decode cX8_panel 44 = .ok (.invokestatic 114, 3) := by decide +kernel
theorem dX8_panel_47 : decode cX8_panel 47 = .ok (.ifCond .eq 14, 3) := by decide +kernel
theorem dX8_panel_50 : decode cX8_panel 50 = .ok (.iload 5, 2) := by decide +kernel
theorem dX8_panel_52 : decode cX8_panel 52 = .ok (.iconst 3, 1) := by decide +kernel
theorem dX8_panel_53 : decode cX8_panel 53 = .ok (.bipush 12, 2) := by decide +kernel
theorem dX8_panel_55 : decode cX8_panel 55 = .ok (.invokestatic 114, 3) := by decide +kernel
theorem dX8_panel_58 : decode cX8_panel 58 = .ok (.ifCond .ne 7, 3) := by decide +kernel
theorem dX8_panel_61 : decode cX8_panel 61 = .ok (.iconst 2, 1) := by decide +kernel
theorem dX8_panel_62 : decode cX8_panel 62 = .ok (.goto 28, 3) := by decide +kernel
theorem dX8_panel_65 : decode cX8_panel 65 = .ok (.aload_n 0, 1) := by decide +kernel
theorem dX8_panel_66 : decode cX8_panel 66 = .ok (.getfield 13, 3) := by decide +kernel
theorem dX8_panel_69 : decode cX8_panel 69 = .ok (.iload_n 1, 1) := by decide +kernel
theorem dX8_panel_70 : decode cX8_panel 70 = .ok (.iaload, 1) := by decide +kernel
theorem dX8_panel_71 : decode cX8_panel 71 = .ok (.bipush 8, 2) := by decide +kernel
theorem dX8_panel_73 : decode cX8_panel 73 = .ok (.if_icmp .eq 12, 3) := by decide +kernel
theorem dX8_panel_76 : decode cX8_panel 76 = .ok (.aload_n 0, 1) := by decide +kernel
theorem dX8_panel_77 : decode cX8_panel 77 = .ok (.getfield 118, 3) := by decide +kernel
theorem dX8_panel_80 : decode cX8_panel 80 = .ok (.bipush 50, 2) := by decide +kernel
theorem dX8_panel_82 : decode cX8_panel 82 = .ok (.if_icmp .ne 7, 3) := by decide +kernel
theorem dX8_panel_85 : decode cX8_panel 85 = .ok (.iconst 3, 1) := by decide +kernel
theorem dX8_panel_86 : decode cX8_panel 86 = .ok (.goto 4, 3) := by decide +kernel
theorem dX8_panel_89 : decode cX8_panel 89 = .ok (.iconst 0, 1) := by decide +kernel
theorem dX8_panel_90 : decode cX8_panel 90 = .ok (.putfield 108, 3) := by decide +kernel
theorem dX8_panel_93 : decode cX8_panel 93 = .ok (.aload_n 0, 1) := by decide +kernel
theorem dX8_panel_94 : decode cX8_panel 94 = .ok (.getfield 108, 3) := by decide +kernel
theorem dX8_panel_97 : decode cX8_panel 97 = .ok (.ifCond .le 5, 3) := by decide +kernel
theorem dX8_panel_100 : decode cX8_panel 100 = .ok (.iconst 0, 1) := by decide +kernel
theorem dX8_panel_101 : decode cX8_panel 101 = .ok (.ireturn, 1) := by decide +kernel
theorem dX8_panel_102 : decode cX8_panel 102 = .ok (.aload_n 0, 1) := by decide +kernel
theorem dX8_panel_103 : decode cX8_panel 103 = .ok (.invokevirtual 179, 3) := by decide +kernel
theorem dX8_panel_106 : decode cX8_panel 106 = .ok (.aload_n 0, 1) := by decide +kernel
theorem dX8_panel_107 : decode cX8_panel 107 = .ok (.getfield 26, 3) := by decide +kernel
theorem dX8_panel_110 : decode cX8_panel 110 = .ok (.aload_n 0, 1) := by decide +kernel
theorem dX8_panel_111 : decode cX8_panel 111 = .ok (.getfield 118, 3) := by decide +kernel
theorem dX8_panel_114 : decode cX8_panel 114 = .ok (.iload_n 1, 1) := by decide +kernel
theorem dX8_panel_115 : decode cX8_panel 115 = .ok (.iastore, 1) := by decide +kernel
theorem dX8_panel_116 : decode cX8_panel 116 = .ok (.aload_n 0, 1) := by decide +kernel
theorem dX8_panel_117 : decode cX8_panel 117 = .ok (.getfield 29, 3) := by decide +kernel
theorem dX8_panel_120 : decode cX8_panel 120 = .ok (.aload_n 0, 1) := by decide +kernel
theorem dX8_panel_121 : decode cX8_panel 121 = .ok (.getfield 118, 3) := by decide +kernel
theorem dX8_panel_124 : decode cX8_panel 124 = .ok (.iload_n 3, 1) := by decide +kernel
theorem dX8_panel_125 : decode cX8_panel 125 = .ok (.iastore, 1) := by decide +kernel
theorem dX8_panel_126 : decode cX8_panel 126 = .ok (.aload_n 0, 1) := by decide +kernel
theorem dX8_panel_127 : decode cX8_panel 127 = .ok (.getfield 32, 3) := by decide +kernel
theorem dX8_panel_130 : decode cX8_panel 130 = .ok (.aload_n 0, 1) := by decide +kernel
theorem dX8_panel_131 : decode cX8_panel 131 = .ok (.getfield 118, 3) := by decide +kernel
theorem dX8_panel_134 : decode cX8_panel 134 = .ok (.iload 4, 2) := by decide +kernel
theorem dX8_panel_136 : decode cX8_panel 136 = .ok (.iastore, 1) := by decide +kernel
theorem dX8_panel_137 : decode cX8_panel 137 = .ok (.aload_n 0, 1) := by decide +kernel
theorem dX8_panel_138 : decode cX8_panel 138 = .ok (.getfield 35, 3) := by decide +kernel
theorem dX8_panel_141 : decode cX8_panel 141 = .ok (.aload_n 0, 1) := by decide +kernel
theorem dX8_panel_142 : decode cX8_panel 142 = .ok (.getfield 118, 3) := by decide +kernel
theorem dX8_panel_145 : decode cX8_panel 145 = .ok (.iload 5, 2) := by decide +kernel
theorem dX8_panel_147 : decode cX8_panel 147 = .ok (.iastore, 1) := by decide +kernel
theorem dX8_panel_148 : decode cX8_panel 148 = .ok (.aload_n 0, 1) := by decide +kernel
theorem dX8_panel_149 : decode cX8_panel 149 = .ok (.getfield 38, 3) := by decide +kernel
theorem dX8_panel_152 : decode cX8_panel 152 = .ok (.aload_n 0, 1) := by decide +kernel
theorem dX8_panel_153 : decode cX8_panel 153 = .ok (.getfield 118, 3) := by decide +kernel
theorem dX8_panel_156 : decode cX8_panel 156 = .ok (.iconst 0, 1) := by decide +kernel
theorem dX8_panel_157 : decode cX8_panel 157 = .ok (.iastore, 1) := by decide +kernel
theorem dX8_panel_158 : decode cX8_panel 158 = .ok (.aload_n 0, 1) := by decide +kernel
theorem dX8_panel_159 : decode cX8_panel 159 = .ok (.getfield 44, 3) := by decide +kernel
theorem dX8_panel_162 : decode cX8_panel 162 = .ok (.aload_n 0, 1) := by decide +kernel
theorem dX8_panel_163 : decode cX8_panel 163 = .ok (.getfield 118, 3) := by decide +kernel
theorem dX8_panel_166 : decode cX8_panel 166 = .ok (.iconst 0, 1) := by decide +kernel
theorem dX8_panel_167 : decode cX8_panel 167 = .ok (.iastore, 1) := by decide +kernel
theorem dX8_panel_168 : decode cX8_panel 168 = .ok (.aload_n 0, 1) := by decide +kernel
theorem dX8_panel_169 : decode cX8_panel 169 = .ok (.getfield 16, 3) := by decide +kernel
theorem dX8_panel_172 : decode cX8_panel 172 = .ok (.bipush 8, 2) := by decide +kernel
theorem dX8_panel_174 : decode cX8_panel 174 = .ok (.iload_n 1, 1) := by decide +kernel
theorem dX8_panel_175 : decode cX8_panel 175 = .ok (.imul, 1) := by decide +kernel
theorem dX8_panel_176 : decode cX8_panel 176 = .ok (.aload_n 0, 1) := by decide +kernel
theorem dX8_panel_177 : decode cX8_panel 177 = .ok (.getfield 13, 3) := by decide +kernel
theorem dX8_panel_180 : decode cX8_panel 180 = .ok (.iload_n 1, 1) := by decide +kernel
theorem dX8_panel_181 : decode cX8_panel 181 = .ok (.iaload, 1) := by decide +kernel
theorem dX8_panel_182 : decode cX8_panel 182 = .ok (.iload_n 2, 1) := by decide +kernel
theorem dX8_panel_183 : decode cX8_panel 183 = .ok (.aload_n 0, 1) := by decide +kernel
theorem dX8_panel_184 : decode cX8_panel 184 = .ok (.getfield 118, 3) := by decide +kernel
theorem dX8_panel_187 : decode cX8_panel 187 = .ok (.invokestatic 182, 3) := by decide +kernel
theorem dX8_panel_190 : decode cX8_panel 190 = .ok (.aload_n 0, 1) := by decide +kernel
theorem dX8_panel_191 : decode cX8_panel 191 = .ok (.getfield 13, 3) := by decide +kernel
theorem dX8_panel_194 : decode cX8_panel 194 = .ok (.iload_n 1, 1) := by decide +kernel
theorem dX8_panel_195 : decode cX8_panel 195 = .ok (.dup2, 1) := by decide +kernel
theorem dX8_panel_196 : decode cX8_panel 196 = .ok (.iaload, 1) := by decide +kernel
theorem dX8_panel_197 : decode cX8_panel 197 = .ok (.iconst 1, 1) := by decide +kernel
theorem dX8_panel_198 : decode cX8_panel 198 = .ok (.iadd, 1) := by decide +kernel
theorem dX8_panel_199 : decode cX8_panel 199 = .ok (.iastore, 1) := by decide +kernel
theorem dX8_panel_200 : decode cX8_panel 200 = .ok (.aload_n 0, 1) := by decide +kernel
theorem dX8_panel_201 : decode cX8_panel 201 = .ok (.dup, 1) := by decide +kernel
theorem dX8_panel_202 : decode cX8_panel 202 = .ok (.getfield 118, 3) := by decide +kernel
theorem dX8_panel_205 : decode cX8_panel 205 = .ok (.iconst 1, 1) := by decide +kernel
theorem dX8_panel_206 : decode cX8_panel 206 = .ok (.iadd, 1) := by decide +kernel
theorem dX8_panel_207 : decode cX8_panel 207 = .ok (.putfield 118, 3) := by decide +kernel
theorem dX8_panel_210 : decode cX8_panel 210 = .ok (.aload_n 0, 1) := by decide +kernel
theorem dX8_panel_211 : decode cX8_panel 211 = .ok (.invokevirtual 186, 3) := by decide +kernel
theorem dX8_panel_214 : decode cX8_panel 214 = .ok (.ifCond .ne 19, 3) := by decide +kernel
theorem dX8_panel_217 : decode cX8_panel 217 = .ok (.aload_n 0, 1) := by decide +kernel
theorem dX8_panel_218 : decode cX8_panel 218 = .ok (.dup, 1) := by decide +kernel
theorem dX8_panel_219 : decode cX8_panel 219 = .ok (.getfield 118, 3) := by decide +kernel
theorem dX8_panel_222 : decode cX8_panel 222 = .ok (.iconst 1, 1) := by decide +kernel
theorem dX8_panel_223 : decode cX8_panel 223 = .ok (.isub, 1) := by decide +kernel
theorem dX8_panel_224 : decode cX8_panel 224 = .ok (.putfield 118, 3) := by decide +kernel
theorem dX8_panel_227 : decode cX8_panel 227 = .ok (.aload_n 0, 1) := by decide +kernel
theorem dX8_panel_228 : decode cX8_panel 228 = .ok (.iconst 3, 1) := by decide +kernel
theorem dX8_panel_229 : decode cX8_panel 229 = .ok (.invokevirtual 176, 3) := by decide +kernel
theorem dX8_panel_232 : decode cX8_panel 232 = .ok (.ireturn, 1) := by decide +kernel
theorem dX8_panel_233 : decode cX8_panel 233 = .ok (.aload_n 0, 1) := by decide +kernel
theorem dX8_panel_234 : decode cX8_panel 234 = .ok (.getfield 118, 3) := by decide +kernel
theorem dX8_panel_237 : decode cX8_panel 237 = .ok (.iconst 1, 1) := by decide +kernel
theorem dX8_panel_238 : decode cX8_panel 238 = .ok (.isub, 1) := by decide +kernel
theorem dX8_panel_239 : decode cX8_panel 239 = .ok (.ireturn, 1) := by decide +kernel
theorem dX8_panelAt_0 : decode cX8_panelAt 0 = .ok (.aload_n 0, 1) := by decide +kernel
theorem dX8_panelAt_1 : decode cX8_panelAt 1 = .ok (.iconst 0, 1) := by decide +kernel
theorem dX8_panelAt_2 : decode cX8_panelAt 2 = .ok (.putfield 108, 3) := by decide +kernel
theorem dX8_panelAt_5 : decode cX8_panelAt 5 = .ok (.aload_n 0, 1) := by decide +kernel
theorem dX8_panelAt_6 : decode cX8_panelAt 6 = .ok (.iload_n 1, 1) := by decide +kernel
theorem dX8_panelAt_7 : decode cX8_panelAt 7 = .ok (.invokevirtual 173, 3) := by decide +kernel
theorem dX8_panelAt_10 : decode cX8_panelAt 10 = .ok (.ifCond .eq 33, 3) := by decide +kernel
theorem dX8_panelAt_13 : decode cX8_panelAt 13 = .ok (.iload_n 2, 1) := by decide +kernel
theorem dX8_panelAt_14 : decode cX8_panelAt 14 = .ok (.iconst 0, 1) := by decide +kernel
theorem dX8_panelAt_15 : decode cX8_panelAt 15 = .ok (.aload_n 0, 1) := by decide +kernel
theorem dX8_panelAt_16 : decode cX8_panelAt 16 = .ok (.getfield 13, 3) := by decide +kernel
theorem dX8_panelAt_19 : decode cX8_panelAt 19 = .ok (.iload_n 1, 1) := by decide +kernel
theorem dX8_panelAt_20 : decode cX8_panelAt 20 = .ok (.iaload, 1) := by decide +kernel
theorem dX8_panelAt_21 : decode cX8_panelAt 21 = .ok (.iconst 1, 1) := by decide +kernel
theorem dX8_panelAt_22 : decode cX8_panelAt 22 = .ok (.isub, 1) := by decide +kernel
theorem dX8_panelAt_23 : decode cX8_panelAt 23 = .ok (.invokestatic 114, 3) := by decide +kernel
theorem dX8_panelAt_26 : decode cX8_panelAt 26 = .ok (.ifCond .eq 17, 3) := by decide +kernel
theorem dX8_panelAt_29 : decode cX8_panelAt 29 = .ok (.aload_n 0, 1) := by decide +kernel
theorem dX8_panelAt_30 : decode cX8_panelAt 30 = .ok (.getfield 16, 3) := by decide +kernel
theorem dX8_panelAt_33 : decode cX8_panelAt 33 = .ok (.bipush 8, 2) := by decide +kernel
theorem dX8_panelAt_35 : decode cX8_panelAt 35 = .ok (.iload_n 1, 1) := by decide +kernel
theorem dX8_panelAt_36 : decode cX8_panelAt 36 = .ok (.imul, 1) := by decide +kernel
theorem dX8_panelAt_37 : decode cX8_panelAt 37 = .ok (.iload_n 2, 1) := by decide +kernel
theorem dX8_panelAt_38 : decode cX8_panelAt 38 = .ok (.iadd, 1) := by decide +kernel
theorem dX8_panelAt_39 : decode cX8_panelAt 39 = .ok (.iaload, 1) := by decide +kernel
theorem dX8_panelAt_40 : decode cX8_panelAt 40 = .ok (.goto 8, 3) := by decide +kernel
theorem dX8_panelAt_43 : decode cX8_panelAt 43 = .ok (.aload_n 0, 1) := by decide +kernel
theorem dX8_panelAt_44 : decode cX8_panelAt 44 = .ok (.iconst 1, 1) := by decide +kernel
theorem dX8_panelAt_45 : decode cX8_panelAt 45 = .ok (.invokevirtual 176, 3) := by decide +kernel
theorem dX8_panelAt_48 : decode cX8_panelAt 48 = .ok (.ireturn, 1) := by decide +kernel
theorem dX8_panels_0 : decode cX8_panels 0 = .ok (.aload_n 0, 1) := by decide +kernel
theorem dX8_panels_1 : decode cX8_panels 1 = .ok (.iconst 0, 1) := by decide +kernel
theorem dX8_panels_2 : decode cX8_panels 2 = .ok (.putfield 108, 3) := by decide +kernel
theorem dX8_panels_5 : decode cX8_panels 5 = .ok (.aload_n 0, 1) := by decide +kernel
theorem dX8_panels_6 : decode cX8_panels 6 = .ok (.iload_n 1, 1) := by decide +kernel
theorem dX8_panels_7 : decode cX8_panels 7 = .ok (.invokevirtual 173, 3) := by decide +kernel
theorem dX8_panels_10 : decode cX8_panels 10 = .ok (.ifCond .eq 12, 3) := by decide +kernel
theorem dX8_panels_13 : decode cX8_panels 13 = .ok (.aload_n 0, 1) := by decide +kernel
theorem dX8_panels_14 : decode cX8_panels 14 = .ok (.getfield 13, 3) := by decide +kernel
theorem dX8_panels_17 : decode cX8_panels 17 = .ok (.iload_n 1, 1) := by decide +kernel
theorem dX8_panels_18 : decode cX8_panels 18 = .ok (.iaload, 1) := by decide +kernel
theorem dX8_panels_19 : decode cX8_panels 19 = .ok (.goto 8, 3) := by decide +kernel
theorem dX8_panels_22 : decode cX8_panels 22 = .ok (.aload_n 0, 1) := by decide +kernel
theorem dX8_panels_23 : decode cX8_panels 23 = .ok (.iconst 1, 1) := by decide +kernel
theorem dX8_panels_24 : decode cX8_panels 24 = .ok (.invokevirtual 176, 3) := by decide +kernel
theorem dX8_panels_27 : decode cX8_panels 27 = .ok (.ireturn, 1) := by decide +kernel
theorem dX8_placeByPairs_0 : decode cX8_placeByPairs 0 = .ok (.aload_n 0, 1) := by decide +kernel
theorem dX8_placeByPairs_1 : decode cX8_placeByPairs 1 = .ok (.iload_n 1, 1) := by decide +kernel
theorem dX8_placeByPairs_2 : decode cX8_placeByPairs 2 = .ok (.invokevirtual 211, 3) := by decide +kernel
theorem dX8_placeByPairs_5 : decode cX8_placeByPairs 5 = .ok (.ireturn, 1) := by decide +kernel
theorem dX8_placeOf_0 : decode cX8_placeOf 0 = .ok (.aload_n 0, 1) := by decide +kernel
theorem dX8_placeOf_1 : decode cX8_placeOf 1 = .ok (.iconst 0, 1) := by decide +kernel
theorem dX8_placeOf_2 : decode cX8_placeOf 2 = .ok (.putfield 108, 3) := by decide +kernel
theorem dX8_placeOf_5 : decode cX8_placeOf 5 = .ok (.aload_n 0, 1) := by decide +kernel
theorem dX8_placeOf_6 : decode cX8_placeOf 6 = .ok (.iload_n 1, 1) := by decide +kernel
theorem dX8_placeOf_7 : decode cX8_placeOf 7 = .ok (.invokevirtual 205, 3) := by decide +kernel
theorem dX8_placeOf_10 : decode cX8_placeOf 10 = .ok (.ifCond .eq 11, 3) := by decide +kernel
theorem dX8_placeOf_13 : decode cX8_placeOf 13 = .ok (.aload_n 0, 1) := by decide +kernel
theorem dX8_placeOf_14 : decode cX8_placeOf 14 = .ok (.iload_n 1, 1) := by decide +kernel
theorem dX8_placeOf_15 : decode cX8_placeOf 15 = .ok (.invokevirtual 208, 3) := by decide +kernel
theorem dX8_placeOf_18 : decode cX8_placeOf 18 = .ok (.goto 8, 3) := by decide +kernel
theorem dX8_placeOf_21 : decode cX8_placeOf 21 = .ok (.aload_n 0, 1) := by decide +kernel
theorem dX8_placeOf_22 : decode cX8_placeOf 22 = .ok (.iconst 1, 1) := by decide +kernel
theorem dX8_placeOf_23 : decode cX8_placeOf 23 = .ok (.invokevirtual 176, 3) := by decide +kernel
theorem dX8_placeOf_26 : decode cX8_placeOf 26 = .ok (.ireturn, 1) := by decide +kernel
theorem dX8_places_0 : decode cX8_places 0 = .ok (.aload_n 0, 1) := by decide +kernel
theorem dX8_places_1 : decode cX8_places 1 = .ok (.getfield 26, 3) := by decide +kernel
theorem dX8_places_4 : decode cX8_places 4 = .ok (.iload_n 1, 1) := by decide +kernel
theorem dX8_places_5 : decode cX8_places 5 = .ok (.iaload, 1) := by decide +kernel
theorem dX8_places_6 : decode cX8_places 6 = .ok (.istore 4, 2) := by decide +kernel
theorem dX8_places_8 : decode cX8_places 8 = .ok (.iconst (-1), 1) := by decide +kernel
theorem dX8_places_9 : decode cX8_places 9 = .ok (.istore 5, 2) := by decide +kernel
theorem dX8_places_11 : decode cX8_places 11 = .ok (.aload_n 0, 1) := by decide +kernel
theorem dX8_places_12 : decode cX8_places 12 = .ok (.iload_n 1, 1) := by decide +kernel
theorem dX8_places_13 : decode cX8_places 13 = .ok (.iload_n 2, 1) := by decide +kernel
theorem dX8_places_14 : decode cX8_places 14 = .ok (.iload_n 3, 1) := by decide +kernel
theorem dX8_places_15 : decode cX8_places 15 = .ok (.invokevirtual 124, 3) := by decide +kernel
theorem dX8_places_18 : decode cX8_places 18 = .ok (.iconst 0, 1) := by decide +kernel
theorem dX8_places_19 : decode cX8_places 19 = .ok (.istore 6, 2) := by decide +kernel
theorem dX8_places_21 : decode cX8_places 21 = .ok (.iload 6, 2) := by decide +kernel
theorem dX8_places_23 : decode cX8_places 23 = .ok (.aload_n 0, 1) := by decide +kernel
theorem dX8_places_24 : decode cX8_places 24 = .ok (.getfield 44, 3) := by decide +kernel
theorem dX8_places_27 : decode cX8_places 27 = .ok (.iload_n 1, 1) := by decide +kernel
theorem dX8_places_28 : decode cX8_places 28 = .ok (.iaload, 1) := by decide +kernel
theorem dX8_places_29 : decode cX8_places 29 = .ok (.if_icmp .ge 301, 3) := by decide +kernel
theorem dX8_places_32 : decode cX8_places 32 = .ok (.aload_n 0, 1) := by decide +kernel
theorem dX8_places_33 : decode cX8_places 33 = .ok (.getfield 47, 3) := by decide +kernel
theorem dX8_places_36 : decode cX8_places 36 = .ok (.iconst 4, 1) := by decide +kernel
theorem dX8_places_37 : decode cX8_places 37 = .ok (.iload_n 1, 1) := by decide +kernel
theorem dX8_places_38 : decode cX8_places 38 = .ok (.imul, 1) := by decide +kernel
theorem dX8_places_39 : decode cX8_places 39 = .ok (.iload 6, 2) := by decide +kernel
theorem dX8_places_41 : decode cX8_places 41 = .ok (.iadd, 1) := by decide +kernel
theorem dX8_places_42 : decode cX8_places 42 = .ok (.iaload, 1) := by decide +kernel
theorem dX8_places_43 : decode cX8_places 43 = .ok (.istore 7, 2) := by decide +kernel
theorem dX8_places_45 : decode cX8_places 45 = .ok (.aload_n 0, 1) := by decide +kernel
theorem dX8_places_46 : decode cX8_places 46 = .ok (.iload 7, 2) := by decide +kernel
theorem dX8_places_48 : decode cX8_places 48 = .ok (.iload 4, 2) := by decide +kernel
theorem dX8_places_50 : decode cX8_places 50 = .ok (.invokevirtual 128, 3) := by decide +kernel
theorem dX8_places_53 : decode cX8_places 53 = .ok (.istore 8, 2) := by decide +kernel
theorem dX8_places_55 : decode cX8_places 55 = .ok (.iload 8, 2) := by decide +kernel
theorem dX8_places_57 : decode cX8_places 57 = .ok (.bipush 6, 2) := by decide +kernel
theorem dX8_places_59 : decode cX8_places 59 = .ok (.if_icmp .ge 8, 3) := by decide +kernel
theorem dX8_places_62 : decode cX8_places 62 = .ok (.iload 8, 2) := by decide +kernel
theorem dX8_places_64 : decode cX8_places 64 = .ok (.goto 5, 3) := by decide +kernel
theorem dX8_places_67 : decode cX8_places 67 = .ok (.bipush 6, 2) := by decide +kernel
theorem dX8_places_69 : decode cX8_places 69 = .ok (.istore 9, 2) := by decide +kernel
theorem dX8_places_71 : decode cX8_places 71 = .ok (.iload 9, 2) := by decide +kernel
theorem dX8_places_73 : decode cX8_places 73 = .ok (.iload_n 2, 1) := by decide +kernel
theorem dX8_places_74 : decode cX8_places 74 = .ok (.if_icmp .ge 8, 3) := by decide +kernel
theorem dX8_places_77 : decode cX8_places 77 = .ok (.iload 9, 2) := by decide +kernel
theorem dX8_places_79 : decode cX8_places 79 = .ok (.goto 4, 3) := by decide +kernel
theorem dX8_places_82 : decode cX8_places 82 = .ok (.iload_n 2, 1) := by decide +kernel
theorem dX8_places_83 : decode cX8_places 83 = .ok (.istore 9, 2) := by decide +kernel
theorem dX8_places_85 : decode cX8_places 85 = .ok (.iload 8, 2) := by decide +kernel
theorem dX8_places_87 : decode cX8_places 87 = .ok (.iload 9, 2) := by decide +kernel
theorem dX8_places_89 : decode cX8_places 89 = .ok (.iadd, 1) := by decide +kernel
theorem dX8_places_90 : decode cX8_places 90 = .ok (.iconst 1, 1) := by decide +kernel
theorem dX8_places_91 : decode cX8_places 91 = .ok (.isub, 1) := by decide +kernel
theorem dX8_places_92 : decode cX8_places 92 = .ok (.iload 9, 2) := by decide +kernel
theorem dX8_places_94 : decode cX8_places 94 = .ok (.idiv, 1) := by decide +kernel
theorem dX8_places_95 : decode cX8_places 95 = .ok (.istore 10, 2) := by decide +kernel
theorem dX8_places_97 : decode cX8_places 97 = .ok (.iconst (-1), 1) := by decide +kernel
theorem dX8_places_98 : decode cX8_places 98 = .ok (.istore 11, 2) := by decide +kernel
theorem dX8_places_100 : decode cX8_places 100 = .ok (.iconst 0, 1) := by decide +kernel
theorem dX8_places_101 : decode cX8_places 101 = .ok (.istore 12, 2) := by decide +kernel
theorem dX8_places_103 : decode cX8_places 103 = .ok (.iload 11, 2) := by decide +kernel
theorem dX8_places_105 : decode cX8_places 105 = .ok (.iconst (-1), 1) := by decide +kernel
theorem dX8_places_106 : decode cX8_places 106 = .ok (.if_icmp .ne 115, 3) := by decide +kernel
theorem dX8_places_109 : decode cX8_places 109 = .ok (.iload 5, 2) := by decide +kernel
theorem dX8_places_111 : decode cX8_places 111 = .ok (.iconst 1, 1) := by decide +kernel
theorem dX8_places_112 : decode cX8_places 112 = .ok (.iadd, 1) := by decide +kernel
theorem dX8_places_113 : decode cX8_places 113 = .ok (.iload_n 2, 1) := by decide +kernel
theorem dX8_places_114 : decode cX8_places 114 = .ok (.iload_n 3, 1) := by decide +kernel
theorem dX8_places_115 : decode cX8_places 115 = .ok (.imul, 1) := by decide +kernel
theorem dX8_places_116 : decode cX8_places 116 = .ok (.if_icmp .ge 105, 3) := by decide +kernel
theorem dX8_places_119 : decode cX8_places 119 = .ok (.iinc 5 1, 3) := by decide +kernel
theorem dX8_places_122 : decode cX8_places 122 = .ok (.aload_n 0, 1) := by decide +kernel
theorem dX8_places_123 : decode cX8_places 123 = .ok (.iload 4, 2) := by decide +kernel
theorem dX8_places_125 : decode cX8_places 125 = .ok (.invokevirtual 132, 3) := by decide +kernel
theorem dX8_places_128 : decode cX8_places 128 = .ok (.ifCond .eq 19, 3) := by decide +kernel
theorem dX8_places_131 : decode cX8_places 131 = .ok (.iload_n 2, 1) := by decide +kernel
theorem dX8_places_132 : decode cX8_places 132 = .ok (.iconst 1, 1) := by decide +kernel
theorem dX8_places_133 : decode cX8_places 133 = .ok (.isub, 1) := by decide +kernel
theorem dX8_places_134 : decode cX8_places 134 = .ok (.iload 5, 2) := by decide +kernel
theorem dX8_places_136 : decode cX8_places 136 = .ok (.iload_n 2, 1) := by decide +kernel
theorem dX8_places_137 : decode cX8_places 137 = .ok (.irem, 1) := by decide +kernel
theorem dX8_places_138 : decode cX8_places 138 = .ok (.isub, 1) := by decide +kernel
theorem dX8_places_139 : decode cX8_places 139 = .ok (.iload 9, 2) := by decide +kernel
theorem dX8_places_141 : decode cX8_places 141 = .ok (.iconst 1, 1) := by decide +kernel
theorem dX8_places_142 : decode cX8_places 142 = .ok (.isub, 1) := by decide +kernel
theorem dX8_places_143 : decode cX8_places 143 = .ok (.isub, 1) := by decide +kernel
theorem dX8_places_144 : decode cX8_places 144 = .ok (.goto 7, 3) := by decide +kernel
theorem dX8_places_147 : decode cX8_places 147 = .ok (.iload 5, 2) := by decide +kernel
theorem dX8_places_149 : decode cX8_places 149 = .ok (.iload_n 2, 1) := by decide +kernel
theorem dX8_places_150 : decode cX8_places 150 = .ok (.irem, 1) := by decide +kernel
theorem dX8_places_151 : decode cX8_places 151 = .ok (.istore 13, 2) := by decide +kernel
theorem dX8_places_153 : decode cX8_places 153 = .ok (.iload 5, 2) := by decide +kernel
theorem dX8_places_155 : decode cX8_places 155 = .ok (.iload_n 2, 1) := by decide +kernel
theorem dX8_places_156 : decode cX8_places 156 = .ok (.idiv, 1) := by decide +kernel
theorem dX8_places_157 : decode cX8_places 157 = .ok (.istore 12, 2) := by decide +kernel
theorem dX8_places_159 : decode cX8_places 159 = .ok (.iload 13, 2) := by decide +kernel
theorem dX8_places_161 : decode cX8_places 161 = .ok (.ifCond .lt 25, 3) := by decide +kernel
theorem dX8_places_164 : decode cX8_places 164 = .ok (.iload 13, 2) := by decide +kernel
theorem dX8_places_166 : decode cX8_places 166 = .ok (.iload 9, 2) := by decide +kernel
theorem dX8_places_168 : decode cX8_places 168 = .ok (.iadd, 1) := by decide +kernel
theorem dX8_places_169 : decode cX8_places 169 = .ok (.iload_n 2, 1) := by decide +kernel
theorem dX8_places_170 : decode cX8_places 170 = .ok (.if_icmp .gt 16, 3) := by decide +kernel
theorem dX8_places_173 : decode cX8_places 173 = .ok (.iload 12, 2) := by decide +kernel
theorem dX8_places_175 : decode cX8_places 175 = .ok (.iload 10, 2) := by decide +kernel
theorem dX8_places_177 : decode cX8_places 177 = .ok (.iadd, 1) := by decide +kernel
theorem dX8_places_178 : decode cX8_places 178 = .ok (.iload_n 3, 1) := by decide +kernel
theorem dX8_places_179 : decode cX8_places 179 = .ok (.if_icmp .gt 7, 3) := by decide +kernel
theorem dX8_places_182 : decode cX8_places 182 = .ok (.iconst 1, 1) := by decide +kernel
theorem dX8_places_183 : decode cX8_places 183 = .ok (.goto 4, 3) := by decide +kernel
theorem dX8_places_186 : decode cX8_places 186 = .ok (.iconst 0, 1) := by decide +kernel
theorem dX8_places_187 : decode cX8_places 187 = .ok (.istore 14, 2) := by decide +kernel
theorem dX8_places_189 : decode cX8_places 189 = .ok (.iload 14, 2) := by decide +kernel
theorem dX8_places_191 : decode cX8_places 191 = .ok (.ifCond .eq 24, 3) := by decide +kernel
theorem dX8_places_194 : decode cX8_places 194 = .ok (.aload_n 0, 1) := by decide +kernel
theorem dX8_places_195 : decode cX8_places 195 = .ok (.iload_n 2, 1) := by decide +kernel
theorem dX8_places_196 : decode cX8_places 196 = .ok (.iload 13, 2) := by decide +kernel
theorem dX8_places_198 : decode cX8_places 198 = .ok (.iload 12, 2) := by decide +kernel
theorem dX8_places_200 : decode cX8_places 200 = .ok (.iload 9, 2) := by decide +kernel
theorem dX8_places_202 : decode cX8_places 202 = .ok (.iload 10, 2) := by decide +kernel
theorem dX8_places_204 : decode cX8_places 204 = .ok (.invokevirtual 136, 3) := by decide +kernel
theorem dX8_places_207 : decode cX8_places 207 = .ok (.ifCond .eq 8, 3) := by decide +kernel
theorem dX8_places_210 : decode cX8_places 210 = .ok (.iload 13, 2) := by decide +kernel
theorem dX8_places_212 : decode cX8_places 212 = .ok (.goto 4, 3) := by decide +kernel
theorem dX8_places_215 : decode cX8_places 215 = .ok (.iconst (-1), 1) := by decide +kernel
theorem dX8_places_216 : decode cX8_places 216 = .ok (.istore 11, 2) := by decide +kernel
theorem dX8_places_218 : decode cX8_places 218 = .ok (.goto (-115), 3) := by decide +kernel
theorem dX8_places_221 : decode cX8_places 221 = .ok (.iload 11, 2) := by decide +kernel
theorem dX8_places_223 : decode cX8_places 223 = .ok (.iconst (-1), 1) := by decide +kernel
theorem dX8_places_224 : decode cX8_places 224 = .ok (.if_icmp .ne 5, 3) := by decide +kernel
theorem dX8_places_227 : decode cX8_places 227 = .ok (.iconst 0, 1) := by decide +kernel
theorem dX8_places_228 : decode cX8_places 228 = .ok (.ireturn, 1) := by decide +kernel
theorem dX8_places_229 : decode cX8_places 229 = .ok (.iconst 0, 1) := by decide +kernel
theorem dX8_places_230 : decode cX8_places 230 = .ok (.istore 13, 2) := by decide +kernel
theorem dX8_places_232 : decode cX8_places 232 = .ok (.iload 13, 2) := by decide +kernel
theorem dX8_places_234 : decode cX8_places 234 = .ok (.iload 9, 2) := by decide +kernel
theorem dX8_places_236 : decode cX8_places 236 = .ok (.iload 10, 2) := by decide +kernel
theorem dX8_places_238 : decode cX8_places 238 = .ok (.imul, 1) := by decide +kernel
theorem dX8_places_239 : decode cX8_places 239 = .ok (.if_icmp .ge 35, 3) := by decide +kernel
theorem dX8_places_242 : decode cX8_places 242 = .ok (.aload_n 0, 1) := by decide +kernel
theorem dX8_places_243 : decode cX8_places 243 = .ok (.getfield 65, 3) := by decide +kernel
theorem dX8_places_246 : decode cX8_places 246 = .ok (.iload_n 2, 1) := by decide +kernel
theorem dX8_places_247 : decode cX8_places 247 = .ok (.iload 12, 2) := by decide +kernel
theorem dX8_places_249 : decode cX8_places 249 = .ok (.iload 13, 2) := by decide +kernel
theorem dX8_places_251 : decode cX8_places 251 = .ok (.iload 9, 2) := by decide +kernel
theorem dX8_places_253 : decode cX8_places 253 = .ok (.idiv, 1) := by decide +kernel
theorem dX8_places_254 : decode cX8_places 254 = .ok (.iadd, 1) := by decide +kernel
theorem dX8_places_255 : decode cX8_places 255 = .ok (.imul, 1) := by decide +kernel
theorem dX8_places_256 : decode cX8_places 256 = .ok (.iload 11, 2) := by decide +kernel
theorem dX8_places_258 : decode cX8_places 258 = .ok (.iadd, 1) := by decide +kernel
theorem dX8_places_259 : decode cX8_places 259 = .ok (.iload 13, 2) := by decide +kernel
theorem dX8_places_261 : decode cX8_places 261 = .ok (.iload 9, 2) := by decide +kernel
theorem dX8_places_263 : decode cX8_places 263 = .ok (.irem, 1) := by decide +kernel
theorem dX8_places_264 : decode cX8_places 264 = .ok (.iadd, 1) := by decide +kernel
theorem dX8_places_265 : decode cX8_places 265 = .ok (.iload 7, 2) := by decide +kernel
theorem dX8_places_267 : decode cX8_places 267 = .ok (.iastore, 1) := by decide +kernel
theorem dX8_places_268 : decode cX8_places 268 = .ok (.iinc 13 1, 3) := by decide +kernel
theorem dX8_places_271 : decode cX8_places 271 = .ok (.goto (-39), 3) := by decide +kernel
theorem dX8_places_274 : decode cX8_places 274 = .ok (.aload_n 0, 1) := by decide +kernel
theorem dX8_places_275 : decode cX8_places 275 = .ok (.getfield 62, 3) := by decide +kernel
theorem dX8_places_278 : decode cX8_places 278 = .ok (.iconst 4, 1) := by decide +kernel
theorem dX8_places_279 : decode cX8_places 279 = .ok (.iload 7, 2) := by decide +kernel
theorem dX8_places_281 : decode cX8_places 281 = .ok (.imul, 1) := by decide +kernel
theorem dX8_places_282 : decode cX8_places 282 = .ok (.iload 11, 2) := by decide +kernel
theorem dX8_places_284 : decode cX8_places 284 = .ok (.iastore, 1) := by decide +kernel
theorem dX8_places_285 : decode cX8_places 285 = .ok (.aload_n 0, 1) := by decide +kernel
theorem dX8_places_286 : decode cX8_places 286 = .ok (.getfield 62, 3) := by decide +kernel
theorem dX8_places_289 : decode cX8_places 289 = .ok (.iconst 4, 1) := by decide +kernel
theorem dX8_places_290 : decode cX8_places 290 = .ok (.iload 7, 2) := by decide +kernel
theorem dX8_places_292 : decode cX8_places 292 = .ok (.imul, 1) := by decide +kernel
theorem dX8_places_293 : decode cX8_places 293 = .ok (.iconst 1, 1) := by decide +kernel
theorem dX8_places_294 : decode cX8_places 294 = .ok (.iadd, 1) := by decide +kernel
theorem dX8_places_295 : decode cX8_places 295 = .ok (.iload 12, 2) := by decide +kernel
theorem dX8_places_297 : decode cX8_places 297 = .ok (.iastore, 1) := by decide +kernel
theorem dX8_places_298 : decode cX8_places 298 = .ok (.aload_n 0, 1) := by decide +kernel
theorem dX8_places_299 : decode cX8_places 299 = .ok (.getfield 62, 3) := by decide +kernel
theorem dX8_places_302 : decode cX8_places 302 = .ok (.iconst 4, 1) := by decide +kernel
theorem dX8_places_303 : decode cX8_places 303 = .ok (.iload 7, 2) := by decide +kernel
theorem dX8_places_305 : decode cX8_places 305 = .ok (.imul, 1) := by decide +kernel
theorem dX8_places_306 : decode cX8_places 306 = .ok (.iconst 2, 1) := by decide +kernel
theorem dX8_places_307 : decode cX8_places 307 = .ok (.iadd, 1) := by decide +kernel
theorem dX8_places_308 : decode cX8_places 308 = .ok (.iload 9, 2) := by decide +kernel
theorem dX8_places_310 : decode cX8_places 310 = .ok (.iastore, 1) := by decide +kernel
theorem dX8_places_311 : decode cX8_places 311 = .ok (.aload_n 0, 1) := by decide +kernel
theorem dX8_places_312 : decode cX8_places 312 = .ok (.getfield 62, 3) := by decide +kernel
theorem dX8_places_315 : decode cX8_places 315 = .ok (.iconst 4, 1) := by decide +kernel
theorem dX8_places_316 : decode cX8_places 316 = .ok (.iload 7, 2) := by decide +kernel
theorem dX8_places_318 : decode cX8_places 318 = .ok (.imul, 1) := by decide +kernel
theorem dX8_places_319 : decode cX8_places 319 = .ok (.iconst 3, 1) := by decide +kernel
theorem dX8_places_320 : decode cX8_places 320 = .ok (.iadd, 1) := by decide +kernel
theorem dX8_places_321 : decode cX8_places 321 = .ok (.iload 10, 2) := by decide +kernel
theorem dX8_places_323 : decode cX8_places 323 = .ok (.iastore, 1) := by decide +kernel
theorem dX8_places_324 : decode cX8_places 324 = .ok (.iinc 6 1, 3) := by decide +kernel
theorem dX8_places_327 : decode cX8_places 327 = .ok (.goto (-306), 3) := by decide +kernel
theorem dX8_places_330 : decode cX8_places 330 = .ok (.iconst 1, 1) := by decide +kernel
theorem dX8_places_331 : decode cX8_places 331 = .ok (.ireturn, 1) := by decide +kernel
theorem dX8_rank_0 : decode cX8_rank 0 = .ok (.aload_n 0, 1) := by decide +kernel
theorem dX8_rank_1 : decode cX8_rank 1 = .ok (.getfield 26, 3) := by decide +kernel
theorem dX8_rank_4 : decode cX8_rank 4 = .ok (.iload_n 1, 1) := by decide +kernel
theorem dX8_rank_5 : decode cX8_rank 5 = .ok (.iaload, 1) := by decide +kernel
theorem dX8_rank_6 : decode cX8_rank 6 = .ok (.istore_n 2, 1) := by decide +kernel
theorem dX8_rank_7 : decode cX8_rank 7 = .ok (.bipush 8, 2) := by decide +kernel
theorem dX8_rank_9 : decode cX8_rank 9 = .ok (.iload_n 2, 1) := by decide +kernel
theorem dX8_rank_10 : decode cX8_rank 10 = .ok (.imul, 1) := by decide +kernel
theorem dX8_rank_11 : decode cX8_rank 11 = .ok (.aload_n 0, 1) := by decide +kernel
theorem dX8_rank_12 : decode cX8_rank 12 = .ok (.getfield 16, 3) := by decide +kernel
theorem dX8_rank_15 : decode cX8_rank 15 = .ok (.bipush 8, 2) := by decide +kernel
theorem dX8_rank_17 : decode cX8_rank 17 = .ok (.iload_n 2, 1) := by decide +kernel
theorem dX8_rank_18 : decode cX8_rank 18 = .ok (.imul, 1) := by decide +kernel
theorem dX8_rank_19 : decode cX8_rank 19 = .ok (.iload_n 1, 1) := by decide +kernel
theorem dX8_rank_20 : decode cX8_rank 20 = .ok (.invokestatic 150, 3) := by decide +kernel
theorem dX8_rank_23 : decode cX8_rank 23 = .ok (.iadd, 1) := by decide +kernel
theorem dX8_rank_24 : decode cX8_rank 24 = .ok (.ireturn, 1) := by decide +kernel
theorem dX8_read_0 : decode cX8_read 0 = .ok (.iconst (-1), 1) := by decide +kernel
theorem dX8_read_1 : decode cX8_read 1 = .ok (.istore_n 2, 1) := by decide +kernel
theorem dX8_read_2 : decode cX8_read 2 = .ok (.iconst 0, 1) := by decide +kernel
theorem dX8_read_3 : decode cX8_read 3 = .ok (.istore_n 3, 1) := by decide +kernel
theorem dX8_read_4 : decode cX8_read 4 = .ok (.iload_n 3, 1) := by decide +kernel
theorem dX8_read_5 : decode cX8_read 5 = .ok (.aload_n 0, 1) := by decide +kernel
theorem dX8_read_6 : decode cX8_read 6 = .ok (.getfield 121, 3) := by decide +kernel
theorem dX8_read_9 : decode cX8_read 9 = .ok (.if_icmp .ge 34, 3) := by decide +kernel
theorem dX8_read_12 : decode cX8_read 12 = .ok (.aload_n 0, 1) := by decide +kernel
theorem dX8_read_13 : decode cX8_read 13 = .ok (.getfield 50, 3) := by decide +kernel
theorem dX8_read_16 : decode cX8_read 16 = .ok (.iload_n 3, 1) := by decide +kernel
theorem dX8_read_17 : decode cX8_read 17 = .ok (.iaload, 1) := by decide +kernel
theorem dX8_read_18 : decode cX8_read 18 = .ok (.iconst (-1), 1) := by decide +kernel
theorem dX8_read_19 : decode cX8_read 19 = .ok (.if_icmp .eq 16, 3) := by decide +kernel
theorem dX8_read_22 : decode cX8_read 22 = .ok (.aload_n 0, 1) := by decide +kernel
theorem dX8_read_23 : decode cX8_read 23 = .ok (.iload_n 3, 1) := by decide +kernel
theorem dX8_read_24 : decode cX8_read 24 = .ok (.invokevirtual 208, 3) := by decide +kernel
theorem dX8_read_27 : decode cX8_read 27 = .ok (.iload_n 1, 1) := by decide +kernel
theorem dX8_read_28 : decode cX8_read 28 = .ok (.if_icmp .ne 7, 3) := by decide +kernel
theorem dX8_read_31 : decode cX8_read 31 = .ok (.iload_n 3, 1) := by decide +kernel
theorem dX8_read_32 : decode cX8_read 32 = .ok (.goto 4, 3) := by decide +kernel
theorem dX8_read_35 : decode cX8_read 35 = .ok (.iload_n 2, 1) := by decide +kernel
theorem dX8_read_36 : decode cX8_read 36 = .ok (.istore_n 2, 1) := by decide +kernel
theorem dX8_read_37 : decode cX8_read 37 = .ok (.iinc 3 1, 3) := by decide +kernel
theorem dX8_read_40 : decode cX8_read 40 = .ok (.goto (-36), 3) := by decide +kernel
theorem dX8_read_43 : decode cX8_read 43 = .ok (.aload_n 0, 1) := by decide +kernel
theorem dX8_read_44 : decode cX8_read 44 = .ok (.iload_n 2, 1) := by decide +kernel
theorem dX8_read_45 : decode cX8_read 45 = .ok (.iconst (-1), 1) := by decide +kernel
theorem dX8_read_46 : decode cX8_read 46 = .ok (.if_icmp .ne 7, 3) := by decide +kernel
theorem dX8_read_49 : decode cX8_read 49 = .ok (.iconst 1, 1) := by decide +kernel
theorem dX8_read_50 : decode cX8_read 50 = .ok (.goto 4, 3) := by decide +kernel
theorem dX8_read_53 : decode cX8_read 53 = .ok (.iconst 0, 1) := by decide +kernel
theorem dX8_read_54 : decode cX8_read 54 = .ok (.putfield 108, 3) := by decide +kernel
theorem dX8_read_57 : decode cX8_read 57 = .ok (.aload_n 0, 1) := by decide +kernel
theorem dX8_read_58 : decode cX8_read 58 = .ok (.getfield 108, 3) := by decide +kernel
theorem dX8_read_61 : decode cX8_read 61 = .ok (.ifCond .le 7, 3) := by decide +kernel
theorem dX8_read_64 : decode cX8_read 64 = .ok (.iconst 0, 1) := by decide +kernel
theorem dX8_read_65 : decode cX8_read 65 = .ok (.goto 4, 3) := by decide +kernel
theorem dX8_read_68 : decode cX8_read 68 = .ok (.iload_n 2, 1) := by decide +kernel
theorem dX8_read_69 : decode cX8_read 69 = .ok (.ireturn, 1) := by decide +kernel
theorem dX8_removes_0 : decode cX8_removes 0 = .ok (.iload_n 3, 1) := by decide +kernel
theorem dX8_removes_1 : decode cX8_removes 1 = .ok (.istore 4, 2) := by decide +kernel
theorem dX8_removes_3 : decode cX8_removes 3 = .ok (.iload 4, 2) := by decide +kernel
theorem dX8_removes_5 : decode cX8_removes 5 = .ok (.iload_n 2, 1) := by decide +kernel
theorem dX8_removes_6 : decode cX8_removes 6 = .ok (.iconst 1, 1) := by decide +kernel
theorem dX8_removes_7 : decode cX8_removes 7 = .ok (.isub, 1) := by decide +kernel
theorem dX8_removes_8 : decode cX8_removes 8 = .ok (.if_icmp .ge 23, 3) := by decide +kernel
theorem dX8_removes_11 : decode cX8_removes 11 = .ok (.aload_n 0, 1) := by decide +kernel
theorem dX8_removes_12 : decode cX8_removes 12 = .ok (.iload_n 1, 1) := by decide +kernel
theorem dX8_removes_13 : decode cX8_removes 13 = .ok (.iload 4, 2) := by decide +kernel
theorem dX8_removes_15 : decode cX8_removes 15 = .ok (.iadd, 1) := by decide +kernel
theorem dX8_removes_16 : decode cX8_removes 16 = .ok (.aload_n 0, 1) := by decide +kernel
theorem dX8_removes_17 : decode cX8_removes 17 = .ok (.iload_n 1, 1) := by decide +kernel
theorem dX8_removes_18 : decode cX8_removes 18 = .ok (.iload 4, 2) := by decide +kernel
theorem dX8_removes_20 : decode cX8_removes 20 = .ok (.iadd, 1) := by decide +kernel
theorem dX8_removes_21 : decode cX8_removes 21 = .ok (.iconst 1, 1) := by decide +kernel
theorem dX8_removes_22 : decode cX8_removes 22 = .ok (.iadd, 1) := by decide +kernel
theorem dX8_removes_23 : decode cX8_removes 23 = .ok (.iaload, 1) := by decide +kernel
theorem dX8_removes_24 : decode cX8_removes 24 = .ok (.iastore, 1) := by decide +kernel
theorem dX8_removes_25 : decode cX8_removes 25 = .ok (.iinc 4 1, 3) := by decide +kernel
theorem dX8_removes_28 : decode cX8_removes 28 = .ok (.goto (-25), 3) := by decide +kernel
theorem dX8_removes_31 : decode cX8_removes 31 = .ok (.return_, 1) := by decide +kernel
theorem dX8_rows_0 : decode cX8_rows 0 = .ok (.aload_n 0, 1) := by decide +kernel
theorem dX8_rows_1 : decode cX8_rows 1 = .ok (.iconst 0, 1) := by decide +kernel
theorem dX8_rows_2 : decode cX8_rows 2 = .ok (.putfield 108, 3) := by decide +kernel
theorem dX8_rows_5 : decode cX8_rows 5 = .ok (.aload_n 0, 1) := by decide +kernel
theorem dX8_rows_6 : decode cX8_rows 6 = .ok (.iload_n 1, 1) := by decide +kernel
theorem dX8_rows_7 : decode cX8_rows 7 = .ok (.invokevirtual 173, 3) := by decide +kernel
theorem dX8_rows_10 : decode cX8_rows 10 = .ok (.ifCond .eq 12, 3) := by decide +kernel
theorem dX8_rows_13 : decode cX8_rows 13 = .ok (.aload_n 0, 1) := by decide +kernel
theorem dX8_rows_14 : decode cX8_rows 14 = .ok (.getfield 68, 3) := by decide +kernel
theorem dX8_rows_17 : decode cX8_rows 17 = .ok (.iload_n 1, 1) := by decide +kernel
theorem dX8_rows_18 : decode cX8_rows 18 = .ok (.iaload, 1) := by decide +kernel
theorem dX8_rows_19 : decode cX8_rows 19 = .ok (.goto 8, 3) := by decide +kernel
theorem dX8_rows_22 : decode cX8_rows 22 = .ok (.aload_n 0, 1) := by decide +kernel
theorem dX8_rows_23 : decode cX8_rows 23 = .ok (.iconst 1, 1) := by decide +kernel
theorem dX8_rows_24 : decode cX8_rows 24 = .ok (.invokevirtual 176, 3) := by decide +kernel
theorem dX8_rows_27 : decode cX8_rows 27 = .ok (.ireturn, 1) := by decide +kernel
theorem dX8_setGrowth_0 : decode cX8_setGrowth 0 = .ok (.aload_n 0, 1) := by decide +kernel
theorem dX8_setGrowth_1 : decode cX8_setGrowth 1 = .ok (.iload_n 1, 1) := by decide +kernel
theorem dX8_setGrowth_2 : decode cX8_setGrowth 2 = .ok (.iconst 0, 1) := by decide +kernel
theorem dX8_setGrowth_3 : decode cX8_setGrowth 3 = .ok (.iconst 2, 1) := by decide +kernel
theorem dX8_setGrowth_4 : decode cX8_setGrowth 4 = .ok (.invokestatic 114, 3) := by decide +kernel
theorem dX8_setGrowth_7 : decode cX8_setGrowth 7 = .ok (.ifCond .eq 19, 3) := by decide +kernel
theorem dX8_setGrowth_10 : decode cX8_setGrowth 10 = .ok (.iload_n 2, 1) := by decide +kernel
theorem dX8_setGrowth_11 : decode cX8_setGrowth 11 = .ok (.bipush 50, 2) := by decide +kernel
theorem dX8_setGrowth_13 : decode cX8_setGrowth 13 = .ok (.sipush 250, 3) := by decide +kernel
theorem dX8_setGrowth_16 : decode cX8_setGrowth 16 = .ok (.invokestatic 114, 3) := by decide +kernel
theorem dX8_setGrowth_19 : decode cX8_setGrowth 19 = .ok (.ifCond .eq 7, 3) := by decide +kernel
theorem dX8_setGrowth_22 : decode cX8_setGrowth 22 = .ok (.iconst 0, 1) := by decide +kernel
theorem dX8_setGrowth_23 : decode cX8_setGrowth 23 = .ok (.goto 4, 3) := by decide +kernel
theorem dX8_setGrowth_26 : decode cX8_setGrowth 26 = .ok (.iconst 1, 1) := by decide +kernel
theorem dX8_setGrowth_27 : decode cX8_setGrowth 27 = .ok (.putfield 108, 3) := by decide +kernel
theorem dX8_setGrowth_30 : decode cX8_setGrowth 30 = .ok (.aload_n 0, 1) := by decide +kernel
theorem dX8_setGrowth_31 : decode cX8_setGrowth 31 = .ok (.getfield 108, 3) := by decide +kernel
theorem dX8_setGrowth_34 : decode cX8_setGrowth 34 = .ok (.ifCond .le 5, 3) := by decide +kernel
theorem dX8_setGrowth_37 : decode cX8_setGrowth 37 = .ok (.iconst 0, 1) := by decide +kernel
theorem dX8_setGrowth_38 : decode cX8_setGrowth 38 = .ok (.ireturn, 1) := by decide +kernel
theorem dX8_setGrowth_39 : decode cX8_setGrowth 39 = .ok (.aload_n 0, 1) := by decide +kernel
theorem dX8_setGrowth_40 : decode cX8_setGrowth 40 = .ok (.invokevirtual 179, 3) := by decide +kernel
theorem dX8_setGrowth_43 : decode cX8_setGrowth 43 = .ok (.aload_n 0, 1) := by decide +kernel
theorem dX8_setGrowth_44 : decode cX8_setGrowth 44 = .ok (.getfield 23, 3) := by decide +kernel
theorem dX8_setGrowth_47 : decode cX8_setGrowth 47 = .ok (.iload_n 1, 1) := by decide +kernel
theorem dX8_setGrowth_48 : decode cX8_setGrowth 48 = .ok (.iload_n 2, 1) := by decide +kernel
theorem dX8_setGrowth_49 : decode cX8_setGrowth 49 = .ok (.iastore, 1) := by decide +kernel
theorem dX8_setGrowth_50 : decode cX8_setGrowth 50 = .ok (.aload_n 0, 1) := by decide +kernel
theorem dX8_setGrowth_51 : decode cX8_setGrowth 51 = .ok (.aload_n 0, 1) := by decide +kernel
theorem dX8_setGrowth_52 : decode cX8_setGrowth 52 = .ok (.invokevirtual 186, 3) := by decide +kernel
theorem dX8_setGrowth_55 : decode cX8_setGrowth 55 = .ok (.ifCond .eq 7, 3) := by decide +kernel
theorem dX8_setGrowth_58 : decode cX8_setGrowth 58 = .ok (.iconst 0, 1) := by decide +kernel
theorem dX8_setGrowth_59 : decode cX8_setGrowth 59 = .ok (.goto 4, 3) := by decide +kernel
theorem dX8_setGrowth_62 : decode cX8_setGrowth 62 = .ok (.iconst 2, 1) := by decide +kernel
theorem dX8_setGrowth_63 : decode cX8_setGrowth 63 = .ok (.putfield 108, 3) := by decide +kernel
theorem dX8_setGrowth_66 : decode cX8_setGrowth 66 = .ok (.aload_n 0, 1) := by decide +kernel
theorem dX8_setGrowth_67 : decode cX8_setGrowth 67 = .ok (.getfield 108, 3) := by decide +kernel
theorem dX8_setGrowth_70 : decode cX8_setGrowth 70 = .ok (.ifCond .le 7, 3) := by decide +kernel
theorem dX8_setGrowth_73 : decode cX8_setGrowth 73 = .ok (.iconst 0, 1) := by decide +kernel
theorem dX8_setGrowth_74 : decode cX8_setGrowth 74 = .ok (.goto 8, 3) := by decide +kernel
theorem dX8_setGrowth_77 : decode cX8_setGrowth 77 = .ok (.aload_n 0, 1) := by decide +kernel
theorem dX8_setGrowth_78 : decode cX8_setGrowth 78 = .ok (.iconst (-1), 1) := by decide +kernel
theorem dX8_setGrowth_79 : decode cX8_setGrowth 79 = .ok (.invokevirtual 196, 3) := by decide +kernel
theorem dX8_setGrowth_82 : decode cX8_setGrowth 82 = .ok (.ireturn, 1) := by decide +kernel
theorem dX8_sheet_0 : decode cX8_sheet 0 = .ok (.aload_n 0, 1) := by decide +kernel
theorem dX8_sheet_1 : decode cX8_sheet 1 = .ok (.aload_n 0, 1) := by decide +kernel
theorem dX8_sheet_2 : decode cX8_sheet 2 = .ok (.iload_n 1, 1) := by decide +kernel
theorem dX8_sheet_3 : decode cX8_sheet 3 = .ok (.invokevirtual 173, 3) := by decide +kernel
theorem dX8_sheet_6 : decode cX8_sheet 6 = .ok (.ifCond .ne 7, 3) := by decide +kernel
theorem dX8_sheet_9 : decode cX8_sheet 9 = .ok (.iconst 1, 1) := by decide +kernel
theorem dX8_sheet_10 : decode cX8_sheet 10 = .ok (.goto 15, 3) := by decide +kernel
theorem dX8_sheet_13 : decode cX8_sheet 13 = .ok (.iload_n 2, 1) := by decide +kernel
theorem dX8_sheet_14 : decode cX8_sheet 14 = .ok (.invokestatic 218, 3) := by decide +kernel
theorem dX8_sheet_17 : decode cX8_sheet 17 = .ok (.ifCond .eq 7, 3) := by decide +kernel
theorem dX8_sheet_20 : decode cX8_sheet 20 = .ok (.iconst 0, 1) := by decide +kernel
theorem dX8_sheet_21 : decode cX8_sheet 21 = .ok (.goto 4, 3) := by decide +kernel
theorem dX8_sheet_24 : decode cX8_sheet 24 = .ok (.iconst 2, 1) := by decide +kernel
theorem dX8_sheet_25 : decode cX8_sheet 25 = .ok (.putfield 108, 3) := by decide +kernel
theorem dX8_sheet_28 : decode cX8_sheet 28 = .ok (.aload_n 0, 1) := by decide +kernel
theorem dX8_sheet_29 : decode cX8_sheet 29 = .ok (.getfield 108, 3) := by decide +kernel
theorem dX8_sheet_32 : decode cX8_sheet 32 = .ok (.ifCond .le 5, 3) := by decide +kernel
theorem dX8_sheet_35 : decode cX8_sheet 35 = .ok (.iconst 0, 1) := by decide +kernel
theorem dX8_sheet_36 : decode cX8_sheet 36 = .ok (.ireturn, 1) := by decide +kernel
theorem dX8_sheet_37 : decode cX8_sheet 37 = .ok (.aload_n 0, 1) := by decide +kernel
theorem dX8_sheet_38 : decode cX8_sheet 38 = .ok (.iload_n 1, 1) := by decide +kernel
theorem dX8_sheet_39 : decode cX8_sheet 39 = .ok (.iload_n 2, 1) := by decide +kernel
theorem dX8_sheet_40 : decode cX8_sheet 40 = .ok (.invokevirtual 221, 3) := by decide +kernel
theorem dX8_sheet_43 : decode cX8_sheet 43 = .ok (.iload_n 2, 1) := by decide +kernel
theorem dX8_sheet_44 : decode cX8_sheet 44 = .ok (.irem, 1) := by decide +kernel
theorem dX8_sheet_45 : decode cX8_sheet 45 = .ok (.istore_n 3, 1) := by decide +kernel
theorem dX8_sheet_46 : decode cX8_sheet 46 = .ok (.iload_n 2, 1) := by decide +kernel
theorem dX8_sheet_47 : decode cX8_sheet 47 = .ok (.iconst 1, 1) := by decide +kernel
theorem dX8_sheet_48 : decode cX8_sheet 48 = .ok (.isub, 1) := by decide +kernel
theorem dX8_sheet_49 : decode cX8_sheet 49 = .ok (.iload_n 3, 1) := by decide +kernel
theorem dX8_sheet_50 : decode cX8_sheet 50 = .ok (.isub, 1) := by decide +kernel
theorem dX8_sheet_51 : decode cX8_sheet 51 = .ok (.istore 4, 2) := by decide +kernel
theorem dX8_sheet_53 : decode cX8_sheet 53 = .ok (.iload_n 3, 1) := by decide +kernel
theorem dX8_sheet_54 : decode cX8_sheet 54 = .ok (.iload 4, 2) := by decide +kernel
theorem dX8_sheet_56 : decode cX8_sheet 56 = .ok (.if_icmp .ge 7, 3) := by decide +kernel
theorem dX8_sheet_59 : decode cX8_sheet 59 = .ok (.iload_n 3, 1) := by decide +kernel
theorem dX8_sheet_60 : decode cX8_sheet 60 = .ok (.goto 5, 3) := by decide +kernel
theorem dX8_sheet_63 : decode cX8_sheet 63 = .ok (.iload 4, 2) := by decide +kernel
theorem dX8_sheet_65 : decode cX8_sheet 65 = .ok (.ireturn, 1) := by decide +kernel
theorem dX8_spread_0 : decode cX8_spread 0 = .ok (.aload_n 0, 1) := by decide +kernel
theorem dX8_spread_1 : decode cX8_spread 1 = .ok (.aload_n 0, 1) := by decide +kernel
theorem dX8_spread_2 : decode cX8_spread 2 = .ok (.iload_n 1, 1) := by decide +kernel
theorem dX8_spread_3 : decode cX8_spread 3 = .ok (.invokevirtual 173, 3) := by decide +kernel
theorem dX8_spread_6 : decode cX8_spread 6 = .ok (.ifCond .eq 17, 3) := by decide +kernel
theorem dX8_spread_9 : decode cX8_spread 9 = .ok (.aload_n 0, 1) := by decide +kernel
theorem dX8_spread_10 : decode cX8_spread 10 = .ok (.iload_n 1, 1) := by decide +kernel
theorem dX8_spread_11 : decode cX8_spread 11 = .ok (.iconst 1, 1) := by decide +kernel
theorem dX8_spread_12 : decode cX8_spread 12 = .ok (.iadd, 1) := by decide +kernel
theorem dX8_spread_13 : decode cX8_spread 13 = .ok (.invokevirtual 173, 3) := by decide +kernel
theorem dX8_spread_16 : decode cX8_spread 16 = .ok (.ifCond .eq 7, 3) := by decide +kernel
theorem dX8_spread_19 : decode cX8_spread 19 = .ok (.iconst 0, 1) := by decide +kernel
theorem dX8_spread_20 : decode cX8_spread 20 = .ok (.goto 4, 3) := by decide +kernel
theorem dX8_spread_23 : decode cX8_spread 23 = .ok (.iconst 1, 1) := by decide +kernel
theorem dX8_spread_24 : decode cX8_spread 24 = .ok (.putfield 108, 3) := by decide +kernel
theorem dX8_spread_27 : decode cX8_spread 27 = .ok (.aload_n 0, 1) := by decide +kernel
theorem dX8_spread_28 : decode cX8_spread 28 = .ok (.getfield 108, 3) := by decide +kernel
theorem dX8_spread_31 : decode cX8_spread 31 = .ok (.ifCond .le 5, 3) := by decide +kernel
theorem dX8_spread_34 : decode cX8_spread 34 = .ok (.iconst 0, 1) := by decide +kernel
theorem dX8_spread_35 : decode cX8_spread 35 = .ok (.ireturn, 1) := by decide +kernel
theorem dX8_spread_36 : decode cX8_spread 36 = .ok (.iload_n 1, 1) := by decide +kernel
theorem dX8_spread_37 : decode cX8_spread 37 = .ok (.ifCond .le 14, 3) := by decide +kernel
theorem dX8_spread_40 : decode cX8_spread 40 = .ok (.aload_n 0, 1) := by decide +kernel
theorem dX8_spread_41 : decode cX8_spread 41 = .ok (.getfield 19, 3) := by decide +kernel
theorem dX8_spread_44 : decode cX8_spread 44 = .ok (.iload_n 1, 1) := by decide +kernel
theorem dX8_spread_45 : decode cX8_spread 45 = .ok (.iconst 1, 1) := by decide +kernel
theorem dX8_spread_46 : decode cX8_spread 46 = .ok (.isub, 1) := by decide +kernel
theorem dX8_spread_47 : decode cX8_spread 47 = .ok (.baload, 1) := by decide +kernel
theorem dX8_spread_48 : decode cX8_spread 48 = .ok (.ifCond .ne 14, 3) := by decide +kernel
theorem dX8_spread_51 : decode cX8_spread 51 = .ok (.aload_n 0, 1) := by decide +kernel
theorem dX8_spread_52 : decode cX8_spread 52 = .ok (.getfield 19, 3) := by decide +kernel
theorem dX8_spread_55 : decode cX8_spread 55 = .ok (.iload_n 1, 1) := by decide +kernel
theorem dX8_spread_56 : decode cX8_spread 56 = .ok (.iconst 1, 1) := by decide +kernel
theorem dX8_spread_57 : decode cX8_spread 57 = .ok (.iadd, 1) := by decide +kernel
theorem dX8_spread_58 : decode cX8_spread 58 = .ok (.baload, 1) := by decide +kernel
theorem dX8_spread_59 : decode cX8_spread 59 = .ok (.ifCond .eq 7, 3) := by decide +kernel
theorem dX8_spread_62 : decode cX8_spread 62 = .ok (.iconst 1, 1) := by decide +kernel
theorem dX8_spread_63 : decode cX8_spread 63 = .ok (.goto 4, 3) := by decide +kernel
theorem dX8_spread_66 : decode cX8_spread 66 = .ok (.iconst 0, 1) := by decide +kernel
theorem dX8_spread_67 : decode cX8_spread 67 = .ok (.istore_n 2, 1) := by decide +kernel
theorem dX8_spread_68 : decode cX8_spread 68 = .ok (.aload_n 0, 1) := by decide +kernel
theorem dX8_spread_69 : decode cX8_spread 69 = .ok (.getfield 19, 3) := by decide +kernel
theorem dX8_spread_72 : decode cX8_spread 72 = .ok (.iload_n 1, 1) := by decide +kernel
theorem dX8_spread_73 : decode cX8_spread 73 = .ok (.baload, 1) := by decide +kernel
theorem dX8_spread_74 : decode cX8_spread 74 = .ok (.ifCond .ne 14, 3) := by decide +kernel
theorem dX8_spread_77 : decode cX8_spread 77 = .ok (.iload_n 2, 1) := by decide +kernel
theorem dX8_spread_78 : decode cX8_spread 78 = .ok (.ifCond .eq 10, 3) := by decide +kernel
theorem dX8_spread_81 : decode cX8_spread 81 = .ok (.aload_n 0, 1) := by decide +kernel
theorem dX8_spread_82 : decode cX8_spread 82 = .ok (.iconst 2, 1) := by decide +kernel
theorem dX8_spread_83 : decode cX8_spread 83 = .ok (.putfield 108, 3) := by decide +kernel
theorem dX8_spread_86 : decode cX8_spread 86 = .ok (.iconst 0, 1) := by decide +kernel
theorem dX8_spread_87 : decode cX8_spread 87 = .ok (.ireturn, 1) := by decide +kernel
theorem dX8_spread_88 : decode cX8_spread 88 = .ok (.aload_n 0, 1) := by decide +kernel
theorem dX8_spread_89 : decode cX8_spread 89 = .ok (.getfield 19, 3) := by decide +kernel
theorem dX8_spread_92 : decode cX8_spread 92 = .ok (.iload_n 1, 1) := by decide +kernel
theorem dX8_spread_93 : decode cX8_spread 93 = .ok (.aload_n 0, 1) := by decide +kernel
theorem dX8_spread_94 : decode cX8_spread 94 = .ok (.getfield 19, 3) := by decide +kernel
theorem dX8_spread_97 : decode cX8_spread 97 = .ok (.iload_n 1, 1) := by decide +kernel
theorem dX8_spread_98 : decode cX8_spread 98 = .ok (.baload, 1) := by decide +kernel
theorem dX8_spread_99 : decode cX8_spread 99 = .ok (.ifCond .ne 7, 3) := by decide +kernel
theorem dX8_spread_102 : decode cX8_spread 102 = .ok (.iconst 1, 1) := by decide +kernel
theorem dX8_spread_103 : decode cX8_spread 103 = .ok (.goto 4, 3) := by decide +kernel
theorem dX8_spread_106 : decode cX8_spread 106 = .ok (.iconst 0, 1) := by decide +kernel
theorem dX8_spread_107 : decode cX8_spread 107 = .ok (.bastore, 1) := by decide +kernel
theorem dX8_spread_108 : decode cX8_spread 108 = .ok (.aload_n 0, 1) := by decide +kernel
theorem dX8_spread_109 : decode cX8_spread 109 = .ok (.getfield 19, 3) := by decide +kernel
theorem dX8_spread_112 : decode cX8_spread 112 = .ok (.iload_n 1, 1) := by decide +kernel
theorem dX8_spread_113 : decode cX8_spread 113 = .ok (.baload, 1) := by decide +kernel
theorem dX8_spread_114 : decode cX8_spread 114 = .ok (.ireturn, 1) := by decide +kernel
theorem dX8_stands_0 : decode cX8_stands 0 = .ok (.iconst 0, 1) := by decide +kernel
theorem dX8_stands_1 : decode cX8_stands 1 = .ok (.istore 4, 2) := by decide +kernel
theorem dX8_stands_3 : decode cX8_stands 3 = .ok (.iload 4, 2) := by decide +kernel
theorem dX8_stands_5 : decode cX8_stands 5 = .ok (.iload_n 2, 1) := by decide +kernel
theorem dX8_stands_6 : decode cX8_stands 6 = .ok (.iload_n 3, 1) := by decide +kernel
theorem dX8_stands_7 : decode cX8_stands 7 = .ok (.imul, 1) := by decide +kernel
theorem dX8_stands_8 : decode cX8_stands 8 = .ok (.if_icmp .ge 17, 3) := by decide +kernel
theorem dX8_stands_11 : decode cX8_stands 11 = .ok (.aload_n 0, 1) := by decide +kernel
theorem dX8_stands_12 : decode cX8_stands 12 = .ok (.getfield 65, 3) := by decide +kernel
theorem dX8_stands_15 : decode cX8_stands 15 = .ok (.iload 4, 2) := by decide +kernel
theorem dX8_stands_17 : decode cX8_stands 17 = .ok (.iconst (-1), 1) := by decide +kernel
theorem dX8_stands_18 : decode cX8_stands 18 = .ok (.iastore, 1) := by decide +kernel
theorem dX8_stands_19 : decode cX8_stands 19 = .ok (.iinc 4 1, 3) := by decide +kernel
theorem dX8_stands_22 : decode cX8_stands 22 = .ok (.goto (-19), 3) := by decide +kernel
theorem dX8_stands_25 : decode cX8_stands 25 = .ok (.iconst 0, 1) := by decide +kernel
theorem dX8_stands_26 : decode cX8_stands 26 = .ok (.istore 4, 2) := by decide +kernel
theorem dX8_stands_28 : decode cX8_stands 28 = .ok (.iload 4, 2) := by decide +kernel
theorem dX8_stands_30 : decode cX8_stands 30 = .ok (.aload_n 0, 1) := by decide +kernel
theorem dX8_stands_31 : decode cX8_stands 31 = .ok (.getfield 38, 3) := by decide +kernel
theorem dX8_stands_34 : decode cX8_stands 34 = .ok (.iload_n 1, 1) := by decide +kernel
theorem dX8_stands_35 : decode cX8_stands 35 = .ok (.iaload, 1) := by decide +kernel
theorem dX8_stands_36 : decode cX8_stands 36 = .ok (.if_icmp .ge 109, 3) := by decide +kernel
theorem dX8_stands_39 : decode cX8_stands 39 = .ok (.bipush 6, 2) := by decide +kernel
theorem dX8_stands_41 : decode cX8_stands 41 = .ok (.iload_n 1, 1) := by decide +kernel
theorem dX8_stands_42 : decode cX8_stands 42 = .ok (.imul, 1) := by decide +kernel
theorem dX8_stands_43 : decode cX8_stands 43 = .ok (.iconst 3, 1) := by decide +kernel
theorem dX8_stands_44 : decode cX8_stands 44 = .ok (.iload 4, 2) := by decide +kernel
theorem dX8_stands_46 : decode cX8_stands 46 = .ok (.imul, 1) := by decide +kernel
theorem dX8_stands_47 : decode cX8_stands 47 = .ok (.iadd, 1) := by decide +kernel
theorem dX8_stands_48 : decode cX8_stands 48 = .ok (.istore 5, 2) := by decide +kernel
theorem dX8_stands_50 : decode cX8_stands 50 = .ok (.aload_n 0, 1) := by decide +kernel
theorem dX8_stands_51 : decode cX8_stands 51 = .ok (.getfield 41, 3) := by decide +kernel
theorem dX8_stands_54 : decode cX8_stands 54 = .ok (.iload 5, 2) := by decide +kernel
theorem dX8_stands_56 : decode cX8_stands 56 = .ok (.iaload, 1) := by decide +kernel
theorem dX8_stands_57 : decode cX8_stands 57 = .ok (.istore 6, 2) := by decide +kernel
theorem dX8_stands_59 : decode cX8_stands 59 = .ok (.iload 6, 2) := by decide +kernel
theorem dX8_stands_61 : decode cX8_stands 61 = .ok (.aload_n 0, 1) := by decide +kernel
theorem dX8_stands_62 : decode cX8_stands 62 = .ok (.getfield 41, 3) := by decide +kernel
theorem dX8_stands_65 : decode cX8_stands 65 = .ok (.iload 5, 2) := by decide +kernel
theorem dX8_stands_67 : decode cX8_stands 67 = .ok (.iaload, 1) := by decide +kernel
theorem dX8_stands_68 : decode cX8_stands 68 = .ok (.aload_n 0, 1) := by decide +kernel
theorem dX8_stands_69 : decode cX8_stands 69 = .ok (.getfield 41, 3) := by decide +kernel
theorem dX8_stands_72 : decode cX8_stands 72 = .ok (.iload 5, 2) := by decide +kernel
theorem dX8_stands_74 : decode cX8_stands 74 = .ok (.iconst 1, 1) := by decide +kernel
theorem dX8_stands_75 : decode cX8_stands 75 = .ok (.iadd, 1) := by decide +kernel
theorem dX8_stands_76 : decode cX8_stands 76 = .ok (.iaload, 1) := by decide +kernel
theorem dX8_stands_77 : decode cX8_stands 77 = .ok (.iadd, 1) := by decide +kernel
theorem dX8_stands_78 : decode cX8_stands 78 = .ok (.if_icmp .ge 61, 3) := by decide +kernel
theorem dX8_stands_81 : decode cX8_stands 81 = .ok (.iload 6, 2) := by decide +kernel
