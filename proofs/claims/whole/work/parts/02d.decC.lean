theorem dX9_init_0 : decode cX9_init 0 = .ok (.aload_n 0, 1) := by decide +kernel
theorem dX9_init_1 : decode cX9_init 1 = .ok (.invokespecial 1, 3) := by decide +kernel
theorem dX9_init_4 : decode cX9_init 4 = .ok (.aload_n 0, 1) := by decide +kernel
theorem dX9_init_5 : decode cX9_init 5 = .ok (.iconst 2, 1) := by decide +kernel
theorem dX9_init_6 : decode cX9_init 6 = .ok (.newarray .int, 2) := by decide +kernel
theorem dX9_init_8 : decode cX9_init 8 = .ok (.putfield 7, 3) := by decide +kernel
theorem dX9_init_11 : decode cX9_init 11 = .ok (.aload_n 0, 1) := by decide +kernel
theorem dX9_init_12 : decode cX9_init 12 = .ok (.bipush 62, 2) := by decide +kernel
theorem dX9_init_14 : decode cX9_init 14 = .ok (.newarray .int, 2) := by decide +kernel
theorem dX9_init_16 : decode cX9_init 16 = .ok (.putfield 13, 3) := by decide +kernel
theorem dX9_init_19 : decode cX9_init 19 = .ok (.aload_n 0, 1) := by decide +kernel
theorem dX9_init_20 : decode cX9_init 20 = .ok (.bipush 12, 2) := by decide +kernel
theorem dX9_init_22 : decode cX9_init 22 = .ok (.newarray .int, 2) := by decide +kernel
theorem dX9_init_24 : decode cX9_init 24 = .ok (.putfield 16, 3) := by decide +kernel
theorem dX9_init_27 : decode cX9_init 27 = .ok (.aload_n 0, 1) := by decide +kernel
theorem dX9_init_28 : decode cX9_init 28 = .ok (.bipush 9, 2) := by decide +kernel
theorem dX9_init_30 : decode cX9_init 30 = .ok (.newarray .int, 2) := by decide +kernel
theorem dX9_init_32 : decode cX9_init 32 = .ok (.putfield 19, 3) := by decide +kernel
theorem dX9_init_35 : decode cX9_init 35 = .ok (.aload_n 0, 1) := by decide +kernel
theorem dX9_init_36 : decode cX9_init 36 = .ok (.bipush 9, 2) := by decide +kernel
theorem dX9_init_38 : decode cX9_init 38 = .ok (.newarray .int, 2) := by decide +kernel
theorem dX9_init_40 : decode cX9_init 40 = .ok (.putfield 22, 3) := by decide +kernel
theorem dX9_init_43 : decode cX9_init 43 = .ok (.aload_n 0, 1) := by decide +kernel
theorem dX9_init_44 : decode cX9_init 44 = .ok (.bipush 9, 2) := by decide +kernel
theorem dX9_init_46 : decode cX9_init 46 = .ok (.newarray .int, 2) := by decide +kernel
theorem dX9_init_48 : decode cX9_init 48 = .ok (.putfield 25, 3) := by decide +kernel
theorem dX9_init_51 : decode cX9_init 51 = .ok (.aload_n 0, 1) := by decide +kernel
theorem dX9_init_52 : decode cX9_init 52 = .ok (.bipush 8, 2) := by decide +kernel
theorem dX9_init_54 : decode cX9_init 54 = .ok (.newarray .int, 2) := by decide +kernel
theorem dX9_init_56 : decode cX9_init 56 = .ok (.putfield 28, 3) := by decide +kernel
theorem dX9_init_59 : decode cX9_init 59 = .ok (.aload_n 0, 1) := by decide +kernel
theorem dX9_init_60 : decode cX9_init 60 = .ok (.bipush 8, 2) := by decide +kernel
theorem dX9_init_62 : decode cX9_init 62 = .ok (.newarray .int, 2) := by decide +kernel
theorem dX9_init_64 : decode cX9_init 64 = .ok (.putfield 31, 3) := by decide +kernel
theorem dX9_init_67 : decode cX9_init 67 = .ok (.aload_n 0, 1) := by decide +kernel
theorem dX9_init_68 : decode cX9_init 68 = .ok (.bipush 8, 2) := by decide +kernel
theorem dX9_init_70 : decode cX9_init 70 = .ok (.newarray .int, 2) := by decide +kernel
theorem dX9_init_72 : decode cX9_init 72 = .ok (.putfield 34, 3) := by decide +kernel
theorem dX9_init_75 : decode cX9_init 75 = .ok (.aload_n 0, 1) := by decide +kernel
theorem dX9_init_76 : decode cX9_init 76 = .ok (.bipush 8, 2) := by decide +kernel
theorem dX9_init_78 : decode cX9_init 78 = .ok (.newarray .int, 2) := by decide +kernel
theorem dX9_init_80 : decode cX9_init 80 = .ok (.putfield 37, 3) := by decide +kernel
theorem dX9_init_83 : decode cX9_init 83 = .ok (.aload_n 0, 1) := by decide +kernel
theorem dX9_init_84 : decode cX9_init 84 = .ok (.bipush 8, 2) := by decide +kernel
theorem dX9_init_86 : decode cX9_init 86 = .ok (.newarray .int, 2) := by decide +kernel
theorem dX9_init_88 : decode cX9_init 88 = .ok (.putfield 40, 3) := by decide +kernel
theorem dX9_init_91 : decode cX9_init 91 = .ok (.aload_n 0, 1) := by decide +kernel
theorem dX9_init_92 : decode cX9_init 92 = .ok (.bipush 8, 2) := by decide +kernel
theorem dX9_init_94 : decode cX9_init 94 = .ok (.newarray .int, 2) := by decide +kernel
theorem dX9_init_96 : decode cX9_init 96 = .ok (.putfield 43, 3) := by decide +kernel
theorem dX9_init_99 : decode cX9_init 99 = .ok (.aload_n 0, 1) := by decide +kernel
theorem dX9_init_100 : decode cX9_init 100 = .ok (.bipush 8, 2) := by decide +kernel
theorem dX9_init_102 : decode cX9_init 102 = .ok (.newarray .int, 2) := by decide +kernel
theorem dX9_init_104 : decode cX9_init 104 = .ok (.putfield 46, 3) := by decide +kernel
theorem dX9_init_107 : decode cX9_init 107 = .ok (.aload_n 0, 1) := by decide +kernel
theorem dX9_init_108 : decode cX9_init 108 = .ok (.bipush 8, 2) := by decide +kernel
theorem dX9_init_110 : decode cX9_init 110 = .ok (.newarray .int, 2) := by decide +kernel
theorem dX9_init_112 : decode cX9_init 112 = .ok (.putfield 49, 3) := by decide +kernel
theorem dX9_init_115 : decode cX9_init 115 = .ok (.aload_n 0, 1) := by decide +kernel
theorem dX9_init_116 : decode cX9_init 116 = .ok (.bipush 8, 2) := by decide +kernel
theorem dX9_init_118 : decode cX9_init 118 = .ok (.newarray .int, 2) := by decide +kernel
theorem dX9_init_120 : decode cX9_init 120 = .ok (.putfield 52, 3) := by decide +kernel
theorem dX9_init_123 : decode cX9_init 123 = .ok (.aload_n 0, 1) := by decide +kernel
theorem dX9_init_124 : decode cX9_init 124 = .ok (.bipush 8, 2) := by decide +kernel
theorem dX9_init_126 : decode cX9_init 126 = .ok (.newarray .int, 2) := by decide +kernel
theorem dX9_init_128 : decode cX9_init 128 = .ok (.putfield 55, 3) := by decide +kernel
theorem dX9_init_131 : decode cX9_init 131 = .ok (.aload_n 0, 1) := by decide +kernel
theorem dX9_init_132 : decode cX9_init 132 = .ok (.bipush 8, 2) := by decide +kernel
theorem dX9_init_134 : decode cX9_init 134 = .ok (.newarray .int, 2) := by decide +kernel
theorem dX9_init_136 : decode cX9_init 136 = .ok (.putfield 58, 3) := by decide +kernel
theorem dX9_init_139 : decode cX9_init 139 = .ok (.aload_n 0, 1) := by decide +kernel
theorem dX9_init_140 : decode cX9_init 140 = .ok (.bipush 96, 2) := by decide +kernel
theorem dX9_init_142 : decode cX9_init 142 = .ok (.newarray .int, 2) := by decide +kernel
theorem dX9_init_144 : decode cX9_init 144 = .ok (.putfield 61, 3) := by decide +kernel
theorem dX9_init_147 : decode cX9_init 147 = .ok (.aload_n 0, 1) := by decide +kernel
theorem dX9_init_148 : decode cX9_init 148 = .ok (.bipush 96, 2) := by decide +kernel
theorem dX9_init_150 : decode cX9_init 150 = .ok (.newarray .int, 2) := by decide +kernel
theorem dX9_init_152 : decode cX9_init 152 = .ok (.putfield 64, 3) := by decide +kernel
theorem dX9_init_155 : decode cX9_init 155 = .ok (.aload_n 0, 1) := by decide +kernel
theorem dX9_init_156 : decode cX9_init 156 = .ok (.sipush 144, 3) := by decide +kernel
theorem dX9_init_159 : decode cX9_init 159 = .ok (.newarray .int, 2) := by decide +kernel
theorem dX9_init_161 : decode cX9_init 161 = .ok (.putfield 67, 3) := by decide +kernel
theorem dX9_init_164 : decode cX9_init 164 = .ok (.aload_n 0, 1) := by decide +kernel
theorem dX9_init_165 : decode cX9_init 165 = .ok (.bipush 48, 2) := by decide +kernel
theorem dX9_init_167 : decode cX9_init 167 = .ok (.newarray .int, 2) := by decide +kernel
theorem dX9_init_169 : decode cX9_init 169 = .ok (.putfield 70, 3) := by decide +kernel
theorem dX9_init_172 : decode cX9_init 172 = .ok (.aload_n 0, 1) := by decide +kernel
theorem dX9_init_173 : decode cX9_init 173 = .ok (.bipush 12, 2) := by decide +kernel
theorem dX9_init_175 : decode cX9_init 175 = .ok (.newarray .int, 2) := by decide +kernel
theorem dX9_init_177 : decode cX9_init 177 = .ok (.putfield 73, 3) := by decide +kernel
theorem dX9_init_180 : decode cX9_init 180 = .ok (.aload_n 0, 1) := by decide +kernel
theorem dX9_init_181 : decode cX9_init 181 = .ok (.iconst 2, 1) := by decide +kernel
theorem dX9_init_182 : decode cX9_init 182 = .ok (.newarray .int, 2) := by decide +kernel
theorem dX9_init_184 : decode cX9_init 184 = .ok (.putfield 76, 3) := by decide +kernel
theorem dX9_init_187 : decode cX9_init 187 = .ok (.aload_n 0, 1) := by decide +kernel
theorem dX9_init_188 : decode cX9_init 188 = .ok (.bipush 8, 2) := by decide +kernel
theorem dX9_init_190 : decode cX9_init 190 = .ok (.newarray .int, 2) := by decide +kernel
theorem dX9_init_192 : decode cX9_init 192 = .ok (.putfield 79, 3) := by decide +kernel
theorem dX9_init_195 : decode cX9_init 195 = .ok (.aload_n 0, 1) := by decide +kernel
theorem dX9_init_196 : decode cX9_init 196 = .ok (.bipush 8, 2) := by decide +kernel
theorem dX9_init_198 : decode cX9_init 198 = .ok (.newarray .int, 2) := by decide +kernel
theorem dX9_init_200 : decode cX9_init 200 = .ok (.putfield 82, 3) := by decide +kernel
theorem dX9_init_203 : decode cX9_init 203 = .ok (.aload_n 0, 1) := by decide +kernel
theorem dX9_init_204 : decode cX9_init 204 = .ok (.bipush 8, 2) := by decide +kernel
theorem dX9_init_206 : decode cX9_init 206 = .ok (.newarray .int, 2) := by decide +kernel
theorem dX9_init_208 : decode cX9_init 208 = .ok (.putfield 85, 3) := by decide +kernel
theorem dX9_init_211 : decode cX9_init 211 = .ok (.aload_n 0, 1) := by decide +kernel
theorem dX9_init_212 : decode cX9_init 212 = .ok (.bipush 120, 2) := by decide +kernel
theorem dX9_init_214 : decode cX9_init 214 = .ok (.newarray .int, 2) := by decide +kernel
theorem dX9_init_216 : decode cX9_init 216 = .ok (.putfield 88, 3) := by decide +kernel
theorem dX9_init_219 : decode cX9_init 219 = .ok (.aload_n 0, 1) := by decide +kernel
theorem dX9_init_220 : decode cX9_init 220 = .ok (.iconst 4, 1) := by decide +kernel
theorem dX9_init_221 : decode cX9_init 221 = .ok (.newarray .boolean, 2) := by decide +kernel
theorem dX9_init_223 : decode cX9_init 223 = .ok (.putfield 91, 3) := by decide +kernel
theorem dX9_init_226 : decode cX9_init 226 = .ok (.aload_n 0, 1) := by decide +kernel
theorem dX9_init_227 : decode cX9_init 227 = .ok (.iconst 4, 1) := by decide +kernel
theorem dX9_init_228 : decode cX9_init 228 = .ok (.newarray .int, 2) := by decide +kernel
theorem dX9_init_230 : decode cX9_init 230 = .ok (.putfield 95, 3) := by decide +kernel
theorem dX9_init_233 : decode cX9_init 233 = .ok (.aload_n 0, 1) := by decide +kernel
theorem dX9_init_234 : decode cX9_init 234 = .ok (.iconst 4, 1) := by decide +kernel
theorem dX9_init_235 : decode cX9_init 235 = .ok (.newarray .int, 2) := by decide +kernel
theorem dX9_init_237 : decode cX9_init 237 = .ok (.putfield 98, 3) := by decide +kernel
theorem dX9_init_240 : decode cX9_init 240 = .ok (.aload_n 0, 1) := by decide +kernel
theorem dX9_init_241 : decode cX9_init 241 = .ok (.sipush 240, 3) := by decide +kernel
theorem dX9_init_244 : decode cX9_init 244 = .ok (.newarray .int, 2) := by decide +kernel
theorem dX9_init_246 : decode cX9_init 246 = .ok (.putfield 101, 3) := by decide +kernel
theorem dX9_init_249 : decode cX9_init 249 = .ok (.aload_n 0, 1) := by decide +kernel
theorem dX9_init_250 : decode cX9_init 250 = .ok (.bipush 60, 2) := by decide +kernel
theorem dX9_init_252 : decode cX9_init 252 = .ok (.newarray .int, 2) := by decide +kernel
theorem dX9_init_254 : decode cX9_init 254 = .ok (.putfield 104, 3) := by decide +kernel
theorem dX9_init_257 : decode cX9_init 257 = .ok (.return_, 1) := by decide +kernel
theorem dX9_in_0 : decode cX9_in 0 = .ok (.iload_n 0, 1) := by decide +kernel
theorem dX9_in_1 : decode cX9_in 1 = .ok (.iload_n 1, 1) := by decide +kernel
theorem dX9_in_2 : decode cX9_in 2 = .ok (.if_icmp .lt 12, 3) := by decide +kernel
theorem dX9_in_5 : decode cX9_in 5 = .ok (.iload_n 0, 1) := by decide +kernel
theorem dX9_in_6 : decode cX9_in 6 = .ok (.iload_n 2, 1) := by decide +kernel
theorem dX9_in_7 : decode cX9_in 7 = .ok (.if_icmp .gt 7, 3) := by decide +kernel
theorem dX9_in_10 : decode cX9_in 10 = .ok (.iconst 1, 1) := by decide +kernel
theorem dX9_in_11 : decode cX9_in 11 = .ok (.goto 4, 3) := by decide +kernel
theorem dX9_in_14 : decode cX9_in 14 = .ok (.iconst 0, 1) := by decide +kernel
theorem dX9_in_15 : decode cX9_in 15 = .ok (.ireturn, 1) := by decide +kernel
theorem dX9_isIn_0 : decode cX9_isIn 0 = .ok (.iload_n 0, 1) := by decide +kernel
theorem dX9_isIn_1 : decode cX9_isIn 1 = .ok (.iload_n 1, 1) := by decide +kernel
theorem dX9_isIn_2 : decode cX9_isIn 2 = .ok (.ishr, 1) := by decide +kernel
theorem dX9_isIn_3 : decode cX9_isIn 3 = .ok (.iconst 1, 1) := by decide +kernel
theorem dX9_isIn_4 : decode cX9_isIn 4 = .ok (.iand, 1) := by decide +kernel
theorem dX9_isIn_5 : decode cX9_isIn 5 = .ok (.iconst 1, 1) := by decide +kernel
theorem dX9_isIn_6 : decode cX9_isIn 6 = .ok (.if_icmp .ne 7, 3) := by decide +kernel
theorem dX9_isIn_9 : decode cX9_isIn 9 = .ok (.iconst 1, 1) := by decide +kernel
theorem dX9_isIn_10 : decode cX9_isIn 10 = .ok (.goto 4, 3) := by decide +kernel
theorem dX9_isIn_13 : decode cX9_isIn 13 = .ok (.iconst 0, 1) := by decide +kernel
theorem dX9_isIn_14 : decode cX9_isIn 14 = .ok (.ireturn, 1) := by decide +kernel
theorem dX9_no_0 : decode cX9_no 0 = .ok (.ldc2_w 107, 3) := by decide +kernel
theorem dX9_no_3 : decode cX9_no 3 = .ok (.iload_n 0, 1) := by decide +kernel
theorem dX9_no_4 : decode cX9_no 4 = .ok (.i2l, 1) := by decide +kernel
theorem dX9_no_5 : decode cX9_no 5 = .ok (.lsub, 1) := by decide +kernel
theorem dX9_no_6 : decode cX9_no 6 = .ok (.lreturn, 1) := by decide +kernel
theorem dX9_lowest_0 : decode cX9_lowest 0 = .ok (.lload_n 0, 1) := by decide +kernel
theorem dX9_lowest_1 : decode cX9_lowest 1 = .ok (.lstore 5, 2) := by decide +kernel
theorem dX9_lowest_3 : decode cX9_lowest 3 = .ok (.lload_n 2, 1) := by decide +kernel
theorem dX9_lowest_4 : decode cX9_lowest 4 = .ok (.lstore 7, 2) := by decide +kernel
theorem dX9_lowest_6 : decode cX9_lowest 6 = .ok (.lload 7, 2) := by decide +kernel
theorem dX9_lowest_8 : decode cX9_lowest 8 = .ok (.lconst 0, 1) := by decide +kernel
theorem dX9_lowest_9 : decode cX9_lowest 9 = .ok (.lcmp, 1) := by decide +kernel
theorem dX9_lowest_10 : decode cX9_lowest 10 = .ok (.ifCond .eq 21, 3) := by decide +kernel
theorem dX9_lowest_13 : decode cX9_lowest 13 = .ok (.lload 5, 2) := by decide +kernel
theorem dX9_lowest_15 : decode cX9_lowest 15 = .ok (.lload 7, 2) := by decide +kernel
theorem dX9_lowest_17 : decode cX9_lowest 17 = .ok (.lrem, 1) := by decide +kernel
theorem dX9_lowest_18 : decode cX9_lowest 18 = .ok (.lstore 9, 2) := by decide +kernel
theorem dX9_lowest_20 : decode cX9_lowest 20 = .ok (.lload 7, 2) := by decide +kernel
theorem dX9_lowest_22 : decode cX9_lowest 22 = .ok (.lstore 5, 2) := by decide +kernel
theorem dX9_lowest_24 : decode cX9_lowest 24 = .ok (.lload 9, 2) := by decide +kernel
theorem dX9_lowest_26 : decode cX9_lowest 26 = .ok (.lstore 7, 2) := by decide +kernel
theorem dX9_lowest_28 : decode cX9_lowest 28 = .ok (.goto (-22), 3) := by decide +kernel
theorem dX9_lowest_31 : decode cX9_lowest 31 = .ok (.iload 4, 2) := by decide +kernel
theorem dX9_lowest_33 : decode cX9_lowest 33 = .ok (.ifCond .ne 10, 3) := by decide +kernel
theorem dX9_lowest_36 : decode cX9_lowest 36 = .ok (.lload_n 0, 1) := by decide +kernel
theorem dX9_lowest_37 : decode cX9_lowest 37 = .ok (.lload 5, 2) := by decide +kernel
theorem dX9_lowest_39 : decode cX9_lowest 39 = .ok (.ldiv, 1) := by decide +kernel
theorem dX9_lowest_40 : decode cX9_lowest 40 = .ok (.goto 7, 3) := by decide +kernel
theorem dX9_lowest_43 : decode cX9_lowest 43 = .ok (.lload_n 2, 1) := by decide +kernel
theorem dX9_lowest_44 : decode cX9_lowest 44 = .ok (.lload 5, 2) := by decide +kernel
theorem dX9_lowest_46 : decode cX9_lowest 46 = .ok (.ldiv, 1) := by decide +kernel
theorem dX9_lowest_47 : decode cX9_lowest 47 = .ok (.lreturn, 1) := by decide +kernel
theorem dX9_isTwo_0 : decode cX9_isTwo 0 = .ok (.iload_n 0, 1) := by decide +kernel
theorem dX9_isTwo_1 : decode cX9_isTwo 1 = .ok (.iconst 0, 1) := by decide +kernel
theorem dX9_isTwo_2 : decode cX9_isTwo 2 = .ok (.iconst 1, 1) := by decide +kernel
theorem dX9_isTwo_3 : decode cX9_isTwo 3 = .ok (.invokestatic 109, 3) := by decide +kernel
theorem dX9_isTwo_6 : decode cX9_isTwo 6 = .ok (.ireturn, 1) := by decide +kernel
theorem dX9_isThree_0 : decode cX9_isThree 0 = .ok (.iload_n 0, 1) := by decide +kernel
theorem dX9_isThree_1 : decode cX9_isThree 1 = .ok (.iconst 0, 1) := by decide +kernel
theorem dX9_isThree_2 : decode cX9_isThree 2 = .ok (.iconst 2, 1) := by decide +kernel
theorem dX9_isThree_3 : decode cX9_isThree 3 = .ok (.invokestatic 109, 3) := by decide +kernel
theorem dX9_isThree_6 : decode cX9_isThree 6 = .ok (.ireturn, 1) := by decide +kernel
theorem dX9_isTwelve_0 : decode cX9_isTwelve 0 = .ok (.iload_n 0, 1) := by decide +kernel
theorem dX9_isTwelve_1 : decode cX9_isTwelve 1 = .ok (.iconst 0, 1) := by decide +kernel
theorem dX9_isTwelve_2 : decode cX9_isTwelve 2 = .ok (.bipush 11, 2) := by decide +kernel
theorem dX9_isTwelve_4 : decode cX9_isTwelve 4 = .ok (.invokestatic 109, 3) := by decide +kernel
theorem dX9_isTwelve_7 : decode cX9_isTwelve 7 = .ok (.ireturn, 1) := by decide +kernel
theorem dX9_type_0 : decode cX9_type 0 = .ok (.iload_n 1, 1) := by decide +kernel
theorem dX9_type_1 : decode cX9_type 1 = .ok (.invokestatic 113, 3) := by decide +kernel
theorem dX9_type_4 : decode cX9_type 4 = .ok (.ifCond .eq 14, 3) := by decide +kernel
theorem dX9_type_7 : decode cX9_type 7 = .ok (.iload_n 2, 1) := by decide +kernel
theorem dX9_type_8 : decode cX9_type 8 = .ok (.iconst 0, 1) := by decide +kernel
theorem dX9_type_9 : decode cX9_type 9 = .ok (.sipush 255, 3) := by decide +kernel
theorem dX9_type_12 : decode cX9_type 12 = .ok (.invokestatic 109, 3) := by decide +kernel
theorem dX9_type_15 : decode cX9_type 15 = .ok (.ifCond .ne 6, 3) := by decide +kernel
theorem dX9_type_18 : decode cX9_type 18 = .ok (.bipush (-2), 2) := by decide +kernel
theorem dX9_type_20 : decode cX9_type 20 = .ok (.ireturn, 1) := by decide +kernel
theorem dX9_type_21 : decode cX9_type 21 = .ok (.aload_n 0, 1) := by decide +kernel
theorem dX9_type_22 : decode cX9_type 22 = .ok (.getfield 7, 3) := by decide +kernel
theorem dX9_type_25 : decode cX9_type 25 = .ok (.iload_n 1, 1) := by decide +kernel
theorem dX9_type_26 : decode cX9_type 26 = .ok (.iaload, 1) := by decide +kernel
theorem dX9_type_27 : decode cX9_type 27 = .ok (.iload_n 1, 1) := by decide +kernel
theorem dX9_type_28 : decode cX9_type 28 = .ok (.ifCond .ne 8, 3) := by decide +kernel
theorem dX9_type_31 : decode cX9_type 31 = .ok (.bipush 12, 2) := by decide +kernel
theorem dX9_type_33 : decode cX9_type 33 = .ok (.goto 5, 3) := by decide +kernel
theorem dX9_type_36 : decode cX9_type 36 = .ok (.bipush 31, 2) := by decide +kernel
theorem dX9_type_38 : decode cX9_type 38 = .ok (.if_icmp .ne 6, 3) := by decide +kernel
theorem dX9_type_41 : decode cX9_type 41 = .ok (.bipush (-4), 2) := by decide +kernel
theorem dX9_type_43 : decode cX9_type 43 = .ok (.ireturn, 1) := by decide +kernel
theorem dX9_type_44 : decode cX9_type 44 = .ok (.aload_n 0, 1) := by decide +kernel
theorem dX9_type_45 : decode cX9_type 45 = .ok (.getfield 13, 3) := by decide +kernel
theorem dX9_type_48 : decode cX9_type 48 = .ok (.bipush 31, 2) := by decide +kernel
theorem dX9_type_50 : decode cX9_type 50 = .ok (.iload_n 1, 1) := by decide +kernel
theorem dX9_type_51 : decode cX9_type 51 = .ok (.imul, 1) := by decide +kernel
theorem dX9_type_52 : decode cX9_type 52 = .ok (.aload_n 0, 1) := by decide +kernel
theorem dX9_type_53 : decode cX9_type 53 = .ok (.getfield 7, 3) := by decide +kernel
theorem dX9_type_56 : decode cX9_type 56 = .ok (.iload_n 1, 1) := by decide +kernel
theorem dX9_type_57 : decode cX9_type 57 = .ok (.iaload, 1) := by decide +kernel
theorem dX9_type_58 : decode cX9_type 58 = .ok (.iadd, 1) := by decide +kernel
theorem dX9_type_59 : decode cX9_type 59 = .ok (.iload_n 2, 1) := by decide +kernel
theorem dX9_type_60 : decode cX9_type 60 = .ok (.iastore, 1) := by decide +kernel
theorem dX9_type_61 : decode cX9_type 61 = .ok (.aload_n 0, 1) := by decide +kernel
theorem dX9_type_62 : decode cX9_type 62 = .ok (.getfield 7, 3) := by decide +kernel
theorem dX9_type_65 : decode cX9_type 65 = .ok (.iload_n 1, 1) := by decide +kernel
theorem dX9_type_66 : decode cX9_type 66 = .ok (.dup2, 1) := by decide +kernel
theorem dX9_type_67 : decode cX9_type 67 = .ok (.iaload, 1) := by decide +kernel
theorem dX9_type_68 : decode cX9_type 68 = .ok (.iconst 1, 1) := by decide +kernel
theorem dX9_type_69 : decode cX9_type 69 = .ok (.iadd, 1) := by decide +kernel
theorem dX9_type_70 : decode cX9_type 70 = .ok (.iastore, 1) := by decide +kernel
theorem dX9_type_71 : decode cX9_type 71 = .ok (.aload_n 0, 1) := by decide +kernel
theorem dX9_type_72 : decode cX9_type 72 = .ok (.getfield 7, 3) := by decide +kernel
theorem dX9_type_75 : decode cX9_type 75 = .ok (.iload_n 1, 1) := by decide +kernel
theorem dX9_type_76 : decode cX9_type 76 = .ok (.iaload, 1) := by decide +kernel
theorem dX9_type_77 : decode cX9_type 77 = .ok (.ireturn, 1) := by decide +kernel
theorem dX9_wipe_0 : decode cX9_wipe 0 = .ok (.iload_n 1, 1) := by decide +kernel
theorem dX9_wipe_1 : decode cX9_wipe 1 = .ok (.invokestatic 113, 3) := by decide +kernel
theorem dX9_wipe_4 : decode cX9_wipe 4 = .ok (.ifCond .ne 6, 3) := by decide +kernel
theorem dX9_wipe_7 : decode cX9_wipe 7 = .ok (.bipush (-2), 2) := by decide +kernel
theorem dX9_wipe_9 : decode cX9_wipe 9 = .ok (.ireturn, 1) := by decide +kernel
theorem dX9_wipe_10 : decode cX9_wipe 10 = .ok (.aload_n 0, 1) := by decide +kernel
theorem dX9_wipe_11 : decode cX9_wipe 11 = .ok (.getfield 7, 3) := by decide +kernel
theorem dX9_wipe_14 : decode cX9_wipe 14 = .ok (.iload_n 1, 1) := by decide +kernel
theorem dX9_wipe_15 : decode cX9_wipe 15 = .ok (.iaload, 1) := by decide +kernel
theorem dX9_wipe_16 : decode cX9_wipe 16 = .ok (.istore_n 2, 1) := by decide +kernel
theorem dX9_wipe_17 : decode cX9_wipe 17 = .ok (.aload_n 0, 1) := by decide +kernel
theorem dX9_wipe_18 : decode cX9_wipe 18 = .ok (.getfield 7, 3) := by decide +kernel
theorem dX9_wipe_21 : decode cX9_wipe 21 = .ok (.iload_n 1, 1) := by decide +kernel
theorem dX9_wipe_22 : decode cX9_wipe 22 = .ok (.iconst 0, 1) := by decide +kernel
theorem dX9_wipe_23 : decode cX9_wipe 23 = .ok (.iastore, 1) := by decide +kernel
theorem dX9_wipe_24 : decode cX9_wipe 24 = .ok (.iload_n 2, 1) := by decide +kernel
theorem dX9_wipe_25 : decode cX9_wipe 25 = .ok (.ireturn, 1) := by decide +kernel
theorem dX9_undo_0 : decode cX9_undo 0 = .ok (.iload_n 1, 1) := by decide +kernel
theorem dX9_undo_1 : decode cX9_undo 1 = .ok (.invokestatic 113, 3) := by decide +kernel
theorem dX9_undo_4 : decode cX9_undo 4 = .ok (.ifCond .ne 6, 3) := by decide +kernel
theorem dX9_undo_7 : decode cX9_undo 7 = .ok (.bipush (-2), 2) := by decide +kernel
theorem dX9_undo_9 : decode cX9_undo 9 = .ok (.ireturn, 1) := by decide +kernel
theorem dX9_undo_10 : decode cX9_undo 10 = .ok (.aload_n 0, 1) := by decide +kernel
theorem dX9_undo_11 : decode cX9_undo 11 = .ok (.getfield 7, 3) := by decide +kernel
theorem dX9_undo_14 : decode cX9_undo 14 = .ok (.iload_n 1, 1) := by decide +kernel
theorem dX9_undo_15 : decode cX9_undo 15 = .ok (.iaload, 1) := by decide +kernel
theorem dX9_undo_16 : decode cX9_undo 16 = .ok (.ifCond .ne 6, 3) := by decide +kernel
theorem dX9_undo_19 : decode cX9_undo 19 = .ok (.bipush (-3), 2) := by decide +kernel
theorem dX9_undo_21 : decode cX9_undo 21 = .ok (.ireturn, 1) := by decide +kernel
theorem dX9_undo_22 : decode cX9_undo 22 = .ok (.aload_n 0, 1) := by decide +kernel
theorem dX9_undo_23 : decode cX9_undo 23 = .ok (.getfield 7, 3) := by decide +kernel
theorem dX9_undo_26 : decode cX9_undo 26 = .ok (.iload_n 1, 1) := by decide +kernel
theorem dX9_undo_27 : decode cX9_undo 27 = .ok (.dup2, 1) := by decide +kernel
theorem dX9_undo_28 : decode cX9_undo 28 = .ok (.iaload, 1) := by decide +kernel
theorem dX9_undo_29 : decode cX9_undo 29 = .ok (.iconst 1, 1) := by decide +kernel
theorem dX9_undo_30 : decode cX9_undo 30 = .ok (.isub, 1) := by decide +kernel
theorem dX9_undo_31 : decode cX9_undo 31 = .ok (.iastore, 1) := by decide +kernel
theorem dX9_undo_32 : decode cX9_undo 32 = .ok (.aload_n 0, 1) := by decide +kernel
theorem dX9_undo_33 : decode cX9_undo 33 = .ok (.getfield 7, 3) := by decide +kernel
theorem dX9_undo_36 : decode cX9_undo 36 = .ok (.iload_n 1, 1) := by decide +kernel
theorem dX9_undo_37 : decode cX9_undo 37 = .ok (.iaload, 1) := by decide +kernel
theorem dX9_undo_38 : decode cX9_undo 38 = .ok (.ireturn, 1) := by decide +kernel
theorem dX9_byteAt_0 : decode cX9_byteAt 0 = .ok (.iload_n 2, 1) := by decide +kernel
theorem dX9_byteAt_1 : decode cX9_byteAt 1 = .ok (.aload_n 0, 1) := by decide +kernel
theorem dX9_byteAt_2 : decode cX9_byteAt 2 = .ok (.getfield 7, 3) := by decide +kernel
theorem dX9_byteAt_5 : decode cX9_byteAt 5 = .ok (.iload_n 1, 1) := by decide +kernel
theorem dX9_byteAt_6 : decode cX9_byteAt 6 = .ok (.iaload, 1) := by decide +kernel
theorem dX9_byteAt_7 : decode cX9_byteAt 7 = .ok (.if_icmp .ge 17, 3) := by decide +kernel
theorem dX9_byteAt_10 : decode cX9_byteAt 10 = .ok (.aload_n 0, 1) := by decide +kernel
theorem dX9_byteAt_11 : decode cX9_byteAt 11 = .ok (.getfield 13, 3) := by decide +kernel
theorem dX9_byteAt_14 : decode cX9_byteAt 14 = .ok (.bipush 31, 2) := by decide +kernel
theorem dX9_byteAt_16 : decode cX9_byteAt 16 = .ok (.iload_n 1, 1) := by decide +kernel
theorem dX9_byteAt_17 : decode cX9_byteAt 17 = .ok (.imul, 1) := by decide +kernel
theorem dX9_byteAt_18 : decode cX9_byteAt 18 = .ok (.iload_n 2, 1) := by decide +kernel
theorem dX9_byteAt_19 : decode cX9_byteAt 19 = .ok (.iadd, 1) := by decide +kernel
theorem dX9_byteAt_20 : decode cX9_byteAt 20 = .ok (.iaload, 1) := by decide +kernel
theorem dX9_byteAt_21 : decode cX9_byteAt 21 = .ok (.goto 4, 3) := by decide +kernel
theorem dX9_byteAt_24 : decode cX9_byteAt 24 = .ok (.iconst (-1), 1) := by decide +kernel
theorem dX9_byteAt_25 : decode cX9_byteAt 25 = .ok (.ireturn, 1) := by decide +kernel
theorem dX9_readsHooks_0 : decode cX9_readsHooks 0 = .ok (.aload_n 0, 1) := by decide +kernel
theorem dX9_readsHooks_1 : decode cX9_readsHooks 1 = .ok (.iconst 0, 1) := by decide +kernel
theorem dX9_readsHooks_2 : decode cX9_readsHooks 2 = .ok (.putfield 117, 3) := by decide +kernel
theorem dX9_readsHooks_5 : decode cX9_readsHooks 5 = .ok (.iconst 0, 1) := by decide +kernel
theorem dX9_readsHooks_6 : decode cX9_readsHooks 6 = .ok (.istore_n 1, 1) := by decide +kernel
theorem dX9_readsHooks_7 : decode cX9_readsHooks 7 = .ok (.iload_n 1, 1) := by decide +kernel
theorem dX9_readsHooks_8 : decode cX9_readsHooks 8 = .ok (.aload_n 0, 1) := by decide +kernel
theorem dX9_readsHooks_9 : decode cX9_readsHooks 9 = .ok (.getfield 7, 3) := by decide +kernel
theorem dX9_readsHooks_12 : decode cX9_readsHooks 12 = .ok (.iconst 0, 1) := by decide +kernel
theorem dX9_readsHooks_13 : decode cX9_readsHooks 13 = .ok (.iaload, 1) := by decide +kernel
theorem dX9_readsHooks_14 : decode cX9_readsHooks 14 = .ok (.if_icmp .ge 63, 3) := by decide +kernel
theorem dX9_readsHooks_17 : decode cX9_readsHooks 17 = .ok (.aload_n 0, 1) := by decide +kernel
theorem dX9_readsHooks_18 : decode cX9_readsHooks 18 = .ok (.iconst 0, 1) := by decide +kernel
theorem dX9_readsHooks_19 : decode cX9_readsHooks 19 = .ok (.iload_n 1, 1) := by decide +kernel
theorem dX9_readsHooks_20 : decode cX9_readsHooks 20 = .ok (.invokevirtual 121, 3) := by decide +kernel
theorem dX9_readsHooks_23 : decode cX9_readsHooks 23 = .ok (.istore_n 2, 1) := by decide +kernel
theorem dX9_readsHooks_24 : decode cX9_readsHooks 24 = .ok (.iload_n 2, 1) := by decide +kernel
theorem dX9_readsHooks_25 : decode cX9_readsHooks 25 = .ok (.bipush 104, 2) := by decide +kernel
theorem dX9_readsHooks_27 : decode cX9_readsHooks 27 = .ok (.if_icmp .eq 17, 3) := by decide +kernel
theorem dX9_readsHooks_30 : decode cX9_readsHooks 30 = .ok (.iload_n 2, 1) := by decide +kernel
theorem dX9_readsHooks_31 : decode cX9_readsHooks 31 = .ok (.bipush 115, 2) := by decide +kernel
theorem dX9_readsHooks_33 : decode cX9_readsHooks 33 = .ok (.if_icmp .eq 11, 3) := by decide +kernel
theorem dX9_readsHooks_36 : decode cX9_readsHooks 36 = .ok (.iload_n 2, 1) := by decide +kernel
theorem dX9_readsHooks_37 : decode cX9_readsHooks 37 = .ok (.bipush 103, 2) := by decide +kernel
theorem dX9_readsHooks_39 : decode cX9_readsHooks 39 = .ok (.if_icmp .eq 5, 3) := by decide +kernel
theorem dX9_readsHooks_42 : decode cX9_readsHooks 42 = .ok (.iload_n 1, 1) := by decide +kernel
theorem dX9_readsHooks_43 : decode cX9_readsHooks 43 = .ok (.ireturn, 1) := by decide +kernel
theorem dX9_readsHooks_44 : decode cX9_readsHooks 44 = .ok (.aload_n 0, 1) := by decide +kernel
theorem dX9_readsHooks_45 : decode cX9_readsHooks 45 = .ok (.getfield 16, 3) := by decide +kernel
theorem dX9_readsHooks_48 : decode cX9_readsHooks 48 = .ok (.iload_n 1, 1) := by decide +kernel
theorem dX9_readsHooks_49 : decode cX9_readsHooks 49 = .ok (.iload_n 2, 1) := by decide +kernel
theorem dX9_readsHooks_50 : decode cX9_readsHooks 50 = .ok (.bipush 104, 2) := by decide +kernel
theorem dX9_readsHooks_52 : decode cX9_readsHooks 52 = .ok (.if_icmp .ne 7, 3) := by decide +kernel
theorem dX9_readsHooks_55 : decode cX9_readsHooks 55 = .ok (.iconst 1, 1) := by decide +kernel
theorem dX9_readsHooks_56 : decode cX9_readsHooks 56 = .ok (.goto 14, 3) := by decide +kernel
theorem dX9_readsHooks_59 : decode cX9_readsHooks 59 = .ok (.iload_n 2, 1) := by decide +kernel
theorem dX9_readsHooks_60 : decode cX9_readsHooks 60 = .ok (.bipush 115, 2) := by decide +kernel
theorem dX9_readsHooks_62 : decode cX9_readsHooks 62 = .ok (.if_icmp .ne 7, 3) := by decide +kernel
theorem dX9_readsHooks_65 : decode cX9_readsHooks 65 = .ok (.iconst 2, 1) := by decide +kernel
theorem dX9_readsHooks_66 : decode cX9_readsHooks 66 = .ok (.goto 4, 3) := by decide +kernel
theorem dX9_readsHooks_69 : decode cX9_readsHooks 69 = .ok (.iconst 0, 1) := by decide +kernel
theorem dX9_readsHooks_70 : decode cX9_readsHooks 70 = .ok (.iastore, 1) := by decide +kernel
theorem dX9_readsHooks_71 : decode cX9_readsHooks 71 = .ok (.iinc 1 1, 3) := by decide +kernel
theorem dX9_readsHooks_74 : decode cX9_readsHooks 74 = .ok (.goto (-67), 3) := by decide +kernel
theorem dX9_readsHooks_77 : decode cX9_readsHooks 77 = .ok (.aload_n 0, 1) := by decide +kernel
theorem dX9_readsHooks_78 : decode cX9_readsHooks 78 = .ok (.aload_n 0, 1) := by decide +kernel
theorem dX9_readsHooks_79 : decode cX9_readsHooks 79 = .ok (.getfield 7, 3) := by decide +kernel
theorem dX9_readsHooks_82 : decode cX9_readsHooks 82 = .ok (.iconst 0, 1) := by decide +kernel
theorem dX9_readsHooks_83 : decode cX9_readsHooks 83 = .ok (.iaload, 1) := by decide +kernel
theorem dX9_readsHooks_84 : decode cX9_readsHooks 84 = .ok (.putfield 117, 3) := by decide +kernel
theorem dX9_readsHooks_87 : decode cX9_readsHooks 87 = .ok (.iconst (-1), 1) := by decide +kernel
theorem dX9_readsHooks_88 : decode cX9_readsHooks 88 = .ok (.ireturn, 1) := by decide +kernel
theorem dX9_readsThing_0 : decode cX9_readsThing 0 = .ok (.aload_n 0, 1) := by decide +kernel
theorem dX9_readsThing_1 : decode cX9_readsThing 1 = .ok (.iconst 1, 1) := by decide +kernel
theorem dX9_readsThing_2 : decode cX9_readsThing 2 = .ok (.iload_n 2, 1) := by decide +kernel
theorem dX9_readsThing_3 : decode cX9_readsThing 3 = .ok (.invokevirtual 121, 3) := by decide +kernel
theorem dX9_readsThing_6 : decode cX9_readsThing 6 = .ok (.istore_n 3, 1) := by decide +kernel
theorem dX9_readsThing_7 : decode cX9_readsThing 7 = .ok (.iload_n 3, 1) := by decide +kernel
theorem dX9_readsThing_8 : decode cX9_readsThing 8 = .ok (.bipush 109, 2) := by decide +kernel
theorem dX9_readsThing_10 : decode cX9_readsThing 10 = .ok (.if_icmp .ne 7, 3) := by decide +kernel
theorem dX9_readsThing_13 : decode cX9_readsThing 13 = .ok (.iconst 0, 1) := by decide +kernel
theorem dX9_readsThing_14 : decode cX9_readsThing 14 = .ok (.goto 24, 3) := by decide +kernel
theorem dX9_readsThing_17 : decode cX9_readsThing 17 = .ok (.iload_n 3, 1) := by decide +kernel
theorem dX9_readsThing_18 : decode cX9_readsThing 18 = .ok (.bipush 119, 2) := by decide +kernel
theorem dX9_readsThing_20 : decode cX9_readsThing 20 = .ok (.if_icmp .ne 7, 3) := by decide +kernel
theorem dX9_readsThing_23 : decode cX9_readsThing 23 = .ok (.iconst 1, 1) := by decide +kernel
theorem dX9_readsThing_24 : decode cX9_readsThing 24 = .ok (.goto 14, 3) := by decide +kernel
theorem dX9_readsThing_27 : decode cX9_readsThing 27 = .ok (.iload_n 3, 1) := by decide +kernel
theorem dX9_readsThing_28 : decode cX9_readsThing 28 = .ok (.bipush 113, 2) := by decide +kernel
theorem dX9_readsThing_30 : decode cX9_readsThing 30 = .ok (.if_icmp .ne 7, 3) := by decide +kernel
theorem dX9_readsThing_33 : decode cX9_readsThing 33 = .ok (.iconst 2, 1) := by decide +kernel
theorem dX9_readsThing_34 : decode cX9_readsThing 34 = .ok (.goto 4, 3) := by decide +kernel
theorem dX9_readsThing_37 : decode cX9_readsThing 37 = .ok (.iconst (-1), 1) := by decide +kernel
theorem dX9_readsThing_38 : decode cX9_readsThing 38 = .ok (.istore 4, 2) := by decide +kernel
theorem dX9_readsThing_40 : decode cX9_readsThing 40 = .ok (.aload_n 0, 1) := by decide +kernel
theorem dX9_readsThing_41 : decode cX9_readsThing 41 = .ok (.iconst 1, 1) := by decide +kernel
theorem dX9_readsThing_42 : decode cX9_readsThing 42 = .ok (.iload_n 2, 1) := by decide +kernel
theorem dX9_readsThing_43 : decode cX9_readsThing 43 = .ok (.iconst 1, 1) := by decide +kernel
theorem dX9_readsThing_44 : decode cX9_readsThing 44 = .ok (.iadd, 1) := by decide +kernel
theorem dX9_readsThing_45 : decode cX9_readsThing 45 = .ok (.invokevirtual 121, 3) := by decide +kernel
theorem dX9_readsThing_48 : decode cX9_readsThing 48 = .ok (.bipush 48, 2) := by decide +kernel
theorem dX9_readsThing_50 : decode cX9_readsThing 50 = .ok (.isub, 1) := by decide +kernel
theorem dX9_readsThing_51 : decode cX9_readsThing 51 = .ok (.istore 5, 2) := by decide +kernel
theorem dX9_readsThing_53 : decode cX9_readsThing 53 = .ok (.aload_n 0, 1) := by decide +kernel
theorem dX9_readsThing_54 : decode cX9_readsThing 54 = .ok (.iconst 1, 1) := by decide +kernel
theorem dX9_readsThing_55 : decode cX9_readsThing 55 = .ok (.iload_n 2, 1) := by decide +kernel
theorem dX9_readsThing_56 : decode cX9_readsThing 56 = .ok (.iconst 2, 1) := by decide +kernel
theorem dX9_readsThing_57 : decode cX9_readsThing 57 = .ok (.iadd, 1) := by decide +kernel
theorem dX9_readsThing_58 : decode cX9_readsThing 58 = .ok (.invokevirtual 121, 3) := by decide +kernel
theorem dX9_readsThing_61 : decode cX9_readsThing 61 = .ok (.bipush 48, 2) := by decide +kernel
theorem dX9_readsThing_63 : decode cX9_readsThing 63 = .ok (.isub, 1) := by decide +kernel
theorem dX9_readsThing_64 : decode cX9_readsThing 64 = .ok (.istore 6, 2) := by decide +kernel
theorem dX9_readsThing_66 : decode cX9_readsThing 66 = .ok (.iload_n 1, 1) := by decide +kernel
theorem dX9_readsThing_67 : decode cX9_readsThing 67 = .ok (.bipush 8, 2) := by decide +kernel
theorem dX9_readsThing_69 : decode cX9_readsThing 69 = .ok (.if_icmp .eq 9, 3) := by decide +kernel
theorem dX9_readsThing_72 : decode cX9_readsThing 72 = .ok (.iload 4, 2) := by decide +kernel
theorem dX9_readsThing_74 : decode cX9_readsThing 74 = .ok (.iconst (-1), 1) := by decide +kernel
theorem dX9_readsThing_75 : decode cX9_readsThing 75 = .ok (.if_icmp .ne 5, 3) := by decide +kernel
theorem dX9_readsThing_78 : decode cX9_readsThing 78 = .ok (.iconst 0, 1) := by decide +kernel
theorem dX9_readsThing_79 : decode cX9_readsThing 79 = .ok (.ireturn, 1) := by decide +kernel
theorem dX9_readsThing_80 : decode cX9_readsThing 80 = .ok (.iload 5, 2) := by decide +kernel
theorem dX9_readsThing_82 : decode cX9_readsThing 82 = .ok (.iconst 1, 1) := by decide +kernel
theorem dX9_readsThing_83 : decode cX9_readsThing 83 = .ok (.bipush 9, 2) := by decide +kernel
theorem dX9_readsThing_85 : decode cX9_readsThing 85 = .ok (.invokestatic 109, 3) := by decide +kernel
theorem dX9_readsThing_88 : decode cX9_readsThing 88 = .ok (.ifCond .ne 5, 3) := by decide +kernel
theorem dX9_readsThing_91 : decode cX9_readsThing 91 = .ok (.iconst 1, 1) := by decide +kernel
theorem dX9_readsThing_92 : decode cX9_readsThing 92 = .ok (.ireturn, 1) := by decide +kernel
theorem dX9_readsThing_93 : decode cX9_readsThing 93 = .ok (.iload 6, 2) := by decide +kernel
theorem dX9_readsThing_95 : decode cX9_readsThing 95 = .ok (.iconst 0, 1) := by decide +kernel
theorem dX9_readsThing_96 : decode cX9_readsThing 96 = .ok (.bipush 9, 2) := by decide +kernel
theorem dX9_readsThing_98 : decode cX9_readsThing 98 = .ok (.invokestatic 109, 3) := by decide +kernel
theorem dX9_readsThing_101 : decode cX9_readsThing 101 = .ok (.ifCond .ne 5, 3) := by decide +kernel
theorem dX9_readsThing_104 : decode cX9_readsThing 104 = .ok (.iconst 2, 1) := by decide +kernel
theorem dX9_readsThing_105 : decode cX9_readsThing 105 = .ok (.ireturn, 1) := by decide +kernel
theorem dX9_readsThing_106 : decode cX9_readsThing 106 = .ok (.aload_n 0, 1) := by decide +kernel
theorem dX9_readsThing_107 : decode cX9_readsThing 107 = .ok (.getfield 19, 3) := by decide +kernel
theorem dX9_readsThing_110 : decode cX9_readsThing 110 = .ok (.iload_n 1, 1) := by decide +kernel
theorem dX9_readsThing_111 : decode cX9_readsThing 111 = .ok (.iload 4, 2) := by decide +kernel
theorem dX9_readsThing_113 : decode cX9_readsThing 113 = .ok (.iastore, 1) := by decide +kernel
theorem dX9_readsThing_114 : decode cX9_readsThing 114 = .ok (.aload_n 0, 1) := by decide +kernel
theorem dX9_readsThing_115 : decode cX9_readsThing 115 = .ok (.getfield 22, 3) := by decide +kernel
theorem dX9_readsThing_118 : decode cX9_readsThing 118 = .ok (.iload_n 1, 1) := by decide +kernel
theorem dX9_readsThing_119 : decode cX9_readsThing 119 = .ok (.iload 5, 2) := by decide +kernel
theorem dX9_readsThing_121 : decode cX9_readsThing 121 = .ok (.iastore, 1) := by decide +kernel
theorem dX9_readsThing_122 : decode cX9_readsThing 122 = .ok (.aload_n 0, 1) := by decide +kernel
theorem dX9_readsThing_123 : decode cX9_readsThing 123 = .ok (.getfield 25, 3) := by decide +kernel
theorem dX9_readsThing_126 : decode cX9_readsThing 126 = .ok (.iload_n 1, 1) := by decide +kernel
theorem dX9_readsThing_127 : decode cX9_readsThing 127 = .ok (.iload 6, 2) := by decide +kernel
theorem dX9_readsThing_129 : decode cX9_readsThing 129 = .ok (.iastore, 1) := by decide +kernel
theorem dX9_readsThing_130 : decode cX9_readsThing 130 = .ok (.iconst 3, 1) := by decide +kernel
theorem dX9_readsThing_131 : decode cX9_readsThing 131 = .ok (.ireturn, 1) := by decide +kernel
theorem dX9_readsThings_0 : decode cX9_readsThings 0 = .ok (.iconst 0, 1) := by decide +kernel
theorem dX9_readsThings_1 : decode cX9_readsThings 1 = .ok (.istore_n 1, 1) := by decide +kernel
theorem dX9_readsThings_2 : decode cX9_readsThings 2 = .ok (.iconst 0, 1) := by decide +kernel
theorem dX9_readsThings_3 : decode cX9_readsThings 3 = .ok (.istore_n 2, 1) := by decide +kernel
theorem dX9_readsThings_4 : decode cX9_readsThings 4 = .ok (.aload_n 0, 1) := by decide +kernel
theorem dX9_readsThings_5 : decode cX9_readsThings 5 = .ok (.iconst 0, 1) := by decide +kernel
theorem dX9_readsThings_6 : decode cX9_readsThings 6 = .ok (.putfield 125, 3) := by decide +kernel
theorem dX9_readsThings_9 : decode cX9_readsThings 9 = .ok (.iload_n 2, 1) := by decide +kernel
theorem dX9_readsThings_10 : decode cX9_readsThings 10 = .ok (.aload_n 0, 1) := by decide +kernel
theorem dX9_readsThings_11 : decode cX9_readsThings 11 = .ok (.getfield 7, 3) := by decide +kernel
theorem dX9_readsThings_14 : decode cX9_readsThings 14 = .ok (.iconst 1, 1) := by decide +kernel
theorem dX9_readsThings_15 : decode cX9_readsThings 15 = .ok (.iaload, 1) := by decide +kernel
theorem dX9_readsThings_16 : decode cX9_readsThings 16 = .ok (.if_icmp .lt 7, 3) := by decide +kernel
theorem dX9_readsThings_19 : decode cX9_readsThings 19 = .ok (.iload_n 2, 1) := by decide +kernel
theorem dX9_readsThings_20 : decode cX9_readsThings 20 = .ok (.ifCond .le 61, 3) := by decide +kernel
theorem dX9_readsThings_23 : decode cX9_readsThings 23 = .ok (.aload_n 0, 1) := by decide +kernel
theorem dX9_readsThings_24 : decode cX9_readsThings 24 = .ok (.iload_n 1, 1) := by decide +kernel
theorem dX9_readsThings_25 : decode cX9_readsThings 25 = .ok (.iload_n 2, 1) := by decide +kernel
theorem dX9_readsThings_26 : decode cX9_readsThings 26 = .ok (.invokevirtual 128, 3) := by decide +kernel
theorem dX9_readsThings_29 : decode cX9_readsThings 29 = .ok (.istore_n 3, 1) := by decide +kernel
theorem dX9_readsThings_30 : decode cX9_readsThings 30 = .ok (.iload_n 3, 1) := by decide +kernel
theorem dX9_readsThings_31 : decode cX9_readsThings 31 = .ok (.iconst 3, 1) := by decide +kernel
theorem dX9_readsThings_32 : decode cX9_readsThings 32 = .ok (.if_icmp .ge 7, 3) := by decide +kernel
theorem dX9_readsThings_35 : decode cX9_readsThings 35 = .ok (.iload_n 2, 1) := by decide +kernel
theorem dX9_readsThings_36 : decode cX9_readsThings 36 = .ok (.iload_n 3, 1) := by decide +kernel
theorem dX9_readsThings_37 : decode cX9_readsThings 37 = .ok (.iadd, 1) := by decide +kernel
theorem dX9_readsThings_38 : decode cX9_readsThings 38 = .ok (.ireturn, 1) := by decide +kernel
theorem dX9_readsThings_39 : decode cX9_readsThings 39 = .ok (.iinc 1 1, 3) := by decide +kernel
theorem dX9_readsThings_42 : decode cX9_readsThings 42 = .ok (.iinc 2 3, 3) := by decide +kernel
theorem dX9_readsThings_45 : decode cX9_readsThings 45 = .ok (.iload_n 2, 1) := by decide +kernel
theorem dX9_readsThings_46 : decode cX9_readsThings 46 = .ok (.aload_n 0, 1) := by decide +kernel
theorem dX9_readsThings_47 : decode cX9_readsThings 47 = .ok (.getfield 7, 3) := by decide +kernel
theorem dX9_readsThings_50 : decode cX9_readsThings 50 = .ok (.iconst 1, 1) := by decide +kernel
theorem dX9_readsThings_51 : decode cX9_readsThings 51 = .ok (.iaload, 1) := by decide +kernel
theorem dX9_readsThings_52 : decode cX9_readsThings 52 = .ok (.if_icmp .ne 10, 3) := by decide +kernel
theorem dX9_readsThings_55 : decode cX9_readsThings 55 = .ok (.aload_n 0, 1) := by decide +kernel
theorem dX9_readsThings_56 : decode cX9_readsThings 56 = .ok (.iload_n 1, 1) := by decide +kernel
theorem dX9_readsThings_57 : decode cX9_readsThings 57 = .ok (.putfield 125, 3) := by decide +kernel
theorem dX9_readsThings_60 : decode cX9_readsThings 60 = .ok (.iconst (-1), 1) := by decide +kernel
theorem dX9_readsThings_61 : decode cX9_readsThings 61 = .ok (.ireturn, 1) := by decide +kernel
theorem dX9_readsThings_62 : decode cX9_readsThings 62 = .ok (.aload_n 0, 1) := by decide +kernel
theorem dX9_readsThings_63 : decode cX9_readsThings 63 = .ok (.iconst 1, 1) := by decide +kernel
theorem dX9_readsThings_64 : decode cX9_readsThings 64 = .ok (.iload_n 2, 1) := by decide +kernel
theorem dX9_readsThings_65 : decode cX9_readsThings 65 = .ok (.invokevirtual 121, 3) := by decide +kernel
theorem dX9_readsThings_68 : decode cX9_readsThings 68 = .ok (.bipush 59, 2) := by decide +kernel
theorem dX9_readsThings_70 : decode cX9_readsThings 70 = .ok (.if_icmp .eq 5, 3) := by decide +kernel
theorem dX9_readsThings_73 : decode cX9_readsThings 73 = .ok (.iload_n 2, 1) := by decide +kernel
theorem dX9_readsThings_74 : decode cX9_readsThings 74 = .ok (.ireturn, 1) := by decide +kernel
theorem dX9_readsThings_75 : decode cX9_readsThings 75 = .ok (.iinc 2 1, 3) := by decide +kernel
theorem dX9_readsThings_78 : decode cX9_readsThings 78 = .ok (.goto (-69), 3) := by decide +kernel
theorem dX9_readsThings_81 : decode cX9_readsThings 81 = .ok (.iconst (-1), 1) := by decide +kernel
theorem dX9_readsThings_82 : decode cX9_readsThings 82 = .ok (.ireturn, 1) := by decide +kernel
theorem dX9_faultOf_0 : decode cX9_faultOf 0 = .ok (.aload_n 0, 1) := by decide +kernel
theorem dX9_faultOf_1 : decode cX9_faultOf 1 = .ok (.invokevirtual 131, 3) := by decide +kernel
theorem dX9_faultOf_4 : decode cX9_faultOf 4 = .ok (.istore_n 2, 1) := by decide +kernel
theorem dX9_faultOf_5 : decode cX9_faultOf 5 = .ok (.aload_n 0, 1) := by decide +kernel
theorem dX9_faultOf_6 : decode cX9_faultOf 6 = .ok (.invokevirtual 135, 3) := by decide +kernel
theorem dX9_faultOf_9 : decode cX9_faultOf 9 = .ok (.istore_n 3, 1) := by decide +kernel
theorem dX9_faultOf_10 : decode cX9_faultOf 10 = .ok (.iload_n 1, 1) := by decide +kernel
theorem dX9_faultOf_11 : decode cX9_faultOf 11 = .ok (.ifCond .ne 7, 3) := by decide +kernel
theorem dX9_faultOf_14 : decode cX9_faultOf 14 = .ok (.iload_n 2, 1) := by decide +kernel
theorem dX9_faultOf_15 : decode cX9_faultOf 15 = .ok (.goto 4, 3) := by decide +kernel
theorem dX9_faultOf_18 : decode cX9_faultOf 18 = .ok (.iload_n 3, 1) := by decide +kernel
theorem dX9_faultOf_19 : decode cX9_faultOf 19 = .ok (.ireturn, 1) := by decide +kernel
theorem dX9_reads_0 : decode cX9_reads 0 = .ok (.aload_n 0, 1) := by decide +kernel
theorem dX9_reads_1 : decode cX9_reads 1 = .ok (.iconst 0, 1) := by decide +kernel
theorem dX9_reads_2 : decode cX9_reads 2 = .ok (.invokevirtual 138, 3) := by decide +kernel
theorem dX9_reads_5 : decode cX9_reads 5 = .ok (.istore_n 1, 1) := by decide +kernel
theorem dX9_reads_6 : decode cX9_reads 6 = .ok (.return_, 1) := by decide +kernel
theorem dX9_fault_0 : decode cX9_fault 0 = .ok (.iload_n 1, 1) := by decide +kernel
theorem dX9_fault_1 : decode cX9_fault 1 = .ok (.invokestatic 113, 3) := by decide +kernel
theorem dX9_fault_4 : decode cX9_fault 4 = .ok (.ifCond .eq 11, 3) := by decide +kernel
theorem dX9_fault_7 : decode cX9_fault 7 = .ok (.aload_n 0, 1) := by decide +kernel
theorem dX9_fault_8 : decode cX9_fault 8 = .ok (.iload_n 1, 1) := by decide +kernel
theorem dX9_fault_9 : decode cX9_fault 9 = .ok (.invokevirtual 138, 3) := by decide +kernel
theorem dX9_fault_12 : decode cX9_fault 12 = .ok (.goto 5, 3) := by decide +kernel
theorem dX9_fault_15 : decode cX9_fault 15 = .ok (.bipush (-2), 2) := by decide +kernel
theorem dX9_fault_17 : decode cX9_fault 17 = .ok (.ireturn, 1) := by decide +kernel
theorem dX9_isHook_0 : decode cX9_isHook 0 = .ok (.aload_n 0, 1) := by decide +kernel
theorem dX9_isHook_1 : decode cX9_isHook 1 = .ok (.invokevirtual 142, 3) := by decide +kernel
theorem dX9_isHook_4 : decode cX9_isHook 4 = .ok (.iload_n 1, 1) := by decide +kernel
theorem dX9_isHook_5 : decode cX9_isHook 5 = .ok (.iconst 0, 1) := by decide +kernel
theorem dX9_isHook_6 : decode cX9_isHook 6 = .ok (.aload_n 0, 1) := by decide +kernel
theorem dX9_isHook_7 : decode cX9_isHook 7 = .ok (.getfield 117, 3) := by decide +kernel
theorem dX9_isHook_10 : decode cX9_isHook 10 = .ok (.iconst 1, 1) := by decide +kernel
theorem dX9_isHook_11 : decode cX9_isHook 11 = .ok (.isub, 1) := by decide +kernel
theorem dX9_isHook_12 : decode cX9_isHook 12 = .ok (.invokestatic 109, 3) := by decide +kernel
theorem dX9_isHook_15 : decode cX9_isHook 15 = .ok (.ireturn, 1) := by decide +kernel
theorem dX9_isThing_0 : decode cX9_isThing 0 = .ok (.aload_n 0, 1) := by decide +kernel
theorem dX9_isThing_1 : decode cX9_isThing 1 = .ok (.invokevirtual 142, 3) := by decide +kernel
theorem dX9_isThing_4 : decode cX9_isThing 4 = .ok (.iload_n 1, 1) := by decide +kernel
theorem dX9_isThing_5 : decode cX9_isThing 5 = .ok (.iconst 0, 1) := by decide +kernel
theorem dX9_isThing_6 : decode cX9_isThing 6 = .ok (.aload_n 0, 1) := by decide +kernel
theorem dX9_isThing_7 : decode cX9_isThing 7 = .ok (.getfield 125, 3) := by decide +kernel
theorem dX9_isThing_10 : decode cX9_isThing 10 = .ok (.iconst 1, 1) := by decide +kernel
theorem dX9_isThing_11 : decode cX9_isThing 11 = .ok (.isub, 1) := by decide +kernel
theorem dX9_isThing_12 : decode cX9_isThing 12 = .ok (.invokestatic 109, 3) := by decide +kernel
theorem dX9_isThing_15 : decode cX9_isThing 15 = .ok (.ireturn, 1) := by decide +kernel
theorem dX9_hook_0 : decode cX9_hook 0 = .ok (.aload_n 0, 1) := by decide +kernel
theorem dX9_hook_1 : decode cX9_hook 1 = .ok (.iload_n 1, 1) := by decide +kernel
theorem dX9_hook_2 : decode cX9_hook 2 = .ok (.invokevirtual 145, 3) := by decide +kernel
theorem dX9_hook_5 : decode cX9_hook 5 = .ok (.ifCond .eq 12, 3) := by decide +kernel
theorem dX9_hook_8 : decode cX9_hook 8 = .ok (.aload_n 0, 1) := by decide +kernel
theorem dX9_hook_9 : decode cX9_hook 9 = .ok (.getfield 16, 3) := by decide +kernel
theorem dX9_hook_12 : decode cX9_hook 12 = .ok (.iload_n 1, 1) := by decide +kernel
theorem dX9_hook_13 : decode cX9_hook 13 = .ok (.iaload, 1) := by decide +kernel
theorem dX9_hook_14 : decode cX9_hook 14 = .ok (.goto 5, 3) := by decide +kernel
theorem dX9_hook_17 : decode cX9_hook 17 = .ok (.bipush (-2), 2) := by decide +kernel
theorem dX9_hook_19 : decode cX9_hook 19 = .ok (.ireturn, 1) := by decide +kernel
theorem dX9_thingOf_0 : decode cX9_thingOf 0 = .ok (.iload_n 2, 1) := by decide +kernel
theorem dX9_thingOf_1 : decode cX9_thingOf 1 = .ok (.ifCond .ne 12, 3) := by decide +kernel
theorem dX9_thingOf_4 : decode cX9_thingOf 4 = .ok (.aload_n 0, 1) := by decide +kernel
theorem dX9_thingOf_5 : decode cX9_thingOf 5 = .ok (.getfield 19, 3) := by decide +kernel
theorem dX9_thingOf_8 : decode cX9_thingOf 8 = .ok (.iload_n 1, 1) := by decide +kernel
theorem dX9_thingOf_9 : decode cX9_thingOf 9 = .ok (.iaload, 1) := by decide +kernel
theorem dX9_thingOf_10 : decode cX9_thingOf 10 = .ok (.goto 23, 3) := by decide +kernel
theorem dX9_thingOf_13 : decode cX9_thingOf 13 = .ok (.iload_n 2, 1) := by decide +kernel
theorem dX9_thingOf_14 : decode cX9_thingOf 14 = .ok (.iconst 1, 1) := by decide +kernel
theorem dX9_thingOf_15 : decode cX9_thingOf 15 = .ok (.if_icmp .ne 12, 3) := by decide +kernel
theorem dX9_thingOf_18 : decode cX9_thingOf 18 = .ok (.aload_n 0, 1) := by decide +kernel
theorem dX9_thingOf_19 : decode cX9_thingOf 19 = .ok (.getfield 22, 3) := by decide +kernel
theorem dX9_thingOf_22 : decode cX9_thingOf 22 = .ok (.iload_n 1, 1) := by decide +kernel
theorem dX9_thingOf_23 : decode cX9_thingOf 23 = .ok (.iaload, 1) := by decide +kernel
theorem dX9_thingOf_24 : decode cX9_thingOf 24 = .ok (.goto 9, 3) := by decide +kernel
theorem dX9_thingOf_27 : decode cX9_thingOf 27 = .ok (.aload_n 0, 1) := by decide +kernel
theorem dX9_thingOf_28 : decode cX9_thingOf 28 = .ok (.getfield 25, 3) := by decide +kernel
theorem dX9_thingOf_31 : decode cX9_thingOf 31 = .ok (.iload_n 1, 1) := by decide +kernel
theorem dX9_thingOf_32 : decode cX9_thingOf 32 = .ok (.iaload, 1) := by decide +kernel
theorem dX9_thingOf_33 : decode cX9_thingOf 33 = .ok (.ireturn, 1) := by decide +kernel
theorem dX9_thing_0 : decode cX9_thing 0 = .ok (.aload_n 0, 1) := by decide +kernel
theorem dX9_thing_1 : decode cX9_thing 1 = .ok (.iload_n 1, 1) := by decide +kernel
theorem dX9_thing_2 : decode cX9_thing 2 = .ok (.invokevirtual 148, 3) := by decide +kernel
theorem dX9_thing_5 : decode cX9_thing 5 = .ok (.ifCond .eq 19, 3) := by decide +kernel
theorem dX9_thing_8 : decode cX9_thing 8 = .ok (.iload_n 2, 1) := by decide +kernel
theorem dX9_thing_9 : decode cX9_thing 9 = .ok (.invokestatic 151, 3) := by decide +kernel
theorem dX9_thing_12 : decode cX9_thing 12 = .ok (.ifCond .eq 12, 3) := by decide +kernel
theorem dX9_thing_15 : decode cX9_thing 15 = .ok (.aload_n 0, 1) := by decide +kernel
theorem dX9_thing_16 : decode cX9_thing 16 = .ok (.iload_n 1, 1) := by decide +kernel
theorem dX9_thing_17 : decode cX9_thing 17 = .ok (.iload_n 2, 1) := by decide +kernel
theorem dX9_thing_18 : decode cX9_thing 18 = .ok (.invokevirtual 154, 3) := by decide +kernel
theorem dX9_thing_21 : decode cX9_thing 21 = .ok (.goto 5, 3) := by decide +kernel
theorem dX9_thing_24 : decode cX9_thing 24 = .ok (.bipush (-2), 2) := by decide +kernel
theorem dX9_thing_26 : decode cX9_thing 26 = .ok (.ireturn, 1) := by decide +kernel
theorem dX9_event_0 : decode cX9_event 0 = .ok (.iload_n 1, 1) := by decide +kernel
theorem dX9_event_1 : decode cX9_event 1 = .ok (.invokestatic 151, 3) := by decide +kernel
theorem dX9_event_4 : decode cX9_event 4 = .ok (.ifCond .eq 17, 3) := by decide +kernel
theorem dX9_event_7 : decode cX9_event 7 = .ok (.iload_n 2, 1) := by decide +kernel
theorem dX9_event_8 : decode cX9_event 8 = .ok (.invokestatic 157, 3) := by decide +kernel
theorem dX9_event_11 : decode cX9_event 11 = .ok (.ifCond .eq 10, 3) := by decide +kernel
theorem dX9_event_14 : decode cX9_event 14 = .ok (.iload_n 3, 1) := by decide +kernel
theorem dX9_event_15 : decode cX9_event 15 = .ok (.invokestatic 157, 3) := by decide +kernel
theorem dX9_event_18 : decode cX9_event 18 = .ok (.ifCond .ne 6, 3) := by decide +kernel
theorem dX9_event_21 : decode cX9_event 21 = .ok (.bipush (-2), 2) := by decide +kernel
theorem dX9_event_23 : decode cX9_event 23 = .ok (.ireturn, 1) := by decide +kernel
theorem dX9_event_24 : decode cX9_event 24 = .ok (.aload_n 0, 1) := by decide +kernel
theorem dX9_event_25 : decode cX9_event 25 = .ok (.getfield 160, 3) := by decide +kernel
theorem dX9_event_28 : decode cX9_event 28 = .ok (.bipush 8, 2) := by decide +kernel
theorem dX9_event_30 : decode cX9_event 30 = .ok (.if_icmp .ne 6, 3) := by decide +kernel
theorem dX9_event_33 : decode cX9_event 33 = .ok (.bipush (-4), 2) := by decide +kernel
theorem dX9_event_35 : decode cX9_event 35 = .ok (.ireturn, 1) := by decide +kernel
theorem dX9_event_36 : decode cX9_event 36 = .ok (.aload_n 0, 1) := by decide +kernel
theorem dX9_event_37 : decode cX9_event 37 = .ok (.getfield 28, 3) := by decide +kernel
theorem dX9_event_40 : decode cX9_event 40 = .ok (.aload_n 0, 1) := by decide +kernel
theorem dX9_event_41 : decode cX9_event 41 = .ok (.getfield 160, 3) := by decide +kernel
theorem dX9_event_44 : decode cX9_event 44 = .ok (.iload_n 1, 1) := by decide +kernel
theorem dX9_event_45 : decode cX9_event 45 = .ok (.iastore, 1) := by decide +kernel
theorem dX9_event_46 : decode cX9_event 46 = .ok (.aload_n 0, 1) := by decide +kernel
theorem dX9_event_47 : decode cX9_event 47 = .ok (.getfield 31, 3) := by decide +kernel
theorem dX9_event_50 : decode cX9_event 50 = .ok (.aload_n 0, 1) := by decide +kernel
theorem dX9_event_51 : decode cX9_event 51 = .ok (.getfield 160, 3) := by decide +kernel
theorem dX9_event_54 : decode cX9_event 54 = .ok (.iload_n 2, 1) := by decide +kernel
theorem dX9_event_55 : decode cX9_event 55 = .ok (.iastore, 1) := by decide +kernel
theorem dX9_event_56 : decode cX9_event 56 = .ok (.aload_n 0, 1) := by decide +kernel
theorem dX9_event_57 : decode cX9_event 57 = .ok (.getfield 34, 3) := by decide +kernel
theorem dX9_event_60 : decode cX9_event 60 = .ok (.aload_n 0, 1) := by decide +kernel
theorem dX9_event_61 : decode cX9_event 61 = .ok (.getfield 160, 3) := by decide +kernel
theorem dX9_event_64 : decode cX9_event 64 = .ok (.iload_n 3, 1) := by decide +kernel
theorem dX9_event_65 : decode cX9_event 65 = .ok (.iastore, 1) := by decide +kernel
theorem dX9_event_66 : decode cX9_event 66 = .ok (.aload_n 0, 1) := by decide +kernel
theorem dX9_event_67 : decode cX9_event 67 = .ok (.dup, 1) := by decide +kernel
theorem dX9_event_68 : decode cX9_event 68 = .ok (.getfield 160, 3) := by decide +kernel
theorem dX9_event_71 : decode cX9_event 71 = .ok (.iconst 1, 1) := by decide +kernel
theorem dX9_event_72 : decode cX9_event 72 = .ok (.iadd, 1) := by decide +kernel
theorem dX9_event_73 : decode cX9_event 73 = .ok (.putfield 160, 3) := by decide +kernel
theorem dX9_event_76 : decode cX9_event 76 = .ok (.aload_n 0, 1) := by decide +kernel
theorem dX9_event_77 : decode cX9_event 77 = .ok (.getfield 160, 3) := by decide +kernel
theorem dX9_event_80 : decode cX9_event 80 = .ok (.ireturn, 1) := by decide +kernel
theorem dX9_back_0 : decode cX9_back 0 = .ok (.aload_n 0, 1) := by decide +kernel
theorem dX9_back_1 : decode cX9_back 1 = .ok (.getfield 160, 3) := by decide +kernel
theorem dX9_back_4 : decode cX9_back 4 = .ok (.ifCond .ne 6, 3) := by decide +kernel
theorem dX9_back_7 : decode cX9_back 7 = .ok (.bipush (-3), 2) := by decide +kernel
theorem dX9_back_9 : decode cX9_back 9 = .ok (.ireturn, 1) := by decide +kernel
theorem dX9_back_10 : decode cX9_back 10 = .ok (.aload_n 0, 1) := by decide +kernel
theorem dX9_back_11 : decode cX9_back 11 = .ok (.dup, 1) := by decide +kernel
theorem dX9_back_12 : decode cX9_back 12 = .ok (.getfield 160, 3) := by decide +kernel
theorem dX9_back_15 : decode cX9_back 15 = .ok (.iconst 1, 1) := by decide +kernel
theorem dX9_back_16 : decode cX9_back 16 = .ok (.isub, 1) := by decide +kernel
theorem dX9_back_17 : decode cX9_back 17 = .ok (.putfield 160, 3) := by decide +kernel
theorem dX9_back_20 : decode cX9_back 20 = .ok (.aload_n 0, 1) := by decide +kernel
theorem dX9_back_21 : decode cX9_back 21 = .ok (.getfield 160, 3) := by decide +kernel
theorem dX9_back_24 : decode cX9_back 24 = .ok (.ireturn, 1) := by decide +kernel
theorem dX9_read_0 : decode cX9_read 0 = .ok (.iload_n 1, 1) := by decide +kernel
theorem dX9_read_1 : decode cX9_read 1 = .ok (.invokestatic 163, 3) := by decide +kernel
theorem dX9_read_4 : decode cX9_read 4 = .ok (.ifCond .ne 6, 3) := by decide +kernel
theorem dX9_read_7 : decode cX9_read 7 = .ok (.bipush (-2), 2) := by decide +kernel
theorem dX9_read_9 : decode cX9_read 9 = .ok (.ireturn, 1) := by decide +kernel
theorem dX9_read_10 : decode cX9_read 10 = .ok (.aload_n 0, 1) := by decide +kernel
theorem dX9_read_11 : decode cX9_read 11 = .ok (.getfield 91, 3) := by decide +kernel
theorem dX9_read_14 : decode cX9_read 14 = .ok (.iload_n 1, 1) := by decide +kernel
theorem dX9_read_15 : decode cX9_read 15 = .ok (.baload, 1) := by decide +kernel
theorem dX9_read_16 : decode cX9_read 16 = .ok (.ifCond .ne 9, 3) := by decide +kernel
theorem dX9_read_19 : decode cX9_read 19 = .ok (.aload_n 0, 1) := by decide +kernel
theorem dX9_read_20 : decode cX9_read 20 = .ok (.iconst 1, 1) := by decide +kernel
theorem dX9_read_21 : decode cX9_read 21 = .ok (.invokevirtual 166, 3) := by decide +kernel
theorem dX9_read_24 : decode cX9_read 24 = .ok (.ireturn, 1) := by decide +kernel
theorem dX9_read_25 : decode cX9_read 25 = .ok (.iconst 0, 1) := by decide +kernel
theorem dX9_read_26 : decode cX9_read 26 = .ok (.istore_n 2, 1) := by decide +kernel
theorem dX9_read_27 : decode cX9_read 27 = .ok (.bipush 60, 2) := by decide +kernel
theorem dX9_read_29 : decode cX9_read 29 = .ok (.iload_n 1, 1) := by decide +kernel
theorem dX9_read_30 : decode cX9_read 30 = .ok (.imul, 1) := by decide +kernel
theorem dX9_read_31 : decode cX9_read 31 = .ok (.istore_n 3, 1) := by decide +kernel
theorem dX9_read_32 : decode cX9_read 32 = .ok (.iconst 3, 1) := by decide +kernel
theorem dX9_read_33 : decode cX9_read 33 = .ok (.iload_n 2, 1) := by decide +kernel
theorem dX9_read_34 : decode cX9_read 34 = .ok (.imul, 1) := by decide +kernel
theorem dX9_read_35 : decode cX9_read 35 = .ok (.iconst 2, 1) := by decide +kernel
theorem dX9_read_36 : decode cX9_read 36 = .ok (.iadd, 1) := by decide +kernel
theorem dX9_read_37 : decode cX9_read 37 = .ok (.aload_n 0, 1) := by decide +kernel
theorem dX9_read_38 : decode cX9_read 38 = .ok (.getfield 98, 3) := by decide +kernel
theorem dX9_read_41 : decode cX9_read 41 = .ok (.iload_n 1, 1) := by decide +kernel
theorem dX9_read_42 : decode cX9_read 42 = .ok (.iaload, 1) := by decide +kernel
theorem dX9_read_43 : decode cX9_read 43 = .ok (.if_icmp .ge 50, 3) := by decide +kernel
theorem dX9_read_46 : decode cX9_read 46 = .ok (.aload_n 0, 1) := by decide +kernel
theorem dX9_read_47 : decode cX9_read 47 = .ok (.aload_n 0, 1) := by decide +kernel
theorem dX9_read_48 : decode cX9_read 48 = .ok (.getfield 101, 3) := by decide +kernel
theorem dX9_read_51 : decode cX9_read 51 = .ok (.iload_n 3, 1) := by decide +kernel
theorem dX9_read_52 : decode cX9_read 52 = .ok (.iconst 3, 1) := by decide +kernel
theorem dX9_read_53 : decode cX9_read 53 = .ok (.iload_n 2, 1) := by decide +kernel
theorem dX9_read_54 : decode cX9_read 54 = .ok (.imul, 1) := by decide +kernel
theorem dX9_read_55 : decode cX9_read 55 = .ok (.iadd, 1) := by decide +kernel
theorem dX9_read_56 : decode cX9_read 56 = .ok (.iaload, 1) := by decide +kernel
theorem dX9_read_57 : decode cX9_read 57 = .ok (.aload_n 0, 1) := by decide +kernel
theorem dX9_read_58 : decode cX9_read 58 = .ok (.getfield 101, 3) := by decide +kernel
theorem dX9_read_61 : decode cX9_read 61 = .ok (.iload_n 3, 1) := by decide +kernel
theorem dX9_read_62 : decode cX9_read 62 = .ok (.iconst 3, 1) := by decide +kernel
theorem dX9_read_63 : decode cX9_read 63 = .ok (.iload_n 2, 1) := by decide +kernel
theorem dX9_read_64 : decode cX9_read 64 = .ok (.imul, 1) := by decide +kernel
theorem dX9_read_65 : decode cX9_read 65 = .ok (.iadd, 1) := by decide +kernel
theorem dX9_read_66 : decode cX9_read 66 = .ok (.iconst 1, 1) := by decide +kernel
theorem dX9_read_67 : decode cX9_read 67 = .ok (.iadd, 1) := by decide +kernel
theorem dX9_read_68 : decode cX9_read 68 = .ok (.iaload, 1) := by decide +kernel
theorem dX9_read_69 : decode cX9_read 69 = .ok (.aload_n 0, 1) := by decide +kernel
theorem dX9_read_70 : decode cX9_read 70 = .ok (.getfield 101, 3) := by decide +kernel
theorem dX9_read_73 : decode cX9_read 73 = .ok (.iload_n 3, 1) := by decide +kernel
theorem dX9_read_74 : decode cX9_read 74 = .ok (.iconst 3, 1) := by decide +kernel
theorem dX9_read_75 : decode cX9_read 75 = .ok (.iload_n 2, 1) := by decide +kernel
theorem dX9_read_76 : decode cX9_read 76 = .ok (.imul, 1) := by decide +kernel
theorem dX9_read_77 : decode cX9_read 77 = .ok (.iadd, 1) := by decide +kernel
theorem dX9_read_78 : decode cX9_read 78 = .ok (.iconst 2, 1) := by decide +kernel
theorem dX9_read_79 : decode cX9_read 79 = .ok (.iadd, 1) := by decide +kernel
theorem dX9_read_80 : decode cX9_read 80 = .ok (.iaload, 1) := by decide +kernel
theorem dX9_read_81 : decode cX9_read 81 = .ok (.invokevirtual 169, 3) := by decide +kernel
theorem dX9_read_84 : decode cX9_read 84 = .ok (.ifCond .le 9, 3) := by decide +kernel
theorem dX9_read_87 : decode cX9_read 87 = .ok (.iinc 2 1, 3) := by decide +kernel
theorem dX9_read_90 : decode cX9_read 90 = .ok (.goto (-58), 3) := by decide +kernel
theorem dX9_read_93 : decode cX9_read 93 = .ok (.iload_n 2, 1) := by decide +kernel
theorem dX9_read_94 : decode cX9_read 94 = .ok (.ireturn, 1) := by decide +kernel
theorem dX9_asTold_0 : decode cX9_asTold 0 = .ok (.aload_n 0, 1) := by decide +kernel
theorem dX9_asTold_1 : decode cX9_asTold 1 = .ok (.invokevirtual 142, 3) := by decide +kernel
theorem dX9_asTold_4 : decode cX9_asTold 4 = .ok (.aload_n 0, 1) := by decide +kernel
theorem dX9_asTold_5 : decode cX9_asTold 5 = .ok (.aload_n 0, 1) := by decide +kernel
theorem dX9_asTold_6 : decode cX9_asTold 6 = .ok (.getfield 125, 3) := by decide +kernel
theorem dX9_asTold_9 : decode cX9_asTold 9 = .ok (.putfield 173, 3) := by decide +kernel
theorem dX9_asTold_12 : decode cX9_asTold 12 = .ok (.iconst 0, 1) := by decide +kernel
theorem dX9_asTold_13 : decode cX9_asTold 13 = .ok (.istore_n 1, 1) := by decide +kernel
theorem dX9_asTold_14 : decode cX9_asTold 14 = .ok (.iload_n 1, 1) := by decide +kernel
theorem dX9_asTold_15 : decode cX9_asTold 15 = .ok (.aload_n 0, 1) := by decide +kernel
theorem dX9_asTold_16 : decode cX9_asTold 16 = .ok (.getfield 125, 3) := by decide +kernel
theorem dX9_asTold_19 : decode cX9_asTold 19 = .ok (.if_icmp .ge 45, 3) := by decide +kernel
theorem dX9_asTold_22 : decode cX9_asTold 22 = .ok (.aload_n 0, 1) := by decide +kernel
theorem dX9_asTold_23 : decode cX9_asTold 23 = .ok (.getfield 37, 3) := by decide +kernel
theorem dX9_asTold_26 : decode cX9_asTold 26 = .ok (.iload_n 1, 1) := by decide +kernel
theorem dX9_asTold_27 : decode cX9_asTold 27 = .ok (.aload_n 0, 1) := by decide +kernel
theorem dX9_asTold_28 : decode cX9_asTold 28 = .ok (.getfield 19, 3) := by decide +kernel
theorem dX9_asTold_31 : decode cX9_asTold 31 = .ok (.iload_n 1, 1) := by decide +kernel
theorem dX9_asTold_32 : decode cX9_asTold 32 = .ok (.iaload, 1) := by decide +kernel
theorem dX9_asTold_33 : decode cX9_asTold 33 = .ok (.iastore, 1) := by decide +kernel
theorem dX9_asTold_34 : decode cX9_asTold 34 = .ok (.aload_n 0, 1) := by decide +kernel
theorem dX9_asTold_35 : decode cX9_asTold 35 = .ok (.getfield 40, 3) := by decide +kernel
theorem dX9_asTold_38 : decode cX9_asTold 38 = .ok (.iload_n 1, 1) := by decide +kernel
theorem dX9_asTold_39 : decode cX9_asTold 39 = .ok (.aload_n 0, 1) := by decide +kernel
theorem dX9_asTold_40 : decode cX9_asTold 40 = .ok (.getfield 22, 3) := by decide +kernel
theorem dX9_asTold_43 : decode cX9_asTold 43 = .ok (.iload_n 1, 1) := by decide +kernel
theorem dX9_asTold_44 : decode cX9_asTold 44 = .ok (.iaload, 1) := by decide +kernel
theorem dX9_asTold_45 : decode cX9_asTold 45 = .ok (.iastore, 1) := by decide +kernel
theorem dX9_asTold_46 : decode cX9_asTold 46 = .ok (.aload_n 0, 1) := by decide +kernel
theorem dX9_asTold_47 : decode cX9_asTold 47 = .ok (.getfield 43, 3) := by decide +kernel
theorem dX9_asTold_50 : decode cX9_asTold 50 = .ok (.iload_n 1, 1) := by decide +kernel
theorem dX9_asTold_51 : decode cX9_asTold 51 = .ok (.aload_n 0, 1) := by decide +kernel
theorem dX9_asTold_52 : decode cX9_asTold 52 = .ok (.getfield 25, 3) := by decide +kernel
theorem dX9_asTold_55 : decode cX9_asTold 55 = .ok (.iload_n 1, 1) := by decide +kernel
theorem dX9_asTold_56 : decode cX9_asTold 56 = .ok (.iaload, 1) := by decide +kernel
theorem dX9_asTold_57 : decode cX9_asTold 57 = .ok (.iastore, 1) := by decide +kernel
theorem dX9_asTold_58 : decode cX9_asTold 58 = .ok (.iinc 1 1, 3) := by decide +kernel
theorem dX9_asTold_61 : decode cX9_asTold 61 = .ok (.goto (-47), 3) := by decide +kernel
theorem dX9_asTold_64 : decode cX9_asTold 64 = .ok (.aload_n 0, 1) := by decide +kernel
theorem dX9_asTold_65 : decode cX9_asTold 65 = .ok (.aload_n 0, 1) := by decide +kernel
theorem dX9_asTold_66 : decode cX9_asTold 66 = .ok (.getfield 117, 3) := by decide +kernel
theorem dX9_asTold_69 : decode cX9_asTold 69 = .ok (.putfield 176, 3) := by decide +kernel
theorem dX9_asTold_72 : decode cX9_asTold 72 = .ok (.aload_n 0, 1) := by decide +kernel
theorem dX9_asTold_73 : decode cX9_asTold 73 = .ok (.iconst (-1), 1) := by decide +kernel
theorem dX9_asTold_74 : decode cX9_asTold 74 = .ok (.putfield 179, 3) := by decide +kernel
theorem dX9_asTold_77 : decode cX9_asTold 77 = .ok (.aload_n 0, 1) := by decide +kernel
theorem dX9_asTold_78 : decode cX9_asTold 78 = .ok (.iconst (-1), 1) := by decide +kernel
theorem dX9_asTold_79 : decode cX9_asTold 79 = .ok (.putfield 182, 3) := by decide +kernel
theorem dX9_asTold_82 : decode cX9_asTold 82 = .ok (.aload_n 0, 1) := by decide +kernel
theorem dX9_asTold_83 : decode cX9_asTold 83 = .ok (.iconst 0, 1) := by decide +kernel
theorem dX9_asTold_84 : decode cX9_asTold 84 = .ok (.putfield 185, 3) := by decide +kernel
theorem dX9_asTold_87 : decode cX9_asTold 87 = .ok (.return_, 1) := by decide +kernel
theorem dX9_befalls_0 : decode cX9_befalls 0 = .ok (.aload_n 0, 1) := by decide +kernel
theorem dX9_befalls_1 : decode cX9_befalls 1 = .ok (.iconst 0, 1) := by decide +kernel
theorem dX9_befalls_2 : decode cX9_befalls 2 = .ok (.putfield 188, 3) := by decide +kernel
theorem dX9_befalls_5 : decode cX9_befalls 5 = .ok (.aload_n 0, 1) := by decide +kernel
theorem dX9_befalls_6 : decode cX9_befalls 6 = .ok (.iconst 0, 1) := by decide +kernel
theorem dX9_befalls_7 : decode cX9_befalls 7 = .ok (.putfield 191, 3) := by decide +kernel
theorem dX9_befalls_10 : decode cX9_befalls 10 = .ok (.aload_n 0, 1) := by decide +kernel
theorem dX9_befalls_11 : decode cX9_befalls 11 = .ok (.aload_n 0, 1) := by decide +kernel
theorem dX9_befalls_12 : decode cX9_befalls 12 = .ok (.getfield 179, 3) := by decide +kernel
theorem dX9_befalls_15 : decode cX9_befalls 15 = .ok (.iload_n 1, 1) := by decide +kernel
theorem dX9_befalls_16 : decode cX9_befalls 16 = .ok (.if_icmp .ne 12, 3) := by decide +kernel
theorem dX9_befalls_19 : decode cX9_befalls 19 = .ok (.iconst 1, 1) := by decide +kernel
theorem dX9_befalls_20 : decode cX9_befalls 20 = .ok (.aload_n 0, 1) := by decide +kernel
theorem dX9_befalls_21 : decode cX9_befalls 21 = .ok (.getfield 182, 3) := by decide +kernel
theorem dX9_befalls_24 : decode cX9_befalls 24 = .ok (.ishl, 1) := by decide +kernel
theorem dX9_befalls_25 : decode cX9_befalls 25 = .ok (.goto 4, 3) := by decide +kernel
theorem dX9_befalls_28 : decode cX9_befalls 28 = .ok (.iconst 0, 1) := by decide +kernel
theorem dX9_befalls_29 : decode cX9_befalls 29 = .ok (.putfield 194, 3) := by decide +kernel
theorem dX9_befalls_32 : decode cX9_befalls 32 = .ok (.iconst 0, 1) := by decide +kernel
theorem dX9_befalls_33 : decode cX9_befalls 33 = .ok (.istore_n 2, 1) := by decide +kernel
theorem dX9_befalls_34 : decode cX9_befalls 34 = .ok (.iload_n 2, 1) := by decide +kernel
theorem dX9_befalls_35 : decode cX9_befalls 35 = .ok (.aload_n 0, 1) := by decide +kernel
theorem dX9_befalls_36 : decode cX9_befalls 36 = .ok (.getfield 160, 3) := by decide +kernel
theorem dX9_befalls_39 : decode cX9_befalls 39 = .ok (.if_icmp .ge 104, 3) := by decide +kernel
theorem dX9_befalls_42 : decode cX9_befalls 42 = .ok (.aload_n 0, 1) := by decide +kernel
theorem dX9_befalls_43 : decode cX9_befalls 43 = .ok (.getfield 31, 3) := by decide +kernel
theorem dX9_befalls_46 : decode cX9_befalls 46 = .ok (.iload_n 2, 1) := by decide +kernel
theorem dX9_befalls_47 : decode cX9_befalls 47 = .ok (.iaload, 1) := by decide +kernel
theorem dX9_befalls_48 : decode cX9_befalls 48 = .ok (.iload_n 1, 1) := by decide +kernel
theorem dX9_befalls_49 : decode cX9_befalls 49 = .ok (.if_icmp .ne 88, 3) := by decide +kernel
theorem dX9_befalls_52 : decode cX9_befalls 52 = .ok (.aload_n 0, 1) := by decide +kernel
theorem dX9_befalls_53 : decode cX9_befalls 53 = .ok (.getfield 185, 3) := by decide +kernel
theorem dX9_befalls_56 : decode cX9_befalls 56 = .ok (.iload_n 2, 1) := by decide +kernel
theorem dX9_befalls_57 : decode cX9_befalls 57 = .ok (.invokestatic 197, 3) := by decide +kernel
theorem dX9_befalls_60 : decode cX9_befalls 60 = .ok (.ifCond .ne 77, 3) := by decide +kernel
theorem dX9_befalls_63 : decode cX9_befalls 63 = .ok (.aload_n 0, 1) := by decide +kernel
theorem dX9_befalls_64 : decode cX9_befalls 64 = .ok (.aload_n 0, 1) := by decide +kernel
theorem dX9_befalls_65 : decode cX9_befalls 65 = .ok (.getfield 28, 3) := by decide +kernel
theorem dX9_befalls_68 : decode cX9_befalls 68 = .ok (.iload_n 2, 1) := by decide +kernel
theorem dX9_befalls_69 : decode cX9_befalls 69 = .ok (.iaload, 1) := by decide +kernel
theorem dX9_befalls_70 : decode cX9_befalls 70 = .ok (.ifCond .ne 7, 3) := by decide +kernel
theorem dX9_befalls_73 : decode cX9_befalls 73 = .ok (.iconst 1, 1) := by decide +kernel
theorem dX9_befalls_74 : decode cX9_befalls 74 = .ok (.goto 7, 3) := by decide +kernel
theorem dX9_befalls_77 : decode cX9_befalls 77 = .ok (.aload_n 0, 1) := by decide +kernel
theorem dX9_befalls_78 : decode cX9_befalls 78 = .ok (.getfield 188, 3) := by decide +kernel
theorem dX9_befalls_81 : decode cX9_befalls 81 = .ok (.putfield 188, 3) := by decide +kernel
theorem dX9_befalls_84 : decode cX9_befalls 84 = .ok (.aload_n 0, 1) := by decide +kernel
theorem dX9_befalls_85 : decode cX9_befalls 85 = .ok (.aload_n 0, 1) := by decide +kernel
theorem dX9_befalls_86 : decode cX9_befalls 86 = .ok (.getfield 28, 3) := by decide +kernel
theorem dX9_befalls_89 : decode cX9_befalls 89 = .ok (.iload_n 2, 1) := by decide +kernel
theorem dX9_befalls_90 : decode cX9_befalls 90 = .ok (.iaload, 1) := by decide +kernel
theorem dX9_befalls_91 : decode cX9_befalls 91 = .ok (.iconst 1, 1) := by decide +kernel
theorem dX9_befalls_92 : decode cX9_befalls 92 = .ok (.if_icmp .ne 7, 3) := by decide +kernel
theorem dX9_befalls_95 : decode cX9_befalls 95 = .ok (.iconst 1, 1) := by decide +kernel
theorem dX9_befalls_96 : decode cX9_befalls 96 = .ok (.goto 7, 3) := by decide +kernel
theorem dX9_befalls_99 : decode cX9_befalls 99 = .ok (.aload_n 0, 1) := by decide +kernel
theorem dX9_befalls_100 : decode cX9_befalls 100 = .ok (.getfield 191, 3) := by decide +kernel
theorem dX9_befalls_103 : decode cX9_befalls 103 = .ok (.putfield 191, 3) := by decide +kernel
theorem dX9_befalls_106 : decode cX9_befalls 106 = .ok (.aload_n 0, 1) := by decide +kernel
theorem dX9_befalls_107 : decode cX9_befalls 107 = .ok (.dup, 1) := by decide +kernel
theorem dX9_befalls_108 : decode cX9_befalls 108 = .ok (.getfield 194, 3) := by decide +kernel
theorem dX9_befalls_111 : decode cX9_befalls 111 = .ok (.aload_n 0, 1) := by decide +kernel
theorem dX9_befalls_112 : decode cX9_befalls 112 = .ok (.getfield 28, 3) := by decide +kernel
theorem dX9_befalls_115 : decode cX9_befalls 115 = .ok (.iload_n 2, 1) := by decide +kernel
theorem dX9_befalls_116 : decode cX9_befalls 116 = .ok (.iaload, 1) := by decide +kernel
theorem dX9_befalls_117 : decode cX9_befalls 117 = .ok (.iconst 2, 1) := by decide +kernel
theorem dX9_befalls_118 : decode cX9_befalls 118 = .ok (.if_icmp .ne 14, 3) := by decide +kernel
theorem dX9_befalls_121 : decode cX9_befalls 121 = .ok (.iconst 1, 1) := by decide +kernel
theorem dX9_befalls_122 : decode cX9_befalls 122 = .ok (.aload_n 0, 1) := by decide +kernel
theorem dX9_befalls_123 : decode cX9_befalls 123 = .ok (.getfield 34, 3) := by decide +kernel
theorem dX9_befalls_126 : decode cX9_befalls 126 = .ok (.iload_n 2, 1) := by decide +kernel
theorem dX9_befalls_127 : decode cX9_befalls 127 = .ok (.iaload, 1) := by decide +kernel
theorem dX9_befalls_128 : decode cX9_befalls 128 = .ok (.ishl, 1) := by decide +kernel
theorem dX9_befalls_129 : decode cX9_befalls 129 = .ok (.goto 4, 3) := by decide +kernel
theorem dX9_befalls_132 : decode cX9_befalls 132 = .ok (.iconst 0, 1) := by decide +kernel
theorem dX9_befalls_133 : decode cX9_befalls 133 = .ok (.ior, 1) := by decide +kernel
theorem dX9_befalls_134 : decode cX9_befalls 134 = .ok (.putfield 194, 3) := by decide +kernel
theorem dX9_befalls_137 : decode cX9_befalls 137 = .ok (.iinc 2 1, 3) := by decide +kernel
theorem dX9_befalls_140 : decode cX9_befalls 140 = .ok (.goto (-106), 3) := by decide +kernel
theorem dX9_befalls_143 : decode cX9_befalls 143 = .ok (.return_, 1) := by decide +kernel
theorem dX9_isOpen_0 : decode cX9_isOpen 0 = .ok (.aload_n 0, 1) := by decide +kernel
theorem dX9_isOpen_1 : decode cX9_isOpen 1 = .ok (.getfield 55, 3) := by decide +kernel
theorem dX9_isOpen_4 : decode cX9_isOpen 4 = .ok (.iload_n 1, 1) := by decide +kernel
theorem dX9_isOpen_5 : decode cX9_isOpen 5 = .ok (.iaload, 1) := by decide +kernel
theorem dX9_isOpen_6 : decode cX9_isOpen 6 = .ok (.iconst (-1), 1) := by decide +kernel
theorem dX9_isOpen_7 : decode cX9_isOpen 7 = .ok (.if_icmp .ne 7, 3) := by decide +kernel
theorem dX9_isOpen_10 : decode cX9_isOpen 10 = .ok (.iconst 1, 1) := by decide +kernel
theorem dX9_isOpen_11 : decode cX9_isOpen 11 = .ok (.goto 4, 3) := by decide +kernel
theorem dX9_isOpen_14 : decode cX9_isOpen 14 = .ok (.iconst 0, 1) := by decide +kernel
theorem dX9_isOpen_15 : decode cX9_isOpen 15 = .ok (.ireturn, 1) := by decide +kernel
theorem dX9_heatsUp_0 : decode cX9_heatsUp 0 = .ok (.iconst 0, 1) := by decide +kernel
theorem dX9_heatsUp_1 : decode cX9_heatsUp 1 = .ok (.istore_n 1, 1) := by decide +kernel
theorem dX9_heatsUp_2 : decode cX9_heatsUp 2 = .ok (.iload_n 1, 1) := by decide +kernel
theorem dX9_heatsUp_3 : decode cX9_heatsUp 3 = .ok (.aload_n 0, 1) := by decide +kernel
theorem dX9_heatsUp_4 : decode cX9_heatsUp 4 = .ok (.getfield 173, 3) := by decide +kernel
theorem dX9_heatsUp_7 : decode cX9_heatsUp 7 = .ok (.if_icmp .ge 42, 3) := by decide +kernel
theorem dX9_heatsUp_10 : decode cX9_heatsUp 10 = .ok (.aload_n 0, 1) := by decide +kernel
theorem dX9_heatsUp_11 : decode cX9_heatsUp 11 = .ok (.getfield 46, 3) := by decide +kernel
theorem dX9_heatsUp_14 : decode cX9_heatsUp 14 = .ok (.iload_n 1, 1) := by decide +kernel
theorem dX9_heatsUp_15 : decode cX9_heatsUp 15 = .ok (.dup2, 1) := by decide +kernel
theorem dX9_heatsUp_16 : decode cX9_heatsUp 16 = .ok (.iaload, 1) := by decide +kernel
theorem dX9_heatsUp_17 : decode cX9_heatsUp 17 = .ok (.aload_n 0, 1) := by decide +kernel
theorem dX9_heatsUp_18 : decode cX9_heatsUp 18 = .ok (.iload_n 1, 1) := by decide +kernel
theorem dX9_heatsUp_19 : decode cX9_heatsUp 19 = .ok (.invokevirtual 201, 3) := by decide +kernel
theorem dX9_heatsUp_22 : decode cX9_heatsUp 22 = .ok (.ifCond .eq 18, 3) := by decide +kernel
theorem dX9_heatsUp_25 : decode cX9_heatsUp 25 = .ok (.aload_n 0, 1) := by decide +kernel
theorem dX9_heatsUp_26 : decode cX9_heatsUp 26 = .ok (.getfield 46, 3) := by decide +kernel
theorem dX9_heatsUp_29 : decode cX9_heatsUp 29 = .ok (.iload_n 1, 1) := by decide +kernel
theorem dX9_heatsUp_30 : decode cX9_heatsUp 30 = .ok (.iaload, 1) := by decide +kernel
theorem dX9_heatsUp_31 : decode cX9_heatsUp 31 = .ok (.bipush 9, 2) := by decide +kernel
theorem dX9_heatsUp_33 : decode cX9_heatsUp 33 = .ok (.if_icmp .ge 7, 3) := by decide +kernel
theorem dX9_heatsUp_36 : decode cX9_heatsUp 36 = .ok (.iconst 1, 1) := by decide +kernel
theorem dX9_heatsUp_37 : decode cX9_heatsUp 37 = .ok (.goto 4, 3) := by decide +kernel
theorem dX9_heatsUp_40 : decode cX9_heatsUp 40 = .ok (.iconst 0, 1) := by decide +kernel
theorem dX9_heatsUp_41 : decode cX9_heatsUp 41 = .ok (.iadd, 1) := by decide +kernel
theorem dX9_heatsUp_42 : decode cX9_heatsUp 42 = .ok (.iastore, 1) := by decide +kernel
theorem dX9_heatsUp_43 : decode cX9_heatsUp 43 = .ok (.iinc 1 1, 3) := by decide +kernel
theorem dX9_heatsUp_46 : decode cX9_heatsUp 46 = .ok (.goto (-44), 3) := by decide +kernel
theorem dX9_heatsUp_49 : decode cX9_heatsUp 49 = .ok (.return_, 1) := by decide +kernel
theorem dX9_chosen_0 : decode cX9_chosen 0 = .ok (.iconst (-1), 1) := by decide +kernel
theorem dX9_chosen_1 : decode cX9_chosen 1 = .ok (.istore_n 2, 1) := by decide +kernel
theorem dX9_chosen_2 : decode cX9_chosen 2 = .ok (.iconst 0, 1) := by decide +kernel
theorem dX9_chosen_3 : decode cX9_chosen 3 = .ok (.istore_n 3, 1) := by decide +kernel
theorem dX9_chosen_4 : decode cX9_chosen 4 = .ok (.iconst 0, 1) := by decide +kernel
theorem dX9_chosen_5 : decode cX9_chosen 5 = .ok (.istore 4, 2) := by decide +kernel
theorem dX9_chosen_7 : decode cX9_chosen 7 = .ok (.iload 4, 2) := by decide +kernel
theorem dX9_chosen_9 : decode cX9_chosen 9 = .ok (.aload_n 0, 1) := by decide +kernel
theorem dX9_chosen_10 : decode cX9_chosen 10 = .ok (.getfield 173, 3) := by decide +kernel
theorem dX9_chosen_13 : decode cX9_chosen 13 = .ok (.if_icmp .ge 102, 3) := by decide +kernel
theorem dX9_chosen_16 : decode cX9_chosen 16 = .ok (.aload_n 0, 1) := by decide +kernel
theorem dX9_chosen_17 : decode cX9_chosen 17 = .ok (.iload 4, 2) := by decide +kernel
theorem dX9_chosen_19 : decode cX9_chosen 19 = .ok (.invokevirtual 201, 3) := by decide +kernel
theorem dX9_chosen_22 : decode cX9_chosen 22 = .ok (.ifCond .eq 87, 3) := by decide +kernel
theorem dX9_chosen_25 : decode cX9_chosen 25 = .ok (.aload_n 0, 1) := by decide +kernel
theorem dX9_chosen_26 : decode cX9_chosen 26 = .ok (.getfield 37, 3) := by decide +kernel
theorem dX9_chosen_29 : decode cX9_chosen 29 = .ok (.iload 4, 2) := by decide +kernel
theorem dX9_chosen_31 : decode cX9_chosen 31 = .ok (.iaload, 1) := by decide +kernel
theorem dX9_chosen_32 : decode cX9_chosen 32 = .ok (.ifCond .ne 14, 3) := by decide +kernel
theorem dX9_chosen_35 : decode cX9_chosen 35 = .ok (.iload_n 1, 1) := by decide +kernel
theorem dX9_chosen_36 : decode cX9_chosen 36 = .ok (.aload_n 0, 1) := by decide +kernel
theorem dX9_chosen_37 : decode cX9_chosen 37 = .ok (.getfield 43, 3) := by decide +kernel
theorem dX9_chosen_40 : decode cX9_chosen 40 = .ok (.iload 4, 2) := by decide +kernel
theorem dX9_chosen_42 : decode cX9_chosen 42 = .ok (.iaload, 1) := by decide +kernel
theorem dX9_chosen_43 : decode cX9_chosen 43 = .ok (.if_icmp .le 25, 3) := by decide +kernel
theorem dX9_chosen_46 : decode cX9_chosen 46 = .ok (.aload_n 0, 1) := by decide +kernel
theorem dX9_chosen_47 : decode cX9_chosen 47 = .ok (.getfield 37, 3) := by decide +kernel
theorem dX9_chosen_50 : decode cX9_chosen 50 = .ok (.iload 4, 2) := by decide +kernel
theorem dX9_chosen_52 : decode cX9_chosen 52 = .ok (.iaload, 1) := by decide +kernel
theorem dX9_chosen_53 : decode cX9_chosen 53 = .ok (.iconst 1, 1) := by decide +kernel
theorem dX9_chosen_54 : decode cX9_chosen 54 = .ok (.if_icmp .ne 18, 3) := by decide +kernel
theorem dX9_chosen_57 : decode cX9_chosen 57 = .ok (.iload_n 1, 1) := by decide +kernel
theorem dX9_chosen_58 : decode cX9_chosen 58 = .ok (.aload_n 0, 1) := by decide +kernel
theorem dX9_chosen_59 : decode cX9_chosen 59 = .ok (.getfield 43, 3) := by decide +kernel
theorem dX9_chosen_62 : decode cX9_chosen 62 = .ok (.iload 4, 2) := by decide +kernel
theorem dX9_chosen_64 : decode cX9_chosen 64 = .ok (.iaload, 1) := by decide +kernel
theorem dX9_chosen_65 : decode cX9_chosen 65 = .ok (.if_icmp .lt 7, 3) := by decide +kernel
theorem dX9_chosen_68 : decode cX9_chosen 68 = .ok (.iconst 1, 1) := by decide +kernel
theorem dX9_chosen_69 : decode cX9_chosen 69 = .ok (.goto 4, 3) := by decide +kernel
theorem dX9_chosen_72 : decode cX9_chosen 72 = .ok (.iconst 0, 1) := by decide +kernel
theorem dX9_chosen_73 : decode cX9_chosen 73 = .ok (.istore 5, 2) := by decide +kernel
theorem dX9_chosen_75 : decode cX9_chosen 75 = .ok (.iload 5, 2) := by decide +kernel
theorem dX9_chosen_77 : decode cX9_chosen 77 = .ok (.ifCond .eq 6, 3) := by decide +kernel
theorem dX9_chosen_80 : decode cX9_chosen 80 = .ok (.iload 4, 2) := by decide +kernel
theorem dX9_chosen_82 : decode cX9_chosen 82 = .ok (.ireturn, 1) := by decide +kernel
theorem dX9_chosen_83 : decode cX9_chosen 83 = .ok (.aload_n 0, 1) := by decide +kernel
theorem dX9_chosen_84 : decode cX9_chosen 84 = .ok (.getfield 37, 3) := by decide +kernel
theorem dX9_chosen_87 : decode cX9_chosen 87 = .ok (.iload 4, 2) := by decide +kernel
theorem dX9_chosen_89 : decode cX9_chosen 89 = .ok (.iaload, 1) := by decide +kernel
theorem dX9_chosen_90 : decode cX9_chosen 90 = .ok (.iconst 2, 1) := by decide +kernel
theorem dX9_chosen_91 : decode cX9_chosen 91 = .ok (.if_icmp .ne 13, 3) := by decide +kernel
theorem dX9_chosen_94 : decode cX9_chosen 94 = .ok (.iload_n 2, 1) := by decide +kernel
theorem dX9_chosen_95 : decode cX9_chosen 95 = .ok (.iconst (-1), 1) := by decide +kernel
theorem dX9_chosen_96 : decode cX9_chosen 96 = .ok (.if_icmp .ne 8, 3) := by decide +kernel
theorem dX9_chosen_99 : decode cX9_chosen 99 = .ok (.iload 4, 2) := by decide +kernel
theorem dX9_chosen_101 : decode cX9_chosen 101 = .ok (.goto 4, 3) := by decide +kernel
theorem dX9_chosen_104 : decode cX9_chosen 104 = .ok (.iload_n 2, 1) := by decide +kernel
theorem dX9_chosen_105 : decode cX9_chosen 105 = .ok (.istore_n 2, 1) := by decide +kernel
theorem dX9_chosen_106 : decode cX9_chosen 106 = .ok (.iinc 3 1, 3) := by decide +kernel
theorem dX9_chosen_109 : decode cX9_chosen 109 = .ok (.iinc 4 1, 3) := by decide +kernel
theorem dX9_chosen_112 : decode cX9_chosen 112 = .ok (.goto (-105), 3) := by decide +kernel
theorem dX9_chosen_115 : decode cX9_chosen 115 = .ok (.iload_n 2, 1) := by decide +kernel
theorem dX9_chosen_116 : decode cX9_chosen 116 = .ok (.iconst (-1), 1) := by decide +kernel
theorem dX9_chosen_117 : decode cX9_chosen 117 = .ok (.if_icmp .eq 7, 3) := by decide +kernel
theorem dX9_chosen_120 : decode cX9_chosen 120 = .ok (.iload_n 2, 1) := by decide +kernel
theorem dX9_chosen_121 : decode cX9_chosen 121 = .ok (.goto 14, 3) := by decide +kernel
theorem dX9_chosen_124 : decode cX9_chosen 124 = .ok (.iload_n 3, 1) := by decide +kernel
theorem dX9_chosen_125 : decode cX9_chosen 125 = .ok (.ifCond .ne 8, 3) := by decide +kernel
theorem dX9_chosen_128 : decode cX9_chosen 128 = .ok (.bipush 8, 2) := by decide +kernel
theorem dX9_chosen_130 : decode cX9_chosen 130 = .ok (.goto 5, 3) := by decide +kernel
theorem dX9_chosen_133 : decode cX9_chosen 133 = .ok (.bipush 9, 2) := by decide +kernel
theorem dX9_chosen_135 : decode cX9_chosen 135 = .ok (.ireturn, 1) := by decide +kernel
theorem dX9_says_0 : decode cX9_says 0 = .ok (.aload_n 0, 1) := by decide +kernel
theorem dX9_says_1 : decode cX9_says 1 = .ok (.iload_n 2, 1) := by decide +kernel
theorem dX9_says_2 : decode cX9_says 2 = .ok (.invokevirtual 204, 3) := by decide +kernel
theorem dX9_says_5 : decode cX9_says 5 = .ok (.istore_n 3, 1) := by decide +kernel
theorem dX9_says_6 : decode cX9_says 6 = .ok (.aload_n 0, 1) := by decide +kernel
theorem dX9_says_7 : decode cX9_says 7 = .ok (.dup, 1) := by decide +kernel
theorem dX9_says_8 : decode cX9_says 8 = .ok (.getfield 207, 3) := by decide +kernel
theorem dX9_says_11 : decode cX9_says 11 = .ok (.iconst 1, 1) := by decide +kernel
theorem dX9_says_12 : decode cX9_says 12 = .ok (.iadd, 1) := by decide +kernel
theorem dX9_says_13 : decode cX9_says 13 = .ok (.putfield 207, 3) := by decide +kernel
theorem dX9_says_16 : decode cX9_says 16 = .ok (.aload_n 0, 1) := by decide +kernel
theorem dX9_says_17 : decode cX9_says 17 = .ok (.dup, 1) := by decide +kernel
theorem dX9_says_18 : decode cX9_says 18 = .ok (.getfield 210, 3) := by decide +kernel
theorem dX9_says_21 : decode cX9_says 21 = .ok (.iload_n 3, 1) := by decide +kernel
theorem dX9_says_22 : decode cX9_says 22 = .ok (.bipush 8, 2) := by decide +kernel
theorem dX9_says_24 : decode cX9_says 24 = .ok (.if_icmp .ne 7, 3) := by decide +kernel
theorem dX9_says_27 : decode cX9_says 27 = .ok (.iconst 1, 1) := by decide +kernel
theorem dX9_says_28 : decode cX9_says 28 = .ok (.goto 4, 3) := by decide +kernel
theorem dX9_says_31 : decode cX9_says 31 = .ok (.iconst 0, 1) := by decide +kernel
theorem dX9_says_32 : decode cX9_says 32 = .ok (.iadd, 1) := by decide +kernel
theorem dX9_says_33 : decode cX9_says 33 = .ok (.putfield 210, 3) := by decide +kernel
theorem dX9_says_36 : decode cX9_says 36 = .ok (.aload_n 0, 1) := by decide +kernel
theorem dX9_says_37 : decode cX9_says 37 = .ok (.dup, 1) := by decide +kernel
theorem dX9_says_38 : decode cX9_says 38 = .ok (.getfield 213, 3) := by decide +kernel
theorem dX9_says_41 : decode cX9_says 41 = .ok (.iload_n 3, 1) := by decide +kernel
theorem dX9_says_42 : decode cX9_says 42 = .ok (.bipush 9, 2) := by decide +kernel
theorem dX9_says_44 : decode cX9_says 44 = .ok (.if_icmp .ne 7, 3) := by decide +kernel
theorem dX9_says_47 : decode cX9_says 47 = .ok (.iconst 1, 1) := by decide +kernel
theorem dX9_says_48 : decode cX9_says 48 = .ok (.goto 4, 3) := by decide +kernel
theorem dX9_says_51 : decode cX9_says 51 = .ok (.iconst 0, 1) := by decide +kernel
theorem dX9_says_52 : decode cX9_says 52 = .ok (.iadd, 1) := by decide +kernel
theorem dX9_says_53 : decode cX9_says 53 = .ok (.putfield 213, 3) := by decide +kernel
theorem dX9_says_56 : decode cX9_says 56 = .ok (.aload_n 0, 1) := by decide +kernel
theorem dX9_says_57 : decode cX9_says 57 = .ok (.getfield 67, 3) := by decide +kernel
theorem dX9_says_60 : decode cX9_says 60 = .ok (.bipush 12, 2) := by decide +kernel
theorem dX9_says_62 : decode cX9_says 62 = .ok (.iload_n 1, 1) := by decide +kernel
theorem dX9_says_63 : decode cX9_says 63 = .ok (.imul, 1) := by decide +kernel
theorem dX9_says_64 : decode cX9_says 64 = .ok (.iload_n 2, 1) := by decide +kernel
theorem dX9_says_65 : decode cX9_says 65 = .ok (.iadd, 1) := by decide +kernel
theorem dX9_says_66 : decode cX9_says 66 = .ok (.iload_n 3, 1) := by decide +kernel
theorem dX9_says_67 : decode cX9_says 67 = .ok (.iastore, 1) := by decide +kernel
theorem dX9_says_68 : decode cX9_says 68 = .ok (.iload_n 3, 1) := by decide +kernel
theorem dX9_says_69 : decode cX9_says 69 = .ok (.bipush 8, 2) := by decide +kernel
theorem dX9_says_71 : decode cX9_says 71 = .ok (.if_icmp .ge 141, 3) := by decide +kernel
theorem dX9_says_74 : decode cX9_says 74 = .ok (.aload_n 0, 1) := by decide +kernel
theorem dX9_says_75 : decode cX9_says 75 = .ok (.getfield 37, 3) := by decide +kernel
theorem dX9_says_78 : decode cX9_says 78 = .ok (.iload_n 3, 1) := by decide +kernel
theorem dX9_says_79 : decode cX9_says 79 = .ok (.iaload, 1) := by decide +kernel
theorem dX9_says_80 : decode cX9_says 80 = .ok (.iconst 1, 1) := by decide +kernel
theorem dX9_says_81 : decode cX9_says 81 = .ok (.if_icmp .ne 14, 3) := by decide +kernel
theorem dX9_says_84 : decode cX9_says 84 = .ok (.aload_n 0, 1) := by decide +kernel
theorem dX9_says_85 : decode cX9_says 85 = .ok (.getfield 216, 3) := by decide +kernel
theorem dX9_says_88 : decode cX9_says 88 = .ok (.ifCond .le 7, 3) := by decide +kernel
theorem dX9_says_91 : decode cX9_says 91 = .ok (.iconst 2, 1) := by decide +kernel
theorem dX9_says_92 : decode cX9_says 92 = .ok (.goto 26, 3) := by decide +kernel
theorem dX9_says_95 : decode cX9_says 95 = .ok (.aload_n 0, 1) := by decide +kernel
theorem dX9_says_96 : decode cX9_says 96 = .ok (.getfield 37, 3) := by decide +kernel
theorem dX9_says_99 : decode cX9_says 99 = .ok (.iload_n 3, 1) := by decide +kernel
theorem dX9_says_100 : decode cX9_says 100 = .ok (.iaload, 1) := by decide +kernel
theorem dX9_says_101 : decode cX9_says 101 = .ok (.iconst 2, 1) := by decide +kernel
theorem dX9_says_102 : decode cX9_says 102 = .ok (.if_icmp .ne 15, 3) := by decide +kernel
theorem dX9_says_105 : decode cX9_says 105 = .ok (.iload_n 2, 1) := by decide +kernel
theorem dX9_says_106 : decode cX9_says 106 = .ok (.aload_n 0, 1) := by decide +kernel
theorem dX9_says_107 : decode cX9_says 107 = .ok (.getfield 219, 3) := by decide +kernel
theorem dX9_says_110 : decode cX9_says 110 = .ok (.if_icmp .ne 7, 3) := by decide +kernel
theorem dX9_says_113 : decode cX9_says 113 = .ok (.iconst 3, 1) := by decide +kernel
theorem dX9_says_114 : decode cX9_says 114 = .ok (.goto 4, 3) := by decide +kernel
theorem dX9_says_117 : decode cX9_says 117 = .ok (.iconst 1, 1) := by decide +kernel
theorem dX9_says_118 : decode cX9_says 118 = .ok (.istore 4, 2) := by decide +kernel
theorem dX9_says_120 : decode cX9_says 120 = .ok (.aload_n 0, 1) := by decide +kernel
theorem dX9_says_121 : decode cX9_says 121 = .ok (.getfield 49, 3) := by decide +kernel
theorem dX9_says_124 : decode cX9_says 124 = .ok (.iload_n 3, 1) := by decide +kernel
theorem dX9_says_125 : decode cX9_says 125 = .ok (.dup2, 1) := by decide +kernel
theorem dX9_says_126 : decode cX9_says 126 = .ok (.iaload, 1) := by decide +kernel
theorem dX9_says_127 : decode cX9_says 127 = .ok (.iconst 1, 1) := by decide +kernel
theorem dX9_says_128 : decode cX9_says 128 = .ok (.iadd, 1) := by decide +kernel
theorem dX9_says_129 : decode cX9_says 129 = .ok (.iastore, 1) := by decide +kernel
theorem dX9_says_130 : decode cX9_says 130 = .ok (.aload_n 0, 1) := by decide +kernel
theorem dX9_says_131 : decode cX9_says 131 = .ok (.getfield 58, 3) := by decide +kernel
theorem dX9_says_134 : decode cX9_says 134 = .ok (.iload_n 3, 1) := by decide +kernel
theorem dX9_says_135 : decode cX9_says 135 = .ok (.iload_n 2, 1) := by decide +kernel
theorem dX9_says_136 : decode cX9_says 136 = .ok (.aload_n 0, 1) := by decide +kernel
theorem dX9_says_137 : decode cX9_says 137 = .ok (.getfield 58, 3) := by decide +kernel
theorem dX9_says_140 : decode cX9_says 140 = .ok (.iload_n 3, 1) := by decide +kernel
theorem dX9_says_141 : decode cX9_says 141 = .ok (.iaload, 1) := by decide +kernel
theorem dX9_says_142 : decode cX9_says 142 = .ok (.if_icmp .le 7, 3) := by decide +kernel
theorem dX9_says_145 : decode cX9_says 145 = .ok (.iload_n 2, 1) := by decide +kernel
theorem dX9_says_146 : decode cX9_says 146 = .ok (.goto 9, 3) := by decide +kernel
theorem dX9_says_149 : decode cX9_says 149 = .ok (.aload_n 0, 1) := by decide +kernel
theorem dX9_says_150 : decode cX9_says 150 = .ok (.getfield 58, 3) := by decide +kernel
theorem dX9_says_153 : decode cX9_says 153 = .ok (.iload_n 3, 1) := by decide +kernel
theorem dX9_says_154 : decode cX9_says 154 = .ok (.iaload, 1) := by decide +kernel
theorem dX9_says_155 : decode cX9_says 155 = .ok (.iastore, 1) := by decide +kernel
theorem dX9_says_156 : decode cX9_says 156 = .ok (.aload_n 0, 1) := by decide +kernel
theorem dX9_says_157 : decode cX9_says 157 = .ok (.getfield 46, 3) := by decide +kernel
theorem dX9_says_160 : decode cX9_says 160 = .ok (.iload_n 3, 1) := by decide +kernel
theorem dX9_says_161 : decode cX9_says 161 = .ok (.aload_n 0, 1) := by decide +kernel
theorem dX9_says_162 : decode cX9_says 162 = .ok (.getfield 46, 3) := by decide +kernel
theorem dX9_says_165 : decode cX9_says 165 = .ok (.iload_n 3, 1) := by decide +kernel
theorem dX9_says_166 : decode cX9_says 166 = .ok (.iaload, 1) := by decide +kernel
theorem dX9_says_167 : decode cX9_says 167 = .ok (.iload 4, 2) := by decide +kernel
theorem dX9_says_169 : decode cX9_says 169 = .ok (.if_icmp .ge 7, 3) := by decide +kernel
theorem dX9_says_172 : decode cX9_says 172 = .ok (.iconst 0, 1) := by decide +kernel
theorem dX9_says_173 : decode cX9_says 173 = .ok (.goto 12, 3) := by decide +kernel
theorem dX9_says_176 : decode cX9_says 176 = .ok (.aload_n 0, 1) := by decide +kernel
theorem dX9_says_177 : decode cX9_says 177 = .ok (.getfield 46, 3) := by decide +kernel
theorem dX9_says_180 : decode cX9_says 180 = .ok (.iload_n 3, 1) := by decide +kernel
theorem dX9_says_181 : decode cX9_says 181 = .ok (.iaload, 1) := by decide +kernel
theorem dX9_says_182 : decode cX9_says 182 = .ok (.iload 4, 2) := by decide +kernel
theorem dX9_says_184 : decode cX9_says 184 = .ok (.isub, 1) := by decide +kernel
theorem dX9_says_185 : decode cX9_says 185 = .ok (.iastore, 1) := by decide +kernel
theorem dX9_says_186 : decode cX9_says 186 = .ok (.aload_n 0, 1) := by decide +kernel
theorem dX9_says_187 : decode cX9_says 187 = .ok (.getfield 46, 3) := by decide +kernel
theorem dX9_says_190 : decode cX9_says 190 = .ok (.iload_n 3, 1) := by decide +kernel
theorem dX9_says_191 : decode cX9_says 191 = .ok (.iaload, 1) := by decide +kernel
theorem dX9_says_192 : decode cX9_says 192 = .ok (.ifCond .ne 20, 3) := by decide +kernel
theorem dX9_says_195 : decode cX9_says 195 = .ok (.aload_n 0, 1) := by decide +kernel
theorem dX9_says_196 : decode cX9_says 196 = .ok (.getfield 55, 3) := by decide +kernel
theorem dX9_says_199 : decode cX9_says 199 = .ok (.iload_n 3, 1) := by decide +kernel
theorem dX9_says_200 : decode cX9_says 200 = .ok (.iload_n 1, 1) := by decide +kernel
theorem dX9_says_201 : decode cX9_says 201 = .ok (.iastore, 1) := by decide +kernel
theorem dX9_says_202 : decode cX9_says 202 = .ok (.aload_n 0, 1) := by decide +kernel
theorem dX9_says_203 : decode cX9_says 203 = .ok (.dup, 1) := by decide +kernel
theorem dX9_says_204 : decode cX9_says 204 = .ok (.getfield 216, 3) := by decide +kernel
theorem dX9_says_207 : decode cX9_says 207 = .ok (.iconst 1, 1) := by decide +kernel
theorem dX9_says_208 : decode cX9_says 208 = .ok (.iadd, 1) := by decide +kernel
theorem dX9_says_209 : decode cX9_says 209 = .ok (.putfield 216, 3) := by decide +kernel
theorem dX9_says_212 : decode cX9_says 212 = .ok (.return_, 1) := by decide +kernel
theorem dX9_takes_0 : decode cX9_takes 0 = .ok (.aload_n 0, 1) := by decide +kernel
theorem dX9_takes_1 : decode cX9_takes 1 = .ok (.getfield 16, 3) := by decide +kernel
theorem dX9_takes_4 : decode cX9_takes 4 = .ok (.iload_n 1, 1) := by decide +kernel
theorem dX9_takes_5 : decode cX9_takes 5 = .ok (.iaload, 1) := by decide +kernel
theorem dX9_takes_6 : decode cX9_takes 6 = .ok (.aload_n 0, 1) := by decide +kernel
theorem dX9_takes_7 : decode cX9_takes 7 = .ok (.getfield 194, 3) := by decide +kernel
theorem dX9_takes_10 : decode cX9_takes 10 = .ok (.iload_n 1, 1) := by decide +kernel
theorem dX9_takes_11 : decode cX9_takes 11 = .ok (.invokestatic 197, 3) := by decide +kernel
theorem dX9_takes_14 : decode cX9_takes 14 = .ok (.ifCond .eq 7, 3) := by decide +kernel
theorem dX9_takes_17 : decode cX9_takes 17 = .ok (.iconst 1, 1) := by decide +kernel
theorem dX9_takes_18 : decode cX9_takes 18 = .ok (.goto 4, 3) := by decide +kernel
theorem dX9_takes_21 : decode cX9_takes 21 = .ok (.iconst 0, 1) := by decide +kernel
theorem dX9_takes_22 : decode cX9_takes 22 = .ok (.iadd, 1) := by decide +kernel
theorem dX9_takes_23 : decode cX9_takes 23 = .ok (.ireturn, 1) := by decide +kernel
theorem dX9_lastOf_0 : decode cX9_lastOf 0 = .ok (.iconst (-1), 1) := by decide +kernel
theorem dX9_lastOf_1 : decode cX9_lastOf 1 = .ok (.istore_n 1, 1) := by decide +kernel
theorem dX9_lastOf_2 : decode cX9_lastOf 2 = .ok (.iconst 0, 1) := by decide +kernel
theorem dX9_lastOf_3 : decode cX9_lastOf 3 = .ok (.istore_n 2, 1) := by decide +kernel
theorem dX9_lastOf_4 : decode cX9_lastOf 4 = .ok (.iload_n 2, 1) := by decide +kernel
theorem dX9_lastOf_5 : decode cX9_lastOf 5 = .ok (.aload_n 0, 1) := by decide +kernel
theorem dX9_lastOf_6 : decode cX9_lastOf 6 = .ok (.getfield 176, 3) := by decide +kernel
theorem dX9_lastOf_9 : decode cX9_lastOf 9 = .ok (.if_icmp .ge 34, 3) := by decide +kernel
theorem dX9_lastOf_12 : decode cX9_lastOf 12 = .ok (.aload_n 0, 1) := by decide +kernel
theorem dX9_lastOf_13 : decode cX9_lastOf 13 = .ok (.getfield 194, 3) := by decide +kernel
theorem dX9_lastOf_16 : decode cX9_lastOf 16 = .ok (.iload_n 2, 1) := by decide +kernel
theorem dX9_lastOf_17 : decode cX9_lastOf 17 = .ok (.invokestatic 197, 3) := by decide +kernel
theorem dX9_lastOf_20 : decode cX9_lastOf 20 = .ok (.ifCond .ne 15, 3) := by decide +kernel
theorem dX9_lastOf_23 : decode cX9_lastOf 23 = .ok (.aload_n 0, 1) := by decide +kernel
theorem dX9_lastOf_24 : decode cX9_lastOf 24 = .ok (.iload_n 2, 1) := by decide +kernel
theorem dX9_lastOf_25 : decode cX9_lastOf 25 = .ok (.invokevirtual 222, 3) := by decide +kernel
theorem dX9_lastOf_28 : decode cX9_lastOf 28 = .ok (.ifCond .le 7, 3) := by decide +kernel
theorem dX9_lastOf_31 : decode cX9_lastOf 31 = .ok (.iload_n 2, 1) := by decide +kernel
theorem dX9_lastOf_32 : decode cX9_lastOf 32 = .ok (.goto 4, 3) := by decide +kernel
theorem dX9_lastOf_35 : decode cX9_lastOf 35 = .ok (.iload_n 1, 1) := by decide +kernel
theorem dX9_lastOf_36 : decode cX9_lastOf 36 = .ok (.istore_n 1, 1) := by decide +kernel
theorem dX9_lastOf_37 : decode cX9_lastOf 37 = .ok (.iinc 2 1, 3) := by decide +kernel
theorem dX9_lastOf_40 : decode cX9_lastOf 40 = .ok (.goto (-36), 3) := by decide +kernel
theorem dX9_lastOf_43 : decode cX9_lastOf 43 = .ok (.iconst 0, 1) := by decide +kernel
theorem dX9_lastOf_44 : decode cX9_lastOf 44 = .ok (.istore_n 2, 1) := by decide +kernel
theorem dX9_lastOf_45 : decode cX9_lastOf 45 = .ok (.iload_n 2, 1) := by decide +kernel
theorem dX9_lastOf_46 : decode cX9_lastOf 46 = .ok (.aload_n 0, 1) := by decide +kernel
theorem dX9_lastOf_47 : decode cX9_lastOf 47 = .ok (.getfield 176, 3) := by decide +kernel
theorem dX9_lastOf_50 : decode cX9_lastOf 50 = .ok (.if_icmp .ge 34, 3) := by decide +kernel
theorem dX9_lastOf_53 : decode cX9_lastOf 53 = .ok (.aload_n 0, 1) := by decide +kernel
theorem dX9_lastOf_54 : decode cX9_lastOf 54 = .ok (.getfield 194, 3) := by decide +kernel
theorem dX9_lastOf_57 : decode cX9_lastOf 57 = .ok (.iload_n 2, 1) := by decide +kernel
theorem dX9_lastOf_58 : decode cX9_lastOf 58 = .ok (.invokestatic 197, 3) := by decide +kernel
theorem dX9_lastOf_61 : decode cX9_lastOf 61 = .ok (.ifCond .eq 15, 3) := by decide +kernel
theorem dX9_lastOf_64 : decode cX9_lastOf 64 = .ok (.aload_n 0, 1) := by decide +kernel
theorem dX9_lastOf_65 : decode cX9_lastOf 65 = .ok (.iload_n 2, 1) := by decide +kernel
theorem dX9_lastOf_66 : decode cX9_lastOf 66 = .ok (.invokevirtual 222, 3) := by decide +kernel
theorem dX9_lastOf_69 : decode cX9_lastOf 69 = .ok (.ifCond .le 7, 3) := by decide +kernel
theorem dX9_lastOf_72 : decode cX9_lastOf 72 = .ok (.iload_n 2, 1) := by decide +kernel
theorem dX9_lastOf_73 : decode cX9_lastOf 73 = .ok (.goto 4, 3) := by decide +kernel
theorem dX9_lastOf_76 : decode cX9_lastOf 76 = .ok (.iload_n 1, 1) := by decide +kernel
theorem dX9_lastOf_77 : decode cX9_lastOf 77 = .ok (.istore_n 1, 1) := by decide +kernel
theorem dX9_lastOf_78 : decode cX9_lastOf 78 = .ok (.iinc 2 1, 3) := by decide +kernel
theorem dX9_lastOf_81 : decode cX9_lastOf 81 = .ok (.goto (-36), 3) := by decide +kernel
theorem dX9_lastOf_84 : decode cX9_lastOf 84 = .ok (.iload_n 1, 1) := by decide +kernel
theorem dX9_lastOf_85 : decode cX9_lastOf 85 = .ok (.ireturn, 1) := by decide +kernel
theorem dX9_does_0 : decode cX9_does 0 = .ok (.iconst 0, 1) := by decide +kernel
theorem dX9_does_1 : decode cX9_does 1 = .ok (.istore_n 3, 1) := by decide +kernel
theorem dX9_does_2 : decode cX9_does 2 = .ok (.iload_n 3, 1) := by decide +kernel
theorem dX9_does_3 : decode cX9_does 3 = .ok (.aload_n 0, 1) := by decide +kernel
theorem dX9_does_4 : decode cX9_does 4 = .ok (.getfield 176, 3) := by decide +kernel
theorem dX9_does_7 : decode cX9_does 7 = .ok (.if_icmp .ge 45, 3) := by decide +kernel
theorem dX9_does_10 : decode cX9_does 10 = .ok (.aload_n 0, 1) := by decide +kernel
theorem dX9_does_11 : decode cX9_does 11 = .ok (.getfield 194, 3) := by decide +kernel
theorem dX9_does_14 : decode cX9_does 14 = .ok (.iload_n 3, 1) := by decide +kernel
theorem dX9_does_15 : decode cX9_does 15 = .ok (.invokestatic 197, 3) := by decide +kernel
theorem dX9_does_18 : decode cX9_does 18 = .ok (.iload_n 2, 1) := by decide +kernel
theorem dX9_does_19 : decode cX9_does 19 = .ok (.if_icmp .ne 27, 3) := by decide +kernel
theorem dX9_does_22 : decode cX9_does 22 = .ok (.aload_n 0, 1) := by decide +kernel
theorem dX9_does_23 : decode cX9_does 23 = .ok (.iload_n 3, 1) := by decide +kernel
theorem dX9_does_24 : decode cX9_does 24 = .ok (.invokevirtual 222, 3) := by decide +kernel
theorem dX9_does_27 : decode cX9_does 27 = .ok (.istore 4, 2) := by decide +kernel
theorem dX9_does_29 : decode cX9_does 29 = .ok (.iload 4, 2) := by decide +kernel
theorem dX9_does_31 : decode cX9_does 31 = .ok (.ifCond .le 15, 3) := by decide +kernel
theorem dX9_does_34 : decode cX9_does 34 = .ok (.aload_n 0, 1) := by decide +kernel
theorem dX9_does_35 : decode cX9_does 35 = .ok (.iload_n 1, 1) := by decide +kernel
theorem dX9_does_36 : decode cX9_does 36 = .ok (.iload_n 3, 1) := by decide +kernel
theorem dX9_does_37 : decode cX9_does 37 = .ok (.invokevirtual 225, 3) := by decide +kernel
theorem dX9_does_40 : decode cX9_does 40 = .ok (.iinc 4 (-1), 3) := by decide +kernel
theorem dX9_does_43 : decode cX9_does 43 = .ok (.goto (-14), 3) := by decide +kernel
theorem dX9_does_46 : decode cX9_does 46 = .ok (.iinc 3 1, 3) := by decide +kernel
theorem dX9_does_49 : decode cX9_does 49 = .ok (.goto (-47), 3) := by decide +kernel
theorem dX9_does_52 : decode cX9_does 52 = .ok (.return_, 1) := by decide +kernel
theorem dX9_goesBy_0 : decode cX9_goesBy 0 = .ok (.aload_n 0, 1) := by decide +kernel
theorem dX9_goesBy_1 : decode cX9_goesBy 1 = .ok (.iload_n 1, 1) := by decide +kernel
theorem dX9_goesBy_2 : decode cX9_goesBy 2 = .ok (.invokevirtual 229, 3) := by decide +kernel
theorem dX9_goesBy_5 : decode cX9_goesBy 5 = .ok (.aload_n 0, 1) := by decide +kernel
theorem dX9_goesBy_6 : decode cX9_goesBy 6 = .ok (.iconst 0, 1) := by decide +kernel
theorem dX9_goesBy_7 : decode cX9_goesBy 7 = .ok (.putfield 216, 3) := by decide +kernel
theorem dX9_goesBy_10 : decode cX9_goesBy 10 = .ok (.aload_n 0, 1) := by decide +kernel
theorem dX9_goesBy_11 : decode cX9_goesBy 11 = .ok (.iconst 0, 1) := by decide +kernel
theorem dX9_goesBy_12 : decode cX9_goesBy 12 = .ok (.putfield 207, 3) := by decide +kernel
theorem dX9_goesBy_15 : decode cX9_goesBy 15 = .ok (.aload_n 0, 1) := by decide +kernel
theorem dX9_goesBy_16 : decode cX9_goesBy 16 = .ok (.iconst 0, 1) := by decide +kernel
theorem dX9_goesBy_17 : decode cX9_goesBy 17 = .ok (.putfield 210, 3) := by decide +kernel
theorem dX9_goesBy_20 : decode cX9_goesBy 20 = .ok (.aload_n 0, 1) := by decide +kernel
theorem dX9_goesBy_21 : decode cX9_goesBy 21 = .ok (.iconst 0, 1) := by decide +kernel
theorem dX9_goesBy_22 : decode cX9_goesBy 22 = .ok (.putfield 213, 3) := by decide +kernel
theorem dX9_goesBy_25 : decode cX9_goesBy 25 = .ok (.iconst 0, 1) := by decide +kernel
theorem dX9_goesBy_26 : decode cX9_goesBy 26 = .ok (.istore_n 2, 1) := by decide +kernel
theorem dX9_goesBy_27 : decode cX9_goesBy 27 = .ok (.iload_n 2, 1) := by decide +kernel
theorem dX9_goesBy_28 : decode cX9_goesBy 28 = .ok (.bipush 8, 2) := by decide +kernel
theorem dX9_goesBy_30 : decode cX9_goesBy 30 = .ok (.if_icmp .ge 16, 3) := by decide +kernel
theorem dX9_goesBy_33 : decode cX9_goesBy 33 = .ok (.aload_n 0, 1) := by decide +kernel
theorem dX9_goesBy_34 : decode cX9_goesBy 34 = .ok (.getfield 49, 3) := by decide +kernel
theorem dX9_goesBy_37 : decode cX9_goesBy 37 = .ok (.iload_n 2, 1) := by decide +kernel
theorem dX9_goesBy_38 : decode cX9_goesBy 38 = .ok (.iconst 0, 1) := by decide +kernel
theorem dX9_goesBy_39 : decode cX9_goesBy 39 = .ok (.iastore, 1) := by decide +kernel
theorem dX9_goesBy_40 : decode cX9_goesBy 40 = .ok (.iinc 2 1, 3) := by decide +kernel
theorem dX9_goesBy_43 : decode cX9_goesBy 43 = .ok (.goto (-16), 3) := by decide +kernel
theorem dX9_goesBy_46 : decode cX9_goesBy 46 = .ok (.iconst 0, 1) := by decide +kernel
theorem dX9_goesBy_47 : decode cX9_goesBy 47 = .ok (.istore_n 2, 1) := by decide +kernel
theorem dX9_goesBy_48 : decode cX9_goesBy 48 = .ok (.iload_n 2, 1) := by decide +kernel
theorem dX9_goesBy_49 : decode cX9_goesBy 49 = .ok (.bipush 12, 2) := by decide +kernel
theorem dX9_goesBy_51 : decode cX9_goesBy 51 = .ok (.if_icmp .ge 21, 3) := by decide +kernel
theorem dX9_goesBy_54 : decode cX9_goesBy 54 = .ok (.aload_n 0, 1) := by decide +kernel
theorem dX9_goesBy_55 : decode cX9_goesBy 55 = .ok (.getfield 67, 3) := by decide +kernel
theorem dX9_goesBy_58 : decode cX9_goesBy 58 = .ok (.bipush 12, 2) := by decide +kernel
theorem dX9_goesBy_60 : decode cX9_goesBy 60 = .ok (.iload_n 1, 1) := by decide +kernel
theorem dX9_goesBy_61 : decode cX9_goesBy 61 = .ok (.imul, 1) := by decide +kernel
theorem dX9_goesBy_62 : decode cX9_goesBy 62 = .ok (.iload_n 2, 1) := by decide +kernel
theorem dX9_goesBy_63 : decode cX9_goesBy 63 = .ok (.iadd, 1) := by decide +kernel
theorem dX9_goesBy_64 : decode cX9_goesBy 64 = .ok (.iconst (-1), 1) := by decide +kernel
theorem dX9_goesBy_65 : decode cX9_goesBy 65 = .ok (.iastore, 1) := by decide +kernel
theorem dX9_goesBy_66 : decode cX9_goesBy 66 = .ok (.iinc 2 1, 3) := by decide +kernel
theorem dX9_goesBy_69 : decode cX9_goesBy 69 = .ok (.goto (-21), 3) := by decide +kernel
theorem dX9_goesBy_72 : decode cX9_goesBy 72 = .ok (.aload_n 0, 1) := by decide +kernel
theorem dX9_goesBy_73 : decode cX9_goesBy 73 = .ok (.getfield 191, 3) := by decide +kernel
theorem dX9_goesBy_76 : decode cX9_goesBy 76 = .ok (.iconst 1, 1) := by decide +kernel
theorem dX9_goesBy_77 : decode cX9_goesBy 77 = .ok (.if_icmp .ne 7, 3) := by decide +kernel
theorem dX9_goesBy_80 : decode cX9_goesBy 80 = .ok (.aload_n 0, 1) := by decide +kernel
theorem dX9_goesBy_81 : decode cX9_goesBy 81 = .ok (.invokevirtual 233, 3) := by decide +kernel
theorem dX9_goesBy_84 : decode cX9_goesBy 84 = .ok (.aload_n 0, 1) := by decide +kernel
theorem dX9_goesBy_85 : decode cX9_goesBy 85 = .ok (.getfield 188, 3) := by decide +kernel
theorem dX9_goesBy_88 : decode cX9_goesBy 88 = .ok (.ifCond .ne 30, 3) := by decide +kernel
theorem dX9_goesBy_91 : decode cX9_goesBy 91 = .ok (.aload_n 0, 1) := by decide +kernel
theorem dX9_goesBy_92 : decode cX9_goesBy 92 = .ok (.getfield 191, 3) := by decide +kernel
theorem dX9_goesBy_95 : decode cX9_goesBy 95 = .ok (.ifCond .ne 23, 3) := by decide +kernel
theorem dX9_goesBy_98 : decode cX9_goesBy 98 = .ok (.aload_n 0, 1) := by decide +kernel
theorem dX9_goesBy_99 : decode cX9_goesBy 99 = .ok (.aload_n 0, 1) := by decide +kernel
theorem dX9_goesBy_100 : decode cX9_goesBy 100 = .ok (.invokevirtual 236, 3) := by decide +kernel
theorem dX9_goesBy_103 : decode cX9_goesBy 103 = .ok (.putfield 219, 3) := by decide +kernel
theorem dX9_goesBy_106 : decode cX9_goesBy 106 = .ok (.aload_n 0, 1) := by decide +kernel
theorem dX9_goesBy_107 : decode cX9_goesBy 107 = .ok (.iload_n 1, 1) := by decide +kernel
theorem dX9_goesBy_108 : decode cX9_goesBy 108 = .ok (.iconst 0, 1) := by decide +kernel
theorem dX9_goesBy_109 : decode cX9_goesBy 109 = .ok (.invokevirtual 239, 3) := by decide +kernel
theorem dX9_goesBy_112 : decode cX9_goesBy 112 = .ok (.aload_n 0, 1) := by decide +kernel
theorem dX9_goesBy_113 : decode cX9_goesBy 113 = .ok (.iload_n 1, 1) := by decide +kernel
theorem dX9_goesBy_114 : decode cX9_goesBy 114 = .ok (.iconst 1, 1) := by decide +kernel
theorem dX9_goesBy_115 : decode cX9_goesBy 115 = .ok (.invokevirtual 239, 3) := by decide +kernel
theorem dX9_goesBy_118 : decode cX9_goesBy 118 = .ok (.return_, 1) := by decide +kernel
theorem dX9_notes_0 : decode cX9_notes 0 = .ok (.iconst 0, 1) := by decide +kernel
theorem dX9_notes_1 : decode cX9_notes 1 = .ok (.istore_n 2, 1) := by decide +kernel
theorem dX9_notes_2 : decode cX9_notes 2 = .ok (.aload_n 0, 1) := by decide +kernel
theorem dX9_notes_3 : decode cX9_notes 3 = .ok (.getfield 73, 3) := by decide +kernel
theorem dX9_notes_6 : decode cX9_notes 6 = .ok (.iload_n 1, 1) := by decide +kernel
theorem dX9_notes_7 : decode cX9_notes 7 = .ok (.iconst 0, 1) := by decide +kernel
theorem dX9_notes_8 : decode cX9_notes 8 = .ok (.iastore, 1) := by decide +kernel
theorem dX9_notes_9 : decode cX9_notes 9 = .ok (.iconst 0, 1) := by decide +kernel
theorem dX9_notes_10 : decode cX9_notes 10 = .ok (.istore_n 3, 1) := by decide +kernel
theorem dX9_notes_11 : decode cX9_notes 11 = .ok (.iload_n 3, 1) := by decide +kernel
theorem dX9_notes_12 : decode cX9_notes 12 = .ok (.aload_n 0, 1) := by decide +kernel
theorem dX9_notes_13 : decode cX9_notes 13 = .ok (.getfield 173, 3) := by decide +kernel
theorem dX9_notes_16 : decode cX9_notes 16 = .ok (.if_icmp .ge 98, 3) := by decide +kernel
theorem dX9_notes_19 : decode cX9_notes 19 = .ok (.aload_n 0, 1) := by decide +kernel
theorem dX9_notes_20 : decode cX9_notes 20 = .ok (.getfield 61, 3) := by decide +kernel
theorem dX9_notes_23 : decode cX9_notes 23 = .ok (.bipush 8, 2) := by decide +kernel
theorem dX9_notes_25 : decode cX9_notes 25 = .ok (.iload_n 1, 1) := by decide +kernel
theorem dX9_notes_26 : decode cX9_notes 26 = .ok (.imul, 1) := by decide +kernel
theorem dX9_notes_27 : decode cX9_notes 27 = .ok (.iload_n 3, 1) := by decide +kernel
theorem dX9_notes_28 : decode cX9_notes 28 = .ok (.iadd, 1) := by decide +kernel
theorem dX9_notes_29 : decode cX9_notes 29 = .ok (.aload_n 0, 1) := by decide +kernel
theorem dX9_notes_30 : decode cX9_notes 30 = .ok (.getfield 46, 3) := by decide +kernel
theorem dX9_notes_33 : decode cX9_notes 33 = .ok (.iload_n 3, 1) := by decide +kernel
theorem dX9_notes_34 : decode cX9_notes 34 = .ok (.iaload, 1) := by decide +kernel
theorem dX9_notes_35 : decode cX9_notes 35 = .ok (.iastore, 1) := by decide +kernel
theorem dX9_notes_36 : decode cX9_notes 36 = .ok (.aload_n 0, 1) := by decide +kernel
theorem dX9_notes_37 : decode cX9_notes 37 = .ok (.getfield 64, 3) := by decide +kernel
theorem dX9_notes_40 : decode cX9_notes 40 = .ok (.bipush 8, 2) := by decide +kernel
theorem dX9_notes_42 : decode cX9_notes 42 = .ok (.iload_n 1, 1) := by decide +kernel
theorem dX9_notes_43 : decode cX9_notes 43 = .ok (.imul, 1) := by decide +kernel
theorem dX9_notes_44 : decode cX9_notes 44 = .ok (.iload_n 3, 1) := by decide +kernel
theorem dX9_notes_45 : decode cX9_notes 45 = .ok (.iadd, 1) := by decide +kernel
theorem dX9_notes_46 : decode cX9_notes 46 = .ok (.aload_n 0, 1) := by decide +kernel
theorem dX9_notes_47 : decode cX9_notes 47 = .ok (.getfield 49, 3) := by decide +kernel
theorem dX9_notes_50 : decode cX9_notes 50 = .ok (.iload_n 3, 1) := by decide +kernel
theorem dX9_notes_51 : decode cX9_notes 51 = .ok (.iaload, 1) := by decide +kernel
theorem dX9_notes_52 : decode cX9_notes 52 = .ok (.iastore, 1) := by decide +kernel
theorem dX9_notes_53 : decode cX9_notes 53 = .ok (.aload_n 0, 1) := by decide +kernel
theorem dX9_notes_54 : decode cX9_notes 54 = .ok (.getfield 52, 3) := by decide +kernel
theorem dX9_notes_57 : decode cX9_notes 57 = .ok (.iload_n 3, 1) := by decide +kernel
theorem dX9_notes_58 : decode cX9_notes 58 = .ok (.dup2, 1) := by decide +kernel
theorem dX9_notes_59 : decode cX9_notes 59 = .ok (.iaload, 1) := by decide +kernel
theorem dX9_notes_60 : decode cX9_notes 60 = .ok (.aload_n 0, 1) := by decide +kernel
theorem dX9_notes_61 : decode cX9_notes 61 = .ok (.getfield 49, 3) := by decide +kernel
theorem dX9_notes_64 : decode cX9_notes 64 = .ok (.iload_n 3, 1) := by decide +kernel
theorem dX9_notes_65 : decode cX9_notes 65 = .ok (.iaload, 1) := by decide +kernel
theorem dX9_notes_66 : decode cX9_notes 66 = .ok (.iadd, 1) := by decide +kernel
theorem dX9_notes_67 : decode cX9_notes 67 = .ok (.iastore, 1) := by decide +kernel
theorem dX9_notes_68 : decode cX9_notes 68 = .ok (.iload_n 2, 1) := by decide +kernel
theorem dX9_notes_69 : decode cX9_notes 69 = .ok (.aload_n 0, 1) := by decide +kernel
theorem dX9_notes_70 : decode cX9_notes 70 = .ok (.iload_n 3, 1) := by decide +kernel
theorem dX9_notes_71 : decode cX9_notes 71 = .ok (.invokevirtual 201, 3) := by decide +kernel
theorem dX9_notes_74 : decode cX9_notes 74 = .ok (.ifCond .eq 7, 3) := by decide +kernel
theorem dX9_notes_77 : decode cX9_notes 77 = .ok (.iconst 1, 1) := by decide +kernel
theorem dX9_notes_78 : decode cX9_notes 78 = .ok (.goto 4, 3) := by decide +kernel
theorem dX9_notes_81 : decode cX9_notes 81 = .ok (.iconst 0, 1) := by decide +kernel
theorem dX9_notes_82 : decode cX9_notes 82 = .ok (.iadd, 1) := by decide +kernel
theorem dX9_notes_83 : decode cX9_notes 83 = .ok (.istore_n 2, 1) := by decide +kernel
theorem dX9_notes_84 : decode cX9_notes 84 = .ok (.aload_n 0, 1) := by decide +kernel
theorem dX9_notes_85 : decode cX9_notes 85 = .ok (.getfield 73, 3) := by decide +kernel
theorem dX9_notes_88 : decode cX9_notes 88 = .ok (.iload_n 1, 1) := by decide +kernel
theorem dX9_notes_89 : decode cX9_notes 89 = .ok (.dup2, 1) := by decide +kernel
theorem dX9_notes_90 : decode cX9_notes 90 = .ok (.iaload, 1) := by decide +kernel
theorem dX9_notes_91 : decode cX9_notes 91 = .ok (.aload_n 0, 1) := by decide +kernel
theorem dX9_notes_92 : decode cX9_notes 92 = .ok (.iload_n 3, 1) := by decide +kernel
theorem dX9_notes_93 : decode cX9_notes 93 = .ok (.invokevirtual 201, 3) := by decide +kernel
theorem dX9_notes_96 : decode cX9_notes 96 = .ok (.ifCond .eq 7, 3) := by decide +kernel
theorem dX9_notes_99 : decode cX9_notes 99 = .ok (.iconst 0, 1) := by decide +kernel
theorem dX9_notes_100 : decode cX9_notes 100 = .ok (.goto 6, 3) := by decide +kernel
theorem dX9_notes_103 : decode cX9_notes 103 = .ok (.iconst 1, 1) := by decide +kernel
theorem dX9_notes_104 : decode cX9_notes 104 = .ok (.iload_n 3, 1) := by decide +kernel
theorem dX9_notes_105 : decode cX9_notes 105 = .ok (.ishl, 1) := by decide +kernel
theorem dX9_notes_106 : decode cX9_notes 106 = .ok (.ior, 1) := by decide +kernel
theorem dX9_notes_107 : decode cX9_notes 107 = .ok (.iastore, 1) := by decide +kernel
theorem dX9_notes_108 : decode cX9_notes 108 = .ok (.iinc 3 1, 3) := by decide +kernel
theorem dX9_notes_111 : decode cX9_notes 111 = .ok (.goto (-100), 3) := by decide +kernel
theorem dX9_notes_114 : decode cX9_notes 114 = .ok (.aload_n 0, 1) := by decide +kernel
theorem dX9_notes_115 : decode cX9_notes 115 = .ok (.getfield 70, 3) := by decide +kernel
theorem dX9_notes_118 : decode cX9_notes 118 = .ok (.iconst 4, 1) := by decide +kernel
theorem dX9_notes_119 : decode cX9_notes 119 = .ok (.iload_n 1, 1) := by decide +kernel
theorem dX9_notes_120 : decode cX9_notes 120 = .ok (.imul, 1) := by decide +kernel
theorem dX9_notes_121 : decode cX9_notes 121 = .ok (.aload_n 0, 1) := by decide +kernel
theorem dX9_notes_122 : decode cX9_notes 122 = .ok (.getfield 207, 3) := by decide +kernel
theorem dX9_notes_125 : decode cX9_notes 125 = .ok (.iastore, 1) := by decide +kernel
theorem dX9_notes_126 : decode cX9_notes 126 = .ok (.aload_n 0, 1) := by decide +kernel
theorem dX9_notes_127 : decode cX9_notes 127 = .ok (.getfield 70, 3) := by decide +kernel
theorem dX9_notes_130 : decode cX9_notes 130 = .ok (.iconst 4, 1) := by decide +kernel
theorem dX9_notes_131 : decode cX9_notes 131 = .ok (.iload_n 1, 1) := by decide +kernel
theorem dX9_notes_132 : decode cX9_notes 132 = .ok (.imul, 1) := by decide +kernel
theorem dX9_notes_133 : decode cX9_notes 133 = .ok (.iconst 1, 1) := by decide +kernel
theorem dX9_notes_134 : decode cX9_notes 134 = .ok (.iadd, 1) := by decide +kernel
theorem dX9_notes_135 : decode cX9_notes 135 = .ok (.aload_n 0, 1) := by decide +kernel
theorem dX9_notes_136 : decode cX9_notes 136 = .ok (.getfield 210, 3) := by decide +kernel
theorem dX9_notes_139 : decode cX9_notes 139 = .ok (.iastore, 1) := by decide +kernel
theorem dX9_notes_140 : decode cX9_notes 140 = .ok (.aload_n 0, 1) := by decide +kernel
theorem dX9_notes_141 : decode cX9_notes 141 = .ok (.getfield 70, 3) := by decide +kernel
theorem dX9_notes_144 : decode cX9_notes 144 = .ok (.iconst 4, 1) := by decide +kernel
theorem dX9_notes_145 : decode cX9_notes 145 = .ok (.iload_n 1, 1) := by decide +kernel
theorem dX9_notes_146 : decode cX9_notes 146 = .ok (.imul, 1) := by decide +kernel
theorem dX9_notes_147 : decode cX9_notes 147 = .ok (.iconst 2, 1) := by decide +kernel
theorem dX9_notes_148 : decode cX9_notes 148 = .ok (.iadd, 1) := by decide +kernel
theorem dX9_notes_149 : decode cX9_notes 149 = .ok (.aload_n 0, 1) := by decide +kernel
theorem dX9_notes_150 : decode cX9_notes 150 = .ok (.getfield 213, 3) := by decide +kernel
theorem dX9_notes_153 : decode cX9_notes 153 = .ok (.iastore, 1) := by decide +kernel
theorem dX9_notes_154 : decode cX9_notes 154 = .ok (.aload_n 0, 1) := by decide +kernel
theorem dX9_notes_155 : decode cX9_notes 155 = .ok (.getfield 70, 3) := by decide +kernel
theorem dX9_notes_158 : decode cX9_notes 158 = .ok (.iconst 4, 1) := by decide +kernel
theorem dX9_notes_159 : decode cX9_notes 159 = .ok (.iload_n 1, 1) := by decide +kernel
theorem dX9_notes_160 : decode cX9_notes 160 = .ok (.imul, 1) := by decide +kernel
theorem dX9_notes_161 : decode cX9_notes 161 = .ok (.iconst 3, 1) := by decide +kernel
theorem dX9_notes_162 : decode cX9_notes 162 = .ok (.iadd, 1) := by decide +kernel
theorem dX9_notes_163 : decode cX9_notes 163 = .ok (.aload_n 0, 1) := by decide +kernel
theorem dX9_notes_164 : decode cX9_notes 164 = .ok (.getfield 216, 3) := by decide +kernel
theorem dX9_notes_167 : decode cX9_notes 167 = .ok (.iastore, 1) := by decide +kernel
theorem dX9_notes_168 : decode cX9_notes 168 = .ok (.aload_n 0, 1) := by decide +kernel
theorem dX9_notes_169 : decode cX9_notes 169 = .ok (.dup, 1) := by decide +kernel
theorem dX9_notes_170 : decode cX9_notes 170 = .ok (.getfield 243, 3) := by decide +kernel
theorem dX9_notes_173 : decode cX9_notes 173 = .ok (.aload_n 0, 1) := by decide +kernel
theorem dX9_notes_174 : decode cX9_notes 174 = .ok (.getfield 207, 3) := by decide +kernel
theorem dX9_notes_177 : decode cX9_notes 177 = .ok (.iadd, 1) := by decide +kernel
theorem dX9_notes_178 : decode cX9_notes 178 = .ok (.putfield 243, 3) := by decide +kernel
theorem dX9_notes_181 : decode cX9_notes 181 = .ok (.aload_n 0, 1) := by decide +kernel
theorem dX9_notes_182 : decode cX9_notes 182 = .ok (.dup, 1) := by decide +kernel
theorem dX9_notes_183 : decode cX9_notes 183 = .ok (.getfield 246, 3) := by decide +kernel
theorem dX9_notes_186 : decode cX9_notes 186 = .ok (.aload_n 0, 1) := by decide +kernel
theorem dX9_notes_187 : decode cX9_notes 187 = .ok (.getfield 210, 3) := by decide +kernel
theorem dX9_notes_190 : decode cX9_notes 190 = .ok (.iadd, 1) := by decide +kernel
theorem dX9_notes_191 : decode cX9_notes 191 = .ok (.putfield 246, 3) := by decide +kernel
theorem dX9_notes_194 : decode cX9_notes 194 = .ok (.aload_n 0, 1) := by decide +kernel
theorem dX9_notes_195 : decode cX9_notes 195 = .ok (.dup, 1) := by decide +kernel
theorem dX9_notes_196 : decode cX9_notes 196 = .ok (.getfield 249, 3) := by decide +kernel
theorem dX9_notes_199 : decode cX9_notes 199 = .ok (.aload_n 0, 1) := by decide +kernel
theorem dX9_notes_200 : decode cX9_notes 200 = .ok (.getfield 213, 3) := by decide +kernel
theorem dX9_notes_203 : decode cX9_notes 203 = .ok (.iadd, 1) := by decide +kernel
theorem dX9_notes_204 : decode cX9_notes 204 = .ok (.putfield 249, 3) := by decide +kernel
theorem dX9_notes_207 : decode cX9_notes 207 = .ok (.aload_n 0, 1) := by decide +kernel
theorem dX9_notes_208 : decode cX9_notes 208 = .ok (.iload_n 2, 1) := by decide +kernel
theorem dX9_notes_209 : decode cX9_notes 209 = .ok (.ifCond .ne 15, 3) := by decide +kernel
theorem dX9_notes_212 : decode cX9_notes 212 = .ok (.aload_n 0, 1) := by decide +kernel
theorem dX9_notes_213 : decode cX9_notes 213 = .ok (.getfield 252, 3) := by decide +kernel
theorem dX9_notes_216 : decode cX9_notes 216 = .ok (.iconst (-1), 1) := by decide +kernel
theorem dX9_notes_217 : decode cX9_notes 217 = .ok (.if_icmp .ne 7, 3) := by decide +kernel
theorem dX9_notes_220 : decode cX9_notes 220 = .ok (.iload_n 1, 1) := by decide +kernel
theorem dX9_notes_221 : decode cX9_notes 221 = .ok (.goto 7, 3) := by decide +kernel
theorem dX9_notes_224 : decode cX9_notes 224 = .ok (.aload_n 0, 1) := by decide +kernel
theorem dX9_notes_225 : decode cX9_notes 225 = .ok (.getfield 252, 3) := by decide +kernel
theorem dX9_notes_228 : decode cX9_notes 228 = .ok (.putfield 252, 3) := by decide +kernel
theorem dX9_notes_231 : decode cX9_notes 231 = .ok (.return_, 1) := by decide +kernel
theorem dX9_runs_0 : decode cX9_runs 0 = .ok (.aload_n 0, 1) := by decide +kernel
theorem dX9_runs_1 : decode cX9_runs 1 = .ok (.iconst 0, 1) := by decide +kernel
theorem dX9_runs_2 : decode cX9_runs 2 = .ok (.putfield 243, 3) := by decide +kernel
theorem dX9_runs_5 : decode cX9_runs 5 = .ok (.aload_n 0, 1) := by decide +kernel
theorem dX9_runs_6 : decode cX9_runs 6 = .ok (.iconst 0, 1) := by decide +kernel
theorem dX9_runs_7 : decode cX9_runs 7 = .ok (.putfield 246, 3) := by decide +kernel
theorem dX9_runs_10 : decode cX9_runs 10 = .ok (.aload_n 0, 1) := by decide +kernel
theorem dX9_runs_11 : decode cX9_runs 11 = .ok (.iconst 0, 1) := by decide +kernel
theorem dX9_runs_12 : decode cX9_runs 12 = .ok (.putfield 249, 3) := by decide +kernel
theorem dX9_runs_15 : decode cX9_runs 15 = .ok (.aload_n 0, 1) := by decide +kernel
theorem dX9_runs_16 : decode cX9_runs 16 = .ok (.iconst (-1), 1) := by decide +kernel
theorem dX9_runs_17 : decode cX9_runs 17 = .ok (.putfield 252, 3) := by decide +kernel
theorem dX9_runs_20 : decode cX9_runs 20 = .ok (.iconst 0, 1) := by decide +kernel
theorem dX9_runs_21 : decode cX9_runs 21 = .ok (.istore_n 1, 1) := by decide +kernel
theorem dX9_runs_22 : decode cX9_runs 22 = .ok (.iload_n 1, 1) := by decide +kernel
theorem dX9_runs_23 : decode cX9_runs 23 = .ok (.bipush 8, 2) := by decide +kernel
theorem dX9_runs_25 : decode cX9_runs 25 = .ok (.if_icmp .ge 54, 3) := by decide +kernel
theorem dX9_runs_28 : decode cX9_runs 28 = .ok (.aload_n 0, 1) := by decide +kernel
theorem dX9_runs_29 : decode cX9_runs 29 = .ok (.getfield 46, 3) := by decide +kernel
theorem dX9_runs_32 : decode cX9_runs 32 = .ok (.iload_n 1, 1) := by decide +kernel
theorem dX9_runs_33 : decode cX9_runs 33 = .ok (.iload_n 1, 1) := by decide +kernel
theorem dX9_runs_34 : decode cX9_runs 34 = .ok (.aload_n 0, 1) := by decide +kernel
theorem dX9_runs_35 : decode cX9_runs 35 = .ok (.getfield 173, 3) := by decide +kernel
theorem dX9_runs_38 : decode cX9_runs 38 = .ok (.if_icmp .ge 12, 3) := by decide +kernel
theorem dX9_runs_41 : decode cX9_runs 41 = .ok (.aload_n 0, 1) := by decide +kernel
theorem dX9_runs_42 : decode cX9_runs 42 = .ok (.getfield 40, 3) := by decide +kernel
theorem dX9_runs_45 : decode cX9_runs 45 = .ok (.iload_n 1, 1) := by decide +kernel
theorem dX9_runs_46 : decode cX9_runs 46 = .ok (.iaload, 1) := by decide +kernel
theorem dX9_runs_47 : decode cX9_runs 47 = .ok (.goto 4, 3) := by decide +kernel
theorem dX9_runs_50 : decode cX9_runs 50 = .ok (.iconst 0, 1) := by decide +kernel
theorem dX9_runs_51 : decode cX9_runs 51 = .ok (.iastore, 1) := by decide +kernel
theorem dX9_runs_52 : decode cX9_runs 52 = .ok (.aload_n 0, 1) := by decide +kernel
theorem dX9_runs_53 : decode cX9_runs 53 = .ok (.getfield 52, 3) := by decide +kernel
theorem dX9_runs_56 : decode cX9_runs 56 = .ok (.iload_n 1, 1) := by decide +kernel
theorem dX9_runs_57 : decode cX9_runs 57 = .ok (.iconst 0, 1) := by decide +kernel
theorem dX9_runs_58 : decode cX9_runs 58 = .ok (.iastore, 1) := by decide +kernel
theorem dX9_runs_59 : decode cX9_runs 59 = .ok (.aload_n 0, 1) := by decide +kernel
theorem dX9_runs_60 : decode cX9_runs 60 = .ok (.getfield 55, 3) := by decide +kernel
theorem dX9_runs_63 : decode cX9_runs 63 = .ok (.iload_n 1, 1) := by decide +kernel
theorem dX9_runs_64 : decode cX9_runs 64 = .ok (.iconst (-1), 1) := by decide +kernel
theorem dX9_runs_65 : decode cX9_runs 65 = .ok (.iastore, 1) := by decide +kernel
theorem dX9_runs_66 : decode cX9_runs 66 = .ok (.aload_n 0, 1) := by decide +kernel
theorem dX9_runs_67 : decode cX9_runs 67 = .ok (.getfield 58, 3) := by decide +kernel
theorem dX9_runs_70 : decode cX9_runs 70 = .ok (.iload_n 1, 1) := by decide +kernel
theorem dX9_runs_71 : decode cX9_runs 71 = .ok (.iconst (-1), 1) := by decide +kernel
theorem dX9_runs_72 : decode cX9_runs 72 = .ok (.iastore, 1) := by decide +kernel
theorem dX9_runs_73 : decode cX9_runs 73 = .ok (.iinc 1 1, 3) := by decide +kernel
theorem dX9_runs_76 : decode cX9_runs 76 = .ok (.goto (-54), 3) := by decide +kernel
theorem dX9_runs_79 : decode cX9_runs 79 = .ok (.iconst 0, 1) := by decide +kernel
theorem dX9_runs_80 : decode cX9_runs 80 = .ok (.istore_n 1, 1) := by decide +kernel
theorem dX9_runs_81 : decode cX9_runs 81 = .ok (.iload_n 1, 1) := by decide +kernel
theorem dX9_runs_82 : decode cX9_runs 82 = .ok (.bipush 12, 2) := by decide +kernel
theorem dX9_runs_84 : decode cX9_runs 84 = .ok (.if_icmp .ge 23, 3) := by decide +kernel
theorem dX9_runs_87 : decode cX9_runs 87 = .ok (.aload_n 0, 1) := by decide +kernel
theorem dX9_runs_88 : decode cX9_runs 88 = .ok (.iload_n 1, 1) := by decide +kernel
theorem dX9_runs_89 : decode cX9_runs 89 = .ok (.invokevirtual 255, 3) := by decide +kernel
theorem dX9_runs_92 : decode cX9_runs 92 = .ok (.aload_n 0, 1) := by decide +kernel
theorem dX9_runs_93 : decode cX9_runs 93 = .ok (.iload_n 1, 1) := by decide +kernel
theorem dX9_runs_94 : decode cX9_runs 94 = .ok (.invokevirtual 258, 3) := by decide +kernel
theorem dX9_runs_97 : decode cX9_runs 97 = .ok (.aload_n 0, 1) := by decide +kernel
theorem dX9_runs_98 : decode cX9_runs 98 = .ok (.invokevirtual 233, 3) := by decide +kernel
theorem dX9_runs_101 : decode cX9_runs 101 = .ok (.iinc 1 1, 3) := by decide +kernel
theorem dX9_runs_104 : decode cX9_runs 104 = .ok (.goto (-23), 3) := by decide +kernel
theorem dX9_runs_107 : decode cX9_runs 107 = .ok (.return_, 1) := by decide +kernel
theorem dX9_runsTold_0 : decode cX9_runsTold 0 = .ok (.aload_n 0, 1) := by decide +kernel
theorem dX9_runsTold_1 : decode cX9_runsTold 1 = .ok (.invokevirtual 261, 3) := by decide +kernel
theorem dX9_runsTold_4 : decode cX9_runsTold 4 = .ok (.aload_n 0, 1) := by decide +kernel
theorem dX9_runsTold_5 : decode cX9_runsTold 5 = .ok (.invokevirtual 264, 3) := by decide +kernel
theorem dX9_runsTold_8 : decode cX9_runsTold 8 = .ok (.return_, 1) := by decide +kernel
theorem dX9_heatOf_0 : decode cX9_heatOf 0 = .ok (.aload_n 0, 1) := by decide +kernel
theorem dX9_heatOf_1 : decode cX9_heatOf 1 = .ok (.invokevirtual 267, 3) := by decide +kernel
theorem dX9_heatOf_4 : decode cX9_heatOf 4 = .ok (.iload_n 3, 1) := by decide +kernel
theorem dX9_heatOf_5 : decode cX9_heatOf 5 = .ok (.ifCond .ne 17, 3) := by decide +kernel
theorem dX9_heatOf_8 : decode cX9_heatOf 8 = .ok (.aload_n 0, 1) := by decide +kernel
theorem dX9_heatOf_9 : decode cX9_heatOf 9 = .ok (.getfield 61, 3) := by decide +kernel
theorem dX9_heatOf_12 : decode cX9_heatOf 12 = .ok (.bipush 8, 2) := by decide +kernel
theorem dX9_heatOf_14 : decode cX9_heatOf 14 = .ok (.iload_n 1, 1) := by decide +kernel
theorem dX9_heatOf_15 : decode cX9_heatOf 15 = .ok (.imul, 1) := by decide +kernel
theorem dX9_heatOf_16 : decode cX9_heatOf 16 = .ok (.iload_n 2, 1) := by decide +kernel
theorem dX9_heatOf_17 : decode cX9_heatOf 17 = .ok (.iadd, 1) := by decide +kernel
theorem dX9_heatOf_18 : decode cX9_heatOf 18 = .ok (.iaload, 1) := by decide +kernel
theorem dX9_heatOf_19 : decode cX9_heatOf 19 = .ok (.goto 14, 3) := by decide +kernel
theorem dX9_heatOf_22 : decode cX9_heatOf 22 = .ok (.aload_n 0, 1) := by decide +kernel
theorem dX9_heatOf_23 : decode cX9_heatOf 23 = .ok (.getfield 64, 3) := by decide +kernel
theorem dX9_heatOf_26 : decode cX9_heatOf 26 = .ok (.bipush 8, 2) := by decide +kernel
theorem dX9_heatOf_28 : decode cX9_heatOf 28 = .ok (.iload_n 1, 1) := by decide +kernel
theorem dX9_heatOf_29 : decode cX9_heatOf 29 = .ok (.imul, 1) := by decide +kernel
theorem dX9_heatOf_30 : decode cX9_heatOf 30 = .ok (.iload_n 2, 1) := by decide +kernel
theorem dX9_heatOf_31 : decode cX9_heatOf 31 = .ok (.iadd, 1) := by decide +kernel
theorem dX9_heatOf_32 : decode cX9_heatOf 32 = .ok (.iaload, 1) := by decide +kernel
theorem dX9_heatOf_33 : decode cX9_heatOf 33 = .ok (.ireturn, 1) := by decide +kernel
theorem dX9_heat_0 : decode cX9_heat 0 = .ok (.iload_n 1, 1) := by decide +kernel
theorem dX9_heat_1 : decode cX9_heat 1 = .ok (.invokestatic 157, 3) := by decide +kernel
theorem dX9_heat_4 : decode cX9_heat 4 = .ok (.ifCond .eq 28, 3) := by decide +kernel
theorem dX9_heat_7 : decode cX9_heat 7 = .ok (.aload_n 0, 1) := by decide +kernel
theorem dX9_heat_8 : decode cX9_heat 8 = .ok (.iload_n 2, 1) := by decide +kernel
theorem dX9_heat_9 : decode cX9_heat 9 = .ok (.invokevirtual 148, 3) := by decide +kernel
theorem dX9_heat_12 : decode cX9_heat 12 = .ok (.ifCond .eq 20, 3) := by decide +kernel
theorem dX9_heat_15 : decode cX9_heat 15 = .ok (.iload_n 3, 1) := by decide +kernel
theorem dX9_heat_16 : decode cX9_heat 16 = .ok (.invokestatic 113, 3) := by decide +kernel
theorem dX9_heat_19 : decode cX9_heat 19 = .ok (.ifCond .eq 13, 3) := by decide +kernel
theorem dX9_heat_22 : decode cX9_heat 22 = .ok (.aload_n 0, 1) := by decide +kernel
theorem dX9_heat_23 : decode cX9_heat 23 = .ok (.iload_n 1, 1) := by decide +kernel
theorem dX9_heat_24 : decode cX9_heat 24 = .ok (.iload_n 2, 1) := by decide +kernel
theorem dX9_heat_25 : decode cX9_heat 25 = .ok (.iload_n 3, 1) := by decide +kernel
theorem dX9_heat_26 : decode cX9_heat 26 = .ok (.invokevirtual 270, 3) := by decide +kernel
theorem dX9_heat_29 : decode cX9_heat 29 = .ok (.goto 5, 3) := by decide +kernel
theorem dX9_heat_32 : decode cX9_heat 32 = .ok (.bipush (-2), 2) := by decide +kernel
theorem dX9_heat_34 : decode cX9_heat 34 = .ok (.ireturn, 1) := by decide +kernel
theorem dX9_saidOf_0 : decode cX9_saidOf 0 = .ok (.aload_n 0, 1) := by decide +kernel
theorem dX9_saidOf_1 : decode cX9_saidOf 1 = .ok (.invokevirtual 267, 3) := by decide +kernel
theorem dX9_saidOf_4 : decode cX9_saidOf 4 = .ok (.aload_n 0, 1) := by decide +kernel
theorem dX9_saidOf_5 : decode cX9_saidOf 5 = .ok (.getfield 67, 3) := by decide +kernel
theorem dX9_saidOf_8 : decode cX9_saidOf 8 = .ok (.bipush 12, 2) := by decide +kernel
theorem dX9_saidOf_10 : decode cX9_saidOf 10 = .ok (.iload_n 1, 1) := by decide +kernel
theorem dX9_saidOf_11 : decode cX9_saidOf 11 = .ok (.imul, 1) := by decide +kernel
theorem dX9_saidOf_12 : decode cX9_saidOf 12 = .ok (.iload_n 2, 1) := by decide +kernel
theorem dX9_saidOf_13 : decode cX9_saidOf 13 = .ok (.iadd, 1) := by decide +kernel
theorem dX9_saidOf_14 : decode cX9_saidOf 14 = .ok (.iaload, 1) := by decide +kernel
theorem dX9_saidOf_15 : decode cX9_saidOf 15 = .ok (.ireturn, 1) := by decide +kernel
theorem dX9_said_0 : decode cX9_said 0 = .ok (.iload_n 1, 1) := by decide +kernel
theorem dX9_said_1 : decode cX9_said 1 = .ok (.invokestatic 157, 3) := by decide +kernel
theorem dX9_said_4 : decode cX9_said 4 = .ok (.ifCond .eq 20, 3) := by decide +kernel
theorem dX9_said_7 : decode cX9_said 7 = .ok (.aload_n 0, 1) := by decide +kernel
theorem dX9_said_8 : decode cX9_said 8 = .ok (.iload_n 2, 1) := by decide +kernel
theorem dX9_said_9 : decode cX9_said 9 = .ok (.invokevirtual 145, 3) := by decide +kernel
theorem dX9_said_12 : decode cX9_said 12 = .ok (.ifCond .eq 12, 3) := by decide +kernel
theorem dX9_said_15 : decode cX9_said 15 = .ok (.aload_n 0, 1) := by decide +kernel
theorem dX9_said_16 : decode cX9_said 16 = .ok (.iload_n 1, 1) := by decide +kernel
theorem dX9_said_17 : decode cX9_said 17 = .ok (.iload_n 2, 1) := by decide +kernel
theorem dX9_said_18 : decode cX9_said 18 = .ok (.invokevirtual 273, 3) := by decide +kernel
theorem dX9_said_21 : decode cX9_said 21 = .ok (.goto 5, 3) := by decide +kernel
theorem dX9_said_24 : decode cX9_said 24 = .ok (.bipush (-2), 2) := by decide +kernel
theorem dX9_said_26 : decode cX9_said 26 = .ok (.ireturn, 1) := by decide +kernel
theorem dX9_atOf_0 : decode cX9_atOf 0 = .ok (.aload_n 0, 1) := by decide +kernel
theorem dX9_atOf_1 : decode cX9_atOf 1 = .ok (.invokevirtual 267, 3) := by decide +kernel
theorem dX9_atOf_4 : decode cX9_atOf 4 = .ok (.aload_n 0, 1) := by decide +kernel
theorem dX9_atOf_5 : decode cX9_atOf 5 = .ok (.getfield 70, 3) := by decide +kernel
theorem dX9_atOf_8 : decode cX9_atOf 8 = .ok (.iconst 4, 1) := by decide +kernel
theorem dX9_atOf_9 : decode cX9_atOf 9 = .ok (.iload_n 1, 1) := by decide +kernel
theorem dX9_atOf_10 : decode cX9_atOf 10 = .ok (.imul, 1) := by decide +kernel
theorem dX9_atOf_11 : decode cX9_atOf 11 = .ok (.iload_n 2, 1) := by decide +kernel
theorem dX9_atOf_12 : decode cX9_atOf 12 = .ok (.iadd, 1) := by decide +kernel
theorem dX9_atOf_13 : decode cX9_atOf 13 = .ok (.iaload, 1) := by decide +kernel
theorem dX9_atOf_14 : decode cX9_atOf 14 = .ok (.ireturn, 1) := by decide +kernel
theorem dX9_at_0 : decode cX9_at 0 = .ok (.iload_n 1, 1) := by decide +kernel
theorem dX9_at_1 : decode cX9_at 1 = .ok (.invokestatic 157, 3) := by decide +kernel
theorem dX9_at_4 : decode cX9_at 4 = .ok (.ifCond .eq 21, 3) := by decide +kernel
theorem dX9_at_7 : decode cX9_at 7 = .ok (.iload_n 2, 1) := by decide +kernel
theorem dX9_at_8 : decode cX9_at 8 = .ok (.iconst 0, 1) := by decide +kernel
theorem dX9_at_9 : decode cX9_at 9 = .ok (.iconst 3, 1) := by decide +kernel
theorem dX9_at_10 : decode cX9_at 10 = .ok (.invokestatic 109, 3) := by decide +kernel
theorem dX9_at_13 : decode cX9_at 13 = .ok (.ifCond .eq 12, 3) := by decide +kernel
theorem dX9_at_16 : decode cX9_at 16 = .ok (.aload_n 0, 1) := by decide +kernel
theorem dX9_at_17 : decode cX9_at 17 = .ok (.iload_n 1, 1) := by decide +kernel
theorem dX9_at_18 : decode cX9_at 18 = .ok (.iload_n 2, 1) := by decide +kernel
theorem dX9_at_19 : decode cX9_at 19 = .ok (.invokevirtual 276, 3) := by decide +kernel
theorem dX9_at_22 : decode cX9_at 22 = .ok (.goto 5, 3) := by decide +kernel
theorem dX9_at_25 : decode cX9_at 25 = .ok (.bipush (-2), 2) := by decide +kernel
theorem dX9_at_27 : decode cX9_at 27 = .ok (.ireturn, 1) := by decide +kernel
theorem dX9_settledOf_0 : decode cX9_settledOf 0 = .ok (.aload_n 0, 1) := by decide +kernel
theorem dX9_settledOf_1 : decode cX9_settledOf 1 = .ok (.invokevirtual 267, 3) := by decide +kernel
theorem dX9_settledOf_4 : decode cX9_settledOf 4 = .ok (.aload_n 0, 1) := by decide +kernel
theorem dX9_settledOf_5 : decode cX9_settledOf 5 = .ok (.getfield 55, 3) := by decide +kernel
theorem dX9_settledOf_8 : decode cX9_settledOf 8 = .ok (.iload_n 1, 1) := by decide +kernel
theorem dX9_settledOf_9 : decode cX9_settledOf 9 = .ok (.iaload, 1) := by decide +kernel
theorem dX9_settledOf_10 : decode cX9_settledOf 10 = .ok (.ireturn, 1) := by decide +kernel
theorem dX9_settled_0 : decode cX9_settled 0 = .ok (.aload_n 0, 1) := by decide +kernel
theorem dX9_settled_1 : decode cX9_settled 1 = .ok (.iload_n 1, 1) := by decide +kernel
theorem dX9_settled_2 : decode cX9_settled 2 = .ok (.invokevirtual 148, 3) := by decide +kernel
theorem dX9_settled_5 : decode cX9_settled 5 = .ok (.ifCond .eq 11, 3) := by decide +kernel
theorem dX9_settled_8 : decode cX9_settled 8 = .ok (.aload_n 0, 1) := by decide +kernel
theorem dX9_settled_9 : decode cX9_settled 9 = .ok (.iload_n 1, 1) := by decide +kernel
theorem dX9_settled_10 : decode cX9_settled 10 = .ok (.invokevirtual 279, 3) := by decide +kernel
theorem dX9_settled_13 : decode cX9_settled 13 = .ok (.goto 5, 3) := by decide +kernel
theorem dX9_settled_16 : decode cX9_settled 16 = .ok (.bipush (-2), 2) := by decide +kernel
theorem dX9_settled_18 : decode cX9_settled 18 = .ok (.ireturn, 1) := by decide +kernel
theorem dX9_manySettled_0 : decode cX9_manySettled 0 = .ok (.iconst 0, 1) := by decide +kernel
theorem dX9_manySettled_1 : decode cX9_manySettled 1 = .ok (.istore_n 1, 1) := by decide +kernel
theorem dX9_manySettled_2 : decode cX9_manySettled 2 = .ok (.iconst 0, 1) := by decide +kernel
theorem dX9_manySettled_3 : decode cX9_manySettled 3 = .ok (.istore_n 2, 1) := by decide +kernel
theorem dX9_manySettled_4 : decode cX9_manySettled 4 = .ok (.iload_n 2, 1) := by decide +kernel
theorem dX9_manySettled_5 : decode cX9_manySettled 5 = .ok (.aload_n 0, 1) := by decide +kernel
theorem dX9_manySettled_6 : decode cX9_manySettled 6 = .ok (.getfield 173, 3) := by decide +kernel
theorem dX9_manySettled_9 : decode cX9_manySettled 9 = .ok (.if_icmp .ge 25, 3) := by decide +kernel
theorem dX9_manySettled_12 : decode cX9_manySettled 12 = .ok (.iload_n 1, 1) := by decide +kernel
theorem dX9_manySettled_13 : decode cX9_manySettled 13 = .ok (.aload_n 0, 1) := by decide +kernel
theorem dX9_manySettled_14 : decode cX9_manySettled 14 = .ok (.iload_n 2, 1) := by decide +kernel
theorem dX9_manySettled_15 : decode cX9_manySettled 15 = .ok (.invokevirtual 201, 3) := by decide +kernel
theorem dX9_manySettled_18 : decode cX9_manySettled 18 = .ok (.ifCond .eq 7, 3) := by decide +kernel
theorem dX9_manySettled_21 : decode cX9_manySettled 21 = .ok (.iconst 0, 1) := by decide +kernel
theorem dX9_manySettled_22 : decode cX9_manySettled 22 = .ok (.goto 4, 3) := by decide +kernel
theorem dX9_manySettled_25 : decode cX9_manySettled 25 = .ok (.iconst 1, 1) := by decide +kernel
theorem dX9_manySettled_26 : decode cX9_manySettled 26 = .ok (.iadd, 1) := by decide +kernel
theorem dX9_manySettled_27 : decode cX9_manySettled 27 = .ok (.istore_n 1, 1) := by decide +kernel
theorem dX9_manySettled_28 : decode cX9_manySettled 28 = .ok (.iinc 2 1, 3) := by decide +kernel
theorem dX9_manySettled_31 : decode cX9_manySettled 31 = .ok (.goto (-27), 3) := by decide +kernel
theorem dX9_manySettled_34 : decode cX9_manySettled 34 = .ok (.iload_n 1, 1) := by decide +kernel
theorem dX9_manySettled_35 : decode cX9_manySettled 35 = .ok (.ireturn, 1) := by decide +kernel
theorem dX9_sumOf_0 : decode cX9_sumOf 0 = .ok (.aload_n 0, 1) := by decide +kernel
theorem dX9_sumOf_1 : decode cX9_sumOf 1 = .ok (.invokevirtual 267, 3) := by decide +kernel
theorem dX9_sumOf_4 : decode cX9_sumOf 4 = .ok (.iload_n 1, 1) := by decide +kernel
theorem dX9_sumOf_5 : decode cX9_sumOf 5 = .ok (.ifCond .ne 10, 3) := by decide +kernel
theorem dX9_sumOf_8 : decode cX9_sumOf 8 = .ok (.aload_n 0, 1) := by decide +kernel
theorem dX9_sumOf_9 : decode cX9_sumOf 9 = .ok (.invokevirtual 282, 3) := by decide +kernel
theorem dX9_sumOf_12 : decode cX9_sumOf 12 = .ok (.goto 31, 3) := by decide +kernel
theorem dX9_sumOf_15 : decode cX9_sumOf 15 = .ok (.iload_n 1, 1) := by decide +kernel
theorem dX9_sumOf_16 : decode cX9_sumOf 16 = .ok (.iconst 1, 1) := by decide +kernel
theorem dX9_sumOf_17 : decode cX9_sumOf 17 = .ok (.if_icmp .ne 10, 3) := by decide +kernel
theorem dX9_sumOf_20 : decode cX9_sumOf 20 = .ok (.aload_n 0, 1) := by decide +kernel
theorem dX9_sumOf_21 : decode cX9_sumOf 21 = .ok (.getfield 243, 3) := by decide +kernel
theorem dX9_sumOf_24 : decode cX9_sumOf 24 = .ok (.goto 19, 3) := by decide +kernel
theorem dX9_sumOf_27 : decode cX9_sumOf 27 = .ok (.iload_n 1, 1) := by decide +kernel
theorem dX9_sumOf_28 : decode cX9_sumOf 28 = .ok (.iconst 2, 1) := by decide +kernel
theorem dX9_sumOf_29 : decode cX9_sumOf 29 = .ok (.if_icmp .ne 10, 3) := by decide +kernel
theorem dX9_sumOf_32 : decode cX9_sumOf 32 = .ok (.aload_n 0, 1) := by decide +kernel
theorem dX9_sumOf_33 : decode cX9_sumOf 33 = .ok (.getfield 246, 3) := by decide +kernel
theorem dX9_sumOf_36 : decode cX9_sumOf 36 = .ok (.goto 7, 3) := by decide +kernel
theorem dX9_sumOf_39 : decode cX9_sumOf 39 = .ok (.aload_n 0, 1) := by decide +kernel
theorem dX9_sumOf_40 : decode cX9_sumOf 40 = .ok (.getfield 249, 3) := by decide +kernel
theorem dX9_sumOf_43 : decode cX9_sumOf 43 = .ok (.ireturn, 1) := by decide +kernel
theorem dX9_sum_0 : decode cX9_sum 0 = .ok (.iload_n 1, 1) := by decide +kernel
theorem dX9_sum_1 : decode cX9_sum 1 = .ok (.iconst 0, 1) := by decide +kernel
theorem dX9_sum_2 : decode cX9_sum 2 = .ok (.iconst 3, 1) := by decide +kernel
theorem dX9_sum_3 : decode cX9_sum 3 = .ok (.invokestatic 109, 3) := by decide +kernel
theorem dX9_sum_6 : decode cX9_sum 6 = .ok (.ifCond .eq 11, 3) := by decide +kernel
theorem dX9_sum_9 : decode cX9_sum 9 = .ok (.aload_n 0, 1) := by decide +kernel
theorem dX9_sum_10 : decode cX9_sum 10 = .ok (.iload_n 1, 1) := by decide +kernel
theorem dX9_sum_11 : decode cX9_sum 11 = .ok (.invokevirtual 285, 3) := by decide +kernel
theorem dX9_sum_14 : decode cX9_sum 14 = .ok (.goto 5, 3) := by decide +kernel
theorem dX9_sum_17 : decode cX9_sum 17 = .ok (.bipush (-2), 2) := by decide +kernel
theorem dX9_sum_19 : decode cX9_sum 19 = .ok (.ireturn, 1) := by decide +kernel
theorem dX9_peaceOf_0 : decode cX9_peaceOf 0 = .ok (.aload_n 0, 1) := by decide +kernel
theorem dX9_peaceOf_1 : decode cX9_peaceOf 1 = .ok (.invokevirtual 267, 3) := by decide +kernel
theorem dX9_peaceOf_4 : decode cX9_peaceOf 4 = .ok (.aload_n 0, 1) := by decide +kernel
theorem dX9_peaceOf_5 : decode cX9_peaceOf 5 = .ok (.getfield 252, 3) := by decide +kernel
theorem dX9_peaceOf_8 : decode cX9_peaceOf 8 = .ok (.ireturn, 1) := by decide +kernel
theorem dX9_peace_0 : decode cX9_peace 0 = .ok (.aload_n 0, 1) := by decide +kernel
theorem dX9_peace_1 : decode cX9_peace 1 = .ok (.invokevirtual 288, 3) := by decide +kernel
theorem dX9_peace_4 : decode cX9_peace 4 = .ok (.ireturn, 1) := by decide +kernel
theorem dX9_longestOf_0 : decode cX9_longestOf 0 = .ok (.aload_n 0, 1) := by decide +kernel
theorem dX9_longestOf_1 : decode cX9_longestOf 1 = .ok (.invokevirtual 267, 3) := by decide +kernel
theorem dX9_longestOf_4 : decode cX9_longestOf 4 = .ok (.iconst (-1), 1) := by decide +kernel
theorem dX9_longestOf_5 : decode cX9_longestOf 5 = .ok (.istore_n 1, 1) := by decide +kernel
theorem dX9_longestOf_6 : decode cX9_longestOf 6 = .ok (.iconst 0, 1) := by decide +kernel
theorem dX9_longestOf_7 : decode cX9_longestOf 7 = .ok (.istore_n 2, 1) := by decide +kernel
theorem dX9_longestOf_8 : decode cX9_longestOf 8 = .ok (.iconst 0, 1) := by decide +kernel
theorem dX9_longestOf_9 : decode cX9_longestOf 9 = .ok (.istore_n 3, 1) := by decide +kernel
theorem dX9_longestOf_10 : decode cX9_longestOf 10 = .ok (.iload_n 3, 1) := by decide +kernel
theorem dX9_longestOf_11 : decode cX9_longestOf 11 = .ok (.aload_n 0, 1) := by decide +kernel
theorem dX9_longestOf_12 : decode cX9_longestOf 12 = .ok (.getfield 125, 3) := by decide +kernel
theorem dX9_longestOf_15 : decode cX9_longestOf 15 = .ok (.if_icmp .ge 46, 3) := by decide +kernel
theorem dX9_longestOf_18 : decode cX9_longestOf 18 = .ok (.aload_n 0, 1) := by decide +kernel
theorem dX9_longestOf_19 : decode cX9_longestOf 19 = .ok (.getfield 52, 3) := by decide +kernel
theorem dX9_longestOf_22 : decode cX9_longestOf 22 = .ok (.iload_n 3, 1) := by decide +kernel
theorem dX9_longestOf_23 : decode cX9_longestOf 23 = .ok (.iaload, 1) := by decide +kernel
theorem dX9_longestOf_24 : decode cX9_longestOf 24 = .ok (.iload_n 2, 1) := by decide +kernel
theorem dX9_longestOf_25 : decode cX9_longestOf 25 = .ok (.if_icmp .le 7, 3) := by decide +kernel
theorem dX9_longestOf_28 : decode cX9_longestOf 28 = .ok (.iload_n 3, 1) := by decide +kernel
theorem dX9_longestOf_29 : decode cX9_longestOf 29 = .ok (.goto 4, 3) := by decide +kernel
theorem dX9_longestOf_32 : decode cX9_longestOf 32 = .ok (.iload_n 1, 1) := by decide +kernel
theorem dX9_longestOf_33 : decode cX9_longestOf 33 = .ok (.istore_n 1, 1) := by decide +kernel
theorem dX9_longestOf_34 : decode cX9_longestOf 34 = .ok (.aload_n 0, 1) := by decide +kernel
theorem dX9_longestOf_35 : decode cX9_longestOf 35 = .ok (.getfield 52, 3) := by decide +kernel
theorem dX9_longestOf_38 : decode cX9_longestOf 38 = .ok (.iload_n 3, 1) := by decide +kernel
theorem dX9_longestOf_39 : decode cX9_longestOf 39 = .ok (.iaload, 1) := by decide +kernel
theorem dX9_longestOf_40 : decode cX9_longestOf 40 = .ok (.iload_n 2, 1) := by decide +kernel
theorem dX9_longestOf_41 : decode cX9_longestOf 41 = .ok (.if_icmp .le 12, 3) := by decide +kernel
theorem dX9_longestOf_44 : decode cX9_longestOf 44 = .ok (.aload_n 0, 1) := by decide +kernel
theorem dX9_longestOf_45 : decode cX9_longestOf 45 = .ok (.getfield 52, 3) := by decide +kernel
theorem dX9_longestOf_48 : decode cX9_longestOf 48 = .ok (.iload_n 3, 1) := by decide +kernel
theorem dX9_longestOf_49 : decode cX9_longestOf 49 = .ok (.iaload, 1) := by decide +kernel
theorem dX9_longestOf_50 : decode cX9_longestOf 50 = .ok (.goto 4, 3) := by decide +kernel
theorem dX9_longestOf_53 : decode cX9_longestOf 53 = .ok (.iload_n 2, 1) := by decide +kernel
theorem dX9_longestOf_54 : decode cX9_longestOf 54 = .ok (.istore_n 2, 1) := by decide +kernel
theorem dX9_longestOf_55 : decode cX9_longestOf 55 = .ok (.iinc 3 1, 3) := by decide +kernel
theorem dX9_longestOf_58 : decode cX9_longestOf 58 = .ok (.goto (-48), 3) := by decide +kernel
theorem dX9_longestOf_61 : decode cX9_longestOf 61 = .ok (.iload_n 1, 1) := by decide +kernel
theorem dX9_longestOf_62 : decode cX9_longestOf 62 = .ok (.ireturn, 1) := by decide +kernel
theorem dX9_longest_0 : decode cX9_longest 0 = .ok (.aload_n 0, 1) := by decide +kernel
theorem dX9_longest_1 : decode cX9_longest 1 = .ok (.invokevirtual 291, 3) := by decide +kernel
theorem dX9_longest_4 : decode cX9_longest 4 = .ok (.ireturn, 1) := by decide +kernel
theorem dX9_highestOf_0 : decode cX9_highestOf 0 = .ok (.aload_n 0, 1) := by decide +kernel
theorem dX9_highestOf_1 : decode cX9_highestOf 1 = .ok (.invokevirtual 267, 3) := by decide +kernel
theorem dX9_highestOf_4 : decode cX9_highestOf 4 = .ok (.aload_n 0, 1) := by decide +kernel
theorem dX9_highestOf_5 : decode cX9_highestOf 5 = .ok (.getfield 58, 3) := by decide +kernel
theorem dX9_highestOf_8 : decode cX9_highestOf 8 = .ok (.iload_n 1, 1) := by decide +kernel
theorem dX9_highestOf_9 : decode cX9_highestOf 9 = .ok (.iaload, 1) := by decide +kernel
theorem dX9_highestOf_10 : decode cX9_highestOf 10 = .ok (.ireturn, 1) := by decide +kernel
theorem dX9_highest_0 : decode cX9_highest 0 = .ok (.aload_n 0, 1) := by decide +kernel
theorem dX9_highest_1 : decode cX9_highest 1 = .ok (.iload_n 1, 1) := by decide +kernel
theorem dX9_highest_2 : decode cX9_highest 2 = .ok (.invokevirtual 148, 3) := by decide +kernel
theorem dX9_highest_5 : decode cX9_highest 5 = .ok (.ifCond .eq 11, 3) := by decide +kernel
theorem dX9_highest_8 : decode cX9_highest 8 = .ok (.aload_n 0, 1) := by decide +kernel
theorem dX9_highest_9 : decode cX9_highest 9 = .ok (.iload_n 1, 1) := by decide +kernel
theorem dX9_highest_10 : decode cX9_highest 10 = .ok (.invokevirtual 294, 3) := by decide +kernel
theorem dX9_highest_13 : decode cX9_highest 13 = .ok (.goto 5, 3) := by decide +kernel
theorem dX9_highest_16 : decode cX9_highest 16 = .ok (.bipush (-2), 2) := by decide +kernel
theorem dX9_highest_18 : decode cX9_highest 18 = .ok (.ireturn, 1) := by decide +kernel
theorem dX9_soreOf_0 : decode cX9_soreOf 0 = .ok (.aload_n 0, 1) := by decide +kernel
theorem dX9_soreOf_1 : decode cX9_soreOf 1 = .ok (.invokevirtual 267, 3) := by decide +kernel
theorem dX9_soreOf_4 : decode cX9_soreOf 4 = .ok (.iconst 1, 1) := by decide +kernel
theorem dX9_soreOf_5 : decode cX9_soreOf 5 = .ok (.aload_n 0, 1) := by decide +kernel
theorem dX9_soreOf_6 : decode cX9_soreOf 6 = .ok (.getfield 125, 3) := by decide +kernel
theorem dX9_soreOf_9 : decode cX9_soreOf 9 = .ok (.ishl, 1) := by decide +kernel
theorem dX9_soreOf_10 : decode cX9_soreOf 10 = .ok (.iconst 1, 1) := by decide +kernel
theorem dX9_soreOf_11 : decode cX9_soreOf 11 = .ok (.isub, 1) := by decide +kernel
theorem dX9_soreOf_12 : decode cX9_soreOf 12 = .ok (.aload_n 0, 1) := by decide +kernel
theorem dX9_soreOf_13 : decode cX9_soreOf 13 = .ok (.getfield 73, 3) := by decide +kernel
theorem dX9_soreOf_16 : decode cX9_soreOf 16 = .ok (.bipush 11, 2) := by decide +kernel
theorem dX9_soreOf_18 : decode cX9_soreOf 18 = .ok (.iaload, 1) := by decide +kernel
theorem dX9_soreOf_19 : decode cX9_soreOf 19 = .ok (.iconst (-1), 1) := by decide +kernel
theorem dX9_soreOf_20 : decode cX9_soreOf 20 = .ok (.ixor, 1) := by decide +kernel
theorem dX9_soreOf_21 : decode cX9_soreOf 21 = .ok (.iand, 1) := by decide +kernel
theorem dX9_soreOf_22 : decode cX9_soreOf 22 = .ok (.ireturn, 1) := by decide +kernel
theorem dX9_sore_0 : decode cX9_sore 0 = .ok (.aload_n 0, 1) := by decide +kernel
theorem dX9_sore_1 : decode cX9_sore 1 = .ok (.invokevirtual 297, 3) := by decide +kernel
theorem dX9_sore_4 : decode cX9_sore 4 = .ok (.ireturn, 1) := by decide +kernel
theorem dX9_starts_0 : decode cX9_starts 0 = .ok (.aload_n 0, 1) := by decide +kernel
theorem dX9_starts_1 : decode cX9_starts 1 = .ok (.invokevirtual 261, 3) := by decide +kernel
theorem dX9_starts_4 : decode cX9_starts 4 = .ok (.aload_n 0, 1) := by decide +kernel
theorem dX9_starts_5 : decode cX9_starts 5 = .ok (.iconst (-1), 1) := by decide +kernel
theorem dX9_starts_6 : decode cX9_starts 6 = .ok (.putfield 300, 3) := by decide +kernel
theorem dX9_starts_9 : decode cX9_starts 9 = .ok (.aload_n 0, 1) := by decide +kernel
theorem dX9_starts_10 : decode cX9_starts 10 = .ok (.iconst (-1), 1) := by decide +kernel
theorem dX9_starts_11 : decode cX9_starts 11 = .ok (.putfield 303, 3) := by decide +kernel
theorem dX9_starts_14 : decode cX9_starts 14 = .ok (.aload_n 0, 1) := by decide +kernel
theorem dX9_starts_15 : decode cX9_starts 15 = .ok (.iconst (-1), 1) := by decide +kernel
theorem dX9_starts_16 : decode cX9_starts 16 = .ok (.putfield 306, 3) := by decide +kernel
theorem dX9_starts_19 : decode cX9_starts 19 = .ok (.return_, 1) := by decide +kernel
theorem dX9_tries_0 : decode cX9_tries 0 = .ok (.aload_n 0, 1) := by decide +kernel
theorem dX9_tries_1 : decode cX9_tries 1 = .ok (.invokevirtual 264, 3) := by decide +kernel
theorem dX9_tries_4 : decode cX9_tries 4 = .ok (.aload_n 0, 1) := by decide +kernel
theorem dX9_tries_5 : decode cX9_tries 5 = .ok (.invokevirtual 282, 3) := by decide +kernel
theorem dX9_tries_8 : decode cX9_tries 8 = .ok (.istore_n 2, 1) := by decide +kernel
theorem dX9_tries_9 : decode cX9_tries 9 = .ok (.iload_n 2, 1) := by decide +kernel
theorem dX9_tries_10 : decode cX9_tries 10 = .ok (.aload_n 0, 1) := by decide +kernel
theorem dX9_tries_11 : decode cX9_tries 11 = .ok (.getfield 303, 3) := by decide +kernel
theorem dX9_tries_14 : decode cX9_tries 14 = .ok (.if_icmp .gt 22, 3) := by decide +kernel
theorem dX9_tries_17 : decode cX9_tries 17 = .ok (.iload_n 2, 1) := by decide +kernel
theorem dX9_tries_18 : decode cX9_tries 18 = .ok (.aload_n 0, 1) := by decide +kernel
theorem dX9_tries_19 : decode cX9_tries 19 = .ok (.getfield 303, 3) := by decide +kernel
theorem dX9_tries_22 : decode cX9_tries 22 = .ok (.if_icmp .ne 32, 3) := by decide +kernel
theorem dX9_tries_25 : decode cX9_tries 25 = .ok (.aload_n 0, 1) := by decide +kernel
theorem dX9_tries_26 : decode cX9_tries 26 = .ok (.getfield 246, 3) := by decide +kernel
theorem dX9_tries_29 : decode cX9_tries 29 = .ok (.aload_n 0, 1) := by decide +kernel
theorem dX9_tries_30 : decode cX9_tries 30 = .ok (.getfield 306, 3) := by decide +kernel
theorem dX9_tries_33 : decode cX9_tries 33 = .ok (.if_icmp .le 21, 3) := by decide +kernel
theorem dX9_tries_36 : decode cX9_tries 36 = .ok (.aload_n 0, 1) := by decide +kernel
theorem dX9_tries_37 : decode cX9_tries 37 = .ok (.iload_n 1, 1) := by decide +kernel
theorem dX9_tries_38 : decode cX9_tries 38 = .ok (.putfield 300, 3) := by decide +kernel
theorem dX9_tries_41 : decode cX9_tries 41 = .ok (.aload_n 0, 1) := by decide +kernel
theorem dX9_tries_42 : decode cX9_tries 42 = .ok (.iload_n 2, 1) := by decide +kernel
theorem dX9_tries_43 : decode cX9_tries 43 = .ok (.putfield 303, 3) := by decide +kernel
theorem dX9_tries_46 : decode cX9_tries 46 = .ok (.aload_n 0, 1) := by decide +kernel
theorem dX9_tries_47 : decode cX9_tries 47 = .ok (.aload_n 0, 1) := by decide +kernel
theorem dX9_tries_48 : decode cX9_tries 48 = .ok (.getfield 246, 3) := by decide +kernel
theorem dX9_tries_51 : decode cX9_tries 51 = .ok (.putfield 306, 3) := by decide +kernel
theorem dX9_tries_54 : decode cX9_tries 54 = .ok (.return_, 1) := by decide +kernel
theorem dX9_puts_0 : decode cX9_puts 0 = .ok (.aload_n 0, 1) := by decide +kernel
theorem dX9_puts_1 : decode cX9_puts 1 = .ok (.getfield 37, 3) := by decide +kernel
theorem dX9_puts_4 : decode cX9_puts 4 = .ok (.iload_n 1, 1) := by decide +kernel
theorem dX9_puts_5 : decode cX9_puts 5 = .ok (.aload_n 0, 1) := by decide +kernel
theorem dX9_puts_6 : decode cX9_puts 6 = .ok (.getfield 19, 3) := by decide +kernel
theorem dX9_puts_9 : decode cX9_puts 9 = .ok (.iload_n 2, 1) := by decide +kernel
theorem dX9_puts_10 : decode cX9_puts 10 = .ok (.iaload, 1) := by decide +kernel
theorem dX9_puts_11 : decode cX9_puts 11 = .ok (.iastore, 1) := by decide +kernel
theorem dX9_puts_12 : decode cX9_puts 12 = .ok (.aload_n 0, 1) := by decide +kernel
theorem dX9_puts_13 : decode cX9_puts 13 = .ok (.getfield 40, 3) := by decide +kernel
theorem dX9_puts_16 : decode cX9_puts 16 = .ok (.iload_n 1, 1) := by decide +kernel
theorem dX9_puts_17 : decode cX9_puts 17 = .ok (.aload_n 0, 1) := by decide +kernel
theorem dX9_puts_18 : decode cX9_puts 18 = .ok (.getfield 22, 3) := by decide +kernel
theorem dX9_puts_21 : decode cX9_puts 21 = .ok (.iload_n 2, 1) := by decide +kernel
theorem dX9_puts_22 : decode cX9_puts 22 = .ok (.iaload, 1) := by decide +kernel
theorem dX9_puts_23 : decode cX9_puts 23 = .ok (.iastore, 1) := by decide +kernel
theorem dX9_puts_24 : decode cX9_puts 24 = .ok (.aload_n 0, 1) := by decide +kernel
theorem dX9_puts_25 : decode cX9_puts 25 = .ok (.getfield 43, 3) := by decide +kernel
theorem dX9_puts_28 : decode cX9_puts 28 = .ok (.iload_n 1, 1) := by decide +kernel
theorem dX9_puts_29 : decode cX9_puts 29 = .ok (.aload_n 0, 1) := by decide +kernel
theorem dX9_puts_30 : decode cX9_puts 30 = .ok (.getfield 25, 3) := by decide +kernel
theorem dX9_puts_33 : decode cX9_puts 33 = .ok (.iload_n 2, 1) := by decide +kernel
theorem dX9_puts_34 : decode cX9_puts 34 = .ok (.iaload, 1) := by decide +kernel
theorem dX9_puts_35 : decode cX9_puts 35 = .ok (.iastore, 1) := by decide +kernel
theorem dX9_puts_36 : decode cX9_puts 36 = .ok (.return_, 1) := by decide +kernel
theorem dX9_swapOf_0 : decode cX9_swapOf 0 = .ok (.aload_n 0, 1) := by decide +kernel
theorem dX9_swapOf_1 : decode cX9_swapOf 1 = .ok (.invokevirtual 309, 3) := by decide +kernel
theorem dX9_swapOf_4 : decode cX9_swapOf 4 = .ok (.iconst 0, 1) := by decide +kernel
theorem dX9_swapOf_5 : decode cX9_swapOf 5 = .ok (.istore_n 2, 1) := by decide +kernel
theorem dX9_swapOf_6 : decode cX9_swapOf 6 = .ok (.iload_n 2, 1) := by decide +kernel
theorem dX9_swapOf_7 : decode cX9_swapOf 7 = .ok (.aload_n 0, 1) := by decide +kernel
theorem dX9_swapOf_8 : decode cX9_swapOf 8 = .ok (.getfield 125, 3) := by decide +kernel
theorem dX9_swapOf_11 : decode cX9_swapOf 11 = .ok (.if_icmp .ge 61, 3) := by decide +kernel
theorem dX9_swapOf_14 : decode cX9_swapOf 14 = .ok (.iload_n 2, 1) := by decide +kernel
theorem dX9_swapOf_15 : decode cX9_swapOf 15 = .ok (.iconst 1, 1) := by decide +kernel
theorem dX9_swapOf_16 : decode cX9_swapOf 16 = .ok (.iadd, 1) := by decide +kernel
theorem dX9_swapOf_17 : decode cX9_swapOf 17 = .ok (.istore_n 3, 1) := by decide +kernel
theorem dX9_swapOf_18 : decode cX9_swapOf 18 = .ok (.iload_n 3, 1) := by decide +kernel
theorem dX9_swapOf_19 : decode cX9_swapOf 19 = .ok (.aload_n 0, 1) := by decide +kernel
theorem dX9_swapOf_20 : decode cX9_swapOf 20 = .ok (.getfield 125, 3) := by decide +kernel
theorem dX9_swapOf_23 : decode cX9_swapOf 23 = .ok (.if_icmp .ge 43, 3) := by decide +kernel
theorem dX9_swapOf_26 : decode cX9_swapOf 26 = .ok (.aload_n 0, 1) := by decide +kernel
theorem dX9_swapOf_27 : decode cX9_swapOf 27 = .ok (.iload_n 2, 1) := by decide +kernel
theorem dX9_swapOf_28 : decode cX9_swapOf 28 = .ok (.iload_n 3, 1) := by decide +kernel
theorem dX9_swapOf_29 : decode cX9_swapOf 29 = .ok (.invokevirtual 312, 3) := by decide +kernel
theorem dX9_swapOf_32 : decode cX9_swapOf 32 = .ok (.aload_n 0, 1) := by decide +kernel
theorem dX9_swapOf_33 : decode cX9_swapOf 33 = .ok (.iload_n 3, 1) := by decide +kernel
theorem dX9_swapOf_34 : decode cX9_swapOf 34 = .ok (.iload_n 2, 1) := by decide +kernel
theorem dX9_swapOf_35 : decode cX9_swapOf 35 = .ok (.invokevirtual 312, 3) := by decide +kernel
theorem dX9_swapOf_38 : decode cX9_swapOf 38 = .ok (.aload_n 0, 1) := by decide +kernel
theorem dX9_swapOf_39 : decode cX9_swapOf 39 = .ok (.bipush 8, 2) := by decide +kernel
theorem dX9_swapOf_41 : decode cX9_swapOf 41 = .ok (.iload_n 2, 1) := by decide +kernel
theorem dX9_swapOf_42 : decode cX9_swapOf 42 = .ok (.imul, 1) := by decide +kernel
theorem dX9_swapOf_43 : decode cX9_swapOf 43 = .ok (.iload_n 3, 1) := by decide +kernel
theorem dX9_swapOf_44 : decode cX9_swapOf 44 = .ok (.iadd, 1) := by decide +kernel
theorem dX9_swapOf_45 : decode cX9_swapOf 45 = .ok (.invokevirtual 315, 3) := by decide +kernel
theorem dX9_swapOf_48 : decode cX9_swapOf 48 = .ok (.aload_n 0, 1) := by decide +kernel
theorem dX9_swapOf_49 : decode cX9_swapOf 49 = .ok (.iload_n 2, 1) := by decide +kernel
theorem dX9_swapOf_50 : decode cX9_swapOf 50 = .ok (.iload_n 2, 1) := by decide +kernel
theorem dX9_swapOf_51 : decode cX9_swapOf 51 = .ok (.invokevirtual 312, 3) := by decide +kernel
theorem dX9_swapOf_54 : decode cX9_swapOf 54 = .ok (.aload_n 0, 1) := by decide +kernel
theorem dX9_swapOf_55 : decode cX9_swapOf 55 = .ok (.iload_n 3, 1) := by decide +kernel
theorem dX9_swapOf_56 : decode cX9_swapOf 56 = .ok (.iload_n 3, 1) := by decide +kernel
theorem dX9_swapOf_57 : decode cX9_swapOf 57 = .ok (.invokevirtual 312, 3) := by decide +kernel
theorem dX9_swapOf_60 : decode cX9_swapOf 60 = .ok (.iinc 3 1, 3) := by decide +kernel
theorem dX9_swapOf_63 : decode cX9_swapOf 63 = .ok (.goto (-45), 3) := by decide +kernel
theorem dX9_swapOf_66 : decode cX9_swapOf 66 = .ok (.iinc 2 1, 3) := by decide +kernel
theorem dX9_swapOf_69 : decode cX9_swapOf 69 = .ok (.goto (-63), 3) := by decide +kernel
theorem dX9_swapOf_72 : decode cX9_swapOf 72 = .ok (.aload_n 0, 1) := by decide +kernel
theorem dX9_swapOf_73 : decode cX9_swapOf 73 = .ok (.getfield 300, 3) := by decide +kernel
theorem dX9_swapOf_76 : decode cX9_swapOf 76 = .ok (.iconst (-1), 1) := by decide +kernel
theorem dX9_swapOf_77 : decode cX9_swapOf 77 = .ok (.if_icmp .ne 7, 3) := by decide +kernel
theorem dX9_swapOf_80 : decode cX9_swapOf 80 = .ok (.iconst (-1), 1) := by decide +kernel
theorem dX9_swapOf_81 : decode cX9_swapOf 81 = .ok (.goto 48, 3) := by decide +kernel
theorem dX9_swapOf_84 : decode cX9_swapOf 84 = .ok (.iload_n 1, 1) := by decide +kernel
theorem dX9_swapOf_85 : decode cX9_swapOf 85 = .ok (.ifCond .ne 13, 3) := by decide +kernel
theorem dX9_swapOf_88 : decode cX9_swapOf 88 = .ok (.aload_n 0, 1) := by decide +kernel
theorem dX9_swapOf_89 : decode cX9_swapOf 89 = .ok (.getfield 300, 3) := by decide +kernel
theorem dX9_swapOf_92 : decode cX9_swapOf 92 = .ok (.bipush 8, 2) := by decide +kernel
theorem dX9_swapOf_94 : decode cX9_swapOf 94 = .ok (.idiv, 1) := by decide +kernel
theorem dX9_swapOf_95 : decode cX9_swapOf 95 = .ok (.goto 34, 3) := by decide +kernel
theorem dX9_swapOf_98 : decode cX9_swapOf 98 = .ok (.iload_n 1, 1) := by decide +kernel
theorem dX9_swapOf_99 : decode cX9_swapOf 99 = .ok (.iconst 1, 1) := by decide +kernel
theorem dX9_swapOf_100 : decode cX9_swapOf 100 = .ok (.if_icmp .ne 13, 3) := by decide +kernel
theorem dX9_swapOf_103 : decode cX9_swapOf 103 = .ok (.aload_n 0, 1) := by decide +kernel
theorem dX9_swapOf_104 : decode cX9_swapOf 104 = .ok (.getfield 300, 3) := by decide +kernel
theorem dX9_swapOf_107 : decode cX9_swapOf 107 = .ok (.bipush 8, 2) := by decide +kernel
theorem dX9_swapOf_109 : decode cX9_swapOf 109 = .ok (.irem, 1) := by decide +kernel
theorem dX9_swapOf_110 : decode cX9_swapOf 110 = .ok (.goto 19, 3) := by decide +kernel
theorem dX9_swapOf_113 : decode cX9_swapOf 113 = .ok (.iload_n 1, 1) := by decide +kernel
theorem dX9_swapOf_114 : decode cX9_swapOf 114 = .ok (.iconst 2, 1) := by decide +kernel
theorem dX9_swapOf_115 : decode cX9_swapOf 115 = .ok (.if_icmp .ne 10, 3) := by decide +kernel
theorem dX9_swapOf_118 : decode cX9_swapOf 118 = .ok (.aload_n 0, 1) := by decide +kernel
theorem dX9_swapOf_119 : decode cX9_swapOf 119 = .ok (.getfield 303, 3) := by decide +kernel
theorem dX9_swapOf_122 : decode cX9_swapOf 122 = .ok (.goto 7, 3) := by decide +kernel
theorem dX9_swapOf_125 : decode cX9_swapOf 125 = .ok (.aload_n 0, 1) := by decide +kernel
theorem dX9_swapOf_126 : decode cX9_swapOf 126 = .ok (.getfield 306, 3) := by decide +kernel
theorem dX9_swapOf_129 : decode cX9_swapOf 129 = .ok (.ireturn, 1) := by decide +kernel
theorem dX9_swap_0 : decode cX9_swap 0 = .ok (.iload_n 1, 1) := by decide +kernel
theorem dX9_swap_1 : decode cX9_swap 1 = .ok (.iconst 0, 1) := by decide +kernel
theorem dX9_swap_2 : decode cX9_swap 2 = .ok (.iconst 3, 1) := by decide +kernel
theorem dX9_swap_3 : decode cX9_swap 3 = .ok (.invokestatic 109, 3) := by decide +kernel
theorem dX9_swap_6 : decode cX9_swap 6 = .ok (.ifCond .eq 11, 3) := by decide +kernel
theorem dX9_swap_9 : decode cX9_swap 9 = .ok (.aload_n 0, 1) := by decide +kernel
theorem dX9_swap_10 : decode cX9_swap 10 = .ok (.iload_n 1, 1) := by decide +kernel
theorem dX9_swap_11 : decode cX9_swap 11 = .ok (.invokevirtual 318, 3) := by decide +kernel
theorem dX9_swap_14 : decode cX9_swap 14 = .ok (.goto 5, 3) := by decide +kernel
theorem dX9_swap_17 : decode cX9_swap 17 = .ok (.bipush (-2), 2) := by decide +kernel
theorem dX9_swap_19 : decode cX9_swap 19 = .ok (.ireturn, 1) := by decide +kernel
theorem dX9_fitOf_0 : decode cX9_fitOf 0 = .ok (.aload_n 0, 1) := by decide +kernel
theorem dX9_fitOf_1 : decode cX9_fitOf 1 = .ok (.invokevirtual 261, 3) := by decide +kernel
theorem dX9_fitOf_4 : decode cX9_fitOf 4 = .ok (.iconst 0, 1) := by decide +kernel
theorem dX9_fitOf_5 : decode cX9_fitOf 5 = .ok (.istore_n 1, 1) := by decide +kernel
theorem dX9_fitOf_6 : decode cX9_fitOf 6 = .ok (.iload_n 1, 1) := by decide +kernel
theorem dX9_fitOf_7 : decode cX9_fitOf 7 = .ok (.aload_n 0, 1) := by decide +kernel
theorem dX9_fitOf_8 : decode cX9_fitOf 8 = .ok (.getfield 117, 3) := by decide +kernel
theorem dX9_fitOf_11 : decode cX9_fitOf 11 = .ok (.if_icmp .gt 31, 3) := by decide +kernel
theorem dX9_fitOf_14 : decode cX9_fitOf 14 = .ok (.aload_n 0, 1) := by decide +kernel
theorem dX9_fitOf_15 : decode cX9_fitOf 15 = .ok (.iload_n 1, 1) := by decide +kernel
theorem dX9_fitOf_16 : decode cX9_fitOf 16 = .ok (.putfield 176, 3) := by decide +kernel
theorem dX9_fitOf_19 : decode cX9_fitOf 19 = .ok (.aload_n 0, 1) := by decide +kernel
theorem dX9_fitOf_20 : decode cX9_fitOf 20 = .ok (.invokevirtual 264, 3) := by decide +kernel
theorem dX9_fitOf_23 : decode cX9_fitOf 23 = .ok (.aload_n 0, 1) := by decide +kernel
theorem dX9_fitOf_24 : decode cX9_fitOf 24 = .ok (.invokevirtual 282, 3) := by decide +kernel
theorem dX9_fitOf_27 : decode cX9_fitOf 27 = .ok (.aload_n 0, 1) := by decide +kernel
theorem dX9_fitOf_28 : decode cX9_fitOf 28 = .ok (.getfield 125, 3) := by decide +kernel
theorem dX9_fitOf_31 : decode cX9_fitOf 31 = .ok (.if_icmp .ne 5, 3) := by decide +kernel
theorem dX9_fitOf_34 : decode cX9_fitOf 34 = .ok (.iload_n 1, 1) := by decide +kernel
theorem dX9_fitOf_35 : decode cX9_fitOf 35 = .ok (.ireturn, 1) := by decide +kernel
theorem dX9_fitOf_36 : decode cX9_fitOf 36 = .ok (.iinc 1 1, 3) := by decide +kernel
theorem dX9_fitOf_39 : decode cX9_fitOf 39 = .ok (.goto (-33), 3) := by decide +kernel
theorem dX9_fitOf_42 : decode cX9_fitOf 42 = .ok (.iconst (-1), 1) := by decide +kernel
theorem dX9_fitOf_43 : decode cX9_fitOf 43 = .ok (.ireturn, 1) := by decide +kernel
theorem dX9_fit_0 : decode cX9_fit 0 = .ok (.aload_n 0, 1) := by decide +kernel
theorem dX9_fit_1 : decode cX9_fit 1 = .ok (.invokevirtual 321, 3) := by decide +kernel
theorem dX9_fit_4 : decode cX9_fit 4 = .ok (.ireturn, 1) := by decide +kernel
theorem dX9_leaveOf_0 : decode cX9_leaveOf 0 = .ok (.aload_n 0, 1) := by decide +kernel
theorem dX9_leaveOf_1 : decode cX9_leaveOf 1 = .ok (.invokevirtual 309, 3) := by decide +kernel
theorem dX9_leaveOf_4 : decode cX9_leaveOf 4 = .ok (.aload_n 0, 1) := by decide +kernel
theorem dX9_leaveOf_5 : decode cX9_leaveOf 5 = .ok (.iload_n 1, 1) := by decide +kernel
theorem dX9_leaveOf_6 : decode cX9_leaveOf 6 = .ok (.putfield 179, 3) := by decide +kernel
theorem dX9_leaveOf_9 : decode cX9_leaveOf 9 = .ok (.iconst 0, 1) := by decide +kernel
theorem dX9_leaveOf_10 : decode cX9_leaveOf 10 = .ok (.istore_n 3, 1) := by decide +kernel
theorem dX9_leaveOf_11 : decode cX9_leaveOf 11 = .ok (.iload_n 3, 1) := by decide +kernel
theorem dX9_leaveOf_12 : decode cX9_leaveOf 12 = .ok (.aload_n 0, 1) := by decide +kernel
theorem dX9_leaveOf_13 : decode cX9_leaveOf 13 = .ok (.getfield 117, 3) := by decide +kernel
theorem dX9_leaveOf_16 : decode cX9_leaveOf 16 = .ok (.if_icmp .ge 19, 3) := by decide +kernel
theorem dX9_leaveOf_19 : decode cX9_leaveOf 19 = .ok (.aload_n 0, 1) := by decide +kernel
theorem dX9_leaveOf_20 : decode cX9_leaveOf 20 = .ok (.iload_n 3, 1) := by decide +kernel
theorem dX9_leaveOf_21 : decode cX9_leaveOf 21 = .ok (.putfield 182, 3) := by decide +kernel
theorem dX9_leaveOf_24 : decode cX9_leaveOf 24 = .ok (.aload_n 0, 1) := by decide +kernel
theorem dX9_leaveOf_25 : decode cX9_leaveOf 25 = .ok (.iload_n 3, 1) := by decide +kernel
theorem dX9_leaveOf_26 : decode cX9_leaveOf 26 = .ok (.invokevirtual 315, 3) := by decide +kernel
theorem dX9_leaveOf_29 : decode cX9_leaveOf 29 = .ok (.iinc 3 1, 3) := by decide +kernel
theorem dX9_leaveOf_32 : decode cX9_leaveOf 32 = .ok (.goto (-21), 3) := by decide +kernel
theorem dX9_leaveOf_35 : decode cX9_leaveOf 35 = .ok (.iload_n 2, 1) := by decide +kernel
theorem dX9_leaveOf_36 : decode cX9_leaveOf 36 = .ok (.ifCond .ne 10, 3) := by decide +kernel
theorem dX9_leaveOf_39 : decode cX9_leaveOf 39 = .ok (.aload_n 0, 1) := by decide +kernel
theorem dX9_leaveOf_40 : decode cX9_leaveOf 40 = .ok (.getfield 300, 3) := by decide +kernel
theorem dX9_leaveOf_43 : decode cX9_leaveOf 43 = .ok (.goto 19, 3) := by decide +kernel
theorem dX9_leaveOf_46 : decode cX9_leaveOf 46 = .ok (.iload_n 2, 1) := by decide +kernel
theorem dX9_leaveOf_47 : decode cX9_leaveOf 47 = .ok (.iconst 1, 1) := by decide +kernel
theorem dX9_leaveOf_48 : decode cX9_leaveOf 48 = .ok (.if_icmp .ne 10, 3) := by decide +kernel
theorem dX9_leaveOf_51 : decode cX9_leaveOf 51 = .ok (.aload_n 0, 1) := by decide +kernel
theorem dX9_leaveOf_52 : decode cX9_leaveOf 52 = .ok (.getfield 303, 3) := by decide +kernel
theorem dX9_leaveOf_55 : decode cX9_leaveOf 55 = .ok (.goto 7, 3) := by decide +kernel
theorem dX9_leaveOf_58 : decode cX9_leaveOf 58 = .ok (.aload_n 0, 1) := by decide +kernel
theorem dX9_leaveOf_59 : decode cX9_leaveOf 59 = .ok (.getfield 306, 3) := by decide +kernel
theorem dX9_leaveOf_62 : decode cX9_leaveOf 62 = .ok (.ireturn, 1) := by decide +kernel
theorem dX9_leaveTold_0 : decode cX9_leaveTold 0 = .ok (.aload_n 0, 1) := by decide +kernel
theorem dX9_leaveTold_1 : decode cX9_leaveTold 1 = .ok (.invokevirtual 142, 3) := by decide +kernel
theorem dX9_leaveTold_4 : decode cX9_leaveTold 4 = .ok (.aload_n 0, 1) := by decide +kernel
theorem dX9_leaveTold_5 : decode cX9_leaveTold 5 = .ok (.getfield 117, 3) := by decide +kernel
theorem dX9_leaveTold_8 : decode cX9_leaveTold 8 = .ok (.ifCond .ne 7, 3) := by decide +kernel
theorem dX9_leaveTold_11 : decode cX9_leaveTold 11 = .ok (.iconst (-1), 1) := by decide +kernel
theorem dX9_leaveTold_12 : decode cX9_leaveTold 12 = .ok (.goto 9, 3) := by decide +kernel
theorem dX9_leaveTold_15 : decode cX9_leaveTold 15 = .ok (.aload_n 0, 1) := by decide +kernel
theorem dX9_leaveTold_16 : decode cX9_leaveTold 16 = .ok (.iload_n 1, 1) := by decide +kernel
theorem dX9_leaveTold_17 : decode cX9_leaveTold 17 = .ok (.iload_n 2, 1) := by decide +kernel
theorem dX9_leaveTold_18 : decode cX9_leaveTold 18 = .ok (.invokevirtual 324, 3) := by decide +kernel
theorem dX9_leaveTold_21 : decode cX9_leaveTold 21 = .ok (.ireturn, 1) := by decide +kernel
theorem dX9_leave_0 : decode cX9_leave 0 = .ok (.iload_n 1, 1) := by decide +kernel
theorem dX9_leave_1 : decode cX9_leave 1 = .ok (.invokestatic 157, 3) := by decide +kernel
theorem dX9_leave_4 : decode cX9_leave 4 = .ok (.ifCond .eq 19, 3) := by decide +kernel
theorem dX9_leave_7 : decode cX9_leave 7 = .ok (.iload_n 2, 1) := by decide +kernel
theorem dX9_leave_8 : decode cX9_leave 8 = .ok (.invokestatic 151, 3) := by decide +kernel
theorem dX9_leave_11 : decode cX9_leave 11 = .ok (.ifCond .eq 12, 3) := by decide +kernel
theorem dX9_leave_14 : decode cX9_leave 14 = .ok (.aload_n 0, 1) := by decide +kernel
theorem dX9_leave_15 : decode cX9_leave 15 = .ok (.iload_n 1, 1) := by decide +kernel
theorem dX9_leave_16 : decode cX9_leave 16 = .ok (.iload_n 2, 1) := by decide +kernel
theorem dX9_leave_17 : decode cX9_leave 17 = .ok (.invokevirtual 327, 3) := by decide +kernel
theorem dX9_leave_20 : decode cX9_leave 20 = .ok (.goto 5, 3) := by decide +kernel
theorem dX9_leave_23 : decode cX9_leave 23 = .ok (.bipush (-2), 2) := by decide +kernel
theorem dX9_leave_25 : decode cX9_leave 25 = .ok (.ireturn, 1) := by decide +kernel
theorem dX9_isSpared_0 : decode cX9_isSpared 0 = .ok (.aload_n 0, 1) := by decide +kernel
theorem dX9_isSpared_1 : decode cX9_isSpared 1 = .ok (.iload_n 1, 1) := by decide +kernel
theorem dX9_isSpared_2 : decode cX9_isSpared 2 = .ok (.putfield 185, 3) := by decide +kernel
theorem dX9_isSpared_5 : decode cX9_isSpared 5 = .ok (.aload_n 0, 1) := by decide +kernel
theorem dX9_isSpared_6 : decode cX9_isSpared 6 = .ok (.invokevirtual 264, 3) := by decide +kernel
theorem dX9_isSpared_9 : decode cX9_isSpared 9 = .ok (.aload_n 0, 1) := by decide +kernel
theorem dX9_isSpared_10 : decode cX9_isSpared 10 = .ok (.invokevirtual 282, 3) := by decide +kernel
theorem dX9_isSpared_13 : decode cX9_isSpared 13 = .ok (.aload_n 0, 1) := by decide +kernel
theorem dX9_isSpared_14 : decode cX9_isSpared 14 = .ok (.getfield 125, 3) := by decide +kernel
theorem dX9_isSpared_17 : decode cX9_isSpared 17 = .ok (.if_icmp .ne 7, 3) := by decide +kernel
theorem dX9_isSpared_20 : decode cX9_isSpared 20 = .ok (.iconst 1, 1) := by decide +kernel
theorem dX9_isSpared_21 : decode cX9_isSpared 21 = .ok (.goto 4, 3) := by decide +kernel
theorem dX9_isSpared_24 : decode cX9_isSpared 24 = .ok (.iconst 0, 1) := by decide +kernel
theorem dX9_isSpared_25 : decode cX9_isSpared 25 = .ok (.ireturn, 1) := by decide +kernel
theorem dX9_spareBy_0 : decode cX9_spareBy 0 = .ok (.aload_n 0, 1) := by decide +kernel
theorem dX9_spareBy_1 : decode cX9_spareBy 1 = .ok (.invokevirtual 261, 3) := by decide +kernel
theorem dX9_spareBy_4 : decode cX9_spareBy 4 = .ok (.aload_n 0, 1) := by decide +kernel
theorem dX9_spareBy_5 : decode cX9_spareBy 5 = .ok (.iconst 0, 1) := by decide +kernel
theorem dX9_spareBy_6 : decode cX9_spareBy 6 = .ok (.invokevirtual 330, 3) := by decide +kernel
theorem dX9_spareBy_9 : decode cX9_spareBy 9 = .ok (.ifCond .eq 5, 3) := by decide +kernel
theorem dX9_spareBy_12 : decode cX9_spareBy 12 = .ok (.iconst 0, 1) := by decide +kernel
theorem dX9_spareBy_13 : decode cX9_spareBy 13 = .ok (.ireturn, 1) := by decide +kernel
theorem dX9_spareBy_14 : decode cX9_spareBy 14 = .ok (.iconst 0, 1) := by decide +kernel
theorem dX9_spareBy_15 : decode cX9_spareBy 15 = .ok (.istore_n 1, 1) := by decide +kernel
theorem dX9_spareBy_16 : decode cX9_spareBy 16 = .ok (.iload_n 1, 1) := by decide +kernel
theorem dX9_spareBy_17 : decode cX9_spareBy 17 = .ok (.aload_n 0, 1) := by decide +kernel
theorem dX9_spareBy_18 : decode cX9_spareBy 18 = .ok (.getfield 160, 3) := by decide +kernel
theorem dX9_spareBy_21 : decode cX9_spareBy 21 = .ok (.if_icmp .ge 28, 3) := by decide +kernel
theorem dX9_spareBy_24 : decode cX9_spareBy 24 = .ok (.aload_n 0, 1) := by decide +kernel
theorem dX9_spareBy_25 : decode cX9_spareBy 25 = .ok (.getfield 76, 3) := by decide +kernel
theorem dX9_spareBy_28 : decode cX9_spareBy 28 = .ok (.iconst 0, 1) := by decide +kernel
theorem dX9_spareBy_29 : decode cX9_spareBy 29 = .ok (.iload_n 1, 1) := by decide +kernel
theorem dX9_spareBy_30 : decode cX9_spareBy 30 = .ok (.iastore, 1) := by decide +kernel
theorem dX9_spareBy_31 : decode cX9_spareBy 31 = .ok (.aload_n 0, 1) := by decide +kernel
theorem dX9_spareBy_32 : decode cX9_spareBy 32 = .ok (.iconst 1, 1) := by decide +kernel
theorem dX9_spareBy_33 : decode cX9_spareBy 33 = .ok (.iload_n 1, 1) := by decide +kernel
theorem dX9_spareBy_34 : decode cX9_spareBy 34 = .ok (.ishl, 1) := by decide +kernel
theorem dX9_spareBy_35 : decode cX9_spareBy 35 = .ok (.invokevirtual 330, 3) := by decide +kernel
theorem dX9_spareBy_38 : decode cX9_spareBy 38 = .ok (.ifCond .eq 5, 3) := by decide +kernel
theorem dX9_spareBy_41 : decode cX9_spareBy 41 = .ok (.iconst 1, 1) := by decide +kernel
theorem dX9_spareBy_42 : decode cX9_spareBy 42 = .ok (.ireturn, 1) := by decide +kernel
theorem dX9_spareBy_43 : decode cX9_spareBy 43 = .ok (.iinc 1 1, 3) := by decide +kernel
theorem dX9_spareBy_46 : decode cX9_spareBy 46 = .ok (.goto (-30), 3) := by decide +kernel
theorem dX9_spareBy_49 : decode cX9_spareBy 49 = .ok (.iconst 0, 1) := by decide +kernel
theorem dX9_spareBy_50 : decode cX9_spareBy 50 = .ok (.istore_n 1, 1) := by decide +kernel
theorem dX9_spareBy_51 : decode cX9_spareBy 51 = .ok (.iload_n 1, 1) := by decide +kernel
theorem dX9_spareBy_52 : decode cX9_spareBy 52 = .ok (.aload_n 0, 1) := by decide +kernel
theorem dX9_spareBy_53 : decode cX9_spareBy 53 = .ok (.getfield 160, 3) := by decide +kernel
theorem dX9_spareBy_56 : decode cX9_spareBy 56 = .ok (.if_icmp .ge 57, 3) := by decide +kernel
theorem dX9_spareBy_59 : decode cX9_spareBy 59 = .ok (.iload_n 1, 1) := by decide +kernel
theorem dX9_spareBy_60 : decode cX9_spareBy 60 = .ok (.iconst 1, 1) := by decide +kernel
theorem dX9_spareBy_61 : decode cX9_spareBy 61 = .ok (.iadd, 1) := by decide +kernel
theorem dX9_spareBy_62 : decode cX9_spareBy 62 = .ok (.istore_n 2, 1) := by decide +kernel
theorem dX9_spareBy_63 : decode cX9_spareBy 63 = .ok (.iload_n 2, 1) := by decide +kernel
theorem dX9_spareBy_64 : decode cX9_spareBy 64 = .ok (.aload_n 0, 1) := by decide +kernel
theorem dX9_spareBy_65 : decode cX9_spareBy 65 = .ok (.getfield 160, 3) := by decide +kernel
theorem dX9_spareBy_68 : decode cX9_spareBy 68 = .ok (.if_icmp .ge 39, 3) := by decide +kernel
theorem dX9_spareBy_71 : decode cX9_spareBy 71 = .ok (.aload_n 0, 1) := by decide +kernel
theorem dX9_spareBy_72 : decode cX9_spareBy 72 = .ok (.getfield 76, 3) := by decide +kernel
theorem dX9_spareBy_75 : decode cX9_spareBy 75 = .ok (.iconst 0, 1) := by decide +kernel
theorem dX9_spareBy_76 : decode cX9_spareBy 76 = .ok (.iload_n 1, 1) := by decide +kernel
theorem dX9_spareBy_77 : decode cX9_spareBy 77 = .ok (.iastore, 1) := by decide +kernel
theorem dX9_spareBy_78 : decode cX9_spareBy 78 = .ok (.aload_n 0, 1) := by decide +kernel
theorem dX9_spareBy_79 : decode cX9_spareBy 79 = .ok (.getfield 76, 3) := by decide +kernel
theorem dX9_spareBy_82 : decode cX9_spareBy 82 = .ok (.iconst 1, 1) := by decide +kernel
theorem dX9_spareBy_83 : decode cX9_spareBy 83 = .ok (.iload_n 2, 1) := by decide +kernel
theorem dX9_spareBy_84 : decode cX9_spareBy 84 = .ok (.iastore, 1) := by decide +kernel
theorem dX9_spareBy_85 : decode cX9_spareBy 85 = .ok (.aload_n 0, 1) := by decide +kernel
theorem dX9_spareBy_86 : decode cX9_spareBy 86 = .ok (.iconst 1, 1) := by decide +kernel
theorem dX9_spareBy_87 : decode cX9_spareBy 87 = .ok (.iload_n 1, 1) := by decide +kernel
theorem dX9_spareBy_88 : decode cX9_spareBy 88 = .ok (.ishl, 1) := by decide +kernel
theorem dX9_spareBy_89 : decode cX9_spareBy 89 = .ok (.iconst 1, 1) := by decide +kernel
theorem dX9_spareBy_90 : decode cX9_spareBy 90 = .ok (.iload_n 2, 1) := by decide +kernel
theorem dX9_spareBy_91 : decode cX9_spareBy 91 = .ok (.ishl, 1) := by decide +kernel
theorem dX9_spareBy_92 : decode cX9_spareBy 92 = .ok (.ior, 1) := by decide +kernel
theorem dX9_spareBy_93 : decode cX9_spareBy 93 = .ok (.invokevirtual 330, 3) := by decide +kernel
theorem dX9_spareBy_96 : decode cX9_spareBy 96 = .ok (.ifCond .eq 5, 3) := by decide +kernel
theorem dX9_spareBy_99 : decode cX9_spareBy 99 = .ok (.iconst 2, 1) := by decide +kernel
theorem dX9_spareBy_100 : decode cX9_spareBy 100 = .ok (.ireturn, 1) := by decide +kernel
theorem dX9_spareBy_101 : decode cX9_spareBy 101 = .ok (.iinc 2 1, 3) := by decide +kernel
theorem dX9_spareBy_104 : decode cX9_spareBy 104 = .ok (.goto (-41), 3) := by decide +kernel
theorem dX9_spareBy_107 : decode cX9_spareBy 107 = .ok (.iinc 1 1, 3) := by decide +kernel
theorem dX9_spareBy_110 : decode cX9_spareBy 110 = .ok (.goto (-59), 3) := by decide +kernel
theorem dX9_spareBy_113 : decode cX9_spareBy 113 = .ok (.iconst (-1), 1) := by decide +kernel
theorem dX9_spareBy_114 : decode cX9_spareBy 114 = .ok (.ireturn, 1) := by decide +kernel
theorem dX9_ofRow_0 : decode cX9_ofRow 0 = .ok (.iload_n 2, 1) := by decide +kernel
theorem dX9_ofRow_1 : decode cX9_ofRow 1 = .ok (.iconst (-1), 1) := by decide +kernel
theorem dX9_ofRow_2 : decode cX9_ofRow 2 = .ok (.if_icmp .ne 7, 3) := by decide +kernel
theorem dX9_ofRow_5 : decode cX9_ofRow 5 = .ok (.iload_n 1, 1) := by decide +kernel
theorem dX9_ofRow_6 : decode cX9_ofRow 6 = .ok (.goto 18, 3) := by decide +kernel
theorem dX9_ofRow_9 : decode cX9_ofRow 9 = .ok (.iload_n 2, 1) := by decide +kernel
theorem dX9_ofRow_10 : decode cX9_ofRow 10 = .ok (.iload_n 1, 1) := by decide +kernel
theorem dX9_ofRow_11 : decode cX9_ofRow 11 = .ok (.if_icmp .ge 12, 3) := by decide +kernel
theorem dX9_ofRow_14 : decode cX9_ofRow 14 = .ok (.aload_n 0, 1) := by decide +kernel
theorem dX9_ofRow_15 : decode cX9_ofRow 15 = .ok (.getfield 76, 3) := by decide +kernel
theorem dX9_ofRow_18 : decode cX9_ofRow 18 = .ok (.iload_n 2, 1) := by decide +kernel
theorem dX9_ofRow_19 : decode cX9_ofRow 19 = .ok (.iaload, 1) := by decide +kernel
theorem dX9_ofRow_20 : decode cX9_ofRow 20 = .ok (.goto 4, 3) := by decide +kernel
theorem dX9_ofRow_23 : decode cX9_ofRow 23 = .ok (.iconst (-1), 1) := by decide +kernel
theorem dX9_ofRow_24 : decode cX9_ofRow 24 = .ok (.ireturn, 1) := by decide +kernel
theorem dX9_spare_0 : decode cX9_spare 0 = .ok (.iload_n 1, 1) := by decide +kernel
theorem dX9_spare_1 : decode cX9_spare 1 = .ok (.iconst (-1), 1) := by decide +kernel
theorem dX9_spare_2 : decode cX9_spare 2 = .ok (.iconst 1, 1) := by decide +kernel
theorem dX9_spare_3 : decode cX9_spare 3 = .ok (.invokestatic 109, 3) := by decide +kernel
theorem dX9_spare_6 : decode cX9_spare 6 = .ok (.ifCond .eq 15, 3) := by decide +kernel
theorem dX9_spare_9 : decode cX9_spare 9 = .ok (.aload_n 0, 1) := by decide +kernel
theorem dX9_spare_10 : decode cX9_spare 10 = .ok (.aload_n 0, 1) := by decide +kernel
theorem dX9_spare_11 : decode cX9_spare 11 = .ok (.invokevirtual 333, 3) := by decide +kernel
theorem dX9_spare_14 : decode cX9_spare 14 = .ok (.iload_n 1, 1) := by decide +kernel
theorem dX9_spare_15 : decode cX9_spare 15 = .ok (.invokevirtual 336, 3) := by decide +kernel
theorem dX9_spare_18 : decode cX9_spare 18 = .ok (.goto 5, 3) := by decide +kernel
theorem dX9_spare_21 : decode cX9_spare 21 = .ok (.bipush (-2), 2) := by decide +kernel
theorem dX9_spare_23 : decode cX9_spare 23 = .ok (.ireturn, 1) := by decide +kernel
theorem dX9_seen_0 : decode cX9_seen 0 = .ok (.iload_n 1, 1) := by decide +kernel
theorem dX9_seen_1 : decode cX9_seen 1 = .ok (.invokestatic 157, 3) := by decide +kernel
theorem dX9_seen_4 : decode cX9_seen 4 = .ok (.ifCond .eq 20, 3) := by decide +kernel
theorem dX9_seen_7 : decode cX9_seen 7 = .ok (.iload_n 2, 1) := by decide +kernel
theorem dX9_seen_8 : decode cX9_seen 8 = .ok (.iconst 0, 1) := by decide +kernel
theorem dX9_seen_9 : decode cX9_seen 9 = .ok (.bipush 7, 2) := by decide +kernel
theorem dX9_seen_11 : decode cX9_seen 11 = .ok (.invokestatic 109, 3) := by decide +kernel
theorem dX9_seen_14 : decode cX9_seen 14 = .ok (.ifCond .eq 10, 3) := by decide +kernel
theorem dX9_seen_17 : decode cX9_seen 17 = .ok (.iload_n 3, 1) := by decide +kernel
theorem dX9_seen_18 : decode cX9_seen 18 = .ok (.invokestatic 113, 3) := by decide +kernel
theorem dX9_seen_21 : decode cX9_seen 21 = .ok (.ifCond .ne 6, 3) := by decide +kernel
theorem dX9_seen_24 : decode cX9_seen 24 = .ok (.bipush (-2), 2) := by decide +kernel
theorem dX9_seen_26 : decode cX9_seen 26 = .ok (.ireturn, 1) := by decide +kernel
theorem dX9_seen_27 : decode cX9_seen 27 = .ok (.aload_n 0, 1) := by decide +kernel
theorem dX9_seen_28 : decode cX9_seen 28 = .ok (.getfield 339, 3) := by decide +kernel
theorem dX9_seen_31 : decode cX9_seen 31 = .ok (.bipush 8, 2) := by decide +kernel
theorem dX9_seen_33 : decode cX9_seen 33 = .ok (.if_icmp .ne 6, 3) := by decide +kernel
theorem dX9_seen_36 : decode cX9_seen 36 = .ok (.bipush (-4), 2) := by decide +kernel
theorem dX9_seen_38 : decode cX9_seen 38 = .ok (.ireturn, 1) := by decide +kernel
theorem dX9_seen_39 : decode cX9_seen 39 = .ok (.aload_n 0, 1) := by decide +kernel
theorem dX9_seen_40 : decode cX9_seen 40 = .ok (.getfield 79, 3) := by decide +kernel
theorem dX9_seen_43 : decode cX9_seen 43 = .ok (.aload_n 0, 1) := by decide +kernel
theorem dX9_seen_44 : decode cX9_seen 44 = .ok (.getfield 339, 3) := by decide +kernel
theorem dX9_seen_47 : decode cX9_seen 47 = .ok (.iload_n 1, 1) := by decide +kernel
theorem dX9_seen_48 : decode cX9_seen 48 = .ok (.iastore, 1) := by decide +kernel
theorem dX9_seen_49 : decode cX9_seen 49 = .ok (.aload_n 0, 1) := by decide +kernel
theorem dX9_seen_50 : decode cX9_seen 50 = .ok (.getfield 82, 3) := by decide +kernel
theorem dX9_seen_53 : decode cX9_seen 53 = .ok (.aload_n 0, 1) := by decide +kernel
theorem dX9_seen_54 : decode cX9_seen 54 = .ok (.getfield 339, 3) := by decide +kernel
theorem dX9_seen_57 : decode cX9_seen 57 = .ok (.iload_n 2, 1) := by decide +kernel
theorem dX9_seen_58 : decode cX9_seen 58 = .ok (.iastore, 1) := by decide +kernel
theorem dX9_seen_59 : decode cX9_seen 59 = .ok (.aload_n 0, 1) := by decide +kernel
theorem dX9_seen_60 : decode cX9_seen 60 = .ok (.getfield 85, 3) := by decide +kernel
theorem dX9_seen_63 : decode cX9_seen 63 = .ok (.aload_n 0, 1) := by decide +kernel
theorem dX9_seen_64 : decode cX9_seen 64 = .ok (.getfield 339, 3) := by decide +kernel
theorem dX9_seen_67 : decode cX9_seen 67 = .ok (.iload_n 3, 1) := by decide +kernel
theorem dX9_seen_68 : decode cX9_seen 68 = .ok (.iastore, 1) := by decide +kernel
theorem dX9_seen_69 : decode cX9_seen 69 = .ok (.aload_n 0, 1) := by decide +kernel
theorem dX9_seen_70 : decode cX9_seen 70 = .ok (.dup, 1) := by decide +kernel
theorem dX9_seen_71 : decode cX9_seen 71 = .ok (.getfield 339, 3) := by decide +kernel
theorem dX9_seen_74 : decode cX9_seen 74 = .ok (.iconst 1, 1) := by decide +kernel
theorem dX9_seen_75 : decode cX9_seen 75 = .ok (.iadd, 1) := by decide +kernel
theorem dX9_seen_76 : decode cX9_seen 76 = .ok (.putfield 339, 3) := by decide +kernel
theorem dX9_seen_79 : decode cX9_seen 79 = .ok (.aload_n 0, 1) := by decide +kernel
theorem dX9_seen_80 : decode cX9_seen 80 = .ok (.getfield 339, 3) := by decide +kernel
theorem dX9_seen_83 : decode cX9_seen 83 = .ok (.ireturn, 1) := by decide +kernel
theorem dX9_forget_0 : decode cX9_forget 0 = .ok (.aload_n 0, 1) := by decide +kernel
theorem dX9_forget_1 : decode cX9_forget 1 = .ok (.getfield 339, 3) := by decide +kernel
theorem dX9_forget_4 : decode cX9_forget 4 = .ok (.istore_n 1, 1) := by decide +kernel
theorem dX9_forget_5 : decode cX9_forget 5 = .ok (.aload_n 0, 1) := by decide +kernel
theorem dX9_forget_6 : decode cX9_forget 6 = .ok (.iconst 0, 1) := by decide +kernel
theorem dX9_forget_7 : decode cX9_forget 7 = .ok (.putfield 339, 3) := by decide +kernel
theorem dX9_forget_10 : decode cX9_forget 10 = .ok (.iload_n 1, 1) := by decide +kernel
theorem dX9_forget_11 : decode cX9_forget 11 = .ok (.ireturn, 1) := by decide +kernel
theorem dX9_isSeen_0 : decode cX9_isSeen 0 = .ok (.aload_n 0, 1) := by decide +kernel
theorem dX9_isSeen_1 : decode cX9_isSeen 1 = .ok (.invokevirtual 264, 3) := by decide +kernel
theorem dX9_isSeen_4 : decode cX9_isSeen 4 = .ok (.iconst 1, 1) := by decide +kernel
theorem dX9_isSeen_5 : decode cX9_isSeen 5 = .ok (.istore_n 1, 1) := by decide +kernel
theorem dX9_isSeen_6 : decode cX9_isSeen 6 = .ok (.iconst 0, 1) := by decide +kernel
theorem dX9_isSeen_7 : decode cX9_isSeen 7 = .ok (.istore_n 2, 1) := by decide +kernel
theorem dX9_isSeen_8 : decode cX9_isSeen 8 = .ok (.iload_n 2, 1) := by decide +kernel
theorem dX9_isSeen_9 : decode cX9_isSeen 9 = .ok (.aload_n 0, 1) := by decide +kernel
theorem dX9_isSeen_10 : decode cX9_isSeen 10 = .ok (.getfield 339, 3) := by decide +kernel
theorem dX9_isSeen_13 : decode cX9_isSeen 13 = .ok (.if_icmp .ge 70, 3) := by decide +kernel
theorem dX9_isSeen_16 : decode cX9_isSeen 16 = .ok (.iload_n 1, 1) := by decide +kernel
theorem dX9_isSeen_17 : decode cX9_isSeen 17 = .ok (.ifCond .eq 66, 3) := by decide +kernel
theorem dX9_isSeen_20 : decode cX9_isSeen 20 = .ok (.aload_n 0, 1) := by decide +kernel
theorem dX9_isSeen_21 : decode cX9_isSeen 21 = .ok (.getfield 82, 3) := by decide +kernel
theorem dX9_isSeen_24 : decode cX9_isSeen 24 = .ok (.iload_n 2, 1) := by decide +kernel
theorem dX9_isSeen_25 : decode cX9_isSeen 25 = .ok (.iaload, 1) := by decide +kernel
theorem dX9_isSeen_26 : decode cX9_isSeen 26 = .ok (.aload_n 0, 1) := by decide +kernel
theorem dX9_isSeen_27 : decode cX9_isSeen 27 = .ok (.getfield 125, 3) := by decide +kernel
theorem dX9_isSeen_30 : decode cX9_isSeen 30 = .ok (.if_icmp .ge 45, 3) := by decide +kernel
theorem dX9_isSeen_33 : decode cX9_isSeen 33 = .ok (.aload_n 0, 1) := by decide +kernel
theorem dX9_isSeen_34 : decode cX9_isSeen 34 = .ok (.getfield 73, 3) := by decide +kernel
theorem dX9_isSeen_37 : decode cX9_isSeen 37 = .ok (.aload_n 0, 1) := by decide +kernel
theorem dX9_isSeen_38 : decode cX9_isSeen 38 = .ok (.getfield 79, 3) := by decide +kernel
theorem dX9_isSeen_41 : decode cX9_isSeen 41 = .ok (.iload_n 2, 1) := by decide +kernel
theorem dX9_isSeen_42 : decode cX9_isSeen 42 = .ok (.iaload, 1) := by decide +kernel
theorem dX9_isSeen_43 : decode cX9_isSeen 43 = .ok (.iaload, 1) := by decide +kernel
theorem dX9_isSeen_44 : decode cX9_isSeen 44 = .ok (.aload_n 0, 1) := by decide +kernel
theorem dX9_isSeen_45 : decode cX9_isSeen 45 = .ok (.getfield 82, 3) := by decide +kernel
theorem dX9_isSeen_48 : decode cX9_isSeen 48 = .ok (.iload_n 2, 1) := by decide +kernel
theorem dX9_isSeen_49 : decode cX9_isSeen 49 = .ok (.iaload, 1) := by decide +kernel
theorem dX9_isSeen_50 : decode cX9_isSeen 50 = .ok (.invokestatic 197, 3) := by decide +kernel
theorem dX9_isSeen_53 : decode cX9_isSeen 53 = .ok (.aload_n 0, 1) := by decide +kernel
theorem dX9_isSeen_54 : decode cX9_isSeen 54 = .ok (.getfield 85, 3) := by decide +kernel
theorem dX9_isSeen_57 : decode cX9_isSeen 57 = .ok (.iload_n 2, 1) := by decide +kernel
theorem dX9_isSeen_58 : decode cX9_isSeen 58 = .ok (.iaload, 1) := by decide +kernel
theorem dX9_isSeen_59 : decode cX9_isSeen 59 = .ok (.iconst 1, 1) := by decide +kernel
theorem dX9_isSeen_60 : decode cX9_isSeen 60 = .ok (.if_icmp .ne 7, 3) := by decide +kernel
theorem dX9_isSeen_63 : decode cX9_isSeen 63 = .ok (.iconst 1, 1) := by decide +kernel
theorem dX9_isSeen_64 : decode cX9_isSeen 64 = .ok (.goto 4, 3) := by decide +kernel
theorem dX9_isSeen_67 : decode cX9_isSeen 67 = .ok (.iconst 0, 1) := by decide +kernel
theorem dX9_isSeen_68 : decode cX9_isSeen 68 = .ok (.if_icmp .ne 7, 3) := by decide +kernel
theorem dX9_isSeen_71 : decode cX9_isSeen 71 = .ok (.iconst 1, 1) := by decide +kernel
theorem dX9_isSeen_72 : decode cX9_isSeen 72 = .ok (.goto 4, 3) := by decide +kernel
theorem dX9_isSeen_75 : decode cX9_isSeen 75 = .ok (.iconst 0, 1) := by decide +kernel
theorem dX9_isSeen_76 : decode cX9_isSeen 76 = .ok (.istore_n 1, 1) := by decide +kernel
theorem dX9_isSeen_77 : decode cX9_isSeen 77 = .ok (.iinc 2 1, 3) := by decide +kernel
theorem dX9_isSeen_80 : decode cX9_isSeen 80 = .ok (.goto (-72), 3) := by decide +kernel
theorem dX9_isSeen_83 : decode cX9_isSeen 83 = .ok (.iload_n 1, 1) := by decide +kernel
theorem dX9_isSeen_84 : decode cX9_isSeen 84 = .ok (.ireturn, 1) := by decide +kernel
theorem dX9_neverNow_0 : decode cX9_neverNow 0 = .ok (.aload_n 0, 1) := by decide +kernel
theorem dX9_neverNow_1 : decode cX9_neverNow 1 = .ok (.invokevirtual 261, 3) := by decide +kernel
theorem dX9_neverNow_4 : decode cX9_neverNow 4 = .ok (.iconst 0, 1) := by decide +kernel
theorem dX9_neverNow_5 : decode cX9_neverNow 5 = .ok (.istore_n 1, 1) := by decide +kernel
theorem dX9_neverNow_6 : decode cX9_neverNow 6 = .ok (.iconst 0, 1) := by decide +kernel
theorem dX9_neverNow_7 : decode cX9_neverNow 7 = .ok (.istore_n 2, 1) := by decide +kernel
theorem dX9_neverNow_8 : decode cX9_neverNow 8 = .ok (.iload_n 2, 1) := by decide +kernel
theorem dX9_neverNow_9 : decode cX9_neverNow 9 = .ok (.aload_n 0, 1) := by decide +kernel
theorem dX9_neverNow_10 : decode cX9_neverNow 10 = .ok (.getfield 160, 3) := by decide +kernel
theorem dX9_neverNow_13 : decode cX9_neverNow 13 = .ok (.if_icmp .ge 33, 3) := by decide +kernel
theorem dX9_neverNow_16 : decode cX9_neverNow 16 = .ok (.aload_n 0, 1) := by decide +kernel
theorem dX9_neverNow_17 : decode cX9_neverNow 17 = .ok (.iconst 1, 1) := by decide +kernel
theorem dX9_neverNow_18 : decode cX9_neverNow 18 = .ok (.iload_n 2, 1) := by decide +kernel
theorem dX9_neverNow_19 : decode cX9_neverNow 19 = .ok (.ishl, 1) := by decide +kernel
theorem dX9_neverNow_20 : decode cX9_neverNow 20 = .ok (.putfield 185, 3) := by decide +kernel
theorem dX9_neverNow_23 : decode cX9_neverNow 23 = .ok (.iload_n 1, 1) := by decide +kernel
theorem dX9_neverNow_24 : decode cX9_neverNow 24 = .ok (.aload_n 0, 1) := by decide +kernel
theorem dX9_neverNow_25 : decode cX9_neverNow 25 = .ok (.invokevirtual 342, 3) := by decide +kernel
theorem dX9_neverNow_28 : decode cX9_neverNow 28 = .ok (.ifCond .eq 9, 3) := by decide +kernel
theorem dX9_neverNow_31 : decode cX9_neverNow 31 = .ok (.iconst 1, 1) := by decide +kernel
theorem dX9_neverNow_32 : decode cX9_neverNow 32 = .ok (.iload_n 2, 1) := by decide +kernel
theorem dX9_neverNow_33 : decode cX9_neverNow 33 = .ok (.ishl, 1) := by decide +kernel
theorem dX9_neverNow_34 : decode cX9_neverNow 34 = .ok (.goto 4, 3) := by decide +kernel
theorem dX9_neverNow_37 : decode cX9_neverNow 37 = .ok (.iconst 0, 1) := by decide +kernel
theorem dX9_neverNow_38 : decode cX9_neverNow 38 = .ok (.ior, 1) := by decide +kernel
theorem dX9_neverNow_39 : decode cX9_neverNow 39 = .ok (.istore_n 1, 1) := by decide +kernel
theorem dX9_neverNow_40 : decode cX9_neverNow 40 = .ok (.iinc 2 1, 3) := by decide +kernel
theorem dX9_neverNow_43 : decode cX9_neverNow 43 = .ok (.goto (-35), 3) := by decide +kernel
theorem dX9_neverNow_46 : decode cX9_neverNow 46 = .ok (.iload_n 1, 1) := by decide +kernel
theorem dX9_neverNow_47 : decode cX9_neverNow 47 = .ok (.ireturn, 1) := by decide +kernel
theorem dX9_never_0 : decode cX9_never 0 = .ok (.aload_n 0, 1) := by decide +kernel
theorem dX9_never_1 : decode cX9_never 1 = .ok (.invokevirtual 346, 3) := by decide +kernel
theorem dX9_never_4 : decode cX9_never 4 = .ok (.ireturn, 1) := by decide +kernel
theorem dX9_heatsBy_0 : decode cX9_heatsBy 0 = .ok (.aload_n 0, 1) := by decide +kernel
theorem dX9_heatsBy_1 : decode cX9_heatsBy 1 = .ok (.invokevirtual 261, 3) := by decide +kernel
theorem dX9_heatsBy_4 : decode cX9_heatsBy 4 = .ok (.iconst 0, 1) := by decide +kernel
theorem dX9_heatsBy_5 : decode cX9_heatsBy 5 = .ok (.istore_n 2, 1) := by decide +kernel
theorem dX9_heatsBy_6 : decode cX9_heatsBy 6 = .ok (.iconst 1, 1) := by decide +kernel
theorem dX9_heatsBy_7 : decode cX9_heatsBy 7 = .ok (.istore_n 3, 1) := by decide +kernel
theorem dX9_heatsBy_8 : decode cX9_heatsBy 8 = .ok (.iload_n 3, 1) := by decide +kernel
theorem dX9_heatsBy_9 : decode cX9_heatsBy 9 = .ok (.bipush 10, 2) := by decide +kernel
theorem dX9_heatsBy_11 : decode cX9_heatsBy 11 = .ok (.if_icmp .ge 68, 3) := by decide +kernel
theorem dX9_heatsBy_14 : decode cX9_heatsBy 14 = .ok (.aload_n 0, 1) := by decide +kernel
theorem dX9_heatsBy_15 : decode cX9_heatsBy 15 = .ok (.getfield 40, 3) := by decide +kernel
theorem dX9_heatsBy_18 : decode cX9_heatsBy 18 = .ok (.iload_n 1, 1) := by decide +kernel
theorem dX9_heatsBy_19 : decode cX9_heatsBy 19 = .ok (.iload_n 3, 1) := by decide +kernel
theorem dX9_heatsBy_20 : decode cX9_heatsBy 20 = .ok (.iastore, 1) := by decide +kernel
theorem dX9_heatsBy_21 : decode cX9_heatsBy 21 = .ok (.iload_n 2, 1) := by decide +kernel
theorem dX9_heatsBy_22 : decode cX9_heatsBy 22 = .ok (.aload_n 0, 1) := by decide +kernel
theorem dX9_heatsBy_23 : decode cX9_heatsBy 23 = .ok (.invokevirtual 342, 3) := by decide +kernel
theorem dX9_heatsBy_26 : decode cX9_heatsBy 26 = .ok (.ifCond .eq 9, 3) := by decide +kernel
theorem dX9_heatsBy_29 : decode cX9_heatsBy 29 = .ok (.iconst 1, 1) := by decide +kernel
theorem dX9_heatsBy_30 : decode cX9_heatsBy 30 = .ok (.iload_n 3, 1) := by decide +kernel
theorem dX9_heatsBy_31 : decode cX9_heatsBy 31 = .ok (.ishl, 1) := by decide +kernel
theorem dX9_heatsBy_32 : decode cX9_heatsBy 32 = .ok (.goto 4, 3) := by decide +kernel
theorem dX9_heatsBy_35 : decode cX9_heatsBy 35 = .ok (.iconst 0, 1) := by decide +kernel
theorem dX9_heatsBy_36 : decode cX9_heatsBy 36 = .ok (.ior, 1) := by decide +kernel
theorem dX9_heatsBy_37 : decode cX9_heatsBy 37 = .ok (.istore_n 2, 1) := by decide +kernel
theorem dX9_heatsBy_38 : decode cX9_heatsBy 38 = .ok (.iconst 0, 1) := by decide +kernel
theorem dX9_heatsBy_39 : decode cX9_heatsBy 39 = .ok (.istore 4, 2) := by decide +kernel
theorem dX9_heatsBy_41 : decode cX9_heatsBy 41 = .ok (.iload 4, 2) := by decide +kernel
theorem dX9_heatsBy_43 : decode cX9_heatsBy 43 = .ok (.bipush 12, 2) := by decide +kernel
theorem dX9_heatsBy_45 : decode cX9_heatsBy 45 = .ok (.if_icmp .ge 28, 3) := by decide +kernel
theorem dX9_heatsBy_48 : decode cX9_heatsBy 48 = .ok (.aload_n 0, 1) := by decide +kernel
theorem dX9_heatsBy_49 : decode cX9_heatsBy 49 = .ok (.getfield 88, 3) := by decide +kernel
theorem dX9_heatsBy_52 : decode cX9_heatsBy 52 = .ok (.bipush 12, 2) := by decide +kernel
theorem dX9_heatsBy_54 : decode cX9_heatsBy 54 = .ok (.iload_n 3, 1) := by decide +kernel
theorem dX9_heatsBy_55 : decode cX9_heatsBy 55 = .ok (.imul, 1) := by decide +kernel
theorem dX9_heatsBy_56 : decode cX9_heatsBy 56 = .ok (.iload 4, 2) := by decide +kernel
theorem dX9_heatsBy_58 : decode cX9_heatsBy 58 = .ok (.iadd, 1) := by decide +kernel
theorem dX9_heatsBy_59 : decode cX9_heatsBy 59 = .ok (.aload_n 0, 1) := by decide +kernel
theorem dX9_heatsBy_60 : decode cX9_heatsBy 60 = .ok (.getfield 73, 3) := by decide +kernel
theorem dX9_heatsBy_63 : decode cX9_heatsBy 63 = .ok (.iload 4, 2) := by decide +kernel
theorem dX9_heatsBy_65 : decode cX9_heatsBy 65 = .ok (.iaload, 1) := by decide +kernel
theorem dX9_heatsBy_66 : decode cX9_heatsBy 66 = .ok (.iastore, 1) := by decide +kernel
theorem dX9_heatsBy_67 : decode cX9_heatsBy 67 = .ok (.iinc 4 1, 3) := by decide +kernel
theorem dX9_heatsBy_70 : decode cX9_heatsBy 70 = .ok (.goto (-29), 3) := by decide +kernel
theorem dX9_heatsBy_73 : decode cX9_heatsBy 73 = .ok (.iinc 3 1, 3) := by decide +kernel
theorem dX9_heatsBy_76 : decode cX9_heatsBy 76 = .ok (.goto (-68), 3) := by decide +kernel
theorem dX9_heatsBy_79 : decode cX9_heatsBy 79 = .ok (.iload_n 2, 1) := by decide +kernel
theorem dX9_heatsBy_80 : decode cX9_heatsBy 80 = .ok (.ireturn, 1) := by decide +kernel
theorem dX9_sortsBy_0 : decode cX9_sortsBy 0 = .ok (.aload_n 0, 1) := by decide +kernel
theorem dX9_sortsBy_1 : decode cX9_sortsBy 1 = .ok (.invokevirtual 261, 3) := by decide +kernel
theorem dX9_sortsBy_4 : decode cX9_sortsBy 4 = .ok (.iconst 0, 1) := by decide +kernel
theorem dX9_sortsBy_5 : decode cX9_sortsBy 5 = .ok (.istore_n 2, 1) := by decide +kernel
theorem dX9_sortsBy_6 : decode cX9_sortsBy 6 = .ok (.iconst 0, 1) := by decide +kernel
theorem dX9_sortsBy_7 : decode cX9_sortsBy 7 = .ok (.istore_n 3, 1) := by decide +kernel
theorem dX9_sortsBy_8 : decode cX9_sortsBy 8 = .ok (.iload_n 3, 1) := by decide +kernel
theorem dX9_sortsBy_9 : decode cX9_sortsBy 9 = .ok (.iconst 3, 1) := by decide +kernel
theorem dX9_sortsBy_10 : decode cX9_sortsBy 10 = .ok (.if_icmp .ge 33, 3) := by decide +kernel
theorem dX9_sortsBy_13 : decode cX9_sortsBy 13 = .ok (.aload_n 0, 1) := by decide +kernel
theorem dX9_sortsBy_14 : decode cX9_sortsBy 14 = .ok (.getfield 37, 3) := by decide +kernel
theorem dX9_sortsBy_17 : decode cX9_sortsBy 17 = .ok (.iload_n 1, 1) := by decide +kernel
theorem dX9_sortsBy_18 : decode cX9_sortsBy 18 = .ok (.iload_n 3, 1) := by decide +kernel
theorem dX9_sortsBy_19 : decode cX9_sortsBy 19 = .ok (.iastore, 1) := by decide +kernel
theorem dX9_sortsBy_20 : decode cX9_sortsBy 20 = .ok (.iload_n 2, 1) := by decide +kernel
theorem dX9_sortsBy_21 : decode cX9_sortsBy 21 = .ok (.aload_n 0, 1) := by decide +kernel
theorem dX9_sortsBy_22 : decode cX9_sortsBy 22 = .ok (.invokevirtual 342, 3) := by decide +kernel
theorem dX9_sortsBy_25 : decode cX9_sortsBy 25 = .ok (.ifCond .eq 9, 3) := by decide +kernel
theorem dX9_sortsBy_28 : decode cX9_sortsBy 28 = .ok (.iconst 1, 1) := by decide +kernel
theorem dX9_sortsBy_29 : decode cX9_sortsBy 29 = .ok (.iload_n 3, 1) := by decide +kernel
theorem dX9_sortsBy_30 : decode cX9_sortsBy 30 = .ok (.ishl, 1) := by decide +kernel
theorem dX9_sortsBy_31 : decode cX9_sortsBy 31 = .ok (.goto 4, 3) := by decide +kernel
theorem dX9_sortsBy_34 : decode cX9_sortsBy 34 = .ok (.iconst 0, 1) := by decide +kernel
theorem dX9_sortsBy_35 : decode cX9_sortsBy 35 = .ok (.ior, 1) := by decide +kernel
theorem dX9_sortsBy_36 : decode cX9_sortsBy 36 = .ok (.istore_n 2, 1) := by decide +kernel
theorem dX9_sortsBy_37 : decode cX9_sortsBy 37 = .ok (.iinc 3 1, 3) := by decide +kernel
theorem dX9_sortsBy_40 : decode cX9_sortsBy 40 = .ok (.goto (-32), 3) := by decide +kernel
theorem dX9_sortsBy_43 : decode cX9_sortsBy 43 = .ok (.iload_n 2, 1) := by decide +kernel
theorem dX9_sortsBy_44 : decode cX9_sortsBy 44 = .ok (.ireturn, 1) := by decide +kernel
theorem dX9_was_0 : decode cX9_was 0 = .ok (.aload_n 0, 1) := by decide +kernel
theorem dX9_was_1 : decode cX9_was 1 = .ok (.iload_n 1, 1) := by decide +kernel
theorem dX9_was_2 : decode cX9_was 2 = .ok (.invokevirtual 148, 3) := by decide +kernel
theorem dX9_was_5 : decode cX9_was 5 = .ok (.ifCond .eq 30, 3) := by decide +kernel
theorem dX9_was_8 : decode cX9_was 8 = .ok (.iload_n 2, 1) := by decide +kernel
theorem dX9_was_9 : decode cX9_was 9 = .ok (.invokestatic 113, 3) := by decide +kernel
theorem dX9_was_12 : decode cX9_was 12 = .ok (.ifCond .eq 23, 3) := by decide +kernel
theorem dX9_was_15 : decode cX9_was 15 = .ok (.iload_n 2, 1) := by decide +kernel
theorem dX9_was_16 : decode cX9_was 16 = .ok (.ifCond .ne 11, 3) := by decide +kernel
theorem dX9_was_19 : decode cX9_was 19 = .ok (.aload_n 0, 1) := by decide +kernel
theorem dX9_was_20 : decode cX9_was 20 = .ok (.iload_n 1, 1) := by decide +kernel
theorem dX9_was_21 : decode cX9_was 21 = .ok (.invokevirtual 349, 3) := by decide +kernel
theorem dX9_was_24 : decode cX9_was 24 = .ok (.goto 13, 3) := by decide +kernel
theorem dX9_was_27 : decode cX9_was 27 = .ok (.aload_n 0, 1) := by decide +kernel
theorem dX9_was_28 : decode cX9_was 28 = .ok (.iload_n 1, 1) := by decide +kernel
theorem dX9_was_29 : decode cX9_was 29 = .ok (.invokevirtual 352, 3) := by decide +kernel
theorem dX9_was_32 : decode cX9_was 32 = .ok (.goto 5, 3) := by decide +kernel
theorem dX9_was_35 : decode cX9_was 35 = .ok (.bipush (-2), 2) := by decide +kernel
theorem dX9_was_37 : decode cX9_was 37 = .ok (.ireturn, 1) := by decide +kernel
theorem dX9_askOf_0 : decode cX9_askOf 0 = .ok (.aload_n 0, 1) := by decide +kernel
theorem dX9_askOf_1 : decode cX9_askOf 1 = .ok (.iload_n 1, 1) := by decide +kernel
theorem dX9_askOf_2 : decode cX9_askOf 2 = .ok (.invokevirtual 349, 3) := by decide +kernel
theorem dX9_askOf_5 : decode cX9_askOf 5 = .ok (.istore_n 2, 1) := by decide +kernel
theorem dX9_askOf_6 : decode cX9_askOf 6 = .ok (.iconst (-1), 1) := by decide +kernel
theorem dX9_askOf_7 : decode cX9_askOf 7 = .ok (.istore_n 3, 1) := by decide +kernel
theorem dX9_askOf_8 : decode cX9_askOf 8 = .ok (.iconst 0, 1) := by decide +kernel
theorem dX9_askOf_9 : decode cX9_askOf 9 = .ok (.istore 4, 2) := by decide +kernel
theorem dX9_askOf_11 : decode cX9_askOf 11 = .ok (.iconst 0, 1) := by decide +kernel
theorem dX9_askOf_12 : decode cX9_askOf 12 = .ok (.istore 5, 2) := by decide +kernel
theorem dX9_askOf_14 : decode cX9_askOf 14 = .ok (.iload 5, 2) := by decide +kernel
theorem dX9_askOf_16 : decode cX9_askOf 16 = .ok (.bipush 12, 2) := by decide +kernel
theorem dX9_askOf_18 : decode cX9_askOf 18 = .ok (.if_icmp .ge 165, 3) := by decide +kernel
theorem dX9_askOf_21 : decode cX9_askOf 21 = .ok (.iconst 0, 1) := by decide +kernel
theorem dX9_askOf_22 : decode cX9_askOf 22 = .ok (.istore 6, 2) := by decide +kernel
theorem dX9_askOf_24 : decode cX9_askOf 24 = .ok (.iconst 1, 1) := by decide +kernel
theorem dX9_askOf_25 : decode cX9_askOf 25 = .ok (.istore 7, 2) := by decide +kernel
theorem dX9_askOf_27 : decode cX9_askOf 27 = .ok (.iload 7, 2) := by decide +kernel
theorem dX9_askOf_29 : decode cX9_askOf 29 = .ok (.bipush 10, 2) := by decide +kernel
theorem dX9_askOf_31 : decode cX9_askOf 31 = .ok (.if_icmp .ge 101, 3) := by decide +kernel
theorem dX9_askOf_34 : decode cX9_askOf 34 = .ok (.iconst 0, 1) := by decide +kernel
theorem dX9_askOf_35 : decode cX9_askOf 35 = .ok (.istore 8, 2) := by decide +kernel
theorem dX9_askOf_37 : decode cX9_askOf 37 = .ok (.iconst 1, 1) := by decide +kernel
theorem dX9_askOf_38 : decode cX9_askOf 38 = .ok (.istore 9, 2) := by decide +kernel
theorem dX9_askOf_40 : decode cX9_askOf 40 = .ok (.iload 9, 2) := by decide +kernel
theorem dX9_askOf_42 : decode cX9_askOf 42 = .ok (.bipush 10, 2) := by decide +kernel
theorem dX9_askOf_44 : decode cX9_askOf 44 = .ok (.if_icmp .ge 66, 3) := by decide +kernel
theorem dX9_askOf_47 : decode cX9_askOf 47 = .ok (.iload 8, 2) := by decide +kernel
theorem dX9_askOf_49 : decode cX9_askOf 49 = .ok (.iload_n 2, 1) := by decide +kernel
theorem dX9_askOf_50 : decode cX9_askOf 50 = .ok (.iload 7, 2) := by decide +kernel
theorem dX9_askOf_52 : decode cX9_askOf 52 = .ok (.invokestatic 197, 3) := by decide +kernel
theorem dX9_askOf_55 : decode cX9_askOf 55 = .ok (.ifCond .eq 45, 3) := by decide +kernel
theorem dX9_askOf_58 : decode cX9_askOf 58 = .ok (.iload_n 2, 1) := by decide +kernel
theorem dX9_askOf_59 : decode cX9_askOf 59 = .ok (.iload 9, 2) := by decide +kernel
theorem dX9_askOf_61 : decode cX9_askOf 61 = .ok (.invokestatic 197, 3) := by decide +kernel
theorem dX9_askOf_64 : decode cX9_askOf 64 = .ok (.ifCond .eq 36, 3) := by decide +kernel
theorem dX9_askOf_67 : decode cX9_askOf 67 = .ok (.aload_n 0, 1) := by decide +kernel
theorem dX9_askOf_68 : decode cX9_askOf 68 = .ok (.getfield 88, 3) := by decide +kernel
theorem dX9_askOf_71 : decode cX9_askOf 71 = .ok (.bipush 12, 2) := by decide +kernel
theorem dX9_askOf_73 : decode cX9_askOf 73 = .ok (.iload 7, 2) := by decide +kernel
theorem dX9_askOf_75 : decode cX9_askOf 75 = .ok (.imul, 1) := by decide +kernel
theorem dX9_askOf_76 : decode cX9_askOf 76 = .ok (.iload 5, 2) := by decide +kernel
theorem dX9_askOf_78 : decode cX9_askOf 78 = .ok (.iadd, 1) := by decide +kernel
theorem dX9_askOf_79 : decode cX9_askOf 79 = .ok (.iaload, 1) := by decide +kernel
theorem dX9_askOf_80 : decode cX9_askOf 80 = .ok (.aload_n 0, 1) := by decide +kernel
theorem dX9_askOf_81 : decode cX9_askOf 81 = .ok (.getfield 88, 3) := by decide +kernel
theorem dX9_askOf_84 : decode cX9_askOf 84 = .ok (.bipush 12, 2) := by decide +kernel
theorem dX9_askOf_86 : decode cX9_askOf 86 = .ok (.iload 9, 2) := by decide +kernel
theorem dX9_askOf_88 : decode cX9_askOf 88 = .ok (.imul, 1) := by decide +kernel
theorem dX9_askOf_89 : decode cX9_askOf 89 = .ok (.iload 5, 2) := by decide +kernel
theorem dX9_askOf_91 : decode cX9_askOf 91 = .ok (.iadd, 1) := by decide +kernel
theorem dX9_askOf_92 : decode cX9_askOf 92 = .ok (.iaload, 1) := by decide +kernel
theorem dX9_askOf_93 : decode cX9_askOf 93 = .ok (.if_icmp .ne 7, 3) := by decide +kernel
theorem dX9_askOf_96 : decode cX9_askOf 96 = .ok (.iconst 1, 1) := by decide +kernel
theorem dX9_askOf_97 : decode cX9_askOf 97 = .ok (.goto 4, 3) := by decide +kernel
theorem dX9_askOf_100 : decode cX9_askOf 100 = .ok (.iconst 0, 1) := by decide +kernel
theorem dX9_askOf_101 : decode cX9_askOf 101 = .ok (.iadd, 1) := by decide +kernel
theorem dX9_askOf_102 : decode cX9_askOf 102 = .ok (.istore 8, 2) := by decide +kernel
theorem dX9_askOf_104 : decode cX9_askOf 104 = .ok (.iinc 9 1, 3) := by decide +kernel
theorem dX9_askOf_107 : decode cX9_askOf 107 = .ok (.goto (-67), 3) := by decide +kernel
theorem dX9_askOf_110 : decode cX9_askOf 110 = .ok (.iload 8, 2) := by decide +kernel
theorem dX9_askOf_112 : decode cX9_askOf 112 = .ok (.iload 6, 2) := by decide +kernel
theorem dX9_askOf_114 : decode cX9_askOf 114 = .ok (.if_icmp .le 8, 3) := by decide +kernel
theorem dX9_askOf_117 : decode cX9_askOf 117 = .ok (.iload 8, 2) := by decide +kernel
theorem dX9_askOf_119 : decode cX9_askOf 119 = .ok (.goto 5, 3) := by decide +kernel
theorem dX9_askOf_122 : decode cX9_askOf 122 = .ok (.iload 6, 2) := by decide +kernel
theorem dX9_askOf_124 : decode cX9_askOf 124 = .ok (.istore 6, 2) := by decide +kernel
theorem dX9_askOf_126 : decode cX9_askOf 126 = .ok (.iinc 7 1, 3) := by decide +kernel
theorem dX9_askOf_129 : decode cX9_askOf 129 = .ok (.goto (-102), 3) := by decide +kernel
theorem dX9_askOf_132 : decode cX9_askOf 132 = .ok (.iload_n 3, 1) := by decide +kernel
theorem dX9_askOf_133 : decode cX9_askOf 133 = .ok (.iconst (-1), 1) := by decide +kernel
theorem dX9_askOf_134 : decode cX9_askOf 134 = .ok (.if_icmp .eq 10, 3) := by decide +kernel
theorem dX9_askOf_137 : decode cX9_askOf 137 = .ok (.iload 6, 2) := by decide +kernel
theorem dX9_askOf_139 : decode cX9_askOf 139 = .ok (.iload 4, 2) := by decide +kernel
theorem dX9_askOf_141 : decode cX9_askOf 141 = .ok (.if_icmp .ge 7, 3) := by decide +kernel
theorem dX9_askOf_144 : decode cX9_askOf 144 = .ok (.iconst 1, 1) := by decide +kernel
theorem dX9_askOf_145 : decode cX9_askOf 145 = .ok (.goto 4, 3) := by decide +kernel
theorem dX9_askOf_148 : decode cX9_askOf 148 = .ok (.iconst 0, 1) := by decide +kernel
theorem dX9_askOf_149 : decode cX9_askOf 149 = .ok (.istore 7, 2) := by decide +kernel
theorem dX9_askOf_151 : decode cX9_askOf 151 = .ok (.iload 7, 2) := by decide +kernel
theorem dX9_askOf_153 : decode cX9_askOf 153 = .ok (.ifCond .eq 8, 3) := by decide +kernel
theorem dX9_askOf_156 : decode cX9_askOf 156 = .ok (.iload 5, 2) := by decide +kernel
theorem dX9_askOf_158 : decode cX9_askOf 158 = .ok (.goto 4, 3) := by decide +kernel
theorem dX9_askOf_161 : decode cX9_askOf 161 = .ok (.iload_n 3, 1) := by decide +kernel
theorem dX9_askOf_162 : decode cX9_askOf 162 = .ok (.istore_n 3, 1) := by decide +kernel
theorem dX9_askOf_163 : decode cX9_askOf 163 = .ok (.iload 7, 2) := by decide +kernel
theorem dX9_askOf_165 : decode cX9_askOf 165 = .ok (.ifCond .eq 8, 3) := by decide +kernel
theorem dX9_askOf_168 : decode cX9_askOf 168 = .ok (.iload 6, 2) := by decide +kernel
theorem dX9_askOf_170 : decode cX9_askOf 170 = .ok (.goto 5, 3) := by decide +kernel
theorem dX9_askOf_173 : decode cX9_askOf 173 = .ok (.iload 4, 2) := by decide +kernel
theorem dX9_askOf_175 : decode cX9_askOf 175 = .ok (.istore 4, 2) := by decide +kernel
theorem dX9_askOf_177 : decode cX9_askOf 177 = .ok (.iinc 5 1, 3) := by decide +kernel
theorem dX9_askOf_180 : decode cX9_askOf 180 = .ok (.goto (-166), 3) := by decide +kernel
theorem dX9_askOf_183 : decode cX9_askOf 183 = .ok (.iload_n 3, 1) := by decide +kernel
theorem dX9_askOf_184 : decode cX9_askOf 184 = .ok (.ireturn, 1) := by decide +kernel
theorem dX9_ask_0 : decode cX9_ask 0 = .ok (.aload_n 0, 1) := by decide +kernel
theorem dX9_ask_1 : decode cX9_ask 1 = .ok (.iload_n 1, 1) := by decide +kernel
theorem dX9_ask_2 : decode cX9_ask 2 = .ok (.invokevirtual 148, 3) := by decide +kernel
theorem dX9_ask_5 : decode cX9_ask 5 = .ok (.ifCond .eq 11, 3) := by decide +kernel
theorem dX9_ask_8 : decode cX9_ask 8 = .ok (.aload_n 0, 1) := by decide +kernel
theorem dX9_ask_9 : decode cX9_ask 9 = .ok (.iload_n 1, 1) := by decide +kernel
theorem dX9_ask_10 : decode cX9_ask 10 = .ok (.invokevirtual 355, 3) := by decide +kernel
theorem dX9_ask_13 : decode cX9_ask 13 = .ok (.goto 5, 3) := by decide +kernel
theorem dX9_ask_16 : decode cX9_ask 16 = .ok (.bipush (-2), 2) := by decide +kernel
theorem dX9_ask_18 : decode cX9_ask 18 = .ok (.ireturn, 1) := by decide +kernel
theorem dX9_chanceOf_0 : decode cX9_chanceOf 0 = .ok (.aload_n 0, 1) := by decide +kernel
theorem dX9_chanceOf_1 : decode cX9_chanceOf 1 = .ok (.invokevirtual 261, 3) := by decide +kernel
theorem dX9_chanceOf_4 : decode cX9_chanceOf 4 = .ok (.lconst 0, 1) := by decide +kernel
theorem dX9_chanceOf_5 : decode cX9_chanceOf 5 = .ok (.lstore 4, 2) := by decide +kernel
theorem dX9_chanceOf_7 : decode cX9_chanceOf 7 = .ok (.iconst 0, 1) := by decide +kernel
theorem dX9_chanceOf_8 : decode cX9_chanceOf 8 = .ok (.istore 6, 2) := by decide +kernel
theorem dX9_chanceOf_10 : decode cX9_chanceOf 10 = .ok (.iload 6, 2) := by decide +kernel
theorem dX9_chanceOf_12 : decode cX9_chanceOf 12 = .ok (.iconst 1, 1) := by decide +kernel
theorem dX9_chanceOf_13 : decode cX9_chanceOf 13 = .ok (.aload_n 0, 1) := by decide +kernel
theorem dX9_chanceOf_14 : decode cX9_chanceOf 14 = .ok (.getfield 160, 3) := by decide +kernel
theorem dX9_chanceOf_17 : decode cX9_chanceOf 17 = .ok (.ishl, 1) := by decide +kernel
theorem dX9_chanceOf_18 : decode cX9_chanceOf 18 = .ok (.if_icmp .ge 91, 3) := by decide +kernel
theorem dX9_chanceOf_21 : decode cX9_chanceOf 21 = .ok (.lconst 1, 1) := by decide +kernel
theorem dX9_chanceOf_22 : decode cX9_chanceOf 22 = .ok (.lstore 7, 2) := by decide +kernel
theorem dX9_chanceOf_24 : decode cX9_chanceOf 24 = .ok (.iconst 0, 1) := by decide +kernel
theorem dX9_chanceOf_25 : decode cX9_chanceOf 25 = .ok (.istore 9, 2) := by decide +kernel
theorem dX9_chanceOf_27 : decode cX9_chanceOf 27 = .ok (.iload 9, 2) := by decide +kernel
theorem dX9_chanceOf_29 : decode cX9_chanceOf 29 = .ok (.aload_n 0, 1) := by decide +kernel
theorem dX9_chanceOf_30 : decode cX9_chanceOf 30 = .ok (.getfield 160, 3) := by decide +kernel
theorem dX9_chanceOf_33 : decode cX9_chanceOf 33 = .ok (.if_icmp .ge 34, 3) := by decide +kernel
theorem dX9_chanceOf_36 : decode cX9_chanceOf 36 = .ok (.lload 7, 2) := by decide +kernel
theorem dX9_chanceOf_38 : decode cX9_chanceOf 38 = .ok (.iload 6, 2) := by decide +kernel
theorem dX9_chanceOf_40 : decode cX9_chanceOf 40 = .ok (.iload 9, 2) := by decide +kernel
theorem dX9_chanceOf_42 : decode cX9_chanceOf 42 = .ok (.invokestatic 197, 3) := by decide +kernel
theorem dX9_chanceOf_45 : decode cX9_chanceOf 45 = .ok (.ifCond .eq 11, 3) := by decide +kernel
theorem dX9_chanceOf_48 : decode cX9_chanceOf 48 = .ok (.bipush 16, 2) := by decide +kernel
theorem dX9_chanceOf_50 : decode cX9_chanceOf 50 = .ok (.iload_n 1, 1) := by decide +kernel
theorem dX9_chanceOf_51 : decode cX9_chanceOf 51 = .ok (.isub, 1) := by decide +kernel
theorem dX9_chanceOf_52 : decode cX9_chanceOf 52 = .ok (.i2l, 1) := by decide +kernel
theorem dX9_chanceOf_53 : decode cX9_chanceOf 53 = .ok (.goto 5, 3) := by decide +kernel
theorem dX9_chanceOf_56 : decode cX9_chanceOf 56 = .ok (.iload_n 1, 1) := by decide +kernel
theorem dX9_chanceOf_57 : decode cX9_chanceOf 57 = .ok (.i2l, 1) := by decide +kernel
theorem dX9_chanceOf_58 : decode cX9_chanceOf 58 = .ok (.lmul, 1) := by decide +kernel
theorem dX9_chanceOf_59 : decode cX9_chanceOf 59 = .ok (.lstore 7, 2) := by decide +kernel
theorem dX9_chanceOf_61 : decode cX9_chanceOf 61 = .ok (.iinc 9 1, 3) := by decide +kernel
theorem dX9_chanceOf_64 : decode cX9_chanceOf 64 = .ok (.goto (-37), 3) := by decide +kernel
theorem dX9_chanceOf_67 : decode cX9_chanceOf 67 = .ok (.lload 7, 2) := by decide +kernel
theorem dX9_chanceOf_69 : decode cX9_chanceOf 69 = .ok (.lconst 0, 1) := by decide +kernel
theorem dX9_chanceOf_70 : decode cX9_chanceOf 70 = .ok (.lcmp, 1) := by decide +kernel
theorem dX9_chanceOf_71 : decode cX9_chanceOf 71 = .ok (.ifCond .le 32, 3) := by decide +kernel
theorem dX9_chanceOf_74 : decode cX9_chanceOf 74 = .ok (.aload_n 0, 1) := by decide +kernel
theorem dX9_chanceOf_75 : decode cX9_chanceOf 75 = .ok (.iload 6, 2) := by decide +kernel
theorem dX9_chanceOf_77 : decode cX9_chanceOf 77 = .ok (.putfield 185, 3) := by decide +kernel
theorem dX9_chanceOf_80 : decode cX9_chanceOf 80 = .ok (.aload_n 0, 1) := by decide +kernel
theorem dX9_chanceOf_81 : decode cX9_chanceOf 81 = .ok (.invokevirtual 264, 3) := by decide +kernel
theorem dX9_chanceOf_84 : decode cX9_chanceOf 84 = .ok (.lload 4, 2) := by decide +kernel
theorem dX9_chanceOf_86 : decode cX9_chanceOf 86 = .ok (.aload_n 0, 1) := by decide +kernel
theorem dX9_chanceOf_87 : decode cX9_chanceOf 87 = .ok (.iload_n 2, 1) := by decide +kernel
theorem dX9_chanceOf_88 : decode cX9_chanceOf 88 = .ok (.invokevirtual 201, 3) := by decide +kernel
theorem dX9_chanceOf_91 : decode cX9_chanceOf 91 = .ok (.ifCond .eq 7, 3) := by decide +kernel
theorem dX9_chanceOf_94 : decode cX9_chanceOf 94 = .ok (.lconst 0, 1) := by decide +kernel
theorem dX9_chanceOf_95 : decode cX9_chanceOf 95 = .ok (.goto 5, 3) := by decide +kernel
theorem dX9_chanceOf_98 : decode cX9_chanceOf 98 = .ok (.lload 7, 2) := by decide +kernel
theorem dX9_chanceOf_100 : decode cX9_chanceOf 100 = .ok (.ladd, 1) := by decide +kernel
theorem dX9_chanceOf_101 : decode cX9_chanceOf 101 = .ok (.lstore 4, 2) := by decide +kernel
theorem dX9_chanceOf_103 : decode cX9_chanceOf 103 = .ok (.iinc 6 1, 3) := by decide +kernel
theorem dX9_chanceOf_106 : decode cX9_chanceOf 106 = .ok (.goto (-96), 3) := by decide +kernel
theorem dX9_chanceOf_109 : decode cX9_chanceOf 109 = .ok (.lload 4, 2) := by decide +kernel
theorem dX9_chanceOf_111 : decode cX9_chanceOf 111 = .ok (.lconst 1, 1) := by decide +kernel
theorem dX9_chanceOf_112 : decode cX9_chanceOf 112 = .ok (.iconst 4, 1) := by decide +kernel
theorem dX9_chanceOf_113 : decode cX9_chanceOf 113 = .ok (.aload_n 0, 1) := by decide +kernel
theorem dX9_chanceOf_114 : decode cX9_chanceOf 114 = .ok (.getfield 160, 3) := by decide +kernel
theorem dX9_chanceOf_117 : decode cX9_chanceOf 117 = .ok (.imul, 1) := by decide +kernel
theorem dX9_chanceOf_118 : decode cX9_chanceOf 118 = .ok (.lshl, 1) := by decide +kernel
theorem dX9_chanceOf_119 : decode cX9_chanceOf 119 = .ok (.iload_n 3, 1) := by decide +kernel
theorem dX9_chanceOf_120 : decode cX9_chanceOf 120 = .ok (.invokestatic 358, 3) := by decide +kernel
theorem dX9_chanceOf_123 : decode cX9_chanceOf 123 = .ok (.lreturn, 1) := by decide +kernel
theorem dX9_chance_0 : decode cX9_chance 0 = .ok (.iload_n 1, 1) := by decide +kernel
theorem dX9_chance_1 : decode cX9_chance 1 = .ok (.iconst 0, 1) := by decide +kernel
theorem dX9_chance_2 : decode cX9_chance 2 = .ok (.bipush 16, 2) := by decide +kernel
theorem dX9_chance_4 : decode cX9_chance 4 = .ok (.invokestatic 109, 3) := by decide +kernel
theorem dX9_chance_7 : decode cX9_chance 7 = .ok (.ifCond .eq 28, 3) := by decide +kernel
theorem dX9_chance_10 : decode cX9_chance 10 = .ok (.aload_n 0, 1) := by decide +kernel
theorem dX9_chance_11 : decode cX9_chance 11 = .ok (.iload_n 2, 1) := by decide +kernel
theorem dX9_chance_12 : decode cX9_chance 12 = .ok (.invokevirtual 148, 3) := by decide +kernel
theorem dX9_chance_15 : decode cX9_chance 15 = .ok (.ifCond .eq 20, 3) := by decide +kernel
theorem dX9_chance_18 : decode cX9_chance 18 = .ok (.iload_n 3, 1) := by decide +kernel
theorem dX9_chance_19 : decode cX9_chance 19 = .ok (.invokestatic 113, 3) := by decide +kernel
theorem dX9_chance_22 : decode cX9_chance 22 = .ok (.ifCond .eq 13, 3) := by decide +kernel
theorem dX9_chance_25 : decode cX9_chance 25 = .ok (.aload_n 0, 1) := by decide +kernel
theorem dX9_chance_26 : decode cX9_chance 26 = .ok (.iload_n 1, 1) := by decide +kernel
theorem dX9_chance_27 : decode cX9_chance 27 = .ok (.iload_n 2, 1) := by decide +kernel
theorem dX9_chance_28 : decode cX9_chance 28 = .ok (.iload_n 3, 1) := by decide +kernel
theorem dX9_chance_29 : decode cX9_chance 29 = .ok (.invokevirtual 362, 3) := by decide +kernel
theorem dX9_chance_32 : decode cX9_chance 32 = .ok (.goto 8, 3) := by decide +kernel
theorem dX9_chance_35 : decode cX9_chance 35 = .ok (.bipush (-2), 2) := by decide +kernel
theorem dX9_chance_37 : decode cX9_chance 37 = .ok (.invokestatic 366, 3) := by decide +kernel
theorem dX9_chance_40 : decode cX9_chance 40 = .ok (.lreturn, 1) := by decide +kernel
theorem dX9_seasonsOf_0 : decode cX9_seasonsOf 0 = .ok (.aload_n 0, 1) := by decide +kernel
theorem dX9_seasonsOf_1 : decode cX9_seasonsOf 1 = .ok (.invokevirtual 261, 3) := by decide +kernel
theorem dX9_seasonsOf_4 : decode cX9_seasonsOf 4 = .ok (.iload_n 1, 1) := by decide +kernel
theorem dX9_seasonsOf_5 : decode cX9_seasonsOf 5 = .ok (.istore 4, 2) := by decide +kernel
theorem dX9_seasonsOf_7 : decode cX9_seasonsOf 7 = .ok (.aload_n 0, 1) := by decide +kernel
theorem dX9_seasonsOf_8 : decode cX9_seasonsOf 8 = .ok (.iload_n 2, 1) := by decide +kernel
theorem dX9_seasonsOf_9 : decode cX9_seasonsOf 9 = .ok (.putfield 173, 3) := by decide +kernel
theorem dX9_seasonsOf_12 : decode cX9_seasonsOf 12 = .ok (.iconst 0, 1) := by decide +kernel
theorem dX9_seasonsOf_13 : decode cX9_seasonsOf 13 = .ok (.istore 5, 2) := by decide +kernel
theorem dX9_seasonsOf_15 : decode cX9_seasonsOf 15 = .ok (.iload 5, 2) := by decide +kernel
theorem dX9_seasonsOf_17 : decode cX9_seasonsOf 17 = .ok (.iload_n 2, 1) := by decide +kernel
theorem dX9_seasonsOf_18 : decode cX9_seasonsOf 18 = .ok (.if_icmp .ge 91, 3) := by decide +kernel
theorem dX9_seasonsOf_21 : decode cX9_seasonsOf 21 = .ok (.ldc_w 370, 3) := by decide +kernel
theorem dX9_seasonsOf_24 : decode cX9_seasonsOf 24 = .ok (.iload 4, 2) := by decide +kernel
theorem dX9_seasonsOf_26 : decode cX9_seasonsOf 26 = .ok (.imul, 1) := by decide +kernel
theorem dX9_seasonsOf_27 : decode cX9_seasonsOf 27 = .ok (.sipush 12345, 3) := by decide +kernel
theorem dX9_seasonsOf_30 : decode cX9_seasonsOf 30 = .ok (.iadd, 1) := by decide +kernel
theorem dX9_seasonsOf_31 : decode cX9_seasonsOf 31 = .ok (.istore 4, 2) := by decide +kernel
theorem dX9_seasonsOf_33 : decode cX9_seasonsOf 33 = .ok (.aload_n 0, 1) := by decide +kernel
theorem dX9_seasonsOf_34 : decode cX9_seasonsOf 34 = .ok (.getfield 37, 3) := by decide +kernel
theorem dX9_seasonsOf_37 : decode cX9_seasonsOf 37 = .ok (.iload 5, 2) := by decide +kernel
theorem dX9_seasonsOf_39 : decode cX9_seasonsOf 39 = .ok (.iload 4, 2) := by decide +kernel
theorem dX9_seasonsOf_41 : decode cX9_seasonsOf 41 = .ok (.bipush 16, 2) := by decide +kernel
theorem dX9_seasonsOf_43 : decode cX9_seasonsOf 43 = .ok (.iushr, 1) := by decide +kernel
theorem dX9_seasonsOf_44 : decode cX9_seasonsOf 44 = .ok (.iconst 3, 1) := by decide +kernel
theorem dX9_seasonsOf_45 : decode cX9_seasonsOf 45 = .ok (.irem, 1) := by decide +kernel
theorem dX9_seasonsOf_46 : decode cX9_seasonsOf 46 = .ok (.iastore, 1) := by decide +kernel
theorem dX9_seasonsOf_47 : decode cX9_seasonsOf 47 = .ok (.ldc_w 370, 3) := by decide +kernel
theorem dX9_seasonsOf_50 : decode cX9_seasonsOf 50 = .ok (.iload 4, 2) := by decide +kernel
theorem dX9_seasonsOf_52 : decode cX9_seasonsOf 52 = .ok (.imul, 1) := by decide +kernel
theorem dX9_seasonsOf_53 : decode cX9_seasonsOf 53 = .ok (.sipush 12345, 3) := by decide +kernel
theorem dX9_seasonsOf_56 : decode cX9_seasonsOf 56 = .ok (.iadd, 1) := by decide +kernel
theorem dX9_seasonsOf_57 : decode cX9_seasonsOf 57 = .ok (.istore 4, 2) := by decide +kernel
theorem dX9_seasonsOf_59 : decode cX9_seasonsOf 59 = .ok (.aload_n 0, 1) := by decide +kernel
theorem dX9_seasonsOf_60 : decode cX9_seasonsOf 60 = .ok (.getfield 40, 3) := by decide +kernel
theorem dX9_seasonsOf_63 : decode cX9_seasonsOf 63 = .ok (.iload 5, 2) := by decide +kernel
theorem dX9_seasonsOf_65 : decode cX9_seasonsOf 65 = .ok (.iload 4, 2) := by decide +kernel
theorem dX9_seasonsOf_67 : decode cX9_seasonsOf 67 = .ok (.bipush 16, 2) := by decide +kernel
theorem dX9_seasonsOf_69 : decode cX9_seasonsOf 69 = .ok (.iushr, 1) := by decide +kernel
theorem dX9_seasonsOf_70 : decode cX9_seasonsOf 70 = .ok (.bipush 9, 2) := by decide +kernel
theorem dX9_seasonsOf_72 : decode cX9_seasonsOf 72 = .ok (.irem, 1) := by decide +kernel
theorem dX9_seasonsOf_73 : decode cX9_seasonsOf 73 = .ok (.iconst 1, 1) := by decide +kernel
theorem dX9_seasonsOf_74 : decode cX9_seasonsOf 74 = .ok (.iadd, 1) := by decide +kernel
theorem dX9_seasonsOf_75 : decode cX9_seasonsOf 75 = .ok (.iastore, 1) := by decide +kernel
theorem dX9_seasonsOf_76 : decode cX9_seasonsOf 76 = .ok (.ldc_w 370, 3) := by decide +kernel
theorem dX9_seasonsOf_79 : decode cX9_seasonsOf 79 = .ok (.iload 4, 2) := by decide +kernel
theorem dX9_seasonsOf_81 : decode cX9_seasonsOf 81 = .ok (.imul, 1) := by decide +kernel
theorem dX9_seasonsOf_82 : decode cX9_seasonsOf 82 = .ok (.sipush 12345, 3) := by decide +kernel
theorem dX9_seasonsOf_85 : decode cX9_seasonsOf 85 = .ok (.iadd, 1) := by decide +kernel
theorem dX9_seasonsOf_86 : decode cX9_seasonsOf 86 = .ok (.istore 4, 2) := by decide +kernel
theorem dX9_seasonsOf_88 : decode cX9_seasonsOf 88 = .ok (.aload_n 0, 1) := by decide +kernel
theorem dX9_seasonsOf_89 : decode cX9_seasonsOf 89 = .ok (.getfield 43, 3) := by decide +kernel
theorem dX9_seasonsOf_92 : decode cX9_seasonsOf 92 = .ok (.iload 5, 2) := by decide +kernel
theorem dX9_seasonsOf_94 : decode cX9_seasonsOf 94 = .ok (.iload 4, 2) := by decide +kernel
theorem dX9_seasonsOf_96 : decode cX9_seasonsOf 96 = .ok (.bipush 16, 2) := by decide +kernel
theorem dX9_seasonsOf_98 : decode cX9_seasonsOf 98 = .ok (.iushr, 1) := by decide +kernel
theorem dX9_seasonsOf_99 : decode cX9_seasonsOf 99 = .ok (.bipush 10, 2) := by decide +kernel
theorem dX9_seasonsOf_101 : decode cX9_seasonsOf 101 = .ok (.irem, 1) := by decide +kernel
theorem dX9_seasonsOf_102 : decode cX9_seasonsOf 102 = .ok (.iastore, 1) := by decide +kernel
theorem dX9_seasonsOf_103 : decode cX9_seasonsOf 103 = .ok (.iinc 5 1, 3) := by decide +kernel
theorem dX9_seasonsOf_106 : decode cX9_seasonsOf 106 = .ok (.goto (-91), 3) := by decide +kernel
theorem dX9_seasonsOf_109 : decode cX9_seasonsOf 109 = .ok (.aload_n 0, 1) := by decide +kernel
theorem dX9_seasonsOf_110 : decode cX9_seasonsOf 110 = .ok (.invokevirtual 264, 3) := by decide +kernel
theorem dX9_seasonsOf_113 : decode cX9_seasonsOf 113 = .ok (.iload_n 3, 1) := by decide +kernel
theorem dX9_seasonsOf_114 : decode cX9_seasonsOf 114 = .ok (.ifCond .ne 10, 3) := by decide +kernel
theorem dX9_seasonsOf_117 : decode cX9_seasonsOf 117 = .ok (.aload_n 0, 1) := by decide +kernel
theorem dX9_seasonsOf_118 : decode cX9_seasonsOf 118 = .ok (.invokevirtual 282, 3) := by decide +kernel
theorem dX9_seasonsOf_121 : decode cX9_seasonsOf 121 = .ok (.goto 7, 3) := by decide +kernel
theorem dX9_seasonsOf_124 : decode cX9_seasonsOf 124 = .ok (.aload_n 0, 1) := by decide +kernel
theorem dX9_seasonsOf_125 : decode cX9_seasonsOf 125 = .ok (.getfield 246, 3) := by decide +kernel
theorem dX9_seasonsOf_128 : decode cX9_seasonsOf 128 = .ok (.ireturn, 1) := by decide +kernel
theorem dX9_seasons_0 : decode cX9_seasons 0 = .ok (.iload_n 2, 1) := by decide +kernel
theorem dX9_seasons_1 : decode cX9_seasons 1 = .ok (.iconst 0, 1) := by decide +kernel
theorem dX9_seasons_2 : decode cX9_seasons 2 = .ok (.bipush 8, 2) := by decide +kernel
theorem dX9_seasons_4 : decode cX9_seasons 4 = .ok (.invokestatic 109, 3) := by decide +kernel
theorem dX9_seasons_7 : decode cX9_seasons 7 = .ok (.ifCond .eq 20, 3) := by decide +kernel
theorem dX9_seasons_10 : decode cX9_seasons 10 = .ok (.iload_n 3, 1) := by decide +kernel
theorem dX9_seasons_11 : decode cX9_seasons 11 = .ok (.invokestatic 113, 3) := by decide +kernel
theorem dX9_seasons_14 : decode cX9_seasons 14 = .ok (.ifCond .eq 13, 3) := by decide +kernel
theorem dX9_seasons_17 : decode cX9_seasons 17 = .ok (.aload_n 0, 1) := by decide +kernel
theorem dX9_seasons_18 : decode cX9_seasons 18 = .ok (.iload_n 1, 1) := by decide +kernel
theorem dX9_seasons_19 : decode cX9_seasons 19 = .ok (.iload_n 2, 1) := by decide +kernel
theorem dX9_seasons_20 : decode cX9_seasons 20 = .ok (.iload_n 3, 1) := by decide +kernel
theorem dX9_seasons_21 : decode cX9_seasons 21 = .ok (.invokevirtual 371, 3) := by decide +kernel
theorem dX9_seasons_24 : decode cX9_seasons 24 = .ok (.goto 5, 3) := by decide +kernel
theorem dX9_seasons_27 : decode cX9_seasons 27 = .ok (.bipush (-2), 2) := by decide +kernel
theorem dX9_seasons_29 : decode cX9_seasons 29 = .ok (.ireturn, 1) := by decide +kernel
theorem dX9_meets_0 : decode cX9_meets 0 = .ok (.aload_n 0, 1) := by decide +kernel
theorem dX9_meets_1 : decode cX9_meets 1 = .ok (.iload_n 1, 1) := by decide +kernel
theorem dX9_meets_2 : decode cX9_meets 2 = .ok (.putfield 374, 3) := by decide +kernel
theorem dX9_meets_5 : decode cX9_meets 5 = .ok (.bipush (-10), 2) := by decide +kernel
theorem dX9_meets_7 : decode cX9_meets 7 = .ok (.iload_n 1, 1) := by decide +kernel
theorem dX9_meets_8 : decode cX9_meets 8 = .ok (.isub, 1) := by decide +kernel
theorem dX9_meets_9 : decode cX9_meets 9 = .ok (.ireturn, 1) := by decide +kernel
theorem dX9_isSheet_0 : decode cX9_isSheet 0 = .ok (.iload_n 0, 1) := by decide +kernel
theorem dX9_isSheet_1 : decode cX9_isSheet 1 = .ok (.iconst 0, 1) := by decide +kernel
theorem dX9_isSheet_2 : decode cX9_isSheet 2 = .ok (.iconst 3, 1) := by decide +kernel
theorem dX9_isSheet_3 : decode cX9_isSheet 3 = .ok (.invokestatic 109, 3) := by decide +kernel
theorem dX9_isSheet_6 : decode cX9_isSheet 6 = .ok (.ireturn, 1) := by decide +kernel
theorem dX9_sheet_0 : decode cX9_sheet 0 = .ok (.iload_n 1, 1) := by decide +kernel
theorem dX9_sheet_1 : decode cX9_sheet 1 = .ok (.invokestatic 163, 3) := by decide +kernel
theorem dX9_sheet_4 : decode cX9_sheet 4 = .ok (.ifCond .eq 18, 3) := by decide +kernel
theorem dX9_sheet_7 : decode cX9_sheet 7 = .ok (.iload_n 2, 1) := by decide +kernel
theorem dX9_sheet_8 : decode cX9_sheet 8 = .ok (.iconst 0, 1) := by decide +kernel
theorem dX9_sheet_9 : decode cX9_sheet 9 = .ok (.iconst 2, 1) := by decide +kernel
theorem dX9_sheet_10 : decode cX9_sheet 10 = .ok (.invokestatic 109, 3) := by decide +kernel
theorem dX9_sheet_13 : decode cX9_sheet 13 = .ok (.ifCond .eq 9, 3) := by decide +kernel
theorem dX9_sheet_16 : decode cX9_sheet 16 = .ok (.iload_n 3, 1) := by decide +kernel
theorem dX9_sheet_17 : decode cX9_sheet 17 = .ok (.bipush 60, 2) := by decide +kernel
theorem dX9_sheet_19 : decode cX9_sheet 19 = .ok (.if_icmp .le 6, 3) := by decide +kernel
theorem dX9_sheet_22 : decode cX9_sheet 22 = .ok (.bipush (-2), 2) := by decide +kernel
theorem dX9_sheet_24 : decode cX9_sheet 24 = .ok (.ireturn, 1) := by decide +kernel
theorem dX9_sheet_25 : decode cX9_sheet 25 = .ok (.iload_n 3, 1) := by decide +kernel
theorem dX9_sheet_26 : decode cX9_sheet 26 = .ok (.ifCond .ge 9, 3) := by decide +kernel
theorem dX9_sheet_29 : decode cX9_sheet 29 = .ok (.aload_n 0, 1) := by decide +kernel
theorem dX9_sheet_30 : decode cX9_sheet 30 = .ok (.iconst 5, 1) := by decide +kernel
theorem dX9_sheet_31 : decode cX9_sheet 31 = .ok (.invokevirtual 166, 3) := by decide +kernel
theorem dX9_sheet_34 : decode cX9_sheet 34 = .ok (.ireturn, 1) := by decide +kernel
theorem dX9_sheet_35 : decode cX9_sheet 35 = .ok (.aload_n 0, 1) := by decide +kernel
theorem dX9_sheet_36 : decode cX9_sheet 36 = .ok (.getfield 91, 3) := by decide +kernel
theorem dX9_sheet_39 : decode cX9_sheet 39 = .ok (.iload_n 1, 1) := by decide +kernel
theorem dX9_sheet_40 : decode cX9_sheet 40 = .ok (.iconst 1, 1) := by decide +kernel
theorem dX9_sheet_41 : decode cX9_sheet 41 = .ok (.bastore, 1) := by decide +kernel
theorem dX9_sheet_42 : decode cX9_sheet 42 = .ok (.aload_n 0, 1) := by decide +kernel
theorem dX9_sheet_43 : decode cX9_sheet 43 = .ok (.getfield 95, 3) := by decide +kernel
theorem dX9_sheet_46 : decode cX9_sheet 46 = .ok (.iload_n 1, 1) := by decide +kernel
theorem dX9_sheet_47 : decode cX9_sheet 47 = .ok (.iload_n 2, 1) := by decide +kernel
theorem dX9_sheet_48 : decode cX9_sheet 48 = .ok (.iastore, 1) := by decide +kernel
theorem dX9_sheet_49 : decode cX9_sheet 49 = .ok (.aload_n 0, 1) := by decide +kernel
theorem dX9_sheet_50 : decode cX9_sheet 50 = .ok (.getfield 98, 3) := by decide +kernel
theorem dX9_sheet_53 : decode cX9_sheet 53 = .ok (.iload_n 1, 1) := by decide +kernel
theorem dX9_sheet_54 : decode cX9_sheet 54 = .ok (.iload_n 3, 1) := by decide +kernel
theorem dX9_sheet_55 : decode cX9_sheet 55 = .ok (.iastore, 1) := by decide +kernel
theorem dX9_sheet_56 : decode cX9_sheet 56 = .ok (.iconst 0, 1) := by decide +kernel
theorem dX9_sheet_57 : decode cX9_sheet 57 = .ok (.istore 4, 2) := by decide +kernel
theorem dX9_sheet_59 : decode cX9_sheet 59 = .ok (.iload 4, 2) := by decide +kernel
theorem dX9_sheet_61 : decode cX9_sheet 61 = .ok (.bipush 60, 2) := by decide +kernel
theorem dX9_sheet_63 : decode cX9_sheet 63 = .ok (.if_icmp .ge 22, 3) := by decide +kernel
theorem dX9_sheet_66 : decode cX9_sheet 66 = .ok (.aload_n 0, 1) := by decide +kernel
theorem dX9_sheet_67 : decode cX9_sheet 67 = .ok (.getfield 101, 3) := by decide +kernel
theorem dX9_sheet_70 : decode cX9_sheet 70 = .ok (.bipush 60, 2) := by decide +kernel
theorem dX9_sheet_72 : decode cX9_sheet 72 = .ok (.iload_n 1, 1) := by decide +kernel
theorem dX9_sheet_73 : decode cX9_sheet 73 = .ok (.imul, 1) := by decide +kernel
theorem dX9_sheet_74 : decode cX9_sheet 74 = .ok (.iload 4, 2) := by decide +kernel
theorem dX9_sheet_76 : decode cX9_sheet 76 = .ok (.iadd, 1) := by decide +kernel
theorem dX9_sheet_77 : decode cX9_sheet 77 = .ok (.iconst 0, 1) := by decide +kernel
theorem dX9_sheet_78 : decode cX9_sheet 78 = .ok (.iastore, 1) := by decide +kernel
theorem dX9_sheet_79 : decode cX9_sheet 79 = .ok (.iinc 4 1, 3) := by decide +kernel
theorem dX9_sheet_82 : decode cX9_sheet 82 = .ok (.goto (-23), 3) := by decide +kernel
theorem dX9_sheet_85 : decode cX9_sheet 85 = .ok (.iload_n 3, 1) := by decide +kernel
theorem dX9_sheet_86 : decode cX9_sheet 86 = .ok (.ireturn, 1) := by decide +kernel
theorem dX9_lose_0 : decode cX9_lose 0 = .ok (.iload_n 1, 1) := by decide +kernel
theorem dX9_lose_1 : decode cX9_lose 1 = .ok (.invokestatic 163, 3) := by decide +kernel
theorem dX9_lose_4 : decode cX9_lose 4 = .ok (.ifCond .ne 6, 3) := by decide +kernel
theorem dX9_lose_7 : decode cX9_lose 7 = .ok (.bipush (-2), 2) := by decide +kernel
theorem dX9_lose_9 : decode cX9_lose 9 = .ok (.ireturn, 1) := by decide +kernel
theorem dX9_lose_10 : decode cX9_lose 10 = .ok (.aload_n 0, 1) := by decide +kernel
theorem dX9_lose_11 : decode cX9_lose 11 = .ok (.getfield 91, 3) := by decide +kernel
theorem dX9_lose_14 : decode cX9_lose 14 = .ok (.iload_n 1, 1) := by decide +kernel
theorem dX9_lose_15 : decode cX9_lose 15 = .ok (.baload, 1) := by decide +kernel
theorem dX9_lose_16 : decode cX9_lose 16 = .ok (.ifCond .ne 9, 3) := by decide +kernel
theorem dX9_lose_19 : decode cX9_lose 19 = .ok (.aload_n 0, 1) := by decide +kernel
theorem dX9_lose_20 : decode cX9_lose 20 = .ok (.iconst 1, 1) := by decide +kernel
theorem dX9_lose_21 : decode cX9_lose 21 = .ok (.invokevirtual 166, 3) := by decide +kernel
theorem dX9_lose_24 : decode cX9_lose 24 = .ok (.ireturn, 1) := by decide +kernel
theorem dX9_lose_25 : decode cX9_lose 25 = .ok (.aload_n 0, 1) := by decide +kernel
theorem dX9_lose_26 : decode cX9_lose 26 = .ok (.getfield 91, 3) := by decide +kernel
theorem dX9_lose_29 : decode cX9_lose 29 = .ok (.iload_n 1, 1) := by decide +kernel
theorem dX9_lose_30 : decode cX9_lose 30 = .ok (.iconst 0, 1) := by decide +kernel
theorem dX9_lose_31 : decode cX9_lose 31 = .ok (.bastore, 1) := by decide +kernel
theorem dX9_lose_32 : decode cX9_lose 32 = .ok (.aload_n 0, 1) := by decide +kernel
theorem dX9_lose_33 : decode cX9_lose 33 = .ok (.getfield 98, 3) := by decide +kernel
theorem dX9_lose_36 : decode cX9_lose 36 = .ok (.iload_n 1, 1) := by decide +kernel
theorem dX9_lose_37 : decode cX9_lose 37 = .ok (.iaload, 1) := by decide +kernel
theorem dX9_lose_38 : decode cX9_lose 38 = .ok (.ireturn, 1) := by decide +kernel
theorem dX9_lacks_0 : decode cX9_lacks 0 = .ok (.aload_n 0, 1) := by decide +kernel
theorem dX9_lacks_1 : decode cX9_lacks 1 = .ok (.getfield 91, 3) := by decide +kernel
theorem dX9_lacks_4 : decode cX9_lacks 4 = .ok (.iload_n 1, 1) := by decide +kernel
theorem dX9_lacks_5 : decode cX9_lacks 5 = .ok (.baload, 1) := by decide +kernel
theorem dX9_lacks_6 : decode cX9_lacks 6 = .ok (.ifCond .ne 7, 3) := by decide +kernel
theorem dX9_lacks_9 : decode cX9_lacks 9 = .ok (.iconst 1, 1) := by decide +kernel
theorem dX9_lacks_10 : decode cX9_lacks 10 = .ok (.goto 38, 3) := by decide +kernel
theorem dX9_lacks_13 : decode cX9_lacks 13 = .ok (.aload_n 0, 1) := by decide +kernel
theorem dX9_lacks_14 : decode cX9_lacks 14 = .ok (.getfield 95, 3) := by decide +kernel
theorem dX9_lacks_17 : decode cX9_lacks 17 = .ok (.iload_n 1, 1) := by decide +kernel
theorem dX9_lacks_18 : decode cX9_lacks 18 = .ok (.iaload, 1) := by decide +kernel
theorem dX9_lacks_19 : decode cX9_lacks 19 = .ok (.iload_n 2, 1) := by decide +kernel
theorem dX9_lacks_20 : decode cX9_lacks 20 = .ok (.if_icmp .eq 7, 3) := by decide +kernel
theorem dX9_lacks_23 : decode cX9_lacks 23 = .ok (.iconst 3, 1) := by decide +kernel
theorem dX9_lacks_24 : decode cX9_lacks 24 = .ok (.goto 24, 3) := by decide +kernel
theorem dX9_lacks_27 : decode cX9_lacks 27 = .ok (.iload_n 3, 1) := by decide +kernel
theorem dX9_lacks_28 : decode cX9_lacks 28 = .ok (.iconst 0, 1) := by decide +kernel
theorem dX9_lacks_29 : decode cX9_lacks 29 = .ok (.aload_n 0, 1) := by decide +kernel
theorem dX9_lacks_30 : decode cX9_lacks 30 = .ok (.getfield 98, 3) := by decide +kernel
theorem dX9_lacks_33 : decode cX9_lacks 33 = .ok (.iload_n 1, 1) := by decide +kernel
theorem dX9_lacks_34 : decode cX9_lacks 34 = .ok (.iaload, 1) := by decide +kernel
theorem dX9_lacks_35 : decode cX9_lacks 35 = .ok (.iconst 1, 1) := by decide +kernel
theorem dX9_lacks_36 : decode cX9_lacks 36 = .ok (.isub, 1) := by decide +kernel
theorem dX9_lacks_37 : decode cX9_lacks 37 = .ok (.invokestatic 109, 3) := by decide +kernel
theorem dX9_lacks_40 : decode cX9_lacks 40 = .ok (.ifCond .eq 7, 3) := by decide +kernel
theorem dX9_lacks_43 : decode cX9_lacks 43 = .ok (.iconst 0, 1) := by decide +kernel
theorem dX9_lacks_44 : decode cX9_lacks 44 = .ok (.goto 4, 3) := by decide +kernel
theorem dX9_lacks_47 : decode cX9_lacks 47 = .ok (.iconst 2, 1) := by decide +kernel
theorem dX9_lacks_48 : decode cX9_lacks 48 = .ok (.ireturn, 1) := by decide +kernel
theorem dX9_keep_0 : decode cX9_keep 0 = .ok (.aload_n 0, 1) := by decide +kernel
theorem dX9_keep_1 : decode cX9_keep 1 = .ok (.getfield 101, 3) := by decide +kernel
theorem dX9_keep_4 : decode cX9_keep 4 = .ok (.bipush 60, 2) := by decide +kernel
theorem dX9_keep_6 : decode cX9_keep 6 = .ok (.iload_n 1, 1) := by decide +kernel
theorem dX9_keep_7 : decode cX9_keep 7 = .ok (.imul, 1) := by decide +kernel
theorem dX9_keep_8 : decode cX9_keep 8 = .ok (.iload_n 2, 1) := by decide +kernel
theorem dX9_keep_9 : decode cX9_keep 9 = .ok (.iadd, 1) := by decide +kernel
theorem dX9_keep_10 : decode cX9_keep 10 = .ok (.aload_n 0, 1) := by decide +kernel
theorem dX9_keep_11 : decode cX9_keep 11 = .ok (.getfield 95, 3) := by decide +kernel
theorem dX9_keep_14 : decode cX9_keep 14 = .ok (.iload_n 1, 1) := by decide +kernel
theorem dX9_keep_15 : decode cX9_keep 15 = .ok (.iaload, 1) := by decide +kernel
theorem dX9_keep_16 : decode cX9_keep 16 = .ok (.ifCond .ne 8, 3) := by decide +kernel
theorem dX9_keep_19 : decode cX9_keep 19 = .ok (.iload_n 3, 1) := by decide +kernel
theorem dX9_keep_20 : decode cX9_keep 20 = .ok (.i2b, 1) := by decide +kernel
theorem dX9_keep_21 : decode cX9_keep 21 = .ok (.goto 19, 3) := by decide +kernel
theorem dX9_keep_24 : decode cX9_keep 24 = .ok (.aload_n 0, 1) := by decide +kernel
theorem dX9_keep_25 : decode cX9_keep 25 = .ok (.getfield 95, 3) := by decide +kernel
theorem dX9_keep_28 : decode cX9_keep 28 = .ok (.iload_n 1, 1) := by decide +kernel
theorem dX9_keep_29 : decode cX9_keep 29 = .ok (.iaload, 1) := by decide +kernel
theorem dX9_keep_30 : decode cX9_keep 30 = .ok (.iconst 1, 1) := by decide +kernel
theorem dX9_keep_31 : decode cX9_keep 31 = .ok (.if_icmp .ne 8, 3) := by decide +kernel
theorem dX9_keep_34 : decode cX9_keep 34 = .ok (.iload_n 3, 1) := by decide +kernel
theorem dX9_keep_35 : decode cX9_keep 35 = .ok (.i2s, 1) := by decide +kernel
theorem dX9_keep_36 : decode cX9_keep 36 = .ok (.goto 4, 3) := by decide +kernel
theorem dX9_keep_39 : decode cX9_keep 39 = .ok (.iload_n 3, 1) := by decide +kernel
theorem dX9_keep_40 : decode cX9_keep 40 = .ok (.iastore, 1) := by decide +kernel
theorem dX9_keep_41 : decode cX9_keep 41 = .ok (.return_, 1) := by decide +kernel
theorem dX9_put_0 : decode cX9_put 0 = .ok (.iload_n 1, 1) := by decide +kernel
theorem dX9_put_1 : decode cX9_put 1 = .ok (.invokestatic 163, 3) := by decide +kernel
theorem dX9_put_4 : decode cX9_put 4 = .ok (.ifCond .eq 12, 3) := by decide +kernel
theorem dX9_put_7 : decode cX9_put 7 = .ok (.iload_n 2, 1) := by decide +kernel
theorem dX9_put_8 : decode cX9_put 8 = .ok (.iconst 0, 1) := by decide +kernel
theorem dX9_put_9 : decode cX9_put 9 = .ok (.iconst 2, 1) := by decide +kernel
theorem dX9_put_10 : decode cX9_put 10 = .ok (.invokestatic 109, 3) := by decide +kernel
theorem dX9_put_13 : decode cX9_put 13 = .ok (.ifCond .ne 6, 3) := by decide +kernel
theorem dX9_put_16 : decode cX9_put 16 = .ok (.bipush (-2), 2) := by decide +kernel
theorem dX9_put_18 : decode cX9_put 18 = .ok (.ireturn, 1) := by decide +kernel
theorem dX9_put_19 : decode cX9_put 19 = .ok (.aload_n 0, 1) := by decide +kernel
theorem dX9_put_20 : decode cX9_put 20 = .ok (.iload_n 1, 1) := by decide +kernel
theorem dX9_put_21 : decode cX9_put 21 = .ok (.iload_n 2, 1) := by decide +kernel
theorem dX9_put_22 : decode cX9_put 22 = .ok (.iload_n 3, 1) := by decide +kernel
theorem dX9_put_23 : decode cX9_put 23 = .ok (.invokevirtual 377, 3) := by decide +kernel
theorem dX9_put_26 : decode cX9_put 26 = .ok (.istore 5, 2) := by decide +kernel
theorem dX9_put_28 : decode cX9_put 28 = .ok (.iload 5, 2) := by decide +kernel
theorem dX9_put_30 : decode cX9_put 30 = .ok (.ifCond .le 10, 3) := by decide +kernel
theorem dX9_put_33 : decode cX9_put 33 = .ok (.aload_n 0, 1) := by decide +kernel
theorem dX9_put_34 : decode cX9_put 34 = .ok (.iload 5, 2) := by decide +kernel
theorem dX9_put_36 : decode cX9_put 36 = .ok (.invokevirtual 166, 3) := by decide +kernel
theorem dX9_put_39 : decode cX9_put 39 = .ok (.ireturn, 1) := by decide +kernel
theorem dX9_put_40 : decode cX9_put 40 = .ok (.aload_n 0, 1) := by decide +kernel
theorem dX9_put_41 : decode cX9_put 41 = .ok (.iload_n 1, 1) := by decide +kernel
theorem dX9_put_42 : decode cX9_put 42 = .ok (.iload_n 3, 1) := by decide +kernel
theorem dX9_put_43 : decode cX9_put 43 = .ok (.iload 4, 2) := by decide +kernel
theorem dX9_put_45 : decode cX9_put 45 = .ok (.invokevirtual 380, 3) := by decide +kernel
theorem dX9_put_48 : decode cX9_put 48 = .ok (.iconst 1, 1) := by decide +kernel
theorem dX9_put_49 : decode cX9_put 49 = .ok (.ireturn, 1) := by decide +kernel
theorem dX9_get_0 : decode cX9_get 0 = .ok (.iload_n 1, 1) := by decide +kernel
theorem dX9_get_1 : decode cX9_get 1 = .ok (.invokestatic 163, 3) := by decide +kernel
theorem dX9_get_4 : decode cX9_get 4 = .ok (.ifCond .eq 12, 3) := by decide +kernel
theorem dX9_get_7 : decode cX9_get 7 = .ok (.iload_n 2, 1) := by decide +kernel
theorem dX9_get_8 : decode cX9_get 8 = .ok (.iconst 0, 1) := by decide +kernel
theorem dX9_get_9 : decode cX9_get 9 = .ok (.iconst 2, 1) := by decide +kernel
theorem dX9_get_10 : decode cX9_get 10 = .ok (.invokestatic 109, 3) := by decide +kernel
theorem dX9_get_13 : decode cX9_get 13 = .ok (.ifCond .ne 7, 3) := by decide +kernel
theorem dX9_get_16 : decode cX9_get 16 = .ok (.ldc_w 384, 3) := by decide +kernel
theorem dX9_get_19 : decode cX9_get 19 = .ok (.ireturn, 1) := by decide +kernel
theorem dX9_get_20 : decode cX9_get 20 = .ok (.aload_n 0, 1) := by decide +kernel
theorem dX9_get_21 : decode cX9_get 21 = .ok (.iload_n 1, 1) := by decide +kernel
theorem dX9_get_22 : decode cX9_get 22 = .ok (.iload_n 2, 1) := by decide +kernel
theorem dX9_get_23 : decode cX9_get 23 = .ok (.iload_n 3, 1) := by decide +kernel
theorem dX9_get_24 : decode cX9_get 24 = .ok (.invokevirtual 377, 3) := by decide +kernel
theorem dX9_get_27 : decode cX9_get 27 = .ok (.istore 4, 2) := by decide +kernel
theorem dX9_get_29 : decode cX9_get 29 = .ok (.iload 4, 2) := by decide +kernel
theorem dX9_get_31 : decode cX9_get 31 = .ok (.ifCond .le 13, 3) := by decide +kernel
theorem dX9_get_34 : decode cX9_get 34 = .ok (.aload_n 0, 1) := by decide +kernel
theorem dX9_get_35 : decode cX9_get 35 = .ok (.iload 4, 2) := by decide +kernel
theorem dX9_get_37 : decode cX9_get 37 = .ok (.putfield 374, 3) := by decide +kernel
theorem dX9_get_40 : decode cX9_get 40 = .ok (.ldc_w 384, 3) := by decide +kernel
theorem dX9_get_43 : decode cX9_get 43 = .ok (.ireturn, 1) := by decide +kernel
theorem dX9_get_44 : decode cX9_get 44 = .ok (.aload_n 0, 1) := by decide +kernel
theorem dX9_get_45 : decode cX9_get 45 = .ok (.getfield 101, 3) := by decide +kernel
theorem dX9_get_48 : decode cX9_get 48 = .ok (.bipush 60, 2) := by decide +kernel
theorem dX9_get_50 : decode cX9_get 50 = .ok (.iload_n 1, 1) := by decide +kernel
theorem dX9_get_51 : decode cX9_get 51 = .ok (.imul, 1) := by decide +kernel
theorem dX9_get_52 : decode cX9_get 52 = .ok (.iload_n 3, 1) := by decide +kernel
theorem dX9_get_53 : decode cX9_get 53 = .ok (.iadd, 1) := by decide +kernel
theorem dX9_get_54 : decode cX9_get 54 = .ok (.iaload, 1) := by decide +kernel
theorem dX9_get_55 : decode cX9_get 55 = .ok (.ireturn, 1) := by decide +kernel
theorem dX9_copy_0 : decode cX9_copy 0 = .ok (.iload_n 1, 1) := by decide +kernel
theorem dX9_copy_1 : decode cX9_copy 1 = .ok (.invokestatic 163, 3) := by decide +kernel
theorem dX9_copy_4 : decode cX9_copy 4 = .ok (.ifCond .eq 10, 3) := by decide +kernel
theorem dX9_copy_7 : decode cX9_copy 7 = .ok (.iload_n 3, 1) := by decide +kernel
theorem dX9_copy_8 : decode cX9_copy 8 = .ok (.invokestatic 163, 3) := by decide +kernel
theorem dX9_copy_11 : decode cX9_copy 11 = .ok (.ifCond .ne 6, 3) := by decide +kernel
theorem dX9_copy_14 : decode cX9_copy 14 = .ok (.bipush (-2), 2) := by decide +kernel
theorem dX9_copy_16 : decode cX9_copy 16 = .ok (.ireturn, 1) := by decide +kernel
theorem dX9_copy_17 : decode cX9_copy 17 = .ok (.aload_n 0, 1) := by decide +kernel
theorem dX9_copy_18 : decode cX9_copy 18 = .ok (.getfield 91, 3) := by decide +kernel
theorem dX9_copy_21 : decode cX9_copy 21 = .ok (.iload_n 1, 1) := by decide +kernel
theorem dX9_copy_22 : decode cX9_copy 22 = .ok (.baload, 1) := by decide +kernel
theorem dX9_copy_23 : decode cX9_copy 23 = .ok (.ifCond .eq 12, 3) := by decide +kernel
theorem dX9_copy_26 : decode cX9_copy 26 = .ok (.aload_n 0, 1) := by decide +kernel
theorem dX9_copy_27 : decode cX9_copy 27 = .ok (.getfield 91, 3) := by decide +kernel
theorem dX9_copy_30 : decode cX9_copy 30 = .ok (.iload_n 3, 1) := by decide +kernel
theorem dX9_copy_31 : decode cX9_copy 31 = .ok (.baload, 1) := by decide +kernel
theorem dX9_copy_32 : decode cX9_copy 32 = .ok (.ifCond .ne 9, 3) := by decide +kernel
theorem dX9_copy_35 : decode cX9_copy 35 = .ok (.aload_n 0, 1) := by decide +kernel
theorem dX9_copy_36 : decode cX9_copy 36 = .ok (.iconst 1, 1) := by decide +kernel
theorem dX9_copy_37 : decode cX9_copy 37 = .ok (.invokevirtual 166, 3) := by decide +kernel
theorem dX9_copy_40 : decode cX9_copy 40 = .ok (.ireturn, 1) := by decide +kernel
theorem dX9_copy_41 : decode cX9_copy 41 = .ok (.aload_n 0, 1) := by decide +kernel
theorem dX9_copy_42 : decode cX9_copy 42 = .ok (.getfield 95, 3) := by decide +kernel
theorem dX9_copy_45 : decode cX9_copy 45 = .ok (.iload_n 1, 1) := by decide +kernel
theorem dX9_copy_46 : decode cX9_copy 46 = .ok (.iaload, 1) := by decide +kernel
theorem dX9_copy_47 : decode cX9_copy 47 = .ok (.aload_n 0, 1) := by decide +kernel
theorem dX9_copy_48 : decode cX9_copy 48 = .ok (.getfield 95, 3) := by decide +kernel
theorem dX9_copy_51 : decode cX9_copy 51 = .ok (.iload_n 3, 1) := by decide +kernel
theorem dX9_copy_52 : decode cX9_copy 52 = .ok (.iaload, 1) := by decide +kernel
theorem dX9_copy_53 : decode cX9_copy 53 = .ok (.if_icmp .eq 9, 3) := by decide +kernel
theorem dX9_copy_56 : decode cX9_copy 56 = .ok (.aload_n 0, 1) := by decide +kernel
theorem dX9_copy_57 : decode cX9_copy 57 = .ok (.iconst 4, 1) := by decide +kernel
theorem dX9_copy_58 : decode cX9_copy 58 = .ok (.invokevirtual 166, 3) := by decide +kernel
theorem dX9_copy_61 : decode cX9_copy 61 = .ok (.ireturn, 1) := by decide +kernel
theorem dX9_copy_62 : decode cX9_copy 62 = .ok (.iload_n 2, 1) := by decide +kernel
theorem dX9_copy_63 : decode cX9_copy 63 = .ok (.ifCond .lt 48, 3) := by decide +kernel
theorem dX9_copy_66 : decode cX9_copy 66 = .ok (.iload 4, 2) := by decide +kernel
theorem dX9_copy_68 : decode cX9_copy 68 = .ok (.ifCond .lt 43, 3) := by decide +kernel
theorem dX9_copy_71 : decode cX9_copy 71 = .ok (.iload 5, 2) := by decide +kernel
theorem dX9_copy_73 : decode cX9_copy 73 = .ok (.ifCond .lt 38, 3) := by decide +kernel
theorem dX9_copy_76 : decode cX9_copy 76 = .ok (.iload_n 2, 1) := by decide +kernel
theorem dX9_copy_77 : decode cX9_copy 77 = .ok (.i2l, 1) := by decide +kernel
theorem dX9_copy_78 : decode cX9_copy 78 = .ok (.iload 5, 2) := by decide +kernel
theorem dX9_copy_80 : decode cX9_copy 80 = .ok (.i2l, 1) := by decide +kernel
theorem dX9_copy_81 : decode cX9_copy 81 = .ok (.ladd, 1) := by decide +kernel
theorem dX9_copy_82 : decode cX9_copy 82 = .ok (.aload_n 0, 1) := by decide +kernel
theorem dX9_copy_83 : decode cX9_copy 83 = .ok (.getfield 98, 3) := by decide +kernel
theorem dX9_copy_86 : decode cX9_copy 86 = .ok (.iload_n 1, 1) := by decide +kernel
theorem dX9_copy_87 : decode cX9_copy 87 = .ok (.iaload, 1) := by decide +kernel
theorem dX9_copy_88 : decode cX9_copy 88 = .ok (.i2l, 1) := by decide +kernel
theorem dX9_copy_89 : decode cX9_copy 89 = .ok (.lcmp, 1) := by decide +kernel
theorem dX9_copy_90 : decode cX9_copy 90 = .ok (.ifCond .gt 21, 3) := by decide +kernel
theorem dX9_copy_93 : decode cX9_copy 93 = .ok (.iload 4, 2) := by decide +kernel
theorem dX9_copy_95 : decode cX9_copy 95 = .ok (.i2l, 1) := by decide +kernel
theorem dX9_copy_96 : decode cX9_copy 96 = .ok (.iload 5, 2) := by decide +kernel
theorem dX9_copy_98 : decode cX9_copy 98 = .ok (.i2l, 1) := by decide +kernel
theorem dX9_copy_99 : decode cX9_copy 99 = .ok (.ladd, 1) := by decide +kernel
theorem dX9_copy_100 : decode cX9_copy 100 = .ok (.aload_n 0, 1) := by decide +kernel
theorem dX9_copy_101 : decode cX9_copy 101 = .ok (.getfield 98, 3) := by decide +kernel
theorem dX9_copy_104 : decode cX9_copy 104 = .ok (.iload_n 3, 1) := by decide +kernel
theorem dX9_copy_105 : decode cX9_copy 105 = .ok (.iaload, 1) := by decide +kernel
theorem dX9_copy_106 : decode cX9_copy 106 = .ok (.i2l, 1) := by decide +kernel
theorem dX9_copy_107 : decode cX9_copy 107 = .ok (.lcmp, 1) := by decide +kernel
theorem dX9_copy_108 : decode cX9_copy 108 = .ok (.ifCond .le 9, 3) := by decide +kernel
theorem dX9_copy_111 : decode cX9_copy 111 = .ok (.aload_n 0, 1) := by decide +kernel
theorem dX9_copy_112 : decode cX9_copy 112 = .ok (.iconst 2, 1) := by decide +kernel
theorem dX9_copy_113 : decode cX9_copy 113 = .ok (.invokevirtual 166, 3) := by decide +kernel
theorem dX9_copy_116 : decode cX9_copy 116 = .ok (.ireturn, 1) := by decide +kernel
theorem dX9_copy_117 : decode cX9_copy 117 = .ok (.iconst 0, 1) := by decide +kernel
theorem dX9_copy_118 : decode cX9_copy 118 = .ok (.istore 6, 2) := by decide +kernel
theorem dX9_copy_120 : decode cX9_copy 120 = .ok (.iload 6, 2) := by decide +kernel
theorem dX9_copy_122 : decode cX9_copy 122 = .ok (.iload 5, 2) := by decide +kernel
theorem dX9_copy_124 : decode cX9_copy 124 = .ok (.if_icmp .ge 30, 3) := by decide +kernel
theorem dX9_copy_127 : decode cX9_copy 127 = .ok (.aload_n 0, 1) := by decide +kernel
theorem dX9_copy_128 : decode cX9_copy 128 = .ok (.getfield 104, 3) := by decide +kernel
theorem dX9_copy_131 : decode cX9_copy 131 = .ok (.iload 6, 2) := by decide +kernel
theorem dX9_copy_133 : decode cX9_copy 133 = .ok (.aload_n 0, 1) := by decide +kernel
theorem dX9_copy_134 : decode cX9_copy 134 = .ok (.getfield 101, 3) := by decide +kernel
theorem dX9_copy_137 : decode cX9_copy 137 = .ok (.bipush 60, 2) := by decide +kernel
theorem dX9_copy_139 : decode cX9_copy 139 = .ok (.iload_n 1, 1) := by decide +kernel
theorem dX9_copy_140 : decode cX9_copy 140 = .ok (.imul, 1) := by decide +kernel
theorem dX9_copy_141 : decode cX9_copy 141 = .ok (.iload_n 2, 1) := by decide +kernel
theorem dX9_copy_142 : decode cX9_copy 142 = .ok (.iadd, 1) := by decide +kernel
theorem dX9_copy_143 : decode cX9_copy 143 = .ok (.iload 6, 2) := by decide +kernel
theorem dX9_copy_145 : decode cX9_copy 145 = .ok (.iadd, 1) := by decide +kernel
theorem dX9_copy_146 : decode cX9_copy 146 = .ok (.iaload, 1) := by decide +kernel
theorem dX9_copy_147 : decode cX9_copy 147 = .ok (.iastore, 1) := by decide +kernel
theorem dX9_copy_148 : decode cX9_copy 148 = .ok (.iinc 6 1, 3) := by decide +kernel
theorem dX9_copy_151 : decode cX9_copy 151 = .ok (.goto (-31), 3) := by decide +kernel
theorem dX9_copy_154 : decode cX9_copy 154 = .ok (.iconst 0, 1) := by decide +kernel
theorem dX9_copy_155 : decode cX9_copy 155 = .ok (.istore 6, 2) := by decide +kernel
theorem dX9_copy_157 : decode cX9_copy 157 = .ok (.iload 6, 2) := by decide +kernel
theorem dX9_copy_159 : decode cX9_copy 159 = .ok (.iload 5, 2) := by decide +kernel
theorem dX9_copy_161 : decode cX9_copy 161 = .ok (.if_icmp .ge 31, 3) := by decide +kernel
theorem dX9_copy_164 : decode cX9_copy 164 = .ok (.aload_n 0, 1) := by decide +kernel
theorem dX9_copy_165 : decode cX9_copy 165 = .ok (.getfield 101, 3) := by decide +kernel
theorem dX9_copy_168 : decode cX9_copy 168 = .ok (.bipush 60, 2) := by decide +kernel
theorem dX9_copy_170 : decode cX9_copy 170 = .ok (.iload_n 3, 1) := by decide +kernel
theorem dX9_copy_171 : decode cX9_copy 171 = .ok (.imul, 1) := by decide +kernel
theorem dX9_copy_172 : decode cX9_copy 172 = .ok (.iload 4, 2) := by decide +kernel
theorem dX9_copy_174 : decode cX9_copy 174 = .ok (.iadd, 1) := by decide +kernel
theorem dX9_copy_175 : decode cX9_copy 175 = .ok (.iload 6, 2) := by decide +kernel
theorem dX9_copy_177 : decode cX9_copy 177 = .ok (.iadd, 1) := by decide +kernel
theorem dX9_copy_178 : decode cX9_copy 178 = .ok (.aload_n 0, 1) := by decide +kernel
theorem dX9_copy_179 : decode cX9_copy 179 = .ok (.getfield 104, 3) := by decide +kernel
theorem dX9_copy_182 : decode cX9_copy 182 = .ok (.iload 6, 2) := by decide +kernel
theorem dX9_copy_184 : decode cX9_copy 184 = .ok (.iaload, 1) := by decide +kernel
theorem dX9_copy_185 : decode cX9_copy 185 = .ok (.iastore, 1) := by decide +kernel
theorem dX9_copy_186 : decode cX9_copy 186 = .ok (.iinc 6 1, 3) := by decide +kernel
theorem dX9_copy_189 : decode cX9_copy 189 = .ok (.goto (-32), 3) := by decide +kernel
theorem dX9_copy_192 : decode cX9_copy 192 = .ok (.iconst 1, 1) := by decide +kernel
theorem dX9_copy_193 : decode cX9_copy 193 = .ok (.ireturn, 1) := by decide +kernel
theorem dX9_write_0 : decode cX9_write 0 = .ok (.iload_n 1, 1) := by decide +kernel
theorem dX9_write_1 : decode cX9_write 1 = .ok (.invokestatic 157, 3) := by decide +kernel
theorem dX9_write_4 : decode cX9_write 4 = .ok (.ifCond .eq 10, 3) := by decide +kernel
theorem dX9_write_7 : decode cX9_write 7 = .ok (.iload_n 2, 1) := by decide +kernel
theorem dX9_write_8 : decode cX9_write 8 = .ok (.invokestatic 163, 3) := by decide +kernel
theorem dX9_write_11 : decode cX9_write 11 = .ok (.ifCond .ne 6, 3) := by decide +kernel
theorem dX9_write_14 : decode cX9_write 14 = .ok (.bipush (-2), 2) := by decide +kernel
theorem dX9_write_16 : decode cX9_write 16 = .ok (.ireturn, 1) := by decide +kernel
theorem dX9_write_17 : decode cX9_write 17 = .ok (.aload_n 0, 1) := by decide +kernel
theorem dX9_write_18 : decode cX9_write 18 = .ok (.getfield 91, 3) := by decide +kernel
theorem dX9_write_21 : decode cX9_write 21 = .ok (.iload_n 2, 1) := by decide +kernel
theorem dX9_write_22 : decode cX9_write 22 = .ok (.baload, 1) := by decide +kernel
theorem dX9_write_23 : decode cX9_write 23 = .ok (.ifCond .ne 9, 3) := by decide +kernel
theorem dX9_write_26 : decode cX9_write 26 = .ok (.aload_n 0, 1) := by decide +kernel
theorem dX9_write_27 : decode cX9_write 27 = .ok (.iconst 1, 1) := by decide +kernel
theorem dX9_write_28 : decode cX9_write 28 = .ok (.invokevirtual 166, 3) := by decide +kernel
theorem dX9_write_31 : decode cX9_write 31 = .ok (.ireturn, 1) := by decide +kernel
theorem dX9_write_32 : decode cX9_write 32 = .ok (.aload_n 0, 1) := by decide +kernel
theorem dX9_write_33 : decode cX9_write 33 = .ok (.invokevirtual 267, 3) := by decide +kernel
theorem dX9_write_36 : decode cX9_write 36 = .ok (.iconst 0, 1) := by decide +kernel
theorem dX9_write_37 : decode cX9_write 37 = .ok (.istore_n 3, 1) := by decide +kernel
theorem dX9_write_38 : decode cX9_write 38 = .ok (.iload_n 3, 1) := by decide +kernel
theorem dX9_write_39 : decode cX9_write 39 = .ok (.aload_n 0, 1) := by decide +kernel
theorem dX9_write_40 : decode cX9_write 40 = .ok (.getfield 98, 3) := by decide +kernel
theorem dX9_write_43 : decode cX9_write 43 = .ok (.iload_n 2, 1) := by decide +kernel
theorem dX9_write_44 : decode cX9_write 44 = .ok (.iaload, 1) := by decide +kernel
theorem dX9_write_45 : decode cX9_write 45 = .ok (.if_icmp .ge 34, 3) := by decide +kernel
theorem dX9_write_48 : decode cX9_write 48 = .ok (.iload_n 3, 1) := by decide +kernel
theorem dX9_write_49 : decode cX9_write 49 = .ok (.aload_n 0, 1) := by decide +kernel
theorem dX9_write_50 : decode cX9_write 50 = .ok (.getfield 117, 3) := by decide +kernel
theorem dX9_write_53 : decode cX9_write 53 = .ok (.if_icmp .ge 26, 3) := by decide +kernel
theorem dX9_write_56 : decode cX9_write 56 = .ok (.aload_n 0, 1) := by decide +kernel
theorem dX9_write_57 : decode cX9_write 57 = .ok (.iload_n 2, 1) := by decide +kernel
theorem dX9_write_58 : decode cX9_write 58 = .ok (.iload_n 3, 1) := by decide +kernel
theorem dX9_write_59 : decode cX9_write 59 = .ok (.aload_n 0, 1) := by decide +kernel
theorem dX9_write_60 : decode cX9_write 60 = .ok (.getfield 67, 3) := by decide +kernel
theorem dX9_write_63 : decode cX9_write 63 = .ok (.bipush 12, 2) := by decide +kernel
theorem dX9_write_65 : decode cX9_write 65 = .ok (.iload_n 1, 1) := by decide +kernel
theorem dX9_write_66 : decode cX9_write 66 = .ok (.imul, 1) := by decide +kernel
theorem dX9_write_67 : decode cX9_write 67 = .ok (.iload_n 3, 1) := by decide +kernel
theorem dX9_write_68 : decode cX9_write 68 = .ok (.iadd, 1) := by decide +kernel
theorem dX9_write_69 : decode cX9_write 69 = .ok (.iaload, 1) := by decide +kernel
theorem dX9_write_70 : decode cX9_write 70 = .ok (.invokevirtual 380, 3) := by decide +kernel
theorem dX9_write_73 : decode cX9_write 73 = .ok (.iinc 3 1, 3) := by decide +kernel
theorem dX9_write_76 : decode cX9_write 76 = .ok (.goto (-38), 3) := by decide +kernel
theorem dX9_write_79 : decode cX9_write 79 = .ok (.iload_n 3, 1) := by decide +kernel
theorem dX9_write_80 : decode cX9_write 80 = .ok (.ireturn, 1) := by decide +kernel
theorem dX9_tellOf_0 : decode cX9_tellOf 0 = .ok (.aload_n 0, 1) := by decide +kernel
theorem dX9_tellOf_1 : decode cX9_tellOf 1 = .ok (.invokevirtual 142, 3) := by decide +kernel
theorem dX9_tellOf_4 : decode cX9_tellOf 4 = .ok (.iload_n 1, 1) := by decide +kernel
theorem dX9_tellOf_5 : decode cX9_tellOf 5 = .ok (.ifCond .ne 10, 3) := by decide +kernel
theorem dX9_tellOf_8 : decode cX9_tellOf 8 = .ok (.aload_n 0, 1) := by decide +kernel
theorem dX9_tellOf_9 : decode cX9_tellOf 9 = .ok (.getfield 117, 3) := by decide +kernel
theorem dX9_tellOf_12 : decode cX9_tellOf 12 = .ok (.goto 7, 3) := by decide +kernel
theorem dX9_tellOf_15 : decode cX9_tellOf 15 = .ok (.aload_n 0, 1) := by decide +kernel
theorem dX9_tellOf_16 : decode cX9_tellOf 16 = .ok (.getfield 125, 3) := by decide +kernel
theorem dX9_tellOf_19 : decode cX9_tellOf 19 = .ok (.ireturn, 1) := by decide +kernel
theorem dX9_count_0 : decode cX9_count 0 = .ok (.iload_n 1, 1) := by decide +kernel
theorem dX9_count_1 : decode cX9_count 1 = .ok (.tableswitch 93 0 8 #[51, 51, 57, 57, 66, 71, 77, 83, 88], 51) := by decide +kernel
theorem dX9_count_52 : decode cX9_count 52 = .ok (.aload_n 0, 1) := by decide +kernel
theorem dX9_count_53 : decode cX9_count 53 = .ok (.iload_n 1, 1) := by decide +kernel
theorem dX9_count_54 : decode cX9_count 54 = .ok (.invokevirtual 385, 3) := by decide +kernel
theorem dX9_count_57 : decode cX9_count 57 = .ok (.ireturn, 1) := by decide +kernel
theorem dX9_count_58 : decode cX9_count 58 = .ok (.aload_n 0, 1) := by decide +kernel
theorem dX9_count_59 : decode cX9_count 59 = .ok (.getfield 7, 3) := by decide +kernel
theorem dX9_count_62 : decode cX9_count 62 = .ok (.iload_n 1, 1) := by decide +kernel
theorem dX9_count_63 : decode cX9_count 63 = .ok (.iconst 2, 1) := by decide +kernel
theorem dX9_count_64 : decode cX9_count 64 = .ok (.isub, 1) := by decide +kernel
theorem dX9_count_65 : decode cX9_count 65 = .ok (.iaload, 1) := by decide +kernel
theorem dX9_count_66 : decode cX9_count 66 = .ok (.ireturn, 1) := by decide +kernel
theorem dX9_count_67 : decode cX9_count 67 = .ok (.aload_n 0, 1) := by decide +kernel
theorem dX9_count_68 : decode cX9_count 68 = .ok (.getfield 160, 3) := by decide +kernel
theorem dX9_count_71 : decode cX9_count 71 = .ok (.ireturn, 1) := by decide +kernel
theorem dX9_count_72 : decode cX9_count 72 = .ok (.aload_n 0, 1) := by decide +kernel
theorem dX9_count_73 : decode cX9_count 73 = .ok (.iconst 0, 1) := by decide +kernel
theorem dX9_count_74 : decode cX9_count 74 = .ok (.invokevirtual 285, 3) := by decide +kernel
theorem dX9_count_77 : decode cX9_count 77 = .ok (.ireturn, 1) := by decide +kernel
theorem dX9_count_78 : decode cX9_count 78 = .ok (.aload_n 0, 1) := by decide +kernel
theorem dX9_count_79 : decode cX9_count 79 = .ok (.iconst 2, 1) := by decide +kernel
theorem dX9_count_80 : decode cX9_count 80 = .ok (.invokevirtual 285, 3) := by decide +kernel
theorem dX9_count_83 : decode cX9_count 83 = .ok (.ireturn, 1) := by decide +kernel
theorem dX9_count_84 : decode cX9_count 84 = .ok (.aload_n 0, 1) := by decide +kernel
theorem dX9_count_85 : decode cX9_count 85 = .ok (.getfield 339, 3) := by decide +kernel
theorem dX9_count_88 : decode cX9_count 88 = .ok (.ireturn, 1) := by decide +kernel
theorem dX9_count_89 : decode cX9_count 89 = .ok (.aload_n 0, 1) := by decide +kernel
theorem dX9_count_90 : decode cX9_count 90 = .ok (.getfield 374, 3) := by decide +kernel
theorem dX9_count_93 : decode cX9_count 93 = .ok (.ireturn, 1) := by decide +kernel
theorem dX9_count_94 : decode cX9_count 94 = .ok (.bipush (-2), 2) := by decide +kernel
theorem dX9_count_96 : decode cX9_count 96 = .ok (.ireturn, 1) := by decide +kernel
theorem dX9_heatDigest_0 : decode cX9_heatDigest 0 = .ok (.ldc2_w 388, 3) := by decide +kernel
theorem dX9_heatDigest_3 : decode cX9_heatDigest 3 = .ok (.lload_n 1, 1) := by decide +kernel
theorem dX9_heatDigest_4 : decode cX9_heatDigest 4 = .ok (.lmul, 1) := by decide +kernel
theorem dX9_heatDigest_5 : decode cX9_heatDigest 5 = .ok (.aload_n 0, 1) := by decide +kernel
theorem dX9_heatDigest_6 : decode cX9_heatDigest 6 = .ok (.iload_n 3, 1) := by decide +kernel
theorem dX9_heatDigest_7 : decode cX9_heatDigest 7 = .ok (.iload 4, 2) := by decide +kernel
theorem dX9_heatDigest_9 : decode cX9_heatDigest 9 = .ok (.iconst 0, 1) := by decide +kernel
theorem dX9_heatDigest_10 : decode cX9_heatDigest 10 = .ok (.invokevirtual 270, 3) := by decide +kernel
theorem dX9_heatDigest_13 : decode cX9_heatDigest 13 = .ok (.i2l, 1) := by decide +kernel
theorem dX9_heatDigest_14 : decode cX9_heatDigest 14 = .ok (.ladd, 1) := by decide +kernel
theorem dX9_heatDigest_15 : decode cX9_heatDigest 15 = .ok (.lstore 5, 2) := by decide +kernel
theorem dX9_heatDigest_17 : decode cX9_heatDigest 17 = .ok (.ldc2_w 388, 3) := by decide +kernel
theorem dX9_heatDigest_20 : decode cX9_heatDigest 20 = .ok (.lload 5, 2) := by decide +kernel
theorem dX9_heatDigest_22 : decode cX9_heatDigest 22 = .ok (.lmul, 1) := by decide +kernel
theorem dX9_heatDigest_23 : decode cX9_heatDigest 23 = .ok (.aload_n 0, 1) := by decide +kernel
theorem dX9_heatDigest_24 : decode cX9_heatDigest 24 = .ok (.iload_n 3, 1) := by decide +kernel
theorem dX9_heatDigest_25 : decode cX9_heatDigest 25 = .ok (.iload 4, 2) := by decide +kernel
theorem dX9_heatDigest_27 : decode cX9_heatDigest 27 = .ok (.iconst 1, 1) := by decide +kernel
theorem dX9_heatDigest_28 : decode cX9_heatDigest 28 = .ok (.invokevirtual 270, 3) := by decide +kernel
theorem dX9_heatDigest_31 : decode cX9_heatDigest 31 = .ok (.i2l, 1) := by decide +kernel
theorem dX9_heatDigest_32 : decode cX9_heatDigest 32 = .ok (.ladd, 1) := by decide +kernel
theorem dX9_heatDigest_33 : decode cX9_heatDigest 33 = .ok (.lreturn, 1) := by decide +kernel
theorem dX9_thingDigest_0 : decode cX9_thingDigest 0 = .ok (.lload_n 1, 1) := by decide +kernel
theorem dX9_thingDigest_1 : decode cX9_thingDigest 1 = .ok (.lstore 4, 2) := by decide +kernel
theorem dX9_thingDigest_3 : decode cX9_thingDigest 3 = .ok (.iconst 0, 1) := by decide +kernel
theorem dX9_thingDigest_4 : decode cX9_thingDigest 4 = .ok (.istore 6, 2) := by decide +kernel
theorem dX9_thingDigest_6 : decode cX9_thingDigest 6 = .ok (.iload 6, 2) := by decide +kernel
theorem dX9_thingDigest_8 : decode cX9_thingDigest 8 = .ok (.iconst 3, 1) := by decide +kernel
theorem dX9_thingDigest_9 : decode cX9_thingDigest 9 = .ok (.if_icmp .ge 26, 3) := by decide +kernel
theorem dX9_thingDigest_12 : decode cX9_thingDigest 12 = .ok (.ldc2_w 388, 3) := by decide +kernel
theorem dX9_thingDigest_15 : decode cX9_thingDigest 15 = .ok (.lload 4, 2) := by decide +kernel
theorem dX9_thingDigest_17 : decode cX9_thingDigest 17 = .ok (.lmul, 1) := by decide +kernel
theorem dX9_thingDigest_18 : decode cX9_thingDigest 18 = .ok (.aload_n 0, 1) := by decide +kernel
theorem dX9_thingDigest_19 : decode cX9_thingDigest 19 = .ok (.iload_n 3, 1) := by decide +kernel
theorem dX9_thingDigest_20 : decode cX9_thingDigest 20 = .ok (.iload 6, 2) := by decide +kernel
theorem dX9_thingDigest_22 : decode cX9_thingDigest 22 = .ok (.invokevirtual 154, 3) := by decide +kernel
theorem dX9_thingDigest_25 : decode cX9_thingDigest 25 = .ok (.i2l, 1) := by decide +kernel
theorem dX9_thingDigest_26 : decode cX9_thingDigest 26 = .ok (.ladd, 1) := by decide +kernel
theorem dX9_thingDigest_27 : decode cX9_thingDigest 27 = .ok (.lstore 4, 2) := by decide +kernel
theorem dX9_thingDigest_29 : decode cX9_thingDigest 29 = .ok (.iinc 6 1, 3) := by decide +kernel
theorem dX9_thingDigest_32 : decode cX9_thingDigest 32 = .ok (.goto (-26), 3) := by decide +kernel
theorem dX9_thingDigest_35 : decode cX9_thingDigest 35 = .ok (.aload_n 0, 1) := by decide +kernel
theorem dX9_thingDigest_36 : decode cX9_thingDigest 36 = .ok (.lload 4, 2) := by decide +kernel
theorem dX9_thingDigest_38 : decode cX9_thingDigest 38 = .ok (.iconst 0, 1) := by decide +kernel
theorem dX9_thingDigest_39 : decode cX9_thingDigest 39 = .ok (.iload_n 3, 1) := by decide +kernel
theorem dX9_thingDigest_40 : decode cX9_thingDigest 40 = .ok (.invokevirtual 390, 3) := by decide +kernel
theorem dX9_thingDigest_43 : decode cX9_thingDigest 43 = .ok (.lstore 4, 2) := by decide +kernel
theorem dX9_thingDigest_45 : decode cX9_thingDigest 45 = .ok (.aload_n 0, 1) := by decide +kernel
theorem dX9_thingDigest_46 : decode cX9_thingDigest 46 = .ok (.lload 4, 2) := by decide +kernel
theorem dX9_thingDigest_48 : decode cX9_thingDigest 48 = .ok (.iconst 4, 1) := by decide +kernel
theorem dX9_thingDigest_49 : decode cX9_thingDigest 49 = .ok (.iload_n 3, 1) := by decide +kernel
theorem dX9_thingDigest_50 : decode cX9_thingDigest 50 = .ok (.invokevirtual 390, 3) := by decide +kernel
theorem dX9_thingDigest_53 : decode cX9_thingDigest 53 = .ok (.lstore 4, 2) := by decide +kernel
theorem dX9_thingDigest_55 : decode cX9_thingDigest 55 = .ok (.aload_n 0, 1) := by decide +kernel
theorem dX9_thingDigest_56 : decode cX9_thingDigest 56 = .ok (.lload 4, 2) := by decide +kernel
theorem dX9_thingDigest_58 : decode cX9_thingDigest 58 = .ok (.bipush 11, 2) := by decide +kernel
theorem dX9_thingDigest_60 : decode cX9_thingDigest 60 = .ok (.iload_n 3, 1) := by decide +kernel
theorem dX9_thingDigest_61 : decode cX9_thingDigest 61 = .ok (.invokevirtual 390, 3) := by decide +kernel
theorem dX9_thingDigest_64 : decode cX9_thingDigest 64 = .ok (.lstore 4, 2) := by decide +kernel
theorem dX9_thingDigest_66 : decode cX9_thingDigest 66 = .ok (.ldc2_w 388, 3) := by decide +kernel
theorem dX9_thingDigest_69 : decode cX9_thingDigest 69 = .ok (.lload 4, 2) := by decide +kernel
theorem dX9_thingDigest_71 : decode cX9_thingDigest 71 = .ok (.lmul, 1) := by decide +kernel
theorem dX9_thingDigest_72 : decode cX9_thingDigest 72 = .ok (.aload_n 0, 1) := by decide +kernel
theorem dX9_thingDigest_73 : decode cX9_thingDigest 73 = .ok (.iload_n 3, 1) := by decide +kernel
theorem dX9_thingDigest_74 : decode cX9_thingDigest 74 = .ok (.invokevirtual 279, 3) := by decide +kernel
theorem dX9_thingDigest_77 : decode cX9_thingDigest 77 = .ok (.i2l, 1) := by decide +kernel
theorem dX9_thingDigest_78 : decode cX9_thingDigest 78 = .ok (.ladd, 1) := by decide +kernel
theorem dX9_thingDigest_79 : decode cX9_thingDigest 79 = .ok (.lstore 4, 2) := by decide +kernel
theorem dX9_thingDigest_81 : decode cX9_thingDigest 81 = .ok (.ldc2_w 388, 3) := by decide +kernel
theorem dX9_thingDigest_84 : decode cX9_thingDigest 84 = .ok (.lload 4, 2) := by decide +kernel
theorem dX9_thingDigest_86 : decode cX9_thingDigest 86 = .ok (.lmul, 1) := by decide +kernel
theorem dX9_thingDigest_87 : decode cX9_thingDigest 87 = .ok (.aload_n 0, 1) := by decide +kernel
theorem dX9_thingDigest_88 : decode cX9_thingDigest 88 = .ok (.iload_n 3, 1) := by decide +kernel
theorem dX9_thingDigest_89 : decode cX9_thingDigest 89 = .ok (.invokevirtual 294, 3) := by decide +kernel
theorem dX9_thingDigest_92 : decode cX9_thingDigest 92 = .ok (.i2l, 1) := by decide +kernel
theorem dX9_thingDigest_93 : decode cX9_thingDigest 93 = .ok (.ladd, 1) := by decide +kernel
theorem dX9_thingDigest_94 : decode cX9_thingDigest 94 = .ok (.lstore 4, 2) := by decide +kernel
theorem dX9_thingDigest_96 : decode cX9_thingDigest 96 = .ok (.ldc2_w 388, 3) := by decide +kernel
theorem dX9_thingDigest_99 : decode cX9_thingDigest 99 = .ok (.lload 4, 2) := by decide +kernel
theorem dX9_thingDigest_101 : decode cX9_thingDigest 101 = .ok (.lmul, 1) := by decide +kernel
theorem dX9_thingDigest_102 : decode cX9_thingDigest 102 = .ok (.aload_n 0, 1) := by decide +kernel
theorem dX9_thingDigest_103 : decode cX9_thingDigest 103 = .ok (.iload_n 3, 1) := by decide +kernel
theorem dX9_thingDigest_104 : decode cX9_thingDigest 104 = .ok (.invokevirtual 349, 3) := by decide +kernel
theorem dX9_thingDigest_107 : decode cX9_thingDigest 107 = .ok (.i2l, 1) := by decide +kernel
theorem dX9_thingDigest_108 : decode cX9_thingDigest 108 = .ok (.ladd, 1) := by decide +kernel
theorem dX9_thingDigest_109 : decode cX9_thingDigest 109 = .ok (.lstore 4, 2) := by decide +kernel
theorem dX9_thingDigest_111 : decode cX9_thingDigest 111 = .ok (.ldc2_w 388, 3) := by decide +kernel
theorem dX9_thingDigest_114 : decode cX9_thingDigest 114 = .ok (.lload 4, 2) := by decide +kernel
theorem dX9_thingDigest_116 : decode cX9_thingDigest 116 = .ok (.lmul, 1) := by decide +kernel
theorem dX9_thingDigest_117 : decode cX9_thingDigest 117 = .ok (.aload_n 0, 1) := by decide +kernel
theorem dX9_thingDigest_118 : decode cX9_thingDigest 118 = .ok (.iload_n 3, 1) := by decide +kernel
theorem dX9_thingDigest_119 : decode cX9_thingDigest 119 = .ok (.invokevirtual 352, 3) := by decide +kernel
theorem dX9_thingDigest_122 : decode cX9_thingDigest 122 = .ok (.i2l, 1) := by decide +kernel
theorem dX9_thingDigest_123 : decode cX9_thingDigest 123 = .ok (.ladd, 1) := by decide +kernel
theorem dX9_thingDigest_124 : decode cX9_thingDigest 124 = .ok (.lstore 4, 2) := by decide +kernel
theorem dX9_thingDigest_126 : decode cX9_thingDigest 126 = .ok (.ldc2_w 388, 3) := by decide +kernel
theorem dX9_thingDigest_129 : decode cX9_thingDigest 129 = .ok (.lload 4, 2) := by decide +kernel
theorem dX9_thingDigest_131 : decode cX9_thingDigest 131 = .ok (.lmul, 1) := by decide +kernel
theorem dX9_thingDigest_132 : decode cX9_thingDigest 132 = .ok (.aload_n 0, 1) := by decide +kernel
theorem dX9_thingDigest_133 : decode cX9_thingDigest 133 = .ok (.iload_n 3, 1) := by decide +kernel
theorem dX9_thingDigest_134 : decode cX9_thingDigest 134 = .ok (.invokevirtual 355, 3) := by decide +kernel
theorem dX9_thingDigest_137 : decode cX9_thingDigest 137 = .ok (.i2l, 1) := by decide +kernel
theorem dX9_thingDigest_138 : decode cX9_thingDigest 138 = .ok (.ladd, 1) := by decide +kernel
theorem dX9_thingDigest_139 : decode cX9_thingDigest 139 = .ok (.lstore 4, 2) := by decide +kernel
theorem dX9_thingDigest_141 : decode cX9_thingDigest 141 = .ok (.ldc2_w 388, 3) := by decide +kernel
theorem dX9_thingDigest_144 : decode cX9_thingDigest 144 = .ok (.lload 4, 2) := by decide +kernel
theorem dX9_thingDigest_146 : decode cX9_thingDigest 146 = .ok (.lmul, 1) := by decide +kernel
theorem dX9_thingDigest_147 : decode cX9_thingDigest 147 = .ok (.aload_n 0, 1) := by decide +kernel
theorem dX9_thingDigest_148 : decode cX9_thingDigest 148 = .ok (.iconst 5, 1) := by decide +kernel
theorem dX9_thingDigest_149 : decode cX9_thingDigest 149 = .ok (.iload_n 3, 1) := by decide +kernel
theorem dX9_thingDigest_150 : decode cX9_thingDigest 150 = .ok (.iconst 0, 1) := by decide +kernel
theorem dX9_thingDigest_151 : decode cX9_thingDigest 151 = .ok (.invokevirtual 362, 3) := by decide +kernel
theorem dX9_thingDigest_154 : decode cX9_thingDigest 154 = .ok (.ladd, 1) := by decide +kernel
theorem dX9_thingDigest_155 : decode cX9_thingDigest 155 = .ok (.lstore 4, 2) := by decide +kernel
theorem dX9_thingDigest_157 : decode cX9_thingDigest 157 = .ok (.ldc2_w 388, 3) := by decide +kernel
theorem dX9_thingDigest_160 : decode cX9_thingDigest 160 = .ok (.lload 4, 2) := by decide +kernel
theorem dX9_thingDigest_162 : decode cX9_thingDigest 162 = .ok (.lmul, 1) := by decide +kernel
theorem dX9_thingDigest_163 : decode cX9_thingDigest 163 = .ok (.aload_n 0, 1) := by decide +kernel
theorem dX9_thingDigest_164 : decode cX9_thingDigest 164 = .ok (.iconst 5, 1) := by decide +kernel
theorem dX9_thingDigest_165 : decode cX9_thingDigest 165 = .ok (.iload_n 3, 1) := by decide +kernel
theorem dX9_thingDigest_166 : decode cX9_thingDigest 166 = .ok (.iconst 1, 1) := by decide +kernel
theorem dX9_thingDigest_167 : decode cX9_thingDigest 167 = .ok (.invokevirtual 362, 3) := by decide +kernel
theorem dX9_thingDigest_170 : decode cX9_thingDigest 170 = .ok (.ladd, 1) := by decide +kernel
theorem dX9_thingDigest_171 : decode cX9_thingDigest 171 = .ok (.lreturn, 1) := by decide +kernel
theorem dX9_digest_0 : decode cX9_digest 0 = .ok (.ldc2_w 394, 3) := by decide +kernel
theorem dX9_digest_3 : decode cX9_digest 3 = .ok (.lstore_n 1, 1) := by decide +kernel
theorem dX9_digest_4 : decode cX9_digest 4 = .ok (.iconst 0, 1) := by decide +kernel
theorem dX9_digest_5 : decode cX9_digest 5 = .ok (.istore_n 3, 1) := by decide +kernel
theorem dX9_digest_6 : decode cX9_digest 6 = .ok (.iload_n 3, 1) := by decide +kernel
theorem dX9_digest_7 : decode cX9_digest 7 = .ok (.bipush 8, 2) := by decide +kernel
theorem dX9_digest_9 : decode cX9_digest 9 = .ok (.if_icmp .ge 22, 3) := by decide +kernel
theorem dX9_digest_12 : decode cX9_digest 12 = .ok (.ldc2_w 388, 3) := by decide +kernel
theorem dX9_digest_15 : decode cX9_digest 15 = .ok (.lload_n 1, 1) := by decide +kernel
theorem dX9_digest_16 : decode cX9_digest 16 = .ok (.lmul, 1) := by decide +kernel
theorem dX9_digest_17 : decode cX9_digest 17 = .ok (.aload_n 0, 1) := by decide +kernel
theorem dX9_digest_18 : decode cX9_digest 18 = .ok (.iload_n 3, 1) := by decide +kernel
theorem dX9_digest_19 : decode cX9_digest 19 = .ok (.invokevirtual 396, 3) := by decide +kernel
theorem dX9_digest_22 : decode cX9_digest 22 = .ok (.i2l, 1) := by decide +kernel
theorem dX9_digest_23 : decode cX9_digest 23 = .ok (.ladd, 1) := by decide +kernel
theorem dX9_digest_24 : decode cX9_digest 24 = .ok (.lstore_n 1, 1) := by decide +kernel
theorem dX9_digest_25 : decode cX9_digest 25 = .ok (.iinc 3 1, 3) := by decide +kernel
theorem dX9_digest_28 : decode cX9_digest 28 = .ok (.goto (-22), 3) := by decide +kernel
theorem dX9_digest_31 : decode cX9_digest 31 = .ok (.ldc2_w 388, 3) := by decide +kernel
theorem dX9_digest_34 : decode cX9_digest 34 = .ok (.lload_n 1, 1) := by decide +kernel
theorem dX9_digest_35 : decode cX9_digest 35 = .ok (.lmul, 1) := by decide +kernel
theorem dX9_digest_36 : decode cX9_digest 36 = .ok (.aload_n 0, 1) := by decide +kernel
theorem dX9_digest_37 : decode cX9_digest 37 = .ok (.iconst 0, 1) := by decide +kernel
theorem dX9_digest_38 : decode cX9_digest 38 = .ok (.invokevirtual 138, 3) := by decide +kernel
theorem dX9_digest_41 : decode cX9_digest 41 = .ok (.i2l, 1) := by decide +kernel
theorem dX9_digest_42 : decode cX9_digest 42 = .ok (.ladd, 1) := by decide +kernel
theorem dX9_digest_43 : decode cX9_digest 43 = .ok (.lstore_n 1, 1) := by decide +kernel
theorem dX9_digest_44 : decode cX9_digest 44 = .ok (.ldc2_w 388, 3) := by decide +kernel
theorem dX9_digest_47 : decode cX9_digest 47 = .ok (.lload_n 1, 1) := by decide +kernel
theorem dX9_digest_48 : decode cX9_digest 48 = .ok (.lmul, 1) := by decide +kernel
theorem dX9_digest_49 : decode cX9_digest 49 = .ok (.aload_n 0, 1) := by decide +kernel
theorem dX9_digest_50 : decode cX9_digest 50 = .ok (.iconst 1, 1) := by decide +kernel
theorem dX9_digest_51 : decode cX9_digest 51 = .ok (.invokevirtual 138, 3) := by decide +kernel
theorem dX9_digest_54 : decode cX9_digest 54 = .ok (.i2l, 1) := by decide +kernel
theorem dX9_digest_55 : decode cX9_digest 55 = .ok (.ladd, 1) := by decide +kernel
theorem dX9_digest_56 : decode cX9_digest 56 = .ok (.lstore_n 1, 1) := by decide +kernel
theorem dX9_digest_57 : decode cX9_digest 57 = .ok (.iconst 0, 1) := by decide +kernel
theorem dX9_digest_58 : decode cX9_digest 58 = .ok (.istore_n 3, 1) := by decide +kernel
theorem dX9_digest_59 : decode cX9_digest 59 = .ok (.iload_n 3, 1) := by decide +kernel
theorem dX9_digest_60 : decode cX9_digest 60 = .ok (.aload_n 0, 1) := by decide +kernel
theorem dX9_digest_61 : decode cX9_digest 61 = .ok (.getfield 117, 3) := by decide +kernel
theorem dX9_digest_64 : decode cX9_digest 64 = .ok (.if_icmp .ge 66, 3) := by decide +kernel
theorem dX9_digest_67 : decode cX9_digest 67 = .ok (.ldc2_w 388, 3) := by decide +kernel
theorem dX9_digest_70 : decode cX9_digest 70 = .ok (.lload_n 1, 1) := by decide +kernel
theorem dX9_digest_71 : decode cX9_digest 71 = .ok (.lmul, 1) := by decide +kernel
theorem dX9_digest_72 : decode cX9_digest 72 = .ok (.aload_n 0, 1) := by decide +kernel
theorem dX9_digest_73 : decode cX9_digest 73 = .ok (.getfield 16, 3) := by decide +kernel
theorem dX9_digest_76 : decode cX9_digest 76 = .ok (.iload_n 3, 1) := by decide +kernel
theorem dX9_digest_77 : decode cX9_digest 77 = .ok (.iaload, 1) := by decide +kernel
theorem dX9_digest_78 : decode cX9_digest 78 = .ok (.i2l, 1) := by decide +kernel
theorem dX9_digest_79 : decode cX9_digest 79 = .ok (.ladd, 1) := by decide +kernel
theorem dX9_digest_80 : decode cX9_digest 80 = .ok (.lstore_n 1, 1) := by decide +kernel
theorem dX9_digest_81 : decode cX9_digest 81 = .ok (.ldc2_w 388, 3) := by decide +kernel
theorem dX9_digest_84 : decode cX9_digest 84 = .ok (.lload_n 1, 1) := by decide +kernel
theorem dX9_digest_85 : decode cX9_digest 85 = .ok (.lmul, 1) := by decide +kernel
theorem dX9_digest_86 : decode cX9_digest 86 = .ok (.aload_n 0, 1) := by decide +kernel
theorem dX9_digest_87 : decode cX9_digest 87 = .ok (.iconst 0, 1) := by decide +kernel
theorem dX9_digest_88 : decode cX9_digest 88 = .ok (.iload_n 3, 1) := by decide +kernel
theorem dX9_digest_89 : decode cX9_digest 89 = .ok (.invokevirtual 273, 3) := by decide +kernel
theorem dX9_digest_92 : decode cX9_digest 92 = .ok (.i2l, 1) := by decide +kernel
theorem dX9_digest_93 : decode cX9_digest 93 = .ok (.ladd, 1) := by decide +kernel
theorem dX9_digest_94 : decode cX9_digest 94 = .ok (.lstore_n 1, 1) := by decide +kernel
theorem dX9_digest_95 : decode cX9_digest 95 = .ok (.ldc2_w 388, 3) := by decide +kernel
theorem dX9_digest_98 : decode cX9_digest 98 = .ok (.lload_n 1, 1) := by decide +kernel
theorem dX9_digest_99 : decode cX9_digest 99 = .ok (.lmul, 1) := by decide +kernel
theorem dX9_digest_100 : decode cX9_digest 100 = .ok (.aload_n 0, 1) := by decide +kernel
theorem dX9_digest_101 : decode cX9_digest 101 = .ok (.iconst 3, 1) := by decide +kernel
theorem dX9_digest_102 : decode cX9_digest 102 = .ok (.iload_n 3, 1) := by decide +kernel
theorem dX9_digest_103 : decode cX9_digest 103 = .ok (.invokevirtual 273, 3) := by decide +kernel
theorem dX9_digest_106 : decode cX9_digest 106 = .ok (.i2l, 1) := by decide +kernel
theorem dX9_digest_107 : decode cX9_digest 107 = .ok (.ladd, 1) := by decide +kernel
theorem dX9_digest_108 : decode cX9_digest 108 = .ok (.lstore_n 1, 1) := by decide +kernel
theorem dX9_digest_109 : decode cX9_digest 109 = .ok (.ldc2_w 388, 3) := by decide +kernel
theorem dX9_digest_112 : decode cX9_digest 112 = .ok (.lload_n 1, 1) := by decide +kernel
theorem dX9_digest_113 : decode cX9_digest 113 = .ok (.lmul, 1) := by decide +kernel
theorem dX9_digest_114 : decode cX9_digest 114 = .ok (.aload_n 0, 1) := by decide +kernel
theorem dX9_digest_115 : decode cX9_digest 115 = .ok (.bipush 11, 2) := by decide +kernel
theorem dX9_digest_117 : decode cX9_digest 117 = .ok (.iload_n 3, 1) := by decide +kernel
theorem dX9_digest_118 : decode cX9_digest 118 = .ok (.invokevirtual 273, 3) := by decide +kernel
theorem dX9_digest_121 : decode cX9_digest 121 = .ok (.i2l, 1) := by decide +kernel
theorem dX9_digest_122 : decode cX9_digest 122 = .ok (.ladd, 1) := by decide +kernel
theorem dX9_digest_123 : decode cX9_digest 123 = .ok (.lstore_n 1, 1) := by decide +kernel
theorem dX9_digest_124 : decode cX9_digest 124 = .ok (.iinc 3 1, 3) := by decide +kernel
theorem dX9_digest_127 : decode cX9_digest 127 = .ok (.goto (-68), 3) := by decide +kernel
theorem dX9_digest_130 : decode cX9_digest 130 = .ok (.iconst 0, 1) := by decide +kernel
theorem dX9_digest_131 : decode cX9_digest 131 = .ok (.istore_n 3, 1) := by decide +kernel
theorem dX9_digest_132 : decode cX9_digest 132 = .ok (.iload_n 3, 1) := by decide +kernel
theorem dX9_digest_133 : decode cX9_digest 133 = .ok (.bipush 12, 2) := by decide +kernel
theorem dX9_digest_135 : decode cX9_digest 135 = .ok (.if_icmp .ge 69, 3) := by decide +kernel
theorem dX9_digest_138 : decode cX9_digest 138 = .ok (.iconst 0, 1) := by decide +kernel
theorem dX9_digest_139 : decode cX9_digest 139 = .ok (.istore 4, 2) := by decide +kernel
theorem dX9_digest_141 : decode cX9_digest 141 = .ok (.iload 4, 2) := by decide +kernel
theorem dX9_digest_143 : decode cX9_digest 143 = .ok (.iconst 4, 1) := by decide +kernel
theorem dX9_digest_144 : decode cX9_digest 144 = .ok (.if_icmp .ge 24, 3) := by decide +kernel
theorem dX9_digest_147 : decode cX9_digest 147 = .ok (.ldc2_w 388, 3) := by decide +kernel
theorem dX9_digest_150 : decode cX9_digest 150 = .ok (.lload_n 1, 1) := by decide +kernel
theorem dX9_digest_151 : decode cX9_digest 151 = .ok (.lmul, 1) := by decide +kernel
theorem dX9_digest_152 : decode cX9_digest 152 = .ok (.aload_n 0, 1) := by decide +kernel
theorem dX9_digest_153 : decode cX9_digest 153 = .ok (.iload_n 3, 1) := by decide +kernel
theorem dX9_digest_154 : decode cX9_digest 154 = .ok (.iload 4, 2) := by decide +kernel
theorem dX9_digest_156 : decode cX9_digest 156 = .ok (.invokevirtual 276, 3) := by decide +kernel
theorem dX9_digest_159 : decode cX9_digest 159 = .ok (.i2l, 1) := by decide +kernel
theorem dX9_digest_160 : decode cX9_digest 160 = .ok (.ladd, 1) := by decide +kernel
theorem dX9_digest_161 : decode cX9_digest 161 = .ok (.lstore_n 1, 1) := by decide +kernel
theorem dX9_digest_162 : decode cX9_digest 162 = .ok (.iinc 4 1, 3) := by decide +kernel
theorem dX9_digest_165 : decode cX9_digest 165 = .ok (.goto (-24), 3) := by decide +kernel
theorem dX9_digest_168 : decode cX9_digest 168 = .ok (.iconst 0, 1) := by decide +kernel
theorem dX9_digest_169 : decode cX9_digest 169 = .ok (.istore 4, 2) := by decide +kernel
theorem dX9_digest_171 : decode cX9_digest 171 = .ok (.iload 4, 2) := by decide +kernel
theorem dX9_digest_173 : decode cX9_digest 173 = .ok (.iconst 3, 1) := by decide +kernel
theorem dX9_digest_174 : decode cX9_digest 174 = .ok (.if_icmp .ge 24, 3) := by decide +kernel
theorem dX9_digest_177 : decode cX9_digest 177 = .ok (.ldc2_w 388, 3) := by decide +kernel
theorem dX9_digest_180 : decode cX9_digest 180 = .ok (.lload_n 1, 1) := by decide +kernel
theorem dX9_digest_181 : decode cX9_digest 181 = .ok (.lmul, 1) := by decide +kernel
theorem dX9_digest_182 : decode cX9_digest 182 = .ok (.aload_n 0, 1) := by decide +kernel
theorem dX9_digest_183 : decode cX9_digest 183 = .ok (.iload_n 3, 1) := by decide +kernel
theorem dX9_digest_184 : decode cX9_digest 184 = .ok (.iload 4, 2) := by decide +kernel
theorem dX9_digest_186 : decode cX9_digest 186 = .ok (.invokevirtual 327, 3) := by decide +kernel
theorem dX9_digest_189 : decode cX9_digest 189 = .ok (.i2l, 1) := by decide +kernel
theorem dX9_digest_190 : decode cX9_digest 190 = .ok (.ladd, 1) := by decide +kernel
theorem dX9_digest_191 : decode cX9_digest 191 = .ok (.lstore_n 1, 1) := by decide +kernel
theorem dX9_digest_192 : decode cX9_digest 192 = .ok (.iinc 4 1, 3) := by decide +kernel
theorem dX9_digest_195 : decode cX9_digest 195 = .ok (.goto (-24), 3) := by decide +kernel
theorem dX9_digest_198 : decode cX9_digest 198 = .ok (.iinc 3 1, 3) := by decide +kernel
theorem dX9_digest_201 : decode cX9_digest 201 = .ok (.goto (-69), 3) := by decide +kernel
theorem dX9_digest_204 : decode cX9_digest 204 = .ok (.iconst 0, 1) := by decide +kernel
theorem dX9_digest_205 : decode cX9_digest 205 = .ok (.istore_n 3, 1) := by decide +kernel
theorem dX9_digest_206 : decode cX9_digest 206 = .ok (.iload_n 3, 1) := by decide +kernel
theorem dX9_digest_207 : decode cX9_digest 207 = .ok (.aload_n 0, 1) := by decide +kernel
theorem dX9_digest_208 : decode cX9_digest 208 = .ok (.getfield 125, 3) := by decide +kernel
theorem dX9_digest_211 : decode cX9_digest 211 = .ok (.if_icmp .ge 16, 3) := by decide +kernel
theorem dX9_digest_214 : decode cX9_digest 214 = .ok (.aload_n 0, 1) := by decide +kernel
theorem dX9_digest_215 : decode cX9_digest 215 = .ok (.lload_n 1, 1) := by decide +kernel
theorem dX9_digest_216 : decode cX9_digest 216 = .ok (.iload_n 3, 1) := by decide +kernel
theorem dX9_digest_217 : decode cX9_digest 217 = .ok (.invokevirtual 399, 3) := by decide +kernel
theorem dX9_digest_220 : decode cX9_digest 220 = .ok (.lstore_n 1, 1) := by decide +kernel
theorem dX9_digest_221 : decode cX9_digest 221 = .ok (.iinc 3 1, 3) := by decide +kernel
theorem dX9_digest_224 : decode cX9_digest 224 = .ok (.goto (-18), 3) := by decide +kernel
theorem dX9_digest_227 : decode cX9_digest 227 = .ok (.iconst 0, 1) := by decide +kernel
theorem dX9_digest_228 : decode cX9_digest 228 = .ok (.istore_n 3, 1) := by decide +kernel
theorem dX9_digest_229 : decode cX9_digest 229 = .ok (.iload_n 3, 1) := by decide +kernel
theorem dX9_digest_230 : decode cX9_digest 230 = .ok (.iconst 4, 1) := by decide +kernel
theorem dX9_digest_231 : decode cX9_digest 231 = .ok (.if_icmp .ge 22, 3) := by decide +kernel
theorem dX9_digest_234 : decode cX9_digest 234 = .ok (.ldc2_w 388, 3) := by decide +kernel
theorem dX9_digest_237 : decode cX9_digest 237 = .ok (.lload_n 1, 1) := by decide +kernel
theorem dX9_digest_238 : decode cX9_digest 238 = .ok (.lmul, 1) := by decide +kernel
theorem dX9_digest_239 : decode cX9_digest 239 = .ok (.aload_n 0, 1) := by decide +kernel
theorem dX9_digest_240 : decode cX9_digest 240 = .ok (.iload_n 3, 1) := by decide +kernel
theorem dX9_digest_241 : decode cX9_digest 241 = .ok (.invokevirtual 285, 3) := by decide +kernel
theorem dX9_digest_244 : decode cX9_digest 244 = .ok (.i2l, 1) := by decide +kernel
theorem dX9_digest_245 : decode cX9_digest 245 = .ok (.ladd, 1) := by decide +kernel
theorem dX9_digest_246 : decode cX9_digest 246 = .ok (.lstore_n 1, 1) := by decide +kernel
theorem dX9_digest_247 : decode cX9_digest 247 = .ok (.iinc 3 1, 3) := by decide +kernel
theorem dX9_digest_250 : decode cX9_digest 250 = .ok (.goto (-21), 3) := by decide +kernel
theorem dX9_digest_253 : decode cX9_digest 253 = .ok (.ldc2_w 388, 3) := by decide +kernel
theorem dX9_digest_256 : decode cX9_digest 256 = .ok (.lload_n 1, 1) := by decide +kernel
theorem dX9_digest_257 : decode cX9_digest 257 = .ok (.lmul, 1) := by decide +kernel
theorem dX9_digest_258 : decode cX9_digest 258 = .ok (.aload_n 0, 1) := by decide +kernel
theorem dX9_digest_259 : decode cX9_digest 259 = .ok (.invokevirtual 288, 3) := by decide +kernel
theorem dX9_digest_262 : decode cX9_digest 262 = .ok (.i2l, 1) := by decide +kernel
theorem dX9_digest_263 : decode cX9_digest 263 = .ok (.ladd, 1) := by decide +kernel
theorem dX9_digest_264 : decode cX9_digest 264 = .ok (.lstore_n 1, 1) := by decide +kernel
theorem dX9_digest_265 : decode cX9_digest 265 = .ok (.ldc2_w 388, 3) := by decide +kernel
theorem dX9_digest_268 : decode cX9_digest 268 = .ok (.lload_n 1, 1) := by decide +kernel
theorem dX9_digest_269 : decode cX9_digest 269 = .ok (.lmul, 1) := by decide +kernel
theorem dX9_digest_270 : decode cX9_digest 270 = .ok (.aload_n 0, 1) := by decide +kernel
theorem dX9_digest_271 : decode cX9_digest 271 = .ok (.invokevirtual 291, 3) := by decide +kernel
theorem dX9_digest_274 : decode cX9_digest 274 = .ok (.i2l, 1) := by decide +kernel
theorem dX9_digest_275 : decode cX9_digest 275 = .ok (.ladd, 1) := by decide +kernel
theorem dX9_digest_276 : decode cX9_digest 276 = .ok (.lstore_n 1, 1) := by decide +kernel
theorem dX9_digest_277 : decode cX9_digest 277 = .ok (.ldc2_w 388, 3) := by decide +kernel
theorem dX9_digest_280 : decode cX9_digest 280 = .ok (.lload_n 1, 1) := by decide +kernel
theorem dX9_digest_281 : decode cX9_digest 281 = .ok (.lmul, 1) := by decide +kernel
theorem dX9_digest_282 : decode cX9_digest 282 = .ok (.aload_n 0, 1) := by decide +kernel
theorem dX9_digest_283 : decode cX9_digest 283 = .ok (.invokevirtual 297, 3) := by decide +kernel
theorem dX9_digest_286 : decode cX9_digest 286 = .ok (.i2l, 1) := by decide +kernel
theorem dX9_digest_287 : decode cX9_digest 287 = .ok (.ladd, 1) := by decide +kernel
theorem dX9_digest_288 : decode cX9_digest 288 = .ok (.lstore_n 1, 1) := by decide +kernel
theorem dX9_digest_289 : decode cX9_digest 289 = .ok (.iconst 0, 1) := by decide +kernel
theorem dX9_digest_290 : decode cX9_digest 290 = .ok (.istore_n 3, 1) := by decide +kernel
theorem dX9_digest_291 : decode cX9_digest 291 = .ok (.iload_n 3, 1) := by decide +kernel
theorem dX9_digest_292 : decode cX9_digest 292 = .ok (.iconst 4, 1) := by decide +kernel
theorem dX9_digest_293 : decode cX9_digest 293 = .ok (.if_icmp .ge 22, 3) := by decide +kernel
theorem dX9_digest_296 : decode cX9_digest 296 = .ok (.ldc2_w 388, 3) := by decide +kernel
theorem dX9_digest_299 : decode cX9_digest 299 = .ok (.lload_n 1, 1) := by decide +kernel
theorem dX9_digest_300 : decode cX9_digest 300 = .ok (.lmul, 1) := by decide +kernel
theorem dX9_digest_301 : decode cX9_digest 301 = .ok (.aload_n 0, 1) := by decide +kernel
theorem dX9_digest_302 : decode cX9_digest 302 = .ok (.iload_n 3, 1) := by decide +kernel
theorem dX9_digest_303 : decode cX9_digest 303 = .ok (.invokevirtual 318, 3) := by decide +kernel
theorem dX9_digest_306 : decode cX9_digest 306 = .ok (.i2l, 1) := by decide +kernel
theorem dX9_digest_307 : decode cX9_digest 307 = .ok (.ladd, 1) := by decide +kernel
theorem dX9_digest_308 : decode cX9_digest 308 = .ok (.lstore_n 1, 1) := by decide +kernel
theorem dX9_digest_309 : decode cX9_digest 309 = .ok (.iinc 3 1, 3) := by decide +kernel
theorem dX9_digest_312 : decode cX9_digest 312 = .ok (.goto (-21), 3) := by decide +kernel
theorem dX9_digest_315 : decode cX9_digest 315 = .ok (.ldc2_w 388, 3) := by decide +kernel
theorem dX9_digest_318 : decode cX9_digest 318 = .ok (.lload_n 1, 1) := by decide +kernel
theorem dX9_digest_319 : decode cX9_digest 319 = .ok (.lmul, 1) := by decide +kernel
theorem dX9_digest_320 : decode cX9_digest 320 = .ok (.aload_n 0, 1) := by decide +kernel
theorem dX9_digest_321 : decode cX9_digest 321 = .ok (.invokevirtual 321, 3) := by decide +kernel
theorem dX9_digest_324 : decode cX9_digest 324 = .ok (.i2l, 1) := by decide +kernel
theorem dX9_digest_325 : decode cX9_digest 325 = .ok (.ladd, 1) := by decide +kernel
theorem dX9_digest_326 : decode cX9_digest 326 = .ok (.lstore_n 1, 1) := by decide +kernel
theorem dX9_digest_327 : decode cX9_digest 327 = .ok (.aload_n 0, 1) := by decide +kernel
theorem dX9_digest_328 : decode cX9_digest 328 = .ok (.invokevirtual 333, 3) := by decide +kernel
theorem dX9_digest_331 : decode cX9_digest 331 = .ok (.istore_n 3, 1) := by decide +kernel
theorem dX9_digest_332 : decode cX9_digest 332 = .ok (.ldc2_w 388, 3) := by decide +kernel
theorem dX9_digest_335 : decode cX9_digest 335 = .ok (.lload_n 1, 1) := by decide +kernel
theorem dX9_digest_336 : decode cX9_digest 336 = .ok (.lmul, 1) := by decide +kernel
theorem dX9_digest_337 : decode cX9_digest 337 = .ok (.iload_n 3, 1) := by decide +kernel
theorem dX9_digest_338 : decode cX9_digest 338 = .ok (.i2l, 1) := by decide +kernel
theorem dX9_digest_339 : decode cX9_digest 339 = .ok (.ladd, 1) := by decide +kernel
theorem dX9_digest_340 : decode cX9_digest 340 = .ok (.lstore_n 1, 1) := by decide +kernel
theorem dX9_digest_341 : decode cX9_digest 341 = .ok (.ldc2_w 388, 3) := by decide +kernel
theorem dX9_digest_344 : decode cX9_digest 344 = .ok (.lload_n 1, 1) := by decide +kernel
theorem dX9_digest_345 : decode cX9_digest 345 = .ok (.lmul, 1) := by decide +kernel
theorem dX9_digest_346 : decode cX9_digest 346 = .ok (.aload_n 0, 1) := by decide +kernel
theorem dX9_digest_347 : decode cX9_digest 347 = .ok (.iload_n 3, 1) := by decide +kernel
theorem dX9_digest_348 : decode cX9_digest 348 = .ok (.iconst 0, 1) := by decide +kernel
theorem dX9_digest_349 : decode cX9_digest 349 = .ok (.invokevirtual 336, 3) := by decide +kernel
theorem dX9_digest_352 : decode cX9_digest 352 = .ok (.i2l, 1) := by decide +kernel
theorem dX9_digest_353 : decode cX9_digest 353 = .ok (.ladd, 1) := by decide +kernel
theorem dX9_digest_354 : decode cX9_digest 354 = .ok (.lstore_n 1, 1) := by decide +kernel
theorem dX9_digest_355 : decode cX9_digest 355 = .ok (.ldc2_w 388, 3) := by decide +kernel
theorem dX9_digest_358 : decode cX9_digest 358 = .ok (.lload_n 1, 1) := by decide +kernel
theorem dX9_digest_359 : decode cX9_digest 359 = .ok (.lmul, 1) := by decide +kernel
theorem dX9_digest_360 : decode cX9_digest 360 = .ok (.aload_n 0, 1) := by decide +kernel
theorem dX9_digest_361 : decode cX9_digest 361 = .ok (.invokevirtual 346, 3) := by decide +kernel
theorem dX9_digest_364 : decode cX9_digest 364 = .ok (.i2l, 1) := by decide +kernel
theorem dX9_digest_365 : decode cX9_digest 365 = .ok (.ladd, 1) := by decide +kernel
theorem dX9_digest_366 : decode cX9_digest 366 = .ok (.lstore_n 1, 1) := by decide +kernel
theorem dX9_digest_367 : decode cX9_digest 367 = .ok (.ldc2_w 388, 3) := by decide +kernel
theorem dX9_digest_370 : decode cX9_digest 370 = .ok (.lload_n 1, 1) := by decide +kernel
theorem dX9_digest_371 : decode cX9_digest 371 = .ok (.lmul, 1) := by decide +kernel
theorem dX9_digest_372 : decode cX9_digest 372 = .ok (.aload_n 0, 1) := by decide +kernel
theorem dX9_digest_373 : decode cX9_digest 373 = .ok (.bipush 7, 2) := by decide +kernel
theorem dX9_digest_375 : decode cX9_digest 375 = .ok (.bipush 6, 2) := by decide +kernel
theorem dX9_digest_377 : decode cX9_digest 377 = .ok (.iconst 0, 1) := by decide +kernel
theorem dX9_digest_378 : decode cX9_digest 378 = .ok (.invokevirtual 371, 3) := by decide +kernel
theorem dX9_digest_381 : decode cX9_digest 381 = .ok (.i2l, 1) := by decide +kernel
theorem dX9_digest_382 : decode cX9_digest 382 = .ok (.ladd, 1) := by decide +kernel
theorem dX9_digest_383 : decode cX9_digest 383 = .ok (.lstore_n 1, 1) := by decide +kernel
theorem dX9_digest_384 : decode cX9_digest 384 = .ok (.ldc2_w 388, 3) := by decide +kernel
theorem dX9_digest_387 : decode cX9_digest 387 = .ok (.lload_n 1, 1) := by decide +kernel
theorem dX9_digest_388 : decode cX9_digest 388 = .ok (.lmul, 1) := by decide +kernel
theorem dX9_digest_389 : decode cX9_digest 389 = .ok (.aload_n 0, 1) := by decide +kernel
theorem dX9_digest_390 : decode cX9_digest 390 = .ok (.bipush 7, 2) := by decide +kernel
theorem dX9_digest_392 : decode cX9_digest 392 = .ok (.bipush 6, 2) := by decide +kernel
theorem dX9_digest_394 : decode cX9_digest 394 = .ok (.iconst 1, 1) := by decide +kernel
theorem dX9_digest_395 : decode cX9_digest 395 = .ok (.invokevirtual 371, 3) := by decide +kernel
theorem dX9_digest_398 : decode cX9_digest 398 = .ok (.i2l, 1) := by decide +kernel
theorem dX9_digest_399 : decode cX9_digest 399 = .ok (.ladd, 1) := by decide +kernel
theorem dX9_digest_400 : decode cX9_digest 400 = .ok (.lreturn, 1) := by decide +kernel
