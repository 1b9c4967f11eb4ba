theorem dX8_init_0 : decode cX8_init 0 = .ok (.aload_n 0, 1) := by decide +kernel
theorem dX8_init_1 : decode cX8_init 1 = .ok (.invokespecial 1, 3) := by decide +kernel
theorem dX8_init_4 : decode cX8_init 4 = .ok (.aload_n 0, 1) := by decide +kernel
theorem dX8_init_5 : decode cX8_init 5 = .ok (.bipush 12, 2) := by decide +kernel
theorem dX8_init_7 : decode cX8_init 7 = .ok (.putfield 7, 3) := by decide +kernel
theorem dX8_init_10 : decode cX8_init 10 = .ok (.aload_n 0, 1) := by decide +kernel
theorem dX8_init_11 : decode cX8_init 11 = .ok (.iconst 4, 1) := by decide +kernel
theorem dX8_init_12 : decode cX8_init 12 = .ok (.newarray .int, 2) := by decide +kernel
theorem dX8_init_14 : decode cX8_init 14 = .ok (.putfield 13, 3) := by decide +kernel
theorem dX8_init_17 : decode cX8_init 17 = .ok (.aload_n 0, 1) := by decide +kernel
theorem dX8_init_18 : decode cX8_init 18 = .ok (.iconst 4, 1) := by decide +kernel
theorem dX8_init_19 : decode cX8_init 19 = .ok (.newarray .int, 2) := by decide +kernel
theorem dX8_init_21 : decode cX8_init 21 = .ok (.putfield 17, 3) := by decide +kernel
theorem dX8_init_24 : decode cX8_init 24 = .ok (.aload_n 0, 1) := by decide +kernel
theorem dX8_init_25 : decode cX8_init 25 = .ok (.bipush 6, 2) := by decide +kernel
theorem dX8_init_27 : decode cX8_init 27 = .ok (.newarray .int, 2) := by decide +kernel
theorem dX8_init_29 : decode cX8_init 29 = .ok (.putfield 20, 3) := by decide +kernel
theorem dX8_init_32 : decode cX8_init 32 = .ok (.aload_n 0, 1) := by decide +kernel
theorem dX8_init_33 : decode cX8_init 33 = .ok (.bipush 6, 2) := by decide +kernel
theorem dX8_init_35 : decode cX8_init 35 = .ok (.newarray .int, 2) := by decide +kernel
theorem dX8_init_37 : decode cX8_init 37 = .ok (.putfield 23, 3) := by decide +kernel
theorem dX8_init_40 : decode cX8_init 40 = .ok (.aload_n 0, 1) := by decide +kernel
theorem dX8_init_41 : decode cX8_init 41 = .ok (.bipush 6, 2) := by decide +kernel
theorem dX8_init_43 : decode cX8_init 43 = .ok (.newarray .int, 2) := by decide +kernel
theorem dX8_init_45 : decode cX8_init 45 = .ok (.putfield 26, 3) := by decide +kernel
theorem dX8_init_48 : decode cX8_init 48 = .ok (.aload_n 0, 1) := by decide +kernel
theorem dX8_init_49 : decode cX8_init 49 = .ok (.bipush 7, 2) := by decide +kernel
theorem dX8_init_51 : decode cX8_init 51 = .ok (.newarray .int, 2) := by decide +kernel
theorem dX8_init_53 : decode cX8_init 53 = .ok (.putfield 29, 3) := by decide +kernel
theorem dX8_init_56 : decode cX8_init 56 = .ok (.aload_n 0, 1) := by decide +kernel
theorem dX8_init_57 : decode cX8_init 57 = .ok (.iconst 4, 1) := by decide +kernel
theorem dX8_init_58 : decode cX8_init 58 = .ok (.newarray .int, 2) := by decide +kernel
theorem dX8_init_60 : decode cX8_init 60 = .ok (.putfield 32, 3) := by decide +kernel
theorem dX8_init_63 : decode cX8_init 63 = .ok (.aload_n 0, 1) := by decide +kernel
theorem dX8_init_64 : decode cX8_init 64 = .ok (.iconst 4, 1) := by decide +kernel
theorem dX8_init_65 : decode cX8_init 65 = .ok (.newarray .int, 2) := by decide +kernel
theorem dX8_init_67 : decode cX8_init 67 = .ok (.putfield 35, 3) := by decide +kernel
theorem dX8_init_70 : decode cX8_init 70 = .ok (.aload_n 0, 1) := by decide +kernel
theorem dX8_init_71 : decode cX8_init 71 = .ok (.bipush 7, 2) := by decide +kernel
theorem dX8_init_73 : decode cX8_init 73 = .ok (.newarray .int, 2) := by decide +kernel
theorem dX8_init_75 : decode cX8_init 75 = .ok (.putfield 38, 3) := by decide +kernel
theorem dX8_init_78 : decode cX8_init 78 = .ok (.aload_n 0, 1) := by decide +kernel
theorem dX8_init_79 : decode cX8_init 79 = .ok (.bipush 7, 2) := by decide +kernel
theorem dX8_init_81 : decode cX8_init 81 = .ok (.newarray .int, 2) := by decide +kernel
theorem dX8_init_83 : decode cX8_init 83 = .ok (.putfield 41, 3) := by decide +kernel
theorem dX8_init_86 : decode cX8_init 86 = .ok (.aload_n 0, 1) := by decide +kernel
theorem dX8_init_87 : decode cX8_init 87 = .ok (.bipush 6, 2) := by decide +kernel
theorem dX8_init_89 : decode cX8_init 89 = .ok (.newarray .int, 2) := by decide +kernel
theorem dX8_init_91 : decode cX8_init 91 = .ok (.putfield 44, 3) := by decide +kernel
theorem dX8_init_94 : decode cX8_init 94 = .ok (.aload_n 0, 1) := by decide +kernel
theorem dX8_init_95 : decode cX8_init 95 = .ok (.sipush 500, 3) := by decide +kernel
theorem dX8_init_98 : decode cX8_init 98 = .ok (.newarray .int, 2) := by decide +kernel
theorem dX8_init_100 : decode cX8_init 100 = .ok (.putfield 47, 3) := by decide +kernel
theorem dX8_init_103 : decode cX8_init 103 = .ok (.aload_n 0, 1) := by decide +kernel
theorem dX8_init_104 : decode cX8_init 104 = .ok (.iconst (-1), 1) := by decide +kernel
theorem dX8_init_105 : decode cX8_init 105 = .ok (.putfield 50, 3) := by decide +kernel
theorem dX8_init_108 : decode cX8_init 108 = .ok (.aload_n 0, 1) := by decide +kernel
theorem dX8_init_109 : decode cX8_init 109 = .ok (.iconst 4, 1) := by decide +kernel
theorem dX8_init_110 : decode cX8_init 110 = .ok (.newarray .int, 2) := by decide +kernel
theorem dX8_init_112 : decode cX8_init 112 = .ok (.putfield 53, 3) := by decide +kernel
theorem dX8_init_115 : decode cX8_init 115 = .ok (.aload_n 0, 1) := by decide +kernel
theorem dX8_init_116 : decode cX8_init 116 = .ok (.iconst 4, 1) := by decide +kernel
theorem dX8_init_117 : decode cX8_init 117 = .ok (.newarray .int, 2) := by decide +kernel
theorem dX8_init_119 : decode cX8_init 119 = .ok (.putfield 56, 3) := by decide +kernel
theorem dX8_init_122 : decode cX8_init 122 = .ok (.aload_n 0, 1) := by decide +kernel
theorem dX8_init_123 : decode cX8_init 123 = .ok (.bipush 6, 2) := by decide +kernel
theorem dX8_init_125 : decode cX8_init 125 = .ok (.newarray .int, 2) := by decide +kernel
theorem dX8_init_127 : decode cX8_init 127 = .ok (.putfield 59, 3) := by decide +kernel
theorem dX8_init_130 : decode cX8_init 130 = .ok (.aload_n 0, 1) := by decide +kernel
theorem dX8_init_131 : decode cX8_init 131 = .ok (.bipush 6, 2) := by decide +kernel
theorem dX8_init_133 : decode cX8_init 133 = .ok (.newarray .int, 2) := by decide +kernel
theorem dX8_init_135 : decode cX8_init 135 = .ok (.putfield 62, 3) := by decide +kernel
theorem dX8_init_138 : decode cX8_init 138 = .ok (.aload_n 0, 1) := by decide +kernel
theorem dX8_init_139 : decode cX8_init 139 = .ok (.bipush 6, 2) := by decide +kernel
theorem dX8_init_141 : decode cX8_init 141 = .ok (.newarray .int, 2) := by decide +kernel
theorem dX8_init_143 : decode cX8_init 143 = .ok (.putfield 65, 3) := by decide +kernel
theorem dX8_init_146 : decode cX8_init 146 = .ok (.aload_n 0, 1) := by decide +kernel
theorem dX8_init_147 : decode cX8_init 147 = .ok (.bipush 6, 2) := by decide +kernel
theorem dX8_init_149 : decode cX8_init 149 = .ok (.newarray .int, 2) := by decide +kernel
theorem dX8_init_151 : decode cX8_init 151 = .ok (.putfield 68, 3) := by decide +kernel
theorem dX8_init_154 : decode cX8_init 154 = .ok (.aload_n 0, 1) := by decide +kernel
theorem dX8_init_155 : decode cX8_init 155 = .ok (.iconst 4, 1) := by decide +kernel
theorem dX8_init_156 : decode cX8_init 156 = .ok (.newarray .int, 2) := by decide +kernel
theorem dX8_init_158 : decode cX8_init 158 = .ok (.putfield 71, 3) := by decide +kernel
theorem dX8_init_161 : decode cX8_init 161 = .ok (.aload_n 0, 1) := by decide +kernel
theorem dX8_init_162 : decode cX8_init 162 = .ok (.iconst 4, 1) := by decide +kernel
theorem dX8_init_163 : decode cX8_init 163 = .ok (.newarray .int, 2) := by decide +kernel
theorem dX8_init_165 : decode cX8_init 165 = .ok (.putfield 74, 3) := by decide +kernel
theorem dX8_init_168 : decode cX8_init 168 = .ok (.aload_n 0, 1) := by decide +kernel
theorem dX8_init_169 : decode cX8_init 169 = .ok (.bipush 7, 2) := by decide +kernel
theorem dX8_init_171 : decode cX8_init 171 = .ok (.newarray .int, 2) := by decide +kernel
theorem dX8_init_173 : decode cX8_init 173 = .ok (.putfield 77, 3) := by decide +kernel
theorem dX8_init_176 : decode cX8_init 176 = .ok (.aload_n 0, 1) := by decide +kernel
theorem dX8_init_177 : decode cX8_init 177 = .ok (.bipush 7, 2) := by decide +kernel
theorem dX8_init_179 : decode cX8_init 179 = .ok (.newarray .int, 2) := by decide +kernel
theorem dX8_init_181 : decode cX8_init 181 = .ok (.putfield 80, 3) := by decide +kernel
theorem dX8_init_184 : decode cX8_init 184 = .ok (.aload_n 0, 1) := by decide +kernel
theorem dX8_init_185 : decode cX8_init 185 = .ok (.bipush 6, 2) := by decide +kernel
theorem dX8_init_187 : decode cX8_init 187 = .ok (.newarray .int, 2) := by decide +kernel
theorem dX8_init_189 : decode cX8_init 189 = .ok (.putfield 83, 3) := by decide +kernel
theorem dX8_init_192 : decode cX8_init 192 = .ok (.aload_n 0, 1) := by decide +kernel
theorem dX8_init_193 : decode cX8_init 193 = .ok (.bipush 6, 2) := by decide +kernel
theorem dX8_init_195 : decode cX8_init 195 = .ok (.newarray .int, 2) := by decide +kernel
theorem dX8_init_197 : decode cX8_init 197 = .ok (.putfield 86, 3) := by decide +kernel
theorem dX8_init_200 : decode cX8_init 200 = .ok (.aload_n 0, 1) := by decide +kernel
theorem dX8_init_201 : decode cX8_init 201 = .ok (.bipush 6, 2) := by decide +kernel
theorem dX8_init_203 : decode cX8_init 203 = .ok (.newarray .int, 2) := by decide +kernel
theorem dX8_init_205 : decode cX8_init 205 = .ok (.putfield 89, 3) := by decide +kernel
theorem dX8_init_208 : decode cX8_init 208 = .ok (.aload_n 0, 1) := by decide +kernel
theorem dX8_init_209 : decode cX8_init 209 = .ok (.bipush 10, 2) := by decide +kernel
theorem dX8_init_211 : decode cX8_init 211 = .ok (.newarray .int, 2) := by decide +kernel
theorem dX8_init_213 : decode cX8_init 213 = .ok (.putfield 92, 3) := by decide +kernel
theorem dX8_init_216 : decode cX8_init 216 = .ok (.aload_n 0, 1) := by decide +kernel
theorem dX8_init_217 : decode cX8_init 217 = .ok (.bipush 10, 2) := by decide +kernel
theorem dX8_init_219 : decode cX8_init 219 = .ok (.newarray .int, 2) := by decide +kernel
theorem dX8_init_221 : decode cX8_init 221 = .ok (.putfield 95, 3) := by decide +kernel
theorem dX8_init_224 : decode cX8_init 224 = .ok (.aload_n 0, 1) := by decide +kernel
theorem dX8_init_225 : decode cX8_init 225 = .ok (.bipush 10, 2) := by decide +kernel
theorem dX8_init_227 : decode cX8_init 227 = .ok (.newarray .int, 2) := by decide +kernel
theorem dX8_init_229 : decode cX8_init 229 = .ok (.putfield 98, 3) := by decide +kernel
theorem dX8_init_232 : decode cX8_init 232 = .ok (.aload_n 0, 1) := by decide +kernel
theorem dX8_init_233 : decode cX8_init 233 = .ok (.bipush 30, 2) := by decide +kernel
theorem dX8_init_235 : decode cX8_init 235 = .ok (.newarray .int, 2) := by decide +kernel
theorem dX8_init_237 : decode cX8_init 237 = .ok (.putfield 101, 3) := by decide +kernel
theorem dX8_init_240 : decode cX8_init 240 = .ok (.aload_n 0, 1) := by decide +kernel
theorem dX8_init_241 : decode cX8_init 241 = .ok (.bipush 30, 2) := by decide +kernel
theorem dX8_init_243 : decode cX8_init 243 = .ok (.newarray .int, 2) := by decide +kernel
theorem dX8_init_245 : decode cX8_init 245 = .ok (.putfield 104, 3) := by decide +kernel
theorem dX8_init_248 : decode cX8_init 248 = .ok (.aload_n 0, 1) := by decide +kernel
theorem dX8_init_249 : decode cX8_init 249 = .ok (.bipush 30, 2) := by decide +kernel
theorem dX8_init_251 : decode cX8_init 251 = .ok (.newarray .int, 2) := by decide +kernel
theorem dX8_init_253 : decode cX8_init 253 = .ok (.putfield 107, 3) := by decide +kernel
theorem dX8_init_256 : decode cX8_init 256 = .ok (.aload_n 0, 1) := by decide +kernel
theorem dX8_init_257 : decode cX8_init 257 = .ok (.bipush 50, 2) := by decide +kernel
theorem dX8_init_259 : decode cX8_init 259 = .ok (.newarray .int, 2) := by decide +kernel
theorem dX8_init_261 : decode cX8_init 261 = .ok (.putfield 110, 3) := by decide +kernel
theorem dX8_init_264 : decode cX8_init 264 = .ok (.aload_n 0, 1) := by decide +kernel
theorem dX8_init_265 : decode cX8_init 265 = .ok (.iconst 2, 1) := by decide +kernel
theorem dX8_init_266 : decode cX8_init 266 = .ok (.newarray .boolean, 2) := by decide +kernel
theorem dX8_init_268 : decode cX8_init 268 = .ok (.putfield 113, 3) := by decide +kernel
theorem dX8_init_271 : decode cX8_init 271 = .ok (.aload_n 0, 1) := by decide +kernel
theorem dX8_init_272 : decode cX8_init 272 = .ok (.iconst 0, 1) := by decide +kernel
theorem dX8_init_273 : decode cX8_init 273 = .ok (.putfield 117, 3) := by decide +kernel
theorem dX8_init_276 : decode cX8_init 276 = .ok (.return_, 1) := by decide +kernel
theorem dX8_in_0 : decode cX8_in 0 = .ok (.lload_n 0, 1) := by decide +kernel
theorem dX8_in_1 : decode cX8_in 1 = .ok (.lload_n 2, 1) := by decide +kernel
theorem dX8_in_2 : decode cX8_in 2 = .ok (.lcmp, 1) := by decide +kernel
theorem dX8_in_3 : decode cX8_in 3 = .ok (.ifCond .lt 14, 3) := by decide +kernel
theorem dX8_in_6 : decode cX8_in 6 = .ok (.lload_n 0, 1) := by decide +kernel
theorem dX8_in_7 : decode cX8_in 7 = .ok (.lload 4, 2) := by decide +kernel
theorem dX8_in_9 : decode cX8_in 9 = .ok (.lcmp, 1) := by decide +kernel
theorem dX8_in_10 : decode cX8_in 10 = .ok (.ifCond .gt 7, 3) := by decide +kernel
theorem dX8_in_13 : decode cX8_in 13 = .ok (.iconst 1, 1) := by decide +kernel
theorem dX8_in_14 : decode cX8_in 14 = .ok (.goto 4, 3) := by decide +kernel
theorem dX8_in_17 : decode cX8_in 17 = .ok (.iconst 0, 1) := by decide +kernel
theorem dX8_in_18 : decode cX8_in 18 = .ok (.ireturn, 1) := by decide +kernel
theorem dX8_isBell_0 : decode cX8_isBell 0 = .ok (.iload_n 1, 1) := by decide +kernel
theorem dX8_isBell_1 : decode cX8_isBell 1 = .ok (.i2l, 1) := by decide +kernel
theorem dX8_isBell_2 : decode cX8_isBell 2 = .ok (.lconst 0, 1) := by decide +kernel
theorem dX8_isBell_3 : decode cX8_isBell 3 = .ok (.aload_n 0, 1) := by decide +kernel
theorem dX8_isBell_4 : decode cX8_isBell 4 = .ok (.getfield 120, 3) := by decide +kernel
theorem dX8_isBell_7 : decode cX8_isBell 7 = .ok (.iconst 1, 1) := by decide +kernel
theorem dX8_isBell_8 : decode cX8_isBell 8 = .ok (.isub, 1) := by decide +kernel
theorem dX8_isBell_9 : decode cX8_isBell 9 = .ok (.i2l, 1) := by decide +kernel
theorem dX8_isBell_10 : decode cX8_isBell 10 = .ok (.invokestatic 123, 3) := by decide +kernel
theorem dX8_isBell_13 : decode cX8_isBell 13 = .ok (.ireturn, 1) := by decide +kernel
theorem dX8_isSpot_0 : decode cX8_isSpot 0 = .ok (.iload_n 1, 1) := by decide +kernel
theorem dX8_isSpot_1 : decode cX8_isSpot 1 = .ok (.i2l, 1) := by decide +kernel
theorem dX8_isSpot_2 : decode cX8_isSpot 2 = .ok (.lconst 0, 1) := by decide +kernel
theorem dX8_isSpot_3 : decode cX8_isSpot 3 = .ok (.aload_n 0, 1) := by decide +kernel
theorem dX8_isSpot_4 : decode cX8_isSpot 4 = .ok (.getfield 117, 3) := by decide +kernel
theorem dX8_isSpot_7 : decode cX8_isSpot 7 = .ok (.iconst 1, 1) := by decide +kernel
theorem dX8_isSpot_8 : decode cX8_isSpot 8 = .ok (.isub, 1) := by decide +kernel
theorem dX8_isSpot_9 : decode cX8_isSpot 9 = .ok (.i2l, 1) := by decide +kernel
theorem dX8_isSpot_10 : decode cX8_isSpot 10 = .ok (.invokestatic 123, 3) := by decide +kernel
theorem dX8_isSpot_13 : decode cX8_isSpot 13 = .ok (.ireturn, 1) := by decide +kernel
theorem dX8_isBeggar_0 : decode cX8_isBeggar 0 = .ok (.iload_n 1, 1) := by decide +kernel
theorem dX8_isBeggar_1 : decode cX8_isBeggar 1 = .ok (.i2l, 1) := by decide +kernel
theorem dX8_isBeggar_2 : decode cX8_isBeggar 2 = .ok (.lconst 0, 1) := by decide +kernel
theorem dX8_isBeggar_3 : decode cX8_isBeggar 3 = .ok (.aload_n 0, 1) := by decide +kernel
theorem dX8_isBeggar_4 : decode cX8_isBeggar 4 = .ok (.getfield 127, 3) := by decide +kernel
theorem dX8_isBeggar_7 : decode cX8_isBeggar 7 = .ok (.iconst 1, 1) := by decide +kernel
theorem dX8_isBeggar_8 : decode cX8_isBeggar 8 = .ok (.isub, 1) := by decide +kernel
theorem dX8_isBeggar_9 : decode cX8_isBeggar 9 = .ok (.i2l, 1) := by decide +kernel
theorem dX8_isBeggar_10 : decode cX8_isBeggar 10 = .ok (.invokestatic 123, 3) := by decide +kernel
theorem dX8_isBeggar_13 : decode cX8_isBeggar 13 = .ok (.ireturn, 1) := by decide +kernel
theorem dX8_isHat_0 : decode cX8_isHat 0 = .ok (.iload_n 1, 1) := by decide +kernel
theorem dX8_isHat_1 : decode cX8_isHat 1 = .ok (.i2l, 1) := by decide +kernel
theorem dX8_isHat_2 : decode cX8_isHat 2 = .ok (.lconst 0, 1) := by decide +kernel
theorem dX8_isHat_3 : decode cX8_isHat 3 = .ok (.aload_n 0, 1) := by decide +kernel
theorem dX8_isHat_4 : decode cX8_isHat 4 = .ok (.getfield 130, 3) := by decide +kernel
theorem dX8_isHat_7 : decode cX8_isHat 7 = .ok (.iconst 1, 1) := by decide +kernel
theorem dX8_isHat_8 : decode cX8_isHat 8 = .ok (.isub, 1) := by decide +kernel
theorem dX8_isHat_9 : decode cX8_isHat 9 = .ok (.i2l, 1) := by decide +kernel
theorem dX8_isHat_10 : decode cX8_isHat 10 = .ok (.invokestatic 123, 3) := by decide +kernel
theorem dX8_isHat_13 : decode cX8_isHat 13 = .ok (.ireturn, 1) := by decide +kernel
theorem dX8_feed_0 : decode cX8_feed 0 = .ok (.iload_n 1, 1) := by decide +kernel
theorem dX8_feed_1 : decode cX8_feed 1 = .ok (.i2l, 1) := by decide +kernel
theorem dX8_feed_2 : decode cX8_feed 2 = .ok (.lconst 1, 1) := by decide +kernel
theorem dX8_feed_3 : decode cX8_feed 3 = .ok (.ldc2_w 133, 3) := by decide +kernel
theorem dX8_feed_6 : decode cX8_feed 6 = .ok (.invokestatic 123, 3) := by decide +kernel
theorem dX8_feed_9 : decode cX8_feed 9 = .ok (.ifCond .ne 6, 3) := by decide +kernel
theorem dX8_feed_12 : decode cX8_feed 12 = .ok (.ldc 135, 2) := by decide +kernel
theorem dX8_feed_14 : decode cX8_feed 14 = .ok (.ireturn, 1) := by decide +kernel
theorem dX8_feed_15 : decode cX8_feed 15 = .ok (.aload_n 0, 1) := by decide +kernel
theorem dX8_feed_16 : decode cX8_feed 16 = .ok (.getfield 136, 3) := by decide +kernel
theorem dX8_feed_19 : decode cX8_feed 19 = .ok (.iload_n 1, 1) := by decide +kernel
theorem dX8_feed_20 : decode cX8_feed 20 = .ok (.iadd, 1) := by decide +kernel
theorem dX8_feed_21 : decode cX8_feed 21 = .ok (.sipush 500, 3) := by decide +kernel
theorem dX8_feed_24 : decode cX8_feed 24 = .ok (.if_icmp .le 6, 3) := by decide +kernel
theorem dX8_feed_27 : decode cX8_feed 27 = .ok (.ldc 139, 2) := by decide +kernel
theorem dX8_feed_29 : decode cX8_feed 29 = .ok (.ireturn, 1) := by decide +kernel
theorem dX8_feed_30 : decode cX8_feed 30 = .ok (.iload_n 1, 1) := by decide +kernel
theorem dX8_feed_31 : decode cX8_feed 31 = .ok (.iconst 1, 1) := by decide +kernel
theorem dX8_feed_32 : decode cX8_feed 32 = .ok (.isub, 1) := by decide +kernel
theorem dX8_feed_33 : decode cX8_feed 33 = .ok (.istore 4, 2) := by decide +kernel
theorem dX8_feed_35 : decode cX8_feed 35 = .ok (.iload 4, 2) := by decide +kernel
theorem dX8_feed_37 : decode cX8_feed 37 = .ok (.ifCond .lt 40, 3) := by decide +kernel
theorem dX8_feed_40 : decode cX8_feed 40 = .ok (.aload_n 0, 1) := by decide +kernel
theorem dX8_feed_41 : decode cX8_feed 41 = .ok (.getfield 47, 3) := by decide +kernel
theorem dX8_feed_44 : decode cX8_feed 44 = .ok (.aload_n 0, 1) := by decide +kernel
theorem dX8_feed_45 : decode cX8_feed 45 = .ok (.getfield 136, 3) := by decide +kernel
theorem dX8_feed_48 : decode cX8_feed 48 = .ok (.lload_n 2, 1) := by decide +kernel
theorem dX8_feed_49 : decode cX8_feed 49 = .ok (.bipush 8, 2) := by decide +kernel
theorem dX8_feed_51 : decode cX8_feed 51 = .ok (.iload 4, 2) := by decide +kernel
theorem dX8_feed_53 : decode cX8_feed 53 = .ok (.imul, 1) := by decide +kernel
theorem dX8_feed_54 : decode cX8_feed 54 = .ok (.lshr, 1) := by decide +kernel
theorem dX8_feed_55 : decode cX8_feed 55 = .ok (.ldc2_w 140, 3) := by decide +kernel
theorem dX8_feed_58 : decode cX8_feed 58 = .ok (.land, 1) := by decide +kernel
theorem dX8_feed_59 : decode cX8_feed 59 = .ok (.l2i, 1) := by decide +kernel
theorem dX8_feed_60 : decode cX8_feed 60 = .ok (.iastore, 1) := by decide +kernel
theorem dX8_feed_61 : decode cX8_feed 61 = .ok (.aload_n 0, 1) := by decide +kernel
theorem dX8_feed_62 : decode cX8_feed 62 = .ok (.dup, 1) := by decide +kernel
theorem dX8_feed_63 : decode cX8_feed 63 = .ok (.getfield 136, 3) := by decide +kernel
theorem dX8_feed_66 : decode cX8_feed 66 = .ok (.iconst 1, 1) := by decide +kernel
theorem dX8_feed_67 : decode cX8_feed 67 = .ok (.iadd, 1) := by decide +kernel
theorem dX8_feed_68 : decode cX8_feed 68 = .ok (.putfield 136, 3) := by decide +kernel
theorem dX8_feed_71 : decode cX8_feed 71 = .ok (.iinc 4 (-1), 3) := by decide +kernel
theorem dX8_feed_74 : decode cX8_feed 74 = .ok (.goto (-39), 3) := by decide +kernel
theorem dX8_feed_77 : decode cX8_feed 77 = .ok (.aload_n 0, 1) := by decide +kernel
theorem dX8_feed_78 : decode cX8_feed 78 = .ok (.getfield 136, 3) := by decide +kernel
theorem dX8_feed_81 : decode cX8_feed 81 = .ok (.ireturn, 1) := by decide +kernel
theorem dX8_here_0 : decode cX8_here 0 = .ok (.aload_n 0, 1) := by decide +kernel
theorem dX8_here_1 : decode cX8_here 1 = .ok (.getfield 142, 3) := by decide +kernel
theorem dX8_here_4 : decode cX8_here 4 = .ok (.aload_n 0, 1) := by decide +kernel
theorem dX8_here_5 : decode cX8_here 5 = .ok (.getfield 136, 3) := by decide +kernel
theorem dX8_here_8 : decode cX8_here 8 = .ok (.if_icmp .ge 30, 3) := by decide +kernel
theorem dX8_here_11 : decode cX8_here 11 = .ok (.aload_n 0, 1) := by decide +kernel
theorem dX8_here_12 : decode cX8_here 12 = .ok (.getfield 47, 3) := by decide +kernel
theorem dX8_here_15 : decode cX8_here 15 = .ok (.aload_n 0, 1) := by decide +kernel
theorem dX8_here_16 : decode cX8_here 16 = .ok (.getfield 142, 3) := by decide +kernel
theorem dX8_here_19 : decode cX8_here 19 = .ok (.iaload, 1) := by decide +kernel
theorem dX8_here_20 : decode cX8_here 20 = .ok (.bipush 32, 2) := by decide +kernel
theorem dX8_here_22 : decode cX8_here 22 = .ok (.if_icmp .ne 16, 3) := by decide +kernel
theorem dX8_here_25 : decode cX8_here 25 = .ok (.aload_n 0, 1) := by decide +kernel
theorem dX8_here_26 : decode cX8_here 26 = .ok (.dup, 1) := by decide +kernel
theorem dX8_here_27 : decode cX8_here 27 = .ok (.getfield 142, 3) := by decide +kernel
theorem dX8_here_30 : decode cX8_here 30 = .ok (.iconst 1, 1) := by decide +kernel
theorem dX8_here_31 : decode cX8_here 31 = .ok (.iadd, 1) := by decide +kernel
theorem dX8_here_32 : decode cX8_here 32 = .ok (.putfield 142, 3) := by decide +kernel
theorem dX8_here_35 : decode cX8_here 35 = .ok (.goto (-35), 3) := by decide +kernel
theorem dX8_here_38 : decode cX8_here 38 = .ok (.aload_n 0, 1) := by decide +kernel
theorem dX8_here_39 : decode cX8_here 39 = .ok (.getfield 142, 3) := by decide +kernel
theorem dX8_here_42 : decode cX8_here 42 = .ok (.aload_n 0, 1) := by decide +kernel
theorem dX8_here_43 : decode cX8_here 43 = .ok (.getfield 136, 3) := by decide +kernel
theorem dX8_here_46 : decode cX8_here 46 = .ok (.if_icmp .ge 15, 3) := by decide +kernel
theorem dX8_here_49 : decode cX8_here 49 = .ok (.aload_n 0, 1) := by decide +kernel
theorem dX8_here_50 : decode cX8_here 50 = .ok (.getfield 47, 3) := by decide +kernel
theorem dX8_here_53 : decode cX8_here 53 = .ok (.aload_n 0, 1) := by decide +kernel
theorem dX8_here_54 : decode cX8_here 54 = .ok (.getfield 142, 3) := by decide +kernel
theorem dX8_here_57 : decode cX8_here 57 = .ok (.iaload, 1) := by decide +kernel
theorem dX8_here_58 : decode cX8_here 58 = .ok (.goto 4, 3) := by decide +kernel
theorem dX8_here_61 : decode cX8_here 61 = .ok (.iconst (-1), 1) := by decide +kernel
theorem dX8_here_62 : decode cX8_here 62 = .ok (.ireturn, 1) := by decide +kernel
theorem dX8_fails_0 : decode cX8_fails 0 = .ok (.aload_n 0, 1) := by decide +kernel
theorem dX8_fails_1 : decode cX8_fails 1 = .ok (.iload_n 2, 1) := by decide +kernel
theorem dX8_fails_2 : decode cX8_fails 2 = .ok (.putfield 50, 3) := by decide +kernel
theorem dX8_fails_5 : decode cX8_fails 5 = .ok (.iload_n 1, 1) := by decide +kernel
theorem dX8_fails_6 : decode cX8_fails 6 = .ok (.ireturn, 1) := by decide +kernel
theorem dX8_readWord_0 : decode cX8_readWord 0 = .ok (.aload_n 0, 1) := by decide +kernel
theorem dX8_readWord_1 : decode cX8_readWord 1 = .ok (.invokevirtual 145, 3) := by decide +kernel
theorem dX8_readWord_4 : decode cX8_readWord 4 = .ok (.istore_n 1, 1) := by decide +kernel
theorem dX8_readWord_5 : decode cX8_readWord 5 = .ok (.aload_n 0, 1) := by decide +kernel
theorem dX8_readWord_6 : decode cX8_readWord 6 = .ok (.lconst 0, 1) := by decide +kernel
theorem dX8_readWord_7 : decode cX8_readWord 7 = .ok (.putfield 149, 3) := by decide +kernel
theorem dX8_readWord_10 : decode cX8_readWord 10 = .ok (.aload_n 0, 1) := by decide +kernel
theorem dX8_readWord_11 : decode cX8_readWord 11 = .ok (.aload_n 0, 1) := by decide +kernel
theorem dX8_readWord_12 : decode cX8_readWord 12 = .ok (.getfield 142, 3) := by decide +kernel
theorem dX8_readWord_15 : decode cX8_readWord 15 = .ok (.putfield 153, 3) := by decide +kernel
theorem dX8_readWord_18 : decode cX8_readWord 18 = .ok (.aload_n 0, 1) := by decide +kernel
theorem dX8_readWord_19 : decode cX8_readWord 19 = .ok (.getfield 153, 3) := by decide +kernel
theorem dX8_readWord_22 : decode cX8_readWord 22 = .ok (.aload_n 0, 1) := by decide +kernel
theorem dX8_readWord_23 : decode cX8_readWord 23 = .ok (.getfield 136, 3) := by decide +kernel
theorem dX8_readWord_26 : decode cX8_readWord 26 = .ok (.if_icmp .ge 82, 3) := by decide +kernel
theorem dX8_readWord_29 : decode cX8_readWord 29 = .ok (.aload_n 0, 1) := by decide +kernel
theorem dX8_readWord_30 : decode cX8_readWord 30 = .ok (.getfield 47, 3) := by decide +kernel
theorem dX8_readWord_33 : decode cX8_readWord 33 = .ok (.aload_n 0, 1) := by decide +kernel
theorem dX8_readWord_34 : decode cX8_readWord 34 = .ok (.getfield 153, 3) := by decide +kernel
theorem dX8_readWord_37 : decode cX8_readWord 37 = .ok (.iaload, 1) := by decide +kernel
theorem dX8_readWord_38 : decode cX8_readWord 38 = .ok (.i2l, 1) := by decide +kernel
theorem dX8_readWord_39 : decode cX8_readWord 39 = .ok (.ldc2_w 156, 3) := by decide +kernel
theorem dX8_readWord_42 : decode cX8_readWord 42 = .ok (.ldc2_w 158, 3) := by decide +kernel
theorem dX8_readWord_45 : decode cX8_readWord 45 = .ok (.invokestatic 123, 3) := by decide +kernel
theorem dX8_readWord_48 : decode cX8_readWord 48 = .ok (.ifCond .eq 60, 3) := by decide +kernel
theorem dX8_readWord_51 : decode cX8_readWord 51 = .ok (.aload_n 0, 1) := by decide +kernel
theorem dX8_readWord_52 : decode cX8_readWord 52 = .ok (.aload_n 0, 1) := by decide +kernel
theorem dX8_readWord_53 : decode cX8_readWord 53 = .ok (.getfield 149, 3) := by decide +kernel
theorem dX8_readWord_56 : decode cX8_readWord 56 = .ok (.ldc2_w 160, 3) := by decide +kernel
theorem dX8_readWord_59 : decode cX8_readWord 59 = .ok (.lcmp, 1) := by decide +kernel
theorem dX8_readWord_60 : decode cX8_readWord 60 = .ok (.ifCond .le 9, 3) := by decide +kernel
theorem dX8_readWord_63 : decode cX8_readWord 63 = .ok (.ldc2_w 162, 3) := by decide +kernel
theorem dX8_readWord_66 : decode cX8_readWord 66 = .ok (.goto 26, 3) := by decide +kernel
theorem dX8_readWord_69 : decode cX8_readWord 69 = .ok (.ldc2_w 164, 3) := by decide +kernel
theorem dX8_readWord_72 : decode cX8_readWord 72 = .ok (.aload_n 0, 1) := by decide +kernel
theorem dX8_readWord_73 : decode cX8_readWord 73 = .ok (.getfield 149, 3) := by decide +kernel
theorem dX8_readWord_76 : decode cX8_readWord 76 = .ok (.lmul, 1) := by decide +kernel
theorem dX8_readWord_77 : decode cX8_readWord 77 = .ok (.aload_n 0, 1) := by decide +kernel
theorem dX8_readWord_78 : decode cX8_readWord 78 = .ok (.getfield 47, 3) := by decide +kernel
theorem dX8_readWord_81 : decode cX8_readWord 81 = .ok (.aload_n 0, 1) := by decide +kernel
theorem dX8_readWord_82 : decode cX8_readWord 82 = .ok (.getfield 153, 3) := by decide +kernel
theorem dX8_readWord_85 : decode cX8_readWord 85 = .ok (.iaload, 1) := by decide +kernel
theorem dX8_readWord_86 : decode cX8_readWord 86 = .ok (.i2l, 1) := by decide +kernel
theorem dX8_readWord_87 : decode cX8_readWord 87 = .ok (.ladd, 1) := by decide +kernel
theorem dX8_readWord_88 : decode cX8_readWord 88 = .ok (.ldc2_w 166, 3) := by decide +kernel
theorem dX8_readWord_91 : decode cX8_readWord 91 = .ok (.lsub, 1) := by decide +kernel
theorem dX8_readWord_92 : decode cX8_readWord 92 = .ok (.putfield 149, 3) := by decide +kernel
theorem dX8_readWord_95 : decode cX8_readWord 95 = .ok (.aload_n 0, 1) := by decide +kernel
theorem dX8_readWord_96 : decode cX8_readWord 96 = .ok (.dup, 1) := by decide +kernel
theorem dX8_readWord_97 : decode cX8_readWord 97 = .ok (.getfield 153, 3) := by decide +kernel
theorem dX8_readWord_100 : decode cX8_readWord 100 = .ok (.iconst 1, 1) := by decide +kernel
theorem dX8_readWord_101 : decode cX8_readWord 101 = .ok (.iadd, 1) := by decide +kernel
theorem dX8_readWord_102 : decode cX8_readWord 102 = .ok (.putfield 153, 3) := by decide +kernel
theorem dX8_readWord_105 : decode cX8_readWord 105 = .ok (.goto (-87), 3) := by decide +kernel
theorem dX8_readWord_108 : decode cX8_readWord 108 = .ok (.return_, 1) := by decide +kernel
theorem dX8_code_0 : decode cX8_code 0 = .ok (.ldc2_w 164, 3) := by decide +kernel
theorem dX8_code_3 : decode cX8_code 3 = .ok (.ldc2_w 164, 3) := by decide +kernel
theorem dX8_code_6 : decode cX8_code 6 = .ok (.iload_n 0, 1) := by decide +kernel
theorem dX8_code_7 : decode cX8_code 7 = .ok (.i2l, 1) := by decide +kernel
theorem dX8_code_8 : decode cX8_code 8 = .ok (.ldc2_w 166, 3) := by decide +kernel
theorem dX8_code_11 : decode cX8_code 11 = .ok (.lsub, 1) := by decide +kernel
theorem dX8_code_12 : decode cX8_code 12 = .ok (.lmul, 1) := by decide +kernel
theorem dX8_code_13 : decode cX8_code 13 = .ok (.iload_n 1, 1) := by decide +kernel
theorem dX8_code_14 : decode cX8_code 14 = .ok (.i2l, 1) := by decide +kernel
theorem dX8_code_15 : decode cX8_code 15 = .ok (.ladd, 1) := by decide +kernel
theorem dX8_code_16 : decode cX8_code 16 = .ok (.ldc2_w 166, 3) := by decide +kernel
theorem dX8_code_19 : decode cX8_code 19 = .ok (.lsub, 1) := by decide +kernel
theorem dX8_code_20 : decode cX8_code 20 = .ok (.lmul, 1) := by decide +kernel
theorem dX8_code_21 : decode cX8_code 21 = .ok (.iload_n 2, 1) := by decide +kernel
theorem dX8_code_22 : decode cX8_code 22 = .ok (.i2l, 1) := by decide +kernel
theorem dX8_code_23 : decode cX8_code 23 = .ok (.ladd, 1) := by decide +kernel
theorem dX8_code_24 : decode cX8_code 24 = .ok (.ldc2_w 166, 3) := by decide +kernel
theorem dX8_code_27 : decode cX8_code 27 = .ok (.lsub, 1) := by decide +kernel
theorem dX8_code_28 : decode cX8_code 28 = .ok (.lreturn, 1) := by decide +kernel
theorem dX8_more_0 : decode cX8_more 0 = .ok (.ldc2_w 164, 3) := by decide +kernel
theorem dX8_more_3 : decode cX8_more 3 = .ok (.lload_n 0, 1) := by decide +kernel
theorem dX8_more_4 : decode cX8_more 4 = .ok (.lmul, 1) := by decide +kernel
theorem dX8_more_5 : decode cX8_more 5 = .ok (.iload_n 2, 1) := by decide +kernel
theorem dX8_more_6 : decode cX8_more 6 = .ok (.i2l, 1) := by decide +kernel
theorem dX8_more_7 : decode cX8_more 7 = .ok (.ladd, 1) := by decide +kernel
theorem dX8_more_8 : decode cX8_more 8 = .ok (.ldc2_w 166, 3) := by decide +kernel
theorem dX8_more_11 : decode cX8_more 11 = .ok (.lsub, 1) := by decide +kernel
theorem dX8_more_12 : decode cX8_more 12 = .ok (.lreturn, 1) := by decide +kernel
theorem dX8_takeNumber_0 : decode cX8_takeNumber 0 = .ok (.aload_n 0, 1) := by decide +kernel
theorem dX8_takeNumber_1 : decode cX8_takeNumber 1 = .ok (.invokevirtual 145, 3) := by decide +kernel
theorem dX8_takeNumber_4 : decode cX8_takeNumber 4 = .ok (.istore_n 3, 1) := by decide +kernel
theorem dX8_takeNumber_5 : decode cX8_takeNumber 5 = .ok (.iload_n 3, 1) := by decide +kernel
theorem dX8_takeNumber_6 : decode cX8_takeNumber 6 = .ok (.i2l, 1) := by decide +kernel
theorem dX8_takeNumber_7 : decode cX8_takeNumber 7 = .ok (.ldc2_w 168, 3) := by decide +kernel
theorem dX8_takeNumber_10 : decode cX8_takeNumber 10 = .ok (.ldc2_w 170, 3) := by decide +kernel
theorem dX8_takeNumber_13 : decode cX8_takeNumber 13 = .ok (.invokestatic 123, 3) := by decide +kernel
theorem dX8_takeNumber_16 : decode cX8_takeNumber 16 = .ok (.ifCond .ne 13, 3) := by decide +kernel
theorem dX8_takeNumber_19 : decode cX8_takeNumber 19 = .ok (.aload_n 0, 1) := by decide +kernel
theorem dX8_takeNumber_20 : decode cX8_takeNumber 20 = .ok (.iconst 1, 1) := by decide +kernel
theorem dX8_takeNumber_21 : decode cX8_takeNumber 21 = .ok (.aload_n 0, 1) := by decide +kernel
theorem dX8_takeNumber_22 : decode cX8_takeNumber 22 = .ok (.getfield 142, 3) := by decide +kernel
theorem dX8_takeNumber_25 : decode cX8_takeNumber 25 = .ok (.invokevirtual 172, 3) := by decide +kernel
theorem dX8_takeNumber_28 : decode cX8_takeNumber 28 = .ok (.ireturn, 1) := by decide +kernel
theorem dX8_takeNumber_29 : decode cX8_takeNumber 29 = .ok (.aload_n 0, 1) := by decide +kernel
theorem dX8_takeNumber_30 : decode cX8_takeNumber 30 = .ok (.aload_n 0, 1) := by decide +kernel
theorem dX8_takeNumber_31 : decode cX8_takeNumber 31 = .ok (.getfield 142, 3) := by decide +kernel
theorem dX8_takeNumber_34 : decode cX8_takeNumber 34 = .ok (.putfield 176, 3) := by decide +kernel
theorem dX8_takeNumber_37 : decode cX8_takeNumber 37 = .ok (.aload_n 0, 1) := by decide +kernel
theorem dX8_takeNumber_38 : decode cX8_takeNumber 38 = .ok (.iconst 0, 1) := by decide +kernel
theorem dX8_takeNumber_39 : decode cX8_takeNumber 39 = .ok (.putfield 179, 3) := by decide +kernel
theorem dX8_takeNumber_42 : decode cX8_takeNumber 42 = .ok (.aload_n 0, 1) := by decide +kernel
theorem dX8_takeNumber_43 : decode cX8_takeNumber 43 = .ok (.getfield 142, 3) := by decide +kernel
theorem dX8_takeNumber_46 : decode cX8_takeNumber 46 = .ok (.aload_n 0, 1) := by decide +kernel
theorem dX8_takeNumber_47 : decode cX8_takeNumber 47 = .ok (.getfield 136, 3) := by decide +kernel
theorem dX8_takeNumber_50 : decode cX8_takeNumber 50 = .ok (.if_icmp .ge 79, 3) := by decide +kernel
theorem dX8_takeNumber_53 : decode cX8_takeNumber 53 = .ok (.aload_n 0, 1) := by decide +kernel
theorem dX8_takeNumber_54 : decode cX8_takeNumber 54 = .ok (.getfield 47, 3) := by decide +kernel
theorem dX8_takeNumber_57 : decode cX8_takeNumber 57 = .ok (.aload_n 0, 1) := by decide +kernel
theorem dX8_takeNumber_58 : decode cX8_takeNumber 58 = .ok (.getfield 142, 3) := by decide +kernel
theorem dX8_takeNumber_61 : decode cX8_takeNumber 61 = .ok (.iaload, 1) := by decide +kernel
theorem dX8_takeNumber_62 : decode cX8_takeNumber 62 = .ok (.i2l, 1) := by decide +kernel
theorem dX8_takeNumber_63 : decode cX8_takeNumber 63 = .ok (.ldc2_w 168, 3) := by decide +kernel
theorem dX8_takeNumber_66 : decode cX8_takeNumber 66 = .ok (.ldc2_w 170, 3) := by decide +kernel
theorem dX8_takeNumber_69 : decode cX8_takeNumber 69 = .ok (.invokestatic 123, 3) := by decide +kernel
theorem dX8_takeNumber_72 : decode cX8_takeNumber 72 = .ok (.ifCond .eq 57, 3) := by decide +kernel
theorem dX8_takeNumber_75 : decode cX8_takeNumber 75 = .ok (.aload_n 0, 1) := by decide +kernel
theorem dX8_takeNumber_76 : decode cX8_takeNumber 76 = .ok (.aload_n 0, 1) := by decide +kernel
theorem dX8_takeNumber_77 : decode cX8_takeNumber 77 = .ok (.getfield 179, 3) := by decide +kernel
theorem dX8_takeNumber_80 : decode cX8_takeNumber 80 = .ok (.sipush 10000, 3) := by decide +kernel
theorem dX8_takeNumber_83 : decode cX8_takeNumber 83 = .ok (.if_icmp .le 10, 3) := by decide +kernel
theorem dX8_takeNumber_86 : decode cX8_takeNumber 86 = .ok (.aload_n 0, 1) := by decide +kernel
theorem dX8_takeNumber_87 : decode cX8_takeNumber 87 = .ok (.getfield 179, 3) := by decide +kernel
theorem dX8_takeNumber_90 : decode cX8_takeNumber 90 = .ok (.goto 23, 3) := by decide +kernel
theorem dX8_takeNumber_93 : decode cX8_takeNumber 93 = .ok (.bipush 10, 2) := by decide +kernel
theorem dX8_takeNumber_95 : decode cX8_takeNumber 95 = .ok (.aload_n 0, 1) := by decide +kernel
theorem dX8_takeNumber_96 : decode cX8_takeNumber 96 = .ok (.getfield 179, 3) := by decide +kernel
theorem dX8_takeNumber_99 : decode cX8_takeNumber 99 = .ok (.imul, 1) := by decide +kernel
theorem dX8_takeNumber_100 : decode cX8_takeNumber 100 = .ok (.aload_n 0, 1) := by decide +kernel
theorem dX8_takeNumber_101 : decode cX8_takeNumber 101 = .ok (.getfield 47, 3) := by decide +kernel
theorem dX8_takeNumber_104 : decode cX8_takeNumber 104 = .ok (.aload_n 0, 1) := by decide +kernel
theorem dX8_takeNumber_105 : decode cX8_takeNumber 105 = .ok (.getfield 142, 3) := by decide +kernel
theorem dX8_takeNumber_108 : decode cX8_takeNumber 108 = .ok (.iaload, 1) := by decide +kernel
theorem dX8_takeNumber_109 : decode cX8_takeNumber 109 = .ok (.iadd, 1) := by decide +kernel
theorem dX8_takeNumber_110 : decode cX8_takeNumber 110 = .ok (.bipush 48, 2) := by decide +kernel
theorem dX8_takeNumber_112 : decode cX8_takeNumber 112 = .ok (.isub, 1) := by decide +kernel
theorem dX8_takeNumber_113 : decode cX8_takeNumber 113 = .ok (.putfield 179, 3) := by decide +kernel
theorem dX8_takeNumber_116 : decode cX8_takeNumber 116 = .ok (.aload_n 0, 1) := by decide +kernel
theorem dX8_takeNumber_117 : decode cX8_takeNumber 117 = .ok (.dup, 1) := by decide +kernel
theorem dX8_takeNumber_118 : decode cX8_takeNumber 118 = .ok (.getfield 142, 3) := by decide +kernel
theorem dX8_takeNumber_121 : decode cX8_takeNumber 121 = .ok (.iconst 1, 1) := by decide +kernel
theorem dX8_takeNumber_122 : decode cX8_takeNumber 122 = .ok (.iadd, 1) := by decide +kernel
theorem dX8_takeNumber_123 : decode cX8_takeNumber 123 = .ok (.putfield 142, 3) := by decide +kernel
theorem dX8_takeNumber_126 : decode cX8_takeNumber 126 = .ok (.goto (-84), 3) := by decide +kernel
theorem dX8_takeNumber_129 : decode cX8_takeNumber 129 = .ok (.aload_n 0, 1) := by decide +kernel
theorem dX8_takeNumber_130 : decode cX8_takeNumber 130 = .ok (.getfield 142, 3) := by decide +kernel
theorem dX8_takeNumber_133 : decode cX8_takeNumber 133 = .ok (.aload_n 0, 1) := by decide +kernel
theorem dX8_takeNumber_134 : decode cX8_takeNumber 134 = .ok (.getfield 176, 3) := by decide +kernel
theorem dX8_takeNumber_137 : decode cX8_takeNumber 137 = .ok (.isub, 1) := by decide +kernel
theorem dX8_takeNumber_138 : decode cX8_takeNumber 138 = .ok (.iconst 3, 1) := by decide +kernel
theorem dX8_takeNumber_139 : decode cX8_takeNumber 139 = .ok (.if_icmp .gt 18, 3) := by decide +kernel
theorem dX8_takeNumber_142 : decode cX8_takeNumber 142 = .ok (.aload_n 0, 1) := by decide +kernel
theorem dX8_takeNumber_143 : decode cX8_takeNumber 143 = .ok (.getfield 179, 3) := by decide +kernel
theorem dX8_takeNumber_146 : decode cX8_takeNumber 146 = .ok (.i2l, 1) := by decide +kernel
theorem dX8_takeNumber_147 : decode cX8_takeNumber 147 = .ok (.iload_n 1, 1) := by decide +kernel
theorem dX8_takeNumber_148 : decode cX8_takeNumber 148 = .ok (.i2l, 1) := by decide +kernel
theorem dX8_takeNumber_149 : decode cX8_takeNumber 149 = .ok (.iload_n 2, 1) := by decide +kernel
theorem dX8_takeNumber_150 : decode cX8_takeNumber 150 = .ok (.i2l, 1) := by decide +kernel
theorem dX8_takeNumber_151 : decode cX8_takeNumber 151 = .ok (.invokestatic 123, 3) := by decide +kernel
theorem dX8_takeNumber_154 : decode cX8_takeNumber 154 = .ok (.ifCond .ne 15, 3) := by decide +kernel
theorem dX8_takeNumber_157 : decode cX8_takeNumber 157 = .ok (.aload_n 0, 1) := by decide +kernel
theorem dX8_takeNumber_158 : decode cX8_takeNumber 158 = .ok (.iconst 2, 1) := by decide +kernel
theorem dX8_takeNumber_159 : decode cX8_takeNumber 159 = .ok (.aload_n 0, 1) := by decide +kernel
theorem dX8_takeNumber_160 : decode cX8_takeNumber 160 = .ok (.getfield 176, 3) := by decide +kernel
theorem dX8_takeNumber_163 : decode cX8_takeNumber 163 = .ok (.invokevirtual 172, 3) := by decide +kernel
theorem dX8_takeNumber_166 : decode cX8_takeNumber 166 = .ok (.goto 4, 3) := by decide +kernel
theorem dX8_takeNumber_169 : decode cX8_takeNumber 169 = .ok (.iconst 0, 1) := by decide +kernel
theorem dX8_takeNumber_170 : decode cX8_takeNumber 170 = .ok (.ireturn, 1) := by decide +kernel
theorem dX8_into_0 : decode cX8_into 0 = .ok (.aload_n 0, 1) := by decide +kernel
theorem dX8_into_1 : decode cX8_into 1 = .ok (.iload_n 3, 1) := by decide +kernel
theorem dX8_into_2 : decode cX8_into 2 = .ok (.iload 4, 2) := by decide +kernel
theorem dX8_into_4 : decode cX8_into 4 = .ok (.invokevirtual 182, 3) := by decide +kernel
theorem dX8_into_7 : decode cX8_into 7 = .ok (.istore 5, 2) := by decide +kernel
theorem dX8_into_9 : decode cX8_into 9 = .ok (.aload_n 1, 1) := by decide +kernel
theorem dX8_into_10 : decode cX8_into 10 = .ok (.iload_n 2, 1) := by decide +kernel
theorem dX8_into_11 : decode cX8_into 11 = .ok (.aload_n 0, 1) := by decide +kernel
theorem dX8_into_12 : decode cX8_into 12 = .ok (.getfield 179, 3) := by decide +kernel
theorem dX8_into_15 : decode cX8_into 15 = .ok (.iastore, 1) := by decide +kernel
theorem dX8_into_16 : decode cX8_into 16 = .ok (.iload 5, 2) := by decide +kernel
theorem dX8_into_18 : decode cX8_into 18 = .ok (.ireturn, 1) := by decide +kernel
theorem dX8_takeBell_0 : decode cX8_takeBell 0 = .ok (.aload_n 0, 1) := by decide +kernel
theorem dX8_takeBell_1 : decode cX8_takeBell 1 = .ok (.getfield 185, 3) := by decide +kernel
theorem dX8_takeBell_4 : decode cX8_takeBell 4 = .ok (.istore_n 1, 1) := by decide +kernel
theorem dX8_takeBell_5 : decode cX8_takeBell 5 = .ok (.aload_n 0, 1) := by decide +kernel
theorem dX8_takeBell_6 : decode cX8_takeBell 6 = .ok (.dup, 1) := by decide +kernel
theorem dX8_takeBell_7 : decode cX8_takeBell 7 = .ok (.getfield 185, 3) := by decide +kernel
theorem dX8_takeBell_10 : decode cX8_takeBell 10 = .ok (.iconst 1, 1) := by decide +kernel
theorem dX8_takeBell_11 : decode cX8_takeBell 11 = .ok (.iadd, 1) := by decide +kernel
theorem dX8_takeBell_12 : decode cX8_takeBell 12 = .ok (.putfield 185, 3) := by decide +kernel
theorem dX8_takeBell_15 : decode cX8_takeBell 15 = .ok (.aload_n 0, 1) := by decide +kernel
theorem dX8_takeBell_16 : decode cX8_takeBell 16 = .ok (.aload_n 0, 1) := by decide +kernel
theorem dX8_takeBell_17 : decode cX8_takeBell 17 = .ok (.getfield 53, 3) := by decide +kernel
theorem dX8_takeBell_20 : decode cX8_takeBell 20 = .ok (.iload_n 1, 1) := by decide +kernel
theorem dX8_takeBell_21 : decode cX8_takeBell 21 = .ok (.iconst 0, 1) := by decide +kernel
theorem dX8_takeBell_22 : decode cX8_takeBell 22 = .ok (.bipush 99, 2) := by decide +kernel
theorem dX8_takeBell_24 : decode cX8_takeBell 24 = .ok (.invokevirtual 188, 3) := by decide +kernel
theorem dX8_takeBell_27 : decode cX8_takeBell 27 = .ok (.istore_n 2, 1) := by decide +kernel
theorem dX8_takeBell_28 : decode cX8_takeBell 28 = .ok (.iload_n 2, 1) := by decide +kernel
theorem dX8_takeBell_29 : decode cX8_takeBell 29 = .ok (.ifCond .le 7, 3) := by decide +kernel
theorem dX8_takeBell_32 : decode cX8_takeBell 32 = .ok (.iload_n 2, 1) := by decide +kernel
theorem dX8_takeBell_33 : decode cX8_takeBell 33 = .ok (.goto 15, 3) := by decide +kernel
theorem dX8_takeBell_36 : decode cX8_takeBell 36 = .ok (.aload_n 0, 1) := by decide +kernel
theorem dX8_takeBell_37 : decode cX8_takeBell 37 = .ok (.aload_n 0, 1) := by decide +kernel
theorem dX8_takeBell_38 : decode cX8_takeBell 38 = .ok (.getfield 56, 3) := by decide +kernel
theorem dX8_takeBell_41 : decode cX8_takeBell 41 = .ok (.iload_n 1, 1) := by decide +kernel
theorem dX8_takeBell_42 : decode cX8_takeBell 42 = .ok (.iconst 0, 1) := by decide +kernel
theorem dX8_takeBell_43 : decode cX8_takeBell 43 = .ok (.bipush 9, 2) := by decide +kernel
theorem dX8_takeBell_45 : decode cX8_takeBell 45 = .ok (.invokevirtual 188, 3) := by decide +kernel
theorem dX8_takeBell_48 : decode cX8_takeBell 48 = .ok (.ireturn, 1) := by decide +kernel
theorem dX8_takeSpot_0 : decode cX8_takeSpot 0 = .ok (.aload_n 0, 1) := by decide +kernel
theorem dX8_takeSpot_1 : decode cX8_takeSpot 1 = .ok (.getfield 192, 3) := by decide +kernel
theorem dX8_takeSpot_4 : decode cX8_takeSpot 4 = .ok (.istore_n 1, 1) := by decide +kernel
theorem dX8_takeSpot_5 : decode cX8_takeSpot 5 = .ok (.aload_n 0, 1) := by decide +kernel
theorem dX8_takeSpot_6 : decode cX8_takeSpot 6 = .ok (.dup, 1) := by decide +kernel
theorem dX8_takeSpot_7 : decode cX8_takeSpot 7 = .ok (.getfield 192, 3) := by decide +kernel
theorem dX8_takeSpot_10 : decode cX8_takeSpot 10 = .ok (.iconst 1, 1) := by decide +kernel
theorem dX8_takeSpot_11 : decode cX8_takeSpot 11 = .ok (.iadd, 1) := by decide +kernel
theorem dX8_takeSpot_12 : decode cX8_takeSpot 12 = .ok (.putfield 192, 3) := by decide +kernel
theorem dX8_takeSpot_15 : decode cX8_takeSpot 15 = .ok (.aload_n 0, 1) := by decide +kernel
theorem dX8_takeSpot_16 : decode cX8_takeSpot 16 = .ok (.aload_n 0, 1) := by decide +kernel
theorem dX8_takeSpot_17 : decode cX8_takeSpot 17 = .ok (.getfield 59, 3) := by decide +kernel
theorem dX8_takeSpot_20 : decode cX8_takeSpot 20 = .ok (.iload_n 1, 1) := by decide +kernel
theorem dX8_takeSpot_21 : decode cX8_takeSpot 21 = .ok (.iconst 0, 1) := by decide +kernel
theorem dX8_takeSpot_22 : decode cX8_takeSpot 22 = .ok (.bipush 20, 2) := by decide +kernel
theorem dX8_takeSpot_24 : decode cX8_takeSpot 24 = .ok (.invokevirtual 188, 3) := by decide +kernel
theorem dX8_takeSpot_27 : decode cX8_takeSpot 27 = .ok (.istore_n 2, 1) := by decide +kernel
theorem dX8_takeSpot_28 : decode cX8_takeSpot 28 = .ok (.iload_n 2, 1) := by decide +kernel
theorem dX8_takeSpot_29 : decode cX8_takeSpot 29 = .ok (.ifCond .le 7, 3) := by decide +kernel
theorem dX8_takeSpot_32 : decode cX8_takeSpot 32 = .ok (.iload_n 2, 1) := by decide +kernel
theorem dX8_takeSpot_33 : decode cX8_takeSpot 33 = .ok (.goto 15, 3) := by decide +kernel
theorem dX8_takeSpot_36 : decode cX8_takeSpot 36 = .ok (.aload_n 0, 1) := by decide +kernel
theorem dX8_takeSpot_37 : decode cX8_takeSpot 37 = .ok (.aload_n 0, 1) := by decide +kernel
theorem dX8_takeSpot_38 : decode cX8_takeSpot 38 = .ok (.getfield 62, 3) := by decide +kernel
theorem dX8_takeSpot_41 : decode cX8_takeSpot 41 = .ok (.iload_n 1, 1) := by decide +kernel
theorem dX8_takeSpot_42 : decode cX8_takeSpot 42 = .ok (.iconst 0, 1) := by decide +kernel
theorem dX8_takeSpot_43 : decode cX8_takeSpot 43 = .ok (.bipush 9, 2) := by decide +kernel
theorem dX8_takeSpot_45 : decode cX8_takeSpot 45 = .ok (.invokevirtual 188, 3) := by decide +kernel
theorem dX8_takeSpot_48 : decode cX8_takeSpot 48 = .ok (.istore_n 2, 1) := by decide +kernel
theorem dX8_takeSpot_49 : decode cX8_takeSpot 49 = .ok (.iload_n 2, 1) := by decide +kernel
theorem dX8_takeSpot_50 : decode cX8_takeSpot 50 = .ok (.ifCond .le 7, 3) := by decide +kernel
theorem dX8_takeSpot_53 : decode cX8_takeSpot 53 = .ok (.iload_n 2, 1) := by decide +kernel
theorem dX8_takeSpot_54 : decode cX8_takeSpot 54 = .ok (.goto 16, 3) := by decide +kernel
theorem dX8_takeSpot_57 : decode cX8_takeSpot 57 = .ok (.aload_n 0, 1) := by decide +kernel
theorem dX8_takeSpot_58 : decode cX8_takeSpot 58 = .ok (.aload_n 0, 1) := by decide +kernel
theorem dX8_takeSpot_59 : decode cX8_takeSpot 59 = .ok (.getfield 65, 3) := by decide +kernel
theorem dX8_takeSpot_62 : decode cX8_takeSpot 62 = .ok (.iload_n 1, 1) := by decide +kernel
theorem dX8_takeSpot_63 : decode cX8_takeSpot 63 = .ok (.iconst 0, 1) := by decide +kernel
theorem dX8_takeSpot_64 : decode cX8_takeSpot 64 = .ok (.sipush 200, 3) := by decide +kernel
theorem dX8_takeSpot_67 : decode cX8_takeSpot 67 = .ok (.invokevirtual 188, 3) := by decide +kernel
theorem dX8_takeSpot_70 : decode cX8_takeSpot 70 = .ok (.ireturn, 1) := by decide +kernel
theorem dX8_takeBeggar_0 : decode cX8_takeBeggar 0 = .ok (.aload_n 0, 1) := by decide +kernel
theorem dX8_takeBeggar_1 : decode cX8_takeBeggar 1 = .ok (.getfield 195, 3) := by decide +kernel
theorem dX8_takeBeggar_4 : decode cX8_takeBeggar 4 = .ok (.istore_n 1, 1) := by decide +kernel
theorem dX8_takeBeggar_5 : decode cX8_takeBeggar 5 = .ok (.aload_n 0, 1) := by decide +kernel
theorem dX8_takeBeggar_6 : decode cX8_takeBeggar 6 = .ok (.dup, 1) := by decide +kernel
theorem dX8_takeBeggar_7 : decode cX8_takeBeggar 7 = .ok (.getfield 195, 3) := by decide +kernel
theorem dX8_takeBeggar_10 : decode cX8_takeBeggar 10 = .ok (.iconst 1, 1) := by decide +kernel
theorem dX8_takeBeggar_11 : decode cX8_takeBeggar 11 = .ok (.iadd, 1) := by decide +kernel
theorem dX8_takeBeggar_12 : decode cX8_takeBeggar 12 = .ok (.putfield 195, 3) := by decide +kernel
theorem dX8_takeBeggar_15 : decode cX8_takeBeggar 15 = .ok (.aload_n 0, 1) := by decide +kernel
theorem dX8_takeBeggar_16 : decode cX8_takeBeggar 16 = .ok (.aload_n 0, 1) := by decide +kernel
theorem dX8_takeBeggar_17 : decode cX8_takeBeggar 17 = .ok (.getfield 68, 3) := by decide +kernel
theorem dX8_takeBeggar_20 : decode cX8_takeBeggar 20 = .ok (.iload_n 1, 1) := by decide +kernel
theorem dX8_takeBeggar_21 : decode cX8_takeBeggar 21 = .ok (.iconst 1, 1) := by decide +kernel
theorem dX8_takeBeggar_22 : decode cX8_takeBeggar 22 = .ok (.bipush 90, 2) := by decide +kernel
theorem dX8_takeBeggar_24 : decode cX8_takeBeggar 24 = .ok (.invokevirtual 188, 3) := by decide +kernel
theorem dX8_takeBeggar_27 : decode cX8_takeBeggar 27 = .ok (.ireturn, 1) := by decide +kernel
theorem dX8_takeHat_0 : decode cX8_takeHat 0 = .ok (.aload_n 0, 1) := by decide +kernel
theorem dX8_takeHat_1 : decode cX8_takeHat 1 = .ok (.getfield 198, 3) := by decide +kernel
theorem dX8_takeHat_4 : decode cX8_takeHat 4 = .ok (.istore_n 1, 1) := by decide +kernel
theorem dX8_takeHat_5 : decode cX8_takeHat 5 = .ok (.aload_n 0, 1) := by decide +kernel
theorem dX8_takeHat_6 : decode cX8_takeHat 6 = .ok (.dup, 1) := by decide +kernel
theorem dX8_takeHat_7 : decode cX8_takeHat 7 = .ok (.getfield 198, 3) := by decide +kernel
theorem dX8_takeHat_10 : decode cX8_takeHat 10 = .ok (.iconst 1, 1) := by decide +kernel
theorem dX8_takeHat_11 : decode cX8_takeHat 11 = .ok (.iadd, 1) := by decide +kernel
theorem dX8_takeHat_12 : decode cX8_takeHat 12 = .ok (.putfield 198, 3) := by decide +kernel
theorem dX8_takeHat_15 : decode cX8_takeHat 15 = .ok (.aload_n 0, 1) := by decide +kernel
theorem dX8_takeHat_16 : decode cX8_takeHat 16 = .ok (.aload_n 0, 1) := by decide +kernel
theorem dX8_takeHat_17 : decode cX8_takeHat 17 = .ok (.getfield 71, 3) := by decide +kernel
theorem dX8_takeHat_20 : decode cX8_takeHat 20 = .ok (.iload_n 1, 1) := by decide +kernel
theorem dX8_takeHat_21 : decode cX8_takeHat 21 = .ok (.iconst 1, 1) := by decide +kernel
theorem dX8_takeHat_22 : decode cX8_takeHat 22 = .ok (.bipush 20, 2) := by decide +kernel
theorem dX8_takeHat_24 : decode cX8_takeHat 24 = .ok (.invokevirtual 188, 3) := by decide +kernel
theorem dX8_takeHat_27 : decode cX8_takeHat 27 = .ok (.istore_n 2, 1) := by decide +kernel
theorem dX8_takeHat_28 : decode cX8_takeHat 28 = .ok (.iload_n 2, 1) := by decide +kernel
theorem dX8_takeHat_29 : decode cX8_takeHat 29 = .ok (.ifCond .le 7, 3) := by decide +kernel
theorem dX8_takeHat_32 : decode cX8_takeHat 32 = .ok (.iload_n 2, 1) := by decide +kernel
theorem dX8_takeHat_33 : decode cX8_takeHat 33 = .ok (.goto 15, 3) := by decide +kernel
theorem dX8_takeHat_36 : decode cX8_takeHat 36 = .ok (.aload_n 0, 1) := by decide +kernel
theorem dX8_takeHat_37 : decode cX8_takeHat 37 = .ok (.aload_n 0, 1) := by decide +kernel
theorem dX8_takeHat_38 : decode cX8_takeHat 38 = .ok (.getfield 74, 3) := by decide +kernel
theorem dX8_takeHat_41 : decode cX8_takeHat 41 = .ok (.iload_n 1, 1) := by decide +kernel
theorem dX8_takeHat_42 : decode cX8_takeHat 42 = .ok (.iconst 0, 1) := by decide +kernel
theorem dX8_takeHat_43 : decode cX8_takeHat 43 = .ok (.bipush 50, 2) := by decide +kernel
theorem dX8_takeHat_45 : decode cX8_takeHat 45 = .ok (.invokevirtual 188, 3) := by decide +kernel
theorem dX8_takeHat_48 : decode cX8_takeHat 48 = .ok (.ireturn, 1) := by decide +kernel
theorem dX8_takeYear_0 : decode cX8_takeYear 0 = .ok (.aload_n 0, 1) := by decide +kernel
theorem dX8_takeYear_1 : decode cX8_takeYear 1 = .ok (.iconst 1, 1) := by decide +kernel
theorem dX8_takeYear_2 : decode cX8_takeYear 2 = .ok (.bipush 60, 2) := by decide +kernel
theorem dX8_takeYear_4 : decode cX8_takeYear 4 = .ok (.invokevirtual 182, 3) := by decide +kernel
theorem dX8_takeYear_7 : decode cX8_takeYear 7 = .ok (.istore_n 1, 1) := by decide +kernel
theorem dX8_takeYear_8 : decode cX8_takeYear 8 = .ok (.aload_n 0, 1) := by decide +kernel
theorem dX8_takeYear_9 : decode cX8_takeYear 9 = .ok (.aload_n 0, 1) := by decide +kernel
theorem dX8_takeYear_10 : decode cX8_takeYear 10 = .ok (.getfield 179, 3) := by decide +kernel
theorem dX8_takeYear_13 : decode cX8_takeYear 13 = .ok (.putfield 201, 3) := by decide +kernel
theorem dX8_takeYear_16 : decode cX8_takeYear 16 = .ok (.iload_n 1, 1) := by decide +kernel
theorem dX8_takeYear_17 : decode cX8_takeYear 17 = .ok (.ireturn, 1) := by decide +kernel
theorem dX8_takeClause_0 : decode cX8_takeClause 0 = .ok (.aload_n 0, 1) := by decide +kernel
theorem dX8_takeClause_1 : decode cX8_takeClause 1 = .ok (.invokevirtual 204, 3) := by decide +kernel
theorem dX8_takeClause_4 : decode cX8_takeClause 4 = .ok (.aload_n 0, 1) := by decide +kernel
theorem dX8_takeClause_5 : decode cX8_takeClause 5 = .ok (.getfield 149, 3) := by decide +kernel
theorem dX8_takeClause_8 : decode cX8_takeClause 8 = .ok (.bipush 121, 2) := by decide +kernel
theorem dX8_takeClause_10 : decode cX8_takeClause 10 = .ok (.bipush 101, 2) := by decide +kernel
theorem dX8_takeClause_12 : decode cX8_takeClause 12 = .ok (.bipush 97, 2) := by decide +kernel
theorem dX8_takeClause_14 : decode cX8_takeClause 14 = .ok (.invokestatic 207, 3) := by decide +kernel
theorem dX8_takeClause_17 : decode cX8_takeClause 17 = .ok (.bipush 114, 2) := by decide +kernel
theorem dX8_takeClause_19 : decode cX8_takeClause 19 = .ok (.invokestatic 211, 3) := by decide +kernel
theorem dX8_takeClause_22 : decode cX8_takeClause 22 = .ok (.lcmp, 1) := by decide +kernel
theorem dX8_takeClause_23 : decode cX8_takeClause 23 = .ok (.ifCond .ne 7, 3) := by decide +kernel
theorem dX8_takeClause_26 : decode cX8_takeClause 26 = .ok (.iconst 0, 1) := by decide +kernel
theorem dX8_takeClause_27 : decode cX8_takeClause 27 = .ok (.goto 56, 3) := by decide +kernel
theorem dX8_takeClause_30 : decode cX8_takeClause 30 = .ok (.aload_n 0, 1) := by decide +kernel
theorem dX8_takeClause_31 : decode cX8_takeClause 31 = .ok (.getfield 149, 3) := by decide +kernel
theorem dX8_takeClause_34 : decode cX8_takeClause 34 = .ok (.bipush 98, 2) := by decide +kernel
theorem dX8_takeClause_36 : decode cX8_takeClause 36 = .ok (.bipush 101, 2) := by decide +kernel
theorem dX8_takeClause_38 : decode cX8_takeClause 38 = .ok (.bipush 108, 2) := by decide +kernel
theorem dX8_takeClause_40 : decode cX8_takeClause 40 = .ok (.invokestatic 207, 3) := by decide +kernel
theorem dX8_takeClause_43 : decode cX8_takeClause 43 = .ok (.bipush 108, 2) := by decide +kernel
theorem dX8_takeClause_45 : decode cX8_takeClause 45 = .ok (.invokestatic 211, 3) := by decide +kernel
theorem dX8_takeClause_48 : decode cX8_takeClause 48 = .ok (.lcmp, 1) := by decide +kernel
theorem dX8_takeClause_49 : decode cX8_takeClause 49 = .ok (.ifCond .ne 7, 3) := by decide +kernel
theorem dX8_takeClause_52 : decode cX8_takeClause 52 = .ok (.iconst 1, 1) := by decide +kernel
theorem dX8_takeClause_53 : decode cX8_takeClause 53 = .ok (.goto 30, 3) := by decide +kernel
theorem dX8_takeClause_56 : decode cX8_takeClause 56 = .ok (.aload_n 0, 1) := by decide +kernel
theorem dX8_takeClause_57 : decode cX8_takeClause 57 = .ok (.getfield 149, 3) := by decide +kernel
theorem dX8_takeClause_60 : decode cX8_takeClause 60 = .ok (.bipush 115, 2) := by decide +kernel
theorem dX8_takeClause_62 : decode cX8_takeClause 62 = .ok (.bipush 112, 2) := by decide +kernel
theorem dX8_takeClause_64 : decode cX8_takeClause 64 = .ok (.bipush 111, 2) := by decide +kernel
theorem dX8_takeClause_66 : decode cX8_takeClause 66 = .ok (.invokestatic 207, 3) := by decide +kernel
theorem dX8_takeClause_69 : decode cX8_takeClause 69 = .ok (.bipush 116, 2) := by decide +kernel
theorem dX8_takeClause_71 : decode cX8_takeClause 71 = .ok (.invokestatic 211, 3) := by decide +kernel
theorem dX8_takeClause_74 : decode cX8_takeClause 74 = .ok (.lcmp, 1) := by decide +kernel
theorem dX8_takeClause_75 : decode cX8_takeClause 75 = .ok (.ifCond .ne 7, 3) := by decide +kernel
theorem dX8_takeClause_78 : decode cX8_takeClause 78 = .ok (.iconst 2, 1) := by decide +kernel
theorem dX8_takeClause_79 : decode cX8_takeClause 79 = .ok (.goto 4, 3) := by decide +kernel
theorem dX8_takeClause_82 : decode cX8_takeClause 82 = .ok (.iconst (-1), 1) := by decide +kernel
theorem dX8_takeClause_83 : decode cX8_takeClause 83 = .ok (.istore_n 1, 1) := by decide +kernel
theorem dX8_takeClause_84 : decode cX8_takeClause 84 = .ok (.iload_n 1, 1) := by decide +kernel
theorem dX8_takeClause_85 : decode cX8_takeClause 85 = .ok (.ifCond .lt 7, 3) := by decide +kernel
theorem dX8_takeClause_88 : decode cX8_takeClause 88 = .ok (.iload_n 1, 1) := by decide +kernel
theorem dX8_takeClause_89 : decode cX8_takeClause 89 = .ok (.goto 61, 3) := by decide +kernel
theorem dX8_takeClause_92 : decode cX8_takeClause 92 = .ok (.aload_n 0, 1) := by decide +kernel
theorem dX8_takeClause_93 : decode cX8_takeClause 93 = .ok (.getfield 149, 3) := by decide +kernel
theorem dX8_takeClause_96 : decode cX8_takeClause 96 = .ok (.bipush 98, 2) := by decide +kernel
theorem dX8_takeClause_98 : decode cX8_takeClause 98 = .ok (.bipush 101, 2) := by decide +kernel
theorem dX8_takeClause_100 : decode cX8_takeClause 100 = .ok (.bipush 103, 2) := by decide +kernel
theorem dX8_takeClause_102 : decode cX8_takeClause 102 = .ok (.invokestatic 207, 3) := by decide +kernel
theorem dX8_takeClause_105 : decode cX8_takeClause 105 = .ok (.bipush 103, 2) := by decide +kernel
theorem dX8_takeClause_107 : decode cX8_takeClause 107 = .ok (.invokestatic 211, 3) := by decide +kernel
theorem dX8_takeClause_110 : decode cX8_takeClause 110 = .ok (.bipush 97, 2) := by decide +kernel
theorem dX8_takeClause_112 : decode cX8_takeClause 112 = .ok (.invokestatic 211, 3) := by decide +kernel
theorem dX8_takeClause_115 : decode cX8_takeClause 115 = .ok (.bipush 114, 2) := by decide +kernel
theorem dX8_takeClause_117 : decode cX8_takeClause 117 = .ok (.invokestatic 211, 3) := by decide +kernel
theorem dX8_takeClause_120 : decode cX8_takeClause 120 = .ok (.lcmp, 1) := by decide +kernel
theorem dX8_takeClause_121 : decode cX8_takeClause 121 = .ok (.ifCond .ne 7, 3) := by decide +kernel
theorem dX8_takeClause_124 : decode cX8_takeClause 124 = .ok (.iconst 3, 1) := by decide +kernel
theorem dX8_takeClause_125 : decode cX8_takeClause 125 = .ok (.goto 25, 3) := by decide +kernel
theorem dX8_takeClause_128 : decode cX8_takeClause 128 = .ok (.aload_n 0, 1) := by decide +kernel
theorem dX8_takeClause_129 : decode cX8_takeClause 129 = .ok (.getfield 149, 3) := by decide +kernel
theorem dX8_takeClause_132 : decode cX8_takeClause 132 = .ok (.bipush 104, 2) := by decide +kernel
theorem dX8_takeClause_134 : decode cX8_takeClause 134 = .ok (.bipush 97, 2) := by decide +kernel
theorem dX8_takeClause_136 : decode cX8_takeClause 136 = .ok (.bipush 116, 2) := by decide +kernel
theorem dX8_takeClause_138 : decode cX8_takeClause 138 = .ok (.invokestatic 207, 3) := by decide +kernel
theorem dX8_takeClause_141 : decode cX8_takeClause 141 = .ok (.lcmp, 1) := by decide +kernel
theorem dX8_takeClause_142 : decode cX8_takeClause 142 = .ok (.ifCond .ne 7, 3) := by decide +kernel
theorem dX8_takeClause_145 : decode cX8_takeClause 145 = .ok (.iconst 4, 1) := by decide +kernel
theorem dX8_takeClause_146 : decode cX8_takeClause 146 = .ok (.goto 4, 3) := by decide +kernel
theorem dX8_takeClause_149 : decode cX8_takeClause 149 = .ok (.iconst (-1), 1) := by decide +kernel
theorem dX8_takeClause_150 : decode cX8_takeClause 150 = .ok (.istore_n 2, 1) := by decide +kernel
theorem dX8_takeClause_151 : decode cX8_takeClause 151 = .ok (.iload_n 2, 1) := by decide +kernel
theorem dX8_takeClause_152 : decode cX8_takeClause 152 = .ok (.ifCond .lt 14, 3) := by decide +kernel
theorem dX8_takeClause_155 : decode cX8_takeClause 155 = .ok (.iload_n 2, 1) := by decide +kernel
theorem dX8_takeClause_156 : decode cX8_takeClause 156 = .ok (.ifCond .ne 20, 3) := by decide +kernel
theorem dX8_takeClause_159 : decode cX8_takeClause 159 = .ok (.aload_n 0, 1) := by decide +kernel
theorem dX8_takeClause_160 : decode cX8_takeClause 160 = .ok (.getfield 215, 3) := by decide +kernel
theorem dX8_takeClause_163 : decode cX8_takeClause 163 = .ok (.ifCond .le 13, 3) := by decide +kernel
theorem dX8_takeClause_166 : decode cX8_takeClause 166 = .ok (.aload_n 0, 1) := by decide +kernel
theorem dX8_takeClause_167 : decode cX8_takeClause 167 = .ok (.iconst 1, 1) := by decide +kernel
theorem dX8_takeClause_168 : decode cX8_takeClause 168 = .ok (.aload_n 0, 1) := by decide +kernel
theorem dX8_takeClause_169 : decode cX8_takeClause 169 = .ok (.getfield 142, 3) := by decide +kernel
theorem dX8_takeClause_172 : decode cX8_takeClause 172 = .ok (.invokevirtual 172, 3) := by decide +kernel
theorem dX8_takeClause_175 : decode cX8_takeClause 175 = .ok (.ireturn, 1) := by decide +kernel
theorem dX8_takeClause_176 : decode cX8_takeClause 176 = .ok (.iload_n 2, 1) := by decide +kernel
theorem dX8_takeClause_177 : decode cX8_takeClause 177 = .ok (.ifCond .ne 18, 3) := by decide +kernel
theorem dX8_takeClause_180 : decode cX8_takeClause 180 = .ok (.aload_n 0, 1) := by decide +kernel
theorem dX8_takeClause_181 : decode cX8_takeClause 181 = .ok (.getfield 201, 3) := by decide +kernel
theorem dX8_takeClause_184 : decode cX8_takeClause 184 = .ok (.ifCond .le 7, 3) := by decide +kernel
theorem dX8_takeClause_187 : decode cX8_takeClause 187 = .ok (.iconst 1, 1) := by decide +kernel
theorem dX8_takeClause_188 : decode cX8_takeClause 188 = .ok (.goto 85, 3) := by decide +kernel
theorem dX8_takeClause_191 : decode cX8_takeClause 191 = .ok (.iconst 0, 1) := by decide +kernel
theorem dX8_takeClause_192 : decode cX8_takeClause 192 = .ok (.goto 81, 3) := by decide +kernel
theorem dX8_takeClause_195 : decode cX8_takeClause 195 = .ok (.iload_n 2, 1) := by decide +kernel
theorem dX8_takeClause_196 : decode cX8_takeClause 196 = .ok (.iconst 1, 1) := by decide +kernel
theorem dX8_takeClause_197 : decode cX8_takeClause 197 = .ok (.if_icmp .ne 19, 3) := by decide +kernel
theorem dX8_takeClause_200 : decode cX8_takeClause 200 = .ok (.aload_n 0, 1) := by decide +kernel
theorem dX8_takeClause_201 : decode cX8_takeClause 201 = .ok (.getfield 185, 3) := by decide +kernel
theorem dX8_takeClause_204 : decode cX8_takeClause 204 = .ok (.iconst 4, 1) := by decide +kernel
theorem dX8_takeClause_205 : decode cX8_takeClause 205 = .ok (.if_icmp .ne 7, 3) := by decide +kernel
theorem dX8_takeClause_208 : decode cX8_takeClause 208 = .ok (.iconst 1, 1) := by decide +kernel
theorem dX8_takeClause_209 : decode cX8_takeClause 209 = .ok (.goto 64, 3) := by decide +kernel
theorem dX8_takeClause_212 : decode cX8_takeClause 212 = .ok (.iconst 0, 1) := by decide +kernel
theorem dX8_takeClause_213 : decode cX8_takeClause 213 = .ok (.goto 60, 3) := by decide +kernel
theorem dX8_takeClause_216 : decode cX8_takeClause 216 = .ok (.iload_n 2, 1) := by decide +kernel
theorem dX8_takeClause_217 : decode cX8_takeClause 217 = .ok (.iconst 2, 1) := by decide +kernel
theorem dX8_takeClause_218 : decode cX8_takeClause 218 = .ok (.if_icmp .ne 20, 3) := by decide +kernel
theorem dX8_takeClause_221 : decode cX8_takeClause 221 = .ok (.aload_n 0, 1) := by decide +kernel
theorem dX8_takeClause_222 : decode cX8_takeClause 222 = .ok (.getfield 192, 3) := by decide +kernel
theorem dX8_takeClause_225 : decode cX8_takeClause 225 = .ok (.bipush 6, 2) := by decide +kernel
theorem dX8_takeClause_227 : decode cX8_takeClause 227 = .ok (.if_icmp .ne 7, 3) := by decide +kernel
theorem dX8_takeClause_230 : decode cX8_takeClause 230 = .ok (.iconst 1, 1) := by decide +kernel
theorem dX8_takeClause_231 : decode cX8_takeClause 231 = .ok (.goto 42, 3) := by decide +kernel
theorem dX8_takeClause_234 : decode cX8_takeClause 234 = .ok (.iconst 0, 1) := by decide +kernel
theorem dX8_takeClause_235 : decode cX8_takeClause 235 = .ok (.goto 38, 3) := by decide +kernel
theorem dX8_takeClause_238 : decode cX8_takeClause 238 = .ok (.iload_n 2, 1) := by decide +kernel
theorem dX8_takeClause_239 : decode cX8_takeClause 239 = .ok (.iconst 3, 1) := by decide +kernel
theorem dX8_takeClause_240 : decode cX8_takeClause 240 = .ok (.if_icmp .ne 20, 3) := by decide +kernel
theorem dX8_takeClause_243 : decode cX8_takeClause 243 = .ok (.aload_n 0, 1) := by decide +kernel
theorem dX8_takeClause_244 : decode cX8_takeClause 244 = .ok (.getfield 195, 3) := by decide +kernel
theorem dX8_takeClause_247 : decode cX8_takeClause 247 = .ok (.bipush 6, 2) := by decide +kernel
theorem dX8_takeClause_249 : decode cX8_takeClause 249 = .ok (.if_icmp .ne 7, 3) := by decide +kernel
theorem dX8_takeClause_252 : decode cX8_takeClause 252 = .ok (.iconst 1, 1) := by decide +kernel
theorem dX8_takeClause_253 : decode cX8_takeClause 253 = .ok (.goto 20, 3) := by decide +kernel
theorem dX8_takeClause_256 : decode cX8_takeClause 256 = .ok (.iconst 0, 1) := by decide +kernel
theorem dX8_takeClause_257 : decode cX8_takeClause 257 = .ok (.goto 16, 3) := by decide +kernel
theorem dX8_takeClause_260 : decode cX8_takeClause 260 = .ok (.aload_n 0, 1) := by decide +kernel
theorem dX8_takeClause_261 : decode cX8_takeClause 261 = .ok (.getfield 198, 3) := by decide +kernel
theorem dX8_takeClause_264 : decode cX8_takeClause 264 = .ok (.iconst 4, 1) := by decide +kernel
theorem dX8_takeClause_265 : decode cX8_takeClause 265 = .ok (.if_icmp .ne 7, 3) := by decide +kernel
theorem dX8_takeClause_268 : decode cX8_takeClause 268 = .ok (.iconst 1, 1) := by decide +kernel
theorem dX8_takeClause_269 : decode cX8_takeClause 269 = .ok (.goto 4, 3) := by decide +kernel
theorem dX8_takeClause_272 : decode cX8_takeClause 272 = .ok (.iconst 0, 1) := by decide +kernel
theorem dX8_takeClause_273 : decode cX8_takeClause 273 = .ok (.istore_n 3, 1) := by decide +kernel
theorem dX8_takeClause_274 : decode cX8_takeClause 274 = .ok (.iload_n 3, 1) := by decide +kernel
theorem dX8_takeClause_275 : decode cX8_takeClause 275 = .ok (.ifCond .eq 13, 3) := by decide +kernel
theorem dX8_takeClause_278 : decode cX8_takeClause 278 = .ok (.aload_n 0, 1) := by decide +kernel
theorem dX8_takeClause_279 : decode cX8_takeClause 279 = .ok (.iconst 3, 1) := by decide +kernel
theorem dX8_takeClause_280 : decode cX8_takeClause 280 = .ok (.aload_n 0, 1) := by decide +kernel
theorem dX8_takeClause_281 : decode cX8_takeClause 281 = .ok (.getfield 142, 3) := by decide +kernel
theorem dX8_takeClause_284 : decode cX8_takeClause 284 = .ok (.invokevirtual 172, 3) := by decide +kernel
theorem dX8_takeClause_287 : decode cX8_takeClause 287 = .ok (.ireturn, 1) := by decide +kernel
theorem dX8_takeClause_288 : decode cX8_takeClause 288 = .ok (.aload_n 0, 1) := by decide +kernel
theorem dX8_takeClause_289 : decode cX8_takeClause 289 = .ok (.aload_n 0, 1) := by decide +kernel
theorem dX8_takeClause_290 : decode cX8_takeClause 290 = .ok (.getfield 153, 3) := by decide +kernel
theorem dX8_takeClause_293 : decode cX8_takeClause 293 = .ok (.putfield 142, 3) := by decide +kernel
theorem dX8_takeClause_296 : decode cX8_takeClause 296 = .ok (.aload_n 0, 1) := by decide +kernel
theorem dX8_takeClause_297 : decode cX8_takeClause 297 = .ok (.dup, 1) := by decide +kernel
theorem dX8_takeClause_298 : decode cX8_takeClause 298 = .ok (.getfield 215, 3) := by decide +kernel
theorem dX8_takeClause_301 : decode cX8_takeClause 301 = .ok (.iload_n 2, 1) := by decide +kernel
theorem dX8_takeClause_302 : decode cX8_takeClause 302 = .ok (.ifCond .ne 7, 3) := by decide +kernel
theorem dX8_takeClause_305 : decode cX8_takeClause 305 = .ok (.iconst 0, 1) := by decide +kernel
theorem dX8_takeClause_306 : decode cX8_takeClause 306 = .ok (.goto 4, 3) := by decide +kernel
theorem dX8_takeClause_309 : decode cX8_takeClause 309 = .ok (.iconst 1, 1) := by decide +kernel
theorem dX8_takeClause_310 : decode cX8_takeClause 310 = .ok (.iadd, 1) := by decide +kernel
theorem dX8_takeClause_311 : decode cX8_takeClause 311 = .ok (.putfield 215, 3) := by decide +kernel
theorem dX8_takeClause_314 : decode cX8_takeClause 314 = .ok (.iload_n 2, 1) := by decide +kernel
theorem dX8_takeClause_315 : decode cX8_takeClause 315 = .ok (.ifCond .ne 10, 3) := by decide +kernel
theorem dX8_takeClause_318 : decode cX8_takeClause 318 = .ok (.aload_n 0, 1) := by decide +kernel
theorem dX8_takeClause_319 : decode cX8_takeClause 319 = .ok (.invokevirtual 218, 3) := by decide +kernel
theorem dX8_takeClause_322 : decode cX8_takeClause 322 = .ok (.goto 43, 3) := by decide +kernel
theorem dX8_takeClause_325 : decode cX8_takeClause 325 = .ok (.iload_n 2, 1) := by decide +kernel
theorem dX8_takeClause_326 : decode cX8_takeClause 326 = .ok (.iconst 1, 1) := by decide +kernel
theorem dX8_takeClause_327 : decode cX8_takeClause 327 = .ok (.if_icmp .ne 10, 3) := by decide +kernel
theorem dX8_takeClause_330 : decode cX8_takeClause 330 = .ok (.aload_n 0, 1) := by decide +kernel
theorem dX8_takeClause_331 : decode cX8_takeClause 331 = .ok (.invokevirtual 221, 3) := by decide +kernel
theorem dX8_takeClause_334 : decode cX8_takeClause 334 = .ok (.goto 31, 3) := by decide +kernel
theorem dX8_takeClause_337 : decode cX8_takeClause 337 = .ok (.iload_n 2, 1) := by decide +kernel
theorem dX8_takeClause_338 : decode cX8_takeClause 338 = .ok (.iconst 2, 1) := by decide +kernel
theorem dX8_takeClause_339 : decode cX8_takeClause 339 = .ok (.if_icmp .ne 10, 3) := by decide +kernel
theorem dX8_takeClause_342 : decode cX8_takeClause 342 = .ok (.aload_n 0, 1) := by decide +kernel
theorem dX8_takeClause_343 : decode cX8_takeClause 343 = .ok (.invokevirtual 224, 3) := by decide +kernel
theorem dX8_takeClause_346 : decode cX8_takeClause 346 = .ok (.goto 19, 3) := by decide +kernel
theorem dX8_takeClause_349 : decode cX8_takeClause 349 = .ok (.iload_n 2, 1) := by decide +kernel
theorem dX8_takeClause_350 : decode cX8_takeClause 350 = .ok (.iconst 3, 1) := by decide +kernel
theorem dX8_takeClause_351 : decode cX8_takeClause 351 = .ok (.if_icmp .ne 10, 3) := by decide +kernel
theorem dX8_takeClause_354 : decode cX8_takeClause 354 = .ok (.aload_n 0, 1) := by decide +kernel
theorem dX8_takeClause_355 : decode cX8_takeClause 355 = .ok (.invokevirtual 227, 3) := by decide +kernel
theorem dX8_takeClause_358 : decode cX8_takeClause 358 = .ok (.goto 7, 3) := by decide +kernel
theorem dX8_takeClause_361 : decode cX8_takeClause 361 = .ok (.aload_n 0, 1) := by decide +kernel
theorem dX8_takeClause_362 : decode cX8_takeClause 362 = .ok (.invokevirtual 230, 3) := by decide +kernel
theorem dX8_takeClause_365 : decode cX8_takeClause 365 = .ok (.istore 4, 2) := by decide +kernel
theorem dX8_takeClause_367 : decode cX8_takeClause 367 = .ok (.iload 4, 2) := by decide +kernel
theorem dX8_takeClause_369 : decode cX8_takeClause 369 = .ok (.ifCond .ne 22, 3) := by decide +kernel
theorem dX8_takeClause_372 : decode cX8_takeClause 372 = .ok (.aload_n 0, 1) := by decide +kernel
theorem dX8_takeClause_373 : decode cX8_takeClause 373 = .ok (.invokevirtual 145, 3) := by decide +kernel
theorem dX8_takeClause_376 : decode cX8_takeClause 376 = .ok (.bipush 59, 2) := by decide +kernel
theorem dX8_takeClause_378 : decode cX8_takeClause 378 = .ok (.if_icmp .eq 13, 3) := by decide +kernel
theorem dX8_takeClause_381 : decode cX8_takeClause 381 = .ok (.aload_n 0, 1) := by decide +kernel
theorem dX8_takeClause_382 : decode cX8_takeClause 382 = .ok (.iconst 1, 1) := by decide +kernel
theorem dX8_takeClause_383 : decode cX8_takeClause 383 = .ok (.aload_n 0, 1) := by decide +kernel
theorem dX8_takeClause_384 : decode cX8_takeClause 384 = .ok (.getfield 142, 3) := by decide +kernel
theorem dX8_takeClause_387 : decode cX8_takeClause 387 = .ok (.invokevirtual 172, 3) := by decide +kernel
theorem dX8_takeClause_390 : decode cX8_takeClause 390 = .ok (.ireturn, 1) := by decide +kernel
theorem dX8_takeClause_391 : decode cX8_takeClause 391 = .ok (.aload_n 0, 1) := by decide +kernel
theorem dX8_takeClause_392 : decode cX8_takeClause 392 = .ok (.dup, 1) := by decide +kernel
theorem dX8_takeClause_393 : decode cX8_takeClause 393 = .ok (.getfield 142, 3) := by decide +kernel
theorem dX8_takeClause_396 : decode cX8_takeClause 396 = .ok (.iconst 1, 1) := by decide +kernel
theorem dX8_takeClause_397 : decode cX8_takeClause 397 = .ok (.iadd, 1) := by decide +kernel
theorem dX8_takeClause_398 : decode cX8_takeClause 398 = .ok (.putfield 142, 3) := by decide +kernel
theorem dX8_takeClause_401 : decode cX8_takeClause 401 = .ok (.iload 4, 2) := by decide +kernel
theorem dX8_takeClause_403 : decode cX8_takeClause 403 = .ok (.ireturn, 1) := by decide +kernel
theorem dX8_square_0 : decode cX8_square 0 = .ok (.aload_n 0, 1) := by decide +kernel
theorem dX8_square_1 : decode cX8_square 1 = .ok (.iconst (-1), 1) := by decide +kernel
theorem dX8_square_2 : decode cX8_square 2 = .ok (.putfield 50, 3) := by decide +kernel
theorem dX8_square_5 : decode cX8_square 5 = .ok (.aload_n 0, 1) := by decide +kernel
theorem dX8_square_6 : decode cX8_square 6 = .ok (.iconst 0, 1) := by decide +kernel
theorem dX8_square_7 : decode cX8_square 7 = .ok (.putfield 142, 3) := by decide +kernel
theorem dX8_square_10 : decode cX8_square 10 = .ok (.aload_n 0, 1) := by decide +kernel
theorem dX8_square_11 : decode cX8_square 11 = .ok (.iconst 0, 1) := by decide +kernel
theorem dX8_square_12 : decode cX8_square 12 = .ok (.putfield 201, 3) := by decide +kernel
theorem dX8_square_15 : decode cX8_square 15 = .ok (.aload_n 0, 1) := by decide +kernel
theorem dX8_square_16 : decode cX8_square 16 = .ok (.iconst 0, 1) := by decide +kernel
theorem dX8_square_17 : decode cX8_square 17 = .ok (.putfield 215, 3) := by decide +kernel
theorem dX8_square_20 : decode cX8_square 20 = .ok (.aload_n 0, 1) := by decide +kernel
theorem dX8_square_21 : decode cX8_square 21 = .ok (.iconst 0, 1) := by decide +kernel
theorem dX8_square_22 : decode cX8_square 22 = .ok (.putfield 185, 3) := by decide +kernel
theorem dX8_square_25 : decode cX8_square 25 = .ok (.aload_n 0, 1) := by decide +kernel
theorem dX8_square_26 : decode cX8_square 26 = .ok (.iconst 0, 1) := by decide +kernel
theorem dX8_square_27 : decode cX8_square 27 = .ok (.putfield 192, 3) := by decide +kernel
theorem dX8_square_30 : decode cX8_square 30 = .ok (.aload_n 0, 1) := by decide +kernel
theorem dX8_square_31 : decode cX8_square 31 = .ok (.iconst 0, 1) := by decide +kernel
theorem dX8_square_32 : decode cX8_square 32 = .ok (.putfield 195, 3) := by decide +kernel
theorem dX8_square_35 : decode cX8_square 35 = .ok (.aload_n 0, 1) := by decide +kernel
theorem dX8_square_36 : decode cX8_square 36 = .ok (.iconst 0, 1) := by decide +kernel
theorem dX8_square_37 : decode cX8_square 37 = .ok (.putfield 198, 3) := by decide +kernel
theorem dX8_square_40 : decode cX8_square 40 = .ok (.iconst 0, 1) := by decide +kernel
theorem dX8_square_41 : decode cX8_square 41 = .ok (.istore_n 1, 1) := by decide +kernel
theorem dX8_square_42 : decode cX8_square 42 = .ok (.iload_n 1, 1) := by decide +kernel
theorem dX8_square_43 : decode cX8_square 43 = .ok (.ifCond .ne 18, 3) := by decide +kernel
theorem dX8_square_46 : decode cX8_square 46 = .ok (.aload_n 0, 1) := by decide +kernel
theorem dX8_square_47 : decode cX8_square 47 = .ok (.invokevirtual 145, 3) := by decide +kernel
theorem dX8_square_50 : decode cX8_square 50 = .ok (.ifCond .lt 11, 3) := by decide +kernel
theorem dX8_square_53 : decode cX8_square 53 = .ok (.aload_n 0, 1) := by decide +kernel
theorem dX8_square_54 : decode cX8_square 54 = .ok (.invokevirtual 233, 3) := by decide +kernel
theorem dX8_square_57 : decode cX8_square 57 = .ok (.istore_n 1, 1) := by decide +kernel
theorem dX8_square_58 : decode cX8_square 58 = .ok (.goto (-16), 3) := by decide +kernel
theorem dX8_square_61 : decode cX8_square 61 = .ok (.aload_n 0, 1) := by decide +kernel
theorem dX8_square_62 : decode cX8_square 62 = .ok (.iconst 0, 1) := by decide +kernel
theorem dX8_square_63 : decode cX8_square 63 = .ok (.putfield 136, 3) := by decide +kernel
theorem dX8_square_66 : decode cX8_square 66 = .ok (.iload_n 1, 1) := by decide +kernel
theorem dX8_square_67 : decode cX8_square 67 = .ok (.ifCond .le 8, 3) := by decide +kernel
theorem dX8_square_70 : decode cX8_square 70 = .ok (.bipush (-10), 2) := by decide +kernel
theorem dX8_square_72 : decode cX8_square 72 = .ok (.iload_n 1, 1) := by decide +kernel
theorem dX8_square_73 : decode cX8_square 73 = .ok (.isub, 1) := by decide +kernel
theorem dX8_square_74 : decode cX8_square 74 = .ok (.ireturn, 1) := by decide +kernel
theorem dX8_square_75 : decode cX8_square 75 = .ok (.aload_n 0, 1) := by decide +kernel
theorem dX8_square_76 : decode cX8_square 76 = .ok (.aload_n 0, 1) := by decide +kernel
theorem dX8_square_77 : decode cX8_square 77 = .ok (.getfield 201, 3) := by decide +kernel
theorem dX8_square_80 : decode cX8_square 80 = .ok (.ifCond .le 10, 3) := by decide +kernel
theorem dX8_square_83 : decode cX8_square 83 = .ok (.aload_n 0, 1) := by decide +kernel
theorem dX8_square_84 : decode cX8_square 84 = .ok (.getfield 201, 3) := by decide +kernel
theorem dX8_square_87 : decode cX8_square 87 = .ok (.goto 5, 3) := by decide +kernel
theorem dX8_square_90 : decode cX8_square 90 = .ok (.bipush 12, 2) := by decide +kernel
theorem dX8_square_92 : decode cX8_square 92 = .ok (.putfield 7, 3) := by decide +kernel
theorem dX8_square_95 : decode cX8_square 95 = .ok (.aload_n 0, 1) := by decide +kernel
theorem dX8_square_96 : decode cX8_square 96 = .ok (.aload_n 0, 1) := by decide +kernel
theorem dX8_square_97 : decode cX8_square 97 = .ok (.getfield 185, 3) := by decide +kernel
theorem dX8_square_100 : decode cX8_square 100 = .ok (.putfield 120, 3) := by decide +kernel
theorem dX8_square_103 : decode cX8_square 103 = .ok (.aload_n 0, 1) := by decide +kernel
theorem dX8_square_104 : decode cX8_square 104 = .ok (.aload_n 0, 1) := by decide +kernel
theorem dX8_square_105 : decode cX8_square 105 = .ok (.getfield 192, 3) := by decide +kernel
theorem dX8_square_108 : decode cX8_square 108 = .ok (.putfield 117, 3) := by decide +kernel
theorem dX8_square_111 : decode cX8_square 111 = .ok (.aload_n 0, 1) := by decide +kernel
theorem dX8_square_112 : decode cX8_square 112 = .ok (.aload_n 0, 1) := by decide +kernel
theorem dX8_square_113 : decode cX8_square 113 = .ok (.getfield 195, 3) := by decide +kernel
theorem dX8_square_116 : decode cX8_square 116 = .ok (.putfield 127, 3) := by decide +kernel
theorem dX8_square_119 : decode cX8_square 119 = .ok (.aload_n 0, 1) := by decide +kernel
theorem dX8_square_120 : decode cX8_square 120 = .ok (.aload_n 0, 1) := by decide +kernel
theorem dX8_square_121 : decode cX8_square 121 = .ok (.getfield 198, 3) := by decide +kernel
theorem dX8_square_124 : decode cX8_square 124 = .ok (.putfield 130, 3) := by decide +kernel
theorem dX8_square_127 : decode cX8_square 127 = .ok (.iconst 0, 1) := by decide +kernel
theorem dX8_square_128 : decode cX8_square 128 = .ok (.istore_n 2, 1) := by decide +kernel
theorem dX8_square_129 : decode cX8_square 129 = .ok (.iload_n 2, 1) := by decide +kernel
theorem dX8_square_130 : decode cX8_square 130 = .ok (.iconst 4, 1) := by decide +kernel
theorem dX8_square_131 : decode cX8_square 131 = .ok (.if_icmp .ge 57, 3) := by decide +kernel
theorem dX8_square_134 : decode cX8_square 134 = .ok (.aload_n 0, 1) := by decide +kernel
theorem dX8_square_135 : decode cX8_square 135 = .ok (.getfield 13, 3) := by decide +kernel
theorem dX8_square_138 : decode cX8_square 138 = .ok (.iload_n 2, 1) := by decide +kernel
theorem dX8_square_139 : decode cX8_square 139 = .ok (.aload_n 0, 1) := by decide +kernel
theorem dX8_square_140 : decode cX8_square 140 = .ok (.getfield 53, 3) := by decide +kernel
theorem dX8_square_143 : decode cX8_square 143 = .ok (.iload_n 2, 1) := by decide +kernel
theorem dX8_square_144 : decode cX8_square 144 = .ok (.iaload, 1) := by decide +kernel
theorem dX8_square_145 : decode cX8_square 145 = .ok (.iastore, 1) := by decide +kernel
theorem dX8_square_146 : decode cX8_square 146 = .ok (.aload_n 0, 1) := by decide +kernel
theorem dX8_square_147 : decode cX8_square 147 = .ok (.getfield 17, 3) := by decide +kernel
theorem dX8_square_150 : decode cX8_square 150 = .ok (.iload_n 2, 1) := by decide +kernel
theorem dX8_square_151 : decode cX8_square 151 = .ok (.aload_n 0, 1) := by decide +kernel
theorem dX8_square_152 : decode cX8_square 152 = .ok (.getfield 56, 3) := by decide +kernel
theorem dX8_square_155 : decode cX8_square 155 = .ok (.iload_n 2, 1) := by decide +kernel
theorem dX8_square_156 : decode cX8_square 156 = .ok (.iaload, 1) := by decide +kernel
theorem dX8_square_157 : decode cX8_square 157 = .ok (.iastore, 1) := by decide +kernel
theorem dX8_square_158 : decode cX8_square 158 = .ok (.aload_n 0, 1) := by decide +kernel
theorem dX8_square_159 : decode cX8_square 159 = .ok (.getfield 32, 3) := by decide +kernel
theorem dX8_square_162 : decode cX8_square 162 = .ok (.iload_n 2, 1) := by decide +kernel
theorem dX8_square_163 : decode cX8_square 163 = .ok (.aload_n 0, 1) := by decide +kernel
theorem dX8_square_164 : decode cX8_square 164 = .ok (.getfield 71, 3) := by decide +kernel
theorem dX8_square_167 : decode cX8_square 167 = .ok (.iload_n 2, 1) := by decide +kernel
theorem dX8_square_168 : decode cX8_square 168 = .ok (.iaload, 1) := by decide +kernel
theorem dX8_square_169 : decode cX8_square 169 = .ok (.iastore, 1) := by decide +kernel
theorem dX8_square_170 : decode cX8_square 170 = .ok (.aload_n 0, 1) := by decide +kernel
theorem dX8_square_171 : decode cX8_square 171 = .ok (.getfield 35, 3) := by decide +kernel
theorem dX8_square_174 : decode cX8_square 174 = .ok (.iload_n 2, 1) := by decide +kernel
theorem dX8_square_175 : decode cX8_square 175 = .ok (.aload_n 0, 1) := by decide +kernel
theorem dX8_square_176 : decode cX8_square 176 = .ok (.getfield 74, 3) := by decide +kernel
theorem dX8_square_179 : decode cX8_square 179 = .ok (.iload_n 2, 1) := by decide +kernel
theorem dX8_square_180 : decode cX8_square 180 = .ok (.iaload, 1) := by decide +kernel
theorem dX8_square_181 : decode cX8_square 181 = .ok (.iastore, 1) := by decide +kernel
theorem dX8_square_182 : decode cX8_square 182 = .ok (.iinc 2 1, 3) := by decide +kernel
theorem dX8_square_185 : decode cX8_square 185 = .ok (.goto (-56), 3) := by decide +kernel
theorem dX8_square_188 : decode cX8_square 188 = .ok (.iconst 0, 1) := by decide +kernel
theorem dX8_square_189 : decode cX8_square 189 = .ok (.istore_n 2, 1) := by decide +kernel
theorem dX8_square_190 : decode cX8_square 190 = .ok (.iload_n 2, 1) := by decide +kernel
theorem dX8_square_191 : decode cX8_square 191 = .ok (.bipush 6, 2) := by decide +kernel
theorem dX8_square_193 : decode cX8_square 193 = .ok (.if_icmp .ge 64, 3) := by decide +kernel
theorem dX8_square_196 : decode cX8_square 196 = .ok (.aload_n 0, 1) := by decide +kernel
theorem dX8_square_197 : decode cX8_square 197 = .ok (.getfield 20, 3) := by decide +kernel
theorem dX8_square_200 : decode cX8_square 200 = .ok (.iload_n 2, 1) := by decide +kernel
theorem dX8_square_201 : decode cX8_square 201 = .ok (.aload_n 0, 1) := by decide +kernel
theorem dX8_square_202 : decode cX8_square 202 = .ok (.getfield 59, 3) := by decide +kernel
theorem dX8_square_205 : decode cX8_square 205 = .ok (.iload_n 2, 1) := by decide +kernel
theorem dX8_square_206 : decode cX8_square 206 = .ok (.iaload, 1) := by decide +kernel
theorem dX8_square_207 : decode cX8_square 207 = .ok (.iastore, 1) := by decide +kernel
theorem dX8_square_208 : decode cX8_square 208 = .ok (.aload_n 0, 1) := by decide +kernel
theorem dX8_square_209 : decode cX8_square 209 = .ok (.getfield 23, 3) := by decide +kernel
theorem dX8_square_212 : decode cX8_square 212 = .ok (.iload_n 2, 1) := by decide +kernel
theorem dX8_square_213 : decode cX8_square 213 = .ok (.aload_n 0, 1) := by decide +kernel
theorem dX8_square_214 : decode cX8_square 214 = .ok (.getfield 62, 3) := by decide +kernel
theorem dX8_square_217 : decode cX8_square 217 = .ok (.iload_n 2, 1) := by decide +kernel
theorem dX8_square_218 : decode cX8_square 218 = .ok (.iaload, 1) := by decide +kernel
theorem dX8_square_219 : decode cX8_square 219 = .ok (.iastore, 1) := by decide +kernel
theorem dX8_square_220 : decode cX8_square 220 = .ok (.aload_n 0, 1) := by decide +kernel
theorem dX8_square_221 : decode cX8_square 221 = .ok (.getfield 26, 3) := by decide +kernel
theorem dX8_square_224 : decode cX8_square 224 = .ok (.iload_n 2, 1) := by decide +kernel
theorem dX8_square_225 : decode cX8_square 225 = .ok (.aload_n 0, 1) := by decide +kernel
theorem dX8_square_226 : decode cX8_square 226 = .ok (.getfield 65, 3) := by decide +kernel
theorem dX8_square_229 : decode cX8_square 229 = .ok (.iload_n 2, 1) := by decide +kernel
theorem dX8_square_230 : decode cX8_square 230 = .ok (.iaload, 1) := by decide +kernel
theorem dX8_square_231 : decode cX8_square 231 = .ok (.iastore, 1) := by decide +kernel
theorem dX8_square_232 : decode cX8_square 232 = .ok (.aload_n 0, 1) := by decide +kernel
theorem dX8_square_233 : decode cX8_square 233 = .ok (.getfield 29, 3) := by decide +kernel
theorem dX8_square_236 : decode cX8_square 236 = .ok (.iload_n 2, 1) := by decide +kernel
theorem dX8_square_237 : decode cX8_square 237 = .ok (.aload_n 0, 1) := by decide +kernel
theorem dX8_square_238 : decode cX8_square 238 = .ok (.getfield 68, 3) := by decide +kernel
theorem dX8_square_241 : decode cX8_square 241 = .ok (.iload_n 2, 1) := by decide +kernel
theorem dX8_square_242 : decode cX8_square 242 = .ok (.iaload, 1) := by decide +kernel
theorem dX8_square_243 : decode cX8_square 243 = .ok (.iastore, 1) := by decide +kernel
theorem dX8_square_244 : decode cX8_square 244 = .ok (.aload_n 0, 1) := by decide +kernel
theorem dX8_square_245 : decode cX8_square 245 = .ok (.getfield 44, 3) := by decide +kernel
theorem dX8_square_248 : decode cX8_square 248 = .ok (.iload_n 2, 1) := by decide +kernel
theorem dX8_square_249 : decode cX8_square 249 = .ok (.iconst 0, 1) := by decide +kernel
theorem dX8_square_250 : decode cX8_square 250 = .ok (.iastore, 1) := by decide +kernel
theorem dX8_square_251 : decode cX8_square 251 = .ok (.iinc 2 1, 3) := by decide +kernel
theorem dX8_square_254 : decode cX8_square 254 = .ok (.goto (-64), 3) := by decide +kernel
theorem dX8_square_257 : decode cX8_square 257 = .ok (.iconst 0, 1) := by decide +kernel
theorem dX8_square_258 : decode cX8_square 258 = .ok (.istore_n 2, 1) := by decide +kernel
theorem dX8_square_259 : decode cX8_square 259 = .ok (.iload_n 2, 1) := by decide +kernel
theorem dX8_square_260 : decode cX8_square 260 = .ok (.bipush 7, 2) := by decide +kernel
theorem dX8_square_262 : decode cX8_square 262 = .ok (.if_icmp .ge 23, 3) := by decide +kernel
theorem dX8_square_265 : decode cX8_square 265 = .ok (.aload_n 0, 1) := by decide +kernel
theorem dX8_square_266 : decode cX8_square 266 = .ok (.getfield 38, 3) := by decide +kernel
theorem dX8_square_269 : decode cX8_square 269 = .ok (.iload_n 2, 1) := by decide +kernel
theorem dX8_square_270 : decode cX8_square 270 = .ok (.iconst (-1), 1) := by decide +kernel
theorem dX8_square_271 : decode cX8_square 271 = .ok (.iastore, 1) := by decide +kernel
theorem dX8_square_272 : decode cX8_square 272 = .ok (.aload_n 0, 1) := by decide +kernel
theorem dX8_square_273 : decode cX8_square 273 = .ok (.getfield 41, 3) := by decide +kernel
theorem dX8_square_276 : decode cX8_square 276 = .ok (.iload_n 2, 1) := by decide +kernel
theorem dX8_square_277 : decode cX8_square 277 = .ok (.iconst (-1), 1) := by decide +kernel
theorem dX8_square_278 : decode cX8_square 278 = .ok (.iastore, 1) := by decide +kernel
theorem dX8_square_279 : decode cX8_square 279 = .ok (.iinc 2 1, 3) := by decide +kernel
theorem dX8_square_282 : decode cX8_square 282 = .ok (.goto (-23), 3) := by decide +kernel
theorem dX8_square_285 : decode cX8_square 285 = .ok (.aload_n 0, 1) := by decide +kernel
theorem dX8_square_286 : decode cX8_square 286 = .ok (.iconst 0, 1) := by decide +kernel
theorem dX8_square_287 : decode cX8_square 287 = .ok (.putfield 236, 3) := by decide +kernel
theorem dX8_square_290 : decode cX8_square 290 = .ok (.aload_n 0, 1) := by decide +kernel
theorem dX8_square_291 : decode cX8_square 291 = .ok (.iconst 0, 1) := by decide +kernel
theorem dX8_square_292 : decode cX8_square 292 = .ok (.putfield 239, 3) := by decide +kernel
theorem dX8_square_295 : decode cX8_square 295 = .ok (.aload_n 0, 1) := by decide +kernel
theorem dX8_square_296 : decode cX8_square 296 = .ok (.iconst 0, 1) := by decide +kernel
theorem dX8_square_297 : decode cX8_square 297 = .ok (.putfield 242, 3) := by decide +kernel
theorem dX8_square_300 : decode cX8_square 300 = .ok (.aload_n 0, 1) := by decide +kernel
theorem dX8_square_301 : decode cX8_square 301 = .ok (.iconst 0, 1) := by decide +kernel
theorem dX8_square_302 : decode cX8_square 302 = .ok (.putfield 245, 3) := by decide +kernel
theorem dX8_square_305 : decode cX8_square 305 = .ok (.aload_n 0, 1) := by decide +kernel
theorem dX8_square_306 : decode cX8_square 306 = .ok (.getfield 113, 3) := by decide +kernel
theorem dX8_square_309 : decode cX8_square 309 = .ok (.iconst 0, 1) := by decide +kernel
theorem dX8_square_310 : decode cX8_square 310 = .ok (.iconst 0, 1) := by decide +kernel
theorem dX8_square_311 : decode cX8_square 311 = .ok (.bastore, 1) := by decide +kernel
theorem dX8_square_312 : decode cX8_square 312 = .ok (.aload_n 0, 1) := by decide +kernel
theorem dX8_square_313 : decode cX8_square 313 = .ok (.getfield 113, 3) := by decide +kernel
theorem dX8_square_316 : decode cX8_square 316 = .ok (.iconst 1, 1) := by decide +kernel
theorem dX8_square_317 : decode cX8_square 317 = .ok (.iconst 0, 1) := by decide +kernel
theorem dX8_square_318 : decode cX8_square 318 = .ok (.bastore, 1) := by decide +kernel
theorem dX8_square_319 : decode cX8_square 319 = .ok (.aload_n 0, 1) := by decide +kernel
theorem dX8_square_320 : decode cX8_square 320 = .ok (.getfield 127, 3) := by decide +kernel
theorem dX8_square_323 : decode cX8_square 323 = .ok (.ireturn, 1) := by decide +kernel
theorem dX8_fault_0 : decode cX8_fault 0 = .ok (.aload_n 0, 1) := by decide +kernel
theorem dX8_fault_1 : decode cX8_fault 1 = .ok (.getfield 50, 3) := by decide +kernel
theorem dX8_fault_4 : decode cX8_fault 4 = .ok (.ireturn, 1) := by decide +kernel
theorem dX8_told_0 : decode cX8_told 0 = .ok (.iload_n 1, 1) := by decide +kernel
theorem dX8_told_1 : decode cX8_told 1 = .ok (.tableswitch 114 0 10 #[59, 64, 69, 74, 79, 84, 89, 94, 99, 104, 109], 59) := by decide +kernel
theorem dX8_told_60 : decode cX8_told 60 = .ok (.aload_n 0, 1) := by decide +kernel
theorem dX8_told_61 : decode cX8_told 61 = .ok (.getfield 7, 3) := by decide +kernel
theorem dX8_told_64 : decode cX8_told 64 = .ok (.ireturn, 1) := by decide +kernel
theorem dX8_told_65 : decode cX8_told 65 = .ok (.aload_n 0, 1) := by decide +kernel
theorem dX8_told_66 : decode cX8_told 66 = .ok (.getfield 120, 3) := by decide +kernel
theorem dX8_told_69 : decode cX8_told 69 = .ok (.ireturn, 1) := by decide +kernel
theorem dX8_told_70 : decode cX8_told 70 = .ok (.aload_n 0, 1) := by decide +kernel
theorem dX8_told_71 : decode cX8_told 71 = .ok (.getfield 117, 3) := by decide +kernel
theorem dX8_told_74 : decode cX8_told 74 = .ok (.ireturn, 1) := by decide +kernel
theorem dX8_told_75 : decode cX8_told 75 = .ok (.aload_n 0, 1) := by decide +kernel
theorem dX8_told_76 : decode cX8_told 76 = .ok (.getfield 127, 3) := by decide +kernel
theorem dX8_told_79 : decode cX8_told 79 = .ok (.ireturn, 1) := by decide +kernel
theorem dX8_told_80 : decode cX8_told 80 = .ok (.aload_n 0, 1) := by decide +kernel
theorem dX8_told_81 : decode cX8_told 81 = .ok (.getfield 130, 3) := by decide +kernel
theorem dX8_told_84 : decode cX8_told 84 = .ok (.ireturn, 1) := by decide +kernel
theorem dX8_told_85 : decode cX8_told 85 = .ok (.aload_n 0, 1) := by decide +kernel
theorem dX8_told_86 : decode cX8_told 86 = .ok (.getfield 136, 3) := by decide +kernel
theorem dX8_told_89 : decode cX8_told 89 = .ok (.ireturn, 1) := by decide +kernel
theorem dX8_told_90 : decode cX8_told 90 = .ok (.aload_n 0, 1) := by decide +kernel
theorem dX8_told_91 : decode cX8_told 91 = .ok (.getfield 236, 3) := by decide +kernel
theorem dX8_told_94 : decode cX8_told 94 = .ok (.ireturn, 1) := by decide +kernel
theorem dX8_told_95 : decode cX8_told 95 = .ok (.aload_n 0, 1) := by decide +kernel
theorem dX8_told_96 : decode cX8_told 96 = .ok (.getfield 248, 3) := by decide +kernel
theorem dX8_told_99 : decode cX8_told 99 = .ok (.ireturn, 1) := by decide +kernel
theorem dX8_told_100 : decode cX8_told 100 = .ok (.aload_n 0, 1) := by decide +kernel
theorem dX8_told_101 : decode cX8_told 101 = .ok (.getfield 239, 3) := by decide +kernel
theorem dX8_told_104 : decode cX8_told 104 = .ok (.ireturn, 1) := by decide +kernel
theorem dX8_told_105 : decode cX8_told 105 = .ok (.aload_n 0, 1) := by decide +kernel
theorem dX8_told_106 : decode cX8_told 106 = .ok (.getfield 242, 3) := by decide +kernel
theorem dX8_told_109 : decode cX8_told 109 = .ok (.ireturn, 1) := by decide +kernel
theorem dX8_told_110 : decode cX8_told 110 = .ok (.aload_n 0, 1) := by decide +kernel
theorem dX8_told_111 : decode cX8_told 111 = .ok (.getfield 245, 3) := by decide +kernel
theorem dX8_told_114 : decode cX8_told 114 = .ok (.ireturn, 1) := by decide +kernel
theorem dX8_told_115 : decode cX8_told 115 = .ok (.ldc 135, 2) := by decide +kernel
theorem dX8_told_117 : decode cX8_told 117 = .ok (.ireturn, 1) := by decide +kernel
theorem dX8_longOn_0 : decode cX8_longOn 0 = .ok (.iload_n 2, 1) := by decide +kernel
theorem dX8_longOn_1 : decode cX8_longOn 1 = .ok (.aload_n 0, 1) := by decide +kernel
theorem dX8_longOn_2 : decode cX8_longOn 2 = .ok (.getfield 7, 3) := by decide +kernel
theorem dX8_longOn_5 : decode cX8_longOn 5 = .ok (.irem, 1) := by decide +kernel
theorem dX8_longOn_6 : decode cX8_longOn 6 = .ok (.istore_n 3, 1) := by decide +kernel
theorem dX8_longOn_7 : decode cX8_longOn 7 = .ok (.iload_n 3, 1) := by decide +kernel
theorem dX8_longOn_8 : decode cX8_longOn 8 = .ok (.aload_n 0, 1) := by decide +kernel
theorem dX8_longOn_9 : decode cX8_longOn 9 = .ok (.getfield 7, 3) := by decide +kernel
theorem dX8_longOn_12 : decode cX8_longOn 12 = .ok (.iload_n 3, 1) := by decide +kernel
theorem dX8_longOn_13 : decode cX8_longOn 13 = .ok (.isub, 1) := by decide +kernel
theorem dX8_longOn_14 : decode cX8_longOn 14 = .ok (.if_icmp .ge 7, 3) := by decide +kernel
theorem dX8_longOn_17 : decode cX8_longOn 17 = .ok (.iload_n 3, 1) := by decide +kernel
theorem dX8_longOn_18 : decode cX8_longOn 18 = .ok (.goto 9, 3) := by decide +kernel
theorem dX8_longOn_21 : decode cX8_longOn 21 = .ok (.aload_n 0, 1) := by decide +kernel
theorem dX8_longOn_22 : decode cX8_longOn 22 = .ok (.getfield 7, 3) := by decide +kernel
theorem dX8_longOn_25 : decode cX8_longOn 25 = .ok (.iload_n 3, 1) := by decide +kernel
theorem dX8_longOn_26 : decode cX8_longOn 26 = .ok (.isub, 1) := by decide +kernel
theorem dX8_longOn_27 : decode cX8_longOn 27 = .ok (.istore 4, 2) := by decide +kernel
theorem dX8_longOn_29 : decode cX8_longOn 29 = .ok (.aload_n 0, 1) := by decide +kernel
theorem dX8_longOn_30 : decode cX8_longOn 30 = .ok (.getfield 13, 3) := by decide +kernel
theorem dX8_longOn_33 : decode cX8_longOn 33 = .ok (.iload_n 1, 1) := by decide +kernel
theorem dX8_longOn_34 : decode cX8_longOn 34 = .ok (.iaload, 1) := by decide +kernel
theorem dX8_longOn_35 : decode cX8_longOn 35 = .ok (.aload_n 0, 1) := by decide +kernel
theorem dX8_longOn_36 : decode cX8_longOn 36 = .ok (.getfield 17, 3) := by decide +kernel
theorem dX8_longOn_39 : decode cX8_longOn 39 = .ok (.iload_n 1, 1) := by decide +kernel
theorem dX8_longOn_40 : decode cX8_longOn 40 = .ok (.iaload, 1) := by decide +kernel
theorem dX8_longOn_41 : decode cX8_longOn 41 = .ok (.iload 4, 2) := by decide +kernel
theorem dX8_longOn_43 : decode cX8_longOn 43 = .ok (.imul, 1) := by decide +kernel
theorem dX8_longOn_44 : decode cX8_longOn 44 = .ok (.iadd, 1) := by decide +kernel
theorem dX8_longOn_45 : decode cX8_longOn 45 = .ok (.ireturn, 1) := by decide +kernel
theorem dX8_bell_0 : decode cX8_bell 0 = .ok (.aload_n 0, 1) := by decide +kernel
theorem dX8_bell_1 : decode cX8_bell 1 = .ok (.iload_n 1, 1) := by decide +kernel
theorem dX8_bell_2 : decode cX8_bell 2 = .ok (.invokevirtual 251, 3) := by decide +kernel
theorem dX8_bell_5 : decode cX8_bell 5 = .ok (.ifCond .ne 6, 3) := by decide +kernel
theorem dX8_bell_8 : decode cX8_bell 8 = .ok (.ldc 255, 2) := by decide +kernel
theorem dX8_bell_10 : decode cX8_bell 10 = .ok (.ireturn, 1) := by decide +kernel
theorem dX8_bell_11 : decode cX8_bell 11 = .ok (.iload_n 2, 1) := by decide +kernel
theorem dX8_bell_12 : decode cX8_bell 12 = .ok (.i2l, 1) := by decide +kernel
theorem dX8_bell_13 : decode cX8_bell 13 = .ok (.lconst 0, 1) := by decide +kernel
theorem dX8_bell_14 : decode cX8_bell 14 = .ok (.ldc2_w 256, 3) := by decide +kernel
theorem dX8_bell_17 : decode cX8_bell 17 = .ok (.invokestatic 123, 3) := by decide +kernel
theorem dX8_bell_20 : decode cX8_bell 20 = .ok (.ifCond .eq 12, 3) := by decide +kernel
theorem dX8_bell_23 : decode cX8_bell 23 = .ok (.aload_n 0, 1) := by decide +kernel
theorem dX8_bell_24 : decode cX8_bell 24 = .ok (.iload_n 1, 1) := by decide +kernel
theorem dX8_bell_25 : decode cX8_bell 25 = .ok (.iload_n 2, 1) := by decide +kernel
theorem dX8_bell_26 : decode cX8_bell 26 = .ok (.invokevirtual 258, 3) := by decide +kernel
theorem dX8_bell_29 : decode cX8_bell 29 = .ok (.goto 5, 3) := by decide +kernel
theorem dX8_bell_32 : decode cX8_bell 32 = .ok (.ldc 135, 2) := by decide +kernel
theorem dX8_bell_34 : decode cX8_bell 34 = .ok (.ireturn, 1) := by decide +kernel
theorem dX8_whoIsOn_0 : decode cX8_whoIsOn 0 = .ok (.iconst (-1), 1) := by decide +kernel
theorem dX8_whoIsOn_1 : decode cX8_whoIsOn 1 = .ok (.istore_n 3, 1) := by decide +kernel
theorem dX8_whoIsOn_2 : decode cX8_whoIsOn 2 = .ok (.iconst 0, 1) := by decide +kernel
theorem dX8_whoIsOn_3 : decode cX8_whoIsOn 3 = .ok (.istore 4, 2) := by decide +kernel
theorem dX8_whoIsOn_5 : decode cX8_whoIsOn 5 = .ok (.iload 4, 2) := by decide +kernel
theorem dX8_whoIsOn_7 : decode cX8_whoIsOn 7 = .ok (.iload_n 2, 1) := by decide +kernel
theorem dX8_whoIsOn_8 : decode cX8_whoIsOn 8 = .ok (.if_icmp .ge 27, 3) := by decide +kernel
theorem dX8_whoIsOn_11 : decode cX8_whoIsOn 11 = .ok (.aload_n 0, 1) := by decide +kernel
theorem dX8_whoIsOn_12 : decode cX8_whoIsOn 12 = .ok (.getfield 38, 3) := by decide +kernel
theorem dX8_whoIsOn_15 : decode cX8_whoIsOn 15 = .ok (.iload 4, 2) := by decide +kernel
theorem dX8_whoIsOn_17 : decode cX8_whoIsOn 17 = .ok (.iaload, 1) := by decide +kernel
theorem dX8_whoIsOn_18 : decode cX8_whoIsOn 18 = .ok (.iload_n 1, 1) := by decide +kernel
theorem dX8_whoIsOn_19 : decode cX8_whoIsOn 19 = .ok (.if_icmp .ne 8, 3) := by decide +kernel
theorem dX8_whoIsOn_22 : decode cX8_whoIsOn 22 = .ok (.iload 4, 2) := by decide +kernel
theorem dX8_whoIsOn_24 : decode cX8_whoIsOn 24 = .ok (.goto 4, 3) := by decide +kernel
theorem dX8_whoIsOn_27 : decode cX8_whoIsOn 27 = .ok (.iload_n 3, 1) := by decide +kernel
theorem dX8_whoIsOn_28 : decode cX8_whoIsOn 28 = .ok (.istore_n 3, 1) := by decide +kernel
theorem dX8_whoIsOn_29 : decode cX8_whoIsOn 29 = .ok (.iinc 4 1, 3) := by decide +kernel
theorem dX8_whoIsOn_32 : decode cX8_whoIsOn 32 = .ok (.goto (-27), 3) := by decide +kernel
theorem dX8_whoIsOn_35 : decode cX8_whoIsOn 35 = .ok (.iload_n 3, 1) := by decide +kernel
theorem dX8_whoIsOn_36 : decode cX8_whoIsOn 36 = .ok (.ireturn, 1) := by decide +kernel
theorem dX8_spot_0 : decode cX8_spot 0 = .ok (.aload_n 0, 1) := by decide +kernel
theorem dX8_spot_1 : decode cX8_spot 1 = .ok (.iload_n 1, 1) := by decide +kernel
theorem dX8_spot_2 : decode cX8_spot 2 = .ok (.invokevirtual 261, 3) := by decide +kernel
theorem dX8_spot_5 : decode cX8_spot 5 = .ok (.ifCond .ne 6, 3) := by decide +kernel
theorem dX8_spot_8 : decode cX8_spot 8 = .ok (.ldc 255, 2) := by decide +kernel
theorem dX8_spot_10 : decode cX8_spot 10 = .ok (.ireturn, 1) := by decide +kernel
theorem dX8_spot_11 : decode cX8_spot 11 = .ok (.iload_n 2, 1) := by decide +kernel
theorem dX8_spot_12 : decode cX8_spot 12 = .ok (.ifCond .ne 12, 3) := by decide +kernel
theorem dX8_spot_15 : decode cX8_spot 15 = .ok (.aload_n 0, 1) := by decide +kernel
theorem dX8_spot_16 : decode cX8_spot 16 = .ok (.getfield 20, 3) := by decide +kernel
theorem dX8_spot_19 : decode cX8_spot 19 = .ok (.iload_n 1, 1) := by decide +kernel
theorem dX8_spot_20 : decode cX8_spot 20 = .ok (.iaload, 1) := by decide +kernel
theorem dX8_spot_21 : decode cX8_spot 21 = .ok (.goto 50, 3) := by decide +kernel
theorem dX8_spot_24 : decode cX8_spot 24 = .ok (.iload_n 2, 1) := by decide +kernel
theorem dX8_spot_25 : decode cX8_spot 25 = .ok (.iconst 1, 1) := by decide +kernel
theorem dX8_spot_26 : decode cX8_spot 26 = .ok (.if_icmp .ne 12, 3) := by decide +kernel
theorem dX8_spot_29 : decode cX8_spot 29 = .ok (.aload_n 0, 1) := by decide +kernel
theorem dX8_spot_30 : decode cX8_spot 30 = .ok (.getfield 23, 3) := by decide +kernel
theorem dX8_spot_33 : decode cX8_spot 33 = .ok (.iload_n 1, 1) := by decide +kernel
theorem dX8_spot_34 : decode cX8_spot 34 = .ok (.iaload, 1) := by decide +kernel
theorem dX8_spot_35 : decode cX8_spot 35 = .ok (.goto 36, 3) := by decide +kernel
theorem dX8_spot_38 : decode cX8_spot 38 = .ok (.iload_n 2, 1) := by decide +kernel
theorem dX8_spot_39 : decode cX8_spot 39 = .ok (.iconst 2, 1) := by decide +kernel
theorem dX8_spot_40 : decode cX8_spot 40 = .ok (.if_icmp .ne 12, 3) := by decide +kernel
theorem dX8_spot_43 : decode cX8_spot 43 = .ok (.aload_n 0, 1) := by decide +kernel
theorem dX8_spot_44 : decode cX8_spot 44 = .ok (.getfield 26, 3) := by decide +kernel
theorem dX8_spot_47 : decode cX8_spot 47 = .ok (.iload_n 1, 1) := by decide +kernel
theorem dX8_spot_48 : decode cX8_spot 48 = .ok (.iaload, 1) := by decide +kernel
theorem dX8_spot_49 : decode cX8_spot 49 = .ok (.goto 22, 3) := by decide +kernel
theorem dX8_spot_52 : decode cX8_spot 52 = .ok (.iload_n 2, 1) := by decide +kernel
theorem dX8_spot_53 : decode cX8_spot 53 = .ok (.iconst 3, 1) := by decide +kernel
theorem dX8_spot_54 : decode cX8_spot 54 = .ok (.if_icmp .ne 15, 3) := by decide +kernel
theorem dX8_spot_57 : decode cX8_spot 57 = .ok (.aload_n 0, 1) := by decide +kernel
theorem dX8_spot_58 : decode cX8_spot 58 = .ok (.iload_n 1, 1) := by decide +kernel
theorem dX8_spot_59 : decode cX8_spot 59 = .ok (.aload_n 0, 1) := by decide +kernel
theorem dX8_spot_60 : decode cX8_spot 60 = .ok (.getfield 127, 3) := by decide +kernel
theorem dX8_spot_63 : decode cX8_spot 63 = .ok (.invokevirtual 264, 3) := by decide +kernel
theorem dX8_spot_66 : decode cX8_spot 66 = .ok (.goto 5, 3) := by decide +kernel
theorem dX8_spot_69 : decode cX8_spot 69 = .ok (.ldc 135, 2) := by decide +kernel
theorem dX8_spot_71 : decode cX8_spot 71 = .ok (.ireturn, 1) := by decide +kernel
theorem dX8_tallOf_0 : decode cX8_tallOf 0 = .ok (.aload_n 0, 1) := by decide +kernel
theorem dX8_tallOf_1 : decode cX8_tallOf 1 = .ok (.getfield 41, 3) := by decide +kernel
theorem dX8_tallOf_4 : decode cX8_tallOf 4 = .ok (.iload_n 1, 1) := by decide +kernel
theorem dX8_tallOf_5 : decode cX8_tallOf 5 = .ok (.iaload, 1) := by decide +kernel
theorem dX8_tallOf_6 : decode cX8_tallOf 6 = .ok (.ifCond .ge 7, 3) := by decide +kernel
theorem dX8_tallOf_9 : decode cX8_tallOf 9 = .ok (.iconst 0, 1) := by decide +kernel
theorem dX8_tallOf_10 : decode cX8_tallOf 10 = .ok (.goto 14, 3) := by decide +kernel
theorem dX8_tallOf_13 : decode cX8_tallOf 13 = .ok (.aload_n 0, 1) := by decide +kernel
theorem dX8_tallOf_14 : decode cX8_tallOf 14 = .ok (.getfield 32, 3) := by decide +kernel
theorem dX8_tallOf_17 : decode cX8_tallOf 17 = .ok (.aload_n 0, 1) := by decide +kernel
theorem dX8_tallOf_18 : decode cX8_tallOf 18 = .ok (.getfield 41, 3) := by decide +kernel
theorem dX8_tallOf_21 : decode cX8_tallOf 21 = .ok (.iload_n 1, 1) := by decide +kernel
theorem dX8_tallOf_22 : decode cX8_tallOf 22 = .ok (.iaload, 1) := by decide +kernel
theorem dX8_tallOf_23 : decode cX8_tallOf 23 = .ok (.iaload, 1) := by decide +kernel
theorem dX8_tallOf_24 : decode cX8_tallOf 24 = .ok (.istore_n 2, 1) := by decide +kernel
theorem dX8_tallOf_25 : decode cX8_tallOf 25 = .ok (.aload_n 0, 1) := by decide +kernel
theorem dX8_tallOf_26 : decode cX8_tallOf 26 = .ok (.getfield 29, 3) := by decide +kernel
theorem dX8_tallOf_29 : decode cX8_tallOf 29 = .ok (.iload_n 1, 1) := by decide +kernel
theorem dX8_tallOf_30 : decode cX8_tallOf 30 = .ok (.iaload, 1) := by decide +kernel
theorem dX8_tallOf_31 : decode cX8_tallOf 31 = .ok (.iload_n 2, 1) := by decide +kernel
theorem dX8_tallOf_32 : decode cX8_tallOf 32 = .ok (.iadd, 1) := by decide +kernel
theorem dX8_tallOf_33 : decode cX8_tallOf 33 = .ok (.aload_n 0, 1) := by decide +kernel
theorem dX8_tallOf_34 : decode cX8_tallOf 34 = .ok (.getfield 38, 3) := by decide +kernel
theorem dX8_tallOf_37 : decode cX8_tallOf 37 = .ok (.iload_n 1, 1) := by decide +kernel
theorem dX8_tallOf_38 : decode cX8_tallOf 38 = .ok (.iaload, 1) := by decide +kernel
theorem dX8_tallOf_39 : decode cX8_tallOf 39 = .ok (.ifCond .ge 7, 3) := by decide +kernel
theorem dX8_tallOf_42 : decode cX8_tallOf 42 = .ok (.iconst 0, 1) := by decide +kernel
theorem dX8_tallOf_43 : decode cX8_tallOf 43 = .ok (.goto 14, 3) := by decide +kernel
theorem dX8_tallOf_46 : decode cX8_tallOf 46 = .ok (.aload_n 0, 1) := by decide +kernel
theorem dX8_tallOf_47 : decode cX8_tallOf 47 = .ok (.getfield 20, 3) := by decide +kernel
theorem dX8_tallOf_50 : decode cX8_tallOf 50 = .ok (.aload_n 0, 1) := by decide +kernel
theorem dX8_tallOf_51 : decode cX8_tallOf 51 = .ok (.getfield 38, 3) := by decide +kernel
theorem dX8_tallOf_54 : decode cX8_tallOf 54 = .ok (.iload_n 1, 1) := by decide +kernel
theorem dX8_tallOf_55 : decode cX8_tallOf 55 = .ok (.iaload, 1) := by decide +kernel
theorem dX8_tallOf_56 : decode cX8_tallOf 56 = .ok (.iaload, 1) := by decide +kernel
theorem dX8_tallOf_57 : decode cX8_tallOf 57 = .ok (.iadd, 1) := by decide +kernel
theorem dX8_tallOf_58 : decode cX8_tallOf 58 = .ok (.ireturn, 1) := by decide +kernel
theorem dX8_beggar_0 : decode cX8_beggar 0 = .ok (.aload_n 0, 1) := by decide +kernel
theorem dX8_beggar_1 : decode cX8_beggar 1 = .ok (.iload_n 1, 1) := by decide +kernel
theorem dX8_beggar_2 : decode cX8_beggar 2 = .ok (.invokevirtual 267, 3) := by decide +kernel
theorem dX8_beggar_5 : decode cX8_beggar 5 = .ok (.ifCond .ne 6, 3) := by decide +kernel
theorem dX8_beggar_8 : decode cX8_beggar 8 = .ok (.ldc 255, 2) := by decide +kernel
theorem dX8_beggar_10 : decode cX8_beggar 10 = .ok (.ireturn, 1) := by decide +kernel
theorem dX8_beggar_11 : decode cX8_beggar 11 = .ok (.iload_n 2, 1) := by decide +kernel
theorem dX8_beggar_12 : decode cX8_beggar 12 = .ok (.tableswitch 70 0 4 #[36, 43, 50, 57, 63], 36) := by decide +kernel
theorem dX8_beggar_48 : decode cX8_beggar 48 = .ok (.aload_n 0, 1) := by decide +kernel
theorem dX8_beggar_49 : decode cX8_beggar 49 = .ok (.getfield 29, 3) := by decide +kernel
theorem dX8_beggar_52 : decode cX8_beggar 52 = .ok (.iload_n 1, 1) := by decide +kernel
theorem dX8_beggar_53 : decode cX8_beggar 53 = .ok (.iaload, 1) := by decide +kernel
theorem dX8_beggar_54 : decode cX8_beggar 54 = .ok (.ireturn, 1) := by decide +kernel
theorem dX8_beggar_55 : decode cX8_beggar 55 = .ok (.aload_n 0, 1) := by decide +kernel
theorem dX8_beggar_56 : decode cX8_beggar 56 = .ok (.getfield 38, 3) := by decide +kernel
theorem dX8_beggar_59 : decode cX8_beggar 59 = .ok (.iload_n 1, 1) := by decide +kernel
theorem dX8_beggar_60 : decode cX8_beggar 60 = .ok (.iaload, 1) := by decide +kernel
theorem dX8_beggar_61 : decode cX8_beggar 61 = .ok (.ireturn, 1) := by decide +kernel
theorem dX8_beggar_62 : decode cX8_beggar 62 = .ok (.aload_n 0, 1) := by decide +kernel
theorem dX8_beggar_63 : decode cX8_beggar 63 = .ok (.getfield 41, 3) := by decide +kernel
theorem dX8_beggar_66 : decode cX8_beggar 66 = .ok (.iload_n 1, 1) := by decide +kernel
theorem dX8_beggar_67 : decode cX8_beggar 67 = .ok (.iaload, 1) := by decide +kernel
theorem dX8_beggar_68 : decode cX8_beggar 68 = .ok (.ireturn, 1) := by decide +kernel
theorem dX8_beggar_69 : decode cX8_beggar 69 = .ok (.aload_n 0, 1) := by decide +kernel
theorem dX8_beggar_70 : decode cX8_beggar 70 = .ok (.iload_n 1, 1) := by decide +kernel
theorem dX8_beggar_71 : decode cX8_beggar 71 = .ok (.invokevirtual 270, 3) := by decide +kernel
theorem dX8_beggar_74 : decode cX8_beggar 74 = .ok (.ireturn, 1) := by decide +kernel
theorem dX8_beggar_75 : decode cX8_beggar 75 = .ok (.aload_n 0, 1) := by decide +kernel
theorem dX8_beggar_76 : decode cX8_beggar 76 = .ok (.getfield 44, 3) := by decide +kernel
theorem dX8_beggar_79 : decode cX8_beggar 79 = .ok (.iload_n 1, 1) := by decide +kernel
theorem dX8_beggar_80 : decode cX8_beggar 80 = .ok (.iaload, 1) := by decide +kernel
theorem dX8_beggar_81 : decode cX8_beggar 81 = .ok (.ireturn, 1) := by decide +kernel
theorem dX8_beggar_82 : decode cX8_beggar 82 = .ok (.ldc 135, 2) := by decide +kernel
theorem dX8_beggar_84 : decode cX8_beggar 84 = .ok (.ireturn, 1) := by decide +kernel
theorem dX8_onWhom_0 : decode cX8_onWhom 0 = .ok (.iconst (-1), 1) := by decide +kernel
theorem dX8_onWhom_1 : decode cX8_onWhom 1 = .ok (.istore_n 2, 1) := by decide +kernel
theorem dX8_onWhom_2 : decode cX8_onWhom 2 = .ok (.iconst 0, 1) := by decide +kernel
theorem dX8_onWhom_3 : decode cX8_onWhom 3 = .ok (.istore_n 3, 1) := by decide +kernel
theorem dX8_onWhom_4 : decode cX8_onWhom 4 = .ok (.iload_n 3, 1) := by decide +kernel
theorem dX8_onWhom_5 : decode cX8_onWhom 5 = .ok (.aload_n 0, 1) := by decide +kernel
theorem dX8_onWhom_6 : decode cX8_onWhom 6 = .ok (.getfield 127, 3) := by decide +kernel
theorem dX8_onWhom_9 : decode cX8_onWhom 9 = .ok (.if_icmp .ge 25, 3) := by decide +kernel
theorem dX8_onWhom_12 : decode cX8_onWhom 12 = .ok (.aload_n 0, 1) := by decide +kernel
theorem dX8_onWhom_13 : decode cX8_onWhom 13 = .ok (.getfield 41, 3) := by decide +kernel
theorem dX8_onWhom_16 : decode cX8_onWhom 16 = .ok (.iload_n 3, 1) := by decide +kernel
theorem dX8_onWhom_17 : decode cX8_onWhom 17 = .ok (.iaload, 1) := by decide +kernel
theorem dX8_onWhom_18 : decode cX8_onWhom 18 = .ok (.iload_n 1, 1) := by decide +kernel
theorem dX8_onWhom_19 : decode cX8_onWhom 19 = .ok (.if_icmp .ne 7, 3) := by decide +kernel
theorem dX8_onWhom_22 : decode cX8_onWhom 22 = .ok (.iload_n 3, 1) := by decide +kernel
theorem dX8_onWhom_23 : decode cX8_onWhom 23 = .ok (.goto 4, 3) := by decide +kernel
theorem dX8_onWhom_26 : decode cX8_onWhom 26 = .ok (.iload_n 2, 1) := by decide +kernel
theorem dX8_onWhom_27 : decode cX8_onWhom 27 = .ok (.istore_n 2, 1) := by decide +kernel
theorem dX8_onWhom_28 : decode cX8_onWhom 28 = .ok (.iinc 3 1, 3) := by decide +kernel
theorem dX8_onWhom_31 : decode cX8_onWhom 31 = .ok (.goto (-27), 3) := by decide +kernel
theorem dX8_onWhom_34 : decode cX8_onWhom 34 = .ok (.iload_n 2, 1) := by decide +kernel
theorem dX8_onWhom_35 : decode cX8_onWhom 35 = .ok (.ireturn, 1) := by decide +kernel
theorem dX8_hat_0 : decode cX8_hat 0 = .ok (.aload_n 0, 1) := by decide +kernel
theorem dX8_hat_1 : decode cX8_hat 1 = .ok (.iload_n 1, 1) := by decide +kernel
theorem dX8_hat_2 : decode cX8_hat 2 = .ok (.invokevirtual 274, 3) := by decide +kernel
theorem dX8_hat_5 : decode cX8_hat 5 = .ok (.ifCond .ne 6, 3) := by decide +kernel
theorem dX8_hat_8 : decode cX8_hat 8 = .ok (.ldc 255, 2) := by decide +kernel
theorem dX8_hat_10 : decode cX8_hat 10 = .ok (.ireturn, 1) := by decide +kernel
theorem dX8_hat_11 : decode cX8_hat 11 = .ok (.iload_n 2, 1) := by decide +kernel
theorem dX8_hat_12 : decode cX8_hat 12 = .ok (.ifCond .ne 12, 3) := by decide +kernel
theorem dX8_hat_15 : decode cX8_hat 15 = .ok (.aload_n 0, 1) := by decide +kernel
theorem dX8_hat_16 : decode cX8_hat 16 = .ok (.getfield 32, 3) := by decide +kernel
theorem dX8_hat_19 : decode cX8_hat 19 = .ok (.iload_n 1, 1) := by decide +kernel
theorem dX8_hat_20 : decode cX8_hat 20 = .ok (.iaload, 1) := by decide +kernel
theorem dX8_hat_21 : decode cX8_hat 21 = .ok (.goto 32, 3) := by decide +kernel
theorem dX8_hat_24 : decode cX8_hat 24 = .ok (.iload_n 2, 1) := by decide +kernel
theorem dX8_hat_25 : decode cX8_hat 25 = .ok (.iconst 1, 1) := by decide +kernel
theorem dX8_hat_26 : decode cX8_hat 26 = .ok (.if_icmp .ne 12, 3) := by decide +kernel
theorem dX8_hat_29 : decode cX8_hat 29 = .ok (.aload_n 0, 1) := by decide +kernel
theorem dX8_hat_30 : decode cX8_hat 30 = .ok (.getfield 35, 3) := by decide +kernel
theorem dX8_hat_33 : decode cX8_hat 33 = .ok (.iload_n 1, 1) := by decide +kernel
theorem dX8_hat_34 : decode cX8_hat 34 = .ok (.iaload, 1) := by decide +kernel
theorem dX8_hat_35 : decode cX8_hat 35 = .ok (.goto 18, 3) := by decide +kernel
theorem dX8_hat_38 : decode cX8_hat 38 = .ok (.iload_n 2, 1) := by decide +kernel
theorem dX8_hat_39 : decode cX8_hat 39 = .ok (.iconst 2, 1) := by decide +kernel
theorem dX8_hat_40 : decode cX8_hat 40 = .ok (.if_icmp .ne 11, 3) := by decide +kernel
theorem dX8_hat_43 : decode cX8_hat 43 = .ok (.aload_n 0, 1) := by decide +kernel
theorem dX8_hat_44 : decode cX8_hat 44 = .ok (.iload_n 1, 1) := by decide +kernel
theorem dX8_hat_45 : decode cX8_hat 45 = .ok (.invokevirtual 277, 3) := by decide +kernel
theorem dX8_hat_48 : decode cX8_hat 48 = .ok (.goto 5, 3) := by decide +kernel
theorem dX8_hat_51 : decode cX8_hat 51 = .ok (.ldc 135, 2) := by decide +kernel
theorem dX8_hat_53 : decode cX8_hat 53 = .ok (.ireturn, 1) := by decide +kernel
theorem dX8_lengthBy_0 : decode cX8_lengthBy 0 = .ok (.iload_n 1, 1) := by decide +kernel
theorem dX8_lengthBy_1 : decode cX8_lengthBy 1 = .ok (.iload_n 3, 1) := by decide +kernel
theorem dX8_lengthBy_2 : decode cX8_lengthBy 2 = .ok (.imul, 1) := by decide +kernel
theorem dX8_lengthBy_3 : decode cX8_lengthBy 3 = .ok (.bipush 10, 2) := by decide +kernel
theorem dX8_lengthBy_5 : decode cX8_lengthBy 5 = .ok (.idiv, 1) := by decide +kernel
theorem dX8_lengthBy_6 : decode cX8_lengthBy 6 = .ok (.istore 4, 2) := by decide +kernel
theorem dX8_lengthBy_8 : decode cX8_lengthBy 8 = .ok (.iload 4, 2) := by decide +kernel
theorem dX8_lengthBy_10 : decode cX8_lengthBy 10 = .ok (.bipush 10, 2) := by decide +kernel
theorem dX8_lengthBy_12 : decode cX8_lengthBy 12 = .ok (.aload_n 0, 1) := by decide +kernel
theorem dX8_lengthBy_13 : decode cX8_lengthBy 13 = .ok (.getfield 23, 3) := by decide +kernel
theorem dX8_lengthBy_16 : decode cX8_lengthBy 16 = .ok (.iload_n 2, 1) := by decide +kernel
theorem dX8_lengthBy_17 : decode cX8_lengthBy 17 = .ok (.iaload, 1) := by decide +kernel
theorem dX8_lengthBy_18 : decode cX8_lengthBy 18 = .ok (.isub, 1) := by decide +kernel
theorem dX8_lengthBy_19 : decode cX8_lengthBy 19 = .ok (.imul, 1) := by decide +kernel
theorem dX8_lengthBy_20 : decode cX8_lengthBy 20 = .ok (.bipush 10, 2) := by decide +kernel
theorem dX8_lengthBy_22 : decode cX8_lengthBy 22 = .ok (.idiv, 1) := by decide +kernel
theorem dX8_lengthBy_23 : decode cX8_lengthBy 23 = .ok (.istore 4, 2) := by decide +kernel
theorem dX8_lengthBy_25 : decode cX8_lengthBy 25 = .ok (.aload_n 0, 1) := by decide +kernel
theorem dX8_lengthBy_26 : decode cX8_lengthBy 26 = .ok (.getfield 26, 3) := by decide +kernel
theorem dX8_lengthBy_29 : decode cX8_lengthBy 29 = .ok (.iload_n 2, 1) := by decide +kernel
theorem dX8_lengthBy_30 : decode cX8_lengthBy 30 = .ok (.iaload, 1) := by decide +kernel
theorem dX8_lengthBy_31 : decode cX8_lengthBy 31 = .ok (.ifCond .le 23, 3) := by decide +kernel
theorem dX8_lengthBy_34 : decode cX8_lengthBy 34 = .ok (.iload 4, 2) := by decide +kernel
theorem dX8_lengthBy_36 : decode cX8_lengthBy 36 = .ok (.aload_n 0, 1) := by decide +kernel
theorem dX8_lengthBy_37 : decode cX8_lengthBy 37 = .ok (.getfield 26, 3) := by decide +kernel
theorem dX8_lengthBy_40 : decode cX8_lengthBy 40 = .ok (.iload_n 2, 1) := by decide +kernel
theorem dX8_lengthBy_41 : decode cX8_lengthBy 41 = .ok (.iaload, 1) := by decide +kernel
theorem dX8_lengthBy_42 : decode cX8_lengthBy 42 = .ok (.if_icmp .le 12, 3) := by decide +kernel
theorem dX8_lengthBy_45 : decode cX8_lengthBy 45 = .ok (.aload_n 0, 1) := by decide +kernel
theorem dX8_lengthBy_46 : decode cX8_lengthBy 46 = .ok (.getfield 26, 3) := by decide +kernel
theorem dX8_lengthBy_49 : decode cX8_lengthBy 49 = .ok (.iload_n 2, 1) := by decide +kernel
theorem dX8_lengthBy_50 : decode cX8_lengthBy 50 = .ok (.iaload, 1) := by decide +kernel
theorem dX8_lengthBy_51 : decode cX8_lengthBy 51 = .ok (.goto 5, 3) := by decide +kernel
theorem dX8_lengthBy_54 : decode cX8_lengthBy 54 = .ok (.iload 4, 2) := by decide +kernel
theorem dX8_lengthBy_56 : decode cX8_lengthBy 56 = .ok (.ireturn, 1) := by decide +kernel
theorem dX8_shadowOf_0 : decode cX8_shadowOf 0 = .ok (.aload_n 0, 1) := by decide +kernel
theorem dX8_shadowOf_1 : decode cX8_shadowOf 1 = .ok (.getfield 38, 3) := by decide +kernel
theorem dX8_shadowOf_4 : decode cX8_shadowOf 4 = .ok (.iload_n 1, 1) := by decide +kernel
theorem dX8_shadowOf_5 : decode cX8_shadowOf 5 = .ok (.iaload, 1) := by decide +kernel
theorem dX8_shadowOf_6 : decode cX8_shadowOf 6 = .ok (.istore 4, 2) := by decide +kernel
theorem dX8_shadowOf_8 : decode cX8_shadowOf 8 = .ok (.iload 4, 2) := by decide +kernel
theorem dX8_shadowOf_10 : decode cX8_shadowOf 10 = .ok (.ifCond .ge 5, 3) := by decide +kernel
theorem dX8_shadowOf_13 : decode cX8_shadowOf 13 = .ok (.iconst 0, 1) := by decide +kernel
theorem dX8_shadowOf_14 : decode cX8_shadowOf 14 = .ok (.ireturn, 1) := by decide +kernel
theorem dX8_shadowOf_15 : decode cX8_shadowOf 15 = .ok (.iload 4, 2) := by decide +kernel
theorem dX8_shadowOf_17 : decode cX8_shadowOf 17 = .ok (.ifCond .ne 7, 3) := by decide +kernel
theorem dX8_shadowOf_20 : decode cX8_shadowOf 20 = .ok (.iconst (-1), 1) := by decide +kernel
theorem dX8_shadowOf_21 : decode cX8_shadowOf 21 = .ok (.goto 12, 3) := by decide +kernel
theorem dX8_shadowOf_24 : decode cX8_shadowOf 24 = .ok (.aload_n 0, 1) := by decide +kernel
theorem dX8_shadowOf_25 : decode cX8_shadowOf 25 = .ok (.iload 4, 2) := by decide +kernel
theorem dX8_shadowOf_27 : decode cX8_shadowOf 27 = .ok (.iconst 1, 1) := by decide +kernel
theorem dX8_shadowOf_28 : decode cX8_shadowOf 28 = .ok (.isub, 1) := by decide +kernel
theorem dX8_shadowOf_29 : decode cX8_shadowOf 29 = .ok (.iload_n 2, 1) := by decide +kernel
theorem dX8_shadowOf_30 : decode cX8_shadowOf 30 = .ok (.invokevirtual 264, 3) := by decide +kernel
theorem dX8_shadowOf_33 : decode cX8_shadowOf 33 = .ok (.istore 5, 2) := by decide +kernel
theorem dX8_shadowOf_35 : decode cX8_shadowOf 35 = .ok (.iload 5, 2) := by decide +kernel
theorem dX8_shadowOf_37 : decode cX8_shadowOf 37 = .ok (.ifCond .lt 21, 3) := by decide +kernel
theorem dX8_shadowOf_40 : decode cX8_shadowOf 40 = .ok (.aload_n 0, 1) := by decide +kernel
theorem dX8_shadowOf_41 : decode cX8_shadowOf 41 = .ok (.iload 5, 2) := by decide +kernel
theorem dX8_shadowOf_43 : decode cX8_shadowOf 43 = .ok (.invokevirtual 270, 3) := by decide +kernel
theorem dX8_shadowOf_46 : decode cX8_shadowOf 46 = .ok (.aload_n 0, 1) := by decide +kernel
theorem dX8_shadowOf_47 : decode cX8_shadowOf 47 = .ok (.iload_n 1, 1) := by decide +kernel
theorem dX8_shadowOf_48 : decode cX8_shadowOf 48 = .ok (.invokevirtual 270, 3) := by decide +kernel
theorem dX8_shadowOf_51 : decode cX8_shadowOf 51 = .ok (.if_icmp .le 7, 3) := by decide +kernel
theorem dX8_shadowOf_54 : decode cX8_shadowOf 54 = .ok (.iconst 0, 1) := by decide +kernel
theorem dX8_shadowOf_55 : decode cX8_shadowOf 55 = .ok (.goto 15, 3) := by decide +kernel
theorem dX8_shadowOf_58 : decode cX8_shadowOf 58 = .ok (.aload_n 0, 1) := by decide +kernel
theorem dX8_shadowOf_59 : decode cX8_shadowOf 59 = .ok (.aload_n 0, 1) := by decide +kernel
theorem dX8_shadowOf_60 : decode cX8_shadowOf 60 = .ok (.iload_n 1, 1) := by decide +kernel
theorem dX8_shadowOf_61 : decode cX8_shadowOf 61 = .ok (.invokevirtual 270, 3) := by decide +kernel
theorem dX8_shadowOf_64 : decode cX8_shadowOf 64 = .ok (.iload 4, 2) := by decide +kernel
theorem dX8_shadowOf_66 : decode cX8_shadowOf 66 = .ok (.iload_n 3, 1) := by decide +kernel
theorem dX8_shadowOf_67 : decode cX8_shadowOf 67 = .ok (.invokevirtual 280, 3) := by decide +kernel
theorem dX8_shadowOf_70 : decode cX8_shadowOf 70 = .ok (.ireturn, 1) := by decide +kernel
theorem dX8_costOf_0 : decode cX8_costOf 0 = .ok (.aload_n 0, 1) := by decide +kernel
theorem dX8_costOf_1 : decode cX8_costOf 1 = .ok (.getfield 41, 3) := by decide +kernel
theorem dX8_costOf_4 : decode cX8_costOf 4 = .ok (.iload_n 1, 1) := by decide +kernel
theorem dX8_costOf_5 : decode cX8_costOf 5 = .ok (.iaload, 1) := by decide +kernel
theorem dX8_costOf_6 : decode cX8_costOf 6 = .ok (.ifCond .ge 7, 3) := by decide +kernel
theorem dX8_costOf_9 : decode cX8_costOf 9 = .ok (.iconst 0, 1) := by decide +kernel
theorem dX8_costOf_10 : decode cX8_costOf 10 = .ok (.goto 14, 3) := by decide +kernel
theorem dX8_costOf_13 : decode cX8_costOf 13 = .ok (.aload_n 0, 1) := by decide +kernel
theorem dX8_costOf_14 : decode cX8_costOf 14 = .ok (.getfield 35, 3) := by decide +kernel
theorem dX8_costOf_17 : decode cX8_costOf 17 = .ok (.aload_n 0, 1) := by decide +kernel
theorem dX8_costOf_18 : decode cX8_costOf 18 = .ok (.getfield 41, 3) := by decide +kernel
theorem dX8_costOf_21 : decode cX8_costOf 21 = .ok (.iload_n 1, 1) := by decide +kernel
theorem dX8_costOf_22 : decode cX8_costOf 22 = .ok (.iaload, 1) := by decide +kernel
theorem dX8_costOf_23 : decode cX8_costOf 23 = .ok (.iaload, 1) := by decide +kernel
theorem dX8_costOf_24 : decode cX8_costOf 24 = .ok (.ireturn, 1) := by decide +kernel
theorem dX8_findAlms_0 : decode cX8_findAlms 0 = .ok (.iconst 0, 1) := by decide +kernel
theorem dX8_findAlms_1 : decode cX8_findAlms 1 = .ok (.istore_n 3, 1) := by decide +kernel
theorem dX8_findAlms_2 : decode cX8_findAlms 2 = .ok (.iconst (-1), 1) := by decide +kernel
theorem dX8_findAlms_3 : decode cX8_findAlms 3 = .ok (.istore 4, 2) := by decide +kernel
theorem dX8_findAlms_5 : decode cX8_findAlms 5 = .ok (.iconst 0, 1) := by decide +kernel
theorem dX8_findAlms_6 : decode cX8_findAlms 6 = .ok (.istore 5, 2) := by decide +kernel
theorem dX8_findAlms_8 : decode cX8_findAlms 8 = .ok (.iload 5, 2) := by decide +kernel
theorem dX8_findAlms_10 : decode cX8_findAlms 10 = .ok (.iload_n 1, 1) := by decide +kernel
theorem dX8_findAlms_11 : decode cX8_findAlms 11 = .ok (.if_icmp .ge 87, 3) := by decide +kernel
theorem dX8_findAlms_14 : decode cX8_findAlms 14 = .ok (.aload_n 0, 1) := by decide +kernel
theorem dX8_findAlms_15 : decode cX8_findAlms 15 = .ok (.getfield 77, 3) := by decide +kernel
theorem dX8_findAlms_18 : decode cX8_findAlms 18 = .ok (.iload 5, 2) := by decide +kernel
theorem dX8_findAlms_20 : decode cX8_findAlms 20 = .ok (.aload_n 0, 1) := by decide +kernel
theorem dX8_findAlms_21 : decode cX8_findAlms 21 = .ok (.iload 5, 2) := by decide +kernel
theorem dX8_findAlms_23 : decode cX8_findAlms 23 = .ok (.iload_n 1, 1) := by decide +kernel
theorem dX8_findAlms_24 : decode cX8_findAlms 24 = .ok (.iload_n 2, 1) := by decide +kernel
theorem dX8_findAlms_25 : decode cX8_findAlms 25 = .ok (.invokevirtual 284, 3) := by decide +kernel
theorem dX8_findAlms_28 : decode cX8_findAlms 28 = .ok (.iastore, 1) := by decide +kernel
theorem dX8_findAlms_29 : decode cX8_findAlms 29 = .ok (.iload_n 3, 1) := by decide +kernel
theorem dX8_findAlms_30 : decode cX8_findAlms 30 = .ok (.aload_n 0, 1) := by decide +kernel
theorem dX8_findAlms_31 : decode cX8_findAlms 31 = .ok (.getfield 77, 3) := by decide +kernel
theorem dX8_findAlms_34 : decode cX8_findAlms 34 = .ok (.iload 5, 2) := by decide +kernel
theorem dX8_findAlms_36 : decode cX8_findAlms 36 = .ok (.iaload, 1) := by decide +kernel
theorem dX8_findAlms_37 : decode cX8_findAlms 37 = .ok (.iadd, 1) := by decide +kernel
theorem dX8_findAlms_38 : decode cX8_findAlms 38 = .ok (.istore_n 3, 1) := by decide +kernel
theorem dX8_findAlms_39 : decode cX8_findAlms 39 = .ok (.aload_n 0, 1) := by decide +kernel
theorem dX8_findAlms_40 : decode cX8_findAlms 40 = .ok (.getfield 38, 3) := by decide +kernel
theorem dX8_findAlms_43 : decode cX8_findAlms 43 = .ok (.iload 5, 2) := by decide +kernel
theorem dX8_findAlms_45 : decode cX8_findAlms 45 = .ok (.iaload, 1) := by decide +kernel
theorem dX8_findAlms_46 : decode cX8_findAlms 46 = .ok (.ifCond .lt 29, 3) := by decide +kernel
theorem dX8_findAlms_49 : decode cX8_findAlms 49 = .ok (.iload 4, 2) := by decide +kernel
theorem dX8_findAlms_51 : decode cX8_findAlms 51 = .ok (.ifCond .lt 20, 3) := by decide +kernel
theorem dX8_findAlms_54 : decode cX8_findAlms 54 = .ok (.aload_n 0, 1) := by decide +kernel
theorem dX8_findAlms_55 : decode cX8_findAlms 55 = .ok (.getfield 77, 3) := by decide +kernel
theorem dX8_findAlms_58 : decode cX8_findAlms 58 = .ok (.iload 5, 2) := by decide +kernel
theorem dX8_findAlms_60 : decode cX8_findAlms 60 = .ok (.iaload, 1) := by decide +kernel
theorem dX8_findAlms_61 : decode cX8_findAlms 61 = .ok (.aload_n 0, 1) := by decide +kernel
theorem dX8_findAlms_62 : decode cX8_findAlms 62 = .ok (.getfield 77, 3) := by decide +kernel
theorem dX8_findAlms_65 : decode cX8_findAlms 65 = .ok (.iload 4, 2) := by decide +kernel
theorem dX8_findAlms_67 : decode cX8_findAlms 67 = .ok (.iaload, 1) := by decide +kernel
theorem dX8_findAlms_68 : decode cX8_findAlms 68 = .ok (.if_icmp .le 7, 3) := by decide +kernel
theorem dX8_findAlms_71 : decode cX8_findAlms 71 = .ok (.iconst 1, 1) := by decide +kernel
theorem dX8_findAlms_72 : decode cX8_findAlms 72 = .ok (.goto 4, 3) := by decide +kernel
theorem dX8_findAlms_75 : decode cX8_findAlms 75 = .ok (.iconst 0, 1) := by decide +kernel
theorem dX8_findAlms_76 : decode cX8_findAlms 76 = .ok (.istore 6, 2) := by decide +kernel
theorem dX8_findAlms_78 : decode cX8_findAlms 78 = .ok (.iload 6, 2) := by decide +kernel
theorem dX8_findAlms_80 : decode cX8_findAlms 80 = .ok (.ifCond .eq 8, 3) := by decide +kernel
theorem dX8_findAlms_83 : decode cX8_findAlms 83 = .ok (.iload 5, 2) := by decide +kernel
theorem dX8_findAlms_85 : decode cX8_findAlms 85 = .ok (.goto 5, 3) := by decide +kernel
theorem dX8_findAlms_88 : decode cX8_findAlms 88 = .ok (.iload 4, 2) := by decide +kernel
theorem dX8_findAlms_90 : decode cX8_findAlms 90 = .ok (.istore 4, 2) := by decide +kernel
theorem dX8_findAlms_92 : decode cX8_findAlms 92 = .ok (.iinc 5 1, 3) := by decide +kernel
theorem dX8_findAlms_95 : decode cX8_findAlms 95 = .ok (.goto (-87), 3) := by decide +kernel
theorem dX8_findAlms_98 : decode cX8_findAlms 98 = .ok (.iconst 0, 1) := by decide +kernel
theorem dX8_findAlms_99 : decode cX8_findAlms 99 = .ok (.istore 5, 2) := by decide +kernel
theorem dX8_findAlms_101 : decode cX8_findAlms 101 = .ok (.iload 5, 2) := by decide +kernel
theorem dX8_findAlms_103 : decode cX8_findAlms 103 = .ok (.iload_n 1, 1) := by decide +kernel
theorem dX8_findAlms_104 : decode cX8_findAlms 104 = .ok (.if_icmp .ge 80, 3) := by decide +kernel
theorem dX8_findAlms_107 : decode cX8_findAlms 107 = .ok (.aload_n 0, 1) := by decide +kernel
theorem dX8_findAlms_108 : decode cX8_findAlms 108 = .ok (.getfield 80, 3) := by decide +kernel
theorem dX8_findAlms_111 : decode cX8_findAlms 111 = .ok (.iload 5, 2) := by decide +kernel
theorem dX8_findAlms_113 : decode cX8_findAlms 113 = .ok (.aload_n 0, 1) := by decide +kernel
theorem dX8_findAlms_114 : decode cX8_findAlms 114 = .ok (.getfield 248, 3) := by decide +kernel
theorem dX8_findAlms_117 : decode cX8_findAlms 117 = .ok (.ifCond .ne 13, 3) := by decide +kernel
theorem dX8_findAlms_120 : decode cX8_findAlms 120 = .ok (.aload_n 0, 1) := by decide +kernel
theorem dX8_findAlms_121 : decode cX8_findAlms 121 = .ok (.getfield 77, 3) := by decide +kernel
theorem dX8_findAlms_124 : decode cX8_findAlms 124 = .ok (.iload 5, 2) := by decide +kernel
theorem dX8_findAlms_126 : decode cX8_findAlms 126 = .ok (.iaload, 1) := by decide +kernel
theorem dX8_findAlms_127 : decode cX8_findAlms 127 = .ok (.goto 50, 3) := by decide +kernel
theorem dX8_findAlms_130 : decode cX8_findAlms 130 = .ok (.aload_n 0, 1) := by decide +kernel
theorem dX8_findAlms_131 : decode cX8_findAlms 131 = .ok (.getfield 248, 3) := by decide +kernel
theorem dX8_findAlms_134 : decode cX8_findAlms 134 = .ok (.iconst 1, 1) := by decide +kernel
theorem dX8_findAlms_135 : decode cX8_findAlms 135 = .ok (.if_icmp .ne 18, 3) := by decide +kernel
theorem dX8_findAlms_138 : decode cX8_findAlms 138 = .ok (.iload 5, 2) := by decide +kernel
theorem dX8_findAlms_140 : decode cX8_findAlms 140 = .ok (.iload 4, 2) := by decide +kernel
theorem dX8_findAlms_142 : decode cX8_findAlms 142 = .ok (.if_icmp .ne 7, 3) := by decide +kernel
theorem dX8_findAlms_145 : decode cX8_findAlms 145 = .ok (.iload_n 3, 1) := by decide +kernel
theorem dX8_findAlms_146 : decode cX8_findAlms 146 = .ok (.goto 31, 3) := by decide +kernel
theorem dX8_findAlms_149 : decode cX8_findAlms 149 = .ok (.iconst 0, 1) := by decide +kernel
theorem dX8_findAlms_150 : decode cX8_findAlms 150 = .ok (.goto 27, 3) := by decide +kernel
theorem dX8_findAlms_153 : decode cX8_findAlms 153 = .ok (.aload_n 0, 1) := by decide +kernel
theorem dX8_findAlms_154 : decode cX8_findAlms 154 = .ok (.getfield 77, 3) := by decide +kernel
theorem dX8_findAlms_157 : decode cX8_findAlms 157 = .ok (.iload 5, 2) := by decide +kernel
theorem dX8_findAlms_159 : decode cX8_findAlms 159 = .ok (.iaload, 1) := by decide +kernel
theorem dX8_findAlms_160 : decode cX8_findAlms 160 = .ok (.bipush 50, 2) := by decide +kernel
theorem dX8_findAlms_162 : decode cX8_findAlms 162 = .ok (.if_icmp .le 8, 3) := by decide +kernel
theorem dX8_findAlms_165 : decode cX8_findAlms 165 = .ok (.bipush 50, 2) := by decide +kernel
theorem dX8_findAlms_167 : decode cX8_findAlms 167 = .ok (.goto 10, 3) := by decide +kernel
theorem dX8_findAlms_170 : decode cX8_findAlms 170 = .ok (.aload_n 0, 1) := by decide +kernel
theorem dX8_findAlms_171 : decode cX8_findAlms 171 = .ok (.getfield 77, 3) := by decide +kernel
theorem dX8_findAlms_174 : decode cX8_findAlms 174 = .ok (.iload 5, 2) := by decide +kernel
theorem dX8_findAlms_176 : decode cX8_findAlms 176 = .ok (.iaload, 1) := by decide +kernel
theorem dX8_findAlms_177 : decode cX8_findAlms 177 = .ok (.iastore, 1) := by decide +kernel
theorem dX8_findAlms_178 : decode cX8_findAlms 178 = .ok (.iinc 5 1, 3) := by decide +kernel
theorem dX8_findAlms_181 : decode cX8_findAlms 181 = .ok (.goto (-80), 3) := by decide +kernel
theorem dX8_findAlms_184 : decode cX8_findAlms 184 = .ok (.return_, 1) := by decide +kernel
theorem dX8_almsOf_0 : decode cX8_almsOf 0 = .ok (.aload_n 0, 1) := by decide +kernel
theorem dX8_almsOf_1 : decode cX8_almsOf 1 = .ok (.getfield 80, 3) := by decide +kernel
theorem dX8_almsOf_4 : decode cX8_almsOf 4 = .ok (.iload_n 1, 1) := by decide +kernel
theorem dX8_almsOf_5 : decode cX8_almsOf 5 = .ok (.iaload, 1) := by decide +kernel
theorem dX8_almsOf_6 : decode cX8_almsOf 6 = .ok (.aload_n 0, 1) := by decide +kernel
theorem dX8_almsOf_7 : decode cX8_almsOf 7 = .ok (.iload_n 1, 1) := by decide +kernel
theorem dX8_almsOf_8 : decode cX8_almsOf 8 = .ok (.invokevirtual 287, 3) := by decide +kernel
theorem dX8_almsOf_11 : decode cX8_almsOf 11 = .ok (.isub, 1) := by decide +kernel
theorem dX8_almsOf_12 : decode cX8_almsOf 12 = .ok (.ireturn, 1) := by decide +kernel
theorem dX8_almsOfAll_0 : decode cX8_almsOfAll 0 = .ok (.iconst 0, 1) := by decide +kernel
theorem dX8_almsOfAll_1 : decode cX8_almsOfAll 1 = .ok (.istore_n 2, 1) := by decide +kernel
theorem dX8_almsOfAll_2 : decode cX8_almsOfAll 2 = .ok (.iconst 0, 1) := by decide +kernel
theorem dX8_almsOfAll_3 : decode cX8_almsOfAll 3 = .ok (.istore_n 3, 1) := by decide +kernel
theorem dX8_almsOfAll_4 : decode cX8_almsOfAll 4 = .ok (.iload_n 3, 1) := by decide +kernel
theorem dX8_almsOfAll_5 : decode cX8_almsOfAll 5 = .ok (.iload_n 1, 1) := by decide +kernel
theorem dX8_almsOfAll_6 : decode cX8_almsOfAll 6 = .ok (.if_icmp .ge 17, 3) := by decide +kernel
theorem dX8_almsOfAll_9 : decode cX8_almsOfAll 9 = .ok (.iload_n 2, 1) := by decide +kernel
theorem dX8_almsOfAll_10 : decode cX8_almsOfAll 10 = .ok (.aload_n 0, 1) := by decide +kernel
theorem dX8_almsOfAll_11 : decode cX8_almsOfAll 11 = .ok (.iload_n 3, 1) := by decide +kernel
theorem dX8_almsOfAll_12 : decode cX8_almsOfAll 12 = .ok (.invokevirtual 290, 3) := by decide +kernel
theorem dX8_almsOfAll_15 : decode cX8_almsOfAll 15 = .ok (.iadd, 1) := by decide +kernel
theorem dX8_almsOfAll_16 : decode cX8_almsOfAll 16 = .ok (.istore_n 2, 1) := by decide +kernel
theorem dX8_almsOfAll_17 : decode cX8_almsOfAll 17 = .ok (.iinc 3 1, 3) := by decide +kernel
theorem dX8_almsOfAll_20 : decode cX8_almsOfAll 20 = .ok (.goto (-16), 3) := by decide +kernel
theorem dX8_almsOfAll_23 : decode cX8_almsOfAll 23 = .ok (.iload_n 2, 1) := by decide +kernel
theorem dX8_almsOfAll_24 : decode cX8_almsOfAll 24 = .ok (.ireturn, 1) := by decide +kernel
theorem dX8_longNow_0 : decode cX8_longNow 0 = .ok (.aload_n 0, 1) := by decide +kernel
theorem dX8_longNow_1 : decode cX8_longNow 1 = .ok (.iload_n 1, 1) := by decide +kernel
theorem dX8_longNow_2 : decode cX8_longNow 2 = .ok (.aload_n 0, 1) := by decide +kernel
theorem dX8_longNow_3 : decode cX8_longNow 3 = .ok (.getfield 236, 3) := by decide +kernel
theorem dX8_longNow_6 : decode cX8_longNow 6 = .ok (.invokevirtual 258, 3) := by decide +kernel
theorem dX8_longNow_9 : decode cX8_longNow 9 = .ok (.ireturn, 1) := by decide +kernel
theorem dX8_shadow_0 : decode cX8_shadow 0 = .ok (.aload_n 0, 1) := by decide +kernel
theorem dX8_shadow_1 : decode cX8_shadow 1 = .ok (.iload_n 1, 1) := by decide +kernel
theorem dX8_shadow_2 : decode cX8_shadow 2 = .ok (.invokevirtual 251, 3) := by decide +kernel
theorem dX8_shadow_5 : decode cX8_shadow 5 = .ok (.ifCond .eq 11, 3) := by decide +kernel
theorem dX8_shadow_8 : decode cX8_shadow 8 = .ok (.aload_n 0, 1) := by decide +kernel
theorem dX8_shadow_9 : decode cX8_shadow 9 = .ok (.iload_n 2, 1) := by decide +kernel
theorem dX8_shadow_10 : decode cX8_shadow 10 = .ok (.invokevirtual 267, 3) := by decide +kernel
theorem dX8_shadow_13 : decode cX8_shadow 13 = .ok (.ifCond .ne 6, 3) := by decide +kernel
theorem dX8_shadow_16 : decode cX8_shadow 16 = .ok (.ldc 255, 2) := by decide +kernel
theorem dX8_shadow_18 : decode cX8_shadow 18 = .ok (.ireturn, 1) := by decide +kernel
theorem dX8_shadow_19 : decode cX8_shadow 19 = .ok (.iload_n 3, 1) := by decide +kernel
theorem dX8_shadow_20 : decode cX8_shadow 20 = .ok (.i2l, 1) := by decide +kernel
theorem dX8_shadow_21 : decode cX8_shadow 21 = .ok (.lconst 0, 1) := by decide +kernel
theorem dX8_shadow_22 : decode cX8_shadow 22 = .ok (.lconst 1, 1) := by decide +kernel
theorem dX8_shadow_23 : decode cX8_shadow 23 = .ok (.invokestatic 123, 3) := by decide +kernel
theorem dX8_shadow_26 : decode cX8_shadow 26 = .ok (.ifCond .ne 6, 3) := by decide +kernel
theorem dX8_shadow_29 : decode cX8_shadow 29 = .ok (.ldc 135, 2) := by decide +kernel
theorem dX8_shadow_31 : decode cX8_shadow 31 = .ok (.ireturn, 1) := by decide +kernel
theorem dX8_shadow_32 : decode cX8_shadow 32 = .ok (.aload_n 0, 1) := by decide +kernel
theorem dX8_shadow_33 : decode cX8_shadow 33 = .ok (.aload_n 0, 1) := by decide +kernel
theorem dX8_shadow_34 : decode cX8_shadow 34 = .ok (.getfield 127, 3) := by decide +kernel
theorem dX8_shadow_37 : decode cX8_shadow 37 = .ok (.aload_n 0, 1) := by decide +kernel
theorem dX8_shadow_38 : decode cX8_shadow 38 = .ok (.iload_n 1, 1) := by decide +kernel
theorem dX8_shadow_39 : decode cX8_shadow 39 = .ok (.invokevirtual 293, 3) := by decide +kernel
theorem dX8_shadow_42 : decode cX8_shadow 42 = .ok (.invokevirtual 296, 3) := by decide +kernel
theorem dX8_shadow_45 : decode cX8_shadow 45 = .ok (.iload_n 3, 1) := by decide +kernel
theorem dX8_shadow_46 : decode cX8_shadow 46 = .ok (.ifCond .ne 12, 3) := by decide +kernel
theorem dX8_shadow_49 : decode cX8_shadow 49 = .ok (.aload_n 0, 1) := by decide +kernel
theorem dX8_shadow_50 : decode cX8_shadow 50 = .ok (.getfield 77, 3) := by decide +kernel
theorem dX8_shadow_53 : decode cX8_shadow 53 = .ok (.iload_n 2, 1) := by decide +kernel
theorem dX8_shadow_54 : decode cX8_shadow 54 = .ok (.iaload, 1) := by decide +kernel
theorem dX8_shadow_55 : decode cX8_shadow 55 = .ok (.goto 8, 3) := by decide +kernel
theorem dX8_shadow_58 : decode cX8_shadow 58 = .ok (.aload_n 0, 1) := by decide +kernel
theorem dX8_shadow_59 : decode cX8_shadow 59 = .ok (.iload_n 2, 1) := by decide +kernel
theorem dX8_shadow_60 : decode cX8_shadow 60 = .ok (.invokevirtual 290, 3) := by decide +kernel
theorem dX8_shadow_63 : decode cX8_shadow 63 = .ok (.ireturn, 1) := by decide +kernel
theorem dX8_go_0 : decode cX8_go 0 = .ok (.aload_n 0, 1) := by decide +kernel
theorem dX8_go_1 : decode cX8_go 1 = .ok (.iload_n 1, 1) := by decide +kernel
theorem dX8_go_2 : decode cX8_go 2 = .ok (.invokevirtual 267, 3) := by decide +kernel
theorem dX8_go_5 : decode cX8_go 5 = .ok (.ifCond .eq 16, 3) := by decide +kernel
theorem dX8_go_8 : decode cX8_go 8 = .ok (.iload_n 2, 1) := by decide +kernel
theorem dX8_go_9 : decode cX8_go 9 = .ok (.iconst (-1), 1) := by decide +kernel
theorem dX8_go_10 : decode cX8_go 10 = .ok (.if_icmp .eq 14, 3) := by decide +kernel
theorem dX8_go_13 : decode cX8_go 13 = .ok (.aload_n 0, 1) := by decide +kernel
theorem dX8_go_14 : decode cX8_go 14 = .ok (.iload_n 2, 1) := by decide +kernel
theorem dX8_go_15 : decode cX8_go 15 = .ok (.invokevirtual 261, 3) := by decide +kernel
theorem dX8_go_18 : decode cX8_go 18 = .ok (.ifCond .ne 6, 3) := by decide +kernel
theorem dX8_go_21 : decode cX8_go 21 = .ok (.ldc 255, 2) := by decide +kernel
theorem dX8_go_23 : decode cX8_go 23 = .ok (.ireturn, 1) := by decide +kernel
theorem dX8_go_24 : decode cX8_go 24 = .ok (.iload_n 2, 1) := by decide +kernel
theorem dX8_go_25 : decode cX8_go 25 = .ok (.iconst (-1), 1) := by decide +kernel
theorem dX8_go_26 : decode cX8_go 26 = .ok (.if_icmp .ne 7, 3) := by decide +kernel
theorem dX8_go_29 : decode cX8_go 29 = .ok (.iconst (-1), 1) := by decide +kernel
theorem dX8_go_30 : decode cX8_go 30 = .ok (.goto 12, 3) := by decide +kernel
theorem dX8_go_33 : decode cX8_go 33 = .ok (.aload_n 0, 1) := by decide +kernel
theorem dX8_go_34 : decode cX8_go 34 = .ok (.iload_n 2, 1) := by decide +kernel
theorem dX8_go_35 : decode cX8_go 35 = .ok (.aload_n 0, 1) := by decide +kernel
theorem dX8_go_36 : decode cX8_go 36 = .ok (.getfield 127, 3) := by decide +kernel
theorem dX8_go_39 : decode cX8_go 39 = .ok (.invokevirtual 264, 3) := by decide +kernel
theorem dX8_go_42 : decode cX8_go 42 = .ok (.istore_n 3, 1) := by decide +kernel
theorem dX8_go_43 : decode cX8_go 43 = .ok (.iload_n 3, 1) := by decide +kernel
theorem dX8_go_44 : decode cX8_go 44 = .ok (.ifCond .lt 12, 3) := by decide +kernel
theorem dX8_go_47 : decode cX8_go 47 = .ok (.iload_n 3, 1) := by decide +kernel
theorem dX8_go_48 : decode cX8_go 48 = .ok (.iload_n 1, 1) := by decide +kernel
theorem dX8_go_49 : decode cX8_go 49 = .ok (.if_icmp .eq 7, 3) := by decide +kernel
theorem dX8_go_52 : decode cX8_go 52 = .ok (.ldc_w 300, 3) := by decide +kernel
theorem dX8_go_55 : decode cX8_go 55 = .ok (.ireturn, 1) := by decide +kernel
theorem dX8_go_56 : decode cX8_go 56 = .ok (.aload_n 0, 1) := by decide +kernel
theorem dX8_go_57 : decode cX8_go 57 = .ok (.getfield 38, 3) := by decide +kernel
theorem dX8_go_60 : decode cX8_go 60 = .ok (.iload_n 1, 1) := by decide +kernel
theorem dX8_go_61 : decode cX8_go 61 = .ok (.iaload, 1) := by decide +kernel
theorem dX8_go_62 : decode cX8_go 62 = .ok (.istore 4, 2) := by decide +kernel
theorem dX8_go_64 : decode cX8_go 64 = .ok (.aload_n 0, 1) := by decide +kernel
theorem dX8_go_65 : decode cX8_go 65 = .ok (.getfield 38, 3) := by decide +kernel
theorem dX8_go_68 : decode cX8_go 68 = .ok (.iload_n 1, 1) := by decide +kernel
theorem dX8_go_69 : decode cX8_go 69 = .ok (.iload_n 2, 1) := by decide +kernel
theorem dX8_go_70 : decode cX8_go 70 = .ok (.iastore, 1) := by decide +kernel
theorem dX8_go_71 : decode cX8_go 71 = .ok (.iload 4, 2) := by decide +kernel
theorem dX8_go_73 : decode cX8_go 73 = .ok (.ireturn, 1) := by decide +kernel
theorem dX8_lend_0 : decode cX8_lend 0 = .ok (.aload_n 0, 1) := by decide +kernel
theorem dX8_lend_1 : decode cX8_lend 1 = .ok (.iload_n 1, 1) := by decide +kernel
theorem dX8_lend_2 : decode cX8_lend 2 = .ok (.invokevirtual 274, 3) := by decide +kernel
theorem dX8_lend_5 : decode cX8_lend 5 = .ok (.ifCond .eq 16, 3) := by decide +kernel
theorem dX8_lend_8 : decode cX8_lend 8 = .ok (.iload_n 2, 1) := by decide +kernel
theorem dX8_lend_9 : decode cX8_lend 9 = .ok (.iconst (-1), 1) := by decide +kernel
theorem dX8_lend_10 : decode cX8_lend 10 = .ok (.if_icmp .eq 14, 3) := by decide +kernel
theorem dX8_lend_13 : decode cX8_lend 13 = .ok (.aload_n 0, 1) := by decide +kernel
theorem dX8_lend_14 : decode cX8_lend 14 = .ok (.iload_n 2, 1) := by decide +kernel
theorem dX8_lend_15 : decode cX8_lend 15 = .ok (.invokevirtual 267, 3) := by decide +kernel
theorem dX8_lend_18 : decode cX8_lend 18 = .ok (.ifCond .ne 6, 3) := by decide +kernel
theorem dX8_lend_21 : decode cX8_lend 21 = .ok (.ldc 255, 2) := by decide +kernel
theorem dX8_lend_23 : decode cX8_lend 23 = .ok (.ireturn, 1) := by decide +kernel
theorem dX8_lend_24 : decode cX8_lend 24 = .ok (.iload_n 2, 1) := by decide +kernel
theorem dX8_lend_25 : decode cX8_lend 25 = .ok (.iconst (-1), 1) := by decide +kernel
theorem dX8_lend_26 : decode cX8_lend 26 = .ok (.if_icmp .eq 26, 3) := by decide +kernel
theorem dX8_lend_29 : decode cX8_lend 29 = .ok (.aload_n 0, 1) := by decide +kernel
theorem dX8_lend_30 : decode cX8_lend 30 = .ok (.getfield 41, 3) := by decide +kernel
theorem dX8_lend_33 : decode cX8_lend 33 = .ok (.iload_n 2, 1) := by decide +kernel
theorem dX8_lend_34 : decode cX8_lend 34 = .ok (.iaload, 1) := by decide +kernel
theorem dX8_lend_35 : decode cX8_lend 35 = .ok (.ifCond .lt 17, 3) := by decide +kernel
theorem dX8_lend_38 : decode cX8_lend 38 = .ok (.aload_n 0, 1) := by decide +kernel
theorem dX8_lend_39 : decode cX8_lend 39 = .ok (.getfield 41, 3) := by decide +kernel
theorem dX8_lend_42 : decode cX8_lend 42 = .ok (.iload_n 2, 1) := by decide +kernel
theorem dX8_lend_43 : decode cX8_lend 43 = .ok (.iaload, 1) := by decide +kernel
theorem dX8_lend_44 : decode cX8_lend 44 = .ok (.iload_n 1, 1) := by decide +kernel
theorem dX8_lend_45 : decode cX8_lend 45 = .ok (.if_icmp .eq 7, 3) := by decide +kernel
theorem dX8_lend_48 : decode cX8_lend 48 = .ok (.ldc_w 300, 3) := by decide +kernel
theorem dX8_lend_51 : decode cX8_lend 51 = .ok (.ireturn, 1) := by decide +kernel
theorem dX8_lend_52 : decode cX8_lend 52 = .ok (.aload_n 0, 1) := by decide +kernel
theorem dX8_lend_53 : decode cX8_lend 53 = .ok (.iload_n 1, 1) := by decide +kernel
theorem dX8_lend_54 : decode cX8_lend 54 = .ok (.invokevirtual 277, 3) := by decide +kernel
theorem dX8_lend_57 : decode cX8_lend 57 = .ok (.istore_n 3, 1) := by decide +kernel
theorem dX8_lend_58 : decode cX8_lend 58 = .ok (.iload_n 3, 1) := by decide +kernel
theorem dX8_lend_59 : decode cX8_lend 59 = .ok (.ifCond .lt 10, 3) := by decide +kernel
theorem dX8_lend_62 : decode cX8_lend 62 = .ok (.aload_n 0, 1) := by decide +kernel
theorem dX8_lend_63 : decode cX8_lend 63 = .ok (.getfield 41, 3) := by decide +kernel
theorem dX8_lend_66 : decode cX8_lend 66 = .ok (.iload_n 3, 1) := by decide +kernel
theorem dX8_lend_67 : decode cX8_lend 67 = .ok (.iconst (-1), 1) := by decide +kernel
theorem dX8_lend_68 : decode cX8_lend 68 = .ok (.iastore, 1) := by decide +kernel
theorem dX8_lend_69 : decode cX8_lend 69 = .ok (.iload_n 2, 1) := by decide +kernel
theorem dX8_lend_70 : decode cX8_lend 70 = .ok (.iconst (-1), 1) := by decide +kernel
theorem dX8_lend_71 : decode cX8_lend 71 = .ok (.if_icmp .eq 10, 3) := by decide +kernel
theorem dX8_lend_74 : decode cX8_lend 74 = .ok (.aload_n 0, 1) := by decide +kernel
theorem dX8_lend_75 : decode cX8_lend 75 = .ok (.getfield 41, 3) := by decide +kernel
theorem dX8_lend_78 : decode cX8_lend 78 = .ok (.iload_n 2, 1) := by decide +kernel
theorem dX8_lend_79 : decode cX8_lend 79 = .ok (.iload_n 1, 1) := by decide +kernel
theorem dX8_lend_80 : decode cX8_lend 80 = .ok (.iastore, 1) := by decide +kernel
theorem dX8_lend_81 : decode cX8_lend 81 = .ok (.iload_n 3, 1) := by decide +kernel
theorem dX8_lend_82 : decode cX8_lend 82 = .ok (.ireturn, 1) := by decide +kernel
theorem dX8_law_0 : decode cX8_law 0 = .ok (.iload_n 1, 1) := by decide +kernel
theorem dX8_law_1 : decode cX8_law 1 = .ok (.i2l, 1) := by decide +kernel
theorem dX8_law_2 : decode cX8_law 2 = .ok (.lconst 0, 1) := by decide +kernel
theorem dX8_law_3 : decode cX8_law 3 = .ok (.ldc2_w 301, 3) := by decide +kernel
theorem dX8_law_6 : decode cX8_law 6 = .ok (.invokestatic 123, 3) := by decide +kernel
theorem dX8_law_9 : decode cX8_law 9 = .ok (.ifCond .ne 6, 3) := by decide +kernel
theorem dX8_law_12 : decode cX8_law 12 = .ok (.ldc 135, 2) := by decide +kernel
theorem dX8_law_14 : decode cX8_law 14 = .ok (.ireturn, 1) := by decide +kernel
theorem dX8_law_15 : decode cX8_law 15 = .ok (.aload_n 0, 1) := by decide +kernel
theorem dX8_law_16 : decode cX8_law 16 = .ok (.getfield 248, 3) := by decide +kernel
theorem dX8_law_19 : decode cX8_law 19 = .ok (.istore_n 2, 1) := by decide +kernel
theorem dX8_law_20 : decode cX8_law 20 = .ok (.aload_n 0, 1) := by decide +kernel
theorem dX8_law_21 : decode cX8_law 21 = .ok (.iload_n 1, 1) := by decide +kernel
theorem dX8_law_22 : decode cX8_law 22 = .ok (.putfield 248, 3) := by decide +kernel
theorem dX8_law_25 : decode cX8_law 25 = .ok (.iload_n 2, 1) := by decide +kernel
theorem dX8_law_26 : decode cX8_law 26 = .ok (.ireturn, 1) := by decide +kernel
theorem dX8_held_0 : decode cX8_held 0 = .ok (.iload_n 0, 1) := by decide +kernel
theorem dX8_held_1 : decode cX8_held 1 = .ok (.ldc_w 303, 3) := by decide +kernel
theorem dX8_held_4 : decode cX8_held 4 = .ok (.if_icmp .le 9, 3) := by decide +kernel
theorem dX8_held_7 : decode cX8_held 7 = .ok (.ldc_w 303, 3) := by decide +kernel
theorem dX8_held_10 : decode cX8_held 10 = .ok (.goto 4, 3) := by decide +kernel
theorem dX8_held_13 : decode cX8_held 13 = .ok (.iload_n 0, 1) := by decide +kernel
theorem dX8_held_14 : decode cX8_held 14 = .ok (.ireturn, 1) := by decide +kernel
theorem dX8_ringNow_0 : decode cX8_ringNow 0 = .ok (.aload_n 0, 1) := by decide +kernel
theorem dX8_ringNow_1 : decode cX8_ringNow 1 = .ok (.aload_n 0, 1) := by decide +kernel
theorem dX8_ringNow_2 : decode cX8_ringNow 2 = .ok (.getfield 127, 3) := by decide +kernel
theorem dX8_ringNow_5 : decode cX8_ringNow 5 = .ok (.aload_n 0, 1) := by decide +kernel
theorem dX8_ringNow_6 : decode cX8_ringNow 6 = .ok (.iload_n 1, 1) := by decide +kernel
theorem dX8_ringNow_7 : decode cX8_ringNow 7 = .ok (.invokevirtual 293, 3) := by decide +kernel
theorem dX8_ringNow_10 : decode cX8_ringNow 10 = .ok (.invokevirtual 296, 3) := by decide +kernel
theorem dX8_ringNow_13 : decode cX8_ringNow 13 = .ok (.iconst 0, 1) := by decide +kernel
theorem dX8_ringNow_14 : decode cX8_ringNow 14 = .ok (.istore_n 2, 1) := by decide +kernel
theorem dX8_ringNow_15 : decode cX8_ringNow 15 = .ok (.iconst 0, 1) := by decide +kernel
theorem dX8_ringNow_16 : decode cX8_ringNow 16 = .ok (.istore_n 3, 1) := by decide +kernel
theorem dX8_ringNow_17 : decode cX8_ringNow 17 = .ok (.iload_n 3, 1) := by decide +kernel
theorem dX8_ringNow_18 : decode cX8_ringNow 18 = .ok (.aload_n 0, 1) := by decide +kernel
theorem dX8_ringNow_19 : decode cX8_ringNow 19 = .ok (.getfield 127, 3) := by decide +kernel
theorem dX8_ringNow_22 : decode cX8_ringNow 22 = .ok (.if_icmp .ge 39, 3) := by decide +kernel
theorem dX8_ringNow_25 : decode cX8_ringNow 25 = .ok (.iload_n 2, 1) := by decide +kernel
theorem dX8_ringNow_26 : decode cX8_ringNow 26 = .ok (.aload_n 0, 1) := by decide +kernel
theorem dX8_ringNow_27 : decode cX8_ringNow 27 = .ok (.getfield 80, 3) := by decide +kernel
theorem dX8_ringNow_30 : decode cX8_ringNow 30 = .ok (.iload_n 3, 1) := by decide +kernel
theorem dX8_ringNow_31 : decode cX8_ringNow 31 = .ok (.iaload, 1) := by decide +kernel
theorem dX8_ringNow_32 : decode cX8_ringNow 32 = .ok (.iadd, 1) := by decide +kernel
theorem dX8_ringNow_33 : decode cX8_ringNow 33 = .ok (.istore_n 2, 1) := by decide +kernel
theorem dX8_ringNow_34 : decode cX8_ringNow 34 = .ok (.aload_n 0, 1) := by decide +kernel
theorem dX8_ringNow_35 : decode cX8_ringNow 35 = .ok (.getfield 44, 3) := by decide +kernel
theorem dX8_ringNow_38 : decode cX8_ringNow 38 = .ok (.iload_n 3, 1) := by decide +kernel
theorem dX8_ringNow_39 : decode cX8_ringNow 39 = .ok (.aload_n 0, 1) := by decide +kernel
theorem dX8_ringNow_40 : decode cX8_ringNow 40 = .ok (.getfield 44, 3) := by decide +kernel
theorem dX8_ringNow_43 : decode cX8_ringNow 43 = .ok (.iload_n 3, 1) := by decide +kernel
theorem dX8_ringNow_44 : decode cX8_ringNow 44 = .ok (.iaload, 1) := by decide +kernel
theorem dX8_ringNow_45 : decode cX8_ringNow 45 = .ok (.aload_n 0, 1) := by decide +kernel
theorem dX8_ringNow_46 : decode cX8_ringNow 46 = .ok (.iload_n 3, 1) := by decide +kernel
theorem dX8_ringNow_47 : decode cX8_ringNow 47 = .ok (.invokevirtual 290, 3) := by decide +kernel
theorem dX8_ringNow_50 : decode cX8_ringNow 50 = .ok (.iadd, 1) := by decide +kernel
theorem dX8_ringNow_51 : decode cX8_ringNow 51 = .ok (.invokestatic 304, 3) := by decide +kernel
theorem dX8_ringNow_54 : decode cX8_ringNow 54 = .ok (.iastore, 1) := by decide +kernel
theorem dX8_ringNow_55 : decode cX8_ringNow 55 = .ok (.iinc 3 1, 3) := by decide +kernel
theorem dX8_ringNow_58 : decode cX8_ringNow 58 = .ok (.goto (-41), 3) := by decide +kernel
theorem dX8_ringNow_61 : decode cX8_ringNow 61 = .ok (.aload_n 0, 1) := by decide +kernel
theorem dX8_ringNow_62 : decode cX8_ringNow 62 = .ok (.aload_n 0, 1) := by decide +kernel
theorem dX8_ringNow_63 : decode cX8_ringNow 63 = .ok (.getfield 239, 3) := by decide +kernel
theorem dX8_ringNow_66 : decode cX8_ringNow 66 = .ok (.iload_n 2, 1) := by decide +kernel
theorem dX8_ringNow_67 : decode cX8_ringNow 67 = .ok (.iadd, 1) := by decide +kernel
theorem dX8_ringNow_68 : decode cX8_ringNow 68 = .ok (.invokestatic 304, 3) := by decide +kernel
theorem dX8_ringNow_71 : decode cX8_ringNow 71 = .ok (.putfield 239, 3) := by decide +kernel
theorem dX8_ringNow_74 : decode cX8_ringNow 74 = .ok (.iload_n 2, 1) := by decide +kernel
theorem dX8_ringNow_75 : decode cX8_ringNow 75 = .ok (.ireturn, 1) := by decide +kernel
theorem dX8_ring_0 : decode cX8_ring 0 = .ok (.aload_n 0, 1) := by decide +kernel
theorem dX8_ring_1 : decode cX8_ring 1 = .ok (.iload_n 1, 1) := by decide +kernel
theorem dX8_ring_2 : decode cX8_ring 2 = .ok (.invokevirtual 251, 3) := by decide +kernel
theorem dX8_ring_5 : decode cX8_ring 5 = .ok (.ifCond .eq 11, 3) := by decide +kernel
theorem dX8_ring_8 : decode cX8_ring 8 = .ok (.aload_n 0, 1) := by decide +kernel
theorem dX8_ring_9 : decode cX8_ring 9 = .ok (.iload_n 1, 1) := by decide +kernel
theorem dX8_ring_10 : decode cX8_ring 10 = .ok (.invokevirtual 307, 3) := by decide +kernel
theorem dX8_ring_13 : decode cX8_ring 13 = .ok (.goto 5, 3) := by decide +kernel
theorem dX8_ring_16 : decode cX8_ring 16 = .ok (.ldc 255, 2) := by decide +kernel
theorem dX8_ring_18 : decode cX8_ring 18 = .ok (.ireturn, 1) := by decide +kernel
theorem dX8_day_0 : decode cX8_day 0 = .ok (.iload_n 1, 1) := by decide +kernel
theorem dX8_day_1 : decode cX8_day 1 = .ok (.i2l, 1) := by decide +kernel
theorem dX8_day_2 : decode cX8_day 2 = .ok (.lconst 1, 1) := by decide +kernel
theorem dX8_day_3 : decode cX8_day 3 = .ok (.ldc2_w 310, 3) := by decide +kernel
theorem dX8_day_6 : decode cX8_day 6 = .ok (.invokestatic 123, 3) := by decide +kernel
theorem dX8_day_9 : decode cX8_day 9 = .ok (.ifCond .ne 6, 3) := by decide +kernel
theorem dX8_day_12 : decode cX8_day 12 = .ok (.ldc 135, 2) := by decide +kernel
theorem dX8_day_14 : decode cX8_day 14 = .ok (.ireturn, 1) := by decide +kernel
theorem dX8_day_15 : decode cX8_day 15 = .ok (.aload_n 0, 1) := by decide +kernel
theorem dX8_day_16 : decode cX8_day 16 = .ok (.dup, 1) := by decide +kernel
theorem dX8_day_17 : decode cX8_day 17 = .ok (.getfield 236, 3) := by decide +kernel
theorem dX8_day_20 : decode cX8_day 20 = .ok (.iload_n 1, 1) := by decide +kernel
theorem dX8_day_21 : decode cX8_day 21 = .ok (.iadd, 1) := by decide +kernel
theorem dX8_day_22 : decode cX8_day 22 = .ok (.putfield 236, 3) := by decide +kernel
theorem dX8_day_25 : decode cX8_day 25 = .ok (.aload_n 0, 1) := by decide +kernel
theorem dX8_day_26 : decode cX8_day 26 = .ok (.getfield 236, 3) := by decide +kernel
theorem dX8_day_29 : decode cX8_day 29 = .ok (.ireturn, 1) := by decide +kernel
theorem dX8_draw_0 : decode cX8_draw 0 = .ok (.aload_n 0, 1) := by decide +kernel
theorem dX8_draw_1 : decode cX8_draw 1 = .ok (.aload_n 0, 1) := by decide +kernel
theorem dX8_draw_2 : decode cX8_draw 2 = .ok (.getfield 312, 3) := by decide +kernel
theorem dX8_draw_5 : decode cX8_draw 5 = .ok (.i2l, 1) := by decide +kernel
theorem dX8_draw_6 : decode cX8_draw 6 = .ok (.ldc2_w 315, 3) := by decide +kernel
theorem dX8_draw_9 : decode cX8_draw 9 = .ok (.lmul, 1) := by decide +kernel
theorem dX8_draw_10 : decode cX8_draw 10 = .ok (.ldc2_w 317, 3) := by decide +kernel
theorem dX8_draw_13 : decode cX8_draw 13 = .ok (.ladd, 1) := by decide +kernel
theorem dX8_draw_14 : decode cX8_draw 14 = .ok (.ldc2_w 319, 3) := by decide +kernel
theorem dX8_draw_17 : decode cX8_draw 17 = .ok (.lrem, 1) := by decide +kernel
theorem dX8_draw_18 : decode cX8_draw 18 = .ok (.l2i, 1) := by decide +kernel
theorem dX8_draw_19 : decode cX8_draw 19 = .ok (.putfield 312, 3) := by decide +kernel
theorem dX8_draw_22 : decode cX8_draw 22 = .ok (.aload_n 0, 1) := by decide +kernel
theorem dX8_draw_23 : decode cX8_draw 23 = .ok (.getfield 312, 3) := by decide +kernel
theorem dX8_draw_26 : decode cX8_draw 26 = .ok (.ldc_w 321, 3) := by decide +kernel
theorem dX8_draw_29 : decode cX8_draw 29 = .ok (.idiv, 1) := by decide +kernel
theorem dX8_draw_30 : decode cX8_draw 30 = .ok (.iload_n 1, 1) := by decide +kernel
theorem dX8_draw_31 : decode cX8_draw 31 = .ok (.irem, 1) := by decide +kernel
theorem dX8_draw_32 : decode cX8_draw 32 = .ok (.ireturn, 1) := by decide +kernel
theorem dX8_dayNow_0 : decode cX8_dayNow 0 = .ok (.iconst 0, 1) := by decide +kernel
theorem dX8_dayNow_1 : decode cX8_dayNow 1 = .ok (.istore_n 1, 1) := by decide +kernel
theorem dX8_dayNow_2 : decode cX8_dayNow 2 = .ok (.iconst 0, 1) := by decide +kernel
theorem dX8_dayNow_3 : decode cX8_dayNow 3 = .ok (.istore_n 2, 1) := by decide +kernel
theorem dX8_dayNow_4 : decode cX8_dayNow 4 = .ok (.iload_n 2, 1) := by decide +kernel
theorem dX8_dayNow_5 : decode cX8_dayNow 5 = .ok (.aload_n 0, 1) := by decide +kernel
theorem dX8_dayNow_6 : decode cX8_dayNow 6 = .ok (.getfield 120, 3) := by decide +kernel
theorem dX8_dayNow_9 : decode cX8_dayNow 9 = .ok (.if_icmp .ge 31, 3) := by decide +kernel
theorem dX8_dayNow_12 : decode cX8_dayNow 12 = .ok (.aload_n 0, 1) := by decide +kernel
theorem dX8_dayNow_13 : decode cX8_dayNow 13 = .ok (.iconst 4, 1) := by decide +kernel
theorem dX8_dayNow_14 : decode cX8_dayNow 14 = .ok (.invokevirtual 322, 3) := by decide +kernel
theorem dX8_dayNow_17 : decode cX8_dayNow 17 = .ok (.ifCond .ne 7, 3) := by decide +kernel
theorem dX8_dayNow_20 : decode cX8_dayNow 20 = .ok (.iconst 0, 1) := by decide +kernel
theorem dX8_dayNow_21 : decode cX8_dayNow 21 = .ok (.goto 8, 3) := by decide +kernel
theorem dX8_dayNow_24 : decode cX8_dayNow 24 = .ok (.aload_n 0, 1) := by decide +kernel
theorem dX8_dayNow_25 : decode cX8_dayNow 25 = .ok (.iload_n 2, 1) := by decide +kernel
theorem dX8_dayNow_26 : decode cX8_dayNow 26 = .ok (.invokevirtual 307, 3) := by decide +kernel
theorem dX8_dayNow_29 : decode cX8_dayNow 29 = .ok (.istore_n 3, 1) := by decide +kernel
theorem dX8_dayNow_30 : decode cX8_dayNow 30 = .ok (.iload_n 1, 1) := by decide +kernel
theorem dX8_dayNow_31 : decode cX8_dayNow 31 = .ok (.iload_n 3, 1) := by decide +kernel
theorem dX8_dayNow_32 : decode cX8_dayNow 32 = .ok (.iadd, 1) := by decide +kernel
theorem dX8_dayNow_33 : decode cX8_dayNow 33 = .ok (.istore_n 1, 1) := by decide +kernel
theorem dX8_dayNow_34 : decode cX8_dayNow 34 = .ok (.iinc 2 1, 3) := by decide +kernel
theorem dX8_dayNow_37 : decode cX8_dayNow 37 = .ok (.goto (-33), 3) := by decide +kernel
theorem dX8_dayNow_40 : decode cX8_dayNow 40 = .ok (.aload_n 0, 1) := by decide +kernel
theorem dX8_dayNow_41 : decode cX8_dayNow 41 = .ok (.dup, 1) := by decide +kernel
theorem dX8_dayNow_42 : decode cX8_dayNow 42 = .ok (.getfield 236, 3) := by decide +kernel
theorem dX8_dayNow_45 : decode cX8_dayNow 45 = .ok (.iconst 1, 1) := by decide +kernel
theorem dX8_dayNow_46 : decode cX8_dayNow 46 = .ok (.iadd, 1) := by decide +kernel
theorem dX8_dayNow_47 : decode cX8_dayNow 47 = .ok (.putfield 236, 3) := by decide +kernel
theorem dX8_dayNow_50 : decode cX8_dayNow 50 = .ok (.aload_n 0, 1) := by decide +kernel
theorem dX8_dayNow_51 : decode cX8_dayNow 51 = .ok (.aload_n 0, 1) := by decide +kernel
theorem dX8_dayNow_52 : decode cX8_dayNow 52 = .ok (.getfield 127, 3) := by decide +kernel
theorem dX8_dayNow_55 : decode cX8_dayNow 55 = .ok (.invokevirtual 322, 3) := by decide +kernel
theorem dX8_dayNow_58 : decode cX8_dayNow 58 = .ok (.istore_n 2, 1) := by decide +kernel
theorem dX8_dayNow_59 : decode cX8_dayNow 59 = .ok (.aload_n 0, 1) := by decide +kernel
theorem dX8_dayNow_60 : decode cX8_dayNow 60 = .ok (.aload_n 0, 1) := by decide +kernel
theorem dX8_dayNow_61 : decode cX8_dayNow 61 = .ok (.getfield 117, 3) := by decide +kernel
theorem dX8_dayNow_64 : decode cX8_dayNow 64 = .ok (.invokevirtual 322, 3) := by decide +kernel
theorem dX8_dayNow_67 : decode cX8_dayNow 67 = .ok (.istore_n 3, 1) := by decide +kernel
theorem dX8_dayNow_68 : decode cX8_dayNow 68 = .ok (.aload_n 0, 1) := by decide +kernel
theorem dX8_dayNow_69 : decode cX8_dayNow 69 = .ok (.getfield 38, 3) := by decide +kernel
theorem dX8_dayNow_72 : decode cX8_dayNow 72 = .ok (.iload_n 2, 1) := by decide +kernel
theorem dX8_dayNow_73 : decode cX8_dayNow 73 = .ok (.aload_n 0, 1) := by decide +kernel
theorem dX8_dayNow_74 : decode cX8_dayNow 74 = .ok (.iload_n 3, 1) := by decide +kernel
theorem dX8_dayNow_75 : decode cX8_dayNow 75 = .ok (.aload_n 0, 1) := by decide +kernel
theorem dX8_dayNow_76 : decode cX8_dayNow 76 = .ok (.getfield 127, 3) := by decide +kernel
theorem dX8_dayNow_79 : decode cX8_dayNow 79 = .ok (.invokevirtual 264, 3) := by decide +kernel
theorem dX8_dayNow_82 : decode cX8_dayNow 82 = .ok (.ifCond .ge 7, 3) := by decide +kernel
theorem dX8_dayNow_85 : decode cX8_dayNow 85 = .ok (.iload_n 3, 1) := by decide +kernel
theorem dX8_dayNow_86 : decode cX8_dayNow 86 = .ok (.goto 9, 3) := by decide +kernel
theorem dX8_dayNow_89 : decode cX8_dayNow 89 = .ok (.aload_n 0, 1) := by decide +kernel
theorem dX8_dayNow_90 : decode cX8_dayNow 90 = .ok (.getfield 38, 3) := by decide +kernel
theorem dX8_dayNow_93 : decode cX8_dayNow 93 = .ok (.iload_n 2, 1) := by decide +kernel
theorem dX8_dayNow_94 : decode cX8_dayNow 94 = .ok (.iaload, 1) := by decide +kernel
theorem dX8_dayNow_95 : decode cX8_dayNow 95 = .ok (.iastore, 1) := by decide +kernel
theorem dX8_dayNow_96 : decode cX8_dayNow 96 = .ok (.iload_n 1, 1) := by decide +kernel
theorem dX8_dayNow_97 : decode cX8_dayNow 97 = .ok (.ireturn, 1) := by decide +kernel
theorem dX8_drift_0 : decode cX8_drift 0 = .ok (.iload_n 1, 1) := by decide +kernel
theorem dX8_drift_1 : decode cX8_drift 1 = .ok (.i2l, 1) := by decide +kernel
theorem dX8_drift_2 : decode cX8_drift 2 = .ok (.lconst 1, 1) := by decide +kernel
theorem dX8_drift_3 : decode cX8_drift 3 = .ok (.ldc2_w 310, 3) := by decide +kernel
theorem dX8_drift_6 : decode cX8_drift 6 = .ok (.invokestatic 123, 3) := by decide +kernel
theorem dX8_drift_9 : decode cX8_drift 9 = .ok (.ifCond .ne 6, 3) := by decide +kernel
theorem dX8_drift_12 : decode cX8_drift 12 = .ok (.ldc 135, 2) := by decide +kernel
theorem dX8_drift_14 : decode cX8_drift 14 = .ok (.ireturn, 1) := by decide +kernel
theorem dX8_drift_15 : decode cX8_drift 15 = .ok (.aload_n 0, 1) := by decide +kernel
theorem dX8_drift_16 : decode cX8_drift 16 = .ok (.getfield 127, 3) := by decide +kernel
theorem dX8_drift_19 : decode cX8_drift 19 = .ok (.ifCond .eq 10, 3) := by decide +kernel
theorem dX8_drift_22 : decode cX8_drift 22 = .ok (.aload_n 0, 1) := by decide +kernel
theorem dX8_drift_23 : decode cX8_drift 23 = .ok (.getfield 117, 3) := by decide +kernel
theorem dX8_drift_26 : decode cX8_drift 26 = .ok (.ifCond .ne 7, 3) := by decide +kernel
theorem dX8_drift_29 : decode cX8_drift 29 = .ok (.ldc_w 300, 3) := by decide +kernel
theorem dX8_drift_32 : decode cX8_drift 32 = .ok (.ireturn, 1) := by decide +kernel
theorem dX8_drift_33 : decode cX8_drift 33 = .ok (.iconst 0, 1) := by decide +kernel
theorem dX8_drift_34 : decode cX8_drift 34 = .ok (.istore_n 2, 1) := by decide +kernel
theorem dX8_drift_35 : decode cX8_drift 35 = .ok (.iconst 0, 1) := by decide +kernel
theorem dX8_drift_36 : decode cX8_drift 36 = .ok (.istore_n 3, 1) := by decide +kernel
theorem dX8_drift_37 : decode cX8_drift 37 = .ok (.iload_n 3, 1) := by decide +kernel
theorem dX8_drift_38 : decode cX8_drift 38 = .ok (.iload_n 1, 1) := by decide +kernel
theorem dX8_drift_39 : decode cX8_drift 39 = .ok (.if_icmp .ge 20, 3) := by decide +kernel
theorem dX8_drift_42 : decode cX8_drift 42 = .ok (.aload_n 0, 1) := by decide +kernel
theorem dX8_drift_43 : decode cX8_drift 43 = .ok (.invokevirtual 325, 3) := by decide +kernel
theorem dX8_drift_46 : decode cX8_drift 46 = .ok (.istore 4, 2) := by decide +kernel
theorem dX8_drift_48 : decode cX8_drift 48 = .ok (.iload_n 2, 1) := by decide +kernel
theorem dX8_drift_49 : decode cX8_drift 49 = .ok (.iload 4, 2) := by decide +kernel
theorem dX8_drift_51 : decode cX8_drift 51 = .ok (.iadd, 1) := by decide +kernel
theorem dX8_drift_52 : decode cX8_drift 52 = .ok (.istore_n 2, 1) := by decide +kernel
theorem dX8_drift_53 : decode cX8_drift 53 = .ok (.iinc 3 1, 3) := by decide +kernel
theorem dX8_drift_56 : decode cX8_drift 56 = .ok (.goto (-19), 3) := by decide +kernel
theorem dX8_drift_59 : decode cX8_drift 59 = .ok (.iload_n 2, 1) := by decide +kernel
theorem dX8_drift_60 : decode cX8_drift 60 = .ok (.ireturn, 1) := by decide +kernel
theorem dX8_saveAll_0 : decode cX8_saveAll 0 = .ok (.iconst 0, 1) := by decide +kernel
theorem dX8_saveAll_1 : decode cX8_saveAll 1 = .ok (.istore_n 1, 1) := by decide +kernel
theorem dX8_saveAll_2 : decode cX8_saveAll 2 = .ok (.iload_n 1, 1) := by decide +kernel
theorem dX8_saveAll_3 : decode cX8_saveAll 3 = .ok (.aload_n 0, 1) := by decide +kernel
theorem dX8_saveAll_4 : decode cX8_saveAll 4 = .ok (.getfield 127, 3) := by decide +kernel
theorem dX8_saveAll_7 : decode cX8_saveAll 7 = .ok (.if_icmp .ge 33, 3) := by decide +kernel
theorem dX8_saveAll_10 : decode cX8_saveAll 10 = .ok (.aload_n 0, 1) := by decide +kernel
theorem dX8_saveAll_11 : decode cX8_saveAll 11 = .ok (.getfield 83, 3) := by decide +kernel
theorem dX8_saveAll_14 : decode cX8_saveAll 14 = .ok (.iload_n 1, 1) := by decide +kernel
theorem dX8_saveAll_15 : decode cX8_saveAll 15 = .ok (.aload_n 0, 1) := by decide +kernel
theorem dX8_saveAll_16 : decode cX8_saveAll 16 = .ok (.getfield 38, 3) := by decide +kernel
theorem dX8_saveAll_19 : decode cX8_saveAll 19 = .ok (.iload_n 1, 1) := by decide +kernel
theorem dX8_saveAll_20 : decode cX8_saveAll 20 = .ok (.iaload, 1) := by decide +kernel
theorem dX8_saveAll_21 : decode cX8_saveAll 21 = .ok (.iastore, 1) := by decide +kernel
theorem dX8_saveAll_22 : decode cX8_saveAll 22 = .ok (.aload_n 0, 1) := by decide +kernel
theorem dX8_saveAll_23 : decode cX8_saveAll 23 = .ok (.getfield 86, 3) := by decide +kernel
theorem dX8_saveAll_26 : decode cX8_saveAll 26 = .ok (.iload_n 1, 1) := by decide +kernel
theorem dX8_saveAll_27 : decode cX8_saveAll 27 = .ok (.aload_n 0, 1) := by decide +kernel
theorem dX8_saveAll_28 : decode cX8_saveAll 28 = .ok (.getfield 41, 3) := by decide +kernel
theorem dX8_saveAll_31 : decode cX8_saveAll 31 = .ok (.iload_n 1, 1) := by decide +kernel
theorem dX8_saveAll_32 : decode cX8_saveAll 32 = .ok (.iaload, 1) := by decide +kernel
theorem dX8_saveAll_33 : decode cX8_saveAll 33 = .ok (.iastore, 1) := by decide +kernel
theorem dX8_saveAll_34 : decode cX8_saveAll 34 = .ok (.iinc 1 1, 3) := by decide +kernel
theorem dX8_saveAll_37 : decode cX8_saveAll 37 = .ok (.goto (-35), 3) := by decide +kernel
theorem dX8_saveAll_40 : decode cX8_saveAll 40 = .ok (.return_, 1) := by decide +kernel
theorem dX8_putBack_0 : decode cX8_putBack 0 = .ok (.iconst 0, 1) := by decide +kernel
theorem dX8_putBack_1 : decode cX8_putBack 1 = .ok (.istore_n 1, 1) := by decide +kernel
theorem dX8_putBack_2 : decode cX8_putBack 2 = .ok (.iload_n 1, 1) := by decide +kernel
theorem dX8_putBack_3 : decode cX8_putBack 3 = .ok (.aload_n 0, 1) := by decide +kernel
theorem dX8_putBack_4 : decode cX8_putBack 4 = .ok (.getfield 127, 3) := by decide +kernel
theorem dX8_putBack_7 : decode cX8_putBack 7 = .ok (.if_icmp .ge 33, 3) := by decide +kernel
theorem dX8_putBack_10 : decode cX8_putBack 10 = .ok (.aload_n 0, 1) := by decide +kernel
theorem dX8_putBack_11 : decode cX8_putBack 11 = .ok (.getfield 38, 3) := by decide +kernel
theorem dX8_putBack_14 : decode cX8_putBack 14 = .ok (.iload_n 1, 1) := by decide +kernel
theorem dX8_putBack_15 : decode cX8_putBack 15 = .ok (.aload_n 0, 1) := by decide +kernel
theorem dX8_putBack_16 : decode cX8_putBack 16 = .ok (.getfield 83, 3) := by decide +kernel
theorem dX8_putBack_19 : decode cX8_putBack 19 = .ok (.iload_n 1, 1) := by decide +kernel
theorem dX8_putBack_20 : decode cX8_putBack 20 = .ok (.iaload, 1) := by decide +kernel
theorem dX8_putBack_21 : decode cX8_putBack 21 = .ok (.iastore, 1) := by decide +kernel
theorem dX8_putBack_22 : decode cX8_putBack 22 = .ok (.aload_n 0, 1) := by decide +kernel
theorem dX8_putBack_23 : decode cX8_putBack 23 = .ok (.getfield 41, 3) := by decide +kernel
theorem dX8_putBack_26 : decode cX8_putBack 26 = .ok (.iload_n 1, 1) := by decide +kernel
theorem dX8_putBack_27 : decode cX8_putBack 27 = .ok (.aload_n 0, 1) := by decide +kernel
theorem dX8_putBack_28 : decode cX8_putBack 28 = .ok (.getfield 86, 3) := by decide +kernel
theorem dX8_putBack_31 : decode cX8_putBack 31 = .ok (.iload_n 1, 1) := by decide +kernel
theorem dX8_putBack_32 : decode cX8_putBack 32 = .ok (.iaload, 1) := by decide +kernel
theorem dX8_putBack_33 : decode cX8_putBack 33 = .ok (.iastore, 1) := by decide +kernel
theorem dX8_putBack_34 : decode cX8_putBack 34 = .ok (.iinc 1 1, 3) := by decide +kernel
theorem dX8_putBack_37 : decode cX8_putBack 37 = .ok (.goto (-35), 3) := by decide +kernel
theorem dX8_putBack_40 : decode cX8_putBack 40 = .ok (.return_, 1) := by decide +kernel
theorem dX8_standBy_0 : decode cX8_standBy 0 = .ok (.iload_n 1, 1) := by decide +kernel
theorem dX8_standBy_1 : decode cX8_standBy 1 = .ok (.istore_n 3, 1) := by decide +kernel
theorem dX8_standBy_2 : decode cX8_standBy 2 = .ok (.iconst 0, 1) := by decide +kernel
theorem dX8_standBy_3 : decode cX8_standBy 3 = .ok (.istore 4, 2) := by decide +kernel
theorem dX8_standBy_5 : decode cX8_standBy 5 = .ok (.iconst 1, 1) := by decide +kernel
theorem dX8_standBy_6 : decode cX8_standBy 6 = .ok (.istore 5, 2) := by decide +kernel
theorem dX8_standBy_8 : decode cX8_standBy 8 = .ok (.iconst 0, 1) := by decide +kernel
theorem dX8_standBy_9 : decode cX8_standBy 9 = .ok (.istore 6, 2) := by decide +kernel
theorem dX8_standBy_11 : decode cX8_standBy 11 = .ok (.iload 6, 2) := by decide +kernel
theorem dX8_standBy_13 : decode cX8_standBy 13 = .ok (.aload_n 0, 1) := by decide +kernel
theorem dX8_standBy_14 : decode cX8_standBy 14 = .ok (.getfield 127, 3) := by decide +kernel
theorem dX8_standBy_17 : decode cX8_standBy 17 = .ok (.if_icmp .ge 17, 3) := by decide +kernel
theorem dX8_standBy_20 : decode cX8_standBy 20 = .ok (.aload_n 0, 1) := by decide +kernel
theorem dX8_standBy_21 : decode cX8_standBy 21 = .ok (.getfield 38, 3) := by decide +kernel
theorem dX8_standBy_24 : decode cX8_standBy 24 = .ok (.iload 6, 2) := by decide +kernel
theorem dX8_standBy_26 : decode cX8_standBy 26 = .ok (.iconst (-1), 1) := by decide +kernel
theorem dX8_standBy_27 : decode cX8_standBy 27 = .ok (.iastore, 1) := by decide +kernel
theorem dX8_standBy_28 : decode cX8_standBy 28 = .ok (.iinc 6 1, 3) := by decide +kernel
theorem dX8_standBy_31 : decode cX8_standBy 31 = .ok (.goto (-20), 3) := by decide +kernel
theorem dX8_standBy_34 : decode cX8_standBy 34 = .ok (.aload_n 0, 1) := by decide +kernel
theorem dX8_standBy_35 : decode cX8_standBy 35 = .ok (.getfield 117, 3) := by decide +kernel
theorem dX8_standBy_38 : decode cX8_standBy 38 = .ok (.iconst 1, 1) := by decide +kernel
theorem dX8_standBy_39 : decode cX8_standBy 39 = .ok (.isub, 1) := by decide +kernel
theorem dX8_standBy_40 : decode cX8_standBy 40 = .ok (.istore 6, 2) := by decide +kernel
theorem dX8_standBy_42 : decode cX8_standBy 42 = .ok (.iload 6, 2) := by decide +kernel
theorem dX8_standBy_44 : decode cX8_standBy 44 = .ok (.ifCond .lt 71, 3) := by decide +kernel
theorem dX8_standBy_47 : decode cX8_standBy 47 = .ok (.iload_n 3, 1) := by decide +kernel
theorem dX8_standBy_48 : decode cX8_standBy 48 = .ok (.aload_n 0, 1) := by decide +kernel
theorem dX8_standBy_49 : decode cX8_standBy 49 = .ok (.getfield 127, 3) := by decide +kernel
theorem dX8_standBy_52 : decode cX8_standBy 52 = .ok (.iconst 1, 1) := by decide +kernel
theorem dX8_standBy_53 : decode cX8_standBy 53 = .ok (.iadd, 1) := by decide +kernel
theorem dX8_standBy_54 : decode cX8_standBy 54 = .ok (.irem, 1) := by decide +kernel
theorem dX8_standBy_55 : decode cX8_standBy 55 = .ok (.istore 7, 2) := by decide +kernel
theorem dX8_standBy_57 : decode cX8_standBy 57 = .ok (.iload_n 3, 1) := by decide +kernel
theorem dX8_standBy_58 : decode cX8_standBy 58 = .ok (.aload_n 0, 1) := by decide +kernel
theorem dX8_standBy_59 : decode cX8_standBy 59 = .ok (.getfield 127, 3) := by decide +kernel
theorem dX8_standBy_62 : decode cX8_standBy 62 = .ok (.iconst 1, 1) := by decide +kernel
theorem dX8_standBy_63 : decode cX8_standBy 63 = .ok (.iadd, 1) := by decide +kernel
theorem dX8_standBy_64 : decode cX8_standBy 64 = .ok (.idiv, 1) := by decide +kernel
theorem dX8_standBy_65 : decode cX8_standBy 65 = .ok (.istore_n 3, 1) := by decide +kernel
theorem dX8_standBy_66 : decode cX8_standBy 66 = .ok (.iload 7, 2) := by decide +kernel
theorem dX8_standBy_68 : decode cX8_standBy 68 = .ok (.aload_n 0, 1) := by decide +kernel
theorem dX8_standBy_69 : decode cX8_standBy 69 = .ok (.getfield 127, 3) := by decide +kernel
theorem dX8_standBy_72 : decode cX8_standBy 72 = .ok (.if_icmp .ge 37, 3) := by decide +kernel
theorem dX8_standBy_75 : decode cX8_standBy 75 = .ok (.iload 5, 2) := by decide +kernel
theorem dX8_standBy_77 : decode cX8_standBy 77 = .ok (.ifCond .eq 17, 3) := by decide +kernel
theorem dX8_standBy_80 : decode cX8_standBy 80 = .ok (.aload_n 0, 1) := by decide +kernel
theorem dX8_standBy_81 : decode cX8_standBy 81 = .ok (.getfield 38, 3) := by decide +kernel
theorem dX8_standBy_84 : decode cX8_standBy 84 = .ok (.iload 7, 2) := by decide +kernel
theorem dX8_standBy_86 : decode cX8_standBy 86 = .ok (.iaload, 1) := by decide +kernel
theorem dX8_standBy_87 : decode cX8_standBy 87 = .ok (.ifCond .ge 7, 3) := by decide +kernel
theorem dX8_standBy_90 : decode cX8_standBy 90 = .ok (.iconst 1, 1) := by decide +kernel
theorem dX8_standBy_91 : decode cX8_standBy 91 = .ok (.goto 4, 3) := by decide +kernel
theorem dX8_standBy_94 : decode cX8_standBy 94 = .ok (.iconst 0, 1) := by decide +kernel
theorem dX8_standBy_95 : decode cX8_standBy 95 = .ok (.istore 5, 2) := by decide +kernel
theorem dX8_standBy_97 : decode cX8_standBy 97 = .ok (.aload_n 0, 1) := by decide +kernel
theorem dX8_standBy_98 : decode cX8_standBy 98 = .ok (.getfield 38, 3) := by decide +kernel
theorem dX8_standBy_101 : decode cX8_standBy 101 = .ok (.iload 7, 2) := by decide +kernel
theorem dX8_standBy_103 : decode cX8_standBy 103 = .ok (.iload 6, 2) := by decide +kernel
theorem dX8_standBy_105 : decode cX8_standBy 105 = .ok (.iastore, 1) := by decide +kernel
theorem dX8_standBy_106 : decode cX8_standBy 106 = .ok (.iinc 4 1, 3) := by decide +kernel
theorem dX8_standBy_109 : decode cX8_standBy 109 = .ok (.iinc 6 (-1), 3) := by decide +kernel
theorem dX8_standBy_112 : decode cX8_standBy 112 = .ok (.goto (-70), 3) := by decide +kernel
theorem dX8_standBy_115 : decode cX8_standBy 115 = .ok (.iload 5, 2) := by decide +kernel
theorem dX8_standBy_117 : decode cX8_standBy 117 = .ok (.ifCond .eq 13, 3) := by decide +kernel
theorem dX8_standBy_120 : decode cX8_standBy 120 = .ok (.iload 4, 2) := by decide +kernel
theorem dX8_standBy_122 : decode cX8_standBy 122 = .ok (.iload_n 2, 1) := by decide +kernel
theorem dX8_standBy_123 : decode cX8_standBy 123 = .ok (.if_icmp .ne 7, 3) := by decide +kernel
theorem dX8_standBy_126 : decode cX8_standBy 126 = .ok (.iconst 1, 1) := by decide +kernel
theorem dX8_standBy_127 : decode cX8_standBy 127 = .ok (.goto 4, 3) := by decide +kernel
theorem dX8_standBy_130 : decode cX8_standBy 130 = .ok (.iconst 0, 1) := by decide +kernel
theorem dX8_standBy_131 : decode cX8_standBy 131 = .ok (.ireturn, 1) := by decide +kernel
theorem dX8_findStanding_0 : decode cX8_findStanding 0 = .ok (.iconst 1, 1) := by decide +kernel
theorem dX8_findStanding_1 : decode cX8_findStanding 1 = .ok (.istore_n 3, 1) := by decide +kernel
theorem dX8_findStanding_2 : decode cX8_findStanding 2 = .ok (.iconst 0, 1) := by decide +kernel
theorem dX8_findStanding_3 : decode cX8_findStanding 3 = .ok (.istore 4, 2) := by decide +kernel
theorem dX8_findStanding_5 : decode cX8_findStanding 5 = .ok (.iload 4, 2) := by decide +kernel
theorem dX8_findStanding_7 : decode cX8_findStanding 7 = .ok (.aload_n 0, 1) := by decide +kernel
theorem dX8_findStanding_8 : decode cX8_findStanding 8 = .ok (.getfield 117, 3) := by decide +kernel
theorem dX8_findStanding_11 : decode cX8_findStanding 11 = .ok (.if_icmp .ge 18, 3) := by decide +kernel
theorem dX8_findStanding_14 : decode cX8_findStanding 14 = .ok (.iload_n 3, 1) := by decide +kernel
theorem dX8_findStanding_15 : decode cX8_findStanding 15 = .ok (.aload_n 0, 1) := by decide +kernel
theorem dX8_findStanding_16 : decode cX8_findStanding 16 = .ok (.getfield 127, 3) := by decide +kernel
theorem dX8_findStanding_19 : decode cX8_findStanding 19 = .ok (.iconst 1, 1) := by decide +kernel
theorem dX8_findStanding_20 : decode cX8_findStanding 20 = .ok (.iadd, 1) := by decide +kernel
theorem dX8_findStanding_21 : decode cX8_findStanding 21 = .ok (.imul, 1) := by decide +kernel
theorem dX8_findStanding_22 : decode cX8_findStanding 22 = .ok (.istore_n 3, 1) := by decide +kernel
theorem dX8_findStanding_23 : decode cX8_findStanding 23 = .ok (.iinc 4 1, 3) := by decide +kernel
theorem dX8_findStanding_26 : decode cX8_findStanding 26 = .ok (.goto (-21), 3) := by decide +kernel
theorem dX8_findStanding_29 : decode cX8_findStanding 29 = .ok (.aload_n 0, 1) := by decide +kernel
theorem dX8_findStanding_30 : decode cX8_findStanding 30 = .ok (.getfield 117, 3) := by decide +kernel
theorem dX8_findStanding_33 : decode cX8_findStanding 33 = .ok (.aload_n 0, 1) := by decide +kernel
theorem dX8_findStanding_34 : decode cX8_findStanding 34 = .ok (.getfield 127, 3) := by decide +kernel
theorem dX8_findStanding_37 : decode cX8_findStanding 37 = .ok (.if_icmp .ge 10, 3) := by decide +kernel
theorem dX8_findStanding_40 : decode cX8_findStanding 40 = .ok (.aload_n 0, 1) := by decide +kernel
theorem dX8_findStanding_41 : decode cX8_findStanding 41 = .ok (.getfield 117, 3) := by decide +kernel
theorem dX8_findStanding_44 : decode cX8_findStanding 44 = .ok (.goto 7, 3) := by decide +kernel
theorem dX8_findStanding_47 : decode cX8_findStanding 47 = .ok (.aload_n 0, 1) := by decide +kernel
theorem dX8_findStanding_48 : decode cX8_findStanding 48 = .ok (.getfield 127, 3) := by decide +kernel
theorem dX8_findStanding_51 : decode cX8_findStanding 51 = .ok (.istore 4, 2) := by decide +kernel
theorem dX8_findStanding_53 : decode cX8_findStanding 53 = .ok (.aload_n 0, 1) := by decide +kernel
theorem dX8_findStanding_54 : decode cX8_findStanding 54 = .ok (.ldc_w 328, 3) := by decide +kernel
theorem dX8_findStanding_57 : decode cX8_findStanding 57 = .ok (.putfield 329, 3) := by decide +kernel
theorem dX8_findStanding_60 : decode cX8_findStanding 60 = .ok (.iconst 0, 1) := by decide +kernel
theorem dX8_findStanding_61 : decode cX8_findStanding 61 = .ok (.istore 5, 2) := by decide +kernel
theorem dX8_findStanding_63 : decode cX8_findStanding 63 = .ok (.iload 5, 2) := by decide +kernel
theorem dX8_findStanding_65 : decode cX8_findStanding 65 = .ok (.iload_n 3, 1) := by decide +kernel
theorem dX8_findStanding_66 : decode cX8_findStanding 66 = .ok (.if_icmp .ge 106, 3) := by decide +kernel
theorem dX8_findStanding_69 : decode cX8_findStanding 69 = .ok (.aload_n 0, 1) := by decide +kernel
theorem dX8_findStanding_70 : decode cX8_findStanding 70 = .ok (.iload 5, 2) := by decide +kernel
theorem dX8_findStanding_72 : decode cX8_findStanding 72 = .ok (.iload 4, 2) := by decide +kernel
theorem dX8_findStanding_74 : decode cX8_findStanding 74 = .ok (.invokevirtual 332, 3) := by decide +kernel
theorem dX8_findStanding_77 : decode cX8_findStanding 77 = .ok (.ifCond .eq 89, 3) := by decide +kernel
theorem dX8_findStanding_80 : decode cX8_findStanding 80 = .ok (.aload_n 0, 1) := by decide +kernel
theorem dX8_findStanding_81 : decode cX8_findStanding 81 = .ok (.aload_n 0, 1) := by decide +kernel
theorem dX8_findStanding_82 : decode cX8_findStanding 82 = .ok (.getfield 127, 3) := by decide +kernel
theorem dX8_findStanding_85 : decode cX8_findStanding 85 = .ok (.aload_n 0, 1) := by decide +kernel
theorem dX8_findStanding_86 : decode cX8_findStanding 86 = .ok (.iload_n 1, 1) := by decide +kernel
theorem dX8_findStanding_87 : decode cX8_findStanding 87 = .ok (.invokevirtual 293, 3) := by decide +kernel
theorem dX8_findStanding_90 : decode cX8_findStanding 90 = .ok (.invokevirtual 296, 3) := by decide +kernel
theorem dX8_findStanding_93 : decode cX8_findStanding 93 = .ok (.iload_n 2, 1) := by decide +kernel
theorem dX8_findStanding_94 : decode cX8_findStanding 94 = .ok (.iconst (-1), 1) := by decide +kernel
theorem dX8_findStanding_95 : decode cX8_findStanding 95 = .ok (.if_icmp .ne 14, 3) := by decide +kernel
theorem dX8_findStanding_98 : decode cX8_findStanding 98 = .ok (.aload_n 0, 1) := by decide +kernel
theorem dX8_findStanding_99 : decode cX8_findStanding 99 = .ok (.aload_n 0, 1) := by decide +kernel
theorem dX8_findStanding_100 : decode cX8_findStanding 100 = .ok (.getfield 127, 3) := by decide +kernel
theorem dX8_findStanding_103 : decode cX8_findStanding 103 = .ok (.invokevirtual 336, 3) := by decide +kernel
theorem dX8_findStanding_106 : decode cX8_findStanding 106 = .ok (.goto 8, 3) := by decide +kernel
theorem dX8_findStanding_109 : decode cX8_findStanding 109 = .ok (.aload_n 0, 1) := by decide +kernel
theorem dX8_findStanding_110 : decode cX8_findStanding 110 = .ok (.iload_n 2, 1) := by decide +kernel
theorem dX8_findStanding_111 : decode cX8_findStanding 111 = .ok (.invokevirtual 290, 3) := by decide +kernel
theorem dX8_findStanding_114 : decode cX8_findStanding 114 = .ok (.istore 6, 2) := by decide +kernel
theorem dX8_findStanding_116 : decode cX8_findStanding 116 = .ok (.iload 6, 2) := by decide +kernel
theorem dX8_findStanding_118 : decode cX8_findStanding 118 = .ok (.aload_n 0, 1) := by decide +kernel
theorem dX8_findStanding_119 : decode cX8_findStanding 119 = .ok (.getfield 329, 3) := by decide +kernel
theorem dX8_findStanding_122 : decode cX8_findStanding 122 = .ok (.if_icmp .le 44, 3) := by decide +kernel
theorem dX8_findStanding_125 : decode cX8_findStanding 125 = .ok (.aload_n 0, 1) := by decide +kernel
theorem dX8_findStanding_126 : decode cX8_findStanding 126 = .ok (.iload 6, 2) := by decide +kernel
theorem dX8_findStanding_128 : decode cX8_findStanding 128 = .ok (.putfield 329, 3) := by decide +kernel
theorem dX8_findStanding_131 : decode cX8_findStanding 131 = .ok (.iconst 0, 1) := by decide +kernel
theorem dX8_findStanding_132 : decode cX8_findStanding 132 = .ok (.istore 7, 2) := by decide +kernel
theorem dX8_findStanding_134 : decode cX8_findStanding 134 = .ok (.iload 7, 2) := by decide +kernel
theorem dX8_findStanding_136 : decode cX8_findStanding 136 = .ok (.aload_n 0, 1) := by decide +kernel
theorem dX8_findStanding_137 : decode cX8_findStanding 137 = .ok (.getfield 117, 3) := by decide +kernel
theorem dX8_findStanding_140 : decode cX8_findStanding 140 = .ok (.if_icmp .ge 26, 3) := by decide +kernel
theorem dX8_findStanding_143 : decode cX8_findStanding 143 = .ok (.aload_n 0, 1) := by decide +kernel
theorem dX8_findStanding_144 : decode cX8_findStanding 144 = .ok (.getfield 89, 3) := by decide +kernel
theorem dX8_findStanding_147 : decode cX8_findStanding 147 = .ok (.iload 7, 2) := by decide +kernel
theorem dX8_findStanding_149 : decode cX8_findStanding 149 = .ok (.aload_n 0, 1) := by decide +kernel
theorem dX8_findStanding_150 : decode cX8_findStanding 150 = .ok (.iload 7, 2) := by decide +kernel
theorem dX8_findStanding_152 : decode cX8_findStanding 152 = .ok (.aload_n 0, 1) := by decide +kernel
theorem dX8_findStanding_153 : decode cX8_findStanding 153 = .ok (.getfield 127, 3) := by decide +kernel
theorem dX8_findStanding_156 : decode cX8_findStanding 156 = .ok (.invokevirtual 264, 3) := by decide +kernel
theorem dX8_findStanding_159 : decode cX8_findStanding 159 = .ok (.iastore, 1) := by decide +kernel
theorem dX8_findStanding_160 : decode cX8_findStanding 160 = .ok (.iinc 7 1, 3) := by decide +kernel
theorem dX8_findStanding_163 : decode cX8_findStanding 163 = .ok (.goto (-29), 3) := by decide +kernel
theorem dX8_findStanding_166 : decode cX8_findStanding 166 = .ok (.iinc 5 1, 3) := by decide +kernel
theorem dX8_findStanding_169 : decode cX8_findStanding 169 = .ok (.goto (-106), 3) := by decide +kernel
theorem dX8_findStanding_172 : decode cX8_findStanding 172 = .ok (.return_, 1) := by decide +kernel
theorem dX8_standing_0 : decode cX8_standing 0 = .ok (.aload_n 0, 1) := by decide +kernel
theorem dX8_standing_1 : decode cX8_standing 1 = .ok (.iload_n 1, 1) := by decide +kernel
theorem dX8_standing_2 : decode cX8_standing 2 = .ok (.invokevirtual 251, 3) := by decide +kernel
theorem dX8_standing_5 : decode cX8_standing 5 = .ok (.ifCond .eq 29, 3) := by decide +kernel
theorem dX8_standing_8 : decode cX8_standing 8 = .ok (.iload_n 2, 1) := by decide +kernel
theorem dX8_standing_9 : decode cX8_standing 9 = .ok (.iconst (-1), 1) := by decide +kernel
theorem dX8_standing_10 : decode cX8_standing 10 = .ok (.if_icmp .eq 11, 3) := by decide +kernel
theorem dX8_standing_13 : decode cX8_standing 13 = .ok (.aload_n 0, 1) := by decide +kernel
theorem dX8_standing_14 : decode cX8_standing 14 = .ok (.iload_n 2, 1) := by decide +kernel
theorem dX8_standing_15 : decode cX8_standing 15 = .ok (.invokevirtual 267, 3) := by decide +kernel
theorem dX8_standing_18 : decode cX8_standing 18 = .ok (.ifCond .eq 16, 3) := by decide +kernel
theorem dX8_standing_21 : decode cX8_standing 21 = .ok (.iload_n 3, 1) := by decide +kernel
theorem dX8_standing_22 : decode cX8_standing 22 = .ok (.iconst (-1), 1) := by decide +kernel
theorem dX8_standing_23 : decode cX8_standing 23 = .ok (.if_icmp .eq 14, 3) := by decide +kernel
theorem dX8_standing_26 : decode cX8_standing 26 = .ok (.aload_n 0, 1) := by decide +kernel
theorem dX8_standing_27 : decode cX8_standing 27 = .ok (.iload_n 3, 1) := by decide +kernel
theorem dX8_standing_28 : decode cX8_standing 28 = .ok (.invokevirtual 261, 3) := by decide +kernel
theorem dX8_standing_31 : decode cX8_standing 31 = .ok (.ifCond .ne 6, 3) := by decide +kernel
theorem dX8_standing_34 : decode cX8_standing 34 = .ok (.ldc 255, 2) := by decide +kernel
theorem dX8_standing_36 : decode cX8_standing 36 = .ok (.ireturn, 1) := by decide +kernel
theorem dX8_standing_37 : decode cX8_standing 37 = .ok (.aload_n 0, 1) := by decide +kernel
theorem dX8_standing_38 : decode cX8_standing 38 = .ok (.invokevirtual 339, 3) := by decide +kernel
theorem dX8_standing_41 : decode cX8_standing 41 = .ok (.aload_n 0, 1) := by decide +kernel
theorem dX8_standing_42 : decode cX8_standing 42 = .ok (.iload_n 1, 1) := by decide +kernel
theorem dX8_standing_43 : decode cX8_standing 43 = .ok (.iload_n 2, 1) := by decide +kernel
theorem dX8_standing_44 : decode cX8_standing 44 = .ok (.invokevirtual 342, 3) := by decide +kernel
theorem dX8_standing_47 : decode cX8_standing 47 = .ok (.aload_n 0, 1) := by decide +kernel
theorem dX8_standing_48 : decode cX8_standing 48 = .ok (.invokevirtual 345, 3) := by decide +kernel
theorem dX8_standing_51 : decode cX8_standing 51 = .ok (.iload_n 3, 1) := by decide +kernel
theorem dX8_standing_52 : decode cX8_standing 52 = .ok (.iconst (-1), 1) := by decide +kernel
theorem dX8_standing_53 : decode cX8_standing 53 = .ok (.if_icmp .ne 10, 3) := by decide +kernel
theorem dX8_standing_56 : decode cX8_standing 56 = .ok (.aload_n 0, 1) := by decide +kernel
theorem dX8_standing_57 : decode cX8_standing 57 = .ok (.getfield 329, 3) := by decide +kernel
theorem dX8_standing_60 : decode cX8_standing 60 = .ok (.goto 9, 3) := by decide +kernel
theorem dX8_standing_63 : decode cX8_standing 63 = .ok (.aload_n 0, 1) := by decide +kernel
theorem dX8_standing_64 : decode cX8_standing 64 = .ok (.getfield 89, 3) := by decide +kernel
theorem dX8_standing_67 : decode cX8_standing 67 = .ok (.iload_n 3, 1) := by decide +kernel
theorem dX8_standing_68 : decode cX8_standing 68 = .ok (.iaload, 1) := by decide +kernel
theorem dX8_standing_69 : decode cX8_standing 69 = .ok (.ireturn, 1) := by decide +kernel
theorem dX8_lendBy_0 : decode cX8_lendBy 0 = .ok (.iload_n 1, 1) := by decide +kernel
theorem dX8_lendBy_1 : decode cX8_lendBy 1 = .ok (.istore_n 2, 1) := by decide +kernel
theorem dX8_lendBy_2 : decode cX8_lendBy 2 = .ok (.iconst 1, 1) := by decide +kernel
theorem dX8_lendBy_3 : decode cX8_lendBy 3 = .ok (.istore_n 3, 1) := by decide +kernel
theorem dX8_lendBy_4 : decode cX8_lendBy 4 = .ok (.iconst 0, 1) := by decide +kernel
theorem dX8_lendBy_5 : decode cX8_lendBy 5 = .ok (.istore 4, 2) := by decide +kernel
theorem dX8_lendBy_7 : decode cX8_lendBy 7 = .ok (.iload 4, 2) := by decide +kernel
theorem dX8_lendBy_9 : decode cX8_lendBy 9 = .ok (.aload_n 0, 1) := by decide +kernel
theorem dX8_lendBy_10 : decode cX8_lendBy 10 = .ok (.getfield 127, 3) := by decide +kernel
theorem dX8_lendBy_13 : decode cX8_lendBy 13 = .ok (.if_icmp .ge 17, 3) := by decide +kernel
theorem dX8_lendBy_16 : decode cX8_lendBy 16 = .ok (.aload_n 0, 1) := by decide +kernel
theorem dX8_lendBy_17 : decode cX8_lendBy 17 = .ok (.getfield 41, 3) := by decide +kernel
theorem dX8_lendBy_20 : decode cX8_lendBy 20 = .ok (.iload 4, 2) := by decide +kernel
theorem dX8_lendBy_22 : decode cX8_lendBy 22 = .ok (.iconst (-1), 1) := by decide +kernel
theorem dX8_lendBy_23 : decode cX8_lendBy 23 = .ok (.iastore, 1) := by decide +kernel
theorem dX8_lendBy_24 : decode cX8_lendBy 24 = .ok (.iinc 4 1, 3) := by decide +kernel
theorem dX8_lendBy_27 : decode cX8_lendBy 27 = .ok (.goto (-20), 3) := by decide +kernel
theorem dX8_lendBy_30 : decode cX8_lendBy 30 = .ok (.aload_n 0, 1) := by decide +kernel
theorem dX8_lendBy_31 : decode cX8_lendBy 31 = .ok (.getfield 130, 3) := by decide +kernel
theorem dX8_lendBy_34 : decode cX8_lendBy 34 = .ok (.iconst 1, 1) := by decide +kernel
theorem dX8_lendBy_35 : decode cX8_lendBy 35 = .ok (.isub, 1) := by decide +kernel
theorem dX8_lendBy_36 : decode cX8_lendBy 36 = .ok (.istore 4, 2) := by decide +kernel
theorem dX8_lendBy_38 : decode cX8_lendBy 38 = .ok (.iload 4, 2) := by decide +kernel
theorem dX8_lendBy_40 : decode cX8_lendBy 40 = .ok (.ifCond .lt 74, 3) := by decide +kernel
theorem dX8_lendBy_43 : decode cX8_lendBy 43 = .ok (.iload_n 2, 1) := by decide +kernel
theorem dX8_lendBy_44 : decode cX8_lendBy 44 = .ok (.aload_n 0, 1) := by decide +kernel
theorem dX8_lendBy_45 : decode cX8_lendBy 45 = .ok (.getfield 127, 3) := by decide +kernel
theorem dX8_lendBy_48 : decode cX8_lendBy 48 = .ok (.iconst 1, 1) := by decide +kernel
theorem dX8_lendBy_49 : decode cX8_lendBy 49 = .ok (.iadd, 1) := by decide +kernel
theorem dX8_lendBy_50 : decode cX8_lendBy 50 = .ok (.irem, 1) := by decide +kernel
theorem dX8_lendBy_51 : decode cX8_lendBy 51 = .ok (.iconst 1, 1) := by decide +kernel
theorem dX8_lendBy_52 : decode cX8_lendBy 52 = .ok (.isub, 1) := by decide +kernel
theorem dX8_lendBy_53 : decode cX8_lendBy 53 = .ok (.istore 5, 2) := by decide +kernel
theorem dX8_lendBy_55 : decode cX8_lendBy 55 = .ok (.iload_n 2, 1) := by decide +kernel
theorem dX8_lendBy_56 : decode cX8_lendBy 56 = .ok (.aload_n 0, 1) := by decide +kernel
theorem dX8_lendBy_57 : decode cX8_lendBy 57 = .ok (.getfield 127, 3) := by decide +kernel
theorem dX8_lendBy_60 : decode cX8_lendBy 60 = .ok (.iconst 1, 1) := by decide +kernel
theorem dX8_lendBy_61 : decode cX8_lendBy 61 = .ok (.iadd, 1) := by decide +kernel
theorem dX8_lendBy_62 : decode cX8_lendBy 62 = .ok (.idiv, 1) := by decide +kernel
theorem dX8_lendBy_63 : decode cX8_lendBy 63 = .ok (.istore_n 2, 1) := by decide +kernel
theorem dX8_lendBy_64 : decode cX8_lendBy 64 = .ok (.iload 5, 2) := by decide +kernel
theorem dX8_lendBy_66 : decode cX8_lendBy 66 = .ok (.ifCond .lt 42, 3) := by decide +kernel
theorem dX8_lendBy_69 : decode cX8_lendBy 69 = .ok (.iload_n 3, 1) := by decide +kernel
theorem dX8_lendBy_70 : decode cX8_lendBy 70 = .ok (.ifCond .eq 27, 3) := by decide +kernel
theorem dX8_lendBy_73 : decode cX8_lendBy 73 = .ok (.aload_n 0, 1) := by decide +kernel
theorem dX8_lendBy_74 : decode cX8_lendBy 74 = .ok (.getfield 38, 3) := by decide +kernel
theorem dX8_lendBy_77 : decode cX8_lendBy 77 = .ok (.iload 5, 2) := by decide +kernel
theorem dX8_lendBy_79 : decode cX8_lendBy 79 = .ok (.iaload, 1) := by decide +kernel
theorem dX8_lendBy_80 : decode cX8_lendBy 80 = .ok (.ifCond .lt 17, 3) := by decide +kernel
theorem dX8_lendBy_83 : decode cX8_lendBy 83 = .ok (.aload_n 0, 1) := by decide +kernel
theorem dX8_lendBy_84 : decode cX8_lendBy 84 = .ok (.getfield 41, 3) := by decide +kernel
theorem dX8_lendBy_87 : decode cX8_lendBy 87 = .ok (.iload 5, 2) := by decide +kernel
theorem dX8_lendBy_89 : decode cX8_lendBy 89 = .ok (.iaload, 1) := by decide +kernel
theorem dX8_lendBy_90 : decode cX8_lendBy 90 = .ok (.ifCond .ge 7, 3) := by decide +kernel
theorem dX8_lendBy_93 : decode cX8_lendBy 93 = .ok (.iconst 1, 1) := by decide +kernel
theorem dX8_lendBy_94 : decode cX8_lendBy 94 = .ok (.goto 4, 3) := by decide +kernel
theorem dX8_lendBy_97 : decode cX8_lendBy 97 = .ok (.iconst 0, 1) := by decide +kernel
theorem dX8_lendBy_98 : decode cX8_lendBy 98 = .ok (.istore_n 3, 1) := by decide +kernel
theorem dX8_lendBy_99 : decode cX8_lendBy 99 = .ok (.aload_n 0, 1) := by decide +kernel
theorem dX8_lendBy_100 : decode cX8_lendBy 100 = .ok (.getfield 41, 3) := by decide +kernel
theorem dX8_lendBy_103 : decode cX8_lendBy 103 = .ok (.iload 5, 2) := by decide +kernel
theorem dX8_lendBy_105 : decode cX8_lendBy 105 = .ok (.iload 4, 2) := by decide +kernel
theorem dX8_lendBy_107 : decode cX8_lendBy 107 = .ok (.iastore, 1) := by decide +kernel
theorem dX8_lendBy_108 : decode cX8_lendBy 108 = .ok (.iinc 4 (-1), 3) := by decide +kernel
theorem dX8_lendBy_111 : decode cX8_lendBy 111 = .ok (.goto (-73), 3) := by decide +kernel
theorem dX8_lendBy_114 : decode cX8_lendBy 114 = .ok (.iload_n 3, 1) := by decide +kernel
theorem dX8_lendBy_115 : decode cX8_lendBy 115 = .ok (.ireturn, 1) := by decide +kernel
theorem dX8_hats_0 : decode cX8_hats 0 = .ok (.aload_n 0, 1) := by decide +kernel
theorem dX8_hats_1 : decode cX8_hats 1 = .ok (.iload_n 1, 1) := by decide +kernel
theorem dX8_hats_2 : decode cX8_hats 2 = .ok (.invokevirtual 251, 3) := by decide +kernel
theorem dX8_hats_5 : decode cX8_hats 5 = .ok (.ifCond .eq 16, 3) := by decide +kernel
theorem dX8_hats_8 : decode cX8_hats 8 = .ok (.iload_n 2, 1) := by decide +kernel
theorem dX8_hats_9 : decode cX8_hats 9 = .ok (.iconst (-1), 1) := by decide +kernel
theorem dX8_hats_10 : decode cX8_hats 10 = .ok (.if_icmp .eq 14, 3) := by decide +kernel
theorem dX8_hats_13 : decode cX8_hats 13 = .ok (.aload_n 0, 1) := by decide +kernel
theorem dX8_hats_14 : decode cX8_hats 14 = .ok (.iload_n 2, 1) := by decide +kernel
theorem dX8_hats_15 : decode cX8_hats 15 = .ok (.invokevirtual 274, 3) := by decide +kernel
theorem dX8_hats_18 : decode cX8_hats 18 = .ok (.ifCond .ne 6, 3) := by decide +kernel
theorem dX8_hats_21 : decode cX8_hats 21 = .ok (.ldc 255, 2) := by decide +kernel
theorem dX8_hats_23 : decode cX8_hats 23 = .ok (.ireturn, 1) := by decide +kernel
theorem dX8_hats_24 : decode cX8_hats 24 = .ok (.aload_n 0, 1) := by decide +kernel
theorem dX8_hats_25 : decode cX8_hats 25 = .ok (.invokevirtual 339, 3) := by decide +kernel
theorem dX8_hats_28 : decode cX8_hats 28 = .ok (.iconst 1, 1) := by decide +kernel
theorem dX8_hats_29 : decode cX8_hats 29 = .ok (.istore_n 3, 1) := by decide +kernel
theorem dX8_hats_30 : decode cX8_hats 30 = .ok (.iconst 0, 1) := by decide +kernel
theorem dX8_hats_31 : decode cX8_hats 31 = .ok (.istore 4, 2) := by decide +kernel
theorem dX8_hats_33 : decode cX8_hats 33 = .ok (.iload 4, 2) := by decide +kernel
theorem dX8_hats_35 : decode cX8_hats 35 = .ok (.aload_n 0, 1) := by decide +kernel
theorem dX8_hats_36 : decode cX8_hats 36 = .ok (.getfield 130, 3) := by decide +kernel
theorem dX8_hats_39 : decode cX8_hats 39 = .ok (.if_icmp .ge 18, 3) := by decide +kernel
theorem dX8_hats_42 : decode cX8_hats 42 = .ok (.iload_n 3, 1) := by decide +kernel
theorem dX8_hats_43 : decode cX8_hats 43 = .ok (.aload_n 0, 1) := by decide +kernel
theorem dX8_hats_44 : decode cX8_hats 44 = .ok (.getfield 127, 3) := by decide +kernel
theorem dX8_hats_47 : decode cX8_hats 47 = .ok (.iconst 1, 1) := by decide +kernel
theorem dX8_hats_48 : decode cX8_hats 48 = .ok (.iadd, 1) := by decide +kernel
theorem dX8_hats_49 : decode cX8_hats 49 = .ok (.imul, 1) := by decide +kernel
theorem dX8_hats_50 : decode cX8_hats 50 = .ok (.istore_n 3, 1) := by decide +kernel
theorem dX8_hats_51 : decode cX8_hats 51 = .ok (.iinc 4 1, 3) := by decide +kernel
theorem dX8_hats_54 : decode cX8_hats 54 = .ok (.goto (-21), 3) := by decide +kernel
theorem dX8_hats_57 : decode cX8_hats 57 = .ok (.aload_n 0, 1) := by decide +kernel
theorem dX8_hats_58 : decode cX8_hats 58 = .ok (.ldc_w 328, 3) := by decide +kernel
theorem dX8_hats_61 : decode cX8_hats 61 = .ok (.putfield 329, 3) := by decide +kernel
theorem dX8_hats_64 : decode cX8_hats 64 = .ok (.iconst 0, 1) := by decide +kernel
theorem dX8_hats_65 : decode cX8_hats 65 = .ok (.istore 4, 2) := by decide +kernel
theorem dX8_hats_67 : decode cX8_hats 67 = .ok (.iload 4, 2) := by decide +kernel
theorem dX8_hats_69 : decode cX8_hats 69 = .ok (.iload_n 3, 1) := by decide +kernel
theorem dX8_hats_70 : decode cX8_hats 70 = .ok (.if_icmp .ge 87, 3) := by decide +kernel
theorem dX8_hats_73 : decode cX8_hats 73 = .ok (.aload_n 0, 1) := by decide +kernel
theorem dX8_hats_74 : decode cX8_hats 74 = .ok (.iload 4, 2) := by decide +kernel
theorem dX8_hats_76 : decode cX8_hats 76 = .ok (.invokevirtual 348, 3) := by decide +kernel
theorem dX8_hats_79 : decode cX8_hats 79 = .ok (.ifCond .eq 72, 3) := by decide +kernel
theorem dX8_hats_82 : decode cX8_hats 82 = .ok (.aload_n 0, 1) := by decide +kernel
theorem dX8_hats_83 : decode cX8_hats 83 = .ok (.aload_n 0, 1) := by decide +kernel
theorem dX8_hats_84 : decode cX8_hats 84 = .ok (.getfield 127, 3) := by decide +kernel
theorem dX8_hats_87 : decode cX8_hats 87 = .ok (.aload_n 0, 1) := by decide +kernel
theorem dX8_hats_88 : decode cX8_hats 88 = .ok (.iload_n 1, 1) := by decide +kernel
theorem dX8_hats_89 : decode cX8_hats 89 = .ok (.invokevirtual 293, 3) := by decide +kernel
theorem dX8_hats_92 : decode cX8_hats 92 = .ok (.invokevirtual 296, 3) := by decide +kernel
theorem dX8_hats_95 : decode cX8_hats 95 = .ok (.aload_n 0, 1) := by decide +kernel
theorem dX8_hats_96 : decode cX8_hats 96 = .ok (.aload_n 0, 1) := by decide +kernel
theorem dX8_hats_97 : decode cX8_hats 97 = .ok (.getfield 127, 3) := by decide +kernel
theorem dX8_hats_100 : decode cX8_hats 100 = .ok (.invokevirtual 336, 3) := by decide +kernel
theorem dX8_hats_103 : decode cX8_hats 103 = .ok (.istore 5, 2) := by decide +kernel
theorem dX8_hats_105 : decode cX8_hats 105 = .ok (.iload 5, 2) := by decide +kernel
theorem dX8_hats_107 : decode cX8_hats 107 = .ok (.aload_n 0, 1) := by decide +kernel
theorem dX8_hats_108 : decode cX8_hats 108 = .ok (.getfield 329, 3) := by decide +kernel
theorem dX8_hats_111 : decode cX8_hats 111 = .ok (.if_icmp .le 40, 3) := by decide +kernel
theorem dX8_hats_114 : decode cX8_hats 114 = .ok (.aload_n 0, 1) := by decide +kernel
theorem dX8_hats_115 : decode cX8_hats 115 = .ok (.iload 5, 2) := by decide +kernel
theorem dX8_hats_117 : decode cX8_hats 117 = .ok (.putfield 329, 3) := by decide +kernel
theorem dX8_hats_120 : decode cX8_hats 120 = .ok (.iconst 0, 1) := by decide +kernel
theorem dX8_hats_121 : decode cX8_hats 121 = .ok (.istore 6, 2) := by decide +kernel
theorem dX8_hats_123 : decode cX8_hats 123 = .ok (.iload 6, 2) := by decide +kernel
theorem dX8_hats_125 : decode cX8_hats 125 = .ok (.aload_n 0, 1) := by decide +kernel
theorem dX8_hats_126 : decode cX8_hats 126 = .ok (.getfield 130, 3) := by decide +kernel
theorem dX8_hats_129 : decode cX8_hats 129 = .ok (.if_icmp .ge 22, 3) := by decide +kernel
theorem dX8_hats_132 : decode cX8_hats 132 = .ok (.aload_n 0, 1) := by decide +kernel
theorem dX8_hats_133 : decode cX8_hats 133 = .ok (.getfield 89, 3) := by decide +kernel
theorem dX8_hats_136 : decode cX8_hats 136 = .ok (.iload 6, 2) := by decide +kernel
theorem dX8_hats_138 : decode cX8_hats 138 = .ok (.aload_n 0, 1) := by decide +kernel
theorem dX8_hats_139 : decode cX8_hats 139 = .ok (.iload 6, 2) := by decide +kernel
theorem dX8_hats_141 : decode cX8_hats 141 = .ok (.invokevirtual 277, 3) := by decide +kernel
theorem dX8_hats_144 : decode cX8_hats 144 = .ok (.iastore, 1) := by decide +kernel
theorem dX8_hats_145 : decode cX8_hats 145 = .ok (.iinc 6 1, 3) := by decide +kernel
theorem dX8_hats_148 : decode cX8_hats 148 = .ok (.goto (-25), 3) := by decide +kernel
theorem dX8_hats_151 : decode cX8_hats 151 = .ok (.iinc 4 1, 3) := by decide +kernel
theorem dX8_hats_154 : decode cX8_hats 154 = .ok (.goto (-87), 3) := by decide +kernel
theorem dX8_hats_157 : decode cX8_hats 157 = .ok (.aload_n 0, 1) := by decide +kernel
theorem dX8_hats_158 : decode cX8_hats 158 = .ok (.invokevirtual 345, 3) := by decide +kernel
theorem dX8_hats_161 : decode cX8_hats 161 = .ok (.iload_n 2, 1) := by decide +kernel
theorem dX8_hats_162 : decode cX8_hats 162 = .ok (.iconst (-1), 1) := by decide +kernel
theorem dX8_hats_163 : decode cX8_hats 163 = .ok (.if_icmp .ne 10, 3) := by decide +kernel
theorem dX8_hats_166 : decode cX8_hats 166 = .ok (.aload_n 0, 1) := by decide +kernel
theorem dX8_hats_167 : decode cX8_hats 167 = .ok (.getfield 329, 3) := by decide +kernel
theorem dX8_hats_170 : decode cX8_hats 170 = .ok (.goto 9, 3) := by decide +kernel
theorem dX8_hats_173 : decode cX8_hats 173 = .ok (.aload_n 0, 1) := by decide +kernel
theorem dX8_hats_174 : decode cX8_hats 174 = .ok (.getfield 89, 3) := by decide +kernel
theorem dX8_hats_177 : decode cX8_hats 177 = .ok (.iload_n 2, 1) := by decide +kernel
theorem dX8_hats_178 : decode cX8_hats 178 = .ok (.iaload, 1) := by decide +kernel
theorem dX8_hats_179 : decode cX8_hats 179 = .ok (.ireturn, 1) := by decide +kernel
theorem dX8_giant_0 : decode cX8_giant 0 = .ok (.aload_n 0, 1) := by decide +kernel
theorem dX8_giant_1 : decode cX8_giant 1 = .ok (.iload_n 1, 1) := by decide +kernel
theorem dX8_giant_2 : decode cX8_giant 2 = .ok (.invokevirtual 251, 3) := by decide +kernel
theorem dX8_giant_5 : decode cX8_giant 5 = .ok (.ifCond .ne 6, 3) := by decide +kernel
theorem dX8_giant_8 : decode cX8_giant 8 = .ok (.ldc 255, 2) := by decide +kernel
theorem dX8_giant_10 : decode cX8_giant 10 = .ok (.ireturn, 1) := by decide +kernel
theorem dX8_giant_11 : decode cX8_giant 11 = .ok (.iload_n 2, 1) := by decide +kernel
theorem dX8_giant_12 : decode cX8_giant 12 = .ok (.i2l, 1) := by decide +kernel
theorem dX8_giant_13 : decode cX8_giant 13 = .ok (.lconst 1, 1) := by decide +kernel
theorem dX8_giant_14 : decode cX8_giant 14 = .ok (.ldc2_w 351, 3) := by decide +kernel
theorem dX8_giant_17 : decode cX8_giant 17 = .ok (.invokestatic 123, 3) := by decide +kernel
theorem dX8_giant_20 : decode cX8_giant 20 = .ok (.ifCond .eq 26, 3) := by decide +kernel
theorem dX8_giant_23 : decode cX8_giant 23 = .ok (.iload_n 3, 1) := by decide +kernel
theorem dX8_giant_24 : decode cX8_giant 24 = .ok (.i2l, 1) := by decide +kernel
theorem dX8_giant_25 : decode cX8_giant 25 = .ok (.lconst 0, 1) := by decide +kernel
theorem dX8_giant_26 : decode cX8_giant 26 = .ok (.ldc2_w 353, 3) := by decide +kernel
theorem dX8_giant_29 : decode cX8_giant 29 = .ok (.invokestatic 123, 3) := by decide +kernel
theorem dX8_giant_32 : decode cX8_giant 32 = .ok (.ifCond .eq 14, 3) := by decide +kernel
theorem dX8_giant_35 : decode cX8_giant 35 = .ok (.iload 4, 2) := by decide +kernel
theorem dX8_giant_37 : decode cX8_giant 37 = .ok (.i2l, 1) := by decide +kernel
theorem dX8_giant_38 : decode cX8_giant 38 = .ok (.lconst 0, 1) := by decide +kernel
theorem dX8_giant_39 : decode cX8_giant 39 = .ok (.lconst 1, 1) := by decide +kernel
theorem dX8_giant_40 : decode cX8_giant 40 = .ok (.invokestatic 123, 3) := by decide +kernel
theorem dX8_giant_43 : decode cX8_giant 43 = .ok (.ifCond .ne 6, 3) := by decide +kernel
theorem dX8_giant_46 : decode cX8_giant 46 = .ok (.ldc 135, 2) := by decide +kernel
theorem dX8_giant_48 : decode cX8_giant 48 = .ok (.ireturn, 1) := by decide +kernel
theorem dX8_giant_49 : decode cX8_giant 49 = .ok (.aload_n 0, 1) := by decide +kernel
theorem dX8_giant_50 : decode cX8_giant 50 = .ok (.aload_n 0, 1) := by decide +kernel
theorem dX8_giant_51 : decode cX8_giant 51 = .ok (.getfield 127, 3) := by decide +kernel
theorem dX8_giant_54 : decode cX8_giant 54 = .ok (.aload_n 0, 1) := by decide +kernel
theorem dX8_giant_55 : decode cX8_giant 55 = .ok (.iload_n 1, 1) := by decide +kernel
theorem dX8_giant_56 : decode cX8_giant 56 = .ok (.invokevirtual 293, 3) := by decide +kernel
theorem dX8_giant_59 : decode cX8_giant 59 = .ok (.invokevirtual 296, 3) := by decide +kernel
theorem dX8_giant_62 : decode cX8_giant 62 = .ok (.aload_n 0, 1) := by decide +kernel
theorem dX8_giant_63 : decode cX8_giant 63 = .ok (.aload_n 0, 1) := by decide +kernel
theorem dX8_giant_64 : decode cX8_giant 64 = .ok (.getfield 127, 3) := by decide +kernel
theorem dX8_giant_67 : decode cX8_giant 67 = .ok (.invokevirtual 336, 3) := by decide +kernel
theorem dX8_giant_70 : decode cX8_giant 70 = .ok (.istore 5, 2) := by decide +kernel
theorem dX8_giant_72 : decode cX8_giant 72 = .ok (.iconst (-1), 1) := by decide +kernel
theorem dX8_giant_73 : decode cX8_giant 73 = .ok (.istore 6, 2) := by decide +kernel
theorem dX8_giant_75 : decode cX8_giant 75 = .ok (.iconst 0, 1) := by decide +kernel
theorem dX8_giant_76 : decode cX8_giant 76 = .ok (.istore 7, 2) := by decide +kernel
theorem dX8_giant_78 : decode cX8_giant 78 = .ok (.aload_n 0, 1) := by decide +kernel
theorem dX8_giant_79 : decode cX8_giant 79 = .ok (.getfield 29, 3) := by decide +kernel
theorem dX8_giant_82 : decode cX8_giant 82 = .ok (.aload_n 0, 1) := by decide +kernel
theorem dX8_giant_83 : decode cX8_giant 83 = .ok (.getfield 127, 3) := by decide +kernel
theorem dX8_giant_86 : decode cX8_giant 86 = .ok (.iaload, 1) := by decide +kernel
theorem dX8_giant_87 : decode cX8_giant 87 = .ok (.istore 8, 2) := by decide +kernel
theorem dX8_giant_89 : decode cX8_giant 89 = .ok (.aload_n 0, 1) := by decide +kernel
theorem dX8_giant_90 : decode cX8_giant 90 = .ok (.getfield 29, 3) := by decide +kernel
theorem dX8_giant_93 : decode cX8_giant 93 = .ok (.aload_n 0, 1) := by decide +kernel
theorem dX8_giant_94 : decode cX8_giant 94 = .ok (.getfield 127, 3) := by decide +kernel
theorem dX8_giant_97 : decode cX8_giant 97 = .ok (.iload_n 2, 1) := by decide +kernel
theorem dX8_giant_98 : decode cX8_giant 98 = .ok (.iastore, 1) := by decide +kernel
theorem dX8_giant_99 : decode cX8_giant 99 = .ok (.aload_n 0, 1) := by decide +kernel
theorem dX8_giant_100 : decode cX8_giant 100 = .ok (.getfield 41, 3) := by decide +kernel
theorem dX8_giant_103 : decode cX8_giant 103 = .ok (.aload_n 0, 1) := by decide +kernel
theorem dX8_giant_104 : decode cX8_giant 104 = .ok (.getfield 127, 3) := by decide +kernel
theorem dX8_giant_107 : decode cX8_giant 107 = .ok (.iconst (-1), 1) := by decide +kernel
theorem dX8_giant_108 : decode cX8_giant 108 = .ok (.iastore, 1) := by decide +kernel
theorem dX8_giant_109 : decode cX8_giant 109 = .ok (.iconst 0, 1) := by decide +kernel
theorem dX8_giant_110 : decode cX8_giant 110 = .ok (.istore 9, 2) := by decide +kernel
theorem dX8_giant_112 : decode cX8_giant 112 = .ok (.iload 9, 2) := by decide +kernel
theorem dX8_giant_114 : decode cX8_giant 114 = .ok (.aload_n 0, 1) := by decide +kernel
theorem dX8_giant_115 : decode cX8_giant 115 = .ok (.getfield 117, 3) := by decide +kernel
theorem dX8_giant_118 : decode cX8_giant 118 = .ok (.if_icmp .ge 112, 3) := by decide +kernel
theorem dX8_giant_121 : decode cX8_giant 121 = .ok (.aload_n 0, 1) := by decide +kernel
theorem dX8_giant_122 : decode cX8_giant 122 = .ok (.iload 9, 2) := by decide +kernel
theorem dX8_giant_124 : decode cX8_giant 124 = .ok (.aload_n 0, 1) := by decide +kernel
theorem dX8_giant_125 : decode cX8_giant 125 = .ok (.getfield 127, 3) := by decide +kernel
theorem dX8_giant_128 : decode cX8_giant 128 = .ok (.invokevirtual 264, 3) := by decide +kernel
theorem dX8_giant_131 : decode cX8_giant 131 = .ok (.ifCond .ge 93, 3) := by decide +kernel
theorem dX8_giant_134 : decode cX8_giant 134 = .ok (.aload_n 0, 1) := by decide +kernel
theorem dX8_giant_135 : decode cX8_giant 135 = .ok (.getfield 38, 3) := by decide +kernel
theorem dX8_giant_138 : decode cX8_giant 138 = .ok (.aload_n 0, 1) := by decide +kernel
theorem dX8_giant_139 : decode cX8_giant 139 = .ok (.getfield 127, 3) := by decide +kernel
theorem dX8_giant_142 : decode cX8_giant 142 = .ok (.iload 9, 2) := by decide +kernel
theorem dX8_giant_144 : decode cX8_giant 144 = .ok (.iastore, 1) := by decide +kernel
theorem dX8_giant_145 : decode cX8_giant 145 = .ok (.aload_n 0, 1) := by decide +kernel
theorem dX8_giant_146 : decode cX8_giant 146 = .ok (.aload_n 0, 1) := by decide +kernel
theorem dX8_giant_147 : decode cX8_giant 147 = .ok (.getfield 127, 3) := by decide +kernel
theorem dX8_giant_150 : decode cX8_giant 150 = .ok (.iconst 1, 1) := by decide +kernel
theorem dX8_giant_151 : decode cX8_giant 151 = .ok (.iadd, 1) := by decide +kernel
theorem dX8_giant_152 : decode cX8_giant 152 = .ok (.aload_n 0, 1) := by decide +kernel
theorem dX8_giant_153 : decode cX8_giant 153 = .ok (.iload_n 1, 1) := by decide +kernel
theorem dX8_giant_154 : decode cX8_giant 154 = .ok (.invokevirtual 293, 3) := by decide +kernel
theorem dX8_giant_157 : decode cX8_giant 157 = .ok (.invokevirtual 296, 3) := by decide +kernel
theorem dX8_giant_160 : decode cX8_giant 160 = .ok (.aload_n 0, 1) := by decide +kernel
theorem dX8_giant_161 : decode cX8_giant 161 = .ok (.aload_n 0, 1) := by decide +kernel
theorem dX8_giant_162 : decode cX8_giant 162 = .ok (.getfield 127, 3) := by decide +kernel
theorem dX8_giant_165 : decode cX8_giant 165 = .ok (.iconst 1, 1) := by decide +kernel
theorem dX8_giant_166 : decode cX8_giant 166 = .ok (.iadd, 1) := by decide +kernel
theorem dX8_giant_167 : decode cX8_giant 167 = .ok (.invokevirtual 336, 3) := by decide +kernel
theorem dX8_giant_170 : decode cX8_giant 170 = .ok (.iload 5, 2) := by decide +kernel
theorem dX8_giant_172 : decode cX8_giant 172 = .ok (.isub, 1) := by decide +kernel
theorem dX8_giant_173 : decode cX8_giant 173 = .ok (.iload_n 3, 1) := by decide +kernel
theorem dX8_giant_174 : decode cX8_giant 174 = .ok (.isub, 1) := by decide +kernel
theorem dX8_giant_175 : decode cX8_giant 175 = .ok (.istore 10, 2) := by decide +kernel
theorem dX8_giant_177 : decode cX8_giant 177 = .ok (.iload 6, 2) := by decide +kernel
theorem dX8_giant_179 : decode cX8_giant 179 = .ok (.ifCond .lt 10, 3) := by decide +kernel
theorem dX8_giant_182 : decode cX8_giant 182 = .ok (.iload 10, 2) := by decide +kernel
theorem dX8_giant_184 : decode cX8_giant 184 = .ok (.iload 7, 2) := by decide +kernel
theorem dX8_giant_186 : decode cX8_giant 186 = .ok (.if_icmp .le 7, 3) := by decide +kernel
theorem dX8_giant_189 : decode cX8_giant 189 = .ok (.iconst 1, 1) := by decide +kernel
theorem dX8_giant_190 : decode cX8_giant 190 = .ok (.goto 4, 3) := by decide +kernel
theorem dX8_giant_193 : decode cX8_giant 193 = .ok (.iconst 0, 1) := by decide +kernel
theorem dX8_giant_194 : decode cX8_giant 194 = .ok (.istore 11, 2) := by decide +kernel
theorem dX8_giant_196 : decode cX8_giant 196 = .ok (.iload 11, 2) := by decide +kernel
theorem dX8_giant_198 : decode cX8_giant 198 = .ok (.ifCond .eq 8, 3) := by decide +kernel
theorem dX8_giant_201 : decode cX8_giant 201 = .ok (.iload 9, 2) := by decide +kernel
theorem dX8_giant_203 : decode cX8_giant 203 = .ok (.goto 5, 3) := by decide +kernel
theorem dX8_giant_206 : decode cX8_giant 206 = .ok (.iload 6, 2) := by decide +kernel
theorem dX8_giant_208 : decode cX8_giant 208 = .ok (.istore 6, 2) := by decide +kernel
theorem dX8_giant_210 : decode cX8_giant 210 = .ok (.iload 11, 2) := by decide +kernel
theorem dX8_giant_212 : decode cX8_giant 212 = .ok (.ifCond .eq 8, 3) := by decide +kernel
theorem dX8_giant_215 : decode cX8_giant 215 = .ok (.iload 10, 2) := by decide +kernel
theorem dX8_giant_217 : decode cX8_giant 217 = .ok (.goto 5, 3) := by decide +kernel
theorem dX8_giant_220 : decode cX8_giant 220 = .ok (.iload 7, 2) := by decide +kernel
theorem dX8_giant_222 : decode cX8_giant 222 = .ok (.istore 7, 2) := by decide +kernel
theorem dX8_giant_224 : decode cX8_giant 224 = .ok (.iinc 9 1, 3) := by decide +kernel
theorem dX8_giant_227 : decode cX8_giant 227 = .ok (.goto (-115), 3) := by decide +kernel
theorem dX8_giant_230 : decode cX8_giant 230 = .ok (.aload_n 0, 1) := by decide +kernel
theorem dX8_giant_231 : decode cX8_giant 231 = .ok (.getfield 38, 3) := by decide +kernel
theorem dX8_giant_234 : decode cX8_giant 234 = .ok (.aload_n 0, 1) := by decide +kernel
theorem dX8_giant_235 : decode cX8_giant 235 = .ok (.getfield 127, 3) := by decide +kernel
theorem dX8_giant_238 : decode cX8_giant 238 = .ok (.iconst (-1), 1) := by decide +kernel
theorem dX8_giant_239 : decode cX8_giant 239 = .ok (.iastore, 1) := by decide +kernel
theorem dX8_giant_240 : decode cX8_giant 240 = .ok (.aload_n 0, 1) := by decide +kernel
theorem dX8_giant_241 : decode cX8_giant 241 = .ok (.getfield 29, 3) := by decide +kernel
theorem dX8_giant_244 : decode cX8_giant 244 = .ok (.aload_n 0, 1) := by decide +kernel
theorem dX8_giant_245 : decode cX8_giant 245 = .ok (.getfield 127, 3) := by decide +kernel
theorem dX8_giant_248 : decode cX8_giant 248 = .ok (.iload 8, 2) := by decide +kernel
theorem dX8_giant_250 : decode cX8_giant 250 = .ok (.iastore, 1) := by decide +kernel
theorem dX8_giant_251 : decode cX8_giant 251 = .ok (.iload 4, 2) := by decide +kernel
theorem dX8_giant_253 : decode cX8_giant 253 = .ok (.ifCond .ne 8, 3) := by decide +kernel
theorem dX8_giant_256 : decode cX8_giant 256 = .ok (.iload 6, 2) := by decide +kernel
theorem dX8_giant_258 : decode cX8_giant 258 = .ok (.goto 5, 3) := by decide +kernel
theorem dX8_giant_261 : decode cX8_giant 261 = .ok (.iload 7, 2) := by decide +kernel
theorem dX8_giant_263 : decode cX8_giant 263 = .ok (.ireturn, 1) := by decide +kernel
theorem dX8_lacksFor_0 : decode cX8_lacksFor 0 = .ok (.iconst 0, 1) := by decide +kernel
theorem dX8_lacksFor_1 : decode cX8_lacksFor 1 = .ok (.istore_n 2, 1) := by decide +kernel
theorem dX8_lacksFor_2 : decode cX8_lacksFor 2 = .ok (.iconst 0, 1) := by decide +kernel
theorem dX8_lacksFor_3 : decode cX8_lacksFor 3 = .ok (.istore_n 3, 1) := by decide +kernel
theorem dX8_lacksFor_4 : decode cX8_lacksFor 4 = .ok (.iload_n 3, 1) := by decide +kernel
theorem dX8_lacksFor_5 : decode cX8_lacksFor 5 = .ok (.aload_n 0, 1) := by decide +kernel
theorem dX8_lacksFor_6 : decode cX8_lacksFor 6 = .ok (.getfield 127, 3) := by decide +kernel
theorem dX8_lacksFor_9 : decode cX8_lacksFor 9 = .ok (.if_icmp .ge 32, 3) := by decide +kernel
theorem dX8_lacksFor_12 : decode cX8_lacksFor 12 = .ok (.iload_n 2, 1) := by decide +kernel
theorem dX8_lacksFor_13 : decode cX8_lacksFor 13 = .ok (.aload_n 0, 1) := by decide +kernel
theorem dX8_lacksFor_14 : decode cX8_lacksFor 14 = .ok (.iload_n 3, 1) := by decide +kernel
theorem dX8_lacksFor_15 : decode cX8_lacksFor 15 = .ok (.invokevirtual 290, 3) := by decide +kernel
theorem dX8_lacksFor_18 : decode cX8_lacksFor 18 = .ok (.iload_n 1, 1) := by decide +kernel
theorem dX8_lacksFor_19 : decode cX8_lacksFor 19 = .ok (.if_icmp .ge 13, 3) := by decide +kernel
theorem dX8_lacksFor_22 : decode cX8_lacksFor 22 = .ok (.iload_n 1, 1) := by decide +kernel
theorem dX8_lacksFor_23 : decode cX8_lacksFor 23 = .ok (.aload_n 0, 1) := by decide +kernel
theorem dX8_lacksFor_24 : decode cX8_lacksFor 24 = .ok (.iload_n 3, 1) := by decide +kernel
theorem dX8_lacksFor_25 : decode cX8_lacksFor 25 = .ok (.invokevirtual 290, 3) := by decide +kernel
theorem dX8_lacksFor_28 : decode cX8_lacksFor 28 = .ok (.isub, 1) := by decide +kernel
theorem dX8_lacksFor_29 : decode cX8_lacksFor 29 = .ok (.goto 4, 3) := by decide +kernel
theorem dX8_lacksFor_32 : decode cX8_lacksFor 32 = .ok (.iconst 0, 1) := by decide +kernel
theorem dX8_lacksFor_33 : decode cX8_lacksFor 33 = .ok (.iadd, 1) := by decide +kernel
theorem dX8_lacksFor_34 : decode cX8_lacksFor 34 = .ok (.istore_n 2, 1) := by decide +kernel
theorem dX8_lacksFor_35 : decode cX8_lacksFor 35 = .ok (.iinc 3 1, 3) := by decide +kernel
theorem dX8_lacksFor_38 : decode cX8_lacksFor 38 = .ok (.goto (-34), 3) := by decide +kernel
theorem dX8_lacksFor_41 : decode cX8_lacksFor 41 = .ok (.iload_n 2, 1) := by decide +kernel
theorem dX8_lacksFor_42 : decode cX8_lacksFor 42 = .ok (.ireturn, 1) := by decide +kernel
theorem dX8_peace_0 : decode cX8_peace 0 = .ok (.aload_n 0, 1) := by decide +kernel
theorem dX8_peace_1 : decode cX8_peace 1 = .ok (.iload_n 1, 1) := by decide +kernel
theorem dX8_peace_2 : decode cX8_peace 2 = .ok (.invokevirtual 251, 3) := by decide +kernel
theorem dX8_peace_5 : decode cX8_peace 5 = .ok (.ifCond .ne 6, 3) := by decide +kernel
theorem dX8_peace_8 : decode cX8_peace 8 = .ok (.ldc 255, 2) := by decide +kernel
theorem dX8_peace_10 : decode cX8_peace 10 = .ok (.ireturn, 1) := by decide +kernel
theorem dX8_peace_11 : decode cX8_peace 11 = .ok (.iload_n 2, 1) := by decide +kernel
theorem dX8_peace_12 : decode cX8_peace 12 = .ok (.i2l, 1) := by decide +kernel
theorem dX8_peace_13 : decode cX8_peace 13 = .ok (.lconst 0, 1) := by decide +kernel
theorem dX8_peace_14 : decode cX8_peace 14 = .ok (.ldc2_w 353, 3) := by decide +kernel
theorem dX8_peace_17 : decode cX8_peace 17 = .ok (.invokestatic 123, 3) := by decide +kernel
theorem dX8_peace_20 : decode cX8_peace 20 = .ok (.ifCond .ne 6, 3) := by decide +kernel
theorem dX8_peace_23 : decode cX8_peace 23 = .ok (.ldc 135, 2) := by decide +kernel
theorem dX8_peace_25 : decode cX8_peace 25 = .ok (.ireturn, 1) := by decide +kernel
theorem dX8_peace_26 : decode cX8_peace 26 = .ok (.aload_n 0, 1) := by decide +kernel
theorem dX8_peace_27 : decode cX8_peace 27 = .ok (.aload_n 0, 1) := by decide +kernel
theorem dX8_peace_28 : decode cX8_peace 28 = .ok (.getfield 127, 3) := by decide +kernel
theorem dX8_peace_31 : decode cX8_peace 31 = .ok (.aload_n 0, 1) := by decide +kernel
theorem dX8_peace_32 : decode cX8_peace 32 = .ok (.iload_n 1, 1) := by decide +kernel
theorem dX8_peace_33 : decode cX8_peace 33 = .ok (.invokevirtual 293, 3) := by decide +kernel
theorem dX8_peace_36 : decode cX8_peace 36 = .ok (.invokevirtual 296, 3) := by decide +kernel
theorem dX8_peace_39 : decode cX8_peace 39 = .ok (.aload_n 0, 1) := by decide +kernel
theorem dX8_peace_40 : decode cX8_peace 40 = .ok (.iload_n 2, 1) := by decide +kernel
theorem dX8_peace_41 : decode cX8_peace 41 = .ok (.invokevirtual 355, 3) := by decide +kernel
theorem dX8_peace_44 : decode cX8_peace 44 = .ok (.ireturn, 1) := by decide +kernel
theorem dX8_bread_0 : decode cX8_bread 0 = .ok (.aload_n 0, 1) := by decide +kernel
theorem dX8_bread_1 : decode cX8_bread 1 = .ok (.iload_n 1, 1) := by decide +kernel
theorem dX8_bread_2 : decode cX8_bread 2 = .ok (.invokevirtual 251, 3) := by decide +kernel
theorem dX8_bread_5 : decode cX8_bread 5 = .ok (.ifCond .ne 6, 3) := by decide +kernel
theorem dX8_bread_8 : decode cX8_bread 8 = .ok (.ldc 255, 2) := by decide +kernel
theorem dX8_bread_10 : decode cX8_bread 10 = .ok (.ireturn, 1) := by decide +kernel
theorem dX8_bread_11 : decode cX8_bread 11 = .ok (.iload_n 2, 1) := by decide +kernel
theorem dX8_bread_12 : decode cX8_bread 12 = .ok (.i2l, 1) := by decide +kernel
theorem dX8_bread_13 : decode cX8_bread 13 = .ok (.lconst 0, 1) := by decide +kernel
theorem dX8_bread_14 : decode cX8_bread 14 = .ok (.ldc2_w 358, 3) := by decide +kernel
theorem dX8_bread_17 : decode cX8_bread 17 = .ok (.invokestatic 123, 3) := by decide +kernel
theorem dX8_bread_20 : decode cX8_bread 20 = .ok (.ifCond .ne 6, 3) := by decide +kernel
theorem dX8_bread_23 : decode cX8_bread 23 = .ok (.ldc 135, 2) := by decide +kernel
theorem dX8_bread_25 : decode cX8_bread 25 = .ok (.ireturn, 1) := by decide +kernel
theorem dX8_bread_26 : decode cX8_bread 26 = .ok (.aload_n 0, 1) := by decide +kernel
theorem dX8_bread_27 : decode cX8_bread 27 = .ok (.aload_n 0, 1) := by decide +kernel
theorem dX8_bread_28 : decode cX8_bread 28 = .ok (.getfield 127, 3) := by decide +kernel
theorem dX8_bread_31 : decode cX8_bread 31 = .ok (.aload_n 0, 1) := by decide +kernel
theorem dX8_bread_32 : decode cX8_bread 32 = .ok (.iload_n 1, 1) := by decide +kernel
theorem dX8_bread_33 : decode cX8_bread 33 = .ok (.invokevirtual 293, 3) := by decide +kernel
theorem dX8_bread_36 : decode cX8_bread 36 = .ok (.invokevirtual 296, 3) := by decide +kernel
theorem dX8_bread_39 : decode cX8_bread 39 = .ok (.sipush 999, 3) := by decide +kernel
theorem dX8_bread_42 : decode cX8_bread 42 = .ok (.istore_n 3, 1) := by decide +kernel
theorem dX8_bread_43 : decode cX8_bread 43 = .ok (.iload_n 3, 1) := by decide +kernel
theorem dX8_bread_44 : decode cX8_bread 44 = .ok (.ifCond .lt 18, 3) := by decide +kernel
theorem dX8_bread_47 : decode cX8_bread 47 = .ok (.aload_n 0, 1) := by decide +kernel
theorem dX8_bread_48 : decode cX8_bread 48 = .ok (.iload_n 3, 1) := by decide +kernel
theorem dX8_bread_49 : decode cX8_bread 49 = .ok (.invokevirtual 355, 3) := by decide +kernel
theorem dX8_bread_52 : decode cX8_bread 52 = .ok (.iload_n 2, 1) := by decide +kernel
theorem dX8_bread_53 : decode cX8_bread 53 = .ok (.if_icmp .le 9, 3) := by decide +kernel
theorem dX8_bread_56 : decode cX8_bread 56 = .ok (.iinc 3 (-1), 3) := by decide +kernel
theorem dX8_bread_59 : decode cX8_bread 59 = .ok (.goto (-16), 3) := by decide +kernel
theorem dX8_bread_62 : decode cX8_bread 62 = .ok (.iload_n 3, 1) := by decide +kernel
theorem dX8_bread_63 : decode cX8_bread 63 = .ok (.ireturn, 1) := by decide +kernel
theorem dX8_best_0 : decode cX8_best 0 = .ok (.aload_n 0, 1) := by decide +kernel
theorem dX8_best_1 : decode cX8_best 1 = .ok (.iload_n 1, 1) := by decide +kernel
theorem dX8_best_2 : decode cX8_best 2 = .ok (.invokevirtual 267, 3) := by decide +kernel
theorem dX8_best_5 : decode cX8_best 5 = .ok (.ifCond .ne 6, 3) := by decide +kernel
theorem dX8_best_8 : decode cX8_best 8 = .ok (.ldc 255, 2) := by decide +kernel
theorem dX8_best_10 : decode cX8_best 10 = .ok (.ireturn, 1) := by decide +kernel
theorem dX8_best_11 : decode cX8_best 11 = .ok (.iload_n 2, 1) := by decide +kernel
theorem dX8_best_12 : decode cX8_best 12 = .ok (.i2l, 1) := by decide +kernel
theorem dX8_best_13 : decode cX8_best 13 = .ok (.lconst 0, 1) := by decide +kernel
theorem dX8_best_14 : decode cX8_best 14 = .ok (.lconst 1, 1) := by decide +kernel
theorem dX8_best_15 : decode cX8_best 15 = .ok (.invokestatic 123, 3) := by decide +kernel
theorem dX8_best_18 : decode cX8_best 18 = .ok (.ifCond .ne 6, 3) := by decide +kernel
theorem dX8_best_21 : decode cX8_best 21 = .ok (.ldc 135, 2) := by decide +kernel
theorem dX8_best_23 : decode cX8_best 23 = .ok (.ireturn, 1) := by decide +kernel
theorem dX8_best_24 : decode cX8_best 24 = .ok (.iconst (-1), 1) := by decide +kernel
theorem dX8_best_25 : decode cX8_best 25 = .ok (.istore_n 3, 1) := by decide +kernel
theorem dX8_best_26 : decode cX8_best 26 = .ok (.iconst 0, 1) := by decide +kernel
theorem dX8_best_27 : decode cX8_best 27 = .ok (.istore 4, 2) := by decide +kernel
theorem dX8_best_29 : decode cX8_best 29 = .ok (.iconst 0, 1) := by decide +kernel
theorem dX8_best_30 : decode cX8_best 30 = .ok (.istore 5, 2) := by decide +kernel
theorem dX8_best_32 : decode cX8_best 32 = .ok (.iload 5, 2) := by decide +kernel
theorem dX8_best_34 : decode cX8_best 34 = .ok (.aload_n 0, 1) := by decide +kernel
theorem dX8_best_35 : decode cX8_best 35 = .ok (.getfield 7, 3) := by decide +kernel
theorem dX8_best_38 : decode cX8_best 38 = .ok (.if_icmp .ge 100, 3) := by decide +kernel
theorem dX8_best_41 : decode cX8_best 41 = .ok (.iconst 0, 1) := by decide +kernel
theorem dX8_best_42 : decode cX8_best 42 = .ok (.istore 6, 2) := by decide +kernel
theorem dX8_best_44 : decode cX8_best 44 = .ok (.iconst 0, 1) := by decide +kernel
theorem dX8_best_45 : decode cX8_best 45 = .ok (.istore 7, 2) := by decide +kernel
theorem dX8_best_47 : decode cX8_best 47 = .ok (.iload 7, 2) := by decide +kernel
theorem dX8_best_49 : decode cX8_best 49 = .ok (.aload_n 0, 1) := by decide +kernel
theorem dX8_best_50 : decode cX8_best 50 = .ok (.getfield 120, 3) := by decide +kernel
theorem dX8_best_53 : decode cX8_best 53 = .ok (.if_icmp .ge 35, 3) := by decide +kernel
theorem dX8_best_56 : decode cX8_best 56 = .ok (.aload_n 0, 1) := by decide +kernel
theorem dX8_best_57 : decode cX8_best 57 = .ok (.aload_n 0, 1) := by decide +kernel
theorem dX8_best_58 : decode cX8_best 58 = .ok (.getfield 127, 3) := by decide +kernel
theorem dX8_best_61 : decode cX8_best 61 = .ok (.aload_n 0, 1) := by decide +kernel
theorem dX8_best_62 : decode cX8_best 62 = .ok (.iload 7, 2) := by decide +kernel
theorem dX8_best_64 : decode cX8_best 64 = .ok (.iload 5, 2) := by decide +kernel
theorem dX8_best_66 : decode cX8_best 66 = .ok (.invokevirtual 258, 3) := by decide +kernel
theorem dX8_best_69 : decode cX8_best 69 = .ok (.invokevirtual 296, 3) := by decide +kernel
theorem dX8_best_72 : decode cX8_best 72 = .ok (.iload 6, 2) := by decide +kernel
theorem dX8_best_74 : decode cX8_best 74 = .ok (.aload_n 0, 1) := by decide +kernel
theorem dX8_best_75 : decode cX8_best 75 = .ok (.iload_n 1, 1) := by decide +kernel
theorem dX8_best_76 : decode cX8_best 76 = .ok (.invokevirtual 290, 3) := by decide +kernel
theorem dX8_best_79 : decode cX8_best 79 = .ok (.iadd, 1) := by decide +kernel
theorem dX8_best_80 : decode cX8_best 80 = .ok (.istore 6, 2) := by decide +kernel
theorem dX8_best_82 : decode cX8_best 82 = .ok (.iinc 7 1, 3) := by decide +kernel
theorem dX8_best_85 : decode cX8_best 85 = .ok (.goto (-38), 3) := by decide +kernel
theorem dX8_best_88 : decode cX8_best 88 = .ok (.iload_n 3, 1) := by decide +kernel
theorem dX8_best_89 : decode cX8_best 89 = .ok (.ifCond .lt 10, 3) := by decide +kernel
theorem dX8_best_92 : decode cX8_best 92 = .ok (.iload 6, 2) := by decide +kernel
theorem dX8_best_94 : decode cX8_best 94 = .ok (.iload 4, 2) := by decide +kernel
theorem dX8_best_96 : decode cX8_best 96 = .ok (.if_icmp .le 7, 3) := by decide +kernel
theorem dX8_best_99 : decode cX8_best 99 = .ok (.iconst 1, 1) := by decide +kernel
theorem dX8_best_100 : decode cX8_best 100 = .ok (.goto 4, 3) := by decide +kernel
theorem dX8_best_103 : decode cX8_best 103 = .ok (.iconst 0, 1) := by decide +kernel
theorem dX8_best_104 : decode cX8_best 104 = .ok (.istore 7, 2) := by decide +kernel
theorem dX8_best_106 : decode cX8_best 106 = .ok (.iload 7, 2) := by decide +kernel
theorem dX8_best_108 : decode cX8_best 108 = .ok (.ifCond .eq 8, 3) := by decide +kernel
theorem dX8_best_111 : decode cX8_best 111 = .ok (.iload 5, 2) := by decide +kernel
theorem dX8_best_113 : decode cX8_best 113 = .ok (.goto 4, 3) := by decide +kernel
theorem dX8_best_116 : decode cX8_best 116 = .ok (.iload_n 3, 1) := by decide +kernel
theorem dX8_best_117 : decode cX8_best 117 = .ok (.istore_n 3, 1) := by decide +kernel
theorem dX8_best_118 : decode cX8_best 118 = .ok (.iload 7, 2) := by decide +kernel
theorem dX8_best_120 : decode cX8_best 120 = .ok (.ifCond .eq 8, 3) := by decide +kernel
theorem dX8_best_123 : decode cX8_best 123 = .ok (.iload 6, 2) := by decide +kernel
theorem dX8_best_125 : decode cX8_best 125 = .ok (.goto 5, 3) := by decide +kernel
theorem dX8_best_128 : decode cX8_best 128 = .ok (.iload 4, 2) := by decide +kernel
theorem dX8_best_130 : decode cX8_best 130 = .ok (.istore 4, 2) := by decide +kernel
theorem dX8_best_132 : decode cX8_best 132 = .ok (.iinc 5 1, 3) := by decide +kernel
theorem dX8_best_135 : decode cX8_best 135 = .ok (.goto (-103), 3) := by decide +kernel
theorem dX8_best_138 : decode cX8_best 138 = .ok (.iload_n 2, 1) := by decide +kernel
theorem dX8_best_139 : decode cX8_best 139 = .ok (.ifCond .ne 7, 3) := by decide +kernel
theorem dX8_best_142 : decode cX8_best 142 = .ok (.iload_n 3, 1) := by decide +kernel
theorem dX8_best_143 : decode cX8_best 143 = .ok (.goto 5, 3) := by decide +kernel
theorem dX8_best_146 : decode cX8_best 146 = .ok (.iload 4, 2) := by decide +kernel
theorem dX8_best_148 : decode cX8_best 148 = .ok (.ireturn, 1) := by decide +kernel
theorem dX8_tell_0 : decode cX8_tell 0 = .ok (.aload_n 0, 1) := by decide +kernel
theorem dX8_tell_1 : decode cX8_tell 1 = .ok (.iload_n 1, 1) := by decide +kernel
theorem dX8_tell_2 : decode cX8_tell 2 = .ok (.invokevirtual 251, 3) := by decide +kernel
theorem dX8_tell_5 : decode cX8_tell 5 = .ok (.ifCond .eq 11, 3) := by decide +kernel
theorem dX8_tell_8 : decode cX8_tell 8 = .ok (.aload_n 0, 1) := by decide +kernel
theorem dX8_tell_9 : decode cX8_tell 9 = .ok (.iload_n 3, 1) := by decide +kernel
theorem dX8_tell_10 : decode cX8_tell 10 = .ok (.invokevirtual 261, 3) := by decide +kernel
theorem dX8_tell_13 : decode cX8_tell 13 = .ok (.ifCond .ne 6, 3) := by decide +kernel
theorem dX8_tell_16 : decode cX8_tell 16 = .ok (.ldc 255, 2) := by decide +kernel
theorem dX8_tell_18 : decode cX8_tell 18 = .ok (.ireturn, 1) := by decide +kernel
theorem dX8_tell_19 : decode cX8_tell 19 = .ok (.iload_n 2, 1) := by decide +kernel
theorem dX8_tell_20 : decode cX8_tell 20 = .ok (.i2l, 1) := by decide +kernel
theorem dX8_tell_21 : decode cX8_tell 21 = .ok (.lconst 0, 1) := by decide +kernel
theorem dX8_tell_22 : decode cX8_tell 22 = .ok (.ldc2_w 353, 3) := by decide +kernel
theorem dX8_tell_25 : decode cX8_tell 25 = .ok (.invokestatic 123, 3) := by decide +kernel
theorem dX8_tell_28 : decode cX8_tell 28 = .ok (.ifCond .eq 16, 3) := by decide +kernel
theorem dX8_tell_31 : decode cX8_tell 31 = .ok (.iload 4, 2) := by decide +kernel
theorem dX8_tell_33 : decode cX8_tell 33 = .ok (.i2l, 1) := by decide +kernel
theorem dX8_tell_34 : decode cX8_tell 34 = .ok (.lconst 0, 1) := by decide +kernel
theorem dX8_tell_35 : decode cX8_tell 35 = .ok (.ldc2_w 353, 3) := by decide +kernel
theorem dX8_tell_38 : decode cX8_tell 38 = .ok (.invokestatic 123, 3) := by decide +kernel
theorem dX8_tell_41 : decode cX8_tell 41 = .ok (.ifCond .ne 6, 3) := by decide +kernel
theorem dX8_tell_44 : decode cX8_tell 44 = .ok (.ldc 135, 2) := by decide +kernel
theorem dX8_tell_46 : decode cX8_tell 46 = .ok (.ireturn, 1) := by decide +kernel
theorem dX8_tell_47 : decode cX8_tell 47 = .ok (.aload_n 0, 1) := by decide +kernel
theorem dX8_tell_48 : decode cX8_tell 48 = .ok (.getfield 242, 3) := by decide +kernel
theorem dX8_tell_51 : decode cX8_tell 51 = .ok (.bipush 10, 2) := by decide +kernel
theorem dX8_tell_53 : decode cX8_tell 53 = .ok (.if_icmp .ne 6, 3) := by decide +kernel
theorem dX8_tell_56 : decode cX8_tell 56 = .ok (.ldc 139, 2) := by decide +kernel
theorem dX8_tell_58 : decode cX8_tell 58 = .ok (.ireturn, 1) := by decide +kernel
theorem dX8_tell_59 : decode cX8_tell 59 = .ok (.aload_n 0, 1) := by decide +kernel
theorem dX8_tell_60 : decode cX8_tell 60 = .ok (.getfield 92, 3) := by decide +kernel
theorem dX8_tell_63 : decode cX8_tell 63 = .ok (.aload_n 0, 1) := by decide +kernel
theorem dX8_tell_64 : decode cX8_tell 64 = .ok (.getfield 242, 3) := by decide +kernel
theorem dX8_tell_67 : decode cX8_tell 67 = .ok (.aload_n 0, 1) := by decide +kernel
theorem dX8_tell_68 : decode cX8_tell 68 = .ok (.iload_n 1, 1) := by decide +kernel
theorem dX8_tell_69 : decode cX8_tell 69 = .ok (.iload_n 2, 1) := by decide +kernel
theorem dX8_tell_70 : decode cX8_tell 70 = .ok (.invokevirtual 258, 3) := by decide +kernel
theorem dX8_tell_73 : decode cX8_tell 73 = .ok (.iastore, 1) := by decide +kernel
theorem dX8_tell_74 : decode cX8_tell 74 = .ok (.aload_n 0, 1) := by decide +kernel
theorem dX8_tell_75 : decode cX8_tell 75 = .ok (.getfield 95, 3) := by decide +kernel
theorem dX8_tell_78 : decode cX8_tell 78 = .ok (.aload_n 0, 1) := by decide +kernel
theorem dX8_tell_79 : decode cX8_tell 79 = .ok (.getfield 242, 3) := by decide +kernel
theorem dX8_tell_82 : decode cX8_tell 82 = .ok (.iload_n 3, 1) := by decide +kernel
theorem dX8_tell_83 : decode cX8_tell 83 = .ok (.iastore, 1) := by decide +kernel
theorem dX8_tell_84 : decode cX8_tell 84 = .ok (.aload_n 0, 1) := by decide +kernel
theorem dX8_tell_85 : decode cX8_tell 85 = .ok (.getfield 98, 3) := by decide +kernel
theorem dX8_tell_88 : decode cX8_tell 88 = .ok (.aload_n 0, 1) := by decide +kernel
theorem dX8_tell_89 : decode cX8_tell 89 = .ok (.getfield 242, 3) := by decide +kernel
theorem dX8_tell_92 : decode cX8_tell 92 = .ok (.iload 4, 2) := by decide +kernel
theorem dX8_tell_94 : decode cX8_tell 94 = .ok (.iastore, 1) := by decide +kernel
theorem dX8_tell_95 : decode cX8_tell 95 = .ok (.aload_n 0, 1) := by decide +kernel
theorem dX8_tell_96 : decode cX8_tell 96 = .ok (.dup, 1) := by decide +kernel
theorem dX8_tell_97 : decode cX8_tell 97 = .ok (.getfield 242, 3) := by decide +kernel
theorem dX8_tell_100 : decode cX8_tell 100 = .ok (.iconst 1, 1) := by decide +kernel
theorem dX8_tell_101 : decode cX8_tell 101 = .ok (.iadd, 1) := by decide +kernel
theorem dX8_tell_102 : decode cX8_tell 102 = .ok (.putfield 242, 3) := by decide +kernel
theorem dX8_tell_105 : decode cX8_tell 105 = .ok (.aload_n 0, 1) := by decide +kernel
theorem dX8_tell_106 : decode cX8_tell 106 = .ok (.getfield 242, 3) := by decide +kernel
theorem dX8_tell_109 : decode cX8_tell 109 = .ok (.ireturn, 1) := by decide +kernel
theorem dX8_isAsTold_0 : decode cX8_isAsTold 0 = .ok (.iconst 1, 1) := by decide +kernel
theorem dX8_isAsTold_1 : decode cX8_isAsTold 1 = .ok (.istore_n 2, 1) := by decide +kernel
theorem dX8_isAsTold_2 : decode cX8_isAsTold 2 = .ok (.iconst 0, 1) := by decide +kernel
theorem dX8_isAsTold_3 : decode cX8_isAsTold 3 = .ok (.istore_n 3, 1) := by decide +kernel
theorem dX8_isAsTold_4 : decode cX8_isAsTold 4 = .ok (.iload_n 3, 1) := by decide +kernel
theorem dX8_isAsTold_5 : decode cX8_isAsTold 5 = .ok (.aload_n 0, 1) := by decide +kernel
theorem dX8_isAsTold_6 : decode cX8_isAsTold 6 = .ok (.getfield 242, 3) := by decide +kernel
theorem dX8_isAsTold_9 : decode cX8_isAsTold 9 = .ok (.if_icmp .ge 57, 3) := by decide +kernel
theorem dX8_isAsTold_12 : decode cX8_isAsTold 12 = .ok (.iload_n 2, 1) := by decide +kernel
theorem dX8_isAsTold_13 : decode cX8_isAsTold 13 = .ok (.ifCond .eq 45, 3) := by decide +kernel
theorem dX8_isAsTold_16 : decode cX8_isAsTold 16 = .ok (.aload_n 0, 1) := by decide +kernel
theorem dX8_isAsTold_17 : decode cX8_isAsTold 17 = .ok (.iload_n 1, 1) := by decide +kernel
theorem dX8_isAsTold_18 : decode cX8_isAsTold 18 = .ok (.aload_n 0, 1) := by decide +kernel
theorem dX8_isAsTold_19 : decode cX8_isAsTold 19 = .ok (.getfield 20, 3) := by decide +kernel
theorem dX8_isAsTold_22 : decode cX8_isAsTold 22 = .ok (.aload_n 0, 1) := by decide +kernel
theorem dX8_isAsTold_23 : decode cX8_isAsTold 23 = .ok (.getfield 95, 3) := by decide +kernel
theorem dX8_isAsTold_26 : decode cX8_isAsTold 26 = .ok (.iload_n 3, 1) := by decide +kernel
theorem dX8_isAsTold_27 : decode cX8_isAsTold 27 = .ok (.iaload, 1) := by decide +kernel
theorem dX8_isAsTold_28 : decode cX8_isAsTold 28 = .ok (.iaload, 1) := by decide +kernel
theorem dX8_isAsTold_29 : decode cX8_isAsTold 29 = .ok (.iadd, 1) := by decide +kernel
theorem dX8_isAsTold_30 : decode cX8_isAsTold 30 = .ok (.aload_n 0, 1) := by decide +kernel
theorem dX8_isAsTold_31 : decode cX8_isAsTold 31 = .ok (.getfield 95, 3) := by decide +kernel
theorem dX8_isAsTold_34 : decode cX8_isAsTold 34 = .ok (.iload_n 3, 1) := by decide +kernel
theorem dX8_isAsTold_35 : decode cX8_isAsTold 35 = .ok (.iaload, 1) := by decide +kernel
theorem dX8_isAsTold_36 : decode cX8_isAsTold 36 = .ok (.aload_n 0, 1) := by decide +kernel
theorem dX8_isAsTold_37 : decode cX8_isAsTold 37 = .ok (.getfield 92, 3) := by decide +kernel
theorem dX8_isAsTold_40 : decode cX8_isAsTold 40 = .ok (.iload_n 3, 1) := by decide +kernel
theorem dX8_isAsTold_41 : decode cX8_isAsTold 41 = .ok (.iaload, 1) := by decide +kernel
theorem dX8_isAsTold_42 : decode cX8_isAsTold 42 = .ok (.invokevirtual 280, 3) := by decide +kernel
theorem dX8_isAsTold_45 : decode cX8_isAsTold 45 = .ok (.aload_n 0, 1) := by decide +kernel
theorem dX8_isAsTold_46 : decode cX8_isAsTold 46 = .ok (.getfield 98, 3) := by decide +kernel
theorem dX8_isAsTold_49 : decode cX8_isAsTold 49 = .ok (.iload_n 3, 1) := by decide +kernel
theorem dX8_isAsTold_50 : decode cX8_isAsTold 50 = .ok (.iaload, 1) := by decide +kernel
theorem dX8_isAsTold_51 : decode cX8_isAsTold 51 = .ok (.if_icmp .ne 7, 3) := by decide +kernel
theorem dX8_isAsTold_54 : decode cX8_isAsTold 54 = .ok (.iconst 1, 1) := by decide +kernel
theorem dX8_isAsTold_55 : decode cX8_isAsTold 55 = .ok (.goto 4, 3) := by decide +kernel
theorem dX8_isAsTold_58 : decode cX8_isAsTold 58 = .ok (.iconst 0, 1) := by decide +kernel
theorem dX8_isAsTold_59 : decode cX8_isAsTold 59 = .ok (.istore_n 2, 1) := by decide +kernel
theorem dX8_isAsTold_60 : decode cX8_isAsTold 60 = .ok (.iinc 3 1, 3) := by decide +kernel
theorem dX8_isAsTold_63 : decode cX8_isAsTold 63 = .ok (.goto (-59), 3) := by decide +kernel
theorem dX8_isAsTold_66 : decode cX8_isAsTold 66 = .ok (.iload_n 2, 1) := by decide +kernel
theorem dX8_isAsTold_67 : decode cX8_isAsTold 67 = .ok (.ireturn, 1) := by decide +kernel
theorem dX8_fits_0 : decode cX8_fits 0 = .ok (.iload_n 1, 1) := by decide +kernel
theorem dX8_fits_1 : decode cX8_fits 1 = .ok (.i2l, 1) := by decide +kernel
theorem dX8_fits_2 : decode cX8_fits 2 = .ok (.lconst 0, 1) := by decide +kernel
theorem dX8_fits_3 : decode cX8_fits 3 = .ok (.ldc2_w 301, 3) := by decide +kernel
theorem dX8_fits_6 : decode cX8_fits 6 = .ok (.invokestatic 123, 3) := by decide +kernel
theorem dX8_fits_9 : decode cX8_fits 9 = .ok (.ifCond .ne 6, 3) := by decide +kernel
theorem dX8_fits_12 : decode cX8_fits 12 = .ok (.ldc 135, 2) := by decide +kernel
theorem dX8_fits_14 : decode cX8_fits 14 = .ok (.ireturn, 1) := by decide +kernel
theorem dX8_fits_15 : decode cX8_fits 15 = .ok (.iconst 0, 1) := by decide +kernel
theorem dX8_fits_16 : decode cX8_fits 16 = .ok (.istore_n 2, 1) := by decide +kernel
theorem dX8_fits_17 : decode cX8_fits 17 = .ok (.iconst (-1), 1) := by decide +kernel
theorem dX8_fits_18 : decode cX8_fits 18 = .ok (.istore_n 3, 1) := by decide +kernel
theorem dX8_fits_19 : decode cX8_fits 19 = .ok (.iconst (-1), 1) := by decide +kernel
theorem dX8_fits_20 : decode cX8_fits 20 = .ok (.istore 4, 2) := by decide +kernel
theorem dX8_fits_22 : decode cX8_fits 22 = .ok (.iconst 1, 1) := by decide +kernel
theorem dX8_fits_23 : decode cX8_fits 23 = .ok (.istore 5, 2) := by decide +kernel
theorem dX8_fits_25 : decode cX8_fits 25 = .ok (.iload 5, 2) := by decide +kernel
theorem dX8_fits_27 : decode cX8_fits 27 = .ok (.bipush 110, 2) := by decide +kernel
theorem dX8_fits_29 : decode cX8_fits 29 = .ok (.if_icmp .gt 36, 3) := by decide +kernel
theorem dX8_fits_32 : decode cX8_fits 32 = .ok (.aload_n 0, 1) := by decide +kernel
theorem dX8_fits_33 : decode cX8_fits 33 = .ok (.iload 5, 2) := by decide +kernel
theorem dX8_fits_35 : decode cX8_fits 35 = .ok (.invokevirtual 360, 3) := by decide +kernel
theorem dX8_fits_38 : decode cX8_fits 38 = .ok (.ifCond .eq 21, 3) := by decide +kernel
theorem dX8_fits_41 : decode cX8_fits 41 = .ok (.iinc 2 1, 3) := by decide +kernel
theorem dX8_fits_44 : decode cX8_fits 44 = .ok (.iload_n 3, 1) := by decide +kernel
theorem dX8_fits_45 : decode cX8_fits 45 = .ok (.ifCond .ge 8, 3) := by decide +kernel
theorem dX8_fits_48 : decode cX8_fits 48 = .ok (.iload 5, 2) := by decide +kernel
theorem dX8_fits_50 : decode cX8_fits 50 = .ok (.goto 4, 3) := by decide +kernel
theorem dX8_fits_53 : decode cX8_fits 53 = .ok (.iload_n 3, 1) := by decide +kernel
theorem dX8_fits_54 : decode cX8_fits 54 = .ok (.istore_n 3, 1) := by decide +kernel
theorem dX8_fits_55 : decode cX8_fits 55 = .ok (.iload 5, 2) := by decide +kernel
theorem dX8_fits_57 : decode cX8_fits 57 = .ok (.istore 4, 2) := by decide +kernel
theorem dX8_fits_59 : decode cX8_fits 59 = .ok (.iinc 5 1, 3) := by decide +kernel
theorem dX8_fits_62 : decode cX8_fits 62 = .ok (.goto (-37), 3) := by decide +kernel
theorem dX8_fits_65 : decode cX8_fits 65 = .ok (.iload_n 1, 1) := by decide +kernel
theorem dX8_fits_66 : decode cX8_fits 66 = .ok (.ifCond .ne 7, 3) := by decide +kernel
theorem dX8_fits_69 : decode cX8_fits 69 = .ok (.iload_n 2, 1) := by decide +kernel
theorem dX8_fits_70 : decode cX8_fits 70 = .ok (.goto 14, 3) := by decide +kernel
theorem dX8_fits_73 : decode cX8_fits 73 = .ok (.iload_n 1, 1) := by decide +kernel
theorem dX8_fits_74 : decode cX8_fits 74 = .ok (.iconst 1, 1) := by decide +kernel
theorem dX8_fits_75 : decode cX8_fits 75 = .ok (.if_icmp .ne 7, 3) := by decide +kernel
theorem dX8_fits_78 : decode cX8_fits 78 = .ok (.iload_n 3, 1) := by decide +kernel
theorem dX8_fits_79 : decode cX8_fits 79 = .ok (.goto 5, 3) := by decide +kernel
theorem dX8_fits_82 : decode cX8_fits 82 = .ok (.iload 4, 2) := by decide +kernel
theorem dX8_fits_84 : decode cX8_fits 84 = .ok (.ireturn, 1) := by decide +kernel
theorem dX8_write_0 : decode cX8_write 0 = .ok (.aload_n 0, 1) := by decide +kernel
theorem dX8_write_1 : decode cX8_write 1 = .ok (.iload_n 1, 1) := by decide +kernel
theorem dX8_write_2 : decode cX8_write 2 = .ok (.invokevirtual 251, 3) := by decide +kernel
theorem dX8_write_5 : decode cX8_write 5 = .ok (.ifCond .eq 11, 3) := by decide +kernel
theorem dX8_write_8 : decode cX8_write 8 = .ok (.aload_n 0, 1) := by decide +kernel
theorem dX8_write_9 : decode cX8_write 9 = .ok (.iload_n 2, 1) := by decide +kernel
theorem dX8_write_10 : decode cX8_write 10 = .ok (.invokevirtual 267, 3) := by decide +kernel
theorem dX8_write_13 : decode cX8_write 13 = .ok (.ifCond .ne 6, 3) := by decide +kernel
theorem dX8_write_16 : decode cX8_write 16 = .ok (.ldc 255, 2) := by decide +kernel
theorem dX8_write_18 : decode cX8_write 18 = .ok (.ireturn, 1) := by decide +kernel
theorem dX8_write_19 : decode cX8_write 19 = .ok (.iload_n 3, 1) := by decide +kernel
theorem dX8_write_20 : decode cX8_write 20 = .ok (.i2l, 1) := by decide +kernel
theorem dX8_write_21 : decode cX8_write 21 = .ok (.ldc2_w 363, 3) := by decide +kernel
theorem dX8_write_24 : decode cX8_write 24 = .ok (.ldc2_w 256, 3) := by decide +kernel
theorem dX8_write_27 : decode cX8_write 27 = .ok (.invokestatic 123, 3) := by decide +kernel
theorem dX8_write_30 : decode cX8_write 30 = .ok (.ifCond .ne 6, 3) := by decide +kernel
theorem dX8_write_33 : decode cX8_write 33 = .ok (.ldc 135, 2) := by decide +kernel
theorem dX8_write_35 : decode cX8_write 35 = .ok (.ireturn, 1) := by decide +kernel
theorem dX8_write_36 : decode cX8_write 36 = .ok (.aload_n 0, 1) := by decide +kernel
theorem dX8_write_37 : decode cX8_write 37 = .ok (.getfield 245, 3) := by decide +kernel
theorem dX8_write_40 : decode cX8_write 40 = .ok (.bipush 30, 2) := by decide +kernel
theorem dX8_write_42 : decode cX8_write 42 = .ok (.if_icmp .ne 6, 3) := by decide +kernel
theorem dX8_write_45 : decode cX8_write 45 = .ok (.ldc 139, 2) := by decide +kernel
theorem dX8_write_47 : decode cX8_write 47 = .ok (.ireturn, 1) := by decide +kernel
theorem dX8_write_48 : decode cX8_write 48 = .ok (.aload_n 0, 1) := by decide +kernel
theorem dX8_write_49 : decode cX8_write 49 = .ok (.getfield 101, 3) := by decide +kernel
theorem dX8_write_52 : decode cX8_write 52 = .ok (.aload_n 0, 1) := by decide +kernel
theorem dX8_write_53 : decode cX8_write 53 = .ok (.getfield 245, 3) := by decide +kernel
theorem dX8_write_56 : decode cX8_write 56 = .ok (.iload_n 1, 1) := by decide +kernel
theorem dX8_write_57 : decode cX8_write 57 = .ok (.iastore, 1) := by decide +kernel
theorem dX8_write_58 : decode cX8_write 58 = .ok (.aload_n 0, 1) := by decide +kernel
theorem dX8_write_59 : decode cX8_write 59 = .ok (.getfield 104, 3) := by decide +kernel
theorem dX8_write_62 : decode cX8_write 62 = .ok (.aload_n 0, 1) := by decide +kernel
theorem dX8_write_63 : decode cX8_write 63 = .ok (.getfield 245, 3) := by decide +kernel
theorem dX8_write_66 : decode cX8_write 66 = .ok (.iload_n 2, 1) := by decide +kernel
theorem dX8_write_67 : decode cX8_write 67 = .ok (.iastore, 1) := by decide +kernel
theorem dX8_write_68 : decode cX8_write 68 = .ok (.aload_n 0, 1) := by decide +kernel
theorem dX8_write_69 : decode cX8_write 69 = .ok (.getfield 107, 3) := by decide +kernel
theorem dX8_write_72 : decode cX8_write 72 = .ok (.aload_n 0, 1) := by decide +kernel
theorem dX8_write_73 : decode cX8_write 73 = .ok (.getfield 245, 3) := by decide +kernel
theorem dX8_write_76 : decode cX8_write 76 = .ok (.iload_n 3, 1) := by decide +kernel
theorem dX8_write_77 : decode cX8_write 77 = .ok (.iastore, 1) := by decide +kernel
theorem dX8_write_78 : decode cX8_write 78 = .ok (.aload_n 0, 1) := by decide +kernel
theorem dX8_write_79 : decode cX8_write 79 = .ok (.dup, 1) := by decide +kernel
theorem dX8_write_80 : decode cX8_write 80 = .ok (.getfield 245, 3) := by decide +kernel
theorem dX8_write_83 : decode cX8_write 83 = .ok (.iconst 1, 1) := by decide +kernel
theorem dX8_write_84 : decode cX8_write 84 = .ok (.iadd, 1) := by decide +kernel
theorem dX8_write_85 : decode cX8_write 85 = .ok (.putfield 245, 3) := by decide +kernel
theorem dX8_write_88 : decode cX8_write 88 = .ok (.aload_n 0, 1) := by decide +kernel
theorem dX8_write_89 : decode cX8_write 89 = .ok (.getfield 245, 3) := by decide +kernel
theorem dX8_write_92 : decode cX8_write 92 = .ok (.ireturn, 1) := by decide +kernel
theorem dX8_tear_0 : decode cX8_tear 0 = .ok (.aload_n 0, 1) := by decide +kernel
theorem dX8_tear_1 : decode cX8_tear 1 = .ok (.getfield 245, 3) := by decide +kernel
theorem dX8_tear_4 : decode cX8_tear 4 = .ok (.aload_n 0, 1) := by decide +kernel
theorem dX8_tear_5 : decode cX8_tear 5 = .ok (.getfield 242, 3) := by decide +kernel
theorem dX8_tear_8 : decode cX8_tear 8 = .ok (.iadd, 1) := by decide +kernel
theorem dX8_tear_9 : decode cX8_tear 9 = .ok (.istore_n 1, 1) := by decide +kernel
theorem dX8_tear_10 : decode cX8_tear 10 = .ok (.aload_n 0, 1) := by decide +kernel
theorem dX8_tear_11 : decode cX8_tear 11 = .ok (.iconst 0, 1) := by decide +kernel
theorem dX8_tear_12 : decode cX8_tear 12 = .ok (.putfield 245, 3) := by decide +kernel
theorem dX8_tear_15 : decode cX8_tear 15 = .ok (.aload_n 0, 1) := by decide +kernel
theorem dX8_tear_16 : decode cX8_tear 16 = .ok (.iconst 0, 1) := by decide +kernel
theorem dX8_tear_17 : decode cX8_tear 17 = .ok (.putfield 242, 3) := by decide +kernel
theorem dX8_tear_20 : decode cX8_tear 20 = .ok (.iload_n 1, 1) := by decide +kernel
theorem dX8_tear_21 : decode cX8_tear 21 = .ok (.ireturn, 1) := by decide +kernel
theorem dX8_judge_0 : decode cX8_judge 0 = .ok (.iconst 0, 1) := by decide +kernel
theorem dX8_judge_1 : decode cX8_judge 1 = .ok (.istore_n 1, 1) := by decide +kernel
theorem dX8_judge_2 : decode cX8_judge 2 = .ok (.iload_n 1, 1) := by decide +kernel
theorem dX8_judge_3 : decode cX8_judge 3 = .ok (.aload_n 0, 1) := by decide +kernel
theorem dX8_judge_4 : decode cX8_judge 4 = .ok (.getfield 245, 3) := by decide +kernel
theorem dX8_judge_7 : decode cX8_judge 7 = .ok (.if_icmp .ge 48, 3) := by decide +kernel
theorem dX8_judge_10 : decode cX8_judge 10 = .ok (.aload_n 0, 1) := by decide +kernel
theorem dX8_judge_11 : decode cX8_judge 11 = .ok (.aload_n 0, 1) := by decide +kernel
theorem dX8_judge_12 : decode cX8_judge 12 = .ok (.getfield 127, 3) := by decide +kernel
theorem dX8_judge_15 : decode cX8_judge 15 = .ok (.aload_n 0, 1) := by decide +kernel
theorem dX8_judge_16 : decode cX8_judge 16 = .ok (.aload_n 0, 1) := by decide +kernel
theorem dX8_judge_17 : decode cX8_judge 17 = .ok (.getfield 101, 3) := by decide +kernel
theorem dX8_judge_20 : decode cX8_judge 20 = .ok (.iload_n 1, 1) := by decide +kernel
theorem dX8_judge_21 : decode cX8_judge 21 = .ok (.iaload, 1) := by decide +kernel
theorem dX8_judge_22 : decode cX8_judge 22 = .ok (.invokevirtual 293, 3) := by decide +kernel
theorem dX8_judge_25 : decode cX8_judge 25 = .ok (.invokevirtual 296, 3) := by decide +kernel
theorem dX8_judge_28 : decode cX8_judge 28 = .ok (.aload_n 0, 1) := by decide +kernel
theorem dX8_judge_29 : decode cX8_judge 29 = .ok (.aload_n 0, 1) := by decide +kernel
theorem dX8_judge_30 : decode cX8_judge 30 = .ok (.getfield 104, 3) := by decide +kernel
theorem dX8_judge_33 : decode cX8_judge 33 = .ok (.iload_n 1, 1) := by decide +kernel
theorem dX8_judge_34 : decode cX8_judge 34 = .ok (.iaload, 1) := by decide +kernel
theorem dX8_judge_35 : decode cX8_judge 35 = .ok (.invokevirtual 290, 3) := by decide +kernel
theorem dX8_judge_38 : decode cX8_judge 38 = .ok (.aload_n 0, 1) := by decide +kernel
theorem dX8_judge_39 : decode cX8_judge 39 = .ok (.getfield 107, 3) := by decide +kernel
theorem dX8_judge_42 : decode cX8_judge 42 = .ok (.iload_n 1, 1) := by decide +kernel
theorem dX8_judge_43 : decode cX8_judge 43 = .ok (.iaload, 1) := by decide +kernel
theorem dX8_judge_44 : decode cX8_judge 44 = .ok (.if_icmp .eq 5, 3) := by decide +kernel
theorem dX8_judge_47 : decode cX8_judge 47 = .ok (.iload_n 1, 1) := by decide +kernel
theorem dX8_judge_48 : decode cX8_judge 48 = .ok (.ireturn, 1) := by decide +kernel
theorem dX8_judge_49 : decode cX8_judge 49 = .ok (.iinc 1 1, 3) := by decide +kernel
theorem dX8_judge_52 : decode cX8_judge 52 = .ok (.goto (-50), 3) := by decide +kernel
theorem dX8_judge_55 : decode cX8_judge 55 = .ok (.iconst (-1), 1) := by decide +kernel
theorem dX8_judge_56 : decode cX8_judge 56 = .ok (.ireturn, 1) := by decide +kernel
theorem dX8_seed_0 : decode cX8_seed 0 = .ok (.iload_n 1, 1) := by decide +kernel
theorem dX8_seed_1 : decode cX8_seed 1 = .ok (.ifCond .ge 6, 3) := by decide +kernel
theorem dX8_seed_4 : decode cX8_seed 4 = .ok (.ldc 135, 2) := by decide +kernel
theorem dX8_seed_6 : decode cX8_seed 6 = .ok (.ireturn, 1) := by decide +kernel
theorem dX8_seed_7 : decode cX8_seed 7 = .ok (.aload_n 0, 1) := by decide +kernel
theorem dX8_seed_8 : decode cX8_seed 8 = .ok (.getfield 312, 3) := by decide +kernel
theorem dX8_seed_11 : decode cX8_seed 11 = .ok (.istore_n 2, 1) := by decide +kernel
theorem dX8_seed_12 : decode cX8_seed 12 = .ok (.aload_n 0, 1) := by decide +kernel
theorem dX8_seed_13 : decode cX8_seed 13 = .ok (.iload_n 1, 1) := by decide +kernel
theorem dX8_seed_14 : decode cX8_seed 14 = .ok (.putfield 312, 3) := by decide +kernel
theorem dX8_seed_17 : decode cX8_seed 17 = .ok (.iload_n 2, 1) := by decide +kernel
theorem dX8_seed_18 : decode cX8_seed 18 = .ok (.ireturn, 1) := by decide +kernel
theorem dX8_keep_0 : decode cX8_keep 0 = .ok (.iload_n 1, 1) := by decide +kernel
theorem dX8_keep_1 : decode cX8_keep 1 = .ok (.i2l, 1) := by decide +kernel
theorem dX8_keep_2 : decode cX8_keep 2 = .ok (.lconst 0, 1) := by decide +kernel
theorem dX8_keep_3 : decode cX8_keep 3 = .ok (.lconst 1, 1) := by decide +kernel
theorem dX8_keep_4 : decode cX8_keep 4 = .ok (.invokestatic 123, 3) := by decide +kernel
theorem dX8_keep_7 : decode cX8_keep 7 = .ok (.ifCond .ne 6, 3) := by decide +kernel
theorem dX8_keep_10 : decode cX8_keep 10 = .ok (.ldc 255, 2) := by decide +kernel
theorem dX8_keep_12 : decode cX8_keep 12 = .ok (.ireturn, 1) := by decide +kernel
theorem dX8_keep_13 : decode cX8_keep 13 = .ok (.bipush 25, 2) := by decide +kernel
theorem dX8_keep_15 : decode cX8_keep 15 = .ok (.iload_n 1, 1) := by decide +kernel
theorem dX8_keep_16 : decode cX8_keep 16 = .ok (.imul, 1) := by decide +kernel
theorem dX8_keep_17 : decode cX8_keep 17 = .ok (.istore_n 2, 1) := by decide +kernel
theorem dX8_keep_18 : decode cX8_keep 18 = .ok (.iconst 0, 1) := by decide +kernel
theorem dX8_keep_19 : decode cX8_keep 19 = .ok (.istore_n 3, 1) := by decide +kernel
theorem dX8_keep_20 : decode cX8_keep 20 = .ok (.iload_n 3, 1) := by decide +kernel
theorem dX8_keep_21 : decode cX8_keep 21 = .ok (.bipush 6, 2) := by decide +kernel
theorem dX8_keep_23 : decode cX8_keep 23 = .ok (.if_icmp .ge 57, 3) := by decide +kernel
theorem dX8_keep_26 : decode cX8_keep 26 = .ok (.aload_n 0, 1) := by decide +kernel
theorem dX8_keep_27 : decode cX8_keep 27 = .ok (.getfield 110, 3) := by decide +kernel
theorem dX8_keep_30 : decode cX8_keep 30 = .ok (.iload_n 2, 1) := by decide +kernel
theorem dX8_keep_31 : decode cX8_keep 31 = .ok (.iload_n 3, 1) := by decide +kernel
theorem dX8_keep_32 : decode cX8_keep 32 = .ok (.iadd, 1) := by decide +kernel
theorem dX8_keep_33 : decode cX8_keep 33 = .ok (.aload_n 0, 1) := by decide +kernel
theorem dX8_keep_34 : decode cX8_keep 34 = .ok (.getfield 38, 3) := by decide +kernel
theorem dX8_keep_37 : decode cX8_keep 37 = .ok (.iload_n 3, 1) := by decide +kernel
theorem dX8_keep_38 : decode cX8_keep 38 = .ok (.iaload, 1) := by decide +kernel
theorem dX8_keep_39 : decode cX8_keep 39 = .ok (.iastore, 1) := by decide +kernel
theorem dX8_keep_40 : decode cX8_keep 40 = .ok (.aload_n 0, 1) := by decide +kernel
theorem dX8_keep_41 : decode cX8_keep 41 = .ok (.getfield 110, 3) := by decide +kernel
theorem dX8_keep_44 : decode cX8_keep 44 = .ok (.iload_n 2, 1) := by decide +kernel
theorem dX8_keep_45 : decode cX8_keep 45 = .ok (.bipush 6, 2) := by decide +kernel
theorem dX8_keep_47 : decode cX8_keep 47 = .ok (.iadd, 1) := by decide +kernel
theorem dX8_keep_48 : decode cX8_keep 48 = .ok (.iload_n 3, 1) := by decide +kernel
theorem dX8_keep_49 : decode cX8_keep 49 = .ok (.iadd, 1) := by decide +kernel
theorem dX8_keep_50 : decode cX8_keep 50 = .ok (.aload_n 0, 1) := by decide +kernel
theorem dX8_keep_51 : decode cX8_keep 51 = .ok (.getfield 41, 3) := by decide +kernel
theorem dX8_keep_54 : decode cX8_keep 54 = .ok (.iload_n 3, 1) := by decide +kernel
theorem dX8_keep_55 : decode cX8_keep 55 = .ok (.iaload, 1) := by decide +kernel
theorem dX8_keep_56 : decode cX8_keep 56 = .ok (.iastore, 1) := by decide +kernel
theorem dX8_keep_57 : decode cX8_keep 57 = .ok (.aload_n 0, 1) := by decide +kernel
theorem dX8_keep_58 : decode cX8_keep 58 = .ok (.getfield 110, 3) := by decide +kernel
theorem dX8_keep_61 : decode cX8_keep 61 = .ok (.iload_n 2, 1) := by decide +kernel
theorem dX8_keep_62 : decode cX8_keep 62 = .ok (.bipush 12, 2) := by decide +kernel
theorem dX8_keep_64 : decode cX8_keep 64 = .ok (.iadd, 1) := by decide +kernel
theorem dX8_keep_65 : decode cX8_keep 65 = .ok (.iload_n 3, 1) := by decide +kernel
theorem dX8_keep_66 : decode cX8_keep 66 = .ok (.iadd, 1) := by decide +kernel
theorem dX8_keep_67 : decode cX8_keep 67 = .ok (.aload_n 0, 1) := by decide +kernel
theorem dX8_keep_68 : decode cX8_keep 68 = .ok (.getfield 44, 3) := by decide +kernel
theorem dX8_keep_71 : decode cX8_keep 71 = .ok (.iload_n 3, 1) := by decide +kernel
theorem dX8_keep_72 : decode cX8_keep 72 = .ok (.iaload, 1) := by decide +kernel
theorem dX8_keep_73 : decode cX8_keep 73 = .ok (.iastore, 1) := by decide +kernel
theorem dX8_keep_74 : decode cX8_keep 74 = .ok (.iinc 3 1, 3) := by decide +kernel
theorem dX8_keep_77 : decode cX8_keep 77 = .ok (.goto (-57), 3) := by decide +kernel
theorem dX8_keep_80 : decode cX8_keep 80 = .ok (.aload_n 0, 1) := by decide +kernel
theorem dX8_keep_81 : decode cX8_keep 81 = .ok (.getfield 110, 3) := by decide +kernel
theorem dX8_keep_84 : decode cX8_keep 84 = .ok (.iload_n 2, 1) := by decide +kernel
theorem dX8_keep_85 : decode cX8_keep 85 = .ok (.bipush 18, 2) := by decide +kernel
theorem dX8_keep_87 : decode cX8_keep 87 = .ok (.iadd, 1) := by decide +kernel
theorem dX8_keep_88 : decode cX8_keep 88 = .ok (.aload_n 0, 1) := by decide +kernel
theorem dX8_keep_89 : decode cX8_keep 89 = .ok (.getfield 236, 3) := by decide +kernel
theorem dX8_keep_92 : decode cX8_keep 92 = .ok (.iastore, 1) := by decide +kernel
theorem dX8_keep_93 : decode cX8_keep 93 = .ok (.aload_n 0, 1) := by decide +kernel
theorem dX8_keep_94 : decode cX8_keep 94 = .ok (.getfield 110, 3) := by decide +kernel
theorem dX8_keep_97 : decode cX8_keep 97 = .ok (.iload_n 2, 1) := by decide +kernel
theorem dX8_keep_98 : decode cX8_keep 98 = .ok (.bipush 19, 2) := by decide +kernel
theorem dX8_keep_100 : decode cX8_keep 100 = .ok (.iadd, 1) := by decide +kernel
theorem dX8_keep_101 : decode cX8_keep 101 = .ok (.aload_n 0, 1) := by decide +kernel
theorem dX8_keep_102 : decode cX8_keep 102 = .ok (.getfield 239, 3) := by decide +kernel
theorem dX8_keep_105 : decode cX8_keep 105 = .ok (.iastore, 1) := by decide +kernel
theorem dX8_keep_106 : decode cX8_keep 106 = .ok (.aload_n 0, 1) := by decide +kernel
theorem dX8_keep_107 : decode cX8_keep 107 = .ok (.getfield 110, 3) := by decide +kernel
theorem dX8_keep_110 : decode cX8_keep 110 = .ok (.iload_n 2, 1) := by decide +kernel
theorem dX8_keep_111 : decode cX8_keep 111 = .ok (.bipush 20, 2) := by decide +kernel
theorem dX8_keep_113 : decode cX8_keep 113 = .ok (.iadd, 1) := by decide +kernel
theorem dX8_keep_114 : decode cX8_keep 114 = .ok (.aload_n 0, 1) := by decide +kernel
theorem dX8_keep_115 : decode cX8_keep 115 = .ok (.getfield 248, 3) := by decide +kernel
theorem dX8_keep_118 : decode cX8_keep 118 = .ok (.iastore, 1) := by decide +kernel
theorem dX8_keep_119 : decode cX8_keep 119 = .ok (.aload_n 0, 1) := by decide +kernel
theorem dX8_keep_120 : decode cX8_keep 120 = .ok (.getfield 110, 3) := by decide +kernel
theorem dX8_keep_123 : decode cX8_keep 123 = .ok (.iload_n 2, 1) := by decide +kernel
theorem dX8_keep_124 : decode cX8_keep 124 = .ok (.bipush 21, 2) := by decide +kernel
theorem dX8_keep_126 : decode cX8_keep 126 = .ok (.iadd, 1) := by decide +kernel
theorem dX8_keep_127 : decode cX8_keep 127 = .ok (.aload_n 0, 1) := by decide +kernel
theorem dX8_keep_128 : decode cX8_keep 128 = .ok (.getfield 312, 3) := by decide +kernel
theorem dX8_keep_131 : decode cX8_keep 131 = .ok (.iastore, 1) := by decide +kernel
theorem dX8_keep_132 : decode cX8_keep 132 = .ok (.aload_n 0, 1) := by decide +kernel
theorem dX8_keep_133 : decode cX8_keep 133 = .ok (.getfield 113, 3) := by decide +kernel
theorem dX8_keep_136 : decode cX8_keep 136 = .ok (.iload_n 1, 1) := by decide +kernel
theorem dX8_keep_137 : decode cX8_keep 137 = .ok (.iconst 1, 1) := by decide +kernel
theorem dX8_keep_138 : decode cX8_keep 138 = .ok (.bastore, 1) := by decide +kernel
theorem dX8_keep_139 : decode cX8_keep 139 = .ok (.iconst 1, 1) := by decide +kernel
theorem dX8_keep_140 : decode cX8_keep 140 = .ok (.ireturn, 1) := by decide +kernel
theorem dX8_goBack_0 : decode cX8_goBack 0 = .ok (.iload_n 1, 1) := by decide +kernel
theorem dX8_goBack_1 : decode cX8_goBack 1 = .ok (.i2l, 1) := by decide +kernel
theorem dX8_goBack_2 : decode cX8_goBack 2 = .ok (.lconst 0, 1) := by decide +kernel
theorem dX8_goBack_3 : decode cX8_goBack 3 = .ok (.lconst 1, 1) := by decide +kernel
theorem dX8_goBack_4 : decode cX8_goBack 4 = .ok (.invokestatic 123, 3) := by decide +kernel
theorem dX8_goBack_7 : decode cX8_goBack 7 = .ok (.ifCond .ne 6, 3) := by decide +kernel
theorem dX8_goBack_10 : decode cX8_goBack 10 = .ok (.ldc 255, 2) := by decide +kernel
theorem dX8_goBack_12 : decode cX8_goBack 12 = .ok (.ireturn, 1) := by decide +kernel
theorem dX8_goBack_13 : decode cX8_goBack 13 = .ok (.aload_n 0, 1) := by decide +kernel
theorem dX8_goBack_14 : decode cX8_goBack 14 = .ok (.getfield 113, 3) := by decide +kernel
theorem dX8_goBack_17 : decode cX8_goBack 17 = .ok (.iload_n 1, 1) := by decide +kernel
theorem dX8_goBack_18 : decode cX8_goBack 18 = .ok (.baload, 1) := by decide +kernel
theorem dX8_goBack_19 : decode cX8_goBack 19 = .ok (.ifCond .ne 7, 3) := by decide +kernel
theorem dX8_goBack_22 : decode cX8_goBack 22 = .ok (.ldc_w 300, 3) := by decide +kernel
theorem dX8_goBack_25 : decode cX8_goBack 25 = .ok (.ireturn, 1) := by decide +kernel
theorem dX8_goBack_26 : decode cX8_goBack 26 = .ok (.bipush 25, 2) := by decide +kernel
theorem dX8_goBack_28 : decode cX8_goBack 28 = .ok (.iload_n 1, 1) := by decide +kernel
theorem dX8_goBack_29 : decode cX8_goBack 29 = .ok (.imul, 1) := by decide +kernel
theorem dX8_goBack_30 : decode cX8_goBack 30 = .ok (.istore_n 2, 1) := by decide +kernel
theorem dX8_goBack_31 : decode cX8_goBack 31 = .ok (.iconst 0, 1) := by decide +kernel
theorem dX8_goBack_32 : decode cX8_goBack 32 = .ok (.istore_n 3, 1) := by decide +kernel
theorem dX8_goBack_33 : decode cX8_goBack 33 = .ok (.iload_n 3, 1) := by decide +kernel
theorem dX8_goBack_34 : decode cX8_goBack 34 = .ok (.bipush 6, 2) := by decide +kernel
theorem dX8_goBack_36 : decode cX8_goBack 36 = .ok (.if_icmp .ge 57, 3) := by decide +kernel
theorem dX8_goBack_39 : decode cX8_goBack 39 = .ok (.aload_n 0, 1) := by decide +kernel
theorem dX8_goBack_40 : decode cX8_goBack 40 = .ok (.getfield 38, 3) := by decide +kernel
theorem dX8_goBack_43 : decode cX8_goBack 43 = .ok (.iload_n 3, 1) := by decide +kernel
theorem dX8_goBack_44 : decode cX8_goBack 44 = .ok (.aload_n 0, 1) := by decide +kernel
theorem dX8_goBack_45 : decode cX8_goBack 45 = .ok (.getfield 110, 3) := by decide +kernel
theorem dX8_goBack_48 : decode cX8_goBack 48 = .ok (.iload_n 2, 1) := by decide +kernel
theorem dX8_goBack_49 : decode cX8_goBack 49 = .ok (.iload_n 3, 1) := by decide +kernel
theorem dX8_goBack_50 : decode cX8_goBack 50 = .ok (.iadd, 1) := by decide +kernel
theorem dX8_goBack_51 : decode cX8_goBack 51 = .ok (.iaload, 1) := by decide +kernel
theorem dX8_goBack_52 : decode cX8_goBack 52 = .ok (.iastore, 1) := by decide +kernel
theorem dX8_goBack_53 : decode cX8_goBack 53 = .ok (.aload_n 0, 1) := by decide +kernel
theorem dX8_goBack_54 : decode cX8_goBack 54 = .ok (.getfield 41, 3) := by decide +kernel
theorem dX8_goBack_57 : decode cX8_goBack 57 = .ok (.iload_n 3, 1) := by decide +kernel
theorem dX8_goBack_58 : decode cX8_goBack 58 = .ok (.aload_n 0, 1) := by decide +kernel
theorem dX8_goBack_59 : decode cX8_goBack 59 = .ok (.getfield 110, 3) := by decide +kernel
theorem dX8_goBack_62 : decode cX8_goBack 62 = .ok (.iload_n 2, 1) := by decide +kernel
theorem dX8_goBack_63 : decode cX8_goBack 63 = .ok (.bipush 6, 2) := by decide +kernel
theorem dX8_goBack_65 : decode cX8_goBack 65 = .ok (.iadd, 1) := by decide +kernel
theorem dX8_goBack_66 : decode cX8_goBack 66 = .ok (.iload_n 3, 1) := by decide +kernel
theorem dX8_goBack_67 : decode cX8_goBack 67 = .ok (.iadd, 1) := by decide +kernel
theorem dX8_goBack_68 : decode cX8_goBack 68 = .ok (.iaload, 1) := by decide +kernel
theorem dX8_goBack_69 : decode cX8_goBack 69 = .ok (.iastore, 1) := by decide +kernel
theorem dX8_goBack_70 : decode cX8_goBack 70 = .ok (.aload_n 0, 1) := by decide +kernel
theorem dX8_goBack_71 : decode cX8_goBack 71 = .ok (.getfield 44, 3) := by decide +kernel
theorem dX8_goBack_74 : decode cX8_goBack 74 = .ok (.iload_n 3, 1) := by decide +kernel
theorem dX8_goBack_75 : decode cX8_goBack 75 = .ok (.aload_n 0, 1) := by decide +kernel
theorem dX8_goBack_76 : decode cX8_goBack 76 = .ok (.getfield 110, 3) := by decide +kernel
theorem dX8_goBack_79 : decode cX8_goBack 79 = .ok (.iload_n 2, 1) := by decide +kernel
theorem dX8_goBack_80 : decode cX8_goBack 80 = .ok (.bipush 12, 2) := by decide +kernel
theorem dX8_goBack_82 : decode cX8_goBack 82 = .ok (.iadd, 1) := by decide +kernel
theorem dX8_goBack_83 : decode cX8_goBack 83 = .ok (.iload_n 3, 1) := by decide +kernel
theorem dX8_goBack_84 : decode cX8_goBack 84 = .ok (.iadd, 1) := by decide +kernel
theorem dX8_goBack_85 : decode cX8_goBack 85 = .ok (.iaload, 1) := by decide +kernel
theorem dX8_goBack_86 : decode cX8_goBack 86 = .ok (.iastore, 1) := by decide +kernel
theorem dX8_goBack_87 : decode cX8_goBack 87 = .ok (.iinc 3 1, 3) := by decide +kernel
theorem dX8_goBack_90 : decode cX8_goBack 90 = .ok (.goto (-57), 3) := by decide +kernel
theorem dX8_goBack_93 : decode cX8_goBack 93 = .ok (.aload_n 0, 1) := by decide +kernel
theorem dX8_goBack_94 : decode cX8_goBack 94 = .ok (.aload_n 0, 1) := by decide +kernel
theorem dX8_goBack_95 : decode cX8_goBack 95 = .ok (.getfield 110, 3) := by decide +kernel
theorem dX8_goBack_98 : decode cX8_goBack 98 = .ok (.iload_n 2, 1) := by decide +kernel
theorem dX8_goBack_99 : decode cX8_goBack 99 = .ok (.bipush 18, 2) := by decide +kernel
theorem dX8_goBack_101 : decode cX8_goBack 101 = .ok (.iadd, 1) := by decide +kernel
theorem dX8_goBack_102 : decode cX8_goBack 102 = .ok (.iaload, 1) := by decide +kernel
theorem dX8_goBack_103 : decode cX8_goBack 103 = .ok (.putfield 236, 3) := by decide +kernel
theorem dX8_goBack_106 : decode cX8_goBack 106 = .ok (.aload_n 0, 1) := by decide +kernel
theorem dX8_goBack_107 : decode cX8_goBack 107 = .ok (.aload_n 0, 1) := by decide +kernel
theorem dX8_goBack_108 : decode cX8_goBack 108 = .ok (.getfield 110, 3) := by decide +kernel
theorem dX8_goBack_111 : decode cX8_goBack 111 = .ok (.iload_n 2, 1) := by decide +kernel
theorem dX8_goBack_112 : decode cX8_goBack 112 = .ok (.bipush 19, 2) := by decide +kernel
theorem dX8_goBack_114 : decode cX8_goBack 114 = .ok (.iadd, 1) := by decide +kernel
theorem dX8_goBack_115 : decode cX8_goBack 115 = .ok (.iaload, 1) := by decide +kernel
theorem dX8_goBack_116 : decode cX8_goBack 116 = .ok (.putfield 239, 3) := by decide +kernel
theorem dX8_goBack_119 : decode cX8_goBack 119 = .ok (.aload_n 0, 1) := by decide +kernel
theorem dX8_goBack_120 : decode cX8_goBack 120 = .ok (.aload_n 0, 1) := by decide +kernel
theorem dX8_goBack_121 : decode cX8_goBack 121 = .ok (.getfield 110, 3) := by decide +kernel
theorem dX8_goBack_124 : decode cX8_goBack 124 = .ok (.iload_n 2, 1) := by decide +kernel
theorem dX8_goBack_125 : decode cX8_goBack 125 = .ok (.bipush 20, 2) := by decide +kernel
theorem dX8_goBack_127 : decode cX8_goBack 127 = .ok (.iadd, 1) := by decide +kernel
theorem dX8_goBack_128 : decode cX8_goBack 128 = .ok (.iaload, 1) := by decide +kernel
theorem dX8_goBack_129 : decode cX8_goBack 129 = .ok (.putfield 248, 3) := by decide +kernel
theorem dX8_goBack_132 : decode cX8_goBack 132 = .ok (.aload_n 0, 1) := by decide +kernel
theorem dX8_goBack_133 : decode cX8_goBack 133 = .ok (.aload_n 0, 1) := by decide +kernel
theorem dX8_goBack_134 : decode cX8_goBack 134 = .ok (.getfield 110, 3) := by decide +kernel
theorem dX8_goBack_137 : decode cX8_goBack 137 = .ok (.iload_n 2, 1) := by decide +kernel
theorem dX8_goBack_138 : decode cX8_goBack 138 = .ok (.bipush 21, 2) := by decide +kernel
theorem dX8_goBack_140 : decode cX8_goBack 140 = .ok (.iadd, 1) := by decide +kernel
theorem dX8_goBack_141 : decode cX8_goBack 141 = .ok (.iaload, 1) := by decide +kernel
theorem dX8_goBack_142 : decode cX8_goBack 142 = .ok (.putfield 312, 3) := by decide +kernel
theorem dX8_goBack_145 : decode cX8_goBack 145 = .ok (.iconst 1, 1) := by decide +kernel
theorem dX8_goBack_146 : decode cX8_goBack 146 = .ok (.ireturn, 1) := by decide +kernel
