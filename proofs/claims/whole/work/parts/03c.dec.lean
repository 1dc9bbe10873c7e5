theorem dX12_thrown_0 : decode cX12_thrown 0 = .ok (.aload_n 0, 1) := by decide +kernel
theorem dX12_thrown_1 : decode cX12_thrown 1 = .ok (.getfield 1, 3) := by decide +kernel
theorem dX12_thrown_4 : decode cX12_thrown 4 = .ok (.ireturn, 1) := by decide +kernel
theorem dX12_feed_0 : decode cX12_feed 0 = .ok (.aload_n 0, 1) := by decide +kernel
theorem dX12_feed_1 : decode cX12_feed 1 = .ok (.iconst 0, 1) := by decide +kernel
theorem dX12_feed_2 : decode cX12_feed 2 = .ok (.putfield 1, 3) := by decide +kernel
theorem dX12_feed_5 : decode cX12_feed 5 = .ok (.aload_n 0, 1) := by decide +kernel
theorem dX12_feed_6 : decode cX12_feed 6 = .ok (.lload_n 1, 1) := by decide +kernel
theorem dX12_feed_7 : decode cX12_feed 7 = .ok (.invokevirtual 7, 3) := by decide +kernel
theorem dX12_feed_10 : decode cX12_feed 10 = .ok (.aload_n 0, 1) := by decide +kernel
theorem dX12_feed_11 : decode cX12_feed 11 = .ok (.lload_n 3, 1) := by decide +kernel
theorem dX12_feed_12 : decode cX12_feed 12 = .ok (.invokevirtual 7, 3) := by decide +kernel
theorem dX12_feed_15 : decode cX12_feed 15 = .ok (.aload_n 0, 1) := by decide +kernel
theorem dX12_feed_16 : decode cX12_feed 16 = .ok (.lload 5, 2) := by decide +kernel
theorem dX12_feed_18 : decode cX12_feed 18 = .ok (.invokevirtual 7, 3) := by decide +kernel
theorem dX12_feed_21 : decode cX12_feed 21 = .ok (.aload_n 0, 1) := by decide +kernel
theorem dX12_feed_22 : decode cX12_feed 22 = .ok (.getfield 11, 3) := by decide +kernel
theorem dX12_feed_25 : decode cX12_feed 25 = .ok (.ireturn, 1) := by decide +kernel
theorem dX12_lay_0 : decode cX12_lay 0 = .ok (.bipush 56, 2) := by decide +kernel
theorem dX12_lay_2 : decode cX12_lay 2 = .ok (.istore_n 3, 1) := by decide +kernel
theorem dX12_lay_3 : decode cX12_lay 3 = .ok (.iload_n 3, 1) := by decide +kernel
theorem dX12_lay_4 : decode cX12_lay 4 = .ok (.ifCond .lt 71, 3) := by decide +kernel
theorem dX12_lay_7 : decode cX12_lay 7 = .ok (.lload_n 1, 1) := by decide +kernel
theorem dX12_lay_8 : decode cX12_lay 8 = .ok (.iload_n 3, 1) := by decide +kernel
theorem dX12_lay_9 : decode cX12_lay 9 = .ok (.lshr, 1) := by decide +kernel
theorem dX12_lay_10 : decode cX12_lay 10 = .ok (.l2i, 1) := by decide +kernel
theorem dX12_lay_11 : decode cX12_lay 11 = .ok (.sipush 255, 3) := by decide +kernel
theorem dX12_lay_14 : decode cX12_lay 14 = .ok (.iand, 1) := by decide +kernel
theorem dX12_lay_15 : decode cX12_lay 15 = .ok (.istore 4, 2) := by decide +kernel
theorem dX12_lay_17 : decode cX12_lay 17 = .ok (.iload 4, 2) := by decide +kernel
theorem dX12_lay_19 : decode cX12_lay 19 = .ok (.bipush 10, 2) := by decide +kernel
theorem dX12_lay_21 : decode cX12_lay 21 = .ok (.if_icmp .eq 17, 3) := by decide +kernel
theorem dX12_lay_24 : decode cX12_lay 24 = .ok (.iload 4, 2) := by decide +kernel
theorem dX12_lay_26 : decode cX12_lay 26 = .ok (.bipush 32, 2) := by decide +kernel
theorem dX12_lay_28 : decode cX12_lay 28 = .ok (.if_icmp .lt 41, 3) := by decide +kernel
theorem dX12_lay_31 : decode cX12_lay 31 = .ok (.iload 4, 2) := by decide +kernel
theorem dX12_lay_33 : decode cX12_lay 33 = .ok (.bipush 126, 2) := by decide +kernel
theorem dX12_lay_35 : decode cX12_lay 35 = .ok (.if_icmp .gt 34, 3) := by decide +kernel
theorem dX12_lay_38 : decode cX12_lay 38 = .ok (.aload_n 0, 1) := by decide +kernel
theorem dX12_lay_39 : decode cX12_lay 39 = .ok (.getfield 11, 3) := by decide +kernel
theorem dX12_lay_42 : decode cX12_lay 42 = .ok (.sipush 1000, 3) := by decide +kernel
theorem dX12_lay_45 : decode cX12_lay 45 = .ok (.if_icmp .ge 24, 3) := by decide +kernel
theorem dX12_lay_48 : decode cX12_lay 48 = .ok (.aload_n 0, 1) := by decide +kernel
theorem dX12_lay_49 : decode cX12_lay 49 = .ok (.getfield 14, 3) := by decide +kernel
theorem dX12_lay_52 : decode cX12_lay 52 = .ok (.aload_n 0, 1) := by decide +kernel
theorem dX12_lay_53 : decode cX12_lay 53 = .ok (.getfield 11, 3) := by decide +kernel
theorem dX12_lay_56 : decode cX12_lay 56 = .ok (.iload 4, 2) := by decide +kernel
theorem dX12_lay_58 : decode cX12_lay 58 = .ok (.iastore, 1) := by decide +kernel
theorem dX12_lay_59 : decode cX12_lay 59 = .ok (.aload_n 0, 1) := by decide +kernel
theorem dX12_lay_60 : decode cX12_lay 60 = .ok (.dup, 1) := by decide +kernel
theorem dX12_lay_61 : decode cX12_lay 61 = .ok (.getfield 11, 3) := by decide +kernel
theorem dX12_lay_64 : decode cX12_lay 64 = .ok (.iconst 1, 1) := by decide +kernel
theorem dX12_lay_65 : decode cX12_lay 65 = .ok (.iadd, 1) := by decide +kernel
theorem dX12_lay_66 : decode cX12_lay 66 = .ok (.putfield 11, 3) := by decide +kernel
theorem dX12_lay_69 : decode cX12_lay 69 = .ok (.iinc 3 (-8), 3) := by decide +kernel
theorem dX12_lay_72 : decode cX12_lay 72 = .ok (.goto (-69), 3) := by decide +kernel
theorem dX12_lay_75 : decode cX12_lay 75 = .ok (.return_, 1) := by decide +kernel
theorem dX12_init_0 : decode cX12_init 0 = .ok (.aload_n 0, 1) := by decide +kernel
theorem dX12_init_1 : decode cX12_init 1 = .ok (.invokespecial 18, 3) := by decide +kernel
theorem dX12_init_4 : decode cX12_init 4 = .ok (.aload_n 0, 1) := by decide +kernel
theorem dX12_init_5 : decode cX12_init 5 = .ok (.sipush 1000, 3) := by decide +kernel
theorem dX12_init_8 : decode cX12_init 8 = .ok (.newarray .int, 2) := by decide +kernel
theorem dX12_init_10 : decode cX12_init 10 = .ok (.putfield 14, 3) := by decide +kernel
theorem dX12_init_13 : decode cX12_init 13 = .ok (.aload_n 0, 1) := by decide +kernel
theorem dX12_init_14 : decode cX12_init 14 = .ok (.sipush 1002, 3) := by decide +kernel
theorem dX12_init_17 : decode cX12_init 17 = .ok (.newarray .int, 2) := by decide +kernel
theorem dX12_init_19 : decode cX12_init 19 = .ok (.putfield 24, 3) := by decide +kernel
theorem dX12_init_22 : decode cX12_init 22 = .ok (.aload_n 0, 1) := by decide +kernel
theorem dX12_init_23 : decode cX12_init 23 = .ok (.sipush 1002, 3) := by decide +kernel
theorem dX12_init_26 : decode cX12_init 26 = .ok (.newarray .int, 2) := by decide +kernel
theorem dX12_init_28 : decode cX12_init 28 = .ok (.putfield 27, 3) := by decide +kernel
theorem dX12_init_31 : decode cX12_init 31 = .ok (.aload_n 0, 1) := by decide +kernel
theorem dX12_init_32 : decode cX12_init 32 = .ok (.sipush 1002, 3) := by decide +kernel
theorem dX12_init_35 : decode cX12_init 35 = .ok (.newarray .long, 2) := by decide +kernel
theorem dX12_init_37 : decode cX12_init 37 = .ok (.putfield 30, 3) := by decide +kernel
theorem dX12_init_40 : decode cX12_init 40 = .ok (.aload_n 0, 1) := by decide +kernel
theorem dX12_init_41 : decode cX12_init 41 = .ok (.bipush 18, 2) := by decide +kernel
theorem dX12_init_43 : decode cX12_init 43 = .ok (.newarray .long, 2) := by decide +kernel
theorem dX12_init_45 : decode cX12_init 45 = .ok (.dup, 1) := by decide +kernel
theorem dX12_init_46 : decode cX12_init 46 = .ok (.iconst 0, 1) := by decide +kernel
theorem dX12_init_47 : decode cX12_init 47 = .ok (.ldc2_w 34, 3) := by decide +kernel
theorem dX12_init_50 : decode cX12_init 50 = .ok (.lastore, 1) := by decide +kernel
theorem dX12_init_51 : decode cX12_init 51 = .ok (.dup, 1) := by decide +kernel
theorem dX12_init_52 : decode cX12_init 52 = .ok (.iconst 1, 1) := by decide +kernel
theorem dX12_init_53 : decode cX12_init 53 = .ok (.ldc2_w 36, 3) := by decide +kernel
theorem dX12_init_56 : decode cX12_init 56 = .ok (.lastore, 1) := by decide +kernel
theorem dX12_init_57 : decode cX12_init 57 = .ok (.dup, 1) := by decide +kernel
theorem dX12_init_58 : decode cX12_init 58 = .ok (.iconst 2, 1) := by decide +kernel
theorem dX12_init_59 : decode cX12_init 59 = .ok (.ldc2_w 38, 3) := by decide +kernel
theorem dX12_init_62 : decode cX12_init 62 = .ok (.lastore, 1) := by decide +kernel
theorem dX12_init_63 : decode cX12_init 63 = .ok (.dup, 1) := by decide +kernel
theorem dX12_init_64 : decode cX12_init 64 = .ok (.iconst 3, 1) := by decide +kernel
theorem dX12_init_65 : decode cX12_init 65 = .ok (.ldc2_w 40, 3) := by decide +kernel
theorem dX12_init_68 : decode cX12_init 68 = .ok (.lastore, 1) := by decide +kernel
theorem dX12_init_69 : decode cX12_init 69 = .ok (.dup, 1) := by decide +kernel
theorem dX12_init_70 : decode cX12_init 70 = .ok (.iconst 4, 1) := by decide +kernel
theorem dX12_init_71 : decode cX12_init 71 = .ok (.ldc2_w 42, 3) := by decide +kernel
theorem dX12_init_74 : decode cX12_init 74 = .ok (.lastore, 1) := by decide +kernel
theorem dX12_init_75 : decode cX12_init 75 = .ok (.dup, 1) := by decide +kernel
theorem dX12_init_76 : decode cX12_init 76 = .ok (.iconst 5, 1) := by decide +kernel
theorem dX12_init_77 : decode cX12_init 77 = .ok (.ldc2_w 44, 3) := by decide +kernel
theorem dX12_init_80 : decode cX12_init 80 = .ok (.lastore, 1) := by decide +kernel
theorem dX12_init_81 : decode cX12_init 81 = .ok (.dup, 1) := by decide +kernel
theorem dX12_init_82 : decode cX12_init 82 = .ok (.bipush 6, 2) := by decide +kernel
theorem dX12_init_84 : decode cX12_init 84 = .ok (.ldc2_w 46, 3) := by decide +kernel
theorem dX12_init_87 : decode cX12_init 87 = .ok (.lastore, 1) := by decide +kernel
theorem dX12_init_88 : decode cX12_init 88 = .ok (.dup, 1) := by decide +kernel
theorem dX12_init_89 : decode cX12_init 89 = .ok (.bipush 7, 2) := by decide +kernel
theorem dX12_init_91 : decode cX12_init 91 = .ok (.ldc2_w 48, 3) := by decide +kernel
theorem dX12_init_94 : decode cX12_init 94 = .ok (.lastore, 1) := by decide +kernel
theorem dX12_init_95 : decode cX12_init 95 = .ok (.dup, 1) := by decide +kernel
theorem dX12_init_96 : decode cX12_init 96 = .ok (.bipush 8, 2) := by decide +kernel
theorem dX12_init_98 : decode cX12_init 98 = .ok (.ldc2_w 50, 3) := by decide +kernel
theorem dX12_init_101 : decode cX12_init 101 = .ok (.lastore, 1) := by decide +kernel
theorem dX12_init_102 : decode cX12_init 102 = .ok (.dup, 1) := by decide +kernel
theorem dX12_init_103 : decode cX12_init 103 = .ok (.bipush 9, 2) := by decide +kernel
theorem dX12_init_105 : decode cX12_init 105 = .ok (.ldc2_w 52, 3) := by decide +kernel
theorem dX12_init_108 : decode cX12_init 108 = .ok (.lastore, 1) := by decide +kernel
theorem dX12_init_109 : decode cX12_init 109 = .ok (.dup, 1) := by decide +kernel
theorem dX12_init_110 : decode cX12_init 110 = .ok (.bipush 10, 2) := by decide +kernel
theorem dX12_init_112 : decode cX12_init 112 = .ok (.ldc2_w 54, 3) := by decide +kernel
theorem dX12_init_115 : decode cX12_init 115 = .ok (.lastore, 1) := by decide +kernel
theorem dX12_init_116 : decode cX12_init 116 = .ok (.dup, 1) := by decide +kernel
theorem dX12_init_117 : decode cX12_init 117 = .ok (.bipush 11, 2) := by decide +kernel
theorem dX12_init_119 : decode cX12_init 119 = .ok (.ldc2_w 56, 3) := by decide +kernel
theorem dX12_init_122 : decode cX12_init 122 = .ok (.lastore, 1) := by decide +kernel
theorem dX12_init_123 : decode cX12_init 123 = .ok (.dup, 1) := by decide +kernel
theorem dX12_init_124 : decode cX12_init 124 = .ok (.bipush 12, 2) := by decide +kernel
theorem dX12_init_126 : decode cX12_init 126 = .ok (.ldc2_w 58, 3) := by decide +kernel
theorem dX12_init_129 : decode cX12_init 129 = .ok (.lastore, 1) := by decide +kernel
theorem dX12_init_130 : decode cX12_init 130 = .ok (.dup, 1) := by decide +kernel
theorem dX12_init_131 : decode cX12_init 131 = .ok (.bipush 13, 2) := by decide +kernel
theorem dX12_init_133 : decode cX12_init 133 = .ok (.ldc2_w 60, 3) := by decide +kernel
theorem dX12_init_136 : decode cX12_init 136 = .ok (.lastore, 1) := by decide +kernel
theorem dX12_init_137 : decode cX12_init 137 = .ok (.dup, 1) := by decide +kernel
theorem dX12_init_138 : decode cX12_init 138 = .ok (.bipush 14, 2) := by decide +kernel
theorem dX12_init_140 : decode cX12_init 140 = .ok (.ldc2_w 62, 3) := by decide +kernel
theorem dX12_init_143 : decode cX12_init 143 = .ok (.lastore, 1) := by decide +kernel
theorem dX12_init_144 : decode cX12_init 144 = .ok (.dup, 1) := by decide +kernel
theorem dX12_init_145 : decode cX12_init 145 = .ok (.bipush 15, 2) := by decide +kernel
theorem dX12_init_147 : decode cX12_init 147 = .ok (.ldc2_w 64, 3) := by decide +kernel
theorem dX12_init_150 : decode cX12_init 150 = .ok (.lastore, 1) := by decide +kernel
theorem dX12_init_151 : decode cX12_init 151 = .ok (.dup, 1) := by decide +kernel
theorem dX12_init_152 : decode cX12_init 152 = .ok (.bipush 16, 2) := by decide +kernel
theorem dX12_init_154 : decode cX12_init 154 = .ok (.ldc2_w 66, 3) := by decide +kernel
theorem dX12_init_157 : decode cX12_init 157 = .ok (.lastore, 1) := by decide +kernel
theorem dX12_init_158 : decode cX12_init 158 = .ok (.dup, 1) := by decide +kernel
theorem dX12_init_159 : decode cX12_init 159 = .ok (.bipush 17, 2) := by decide +kernel
theorem dX12_init_161 : decode cX12_init 161 = .ok (.ldc2_w 68, 3) := by decide +kernel
theorem dX12_init_164 : decode cX12_init 164 = .ok (.lastore, 1) := by decide +kernel
theorem dX12_init_165 : decode cX12_init 165 = .ok (.putfield 70, 3) := by decide +kernel
theorem dX12_init_168 : decode cX12_init 168 = .ok (.aload_n 0, 1) := by decide +kernel
theorem dX12_init_169 : decode cX12_init 169 = .ok (.bipush 40, 2) := by decide +kernel
theorem dX12_init_171 : decode cX12_init 171 = .ok (.newarray .int, 2) := by decide +kernel
theorem dX12_init_173 : decode cX12_init 173 = .ok (.putfield 73, 3) := by decide +kernel
theorem dX12_init_176 : decode cX12_init 176 = .ok (.aload_n 0, 1) := by decide +kernel
theorem dX12_init_177 : decode cX12_init 177 = .ok (.sipush 2200, 3) := by decide +kernel
theorem dX12_init_180 : decode cX12_init 180 = .ok (.newarray .int, 2) := by decide +kernel
theorem dX12_init_182 : decode cX12_init 182 = .ok (.putfield 76, 3) := by decide +kernel
theorem dX12_init_185 : decode cX12_init 185 = .ok (.aload_n 0, 1) := by decide +kernel
theorem dX12_init_186 : decode cX12_init 186 = .ok (.bipush 10, 2) := by decide +kernel
theorem dX12_init_188 : decode cX12_init 188 = .ok (.newarray .long, 2) := by decide +kernel
theorem dX12_init_190 : decode cX12_init 190 = .ok (.putfield 79, 3) := by decide +kernel
theorem dX12_init_193 : decode cX12_init 193 = .ok (.aload_n 0, 1) := by decide +kernel
theorem dX12_init_194 : decode cX12_init 194 = .ok (.bipush 82, 2) := by decide +kernel
theorem dX12_init_196 : decode cX12_init 196 = .ok (.newarray .int, 2) := by decide +kernel
theorem dX12_init_198 : decode cX12_init 198 = .ok (.putfield 82, 3) := by decide +kernel
theorem dX12_init_201 : decode cX12_init 201 = .ok (.aload_n 0, 1) := by decide +kernel
theorem dX12_init_202 : decode cX12_init 202 = .ok (.bipush 20, 2) := by decide +kernel
theorem dX12_init_204 : decode cX12_init 204 = .ok (.newarray .int, 2) := by decide +kernel
theorem dX12_init_206 : decode cX12_init 206 = .ok (.putfield 85, 3) := by decide +kernel
theorem dX12_init_209 : decode cX12_init 209 = .ok (.aload_n 0, 1) := by decide +kernel
theorem dX12_init_210 : decode cX12_init 210 = .ok (.iconst 4, 1) := by decide +kernel
theorem dX12_init_211 : decode cX12_init 211 = .ok (.newarray .int, 2) := by decide +kernel
theorem dX12_init_213 : decode cX12_init 213 = .ok (.putfield 88, 3) := by decide +kernel
theorem dX12_init_216 : decode cX12_init 216 = .ok (.aload_n 0, 1) := by decide +kernel
theorem dX12_init_217 : decode cX12_init 217 = .ok (.bipush 64, 2) := by decide +kernel
theorem dX12_init_219 : decode cX12_init 219 = .ok (.newarray .int, 2) := by decide +kernel
theorem dX12_init_221 : decode cX12_init 221 = .ok (.putfield 91, 3) := by decide +kernel
theorem dX12_init_224 : decode cX12_init 224 = .ok (.aload_n 0, 1) := by decide +kernel
theorem dX12_init_225 : decode cX12_init 225 = .ok (.sipush 588, 3) := by decide +kernel
theorem dX12_init_228 : decode cX12_init 228 = .ok (.newarray .int, 2) := by decide +kernel
theorem dX12_init_230 : decode cX12_init 230 = .ok (.putfield 94, 3) := by decide +kernel
theorem dX12_init_233 : decode cX12_init 233 = .ok (.aload_n 0, 1) := by decide +kernel
theorem dX12_init_234 : decode cX12_init 234 = .ok (.iconst 4, 1) := by decide +kernel
theorem dX12_init_235 : decode cX12_init 235 = .ok (.newarray .boolean, 2) := by decide +kernel
theorem dX12_init_237 : decode cX12_init 237 = .ok (.putfield 97, 3) := by decide +kernel
theorem dX12_init_240 : decode cX12_init 240 = .ok (.aload_n 0, 1) := by decide +kernel
theorem dX12_init_241 : decode cX12_init 241 = .ok (.iconst 5, 1) := by decide +kernel
theorem dX12_init_242 : decode cX12_init 242 = .ok (.newarray .int, 2) := by decide +kernel
theorem dX12_init_244 : decode cX12_init 244 = .ok (.putfield 101, 3) := by decide +kernel
theorem dX12_init_247 : decode cX12_init 247 = .ok (.aload_n 0, 1) := by decide +kernel
theorem dX12_init_248 : decode cX12_init 248 = .ok (.iconst 5, 1) := by decide +kernel
theorem dX12_init_249 : decode cX12_init 249 = .ok (.newarray .boolean, 2) := by decide +kernel
theorem dX12_init_251 : decode cX12_init 251 = .ok (.putfield 104, 3) := by decide +kernel
theorem dX12_init_254 : decode cX12_init 254 = .ok (.aload_n 0, 1) := by decide +kernel
theorem dX12_init_255 : decode cX12_init 255 = .ok (.sipush 3840, 3) := by decide +kernel
theorem dX12_init_258 : decode cX12_init 258 = .ok (.newarray .long, 2) := by decide +kernel
theorem dX12_init_260 : decode cX12_init 260 = .ok (.putfield 107, 3) := by decide +kernel
theorem dX12_init_263 : decode cX12_init 263 = .ok (.aload_n 0, 1) := by decide +kernel
theorem dX12_init_264 : decode cX12_init 264 = .ok (.bipush 6, 2) := by decide +kernel
theorem dX12_init_266 : decode cX12_init 266 = .ok (.newarray .int, 2) := by decide +kernel
theorem dX12_init_268 : decode cX12_init 268 = .ok (.putfield 110, 3) := by decide +kernel
theorem dX12_init_271 : decode cX12_init 271 = .ok (.aload_n 0, 1) := by decide +kernel
theorem dX12_init_272 : decode cX12_init 272 = .ok (.bipush 6, 2) := by decide +kernel
theorem dX12_init_274 : decode cX12_init 274 = .ok (.newarray .int, 2) := by decide +kernel
theorem dX12_init_276 : decode cX12_init 276 = .ok (.putfield 113, 3) := by decide +kernel
theorem dX12_init_279 : decode cX12_init 279 = .ok (.aload_n 0, 1) := by decide +kernel
theorem dX12_init_280 : decode cX12_init 280 = .ok (.bipush 50, 2) := by decide +kernel
theorem dX12_init_282 : decode cX12_init 282 = .ok (.newarray .int, 2) := by decide +kernel
theorem dX12_init_284 : decode cX12_init 284 = .ok (.putfield 116, 3) := by decide +kernel
theorem dX12_init_287 : decode cX12_init 287 = .ok (.aload_n 0, 1) := by decide +kernel
theorem dX12_init_288 : decode cX12_init 288 = .ok (.iconst 0, 1) := by decide +kernel
theorem dX12_init_289 : decode cX12_init 289 = .ok (.invokevirtual 119, 3) := by decide +kernel
theorem dX12_init_292 : decode cX12_init 292 = .ok (.aload_n 0, 1) := by decide +kernel
theorem dX12_init_293 : decode cX12_init 293 = .ok (.invokevirtual 123, 3) := by decide +kernel
theorem dX12_init_296 : decode cX12_init 296 = .ok (.return_, 1) := by decide +kernel
theorem dX12_isLetter_0 : decode cX12_isLetter 0 = .ok (.iload_n 0, 1) := by decide +kernel
theorem dX12_isLetter_1 : decode cX12_isLetter 1 = .ok (.bipush 97, 2) := by decide +kernel
theorem dX12_isLetter_3 : decode cX12_isLetter 3 = .ok (.if_icmp .lt 13, 3) := by decide +kernel
theorem dX12_isLetter_6 : decode cX12_isLetter 6 = .ok (.iload_n 0, 1) := by decide +kernel
theorem dX12_isLetter_7 : decode cX12_isLetter 7 = .ok (.bipush 122, 2) := by decide +kernel
theorem dX12_isLetter_9 : decode cX12_isLetter 9 = .ok (.if_icmp .gt 7, 3) := by decide +kernel
theorem dX12_isLetter_12 : decode cX12_isLetter 12 = .ok (.iconst 1, 1) := by decide +kernel
theorem dX12_isLetter_13 : decode cX12_isLetter 13 = .ok (.goto 4, 3) := by decide +kernel
theorem dX12_isLetter_16 : decode cX12_isLetter 16 = .ok (.iconst 0, 1) := by decide +kernel
theorem dX12_isLetter_17 : decode cX12_isLetter 17 = .ok (.ireturn, 1) := by decide +kernel
theorem dX12_isDigit_0 : decode cX12_isDigit 0 = .ok (.iload_n 0, 1) := by decide +kernel
theorem dX12_isDigit_1 : decode cX12_isDigit 1 = .ok (.bipush 48, 2) := by decide +kernel
theorem dX12_isDigit_3 : decode cX12_isDigit 3 = .ok (.if_icmp .lt 13, 3) := by decide +kernel
theorem dX12_isDigit_6 : decode cX12_isDigit 6 = .ok (.iload_n 0, 1) := by decide +kernel
theorem dX12_isDigit_7 : decode cX12_isDigit 7 = .ok (.bipush 57, 2) := by decide +kernel
theorem dX12_isDigit_9 : decode cX12_isDigit 9 = .ok (.if_icmp .gt 7, 3) := by decide +kernel
theorem dX12_isDigit_12 : decode cX12_isDigit 12 = .ok (.iconst 1, 1) := by decide +kernel
theorem dX12_isDigit_13 : decode cX12_isDigit 13 = .ok (.goto 4, 3) := by decide +kernel
theorem dX12_isDigit_16 : decode cX12_isDigit 16 = .ok (.iconst 0, 1) := by decide +kernel
theorem dX12_isDigit_17 : decode cX12_isDigit 17 = .ok (.ireturn, 1) := by decide +kernel
theorem dX12_rank_0 : decode cX12_rank 0 = .ok (.iload_n 0, 1) := by decide +kernel
theorem dX12_rank_1 : decode cX12_rank 1 = .ok (.invokestatic 126, 3) := by decide +kernel
theorem dX12_rank_4 : decode cX12_rank 4 = .ok (.ifCond .eq 10, 3) := by decide +kernel
theorem dX12_rank_7 : decode cX12_rank 7 = .ok (.iload_n 0, 1) := by decide +kernel
theorem dX12_rank_8 : decode cX12_rank 8 = .ok (.bipush 96, 2) := by decide +kernel
theorem dX12_rank_10 : decode cX12_rank 10 = .ok (.isub, 1) := by decide +kernel
theorem dX12_rank_11 : decode cX12_rank 11 = .ok (.goto 7, 3) := by decide +kernel
theorem dX12_rank_14 : decode cX12_rank 14 = .ok (.iload_n 0, 1) := by decide +kernel
theorem dX12_rank_15 : decode cX12_rank 15 = .ok (.bipush 21, 2) := by decide +kernel
theorem dX12_rank_17 : decode cX12_rank 17 = .ok (.isub, 1) := by decide +kernel
theorem dX12_rank_18 : decode cX12_rank 18 = .ok (.ireturn, 1) := by decide +kernel
theorem dX12_isSignOf_0 : decode cX12_isSignOf 0 = .ok (.iload_n 0, 1) := by decide +kernel
theorem dX12_isSignOf_1 : decode cX12_isSignOf 1 = .ok (.bipush 40, 2) := by decide +kernel
theorem dX12_isSignOf_3 : decode cX12_isSignOf 3 = .ok (.if_icmp .eq 45, 3) := by decide +kernel
theorem dX12_isSignOf_6 : decode cX12_isSignOf 6 = .ok (.iload_n 0, 1) := by decide +kernel
theorem dX12_isSignOf_7 : decode cX12_isSignOf 7 = .ok (.bipush 41, 2) := by decide +kernel
theorem dX12_isSignOf_9 : decode cX12_isSignOf 9 = .ok (.if_icmp .eq 39, 3) := by decide +kernel
theorem dX12_isSignOf_12 : decode cX12_isSignOf 12 = .ok (.iload_n 0, 1) := by decide +kernel
theorem dX12_isSignOf_13 : decode cX12_isSignOf 13 = .ok (.bipush 59, 2) := by decide +kernel
theorem dX12_isSignOf_15 : decode cX12_isSignOf 15 = .ok (.if_icmp .eq 33, 3) := by decide +kernel
theorem dX12_isSignOf_18 : decode cX12_isSignOf 18 = .ok (.iload_n 0, 1) := by decide +kernel
theorem dX12_isSignOf_19 : decode cX12_isSignOf 19 = .ok (.bipush 61, 2) := by decide +kernel
theorem dX12_isSignOf_21 : decode cX12_isSignOf 21 = .ok (.if_icmp .eq 27, 3) := by decide +kernel
theorem dX12_isSignOf_24 : decode cX12_isSignOf 24 = .ok (.iload_n 0, 1) := by decide +kernel
theorem dX12_isSignOf_25 : decode cX12_isSignOf 25 = .ok (.bipush 60, 2) := by decide +kernel
theorem dX12_isSignOf_27 : decode cX12_isSignOf 27 = .ok (.if_icmp .eq 21, 3) := by decide +kernel
theorem dX12_isSignOf_30 : decode cX12_isSignOf 30 = .ok (.iload_n 0, 1) := by decide +kernel
theorem dX12_isSignOf_31 : decode cX12_isSignOf 31 = .ok (.bipush 43, 2) := by decide +kernel
theorem dX12_isSignOf_33 : decode cX12_isSignOf 33 = .ok (.if_icmp .eq 15, 3) := by decide +kernel
theorem dX12_isSignOf_36 : decode cX12_isSignOf 36 = .ok (.iload_n 0, 1) := by decide +kernel
theorem dX12_isSignOf_37 : decode cX12_isSignOf 37 = .ok (.bipush 45, 2) := by decide +kernel
theorem dX12_isSignOf_39 : decode cX12_isSignOf 39 = .ok (.if_icmp .eq 9, 3) := by decide +kernel
theorem dX12_isSignOf_42 : decode cX12_isSignOf 42 = .ok (.iload_n 0, 1) := by decide +kernel
theorem dX12_isSignOf_43 : decode cX12_isSignOf 43 = .ok (.bipush 42, 2) := by decide +kernel
theorem dX12_isSignOf_45 : decode cX12_isSignOf 45 = .ok (.if_icmp .ne 7, 3) := by decide +kernel
theorem dX12_isSignOf_48 : decode cX12_isSignOf 48 = .ok (.iconst 1, 1) := by decide +kernel
theorem dX12_isSignOf_49 : decode cX12_isSignOf 49 = .ok (.goto 4, 3) := by decide +kernel
theorem dX12_isSignOf_52 : decode cX12_isSignOf 52 = .ok (.iconst 0, 1) := by decide +kernel
theorem dX12_isSignOf_53 : decode cX12_isSignOf 53 = .ok (.ireturn, 1) := by decide +kernel
theorem dX12_cutAll_0 : decode cX12_cutAll 0 = .ok (.aload_n 0, 1) := by decide +kernel
theorem dX12_cutAll_1 : decode cX12_cutAll 1 = .ok (.aload_n 0, 1) := by decide +kernel
theorem dX12_cutAll_2 : decode cX12_cutAll 2 = .ok (.getfield 11, 3) := by decide +kernel
theorem dX12_cutAll_5 : decode cX12_cutAll 5 = .ok (.putfield 130, 3) := by decide +kernel
theorem dX12_cutAll_8 : decode cX12_cutAll 8 = .ok (.aload_n 0, 1) := by decide +kernel
theorem dX12_cutAll_9 : decode cX12_cutAll 9 = .ok (.iconst 0, 1) := by decide +kernel
theorem dX12_cutAll_10 : decode cX12_cutAll 10 = .ok (.putfield 11, 3) := by decide +kernel
theorem dX12_cutAll_13 : decode cX12_cutAll 13 = .ok (.iconst 0, 1) := by decide +kernel
theorem dX12_cutAll_14 : decode cX12_cutAll 14 = .ok (.istore_n 1, 1) := by decide +kernel
theorem dX12_cutAll_15 : decode cX12_cutAll 15 = .ok (.iconst 0, 1) := by decide +kernel
theorem dX12_cutAll_16 : decode cX12_cutAll 16 = .ok (.istore_n 2, 1) := by decide +kernel
theorem dX12_cutAll_17 : decode cX12_cutAll 17 = .ok (.iload_n 2, 1) := by decide +kernel
theorem dX12_cutAll_18 : decode cX12_cutAll 18 = .ok (.aload_n 0, 1) := by decide +kernel
theorem dX12_cutAll_19 : decode cX12_cutAll 19 = .ok (.getfield 130, 3) := by decide +kernel
theorem dX12_cutAll_22 : decode cX12_cutAll 22 = .ok (.if_icmp .ge 257, 3) := by decide +kernel
theorem dX12_cutAll_25 : decode cX12_cutAll 25 = .ok (.aload_n 0, 1) := by decide +kernel
theorem dX12_cutAll_26 : decode cX12_cutAll 26 = .ok (.getfield 14, 3) := by decide +kernel
theorem dX12_cutAll_29 : decode cX12_cutAll 29 = .ok (.iload_n 2, 1) := by decide +kernel
theorem dX12_cutAll_30 : decode cX12_cutAll 30 = .ok (.iaload, 1) := by decide +kernel
theorem dX12_cutAll_31 : decode cX12_cutAll 31 = .ok (.istore_n 3, 1) := by decide +kernel
theorem dX12_cutAll_32 : decode cX12_cutAll 32 = .ok (.iload_n 3, 1) := by decide +kernel
theorem dX12_cutAll_33 : decode cX12_cutAll 33 = .ok (.bipush 10, 2) := by decide +kernel
theorem dX12_cutAll_35 : decode cX12_cutAll 35 = .ok (.if_icmp .eq 9, 3) := by decide +kernel
theorem dX12_cutAll_38 : decode cX12_cutAll 38 = .ok (.iload_n 3, 1) := by decide +kernel
theorem dX12_cutAll_39 : decode cX12_cutAll 39 = .ok (.bipush 32, 2) := by decide +kernel
theorem dX12_cutAll_41 : decode cX12_cutAll 41 = .ok (.if_icmp .ne 9, 3) := by decide +kernel
theorem dX12_cutAll_44 : decode cX12_cutAll 44 = .ok (.iinc 2 1, 3) := by decide +kernel
theorem dX12_cutAll_47 : decode cX12_cutAll 47 = .ok (.goto (-30), 3) := by decide +kernel
theorem dX12_cutAll_50 : decode cX12_cutAll 50 = .ok (.iload_n 2, 1) := by decide +kernel
theorem dX12_cutAll_51 : decode cX12_cutAll 51 = .ok (.istore 4, 2) := by decide +kernel
theorem dX12_cutAll_53 : decode cX12_cutAll 53 = .ok (.lconst 0, 1) := by decide +kernel
theorem dX12_cutAll_54 : decode cX12_cutAll 54 = .ok (.lstore 5, 2) := by decide +kernel
theorem dX12_cutAll_56 : decode cX12_cutAll 56 = .ok (.aload_n 0, 1) := by decide +kernel
theorem dX12_cutAll_57 : decode cX12_cutAll 57 = .ok (.getfield 27, 3) := by decide +kernel
theorem dX12_cutAll_60 : decode cX12_cutAll 60 = .ok (.iload_n 1, 1) := by decide +kernel
theorem dX12_cutAll_61 : decode cX12_cutAll 61 = .ok (.iload_n 2, 1) := by decide +kernel
theorem dX12_cutAll_62 : decode cX12_cutAll 62 = .ok (.iastore, 1) := by decide +kernel
theorem dX12_cutAll_63 : decode cX12_cutAll 63 = .ok (.iload_n 3, 1) := by decide +kernel
theorem dX12_cutAll_64 : decode cX12_cutAll 64 = .ok (.invokestatic 126, 3) := by decide +kernel
theorem dX12_cutAll_67 : decode cX12_cutAll 67 = .ok (.ifCond .eq 85, 3) := by decide +kernel
theorem dX12_cutAll_70 : decode cX12_cutAll 70 = .ok (.iload_n 2, 1) := by decide +kernel
theorem dX12_cutAll_71 : decode cX12_cutAll 71 = .ok (.aload_n 0, 1) := by decide +kernel
theorem dX12_cutAll_72 : decode cX12_cutAll 72 = .ok (.getfield 130, 3) := by decide +kernel
theorem dX12_cutAll_75 : decode cX12_cutAll 75 = .ok (.if_icmp .ge 54, 3) := by decide +kernel
theorem dX12_cutAll_78 : decode cX12_cutAll 78 = .ok (.aload_n 0, 1) := by decide +kernel
theorem dX12_cutAll_79 : decode cX12_cutAll 79 = .ok (.getfield 14, 3) := by decide +kernel
theorem dX12_cutAll_82 : decode cX12_cutAll 82 = .ok (.iload_n 2, 1) := by decide +kernel
theorem dX12_cutAll_83 : decode cX12_cutAll 83 = .ok (.iaload, 1) := by decide +kernel
theorem dX12_cutAll_84 : decode cX12_cutAll 84 = .ok (.invokestatic 126, 3) := by decide +kernel
theorem dX12_cutAll_87 : decode cX12_cutAll 87 = .ok (.ifCond .eq 42, 3) := by decide +kernel
theorem dX12_cutAll_90 : decode cX12_cutAll 90 = .ok (.iload_n 2, 1) := by decide +kernel
theorem dX12_cutAll_91 : decode cX12_cutAll 91 = .ok (.iload 4, 2) := by decide +kernel
theorem dX12_cutAll_93 : decode cX12_cutAll 93 = .ok (.isub, 1) := by decide +kernel
theorem dX12_cutAll_94 : decode cX12_cutAll 94 = .ok (.bipush 8, 2) := by decide +kernel
theorem dX12_cutAll_96 : decode cX12_cutAll 96 = .ok (.if_icmp .ge 23, 3) := by decide +kernel
theorem dX12_cutAll_99 : decode cX12_cutAll 99 = .ok (.ldc2_w 133, 3) := by decide +kernel
theorem dX12_cutAll_102 : decode cX12_cutAll 102 = .ok (.lload 5, 2) := by decide +kernel
theorem dX12_cutAll_104 : decode cX12_cutAll 104 = .ok (.lmul, 1) := by decide +kernel
theorem dX12_cutAll_105 : decode cX12_cutAll 105 = .ok (.aload_n 0, 1) := by decide +kernel
theorem dX12_cutAll_106 : decode cX12_cutAll 106 = .ok (.getfield 14, 3) := by decide +kernel
theorem dX12_cutAll_109 : decode cX12_cutAll 109 = .ok (.iload_n 2, 1) := by decide +kernel
theorem dX12_cutAll_110 : decode cX12_cutAll 110 = .ok (.iaload, 1) := by decide +kernel
theorem dX12_cutAll_111 : decode cX12_cutAll 111 = .ok (.invokestatic 135, 3) := by decide +kernel
theorem dX12_cutAll_114 : decode cX12_cutAll 114 = .ok (.i2l, 1) := by decide +kernel
theorem dX12_cutAll_115 : decode cX12_cutAll 115 = .ok (.ladd, 1) := by decide +kernel
theorem dX12_cutAll_116 : decode cX12_cutAll 116 = .ok (.goto 5, 3) := by decide +kernel
theorem dX12_cutAll_119 : decode cX12_cutAll 119 = .ok (.lload 5, 2) := by decide +kernel
theorem dX12_cutAll_121 : decode cX12_cutAll 121 = .ok (.lstore 5, 2) := by decide +kernel
theorem dX12_cutAll_123 : decode cX12_cutAll 123 = .ok (.iinc 2 1, 3) := by decide +kernel
theorem dX12_cutAll_126 : decode cX12_cutAll 126 = .ok (.goto (-56), 3) := by decide +kernel
theorem dX12_cutAll_129 : decode cX12_cutAll 129 = .ok (.aload_n 0, 1) := by decide +kernel
theorem dX12_cutAll_130 : decode cX12_cutAll 130 = .ok (.getfield 24, 3) := by decide +kernel
theorem dX12_cutAll_133 : decode cX12_cutAll 133 = .ok (.iload_n 1, 1) := by decide +kernel
theorem dX12_cutAll_134 : decode cX12_cutAll 134 = .ok (.iload_n 2, 1) := by decide +kernel
theorem dX12_cutAll_135 : decode cX12_cutAll 135 = .ok (.iload 4, 2) := by decide +kernel
theorem dX12_cutAll_137 : decode cX12_cutAll 137 = .ok (.isub, 1) := by decide +kernel
theorem dX12_cutAll_138 : decode cX12_cutAll 138 = .ok (.bipush 8, 2) := by decide +kernel
theorem dX12_cutAll_140 : decode cX12_cutAll 140 = .ok (.if_icmp .le 7, 3) := by decide +kernel
theorem dX12_cutAll_143 : decode cX12_cutAll 143 = .ok (.iconst 4, 1) := by decide +kernel
theorem dX12_cutAll_144 : decode cX12_cutAll 144 = .ok (.goto 4, 3) := by decide +kernel
theorem dX12_cutAll_147 : decode cX12_cutAll 147 = .ok (.iconst 1, 1) := by decide +kernel
theorem dX12_cutAll_148 : decode cX12_cutAll 148 = .ok (.iastore, 1) := by decide +kernel
theorem dX12_cutAll_149 : decode cX12_cutAll 149 = .ok (.goto 116, 3) := by decide +kernel
theorem dX12_cutAll_152 : decode cX12_cutAll 152 = .ok (.iload_n 3, 1) := by decide +kernel
theorem dX12_cutAll_153 : decode cX12_cutAll 153 = .ok (.invokestatic 139, 3) := by decide +kernel
theorem dX12_cutAll_156 : decode cX12_cutAll 156 = .ok (.ifCond .eq 84, 3) := by decide +kernel
theorem dX12_cutAll_159 : decode cX12_cutAll 159 = .ok (.iload_n 2, 1) := by decide +kernel
theorem dX12_cutAll_160 : decode cX12_cutAll 160 = .ok (.aload_n 0, 1) := by decide +kernel
theorem dX12_cutAll_161 : decode cX12_cutAll 161 = .ok (.getfield 130, 3) := by decide +kernel
theorem dX12_cutAll_164 : decode cX12_cutAll 164 = .ok (.if_icmp .ge 54, 3) := by decide +kernel
theorem dX12_cutAll_167 : decode cX12_cutAll 167 = .ok (.aload_n 0, 1) := by decide +kernel
theorem dX12_cutAll_168 : decode cX12_cutAll 168 = .ok (.getfield 14, 3) := by decide +kernel
theorem dX12_cutAll_171 : decode cX12_cutAll 171 = .ok (.iload_n 2, 1) := by decide +kernel
theorem dX12_cutAll_172 : decode cX12_cutAll 172 = .ok (.iaload, 1) := by decide +kernel
theorem dX12_cutAll_173 : decode cX12_cutAll 173 = .ok (.invokestatic 139, 3) := by decide +kernel
theorem dX12_cutAll_176 : decode cX12_cutAll 176 = .ok (.ifCond .eq 42, 3) := by decide +kernel
theorem dX12_cutAll_179 : decode cX12_cutAll 179 = .ok (.iload_n 2, 1) := by decide +kernel
theorem dX12_cutAll_180 : decode cX12_cutAll 180 = .ok (.iload 4, 2) := by decide +kernel
theorem dX12_cutAll_182 : decode cX12_cutAll 182 = .ok (.isub, 1) := by decide +kernel
theorem dX12_cutAll_183 : decode cX12_cutAll 183 = .ok (.iconst 4, 1) := by decide +kernel
theorem dX12_cutAll_184 : decode cX12_cutAll 184 = .ok (.if_icmp .ge 24, 3) := by decide +kernel
theorem dX12_cutAll_187 : decode cX12_cutAll 187 = .ok (.ldc2_w 142, 3) := by decide +kernel
theorem dX12_cutAll_190 : decode cX12_cutAll 190 = .ok (.lload 5, 2) := by decide +kernel
theorem dX12_cutAll_192 : decode cX12_cutAll 192 = .ok (.lmul, 1) := by decide +kernel
theorem dX12_cutAll_193 : decode cX12_cutAll 193 = .ok (.aload_n 0, 1) := by decide +kernel
theorem dX12_cutAll_194 : decode cX12_cutAll 194 = .ok (.getfield 14, 3) := by decide +kernel
theorem dX12_cutAll_197 : decode cX12_cutAll 197 = .ok (.iload_n 2, 1) := by decide +kernel
theorem dX12_cutAll_198 : decode cX12_cutAll 198 = .ok (.iaload, 1) := by decide +kernel
theorem dX12_cutAll_199 : decode cX12_cutAll 199 = .ok (.i2l, 1) := by decide +kernel
theorem dX12_cutAll_200 : decode cX12_cutAll 200 = .ok (.ladd, 1) := by decide +kernel
theorem dX12_cutAll_201 : decode cX12_cutAll 201 = .ok (.ldc2_w 144, 3) := by decide +kernel
theorem dX12_cutAll_204 : decode cX12_cutAll 204 = .ok (.lsub, 1) := by decide +kernel
theorem dX12_cutAll_205 : decode cX12_cutAll 205 = .ok (.goto 5, 3) := by decide +kernel
theorem dX12_cutAll_208 : decode cX12_cutAll 208 = .ok (.lload 5, 2) := by decide +kernel
theorem dX12_cutAll_210 : decode cX12_cutAll 210 = .ok (.lstore 5, 2) := by decide +kernel
theorem dX12_cutAll_212 : decode cX12_cutAll 212 = .ok (.iinc 2 1, 3) := by decide +kernel
theorem dX12_cutAll_215 : decode cX12_cutAll 215 = .ok (.goto (-56), 3) := by decide +kernel
theorem dX12_cutAll_218 : decode cX12_cutAll 218 = .ok (.aload_n 0, 1) := by decide +kernel
theorem dX12_cutAll_219 : decode cX12_cutAll 219 = .ok (.getfield 24, 3) := by decide +kernel
theorem dX12_cutAll_222 : decode cX12_cutAll 222 = .ok (.iload_n 1, 1) := by decide +kernel
theorem dX12_cutAll_223 : decode cX12_cutAll 223 = .ok (.iload_n 2, 1) := by decide +kernel
theorem dX12_cutAll_224 : decode cX12_cutAll 224 = .ok (.iload 4, 2) := by decide +kernel
theorem dX12_cutAll_226 : decode cX12_cutAll 226 = .ok (.isub, 1) := by decide +kernel
theorem dX12_cutAll_227 : decode cX12_cutAll 227 = .ok (.iconst 4, 1) := by decide +kernel
theorem dX12_cutAll_228 : decode cX12_cutAll 228 = .ok (.if_icmp .le 7, 3) := by decide +kernel
theorem dX12_cutAll_231 : decode cX12_cutAll 231 = .ok (.iconst 4, 1) := by decide +kernel
theorem dX12_cutAll_232 : decode cX12_cutAll 232 = .ok (.goto 4, 3) := by decide +kernel
theorem dX12_cutAll_235 : decode cX12_cutAll 235 = .ok (.iconst 2, 1) := by decide +kernel
theorem dX12_cutAll_236 : decode cX12_cutAll 236 = .ok (.iastore, 1) := by decide +kernel
theorem dX12_cutAll_237 : decode cX12_cutAll 237 = .ok (.goto 28, 3) := by decide +kernel
theorem dX12_cutAll_240 : decode cX12_cutAll 240 = .ok (.iload_n 3, 1) := by decide +kernel
theorem dX12_cutAll_241 : decode cX12_cutAll 241 = .ok (.i2l, 1) := by decide +kernel
theorem dX12_cutAll_242 : decode cX12_cutAll 242 = .ok (.lstore 5, 2) := by decide +kernel
theorem dX12_cutAll_244 : decode cX12_cutAll 244 = .ok (.aload_n 0, 1) := by decide +kernel
theorem dX12_cutAll_245 : decode cX12_cutAll 245 = .ok (.getfield 24, 3) := by decide +kernel
theorem dX12_cutAll_248 : decode cX12_cutAll 248 = .ok (.iload_n 1, 1) := by decide +kernel
theorem dX12_cutAll_249 : decode cX12_cutAll 249 = .ok (.iload_n 3, 1) := by decide +kernel
theorem dX12_cutAll_250 : decode cX12_cutAll 250 = .ok (.invokestatic 146, 3) := by decide +kernel
theorem dX12_cutAll_253 : decode cX12_cutAll 253 = .ok (.ifCond .eq 7, 3) := by decide +kernel
theorem dX12_cutAll_256 : decode cX12_cutAll 256 = .ok (.iconst 3, 1) := by decide +kernel
theorem dX12_cutAll_257 : decode cX12_cutAll 257 = .ok (.goto 4, 3) := by decide +kernel
theorem dX12_cutAll_260 : decode cX12_cutAll 260 = .ok (.iconst 4, 1) := by decide +kernel
theorem dX12_cutAll_261 : decode cX12_cutAll 261 = .ok (.iastore, 1) := by decide +kernel
theorem dX12_cutAll_262 : decode cX12_cutAll 262 = .ok (.iinc 2 1, 3) := by decide +kernel
theorem dX12_cutAll_265 : decode cX12_cutAll 265 = .ok (.aload_n 0, 1) := by decide +kernel
theorem dX12_cutAll_266 : decode cX12_cutAll 266 = .ok (.getfield 30, 3) := by decide +kernel
theorem dX12_cutAll_269 : decode cX12_cutAll 269 = .ok (.iload_n 1, 1) := by decide +kernel
theorem dX12_cutAll_270 : decode cX12_cutAll 270 = .ok (.lload 5, 2) := by decide +kernel
theorem dX12_cutAll_272 : decode cX12_cutAll 272 = .ok (.lastore, 1) := by decide +kernel
theorem dX12_cutAll_273 : decode cX12_cutAll 273 = .ok (.iinc 1 1, 3) := by decide +kernel
theorem dX12_cutAll_276 : decode cX12_cutAll 276 = .ok (.goto (-259), 3) := by decide +kernel
theorem dX12_cutAll_279 : decode cX12_cutAll 279 = .ok (.aload_n 0, 1) := by decide +kernel
theorem dX12_cutAll_280 : decode cX12_cutAll 280 = .ok (.getfield 24, 3) := by decide +kernel
theorem dX12_cutAll_283 : decode cX12_cutAll 283 = .ok (.iload_n 1, 1) := by decide +kernel
theorem dX12_cutAll_284 : decode cX12_cutAll 284 = .ok (.iconst 0, 1) := by decide +kernel
theorem dX12_cutAll_285 : decode cX12_cutAll 285 = .ok (.iastore, 1) := by decide +kernel
theorem dX12_cutAll_286 : decode cX12_cutAll 286 = .ok (.aload_n 0, 1) := by decide +kernel
theorem dX12_cutAll_287 : decode cX12_cutAll 287 = .ok (.getfield 27, 3) := by decide +kernel
theorem dX12_cutAll_290 : decode cX12_cutAll 290 = .ok (.iload_n 1, 1) := by decide +kernel
theorem dX12_cutAll_291 : decode cX12_cutAll 291 = .ok (.aload_n 0, 1) := by decide +kernel
theorem dX12_cutAll_292 : decode cX12_cutAll 292 = .ok (.getfield 130, 3) := by decide +kernel
theorem dX12_cutAll_295 : decode cX12_cutAll 295 = .ok (.iastore, 1) := by decide +kernel
theorem dX12_cutAll_296 : decode cX12_cutAll 296 = .ok (.aload_n 0, 1) := by decide +kernel
theorem dX12_cutAll_297 : decode cX12_cutAll 297 = .ok (.iconst 0, 1) := by decide +kernel
theorem dX12_cutAll_298 : decode cX12_cutAll 298 = .ok (.putfield 149, 3) := by decide +kernel
theorem dX12_cutAll_301 : decode cX12_cutAll 301 = .ok (.aload_n 0, 1) := by decide +kernel
theorem dX12_cutAll_302 : decode cX12_cutAll 302 = .ok (.iconst 0, 1) := by decide +kernel
theorem dX12_cutAll_303 : decode cX12_cutAll 303 = .ok (.putfield 152, 3) := by decide +kernel
theorem dX12_cutAll_306 : decode cX12_cutAll 306 = .ok (.return_, 1) := by decide +kernel
theorem dX12_wrong_0 : decode cX12_wrong 0 = .ok (.aload_n 0, 1) := by decide +kernel
theorem dX12_wrong_1 : decode cX12_wrong 1 = .ok (.getfield 152, 3) := by decide +kernel
theorem dX12_wrong_4 : decode cX12_wrong 4 = .ok (.ifCond .ne 21, 3) := by decide +kernel
theorem dX12_wrong_7 : decode cX12_wrong 7 = .ok (.aload_n 0, 1) := by decide +kernel
theorem dX12_wrong_8 : decode cX12_wrong 8 = .ok (.iload_n 1, 1) := by decide +kernel
theorem dX12_wrong_9 : decode cX12_wrong 9 = .ok (.bipush 16, 2) := by decide +kernel
theorem dX12_wrong_11 : decode cX12_wrong 11 = .ok (.aload_n 0, 1) := by decide +kernel
theorem dX12_wrong_12 : decode cX12_wrong 12 = .ok (.getfield 27, 3) := by decide +kernel
theorem dX12_wrong_15 : decode cX12_wrong 15 = .ok (.aload_n 0, 1) := by decide +kernel
theorem dX12_wrong_16 : decode cX12_wrong 16 = .ok (.getfield 149, 3) := by decide +kernel
theorem dX12_wrong_19 : decode cX12_wrong 19 = .ok (.iaload, 1) := by decide +kernel
theorem dX12_wrong_20 : decode cX12_wrong 20 = .ok (.imul, 1) := by decide +kernel
theorem dX12_wrong_21 : decode cX12_wrong 21 = .ok (.iadd, 1) := by decide +kernel
theorem dX12_wrong_22 : decode cX12_wrong 22 = .ok (.putfield 152, 3) := by decide +kernel
theorem dX12_wrong_25 : decode cX12_wrong 25 = .ok (.return_, 1) := by decide +kernel
theorem dX12_isSign_0 : decode cX12_isSign 0 = .ok (.aload_n 0, 1) := by decide +kernel
theorem dX12_isSign_1 : decode cX12_isSign 1 = .ok (.getfield 152, 3) := by decide +kernel
theorem dX12_isSign_4 : decode cX12_isSign 4 = .ok (.ifCond .ne 35, 3) := by decide +kernel
theorem dX12_isSign_7 : decode cX12_isSign 7 = .ok (.aload_n 0, 1) := by decide +kernel
theorem dX12_isSign_8 : decode cX12_isSign 8 = .ok (.getfield 24, 3) := by decide +kernel
theorem dX12_isSign_11 : decode cX12_isSign 11 = .ok (.aload_n 0, 1) := by decide +kernel
theorem dX12_isSign_12 : decode cX12_isSign 12 = .ok (.getfield 149, 3) := by decide +kernel
theorem dX12_isSign_15 : decode cX12_isSign 15 = .ok (.iaload, 1) := by decide +kernel
theorem dX12_isSign_16 : decode cX12_isSign 16 = .ok (.iconst 3, 1) := by decide +kernel
theorem dX12_isSign_17 : decode cX12_isSign 17 = .ok (.if_icmp .ne 22, 3) := by decide +kernel
theorem dX12_isSign_20 : decode cX12_isSign 20 = .ok (.aload_n 0, 1) := by decide +kernel
theorem dX12_isSign_21 : decode cX12_isSign 21 = .ok (.getfield 30, 3) := by decide +kernel
theorem dX12_isSign_24 : decode cX12_isSign 24 = .ok (.aload_n 0, 1) := by decide +kernel
theorem dX12_isSign_25 : decode cX12_isSign 25 = .ok (.getfield 149, 3) := by decide +kernel
theorem dX12_isSign_28 : decode cX12_isSign 28 = .ok (.laload, 1) := by decide +kernel
theorem dX12_isSign_29 : decode cX12_isSign 29 = .ok (.iload_n 1, 1) := by decide +kernel
theorem dX12_isSign_30 : decode cX12_isSign 30 = .ok (.i2l, 1) := by decide +kernel
theorem dX12_isSign_31 : decode cX12_isSign 31 = .ok (.lcmp, 1) := by decide +kernel
theorem dX12_isSign_32 : decode cX12_isSign 32 = .ok (.ifCond .ne 7, 3) := by decide +kernel
theorem dX12_isSign_35 : decode cX12_isSign 35 = .ok (.iconst 1, 1) := by decide +kernel
theorem dX12_isSign_36 : decode cX12_isSign 36 = .ok (.goto 4, 3) := by decide +kernel
theorem dX12_isSign_39 : decode cX12_isSign 39 = .ok (.iconst 0, 1) := by decide +kernel
theorem dX12_isSign_40 : decode cX12_isSign 40 = .ok (.ireturn, 1) := by decide +kernel
theorem dX12_isWord_0 : decode cX12_isWord 0 = .ok (.aload_n 0, 1) := by decide +kernel
theorem dX12_isWord_1 : decode cX12_isWord 1 = .ok (.getfield 152, 3) := by decide +kernel
theorem dX12_isWord_4 : decode cX12_isWord 4 = .ok (.ifCond .ne 39, 3) := by decide +kernel
theorem dX12_isWord_7 : decode cX12_isWord 7 = .ok (.aload_n 0, 1) := by decide +kernel
theorem dX12_isWord_8 : decode cX12_isWord 8 = .ok (.getfield 24, 3) := by decide +kernel
theorem dX12_isWord_11 : decode cX12_isWord 11 = .ok (.aload_n 0, 1) := by decide +kernel
theorem dX12_isWord_12 : decode cX12_isWord 12 = .ok (.getfield 149, 3) := by decide +kernel
theorem dX12_isWord_15 : decode cX12_isWord 15 = .ok (.iaload, 1) := by decide +kernel
theorem dX12_isWord_16 : decode cX12_isWord 16 = .ok (.iconst 1, 1) := by decide +kernel
theorem dX12_isWord_17 : decode cX12_isWord 17 = .ok (.if_icmp .ne 26, 3) := by decide +kernel
theorem dX12_isWord_20 : decode cX12_isWord 20 = .ok (.aload_n 0, 1) := by decide +kernel
theorem dX12_isWord_21 : decode cX12_isWord 21 = .ok (.getfield 30, 3) := by decide +kernel
theorem dX12_isWord_24 : decode cX12_isWord 24 = .ok (.aload_n 0, 1) := by decide +kernel
theorem dX12_isWord_25 : decode cX12_isWord 25 = .ok (.getfield 149, 3) := by decide +kernel
theorem dX12_isWord_28 : decode cX12_isWord 28 = .ok (.laload, 1) := by decide +kernel
theorem dX12_isWord_29 : decode cX12_isWord 29 = .ok (.aload_n 0, 1) := by decide +kernel
theorem dX12_isWord_30 : decode cX12_isWord 30 = .ok (.getfield 70, 3) := by decide +kernel
theorem dX12_isWord_33 : decode cX12_isWord 33 = .ok (.iload_n 1, 1) := by decide +kernel
theorem dX12_isWord_34 : decode cX12_isWord 34 = .ok (.laload, 1) := by decide +kernel
theorem dX12_isWord_35 : decode cX12_isWord 35 = .ok (.lcmp, 1) := by decide +kernel
theorem dX12_isWord_36 : decode cX12_isWord 36 = .ok (.ifCond .ne 7, 3) := by decide +kernel
theorem dX12_isWord_39 : decode cX12_isWord 39 = .ok (.iconst 1, 1) := by decide +kernel
theorem dX12_isWord_40 : decode cX12_isWord 40 = .ok (.goto 4, 3) := by decide +kernel
theorem dX12_isWord_43 : decode cX12_isWord 43 = .ok (.iconst 0, 1) := by decide +kernel
theorem dX12_isWord_44 : decode cX12_isWord 44 = .ok (.ireturn, 1) := by decide +kernel
theorem dX12_takeSign_0 : decode cX12_takeSign 0 = .ok (.aload_n 0, 1) := by decide +kernel
theorem dX12_takeSign_1 : decode cX12_takeSign 1 = .ok (.iload_n 1, 1) := by decide +kernel
theorem dX12_takeSign_2 : decode cX12_takeSign 2 = .ok (.invokevirtual 155, 3) := by decide +kernel
theorem dX12_takeSign_5 : decode cX12_takeSign 5 = .ok (.ifCond .eq 16, 3) := by decide +kernel
theorem dX12_takeSign_8 : decode cX12_takeSign 8 = .ok (.aload_n 0, 1) := by decide +kernel
theorem dX12_takeSign_9 : decode cX12_takeSign 9 = .ok (.dup, 1) := by decide +kernel
theorem dX12_takeSign_10 : decode cX12_takeSign 10 = .ok (.getfield 149, 3) := by decide +kernel
theorem dX12_takeSign_13 : decode cX12_takeSign 13 = .ok (.iconst 1, 1) := by decide +kernel
theorem dX12_takeSign_14 : decode cX12_takeSign 14 = .ok (.iadd, 1) := by decide +kernel
theorem dX12_takeSign_15 : decode cX12_takeSign 15 = .ok (.putfield 149, 3) := by decide +kernel
theorem dX12_takeSign_18 : decode cX12_takeSign 18 = .ok (.goto 8, 3) := by decide +kernel
theorem dX12_takeSign_21 : decode cX12_takeSign 21 = .ok (.aload_n 0, 1) := by decide +kernel
theorem dX12_takeSign_22 : decode cX12_takeSign 22 = .ok (.iconst 1, 1) := by decide +kernel
theorem dX12_takeSign_23 : decode cX12_takeSign 23 = .ok (.invokevirtual 158, 3) := by decide +kernel
theorem dX12_takeSign_26 : decode cX12_takeSign 26 = .ok (.return_, 1) := by decide +kernel
theorem dX12_hasSign_0 : decode cX12_hasSign 0 = .ok (.aload_n 0, 1) := by decide +kernel
theorem dX12_hasSign_1 : decode cX12_hasSign 1 = .ok (.iload_n 1, 1) := by decide +kernel
theorem dX12_hasSign_2 : decode cX12_hasSign 2 = .ok (.invokevirtual 155, 3) := by decide +kernel
theorem dX12_hasSign_5 : decode cX12_hasSign 5 = .ok (.istore_n 2, 1) := by decide +kernel
theorem dX12_hasSign_6 : decode cX12_hasSign 6 = .ok (.aload_n 0, 1) := by decide +kernel
theorem dX12_hasSign_7 : decode cX12_hasSign 7 = .ok (.dup, 1) := by decide +kernel
theorem dX12_hasSign_8 : decode cX12_hasSign 8 = .ok (.getfield 149, 3) := by decide +kernel
theorem dX12_hasSign_11 : decode cX12_hasSign 11 = .ok (.iload_n 2, 1) := by decide +kernel
theorem dX12_hasSign_12 : decode cX12_hasSign 12 = .ok (.ifCond .eq 7, 3) := by decide +kernel
theorem dX12_hasSign_15 : decode cX12_hasSign 15 = .ok (.iconst 1, 1) := by decide +kernel
theorem dX12_hasSign_16 : decode cX12_hasSign 16 = .ok (.goto 4, 3) := by decide +kernel
theorem dX12_hasSign_19 : decode cX12_hasSign 19 = .ok (.iconst 0, 1) := by decide +kernel
theorem dX12_hasSign_20 : decode cX12_hasSign 20 = .ok (.iadd, 1) := by decide +kernel
theorem dX12_hasSign_21 : decode cX12_hasSign 21 = .ok (.putfield 149, 3) := by decide +kernel
theorem dX12_hasSign_24 : decode cX12_hasSign 24 = .ok (.iload_n 2, 1) := by decide +kernel
theorem dX12_hasSign_25 : decode cX12_hasSign 25 = .ok (.ireturn, 1) := by decide +kernel
theorem dX12_hasWord_0 : decode cX12_hasWord 0 = .ok (.aload_n 0, 1) := by decide +kernel
theorem dX12_hasWord_1 : decode cX12_hasWord 1 = .ok (.iload_n 1, 1) := by decide +kernel
theorem dX12_hasWord_2 : decode cX12_hasWord 2 = .ok (.invokevirtual 161, 3) := by decide +kernel
theorem dX12_hasWord_5 : decode cX12_hasWord 5 = .ok (.istore_n 2, 1) := by decide +kernel
theorem dX12_hasWord_6 : decode cX12_hasWord 6 = .ok (.aload_n 0, 1) := by decide +kernel
theorem dX12_hasWord_7 : decode cX12_hasWord 7 = .ok (.dup, 1) := by decide +kernel
theorem dX12_hasWord_8 : decode cX12_hasWord 8 = .ok (.getfield 149, 3) := by decide +kernel
theorem dX12_hasWord_11 : decode cX12_hasWord 11 = .ok (.iload_n 2, 1) := by decide +kernel
theorem dX12_hasWord_12 : decode cX12_hasWord 12 = .ok (.ifCond .eq 7, 3) := by decide +kernel
theorem dX12_hasWord_15 : decode cX12_hasWord 15 = .ok (.iconst 1, 1) := by decide +kernel
theorem dX12_hasWord_16 : decode cX12_hasWord 16 = .ok (.goto 4, 3) := by decide +kernel
theorem dX12_hasWord_19 : decode cX12_hasWord 19 = .ok (.iconst 0, 1) := by decide +kernel
theorem dX12_hasWord_20 : decode cX12_hasWord 20 = .ok (.iadd, 1) := by decide +kernel
theorem dX12_hasWord_21 : decode cX12_hasWord 21 = .ok (.putfield 149, 3) := by decide +kernel
theorem dX12_hasWord_24 : decode cX12_hasWord 24 = .ok (.iload_n 2, 1) := by decide +kernel
theorem dX12_hasWord_25 : decode cX12_hasWord 25 = .ok (.ireturn, 1) := by decide +kernel
theorem dX12_takeWord_0 : decode cX12_takeWord 0 = .ok (.aload_n 0, 1) := by decide +kernel
theorem dX12_takeWord_1 : decode cX12_takeWord 1 = .ok (.iload_n 1, 1) := by decide +kernel
theorem dX12_takeWord_2 : decode cX12_takeWord 2 = .ok (.invokevirtual 164, 3) := by decide +kernel
theorem dX12_takeWord_5 : decode cX12_takeWord 5 = .ok (.ifCond .ne 8, 3) := by decide +kernel
theorem dX12_takeWord_8 : decode cX12_takeWord 8 = .ok (.aload_n 0, 1) := by decide +kernel
theorem dX12_takeWord_9 : decode cX12_takeWord 9 = .ok (.iconst 1, 1) := by decide +kernel
theorem dX12_takeWord_10 : decode cX12_takeWord 10 = .ok (.invokevirtual 158, 3) := by decide +kernel
theorem dX12_takeWord_13 : decode cX12_takeWord 13 = .ok (.return_, 1) := by decide +kernel
theorem dX12_within_0 : decode cX12_within 0 = .ok (.iload_n 0, 1) := by decide +kernel
theorem dX12_within_1 : decode cX12_within 1 = .ok (.iload_n 1, 1) := by decide +kernel
theorem dX12_within_2 : decode cX12_within 2 = .ok (.if_icmp .lt 12, 3) := by decide +kernel
theorem dX12_within_5 : decode cX12_within 5 = .ok (.iload_n 0, 1) := by decide +kernel
theorem dX12_within_6 : decode cX12_within 6 = .ok (.iload_n 2, 1) := by decide +kernel
theorem dX12_within_7 : decode cX12_within 7 = .ok (.if_icmp .gt 7, 3) := by decide +kernel
theorem dX12_within_10 : decode cX12_within 10 = .ok (.iconst 1, 1) := by decide +kernel
theorem dX12_within_11 : decode cX12_within 11 = .ok (.goto 4, 3) := by decide +kernel
theorem dX12_within_14 : decode cX12_within 14 = .ok (.iconst 0, 1) := by decide +kernel
theorem dX12_within_15 : decode cX12_within 15 = .ok (.ireturn, 1) := by decide +kernel
theorem dX12_standsAsAlways_0 : decode cX12_standsAsAlways 0 = .ok (.iconst 0, 1) := by decide +kernel
theorem dX12_standsAsAlways_1 : decode cX12_standsAsAlways 1 = .ok (.istore_n 2, 1) := by decide +kernel
theorem dX12_standsAsAlways_2 : decode cX12_standsAsAlways 2 = .ok (.iload_n 2, 1) := by decide +kernel
theorem dX12_standsAsAlways_3 : decode cX12_standsAsAlways 3 = .ok (.bipush 20, 2) := by decide +kernel
theorem dX12_standsAsAlways_5 : decode cX12_standsAsAlways 5 = .ok (.if_icmp .ge 18, 3) := by decide +kernel
theorem dX12_standsAsAlways_8 : decode cX12_standsAsAlways 8 = .ok (.aload_n 0, 1) := by decide +kernel
theorem dX12_standsAsAlways_9 : decode cX12_standsAsAlways 9 = .ok (.getfield 73, 3) := by decide +kernel
theorem dX12_standsAsAlways_12 : decode cX12_standsAsAlways 12 = .ok (.iload_n 1, 1) := by decide +kernel
theorem dX12_standsAsAlways_13 : decode cX12_standsAsAlways 13 = .ok (.iload_n 2, 1) := by decide +kernel
theorem dX12_standsAsAlways_14 : decode cX12_standsAsAlways 14 = .ok (.iadd, 1) := by decide +kernel
theorem dX12_standsAsAlways_15 : decode cX12_standsAsAlways 15 = .ok (.iconst 0, 1) := by decide +kernel
theorem dX12_standsAsAlways_16 : decode cX12_standsAsAlways 16 = .ok (.iastore, 1) := by decide +kernel
theorem dX12_standsAsAlways_17 : decode cX12_standsAsAlways 17 = .ok (.iinc 2 1, 3) := by decide +kernel
theorem dX12_standsAsAlways_20 : decode cX12_standsAsAlways 20 = .ok (.goto (-18), 3) := by decide +kernel
theorem dX12_standsAsAlways_23 : decode cX12_standsAsAlways 23 = .ok (.aload_n 0, 1) := by decide +kernel
theorem dX12_standsAsAlways_24 : decode cX12_standsAsAlways 24 = .ok (.getfield 73, 3) := by decide +kernel
theorem dX12_standsAsAlways_27 : decode cX12_standsAsAlways 27 = .ok (.iload_n 1, 1) := by decide +kernel
theorem dX12_standsAsAlways_28 : decode cX12_standsAsAlways 28 = .ok (.iconst 1, 1) := by decide +kernel
theorem dX12_standsAsAlways_29 : decode cX12_standsAsAlways 29 = .ok (.iadd, 1) := by decide +kernel
theorem dX12_standsAsAlways_30 : decode cX12_standsAsAlways 30 = .ok (.iconst (-1), 1) := by decide +kernel
theorem dX12_standsAsAlways_31 : decode cX12_standsAsAlways 31 = .ok (.iastore, 1) := by decide +kernel
theorem dX12_standsAsAlways_32 : decode cX12_standsAsAlways 32 = .ok (.aload_n 0, 1) := by decide +kernel
theorem dX12_standsAsAlways_33 : decode cX12_standsAsAlways 33 = .ok (.getfield 73, 3) := by decide +kernel
theorem dX12_standsAsAlways_36 : decode cX12_standsAsAlways 36 = .ok (.iload_n 1, 1) := by decide +kernel
theorem dX12_standsAsAlways_37 : decode cX12_standsAsAlways 37 = .ok (.iconst 1, 1) := by decide +kernel
theorem dX12_standsAsAlways_38 : decode cX12_standsAsAlways 38 = .ok (.iadd, 1) := by decide +kernel
theorem dX12_standsAsAlways_39 : decode cX12_standsAsAlways 39 = .ok (.iconst 1, 1) := by decide +kernel
theorem dX12_standsAsAlways_40 : decode cX12_standsAsAlways 40 = .ok (.iadd, 1) := by decide +kernel
theorem dX12_standsAsAlways_41 : decode cX12_standsAsAlways 41 = .ok (.iconst (-1), 1) := by decide +kernel
theorem dX12_standsAsAlways_42 : decode cX12_standsAsAlways 42 = .ok (.iastore, 1) := by decide +kernel
theorem dX12_standsAsAlways_43 : decode cX12_standsAsAlways 43 = .ok (.return_, 1) := by decide +kernel
theorem dX12_takeNumber_0 : decode cX12_takeNumber 0 = .ok (.aload_n 0, 1) := by decide +kernel
theorem dX12_takeNumber_1 : decode cX12_takeNumber 1 = .ok (.getfield 152, 3) := by decide +kernel
theorem dX12_takeNumber_4 : decode cX12_takeNumber 4 = .ok (.ifCond .ne 24, 3) := by decide +kernel
theorem dX12_takeNumber_7 : decode cX12_takeNumber 7 = .ok (.aload_n 0, 1) := by decide +kernel
theorem dX12_takeNumber_8 : decode cX12_takeNumber 8 = .ok (.getfield 24, 3) := by decide +kernel
theorem dX12_takeNumber_11 : decode cX12_takeNumber 11 = .ok (.aload_n 0, 1) := by decide +kernel
theorem dX12_takeNumber_12 : decode cX12_takeNumber 12 = .ok (.getfield 149, 3) := by decide +kernel
theorem dX12_takeNumber_15 : decode cX12_takeNumber 15 = .ok (.iaload, 1) := by decide +kernel
theorem dX12_takeNumber_16 : decode cX12_takeNumber 16 = .ok (.iconst 2, 1) := by decide +kernel
theorem dX12_takeNumber_17 : decode cX12_takeNumber 17 = .ok (.if_icmp .eq 11, 3) := by decide +kernel
theorem dX12_takeNumber_20 : decode cX12_takeNumber 20 = .ok (.aload_n 0, 1) := by decide +kernel
theorem dX12_takeNumber_21 : decode cX12_takeNumber 21 = .ok (.iconst 1, 1) := by decide +kernel
theorem dX12_takeNumber_22 : decode cX12_takeNumber 22 = .ok (.invokevirtual 158, 3) := by decide +kernel
theorem dX12_takeNumber_25 : decode cX12_takeNumber 25 = .ok (.goto 45, 3) := by decide +kernel
theorem dX12_takeNumber_28 : decode cX12_takeNumber 28 = .ok (.aload_n 0, 1) := by decide +kernel
theorem dX12_takeNumber_29 : decode cX12_takeNumber 29 = .ok (.getfield 152, 3) := by decide +kernel
theorem dX12_takeNumber_32 : decode cX12_takeNumber 32 = .ok (.ifCond .ne 38, 3) := by decide +kernel
theorem dX12_takeNumber_35 : decode cX12_takeNumber 35 = .ok (.aload_n 0, 1) := by decide +kernel
theorem dX12_takeNumber_36 : decode cX12_takeNumber 36 = .ok (.getfield 30, 3) := by decide +kernel
theorem dX12_takeNumber_39 : decode cX12_takeNumber 39 = .ok (.aload_n 0, 1) := by decide +kernel
theorem dX12_takeNumber_40 : decode cX12_takeNumber 40 = .ok (.getfield 149, 3) := by decide +kernel
theorem dX12_takeNumber_43 : decode cX12_takeNumber 43 = .ok (.laload, 1) := by decide +kernel
theorem dX12_takeNumber_44 : decode cX12_takeNumber 44 = .ok (.iload_n 1, 1) := by decide +kernel
theorem dX12_takeNumber_45 : decode cX12_takeNumber 45 = .ok (.i2l, 1) := by decide +kernel
theorem dX12_takeNumber_46 : decode cX12_takeNumber 46 = .ok (.lcmp, 1) := by decide +kernel
theorem dX12_takeNumber_47 : decode cX12_takeNumber 47 = .ok (.ifCond .lt 18, 3) := by decide +kernel
theorem dX12_takeNumber_50 : decode cX12_takeNumber 50 = .ok (.aload_n 0, 1) := by decide +kernel
theorem dX12_takeNumber_51 : decode cX12_takeNumber 51 = .ok (.getfield 30, 3) := by decide +kernel
theorem dX12_takeNumber_54 : decode cX12_takeNumber 54 = .ok (.aload_n 0, 1) := by decide +kernel
theorem dX12_takeNumber_55 : decode cX12_takeNumber 55 = .ok (.getfield 149, 3) := by decide +kernel
theorem dX12_takeNumber_58 : decode cX12_takeNumber 58 = .ok (.laload, 1) := by decide +kernel
theorem dX12_takeNumber_59 : decode cX12_takeNumber 59 = .ok (.iload_n 2, 1) := by decide +kernel
theorem dX12_takeNumber_60 : decode cX12_takeNumber 60 = .ok (.i2l, 1) := by decide +kernel
theorem dX12_takeNumber_61 : decode cX12_takeNumber 61 = .ok (.lcmp, 1) := by decide +kernel
theorem dX12_takeNumber_62 : decode cX12_takeNumber 62 = .ok (.ifCond .le 8, 3) := by decide +kernel
theorem dX12_takeNumber_65 : decode cX12_takeNumber 65 = .ok (.aload_n 0, 1) := by decide +kernel
theorem dX12_takeNumber_66 : decode cX12_takeNumber 66 = .ok (.iconst 4, 1) := by decide +kernel
theorem dX12_takeNumber_67 : decode cX12_takeNumber 67 = .ok (.invokevirtual 158, 3) := by decide +kernel
theorem dX12_takeNumber_70 : decode cX12_takeNumber 70 = .ok (.aload_n 0, 1) := by decide +kernel
theorem dX12_takeNumber_71 : decode cX12_takeNumber 71 = .ok (.getfield 152, 3) := by decide +kernel
theorem dX12_takeNumber_74 : decode cX12_takeNumber 74 = .ok (.ifCond .le 5, 3) := by decide +kernel
theorem dX12_takeNumber_77 : decode cX12_takeNumber 77 = .ok (.iconst 0, 1) := by decide +kernel
theorem dX12_takeNumber_78 : decode cX12_takeNumber 78 = .ok (.ireturn, 1) := by decide +kernel
theorem dX12_takeNumber_79 : decode cX12_takeNumber 79 = .ok (.aload_n 0, 1) := by decide +kernel
theorem dX12_takeNumber_80 : decode cX12_takeNumber 80 = .ok (.dup, 1) := by decide +kernel
theorem dX12_takeNumber_81 : decode cX12_takeNumber 81 = .ok (.getfield 149, 3) := by decide +kernel
theorem dX12_takeNumber_84 : decode cX12_takeNumber 84 = .ok (.iconst 1, 1) := by decide +kernel
theorem dX12_takeNumber_85 : decode cX12_takeNumber 85 = .ok (.iadd, 1) := by decide +kernel
theorem dX12_takeNumber_86 : decode cX12_takeNumber 86 = .ok (.putfield 149, 3) := by decide +kernel
theorem dX12_takeNumber_89 : decode cX12_takeNumber 89 = .ok (.aload_n 0, 1) := by decide +kernel
theorem dX12_takeNumber_90 : decode cX12_takeNumber 90 = .ok (.getfield 30, 3) := by decide +kernel
theorem dX12_takeNumber_93 : decode cX12_takeNumber 93 = .ok (.aload_n 0, 1) := by decide +kernel
theorem dX12_takeNumber_94 : decode cX12_takeNumber 94 = .ok (.getfield 149, 3) := by decide +kernel
theorem dX12_takeNumber_97 : decode cX12_takeNumber 97 = .ok (.iconst 1, 1) := by decide +kernel
theorem dX12_takeNumber_98 : decode cX12_takeNumber 98 = .ok (.isub, 1) := by decide +kernel
theorem dX12_takeNumber_99 : decode cX12_takeNumber 99 = .ok (.laload, 1) := by decide +kernel
theorem dX12_takeNumber_100 : decode cX12_takeNumber 100 = .ok (.l2i, 1) := by decide +kernel
theorem dX12_takeNumber_101 : decode cX12_takeNumber 101 = .ok (.ireturn, 1) := by decide +kernel
theorem dX12_wordHere_0 : decode cX12_wordHere 0 = .ok (.iconst (-1), 1) := by decide +kernel
theorem dX12_wordHere_1 : decode cX12_wordHere 1 = .ok (.istore_n 3, 1) := by decide +kernel
theorem dX12_wordHere_2 : decode cX12_wordHere 2 = .ok (.iconst 0, 1) := by decide +kernel
theorem dX12_wordHere_3 : decode cX12_wordHere 3 = .ok (.istore 4, 2) := by decide +kernel
theorem dX12_wordHere_5 : decode cX12_wordHere 5 = .ok (.iload 4, 2) := by decide +kernel
theorem dX12_wordHere_7 : decode cX12_wordHere 7 = .ok (.iload_n 2, 1) := by decide +kernel
theorem dX12_wordHere_8 : decode cX12_wordHere 8 = .ok (.if_icmp .ge 27, 3) := by decide +kernel
theorem dX12_wordHere_11 : decode cX12_wordHere 11 = .ok (.aload_n 0, 1) := by decide +kernel
theorem dX12_wordHere_12 : decode cX12_wordHere 12 = .ok (.iload_n 1, 1) := by decide +kernel
theorem dX12_wordHere_13 : decode cX12_wordHere 13 = .ok (.iload 4, 2) := by decide +kernel
theorem dX12_wordHere_15 : decode cX12_wordHere 15 = .ok (.iadd, 1) := by decide +kernel
theorem dX12_wordHere_16 : decode cX12_wordHere 16 = .ok (.invokevirtual 161, 3) := by decide +kernel
theorem dX12_wordHere_19 : decode cX12_wordHere 19 = .ok (.ifCond .eq 8, 3) := by decide +kernel
theorem dX12_wordHere_22 : decode cX12_wordHere 22 = .ok (.iload 4, 2) := by decide +kernel
theorem dX12_wordHere_24 : decode cX12_wordHere 24 = .ok (.goto 4, 3) := by decide +kernel
theorem dX12_wordHere_27 : decode cX12_wordHere 27 = .ok (.iload_n 3, 1) := by decide +kernel
theorem dX12_wordHere_28 : decode cX12_wordHere 28 = .ok (.istore_n 3, 1) := by decide +kernel
theorem dX12_wordHere_29 : decode cX12_wordHere 29 = .ok (.iinc 4 1, 3) := by decide +kernel
theorem dX12_wordHere_32 : decode cX12_wordHere 32 = .ok (.goto (-27), 3) := by decide +kernel
theorem dX12_wordHere_35 : decode cX12_wordHere 35 = .ok (.iload_n 3, 1) := by decide +kernel
theorem dX12_wordHere_36 : decode cX12_wordHere 36 = .ok (.ireturn, 1) := by decide +kernel
theorem dX12_takeOne_0 : decode cX12_takeOne 0 = .ok (.aload_n 0, 1) := by decide +kernel
theorem dX12_takeOne_1 : decode cX12_takeOne 1 = .ok (.getfield 152, 3) := by decide +kernel
theorem dX12_takeOne_4 : decode cX12_takeOne 4 = .ok (.ifCond .le 7, 3) := by decide +kernel
theorem dX12_takeOne_7 : decode cX12_takeOne 7 = .ok (.iconst (-1), 1) := by decide +kernel
theorem dX12_takeOne_8 : decode cX12_takeOne 8 = .ok (.goto 9, 3) := by decide +kernel
theorem dX12_takeOne_11 : decode cX12_takeOne 11 = .ok (.aload_n 0, 1) := by decide +kernel
theorem dX12_takeOne_12 : decode cX12_takeOne 12 = .ok (.iload_n 1, 1) := by decide +kernel
theorem dX12_takeOne_13 : decode cX12_takeOne 13 = .ok (.iload_n 2, 1) := by decide +kernel
theorem dX12_takeOne_14 : decode cX12_takeOne 14 = .ok (.invokevirtual 167, 3) := by decide +kernel
theorem dX12_takeOne_17 : decode cX12_takeOne 17 = .ok (.istore_n 3, 1) := by decide +kernel
theorem dX12_takeOne_18 : decode cX12_takeOne 18 = .ok (.aload_n 0, 1) := by decide +kernel
theorem dX12_takeOne_19 : decode cX12_takeOne 19 = .ok (.getfield 152, 3) := by decide +kernel
theorem dX12_takeOne_22 : decode cX12_takeOne 22 = .ok (.ifCond .ne 12, 3) := by decide +kernel
theorem dX12_takeOne_25 : decode cX12_takeOne 25 = .ok (.iload_n 3, 1) := by decide +kernel
theorem dX12_takeOne_26 : decode cX12_takeOne 26 = .ok (.ifCond .ge 8, 3) := by decide +kernel
theorem dX12_takeOne_29 : decode cX12_takeOne 29 = .ok (.aload_n 0, 1) := by decide +kernel
theorem dX12_takeOne_30 : decode cX12_takeOne 30 = .ok (.iconst 1, 1) := by decide +kernel
theorem dX12_takeOne_31 : decode cX12_takeOne 31 = .ok (.invokevirtual 158, 3) := by decide +kernel
theorem dX12_takeOne_34 : decode cX12_takeOne 34 = .ok (.aload_n 0, 1) := by decide +kernel
theorem dX12_takeOne_35 : decode cX12_takeOne 35 = .ok (.dup, 1) := by decide +kernel
theorem dX12_takeOne_36 : decode cX12_takeOne 36 = .ok (.getfield 149, 3) := by decide +kernel
theorem dX12_takeOne_39 : decode cX12_takeOne 39 = .ok (.aload_n 0, 1) := by decide +kernel
theorem dX12_takeOne_40 : decode cX12_takeOne 40 = .ok (.getfield 152, 3) := by decide +kernel
theorem dX12_takeOne_43 : decode cX12_takeOne 43 = .ok (.ifCond .le 7, 3) := by decide +kernel
theorem dX12_takeOne_46 : decode cX12_takeOne 46 = .ok (.iconst 0, 1) := by decide +kernel
theorem dX12_takeOne_47 : decode cX12_takeOne 47 = .ok (.goto 4, 3) := by decide +kernel
theorem dX12_takeOne_50 : decode cX12_takeOne 50 = .ok (.iconst 1, 1) := by decide +kernel
theorem dX12_takeOne_51 : decode cX12_takeOne 51 = .ok (.iadd, 1) := by decide +kernel
theorem dX12_takeOne_52 : decode cX12_takeOne 52 = .ok (.putfield 149, 3) := by decide +kernel
theorem dX12_takeOne_55 : decode cX12_takeOne 55 = .ok (.aload_n 0, 1) := by decide +kernel
theorem dX12_takeOne_56 : decode cX12_takeOne 56 = .ok (.getfield 152, 3) := by decide +kernel
theorem dX12_takeOne_59 : decode cX12_takeOne 59 = .ok (.ifCond .le 7, 3) := by decide +kernel
theorem dX12_takeOne_62 : decode cX12_takeOne 62 = .ok (.iconst 0, 1) := by decide +kernel
theorem dX12_takeOne_63 : decode cX12_takeOne 63 = .ok (.goto 4, 3) := by decide +kernel
theorem dX12_takeOne_66 : decode cX12_takeOne 66 = .ok (.iload_n 3, 1) := by decide +kernel
theorem dX12_takeOne_67 : decode cX12_takeOne 67 = .ok (.ireturn, 1) := by decide +kernel
theorem dX12_isName_0 : decode cX12_isName 0 = .ok (.aload_n 0, 1) := by decide +kernel
theorem dX12_isName_1 : decode cX12_isName 1 = .ok (.getfield 152, 3) := by decide +kernel
theorem dX12_isName_4 : decode cX12_isName 4 = .ok (.ifCond .ne 30, 3) := by decide +kernel
theorem dX12_isName_7 : decode cX12_isName 7 = .ok (.aload_n 0, 1) := by decide +kernel
theorem dX12_isName_8 : decode cX12_isName 8 = .ok (.getfield 24, 3) := by decide +kernel
theorem dX12_isName_11 : decode cX12_isName 11 = .ok (.aload_n 0, 1) := by decide +kernel
theorem dX12_isName_12 : decode cX12_isName 12 = .ok (.getfield 149, 3) := by decide +kernel
theorem dX12_isName_15 : decode cX12_isName 15 = .ok (.iaload, 1) := by decide +kernel
theorem dX12_isName_16 : decode cX12_isName 16 = .ok (.iconst 1, 1) := by decide +kernel
theorem dX12_isName_17 : decode cX12_isName 17 = .ok (.if_icmp .ne 17, 3) := by decide +kernel
theorem dX12_isName_20 : decode cX12_isName 20 = .ok (.aload_n 0, 1) := by decide +kernel
theorem dX12_isName_21 : decode cX12_isName 21 = .ok (.iconst 0, 1) := by decide +kernel
theorem dX12_isName_22 : decode cX12_isName 22 = .ok (.bipush 14, 2) := by decide +kernel
theorem dX12_isName_24 : decode cX12_isName 24 = .ok (.invokevirtual 167, 3) := by decide +kernel
theorem dX12_isName_27 : decode cX12_isName 27 = .ok (.ifCond .ge 7, 3) := by decide +kernel
theorem dX12_isName_30 : decode cX12_isName 30 = .ok (.iconst 1, 1) := by decide +kernel
theorem dX12_isName_31 : decode cX12_isName 31 = .ok (.goto 4, 3) := by decide +kernel
theorem dX12_isName_34 : decode cX12_isName 34 = .ok (.iconst 0, 1) := by decide +kernel
theorem dX12_isName_35 : decode cX12_isName 35 = .ok (.ireturn, 1) := by decide +kernel
theorem dX12_nameAt_0 : decode cX12_nameAt 0 = .ok (.iconst (-1), 1) := by decide +kernel
theorem dX12_nameAt_1 : decode cX12_nameAt 1 = .ok (.istore_n 3, 1) := by decide +kernel
theorem dX12_nameAt_2 : decode cX12_nameAt 2 = .ok (.iconst 0, 1) := by decide +kernel
theorem dX12_nameAt_3 : decode cX12_nameAt 3 = .ok (.istore 4, 2) := by decide +kernel
theorem dX12_nameAt_5 : decode cX12_nameAt 5 = .ok (.iload 4, 2) := by decide +kernel
theorem dX12_nameAt_7 : decode cX12_nameAt 7 = .ok (.iload_n 2, 1) := by decide +kernel
theorem dX12_nameAt_8 : decode cX12_nameAt 8 = .ok (.if_icmp .ge 38, 3) := by decide +kernel
theorem dX12_nameAt_11 : decode cX12_nameAt 11 = .ok (.aload_n 0, 1) := by decide +kernel
theorem dX12_nameAt_12 : decode cX12_nameAt 12 = .ok (.getfield 79, 3) := by decide +kernel
theorem dX12_nameAt_15 : decode cX12_nameAt 15 = .ok (.iload_n 1, 1) := by decide +kernel
theorem dX12_nameAt_16 : decode cX12_nameAt 16 = .ok (.iload 4, 2) := by decide +kernel
theorem dX12_nameAt_18 : decode cX12_nameAt 18 = .ok (.iadd, 1) := by decide +kernel
theorem dX12_nameAt_19 : decode cX12_nameAt 19 = .ok (.laload, 1) := by decide +kernel
theorem dX12_nameAt_20 : decode cX12_nameAt 20 = .ok (.aload_n 0, 1) := by decide +kernel
theorem dX12_nameAt_21 : decode cX12_nameAt 21 = .ok (.getfield 30, 3) := by decide +kernel
theorem dX12_nameAt_24 : decode cX12_nameAt 24 = .ok (.aload_n 0, 1) := by decide +kernel
theorem dX12_nameAt_25 : decode cX12_nameAt 25 = .ok (.getfield 149, 3) := by decide +kernel
theorem dX12_nameAt_28 : decode cX12_nameAt 28 = .ok (.laload, 1) := by decide +kernel
theorem dX12_nameAt_29 : decode cX12_nameAt 29 = .ok (.lcmp, 1) := by decide +kernel
theorem dX12_nameAt_30 : decode cX12_nameAt 30 = .ok (.ifCond .ne 8, 3) := by decide +kernel
theorem dX12_nameAt_33 : decode cX12_nameAt 33 = .ok (.iload 4, 2) := by decide +kernel
theorem dX12_nameAt_35 : decode cX12_nameAt 35 = .ok (.goto 4, 3) := by decide +kernel
theorem dX12_nameAt_38 : decode cX12_nameAt 38 = .ok (.iload_n 3, 1) := by decide +kernel
theorem dX12_nameAt_39 : decode cX12_nameAt 39 = .ok (.istore_n 3, 1) := by decide +kernel
theorem dX12_nameAt_40 : decode cX12_nameAt 40 = .ok (.iinc 4 1, 3) := by decide +kernel
theorem dX12_nameAt_43 : decode cX12_nameAt 43 = .ok (.goto (-38), 3) := by decide +kernel
theorem dX12_nameAt_46 : decode cX12_nameAt 46 = .ok (.iload_n 3, 1) := by decide +kernel
theorem dX12_nameAt_47 : decode cX12_nameAt 47 = .ok (.ireturn, 1) := by decide +kernel
theorem dX12_griddle_0 : decode cX12_griddle 0 = .ok (.aload_n 0, 1) := by decide +kernel
theorem dX12_griddle_1 : decode cX12_griddle 1 = .ok (.iconst 0, 1) := by decide +kernel
theorem dX12_griddle_2 : decode cX12_griddle 2 = .ok (.putfield 1, 3) := by decide +kernel
theorem dX12_griddle_5 : decode cX12_griddle 5 = .ok (.aload_n 0, 1) := by decide +kernel
theorem dX12_griddle_6 : decode cX12_griddle 6 = .ok (.invokevirtual 171, 3) := by decide +kernel
theorem dX12_griddle_9 : decode cX12_griddle 9 = .ok (.aload_n 0, 1) := by decide +kernel
theorem dX12_griddle_10 : decode cX12_griddle 10 = .ok (.iconst 0, 1) := by decide +kernel
theorem dX12_griddle_11 : decode cX12_griddle 11 = .ok (.putfield 174, 3) := by decide +kernel
theorem dX12_griddle_14 : decode cX12_griddle 14 = .ok (.aload_n 0, 1) := by decide +kernel
theorem dX12_griddle_15 : decode cX12_griddle 15 = .ok (.bipush 20, 2) := by decide +kernel
theorem dX12_griddle_17 : decode cX12_griddle 17 = .ok (.invokevirtual 119, 3) := by decide +kernel
theorem dX12_griddle_20 : decode cX12_griddle 20 = .ok (.aload_n 0, 1) := by decide +kernel
theorem dX12_griddle_21 : decode cX12_griddle 21 = .ok (.getfield 152, 3) := by decide +kernel
theorem dX12_griddle_24 : decode cX12_griddle 24 = .ok (.ifCond .ne 43, 3) := by decide +kernel
theorem dX12_griddle_27 : decode cX12_griddle 27 = .ok (.aload_n 0, 1) := by decide +kernel
theorem dX12_griddle_28 : decode cX12_griddle 28 = .ok (.getfield 24, 3) := by decide +kernel
theorem dX12_griddle_31 : decode cX12_griddle 31 = .ok (.aload_n 0, 1) := by decide +kernel
theorem dX12_griddle_32 : decode cX12_griddle 32 = .ok (.getfield 149, 3) := by decide +kernel
theorem dX12_griddle_35 : decode cX12_griddle 35 = .ok (.iaload, 1) := by decide +kernel
theorem dX12_griddle_36 : decode cX12_griddle 36 = .ok (.ifCond .eq 31, 3) := by decide +kernel
theorem dX12_griddle_39 : decode cX12_griddle 39 = .ok (.aload_n 0, 1) := by decide +kernel
theorem dX12_griddle_40 : decode cX12_griddle 40 = .ok (.iconst 0, 1) := by decide +kernel
theorem dX12_griddle_41 : decode cX12_griddle 41 = .ok (.invokevirtual 161, 3) := by decide +kernel
theorem dX12_griddle_44 : decode cX12_griddle 44 = .ok (.ifCond .eq 10, 3) := by decide +kernel
theorem dX12_griddle_47 : decode cX12_griddle 47 = .ok (.aload_n 0, 1) := by decide +kernel
theorem dX12_griddle_48 : decode cX12_griddle 48 = .ok (.invokevirtual 177, 3) := by decide +kernel
theorem dX12_griddle_51 : decode cX12_griddle 51 = .ok (.goto 7, 3) := by decide +kernel
theorem dX12_griddle_54 : decode cX12_griddle 54 = .ok (.aload_n 0, 1) := by decide +kernel
theorem dX12_griddle_55 : decode cX12_griddle 55 = .ok (.invokevirtual 180, 3) := by decide +kernel
theorem dX12_griddle_58 : decode cX12_griddle 58 = .ok (.aload_n 0, 1) := by decide +kernel
theorem dX12_griddle_59 : decode cX12_griddle 59 = .ok (.bipush 59, 2) := by decide +kernel
theorem dX12_griddle_61 : decode cX12_griddle 61 = .ok (.invokevirtual 183, 3) := by decide +kernel
theorem dX12_griddle_64 : decode cX12_griddle 64 = .ok (.goto (-44), 3) := by decide +kernel
theorem dX12_griddle_67 : decode cX12_griddle 67 = .ok (.aload_n 0, 1) := by decide +kernel
theorem dX12_griddle_68 : decode cX12_griddle 68 = .ok (.getfield 152, 3) := by decide +kernel
theorem dX12_griddle_71 : decode cX12_griddle 71 = .ok (.ifCond .le 8, 3) := by decide +kernel
theorem dX12_griddle_74 : decode cX12_griddle 74 = .ok (.aload_n 0, 1) := by decide +kernel
theorem dX12_griddle_75 : decode cX12_griddle 75 = .ok (.getfield 152, 3) := by decide +kernel
theorem dX12_griddle_78 : decode cX12_griddle 78 = .ok (.ireturn, 1) := by decide +kernel
theorem dX12_griddle_79 : decode cX12_griddle 79 = .ok (.iconst 0, 1) := by decide +kernel
theorem dX12_griddle_80 : decode cX12_griddle 80 = .ok (.istore_n 1, 1) := by decide +kernel
theorem dX12_griddle_81 : decode cX12_griddle 81 = .ok (.iload_n 1, 1) := by decide +kernel
theorem dX12_griddle_82 : decode cX12_griddle 82 = .ok (.bipush 20, 2) := by decide +kernel
theorem dX12_griddle_84 : decode cX12_griddle 84 = .ok (.if_icmp .ge 24, 3) := by decide +kernel
theorem dX12_griddle_87 : decode cX12_griddle 87 = .ok (.aload_n 0, 1) := by decide +kernel
theorem dX12_griddle_88 : decode cX12_griddle 88 = .ok (.getfield 73, 3) := by decide +kernel
theorem dX12_griddle_91 : decode cX12_griddle 91 = .ok (.iload_n 1, 1) := by decide +kernel
theorem dX12_griddle_92 : decode cX12_griddle 92 = .ok (.aload_n 0, 1) := by decide +kernel
theorem dX12_griddle_93 : decode cX12_griddle 93 = .ok (.getfield 73, 3) := by decide +kernel
theorem dX12_griddle_96 : decode cX12_griddle 96 = .ok (.bipush 20, 2) := by decide +kernel
theorem dX12_griddle_98 : decode cX12_griddle 98 = .ok (.iload_n 1, 1) := by decide +kernel
theorem dX12_griddle_99 : decode cX12_griddle 99 = .ok (.iadd, 1) := by decide +kernel
theorem dX12_griddle_100 : decode cX12_griddle 100 = .ok (.iaload, 1) := by decide +kernel
theorem dX12_griddle_101 : decode cX12_griddle 101 = .ok (.iastore, 1) := by decide +kernel
theorem dX12_griddle_102 : decode cX12_griddle 102 = .ok (.iinc 1 1, 3) := by decide +kernel
theorem dX12_griddle_105 : decode cX12_griddle 105 = .ok (.goto (-24), 3) := by decide +kernel
theorem dX12_griddle_108 : decode cX12_griddle 108 = .ok (.iconst 0, 1) := by decide +kernel
theorem dX12_griddle_109 : decode cX12_griddle 109 = .ok (.istore_n 1, 1) := by decide +kernel
theorem dX12_griddle_110 : decode cX12_griddle 110 = .ok (.iload_n 1, 1) := by decide +kernel
theorem dX12_griddle_111 : decode cX12_griddle 111 = .ok (.aload_n 0, 1) := by decide +kernel
theorem dX12_griddle_112 : decode cX12_griddle 112 = .ok (.getfield 174, 3) := by decide +kernel
theorem dX12_griddle_115 : decode cX12_griddle 115 = .ok (.if_icmp .ge 25, 3) := by decide +kernel
theorem dX12_griddle_118 : decode cX12_griddle 118 = .ok (.aload_n 0, 1) := by decide +kernel
theorem dX12_griddle_119 : decode cX12_griddle 119 = .ok (.getfield 76, 3) := by decide +kernel
theorem dX12_griddle_122 : decode cX12_griddle 122 = .ok (.iload_n 1, 1) := by decide +kernel
theorem dX12_griddle_123 : decode cX12_griddle 123 = .ok (.aload_n 0, 1) := by decide +kernel
theorem dX12_griddle_124 : decode cX12_griddle 124 = .ok (.getfield 76, 3) := by decide +kernel
theorem dX12_griddle_127 : decode cX12_griddle 127 = .ok (.sipush 1100, 3) := by decide +kernel
theorem dX12_griddle_130 : decode cX12_griddle 130 = .ok (.iload_n 1, 1) := by decide +kernel
theorem dX12_griddle_131 : decode cX12_griddle 131 = .ok (.iadd, 1) := by decide +kernel
theorem dX12_griddle_132 : decode cX12_griddle 132 = .ok (.iaload, 1) := by decide +kernel
theorem dX12_griddle_133 : decode cX12_griddle 133 = .ok (.iastore, 1) := by decide +kernel
theorem dX12_griddle_134 : decode cX12_griddle 134 = .ok (.iinc 1 1, 3) := by decide +kernel
theorem dX12_griddle_137 : decode cX12_griddle 137 = .ok (.goto (-27), 3) := by decide +kernel
theorem dX12_griddle_140 : decode cX12_griddle 140 = .ok (.iconst 0, 1) := by decide +kernel
theorem dX12_griddle_141 : decode cX12_griddle 141 = .ok (.istore_n 1, 1) := by decide +kernel
theorem dX12_griddle_142 : decode cX12_griddle 142 = .ok (.iload_n 1, 1) := by decide +kernel
theorem dX12_griddle_143 : decode cX12_griddle 143 = .ok (.iconst 5, 1) := by decide +kernel
theorem dX12_griddle_144 : decode cX12_griddle 144 = .ok (.if_icmp .ge 23, 3) := by decide +kernel
theorem dX12_griddle_147 : decode cX12_griddle 147 = .ok (.aload_n 0, 1) := by decide +kernel
theorem dX12_griddle_148 : decode cX12_griddle 148 = .ok (.getfield 79, 3) := by decide +kernel
theorem dX12_griddle_151 : decode cX12_griddle 151 = .ok (.iload_n 1, 1) := by decide +kernel
theorem dX12_griddle_152 : decode cX12_griddle 152 = .ok (.aload_n 0, 1) := by decide +kernel
theorem dX12_griddle_153 : decode cX12_griddle 153 = .ok (.getfield 79, 3) := by decide +kernel
theorem dX12_griddle_156 : decode cX12_griddle 156 = .ok (.iconst 5, 1) := by decide +kernel
theorem dX12_griddle_157 : decode cX12_griddle 157 = .ok (.iload_n 1, 1) := by decide +kernel
theorem dX12_griddle_158 : decode cX12_griddle 158 = .ok (.iadd, 1) := by decide +kernel
theorem dX12_griddle_159 : decode cX12_griddle 159 = .ok (.laload, 1) := by decide +kernel
theorem dX12_griddle_160 : decode cX12_griddle 160 = .ok (.lastore, 1) := by decide +kernel
theorem dX12_griddle_161 : decode cX12_griddle 161 = .ok (.iinc 1 1, 3) := by decide +kernel
theorem dX12_griddle_164 : decode cX12_griddle 164 = .ok (.goto (-22), 3) := by decide +kernel
theorem dX12_griddle_167 : decode cX12_griddle 167 = .ok (.aload_n 0, 1) := by decide +kernel
theorem dX12_griddle_168 : decode cX12_griddle 168 = .ok (.invokevirtual 123, 3) := by decide +kernel
theorem dX12_griddle_171 : decode cX12_griddle 171 = .ok (.iconst 0, 1) := by decide +kernel
theorem dX12_griddle_172 : decode cX12_griddle 172 = .ok (.ireturn, 1) := by decide +kernel
theorem dX12_readCake_0 : decode cX12_readCake 0 = .ok (.aload_n 0, 1) := by decide +kernel
theorem dX12_readCake_1 : decode cX12_readCake 1 = .ok (.getfield 73, 3) := by decide +kernel
theorem dX12_readCake_4 : decode cX12_readCake 4 = .ok (.bipush 20, 2) := by decide +kernel
theorem dX12_readCake_6 : decode cX12_readCake 6 = .ok (.iaload, 1) := by decide +kernel
theorem dX12_readCake_7 : decode cX12_readCake 7 = .ok (.istore_n 1, 1) := by decide +kernel
theorem dX12_readCake_8 : decode cX12_readCake 8 = .ok (.iload_n 1, 1) := by decide +kernel
theorem dX12_readCake_9 : decode cX12_readCake 9 = .ok (.iconst 5, 1) := by decide +kernel
theorem dX12_readCake_10 : decode cX12_readCake 10 = .ok (.if_icmp .ne 9, 3) := by decide +kernel
theorem dX12_readCake_13 : decode cX12_readCake 13 = .ok (.aload_n 0, 1) := by decide +kernel
theorem dX12_readCake_14 : decode cX12_readCake 14 = .ok (.iconst 5, 1) := by decide +kernel
theorem dX12_readCake_15 : decode cX12_readCake 15 = .ok (.invokevirtual 158, 3) := by decide +kernel
theorem dX12_readCake_18 : decode cX12_readCake 18 = .ok (.return_, 1) := by decide +kernel
theorem dX12_readCake_19 : decode cX12_readCake 19 = .ok (.aload_n 0, 1) := by decide +kernel
theorem dX12_readCake_20 : decode cX12_readCake 20 = .ok (.dup, 1) := by decide +kernel
theorem dX12_readCake_21 : decode cX12_readCake 21 = .ok (.getfield 149, 3) := by decide +kernel
theorem dX12_readCake_24 : decode cX12_readCake 24 = .ok (.iconst 1, 1) := by decide +kernel
theorem dX12_readCake_25 : decode cX12_readCake 25 = .ok (.iadd, 1) := by decide +kernel
theorem dX12_readCake_26 : decode cX12_readCake 26 = .ok (.putfield 149, 3) := by decide +kernel
theorem dX12_readCake_29 : decode cX12_readCake 29 = .ok (.aload_n 0, 1) := by decide +kernel
theorem dX12_readCake_30 : decode cX12_readCake 30 = .ok (.invokevirtual 186, 3) := by decide +kernel
theorem dX12_readCake_33 : decode cX12_readCake 33 = .ok (.ifCond .ne 11, 3) := by decide +kernel
theorem dX12_readCake_36 : decode cX12_readCake 36 = .ok (.aload_n 0, 1) := by decide +kernel
theorem dX12_readCake_37 : decode cX12_readCake 37 = .ok (.iconst 1, 1) := by decide +kernel
theorem dX12_readCake_38 : decode cX12_readCake 38 = .ok (.invokevirtual 158, 3) := by decide +kernel
theorem dX12_readCake_41 : decode cX12_readCake 41 = .ok (.goto 17, 3) := by decide +kernel
theorem dX12_readCake_44 : decode cX12_readCake 44 = .ok (.aload_n 0, 1) := by decide +kernel
theorem dX12_readCake_45 : decode cX12_readCake 45 = .ok (.iconst 5, 1) := by decide +kernel
theorem dX12_readCake_46 : decode cX12_readCake 46 = .ok (.iload_n 1, 1) := by decide +kernel
theorem dX12_readCake_47 : decode cX12_readCake 47 = .ok (.invokevirtual 190, 3) := by decide +kernel
theorem dX12_readCake_50 : decode cX12_readCake 50 = .ok (.ifCond .lt 8, 3) := by decide +kernel
theorem dX12_readCake_53 : decode cX12_readCake 53 = .ok (.aload_n 0, 1) := by decide +kernel
theorem dX12_readCake_54 : decode cX12_readCake 54 = .ok (.iconst 3, 1) := by decide +kernel
theorem dX12_readCake_55 : decode cX12_readCake 55 = .ok (.invokevirtual 158, 3) := by decide +kernel
theorem dX12_readCake_58 : decode cX12_readCake 58 = .ok (.aload_n 0, 1) := by decide +kernel
theorem dX12_readCake_59 : decode cX12_readCake 59 = .ok (.getfield 152, 3) := by decide +kernel
theorem dX12_readCake_62 : decode cX12_readCake 62 = .ok (.ifCond .le 4, 3) := by decide +kernel
theorem dX12_readCake_65 : decode cX12_readCake 65 = .ok (.return_, 1) := by decide +kernel
theorem dX12_readCake_66 : decode cX12_readCake 66 = .ok (.aload_n 0, 1) := by decide +kernel
theorem dX12_readCake_67 : decode cX12_readCake 67 = .ok (.getfield 79, 3) := by decide +kernel
theorem dX12_readCake_70 : decode cX12_readCake 70 = .ok (.iconst 5, 1) := by decide +kernel
theorem dX12_readCake_71 : decode cX12_readCake 71 = .ok (.iload_n 1, 1) := by decide +kernel
theorem dX12_readCake_72 : decode cX12_readCake 72 = .ok (.iadd, 1) := by decide +kernel
theorem dX12_readCake_73 : decode cX12_readCake 73 = .ok (.aload_n 0, 1) := by decide +kernel
theorem dX12_readCake_74 : decode cX12_readCake 74 = .ok (.getfield 30, 3) := by decide +kernel
theorem dX12_readCake_77 : decode cX12_readCake 77 = .ok (.aload_n 0, 1) := by decide +kernel
theorem dX12_readCake_78 : decode cX12_readCake 78 = .ok (.getfield 149, 3) := by decide +kernel
theorem dX12_readCake_81 : decode cX12_readCake 81 = .ok (.laload, 1) := by decide +kernel
theorem dX12_readCake_82 : decode cX12_readCake 82 = .ok (.lastore, 1) := by decide +kernel
theorem dX12_readCake_83 : decode cX12_readCake 83 = .ok (.aload_n 0, 1) := by decide +kernel
theorem dX12_readCake_84 : decode cX12_readCake 84 = .ok (.dup, 1) := by decide +kernel
theorem dX12_readCake_85 : decode cX12_readCake 85 = .ok (.getfield 149, 3) := by decide +kernel
theorem dX12_readCake_88 : decode cX12_readCake 88 = .ok (.iconst 1, 1) := by decide +kernel
theorem dX12_readCake_89 : decode cX12_readCake 89 = .ok (.iadd, 1) := by decide +kernel
theorem dX12_readCake_90 : decode cX12_readCake 90 = .ok (.putfield 149, 3) := by decide +kernel
theorem dX12_readCake_93 : decode cX12_readCake 93 = .ok (.bipush 23, 2) := by decide +kernel
theorem dX12_readCake_95 : decode cX12_readCake 95 = .ok (.iconst 3, 1) := by decide +kernel
theorem dX12_readCake_96 : decode cX12_readCake 96 = .ok (.iload_n 1, 1) := by decide +kernel
theorem dX12_readCake_97 : decode cX12_readCake 97 = .ok (.imul, 1) := by decide +kernel
theorem dX12_readCake_98 : decode cX12_readCake 98 = .ok (.iadd, 1) := by decide +kernel
theorem dX12_readCake_99 : decode cX12_readCake 99 = .ok (.istore_n 2, 1) := by decide +kernel
theorem dX12_readCake_100 : decode cX12_readCake 100 = .ok (.aload_n 0, 1) := by decide +kernel
theorem dX12_readCake_101 : decode cX12_readCake 101 = .ok (.bipush 7, 2) := by decide +kernel
theorem dX12_readCake_103 : decode cX12_readCake 103 = .ok (.iconst 4, 1) := by decide +kernel
theorem dX12_readCake_104 : decode cX12_readCake 104 = .ok (.invokevirtual 193, 3) := by decide +kernel
theorem dX12_readCake_107 : decode cX12_readCake 107 = .ok (.istore_n 3, 1) := by decide +kernel
theorem dX12_readCake_108 : decode cX12_readCake 108 = .ok (.aload_n 0, 1) := by decide +kernel
theorem dX12_readCake_109 : decode cX12_readCake 109 = .ok (.iconst 1, 1) := by decide +kernel
theorem dX12_readCake_110 : decode cX12_readCake 110 = .ok (.invokevirtual 196, 3) := by decide +kernel
theorem dX12_readCake_113 : decode cX12_readCake 113 = .ok (.aload_n 0, 1) := by decide +kernel
theorem dX12_readCake_114 : decode cX12_readCake 114 = .ok (.iconst 1, 1) := by decide +kernel
theorem dX12_readCake_115 : decode cX12_readCake 115 = .ok (.bipush 30, 2) := by decide +kernel
theorem dX12_readCake_117 : decode cX12_readCake 117 = .ok (.invokevirtual 199, 3) := by decide +kernel
theorem dX12_readCake_120 : decode cX12_readCake 120 = .ok (.istore 4, 2) := by decide +kernel
theorem dX12_readCake_122 : decode cX12_readCake 122 = .ok (.iconst 0, 1) := by decide +kernel
theorem dX12_readCake_123 : decode cX12_readCake 123 = .ok (.istore 5, 2) := by decide +kernel
theorem dX12_readCake_125 : decode cX12_readCake 125 = .ok (.iload 5, 2) := by decide +kernel
theorem dX12_readCake_127 : decode cX12_readCake 127 = .ok (.iload_n 1, 1) := by decide +kernel
theorem dX12_readCake_128 : decode cX12_readCake 128 = .ok (.if_icmp .ge 50, 3) := by decide +kernel
theorem dX12_readCake_131 : decode cX12_readCake 131 = .ok (.aload_n 0, 1) := by decide +kernel
theorem dX12_readCake_132 : decode cX12_readCake 132 = .ok (.getfield 152, 3) := by decide +kernel
theorem dX12_readCake_135 : decode cX12_readCake 135 = .ok (.ifCond .ne 43, 3) := by decide +kernel
theorem dX12_readCake_138 : decode cX12_readCake 138 = .ok (.aload_n 0, 1) := by decide +kernel
theorem dX12_readCake_139 : decode cX12_readCake 139 = .ok (.getfield 73, 3) := by decide +kernel
theorem dX12_readCake_142 : decode cX12_readCake 142 = .ok (.bipush 23, 2) := by decide +kernel
theorem dX12_readCake_144 : decode cX12_readCake 144 = .ok (.iconst 3, 1) := by decide +kernel
theorem dX12_readCake_145 : decode cX12_readCake 145 = .ok (.iload 5, 2) := by decide +kernel
theorem dX12_readCake_147 : decode cX12_readCake 147 = .ok (.imul, 1) := by decide +kernel
theorem dX12_readCake_148 : decode cX12_readCake 148 = .ok (.iadd, 1) := by decide +kernel
theorem dX12_readCake_149 : decode cX12_readCake 149 = .ok (.iconst 1, 1) := by decide +kernel
theorem dX12_readCake_150 : decode cX12_readCake 150 = .ok (.iadd, 1) := by decide +kernel
theorem dX12_readCake_151 : decode cX12_readCake 151 = .ok (.iaload, 1) := by decide +kernel
theorem dX12_readCake_152 : decode cX12_readCake 152 = .ok (.iload 4, 2) := by decide +kernel
theorem dX12_readCake_154 : decode cX12_readCake 154 = .ok (.if_icmp .ne 18, 3) := by decide +kernel
theorem dX12_readCake_157 : decode cX12_readCake 157 = .ok (.aload_n 0, 1) := by decide +kernel
theorem dX12_readCake_158 : decode cX12_readCake 158 = .ok (.dup, 1) := by decide +kernel
theorem dX12_readCake_159 : decode cX12_readCake 159 = .ok (.getfield 149, 3) := by decide +kernel
theorem dX12_readCake_162 : decode cX12_readCake 162 = .ok (.iconst 1, 1) := by decide +kernel
theorem dX12_readCake_163 : decode cX12_readCake 163 = .ok (.isub, 1) := by decide +kernel
theorem dX12_readCake_164 : decode cX12_readCake 164 = .ok (.putfield 149, 3) := by decide +kernel
theorem dX12_readCake_167 : decode cX12_readCake 167 = .ok (.aload_n 0, 1) := by decide +kernel
theorem dX12_readCake_168 : decode cX12_readCake 168 = .ok (.iconst 3, 1) := by decide +kernel
theorem dX12_readCake_169 : decode cX12_readCake 169 = .ok (.invokevirtual 158, 3) := by decide +kernel
theorem dX12_readCake_172 : decode cX12_readCake 172 = .ok (.iinc 5 1, 3) := by decide +kernel
theorem dX12_readCake_175 : decode cX12_readCake 175 = .ok (.goto (-50), 3) := by decide +kernel
theorem dX12_readCake_178 : decode cX12_readCake 178 = .ok (.aload_n 0, 1) := by decide +kernel
theorem dX12_readCake_179 : decode cX12_readCake 179 = .ok (.iconst 2, 1) := by decide +kernel
theorem dX12_readCake_180 : decode cX12_readCake 180 = .ok (.iconst 2, 1) := by decide +kernel
theorem dX12_readCake_181 : decode cX12_readCake 181 = .ok (.invokevirtual 193, 3) := by decide +kernel
theorem dX12_readCake_184 : decode cX12_readCake 184 = .ok (.istore 5, 2) := by decide +kernel
theorem dX12_readCake_186 : decode cX12_readCake 186 = .ok (.aload_n 0, 1) := by decide +kernel
theorem dX12_readCake_187 : decode cX12_readCake 187 = .ok (.getfield 152, 3) := by decide +kernel
theorem dX12_readCake_190 : decode cX12_readCake 190 = .ok (.ifCond .ne 49, 3) := by decide +kernel
theorem dX12_readCake_193 : decode cX12_readCake 193 = .ok (.aload_n 0, 1) := by decide +kernel
theorem dX12_readCake_194 : decode cX12_readCake 194 = .ok (.getfield 73, 3) := by decide +kernel
theorem dX12_readCake_197 : decode cX12_readCake 197 = .ok (.iload_n 2, 1) := by decide +kernel
theorem dX12_readCake_198 : decode cX12_readCake 198 = .ok (.iload_n 3, 1) := by decide +kernel
theorem dX12_readCake_199 : decode cX12_readCake 199 = .ok (.iastore, 1) := by decide +kernel
theorem dX12_readCake_200 : decode cX12_readCake 200 = .ok (.aload_n 0, 1) := by decide +kernel
theorem dX12_readCake_201 : decode cX12_readCake 201 = .ok (.getfield 73, 3) := by decide +kernel
theorem dX12_readCake_204 : decode cX12_readCake 204 = .ok (.iload_n 2, 1) := by decide +kernel
theorem dX12_readCake_205 : decode cX12_readCake 205 = .ok (.iconst 1, 1) := by decide +kernel
theorem dX12_readCake_206 : decode cX12_readCake 206 = .ok (.iadd, 1) := by decide +kernel
theorem dX12_readCake_207 : decode cX12_readCake 207 = .ok (.iload 4, 2) := by decide +kernel
theorem dX12_readCake_209 : decode cX12_readCake 209 = .ok (.iastore, 1) := by decide +kernel
theorem dX12_readCake_210 : decode cX12_readCake 210 = .ok (.aload_n 0, 1) := by decide +kernel
theorem dX12_readCake_211 : decode cX12_readCake 211 = .ok (.getfield 73, 3) := by decide +kernel
theorem dX12_readCake_214 : decode cX12_readCake 214 = .ok (.iload_n 2, 1) := by decide +kernel
theorem dX12_readCake_215 : decode cX12_readCake 215 = .ok (.iconst 2, 1) := by decide +kernel
theorem dX12_readCake_216 : decode cX12_readCake 216 = .ok (.iadd, 1) := by decide +kernel
theorem dX12_readCake_217 : decode cX12_readCake 217 = .ok (.iload 5, 2) := by decide +kernel
theorem dX12_readCake_219 : decode cX12_readCake 219 = .ok (.ifCond .ne 7, 3) := by decide +kernel
theorem dX12_readCake_222 : decode cX12_readCake 222 = .ok (.iconst 1, 1) := by decide +kernel
theorem dX12_readCake_223 : decode cX12_readCake 223 = .ok (.goto 4, 3) := by decide +kernel
theorem dX12_readCake_226 : decode cX12_readCake 226 = .ok (.iconst 0, 1) := by decide +kernel
theorem dX12_readCake_227 : decode cX12_readCake 227 = .ok (.iastore, 1) := by decide +kernel
theorem dX12_readCake_228 : decode cX12_readCake 228 = .ok (.aload_n 0, 1) := by decide +kernel
theorem dX12_readCake_229 : decode cX12_readCake 229 = .ok (.getfield 73, 3) := by decide +kernel
theorem dX12_readCake_232 : decode cX12_readCake 232 = .ok (.bipush 20, 2) := by decide +kernel
theorem dX12_readCake_234 : decode cX12_readCake 234 = .ok (.dup2, 1) := by decide +kernel
theorem dX12_readCake_235 : decode cX12_readCake 235 = .ok (.iaload, 1) := by decide +kernel
theorem dX12_readCake_236 : decode cX12_readCake 236 = .ok (.iconst 1, 1) := by decide +kernel
theorem dX12_readCake_237 : decode cX12_readCake 237 = .ok (.iadd, 1) := by decide +kernel
theorem dX12_readCake_238 : decode cX12_readCake 238 = .ok (.iastore, 1) := by decide +kernel
theorem dX12_readCake_239 : decode cX12_readCake 239 = .ok (.return_, 1) := by decide +kernel
theorem dX12_readLaw_0 : decode cX12_readLaw 0 = .ok (.aload_n 0, 1) := by decide +kernel
theorem dX12_readLaw_1 : decode cX12_readLaw 1 = .ok (.iconst 4, 1) := by decide +kernel
theorem dX12_readLaw_2 : decode cX12_readLaw 2 = .ok (.iconst 2, 1) := by decide +kernel
theorem dX12_readLaw_3 : decode cX12_readLaw 3 = .ok (.invokevirtual 167, 3) := by decide +kernel
theorem dX12_readLaw_6 : decode cX12_readLaw 6 = .ok (.istore_n 1, 1) := by decide +kernel
theorem dX12_readLaw_7 : decode cX12_readLaw 7 = .ok (.iload_n 1, 1) := by decide +kernel
theorem dX12_readLaw_8 : decode cX12_readLaw 8 = .ok (.ifCond .ge 11, 3) := by decide +kernel
theorem dX12_readLaw_11 : decode cX12_readLaw 11 = .ok (.aload_n 0, 1) := by decide +kernel
theorem dX12_readLaw_12 : decode cX12_readLaw 12 = .ok (.iconst 1, 1) := by decide +kernel
theorem dX12_readLaw_13 : decode cX12_readLaw 13 = .ok (.invokevirtual 158, 3) := by decide +kernel
theorem dX12_readLaw_16 : decode cX12_readLaw 16 = .ok (.goto 20, 3) := by decide +kernel
theorem dX12_readLaw_19 : decode cX12_readLaw 19 = .ok (.aload_n 0, 1) := by decide +kernel
theorem dX12_readLaw_20 : decode cX12_readLaw 20 = .ok (.getfield 73, 3) := by decide +kernel
theorem dX12_readLaw_23 : decode cX12_readLaw 23 = .ok (.bipush 21, 2) := by decide +kernel
theorem dX12_readLaw_25 : decode cX12_readLaw 25 = .ok (.iload_n 1, 1) := by decide +kernel
theorem dX12_readLaw_26 : decode cX12_readLaw 26 = .ok (.iadd, 1) := by decide +kernel
theorem dX12_readLaw_27 : decode cX12_readLaw 27 = .ok (.iaload, 1) := by decide +kernel
theorem dX12_readLaw_28 : decode cX12_readLaw 28 = .ok (.ifCond .lt 8, 3) := by decide +kernel
theorem dX12_readLaw_31 : decode cX12_readLaw 31 = .ok (.aload_n 0, 1) := by decide +kernel
theorem dX12_readLaw_32 : decode cX12_readLaw 32 = .ok (.iconst 3, 1) := by decide +kernel
theorem dX12_readLaw_33 : decode cX12_readLaw 33 = .ok (.invokevirtual 158, 3) := by decide +kernel
theorem dX12_readLaw_36 : decode cX12_readLaw 36 = .ok (.aload_n 0, 1) := by decide +kernel
theorem dX12_readLaw_37 : decode cX12_readLaw 37 = .ok (.getfield 152, 3) := by decide +kernel
theorem dX12_readLaw_40 : decode cX12_readLaw 40 = .ok (.ifCond .le 4, 3) := by decide +kernel
theorem dX12_readLaw_43 : decode cX12_readLaw 43 = .ok (.return_, 1) := by decide +kernel
theorem dX12_readLaw_44 : decode cX12_readLaw 44 = .ok (.aload_n 0, 1) := by decide +kernel
theorem dX12_readLaw_45 : decode cX12_readLaw 45 = .ok (.dup, 1) := by decide +kernel
theorem dX12_readLaw_46 : decode cX12_readLaw 46 = .ok (.getfield 149, 3) := by decide +kernel
theorem dX12_readLaw_49 : decode cX12_readLaw 49 = .ok (.iconst 1, 1) := by decide +kernel
theorem dX12_readLaw_50 : decode cX12_readLaw 50 = .ok (.iadd, 1) := by decide +kernel
theorem dX12_readLaw_51 : decode cX12_readLaw 51 = .ok (.putfield 149, 3) := by decide +kernel
theorem dX12_readLaw_54 : decode cX12_readLaw 54 = .ok (.aload_n 0, 1) := by decide +kernel
theorem dX12_readLaw_55 : decode cX12_readLaw 55 = .ok (.getfield 73, 3) := by decide +kernel
theorem dX12_readLaw_58 : decode cX12_readLaw 58 = .ok (.bipush 21, 2) := by decide +kernel
theorem dX12_readLaw_60 : decode cX12_readLaw 60 = .ok (.iload_n 1, 1) := by decide +kernel
theorem dX12_readLaw_61 : decode cX12_readLaw 61 = .ok (.iadd, 1) := by decide +kernel
theorem dX12_readLaw_62 : decode cX12_readLaw 62 = .ok (.aload_n 0, 1) := by decide +kernel
theorem dX12_readLaw_63 : decode cX12_readLaw 63 = .ok (.getfield 174, 3) := by decide +kernel
theorem dX12_readLaw_66 : decode cX12_readLaw 66 = .ok (.iastore, 1) := by decide +kernel
theorem dX12_readLaw_67 : decode cX12_readLaw 67 = .ok (.aload_n 0, 1) := by decide +kernel
theorem dX12_readLaw_68 : decode cX12_readLaw 68 = .ok (.iconst 0, 1) := by decide +kernel
theorem dX12_readLaw_69 : decode cX12_readLaw 69 = .ok (.invokevirtual 202, 3) := by decide +kernel
theorem dX12_readLaw_72 : decode cX12_readLaw 72 = .ok (.aload_n 0, 1) := by decide +kernel
theorem dX12_readLaw_73 : decode cX12_readLaw 73 = .ok (.iconst 0, 1) := by decide +kernel
theorem dX12_readLaw_74 : decode cX12_readLaw 74 = .ok (.iconst 0, 1) := by decide +kernel
theorem dX12_readLaw_75 : decode cX12_readLaw 75 = .ok (.invokevirtual 205, 3) := by decide +kernel
theorem dX12_readLaw_78 : decode cX12_readLaw 78 = .ok (.return_, 1) := by decide +kernel
theorem dX12_plan_0 : decode cX12_plan 0 = .ok (.aload_n 0, 1) := by decide +kernel
theorem dX12_plan_1 : decode cX12_plan 1 = .ok (.iconst 0, 1) := by decide +kernel
theorem dX12_plan_2 : decode cX12_plan 2 = .ok (.putfield 1, 3) := by decide +kernel
theorem dX12_plan_5 : decode cX12_plan 5 = .ok (.aload_n 0, 1) := by decide +kernel
theorem dX12_plan_6 : decode cX12_plan 6 = .ok (.invokevirtual 171, 3) := by decide +kernel
theorem dX12_plan_9 : decode cX12_plan 9 = .ok (.iconst 0, 1) := by decide +kernel
theorem dX12_plan_10 : decode cX12_plan 10 = .ok (.istore_n 1, 1) := by decide +kernel
theorem dX12_plan_11 : decode cX12_plan 11 = .ok (.aload_n 0, 1) := by decide +kernel
theorem dX12_plan_12 : decode cX12_plan 12 = .ok (.getfield 152, 3) := by decide +kernel
theorem dX12_plan_15 : decode cX12_plan 15 = .ok (.ifCond .ne 86, 3) := by decide +kernel
theorem dX12_plan_18 : decode cX12_plan 18 = .ok (.aload_n 0, 1) := by decide +kernel
theorem dX12_plan_19 : decode cX12_plan 19 = .ok (.getfield 24, 3) := by decide +kernel
theorem dX12_plan_22 : decode cX12_plan 22 = .ok (.aload_n 0, 1) := by decide +kernel
theorem dX12_plan_23 : decode cX12_plan 23 = .ok (.getfield 149, 3) := by decide +kernel
theorem dX12_plan_26 : decode cX12_plan 26 = .ok (.iaload, 1) := by decide +kernel
theorem dX12_plan_27 : decode cX12_plan 27 = .ok (.ifCond .eq 74, 3) := by decide +kernel
theorem dX12_plan_30 : decode cX12_plan 30 = .ok (.aload_n 0, 1) := by decide +kernel
theorem dX12_plan_31 : decode cX12_plan 31 = .ok (.bipush 6, 2) := by decide +kernel
theorem dX12_plan_33 : decode cX12_plan 33 = .ok (.invokevirtual 161, 3) := by decide +kernel
theorem dX12_plan_36 : decode cX12_plan 36 = .ok (.ifCond .ne 11, 3) := by decide +kernel
theorem dX12_plan_39 : decode cX12_plan 39 = .ok (.aload_n 0, 1) := by decide +kernel
theorem dX12_plan_40 : decode cX12_plan 40 = .ok (.iconst 1, 1) := by decide +kernel
theorem dX12_plan_41 : decode cX12_plan 41 = .ok (.invokevirtual 158, 3) := by decide +kernel
theorem dX12_plan_44 : decode cX12_plan 44 = .ok (.goto 48, 3) := by decide +kernel
theorem dX12_plan_47 : decode cX12_plan 47 = .ok (.iload_n 1, 1) := by decide +kernel
theorem dX12_plan_48 : decode cX12_plan 48 = .ok (.bipush 40, 2) := by decide +kernel
theorem dX12_plan_50 : decode cX12_plan 50 = .ok (.if_icmp .ne 11, 3) := by decide +kernel
theorem dX12_plan_53 : decode cX12_plan 53 = .ok (.aload_n 0, 1) := by decide +kernel
theorem dX12_plan_54 : decode cX12_plan 54 = .ok (.iconst 5, 1) := by decide +kernel
theorem dX12_plan_55 : decode cX12_plan 55 = .ok (.invokevirtual 158, 3) := by decide +kernel
theorem dX12_plan_58 : decode cX12_plan 58 = .ok (.goto 34, 3) := by decide +kernel
theorem dX12_plan_61 : decode cX12_plan 61 = .ok (.aload_n 0, 1) := by decide +kernel
theorem dX12_plan_62 : decode cX12_plan 62 = .ok (.dup, 1) := by decide +kernel
theorem dX12_plan_63 : decode cX12_plan 63 = .ok (.getfield 149, 3) := by decide +kernel
theorem dX12_plan_66 : decode cX12_plan 66 = .ok (.iconst 1, 1) := by decide +kernel
theorem dX12_plan_67 : decode cX12_plan 67 = .ok (.iadd, 1) := by decide +kernel
theorem dX12_plan_68 : decode cX12_plan 68 = .ok (.putfield 149, 3) := by decide +kernel
theorem dX12_plan_71 : decode cX12_plan 71 = .ok (.aload_n 0, 1) := by decide +kernel
theorem dX12_plan_72 : decode cX12_plan 72 = .ok (.getfield 82, 3) := by decide +kernel
theorem dX12_plan_75 : decode cX12_plan 75 = .ok (.bipush 41, 2) := by decide +kernel
theorem dX12_plan_77 : decode cX12_plan 77 = .ok (.iload_n 1, 1) := by decide +kernel
theorem dX12_plan_78 : decode cX12_plan 78 = .ok (.iadd, 1) := by decide +kernel
theorem dX12_plan_79 : decode cX12_plan 79 = .ok (.aload_n 0, 1) := by decide +kernel
theorem dX12_plan_80 : decode cX12_plan 80 = .ok (.iconst 1, 1) := by decide +kernel
theorem dX12_plan_81 : decode cX12_plan 81 = .ok (.aload_n 0, 1) := by decide +kernel
theorem dX12_plan_82 : decode cX12_plan 82 = .ok (.invokevirtual 209, 3) := by decide +kernel
theorem dX12_plan_85 : decode cX12_plan 85 = .ok (.invokevirtual 199, 3) := by decide +kernel
theorem dX12_plan_88 : decode cX12_plan 88 = .ok (.iastore, 1) := by decide +kernel
theorem dX12_plan_89 : decode cX12_plan 89 = .ok (.iinc 1 1, 3) := by decide +kernel
theorem dX12_plan_92 : decode cX12_plan 92 = .ok (.aload_n 0, 1) := by decide +kernel
theorem dX12_plan_93 : decode cX12_plan 93 = .ok (.bipush 59, 2) := by decide +kernel
theorem dX12_plan_95 : decode cX12_plan 95 = .ok (.invokevirtual 183, 3) := by decide +kernel
theorem dX12_plan_98 : decode cX12_plan 98 = .ok (.goto (-87), 3) := by decide +kernel
theorem dX12_plan_101 : decode cX12_plan 101 = .ok (.aload_n 0, 1) := by decide +kernel
theorem dX12_plan_102 : decode cX12_plan 102 = .ok (.getfield 152, 3) := by decide +kernel
theorem dX12_plan_105 : decode cX12_plan 105 = .ok (.ifCond .le 8, 3) := by decide +kernel
theorem dX12_plan_108 : decode cX12_plan 108 = .ok (.aload_n 0, 1) := by decide +kernel
theorem dX12_plan_109 : decode cX12_plan 109 = .ok (.getfield 152, 3) := by decide +kernel
theorem dX12_plan_112 : decode cX12_plan 112 = .ok (.ireturn, 1) := by decide +kernel
theorem dX12_plan_113 : decode cX12_plan 113 = .ok (.aload_n 0, 1) := by decide +kernel
theorem dX12_plan_114 : decode cX12_plan 114 = .ok (.getfield 82, 3) := by decide +kernel
theorem dX12_plan_117 : decode cX12_plan 117 = .ok (.iconst 0, 1) := by decide +kernel
theorem dX12_plan_118 : decode cX12_plan 118 = .ok (.iload_n 1, 1) := by decide +kernel
theorem dX12_plan_119 : decode cX12_plan 119 = .ok (.iastore, 1) := by decide +kernel
theorem dX12_plan_120 : decode cX12_plan 120 = .ok (.iconst 0, 1) := by decide +kernel
theorem dX12_plan_121 : decode cX12_plan 121 = .ok (.istore_n 2, 1) := by decide +kernel
theorem dX12_plan_122 : decode cX12_plan 122 = .ok (.iload_n 2, 1) := by decide +kernel
theorem dX12_plan_123 : decode cX12_plan 123 = .ok (.iload_n 1, 1) := by decide +kernel
theorem dX12_plan_124 : decode cX12_plan 124 = .ok (.if_icmp .ge 26, 3) := by decide +kernel
theorem dX12_plan_127 : decode cX12_plan 127 = .ok (.aload_n 0, 1) := by decide +kernel
theorem dX12_plan_128 : decode cX12_plan 128 = .ok (.getfield 82, 3) := by decide +kernel
theorem dX12_plan_131 : decode cX12_plan 131 = .ok (.iconst 1, 1) := by decide +kernel
theorem dX12_plan_132 : decode cX12_plan 132 = .ok (.iload_n 2, 1) := by decide +kernel
theorem dX12_plan_133 : decode cX12_plan 133 = .ok (.iadd, 1) := by decide +kernel
theorem dX12_plan_134 : decode cX12_plan 134 = .ok (.aload_n 0, 1) := by decide +kernel
theorem dX12_plan_135 : decode cX12_plan 135 = .ok (.getfield 82, 3) := by decide +kernel
theorem dX12_plan_138 : decode cX12_plan 138 = .ok (.bipush 41, 2) := by decide +kernel
theorem dX12_plan_140 : decode cX12_plan 140 = .ok (.iload_n 2, 1) := by decide +kernel
theorem dX12_plan_141 : decode cX12_plan 141 = .ok (.iadd, 1) := by decide +kernel
theorem dX12_plan_142 : decode cX12_plan 142 = .ok (.iaload, 1) := by decide +kernel
theorem dX12_plan_143 : decode cX12_plan 143 = .ok (.iastore, 1) := by decide +kernel
theorem dX12_plan_144 : decode cX12_plan 144 = .ok (.iinc 2 1, 3) := by decide +kernel
theorem dX12_plan_147 : decode cX12_plan 147 = .ok (.goto (-25), 3) := by decide +kernel
theorem dX12_plan_150 : decode cX12_plan 150 = .ok (.iconst 0, 1) := by decide +kernel
theorem dX12_plan_151 : decode cX12_plan 151 = .ok (.ireturn, 1) := by decide +kernel
theorem dX12_wish_0 : decode cX12_wish 0 = .ok (.aload_n 0, 1) := by decide +kernel
theorem dX12_wish_1 : decode cX12_wish 1 = .ok (.iconst 0, 1) := by decide +kernel
theorem dX12_wish_2 : decode cX12_wish 2 = .ok (.putfield 1, 3) := by decide +kernel
theorem dX12_wish_5 : decode cX12_wish 5 = .ok (.aload_n 0, 1) := by decide +kernel
theorem dX12_wish_6 : decode cX12_wish 6 = .ok (.invokevirtual 171, 3) := by decide +kernel
theorem dX12_wish_9 : decode cX12_wish 9 = .ok (.iconst 0, 1) := by decide +kernel
theorem dX12_wish_10 : decode cX12_wish 10 = .ok (.istore_n 1, 1) := by decide +kernel
theorem dX12_wish_11 : decode cX12_wish 11 = .ok (.iconst 0, 1) := by decide +kernel
theorem dX12_wish_12 : decode cX12_wish 12 = .ok (.istore_n 2, 1) := by decide +kernel
theorem dX12_wish_13 : decode cX12_wish 13 = .ok (.iload_n 2, 1) := by decide +kernel
theorem dX12_wish_14 : decode cX12_wish 14 = .ok (.aload_n 0, 1) := by decide +kernel
theorem dX12_wish_15 : decode cX12_wish 15 = .ok (.invokevirtual 209, 3) := by decide +kernel
theorem dX12_wish_18 : decode cX12_wish 18 = .ok (.if_icmp .ge 143, 3) := by decide +kernel
theorem dX12_wish_21 : decode cX12_wish 21 = .ok (.aload_n 0, 1) := by decide +kernel
theorem dX12_wish_22 : decode cX12_wish 22 = .ok (.getfield 152, 3) := by decide +kernel
theorem dX12_wish_25 : decode cX12_wish 25 = .ok (.ifCond .ne 136, 3) := by decide +kernel
theorem dX12_wish_28 : decode cX12_wish 28 = .ok (.aload_n 0, 1) := by decide +kernel
theorem dX12_wish_29 : decode cX12_wish 29 = .ok (.invokevirtual 186, 3) := by decide +kernel
theorem dX12_wish_32 : decode cX12_wish 32 = .ok (.ifCond .ne 8, 3) := by decide +kernel
theorem dX12_wish_35 : decode cX12_wish 35 = .ok (.aload_n 0, 1) := by decide +kernel
theorem dX12_wish_36 : decode cX12_wish 36 = .ok (.iconst 1, 1) := by decide +kernel
theorem dX12_wish_37 : decode cX12_wish 37 = .ok (.invokevirtual 158, 3) := by decide +kernel
theorem dX12_wish_40 : decode cX12_wish 40 = .ok (.aload_n 0, 1) := by decide +kernel
theorem dX12_wish_41 : decode cX12_wish 41 = .ok (.getfield 152, 3) := by decide +kernel
theorem dX12_wish_44 : decode cX12_wish 44 = .ok (.ifCond .le 7, 3) := by decide +kernel
theorem dX12_wish_47 : decode cX12_wish 47 = .ok (.iconst (-1), 1) := by decide +kernel
theorem dX12_wish_48 : decode cX12_wish 48 = .ok (.goto 12, 3) := by decide +kernel
theorem dX12_wish_51 : decode cX12_wish 51 = .ok (.aload_n 0, 1) := by decide +kernel
theorem dX12_wish_52 : decode cX12_wish 52 = .ok (.iconst 0, 1) := by decide +kernel
theorem dX12_wish_53 : decode cX12_wish 53 = .ok (.aload_n 0, 1) := by decide +kernel
theorem dX12_wish_54 : decode cX12_wish 54 = .ok (.invokevirtual 209, 3) := by decide +kernel
theorem dX12_wish_57 : decode cX12_wish 57 = .ok (.invokevirtual 190, 3) := by decide +kernel
theorem dX12_wish_60 : decode cX12_wish 60 = .ok (.istore_n 3, 1) := by decide +kernel
theorem dX12_wish_61 : decode cX12_wish 61 = .ok (.aload_n 0, 1) := by decide +kernel
theorem dX12_wish_62 : decode cX12_wish 62 = .ok (.getfield 152, 3) := by decide +kernel
theorem dX12_wish_65 : decode cX12_wish 65 = .ok (.ifCond .ne 15, 3) := by decide +kernel
theorem dX12_wish_68 : decode cX12_wish 68 = .ok (.iload_n 3, 1) := by decide +kernel
theorem dX12_wish_69 : decode cX12_wish 69 = .ok (.ifCond .ge 11, 3) := by decide +kernel
theorem dX12_wish_72 : decode cX12_wish 72 = .ok (.aload_n 0, 1) := by decide +kernel
theorem dX12_wish_73 : decode cX12_wish 73 = .ok (.iconst 2, 1) := by decide +kernel
theorem dX12_wish_74 : decode cX12_wish 74 = .ok (.invokevirtual 158, 3) := by decide +kernel
theorem dX12_wish_77 : decode cX12_wish 77 = .ok (.goto 24, 3) := by decide +kernel
theorem dX12_wish_80 : decode cX12_wish 80 = .ok (.aload_n 0, 1) := by decide +kernel
theorem dX12_wish_81 : decode cX12_wish 81 = .ok (.getfield 152, 3) := by decide +kernel
theorem dX12_wish_84 : decode cX12_wish 84 = .ok (.ifCond .ne 17, 3) := by decide +kernel
theorem dX12_wish_87 : decode cX12_wish 87 = .ok (.iload_n 1, 1) := by decide +kernel
theorem dX12_wish_88 : decode cX12_wish 88 = .ok (.iload_n 3, 1) := by decide +kernel
theorem dX12_wish_89 : decode cX12_wish 89 = .ok (.ishr, 1) := by decide +kernel
theorem dX12_wish_90 : decode cX12_wish 90 = .ok (.iconst 1, 1) := by decide +kernel
theorem dX12_wish_91 : decode cX12_wish 91 = .ok (.iand, 1) := by decide +kernel
theorem dX12_wish_92 : decode cX12_wish 92 = .ok (.iconst 1, 1) := by decide +kernel
theorem dX12_wish_93 : decode cX12_wish 93 = .ok (.if_icmp .ne 8, 3) := by decide +kernel
theorem dX12_wish_96 : decode cX12_wish 96 = .ok (.aload_n 0, 1) := by decide +kernel
theorem dX12_wish_97 : decode cX12_wish 97 = .ok (.iconst 3, 1) := by decide +kernel
theorem dX12_wish_98 : decode cX12_wish 98 = .ok (.invokevirtual 158, 3) := by decide +kernel
theorem dX12_wish_101 : decode cX12_wish 101 = .ok (.aload_n 0, 1) := by decide +kernel
theorem dX12_wish_102 : decode cX12_wish 102 = .ok (.getfield 152, 3) := by decide +kernel
theorem dX12_wish_105 : decode cX12_wish 105 = .ok (.ifCond .ne 50, 3) := by decide +kernel
theorem dX12_wish_108 : decode cX12_wish 108 = .ok (.aload_n 0, 1) := by decide +kernel
theorem dX12_wish_109 : decode cX12_wish 109 = .ok (.dup, 1) := by decide +kernel
theorem dX12_wish_110 : decode cX12_wish 110 = .ok (.getfield 149, 3) := by decide +kernel
theorem dX12_wish_113 : decode cX12_wish 113 = .ok (.iconst 1, 1) := by decide +kernel
theorem dX12_wish_114 : decode cX12_wish 114 = .ok (.iadd, 1) := by decide +kernel
theorem dX12_wish_115 : decode cX12_wish 115 = .ok (.putfield 149, 3) := by decide +kernel
theorem dX12_wish_118 : decode cX12_wish 118 = .ok (.iload_n 1, 1) := by decide +kernel
theorem dX12_wish_119 : decode cX12_wish 119 = .ok (.iconst 1, 1) := by decide +kernel
theorem dX12_wish_120 : decode cX12_wish 120 = .ok (.iload_n 3, 1) := by decide +kernel
theorem dX12_wish_121 : decode cX12_wish 121 = .ok (.ishl, 1) := by decide +kernel
theorem dX12_wish_122 : decode cX12_wish 122 = .ok (.ior, 1) := by decide +kernel
theorem dX12_wish_123 : decode cX12_wish 123 = .ok (.istore_n 1, 1) := by decide +kernel
theorem dX12_wish_124 : decode cX12_wish 124 = .ok (.aload_n 0, 1) := by decide +kernel
theorem dX12_wish_125 : decode cX12_wish 125 = .ok (.getfield 85, 3) := by decide +kernel
theorem dX12_wish_128 : decode cX12_wish 128 = .ok (.bipush 10, 2) := by decide +kernel
theorem dX12_wish_130 : decode cX12_wish 130 = .ok (.iconst 2, 1) := by decide +kernel
theorem dX12_wish_131 : decode cX12_wish 131 = .ok (.iload_n 2, 1) := by decide +kernel
theorem dX12_wish_132 : decode cX12_wish 132 = .ok (.imul, 1) := by decide +kernel
theorem dX12_wish_133 : decode cX12_wish 133 = .ok (.iadd, 1) := by decide +kernel
theorem dX12_wish_134 : decode cX12_wish 134 = .ok (.iload_n 3, 1) := by decide +kernel
theorem dX12_wish_135 : decode cX12_wish 135 = .ok (.iastore, 1) := by decide +kernel
theorem dX12_wish_136 : decode cX12_wish 136 = .ok (.aload_n 0, 1) := by decide +kernel
theorem dX12_wish_137 : decode cX12_wish 137 = .ok (.getfield 85, 3) := by decide +kernel
theorem dX12_wish_140 : decode cX12_wish 140 = .ok (.bipush 11, 2) := by decide +kernel
theorem dX12_wish_142 : decode cX12_wish 142 = .ok (.iconst 2, 1) := by decide +kernel
theorem dX12_wish_143 : decode cX12_wish 143 = .ok (.iload_n 2, 1) := by decide +kernel
theorem dX12_wish_144 : decode cX12_wish 144 = .ok (.imul, 1) := by decide +kernel
theorem dX12_wish_145 : decode cX12_wish 145 = .ok (.iadd, 1) := by decide +kernel
theorem dX12_wish_146 : decode cX12_wish 146 = .ok (.iconst 1, 1) := by decide +kernel
theorem dX12_wish_147 : decode cX12_wish 147 = .ok (.aload_n 0, 1) := by decide +kernel
theorem dX12_wish_148 : decode cX12_wish 148 = .ok (.iconst 2, 1) := by decide +kernel
theorem dX12_wish_149 : decode cX12_wish 149 = .ok (.iconst 2, 1) := by decide +kernel
theorem dX12_wish_150 : decode cX12_wish 150 = .ok (.invokevirtual 193, 3) := by decide +kernel
theorem dX12_wish_153 : decode cX12_wish 153 = .ok (.isub, 1) := by decide +kernel
theorem dX12_wish_154 : decode cX12_wish 154 = .ok (.iastore, 1) := by decide +kernel
theorem dX12_wish_155 : decode cX12_wish 155 = .ok (.iinc 2 1, 3) := by decide +kernel
theorem dX12_wish_158 : decode cX12_wish 158 = .ok (.goto (-145), 3) := by decide +kernel
theorem dX12_wish_161 : decode cX12_wish 161 = .ok (.aload_n 0, 1) := by decide +kernel
theorem dX12_wish_162 : decode cX12_wish 162 = .ok (.getfield 152, 3) := by decide +kernel
theorem dX12_wish_165 : decode cX12_wish 165 = .ok (.ifCond .ne 20, 3) := by decide +kernel
theorem dX12_wish_168 : decode cX12_wish 168 = .ok (.aload_n 0, 1) := by decide +kernel
theorem dX12_wish_169 : decode cX12_wish 169 = .ok (.getfield 24, 3) := by decide +kernel
theorem dX12_wish_172 : decode cX12_wish 172 = .ok (.aload_n 0, 1) := by decide +kernel
theorem dX12_wish_173 : decode cX12_wish 173 = .ok (.getfield 149, 3) := by decide +kernel
theorem dX12_wish_176 : decode cX12_wish 176 = .ok (.iaload, 1) := by decide +kernel
theorem dX12_wish_177 : decode cX12_wish 177 = .ok (.ifCond .eq 8, 3) := by decide +kernel
theorem dX12_wish_180 : decode cX12_wish 180 = .ok (.aload_n 0, 1) := by decide +kernel
theorem dX12_wish_181 : decode cX12_wish 181 = .ok (.iconst 1, 1) := by decide +kernel
theorem dX12_wish_182 : decode cX12_wish 182 = .ok (.invokevirtual 158, 3) := by decide +kernel
theorem dX12_wish_185 : decode cX12_wish 185 = .ok (.aload_n 0, 1) := by decide +kernel
theorem dX12_wish_186 : decode cX12_wish 186 = .ok (.getfield 152, 3) := by decide +kernel
theorem dX12_wish_189 : decode cX12_wish 189 = .ok (.ifCond .le 8, 3) := by decide +kernel
theorem dX12_wish_192 : decode cX12_wish 192 = .ok (.aload_n 0, 1) := by decide +kernel
theorem dX12_wish_193 : decode cX12_wish 193 = .ok (.getfield 152, 3) := by decide +kernel
theorem dX12_wish_196 : decode cX12_wish 196 = .ok (.ireturn, 1) := by decide +kernel
theorem dX12_wish_197 : decode cX12_wish 197 = .ok (.aload_n 0, 1) := by decide +kernel
theorem dX12_wish_198 : decode cX12_wish 198 = .ok (.iconst 1, 1) := by decide +kernel
theorem dX12_wish_199 : decode cX12_wish 199 = .ok (.putfield 213, 3) := by decide +kernel
theorem dX12_wish_202 : decode cX12_wish 202 = .ok (.iconst 0, 1) := by decide +kernel
theorem dX12_wish_203 : decode cX12_wish 203 = .ok (.istore_n 2, 1) := by decide +kernel
theorem dX12_wish_204 : decode cX12_wish 204 = .ok (.iload_n 2, 1) := by decide +kernel
theorem dX12_wish_205 : decode cX12_wish 205 = .ok (.bipush 10, 2) := by decide +kernel
theorem dX12_wish_207 : decode cX12_wish 207 = .ok (.if_icmp .ge 24, 3) := by decide +kernel
theorem dX12_wish_210 : decode cX12_wish 210 = .ok (.aload_n 0, 1) := by decide +kernel
theorem dX12_wish_211 : decode cX12_wish 211 = .ok (.getfield 85, 3) := by decide +kernel
theorem dX12_wish_214 : decode cX12_wish 214 = .ok (.iload_n 2, 1) := by decide +kernel
theorem dX12_wish_215 : decode cX12_wish 215 = .ok (.aload_n 0, 1) := by decide +kernel
theorem dX12_wish_216 : decode cX12_wish 216 = .ok (.getfield 85, 3) := by decide +kernel
theorem dX12_wish_219 : decode cX12_wish 219 = .ok (.bipush 10, 2) := by decide +kernel
theorem dX12_wish_221 : decode cX12_wish 221 = .ok (.iload_n 2, 1) := by decide +kernel
theorem dX12_wish_222 : decode cX12_wish 222 = .ok (.iadd, 1) := by decide +kernel
theorem dX12_wish_223 : decode cX12_wish 223 = .ok (.iaload, 1) := by decide +kernel
theorem dX12_wish_224 : decode cX12_wish 224 = .ok (.iastore, 1) := by decide +kernel
theorem dX12_wish_225 : decode cX12_wish 225 = .ok (.iinc 2 1, 3) := by decide +kernel
theorem dX12_wish_228 : decode cX12_wish 228 = .ok (.goto (-24), 3) := by decide +kernel
theorem dX12_wish_231 : decode cX12_wish 231 = .ok (.iconst 0, 1) := by decide +kernel
theorem dX12_wish_232 : decode cX12_wish 232 = .ok (.ireturn, 1) := by decide +kernel
theorem dX12_emit_0 : decode cX12_emit 0 = .ok (.aload_n 0, 1) := by decide +kernel
theorem dX12_emit_1 : decode cX12_emit 1 = .ok (.getfield 76, 3) := by decide +kernel
theorem dX12_emit_4 : decode cX12_emit 4 = .ok (.sipush 1100, 3) := by decide +kernel
theorem dX12_emit_7 : decode cX12_emit 7 = .ok (.aload_n 0, 1) := by decide +kernel
theorem dX12_emit_8 : decode cX12_emit 8 = .ok (.getfield 174, 3) := by decide +kernel
theorem dX12_emit_11 : decode cX12_emit 11 = .ok (.iadd, 1) := by decide +kernel
theorem dX12_emit_12 : decode cX12_emit 12 = .ok (.iload_n 1, 1) := by decide +kernel
theorem dX12_emit_13 : decode cX12_emit 13 = .ok (.bipush 16, 2) := by decide +kernel
theorem dX12_emit_15 : decode cX12_emit 15 = .ok (.iload_n 2, 1) := by decide +kernel
theorem dX12_emit_16 : decode cX12_emit 16 = .ok (.imul, 1) := by decide +kernel
theorem dX12_emit_17 : decode cX12_emit 17 = .ok (.iadd, 1) := by decide +kernel
theorem dX12_emit_18 : decode cX12_emit 18 = .ok (.iastore, 1) := by decide +kernel
theorem dX12_emit_19 : decode cX12_emit 19 = .ok (.aload_n 0, 1) := by decide +kernel
theorem dX12_emit_20 : decode cX12_emit 20 = .ok (.dup, 1) := by decide +kernel
theorem dX12_emit_21 : decode cX12_emit 21 = .ok (.getfield 174, 3) := by decide +kernel
theorem dX12_emit_24 : decode cX12_emit 24 = .ok (.iconst 1, 1) := by decide +kernel
theorem dX12_emit_25 : decode cX12_emit 25 = .ok (.iadd, 1) := by decide +kernel
theorem dX12_emit_26 : decode cX12_emit 26 = .ok (.putfield 174, 3) := by decide +kernel
theorem dX12_emit_29 : decode cX12_emit 29 = .ok (.return_, 1) := by decide +kernel
theorem dX12_whole_0 : decode cX12_whole 0 = .ok (.aload_n 0, 1) := by decide +kernel
theorem dX12_whole_1 : decode cX12_whole 1 = .ok (.iload_n 1, 1) := by decide +kernel
theorem dX12_whole_2 : decode cX12_whole 2 = .ok (.invokevirtual 217, 3) := by decide +kernel
theorem dX12_whole_5 : decode cX12_whole 5 = .ok (.aload_n 0, 1) := by decide +kernel
theorem dX12_whole_6 : decode cX12_whole 6 = .ok (.bipush 12, 2) := by decide +kernel
theorem dX12_whole_8 : decode cX12_whole 8 = .ok (.invokevirtual 161, 3) := by decide +kernel
theorem dX12_whole_11 : decode cX12_whole 11 = .ok (.ifCond .ne 12, 3) := by decide +kernel
theorem dX12_whole_14 : decode cX12_whole 14 = .ok (.aload_n 0, 1) := by decide +kernel
theorem dX12_whole_15 : decode cX12_whole 15 = .ok (.bipush 13, 2) := by decide +kernel
theorem dX12_whole_17 : decode cX12_whole 17 = .ok (.invokevirtual 161, 3) := by decide +kernel
theorem dX12_whole_20 : decode cX12_whole 20 = .ok (.ifCond .eq 44, 3) := by decide +kernel
theorem dX12_whole_23 : decode cX12_whole 23 = .ok (.aload_n 0, 1) := by decide +kernel
theorem dX12_whole_24 : decode cX12_whole 24 = .ok (.bipush 12, 2) := by decide +kernel
theorem dX12_whole_26 : decode cX12_whole 26 = .ok (.invokevirtual 161, 3) := by decide +kernel
theorem dX12_whole_29 : decode cX12_whole 29 = .ok (.istore_n 2, 1) := by decide +kernel
theorem dX12_whole_30 : decode cX12_whole 30 = .ok (.aload_n 0, 1) := by decide +kernel
theorem dX12_whole_31 : decode cX12_whole 31 = .ok (.dup, 1) := by decide +kernel
theorem dX12_whole_32 : decode cX12_whole 32 = .ok (.getfield 149, 3) := by decide +kernel
theorem dX12_whole_35 : decode cX12_whole 35 = .ok (.iconst 1, 1) := by decide +kernel
theorem dX12_whole_36 : decode cX12_whole 36 = .ok (.iadd, 1) := by decide +kernel
theorem dX12_whole_37 : decode cX12_whole 37 = .ok (.putfield 149, 3) := by decide +kernel
theorem dX12_whole_40 : decode cX12_whole 40 = .ok (.aload_n 0, 1) := by decide +kernel
theorem dX12_whole_41 : decode cX12_whole 41 = .ok (.iload_n 1, 1) := by decide +kernel
theorem dX12_whole_42 : decode cX12_whole 42 = .ok (.invokevirtual 217, 3) := by decide +kernel
theorem dX12_whole_45 : decode cX12_whole 45 = .ok (.aload_n 0, 1) := by decide +kernel
theorem dX12_whole_46 : decode cX12_whole 46 = .ok (.iload_n 2, 1) := by decide +kernel
theorem dX12_whole_47 : decode cX12_whole 47 = .ok (.ifCond .eq 8, 3) := by decide +kernel
theorem dX12_whole_50 : decode cX12_whole 50 = .ok (.bipush 9, 2) := by decide +kernel
theorem dX12_whole_52 : decode cX12_whole 52 = .ok (.goto 5, 3) := by decide +kernel
theorem dX12_whole_55 : decode cX12_whole 55 = .ok (.bipush 10, 2) := by decide +kernel
theorem dX12_whole_57 : decode cX12_whole 57 = .ok (.iconst 0, 1) := by decide +kernel
theorem dX12_whole_58 : decode cX12_whole 58 = .ok (.invokevirtual 205, 3) := by decide +kernel
theorem dX12_whole_61 : decode cX12_whole 61 = .ok (.goto (-56), 3) := by decide +kernel
theorem dX12_whole_64 : decode cX12_whole 64 = .ok (.return_, 1) := by decide +kernel
theorem dX12_test_0 : decode cX12_test 0 = .ok (.aload_n 0, 1) := by decide +kernel
theorem dX12_test_1 : decode cX12_test 1 = .ok (.iload_n 1, 1) := by decide +kernel
theorem dX12_test_2 : decode cX12_test 2 = .ok (.invokevirtual 220, 3) := by decide +kernel
theorem dX12_test_5 : decode cX12_test 5 = .ok (.aload_n 0, 1) := by decide +kernel
theorem dX12_test_6 : decode cX12_test 6 = .ok (.bipush 60, 2) := by decide +kernel
theorem dX12_test_8 : decode cX12_test 8 = .ok (.invokevirtual 155, 3) := by decide +kernel
theorem dX12_test_11 : decode cX12_test 11 = .ok (.istore_n 2, 1) := by decide +kernel
theorem dX12_test_12 : decode cX12_test 12 = .ok (.aload_n 0, 1) := by decide +kernel
theorem dX12_test_13 : decode cX12_test 13 = .ok (.bipush 60, 2) := by decide +kernel
theorem dX12_test_15 : decode cX12_test 15 = .ok (.invokevirtual 223, 3) := by decide +kernel
theorem dX12_test_18 : decode cX12_test 18 = .ok (.ifCond .ne 12, 3) := by decide +kernel
theorem dX12_test_21 : decode cX12_test 21 = .ok (.aload_n 0, 1) := by decide +kernel
theorem dX12_test_22 : decode cX12_test 22 = .ok (.bipush 61, 2) := by decide +kernel
theorem dX12_test_24 : decode cX12_test 24 = .ok (.invokevirtual 223, 3) := by decide +kernel
theorem dX12_test_27 : decode cX12_test 27 = .ok (.ifCond .eq 24, 3) := by decide +kernel
theorem dX12_test_30 : decode cX12_test 30 = .ok (.aload_n 0, 1) := by decide +kernel
theorem dX12_test_31 : decode cX12_test 31 = .ok (.iload_n 1, 1) := by decide +kernel
theorem dX12_test_32 : decode cX12_test 32 = .ok (.invokevirtual 220, 3) := by decide +kernel
theorem dX12_test_35 : decode cX12_test 35 = .ok (.aload_n 0, 1) := by decide +kernel
theorem dX12_test_36 : decode cX12_test 36 = .ok (.iload_n 2, 1) := by decide +kernel
theorem dX12_test_37 : decode cX12_test 37 = .ok (.ifCond .eq 8, 3) := by decide +kernel
theorem dX12_test_40 : decode cX12_test 40 = .ok (.bipush 7, 2) := by decide +kernel
theorem dX12_test_42 : decode cX12_test 42 = .ok (.goto 5, 3) := by decide +kernel
theorem dX12_test_45 : decode cX12_test 45 = .ok (.bipush 8, 2) := by decide +kernel
theorem dX12_test_47 : decode cX12_test 47 = .ok (.iconst 0, 1) := by decide +kernel
theorem dX12_test_48 : decode cX12_test 48 = .ok (.invokevirtual 205, 3) := by decide +kernel
theorem dX12_test_51 : decode cX12_test 51 = .ok (.return_, 1) := by decide +kernel
theorem dX12_sums_0 : decode cX12_sums 0 = .ok (.aload_n 0, 1) := by decide +kernel
theorem dX12_sums_1 : decode cX12_sums 1 = .ok (.iload_n 1, 1) := by decide +kernel
theorem dX12_sums_2 : decode cX12_sums 2 = .ok (.invokevirtual 226, 3) := by decide +kernel
theorem dX12_sums_5 : decode cX12_sums 5 = .ok (.aload_n 0, 1) := by decide +kernel
theorem dX12_sums_6 : decode cX12_sums 6 = .ok (.bipush 43, 2) := by decide +kernel
theorem dX12_sums_8 : decode cX12_sums 8 = .ok (.invokevirtual 155, 3) := by decide +kernel
theorem dX12_sums_11 : decode cX12_sums 11 = .ok (.ifCond .ne 12, 3) := by decide +kernel
theorem dX12_sums_14 : decode cX12_sums 14 = .ok (.aload_n 0, 1) := by decide +kernel
theorem dX12_sums_15 : decode cX12_sums 15 = .ok (.bipush 45, 2) := by decide +kernel
theorem dX12_sums_17 : decode cX12_sums 17 = .ok (.invokevirtual 155, 3) := by decide +kernel
theorem dX12_sums_20 : decode cX12_sums 20 = .ok (.ifCond .eq 42, 3) := by decide +kernel
theorem dX12_sums_23 : decode cX12_sums 23 = .ok (.aload_n 0, 1) := by decide +kernel
theorem dX12_sums_24 : decode cX12_sums 24 = .ok (.bipush 43, 2) := by decide +kernel
theorem dX12_sums_26 : decode cX12_sums 26 = .ok (.invokevirtual 155, 3) := by decide +kernel
theorem dX12_sums_29 : decode cX12_sums 29 = .ok (.istore_n 2, 1) := by decide +kernel
theorem dX12_sums_30 : decode cX12_sums 30 = .ok (.aload_n 0, 1) := by decide +kernel
theorem dX12_sums_31 : decode cX12_sums 31 = .ok (.dup, 1) := by decide +kernel
theorem dX12_sums_32 : decode cX12_sums 32 = .ok (.getfield 149, 3) := by decide +kernel
theorem dX12_sums_35 : decode cX12_sums 35 = .ok (.iconst 1, 1) := by decide +kernel
theorem dX12_sums_36 : decode cX12_sums 36 = .ok (.iadd, 1) := by decide +kernel
theorem dX12_sums_37 : decode cX12_sums 37 = .ok (.putfield 149, 3) := by decide +kernel
theorem dX12_sums_40 : decode cX12_sums 40 = .ok (.aload_n 0, 1) := by decide +kernel
theorem dX12_sums_41 : decode cX12_sums 41 = .ok (.iload_n 1, 1) := by decide +kernel
theorem dX12_sums_42 : decode cX12_sums 42 = .ok (.invokevirtual 226, 3) := by decide +kernel
theorem dX12_sums_45 : decode cX12_sums 45 = .ok (.aload_n 0, 1) := by decide +kernel
theorem dX12_sums_46 : decode cX12_sums 46 = .ok (.iload_n 2, 1) := by decide +kernel
theorem dX12_sums_47 : decode cX12_sums 47 = .ok (.ifCond .eq 7, 3) := by decide +kernel
theorem dX12_sums_50 : decode cX12_sums 50 = .ok (.iconst 4, 1) := by decide +kernel
theorem dX12_sums_51 : decode cX12_sums 51 = .ok (.goto 4, 3) := by decide +kernel
theorem dX12_sums_54 : decode cX12_sums 54 = .ok (.iconst 5, 1) := by decide +kernel
theorem dX12_sums_55 : decode cX12_sums 55 = .ok (.iconst 0, 1) := by decide +kernel
theorem dX12_sums_56 : decode cX12_sums 56 = .ok (.invokevirtual 205, 3) := by decide +kernel
theorem dX12_sums_59 : decode cX12_sums 59 = .ok (.goto (-54), 3) := by decide +kernel
theorem dX12_sums_62 : decode cX12_sums 62 = .ok (.return_, 1) := by decide +kernel
theorem dX12_products_0 : decode cX12_products 0 = .ok (.aload_n 0, 1) := by decide +kernel
theorem dX12_products_1 : decode cX12_products 1 = .ok (.iload_n 1, 1) := by decide +kernel
theorem dX12_products_2 : decode cX12_products 2 = .ok (.invokevirtual 229, 3) := by decide +kernel
theorem dX12_products_5 : decode cX12_products 5 = .ok (.aload_n 0, 1) := by decide +kernel
theorem dX12_products_6 : decode cX12_products 6 = .ok (.bipush 42, 2) := by decide +kernel
theorem dX12_products_8 : decode cX12_products 8 = .ok (.invokevirtual 223, 3) := by decide +kernel
theorem dX12_products_11 : decode cX12_products 11 = .ok (.ifCond .eq 18, 3) := by decide +kernel
theorem dX12_products_14 : decode cX12_products 14 = .ok (.aload_n 0, 1) := by decide +kernel
theorem dX12_products_15 : decode cX12_products 15 = .ok (.iload_n 1, 1) := by decide +kernel
theorem dX12_products_16 : decode cX12_products 16 = .ok (.invokevirtual 229, 3) := by decide +kernel
theorem dX12_products_19 : decode cX12_products 19 = .ok (.aload_n 0, 1) := by decide +kernel
theorem dX12_products_20 : decode cX12_products 20 = .ok (.bipush 6, 2) := by decide +kernel
theorem dX12_products_22 : decode cX12_products 22 = .ok (.iconst 0, 1) := by decide +kernel
theorem dX12_products_23 : decode cX12_products 23 = .ok (.invokevirtual 205, 3) := by decide +kernel
theorem dX12_products_26 : decode cX12_products 26 = .ok (.goto (-21), 3) := by decide +kernel
theorem dX12_products_29 : decode cX12_products 29 = .ok (.return_, 1) := by decide +kernel
theorem dX12_takePart_0 : decode cX12_takePart 0 = .ok (.aload_n 0, 1) := by decide +kernel
theorem dX12_takePart_1 : decode cX12_takePart 1 = .ok (.getfield 152, 3) := by decide +kernel
theorem dX12_takePart_4 : decode cX12_takePart 4 = .ok (.ifCond .le 4, 3) := by decide +kernel
theorem dX12_takePart_7 : decode cX12_takePart 7 = .ok (.return_, 1) := by decide +kernel
theorem dX12_takePart_8 : decode cX12_takePart 8 = .ok (.aload_n 0, 1) := by decide +kernel
theorem dX12_takePart_9 : decode cX12_takePart 9 = .ok (.getfield 24, 3) := by decide +kernel
theorem dX12_takePart_12 : decode cX12_takePart 12 = .ok (.aload_n 0, 1) := by decide +kernel
theorem dX12_takePart_13 : decode cX12_takePart 13 = .ok (.getfield 149, 3) := by decide +kernel
theorem dX12_takePart_16 : decode cX12_takePart 16 = .ok (.iaload, 1) := by decide +kernel
theorem dX12_takePart_17 : decode cX12_takePart 17 = .ok (.iconst 2, 1) := by decide +kernel
theorem dX12_takePart_18 : decode cX12_takePart 18 = .ok (.if_icmp .ne 7, 3) := by decide +kernel
theorem dX12_takePart_21 : decode cX12_takePart 21 = .ok (.iconst 1, 1) := by decide +kernel
theorem dX12_takePart_22 : decode cX12_takePart 22 = .ok (.goto 4, 3) := by decide +kernel
theorem dX12_takePart_25 : decode cX12_takePart 25 = .ok (.iconst 0, 1) := by decide +kernel
theorem dX12_takePart_26 : decode cX12_takePart 26 = .ok (.istore_n 2, 1) := by decide +kernel
theorem dX12_takePart_27 : decode cX12_takePart 27 = .ok (.aload_n 0, 1) := by decide +kernel
theorem dX12_takePart_28 : decode cX12_takePart 28 = .ok (.bipush 14, 2) := by decide +kernel
theorem dX12_takePart_30 : decode cX12_takePart 30 = .ok (.iconst 4, 1) := by decide +kernel
theorem dX12_takePart_31 : decode cX12_takePart 31 = .ok (.invokevirtual 167, 3) := by decide +kernel
theorem dX12_takePart_34 : decode cX12_takePart 34 = .ok (.istore_n 3, 1) := by decide +kernel
theorem dX12_takePart_35 : decode cX12_takePart 35 = .ok (.iload_n 3, 1) := by decide +kernel
theorem dX12_takePart_36 : decode cX12_takePart 36 = .ok (.ifCond .ge 33, 3) := by decide +kernel
theorem dX12_takePart_39 : decode cX12_takePart 39 = .ok (.iload_n 2, 1) := by decide +kernel
theorem dX12_takePart_40 : decode cX12_takePart 40 = .ok (.ifCond .ne 29, 3) := by decide +kernel
theorem dX12_takePart_43 : decode cX12_takePart 43 = .ok (.aload_n 0, 1) := by decide +kernel
theorem dX12_takePart_44 : decode cX12_takePart 44 = .ok (.bipush 40, 2) := by decide +kernel
theorem dX12_takePart_46 : decode cX12_takePart 46 = .ok (.invokevirtual 155, 3) := by decide +kernel
theorem dX12_takePart_49 : decode cX12_takePart 49 = .ok (.ifCond .ne 20, 3) := by decide +kernel
theorem dX12_takePart_52 : decode cX12_takePart 52 = .ok (.aload_n 0, 1) := by decide +kernel
theorem dX12_takePart_53 : decode cX12_takePart 53 = .ok (.bipush 11, 2) := by decide +kernel
theorem dX12_takePart_55 : decode cX12_takePart 55 = .ok (.invokevirtual 161, 3) := by decide +kernel
theorem dX12_takePart_58 : decode cX12_takePart 58 = .ok (.ifCond .ne 11, 3) := by decide +kernel
theorem dX12_takePart_61 : decode cX12_takePart 61 = .ok (.aload_n 0, 1) := by decide +kernel
theorem dX12_takePart_62 : decode cX12_takePart 62 = .ok (.iconst 1, 1) := by decide +kernel
theorem dX12_takePart_63 : decode cX12_takePart 63 = .ok (.invokevirtual 158, 3) := by decide +kernel
theorem dX12_takePart_66 : decode cX12_takePart 66 = .ok (.goto 13, 3) := by decide +kernel
theorem dX12_takePart_69 : decode cX12_takePart 69 = .ok (.iload_n 1, 1) := by decide +kernel
theorem dX12_takePart_70 : decode cX12_takePart 70 = .ok (.iconst 5, 1) := by decide +kernel
theorem dX12_takePart_71 : decode cX12_takePart 71 = .ok (.if_icmp .ne 8, 3) := by decide +kernel
theorem dX12_takePart_74 : decode cX12_takePart 74 = .ok (.aload_n 0, 1) := by decide +kernel
theorem dX12_takePart_75 : decode cX12_takePart 75 = .ok (.iconst 5, 1) := by decide +kernel
theorem dX12_takePart_76 : decode cX12_takePart 76 = .ok (.invokevirtual 158, 3) := by decide +kernel
theorem dX12_takePart_79 : decode cX12_takePart 79 = .ok (.aload_n 0, 1) := by decide +kernel
theorem dX12_takePart_80 : decode cX12_takePart 80 = .ok (.getfield 152, 3) := by decide +kernel
theorem dX12_takePart_83 : decode cX12_takePart 83 = .ok (.ifCond .le 4, 3) := by decide +kernel
theorem dX12_takePart_86 : decode cX12_takePart 86 = .ok (.return_, 1) := by decide +kernel
theorem dX12_takePart_87 : decode cX12_takePart 87 = .ok (.aload_n 0, 1) := by decide +kernel
theorem dX12_takePart_88 : decode cX12_takePart 88 = .ok (.bipush 11, 2) := by decide +kernel
theorem dX12_takePart_90 : decode cX12_takePart 90 = .ok (.invokevirtual 164, 3) := by decide +kernel
theorem dX12_takePart_93 : decode cX12_takePart 93 = .ok (.ifCond .eq 19, 3) := by decide +kernel
theorem dX12_takePart_96 : decode cX12_takePart 96 = .ok (.aload_n 0, 1) := by decide +kernel
theorem dX12_takePart_97 : decode cX12_takePart 97 = .ok (.iload_n 1, 1) := by decide +kernel
theorem dX12_takePart_98 : decode cX12_takePart 98 = .ok (.iconst 1, 1) := by decide +kernel
theorem dX12_takePart_99 : decode cX12_takePart 99 = .ok (.iadd, 1) := by decide +kernel
theorem dX12_takePart_100 : decode cX12_takePart 100 = .ok (.invokevirtual 229, 3) := by decide +kernel
theorem dX12_takePart_103 : decode cX12_takePart 103 = .ok (.aload_n 0, 1) := by decide +kernel
theorem dX12_takePart_104 : decode cX12_takePart 104 = .ok (.iconst 3, 1) := by decide +kernel
theorem dX12_takePart_105 : decode cX12_takePart 105 = .ok (.iconst 0, 1) := by decide +kernel
theorem dX12_takePart_106 : decode cX12_takePart 106 = .ok (.invokevirtual 205, 3) := by decide +kernel
theorem dX12_takePart_109 : decode cX12_takePart 109 = .ok (.goto 69, 3) := by decide +kernel
theorem dX12_takePart_112 : decode cX12_takePart 112 = .ok (.aload_n 0, 1) := by decide +kernel
theorem dX12_takePart_113 : decode cX12_takePart 113 = .ok (.bipush 40, 2) := by decide +kernel
theorem dX12_takePart_115 : decode cX12_takePart 115 = .ok (.invokevirtual 223, 3) := by decide +kernel
theorem dX12_takePart_118 : decode cX12_takePart 118 = .ok (.ifCond .eq 19, 3) := by decide +kernel
theorem dX12_takePart_121 : decode cX12_takePart 121 = .ok (.aload_n 0, 1) := by decide +kernel
theorem dX12_takePart_122 : decode cX12_takePart 122 = .ok (.iload_n 1, 1) := by decide +kernel
theorem dX12_takePart_123 : decode cX12_takePart 123 = .ok (.iconst 1, 1) := by decide +kernel
theorem dX12_takePart_124 : decode cX12_takePart 124 = .ok (.iadd, 1) := by decide +kernel
theorem dX12_takePart_125 : decode cX12_takePart 125 = .ok (.invokevirtual 202, 3) := by decide +kernel
theorem dX12_takePart_128 : decode cX12_takePart 128 = .ok (.aload_n 0, 1) := by decide +kernel
theorem dX12_takePart_129 : decode cX12_takePart 129 = .ok (.bipush 41, 2) := by decide +kernel
theorem dX12_takePart_131 : decode cX12_takePart 131 = .ok (.invokevirtual 183, 3) := by decide +kernel
theorem dX12_takePart_134 : decode cX12_takePart 134 = .ok (.goto 44, 3) := by decide +kernel
theorem dX12_takePart_137 : decode cX12_takePart 137 = .ok (.aload_n 0, 1) := by decide +kernel
theorem dX12_takePart_138 : decode cX12_takePart 138 = .ok (.iload_n 2, 1) := by decide +kernel
theorem dX12_takePart_139 : decode cX12_takePart 139 = .ok (.ifCond .eq 7, 3) := by decide +kernel
theorem dX12_takePart_142 : decode cX12_takePart 142 = .ok (.iconst 1, 1) := by decide +kernel
theorem dX12_takePart_143 : decode cX12_takePart 143 = .ok (.goto 4, 3) := by decide +kernel
theorem dX12_takePart_146 : decode cX12_takePart 146 = .ok (.iconst 2, 1) := by decide +kernel
theorem dX12_takePart_147 : decode cX12_takePart 147 = .ok (.iload_n 2, 1) := by decide +kernel
theorem dX12_takePart_148 : decode cX12_takePart 148 = .ok (.ifCond .eq 16, 3) := by decide +kernel
theorem dX12_takePart_151 : decode cX12_takePart 151 = .ok (.aload_n 0, 1) := by decide +kernel
theorem dX12_takePart_152 : decode cX12_takePart 152 = .ok (.getfield 30, 3) := by decide +kernel
theorem dX12_takePart_155 : decode cX12_takePart 155 = .ok (.aload_n 0, 1) := by decide +kernel
theorem dX12_takePart_156 : decode cX12_takePart 156 = .ok (.getfield 149, 3) := by decide +kernel
theorem dX12_takePart_159 : decode cX12_takePart 159 = .ok (.laload, 1) := by decide +kernel
theorem dX12_takePart_160 : decode cX12_takePart 160 = .ok (.l2i, 1) := by decide +kernel
theorem dX12_takePart_161 : decode cX12_takePart 161 = .ok (.goto 4, 3) := by decide +kernel
theorem dX12_takePart_164 : decode cX12_takePart 164 = .ok (.iload_n 3, 1) := by decide +kernel
theorem dX12_takePart_165 : decode cX12_takePart 165 = .ok (.invokevirtual 205, 3) := by decide +kernel
theorem dX12_takePart_168 : decode cX12_takePart 168 = .ok (.aload_n 0, 1) := by decide +kernel
theorem dX12_takePart_169 : decode cX12_takePart 169 = .ok (.dup, 1) := by decide +kernel
theorem dX12_takePart_170 : decode cX12_takePart 170 = .ok (.getfield 149, 3) := by decide +kernel
theorem dX12_takePart_173 : decode cX12_takePart 173 = .ok (.iconst 1, 1) := by decide +kernel
theorem dX12_takePart_174 : decode cX12_takePart 174 = .ok (.iadd, 1) := by decide +kernel
theorem dX12_takePart_175 : decode cX12_takePart 175 = .ok (.putfield 149, 3) := by decide +kernel
theorem dX12_takePart_178 : decode cX12_takePart 178 = .ok (.return_, 1) := by decide +kernel
theorem dX12_worthAt_0 : decode cX12_worthAt 0 = .ok (.iconst 0, 1) := by decide +kernel
theorem dX12_worthAt_1 : decode cX12_worthAt 1 = .ok (.istore_n 2, 1) := by decide +kernel
theorem dX12_worthAt_2 : decode cX12_worthAt 2 = .ok (.iload_n 1, 1) := by decide +kernel
theorem dX12_worthAt_3 : decode cX12_worthAt 3 = .ok (.istore_n 3, 1) := by decide +kernel
theorem dX12_worthAt_4 : decode cX12_worthAt 4 = .ok (.aload_n 0, 1) := by decide +kernel
theorem dX12_worthAt_5 : decode cX12_worthAt 5 = .ok (.getfield 76, 3) := by decide +kernel
theorem dX12_worthAt_8 : decode cX12_worthAt 8 = .ok (.iload_n 3, 1) := by decide +kernel
theorem dX12_worthAt_9 : decode cX12_worthAt 9 = .ok (.iaload, 1) := by decide +kernel
theorem dX12_worthAt_10 : decode cX12_worthAt 10 = .ok (.bipush 16, 2) := by decide +kernel
theorem dX12_worthAt_12 : decode cX12_worthAt 12 = .ok (.irem, 1) := by decide +kernel
theorem dX12_worthAt_13 : decode cX12_worthAt 13 = .ok (.ifCond .eq 139, 3) := by decide +kernel
theorem dX12_worthAt_16 : decode cX12_worthAt 16 = .ok (.aload_n 0, 1) := by decide +kernel
theorem dX12_worthAt_17 : decode cX12_worthAt 17 = .ok (.getfield 76, 3) := by decide +kernel
theorem dX12_worthAt_20 : decode cX12_worthAt 20 = .ok (.iload_n 3, 1) := by decide +kernel
theorem dX12_worthAt_21 : decode cX12_worthAt 21 = .ok (.iaload, 1) := by decide +kernel
theorem dX12_worthAt_22 : decode cX12_worthAt 22 = .ok (.bipush 16, 2) := by decide +kernel
theorem dX12_worthAt_24 : decode cX12_worthAt 24 = .ok (.irem, 1) := by decide +kernel
theorem dX12_worthAt_25 : decode cX12_worthAt 25 = .ok (.istore 4, 2) := by decide +kernel
theorem dX12_worthAt_27 : decode cX12_worthAt 27 = .ok (.iload 4, 2) := by decide +kernel
theorem dX12_worthAt_29 : decode cX12_worthAt 29 = .ok (.iconst 1, 1) := by decide +kernel
theorem dX12_worthAt_30 : decode cX12_worthAt 30 = .ok (.if_icmp .eq 9, 3) := by decide +kernel
theorem dX12_worthAt_33 : decode cX12_worthAt 33 = .ok (.iload 4, 2) := by decide +kernel
theorem dX12_worthAt_35 : decode cX12_worthAt 35 = .ok (.iconst 2, 1) := by decide +kernel
theorem dX12_worthAt_36 : decode cX12_worthAt 36 = .ok (.if_icmp .ne 47, 3) := by decide +kernel
theorem dX12_worthAt_39 : decode cX12_worthAt 39 = .ok (.aload_n 0, 1) := by decide +kernel
theorem dX12_worthAt_40 : decode cX12_worthAt 40 = .ok (.getfield 91, 3) := by decide +kernel
theorem dX12_worthAt_43 : decode cX12_worthAt 43 = .ok (.iload_n 2, 1) := by decide +kernel
theorem dX12_worthAt_44 : decode cX12_worthAt 44 = .ok (.iload 4, 2) := by decide +kernel
theorem dX12_worthAt_46 : decode cX12_worthAt 46 = .ok (.iconst 1, 1) := by decide +kernel
theorem dX12_worthAt_47 : decode cX12_worthAt 47 = .ok (.if_icmp .ne 15, 3) := by decide +kernel
theorem dX12_worthAt_50 : decode cX12_worthAt 50 = .ok (.aload_n 0, 1) := by decide +kernel
theorem dX12_worthAt_51 : decode cX12_worthAt 51 = .ok (.getfield 76, 3) := by decide +kernel
theorem dX12_worthAt_54 : decode cX12_worthAt 54 = .ok (.iload_n 3, 1) := by decide +kernel
theorem dX12_worthAt_55 : decode cX12_worthAt 55 = .ok (.iaload, 1) := by decide +kernel
theorem dX12_worthAt_56 : decode cX12_worthAt 56 = .ok (.bipush 16, 2) := by decide +kernel
theorem dX12_worthAt_58 : decode cX12_worthAt 58 = .ok (.idiv, 1) := by decide +kernel
theorem dX12_worthAt_59 : decode cX12_worthAt 59 = .ok (.goto 17, 3) := by decide +kernel
theorem dX12_worthAt_62 : decode cX12_worthAt 62 = .ok (.aload_n 0, 1) := by decide +kernel
theorem dX12_worthAt_63 : decode cX12_worthAt 63 = .ok (.getfield 88, 3) := by decide +kernel
theorem dX12_worthAt_66 : decode cX12_worthAt 66 = .ok (.aload_n 0, 1) := by decide +kernel
theorem dX12_worthAt_67 : decode cX12_worthAt 67 = .ok (.getfield 76, 3) := by decide +kernel
theorem dX12_worthAt_70 : decode cX12_worthAt 70 = .ok (.iload_n 3, 1) := by decide +kernel
theorem dX12_worthAt_71 : decode cX12_worthAt 71 = .ok (.iaload, 1) := by decide +kernel
theorem dX12_worthAt_72 : decode cX12_worthAt 72 = .ok (.bipush 16, 2) := by decide +kernel
theorem dX12_worthAt_74 : decode cX12_worthAt 74 = .ok (.idiv, 1) := by decide +kernel
theorem dX12_worthAt_75 : decode cX12_worthAt 75 = .ok (.iaload, 1) := by decide +kernel
theorem dX12_worthAt_76 : decode cX12_worthAt 76 = .ok (.iastore, 1) := by decide +kernel
theorem dX12_worthAt_77 : decode cX12_worthAt 77 = .ok (.iinc 2 1, 3) := by decide +kernel
theorem dX12_worthAt_80 : decode cX12_worthAt 80 = .ok (.goto 66, 3) := by decide +kernel
theorem dX12_worthAt_83 : decode cX12_worthAt 83 = .ok (.iload 4, 2) := by decide +kernel
theorem dX12_worthAt_85 : decode cX12_worthAt 85 = .ok (.iconst 3, 1) := by decide +kernel
theorem dX12_worthAt_86 : decode cX12_worthAt 86 = .ok (.if_icmp .ne 30, 3) := by decide +kernel
theorem dX12_worthAt_89 : decode cX12_worthAt 89 = .ok (.aload_n 0, 1) := by decide +kernel
theorem dX12_worthAt_90 : decode cX12_worthAt 90 = .ok (.getfield 91, 3) := by decide +kernel
theorem dX12_worthAt_93 : decode cX12_worthAt 93 = .ok (.iload_n 2, 1) := by decide +kernel
theorem dX12_worthAt_94 : decode cX12_worthAt 94 = .ok (.iconst 1, 1) := by decide +kernel
theorem dX12_worthAt_95 : decode cX12_worthAt 95 = .ok (.isub, 1) := by decide +kernel
theorem dX12_worthAt_96 : decode cX12_worthAt 96 = .ok (.aload_n 0, 1) := by decide +kernel
theorem dX12_worthAt_97 : decode cX12_worthAt 97 = .ok (.getfield 91, 3) := by decide +kernel
theorem dX12_worthAt_100 : decode cX12_worthAt 100 = .ok (.iload_n 2, 1) := by decide +kernel
theorem dX12_worthAt_101 : decode cX12_worthAt 101 = .ok (.iconst 1, 1) := by decide +kernel
theorem dX12_worthAt_102 : decode cX12_worthAt 102 = .ok (.isub, 1) := by decide +kernel
theorem dX12_worthAt_103 : decode cX12_worthAt 103 = .ok (.iaload, 1) := by decide +kernel
theorem dX12_worthAt_104 : decode cX12_worthAt 104 = .ok (.ifCond .ne 7, 3) := by decide +kernel
theorem dX12_worthAt_107 : decode cX12_worthAt 107 = .ok (.iconst 1, 1) := by decide +kernel
theorem dX12_worthAt_108 : decode cX12_worthAt 108 = .ok (.goto 4, 3) := by decide +kernel
theorem dX12_worthAt_111 : decode cX12_worthAt 111 = .ok (.iconst 0, 1) := by decide +kernel
theorem dX12_worthAt_112 : decode cX12_worthAt 112 = .ok (.iastore, 1) := by decide +kernel
theorem dX12_worthAt_113 : decode cX12_worthAt 113 = .ok (.goto 33, 3) := by decide +kernel
theorem dX12_worthAt_116 : decode cX12_worthAt 116 = .ok (.iinc 2 (-1), 3) := by decide +kernel
theorem dX12_worthAt_119 : decode cX12_worthAt 119 = .ok (.aload_n 0, 1) := by decide +kernel
theorem dX12_worthAt_120 : decode cX12_worthAt 120 = .ok (.getfield 91, 3) := by decide +kernel
theorem dX12_worthAt_123 : decode cX12_worthAt 123 = .ok (.iload_n 2, 1) := by decide +kernel
theorem dX12_worthAt_124 : decode cX12_worthAt 124 = .ok (.iconst 1, 1) := by decide +kernel
theorem dX12_worthAt_125 : decode cX12_worthAt 125 = .ok (.isub, 1) := by decide +kernel
theorem dX12_worthAt_126 : decode cX12_worthAt 126 = .ok (.iload 4, 2) := by decide +kernel
theorem dX12_worthAt_128 : decode cX12_worthAt 128 = .ok (.aload_n 0, 1) := by decide +kernel
theorem dX12_worthAt_129 : decode cX12_worthAt 129 = .ok (.getfield 91, 3) := by decide +kernel
theorem dX12_worthAt_132 : decode cX12_worthAt 132 = .ok (.iload_n 2, 1) := by decide +kernel
theorem dX12_worthAt_133 : decode cX12_worthAt 133 = .ok (.iconst 1, 1) := by decide +kernel
theorem dX12_worthAt_134 : decode cX12_worthAt 134 = .ok (.isub, 1) := by decide +kernel
theorem dX12_worthAt_135 : decode cX12_worthAt 135 = .ok (.iaload, 1) := by decide +kernel
theorem dX12_worthAt_136 : decode cX12_worthAt 136 = .ok (.aload_n 0, 1) := by decide +kernel
theorem dX12_worthAt_137 : decode cX12_worthAt 137 = .ok (.getfield 91, 3) := by decide +kernel
theorem dX12_worthAt_140 : decode cX12_worthAt 140 = .ok (.iload_n 2, 1) := by decide +kernel
theorem dX12_worthAt_141 : decode cX12_worthAt 141 = .ok (.iaload, 1) := by decide +kernel
theorem dX12_worthAt_142 : decode cX12_worthAt 142 = .ok (.invokestatic 232, 3) := by decide +kernel
theorem dX12_worthAt_145 : decode cX12_worthAt 145 = .ok (.iastore, 1) := by decide +kernel
theorem dX12_worthAt_146 : decode cX12_worthAt 146 = .ok (.iinc 3 1, 3) := by decide +kernel
theorem dX12_worthAt_149 : decode cX12_worthAt 149 = .ok (.goto (-145), 3) := by decide +kernel
theorem dX12_worthAt_152 : decode cX12_worthAt 152 = .ok (.aload_n 0, 1) := by decide +kernel
theorem dX12_worthAt_153 : decode cX12_worthAt 153 = .ok (.getfield 91, 3) := by decide +kernel
theorem dX12_worthAt_156 : decode cX12_worthAt 156 = .ok (.iconst 0, 1) := by decide +kernel
theorem dX12_worthAt_157 : decode cX12_worthAt 157 = .ok (.iaload, 1) := by decide +kernel
theorem dX12_worthAt_158 : decode cX12_worthAt 158 = .ok (.ireturn, 1) := by decide +kernel
theorem dX12_both_0 : decode cX12_both 0 = .ok (.iload_n 0, 1) := by decide +kernel
theorem dX12_both_1 : decode cX12_both 1 = .ok (.tableswitch 87 4 9 #[39, 43, 47, 51, 62, 73], 39) := by decide +kernel
theorem dX12_both_40 : decode cX12_both 40 = .ok (.iload_n 1, 1) := by decide +kernel
theorem dX12_both_41 : decode cX12_both 41 = .ok (.iload_n 2, 1) := by decide +kernel
theorem dX12_both_42 : decode cX12_both 42 = .ok (.iadd, 1) := by decide +kernel
theorem dX12_both_43 : decode cX12_both 43 = .ok (.ireturn, 1) := by decide +kernel
theorem dX12_both_44 : decode cX12_both 44 = .ok (.iload_n 1, 1) := by decide +kernel
theorem dX12_both_45 : decode cX12_both 45 = .ok (.iload_n 2, 1) := by decide +kernel
theorem dX12_both_46 : decode cX12_both 46 = .ok (.isub, 1) := by decide +kernel
theorem dX12_both_47 : decode cX12_both 47 = .ok (.ireturn, 1) := by decide +kernel
theorem dX12_both_48 : decode cX12_both 48 = .ok (.iload_n 1, 1) := by decide +kernel
theorem dX12_both_49 : decode cX12_both 49 = .ok (.iload_n 2, 1) := by decide +kernel
theorem dX12_both_50 : decode cX12_both 50 = .ok (.imul, 1) := by decide +kernel
theorem dX12_both_51 : decode cX12_both 51 = .ok (.ireturn, 1) := by decide +kernel
theorem dX12_both_52 : decode cX12_both 52 = .ok (.iload_n 1, 1) := by decide +kernel
theorem dX12_both_53 : decode cX12_both 53 = .ok (.iload_n 2, 1) := by decide +kernel
theorem dX12_both_54 : decode cX12_both 54 = .ok (.if_icmp .ge 7, 3) := by decide +kernel
theorem dX12_both_57 : decode cX12_both 57 = .ok (.iconst 1, 1) := by decide +kernel
theorem dX12_both_58 : decode cX12_both 58 = .ok (.goto 4, 3) := by decide +kernel
theorem dX12_both_61 : decode cX12_both 61 = .ok (.iconst 0, 1) := by decide +kernel
theorem dX12_both_62 : decode cX12_both 62 = .ok (.ireturn, 1) := by decide +kernel
theorem dX12_both_63 : decode cX12_both 63 = .ok (.iload_n 1, 1) := by decide +kernel
theorem dX12_both_64 : decode cX12_both 64 = .ok (.iload_n 2, 1) := by decide +kernel
theorem dX12_both_65 : decode cX12_both 65 = .ok (.if_icmp .ne 7, 3) := by decide +kernel
theorem dX12_both_68 : decode cX12_both 68 = .ok (.iconst 1, 1) := by decide +kernel
theorem dX12_both_69 : decode cX12_both 69 = .ok (.goto 4, 3) := by decide +kernel
theorem dX12_both_72 : decode cX12_both 72 = .ok (.iconst 0, 1) := by decide +kernel
theorem dX12_both_73 : decode cX12_both 73 = .ok (.ireturn, 1) := by decide +kernel
theorem dX12_both_74 : decode cX12_both 74 = .ok (.iload_n 1, 1) := by decide +kernel
theorem dX12_both_75 : decode cX12_both 75 = .ok (.ifCond .eq 11, 3) := by decide +kernel
theorem dX12_both_78 : decode cX12_both 78 = .ok (.iload_n 2, 1) := by decide +kernel
theorem dX12_both_79 : decode cX12_both 79 = .ok (.ifCond .eq 7, 3) := by decide +kernel
theorem dX12_both_82 : decode cX12_both 82 = .ok (.iconst 1, 1) := by decide +kernel
theorem dX12_both_83 : decode cX12_both 83 = .ok (.goto 4, 3) := by decide +kernel
theorem dX12_both_86 : decode cX12_both 86 = .ok (.iconst 0, 1) := by decide +kernel
theorem dX12_both_87 : decode cX12_both 87 = .ok (.ireturn, 1) := by decide +kernel
theorem dX12_both_88 : decode cX12_both 88 = .ok (.iload_n 1, 1) := by decide +kernel
theorem dX12_both_89 : decode cX12_both 89 = .ok (.ifCond .ne 7, 3) := by decide +kernel
theorem dX12_both_92 : decode cX12_both 92 = .ok (.iload_n 2, 1) := by decide +kernel
theorem dX12_both_93 : decode cX12_both 93 = .ok (.ifCond .eq 7, 3) := by decide +kernel
theorem dX12_both_96 : decode cX12_both 96 = .ok (.iconst 1, 1) := by decide +kernel
theorem dX12_both_97 : decode cX12_both 97 = .ok (.goto 4, 3) := by decide +kernel
theorem dX12_both_100 : decode cX12_both 100 = .ok (.iconst 0, 1) := by decide +kernel
theorem dX12_both_101 : decode cX12_both 101 = .ok (.ireturn, 1) := by decide +kernel
theorem dX12_copies_0 : decode cX12_copies 0 = .ok (.iconst 0, 1) := by decide +kernel
theorem dX12_copies_1 : decode cX12_copies 1 = .ok (.istore 4, 2) := by decide +kernel
theorem dX12_copies_3 : decode cX12_copies 3 = .ok (.iload 4, 2) := by decide +kernel
theorem dX12_copies_5 : decode cX12_copies 5 = .ok (.iload_n 3, 1) := by decide +kernel
theorem dX12_copies_6 : decode cX12_copies 6 = .ok (.if_icmp .ge 27, 3) := by decide +kernel
theorem dX12_copies_9 : decode cX12_copies 9 = .ok (.aload_n 0, 1) := by decide +kernel
theorem dX12_copies_10 : decode cX12_copies 10 = .ok (.getfield 94, 3) := by decide +kernel
theorem dX12_copies_13 : decode cX12_copies 13 = .ok (.iload_n 2, 1) := by decide +kernel
theorem dX12_copies_14 : decode cX12_copies 14 = .ok (.iload 4, 2) := by decide +kernel
theorem dX12_copies_16 : decode cX12_copies 16 = .ok (.iadd, 1) := by decide +kernel
theorem dX12_copies_17 : decode cX12_copies 17 = .ok (.aload_n 0, 1) := by decide +kernel
theorem dX12_copies_18 : decode cX12_copies 18 = .ok (.getfield 94, 3) := by decide +kernel
theorem dX12_copies_21 : decode cX12_copies 21 = .ok (.iload_n 1, 1) := by decide +kernel
theorem dX12_copies_22 : decode cX12_copies 22 = .ok (.iload 4, 2) := by decide +kernel
theorem dX12_copies_24 : decode cX12_copies 24 = .ok (.iadd, 1) := by decide +kernel
theorem dX12_copies_25 : decode cX12_copies 25 = .ok (.iaload, 1) := by decide +kernel
theorem dX12_copies_26 : decode cX12_copies 26 = .ok (.iastore, 1) := by decide +kernel
theorem dX12_copies_27 : decode cX12_copies 27 = .ok (.iinc 4 1, 3) := by decide +kernel
theorem dX12_copies_30 : decode cX12_copies 30 = .ok (.goto (-27), 3) := by decide +kernel
theorem dX12_copies_33 : decode cX12_copies 33 = .ok (.return_, 1) := by decide +kernel
theorem dX12_begins_0 : decode cX12_begins 0 = .ok (.iconst 0, 1) := by decide +kernel
theorem dX12_begins_1 : decode cX12_begins 1 = .ok (.istore_n 1, 1) := by decide +kernel
theorem dX12_begins_2 : decode cX12_begins 2 = .ok (.iload_n 1, 1) := by decide +kernel
theorem dX12_begins_3 : decode cX12_begins 3 = .ok (.aload_n 0, 1) := by decide +kernel
theorem dX12_begins_4 : decode cX12_begins 4 = .ok (.invokevirtual 209, 3) := by decide +kernel
theorem dX12_begins_7 : decode cX12_begins 7 = .ok (.if_icmp .ge 45, 3) := by decide +kernel
theorem dX12_begins_10 : decode cX12_begins 10 = .ok (.aload_n 0, 1) := by decide +kernel
theorem dX12_begins_11 : decode cX12_begins 11 = .ok (.getfield 101, 3) := by decide +kernel
theorem dX12_begins_14 : decode cX12_begins 14 = .ok (.iload_n 1, 1) := by decide +kernel
theorem dX12_begins_15 : decode cX12_begins 15 = .ok (.iload_n 1, 1) := by decide +kernel
theorem dX12_begins_16 : decode cX12_begins 16 = .ok (.iastore, 1) := by decide +kernel
theorem dX12_begins_17 : decode cX12_begins 17 = .ok (.aload_n 0, 1) := by decide +kernel
theorem dX12_begins_18 : decode cX12_begins 18 = .ok (.getfield 104, 3) := by decide +kernel
theorem dX12_begins_21 : decode cX12_begins 21 = .ok (.iload_n 1, 1) := by decide +kernel
theorem dX12_begins_22 : decode cX12_begins 22 = .ok (.aload_n 0, 1) := by decide +kernel
theorem dX12_begins_23 : decode cX12_begins 23 = .ok (.iload_n 1, 1) := by decide +kernel
theorem dX12_begins_24 : decode cX12_begins 24 = .ok (.invokevirtual 236, 3) := by decide +kernel
theorem dX12_begins_27 : decode cX12_begins 27 = .ok (.ifCond .eq 17, 3) := by decide +kernel
theorem dX12_begins_30 : decode cX12_begins 30 = .ok (.aload_n 0, 1) := by decide +kernel
theorem dX12_begins_31 : decode cX12_begins 31 = .ok (.iload_n 1, 1) := by decide +kernel
theorem dX12_begins_32 : decode cX12_begins 32 = .ok (.iconst 2, 1) := by decide +kernel
theorem dX12_begins_33 : decode cX12_begins 33 = .ok (.invokevirtual 239, 3) := by decide +kernel
theorem dX12_begins_36 : decode cX12_begins 36 = .ok (.iconst 1, 1) := by decide +kernel
theorem dX12_begins_37 : decode cX12_begins 37 = .ok (.if_icmp .ne 7, 3) := by decide +kernel
theorem dX12_begins_40 : decode cX12_begins 40 = .ok (.iconst 1, 1) := by decide +kernel
theorem dX12_begins_41 : decode cX12_begins 41 = .ok (.goto 4, 3) := by decide +kernel
theorem dX12_begins_44 : decode cX12_begins 44 = .ok (.iconst 0, 1) := by decide +kernel
theorem dX12_begins_45 : decode cX12_begins 45 = .ok (.bastore, 1) := by decide +kernel
theorem dX12_begins_46 : decode cX12_begins 46 = .ok (.iinc 1 1, 3) := by decide +kernel
theorem dX12_begins_49 : decode cX12_begins 49 = .ok (.goto (-47), 3) := by decide +kernel
theorem dX12_begins_52 : decode cX12_begins 52 = .ok (.aload_n 0, 1) := by decide +kernel
theorem dX12_begins_53 : decode cX12_begins 53 = .ok (.aload_n 0, 1) := by decide +kernel
theorem dX12_begins_54 : decode cX12_begins 54 = .ok (.invokevirtual 242, 3) := by decide +kernel
theorem dX12_begins_57 : decode cX12_begins 57 = .ok (.putfield 245, 3) := by decide +kernel
theorem dX12_begins_60 : decode cX12_begins 60 = .ok (.aload_n 0, 1) := by decide +kernel
theorem dX12_begins_61 : decode cX12_begins 61 = .ok (.getfield 94, 3) := by decide +kernel
theorem dX12_begins_64 : decode cX12_begins 64 = .ok (.iconst 0, 1) := by decide +kernel
theorem dX12_begins_65 : decode cX12_begins 65 = .ok (.aload_n 0, 1) := by decide +kernel
theorem dX12_begins_66 : decode cX12_begins 66 = .ok (.getfield 245, 3) := by decide +kernel
theorem dX12_begins_69 : decode cX12_begins 69 = .ok (.iastore, 1) := by decide +kernel
theorem dX12_begins_70 : decode cX12_begins 70 = .ok (.aload_n 0, 1) := by decide +kernel
theorem dX12_begins_71 : decode cX12_begins 71 = .ok (.getfield 94, 3) := by decide +kernel
theorem dX12_begins_74 : decode cX12_begins 74 = .ok (.iconst 1, 1) := by decide +kernel
theorem dX12_begins_75 : decode cX12_begins 75 = .ok (.iconst 0, 1) := by decide +kernel
theorem dX12_begins_76 : decode cX12_begins 76 = .ok (.iastore, 1) := by decide +kernel
theorem dX12_begins_77 : decode cX12_begins 77 = .ok (.aload_n 0, 1) := by decide +kernel
theorem dX12_begins_78 : decode cX12_begins 78 = .ok (.getfield 94, 3) := by decide +kernel
theorem dX12_begins_81 : decode cX12_begins 81 = .ok (.iconst 2, 1) := by decide +kernel
theorem dX12_begins_82 : decode cX12_begins 82 = .ok (.iconst 0, 1) := by decide +kernel
theorem dX12_begins_83 : decode cX12_begins 83 = .ok (.iastore, 1) := by decide +kernel
theorem dX12_begins_84 : decode cX12_begins 84 = .ok (.aload_n 0, 1) := by decide +kernel
theorem dX12_begins_85 : decode cX12_begins 85 = .ok (.getfield 94, 3) := by decide +kernel
theorem dX12_begins_88 : decode cX12_begins 88 = .ok (.iconst 3, 1) := by decide +kernel
theorem dX12_begins_89 : decode cX12_begins 89 = .ok (.iconst 0, 1) := by decide +kernel
theorem dX12_begins_90 : decode cX12_begins 90 = .ok (.iastore, 1) := by decide +kernel
theorem dX12_begins_91 : decode cX12_begins 91 = .ok (.aload_n 0, 1) := by decide +kernel
theorem dX12_begins_92 : decode cX12_begins 92 = .ok (.getfield 82, 3) := by decide +kernel
theorem dX12_begins_95 : decode cX12_begins 95 = .ok (.iconst 0, 1) := by decide +kernel
theorem dX12_begins_96 : decode cX12_begins 96 = .ok (.iconst 0, 1) := by decide +kernel
theorem dX12_begins_97 : decode cX12_begins 97 = .ok (.iastore, 1) := by decide +kernel
theorem dX12_begins_98 : decode cX12_begins 98 = .ok (.aload_n 0, 1) := by decide +kernel
theorem dX12_begins_99 : decode cX12_begins 99 = .ok (.iconst 0, 1) := by decide +kernel
theorem dX12_begins_100 : decode cX12_begins 100 = .ok (.putfield 213, 3) := by decide +kernel
theorem dX12_begins_103 : decode cX12_begins 103 = .ok (.aload_n 0, 1) := by decide +kernel
theorem dX12_begins_104 : decode cX12_begins 104 = .ok (.iconst 0, 1) := by decide +kernel
theorem dX12_begins_105 : decode cX12_begins 105 = .ok (.putfield 248, 3) := by decide +kernel
theorem dX12_begins_108 : decode cX12_begins 108 = .ok (.aload_n 0, 1) := by decide +kernel
theorem dX12_begins_109 : decode cX12_begins 109 = .ok (.iconst 0, 1) := by decide +kernel
theorem dX12_begins_110 : decode cX12_begins 110 = .ok (.putfield 251, 3) := by decide +kernel
theorem dX12_begins_113 : decode cX12_begins 113 = .ok (.iconst 0, 1) := by decide +kernel
theorem dX12_begins_114 : decode cX12_begins 114 = .ok (.istore_n 1, 1) := by decide +kernel
theorem dX12_begins_115 : decode cX12_begins 115 = .ok (.iload_n 1, 1) := by decide +kernel
theorem dX12_begins_116 : decode cX12_begins 116 = .ok (.iconst 4, 1) := by decide +kernel
theorem dX12_begins_117 : decode cX12_begins 117 = .ok (.if_icmp .ge 16, 3) := by decide +kernel
theorem dX12_begins_120 : decode cX12_begins 120 = .ok (.aload_n 0, 1) := by decide +kernel
theorem dX12_begins_121 : decode cX12_begins 121 = .ok (.getfield 97, 3) := by decide +kernel
theorem dX12_begins_124 : decode cX12_begins 124 = .ok (.iload_n 1, 1) := by decide +kernel
theorem dX12_begins_125 : decode cX12_begins 125 = .ok (.iconst 0, 1) := by decide +kernel
theorem dX12_begins_126 : decode cX12_begins 126 = .ok (.bastore, 1) := by decide +kernel
theorem dX12_begins_127 : decode cX12_begins 127 = .ok (.iinc 1 1, 3) := by decide +kernel
theorem dX12_begins_130 : decode cX12_begins 130 = .ok (.goto (-15), 3) := by decide +kernel
theorem dX12_begins_133 : decode cX12_begins 133 = .ok (.return_, 1) := by decide +kernel
theorem dX12_keeps_0 : decode cX12_keeps 0 = .ok (.aload_n 0, 1) := by decide +kernel
theorem dX12_keeps_1 : decode cX12_keeps 1 = .ok (.getfield 248, 3) := by decide +kernel
theorem dX12_keeps_4 : decode cX12_keeps 4 = .ok (.bipush 16, 2) := by decide +kernel
theorem dX12_keeps_6 : decode cX12_keeps 6 = .ok (.if_icmp .ne 46, 3) := by decide +kernel
theorem dX12_keeps_9 : decode cX12_keeps 9 = .ok (.iconst 1, 1) := by decide +kernel
theorem dX12_keeps_10 : decode cX12_keeps 10 = .ok (.istore_n 1, 1) := by decide +kernel
theorem dX12_keeps_11 : decode cX12_keeps 11 = .ok (.iload_n 1, 1) := by decide +kernel
theorem dX12_keeps_12 : decode cX12_keeps 12 = .ok (.bipush 16, 2) := by decide +kernel
theorem dX12_keeps_14 : decode cX12_keeps 14 = .ok (.if_icmp .ge 28, 3) := by decide +kernel
theorem dX12_keeps_17 : decode cX12_keeps 17 = .ok (.aload_n 0, 1) := by decide +kernel
theorem dX12_keeps_18 : decode cX12_keeps 18 = .ok (.bipush 28, 2) := by decide +kernel
theorem dX12_keeps_20 : decode cX12_keeps 20 = .ok (.iconst 5, 1) := by decide +kernel
theorem dX12_keeps_21 : decode cX12_keeps 21 = .ok (.iload_n 1, 1) := by decide +kernel
theorem dX12_keeps_22 : decode cX12_keeps 22 = .ok (.iadd, 1) := by decide +kernel
theorem dX12_keeps_23 : decode cX12_keeps 23 = .ok (.imul, 1) := by decide +kernel
theorem dX12_keeps_24 : decode cX12_keeps 24 = .ok (.bipush 28, 2) := by decide +kernel
theorem dX12_keeps_26 : decode cX12_keeps 26 = .ok (.iconst 5, 1) := by decide +kernel
theorem dX12_keeps_27 : decode cX12_keeps 27 = .ok (.iload_n 1, 1) := by decide +kernel
theorem dX12_keeps_28 : decode cX12_keeps 28 = .ok (.iadd, 1) := by decide +kernel
theorem dX12_keeps_29 : decode cX12_keeps 29 = .ok (.iconst 1, 1) := by decide +kernel
theorem dX12_keeps_30 : decode cX12_keeps 30 = .ok (.isub, 1) := by decide +kernel
theorem dX12_keeps_31 : decode cX12_keeps 31 = .ok (.imul, 1) := by decide +kernel
theorem dX12_keeps_32 : decode cX12_keeps 32 = .ok (.iconst 3, 1) := by decide +kernel
theorem dX12_keeps_33 : decode cX12_keeps 33 = .ok (.invokevirtual 254, 3) := by decide +kernel
theorem dX12_keeps_36 : decode cX12_keeps 36 = .ok (.iinc 1 1, 3) := by decide +kernel
theorem dX12_keeps_39 : decode cX12_keeps 39 = .ok (.goto (-28), 3) := by decide +kernel
theorem dX12_keeps_42 : decode cX12_keeps 42 = .ok (.aload_n 0, 1) := by decide +kernel
theorem dX12_keeps_43 : decode cX12_keeps 43 = .ok (.dup, 1) := by decide +kernel
theorem dX12_keeps_44 : decode cX12_keeps 44 = .ok (.getfield 248, 3) := by decide +kernel
theorem dX12_keeps_47 : decode cX12_keeps 47 = .ok (.iconst 1, 1) := by decide +kernel
theorem dX12_keeps_48 : decode cX12_keeps 48 = .ok (.isub, 1) := by decide +kernel
theorem dX12_keeps_49 : decode cX12_keeps 49 = .ok (.putfield 248, 3) := by decide +kernel
theorem dX12_keeps_52 : decode cX12_keeps 52 = .ok (.aload_n 0, 1) := by decide +kernel
theorem dX12_keeps_53 : decode cX12_keeps 53 = .ok (.iconst 0, 1) := by decide +kernel
theorem dX12_keeps_54 : decode cX12_keeps 54 = .ok (.bipush 28, 2) := by decide +kernel
theorem dX12_keeps_56 : decode cX12_keeps 56 = .ok (.iconst 5, 1) := by decide +kernel
theorem dX12_keeps_57 : decode cX12_keeps 57 = .ok (.aload_n 0, 1) := by decide +kernel
theorem dX12_keeps_58 : decode cX12_keeps 58 = .ok (.getfield 248, 3) := by decide +kernel
theorem dX12_keeps_61 : decode cX12_keeps 61 = .ok (.iadd, 1) := by decide +kernel
theorem dX12_keeps_62 : decode cX12_keeps 62 = .ok (.imul, 1) := by decide +kernel
theorem dX12_keeps_63 : decode cX12_keeps 63 = .ok (.iconst 3, 1) := by decide +kernel
theorem dX12_keeps_64 : decode cX12_keeps 64 = .ok (.invokevirtual 254, 3) := by decide +kernel
theorem dX12_keeps_67 : decode cX12_keeps 67 = .ok (.aload_n 0, 1) := by decide +kernel
theorem dX12_keeps_68 : decode cX12_keeps 68 = .ok (.dup, 1) := by decide +kernel
theorem dX12_keeps_69 : decode cX12_keeps 69 = .ok (.getfield 248, 3) := by decide +kernel
theorem dX12_keeps_72 : decode cX12_keeps 72 = .ok (.iconst 1, 1) := by decide +kernel
theorem dX12_keeps_73 : decode cX12_keeps 73 = .ok (.iadd, 1) := by decide +kernel
theorem dX12_keeps_74 : decode cX12_keeps 74 = .ok (.putfield 248, 3) := by decide +kernel
theorem dX12_keeps_77 : decode cX12_keeps 77 = .ok (.return_, 1) := by decide +kernel
theorem dX12_cakes_0 : decode cX12_cakes 0 = .ok (.aload_n 0, 1) := by decide +kernel
theorem dX12_cakes_1 : decode cX12_cakes 1 = .ok (.getfield 73, 3) := by decide +kernel
theorem dX12_cakes_4 : decode cX12_cakes 4 = .ok (.iconst 0, 1) := by decide +kernel
theorem dX12_cakes_5 : decode cX12_cakes 5 = .ok (.iaload, 1) := by decide +kernel
theorem dX12_cakes_6 : decode cX12_cakes 6 = .ok (.ireturn, 1) := by decide +kernel
theorem dX12_cakeOf_0 : decode cX12_cakeOf 0 = .ok (.aload_n 0, 1) := by decide +kernel
theorem dX12_cakeOf_1 : decode cX12_cakeOf 1 = .ok (.getfield 73, 3) := by decide +kernel
theorem dX12_cakeOf_4 : decode cX12_cakeOf 4 = .ok (.iconst 3, 1) := by decide +kernel
theorem dX12_cakeOf_5 : decode cX12_cakeOf 5 = .ok (.iconst 3, 1) := by decide +kernel
theorem dX12_cakeOf_6 : decode cX12_cakeOf 6 = .ok (.iload_n 1, 1) := by decide +kernel
theorem dX12_cakeOf_7 : decode cX12_cakeOf 7 = .ok (.imul, 1) := by decide +kernel
theorem dX12_cakeOf_8 : decode cX12_cakeOf 8 = .ok (.iadd, 1) := by decide +kernel
theorem dX12_cakeOf_9 : decode cX12_cakeOf 9 = .ok (.iload_n 2, 1) := by decide +kernel
theorem dX12_cakeOf_10 : decode cX12_cakeOf 10 = .ok (.iadd, 1) := by decide +kernel
theorem dX12_cakeOf_11 : decode cX12_cakeOf 11 = .ok (.iaload, 1) := by decide +kernel
theorem dX12_cakeOf_12 : decode cX12_cakeOf 12 = .ok (.ireturn, 1) := by decide +kernel
theorem dX12_hasSide_0 : decode cX12_hasSide 0 = .ok (.aload_n 0, 1) := by decide +kernel
theorem dX12_hasSide_1 : decode cX12_hasSide 1 = .ok (.iload_n 1, 1) := by decide +kernel
theorem dX12_hasSide_2 : decode cX12_hasSide 2 = .ok (.iconst 0, 1) := by decide +kernel
theorem dX12_hasSide_3 : decode cX12_hasSide 3 = .ok (.invokevirtual 239, 3) := by decide +kernel
theorem dX12_hasSide_6 : decode cX12_hasSide 6 = .ok (.iconst 1, 1) := by decide +kernel
theorem dX12_hasSide_7 : decode cX12_hasSide 7 = .ok (.if_icmp .eq 13, 3) := by decide +kernel
theorem dX12_hasSide_10 : decode cX12_hasSide 10 = .ok (.aload_n 0, 1) := by decide +kernel
theorem dX12_hasSide_11 : decode cX12_hasSide 11 = .ok (.iload_n 1, 1) := by decide +kernel
theorem dX12_hasSide_12 : decode cX12_hasSide 12 = .ok (.iconst 0, 1) := by decide +kernel
theorem dX12_hasSide_13 : decode cX12_hasSide 13 = .ok (.invokevirtual 239, 3) := by decide +kernel
theorem dX12_hasSide_16 : decode cX12_hasSide 16 = .ok (.iconst 3, 1) := by decide +kernel
theorem dX12_hasSide_17 : decode cX12_hasSide 17 = .ok (.if_icmp .ne 7, 3) := by decide +kernel
theorem dX12_hasSide_20 : decode cX12_hasSide 20 = .ok (.iconst 1, 1) := by decide +kernel
theorem dX12_hasSide_21 : decode cX12_hasSide 21 = .ok (.goto 4, 3) := by decide +kernel
theorem dX12_hasSide_24 : decode cX12_hasSide 24 = .ok (.iconst 0, 1) := by decide +kernel
theorem dX12_hasSide_25 : decode cX12_hasSide 25 = .ok (.ireturn, 1) := by decide +kernel
theorem dX12_sides_0 : decode cX12_sides 0 = .ok (.iconst 0, 1) := by decide +kernel
theorem dX12_sides_1 : decode cX12_sides 1 = .ok (.istore_n 1, 1) := by decide +kernel
theorem dX12_sides_2 : decode cX12_sides 2 = .ok (.iconst 0, 1) := by decide +kernel
theorem dX12_sides_3 : decode cX12_sides 3 = .ok (.istore_n 2, 1) := by decide +kernel
theorem dX12_sides_4 : decode cX12_sides 4 = .ok (.iload_n 2, 1) := by decide +kernel
theorem dX12_sides_5 : decode cX12_sides 5 = .ok (.aload_n 0, 1) := by decide +kernel
theorem dX12_sides_6 : decode cX12_sides 6 = .ok (.invokevirtual 209, 3) := by decide +kernel
theorem dX12_sides_9 : decode cX12_sides 9 = .ok (.if_icmp .ge 25, 3) := by decide +kernel
theorem dX12_sides_12 : decode cX12_sides 12 = .ok (.iload_n 1, 1) := by decide +kernel
theorem dX12_sides_13 : decode cX12_sides 13 = .ok (.aload_n 0, 1) := by decide +kernel
theorem dX12_sides_14 : decode cX12_sides 14 = .ok (.iload_n 2, 1) := by decide +kernel
theorem dX12_sides_15 : decode cX12_sides 15 = .ok (.invokevirtual 236, 3) := by decide +kernel
theorem dX12_sides_18 : decode cX12_sides 18 = .ok (.ifCond .eq 7, 3) := by decide +kernel
theorem dX12_sides_21 : decode cX12_sides 21 = .ok (.iconst 1, 1) := by decide +kernel
theorem dX12_sides_22 : decode cX12_sides 22 = .ok (.goto 4, 3) := by decide +kernel
theorem dX12_sides_25 : decode cX12_sides 25 = .ok (.iconst 0, 1) := by decide +kernel
theorem dX12_sides_26 : decode cX12_sides 26 = .ok (.iadd, 1) := by decide +kernel
theorem dX12_sides_27 : decode cX12_sides 27 = .ok (.istore_n 1, 1) := by decide +kernel
theorem dX12_sides_28 : decode cX12_sides 28 = .ok (.iinc 2 1, 3) := by decide +kernel
theorem dX12_sides_31 : decode cX12_sides 31 = .ok (.goto (-27), 3) := by decide +kernel
theorem dX12_sides_34 : decode cX12_sides 34 = .ok (.iload_n 1, 1) := by decide +kernel
theorem dX12_sides_35 : decode cX12_sides 35 = .ok (.ireturn, 1) := by decide +kernel
theorem dX12_ordersOf_0 : decode cX12_ordersOf 0 = .ok (.iconst 1, 1) := by decide +kernel
theorem dX12_ordersOf_1 : decode cX12_ordersOf 1 = .ok (.istore_n 1, 1) := by decide +kernel
theorem dX12_ordersOf_2 : decode cX12_ordersOf 2 = .ok (.iconst 2, 1) := by decide +kernel
theorem dX12_ordersOf_3 : decode cX12_ordersOf 3 = .ok (.istore_n 2, 1) := by decide +kernel
theorem dX12_ordersOf_4 : decode cX12_ordersOf 4 = .ok (.iload_n 2, 1) := by decide +kernel
theorem dX12_ordersOf_5 : decode cX12_ordersOf 5 = .ok (.iload_n 0, 1) := by decide +kernel
theorem dX12_ordersOf_6 : decode cX12_ordersOf 6 = .ok (.if_icmp .gt 13, 3) := by decide +kernel
theorem dX12_ordersOf_9 : decode cX12_ordersOf 9 = .ok (.iload_n 1, 1) := by decide +kernel
theorem dX12_ordersOf_10 : decode cX12_ordersOf 10 = .ok (.iload_n 2, 1) := by decide +kernel
theorem dX12_ordersOf_11 : decode cX12_ordersOf 11 = .ok (.imul, 1) := by decide +kernel
theorem dX12_ordersOf_12 : decode cX12_ordersOf 12 = .ok (.istore_n 1, 1) := by decide +kernel
theorem dX12_ordersOf_13 : decode cX12_ordersOf 13 = .ok (.iinc 2 1, 3) := by decide +kernel
theorem dX12_ordersOf_16 : decode cX12_ordersOf 16 = .ok (.goto (-12), 3) := by decide +kernel
theorem dX12_ordersOf_19 : decode cX12_ordersOf 19 = .ok (.iload_n 1, 1) := by decide +kernel
theorem dX12_ordersOf_20 : decode cX12_ordersOf 20 = .ok (.ireturn, 1) := by decide +kernel
theorem dX12_stacks_0 : decode cX12_stacks 0 = .ok (.aload_n 0, 1) := by decide +kernel
theorem dX12_stacks_1 : decode cX12_stacks 1 = .ok (.invokevirtual 209, 3) := by decide +kernel
theorem dX12_stacks_4 : decode cX12_stacks 4 = .ok (.invokestatic 258, 3) := by decide +kernel
theorem dX12_stacks_7 : decode cX12_stacks 7 = .ok (.aload_n 0, 1) := by decide +kernel
theorem dX12_stacks_8 : decode cX12_stacks 8 = .ok (.invokevirtual 261, 3) := by decide +kernel
theorem dX12_stacks_11 : decode cX12_stacks 11 = .ok (.ishl, 1) := by decide +kernel
theorem dX12_stacks_12 : decode cX12_stacks 12 = .ok (.ireturn, 1) := by decide +kernel
theorem dX12_numberNow_0 : decode cX12_numberNow 0 = .ok (.iconst 0, 1) := by decide +kernel
theorem dX12_numberNow_1 : decode cX12_numberNow 1 = .ok (.istore_n 1, 1) := by decide +kernel
theorem dX12_numberNow_2 : decode cX12_numberNow 2 = .ok (.iconst 0, 1) := by decide +kernel
theorem dX12_numberNow_3 : decode cX12_numberNow 3 = .ok (.istore_n 2, 1) := by decide +kernel
theorem dX12_numberNow_4 : decode cX12_numberNow 4 = .ok (.iload_n 2, 1) := by decide +kernel
theorem dX12_numberNow_5 : decode cX12_numberNow 5 = .ok (.aload_n 0, 1) := by decide +kernel
theorem dX12_numberNow_6 : decode cX12_numberNow 6 = .ok (.invokevirtual 209, 3) := by decide +kernel
theorem dX12_numberNow_9 : decode cX12_numberNow 9 = .ok (.if_icmp .ge 66, 3) := by decide +kernel
theorem dX12_numberNow_12 : decode cX12_numberNow 12 = .ok (.iconst 0, 1) := by decide +kernel
theorem dX12_numberNow_13 : decode cX12_numberNow 13 = .ok (.istore_n 3, 1) := by decide +kernel
theorem dX12_numberNow_14 : decode cX12_numberNow 14 = .ok (.iload_n 2, 1) := by decide +kernel
theorem dX12_numberNow_15 : decode cX12_numberNow 15 = .ok (.iconst 1, 1) := by decide +kernel
theorem dX12_numberNow_16 : decode cX12_numberNow 16 = .ok (.iadd, 1) := by decide +kernel
theorem dX12_numberNow_17 : decode cX12_numberNow 17 = .ok (.istore 4, 2) := by decide +kernel
theorem dX12_numberNow_19 : decode cX12_numberNow 19 = .ok (.iload 4, 2) := by decide +kernel
theorem dX12_numberNow_21 : decode cX12_numberNow 21 = .ok (.aload_n 0, 1) := by decide +kernel
theorem dX12_numberNow_22 : decode cX12_numberNow 22 = .ok (.invokevirtual 209, 3) := by decide +kernel
theorem dX12_numberNow_25 : decode cX12_numberNow 25 = .ok (.if_icmp .ge 33, 3) := by decide +kernel
theorem dX12_numberNow_28 : decode cX12_numberNow 28 = .ok (.iload_n 3, 1) := by decide +kernel
theorem dX12_numberNow_29 : decode cX12_numberNow 29 = .ok (.aload_n 0, 1) := by decide +kernel
theorem dX12_numberNow_30 : decode cX12_numberNow 30 = .ok (.getfield 101, 3) := by decide +kernel
theorem dX12_numberNow_33 : decode cX12_numberNow 33 = .ok (.iload 4, 2) := by decide +kernel
theorem dX12_numberNow_35 : decode cX12_numberNow 35 = .ok (.iaload, 1) := by decide +kernel
theorem dX12_numberNow_36 : decode cX12_numberNow 36 = .ok (.aload_n 0, 1) := by decide +kernel
theorem dX12_numberNow_37 : decode cX12_numberNow 37 = .ok (.getfield 101, 3) := by decide +kernel
theorem dX12_numberNow_40 : decode cX12_numberNow 40 = .ok (.iload_n 2, 1) := by decide +kernel
theorem dX12_numberNow_41 : decode cX12_numberNow 41 = .ok (.iaload, 1) := by decide +kernel
theorem dX12_numberNow_42 : decode cX12_numberNow 42 = .ok (.if_icmp .ge 7, 3) := by decide +kernel
theorem dX12_numberNow_45 : decode cX12_numberNow 45 = .ok (.iconst 1, 1) := by decide +kernel
theorem dX12_numberNow_46 : decode cX12_numberNow 46 = .ok (.goto 4, 3) := by decide +kernel
theorem dX12_numberNow_49 : decode cX12_numberNow 49 = .ok (.iconst 0, 1) := by decide +kernel
theorem dX12_numberNow_50 : decode cX12_numberNow 50 = .ok (.iadd, 1) := by decide +kernel
theorem dX12_numberNow_51 : decode cX12_numberNow 51 = .ok (.istore_n 3, 1) := by decide +kernel
theorem dX12_numberNow_52 : decode cX12_numberNow 52 = .ok (.iinc 4 1, 3) := by decide +kernel
theorem dX12_numberNow_55 : decode cX12_numberNow 55 = .ok (.goto (-36), 3) := by decide +kernel
theorem dX12_numberNow_58 : decode cX12_numberNow 58 = .ok (.iload_n 1, 1) := by decide +kernel
theorem dX12_numberNow_59 : decode cX12_numberNow 59 = .ok (.aload_n 0, 1) := by decide +kernel
theorem dX12_numberNow_60 : decode cX12_numberNow 60 = .ok (.invokevirtual 209, 3) := by decide +kernel
theorem dX12_numberNow_63 : decode cX12_numberNow 63 = .ok (.iload_n 2, 1) := by decide +kernel
theorem dX12_numberNow_64 : decode cX12_numberNow 64 = .ok (.isub, 1) := by decide +kernel
theorem dX12_numberNow_65 : decode cX12_numberNow 65 = .ok (.imul, 1) := by decide +kernel
theorem dX12_numberNow_66 : decode cX12_numberNow 66 = .ok (.iload_n 3, 1) := by decide +kernel
theorem dX12_numberNow_67 : decode cX12_numberNow 67 = .ok (.iadd, 1) := by decide +kernel
theorem dX12_numberNow_68 : decode cX12_numberNow 68 = .ok (.istore_n 1, 1) := by decide +kernel
theorem dX12_numberNow_69 : decode cX12_numberNow 69 = .ok (.iinc 2 1, 3) := by decide +kernel
theorem dX12_numberNow_72 : decode cX12_numberNow 72 = .ok (.goto (-68), 3) := by decide +kernel
theorem dX12_numberNow_75 : decode cX12_numberNow 75 = .ok (.iconst 0, 1) := by decide +kernel
theorem dX12_numberNow_76 : decode cX12_numberNow 76 = .ok (.istore_n 2, 1) := by decide +kernel
theorem dX12_numberNow_77 : decode cX12_numberNow 77 = .ok (.iload_n 2, 1) := by decide +kernel
theorem dX12_numberNow_78 : decode cX12_numberNow 78 = .ok (.aload_n 0, 1) := by decide +kernel
theorem dX12_numberNow_79 : decode cX12_numberNow 79 = .ok (.invokevirtual 209, 3) := by decide +kernel
theorem dX12_numberNow_82 : decode cX12_numberNow 82 = .ok (.if_icmp .ge 46, 3) := by decide +kernel
theorem dX12_numberNow_85 : decode cX12_numberNow 85 = .ok (.aload_n 0, 1) := by decide +kernel
theorem dX12_numberNow_86 : decode cX12_numberNow 86 = .ok (.aload_n 0, 1) := by decide +kernel
theorem dX12_numberNow_87 : decode cX12_numberNow 87 = .ok (.getfield 101, 3) := by decide +kernel
theorem dX12_numberNow_90 : decode cX12_numberNow 90 = .ok (.iload_n 2, 1) := by decide +kernel
theorem dX12_numberNow_91 : decode cX12_numberNow 91 = .ok (.iaload, 1) := by decide +kernel
theorem dX12_numberNow_92 : decode cX12_numberNow 92 = .ok (.invokevirtual 236, 3) := by decide +kernel
theorem dX12_numberNow_95 : decode cX12_numberNow 95 = .ok (.ifCond .eq 27, 3) := by decide +kernel
theorem dX12_numberNow_98 : decode cX12_numberNow 98 = .ok (.iconst 2, 1) := by decide +kernel
theorem dX12_numberNow_99 : decode cX12_numberNow 99 = .ok (.iload_n 1, 1) := by decide +kernel
theorem dX12_numberNow_100 : decode cX12_numberNow 100 = .ok (.imul, 1) := by decide +kernel
theorem dX12_numberNow_101 : decode cX12_numberNow 101 = .ok (.aload_n 0, 1) := by decide +kernel
theorem dX12_numberNow_102 : decode cX12_numberNow 102 = .ok (.getfield 104, 3) := by decide +kernel
theorem dX12_numberNow_105 : decode cX12_numberNow 105 = .ok (.aload_n 0, 1) := by decide +kernel
theorem dX12_numberNow_106 : decode cX12_numberNow 106 = .ok (.getfield 101, 3) := by decide +kernel
theorem dX12_numberNow_109 : decode cX12_numberNow 109 = .ok (.iload_n 2, 1) := by decide +kernel
theorem dX12_numberNow_110 : decode cX12_numberNow 110 = .ok (.iaload, 1) := by decide +kernel
theorem dX12_numberNow_111 : decode cX12_numberNow 111 = .ok (.baload, 1) := by decide +kernel
theorem dX12_numberNow_112 : decode cX12_numberNow 112 = .ok (.ifCond .eq 7, 3) := by decide +kernel
theorem dX12_numberNow_115 : decode cX12_numberNow 115 = .ok (.iconst 1, 1) := by decide +kernel
theorem dX12_numberNow_116 : decode cX12_numberNow 116 = .ok (.goto 4, 3) := by decide +kernel
theorem dX12_numberNow_119 : decode cX12_numberNow 119 = .ok (.iconst 0, 1) := by decide +kernel
theorem dX12_numberNow_120 : decode cX12_numberNow 120 = .ok (.iadd, 1) := by decide +kernel
theorem dX12_numberNow_121 : decode cX12_numberNow 121 = .ok (.istore_n 1, 1) := by decide +kernel
theorem dX12_numberNow_122 : decode cX12_numberNow 122 = .ok (.iinc 2 1, 3) := by decide +kernel
theorem dX12_numberNow_125 : decode cX12_numberNow 125 = .ok (.goto (-48), 3) := by decide +kernel
theorem dX12_numberNow_128 : decode cX12_numberNow 128 = .ok (.iload_n 1, 1) := by decide +kernel
theorem dX12_numberNow_129 : decode cX12_numberNow 129 = .ok (.ireturn, 1) := by decide +kernel
theorem dX12_lays_0 : decode cX12_lays 0 = .ok (.aload_n 0, 1) := by decide +kernel
theorem dX12_lays_1 : decode cX12_lays 1 = .ok (.invokevirtual 209, 3) := by decide +kernel
theorem dX12_lays_4 : decode cX12_lays 4 = .ok (.istore_n 2, 1) := by decide +kernel
theorem dX12_lays_5 : decode cX12_lays 5 = .ok (.iload_n 1, 1) := by decide +kernel
theorem dX12_lays_6 : decode cX12_lays 6 = .ok (.aload_n 0, 1) := by decide +kernel
theorem dX12_lays_7 : decode cX12_lays 7 = .ok (.invokevirtual 261, 3) := by decide +kernel
theorem dX12_lays_10 : decode cX12_lays 10 = .ok (.ishr, 1) := by decide +kernel
theorem dX12_lays_11 : decode cX12_lays 11 = .ok (.istore_n 3, 1) := by decide +kernel
theorem dX12_lays_12 : decode cX12_lays 12 = .ok (.iconst 0, 1) := by decide +kernel
theorem dX12_lays_13 : decode cX12_lays 13 = .ok (.istore 4, 2) := by decide +kernel
theorem dX12_lays_15 : decode cX12_lays 15 = .ok (.iconst 0, 1) := by decide +kernel
theorem dX12_lays_16 : decode cX12_lays 16 = .ok (.istore 5, 2) := by decide +kernel
theorem dX12_lays_18 : decode cX12_lays 18 = .ok (.iload 5, 2) := by decide +kernel
theorem dX12_lays_20 : decode cX12_lays 20 = .ok (.iload_n 2, 1) := by decide +kernel
theorem dX12_lays_21 : decode cX12_lays 21 = .ok (.if_icmp .ge 94, 3) := by decide +kernel
theorem dX12_lays_24 : decode cX12_lays 24 = .ok (.iload_n 2, 1) := by decide +kernel
theorem dX12_lays_25 : decode cX12_lays 25 = .ok (.iconst 1, 1) := by decide +kernel
theorem dX12_lays_26 : decode cX12_lays 26 = .ok (.isub, 1) := by decide +kernel
theorem dX12_lays_27 : decode cX12_lays 27 = .ok (.iload 5, 2) := by decide +kernel
theorem dX12_lays_29 : decode cX12_lays 29 = .ok (.isub, 1) := by decide +kernel
theorem dX12_lays_30 : decode cX12_lays 30 = .ok (.invokestatic 258, 3) := by decide +kernel
theorem dX12_lays_33 : decode cX12_lays 33 = .ok (.istore 6, 2) := by decide +kernel
theorem dX12_lays_35 : decode cX12_lays 35 = .ok (.iload_n 3, 1) := by decide +kernel
theorem dX12_lays_36 : decode cX12_lays 36 = .ok (.iload 6, 2) := by decide +kernel
theorem dX12_lays_38 : decode cX12_lays 38 = .ok (.idiv, 1) := by decide +kernel
theorem dX12_lays_39 : decode cX12_lays 39 = .ok (.istore 7, 2) := by decide +kernel
theorem dX12_lays_41 : decode cX12_lays 41 = .ok (.iload_n 3, 1) := by decide +kernel
theorem dX12_lays_42 : decode cX12_lays 42 = .ok (.iload 6, 2) := by decide +kernel
theorem dX12_lays_44 : decode cX12_lays 44 = .ok (.irem, 1) := by decide +kernel
theorem dX12_lays_45 : decode cX12_lays 45 = .ok (.istore_n 3, 1) := by decide +kernel
theorem dX12_lays_46 : decode cX12_lays 46 = .ok (.iconst 0, 1) := by decide +kernel
theorem dX12_lays_47 : decode cX12_lays 47 = .ok (.istore 8, 2) := by decide +kernel
theorem dX12_lays_49 : decode cX12_lays 49 = .ok (.iload 4, 2) := by decide +kernel
theorem dX12_lays_51 : decode cX12_lays 51 = .ok (.iload 8, 2) := by decide +kernel
theorem dX12_lays_53 : decode cX12_lays 53 = .ok (.ishr, 1) := by decide +kernel
theorem dX12_lays_54 : decode cX12_lays 54 = .ok (.iconst 1, 1) := by decide +kernel
theorem dX12_lays_55 : decode cX12_lays 55 = .ok (.iand, 1) := by decide +kernel
theorem dX12_lays_56 : decode cX12_lays 56 = .ok (.iconst 1, 1) := by decide +kernel
theorem dX12_lays_57 : decode cX12_lays 57 = .ok (.if_icmp .eq 8, 3) := by decide +kernel
theorem dX12_lays_60 : decode cX12_lays 60 = .ok (.iload 7, 2) := by decide +kernel
theorem dX12_lays_62 : decode cX12_lays 62 = .ok (.ifCond .le 29, 3) := by decide +kernel
theorem dX12_lays_65 : decode cX12_lays 65 = .ok (.iload 7, 2) := by decide +kernel
theorem dX12_lays_67 : decode cX12_lays 67 = .ok (.iload 4, 2) := by decide +kernel
theorem dX12_lays_69 : decode cX12_lays 69 = .ok (.iload 8, 2) := by decide +kernel
theorem dX12_lays_71 : decode cX12_lays 71 = .ok (.ishr, 1) := by decide +kernel
theorem dX12_lays_72 : decode cX12_lays 72 = .ok (.iconst 1, 1) := by decide +kernel
theorem dX12_lays_73 : decode cX12_lays 73 = .ok (.iand, 1) := by decide +kernel
theorem dX12_lays_74 : decode cX12_lays 74 = .ok (.ifCond .ne 7, 3) := by decide +kernel
theorem dX12_lays_77 : decode cX12_lays 77 = .ok (.iconst 1, 1) := by decide +kernel
theorem dX12_lays_78 : decode cX12_lays 78 = .ok (.goto 4, 3) := by decide +kernel
theorem dX12_lays_81 : decode cX12_lays 81 = .ok (.iconst 0, 1) := by decide +kernel
theorem dX12_lays_82 : decode cX12_lays 82 = .ok (.isub, 1) := by decide +kernel
theorem dX12_lays_83 : decode cX12_lays 83 = .ok (.istore 7, 2) := by decide +kernel
theorem dX12_lays_85 : decode cX12_lays 85 = .ok (.iinc 8 1, 3) := by decide +kernel
theorem dX12_lays_88 : decode cX12_lays 88 = .ok (.goto (-39), 3) := by decide +kernel
theorem dX12_lays_91 : decode cX12_lays 91 = .ok (.aload_n 0, 1) := by decide +kernel
theorem dX12_lays_92 : decode cX12_lays 92 = .ok (.getfield 101, 3) := by decide +kernel
theorem dX12_lays_95 : decode cX12_lays 95 = .ok (.iload 5, 2) := by decide +kernel
theorem dX12_lays_97 : decode cX12_lays 97 = .ok (.iload 8, 2) := by decide +kernel
theorem dX12_lays_99 : decode cX12_lays 99 = .ok (.iastore, 1) := by decide +kernel
theorem dX12_lays_100 : decode cX12_lays 100 = .ok (.iload 4, 2) := by decide +kernel
theorem dX12_lays_102 : decode cX12_lays 102 = .ok (.iconst 1, 1) := by decide +kernel
theorem dX12_lays_103 : decode cX12_lays 103 = .ok (.iload 8, 2) := by decide +kernel
theorem dX12_lays_105 : decode cX12_lays 105 = .ok (.ishl, 1) := by decide +kernel
theorem dX12_lays_106 : decode cX12_lays 106 = .ok (.ior, 1) := by decide +kernel
theorem dX12_lays_107 : decode cX12_lays 107 = .ok (.istore 4, 2) := by decide +kernel
theorem dX12_lays_109 : decode cX12_lays 109 = .ok (.iinc 5 1, 3) := by decide +kernel
theorem dX12_lays_112 : decode cX12_lays 112 = .ok (.goto (-94), 3) := by decide +kernel
theorem dX12_lays_115 : decode cX12_lays 115 = .ok (.aload_n 0, 1) := by decide +kernel
theorem dX12_lays_116 : decode cX12_lays 116 = .ok (.invokevirtual 261, 3) := by decide +kernel
theorem dX12_lays_119 : decode cX12_lays 119 = .ok (.istore 5, 2) := by decide +kernel
theorem dX12_lays_121 : decode cX12_lays 121 = .ok (.iconst 0, 1) := by decide +kernel
theorem dX12_lays_122 : decode cX12_lays 122 = .ok (.istore 6, 2) := by decide +kernel
theorem dX12_lays_124 : decode cX12_lays 124 = .ok (.iload 6, 2) := by decide +kernel
theorem dX12_lays_126 : decode cX12_lays 126 = .ok (.iload_n 2, 1) := by decide +kernel
theorem dX12_lays_127 : decode cX12_lays 127 = .ok (.if_icmp .ge 66, 3) := by decide +kernel
theorem dX12_lays_130 : decode cX12_lays 130 = .ok (.aload_n 0, 1) := by decide +kernel
theorem dX12_lays_131 : decode cX12_lays 131 = .ok (.getfield 104, 3) := by decide +kernel
theorem dX12_lays_134 : decode cX12_lays 134 = .ok (.aload_n 0, 1) := by decide +kernel
theorem dX12_lays_135 : decode cX12_lays 135 = .ok (.getfield 101, 3) := by decide +kernel
theorem dX12_lays_138 : decode cX12_lays 138 = .ok (.iload 6, 2) := by decide +kernel
theorem dX12_lays_140 : decode cX12_lays 140 = .ok (.iaload, 1) := by decide +kernel
theorem dX12_lays_141 : decode cX12_lays 141 = .ok (.iconst 0, 1) := by decide +kernel
theorem dX12_lays_142 : decode cX12_lays 142 = .ok (.bastore, 1) := by decide +kernel
theorem dX12_lays_143 : decode cX12_lays 143 = .ok (.aload_n 0, 1) := by decide +kernel
theorem dX12_lays_144 : decode cX12_lays 144 = .ok (.aload_n 0, 1) := by decide +kernel
theorem dX12_lays_145 : decode cX12_lays 145 = .ok (.getfield 101, 3) := by decide +kernel
theorem dX12_lays_148 : decode cX12_lays 148 = .ok (.iload 6, 2) := by decide +kernel
theorem dX12_lays_150 : decode cX12_lays 150 = .ok (.iaload, 1) := by decide +kernel
theorem dX12_lays_151 : decode cX12_lays 151 = .ok (.invokevirtual 236, 3) := by decide +kernel
theorem dX12_lays_154 : decode cX12_lays 154 = .ok (.ifCond .eq 33, 3) := by decide +kernel
theorem dX12_lays_157 : decode cX12_lays 157 = .ok (.iinc 5 (-1), 3) := by decide +kernel
theorem dX12_lays_160 : decode cX12_lays 160 = .ok (.aload_n 0, 1) := by decide +kernel
theorem dX12_lays_161 : decode cX12_lays 161 = .ok (.getfield 104, 3) := by decide +kernel
theorem dX12_lays_164 : decode cX12_lays 164 = .ok (.aload_n 0, 1) := by decide +kernel
theorem dX12_lays_165 : decode cX12_lays 165 = .ok (.getfield 101, 3) := by decide +kernel
theorem dX12_lays_168 : decode cX12_lays 168 = .ok (.iload 6, 2) := by decide +kernel
theorem dX12_lays_170 : decode cX12_lays 170 = .ok (.iaload, 1) := by decide +kernel
theorem dX12_lays_171 : decode cX12_lays 171 = .ok (.iload_n 1, 1) := by decide +kernel
theorem dX12_lays_172 : decode cX12_lays 172 = .ok (.iload 5, 2) := by decide +kernel
theorem dX12_lays_174 : decode cX12_lays 174 = .ok (.ishr, 1) := by decide +kernel
theorem dX12_lays_175 : decode cX12_lays 175 = .ok (.iconst 1, 1) := by decide +kernel
theorem dX12_lays_176 : decode cX12_lays 176 = .ok (.iand, 1) := by decide +kernel
theorem dX12_lays_177 : decode cX12_lays 177 = .ok (.iconst 1, 1) := by decide +kernel
theorem dX12_lays_178 : decode cX12_lays 178 = .ok (.if_icmp .ne 7, 3) := by decide +kernel
theorem dX12_lays_181 : decode cX12_lays 181 = .ok (.iconst 1, 1) := by decide +kernel
theorem dX12_lays_182 : decode cX12_lays 182 = .ok (.goto 4, 3) := by decide +kernel
theorem dX12_lays_185 : decode cX12_lays 185 = .ok (.iconst 0, 1) := by decide +kernel
theorem dX12_lays_186 : decode cX12_lays 186 = .ok (.bastore, 1) := by decide +kernel
theorem dX12_lays_187 : decode cX12_lays 187 = .ok (.iinc 6 1, 3) := by decide +kernel
theorem dX12_lays_190 : decode cX12_lays 190 = .ok (.goto (-66), 3) := by decide +kernel
theorem dX12_lays_193 : decode cX12_lays 193 = .ok (.return_, 1) := by decide +kernel
theorem dX12_factsFor_0 : decode cX12_factsFor 0 = .ok (.aload_n 0, 1) := by decide +kernel
theorem dX12_factsFor_1 : decode cX12_factsFor 1 = .ok (.getfield 88, 3) := by decide +kernel
theorem dX12_factsFor_4 : decode cX12_factsFor 4 = .ok (.iconst 0, 1) := by decide +kernel
theorem dX12_factsFor_5 : decode cX12_factsFor 5 = .ok (.iload_n 1, 1) := by decide +kernel
theorem dX12_factsFor_6 : decode cX12_factsFor 6 = .ok (.iastore, 1) := by decide +kernel
theorem dX12_factsFor_7 : decode cX12_factsFor 7 = .ok (.aload_n 0, 1) := by decide +kernel
theorem dX12_factsFor_8 : decode cX12_factsFor 8 = .ok (.getfield 88, 3) := by decide +kernel
theorem dX12_factsFor_11 : decode cX12_factsFor 11 = .ok (.iconst 1, 1) := by decide +kernel
theorem dX12_factsFor_12 : decode cX12_factsFor 12 = .ok (.aload_n 0, 1) := by decide +kernel
theorem dX12_factsFor_13 : decode cX12_factsFor 13 = .ok (.invokevirtual 209, 3) := by decide +kernel
theorem dX12_factsFor_16 : decode cX12_factsFor 16 = .ok (.iload_n 1, 1) := by decide +kernel
theorem dX12_factsFor_17 : decode cX12_factsFor 17 = .ok (.isub, 1) := by decide +kernel
theorem dX12_factsFor_18 : decode cX12_factsFor 18 = .ok (.iastore, 1) := by decide +kernel
theorem dX12_factsFor_19 : decode cX12_factsFor 19 = .ok (.aload_n 0, 1) := by decide +kernel
theorem dX12_factsFor_20 : decode cX12_factsFor 20 = .ok (.getfield 88, 3) := by decide +kernel
theorem dX12_factsFor_23 : decode cX12_factsFor 23 = .ok (.iconst 2, 1) := by decide +kernel
theorem dX12_factsFor_24 : decode cX12_factsFor 24 = .ok (.iconst 0, 1) := by decide +kernel
theorem dX12_factsFor_25 : decode cX12_factsFor 25 = .ok (.iastore, 1) := by decide +kernel
theorem dX12_factsFor_26 : decode cX12_factsFor 26 = .ok (.aload_n 0, 1) := by decide +kernel
theorem dX12_factsFor_27 : decode cX12_factsFor 27 = .ok (.getfield 88, 3) := by decide +kernel
theorem dX12_factsFor_30 : decode cX12_factsFor 30 = .ok (.iconst 3, 1) := by decide +kernel
theorem dX12_factsFor_31 : decode cX12_factsFor 31 = .ok (.iconst 0, 1) := by decide +kernel
theorem dX12_factsFor_32 : decode cX12_factsFor 32 = .ok (.iastore, 1) := by decide +kernel
theorem dX12_factsFor_33 : decode cX12_factsFor 33 = .ok (.iconst 0, 1) := by decide +kernel
theorem dX12_factsFor_34 : decode cX12_factsFor 34 = .ok (.istore_n 2, 1) := by decide +kernel
theorem dX12_factsFor_35 : decode cX12_factsFor 35 = .ok (.iload_n 2, 1) := by decide +kernel
theorem dX12_factsFor_36 : decode cX12_factsFor 36 = .ok (.iload_n 1, 1) := by decide +kernel
theorem dX12_factsFor_37 : decode cX12_factsFor 37 = .ok (.if_icmp .ge 75, 3) := by decide +kernel
theorem dX12_factsFor_40 : decode cX12_factsFor 40 = .ok (.aload_n 0, 1) := by decide +kernel
theorem dX12_factsFor_41 : decode cX12_factsFor 41 = .ok (.getfield 101, 3) := by decide +kernel
theorem dX12_factsFor_44 : decode cX12_factsFor 44 = .ok (.iload_n 2, 1) := by decide +kernel
theorem dX12_factsFor_45 : decode cX12_factsFor 45 = .ok (.iaload, 1) := by decide +kernel
theorem dX12_factsFor_46 : decode cX12_factsFor 46 = .ok (.istore_n 3, 1) := by decide +kernel
theorem dX12_factsFor_47 : decode cX12_factsFor 47 = .ok (.aload_n 0, 1) := by decide +kernel
theorem dX12_factsFor_48 : decode cX12_factsFor 48 = .ok (.getfield 88, 3) := by decide +kernel
theorem dX12_factsFor_51 : decode cX12_factsFor 51 = .ok (.iconst 2, 1) := by decide +kernel
theorem dX12_factsFor_52 : decode cX12_factsFor 52 = .ok (.dup2, 1) := by decide +kernel
theorem dX12_factsFor_53 : decode cX12_factsFor 53 = .ok (.iaload, 1) := by decide +kernel
theorem dX12_factsFor_54 : decode cX12_factsFor 54 = .ok (.aload_n 0, 1) := by decide +kernel
theorem dX12_factsFor_55 : decode cX12_factsFor 55 = .ok (.iload_n 3, 1) := by decide +kernel
theorem dX12_factsFor_56 : decode cX12_factsFor 56 = .ok (.iconst 0, 1) := by decide +kernel
theorem dX12_factsFor_57 : decode cX12_factsFor 57 = .ok (.invokevirtual 239, 3) := by decide +kernel
theorem dX12_factsFor_60 : decode cX12_factsFor 60 = .ok (.iconst 2, 1) := by decide +kernel
theorem dX12_factsFor_61 : decode cX12_factsFor 61 = .ok (.if_icmp .ne 14, 3) := by decide +kernel
theorem dX12_factsFor_64 : decode cX12_factsFor 64 = .ok (.iconst 2, 1) := by decide +kernel
theorem dX12_factsFor_65 : decode cX12_factsFor 65 = .ok (.aload_n 0, 1) := by decide +kernel
theorem dX12_factsFor_66 : decode cX12_factsFor 66 = .ok (.iload_n 3, 1) := by decide +kernel
theorem dX12_factsFor_67 : decode cX12_factsFor 67 = .ok (.iconst 1, 1) := by decide +kernel
theorem dX12_factsFor_68 : decode cX12_factsFor 68 = .ok (.invokevirtual 239, 3) := by decide +kernel
theorem dX12_factsFor_71 : decode cX12_factsFor 71 = .ok (.imul, 1) := by decide +kernel
theorem dX12_factsFor_72 : decode cX12_factsFor 72 = .ok (.goto 9, 3) := by decide +kernel
theorem dX12_factsFor_75 : decode cX12_factsFor 75 = .ok (.aload_n 0, 1) := by decide +kernel
theorem dX12_factsFor_76 : decode cX12_factsFor 76 = .ok (.iload_n 3, 1) := by decide +kernel
theorem dX12_factsFor_77 : decode cX12_factsFor 77 = .ok (.iconst 1, 1) := by decide +kernel
theorem dX12_factsFor_78 : decode cX12_factsFor 78 = .ok (.invokevirtual 239, 3) := by decide +kernel
theorem dX12_factsFor_81 : decode cX12_factsFor 81 = .ok (.iadd, 1) := by decide +kernel
theorem dX12_factsFor_82 : decode cX12_factsFor 82 = .ok (.iastore, 1) := by decide +kernel
theorem dX12_factsFor_83 : decode cX12_factsFor 83 = .ok (.aload_n 0, 1) := by decide +kernel
theorem dX12_factsFor_84 : decode cX12_factsFor 84 = .ok (.getfield 88, 3) := by decide +kernel
theorem dX12_factsFor_87 : decode cX12_factsFor 87 = .ok (.iconst 3, 1) := by decide +kernel
theorem dX12_factsFor_88 : decode cX12_factsFor 88 = .ok (.dup2, 1) := by decide +kernel
theorem dX12_factsFor_89 : decode cX12_factsFor 89 = .ok (.iaload, 1) := by decide +kernel
theorem dX12_factsFor_90 : decode cX12_factsFor 90 = .ok (.aload_n 0, 1) := by decide +kernel
theorem dX12_factsFor_91 : decode cX12_factsFor 91 = .ok (.getfield 104, 3) := by decide +kernel
theorem dX12_factsFor_94 : decode cX12_factsFor 94 = .ok (.iload_n 3, 1) := by decide +kernel
theorem dX12_factsFor_95 : decode cX12_factsFor 95 = .ok (.baload, 1) := by decide +kernel
theorem dX12_factsFor_96 : decode cX12_factsFor 96 = .ok (.ifCond .eq 7, 3) := by decide +kernel
theorem dX12_factsFor_99 : decode cX12_factsFor 99 = .ok (.iconst 1, 1) := by decide +kernel
theorem dX12_factsFor_100 : decode cX12_factsFor 100 = .ok (.goto 4, 3) := by decide +kernel
theorem dX12_factsFor_103 : decode cX12_factsFor 103 = .ok (.iconst 0, 1) := by decide +kernel
theorem dX12_factsFor_104 : decode cX12_factsFor 104 = .ok (.iadd, 1) := by decide +kernel
theorem dX12_factsFor_105 : decode cX12_factsFor 105 = .ok (.iastore, 1) := by decide +kernel
theorem dX12_factsFor_106 : decode cX12_factsFor 106 = .ok (.iinc 2 1, 3) := by decide +kernel
theorem dX12_factsFor_109 : decode cX12_factsFor 109 = .ok (.goto (-74), 3) := by decide +kernel
theorem dX12_factsFor_112 : decode cX12_factsFor 112 = .ok (.return_, 1) := by decide +kernel
theorem dX12_mayTurn_0 : decode cX12_mayTurn 0 = .ok (.iload_n 1, 1) := by decide +kernel
theorem dX12_mayTurn_1 : decode cX12_mayTurn 1 = .ok (.iconst 1, 1) := by decide +kernel
theorem dX12_mayTurn_2 : decode cX12_mayTurn 2 = .ok (.if_icmp .le 22, 3) := by decide +kernel
theorem dX12_mayTurn_5 : decode cX12_mayTurn 5 = .ok (.aload_n 0, 1) := by decide +kernel
theorem dX12_mayTurn_6 : decode cX12_mayTurn 6 = .ok (.aload_n 0, 1) := by decide +kernel
theorem dX12_mayTurn_7 : decode cX12_mayTurn 7 = .ok (.getfield 101, 3) := by decide +kernel
theorem dX12_mayTurn_10 : decode cX12_mayTurn 10 = .ok (.iload_n 1, 1) := by decide +kernel
theorem dX12_mayTurn_11 : decode cX12_mayTurn 11 = .ok (.iconst 1, 1) := by decide +kernel
theorem dX12_mayTurn_12 : decode cX12_mayTurn 12 = .ok (.isub, 1) := by decide +kernel
theorem dX12_mayTurn_13 : decode cX12_mayTurn 13 = .ok (.iaload, 1) := by decide +kernel
theorem dX12_mayTurn_14 : decode cX12_mayTurn 14 = .ok (.iconst 0, 1) := by decide +kernel
theorem dX12_mayTurn_15 : decode cX12_mayTurn 15 = .ok (.invokevirtual 239, 3) := by decide +kernel
theorem dX12_mayTurn_18 : decode cX12_mayTurn 18 = .ok (.iconst 3, 1) := by decide +kernel
theorem dX12_mayTurn_19 : decode cX12_mayTurn 19 = .ok (.if_icmp .ne 5, 3) := by decide +kernel
theorem dX12_mayTurn_22 : decode cX12_mayTurn 22 = .ok (.iconst 0, 1) := by decide +kernel
theorem dX12_mayTurn_23 : decode cX12_mayTurn 23 = .ok (.ireturn, 1) := by decide +kernel
theorem dX12_mayTurn_24 : decode cX12_mayTurn 24 = .ok (.aload_n 0, 1) := by decide +kernel
theorem dX12_mayTurn_25 : decode cX12_mayTurn 25 = .ok (.iload_n 1, 1) := by decide +kernel
theorem dX12_mayTurn_26 : decode cX12_mayTurn 26 = .ok (.invokevirtual 264, 3) := by decide +kernel
theorem dX12_mayTurn_29 : decode cX12_mayTurn 29 = .ok (.aload_n 0, 1) := by decide +kernel
theorem dX12_mayTurn_30 : decode cX12_mayTurn 30 = .ok (.getfield 73, 3) := by decide +kernel
theorem dX12_mayTurn_33 : decode cX12_mayTurn 33 = .ok (.iconst 1, 1) := by decide +kernel
theorem dX12_mayTurn_34 : decode cX12_mayTurn 34 = .ok (.iaload, 1) := by decide +kernel
theorem dX12_mayTurn_35 : decode cX12_mayTurn 35 = .ok (.ifCond .lt 16, 3) := by decide +kernel
theorem dX12_mayTurn_38 : decode cX12_mayTurn 38 = .ok (.aload_n 0, 1) := by decide +kernel
theorem dX12_mayTurn_39 : decode cX12_mayTurn 39 = .ok (.aload_n 0, 1) := by decide +kernel
theorem dX12_mayTurn_40 : decode cX12_mayTurn 40 = .ok (.getfield 73, 3) := by decide +kernel
theorem dX12_mayTurn_43 : decode cX12_mayTurn 43 = .ok (.iconst 1, 1) := by decide +kernel
theorem dX12_mayTurn_44 : decode cX12_mayTurn 44 = .ok (.iaload, 1) := by decide +kernel
theorem dX12_mayTurn_45 : decode cX12_mayTurn 45 = .ok (.invokevirtual 267, 3) := by decide +kernel
theorem dX12_mayTurn_48 : decode cX12_mayTurn 48 = .ok (.ifCond .ne 7, 3) := by decide +kernel
theorem dX12_mayTurn_51 : decode cX12_mayTurn 51 = .ok (.iconst 1, 1) := by decide +kernel
theorem dX12_mayTurn_52 : decode cX12_mayTurn 52 = .ok (.goto 4, 3) := by decide +kernel
theorem dX12_mayTurn_55 : decode cX12_mayTurn 55 = .ok (.iconst 0, 1) := by decide +kernel
theorem dX12_mayTurn_56 : decode cX12_mayTurn 56 = .ok (.ireturn, 1) := by decide +kernel
theorem dX12_costOf_0 : decode cX12_costOf 0 = .ok (.aload_n 0, 1) := by decide +kernel
theorem dX12_costOf_1 : decode cX12_costOf 1 = .ok (.iload_n 1, 1) := by decide +kernel
theorem dX12_costOf_2 : decode cX12_costOf 2 = .ok (.invokevirtual 264, 3) := by decide +kernel
theorem dX12_costOf_5 : decode cX12_costOf 5 = .ok (.aload_n 0, 1) := by decide +kernel
theorem dX12_costOf_6 : decode cX12_costOf 6 = .ok (.getfield 73, 3) := by decide +kernel
theorem dX12_costOf_9 : decode cX12_costOf 9 = .ok (.iconst 2, 1) := by decide +kernel
theorem dX12_costOf_10 : decode cX12_costOf 10 = .ok (.iaload, 1) := by decide +kernel
theorem dX12_costOf_11 : decode cX12_costOf 11 = .ok (.ifCond .ge 7, 3) := by decide +kernel
theorem dX12_costOf_14 : decode cX12_costOf 14 = .ok (.iconst 1, 1) := by decide +kernel
theorem dX12_costOf_15 : decode cX12_costOf 15 = .ok (.goto 13, 3) := by decide +kernel
theorem dX12_costOf_18 : decode cX12_costOf 18 = .ok (.aload_n 0, 1) := by decide +kernel
theorem dX12_costOf_19 : decode cX12_costOf 19 = .ok (.aload_n 0, 1) := by decide +kernel
theorem dX12_costOf_20 : decode cX12_costOf 20 = .ok (.getfield 73, 3) := by decide +kernel
theorem dX12_costOf_23 : decode cX12_costOf 23 = .ok (.iconst 2, 1) := by decide +kernel
theorem dX12_costOf_24 : decode cX12_costOf 24 = .ok (.iaload, 1) := by decide +kernel
theorem dX12_costOf_25 : decode cX12_costOf 25 = .ok (.invokevirtual 267, 3) := by decide +kernel
theorem dX12_costOf_28 : decode cX12_costOf 28 = .ok (.istore_n 2, 1) := by decide +kernel
theorem dX12_costOf_29 : decode cX12_costOf 29 = .ok (.iload_n 2, 1) := by decide +kernel
theorem dX12_costOf_30 : decode cX12_costOf 30 = .ok (.iconst 1, 1) := by decide +kernel
theorem dX12_costOf_31 : decode cX12_costOf 31 = .ok (.if_icmp .ge 7, 3) := by decide +kernel
theorem dX12_costOf_34 : decode cX12_costOf 34 = .ok (.iconst 1, 1) := by decide +kernel
theorem dX12_costOf_35 : decode cX12_costOf 35 = .ok (.goto 15, 3) := by decide +kernel
theorem dX12_costOf_38 : decode cX12_costOf 38 = .ok (.iload_n 2, 1) := by decide +kernel
theorem dX12_costOf_39 : decode cX12_costOf 39 = .ok (.bipush 9, 2) := by decide +kernel
theorem dX12_costOf_41 : decode cX12_costOf 41 = .ok (.if_icmp .le 8, 3) := by decide +kernel
theorem dX12_costOf_44 : decode cX12_costOf 44 = .ok (.bipush 9, 2) := by decide +kernel
theorem dX12_costOf_46 : decode cX12_costOf 46 = .ok (.goto 4, 3) := by decide +kernel
theorem dX12_costOf_49 : decode cX12_costOf 49 = .ok (.iload_n 2, 1) := by decide +kernel
theorem dX12_costOf_50 : decode cX12_costOf 50 = .ok (.ireturn, 1) := by decide +kernel
theorem dX12_turns_0 : decode cX12_turns 0 = .ok (.iconst 0, 1) := by decide +kernel
theorem dX12_turns_1 : decode cX12_turns 1 = .ok (.istore_n 2, 1) := by decide +kernel
theorem dX12_turns_2 : decode cX12_turns 2 = .ok (.iload_n 2, 1) := by decide +kernel
theorem dX12_turns_3 : decode cX12_turns 3 = .ok (.iload_n 1, 1) := by decide +kernel
theorem dX12_turns_4 : decode cX12_turns 4 = .ok (.iconst 1, 1) := by decide +kernel
theorem dX12_turns_5 : decode cX12_turns 5 = .ok (.isub, 1) := by decide +kernel
theorem dX12_turns_6 : decode cX12_turns 6 = .ok (.iload_n 2, 1) := by decide +kernel
theorem dX12_turns_7 : decode cX12_turns 7 = .ok (.isub, 1) := by decide +kernel
theorem dX12_turns_8 : decode cX12_turns 8 = .ok (.if_icmp .ge 43, 3) := by decide +kernel
theorem dX12_turns_11 : decode cX12_turns 11 = .ok (.aload_n 0, 1) := by decide +kernel
theorem dX12_turns_12 : decode cX12_turns 12 = .ok (.getfield 101, 3) := by decide +kernel
theorem dX12_turns_15 : decode cX12_turns 15 = .ok (.iload_n 2, 1) := by decide +kernel
theorem dX12_turns_16 : decode cX12_turns 16 = .ok (.iaload, 1) := by decide +kernel
theorem dX12_turns_17 : decode cX12_turns 17 = .ok (.istore_n 3, 1) := by decide +kernel
theorem dX12_turns_18 : decode cX12_turns 18 = .ok (.aload_n 0, 1) := by decide +kernel
theorem dX12_turns_19 : decode cX12_turns 19 = .ok (.getfield 101, 3) := by decide +kernel
theorem dX12_turns_22 : decode cX12_turns 22 = .ok (.iload_n 2, 1) := by decide +kernel
theorem dX12_turns_23 : decode cX12_turns 23 = .ok (.aload_n 0, 1) := by decide +kernel
theorem dX12_turns_24 : decode cX12_turns 24 = .ok (.getfield 101, 3) := by decide +kernel
theorem dX12_turns_27 : decode cX12_turns 27 = .ok (.iload_n 1, 1) := by decide +kernel
theorem dX12_turns_28 : decode cX12_turns 28 = .ok (.iconst 1, 1) := by decide +kernel
theorem dX12_turns_29 : decode cX12_turns 29 = .ok (.isub, 1) := by decide +kernel
theorem dX12_turns_30 : decode cX12_turns 30 = .ok (.iload_n 2, 1) := by decide +kernel
theorem dX12_turns_31 : decode cX12_turns 31 = .ok (.isub, 1) := by decide +kernel
theorem dX12_turns_32 : decode cX12_turns 32 = .ok (.iaload, 1) := by decide +kernel
theorem dX12_turns_33 : decode cX12_turns 33 = .ok (.iastore, 1) := by decide +kernel
theorem dX12_turns_34 : decode cX12_turns 34 = .ok (.aload_n 0, 1) := by decide +kernel
theorem dX12_turns_35 : decode cX12_turns 35 = .ok (.getfield 101, 3) := by decide +kernel
theorem dX12_turns_38 : decode cX12_turns 38 = .ok (.iload_n 1, 1) := by decide +kernel
theorem dX12_turns_39 : decode cX12_turns 39 = .ok (.iconst 1, 1) := by decide +kernel
theorem dX12_turns_40 : decode cX12_turns 40 = .ok (.isub, 1) := by decide +kernel
theorem dX12_turns_41 : decode cX12_turns 41 = .ok (.iload_n 2, 1) := by decide +kernel
theorem dX12_turns_42 : decode cX12_turns 42 = .ok (.isub, 1) := by decide +kernel
theorem dX12_turns_43 : decode cX12_turns 43 = .ok (.iload_n 3, 1) := by decide +kernel
theorem dX12_turns_44 : decode cX12_turns 44 = .ok (.iastore, 1) := by decide +kernel
theorem dX12_turns_45 : decode cX12_turns 45 = .ok (.iinc 2 1, 3) := by decide +kernel
theorem dX12_turns_48 : decode cX12_turns 48 = .ok (.goto (-46), 3) := by decide +kernel
theorem dX12_turns_51 : decode cX12_turns 51 = .ok (.iconst 0, 1) := by decide +kernel
theorem dX12_turns_52 : decode cX12_turns 52 = .ok (.istore_n 2, 1) := by decide +kernel
theorem dX12_turns_53 : decode cX12_turns 53 = .ok (.iload_n 2, 1) := by decide +kernel
theorem dX12_turns_54 : decode cX12_turns 54 = .ok (.iload_n 1, 1) := by decide +kernel
theorem dX12_turns_55 : decode cX12_turns 55 = .ok (.if_icmp .ge 52, 3) := by decide +kernel
theorem dX12_turns_58 : decode cX12_turns 58 = .ok (.aload_n 0, 1) := by decide +kernel
theorem dX12_turns_59 : decode cX12_turns 59 = .ok (.getfield 104, 3) := by decide +kernel
theorem dX12_turns_62 : decode cX12_turns 62 = .ok (.aload_n 0, 1) := by decide +kernel
theorem dX12_turns_63 : decode cX12_turns 63 = .ok (.getfield 101, 3) := by decide +kernel
theorem dX12_turns_66 : decode cX12_turns 66 = .ok (.iload_n 2, 1) := by decide +kernel
theorem dX12_turns_67 : decode cX12_turns 67 = .ok (.iaload, 1) := by decide +kernel
theorem dX12_turns_68 : decode cX12_turns 68 = .ok (.aload_n 0, 1) := by decide +kernel
theorem dX12_turns_69 : decode cX12_turns 69 = .ok (.aload_n 0, 1) := by decide +kernel
theorem dX12_turns_70 : decode cX12_turns 70 = .ok (.getfield 101, 3) := by decide +kernel
theorem dX12_turns_73 : decode cX12_turns 73 = .ok (.iload_n 2, 1) := by decide +kernel
theorem dX12_turns_74 : decode cX12_turns 74 = .ok (.iaload, 1) := by decide +kernel
theorem dX12_turns_75 : decode cX12_turns 75 = .ok (.invokevirtual 236, 3) := by decide +kernel
theorem dX12_turns_78 : decode cX12_turns 78 = .ok (.ifCond .eq 21, 3) := by decide +kernel
theorem dX12_turns_81 : decode cX12_turns 81 = .ok (.aload_n 0, 1) := by decide +kernel
theorem dX12_turns_82 : decode cX12_turns 82 = .ok (.getfield 104, 3) := by decide +kernel
theorem dX12_turns_85 : decode cX12_turns 85 = .ok (.aload_n 0, 1) := by decide +kernel
theorem dX12_turns_86 : decode cX12_turns 86 = .ok (.getfield 101, 3) := by decide +kernel
theorem dX12_turns_89 : decode cX12_turns 89 = .ok (.iload_n 2, 1) := by decide +kernel
theorem dX12_turns_90 : decode cX12_turns 90 = .ok (.iaload, 1) := by decide +kernel
theorem dX12_turns_91 : decode cX12_turns 91 = .ok (.baload, 1) := by decide +kernel
theorem dX12_turns_92 : decode cX12_turns 92 = .ok (.ifCond .ne 7, 3) := by decide +kernel
theorem dX12_turns_95 : decode cX12_turns 95 = .ok (.iconst 1, 1) := by decide +kernel
theorem dX12_turns_96 : decode cX12_turns 96 = .ok (.goto 4, 3) := by decide +kernel
theorem dX12_turns_99 : decode cX12_turns 99 = .ok (.iconst 0, 1) := by decide +kernel
theorem dX12_turns_100 : decode cX12_turns 100 = .ok (.bastore, 1) := by decide +kernel
theorem dX12_turns_101 : decode cX12_turns 101 = .ok (.iinc 2 1, 3) := by decide +kernel
theorem dX12_turns_104 : decode cX12_turns 104 = .ok (.goto (-51), 3) := by decide +kernel
theorem dX12_turns_107 : decode cX12_turns 107 = .ok (.return_, 1) := by decide +kernel
theorem dX12_isServed_0 : decode cX12_isServed 0 = .ok (.iconst 1, 1) := by decide +kernel
theorem dX12_isServed_1 : decode cX12_isServed 1 = .ok (.istore_n 1, 1) := by decide +kernel
theorem dX12_isServed_2 : decode cX12_isServed 2 = .ok (.iconst 0, 1) := by decide +kernel
theorem dX12_isServed_3 : decode cX12_isServed 3 = .ok (.istore_n 2, 1) := by decide +kernel
theorem dX12_isServed_4 : decode cX12_isServed 4 = .ok (.iload_n 2, 1) := by decide +kernel
theorem dX12_isServed_5 : decode cX12_isServed 5 = .ok (.aload_n 0, 1) := by decide +kernel
theorem dX12_isServed_6 : decode cX12_isServed 6 = .ok (.invokevirtual 209, 3) := by decide +kernel
theorem dX12_isServed_9 : decode cX12_isServed 9 = .ok (.if_icmp .ge 64, 3) := by decide +kernel
theorem dX12_isServed_12 : decode cX12_isServed 12 = .ok (.iload_n 1, 1) := by decide +kernel
theorem dX12_isServed_13 : decode cX12_isServed 13 = .ok (.ifCond .eq 52, 3) := by decide +kernel
theorem dX12_isServed_16 : decode cX12_isServed 16 = .ok (.aload_n 0, 1) := by decide +kernel
theorem dX12_isServed_17 : decode cX12_isServed 17 = .ok (.getfield 104, 3) := by decide +kernel
theorem dX12_isServed_20 : decode cX12_isServed 20 = .ok (.aload_n 0, 1) := by decide +kernel
theorem dX12_isServed_21 : decode cX12_isServed 21 = .ok (.getfield 101, 3) := by decide +kernel
theorem dX12_isServed_24 : decode cX12_isServed 24 = .ok (.iload_n 2, 1) := by decide +kernel
theorem dX12_isServed_25 : decode cX12_isServed 25 = .ok (.iaload, 1) := by decide +kernel
theorem dX12_isServed_26 : decode cX12_isServed 26 = .ok (.baload, 1) := by decide +kernel
theorem dX12_isServed_27 : decode cX12_isServed 27 = .ok (.ifCond .ne 38, 3) := by decide +kernel
theorem dX12_isServed_30 : decode cX12_isServed 30 = .ok (.iload_n 2, 1) := by decide +kernel
theorem dX12_isServed_31 : decode cX12_isServed 31 = .ok (.ifCond .eq 30, 3) := by decide +kernel
theorem dX12_isServed_34 : decode cX12_isServed 34 = .ok (.aload_n 0, 1) := by decide +kernel
theorem dX12_isServed_35 : decode cX12_isServed 35 = .ok (.aload_n 0, 1) := by decide +kernel
theorem dX12_isServed_36 : decode cX12_isServed 36 = .ok (.getfield 101, 3) := by decide +kernel
theorem dX12_isServed_39 : decode cX12_isServed 39 = .ok (.iload_n 2, 1) := by decide +kernel
theorem dX12_isServed_40 : decode cX12_isServed 40 = .ok (.iconst 1, 1) := by decide +kernel
theorem dX12_isServed_41 : decode cX12_isServed 41 = .ok (.isub, 1) := by decide +kernel
theorem dX12_isServed_42 : decode cX12_isServed 42 = .ok (.iaload, 1) := by decide +kernel
theorem dX12_isServed_43 : decode cX12_isServed 43 = .ok (.iconst 1, 1) := by decide +kernel
theorem dX12_isServed_44 : decode cX12_isServed 44 = .ok (.invokevirtual 239, 3) := by decide +kernel
theorem dX12_isServed_47 : decode cX12_isServed 47 = .ok (.aload_n 0, 1) := by decide +kernel
theorem dX12_isServed_48 : decode cX12_isServed 48 = .ok (.aload_n 0, 1) := by decide +kernel
theorem dX12_isServed_49 : decode cX12_isServed 49 = .ok (.getfield 101, 3) := by decide +kernel
theorem dX12_isServed_52 : decode cX12_isServed 52 = .ok (.iload_n 2, 1) := by decide +kernel
theorem dX12_isServed_53 : decode cX12_isServed 53 = .ok (.iaload, 1) := by decide +kernel
theorem dX12_isServed_54 : decode cX12_isServed 54 = .ok (.iconst 1, 1) := by decide +kernel
theorem dX12_isServed_55 : decode cX12_isServed 55 = .ok (.invokevirtual 239, 3) := by decide +kernel
theorem dX12_isServed_58 : decode cX12_isServed 58 = .ok (.if_icmp .ge 7, 3) := by decide +kernel
theorem dX12_isServed_61 : decode cX12_isServed 61 = .ok (.iconst 1, 1) := by decide +kernel
theorem dX12_isServed_62 : decode cX12_isServed 62 = .ok (.goto 4, 3) := by decide +kernel
theorem dX12_isServed_65 : decode cX12_isServed 65 = .ok (.iconst 0, 1) := by decide +kernel
theorem dX12_isServed_66 : decode cX12_isServed 66 = .ok (.istore_n 1, 1) := by decide +kernel
theorem dX12_isServed_67 : decode cX12_isServed 67 = .ok (.iinc 2 1, 3) := by decide +kernel
theorem dX12_isServed_70 : decode cX12_isServed 70 = .ok (.goto (-66), 3) := by decide +kernel
theorem dX12_isServed_73 : decode cX12_isServed 73 = .ok (.iload_n 1, 1) := by decide +kernel
theorem dX12_isServed_74 : decode cX12_isServed 74 = .ok (.ireturn, 1) := by decide +kernel
theorem dX12_isWishedNow_0 : decode cX12_isWishedNow 0 = .ok (.iconst 1, 1) := by decide +kernel
theorem dX12_isWishedNow_1 : decode cX12_isWishedNow 1 = .ok (.istore_n 1, 1) := by decide +kernel
theorem dX12_isWishedNow_2 : decode cX12_isWishedNow 2 = .ok (.iconst 0, 1) := by decide +kernel
theorem dX12_isWishedNow_3 : decode cX12_isWishedNow 3 = .ok (.istore_n 2, 1) := by decide +kernel
theorem dX12_isWishedNow_4 : decode cX12_isWishedNow 4 = .ok (.iload_n 2, 1) := by decide +kernel
theorem dX12_isWishedNow_5 : decode cX12_isWishedNow 5 = .ok (.aload_n 0, 1) := by decide +kernel
theorem dX12_isWishedNow_6 : decode cX12_isWishedNow 6 = .ok (.invokevirtual 209, 3) := by decide +kernel
theorem dX12_isWishedNow_9 : decode cX12_isWishedNow 9 = .ok (.if_icmp .ge 74, 3) := by decide +kernel
theorem dX12_isWishedNow_12 : decode cX12_isWishedNow 12 = .ok (.aload_n 0, 1) := by decide +kernel
theorem dX12_isWishedNow_13 : decode cX12_isWishedNow 13 = .ok (.getfield 85, 3) := by decide +kernel
theorem dX12_isWishedNow_16 : decode cX12_isWishedNow 16 = .ok (.iconst 2, 1) := by decide +kernel
theorem dX12_isWishedNow_17 : decode cX12_isWishedNow 17 = .ok (.iload_n 2, 1) := by decide +kernel
theorem dX12_isWishedNow_18 : decode cX12_isWishedNow 18 = .ok (.imul, 1) := by decide +kernel
theorem dX12_isWishedNow_19 : decode cX12_isWishedNow 19 = .ok (.iaload, 1) := by decide +kernel
theorem dX12_isWishedNow_20 : decode cX12_isWishedNow 20 = .ok (.istore_n 3, 1) := by decide +kernel
theorem dX12_isWishedNow_21 : decode cX12_isWishedNow 21 = .ok (.iload_n 1, 1) := by decide +kernel
theorem dX12_isWishedNow_22 : decode cX12_isWishedNow 22 = .ok (.ifCond .eq 53, 3) := by decide +kernel
theorem dX12_isWishedNow_25 : decode cX12_isWishedNow 25 = .ok (.aload_n 0, 1) := by decide +kernel
theorem dX12_isWishedNow_26 : decode cX12_isWishedNow 26 = .ok (.getfield 101, 3) := by decide +kernel
theorem dX12_isWishedNow_29 : decode cX12_isWishedNow 29 = .ok (.iload_n 2, 1) := by decide +kernel
theorem dX12_isWishedNow_30 : decode cX12_isWishedNow 30 = .ok (.iaload, 1) := by decide +kernel
theorem dX12_isWishedNow_31 : decode cX12_isWishedNow 31 = .ok (.iload_n 3, 1) := by decide +kernel
theorem dX12_isWishedNow_32 : decode cX12_isWishedNow 32 = .ok (.if_icmp .ne 43, 3) := by decide +kernel
theorem dX12_isWishedNow_35 : decode cX12_isWishedNow 35 = .ok (.aload_n 0, 1) := by decide +kernel
theorem dX12_isWishedNow_36 : decode cX12_isWishedNow 36 = .ok (.getfield 104, 3) := by decide +kernel
theorem dX12_isWishedNow_39 : decode cX12_isWishedNow 39 = .ok (.iload_n 3, 1) := by decide +kernel
theorem dX12_isWishedNow_40 : decode cX12_isWishedNow 40 = .ok (.baload, 1) := by decide +kernel
theorem dX12_isWishedNow_41 : decode cX12_isWishedNow 41 = .ok (.aload_n 0, 1) := by decide +kernel
theorem dX12_isWishedNow_42 : decode cX12_isWishedNow 42 = .ok (.iload_n 3, 1) := by decide +kernel
theorem dX12_isWishedNow_43 : decode cX12_isWishedNow 43 = .ok (.invokevirtual 236, 3) := by decide +kernel
theorem dX12_isWishedNow_46 : decode cX12_isWishedNow 46 = .ok (.ifCond .eq 21, 3) := by decide +kernel
theorem dX12_isWishedNow_49 : decode cX12_isWishedNow 49 = .ok (.aload_n 0, 1) := by decide +kernel
theorem dX12_isWishedNow_50 : decode cX12_isWishedNow 50 = .ok (.getfield 85, 3) := by decide +kernel
theorem dX12_isWishedNow_53 : decode cX12_isWishedNow 53 = .ok (.iconst 2, 1) := by decide +kernel
theorem dX12_isWishedNow_54 : decode cX12_isWishedNow 54 = .ok (.iload_n 2, 1) := by decide +kernel
theorem dX12_isWishedNow_55 : decode cX12_isWishedNow 55 = .ok (.imul, 1) := by decide +kernel
theorem dX12_isWishedNow_56 : decode cX12_isWishedNow 56 = .ok (.iconst 1, 1) := by decide +kernel
theorem dX12_isWishedNow_57 : decode cX12_isWishedNow 57 = .ok (.iadd, 1) := by decide +kernel
theorem dX12_isWishedNow_58 : decode cX12_isWishedNow 58 = .ok (.iaload, 1) := by decide +kernel
theorem dX12_isWishedNow_59 : decode cX12_isWishedNow 59 = .ok (.iconst 1, 1) := by decide +kernel
theorem dX12_isWishedNow_60 : decode cX12_isWishedNow 60 = .ok (.if_icmp .ne 7, 3) := by decide +kernel
theorem dX12_isWishedNow_63 : decode cX12_isWishedNow 63 = .ok (.iconst 1, 1) := by decide +kernel
theorem dX12_isWishedNow_64 : decode cX12_isWishedNow 64 = .ok (.goto 4, 3) := by decide +kernel
theorem dX12_isWishedNow_67 : decode cX12_isWishedNow 67 = .ok (.iconst 0, 1) := by decide +kernel
theorem dX12_isWishedNow_68 : decode cX12_isWishedNow 68 = .ok (.if_icmp .ne 7, 3) := by decide +kernel
theorem dX12_isWishedNow_71 : decode cX12_isWishedNow 71 = .ok (.iconst 1, 1) := by decide +kernel
theorem dX12_isWishedNow_72 : decode cX12_isWishedNow 72 = .ok (.goto 4, 3) := by decide +kernel
theorem dX12_isWishedNow_75 : decode cX12_isWishedNow 75 = .ok (.iconst 0, 1) := by decide +kernel
theorem dX12_isWishedNow_76 : decode cX12_isWishedNow 76 = .ok (.istore_n 1, 1) := by decide +kernel
theorem dX12_isWishedNow_77 : decode cX12_isWishedNow 77 = .ok (.iinc 2 1, 3) := by decide +kernel
theorem dX12_isWishedNow_80 : decode cX12_isWishedNow 80 = .ok (.goto (-76), 3) := by decide +kernel
theorem dX12_isWishedNow_83 : decode cX12_isWishedNow 83 = .ok (.iload_n 1, 1) := by decide +kernel
theorem dX12_isWishedNow_84 : decode cX12_isWishedNow 84 = .ok (.ireturn, 1) := by decide +kernel
theorem dX12_cake_0 : decode cX12_cake 0 = .ok (.aload_n 0, 1) := by decide +kernel
theorem dX12_cake_1 : decode cX12_cake 1 = .ok (.iconst 0, 1) := by decide +kernel
theorem dX12_cake_2 : decode cX12_cake 2 = .ok (.putfield 1, 3) := by decide +kernel
theorem dX12_cake_5 : decode cX12_cake 5 = .ok (.iload_n 1, 1) := by decide +kernel
theorem dX12_cake_6 : decode cX12_cake 6 = .ok (.ifCond .lt 20, 3) := by decide +kernel
theorem dX12_cake_9 : decode cX12_cake 9 = .ok (.iload_n 1, 1) := by decide +kernel
theorem dX12_cake_10 : decode cX12_cake 10 = .ok (.aload_n 0, 1) := by decide +kernel
theorem dX12_cake_11 : decode cX12_cake 11 = .ok (.invokevirtual 209, 3) := by decide +kernel
theorem dX12_cake_14 : decode cX12_cake 14 = .ok (.if_icmp .ge 12, 3) := by decide +kernel
theorem dX12_cake_17 : decode cX12_cake 17 = .ok (.iload_n 2, 1) := by decide +kernel
theorem dX12_cake_18 : decode cX12_cake 18 = .ok (.iconst 0, 1) := by decide +kernel
theorem dX12_cake_19 : decode cX12_cake 19 = .ok (.iconst 3, 1) := by decide +kernel
theorem dX12_cake_20 : decode cX12_cake 20 = .ok (.invokestatic 270, 3) := by decide +kernel
theorem dX12_cake_23 : decode cX12_cake 23 = .ok (.ifCond .ne 5, 3) := by decide +kernel
theorem dX12_cake_26 : decode cX12_cake 26 = .ok (.iconst (-1), 1) := by decide +kernel
theorem dX12_cake_27 : decode cX12_cake 27 = .ok (.ireturn, 1) := by decide +kernel
theorem dX12_cake_28 : decode cX12_cake 28 = .ok (.aload_n 0, 1) := by decide +kernel
theorem dX12_cake_29 : decode cX12_cake 29 = .ok (.aload_n 0, 1) := by decide +kernel
theorem dX12_cake_30 : decode cX12_cake 30 = .ok (.getfield 94, 3) := by decide +kernel
theorem dX12_cake_33 : decode cX12_cake 33 = .ok (.iconst 0, 1) := by decide +kernel
theorem dX12_cake_34 : decode cX12_cake 34 = .ok (.iaload, 1) := by decide +kernel
theorem dX12_cake_35 : decode cX12_cake 35 = .ok (.invokevirtual 274, 3) := by decide +kernel
theorem dX12_cake_38 : decode cX12_cake 38 = .ok (.iconst 0, 1) := by decide +kernel
theorem dX12_cake_39 : decode cX12_cake 39 = .ok (.istore_n 3, 1) := by decide +kernel
theorem dX12_cake_40 : decode cX12_cake 40 = .ok (.aload_n 0, 1) := by decide +kernel
theorem dX12_cake_41 : decode cX12_cake 41 = .ok (.getfield 101, 3) := by decide +kernel
theorem dX12_cake_44 : decode cX12_cake 44 = .ok (.iload_n 3, 1) := by decide +kernel
theorem dX12_cake_45 : decode cX12_cake 45 = .ok (.iaload, 1) := by decide +kernel
theorem dX12_cake_46 : decode cX12_cake 46 = .ok (.iload_n 1, 1) := by decide +kernel
theorem dX12_cake_47 : decode cX12_cake 47 = .ok (.if_icmp .eq 9, 3) := by decide +kernel
theorem dX12_cake_50 : decode cX12_cake 50 = .ok (.iinc 3 1, 3) := by decide +kernel
theorem dX12_cake_53 : decode cX12_cake 53 = .ok (.goto (-13), 3) := by decide +kernel
theorem dX12_cake_56 : decode cX12_cake 56 = .ok (.iload_n 2, 1) := by decide +kernel
theorem dX12_cake_57 : decode cX12_cake 57 = .ok (.iconst 2, 1) := by decide +kernel
theorem dX12_cake_58 : decode cX12_cake 58 = .ok (.if_icmp .ge 12, 3) := by decide +kernel
theorem dX12_cake_61 : decode cX12_cake 61 = .ok (.aload_n 0, 1) := by decide +kernel
theorem dX12_cake_62 : decode cX12_cake 62 = .ok (.iload_n 1, 1) := by decide +kernel
theorem dX12_cake_63 : decode cX12_cake 63 = .ok (.iload_n 2, 1) := by decide +kernel
theorem dX12_cake_64 : decode cX12_cake 64 = .ok (.invokevirtual 239, 3) := by decide +kernel
theorem dX12_cake_67 : decode cX12_cake 67 = .ok (.goto 26, 3) := by decide +kernel
theorem dX12_cake_70 : decode cX12_cake 70 = .ok (.iload_n 2, 1) := by decide +kernel
theorem dX12_cake_71 : decode cX12_cake 71 = .ok (.iconst 2, 1) := by decide +kernel
theorem dX12_cake_72 : decode cX12_cake 72 = .ok (.if_icmp .ne 7, 3) := by decide +kernel
theorem dX12_cake_75 : decode cX12_cake 75 = .ok (.iload_n 3, 1) := by decide +kernel
theorem dX12_cake_76 : decode cX12_cake 76 = .ok (.goto 17, 3) := by decide +kernel
theorem dX12_cake_79 : decode cX12_cake 79 = .ok (.aload_n 0, 1) := by decide +kernel
theorem dX12_cake_80 : decode cX12_cake 80 = .ok (.getfield 104, 3) := by decide +kernel
theorem dX12_cake_83 : decode cX12_cake 83 = .ok (.iload_n 1, 1) := by decide +kernel
theorem dX12_cake_84 : decode cX12_cake 84 = .ok (.baload, 1) := by decide +kernel
theorem dX12_cake_85 : decode cX12_cake 85 = .ok (.ifCond .eq 7, 3) := by decide +kernel
theorem dX12_cake_88 : decode cX12_cake 88 = .ok (.iconst 1, 1) := by decide +kernel
theorem dX12_cake_89 : decode cX12_cake 89 = .ok (.goto 4, 3) := by decide +kernel
theorem dX12_cake_92 : decode cX12_cake 92 = .ok (.iconst 0, 1) := by decide +kernel
theorem dX12_cake_93 : decode cX12_cake 93 = .ok (.ireturn, 1) := by decide +kernel
theorem dX12_there_0 : decode cX12_there 0 = .ok (.aload_n 0, 1) := by decide +kernel
theorem dX12_there_1 : decode cX12_there 1 = .ok (.iconst 0, 1) := by decide +kernel
theorem dX12_there_2 : decode cX12_there 2 = .ok (.putfield 1, 3) := by decide +kernel
theorem dX12_there_5 : decode cX12_there 5 = .ok (.aload_n 0, 1) := by decide +kernel
theorem dX12_there_6 : decode cX12_there 6 = .ok (.aload_n 0, 1) := by decide +kernel
theorem dX12_there_7 : decode cX12_there 7 = .ok (.getfield 94, 3) := by decide +kernel
theorem dX12_there_10 : decode cX12_there 10 = .ok (.iconst 0, 1) := by decide +kernel
theorem dX12_there_11 : decode cX12_there 11 = .ok (.iaload, 1) := by decide +kernel
theorem dX12_there_12 : decode cX12_there 12 = .ok (.invokevirtual 274, 3) := by decide +kernel
theorem dX12_there_15 : decode cX12_there 15 = .ok (.iload_n 1, 1) := by decide +kernel
theorem dX12_there_16 : decode cX12_there 16 = .ok (.iconst 0, 1) := by decide +kernel
theorem dX12_there_17 : decode cX12_there 17 = .ok (.aload_n 0, 1) := by decide +kernel
theorem dX12_there_18 : decode cX12_there 18 = .ok (.invokevirtual 209, 3) := by decide +kernel
theorem dX12_there_21 : decode cX12_there 21 = .ok (.iconst 1, 1) := by decide +kernel
theorem dX12_there_22 : decode cX12_there 22 = .ok (.isub, 1) := by decide +kernel
theorem dX12_there_23 : decode cX12_there 23 = .ok (.invokestatic 270, 3) := by decide +kernel
theorem dX12_there_26 : decode cX12_there 26 = .ok (.ifCond .eq 12, 3) := by decide +kernel
theorem dX12_there_29 : decode cX12_there 29 = .ok (.aload_n 0, 1) := by decide +kernel
theorem dX12_there_30 : decode cX12_there 30 = .ok (.getfield 101, 3) := by decide +kernel
theorem dX12_there_33 : decode cX12_there 33 = .ok (.iload_n 1, 1) := by decide +kernel
theorem dX12_there_34 : decode cX12_there 34 = .ok (.iaload, 1) := by decide +kernel
theorem dX12_there_35 : decode cX12_there 35 = .ok (.goto 4, 3) := by decide +kernel
theorem dX12_there_38 : decode cX12_there 38 = .ok (.iconst (-1), 1) := by decide +kernel
theorem dX12_there_39 : decode cX12_there 39 = .ok (.ireturn, 1) := by decide +kernel
theorem dX12_turn_0 : decode cX12_turn 0 = .ok (.aload_n 0, 1) := by decide +kernel
theorem dX12_turn_1 : decode cX12_turn 1 = .ok (.iconst 0, 1) := by decide +kernel
theorem dX12_turn_2 : decode cX12_turn 2 = .ok (.putfield 1, 3) := by decide +kernel
theorem dX12_turn_5 : decode cX12_turn 5 = .ok (.aload_n 0, 1) := by decide +kernel
theorem dX12_turn_6 : decode cX12_turn 6 = .ok (.aload_n 0, 1) := by decide +kernel
theorem dX12_turn_7 : decode cX12_turn 7 = .ok (.getfield 94, 3) := by decide +kernel
theorem dX12_turn_10 : decode cX12_turn 10 = .ok (.iconst 0, 1) := by decide +kernel
theorem dX12_turn_11 : decode cX12_turn 11 = .ok (.iaload, 1) := by decide +kernel
theorem dX12_turn_12 : decode cX12_turn 12 = .ok (.invokevirtual 274, 3) := by decide +kernel
theorem dX12_turn_15 : decode cX12_turn 15 = .ok (.iload_n 1, 1) := by decide +kernel
theorem dX12_turn_16 : decode cX12_turn 16 = .ok (.iconst 1, 1) := by decide +kernel
theorem dX12_turn_17 : decode cX12_turn 17 = .ok (.aload_n 0, 1) := by decide +kernel
theorem dX12_turn_18 : decode cX12_turn 18 = .ok (.invokevirtual 209, 3) := by decide +kernel
theorem dX12_turn_21 : decode cX12_turn 21 = .ok (.invokestatic 270, 3) := by decide +kernel
theorem dX12_turn_24 : decode cX12_turn 24 = .ok (.ifCond .eq 11, 3) := by decide +kernel
theorem dX12_turn_27 : decode cX12_turn 27 = .ok (.aload_n 0, 1) := by decide +kernel
theorem dX12_turn_28 : decode cX12_turn 28 = .ok (.iload_n 1, 1) := by decide +kernel
theorem dX12_turn_29 : decode cX12_turn 29 = .ok (.invokevirtual 277, 3) := by decide +kernel
theorem dX12_turn_32 : decode cX12_turn 32 = .ok (.ifCond .ne 5, 3) := by decide +kernel
theorem dX12_turn_35 : decode cX12_turn 35 = .ok (.iconst (-1), 1) := by decide +kernel
theorem dX12_turn_36 : decode cX12_turn 36 = .ok (.ireturn, 1) := by decide +kernel
theorem dX12_turn_37 : decode cX12_turn 37 = .ok (.aload_n 0, 1) := by decide +kernel
theorem dX12_turn_38 : decode cX12_turn 38 = .ok (.invokevirtual 280, 3) := by decide +kernel
theorem dX12_turn_41 : decode cX12_turn 41 = .ok (.aload_n 0, 1) := by decide +kernel
theorem dX12_turn_42 : decode cX12_turn 42 = .ok (.iload_n 1, 1) := by decide +kernel
theorem dX12_turn_43 : decode cX12_turn 43 = .ok (.invokevirtual 283, 3) := by decide +kernel
theorem dX12_turn_46 : decode cX12_turn 46 = .ok (.istore_n 2, 1) := by decide +kernel
theorem dX12_turn_47 : decode cX12_turn 47 = .ok (.aload_n 0, 1) := by decide +kernel
theorem dX12_turn_48 : decode cX12_turn 48 = .ok (.iload_n 1, 1) := by decide +kernel
theorem dX12_turn_49 : decode cX12_turn 49 = .ok (.invokevirtual 286, 3) := by decide +kernel
theorem dX12_turn_52 : decode cX12_turn 52 = .ok (.aload_n 0, 1) := by decide +kernel
theorem dX12_turn_53 : decode cX12_turn 53 = .ok (.getfield 94, 3) := by decide +kernel
theorem dX12_turn_56 : decode cX12_turn 56 = .ok (.iconst 0, 1) := by decide +kernel
theorem dX12_turn_57 : decode cX12_turn 57 = .ok (.aload_n 0, 1) := by decide +kernel
theorem dX12_turn_58 : decode cX12_turn 58 = .ok (.invokevirtual 242, 3) := by decide +kernel
theorem dX12_turn_61 : decode cX12_turn 61 = .ok (.iastore, 1) := by decide +kernel
theorem dX12_turn_62 : decode cX12_turn 62 = .ok (.aload_n 0, 1) := by decide +kernel
theorem dX12_turn_63 : decode cX12_turn 63 = .ok (.getfield 94, 3) := by decide +kernel
theorem dX12_turn_66 : decode cX12_turn 66 = .ok (.iconst 1, 1) := by decide +kernel
theorem dX12_turn_67 : decode cX12_turn 67 = .ok (.dup2, 1) := by decide +kernel
theorem dX12_turn_68 : decode cX12_turn 68 = .ok (.iaload, 1) := by decide +kernel
theorem dX12_turn_69 : decode cX12_turn 69 = .ok (.iconst 1, 1) := by decide +kernel
theorem dX12_turn_70 : decode cX12_turn 70 = .ok (.iadd, 1) := by decide +kernel
theorem dX12_turn_71 : decode cX12_turn 71 = .ok (.iastore, 1) := by decide +kernel
theorem dX12_turn_72 : decode cX12_turn 72 = .ok (.aload_n 0, 1) := by decide +kernel
theorem dX12_turn_73 : decode cX12_turn 73 = .ok (.getfield 94, 3) := by decide +kernel
theorem dX12_turn_76 : decode cX12_turn 76 = .ok (.iconst 2, 1) := by decide +kernel
theorem dX12_turn_77 : decode cX12_turn 77 = .ok (.dup2, 1) := by decide +kernel
theorem dX12_turn_78 : decode cX12_turn 78 = .ok (.iaload, 1) := by decide +kernel
theorem dX12_turn_79 : decode cX12_turn 79 = .ok (.iload_n 2, 1) := by decide +kernel
theorem dX12_turn_80 : decode cX12_turn 80 = .ok (.iadd, 1) := by decide +kernel
theorem dX12_turn_81 : decode cX12_turn 81 = .ok (.iastore, 1) := by decide +kernel
theorem dX12_turn_82 : decode cX12_turn 82 = .ok (.iload_n 2, 1) := by decide +kernel
theorem dX12_turn_83 : decode cX12_turn 83 = .ok (.ireturn, 1) := by decide +kernel
theorem dX12_undo_0 : decode cX12_undo 0 = .ok (.aload_n 0, 1) := by decide +kernel
theorem dX12_undo_1 : decode cX12_undo 1 = .ok (.iconst 0, 1) := by decide +kernel
theorem dX12_undo_2 : decode cX12_undo 2 = .ok (.putfield 1, 3) := by decide +kernel
theorem dX12_undo_5 : decode cX12_undo 5 = .ok (.aload_n 0, 1) := by decide +kernel
theorem dX12_undo_6 : decode cX12_undo 6 = .ok (.getfield 248, 3) := by decide +kernel
theorem dX12_undo_9 : decode cX12_undo 9 = .ok (.ifCond .ne 5, 3) := by decide +kernel
theorem dX12_undo_12 : decode cX12_undo 12 = .ok (.iconst 0, 1) := by decide +kernel
theorem dX12_undo_13 : decode cX12_undo 13 = .ok (.ireturn, 1) := by decide +kernel
theorem dX12_undo_14 : decode cX12_undo 14 = .ok (.aload_n 0, 1) := by decide +kernel
theorem dX12_undo_15 : decode cX12_undo 15 = .ok (.dup, 1) := by decide +kernel
theorem dX12_undo_16 : decode cX12_undo 16 = .ok (.getfield 248, 3) := by decide +kernel
theorem dX12_undo_19 : decode cX12_undo 19 = .ok (.iconst 1, 1) := by decide +kernel
theorem dX12_undo_20 : decode cX12_undo 20 = .ok (.isub, 1) := by decide +kernel
theorem dX12_undo_21 : decode cX12_undo 21 = .ok (.putfield 248, 3) := by decide +kernel
theorem dX12_undo_24 : decode cX12_undo 24 = .ok (.aload_n 0, 1) := by decide +kernel
theorem dX12_undo_25 : decode cX12_undo 25 = .ok (.bipush 28, 2) := by decide +kernel
theorem dX12_undo_27 : decode cX12_undo 27 = .ok (.iconst 5, 1) := by decide +kernel
theorem dX12_undo_28 : decode cX12_undo 28 = .ok (.aload_n 0, 1) := by decide +kernel
theorem dX12_undo_29 : decode cX12_undo 29 = .ok (.getfield 248, 3) := by decide +kernel
theorem dX12_undo_32 : decode cX12_undo 32 = .ok (.iadd, 1) := by decide +kernel
theorem dX12_undo_33 : decode cX12_undo 33 = .ok (.imul, 1) := by decide +kernel
theorem dX12_undo_34 : decode cX12_undo 34 = .ok (.iconst 0, 1) := by decide +kernel
theorem dX12_undo_35 : decode cX12_undo 35 = .ok (.iconst 3, 1) := by decide +kernel
theorem dX12_undo_36 : decode cX12_undo 36 = .ok (.invokevirtual 254, 3) := by decide +kernel
theorem dX12_undo_39 : decode cX12_undo 39 = .ok (.iconst 1, 1) := by decide +kernel
theorem dX12_undo_40 : decode cX12_undo 40 = .ok (.ireturn, 1) := by decide +kernel
theorem dX12_can_0 : decode cX12_can 0 = .ok (.aload_n 0, 1) := by decide +kernel
theorem dX12_can_1 : decode cX12_can 1 = .ok (.iconst 0, 1) := by decide +kernel
theorem dX12_can_2 : decode cX12_can 2 = .ok (.putfield 1, 3) := by decide +kernel
theorem dX12_can_5 : decode cX12_can 5 = .ok (.aload_n 0, 1) := by decide +kernel
theorem dX12_can_6 : decode cX12_can 6 = .ok (.aload_n 0, 1) := by decide +kernel
theorem dX12_can_7 : decode cX12_can 7 = .ok (.getfield 94, 3) := by decide +kernel
theorem dX12_can_10 : decode cX12_can 10 = .ok (.iconst 0, 1) := by decide +kernel
theorem dX12_can_11 : decode cX12_can 11 = .ok (.iaload, 1) := by decide +kernel
theorem dX12_can_12 : decode cX12_can 12 = .ok (.invokevirtual 274, 3) := by decide +kernel
theorem dX12_can_15 : decode cX12_can 15 = .ok (.iload_n 1, 1) := by decide +kernel
theorem dX12_can_16 : decode cX12_can 16 = .ok (.iconst 1, 1) := by decide +kernel
theorem dX12_can_17 : decode cX12_can 17 = .ok (.aload_n 0, 1) := by decide +kernel
theorem dX12_can_18 : decode cX12_can 18 = .ok (.invokevirtual 209, 3) := by decide +kernel
theorem dX12_can_21 : decode cX12_can 21 = .ok (.invokestatic 270, 3) := by decide +kernel
theorem dX12_can_24 : decode cX12_can 24 = .ok (.ifCond .eq 15, 3) := by decide +kernel
theorem dX12_can_27 : decode cX12_can 27 = .ok (.aload_n 0, 1) := by decide +kernel
theorem dX12_can_28 : decode cX12_can 28 = .ok (.iload_n 1, 1) := by decide +kernel
theorem dX12_can_29 : decode cX12_can 29 = .ok (.invokevirtual 277, 3) := by decide +kernel
theorem dX12_can_32 : decode cX12_can 32 = .ok (.ifCond .eq 7, 3) := by decide +kernel
theorem dX12_can_35 : decode cX12_can 35 = .ok (.iconst 1, 1) := by decide +kernel
theorem dX12_can_36 : decode cX12_can 36 = .ok (.goto 4, 3) := by decide +kernel
theorem dX12_can_39 : decode cX12_can 39 = .ok (.iconst 0, 1) := by decide +kernel
theorem dX12_can_40 : decode cX12_can 40 = .ok (.ireturn, 1) := by decide +kernel
theorem dX12_cost_0 : decode cX12_cost 0 = .ok (.aload_n 0, 1) := by decide +kernel
theorem dX12_cost_1 : decode cX12_cost 1 = .ok (.iconst 0, 1) := by decide +kernel
theorem dX12_cost_2 : decode cX12_cost 2 = .ok (.putfield 1, 3) := by decide +kernel
theorem dX12_cost_5 : decode cX12_cost 5 = .ok (.aload_n 0, 1) := by decide +kernel
theorem dX12_cost_6 : decode cX12_cost 6 = .ok (.aload_n 0, 1) := by decide +kernel
theorem dX12_cost_7 : decode cX12_cost 7 = .ok (.getfield 94, 3) := by decide +kernel
theorem dX12_cost_10 : decode cX12_cost 10 = .ok (.iconst 0, 1) := by decide +kernel
theorem dX12_cost_11 : decode cX12_cost 11 = .ok (.iaload, 1) := by decide +kernel
theorem dX12_cost_12 : decode cX12_cost 12 = .ok (.invokevirtual 274, 3) := by decide +kernel
theorem dX12_cost_15 : decode cX12_cost 15 = .ok (.iload_n 1, 1) := by decide +kernel
theorem dX12_cost_16 : decode cX12_cost 16 = .ok (.iconst 1, 1) := by decide +kernel
theorem dX12_cost_17 : decode cX12_cost 17 = .ok (.aload_n 0, 1) := by decide +kernel
theorem dX12_cost_18 : decode cX12_cost 18 = .ok (.invokevirtual 209, 3) := by decide +kernel
theorem dX12_cost_21 : decode cX12_cost 21 = .ok (.invokestatic 270, 3) := by decide +kernel
theorem dX12_cost_24 : decode cX12_cost 24 = .ok (.ifCond .eq 11, 3) := by decide +kernel
theorem dX12_cost_27 : decode cX12_cost 27 = .ok (.aload_n 0, 1) := by decide +kernel
theorem dX12_cost_28 : decode cX12_cost 28 = .ok (.iload_n 1, 1) := by decide +kernel
theorem dX12_cost_29 : decode cX12_cost 29 = .ok (.invokevirtual 283, 3) := by decide +kernel
theorem dX12_cost_32 : decode cX12_cost 32 = .ok (.goto 4, 3) := by decide +kernel
theorem dX12_cost_35 : decode cX12_cost 35 = .ok (.iconst (-1), 1) := by decide +kernel
theorem dX12_cost_36 : decode cX12_cost 36 = .ok (.ireturn, 1) := by decide +kernel
theorem dX12_served_0 : decode cX12_served 0 = .ok (.aload_n 0, 1) := by decide +kernel
theorem dX12_served_1 : decode cX12_served 1 = .ok (.iconst 0, 1) := by decide +kernel
theorem dX12_served_2 : decode cX12_served 2 = .ok (.putfield 1, 3) := by decide +kernel
theorem dX12_served_5 : decode cX12_served 5 = .ok (.aload_n 0, 1) := by decide +kernel
theorem dX12_served_6 : decode cX12_served 6 = .ok (.aload_n 0, 1) := by decide +kernel
theorem dX12_served_7 : decode cX12_served 7 = .ok (.getfield 94, 3) := by decide +kernel
theorem dX12_served_10 : decode cX12_served 10 = .ok (.iconst 0, 1) := by decide +kernel
theorem dX12_served_11 : decode cX12_served 11 = .ok (.iaload, 1) := by decide +kernel
theorem dX12_served_12 : decode cX12_served 12 = .ok (.invokevirtual 274, 3) := by decide +kernel
theorem dX12_served_15 : decode cX12_served 15 = .ok (.aload_n 0, 1) := by decide +kernel
theorem dX12_served_16 : decode cX12_served 16 = .ok (.invokevirtual 289, 3) := by decide +kernel
theorem dX12_served_19 : decode cX12_served 19 = .ok (.ireturn, 1) := by decide +kernel
theorem dX12_judged_0 : decode cX12_judged 0 = .ok (.aload_n 0, 1) := by decide +kernel
theorem dX12_judged_1 : decode cX12_judged 1 = .ok (.iconst 0, 1) := by decide +kernel
theorem dX12_judged_2 : decode cX12_judged 2 = .ok (.putfield 1, 3) := by decide +kernel
theorem dX12_judged_5 : decode cX12_judged 5 = .ok (.iload_n 1, 1) := by decide +kernel
theorem dX12_judged_6 : decode cX12_judged 6 = .ok (.iconst 0, 1) := by decide +kernel
theorem dX12_judged_7 : decode cX12_judged 7 = .ok (.iconst 2, 1) := by decide +kernel
theorem dX12_judged_8 : decode cX12_judged 8 = .ok (.invokestatic 270, 3) := by decide +kernel
theorem dX12_judged_11 : decode cX12_judged 11 = .ok (.ifCond .ne 6, 3) := by decide +kernel
theorem dX12_judged_14 : decode cX12_judged 14 = .ok (.bipush (-2), 2) := by decide +kernel
theorem dX12_judged_16 : decode cX12_judged 16 = .ok (.ireturn, 1) := by decide +kernel
theorem dX12_judged_17 : decode cX12_judged 17 = .ok (.aload_n 0, 1) := by decide +kernel
theorem dX12_judged_18 : decode cX12_judged 18 = .ok (.aload_n 0, 1) := by decide +kernel
theorem dX12_judged_19 : decode cX12_judged 19 = .ok (.getfield 245, 3) := by decide +kernel
theorem dX12_judged_22 : decode cX12_judged 22 = .ok (.invokevirtual 274, 3) := by decide +kernel
theorem dX12_judged_25 : decode cX12_judged 25 = .ok (.iconst (-1), 1) := by decide +kernel
theorem dX12_judged_26 : decode cX12_judged 26 = .ok (.istore_n 2, 1) := by decide +kernel
theorem dX12_judged_27 : decode cX12_judged 27 = .ok (.iconst (-1), 1) := by decide +kernel
theorem dX12_judged_28 : decode cX12_judged 28 = .ok (.istore_n 3, 1) := by decide +kernel
theorem dX12_judged_29 : decode cX12_judged 29 = .ok (.iconst 0, 1) := by decide +kernel
theorem dX12_judged_30 : decode cX12_judged 30 = .ok (.istore 4, 2) := by decide +kernel
theorem dX12_judged_32 : decode cX12_judged 32 = .ok (.iconst 0, 1) := by decide +kernel
theorem dX12_judged_33 : decode cX12_judged 33 = .ok (.istore 5, 2) := by decide +kernel
theorem dX12_judged_35 : decode cX12_judged 35 = .ok (.iload 5, 2) := by decide +kernel
theorem dX12_judged_37 : decode cX12_judged 37 = .ok (.aload_n 0, 1) := by decide +kernel
theorem dX12_judged_38 : decode cX12_judged 38 = .ok (.getfield 82, 3) := by decide +kernel
theorem dX12_judged_41 : decode cX12_judged 41 = .ok (.iconst 0, 1) := by decide +kernel
theorem dX12_judged_42 : decode cX12_judged 42 = .ok (.iaload, 1) := by decide +kernel
theorem dX12_judged_43 : decode cX12_judged 43 = .ok (.if_icmp .ge 78, 3) := by decide +kernel
theorem dX12_judged_46 : decode cX12_judged 46 = .ok (.aload_n 0, 1) := by decide +kernel
theorem dX12_judged_47 : decode cX12_judged 47 = .ok (.getfield 82, 3) := by decide +kernel
theorem dX12_judged_50 : decode cX12_judged 50 = .ok (.iconst 1, 1) := by decide +kernel
theorem dX12_judged_51 : decode cX12_judged 51 = .ok (.iload 5, 2) := by decide +kernel
theorem dX12_judged_53 : decode cX12_judged 53 = .ok (.iadd, 1) := by decide +kernel
theorem dX12_judged_54 : decode cX12_judged 54 = .ok (.iaload, 1) := by decide +kernel
theorem dX12_judged_55 : decode cX12_judged 55 = .ok (.istore 6, 2) := by decide +kernel
theorem dX12_judged_57 : decode cX12_judged 57 = .ok (.aload_n 0, 1) := by decide +kernel
theorem dX12_judged_58 : decode cX12_judged 58 = .ok (.iload 6, 2) := by decide +kernel
theorem dX12_judged_60 : decode cX12_judged 60 = .ok (.invokevirtual 277, 3) := by decide +kernel
theorem dX12_judged_63 : decode cX12_judged 63 = .ok (.ifCond .eq 23, 3) := by decide +kernel
theorem dX12_judged_66 : decode cX12_judged 66 = .ok (.iload 4, 2) := by decide +kernel
theorem dX12_judged_68 : decode cX12_judged 68 = .ok (.aload_n 0, 1) := by decide +kernel
theorem dX12_judged_69 : decode cX12_judged 69 = .ok (.iload 6, 2) := by decide +kernel
theorem dX12_judged_71 : decode cX12_judged 71 = .ok (.invokevirtual 283, 3) := by decide +kernel
theorem dX12_judged_74 : decode cX12_judged 74 = .ok (.iadd, 1) := by decide +kernel
theorem dX12_judged_75 : decode cX12_judged 75 = .ok (.istore 4, 2) := by decide +kernel
theorem dX12_judged_77 : decode cX12_judged 77 = .ok (.aload_n 0, 1) := by decide +kernel
theorem dX12_judged_78 : decode cX12_judged 78 = .ok (.iload 6, 2) := by decide +kernel
theorem dX12_judged_80 : decode cX12_judged 80 = .ok (.invokevirtual 286, 3) := by decide +kernel
theorem dX12_judged_83 : decode cX12_judged 83 = .ok (.goto 14, 3) := by decide +kernel
theorem dX12_judged_86 : decode cX12_judged 86 = .ok (.iload_n 2, 1) := by decide +kernel
theorem dX12_judged_87 : decode cX12_judged 87 = .ok (.ifCond .ge 8, 3) := by decide +kernel
theorem dX12_judged_90 : decode cX12_judged 90 = .ok (.iload 5, 2) := by decide +kernel
theorem dX12_judged_92 : decode cX12_judged 92 = .ok (.goto 4, 3) := by decide +kernel
theorem dX12_judged_95 : decode cX12_judged 95 = .ok (.iload_n 2, 1) := by decide +kernel
theorem dX12_judged_96 : decode cX12_judged 96 = .ok (.istore_n 2, 1) := by decide +kernel
theorem dX12_judged_97 : decode cX12_judged 97 = .ok (.aload_n 0, 1) := by decide +kernel
theorem dX12_judged_98 : decode cX12_judged 98 = .ok (.invokevirtual 289, 3) := by decide +kernel
theorem dX12_judged_101 : decode cX12_judged 101 = .ok (.ifCond .eq 12, 3) := by decide +kernel
theorem dX12_judged_104 : decode cX12_judged 104 = .ok (.iload_n 3, 1) := by decide +kernel
theorem dX12_judged_105 : decode cX12_judged 105 = .ok (.ifCond .ge 8, 3) := by decide +kernel
theorem dX12_judged_108 : decode cX12_judged 108 = .ok (.iload 5, 2) := by decide +kernel
theorem dX12_judged_110 : decode cX12_judged 110 = .ok (.goto 4, 3) := by decide +kernel
theorem dX12_judged_113 : decode cX12_judged 113 = .ok (.iload_n 3, 1) := by decide +kernel
theorem dX12_judged_114 : decode cX12_judged 114 = .ok (.istore_n 3, 1) := by decide +kernel
theorem dX12_judged_115 : decode cX12_judged 115 = .ok (.iinc 5 1, 3) := by decide +kernel
theorem dX12_judged_118 : decode cX12_judged 118 = .ok (.goto (-83), 3) := by decide +kernel
theorem dX12_judged_121 : decode cX12_judged 121 = .ok (.iload_n 1, 1) := by decide +kernel
theorem dX12_judged_122 : decode cX12_judged 122 = .ok (.ifCond .ne 7, 3) := by decide +kernel
theorem dX12_judged_125 : decode cX12_judged 125 = .ok (.iload_n 2, 1) := by decide +kernel
theorem dX12_judged_126 : decode cX12_judged 126 = .ok (.goto 14, 3) := by decide +kernel
theorem dX12_judged_129 : decode cX12_judged 129 = .ok (.iload_n 1, 1) := by decide +kernel
theorem dX12_judged_130 : decode cX12_judged 130 = .ok (.iconst 1, 1) := by decide +kernel
theorem dX12_judged_131 : decode cX12_judged 131 = .ok (.if_icmp .ne 7, 3) := by decide +kernel
theorem dX12_judged_134 : decode cX12_judged 134 = .ok (.iload_n 3, 1) := by decide +kernel
theorem dX12_judged_135 : decode cX12_judged 135 = .ok (.goto 5, 3) := by decide +kernel
theorem dX12_judged_138 : decode cX12_judged 138 = .ok (.iload 4, 2) := by decide +kernel
theorem dX12_judged_140 : decode cX12_judged 140 = .ok (.ireturn, 1) := by decide +kernel
theorem dX12_leadsFrom_0 : decode cX12_leadsFrom 0 = .ok (.iconst 1, 1) := by decide +kernel
theorem dX12_leadsFrom_1 : decode cX12_leadsFrom 1 = .ok (.istore_n 3, 1) := by decide +kernel
theorem dX12_leadsFrom_2 : decode cX12_leadsFrom 2 = .ok (.iload_n 3, 1) := by decide +kernel
theorem dX12_leadsFrom_3 : decode cX12_leadsFrom 3 = .ok (.aload_n 0, 1) := by decide +kernel
theorem dX12_leadsFrom_4 : decode cX12_leadsFrom 4 = .ok (.invokevirtual 209, 3) := by decide +kernel
theorem dX12_leadsFrom_7 : decode cX12_leadsFrom 7 = .ok (.if_icmp .gt 60, 3) := by decide +kernel
theorem dX12_leadsFrom_10 : decode cX12_leadsFrom 10 = .ok (.aload_n 0, 1) := by decide +kernel
theorem dX12_leadsFrom_11 : decode cX12_leadsFrom 11 = .ok (.getfield 110, 3) := by decide +kernel
theorem dX12_leadsFrom_14 : decode cX12_leadsFrom 14 = .ok (.iload_n 3, 1) := by decide +kernel
theorem dX12_leadsFrom_15 : decode cX12_leadsFrom 15 = .ok (.iconst (-1), 1) := by decide +kernel
theorem dX12_leadsFrom_16 : decode cX12_leadsFrom 16 = .ok (.iastore, 1) := by decide +kernel
theorem dX12_leadsFrom_17 : decode cX12_leadsFrom 17 = .ok (.aload_n 0, 1) := by decide +kernel
theorem dX12_leadsFrom_18 : decode cX12_leadsFrom 18 = .ok (.iload_n 1, 1) := by decide +kernel
theorem dX12_leadsFrom_19 : decode cX12_leadsFrom 19 = .ok (.invokevirtual 274, 3) := by decide +kernel
theorem dX12_leadsFrom_22 : decode cX12_leadsFrom 22 = .ok (.aload_n 0, 1) := by decide +kernel
theorem dX12_leadsFrom_23 : decode cX12_leadsFrom 23 = .ok (.getfield 113, 3) := by decide +kernel
theorem dX12_leadsFrom_26 : decode cX12_leadsFrom 26 = .ok (.iload_n 3, 1) := by decide +kernel
theorem dX12_leadsFrom_27 : decode cX12_leadsFrom 27 = .ok (.aload_n 0, 1) := by decide +kernel
theorem dX12_leadsFrom_28 : decode cX12_leadsFrom 28 = .ok (.iload_n 3, 1) := by decide +kernel
theorem dX12_leadsFrom_29 : decode cX12_leadsFrom 29 = .ok (.invokevirtual 283, 3) := by decide +kernel
theorem dX12_leadsFrom_32 : decode cX12_leadsFrom 32 = .ok (.iastore, 1) := by decide +kernel
theorem dX12_leadsFrom_33 : decode cX12_leadsFrom 33 = .ok (.iload_n 3, 1) := by decide +kernel
theorem dX12_leadsFrom_34 : decode cX12_leadsFrom 34 = .ok (.iload_n 2, 1) := by decide +kernel
theorem dX12_leadsFrom_35 : decode cX12_leadsFrom 35 = .ok (.if_icmp .eq 26, 3) := by decide +kernel
theorem dX12_leadsFrom_38 : decode cX12_leadsFrom 38 = .ok (.aload_n 0, 1) := by decide +kernel
theorem dX12_leadsFrom_39 : decode cX12_leadsFrom 39 = .ok (.iload_n 3, 1) := by decide +kernel
theorem dX12_leadsFrom_40 : decode cX12_leadsFrom 40 = .ok (.invokevirtual 277, 3) := by decide +kernel
theorem dX12_leadsFrom_43 : decode cX12_leadsFrom 43 = .ok (.ifCond .eq 18, 3) := by decide +kernel
theorem dX12_leadsFrom_46 : decode cX12_leadsFrom 46 = .ok (.aload_n 0, 1) := by decide +kernel
theorem dX12_leadsFrom_47 : decode cX12_leadsFrom 47 = .ok (.iload_n 3, 1) := by decide +kernel
theorem dX12_leadsFrom_48 : decode cX12_leadsFrom 48 = .ok (.invokevirtual 286, 3) := by decide +kernel
theorem dX12_leadsFrom_51 : decode cX12_leadsFrom 51 = .ok (.aload_n 0, 1) := by decide +kernel
theorem dX12_leadsFrom_52 : decode cX12_leadsFrom 52 = .ok (.getfield 110, 3) := by decide +kernel
theorem dX12_leadsFrom_55 : decode cX12_leadsFrom 55 = .ok (.iload_n 3, 1) := by decide +kernel
theorem dX12_leadsFrom_56 : decode cX12_leadsFrom 56 = .ok (.aload_n 0, 1) := by decide +kernel
theorem dX12_leadsFrom_57 : decode cX12_leadsFrom 57 = .ok (.invokevirtual 242, 3) := by decide +kernel
theorem dX12_leadsFrom_60 : decode cX12_leadsFrom 60 = .ok (.iastore, 1) := by decide +kernel
theorem dX12_leadsFrom_61 : decode cX12_leadsFrom 61 = .ok (.iinc 3 1, 3) := by decide +kernel
theorem dX12_leadsFrom_64 : decode cX12_leadsFrom 64 = .ok (.goto (-62), 3) := by decide +kernel
theorem dX12_leadsFrom_67 : decode cX12_leadsFrom 67 = .ok (.return_, 1) := by decide +kernel
theorem dX12_partOf_0 : decode cX12_partOf 0 = .ok (.aload_n 0, 1) := by decide +kernel
theorem dX12_partOf_1 : decode cX12_partOf 1 = .ok (.getfield 107, 3) := by decide +kernel
theorem dX12_partOf_4 : decode cX12_partOf 4 = .ok (.iload_n 1, 1) := by decide +kernel
theorem dX12_partOf_5 : decode cX12_partOf 5 = .ok (.laload, 1) := by decide +kernel
theorem dX12_partOf_6 : decode cX12_partOf 6 = .ok (.ldc2_w 292, 3) := by decide +kernel
theorem dX12_partOf_9 : decode cX12_partOf 9 = .ok (.lrem, 1) := by decide +kernel
theorem dX12_partOf_10 : decode cX12_partOf 10 = .ok (.l2i, 1) := by decide +kernel
theorem dX12_partOf_11 : decode cX12_partOf 11 = .ok (.ireturn, 1) := by decide +kernel
theorem dX12_fewest_0 : decode cX12_fewest 0 = .ok (.iconst 0, 1) := by decide +kernel
theorem dX12_fewest_1 : decode cX12_fewest 1 = .ok (.istore_n 3, 1) := by decide +kernel
theorem dX12_fewest_2 : decode cX12_fewest 2 = .ok (.iload_n 3, 1) := by decide +kernel
theorem dX12_fewest_3 : decode cX12_fewest 3 = .ok (.aload_n 0, 1) := by decide +kernel
theorem dX12_fewest_4 : decode cX12_fewest 4 = .ok (.invokevirtual 294, 3) := by decide +kernel
theorem dX12_fewest_7 : decode cX12_fewest 7 = .ok (.if_icmp .ge 48, 3) := by decide +kernel
theorem dX12_fewest_10 : decode cX12_fewest 10 = .ok (.aload_n 0, 1) := by decide +kernel
theorem dX12_fewest_11 : decode cX12_fewest 11 = .ok (.iload_n 3, 1) := by decide +kernel
theorem dX12_fewest_12 : decode cX12_fewest 12 = .ok (.invokevirtual 274, 3) := by decide +kernel
theorem dX12_fewest_15 : decode cX12_fewest 15 = .ok (.aload_n 0, 1) := by decide +kernel
theorem dX12_fewest_16 : decode cX12_fewest 16 = .ok (.getfield 107, 3) := by decide +kernel
theorem dX12_fewest_19 : decode cX12_fewest 19 = .ok (.iload_n 3, 1) := by decide +kernel
theorem dX12_fewest_20 : decode cX12_fewest 20 = .ok (.iload_n 1, 1) := by decide +kernel
theorem dX12_fewest_21 : decode cX12_fewest 21 = .ok (.ifCond .eq 13, 3) := by decide +kernel
theorem dX12_fewest_24 : decode cX12_fewest 24 = .ok (.aload_n 0, 1) := by decide +kernel
theorem dX12_fewest_25 : decode cX12_fewest 25 = .ok (.invokevirtual 297, 3) := by decide +kernel
theorem dX12_fewest_28 : decode cX12_fewest 28 = .ok (.ifCond .eq 19, 3) := by decide +kernel
theorem dX12_fewest_31 : decode cX12_fewest 31 = .ok (.goto 10, 3) := by decide +kernel
theorem dX12_fewest_34 : decode cX12_fewest 34 = .ok (.aload_n 0, 1) := by decide +kernel
theorem dX12_fewest_35 : decode cX12_fewest 35 = .ok (.invokevirtual 289, 3) := by decide +kernel
theorem dX12_fewest_38 : decode cX12_fewest 38 = .ok (.ifCond .eq 9, 3) := by decide +kernel
theorem dX12_fewest_41 : decode cX12_fewest 41 = .ok (.ldc2_w 300, 3) := by decide +kernel
theorem dX12_fewest_44 : decode cX12_fewest 44 = .ok (.goto 4, 3) := by decide +kernel
theorem dX12_fewest_47 : decode cX12_fewest 47 = .ok (.lconst 0, 1) := by decide +kernel
theorem dX12_fewest_48 : decode cX12_fewest 48 = .ok (.lastore, 1) := by decide +kernel
theorem dX12_fewest_49 : decode cX12_fewest 49 = .ok (.iinc 3 1, 3) := by decide +kernel
theorem dX12_fewest_52 : decode cX12_fewest 52 = .ok (.goto (-50), 3) := by decide +kernel
theorem dX12_fewest_55 : decode cX12_fewest 55 = .ok (.iconst 1, 1) := by decide +kernel
theorem dX12_fewest_56 : decode cX12_fewest 56 = .ok (.istore_n 3, 1) := by decide +kernel
theorem dX12_fewest_57 : decode cX12_fewest 57 = .ok (.iconst 2, 1) := by decide +kernel
theorem dX12_fewest_58 : decode cX12_fewest 58 = .ok (.istore 4, 2) := by decide +kernel
theorem dX12_fewest_60 : decode cX12_fewest 60 = .ok (.iload_n 3, 1) := by decide +kernel
theorem dX12_fewest_61 : decode cX12_fewest 61 = .ok (.ifCond .eq 121, 3) := by decide +kernel
theorem dX12_fewest_64 : decode cX12_fewest 64 = .ok (.iconst 0, 1) := by decide +kernel
theorem dX12_fewest_65 : decode cX12_fewest 65 = .ok (.istore_n 3, 1) := by decide +kernel
theorem dX12_fewest_66 : decode cX12_fewest 66 = .ok (.iconst 0, 1) := by decide +kernel
theorem dX12_fewest_67 : decode cX12_fewest 67 = .ok (.istore 5, 2) := by decide +kernel
theorem dX12_fewest_69 : decode cX12_fewest 69 = .ok (.iload 5, 2) := by decide +kernel
theorem dX12_fewest_71 : decode cX12_fewest 71 = .ok (.aload_n 0, 1) := by decide +kernel
theorem dX12_fewest_72 : decode cX12_fewest 72 = .ok (.invokevirtual 294, 3) := by decide +kernel
theorem dX12_fewest_75 : decode cX12_fewest 75 = .ok (.if_icmp .ge 101, 3) := by decide +kernel
theorem dX12_fewest_78 : decode cX12_fewest 78 = .ok (.iconst 1, 1) := by decide +kernel
theorem dX12_fewest_79 : decode cX12_fewest 79 = .ok (.istore 6, 2) := by decide +kernel
theorem dX12_fewest_81 : decode cX12_fewest 81 = .ok (.iload 6, 2) := by decide +kernel
theorem dX12_fewest_83 : decode cX12_fewest 83 = .ok (.aload_n 0, 1) := by decide +kernel
theorem dX12_fewest_84 : decode cX12_fewest 84 = .ok (.invokevirtual 209, 3) := by decide +kernel
theorem dX12_fewest_87 : decode cX12_fewest 87 = .ok (.if_icmp .gt 83, 3) := by decide +kernel
theorem dX12_fewest_90 : decode cX12_fewest 90 = .ok (.aload_n 0, 1) := by decide +kernel
theorem dX12_fewest_91 : decode cX12_fewest 91 = .ok (.iload 5, 2) := by decide +kernel
theorem dX12_fewest_93 : decode cX12_fewest 93 = .ok (.invokevirtual 302, 3) := by decide +kernel
theorem dX12_fewest_96 : decode cX12_fewest 96 = .ok (.iload 4, 2) := by decide +kernel
theorem dX12_fewest_98 : decode cX12_fewest 98 = .ok (.iconst 1, 1) := by decide +kernel
theorem dX12_fewest_99 : decode cX12_fewest 99 = .ok (.isub, 1) := by decide +kernel
theorem dX12_fewest_100 : decode cX12_fewest 100 = .ok (.if_icmp .ne 70, 3) := by decide +kernel
theorem dX12_fewest_103 : decode cX12_fewest 103 = .ok (.aload_n 0, 1) := by decide +kernel
theorem dX12_fewest_104 : decode cX12_fewest 104 = .ok (.iload 5, 2) := by decide +kernel
theorem dX12_fewest_106 : decode cX12_fewest 106 = .ok (.invokevirtual 274, 3) := by decide +kernel
theorem dX12_fewest_109 : decode cX12_fewest 109 = .ok (.aload_n 0, 1) := by decide +kernel
theorem dX12_fewest_110 : decode cX12_fewest 110 = .ok (.iload 6, 2) := by decide +kernel
theorem dX12_fewest_112 : decode cX12_fewest 112 = .ok (.invokevirtual 286, 3) := by decide +kernel
theorem dX12_fewest_115 : decode cX12_fewest 115 = .ok (.iload 6, 2) := by decide +kernel
theorem dX12_fewest_117 : decode cX12_fewest 117 = .ok (.iload_n 2, 1) := by decide +kernel
theorem dX12_fewest_118 : decode cX12_fewest 118 = .ok (.if_icmp .eq 46, 3) := by decide +kernel
theorem dX12_fewest_121 : decode cX12_fewest 121 = .ok (.aload_n 0, 1) := by decide +kernel
theorem dX12_fewest_122 : decode cX12_fewest 122 = .ok (.iload 6, 2) := by decide +kernel
theorem dX12_fewest_124 : decode cX12_fewest 124 = .ok (.invokevirtual 277, 3) := by decide +kernel
theorem dX12_fewest_127 : decode cX12_fewest 127 = .ok (.ifCond .eq 37, 3) := by decide +kernel
theorem dX12_fewest_130 : decode cX12_fewest 130 = .ok (.aload_n 0, 1) := by decide +kernel
theorem dX12_fewest_131 : decode cX12_fewest 131 = .ok (.aload_n 0, 1) := by decide +kernel
theorem dX12_fewest_132 : decode cX12_fewest 132 = .ok (.invokevirtual 242, 3) := by decide +kernel
theorem dX12_fewest_135 : decode cX12_fewest 135 = .ok (.iload 4, 2) := by decide +kernel
theorem dX12_fewest_137 : decode cX12_fewest 137 = .ok (.aload_n 0, 1) := by decide +kernel
theorem dX12_fewest_138 : decode cX12_fewest 138 = .ok (.getfield 107, 3) := by decide +kernel
theorem dX12_fewest_141 : decode cX12_fewest 141 = .ok (.iload 5, 2) := by decide +kernel
theorem dX12_fewest_143 : decode cX12_fewest 143 = .ok (.laload, 1) := by decide +kernel
theorem dX12_fewest_144 : decode cX12_fewest 144 = .ok (.ldc2_w 292, 3) := by decide +kernel
theorem dX12_fewest_147 : decode cX12_fewest 147 = .ok (.ldiv, 1) := by decide +kernel
theorem dX12_fewest_148 : decode cX12_fewest 148 = .ok (.invokevirtual 305, 3) := by decide +kernel
theorem dX12_fewest_151 : decode cX12_fewest 151 = .ok (.ifCond .ne 7, 3) := by decide +kernel
theorem dX12_fewest_154 : decode cX12_fewest 154 = .ok (.iload_n 3, 1) := by decide +kernel
theorem dX12_fewest_155 : decode cX12_fewest 155 = .ok (.ifCond .eq 7, 3) := by decide +kernel
theorem dX12_fewest_158 : decode cX12_fewest 158 = .ok (.iconst 1, 1) := by decide +kernel
theorem dX12_fewest_159 : decode cX12_fewest 159 = .ok (.goto 4, 3) := by decide +kernel
theorem dX12_fewest_162 : decode cX12_fewest 162 = .ok (.iconst 0, 1) := by decide +kernel
theorem dX12_fewest_163 : decode cX12_fewest 163 = .ok (.istore_n 3, 1) := by decide +kernel
theorem dX12_fewest_164 : decode cX12_fewest 164 = .ok (.iinc 6 1, 3) := by decide +kernel
theorem dX12_fewest_167 : decode cX12_fewest 167 = .ok (.goto (-86), 3) := by decide +kernel
theorem dX12_fewest_170 : decode cX12_fewest 170 = .ok (.iinc 5 1, 3) := by decide +kernel
theorem dX12_fewest_173 : decode cX12_fewest 173 = .ok (.goto (-104), 3) := by decide +kernel
theorem dX12_fewest_176 : decode cX12_fewest 176 = .ok (.iinc 4 1, 3) := by decide +kernel
theorem dX12_fewest_179 : decode cX12_fewest 179 = .ok (.goto (-119), 3) := by decide +kernel
theorem dX12_fewest_182 : decode cX12_fewest 182 = .ok (.return_, 1) := by decide +kernel
theorem dX12_waysOn_0 : decode cX12_waysOn 0 = .ok (.aload_n 0, 1) := by decide +kernel
theorem dX12_waysOn_1 : decode cX12_waysOn 1 = .ok (.getfield 107, 3) := by decide +kernel
theorem dX12_waysOn_4 : decode cX12_waysOn 4 = .ok (.iload_n 1, 1) := by decide +kernel
theorem dX12_waysOn_5 : decode cX12_waysOn 5 = .ok (.laload, 1) := by decide +kernel
theorem dX12_waysOn_6 : decode cX12_waysOn 6 = .ok (.lconst 0, 1) := by decide +kernel
theorem dX12_waysOn_7 : decode cX12_waysOn 7 = .ok (.lcmp, 1) := by decide +kernel
theorem dX12_waysOn_8 : decode cX12_waysOn 8 = .ok (.ifCond .ne 7, 3) := by decide +kernel
theorem dX12_waysOn_11 : decode cX12_waysOn 11 = .ok (.iconst 1, 1) := by decide +kernel
theorem dX12_waysOn_12 : decode cX12_waysOn 12 = .ok (.goto 4, 3) := by decide +kernel
theorem dX12_waysOn_15 : decode cX12_waysOn 15 = .ok (.iconst 0, 1) := by decide +kernel
theorem dX12_waysOn_16 : decode cX12_waysOn 16 = .ok (.istore 5, 2) := by decide +kernel
theorem dX12_waysOn_18 : decode cX12_waysOn 18 = .ok (.iload 5, 2) := by decide +kernel
theorem dX12_waysOn_20 : decode cX12_waysOn 20 = .ok (.ifCond .ne 12, 3) := by decide +kernel
theorem dX12_waysOn_23 : decode cX12_waysOn 23 = .ok (.aload_n 0, 1) := by decide +kernel
theorem dX12_waysOn_24 : decode cX12_waysOn 24 = .ok (.iload_n 1, 1) := by decide +kernel
theorem dX12_waysOn_25 : decode cX12_waysOn 25 = .ok (.invokevirtual 302, 3) := by decide +kernel
theorem dX12_waysOn_28 : decode cX12_waysOn 28 = .ok (.iload_n 2, 1) := by decide +kernel
theorem dX12_waysOn_29 : decode cX12_waysOn 29 = .ok (.if_icmp .ne 47, 3) := by decide +kernel
theorem dX12_waysOn_32 : decode cX12_waysOn 32 = .ok (.lload_n 3, 1) := by decide +kernel
theorem dX12_waysOn_33 : decode cX12_waysOn 33 = .ok (.aload_n 0, 1) := by decide +kernel
theorem dX12_waysOn_34 : decode cX12_waysOn 34 = .ok (.getfield 107, 3) := by decide +kernel
theorem dX12_waysOn_37 : decode cX12_waysOn 37 = .ok (.iload_n 1, 1) := by decide +kernel
theorem dX12_waysOn_38 : decode cX12_waysOn 38 = .ok (.laload, 1) := by decide +kernel
theorem dX12_waysOn_39 : decode cX12_waysOn 39 = .ok (.ldc2_w 292, 3) := by decide +kernel
theorem dX12_waysOn_42 : decode cX12_waysOn 42 = .ok (.ldiv, 1) := by decide +kernel
theorem dX12_waysOn_43 : decode cX12_waysOn 43 = .ok (.ladd, 1) := by decide +kernel
theorem dX12_waysOn_44 : decode cX12_waysOn 44 = .ok (.lstore 6, 2) := by decide +kernel
theorem dX12_waysOn_46 : decode cX12_waysOn 46 = .ok (.aload_n 0, 1) := by decide +kernel
theorem dX12_waysOn_47 : decode cX12_waysOn 47 = .ok (.getfield 107, 3) := by decide +kernel
theorem dX12_waysOn_50 : decode cX12_waysOn 50 = .ok (.iload_n 1, 1) := by decide +kernel
theorem dX12_waysOn_51 : decode cX12_waysOn 51 = .ok (.iload_n 2, 1) := by decide +kernel
theorem dX12_waysOn_52 : decode cX12_waysOn 52 = .ok (.i2l, 1) := by decide +kernel
theorem dX12_waysOn_53 : decode cX12_waysOn 53 = .ok (.ldc2_w 292, 3) := by decide +kernel
theorem dX12_waysOn_56 : decode cX12_waysOn 56 = .ok (.lload 6, 2) := by decide +kernel
theorem dX12_waysOn_58 : decode cX12_waysOn 58 = .ok (.ldc2_w 309, 3) := by decide +kernel
theorem dX12_waysOn_61 : decode cX12_waysOn 61 = .ok (.lcmp, 1) := by decide +kernel
theorem dX12_waysOn_62 : decode cX12_waysOn 62 = .ok (.ifCond .le 9, 3) := by decide +kernel
theorem dX12_waysOn_65 : decode cX12_waysOn 65 = .ok (.ldc2_w 309, 3) := by decide +kernel
theorem dX12_waysOn_68 : decode cX12_waysOn 68 = .ok (.goto 5, 3) := by decide +kernel
theorem dX12_waysOn_71 : decode cX12_waysOn 71 = .ok (.lload 6, 2) := by decide +kernel
theorem dX12_waysOn_73 : decode cX12_waysOn 73 = .ok (.lmul, 1) := by decide +kernel
theorem dX12_waysOn_74 : decode cX12_waysOn 74 = .ok (.ladd, 1) := by decide +kernel
theorem dX12_waysOn_75 : decode cX12_waysOn 75 = .ok (.lastore, 1) := by decide +kernel
theorem dX12_waysOn_76 : decode cX12_waysOn 76 = .ok (.iload 5, 2) := by decide +kernel
theorem dX12_waysOn_78 : decode cX12_waysOn 78 = .ok (.ireturn, 1) := by decide +kernel
theorem dX12_laysFewest_0 : decode cX12_laysFewest 0 = .ok (.aload_n 0, 1) := by decide +kernel
theorem dX12_laysFewest_1 : decode cX12_laysFewest 1 = .ok (.getfield 251, 3) := by decide +kernel
theorem dX12_laysFewest_4 : decode cX12_laysFewest 4 = .ok (.iconst 1, 1) := by decide +kernel
theorem dX12_laysFewest_5 : decode cX12_laysFewest 5 = .ok (.if_icmp .eq 14, 3) := by decide +kernel
theorem dX12_laysFewest_8 : decode cX12_laysFewest 8 = .ok (.aload_n 0, 1) := by decide +kernel
theorem dX12_laysFewest_9 : decode cX12_laysFewest 9 = .ok (.iconst 0, 1) := by decide +kernel
theorem dX12_laysFewest_10 : decode cX12_laysFewest 10 = .ok (.iconst 0, 1) := by decide +kernel
theorem dX12_laysFewest_11 : decode cX12_laysFewest 11 = .ok (.invokevirtual 311, 3) := by decide +kernel
theorem dX12_laysFewest_14 : decode cX12_laysFewest 14 = .ok (.aload_n 0, 1) := by decide +kernel
theorem dX12_laysFewest_15 : decode cX12_laysFewest 15 = .ok (.iconst 1, 1) := by decide +kernel
theorem dX12_laysFewest_16 : decode cX12_laysFewest 16 = .ok (.putfield 251, 3) := by decide +kernel
theorem dX12_laysFewest_19 : decode cX12_laysFewest 19 = .ok (.return_, 1) := by decide +kernel
theorem dX12_leastOf_0 : decode cX12_leastOf 0 = .ok (.aload_n 0, 1) := by decide +kernel
theorem dX12_leastOf_1 : decode cX12_leastOf 1 = .ok (.iload_n 1, 1) := by decide +kernel
theorem dX12_leastOf_2 : decode cX12_leastOf 2 = .ok (.invokevirtual 302, 3) := by decide +kernel
theorem dX12_leastOf_5 : decode cX12_leastOf 5 = .ok (.iconst 1, 1) := by decide +kernel
theorem dX12_leastOf_6 : decode cX12_leastOf 6 = .ok (.isub, 1) := by decide +kernel
theorem dX12_leastOf_7 : decode cX12_leastOf 7 = .ok (.ireturn, 1) := by decide +kernel
theorem dX12_least_0 : decode cX12_least 0 = .ok (.aload_n 0, 1) := by decide +kernel
theorem dX12_least_1 : decode cX12_least 1 = .ok (.iconst 0, 1) := by decide +kernel
theorem dX12_least_2 : decode cX12_least 2 = .ok (.putfield 1, 3) := by decide +kernel
theorem dX12_least_5 : decode cX12_least 5 = .ok (.aload_n 0, 1) := by decide +kernel
theorem dX12_least_6 : decode cX12_least 6 = .ok (.invokevirtual 315, 3) := by decide +kernel
theorem dX12_least_9 : decode cX12_least 9 = .ok (.aload_n 0, 1) := by decide +kernel
theorem dX12_least_10 : decode cX12_least 10 = .ok (.aload_n 0, 1) := by decide +kernel
theorem dX12_least_11 : decode cX12_least 11 = .ok (.getfield 94, 3) := by decide +kernel
theorem dX12_least_14 : decode cX12_least 14 = .ok (.iconst 0, 1) := by decide +kernel
theorem dX12_least_15 : decode cX12_least 15 = .ok (.iaload, 1) := by decide +kernel
theorem dX12_least_16 : decode cX12_least 16 = .ok (.invokevirtual 318, 3) := by decide +kernel
theorem dX12_least_19 : decode cX12_least 19 = .ok (.ireturn, 1) := by decide +kernel
theorem dX12_ways_0 : decode cX12_ways 0 = .ok (.aload_n 0, 1) := by decide +kernel
theorem dX12_ways_1 : decode cX12_ways 1 = .ok (.iconst 0, 1) := by decide +kernel
theorem dX12_ways_2 : decode cX12_ways 2 = .ok (.putfield 1, 3) := by decide +kernel
theorem dX12_ways_5 : decode cX12_ways 5 = .ok (.aload_n 0, 1) := by decide +kernel
theorem dX12_ways_6 : decode cX12_ways 6 = .ok (.invokevirtual 315, 3) := by decide +kernel
theorem dX12_ways_9 : decode cX12_ways 9 = .ok (.aload_n 0, 1) := by decide +kernel
theorem dX12_ways_10 : decode cX12_ways 10 = .ok (.getfield 107, 3) := by decide +kernel
theorem dX12_ways_13 : decode cX12_ways 13 = .ok (.aload_n 0, 1) := by decide +kernel
theorem dX12_ways_14 : decode cX12_ways 14 = .ok (.getfield 94, 3) := by decide +kernel
theorem dX12_ways_17 : decode cX12_ways 17 = .ok (.iconst 0, 1) := by decide +kernel
theorem dX12_ways_18 : decode cX12_ways 18 = .ok (.iaload, 1) := by decide +kernel
theorem dX12_ways_19 : decode cX12_ways 19 = .ok (.laload, 1) := by decide +kernel
theorem dX12_ways_20 : decode cX12_ways 20 = .ok (.ldc2_w 292, 3) := by decide +kernel
theorem dX12_ways_23 : decode cX12_ways 23 = .ok (.ldiv, 1) := by decide +kernel
theorem dX12_ways_24 : decode cX12_ways 24 = .ok (.l2i, 1) := by decide +kernel
theorem dX12_ways_25 : decode cX12_ways 25 = .ok (.ireturn, 1) := by decide +kernel
theorem dX12_nearer_0 : decode cX12_nearer 0 = .ok (.aload_n 0, 1) := by decide +kernel
theorem dX12_nearer_1 : decode cX12_nearer 1 = .ok (.iload_n 1, 1) := by decide +kernel
theorem dX12_nearer_2 : decode cX12_nearer 2 = .ok (.iconst 0, 1) := by decide +kernel
theorem dX12_nearer_3 : decode cX12_nearer 3 = .ok (.invokevirtual 321, 3) := by decide +kernel
theorem dX12_nearer_6 : decode cX12_nearer 6 = .ok (.iconst (-1), 1) := by decide +kernel
theorem dX12_nearer_7 : decode cX12_nearer 7 = .ok (.istore_n 2, 1) := by decide +kernel
theorem dX12_nearer_8 : decode cX12_nearer 8 = .ok (.aload_n 0, 1) := by decide +kernel
theorem dX12_nearer_9 : decode cX12_nearer 9 = .ok (.invokevirtual 209, 3) := by decide +kernel
theorem dX12_nearer_12 : decode cX12_nearer 12 = .ok (.istore_n 3, 1) := by decide +kernel
theorem dX12_nearer_13 : decode cX12_nearer 13 = .ok (.iload_n 3, 1) := by decide +kernel
theorem dX12_nearer_14 : decode cX12_nearer 14 = .ok (.iconst 1, 1) := by decide +kernel
theorem dX12_nearer_15 : decode cX12_nearer 15 = .ok (.if_icmp .lt 53, 3) := by decide +kernel
theorem dX12_nearer_18 : decode cX12_nearer 18 = .ok (.aload_n 0, 1) := by decide +kernel
theorem dX12_nearer_19 : decode cX12_nearer 19 = .ok (.iload_n 1, 1) := by decide +kernel
theorem dX12_nearer_20 : decode cX12_nearer 20 = .ok (.invokevirtual 302, 3) := by decide +kernel
theorem dX12_nearer_23 : decode cX12_nearer 23 = .ok (.iconst 1, 1) := by decide +kernel
theorem dX12_nearer_24 : decode cX12_nearer 24 = .ok (.if_icmp .le 36, 3) := by decide +kernel
theorem dX12_nearer_27 : decode cX12_nearer 27 = .ok (.aload_n 0, 1) := by decide +kernel
theorem dX12_nearer_28 : decode cX12_nearer 28 = .ok (.getfield 110, 3) := by decide +kernel
theorem dX12_nearer_31 : decode cX12_nearer 31 = .ok (.iload_n 3, 1) := by decide +kernel
theorem dX12_nearer_32 : decode cX12_nearer 32 = .ok (.iaload, 1) := by decide +kernel
theorem dX12_nearer_33 : decode cX12_nearer 33 = .ok (.ifCond .lt 27, 3) := by decide +kernel
theorem dX12_nearer_36 : decode cX12_nearer 36 = .ok (.aload_n 0, 1) := by decide +kernel
theorem dX12_nearer_37 : decode cX12_nearer 37 = .ok (.aload_n 0, 1) := by decide +kernel
theorem dX12_nearer_38 : decode cX12_nearer 38 = .ok (.getfield 110, 3) := by decide +kernel
theorem dX12_nearer_41 : decode cX12_nearer 41 = .ok (.iload_n 3, 1) := by decide +kernel
theorem dX12_nearer_42 : decode cX12_nearer 42 = .ok (.iaload, 1) := by decide +kernel
theorem dX12_nearer_43 : decode cX12_nearer 43 = .ok (.invokevirtual 302, 3) := by decide +kernel
theorem dX12_nearer_46 : decode cX12_nearer 46 = .ok (.aload_n 0, 1) := by decide +kernel
theorem dX12_nearer_47 : decode cX12_nearer 47 = .ok (.iload_n 1, 1) := by decide +kernel
theorem dX12_nearer_48 : decode cX12_nearer 48 = .ok (.invokevirtual 302, 3) := by decide +kernel
theorem dX12_nearer_51 : decode cX12_nearer 51 = .ok (.iconst 1, 1) := by decide +kernel
theorem dX12_nearer_52 : decode cX12_nearer 52 = .ok (.isub, 1) := by decide +kernel
theorem dX12_nearer_53 : decode cX12_nearer 53 = .ok (.if_icmp .ne 7, 3) := by decide +kernel
theorem dX12_nearer_56 : decode cX12_nearer 56 = .ok (.iload_n 3, 1) := by decide +kernel
theorem dX12_nearer_57 : decode cX12_nearer 57 = .ok (.goto 4, 3) := by decide +kernel
theorem dX12_nearer_60 : decode cX12_nearer 60 = .ok (.iload_n 2, 1) := by decide +kernel
theorem dX12_nearer_61 : decode cX12_nearer 61 = .ok (.istore_n 2, 1) := by decide +kernel
theorem dX12_nearer_62 : decode cX12_nearer 62 = .ok (.iinc 3 (-1), 3) := by decide +kernel
theorem dX12_nearer_65 : decode cX12_nearer 65 = .ok (.goto (-52), 3) := by decide +kernel
theorem dX12_nearer_68 : decode cX12_nearer 68 = .ok (.iload_n 2, 1) := by decide +kernel
theorem dX12_nearer_69 : decode cX12_nearer 69 = .ok (.ireturn, 1) := by decide +kernel
theorem dX12_row_0 : decode cX12_row 0 = .ok (.aload_n 0, 1) := by decide +kernel
theorem dX12_row_1 : decode cX12_row 1 = .ok (.iconst 0, 1) := by decide +kernel
theorem dX12_row_2 : decode cX12_row 2 = .ok (.putfield 1, 3) := by decide +kernel
theorem dX12_row_5 : decode cX12_row 5 = .ok (.aload_n 0, 1) := by decide +kernel
theorem dX12_row_6 : decode cX12_row 6 = .ok (.invokevirtual 315, 3) := by decide +kernel
theorem dX12_row_9 : decode cX12_row 9 = .ok (.aload_n 0, 1) := by decide +kernel
theorem dX12_row_10 : decode cX12_row 10 = .ok (.getfield 94, 3) := by decide +kernel
theorem dX12_row_13 : decode cX12_row 13 = .ok (.iconst 0, 1) := by decide +kernel
theorem dX12_row_14 : decode cX12_row 14 = .ok (.iaload, 1) := by decide +kernel
theorem dX12_row_15 : decode cX12_row 15 = .ok (.istore_n 2, 1) := by decide +kernel
theorem dX12_row_16 : decode cX12_row 16 = .ok (.iload_n 1, 1) := by decide +kernel
theorem dX12_row_17 : decode cX12_row 17 = .ok (.ifCond .lt 12, 3) := by decide +kernel
theorem dX12_row_20 : decode cX12_row 20 = .ok (.iload_n 1, 1) := by decide +kernel
theorem dX12_row_21 : decode cX12_row 21 = .ok (.aload_n 0, 1) := by decide +kernel
theorem dX12_row_22 : decode cX12_row 22 = .ok (.iload_n 2, 1) := by decide +kernel
theorem dX12_row_23 : decode cX12_row 23 = .ok (.invokevirtual 318, 3) := by decide +kernel
theorem dX12_row_26 : decode cX12_row 26 = .ok (.if_icmp .lt 5, 3) := by decide +kernel
theorem dX12_row_29 : decode cX12_row 29 = .ok (.iconst (-1), 1) := by decide +kernel
theorem dX12_row_30 : decode cX12_row 30 = .ok (.ireturn, 1) := by decide +kernel
theorem dX12_row_31 : decode cX12_row 31 = .ok (.iconst 0, 1) := by decide +kernel
theorem dX12_row_32 : decode cX12_row 32 = .ok (.istore_n 3, 1) := by decide +kernel
theorem dX12_row_33 : decode cX12_row 33 = .ok (.iload_n 3, 1) := by decide +kernel
theorem dX12_row_34 : decode cX12_row 34 = .ok (.iload_n 1, 1) := by decide +kernel
theorem dX12_row_35 : decode cX12_row 35 = .ok (.if_icmp .ge 24, 3) := by decide +kernel
theorem dX12_row_38 : decode cX12_row 38 = .ok (.aload_n 0, 1) := by decide +kernel
theorem dX12_row_39 : decode cX12_row 39 = .ok (.iload_n 2, 1) := by decide +kernel
theorem dX12_row_40 : decode cX12_row 40 = .ok (.invokevirtual 324, 3) := by decide +kernel
theorem dX12_row_43 : decode cX12_row 43 = .ok (.istore 4, 2) := by decide +kernel
theorem dX12_row_45 : decode cX12_row 45 = .ok (.aload_n 0, 1) := by decide +kernel
theorem dX12_row_46 : decode cX12_row 46 = .ok (.getfield 110, 3) := by decide +kernel
theorem dX12_row_49 : decode cX12_row 49 = .ok (.iload 4, 2) := by decide +kernel
theorem dX12_row_51 : decode cX12_row 51 = .ok (.iaload, 1) := by decide +kernel
theorem dX12_row_52 : decode cX12_row 52 = .ok (.istore_n 2, 1) := by decide +kernel
theorem dX12_row_53 : decode cX12_row 53 = .ok (.iinc 3 1, 3) := by decide +kernel
theorem dX12_row_56 : decode cX12_row 56 = .ok (.goto (-23), 3) := by decide +kernel
theorem dX12_row_59 : decode cX12_row 59 = .ok (.aload_n 0, 1) := by decide +kernel
theorem dX12_row_60 : decode cX12_row 60 = .ok (.iload_n 2, 1) := by decide +kernel
theorem dX12_row_61 : decode cX12_row 61 = .ok (.invokevirtual 324, 3) := by decide +kernel
theorem dX12_row_64 : decode cX12_row 64 = .ok (.ireturn, 1) := by decide +kernel
theorem dX12_without_0 : decode cX12_without 0 = .ok (.aload_n 0, 1) := by decide +kernel
theorem dX12_without_1 : decode cX12_without 1 = .ok (.iconst 0, 1) := by decide +kernel
theorem dX12_without_2 : decode cX12_without 2 = .ok (.putfield 1, 3) := by decide +kernel
theorem dX12_without_5 : decode cX12_without 5 = .ok (.iload_n 1, 1) := by decide +kernel
theorem dX12_without_6 : decode cX12_without 6 = .ok (.iconst 1, 1) := by decide +kernel
theorem dX12_without_7 : decode cX12_without 7 = .ok (.aload_n 0, 1) := by decide +kernel
theorem dX12_without_8 : decode cX12_without 8 = .ok (.invokevirtual 209, 3) := by decide +kernel
theorem dX12_without_11 : decode cX12_without 11 = .ok (.invokestatic 270, 3) := by decide +kernel
theorem dX12_without_14 : decode cX12_without 14 = .ok (.ifCond .ne 5, 3) := by decide +kernel
theorem dX12_without_17 : decode cX12_without 17 = .ok (.iconst (-1), 1) := by decide +kernel
theorem dX12_without_18 : decode cX12_without 18 = .ok (.ireturn, 1) := by decide +kernel
theorem dX12_without_19 : decode cX12_without 19 = .ok (.aload_n 0, 1) := by decide +kernel
theorem dX12_without_20 : decode cX12_without 20 = .ok (.iconst 0, 1) := by decide +kernel
theorem dX12_without_21 : decode cX12_without 21 = .ok (.putfield 251, 3) := by decide +kernel
theorem dX12_without_24 : decode cX12_without 24 = .ok (.aload_n 0, 1) := by decide +kernel
theorem dX12_without_25 : decode cX12_without 25 = .ok (.iconst 0, 1) := by decide +kernel
theorem dX12_without_26 : decode cX12_without 26 = .ok (.iload_n 1, 1) := by decide +kernel
theorem dX12_without_27 : decode cX12_without 27 = .ok (.invokevirtual 311, 3) := by decide +kernel
theorem dX12_without_30 : decode cX12_without 30 = .ok (.aload_n 0, 1) := by decide +kernel
theorem dX12_without_31 : decode cX12_without 31 = .ok (.aload_n 0, 1) := by decide +kernel
theorem dX12_without_32 : decode cX12_without 32 = .ok (.getfield 94, 3) := by decide +kernel
theorem dX12_without_35 : decode cX12_without 35 = .ok (.iconst 0, 1) := by decide +kernel
theorem dX12_without_36 : decode cX12_without 36 = .ok (.iaload, 1) := by decide +kernel
theorem dX12_without_37 : decode cX12_without 37 = .ok (.invokevirtual 318, 3) := by decide +kernel
theorem dX12_without_40 : decode cX12_without 40 = .ok (.ireturn, 1) := by decide +kernel
theorem dX12_needed_0 : decode cX12_needed 0 = .ok (.aload_n 0, 1) := by decide +kernel
theorem dX12_needed_1 : decode cX12_needed 1 = .ok (.iconst 0, 1) := by decide +kernel
theorem dX12_needed_2 : decode cX12_needed 2 = .ok (.putfield 1, 3) := by decide +kernel
theorem dX12_needed_5 : decode cX12_needed 5 = .ok (.aload_n 0, 1) := by decide +kernel
theorem dX12_needed_6 : decode cX12_needed 6 = .ok (.invokevirtual 315, 3) := by decide +kernel
theorem dX12_needed_9 : decode cX12_needed 9 = .ok (.aload_n 0, 1) := by decide +kernel
theorem dX12_needed_10 : decode cX12_needed 10 = .ok (.aload_n 0, 1) := by decide +kernel
theorem dX12_needed_11 : decode cX12_needed 11 = .ok (.getfield 94, 3) := by decide +kernel
theorem dX12_needed_14 : decode cX12_needed 14 = .ok (.iconst 0, 1) := by decide +kernel
theorem dX12_needed_15 : decode cX12_needed 15 = .ok (.iaload, 1) := by decide +kernel
theorem dX12_needed_16 : decode cX12_needed 16 = .ok (.invokevirtual 318, 3) := by decide +kernel
theorem dX12_needed_19 : decode cX12_needed 19 = .ok (.ifCond .ge 5, 3) := by decide +kernel
theorem dX12_needed_22 : decode cX12_needed 22 = .ok (.iconst (-1), 1) := by decide +kernel
theorem dX12_needed_23 : decode cX12_needed 23 = .ok (.ireturn, 1) := by decide +kernel
theorem dX12_needed_24 : decode cX12_needed 24 = .ok (.iconst 0, 1) := by decide +kernel
theorem dX12_needed_25 : decode cX12_needed 25 = .ok (.istore_n 1, 1) := by decide +kernel
theorem dX12_needed_26 : decode cX12_needed 26 = .ok (.aload_n 0, 1) := by decide +kernel
theorem dX12_needed_27 : decode cX12_needed 27 = .ok (.iconst 0, 1) := by decide +kernel
theorem dX12_needed_28 : decode cX12_needed 28 = .ok (.putfield 251, 3) := by decide +kernel
theorem dX12_needed_31 : decode cX12_needed 31 = .ok (.iconst 1, 1) := by decide +kernel
theorem dX12_needed_32 : decode cX12_needed 32 = .ok (.istore_n 2, 1) := by decide +kernel
theorem dX12_needed_33 : decode cX12_needed 33 = .ok (.iload_n 2, 1) := by decide +kernel
theorem dX12_needed_34 : decode cX12_needed 34 = .ok (.aload_n 0, 1) := by decide +kernel
theorem dX12_needed_35 : decode cX12_needed 35 = .ok (.invokevirtual 209, 3) := by decide +kernel
theorem dX12_needed_38 : decode cX12_needed 38 = .ok (.if_icmp .gt 40, 3) := by decide +kernel
theorem dX12_needed_41 : decode cX12_needed 41 = .ok (.aload_n 0, 1) := by decide +kernel
theorem dX12_needed_42 : decode cX12_needed 42 = .ok (.iconst 0, 1) := by decide +kernel
theorem dX12_needed_43 : decode cX12_needed 43 = .ok (.iload_n 2, 1) := by decide +kernel
theorem dX12_needed_44 : decode cX12_needed 44 = .ok (.invokevirtual 311, 3) := by decide +kernel
theorem dX12_needed_47 : decode cX12_needed 47 = .ok (.iload_n 1, 1) := by decide +kernel
theorem dX12_needed_48 : decode cX12_needed 48 = .ok (.aload_n 0, 1) := by decide +kernel
theorem dX12_needed_49 : decode cX12_needed 49 = .ok (.aload_n 0, 1) := by decide +kernel
theorem dX12_needed_50 : decode cX12_needed 50 = .ok (.getfield 94, 3) := by decide +kernel
theorem dX12_needed_53 : decode cX12_needed 53 = .ok (.iconst 0, 1) := by decide +kernel
theorem dX12_needed_54 : decode cX12_needed 54 = .ok (.iaload, 1) := by decide +kernel
theorem dX12_needed_55 : decode cX12_needed 55 = .ok (.invokevirtual 318, 3) := by decide +kernel
theorem dX12_needed_58 : decode cX12_needed 58 = .ok (.ifCond .ge 11, 3) := by decide +kernel
theorem dX12_needed_61 : decode cX12_needed 61 = .ok (.iconst 1, 1) := by decide +kernel
theorem dX12_needed_62 : decode cX12_needed 62 = .ok (.iload_n 2, 1) := by decide +kernel
theorem dX12_needed_63 : decode cX12_needed 63 = .ok (.iconst 1, 1) := by decide +kernel
theorem dX12_needed_64 : decode cX12_needed 64 = .ok (.isub, 1) := by decide +kernel
theorem dX12_needed_65 : decode cX12_needed 65 = .ok (.ishl, 1) := by decide +kernel
theorem dX12_needed_66 : decode cX12_needed 66 = .ok (.goto 4, 3) := by decide +kernel
theorem dX12_needed_69 : decode cX12_needed 69 = .ok (.iconst 0, 1) := by decide +kernel
theorem dX12_needed_70 : decode cX12_needed 70 = .ok (.ior, 1) := by decide +kernel
theorem dX12_needed_71 : decode cX12_needed 71 = .ok (.istore_n 1, 1) := by decide +kernel
theorem dX12_needed_72 : decode cX12_needed 72 = .ok (.iinc 2 1, 3) := by decide +kernel
theorem dX12_needed_75 : decode cX12_needed 75 = .ok (.goto (-42), 3) := by decide +kernel
theorem dX12_needed_78 : decode cX12_needed 78 = .ok (.iload_n 1, 1) := by decide +kernel
theorem dX12_needed_79 : decode cX12_needed 79 = .ok (.ireturn, 1) := by decide +kernel
theorem dX12_far_0 : decode cX12_far 0 = .ok (.aload_n 0, 1) := by decide +kernel
theorem dX12_far_1 : decode cX12_far 1 = .ok (.iconst 0, 1) := by decide +kernel
theorem dX12_far_2 : decode cX12_far 2 = .ok (.putfield 1, 3) := by decide +kernel
theorem dX12_far_5 : decode cX12_far 5 = .ok (.aload_n 0, 1) := by decide +kernel
theorem dX12_far_6 : decode cX12_far 6 = .ok (.getfield 213, 3) := by decide +kernel
theorem dX12_far_9 : decode cX12_far 9 = .ok (.ifCond .ne 5, 3) := by decide +kernel
theorem dX12_far_12 : decode cX12_far 12 = .ok (.iconst (-1), 1) := by decide +kernel
theorem dX12_far_13 : decode cX12_far 13 = .ok (.ireturn, 1) := by decide +kernel
theorem dX12_far_14 : decode cX12_far 14 = .ok (.aload_n 0, 1) := by decide +kernel
theorem dX12_far_15 : decode cX12_far 15 = .ok (.iconst 0, 1) := by decide +kernel
theorem dX12_far_16 : decode cX12_far 16 = .ok (.putfield 251, 3) := by decide +kernel
theorem dX12_far_19 : decode cX12_far 19 = .ok (.aload_n 0, 1) := by decide +kernel
theorem dX12_far_20 : decode cX12_far 20 = .ok (.iconst 1, 1) := by decide +kernel
theorem dX12_far_21 : decode cX12_far 21 = .ok (.iconst 0, 1) := by decide +kernel
theorem dX12_far_22 : decode cX12_far 22 = .ok (.invokevirtual 311, 3) := by decide +kernel
theorem dX12_far_25 : decode cX12_far 25 = .ok (.aload_n 0, 1) := by decide +kernel
theorem dX12_far_26 : decode cX12_far 26 = .ok (.aload_n 0, 1) := by decide +kernel
theorem dX12_far_27 : decode cX12_far 27 = .ok (.getfield 94, 3) := by decide +kernel
theorem dX12_far_30 : decode cX12_far 30 = .ok (.iconst 0, 1) := by decide +kernel
theorem dX12_far_31 : decode cX12_far 31 = .ok (.iaload, 1) := by decide +kernel
theorem dX12_far_32 : decode cX12_far 32 = .ok (.invokevirtual 318, 3) := by decide +kernel
theorem dX12_far_35 : decode cX12_far 35 = .ok (.ireturn, 1) := by decide +kernel
theorem dX12_toward_0 : decode cX12_toward 0 = .ok (.aload_n 0, 1) := by decide +kernel
theorem dX12_toward_1 : decode cX12_toward 1 = .ok (.iconst 0, 1) := by decide +kernel
theorem dX12_toward_2 : decode cX12_toward 2 = .ok (.putfield 1, 3) := by decide +kernel
theorem dX12_toward_5 : decode cX12_toward 5 = .ok (.aload_n 0, 1) := by decide +kernel
theorem dX12_toward_6 : decode cX12_toward 6 = .ok (.getfield 213, 3) := by decide +kernel
theorem dX12_toward_9 : decode cX12_toward 9 = .ok (.ifCond .ne 5, 3) := by decide +kernel
theorem dX12_toward_12 : decode cX12_toward 12 = .ok (.iconst (-1), 1) := by decide +kernel
theorem dX12_toward_13 : decode cX12_toward 13 = .ok (.ireturn, 1) := by decide +kernel
theorem dX12_toward_14 : decode cX12_toward 14 = .ok (.aload_n 0, 1) := by decide +kernel
theorem dX12_toward_15 : decode cX12_toward 15 = .ok (.iconst 0, 1) := by decide +kernel
theorem dX12_toward_16 : decode cX12_toward 16 = .ok (.putfield 251, 3) := by decide +kernel
theorem dX12_toward_19 : decode cX12_toward 19 = .ok (.aload_n 0, 1) := by decide +kernel
theorem dX12_toward_20 : decode cX12_toward 20 = .ok (.iconst 1, 1) := by decide +kernel
theorem dX12_toward_21 : decode cX12_toward 21 = .ok (.iconst 0, 1) := by decide +kernel
theorem dX12_toward_22 : decode cX12_toward 22 = .ok (.invokevirtual 311, 3) := by decide +kernel
theorem dX12_toward_25 : decode cX12_toward 25 = .ok (.aload_n 0, 1) := by decide +kernel
theorem dX12_toward_26 : decode cX12_toward 26 = .ok (.aload_n 0, 1) := by decide +kernel
theorem dX12_toward_27 : decode cX12_toward 27 = .ok (.getfield 94, 3) := by decide +kernel
theorem dX12_toward_30 : decode cX12_toward 30 = .ok (.iconst 0, 1) := by decide +kernel
theorem dX12_toward_31 : decode cX12_toward 31 = .ok (.iaload, 1) := by decide +kernel
theorem dX12_toward_32 : decode cX12_toward 32 = .ok (.invokevirtual 324, 3) := by decide +kernel
theorem dX12_toward_35 : decode cX12_toward 35 = .ok (.ireturn, 1) := by decide +kernel
theorem dX12_never_0 : decode cX12_never 0 = .ok (.aload_n 0, 1) := by decide +kernel
theorem dX12_never_1 : decode cX12_never 1 = .ok (.iconst 0, 1) := by decide +kernel
theorem dX12_never_2 : decode cX12_never 2 = .ok (.putfield 1, 3) := by decide +kernel
theorem dX12_never_5 : decode cX12_never 5 = .ok (.aload_n 0, 1) := by decide +kernel
theorem dX12_never_6 : decode cX12_never 6 = .ok (.invokevirtual 315, 3) := by decide +kernel
theorem dX12_never_9 : decode cX12_never 9 = .ok (.iconst 0, 1) := by decide +kernel
theorem dX12_never_10 : decode cX12_never 10 = .ok (.istore_n 1, 1) := by decide +kernel
theorem dX12_never_11 : decode cX12_never 11 = .ok (.iconst 0, 1) := by decide +kernel
theorem dX12_never_12 : decode cX12_never 12 = .ok (.istore_n 2, 1) := by decide +kernel
theorem dX12_never_13 : decode cX12_never 13 = .ok (.iload_n 2, 1) := by decide +kernel
theorem dX12_never_14 : decode cX12_never 14 = .ok (.aload_n 0, 1) := by decide +kernel
theorem dX12_never_15 : decode cX12_never 15 = .ok (.invokevirtual 294, 3) := by decide +kernel
theorem dX12_never_18 : decode cX12_never 18 = .ok (.if_icmp .ge 25, 3) := by decide +kernel
theorem dX12_never_21 : decode cX12_never 21 = .ok (.iload_n 1, 1) := by decide +kernel
theorem dX12_never_22 : decode cX12_never 22 = .ok (.aload_n 0, 1) := by decide +kernel
theorem dX12_never_23 : decode cX12_never 23 = .ok (.iload_n 2, 1) := by decide +kernel
theorem dX12_never_24 : decode cX12_never 24 = .ok (.invokevirtual 318, 3) := by decide +kernel
theorem dX12_never_27 : decode cX12_never 27 = .ok (.ifCond .ge 7, 3) := by decide +kernel
theorem dX12_never_30 : decode cX12_never 30 = .ok (.iconst 1, 1) := by decide +kernel
theorem dX12_never_31 : decode cX12_never 31 = .ok (.goto 4, 3) := by decide +kernel
theorem dX12_never_34 : decode cX12_never 34 = .ok (.iconst 0, 1) := by decide +kernel
theorem dX12_never_35 : decode cX12_never 35 = .ok (.iadd, 1) := by decide +kernel
theorem dX12_never_36 : decode cX12_never 36 = .ok (.istore_n 1, 1) := by decide +kernel
theorem dX12_never_37 : decode cX12_never 37 = .ok (.iinc 2 1, 3) := by decide +kernel
theorem dX12_never_40 : decode cX12_never 40 = .ok (.goto (-27), 3) := by decide +kernel
theorem dX12_never_43 : decode cX12_never 43 = .ok (.iload_n 1, 1) := by decide +kernel
theorem dX12_never_44 : decode cX12_never 44 = .ok (.ireturn, 1) := by decide +kernel
theorem dX12_spreadOf_0 : decode cX12_spreadOf 0 = .ok (.iconst 0, 1) := by decide +kernel
theorem dX12_spreadOf_1 : decode cX12_spreadOf 1 = .ok (.istore_n 2, 1) := by decide +kernel
theorem dX12_spreadOf_2 : decode cX12_spreadOf 2 = .ok (.iconst 0, 1) := by decide +kernel
theorem dX12_spreadOf_3 : decode cX12_spreadOf 3 = .ok (.istore_n 3, 1) := by decide +kernel
theorem dX12_spreadOf_4 : decode cX12_spreadOf 4 = .ok (.iload_n 3, 1) := by decide +kernel
theorem dX12_spreadOf_5 : decode cX12_spreadOf 5 = .ok (.aload_n 0, 1) := by decide +kernel
theorem dX12_spreadOf_6 : decode cX12_spreadOf 6 = .ok (.invokevirtual 294, 3) := by decide +kernel
theorem dX12_spreadOf_9 : decode cX12_spreadOf 9 = .ok (.if_icmp .ge 26, 3) := by decide +kernel
theorem dX12_spreadOf_12 : decode cX12_spreadOf 12 = .ok (.iload_n 2, 1) := by decide +kernel
theorem dX12_spreadOf_13 : decode cX12_spreadOf 13 = .ok (.aload_n 0, 1) := by decide +kernel
theorem dX12_spreadOf_14 : decode cX12_spreadOf 14 = .ok (.iload_n 3, 1) := by decide +kernel
theorem dX12_spreadOf_15 : decode cX12_spreadOf 15 = .ok (.invokevirtual 318, 3) := by decide +kernel
theorem dX12_spreadOf_18 : decode cX12_spreadOf 18 = .ok (.iload_n 1, 1) := by decide +kernel
theorem dX12_spreadOf_19 : decode cX12_spreadOf 19 = .ok (.if_icmp .ne 7, 3) := by decide +kernel
theorem dX12_spreadOf_22 : decode cX12_spreadOf 22 = .ok (.iconst 1, 1) := by decide +kernel
theorem dX12_spreadOf_23 : decode cX12_spreadOf 23 = .ok (.goto 4, 3) := by decide +kernel
theorem dX12_spreadOf_26 : decode cX12_spreadOf 26 = .ok (.iconst 0, 1) := by decide +kernel
theorem dX12_spreadOf_27 : decode cX12_spreadOf 27 = .ok (.iadd, 1) := by decide +kernel
theorem dX12_spreadOf_28 : decode cX12_spreadOf 28 = .ok (.istore_n 2, 1) := by decide +kernel
theorem dX12_spreadOf_29 : decode cX12_spreadOf 29 = .ok (.iinc 3 1, 3) := by decide +kernel
theorem dX12_spreadOf_32 : decode cX12_spreadOf 32 = .ok (.goto (-28), 3) := by decide +kernel
theorem dX12_spreadOf_35 : decode cX12_spreadOf 35 = .ok (.iload_n 2, 1) := by decide +kernel
theorem dX12_spreadOf_36 : decode cX12_spreadOf 36 = .ok (.ireturn, 1) := by decide +kernel
theorem dX12_hard_0 : decode cX12_hard 0 = .ok (.aload_n 0, 1) := by decide +kernel
theorem dX12_hard_1 : decode cX12_hard 1 = .ok (.iconst 0, 1) := by decide +kernel
theorem dX12_hard_2 : decode cX12_hard 2 = .ok (.putfield 1, 3) := by decide +kernel
theorem dX12_hard_5 : decode cX12_hard 5 = .ok (.iload_n 1, 1) := by decide +kernel
theorem dX12_hard_6 : decode cX12_hard 6 = .ok (.iconst 0, 1) := by decide +kernel
theorem dX12_hard_7 : decode cX12_hard 7 = .ok (.iconst 1, 1) := by decide +kernel
theorem dX12_hard_8 : decode cX12_hard 8 = .ok (.invokestatic 270, 3) := by decide +kernel
theorem dX12_hard_11 : decode cX12_hard 11 = .ok (.ifCond .ne 5, 3) := by decide +kernel
theorem dX12_hard_14 : decode cX12_hard 14 = .ok (.iconst (-1), 1) := by decide +kernel
theorem dX12_hard_15 : decode cX12_hard 15 = .ok (.ireturn, 1) := by decide +kernel
theorem dX12_hard_16 : decode cX12_hard 16 = .ok (.aload_n 0, 1) := by decide +kernel
theorem dX12_hard_17 : decode cX12_hard 17 = .ok (.invokevirtual 315, 3) := by decide +kernel
theorem dX12_hard_20 : decode cX12_hard 20 = .ok (.iconst 0, 1) := by decide +kernel
theorem dX12_hard_21 : decode cX12_hard 21 = .ok (.istore_n 2, 1) := by decide +kernel
theorem dX12_hard_22 : decode cX12_hard 22 = .ok (.iconst 0, 1) := by decide +kernel
theorem dX12_hard_23 : decode cX12_hard 23 = .ok (.istore_n 3, 1) := by decide +kernel
theorem dX12_hard_24 : decode cX12_hard 24 = .ok (.iload_n 3, 1) := by decide +kernel
theorem dX12_hard_25 : decode cX12_hard 25 = .ok (.aload_n 0, 1) := by decide +kernel
theorem dX12_hard_26 : decode cX12_hard 26 = .ok (.invokevirtual 294, 3) := by decide +kernel
theorem dX12_hard_29 : decode cX12_hard 29 = .ok (.if_icmp .ge 28, 3) := by decide +kernel
theorem dX12_hard_32 : decode cX12_hard 32 = .ok (.aload_n 0, 1) := by decide +kernel
theorem dX12_hard_33 : decode cX12_hard 33 = .ok (.iload_n 3, 1) := by decide +kernel
theorem dX12_hard_34 : decode cX12_hard 34 = .ok (.invokevirtual 318, 3) := by decide +kernel
theorem dX12_hard_37 : decode cX12_hard 37 = .ok (.iload_n 2, 1) := by decide +kernel
theorem dX12_hard_38 : decode cX12_hard 38 = .ok (.if_icmp .le 11, 3) := by decide +kernel
theorem dX12_hard_41 : decode cX12_hard 41 = .ok (.aload_n 0, 1) := by decide +kernel
theorem dX12_hard_42 : decode cX12_hard 42 = .ok (.iload_n 3, 1) := by decide +kernel
theorem dX12_hard_43 : decode cX12_hard 43 = .ok (.invokevirtual 318, 3) := by decide +kernel
theorem dX12_hard_46 : decode cX12_hard 46 = .ok (.goto 4, 3) := by decide +kernel
theorem dX12_hard_49 : decode cX12_hard 49 = .ok (.iload_n 2, 1) := by decide +kernel
theorem dX12_hard_50 : decode cX12_hard 50 = .ok (.istore_n 2, 1) := by decide +kernel
theorem dX12_hard_51 : decode cX12_hard 51 = .ok (.iinc 3 1, 3) := by decide +kernel
theorem dX12_hard_54 : decode cX12_hard 54 = .ok (.goto (-30), 3) := by decide +kernel
theorem dX12_hard_57 : decode cX12_hard 57 = .ok (.iload_n 1, 1) := by decide +kernel
theorem dX12_hard_58 : decode cX12_hard 58 = .ok (.ifCond .ne 7, 3) := by decide +kernel
theorem dX12_hard_61 : decode cX12_hard 61 = .ok (.iload_n 2, 1) := by decide +kernel
theorem dX12_hard_62 : decode cX12_hard 62 = .ok (.goto 8, 3) := by decide +kernel
theorem dX12_hard_65 : decode cX12_hard 65 = .ok (.aload_n 0, 1) := by decide +kernel
theorem dX12_hard_66 : decode cX12_hard 66 = .ok (.iload_n 2, 1) := by decide +kernel
theorem dX12_hard_67 : decode cX12_hard 67 = .ok (.invokevirtual 327, 3) := by decide +kernel
theorem dX12_hard_70 : decode cX12_hard 70 = .ok (.ireturn, 1) := by decide +kernel
theorem dX12_spread_0 : decode cX12_spread 0 = .ok (.aload_n 0, 1) := by decide +kernel
theorem dX12_spread_1 : decode cX12_spread 1 = .ok (.iconst 0, 1) := by decide +kernel
theorem dX12_spread_2 : decode cX12_spread 2 = .ok (.putfield 1, 3) := by decide +kernel
theorem dX12_spread_5 : decode cX12_spread 5 = .ok (.iload_n 1, 1) := by decide +kernel
theorem dX12_spread_6 : decode cX12_spread 6 = .ok (.iconst 0, 1) := by decide +kernel
theorem dX12_spread_7 : decode cX12_spread 7 = .ok (.bipush 60, 2) := by decide +kernel
theorem dX12_spread_9 : decode cX12_spread 9 = .ok (.invokestatic 270, 3) := by decide +kernel
theorem dX12_spread_12 : decode cX12_spread 12 = .ok (.ifCond .ne 5, 3) := by decide +kernel
theorem dX12_spread_15 : decode cX12_spread 15 = .ok (.iconst (-1), 1) := by decide +kernel
theorem dX12_spread_16 : decode cX12_spread 16 = .ok (.ireturn, 1) := by decide +kernel
theorem dX12_spread_17 : decode cX12_spread 17 = .ok (.aload_n 0, 1) := by decide +kernel
theorem dX12_spread_18 : decode cX12_spread 18 = .ok (.invokevirtual 315, 3) := by decide +kernel
theorem dX12_spread_21 : decode cX12_spread 21 = .ok (.aload_n 0, 1) := by decide +kernel
theorem dX12_spread_22 : decode cX12_spread 22 = .ok (.iload_n 1, 1) := by decide +kernel
theorem dX12_spread_23 : decode cX12_spread 23 = .ok (.invokevirtual 327, 3) := by decide +kernel
theorem dX12_spread_26 : decode cX12_spread 26 = .ok (.ireturn, 1) := by decide +kernel
theorem dX12_sharp_0 : decode cX12_sharp 0 = .ok (.aload_n 0, 1) := by decide +kernel
theorem dX12_sharp_1 : decode cX12_sharp 1 = .ok (.iconst 0, 1) := by decide +kernel
theorem dX12_sharp_2 : decode cX12_sharp 2 = .ok (.putfield 1, 3) := by decide +kernel
theorem dX12_sharp_5 : decode cX12_sharp 5 = .ok (.aload_n 0, 1) := by decide +kernel
theorem dX12_sharp_6 : decode cX12_sharp 6 = .ok (.invokevirtual 315, 3) := by decide +kernel
theorem dX12_sharp_9 : decode cX12_sharp 9 = .ok (.aload_n 0, 1) := by decide +kernel
theorem dX12_sharp_10 : decode cX12_sharp 10 = .ok (.aload_n 0, 1) := by decide +kernel
theorem dX12_sharp_11 : decode cX12_sharp 11 = .ok (.getfield 94, 3) := by decide +kernel
theorem dX12_sharp_14 : decode cX12_sharp 14 = .ok (.iconst 0, 1) := by decide +kernel
theorem dX12_sharp_15 : decode cX12_sharp 15 = .ok (.iaload, 1) := by decide +kernel
theorem dX12_sharp_16 : decode cX12_sharp 16 = .ok (.invokevirtual 318, 3) := by decide +kernel
theorem dX12_sharp_19 : decode cX12_sharp 19 = .ok (.aload_n 0, 1) := by decide +kernel
theorem dX12_sharp_20 : decode cX12_sharp 20 = .ok (.invokevirtual 330, 3) := by decide +kernel
theorem dX12_sharp_23 : decode cX12_sharp 23 = .ok (.if_icmp .ne 7, 3) := by decide +kernel
theorem dX12_sharp_26 : decode cX12_sharp 26 = .ok (.iconst 1, 1) := by decide +kernel
theorem dX12_sharp_27 : decode cX12_sharp 27 = .ok (.goto 4, 3) := by decide +kernel
theorem dX12_sharp_30 : decode cX12_sharp 30 = .ok (.iconst 0, 1) := by decide +kernel
theorem dX12_sharp_31 : decode cX12_sharp 31 = .ok (.ireturn, 1) := by decide +kernel
theorem dX12_laysCheap_0 : decode cX12_laysCheap 0 = .ok (.aload_n 0, 1) := by decide +kernel
theorem dX12_laysCheap_1 : decode cX12_laysCheap 1 = .ok (.getfield 251, 3) := by decide +kernel
theorem dX12_laysCheap_4 : decode cX12_laysCheap 4 = .ok (.iconst 2, 1) := by decide +kernel
theorem dX12_laysCheap_5 : decode cX12_laysCheap 5 = .ok (.if_icmp .ne 4, 3) := by decide +kernel
theorem dX12_laysCheap_8 : decode cX12_laysCheap 8 = .ok (.return_, 1) := by decide +kernel
theorem dX12_laysCheap_9 : decode cX12_laysCheap 9 = .ok (.aload_n 0, 1) := by decide +kernel
theorem dX12_laysCheap_10 : decode cX12_laysCheap 10 = .ok (.iconst 2, 1) := by decide +kernel
theorem dX12_laysCheap_11 : decode cX12_laysCheap 11 = .ok (.putfield 251, 3) := by decide +kernel
theorem dX12_laysCheap_14 : decode cX12_laysCheap 14 = .ok (.iconst 0, 1) := by decide +kernel
theorem dX12_laysCheap_15 : decode cX12_laysCheap 15 = .ok (.istore_n 1, 1) := by decide +kernel
theorem dX12_laysCheap_16 : decode cX12_laysCheap 16 = .ok (.iload_n 1, 1) := by decide +kernel
theorem dX12_laysCheap_17 : decode cX12_laysCheap 17 = .ok (.aload_n 0, 1) := by decide +kernel
theorem dX12_laysCheap_18 : decode cX12_laysCheap 18 = .ok (.invokevirtual 294, 3) := by decide +kernel
theorem dX12_laysCheap_21 : decode cX12_laysCheap 21 = .ok (.if_icmp .ge 32, 3) := by decide +kernel
theorem dX12_laysCheap_24 : decode cX12_laysCheap 24 = .ok (.aload_n 0, 1) := by decide +kernel
theorem dX12_laysCheap_25 : decode cX12_laysCheap 25 = .ok (.iload_n 1, 1) := by decide +kernel
theorem dX12_laysCheap_26 : decode cX12_laysCheap 26 = .ok (.invokevirtual 274, 3) := by decide +kernel
theorem dX12_laysCheap_29 : decode cX12_laysCheap 29 = .ok (.aload_n 0, 1) := by decide +kernel
theorem dX12_laysCheap_30 : decode cX12_laysCheap 30 = .ok (.getfield 107, 3) := by decide +kernel
theorem dX12_laysCheap_33 : decode cX12_laysCheap 33 = .ok (.iload_n 1, 1) := by decide +kernel
theorem dX12_laysCheap_34 : decode cX12_laysCheap 34 = .ok (.aload_n 0, 1) := by decide +kernel
theorem dX12_laysCheap_35 : decode cX12_laysCheap 35 = .ok (.invokevirtual 289, 3) := by decide +kernel
theorem dX12_laysCheap_38 : decode cX12_laysCheap 38 = .ok (.ifCond .eq 7, 3) := by decide +kernel
theorem dX12_laysCheap_41 : decode cX12_laysCheap 41 = .ok (.lconst 1, 1) := by decide +kernel
theorem dX12_laysCheap_42 : decode cX12_laysCheap 42 = .ok (.goto 4, 3) := by decide +kernel
theorem dX12_laysCheap_45 : decode cX12_laysCheap 45 = .ok (.lconst 0, 1) := by decide +kernel
theorem dX12_laysCheap_46 : decode cX12_laysCheap 46 = .ok (.lastore, 1) := by decide +kernel
theorem dX12_laysCheap_47 : decode cX12_laysCheap 47 = .ok (.iinc 1 1, 3) := by decide +kernel
theorem dX12_laysCheap_50 : decode cX12_laysCheap 50 = .ok (.goto (-34), 3) := by decide +kernel
theorem dX12_laysCheap_53 : decode cX12_laysCheap 53 = .ok (.lconst 1, 1) := by decide +kernel
theorem dX12_laysCheap_54 : decode cX12_laysCheap 54 = .ok (.lstore_n 1, 1) := by decide +kernel
theorem dX12_laysCheap_55 : decode cX12_laysCheap 55 = .ok (.lconst 1, 1) := by decide +kernel
theorem dX12_laysCheap_56 : decode cX12_laysCheap 56 = .ok (.lstore_n 3, 1) := by decide +kernel
theorem dX12_laysCheap_57 : decode cX12_laysCheap 57 = .ok (.lload_n 3, 1) := by decide +kernel
theorem dX12_laysCheap_58 : decode cX12_laysCheap 58 = .ok (.lload_n 1, 1) := by decide +kernel
theorem dX12_laysCheap_59 : decode cX12_laysCheap 59 = .ok (.lcmp, 1) := by decide +kernel
theorem dX12_laysCheap_60 : decode cX12_laysCheap 60 = .ok (.ifCond .gt 154, 3) := by decide +kernel
theorem dX12_laysCheap_63 : decode cX12_laysCheap 63 = .ok (.iconst 0, 1) := by decide +kernel
theorem dX12_laysCheap_64 : decode cX12_laysCheap 64 = .ok (.istore 5, 2) := by decide +kernel
theorem dX12_laysCheap_66 : decode cX12_laysCheap 66 = .ok (.iload 5, 2) := by decide +kernel
theorem dX12_laysCheap_68 : decode cX12_laysCheap 68 = .ok (.aload_n 0, 1) := by decide +kernel
theorem dX12_laysCheap_69 : decode cX12_laysCheap 69 = .ok (.invokevirtual 294, 3) := by decide +kernel
theorem dX12_laysCheap_72 : decode cX12_laysCheap 72 = .ok (.if_icmp .ge 135, 3) := by decide +kernel
theorem dX12_laysCheap_75 : decode cX12_laysCheap 75 = .ok (.iconst 1, 1) := by decide +kernel
theorem dX12_laysCheap_76 : decode cX12_laysCheap 76 = .ok (.istore 6, 2) := by decide +kernel
theorem dX12_laysCheap_78 : decode cX12_laysCheap 78 = .ok (.iload 6, 2) := by decide +kernel
theorem dX12_laysCheap_80 : decode cX12_laysCheap 80 = .ok (.aload_n 0, 1) := by decide +kernel
theorem dX12_laysCheap_81 : decode cX12_laysCheap 81 = .ok (.invokevirtual 209, 3) := by decide +kernel
theorem dX12_laysCheap_84 : decode cX12_laysCheap 84 = .ok (.if_icmp .gt 117, 3) := by decide +kernel
theorem dX12_laysCheap_87 : decode cX12_laysCheap 87 = .ok (.aload_n 0, 1) := by decide +kernel
theorem dX12_laysCheap_88 : decode cX12_laysCheap 88 = .ok (.getfield 107, 3) := by decide +kernel
theorem dX12_laysCheap_91 : decode cX12_laysCheap 91 = .ok (.iload 5, 2) := by decide +kernel
theorem dX12_laysCheap_93 : decode cX12_laysCheap 93 = .ok (.laload, 1) := by decide +kernel
theorem dX12_laysCheap_94 : decode cX12_laysCheap 94 = .ok (.lload_n 3, 1) := by decide +kernel
theorem dX12_laysCheap_95 : decode cX12_laysCheap 95 = .ok (.lcmp, 1) := by decide +kernel
theorem dX12_laysCheap_96 : decode cX12_laysCheap 96 = .ok (.ifCond .ne 105, 3) := by decide +kernel
theorem dX12_laysCheap_99 : decode cX12_laysCheap 99 = .ok (.aload_n 0, 1) := by decide +kernel
theorem dX12_laysCheap_100 : decode cX12_laysCheap 100 = .ok (.iload 5, 2) := by decide +kernel
theorem dX12_laysCheap_102 : decode cX12_laysCheap 102 = .ok (.invokevirtual 274, 3) := by decide +kernel
theorem dX12_laysCheap_105 : decode cX12_laysCheap 105 = .ok (.aload_n 0, 1) := by decide +kernel
theorem dX12_laysCheap_106 : decode cX12_laysCheap 106 = .ok (.iload 6, 2) := by decide +kernel
theorem dX12_laysCheap_108 : decode cX12_laysCheap 108 = .ok (.invokevirtual 286, 3) := by decide +kernel
theorem dX12_laysCheap_111 : decode cX12_laysCheap 111 = .ok (.aload_n 0, 1) := by decide +kernel
theorem dX12_laysCheap_112 : decode cX12_laysCheap 112 = .ok (.iload 6, 2) := by decide +kernel
theorem dX12_laysCheap_114 : decode cX12_laysCheap 114 = .ok (.invokevirtual 277, 3) := by decide +kernel
theorem dX12_laysCheap_117 : decode cX12_laysCheap 117 = .ok (.ifCond .eq 78, 3) := by decide +kernel
theorem dX12_laysCheap_120 : decode cX12_laysCheap 120 = .ok (.aload_n 0, 1) := by decide +kernel
theorem dX12_laysCheap_121 : decode cX12_laysCheap 121 = .ok (.invokevirtual 242, 3) := by decide +kernel
theorem dX12_laysCheap_124 : decode cX12_laysCheap 124 = .ok (.istore 7, 2) := by decide +kernel
theorem dX12_laysCheap_126 : decode cX12_laysCheap 126 = .ok (.lload_n 3, 1) := by decide +kernel
theorem dX12_laysCheap_127 : decode cX12_laysCheap 127 = .ok (.aload_n 0, 1) := by decide +kernel
theorem dX12_laysCheap_128 : decode cX12_laysCheap 128 = .ok (.iload 6, 2) := by decide +kernel
theorem dX12_laysCheap_130 : decode cX12_laysCheap 130 = .ok (.invokevirtual 283, 3) := by decide +kernel
theorem dX12_laysCheap_133 : decode cX12_laysCheap 133 = .ok (.i2l, 1) := by decide +kernel
theorem dX12_laysCheap_134 : decode cX12_laysCheap 134 = .ok (.ladd, 1) := by decide +kernel
theorem dX12_laysCheap_135 : decode cX12_laysCheap 135 = .ok (.lstore 8, 2) := by decide +kernel
theorem dX12_laysCheap_137 : decode cX12_laysCheap 137 = .ok (.aload_n 0, 1) := by decide +kernel
theorem dX12_laysCheap_138 : decode cX12_laysCheap 138 = .ok (.getfield 107, 3) := by decide +kernel
theorem dX12_laysCheap_141 : decode cX12_laysCheap 141 = .ok (.iload 7, 2) := by decide +kernel
theorem dX12_laysCheap_143 : decode cX12_laysCheap 143 = .ok (.aload_n 0, 1) := by decide +kernel
theorem dX12_laysCheap_144 : decode cX12_laysCheap 144 = .ok (.getfield 107, 3) := by decide +kernel
theorem dX12_laysCheap_147 : decode cX12_laysCheap 147 = .ok (.iload 7, 2) := by decide +kernel
theorem dX12_laysCheap_149 : decode cX12_laysCheap 149 = .ok (.laload, 1) := by decide +kernel
theorem dX12_laysCheap_150 : decode cX12_laysCheap 150 = .ok (.lconst 0, 1) := by decide +kernel
theorem dX12_laysCheap_151 : decode cX12_laysCheap 151 = .ok (.lcmp, 1) := by decide +kernel
theorem dX12_laysCheap_152 : decode cX12_laysCheap 152 = .ok (.ifCond .eq 16, 3) := by decide +kernel
theorem dX12_laysCheap_155 : decode cX12_laysCheap 155 = .ok (.lload 8, 2) := by decide +kernel
theorem dX12_laysCheap_157 : decode cX12_laysCheap 157 = .ok (.aload_n 0, 1) := by decide +kernel
theorem dX12_laysCheap_158 : decode cX12_laysCheap 158 = .ok (.getfield 107, 3) := by decide +kernel
theorem dX12_laysCheap_161 : decode cX12_laysCheap 161 = .ok (.iload 7, 2) := by decide +kernel
theorem dX12_laysCheap_163 : decode cX12_laysCheap 163 = .ok (.laload, 1) := by decide +kernel
theorem dX12_laysCheap_164 : decode cX12_laysCheap 164 = .ok (.lcmp, 1) := by decide +kernel
theorem dX12_laysCheap_165 : decode cX12_laysCheap 165 = .ok (.ifCond .ge 8, 3) := by decide +kernel
theorem dX12_laysCheap_168 : decode cX12_laysCheap 168 = .ok (.lload 8, 2) := by decide +kernel
theorem dX12_laysCheap_170 : decode cX12_laysCheap 170 = .ok (.goto 10, 3) := by decide +kernel
theorem dX12_laysCheap_173 : decode cX12_laysCheap 173 = .ok (.aload_n 0, 1) := by decide +kernel
theorem dX12_laysCheap_174 : decode cX12_laysCheap 174 = .ok (.getfield 107, 3) := by decide +kernel
theorem dX12_laysCheap_177 : decode cX12_laysCheap 177 = .ok (.iload 7, 2) := by decide +kernel
theorem dX12_laysCheap_179 : decode cX12_laysCheap 179 = .ok (.laload, 1) := by decide +kernel
theorem dX12_laysCheap_180 : decode cX12_laysCheap 180 = .ok (.lastore, 1) := by decide +kernel
theorem dX12_laysCheap_181 : decode cX12_laysCheap 181 = .ok (.lload 8, 2) := by decide +kernel
theorem dX12_laysCheap_183 : decode cX12_laysCheap 183 = .ok (.lload_n 1, 1) := by decide +kernel
theorem dX12_laysCheap_184 : decode cX12_laysCheap 184 = .ok (.lcmp, 1) := by decide +kernel
theorem dX12_laysCheap_185 : decode cX12_laysCheap 185 = .ok (.ifCond .le 8, 3) := by decide +kernel
theorem dX12_laysCheap_188 : decode cX12_laysCheap 188 = .ok (.lload 8, 2) := by decide +kernel
theorem dX12_laysCheap_190 : decode cX12_laysCheap 190 = .ok (.goto 4, 3) := by decide +kernel
theorem dX12_laysCheap_193 : decode cX12_laysCheap 193 = .ok (.lload_n 1, 1) := by decide +kernel
theorem dX12_laysCheap_194 : decode cX12_laysCheap 194 = .ok (.lstore_n 1, 1) := by decide +kernel
theorem dX12_laysCheap_195 : decode cX12_laysCheap 195 = .ok (.iinc 6 1, 3) := by decide +kernel
theorem dX12_laysCheap_198 : decode cX12_laysCheap 198 = .ok (.goto (-120), 3) := by decide +kernel
theorem dX12_laysCheap_201 : decode cX12_laysCheap 201 = .ok (.iinc 5 1, 3) := by decide +kernel
theorem dX12_laysCheap_204 : decode cX12_laysCheap 204 = .ok (.goto (-138), 3) := by decide +kernel
theorem dX12_laysCheap_207 : decode cX12_laysCheap 207 = .ok (.lload_n 3, 1) := by decide +kernel
theorem dX12_laysCheap_208 : decode cX12_laysCheap 208 = .ok (.lconst 1, 1) := by decide +kernel
theorem dX12_laysCheap_209 : decode cX12_laysCheap 209 = .ok (.ladd, 1) := by decide +kernel
theorem dX12_laysCheap_210 : decode cX12_laysCheap 210 = .ok (.lstore_n 3, 1) := by decide +kernel
theorem dX12_laysCheap_211 : decode cX12_laysCheap 211 = .ok (.goto (-154), 3) := by decide +kernel
theorem dX12_laysCheap_214 : decode cX12_laysCheap 214 = .ok (.return_, 1) := by decide +kernel
theorem dX12_cheap_0 : decode cX12_cheap 0 = .ok (.aload_n 0, 1) := by decide +kernel
theorem dX12_cheap_1 : decode cX12_cheap 1 = .ok (.iconst 0, 1) := by decide +kernel
theorem dX12_cheap_2 : decode cX12_cheap 2 = .ok (.putfield 1, 3) := by decide +kernel
theorem dX12_cheap_5 : decode cX12_cheap 5 = .ok (.aload_n 0, 1) := by decide +kernel
theorem dX12_cheap_6 : decode cX12_cheap 6 = .ok (.invokevirtual 333, 3) := by decide +kernel
theorem dX12_cheap_9 : decode cX12_cheap 9 = .ok (.aload_n 0, 1) := by decide +kernel
theorem dX12_cheap_10 : decode cX12_cheap 10 = .ok (.getfield 107, 3) := by decide +kernel
theorem dX12_cheap_13 : decode cX12_cheap 13 = .ok (.aload_n 0, 1) := by decide +kernel
theorem dX12_cheap_14 : decode cX12_cheap 14 = .ok (.getfield 94, 3) := by decide +kernel
theorem dX12_cheap_17 : decode cX12_cheap 17 = .ok (.iconst 0, 1) := by decide +kernel
theorem dX12_cheap_18 : decode cX12_cheap 18 = .ok (.iaload, 1) := by decide +kernel
theorem dX12_cheap_19 : decode cX12_cheap 19 = .ok (.laload, 1) := by decide +kernel
theorem dX12_cheap_20 : decode cX12_cheap 20 = .ok (.l2i, 1) := by decide +kernel
theorem dX12_cheap_21 : decode cX12_cheap 21 = .ok (.iconst 1, 1) := by decide +kernel
theorem dX12_cheap_22 : decode cX12_cheap 22 = .ok (.isub, 1) := by decide +kernel
theorem dX12_cheap_23 : decode cX12_cheap 23 = .ok (.ireturn, 1) := by decide +kernel
theorem dX12_bill_0 : decode cX12_bill 0 = .ok (.aload_n 0, 1) := by decide +kernel
theorem dX12_bill_1 : decode cX12_bill 1 = .ok (.iconst 0, 1) := by decide +kernel
theorem dX12_bill_2 : decode cX12_bill 2 = .ok (.putfield 1, 3) := by decide +kernel
theorem dX12_bill_5 : decode cX12_bill 5 = .ok (.aload_n 0, 1) := by decide +kernel
theorem dX12_bill_6 : decode cX12_bill 6 = .ok (.invokevirtual 333, 3) := by decide +kernel
theorem dX12_bill_9 : decode cX12_bill 9 = .ok (.aload_n 0, 1) := by decide +kernel
theorem dX12_bill_10 : decode cX12_bill 10 = .ok (.getfield 94, 3) := by decide +kernel
theorem dX12_bill_13 : decode cX12_bill 13 = .ok (.iconst 0, 1) := by decide +kernel
theorem dX12_bill_14 : decode cX12_bill 14 = .ok (.iaload, 1) := by decide +kernel
theorem dX12_bill_15 : decode cX12_bill 15 = .ok (.istore_n 2, 1) := by decide +kernel
theorem dX12_bill_16 : decode cX12_bill 16 = .ok (.iconst (-1), 1) := by decide +kernel
theorem dX12_bill_17 : decode cX12_bill 17 = .ok (.istore_n 3, 1) := by decide +kernel
theorem dX12_bill_18 : decode cX12_bill 18 = .ok (.iconst 0, 1) := by decide +kernel
theorem dX12_bill_19 : decode cX12_bill 19 = .ok (.istore 4, 2) := by decide +kernel
theorem dX12_bill_21 : decode cX12_bill 21 = .ok (.iload 4, 2) := by decide +kernel
theorem dX12_bill_23 : decode cX12_bill 23 = .ok (.iload_n 1, 1) := by decide +kernel
theorem dX12_bill_24 : decode cX12_bill 24 = .ok (.if_icmp .gt 122, 3) := by decide +kernel
theorem dX12_bill_27 : decode cX12_bill 27 = .ok (.aload_n 0, 1) := by decide +kernel
theorem dX12_bill_28 : decode cX12_bill 28 = .ok (.getfield 107, 3) := by decide +kernel
theorem dX12_bill_31 : decode cX12_bill 31 = .ok (.iload_n 2, 1) := by decide +kernel
theorem dX12_bill_32 : decode cX12_bill 32 = .ok (.laload, 1) := by decide +kernel
theorem dX12_bill_33 : decode cX12_bill 33 = .ok (.ldc2_w 336, 3) := by decide +kernel
theorem dX12_bill_36 : decode cX12_bill 36 = .ok (.lcmp, 1) := by decide +kernel
theorem dX12_bill_37 : decode cX12_bill 37 = .ok (.ifCond .ge 5, 3) := by decide +kernel
theorem dX12_bill_40 : decode cX12_bill 40 = .ok (.iconst (-1), 1) := by decide +kernel
theorem dX12_bill_41 : decode cX12_bill 41 = .ok (.ireturn, 1) := by decide +kernel
theorem dX12_bill_42 : decode cX12_bill 42 = .ok (.aload_n 0, 1) := by decide +kernel
theorem dX12_bill_43 : decode cX12_bill 43 = .ok (.iload_n 2, 1) := by decide +kernel
theorem dX12_bill_44 : decode cX12_bill 44 = .ok (.iconst 0, 1) := by decide +kernel
theorem dX12_bill_45 : decode cX12_bill 45 = .ok (.invokevirtual 321, 3) := by decide +kernel
theorem dX12_bill_48 : decode cX12_bill 48 = .ok (.iconst (-1), 1) := by decide +kernel
theorem dX12_bill_49 : decode cX12_bill 49 = .ok (.istore_n 3, 1) := by decide +kernel
theorem dX12_bill_50 : decode cX12_bill 50 = .ok (.aload_n 0, 1) := by decide +kernel
theorem dX12_bill_51 : decode cX12_bill 51 = .ok (.invokevirtual 209, 3) := by decide +kernel
theorem dX12_bill_54 : decode cX12_bill 54 = .ok (.istore 5, 2) := by decide +kernel
theorem dX12_bill_56 : decode cX12_bill 56 = .ok (.iload 5, 2) := by decide +kernel
theorem dX12_bill_58 : decode cX12_bill 58 = .ok (.iconst 1, 1) := by decide +kernel
theorem dX12_bill_59 : decode cX12_bill 59 = .ok (.if_icmp .lt 74, 3) := by decide +kernel
theorem dX12_bill_62 : decode cX12_bill 62 = .ok (.aload_n 0, 1) := by decide +kernel
theorem dX12_bill_63 : decode cX12_bill 63 = .ok (.getfield 110, 3) := by decide +kernel
theorem dX12_bill_66 : decode cX12_bill 66 = .ok (.iload 5, 2) := by decide +kernel
theorem dX12_bill_68 : decode cX12_bill 68 = .ok (.iaload, 1) := by decide +kernel
theorem dX12_bill_69 : decode cX12_bill 69 = .ok (.ifCond .lt 56, 3) := by decide +kernel
theorem dX12_bill_72 : decode cX12_bill 72 = .ok (.aload_n 0, 1) := by decide +kernel
theorem dX12_bill_73 : decode cX12_bill 73 = .ok (.getfield 107, 3) := by decide +kernel
theorem dX12_bill_76 : decode cX12_bill 76 = .ok (.aload_n 0, 1) := by decide +kernel
theorem dX12_bill_77 : decode cX12_bill 77 = .ok (.getfield 110, 3) := by decide +kernel
theorem dX12_bill_80 : decode cX12_bill 80 = .ok (.iload 5, 2) := by decide +kernel
theorem dX12_bill_82 : decode cX12_bill 82 = .ok (.iaload, 1) := by decide +kernel
theorem dX12_bill_83 : decode cX12_bill 83 = .ok (.laload, 1) := by decide +kernel
theorem dX12_bill_84 : decode cX12_bill 84 = .ok (.lconst 0, 1) := by decide +kernel
theorem dX12_bill_85 : decode cX12_bill 85 = .ok (.lcmp, 1) := by decide +kernel
theorem dX12_bill_86 : decode cX12_bill 86 = .ok (.ifCond .le 39, 3) := by decide +kernel
theorem dX12_bill_89 : decode cX12_bill 89 = .ok (.aload_n 0, 1) := by decide +kernel
theorem dX12_bill_90 : decode cX12_bill 90 = .ok (.getfield 107, 3) := by decide +kernel
theorem dX12_bill_93 : decode cX12_bill 93 = .ok (.aload_n 0, 1) := by decide +kernel
theorem dX12_bill_94 : decode cX12_bill 94 = .ok (.getfield 110, 3) := by decide +kernel
theorem dX12_bill_97 : decode cX12_bill 97 = .ok (.iload 5, 2) := by decide +kernel
theorem dX12_bill_99 : decode cX12_bill 99 = .ok (.iaload, 1) := by decide +kernel
theorem dX12_bill_100 : decode cX12_bill 100 = .ok (.laload, 1) := by decide +kernel
theorem dX12_bill_101 : decode cX12_bill 101 = .ok (.aload_n 0, 1) := by decide +kernel
theorem dX12_bill_102 : decode cX12_bill 102 = .ok (.getfield 113, 3) := by decide +kernel
theorem dX12_bill_105 : decode cX12_bill 105 = .ok (.iload 5, 2) := by decide +kernel
theorem dX12_bill_107 : decode cX12_bill 107 = .ok (.iaload, 1) := by decide +kernel
theorem dX12_bill_108 : decode cX12_bill 108 = .ok (.i2l, 1) := by decide +kernel
theorem dX12_bill_109 : decode cX12_bill 109 = .ok (.ladd, 1) := by decide +kernel
theorem dX12_bill_110 : decode cX12_bill 110 = .ok (.aload_n 0, 1) := by decide +kernel
theorem dX12_bill_111 : decode cX12_bill 111 = .ok (.getfield 107, 3) := by decide +kernel
theorem dX12_bill_114 : decode cX12_bill 114 = .ok (.iload_n 2, 1) := by decide +kernel
theorem dX12_bill_115 : decode cX12_bill 115 = .ok (.laload, 1) := by decide +kernel
theorem dX12_bill_116 : decode cX12_bill 116 = .ok (.lcmp, 1) := by decide +kernel
theorem dX12_bill_117 : decode cX12_bill 117 = .ok (.ifCond .ne 8, 3) := by decide +kernel
theorem dX12_bill_120 : decode cX12_bill 120 = .ok (.iload 5, 2) := by decide +kernel
theorem dX12_bill_122 : decode cX12_bill 122 = .ok (.goto 4, 3) := by decide +kernel
theorem dX12_bill_125 : decode cX12_bill 125 = .ok (.iload_n 3, 1) := by decide +kernel
theorem dX12_bill_126 : decode cX12_bill 126 = .ok (.istore_n 3, 1) := by decide +kernel
theorem dX12_bill_127 : decode cX12_bill 127 = .ok (.iinc 5 (-1), 3) := by decide +kernel
theorem dX12_bill_130 : decode cX12_bill 130 = .ok (.goto (-74), 3) := by decide +kernel
theorem dX12_bill_133 : decode cX12_bill 133 = .ok (.aload_n 0, 1) := by decide +kernel
theorem dX12_bill_134 : decode cX12_bill 134 = .ok (.getfield 110, 3) := by decide +kernel
theorem dX12_bill_137 : decode cX12_bill 137 = .ok (.iload_n 3, 1) := by decide +kernel
theorem dX12_bill_138 : decode cX12_bill 138 = .ok (.iaload, 1) := by decide +kernel
theorem dX12_bill_139 : decode cX12_bill 139 = .ok (.istore_n 2, 1) := by decide +kernel
theorem dX12_bill_140 : decode cX12_bill 140 = .ok (.iinc 4 1, 3) := by decide +kernel
theorem dX12_bill_143 : decode cX12_bill 143 = .ok (.goto (-122), 3) := by decide +kernel
theorem dX12_bill_146 : decode cX12_bill 146 = .ok (.iload_n 3, 1) := by decide +kernel
theorem dX12_bill_147 : decode cX12_bill 147 = .ok (.ireturn, 1) := by decide +kernel
theorem dX12_dear_0 : decode cX12_dear 0 = .ok (.aload_n 0, 1) := by decide +kernel
theorem dX12_dear_1 : decode cX12_dear 1 = .ok (.iconst 0, 1) := by decide +kernel
theorem dX12_dear_2 : decode cX12_dear 2 = .ok (.putfield 1, 3) := by decide +kernel
theorem dX12_dear_5 : decode cX12_dear 5 = .ok (.aload_n 0, 1) := by decide +kernel
theorem dX12_dear_6 : decode cX12_dear 6 = .ok (.invokevirtual 333, 3) := by decide +kernel
theorem dX12_dear_9 : decode cX12_dear 9 = .ok (.lconst 0, 1) := by decide +kernel
theorem dX12_dear_10 : decode cX12_dear 10 = .ok (.lstore_n 1, 1) := by decide +kernel
theorem dX12_dear_11 : decode cX12_dear 11 = .ok (.iconst 0, 1) := by decide +kernel
theorem dX12_dear_12 : decode cX12_dear 12 = .ok (.istore_n 3, 1) := by decide +kernel
theorem dX12_dear_13 : decode cX12_dear 13 = .ok (.iload_n 3, 1) := by decide +kernel
theorem dX12_dear_14 : decode cX12_dear 14 = .ok (.aload_n 0, 1) := by decide +kernel
theorem dX12_dear_15 : decode cX12_dear 15 = .ok (.invokevirtual 294, 3) := by decide +kernel
theorem dX12_dear_18 : decode cX12_dear 18 = .ok (.if_icmp .ge 31, 3) := by decide +kernel
theorem dX12_dear_21 : decode cX12_dear 21 = .ok (.aload_n 0, 1) := by decide +kernel
theorem dX12_dear_22 : decode cX12_dear 22 = .ok (.getfield 107, 3) := by decide +kernel
theorem dX12_dear_25 : decode cX12_dear 25 = .ok (.iload_n 3, 1) := by decide +kernel
theorem dX12_dear_26 : decode cX12_dear 26 = .ok (.laload, 1) := by decide +kernel
theorem dX12_dear_27 : decode cX12_dear 27 = .ok (.lload_n 1, 1) := by decide +kernel
theorem dX12_dear_28 : decode cX12_dear 28 = .ok (.lcmp, 1) := by decide +kernel
theorem dX12_dear_29 : decode cX12_dear 29 = .ok (.ifCond .le 12, 3) := by decide +kernel
theorem dX12_dear_32 : decode cX12_dear 32 = .ok (.aload_n 0, 1) := by decide +kernel
theorem dX12_dear_33 : decode cX12_dear 33 = .ok (.getfield 107, 3) := by decide +kernel
theorem dX12_dear_36 : decode cX12_dear 36 = .ok (.iload_n 3, 1) := by decide +kernel
theorem dX12_dear_37 : decode cX12_dear 37 = .ok (.laload, 1) := by decide +kernel
theorem dX12_dear_38 : decode cX12_dear 38 = .ok (.goto 4, 3) := by decide +kernel
theorem dX12_dear_41 : decode cX12_dear 41 = .ok (.lload_n 1, 1) := by decide +kernel
theorem dX12_dear_42 : decode cX12_dear 42 = .ok (.lstore_n 1, 1) := by decide +kernel
theorem dX12_dear_43 : decode cX12_dear 43 = .ok (.iinc 3 1, 3) := by decide +kernel
theorem dX12_dear_46 : decode cX12_dear 46 = .ok (.goto (-33), 3) := by decide +kernel
theorem dX12_dear_49 : decode cX12_dear 49 = .ok (.lload_n 1, 1) := by decide +kernel
theorem dX12_dear_50 : decode cX12_dear 50 = .ok (.l2i, 1) := by decide +kernel
theorem dX12_dear_51 : decode cX12_dear 51 = .ok (.iconst 1, 1) := by decide +kernel
theorem dX12_dear_52 : decode cX12_dear 52 = .ok (.isub, 1) := by decide +kernel
theorem dX12_dear_53 : decode cX12_dear 53 = .ok (.ireturn, 1) := by decide +kernel
theorem dX12_reaches_0 : decode cX12_reaches 0 = .ok (.aload_n 0, 1) := by decide +kernel
theorem dX12_reaches_1 : decode cX12_reaches 1 = .ok (.iconst 0, 1) := by decide +kernel
theorem dX12_reaches_2 : decode cX12_reaches 2 = .ok (.putfield 251, 3) := by decide +kernel
theorem dX12_reaches_5 : decode cX12_reaches 5 = .ok (.iconst 0, 1) := by decide +kernel
theorem dX12_reaches_6 : decode cX12_reaches 6 = .ok (.istore_n 1, 1) := by decide +kernel
theorem dX12_reaches_7 : decode cX12_reaches 7 = .ok (.iload_n 1, 1) := by decide +kernel
theorem dX12_reaches_8 : decode cX12_reaches 8 = .ok (.aload_n 0, 1) := by decide +kernel
theorem dX12_reaches_9 : decode cX12_reaches 9 = .ok (.invokevirtual 294, 3) := by decide +kernel
theorem dX12_reaches_12 : decode cX12_reaches 12 = .ok (.if_icmp .ge 16, 3) := by decide +kernel
theorem dX12_reaches_15 : decode cX12_reaches 15 = .ok (.aload_n 0, 1) := by decide +kernel
theorem dX12_reaches_16 : decode cX12_reaches 16 = .ok (.getfield 107, 3) := by decide +kernel
theorem dX12_reaches_19 : decode cX12_reaches 19 = .ok (.iload_n 1, 1) := by decide +kernel
theorem dX12_reaches_20 : decode cX12_reaches 20 = .ok (.lconst 0, 1) := by decide +kernel
theorem dX12_reaches_21 : decode cX12_reaches 21 = .ok (.lastore, 1) := by decide +kernel
theorem dX12_reaches_22 : decode cX12_reaches 22 = .ok (.iinc 1 1, 3) := by decide +kernel
theorem dX12_reaches_25 : decode cX12_reaches 25 = .ok (.goto (-18), 3) := by decide +kernel
theorem dX12_reaches_28 : decode cX12_reaches 28 = .ok (.aload_n 0, 1) := by decide +kernel
theorem dX12_reaches_29 : decode cX12_reaches 29 = .ok (.getfield 107, 3) := by decide +kernel
theorem dX12_reaches_32 : decode cX12_reaches 32 = .ok (.aload_n 0, 1) := by decide +kernel
theorem dX12_reaches_33 : decode cX12_reaches 33 = .ok (.getfield 94, 3) := by decide +kernel
theorem dX12_reaches_36 : decode cX12_reaches 36 = .ok (.iconst 0, 1) := by decide +kernel
theorem dX12_reaches_37 : decode cX12_reaches 37 = .ok (.iaload, 1) := by decide +kernel
theorem dX12_reaches_38 : decode cX12_reaches 38 = .ok (.lconst 1, 1) := by decide +kernel
theorem dX12_reaches_39 : decode cX12_reaches 39 = .ok (.lastore, 1) := by decide +kernel
theorem dX12_reaches_40 : decode cX12_reaches 40 = .ok (.iconst 1, 1) := by decide +kernel
theorem dX12_reaches_41 : decode cX12_reaches 41 = .ok (.istore_n 1, 1) := by decide +kernel
theorem dX12_reaches_42 : decode cX12_reaches 42 = .ok (.iconst 0, 1) := by decide +kernel
theorem dX12_reaches_43 : decode cX12_reaches 43 = .ok (.istore_n 2, 1) := by decide +kernel
theorem dX12_reaches_44 : decode cX12_reaches 44 = .ok (.iload_n 1, 1) := by decide +kernel
theorem dX12_reaches_45 : decode cX12_reaches 45 = .ok (.ifCond .eq 133, 3) := by decide +kernel
theorem dX12_reaches_48 : decode cX12_reaches 48 = .ok (.iconst 0, 1) := by decide +kernel
theorem dX12_reaches_49 : decode cX12_reaches 49 = .ok (.istore_n 1, 1) := by decide +kernel
theorem dX12_reaches_50 : decode cX12_reaches 50 = .ok (.iinc 2 1, 3) := by decide +kernel
theorem dX12_reaches_53 : decode cX12_reaches 53 = .ok (.iconst 0, 1) := by decide +kernel
theorem dX12_reaches_54 : decode cX12_reaches 54 = .ok (.istore_n 3, 1) := by decide +kernel
theorem dX12_reaches_55 : decode cX12_reaches 55 = .ok (.iload_n 3, 1) := by decide +kernel
theorem dX12_reaches_56 : decode cX12_reaches 56 = .ok (.aload_n 0, 1) := by decide +kernel
theorem dX12_reaches_57 : decode cX12_reaches 57 = .ok (.invokevirtual 294, 3) := by decide +kernel
theorem dX12_reaches_60 : decode cX12_reaches 60 = .ok (.if_icmp .ge 115, 3) := by decide +kernel
theorem dX12_reaches_63 : decode cX12_reaches 63 = .ok (.aload_n 0, 1) := by decide +kernel
theorem dX12_reaches_64 : decode cX12_reaches 64 = .ok (.getfield 107, 3) := by decide +kernel
theorem dX12_reaches_67 : decode cX12_reaches 67 = .ok (.iload_n 3, 1) := by decide +kernel
theorem dX12_reaches_68 : decode cX12_reaches 68 = .ok (.laload, 1) := by decide +kernel
theorem dX12_reaches_69 : decode cX12_reaches 69 = .ok (.iload_n 2, 1) := by decide +kernel
theorem dX12_reaches_70 : decode cX12_reaches 70 = .ok (.i2l, 1) := by decide +kernel
theorem dX12_reaches_71 : decode cX12_reaches 71 = .ok (.lcmp, 1) := by decide +kernel
theorem dX12_reaches_72 : decode cX12_reaches 72 = .ok (.ifCond .ne 97, 3) := by decide +kernel
theorem dX12_reaches_75 : decode cX12_reaches 75 = .ok (.aload_n 0, 1) := by decide +kernel
theorem dX12_reaches_76 : decode cX12_reaches 76 = .ok (.iload_n 3, 1) := by decide +kernel
theorem dX12_reaches_77 : decode cX12_reaches 77 = .ok (.iconst 0, 1) := by decide +kernel
theorem dX12_reaches_78 : decode cX12_reaches 78 = .ok (.invokevirtual 321, 3) := by decide +kernel
theorem dX12_reaches_81 : decode cX12_reaches 81 = .ok (.iconst 1, 1) := by decide +kernel
theorem dX12_reaches_82 : decode cX12_reaches 82 = .ok (.istore 4, 2) := by decide +kernel
theorem dX12_reaches_84 : decode cX12_reaches 84 = .ok (.iload 4, 2) := by decide +kernel
theorem dX12_reaches_86 : decode cX12_reaches 86 = .ok (.aload_n 0, 1) := by decide +kernel
theorem dX12_reaches_87 : decode cX12_reaches 87 = .ok (.invokevirtual 209, 3) := by decide +kernel
theorem dX12_reaches_90 : decode cX12_reaches 90 = .ok (.if_icmp .gt 79, 3) := by decide +kernel
theorem dX12_reaches_93 : decode cX12_reaches 93 = .ok (.aload_n 0, 1) := by decide +kernel
theorem dX12_reaches_94 : decode cX12_reaches 94 = .ok (.getfield 110, 3) := by decide +kernel
theorem dX12_reaches_97 : decode cX12_reaches 97 = .ok (.iload 4, 2) := by decide +kernel
theorem dX12_reaches_99 : decode cX12_reaches 99 = .ok (.iaload, 1) := by decide +kernel
theorem dX12_reaches_100 : decode cX12_reaches 100 = .ok (.ifCond .lt 24, 3) := by decide +kernel
theorem dX12_reaches_103 : decode cX12_reaches 103 = .ok (.aload_n 0, 1) := by decide +kernel
theorem dX12_reaches_104 : decode cX12_reaches 104 = .ok (.getfield 107, 3) := by decide +kernel
theorem dX12_reaches_107 : decode cX12_reaches 107 = .ok (.aload_n 0, 1) := by decide +kernel
theorem dX12_reaches_108 : decode cX12_reaches 108 = .ok (.getfield 110, 3) := by decide +kernel
theorem dX12_reaches_111 : decode cX12_reaches 111 = .ok (.iload 4, 2) := by decide +kernel
theorem dX12_reaches_113 : decode cX12_reaches 113 = .ok (.iaload, 1) := by decide +kernel
theorem dX12_reaches_114 : decode cX12_reaches 114 = .ok (.laload, 1) := by decide +kernel
theorem dX12_reaches_115 : decode cX12_reaches 115 = .ok (.lconst 0, 1) := by decide +kernel
theorem dX12_reaches_116 : decode cX12_reaches 116 = .ok (.lcmp, 1) := by decide +kernel
theorem dX12_reaches_117 : decode cX12_reaches 117 = .ok (.ifCond .ne 7, 3) := by decide +kernel
theorem dX12_reaches_120 : decode cX12_reaches 120 = .ok (.iconst 1, 1) := by decide +kernel
theorem dX12_reaches_121 : decode cX12_reaches 121 = .ok (.goto 4, 3) := by decide +kernel
theorem dX12_reaches_124 : decode cX12_reaches 124 = .ok (.iconst 0, 1) := by decide +kernel
theorem dX12_reaches_125 : decode cX12_reaches 125 = .ok (.istore 5, 2) := by decide +kernel
theorem dX12_reaches_127 : decode cX12_reaches 127 = .ok (.iload 5, 2) := by decide +kernel
theorem dX12_reaches_129 : decode cX12_reaches 129 = .ok (.ifCond .eq 19, 3) := by decide +kernel
theorem dX12_reaches_132 : decode cX12_reaches 132 = .ok (.aload_n 0, 1) := by decide +kernel
theorem dX12_reaches_133 : decode cX12_reaches 133 = .ok (.getfield 107, 3) := by decide +kernel
theorem dX12_reaches_136 : decode cX12_reaches 136 = .ok (.aload_n 0, 1) := by decide +kernel
theorem dX12_reaches_137 : decode cX12_reaches 137 = .ok (.getfield 110, 3) := by decide +kernel
theorem dX12_reaches_140 : decode cX12_reaches 140 = .ok (.iload 4, 2) := by decide +kernel
theorem dX12_reaches_142 : decode cX12_reaches 142 = .ok (.iaload, 1) := by decide +kernel
theorem dX12_reaches_143 : decode cX12_reaches 143 = .ok (.iload_n 2, 1) := by decide +kernel
theorem dX12_reaches_144 : decode cX12_reaches 144 = .ok (.iconst 1, 1) := by decide +kernel
theorem dX12_reaches_145 : decode cX12_reaches 145 = .ok (.iadd, 1) := by decide +kernel
theorem dX12_reaches_146 : decode cX12_reaches 146 = .ok (.i2l, 1) := by decide +kernel
theorem dX12_reaches_147 : decode cX12_reaches 147 = .ok (.lastore, 1) := by decide +kernel
theorem dX12_reaches_148 : decode cX12_reaches 148 = .ok (.iload_n 1, 1) := by decide +kernel
theorem dX12_reaches_149 : decode cX12_reaches 149 = .ok (.ifCond .ne 8, 3) := by decide +kernel
theorem dX12_reaches_152 : decode cX12_reaches 152 = .ok (.iload 5, 2) := by decide +kernel
theorem dX12_reaches_154 : decode cX12_reaches 154 = .ok (.ifCond .eq 7, 3) := by decide +kernel
theorem dX12_reaches_157 : decode cX12_reaches 157 = .ok (.iconst 1, 1) := by decide +kernel
theorem dX12_reaches_158 : decode cX12_reaches 158 = .ok (.goto 4, 3) := by decide +kernel
theorem dX12_reaches_161 : decode cX12_reaches 161 = .ok (.iconst 0, 1) := by decide +kernel
theorem dX12_reaches_162 : decode cX12_reaches 162 = .ok (.istore_n 1, 1) := by decide +kernel
theorem dX12_reaches_163 : decode cX12_reaches 163 = .ok (.iinc 4 1, 3) := by decide +kernel
theorem dX12_reaches_166 : decode cX12_reaches 166 = .ok (.goto (-82), 3) := by decide +kernel
theorem dX12_reaches_169 : decode cX12_reaches 169 = .ok (.iinc 3 1, 3) := by decide +kernel
theorem dX12_reaches_172 : decode cX12_reaches 172 = .ok (.goto (-117), 3) := by decide +kernel
theorem dX12_reaches_175 : decode cX12_reaches 175 = .ok (.goto (-131), 3) := by decide +kernel
theorem dX12_reaches_178 : decode cX12_reaches 178 = .ok (.iload_n 2, 1) := by decide +kernel
theorem dX12_reaches_179 : decode cX12_reaches 179 = .ok (.iconst 1, 1) := by decide +kernel
theorem dX12_reaches_180 : decode cX12_reaches 180 = .ok (.isub, 1) := by decide +kernel
theorem dX12_reaches_181 : decode cX12_reaches 181 = .ok (.ireturn, 1) := by decide +kernel
theorem dX12_rim_0 : decode cX12_rim 0 = .ok (.aload_n 0, 1) := by decide +kernel
theorem dX12_rim_1 : decode cX12_rim 1 = .ok (.iconst 0, 1) := by decide +kernel
theorem dX12_rim_2 : decode cX12_rim 2 = .ok (.putfield 1, 3) := by decide +kernel
theorem dX12_rim_5 : decode cX12_rim 5 = .ok (.aload_n 0, 1) := by decide +kernel
theorem dX12_rim_6 : decode cX12_rim 6 = .ok (.invokevirtual 338, 3) := by decide +kernel
theorem dX12_rim_9 : decode cX12_rim 9 = .ok (.ireturn, 1) := by decide +kernel
theorem dX12_reached_0 : decode cX12_reached 0 = .ok (.aload_n 0, 1) := by decide +kernel
theorem dX12_reached_1 : decode cX12_reached 1 = .ok (.iconst 0, 1) := by decide +kernel
theorem dX12_reached_2 : decode cX12_reached 2 = .ok (.putfield 1, 3) := by decide +kernel
theorem dX12_reached_5 : decode cX12_reached 5 = .ok (.iload_n 1, 1) := by decide +kernel
theorem dX12_reached_6 : decode cX12_reached 6 = .ok (.iconst 0, 1) := by decide +kernel
theorem dX12_reached_7 : decode cX12_reached 7 = .ok (.bipush 60, 2) := by decide +kernel
theorem dX12_reached_9 : decode cX12_reached 9 = .ok (.invokestatic 270, 3) := by decide +kernel
theorem dX12_reached_12 : decode cX12_reached 12 = .ok (.ifCond .ne 5, 3) := by decide +kernel
theorem dX12_reached_15 : decode cX12_reached 15 = .ok (.iconst (-1), 1) := by decide +kernel
theorem dX12_reached_16 : decode cX12_reached 16 = .ok (.ireturn, 1) := by decide +kernel
theorem dX12_reached_17 : decode cX12_reached 17 = .ok (.aload_n 0, 1) := by decide +kernel
theorem dX12_reached_18 : decode cX12_reached 18 = .ok (.invokevirtual 338, 3) := by decide +kernel
theorem dX12_reached_21 : decode cX12_reached 21 = .ok (.pop, 1) := by decide +kernel
theorem dX12_reached_22 : decode cX12_reached 22 = .ok (.iconst 0, 1) := by decide +kernel
theorem dX12_reached_23 : decode cX12_reached 23 = .ok (.istore_n 2, 1) := by decide +kernel
theorem dX12_reached_24 : decode cX12_reached 24 = .ok (.iconst 0, 1) := by decide +kernel
theorem dX12_reached_25 : decode cX12_reached 25 = .ok (.istore_n 3, 1) := by decide +kernel
theorem dX12_reached_26 : decode cX12_reached 26 = .ok (.iload_n 3, 1) := by decide +kernel
theorem dX12_reached_27 : decode cX12_reached 27 = .ok (.aload_n 0, 1) := by decide +kernel
theorem dX12_reached_28 : decode cX12_reached 28 = .ok (.invokevirtual 294, 3) := by decide +kernel
theorem dX12_reached_31 : decode cX12_reached 31 = .ok (.if_icmp .ge 42, 3) := by decide +kernel
theorem dX12_reached_34 : decode cX12_reached 34 = .ok (.iload_n 2, 1) := by decide +kernel
theorem dX12_reached_35 : decode cX12_reached 35 = .ok (.aload_n 0, 1) := by decide +kernel
theorem dX12_reached_36 : decode cX12_reached 36 = .ok (.getfield 107, 3) := by decide +kernel
theorem dX12_reached_39 : decode cX12_reached 39 = .ok (.iload_n 3, 1) := by decide +kernel
theorem dX12_reached_40 : decode cX12_reached 40 = .ok (.laload, 1) := by decide +kernel
theorem dX12_reached_41 : decode cX12_reached 41 = .ok (.lconst 0, 1) := by decide +kernel
theorem dX12_reached_42 : decode cX12_reached 42 = .ok (.lcmp, 1) := by decide +kernel
theorem dX12_reached_43 : decode cX12_reached 43 = .ok (.ifCond .le 21, 3) := by decide +kernel
theorem dX12_reached_46 : decode cX12_reached 46 = .ok (.aload_n 0, 1) := by decide +kernel
theorem dX12_reached_47 : decode cX12_reached 47 = .ok (.getfield 107, 3) := by decide +kernel
theorem dX12_reached_50 : decode cX12_reached 50 = .ok (.iload_n 3, 1) := by decide +kernel
theorem dX12_reached_51 : decode cX12_reached 51 = .ok (.laload, 1) := by decide +kernel
theorem dX12_reached_52 : decode cX12_reached 52 = .ok (.iload_n 1, 1) := by decide +kernel
theorem dX12_reached_53 : decode cX12_reached 53 = .ok (.iconst 1, 1) := by decide +kernel
theorem dX12_reached_54 : decode cX12_reached 54 = .ok (.iadd, 1) := by decide +kernel
theorem dX12_reached_55 : decode cX12_reached 55 = .ok (.i2l, 1) := by decide +kernel
theorem dX12_reached_56 : decode cX12_reached 56 = .ok (.lcmp, 1) := by decide +kernel
theorem dX12_reached_57 : decode cX12_reached 57 = .ok (.ifCond .gt 7, 3) := by decide +kernel
theorem dX12_reached_60 : decode cX12_reached 60 = .ok (.iconst 1, 1) := by decide +kernel
theorem dX12_reached_61 : decode cX12_reached 61 = .ok (.goto 4, 3) := by decide +kernel
theorem dX12_reached_64 : decode cX12_reached 64 = .ok (.iconst 0, 1) := by decide +kernel
theorem dX12_reached_65 : decode cX12_reached 65 = .ok (.iadd, 1) := by decide +kernel
theorem dX12_reached_66 : decode cX12_reached 66 = .ok (.istore_n 2, 1) := by decide +kernel
theorem dX12_reached_67 : decode cX12_reached 67 = .ok (.iinc 3 1, 3) := by decide +kernel
theorem dX12_reached_70 : decode cX12_reached 70 = .ok (.goto (-44), 3) := by decide +kernel
theorem dX12_reached_73 : decode cX12_reached 73 = .ok (.iload_n 2, 1) := by decide +kernel
theorem dX12_reached_74 : decode cX12_reached 74 = .ok (.ireturn, 1) := by decide +kernel
theorem dX12_nth_0 : decode cX12_nth 0 = .ok (.aload_n 0, 1) := by decide +kernel
theorem dX12_nth_1 : decode cX12_nth 1 = .ok (.iconst 0, 1) := by decide +kernel
theorem dX12_nth_2 : decode cX12_nth 2 = .ok (.putfield 1, 3) := by decide +kernel
theorem dX12_nth_5 : decode cX12_nth 5 = .ok (.aload_n 0, 1) := by decide +kernel
theorem dX12_nth_6 : decode cX12_nth 6 = .ok (.getfield 94, 3) := by decide +kernel
theorem dX12_nth_9 : decode cX12_nth 9 = .ok (.iconst 0, 1) := by decide +kernel
theorem dX12_nth_10 : decode cX12_nth 10 = .ok (.iaload, 1) := by decide +kernel
theorem dX12_nth_11 : decode cX12_nth 11 = .ok (.ireturn, 1) := by decide +kernel
theorem dX12_isNextWider_0 : decode cX12_isNextWider 0 = .ok (.aload_n 0, 1) := by decide +kernel
theorem dX12_isNextWider_1 : decode cX12_isNextWider 1 = .ok (.iload_n 1, 1) := by decide +kernel
theorem dX12_isNextWider_2 : decode cX12_isNextWider 2 = .ok (.iconst 1, 1) := by decide +kernel
theorem dX12_isNextWider_3 : decode cX12_isNextWider 3 = .ok (.invokevirtual 239, 3) := by decide +kernel
theorem dX12_isNextWider_6 : decode cX12_isNextWider 6 = .ok (.aload_n 0, 1) := by decide +kernel
theorem dX12_isNextWider_7 : decode cX12_isNextWider 7 = .ok (.iload_n 2, 1) := by decide +kernel
theorem dX12_isNextWider_8 : decode cX12_isNextWider 8 = .ok (.iconst 1, 1) := by decide +kernel
theorem dX12_isNextWider_9 : decode cX12_isNextWider 9 = .ok (.invokevirtual 239, 3) := by decide +kernel
theorem dX12_isNextWider_12 : decode cX12_isNextWider 12 = .ok (.if_icmp .le 7, 3) := by decide +kernel
theorem dX12_isNextWider_15 : decode cX12_isNextWider 15 = .ok (.iconst 1, 1) := by decide +kernel
theorem dX12_isNextWider_16 : decode cX12_isNextWider 16 = .ok (.goto 4, 3) := by decide +kernel
theorem dX12_isNextWider_19 : decode cX12_isNextWider 19 = .ok (.iconst 0, 1) := by decide +kernel
theorem dX12_isNextWider_20 : decode cX12_isNextWider 20 = .ok (.istore_n 3, 1) := by decide +kernel
theorem dX12_isNextWider_21 : decode cX12_isNextWider 21 = .ok (.iconst 0, 1) := by decide +kernel
theorem dX12_isNextWider_22 : decode cX12_isNextWider 22 = .ok (.istore 4, 2) := by decide +kernel
theorem dX12_isNextWider_24 : decode cX12_isNextWider 24 = .ok (.iload 4, 2) := by decide +kernel
theorem dX12_isNextWider_26 : decode cX12_isNextWider 26 = .ok (.aload_n 0, 1) := by decide +kernel
theorem dX12_isNextWider_27 : decode cX12_isNextWider 27 = .ok (.invokevirtual 209, 3) := by decide +kernel
theorem dX12_isNextWider_30 : decode cX12_isNextWider 30 = .ok (.if_icmp .ge 51, 3) := by decide +kernel
theorem dX12_isNextWider_33 : decode cX12_isNextWider 33 = .ok (.iload_n 3, 1) := by decide +kernel
theorem dX12_isNextWider_34 : decode cX12_isNextWider 34 = .ok (.ifCond .eq 39, 3) := by decide +kernel
theorem dX12_isNextWider_37 : decode cX12_isNextWider 37 = .ok (.aload_n 0, 1) := by decide +kernel
theorem dX12_isNextWider_38 : decode cX12_isNextWider 38 = .ok (.iload 4, 2) := by decide +kernel
theorem dX12_isNextWider_40 : decode cX12_isNextWider 40 = .ok (.iconst 1, 1) := by decide +kernel
theorem dX12_isNextWider_41 : decode cX12_isNextWider 41 = .ok (.invokevirtual 239, 3) := by decide +kernel
theorem dX12_isNextWider_44 : decode cX12_isNextWider 44 = .ok (.aload_n 0, 1) := by decide +kernel
theorem dX12_isNextWider_45 : decode cX12_isNextWider 45 = .ok (.iload_n 2, 1) := by decide +kernel
theorem dX12_isNextWider_46 : decode cX12_isNextWider 46 = .ok (.iconst 1, 1) := by decide +kernel
theorem dX12_isNextWider_47 : decode cX12_isNextWider 47 = .ok (.invokevirtual 239, 3) := by decide +kernel
theorem dX12_isNextWider_50 : decode cX12_isNextWider 50 = .ok (.if_icmp .le 19, 3) := by decide +kernel
theorem dX12_isNextWider_53 : decode cX12_isNextWider 53 = .ok (.aload_n 0, 1) := by decide +kernel
theorem dX12_isNextWider_54 : decode cX12_isNextWider 54 = .ok (.iload 4, 2) := by decide +kernel
theorem dX12_isNextWider_56 : decode cX12_isNextWider 56 = .ok (.iconst 1, 1) := by decide +kernel
theorem dX12_isNextWider_57 : decode cX12_isNextWider 57 = .ok (.invokevirtual 239, 3) := by decide +kernel
theorem dX12_isNextWider_60 : decode cX12_isNextWider 60 = .ok (.aload_n 0, 1) := by decide +kernel
theorem dX12_isNextWider_61 : decode cX12_isNextWider 61 = .ok (.iload_n 1, 1) := by decide +kernel
theorem dX12_isNextWider_62 : decode cX12_isNextWider 62 = .ok (.iconst 1, 1) := by decide +kernel
theorem dX12_isNextWider_63 : decode cX12_isNextWider 63 = .ok (.invokevirtual 239, 3) := by decide +kernel
theorem dX12_isNextWider_66 : decode cX12_isNextWider 66 = .ok (.if_icmp .lt 7, 3) := by decide +kernel
theorem dX12_isNextWider_69 : decode cX12_isNextWider 69 = .ok (.iconst 1, 1) := by decide +kernel
theorem dX12_isNextWider_70 : decode cX12_isNextWider 70 = .ok (.goto 4, 3) := by decide +kernel
theorem dX12_isNextWider_73 : decode cX12_isNextWider 73 = .ok (.iconst 0, 1) := by decide +kernel
theorem dX12_isNextWider_74 : decode cX12_isNextWider 74 = .ok (.istore_n 3, 1) := by decide +kernel
theorem dX12_isNextWider_75 : decode cX12_isNextWider 75 = .ok (.iinc 4 1, 3) := by decide +kernel
theorem dX12_isNextWider_78 : decode cX12_isNextWider 78 = .ok (.goto (-54), 3) := by decide +kernel
theorem dX12_isNextWider_81 : decode cX12_isNextWider 81 = .ok (.iload_n 3, 1) := by decide +kernel
theorem dX12_isNextWider_82 : decode cX12_isNextWider 82 = .ok (.ireturn, 1) := by decide +kernel
theorem dX12_liesBy_0 : decode cX12_liesBy 0 = .ok (.aload_n 0, 1) := by decide +kernel
theorem dX12_liesBy_1 : decode cX12_liesBy 1 = .ok (.iload_n 1, 1) := by decide +kernel
theorem dX12_liesBy_2 : decode cX12_liesBy 2 = .ok (.invokevirtual 236, 3) := by decide +kernel
theorem dX12_liesBy_5 : decode cX12_liesBy 5 = .ok (.ifCond .eq 13, 3) := by decide +kernel
theorem dX12_liesBy_8 : decode cX12_liesBy 8 = .ok (.aload_n 0, 1) := by decide +kernel
theorem dX12_liesBy_9 : decode cX12_liesBy 9 = .ok (.getfield 104, 3) := by decide +kernel
theorem dX12_liesBy_12 : decode cX12_liesBy 12 = .ok (.iload_n 1, 1) := by decide +kernel
theorem dX12_liesBy_13 : decode cX12_liesBy 13 = .ok (.baload, 1) := by decide +kernel
theorem dX12_liesBy_14 : decode cX12_liesBy 14 = .ok (.iload_n 2, 1) := by decide +kernel
theorem dX12_liesBy_15 : decode cX12_liesBy 15 = .ok (.if_icmp .ne 7, 3) := by decide +kernel
theorem dX12_liesBy_18 : decode cX12_liesBy 18 = .ok (.iconst 1, 1) := by decide +kernel
theorem dX12_liesBy_19 : decode cX12_liesBy 19 = .ok (.goto 4, 3) := by decide +kernel
theorem dX12_liesBy_22 : decode cX12_liesBy 22 = .ok (.iconst 0, 1) := by decide +kernel
theorem dX12_liesBy_23 : decode cX12_liesBy 23 = .ok (.ireturn, 1) := by decide +kernel
theorem dX12_gapsNow_0 : decode cX12_gapsNow 0 = .ok (.aload_n 0, 1) := by decide +kernel
theorem dX12_gapsNow_1 : decode cX12_gapsNow 1 = .ok (.aload_n 0, 1) := by decide +kernel
theorem dX12_gapsNow_2 : decode cX12_gapsNow 2 = .ok (.getfield 94, 3) := by decide +kernel
theorem dX12_gapsNow_5 : decode cX12_gapsNow 5 = .ok (.iconst 0, 1) := by decide +kernel
theorem dX12_gapsNow_6 : decode cX12_gapsNow 6 = .ok (.iaload, 1) := by decide +kernel
theorem dX12_gapsNow_7 : decode cX12_gapsNow 7 = .ok (.invokevirtual 274, 3) := by decide +kernel
theorem dX12_gapsNow_10 : decode cX12_gapsNow 10 = .ok (.iconst 0, 1) := by decide +kernel
theorem dX12_gapsNow_11 : decode cX12_gapsNow 11 = .ok (.istore_n 1, 1) := by decide +kernel
theorem dX12_gapsNow_12 : decode cX12_gapsNow 12 = .ok (.iconst 0, 1) := by decide +kernel
theorem dX12_gapsNow_13 : decode cX12_gapsNow 13 = .ok (.istore_n 2, 1) := by decide +kernel
theorem dX12_gapsNow_14 : decode cX12_gapsNow 14 = .ok (.iload_n 2, 1) := by decide +kernel
theorem dX12_gapsNow_15 : decode cX12_gapsNow 15 = .ok (.aload_n 0, 1) := by decide +kernel
theorem dX12_gapsNow_16 : decode cX12_gapsNow 16 = .ok (.invokevirtual 209, 3) := by decide +kernel
theorem dX12_gapsNow_19 : decode cX12_gapsNow 19 = .ok (.if_icmp .ge 171, 3) := by decide +kernel
theorem dX12_gapsNow_22 : decode cX12_gapsNow 22 = .ok (.aload_n 0, 1) := by decide +kernel
theorem dX12_gapsNow_23 : decode cX12_gapsNow 23 = .ok (.getfield 101, 3) := by decide +kernel
theorem dX12_gapsNow_26 : decode cX12_gapsNow 26 = .ok (.iload_n 2, 1) := by decide +kernel
theorem dX12_gapsNow_27 : decode cX12_gapsNow 27 = .ok (.iaload, 1) := by decide +kernel
theorem dX12_gapsNow_28 : decode cX12_gapsNow 28 = .ok (.istore_n 3, 1) := by decide +kernel
theorem dX12_gapsNow_29 : decode cX12_gapsNow 29 = .ok (.iload_n 2, 1) := by decide +kernel
theorem dX12_gapsNow_30 : decode cX12_gapsNow 30 = .ok (.iconst 1, 1) := by decide +kernel
theorem dX12_gapsNow_31 : decode cX12_gapsNow 31 = .ok (.iadd, 1) := by decide +kernel
theorem dX12_gapsNow_32 : decode cX12_gapsNow 32 = .ok (.aload_n 0, 1) := by decide +kernel
theorem dX12_gapsNow_33 : decode cX12_gapsNow 33 = .ok (.invokevirtual 209, 3) := by decide +kernel
theorem dX12_gapsNow_36 : decode cX12_gapsNow 36 = .ok (.if_icmp .ge 81, 3) := by decide +kernel
theorem dX12_gapsNow_39 : decode cX12_gapsNow 39 = .ok (.aload_n 0, 1) := by decide +kernel
theorem dX12_gapsNow_40 : decode cX12_gapsNow 40 = .ok (.getfield 101, 3) := by decide +kernel
theorem dX12_gapsNow_43 : decode cX12_gapsNow 43 = .ok (.iload_n 2, 1) := by decide +kernel
theorem dX12_gapsNow_44 : decode cX12_gapsNow 44 = .ok (.iconst 1, 1) := by decide +kernel
theorem dX12_gapsNow_45 : decode cX12_gapsNow 45 = .ok (.iadd, 1) := by decide +kernel
theorem dX12_gapsNow_46 : decode cX12_gapsNow 46 = .ok (.iaload, 1) := by decide +kernel
theorem dX12_gapsNow_47 : decode cX12_gapsNow 47 = .ok (.istore 5, 2) := by decide +kernel
theorem dX12_gapsNow_49 : decode cX12_gapsNow 49 = .ok (.aload_n 0, 1) := by decide +kernel
theorem dX12_gapsNow_50 : decode cX12_gapsNow 50 = .ok (.iload 5, 2) := by decide +kernel
theorem dX12_gapsNow_52 : decode cX12_gapsNow 52 = .ok (.iload_n 3, 1) := by decide +kernel
theorem dX12_gapsNow_53 : decode cX12_gapsNow 53 = .ok (.invokevirtual 341, 3) := by decide +kernel
theorem dX12_gapsNow_56 : decode cX12_gapsNow 56 = .ok (.ifCond .eq 22, 3) := by decide +kernel
theorem dX12_gapsNow_59 : decode cX12_gapsNow 59 = .ok (.aload_n 0, 1) := by decide +kernel
theorem dX12_gapsNow_60 : decode cX12_gapsNow 60 = .ok (.iload_n 3, 1) := by decide +kernel
theorem dX12_gapsNow_61 : decode cX12_gapsNow 61 = .ok (.iconst 0, 1) := by decide +kernel
theorem dX12_gapsNow_62 : decode cX12_gapsNow 62 = .ok (.invokevirtual 345, 3) := by decide +kernel
theorem dX12_gapsNow_65 : decode cX12_gapsNow 65 = .ok (.ifCond .eq 13, 3) := by decide +kernel
theorem dX12_gapsNow_68 : decode cX12_gapsNow 68 = .ok (.aload_n 0, 1) := by decide +kernel
theorem dX12_gapsNow_69 : decode cX12_gapsNow 69 = .ok (.iload 5, 2) := by decide +kernel
theorem dX12_gapsNow_71 : decode cX12_gapsNow 71 = .ok (.iconst 0, 1) := by decide +kernel
theorem dX12_gapsNow_72 : decode cX12_gapsNow 72 = .ok (.invokevirtual 345, 3) := by decide +kernel
theorem dX12_gapsNow_75 : decode cX12_gapsNow 75 = .ok (.ifCond .ne 32, 3) := by decide +kernel
theorem dX12_gapsNow_78 : decode cX12_gapsNow 78 = .ok (.aload_n 0, 1) := by decide +kernel
theorem dX12_gapsNow_79 : decode cX12_gapsNow 79 = .ok (.iload_n 3, 1) := by decide +kernel
theorem dX12_gapsNow_80 : decode cX12_gapsNow 80 = .ok (.iload 5, 2) := by decide +kernel
theorem dX12_gapsNow_82 : decode cX12_gapsNow 82 = .ok (.invokevirtual 341, 3) := by decide +kernel
theorem dX12_gapsNow_85 : decode cX12_gapsNow 85 = .ok (.ifCond .eq 26, 3) := by decide +kernel
theorem dX12_gapsNow_88 : decode cX12_gapsNow 88 = .ok (.aload_n 0, 1) := by decide +kernel
theorem dX12_gapsNow_89 : decode cX12_gapsNow 89 = .ok (.iload_n 3, 1) := by decide +kernel
theorem dX12_gapsNow_90 : decode cX12_gapsNow 90 = .ok (.iconst 1, 1) := by decide +kernel
theorem dX12_gapsNow_91 : decode cX12_gapsNow 91 = .ok (.invokevirtual 345, 3) := by decide +kernel
theorem dX12_gapsNow_94 : decode cX12_gapsNow 94 = .ok (.ifCond .eq 17, 3) := by decide +kernel
theorem dX12_gapsNow_97 : decode cX12_gapsNow 97 = .ok (.aload_n 0, 1) := by decide +kernel
theorem dX12_gapsNow_98 : decode cX12_gapsNow 98 = .ok (.iload 5, 2) := by decide +kernel
theorem dX12_gapsNow_100 : decode cX12_gapsNow 100 = .ok (.iconst 1, 1) := by decide +kernel
theorem dX12_gapsNow_101 : decode cX12_gapsNow 101 = .ok (.invokevirtual 345, 3) := by decide +kernel
theorem dX12_gapsNow_104 : decode cX12_gapsNow 104 = .ok (.ifCond .eq 7, 3) := by decide +kernel
theorem dX12_gapsNow_107 : decode cX12_gapsNow 107 = .ok (.iconst 1, 1) := by decide +kernel
theorem dX12_gapsNow_108 : decode cX12_gapsNow 108 = .ok (.goto 4, 3) := by decide +kernel
theorem dX12_gapsNow_111 : decode cX12_gapsNow 111 = .ok (.iconst 0, 1) := by decide +kernel
theorem dX12_gapsNow_112 : decode cX12_gapsNow 112 = .ok (.istore 4, 2) := by decide +kernel
theorem dX12_gapsNow_114 : decode cX12_gapsNow 114 = .ok (.goto 57, 3) := by decide +kernel
theorem dX12_gapsNow_117 : decode cX12_gapsNow 117 = .ok (.aload_n 0, 1) := by decide +kernel
theorem dX12_gapsNow_118 : decode cX12_gapsNow 118 = .ok (.iload_n 3, 1) := by decide +kernel
theorem dX12_gapsNow_119 : decode cX12_gapsNow 119 = .ok (.iconst 0, 1) := by decide +kernel
theorem dX12_gapsNow_120 : decode cX12_gapsNow 120 = .ok (.invokevirtual 345, 3) := by decide +kernel
theorem dX12_gapsNow_123 : decode cX12_gapsNow 123 = .ok (.istore 4, 2) := by decide +kernel
theorem dX12_gapsNow_125 : decode cX12_gapsNow 125 = .ok (.iconst 0, 1) := by decide +kernel
theorem dX12_gapsNow_126 : decode cX12_gapsNow 126 = .ok (.istore 5, 2) := by decide +kernel
theorem dX12_gapsNow_128 : decode cX12_gapsNow 128 = .ok (.iload 5, 2) := by decide +kernel
theorem dX12_gapsNow_130 : decode cX12_gapsNow 130 = .ok (.aload_n 0, 1) := by decide +kernel
theorem dX12_gapsNow_131 : decode cX12_gapsNow 131 = .ok (.invokevirtual 209, 3) := by decide +kernel
theorem dX12_gapsNow_134 : decode cX12_gapsNow 134 = .ok (.if_icmp .ge 37, 3) := by decide +kernel
theorem dX12_gapsNow_137 : decode cX12_gapsNow 137 = .ok (.iload 4, 2) := by decide +kernel
theorem dX12_gapsNow_139 : decode cX12_gapsNow 139 = .ok (.ifCond .eq 23, 3) := by decide +kernel
theorem dX12_gapsNow_142 : decode cX12_gapsNow 142 = .ok (.aload_n 0, 1) := by decide +kernel
theorem dX12_gapsNow_143 : decode cX12_gapsNow 143 = .ok (.iload 5, 2) := by decide +kernel
theorem dX12_gapsNow_145 : decode cX12_gapsNow 145 = .ok (.iconst 1, 1) := by decide +kernel
theorem dX12_gapsNow_146 : decode cX12_gapsNow 146 = .ok (.invokevirtual 239, 3) := by decide +kernel
theorem dX12_gapsNow_149 : decode cX12_gapsNow 149 = .ok (.aload_n 0, 1) := by decide +kernel
theorem dX12_gapsNow_150 : decode cX12_gapsNow 150 = .ok (.iload_n 3, 1) := by decide +kernel
theorem dX12_gapsNow_151 : decode cX12_gapsNow 151 = .ok (.iconst 1, 1) := by decide +kernel
theorem dX12_gapsNow_152 : decode cX12_gapsNow 152 = .ok (.invokevirtual 239, 3) := by decide +kernel
theorem dX12_gapsNow_155 : decode cX12_gapsNow 155 = .ok (.if_icmp .gt 7, 3) := by decide +kernel
theorem dX12_gapsNow_158 : decode cX12_gapsNow 158 = .ok (.iconst 1, 1) := by decide +kernel
theorem dX12_gapsNow_159 : decode cX12_gapsNow 159 = .ok (.goto 4, 3) := by decide +kernel
theorem dX12_gapsNow_162 : decode cX12_gapsNow 162 = .ok (.iconst 0, 1) := by decide +kernel
theorem dX12_gapsNow_163 : decode cX12_gapsNow 163 = .ok (.istore 4, 2) := by decide +kernel
theorem dX12_gapsNow_165 : decode cX12_gapsNow 165 = .ok (.iinc 5 1, 3) := by decide +kernel
theorem dX12_gapsNow_168 : decode cX12_gapsNow 168 = .ok (.goto (-40), 3) := by decide +kernel
theorem dX12_gapsNow_171 : decode cX12_gapsNow 171 = .ok (.iload_n 1, 1) := by decide +kernel
theorem dX12_gapsNow_172 : decode cX12_gapsNow 172 = .ok (.iload 4, 2) := by decide +kernel
theorem dX12_gapsNow_174 : decode cX12_gapsNow 174 = .ok (.ifCond .eq 7, 3) := by decide +kernel
theorem dX12_gapsNow_177 : decode cX12_gapsNow 177 = .ok (.iconst 0, 1) := by decide +kernel
theorem dX12_gapsNow_178 : decode cX12_gapsNow 178 = .ok (.goto 4, 3) := by decide +kernel
theorem dX12_gapsNow_181 : decode cX12_gapsNow 181 = .ok (.iconst 1, 1) := by decide +kernel
theorem dX12_gapsNow_182 : decode cX12_gapsNow 182 = .ok (.iadd, 1) := by decide +kernel
theorem dX12_gapsNow_183 : decode cX12_gapsNow 183 = .ok (.istore_n 1, 1) := by decide +kernel
theorem dX12_gapsNow_184 : decode cX12_gapsNow 184 = .ok (.iinc 2 1, 3) := by decide +kernel
theorem dX12_gapsNow_187 : decode cX12_gapsNow 187 = .ok (.goto (-173), 3) := by decide +kernel
theorem dX12_gapsNow_190 : decode cX12_gapsNow 190 = .ok (.iload_n 1, 1) := by decide +kernel
theorem dX12_gapsNow_191 : decode cX12_gapsNow 191 = .ok (.ireturn, 1) := by decide +kernel
theorem dX12_gaps_0 : decode cX12_gaps 0 = .ok (.aload_n 0, 1) := by decide +kernel
theorem dX12_gaps_1 : decode cX12_gaps 1 = .ok (.iconst 0, 1) := by decide +kernel
theorem dX12_gaps_2 : decode cX12_gaps 2 = .ok (.putfield 1, 3) := by decide +kernel
theorem dX12_gaps_5 : decode cX12_gaps 5 = .ok (.aload_n 0, 1) := by decide +kernel
theorem dX12_gaps_6 : decode cX12_gaps 6 = .ok (.invokevirtual 330, 3) := by decide +kernel
theorem dX12_gaps_9 : decode cX12_gaps 9 = .ok (.ireturn, 1) := by decide +kernel
theorem dX12_pairs_0 : decode cX12_pairs 0 = .ok (.aload_n 0, 1) := by decide +kernel
theorem dX12_pairs_1 : decode cX12_pairs 1 = .ok (.iconst 0, 1) := by decide +kernel
theorem dX12_pairs_2 : decode cX12_pairs 2 = .ok (.putfield 1, 3) := by decide +kernel
theorem dX12_pairs_5 : decode cX12_pairs 5 = .ok (.aload_n 0, 1) := by decide +kernel
theorem dX12_pairs_6 : decode cX12_pairs 6 = .ok (.aload_n 0, 1) := by decide +kernel
theorem dX12_pairs_7 : decode cX12_pairs 7 = .ok (.getfield 94, 3) := by decide +kernel
theorem dX12_pairs_10 : decode cX12_pairs 10 = .ok (.iconst 0, 1) := by decide +kernel
theorem dX12_pairs_11 : decode cX12_pairs 11 = .ok (.iaload, 1) := by decide +kernel
theorem dX12_pairs_12 : decode cX12_pairs 12 = .ok (.invokevirtual 274, 3) := by decide +kernel
theorem dX12_pairs_15 : decode cX12_pairs 15 = .ok (.iconst 0, 1) := by decide +kernel
theorem dX12_pairs_16 : decode cX12_pairs 16 = .ok (.istore_n 1, 1) := by decide +kernel
theorem dX12_pairs_17 : decode cX12_pairs 17 = .ok (.iconst 0, 1) := by decide +kernel
theorem dX12_pairs_18 : decode cX12_pairs 18 = .ok (.istore_n 2, 1) := by decide +kernel
theorem dX12_pairs_19 : decode cX12_pairs 19 = .ok (.iload_n 2, 1) := by decide +kernel
theorem dX12_pairs_20 : decode cX12_pairs 20 = .ok (.aload_n 0, 1) := by decide +kernel
theorem dX12_pairs_21 : decode cX12_pairs 21 = .ok (.invokevirtual 209, 3) := by decide +kernel
theorem dX12_pairs_24 : decode cX12_pairs 24 = .ok (.if_icmp .ge 60, 3) := by decide +kernel
theorem dX12_pairs_27 : decode cX12_pairs 27 = .ok (.iload_n 2, 1) := by decide +kernel
theorem dX12_pairs_28 : decode cX12_pairs 28 = .ok (.iconst 1, 1) := by decide +kernel
theorem dX12_pairs_29 : decode cX12_pairs 29 = .ok (.iadd, 1) := by decide +kernel
theorem dX12_pairs_30 : decode cX12_pairs 30 = .ok (.istore_n 3, 1) := by decide +kernel
theorem dX12_pairs_31 : decode cX12_pairs 31 = .ok (.iload_n 3, 1) := by decide +kernel
theorem dX12_pairs_32 : decode cX12_pairs 32 = .ok (.aload_n 0, 1) := by decide +kernel
theorem dX12_pairs_33 : decode cX12_pairs 33 = .ok (.invokevirtual 209, 3) := by decide +kernel
theorem dX12_pairs_36 : decode cX12_pairs 36 = .ok (.if_icmp .ge 42, 3) := by decide +kernel
theorem dX12_pairs_39 : decode cX12_pairs 39 = .ok (.iload_n 1, 1) := by decide +kernel
theorem dX12_pairs_40 : decode cX12_pairs 40 = .ok (.aload_n 0, 1) := by decide +kernel
theorem dX12_pairs_41 : decode cX12_pairs 41 = .ok (.aload_n 0, 1) := by decide +kernel
theorem dX12_pairs_42 : decode cX12_pairs 42 = .ok (.getfield 101, 3) := by decide +kernel
theorem dX12_pairs_45 : decode cX12_pairs 45 = .ok (.iload_n 3, 1) := by decide +kernel
theorem dX12_pairs_46 : decode cX12_pairs 46 = .ok (.iaload, 1) := by decide +kernel
theorem dX12_pairs_47 : decode cX12_pairs 47 = .ok (.iconst 1, 1) := by decide +kernel
theorem dX12_pairs_48 : decode cX12_pairs 48 = .ok (.invokevirtual 239, 3) := by decide +kernel
theorem dX12_pairs_51 : decode cX12_pairs 51 = .ok (.aload_n 0, 1) := by decide +kernel
theorem dX12_pairs_52 : decode cX12_pairs 52 = .ok (.aload_n 0, 1) := by decide +kernel
theorem dX12_pairs_53 : decode cX12_pairs 53 = .ok (.getfield 101, 3) := by decide +kernel
theorem dX12_pairs_56 : decode cX12_pairs 56 = .ok (.iload_n 2, 1) := by decide +kernel
theorem dX12_pairs_57 : decode cX12_pairs 57 = .ok (.iaload, 1) := by decide +kernel
theorem dX12_pairs_58 : decode cX12_pairs 58 = .ok (.iconst 1, 1) := by decide +kernel
theorem dX12_pairs_59 : decode cX12_pairs 59 = .ok (.invokevirtual 239, 3) := by decide +kernel
theorem dX12_pairs_62 : decode cX12_pairs 62 = .ok (.if_icmp .ge 7, 3) := by decide +kernel
theorem dX12_pairs_65 : decode cX12_pairs 65 = .ok (.iconst 1, 1) := by decide +kernel
theorem dX12_pairs_66 : decode cX12_pairs 66 = .ok (.goto 4, 3) := by decide +kernel
theorem dX12_pairs_69 : decode cX12_pairs 69 = .ok (.iconst 0, 1) := by decide +kernel
theorem dX12_pairs_70 : decode cX12_pairs 70 = .ok (.iadd, 1) := by decide +kernel
theorem dX12_pairs_71 : decode cX12_pairs 71 = .ok (.istore_n 1, 1) := by decide +kernel
theorem dX12_pairs_72 : decode cX12_pairs 72 = .ok (.iinc 3 1, 3) := by decide +kernel
theorem dX12_pairs_75 : decode cX12_pairs 75 = .ok (.goto (-44), 3) := by decide +kernel
theorem dX12_pairs_78 : decode cX12_pairs 78 = .ok (.iinc 2 1, 3) := by decide +kernel
theorem dX12_pairs_81 : decode cX12_pairs 81 = .ok (.goto (-62), 3) := by decide +kernel
theorem dX12_pairs_84 : decode cX12_pairs 84 = .ok (.iload_n 1, 1) := by decide +kernel
theorem dX12_pairs_85 : decode cX12_pairs 85 = .ok (.ireturn, 1) := by decide +kernel
theorem dX12_again_0 : decode cX12_again 0 = .ok (.aload_n 0, 1) := by decide +kernel
theorem dX12_again_1 : decode cX12_again 1 = .ok (.iconst 0, 1) := by decide +kernel
theorem dX12_again_2 : decode cX12_again 2 = .ok (.putfield 1, 3) := by decide +kernel
theorem dX12_again_5 : decode cX12_again 5 = .ok (.aload_n 0, 1) := by decide +kernel
theorem dX12_again_6 : decode cX12_again 6 = .ok (.aload_n 0, 1) := by decide +kernel
theorem dX12_again_7 : decode cX12_again 7 = .ok (.getfield 94, 3) := by decide +kernel
theorem dX12_again_10 : decode cX12_again 10 = .ok (.iconst 0, 1) := by decide +kernel
theorem dX12_again_11 : decode cX12_again 11 = .ok (.iaload, 1) := by decide +kernel
theorem dX12_again_12 : decode cX12_again 12 = .ok (.invokevirtual 274, 3) := by decide +kernel
theorem dX12_again_15 : decode cX12_again 15 = .ok (.iconst 1, 1) := by decide +kernel
theorem dX12_again_16 : decode cX12_again 16 = .ok (.istore_n 1, 1) := by decide +kernel
theorem dX12_again_17 : decode cX12_again 17 = .ok (.iload_n 1, 1) := by decide +kernel
theorem dX12_again_18 : decode cX12_again 18 = .ok (.bipush 60, 2) := by decide +kernel
theorem dX12_again_20 : decode cX12_again 20 = .ok (.if_icmp .gt 71, 3) := by decide +kernel
theorem dX12_again_23 : decode cX12_again 23 = .ok (.iconst 0, 1) := by decide +kernel
theorem dX12_again_24 : decode cX12_again 24 = .ok (.istore_n 2, 1) := by decide +kernel
theorem dX12_again_25 : decode cX12_again 25 = .ok (.iload_n 2, 1) := by decide +kernel
theorem dX12_again_26 : decode cX12_again 26 = .ok (.aload_n 0, 1) := by decide +kernel
theorem dX12_again_27 : decode cX12_again 27 = .ok (.getfield 82, 3) := by decide +kernel
theorem dX12_again_30 : decode cX12_again 30 = .ok (.iconst 0, 1) := by decide +kernel
theorem dX12_again_31 : decode cX12_again 31 = .ok (.iaload, 1) := by decide +kernel
theorem dX12_again_32 : decode cX12_again 32 = .ok (.if_icmp .ge 38, 3) := by decide +kernel
theorem dX12_again_35 : decode cX12_again 35 = .ok (.aload_n 0, 1) := by decide +kernel
theorem dX12_again_36 : decode cX12_again 36 = .ok (.aload_n 0, 1) := by decide +kernel
theorem dX12_again_37 : decode cX12_again 37 = .ok (.getfield 82, 3) := by decide +kernel
theorem dX12_again_40 : decode cX12_again 40 = .ok (.iconst 1, 1) := by decide +kernel
theorem dX12_again_41 : decode cX12_again 41 = .ok (.iload_n 2, 1) := by decide +kernel
theorem dX12_again_42 : decode cX12_again 42 = .ok (.iadd, 1) := by decide +kernel
theorem dX12_again_43 : decode cX12_again 43 = .ok (.iaload, 1) := by decide +kernel
theorem dX12_again_44 : decode cX12_again 44 = .ok (.invokevirtual 277, 3) := by decide +kernel
theorem dX12_again_47 : decode cX12_again 47 = .ok (.ifCond .ne 5, 3) := by decide +kernel
theorem dX12_again_50 : decode cX12_again 50 = .ok (.iconst (-1), 1) := by decide +kernel
theorem dX12_again_51 : decode cX12_again 51 = .ok (.ireturn, 1) := by decide +kernel
theorem dX12_again_52 : decode cX12_again 52 = .ok (.aload_n 0, 1) := by decide +kernel
theorem dX12_again_53 : decode cX12_again 53 = .ok (.aload_n 0, 1) := by decide +kernel
theorem dX12_again_54 : decode cX12_again 54 = .ok (.getfield 82, 3) := by decide +kernel
theorem dX12_again_57 : decode cX12_again 57 = .ok (.iconst 1, 1) := by decide +kernel
theorem dX12_again_58 : decode cX12_again 58 = .ok (.iload_n 2, 1) := by decide +kernel
theorem dX12_again_59 : decode cX12_again 59 = .ok (.iadd, 1) := by decide +kernel
theorem dX12_again_60 : decode cX12_again 60 = .ok (.iaload, 1) := by decide +kernel
theorem dX12_again_61 : decode cX12_again 61 = .ok (.invokevirtual 286, 3) := by decide +kernel
theorem dX12_again_64 : decode cX12_again 64 = .ok (.iinc 2 1, 3) := by decide +kernel
theorem dX12_again_67 : decode cX12_again 67 = .ok (.goto (-42), 3) := by decide +kernel
theorem dX12_again_70 : decode cX12_again 70 = .ok (.aload_n 0, 1) := by decide +kernel
theorem dX12_again_71 : decode cX12_again 71 = .ok (.invokevirtual 242, 3) := by decide +kernel
theorem dX12_again_74 : decode cX12_again 74 = .ok (.aload_n 0, 1) := by decide +kernel
theorem dX12_again_75 : decode cX12_again 75 = .ok (.getfield 94, 3) := by decide +kernel
theorem dX12_again_78 : decode cX12_again 78 = .ok (.iconst 0, 1) := by decide +kernel
theorem dX12_again_79 : decode cX12_again 79 = .ok (.iaload, 1) := by decide +kernel
theorem dX12_again_80 : decode cX12_again 80 = .ok (.if_icmp .ne 5, 3) := by decide +kernel
theorem dX12_again_83 : decode cX12_again 83 = .ok (.iload_n 1, 1) := by decide +kernel
theorem dX12_again_84 : decode cX12_again 84 = .ok (.ireturn, 1) := by decide +kernel
theorem dX12_again_85 : decode cX12_again 85 = .ok (.iinc 1 1, 3) := by decide +kernel
theorem dX12_again_88 : decode cX12_again 88 = .ok (.goto (-71), 3) := by decide +kernel
theorem dX12_again_91 : decode cX12_again 91 = .ok (.iconst (-1), 1) := by decide +kernel
theorem dX12_again_92 : decode cX12_again 92 = .ok (.ireturn, 1) := by decide +kernel
theorem dX12_endOf_0 : decode cX12_endOf 0 = .ok (.aload_n 0, 1) := by decide +kernel
theorem dX12_endOf_1 : decode cX12_endOf 1 = .ok (.iload_n 1, 1) := by decide +kernel
theorem dX12_endOf_2 : decode cX12_endOf 2 = .ok (.invokevirtual 274, 3) := by decide +kernel
theorem dX12_endOf_5 : decode cX12_endOf 5 = .ok (.iconst 0, 1) := by decide +kernel
theorem dX12_endOf_6 : decode cX12_endOf 6 = .ok (.istore_n 3, 1) := by decide +kernel
theorem dX12_endOf_7 : decode cX12_endOf 7 = .ok (.iload_n 3, 1) := by decide +kernel
theorem dX12_endOf_8 : decode cX12_endOf 8 = .ok (.aload_n 0, 1) := by decide +kernel
theorem dX12_endOf_9 : decode cX12_endOf 9 = .ok (.getfield 82, 3) := by decide +kernel
theorem dX12_endOf_12 : decode cX12_endOf 12 = .ok (.iconst 0, 1) := by decide +kernel
theorem dX12_endOf_13 : decode cX12_endOf 13 = .ok (.iaload, 1) := by decide +kernel
theorem dX12_endOf_14 : decode cX12_endOf 14 = .ok (.if_icmp .ge 41, 3) := by decide +kernel
theorem dX12_endOf_17 : decode cX12_endOf 17 = .ok (.iload_n 3, 1) := by decide +kernel
theorem dX12_endOf_18 : decode cX12_endOf 18 = .ok (.iload_n 2, 1) := by decide +kernel
theorem dX12_endOf_19 : decode cX12_endOf 19 = .ok (.if_icmp .eq 30, 3) := by decide +kernel
theorem dX12_endOf_22 : decode cX12_endOf 22 = .ok (.aload_n 0, 1) := by decide +kernel
theorem dX12_endOf_23 : decode cX12_endOf 23 = .ok (.aload_n 0, 1) := by decide +kernel
theorem dX12_endOf_24 : decode cX12_endOf 24 = .ok (.getfield 82, 3) := by decide +kernel
theorem dX12_endOf_27 : decode cX12_endOf 27 = .ok (.iconst 1, 1) := by decide +kernel
theorem dX12_endOf_28 : decode cX12_endOf 28 = .ok (.iload_n 3, 1) := by decide +kernel
theorem dX12_endOf_29 : decode cX12_endOf 29 = .ok (.iadd, 1) := by decide +kernel
theorem dX12_endOf_30 : decode cX12_endOf 30 = .ok (.iaload, 1) := by decide +kernel
theorem dX12_endOf_31 : decode cX12_endOf 31 = .ok (.invokevirtual 277, 3) := by decide +kernel
theorem dX12_endOf_34 : decode cX12_endOf 34 = .ok (.ifCond .eq 15, 3) := by decide +kernel
theorem dX12_endOf_37 : decode cX12_endOf 37 = .ok (.aload_n 0, 1) := by decide +kernel
theorem dX12_endOf_38 : decode cX12_endOf 38 = .ok (.aload_n 0, 1) := by decide +kernel
theorem dX12_endOf_39 : decode cX12_endOf 39 = .ok (.getfield 82, 3) := by decide +kernel
theorem dX12_endOf_42 : decode cX12_endOf 42 = .ok (.iconst 1, 1) := by decide +kernel
theorem dX12_endOf_43 : decode cX12_endOf 43 = .ok (.iload_n 3, 1) := by decide +kernel
theorem dX12_endOf_44 : decode cX12_endOf 44 = .ok (.iadd, 1) := by decide +kernel
theorem dX12_endOf_45 : decode cX12_endOf 45 = .ok (.iaload, 1) := by decide +kernel
theorem dX12_endOf_46 : decode cX12_endOf 46 = .ok (.invokevirtual 286, 3) := by decide +kernel
theorem dX12_endOf_49 : decode cX12_endOf 49 = .ok (.iinc 3 1, 3) := by decide +kernel
theorem dX12_endOf_52 : decode cX12_endOf 52 = .ok (.goto (-45), 3) := by decide +kernel
theorem dX12_endOf_55 : decode cX12_endOf 55 = .ok (.aload_n 0, 1) := by decide +kernel
theorem dX12_endOf_56 : decode cX12_endOf 56 = .ok (.invokevirtual 242, 3) := by decide +kernel
theorem dX12_endOf_59 : decode cX12_endOf 59 = .ok (.ireturn, 1) := by decide +kernel
theorem dX12_spare_0 : decode cX12_spare 0 = .ok (.aload_n 0, 1) := by decide +kernel
theorem dX12_spare_1 : decode cX12_spare 1 = .ok (.iconst 0, 1) := by decide +kernel
theorem dX12_spare_2 : decode cX12_spare 2 = .ok (.putfield 1, 3) := by decide +kernel
theorem dX12_spare_5 : decode cX12_spare 5 = .ok (.aload_n 0, 1) := by decide +kernel
theorem dX12_spare_6 : decode cX12_spare 6 = .ok (.aload_n 0, 1) := by decide +kernel
theorem dX12_spare_7 : decode cX12_spare 7 = .ok (.getfield 245, 3) := by decide +kernel
theorem dX12_spare_10 : decode cX12_spare 10 = .ok (.iconst (-1), 1) := by decide +kernel
theorem dX12_spare_11 : decode cX12_spare 11 = .ok (.invokevirtual 349, 3) := by decide +kernel
theorem dX12_spare_14 : decode cX12_spare 14 = .ok (.istore_n 1, 1) := by decide +kernel
theorem dX12_spare_15 : decode cX12_spare 15 = .ok (.iconst 0, 1) := by decide +kernel
theorem dX12_spare_16 : decode cX12_spare 16 = .ok (.istore_n 2, 1) := by decide +kernel
theorem dX12_spare_17 : decode cX12_spare 17 = .ok (.iconst 0, 1) := by decide +kernel
theorem dX12_spare_18 : decode cX12_spare 18 = .ok (.istore_n 3, 1) := by decide +kernel
theorem dX12_spare_19 : decode cX12_spare 19 = .ok (.iload_n 3, 1) := by decide +kernel
theorem dX12_spare_20 : decode cX12_spare 20 = .ok (.aload_n 0, 1) := by decide +kernel
theorem dX12_spare_21 : decode cX12_spare 21 = .ok (.getfield 82, 3) := by decide +kernel
theorem dX12_spare_24 : decode cX12_spare 24 = .ok (.iconst 0, 1) := by decide +kernel
theorem dX12_spare_25 : decode cX12_spare 25 = .ok (.iaload, 1) := by decide +kernel
theorem dX12_spare_26 : decode cX12_spare 26 = .ok (.if_icmp .ge 30, 3) := by decide +kernel
theorem dX12_spare_29 : decode cX12_spare 29 = .ok (.iload_n 2, 1) := by decide +kernel
theorem dX12_spare_30 : decode cX12_spare 30 = .ok (.aload_n 0, 1) := by decide +kernel
theorem dX12_spare_31 : decode cX12_spare 31 = .ok (.aload_n 0, 1) := by decide +kernel
theorem dX12_spare_32 : decode cX12_spare 32 = .ok (.getfield 245, 3) := by decide +kernel
theorem dX12_spare_35 : decode cX12_spare 35 = .ok (.iload_n 3, 1) := by decide +kernel
theorem dX12_spare_36 : decode cX12_spare 36 = .ok (.invokevirtual 349, 3) := by decide +kernel
theorem dX12_spare_39 : decode cX12_spare 39 = .ok (.iload_n 1, 1) := by decide +kernel
theorem dX12_spare_40 : decode cX12_spare 40 = .ok (.if_icmp .ne 7, 3) := by decide +kernel
theorem dX12_spare_43 : decode cX12_spare 43 = .ok (.iconst 1, 1) := by decide +kernel
theorem dX12_spare_44 : decode cX12_spare 44 = .ok (.goto 4, 3) := by decide +kernel
theorem dX12_spare_47 : decode cX12_spare 47 = .ok (.iconst 0, 1) := by decide +kernel
theorem dX12_spare_48 : decode cX12_spare 48 = .ok (.iadd, 1) := by decide +kernel
theorem dX12_spare_49 : decode cX12_spare 49 = .ok (.istore_n 2, 1) := by decide +kernel
theorem dX12_spare_50 : decode cX12_spare 50 = .ok (.iinc 3 1, 3) := by decide +kernel
theorem dX12_spare_53 : decode cX12_spare 53 = .ok (.goto (-34), 3) := by decide +kernel
theorem dX12_spare_56 : decode cX12_spare 56 = .ok (.iload_n 2, 1) := by decide +kernel
theorem dX12_spare_57 : decode cX12_spare 57 = .ok (.ireturn, 1) := by decide +kernel
theorem dX12_ends_0 : decode cX12_ends 0 = .ok (.aload_n 0, 1) := by decide +kernel
theorem dX12_ends_1 : decode cX12_ends 1 = .ok (.iconst 0, 1) := by decide +kernel
theorem dX12_ends_2 : decode cX12_ends 2 = .ok (.putfield 1, 3) := by decide +kernel
theorem dX12_ends_5 : decode cX12_ends 5 = .ok (.aload_n 0, 1) := by decide +kernel
theorem dX12_ends_6 : decode cX12_ends 6 = .ok (.aload_n 0, 1) := by decide +kernel
theorem dX12_ends_7 : decode cX12_ends 7 = .ok (.aload_n 0, 1) := by decide +kernel
theorem dX12_ends_8 : decode cX12_ends 8 = .ok (.getfield 94, 3) := by decide +kernel
theorem dX12_ends_11 : decode cX12_ends 11 = .ok (.iconst 0, 1) := by decide +kernel
theorem dX12_ends_12 : decode cX12_ends 12 = .ok (.iaload, 1) := by decide +kernel
theorem dX12_ends_13 : decode cX12_ends 13 = .ok (.iconst (-1), 1) := by decide +kernel
theorem dX12_ends_14 : decode cX12_ends 14 = .ok (.invokevirtual 349, 3) := by decide +kernel
theorem dX12_ends_17 : decode cX12_ends 17 = .ok (.invokevirtual 274, 3) := by decide +kernel
theorem dX12_ends_20 : decode cX12_ends 20 = .ok (.aload_n 0, 1) := by decide +kernel
theorem dX12_ends_21 : decode cX12_ends 21 = .ok (.invokevirtual 289, 3) := by decide +kernel
theorem dX12_ends_24 : decode cX12_ends 24 = .ok (.ireturn, 1) := by decide +kernel
theorem dX12_ring_0 : decode cX12_ring 0 = .ok (.aload_n 0, 1) := by decide +kernel
theorem dX12_ring_1 : decode cX12_ring 1 = .ok (.iconst 0, 1) := by decide +kernel
theorem dX12_ring_2 : decode cX12_ring 2 = .ok (.putfield 1, 3) := by decide +kernel
theorem dX12_ring_5 : decode cX12_ring 5 = .ok (.iload_n 1, 1) := by decide +kernel
theorem dX12_ring_6 : decode cX12_ring 6 = .ok (.iconst 1, 1) := by decide +kernel
theorem dX12_ring_7 : decode cX12_ring 7 = .ok (.aload_n 0, 1) := by decide +kernel
theorem dX12_ring_8 : decode cX12_ring 8 = .ok (.invokevirtual 209, 3) := by decide +kernel
theorem dX12_ring_11 : decode cX12_ring 11 = .ok (.invokestatic 270, 3) := by decide +kernel
theorem dX12_ring_14 : decode cX12_ring 14 = .ok (.ifCond .eq 15, 3) := by decide +kernel
theorem dX12_ring_17 : decode cX12_ring 17 = .ok (.iload_n 2, 1) := by decide +kernel
theorem dX12_ring_18 : decode cX12_ring 18 = .ok (.iconst 1, 1) := by decide +kernel
theorem dX12_ring_19 : decode cX12_ring 19 = .ok (.aload_n 0, 1) := by decide +kernel
theorem dX12_ring_20 : decode cX12_ring 20 = .ok (.invokevirtual 209, 3) := by decide +kernel
theorem dX12_ring_23 : decode cX12_ring 23 = .ok (.invokestatic 270, 3) := by decide +kernel
theorem dX12_ring_26 : decode cX12_ring 26 = .ok (.ifCond .ne 5, 3) := by decide +kernel
theorem dX12_ring_29 : decode cX12_ring 29 = .ok (.iconst (-1), 1) := by decide +kernel
theorem dX12_ring_30 : decode cX12_ring 30 = .ok (.ireturn, 1) := by decide +kernel
theorem dX12_ring_31 : decode cX12_ring 31 = .ok (.aload_n 0, 1) := by decide +kernel
theorem dX12_ring_32 : decode cX12_ring 32 = .ok (.aload_n 0, 1) := by decide +kernel
theorem dX12_ring_33 : decode cX12_ring 33 = .ok (.getfield 94, 3) := by decide +kernel
theorem dX12_ring_36 : decode cX12_ring 36 = .ok (.iconst 0, 1) := by decide +kernel
theorem dX12_ring_37 : decode cX12_ring 37 = .ok (.iaload, 1) := by decide +kernel
theorem dX12_ring_38 : decode cX12_ring 38 = .ok (.invokevirtual 274, 3) := by decide +kernel
theorem dX12_ring_41 : decode cX12_ring 41 = .ok (.iconst 1, 1) := by decide +kernel
theorem dX12_ring_42 : decode cX12_ring 42 = .ok (.istore_n 3, 1) := by decide +kernel
theorem dX12_ring_43 : decode cX12_ring 43 = .ok (.iload_n 3, 1) := by decide +kernel
theorem dX12_ring_44 : decode cX12_ring 44 = .ok (.bipush 120, 2) := by decide +kernel
theorem dX12_ring_46 : decode cX12_ring 46 = .ok (.if_icmp .gt 61, 3) := by decide +kernel
theorem dX12_ring_49 : decode cX12_ring 49 = .ok (.iload_n 3, 1) := by decide +kernel
theorem dX12_ring_50 : decode cX12_ring 50 = .ok (.iconst 2, 1) := by decide +kernel
theorem dX12_ring_51 : decode cX12_ring 51 = .ok (.irem, 1) := by decide +kernel
theorem dX12_ring_52 : decode cX12_ring 52 = .ok (.iconst 1, 1) := by decide +kernel
theorem dX12_ring_53 : decode cX12_ring 53 = .ok (.if_icmp .ne 7, 3) := by decide +kernel
theorem dX12_ring_56 : decode cX12_ring 56 = .ok (.iload_n 1, 1) := by decide +kernel
theorem dX12_ring_57 : decode cX12_ring 57 = .ok (.goto 4, 3) := by decide +kernel
theorem dX12_ring_60 : decode cX12_ring 60 = .ok (.iload_n 2, 1) := by decide +kernel
theorem dX12_ring_61 : decode cX12_ring 61 = .ok (.istore 4, 2) := by decide +kernel
theorem dX12_ring_63 : decode cX12_ring 63 = .ok (.aload_n 0, 1) := by decide +kernel
theorem dX12_ring_64 : decode cX12_ring 64 = .ok (.iload 4, 2) := by decide +kernel
theorem dX12_ring_66 : decode cX12_ring 66 = .ok (.invokevirtual 277, 3) := by decide +kernel
theorem dX12_ring_69 : decode cX12_ring 69 = .ok (.ifCond .ne 5, 3) := by decide +kernel
theorem dX12_ring_72 : decode cX12_ring 72 = .ok (.iconst (-1), 1) := by decide +kernel
theorem dX12_ring_73 : decode cX12_ring 73 = .ok (.ireturn, 1) := by decide +kernel
theorem dX12_ring_74 : decode cX12_ring 74 = .ok (.aload_n 0, 1) := by decide +kernel
theorem dX12_ring_75 : decode cX12_ring 75 = .ok (.iload 4, 2) := by decide +kernel
theorem dX12_ring_77 : decode cX12_ring 77 = .ok (.invokevirtual 286, 3) := by decide +kernel
theorem dX12_ring_80 : decode cX12_ring 80 = .ok (.iload_n 3, 1) := by decide +kernel
theorem dX12_ring_81 : decode cX12_ring 81 = .ok (.iconst 2, 1) := by decide +kernel
theorem dX12_ring_82 : decode cX12_ring 82 = .ok (.irem, 1) := by decide +kernel
theorem dX12_ring_83 : decode cX12_ring 83 = .ok (.ifCond .ne 18, 3) := by decide +kernel
theorem dX12_ring_86 : decode cX12_ring 86 = .ok (.aload_n 0, 1) := by decide +kernel
theorem dX12_ring_87 : decode cX12_ring 87 = .ok (.invokevirtual 242, 3) := by decide +kernel
theorem dX12_ring_90 : decode cX12_ring 90 = .ok (.aload_n 0, 1) := by decide +kernel
theorem dX12_ring_91 : decode cX12_ring 91 = .ok (.getfield 94, 3) := by decide +kernel
theorem dX12_ring_94 : decode cX12_ring 94 = .ok (.iconst 0, 1) := by decide +kernel
theorem dX12_ring_95 : decode cX12_ring 95 = .ok (.iaload, 1) := by decide +kernel
theorem dX12_ring_96 : decode cX12_ring 96 = .ok (.if_icmp .ne 5, 3) := by decide +kernel
theorem dX12_ring_99 : decode cX12_ring 99 = .ok (.iload_n 3, 1) := by decide +kernel
theorem dX12_ring_100 : decode cX12_ring 100 = .ok (.ireturn, 1) := by decide +kernel
theorem dX12_ring_101 : decode cX12_ring 101 = .ok (.iinc 3 1, 3) := by decide +kernel
theorem dX12_ring_104 : decode cX12_ring 104 = .ok (.goto (-61), 3) := by decide +kernel
theorem dX12_ring_107 : decode cX12_ring 107 = .ok (.iconst (-1), 1) := by decide +kernel
theorem dX12_ring_108 : decode cX12_ring 108 = .ok (.ireturn, 1) := by decide +kernel
theorem dX12_laysCooks_0 : decode cX12_laysCooks 0 = .ok (.aload_n 0, 1) := by decide +kernel
theorem dX12_laysCooks_1 : decode cX12_laysCooks 1 = .ok (.getfield 251, 3) := by decide +kernel
theorem dX12_laysCooks_4 : decode cX12_laysCooks 4 = .ok (.iconst 3, 1) := by decide +kernel
theorem dX12_laysCooks_5 : decode cX12_laysCooks 5 = .ok (.if_icmp .ne 4, 3) := by decide +kernel
theorem dX12_laysCooks_8 : decode cX12_laysCooks 8 = .ok (.return_, 1) := by decide +kernel
theorem dX12_laysCooks_9 : decode cX12_laysCooks 9 = .ok (.aload_n 0, 1) := by decide +kernel
theorem dX12_laysCooks_10 : decode cX12_laysCooks 10 = .ok (.iconst 3, 1) := by decide +kernel
theorem dX12_laysCooks_11 : decode cX12_laysCooks 11 = .ok (.putfield 251, 3) := by decide +kernel
theorem dX12_laysCooks_14 : decode cX12_laysCooks 14 = .ok (.iconst 0, 1) := by decide +kernel
theorem dX12_laysCooks_15 : decode cX12_laysCooks 15 = .ok (.istore_n 1, 1) := by decide +kernel
theorem dX12_laysCooks_16 : decode cX12_laysCooks 16 = .ok (.iload_n 1, 1) := by decide +kernel
theorem dX12_laysCooks_17 : decode cX12_laysCooks 17 = .ok (.aload_n 0, 1) := by decide +kernel
theorem dX12_laysCooks_18 : decode cX12_laysCooks 18 = .ok (.invokevirtual 294, 3) := by decide +kernel
theorem dX12_laysCooks_21 : decode cX12_laysCooks 21 = .ok (.if_icmp .ge 34, 3) := by decide +kernel
theorem dX12_laysCooks_24 : decode cX12_laysCooks 24 = .ok (.aload_n 0, 1) := by decide +kernel
theorem dX12_laysCooks_25 : decode cX12_laysCooks 25 = .ok (.iload_n 1, 1) := by decide +kernel
theorem dX12_laysCooks_26 : decode cX12_laysCooks 26 = .ok (.invokevirtual 274, 3) := by decide +kernel
theorem dX12_laysCooks_29 : decode cX12_laysCooks 29 = .ok (.aload_n 0, 1) := by decide +kernel
theorem dX12_laysCooks_30 : decode cX12_laysCooks 30 = .ok (.getfield 107, 3) := by decide +kernel
theorem dX12_laysCooks_33 : decode cX12_laysCooks 33 = .ok (.iload_n 1, 1) := by decide +kernel
theorem dX12_laysCooks_34 : decode cX12_laysCooks 34 = .ok (.aload_n 0, 1) := by decide +kernel
theorem dX12_laysCooks_35 : decode cX12_laysCooks 35 = .ok (.invokevirtual 289, 3) := by decide +kernel
theorem dX12_laysCooks_38 : decode cX12_laysCooks 38 = .ok (.ifCond .eq 9, 3) := by decide +kernel
theorem dX12_laysCooks_41 : decode cX12_laysCooks 41 = .ok (.ldc2_w 336, 3) := by decide +kernel
theorem dX12_laysCooks_44 : decode cX12_laysCooks 44 = .ok (.goto 4, 3) := by decide +kernel
theorem dX12_laysCooks_47 : decode cX12_laysCooks 47 = .ok (.lconst 0, 1) := by decide +kernel
theorem dX12_laysCooks_48 : decode cX12_laysCooks 48 = .ok (.lastore, 1) := by decide +kernel
theorem dX12_laysCooks_49 : decode cX12_laysCooks 49 = .ok (.iinc 1 1, 3) := by decide +kernel
theorem dX12_laysCooks_52 : decode cX12_laysCooks 52 = .ok (.goto (-36), 3) := by decide +kernel
theorem dX12_laysCooks_55 : decode cX12_laysCooks 55 = .ok (.iconst 1, 1) := by decide +kernel
theorem dX12_laysCooks_56 : decode cX12_laysCooks 56 = .ok (.istore_n 1, 1) := by decide +kernel
theorem dX12_laysCooks_57 : decode cX12_laysCooks 57 = .ok (.iconst 0, 1) := by decide +kernel
theorem dX12_laysCooks_58 : decode cX12_laysCooks 58 = .ok (.istore_n 2, 1) := by decide +kernel
theorem dX12_laysCooks_59 : decode cX12_laysCooks 59 = .ok (.iload_n 1, 1) := by decide +kernel
theorem dX12_laysCooks_60 : decode cX12_laysCooks 60 = .ok (.ifCond .eq 257, 3) := by decide +kernel
theorem dX12_laysCooks_63 : decode cX12_laysCooks 63 = .ok (.iload_n 2, 1) := by decide +kernel
theorem dX12_laysCooks_64 : decode cX12_laysCooks 64 = .ok (.ifCond .ne 7, 3) := by decide +kernel
theorem dX12_laysCooks_67 : decode cX12_laysCooks 67 = .ok (.iconst 1, 1) := by decide +kernel
theorem dX12_laysCooks_68 : decode cX12_laysCooks 68 = .ok (.goto 4, 3) := by decide +kernel
theorem dX12_laysCooks_71 : decode cX12_laysCooks 71 = .ok (.iconst 0, 1) := by decide +kernel
theorem dX12_laysCooks_72 : decode cX12_laysCooks 72 = .ok (.istore_n 1, 1) := by decide +kernel
theorem dX12_laysCooks_73 : decode cX12_laysCooks 73 = .ok (.iconst 0, 1) := by decide +kernel
theorem dX12_laysCooks_74 : decode cX12_laysCooks 74 = .ok (.istore_n 3, 1) := by decide +kernel
theorem dX12_laysCooks_75 : decode cX12_laysCooks 75 = .ok (.iload_n 3, 1) := by decide +kernel
theorem dX12_laysCooks_76 : decode cX12_laysCooks 76 = .ok (.aload_n 0, 1) := by decide +kernel
theorem dX12_laysCooks_77 : decode cX12_laysCooks 77 = .ok (.invokevirtual 294, 3) := by decide +kernel
theorem dX12_laysCooks_80 : decode cX12_laysCooks 80 = .ok (.if_icmp .ge 231, 3) := by decide +kernel
theorem dX12_laysCooks_83 : decode cX12_laysCooks 83 = .ok (.aload_n 0, 1) := by decide +kernel
theorem dX12_laysCooks_84 : decode cX12_laysCooks 84 = .ok (.getfield 107, 3) := by decide +kernel
theorem dX12_laysCooks_87 : decode cX12_laysCooks 87 = .ok (.iload_n 3, 1) := by decide +kernel
theorem dX12_laysCooks_88 : decode cX12_laysCooks 88 = .ok (.laload, 1) := by decide +kernel
theorem dX12_laysCooks_89 : decode cX12_laysCooks 89 = .ok (.lconst 0, 1) := by decide +kernel
theorem dX12_laysCooks_90 : decode cX12_laysCooks 90 = .ok (.lcmp, 1) := by decide +kernel
theorem dX12_laysCooks_91 : decode cX12_laysCooks 91 = .ok (.ifCond .ne 214, 3) := by decide +kernel
theorem dX12_laysCooks_94 : decode cX12_laysCooks 94 = .ok (.aload_n 0, 1) := by decide +kernel
theorem dX12_laysCooks_95 : decode cX12_laysCooks 95 = .ok (.iload_n 3, 1) := by decide +kernel
theorem dX12_laysCooks_96 : decode cX12_laysCooks 96 = .ok (.iconst 0, 1) := by decide +kernel
theorem dX12_laysCooks_97 : decode cX12_laysCooks 97 = .ok (.invokevirtual 321, 3) := by decide +kernel
theorem dX12_laysCooks_100 : decode cX12_laysCooks 100 = .ok (.iconst 0, 1) := by decide +kernel
theorem dX12_laysCooks_101 : decode cX12_laysCooks 101 = .ok (.istore 4, 2) := by decide +kernel
theorem dX12_laysCooks_103 : decode cX12_laysCooks 103 = .ok (.iconst 1, 1) := by decide +kernel
theorem dX12_laysCooks_104 : decode cX12_laysCooks 104 = .ok (.istore 5, 2) := by decide +kernel
theorem dX12_laysCooks_106 : decode cX12_laysCooks 106 = .ok (.iconst 1, 1) := by decide +kernel
theorem dX12_laysCooks_107 : decode cX12_laysCooks 107 = .ok (.istore 6, 2) := by decide +kernel
theorem dX12_laysCooks_109 : decode cX12_laysCooks 109 = .ok (.iload 6, 2) := by decide +kernel
theorem dX12_laysCooks_111 : decode cX12_laysCooks 111 = .ok (.aload_n 0, 1) := by decide +kernel
theorem dX12_laysCooks_112 : decode cX12_laysCooks 112 = .ok (.invokevirtual 209, 3) := by decide +kernel
theorem dX12_laysCooks_115 : decode cX12_laysCooks 115 = .ok (.if_icmp .gt 131, 3) := by decide +kernel
theorem dX12_laysCooks_118 : decode cX12_laysCooks 118 = .ok (.aload_n 0, 1) := by decide +kernel
theorem dX12_laysCooks_119 : decode cX12_laysCooks 119 = .ok (.getfield 110, 3) := by decide +kernel
theorem dX12_laysCooks_122 : decode cX12_laysCooks 122 = .ok (.iload 6, 2) := by decide +kernel
theorem dX12_laysCooks_124 : decode cX12_laysCooks 124 = .ok (.iaload, 1) := by decide +kernel
theorem dX12_laysCooks_125 : decode cX12_laysCooks 125 = .ok (.ifCond .ge 7, 3) := by decide +kernel
theorem dX12_laysCooks_128 : decode cX12_laysCooks 128 = .ok (.lconst 0, 1) := by decide +kernel
theorem dX12_laysCooks_129 : decode cX12_laysCooks 129 = .ok (.goto 15, 3) := by decide +kernel
theorem dX12_laysCooks_132 : decode cX12_laysCooks 132 = .ok (.aload_n 0, 1) := by decide +kernel
theorem dX12_laysCooks_133 : decode cX12_laysCooks 133 = .ok (.getfield 107, 3) := by decide +kernel
theorem dX12_laysCooks_136 : decode cX12_laysCooks 136 = .ok (.aload_n 0, 1) := by decide +kernel
theorem dX12_laysCooks_137 : decode cX12_laysCooks 137 = .ok (.getfield 110, 3) := by decide +kernel
theorem dX12_laysCooks_140 : decode cX12_laysCooks 140 = .ok (.iload 6, 2) := by decide +kernel
theorem dX12_laysCooks_142 : decode cX12_laysCooks 142 = .ok (.iaload, 1) := by decide +kernel
theorem dX12_laysCooks_143 : decode cX12_laysCooks 143 = .ok (.laload, 1) := by decide +kernel
theorem dX12_laysCooks_144 : decode cX12_laysCooks 144 = .ok (.lstore 7, 2) := by decide +kernel
theorem dX12_laysCooks_146 : decode cX12_laysCooks 146 = .ok (.lload 7, 2) := by decide +kernel
theorem dX12_laysCooks_148 : decode cX12_laysCooks 148 = .ok (.lconst 0, 1) := by decide +kernel
theorem dX12_laysCooks_149 : decode cX12_laysCooks 149 = .ok (.lcmp, 1) := by decide +kernel
theorem dX12_laysCooks_150 : decode cX12_laysCooks 150 = .ok (.ifCond .le 21, 3) := by decide +kernel
theorem dX12_laysCooks_153 : decode cX12_laysCooks 153 = .ok (.lload 7, 2) := by decide +kernel
theorem dX12_laysCooks_155 : decode cX12_laysCooks 155 = .ok (.ldc2_w 336, 3) := by decide +kernel
theorem dX12_laysCooks_158 : decode cX12_laysCooks 158 = .ok (.ldiv, 1) := by decide +kernel
theorem dX12_laysCooks_159 : decode cX12_laysCooks 159 = .ok (.lconst 1, 1) := by decide +kernel
theorem dX12_laysCooks_160 : decode cX12_laysCooks 160 = .ok (.lsub, 1) := by decide +kernel
theorem dX12_laysCooks_161 : decode cX12_laysCooks 161 = .ok (.iload_n 2, 1) := by decide +kernel
theorem dX12_laysCooks_162 : decode cX12_laysCooks 162 = .ok (.i2l, 1) := by decide +kernel
theorem dX12_laysCooks_163 : decode cX12_laysCooks 163 = .ok (.lcmp, 1) := by decide +kernel
theorem dX12_laysCooks_164 : decode cX12_laysCooks 164 = .ok (.ifCond .ge 7, 3) := by decide +kernel
theorem dX12_laysCooks_167 : decode cX12_laysCooks 167 = .ok (.iconst 1, 1) := by decide +kernel
theorem dX12_laysCooks_168 : decode cX12_laysCooks 168 = .ok (.goto 4, 3) := by decide +kernel
theorem dX12_laysCooks_171 : decode cX12_laysCooks 171 = .ok (.iconst 0, 1) := by decide +kernel
theorem dX12_laysCooks_172 : decode cX12_laysCooks 172 = .ok (.istore 9, 2) := by decide +kernel
theorem dX12_laysCooks_174 : decode cX12_laysCooks 174 = .ok (.iload 4, 2) := by decide +kernel
theorem dX12_laysCooks_176 : decode cX12_laysCooks 176 = .ok (.ifCond .ne 19, 3) := by decide +kernel
theorem dX12_laysCooks_179 : decode cX12_laysCooks 179 = .ok (.iload 9, 2) := by decide +kernel
theorem dX12_laysCooks_181 : decode cX12_laysCooks 181 = .ok (.ifCond .eq 18, 3) := by decide +kernel
theorem dX12_laysCooks_184 : decode cX12_laysCooks 184 = .ok (.lload 7, 2) := by decide +kernel
theorem dX12_laysCooks_186 : decode cX12_laysCooks 186 = .ok (.ldc2_w 336, 3) := by decide +kernel
theorem dX12_laysCooks_189 : decode cX12_laysCooks 189 = .ok (.lrem, 1) := by decide +kernel
theorem dX12_laysCooks_190 : decode cX12_laysCooks 190 = .ok (.lconst 0, 1) := by decide +kernel
theorem dX12_laysCooks_191 : decode cX12_laysCooks 191 = .ok (.lcmp, 1) := by decide +kernel
theorem dX12_laysCooks_192 : decode cX12_laysCooks 192 = .ok (.ifCond .ne 7, 3) := by decide +kernel
theorem dX12_laysCooks_195 : decode cX12_laysCooks 195 = .ok (.iconst 1, 1) := by decide +kernel
theorem dX12_laysCooks_196 : decode cX12_laysCooks 196 = .ok (.goto 4, 3) := by decide +kernel
theorem dX12_laysCooks_199 : decode cX12_laysCooks 199 = .ok (.iconst 0, 1) := by decide +kernel
theorem dX12_laysCooks_200 : decode cX12_laysCooks 200 = .ok (.istore 4, 2) := by decide +kernel
theorem dX12_laysCooks_202 : decode cX12_laysCooks 202 = .ok (.iload 5, 2) := by decide +kernel
theorem dX12_laysCooks_204 : decode cX12_laysCooks 204 = .ok (.ifCond .eq 33, 3) := by decide +kernel
theorem dX12_laysCooks_207 : decode cX12_laysCooks 207 = .ok (.aload_n 0, 1) := by decide +kernel
theorem dX12_laysCooks_208 : decode cX12_laysCooks 208 = .ok (.getfield 110, 3) := by decide +kernel
theorem dX12_laysCooks_211 : decode cX12_laysCooks 211 = .ok (.iload 6, 2) := by decide +kernel
theorem dX12_laysCooks_213 : decode cX12_laysCooks 213 = .ok (.iaload, 1) := by decide +kernel
theorem dX12_laysCooks_214 : decode cX12_laysCooks 214 = .ok (.ifCond .lt 19, 3) := by decide +kernel
theorem dX12_laysCooks_217 : decode cX12_laysCooks 217 = .ok (.iload 9, 2) := by decide +kernel
theorem dX12_laysCooks_219 : decode cX12_laysCooks 219 = .ok (.ifCond .eq 18, 3) := by decide +kernel
theorem dX12_laysCooks_222 : decode cX12_laysCooks 222 = .ok (.lload 7, 2) := by decide +kernel
theorem dX12_laysCooks_224 : decode cX12_laysCooks 224 = .ok (.ldc2_w 336, 3) := by decide +kernel
theorem dX12_laysCooks_227 : decode cX12_laysCooks 227 = .ok (.lrem, 1) := by decide +kernel
theorem dX12_laysCooks_228 : decode cX12_laysCooks 228 = .ok (.lconst 1, 1) := by decide +kernel
theorem dX12_laysCooks_229 : decode cX12_laysCooks 229 = .ok (.lcmp, 1) := by decide +kernel
theorem dX12_laysCooks_230 : decode cX12_laysCooks 230 = .ok (.ifCond .ne 7, 3) := by decide +kernel
theorem dX12_laysCooks_233 : decode cX12_laysCooks 233 = .ok (.iconst 1, 1) := by decide +kernel
theorem dX12_laysCooks_234 : decode cX12_laysCooks 234 = .ok (.goto 4, 3) := by decide +kernel
theorem dX12_laysCooks_237 : decode cX12_laysCooks 237 = .ok (.iconst 0, 1) := by decide +kernel
theorem dX12_laysCooks_238 : decode cX12_laysCooks 238 = .ok (.istore 5, 2) := by decide +kernel
theorem dX12_laysCooks_240 : decode cX12_laysCooks 240 = .ok (.iinc 6 1, 3) := by decide +kernel
theorem dX12_laysCooks_243 : decode cX12_laysCooks 243 = .ok (.goto (-134), 3) := by decide +kernel
theorem dX12_laysCooks_246 : decode cX12_laysCooks 246 = .ok (.aload_n 0, 1) := by decide +kernel
theorem dX12_laysCooks_247 : decode cX12_laysCooks 247 = .ok (.getfield 107, 3) := by decide +kernel
theorem dX12_laysCooks_250 : decode cX12_laysCooks 250 = .ok (.iload_n 3, 1) := by decide +kernel
theorem dX12_laysCooks_251 : decode cX12_laysCooks 251 = .ok (.iload 4, 2) := by decide +kernel
theorem dX12_laysCooks_253 : decode cX12_laysCooks 253 = .ok (.ifCond .ne 8, 3) := by decide +kernel
theorem dX12_laysCooks_256 : decode cX12_laysCooks 256 = .ok (.iload 5, 2) := by decide +kernel
theorem dX12_laysCooks_258 : decode cX12_laysCooks 258 = .ok (.ifCond .eq 25, 3) := by decide +kernel
theorem dX12_laysCooks_261 : decode cX12_laysCooks 261 = .ok (.ldc2_w 336, 3) := by decide +kernel
theorem dX12_laysCooks_264 : decode cX12_laysCooks 264 = .ok (.iload_n 2, 1) := by decide +kernel
theorem dX12_laysCooks_265 : decode cX12_laysCooks 265 = .ok (.iconst 1, 1) := by decide +kernel
theorem dX12_laysCooks_266 : decode cX12_laysCooks 266 = .ok (.iadd, 1) := by decide +kernel
theorem dX12_laysCooks_267 : decode cX12_laysCooks 267 = .ok (.i2l, 1) := by decide +kernel
theorem dX12_laysCooks_268 : decode cX12_laysCooks 268 = .ok (.lmul, 1) := by decide +kernel
theorem dX12_laysCooks_269 : decode cX12_laysCooks 269 = .ok (.iload 4, 2) := by decide +kernel
theorem dX12_laysCooks_271 : decode cX12_laysCooks 271 = .ok (.ifCond .eq 7, 3) := by decide +kernel
theorem dX12_laysCooks_274 : decode cX12_laysCooks 274 = .ok (.lconst 1, 1) := by decide +kernel
theorem dX12_laysCooks_275 : decode cX12_laysCooks 275 = .ok (.goto 4, 3) := by decide +kernel
theorem dX12_laysCooks_278 : decode cX12_laysCooks 278 = .ok (.lconst 0, 1) := by decide +kernel
theorem dX12_laysCooks_279 : decode cX12_laysCooks 279 = .ok (.ladd, 1) := by decide +kernel
theorem dX12_laysCooks_280 : decode cX12_laysCooks 280 = .ok (.goto 4, 3) := by decide +kernel
theorem dX12_laysCooks_283 : decode cX12_laysCooks 283 = .ok (.lconst 0, 1) := by decide +kernel
theorem dX12_laysCooks_284 : decode cX12_laysCooks 284 = .ok (.lastore, 1) := by decide +kernel
theorem dX12_laysCooks_285 : decode cX12_laysCooks 285 = .ok (.iload_n 1, 1) := by decide +kernel
theorem dX12_laysCooks_286 : decode cX12_laysCooks 286 = .ok (.ifCond .ne 13, 3) := by decide +kernel
theorem dX12_laysCooks_289 : decode cX12_laysCooks 289 = .ok (.iload 4, 2) := by decide +kernel
theorem dX12_laysCooks_291 : decode cX12_laysCooks 291 = .ok (.ifCond .ne 8, 3) := by decide +kernel
theorem dX12_laysCooks_294 : decode cX12_laysCooks 294 = .ok (.iload 5, 2) := by decide +kernel
theorem dX12_laysCooks_296 : decode cX12_laysCooks 296 = .ok (.ifCond .eq 7, 3) := by decide +kernel
theorem dX12_laysCooks_299 : decode cX12_laysCooks 299 = .ok (.iconst 1, 1) := by decide +kernel
theorem dX12_laysCooks_300 : decode cX12_laysCooks 300 = .ok (.goto 4, 3) := by decide +kernel
theorem dX12_laysCooks_303 : decode cX12_laysCooks 303 = .ok (.iconst 0, 1) := by decide +kernel
theorem dX12_laysCooks_304 : decode cX12_laysCooks 304 = .ok (.istore_n 1, 1) := by decide +kernel
theorem dX12_laysCooks_305 : decode cX12_laysCooks 305 = .ok (.iinc 3 1, 3) := by decide +kernel
theorem dX12_laysCooks_308 : decode cX12_laysCooks 308 = .ok (.goto (-233), 3) := by decide +kernel
theorem dX12_laysCooks_311 : decode cX12_laysCooks 311 = .ok (.iinc 2 1, 3) := by decide +kernel
theorem dX12_laysCooks_314 : decode cX12_laysCooks 314 = .ok (.goto (-255), 3) := by decide +kernel
theorem dX12_laysCooks_317 : decode cX12_laysCooks 317 = .ok (.return_, 1) := by decide +kernel
theorem dX12_wins_0 : decode cX12_wins 0 = .ok (.aload_n 0, 1) := by decide +kernel
theorem dX12_wins_1 : decode cX12_wins 1 = .ok (.iconst 0, 1) := by decide +kernel
theorem dX12_wins_2 : decode cX12_wins 2 = .ok (.putfield 1, 3) := by decide +kernel
theorem dX12_wins_5 : decode cX12_wins 5 = .ok (.iload_n 1, 1) := by decide +kernel
theorem dX12_wins_6 : decode cX12_wins 6 = .ok (.iconst 0, 1) := by decide +kernel
theorem dX12_wins_7 : decode cX12_wins 7 = .ok (.iconst 1, 1) := by decide +kernel
theorem dX12_wins_8 : decode cX12_wins 8 = .ok (.invokestatic 270, 3) := by decide +kernel
theorem dX12_wins_11 : decode cX12_wins 11 = .ok (.ifCond .ne 6, 3) := by decide +kernel
theorem dX12_wins_14 : decode cX12_wins 14 = .ok (.bipush (-2), 2) := by decide +kernel
theorem dX12_wins_16 : decode cX12_wins 16 = .ok (.ireturn, 1) := by decide +kernel
theorem dX12_wins_17 : decode cX12_wins 17 = .ok (.aload_n 0, 1) := by decide +kernel
theorem dX12_wins_18 : decode cX12_wins 18 = .ok (.invokevirtual 352, 3) := by decide +kernel
theorem dX12_wins_21 : decode cX12_wins 21 = .ok (.aload_n 0, 1) := by decide +kernel
theorem dX12_wins_22 : decode cX12_wins 22 = .ok (.getfield 107, 3) := by decide +kernel
theorem dX12_wins_25 : decode cX12_wins 25 = .ok (.aload_n 0, 1) := by decide +kernel
theorem dX12_wins_26 : decode cX12_wins 26 = .ok (.getfield 94, 3) := by decide +kernel
theorem dX12_wins_29 : decode cX12_wins 29 = .ok (.iconst 0, 1) := by decide +kernel
theorem dX12_wins_30 : decode cX12_wins 30 = .ok (.iaload, 1) := by decide +kernel
theorem dX12_wins_31 : decode cX12_wins 31 = .ok (.laload, 1) := by decide +kernel
theorem dX12_wins_32 : decode cX12_wins 32 = .ok (.lstore_n 2, 1) := by decide +kernel
theorem dX12_wins_33 : decode cX12_wins 33 = .ok (.iload_n 1, 1) := by decide +kernel
theorem dX12_wins_34 : decode cX12_wins 34 = .ok (.ifCond .ne 22, 3) := by decide +kernel
theorem dX12_wins_37 : decode cX12_wins 37 = .ok (.lload_n 2, 1) := by decide +kernel
theorem dX12_wins_38 : decode cX12_wins 38 = .ok (.lconst 0, 1) := by decide +kernel
theorem dX12_wins_39 : decode cX12_wins 39 = .ok (.lcmp, 1) := by decide +kernel
theorem dX12_wins_40 : decode cX12_wins 40 = .ok (.ifCond .ne 7, 3) := by decide +kernel
theorem dX12_wins_43 : decode cX12_wins 43 = .ok (.iconst 2, 1) := by decide +kernel
theorem dX12_wins_44 : decode cX12_wins 44 = .ok (.goto 30, 3) := by decide +kernel
theorem dX12_wins_47 : decode cX12_wins 47 = .ok (.lload_n 2, 1) := by decide +kernel
theorem dX12_wins_48 : decode cX12_wins 48 = .ok (.ldc2_w 336, 3) := by decide +kernel
theorem dX12_wins_51 : decode cX12_wins 51 = .ok (.lrem, 1) := by decide +kernel
theorem dX12_wins_52 : decode cX12_wins 52 = .ok (.l2i, 1) := by decide +kernel
theorem dX12_wins_53 : decode cX12_wins 53 = .ok (.goto 21, 3) := by decide +kernel
theorem dX12_wins_56 : decode cX12_wins 56 = .ok (.lload_n 2, 1) := by decide +kernel
theorem dX12_wins_57 : decode cX12_wins 57 = .ok (.lconst 0, 1) := by decide +kernel
theorem dX12_wins_58 : decode cX12_wins 58 = .ok (.lcmp, 1) := by decide +kernel
theorem dX12_wins_59 : decode cX12_wins 59 = .ok (.ifCond .ne 7, 3) := by decide +kernel
theorem dX12_wins_62 : decode cX12_wins 62 = .ok (.iconst (-1), 1) := by decide +kernel
theorem dX12_wins_63 : decode cX12_wins 63 = .ok (.goto 11, 3) := by decide +kernel
theorem dX12_wins_66 : decode cX12_wins 66 = .ok (.lload_n 2, 1) := by decide +kernel
theorem dX12_wins_67 : decode cX12_wins 67 = .ok (.ldc2_w 336, 3) := by decide +kernel
theorem dX12_wins_70 : decode cX12_wins 70 = .ok (.ldiv, 1) := by decide +kernel
theorem dX12_wins_71 : decode cX12_wins 71 = .ok (.l2i, 1) := by decide +kernel
theorem dX12_wins_72 : decode cX12_wins 72 = .ok (.iconst 1, 1) := by decide +kernel
theorem dX12_wins_73 : decode cX12_wins 73 = .ok (.isub, 1) := by decide +kernel
theorem dX12_wins_74 : decode cX12_wins 74 = .ok (.ireturn, 1) := by decide +kernel
theorem dX12_his_0 : decode cX12_his 0 = .ok (.aload_n 0, 1) := by decide +kernel
theorem dX12_his_1 : decode cX12_his 1 = .ok (.iconst 0, 1) := by decide +kernel
theorem dX12_his_2 : decode cX12_his 2 = .ok (.putfield 1, 3) := by decide +kernel
theorem dX12_his_5 : decode cX12_his 5 = .ok (.aload_n 0, 1) := by decide +kernel
theorem dX12_his_6 : decode cX12_his 6 = .ok (.invokevirtual 352, 3) := by decide +kernel
theorem dX12_his_9 : decode cX12_his 9 = .ok (.aload_n 0, 1) := by decide +kernel
theorem dX12_his_10 : decode cX12_his 10 = .ok (.getfield 94, 3) := by decide +kernel
theorem dX12_his_13 : decode cX12_his 13 = .ok (.iconst 0, 1) := by decide +kernel
theorem dX12_his_14 : decode cX12_his 14 = .ok (.iaload, 1) := by decide +kernel
theorem dX12_his_15 : decode cX12_his 15 = .ok (.istore_n 1, 1) := by decide +kernel
theorem dX12_his_16 : decode cX12_his 16 = .ok (.aload_n 0, 1) := by decide +kernel
theorem dX12_his_17 : decode cX12_his 17 = .ok (.iload_n 1, 1) := by decide +kernel
theorem dX12_his_18 : decode cX12_his 18 = .ok (.invokevirtual 274, 3) := by decide +kernel
theorem dX12_his_21 : decode cX12_his 21 = .ok (.aload_n 0, 1) := by decide +kernel
theorem dX12_his_22 : decode cX12_his 22 = .ok (.invokevirtual 289, 3) := by decide +kernel
theorem dX12_his_25 : decode cX12_his 25 = .ok (.ifCond .eq 5, 3) := by decide +kernel
theorem dX12_his_28 : decode cX12_his 28 = .ok (.iconst (-1), 1) := by decide +kernel
theorem dX12_his_29 : decode cX12_his 29 = .ok (.ireturn, 1) := by decide +kernel
theorem dX12_his_30 : decode cX12_his 30 = .ok (.aload_n 0, 1) := by decide +kernel
theorem dX12_his_31 : decode cX12_his 31 = .ok (.iload_n 1, 1) := by decide +kernel
theorem dX12_his_32 : decode cX12_his 32 = .ok (.iconst 0, 1) := by decide +kernel
theorem dX12_his_33 : decode cX12_his 33 = .ok (.invokevirtual 321, 3) := by decide +kernel
theorem dX12_his_36 : decode cX12_his 36 = .ok (.aload_n 0, 1) := by decide +kernel
theorem dX12_his_37 : decode cX12_his 37 = .ok (.getfield 107, 3) := by decide +kernel
theorem dX12_his_40 : decode cX12_his 40 = .ok (.iload_n 1, 1) := by decide +kernel
theorem dX12_his_41 : decode cX12_his 41 = .ok (.laload, 1) := by decide +kernel
theorem dX12_his_42 : decode cX12_his 42 = .ok (.lstore_n 2, 1) := by decide +kernel
theorem dX12_his_43 : decode cX12_his 43 = .ok (.iconst (-1), 1) := by decide +kernel
theorem dX12_his_44 : decode cX12_his 44 = .ok (.istore 4, 2) := by decide +kernel
theorem dX12_his_46 : decode cX12_his 46 = .ok (.aload_n 0, 1) := by decide +kernel
theorem dX12_his_47 : decode cX12_his 47 = .ok (.invokevirtual 209, 3) := by decide +kernel
theorem dX12_his_50 : decode cX12_his 50 = .ok (.istore 5, 2) := by decide +kernel
theorem dX12_his_52 : decode cX12_his 52 = .ok (.iload 5, 2) := by decide +kernel
theorem dX12_his_54 : decode cX12_his 54 = .ok (.iconst 1, 1) := by decide +kernel
theorem dX12_his_55 : decode cX12_his 55 = .ok (.if_icmp .lt 115, 3) := by decide +kernel
theorem dX12_his_58 : decode cX12_his 58 = .ok (.aload_n 0, 1) := by decide +kernel
theorem dX12_his_59 : decode cX12_his 59 = .ok (.getfield 110, 3) := by decide +kernel
theorem dX12_his_62 : decode cX12_his 62 = .ok (.iload 5, 2) := by decide +kernel
theorem dX12_his_64 : decode cX12_his 64 = .ok (.iaload, 1) := by decide +kernel
theorem dX12_his_65 : decode cX12_his 65 = .ok (.ifCond .ge 9, 3) := by decide +kernel
theorem dX12_his_68 : decode cX12_his 68 = .ok (.ldc2_w 355, 3) := by decide +kernel
theorem dX12_his_71 : decode cX12_his 71 = .ok (.goto 15, 3) := by decide +kernel
theorem dX12_his_74 : decode cX12_his 74 = .ok (.aload_n 0, 1) := by decide +kernel
theorem dX12_his_75 : decode cX12_his 75 = .ok (.getfield 107, 3) := by decide +kernel
theorem dX12_his_78 : decode cX12_his 78 = .ok (.aload_n 0, 1) := by decide +kernel
theorem dX12_his_79 : decode cX12_his 79 = .ok (.getfield 110, 3) := by decide +kernel
theorem dX12_his_82 : decode cX12_his 82 = .ok (.iload 5, 2) := by decide +kernel
theorem dX12_his_84 : decode cX12_his 84 = .ok (.iaload, 1) := by decide +kernel
theorem dX12_his_85 : decode cX12_his 85 = .ok (.laload, 1) := by decide +kernel
theorem dX12_his_86 : decode cX12_his 86 = .ok (.lstore 6, 2) := by decide +kernel
theorem dX12_his_88 : decode cX12_his 88 = .ok (.aload_n 0, 1) := by decide +kernel
theorem dX12_his_89 : decode cX12_his 89 = .ok (.getfield 110, 3) := by decide +kernel
theorem dX12_his_92 : decode cX12_his 92 = .ok (.iload 5, 2) := by decide +kernel
theorem dX12_his_94 : decode cX12_his 94 = .ok (.iaload, 1) := by decide +kernel
theorem dX12_his_95 : decode cX12_his 95 = .ok (.ifCond .lt 52, 3) := by decide +kernel
theorem dX12_his_98 : decode cX12_his 98 = .ok (.lload_n 2, 1) := by decide +kernel
theorem dX12_his_99 : decode cX12_his 99 = .ok (.lconst 0, 1) := by decide +kernel
theorem dX12_his_100 : decode cX12_his 100 = .ok (.lcmp, 1) := by decide +kernel
theorem dX12_his_101 : decode cX12_his 101 = .ok (.ifCond .ne 13, 3) := by decide +kernel
theorem dX12_his_104 : decode cX12_his 104 = .ok (.lload 6, 2) := by decide +kernel
theorem dX12_his_106 : decode cX12_his 106 = .ok (.lconst 0, 1) := by decide +kernel
theorem dX12_his_107 : decode cX12_his 107 = .ok (.lcmp, 1) := by decide +kernel
theorem dX12_his_108 : decode cX12_his 108 = .ok (.ifCond .ne 39, 3) := by decide +kernel
theorem dX12_his_111 : decode cX12_his 111 = .ok (.goto 32, 3) := by decide +kernel
theorem dX12_his_114 : decode cX12_his 114 = .ok (.lload 6, 2) := by decide +kernel
theorem dX12_his_116 : decode cX12_his 116 = .ok (.lload_n 2, 1) := by decide +kernel
theorem dX12_his_117 : decode cX12_his 117 = .ok (.ldc2_w 336, 3) := by decide +kernel
theorem dX12_his_120 : decode cX12_his 120 = .ok (.lsub, 1) := by decide +kernel
theorem dX12_his_121 : decode cX12_his 121 = .ok (.lload_n 2, 1) := by decide +kernel
theorem dX12_his_122 : decode cX12_his 122 = .ok (.ldc2_w 336, 3) := by decide +kernel
theorem dX12_his_125 : decode cX12_his 125 = .ok (.lrem, 1) := by decide +kernel
theorem dX12_his_126 : decode cX12_his 126 = .ok (.lconst 1, 1) := by decide +kernel
theorem dX12_his_127 : decode cX12_his 127 = .ok (.lcmp, 1) := by decide +kernel
theorem dX12_his_128 : decode cX12_his 128 = .ok (.ifCond .ne 9, 3) := by decide +kernel
theorem dX12_his_131 : decode cX12_his 131 = .ok (.ldc2_w 355, 3) := by decide +kernel
theorem dX12_his_134 : decode cX12_his 134 = .ok (.goto 4, 3) := by decide +kernel
theorem dX12_his_137 : decode cX12_his 137 = .ok (.lconst 1, 1) := by decide +kernel
theorem dX12_his_138 : decode cX12_his 138 = .ok (.ladd, 1) := by decide +kernel
theorem dX12_his_139 : decode cX12_his 139 = .ok (.lcmp, 1) := by decide +kernel
theorem dX12_his_140 : decode cX12_his 140 = .ok (.ifCond .ne 7, 3) := by decide +kernel
theorem dX12_his_143 : decode cX12_his 143 = .ok (.iconst 1, 1) := by decide +kernel
theorem dX12_his_144 : decode cX12_his 144 = .ok (.goto 4, 3) := by decide +kernel
theorem dX12_his_147 : decode cX12_his 147 = .ok (.iconst 0, 1) := by decide +kernel
theorem dX12_his_148 : decode cX12_his 148 = .ok (.istore 8, 2) := by decide +kernel
theorem dX12_his_150 : decode cX12_his 150 = .ok (.iload 8, 2) := by decide +kernel
theorem dX12_his_152 : decode cX12_his 152 = .ok (.ifCond .eq 8, 3) := by decide +kernel
theorem dX12_his_155 : decode cX12_his 155 = .ok (.iload 5, 2) := by decide +kernel
theorem dX12_his_157 : decode cX12_his 157 = .ok (.goto 5, 3) := by decide +kernel
theorem dX12_his_160 : decode cX12_his 160 = .ok (.iload 4, 2) := by decide +kernel
theorem dX12_his_162 : decode cX12_his 162 = .ok (.istore 4, 2) := by decide +kernel
theorem dX12_his_164 : decode cX12_his 164 = .ok (.iinc 5 (-1), 3) := by decide +kernel
theorem dX12_his_167 : decode cX12_his 167 = .ok (.goto (-115), 3) := by decide +kernel
theorem dX12_his_170 : decode cX12_his 170 = .ok (.iload 4, 2) := by decide +kernel
theorem dX12_his_172 : decode cX12_his 172 = .ok (.ireturn, 1) := by decide +kernel
theorem dX12_sees_0 : decode cX12_sees 0 = .ok (.iload_n 1, 1) := by decide +kernel
theorem dX12_sees_1 : decode cX12_sees 1 = .ok (.iconst 0, 1) := by decide +kernel
theorem dX12_sees_2 : decode cX12_sees 2 = .ok (.aload_n 0, 1) := by decide +kernel
theorem dX12_sees_3 : decode cX12_sees 3 = .ok (.invokevirtual 209, 3) := by decide +kernel
theorem dX12_sees_6 : decode cX12_sees 6 = .ok (.iconst 1, 1) := by decide +kernel
theorem dX12_sees_7 : decode cX12_sees 7 = .ok (.isub, 1) := by decide +kernel
theorem dX12_sees_8 : decode cX12_sees 8 = .ok (.invokestatic 270, 3) := by decide +kernel
theorem dX12_sees_11 : decode cX12_sees 11 = .ok (.ifCond .eq 36, 3) := by decide +kernel
theorem dX12_sees_14 : decode cX12_sees 14 = .ok (.iload_n 2, 1) := by decide +kernel
theorem dX12_sees_15 : decode cX12_sees 15 = .ok (.iconst 0, 1) := by decide +kernel
theorem dX12_sees_16 : decode cX12_sees 16 = .ok (.iconst 5, 1) := by decide +kernel
theorem dX12_sees_17 : decode cX12_sees 17 = .ok (.invokestatic 270, 3) := by decide +kernel
theorem dX12_sees_20 : decode cX12_sees 20 = .ok (.ifCond .eq 27, 3) := by decide +kernel
theorem dX12_sees_23 : decode cX12_sees 23 = .ok (.iload_n 2, 1) := by decide +kernel
theorem dX12_sees_24 : decode cX12_sees 24 = .ok (.iconst 5, 1) := by decide +kernel
theorem dX12_sees_25 : decode cX12_sees 25 = .ok (.if_icmp .ge 11, 3) := by decide +kernel
theorem dX12_sees_28 : decode cX12_sees 28 = .ok (.iload_n 2, 1) := by decide +kernel
theorem dX12_sees_29 : decode cX12_sees 29 = .ok (.aload_n 0, 1) := by decide +kernel
theorem dX12_sees_30 : decode cX12_sees 30 = .ok (.invokevirtual 209, 3) := by decide +kernel
theorem dX12_sees_33 : decode cX12_sees 33 = .ok (.if_icmp .ge 14, 3) := by decide +kernel
theorem dX12_sees_36 : decode cX12_sees 36 = .ok (.aload_n 0, 1) := by decide +kernel
theorem dX12_sees_37 : decode cX12_sees 37 = .ok (.getfield 94, 3) := by decide +kernel
theorem dX12_sees_40 : decode cX12_sees 40 = .ok (.iconst 3, 1) := by decide +kernel
theorem dX12_sees_41 : decode cX12_sees 41 = .ok (.iaload, 1) := by decide +kernel
theorem dX12_sees_42 : decode cX12_sees 42 = .ok (.bipush 8, 2) := by decide +kernel
theorem dX12_sees_44 : decode cX12_sees 44 = .ok (.if_icmp .ne 5, 3) := by decide +kernel
theorem dX12_sees_47 : decode cX12_sees 47 = .ok (.iconst 0, 1) := by decide +kernel
theorem dX12_sees_48 : decode cX12_sees 48 = .ok (.ireturn, 1) := by decide +kernel
theorem dX12_sees_49 : decode cX12_sees 49 = .ok (.iconst 4, 1) := by decide +kernel
theorem dX12_sees_50 : decode cX12_sees 50 = .ok (.iconst 3, 1) := by decide +kernel
theorem dX12_sees_51 : decode cX12_sees 51 = .ok (.aload_n 0, 1) := by decide +kernel
theorem dX12_sees_52 : decode cX12_sees 52 = .ok (.getfield 94, 3) := by decide +kernel
theorem dX12_sees_55 : decode cX12_sees 55 = .ok (.iconst 3, 1) := by decide +kernel
theorem dX12_sees_56 : decode cX12_sees 56 = .ok (.iaload, 1) := by decide +kernel
theorem dX12_sees_57 : decode cX12_sees 57 = .ok (.imul, 1) := by decide +kernel
theorem dX12_sees_58 : decode cX12_sees 58 = .ok (.iadd, 1) := by decide +kernel
theorem dX12_sees_59 : decode cX12_sees 59 = .ok (.istore 4, 2) := by decide +kernel
theorem dX12_sees_61 : decode cX12_sees 61 = .ok (.aload_n 0, 1) := by decide +kernel
theorem dX12_sees_62 : decode cX12_sees 62 = .ok (.getfield 94, 3) := by decide +kernel
theorem dX12_sees_65 : decode cX12_sees 65 = .ok (.iload 4, 2) := by decide +kernel
theorem dX12_sees_67 : decode cX12_sees 67 = .ok (.iload_n 1, 1) := by decide +kernel
theorem dX12_sees_68 : decode cX12_sees 68 = .ok (.iastore, 1) := by decide +kernel
theorem dX12_sees_69 : decode cX12_sees 69 = .ok (.aload_n 0, 1) := by decide +kernel
theorem dX12_sees_70 : decode cX12_sees 70 = .ok (.getfield 94, 3) := by decide +kernel
theorem dX12_sees_73 : decode cX12_sees 73 = .ok (.iload 4, 2) := by decide +kernel
theorem dX12_sees_75 : decode cX12_sees 75 = .ok (.iconst 1, 1) := by decide +kernel
theorem dX12_sees_76 : decode cX12_sees 76 = .ok (.iadd, 1) := by decide +kernel
theorem dX12_sees_77 : decode cX12_sees 77 = .ok (.iload_n 2, 1) := by decide +kernel
theorem dX12_sees_78 : decode cX12_sees 78 = .ok (.iastore, 1) := by decide +kernel
theorem dX12_sees_79 : decode cX12_sees 79 = .ok (.aload_n 0, 1) := by decide +kernel
theorem dX12_sees_80 : decode cX12_sees 80 = .ok (.getfield 94, 3) := by decide +kernel
theorem dX12_sees_83 : decode cX12_sees 83 = .ok (.iload 4, 2) := by decide +kernel
theorem dX12_sees_85 : decode cX12_sees 85 = .ok (.iconst 2, 1) := by decide +kernel
theorem dX12_sees_86 : decode cX12_sees 86 = .ok (.iadd, 1) := by decide +kernel
theorem dX12_sees_87 : decode cX12_sees 87 = .ok (.iload_n 3, 1) := by decide +kernel
theorem dX12_sees_88 : decode cX12_sees 88 = .ok (.iastore, 1) := by decide +kernel
theorem dX12_sees_89 : decode cX12_sees 89 = .ok (.aload_n 0, 1) := by decide +kernel
theorem dX12_sees_90 : decode cX12_sees 90 = .ok (.getfield 94, 3) := by decide +kernel
theorem dX12_sees_93 : decode cX12_sees 93 = .ok (.iconst 3, 1) := by decide +kernel
theorem dX12_sees_94 : decode cX12_sees 94 = .ok (.dup2, 1) := by decide +kernel
theorem dX12_sees_95 : decode cX12_sees 95 = .ok (.iaload, 1) := by decide +kernel
theorem dX12_sees_96 : decode cX12_sees 96 = .ok (.iconst 1, 1) := by decide +kernel
theorem dX12_sees_97 : decode cX12_sees 97 = .ok (.iadd, 1) := by decide +kernel
theorem dX12_sees_98 : decode cX12_sees 98 = .ok (.iastore, 1) := by decide +kernel
theorem dX12_sees_99 : decode cX12_sees 99 = .ok (.iconst 1, 1) := by decide +kernel
theorem dX12_sees_100 : decode cX12_sees 100 = .ok (.ireturn, 1) := by decide +kernel
theorem dX12_see_0 : decode cX12_see 0 = .ok (.aload_n 0, 1) := by decide +kernel
theorem dX12_see_1 : decode cX12_see 1 = .ok (.iconst 0, 1) := by decide +kernel
theorem dX12_see_2 : decode cX12_see 2 = .ok (.putfield 1, 3) := by decide +kernel
theorem dX12_see_5 : decode cX12_see 5 = .ok (.iload_n 2, 1) := by decide +kernel
theorem dX12_see_6 : decode cX12_see 6 = .ok (.iconst 5, 1) := by decide +kernel
theorem dX12_see_7 : decode cX12_see 7 = .ok (.if_icmp .eq 25, 3) := by decide +kernel
theorem dX12_see_10 : decode cX12_see 10 = .ok (.aload_n 0, 1) := by decide +kernel
theorem dX12_see_11 : decode cX12_see 11 = .ok (.iload_n 1, 1) := by decide +kernel
theorem dX12_see_12 : decode cX12_see 12 = .ok (.iload_n 2, 1) := by decide +kernel
theorem dX12_see_13 : decode cX12_see 13 = .ok (.iload_n 3, 1) := by decide +kernel
theorem dX12_see_14 : decode cX12_see 14 = .ok (.ifCond .eq 7, 3) := by decide +kernel
theorem dX12_see_17 : decode cX12_see 17 = .ok (.iconst 1, 1) := by decide +kernel
theorem dX12_see_18 : decode cX12_see 18 = .ok (.goto 4, 3) := by decide +kernel
theorem dX12_see_21 : decode cX12_see 21 = .ok (.iconst 0, 1) := by decide +kernel
theorem dX12_see_22 : decode cX12_see 22 = .ok (.invokevirtual 357, 3) := by decide +kernel
theorem dX12_see_25 : decode cX12_see 25 = .ok (.ifCond .eq 7, 3) := by decide +kernel
theorem dX12_see_28 : decode cX12_see 28 = .ok (.iconst 1, 1) := by decide +kernel
theorem dX12_see_29 : decode cX12_see 29 = .ok (.goto 4, 3) := by decide +kernel
theorem dX12_see_32 : decode cX12_see 32 = .ok (.iconst 0, 1) := by decide +kernel
theorem dX12_see_33 : decode cX12_see 33 = .ok (.ireturn, 1) := by decide +kernel
theorem dX12_lies_0 : decode cX12_lies 0 = .ok (.aload_n 0, 1) := by decide +kernel
theorem dX12_lies_1 : decode cX12_lies 1 = .ok (.iconst 0, 1) := by decide +kernel
theorem dX12_lies_2 : decode cX12_lies 2 = .ok (.putfield 1, 3) := by decide +kernel
theorem dX12_lies_5 : decode cX12_lies 5 = .ok (.aload_n 0, 1) := by decide +kernel
theorem dX12_lies_6 : decode cX12_lies 6 = .ok (.iload_n 1, 1) := by decide +kernel
theorem dX12_lies_7 : decode cX12_lies 7 = .ok (.iconst 5, 1) := by decide +kernel
theorem dX12_lies_8 : decode cX12_lies 8 = .ok (.iload_n 2, 1) := by decide +kernel
theorem dX12_lies_9 : decode cX12_lies 9 = .ok (.ifCond .eq 7, 3) := by decide +kernel
theorem dX12_lies_12 : decode cX12_lies 12 = .ok (.iconst 1, 1) := by decide +kernel
theorem dX12_lies_13 : decode cX12_lies 13 = .ok (.goto 4, 3) := by decide +kernel
theorem dX12_lies_16 : decode cX12_lies 16 = .ok (.iconst 0, 1) := by decide +kernel
theorem dX12_lies_17 : decode cX12_lies 17 = .ok (.invokevirtual 357, 3) := by decide +kernel
theorem dX12_lies_20 : decode cX12_lies 20 = .ok (.ireturn, 1) := by decide +kernel
theorem dX12_isAsSeen_0 : decode cX12_isAsSeen 0 = .ok (.iconst 1, 1) := by decide +kernel
theorem dX12_isAsSeen_1 : decode cX12_isAsSeen 1 = .ok (.istore_n 1, 1) := by decide +kernel
theorem dX12_isAsSeen_2 : decode cX12_isAsSeen 2 = .ok (.iconst 0, 1) := by decide +kernel
theorem dX12_isAsSeen_3 : decode cX12_isAsSeen 3 = .ok (.istore_n 2, 1) := by decide +kernel
theorem dX12_isAsSeen_4 : decode cX12_isAsSeen 4 = .ok (.iload_n 2, 1) := by decide +kernel
theorem dX12_isAsSeen_5 : decode cX12_isAsSeen 5 = .ok (.aload_n 0, 1) := by decide +kernel
theorem dX12_isAsSeen_6 : decode cX12_isAsSeen 6 = .ok (.getfield 94, 3) := by decide +kernel
theorem dX12_isAsSeen_9 : decode cX12_isAsSeen 9 = .ok (.iconst 3, 1) := by decide +kernel
theorem dX12_isAsSeen_10 : decode cX12_isAsSeen 10 = .ok (.iaload, 1) := by decide +kernel
theorem dX12_isAsSeen_11 : decode cX12_isAsSeen 11 = .ok (.if_icmp .ge 102, 3) := by decide +kernel
theorem dX12_isAsSeen_14 : decode cX12_isAsSeen 14 = .ok (.iconst 4, 1) := by decide +kernel
theorem dX12_isAsSeen_15 : decode cX12_isAsSeen 15 = .ok (.iconst 3, 1) := by decide +kernel
theorem dX12_isAsSeen_16 : decode cX12_isAsSeen 16 = .ok (.iload_n 2, 1) := by decide +kernel
theorem dX12_isAsSeen_17 : decode cX12_isAsSeen 17 = .ok (.imul, 1) := by decide +kernel
theorem dX12_isAsSeen_18 : decode cX12_isAsSeen 18 = .ok (.iadd, 1) := by decide +kernel
theorem dX12_isAsSeen_19 : decode cX12_isAsSeen 19 = .ok (.istore_n 3, 1) := by decide +kernel
theorem dX12_isAsSeen_20 : decode cX12_isAsSeen 20 = .ok (.aload_n 0, 1) := by decide +kernel
theorem dX12_isAsSeen_21 : decode cX12_isAsSeen 21 = .ok (.getfield 101, 3) := by decide +kernel
theorem dX12_isAsSeen_24 : decode cX12_isAsSeen 24 = .ok (.aload_n 0, 1) := by decide +kernel
theorem dX12_isAsSeen_25 : decode cX12_isAsSeen 25 = .ok (.getfield 94, 3) := by decide +kernel
theorem dX12_isAsSeen_28 : decode cX12_isAsSeen 28 = .ok (.iload_n 3, 1) := by decide +kernel
theorem dX12_isAsSeen_29 : decode cX12_isAsSeen 29 = .ok (.iaload, 1) := by decide +kernel
theorem dX12_isAsSeen_30 : decode cX12_isAsSeen 30 = .ok (.iaload, 1) := by decide +kernel
theorem dX12_isAsSeen_31 : decode cX12_isAsSeen 31 = .ok (.istore 4, 2) := by decide +kernel
theorem dX12_isAsSeen_33 : decode cX12_isAsSeen 33 = .ok (.aload_n 0, 1) := by decide +kernel
theorem dX12_isAsSeen_34 : decode cX12_isAsSeen 34 = .ok (.getfield 94, 3) := by decide +kernel
theorem dX12_isAsSeen_37 : decode cX12_isAsSeen 37 = .ok (.iload_n 3, 1) := by decide +kernel
theorem dX12_isAsSeen_38 : decode cX12_isAsSeen 38 = .ok (.iconst 1, 1) := by decide +kernel
theorem dX12_isAsSeen_39 : decode cX12_isAsSeen 39 = .ok (.iadd, 1) := by decide +kernel
theorem dX12_isAsSeen_40 : decode cX12_isAsSeen 40 = .ok (.iaload, 1) := by decide +kernel
theorem dX12_isAsSeen_41 : decode cX12_isAsSeen 41 = .ok (.iconst 5, 1) := by decide +kernel
theorem dX12_isAsSeen_42 : decode cX12_isAsSeen 42 = .ok (.if_icmp .ne 13, 3) := by decide +kernel
theorem dX12_isAsSeen_45 : decode cX12_isAsSeen 45 = .ok (.aload_n 0, 1) := by decide +kernel
theorem dX12_isAsSeen_46 : decode cX12_isAsSeen 46 = .ok (.getfield 104, 3) := by decide +kernel
theorem dX12_isAsSeen_49 : decode cX12_isAsSeen 49 = .ok (.iload 4, 2) := by decide +kernel
theorem dX12_isAsSeen_51 : decode cX12_isAsSeen 51 = .ok (.baload, 1) := by decide +kernel
theorem dX12_isAsSeen_52 : decode cX12_isAsSeen 52 = .ok (.goto 21, 3) := by decide +kernel
theorem dX12_isAsSeen_55 : decode cX12_isAsSeen 55 = .ok (.iload 4, 2) := by decide +kernel
theorem dX12_isAsSeen_57 : decode cX12_isAsSeen 57 = .ok (.aload_n 0, 1) := by decide +kernel
theorem dX12_isAsSeen_58 : decode cX12_isAsSeen 58 = .ok (.getfield 94, 3) := by decide +kernel
theorem dX12_isAsSeen_61 : decode cX12_isAsSeen 61 = .ok (.iload_n 3, 1) := by decide +kernel
theorem dX12_isAsSeen_62 : decode cX12_isAsSeen 62 = .ok (.iconst 1, 1) := by decide +kernel
theorem dX12_isAsSeen_63 : decode cX12_isAsSeen 63 = .ok (.iadd, 1) := by decide +kernel
theorem dX12_isAsSeen_64 : decode cX12_isAsSeen 64 = .ok (.iaload, 1) := by decide +kernel
theorem dX12_isAsSeen_65 : decode cX12_isAsSeen 65 = .ok (.if_icmp .ne 7, 3) := by decide +kernel
theorem dX12_isAsSeen_68 : decode cX12_isAsSeen 68 = .ok (.iconst 1, 1) := by decide +kernel
theorem dX12_isAsSeen_69 : decode cX12_isAsSeen 69 = .ok (.goto 4, 3) := by decide +kernel
theorem dX12_isAsSeen_72 : decode cX12_isAsSeen 72 = .ok (.iconst 0, 1) := by decide +kernel
theorem dX12_isAsSeen_73 : decode cX12_isAsSeen 73 = .ok (.istore 5, 2) := by decide +kernel
theorem dX12_isAsSeen_75 : decode cX12_isAsSeen 75 = .ok (.iload_n 1, 1) := by decide +kernel
theorem dX12_isAsSeen_76 : decode cX12_isAsSeen 76 = .ok (.ifCond .eq 29, 3) := by decide +kernel
theorem dX12_isAsSeen_79 : decode cX12_isAsSeen 79 = .ok (.iload 5, 2) := by decide +kernel
theorem dX12_isAsSeen_81 : decode cX12_isAsSeen 81 = .ok (.aload_n 0, 1) := by decide +kernel
theorem dX12_isAsSeen_82 : decode cX12_isAsSeen 82 = .ok (.getfield 94, 3) := by decide +kernel
theorem dX12_isAsSeen_85 : decode cX12_isAsSeen 85 = .ok (.iload_n 3, 1) := by decide +kernel
theorem dX12_isAsSeen_86 : decode cX12_isAsSeen 86 = .ok (.iconst 2, 1) := by decide +kernel
theorem dX12_isAsSeen_87 : decode cX12_isAsSeen 87 = .ok (.iadd, 1) := by decide +kernel
theorem dX12_isAsSeen_88 : decode cX12_isAsSeen 88 = .ok (.iaload, 1) := by decide +kernel
theorem dX12_isAsSeen_89 : decode cX12_isAsSeen 89 = .ok (.iconst 1, 1) := by decide +kernel
theorem dX12_isAsSeen_90 : decode cX12_isAsSeen 90 = .ok (.if_icmp .ne 7, 3) := by decide +kernel
theorem dX12_isAsSeen_93 : decode cX12_isAsSeen 93 = .ok (.iconst 1, 1) := by decide +kernel
theorem dX12_isAsSeen_94 : decode cX12_isAsSeen 94 = .ok (.goto 4, 3) := by decide +kernel
theorem dX12_isAsSeen_97 : decode cX12_isAsSeen 97 = .ok (.iconst 0, 1) := by decide +kernel
theorem dX12_isAsSeen_98 : decode cX12_isAsSeen 98 = .ok (.if_icmp .ne 7, 3) := by decide +kernel
theorem dX12_isAsSeen_101 : decode cX12_isAsSeen 101 = .ok (.iconst 1, 1) := by decide +kernel
theorem dX12_isAsSeen_102 : decode cX12_isAsSeen 102 = .ok (.goto 4, 3) := by decide +kernel
theorem dX12_isAsSeen_105 : decode cX12_isAsSeen 105 = .ok (.iconst 0, 1) := by decide +kernel
theorem dX12_isAsSeen_106 : decode cX12_isAsSeen 106 = .ok (.istore_n 1, 1) := by decide +kernel
theorem dX12_isAsSeen_107 : decode cX12_isAsSeen 107 = .ok (.iinc 2 1, 3) := by decide +kernel
theorem dX12_isAsSeen_110 : decode cX12_isAsSeen 110 = .ok (.goto (-106), 3) := by decide +kernel
theorem dX12_isAsSeen_113 : decode cX12_isAsSeen 113 = .ok (.iload_n 1, 1) := by decide +kernel
theorem dX12_isAsSeen_114 : decode cX12_isAsSeen 114 = .ok (.ireturn, 1) := by decide +kernel
theorem dX12_talliesNow_0 : decode cX12_talliesNow 0 = .ok (.iconst 0, 1) := by decide +kernel
theorem dX12_talliesNow_1 : decode cX12_talliesNow 1 = .ok (.istore_n 1, 1) := by decide +kernel
theorem dX12_talliesNow_2 : decode cX12_talliesNow 2 = .ok (.iload_n 1, 1) := by decide +kernel
theorem dX12_talliesNow_3 : decode cX12_talliesNow 3 = .ok (.bipush 50, 2) := by decide +kernel
theorem dX12_talliesNow_5 : decode cX12_talliesNow 5 = .ok (.if_icmp .ge 16, 3) := by decide +kernel
theorem dX12_talliesNow_8 : decode cX12_talliesNow 8 = .ok (.aload_n 0, 1) := by decide +kernel
theorem dX12_talliesNow_9 : decode cX12_talliesNow 9 = .ok (.getfield 116, 3) := by decide +kernel
theorem dX12_talliesNow_12 : decode cX12_talliesNow 12 = .ok (.iload_n 1, 1) := by decide +kernel
theorem dX12_talliesNow_13 : decode cX12_talliesNow 13 = .ok (.iconst 0, 1) := by decide +kernel
theorem dX12_talliesNow_14 : decode cX12_talliesNow 14 = .ok (.iastore, 1) := by decide +kernel
theorem dX12_talliesNow_15 : decode cX12_talliesNow 15 = .ok (.iinc 1 1, 3) := by decide +kernel
theorem dX12_talliesNow_18 : decode cX12_talliesNow 18 = .ok (.goto (-16), 3) := by decide +kernel
theorem dX12_talliesNow_21 : decode cX12_talliesNow 21 = .ok (.iconst 0, 1) := by decide +kernel
theorem dX12_talliesNow_22 : decode cX12_talliesNow 22 = .ok (.istore_n 1, 1) := by decide +kernel
theorem dX12_talliesNow_23 : decode cX12_talliesNow 23 = .ok (.iconst 0, 1) := by decide +kernel
theorem dX12_talliesNow_24 : decode cX12_talliesNow 24 = .ok (.istore_n 2, 1) := by decide +kernel
theorem dX12_talliesNow_25 : decode cX12_talliesNow 25 = .ok (.iload_n 2, 1) := by decide +kernel
theorem dX12_talliesNow_26 : decode cX12_talliesNow 26 = .ok (.aload_n 0, 1) := by decide +kernel
theorem dX12_talliesNow_27 : decode cX12_talliesNow 27 = .ok (.invokevirtual 294, 3) := by decide +kernel
theorem dX12_talliesNow_30 : decode cX12_talliesNow 30 = .ok (.if_icmp .ge 82, 3) := by decide +kernel
theorem dX12_talliesNow_33 : decode cX12_talliesNow 33 = .ok (.aload_n 0, 1) := by decide +kernel
theorem dX12_talliesNow_34 : decode cX12_talliesNow 34 = .ok (.iload_n 2, 1) := by decide +kernel
theorem dX12_talliesNow_35 : decode cX12_talliesNow 35 = .ok (.invokevirtual 274, 3) := by decide +kernel
theorem dX12_talliesNow_38 : decode cX12_talliesNow 38 = .ok (.aload_n 0, 1) := by decide +kernel
theorem dX12_talliesNow_39 : decode cX12_talliesNow 39 = .ok (.invokevirtual 360, 3) := by decide +kernel
theorem dX12_talliesNow_42 : decode cX12_talliesNow 42 = .ok (.ifCond .eq 64, 3) := by decide +kernel
theorem dX12_talliesNow_45 : decode cX12_talliesNow 45 = .ok (.iinc 1 1, 3) := by decide +kernel
theorem dX12_talliesNow_48 : decode cX12_talliesNow 48 = .ok (.iconst 0, 1) := by decide +kernel
theorem dX12_talliesNow_49 : decode cX12_talliesNow 49 = .ok (.istore_n 3, 1) := by decide +kernel
theorem dX12_talliesNow_50 : decode cX12_talliesNow 50 = .ok (.iload_n 3, 1) := by decide +kernel
theorem dX12_talliesNow_51 : decode cX12_talliesNow 51 = .ok (.aload_n 0, 1) := by decide +kernel
theorem dX12_talliesNow_52 : decode cX12_talliesNow 52 = .ok (.invokevirtual 209, 3) := by decide +kernel
theorem dX12_talliesNow_55 : decode cX12_talliesNow 55 = .ok (.if_icmp .ge 51, 3) := by decide +kernel
theorem dX12_talliesNow_58 : decode cX12_talliesNow 58 = .ok (.aload_n 0, 1) := by decide +kernel
theorem dX12_talliesNow_59 : decode cX12_talliesNow 59 = .ok (.getfield 116, 3) := by decide +kernel
theorem dX12_talliesNow_62 : decode cX12_talliesNow 62 = .ok (.bipush 10, 2) := by decide +kernel
theorem dX12_talliesNow_64 : decode cX12_talliesNow 64 = .ok (.iload_n 3, 1) := by decide +kernel
theorem dX12_talliesNow_65 : decode cX12_talliesNow 65 = .ok (.imul, 1) := by decide +kernel
theorem dX12_talliesNow_66 : decode cX12_talliesNow 66 = .ok (.iconst 2, 1) := by decide +kernel
theorem dX12_talliesNow_67 : decode cX12_talliesNow 67 = .ok (.aload_n 0, 1) := by decide +kernel
theorem dX12_talliesNow_68 : decode cX12_talliesNow 68 = .ok (.getfield 101, 3) := by decide +kernel
theorem dX12_talliesNow_71 : decode cX12_talliesNow 71 = .ok (.iload_n 3, 1) := by decide +kernel
theorem dX12_talliesNow_72 : decode cX12_talliesNow 72 = .ok (.iaload, 1) := by decide +kernel
theorem dX12_talliesNow_73 : decode cX12_talliesNow 73 = .ok (.imul, 1) := by decide +kernel
theorem dX12_talliesNow_74 : decode cX12_talliesNow 74 = .ok (.iadd, 1) := by decide +kernel
theorem dX12_talliesNow_75 : decode cX12_talliesNow 75 = .ok (.aload_n 0, 1) := by decide +kernel
theorem dX12_talliesNow_76 : decode cX12_talliesNow 76 = .ok (.getfield 104, 3) := by decide +kernel
theorem dX12_talliesNow_79 : decode cX12_talliesNow 79 = .ok (.aload_n 0, 1) := by decide +kernel
theorem dX12_talliesNow_80 : decode cX12_talliesNow 80 = .ok (.getfield 101, 3) := by decide +kernel
theorem dX12_talliesNow_83 : decode cX12_talliesNow 83 = .ok (.iload_n 3, 1) := by decide +kernel
theorem dX12_talliesNow_84 : decode cX12_talliesNow 84 = .ok (.iaload, 1) := by decide +kernel
theorem dX12_talliesNow_85 : decode cX12_talliesNow 85 = .ok (.baload, 1) := by decide +kernel
theorem dX12_talliesNow_86 : decode cX12_talliesNow 86 = .ok (.ifCond .eq 7, 3) := by decide +kernel
theorem dX12_talliesNow_89 : decode cX12_talliesNow 89 = .ok (.iconst 1, 1) := by decide +kernel
theorem dX12_talliesNow_90 : decode cX12_talliesNow 90 = .ok (.goto 4, 3) := by decide +kernel
theorem dX12_talliesNow_93 : decode cX12_talliesNow 93 = .ok (.iconst 0, 1) := by decide +kernel
theorem dX12_talliesNow_94 : decode cX12_talliesNow 94 = .ok (.iadd, 1) := by decide +kernel
theorem dX12_talliesNow_95 : decode cX12_talliesNow 95 = .ok (.dup2, 1) := by decide +kernel
theorem dX12_talliesNow_96 : decode cX12_talliesNow 96 = .ok (.iaload, 1) := by decide +kernel
theorem dX12_talliesNow_97 : decode cX12_talliesNow 97 = .ok (.iconst 1, 1) := by decide +kernel
theorem dX12_talliesNow_98 : decode cX12_talliesNow 98 = .ok (.iadd, 1) := by decide +kernel
theorem dX12_talliesNow_99 : decode cX12_talliesNow 99 = .ok (.iastore, 1) := by decide +kernel
theorem dX12_talliesNow_100 : decode cX12_talliesNow 100 = .ok (.iinc 3 1, 3) := by decide +kernel
theorem dX12_talliesNow_103 : decode cX12_talliesNow 103 = .ok (.goto (-53), 3) := by decide +kernel
theorem dX12_talliesNow_106 : decode cX12_talliesNow 106 = .ok (.iinc 2 1, 3) := by decide +kernel
theorem dX12_talliesNow_109 : decode cX12_talliesNow 109 = .ok (.goto (-84), 3) := by decide +kernel
theorem dX12_talliesNow_112 : decode cX12_talliesNow 112 = .ok (.iload_n 1, 1) := by decide +kernel
theorem dX12_talliesNow_113 : decode cX12_talliesNow 113 = .ok (.ireturn, 1) := by decide +kernel
theorem dX12_fit_0 : decode cX12_fit 0 = .ok (.aload_n 0, 1) := by decide +kernel
theorem dX12_fit_1 : decode cX12_fit 1 = .ok (.iconst 0, 1) := by decide +kernel
theorem dX12_fit_2 : decode cX12_fit 2 = .ok (.putfield 1, 3) := by decide +kernel
theorem dX12_fit_5 : decode cX12_fit 5 = .ok (.aload_n 0, 1) := by decide +kernel
theorem dX12_fit_6 : decode cX12_fit 6 = .ok (.invokevirtual 363, 3) := by decide +kernel
theorem dX12_fit_9 : decode cX12_fit 9 = .ok (.ireturn, 1) := by decide +kernel
theorem dX12_look_0 : decode cX12_look 0 = .ok (.aload_n 0, 1) := by decide +kernel
theorem dX12_look_1 : decode cX12_look 1 = .ok (.iconst 0, 1) := by decide +kernel
theorem dX12_look_2 : decode cX12_look 2 = .ok (.putfield 1, 3) := by decide +kernel
theorem dX12_look_5 : decode cX12_look 5 = .ok (.aload_n 0, 1) := by decide +kernel
theorem dX12_look_6 : decode cX12_look 6 = .ok (.invokevirtual 363, 3) := by decide +kernel
theorem dX12_look_9 : decode cX12_look 9 = .ok (.istore_n 1, 1) := by decide +kernel
theorem dX12_look_10 : decode cX12_look 10 = .ok (.iconst (-1), 1) := by decide +kernel
theorem dX12_look_11 : decode cX12_look 11 = .ok (.istore_n 2, 1) := by decide +kernel
theorem dX12_look_12 : decode cX12_look 12 = .ok (.iconst 0, 1) := by decide +kernel
theorem dX12_look_13 : decode cX12_look 13 = .ok (.istore_n 3, 1) := by decide +kernel
theorem dX12_look_14 : decode cX12_look 14 = .ok (.iload_n 3, 1) := by decide +kernel
theorem dX12_look_15 : decode cX12_look 15 = .ok (.aload_n 0, 1) := by decide +kernel
theorem dX12_look_16 : decode cX12_look 16 = .ok (.invokevirtual 209, 3) := by decide +kernel
theorem dX12_look_19 : decode cX12_look 19 = .ok (.if_icmp .ge 89, 3) := by decide +kernel
theorem dX12_look_22 : decode cX12_look 22 = .ok (.iconst 0, 1) := by decide +kernel
theorem dX12_look_23 : decode cX12_look 23 = .ok (.istore 4, 2) := by decide +kernel
theorem dX12_look_25 : decode cX12_look 25 = .ok (.iconst 0, 1) := by decide +kernel
theorem dX12_look_26 : decode cX12_look 26 = .ok (.istore 5, 2) := by decide +kernel
theorem dX12_look_28 : decode cX12_look 28 = .ok (.iload 5, 2) := by decide +kernel
theorem dX12_look_30 : decode cX12_look 30 = .ok (.bipush 10, 2) := by decide +kernel
theorem dX12_look_32 : decode cX12_look 32 = .ok (.if_icmp .ge 45, 3) := by decide +kernel
theorem dX12_look_35 : decode cX12_look 35 = .ok (.aload_n 0, 1) := by decide +kernel
theorem dX12_look_36 : decode cX12_look 36 = .ok (.getfield 116, 3) := by decide +kernel
theorem dX12_look_39 : decode cX12_look 39 = .ok (.bipush 10, 2) := by decide +kernel
theorem dX12_look_41 : decode cX12_look 41 = .ok (.iload_n 3, 1) := by decide +kernel
theorem dX12_look_42 : decode cX12_look 42 = .ok (.imul, 1) := by decide +kernel
theorem dX12_look_43 : decode cX12_look 43 = .ok (.iload 5, 2) := by decide +kernel
theorem dX12_look_45 : decode cX12_look 45 = .ok (.iadd, 1) := by decide +kernel
theorem dX12_look_46 : decode cX12_look 46 = .ok (.iaload, 1) := by decide +kernel
theorem dX12_look_47 : decode cX12_look 47 = .ok (.iload 4, 2) := by decide +kernel
theorem dX12_look_49 : decode cX12_look 49 = .ok (.if_icmp .le 18, 3) := by decide +kernel
theorem dX12_look_52 : decode cX12_look 52 = .ok (.aload_n 0, 1) := by decide +kernel
theorem dX12_look_53 : decode cX12_look 53 = .ok (.getfield 116, 3) := by decide +kernel
theorem dX12_look_56 : decode cX12_look 56 = .ok (.bipush 10, 2) := by decide +kernel
theorem dX12_look_58 : decode cX12_look 58 = .ok (.iload_n 3, 1) := by decide +kernel
theorem dX12_look_59 : decode cX12_look 59 = .ok (.imul, 1) := by decide +kernel
theorem dX12_look_60 : decode cX12_look 60 = .ok (.iload 5, 2) := by decide +kernel
theorem dX12_look_62 : decode cX12_look 62 = .ok (.iadd, 1) := by decide +kernel
theorem dX12_look_63 : decode cX12_look 63 = .ok (.iaload, 1) := by decide +kernel
theorem dX12_look_64 : decode cX12_look 64 = .ok (.goto 5, 3) := by decide +kernel
theorem dX12_look_67 : decode cX12_look 67 = .ok (.iload 4, 2) := by decide +kernel
theorem dX12_look_69 : decode cX12_look 69 = .ok (.istore 4, 2) := by decide +kernel
theorem dX12_look_71 : decode cX12_look 71 = .ok (.iinc 5 1, 3) := by decide +kernel
theorem dX12_look_74 : decode cX12_look 74 = .ok (.goto (-46), 3) := by decide +kernel
theorem dX12_look_77 : decode cX12_look 77 = .ok (.iload 4, 2) := by decide +kernel
theorem dX12_look_79 : decode cX12_look 79 = .ok (.iload_n 1, 1) := by decide +kernel
theorem dX12_look_80 : decode cX12_look 80 = .ok (.if_icmp .ge 7, 3) := by decide +kernel
theorem dX12_look_83 : decode cX12_look 83 = .ok (.iload_n 3, 1) := by decide +kernel
theorem dX12_look_84 : decode cX12_look 84 = .ok (.goto 4, 3) := by decide +kernel
theorem dX12_look_87 : decode cX12_look 87 = .ok (.iload_n 2, 1) := by decide +kernel
theorem dX12_look_88 : decode cX12_look 88 = .ok (.istore_n 2, 1) := by decide +kernel
theorem dX12_look_89 : decode cX12_look 89 = .ok (.iload 4, 2) := by decide +kernel
theorem dX12_look_91 : decode cX12_look 91 = .ok (.iload_n 1, 1) := by decide +kernel
theorem dX12_look_92 : decode cX12_look 92 = .ok (.if_icmp .ge 8, 3) := by decide +kernel
theorem dX12_look_95 : decode cX12_look 95 = .ok (.iload 4, 2) := by decide +kernel
theorem dX12_look_97 : decode cX12_look 97 = .ok (.goto 4, 3) := by decide +kernel
theorem dX12_look_100 : decode cX12_look 100 = .ok (.iload_n 1, 1) := by decide +kernel
theorem dX12_look_101 : decode cX12_look 101 = .ok (.istore_n 1, 1) := by decide +kernel
theorem dX12_look_102 : decode cX12_look 102 = .ok (.iinc 3 1, 3) := by decide +kernel
theorem dX12_look_105 : decode cX12_look 105 = .ok (.goto (-91), 3) := by decide +kernel
theorem dX12_look_108 : decode cX12_look 108 = .ok (.iload_n 2, 1) := by decide +kernel
theorem dX12_look_109 : decode cX12_look 109 = .ok (.ireturn, 1) := by decide +kernel
theorem dX12_chance_0 : decode cX12_chance 0 = .ok (.aload_n 0, 1) := by decide +kernel
theorem dX12_chance_1 : decode cX12_chance 1 = .ok (.iconst 0, 1) := by decide +kernel
theorem dX12_chance_2 : decode cX12_chance 2 = .ok (.putfield 1, 3) := by decide +kernel
theorem dX12_chance_5 : decode cX12_chance 5 = .ok (.iload_n 1, 1) := by decide +kernel
theorem dX12_chance_6 : decode cX12_chance 6 = .ok (.iconst 1, 1) := by decide +kernel
theorem dX12_chance_7 : decode cX12_chance 7 = .ok (.bipush 6, 2) := by decide +kernel
theorem dX12_chance_9 : decode cX12_chance 9 = .ok (.invokestatic 270, 3) := by decide +kernel
theorem dX12_chance_12 : decode cX12_chance 12 = .ok (.ifCond .eq 10, 3) := by decide +kernel
theorem dX12_chance_15 : decode cX12_chance 15 = .ok (.aload_n 0, 1) := by decide +kernel
theorem dX12_chance_16 : decode cX12_chance 16 = .ok (.invokevirtual 209, 3) := by decide +kernel
theorem dX12_chance_19 : decode cX12_chance 19 = .ok (.ifCond .ne 5, 3) := by decide +kernel
theorem dX12_chance_22 : decode cX12_chance 22 = .ok (.iconst (-1), 1) := by decide +kernel
theorem dX12_chance_23 : decode cX12_chance 23 = .ok (.ireturn, 1) := by decide +kernel
theorem dX12_chance_24 : decode cX12_chance 24 = .ok (.iconst 1, 1) := by decide +kernel
theorem dX12_chance_25 : decode cX12_chance 25 = .ok (.istore_n 3, 1) := by decide +kernel
theorem dX12_chance_26 : decode cX12_chance 26 = .ok (.iconst 0, 1) := by decide +kernel
theorem dX12_chance_27 : decode cX12_chance 27 = .ok (.istore 4, 2) := by decide +kernel
theorem dX12_chance_29 : decode cX12_chance 29 = .ok (.iload 4, 2) := by decide +kernel
theorem dX12_chance_31 : decode cX12_chance 31 = .ok (.iload_n 1, 1) := by decide +kernel
theorem dX12_chance_32 : decode cX12_chance 32 = .ok (.if_icmp .ge 16, 3) := by decide +kernel
theorem dX12_chance_35 : decode cX12_chance 35 = .ok (.iload_n 3, 1) := by decide +kernel
theorem dX12_chance_36 : decode cX12_chance 36 = .ok (.aload_n 0, 1) := by decide +kernel
theorem dX12_chance_37 : decode cX12_chance 37 = .ok (.invokevirtual 209, 3) := by decide +kernel
theorem dX12_chance_40 : decode cX12_chance 40 = .ok (.imul, 1) := by decide +kernel
theorem dX12_chance_41 : decode cX12_chance 41 = .ok (.istore_n 3, 1) := by decide +kernel
theorem dX12_chance_42 : decode cX12_chance 42 = .ok (.iinc 4 1, 3) := by decide +kernel
theorem dX12_chance_45 : decode cX12_chance 45 = .ok (.goto (-16), 3) := by decide +kernel
theorem dX12_chance_48 : decode cX12_chance 48 = .ok (.lconst 0, 1) := by decide +kernel
theorem dX12_chance_49 : decode cX12_chance 49 = .ok (.lstore 4, 2) := by decide +kernel
theorem dX12_chance_51 : decode cX12_chance 51 = .ok (.iconst 0, 1) := by decide +kernel
theorem dX12_chance_52 : decode cX12_chance 52 = .ok (.istore 6, 2) := by decide +kernel
theorem dX12_chance_54 : decode cX12_chance 54 = .ok (.iload 6, 2) := by decide +kernel
theorem dX12_chance_56 : decode cX12_chance 56 = .ok (.iload_n 3, 1) := by decide +kernel
theorem dX12_chance_57 : decode cX12_chance 57 = .ok (.if_icmp .ge 132, 3) := by decide +kernel
theorem dX12_chance_60 : decode cX12_chance 60 = .ok (.aload_n 0, 1) := by decide +kernel
theorem dX12_chance_61 : decode cX12_chance 61 = .ok (.aload_n 0, 1) := by decide +kernel
theorem dX12_chance_62 : decode cX12_chance 62 = .ok (.getfield 94, 3) := by decide +kernel
theorem dX12_chance_65 : decode cX12_chance 65 = .ok (.iconst 0, 1) := by decide +kernel
theorem dX12_chance_66 : decode cX12_chance 66 = .ok (.iaload, 1) := by decide +kernel
theorem dX12_chance_67 : decode cX12_chance 67 = .ok (.invokevirtual 274, 3) := by decide +kernel
theorem dX12_chance_70 : decode cX12_chance 70 = .ok (.aload_n 0, 1) := by decide +kernel
theorem dX12_chance_71 : decode cX12_chance 71 = .ok (.invokevirtual 289, 3) := by decide +kernel
theorem dX12_chance_74 : decode cX12_chance 74 = .ok (.istore 7, 2) := by decide +kernel
theorem dX12_chance_76 : decode cX12_chance 76 = .ok (.iload 6, 2) := by decide +kernel
theorem dX12_chance_78 : decode cX12_chance 78 = .ok (.istore 8, 2) := by decide +kernel
theorem dX12_chance_80 : decode cX12_chance 80 = .ok (.iconst 0, 1) := by decide +kernel
theorem dX12_chance_81 : decode cX12_chance 81 = .ok (.istore 9, 2) := by decide +kernel
theorem dX12_chance_83 : decode cX12_chance 83 = .ok (.iload 9, 2) := by decide +kernel
theorem dX12_chance_85 : decode cX12_chance 85 = .ok (.iload_n 1, 1) := by decide +kernel
theorem dX12_chance_86 : decode cX12_chance 86 = .ok (.if_icmp .ge 63, 3) := by decide +kernel
theorem dX12_chance_89 : decode cX12_chance 89 = .ok (.iload 8, 2) := by decide +kernel
theorem dX12_chance_91 : decode cX12_chance 91 = .ok (.aload_n 0, 1) := by decide +kernel
theorem dX12_chance_92 : decode cX12_chance 92 = .ok (.invokevirtual 209, 3) := by decide +kernel
theorem dX12_chance_95 : decode cX12_chance 95 = .ok (.irem, 1) := by decide +kernel
theorem dX12_chance_96 : decode cX12_chance 96 = .ok (.iconst 1, 1) := by decide +kernel
theorem dX12_chance_97 : decode cX12_chance 97 = .ok (.iadd, 1) := by decide +kernel
theorem dX12_chance_98 : decode cX12_chance 98 = .ok (.istore 10, 2) := by decide +kernel
theorem dX12_chance_100 : decode cX12_chance 100 = .ok (.iload 8, 2) := by decide +kernel
theorem dX12_chance_102 : decode cX12_chance 102 = .ok (.aload_n 0, 1) := by decide +kernel
theorem dX12_chance_103 : decode cX12_chance 103 = .ok (.invokevirtual 209, 3) := by decide +kernel
theorem dX12_chance_106 : decode cX12_chance 106 = .ok (.idiv, 1) := by decide +kernel
theorem dX12_chance_107 : decode cX12_chance 107 = .ok (.istore 8, 2) := by decide +kernel
theorem dX12_chance_109 : decode cX12_chance 109 = .ok (.aload_n 0, 1) := by decide +kernel
theorem dX12_chance_110 : decode cX12_chance 110 = .ok (.iload 10, 2) := by decide +kernel
theorem dX12_chance_112 : decode cX12_chance 112 = .ok (.invokevirtual 277, 3) := by decide +kernel
theorem dX12_chance_115 : decode cX12_chance 115 = .ok (.ifCond .eq 9, 3) := by decide +kernel
theorem dX12_chance_118 : decode cX12_chance 118 = .ok (.aload_n 0, 1) := by decide +kernel
theorem dX12_chance_119 : decode cX12_chance 119 = .ok (.iload 10, 2) := by decide +kernel
theorem dX12_chance_121 : decode cX12_chance 121 = .ok (.invokevirtual 286, 3) := by decide +kernel
theorem dX12_chance_124 : decode cX12_chance 124 = .ok (.iload 7, 2) := by decide +kernel
theorem dX12_chance_126 : decode cX12_chance 126 = .ok (.ifCond .ne 10, 3) := by decide +kernel
theorem dX12_chance_129 : decode cX12_chance 129 = .ok (.aload_n 0, 1) := by decide +kernel
theorem dX12_chance_130 : decode cX12_chance 130 = .ok (.invokevirtual 289, 3) := by decide +kernel
theorem dX12_chance_133 : decode cX12_chance 133 = .ok (.ifCond .eq 7, 3) := by decide +kernel
theorem dX12_chance_136 : decode cX12_chance 136 = .ok (.iconst 1, 1) := by decide +kernel
theorem dX12_chance_137 : decode cX12_chance 137 = .ok (.goto 4, 3) := by decide +kernel
theorem dX12_chance_140 : decode cX12_chance 140 = .ok (.iconst 0, 1) := by decide +kernel
theorem dX12_chance_141 : decode cX12_chance 141 = .ok (.istore 7, 2) := by decide +kernel
theorem dX12_chance_143 : decode cX12_chance 143 = .ok (.iinc 9 1, 3) := by decide +kernel
theorem dX12_chance_146 : decode cX12_chance 146 = .ok (.goto (-63), 3) := by decide +kernel
theorem dX12_chance_149 : decode cX12_chance 149 = .ok (.lload 4, 2) := by decide +kernel
theorem dX12_chance_151 : decode cX12_chance 151 = .ok (.iload_n 2, 1) := by decide +kernel
theorem dX12_chance_152 : decode cX12_chance 152 = .ok (.ifCond .eq 16, 3) := by decide +kernel
theorem dX12_chance_155 : decode cX12_chance 155 = .ok (.iload 7, 2) := by decide +kernel
theorem dX12_chance_157 : decode cX12_chance 157 = .ok (.ifCond .eq 7, 3) := by decide +kernel
theorem dX12_chance_160 : decode cX12_chance 160 = .ok (.lconst 1, 1) := by decide +kernel
theorem dX12_chance_161 : decode cX12_chance 161 = .ok (.goto 19, 3) := by decide +kernel
theorem dX12_chance_164 : decode cX12_chance 164 = .ok (.lconst 0, 1) := by decide +kernel
theorem dX12_chance_165 : decode cX12_chance 165 = .ok (.goto 15, 3) := by decide +kernel
theorem dX12_chance_168 : decode cX12_chance 168 = .ok (.aload_n 0, 1) := by decide +kernel
theorem dX12_chance_169 : decode cX12_chance 169 = .ok (.invokevirtual 289, 3) := by decide +kernel
theorem dX12_chance_172 : decode cX12_chance 172 = .ok (.ifCond .eq 7, 3) := by decide +kernel
theorem dX12_chance_175 : decode cX12_chance 175 = .ok (.lconst 1, 1) := by decide +kernel
theorem dX12_chance_176 : decode cX12_chance 176 = .ok (.goto 4, 3) := by decide +kernel
theorem dX12_chance_179 : decode cX12_chance 179 = .ok (.lconst 0, 1) := by decide +kernel
theorem dX12_chance_180 : decode cX12_chance 180 = .ok (.ladd, 1) := by decide +kernel
theorem dX12_chance_181 : decode cX12_chance 181 = .ok (.lstore 4, 2) := by decide +kernel
theorem dX12_chance_183 : decode cX12_chance 183 = .ok (.iinc 6 1, 3) := by decide +kernel
theorem dX12_chance_186 : decode cX12_chance 186 = .ok (.goto (-132), 3) := by decide +kernel
theorem dX12_chance_189 : decode cX12_chance 189 = .ok (.lload 4, 2) := by decide +kernel
theorem dX12_chance_191 : decode cX12_chance 191 = .ok (.ldc2_w 366, 3) := by decide +kernel
theorem dX12_chance_194 : decode cX12_chance 194 = .ok (.lmul, 1) := by decide +kernel
theorem dX12_chance_195 : decode cX12_chance 195 = .ok (.iload_n 3, 1) := by decide +kernel
theorem dX12_chance_196 : decode cX12_chance 196 = .ok (.i2l, 1) := by decide +kernel
theorem dX12_chance_197 : decode cX12_chance 197 = .ok (.ldiv, 1) := by decide +kernel
theorem dX12_chance_198 : decode cX12_chance 198 = .ok (.l2i, 1) := by decide +kernel
theorem dX12_chance_199 : decode cX12_chance 199 = .ok (.ireturn, 1) := by decide +kernel
theorem dX12_getsBy_0 : decode cX12_getsBy 0 = .ok (.iload_n 0, 1) := by decide +kernel
theorem dX12_getsBy_1 : decode cX12_getsBy 1 = .ok (.iconst 1, 1) := by decide +kernel
theorem dX12_getsBy_2 : decode cX12_getsBy 2 = .ok (.if_icmp .ne 17, 3) := by decide +kernel
theorem dX12_getsBy_5 : decode cX12_getsBy 5 = .ok (.iload_n 1, 1) := by decide +kernel
theorem dX12_getsBy_6 : decode cX12_getsBy 6 = .ok (.iconst 1, 1) := by decide +kernel
theorem dX12_getsBy_7 : decode cX12_getsBy 7 = .ok (.if_icmp .ne 8, 3) := by decide +kernel
theorem dX12_getsBy_10 : decode cX12_getsBy 10 = .ok (.iload_n 2, 1) := by decide +kernel
theorem dX12_getsBy_11 : decode cX12_getsBy 11 = .ok (.ineg, 1) := by decide +kernel
theorem dX12_getsBy_12 : decode cX12_getsBy 12 = .ok (.goto 18, 3) := by decide +kernel
theorem dX12_getsBy_15 : decode cX12_getsBy 15 = .ok (.iload_n 3, 1) := by decide +kernel
theorem dX12_getsBy_16 : decode cX12_getsBy 16 = .ok (.goto 14, 3) := by decide +kernel
theorem dX12_getsBy_19 : decode cX12_getsBy 19 = .ok (.iload_n 1, 1) := by decide +kernel
theorem dX12_getsBy_20 : decode cX12_getsBy 20 = .ok (.iconst 1, 1) := by decide +kernel
theorem dX12_getsBy_21 : decode cX12_getsBy 21 = .ok (.if_icmp .ne 8, 3) := by decide +kernel
theorem dX12_getsBy_24 : decode cX12_getsBy 24 = .ok (.iload 4, 2) := by decide +kernel
theorem dX12_getsBy_26 : decode cX12_getsBy 26 = .ok (.goto 4, 3) := by decide +kernel
theorem dX12_getsBy_29 : decode cX12_getsBy 29 = .ok (.iconst 0, 1) := by decide +kernel
theorem dX12_getsBy_30 : decode cX12_getsBy 30 = .ok (.ireturn, 1) := by decide +kernel
theorem dX12_rests_0 : decode cX12_rests 0 = .ok (.iload_n 1, 1) := by decide +kernel
theorem dX12_rests_1 : decode cX12_rests 1 = .ok (.iconst 0, 1) := by decide +kernel
theorem dX12_rests_2 : decode cX12_rests 2 = .ok (.bipush 9, 2) := by decide +kernel
theorem dX12_rests_4 : decode cX12_rests 4 = .ok (.invokestatic 270, 3) := by decide +kernel
theorem dX12_rests_7 : decode cX12_rests 7 = .ok (.ifCond .eq 33, 3) := by decide +kernel
theorem dX12_rests_10 : decode cX12_rests 10 = .ok (.iload_n 2, 1) := by decide +kernel
theorem dX12_rests_11 : decode cX12_rests 11 = .ok (.iconst 0, 1) := by decide +kernel
theorem dX12_rests_12 : decode cX12_rests 12 = .ok (.bipush 9, 2) := by decide +kernel
theorem dX12_rests_14 : decode cX12_rests 14 = .ok (.invokestatic 270, 3) := by decide +kernel
theorem dX12_rests_17 : decode cX12_rests 17 = .ok (.ifCond .eq 23, 3) := by decide +kernel
theorem dX12_rests_20 : decode cX12_rests 20 = .ok (.iload_n 3, 1) := by decide +kernel
theorem dX12_rests_21 : decode cX12_rests 21 = .ok (.iconst 0, 1) := by decide +kernel
theorem dX12_rests_22 : decode cX12_rests 22 = .ok (.bipush 9, 2) := by decide +kernel
theorem dX12_rests_24 : decode cX12_rests 24 = .ok (.invokestatic 270, 3) := by decide +kernel
theorem dX12_rests_27 : decode cX12_rests 27 = .ok (.ifCond .eq 13, 3) := by decide +kernel
theorem dX12_rests_30 : decode cX12_rests 30 = .ok (.iload 4, 2) := by decide +kernel
theorem dX12_rests_32 : decode cX12_rests 32 = .ok (.iconst (-1), 1) := by decide +kernel
theorem dX12_rests_33 : decode cX12_rests 33 = .ok (.if_icmp .lt 7, 3) := by decide +kernel
theorem dX12_rests_36 : decode cX12_rests 36 = .ok (.iconst 1, 1) := by decide +kernel
theorem dX12_rests_37 : decode cX12_rests 37 = .ok (.goto 4, 3) := by decide +kernel
theorem dX12_rests_40 : decode cX12_rests 40 = .ok (.iconst 0, 1) := by decide +kernel
theorem dX12_rests_41 : decode cX12_rests 41 = .ok (.istore 5, 2) := by decide +kernel
theorem dX12_rests_43 : decode cX12_rests 43 = .ok (.iconst 0, 1) := by decide +kernel
theorem dX12_rests_44 : decode cX12_rests 44 = .ok (.istore 6, 2) := by decide +kernel
theorem dX12_rests_46 : decode cX12_rests 46 = .ok (.iconst (-1), 1) := by decide +kernel
theorem dX12_rests_47 : decode cX12_rests 47 = .ok (.istore 7, 2) := by decide +kernel
theorem dX12_rests_49 : decode cX12_rests 49 = .ok (.iconst 0, 1) := by decide +kernel
theorem dX12_rests_50 : decode cX12_rests 50 = .ok (.istore 8, 2) := by decide +kernel
theorem dX12_rests_52 : decode cX12_rests 52 = .ok (.iload 8, 2) := by decide +kernel
theorem dX12_rests_54 : decode cX12_rests 54 = .ok (.iconst 4, 1) := by decide +kernel
theorem dX12_rests_55 : decode cX12_rests 55 = .ok (.if_icmp .ge 119, 3) := by decide +kernel
theorem dX12_rests_58 : decode cX12_rests 58 = .ok (.iload 5, 2) := by decide +kernel
theorem dX12_rests_60 : decode cX12_rests 60 = .ok (.ifCond .eq 114, 3) := by decide +kernel
theorem dX12_rests_63 : decode cX12_rests 63 = .ok (.iload 8, 2) := by decide +kernel
theorem dX12_rests_65 : decode cX12_rests 65 = .ok (.iconst 2, 1) := by decide +kernel
theorem dX12_rests_66 : decode cX12_rests 66 = .ok (.idiv, 1) := by decide +kernel
theorem dX12_rests_67 : decode cX12_rests 67 = .ok (.istore 9, 2) := by decide +kernel
theorem dX12_rests_69 : decode cX12_rests 69 = .ok (.iload 8, 2) := by decide +kernel
theorem dX12_rests_71 : decode cX12_rests 71 = .ok (.iconst 2, 1) := by decide +kernel
theorem dX12_rests_72 : decode cX12_rests 72 = .ok (.irem, 1) := by decide +kernel
theorem dX12_rests_73 : decode cX12_rests 73 = .ok (.istore 10, 2) := by decide +kernel
theorem dX12_rests_75 : decode cX12_rests 75 = .ok (.iconst 1, 1) := by decide +kernel
theorem dX12_rests_76 : decode cX12_rests 76 = .ok (.iload 9, 2) := by decide +kernel
theorem dX12_rests_78 : decode cX12_rests 78 = .ok (.isub, 1) := by decide +kernel
theorem dX12_rests_79 : decode cX12_rests 79 = .ok (.iload 10, 2) := by decide +kernel
theorem dX12_rests_81 : decode cX12_rests 81 = .ok (.iload_n 1, 1) := by decide +kernel
theorem dX12_rests_82 : decode cX12_rests 82 = .ok (.iload_n 2, 1) := by decide +kernel
theorem dX12_rests_83 : decode cX12_rests 83 = .ok (.iload_n 3, 1) := by decide +kernel
theorem dX12_rests_84 : decode cX12_rests 84 = .ok (.invokestatic 368, 3) := by decide +kernel
theorem dX12_rests_87 : decode cX12_rests 87 = .ok (.iload 9, 2) := by decide +kernel
theorem dX12_rests_89 : decode cX12_rests 89 = .ok (.iload 10, 2) := by decide +kernel
theorem dX12_rests_91 : decode cX12_rests 91 = .ok (.iload_n 1, 1) := by decide +kernel
theorem dX12_rests_92 : decode cX12_rests 92 = .ok (.iload_n 2, 1) := by decide +kernel
theorem dX12_rests_93 : decode cX12_rests 93 = .ok (.iload_n 3, 1) := by decide +kernel
theorem dX12_rests_94 : decode cX12_rests 94 = .ok (.invokestatic 368, 3) := by decide +kernel
theorem dX12_rests_97 : decode cX12_rests 97 = .ok (.if_icmp .gt 32, 3) := by decide +kernel
theorem dX12_rests_100 : decode cX12_rests 100 = .ok (.iconst 1, 1) := by decide +kernel
theorem dX12_rests_101 : decode cX12_rests 101 = .ok (.iload 10, 2) := by decide +kernel
theorem dX12_rests_103 : decode cX12_rests 103 = .ok (.isub, 1) := by decide +kernel
theorem dX12_rests_104 : decode cX12_rests 104 = .ok (.iload 9, 2) := by decide +kernel
theorem dX12_rests_106 : decode cX12_rests 106 = .ok (.iload_n 1, 1) := by decide +kernel
theorem dX12_rests_107 : decode cX12_rests 107 = .ok (.iload_n 2, 1) := by decide +kernel
theorem dX12_rests_108 : decode cX12_rests 108 = .ok (.iload_n 3, 1) := by decide +kernel
theorem dX12_rests_109 : decode cX12_rests 109 = .ok (.invokestatic 368, 3) := by decide +kernel
theorem dX12_rests_112 : decode cX12_rests 112 = .ok (.iload 10, 2) := by decide +kernel
theorem dX12_rests_114 : decode cX12_rests 114 = .ok (.iload 9, 2) := by decide +kernel
theorem dX12_rests_116 : decode cX12_rests 116 = .ok (.iload_n 1, 1) := by decide +kernel
theorem dX12_rests_117 : decode cX12_rests 117 = .ok (.iload_n 2, 1) := by decide +kernel
theorem dX12_rests_118 : decode cX12_rests 118 = .ok (.iload_n 3, 1) := by decide +kernel
theorem dX12_rests_119 : decode cX12_rests 119 = .ok (.invokestatic 368, 3) := by decide +kernel
theorem dX12_rests_122 : decode cX12_rests 122 = .ok (.if_icmp .gt 7, 3) := by decide +kernel
theorem dX12_rests_125 : decode cX12_rests 125 = .ok (.iconst 1, 1) := by decide +kernel
theorem dX12_rests_126 : decode cX12_rests 126 = .ok (.goto 4, 3) := by decide +kernel
theorem dX12_rests_129 : decode cX12_rests 129 = .ok (.iconst 0, 1) := by decide +kernel
theorem dX12_rests_130 : decode cX12_rests 130 = .ok (.istore 11, 2) := by decide +kernel
theorem dX12_rests_132 : decode cX12_rests 132 = .ok (.iload 11, 2) := by decide +kernel
theorem dX12_rests_134 : decode cX12_rests 134 = .ok (.ifCond .eq 15, 3) := by decide +kernel
theorem dX12_rests_137 : decode cX12_rests 137 = .ok (.iload 6, 2) := by decide +kernel
theorem dX12_rests_139 : decode cX12_rests 139 = .ok (.iload 4, 2) := by decide +kernel
theorem dX12_rests_141 : decode cX12_rests 141 = .ok (.if_icmp .ne 8, 3) := by decide +kernel
theorem dX12_rests_144 : decode cX12_rests 144 = .ok (.iload 8, 2) := by decide +kernel
theorem dX12_rests_146 : decode cX12_rests 146 = .ok (.goto 5, 3) := by decide +kernel
theorem dX12_rests_149 : decode cX12_rests 149 = .ok (.iload 7, 2) := by decide +kernel
theorem dX12_rests_151 : decode cX12_rests 151 = .ok (.istore 7, 2) := by decide +kernel
theorem dX12_rests_153 : decode cX12_rests 153 = .ok (.iload 6, 2) := by decide +kernel
theorem dX12_rests_155 : decode cX12_rests 155 = .ok (.iload 11, 2) := by decide +kernel
theorem dX12_rests_157 : decode cX12_rests 157 = .ok (.ifCond .eq 7, 3) := by decide +kernel
theorem dX12_rests_160 : decode cX12_rests 160 = .ok (.iconst 1, 1) := by decide +kernel
theorem dX12_rests_161 : decode cX12_rests 161 = .ok (.goto 4, 3) := by decide +kernel
theorem dX12_rests_164 : decode cX12_rests 164 = .ok (.iconst 0, 1) := by decide +kernel
theorem dX12_rests_165 : decode cX12_rests 165 = .ok (.iadd, 1) := by decide +kernel
theorem dX12_rests_166 : decode cX12_rests 166 = .ok (.istore 6, 2) := by decide +kernel
theorem dX12_rests_168 : decode cX12_rests 168 = .ok (.iinc 8 1, 3) := by decide +kernel
theorem dX12_rests_171 : decode cX12_rests 171 = .ok (.goto (-119), 3) := by decide +kernel
theorem dX12_rests_174 : decode cX12_rests 174 = .ok (.aload_n 0, 1) := by decide +kernel
theorem dX12_rests_175 : decode cX12_rests 175 = .ok (.iload 5, 2) := by decide +kernel
theorem dX12_rests_177 : decode cX12_rests 177 = .ok (.ifCond .eq 17, 3) := by decide +kernel
theorem dX12_rests_180 : decode cX12_rests 180 = .ok (.iload 4, 2) := by decide +kernel
theorem dX12_rests_182 : decode cX12_rests 182 = .ok (.ifCond .lt 8, 3) := by decide +kernel
theorem dX12_rests_185 : decode cX12_rests 185 = .ok (.iload 7, 2) := by decide +kernel
theorem dX12_rests_187 : decode cX12_rests 187 = .ok (.ifCond .lt 7, 3) := by decide +kernel
theorem dX12_rests_190 : decode cX12_rests 190 = .ok (.iconst 0, 1) := by decide +kernel
theorem dX12_rests_191 : decode cX12_rests 191 = .ok (.goto 4, 3) := by decide +kernel
theorem dX12_rests_194 : decode cX12_rests 194 = .ok (.iconst 1, 1) := by decide +kernel
theorem dX12_rests_195 : decode cX12_rests 195 = .ok (.putfield 1, 3) := by decide +kernel
theorem dX12_rests_198 : decode cX12_rests 198 = .ok (.aload_n 0, 1) := by decide +kernel
theorem dX12_rests_199 : decode cX12_rests 199 = .ok (.getfield 1, 3) := by decide +kernel
theorem dX12_rests_202 : decode cX12_rests 202 = .ok (.ifCond .le 7, 3) := by decide +kernel
theorem dX12_rests_205 : decode cX12_rests 205 = .ok (.iconst 0, 1) := by decide +kernel
theorem dX12_rests_206 : decode cX12_rests 206 = .ok (.goto 15, 3) := by decide +kernel
theorem dX12_rests_209 : decode cX12_rests 209 = .ok (.iload 4, 2) := by decide +kernel
theorem dX12_rests_211 : decode cX12_rests 211 = .ok (.ifCond .ge 8, 3) := by decide +kernel
theorem dX12_rests_214 : decode cX12_rests 214 = .ok (.iload 6, 2) := by decide +kernel
theorem dX12_rests_216 : decode cX12_rests 216 = .ok (.goto 5, 3) := by decide +kernel
theorem dX12_rests_219 : decode cX12_rests 219 = .ok (.iload 7, 2) := by decide +kernel
theorem dX12_rests_221 : decode cX12_rests 221 = .ok (.ireturn, 1) := by decide +kernel
theorem dX12_draw_0 : decode cX12_draw 0 = .ok (.aload_n 0, 1) := by decide +kernel
theorem dX12_draw_1 : decode cX12_draw 1 = .ok (.aload_n 0, 1) := by decide +kernel
theorem dX12_draw_2 : decode cX12_draw 2 = .ok (.getfield 372, 3) := by decide +kernel
theorem dX12_draw_5 : decode cX12_draw 5 = .ok (.ldc2_w 376, 3) := by decide +kernel
theorem dX12_draw_8 : decode cX12_draw 8 = .ok (.lmul, 1) := by decide +kernel
theorem dX12_draw_9 : decode cX12_draw 9 = .ok (.ldc2_w 378, 3) := by decide +kernel
theorem dX12_draw_12 : decode cX12_draw 12 = .ok (.ladd, 1) := by decide +kernel
theorem dX12_draw_13 : decode cX12_draw 13 = .ok (.ldc2_w 380, 3) := by decide +kernel
theorem dX12_draw_16 : decode cX12_draw 16 = .ok (.lrem, 1) := by decide +kernel
theorem dX12_draw_17 : decode cX12_draw 17 = .ok (.putfield 372, 3) := by decide +kernel
theorem dX12_draw_20 : decode cX12_draw 20 = .ok (.aload_n 0, 1) := by decide +kernel
theorem dX12_draw_21 : decode cX12_draw 21 = .ok (.getfield 372, 3) := by decide +kernel
theorem dX12_draw_24 : decode cX12_draw 24 = .ok (.ldc2_w 382, 3) := by decide +kernel
theorem dX12_draw_27 : decode cX12_draw 27 = .ok (.ldiv, 1) := by decide +kernel
theorem dX12_draw_28 : decode cX12_draw 28 = .ok (.iload_n 1, 1) := by decide +kernel
theorem dX12_draw_29 : decode cX12_draw 29 = .ok (.i2l, 1) := by decide +kernel
theorem dX12_draw_30 : decode cX12_draw 30 = .ok (.lrem, 1) := by decide +kernel
theorem dX12_draw_31 : decode cX12_draw 31 = .ok (.l2i, 1) := by decide +kernel
theorem dX12_draw_32 : decode cX12_draw 32 = .ok (.ireturn, 1) := by decide +kernel
theorem dX12_mornings_0 : decode cX12_mornings 0 = .ok (.aload_n 0, 1) := by decide +kernel
theorem dX12_mornings_1 : decode cX12_mornings 1 = .ok (.iconst 0, 1) := by decide +kernel
theorem dX12_mornings_2 : decode cX12_mornings 2 = .ok (.putfield 1, 3) := by decide +kernel
theorem dX12_mornings_5 : decode cX12_mornings 5 = .ok (.iload_n 1, 1) := by decide +kernel
theorem dX12_mornings_6 : decode cX12_mornings 6 = .ok (.iconst 0, 1) := by decide +kernel
theorem dX12_mornings_7 : decode cX12_mornings 7 = .ok (.sipush 9999, 3) := by decide +kernel
theorem dX12_mornings_10 : decode cX12_mornings 10 = .ok (.invokestatic 270, 3) := by decide +kernel
theorem dX12_mornings_13 : decode cX12_mornings 13 = .ok (.ifCond .eq 22, 3) := by decide +kernel
theorem dX12_mornings_16 : decode cX12_mornings 16 = .ok (.iload_n 2, 1) := by decide +kernel
theorem dX12_mornings_17 : decode cX12_mornings 17 = .ok (.iconst 1, 1) := by decide +kernel
theorem dX12_mornings_18 : decode cX12_mornings 18 = .ok (.bipush 99, 2) := by decide +kernel
theorem dX12_mornings_20 : decode cX12_mornings 20 = .ok (.invokestatic 270, 3) := by decide +kernel
theorem dX12_mornings_23 : decode cX12_mornings 23 = .ok (.ifCond .eq 12, 3) := by decide +kernel
theorem dX12_mornings_26 : decode cX12_mornings 26 = .ok (.iload_n 3, 1) := by decide +kernel
theorem dX12_mornings_27 : decode cX12_mornings 27 = .ok (.iconst 0, 1) := by decide +kernel
theorem dX12_mornings_28 : decode cX12_mornings 28 = .ok (.iconst 2, 1) := by decide +kernel
theorem dX12_mornings_29 : decode cX12_mornings 29 = .ok (.invokestatic 270, 3) := by decide +kernel
theorem dX12_mornings_32 : decode cX12_mornings 32 = .ok (.ifCond .ne 6, 3) := by decide +kernel
theorem dX12_mornings_35 : decode cX12_mornings 35 = .ok (.bipush (-2), 2) := by decide +kernel
theorem dX12_mornings_37 : decode cX12_mornings 37 = .ok (.ireturn, 1) := by decide +kernel
theorem dX12_mornings_38 : decode cX12_mornings 38 = .ok (.aload_n 0, 1) := by decide +kernel
theorem dX12_mornings_39 : decode cX12_mornings 39 = .ok (.aload_n 0, 1) := by decide +kernel
theorem dX12_mornings_40 : decode cX12_mornings 40 = .ok (.getfield 94, 3) := by decide +kernel
theorem dX12_mornings_43 : decode cX12_mornings 43 = .ok (.iconst 0, 1) := by decide +kernel
theorem dX12_mornings_44 : decode cX12_mornings 44 = .ok (.iaload, 1) := by decide +kernel
theorem dX12_mornings_45 : decode cX12_mornings 45 = .ok (.invokevirtual 274, 3) := by decide +kernel
theorem dX12_mornings_48 : decode cX12_mornings 48 = .ok (.aload_n 0, 1) := by decide +kernel
theorem dX12_mornings_49 : decode cX12_mornings 49 = .ok (.iload_n 1, 1) := by decide +kernel
theorem dX12_mornings_50 : decode cX12_mornings 50 = .ok (.i2l, 1) := by decide +kernel
theorem dX12_mornings_51 : decode cX12_mornings 51 = .ok (.putfield 372, 3) := by decide +kernel
theorem dX12_mornings_54 : decode cX12_mornings 54 = .ok (.iconst 0, 1) := by decide +kernel
theorem dX12_mornings_55 : decode cX12_mornings 55 = .ok (.istore 4, 2) := by decide +kernel
theorem dX12_mornings_57 : decode cX12_mornings 57 = .ok (.iconst 0, 1) := by decide +kernel
theorem dX12_mornings_58 : decode cX12_mornings 58 = .ok (.istore 5, 2) := by decide +kernel
theorem dX12_mornings_60 : decode cX12_mornings 60 = .ok (.aload_n 0, 1) := by decide +kernel
theorem dX12_mornings_61 : decode cX12_mornings 61 = .ok (.invokevirtual 289, 3) := by decide +kernel
theorem dX12_mornings_64 : decode cX12_mornings 64 = .ok (.ifCond .eq 7, 3) := by decide +kernel
theorem dX12_mornings_67 : decode cX12_mornings 67 = .ok (.iconst 0, 1) := by decide +kernel
theorem dX12_mornings_68 : decode cX12_mornings 68 = .ok (.goto 4, 3) := by decide +kernel
theorem dX12_mornings_71 : decode cX12_mornings 71 = .ok (.iconst (-1), 1) := by decide +kernel
theorem dX12_mornings_72 : decode cX12_mornings 72 = .ok (.istore 6, 2) := by decide +kernel
theorem dX12_mornings_74 : decode cX12_mornings 74 = .ok (.iconst 1, 1) := by decide +kernel
theorem dX12_mornings_75 : decode cX12_mornings 75 = .ok (.istore 7, 2) := by decide +kernel
theorem dX12_mornings_77 : decode cX12_mornings 77 = .ok (.iload 7, 2) := by decide +kernel
theorem dX12_mornings_79 : decode cX12_mornings 79 = .ok (.iload_n 2, 1) := by decide +kernel
theorem dX12_mornings_80 : decode cX12_mornings 80 = .ok (.if_icmp .gt 78, 3) := by decide +kernel
theorem dX12_mornings_83 : decode cX12_mornings 83 = .ok (.aload_n 0, 1) := by decide +kernel
theorem dX12_mornings_84 : decode cX12_mornings 84 = .ok (.invokevirtual 209, 3) := by decide +kernel
theorem dX12_mornings_87 : decode cX12_mornings 87 = .ok (.ifCond .le 71, 3) := by decide +kernel
theorem dX12_mornings_90 : decode cX12_mornings 90 = .ok (.aload_n 0, 1) := by decide +kernel
theorem dX12_mornings_91 : decode cX12_mornings 91 = .ok (.aload_n 0, 1) := by decide +kernel
theorem dX12_mornings_92 : decode cX12_mornings 92 = .ok (.invokevirtual 209, 3) := by decide +kernel
theorem dX12_mornings_95 : decode cX12_mornings 95 = .ok (.invokevirtual 384, 3) := by decide +kernel
theorem dX12_mornings_98 : decode cX12_mornings 98 = .ok (.iconst 1, 1) := by decide +kernel
theorem dX12_mornings_99 : decode cX12_mornings 99 = .ok (.iadd, 1) := by decide +kernel
theorem dX12_mornings_100 : decode cX12_mornings 100 = .ok (.istore 8, 2) := by decide +kernel
theorem dX12_mornings_102 : decode cX12_mornings 102 = .ok (.aload_n 0, 1) := by decide +kernel
theorem dX12_mornings_103 : decode cX12_mornings 103 = .ok (.iload 8, 2) := by decide +kernel
theorem dX12_mornings_105 : decode cX12_mornings 105 = .ok (.invokevirtual 277, 3) := by decide +kernel
theorem dX12_mornings_108 : decode cX12_mornings 108 = .ok (.ifCond .eq 23, 3) := by decide +kernel
theorem dX12_mornings_111 : decode cX12_mornings 111 = .ok (.iinc 4 1, 3) := by decide +kernel
theorem dX12_mornings_114 : decode cX12_mornings 114 = .ok (.iload 5, 2) := by decide +kernel
theorem dX12_mornings_116 : decode cX12_mornings 116 = .ok (.aload_n 0, 1) := by decide +kernel
theorem dX12_mornings_117 : decode cX12_mornings 117 = .ok (.iload 8, 2) := by decide +kernel
theorem dX12_mornings_119 : decode cX12_mornings 119 = .ok (.invokevirtual 283, 3) := by decide +kernel
theorem dX12_mornings_122 : decode cX12_mornings 122 = .ok (.iadd, 1) := by decide +kernel
theorem dX12_mornings_123 : decode cX12_mornings 123 = .ok (.istore 5, 2) := by decide +kernel
theorem dX12_mornings_125 : decode cX12_mornings 125 = .ok (.aload_n 0, 1) := by decide +kernel
theorem dX12_mornings_126 : decode cX12_mornings 126 = .ok (.iload 8, 2) := by decide +kernel
theorem dX12_mornings_128 : decode cX12_mornings 128 = .ok (.invokevirtual 286, 3) := by decide +kernel
theorem dX12_mornings_131 : decode cX12_mornings 131 = .ok (.iload 6, 2) := by decide +kernel
theorem dX12_mornings_133 : decode cX12_mornings 133 = .ok (.ifCond .ge 15, 3) := by decide +kernel
theorem dX12_mornings_136 : decode cX12_mornings 136 = .ok (.aload_n 0, 1) := by decide +kernel
theorem dX12_mornings_137 : decode cX12_mornings 137 = .ok (.invokevirtual 289, 3) := by decide +kernel
theorem dX12_mornings_140 : decode cX12_mornings 140 = .ok (.ifCond .eq 8, 3) := by decide +kernel
theorem dX12_mornings_143 : decode cX12_mornings 143 = .ok (.iload 7, 2) := by decide +kernel
theorem dX12_mornings_145 : decode cX12_mornings 145 = .ok (.goto 5, 3) := by decide +kernel
theorem dX12_mornings_148 : decode cX12_mornings 148 = .ok (.iload 6, 2) := by decide +kernel
theorem dX12_mornings_150 : decode cX12_mornings 150 = .ok (.istore 6, 2) := by decide +kernel
theorem dX12_mornings_152 : decode cX12_mornings 152 = .ok (.iinc 7 1, 3) := by decide +kernel
theorem dX12_mornings_155 : decode cX12_mornings 155 = .ok (.goto (-78), 3) := by decide +kernel
theorem dX12_mornings_158 : decode cX12_mornings 158 = .ok (.iload_n 3, 1) := by decide +kernel
theorem dX12_mornings_159 : decode cX12_mornings 159 = .ok (.ifCond .ne 8, 3) := by decide +kernel
theorem dX12_mornings_162 : decode cX12_mornings 162 = .ok (.iload 4, 2) := by decide +kernel
theorem dX12_mornings_164 : decode cX12_mornings 164 = .ok (.goto 15, 3) := by decide +kernel
theorem dX12_mornings_167 : decode cX12_mornings 167 = .ok (.iload_n 3, 1) := by decide +kernel
theorem dX12_mornings_168 : decode cX12_mornings 168 = .ok (.iconst 1, 1) := by decide +kernel
theorem dX12_mornings_169 : decode cX12_mornings 169 = .ok (.if_icmp .ne 8, 3) := by decide +kernel
theorem dX12_mornings_172 : decode cX12_mornings 172 = .ok (.iload 5, 2) := by decide +kernel
theorem dX12_mornings_174 : decode cX12_mornings 174 = .ok (.goto 5, 3) := by decide +kernel
theorem dX12_mornings_177 : decode cX12_mornings 177 = .ok (.iload 6, 2) := by decide +kernel
theorem dX12_mornings_179 : decode cX12_mornings 179 = .ok (.ireturn, 1) := by decide +kernel
theorem dX12_mark_0 : decode cX12_mark 0 = .ok (.aload_n 0, 1) := by decide +kernel
theorem dX12_mark_1 : decode cX12_mark 1 = .ok (.iconst 0, 1) := by decide +kernel
theorem dX12_mark_2 : decode cX12_mark 2 = .ok (.putfield 1, 3) := by decide +kernel
theorem dX12_mark_5 : decode cX12_mark 5 = .ok (.iload_n 1, 1) := by decide +kernel
theorem dX12_mark_6 : decode cX12_mark 6 = .ok (.iconst 0, 1) := by decide +kernel
theorem dX12_mark_7 : decode cX12_mark 7 = .ok (.iconst 3, 1) := by decide +kernel
theorem dX12_mark_8 : decode cX12_mark 8 = .ok (.invokestatic 270, 3) := by decide +kernel
theorem dX12_mark_11 : decode cX12_mark 11 = .ok (.ifCond .eq 16, 3) := by decide +kernel
theorem dX12_mark_14 : decode cX12_mark 14 = .ok (.iload_n 2, 1) := by decide +kernel
theorem dX12_mark_15 : decode cX12_mark 15 = .ok (.ifCond .eq 14, 3) := by decide +kernel
theorem dX12_mark_18 : decode cX12_mark 18 = .ok (.aload_n 0, 1) := by decide +kernel
theorem dX12_mark_19 : decode cX12_mark 19 = .ok (.getfield 97, 3) := by decide +kernel
theorem dX12_mark_22 : decode cX12_mark 22 = .ok (.iload_n 1, 1) := by decide +kernel
theorem dX12_mark_23 : decode cX12_mark 23 = .ok (.baload, 1) := by decide +kernel
theorem dX12_mark_24 : decode cX12_mark 24 = .ok (.ifCond .ne 5, 3) := by decide +kernel
theorem dX12_mark_27 : decode cX12_mark 27 = .ok (.iconst 0, 1) := by decide +kernel
theorem dX12_mark_28 : decode cX12_mark 28 = .ok (.ireturn, 1) := by decide +kernel
theorem dX12_mark_29 : decode cX12_mark 29 = .ok (.aload_n 0, 1) := by decide +kernel
theorem dX12_mark_30 : decode cX12_mark 30 = .ok (.getfield 97, 3) := by decide +kernel
theorem dX12_mark_33 : decode cX12_mark 33 = .ok (.iload_n 1, 1) := by decide +kernel
theorem dX12_mark_34 : decode cX12_mark 34 = .ok (.iconst 1, 1) := by decide +kernel
theorem dX12_mark_35 : decode cX12_mark 35 = .ok (.bastore, 1) := by decide +kernel
theorem dX12_mark_36 : decode cX12_mark 36 = .ok (.aload_n 0, 1) := by decide +kernel
theorem dX12_mark_37 : decode cX12_mark 37 = .ok (.iload_n 2, 1) := by decide +kernel
theorem dX12_mark_38 : decode cX12_mark 38 = .ok (.ifCond .eq 12, 3) := by decide +kernel
theorem dX12_mark_41 : decode cX12_mark 41 = .ok (.bipush 28, 2) := by decide +kernel
theorem dX12_mark_43 : decode cX12_mark 43 = .ok (.iconst 1, 1) := by decide +kernel
theorem dX12_mark_44 : decode cX12_mark 44 = .ok (.iload_n 1, 1) := by decide +kernel
theorem dX12_mark_45 : decode cX12_mark 45 = .ok (.iadd, 1) := by decide +kernel
theorem dX12_mark_46 : decode cX12_mark 46 = .ok (.imul, 1) := by decide +kernel
theorem dX12_mark_47 : decode cX12_mark 47 = .ok (.goto 4, 3) := by decide +kernel
theorem dX12_mark_50 : decode cX12_mark 50 = .ok (.iconst 0, 1) := by decide +kernel
theorem dX12_mark_51 : decode cX12_mark 51 = .ok (.iload_n 2, 1) := by decide +kernel
theorem dX12_mark_52 : decode cX12_mark 52 = .ok (.ifCond .eq 7, 3) := by decide +kernel
theorem dX12_mark_55 : decode cX12_mark 55 = .ok (.iconst 0, 1) := by decide +kernel
theorem dX12_mark_56 : decode cX12_mark 56 = .ok (.goto 9, 3) := by decide +kernel
theorem dX12_mark_59 : decode cX12_mark 59 = .ok (.bipush 28, 2) := by decide +kernel
theorem dX12_mark_61 : decode cX12_mark 61 = .ok (.iconst 1, 1) := by decide +kernel
theorem dX12_mark_62 : decode cX12_mark 62 = .ok (.iload_n 1, 1) := by decide +kernel
theorem dX12_mark_63 : decode cX12_mark 63 = .ok (.iadd, 1) := by decide +kernel
theorem dX12_mark_64 : decode cX12_mark 64 = .ok (.imul, 1) := by decide +kernel
theorem dX12_mark_65 : decode cX12_mark 65 = .ok (.bipush 28, 2) := by decide +kernel
theorem dX12_mark_67 : decode cX12_mark 67 = .ok (.invokevirtual 254, 3) := by decide +kernel
theorem dX12_mark_70 : decode cX12_mark 70 = .ok (.aload_n 0, 1) := by decide +kernel
theorem dX12_mark_71 : decode cX12_mark 71 = .ok (.iload_n 2, 1) := by decide +kernel
theorem dX12_mark_72 : decode cX12_mark 72 = .ok (.ifCond .eq 7, 3) := by decide +kernel
theorem dX12_mark_75 : decode cX12_mark 75 = .ok (.iconst 0, 1) := by decide +kernel
theorem dX12_mark_76 : decode cX12_mark 76 = .ok (.goto 7, 3) := by decide +kernel
theorem dX12_mark_79 : decode cX12_mark 79 = .ok (.aload_n 0, 1) := by decide +kernel
theorem dX12_mark_80 : decode cX12_mark 80 = .ok (.getfield 248, 3) := by decide +kernel
theorem dX12_mark_83 : decode cX12_mark 83 = .ok (.putfield 248, 3) := by decide +kernel
theorem dX12_mark_86 : decode cX12_mark 86 = .ok (.iconst 1, 1) := by decide +kernel
theorem dX12_mark_87 : decode cX12_mark 87 = .ok (.ireturn, 1) := by decide +kernel
theorem dX12_turnsNow_0 : decode cX12_turnsNow 0 = .ok (.aload_n 0, 1) := by decide +kernel
theorem dX12_turnsNow_1 : decode cX12_turnsNow 1 = .ok (.aload_n 0, 1) := by decide +kernel
theorem dX12_turnsNow_2 : decode cX12_turnsNow 2 = .ok (.getfield 94, 3) := by decide +kernel
theorem dX12_turnsNow_5 : decode cX12_turnsNow 5 = .ok (.iconst 0, 1) := by decide +kernel
theorem dX12_turnsNow_6 : decode cX12_turnsNow 6 = .ok (.iaload, 1) := by decide +kernel
theorem dX12_turnsNow_7 : decode cX12_turnsNow 7 = .ok (.invokevirtual 274, 3) := by decide +kernel
theorem dX12_turnsNow_10 : decode cX12_turnsNow 10 = .ok (.iconst 0, 1) := by decide +kernel
theorem dX12_turnsNow_11 : decode cX12_turnsNow 11 = .ok (.istore_n 1, 1) := by decide +kernel
theorem dX12_turnsNow_12 : decode cX12_turnsNow 12 = .ok (.iconst 1, 1) := by decide +kernel
theorem dX12_turnsNow_13 : decode cX12_turnsNow 13 = .ok (.istore_n 2, 1) := by decide +kernel
theorem dX12_turnsNow_14 : decode cX12_turnsNow 14 = .ok (.iload_n 2, 1) := by decide +kernel
theorem dX12_turnsNow_15 : decode cX12_turnsNow 15 = .ok (.aload_n 0, 1) := by decide +kernel
theorem dX12_turnsNow_16 : decode cX12_turnsNow 16 = .ok (.invokevirtual 209, 3) := by decide +kernel
theorem dX12_turnsNow_19 : decode cX12_turnsNow 19 = .ok (.if_icmp .gt 29, 3) := by decide +kernel
theorem dX12_turnsNow_22 : decode cX12_turnsNow 22 = .ok (.iload_n 1, 1) := by decide +kernel
theorem dX12_turnsNow_23 : decode cX12_turnsNow 23 = .ok (.aload_n 0, 1) := by decide +kernel
theorem dX12_turnsNow_24 : decode cX12_turnsNow 24 = .ok (.iload_n 2, 1) := by decide +kernel
theorem dX12_turnsNow_25 : decode cX12_turnsNow 25 = .ok (.invokevirtual 277, 3) := by decide +kernel
theorem dX12_turnsNow_28 : decode cX12_turnsNow 28 = .ok (.ifCond .eq 11, 3) := by decide +kernel
theorem dX12_turnsNow_31 : decode cX12_turnsNow 31 = .ok (.iconst 1, 1) := by decide +kernel
theorem dX12_turnsNow_32 : decode cX12_turnsNow 32 = .ok (.iload_n 2, 1) := by decide +kernel
theorem dX12_turnsNow_33 : decode cX12_turnsNow 33 = .ok (.iconst 1, 1) := by decide +kernel
theorem dX12_turnsNow_34 : decode cX12_turnsNow 34 = .ok (.isub, 1) := by decide +kernel
theorem dX12_turnsNow_35 : decode cX12_turnsNow 35 = .ok (.ishl, 1) := by decide +kernel
theorem dX12_turnsNow_36 : decode cX12_turnsNow 36 = .ok (.goto 4, 3) := by decide +kernel
theorem dX12_turnsNow_39 : decode cX12_turnsNow 39 = .ok (.iconst 0, 1) := by decide +kernel
theorem dX12_turnsNow_40 : decode cX12_turnsNow 40 = .ok (.ior, 1) := by decide +kernel
theorem dX12_turnsNow_41 : decode cX12_turnsNow 41 = .ok (.istore_n 1, 1) := by decide +kernel
theorem dX12_turnsNow_42 : decode cX12_turnsNow 42 = .ok (.iinc 2 1, 3) := by decide +kernel
theorem dX12_turnsNow_45 : decode cX12_turnsNow 45 = .ok (.goto (-31), 3) := by decide +kernel
theorem dX12_turnsNow_48 : decode cX12_turnsNow 48 = .ok (.iload_n 1, 1) := by decide +kernel
theorem dX12_turnsNow_49 : decode cX12_turnsNow 49 = .ok (.ireturn, 1) := by decide +kernel
theorem dX12_count_0 : decode cX12_count 0 = .ok (.aload_n 0, 1) := by decide +kernel
theorem dX12_count_1 : decode cX12_count 1 = .ok (.iconst 0, 1) := by decide +kernel
theorem dX12_count_2 : decode cX12_count 2 = .ok (.putfield 1, 3) := by decide +kernel
theorem dX12_count_5 : decode cX12_count 5 = .ok (.iload_n 1, 1) := by decide +kernel
theorem dX12_count_6 : decode cX12_count 6 = .ok (.tableswitch 123 0 9 #[54, 59, 64, 71, 78, 83, 90, 106, 113, 118], 54) := by decide +kernel
theorem dX12_count_60 : decode cX12_count 60 = .ok (.aload_n 0, 1) := by decide +kernel
theorem dX12_count_61 : decode cX12_count 61 = .ok (.invokevirtual 209, 3) := by decide +kernel
theorem dX12_count_64 : decode cX12_count 64 = .ok (.ireturn, 1) := by decide +kernel
theorem dX12_count_65 : decode cX12_count 65 = .ok (.aload_n 0, 1) := by decide +kernel
theorem dX12_count_66 : decode cX12_count 66 = .ok (.invokevirtual 294, 3) := by decide +kernel
theorem dX12_count_69 : decode cX12_count 69 = .ok (.ireturn, 1) := by decide +kernel
theorem dX12_count_70 : decode cX12_count 70 = .ok (.aload_n 0, 1) := by decide +kernel
theorem dX12_count_71 : decode cX12_count 71 = .ok (.getfield 94, 3) := by decide +kernel
theorem dX12_count_74 : decode cX12_count 74 = .ok (.iconst 1, 1) := by decide +kernel
theorem dX12_count_75 : decode cX12_count 75 = .ok (.iaload, 1) := by decide +kernel
theorem dX12_count_76 : decode cX12_count 76 = .ok (.ireturn, 1) := by decide +kernel
theorem dX12_count_77 : decode cX12_count 77 = .ok (.aload_n 0, 1) := by decide +kernel
theorem dX12_count_78 : decode cX12_count 78 = .ok (.getfield 94, 3) := by decide +kernel
theorem dX12_count_81 : decode cX12_count 81 = .ok (.iconst 2, 1) := by decide +kernel
theorem dX12_count_82 : decode cX12_count 82 = .ok (.iaload, 1) := by decide +kernel
theorem dX12_count_83 : decode cX12_count 83 = .ok (.ireturn, 1) := by decide +kernel
theorem dX12_count_84 : decode cX12_count 84 = .ok (.aload_n 0, 1) := by decide +kernel
theorem dX12_count_85 : decode cX12_count 85 = .ok (.invokevirtual 387, 3) := by decide +kernel
theorem dX12_count_88 : decode cX12_count 88 = .ok (.ireturn, 1) := by decide +kernel
theorem dX12_count_89 : decode cX12_count 89 = .ok (.aload_n 0, 1) := by decide +kernel
theorem dX12_count_90 : decode cX12_count 90 = .ok (.getfield 82, 3) := by decide +kernel
theorem dX12_count_93 : decode cX12_count 93 = .ok (.iconst 0, 1) := by decide +kernel
theorem dX12_count_94 : decode cX12_count 94 = .ok (.iaload, 1) := by decide +kernel
theorem dX12_count_95 : decode cX12_count 95 = .ok (.ireturn, 1) := by decide +kernel
theorem dX12_count_96 : decode cX12_count 96 = .ok (.aload_n 0, 1) := by decide +kernel
theorem dX12_count_97 : decode cX12_count 97 = .ok (.getfield 213, 3) := by decide +kernel
theorem dX12_count_100 : decode cX12_count 100 = .ok (.ifCond .eq 10, 3) := by decide +kernel
theorem dX12_count_103 : decode cX12_count 103 = .ok (.aload_n 0, 1) := by decide +kernel
theorem dX12_count_104 : decode cX12_count 104 = .ok (.invokevirtual 209, 3) := by decide +kernel
theorem dX12_count_107 : decode cX12_count 107 = .ok (.goto 4, 3) := by decide +kernel
theorem dX12_count_110 : decode cX12_count 110 = .ok (.iconst 0, 1) := by decide +kernel
theorem dX12_count_111 : decode cX12_count 111 = .ok (.ireturn, 1) := by decide +kernel
theorem dX12_count_112 : decode cX12_count 112 = .ok (.aload_n 0, 1) := by decide +kernel
theorem dX12_count_113 : decode cX12_count 113 = .ok (.getfield 94, 3) := by decide +kernel
theorem dX12_count_116 : decode cX12_count 116 = .ok (.iconst 3, 1) := by decide +kernel
theorem dX12_count_117 : decode cX12_count 117 = .ok (.iaload, 1) := by decide +kernel
theorem dX12_count_118 : decode cX12_count 118 = .ok (.ireturn, 1) := by decide +kernel
theorem dX12_count_119 : decode cX12_count 119 = .ok (.aload_n 0, 1) := by decide +kernel
theorem dX12_count_120 : decode cX12_count 120 = .ok (.getfield 248, 3) := by decide +kernel
theorem dX12_count_123 : decode cX12_count 123 = .ok (.ireturn, 1) := by decide +kernel
theorem dX12_count_124 : decode cX12_count 124 = .ok (.aload_n 0, 1) := by decide +kernel
theorem dX12_count_125 : decode cX12_count 125 = .ok (.getfield 11, 3) := by decide +kernel
theorem dX12_count_128 : decode cX12_count 128 = .ok (.ireturn, 1) := by decide +kernel
theorem dX12_count_129 : decode cX12_count 129 = .ok (.iconst (-1), 1) := by decide +kernel
theorem dX12_count_130 : decode cX12_count 130 = .ok (.ireturn, 1) := by decide +kernel
