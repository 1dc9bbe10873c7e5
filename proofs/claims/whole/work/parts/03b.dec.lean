theorem dX11_init_0 : decode cX11_init 0 = .ok (.aload_n 0, 1) := by decide +kernel
theorem dX11_init_1 : decode cX11_init 1 = .ok (.invokespecial 1, 3) := by decide +kernel
theorem dX11_init_4 : decode cX11_init 4 = .ok (.aload_n 0, 1) := by decide +kernel
theorem dX11_init_5 : decode cX11_init 5 = .ok (.new 7, 3) := by decide +kernel
theorem dX11_init_8 : decode cX11_init 8 = .ok (.dup, 1) := by decide +kernel
theorem dX11_init_9 : decode cX11_init 9 = .ok (.invokespecial 9, 3) := by decide +kernel
theorem dX11_init_12 : decode cX11_init 12 = .ok (.putfield 10, 3) := by decide +kernel
theorem dX11_init_15 : decode cX11_init 15 = .ok (.aload_n 0, 1) := by decide +kernel
theorem dX11_init_16 : decode cX11_init 16 = .ok (.new 16, 3) := by decide +kernel
theorem dX11_init_19 : decode cX11_init 19 = .ok (.dup, 1) := by decide +kernel
theorem dX11_init_20 : decode cX11_init 20 = .ok (.aload_n 0, 1) := by decide +kernel
theorem dX11_init_21 : decode cX11_init 21 = .ok (.getfield 10, 3) := by decide +kernel
theorem dX11_init_24 : decode cX11_init 24 = .ok (.invokespecial 18, 3) := by decide +kernel
theorem dX11_init_27 : decode cX11_init 27 = .ok (.putfield 21, 3) := by decide +kernel
theorem dX11_init_30 : decode cX11_init 30 = .ok (.aload_n 0, 1) := by decide +kernel
theorem dX11_init_31 : decode cX11_init 31 = .ok (.new 25, 3) := by decide +kernel
theorem dX11_init_34 : decode cX11_init 34 = .ok (.dup, 1) := by decide +kernel
theorem dX11_init_35 : decode cX11_init 35 = .ok (.invokespecial 27, 3) := by decide +kernel
theorem dX11_init_38 : decode cX11_init 38 = .ok (.putfield 28, 3) := by decide +kernel
theorem dX11_init_41 : decode cX11_init 41 = .ok (.aload_n 0, 1) := by decide +kernel
theorem dX11_init_42 : decode cX11_init 42 = .ok (.new 25, 3) := by decide +kernel
theorem dX11_init_45 : decode cX11_init 45 = .ok (.dup, 1) := by decide +kernel
theorem dX11_init_46 : decode cX11_init 46 = .ok (.invokespecial 27, 3) := by decide +kernel
theorem dX11_init_49 : decode cX11_init 49 = .ok (.putfield 32, 3) := by decide +kernel
theorem dX11_init_52 : decode cX11_init 52 = .ok (.aload_n 0, 1) := by decide +kernel
theorem dX11_init_53 : decode cX11_init 53 = .ok (.new 35, 3) := by decide +kernel
theorem dX11_init_56 : decode cX11_init 56 = .ok (.dup, 1) := by decide +kernel
theorem dX11_init_57 : decode cX11_init 57 = .ok (.aload_n 0, 1) := by decide +kernel
theorem dX11_init_58 : decode cX11_init 58 = .ok (.getfield 28, 3) := by decide +kernel
theorem dX11_init_61 : decode cX11_init 61 = .ok (.invokespecial 37, 3) := by decide +kernel
theorem dX11_init_64 : decode cX11_init 64 = .ok (.putfield 40, 3) := by decide +kernel
theorem dX11_init_67 : decode cX11_init 67 = .ok (.aload_n 0, 1) := by decide +kernel
theorem dX11_init_68 : decode cX11_init 68 = .ok (.new 44, 3) := by decide +kernel
theorem dX11_init_71 : decode cX11_init 71 = .ok (.dup, 1) := by decide +kernel
theorem dX11_init_72 : decode cX11_init 72 = .ok (.invokespecial 46, 3) := by decide +kernel
theorem dX11_init_75 : decode cX11_init 75 = .ok (.putfield 47, 3) := by decide +kernel
theorem dX11_init_78 : decode cX11_init 78 = .ok (.aload_n 0, 1) := by decide +kernel
theorem dX11_init_79 : decode cX11_init 79 = .ok (.iconst (-1), 1) := by decide +kernel
theorem dX11_init_80 : decode cX11_init 80 = .ok (.putfield 51, 3) := by decide +kernel
theorem dX11_init_83 : decode cX11_init 83 = .ok (.aload_n 0, 1) := by decide +kernel
theorem dX11_init_84 : decode cX11_init 84 = .ok (.new 55, 3) := by decide +kernel
theorem dX11_init_87 : decode cX11_init 87 = .ok (.dup, 1) := by decide +kernel
theorem dX11_init_88 : decode cX11_init 88 = .ok (.invokespecial 57, 3) := by decide +kernel
theorem dX11_init_91 : decode cX11_init 91 = .ok (.putfield 58, 3) := by decide +kernel
theorem dX11_init_94 : decode cX11_init 94 = .ok (.aload_n 0, 1) := by decide +kernel
theorem dX11_init_95 : decode cX11_init 95 = .ok (.iconst 4, 1) := by decide +kernel
theorem dX11_init_96 : decode cX11_init 96 = .ok (.anewarray 55, 3) := by decide +kernel
theorem dX11_init_99 : decode cX11_init 99 = .ok (.putfield 62, 3) := by decide +kernel
theorem dX11_init_102 : decode cX11_init 102 = .ok (.aload_n 0, 1) := by decide +kernel
theorem dX11_init_103 : decode cX11_init 103 = .ok (.bipush 16, 2) := by decide +kernel
theorem dX11_init_105 : decode cX11_init 105 = .ok (.newarray .int, 2) := by decide +kernel
theorem dX11_init_107 : decode cX11_init 107 = .ok (.putfield 66, 3) := by decide +kernel
theorem dX11_init_110 : decode cX11_init 110 = .ok (.aload_n 0, 1) := by decide +kernel
theorem dX11_init_111 : decode cX11_init 111 = .ok (.bipush 16, 2) := by decide +kernel
theorem dX11_init_113 : decode cX11_init 113 = .ok (.newarray .int, 2) := by decide +kernel
theorem dX11_init_115 : decode cX11_init 115 = .ok (.putfield 70, 3) := by decide +kernel
theorem dX11_init_118 : decode cX11_init 118 = .ok (.aload_n 0, 1) := by decide +kernel
theorem dX11_init_119 : decode cX11_init 119 = .ok (.new 73, 3) := by decide +kernel
theorem dX11_init_122 : decode cX11_init 122 = .ok (.dup, 1) := by decide +kernel
theorem dX11_init_123 : decode cX11_init 123 = .ok (.aload_n 0, 1) := by decide +kernel
theorem dX11_init_124 : decode cX11_init 124 = .ok (.getfield 40, 3) := by decide +kernel
theorem dX11_init_127 : decode cX11_init 127 = .ok (.iconst 1, 1) := by decide +kernel
theorem dX11_init_128 : decode cX11_init 128 = .ok (.iconst 0, 1) := by decide +kernel
theorem dX11_init_129 : decode cX11_init 129 = .ok (.invokespecial 75, 3) := by decide +kernel
theorem dX11_init_132 : decode cX11_init 132 = .ok (.putfield 78, 3) := by decide +kernel
theorem dX11_init_135 : decode cX11_init 135 = .ok (.aload_n 0, 1) := by decide +kernel
theorem dX11_init_136 : decode cX11_init 136 = .ok (.iconst 5, 1) := by decide +kernel
theorem dX11_init_137 : decode cX11_init 137 = .ok (.anewarray 73, 3) := by decide +kernel
theorem dX11_init_140 : decode cX11_init 140 = .ok (.putfield 82, 3) := by decide +kernel
theorem dX11_init_143 : decode cX11_init 143 = .ok (.aload_n 0, 1) := by decide +kernel
theorem dX11_init_144 : decode cX11_init 144 = .ok (.new 73, 3) := by decide +kernel
theorem dX11_init_147 : decode cX11_init 147 = .ok (.dup, 1) := by decide +kernel
theorem dX11_init_148 : decode cX11_init 148 = .ok (.aload_n 0, 1) := by decide +kernel
theorem dX11_init_149 : decode cX11_init 149 = .ok (.getfield 40, 3) := by decide +kernel
theorem dX11_init_152 : decode cX11_init 152 = .ok (.iconst 1, 1) := by decide +kernel
theorem dX11_init_153 : decode cX11_init 153 = .ok (.iconst 0, 1) := by decide +kernel
theorem dX11_init_154 : decode cX11_init 154 = .ok (.invokespecial 75, 3) := by decide +kernel
theorem dX11_init_157 : decode cX11_init 157 = .ok (.putfield 86, 3) := by decide +kernel
theorem dX11_init_160 : decode cX11_init 160 = .ok (.aload_n 0, 1) := by decide +kernel
theorem dX11_init_161 : decode cX11_init 161 = .ok (.new 73, 3) := by decide +kernel
theorem dX11_init_164 : decode cX11_init 164 = .ok (.dup, 1) := by decide +kernel
theorem dX11_init_165 : decode cX11_init 165 = .ok (.aload_n 0, 1) := by decide +kernel
theorem dX11_init_166 : decode cX11_init 166 = .ok (.getfield 40, 3) := by decide +kernel
theorem dX11_init_169 : decode cX11_init 169 = .ok (.iconst 0, 1) := by decide +kernel
theorem dX11_init_170 : decode cX11_init 170 = .ok (.iconst 0, 1) := by decide +kernel
theorem dX11_init_171 : decode cX11_init 171 = .ok (.invokespecial 75, 3) := by decide +kernel
theorem dX11_init_174 : decode cX11_init 174 = .ok (.putfield 89, 3) := by decide +kernel
theorem dX11_init_177 : decode cX11_init 177 = .ok (.aload_n 0, 1) := by decide +kernel
theorem dX11_init_178 : decode cX11_init 178 = .ok (.new 92, 3) := by decide +kernel
theorem dX11_init_181 : decode cX11_init 181 = .ok (.dup, 1) := by decide +kernel
theorem dX11_init_182 : decode cX11_init 182 = .ok (.aload_n 0, 1) := by decide +kernel
theorem dX11_init_183 : decode cX11_init 183 = .ok (.getfield 40, 3) := by decide +kernel
theorem dX11_init_186 : decode cX11_init 186 = .ok (.invokespecial 94, 3) := by decide +kernel
theorem dX11_init_189 : decode cX11_init 189 = .ok (.putfield 97, 3) := by decide +kernel
theorem dX11_init_192 : decode cX11_init 192 = .ok (.aload_n 0, 1) := by decide +kernel
theorem dX11_init_193 : decode cX11_init 193 = .ok (.new 101, 3) := by decide +kernel
theorem dX11_init_196 : decode cX11_init 196 = .ok (.dup, 1) := by decide +kernel
theorem dX11_init_197 : decode cX11_init 197 = .ok (.aload_n 0, 1) := by decide +kernel
theorem dX11_init_198 : decode cX11_init 198 = .ok (.getfield 40, 3) := by decide +kernel
theorem dX11_init_201 : decode cX11_init 201 = .ok (.invokespecial 103, 3) := by decide +kernel
theorem dX11_init_204 : decode cX11_init 204 = .ok (.putfield 104, 3) := by decide +kernel
theorem dX11_init_207 : decode cX11_init 207 = .ok (.iconst 0, 1) := by decide +kernel
theorem dX11_init_208 : decode cX11_init 208 = .ok (.istore_n 1, 1) := by decide +kernel
theorem dX11_init_209 : decode cX11_init 209 = .ok (.iload_n 1, 1) := by decide +kernel
theorem dX11_init_210 : decode cX11_init 210 = .ok (.aload_n 0, 1) := by decide +kernel
theorem dX11_init_211 : decode cX11_init 211 = .ok (.getfield 62, 3) := by decide +kernel
theorem dX11_init_214 : decode cX11_init 214 = .ok (.arraylength, 1) := by decide +kernel
theorem dX11_init_215 : decode cX11_init 215 = .ok (.if_icmp .ge 22, 3) := by decide +kernel
theorem dX11_init_218 : decode cX11_init 218 = .ok (.aload_n 0, 1) := by decide +kernel
theorem dX11_init_219 : decode cX11_init 219 = .ok (.getfield 62, 3) := by decide +kernel
theorem dX11_init_222 : decode cX11_init 222 = .ok (.iload_n 1, 1) := by decide +kernel
theorem dX11_init_223 : decode cX11_init 223 = .ok (.new 55, 3) := by decide +kernel
theorem dX11_init_226 : decode cX11_init 226 = .ok (.dup, 1) := by decide +kernel
theorem dX11_init_227 : decode cX11_init 227 = .ok (.invokespecial 57, 3) := by decide +kernel
theorem dX11_init_230 : decode cX11_init 230 = .ok (.aastore, 1) := by decide +kernel
theorem dX11_init_231 : decode cX11_init 231 = .ok (.iinc 1 1, 3) := by decide +kernel
theorem dX11_init_234 : decode cX11_init 234 = .ok (.goto (-25), 3) := by decide +kernel
theorem dX11_init_237 : decode cX11_init 237 = .ok (.iconst 0, 1) := by decide +kernel
theorem dX11_init_238 : decode cX11_init 238 = .ok (.istore_n 1, 1) := by decide +kernel
theorem dX11_init_239 : decode cX11_init 239 = .ok (.iload_n 1, 1) := by decide +kernel
theorem dX11_init_240 : decode cX11_init 240 = .ok (.aload_n 0, 1) := by decide +kernel
theorem dX11_init_241 : decode cX11_init 241 = .ok (.getfield 82, 3) := by decide +kernel
theorem dX11_init_244 : decode cX11_init 244 = .ok (.arraylength, 1) := by decide +kernel
theorem dX11_init_245 : decode cX11_init 245 = .ok (.if_icmp .ge 30, 3) := by decide +kernel
theorem dX11_init_248 : decode cX11_init 248 = .ok (.aload_n 0, 1) := by decide +kernel
theorem dX11_init_249 : decode cX11_init 249 = .ok (.getfield 82, 3) := by decide +kernel
theorem dX11_init_252 : decode cX11_init 252 = .ok (.iload_n 1, 1) := by decide +kernel
theorem dX11_init_253 : decode cX11_init 253 = .ok (.new 73, 3) := by decide +kernel
theorem dX11_init_256 : decode cX11_init 256 = .ok (.dup, 1) := by decide +kernel
theorem dX11_init_257 : decode cX11_init 257 = .ok (.aload_n 0, 1) := by decide +kernel
theorem dX11_init_258 : decode cX11_init 258 = .ok (.getfield 40, 3) := by decide +kernel
theorem dX11_init_261 : decode cX11_init 261 = .ok (.iconst 1, 1) := by decide +kernel
theorem dX11_init_262 : decode cX11_init 262 = .ok (.iload_n 1, 1) := by decide +kernel
theorem dX11_init_263 : decode cX11_init 263 = .ok (.iconst 1, 1) := by decide +kernel
theorem dX11_init_264 : decode cX11_init 264 = .ok (.iadd, 1) := by decide +kernel
theorem dX11_init_265 : decode cX11_init 265 = .ok (.invokespecial 75, 3) := by decide +kernel
theorem dX11_init_268 : decode cX11_init 268 = .ok (.aastore, 1) := by decide +kernel
theorem dX11_init_269 : decode cX11_init 269 = .ok (.iinc 1 1, 3) := by decide +kernel
theorem dX11_init_272 : decode cX11_init 272 = .ok (.goto (-33), 3) := by decide +kernel
theorem dX11_init_275 : decode cX11_init 275 = .ok (.aload_n 0, 1) := by decide +kernel
theorem dX11_init_276 : decode cX11_init 276 = .ok (.getfield 58, 3) := by decide +kernel
theorem dX11_init_279 : decode cX11_init 279 = .ok (.aload_n 0, 1) := by decide +kernel
theorem dX11_init_280 : decode cX11_init 280 = .ok (.getfield 40, 3) := by decide +kernel
theorem dX11_init_283 : decode cX11_init 283 = .ok (.invokevirtual 108, 3) := by decide +kernel
theorem dX11_init_286 : decode cX11_init 286 = .ok (.invokevirtual 112, 3) := by decide +kernel
theorem dX11_init_289 : decode cX11_init 289 = .ok (.return_, 1) := by decide +kernel
theorem dX11_feed_0 : decode cX11_feed 0 = .ok (.aload_n 0, 1) := by decide +kernel
theorem dX11_feed_1 : decode cX11_feed 1 = .ok (.getfield 10, 3) := by decide +kernel
theorem dX11_feed_4 : decode cX11_feed 4 = .ok (.lload_n 1, 1) := by decide +kernel
theorem dX11_feed_5 : decode cX11_feed 5 = .ok (.invokevirtual 116, 3) := by decide +kernel
theorem dX11_feed_8 : decode cX11_feed 8 = .ok (.aload_n 0, 1) := by decide +kernel
theorem dX11_feed_9 : decode cX11_feed 9 = .ok (.getfield 10, 3) := by decide +kernel
theorem dX11_feed_12 : decode cX11_feed 12 = .ok (.lload_n 3, 1) := by decide +kernel
theorem dX11_feed_13 : decode cX11_feed 13 = .ok (.invokevirtual 116, 3) := by decide +kernel
theorem dX11_feed_16 : decode cX11_feed 16 = .ok (.aload_n 0, 1) := by decide +kernel
theorem dX11_feed_17 : decode cX11_feed 17 = .ok (.getfield 10, 3) := by decide +kernel
theorem dX11_feed_20 : decode cX11_feed 20 = .ok (.lload 5, 2) := by decide +kernel
theorem dX11_feed_22 : decode cX11_feed 22 = .ok (.invokevirtual 116, 3) := by decide +kernel
theorem dX11_feed_25 : decode cX11_feed 25 = .ok (.aload_n 0, 1) := by decide +kernel
theorem dX11_feed_26 : decode cX11_feed 26 = .ok (.getfield 10, 3) := by decide +kernel
theorem dX11_feed_29 : decode cX11_feed 29 = .ok (.invokevirtual 120, 3) := by decide +kernel
theorem dX11_feed_32 : decode cX11_feed 32 = .ok (.ireturn, 1) := by decide +kernel
theorem dX11_griddle_0 : decode cX11_griddle 0 = .ok (.aload_n 0, 1) := by decide +kernel
theorem dX11_griddle_1 : decode cX11_griddle 1 = .ok (.getfield 21, 3) := by decide +kernel
theorem dX11_griddle_4 : decode cX11_griddle 4 = .ok (.aload_n 0, 1) := by decide +kernel
theorem dX11_griddle_5 : decode cX11_griddle 5 = .ok (.getfield 32, 3) := by decide +kernel
theorem dX11_griddle_8 : decode cX11_griddle 8 = .ok (.invokevirtual 123, 3) := by decide +kernel
theorem dX11_griddle_11 : decode cX11_griddle 11 = .ok (.istore_n 1, 1) := by decide +kernel
theorem dX11_griddle_12 : decode cX11_griddle 12 = .ok (.iload_n 1, 1) := by decide +kernel
theorem dX11_griddle_13 : decode cX11_griddle 13 = .ok (.ifCond .ne 36, 3) := by decide +kernel
theorem dX11_griddle_16 : decode cX11_griddle 16 = .ok (.aload_n 0, 1) := by decide +kernel
theorem dX11_griddle_17 : decode cX11_griddle 17 = .ok (.getfield 28, 3) := by decide +kernel
theorem dX11_griddle_20 : decode cX11_griddle 20 = .ok (.astore_n 2, 1) := by decide +kernel
theorem dX11_griddle_21 : decode cX11_griddle 21 = .ok (.aload_n 0, 1) := by decide +kernel
theorem dX11_griddle_22 : decode cX11_griddle 22 = .ok (.aload_n 0, 1) := by decide +kernel
theorem dX11_griddle_23 : decode cX11_griddle 23 = .ok (.getfield 32, 3) := by decide +kernel
theorem dX11_griddle_26 : decode cX11_griddle 26 = .ok (.putfield 28, 3) := by decide +kernel
theorem dX11_griddle_29 : decode cX11_griddle 29 = .ok (.aload_n 0, 1) := by decide +kernel
theorem dX11_griddle_30 : decode cX11_griddle 30 = .ok (.aload_n 2, 1) := by decide +kernel
theorem dX11_griddle_31 : decode cX11_griddle 31 = .ok (.putfield 32, 3) := by decide +kernel
theorem dX11_griddle_34 : decode cX11_griddle 34 = .ok (.aload_n 0, 1) := by decide +kernel
theorem dX11_griddle_35 : decode cX11_griddle 35 = .ok (.getfield 40, 3) := by decide +kernel
theorem dX11_griddle_38 : decode cX11_griddle 38 = .ok (.aload_n 0, 1) := by decide +kernel
theorem dX11_griddle_39 : decode cX11_griddle 39 = .ok (.getfield 28, 3) := by decide +kernel
theorem dX11_griddle_42 : decode cX11_griddle 42 = .ok (.invokevirtual 127, 3) := by decide +kernel
theorem dX11_griddle_45 : decode cX11_griddle 45 = .ok (.aload_n 0, 1) := by decide +kernel
theorem dX11_griddle_46 : decode cX11_griddle 46 = .ok (.invokevirtual 130, 3) := by decide +kernel
theorem dX11_griddle_49 : decode cX11_griddle 49 = .ok (.iload_n 1, 1) := by decide +kernel
theorem dX11_griddle_50 : decode cX11_griddle 50 = .ok (.ireturn, 1) := by decide +kernel
theorem dX11_plan_0 : decode cX11_plan 0 = .ok (.aload_n 0, 1) := by decide +kernel
theorem dX11_plan_1 : decode cX11_plan 1 = .ok (.getfield 21, 3) := by decide +kernel
theorem dX11_plan_4 : decode cX11_plan 4 = .ok (.aload_n 0, 1) := by decide +kernel
theorem dX11_plan_5 : decode cX11_plan 5 = .ok (.getfield 40, 3) := by decide +kernel
theorem dX11_plan_8 : decode cX11_plan 8 = .ok (.invokevirtual 133, 3) := by decide +kernel
theorem dX11_plan_11 : decode cX11_plan 11 = .ok (.invokevirtual 136, 3) := by decide +kernel
theorem dX11_plan_14 : decode cX11_plan 14 = .ok (.istore_n 1, 1) := by decide +kernel
theorem dX11_plan_15 : decode cX11_plan 15 = .ok (.iload_n 1, 1) := by decide +kernel
theorem dX11_plan_16 : decode cX11_plan 16 = .ok (.ifCond .ne 24, 3) := by decide +kernel
theorem dX11_plan_19 : decode cX11_plan 19 = .ok (.aload_n 0, 1) := by decide +kernel
theorem dX11_plan_20 : decode cX11_plan 20 = .ok (.getfield 47, 3) := by decide +kernel
theorem dX11_plan_23 : decode cX11_plan 23 = .ok (.aload_n 0, 1) := by decide +kernel
theorem dX11_plan_24 : decode cX11_plan 24 = .ok (.getfield 21, 3) := by decide +kernel
theorem dX11_plan_27 : decode cX11_plan 27 = .ok (.invokevirtual 140, 3) := by decide +kernel
theorem dX11_plan_30 : decode cX11_plan 30 = .ok (.aload_n 0, 1) := by decide +kernel
theorem dX11_plan_31 : decode cX11_plan 31 = .ok (.getfield 21, 3) := by decide +kernel
theorem dX11_plan_34 : decode cX11_plan 34 = .ok (.invokevirtual 144, 3) := by decide +kernel
theorem dX11_plan_37 : decode cX11_plan 37 = .ok (.invokevirtual 147, 3) := by decide +kernel
theorem dX11_plan_40 : decode cX11_plan 40 = .ok (.iload_n 1, 1) := by decide +kernel
theorem dX11_plan_41 : decode cX11_plan 41 = .ok (.ireturn, 1) := by decide +kernel
theorem dX11_wish_0 : decode cX11_wish 0 = .ok (.aload_n 0, 1) := by decide +kernel
theorem dX11_wish_1 : decode cX11_wish 1 = .ok (.getfield 21, 3) := by decide +kernel
theorem dX11_wish_4 : decode cX11_wish 4 = .ok (.aload_n 0, 1) := by decide +kernel
theorem dX11_wish_5 : decode cX11_wish 5 = .ok (.getfield 28, 3) := by decide +kernel
theorem dX11_wish_8 : decode cX11_wish 8 = .ok (.invokevirtual 151, 3) := by decide +kernel
theorem dX11_wish_11 : decode cX11_wish 11 = .ok (.istore_n 1, 1) := by decide +kernel
theorem dX11_wish_12 : decode cX11_wish 12 = .ok (.iload_n 1, 1) := by decide +kernel
theorem dX11_wish_13 : decode cX11_wish 13 = .ok (.ifCond .ne 28, 3) := by decide +kernel
theorem dX11_wish_16 : decode cX11_wish 16 = .ok (.aload_n 0, 1) := by decide +kernel
theorem dX11_wish_17 : decode cX11_wish 17 = .ok (.aload_n 0, 1) := by decide +kernel
theorem dX11_wish_18 : decode cX11_wish 18 = .ok (.getfield 40, 3) := by decide +kernel
theorem dX11_wish_21 : decode cX11_wish 21 = .ok (.aload_n 0, 1) := by decide +kernel
theorem dX11_wish_22 : decode cX11_wish 22 = .ok (.getfield 21, 3) := by decide +kernel
theorem dX11_wish_25 : decode cX11_wish 25 = .ok (.invokevirtual 140, 3) := by decide +kernel
theorem dX11_wish_28 : decode cX11_wish 28 = .ok (.aload_n 0, 1) := by decide +kernel
theorem dX11_wish_29 : decode cX11_wish 29 = .ok (.getfield 21, 3) := by decide +kernel
theorem dX11_wish_32 : decode cX11_wish 32 = .ok (.invokevirtual 154, 3) := by decide +kernel
theorem dX11_wish_35 : decode cX11_wish 35 = .ok (.invokevirtual 157, 3) := by decide +kernel
theorem dX11_wish_38 : decode cX11_wish 38 = .ok (.putfield 51, 3) := by decide +kernel
theorem dX11_wish_41 : decode cX11_wish 41 = .ok (.iload_n 1, 1) := by decide +kernel
theorem dX11_wish_42 : decode cX11_wish 42 = .ok (.ireturn, 1) := by decide +kernel
theorem dX11_cake_0 : decode cX11_cake 0 = .ok (.iload_n 1, 1) := by decide +kernel
theorem dX11_cake_1 : decode cX11_cake 1 = .ok (.ifCond .lt 14, 3) := by decide +kernel
theorem dX11_cake_4 : decode cX11_cake 4 = .ok (.iload_n 1, 1) := by decide +kernel
theorem dX11_cake_5 : decode cX11_cake 5 = .ok (.aload_n 0, 1) := by decide +kernel
theorem dX11_cake_6 : decode cX11_cake 6 = .ok (.getfield 40, 3) := by decide +kernel
theorem dX11_cake_9 : decode cX11_cake 9 = .ok (.invokevirtual 133, 3) := by decide +kernel
theorem dX11_cake_12 : decode cX11_cake 12 = .ok (.if_icmp .lt 5, 3) := by decide +kernel
theorem dX11_cake_15 : decode cX11_cake 15 = .ok (.iconst (-1), 1) := by decide +kernel
theorem dX11_cake_16 : decode cX11_cake 16 = .ok (.ireturn, 1) := by decide +kernel
theorem dX11_cake_17 : decode cX11_cake 17 = .ok (.iload_n 2, 1) := by decide +kernel
theorem dX11_cake_18 : decode cX11_cake 18 = .ok (.tableswitch 88 0 3 #[30, 39, 48, 64], 30) := by decide +kernel
theorem dX11_cake_48 : decode cX11_cake 48 = .ok (.aload_n 0, 1) := by decide +kernel
theorem dX11_cake_49 : decode cX11_cake 49 = .ok (.getfield 28, 3) := by decide +kernel
theorem dX11_cake_52 : decode cX11_cake 52 = .ok (.iload_n 1, 1) := by decide +kernel
theorem dX11_cake_53 : decode cX11_cake 53 = .ok (.invokevirtual 161, 3) := by decide +kernel
theorem dX11_cake_56 : decode cX11_cake 56 = .ok (.ireturn, 1) := by decide +kernel
theorem dX11_cake_57 : decode cX11_cake 57 = .ok (.aload_n 0, 1) := by decide +kernel
theorem dX11_cake_58 : decode cX11_cake 58 = .ok (.getfield 28, 3) := by decide +kernel
theorem dX11_cake_61 : decode cX11_cake 61 = .ok (.iload_n 1, 1) := by decide +kernel
theorem dX11_cake_62 : decode cX11_cake 62 = .ok (.invokevirtual 164, 3) := by decide +kernel
theorem dX11_cake_65 : decode cX11_cake 65 = .ok (.ireturn, 1) := by decide +kernel
theorem dX11_cake_66 : decode cX11_cake 66 = .ok (.aload_n 0, 1) := by decide +kernel
theorem dX11_cake_67 : decode cX11_cake 67 = .ok (.getfield 40, 3) := by decide +kernel
theorem dX11_cake_70 : decode cX11_cake 70 = .ok (.aload_n 0, 1) := by decide +kernel
theorem dX11_cake_71 : decode cX11_cake 71 = .ok (.getfield 58, 3) := by decide +kernel
theorem dX11_cake_74 : decode cX11_cake 74 = .ok (.invokevirtual 167, 3) := by decide +kernel
theorem dX11_cake_77 : decode cX11_cake 77 = .ok (.iload_n 1, 1) := by decide +kernel
theorem dX11_cake_78 : decode cX11_cake 78 = .ok (.invokevirtual 170, 3) := by decide +kernel
theorem dX11_cake_81 : decode cX11_cake 81 = .ok (.ireturn, 1) := by decide +kernel
theorem dX11_cake_82 : decode cX11_cake 82 = .ok (.aload_n 0, 1) := by decide +kernel
theorem dX11_cake_83 : decode cX11_cake 83 = .ok (.getfield 40, 3) := by decide +kernel
theorem dX11_cake_86 : decode cX11_cake 86 = .ok (.aload_n 0, 1) := by decide +kernel
theorem dX11_cake_87 : decode cX11_cake 87 = .ok (.getfield 58, 3) := by decide +kernel
theorem dX11_cake_90 : decode cX11_cake 90 = .ok (.invokevirtual 167, 3) := by decide +kernel
theorem dX11_cake_93 : decode cX11_cake 93 = .ok (.iload_n 1, 1) := by decide +kernel
theorem dX11_cake_94 : decode cX11_cake 94 = .ok (.invokevirtual 174, 3) := by decide +kernel
theorem dX11_cake_97 : decode cX11_cake 97 = .ok (.ifCond .eq 7, 3) := by decide +kernel
theorem dX11_cake_100 : decode cX11_cake 100 = .ok (.iconst 1, 1) := by decide +kernel
theorem dX11_cake_101 : decode cX11_cake 101 = .ok (.goto 4, 3) := by decide +kernel
theorem dX11_cake_104 : decode cX11_cake 104 = .ok (.iconst 0, 1) := by decide +kernel
theorem dX11_cake_105 : decode cX11_cake 105 = .ok (.ireturn, 1) := by decide +kernel
theorem dX11_cake_106 : decode cX11_cake 106 = .ok (.iconst (-1), 1) := by decide +kernel
theorem dX11_cake_107 : decode cX11_cake 107 = .ok (.ireturn, 1) := by decide +kernel
theorem dX11_there_0 : decode cX11_there 0 = .ok (.aload_n 0, 1) := by decide +kernel
theorem dX11_there_1 : decode cX11_there 1 = .ok (.getfield 40, 3) := by decide +kernel
theorem dX11_there_4 : decode cX11_there 4 = .ok (.aload_n 0, 1) := by decide +kernel
theorem dX11_there_5 : decode cX11_there 5 = .ok (.getfield 58, 3) := by decide +kernel
theorem dX11_there_8 : decode cX11_there 8 = .ok (.invokevirtual 167, 3) := by decide +kernel
theorem dX11_there_11 : decode cX11_there 11 = .ok (.iload_n 1, 1) := by decide +kernel
theorem dX11_there_12 : decode cX11_there 12 = .ok (.invokevirtual 178, 3) := by decide +kernel
theorem dX11_there_15 : decode cX11_there 15 = .ok (.ireturn, 1) := by decide +kernel
theorem dX11_turn_0 : decode cX11_turn 0 = .ok (.aload_n 0, 1) := by decide +kernel
theorem dX11_turn_1 : decode cX11_turn 1 = .ok (.getfield 58, 3) := by decide +kernel
theorem dX11_turn_4 : decode cX11_turn 4 = .ok (.invokevirtual 167, 3) := by decide +kernel
theorem dX11_turn_7 : decode cX11_turn 7 = .ok (.istore_n 2, 1) := by decide +kernel
theorem dX11_turn_8 : decode cX11_turn 8 = .ok (.aload_n 0, 1) := by decide +kernel
theorem dX11_turn_9 : decode cX11_turn 9 = .ok (.getfield 40, 3) := by decide +kernel
theorem dX11_turn_12 : decode cX11_turn 12 = .ok (.iload_n 2, 1) := by decide +kernel
theorem dX11_turn_13 : decode cX11_turn 13 = .ok (.iload_n 1, 1) := by decide +kernel
theorem dX11_turn_14 : decode cX11_turn 14 = .ok (.invokevirtual 181, 3) := by decide +kernel
theorem dX11_turn_17 : decode cX11_turn 17 = .ok (.ifCond .ne 5, 3) := by decide +kernel
theorem dX11_turn_20 : decode cX11_turn 20 = .ok (.iconst (-1), 1) := by decide +kernel
theorem dX11_turn_21 : decode cX11_turn 21 = .ok (.ireturn, 1) := by decide +kernel
theorem dX11_turn_22 : decode cX11_turn 22 = .ok (.aload_n 0, 1) := by decide +kernel
theorem dX11_turn_23 : decode cX11_turn 23 = .ok (.getfield 40, 3) := by decide +kernel
theorem dX11_turn_26 : decode cX11_turn 26 = .ok (.iload_n 2, 1) := by decide +kernel
theorem dX11_turn_27 : decode cX11_turn 27 = .ok (.iload_n 1, 1) := by decide +kernel
theorem dX11_turn_28 : decode cX11_turn 28 = .ok (.invokevirtual 184, 3) := by decide +kernel
theorem dX11_turn_31 : decode cX11_turn 31 = .ok (.istore_n 3, 1) := by decide +kernel
theorem dX11_turn_32 : decode cX11_turn 32 = .ok (.aload_n 0, 1) := by decide +kernel
theorem dX11_turn_33 : decode cX11_turn 33 = .ok (.getfield 58, 3) := by decide +kernel
theorem dX11_turn_36 : decode cX11_turn 36 = .ok (.aload_n 0, 1) := by decide +kernel
theorem dX11_turn_37 : decode cX11_turn 37 = .ok (.getfield 40, 3) := by decide +kernel
theorem dX11_turn_40 : decode cX11_turn 40 = .ok (.iload_n 2, 1) := by decide +kernel
theorem dX11_turn_41 : decode cX11_turn 41 = .ok (.iload_n 1, 1) := by decide +kernel
theorem dX11_turn_42 : decode cX11_turn 42 = .ok (.invokevirtual 187, 3) := by decide +kernel
theorem dX11_turn_45 : decode cX11_turn 45 = .ok (.iconst 1, 1) := by decide +kernel
theorem dX11_turn_46 : decode cX11_turn 46 = .ok (.iload_n 3, 1) := by decide +kernel
theorem dX11_turn_47 : decode cX11_turn 47 = .ok (.invokevirtual 190, 3) := by decide +kernel
theorem dX11_turn_50 : decode cX11_turn 50 = .ok (.aload_n 0, 1) := by decide +kernel
theorem dX11_turn_51 : decode cX11_turn 51 = .ok (.iload_n 1, 1) := by decide +kernel
theorem dX11_turn_52 : decode cX11_turn 52 = .ok (.iload_n 3, 1) := by decide +kernel
theorem dX11_turn_53 : decode cX11_turn 53 = .ok (.invokevirtual 194, 3) := by decide +kernel
theorem dX11_turn_56 : decode cX11_turn 56 = .ok (.iload_n 3, 1) := by decide +kernel
theorem dX11_turn_57 : decode cX11_turn 57 = .ok (.ireturn, 1) := by decide +kernel
theorem dX11_undo_0 : decode cX11_undo 0 = .ok (.aload_n 0, 1) := by decide +kernel
theorem dX11_undo_1 : decode cX11_undo 1 = .ok (.getfield 198, 3) := by decide +kernel
theorem dX11_undo_4 : decode cX11_undo 4 = .ok (.ifCond .gt 5, 3) := by decide +kernel
theorem dX11_undo_7 : decode cX11_undo 7 = .ok (.iconst 0, 1) := by decide +kernel
theorem dX11_undo_8 : decode cX11_undo 8 = .ok (.ireturn, 1) := by decide +kernel
theorem dX11_undo_9 : decode cX11_undo 9 = .ok (.aload_n 0, 1) := by decide +kernel
theorem dX11_undo_10 : decode cX11_undo 10 = .ok (.dup, 1) := by decide +kernel
theorem dX11_undo_11 : decode cX11_undo 11 = .ok (.getfield 198, 3) := by decide +kernel
theorem dX11_undo_14 : decode cX11_undo 14 = .ok (.iconst 1, 1) := by decide +kernel
theorem dX11_undo_15 : decode cX11_undo 15 = .ok (.isub, 1) := by decide +kernel
theorem dX11_undo_16 : decode cX11_undo 16 = .ok (.putfield 198, 3) := by decide +kernel
theorem dX11_undo_19 : decode cX11_undo 19 = .ok (.aload_n 0, 1) := by decide +kernel
theorem dX11_undo_20 : decode cX11_undo 20 = .ok (.getfield 40, 3) := by decide +kernel
theorem dX11_undo_23 : decode cX11_undo 23 = .ok (.aload_n 0, 1) := by decide +kernel
theorem dX11_undo_24 : decode cX11_undo 24 = .ok (.getfield 58, 3) := by decide +kernel
theorem dX11_undo_27 : decode cX11_undo 27 = .ok (.invokevirtual 167, 3) := by decide +kernel
theorem dX11_undo_30 : decode cX11_undo 30 = .ok (.aload_n 0, 1) := by decide +kernel
theorem dX11_undo_31 : decode cX11_undo 31 = .ok (.getfield 66, 3) := by decide +kernel
theorem dX11_undo_34 : decode cX11_undo 34 = .ok (.aload_n 0, 1) := by decide +kernel
theorem dX11_undo_35 : decode cX11_undo 35 = .ok (.getfield 198, 3) := by decide +kernel
theorem dX11_undo_38 : decode cX11_undo 38 = .ok (.invokestatic 201, 3) := by decide +kernel
theorem dX11_undo_41 : decode cX11_undo 41 = .ok (.invokevirtual 187, 3) := by decide +kernel
theorem dX11_undo_44 : decode cX11_undo 44 = .ok (.istore_n 1, 1) := by decide +kernel
theorem dX11_undo_45 : decode cX11_undo 45 = .ok (.aload_n 0, 1) := by decide +kernel
theorem dX11_undo_46 : decode cX11_undo 46 = .ok (.getfield 58, 3) := by decide +kernel
theorem dX11_undo_49 : decode cX11_undo 49 = .ok (.iload_n 1, 1) := by decide +kernel
theorem dX11_undo_50 : decode cX11_undo 50 = .ok (.iconst (-1), 1) := by decide +kernel
theorem dX11_undo_51 : decode cX11_undo 51 = .ok (.aload_n 0, 1) := by decide +kernel
theorem dX11_undo_52 : decode cX11_undo 52 = .ok (.getfield 70, 3) := by decide +kernel
theorem dX11_undo_55 : decode cX11_undo 55 = .ok (.aload_n 0, 1) := by decide +kernel
theorem dX11_undo_56 : decode cX11_undo 56 = .ok (.getfield 198, 3) := by decide +kernel
theorem dX11_undo_59 : decode cX11_undo 59 = .ok (.invokestatic 201, 3) := by decide +kernel
theorem dX11_undo_62 : decode cX11_undo 62 = .ok (.ineg, 1) := by decide +kernel
theorem dX11_undo_63 : decode cX11_undo 63 = .ok (.invokevirtual 190, 3) := by decide +kernel
theorem dX11_undo_66 : decode cX11_undo 66 = .ok (.iconst 1, 1) := by decide +kernel
theorem dX11_undo_67 : decode cX11_undo 67 = .ok (.ireturn, 1) := by decide +kernel
theorem dX11_can_0 : decode cX11_can 0 = .ok (.aload_n 0, 1) := by decide +kernel
theorem dX11_can_1 : decode cX11_can 1 = .ok (.getfield 40, 3) := by decide +kernel
theorem dX11_can_4 : decode cX11_can 4 = .ok (.aload_n 0, 1) := by decide +kernel
theorem dX11_can_5 : decode cX11_can 5 = .ok (.getfield 58, 3) := by decide +kernel
theorem dX11_can_8 : decode cX11_can 8 = .ok (.invokevirtual 167, 3) := by decide +kernel
theorem dX11_can_11 : decode cX11_can 11 = .ok (.iload_n 1, 1) := by decide +kernel
theorem dX11_can_12 : decode cX11_can 12 = .ok (.invokevirtual 181, 3) := by decide +kernel
theorem dX11_can_15 : decode cX11_can 15 = .ok (.ireturn, 1) := by decide +kernel
theorem dX11_cost_0 : decode cX11_cost 0 = .ok (.aload_n 0, 1) := by decide +kernel
theorem dX11_cost_1 : decode cX11_cost 1 = .ok (.iload_n 1, 1) := by decide +kernel
theorem dX11_cost_2 : decode cX11_cost 2 = .ok (.invokevirtual 204, 3) := by decide +kernel
theorem dX11_cost_5 : decode cX11_cost 5 = .ok (.ifCond .eq 21, 3) := by decide +kernel
theorem dX11_cost_8 : decode cX11_cost 8 = .ok (.aload_n 0, 1) := by decide +kernel
theorem dX11_cost_9 : decode cX11_cost 9 = .ok (.getfield 40, 3) := by decide +kernel
theorem dX11_cost_12 : decode cX11_cost 12 = .ok (.aload_n 0, 1) := by decide +kernel
theorem dX11_cost_13 : decode cX11_cost 13 = .ok (.getfield 58, 3) := by decide +kernel
theorem dX11_cost_16 : decode cX11_cost 16 = .ok (.invokevirtual 167, 3) := by decide +kernel
theorem dX11_cost_19 : decode cX11_cost 19 = .ok (.iload_n 1, 1) := by decide +kernel
theorem dX11_cost_20 : decode cX11_cost 20 = .ok (.invokevirtual 184, 3) := by decide +kernel
theorem dX11_cost_23 : decode cX11_cost 23 = .ok (.goto 4, 3) := by decide +kernel
theorem dX11_cost_26 : decode cX11_cost 26 = .ok (.iconst (-1), 1) := by decide +kernel
theorem dX11_cost_27 : decode cX11_cost 27 = .ok (.ireturn, 1) := by decide +kernel
theorem dX11_served_0 : decode cX11_served 0 = .ok (.aload_n 0, 1) := by decide +kernel
theorem dX11_served_1 : decode cX11_served 1 = .ok (.getfield 58, 3) := by decide +kernel
theorem dX11_served_4 : decode cX11_served 4 = .ok (.invokevirtual 167, 3) := by decide +kernel
theorem dX11_served_7 : decode cX11_served 7 = .ok (.aload_n 0, 1) := by decide +kernel
theorem dX11_served_8 : decode cX11_served 8 = .ok (.getfield 40, 3) := by decide +kernel
theorem dX11_served_11 : decode cX11_served 11 = .ok (.invokevirtual 208, 3) := by decide +kernel
theorem dX11_served_14 : decode cX11_served 14 = .ok (.if_icmp .ne 7, 3) := by decide +kernel
theorem dX11_served_17 : decode cX11_served 17 = .ok (.iconst 1, 1) := by decide +kernel
theorem dX11_served_18 : decode cX11_served 18 = .ok (.goto 4, 3) := by decide +kernel
theorem dX11_served_21 : decode cX11_served 21 = .ok (.iconst 0, 1) := by decide +kernel
theorem dX11_served_22 : decode cX11_served 22 = .ok (.ireturn, 1) := by decide +kernel
theorem dX11_judged_0 : decode cX11_judged 0 = .ok (.iload_n 1, 1) := by decide +kernel
theorem dX11_judged_1 : decode cX11_judged 1 = .ok (.ifCond .lt 8, 3) := by decide +kernel
theorem dX11_judged_4 : decode cX11_judged 4 = .ok (.iload_n 1, 1) := by decide +kernel
theorem dX11_judged_5 : decode cX11_judged 5 = .ok (.iconst 2, 1) := by decide +kernel
theorem dX11_judged_6 : decode cX11_judged 6 = .ok (.if_icmp .le 6, 3) := by decide +kernel
theorem dX11_judged_9 : decode cX11_judged 9 = .ok (.bipush (-2), 2) := by decide +kernel
theorem dX11_judged_11 : decode cX11_judged 11 = .ok (.ireturn, 1) := by decide +kernel
theorem dX11_judged_12 : decode cX11_judged 12 = .ok (.aload_n 0, 1) := by decide +kernel
theorem dX11_judged_13 : decode cX11_judged 13 = .ok (.getfield 47, 3) := by decide +kernel
theorem dX11_judged_16 : decode cX11_judged 16 = .ok (.aload_n 0, 1) := by decide +kernel
theorem dX11_judged_17 : decode cX11_judged 17 = .ok (.getfield 40, 3) := by decide +kernel
theorem dX11_judged_20 : decode cX11_judged 20 = .ok (.iload_n 1, 1) := by decide +kernel
theorem dX11_judged_21 : decode cX11_judged 21 = .ok (.invokevirtual 211, 3) := by decide +kernel
theorem dX11_judged_24 : decode cX11_judged 24 = .ok (.ireturn, 1) := by decide +kernel
theorem dX11_least_0 : decode cX11_least 0 = .ok (.aload_n 0, 1) := by decide +kernel
theorem dX11_least_1 : decode cX11_least 1 = .ok (.invokevirtual 215, 3) := by decide +kernel
theorem dX11_least_4 : decode cX11_least 4 = .ok (.aload_n 0, 1) := by decide +kernel
theorem dX11_least_5 : decode cX11_least 5 = .ok (.getfield 58, 3) := by decide +kernel
theorem dX11_least_8 : decode cX11_least 8 = .ok (.invokevirtual 167, 3) := by decide +kernel
theorem dX11_least_11 : decode cX11_least 11 = .ok (.invokevirtual 219, 3) := by decide +kernel
theorem dX11_least_14 : decode cX11_least 14 = .ok (.ireturn, 1) := by decide +kernel
theorem dX11_row_0 : decode cX11_row 0 = .ok (.aload_n 0, 1) := by decide +kernel
theorem dX11_row_1 : decode cX11_row 1 = .ok (.invokevirtual 215, 3) := by decide +kernel
theorem dX11_row_4 : decode cX11_row 4 = .ok (.astore_n 2, 1) := by decide +kernel
theorem dX11_row_5 : decode cX11_row 5 = .ok (.aload_n 0, 1) := by decide +kernel
theorem dX11_row_6 : decode cX11_row 6 = .ok (.getfield 58, 3) := by decide +kernel
theorem dX11_row_9 : decode cX11_row 9 = .ok (.invokevirtual 167, 3) := by decide +kernel
theorem dX11_row_12 : decode cX11_row 12 = .ok (.istore_n 3, 1) := by decide +kernel
theorem dX11_row_13 : decode cX11_row 13 = .ok (.iload_n 1, 1) := by decide +kernel
theorem dX11_row_14 : decode cX11_row 14 = .ok (.ifCond .lt 12, 3) := by decide +kernel
theorem dX11_row_17 : decode cX11_row 17 = .ok (.iload_n 1, 1) := by decide +kernel
theorem dX11_row_18 : decode cX11_row 18 = .ok (.aload_n 2, 1) := by decide +kernel
theorem dX11_row_19 : decode cX11_row 19 = .ok (.iload_n 3, 1) := by decide +kernel
theorem dX11_row_20 : decode cX11_row 20 = .ok (.invokevirtual 219, 3) := by decide +kernel
theorem dX11_row_23 : decode cX11_row 23 = .ok (.if_icmp .lt 5, 3) := by decide +kernel
theorem dX11_row_26 : decode cX11_row 26 = .ok (.iconst (-1), 1) := by decide +kernel
theorem dX11_row_27 : decode cX11_row 27 = .ok (.ireturn, 1) := by decide +kernel
theorem dX11_row_28 : decode cX11_row 28 = .ok (.iconst 0, 1) := by decide +kernel
theorem dX11_row_29 : decode cX11_row 29 = .ok (.istore 4, 2) := by decide +kernel
theorem dX11_row_31 : decode cX11_row 31 = .ok (.iload 4, 2) := by decide +kernel
theorem dX11_row_33 : decode cX11_row 33 = .ok (.iload_n 1, 1) := by decide +kernel
theorem dX11_row_34 : decode cX11_row 34 = .ok (.if_icmp .ge 23, 3) := by decide +kernel
theorem dX11_row_37 : decode cX11_row 37 = .ok (.aload_n 0, 1) := by decide +kernel
theorem dX11_row_38 : decode cX11_row 38 = .ok (.getfield 40, 3) := by decide +kernel
theorem dX11_row_41 : decode cX11_row 41 = .ok (.iload_n 3, 1) := by decide +kernel
theorem dX11_row_42 : decode cX11_row 42 = .ok (.aload_n 2, 1) := by decide +kernel
theorem dX11_row_43 : decode cX11_row 43 = .ok (.iload_n 3, 1) := by decide +kernel
theorem dX11_row_44 : decode cX11_row 44 = .ok (.invokevirtual 222, 3) := by decide +kernel
theorem dX11_row_47 : decode cX11_row 47 = .ok (.invokevirtual 187, 3) := by decide +kernel
theorem dX11_row_50 : decode cX11_row 50 = .ok (.istore_n 3, 1) := by decide +kernel
theorem dX11_row_51 : decode cX11_row 51 = .ok (.iinc 4 1, 3) := by decide +kernel
theorem dX11_row_54 : decode cX11_row 54 = .ok (.goto (-23), 3) := by decide +kernel
theorem dX11_row_57 : decode cX11_row 57 = .ok (.aload_n 2, 1) := by decide +kernel
theorem dX11_row_58 : decode cX11_row 58 = .ok (.iload_n 3, 1) := by decide +kernel
theorem dX11_row_59 : decode cX11_row 59 = .ok (.invokevirtual 222, 3) := by decide +kernel
theorem dX11_row_62 : decode cX11_row 62 = .ok (.ireturn, 1) := by decide +kernel
theorem dX11_ways_0 : decode cX11_ways 0 = .ok (.aload_n 0, 1) := by decide +kernel
theorem dX11_ways_1 : decode cX11_ways 1 = .ok (.invokevirtual 215, 3) := by decide +kernel
theorem dX11_ways_4 : decode cX11_ways 4 = .ok (.aload_n 0, 1) := by decide +kernel
theorem dX11_ways_5 : decode cX11_ways 5 = .ok (.getfield 58, 3) := by decide +kernel
theorem dX11_ways_8 : decode cX11_ways 8 = .ok (.invokevirtual 167, 3) := by decide +kernel
theorem dX11_ways_11 : decode cX11_ways 11 = .ok (.invokevirtual 225, 3) := by decide +kernel
theorem dX11_ways_14 : decode cX11_ways 14 = .ok (.ireturn, 1) := by decide +kernel
theorem dX11_cheap_0 : decode cX11_cheap 0 = .ok (.aload_n 0, 1) := by decide +kernel
theorem dX11_cheap_1 : decode cX11_cheap 1 = .ok (.getfield 97, 3) := by decide +kernel
theorem dX11_cheap_4 : decode cX11_cheap 4 = .ok (.invokevirtual 228, 3) := by decide +kernel
theorem dX11_cheap_7 : decode cX11_cheap 7 = .ok (.aload_n 0, 1) := by decide +kernel
theorem dX11_cheap_8 : decode cX11_cheap 8 = .ok (.getfield 97, 3) := by decide +kernel
theorem dX11_cheap_11 : decode cX11_cheap 11 = .ok (.aload_n 0, 1) := by decide +kernel
theorem dX11_cheap_12 : decode cX11_cheap 12 = .ok (.getfield 58, 3) := by decide +kernel
theorem dX11_cheap_15 : decode cX11_cheap 15 = .ok (.invokevirtual 167, 3) := by decide +kernel
theorem dX11_cheap_18 : decode cX11_cheap 18 = .ok (.invokevirtual 230, 3) := by decide +kernel
theorem dX11_cheap_21 : decode cX11_cheap 21 = .ok (.ireturn, 1) := by decide +kernel
theorem dX11_bill_0 : decode cX11_bill 0 = .ok (.aload_n 0, 1) := by decide +kernel
theorem dX11_bill_1 : decode cX11_bill 1 = .ok (.getfield 97, 3) := by decide +kernel
theorem dX11_bill_4 : decode cX11_bill 4 = .ok (.invokevirtual 228, 3) := by decide +kernel
theorem dX11_bill_7 : decode cX11_bill 7 = .ok (.iload_n 1, 1) := by decide +kernel
theorem dX11_bill_8 : decode cX11_bill 8 = .ok (.ifCond .lt 10, 3) := by decide +kernel
theorem dX11_bill_11 : decode cX11_bill 11 = .ok (.iload_n 1, 1) := by decide +kernel
theorem dX11_bill_12 : decode cX11_bill 12 = .ok (.sipush 3840, 3) := by decide +kernel
theorem dX11_bill_15 : decode cX11_bill 15 = .ok (.if_icmp .lt 5, 3) := by decide +kernel
theorem dX11_bill_18 : decode cX11_bill 18 = .ok (.iconst (-1), 1) := by decide +kernel
theorem dX11_bill_19 : decode cX11_bill 19 = .ok (.ireturn, 1) := by decide +kernel
theorem dX11_bill_20 : decode cX11_bill 20 = .ok (.aload_n 0, 1) := by decide +kernel
theorem dX11_bill_21 : decode cX11_bill 21 = .ok (.getfield 58, 3) := by decide +kernel
theorem dX11_bill_24 : decode cX11_bill 24 = .ok (.invokevirtual 167, 3) := by decide +kernel
theorem dX11_bill_27 : decode cX11_bill 27 = .ok (.istore_n 2, 1) := by decide +kernel
theorem dX11_bill_28 : decode cX11_bill 28 = .ok (.iconst 0, 1) := by decide +kernel
theorem dX11_bill_29 : decode cX11_bill 29 = .ok (.istore_n 3, 1) := by decide +kernel
theorem dX11_bill_30 : decode cX11_bill 30 = .ok (.iload_n 3, 1) := by decide +kernel
theorem dX11_bill_31 : decode cX11_bill 31 = .ok (.iload_n 1, 1) := by decide +kernel
theorem dX11_bill_32 : decode cX11_bill 32 = .ok (.if_icmp .ge 37, 3) := by decide +kernel
theorem dX11_bill_35 : decode cX11_bill 35 = .ok (.aload_n 0, 1) := by decide +kernel
theorem dX11_bill_36 : decode cX11_bill 36 = .ok (.getfield 97, 3) := by decide +kernel
theorem dX11_bill_39 : decode cX11_bill 39 = .ok (.iload_n 2, 1) := by decide +kernel
theorem dX11_bill_40 : decode cX11_bill 40 = .ok (.invokevirtual 230, 3) := by decide +kernel
theorem dX11_bill_43 : decode cX11_bill 43 = .ok (.ifCond .le 26, 3) := by decide +kernel
theorem dX11_bill_46 : decode cX11_bill 46 = .ok (.aload_n 0, 1) := by decide +kernel
theorem dX11_bill_47 : decode cX11_bill 47 = .ok (.getfield 40, 3) := by decide +kernel
theorem dX11_bill_50 : decode cX11_bill 50 = .ok (.iload_n 2, 1) := by decide +kernel
theorem dX11_bill_51 : decode cX11_bill 51 = .ok (.aload_n 0, 1) := by decide +kernel
theorem dX11_bill_52 : decode cX11_bill 52 = .ok (.getfield 97, 3) := by decide +kernel
theorem dX11_bill_55 : decode cX11_bill 55 = .ok (.iload_n 2, 1) := by decide +kernel
theorem dX11_bill_56 : decode cX11_bill 56 = .ok (.invokevirtual 233, 3) := by decide +kernel
theorem dX11_bill_59 : decode cX11_bill 59 = .ok (.invokevirtual 187, 3) := by decide +kernel
theorem dX11_bill_62 : decode cX11_bill 62 = .ok (.istore_n 2, 1) := by decide +kernel
theorem dX11_bill_63 : decode cX11_bill 63 = .ok (.iinc 3 1, 3) := by decide +kernel
theorem dX11_bill_66 : decode cX11_bill 66 = .ok (.goto (-36), 3) := by decide +kernel
theorem dX11_bill_69 : decode cX11_bill 69 = .ok (.aload_n 0, 1) := by decide +kernel
theorem dX11_bill_70 : decode cX11_bill 70 = .ok (.getfield 97, 3) := by decide +kernel
theorem dX11_bill_73 : decode cX11_bill 73 = .ok (.iload_n 2, 1) := by decide +kernel
theorem dX11_bill_74 : decode cX11_bill 74 = .ok (.invokevirtual 233, 3) := by decide +kernel
theorem dX11_bill_77 : decode cX11_bill 77 = .ok (.ireturn, 1) := by decide +kernel
theorem dX11_without_0 : decode cX11_without 0 = .ok (.aload_n 0, 1) := by decide +kernel
theorem dX11_without_1 : decode cX11_without 1 = .ok (.iload_n 1, 1) := by decide +kernel
theorem dX11_without_2 : decode cX11_without 2 = .ok (.invokevirtual 204, 3) := by decide +kernel
theorem dX11_without_5 : decode cX11_without 5 = .ok (.ifCond .eq 11, 3) := by decide +kernel
theorem dX11_without_8 : decode cX11_without 8 = .ok (.aload_n 0, 1) := by decide +kernel
theorem dX11_without_9 : decode cX11_without 9 = .ok (.iload_n 1, 1) := by decide +kernel
theorem dX11_without_10 : decode cX11_without 10 = .ok (.invokevirtual 234, 3) := by decide +kernel
theorem dX11_without_13 : decode cX11_without 13 = .ok (.goto 4, 3) := by decide +kernel
theorem dX11_without_16 : decode cX11_without 16 = .ok (.iconst (-1), 1) := by decide +kernel
theorem dX11_without_17 : decode cX11_without 17 = .ok (.ireturn, 1) := by decide +kernel
theorem dX11_needed_0 : decode cX11_needed 0 = .ok (.aload_n 0, 1) := by decide +kernel
theorem dX11_needed_1 : decode cX11_needed 1 = .ok (.invokevirtual 215, 3) := by decide +kernel
theorem dX11_needed_4 : decode cX11_needed 4 = .ok (.aload_n 0, 1) := by decide +kernel
theorem dX11_needed_5 : decode cX11_needed 5 = .ok (.getfield 58, 3) := by decide +kernel
theorem dX11_needed_8 : decode cX11_needed 8 = .ok (.invokevirtual 167, 3) := by decide +kernel
theorem dX11_needed_11 : decode cX11_needed 11 = .ok (.invokevirtual 219, 3) := by decide +kernel
theorem dX11_needed_14 : decode cX11_needed 14 = .ok (.iconst (-1), 1) := by decide +kernel
theorem dX11_needed_15 : decode cX11_needed 15 = .ok (.if_icmp .ne 5, 3) := by decide +kernel
theorem dX11_needed_18 : decode cX11_needed 18 = .ok (.iconst (-1), 1) := by decide +kernel
theorem dX11_needed_19 : decode cX11_needed 19 = .ok (.ireturn, 1) := by decide +kernel
theorem dX11_needed_20 : decode cX11_needed 20 = .ok (.iconst 0, 1) := by decide +kernel
theorem dX11_needed_21 : decode cX11_needed 21 = .ok (.istore_n 1, 1) := by decide +kernel
theorem dX11_needed_22 : decode cX11_needed 22 = .ok (.iconst 1, 1) := by decide +kernel
theorem dX11_needed_23 : decode cX11_needed 23 = .ok (.istore_n 2, 1) := by decide +kernel
theorem dX11_needed_24 : decode cX11_needed 24 = .ok (.iload_n 2, 1) := by decide +kernel
theorem dX11_needed_25 : decode cX11_needed 25 = .ok (.aload_n 0, 1) := by decide +kernel
theorem dX11_needed_26 : decode cX11_needed 26 = .ok (.getfield 40, 3) := by decide +kernel
theorem dX11_needed_29 : decode cX11_needed 29 = .ok (.invokevirtual 133, 3) := by decide +kernel
theorem dX11_needed_32 : decode cX11_needed 32 = .ok (.if_icmp .gt 26, 3) := by decide +kernel
theorem dX11_needed_35 : decode cX11_needed 35 = .ok (.aload_n 0, 1) := by decide +kernel
theorem dX11_needed_36 : decode cX11_needed 36 = .ok (.iload_n 2, 1) := by decide +kernel
theorem dX11_needed_37 : decode cX11_needed 37 = .ok (.invokevirtual 234, 3) := by decide +kernel
theorem dX11_needed_40 : decode cX11_needed 40 = .ok (.iconst (-1), 1) := by decide +kernel
theorem dX11_needed_41 : decode cX11_needed 41 = .ok (.if_icmp .ne 11, 3) := by decide +kernel
theorem dX11_needed_44 : decode cX11_needed 44 = .ok (.iload_n 1, 1) := by decide +kernel
theorem dX11_needed_45 : decode cX11_needed 45 = .ok (.iconst 1, 1) := by decide +kernel
theorem dX11_needed_46 : decode cX11_needed 46 = .ok (.iload_n 2, 1) := by decide +kernel
theorem dX11_needed_47 : decode cX11_needed 47 = .ok (.iconst 1, 1) := by decide +kernel
theorem dX11_needed_48 : decode cX11_needed 48 = .ok (.isub, 1) := by decide +kernel
theorem dX11_needed_49 : decode cX11_needed 49 = .ok (.ishl, 1) := by decide +kernel
theorem dX11_needed_50 : decode cX11_needed 50 = .ok (.ior, 1) := by decide +kernel
theorem dX11_needed_51 : decode cX11_needed 51 = .ok (.istore_n 1, 1) := by decide +kernel
theorem dX11_needed_52 : decode cX11_needed 52 = .ok (.iinc 2 1, 3) := by decide +kernel
theorem dX11_needed_55 : decode cX11_needed 55 = .ok (.goto (-31), 3) := by decide +kernel
theorem dX11_needed_58 : decode cX11_needed 58 = .ok (.iload_n 1, 1) := by decide +kernel
theorem dX11_needed_59 : decode cX11_needed 59 = .ok (.ireturn, 1) := by decide +kernel
theorem dX11_far_0 : decode cX11_far 0 = .ok (.aload_n 0, 1) := by decide +kernel
theorem dX11_far_1 : decode cX11_far 1 = .ok (.invokevirtual 237, 3) := by decide +kernel
theorem dX11_far_4 : decode cX11_far 4 = .ok (.aload_n 0, 1) := by decide +kernel
theorem dX11_far_5 : decode cX11_far 5 = .ok (.getfield 58, 3) := by decide +kernel
theorem dX11_far_8 : decode cX11_far 8 = .ok (.invokevirtual 167, 3) := by decide +kernel
theorem dX11_far_11 : decode cX11_far 11 = .ok (.invokevirtual 219, 3) := by decide +kernel
theorem dX11_far_14 : decode cX11_far 14 = .ok (.ireturn, 1) := by decide +kernel
theorem dX11_toward_0 : decode cX11_toward 0 = .ok (.aload_n 0, 1) := by decide +kernel
theorem dX11_toward_1 : decode cX11_toward 1 = .ok (.invokevirtual 237, 3) := by decide +kernel
theorem dX11_toward_4 : decode cX11_toward 4 = .ok (.aload_n 0, 1) := by decide +kernel
theorem dX11_toward_5 : decode cX11_toward 5 = .ok (.getfield 58, 3) := by decide +kernel
theorem dX11_toward_8 : decode cX11_toward 8 = .ok (.invokevirtual 167, 3) := by decide +kernel
theorem dX11_toward_11 : decode cX11_toward 11 = .ok (.invokevirtual 222, 3) := by decide +kernel
theorem dX11_toward_14 : decode cX11_toward 14 = .ok (.ireturn, 1) := by decide +kernel
theorem dX11_never_0 : decode cX11_never 0 = .ok (.aload_n 0, 1) := by decide +kernel
theorem dX11_never_1 : decode cX11_never 1 = .ok (.invokevirtual 215, 3) := by decide +kernel
theorem dX11_never_4 : decode cX11_never 4 = .ok (.iconst (-1), 1) := by decide +kernel
theorem dX11_never_5 : decode cX11_never 5 = .ok (.invokevirtual 240, 3) := by decide +kernel
theorem dX11_never_8 : decode cX11_never 8 = .ok (.ireturn, 1) := by decide +kernel
theorem dX11_hard_0 : decode cX11_hard 0 = .ok (.aload_n 0, 1) := by decide +kernel
theorem dX11_hard_1 : decode cX11_hard 1 = .ok (.invokevirtual 215, 3) := by decide +kernel
theorem dX11_hard_4 : decode cX11_hard 4 = .ok (.astore_n 2, 1) := by decide +kernel
theorem dX11_hard_5 : decode cX11_hard 5 = .ok (.iload_n 1, 1) := by decide +kernel
theorem dX11_hard_6 : decode cX11_hard 6 = .ok (.lookupswitch 40 #[(0, 26), (1, 31)], 26) := by decide +kernel
theorem dX11_hard_32 : decode cX11_hard 32 = .ok (.aload_n 2, 1) := by decide +kernel
theorem dX11_hard_33 : decode cX11_hard 33 = .ok (.invokevirtual 243, 3) := by decide +kernel
theorem dX11_hard_36 : decode cX11_hard 36 = .ok (.ireturn, 1) := by decide +kernel
theorem dX11_hard_37 : decode cX11_hard 37 = .ok (.aload_n 2, 1) := by decide +kernel
theorem dX11_hard_38 : decode cX11_hard 38 = .ok (.aload_n 2, 1) := by decide +kernel
theorem dX11_hard_39 : decode cX11_hard 39 = .ok (.invokevirtual 243, 3) := by decide +kernel
theorem dX11_hard_42 : decode cX11_hard 42 = .ok (.invokevirtual 240, 3) := by decide +kernel
theorem dX11_hard_45 : decode cX11_hard 45 = .ok (.ireturn, 1) := by decide +kernel
theorem dX11_hard_46 : decode cX11_hard 46 = .ok (.iconst (-1), 1) := by decide +kernel
theorem dX11_hard_47 : decode cX11_hard 47 = .ok (.ireturn, 1) := by decide +kernel
theorem dX11_spread_0 : decode cX11_spread 0 = .ok (.iload_n 1, 1) := by decide +kernel
theorem dX11_spread_1 : decode cX11_spread 1 = .ok (.ifCond .lt 9, 3) := by decide +kernel
theorem dX11_spread_4 : decode cX11_spread 4 = .ok (.iload_n 1, 1) := by decide +kernel
theorem dX11_spread_5 : decode cX11_spread 5 = .ok (.bipush 60, 2) := by decide +kernel
theorem dX11_spread_7 : decode cX11_spread 7 = .ok (.if_icmp .le 7, 3) := by decide +kernel
theorem dX11_spread_10 : decode cX11_spread 10 = .ok (.iconst (-1), 1) := by decide +kernel
theorem dX11_spread_11 : decode cX11_spread 11 = .ok (.goto 11, 3) := by decide +kernel
theorem dX11_spread_14 : decode cX11_spread 14 = .ok (.aload_n 0, 1) := by decide +kernel
theorem dX11_spread_15 : decode cX11_spread 15 = .ok (.invokevirtual 215, 3) := by decide +kernel
theorem dX11_spread_18 : decode cX11_spread 18 = .ok (.iload_n 1, 1) := by decide +kernel
theorem dX11_spread_19 : decode cX11_spread 19 = .ok (.invokevirtual 240, 3) := by decide +kernel
theorem dX11_spread_22 : decode cX11_spread 22 = .ok (.ireturn, 1) := by decide +kernel
theorem dX11_dear_0 : decode cX11_dear 0 = .ok (.aload_n 0, 1) := by decide +kernel
theorem dX11_dear_1 : decode cX11_dear 1 = .ok (.getfield 97, 3) := by decide +kernel
theorem dX11_dear_4 : decode cX11_dear 4 = .ok (.invokevirtual 228, 3) := by decide +kernel
theorem dX11_dear_7 : decode cX11_dear 7 = .ok (.aload_n 0, 1) := by decide +kernel
theorem dX11_dear_8 : decode cX11_dear 8 = .ok (.getfield 97, 3) := by decide +kernel
theorem dX11_dear_11 : decode cX11_dear 11 = .ok (.invokevirtual 246, 3) := by decide +kernel
theorem dX11_dear_14 : decode cX11_dear 14 = .ok (.ireturn, 1) := by decide +kernel
theorem dX11_rim_0 : decode cX11_rim 0 = .ok (.aload_n 0, 1) := by decide +kernel
theorem dX11_rim_1 : decode cX11_rim 1 = .ok (.invokevirtual 249, 3) := by decide +kernel
theorem dX11_rim_4 : decode cX11_rim 4 = .ok (.invokevirtual 243, 3) := by decide +kernel
theorem dX11_rim_7 : decode cX11_rim 7 = .ok (.ireturn, 1) := by decide +kernel
theorem dX11_nth_0 : decode cX11_nth 0 = .ok (.aload_n 0, 1) := by decide +kernel
theorem dX11_nth_1 : decode cX11_nth 1 = .ok (.getfield 40, 3) := by decide +kernel
theorem dX11_nth_4 : decode cX11_nth 4 = .ok (.aload_n 0, 1) := by decide +kernel
theorem dX11_nth_5 : decode cX11_nth 5 = .ok (.getfield 58, 3) := by decide +kernel
theorem dX11_nth_8 : decode cX11_nth 8 = .ok (.invokevirtual 167, 3) := by decide +kernel
theorem dX11_nth_11 : decode cX11_nth 11 = .ok (.invokevirtual 252, 3) := by decide +kernel
theorem dX11_nth_14 : decode cX11_nth 14 = .ok (.ireturn, 1) := by decide +kernel
theorem dX11_ring_0 : decode cX11_ring 0 = .ok (.aload_n 0, 1) := by decide +kernel
theorem dX11_ring_1 : decode cX11_ring 1 = .ok (.iload_n 1, 1) := by decide +kernel
theorem dX11_ring_2 : decode cX11_ring 2 = .ok (.invokevirtual 204, 3) := by decide +kernel
theorem dX11_ring_5 : decode cX11_ring 5 = .ok (.ifCond .eq 11, 3) := by decide +kernel
theorem dX11_ring_8 : decode cX11_ring 8 = .ok (.aload_n 0, 1) := by decide +kernel
theorem dX11_ring_9 : decode cX11_ring 9 = .ok (.iload_n 2, 1) := by decide +kernel
theorem dX11_ring_10 : decode cX11_ring 10 = .ok (.invokevirtual 204, 3) := by decide +kernel
theorem dX11_ring_13 : decode cX11_ring 13 = .ok (.ifCond .ne 5, 3) := by decide +kernel
theorem dX11_ring_16 : decode cX11_ring 16 = .ok (.iconst (-1), 1) := by decide +kernel
theorem dX11_ring_17 : decode cX11_ring 17 = .ok (.ireturn, 1) := by decide +kernel
theorem dX11_ring_18 : decode cX11_ring 18 = .ok (.aload_n 0, 1) := by decide +kernel
theorem dX11_ring_19 : decode cX11_ring 19 = .ok (.getfield 58, 3) := by decide +kernel
theorem dX11_ring_22 : decode cX11_ring 22 = .ok (.invokevirtual 167, 3) := by decide +kernel
theorem dX11_ring_25 : decode cX11_ring 25 = .ok (.istore_n 3, 1) := by decide +kernel
theorem dX11_ring_26 : decode cX11_ring 26 = .ok (.iconst 1, 1) := by decide +kernel
theorem dX11_ring_27 : decode cX11_ring 27 = .ok (.istore 4, 2) := by decide +kernel
theorem dX11_ring_29 : decode cX11_ring 29 = .ok (.iload 4, 2) := by decide +kernel
theorem dX11_ring_31 : decode cX11_ring 31 = .ok (.bipush 120, 2) := by decide +kernel
theorem dX11_ring_33 : decode cX11_ring 33 = .ok (.if_icmp .gt 71, 3) := by decide +kernel
theorem dX11_ring_36 : decode cX11_ring 36 = .ok (.iload 4, 2) := by decide +kernel
theorem dX11_ring_38 : decode cX11_ring 38 = .ok (.iconst 2, 1) := by decide +kernel
theorem dX11_ring_39 : decode cX11_ring 39 = .ok (.irem, 1) := by decide +kernel
theorem dX11_ring_40 : decode cX11_ring 40 = .ok (.iconst 1, 1) := by decide +kernel
theorem dX11_ring_41 : decode cX11_ring 41 = .ok (.if_icmp .ne 7, 3) := by decide +kernel
theorem dX11_ring_44 : decode cX11_ring 44 = .ok (.iload_n 1, 1) := by decide +kernel
theorem dX11_ring_45 : decode cX11_ring 45 = .ok (.goto 4, 3) := by decide +kernel
theorem dX11_ring_48 : decode cX11_ring 48 = .ok (.iload_n 2, 1) := by decide +kernel
theorem dX11_ring_49 : decode cX11_ring 49 = .ok (.istore 5, 2) := by decide +kernel
theorem dX11_ring_51 : decode cX11_ring 51 = .ok (.aload_n 0, 1) := by decide +kernel
theorem dX11_ring_52 : decode cX11_ring 52 = .ok (.getfield 40, 3) := by decide +kernel
theorem dX11_ring_55 : decode cX11_ring 55 = .ok (.iload_n 3, 1) := by decide +kernel
theorem dX11_ring_56 : decode cX11_ring 56 = .ok (.iload 5, 2) := by decide +kernel
theorem dX11_ring_58 : decode cX11_ring 58 = .ok (.invokevirtual 181, 3) := by decide +kernel
theorem dX11_ring_61 : decode cX11_ring 61 = .ok (.ifCond .ne 5, 3) := by decide +kernel
theorem dX11_ring_64 : decode cX11_ring 64 = .ok (.iconst (-1), 1) := by decide +kernel
theorem dX11_ring_65 : decode cX11_ring 65 = .ok (.ireturn, 1) := by decide +kernel
theorem dX11_ring_66 : decode cX11_ring 66 = .ok (.aload_n 0, 1) := by decide +kernel
theorem dX11_ring_67 : decode cX11_ring 67 = .ok (.getfield 40, 3) := by decide +kernel
theorem dX11_ring_70 : decode cX11_ring 70 = .ok (.iload_n 3, 1) := by decide +kernel
theorem dX11_ring_71 : decode cX11_ring 71 = .ok (.iload 5, 2) := by decide +kernel
theorem dX11_ring_73 : decode cX11_ring 73 = .ok (.invokevirtual 187, 3) := by decide +kernel
theorem dX11_ring_76 : decode cX11_ring 76 = .ok (.istore_n 3, 1) := by decide +kernel
theorem dX11_ring_77 : decode cX11_ring 77 = .ok (.iload 4, 2) := by decide +kernel
theorem dX11_ring_79 : decode cX11_ring 79 = .ok (.iconst 2, 1) := by decide +kernel
theorem dX11_ring_80 : decode cX11_ring 80 = .ok (.irem, 1) := by decide +kernel
theorem dX11_ring_81 : decode cX11_ring 81 = .ok (.ifCond .ne 17, 3) := by decide +kernel
theorem dX11_ring_84 : decode cX11_ring 84 = .ok (.iload_n 3, 1) := by decide +kernel
theorem dX11_ring_85 : decode cX11_ring 85 = .ok (.aload_n 0, 1) := by decide +kernel
theorem dX11_ring_86 : decode cX11_ring 86 = .ok (.getfield 58, 3) := by decide +kernel
theorem dX11_ring_89 : decode cX11_ring 89 = .ok (.invokevirtual 167, 3) := by decide +kernel
theorem dX11_ring_92 : decode cX11_ring 92 = .ok (.if_icmp .ne 6, 3) := by decide +kernel
theorem dX11_ring_95 : decode cX11_ring 95 = .ok (.iload 4, 2) := by decide +kernel
theorem dX11_ring_97 : decode cX11_ring 97 = .ok (.ireturn, 1) := by decide +kernel
theorem dX11_ring_98 : decode cX11_ring 98 = .ok (.iinc 4 1, 3) := by decide +kernel
theorem dX11_ring_101 : decode cX11_ring 101 = .ok (.goto (-72), 3) := by decide +kernel
theorem dX11_ring_104 : decode cX11_ring 104 = .ok (.iconst (-1), 1) := by decide +kernel
theorem dX11_ring_105 : decode cX11_ring 105 = .ok (.ireturn, 1) := by decide +kernel
theorem dX11_pairs_0 : decode cX11_pairs 0 = .ok (.aload_n 0, 1) := by decide +kernel
theorem dX11_pairs_1 : decode cX11_pairs 1 = .ok (.getfield 40, 3) := by decide +kernel
theorem dX11_pairs_4 : decode cX11_pairs 4 = .ok (.aload_n 0, 1) := by decide +kernel
theorem dX11_pairs_5 : decode cX11_pairs 5 = .ok (.getfield 58, 3) := by decide +kernel
theorem dX11_pairs_8 : decode cX11_pairs 8 = .ok (.invokevirtual 167, 3) := by decide +kernel
theorem dX11_pairs_11 : decode cX11_pairs 11 = .ok (.invokevirtual 255, 3) := by decide +kernel
theorem dX11_pairs_14 : decode cX11_pairs 14 = .ok (.ireturn, 1) := by decide +kernel
theorem dX11_reached_0 : decode cX11_reached 0 = .ok (.iload_n 1, 1) := by decide +kernel
theorem dX11_reached_1 : decode cX11_reached 1 = .ok (.ifCond .lt 9, 3) := by decide +kernel
theorem dX11_reached_4 : decode cX11_reached 4 = .ok (.iload_n 1, 1) := by decide +kernel
theorem dX11_reached_5 : decode cX11_reached 5 = .ok (.bipush 60, 2) := by decide +kernel
theorem dX11_reached_7 : decode cX11_reached 7 = .ok (.if_icmp .le 7, 3) := by decide +kernel
theorem dX11_reached_10 : decode cX11_reached 10 = .ok (.iconst (-1), 1) := by decide +kernel
theorem dX11_reached_11 : decode cX11_reached 11 = .ok (.goto 11, 3) := by decide +kernel
theorem dX11_reached_14 : decode cX11_reached 14 = .ok (.aload_n 0, 1) := by decide +kernel
theorem dX11_reached_15 : decode cX11_reached 15 = .ok (.invokevirtual 249, 3) := by decide +kernel
theorem dX11_reached_18 : decode cX11_reached 18 = .ok (.iload_n 1, 1) := by decide +kernel
theorem dX11_reached_19 : decode cX11_reached 19 = .ok (.invokevirtual 258, 3) := by decide +kernel
theorem dX11_reached_22 : decode cX11_reached 22 = .ok (.ireturn, 1) := by decide +kernel
theorem dX11_gaps_0 : decode cX11_gaps 0 = .ok (.aload_n 0, 1) := by decide +kernel
theorem dX11_gaps_1 : decode cX11_gaps 1 = .ok (.getfield 40, 3) := by decide +kernel
theorem dX11_gaps_4 : decode cX11_gaps 4 = .ok (.aload_n 0, 1) := by decide +kernel
theorem dX11_gaps_5 : decode cX11_gaps 5 = .ok (.getfield 58, 3) := by decide +kernel
theorem dX11_gaps_8 : decode cX11_gaps 8 = .ok (.invokevirtual 167, 3) := by decide +kernel
theorem dX11_gaps_11 : decode cX11_gaps 11 = .ok (.invokevirtual 261, 3) := by decide +kernel
theorem dX11_gaps_14 : decode cX11_gaps 14 = .ok (.ireturn, 1) := by decide +kernel
theorem dX11_sharp_0 : decode cX11_sharp 0 = .ok (.aload_n 0, 1) := by decide +kernel
theorem dX11_sharp_1 : decode cX11_sharp 1 = .ok (.invokevirtual 215, 3) := by decide +kernel
theorem dX11_sharp_4 : decode cX11_sharp 4 = .ok (.aload_n 0, 1) := by decide +kernel
theorem dX11_sharp_5 : decode cX11_sharp 5 = .ok (.getfield 58, 3) := by decide +kernel
theorem dX11_sharp_8 : decode cX11_sharp 8 = .ok (.invokevirtual 167, 3) := by decide +kernel
theorem dX11_sharp_11 : decode cX11_sharp 11 = .ok (.invokevirtual 219, 3) := by decide +kernel
theorem dX11_sharp_14 : decode cX11_sharp 14 = .ok (.aload_n 0, 1) := by decide +kernel
theorem dX11_sharp_15 : decode cX11_sharp 15 = .ok (.getfield 40, 3) := by decide +kernel
theorem dX11_sharp_18 : decode cX11_sharp 18 = .ok (.aload_n 0, 1) := by decide +kernel
theorem dX11_sharp_19 : decode cX11_sharp 19 = .ok (.getfield 58, 3) := by decide +kernel
theorem dX11_sharp_22 : decode cX11_sharp 22 = .ok (.invokevirtual 167, 3) := by decide +kernel
theorem dX11_sharp_25 : decode cX11_sharp 25 = .ok (.invokevirtual 261, 3) := by decide +kernel
theorem dX11_sharp_28 : decode cX11_sharp 28 = .ok (.if_icmp .ne 7, 3) := by decide +kernel
theorem dX11_sharp_31 : decode cX11_sharp 31 = .ok (.iconst 1, 1) := by decide +kernel
theorem dX11_sharp_32 : decode cX11_sharp 32 = .ok (.goto 4, 3) := by decide +kernel
theorem dX11_sharp_35 : decode cX11_sharp 35 = .ok (.iconst 0, 1) := by decide +kernel
theorem dX11_sharp_36 : decode cX11_sharp 36 = .ok (.ireturn, 1) := by decide +kernel
theorem dX11_again_0 : decode cX11_again 0 = .ok (.aload_n 0, 1) := by decide +kernel
theorem dX11_again_1 : decode cX11_again 1 = .ok (.getfield 58, 3) := by decide +kernel
theorem dX11_again_4 : decode cX11_again 4 = .ok (.invokevirtual 167, 3) := by decide +kernel
theorem dX11_again_7 : decode cX11_again 7 = .ok (.istore_n 1, 1) := by decide +kernel
theorem dX11_again_8 : decode cX11_again 8 = .ok (.iconst 1, 1) := by decide +kernel
theorem dX11_again_9 : decode cX11_again 9 = .ok (.istore_n 2, 1) := by decide +kernel
theorem dX11_again_10 : decode cX11_again 10 = .ok (.iload_n 2, 1) := by decide +kernel
theorem dX11_again_11 : decode cX11_again 11 = .ok (.bipush 60, 2) := by decide +kernel
theorem dX11_again_13 : decode cX11_again 13 = .ok (.if_icmp .gt 42, 3) := by decide +kernel
theorem dX11_again_16 : decode cX11_again 16 = .ok (.aload_n 0, 1) := by decide +kernel
theorem dX11_again_17 : decode cX11_again 17 = .ok (.getfield 47, 3) := by decide +kernel
theorem dX11_again_20 : decode cX11_again 20 = .ok (.aload_n 0, 1) := by decide +kernel
theorem dX11_again_21 : decode cX11_again 21 = .ok (.getfield 40, 3) := by decide +kernel
theorem dX11_again_24 : decode cX11_again 24 = .ok (.iload_n 1, 1) := by decide +kernel
theorem dX11_again_25 : decode cX11_again 25 = .ok (.invokevirtual 264, 3) := by decide +kernel
theorem dX11_again_28 : decode cX11_again 28 = .ok (.istore_n 1, 1) := by decide +kernel
theorem dX11_again_29 : decode cX11_again 29 = .ok (.iload_n 1, 1) := by decide +kernel
theorem dX11_again_30 : decode cX11_again 30 = .ok (.iconst (-1), 1) := by decide +kernel
theorem dX11_again_31 : decode cX11_again 31 = .ok (.if_icmp .ne 5, 3) := by decide +kernel
theorem dX11_again_34 : decode cX11_again 34 = .ok (.iconst (-1), 1) := by decide +kernel
theorem dX11_again_35 : decode cX11_again 35 = .ok (.ireturn, 1) := by decide +kernel
theorem dX11_again_36 : decode cX11_again 36 = .ok (.iload_n 1, 1) := by decide +kernel
theorem dX11_again_37 : decode cX11_again 37 = .ok (.aload_n 0, 1) := by decide +kernel
theorem dX11_again_38 : decode cX11_again 38 = .ok (.getfield 58, 3) := by decide +kernel
theorem dX11_again_41 : decode cX11_again 41 = .ok (.invokevirtual 167, 3) := by decide +kernel
theorem dX11_again_44 : decode cX11_again 44 = .ok (.if_icmp .ne 5, 3) := by decide +kernel
theorem dX11_again_47 : decode cX11_again 47 = .ok (.iload_n 2, 1) := by decide +kernel
theorem dX11_again_48 : decode cX11_again 48 = .ok (.ireturn, 1) := by decide +kernel
theorem dX11_again_49 : decode cX11_again 49 = .ok (.iinc 2 1, 3) := by decide +kernel
theorem dX11_again_52 : decode cX11_again 52 = .ok (.goto (-42), 3) := by decide +kernel
theorem dX11_again_55 : decode cX11_again 55 = .ok (.iconst (-1), 1) := by decide +kernel
theorem dX11_again_56 : decode cX11_again 56 = .ok (.ireturn, 1) := by decide +kernel
theorem dX11_spare_0 : decode cX11_spare 0 = .ok (.aload_n 0, 1) := by decide +kernel
theorem dX11_spare_1 : decode cX11_spare 1 = .ok (.getfield 47, 3) := by decide +kernel
theorem dX11_spare_4 : decode cX11_spare 4 = .ok (.aload_n 0, 1) := by decide +kernel
theorem dX11_spare_5 : decode cX11_spare 5 = .ok (.getfield 40, 3) := by decide +kernel
theorem dX11_spare_8 : decode cX11_spare 8 = .ok (.aload_n 0, 1) := by decide +kernel
theorem dX11_spare_9 : decode cX11_spare 9 = .ok (.getfield 40, 3) := by decide +kernel
theorem dX11_spare_12 : decode cX11_spare 12 = .ok (.invokevirtual 108, 3) := by decide +kernel
theorem dX11_spare_15 : decode cX11_spare 15 = .ok (.iconst (-1), 1) := by decide +kernel
theorem dX11_spare_16 : decode cX11_spare 16 = .ok (.invokevirtual 267, 3) := by decide +kernel
theorem dX11_spare_19 : decode cX11_spare 19 = .ok (.istore_n 1, 1) := by decide +kernel
theorem dX11_spare_20 : decode cX11_spare 20 = .ok (.iconst 0, 1) := by decide +kernel
theorem dX11_spare_21 : decode cX11_spare 21 = .ok (.istore_n 2, 1) := by decide +kernel
theorem dX11_spare_22 : decode cX11_spare 22 = .ok (.iconst 0, 1) := by decide +kernel
theorem dX11_spare_23 : decode cX11_spare 23 = .ok (.istore_n 3, 1) := by decide +kernel
theorem dX11_spare_24 : decode cX11_spare 24 = .ok (.iload_n 3, 1) := by decide +kernel
theorem dX11_spare_25 : decode cX11_spare 25 = .ok (.aload_n 0, 1) := by decide +kernel
theorem dX11_spare_26 : decode cX11_spare 26 = .ok (.getfield 47, 3) := by decide +kernel
theorem dX11_spare_29 : decode cX11_spare 29 = .ok (.invokevirtual 271, 3) := by decide +kernel
theorem dX11_spare_32 : decode cX11_spare 32 = .ok (.if_icmp .ge 35, 3) := by decide +kernel
theorem dX11_spare_35 : decode cX11_spare 35 = .ok (.aload_n 0, 1) := by decide +kernel
theorem dX11_spare_36 : decode cX11_spare 36 = .ok (.getfield 47, 3) := by decide +kernel
theorem dX11_spare_39 : decode cX11_spare 39 = .ok (.aload_n 0, 1) := by decide +kernel
theorem dX11_spare_40 : decode cX11_spare 40 = .ok (.getfield 40, 3) := by decide +kernel
theorem dX11_spare_43 : decode cX11_spare 43 = .ok (.aload_n 0, 1) := by decide +kernel
theorem dX11_spare_44 : decode cX11_spare 44 = .ok (.getfield 40, 3) := by decide +kernel
theorem dX11_spare_47 : decode cX11_spare 47 = .ok (.invokevirtual 108, 3) := by decide +kernel
theorem dX11_spare_50 : decode cX11_spare 50 = .ok (.iload_n 3, 1) := by decide +kernel
theorem dX11_spare_51 : decode cX11_spare 51 = .ok (.invokevirtual 267, 3) := by decide +kernel
theorem dX11_spare_54 : decode cX11_spare 54 = .ok (.iload_n 1, 1) := by decide +kernel
theorem dX11_spare_55 : decode cX11_spare 55 = .ok (.if_icmp .ne 6, 3) := by decide +kernel
theorem dX11_spare_58 : decode cX11_spare 58 = .ok (.iinc 2 1, 3) := by decide +kernel
theorem dX11_spare_61 : decode cX11_spare 61 = .ok (.iinc 3 1, 3) := by decide +kernel
theorem dX11_spare_64 : decode cX11_spare 64 = .ok (.goto (-40), 3) := by decide +kernel
theorem dX11_spare_67 : decode cX11_spare 67 = .ok (.iload_n 2, 1) := by decide +kernel
theorem dX11_spare_68 : decode cX11_spare 68 = .ok (.ireturn, 1) := by decide +kernel
theorem dX11_ends_0 : decode cX11_ends 0 = .ok (.aload_n 0, 1) := by decide +kernel
theorem dX11_ends_1 : decode cX11_ends 1 = .ok (.getfield 47, 3) := by decide +kernel
theorem dX11_ends_4 : decode cX11_ends 4 = .ok (.aload_n 0, 1) := by decide +kernel
theorem dX11_ends_5 : decode cX11_ends 5 = .ok (.getfield 40, 3) := by decide +kernel
theorem dX11_ends_8 : decode cX11_ends 8 = .ok (.aload_n 0, 1) := by decide +kernel
theorem dX11_ends_9 : decode cX11_ends 9 = .ok (.getfield 58, 3) := by decide +kernel
theorem dX11_ends_12 : decode cX11_ends 12 = .ok (.invokevirtual 167, 3) := by decide +kernel
theorem dX11_ends_15 : decode cX11_ends 15 = .ok (.iconst (-1), 1) := by decide +kernel
theorem dX11_ends_16 : decode cX11_ends 16 = .ok (.invokevirtual 267, 3) := by decide +kernel
theorem dX11_ends_19 : decode cX11_ends 19 = .ok (.aload_n 0, 1) := by decide +kernel
theorem dX11_ends_20 : decode cX11_ends 20 = .ok (.getfield 40, 3) := by decide +kernel
theorem dX11_ends_23 : decode cX11_ends 23 = .ok (.invokevirtual 208, 3) := by decide +kernel
theorem dX11_ends_26 : decode cX11_ends 26 = .ok (.if_icmp .ne 7, 3) := by decide +kernel
theorem dX11_ends_29 : decode cX11_ends 29 = .ok (.iconst 1, 1) := by decide +kernel
theorem dX11_ends_30 : decode cX11_ends 30 = .ok (.goto 4, 3) := by decide +kernel
theorem dX11_ends_33 : decode cX11_ends 33 = .ok (.iconst 0, 1) := by decide +kernel
theorem dX11_ends_34 : decode cX11_ends 34 = .ok (.ireturn, 1) := by decide +kernel
theorem dX11_wins_0 : decode cX11_wins 0 = .ok (.aload_n 0, 1) := by decide +kernel
theorem dX11_wins_1 : decode cX11_wins 1 = .ok (.getfield 104, 3) := by decide +kernel
theorem dX11_wins_4 : decode cX11_wins 4 = .ok (.invokevirtual 274, 3) := by decide +kernel
theorem dX11_wins_7 : decode cX11_wins 7 = .ok (.iload_n 1, 1) := by decide +kernel
theorem dX11_wins_8 : decode cX11_wins 8 = .ok (.lookupswitch 58 #[(0, 28), (1, 43)], 28) := by decide +kernel
theorem dX11_wins_36 : decode cX11_wins 36 = .ok (.aload_n 0, 1) := by decide +kernel
theorem dX11_wins_37 : decode cX11_wins 37 = .ok (.getfield 104, 3) := by decide +kernel
theorem dX11_wins_40 : decode cX11_wins 40 = .ok (.aload_n 0, 1) := by decide +kernel
theorem dX11_wins_41 : decode cX11_wins 41 = .ok (.getfield 58, 3) := by decide +kernel
theorem dX11_wins_44 : decode cX11_wins 44 = .ok (.invokevirtual 167, 3) := by decide +kernel
theorem dX11_wins_47 : decode cX11_wins 47 = .ok (.invokevirtual 275, 3) := by decide +kernel
theorem dX11_wins_50 : decode cX11_wins 50 = .ok (.ireturn, 1) := by decide +kernel
theorem dX11_wins_51 : decode cX11_wins 51 = .ok (.aload_n 0, 1) := by decide +kernel
theorem dX11_wins_52 : decode cX11_wins 52 = .ok (.getfield 104, 3) := by decide +kernel
theorem dX11_wins_55 : decode cX11_wins 55 = .ok (.aload_n 0, 1) := by decide +kernel
theorem dX11_wins_56 : decode cX11_wins 56 = .ok (.getfield 58, 3) := by decide +kernel
theorem dX11_wins_59 : decode cX11_wins 59 = .ok (.invokevirtual 167, 3) := by decide +kernel
theorem dX11_wins_62 : decode cX11_wins 62 = .ok (.invokevirtual 278, 3) := by decide +kernel
theorem dX11_wins_65 : decode cX11_wins 65 = .ok (.ireturn, 1) := by decide +kernel
theorem dX11_wins_66 : decode cX11_wins 66 = .ok (.bipush (-2), 2) := by decide +kernel
theorem dX11_wins_68 : decode cX11_wins 68 = .ok (.ireturn, 1) := by decide +kernel
theorem dX11_his_0 : decode cX11_his 0 = .ok (.aload_n 0, 1) := by decide +kernel
theorem dX11_his_1 : decode cX11_his 1 = .ok (.getfield 104, 3) := by decide +kernel
theorem dX11_his_4 : decode cX11_his 4 = .ok (.invokevirtual 274, 3) := by decide +kernel
theorem dX11_his_7 : decode cX11_his 7 = .ok (.aload_n 0, 1) := by decide +kernel
theorem dX11_his_8 : decode cX11_his 8 = .ok (.getfield 104, 3) := by decide +kernel
theorem dX11_his_11 : decode cX11_his 11 = .ok (.aload_n 0, 1) := by decide +kernel
theorem dX11_his_12 : decode cX11_his 12 = .ok (.getfield 58, 3) := by decide +kernel
theorem dX11_his_15 : decode cX11_his 15 = .ok (.invokevirtual 167, 3) := by decide +kernel
theorem dX11_his_18 : decode cX11_his 18 = .ok (.invokevirtual 279, 3) := by decide +kernel
theorem dX11_his_21 : decode cX11_his 21 = .ok (.ireturn, 1) := by decide +kernel
theorem dX11_see_0 : decode cX11_see 0 = .ok (.aload_n 0, 1) := by decide +kernel
theorem dX11_see_1 : decode cX11_see 1 = .ok (.iload_n 1, 1) := by decide +kernel
theorem dX11_see_2 : decode cX11_see 2 = .ok (.invokevirtual 282, 3) := by decide +kernel
theorem dX11_see_5 : decode cX11_see 5 = .ok (.ifCond .eq 35, 3) := by decide +kernel
theorem dX11_see_8 : decode cX11_see 8 = .ok (.iload_n 2, 1) := by decide +kernel
theorem dX11_see_9 : decode cX11_see 9 = .ok (.ifCond .lt 31, 3) := by decide +kernel
theorem dX11_see_12 : decode cX11_see 12 = .ok (.iload_n 2, 1) := by decide +kernel
theorem dX11_see_13 : decode cX11_see 13 = .ok (.aload_n 0, 1) := by decide +kernel
theorem dX11_see_14 : decode cX11_see 14 = .ok (.getfield 40, 3) := by decide +kernel
theorem dX11_see_17 : decode cX11_see 17 = .ok (.invokevirtual 133, 3) := by decide +kernel
theorem dX11_see_20 : decode cX11_see 20 = .ok (.if_icmp .ge 20, 3) := by decide +kernel
theorem dX11_see_23 : decode cX11_see 23 = .ok (.aload_n 0, 1) := by decide +kernel
theorem dX11_see_24 : decode cX11_see 24 = .ok (.getfield 58, 3) := by decide +kernel
theorem dX11_see_27 : decode cX11_see 27 = .ok (.iload_n 1, 1) := by decide +kernel
theorem dX11_see_28 : decode cX11_see 28 = .ok (.iload_n 2, 1) := by decide +kernel
theorem dX11_see_29 : decode cX11_see 29 = .ok (.iload_n 3, 1) := by decide +kernel
theorem dX11_see_30 : decode cX11_see 30 = .ok (.invokevirtual 285, 3) := by decide +kernel
theorem dX11_see_33 : decode cX11_see 33 = .ok (.ifCond .eq 7, 3) := by decide +kernel
theorem dX11_see_36 : decode cX11_see 36 = .ok (.iconst 1, 1) := by decide +kernel
theorem dX11_see_37 : decode cX11_see 37 = .ok (.goto 4, 3) := by decide +kernel
theorem dX11_see_40 : decode cX11_see 40 = .ok (.iconst 0, 1) := by decide +kernel
theorem dX11_see_41 : decode cX11_see 41 = .ok (.ireturn, 1) := by decide +kernel
theorem dX11_lies_0 : decode cX11_lies 0 = .ok (.aload_n 0, 1) := by decide +kernel
theorem dX11_lies_1 : decode cX11_lies 1 = .ok (.iload_n 1, 1) := by decide +kernel
theorem dX11_lies_2 : decode cX11_lies 2 = .ok (.invokevirtual 282, 3) := by decide +kernel
theorem dX11_lies_5 : decode cX11_lies 5 = .ok (.ifCond .eq 20, 3) := by decide +kernel
theorem dX11_lies_8 : decode cX11_lies 8 = .ok (.aload_n 0, 1) := by decide +kernel
theorem dX11_lies_9 : decode cX11_lies 9 = .ok (.getfield 58, 3) := by decide +kernel
theorem dX11_lies_12 : decode cX11_lies 12 = .ok (.iload_n 1, 1) := by decide +kernel
theorem dX11_lies_13 : decode cX11_lies 13 = .ok (.iconst (-1), 1) := by decide +kernel
theorem dX11_lies_14 : decode cX11_lies 14 = .ok (.iload_n 2, 1) := by decide +kernel
theorem dX11_lies_15 : decode cX11_lies 15 = .ok (.invokevirtual 285, 3) := by decide +kernel
theorem dX11_lies_18 : decode cX11_lies 18 = .ok (.ifCond .eq 7, 3) := by decide +kernel
theorem dX11_lies_21 : decode cX11_lies 21 = .ok (.iconst 1, 1) := by decide +kernel
theorem dX11_lies_22 : decode cX11_lies 22 = .ok (.goto 4, 3) := by decide +kernel
theorem dX11_lies_25 : decode cX11_lies 25 = .ok (.iconst 0, 1) := by decide +kernel
theorem dX11_lies_26 : decode cX11_lies 26 = .ok (.ireturn, 1) := by decide +kernel
theorem dX11_fit_0 : decode cX11_fit 0 = .ok (.iconst 0, 1) := by decide +kernel
theorem dX11_fit_1 : decode cX11_fit 1 = .ok (.istore_n 1, 1) := by decide +kernel
theorem dX11_fit_2 : decode cX11_fit 2 = .ok (.iconst 0, 1) := by decide +kernel
theorem dX11_fit_3 : decode cX11_fit 3 = .ok (.istore_n 2, 1) := by decide +kernel
theorem dX11_fit_4 : decode cX11_fit 4 = .ok (.iload_n 2, 1) := by decide +kernel
theorem dX11_fit_5 : decode cX11_fit 5 = .ok (.aload_n 0, 1) := by decide +kernel
theorem dX11_fit_6 : decode cX11_fit 6 = .ok (.getfield 40, 3) := by decide +kernel
theorem dX11_fit_9 : decode cX11_fit 9 = .ok (.invokevirtual 289, 3) := by decide +kernel
theorem dX11_fit_12 : decode cX11_fit 12 = .ok (.if_icmp .ge 27, 3) := by decide +kernel
theorem dX11_fit_15 : decode cX11_fit 15 = .ok (.aload_n 0, 1) := by decide +kernel
theorem dX11_fit_16 : decode cX11_fit 16 = .ok (.getfield 58, 3) := by decide +kernel
theorem dX11_fit_19 : decode cX11_fit 19 = .ok (.aload_n 0, 1) := by decide +kernel
theorem dX11_fit_20 : decode cX11_fit 20 = .ok (.getfield 40, 3) := by decide +kernel
theorem dX11_fit_23 : decode cX11_fit 23 = .ok (.iload_n 2, 1) := by decide +kernel
theorem dX11_fit_24 : decode cX11_fit 24 = .ok (.invokevirtual 292, 3) := by decide +kernel
theorem dX11_fit_27 : decode cX11_fit 27 = .ok (.ifCond .eq 6, 3) := by decide +kernel
theorem dX11_fit_30 : decode cX11_fit 30 = .ok (.iinc 1 1, 3) := by decide +kernel
theorem dX11_fit_33 : decode cX11_fit 33 = .ok (.iinc 2 1, 3) := by decide +kernel
theorem dX11_fit_36 : decode cX11_fit 36 = .ok (.goto (-32), 3) := by decide +kernel
theorem dX11_fit_39 : decode cX11_fit 39 = .ok (.iload_n 1, 1) := by decide +kernel
theorem dX11_fit_40 : decode cX11_fit 40 = .ok (.ireturn, 1) := by decide +kernel
theorem dX11_look_0 : decode cX11_look 0 = .ok (.iconst (-1), 1) := by decide +kernel
theorem dX11_look_1 : decode cX11_look 1 = .ok (.istore_n 1, 1) := by decide +kernel
theorem dX11_look_2 : decode cX11_look 2 = .ok (.aload_n 0, 1) := by decide +kernel
theorem dX11_look_3 : decode cX11_look 3 = .ok (.invokevirtual 296, 3) := by decide +kernel
theorem dX11_look_6 : decode cX11_look 6 = .ok (.istore_n 2, 1) := by decide +kernel
theorem dX11_look_7 : decode cX11_look 7 = .ok (.iconst 0, 1) := by decide +kernel
theorem dX11_look_8 : decode cX11_look 8 = .ok (.istore_n 3, 1) := by decide +kernel
theorem dX11_look_9 : decode cX11_look 9 = .ok (.iload_n 3, 1) := by decide +kernel
theorem dX11_look_10 : decode cX11_look 10 = .ok (.aload_n 0, 1) := by decide +kernel
theorem dX11_look_11 : decode cX11_look 11 = .ok (.getfield 40, 3) := by decide +kernel
theorem dX11_look_14 : decode cX11_look 14 = .ok (.invokevirtual 133, 3) := by decide +kernel
theorem dX11_look_17 : decode cX11_look 17 = .ok (.if_icmp .ge 30, 3) := by decide +kernel
theorem dX11_look_20 : decode cX11_look 20 = .ok (.aload_n 0, 1) := by decide +kernel
theorem dX11_look_21 : decode cX11_look 21 = .ok (.getfield 40, 3) := by decide +kernel
theorem dX11_look_24 : decode cX11_look 24 = .ok (.iload_n 3, 1) := by decide +kernel
theorem dX11_look_25 : decode cX11_look 25 = .ok (.invokevirtual 299, 3) := by decide +kernel
theorem dX11_look_28 : decode cX11_look 28 = .ok (.istore 4, 2) := by decide +kernel
theorem dX11_look_30 : decode cX11_look 30 = .ok (.iload 4, 2) := by decide +kernel
theorem dX11_look_32 : decode cX11_look 32 = .ok (.iload_n 2, 1) := by decide +kernel
theorem dX11_look_33 : decode cX11_look 33 = .ok (.if_icmp .ge 8, 3) := by decide +kernel
theorem dX11_look_36 : decode cX11_look 36 = .ok (.iload 4, 2) := by decide +kernel
theorem dX11_look_38 : decode cX11_look 38 = .ok (.istore_n 2, 1) := by decide +kernel
theorem dX11_look_39 : decode cX11_look 39 = .ok (.iload_n 3, 1) := by decide +kernel
theorem dX11_look_40 : decode cX11_look 40 = .ok (.istore_n 1, 1) := by decide +kernel
theorem dX11_look_41 : decode cX11_look 41 = .ok (.iinc 3 1, 3) := by decide +kernel
theorem dX11_look_44 : decode cX11_look 44 = .ok (.goto (-35), 3) := by decide +kernel
theorem dX11_look_47 : decode cX11_look 47 = .ok (.iload_n 1, 1) := by decide +kernel
theorem dX11_look_48 : decode cX11_look 48 = .ok (.ireturn, 1) := by decide +kernel
theorem dX11_chance_0 : decode cX11_chance 0 = .ok (.aload_n 0, 1) := by decide +kernel
theorem dX11_chance_1 : decode cX11_chance 1 = .ok (.getfield 40, 3) := by decide +kernel
theorem dX11_chance_4 : decode cX11_chance 4 = .ok (.invokevirtual 133, 3) := by decide +kernel
theorem dX11_chance_7 : decode cX11_chance 7 = .ok (.istore_n 3, 1) := by decide +kernel
theorem dX11_chance_8 : decode cX11_chance 8 = .ok (.iload_n 1, 1) := by decide +kernel
theorem dX11_chance_9 : decode cX11_chance 9 = .ok (.iconst 1, 1) := by decide +kernel
theorem dX11_chance_10 : decode cX11_chance 10 = .ok (.if_icmp .lt 14, 3) := by decide +kernel
theorem dX11_chance_13 : decode cX11_chance 13 = .ok (.iload_n 1, 1) := by decide +kernel
theorem dX11_chance_14 : decode cX11_chance 14 = .ok (.bipush 6, 2) := by decide +kernel
theorem dX11_chance_16 : decode cX11_chance 16 = .ok (.if_icmp .gt 8, 3) := by decide +kernel
theorem dX11_chance_19 : decode cX11_chance 19 = .ok (.iload_n 3, 1) := by decide +kernel
theorem dX11_chance_20 : decode cX11_chance 20 = .ok (.iconst 1, 1) := by decide +kernel
theorem dX11_chance_21 : decode cX11_chance 21 = .ok (.if_icmp .ge 5, 3) := by decide +kernel
theorem dX11_chance_24 : decode cX11_chance 24 = .ok (.iconst (-1), 1) := by decide +kernel
theorem dX11_chance_25 : decode cX11_chance 25 = .ok (.ireturn, 1) := by decide +kernel
theorem dX11_chance_26 : decode cX11_chance 26 = .ok (.lconst 1, 1) := by decide +kernel
theorem dX11_chance_27 : decode cX11_chance 27 = .ok (.lstore 4, 2) := by decide +kernel
theorem dX11_chance_29 : decode cX11_chance 29 = .ok (.aload_n 0, 1) := by decide +kernel
theorem dX11_chance_30 : decode cX11_chance 30 = .ok (.getfield 40, 3) := by decide +kernel
theorem dX11_chance_33 : decode cX11_chance 33 = .ok (.aload_n 0, 1) := by decide +kernel
theorem dX11_chance_34 : decode cX11_chance 34 = .ok (.getfield 58, 3) := by decide +kernel
theorem dX11_chance_37 : decode cX11_chance 37 = .ok (.invokevirtual 167, 3) := by decide +kernel
theorem dX11_chance_40 : decode cX11_chance 40 = .ok (.invokevirtual 302, 3) := by decide +kernel
theorem dX11_chance_43 : decode cX11_chance 43 = .ok (.iconst 0, 1) := by decide +kernel
theorem dX11_chance_44 : decode cX11_chance 44 = .ok (.istore 6, 2) := by decide +kernel
theorem dX11_chance_46 : decode cX11_chance 46 = .ok (.iload 6, 2) := by decide +kernel
theorem dX11_chance_48 : decode cX11_chance 48 = .ok (.iload_n 1, 1) := by decide +kernel
theorem dX11_chance_49 : decode cX11_chance 49 = .ok (.if_icmp .ge 24, 3) := by decide +kernel
theorem dX11_chance_52 : decode cX11_chance 52 = .ok (.lload 4, 2) := by decide +kernel
theorem dX11_chance_54 : decode cX11_chance 54 = .ok (.iload_n 3, 1) := by decide +kernel
theorem dX11_chance_55 : decode cX11_chance 55 = .ok (.i2l, 1) := by decide +kernel
theorem dX11_chance_56 : decode cX11_chance 56 = .ok (.lmul, 1) := by decide +kernel
theorem dX11_chance_57 : decode cX11_chance 57 = .ok (.lstore 4, 2) := by decide +kernel
theorem dX11_chance_59 : decode cX11_chance 59 = .ok (.aload_n 0, 1) := by decide +kernel
theorem dX11_chance_60 : decode cX11_chance 60 = .ok (.getfield 40, 3) := by decide +kernel
theorem dX11_chance_63 : decode cX11_chance 63 = .ok (.iload_n 2, 1) := by decide +kernel
theorem dX11_chance_64 : decode cX11_chance 64 = .ok (.invokevirtual 305, 3) := by decide +kernel
theorem dX11_chance_67 : decode cX11_chance 67 = .ok (.iinc 6 1, 3) := by decide +kernel
theorem dX11_chance_70 : decode cX11_chance 70 = .ok (.goto (-24), 3) := by decide +kernel
theorem dX11_chance_73 : decode cX11_chance 73 = .ok (.lload 4, 2) := by decide +kernel
theorem dX11_chance_75 : decode cX11_chance 75 = .ok (.lconst 0, 1) := by decide +kernel
theorem dX11_chance_76 : decode cX11_chance 76 = .ok (.lcmp, 1) := by decide +kernel
theorem dX11_chance_77 : decode cX11_chance 77 = .ok (.ifCond .le 29, 3) := by decide +kernel
theorem dX11_chance_80 : decode cX11_chance 80 = .ok (.aload_n 0, 1) := by decide +kernel
theorem dX11_chance_81 : decode cX11_chance 81 = .ok (.getfield 40, 3) := by decide +kernel
theorem dX11_chance_84 : decode cX11_chance 84 = .ok (.aload_n 0, 1) := by decide +kernel
theorem dX11_chance_85 : decode cX11_chance 85 = .ok (.getfield 40, 3) := by decide +kernel
theorem dX11_chance_88 : decode cX11_chance 88 = .ok (.invokevirtual 208, 3) := by decide +kernel
theorem dX11_chance_91 : decode cX11_chance 91 = .ok (.invokevirtual 309, 3) := by decide +kernel
theorem dX11_chance_94 : decode cX11_chance 94 = .ok (.i2l, 1) := by decide +kernel
theorem dX11_chance_95 : decode cX11_chance 95 = .ok (.ldc2_w 312, 3) := by decide +kernel
theorem dX11_chance_98 : decode cX11_chance 98 = .ok (.lmul, 1) := by decide +kernel
theorem dX11_chance_99 : decode cX11_chance 99 = .ok (.lload 4, 2) := by decide +kernel
theorem dX11_chance_101 : decode cX11_chance 101 = .ok (.ldiv, 1) := by decide +kernel
theorem dX11_chance_102 : decode cX11_chance 102 = .ok (.l2i, 1) := by decide +kernel
theorem dX11_chance_103 : decode cX11_chance 103 = .ok (.goto 4, 3) := by decide +kernel
theorem dX11_chance_106 : decode cX11_chance 106 = .ok (.iconst (-1), 1) := by decide +kernel
theorem dX11_chance_107 : decode cX11_chance 107 = .ok (.ireturn, 1) := by decide +kernel
theorem dX11_rests_0 : decode cX11_rests 0 = .ok (.iload_n 1, 1) := by decide +kernel
theorem dX11_rests_1 : decode cX11_rests 1 = .ok (.invokestatic 314, 3) := by decide +kernel
theorem dX11_rests_4 : decode cX11_rests 4 = .ok (.ifCond .eq 23, 3) := by decide +kernel
theorem dX11_rests_7 : decode cX11_rests 7 = .ok (.iload_n 2, 1) := by decide +kernel
theorem dX11_rests_8 : decode cX11_rests 8 = .ok (.invokestatic 314, 3) := by decide +kernel
theorem dX11_rests_11 : decode cX11_rests 11 = .ok (.ifCond .eq 16, 3) := by decide +kernel
theorem dX11_rests_14 : decode cX11_rests 14 = .ok (.iload_n 3, 1) := by decide +kernel
theorem dX11_rests_15 : decode cX11_rests 15 = .ok (.invokestatic 314, 3) := by decide +kernel
theorem dX11_rests_18 : decode cX11_rests 18 = .ok (.ifCond .eq 9, 3) := by decide +kernel
theorem dX11_rests_21 : decode cX11_rests 21 = .ok (.iload 4, 2) := by decide +kernel
theorem dX11_rests_23 : decode cX11_rests 23 = .ok (.iconst (-1), 1) := by decide +kernel
theorem dX11_rests_24 : decode cX11_rests 24 = .ok (.if_icmp .ge 11, 3) := by decide +kernel
theorem dX11_rests_27 : decode cX11_rests 27 = .ok (.new 317, 3) := by decide +kernel
theorem dX11_rests_30 : decode cX11_rests 30 = .ok (.dup, 1) := by decide +kernel
theorem dX11_rests_31 : decode cX11_rests 31 = .ok (.invokespecial 319, 3) := by decide +kernel
theorem dX11_rests_34 : decode cX11_rests 34 = .ok (.athrow, 1) := by decide +kernel
theorem dX11_rests_35 : decode cX11_rests 35 = .ok (.iconst 0, 1) := by decide +kernel
theorem dX11_rests_36 : decode cX11_rests 36 = .ok (.istore 5, 2) := by decide +kernel
theorem dX11_rests_38 : decode cX11_rests 38 = .ok (.iconst 0, 1) := by decide +kernel
theorem dX11_rests_39 : decode cX11_rests 39 = .ok (.istore 6, 2) := by decide +kernel
theorem dX11_rests_41 : decode cX11_rests 41 = .ok (.iload 6, 2) := by decide +kernel
theorem dX11_rests_43 : decode cX11_rests 43 = .ok (.iconst 4, 1) := by decide +kernel
theorem dX11_rests_44 : decode cX11_rests 44 = .ok (.if_icmp .ge 108, 3) := by decide +kernel
theorem dX11_rests_47 : decode cX11_rests 47 = .ok (.iload 6, 2) := by decide +kernel
theorem dX11_rests_49 : decode cX11_rests 49 = .ok (.iconst 2, 1) := by decide +kernel
theorem dX11_rests_50 : decode cX11_rests 50 = .ok (.idiv, 1) := by decide +kernel
theorem dX11_rests_51 : decode cX11_rests 51 = .ok (.istore 7, 2) := by decide +kernel
theorem dX11_rests_53 : decode cX11_rests 53 = .ok (.iload 6, 2) := by decide +kernel
theorem dX11_rests_55 : decode cX11_rests 55 = .ok (.iconst 2, 1) := by decide +kernel
theorem dX11_rests_56 : decode cX11_rests 56 = .ok (.irem, 1) := by decide +kernel
theorem dX11_rests_57 : decode cX11_rests 57 = .ok (.istore 8, 2) := by decide +kernel
theorem dX11_rests_59 : decode cX11_rests 59 = .ok (.iload 7, 2) := by decide +kernel
theorem dX11_rests_61 : decode cX11_rests 61 = .ok (.iload 8, 2) := by decide +kernel
theorem dX11_rests_63 : decode cX11_rests 63 = .ok (.iload_n 1, 1) := by decide +kernel
theorem dX11_rests_64 : decode cX11_rests 64 = .ok (.iload_n 2, 1) := by decide +kernel
theorem dX11_rests_65 : decode cX11_rests 65 = .ok (.iload_n 3, 1) := by decide +kernel
theorem dX11_rests_66 : decode cX11_rests 66 = .ok (.invokestatic 320, 3) := by decide +kernel
theorem dX11_rests_69 : decode cX11_rests 69 = .ok (.iconst 1, 1) := by decide +kernel
theorem dX11_rests_70 : decode cX11_rests 70 = .ok (.iload 7, 2) := by decide +kernel
theorem dX11_rests_72 : decode cX11_rests 72 = .ok (.isub, 1) := by decide +kernel
theorem dX11_rests_73 : decode cX11_rests 73 = .ok (.iload 8, 2) := by decide +kernel
theorem dX11_rests_75 : decode cX11_rests 75 = .ok (.iload_n 1, 1) := by decide +kernel
theorem dX11_rests_76 : decode cX11_rests 76 = .ok (.iload_n 2, 1) := by decide +kernel
theorem dX11_rests_77 : decode cX11_rests 77 = .ok (.iload_n 3, 1) := by decide +kernel
theorem dX11_rests_78 : decode cX11_rests 78 = .ok (.invokestatic 320, 3) := by decide +kernel
theorem dX11_rests_81 : decode cX11_rests 81 = .ok (.if_icmp .lt 32, 3) := by decide +kernel
theorem dX11_rests_84 : decode cX11_rests 84 = .ok (.iload 8, 2) := by decide +kernel
theorem dX11_rests_86 : decode cX11_rests 86 = .ok (.iload 7, 2) := by decide +kernel
theorem dX11_rests_88 : decode cX11_rests 88 = .ok (.iload_n 1, 1) := by decide +kernel
theorem dX11_rests_89 : decode cX11_rests 89 = .ok (.iload_n 2, 1) := by decide +kernel
theorem dX11_rests_90 : decode cX11_rests 90 = .ok (.iload_n 3, 1) := by decide +kernel
theorem dX11_rests_91 : decode cX11_rests 91 = .ok (.invokestatic 320, 3) := by decide +kernel
theorem dX11_rests_94 : decode cX11_rests 94 = .ok (.iconst 1, 1) := by decide +kernel
theorem dX11_rests_95 : decode cX11_rests 95 = .ok (.iload 8, 2) := by decide +kernel
theorem dX11_rests_97 : decode cX11_rests 97 = .ok (.isub, 1) := by decide +kernel
theorem dX11_rests_98 : decode cX11_rests 98 = .ok (.iload 7, 2) := by decide +kernel
theorem dX11_rests_100 : decode cX11_rests 100 = .ok (.iload_n 1, 1) := by decide +kernel
theorem dX11_rests_101 : decode cX11_rests 101 = .ok (.iload_n 2, 1) := by decide +kernel
theorem dX11_rests_102 : decode cX11_rests 102 = .ok (.iload_n 3, 1) := by decide +kernel
theorem dX11_rests_103 : decode cX11_rests 103 = .ok (.invokestatic 320, 3) := by decide +kernel
theorem dX11_rests_106 : decode cX11_rests 106 = .ok (.if_icmp .lt 7, 3) := by decide +kernel
theorem dX11_rests_109 : decode cX11_rests 109 = .ok (.iconst 1, 1) := by decide +kernel
theorem dX11_rests_110 : decode cX11_rests 110 = .ok (.goto 4, 3) := by decide +kernel
theorem dX11_rests_113 : decode cX11_rests 113 = .ok (.iconst 0, 1) := by decide +kernel
theorem dX11_rests_114 : decode cX11_rests 114 = .ok (.istore 9, 2) := by decide +kernel
theorem dX11_rests_116 : decode cX11_rests 116 = .ok (.iload 9, 2) := by decide +kernel
theorem dX11_rests_118 : decode cX11_rests 118 = .ok (.ifCond .eq 13, 3) := by decide +kernel
theorem dX11_rests_121 : decode cX11_rests 121 = .ok (.iload 5, 2) := by decide +kernel
theorem dX11_rests_123 : decode cX11_rests 123 = .ok (.iload 4, 2) := by decide +kernel
theorem dX11_rests_125 : decode cX11_rests 125 = .ok (.if_icmp .ne 6, 3) := by decide +kernel
theorem dX11_rests_128 : decode cX11_rests 128 = .ok (.iload 6, 2) := by decide +kernel
theorem dX11_rests_130 : decode cX11_rests 130 = .ok (.ireturn, 1) := by decide +kernel
theorem dX11_rests_131 : decode cX11_rests 131 = .ok (.iload 5, 2) := by decide +kernel
theorem dX11_rests_133 : decode cX11_rests 133 = .ok (.iload 9, 2) := by decide +kernel
theorem dX11_rests_135 : decode cX11_rests 135 = .ok (.ifCond .eq 7, 3) := by decide +kernel
theorem dX11_rests_138 : decode cX11_rests 138 = .ok (.iconst 1, 1) := by decide +kernel
theorem dX11_rests_139 : decode cX11_rests 139 = .ok (.goto 4, 3) := by decide +kernel
theorem dX11_rests_142 : decode cX11_rests 142 = .ok (.iconst 0, 1) := by decide +kernel
theorem dX11_rests_143 : decode cX11_rests 143 = .ok (.iadd, 1) := by decide +kernel
theorem dX11_rests_144 : decode cX11_rests 144 = .ok (.istore 5, 2) := by decide +kernel
theorem dX11_rests_146 : decode cX11_rests 146 = .ok (.iinc 6 1, 3) := by decide +kernel
theorem dX11_rests_149 : decode cX11_rests 149 = .ok (.goto (-108), 3) := by decide +kernel
theorem dX11_rests_152 : decode cX11_rests 152 = .ok (.iload 4, 2) := by decide +kernel
theorem dX11_rests_154 : decode cX11_rests 154 = .ok (.iconst (-1), 1) := by decide +kernel
theorem dX11_rests_155 : decode cX11_rests 155 = .ok (.if_icmp .eq 11, 3) := by decide +kernel
theorem dX11_rests_158 : decode cX11_rests 158 = .ok (.new 317, 3) := by decide +kernel
theorem dX11_rests_161 : decode cX11_rests 161 = .ok (.dup, 1) := by decide +kernel
theorem dX11_rests_162 : decode cX11_rests 162 = .ok (.invokespecial 319, 3) := by decide +kernel
theorem dX11_rests_165 : decode cX11_rests 165 = .ok (.athrow, 1) := by decide +kernel
theorem dX11_rests_166 : decode cX11_rests 166 = .ok (.iload 5, 2) := by decide +kernel
theorem dX11_rests_168 : decode cX11_rests 168 = .ok (.ireturn, 1) := by decide +kernel
theorem dX11_mornings_0 : decode cX11_mornings 0 = .ok (.iload_n 1, 1) := by decide +kernel
theorem dX11_mornings_1 : decode cX11_mornings 1 = .ok (.ifCond .lt 30, 3) := by decide +kernel
theorem dX11_mornings_4 : decode cX11_mornings 4 = .ok (.iload_n 1, 1) := by decide +kernel
theorem dX11_mornings_5 : decode cX11_mornings 5 = .ok (.sipush 9999, 3) := by decide +kernel
theorem dX11_mornings_8 : decode cX11_mornings 8 = .ok (.if_icmp .gt 23, 3) := by decide +kernel
theorem dX11_mornings_11 : decode cX11_mornings 11 = .ok (.iload_n 2, 1) := by decide +kernel
theorem dX11_mornings_12 : decode cX11_mornings 12 = .ok (.iconst 1, 1) := by decide +kernel
theorem dX11_mornings_13 : decode cX11_mornings 13 = .ok (.if_icmp .lt 18, 3) := by decide +kernel
theorem dX11_mornings_16 : decode cX11_mornings 16 = .ok (.iload_n 2, 1) := by decide +kernel
theorem dX11_mornings_17 : decode cX11_mornings 17 = .ok (.bipush 99, 2) := by decide +kernel
theorem dX11_mornings_19 : decode cX11_mornings 19 = .ok (.if_icmp .gt 12, 3) := by decide +kernel
theorem dX11_mornings_22 : decode cX11_mornings 22 = .ok (.iload_n 3, 1) := by decide +kernel
theorem dX11_mornings_23 : decode cX11_mornings 23 = .ok (.ifCond .lt 8, 3) := by decide +kernel
theorem dX11_mornings_26 : decode cX11_mornings 26 = .ok (.iload_n 3, 1) := by decide +kernel
theorem dX11_mornings_27 : decode cX11_mornings 27 = .ok (.iconst 2, 1) := by decide +kernel
theorem dX11_mornings_28 : decode cX11_mornings 28 = .ok (.if_icmp .le 6, 3) := by decide +kernel
theorem dX11_mornings_31 : decode cX11_mornings 31 = .ok (.bipush (-2), 2) := by decide +kernel
theorem dX11_mornings_33 : decode cX11_mornings 33 = .ok (.ireturn, 1) := by decide +kernel
theorem dX11_mornings_34 : decode cX11_mornings 34 = .ok (.aload_n 0, 1) := by decide +kernel
theorem dX11_mornings_35 : decode cX11_mornings 35 = .ok (.getfield 58, 3) := by decide +kernel
theorem dX11_mornings_38 : decode cX11_mornings 38 = .ok (.invokevirtual 167, 3) := by decide +kernel
theorem dX11_mornings_41 : decode cX11_mornings 41 = .ok (.istore 4, 2) := by decide +kernel
theorem dX11_mornings_43 : decode cX11_mornings 43 = .ok (.iconst 0, 1) := by decide +kernel
theorem dX11_mornings_44 : decode cX11_mornings 44 = .ok (.istore 5, 2) := by decide +kernel
theorem dX11_mornings_46 : decode cX11_mornings 46 = .ok (.iconst 0, 1) := by decide +kernel
theorem dX11_mornings_47 : decode cX11_mornings 47 = .ok (.istore 6, 2) := by decide +kernel
theorem dX11_mornings_49 : decode cX11_mornings 49 = .ok (.iload 4, 2) := by decide +kernel
theorem dX11_mornings_51 : decode cX11_mornings 51 = .ok (.aload_n 0, 1) := by decide +kernel
theorem dX11_mornings_52 : decode cX11_mornings 52 = .ok (.getfield 40, 3) := by decide +kernel
theorem dX11_mornings_55 : decode cX11_mornings 55 = .ok (.invokevirtual 208, 3) := by decide +kernel
theorem dX11_mornings_58 : decode cX11_mornings 58 = .ok (.if_icmp .ne 7, 3) := by decide +kernel
theorem dX11_mornings_61 : decode cX11_mornings 61 = .ok (.iconst 0, 1) := by decide +kernel
theorem dX11_mornings_62 : decode cX11_mornings 62 = .ok (.goto 4, 3) := by decide +kernel
theorem dX11_mornings_65 : decode cX11_mornings 65 = .ok (.iconst (-1), 1) := by decide +kernel
theorem dX11_mornings_66 : decode cX11_mornings 66 = .ok (.istore 7, 2) := by decide +kernel
theorem dX11_mornings_68 : decode cX11_mornings 68 = .ok (.iload_n 1, 1) := by decide +kernel
theorem dX11_mornings_69 : decode cX11_mornings 69 = .ok (.i2l, 1) := by decide +kernel
theorem dX11_mornings_70 : decode cX11_mornings 70 = .ok (.lstore 8, 2) := by decide +kernel
theorem dX11_mornings_72 : decode cX11_mornings 72 = .ok (.iconst 1, 1) := by decide +kernel
theorem dX11_mornings_73 : decode cX11_mornings 73 = .ok (.istore 10, 2) := by decide +kernel
theorem dX11_mornings_75 : decode cX11_mornings 75 = .ok (.iload 10, 2) := by decide +kernel
theorem dX11_mornings_77 : decode cX11_mornings 77 = .ok (.iload_n 2, 1) := by decide +kernel
theorem dX11_mornings_78 : decode cX11_mornings 78 = .ok (.if_icmp .gt 110, 3) := by decide +kernel
theorem dX11_mornings_81 : decode cX11_mornings 81 = .ok (.aload_n 0, 1) := by decide +kernel
theorem dX11_mornings_82 : decode cX11_mornings 82 = .ok (.getfield 40, 3) := by decide +kernel
theorem dX11_mornings_85 : decode cX11_mornings 85 = .ok (.invokevirtual 133, 3) := by decide +kernel
theorem dX11_mornings_88 : decode cX11_mornings 88 = .ok (.ifCond .le 100, 3) := by decide +kernel
theorem dX11_mornings_91 : decode cX11_mornings 91 = .ok (.lload 8, 2) := by decide +kernel
theorem dX11_mornings_93 : decode cX11_mornings 93 = .ok (.invokestatic 324, 3) := by decide +kernel
theorem dX11_mornings_96 : decode cX11_mornings 96 = .ok (.lstore 8, 2) := by decide +kernel
theorem dX11_mornings_98 : decode cX11_mornings 98 = .ok (.lload 8, 2) := by decide +kernel
theorem dX11_mornings_100 : decode cX11_mornings 100 = .ok (.aload_n 0, 1) := by decide +kernel
theorem dX11_mornings_101 : decode cX11_mornings 101 = .ok (.getfield 40, 3) := by decide +kernel
theorem dX11_mornings_104 : decode cX11_mornings 104 = .ok (.invokevirtual 133, 3) := by decide +kernel
theorem dX11_mornings_107 : decode cX11_mornings 107 = .ok (.invokestatic 328, 3) := by decide +kernel
theorem dX11_mornings_110 : decode cX11_mornings 110 = .ok (.iconst 1, 1) := by decide +kernel
theorem dX11_mornings_111 : decode cX11_mornings 111 = .ok (.iadd, 1) := by decide +kernel
theorem dX11_mornings_112 : decode cX11_mornings 112 = .ok (.istore 11, 2) := by decide +kernel
theorem dX11_mornings_114 : decode cX11_mornings 114 = .ok (.aload_n 0, 1) := by decide +kernel
theorem dX11_mornings_115 : decode cX11_mornings 115 = .ok (.getfield 40, 3) := by decide +kernel
theorem dX11_mornings_118 : decode cX11_mornings 118 = .ok (.iload 4, 2) := by decide +kernel
theorem dX11_mornings_120 : decode cX11_mornings 120 = .ok (.iload 11, 2) := by decide +kernel
theorem dX11_mornings_122 : decode cX11_mornings 122 = .ok (.invokevirtual 181, 3) := by decide +kernel
theorem dX11_mornings_125 : decode cX11_mornings 125 = .ok (.ifCond .eq 35, 3) := by decide +kernel
theorem dX11_mornings_128 : decode cX11_mornings 128 = .ok (.iinc 5 1, 3) := by decide +kernel
theorem dX11_mornings_131 : decode cX11_mornings 131 = .ok (.iload 6, 2) := by decide +kernel
theorem dX11_mornings_133 : decode cX11_mornings 133 = .ok (.aload_n 0, 1) := by decide +kernel
theorem dX11_mornings_134 : decode cX11_mornings 134 = .ok (.getfield 40, 3) := by decide +kernel
theorem dX11_mornings_137 : decode cX11_mornings 137 = .ok (.iload 4, 2) := by decide +kernel
theorem dX11_mornings_139 : decode cX11_mornings 139 = .ok (.iload 11, 2) := by decide +kernel
theorem dX11_mornings_141 : decode cX11_mornings 141 = .ok (.invokevirtual 184, 3) := by decide +kernel
theorem dX11_mornings_144 : decode cX11_mornings 144 = .ok (.iadd, 1) := by decide +kernel
theorem dX11_mornings_145 : decode cX11_mornings 145 = .ok (.istore 6, 2) := by decide +kernel
theorem dX11_mornings_147 : decode cX11_mornings 147 = .ok (.aload_n 0, 1) := by decide +kernel
theorem dX11_mornings_148 : decode cX11_mornings 148 = .ok (.getfield 40, 3) := by decide +kernel
theorem dX11_mornings_151 : decode cX11_mornings 151 = .ok (.iload 4, 2) := by decide +kernel
theorem dX11_mornings_153 : decode cX11_mornings 153 = .ok (.iload 11, 2) := by decide +kernel
theorem dX11_mornings_155 : decode cX11_mornings 155 = .ok (.invokevirtual 187, 3) := by decide +kernel
theorem dX11_mornings_158 : decode cX11_mornings 158 = .ok (.istore 4, 2) := by decide +kernel
theorem dX11_mornings_160 : decode cX11_mornings 160 = .ok (.iload 7, 2) := by decide +kernel
theorem dX11_mornings_162 : decode cX11_mornings 162 = .ok (.iconst (-1), 1) := by decide +kernel
theorem dX11_mornings_163 : decode cX11_mornings 163 = .ok (.if_icmp .ne 19, 3) := by decide +kernel
theorem dX11_mornings_166 : decode cX11_mornings 166 = .ok (.iload 4, 2) := by decide +kernel
theorem dX11_mornings_168 : decode cX11_mornings 168 = .ok (.aload_n 0, 1) := by decide +kernel
theorem dX11_mornings_169 : decode cX11_mornings 169 = .ok (.getfield 40, 3) := by decide +kernel
theorem dX11_mornings_172 : decode cX11_mornings 172 = .ok (.invokevirtual 208, 3) := by decide +kernel
theorem dX11_mornings_175 : decode cX11_mornings 175 = .ok (.if_icmp .ne 7, 3) := by decide +kernel
theorem dX11_mornings_178 : decode cX11_mornings 178 = .ok (.iload 10, 2) := by decide +kernel
theorem dX11_mornings_180 : decode cX11_mornings 180 = .ok (.istore 7, 2) := by decide +kernel
theorem dX11_mornings_182 : decode cX11_mornings 182 = .ok (.iinc 10 1, 3) := by decide +kernel
theorem dX11_mornings_185 : decode cX11_mornings 185 = .ok (.goto (-110), 3) := by decide +kernel
theorem dX11_mornings_188 : decode cX11_mornings 188 = .ok (.iload_n 3, 1) := by decide +kernel
theorem dX11_mornings_189 : decode cX11_mornings 189 = .ok (.lookupswitch 33 #[(0, 27), (1, 30)], 27) := by decide +kernel
theorem dX11_mornings_216 : decode cX11_mornings 216 = .ok (.iload 5, 2) := by decide +kernel
theorem dX11_mornings_218 : decode cX11_mornings 218 = .ok (.ireturn, 1) := by decide +kernel
theorem dX11_mornings_219 : decode cX11_mornings 219 = .ok (.iload 6, 2) := by decide +kernel
theorem dX11_mornings_221 : decode cX11_mornings 221 = .ok (.ireturn, 1) := by decide +kernel
theorem dX11_mornings_222 : decode cX11_mornings 222 = .ok (.iload 7, 2) := by decide +kernel
theorem dX11_mornings_224 : decode cX11_mornings 224 = .ok (.ireturn, 1) := by decide +kernel
theorem dX11_mark_0 : decode cX11_mark 0 = .ok (.iload_n 1, 1) := by decide +kernel
theorem dX11_mark_1 : decode cX11_mark 1 = .ok (.ifCond .lt 12, 3) := by decide +kernel
theorem dX11_mark_4 : decode cX11_mark 4 = .ok (.iload_n 1, 1) := by decide +kernel
theorem dX11_mark_5 : decode cX11_mark 5 = .ok (.aload_n 0, 1) := by decide +kernel
theorem dX11_mark_6 : decode cX11_mark 6 = .ok (.getfield 62, 3) := by decide +kernel
theorem dX11_mark_9 : decode cX11_mark 9 = .ok (.arraylength, 1) := by decide +kernel
theorem dX11_mark_10 : decode cX11_mark 10 = .ok (.if_icmp .lt 5, 3) := by decide +kernel
theorem dX11_mark_13 : decode cX11_mark 13 = .ok (.iconst 0, 1) := by decide +kernel
theorem dX11_mark_14 : decode cX11_mark 14 = .ok (.ireturn, 1) := by decide +kernel
theorem dX11_mark_15 : decode cX11_mark 15 = .ok (.aload_n 0, 1) := by decide +kernel
theorem dX11_mark_16 : decode cX11_mark 16 = .ok (.getfield 62, 3) := by decide +kernel
theorem dX11_mark_19 : decode cX11_mark 19 = .ok (.iload_n 1, 1) := by decide +kernel
theorem dX11_mark_20 : decode cX11_mark 20 = .ok (.aaload, 1) := by decide +kernel
theorem dX11_mark_21 : decode cX11_mark 21 = .ok (.astore_n 3, 1) := by decide +kernel
theorem dX11_mark_22 : decode cX11_mark 22 = .ok (.iload_n 2, 1) := by decide +kernel
theorem dX11_mark_23 : decode cX11_mark 23 = .ok (.ifCond .ne 13, 3) := by decide +kernel
theorem dX11_mark_26 : decode cX11_mark 26 = .ok (.aload_n 3, 1) := by decide +kernel
theorem dX11_mark_27 : decode cX11_mark 27 = .ok (.aload_n 0, 1) := by decide +kernel
theorem dX11_mark_28 : decode cX11_mark 28 = .ok (.getfield 58, 3) := by decide +kernel
theorem dX11_mark_31 : decode cX11_mark 31 = .ok (.invokevirtual 332, 3) := by decide +kernel
theorem dX11_mark_34 : decode cX11_mark 34 = .ok (.iconst 1, 1) := by decide +kernel
theorem dX11_mark_35 : decode cX11_mark 35 = .ok (.ireturn, 1) := by decide +kernel
theorem dX11_mark_36 : decode cX11_mark 36 = .ok (.aload_n 3, 1) := by decide +kernel
theorem dX11_mark_37 : decode cX11_mark 37 = .ok (.invokevirtual 335, 3) := by decide +kernel
theorem dX11_mark_40 : decode cX11_mark 40 = .ok (.ifCond .ne 5, 3) := by decide +kernel
theorem dX11_mark_43 : decode cX11_mark 43 = .ok (.iconst 0, 1) := by decide +kernel
theorem dX11_mark_44 : decode cX11_mark 44 = .ok (.ireturn, 1) := by decide +kernel
theorem dX11_mark_45 : decode cX11_mark 45 = .ok (.aload_n 0, 1) := by decide +kernel
theorem dX11_mark_46 : decode cX11_mark 46 = .ok (.getfield 58, 3) := by decide +kernel
theorem dX11_mark_49 : decode cX11_mark 49 = .ok (.aload_n 3, 1) := by decide +kernel
theorem dX11_mark_50 : decode cX11_mark 50 = .ok (.invokevirtual 332, 3) := by decide +kernel
theorem dX11_mark_53 : decode cX11_mark 53 = .ok (.aload_n 0, 1) := by decide +kernel
theorem dX11_mark_54 : decode cX11_mark 54 = .ok (.iconst 0, 1) := by decide +kernel
theorem dX11_mark_55 : decode cX11_mark 55 = .ok (.putfield 198, 3) := by decide +kernel
theorem dX11_mark_58 : decode cX11_mark 58 = .ok (.iconst 1, 1) := by decide +kernel
theorem dX11_mark_59 : decode cX11_mark 59 = .ok (.ireturn, 1) := by decide +kernel
theorem dX11_count_0 : decode cX11_count 0 = .ok (.iload_n 1, 1) := by decide +kernel
theorem dX11_count_1 : decode cX11_count 1 = .ok (.tableswitch 141 0 9 #[55, 63, 71, 79, 87, 92, 100, 120, 128, 133], 55) := by decide +kernel
theorem dX11_count_56 : decode cX11_count 56 = .ok (.aload_n 0, 1) := by decide +kernel
theorem dX11_count_57 : decode cX11_count 57 = .ok (.getfield 40, 3) := by decide +kernel
theorem dX11_count_60 : decode cX11_count 60 = .ok (.invokevirtual 133, 3) := by decide +kernel
theorem dX11_count_63 : decode cX11_count 63 = .ok (.ireturn, 1) := by decide +kernel
theorem dX11_count_64 : decode cX11_count 64 = .ok (.aload_n 0, 1) := by decide +kernel
theorem dX11_count_65 : decode cX11_count 65 = .ok (.getfield 40, 3) := by decide +kernel
theorem dX11_count_68 : decode cX11_count 68 = .ok (.invokevirtual 289, 3) := by decide +kernel
theorem dX11_count_71 : decode cX11_count 71 = .ok (.ireturn, 1) := by decide +kernel
theorem dX11_count_72 : decode cX11_count 72 = .ok (.aload_n 0, 1) := by decide +kernel
theorem dX11_count_73 : decode cX11_count 73 = .ok (.getfield 58, 3) := by decide +kernel
theorem dX11_count_76 : decode cX11_count 76 = .ok (.invokevirtual 339, 3) := by decide +kernel
theorem dX11_count_79 : decode cX11_count 79 = .ok (.ireturn, 1) := by decide +kernel
theorem dX11_count_80 : decode cX11_count 80 = .ok (.aload_n 0, 1) := by decide +kernel
theorem dX11_count_81 : decode cX11_count 81 = .ok (.getfield 58, 3) := by decide +kernel
theorem dX11_count_84 : decode cX11_count 84 = .ok (.invokevirtual 342, 3) := by decide +kernel
theorem dX11_count_87 : decode cX11_count 87 = .ok (.ireturn, 1) := by decide +kernel
theorem dX11_count_88 : decode cX11_count 88 = .ok (.aload_n 0, 1) := by decide +kernel
theorem dX11_count_89 : decode cX11_count 89 = .ok (.invokevirtual 345, 3) := by decide +kernel
theorem dX11_count_92 : decode cX11_count 92 = .ok (.ireturn, 1) := by decide +kernel
theorem dX11_count_93 : decode cX11_count 93 = .ok (.aload_n 0, 1) := by decide +kernel
theorem dX11_count_94 : decode cX11_count 94 = .ok (.getfield 47, 3) := by decide +kernel
theorem dX11_count_97 : decode cX11_count 97 = .ok (.invokevirtual 271, 3) := by decide +kernel
theorem dX11_count_100 : decode cX11_count 100 = .ok (.ireturn, 1) := by decide +kernel
theorem dX11_count_101 : decode cX11_count 101 = .ok (.aload_n 0, 1) := by decide +kernel
theorem dX11_count_102 : decode cX11_count 102 = .ok (.getfield 51, 3) := by decide +kernel
theorem dX11_count_105 : decode cX11_count 105 = .ok (.iconst (-1), 1) := by decide +kernel
theorem dX11_count_106 : decode cX11_count 106 = .ok (.if_icmp .ne 7, 3) := by decide +kernel
theorem dX11_count_109 : decode cX11_count 109 = .ok (.iconst 0, 1) := by decide +kernel
theorem dX11_count_110 : decode cX11_count 110 = .ok (.goto 10, 3) := by decide +kernel
theorem dX11_count_113 : decode cX11_count 113 = .ok (.aload_n 0, 1) := by decide +kernel
theorem dX11_count_114 : decode cX11_count 114 = .ok (.getfield 40, 3) := by decide +kernel
theorem dX11_count_117 : decode cX11_count 117 = .ok (.invokevirtual 133, 3) := by decide +kernel
theorem dX11_count_120 : decode cX11_count 120 = .ok (.ireturn, 1) := by decide +kernel
theorem dX11_count_121 : decode cX11_count 121 = .ok (.aload_n 0, 1) := by decide +kernel
theorem dX11_count_122 : decode cX11_count 122 = .ok (.getfield 58, 3) := by decide +kernel
theorem dX11_count_125 : decode cX11_count 125 = .ok (.invokevirtual 348, 3) := by decide +kernel
theorem dX11_count_128 : decode cX11_count 128 = .ok (.ireturn, 1) := by decide +kernel
theorem dX11_count_129 : decode cX11_count 129 = .ok (.aload_n 0, 1) := by decide +kernel
theorem dX11_count_130 : decode cX11_count 130 = .ok (.getfield 198, 3) := by decide +kernel
theorem dX11_count_133 : decode cX11_count 133 = .ok (.ireturn, 1) := by decide +kernel
theorem dX11_count_134 : decode cX11_count 134 = .ok (.aload_n 0, 1) := by decide +kernel
theorem dX11_count_135 : decode cX11_count 135 = .ok (.getfield 10, 3) := by decide +kernel
theorem dX11_count_138 : decode cX11_count 138 = .ok (.invokevirtual 120, 3) := by decide +kernel
theorem dX11_count_141 : decode cX11_count 141 = .ok (.ireturn, 1) := by decide +kernel
theorem dX11_count_142 : decode cX11_count 142 = .ok (.iconst (-1), 1) := by decide +kernel
theorem dX11_count_143 : decode cX11_count 143 = .ok (.ireturn, 1) := by decide +kernel
theorem dX11_at_0 : decode cX11_at 0 = .ok (.iload_n 1, 1) := by decide +kernel
theorem dX11_at_1 : decode cX11_at 1 = .ok (.ifCond .lt 15, 3) := by decide +kernel
theorem dX11_at_4 : decode cX11_at 4 = .ok (.iload_n 1, 1) := by decide +kernel
theorem dX11_at_5 : decode cX11_at 5 = .ok (.aload_n 0, 1) := by decide +kernel
theorem dX11_at_6 : decode cX11_at 6 = .ok (.arraylength, 1) := by decide +kernel
theorem dX11_at_7 : decode cX11_at 7 = .ok (.if_icmp .ge 9, 3) := by decide +kernel
theorem dX11_at_10 : decode cX11_at 10 = .ok (.aload_n 0, 1) := by decide +kernel
theorem dX11_at_11 : decode cX11_at 11 = .ok (.iload_n 1, 1) := by decide +kernel
theorem dX11_at_12 : decode cX11_at 12 = .ok (.iaload, 1) := by decide +kernel
theorem dX11_at_13 : decode cX11_at 13 = .ok (.goto 4, 3) := by decide +kernel
theorem dX11_at_16 : decode cX11_at 16 = .ok (.iconst (-1), 1) := by decide +kernel
theorem dX11_at_17 : decode cX11_at 17 = .ok (.ireturn, 1) := by decide +kernel
theorem dX11_put_0 : decode cX11_put 0 = .ok (.iload_n 1, 1) := by decide +kernel
theorem dX11_put_1 : decode cX11_put 1 = .ok (.ifCond .lt 13, 3) := by decide +kernel
theorem dX11_put_4 : decode cX11_put 4 = .ok (.iload_n 1, 1) := by decide +kernel
theorem dX11_put_5 : decode cX11_put 5 = .ok (.aload_n 0, 1) := by decide +kernel
theorem dX11_put_6 : decode cX11_put 6 = .ok (.arraylength, 1) := by decide +kernel
theorem dX11_put_7 : decode cX11_put 7 = .ok (.if_icmp .ge 7, 3) := by decide +kernel
theorem dX11_put_10 : decode cX11_put 10 = .ok (.aload_n 0, 1) := by decide +kernel
theorem dX11_put_11 : decode cX11_put 11 = .ok (.iload_n 1, 1) := by decide +kernel
theorem dX11_put_12 : decode cX11_put 12 = .ok (.iload_n 2, 1) := by decide +kernel
theorem dX11_put_13 : decode cX11_put 13 = .ok (.iastore, 1) := by decide +kernel
theorem dX11_put_14 : decode cX11_put 14 = .ok (.return_, 1) := by decide +kernel
theorem dX11_isDigit_0 : decode cX11_isDigit 0 = .ok (.iload_n 0, 1) := by decide +kernel
theorem dX11_isDigit_1 : decode cX11_isDigit 1 = .ok (.ifCond .lt 13, 3) := by decide +kernel
theorem dX11_isDigit_4 : decode cX11_isDigit 4 = .ok (.iload_n 0, 1) := by decide +kernel
theorem dX11_isDigit_5 : decode cX11_isDigit 5 = .ok (.bipush 9, 2) := by decide +kernel
theorem dX11_isDigit_7 : decode cX11_isDigit 7 = .ok (.if_icmp .gt 7, 3) := by decide +kernel
theorem dX11_isDigit_10 : decode cX11_isDigit 10 = .ok (.iconst 1, 1) := by decide +kernel
theorem dX11_isDigit_11 : decode cX11_isDigit 11 = .ok (.goto 4, 3) := by decide +kernel
theorem dX11_isDigit_14 : decode cX11_isDigit 14 = .ok (.iconst 0, 1) := by decide +kernel
theorem dX11_isDigit_15 : decode cX11_isDigit 15 = .ok (.ireturn, 1) := by decide +kernel
theorem dX11_gain_0 : decode cX11_gain 0 = .ok (.iload_n 0, 1) := by decide +kernel
theorem dX11_gain_1 : decode cX11_gain 1 = .ok (.iconst 1, 1) := by decide +kernel
theorem dX11_gain_2 : decode cX11_gain 2 = .ok (.if_icmp .ne 15, 3) := by decide +kernel
theorem dX11_gain_5 : decode cX11_gain 5 = .ok (.iload_n 1, 1) := by decide +kernel
theorem dX11_gain_6 : decode cX11_gain 6 = .ok (.iconst 1, 1) := by decide +kernel
theorem dX11_gain_7 : decode cX11_gain 7 = .ok (.if_icmp .ne 8, 3) := by decide +kernel
theorem dX11_gain_10 : decode cX11_gain 10 = .ok (.iload_n 2, 1) := by decide +kernel
theorem dX11_gain_11 : decode cX11_gain 11 = .ok (.ineg, 1) := by decide +kernel
theorem dX11_gain_12 : decode cX11_gain 12 = .ok (.goto 4, 3) := by decide +kernel
theorem dX11_gain_15 : decode cX11_gain 15 = .ok (.iload_n 3, 1) := by decide +kernel
theorem dX11_gain_16 : decode cX11_gain 16 = .ok (.ireturn, 1) := by decide +kernel
theorem dX11_gain_17 : decode cX11_gain 17 = .ok (.iload_n 1, 1) := by decide +kernel
theorem dX11_gain_18 : decode cX11_gain 18 = .ok (.iconst 1, 1) := by decide +kernel
theorem dX11_gain_19 : decode cX11_gain 19 = .ok (.if_icmp .ne 8, 3) := by decide +kernel
theorem dX11_gain_22 : decode cX11_gain 22 = .ok (.iload 4, 2) := by decide +kernel
theorem dX11_gain_24 : decode cX11_gain 24 = .ok (.goto 4, 3) := by decide +kernel
theorem dX11_gain_27 : decode cX11_gain 27 = .ok (.iconst 0, 1) := by decide +kernel
theorem dX11_gain_28 : decode cX11_gain 28 = .ok (.ireturn, 1) := by decide +kernel
theorem dX11_nextState_0 : decode cX11_nextState 0 = .ok (.lload_n 0, 1) := by decide +kernel
theorem dX11_nextState_1 : decode cX11_nextState 1 = .ok (.ldc2_w 351, 3) := by decide +kernel
theorem dX11_nextState_4 : decode cX11_nextState 4 = .ok (.lmul, 1) := by decide +kernel
theorem dX11_nextState_5 : decode cX11_nextState 5 = .ok (.ldc2_w 353, 3) := by decide +kernel
theorem dX11_nextState_8 : decode cX11_nextState 8 = .ok (.ladd, 1) := by decide +kernel
theorem dX11_nextState_9 : decode cX11_nextState 9 = .ok (.ldc2_w 355, 3) := by decide +kernel
theorem dX11_nextState_12 : decode cX11_nextState 12 = .ok (.lrem, 1) := by decide +kernel
theorem dX11_nextState_13 : decode cX11_nextState 13 = .ok (.lreturn, 1) := by decide +kernel
theorem dX11_drawBelow_0 : decode cX11_drawBelow 0 = .ok (.iload_n 2, 1) := by decide +kernel
theorem dX11_drawBelow_1 : decode cX11_drawBelow 1 = .ok (.ifCond .le 15, 3) := by decide +kernel
theorem dX11_drawBelow_4 : decode cX11_drawBelow 4 = .ok (.lload_n 0, 1) := by decide +kernel
theorem dX11_drawBelow_5 : decode cX11_drawBelow 5 = .ok (.ldc2_w 357, 3) := by decide +kernel
theorem dX11_drawBelow_8 : decode cX11_drawBelow 8 = .ok (.ldiv, 1) := by decide +kernel
theorem dX11_drawBelow_9 : decode cX11_drawBelow 9 = .ok (.iload_n 2, 1) := by decide +kernel
theorem dX11_drawBelow_10 : decode cX11_drawBelow 10 = .ok (.i2l, 1) := by decide +kernel
theorem dX11_drawBelow_11 : decode cX11_drawBelow 11 = .ok (.lrem, 1) := by decide +kernel
theorem dX11_drawBelow_12 : decode cX11_drawBelow 12 = .ok (.l2i, 1) := by decide +kernel
theorem dX11_drawBelow_13 : decode cX11_drawBelow 13 = .ok (.goto 4, 3) := by decide +kernel
theorem dX11_drawBelow_16 : decode cX11_drawBelow 16 = .ok (.iconst 0, 1) := by decide +kernel
theorem dX11_drawBelow_17 : decode cX11_drawBelow 17 = .ok (.ireturn, 1) := by decide +kernel
theorem dX11_isTurn_0 : decode cX11_isTurn 0 = .ok (.iload_n 1, 1) := by decide +kernel
theorem dX11_isTurn_1 : decode cX11_isTurn 1 = .ok (.iconst 1, 1) := by decide +kernel
theorem dX11_isTurn_2 : decode cX11_isTurn 2 = .ok (.if_icmp .lt 18, 3) := by decide +kernel
theorem dX11_isTurn_5 : decode cX11_isTurn 5 = .ok (.iload_n 1, 1) := by decide +kernel
theorem dX11_isTurn_6 : decode cX11_isTurn 6 = .ok (.aload_n 0, 1) := by decide +kernel
theorem dX11_isTurn_7 : decode cX11_isTurn 7 = .ok (.getfield 40, 3) := by decide +kernel
theorem dX11_isTurn_10 : decode cX11_isTurn 10 = .ok (.invokevirtual 133, 3) := by decide +kernel
theorem dX11_isTurn_13 : decode cX11_isTurn 13 = .ok (.if_icmp .gt 7, 3) := by decide +kernel
theorem dX11_isTurn_16 : decode cX11_isTurn 16 = .ok (.iconst 1, 1) := by decide +kernel
theorem dX11_isTurn_17 : decode cX11_isTurn 17 = .ok (.goto 4, 3) := by decide +kernel
theorem dX11_isTurn_20 : decode cX11_isTurn 20 = .ok (.iconst 0, 1) := by decide +kernel
theorem dX11_isTurn_21 : decode cX11_isTurn 21 = .ok (.ireturn, 1) := by decide +kernel
theorem dX11_isPlace_0 : decode cX11_isPlace 0 = .ok (.iload_n 1, 1) := by decide +kernel
theorem dX11_isPlace_1 : decode cX11_isPlace 1 = .ok (.ifCond .lt 18, 3) := by decide +kernel
theorem dX11_isPlace_4 : decode cX11_isPlace 4 = .ok (.iload_n 1, 1) := by decide +kernel
theorem dX11_isPlace_5 : decode cX11_isPlace 5 = .ok (.aload_n 0, 1) := by decide +kernel
theorem dX11_isPlace_6 : decode cX11_isPlace 6 = .ok (.getfield 40, 3) := by decide +kernel
theorem dX11_isPlace_9 : decode cX11_isPlace 9 = .ok (.invokevirtual 133, 3) := by decide +kernel
theorem dX11_isPlace_12 : decode cX11_isPlace 12 = .ok (.if_icmp .ge 7, 3) := by decide +kernel
theorem dX11_isPlace_15 : decode cX11_isPlace 15 = .ok (.iconst 1, 1) := by decide +kernel
theorem dX11_isPlace_16 : decode cX11_isPlace 16 = .ok (.goto 4, 3) := by decide +kernel
theorem dX11_isPlace_19 : decode cX11_isPlace 19 = .ok (.iconst 0, 1) := by decide +kernel
theorem dX11_isPlace_20 : decode cX11_isPlace 20 = .ok (.ireturn, 1) := by decide +kernel
theorem dX11_beginAnew_0 : decode cX11_beginAnew 0 = .ok (.aload_n 0, 1) := by decide +kernel
theorem dX11_beginAnew_1 : decode cX11_beginAnew 1 = .ok (.getfield 47, 3) := by decide +kernel
theorem dX11_beginAnew_4 : decode cX11_beginAnew 4 = .ok (.invokevirtual 359, 3) := by decide +kernel
theorem dX11_beginAnew_7 : decode cX11_beginAnew 7 = .ok (.aload_n 0, 1) := by decide +kernel
theorem dX11_beginAnew_8 : decode cX11_beginAnew 8 = .ok (.iconst (-1), 1) := by decide +kernel
theorem dX11_beginAnew_9 : decode cX11_beginAnew 9 = .ok (.putfield 51, 3) := by decide +kernel
theorem dX11_beginAnew_12 : decode cX11_beginAnew 12 = .ok (.aload_n 0, 1) := by decide +kernel
theorem dX11_beginAnew_13 : decode cX11_beginAnew 13 = .ok (.getfield 58, 3) := by decide +kernel
theorem dX11_beginAnew_16 : decode cX11_beginAnew 16 = .ok (.aload_n 0, 1) := by decide +kernel
theorem dX11_beginAnew_17 : decode cX11_beginAnew 17 = .ok (.getfield 40, 3) := by decide +kernel
theorem dX11_beginAnew_20 : decode cX11_beginAnew 20 = .ok (.invokevirtual 108, 3) := by decide +kernel
theorem dX11_beginAnew_23 : decode cX11_beginAnew 23 = .ok (.invokevirtual 112, 3) := by decide +kernel
theorem dX11_beginAnew_26 : decode cX11_beginAnew 26 = .ok (.aload_n 0, 1) := by decide +kernel
theorem dX11_beginAnew_27 : decode cX11_beginAnew 27 = .ok (.iconst 0, 1) := by decide +kernel
theorem dX11_beginAnew_28 : decode cX11_beginAnew 28 = .ok (.putfield 198, 3) := by decide +kernel
theorem dX11_beginAnew_31 : decode cX11_beginAnew 31 = .ok (.iconst 0, 1) := by decide +kernel
theorem dX11_beginAnew_32 : decode cX11_beginAnew 32 = .ok (.istore_n 1, 1) := by decide +kernel
theorem dX11_beginAnew_33 : decode cX11_beginAnew 33 = .ok (.iload_n 1, 1) := by decide +kernel
theorem dX11_beginAnew_34 : decode cX11_beginAnew 34 = .ok (.aload_n 0, 1) := by decide +kernel
theorem dX11_beginAnew_35 : decode cX11_beginAnew 35 = .ok (.getfield 62, 3) := by decide +kernel
theorem dX11_beginAnew_38 : decode cX11_beginAnew 38 = .ok (.arraylength, 1) := by decide +kernel
theorem dX11_beginAnew_39 : decode cX11_beginAnew 39 = .ok (.if_icmp .ge 18, 3) := by decide +kernel
theorem dX11_beginAnew_42 : decode cX11_beginAnew 42 = .ok (.aload_n 0, 1) := by decide +kernel
theorem dX11_beginAnew_43 : decode cX11_beginAnew 43 = .ok (.getfield 62, 3) := by decide +kernel
theorem dX11_beginAnew_46 : decode cX11_beginAnew 46 = .ok (.iload_n 1, 1) := by decide +kernel
theorem dX11_beginAnew_47 : decode cX11_beginAnew 47 = .ok (.aaload, 1) := by decide +kernel
theorem dX11_beginAnew_48 : decode cX11_beginAnew 48 = .ok (.invokevirtual 362, 3) := by decide +kernel
theorem dX11_beginAnew_51 : decode cX11_beginAnew 51 = .ok (.iinc 1 1, 3) := by decide +kernel
theorem dX11_beginAnew_54 : decode cX11_beginAnew 54 = .ok (.goto (-21), 3) := by decide +kernel
theorem dX11_beginAnew_57 : decode cX11_beginAnew 57 = .ok (.aload_n 0, 1) := by decide +kernel
theorem dX11_beginAnew_58 : decode cX11_beginAnew 58 = .ok (.getfield 78, 3) := by decide +kernel
theorem dX11_beginAnew_61 : decode cX11_beginAnew 61 = .ok (.invokevirtual 363, 3) := by decide +kernel
theorem dX11_beginAnew_64 : decode cX11_beginAnew 64 = .ok (.iconst 0, 1) := by decide +kernel
theorem dX11_beginAnew_65 : decode cX11_beginAnew 65 = .ok (.istore_n 1, 1) := by decide +kernel
theorem dX11_beginAnew_66 : decode cX11_beginAnew 66 = .ok (.iload_n 1, 1) := by decide +kernel
theorem dX11_beginAnew_67 : decode cX11_beginAnew 67 = .ok (.aload_n 0, 1) := by decide +kernel
theorem dX11_beginAnew_68 : decode cX11_beginAnew 68 = .ok (.getfield 82, 3) := by decide +kernel
theorem dX11_beginAnew_71 : decode cX11_beginAnew 71 = .ok (.arraylength, 1) := by decide +kernel
theorem dX11_beginAnew_72 : decode cX11_beginAnew 72 = .ok (.if_icmp .ge 18, 3) := by decide +kernel
theorem dX11_beginAnew_75 : decode cX11_beginAnew 75 = .ok (.aload_n 0, 1) := by decide +kernel
theorem dX11_beginAnew_76 : decode cX11_beginAnew 76 = .ok (.getfield 82, 3) := by decide +kernel
theorem dX11_beginAnew_79 : decode cX11_beginAnew 79 = .ok (.iload_n 1, 1) := by decide +kernel
theorem dX11_beginAnew_80 : decode cX11_beginAnew 80 = .ok (.aaload, 1) := by decide +kernel
theorem dX11_beginAnew_81 : decode cX11_beginAnew 81 = .ok (.invokevirtual 363, 3) := by decide +kernel
theorem dX11_beginAnew_84 : decode cX11_beginAnew 84 = .ok (.iinc 1 1, 3) := by decide +kernel
theorem dX11_beginAnew_87 : decode cX11_beginAnew 87 = .ok (.goto (-21), 3) := by decide +kernel
theorem dX11_beginAnew_90 : decode cX11_beginAnew 90 = .ok (.aload_n 0, 1) := by decide +kernel
theorem dX11_beginAnew_91 : decode cX11_beginAnew 91 = .ok (.getfield 86, 3) := by decide +kernel
theorem dX11_beginAnew_94 : decode cX11_beginAnew 94 = .ok (.invokevirtual 363, 3) := by decide +kernel
theorem dX11_beginAnew_97 : decode cX11_beginAnew 97 = .ok (.aload_n 0, 1) := by decide +kernel
theorem dX11_beginAnew_98 : decode cX11_beginAnew 98 = .ok (.getfield 89, 3) := by decide +kernel
theorem dX11_beginAnew_101 : decode cX11_beginAnew 101 = .ok (.invokevirtual 363, 3) := by decide +kernel
theorem dX11_beginAnew_104 : decode cX11_beginAnew 104 = .ok (.aload_n 0, 1) := by decide +kernel
theorem dX11_beginAnew_105 : decode cX11_beginAnew 105 = .ok (.getfield 97, 3) := by decide +kernel
theorem dX11_beginAnew_108 : decode cX11_beginAnew 108 = .ok (.invokevirtual 366, 3) := by decide +kernel
theorem dX11_beginAnew_111 : decode cX11_beginAnew 111 = .ok (.aload_n 0, 1) := by decide +kernel
theorem dX11_beginAnew_112 : decode cX11_beginAnew 112 = .ok (.getfield 104, 3) := by decide +kernel
theorem dX11_beginAnew_115 : decode cX11_beginAnew 115 = .ok (.invokevirtual 367, 3) := by decide +kernel
theorem dX11_beginAnew_118 : decode cX11_beginAnew 118 = .ok (.return_, 1) := by decide +kernel
theorem dX11_keepForUndo_0 : decode cX11_keepForUndo 0 = .ok (.aload_n 0, 1) := by decide +kernel
theorem dX11_keepForUndo_1 : decode cX11_keepForUndo 1 = .ok (.getfield 198, 3) := by decide +kernel
theorem dX11_keepForUndo_4 : decode cX11_keepForUndo 4 = .ok (.bipush 16, 2) := by decide +kernel
theorem dX11_keepForUndo_6 : decode cX11_keepForUndo 6 = .ok (.if_icmp .lt 63, 3) := by decide +kernel
theorem dX11_keepForUndo_9 : decode cX11_keepForUndo 9 = .ok (.iconst 1, 1) := by decide +kernel
theorem dX11_keepForUndo_10 : decode cX11_keepForUndo 10 = .ok (.istore_n 3, 1) := by decide +kernel
theorem dX11_keepForUndo_11 : decode cX11_keepForUndo 11 = .ok (.iload_n 3, 1) := by decide +kernel
theorem dX11_keepForUndo_12 : decode cX11_keepForUndo 12 = .ok (.aload_n 0, 1) := by decide +kernel
theorem dX11_keepForUndo_13 : decode cX11_keepForUndo 13 = .ok (.getfield 66, 3) := by decide +kernel
theorem dX11_keepForUndo_16 : decode cX11_keepForUndo 16 = .ok (.arraylength, 1) := by decide +kernel
theorem dX11_keepForUndo_17 : decode cX11_keepForUndo 17 = .ok (.if_icmp .ge 46, 3) := by decide +kernel
theorem dX11_keepForUndo_20 : decode cX11_keepForUndo 20 = .ok (.iload_n 3, 1) := by decide +kernel
theorem dX11_keepForUndo_21 : decode cX11_keepForUndo 21 = .ok (.aload_n 0, 1) := by decide +kernel
theorem dX11_keepForUndo_22 : decode cX11_keepForUndo 22 = .ok (.getfield 70, 3) := by decide +kernel
theorem dX11_keepForUndo_25 : decode cX11_keepForUndo 25 = .ok (.arraylength, 1) := by decide +kernel
theorem dX11_keepForUndo_26 : decode cX11_keepForUndo 26 = .ok (.if_icmp .ge 37, 3) := by decide +kernel
theorem dX11_keepForUndo_29 : decode cX11_keepForUndo 29 = .ok (.aload_n 0, 1) := by decide +kernel
theorem dX11_keepForUndo_30 : decode cX11_keepForUndo 30 = .ok (.getfield 66, 3) := by decide +kernel
theorem dX11_keepForUndo_33 : decode cX11_keepForUndo 33 = .ok (.iload_n 3, 1) := by decide +kernel
theorem dX11_keepForUndo_34 : decode cX11_keepForUndo 34 = .ok (.iconst 1, 1) := by decide +kernel
theorem dX11_keepForUndo_35 : decode cX11_keepForUndo 35 = .ok (.isub, 1) := by decide +kernel
theorem dX11_keepForUndo_36 : decode cX11_keepForUndo 36 = .ok (.aload_n 0, 1) := by decide +kernel
theorem dX11_keepForUndo_37 : decode cX11_keepForUndo 37 = .ok (.getfield 66, 3) := by decide +kernel
theorem dX11_keepForUndo_40 : decode cX11_keepForUndo 40 = .ok (.iload_n 3, 1) := by decide +kernel
theorem dX11_keepForUndo_41 : decode cX11_keepForUndo 41 = .ok (.iaload, 1) := by decide +kernel
theorem dX11_keepForUndo_42 : decode cX11_keepForUndo 42 = .ok (.iastore, 1) := by decide +kernel
theorem dX11_keepForUndo_43 : decode cX11_keepForUndo 43 = .ok (.aload_n 0, 1) := by decide +kernel
theorem dX11_keepForUndo_44 : decode cX11_keepForUndo 44 = .ok (.getfield 70, 3) := by decide +kernel
theorem dX11_keepForUndo_47 : decode cX11_keepForUndo 47 = .ok (.iload_n 3, 1) := by decide +kernel
theorem dX11_keepForUndo_48 : decode cX11_keepForUndo 48 = .ok (.iconst 1, 1) := by decide +kernel
theorem dX11_keepForUndo_49 : decode cX11_keepForUndo 49 = .ok (.isub, 1) := by decide +kernel
theorem dX11_keepForUndo_50 : decode cX11_keepForUndo 50 = .ok (.aload_n 0, 1) := by decide +kernel
theorem dX11_keepForUndo_51 : decode cX11_keepForUndo 51 = .ok (.getfield 70, 3) := by decide +kernel
theorem dX11_keepForUndo_54 : decode cX11_keepForUndo 54 = .ok (.iload_n 3, 1) := by decide +kernel
theorem dX11_keepForUndo_55 : decode cX11_keepForUndo 55 = .ok (.iaload, 1) := by decide +kernel
theorem dX11_keepForUndo_56 : decode cX11_keepForUndo 56 = .ok (.iastore, 1) := by decide +kernel
theorem dX11_keepForUndo_57 : decode cX11_keepForUndo 57 = .ok (.iinc 3 1, 3) := by decide +kernel
theorem dX11_keepForUndo_60 : decode cX11_keepForUndo 60 = .ok (.goto (-49), 3) := by decide +kernel
theorem dX11_keepForUndo_63 : decode cX11_keepForUndo 63 = .ok (.aload_n 0, 1) := by decide +kernel
theorem dX11_keepForUndo_64 : decode cX11_keepForUndo 64 = .ok (.bipush 15, 2) := by decide +kernel
theorem dX11_keepForUndo_66 : decode cX11_keepForUndo 66 = .ok (.putfield 198, 3) := by decide +kernel
theorem dX11_keepForUndo_69 : decode cX11_keepForUndo 69 = .ok (.aload_n 0, 1) := by decide +kernel
theorem dX11_keepForUndo_70 : decode cX11_keepForUndo 70 = .ok (.getfield 66, 3) := by decide +kernel
theorem dX11_keepForUndo_73 : decode cX11_keepForUndo 73 = .ok (.aload_n 0, 1) := by decide +kernel
theorem dX11_keepForUndo_74 : decode cX11_keepForUndo 74 = .ok (.getfield 198, 3) := by decide +kernel
theorem dX11_keepForUndo_77 : decode cX11_keepForUndo 77 = .ok (.iload_n 1, 1) := by decide +kernel
theorem dX11_keepForUndo_78 : decode cX11_keepForUndo 78 = .ok (.invokestatic 368, 3) := by decide +kernel
theorem dX11_keepForUndo_81 : decode cX11_keepForUndo 81 = .ok (.aload_n 0, 1) := by decide +kernel
theorem dX11_keepForUndo_82 : decode cX11_keepForUndo 82 = .ok (.getfield 70, 3) := by decide +kernel
theorem dX11_keepForUndo_85 : decode cX11_keepForUndo 85 = .ok (.aload_n 0, 1) := by decide +kernel
theorem dX11_keepForUndo_86 : decode cX11_keepForUndo 86 = .ok (.getfield 198, 3) := by decide +kernel
theorem dX11_keepForUndo_89 : decode cX11_keepForUndo 89 = .ok (.iload_n 2, 1) := by decide +kernel
theorem dX11_keepForUndo_90 : decode cX11_keepForUndo 90 = .ok (.invokestatic 368, 3) := by decide +kernel
theorem dX11_keepForUndo_93 : decode cX11_keepForUndo 93 = .ok (.aload_n 0, 1) := by decide +kernel
theorem dX11_keepForUndo_94 : decode cX11_keepForUndo 94 = .ok (.dup, 1) := by decide +kernel
theorem dX11_keepForUndo_95 : decode cX11_keepForUndo 95 = .ok (.getfield 198, 3) := by decide +kernel
theorem dX11_keepForUndo_98 : decode cX11_keepForUndo 98 = .ok (.iconst 1, 1) := by decide +kernel
theorem dX11_keepForUndo_99 : decode cX11_keepForUndo 99 = .ok (.iadd, 1) := by decide +kernel
theorem dX11_keepForUndo_100 : decode cX11_keepForUndo 100 = .ok (.putfield 198, 3) := by decide +kernel
theorem dX11_keepForUndo_103 : decode cX11_keepForUndo 103 = .ok (.return_, 1) := by decide +kernel
theorem dX11_servedSteps_0 : decode cX11_servedSteps 0 = .ok (.aload_n 0, 1) := by decide +kernel
theorem dX11_servedSteps_1 : decode cX11_servedSteps 1 = .ok (.getfield 78, 3) := by decide +kernel
theorem dX11_servedSteps_4 : decode cX11_servedSteps 4 = .ok (.aload_n 0, 1) := by decide +kernel
theorem dX11_servedSteps_5 : decode cX11_servedSteps 5 = .ok (.getfield 40, 3) := by decide +kernel
theorem dX11_servedSteps_8 : decode cX11_servedSteps 8 = .ok (.invokevirtual 208, 3) := by decide +kernel
theorem dX11_servedSteps_11 : decode cX11_servedSteps 11 = .ok (.invokevirtual 372, 3) := by decide +kernel
theorem dX11_servedSteps_14 : decode cX11_servedSteps 14 = .ok (.aload_n 0, 1) := by decide +kernel
theorem dX11_servedSteps_15 : decode cX11_servedSteps 15 = .ok (.getfield 78, 3) := by decide +kernel
theorem dX11_servedSteps_18 : decode cX11_servedSteps 18 = .ok (.areturn, 1) := by decide +kernel
theorem dX11_wishSteps_0 : decode cX11_wishSteps 0 = .ok (.aload_n 0, 1) := by decide +kernel
theorem dX11_wishSteps_1 : decode cX11_wishSteps 1 = .ok (.getfield 86, 3) := by decide +kernel
theorem dX11_wishSteps_4 : decode cX11_wishSteps 4 = .ok (.aload_n 0, 1) := by decide +kernel
theorem dX11_wishSteps_5 : decode cX11_wishSteps 5 = .ok (.getfield 51, 3) := by decide +kernel
theorem dX11_wishSteps_8 : decode cX11_wishSteps 8 = .ok (.invokevirtual 372, 3) := by decide +kernel
theorem dX11_wishSteps_11 : decode cX11_wishSteps 11 = .ok (.aload_n 0, 1) := by decide +kernel
theorem dX11_wishSteps_12 : decode cX11_wishSteps 12 = .ok (.getfield 86, 3) := by decide +kernel
theorem dX11_wishSteps_15 : decode cX11_wishSteps 15 = .ok (.areturn, 1) := by decide +kernel
theorem dX11_nowSteps_0 : decode cX11_nowSteps 0 = .ok (.aload_n 0, 1) := by decide +kernel
theorem dX11_nowSteps_1 : decode cX11_nowSteps 1 = .ok (.getfield 89, 3) := by decide +kernel
theorem dX11_nowSteps_4 : decode cX11_nowSteps 4 = .ok (.aload_n 0, 1) := by decide +kernel
theorem dX11_nowSteps_5 : decode cX11_nowSteps 5 = .ok (.getfield 58, 3) := by decide +kernel
theorem dX11_nowSteps_8 : decode cX11_nowSteps 8 = .ok (.invokevirtual 167, 3) := by decide +kernel
theorem dX11_nowSteps_11 : decode cX11_nowSteps 11 = .ok (.invokevirtual 372, 3) := by decide +kernel
theorem dX11_nowSteps_14 : decode cX11_nowSteps 14 = .ok (.aload_n 0, 1) := by decide +kernel
theorem dX11_nowSteps_15 : decode cX11_nowSteps 15 = .ok (.getfield 89, 3) := by decide +kernel
theorem dX11_nowSteps_18 : decode cX11_nowSteps 18 = .ok (.areturn, 1) := by decide +kernel
theorem dX11_leastWithout_0 : decode cX11_leastWithout 0 = .ok (.iload_n 1, 1) := by decide +kernel
theorem dX11_leastWithout_1 : decode cX11_leastWithout 1 = .ok (.iconst 1, 1) := by decide +kernel
theorem dX11_leastWithout_2 : decode cX11_leastWithout 2 = .ok (.isub, 1) := by decide +kernel
theorem dX11_leastWithout_3 : decode cX11_leastWithout 3 = .ok (.istore_n 2, 1) := by decide +kernel
theorem dX11_leastWithout_4 : decode cX11_leastWithout 4 = .ok (.iload_n 2, 1) := by decide +kernel
theorem dX11_leastWithout_5 : decode cX11_leastWithout 5 = .ok (.ifCond .lt 12, 3) := by decide +kernel
theorem dX11_leastWithout_8 : decode cX11_leastWithout 8 = .ok (.iload_n 2, 1) := by decide +kernel
theorem dX11_leastWithout_9 : decode cX11_leastWithout 9 = .ok (.aload_n 0, 1) := by decide +kernel
theorem dX11_leastWithout_10 : decode cX11_leastWithout 10 = .ok (.getfield 82, 3) := by decide +kernel
theorem dX11_leastWithout_13 : decode cX11_leastWithout 13 = .ok (.arraylength, 1) := by decide +kernel
theorem dX11_leastWithout_14 : decode cX11_leastWithout 14 = .ok (.if_icmp .lt 5, 3) := by decide +kernel
theorem dX11_leastWithout_17 : decode cX11_leastWithout 17 = .ok (.iconst (-1), 1) := by decide +kernel
theorem dX11_leastWithout_18 : decode cX11_leastWithout 18 = .ok (.ireturn, 1) := by decide +kernel
theorem dX11_leastWithout_19 : decode cX11_leastWithout 19 = .ok (.aload_n 0, 1) := by decide +kernel
theorem dX11_leastWithout_20 : decode cX11_leastWithout 20 = .ok (.getfield 82, 3) := by decide +kernel
theorem dX11_leastWithout_23 : decode cX11_leastWithout 23 = .ok (.iload_n 2, 1) := by decide +kernel
theorem dX11_leastWithout_24 : decode cX11_leastWithout 24 = .ok (.aaload, 1) := by decide +kernel
theorem dX11_leastWithout_25 : decode cX11_leastWithout 25 = .ok (.aload_n 0, 1) := by decide +kernel
theorem dX11_leastWithout_26 : decode cX11_leastWithout 26 = .ok (.getfield 40, 3) := by decide +kernel
theorem dX11_leastWithout_29 : decode cX11_leastWithout 29 = .ok (.invokevirtual 208, 3) := by decide +kernel
theorem dX11_leastWithout_32 : decode cX11_leastWithout 32 = .ok (.invokevirtual 372, 3) := by decide +kernel
theorem dX11_leastWithout_35 : decode cX11_leastWithout 35 = .ok (.aload_n 0, 1) := by decide +kernel
theorem dX11_leastWithout_36 : decode cX11_leastWithout 36 = .ok (.getfield 82, 3) := by decide +kernel
theorem dX11_leastWithout_39 : decode cX11_leastWithout 39 = .ok (.iload_n 2, 1) := by decide +kernel
theorem dX11_leastWithout_40 : decode cX11_leastWithout 40 = .ok (.aaload, 1) := by decide +kernel
theorem dX11_leastWithout_41 : decode cX11_leastWithout 41 = .ok (.aload_n 0, 1) := by decide +kernel
theorem dX11_leastWithout_42 : decode cX11_leastWithout 42 = .ok (.getfield 58, 3) := by decide +kernel
theorem dX11_leastWithout_45 : decode cX11_leastWithout 45 = .ok (.invokevirtual 167, 3) := by decide +kernel
theorem dX11_leastWithout_48 : decode cX11_leastWithout 48 = .ok (.invokevirtual 219, 3) := by decide +kernel
theorem dX11_leastWithout_51 : decode cX11_leastWithout 51 = .ok (.ireturn, 1) := by decide +kernel
theorem dX11_openBits_0 : decode cX11_openBits 0 = .ok (.iconst 0, 1) := by decide +kernel
theorem dX11_openBits_1 : decode cX11_openBits 1 = .ok (.istore_n 1, 1) := by decide +kernel
theorem dX11_openBits_2 : decode cX11_openBits 2 = .ok (.iconst 1, 1) := by decide +kernel
theorem dX11_openBits_3 : decode cX11_openBits 3 = .ok (.istore_n 2, 1) := by decide +kernel
theorem dX11_openBits_4 : decode cX11_openBits 4 = .ok (.iload_n 2, 1) := by decide +kernel
theorem dX11_openBits_5 : decode cX11_openBits 5 = .ok (.aload_n 0, 1) := by decide +kernel
theorem dX11_openBits_6 : decode cX11_openBits 6 = .ok (.getfield 40, 3) := by decide +kernel
theorem dX11_openBits_9 : decode cX11_openBits 9 = .ok (.invokevirtual 133, 3) := by decide +kernel
theorem dX11_openBits_12 : decode cX11_openBits 12 = .ok (.if_icmp .gt 35, 3) := by decide +kernel
theorem dX11_openBits_15 : decode cX11_openBits 15 = .ok (.aload_n 0, 1) := by decide +kernel
theorem dX11_openBits_16 : decode cX11_openBits 16 = .ok (.getfield 40, 3) := by decide +kernel
theorem dX11_openBits_19 : decode cX11_openBits 19 = .ok (.aload_n 0, 1) := by decide +kernel
theorem dX11_openBits_20 : decode cX11_openBits 20 = .ok (.getfield 58, 3) := by decide +kernel
theorem dX11_openBits_23 : decode cX11_openBits 23 = .ok (.invokevirtual 167, 3) := by decide +kernel
theorem dX11_openBits_26 : decode cX11_openBits 26 = .ok (.iload_n 2, 1) := by decide +kernel
theorem dX11_openBits_27 : decode cX11_openBits 27 = .ok (.invokevirtual 181, 3) := by decide +kernel
theorem dX11_openBits_30 : decode cX11_openBits 30 = .ok (.ifCond .eq 11, 3) := by decide +kernel
theorem dX11_openBits_33 : decode cX11_openBits 33 = .ok (.iload_n 1, 1) := by decide +kernel
theorem dX11_openBits_34 : decode cX11_openBits 34 = .ok (.iconst 1, 1) := by decide +kernel
theorem dX11_openBits_35 : decode cX11_openBits 35 = .ok (.iload_n 2, 1) := by decide +kernel
theorem dX11_openBits_36 : decode cX11_openBits 36 = .ok (.iconst 1, 1) := by decide +kernel
theorem dX11_openBits_37 : decode cX11_openBits 37 = .ok (.isub, 1) := by decide +kernel
theorem dX11_openBits_38 : decode cX11_openBits 38 = .ok (.ishl, 1) := by decide +kernel
theorem dX11_openBits_39 : decode cX11_openBits 39 = .ok (.ior, 1) := by decide +kernel
theorem dX11_openBits_40 : decode cX11_openBits 40 = .ok (.istore_n 1, 1) := by decide +kernel
theorem dX11_openBits_41 : decode cX11_openBits 41 = .ok (.iinc 2 1, 3) := by decide +kernel
theorem dX11_openBits_44 : decode cX11_openBits 44 = .ok (.goto (-40), 3) := by decide +kernel
theorem dX11_openBits_47 : decode cX11_openBits 47 = .ok (.iload_n 1, 1) := by decide +kernel
theorem dX11_openBits_48 : decode cX11_openBits 48 = .ok (.ireturn, 1) := by decide +kernel
theorem dX11_fillTally_0 : decode cX11_fillTally 0 = .ok (.iconst 0, 1) := by decide +kernel
theorem dX11_fillTally_1 : decode cX11_fillTally 1 = .ok (.istore_n 1, 1) := by decide +kernel
theorem dX11_fillTally_2 : decode cX11_fillTally 2 = .ok (.aload_n 0, 1) := by decide +kernel
theorem dX11_fillTally_3 : decode cX11_fillTally 3 = .ok (.getfield 40, 3) := by decide +kernel
theorem dX11_fillTally_6 : decode cX11_fillTally 6 = .ok (.invokevirtual 374, 3) := by decide +kernel
theorem dX11_fillTally_9 : decode cX11_fillTally 9 = .ok (.iconst 0, 1) := by decide +kernel
theorem dX11_fillTally_10 : decode cX11_fillTally 10 = .ok (.istore_n 2, 1) := by decide +kernel
theorem dX11_fillTally_11 : decode cX11_fillTally 11 = .ok (.iload_n 2, 1) := by decide +kernel
theorem dX11_fillTally_12 : decode cX11_fillTally 12 = .ok (.aload_n 0, 1) := by decide +kernel
theorem dX11_fillTally_13 : decode cX11_fillTally 13 = .ok (.getfield 40, 3) := by decide +kernel
theorem dX11_fillTally_16 : decode cX11_fillTally 16 = .ok (.invokevirtual 289, 3) := by decide +kernel
theorem dX11_fillTally_19 : decode cX11_fillTally 19 = .ok (.if_icmp .ge 35, 3) := by decide +kernel
theorem dX11_fillTally_22 : decode cX11_fillTally 22 = .ok (.aload_n 0, 1) := by decide +kernel
theorem dX11_fillTally_23 : decode cX11_fillTally 23 = .ok (.getfield 58, 3) := by decide +kernel
theorem dX11_fillTally_26 : decode cX11_fillTally 26 = .ok (.aload_n 0, 1) := by decide +kernel
theorem dX11_fillTally_27 : decode cX11_fillTally 27 = .ok (.getfield 40, 3) := by decide +kernel
theorem dX11_fillTally_30 : decode cX11_fillTally 30 = .ok (.iload_n 2, 1) := by decide +kernel
theorem dX11_fillTally_31 : decode cX11_fillTally 31 = .ok (.invokevirtual 292, 3) := by decide +kernel
theorem dX11_fillTally_34 : decode cX11_fillTally 34 = .ok (.ifCond .eq 14, 3) := by decide +kernel
theorem dX11_fillTally_37 : decode cX11_fillTally 37 = .ok (.iinc 1 1, 3) := by decide +kernel
theorem dX11_fillTally_40 : decode cX11_fillTally 40 = .ok (.aload_n 0, 1) := by decide +kernel
theorem dX11_fillTally_41 : decode cX11_fillTally 41 = .ok (.getfield 40, 3) := by decide +kernel
theorem dX11_fillTally_44 : decode cX11_fillTally 44 = .ok (.iload_n 2, 1) := by decide +kernel
theorem dX11_fillTally_45 : decode cX11_fillTally 45 = .ok (.invokevirtual 377, 3) := by decide +kernel
theorem dX11_fillTally_48 : decode cX11_fillTally 48 = .ok (.iinc 2 1, 3) := by decide +kernel
theorem dX11_fillTally_51 : decode cX11_fillTally 51 = .ok (.goto (-40), 3) := by decide +kernel
theorem dX11_fillTally_54 : decode cX11_fillTally 54 = .ok (.iload_n 1, 1) := by decide +kernel
theorem dX11_fillTally_55 : decode cX11_fillTally 55 = .ok (.ireturn, 1) := by decide +kernel
