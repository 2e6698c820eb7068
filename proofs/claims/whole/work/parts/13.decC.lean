theorem dX11_thrown_0 : decode cX11_thrown 0 = .ok (.aload_n 0, 1) := by decide +kernel
theorem dX11_thrown_1 : decode cX11_thrown 1 = .ok (.getfield 1, 3) := by decide +kernel
theorem dX11_thrown_4 : decode cX11_thrown 4 = .ok (.ireturn, 1) := by decide +kernel
theorem dX11_feed_0 : decode cX11_feed 0 = .ok (.aload_n 0, 1) := by decide +kernel
theorem dX11_feed_1 : decode cX11_feed 1 = .ok (.iconst 0, 1) := by decide +kernel
theorem dX11_feed_2 : decode cX11_feed 2 = .ok (.putfield 1, 3) := by decide +kernel
theorem dX11_feed_5 : decode cX11_feed 5 = .ok (.aload_n 0, 1) := by decide +kernel
theorem dX11_feed_6 : decode cX11_feed 6 = .ok (.lload_n 1, 1) := by decide +kernel
theorem dX11_feed_7 : decode cX11_feed 7 = .ok (.invokevirtual 7, 3) := by decide +kernel
theorem dX11_feed_10 : decode cX11_feed 10 = .ok (.aload_n 0, 1) := by decide +kernel
theorem dX11_feed_11 : decode cX11_feed 11 = .ok (.lload_n 3, 1) := by decide +kernel
theorem dX11_feed_12 : decode cX11_feed 12 = .ok (.invokevirtual 7, 3) := by decide +kernel
theorem dX11_feed_15 : decode cX11_feed 15 = .ok (.aload_n 0, 1) := by decide +kernel
theorem dX11_feed_16 : decode cX11_feed 16 = .ok (.lload 5, 2) := by decide +kernel
theorem dX11_feed_18 : decode cX11_feed 18 = .ok (.invokevirtual 7, 3) := by decide +kernel
theorem dX11_feed_21 : decode cX11_feed 21 = .ok (.aload_n 0, 1) := by decide +kernel
theorem dX11_feed_22 : decode cX11_feed 22 = .ok (.getfield 11, 3) := by decide +kernel
theorem dX11_feed_25 : decode cX11_feed 25 = .ok (.ireturn, 1) := by decide +kernel
theorem dX11_lay_0 : decode cX11_lay 0 = .ok (.bipush 56, 2) := by decide +kernel
theorem dX11_lay_2 : decode cX11_lay 2 = .ok (.istore_n 3, 1) := by decide +kernel
theorem dX11_lay_3 : decode cX11_lay 3 = .ok (.iload_n 3, 1) := by decide +kernel
theorem dX11_lay_4 : decode cX11_lay 4 = .ok (.ifCond .lt 71, 3) := by decide +kernel
theorem dX11_lay_7 : decode cX11_lay 7 = .ok (.lload_n 1, 1) := by decide +kernel
theorem dX11_lay_8 : decode cX11_lay 8 = .ok (.iload_n 3, 1) := by decide +kernel
theorem dX11_lay_9 : decode cX11_lay 9 = .ok (.lshr, 1) := by decide +kernel
theorem dX11_lay_10 : decode cX11_lay 10 = .ok (.l2i, 1) := by decide +kernel
theorem dX11_lay_11 : decode cX11_lay 11 = .ok (.sipush 255, 3) := by decide +kernel
theorem dX11_lay_14 : decode cX11_lay 14 = .ok (.iand, 1) := by decide +kernel
theorem dX11_lay_15 : decode cX11_lay 15 = .ok (.istore 4, 2) := by decide +kernel
theorem dX11_lay_17 : decode cX11_lay 17 = .ok (.iload 4, 2) := by decide +kernel
theorem dX11_lay_19 : decode cX11_lay 19 = .ok (.bipush 10, 2) := by decide +kernel
theorem dX11_lay_21 : decode cX11_lay 21 = .ok (.if_icmp .eq 17, 3) := by decide +kernel
theorem dX11_lay_24 : decode cX11_lay 24 = .ok (.iload 4, 2) := by decide +kernel
theorem dX11_lay_26 : decode cX11_lay 26 = .ok (.bipush 32, 2) := by decide +kernel
theorem dX11_lay_28 : decode cX11_lay 28 = .ok (.if_icmp .lt 41, 3) := by decide +kernel
theorem dX11_lay_31 : decode cX11_lay 31 = .ok (.iload 4, 2) := by decide +kernel
theorem dX11_lay_33 : decode cX11_lay 33 = .ok (.bipush 126, 2) := by decide +kernel
theorem dX11_lay_35 : decode cX11_lay 35 = .ok (.if_icmp .gt 34, 3) := by decide +kernel
theorem dX11_lay_38 : decode cX11_lay 38 = .ok (.aload_n 0, 1) := by decide +kernel
theorem dX11_lay_39 : decode cX11_lay 39 = .ok (.getfield 11, 3) := by decide +kernel
theorem dX11_lay_42 : decode cX11_lay 42 = .ok (.sipush 1000, 3) := by decide +kernel
theorem dX11_lay_45 : decode cX11_lay 45 = .ok (.if_icmp .ge 24, 3) := by decide +kernel
theorem dX11_lay_48 : decode cX11_lay 48 = .ok (.aload_n 0, 1) := by decide +kernel
theorem dX11_lay_49 : decode cX11_lay 49 = .ok (.getfield 14, 3) := by decide +kernel
theorem dX11_lay_52 : decode cX11_lay 52 = .ok (.aload_n 0, 1) := by decide +kernel
theorem dX11_lay_53 : decode cX11_lay 53 = .ok (.getfield 11, 3) := by decide +kernel
theorem dX11_lay_56 : decode cX11_lay 56 = .ok (.iload 4, 2) := by decide +kernel
theorem dX11_lay_58 : decode cX11_lay 58 = .ok (.iastore, 1) := by decide +kernel
theorem dX11_lay_59 : decode cX11_lay 59 = .ok (.aload_n 0, 1) := by decide +kernel
theorem dX11_lay_60 : decode cX11_lay 60 = .ok (.dup, 1) := by decide +kernel
theorem dX11_lay_61 : decode cX11_lay 61 = .ok (.getfield 11, 3) := by decide +kernel
theorem dX11_lay_64 : decode cX11_lay 64 = .ok (.iconst 1, 1) := by decide +kernel
theorem dX11_lay_65 : decode cX11_lay 65 = .ok (.iadd, 1) := by decide +kernel
theorem dX11_lay_66 : decode cX11_lay 66 = .ok (.putfield 11, 3) := by decide +kernel
theorem dX11_lay_69 : decode cX11_lay 69 = .ok (.iinc 3 (-8), 3) := by decide +kernel
theorem dX11_lay_72 : decode cX11_lay 72 = .ok (.goto (-69), 3) := by decide +kernel
theorem dX11_lay_75 : decode cX11_lay 75 = .ok (.return_, 1) := by decide +kernel
theorem dX11_init_0 : decode cX11_init 0 = .ok (.aload_n 0, 1) := by decide +kernel
theorem dX11_init_1 : decode cX11_init 1 = .ok (.invokespecial 18, 3) := by decide +kernel
theorem dX11_init_4 : decode cX11_init 4 = .ok (.aload_n 0, 1) := by decide +kernel
theorem dX11_init_5 : decode cX11_init 5 = .ok (.sipush 1000, 3) := by decide +kernel
theorem dX11_init_8 : decode cX11_init 8 = .ok (.newarray .int, 2) := by decide +kernel
theorem dX11_init_10 : decode cX11_init 10 = .ok (.putfield 14, 3) := by decide +kernel
theorem dX11_init_13 : decode cX11_init 13 = .ok (.aload_n 0, 1) := by decide +kernel
theorem dX11_init_14 : decode cX11_init 14 = .ok (.sipush 1002, 3) := by decide +kernel
theorem dX11_init_17 : decode cX11_init 17 = .ok (.newarray .int, 2) := by decide +kernel
theorem dX11_init_19 : decode cX11_init 19 = .ok (.putfield 24, 3) := by decide +kernel
theorem dX11_init_22 : decode cX11_init 22 = .ok (.aload_n 0, 1) := by decide +kernel
theorem dX11_init_23 : decode cX11_init 23 = .ok (.sipush 1002, 3) := by decide +kernel
theorem dX11_init_26 : decode cX11_init 26 = .ok (.newarray .int, 2) := by decide +kernel
theorem dX11_init_28 : decode cX11_init 28 = .ok (.putfield 27, 3) := by decide +kernel
theorem dX11_init_31 : decode cX11_init 31 = .ok (.aload_n 0, 1) := by decide +kernel
theorem dX11_init_32 : decode cX11_init 32 = .ok (.sipush 1002, 3) := by decide +kernel
theorem dX11_init_35 : decode cX11_init 35 = .ok (.newarray .long, 2) := by decide +kernel
theorem dX11_init_37 : decode cX11_init 37 = .ok (.putfield 30, 3) := by decide +kernel
theorem dX11_init_40 : decode cX11_init 40 = .ok (.aload_n 0, 1) := by decide +kernel
theorem dX11_init_41 : decode cX11_init 41 = .ok (.bipush 26, 2) := by decide +kernel
theorem dX11_init_43 : decode cX11_init 43 = .ok (.newarray .long, 2) := by decide +kernel
theorem dX11_init_45 : decode cX11_init 45 = .ok (.dup, 1) := by decide +kernel
theorem dX11_init_46 : decode cX11_init 46 = .ok (.iconst 0, 1) := by decide +kernel
theorem dX11_init_47 : decode cX11_init 47 = .ok (.ldc2_w 34, 3) := by decide +kernel
theorem dX11_init_50 : decode cX11_init 50 = .ok (.lastore, 1) := by decide +kernel
theorem dX11_init_51 : decode cX11_init 51 = .ok (.dup, 1) := by decide +kernel
theorem dX11_init_52 : decode cX11_init 52 = .ok (.iconst 1, 1) := by decide +kernel
theorem dX11_init_53 : decode cX11_init 53 = .ok (.ldc2_w 36, 3) := by decide +kernel
theorem dX11_init_56 : decode cX11_init 56 = .ok (.lastore, 1) := by decide +kernel
theorem dX11_init_57 : decode cX11_init 57 = .ok (.dup, 1) := by decide +kernel
theorem dX11_init_58 : decode cX11_init 58 = .ok (.iconst 2, 1) := by decide +kernel
theorem dX11_init_59 : decode cX11_init 59 = .ok (.ldc2_w 38, 3) := by decide +kernel
theorem dX11_init_62 : decode cX11_init 62 = .ok (.lastore, 1) := by decide +kernel
theorem dX11_init_63 : decode cX11_init 63 = .ok (.dup, 1) := by decide +kernel
theorem dX11_init_64 : decode cX11_init 64 = .ok (.iconst 3, 1) := by decide +kernel
theorem dX11_init_65 : decode cX11_init 65 = .ok (.ldc2_w 40, 3) := by decide +kernel
theorem dX11_init_68 : decode cX11_init 68 = .ok (.lastore, 1) := by decide +kernel
theorem dX11_init_69 : decode cX11_init 69 = .ok (.dup, 1) := by decide +kernel
theorem dX11_init_70 : decode cX11_init 70 = .ok (.iconst 4, 1) := by decide +kernel
theorem dX11_init_71 : decode cX11_init 71 = .ok (.ldc2_w 42, 3) := by decide +kernel
theorem dX11_init_74 : decode cX11_init 74 = .ok (.lastore, 1) := by decide +kernel
theorem dX11_init_75 : decode cX11_init 75 = .ok (.dup, 1) := by decide +kernel
theorem dX11_init_76 : decode cX11_init 76 = .ok (.iconst 5, 1) := by decide +kernel
theorem dX11_init_77 : decode cX11_init 77 = .ok (.ldc2_w 44, 3) := by decide +kernel
theorem dX11_init_80 : decode cX11_init 80 = .ok (.lastore, 1) := by decide +kernel
theorem dX11_init_81 : decode cX11_init 81 = .ok (.dup, 1) := by decide +kernel
theorem dX11_init_82 : decode cX11_init 82 = .ok (.bipush 6, 2) := by decide +kernel
theorem dX11_init_84 : decode cX11_init 84 = .ok (.ldc2_w 46, 3) := by decide +kernel
theorem dX11_init_87 : decode cX11_init 87 = .ok (.lastore, 1) := by decide +kernel
theorem dX11_init_88 : decode cX11_init 88 = .ok (.dup, 1) := by decide +kernel
theorem dX11_init_89 : decode cX11_init 89 = .ok (.bipush 7, 2) := by decide +kernel
theorem dX11_init_91 : decode cX11_init 91 = .ok (.ldc2_w 48, 3) := by decide +kernel
theorem dX11_init_94 : decode cX11_init 94 = .ok (.lastore, 1) := by decide +kernel
theorem dX11_init_95 : decode cX11_init 95 = .ok (.dup, 1) := by decide +kernel
theorem dX11_init_96 : decode cX11_init 96 = .ok (.bipush 8, 2) := by decide +kernel
theorem dX11_init_98 : decode cX11_init 98 = .ok (.ldc2_w 50, 3) := by decide +kernel
theorem dX11_init_101 : decode cX11_init 101 = .ok (.lastore, 1) := by decide +kernel
theorem dX11_init_102 : decode cX11_init 102 = .ok (.dup, 1) := by decide +kernel
theorem dX11_init_103 : decode cX11_init 103 = .ok (.bipush 9, 2) := by decide +kernel
theorem dX11_init_105 : decode cX11_init 105 = .ok (.ldc2_w 52, 3) := by decide +kernel
theorem dX11_init_108 : decode cX11_init 108 = .ok (.lastore, 1) := by decide +kernel
theorem dX11_init_109 : decode cX11_init 109 = .ok (.dup, 1) := by decide +kernel
theorem dX11_init_110 : decode cX11_init 110 = .ok (.bipush 10, 2) := by decide +kernel
theorem dX11_init_112 : decode cX11_init 112 = .ok (.ldc2_w 54, 3) := by decide +kernel
theorem dX11_init_115 : decode cX11_init 115 = .ok (.lastore, 1) := by decide +kernel
theorem dX11_init_116 : decode cX11_init 116 = .ok (.dup, 1) := by decide +kernel
theorem dX11_init_117 : decode cX11_init 117 = .ok (.bipush 11, 2) := by decide +kernel
theorem dX11_init_119 : decode cX11_init 119 = .ok (.ldc2_w 56, 3) := by decide +kernel
theorem dX11_init_122 : decode cX11_init 122 = .ok (.lastore, 1) := by decide +kernel
theorem dX11_init_123 : decode cX11_init 123 = .ok (.dup, 1) := by decide +kernel
theorem dX11_init_124 : decode cX11_init 124 = .ok (.bipush 12, 2) := by decide +kernel
theorem dX11_init_126 : decode cX11_init 126 = .ok (.ldc2_w 58, 3) := by decide +kernel
theorem dX11_init_129 : decode cX11_init 129 = .ok (.lastore, 1) := by decide +kernel
theorem dX11_init_130 : decode cX11_init 130 = .ok (.dup, 1) := by decide +kernel
theorem dX11_init_131 : decode cX11_init 131 = .ok (.bipush 13, 2) := by decide +kernel
theorem dX11_init_133 : decode cX11_init 133 = .ok (.ldc2_w 60, 3) := by decide +kernel
theorem dX11_init_136 : decode cX11_init 136 = .ok (.lastore, 1) := by decide +kernel
theorem dX11_init_137 : decode cX11_init 137 = .ok (.dup, 1) := by decide +kernel
theorem dX11_init_138 : decode cX11_init 138 = .ok (.bipush 14, 2) := by decide +kernel
theorem dX11_init_140 : decode cX11_init 140 = .ok (.ldc2_w 62, 3) := by decide +kernel
theorem dX11_init_143 : decode cX11_init 143 = .ok (.lastore, 1) := by decide +kernel
theorem dX11_init_144 : decode cX11_init 144 = .ok (.dup, 1) := by decide +kernel
theorem dX11_init_145 : decode cX11_init 145 = .ok (.bipush 15, 2) := by decide +kernel
theorem dX11_init_147 : decode cX11_init 147 = .ok (.ldc2_w 64, 3) := by decide +kernel
theorem dX11_init_150 : decode cX11_init 150 = .ok (.lastore, 1) := by decide +kernel
theorem dX11_init_151 : decode cX11_init 151 = .ok (.dup, 1) := by decide +kernel
theorem dX11_init_152 : decode cX11_init 152 = .ok (.bipush 16, 2) := by decide +kernel
theorem dX11_init_154 : decode cX11_init 154 = .ok (.ldc2_w 66, 3) := by decide +kernel
theorem dX11_init_157 : decode cX11_init 157 = .ok (.lastore, 1) := by decide +kernel
theorem dX11_init_158 : decode cX11_init 158 = .ok (.dup, 1) := by decide +kernel
theorem dX11_init_159 : decode cX11_init 159 = .ok (.bipush 17, 2) := by decide +kernel
theorem dX11_init_161 : decode cX11_init 161 = .ok (.ldc2_w 68, 3) := by decide +kernel
theorem dX11_init_164 : decode cX11_init 164 = .ok (.lastore, 1) := by decide +kernel
theorem dX11_init_165 : decode cX11_init 165 = .ok (.dup, 1) := by decide +kernel
theorem dX11_init_166 : decode cX11_init 166 = .ok (.bipush 18, 2) := by decide +kernel
theorem dX11_init_168 : decode cX11_init 168 = .ok (.ldc2_w 70, 3) := by decide +kernel
theorem dX11_init_171 : decode cX11_init 171 = .ok (.lastore, 1) := by decide +kernel
theorem dX11_init_172 : decode cX11_init 172 = .ok (.dup, 1) := by decide +kernel
theorem dX11_init_173 : decode cX11_init 173 = .ok (.bipush 19, 2) := by decide +kernel
theorem dX11_init_175 : decode cX11_init 175 = .ok (.ldc2_w 72, 3) := by decide +kernel
theorem dX11_init_178 : decode cX11_init 178 = .ok (.lastore, 1) := by decide +kernel
theorem dX11_init_179 : decode cX11_init 179 = .ok (.dup, 1) := by decide +kernel
theorem dX11_init_180 : decode cX11_init 180 = .ok (.bipush 20, 2) := by decide +kernel
theorem dX11_init_182 : decode cX11_init 182 = .ok (.ldc2_w 74, 3) := by decide +kernel
theorem dX11_init_185 : decode cX11_init 185 = .ok (.lastore, 1) := by decide +kernel
theorem dX11_init_186 : decode cX11_init 186 = .ok (.dup, 1) := by decide +kernel
theorem dX11_init_187 : decode cX11_init 187 = .ok (.bipush 21, 2) := by decide +kernel
theorem dX11_init_189 : decode cX11_init 189 = .ok (.ldc2_w 76, 3) := by decide +kernel
theorem dX11_init_192 : decode cX11_init 192 = .ok (.lastore, 1) := by decide +kernel
theorem dX11_init_193 : decode cX11_init 193 = .ok (.dup, 1) := by decide +kernel
theorem dX11_init_194 : decode cX11_init 194 = .ok (.bipush 22, 2) := by decide +kernel
theorem dX11_init_196 : decode cX11_init 196 = .ok (.ldc2_w 78, 3) := by decide +kernel
theorem dX11_init_199 : decode cX11_init 199 = .ok (.lastore, 1) := by decide +kernel
theorem dX11_init_200 : decode cX11_init 200 = .ok (.dup, 1) := by decide +kernel
theorem dX11_init_201 : decode cX11_init 201 = .ok (.bipush 23, 2) := by decide +kernel
theorem dX11_init_203 : decode cX11_init 203 = .ok (.ldc2_w 80, 3) := by decide +kernel
theorem dX11_init_206 : decode cX11_init 206 = .ok (.lastore, 1) := by decide +kernel
theorem dX11_init_207 : decode cX11_init 207 = .ok (.dup, 1) := by decide +kernel
theorem dX11_init_208 : decode cX11_init 208 = .ok (.bipush 24, 2) := by decide +kernel
theorem dX11_init_210 : decode cX11_init 210 = .ok (.ldc2_w 82, 3) := by decide +kernel
theorem dX11_init_213 : decode cX11_init 213 = .ok (.lastore, 1) := by decide +kernel
theorem dX11_init_214 : decode cX11_init 214 = .ok (.dup, 1) := by decide +kernel
theorem dX11_init_215 : decode cX11_init 215 = .ok (.bipush 25, 2) := by decide +kernel
theorem dX11_init_217 : decode cX11_init 217 = .ok (.ldc2_w 84, 3) := by decide +kernel
theorem dX11_init_220 : decode cX11_init 220 = .ok (.lastore, 1) := by decide +kernel
theorem dX11_init_221 : decode cX11_init 221 = .ok (.putfield 86, 3) := by decide +kernel
theorem dX11_init_224 : decode cX11_init 224 = .ok (.aload_n 0, 1) := by decide +kernel
theorem dX11_init_225 : decode cX11_init 225 = .ok (.sipush 200, 3) := by decide +kernel
theorem dX11_init_228 : decode cX11_init 228 = .ok (.newarray .int, 2) := by decide +kernel
theorem dX11_init_230 : decode cX11_init 230 = .ok (.putfield 89, 3) := by decide +kernel
theorem dX11_init_233 : decode cX11_init 233 = .ok (.aload_n 0, 1) := by decide +kernel
theorem dX11_init_234 : decode cX11_init 234 = .ok (.sipush 2200, 3) := by decide +kernel
theorem dX11_init_237 : decode cX11_init 237 = .ok (.newarray .int, 2) := by decide +kernel
theorem dX11_init_239 : decode cX11_init 239 = .ok (.putfield 92, 3) := by decide +kernel
theorem dX11_init_242 : decode cX11_init 242 = .ok (.aload_n 0, 1) := by decide +kernel
theorem dX11_init_243 : decode cX11_init 243 = .ok (.sipush 2200, 3) := by decide +kernel
theorem dX11_init_246 : decode cX11_init 246 = .ok (.newarray .int, 2) := by decide +kernel
theorem dX11_init_248 : decode cX11_init 248 = .ok (.putfield 95, 3) := by decide +kernel
theorem dX11_init_251 : decode cX11_init 251 = .ok (.aload_n 0, 1) := by decide +kernel
theorem dX11_init_252 : decode cX11_init 252 = .ok (.bipush 6, 2) := by decide +kernel
theorem dX11_init_254 : decode cX11_init 254 = .ok (.newarray .long, 2) := by decide +kernel
theorem dX11_init_256 : decode cX11_init 256 = .ok (.putfield 98, 3) := by decide +kernel
theorem dX11_init_259 : decode cX11_init 259 = .ok (.aload_n 0, 1) := by decide +kernel
theorem dX11_init_260 : decode cX11_init 260 = .ok (.bipush 6, 2) := by decide +kernel
theorem dX11_init_262 : decode cX11_init 262 = .ok (.newarray .long, 2) := by decide +kernel
theorem dX11_init_264 : decode cX11_init 264 = .ok (.putfield 101, 3) := by decide +kernel
theorem dX11_init_267 : decode cX11_init 267 = .ok (.aload_n 0, 1) := by decide +kernel
theorem dX11_init_268 : decode cX11_init 268 = .ok (.sipush 200, 3) := by decide +kernel
theorem dX11_init_271 : decode cX11_init 271 = .ok (.newarray .int, 2) := by decide +kernel
theorem dX11_init_273 : decode cX11_init 273 = .ok (.putfield 104, 3) := by decide +kernel
theorem dX11_init_276 : decode cX11_init 276 = .ok (.aload_n 0, 1) := by decide +kernel
theorem dX11_init_277 : decode cX11_init 277 = .ok (.iconst 3, 1) := by decide +kernel
theorem dX11_init_278 : decode cX11_init 278 = .ok (.newarray .int, 2) := by decide +kernel
theorem dX11_init_280 : decode cX11_init 280 = .ok (.putfield 107, 3) := by decide +kernel
theorem dX11_init_283 : decode cX11_init 283 = .ok (.aload_n 0, 1) := by decide +kernel
theorem dX11_init_284 : decode cX11_init 284 = .ok (.sipush 1100, 3) := by decide +kernel
theorem dX11_init_287 : decode cX11_init 287 = .ok (.newarray .int, 2) := by decide +kernel
theorem dX11_init_289 : decode cX11_init 289 = .ok (.putfield 110, 3) := by decide +kernel
theorem dX11_init_292 : decode cX11_init 292 = .ok (.aload_n 0, 1) := by decide +kernel
theorem dX11_init_293 : decode cX11_init 293 = .ok (.sipush 1242, 3) := by decide +kernel
theorem dX11_init_296 : decode cX11_init 296 = .ok (.newarray .int, 2) := by decide +kernel
theorem dX11_init_298 : decode cX11_init 298 = .ok (.putfield 113, 3) := by decide +kernel
theorem dX11_init_301 : decode cX11_init 301 = .ok (.aload_n 0, 1) := by decide +kernel
theorem dX11_init_302 : decode cX11_init 302 = .ok (.iconst 4, 1) := by decide +kernel
theorem dX11_init_303 : decode cX11_init 303 = .ok (.newarray .boolean, 2) := by decide +kernel
theorem dX11_init_305 : decode cX11_init 305 = .ok (.putfield 116, 3) := by decide +kernel
theorem dX11_init_308 : decode cX11_init 308 = .ok (.aload_n 0, 1) := by decide +kernel
theorem dX11_init_309 : decode cX11_init 309 = .ok (.bipush 6, 2) := by decide +kernel
theorem dX11_init_311 : decode cX11_init 311 = .ok (.newarray .int, 2) := by decide +kernel
theorem dX11_init_313 : decode cX11_init 313 = .ok (.putfield 120, 3) := by decide +kernel
theorem dX11_init_316 : decode cX11_init 316 = .ok (.aload_n 0, 1) := by decide +kernel
theorem dX11_init_317 : decode cX11_init 317 = .ok (.bipush 6, 2) := by decide +kernel
theorem dX11_init_319 : decode cX11_init 319 = .ok (.newarray .int, 2) := by decide +kernel
theorem dX11_init_321 : decode cX11_init 321 = .ok (.putfield 123, 3) := by decide +kernel
theorem dX11_init_324 : decode cX11_init 324 = .ok (.aload_n 0, 1) := by decide +kernel
theorem dX11_init_325 : decode cX11_init 325 = .ok (.bipush 6, 2) := by decide +kernel
theorem dX11_init_327 : decode cX11_init 327 = .ok (.newarray .int, 2) := by decide +kernel
theorem dX11_init_329 : decode cX11_init 329 = .ok (.putfield 126, 3) := by decide +kernel
theorem dX11_init_332 : decode cX11_init 332 = .ok (.aload_n 0, 1) := by decide +kernel
theorem dX11_init_333 : decode cX11_init 333 = .ok (.bipush 72, 2) := by decide +kernel
theorem dX11_init_335 : decode cX11_init 335 = .ok (.newarray .int, 2) := by decide +kernel
theorem dX11_init_337 : decode cX11_init 337 = .ok (.putfield 129, 3) := by decide +kernel
theorem dX11_init_340 : decode cX11_init 340 = .ok (.aload_n 0, 1) := by decide +kernel
theorem dX11_init_341 : decode cX11_init 341 = .ok (.bipush 36, 2) := by decide +kernel
theorem dX11_init_343 : decode cX11_init 343 = .ok (.newarray .int, 2) := by decide +kernel
theorem dX11_init_345 : decode cX11_init 345 = .ok (.putfield 132, 3) := by decide +kernel
theorem dX11_init_348 : decode cX11_init 348 = .ok (.aload_n 0, 1) := by decide +kernel
theorem dX11_init_349 : decode cX11_init 349 = .ok (.bipush 6, 2) := by decide +kernel
theorem dX11_init_351 : decode cX11_init 351 = .ok (.newarray .int, 2) := by decide +kernel
theorem dX11_init_353 : decode cX11_init 353 = .ok (.putfield 135, 3) := by decide +kernel
theorem dX11_init_356 : decode cX11_init 356 = .ok (.aload_n 0, 1) := by decide +kernel
theorem dX11_init_357 : decode cX11_init 357 = .ok (.bipush 6, 2) := by decide +kernel
theorem dX11_init_359 : decode cX11_init 359 = .ok (.newarray .int, 2) := by decide +kernel
theorem dX11_init_361 : decode cX11_init 361 = .ok (.putfield 138, 3) := by decide +kernel
theorem dX11_init_364 : decode cX11_init 364 = .ok (.aload_n 0, 1) := by decide +kernel
theorem dX11_init_365 : decode cX11_init 365 = .ok (.bipush 10, 2) := by decide +kernel
theorem dX11_init_367 : decode cX11_init 367 = .ok (.newarray .int, 2) := by decide +kernel
theorem dX11_init_369 : decode cX11_init 369 = .ok (.putfield 141, 3) := by decide +kernel
theorem dX11_init_372 : decode cX11_init 372 = .ok (.aload_n 0, 1) := by decide +kernel
theorem dX11_init_373 : decode cX11_init 373 = .ok (.iconst 0, 1) := by decide +kernel
theorem dX11_init_374 : decode cX11_init 374 = .ok (.invokevirtual 144, 3) := by decide +kernel
theorem dX11_init_377 : decode cX11_init 377 = .ok (.aload_n 0, 1) := by decide +kernel
theorem dX11_init_378 : decode cX11_init 378 = .ok (.invokevirtual 148, 3) := by decide +kernel
theorem dX11_init_381 : decode cX11_init 381 = .ok (.return_, 1) := by decide +kernel
theorem dX11_isLetter_0 : decode cX11_isLetter 0 = .ok (.iload_n 0, 1) := by decide +kernel
theorem dX11_isLetter_1 : decode cX11_isLetter 1 = .ok (.bipush 97, 2) := by decide +kernel
theorem dX11_isLetter_3 : decode cX11_isLetter 3 = .ok (.if_icmp .lt 13, 3) := by decide +kernel
theorem dX11_isLetter_6 : decode cX11_isLetter 6 = .ok (.iload_n 0, 1) := by decide +kernel
theorem dX11_isLetter_7 : decode cX11_isLetter 7 = .ok (.bipush 122, 2) := by decide +kernel
theorem dX11_isLetter_9 : decode cX11_isLetter 9 = .ok (.if_icmp .gt 7, 3) := by decide +kernel
theorem dX11_isLetter_12 : decode cX11_isLetter 12 = .ok (.iconst 1, 1) := by decide +kernel
theorem dX11_isLetter_13 : decode cX11_isLetter 13 = .ok (.goto 4, 3) := by decide +kernel
theorem dX11_isLetter_16 : decode cX11_isLetter 16 = .ok (.iconst 0, 1) := by decide +kernel
theorem dX11_isLetter_17 : decode cX11_isLetter 17 = .ok (.ireturn, 1) := by decide +kernel
theorem dX11_isDigit_0 : decode cX11_isDigit 0 = .ok (.iload_n 0, 1) := by decide +kernel
theorem dX11_isDigit_1 : decode cX11_isDigit 1 = .ok (.bipush 48, 2) := by decide +kernel
theorem dX11_isDigit_3 : decode cX11_isDigit 3 = .ok (.if_icmp .lt 13, 3) := by decide +kernel
theorem dX11_isDigit_6 : decode cX11_isDigit 6 = .ok (.iload_n 0, 1) := by decide +kernel
theorem dX11_isDigit_7 : decode cX11_isDigit 7 = .ok (.bipush 57, 2) := by decide +kernel
theorem dX11_isDigit_9 : decode cX11_isDigit 9 = .ok (.if_icmp .gt 7, 3) := by decide +kernel
theorem dX11_isDigit_12 : decode cX11_isDigit 12 = .ok (.iconst 1, 1) := by decide +kernel
theorem dX11_isDigit_13 : decode cX11_isDigit 13 = .ok (.goto 4, 3) := by decide +kernel
theorem dX11_isDigit_16 : decode cX11_isDigit 16 = .ok (.iconst 0, 1) := by decide +kernel
theorem dX11_isDigit_17 : decode cX11_isDigit 17 = .ok (.ireturn, 1) := by decide +kernel
theorem dX11_rank_0 : decode cX11_rank 0 = .ok (.iload_n 0, 1) := by decide +kernel
theorem dX11_rank_1 : decode cX11_rank 1 = .ok (.invokestatic 151, 3) := by decide +kernel
theorem dX11_rank_4 : decode cX11_rank 4 = .ok (.ifCond .eq 10, 3) := by decide +kernel
theorem dX11_rank_7 : decode cX11_rank 7 = .ok (.iload_n 0, 1) := by decide +kernel
theorem dX11_rank_8 : decode cX11_rank 8 = .ok (.bipush 96, 2) := by decide +kernel
theorem dX11_rank_10 : decode cX11_rank 10 = .ok (.isub, 1) := by decide +kernel
theorem dX11_rank_11 : decode cX11_rank 11 = .ok (.goto 7, 3) := by decide +kernel
theorem dX11_rank_14 : decode cX11_rank 14 = .ok (.iload_n 0, 1) := by decide +kernel
theorem dX11_rank_15 : decode cX11_rank 15 = .ok (.bipush 21, 2) := by decide +kernel
theorem dX11_rank_17 : decode cX11_rank 17 = .ok (.isub, 1) := by decide +kernel
theorem dX11_rank_18 : decode cX11_rank 18 = .ok (.ireturn, 1) := by decide +kernel
theorem dX11_isSignOf_0 : decode cX11_isSignOf 0 = .ok (.iload_n 0, 1) := by decide +kernel
theorem dX11_isSignOf_1 : decode cX11_isSignOf 1 = .ok (.bipush 40, 2) := by decide +kernel
theorem dX11_isSignOf_3 : decode cX11_isSignOf 3 = .ok (.if_icmp .eq 45, 3) := by decide +kernel
theorem dX11_isSignOf_6 : decode cX11_isSignOf 6 = .ok (.iload_n 0, 1) := by decide +kernel
theorem dX11_isSignOf_7 : decode cX11_isSignOf 7 = .ok (.bipush 41, 2) := by decide +kernel
theorem dX11_isSignOf_9 : decode cX11_isSignOf 9 = .ok (.if_icmp .eq 39, 3) := by decide +kernel
theorem dX11_isSignOf_12 : decode cX11_isSignOf 12 = .ok (.iload_n 0, 1) := by decide +kernel
theorem dX11_isSignOf_13 : decode cX11_isSignOf 13 = .ok (.bipush 59, 2) := by decide +kernel
theorem dX11_isSignOf_15 : decode cX11_isSignOf 15 = .ok (.if_icmp .eq 33, 3) := by decide +kernel
theorem dX11_isSignOf_18 : decode cX11_isSignOf 18 = .ok (.iload_n 0, 1) := by decide +kernel
theorem dX11_isSignOf_19 : decode cX11_isSignOf 19 = .ok (.bipush 61, 2) := by decide +kernel
theorem dX11_isSignOf_21 : decode cX11_isSignOf 21 = .ok (.if_icmp .eq 27, 3) := by decide +kernel
theorem dX11_isSignOf_24 : decode cX11_isSignOf 24 = .ok (.iload_n 0, 1) := by decide +kernel
theorem dX11_isSignOf_25 : decode cX11_isSignOf 25 = .ok (.bipush 60, 2) := by decide +kernel
theorem dX11_isSignOf_27 : decode cX11_isSignOf 27 = .ok (.if_icmp .eq 21, 3) := by decide +kernel
theorem dX11_isSignOf_30 : decode cX11_isSignOf 30 = .ok (.iload_n 0, 1) := by decide +kernel
theorem dX11_isSignOf_31 : decode cX11_isSignOf 31 = .ok (.bipush 43, 2) := by decide +kernel
theorem dX11_isSignOf_33 : decode cX11_isSignOf 33 = .ok (.if_icmp .eq 15, 3) := by decide +kernel
theorem dX11_isSignOf_36 : decode cX11_isSignOf 36 = .ok (.iload_n 0, 1) := by decide +kernel
theorem dX11_isSignOf_37 : decode cX11_isSignOf 37 = .ok (.bipush 45, 2) := by decide +kernel
theorem dX11_isSignOf_39 : decode cX11_isSignOf 39 = .ok (.if_icmp .eq 9, 3) := by decide +kernel
theorem dX11_isSignOf_42 : decode cX11_isSignOf 42 = .ok (.iload_n 0, 1) := by decide +kernel
theorem dX11_isSignOf_43 : decode cX11_isSignOf 43 = .ok (.bipush 42, 2) := by decide +kernel
theorem dX11_isSignOf_45 : decode cX11_isSignOf 45 = .ok (.if_icmp .ne 7, 3) := by decide +kernel
theorem dX11_isSignOf_48 : decode cX11_isSignOf 48 = .ok (.iconst 1, 1) := by decide +kernel
theorem dX11_isSignOf_49 : decode cX11_isSignOf 49 = .ok (.goto 4, 3) := by decide +kernel
theorem dX11_isSignOf_52 : decode cX11_isSignOf 52 = .ok (.iconst 0, 1) := by decide +kernel
theorem dX11_isSignOf_53 : decode cX11_isSignOf 53 = .ok (.ireturn, 1) := by decide +kernel
theorem dX11_cutAll_0 : decode cX11_cutAll 0 = .ok (.aload_n 0, 1) := by decide +kernel
theorem dX11_cutAll_1 : decode cX11_cutAll 1 = .ok (.aload_n 0, 1) := by decide +kernel
theorem dX11_cutAll_2 : decode cX11_cutAll 2 = .ok (.getfield 11, 3) := by decide +kernel
theorem dX11_cutAll_5 : decode cX11_cutAll 5 = .ok (.putfield 155, 3) := by decide +kernel
theorem dX11_cutAll_8 : decode cX11_cutAll 8 = .ok (.aload_n 0, 1) := by decide +kernel
theorem dX11_cutAll_9 : decode cX11_cutAll 9 = .ok (.iconst 0, 1) := by decide +kernel
theorem dX11_cutAll_10 : decode cX11_cutAll 10 = .ok (.putfield 11, 3) := by decide +kernel
theorem dX11_cutAll_13 : decode cX11_cutAll 13 = .ok (.iconst 0, 1) := by decide +kernel
theorem dX11_cutAll_14 : decode cX11_cutAll 14 = .ok (.istore_n 1, 1) := by decide +kernel
theorem dX11_cutAll_15 : decode cX11_cutAll 15 = .ok (.iconst 0, 1) := by decide +kernel
theorem dX11_cutAll_16 : decode cX11_cutAll 16 = .ok (.istore_n 2, 1) := by decide +kernel
theorem dX11_cutAll_17 : decode cX11_cutAll 17 = .ok (.iload_n 2, 1) := by decide +kernel
theorem dX11_cutAll_18 : decode cX11_cutAll 18 = .ok (.aload_n 0, 1) := by decide +kernel
theorem dX11_cutAll_19 : decode cX11_cutAll 19 = .ok (.getfield 155, 3) := by decide +kernel
theorem dX11_cutAll_22 : decode cX11_cutAll 22 = .ok (.if_icmp .ge 257, 3) := by decide +kernel
theorem dX11_cutAll_25 : decode cX11_cutAll 25 = .ok (.aload_n 0, 1) := by decide +kernel
theorem dX11_cutAll_26 : decode cX11_cutAll 26 = .ok (.getfield 14, 3) := by decide +kernel
theorem dX11_cutAll_29 : decode cX11_cutAll 29 = .ok (.iload_n 2, 1) := by decide +kernel
theorem dX11_cutAll_30 : decode cX11_cutAll 30 = .ok (.iaload, 1) := by decide +kernel
theorem dX11_cutAll_31 : decode cX11_cutAll 31 = .ok (.istore_n 3, 1) := by decide +kernel
theorem dX11_cutAll_32 : decode cX11_cutAll 32 = .ok (.iload_n 3, 1) := by decide +kernel
theorem dX11_cutAll_33 : decode cX11_cutAll 33 = .ok (.bipush 10, 2) := by decide +kernel
theorem dX11_cutAll_35 : decode cX11_cutAll 35 = .ok (.if_icmp .eq 9, 3) := by decide +kernel
theorem dX11_cutAll_38 : decode cX11_cutAll 38 = .ok (.iload_n 3, 1) := by decide +kernel
theorem dX11_cutAll_39 : decode cX11_cutAll 39 = .ok (.bipush 32, 2) := by decide +kernel
theorem dX11_cutAll_41 : decode cX11_cutAll 41 = .ok (.if_icmp .ne 9, 3) := by decide +kernel
theorem dX11_cutAll_44 : decode cX11_cutAll 44 = .ok (.iinc 2 1, 3) := by decide +kernel
theorem dX11_cutAll_47 : decode cX11_cutAll 47 = .ok (.goto (-30), 3) := by decide +kernel
theorem dX11_cutAll_50 : decode cX11_cutAll 50 = .ok (.iload_n 2, 1) := by decide +kernel
theorem dX11_cutAll_51 : decode cX11_cutAll 51 = .ok (.istore 4, 2) := by decide +kernel
theorem dX11_cutAll_53 : decode cX11_cutAll 53 = .ok (.lconst 0, 1) := by decide +kernel
theorem dX11_cutAll_54 : decode cX11_cutAll 54 = .ok (.lstore 5, 2) := by decide +kernel
theorem dX11_cutAll_56 : decode cX11_cutAll 56 = .ok (.aload_n 0, 1) := by decide +kernel
theorem dX11_cutAll_57 : decode cX11_cutAll 57 = .ok (.getfield 27, 3) := by decide +kernel
theorem dX11_cutAll_60 : decode cX11_cutAll 60 = .ok (.iload_n 1, 1) := by decide +kernel
theorem dX11_cutAll_61 : decode cX11_cutAll 61 = .ok (.iload_n 2, 1) := by decide +kernel
theorem dX11_cutAll_62 : decode cX11_cutAll 62 = .ok (.iastore, 1) := by decide +kernel
theorem dX11_cutAll_63 : decode cX11_cutAll 63 = .ok (.iload_n 3, 1) := by decide +kernel
theorem dX11_cutAll_64 : decode cX11_cutAll 64 = .ok (.invokestatic 151, 3) := by decide +kernel
theorem dX11_cutAll_67 : decode cX11_cutAll 67 = .ok (.ifCond .eq 85, 3) := by decide +kernel
theorem dX11_cutAll_70 : decode cX11_cutAll 70 = .ok (.iload_n 2, 1) := by decide +kernel
theorem dX11_cutAll_71 : decode cX11_cutAll 71 = .ok (.aload_n 0, 1) := by decide +kernel
theorem dX11_cutAll_72 : decode cX11_cutAll 72 = .ok (.getfield 155, 3) := by decide +kernel
theorem dX11_cutAll_75 : decode cX11_cutAll 75 = .ok (.if_icmp .ge 54, 3) := by decide +kernel
theorem dX11_cutAll_78 : decode cX11_cutAll 78 = .ok (.aload_n 0, 1) := by decide +kernel
theorem dX11_cutAll_79 : decode cX11_cutAll 79 = .ok (.getfield 14, 3) := by decide +kernel
theorem dX11_cutAll_82 : decode cX11_cutAll 82 = .ok (.iload_n 2, 1) := by decide +kernel
theorem dX11_cutAll_83 : decode cX11_cutAll 83 = .ok (.iaload, 1) := by decide +kernel
theorem dX11_cutAll_84 : decode cX11_cutAll 84 = .ok (.invokestatic 151, 3) := by decide +kernel
theorem dX11_cutAll_87 : decode cX11_cutAll 87 = .ok (.ifCond .eq 42, 3) := by decide +kernel
theorem dX11_cutAll_90 : decode cX11_cutAll 90 = .ok (.iload_n 2, 1) := by decide +kernel
theorem dX11_cutAll_91 : decode cX11_cutAll 91 = .ok (.iload 4, 2) := by decide +kernel
theorem dX11_cutAll_93 : decode cX11_cutAll 93 = .ok (.isub, 1) := by decide +kernel
theorem dX11_cutAll_94 : decode cX11_cutAll 94 = .ok (.bipush 8, 2) := by decide +kernel
theorem dX11_cutAll_96 : decode cX11_cutAll 96 = .ok (.if_icmp .ge 23, 3) := by decide +kernel
theorem dX11_cutAll_99 : decode cX11_cutAll 99 = .ok (.ldc2_w 158, 3) := by decide +kernel
theorem dX11_cutAll_102 : decode cX11_cutAll 102 = .ok (.lload 5, 2) := by decide +kernel
theorem dX11_cutAll_104 : decode cX11_cutAll 104 = .ok (.lmul, 1) := by decide +kernel
theorem dX11_cutAll_105 : decode cX11_cutAll 105 = .ok (.aload_n 0, 1) := by decide +kernel
theorem dX11_cutAll_106 : decode cX11_cutAll 106 = .ok (.getfield 14, 3) := by decide +kernel
theorem dX11_cutAll_109 : decode cX11_cutAll 109 = .ok (.iload_n 2, 1) := by decide +kernel
theorem dX11_cutAll_110 : decode cX11_cutAll 110 = .ok (.iaload, 1) := by decide +kernel
theorem dX11_cutAll_111 : decode cX11_cutAll 111 = .ok (.invokestatic 160, 3) := by decide +kernel
theorem dX11_cutAll_114 : decode cX11_cutAll 114 = .ok (.i2l, 1) := by decide +kernel
theorem dX11_cutAll_115 : decode cX11_cutAll 115 = .ok (.ladd, 1) := by decide +kernel
theorem dX11_cutAll_116 : decode cX11_cutAll 116 = .ok (.goto 5, 3) := by decide +kernel
theorem dX11_cutAll_119 : decode cX11_cutAll 119 = .ok (.lload 5, 2) := by decide +kernel
theorem dX11_cutAll_121 : decode cX11_cutAll 121 = .ok (.lstore 5, 2) := by decide +kernel
theorem dX11_cutAll_123 : decode cX11_cutAll 123 = .ok (.iinc 2 1, 3) := by decide +kernel
theorem dX11_cutAll_126 : decode cX11_cutAll 126 = .ok (.goto (-56), 3) := by decide +kernel
theorem dX11_cutAll_129 : decode cX11_cutAll 129 = .ok (.aload_n 0, 1) := by decide +kernel
theorem dX11_cutAll_130 : decode cX11_cutAll 130 = .ok (.getfield 24, 3) := by decide +kernel
theorem dX11_cutAll_133 : decode cX11_cutAll 133 = .ok (.iload_n 1, 1) := by decide +kernel
theorem dX11_cutAll_134 : decode cX11_cutAll 134 = .ok (.iload_n 2, 1) := by decide +kernel
theorem dX11_cutAll_135 : decode cX11_cutAll 135 = .ok (.iload 4, 2) := by decide +kernel
theorem dX11_cutAll_137 : decode cX11_cutAll 137 = .ok (.isub, 1) := by decide +kernel
theorem dX11_cutAll_138 : decode cX11_cutAll 138 = .ok (.bipush 8, 2) := by decide +kernel
theorem dX11_cutAll_140 : decode cX11_cutAll 140 = .ok (.if_icmp .le 7, 3) := by decide +kernel
theorem dX11_cutAll_143 : decode cX11_cutAll 143 = .ok (.iconst 4, 1) := by decide +kernel
theorem dX11_cutAll_144 : decode cX11_cutAll 144 = .ok (.goto 4, 3) := by decide +kernel
theorem dX11_cutAll_147 : decode cX11_cutAll 147 = .ok (.iconst 1, 1) := by decide +kernel
theorem dX11_cutAll_148 : decode cX11_cutAll 148 = .ok (.iastore, 1) := by decide +kernel
theorem dX11_cutAll_149 : decode cX11_cutAll 149 = .ok (.goto 116, 3) := by decide +kernel
theorem dX11_cutAll_152 : decode cX11_cutAll 152 = .ok (.iload_n 3, 1) := by decide +kernel
theorem dX11_cutAll_153 : decode cX11_cutAll 153 = .ok (.invokestatic 164, 3) := by decide +kernel
theorem dX11_cutAll_156 : decode cX11_cutAll 156 = .ok (.ifCond .eq 84, 3) := by decide +kernel
theorem dX11_cutAll_159 : decode cX11_cutAll 159 = .ok (.iload_n 2, 1) := by decide +kernel
theorem dX11_cutAll_160 : decode cX11_cutAll 160 = .ok (.aload_n 0, 1) := by decide +kernel
theorem dX11_cutAll_161 : decode cX11_cutAll 161 = .ok (.getfield 155, 3) := by decide +kernel
theorem dX11_cutAll_164 : decode cX11_cutAll 164 = .ok (.if_icmp .ge 54, 3) := by decide +kernel
theorem dX11_cutAll_167 : decode cX11_cutAll 167 = .ok (.aload_n 0, 1) := by decide +kernel
theorem dX11_cutAll_168 : decode cX11_cutAll 168 = .ok (.getfield 14, 3) := by decide +kernel
theorem dX11_cutAll_171 : decode cX11_cutAll 171 = .ok (.iload_n 2, 1) := by decide +kernel
theorem dX11_cutAll_172 : decode cX11_cutAll 172 = .ok (.iaload, 1) := by decide +kernel
theorem dX11_cutAll_173 : decode cX11_cutAll 173 = .ok (.invokestatic 164, 3) := by decide +kernel
theorem dX11_cutAll_176 : decode cX11_cutAll 176 = .ok (.ifCond .eq 42, 3) := by decide +kernel
theorem dX11_cutAll_179 : decode cX11_cutAll 179 = .ok (.iload_n 2, 1) := by decide +kernel
theorem dX11_cutAll_180 : decode cX11_cutAll 180 = .ok (.iload 4, 2) := by decide +kernel
theorem dX11_cutAll_182 : decode cX11_cutAll 182 = .ok (.isub, 1) := by decide +kernel
theorem dX11_cutAll_183 : decode cX11_cutAll 183 = .ok (.iconst 4, 1) := by decide +kernel
theorem dX11_cutAll_184 : decode cX11_cutAll 184 = .ok (.if_icmp .ge 24, 3) := by decide +kernel
theorem dX11_cutAll_187 : decode cX11_cutAll 187 = .ok (.ldc2_w 167, 3) := by decide +kernel
theorem dX11_cutAll_190 : decode cX11_cutAll 190 = .ok (.lload 5, 2) := by decide +kernel
theorem dX11_cutAll_192 : decode cX11_cutAll 192 = .ok (.lmul, 1) := by decide +kernel
theorem dX11_cutAll_193 : decode cX11_cutAll 193 = .ok (.aload_n 0, 1) := by decide +kernel
theorem dX11_cutAll_194 : decode cX11_cutAll 194 = .ok (.getfield 14, 3) := by decide +kernel
theorem dX11_cutAll_197 : decode cX11_cutAll 197 = .ok (.iload_n 2, 1) := by decide +kernel
theorem dX11_cutAll_198 : decode cX11_cutAll 198 = .ok (.iaload, 1) := by decide +kernel
theorem dX11_cutAll_199 : decode cX11_cutAll 199 = .ok (.i2l, 1) := by decide +kernel
theorem dX11_cutAll_200 : decode cX11_cutAll 200 = .ok (.ladd, 1) := by decide +kernel
theorem dX11_cutAll_201 : decode cX11_cutAll 201 = .ok (.ldc2_w 169, 3) := by decide +kernel
theorem dX11_cutAll_204 : decode cX11_cutAll 204 = .ok (.lsub, 1) := by decide +kernel
theorem dX11_cutAll_205 : decode cX11_cutAll 205 = .ok (.goto 5, 3) := by decide +kernel
theorem dX11_cutAll_208 : decode cX11_cutAll 208 = .ok (.lload 5, 2) := by decide +kernel
theorem dX11_cutAll_210 : decode cX11_cutAll 210 = .ok (.lstore 5, 2) := by decide +kernel
theorem dX11_cutAll_212 : decode cX11_cutAll 212 = .ok (.iinc 2 1, 3) := by decide +kernel
theorem dX11_cutAll_215 : decode cX11_cutAll 215 = .ok (.goto (-56), 3) := by decide +kernel
theorem dX11_cutAll_218 : decode cX11_cutAll 218 = .ok (.aload_n 0, 1) := by decide +kernel
theorem dX11_cutAll_219 : decode cX11_cutAll 219 = .ok (.getfield 24, 3) := by decide +kernel
theorem dX11_cutAll_222 : decode cX11_cutAll 222 = .ok (.iload_n 1, 1) := by decide +kernel
theorem dX11_cutAll_223 : decode cX11_cutAll 223 = .ok (.iload_n 2, 1) := by decide +kernel
theorem dX11_cutAll_224 : decode cX11_cutAll 224 = .ok (.iload 4, 2) := by decide +kernel
theorem dX11_cutAll_226 : decode cX11_cutAll 226 = .ok (.isub, 1) := by decide +kernel
theorem dX11_cutAll_227 : decode cX11_cutAll 227 = .ok (.iconst 4, 1) := by decide +kernel
theorem dX11_cutAll_228 : decode cX11_cutAll 228 = .ok (.if_icmp .le 7, 3) := by decide +kernel
theorem dX11_cutAll_231 : decode cX11_cutAll 231 = .ok (.iconst 4, 1) := by decide +kernel
theorem dX11_cutAll_232 : decode cX11_cutAll 232 = .ok (.goto 4, 3) := by decide +kernel
theorem dX11_cutAll_235 : decode cX11_cutAll 235 = .ok (.iconst 2, 1) := by decide +kernel
theorem dX11_cutAll_236 : decode cX11_cutAll 236 = .ok (.iastore, 1) := by decide +kernel
theorem dX11_cutAll_237 : decode cX11_cutAll 237 = .ok (.goto 28, 3) := by decide +kernel
theorem dX11_cutAll_240 : decode cX11_cutAll 240 = .ok (.iload_n 3, 1) := by decide +kernel
theorem dX11_cutAll_241 : decode cX11_cutAll 241 = .ok (.i2l, 1) := by decide +kernel
theorem dX11_cutAll_242 : decode cX11_cutAll 242 = .ok (.lstore 5, 2) := by decide +kernel
theorem dX11_cutAll_244 : decode cX11_cutAll 244 = .ok (.aload_n 0, 1) := by decide +kernel
theorem dX11_cutAll_245 : decode cX11_cutAll 245 = .ok (.getfield 24, 3) := by decide +kernel
theorem dX11_cutAll_248 : decode cX11_cutAll 248 = .ok (.iload_n 1, 1) := by decide +kernel
theorem dX11_cutAll_249 : decode cX11_cutAll 249 = .ok (.iload_n 3, 1) := by decide +kernel
theorem dX11_cutAll_250 : decode cX11_cutAll 250 = .ok (.invokestatic 171, 3) := by decide +kernel
theorem dX11_cutAll_253 : decode cX11_cutAll 253 = .ok (.ifCond .eq 7, 3) := by decide +kernel
theorem dX11_cutAll_256 : decode cX11_cutAll 256 = .ok (.iconst 3, 1) := by decide +kernel
theorem dX11_cutAll_257 : decode cX11_cutAll 257 = .ok (.goto 4, 3) := by decide +kernel
theorem dX11_cutAll_260 : decode cX11_cutAll 260 = .ok (.iconst 4, 1) := by decide +kernel
theorem dX11_cutAll_261 : decode cX11_cutAll 261 = .ok (.iastore, 1) := by decide +kernel
theorem dX11_cutAll_262 : decode cX11_cutAll 262 = .ok (.iinc 2 1, 3) := by decide +kernel
theorem dX11_cutAll_265 : decode cX11_cutAll 265 = .ok (.aload_n 0, 1) := by decide +kernel
theorem dX11_cutAll_266 : decode cX11_cutAll 266 = .ok (.getfield 30, 3) := by decide +kernel
theorem dX11_cutAll_269 : decode cX11_cutAll 269 = .ok (.iload_n 1, 1) := by decide +kernel
theorem dX11_cutAll_270 : decode cX11_cutAll 270 = .ok (.lload 5, 2) := by decide +kernel
theorem dX11_cutAll_272 : decode cX11_cutAll 272 = .ok (.lastore, 1) := by decide +kernel
theorem dX11_cutAll_273 : decode cX11_cutAll 273 = .ok (.iinc 1 1, 3) := by decide +kernel
theorem dX11_cutAll_276 : decode cX11_cutAll 276 = .ok (.goto (-259), 3) := by decide +kernel
theorem dX11_cutAll_279 : decode cX11_cutAll 279 = .ok (.aload_n 0, 1) := by decide +kernel
theorem dX11_cutAll_280 : decode cX11_cutAll 280 = .ok (.getfield 24, 3) := by decide +kernel
theorem dX11_cutAll_283 : decode cX11_cutAll 283 = .ok (.iload_n 1, 1) := by decide +kernel
theorem dX11_cutAll_284 : decode cX11_cutAll 284 = .ok (.iconst 0, 1) := by decide +kernel
theorem dX11_cutAll_285 : decode cX11_cutAll 285 = .ok (.iastore, 1) := by decide +kernel
theorem dX11_cutAll_286 : decode cX11_cutAll 286 = .ok (.aload_n 0, 1) := by decide +kernel
theorem dX11_cutAll_287 : decode cX11_cutAll 287 = .ok (.getfield 27, 3) := by decide +kernel
theorem dX11_cutAll_290 : decode cX11_cutAll 290 = .ok (.iload_n 1, 1) := by decide +kernel
theorem dX11_cutAll_291 : decode cX11_cutAll 291 = .ok (.aload_n 0, 1) := by decide +kernel
theorem dX11_cutAll_292 : decode cX11_cutAll 292 = .ok (.getfield 155, 3) := by decide +kernel
theorem dX11_cutAll_295 : decode cX11_cutAll 295 = .ok (.iastore, 1) := by decide +kernel
theorem dX11_cutAll_296 : decode cX11_cutAll 296 = .ok (.aload_n 0, 1) := by decide +kernel
theorem dX11_cutAll_297 : decode cX11_cutAll 297 = .ok (.iconst 0, 1) := by decide +kernel
theorem dX11_cutAll_298 : decode cX11_cutAll 298 = .ok (.putfield 174, 3) := by decide +kernel
theorem dX11_cutAll_301 : decode cX11_cutAll 301 = .ok (.aload_n 0, 1) := by decide +kernel
theorem dX11_cutAll_302 : decode cX11_cutAll 302 = .ok (.iconst 0, 1) := by decide +kernel
theorem dX11_cutAll_303 : decode cX11_cutAll 303 = .ok (.putfield 177, 3) := by decide +kernel
theorem dX11_cutAll_306 : decode cX11_cutAll 306 = .ok (.return_, 1) := by decide +kernel
theorem dX11_wrong_0 : decode cX11_wrong 0 = .ok (.aload_n 0, 1) := by decide +kernel
theorem dX11_wrong_1 : decode cX11_wrong 1 = .ok (.getfield 177, 3) := by decide +kernel
theorem dX11_wrong_4 : decode cX11_wrong 4 = .ok (.ifCond .ne 21, 3) := by decide +kernel
theorem dX11_wrong_7 : decode cX11_wrong 7 = .ok (.aload_n 0, 1) := by decide +kernel
theorem dX11_wrong_8 : decode cX11_wrong 8 = .ok (.iload_n 1, 1) := by decide +kernel
theorem dX11_wrong_9 : decode cX11_wrong 9 = .ok (.bipush 16, 2) := by decide +kernel
theorem dX11_wrong_11 : decode cX11_wrong 11 = .ok (.aload_n 0, 1) := by decide +kernel
theorem dX11_wrong_12 : decode cX11_wrong 12 = .ok (.getfield 27, 3) := by decide +kernel
theorem dX11_wrong_15 : decode cX11_wrong 15 = .ok (.aload_n 0, 1) := by decide +kernel
theorem dX11_wrong_16 : decode cX11_wrong 16 = .ok (.getfield 174, 3) := by decide +kernel
theorem dX11_wrong_19 : decode cX11_wrong 19 = .ok (.iaload, 1) := by decide +kernel
theorem dX11_wrong_20 : decode cX11_wrong 20 = .ok (.imul, 1) := by decide +kernel
theorem dX11_wrong_21 : decode cX11_wrong 21 = .ok (.iadd, 1) := by decide +kernel
theorem dX11_wrong_22 : decode cX11_wrong 22 = .ok (.putfield 177, 3) := by decide +kernel
theorem dX11_wrong_25 : decode cX11_wrong 25 = .ok (.return_, 1) := by decide +kernel
theorem dX11_isSign_0 : decode cX11_isSign 0 = .ok (.aload_n 0, 1) := by decide +kernel
theorem dX11_isSign_1 : decode cX11_isSign 1 = .ok (.getfield 177, 3) := by decide +kernel
theorem dX11_isSign_4 : decode cX11_isSign 4 = .ok (.ifCond .ne 35, 3) := by decide +kernel
theorem dX11_isSign_7 : decode cX11_isSign 7 = .ok (.aload_n 0, 1) := by decide +kernel
theorem dX11_isSign_8 : decode cX11_isSign 8 = .ok (.getfield 24, 3) := by decide +kernel
theorem dX11_isSign_11 : decode cX11_isSign 11 = .ok (.aload_n 0, 1) := by decide +kernel
theorem dX11_isSign_12 : decode cX11_isSign 12 = .ok (.getfield 174, 3) := by decide +kernel
theorem dX11_isSign_15 : decode cX11_isSign 15 = .ok (.iaload, 1) := by decide +kernel
theorem dX11_isSign_16 : decode cX11_isSign 16 = .ok (.iconst 3, 1) := by decide +kernel
theorem dX11_isSign_17 : decode cX11_isSign 17 = .ok (.if_icmp .ne 22, 3) := by decide +kernel
theorem dX11_isSign_20 : decode cX11_isSign 20 = .ok (.aload_n 0, 1) := by decide +kernel
theorem dX11_isSign_21 : decode cX11_isSign 21 = .ok (.getfield 30, 3) := by decide +kernel
theorem dX11_isSign_24 : decode cX11_isSign 24 = .ok (.aload_n 0, 1) := by decide +kernel
theorem dX11_isSign_25 : decode cX11_isSign 25 = .ok (.getfield 174, 3) := by decide +kernel
theorem dX11_isSign_28 : decode cX11_isSign 28 = .ok (.laload, 1) := by decide +kernel
theorem dX11_isSign_29 : decode cX11_isSign 29 = .ok (.iload_n 1, 1) := by decide +kernel
theorem dX11_isSign_30 : decode cX11_isSign 30 = .ok (.i2l, 1) := by decide +kernel
theorem dX11_isSign_31 : decode cX11_isSign 31 = .ok (.lcmp, 1) := by decide +kernel
theorem dX11_isSign_32 : decode cX11_isSign 32 = .ok (.ifCond .ne 7, 3) := by decide +kernel
theorem dX11_isSign_35 : decode cX11_isSign 35 = .ok (.iconst 1, 1) := by decide +kernel
theorem dX11_isSign_36 : decode cX11_isSign 36 = .ok (.goto 4, 3) := by decide +kernel
theorem dX11_isSign_39 : decode cX11_isSign 39 = .ok (.iconst 0, 1) := by decide +kernel
theorem dX11_isSign_40 : decode cX11_isSign 40 = .ok (.ireturn, 1) := by decide +kernel
theorem dX11_isWord_0 : decode cX11_isWord 0 = .ok (.aload_n 0, 1) := by decide +kernel
theorem dX11_isWord_1 : decode cX11_isWord 1 = .ok (.getfield 177, 3) := by decide +kernel
theorem dX11_isWord_4 : decode cX11_isWord 4 = .ok (.ifCond .ne 39, 3) := by decide +kernel
theorem dX11_isWord_7 : decode cX11_isWord 7 = .ok (.aload_n 0, 1) := by decide +kernel
theorem dX11_isWord_8 : decode cX11_isWord 8 = .ok (.getfield 24, 3) := by decide +kernel
theorem dX11_isWord_11 : decode cX11_isWord 11 = .ok (.aload_n 0, 1) := by decide +kernel
theorem dX11_isWord_12 : decode cX11_isWord 12 = .ok (.getfield 174, 3) := by decide +kernel
theorem dX11_isWord_15 : decode cX11_isWord 15 = .ok (.iaload, 1) := by decide +kernel
theorem dX11_isWord_16 : decode cX11_isWord 16 = .ok (.iconst 1, 1) := by decide +kernel
theorem dX11_isWord_17 : decode cX11_isWord 17 = .ok (.if_icmp .ne 26, 3) := by decide +kernel
theorem dX11_isWord_20 : decode cX11_isWord 20 = .ok (.aload_n 0, 1) := by decide +kernel
theorem dX11_isWord_21 : decode cX11_isWord 21 = .ok (.getfield 30, 3) := by decide +kernel
theorem dX11_isWord_24 : decode cX11_isWord 24 = .ok (.aload_n 0, 1) := by decide +kernel
theorem dX11_isWord_25 : decode cX11_isWord 25 = .ok (.getfield 174, 3) := by decide +kernel
theorem dX11_isWord_28 : decode cX11_isWord 28 = .ok (.laload, 1) := by decide +kernel
theorem dX11_isWord_29 : decode cX11_isWord 29 = .ok (.aload_n 0, 1) := by decide +kernel
theorem dX11_isWord_30 : decode cX11_isWord 30 = .ok (.getfield 86, 3) := by decide +kernel
theorem dX11_isWord_33 : decode cX11_isWord 33 = .ok (.iload_n 1, 1) := by decide +kernel
theorem dX11_isWord_34 : decode cX11_isWord 34 = .ok (.laload, 1) := by decide +kernel
theorem dX11_isWord_35 : decode cX11_isWord 35 = .ok (.lcmp, 1) := by decide +kernel
theorem dX11_isWord_36 : decode cX11_isWord 36 = .ok (.ifCond .ne 7, 3) := by decide +kernel
theorem dX11_isWord_39 : decode cX11_isWord 39 = .ok (.iconst 1, 1) := by decide +kernel
theorem dX11_isWord_40 : decode cX11_isWord 40 = .ok (.goto 4, 3) := by decide +kernel
theorem dX11_isWord_43 : decode cX11_isWord 43 = .ok (.iconst 0, 1) := by decide +kernel
theorem dX11_isWord_44 : decode cX11_isWord 44 = .ok (.ireturn, 1) := by decide +kernel
theorem dX11_takeSign_0 : decode cX11_takeSign 0 = .ok (.aload_n 0, 1) := by decide +kernel
theorem dX11_takeSign_1 : decode cX11_takeSign 1 = .ok (.iload_n 1, 1) := by decide +kernel
theorem dX11_takeSign_2 : decode cX11_takeSign 2 = .ok (.invokevirtual 180, 3) := by decide +kernel
theorem dX11_takeSign_5 : decode cX11_takeSign 5 = .ok (.ifCond .eq 16, 3) := by decide +kernel
theorem dX11_takeSign_8 : decode cX11_takeSign 8 = .ok (.aload_n 0, 1) := by decide +kernel
theorem dX11_takeSign_9 : decode cX11_takeSign 9 = .ok (.dup, 1) := by decide +kernel
theorem dX11_takeSign_10 : decode cX11_takeSign 10 = .ok (.getfield 174, 3) := by decide +kernel
theorem dX11_takeSign_13 : decode cX11_takeSign 13 = .ok (.iconst 1, 1) := by decide +kernel
theorem dX11_takeSign_14 : decode cX11_takeSign 14 = .ok (.iadd, 1) := by decide +kernel
theorem dX11_takeSign_15 : decode cX11_takeSign 15 = .ok (.putfield 174, 3) := by decide +kernel
theorem dX11_takeSign_18 : decode cX11_takeSign 18 = .ok (.goto 8, 3) := by decide +kernel
theorem dX11_takeSign_21 : decode cX11_takeSign 21 = .ok (.aload_n 0, 1) := by decide +kernel
theorem dX11_takeSign_22 : decode cX11_takeSign 22 = .ok (.iconst 1, 1) := by decide +kernel
theorem dX11_takeSign_23 : decode cX11_takeSign 23 = .ok (.invokevirtual 183, 3) := by decide +kernel
theorem dX11_takeSign_26 : decode cX11_takeSign 26 = .ok (.return_, 1) := by decide +kernel
theorem dX11_hasSign_0 : decode cX11_hasSign 0 = .ok (.aload_n 0, 1) := by decide +kernel
theorem dX11_hasSign_1 : decode cX11_hasSign 1 = .ok (.iload_n 1, 1) := by decide +kernel
theorem dX11_hasSign_2 : decode cX11_hasSign 2 = .ok (.invokevirtual 180, 3) := by decide +kernel
theorem dX11_hasSign_5 : decode cX11_hasSign 5 = .ok (.istore_n 2, 1) := by decide +kernel
theorem dX11_hasSign_6 : decode cX11_hasSign 6 = .ok (.aload_n 0, 1) := by decide +kernel
theorem dX11_hasSign_7 : decode cX11_hasSign 7 = .ok (.dup, 1) := by decide +kernel
theorem dX11_hasSign_8 : decode cX11_hasSign 8 = .ok (.getfield 174, 3) := by decide +kernel
theorem dX11_hasSign_11 : decode cX11_hasSign 11 = .ok (.iload_n 2, 1) := by decide +kernel
theorem dX11_hasSign_12 : decode cX11_hasSign 12 = .ok (.ifCond .eq 7, 3) := by decide +kernel
theorem dX11_hasSign_15 : decode cX11_hasSign 15 = .ok (.iconst 1, 1) := by decide +kernel
theorem dX11_hasSign_16 : decode cX11_hasSign 16 = .ok (.goto 4, 3) := by decide +kernel
theorem dX11_hasSign_19 : decode cX11_hasSign 19 = .ok (.iconst 0, 1) := by decide +kernel
theorem dX11_hasSign_20 : decode cX11_hasSign 20 = .ok (.iadd, 1) := by decide +kernel
theorem dX11_hasSign_21 : decode cX11_hasSign 21 = .ok (.putfield 174, 3) := by decide +kernel
theorem dX11_hasSign_24 : decode cX11_hasSign 24 = .ok (.iload_n 2, 1) := by decide +kernel
theorem dX11_hasSign_25 : decode cX11_hasSign 25 = .ok (.ireturn, 1) := by decide +kernel
theorem dX11_hasWord_0 : decode cX11_hasWord 0 = .ok (.aload_n 0, 1) := by decide +kernel
theorem dX11_hasWord_1 : decode cX11_hasWord 1 = .ok (.iload_n 1, 1) := by decide +kernel
theorem dX11_hasWord_2 : decode cX11_hasWord 2 = .ok (.invokevirtual 186, 3) := by decide +kernel
theorem dX11_hasWord_5 : decode cX11_hasWord 5 = .ok (.istore_n 2, 1) := by decide +kernel
theorem dX11_hasWord_6 : decode cX11_hasWord 6 = .ok (.aload_n 0, 1) := by decide +kernel
theorem dX11_hasWord_7 : decode cX11_hasWord 7 = .ok (.dup, 1) := by decide +kernel
theorem dX11_hasWord_8 : decode cX11_hasWord 8 = .ok (.getfield 174, 3) := by decide +kernel
theorem dX11_hasWord_11 : decode cX11_hasWord 11 = .ok (.iload_n 2, 1) := by decide +kernel
theorem dX11_hasWord_12 : decode cX11_hasWord 12 = .ok (.ifCond .eq 7, 3) := by decide +kernel
theorem dX11_hasWord_15 : decode cX11_hasWord 15 = .ok (.iconst 1, 1) := by decide +kernel
theorem dX11_hasWord_16 : decode cX11_hasWord 16 = .ok (.goto 4, 3) := by decide +kernel
theorem dX11_hasWord_19 : decode cX11_hasWord 19 = .ok (.iconst 0, 1) := by decide +kernel
theorem dX11_hasWord_20 : decode cX11_hasWord 20 = .ok (.iadd, 1) := by decide +kernel
theorem dX11_hasWord_21 : decode cX11_hasWord 21 = .ok (.putfield 174, 3) := by decide +kernel
theorem dX11_hasWord_24 : decode cX11_hasWord 24 = .ok (.iload_n 2, 1) := by decide +kernel
theorem dX11_hasWord_25 : decode cX11_hasWord 25 = .ok (.ireturn, 1) := by decide +kernel
theorem dX11_takeWord_0 : decode cX11_takeWord 0 = .ok (.aload_n 0, 1) := by decide +kernel
theorem dX11_takeWord_1 : decode cX11_takeWord 1 = .ok (.iload_n 1, 1) := by decide +kernel
theorem dX11_takeWord_2 : decode cX11_takeWord 2 = .ok (.invokevirtual 189, 3) := by decide +kernel
theorem dX11_takeWord_5 : decode cX11_takeWord 5 = .ok (.ifCond .ne 8, 3) := by decide +kernel
theorem dX11_takeWord_8 : decode cX11_takeWord 8 = .ok (.aload_n 0, 1) := by decide +kernel
theorem dX11_takeWord_9 : decode cX11_takeWord 9 = .ok (.iconst 1, 1) := by decide +kernel
theorem dX11_takeWord_10 : decode cX11_takeWord 10 = .ok (.invokevirtual 183, 3) := by decide +kernel
theorem dX11_takeWord_13 : decode cX11_takeWord 13 = .ok (.return_, 1) := by decide +kernel
theorem dX11_within_0 : decode cX11_within 0 = .ok (.iload_n 0, 1) := by decide +kernel
theorem dX11_within_1 : decode cX11_within 1 = .ok (.iload_n 1, 1) := by decide +kernel
theorem dX11_within_2 : decode cX11_within 2 = .ok (.if_icmp .lt 12, 3) := by decide +kernel
theorem dX11_within_5 : decode cX11_within 5 = .ok (.iload_n 0, 1) := by decide +kernel
theorem dX11_within_6 : decode cX11_within 6 = .ok (.iload_n 2, 1) := by decide +kernel
theorem dX11_within_7 : decode cX11_within 7 = .ok (.if_icmp .gt 7, 3) := by decide +kernel
theorem dX11_within_10 : decode cX11_within 10 = .ok (.iconst 1, 1) := by decide +kernel
theorem dX11_within_11 : decode cX11_within 11 = .ok (.goto 4, 3) := by decide +kernel
theorem dX11_within_14 : decode cX11_within 14 = .ok (.iconst 0, 1) := by decide +kernel
theorem dX11_within_15 : decode cX11_within 15 = .ok (.ireturn, 1) := by decide +kernel
theorem dX11_standsAsAlways_0 : decode cX11_standsAsAlways 0 = .ok (.iconst 0, 1) := by decide +kernel
theorem dX11_standsAsAlways_1 : decode cX11_standsAsAlways 1 = .ok (.istore_n 2, 1) := by decide +kernel
theorem dX11_standsAsAlways_2 : decode cX11_standsAsAlways 2 = .ok (.iload_n 2, 1) := by decide +kernel
theorem dX11_standsAsAlways_3 : decode cX11_standsAsAlways 3 = .ok (.bipush 100, 2) := by decide +kernel
theorem dX11_standsAsAlways_5 : decode cX11_standsAsAlways 5 = .ok (.if_icmp .ge 18, 3) := by decide +kernel
theorem dX11_standsAsAlways_8 : decode cX11_standsAsAlways 8 = .ok (.aload_n 0, 1) := by decide +kernel
theorem dX11_standsAsAlways_9 : decode cX11_standsAsAlways 9 = .ok (.getfield 89, 3) := by decide +kernel
theorem dX11_standsAsAlways_12 : decode cX11_standsAsAlways 12 = .ok (.iload_n 1, 1) := by decide +kernel
theorem dX11_standsAsAlways_13 : decode cX11_standsAsAlways 13 = .ok (.iload_n 2, 1) := by decide +kernel
theorem dX11_standsAsAlways_14 : decode cX11_standsAsAlways 14 = .ok (.iadd, 1) := by decide +kernel
theorem dX11_standsAsAlways_15 : decode cX11_standsAsAlways 15 = .ok (.iconst 0, 1) := by decide +kernel
theorem dX11_standsAsAlways_16 : decode cX11_standsAsAlways 16 = .ok (.iastore, 1) := by decide +kernel
theorem dX11_standsAsAlways_17 : decode cX11_standsAsAlways 17 = .ok (.iinc 2 1, 3) := by decide +kernel
theorem dX11_standsAsAlways_20 : decode cX11_standsAsAlways 20 = .ok (.goto (-18), 3) := by decide +kernel
theorem dX11_standsAsAlways_23 : decode cX11_standsAsAlways 23 = .ok (.aload_n 0, 1) := by decide +kernel
theorem dX11_standsAsAlways_24 : decode cX11_standsAsAlways 24 = .ok (.getfield 89, 3) := by decide +kernel
theorem dX11_standsAsAlways_27 : decode cX11_standsAsAlways 27 = .ok (.iload_n 1, 1) := by decide +kernel
theorem dX11_standsAsAlways_28 : decode cX11_standsAsAlways 28 = .ok (.iconst 2, 1) := by decide +kernel
theorem dX11_standsAsAlways_29 : decode cX11_standsAsAlways 29 = .ok (.iadd, 1) := by decide +kernel
theorem dX11_standsAsAlways_30 : decode cX11_standsAsAlways 30 = .ok (.iconst 1, 1) := by decide +kernel
theorem dX11_standsAsAlways_31 : decode cX11_standsAsAlways 31 = .ok (.iastore, 1) := by decide +kernel
theorem dX11_standsAsAlways_32 : decode cX11_standsAsAlways 32 = .ok (.aload_n 0, 1) := by decide +kernel
theorem dX11_standsAsAlways_33 : decode cX11_standsAsAlways 33 = .ok (.getfield 89, 3) := by decide +kernel
theorem dX11_standsAsAlways_36 : decode cX11_standsAsAlways 36 = .ok (.iload_n 1, 1) := by decide +kernel
theorem dX11_standsAsAlways_37 : decode cX11_standsAsAlways 37 = .ok (.bipush 76, 2) := by decide +kernel
theorem dX11_standsAsAlways_39 : decode cX11_standsAsAlways 39 = .ok (.iadd, 1) := by decide +kernel
theorem dX11_standsAsAlways_40 : decode cX11_standsAsAlways 40 = .ok (.iconst 3, 1) := by decide +kernel
theorem dX11_standsAsAlways_41 : decode cX11_standsAsAlways 41 = .ok (.iastore, 1) := by decide +kernel
theorem dX11_standsAsAlways_42 : decode cX11_standsAsAlways 42 = .ok (.aload_n 0, 1) := by decide +kernel
theorem dX11_standsAsAlways_43 : decode cX11_standsAsAlways 43 = .ok (.getfield 89, 3) := by decide +kernel
theorem dX11_standsAsAlways_46 : decode cX11_standsAsAlways 46 = .ok (.iload_n 1, 1) := by decide +kernel
theorem dX11_standsAsAlways_47 : decode cX11_standsAsAlways 47 = .ok (.iconst 3, 1) := by decide +kernel
theorem dX11_standsAsAlways_48 : decode cX11_standsAsAlways 48 = .ok (.iadd, 1) := by decide +kernel
theorem dX11_standsAsAlways_49 : decode cX11_standsAsAlways 49 = .ok (.bipush 20, 2) := by decide +kernel
theorem dX11_standsAsAlways_51 : decode cX11_standsAsAlways 51 = .ok (.iastore, 1) := by decide +kernel
theorem dX11_standsAsAlways_52 : decode cX11_standsAsAlways 52 = .ok (.aload_n 0, 1) := by decide +kernel
theorem dX11_standsAsAlways_53 : decode cX11_standsAsAlways 53 = .ok (.getfield 89, 3) := by decide +kernel
theorem dX11_standsAsAlways_56 : decode cX11_standsAsAlways 56 = .ok (.iload_n 1, 1) := by decide +kernel
theorem dX11_standsAsAlways_57 : decode cX11_standsAsAlways 57 = .ok (.bipush 6, 2) := by decide +kernel
theorem dX11_standsAsAlways_59 : decode cX11_standsAsAlways 59 = .ok (.iadd, 1) := by decide +kernel
theorem dX11_standsAsAlways_60 : decode cX11_standsAsAlways 60 = .ok (.iconst (-1), 1) := by decide +kernel
theorem dX11_standsAsAlways_61 : decode cX11_standsAsAlways 61 = .ok (.iastore, 1) := by decide +kernel
theorem dX11_standsAsAlways_62 : decode cX11_standsAsAlways 62 = .ok (.aload_n 0, 1) := by decide +kernel
theorem dX11_standsAsAlways_63 : decode cX11_standsAsAlways 63 = .ok (.getfield 89, 3) := by decide +kernel
theorem dX11_standsAsAlways_66 : decode cX11_standsAsAlways 66 = .ok (.iload_n 1, 1) := by decide +kernel
theorem dX11_standsAsAlways_67 : decode cX11_standsAsAlways 67 = .ok (.bipush 6, 2) := by decide +kernel
theorem dX11_standsAsAlways_69 : decode cX11_standsAsAlways 69 = .ok (.iadd, 1) := by decide +kernel
theorem dX11_standsAsAlways_70 : decode cX11_standsAsAlways 70 = .ok (.iconst 1, 1) := by decide +kernel
theorem dX11_standsAsAlways_71 : decode cX11_standsAsAlways 71 = .ok (.iadd, 1) := by decide +kernel
theorem dX11_standsAsAlways_72 : decode cX11_standsAsAlways 72 = .ok (.iconst (-1), 1) := by decide +kernel
theorem dX11_standsAsAlways_73 : decode cX11_standsAsAlways 73 = .ok (.iastore, 1) := by decide +kernel
theorem dX11_standsAsAlways_74 : decode cX11_standsAsAlways 74 = .ok (.return_, 1) := by decide +kernel
theorem dX11_takeNumber_0 : decode cX11_takeNumber 0 = .ok (.aload_n 0, 1) := by decide +kernel
theorem dX11_takeNumber_1 : decode cX11_takeNumber 1 = .ok (.getfield 177, 3) := by decide +kernel
theorem dX11_takeNumber_4 : decode cX11_takeNumber 4 = .ok (.ifCond .ne 24, 3) := by decide +kernel
theorem dX11_takeNumber_7 : decode cX11_takeNumber 7 = .ok (.aload_n 0, 1) := by decide +kernel
theorem dX11_takeNumber_8 : decode cX11_takeNumber 8 = .ok (.getfield 24, 3) := by decide +kernel
theorem dX11_takeNumber_11 : decode cX11_takeNumber 11 = .ok (.aload_n 0, 1) := by decide +kernel
theorem dX11_takeNumber_12 : decode cX11_takeNumber 12 = .ok (.getfield 174, 3) := by decide +kernel
theorem dX11_takeNumber_15 : decode cX11_takeNumber 15 = .ok (.iaload, 1) := by decide +kernel
theorem dX11_takeNumber_16 : decode cX11_takeNumber 16 = .ok (.iconst 2, 1) := by decide +kernel
theorem dX11_takeNumber_17 : decode cX11_takeNumber 17 = .ok (.if_icmp .eq 11, 3) := by decide +kernel
theorem dX11_takeNumber_20 : decode cX11_takeNumber 20 = .ok (.aload_n 0, 1) := by decide +kernel
theorem dX11_takeNumber_21 : decode cX11_takeNumber 21 = .ok (.iconst 1, 1) := by decide +kernel
theorem dX11_takeNumber_22 : decode cX11_takeNumber 22 = .ok (.invokevirtual 183, 3) := by decide +kernel
theorem dX11_takeNumber_25 : decode cX11_takeNumber 25 = .ok (.goto 45, 3) := by decide +kernel
theorem dX11_takeNumber_28 : decode cX11_takeNumber 28 = .ok (.aload_n 0, 1) := by decide +kernel
theorem dX11_takeNumber_29 : decode cX11_takeNumber 29 = .ok (.getfield 177, 3) := by decide +kernel
theorem dX11_takeNumber_32 : decode cX11_takeNumber 32 = .ok (.ifCond .ne 38, 3) := by decide +kernel
theorem dX11_takeNumber_35 : decode cX11_takeNumber 35 = .ok (.aload_n 0, 1) := by decide +kernel
theorem dX11_takeNumber_36 : decode cX11_takeNumber 36 = .ok (.getfield 30, 3) := by decide +kernel
theorem dX11_takeNumber_39 : decode cX11_takeNumber 39 = .ok (.aload_n 0, 1) := by decide +kernel
theorem dX11_takeNumber_40 : decode cX11_takeNumber 40 = .ok (.getfield 174, 3) := by decide +kernel
theorem dX11_takeNumber_43 : decode cX11_takeNumber 43 = .ok (.laload, 1) := by decide +kernel
theorem dX11_takeNumber_44 : decode cX11_takeNumber 44 = .ok (.iload_n 1, 1) := by decide +kernel
theorem dX11_takeNumber_45 : decode cX11_takeNumber 45 = .ok (.i2l, 1) := by decide +kernel
theorem dX11_takeNumber_46 : decode cX11_takeNumber 46 = .ok (.lcmp, 1) := by decide +kernel
theorem dX11_takeNumber_47 : decode cX11_takeNumber 47 = .ok (.ifCond .lt 18, 3) := by decide +kernel
theorem dX11_takeNumber_50 : decode cX11_takeNumber 50 = .ok (.aload_n 0, 1) := by decide +kernel
theorem dX11_takeNumber_51 : decode cX11_takeNumber 51 = .ok (.getfield 30, 3) := by decide +kernel
theorem dX11_takeNumber_54 : decode cX11_takeNumber 54 = .ok (.aload_n 0, 1) := by decide +kernel
theorem dX11_takeNumber_55 : decode cX11_takeNumber 55 = .ok (.getfield 174, 3) := by decide +kernel
theorem dX11_takeNumber_58 : decode cX11_takeNumber 58 = .ok (.laload, 1) := by decide +kernel
theorem dX11_takeNumber_59 : decode cX11_takeNumber 59 = .ok (.iload_n 2, 1) := by decide +kernel
theorem dX11_takeNumber_60 : decode cX11_takeNumber 60 = .ok (.i2l, 1) := by decide +kernel
theorem dX11_takeNumber_61 : decode cX11_takeNumber 61 = .ok (.lcmp, 1) := by decide +kernel
theorem dX11_takeNumber_62 : decode cX11_takeNumber 62 = .ok (.ifCond .le 8, 3) := by decide +kernel
theorem dX11_takeNumber_65 : decode cX11_takeNumber 65 = .ok (.aload_n 0, 1) := by decide +kernel
theorem dX11_takeNumber_66 : decode cX11_takeNumber 66 = .ok (.iconst 4, 1) := by decide +kernel
theorem dX11_takeNumber_67 : decode cX11_takeNumber 67 = .ok (.invokevirtual 183, 3) := by decide +kernel
theorem dX11_takeNumber_70 : decode cX11_takeNumber 70 = .ok (.aload_n 0, 1) := by decide +kernel
theorem dX11_takeNumber_71 : decode cX11_takeNumber 71 = .ok (.getfield 177, 3) := by decide +kernel
theorem dX11_takeNumber_74 : decode cX11_takeNumber 74 = .ok (.ifCond .le 5, 3) := by decide +kernel
theorem dX11_takeNumber_77 : decode cX11_takeNumber 77 = .ok (.iconst 0, 1) := by decide +kernel
theorem dX11_takeNumber_78 : decode cX11_takeNumber 78 = .ok (.ireturn, 1) := by decide +kernel
theorem dX11_takeNumber_79 : decode cX11_takeNumber 79 = .ok (.aload_n 0, 1) := by decide +kernel
theorem dX11_takeNumber_80 : decode cX11_takeNumber 80 = .ok (.dup, 1) := by decide +kernel
theorem dX11_takeNumber_81 : decode cX11_takeNumber 81 = .ok (.getfield 174, 3) := by decide +kernel
theorem dX11_takeNumber_84 : decode cX11_takeNumber 84 = .ok (.iconst 1, 1) := by decide +kernel
theorem dX11_takeNumber_85 : decode cX11_takeNumber 85 = .ok (.iadd, 1) := by decide +kernel
theorem dX11_takeNumber_86 : decode cX11_takeNumber 86 = .ok (.putfield 174, 3) := by decide +kernel
theorem dX11_takeNumber_89 : decode cX11_takeNumber 89 = .ok (.aload_n 0, 1) := by decide +kernel
theorem dX11_takeNumber_90 : decode cX11_takeNumber 90 = .ok (.getfield 30, 3) := by decide +kernel
theorem dX11_takeNumber_93 : decode cX11_takeNumber 93 = .ok (.aload_n 0, 1) := by decide +kernel
theorem dX11_takeNumber_94 : decode cX11_takeNumber 94 = .ok (.getfield 174, 3) := by decide +kernel
theorem dX11_takeNumber_97 : decode cX11_takeNumber 97 = .ok (.iconst 1, 1) := by decide +kernel
theorem dX11_takeNumber_98 : decode cX11_takeNumber 98 = .ok (.isub, 1) := by decide +kernel
theorem dX11_takeNumber_99 : decode cX11_takeNumber 99 = .ok (.laload, 1) := by decide +kernel
theorem dX11_takeNumber_100 : decode cX11_takeNumber 100 = .ok (.l2i, 1) := by decide +kernel
theorem dX11_takeNumber_101 : decode cX11_takeNumber 101 = .ok (.ireturn, 1) := by decide +kernel
theorem dX11_takeAfter_0 : decode cX11_takeAfter 0 = .ok (.aload_n 0, 1) := by decide +kernel
theorem dX11_takeAfter_1 : decode cX11_takeAfter 1 = .ok (.iload_n 1, 1) := by decide +kernel
theorem dX11_takeAfter_2 : decode cX11_takeAfter 2 = .ok (.invokevirtual 192, 3) := by decide +kernel
theorem dX11_takeAfter_5 : decode cX11_takeAfter 5 = .ok (.aload_n 0, 1) := by decide +kernel
theorem dX11_takeAfter_6 : decode cX11_takeAfter 6 = .ok (.iload_n 2, 1) := by decide +kernel
theorem dX11_takeAfter_7 : decode cX11_takeAfter 7 = .ok (.iload_n 3, 1) := by decide +kernel
theorem dX11_takeAfter_8 : decode cX11_takeAfter 8 = .ok (.invokevirtual 195, 3) := by decide +kernel
theorem dX11_takeAfter_11 : decode cX11_takeAfter 11 = .ok (.ireturn, 1) := by decide +kernel
theorem dX11_wordHere_0 : decode cX11_wordHere 0 = .ok (.iconst (-1), 1) := by decide +kernel
theorem dX11_wordHere_1 : decode cX11_wordHere 1 = .ok (.istore_n 3, 1) := by decide +kernel
theorem dX11_wordHere_2 : decode cX11_wordHere 2 = .ok (.iconst 0, 1) := by decide +kernel
theorem dX11_wordHere_3 : decode cX11_wordHere 3 = .ok (.istore 4, 2) := by decide +kernel
theorem dX11_wordHere_5 : decode cX11_wordHere 5 = .ok (.iload 4, 2) := by decide +kernel
theorem dX11_wordHere_7 : decode cX11_wordHere 7 = .ok (.iload_n 2, 1) := by decide +kernel
theorem dX11_wordHere_8 : decode cX11_wordHere 8 = .ok (.if_icmp .ge 27, 3) := by decide +kernel
theorem dX11_wordHere_11 : decode cX11_wordHere 11 = .ok (.aload_n 0, 1) := by decide +kernel
theorem dX11_wordHere_12 : decode cX11_wordHere 12 = .ok (.iload_n 1, 1) := by decide +kernel
theorem dX11_wordHere_13 : decode cX11_wordHere 13 = .ok (.iload 4, 2) := by decide +kernel
theorem dX11_wordHere_15 : decode cX11_wordHere 15 = .ok (.iadd, 1) := by decide +kernel
theorem dX11_wordHere_16 : decode cX11_wordHere 16 = .ok (.invokevirtual 186, 3) := by decide +kernel
theorem dX11_wordHere_19 : decode cX11_wordHere 19 = .ok (.ifCond .eq 8, 3) := by decide +kernel
theorem dX11_wordHere_22 : decode cX11_wordHere 22 = .ok (.iload 4, 2) := by decide +kernel
theorem dX11_wordHere_24 : decode cX11_wordHere 24 = .ok (.goto 4, 3) := by decide +kernel
theorem dX11_wordHere_27 : decode cX11_wordHere 27 = .ok (.iload_n 3, 1) := by decide +kernel
theorem dX11_wordHere_28 : decode cX11_wordHere 28 = .ok (.istore_n 3, 1) := by decide +kernel
theorem dX11_wordHere_29 : decode cX11_wordHere 29 = .ok (.iinc 4 1, 3) := by decide +kernel
theorem dX11_wordHere_32 : decode cX11_wordHere 32 = .ok (.goto (-27), 3) := by decide +kernel
theorem dX11_wordHere_35 : decode cX11_wordHere 35 = .ok (.iload_n 3, 1) := by decide +kernel
theorem dX11_wordHere_36 : decode cX11_wordHere 36 = .ok (.ireturn, 1) := by decide +kernel
theorem dX11_takeOne_0 : decode cX11_takeOne 0 = .ok (.aload_n 0, 1) := by decide +kernel
theorem dX11_takeOne_1 : decode cX11_takeOne 1 = .ok (.getfield 177, 3) := by decide +kernel
theorem dX11_takeOne_4 : decode cX11_takeOne 4 = .ok (.ifCond .le 7, 3) := by decide +kernel
theorem dX11_takeOne_7 : decode cX11_takeOne 7 = .ok (.iconst (-1), 1) := by decide +kernel
theorem dX11_takeOne_8 : decode cX11_takeOne 8 = .ok (.goto 9, 3) := by decide +kernel
theorem dX11_takeOne_11 : decode cX11_takeOne 11 = .ok (.aload_n 0, 1) := by decide +kernel
theorem dX11_takeOne_12 : decode cX11_takeOne 12 = .ok (.iload_n 1, 1) := by decide +kernel
theorem dX11_takeOne_13 : decode cX11_takeOne 13 = .ok (.iload_n 2, 1) := by decide +kernel
theorem dX11_takeOne_14 : decode cX11_takeOne 14 = .ok (.invokevirtual 199, 3) := by decide +kernel
theorem dX11_takeOne_17 : decode cX11_takeOne 17 = .ok (.istore_n 3, 1) := by decide +kernel
theorem dX11_takeOne_18 : decode cX11_takeOne 18 = .ok (.aload_n 0, 1) := by decide +kernel
theorem dX11_takeOne_19 : decode cX11_takeOne 19 = .ok (.getfield 177, 3) := by decide +kernel
theorem dX11_takeOne_22 : decode cX11_takeOne 22 = .ok (.ifCond .ne 12, 3) := by decide +kernel
theorem dX11_takeOne_25 : decode cX11_takeOne 25 = .ok (.iload_n 3, 1) := by decide +kernel
theorem dX11_takeOne_26 : decode cX11_takeOne 26 = .ok (.ifCond .ge 8, 3) := by decide +kernel
theorem dX11_takeOne_29 : decode cX11_takeOne 29 = .ok (.aload_n 0, 1) := by decide +kernel
theorem dX11_takeOne_30 : decode cX11_takeOne 30 = .ok (.iconst 1, 1) := by decide +kernel
theorem dX11_takeOne_31 : decode cX11_takeOne 31 = .ok (.invokevirtual 183, 3) := by decide +kernel
theorem dX11_takeOne_34 : decode cX11_takeOne 34 = .ok (.aload_n 0, 1) := by decide +kernel
theorem dX11_takeOne_35 : decode cX11_takeOne 35 = .ok (.dup, 1) := by decide +kernel
theorem dX11_takeOne_36 : decode cX11_takeOne 36 = .ok (.getfield 174, 3) := by decide +kernel
theorem dX11_takeOne_39 : decode cX11_takeOne 39 = .ok (.aload_n 0, 1) := by decide +kernel
theorem dX11_takeOne_40 : decode cX11_takeOne 40 = .ok (.getfield 177, 3) := by decide +kernel
theorem dX11_takeOne_43 : decode cX11_takeOne 43 = .ok (.ifCond .le 7, 3) := by decide +kernel
theorem dX11_takeOne_46 : decode cX11_takeOne 46 = .ok (.iconst 0, 1) := by decide +kernel
theorem dX11_takeOne_47 : decode cX11_takeOne 47 = .ok (.goto 4, 3) := by decide +kernel
theorem dX11_takeOne_50 : decode cX11_takeOne 50 = .ok (.iconst 1, 1) := by decide +kernel
theorem dX11_takeOne_51 : decode cX11_takeOne 51 = .ok (.iadd, 1) := by decide +kernel
theorem dX11_takeOne_52 : decode cX11_takeOne 52 = .ok (.putfield 174, 3) := by decide +kernel
theorem dX11_takeOne_55 : decode cX11_takeOne 55 = .ok (.aload_n 0, 1) := by decide +kernel
theorem dX11_takeOne_56 : decode cX11_takeOne 56 = .ok (.getfield 177, 3) := by decide +kernel
theorem dX11_takeOne_59 : decode cX11_takeOne 59 = .ok (.ifCond .le 7, 3) := by decide +kernel
theorem dX11_takeOne_62 : decode cX11_takeOne 62 = .ok (.iconst 0, 1) := by decide +kernel
theorem dX11_takeOne_63 : decode cX11_takeOne 63 = .ok (.goto 4, 3) := by decide +kernel
theorem dX11_takeOne_66 : decode cX11_takeOne 66 = .ok (.iload_n 3, 1) := by decide +kernel
theorem dX11_takeOne_67 : decode cX11_takeOne 67 = .ok (.ireturn, 1) := by decide +kernel
theorem dX11_isName_0 : decode cX11_isName 0 = .ok (.aload_n 0, 1) := by decide +kernel
theorem dX11_isName_1 : decode cX11_isName 1 = .ok (.getfield 177, 3) := by decide +kernel
theorem dX11_isName_4 : decode cX11_isName 4 = .ok (.ifCond .ne 30, 3) := by decide +kernel
theorem dX11_isName_7 : decode cX11_isName 7 = .ok (.aload_n 0, 1) := by decide +kernel
theorem dX11_isName_8 : decode cX11_isName 8 = .ok (.getfield 24, 3) := by decide +kernel
theorem dX11_isName_11 : decode cX11_isName 11 = .ok (.aload_n 0, 1) := by decide +kernel
theorem dX11_isName_12 : decode cX11_isName 12 = .ok (.getfield 174, 3) := by decide +kernel
theorem dX11_isName_15 : decode cX11_isName 15 = .ok (.iaload, 1) := by decide +kernel
theorem dX11_isName_16 : decode cX11_isName 16 = .ok (.iconst 1, 1) := by decide +kernel
theorem dX11_isName_17 : decode cX11_isName 17 = .ok (.if_icmp .ne 17, 3) := by decide +kernel
theorem dX11_isName_20 : decode cX11_isName 20 = .ok (.aload_n 0, 1) := by decide +kernel
theorem dX11_isName_21 : decode cX11_isName 21 = .ok (.iconst 0, 1) := by decide +kernel
theorem dX11_isName_22 : decode cX11_isName 22 = .ok (.bipush 23, 2) := by decide +kernel
theorem dX11_isName_24 : decode cX11_isName 24 = .ok (.invokevirtual 199, 3) := by decide +kernel
theorem dX11_isName_27 : decode cX11_isName 27 = .ok (.ifCond .ge 7, 3) := by decide +kernel
theorem dX11_isName_30 : decode cX11_isName 30 = .ok (.iconst 1, 1) := by decide +kernel
theorem dX11_isName_31 : decode cX11_isName 31 = .ok (.goto 4, 3) := by decide +kernel
theorem dX11_isName_34 : decode cX11_isName 34 = .ok (.iconst 0, 1) := by decide +kernel
theorem dX11_isName_35 : decode cX11_isName 35 = .ok (.ireturn, 1) := by decide +kernel
theorem dX11_find_0 : decode cX11_find 0 = .ok (.iconst (-1), 1) := by decide +kernel
theorem dX11_find_1 : decode cX11_find 1 = .ok (.istore_n 2, 1) := by decide +kernel
theorem dX11_find_2 : decode cX11_find 2 = .ok (.iconst 0, 1) := by decide +kernel
theorem dX11_find_3 : decode cX11_find 3 = .ok (.istore_n 3, 1) := by decide +kernel
theorem dX11_find_4 : decode cX11_find 4 = .ok (.iload_n 3, 1) := by decide +kernel
theorem dX11_find_5 : decode cX11_find 5 = .ok (.iload_n 1, 1) := by decide +kernel
theorem dX11_find_6 : decode cX11_find 6 = .ok (.ifCond .eq 10, 3) := by decide +kernel
theorem dX11_find_9 : decode cX11_find 9 = .ok (.aload_n 0, 1) := by decide +kernel
theorem dX11_find_10 : decode cX11_find 10 = .ok (.getfield 202, 3) := by decide +kernel
theorem dX11_find_13 : decode cX11_find 13 = .ok (.goto 7, 3) := by decide +kernel
theorem dX11_find_16 : decode cX11_find 16 = .ok (.aload_n 0, 1) := by decide +kernel
theorem dX11_find_17 : decode cX11_find 17 = .ok (.getfield 205, 3) := by decide +kernel
theorem dX11_find_20 : decode cX11_find 20 = .ok (.if_icmp .ge 47, 3) := by decide +kernel
theorem dX11_find_23 : decode cX11_find 23 = .ok (.iload_n 1, 1) := by decide +kernel
theorem dX11_find_24 : decode cX11_find 24 = .ok (.ifCond .eq 12, 3) := by decide +kernel
theorem dX11_find_27 : decode cX11_find 27 = .ok (.aload_n 0, 1) := by decide +kernel
theorem dX11_find_28 : decode cX11_find 28 = .ok (.getfield 101, 3) := by decide +kernel
theorem dX11_find_31 : decode cX11_find 31 = .ok (.iload_n 3, 1) := by decide +kernel
theorem dX11_find_32 : decode cX11_find 32 = .ok (.laload, 1) := by decide +kernel
theorem dX11_find_33 : decode cX11_find 33 = .ok (.goto 9, 3) := by decide +kernel
theorem dX11_find_36 : decode cX11_find 36 = .ok (.aload_n 0, 1) := by decide +kernel
theorem dX11_find_37 : decode cX11_find 37 = .ok (.getfield 98, 3) := by decide +kernel
theorem dX11_find_40 : decode cX11_find 40 = .ok (.iload_n 3, 1) := by decide +kernel
theorem dX11_find_41 : decode cX11_find 41 = .ok (.laload, 1) := by decide +kernel
theorem dX11_find_42 : decode cX11_find 42 = .ok (.aload_n 0, 1) := by decide +kernel
theorem dX11_find_43 : decode cX11_find 43 = .ok (.getfield 30, 3) := by decide +kernel
theorem dX11_find_46 : decode cX11_find 46 = .ok (.aload_n 0, 1) := by decide +kernel
theorem dX11_find_47 : decode cX11_find 47 = .ok (.getfield 174, 3) := by decide +kernel
theorem dX11_find_50 : decode cX11_find 50 = .ok (.laload, 1) := by decide +kernel
theorem dX11_find_51 : decode cX11_find 51 = .ok (.lcmp, 1) := by decide +kernel
theorem dX11_find_52 : decode cX11_find 52 = .ok (.ifCond .ne 7, 3) := by decide +kernel
theorem dX11_find_55 : decode cX11_find 55 = .ok (.iload_n 3, 1) := by decide +kernel
theorem dX11_find_56 : decode cX11_find 56 = .ok (.goto 4, 3) := by decide +kernel
theorem dX11_find_59 : decode cX11_find 59 = .ok (.iload_n 2, 1) := by decide +kernel
theorem dX11_find_60 : decode cX11_find 60 = .ok (.istore_n 2, 1) := by decide +kernel
theorem dX11_find_61 : decode cX11_find 61 = .ok (.iinc 3 1, 3) := by decide +kernel
theorem dX11_find_64 : decode cX11_find 64 = .ok (.goto (-60), 3) := by decide +kernel
theorem dX11_find_67 : decode cX11_find 67 = .ok (.iload_n 2, 1) := by decide +kernel
theorem dX11_find_68 : decode cX11_find 68 = .ok (.ireturn, 1) := by decide +kernel
theorem dX11_toldHere_0 : decode cX11_toldHere 0 = .ok (.aload_n 0, 1) := by decide +kernel
theorem dX11_toldHere_1 : decode cX11_toldHere 1 = .ok (.getfield 177, 3) := by decide +kernel
theorem dX11_toldHere_4 : decode cX11_toldHere 4 = .ok (.ifCond .ne 15, 3) := by decide +kernel
theorem dX11_toldHere_7 : decode cX11_toldHere 7 = .ok (.aload_n 0, 1) := by decide +kernel
theorem dX11_toldHere_8 : decode cX11_toldHere 8 = .ok (.invokevirtual 208, 3) := by decide +kernel
theorem dX11_toldHere_11 : decode cX11_toldHere 11 = .ok (.ifCond .ne 8, 3) := by decide +kernel
theorem dX11_toldHere_14 : decode cX11_toldHere 14 = .ok (.aload_n 0, 1) := by decide +kernel
theorem dX11_toldHere_15 : decode cX11_toldHere 15 = .ok (.iconst 1, 1) := by decide +kernel
theorem dX11_toldHere_16 : decode cX11_toldHere 16 = .ok (.invokevirtual 183, 3) := by decide +kernel
theorem dX11_toldHere_19 : decode cX11_toldHere 19 = .ok (.aload_n 0, 1) := by decide +kernel
theorem dX11_toldHere_20 : decode cX11_toldHere 20 = .ok (.getfield 177, 3) := by decide +kernel
theorem dX11_toldHere_23 : decode cX11_toldHere 23 = .ok (.ifCond .le 7, 3) := by decide +kernel
theorem dX11_toldHere_26 : decode cX11_toldHere 26 = .ok (.iconst (-1), 1) := by decide +kernel
theorem dX11_toldHere_27 : decode cX11_toldHere 27 = .ok (.goto 8, 3) := by decide +kernel
theorem dX11_toldHere_30 : decode cX11_toldHere 30 = .ok (.aload_n 0, 1) := by decide +kernel
theorem dX11_toldHere_31 : decode cX11_toldHere 31 = .ok (.iload_n 1, 1) := by decide +kernel
theorem dX11_toldHere_32 : decode cX11_toldHere 32 = .ok (.invokevirtual 212, 3) := by decide +kernel
theorem dX11_toldHere_35 : decode cX11_toldHere 35 = .ok (.istore_n 2, 1) := by decide +kernel
theorem dX11_toldHere_36 : decode cX11_toldHere 36 = .ok (.aload_n 0, 1) := by decide +kernel
theorem dX11_toldHere_37 : decode cX11_toldHere 37 = .ok (.getfield 177, 3) := by decide +kernel
theorem dX11_toldHere_40 : decode cX11_toldHere 40 = .ok (.ifCond .ne 12, 3) := by decide +kernel
theorem dX11_toldHere_43 : decode cX11_toldHere 43 = .ok (.iload_n 2, 1) := by decide +kernel
theorem dX11_toldHere_44 : decode cX11_toldHere 44 = .ok (.ifCond .ge 8, 3) := by decide +kernel
theorem dX11_toldHere_47 : decode cX11_toldHere 47 = .ok (.aload_n 0, 1) := by decide +kernel
theorem dX11_toldHere_48 : decode cX11_toldHere 48 = .ok (.iconst 2, 1) := by decide +kernel
theorem dX11_toldHere_49 : decode cX11_toldHere 49 = .ok (.invokevirtual 183, 3) := by decide +kernel
theorem dX11_toldHere_52 : decode cX11_toldHere 52 = .ok (.aload_n 0, 1) := by decide +kernel
theorem dX11_toldHere_53 : decode cX11_toldHere 53 = .ok (.getfield 177, 3) := by decide +kernel
theorem dX11_toldHere_56 : decode cX11_toldHere 56 = .ok (.ifCond .le 7, 3) := by decide +kernel
theorem dX11_toldHere_59 : decode cX11_toldHere 59 = .ok (.iconst 0, 1) := by decide +kernel
theorem dX11_toldHere_60 : decode cX11_toldHere 60 = .ok (.goto 4, 3) := by decide +kernel
theorem dX11_toldHere_63 : decode cX11_toldHere 63 = .ok (.iload_n 2, 1) := by decide +kernel
theorem dX11_toldHere_64 : decode cX11_toldHere 64 = .ok (.ireturn, 1) := by decide +kernel
theorem dX11_takeTold_0 : decode cX11_takeTold 0 = .ok (.aload_n 0, 1) := by decide +kernel
theorem dX11_takeTold_1 : decode cX11_takeTold 1 = .ok (.iload_n 1, 1) := by decide +kernel
theorem dX11_takeTold_2 : decode cX11_takeTold 2 = .ok (.invokevirtual 216, 3) := by decide +kernel
theorem dX11_takeTold_5 : decode cX11_takeTold 5 = .ok (.istore_n 2, 1) := by decide +kernel
theorem dX11_takeTold_6 : decode cX11_takeTold 6 = .ok (.aload_n 0, 1) := by decide +kernel
theorem dX11_takeTold_7 : decode cX11_takeTold 7 = .ok (.dup, 1) := by decide +kernel
theorem dX11_takeTold_8 : decode cX11_takeTold 8 = .ok (.getfield 174, 3) := by decide +kernel
theorem dX11_takeTold_11 : decode cX11_takeTold 11 = .ok (.aload_n 0, 1) := by decide +kernel
theorem dX11_takeTold_12 : decode cX11_takeTold 12 = .ok (.getfield 177, 3) := by decide +kernel
theorem dX11_takeTold_15 : decode cX11_takeTold 15 = .ok (.ifCond .le 7, 3) := by decide +kernel
theorem dX11_takeTold_18 : decode cX11_takeTold 18 = .ok (.iconst 0, 1) := by decide +kernel
theorem dX11_takeTold_19 : decode cX11_takeTold 19 = .ok (.goto 4, 3) := by decide +kernel
theorem dX11_takeTold_22 : decode cX11_takeTold 22 = .ok (.iconst 1, 1) := by decide +kernel
theorem dX11_takeTold_23 : decode cX11_takeTold 23 = .ok (.iadd, 1) := by decide +kernel
theorem dX11_takeTold_24 : decode cX11_takeTold 24 = .ok (.putfield 174, 3) := by decide +kernel
theorem dX11_takeTold_27 : decode cX11_takeTold 27 = .ok (.iload_n 2, 1) := by decide +kernel
theorem dX11_takeTold_28 : decode cX11_takeTold 28 = .ok (.ireturn, 1) := by decide +kernel
theorem dX11_line_0 : decode cX11_line 0 = .ok (.aload_n 0, 1) := by decide +kernel
theorem dX11_line_1 : decode cX11_line 1 = .ok (.iconst 0, 1) := by decide +kernel
theorem dX11_line_2 : decode cX11_line 2 = .ok (.putfield 1, 3) := by decide +kernel
theorem dX11_line_5 : decode cX11_line 5 = .ok (.aload_n 0, 1) := by decide +kernel
theorem dX11_line_6 : decode cX11_line 6 = .ok (.invokevirtual 219, 3) := by decide +kernel
theorem dX11_line_9 : decode cX11_line 9 = .ok (.aload_n 0, 1) := by decide +kernel
theorem dX11_line_10 : decode cX11_line 10 = .ok (.iconst 0, 1) := by decide +kernel
theorem dX11_line_11 : decode cX11_line 11 = .ok (.putfield 222, 3) := by decide +kernel
theorem dX11_line_14 : decode cX11_line 14 = .ok (.aload_n 0, 1) := by decide +kernel
theorem dX11_line_15 : decode cX11_line 15 = .ok (.iconst 0, 1) := by decide +kernel
theorem dX11_line_16 : decode cX11_line 16 = .ok (.putfield 202, 3) := by decide +kernel
theorem dX11_line_19 : decode cX11_line 19 = .ok (.aload_n 0, 1) := by decide +kernel
theorem dX11_line_20 : decode cX11_line 20 = .ok (.iconst 0, 1) := by decide +kernel
theorem dX11_line_21 : decode cX11_line 21 = .ok (.putfield 225, 3) := by decide +kernel
theorem dX11_line_24 : decode cX11_line 24 = .ok (.aload_n 0, 1) := by decide +kernel
theorem dX11_line_25 : decode cX11_line 25 = .ok (.bipush 100, 2) := by decide +kernel
theorem dX11_line_27 : decode cX11_line 27 = .ok (.invokevirtual 144, 3) := by decide +kernel
theorem dX11_line_30 : decode cX11_line 30 = .ok (.aload_n 0, 1) := by decide +kernel
theorem dX11_line_31 : decode cX11_line 31 = .ok (.getfield 177, 3) := by decide +kernel
theorem dX11_line_34 : decode cX11_line 34 = .ok (.ifCond .ne 59, 3) := by decide +kernel
theorem dX11_line_37 : decode cX11_line 37 = .ok (.aload_n 0, 1) := by decide +kernel
theorem dX11_line_38 : decode cX11_line 38 = .ok (.getfield 24, 3) := by decide +kernel
theorem dX11_line_41 : decode cX11_line 41 = .ok (.aload_n 0, 1) := by decide +kernel
theorem dX11_line_42 : decode cX11_line 42 = .ok (.getfield 174, 3) := by decide +kernel
theorem dX11_line_45 : decode cX11_line 45 = .ok (.iaload, 1) := by decide +kernel
theorem dX11_line_46 : decode cX11_line 46 = .ok (.ifCond .eq 47, 3) := by decide +kernel
theorem dX11_line_49 : decode cX11_line 49 = .ok (.aload_n 0, 1) := by decide +kernel
theorem dX11_line_50 : decode cX11_line 50 = .ok (.iconst 0, 1) := by decide +kernel
theorem dX11_line_51 : decode cX11_line 51 = .ok (.invokevirtual 186, 3) := by decide +kernel
theorem dX11_line_54 : decode cX11_line 54 = .ok (.ifCond .eq 10, 3) := by decide +kernel
theorem dX11_line_57 : decode cX11_line 57 = .ok (.aload_n 0, 1) := by decide +kernel
theorem dX11_line_58 : decode cX11_line 58 = .ok (.invokevirtual 228, 3) := by decide +kernel
theorem dX11_line_61 : decode cX11_line 61 = .ok (.goto 23, 3) := by decide +kernel
theorem dX11_line_64 : decode cX11_line 64 = .ok (.aload_n 0, 1) := by decide +kernel
theorem dX11_line_65 : decode cX11_line 65 = .ok (.bipush 8, 2) := by decide +kernel
theorem dX11_line_67 : decode cX11_line 67 = .ok (.invokevirtual 186, 3) := by decide +kernel
theorem dX11_line_70 : decode cX11_line 70 = .ok (.ifCond .eq 10, 3) := by decide +kernel
theorem dX11_line_73 : decode cX11_line 73 = .ok (.aload_n 0, 1) := by decide +kernel
theorem dX11_line_74 : decode cX11_line 74 = .ok (.invokevirtual 231, 3) := by decide +kernel
theorem dX11_line_77 : decode cX11_line 77 = .ok (.goto 7, 3) := by decide +kernel
theorem dX11_line_80 : decode cX11_line 80 = .ok (.aload_n 0, 1) := by decide +kernel
theorem dX11_line_81 : decode cX11_line 81 = .ok (.invokevirtual 234, 3) := by decide +kernel
theorem dX11_line_84 : decode cX11_line 84 = .ok (.aload_n 0, 1) := by decide +kernel
theorem dX11_line_85 : decode cX11_line 85 = .ok (.bipush 59, 2) := by decide +kernel
theorem dX11_line_87 : decode cX11_line 87 = .ok (.invokevirtual 237, 3) := by decide +kernel
theorem dX11_line_90 : decode cX11_line 90 = .ok (.goto (-60), 3) := by decide +kernel
theorem dX11_line_93 : decode cX11_line 93 = .ok (.aload_n 0, 1) := by decide +kernel
theorem dX11_line_94 : decode cX11_line 94 = .ok (.getfield 177, 3) := by decide +kernel
theorem dX11_line_97 : decode cX11_line 97 = .ok (.ifCond .le 8, 3) := by decide +kernel
theorem dX11_line_100 : decode cX11_line 100 = .ok (.aload_n 0, 1) := by decide +kernel
theorem dX11_line_101 : decode cX11_line 101 = .ok (.getfield 177, 3) := by decide +kernel
theorem dX11_line_104 : decode cX11_line 104 = .ok (.ireturn, 1) := by decide +kernel
theorem dX11_line_105 : decode cX11_line 105 = .ok (.iconst 0, 1) := by decide +kernel
theorem dX11_line_106 : decode cX11_line 106 = .ok (.istore_n 1, 1) := by decide +kernel
theorem dX11_line_107 : decode cX11_line 107 = .ok (.iload_n 1, 1) := by decide +kernel
theorem dX11_line_108 : decode cX11_line 108 = .ok (.bipush 100, 2) := by decide +kernel
theorem dX11_line_110 : decode cX11_line 110 = .ok (.if_icmp .ge 24, 3) := by decide +kernel
theorem dX11_line_113 : decode cX11_line 113 = .ok (.aload_n 0, 1) := by decide +kernel
theorem dX11_line_114 : decode cX11_line 114 = .ok (.getfield 89, 3) := by decide +kernel
theorem dX11_line_117 : decode cX11_line 117 = .ok (.iload_n 1, 1) := by decide +kernel
theorem dX11_line_118 : decode cX11_line 118 = .ok (.aload_n 0, 1) := by decide +kernel
theorem dX11_line_119 : decode cX11_line 119 = .ok (.getfield 89, 3) := by decide +kernel
theorem dX11_line_122 : decode cX11_line 122 = .ok (.bipush 100, 2) := by decide +kernel
theorem dX11_line_124 : decode cX11_line 124 = .ok (.iload_n 1, 1) := by decide +kernel
theorem dX11_line_125 : decode cX11_line 125 = .ok (.iadd, 1) := by decide +kernel
theorem dX11_line_126 : decode cX11_line 126 = .ok (.iaload, 1) := by decide +kernel
theorem dX11_line_127 : decode cX11_line 127 = .ok (.iastore, 1) := by decide +kernel
theorem dX11_line_128 : decode cX11_line 128 = .ok (.iinc 1 1, 3) := by decide +kernel
theorem dX11_line_131 : decode cX11_line 131 = .ok (.goto (-24), 3) := by decide +kernel
theorem dX11_line_134 : decode cX11_line 134 = .ok (.iconst 0, 1) := by decide +kernel
theorem dX11_line_135 : decode cX11_line 135 = .ok (.istore_n 1, 1) := by decide +kernel
theorem dX11_line_136 : decode cX11_line 136 = .ok (.iload_n 1, 1) := by decide +kernel
theorem dX11_line_137 : decode cX11_line 137 = .ok (.aload_n 0, 1) := by decide +kernel
theorem dX11_line_138 : decode cX11_line 138 = .ok (.getfield 222, 3) := by decide +kernel
theorem dX11_line_141 : decode cX11_line 141 = .ok (.if_icmp .ge 41, 3) := by decide +kernel
theorem dX11_line_144 : decode cX11_line 144 = .ok (.aload_n 0, 1) := by decide +kernel
theorem dX11_line_145 : decode cX11_line 145 = .ok (.getfield 92, 3) := by decide +kernel
theorem dX11_line_148 : decode cX11_line 148 = .ok (.iload_n 1, 1) := by decide +kernel
theorem dX11_line_149 : decode cX11_line 149 = .ok (.aload_n 0, 1) := by decide +kernel
theorem dX11_line_150 : decode cX11_line 150 = .ok (.getfield 92, 3) := by decide +kernel
theorem dX11_line_153 : decode cX11_line 153 = .ok (.sipush 1100, 3) := by decide +kernel
theorem dX11_line_156 : decode cX11_line 156 = .ok (.iload_n 1, 1) := by decide +kernel
theorem dX11_line_157 : decode cX11_line 157 = .ok (.iadd, 1) := by decide +kernel
theorem dX11_line_158 : decode cX11_line 158 = .ok (.iaload, 1) := by decide +kernel
theorem dX11_line_159 : decode cX11_line 159 = .ok (.iastore, 1) := by decide +kernel
theorem dX11_line_160 : decode cX11_line 160 = .ok (.aload_n 0, 1) := by decide +kernel
theorem dX11_line_161 : decode cX11_line 161 = .ok (.getfield 95, 3) := by decide +kernel
theorem dX11_line_164 : decode cX11_line 164 = .ok (.iload_n 1, 1) := by decide +kernel
theorem dX11_line_165 : decode cX11_line 165 = .ok (.aload_n 0, 1) := by decide +kernel
theorem dX11_line_166 : decode cX11_line 166 = .ok (.getfield 95, 3) := by decide +kernel
theorem dX11_line_169 : decode cX11_line 169 = .ok (.sipush 1100, 3) := by decide +kernel
theorem dX11_line_172 : decode cX11_line 172 = .ok (.iload_n 1, 1) := by decide +kernel
theorem dX11_line_173 : decode cX11_line 173 = .ok (.iadd, 1) := by decide +kernel
theorem dX11_line_174 : decode cX11_line 174 = .ok (.iaload, 1) := by decide +kernel
theorem dX11_line_175 : decode cX11_line 175 = .ok (.iastore, 1) := by decide +kernel
theorem dX11_line_176 : decode cX11_line 176 = .ok (.iinc 1 1, 3) := by decide +kernel
theorem dX11_line_179 : decode cX11_line 179 = .ok (.goto (-43), 3) := by decide +kernel
theorem dX11_line_182 : decode cX11_line 182 = .ok (.iconst 0, 1) := by decide +kernel
theorem dX11_line_183 : decode cX11_line 183 = .ok (.istore_n 1, 1) := by decide +kernel
theorem dX11_line_184 : decode cX11_line 184 = .ok (.iload_n 1, 1) := by decide +kernel
theorem dX11_line_185 : decode cX11_line 185 = .ok (.aload_n 0, 1) := by decide +kernel
theorem dX11_line_186 : decode cX11_line 186 = .ok (.getfield 202, 3) := by decide +kernel
theorem dX11_line_189 : decode cX11_line 189 = .ok (.if_icmp .ge 21, 3) := by decide +kernel
theorem dX11_line_192 : decode cX11_line 192 = .ok (.aload_n 0, 1) := by decide +kernel
theorem dX11_line_193 : decode cX11_line 193 = .ok (.getfield 98, 3) := by decide +kernel
theorem dX11_line_196 : decode cX11_line 196 = .ok (.iload_n 1, 1) := by decide +kernel
theorem dX11_line_197 : decode cX11_line 197 = .ok (.aload_n 0, 1) := by decide +kernel
theorem dX11_line_198 : decode cX11_line 198 = .ok (.getfield 101, 3) := by decide +kernel
theorem dX11_line_201 : decode cX11_line 201 = .ok (.iload_n 1, 1) := by decide +kernel
theorem dX11_line_202 : decode cX11_line 202 = .ok (.laload, 1) := by decide +kernel
theorem dX11_line_203 : decode cX11_line 203 = .ok (.lastore, 1) := by decide +kernel
theorem dX11_line_204 : decode cX11_line 204 = .ok (.iinc 1 1, 3) := by decide +kernel
theorem dX11_line_207 : decode cX11_line 207 = .ok (.goto (-23), 3) := by decide +kernel
theorem dX11_line_210 : decode cX11_line 210 = .ok (.aload_n 0, 1) := by decide +kernel
theorem dX11_line_211 : decode cX11_line 211 = .ok (.aload_n 0, 1) := by decide +kernel
theorem dX11_line_212 : decode cX11_line 212 = .ok (.getfield 202, 3) := by decide +kernel
theorem dX11_line_215 : decode cX11_line 215 = .ok (.putfield 205, 3) := by decide +kernel
theorem dX11_line_218 : decode cX11_line 218 = .ok (.aload_n 0, 1) := by decide +kernel
theorem dX11_line_219 : decode cX11_line 219 = .ok (.invokevirtual 148, 3) := by decide +kernel
theorem dX11_line_222 : decode cX11_line 222 = .ok (.iconst 0, 1) := by decide +kernel
theorem dX11_line_223 : decode cX11_line 223 = .ok (.ireturn, 1) := by decide +kernel
theorem dX11_readCloth_0 : decode cX11_readCloth 0 = .ok (.aload_n 0, 1) := by decide +kernel
theorem dX11_readCloth_1 : decode cX11_readCloth 1 = .ok (.getfield 89, 3) := by decide +kernel
theorem dX11_readCloth_4 : decode cX11_readCloth 4 = .ok (.bipush 100, 2) := by decide +kernel
theorem dX11_readCloth_6 : decode cX11_readCloth 6 = .ok (.iaload, 1) := by decide +kernel
theorem dX11_readCloth_7 : decode cX11_readCloth 7 = .ok (.istore_n 1, 1) := by decide +kernel
theorem dX11_readCloth_8 : decode cX11_readCloth 8 = .ok (.iload_n 1, 1) := by decide +kernel
theorem dX11_readCloth_9 : decode cX11_readCloth 9 = .ok (.bipush 6, 2) := by decide +kernel
theorem dX11_readCloth_11 : decode cX11_readCloth 11 = .ok (.if_icmp .ne 9, 3) := by decide +kernel
theorem dX11_readCloth_14 : decode cX11_readCloth 14 = .ok (.aload_n 0, 1) := by decide +kernel
theorem dX11_readCloth_15 : decode cX11_readCloth 15 = .ok (.iconst 5, 1) := by decide +kernel
theorem dX11_readCloth_16 : decode cX11_readCloth 16 = .ok (.invokevirtual 183, 3) := by decide +kernel
theorem dX11_readCloth_19 : decode cX11_readCloth 19 = .ok (.return_, 1) := by decide +kernel
theorem dX11_readCloth_20 : decode cX11_readCloth 20 = .ok (.aload_n 0, 1) := by decide +kernel
theorem dX11_readCloth_21 : decode cX11_readCloth 21 = .ok (.dup, 1) := by decide +kernel
theorem dX11_readCloth_22 : decode cX11_readCloth 22 = .ok (.getfield 174, 3) := by decide +kernel
theorem dX11_readCloth_25 : decode cX11_readCloth 25 = .ok (.iconst 1, 1) := by decide +kernel
theorem dX11_readCloth_26 : decode cX11_readCloth 26 = .ok (.iadd, 1) := by decide +kernel
theorem dX11_readCloth_27 : decode cX11_readCloth 27 = .ok (.putfield 174, 3) := by decide +kernel
theorem dX11_readCloth_30 : decode cX11_readCloth 30 = .ok (.aload_n 0, 1) := by decide +kernel
theorem dX11_readCloth_31 : decode cX11_readCloth 31 = .ok (.invokevirtual 208, 3) := by decide +kernel
theorem dX11_readCloth_34 : decode cX11_readCloth 34 = .ok (.ifCond .ne 11, 3) := by decide +kernel
theorem dX11_readCloth_37 : decode cX11_readCloth 37 = .ok (.aload_n 0, 1) := by decide +kernel
theorem dX11_readCloth_38 : decode cX11_readCloth 38 = .ok (.iconst 1, 1) := by decide +kernel
theorem dX11_readCloth_39 : decode cX11_readCloth 39 = .ok (.invokevirtual 183, 3) := by decide +kernel
theorem dX11_readCloth_42 : decode cX11_readCloth 42 = .ok (.goto 16, 3) := by decide +kernel
theorem dX11_readCloth_45 : decode cX11_readCloth 45 = .ok (.aload_n 0, 1) := by decide +kernel
theorem dX11_readCloth_46 : decode cX11_readCloth 46 = .ok (.iconst 1, 1) := by decide +kernel
theorem dX11_readCloth_47 : decode cX11_readCloth 47 = .ok (.invokevirtual 212, 3) := by decide +kernel
theorem dX11_readCloth_50 : decode cX11_readCloth 50 = .ok (.ifCond .lt 8, 3) := by decide +kernel
theorem dX11_readCloth_53 : decode cX11_readCloth 53 = .ok (.aload_n 0, 1) := by decide +kernel
theorem dX11_readCloth_54 : decode cX11_readCloth 54 = .ok (.iconst 3, 1) := by decide +kernel
theorem dX11_readCloth_55 : decode cX11_readCloth 55 = .ok (.invokevirtual 183, 3) := by decide +kernel
theorem dX11_readCloth_58 : decode cX11_readCloth 58 = .ok (.aload_n 0, 1) := by decide +kernel
theorem dX11_readCloth_59 : decode cX11_readCloth 59 = .ok (.getfield 177, 3) := by decide +kernel
theorem dX11_readCloth_62 : decode cX11_readCloth 62 = .ok (.ifCond .le 4, 3) := by decide +kernel
theorem dX11_readCloth_65 : decode cX11_readCloth 65 = .ok (.return_, 1) := by decide +kernel
theorem dX11_readCloth_66 : decode cX11_readCloth 66 = .ok (.aload_n 0, 1) := by decide +kernel
theorem dX11_readCloth_67 : decode cX11_readCloth 67 = .ok (.getfield 101, 3) := by decide +kernel
theorem dX11_readCloth_70 : decode cX11_readCloth 70 = .ok (.aload_n 0, 1) := by decide +kernel
theorem dX11_readCloth_71 : decode cX11_readCloth 71 = .ok (.getfield 202, 3) := by decide +kernel
theorem dX11_readCloth_74 : decode cX11_readCloth 74 = .ok (.aload_n 0, 1) := by decide +kernel
theorem dX11_readCloth_75 : decode cX11_readCloth 75 = .ok (.getfield 30, 3) := by decide +kernel
theorem dX11_readCloth_78 : decode cX11_readCloth 78 = .ok (.aload_n 0, 1) := by decide +kernel
theorem dX11_readCloth_79 : decode cX11_readCloth 79 = .ok (.getfield 174, 3) := by decide +kernel
theorem dX11_readCloth_82 : decode cX11_readCloth 82 = .ok (.laload, 1) := by decide +kernel
theorem dX11_readCloth_83 : decode cX11_readCloth 83 = .ok (.lastore, 1) := by decide +kernel
theorem dX11_readCloth_84 : decode cX11_readCloth 84 = .ok (.aload_n 0, 1) := by decide +kernel
theorem dX11_readCloth_85 : decode cX11_readCloth 85 = .ok (.dup, 1) := by decide +kernel
theorem dX11_readCloth_86 : decode cX11_readCloth 86 = .ok (.getfield 202, 3) := by decide +kernel
theorem dX11_readCloth_89 : decode cX11_readCloth 89 = .ok (.iconst 1, 1) := by decide +kernel
theorem dX11_readCloth_90 : decode cX11_readCloth 90 = .ok (.iadd, 1) := by decide +kernel
theorem dX11_readCloth_91 : decode cX11_readCloth 91 = .ok (.putfield 202, 3) := by decide +kernel
theorem dX11_readCloth_94 : decode cX11_readCloth 94 = .ok (.aload_n 0, 1) := by decide +kernel
theorem dX11_readCloth_95 : decode cX11_readCloth 95 = .ok (.dup, 1) := by decide +kernel
theorem dX11_readCloth_96 : decode cX11_readCloth 96 = .ok (.getfield 174, 3) := by decide +kernel
theorem dX11_readCloth_99 : decode cX11_readCloth 99 = .ok (.iconst 1, 1) := by decide +kernel
theorem dX11_readCloth_100 : decode cX11_readCloth 100 = .ok (.iadd, 1) := by decide +kernel
theorem dX11_readCloth_101 : decode cX11_readCloth 101 = .ok (.putfield 174, 3) := by decide +kernel
theorem dX11_readCloth_104 : decode cX11_readCloth 104 = .ok (.bipush 108, 2) := by decide +kernel
theorem dX11_readCloth_106 : decode cX11_readCloth 106 = .ok (.iconst 4, 1) := by decide +kernel
theorem dX11_readCloth_107 : decode cX11_readCloth 107 = .ok (.iload_n 1, 1) := by decide +kernel
theorem dX11_readCloth_108 : decode cX11_readCloth 108 = .ok (.imul, 1) := by decide +kernel
theorem dX11_readCloth_109 : decode cX11_readCloth 109 = .ok (.iadd, 1) := by decide +kernel
theorem dX11_readCloth_110 : decode cX11_readCloth 110 = .ok (.istore_n 2, 1) := by decide +kernel
theorem dX11_readCloth_111 : decode cX11_readCloth 111 = .ok (.aload_n 0, 1) := by decide +kernel
theorem dX11_readCloth_112 : decode cX11_readCloth 112 = .ok (.getfield 89, 3) := by decide +kernel
theorem dX11_readCloth_115 : decode cX11_readCloth 115 = .ok (.iload_n 2, 1) := by decide +kernel
theorem dX11_readCloth_116 : decode cX11_readCloth 116 = .ok (.aload_n 0, 1) := by decide +kernel
theorem dX11_readCloth_117 : decode cX11_readCloth 117 = .ok (.bipush 16, 2) := by decide +kernel
theorem dX11_readCloth_119 : decode cX11_readCloth 119 = .ok (.iconst 4, 1) := by decide +kernel
theorem dX11_readCloth_120 : decode cX11_readCloth 120 = .ok (.invokevirtual 240, 3) := by decide +kernel
theorem dX11_readCloth_123 : decode cX11_readCloth 123 = .ok (.iastore, 1) := by decide +kernel
theorem dX11_readCloth_124 : decode cX11_readCloth 124 = .ok (.aload_n 0, 1) := by decide +kernel
theorem dX11_readCloth_125 : decode cX11_readCloth 125 = .ok (.getfield 89, 3) := by decide +kernel
theorem dX11_readCloth_128 : decode cX11_readCloth 128 = .ok (.iload_n 2, 1) := by decide +kernel
theorem dX11_readCloth_129 : decode cX11_readCloth 129 = .ok (.iconst 1, 1) := by decide +kernel
theorem dX11_readCloth_130 : decode cX11_readCloth 130 = .ok (.iadd, 1) := by decide +kernel
theorem dX11_readCloth_131 : decode cX11_readCloth 131 = .ok (.aload_n 0, 1) := by decide +kernel
theorem dX11_readCloth_132 : decode cX11_readCloth 132 = .ok (.iconst 1, 1) := by decide +kernel
theorem dX11_readCloth_133 : decode cX11_readCloth 133 = .ok (.iconst 1, 1) := by decide +kernel
theorem dX11_readCloth_134 : decode cX11_readCloth 134 = .ok (.bipush 20, 2) := by decide +kernel
theorem dX11_readCloth_136 : decode cX11_readCloth 136 = .ok (.invokevirtual 243, 3) := by decide +kernel
theorem dX11_readCloth_139 : decode cX11_readCloth 139 = .ok (.iastore, 1) := by decide +kernel
theorem dX11_readCloth_140 : decode cX11_readCloth 140 = .ok (.aload_n 0, 1) := by decide +kernel
theorem dX11_readCloth_141 : decode cX11_readCloth 141 = .ok (.getfield 89, 3) := by decide +kernel
theorem dX11_readCloth_144 : decode cX11_readCloth 144 = .ok (.iload_n 2, 1) := by decide +kernel
theorem dX11_readCloth_145 : decode cX11_readCloth 145 = .ok (.iconst 2, 1) := by decide +kernel
theorem dX11_readCloth_146 : decode cX11_readCloth 146 = .ok (.iadd, 1) := by decide +kernel
theorem dX11_readCloth_147 : decode cX11_readCloth 147 = .ok (.aload_n 0, 1) := by decide +kernel
theorem dX11_readCloth_148 : decode cX11_readCloth 148 = .ok (.iconst 2, 1) := by decide +kernel
theorem dX11_readCloth_149 : decode cX11_readCloth 149 = .ok (.iconst 0, 1) := by decide +kernel
theorem dX11_readCloth_150 : decode cX11_readCloth 150 = .ok (.bipush 20, 2) := by decide +kernel
theorem dX11_readCloth_152 : decode cX11_readCloth 152 = .ok (.invokevirtual 243, 3) := by decide +kernel
theorem dX11_readCloth_155 : decode cX11_readCloth 155 = .ok (.iastore, 1) := by decide +kernel
theorem dX11_readCloth_156 : decode cX11_readCloth 156 = .ok (.aload_n 0, 1) := by decide +kernel
theorem dX11_readCloth_157 : decode cX11_readCloth 157 = .ok (.getfield 89, 3) := by decide +kernel
theorem dX11_readCloth_160 : decode cX11_readCloth 160 = .ok (.iload_n 2, 1) := by decide +kernel
theorem dX11_readCloth_161 : decode cX11_readCloth 161 = .ok (.iconst 3, 1) := by decide +kernel
theorem dX11_readCloth_162 : decode cX11_readCloth 162 = .ok (.iadd, 1) := by decide +kernel
theorem dX11_readCloth_163 : decode cX11_readCloth 163 = .ok (.aload_n 0, 1) := by decide +kernel
theorem dX11_readCloth_164 : decode cX11_readCloth 164 = .ok (.iconst 3, 1) := by decide +kernel
theorem dX11_readCloth_165 : decode cX11_readCloth 165 = .ok (.iconst 0, 1) := by decide +kernel
theorem dX11_readCloth_166 : decode cX11_readCloth 166 = .ok (.bipush 99, 2) := by decide +kernel
theorem dX11_readCloth_168 : decode cX11_readCloth 168 = .ok (.invokevirtual 243, 3) := by decide +kernel
theorem dX11_readCloth_171 : decode cX11_readCloth 171 = .ok (.iastore, 1) := by decide +kernel
theorem dX11_readCloth_172 : decode cX11_readCloth 172 = .ok (.aload_n 0, 1) := by decide +kernel
theorem dX11_readCloth_173 : decode cX11_readCloth 173 = .ok (.getfield 89, 3) := by decide +kernel
theorem dX11_readCloth_176 : decode cX11_readCloth 176 = .ok (.bipush 100, 2) := by decide +kernel
theorem dX11_readCloth_178 : decode cX11_readCloth 178 = .ok (.dup2, 1) := by decide +kernel
theorem dX11_readCloth_179 : decode cX11_readCloth 179 = .ok (.iaload, 1) := by decide +kernel
theorem dX11_readCloth_180 : decode cX11_readCloth 180 = .ok (.iconst 1, 1) := by decide +kernel
theorem dX11_readCloth_181 : decode cX11_readCloth 181 = .ok (.iadd, 1) := by decide +kernel
theorem dX11_readCloth_182 : decode cX11_readCloth 182 = .ok (.iastore, 1) := by decide +kernel
theorem dX11_readCloth_183 : decode cX11_readCloth 183 = .ok (.return_, 1) := by decide +kernel
theorem dX11_readClash_0 : decode cX11_readClash 0 = .ok (.aload_n 0, 1) := by decide +kernel
theorem dX11_readClash_1 : decode cX11_readClash 1 = .ok (.dup, 1) := by decide +kernel
theorem dX11_readClash_2 : decode cX11_readClash 2 = .ok (.getfield 174, 3) := by decide +kernel
theorem dX11_readClash_5 : decode cX11_readClash 5 = .ok (.iconst 1, 1) := by decide +kernel
theorem dX11_readClash_6 : decode cX11_readClash 6 = .ok (.iadd, 1) := by decide +kernel
theorem dX11_readClash_7 : decode cX11_readClash 7 = .ok (.putfield 174, 3) := by decide +kernel
theorem dX11_readClash_10 : decode cX11_readClash 10 = .ok (.aload_n 0, 1) := by decide +kernel
theorem dX11_readClash_11 : decode cX11_readClash 11 = .ok (.iconst 1, 1) := by decide +kernel
theorem dX11_readClash_12 : decode cX11_readClash 12 = .ok (.invokevirtual 247, 3) := by decide +kernel
theorem dX11_readClash_15 : decode cX11_readClash 15 = .ok (.istore_n 1, 1) := by decide +kernel
theorem dX11_readClash_16 : decode cX11_readClash 16 = .ok (.aload_n 0, 1) := by decide +kernel
theorem dX11_readClash_17 : decode cX11_readClash 17 = .ok (.iconst 1, 1) := by decide +kernel
theorem dX11_readClash_18 : decode cX11_readClash 18 = .ok (.invokevirtual 216, 3) := by decide +kernel
theorem dX11_readClash_21 : decode cX11_readClash 21 = .ok (.istore_n 2, 1) := by decide +kernel
theorem dX11_readClash_22 : decode cX11_readClash 22 = .ok (.aload_n 0, 1) := by decide +kernel
theorem dX11_readClash_23 : decode cX11_readClash 23 = .ok (.getfield 177, 3) := by decide +kernel
theorem dX11_readClash_26 : decode cX11_readClash 26 = .ok (.ifCond .ne 32, 3) := by decide +kernel
theorem dX11_readClash_29 : decode cX11_readClash 29 = .ok (.iload_n 1, 1) := by decide +kernel
theorem dX11_readClash_30 : decode cX11_readClash 30 = .ok (.iload_n 2, 1) := by decide +kernel
theorem dX11_readClash_31 : decode cX11_readClash 31 = .ok (.if_icmp .eq 22, 3) := by decide +kernel
theorem dX11_readClash_34 : decode cX11_readClash 34 = .ok (.aload_n 0, 1) := by decide +kernel
theorem dX11_readClash_35 : decode cX11_readClash 35 = .ok (.getfield 89, 3) := by decide +kernel
theorem dX11_readClash_38 : decode cX11_readClash 38 = .ok (.sipush 132, 3) := by decide +kernel
theorem dX11_readClash_41 : decode cX11_readClash 41 = .ok (.bipush 6, 2) := by decide +kernel
theorem dX11_readClash_43 : decode cX11_readClash 43 = .ok (.iload_n 1, 1) := by decide +kernel
theorem dX11_readClash_44 : decode cX11_readClash 44 = .ok (.imul, 1) := by decide +kernel
theorem dX11_readClash_45 : decode cX11_readClash 45 = .ok (.iadd, 1) := by decide +kernel
theorem dX11_readClash_46 : decode cX11_readClash 46 = .ok (.iload_n 2, 1) := by decide +kernel
theorem dX11_readClash_47 : decode cX11_readClash 47 = .ok (.iadd, 1) := by decide +kernel
theorem dX11_readClash_48 : decode cX11_readClash 48 = .ok (.iaload, 1) := by decide +kernel
theorem dX11_readClash_49 : decode cX11_readClash 49 = .ok (.iconst 1, 1) := by decide +kernel
theorem dX11_readClash_50 : decode cX11_readClash 50 = .ok (.if_icmp .ne 8, 3) := by decide +kernel
theorem dX11_readClash_53 : decode cX11_readClash 53 = .ok (.aload_n 0, 1) := by decide +kernel
theorem dX11_readClash_54 : decode cX11_readClash 54 = .ok (.iconst 3, 1) := by decide +kernel
theorem dX11_readClash_55 : decode cX11_readClash 55 = .ok (.invokevirtual 183, 3) := by decide +kernel
theorem dX11_readClash_58 : decode cX11_readClash 58 = .ok (.aload_n 0, 1) := by decide +kernel
theorem dX11_readClash_59 : decode cX11_readClash 59 = .ok (.getfield 177, 3) := by decide +kernel
theorem dX11_readClash_62 : decode cX11_readClash 62 = .ok (.ifCond .ne 56, 3) := by decide +kernel
theorem dX11_readClash_65 : decode cX11_readClash 65 = .ok (.aload_n 0, 1) := by decide +kernel
theorem dX11_readClash_66 : decode cX11_readClash 66 = .ok (.dup, 1) := by decide +kernel
theorem dX11_readClash_67 : decode cX11_readClash 67 = .ok (.getfield 174, 3) := by decide +kernel
theorem dX11_readClash_70 : decode cX11_readClash 70 = .ok (.iconst 1, 1) := by decide +kernel
theorem dX11_readClash_71 : decode cX11_readClash 71 = .ok (.iadd, 1) := by decide +kernel
theorem dX11_readClash_72 : decode cX11_readClash 72 = .ok (.putfield 174, 3) := by decide +kernel
theorem dX11_readClash_75 : decode cX11_readClash 75 = .ok (.aload_n 0, 1) := by decide +kernel
theorem dX11_readClash_76 : decode cX11_readClash 76 = .ok (.getfield 89, 3) := by decide +kernel
theorem dX11_readClash_79 : decode cX11_readClash 79 = .ok (.sipush 132, 3) := by decide +kernel
theorem dX11_readClash_82 : decode cX11_readClash 82 = .ok (.bipush 6, 2) := by decide +kernel
theorem dX11_readClash_84 : decode cX11_readClash 84 = .ok (.iload_n 1, 1) := by decide +kernel
theorem dX11_readClash_85 : decode cX11_readClash 85 = .ok (.imul, 1) := by decide +kernel
theorem dX11_readClash_86 : decode cX11_readClash 86 = .ok (.iadd, 1) := by decide +kernel
theorem dX11_readClash_87 : decode cX11_readClash 87 = .ok (.iload_n 2, 1) := by decide +kernel
theorem dX11_readClash_88 : decode cX11_readClash 88 = .ok (.iadd, 1) := by decide +kernel
theorem dX11_readClash_89 : decode cX11_readClash 89 = .ok (.iconst 1, 1) := by decide +kernel
theorem dX11_readClash_90 : decode cX11_readClash 90 = .ok (.iastore, 1) := by decide +kernel
theorem dX11_readClash_91 : decode cX11_readClash 91 = .ok (.aload_n 0, 1) := by decide +kernel
theorem dX11_readClash_92 : decode cX11_readClash 92 = .ok (.getfield 89, 3) := by decide +kernel
theorem dX11_readClash_95 : decode cX11_readClash 95 = .ok (.sipush 132, 3) := by decide +kernel
theorem dX11_readClash_98 : decode cX11_readClash 98 = .ok (.bipush 6, 2) := by decide +kernel
theorem dX11_readClash_100 : decode cX11_readClash 100 = .ok (.iload_n 2, 1) := by decide +kernel
theorem dX11_readClash_101 : decode cX11_readClash 101 = .ok (.imul, 1) := by decide +kernel
theorem dX11_readClash_102 : decode cX11_readClash 102 = .ok (.iadd, 1) := by decide +kernel
theorem dX11_readClash_103 : decode cX11_readClash 103 = .ok (.iload_n 1, 1) := by decide +kernel
theorem dX11_readClash_104 : decode cX11_readClash 104 = .ok (.iadd, 1) := by decide +kernel
theorem dX11_readClash_105 : decode cX11_readClash 105 = .ok (.iconst 1, 1) := by decide +kernel
theorem dX11_readClash_106 : decode cX11_readClash 106 = .ok (.iastore, 1) := by decide +kernel
theorem dX11_readClash_107 : decode cX11_readClash 107 = .ok (.aload_n 0, 1) := by decide +kernel
theorem dX11_readClash_108 : decode cX11_readClash 108 = .ok (.getfield 89, 3) := by decide +kernel
theorem dX11_readClash_111 : decode cX11_readClash 111 = .ok (.bipush 105, 2) := by decide +kernel
theorem dX11_readClash_113 : decode cX11_readClash 113 = .ok (.dup2, 1) := by decide +kernel
theorem dX11_readClash_114 : decode cX11_readClash 114 = .ok (.iaload, 1) := by decide +kernel
theorem dX11_readClash_115 : decode cX11_readClash 115 = .ok (.iconst 1, 1) := by decide +kernel
theorem dX11_readClash_116 : decode cX11_readClash 116 = .ok (.iadd, 1) := by decide +kernel
theorem dX11_readClash_117 : decode cX11_readClash 117 = .ok (.iastore, 1) := by decide +kernel
theorem dX11_readClash_118 : decode cX11_readClash 118 = .ok (.return_, 1) := by decide +kernel
theorem dX11_readOnce_0 : decode cX11_readOnce 0 = .ok (.aload_n 0, 1) := by decide +kernel
theorem dX11_readOnce_1 : decode cX11_readOnce 1 = .ok (.bipush 9, 2) := by decide +kernel
theorem dX11_readOnce_3 : decode cX11_readOnce 3 = .ok (.invokevirtual 186, 3) := by decide +kernel
theorem dX11_readOnce_6 : decode cX11_readOnce 6 = .ok (.ifCond .eq 7, 3) := by decide +kernel
theorem dX11_readOnce_9 : decode cX11_readOnce 9 = .ok (.iconst 4, 1) := by decide +kernel
theorem dX11_readOnce_10 : decode cX11_readOnce 10 = .ok (.goto 22, 3) := by decide +kernel
theorem dX11_readOnce_13 : decode cX11_readOnce 13 = .ok (.aload_n 0, 1) := by decide +kernel
theorem dX11_readOnce_14 : decode cX11_readOnce 14 = .ok (.bipush 10, 2) := by decide +kernel
theorem dX11_readOnce_16 : decode cX11_readOnce 16 = .ok (.invokevirtual 186, 3) := by decide +kernel
theorem dX11_readOnce_19 : decode cX11_readOnce 19 = .ok (.ifCond .eq 7, 3) := by decide +kernel
theorem dX11_readOnce_22 : decode cX11_readOnce 22 = .ok (.iconst 5, 1) := by decide +kernel
theorem dX11_readOnce_23 : decode cX11_readOnce 23 = .ok (.goto 9, 3) := by decide +kernel
theorem dX11_readOnce_26 : decode cX11_readOnce 26 = .ok (.aload_n 0, 1) := by decide +kernel
theorem dX11_readOnce_27 : decode cX11_readOnce 27 = .ok (.iconst 4, 1) := by decide +kernel
theorem dX11_readOnce_28 : decode cX11_readOnce 28 = .ok (.iconst 4, 1) := by decide +kernel
theorem dX11_readOnce_29 : decode cX11_readOnce 29 = .ok (.invokevirtual 199, 3) := by decide +kernel
theorem dX11_readOnce_32 : decode cX11_readOnce 32 = .ok (.istore_n 1, 1) := by decide +kernel
theorem dX11_readOnce_33 : decode cX11_readOnce 33 = .ok (.iload_n 1, 1) := by decide +kernel
theorem dX11_readOnce_34 : decode cX11_readOnce 34 = .ok (.ifCond .ge 11, 3) := by decide +kernel
theorem dX11_readOnce_37 : decode cX11_readOnce 37 = .ok (.aload_n 0, 1) := by decide +kernel
theorem dX11_readOnce_38 : decode cX11_readOnce 38 = .ok (.iconst 1, 1) := by decide +kernel
theorem dX11_readOnce_39 : decode cX11_readOnce 39 = .ok (.invokevirtual 183, 3) := by decide +kernel
theorem dX11_readOnce_42 : decode cX11_readOnce 42 = .ok (.goto 20, 3) := by decide +kernel
theorem dX11_readOnce_45 : decode cX11_readOnce 45 = .ok (.aload_n 0, 1) := by decide +kernel
theorem dX11_readOnce_46 : decode cX11_readOnce 46 = .ok (.getfield 225, 3) := by decide +kernel
theorem dX11_readOnce_49 : decode cX11_readOnce 49 = .ok (.iload_n 1, 1) := by decide +kernel
theorem dX11_readOnce_50 : decode cX11_readOnce 50 = .ok (.ishr, 1) := by decide +kernel
theorem dX11_readOnce_51 : decode cX11_readOnce 51 = .ok (.iconst 1, 1) := by decide +kernel
theorem dX11_readOnce_52 : decode cX11_readOnce 52 = .ok (.iand, 1) := by decide +kernel
theorem dX11_readOnce_53 : decode cX11_readOnce 53 = .ok (.iconst 1, 1) := by decide +kernel
theorem dX11_readOnce_54 : decode cX11_readOnce 54 = .ok (.if_icmp .ne 8, 3) := by decide +kernel
theorem dX11_readOnce_57 : decode cX11_readOnce 57 = .ok (.aload_n 0, 1) := by decide +kernel
theorem dX11_readOnce_58 : decode cX11_readOnce 58 = .ok (.iconst 3, 1) := by decide +kernel
theorem dX11_readOnce_59 : decode cX11_readOnce 59 = .ok (.invokevirtual 183, 3) := by decide +kernel
theorem dX11_readOnce_62 : decode cX11_readOnce 62 = .ok (.aload_n 0, 1) := by decide +kernel
theorem dX11_readOnce_63 : decode cX11_readOnce 63 = .ok (.getfield 177, 3) := by decide +kernel
theorem dX11_readOnce_66 : decode cX11_readOnce 66 = .ok (.ifCond .le 4, 3) := by decide +kernel
theorem dX11_readOnce_69 : decode cX11_readOnce 69 = .ok (.return_, 1) := by decide +kernel
theorem dX11_readOnce_70 : decode cX11_readOnce 70 = .ok (.aload_n 0, 1) := by decide +kernel
theorem dX11_readOnce_71 : decode cX11_readOnce 71 = .ok (.dup, 1) := by decide +kernel
theorem dX11_readOnce_72 : decode cX11_readOnce 72 = .ok (.getfield 225, 3) := by decide +kernel
theorem dX11_readOnce_75 : decode cX11_readOnce 75 = .ok (.iconst 1, 1) := by decide +kernel
theorem dX11_readOnce_76 : decode cX11_readOnce 76 = .ok (.iload_n 1, 1) := by decide +kernel
theorem dX11_readOnce_77 : decode cX11_readOnce 77 = .ok (.ishl, 1) := by decide +kernel
theorem dX11_readOnce_78 : decode cX11_readOnce 78 = .ok (.ior, 1) := by decide +kernel
theorem dX11_readOnce_79 : decode cX11_readOnce 79 = .ok (.putfield 225, 3) := by decide +kernel
theorem dX11_readOnce_82 : decode cX11_readOnce 82 = .ok (.aload_n 0, 1) := by decide +kernel
theorem dX11_readOnce_83 : decode cX11_readOnce 83 = .ok (.dup, 1) := by decide +kernel
theorem dX11_readOnce_84 : decode cX11_readOnce 84 = .ok (.getfield 174, 3) := by decide +kernel
theorem dX11_readOnce_87 : decode cX11_readOnce 87 = .ok (.iconst 1, 1) := by decide +kernel
theorem dX11_readOnce_88 : decode cX11_readOnce 88 = .ok (.iadd, 1) := by decide +kernel
theorem dX11_readOnce_89 : decode cX11_readOnce 89 = .ok (.putfield 174, 3) := by decide +kernel
theorem dX11_readOnce_92 : decode cX11_readOnce 92 = .ok (.iload_n 1, 1) := by decide +kernel
theorem dX11_readOnce_93 : decode cX11_readOnce 93 = .ok (.ifCond .ne 22, 3) := by decide +kernel
theorem dX11_readOnce_96 : decode cX11_readOnce 96 = .ok (.aload_n 0, 1) := by decide +kernel
theorem dX11_readOnce_97 : decode cX11_readOnce 97 = .ok (.getfield 89, 3) := by decide +kernel
theorem dX11_readOnce_100 : decode cX11_readOnce 100 = .ok (.bipush 101, 2) := by decide +kernel
theorem dX11_readOnce_102 : decode cX11_readOnce 102 = .ok (.aload_n 0, 1) := by decide +kernel
theorem dX11_readOnce_103 : decode cX11_readOnce 103 = .ok (.bipush 68, 2) := by decide +kernel
theorem dX11_readOnce_105 : decode cX11_readOnce 105 = .ok (.bipush 8, 2) := by decide +kernel
theorem dX11_readOnce_107 : decode cX11_readOnce 107 = .ok (.iconst 1, 1) := by decide +kernel
theorem dX11_readOnce_108 : decode cX11_readOnce 108 = .ok (.invokevirtual 250, 3) := by decide +kernel
theorem dX11_readOnce_111 : decode cX11_readOnce 111 = .ok (.iastore, 1) := by decide +kernel
theorem dX11_readOnce_112 : decode cX11_readOnce 112 = .ok (.goto 97, 3) := by decide +kernel
theorem dX11_readOnce_115 : decode cX11_readOnce 115 = .ok (.iload_n 1, 1) := by decide +kernel
theorem dX11_readOnce_116 : decode cX11_readOnce 116 = .ok (.iconst 1, 1) := by decide +kernel
theorem dX11_readOnce_117 : decode cX11_readOnce 117 = .ok (.if_icmp .ne 22, 3) := by decide +kernel
theorem dX11_readOnce_120 : decode cX11_readOnce 120 = .ok (.aload_n 0, 1) := by decide +kernel
theorem dX11_readOnce_121 : decode cX11_readOnce 121 = .ok (.getfield 89, 3) := by decide +kernel
theorem dX11_readOnce_124 : decode cX11_readOnce 124 = .ok (.bipush 102, 2) := by decide +kernel
theorem dX11_readOnce_126 : decode cX11_readOnce 126 = .ok (.aload_n 0, 1) := by decide +kernel
theorem dX11_readOnce_127 : decode cX11_readOnce 127 = .ok (.bipush 76, 2) := by decide +kernel
theorem dX11_readOnce_129 : decode cX11_readOnce 129 = .ok (.bipush 12, 2) := by decide +kernel
theorem dX11_readOnce_131 : decode cX11_readOnce 131 = .ok (.iconst 0, 1) := by decide +kernel
theorem dX11_readOnce_132 : decode cX11_readOnce 132 = .ok (.invokevirtual 250, 3) := by decide +kernel
theorem dX11_readOnce_135 : decode cX11_readOnce 135 = .ok (.iastore, 1) := by decide +kernel
theorem dX11_readOnce_136 : decode cX11_readOnce 136 = .ok (.goto 73, 3) := by decide +kernel
theorem dX11_readOnce_139 : decode cX11_readOnce 139 = .ok (.iload_n 1, 1) := by decide +kernel
theorem dX11_readOnce_140 : decode cX11_readOnce 140 = .ok (.iconst 2, 1) := by decide +kernel
theorem dX11_readOnce_141 : decode cX11_readOnce 141 = .ok (.if_icmp .ne 20, 3) := by decide +kernel
theorem dX11_readOnce_144 : decode cX11_readOnce 144 = .ok (.aload_n 0, 1) := by decide +kernel
theorem dX11_readOnce_145 : decode cX11_readOnce 145 = .ok (.getfield 89, 3) := by decide +kernel
theorem dX11_readOnce_148 : decode cX11_readOnce 148 = .ok (.bipush 103, 2) := by decide +kernel
theorem dX11_readOnce_150 : decode cX11_readOnce 150 = .ok (.aload_n 0, 1) := by decide +kernel
theorem dX11_readOnce_151 : decode cX11_readOnce 151 = .ok (.iconst 1, 1) := by decide +kernel
theorem dX11_readOnce_152 : decode cX11_readOnce 152 = .ok (.bipush 60, 2) := by decide +kernel
theorem dX11_readOnce_154 : decode cX11_readOnce 154 = .ok (.invokevirtual 195, 3) := by decide +kernel
theorem dX11_readOnce_157 : decode cX11_readOnce 157 = .ok (.iastore, 1) := by decide +kernel
theorem dX11_readOnce_158 : decode cX11_readOnce 158 = .ok (.goto 51, 3) := by decide +kernel
theorem dX11_readOnce_161 : decode cX11_readOnce 161 = .ok (.iload_n 1, 1) := by decide +kernel
theorem dX11_readOnce_162 : decode cX11_readOnce 162 = .ok (.iconst 3, 1) := by decide +kernel
theorem dX11_readOnce_163 : decode cX11_readOnce 163 = .ok (.if_icmp .ne 20, 3) := by decide +kernel
theorem dX11_readOnce_166 : decode cX11_readOnce 166 = .ok (.aload_n 0, 1) := by decide +kernel
theorem dX11_readOnce_167 : decode cX11_readOnce 167 = .ok (.getfield 89, 3) := by decide +kernel
theorem dX11_readOnce_170 : decode cX11_readOnce 170 = .ok (.bipush 104, 2) := by decide +kernel
theorem dX11_readOnce_172 : decode cX11_readOnce 172 = .ok (.aload_n 0, 1) := by decide +kernel
theorem dX11_readOnce_173 : decode cX11_readOnce 173 = .ok (.iconst 0, 1) := by decide +kernel
theorem dX11_readOnce_174 : decode cX11_readOnce 174 = .ok (.bipush 10, 2) := by decide +kernel
theorem dX11_readOnce_176 : decode cX11_readOnce 176 = .ok (.invokevirtual 195, 3) := by decide +kernel
theorem dX11_readOnce_179 : decode cX11_readOnce 179 = .ok (.iastore, 1) := by decide +kernel
theorem dX11_readOnce_180 : decode cX11_readOnce 180 = .ok (.goto 29, 3) := by decide +kernel
theorem dX11_readOnce_183 : decode cX11_readOnce 183 = .ok (.aload_n 0, 1) := by decide +kernel
theorem dX11_readOnce_184 : decode cX11_readOnce 184 = .ok (.getfield 89, 3) := by decide +kernel
theorem dX11_readOnce_187 : decode cX11_readOnce 187 = .ok (.bipush 106, 2) := by decide +kernel
theorem dX11_readOnce_189 : decode cX11_readOnce 189 = .ok (.iload_n 1, 1) := by decide +kernel
theorem dX11_readOnce_190 : decode cX11_readOnce 190 = .ok (.iadd, 1) := by decide +kernel
theorem dX11_readOnce_191 : decode cX11_readOnce 191 = .ok (.iconst 4, 1) := by decide +kernel
theorem dX11_readOnce_192 : decode cX11_readOnce 192 = .ok (.isub, 1) := by decide +kernel
theorem dX11_readOnce_193 : decode cX11_readOnce 193 = .ok (.aload_n 0, 1) := by decide +kernel
theorem dX11_readOnce_194 : decode cX11_readOnce 194 = .ok (.getfield 222, 3) := by decide +kernel
theorem dX11_readOnce_197 : decode cX11_readOnce 197 = .ok (.iastore, 1) := by decide +kernel
theorem dX11_readOnce_198 : decode cX11_readOnce 198 = .ok (.aload_n 0, 1) := by decide +kernel
theorem dX11_readOnce_199 : decode cX11_readOnce 199 = .ok (.iconst 0, 1) := by decide +kernel
theorem dX11_readOnce_200 : decode cX11_readOnce 200 = .ok (.invokevirtual 253, 3) := by decide +kernel
theorem dX11_readOnce_203 : decode cX11_readOnce 203 = .ok (.aload_n 0, 1) := by decide +kernel
theorem dX11_readOnce_204 : decode cX11_readOnce 204 = .ok (.iconst 0, 1) := by decide +kernel
theorem dX11_readOnce_205 : decode cX11_readOnce 205 = .ok (.iconst 0, 1) := by decide +kernel
theorem dX11_readOnce_206 : decode cX11_readOnce 206 = .ok (.invokevirtual 256, 3) := by decide +kernel
theorem dX11_readOnce_209 : decode cX11_readOnce 209 = .ok (.return_, 1) := by decide +kernel
theorem dX11_readRow_0 : decode cX11_readRow 0 = .ok (.iconst 0, 1) := by decide +kernel
theorem dX11_readRow_1 : decode cX11_readRow 1 = .ok (.istore 4, 2) := by decide +kernel
theorem dX11_readRow_3 : decode cX11_readRow 3 = .ok (.aload_n 0, 1) := by decide +kernel
theorem dX11_readRow_4 : decode cX11_readRow 4 = .ok (.getfield 177, 3) := by decide +kernel
theorem dX11_readRow_7 : decode cX11_readRow 7 = .ok (.ifCond .ne 88, 3) := by decide +kernel
theorem dX11_readRow_10 : decode cX11_readRow 10 = .ok (.iload 4, 2) := by decide +kernel
theorem dX11_readRow_12 : decode cX11_readRow 12 = .ok (.ifCond .eq 16, 3) := by decide +kernel
theorem dX11_readRow_15 : decode cX11_readRow 15 = .ok (.aload_n 0, 1) := by decide +kernel
theorem dX11_readRow_16 : decode cX11_readRow 16 = .ok (.getfield 24, 3) := by decide +kernel
theorem dX11_readRow_19 : decode cX11_readRow 19 = .ok (.aload_n 0, 1) := by decide +kernel
theorem dX11_readRow_20 : decode cX11_readRow 20 = .ok (.getfield 174, 3) := by decide +kernel
theorem dX11_readRow_23 : decode cX11_readRow 23 = .ok (.iaload, 1) := by decide +kernel
theorem dX11_readRow_24 : decode cX11_readRow 24 = .ok (.iconst 2, 1) := by decide +kernel
theorem dX11_readRow_25 : decode cX11_readRow 25 = .ok (.if_icmp .ne 70, 3) := by decide +kernel
theorem dX11_readRow_28 : decode cX11_readRow 28 = .ok (.aload_n 0, 1) := by decide +kernel
theorem dX11_readRow_29 : decode cX11_readRow 29 = .ok (.iload_n 3, 1) := by decide +kernel
theorem dX11_readRow_30 : decode cX11_readRow 30 = .ok (.bipush 9, 2) := by decide +kernel
theorem dX11_readRow_32 : decode cX11_readRow 32 = .ok (.invokevirtual 195, 3) := by decide +kernel
theorem dX11_readRow_35 : decode cX11_readRow 35 = .ok (.istore 5, 2) := by decide +kernel
theorem dX11_readRow_37 : decode cX11_readRow 37 = .ok (.aload_n 0, 1) := by decide +kernel
theorem dX11_readRow_38 : decode cX11_readRow 38 = .ok (.getfield 177, 3) := by decide +kernel
theorem dX11_readRow_41 : decode cX11_readRow 41 = .ok (.ifCond .ne 27, 3) := by decide +kernel
theorem dX11_readRow_44 : decode cX11_readRow 44 = .ok (.iload 4, 2) := by decide +kernel
theorem dX11_readRow_46 : decode cX11_readRow 46 = .ok (.iload_n 2, 1) := by decide +kernel
theorem dX11_readRow_47 : decode cX11_readRow 47 = .ok (.if_icmp .ne 21, 3) := by decide +kernel
theorem dX11_readRow_50 : decode cX11_readRow 50 = .ok (.aload_n 0, 1) := by decide +kernel
theorem dX11_readRow_51 : decode cX11_readRow 51 = .ok (.dup, 1) := by decide +kernel
theorem dX11_readRow_52 : decode cX11_readRow 52 = .ok (.getfield 174, 3) := by decide +kernel
theorem dX11_readRow_55 : decode cX11_readRow 55 = .ok (.iconst 1, 1) := by decide +kernel
theorem dX11_readRow_56 : decode cX11_readRow 56 = .ok (.isub, 1) := by decide +kernel
theorem dX11_readRow_57 : decode cX11_readRow 57 = .ok (.putfield 174, 3) := by decide +kernel
theorem dX11_readRow_60 : decode cX11_readRow 60 = .ok (.aload_n 0, 1) := by decide +kernel
theorem dX11_readRow_61 : decode cX11_readRow 61 = .ok (.iconst 5, 1) := by decide +kernel
theorem dX11_readRow_62 : decode cX11_readRow 62 = .ok (.invokevirtual 183, 3) := by decide +kernel
theorem dX11_readRow_65 : decode cX11_readRow 65 = .ok (.goto 27, 3) := by decide +kernel
theorem dX11_readRow_68 : decode cX11_readRow 68 = .ok (.aload_n 0, 1) := by decide +kernel
theorem dX11_readRow_69 : decode cX11_readRow 69 = .ok (.getfield 177, 3) := by decide +kernel
theorem dX11_readRow_72 : decode cX11_readRow 72 = .ok (.ifCond .ne 20, 3) := by decide +kernel
theorem dX11_readRow_75 : decode cX11_readRow 75 = .ok (.aload_n 0, 1) := by decide +kernel
theorem dX11_readRow_76 : decode cX11_readRow 76 = .ok (.getfield 89, 3) := by decide +kernel
theorem dX11_readRow_79 : decode cX11_readRow 79 = .ok (.bipush 100, 2) := by decide +kernel
theorem dX11_readRow_81 : decode cX11_readRow 81 = .ok (.iload_n 1, 1) := by decide +kernel
theorem dX11_readRow_82 : decode cX11_readRow 82 = .ok (.iadd, 1) := by decide +kernel
theorem dX11_readRow_83 : decode cX11_readRow 83 = .ok (.iload 4, 2) := by decide +kernel
theorem dX11_readRow_85 : decode cX11_readRow 85 = .ok (.iadd, 1) := by decide +kernel
theorem dX11_readRow_86 : decode cX11_readRow 86 = .ok (.iload 5, 2) := by decide +kernel
theorem dX11_readRow_88 : decode cX11_readRow 88 = .ok (.iastore, 1) := by decide +kernel
theorem dX11_readRow_89 : decode cX11_readRow 89 = .ok (.iinc 4 1, 3) := by decide +kernel
theorem dX11_readRow_92 : decode cX11_readRow 92 = .ok (.goto (-89), 3) := by decide +kernel
theorem dX11_readRow_95 : decode cX11_readRow 95 = .ok (.iload 4, 2) := by decide +kernel
theorem dX11_readRow_97 : decode cX11_readRow 97 = .ok (.ireturn, 1) := by decide +kernel
theorem dX11_day_0 : decode cX11_day 0 = .ok (.aload_n 0, 1) := by decide +kernel
theorem dX11_day_1 : decode cX11_day 1 = .ok (.iconst 0, 1) := by decide +kernel
theorem dX11_day_2 : decode cX11_day 2 = .ok (.putfield 1, 3) := by decide +kernel
theorem dX11_day_5 : decode cX11_day 5 = .ok (.aload_n 0, 1) := by decide +kernel
theorem dX11_day_6 : decode cX11_day 6 = .ok (.invokevirtual 219, 3) := by decide +kernel
theorem dX11_day_9 : decode cX11_day 9 = .ok (.iconst 0, 1) := by decide +kernel
theorem dX11_day_10 : decode cX11_day 10 = .ok (.istore_n 1, 1) := by decide +kernel
theorem dX11_day_11 : decode cX11_day 11 = .ok (.aload_n 0, 1) := by decide +kernel
theorem dX11_day_12 : decode cX11_day 12 = .ok (.getfield 177, 3) := by decide +kernel
theorem dX11_day_15 : decode cX11_day 15 = .ok (.ifCond .ne 146, 3) := by decide +kernel
theorem dX11_day_18 : decode cX11_day 18 = .ok (.aload_n 0, 1) := by decide +kernel
theorem dX11_day_19 : decode cX11_day 19 = .ok (.getfield 24, 3) := by decide +kernel
theorem dX11_day_22 : decode cX11_day 22 = .ok (.aload_n 0, 1) := by decide +kernel
theorem dX11_day_23 : decode cX11_day 23 = .ok (.getfield 174, 3) := by decide +kernel
theorem dX11_day_26 : decode cX11_day 26 = .ok (.iaload, 1) := by decide +kernel
theorem dX11_day_27 : decode cX11_day 27 = .ok (.ifCond .eq 134, 3) := by decide +kernel
theorem dX11_day_30 : decode cX11_day 30 = .ok (.aload_n 0, 1) := by decide +kernel
theorem dX11_day_31 : decode cX11_day 31 = .ok (.bipush 11, 2) := by decide +kernel
theorem dX11_day_33 : decode cX11_day 33 = .ok (.iconst 5, 1) := by decide +kernel
theorem dX11_day_34 : decode cX11_day 34 = .ok (.invokevirtual 199, 3) := by decide +kernel
theorem dX11_day_37 : decode cX11_day 37 = .ok (.istore_n 2, 1) := by decide +kernel
theorem dX11_day_38 : decode cX11_day 38 = .ok (.iload_n 2, 1) := by decide +kernel
theorem dX11_day_39 : decode cX11_day 39 = .ok (.ifCond .ge 11, 3) := by decide +kernel
theorem dX11_day_42 : decode cX11_day 42 = .ok (.aload_n 0, 1) := by decide +kernel
theorem dX11_day_43 : decode cX11_day 43 = .ok (.iconst 1, 1) := by decide +kernel
theorem dX11_day_44 : decode cX11_day 44 = .ok (.invokevirtual 183, 3) := by decide +kernel
theorem dX11_day_47 : decode cX11_day 47 = .ok (.goto 105, 3) := by decide +kernel
theorem dX11_day_50 : decode cX11_day 50 = .ok (.iload_n 1, 1) := by decide +kernel
theorem dX11_day_51 : decode cX11_day 51 = .ok (.bipush 30, 2) := by decide +kernel
theorem dX11_day_53 : decode cX11_day 53 = .ok (.if_icmp .ne 11, 3) := by decide +kernel
theorem dX11_day_56 : decode cX11_day 56 = .ok (.aload_n 0, 1) := by decide +kernel
theorem dX11_day_57 : decode cX11_day 57 = .ok (.iconst 5, 1) := by decide +kernel
theorem dX11_day_58 : decode cX11_day 58 = .ok (.invokevirtual 183, 3) := by decide +kernel
theorem dX11_day_61 : decode cX11_day 61 = .ok (.goto 91, 3) := by decide +kernel
theorem dX11_day_64 : decode cX11_day 64 = .ok (.aload_n 0, 1) := by decide +kernel
theorem dX11_day_65 : decode cX11_day 65 = .ok (.dup, 1) := by decide +kernel
theorem dX11_day_66 : decode cX11_day 66 = .ok (.getfield 174, 3) := by decide +kernel
theorem dX11_day_69 : decode cX11_day 69 = .ok (.iconst 1, 1) := by decide +kernel
theorem dX11_day_70 : decode cX11_day 70 = .ok (.iadd, 1) := by decide +kernel
theorem dX11_day_71 : decode cX11_day 71 = .ok (.putfield 174, 3) := by decide +kernel
theorem dX11_day_74 : decode cX11_day 74 = .ok (.aload_n 0, 1) := by decide +kernel
theorem dX11_day_75 : decode cX11_day 75 = .ok (.getfield 104, 3) := by decide +kernel
theorem dX11_day_78 : decode cX11_day 78 = .ok (.bipush 100, 2) := by decide +kernel
theorem dX11_day_80 : decode cX11_day 80 = .ok (.iconst 3, 1) := by decide +kernel
theorem dX11_day_81 : decode cX11_day 81 = .ok (.iload_n 1, 1) := by decide +kernel
theorem dX11_day_82 : decode cX11_day 82 = .ok (.imul, 1) := by decide +kernel
theorem dX11_day_83 : decode cX11_day 83 = .ok (.iadd, 1) := by decide +kernel
theorem dX11_day_84 : decode cX11_day 84 = .ok (.iload_n 2, 1) := by decide +kernel
theorem dX11_day_85 : decode cX11_day 85 = .ok (.iastore, 1) := by decide +kernel
theorem dX11_day_86 : decode cX11_day 86 = .ok (.aload_n 0, 1) := by decide +kernel
theorem dX11_day_87 : decode cX11_day 87 = .ok (.getfield 104, 3) := by decide +kernel
theorem dX11_day_90 : decode cX11_day 90 = .ok (.bipush 101, 2) := by decide +kernel
theorem dX11_day_92 : decode cX11_day 92 = .ok (.iconst 3, 1) := by decide +kernel
theorem dX11_day_93 : decode cX11_day 93 = .ok (.iload_n 1, 1) := by decide +kernel
theorem dX11_day_94 : decode cX11_day 94 = .ok (.imul, 1) := by decide +kernel
theorem dX11_day_95 : decode cX11_day 95 = .ok (.iadd, 1) := by decide +kernel
theorem dX11_day_96 : decode cX11_day 96 = .ok (.iload_n 2, 1) := by decide +kernel
theorem dX11_day_97 : decode cX11_day 97 = .ok (.iconst 3, 1) := by decide +kernel
theorem dX11_day_98 : decode cX11_day 98 = .ok (.if_icmp .ge 11, 3) := by decide +kernel
theorem dX11_day_101 : decode cX11_day 101 = .ok (.aload_n 0, 1) := by decide +kernel
theorem dX11_day_102 : decode cX11_day 102 = .ok (.iconst 0, 1) := by decide +kernel
theorem dX11_day_103 : decode cX11_day 103 = .ok (.invokevirtual 247, 3) := by decide +kernel
theorem dX11_day_106 : decode cX11_day 106 = .ok (.goto 19, 3) := by decide +kernel
theorem dX11_day_109 : decode cX11_day 109 = .ok (.iload_n 2, 1) := by decide +kernel
theorem dX11_day_110 : decode cX11_day 110 = .ok (.iconst 3, 1) := by decide +kernel
theorem dX11_day_111 : decode cX11_day 111 = .ok (.if_icmp .ne 13, 3) := by decide +kernel
theorem dX11_day_114 : decode cX11_day 114 = .ok (.aload_n 0, 1) := by decide +kernel
theorem dX11_day_115 : decode cX11_day 115 = .ok (.iconst 1, 1) := by decide +kernel
theorem dX11_day_116 : decode cX11_day 116 = .ok (.bipush 9, 2) := by decide +kernel
theorem dX11_day_118 : decode cX11_day 118 = .ok (.invokevirtual 195, 3) := by decide +kernel
theorem dX11_day_121 : decode cX11_day 121 = .ok (.goto 4, 3) := by decide +kernel
theorem dX11_day_124 : decode cX11_day 124 = .ok (.iconst 0, 1) := by decide +kernel
theorem dX11_day_125 : decode cX11_day 125 = .ok (.iastore, 1) := by decide +kernel
theorem dX11_day_126 : decode cX11_day 126 = .ok (.aload_n 0, 1) := by decide +kernel
theorem dX11_day_127 : decode cX11_day 127 = .ok (.getfield 104, 3) := by decide +kernel
theorem dX11_day_130 : decode cX11_day 130 = .ok (.bipush 102, 2) := by decide +kernel
theorem dX11_day_132 : decode cX11_day 132 = .ok (.iconst 3, 1) := by decide +kernel
theorem dX11_day_133 : decode cX11_day 133 = .ok (.iload_n 1, 1) := by decide +kernel
theorem dX11_day_134 : decode cX11_day 134 = .ok (.imul, 1) := by decide +kernel
theorem dX11_day_135 : decode cX11_day 135 = .ok (.iadd, 1) := by decide +kernel
theorem dX11_day_136 : decode cX11_day 136 = .ok (.iload_n 2, 1) := by decide +kernel
theorem dX11_day_137 : decode cX11_day 137 = .ok (.ifCond .ne 10, 3) := by decide +kernel
theorem dX11_day_140 : decode cX11_day 140 = .ok (.aload_n 0, 1) := by decide +kernel
theorem dX11_day_141 : decode cX11_day 141 = .ok (.invokevirtual 260, 3) := by decide +kernel
theorem dX11_day_144 : decode cX11_day 144 = .ok (.goto 4, 3) := by decide +kernel
theorem dX11_day_147 : decode cX11_day 147 = .ok (.iconst 0, 1) := by decide +kernel
theorem dX11_day_148 : decode cX11_day 148 = .ok (.iastore, 1) := by decide +kernel
theorem dX11_day_149 : decode cX11_day 149 = .ok (.iinc 1 1, 3) := by decide +kernel
theorem dX11_day_152 : decode cX11_day 152 = .ok (.aload_n 0, 1) := by decide +kernel
theorem dX11_day_153 : decode cX11_day 153 = .ok (.bipush 59, 2) := by decide +kernel
theorem dX11_day_155 : decode cX11_day 155 = .ok (.invokevirtual 237, 3) := by decide +kernel
theorem dX11_day_158 : decode cX11_day 158 = .ok (.goto (-147), 3) := by decide +kernel
theorem dX11_day_161 : decode cX11_day 161 = .ok (.aload_n 0, 1) := by decide +kernel
theorem dX11_day_162 : decode cX11_day 162 = .ok (.getfield 177, 3) := by decide +kernel
theorem dX11_day_165 : decode cX11_day 165 = .ok (.ifCond .le 8, 3) := by decide +kernel
theorem dX11_day_168 : decode cX11_day 168 = .ok (.aload_n 0, 1) := by decide +kernel
theorem dX11_day_169 : decode cX11_day 169 = .ok (.getfield 177, 3) := by decide +kernel
theorem dX11_day_172 : decode cX11_day 172 = .ok (.ireturn, 1) := by decide +kernel
theorem dX11_day_173 : decode cX11_day 173 = .ok (.aload_n 0, 1) := by decide +kernel
theorem dX11_day_174 : decode cX11_day 174 = .ok (.getfield 104, 3) := by decide +kernel
theorem dX11_day_177 : decode cX11_day 177 = .ok (.iconst 0, 1) := by decide +kernel
theorem dX11_day_178 : decode cX11_day 178 = .ok (.iload_n 1, 1) := by decide +kernel
theorem dX11_day_179 : decode cX11_day 179 = .ok (.iastore, 1) := by decide +kernel
theorem dX11_day_180 : decode cX11_day 180 = .ok (.iconst 0, 1) := by decide +kernel
theorem dX11_day_181 : decode cX11_day 181 = .ok (.istore_n 2, 1) := by decide +kernel
theorem dX11_day_182 : decode cX11_day 182 = .ok (.iload_n 2, 1) := by decide +kernel
theorem dX11_day_183 : decode cX11_day 183 = .ok (.iconst 3, 1) := by decide +kernel
theorem dX11_day_184 : decode cX11_day 184 = .ok (.iload_n 1, 1) := by decide +kernel
theorem dX11_day_185 : decode cX11_day 185 = .ok (.imul, 1) := by decide +kernel
theorem dX11_day_186 : decode cX11_day 186 = .ok (.if_icmp .ge 26, 3) := by decide +kernel
theorem dX11_day_189 : decode cX11_day 189 = .ok (.aload_n 0, 1) := by decide +kernel
theorem dX11_day_190 : decode cX11_day 190 = .ok (.getfield 104, 3) := by decide +kernel
theorem dX11_day_193 : decode cX11_day 193 = .ok (.iconst 1, 1) := by decide +kernel
theorem dX11_day_194 : decode cX11_day 194 = .ok (.iload_n 2, 1) := by decide +kernel
theorem dX11_day_195 : decode cX11_day 195 = .ok (.iadd, 1) := by decide +kernel
theorem dX11_day_196 : decode cX11_day 196 = .ok (.aload_n 0, 1) := by decide +kernel
theorem dX11_day_197 : decode cX11_day 197 = .ok (.getfield 104, 3) := by decide +kernel
theorem dX11_day_200 : decode cX11_day 200 = .ok (.bipush 100, 2) := by decide +kernel
theorem dX11_day_202 : decode cX11_day 202 = .ok (.iload_n 2, 1) := by decide +kernel
theorem dX11_day_203 : decode cX11_day 203 = .ok (.iadd, 1) := by decide +kernel
theorem dX11_day_204 : decode cX11_day 204 = .ok (.iaload, 1) := by decide +kernel
theorem dX11_day_205 : decode cX11_day 205 = .ok (.iastore, 1) := by decide +kernel
theorem dX11_day_206 : decode cX11_day 206 = .ok (.iinc 2 1, 3) := by decide +kernel
theorem dX11_day_209 : decode cX11_day 209 = .ok (.goto (-27), 3) := by decide +kernel
theorem dX11_day_212 : decode cX11_day 212 = .ok (.iconst 0, 1) := by decide +kernel
theorem dX11_day_213 : decode cX11_day 213 = .ok (.ireturn, 1) := by decide +kernel
theorem dX11_readPegs_0 : decode cX11_readPegs 0 = .ok (.iconst 0, 1) := by decide +kernel
theorem dX11_readPegs_1 : decode cX11_readPegs 1 = .ok (.istore_n 1, 1) := by decide +kernel
theorem dX11_readPegs_2 : decode cX11_readPegs 2 = .ok (.iconst 0, 1) := by decide +kernel
theorem dX11_readPegs_3 : decode cX11_readPegs 3 = .ok (.istore_n 2, 1) := by decide +kernel
theorem dX11_readPegs_4 : decode cX11_readPegs 4 = .ok (.aload_n 0, 1) := by decide +kernel
theorem dX11_readPegs_5 : decode cX11_readPegs 5 = .ok (.getfield 177, 3) := by decide +kernel
theorem dX11_readPegs_8 : decode cX11_readPegs 8 = .ok (.ifCond .ne 93, 3) := by decide +kernel
theorem dX11_readPegs_11 : decode cX11_readPegs 11 = .ok (.iload_n 2, 1) := by decide +kernel
theorem dX11_readPegs_12 : decode cX11_readPegs 12 = .ok (.ifCond .eq 16, 3) := by decide +kernel
theorem dX11_readPegs_15 : decode cX11_readPegs 15 = .ok (.aload_n 0, 1) := by decide +kernel
theorem dX11_readPegs_16 : decode cX11_readPegs 16 = .ok (.getfield 24, 3) := by decide +kernel
theorem dX11_readPegs_19 : decode cX11_readPegs 19 = .ok (.aload_n 0, 1) := by decide +kernel
theorem dX11_readPegs_20 : decode cX11_readPegs 20 = .ok (.getfield 174, 3) := by decide +kernel
theorem dX11_readPegs_23 : decode cX11_readPegs 23 = .ok (.iaload, 1) := by decide +kernel
theorem dX11_readPegs_24 : decode cX11_readPegs 24 = .ok (.iconst 2, 1) := by decide +kernel
theorem dX11_readPegs_25 : decode cX11_readPegs 25 = .ok (.if_icmp .ne 76, 3) := by decide +kernel
theorem dX11_readPegs_28 : decode cX11_readPegs 28 = .ok (.aload_n 0, 1) := by decide +kernel
theorem dX11_readPegs_29 : decode cX11_readPegs 29 = .ok (.iconst 0, 1) := by decide +kernel
theorem dX11_readPegs_30 : decode cX11_readPegs 30 = .ok (.bipush 7, 2) := by decide +kernel
theorem dX11_readPegs_32 : decode cX11_readPegs 32 = .ok (.invokevirtual 195, 3) := by decide +kernel
theorem dX11_readPegs_35 : decode cX11_readPegs 35 = .ok (.istore_n 3, 1) := by decide +kernel
theorem dX11_readPegs_36 : decode cX11_readPegs 36 = .ok (.iload_n 1, 1) := by decide +kernel
theorem dX11_readPegs_37 : decode cX11_readPegs 37 = .ok (.iload_n 3, 1) := by decide +kernel
theorem dX11_readPegs_38 : decode cX11_readPegs 38 = .ok (.ishr, 1) := by decide +kernel
theorem dX11_readPegs_39 : decode cX11_readPegs 39 = .ok (.iconst 1, 1) := by decide +kernel
theorem dX11_readPegs_40 : decode cX11_readPegs 40 = .ok (.iand, 1) := by decide +kernel
theorem dX11_readPegs_41 : decode cX11_readPegs 41 = .ok (.iconst 1, 1) := by decide +kernel
theorem dX11_readPegs_42 : decode cX11_readPegs 42 = .ok (.if_icmp .ne 7, 3) := by decide +kernel
theorem dX11_readPegs_45 : decode cX11_readPegs 45 = .ok (.iconst 3, 1) := by decide +kernel
theorem dX11_readPegs_46 : decode cX11_readPegs 46 = .ok (.goto 13, 3) := by decide +kernel
theorem dX11_readPegs_49 : decode cX11_readPegs 49 = .ok (.iload_n 2, 1) := by decide +kernel
theorem dX11_readPegs_50 : decode cX11_readPegs 50 = .ok (.iconst 4, 1) := by decide +kernel
theorem dX11_readPegs_51 : decode cX11_readPegs 51 = .ok (.if_icmp .ne 7, 3) := by decide +kernel
theorem dX11_readPegs_54 : decode cX11_readPegs 54 = .ok (.iconst 5, 1) := by decide +kernel
theorem dX11_readPegs_55 : decode cX11_readPegs 55 = .ok (.goto 4, 3) := by decide +kernel
theorem dX11_readPegs_58 : decode cX11_readPegs 58 = .ok (.iconst 0, 1) := by decide +kernel
theorem dX11_readPegs_59 : decode cX11_readPegs 59 = .ok (.istore 4, 2) := by decide +kernel
theorem dX11_readPegs_61 : decode cX11_readPegs 61 = .ok (.aload_n 0, 1) := by decide +kernel
theorem dX11_readPegs_62 : decode cX11_readPegs 62 = .ok (.getfield 177, 3) := by decide +kernel
theorem dX11_readPegs_65 : decode cX11_readPegs 65 = .ok (.ifCond .ne 24, 3) := by decide +kernel
theorem dX11_readPegs_68 : decode cX11_readPegs 68 = .ok (.iload 4, 2) := by decide +kernel
theorem dX11_readPegs_70 : decode cX11_readPegs 70 = .ok (.ifCond .le 19, 3) := by decide +kernel
theorem dX11_readPegs_73 : decode cX11_readPegs 73 = .ok (.aload_n 0, 1) := by decide +kernel
theorem dX11_readPegs_74 : decode cX11_readPegs 74 = .ok (.dup, 1) := by decide +kernel
theorem dX11_readPegs_75 : decode cX11_readPegs 75 = .ok (.getfield 174, 3) := by decide +kernel
theorem dX11_readPegs_78 : decode cX11_readPegs 78 = .ok (.iconst 1, 1) := by decide +kernel
theorem dX11_readPegs_79 : decode cX11_readPegs 79 = .ok (.isub, 1) := by decide +kernel
theorem dX11_readPegs_80 : decode cX11_readPegs 80 = .ok (.putfield 174, 3) := by decide +kernel
theorem dX11_readPegs_83 : decode cX11_readPegs 83 = .ok (.aload_n 0, 1) := by decide +kernel
theorem dX11_readPegs_84 : decode cX11_readPegs 84 = .ok (.iload 4, 2) := by decide +kernel
theorem dX11_readPegs_86 : decode cX11_readPegs 86 = .ok (.invokevirtual 183, 3) := by decide +kernel
theorem dX11_readPegs_89 : decode cX11_readPegs 89 = .ok (.iload_n 1, 1) := by decide +kernel
theorem dX11_readPegs_90 : decode cX11_readPegs 90 = .ok (.iconst 1, 1) := by decide +kernel
theorem dX11_readPegs_91 : decode cX11_readPegs 91 = .ok (.iload_n 3, 1) := by decide +kernel
theorem dX11_readPegs_92 : decode cX11_readPegs 92 = .ok (.ishl, 1) := by decide +kernel
theorem dX11_readPegs_93 : decode cX11_readPegs 93 = .ok (.ior, 1) := by decide +kernel
theorem dX11_readPegs_94 : decode cX11_readPegs 94 = .ok (.istore_n 1, 1) := by decide +kernel
theorem dX11_readPegs_95 : decode cX11_readPegs 95 = .ok (.iinc 2 1, 3) := by decide +kernel
theorem dX11_readPegs_98 : decode cX11_readPegs 98 = .ok (.goto (-94), 3) := by decide +kernel
theorem dX11_readPegs_101 : decode cX11_readPegs 101 = .ok (.iload_n 1, 1) := by decide +kernel
theorem dX11_readPegs_102 : decode cX11_readPegs 102 = .ok (.ireturn, 1) := by decide +kernel
theorem dX11_emit_0 : decode cX11_emit 0 = .ok (.aload_n 0, 1) := by decide +kernel
theorem dX11_emit_1 : decode cX11_emit 1 = .ok (.getfield 92, 3) := by decide +kernel
theorem dX11_emit_4 : decode cX11_emit 4 = .ok (.sipush 1100, 3) := by decide +kernel
theorem dX11_emit_7 : decode cX11_emit 7 = .ok (.aload_n 0, 1) := by decide +kernel
theorem dX11_emit_8 : decode cX11_emit 8 = .ok (.getfield 222, 3) := by decide +kernel
theorem dX11_emit_11 : decode cX11_emit 11 = .ok (.iadd, 1) := by decide +kernel
theorem dX11_emit_12 : decode cX11_emit 12 = .ok (.iload_n 1, 1) := by decide +kernel
theorem dX11_emit_13 : decode cX11_emit 13 = .ok (.iastore, 1) := by decide +kernel
theorem dX11_emit_14 : decode cX11_emit 14 = .ok (.aload_n 0, 1) := by decide +kernel
theorem dX11_emit_15 : decode cX11_emit 15 = .ok (.getfield 95, 3) := by decide +kernel
theorem dX11_emit_18 : decode cX11_emit 18 = .ok (.sipush 1100, 3) := by decide +kernel
theorem dX11_emit_21 : decode cX11_emit 21 = .ok (.aload_n 0, 1) := by decide +kernel
theorem dX11_emit_22 : decode cX11_emit 22 = .ok (.getfield 222, 3) := by decide +kernel
theorem dX11_emit_25 : decode cX11_emit 25 = .ok (.iadd, 1) := by decide +kernel
theorem dX11_emit_26 : decode cX11_emit 26 = .ok (.iload_n 2, 1) := by decide +kernel
theorem dX11_emit_27 : decode cX11_emit 27 = .ok (.iastore, 1) := by decide +kernel
theorem dX11_emit_28 : decode cX11_emit 28 = .ok (.aload_n 0, 1) := by decide +kernel
theorem dX11_emit_29 : decode cX11_emit 29 = .ok (.dup, 1) := by decide +kernel
theorem dX11_emit_30 : decode cX11_emit 30 = .ok (.getfield 222, 3) := by decide +kernel
theorem dX11_emit_33 : decode cX11_emit 33 = .ok (.iconst 1, 1) := by decide +kernel
theorem dX11_emit_34 : decode cX11_emit 34 = .ok (.iadd, 1) := by decide +kernel
theorem dX11_emit_35 : decode cX11_emit 35 = .ok (.putfield 222, 3) := by decide +kernel
theorem dX11_emit_38 : decode cX11_emit 38 = .ok (.return_, 1) := by decide +kernel
theorem dX11_all_0 : decode cX11_all 0 = .ok (.aload_n 0, 1) := by decide +kernel
theorem dX11_all_1 : decode cX11_all 1 = .ok (.iload_n 1, 1) := by decide +kernel
theorem dX11_all_2 : decode cX11_all 2 = .ok (.invokevirtual 264, 3) := by decide +kernel
theorem dX11_all_5 : decode cX11_all 5 = .ok (.aload_n 0, 1) := by decide +kernel
theorem dX11_all_6 : decode cX11_all 6 = .ok (.bipush 21, 2) := by decide +kernel
theorem dX11_all_8 : decode cX11_all 8 = .ok (.invokevirtual 186, 3) := by decide +kernel
theorem dX11_all_11 : decode cX11_all 11 = .ok (.ifCond .ne 12, 3) := by decide +kernel
theorem dX11_all_14 : decode cX11_all 14 = .ok (.aload_n 0, 1) := by decide +kernel
theorem dX11_all_15 : decode cX11_all 15 = .ok (.bipush 22, 2) := by decide +kernel
theorem dX11_all_17 : decode cX11_all 17 = .ok (.invokevirtual 186, 3) := by decide +kernel
theorem dX11_all_20 : decode cX11_all 20 = .ok (.ifCond .eq 44, 3) := by decide +kernel
theorem dX11_all_23 : decode cX11_all 23 = .ok (.aload_n 0, 1) := by decide +kernel
theorem dX11_all_24 : decode cX11_all 24 = .ok (.bipush 21, 2) := by decide +kernel
theorem dX11_all_26 : decode cX11_all 26 = .ok (.invokevirtual 186, 3) := by decide +kernel
theorem dX11_all_29 : decode cX11_all 29 = .ok (.istore_n 2, 1) := by decide +kernel
theorem dX11_all_30 : decode cX11_all 30 = .ok (.aload_n 0, 1) := by decide +kernel
theorem dX11_all_31 : decode cX11_all 31 = .ok (.dup, 1) := by decide +kernel
theorem dX11_all_32 : decode cX11_all 32 = .ok (.getfield 174, 3) := by decide +kernel
theorem dX11_all_35 : decode cX11_all 35 = .ok (.iconst 1, 1) := by decide +kernel
theorem dX11_all_36 : decode cX11_all 36 = .ok (.iadd, 1) := by decide +kernel
theorem dX11_all_37 : decode cX11_all 37 = .ok (.putfield 174, 3) := by decide +kernel
theorem dX11_all_40 : decode cX11_all 40 = .ok (.aload_n 0, 1) := by decide +kernel
theorem dX11_all_41 : decode cX11_all 41 = .ok (.iload_n 1, 1) := by decide +kernel
theorem dX11_all_42 : decode cX11_all 42 = .ok (.invokevirtual 264, 3) := by decide +kernel
theorem dX11_all_45 : decode cX11_all 45 = .ok (.aload_n 0, 1) := by decide +kernel
theorem dX11_all_46 : decode cX11_all 46 = .ok (.iload_n 2, 1) := by decide +kernel
theorem dX11_all_47 : decode cX11_all 47 = .ok (.ifCond .eq 8, 3) := by decide +kernel
theorem dX11_all_50 : decode cX11_all 50 = .ok (.bipush 9, 2) := by decide +kernel
theorem dX11_all_52 : decode cX11_all 52 = .ok (.goto 5, 3) := by decide +kernel
theorem dX11_all_55 : decode cX11_all 55 = .ok (.bipush 10, 2) := by decide +kernel
theorem dX11_all_57 : decode cX11_all 57 = .ok (.iconst 0, 1) := by decide +kernel
theorem dX11_all_58 : decode cX11_all 58 = .ok (.invokevirtual 256, 3) := by decide +kernel
theorem dX11_all_61 : decode cX11_all 61 = .ok (.goto (-56), 3) := by decide +kernel
theorem dX11_all_64 : decode cX11_all 64 = .ok (.return_, 1) := by decide +kernel
theorem dX11_test_0 : decode cX11_test 0 = .ok (.aload_n 0, 1) := by decide +kernel
theorem dX11_test_1 : decode cX11_test 1 = .ok (.iload_n 1, 1) := by decide +kernel
theorem dX11_test_2 : decode cX11_test 2 = .ok (.invokevirtual 267, 3) := by decide +kernel
theorem dX11_test_5 : decode cX11_test 5 = .ok (.aload_n 0, 1) := by decide +kernel
theorem dX11_test_6 : decode cX11_test 6 = .ok (.bipush 60, 2) := by decide +kernel
theorem dX11_test_8 : decode cX11_test 8 = .ok (.invokevirtual 180, 3) := by decide +kernel
theorem dX11_test_11 : decode cX11_test 11 = .ok (.istore_n 2, 1) := by decide +kernel
theorem dX11_test_12 : decode cX11_test 12 = .ok (.aload_n 0, 1) := by decide +kernel
theorem dX11_test_13 : decode cX11_test 13 = .ok (.bipush 60, 2) := by decide +kernel
theorem dX11_test_15 : decode cX11_test 15 = .ok (.invokevirtual 270, 3) := by decide +kernel
theorem dX11_test_18 : decode cX11_test 18 = .ok (.ifCond .ne 12, 3) := by decide +kernel
theorem dX11_test_21 : decode cX11_test 21 = .ok (.aload_n 0, 1) := by decide +kernel
theorem dX11_test_22 : decode cX11_test 22 = .ok (.bipush 61, 2) := by decide +kernel
theorem dX11_test_24 : decode cX11_test 24 = .ok (.invokevirtual 270, 3) := by decide +kernel
theorem dX11_test_27 : decode cX11_test 27 = .ok (.ifCond .eq 24, 3) := by decide +kernel
theorem dX11_test_30 : decode cX11_test 30 = .ok (.aload_n 0, 1) := by decide +kernel
theorem dX11_test_31 : decode cX11_test 31 = .ok (.iload_n 1, 1) := by decide +kernel
theorem dX11_test_32 : decode cX11_test 32 = .ok (.invokevirtual 267, 3) := by decide +kernel
theorem dX11_test_35 : decode cX11_test 35 = .ok (.aload_n 0, 1) := by decide +kernel
theorem dX11_test_36 : decode cX11_test 36 = .ok (.iload_n 2, 1) := by decide +kernel
theorem dX11_test_37 : decode cX11_test 37 = .ok (.ifCond .eq 8, 3) := by decide +kernel
theorem dX11_test_40 : decode cX11_test 40 = .ok (.bipush 7, 2) := by decide +kernel
theorem dX11_test_42 : decode cX11_test 42 = .ok (.goto 5, 3) := by decide +kernel
theorem dX11_test_45 : decode cX11_test 45 = .ok (.bipush 8, 2) := by decide +kernel
theorem dX11_test_47 : decode cX11_test 47 = .ok (.iconst 0, 1) := by decide +kernel
theorem dX11_test_48 : decode cX11_test 48 = .ok (.invokevirtual 256, 3) := by decide +kernel
theorem dX11_test_51 : decode cX11_test 51 = .ok (.return_, 1) := by decide +kernel
theorem dX11_sums_0 : decode cX11_sums 0 = .ok (.aload_n 0, 1) := by decide +kernel
theorem dX11_sums_1 : decode cX11_sums 1 = .ok (.iload_n 1, 1) := by decide +kernel
theorem dX11_sums_2 : decode cX11_sums 2 = .ok (.invokevirtual 273, 3) := by decide +kernel
theorem dX11_sums_5 : decode cX11_sums 5 = .ok (.aload_n 0, 1) := by decide +kernel
theorem dX11_sums_6 : decode cX11_sums 6 = .ok (.bipush 43, 2) := by decide +kernel
theorem dX11_sums_8 : decode cX11_sums 8 = .ok (.invokevirtual 180, 3) := by decide +kernel
theorem dX11_sums_11 : decode cX11_sums 11 = .ok (.ifCond .ne 12, 3) := by decide +kernel
theorem dX11_sums_14 : decode cX11_sums 14 = .ok (.aload_n 0, 1) := by decide +kernel
theorem dX11_sums_15 : decode cX11_sums 15 = .ok (.bipush 45, 2) := by decide +kernel
theorem dX11_sums_17 : decode cX11_sums 17 = .ok (.invokevirtual 180, 3) := by decide +kernel
theorem dX11_sums_20 : decode cX11_sums 20 = .ok (.ifCond .eq 42, 3) := by decide +kernel
theorem dX11_sums_23 : decode cX11_sums 23 = .ok (.aload_n 0, 1) := by decide +kernel
theorem dX11_sums_24 : decode cX11_sums 24 = .ok (.bipush 43, 2) := by decide +kernel
theorem dX11_sums_26 : decode cX11_sums 26 = .ok (.invokevirtual 180, 3) := by decide +kernel
theorem dX11_sums_29 : decode cX11_sums 29 = .ok (.istore_n 2, 1) := by decide +kernel
theorem dX11_sums_30 : decode cX11_sums 30 = .ok (.aload_n 0, 1) := by decide +kernel
theorem dX11_sums_31 : decode cX11_sums 31 = .ok (.dup, 1) := by decide +kernel
theorem dX11_sums_32 : decode cX11_sums 32 = .ok (.getfield 174, 3) := by decide +kernel
theorem dX11_sums_35 : decode cX11_sums 35 = .ok (.iconst 1, 1) := by decide +kernel
theorem dX11_sums_36 : decode cX11_sums 36 = .ok (.iadd, 1) := by decide +kernel
theorem dX11_sums_37 : decode cX11_sums 37 = .ok (.putfield 174, 3) := by decide +kernel
theorem dX11_sums_40 : decode cX11_sums 40 = .ok (.aload_n 0, 1) := by decide +kernel
theorem dX11_sums_41 : decode cX11_sums 41 = .ok (.iload_n 1, 1) := by decide +kernel
theorem dX11_sums_42 : decode cX11_sums 42 = .ok (.invokevirtual 273, 3) := by decide +kernel
theorem dX11_sums_45 : decode cX11_sums 45 = .ok (.aload_n 0, 1) := by decide +kernel
theorem dX11_sums_46 : decode cX11_sums 46 = .ok (.iload_n 2, 1) := by decide +kernel
theorem dX11_sums_47 : decode cX11_sums 47 = .ok (.ifCond .eq 7, 3) := by decide +kernel
theorem dX11_sums_50 : decode cX11_sums 50 = .ok (.iconst 4, 1) := by decide +kernel
theorem dX11_sums_51 : decode cX11_sums 51 = .ok (.goto 4, 3) := by decide +kernel
theorem dX11_sums_54 : decode cX11_sums 54 = .ok (.iconst 5, 1) := by decide +kernel
theorem dX11_sums_55 : decode cX11_sums 55 = .ok (.iconst 0, 1) := by decide +kernel
theorem dX11_sums_56 : decode cX11_sums 56 = .ok (.invokevirtual 256, 3) := by decide +kernel
theorem dX11_sums_59 : decode cX11_sums 59 = .ok (.goto (-54), 3) := by decide +kernel
theorem dX11_sums_62 : decode cX11_sums 62 = .ok (.return_, 1) := by decide +kernel
theorem dX11_products_0 : decode cX11_products 0 = .ok (.aload_n 0, 1) := by decide +kernel
theorem dX11_products_1 : decode cX11_products 1 = .ok (.iload_n 1, 1) := by decide +kernel
theorem dX11_products_2 : decode cX11_products 2 = .ok (.invokevirtual 276, 3) := by decide +kernel
theorem dX11_products_5 : decode cX11_products 5 = .ok (.aload_n 0, 1) := by decide +kernel
theorem dX11_products_6 : decode cX11_products 6 = .ok (.bipush 42, 2) := by decide +kernel
theorem dX11_products_8 : decode cX11_products 8 = .ok (.invokevirtual 270, 3) := by decide +kernel
theorem dX11_products_11 : decode cX11_products 11 = .ok (.ifCond .eq 18, 3) := by decide +kernel
theorem dX11_products_14 : decode cX11_products 14 = .ok (.aload_n 0, 1) := by decide +kernel
theorem dX11_products_15 : decode cX11_products 15 = .ok (.iload_n 1, 1) := by decide +kernel
theorem dX11_products_16 : decode cX11_products 16 = .ok (.invokevirtual 276, 3) := by decide +kernel
theorem dX11_products_19 : decode cX11_products 19 = .ok (.aload_n 0, 1) := by decide +kernel
theorem dX11_products_20 : decode cX11_products 20 = .ok (.bipush 6, 2) := by decide +kernel
theorem dX11_products_22 : decode cX11_products 22 = .ok (.iconst 0, 1) := by decide +kernel
theorem dX11_products_23 : decode cX11_products 23 = .ok (.invokevirtual 256, 3) := by decide +kernel
theorem dX11_products_26 : decode cX11_products 26 = .ok (.goto (-21), 3) := by decide +kernel
theorem dX11_products_29 : decode cX11_products 29 = .ok (.return_, 1) := by decide +kernel
theorem dX11_takePart_0 : decode cX11_takePart 0 = .ok (.aload_n 0, 1) := by decide +kernel
theorem dX11_takePart_1 : decode cX11_takePart 1 = .ok (.getfield 177, 3) := by decide +kernel
theorem dX11_takePart_4 : decode cX11_takePart 4 = .ok (.ifCond .le 4, 3) := by decide +kernel
theorem dX11_takePart_7 : decode cX11_takePart 7 = .ok (.return_, 1) := by decide +kernel
theorem dX11_takePart_8 : decode cX11_takePart 8 = .ok (.aload_n 0, 1) := by decide +kernel
theorem dX11_takePart_9 : decode cX11_takePart 9 = .ok (.getfield 24, 3) := by decide +kernel
theorem dX11_takePart_12 : decode cX11_takePart 12 = .ok (.aload_n 0, 1) := by decide +kernel
theorem dX11_takePart_13 : decode cX11_takePart 13 = .ok (.getfield 174, 3) := by decide +kernel
theorem dX11_takePart_16 : decode cX11_takePart 16 = .ok (.iaload, 1) := by decide +kernel
theorem dX11_takePart_17 : decode cX11_takePart 17 = .ok (.iconst 2, 1) := by decide +kernel
theorem dX11_takePart_18 : decode cX11_takePart 18 = .ok (.if_icmp .ne 7, 3) := by decide +kernel
theorem dX11_takePart_21 : decode cX11_takePart 21 = .ok (.iconst 1, 1) := by decide +kernel
theorem dX11_takePart_22 : decode cX11_takePart 22 = .ok (.goto 4, 3) := by decide +kernel
theorem dX11_takePart_25 : decode cX11_takePart 25 = .ok (.iconst 0, 1) := by decide +kernel
theorem dX11_takePart_26 : decode cX11_takePart 26 = .ok (.istore_n 2, 1) := by decide +kernel
theorem dX11_takePart_27 : decode cX11_takePart 27 = .ok (.aload_n 0, 1) := by decide +kernel
theorem dX11_takePart_28 : decode cX11_takePart 28 = .ok (.bipush 23, 2) := by decide +kernel
theorem dX11_takePart_30 : decode cX11_takePart 30 = .ok (.iconst 3, 1) := by decide +kernel
theorem dX11_takePart_31 : decode cX11_takePart 31 = .ok (.invokevirtual 199, 3) := by decide +kernel
theorem dX11_takePart_34 : decode cX11_takePart 34 = .ok (.istore_n 3, 1) := by decide +kernel
theorem dX11_takePart_35 : decode cX11_takePart 35 = .ok (.iload_n 3, 1) := by decide +kernel
theorem dX11_takePart_36 : decode cX11_takePart 36 = .ok (.ifCond .ge 33, 3) := by decide +kernel
theorem dX11_takePart_39 : decode cX11_takePart 39 = .ok (.iload_n 2, 1) := by decide +kernel
theorem dX11_takePart_40 : decode cX11_takePart 40 = .ok (.ifCond .ne 29, 3) := by decide +kernel
theorem dX11_takePart_43 : decode cX11_takePart 43 = .ok (.aload_n 0, 1) := by decide +kernel
theorem dX11_takePart_44 : decode cX11_takePart 44 = .ok (.bipush 40, 2) := by decide +kernel
theorem dX11_takePart_46 : decode cX11_takePart 46 = .ok (.invokevirtual 180, 3) := by decide +kernel
theorem dX11_takePart_49 : decode cX11_takePart 49 = .ok (.ifCond .ne 20, 3) := by decide +kernel
theorem dX11_takePart_52 : decode cX11_takePart 52 = .ok (.aload_n 0, 1) := by decide +kernel
theorem dX11_takePart_53 : decode cX11_takePart 53 = .ok (.bipush 20, 2) := by decide +kernel
theorem dX11_takePart_55 : decode cX11_takePart 55 = .ok (.invokevirtual 186, 3) := by decide +kernel
theorem dX11_takePart_58 : decode cX11_takePart 58 = .ok (.ifCond .ne 11, 3) := by decide +kernel
theorem dX11_takePart_61 : decode cX11_takePart 61 = .ok (.aload_n 0, 1) := by decide +kernel
theorem dX11_takePart_62 : decode cX11_takePart 62 = .ok (.iconst 1, 1) := by decide +kernel
theorem dX11_takePart_63 : decode cX11_takePart 63 = .ok (.invokevirtual 183, 3) := by decide +kernel
theorem dX11_takePart_66 : decode cX11_takePart 66 = .ok (.goto 13, 3) := by decide +kernel
theorem dX11_takePart_69 : decode cX11_takePart 69 = .ok (.iload_n 1, 1) := by decide +kernel
theorem dX11_takePart_70 : decode cX11_takePart 70 = .ok (.iconst 5, 1) := by decide +kernel
theorem dX11_takePart_71 : decode cX11_takePart 71 = .ok (.if_icmp .ne 8, 3) := by decide +kernel
theorem dX11_takePart_74 : decode cX11_takePart 74 = .ok (.aload_n 0, 1) := by decide +kernel
theorem dX11_takePart_75 : decode cX11_takePart 75 = .ok (.iconst 5, 1) := by decide +kernel
theorem dX11_takePart_76 : decode cX11_takePart 76 = .ok (.invokevirtual 183, 3) := by decide +kernel
theorem dX11_takePart_79 : decode cX11_takePart 79 = .ok (.aload_n 0, 1) := by decide +kernel
theorem dX11_takePart_80 : decode cX11_takePart 80 = .ok (.getfield 177, 3) := by decide +kernel
theorem dX11_takePart_83 : decode cX11_takePart 83 = .ok (.ifCond .le 4, 3) := by decide +kernel
theorem dX11_takePart_86 : decode cX11_takePart 86 = .ok (.return_, 1) := by decide +kernel
theorem dX11_takePart_87 : decode cX11_takePart 87 = .ok (.aload_n 0, 1) := by decide +kernel
theorem dX11_takePart_88 : decode cX11_takePart 88 = .ok (.bipush 20, 2) := by decide +kernel
theorem dX11_takePart_90 : decode cX11_takePart 90 = .ok (.invokevirtual 189, 3) := by decide +kernel
theorem dX11_takePart_93 : decode cX11_takePart 93 = .ok (.ifCond .eq 19, 3) := by decide +kernel
theorem dX11_takePart_96 : decode cX11_takePart 96 = .ok (.aload_n 0, 1) := by decide +kernel
theorem dX11_takePart_97 : decode cX11_takePart 97 = .ok (.iload_n 1, 1) := by decide +kernel
theorem dX11_takePart_98 : decode cX11_takePart 98 = .ok (.iconst 1, 1) := by decide +kernel
theorem dX11_takePart_99 : decode cX11_takePart 99 = .ok (.iadd, 1) := by decide +kernel
theorem dX11_takePart_100 : decode cX11_takePart 100 = .ok (.invokevirtual 276, 3) := by decide +kernel
theorem dX11_takePart_103 : decode cX11_takePart 103 = .ok (.aload_n 0, 1) := by decide +kernel
theorem dX11_takePart_104 : decode cX11_takePart 104 = .ok (.iconst 3, 1) := by decide +kernel
theorem dX11_takePart_105 : decode cX11_takePart 105 = .ok (.iconst 0, 1) := by decide +kernel
theorem dX11_takePart_106 : decode cX11_takePart 106 = .ok (.invokevirtual 256, 3) := by decide +kernel
theorem dX11_takePart_109 : decode cX11_takePart 109 = .ok (.goto 69, 3) := by decide +kernel
theorem dX11_takePart_112 : decode cX11_takePart 112 = .ok (.aload_n 0, 1) := by decide +kernel
theorem dX11_takePart_113 : decode cX11_takePart 113 = .ok (.bipush 40, 2) := by decide +kernel
theorem dX11_takePart_115 : decode cX11_takePart 115 = .ok (.invokevirtual 270, 3) := by decide +kernel
theorem dX11_takePart_118 : decode cX11_takePart 118 = .ok (.ifCond .eq 19, 3) := by decide +kernel
theorem dX11_takePart_121 : decode cX11_takePart 121 = .ok (.aload_n 0, 1) := by decide +kernel
theorem dX11_takePart_122 : decode cX11_takePart 122 = .ok (.iload_n 1, 1) := by decide +kernel
theorem dX11_takePart_123 : decode cX11_takePart 123 = .ok (.iconst 1, 1) := by decide +kernel
theorem dX11_takePart_124 : decode cX11_takePart 124 = .ok (.iadd, 1) := by decide +kernel
theorem dX11_takePart_125 : decode cX11_takePart 125 = .ok (.invokevirtual 253, 3) := by decide +kernel
theorem dX11_takePart_128 : decode cX11_takePart 128 = .ok (.aload_n 0, 1) := by decide +kernel
theorem dX11_takePart_129 : decode cX11_takePart 129 = .ok (.bipush 41, 2) := by decide +kernel
theorem dX11_takePart_131 : decode cX11_takePart 131 = .ok (.invokevirtual 237, 3) := by decide +kernel
theorem dX11_takePart_134 : decode cX11_takePart 134 = .ok (.goto 44, 3) := by decide +kernel
theorem dX11_takePart_137 : decode cX11_takePart 137 = .ok (.aload_n 0, 1) := by decide +kernel
theorem dX11_takePart_138 : decode cX11_takePart 138 = .ok (.iload_n 2, 1) := by decide +kernel
theorem dX11_takePart_139 : decode cX11_takePart 139 = .ok (.ifCond .eq 7, 3) := by decide +kernel
theorem dX11_takePart_142 : decode cX11_takePart 142 = .ok (.iconst 1, 1) := by decide +kernel
theorem dX11_takePart_143 : decode cX11_takePart 143 = .ok (.goto 4, 3) := by decide +kernel
theorem dX11_takePart_146 : decode cX11_takePart 146 = .ok (.iconst 2, 1) := by decide +kernel
theorem dX11_takePart_147 : decode cX11_takePart 147 = .ok (.iload_n 2, 1) := by decide +kernel
theorem dX11_takePart_148 : decode cX11_takePart 148 = .ok (.ifCond .eq 16, 3) := by decide +kernel
theorem dX11_takePart_151 : decode cX11_takePart 151 = .ok (.aload_n 0, 1) := by decide +kernel
theorem dX11_takePart_152 : decode cX11_takePart 152 = .ok (.getfield 30, 3) := by decide +kernel
theorem dX11_takePart_155 : decode cX11_takePart 155 = .ok (.aload_n 0, 1) := by decide +kernel
theorem dX11_takePart_156 : decode cX11_takePart 156 = .ok (.getfield 174, 3) := by decide +kernel
theorem dX11_takePart_159 : decode cX11_takePart 159 = .ok (.laload, 1) := by decide +kernel
theorem dX11_takePart_160 : decode cX11_takePart 160 = .ok (.l2i, 1) := by decide +kernel
theorem dX11_takePart_161 : decode cX11_takePart 161 = .ok (.goto 4, 3) := by decide +kernel
theorem dX11_takePart_164 : decode cX11_takePart 164 = .ok (.iload_n 3, 1) := by decide +kernel
theorem dX11_takePart_165 : decode cX11_takePart 165 = .ok (.invokevirtual 256, 3) := by decide +kernel
theorem dX11_takePart_168 : decode cX11_takePart 168 = .ok (.aload_n 0, 1) := by decide +kernel
theorem dX11_takePart_169 : decode cX11_takePart 169 = .ok (.dup, 1) := by decide +kernel
theorem dX11_takePart_170 : decode cX11_takePart 170 = .ok (.getfield 174, 3) := by decide +kernel
theorem dX11_takePart_173 : decode cX11_takePart 173 = .ok (.iconst 1, 1) := by decide +kernel
theorem dX11_takePart_174 : decode cX11_takePart 174 = .ok (.iadd, 1) := by decide +kernel
theorem dX11_takePart_175 : decode cX11_takePart 175 = .ok (.putfield 174, 3) := by decide +kernel
theorem dX11_takePart_178 : decode cX11_takePart 178 = .ok (.return_, 1) := by decide +kernel
theorem dX11_worthAt_0 : decode cX11_worthAt 0 = .ok (.iconst 0, 1) := by decide +kernel
theorem dX11_worthAt_1 : decode cX11_worthAt 1 = .ok (.istore_n 2, 1) := by decide +kernel
theorem dX11_worthAt_2 : decode cX11_worthAt 2 = .ok (.iload_n 1, 1) := by decide +kernel
theorem dX11_worthAt_3 : decode cX11_worthAt 3 = .ok (.istore_n 3, 1) := by decide +kernel
theorem dX11_worthAt_4 : decode cX11_worthAt 4 = .ok (.aload_n 0, 1) := by decide +kernel
theorem dX11_worthAt_5 : decode cX11_worthAt 5 = .ok (.getfield 92, 3) := by decide +kernel
theorem dX11_worthAt_8 : decode cX11_worthAt 8 = .ok (.iload_n 3, 1) := by decide +kernel
theorem dX11_worthAt_9 : decode cX11_worthAt 9 = .ok (.iaload, 1) := by decide +kernel
theorem dX11_worthAt_10 : decode cX11_worthAt 10 = .ok (.ifCond .eq 130, 3) := by decide +kernel
theorem dX11_worthAt_13 : decode cX11_worthAt 13 = .ok (.aload_n 0, 1) := by decide +kernel
theorem dX11_worthAt_14 : decode cX11_worthAt 14 = .ok (.getfield 92, 3) := by decide +kernel
theorem dX11_worthAt_17 : decode cX11_worthAt 17 = .ok (.iload_n 3, 1) := by decide +kernel
theorem dX11_worthAt_18 : decode cX11_worthAt 18 = .ok (.iaload, 1) := by decide +kernel
theorem dX11_worthAt_19 : decode cX11_worthAt 19 = .ok (.istore 4, 2) := by decide +kernel
theorem dX11_worthAt_21 : decode cX11_worthAt 21 = .ok (.iload 4, 2) := by decide +kernel
theorem dX11_worthAt_23 : decode cX11_worthAt 23 = .ok (.iconst 1, 1) := by decide +kernel
theorem dX11_worthAt_24 : decode cX11_worthAt 24 = .ok (.if_icmp .eq 9, 3) := by decide +kernel
theorem dX11_worthAt_27 : decode cX11_worthAt 27 = .ok (.iload 4, 2) := by decide +kernel
theorem dX11_worthAt_29 : decode cX11_worthAt 29 = .ok (.iconst 2, 1) := by decide +kernel
theorem dX11_worthAt_30 : decode cX11_worthAt 30 = .ok (.if_icmp .ne 41, 3) := by decide +kernel
theorem dX11_worthAt_33 : decode cX11_worthAt 33 = .ok (.aload_n 0, 1) := by decide +kernel
theorem dX11_worthAt_34 : decode cX11_worthAt 34 = .ok (.getfield 110, 3) := by decide +kernel
theorem dX11_worthAt_37 : decode cX11_worthAt 37 = .ok (.iload_n 2, 1) := by decide +kernel
theorem dX11_worthAt_38 : decode cX11_worthAt 38 = .ok (.iload 4, 2) := by decide +kernel
theorem dX11_worthAt_40 : decode cX11_worthAt 40 = .ok (.iconst 1, 1) := by decide +kernel
theorem dX11_worthAt_41 : decode cX11_worthAt 41 = .ok (.if_icmp .ne 12, 3) := by decide +kernel
theorem dX11_worthAt_44 : decode cX11_worthAt 44 = .ok (.aload_n 0, 1) := by decide +kernel
theorem dX11_worthAt_45 : decode cX11_worthAt 45 = .ok (.getfield 95, 3) := by decide +kernel
theorem dX11_worthAt_48 : decode cX11_worthAt 48 = .ok (.iload_n 3, 1) := by decide +kernel
theorem dX11_worthAt_49 : decode cX11_worthAt 49 = .ok (.iaload, 1) := by decide +kernel
theorem dX11_worthAt_50 : decode cX11_worthAt 50 = .ok (.goto 14, 3) := by decide +kernel
theorem dX11_worthAt_53 : decode cX11_worthAt 53 = .ok (.aload_n 0, 1) := by decide +kernel
theorem dX11_worthAt_54 : decode cX11_worthAt 54 = .ok (.getfield 107, 3) := by decide +kernel
theorem dX11_worthAt_57 : decode cX11_worthAt 57 = .ok (.aload_n 0, 1) := by decide +kernel
theorem dX11_worthAt_58 : decode cX11_worthAt 58 = .ok (.getfield 95, 3) := by decide +kernel
theorem dX11_worthAt_61 : decode cX11_worthAt 61 = .ok (.iload_n 3, 1) := by decide +kernel
theorem dX11_worthAt_62 : decode cX11_worthAt 62 = .ok (.iaload, 1) := by decide +kernel
theorem dX11_worthAt_63 : decode cX11_worthAt 63 = .ok (.iaload, 1) := by decide +kernel
theorem dX11_worthAt_64 : decode cX11_worthAt 64 = .ok (.iastore, 1) := by decide +kernel
theorem dX11_worthAt_65 : decode cX11_worthAt 65 = .ok (.iinc 2 1, 3) := by decide +kernel
theorem dX11_worthAt_68 : decode cX11_worthAt 68 = .ok (.goto 66, 3) := by decide +kernel
theorem dX11_worthAt_71 : decode cX11_worthAt 71 = .ok (.iload 4, 2) := by decide +kernel
theorem dX11_worthAt_73 : decode cX11_worthAt 73 = .ok (.iconst 3, 1) := by decide +kernel
theorem dX11_worthAt_74 : decode cX11_worthAt 74 = .ok (.if_icmp .ne 30, 3) := by decide +kernel
theorem dX11_worthAt_77 : decode cX11_worthAt 77 = .ok (.aload_n 0, 1) := by decide +kernel
theorem dX11_worthAt_78 : decode cX11_worthAt 78 = .ok (.getfield 110, 3) := by decide +kernel
theorem dX11_worthAt_81 : decode cX11_worthAt 81 = .ok (.iload_n 2, 1) := by decide +kernel
theorem dX11_worthAt_82 : decode cX11_worthAt 82 = .ok (.iconst 1, 1) := by decide +kernel
theorem dX11_worthAt_83 : decode cX11_worthAt 83 = .ok (.isub, 1) := by decide +kernel
theorem dX11_worthAt_84 : decode cX11_worthAt 84 = .ok (.aload_n 0, 1) := by decide +kernel
theorem dX11_worthAt_85 : decode cX11_worthAt 85 = .ok (.getfield 110, 3) := by decide +kernel
theorem dX11_worthAt_88 : decode cX11_worthAt 88 = .ok (.iload_n 2, 1) := by decide +kernel
theorem dX11_worthAt_89 : decode cX11_worthAt 89 = .ok (.iconst 1, 1) := by decide +kernel
theorem dX11_worthAt_90 : decode cX11_worthAt 90 = .ok (.isub, 1) := by decide +kernel
theorem dX11_worthAt_91 : decode cX11_worthAt 91 = .ok (.iaload, 1) := by decide +kernel
theorem dX11_worthAt_92 : decode cX11_worthAt 92 = .ok (.ifCond .ne 7, 3) := by decide +kernel
theorem dX11_worthAt_95 : decode cX11_worthAt 95 = .ok (.iconst 1, 1) := by decide +kernel
theorem dX11_worthAt_96 : decode cX11_worthAt 96 = .ok (.goto 4, 3) := by decide +kernel
theorem dX11_worthAt_99 : decode cX11_worthAt 99 = .ok (.iconst 0, 1) := by decide +kernel
theorem dX11_worthAt_100 : decode cX11_worthAt 100 = .ok (.iastore, 1) := by decide +kernel
theorem dX11_worthAt_101 : decode cX11_worthAt 101 = .ok (.goto 33, 3) := by decide +kernel
theorem dX11_worthAt_104 : decode cX11_worthAt 104 = .ok (.iinc 2 (-1), 3) := by decide +kernel
theorem dX11_worthAt_107 : decode cX11_worthAt 107 = .ok (.aload_n 0, 1) := by decide +kernel
theorem dX11_worthAt_108 : decode cX11_worthAt 108 = .ok (.getfield 110, 3) := by decide +kernel
theorem dX11_worthAt_111 : decode cX11_worthAt 111 = .ok (.iload_n 2, 1) := by decide +kernel
theorem dX11_worthAt_112 : decode cX11_worthAt 112 = .ok (.iconst 1, 1) := by decide +kernel
theorem dX11_worthAt_113 : decode cX11_worthAt 113 = .ok (.isub, 1) := by decide +kernel
theorem dX11_worthAt_114 : decode cX11_worthAt 114 = .ok (.iload 4, 2) := by decide +kernel
theorem dX11_worthAt_116 : decode cX11_worthAt 116 = .ok (.aload_n 0, 1) := by decide +kernel
theorem dX11_worthAt_117 : decode cX11_worthAt 117 = .ok (.getfield 110, 3) := by decide +kernel
theorem dX11_worthAt_120 : decode cX11_worthAt 120 = .ok (.iload_n 2, 1) := by decide +kernel
theorem dX11_worthAt_121 : decode cX11_worthAt 121 = .ok (.iconst 1, 1) := by decide +kernel
theorem dX11_worthAt_122 : decode cX11_worthAt 122 = .ok (.isub, 1) := by decide +kernel
theorem dX11_worthAt_123 : decode cX11_worthAt 123 = .ok (.iaload, 1) := by decide +kernel
theorem dX11_worthAt_124 : decode cX11_worthAt 124 = .ok (.aload_n 0, 1) := by decide +kernel
theorem dX11_worthAt_125 : decode cX11_worthAt 125 = .ok (.getfield 110, 3) := by decide +kernel
theorem dX11_worthAt_128 : decode cX11_worthAt 128 = .ok (.iload_n 2, 1) := by decide +kernel
theorem dX11_worthAt_129 : decode cX11_worthAt 129 = .ok (.iaload, 1) := by decide +kernel
theorem dX11_worthAt_130 : decode cX11_worthAt 130 = .ok (.invokestatic 279, 3) := by decide +kernel
theorem dX11_worthAt_133 : decode cX11_worthAt 133 = .ok (.iastore, 1) := by decide +kernel
theorem dX11_worthAt_134 : decode cX11_worthAt 134 = .ok (.iinc 3 1, 3) := by decide +kernel
theorem dX11_worthAt_137 : decode cX11_worthAt 137 = .ok (.goto (-133), 3) := by decide +kernel
theorem dX11_worthAt_140 : decode cX11_worthAt 140 = .ok (.aload_n 0, 1) := by decide +kernel
theorem dX11_worthAt_141 : decode cX11_worthAt 141 = .ok (.getfield 110, 3) := by decide +kernel
theorem dX11_worthAt_144 : decode cX11_worthAt 144 = .ok (.iconst 0, 1) := by decide +kernel
theorem dX11_worthAt_145 : decode cX11_worthAt 145 = .ok (.iaload, 1) := by decide +kernel
theorem dX11_worthAt_146 : decode cX11_worthAt 146 = .ok (.ireturn, 1) := by decide +kernel
theorem dX11_both_0 : decode cX11_both 0 = .ok (.iload_n 0, 1) := by decide +kernel
theorem dX11_both_1 : decode cX11_both 1 = .ok (.tableswitch 87 4 9 #[39, 43, 47, 51, 62, 73], 39) := by decide +kernel
theorem dX11_both_40 : decode cX11_both 40 = .ok (.iload_n 1, 1) := by decide +kernel
theorem dX11_both_41 : decode cX11_both 41 = .ok (.iload_n 2, 1) := by decide +kernel
theorem dX11_both_42 : decode cX11_both 42 = .ok (.iadd, 1) := by decide +kernel
theorem dX11_both_43 : decode cX11_both 43 = .ok (.ireturn, 1) := by decide +kernel
theorem dX11_both_44 : decode cX11_both 44 = .ok (.iload_n 1, 1) := by decide +kernel
theorem dX11_both_45 : decode cX11_both 45 = .ok (.iload_n 2, 1) := by decide +kernel
theorem dX11_both_46 : decode cX11_both 46 = .ok (.isub, 1) := by decide +kernel
theorem dX11_both_47 : decode cX11_both 47 = .ok (.ireturn, 1) := by decide +kernel
theorem dX11_both_48 : decode cX11_both 48 = .ok (.iload_n 1, 1) := by decide +kernel
theorem dX11_both_49 : decode cX11_both 49 = .ok (.iload_n 2, 1) := by decide +kernel
theorem dX11_both_50 : decode cX11_both 50 = .ok (.imul, 1) := by decide +kernel
theorem dX11_both_51 : decode cX11_both 51 = .ok (.ireturn, 1) := by decide +kernel
theorem dX11_both_52 : decode cX11_both 52 = .ok (.iload_n 1, 1) := by decide +kernel
theorem dX11_both_53 : decode cX11_both 53 = .ok (.iload_n 2, 1) := by decide +kernel
theorem dX11_both_54 : decode cX11_both 54 = .ok (.if_icmp .ge 7, 3) := by decide +kernel
theorem dX11_both_57 : decode cX11_both 57 = .ok (.iconst 1, 1) := by decide +kernel
theorem dX11_both_58 : decode cX11_both 58 = .ok (.goto 4, 3) := by decide +kernel
theorem dX11_both_61 : decode cX11_both 61 = .ok (.iconst 0, 1) := by decide +kernel
theorem dX11_both_62 : decode cX11_both 62 = .ok (.ireturn, 1) := by decide +kernel
theorem dX11_both_63 : decode cX11_both 63 = .ok (.iload_n 1, 1) := by decide +kernel
theorem dX11_both_64 : decode cX11_both 64 = .ok (.iload_n 2, 1) := by decide +kernel
theorem dX11_both_65 : decode cX11_both 65 = .ok (.if_icmp .ne 7, 3) := by decide +kernel
theorem dX11_both_68 : decode cX11_both 68 = .ok (.iconst 1, 1) := by decide +kernel
theorem dX11_both_69 : decode cX11_both 69 = .ok (.goto 4, 3) := by decide +kernel
theorem dX11_both_72 : decode cX11_both 72 = .ok (.iconst 0, 1) := by decide +kernel
theorem dX11_both_73 : decode cX11_both 73 = .ok (.ireturn, 1) := by decide +kernel
theorem dX11_both_74 : decode cX11_both 74 = .ok (.iload_n 1, 1) := by decide +kernel
theorem dX11_both_75 : decode cX11_both 75 = .ok (.ifCond .eq 11, 3) := by decide +kernel
theorem dX11_both_78 : decode cX11_both 78 = .ok (.iload_n 2, 1) := by decide +kernel
theorem dX11_both_79 : decode cX11_both 79 = .ok (.ifCond .eq 7, 3) := by decide +kernel
theorem dX11_both_82 : decode cX11_both 82 = .ok (.iconst 1, 1) := by decide +kernel
theorem dX11_both_83 : decode cX11_both 83 = .ok (.goto 4, 3) := by decide +kernel
theorem dX11_both_86 : decode cX11_both 86 = .ok (.iconst 0, 1) := by decide +kernel
theorem dX11_both_87 : decode cX11_both 87 = .ok (.ireturn, 1) := by decide +kernel
theorem dX11_both_88 : decode cX11_both 88 = .ok (.iload_n 1, 1) := by decide +kernel
theorem dX11_both_89 : decode cX11_both 89 = .ok (.ifCond .ne 7, 3) := by decide +kernel
theorem dX11_both_92 : decode cX11_both 92 = .ok (.iload_n 2, 1) := by decide +kernel
theorem dX11_both_93 : decode cX11_both 93 = .ok (.ifCond .eq 7, 3) := by decide +kernel
theorem dX11_both_96 : decode cX11_both 96 = .ok (.iconst 1, 1) := by decide +kernel
theorem dX11_both_97 : decode cX11_both 97 = .ok (.goto 4, 3) := by decide +kernel
theorem dX11_both_100 : decode cX11_both 100 = .ok (.iconst 0, 1) := by decide +kernel
theorem dX11_both_101 : decode cX11_both 101 = .ok (.ireturn, 1) := by decide +kernel
theorem dX11_copies_0 : decode cX11_copies 0 = .ok (.iconst 0, 1) := by decide +kernel
theorem dX11_copies_1 : decode cX11_copies 1 = .ok (.istore 4, 2) := by decide +kernel
theorem dX11_copies_3 : decode cX11_copies 3 = .ok (.iload 4, 2) := by decide +kernel
theorem dX11_copies_5 : decode cX11_copies 5 = .ok (.iload_n 3, 1) := by decide +kernel
theorem dX11_copies_6 : decode cX11_copies 6 = .ok (.if_icmp .ge 27, 3) := by decide +kernel
theorem dX11_copies_9 : decode cX11_copies 9 = .ok (.aload_n 0, 1) := by decide +kernel
theorem dX11_copies_10 : decode cX11_copies 10 = .ok (.getfield 113, 3) := by decide +kernel
theorem dX11_copies_13 : decode cX11_copies 13 = .ok (.iload_n 2, 1) := by decide +kernel
theorem dX11_copies_14 : decode cX11_copies 14 = .ok (.iload 4, 2) := by decide +kernel
theorem dX11_copies_16 : decode cX11_copies 16 = .ok (.iadd, 1) := by decide +kernel
theorem dX11_copies_17 : decode cX11_copies 17 = .ok (.aload_n 0, 1) := by decide +kernel
theorem dX11_copies_18 : decode cX11_copies 18 = .ok (.getfield 113, 3) := by decide +kernel
theorem dX11_copies_21 : decode cX11_copies 21 = .ok (.iload_n 1, 1) := by decide +kernel
theorem dX11_copies_22 : decode cX11_copies 22 = .ok (.iload 4, 2) := by decide +kernel
theorem dX11_copies_24 : decode cX11_copies 24 = .ok (.iadd, 1) := by decide +kernel
theorem dX11_copies_25 : decode cX11_copies 25 = .ok (.iaload, 1) := by decide +kernel
theorem dX11_copies_26 : decode cX11_copies 26 = .ok (.iastore, 1) := by decide +kernel
theorem dX11_copies_27 : decode cX11_copies 27 = .ok (.iinc 4 1, 3) := by decide +kernel
theorem dX11_copies_30 : decode cX11_copies 30 = .ok (.goto (-27), 3) := by decide +kernel
theorem dX11_copies_33 : decode cX11_copies 33 = .ok (.return_, 1) := by decide +kernel
theorem dX11_starts_0 : decode cX11_starts 0 = .ok (.iconst 0, 1) := by decide +kernel
theorem dX11_starts_1 : decode cX11_starts 1 = .ok (.istore_n 2, 1) := by decide +kernel
theorem dX11_starts_2 : decode cX11_starts 2 = .ok (.iload_n 2, 1) := by decide +kernel
theorem dX11_starts_3 : decode cX11_starts 3 = .ok (.bipush 28, 2) := by decide +kernel
theorem dX11_starts_5 : decode cX11_starts 5 = .ok (.if_icmp .ge 18, 3) := by decide +kernel
theorem dX11_starts_8 : decode cX11_starts 8 = .ok (.aload_n 0, 1) := by decide +kernel
theorem dX11_starts_9 : decode cX11_starts 9 = .ok (.getfield 113, 3) := by decide +kernel
theorem dX11_starts_12 : decode cX11_starts 12 = .ok (.iload_n 1, 1) := by decide +kernel
theorem dX11_starts_13 : decode cX11_starts 13 = .ok (.iload_n 2, 1) := by decide +kernel
theorem dX11_starts_14 : decode cX11_starts 14 = .ok (.iadd, 1) := by decide +kernel
theorem dX11_starts_15 : decode cX11_starts 15 = .ok (.iconst 0, 1) := by decide +kernel
theorem dX11_starts_16 : decode cX11_starts 16 = .ok (.iastore, 1) := by decide +kernel
theorem dX11_starts_17 : decode cX11_starts 17 = .ok (.iinc 2 1, 3) := by decide +kernel
theorem dX11_starts_20 : decode cX11_starts 20 = .ok (.goto (-18), 3) := by decide +kernel
theorem dX11_starts_23 : decode cX11_starts 23 = .ok (.aload_n 0, 1) := by decide +kernel
theorem dX11_starts_24 : decode cX11_starts 24 = .ok (.getfield 113, 3) := by decide +kernel
theorem dX11_starts_27 : decode cX11_starts 27 = .ok (.iload_n 1, 1) := by decide +kernel
theorem dX11_starts_28 : decode cX11_starts 28 = .ok (.iconst 1, 1) := by decide +kernel
theorem dX11_starts_29 : decode cX11_starts 29 = .ok (.iadd, 1) := by decide +kernel
theorem dX11_starts_30 : decode cX11_starts 30 = .ok (.aload_n 0, 1) := by decide +kernel
theorem dX11_starts_31 : decode cX11_starts 31 = .ok (.getfield 89, 3) := by decide +kernel
theorem dX11_starts_34 : decode cX11_starts 34 = .ok (.iconst 1, 1) := by decide +kernel
theorem dX11_starts_35 : decode cX11_starts 35 = .ok (.iaload, 1) := by decide +kernel
theorem dX11_starts_36 : decode cX11_starts 36 = .ok (.iastore, 1) := by decide +kernel
theorem dX11_starts_37 : decode cX11_starts 37 = .ok (.iconst 0, 1) := by decide +kernel
theorem dX11_starts_38 : decode cX11_starts 38 = .ok (.istore_n 2, 1) := by decide +kernel
theorem dX11_starts_39 : decode cX11_starts 39 = .ok (.iload_n 2, 1) := by decide +kernel
theorem dX11_starts_40 : decode cX11_starts 40 = .ok (.aload_n 0, 1) := by decide +kernel
theorem dX11_starts_41 : decode cX11_starts 41 = .ok (.getfield 89, 3) := by decide +kernel
theorem dX11_starts_44 : decode cX11_starts 44 = .ok (.iconst 1, 1) := by decide +kernel
theorem dX11_starts_45 : decode cX11_starts 45 = .ok (.iaload, 1) := by decide +kernel
theorem dX11_starts_46 : decode cX11_starts 46 = .ok (.if_icmp .ge 29, 3) := by decide +kernel
theorem dX11_starts_49 : decode cX11_starts 49 = .ok (.aload_n 0, 1) := by decide +kernel
theorem dX11_starts_50 : decode cX11_starts 50 = .ok (.getfield 113, 3) := by decide +kernel
theorem dX11_starts_53 : decode cX11_starts 53 = .ok (.iload_n 1, 1) := by decide +kernel
theorem dX11_starts_54 : decode cX11_starts 54 = .ok (.bipush 20, 2) := by decide +kernel
theorem dX11_starts_56 : decode cX11_starts 56 = .ok (.iadd, 1) := by decide +kernel
theorem dX11_starts_57 : decode cX11_starts 57 = .ok (.iload_n 2, 1) := by decide +kernel
theorem dX11_starts_58 : decode cX11_starts 58 = .ok (.iadd, 1) := by decide +kernel
theorem dX11_starts_59 : decode cX11_starts 59 = .ok (.aload_n 0, 1) := by decide +kernel
theorem dX11_starts_60 : decode cX11_starts 60 = .ok (.getfield 89, 3) := by decide +kernel
theorem dX11_starts_63 : decode cX11_starts 63 = .ok (.bipush 68, 2) := by decide +kernel
theorem dX11_starts_65 : decode cX11_starts 65 = .ok (.iload_n 2, 1) := by decide +kernel
theorem dX11_starts_66 : decode cX11_starts 66 = .ok (.iadd, 1) := by decide +kernel
theorem dX11_starts_67 : decode cX11_starts 67 = .ok (.iaload, 1) := by decide +kernel
theorem dX11_starts_68 : decode cX11_starts 68 = .ok (.iastore, 1) := by decide +kernel
theorem dX11_starts_69 : decode cX11_starts 69 = .ok (.iinc 2 1, 3) := by decide +kernel
theorem dX11_starts_72 : decode cX11_starts 72 = .ok (.goto (-33), 3) := by decide +kernel
theorem dX11_starts_75 : decode cX11_starts 75 = .ok (.return_, 1) := by decide +kernel
theorem dX11_begins_0 : decode cX11_begins 0 = .ok (.aload_n 0, 1) := by decide +kernel
theorem dX11_begins_1 : decode cX11_begins 1 = .ok (.iconst 0, 1) := by decide +kernel
theorem dX11_begins_2 : decode cX11_begins 2 = .ok (.invokevirtual 282, 3) := by decide +kernel
theorem dX11_begins_5 : decode cX11_begins 5 = .ok (.aload_n 0, 1) := by decide +kernel
theorem dX11_begins_6 : decode cX11_begins 6 = .ok (.getfield 113, 3) := by decide +kernel
theorem dX11_begins_9 : decode cX11_begins 9 = .ok (.bipush 28, 2) := by decide +kernel
theorem dX11_begins_11 : decode cX11_begins 11 = .ok (.iconst 0, 1) := by decide +kernel
theorem dX11_begins_12 : decode cX11_begins 12 = .ok (.iastore, 1) := by decide +kernel
theorem dX11_begins_13 : decode cX11_begins 13 = .ok (.aload_n 0, 1) := by decide +kernel
theorem dX11_begins_14 : decode cX11_begins 14 = .ok (.getfield 104, 3) := by decide +kernel
theorem dX11_begins_17 : decode cX11_begins 17 = .ok (.iconst 0, 1) := by decide +kernel
theorem dX11_begins_18 : decode cX11_begins 18 = .ok (.iconst 0, 1) := by decide +kernel
theorem dX11_begins_19 : decode cX11_begins 19 = .ok (.iastore, 1) := by decide +kernel
theorem dX11_begins_20 : decode cX11_begins 20 = .ok (.aload_n 0, 1) := by decide +kernel
theorem dX11_begins_21 : decode cX11_begins 21 = .ok (.iconst 0, 1) := by decide +kernel
theorem dX11_begins_22 : decode cX11_begins 22 = .ok (.putfield 285, 3) := by decide +kernel
theorem dX11_begins_25 : decode cX11_begins 25 = .ok (.iconst 0, 1) := by decide +kernel
theorem dX11_begins_26 : decode cX11_begins 26 = .ok (.istore_n 1, 1) := by decide +kernel
theorem dX11_begins_27 : decode cX11_begins 27 = .ok (.iload_n 1, 1) := by decide +kernel
theorem dX11_begins_28 : decode cX11_begins 28 = .ok (.iconst 4, 1) := by decide +kernel
theorem dX11_begins_29 : decode cX11_begins 29 = .ok (.if_icmp .ge 16, 3) := by decide +kernel
theorem dX11_begins_32 : decode cX11_begins 32 = .ok (.aload_n 0, 1) := by decide +kernel
theorem dX11_begins_33 : decode cX11_begins 33 = .ok (.getfield 116, 3) := by decide +kernel
theorem dX11_begins_36 : decode cX11_begins 36 = .ok (.iload_n 1, 1) := by decide +kernel
theorem dX11_begins_37 : decode cX11_begins 37 = .ok (.iconst 0, 1) := by decide +kernel
theorem dX11_begins_38 : decode cX11_begins 38 = .ok (.bastore, 1) := by decide +kernel
theorem dX11_begins_39 : decode cX11_begins 39 = .ok (.iinc 1 1, 3) := by decide +kernel
theorem dX11_begins_42 : decode cX11_begins 42 = .ok (.goto (-15), 3) := by decide +kernel
theorem dX11_begins_45 : decode cX11_begins 45 = .ok (.return_, 1) := by decide +kernel
theorem dX11_keeps_0 : decode cX11_keeps 0 = .ok (.aload_n 0, 1) := by decide +kernel
theorem dX11_keeps_1 : decode cX11_keeps 1 = .ok (.getfield 285, 3) := by decide +kernel
theorem dX11_keeps_4 : decode cX11_keeps 4 = .ok (.bipush 16, 2) := by decide +kernel
theorem dX11_keeps_6 : decode cX11_keeps 6 = .ok (.if_icmp .ne 47, 3) := by decide +kernel
theorem dX11_keeps_9 : decode cX11_keeps 9 = .ok (.iconst 1, 1) := by decide +kernel
theorem dX11_keeps_10 : decode cX11_keeps 10 = .ok (.istore_n 1, 1) := by decide +kernel
theorem dX11_keeps_11 : decode cX11_keeps 11 = .ok (.iload_n 1, 1) := by decide +kernel
theorem dX11_keeps_12 : decode cX11_keeps 12 = .ok (.bipush 16, 2) := by decide +kernel
theorem dX11_keeps_14 : decode cX11_keeps 14 = .ok (.if_icmp .ge 29, 3) := by decide +kernel
theorem dX11_keeps_17 : decode cX11_keeps 17 = .ok (.aload_n 0, 1) := by decide +kernel
theorem dX11_keeps_18 : decode cX11_keeps 18 = .ok (.bipush 54, 2) := by decide +kernel
theorem dX11_keeps_20 : decode cX11_keeps 20 = .ok (.iconst 5, 1) := by decide +kernel
theorem dX11_keeps_21 : decode cX11_keeps 21 = .ok (.iload_n 1, 1) := by decide +kernel
theorem dX11_keeps_22 : decode cX11_keeps 22 = .ok (.iadd, 1) := by decide +kernel
theorem dX11_keeps_23 : decode cX11_keeps 23 = .ok (.imul, 1) := by decide +kernel
theorem dX11_keeps_24 : decode cX11_keeps 24 = .ok (.bipush 54, 2) := by decide +kernel
theorem dX11_keeps_26 : decode cX11_keeps 26 = .ok (.iconst 5, 1) := by decide +kernel
theorem dX11_keeps_27 : decode cX11_keeps 27 = .ok (.iload_n 1, 1) := by decide +kernel
theorem dX11_keeps_28 : decode cX11_keeps 28 = .ok (.iadd, 1) := by decide +kernel
theorem dX11_keeps_29 : decode cX11_keeps 29 = .ok (.iconst 1, 1) := by decide +kernel
theorem dX11_keeps_30 : decode cX11_keeps 30 = .ok (.isub, 1) := by decide +kernel
theorem dX11_keeps_31 : decode cX11_keeps 31 = .ok (.imul, 1) := by decide +kernel
theorem dX11_keeps_32 : decode cX11_keeps 32 = .ok (.bipush 28, 2) := by decide +kernel
theorem dX11_keeps_34 : decode cX11_keeps 34 = .ok (.invokevirtual 288, 3) := by decide +kernel
theorem dX11_keeps_37 : decode cX11_keeps 37 = .ok (.iinc 1 1, 3) := by decide +kernel
theorem dX11_keeps_40 : decode cX11_keeps 40 = .ok (.goto (-29), 3) := by decide +kernel
theorem dX11_keeps_43 : decode cX11_keeps 43 = .ok (.aload_n 0, 1) := by decide +kernel
theorem dX11_keeps_44 : decode cX11_keeps 44 = .ok (.dup, 1) := by decide +kernel
theorem dX11_keeps_45 : decode cX11_keeps 45 = .ok (.getfield 285, 3) := by decide +kernel
theorem dX11_keeps_48 : decode cX11_keeps 48 = .ok (.iconst 1, 1) := by decide +kernel
theorem dX11_keeps_49 : decode cX11_keeps 49 = .ok (.isub, 1) := by decide +kernel
theorem dX11_keeps_50 : decode cX11_keeps 50 = .ok (.putfield 285, 3) := by decide +kernel
theorem dX11_keeps_53 : decode cX11_keeps 53 = .ok (.aload_n 0, 1) := by decide +kernel
theorem dX11_keeps_54 : decode cX11_keeps 54 = .ok (.iconst 0, 1) := by decide +kernel
theorem dX11_keeps_55 : decode cX11_keeps 55 = .ok (.bipush 54, 2) := by decide +kernel
theorem dX11_keeps_57 : decode cX11_keeps 57 = .ok (.iconst 5, 1) := by decide +kernel
theorem dX11_keeps_58 : decode cX11_keeps 58 = .ok (.aload_n 0, 1) := by decide +kernel
theorem dX11_keeps_59 : decode cX11_keeps 59 = .ok (.getfield 285, 3) := by decide +kernel
theorem dX11_keeps_62 : decode cX11_keeps 62 = .ok (.iadd, 1) := by decide +kernel
theorem dX11_keeps_63 : decode cX11_keeps 63 = .ok (.imul, 1) := by decide +kernel
theorem dX11_keeps_64 : decode cX11_keeps 64 = .ok (.bipush 28, 2) := by decide +kernel
theorem dX11_keeps_66 : decode cX11_keeps 66 = .ok (.invokevirtual 288, 3) := by decide +kernel
theorem dX11_keeps_69 : decode cX11_keeps 69 = .ok (.aload_n 0, 1) := by decide +kernel
theorem dX11_keeps_70 : decode cX11_keeps 70 = .ok (.dup, 1) := by decide +kernel
theorem dX11_keeps_71 : decode cX11_keeps 71 = .ok (.getfield 285, 3) := by decide +kernel
theorem dX11_keeps_74 : decode cX11_keeps 74 = .ok (.iconst 1, 1) := by decide +kernel
theorem dX11_keeps_75 : decode cX11_keeps 75 = .ok (.iadd, 1) := by decide +kernel
theorem dX11_keeps_76 : decode cX11_keeps 76 = .ok (.putfield 285, 3) := by decide +kernel
theorem dX11_keeps_79 : decode cX11_keeps 79 = .ok (.return_, 1) := by decide +kernel
theorem dX11_cloths_0 : decode cX11_cloths 0 = .ok (.aload_n 0, 1) := by decide +kernel
theorem dX11_cloths_1 : decode cX11_cloths 1 = .ok (.getfield 89, 3) := by decide +kernel
theorem dX11_cloths_4 : decode cX11_cloths 4 = .ok (.iconst 0, 1) := by decide +kernel
theorem dX11_cloths_5 : decode cX11_cloths 5 = .ok (.iaload, 1) := by decide +kernel
theorem dX11_cloths_6 : decode cX11_cloths 6 = .ok (.ireturn, 1) := by decide +kernel
theorem dX11_clothOf_0 : decode cX11_clothOf 0 = .ok (.aload_n 0, 1) := by decide +kernel
theorem dX11_clothOf_1 : decode cX11_clothOf 1 = .ok (.getfield 89, 3) := by decide +kernel
theorem dX11_clothOf_4 : decode cX11_clothOf 4 = .ok (.bipush 8, 2) := by decide +kernel
theorem dX11_clothOf_6 : decode cX11_clothOf 6 = .ok (.iconst 4, 1) := by decide +kernel
theorem dX11_clothOf_7 : decode cX11_clothOf 7 = .ok (.iload_n 1, 1) := by decide +kernel
theorem dX11_clothOf_8 : decode cX11_clothOf 8 = .ok (.imul, 1) := by decide +kernel
theorem dX11_clothOf_9 : decode cX11_clothOf 9 = .ok (.iadd, 1) := by decide +kernel
theorem dX11_clothOf_10 : decode cX11_clothOf 10 = .ok (.iload_n 2, 1) := by decide +kernel
theorem dX11_clothOf_11 : decode cX11_clothOf 11 = .ok (.iadd, 1) := by decide +kernel
theorem dX11_clothOf_12 : decode cX11_clothOf 12 = .ok (.iaload, 1) := by decide +kernel
theorem dX11_clothOf_13 : decode cX11_clothOf 13 = .ok (.ireturn, 1) := by decide +kernel
theorem dX11_isCloth_0 : decode cX11_isCloth 0 = .ok (.iload_n 1, 1) := by decide +kernel
theorem dX11_isCloth_1 : decode cX11_isCloth 1 = .ok (.ifCond .lt 15, 3) := by decide +kernel
theorem dX11_isCloth_4 : decode cX11_isCloth 4 = .ok (.iload_n 1, 1) := by decide +kernel
theorem dX11_isCloth_5 : decode cX11_isCloth 5 = .ok (.aload_n 0, 1) := by decide +kernel
theorem dX11_isCloth_6 : decode cX11_isCloth 6 = .ok (.invokevirtual 292, 3) := by decide +kernel
theorem dX11_isCloth_9 : decode cX11_isCloth 9 = .ok (.if_icmp .ge 7, 3) := by decide +kernel
theorem dX11_isCloth_12 : decode cX11_isCloth 12 = .ok (.iconst 1, 1) := by decide +kernel
theorem dX11_isCloth_13 : decode cX11_isCloth 13 = .ok (.goto 4, 3) := by decide +kernel
theorem dX11_isCloth_16 : decode cX11_isCloth 16 = .ok (.iconst 0, 1) := by decide +kernel
theorem dX11_isCloth_17 : decode cX11_isCloth 17 = .ok (.ireturn, 1) := by decide +kernel
theorem dX11_bits_0 : decode cX11_bits 0 = .ok (.iconst 0, 1) := by decide +kernel
theorem dX11_bits_1 : decode cX11_bits 1 = .ok (.istore_n 1, 1) := by decide +kernel
theorem dX11_bits_2 : decode cX11_bits 2 = .ok (.iconst 0, 1) := by decide +kernel
theorem dX11_bits_3 : decode cX11_bits 3 = .ok (.istore_n 2, 1) := by decide +kernel
theorem dX11_bits_4 : decode cX11_bits 4 = .ok (.iload_n 2, 1) := by decide +kernel
theorem dX11_bits_5 : decode cX11_bits 5 = .ok (.bipush 30, 2) := by decide +kernel
theorem dX11_bits_7 : decode cX11_bits 7 = .ok (.if_icmp .ge 17, 3) := by decide +kernel
theorem dX11_bits_10 : decode cX11_bits 10 = .ok (.iload_n 1, 1) := by decide +kernel
theorem dX11_bits_11 : decode cX11_bits 11 = .ok (.iload_n 0, 1) := by decide +kernel
theorem dX11_bits_12 : decode cX11_bits 12 = .ok (.iload_n 2, 1) := by decide +kernel
theorem dX11_bits_13 : decode cX11_bits 13 = .ok (.ishr, 1) := by decide +kernel
theorem dX11_bits_14 : decode cX11_bits 14 = .ok (.iconst 1, 1) := by decide +kernel
theorem dX11_bits_15 : decode cX11_bits 15 = .ok (.iand, 1) := by decide +kernel
theorem dX11_bits_16 : decode cX11_bits 16 = .ok (.iadd, 1) := by decide +kernel
theorem dX11_bits_17 : decode cX11_bits 17 = .ok (.istore_n 1, 1) := by decide +kernel
theorem dX11_bits_18 : decode cX11_bits 18 = .ok (.iinc 2 1, 3) := by decide +kernel
theorem dX11_bits_21 : decode cX11_bits 21 = .ok (.goto (-17), 3) := by decide +kernel
theorem dX11_bits_24 : decode cX11_bits 24 = .ok (.iload_n 1, 1) := by decide +kernel
theorem dX11_bits_25 : decode cX11_bits 25 = .ok (.ireturn, 1) := by decide +kernel
theorem dX11_needs_0 : decode cX11_needs 0 = .ok (.aload_n 0, 1) := by decide +kernel
theorem dX11_needs_1 : decode cX11_needs 1 = .ok (.iload_n 1, 1) := by decide +kernel
theorem dX11_needs_2 : decode cX11_needs 2 = .ok (.iconst 0, 1) := by decide +kernel
theorem dX11_needs_3 : decode cX11_needs 3 = .ok (.invokevirtual 295, 3) := by decide +kernel
theorem dX11_needs_6 : decode cX11_needs 6 = .ok (.iconst 1, 1) := by decide +kernel
theorem dX11_needs_7 : decode cX11_needs 7 = .ok (.if_icmp .ne 7, 3) := by decide +kernel
theorem dX11_needs_10 : decode cX11_needs 10 = .ok (.iconst 4, 1) := by decide +kernel
theorem dX11_needs_11 : decode cX11_needs 11 = .ok (.goto 4, 3) := by decide +kernel
theorem dX11_needs_14 : decode cX11_needs 14 = .ok (.iconst 2, 1) := by decide +kernel
theorem dX11_needs_15 : decode cX11_needs 15 = .ok (.ireturn, 1) := by decide +kernel
theorem dX11_isHung_0 : decode cX11_isHung 0 = .ok (.aload_n 0, 1) := by decide +kernel
theorem dX11_isHung_1 : decode cX11_isHung 1 = .ok (.getfield 113, 3) := by decide +kernel
theorem dX11_isHung_4 : decode cX11_isHung 4 = .ok (.iload_n 1, 1) := by decide +kernel
theorem dX11_isHung_5 : decode cX11_isHung 5 = .ok (.bipush 14, 2) := by decide +kernel
theorem dX11_isHung_7 : decode cX11_isHung 7 = .ok (.iadd, 1) := by decide +kernel
theorem dX11_isHung_8 : decode cX11_isHung 8 = .ok (.iload_n 2, 1) := by decide +kernel
theorem dX11_isHung_9 : decode cX11_isHung 9 = .ok (.iadd, 1) := by decide +kernel
theorem dX11_isHung_10 : decode cX11_isHung 10 = .ok (.iaload, 1) := by decide +kernel
theorem dX11_isHung_11 : decode cX11_isHung 11 = .ok (.ifCond .eq 7, 3) := by decide +kernel
theorem dX11_isHung_14 : decode cX11_isHung 14 = .ok (.iconst 1, 1) := by decide +kernel
theorem dX11_isHung_15 : decode cX11_isHung 15 = .ok (.goto 4, 3) := by decide +kernel
theorem dX11_isHung_18 : decode cX11_isHung 18 = .ok (.iconst 0, 1) := by decide +kernel
theorem dX11_isHung_19 : decode cX11_isHung 19 = .ok (.ireturn, 1) := by decide +kernel
theorem dX11_isLaw_0 : decode cX11_isLaw 0 = .ok (.aload_n 0, 1) := by decide +kernel
theorem dX11_isLaw_1 : decode cX11_isLaw 1 = .ok (.getfield 113, 3) := by decide +kernel
theorem dX11_isLaw_4 : decode cX11_isLaw 4 = .ok (.iload_n 1, 1) := by decide +kernel
theorem dX11_isLaw_5 : decode cX11_isLaw 5 = .ok (.bipush 14, 2) := by decide +kernel
theorem dX11_isLaw_7 : decode cX11_isLaw 7 = .ok (.iadd, 1) := by decide +kernel
theorem dX11_isLaw_8 : decode cX11_isLaw 8 = .ok (.iload_n 2, 1) := by decide +kernel
theorem dX11_isLaw_9 : decode cX11_isLaw 9 = .ok (.iadd, 1) := by decide +kernel
theorem dX11_isLaw_10 : decode cX11_isLaw 10 = .ok (.iaload, 1) := by decide +kernel
theorem dX11_isLaw_11 : decode cX11_isLaw 11 = .ok (.invokestatic 298, 3) := by decide +kernel
theorem dX11_isLaw_14 : decode cX11_isLaw 14 = .ok (.aload_n 0, 1) := by decide +kernel
theorem dX11_isLaw_15 : decode cX11_isLaw 15 = .ok (.iload_n 2, 1) := by decide +kernel
theorem dX11_isLaw_16 : decode cX11_isLaw 16 = .ok (.invokevirtual 301, 3) := by decide +kernel
theorem dX11_isLaw_19 : decode cX11_isLaw 19 = .ok (.if_icmp .ne 22, 3) := by decide +kernel
theorem dX11_isLaw_22 : decode cX11_isLaw 22 = .ok (.aload_n 0, 1) := by decide +kernel
theorem dX11_isLaw_23 : decode cX11_isLaw 23 = .ok (.getfield 113, 3) := by decide +kernel
theorem dX11_isLaw_26 : decode cX11_isLaw 26 = .ok (.iload_n 1, 1) := by decide +kernel
theorem dX11_isLaw_27 : decode cX11_isLaw 27 = .ok (.bipush 8, 2) := by decide +kernel
theorem dX11_isLaw_29 : decode cX11_isLaw 29 = .ok (.iadd, 1) := by decide +kernel
theorem dX11_isLaw_30 : decode cX11_isLaw 30 = .ok (.iload_n 2, 1) := by decide +kernel
theorem dX11_isLaw_31 : decode cX11_isLaw 31 = .ok (.iadd, 1) := by decide +kernel
theorem dX11_isLaw_32 : decode cX11_isLaw 32 = .ok (.iaload, 1) := by decide +kernel
theorem dX11_isLaw_33 : decode cX11_isLaw 33 = .ok (.iconst 3, 1) := by decide +kernel
theorem dX11_isLaw_34 : decode cX11_isLaw 34 = .ok (.if_icmp .ge 7, 3) := by decide +kernel
theorem dX11_isLaw_37 : decode cX11_isLaw 37 = .ok (.iconst 1, 1) := by decide +kernel
theorem dX11_isLaw_38 : decode cX11_isLaw 38 = .ok (.goto 4, 3) := by decide +kernel
theorem dX11_isLaw_41 : decode cX11_isLaw 41 = .ok (.iconst 0, 1) := by decide +kernel
theorem dX11_isLaw_42 : decode cX11_isLaw 42 = .ok (.ireturn, 1) := by decide +kernel
theorem dX11_isTurned_0 : decode cX11_isTurned 0 = .ok (.aload_n 0, 1) := by decide +kernel
theorem dX11_isTurned_1 : decode cX11_isTurned 1 = .ok (.getfield 113, 3) := by decide +kernel
theorem dX11_isTurned_4 : decode cX11_isTurned 4 = .ok (.iload_n 1, 1) := by decide +kernel
theorem dX11_isTurned_5 : decode cX11_isTurned 5 = .ok (.bipush 14, 2) := by decide +kernel
theorem dX11_isTurned_7 : decode cX11_isTurned 7 = .ok (.iadd, 1) := by decide +kernel
theorem dX11_isTurned_8 : decode cX11_isTurned 8 = .ok (.iload_n 2, 1) := by decide +kernel
theorem dX11_isTurned_9 : decode cX11_isTurned 9 = .ok (.iadd, 1) := by decide +kernel
theorem dX11_isTurned_10 : decode cX11_isTurned 10 = .ok (.iaload, 1) := by decide +kernel
theorem dX11_isTurned_11 : decode cX11_isTurned 11 = .ok (.invokestatic 298, 3) := by decide +kernel
theorem dX11_isTurned_14 : decode cX11_isTurned 14 = .ok (.iconst 1, 1) := by decide +kernel
theorem dX11_isTurned_15 : decode cX11_isTurned 15 = .ok (.if_icmp .ne 7, 3) := by decide +kernel
theorem dX11_isTurned_18 : decode cX11_isTurned 18 = .ok (.iconst 1, 1) := by decide +kernel
theorem dX11_isTurned_19 : decode cX11_isTurned 19 = .ok (.goto 4, 3) := by decide +kernel
theorem dX11_isTurned_22 : decode cX11_isTurned 22 = .ok (.iconst 0, 1) := by decide +kernel
theorem dX11_isTurned_23 : decode cX11_isTurned 23 = .ok (.ireturn, 1) := by decide +kernel
theorem dX11_roomBy_0 : decode cX11_roomBy 0 = .ok (.iload_n 2, 1) := by decide +kernel
theorem dX11_roomBy_1 : decode cX11_roomBy 1 = .ok (.iconst 1, 1) := by decide +kernel
theorem dX11_roomBy_2 : decode cX11_roomBy 2 = .ok (.if_icmp .ne 16, 3) := by decide +kernel
theorem dX11_roomBy_5 : decode cX11_roomBy 5 = .ok (.aload_n 0, 1) := by decide +kernel
theorem dX11_roomBy_6 : decode cX11_roomBy 6 = .ok (.iload_n 1, 1) := by decide +kernel
theorem dX11_roomBy_7 : decode cX11_roomBy 7 = .ok (.iconst 1, 1) := by decide +kernel
theorem dX11_roomBy_8 : decode cX11_roomBy 8 = .ok (.invokevirtual 295, 3) := by decide +kernel
theorem dX11_roomBy_11 : decode cX11_roomBy 11 = .ok (.iconst 2, 1) := by decide +kernel
theorem dX11_roomBy_12 : decode cX11_roomBy 12 = .ok (.idiv, 1) := by decide +kernel
theorem dX11_roomBy_13 : decode cX11_roomBy 13 = .ok (.iconst 1, 1) := by decide +kernel
theorem dX11_roomBy_14 : decode cX11_roomBy 14 = .ok (.iadd, 1) := by decide +kernel
theorem dX11_roomBy_15 : decode cX11_roomBy 15 = .ok (.goto 9, 3) := by decide +kernel
theorem dX11_roomBy_18 : decode cX11_roomBy 18 = .ok (.aload_n 0, 1) := by decide +kernel
theorem dX11_roomBy_19 : decode cX11_roomBy 19 = .ok (.iload_n 1, 1) := by decide +kernel
theorem dX11_roomBy_20 : decode cX11_roomBy 20 = .ok (.iconst 1, 1) := by decide +kernel
theorem dX11_roomBy_21 : decode cX11_roomBy 21 = .ok (.invokevirtual 295, 3) := by decide +kernel
theorem dX11_roomBy_24 : decode cX11_roomBy 24 = .ok (.ireturn, 1) := by decide +kernel
theorem dX11_roomLeft_0 : decode cX11_roomLeft 0 = .ok (.aload_n 0, 1) := by decide +kernel
theorem dX11_roomLeft_1 : decode cX11_roomLeft 1 = .ok (.getfield 89, 3) := by decide +kernel
theorem dX11_roomLeft_4 : decode cX11_roomLeft 4 = .ok (.iconst 3, 1) := by decide +kernel
theorem dX11_roomLeft_5 : decode cX11_roomLeft 5 = .ok (.iaload, 1) := by decide +kernel
theorem dX11_roomLeft_6 : decode cX11_roomLeft 6 = .ok (.istore_n 2, 1) := by decide +kernel
theorem dX11_roomLeft_7 : decode cX11_roomLeft 7 = .ok (.iconst 0, 1) := by decide +kernel
theorem dX11_roomLeft_8 : decode cX11_roomLeft 8 = .ok (.istore_n 3, 1) := by decide +kernel
theorem dX11_roomLeft_9 : decode cX11_roomLeft 9 = .ok (.iload_n 3, 1) := by decide +kernel
theorem dX11_roomLeft_10 : decode cX11_roomLeft 10 = .ok (.aload_n 0, 1) := by decide +kernel
theorem dX11_roomLeft_11 : decode cX11_roomLeft 11 = .ok (.invokevirtual 292, 3) := by decide +kernel
theorem dX11_roomLeft_14 : decode cX11_roomLeft 14 = .ok (.if_icmp .ge 44, 3) := by decide +kernel
theorem dX11_roomLeft_17 : decode cX11_roomLeft 17 = .ok (.iload_n 2, 1) := by decide +kernel
theorem dX11_roomLeft_18 : decode cX11_roomLeft 18 = .ok (.aload_n 0, 1) := by decide +kernel
theorem dX11_roomLeft_19 : decode cX11_roomLeft 19 = .ok (.iload_n 1, 1) := by decide +kernel
theorem dX11_roomLeft_20 : decode cX11_roomLeft 20 = .ok (.iload_n 3, 1) := by decide +kernel
theorem dX11_roomLeft_21 : decode cX11_roomLeft 21 = .ok (.invokevirtual 304, 3) := by decide +kernel
theorem dX11_roomLeft_24 : decode cX11_roomLeft 24 = .ok (.ifCond .eq 25, 3) := by decide +kernel
theorem dX11_roomLeft_27 : decode cX11_roomLeft 27 = .ok (.aload_n 0, 1) := by decide +kernel
theorem dX11_roomLeft_28 : decode cX11_roomLeft 28 = .ok (.iload_n 3, 1) := by decide +kernel
theorem dX11_roomLeft_29 : decode cX11_roomLeft 29 = .ok (.aload_n 0, 1) := by decide +kernel
theorem dX11_roomLeft_30 : decode cX11_roomLeft 30 = .ok (.getfield 113, 3) := by decide +kernel
theorem dX11_roomLeft_33 : decode cX11_roomLeft 33 = .ok (.iload_n 1, 1) := by decide +kernel
theorem dX11_roomLeft_34 : decode cX11_roomLeft 34 = .ok (.bipush 14, 2) := by decide +kernel
theorem dX11_roomLeft_36 : decode cX11_roomLeft 36 = .ok (.iadd, 1) := by decide +kernel
theorem dX11_roomLeft_37 : decode cX11_roomLeft 37 = .ok (.iload_n 3, 1) := by decide +kernel
theorem dX11_roomLeft_38 : decode cX11_roomLeft 38 = .ok (.iadd, 1) := by decide +kernel
theorem dX11_roomLeft_39 : decode cX11_roomLeft 39 = .ok (.iaload, 1) := by decide +kernel
theorem dX11_roomLeft_40 : decode cX11_roomLeft 40 = .ok (.invokestatic 298, 3) := by decide +kernel
theorem dX11_roomLeft_43 : decode cX11_roomLeft 43 = .ok (.invokevirtual 308, 3) := by decide +kernel
theorem dX11_roomLeft_46 : decode cX11_roomLeft 46 = .ok (.goto 4, 3) := by decide +kernel
theorem dX11_roomLeft_49 : decode cX11_roomLeft 49 = .ok (.iconst 0, 1) := by decide +kernel
theorem dX11_roomLeft_50 : decode cX11_roomLeft 50 = .ok (.isub, 1) := by decide +kernel
theorem dX11_roomLeft_51 : decode cX11_roomLeft 51 = .ok (.istore_n 2, 1) := by decide +kernel
theorem dX11_roomLeft_52 : decode cX11_roomLeft 52 = .ok (.iinc 3 1, 3) := by decide +kernel
theorem dX11_roomLeft_55 : decode cX11_roomLeft 55 = .ok (.goto (-46), 3) := by decide +kernel
theorem dX11_roomLeft_58 : decode cX11_roomLeft 58 = .ok (.iload_n 2, 1) := by decide +kernel
theorem dX11_roomLeft_59 : decode cX11_roomLeft 59 = .ok (.ireturn, 1) := by decide +kernel
theorem dX11_windOf_0 : decode cX11_windOf 0 = .ok (.aload_n 0, 1) := by decide +kernel
theorem dX11_windOf_1 : decode cX11_windOf 1 = .ok (.getfield 89, 3) := by decide +kernel
theorem dX11_windOf_4 : decode cX11_windOf 4 = .ok (.bipush 76, 2) := by decide +kernel
theorem dX11_windOf_6 : decode cX11_windOf 6 = .ok (.iload_n 1, 1) := by decide +kernel
theorem dX11_windOf_7 : decode cX11_windOf 7 = .ok (.aload_n 0, 1) := by decide +kernel
theorem dX11_windOf_8 : decode cX11_windOf 8 = .ok (.getfield 89, 3) := by decide +kernel
theorem dX11_windOf_11 : decode cX11_windOf 11 = .ok (.iconst 2, 1) := by decide +kernel
theorem dX11_windOf_12 : decode cX11_windOf 12 = .ok (.iaload, 1) := by decide +kernel
theorem dX11_windOf_13 : decode cX11_windOf 13 = .ok (.irem, 1) := by decide +kernel
theorem dX11_windOf_14 : decode cX11_windOf 14 = .ok (.iadd, 1) := by decide +kernel
theorem dX11_windOf_15 : decode cX11_windOf 15 = .ok (.iaload, 1) := by decide +kernel
theorem dX11_windOf_16 : decode cX11_windOf 16 = .ok (.iload_n 2, 1) := by decide +kernel
theorem dX11_windOf_17 : decode cX11_windOf 17 = .ok (.ifCond .eq 7, 3) := by decide +kernel
theorem dX11_windOf_20 : decode cX11_windOf 20 = .ok (.iconst 3, 1) := by decide +kernel
theorem dX11_windOf_21 : decode cX11_windOf 21 = .ok (.goto 4, 3) := by decide +kernel
theorem dX11_windOf_24 : decode cX11_windOf 24 = .ok (.iconst 0, 1) := by decide +kernel
theorem dX11_windOf_25 : decode cX11_windOf 25 = .ok (.iadd, 1) := by decide +kernel
theorem dX11_windOf_26 : decode cX11_windOf 26 = .ok (.ireturn, 1) := by decide +kernel
theorem dX11_laysFacts_0 : decode cX11_laysFacts 0 = .ok (.aload_n 0, 1) := by decide +kernel
theorem dX11_laysFacts_1 : decode cX11_laysFacts 1 = .ok (.getfield 107, 3) := by decide +kernel
theorem dX11_laysFacts_4 : decode cX11_laysFacts 4 = .ok (.iconst 0, 1) := by decide +kernel
theorem dX11_laysFacts_5 : decode cX11_laysFacts 5 = .ok (.iload_n 3, 1) := by decide +kernel
theorem dX11_laysFacts_6 : decode cX11_laysFacts 6 = .ok (.iastore, 1) := by decide +kernel
theorem dX11_laysFacts_7 : decode cX11_laysFacts 7 = .ok (.aload_n 0, 1) := by decide +kernel
theorem dX11_laysFacts_8 : decode cX11_laysFacts 8 = .ok (.getfield 107, 3) := by decide +kernel
theorem dX11_laysFacts_11 : decode cX11_laysFacts 11 = .ok (.iconst 1, 1) := by decide +kernel
theorem dX11_laysFacts_12 : decode cX11_laysFacts 12 = .ok (.aload_n 0, 1) := by decide +kernel
theorem dX11_laysFacts_13 : decode cX11_laysFacts 13 = .ok (.iload_n 1, 1) := by decide +kernel
theorem dX11_laysFacts_14 : decode cX11_laysFacts 14 = .ok (.iconst 2, 1) := by decide +kernel
theorem dX11_laysFacts_15 : decode cX11_laysFacts 15 = .ok (.invokevirtual 295, 3) := by decide +kernel
theorem dX11_laysFacts_18 : decode cX11_laysFacts 18 = .ok (.aload_n 0, 1) := by decide +kernel
theorem dX11_laysFacts_19 : decode cX11_laysFacts 19 = .ok (.iload_n 1, 1) := by decide +kernel
theorem dX11_laysFacts_20 : decode cX11_laysFacts 20 = .ok (.iconst 0, 1) := by decide +kernel
theorem dX11_laysFacts_21 : decode cX11_laysFacts 21 = .ok (.invokevirtual 295, 3) := by decide +kernel
theorem dX11_laysFacts_24 : decode cX11_laysFacts 24 = .ok (.iconst 3, 1) := by decide +kernel
theorem dX11_laysFacts_25 : decode cX11_laysFacts 25 = .ok (.if_icmp .ne 9, 3) := by decide +kernel
theorem dX11_laysFacts_28 : decode cX11_laysFacts 28 = .ok (.iconst 2, 1) := by decide +kernel
theorem dX11_laysFacts_29 : decode cX11_laysFacts 29 = .ok (.iload_n 2, 1) := by decide +kernel
theorem dX11_laysFacts_30 : decode cX11_laysFacts 30 = .ok (.imul, 1) := by decide +kernel
theorem dX11_laysFacts_31 : decode cX11_laysFacts 31 = .ok (.goto 4, 3) := by decide +kernel
theorem dX11_laysFacts_34 : decode cX11_laysFacts 34 = .ok (.iload_n 2, 1) := by decide +kernel
theorem dX11_laysFacts_35 : decode cX11_laysFacts 35 = .ok (.iadd, 1) := by decide +kernel
theorem dX11_laysFacts_36 : decode cX11_laysFacts 36 = .ok (.iastore, 1) := by decide +kernel
theorem dX11_laysFacts_37 : decode cX11_laysFacts 37 = .ok (.aload_n 0, 1) := by decide +kernel
theorem dX11_laysFacts_38 : decode cX11_laysFacts 38 = .ok (.getfield 107, 3) := by decide +kernel
theorem dX11_laysFacts_41 : decode cX11_laysFacts 41 = .ok (.iconst 2, 1) := by decide +kernel
theorem dX11_laysFacts_42 : decode cX11_laysFacts 42 = .ok (.aload_n 0, 1) := by decide +kernel
theorem dX11_laysFacts_43 : decode cX11_laysFacts 43 = .ok (.iload_n 1, 1) := by decide +kernel
theorem dX11_laysFacts_44 : decode cX11_laysFacts 44 = .ok (.iconst 1, 1) := by decide +kernel
theorem dX11_laysFacts_45 : decode cX11_laysFacts 45 = .ok (.invokevirtual 295, 3) := by decide +kernel
theorem dX11_laysFacts_48 : decode cX11_laysFacts 48 = .ok (.iastore, 1) := by decide +kernel
theorem dX11_laysFacts_49 : decode cX11_laysFacts 49 = .ok (.return_, 1) := by decide +kernel
theorem dX11_pullOf_0 : decode cX11_pullOf 0 = .ok (.aload_n 0, 1) := by decide +kernel
theorem dX11_pullOf_1 : decode cX11_pullOf 1 = .ok (.iload_n 1, 1) := by decide +kernel
theorem dX11_pullOf_2 : decode cX11_pullOf 2 = .ok (.iload_n 2, 1) := by decide +kernel
theorem dX11_pullOf_3 : decode cX11_pullOf 3 = .ok (.iload_n 3, 1) := by decide +kernel
theorem dX11_pullOf_4 : decode cX11_pullOf 4 = .ok (.invokevirtual 311, 3) := by decide +kernel
theorem dX11_pullOf_7 : decode cX11_pullOf 7 = .ok (.aload_n 0, 1) := by decide +kernel
theorem dX11_pullOf_8 : decode cX11_pullOf 8 = .ok (.getfield 89, 3) := by decide +kernel
theorem dX11_pullOf_11 : decode cX11_pullOf 11 = .ok (.bipush 6, 2) := by decide +kernel
theorem dX11_pullOf_13 : decode cX11_pullOf 13 = .ok (.iaload, 1) := by decide +kernel
theorem dX11_pullOf_14 : decode cX11_pullOf 14 = .ok (.ifCond .ge 26, 3) := by decide +kernel
theorem dX11_pullOf_17 : decode cX11_pullOf 17 = .ok (.aload_n 0, 1) := by decide +kernel
theorem dX11_pullOf_18 : decode cX11_pullOf 18 = .ok (.getfield 107, 3) := by decide +kernel
theorem dX11_pullOf_21 : decode cX11_pullOf 21 = .ok (.iconst 0, 1) := by decide +kernel
theorem dX11_pullOf_22 : decode cX11_pullOf 22 = .ok (.iaload, 1) := by decide +kernel
theorem dX11_pullOf_23 : decode cX11_pullOf 23 = .ok (.aload_n 0, 1) := by decide +kernel
theorem dX11_pullOf_24 : decode cX11_pullOf 24 = .ok (.getfield 107, 3) := by decide +kernel
theorem dX11_pullOf_27 : decode cX11_pullOf 27 = .ok (.iconst 2, 1) := by decide +kernel
theorem dX11_pullOf_28 : decode cX11_pullOf 28 = .ok (.iaload, 1) := by decide +kernel
theorem dX11_pullOf_29 : decode cX11_pullOf 29 = .ok (.iadd, 1) := by decide +kernel
theorem dX11_pullOf_30 : decode cX11_pullOf 30 = .ok (.aload_n 0, 1) := by decide +kernel
theorem dX11_pullOf_31 : decode cX11_pullOf 31 = .ok (.getfield 107, 3) := by decide +kernel
theorem dX11_pullOf_34 : decode cX11_pullOf 34 = .ok (.iconst 1, 1) := by decide +kernel
theorem dX11_pullOf_35 : decode cX11_pullOf 35 = .ok (.iaload, 1) := by decide +kernel
theorem dX11_pullOf_36 : decode cX11_pullOf 36 = .ok (.isub, 1) := by decide +kernel
theorem dX11_pullOf_37 : decode cX11_pullOf 37 = .ok (.goto 14, 3) := by decide +kernel
theorem dX11_pullOf_40 : decode cX11_pullOf 40 = .ok (.aload_n 0, 1) := by decide +kernel
theorem dX11_pullOf_41 : decode cX11_pullOf 41 = .ok (.aload_n 0, 1) := by decide +kernel
theorem dX11_pullOf_42 : decode cX11_pullOf 42 = .ok (.getfield 89, 3) := by decide +kernel
theorem dX11_pullOf_45 : decode cX11_pullOf 45 = .ok (.bipush 6, 2) := by decide +kernel
theorem dX11_pullOf_47 : decode cX11_pullOf 47 = .ok (.iaload, 1) := by decide +kernel
theorem dX11_pullOf_48 : decode cX11_pullOf 48 = .ok (.invokevirtual 314, 3) := by decide +kernel
theorem dX11_pullOf_51 : decode cX11_pullOf 51 = .ok (.istore 4, 2) := by decide +kernel
theorem dX11_pullOf_53 : decode cX11_pullOf 53 = .ok (.iload 4, 2) := by decide +kernel
theorem dX11_pullOf_55 : decode cX11_pullOf 55 = .ok (.ifCond .ge 7, 3) := by decide +kernel
theorem dX11_pullOf_58 : decode cX11_pullOf 58 = .ok (.iconst 0, 1) := by decide +kernel
theorem dX11_pullOf_59 : decode cX11_pullOf 59 = .ok (.goto 17, 3) := by decide +kernel
theorem dX11_pullOf_62 : decode cX11_pullOf 62 = .ok (.iload 4, 2) := by decide +kernel
theorem dX11_pullOf_64 : decode cX11_pullOf 64 = .ok (.bipush 99, 2) := by decide +kernel
theorem dX11_pullOf_66 : decode cX11_pullOf 66 = .ok (.if_icmp .le 8, 3) := by decide +kernel
theorem dX11_pullOf_69 : decode cX11_pullOf 69 = .ok (.bipush 99, 2) := by decide +kernel
theorem dX11_pullOf_71 : decode cX11_pullOf 71 = .ok (.goto 5, 3) := by decide +kernel
theorem dX11_pullOf_74 : decode cX11_pullOf 74 = .ok (.iload 4, 2) := by decide +kernel
theorem dX11_pullOf_76 : decode cX11_pullOf 76 = .ok (.istore 4, 2) := by decide +kernel
theorem dX11_pullOf_78 : decode cX11_pullOf 78 = .ok (.aload_n 0, 1) := by decide +kernel
theorem dX11_pullOf_79 : decode cX11_pullOf 79 = .ok (.iload_n 1, 1) := by decide +kernel
theorem dX11_pullOf_80 : decode cX11_pullOf 80 = .ok (.iconst 0, 1) := by decide +kernel
theorem dX11_pullOf_81 : decode cX11_pullOf 81 = .ok (.invokevirtual 295, 3) := by decide +kernel
theorem dX11_pullOf_84 : decode cX11_pullOf 84 = .ok (.iconst 2, 1) := by decide +kernel
theorem dX11_pullOf_85 : decode cX11_pullOf 85 = .ok (.if_icmp .ne 10, 3) := by decide +kernel
theorem dX11_pullOf_88 : decode cX11_pullOf 88 = .ok (.iconst 2, 1) := by decide +kernel
theorem dX11_pullOf_89 : decode cX11_pullOf 89 = .ok (.iload 4, 2) := by decide +kernel
theorem dX11_pullOf_91 : decode cX11_pullOf 91 = .ok (.imul, 1) := by decide +kernel
theorem dX11_pullOf_92 : decode cX11_pullOf 92 = .ok (.goto 5, 3) := by decide +kernel
theorem dX11_pullOf_95 : decode cX11_pullOf 95 = .ok (.iload 4, 2) := by decide +kernel
theorem dX11_pullOf_97 : decode cX11_pullOf 97 = .ok (.ireturn, 1) := by decide +kernel
theorem dX11_driedOf_0 : decode cX11_driedOf 0 = .ok (.aload_n 0, 1) := by decide +kernel
theorem dX11_driedOf_1 : decode cX11_driedOf 1 = .ok (.iload_n 1, 1) := by decide +kernel
theorem dX11_driedOf_2 : decode cX11_driedOf 2 = .ok (.iload_n 2, 1) := by decide +kernel
theorem dX11_driedOf_3 : decode cX11_driedOf 3 = .ok (.iload_n 3, 1) := by decide +kernel
theorem dX11_driedOf_4 : decode cX11_driedOf 4 = .ok (.invokevirtual 311, 3) := by decide +kernel
theorem dX11_driedOf_7 : decode cX11_driedOf 7 = .ok (.aload_n 0, 1) := by decide +kernel
theorem dX11_driedOf_8 : decode cX11_driedOf 8 = .ok (.getfield 89, 3) := by decide +kernel
theorem dX11_driedOf_11 : decode cX11_driedOf 11 = .ok (.bipush 7, 2) := by decide +kernel
theorem dX11_driedOf_13 : decode cX11_driedOf 13 = .ok (.iaload, 1) := by decide +kernel
theorem dX11_driedOf_14 : decode cX11_driedOf 14 = .ok (.ifCond .ge 12, 3) := by decide +kernel
theorem dX11_driedOf_17 : decode cX11_driedOf 17 = .ok (.aload_n 0, 1) := by decide +kernel
theorem dX11_driedOf_18 : decode cX11_driedOf 18 = .ok (.getfield 107, 3) := by decide +kernel
theorem dX11_driedOf_21 : decode cX11_driedOf 21 = .ok (.iconst 0, 1) := by decide +kernel
theorem dX11_driedOf_22 : decode cX11_driedOf 22 = .ok (.iaload, 1) := by decide +kernel
theorem dX11_driedOf_23 : decode cX11_driedOf 23 = .ok (.goto 14, 3) := by decide +kernel
theorem dX11_driedOf_26 : decode cX11_driedOf 26 = .ok (.aload_n 0, 1) := by decide +kernel
theorem dX11_driedOf_27 : decode cX11_driedOf 27 = .ok (.aload_n 0, 1) := by decide +kernel
theorem dX11_driedOf_28 : decode cX11_driedOf 28 = .ok (.getfield 89, 3) := by decide +kernel
theorem dX11_driedOf_31 : decode cX11_driedOf 31 = .ok (.bipush 7, 2) := by decide +kernel
theorem dX11_driedOf_33 : decode cX11_driedOf 33 = .ok (.iaload, 1) := by decide +kernel
theorem dX11_driedOf_34 : decode cX11_driedOf 34 = .ok (.invokevirtual 314, 3) := by decide +kernel
theorem dX11_driedOf_37 : decode cX11_driedOf 37 = .ok (.istore 4, 2) := by decide +kernel
theorem dX11_driedOf_39 : decode cX11_driedOf 39 = .ok (.iload_n 2, 1) := by decide +kernel
theorem dX11_driedOf_40 : decode cX11_driedOf 40 = .ok (.iload 4, 2) := by decide +kernel
theorem dX11_driedOf_42 : decode cX11_driedOf 42 = .ok (.ifCond .ge 7, 3) := by decide +kernel
theorem dX11_driedOf_45 : decode cX11_driedOf 45 = .ok (.iconst 0, 1) := by decide +kernel
theorem dX11_driedOf_46 : decode cX11_driedOf 46 = .ok (.goto 17, 3) := by decide +kernel
theorem dX11_driedOf_49 : decode cX11_driedOf 49 = .ok (.iload 4, 2) := by decide +kernel
theorem dX11_driedOf_51 : decode cX11_driedOf 51 = .ok (.bipush 9, 2) := by decide +kernel
theorem dX11_driedOf_53 : decode cX11_driedOf 53 = .ok (.if_icmp .le 8, 3) := by decide +kernel
theorem dX11_driedOf_56 : decode cX11_driedOf 56 = .ok (.bipush 9, 2) := by decide +kernel
theorem dX11_driedOf_58 : decode cX11_driedOf 58 = .ok (.goto 5, 3) := by decide +kernel
theorem dX11_driedOf_61 : decode cX11_driedOf 61 = .ok (.iload 4, 2) := by decide +kernel
theorem dX11_driedOf_63 : decode cX11_driedOf 63 = .ok (.isub, 1) := by decide +kernel
theorem dX11_driedOf_64 : decode cX11_driedOf 64 = .ok (.istore 4, 2) := by decide +kernel
theorem dX11_driedOf_66 : decode cX11_driedOf 66 = .ok (.iload 4, 2) := by decide +kernel
theorem dX11_driedOf_68 : decode cX11_driedOf 68 = .ok (.ifCond .ge 7, 3) := by decide +kernel
theorem dX11_driedOf_71 : decode cX11_driedOf 71 = .ok (.iconst 0, 1) := by decide +kernel
theorem dX11_driedOf_72 : decode cX11_driedOf 72 = .ok (.goto 5, 3) := by decide +kernel
theorem dX11_driedOf_75 : decode cX11_driedOf 75 = .ok (.iload 4, 2) := by decide +kernel
theorem dX11_driedOf_77 : decode cX11_driedOf 77 = .ok (.ireturn, 1) := by decide +kernel
theorem dX11_gripsOf_0 : decode cX11_gripsOf 0 = .ok (.iconst 0, 1) := by decide +kernel
theorem dX11_gripsOf_1 : decode cX11_gripsOf 1 = .ok (.istore_n 3, 1) := by decide +kernel
theorem dX11_gripsOf_2 : decode cX11_gripsOf 2 = .ok (.iconst 0, 1) := by decide +kernel
theorem dX11_gripsOf_3 : decode cX11_gripsOf 3 = .ok (.istore 4, 2) := by decide +kernel
theorem dX11_gripsOf_5 : decode cX11_gripsOf 5 = .ok (.iload 4, 2) := by decide +kernel
theorem dX11_gripsOf_7 : decode cX11_gripsOf 7 = .ok (.bipush 8, 2) := by decide +kernel
theorem dX11_gripsOf_9 : decode cX11_gripsOf 9 = .ok (.if_icmp .ge 38, 3) := by decide +kernel
theorem dX11_gripsOf_12 : decode cX11_gripsOf 12 = .ok (.iload_n 3, 1) := by decide +kernel
theorem dX11_gripsOf_13 : decode cX11_gripsOf 13 = .ok (.iload_n 2, 1) := by decide +kernel
theorem dX11_gripsOf_14 : decode cX11_gripsOf 14 = .ok (.iload 4, 2) := by decide +kernel
theorem dX11_gripsOf_16 : decode cX11_gripsOf 16 = .ok (.ishr, 1) := by decide +kernel
theorem dX11_gripsOf_17 : decode cX11_gripsOf 17 = .ok (.iconst 1, 1) := by decide +kernel
theorem dX11_gripsOf_18 : decode cX11_gripsOf 18 = .ok (.iand, 1) := by decide +kernel
theorem dX11_gripsOf_19 : decode cX11_gripsOf 19 = .ok (.iconst 1, 1) := by decide +kernel
theorem dX11_gripsOf_20 : decode cX11_gripsOf 20 = .ok (.if_icmp .ne 18, 3) := by decide +kernel
theorem dX11_gripsOf_23 : decode cX11_gripsOf 23 = .ok (.aload_n 0, 1) := by decide +kernel
theorem dX11_gripsOf_24 : decode cX11_gripsOf 24 = .ok (.getfield 113, 3) := by decide +kernel
theorem dX11_gripsOf_27 : decode cX11_gripsOf 27 = .ok (.iload_n 1, 1) := by decide +kernel
theorem dX11_gripsOf_28 : decode cX11_gripsOf 28 = .ok (.bipush 20, 2) := by decide +kernel
theorem dX11_gripsOf_30 : decode cX11_gripsOf 30 = .ok (.iadd, 1) := by decide +kernel
theorem dX11_gripsOf_31 : decode cX11_gripsOf 31 = .ok (.iload 4, 2) := by decide +kernel
theorem dX11_gripsOf_33 : decode cX11_gripsOf 33 = .ok (.iadd, 1) := by decide +kernel
theorem dX11_gripsOf_34 : decode cX11_gripsOf 34 = .ok (.iaload, 1) := by decide +kernel
theorem dX11_gripsOf_35 : decode cX11_gripsOf 35 = .ok (.goto 4, 3) := by decide +kernel
theorem dX11_gripsOf_38 : decode cX11_gripsOf 38 = .ok (.iconst 0, 1) := by decide +kernel
theorem dX11_gripsOf_39 : decode cX11_gripsOf 39 = .ok (.iadd, 1) := by decide +kernel
theorem dX11_gripsOf_40 : decode cX11_gripsOf 40 = .ok (.istore_n 3, 1) := by decide +kernel
theorem dX11_gripsOf_41 : decode cX11_gripsOf 41 = .ok (.iinc 4 1, 3) := by decide +kernel
theorem dX11_gripsOf_44 : decode cX11_gripsOf 44 = .ok (.goto (-39), 3) := by decide +kernel
theorem dX11_gripsOf_47 : decode cX11_gripsOf 47 = .ok (.iload_n 3, 1) := by decide +kernel
theorem dX11_gripsOf_48 : decode cX11_gripsOf 48 = .ok (.ireturn, 1) := by decide +kernel
theorem dX11_falls_0 : decode cX11_falls 0 = .ok (.aload_n 0, 1) := by decide +kernel
theorem dX11_falls_1 : decode cX11_falls 1 = .ok (.getfield 113, 3) := by decide +kernel
theorem dX11_falls_4 : decode cX11_falls 4 = .ok (.iload_n 1, 1) := by decide +kernel
theorem dX11_falls_5 : decode cX11_falls 5 = .ok (.bipush 14, 2) := by decide +kernel
theorem dX11_falls_7 : decode cX11_falls 7 = .ok (.iadd, 1) := by decide +kernel
theorem dX11_falls_8 : decode cX11_falls 8 = .ok (.iload_n 2, 1) := by decide +kernel
theorem dX11_falls_9 : decode cX11_falls 9 = .ok (.iadd, 1) := by decide +kernel
theorem dX11_falls_10 : decode cX11_falls 10 = .ok (.iconst 0, 1) := by decide +kernel
theorem dX11_falls_11 : decode cX11_falls 11 = .ok (.iastore, 1) := by decide +kernel
theorem dX11_falls_12 : decode cX11_falls 12 = .ok (.aload_n 0, 1) := by decide +kernel
theorem dX11_falls_13 : decode cX11_falls 13 = .ok (.getfield 113, 3) := by decide +kernel
theorem dX11_falls_16 : decode cX11_falls 16 = .ok (.iload_n 1, 1) := by decide +kernel
theorem dX11_falls_17 : decode cX11_falls 17 = .ok (.iconst 2, 1) := by decide +kernel
theorem dX11_falls_18 : decode cX11_falls 18 = .ok (.iadd, 1) := by decide +kernel
theorem dX11_falls_19 : decode cX11_falls 19 = .ok (.iload_n 2, 1) := by decide +kernel
theorem dX11_falls_20 : decode cX11_falls 20 = .ok (.iadd, 1) := by decide +kernel
theorem dX11_falls_21 : decode cX11_falls 21 = .ok (.bipush 9, 2) := by decide +kernel
theorem dX11_falls_23 : decode cX11_falls 23 = .ok (.iastore, 1) := by decide +kernel
theorem dX11_falls_24 : decode cX11_falls 24 = .ok (.aload_n 0, 1) := by decide +kernel
theorem dX11_falls_25 : decode cX11_falls 25 = .ok (.getfield 113, 3) := by decide +kernel
theorem dX11_falls_28 : decode cX11_falls 28 = .ok (.iload_n 1, 1) := by decide +kernel
theorem dX11_falls_29 : decode cX11_falls 29 = .ok (.bipush 8, 2) := by decide +kernel
theorem dX11_falls_31 : decode cX11_falls 31 = .ok (.iadd, 1) := by decide +kernel
theorem dX11_falls_32 : decode cX11_falls 32 = .ok (.iload_n 2, 1) := by decide +kernel
theorem dX11_falls_33 : decode cX11_falls 33 = .ok (.iadd, 1) := by decide +kernel
theorem dX11_falls_34 : decode cX11_falls 34 = .ok (.dup2, 1) := by decide +kernel
theorem dX11_falls_35 : decode cX11_falls 35 = .ok (.iaload, 1) := by decide +kernel
theorem dX11_falls_36 : decode cX11_falls 36 = .ok (.aload_n 0, 1) := by decide +kernel
theorem dX11_falls_37 : decode cX11_falls 37 = .ok (.getfield 113, 3) := by decide +kernel
theorem dX11_falls_40 : decode cX11_falls 40 = .ok (.iload_n 1, 1) := by decide +kernel
theorem dX11_falls_41 : decode cX11_falls 41 = .ok (.bipush 8, 2) := by decide +kernel
theorem dX11_falls_43 : decode cX11_falls 43 = .ok (.iadd, 1) := by decide +kernel
theorem dX11_falls_44 : decode cX11_falls 44 = .ok (.iload_n 2, 1) := by decide +kernel
theorem dX11_falls_45 : decode cX11_falls 45 = .ok (.iadd, 1) := by decide +kernel
theorem dX11_falls_46 : decode cX11_falls 46 = .ok (.iaload, 1) := by decide +kernel
theorem dX11_falls_47 : decode cX11_falls 47 = .ok (.bipush 9, 2) := by decide +kernel
theorem dX11_falls_49 : decode cX11_falls 49 = .ok (.if_icmp .ge 7, 3) := by decide +kernel
theorem dX11_falls_52 : decode cX11_falls 52 = .ok (.iconst 1, 1) := by decide +kernel
theorem dX11_falls_53 : decode cX11_falls 53 = .ok (.goto 4, 3) := by decide +kernel
theorem dX11_falls_56 : decode cX11_falls 56 = .ok (.iconst 0, 1) := by decide +kernel
theorem dX11_falls_57 : decode cX11_falls 57 = .ok (.iadd, 1) := by decide +kernel
theorem dX11_falls_58 : decode cX11_falls 58 = .ok (.iastore, 1) := by decide +kernel
theorem dX11_falls_59 : decode cX11_falls 59 = .ok (.return_, 1) := by decide +kernel
theorem dX11_loosens_0 : decode cX11_loosens 0 = .ok (.iconst 0, 1) := by decide +kernel
theorem dX11_loosens_1 : decode cX11_loosens 1 = .ok (.istore_n 3, 1) := by decide +kernel
theorem dX11_loosens_2 : decode cX11_loosens 2 = .ok (.iload_n 3, 1) := by decide +kernel
theorem dX11_loosens_3 : decode cX11_loosens 3 = .ok (.bipush 8, 2) := by decide +kernel
theorem dX11_loosens_5 : decode cX11_loosens 5 = .ok (.if_icmp .ge 51, 3) := by decide +kernel
theorem dX11_loosens_8 : decode cX11_loosens 8 = .ok (.aload_n 0, 1) := by decide +kernel
theorem dX11_loosens_9 : decode cX11_loosens 9 = .ok (.getfield 113, 3) := by decide +kernel
theorem dX11_loosens_12 : decode cX11_loosens 12 = .ok (.iload_n 1, 1) := by decide +kernel
theorem dX11_loosens_13 : decode cX11_loosens 13 = .ok (.bipush 20, 2) := by decide +kernel
theorem dX11_loosens_15 : decode cX11_loosens 15 = .ok (.iadd, 1) := by decide +kernel
theorem dX11_loosens_16 : decode cX11_loosens 16 = .ok (.iload_n 3, 1) := by decide +kernel
theorem dX11_loosens_17 : decode cX11_loosens 17 = .ok (.iadd, 1) := by decide +kernel
theorem dX11_loosens_18 : decode cX11_loosens 18 = .ok (.dup2, 1) := by decide +kernel
theorem dX11_loosens_19 : decode cX11_loosens 19 = .ok (.iaload, 1) := by decide +kernel
theorem dX11_loosens_20 : decode cX11_loosens 20 = .ok (.iload_n 2, 1) := by decide +kernel
theorem dX11_loosens_21 : decode cX11_loosens 21 = .ok (.iload_n 3, 1) := by decide +kernel
theorem dX11_loosens_22 : decode cX11_loosens 22 = .ok (.ishr, 1) := by decide +kernel
theorem dX11_loosens_23 : decode cX11_loosens 23 = .ok (.iconst 1, 1) := by decide +kernel
theorem dX11_loosens_24 : decode cX11_loosens 24 = .ok (.iand, 1) := by decide +kernel
theorem dX11_loosens_25 : decode cX11_loosens 25 = .ok (.iconst 1, 1) := by decide +kernel
theorem dX11_loosens_26 : decode cX11_loosens 26 = .ok (.if_icmp .ne 21, 3) := by decide +kernel
theorem dX11_loosens_29 : decode cX11_loosens 29 = .ok (.aload_n 0, 1) := by decide +kernel
theorem dX11_loosens_30 : decode cX11_loosens 30 = .ok (.getfield 113, 3) := by decide +kernel
theorem dX11_loosens_33 : decode cX11_loosens 33 = .ok (.iload_n 1, 1) := by decide +kernel
theorem dX11_loosens_34 : decode cX11_loosens 34 = .ok (.bipush 20, 2) := by decide +kernel
theorem dX11_loosens_36 : decode cX11_loosens 36 = .ok (.iadd, 1) := by decide +kernel
theorem dX11_loosens_37 : decode cX11_loosens 37 = .ok (.iload_n 3, 1) := by decide +kernel
theorem dX11_loosens_38 : decode cX11_loosens 38 = .ok (.iadd, 1) := by decide +kernel
theorem dX11_loosens_39 : decode cX11_loosens 39 = .ok (.iaload, 1) := by decide +kernel
theorem dX11_loosens_40 : decode cX11_loosens 40 = .ok (.ifCond .le 7, 3) := by decide +kernel
theorem dX11_loosens_43 : decode cX11_loosens 43 = .ok (.iconst 1, 1) := by decide +kernel
theorem dX11_loosens_44 : decode cX11_loosens 44 = .ok (.goto 4, 3) := by decide +kernel
theorem dX11_loosens_47 : decode cX11_loosens 47 = .ok (.iconst 0, 1) := by decide +kernel
theorem dX11_loosens_48 : decode cX11_loosens 48 = .ok (.isub, 1) := by decide +kernel
theorem dX11_loosens_49 : decode cX11_loosens 49 = .ok (.iastore, 1) := by decide +kernel
theorem dX11_loosens_50 : decode cX11_loosens 50 = .ok (.iinc 3 1, 3) := by decide +kernel
theorem dX11_loosens_53 : decode cX11_loosens 53 = .ok (.goto (-51), 3) := by decide +kernel
theorem dX11_loosens_56 : decode cX11_loosens 56 = .ok (.return_, 1) := by decide +kernel
theorem dX11_held_0 : decode cX11_held 0 = .ok (.iconst 0, 1) := by decide +kernel
theorem dX11_held_1 : decode cX11_held 1 = .ok (.istore_n 3, 1) := by decide +kernel
theorem dX11_held_2 : decode cX11_held 2 = .ok (.iconst 0, 1) := by decide +kernel
theorem dX11_held_3 : decode cX11_held 3 = .ok (.istore 4, 2) := by decide +kernel
theorem dX11_held_5 : decode cX11_held 5 = .ok (.iload 4, 2) := by decide +kernel
theorem dX11_held_7 : decode cX11_held 7 = .ok (.bipush 8, 2) := by decide +kernel
theorem dX11_held_9 : decode cX11_held 9 = .ok (.if_icmp .ge 45, 3) := by decide +kernel
theorem dX11_held_12 : decode cX11_held 12 = .ok (.iload_n 3, 1) := by decide +kernel
theorem dX11_held_13 : decode cX11_held 13 = .ok (.iload_n 2, 1) := by decide +kernel
theorem dX11_held_14 : decode cX11_held 14 = .ok (.iload 4, 2) := by decide +kernel
theorem dX11_held_16 : decode cX11_held 16 = .ok (.ishr, 1) := by decide +kernel
theorem dX11_held_17 : decode cX11_held 17 = .ok (.iconst 1, 1) := by decide +kernel
theorem dX11_held_18 : decode cX11_held 18 = .ok (.iand, 1) := by decide +kernel
theorem dX11_held_19 : decode cX11_held 19 = .ok (.iconst 1, 1) := by decide +kernel
theorem dX11_held_20 : decode cX11_held 20 = .ok (.if_icmp .ne 25, 3) := by decide +kernel
theorem dX11_held_23 : decode cX11_held 23 = .ok (.aload_n 0, 1) := by decide +kernel
theorem dX11_held_24 : decode cX11_held 24 = .ok (.getfield 113, 3) := by decide +kernel
theorem dX11_held_27 : decode cX11_held 27 = .ok (.iload_n 1, 1) := by decide +kernel
theorem dX11_held_28 : decode cX11_held 28 = .ok (.bipush 20, 2) := by decide +kernel
theorem dX11_held_30 : decode cX11_held 30 = .ok (.iadd, 1) := by decide +kernel
theorem dX11_held_31 : decode cX11_held 31 = .ok (.iload 4, 2) := by decide +kernel
theorem dX11_held_33 : decode cX11_held 33 = .ok (.iadd, 1) := by decide +kernel
theorem dX11_held_34 : decode cX11_held 34 = .ok (.iaload, 1) := by decide +kernel
theorem dX11_held_35 : decode cX11_held 35 = .ok (.ifCond .le 10, 3) := by decide +kernel
theorem dX11_held_38 : decode cX11_held 38 = .ok (.iconst 1, 1) := by decide +kernel
theorem dX11_held_39 : decode cX11_held 39 = .ok (.iload 4, 2) := by decide +kernel
theorem dX11_held_41 : decode cX11_held 41 = .ok (.ishl, 1) := by decide +kernel
theorem dX11_held_42 : decode cX11_held 42 = .ok (.goto 4, 3) := by decide +kernel
theorem dX11_held_45 : decode cX11_held 45 = .ok (.iconst 0, 1) := by decide +kernel
theorem dX11_held_46 : decode cX11_held 46 = .ok (.ior, 1) := by decide +kernel
theorem dX11_held_47 : decode cX11_held 47 = .ok (.istore_n 3, 1) := by decide +kernel
theorem dX11_held_48 : decode cX11_held 48 = .ok (.iinc 4 1, 3) := by decide +kernel
theorem dX11_held_51 : decode cX11_held 51 = .ok (.goto (-46), 3) := by decide +kernel
theorem dX11_held_54 : decode cX11_held 54 = .ok (.iload_n 3, 1) := by decide +kernel
theorem dX11_held_55 : decode cX11_held 55 = .ok (.ireturn, 1) := by decide +kernel
theorem dX11_pulls_0 : decode cX11_pulls 0 = .ok (.aload_n 0, 1) := by decide +kernel
theorem dX11_pulls_1 : decode cX11_pulls 1 = .ok (.getfield 113, 3) := by decide +kernel
theorem dX11_pulls_4 : decode cX11_pulls 4 = .ok (.iload_n 1, 1) := by decide +kernel
theorem dX11_pulls_5 : decode cX11_pulls 5 = .ok (.bipush 14, 2) := by decide +kernel
theorem dX11_pulls_7 : decode cX11_pulls 7 = .ok (.iadd, 1) := by decide +kernel
theorem dX11_pulls_8 : decode cX11_pulls 8 = .ok (.iload_n 2, 1) := by decide +kernel
theorem dX11_pulls_9 : decode cX11_pulls 9 = .ok (.iadd, 1) := by decide +kernel
theorem dX11_pulls_10 : decode cX11_pulls 10 = .ok (.iaload, 1) := by decide +kernel
theorem dX11_pulls_11 : decode cX11_pulls 11 = .ok (.istore 4, 2) := by decide +kernel
theorem dX11_pulls_13 : decode cX11_pulls 13 = .ok (.aload_n 0, 1) := by decide +kernel
theorem dX11_pulls_14 : decode cX11_pulls 14 = .ok (.iload_n 2, 1) := by decide +kernel
theorem dX11_pulls_15 : decode cX11_pulls 15 = .ok (.aload_n 0, 1) := by decide +kernel
theorem dX11_pulls_16 : decode cX11_pulls 16 = .ok (.getfield 113, 3) := by decide +kernel
theorem dX11_pulls_19 : decode cX11_pulls 19 = .ok (.iload_n 1, 1) := by decide +kernel
theorem dX11_pulls_20 : decode cX11_pulls 20 = .ok (.iconst 2, 1) := by decide +kernel
theorem dX11_pulls_21 : decode cX11_pulls 21 = .ok (.iadd, 1) := by decide +kernel
theorem dX11_pulls_22 : decode cX11_pulls 22 = .ok (.iload_n 2, 1) := by decide +kernel
theorem dX11_pulls_23 : decode cX11_pulls 23 = .ok (.iadd, 1) := by decide +kernel
theorem dX11_pulls_24 : decode cX11_pulls 24 = .ok (.iaload, 1) := by decide +kernel
theorem dX11_pulls_25 : decode cX11_pulls 25 = .ok (.iload_n 3, 1) := by decide +kernel
theorem dX11_pulls_26 : decode cX11_pulls 26 = .ok (.invokevirtual 317, 3) := by decide +kernel
theorem dX11_pulls_29 : decode cX11_pulls 29 = .ok (.istore 5, 2) := by decide +kernel
theorem dX11_pulls_31 : decode cX11_pulls 31 = .ok (.aload_n 0, 1) := by decide +kernel
theorem dX11_pulls_32 : decode cX11_pulls 32 = .ok (.iload_n 1, 1) := by decide +kernel
theorem dX11_pulls_33 : decode cX11_pulls 33 = .ok (.iload 4, 2) := by decide +kernel
theorem dX11_pulls_35 : decode cX11_pulls 35 = .ok (.invokevirtual 320, 3) := by decide +kernel
theorem dX11_pulls_38 : decode cX11_pulls 38 = .ok (.istore 6, 2) := by decide +kernel
theorem dX11_pulls_40 : decode cX11_pulls 40 = .ok (.iconst 2, 1) := by decide +kernel
theorem dX11_pulls_41 : decode cX11_pulls 41 = .ok (.iload 5, 2) := by decide +kernel
theorem dX11_pulls_43 : decode cX11_pulls 43 = .ok (.imul, 1) := by decide +kernel
theorem dX11_pulls_44 : decode cX11_pulls 44 = .ok (.iload 6, 2) := by decide +kernel
theorem dX11_pulls_46 : decode cX11_pulls 46 = .ok (.if_icmp .gt 5, 3) := by decide +kernel
theorem dX11_pulls_49 : decode cX11_pulls 49 = .ok (.iconst 0, 1) := by decide +kernel
theorem dX11_pulls_50 : decode cX11_pulls 50 = .ok (.ireturn, 1) := by decide +kernel
theorem dX11_pulls_51 : decode cX11_pulls 51 = .ok (.aload_n 0, 1) := by decide +kernel
theorem dX11_pulls_52 : decode cX11_pulls 52 = .ok (.iload_n 1, 1) := by decide +kernel
theorem dX11_pulls_53 : decode cX11_pulls 53 = .ok (.iload 4, 2) := by decide +kernel
theorem dX11_pulls_55 : decode cX11_pulls 55 = .ok (.invokevirtual 323, 3) := by decide +kernel
theorem dX11_pulls_58 : decode cX11_pulls 58 = .ok (.iload 5, 2) := by decide +kernel
theorem dX11_pulls_60 : decode cX11_pulls 60 = .ok (.iload 6, 2) := by decide +kernel
theorem dX11_pulls_62 : decode cX11_pulls 62 = .ok (.if_icmp .gt 21, 3) := by decide +kernel
theorem dX11_pulls_65 : decode cX11_pulls 65 = .ok (.aload_n 0, 1) := by decide +kernel
theorem dX11_pulls_66 : decode cX11_pulls 66 = .ok (.getfield 113, 3) := by decide +kernel
theorem dX11_pulls_69 : decode cX11_pulls 69 = .ok (.iload_n 1, 1) := by decide +kernel
theorem dX11_pulls_70 : decode cX11_pulls 70 = .ok (.bipush 14, 2) := by decide +kernel
theorem dX11_pulls_72 : decode cX11_pulls 72 = .ok (.iadd, 1) := by decide +kernel
theorem dX11_pulls_73 : decode cX11_pulls 73 = .ok (.iload_n 2, 1) := by decide +kernel
theorem dX11_pulls_74 : decode cX11_pulls 74 = .ok (.iadd, 1) := by decide +kernel
theorem dX11_pulls_75 : decode cX11_pulls 75 = .ok (.aload_n 0, 1) := by decide +kernel
theorem dX11_pulls_76 : decode cX11_pulls 76 = .ok (.iload_n 1, 1) := by decide +kernel
theorem dX11_pulls_77 : decode cX11_pulls 77 = .ok (.iload 4, 2) := by decide +kernel
theorem dX11_pulls_79 : decode cX11_pulls 79 = .ok (.invokevirtual 326, 3) := by decide +kernel
theorem dX11_pulls_82 : decode cX11_pulls 82 = .ok (.iastore, 1) := by decide +kernel
theorem dX11_pulls_83 : decode cX11_pulls 83 = .ok (.iload 5, 2) := by decide +kernel
theorem dX11_pulls_85 : decode cX11_pulls 85 = .ok (.iload 6, 2) := by decide +kernel
theorem dX11_pulls_87 : decode cX11_pulls 87 = .ok (.if_icmp .gt 17, 3) := by decide +kernel
theorem dX11_pulls_90 : decode cX11_pulls 90 = .ok (.aload_n 0, 1) := by decide +kernel
theorem dX11_pulls_91 : decode cX11_pulls 91 = .ok (.getfield 113, 3) := by decide +kernel
theorem dX11_pulls_94 : decode cX11_pulls 94 = .ok (.iload_n 1, 1) := by decide +kernel
theorem dX11_pulls_95 : decode cX11_pulls 95 = .ok (.bipush 14, 2) := by decide +kernel
theorem dX11_pulls_97 : decode cX11_pulls 97 = .ok (.iadd, 1) := by decide +kernel
theorem dX11_pulls_98 : decode cX11_pulls 98 = .ok (.iload_n 2, 1) := by decide +kernel
theorem dX11_pulls_99 : decode cX11_pulls 99 = .ok (.iadd, 1) := by decide +kernel
theorem dX11_pulls_100 : decode cX11_pulls 100 = .ok (.iaload, 1) := by decide +kernel
theorem dX11_pulls_101 : decode cX11_pulls 101 = .ok (.ifCond .ne 11, 3) := by decide +kernel
theorem dX11_pulls_104 : decode cX11_pulls 104 = .ok (.aload_n 0, 1) := by decide +kernel
theorem dX11_pulls_105 : decode cX11_pulls 105 = .ok (.iload_n 1, 1) := by decide +kernel
theorem dX11_pulls_106 : decode cX11_pulls 106 = .ok (.iload_n 2, 1) := by decide +kernel
theorem dX11_pulls_107 : decode cX11_pulls 107 = .ok (.invokevirtual 329, 3) := by decide +kernel
theorem dX11_pulls_110 : decode cX11_pulls 110 = .ok (.iconst 1, 1) := by decide +kernel
theorem dX11_pulls_111 : decode cX11_pulls 111 = .ok (.ireturn, 1) := by decide +kernel
theorem dX11_pulls_112 : decode cX11_pulls 112 = .ok (.iconst 0, 1) := by decide +kernel
theorem dX11_pulls_113 : decode cX11_pulls 113 = .ok (.ireturn, 1) := by decide +kernel
theorem dX11_passes_0 : decode cX11_passes 0 = .ok (.aload_n 0, 1) := by decide +kernel
theorem dX11_passes_1 : decode cX11_passes 1 = .ok (.aload_n 0, 1) := by decide +kernel
theorem dX11_passes_2 : decode cX11_passes 2 = .ok (.getfield 113, 3) := by decide +kernel
theorem dX11_passes_5 : decode cX11_passes 5 = .ok (.iload_n 1, 1) := by decide +kernel
theorem dX11_passes_6 : decode cX11_passes 6 = .ok (.iconst 0, 1) := by decide +kernel
theorem dX11_passes_7 : decode cX11_passes 7 = .ok (.iadd, 1) := by decide +kernel
theorem dX11_passes_8 : decode cX11_passes 8 = .ok (.iaload, 1) := by decide +kernel
theorem dX11_passes_9 : decode cX11_passes 9 = .ok (.iload_n 2, 1) := by decide +kernel
theorem dX11_passes_10 : decode cX11_passes 10 = .ok (.invokevirtual 332, 3) := by decide +kernel
theorem dX11_passes_13 : decode cX11_passes 13 = .ok (.istore_n 3, 1) := by decide +kernel
theorem dX11_passes_14 : decode cX11_passes 14 = .ok (.iconst 0, 1) := by decide +kernel
theorem dX11_passes_15 : decode cX11_passes 15 = .ok (.istore 4, 2) := by decide +kernel
theorem dX11_passes_17 : decode cX11_passes 17 = .ok (.iconst 0, 1) := by decide +kernel
theorem dX11_passes_18 : decode cX11_passes 18 = .ok (.istore 5, 2) := by decide +kernel
theorem dX11_passes_20 : decode cX11_passes 20 = .ok (.iload 5, 2) := by decide +kernel
theorem dX11_passes_22 : decode cX11_passes 22 = .ok (.aload_n 0, 1) := by decide +kernel
theorem dX11_passes_23 : decode cX11_passes 23 = .ok (.invokevirtual 292, 3) := by decide +kernel
theorem dX11_passes_26 : decode cX11_passes 26 = .ok (.if_icmp .ge 40, 3) := by decide +kernel
theorem dX11_passes_29 : decode cX11_passes 29 = .ok (.aload_n 0, 1) := by decide +kernel
theorem dX11_passes_30 : decode cX11_passes 30 = .ok (.iload_n 1, 1) := by decide +kernel
theorem dX11_passes_31 : decode cX11_passes 31 = .ok (.iload 5, 2) := by decide +kernel
theorem dX11_passes_33 : decode cX11_passes 33 = .ok (.invokevirtual 304, 3) := by decide +kernel
theorem dX11_passes_36 : decode cX11_passes 36 = .ok (.ifCond .eq 24, 3) := by decide +kernel
theorem dX11_passes_39 : decode cX11_passes 39 = .ok (.iload 4, 2) := by decide +kernel
theorem dX11_passes_41 : decode cX11_passes 41 = .ok (.aload_n 0, 1) := by decide +kernel
theorem dX11_passes_42 : decode cX11_passes 42 = .ok (.iload_n 1, 1) := by decide +kernel
theorem dX11_passes_43 : decode cX11_passes 43 = .ok (.iload 5, 2) := by decide +kernel
theorem dX11_passes_45 : decode cX11_passes 45 = .ok (.iload_n 3, 1) := by decide +kernel
theorem dX11_passes_46 : decode cX11_passes 46 = .ok (.invokevirtual 336, 3) := by decide +kernel
theorem dX11_passes_49 : decode cX11_passes 49 = .ok (.ifCond .eq 7, 3) := by decide +kernel
theorem dX11_passes_52 : decode cX11_passes 52 = .ok (.iconst 1, 1) := by decide +kernel
theorem dX11_passes_53 : decode cX11_passes 53 = .ok (.goto 4, 3) := by decide +kernel
theorem dX11_passes_56 : decode cX11_passes 56 = .ok (.iconst 0, 1) := by decide +kernel
theorem dX11_passes_57 : decode cX11_passes 57 = .ok (.iadd, 1) := by decide +kernel
theorem dX11_passes_58 : decode cX11_passes 58 = .ok (.istore 4, 2) := by decide +kernel
theorem dX11_passes_60 : decode cX11_passes 60 = .ok (.iinc 5 1, 3) := by decide +kernel
theorem dX11_passes_63 : decode cX11_passes 63 = .ok (.goto (-43), 3) := by decide +kernel
theorem dX11_passes_66 : decode cX11_passes 66 = .ok (.iconst 0, 1) := by decide +kernel
theorem dX11_passes_67 : decode cX11_passes 67 = .ok (.istore 5, 2) := by decide +kernel
theorem dX11_passes_69 : decode cX11_passes 69 = .ok (.iload 5, 2) := by decide +kernel
theorem dX11_passes_71 : decode cX11_passes 71 = .ok (.aload_n 0, 1) := by decide +kernel
theorem dX11_passes_72 : decode cX11_passes 72 = .ok (.invokevirtual 292, 3) := by decide +kernel
theorem dX11_passes_75 : decode cX11_passes 75 = .ok (.if_icmp .ge 48, 3) := by decide +kernel
theorem dX11_passes_78 : decode cX11_passes 78 = .ok (.aload_n 0, 1) := by decide +kernel
theorem dX11_passes_79 : decode cX11_passes 79 = .ok (.iload_n 1, 1) := by decide +kernel
theorem dX11_passes_80 : decode cX11_passes 80 = .ok (.iload 5, 2) := by decide +kernel
theorem dX11_passes_82 : decode cX11_passes 82 = .ok (.invokevirtual 304, 3) := by decide +kernel
theorem dX11_passes_85 : decode cX11_passes 85 = .ok (.ifCond .eq 32, 3) := by decide +kernel
theorem dX11_passes_88 : decode cX11_passes 88 = .ok (.aload_n 0, 1) := by decide +kernel
theorem dX11_passes_89 : decode cX11_passes 89 = .ok (.getfield 113, 3) := by decide +kernel
theorem dX11_passes_92 : decode cX11_passes 92 = .ok (.iload_n 1, 1) := by decide +kernel
theorem dX11_passes_93 : decode cX11_passes 93 = .ok (.iconst 2, 1) := by decide +kernel
theorem dX11_passes_94 : decode cX11_passes 94 = .ok (.iadd, 1) := by decide +kernel
theorem dX11_passes_95 : decode cX11_passes 95 = .ok (.iload 5, 2) := by decide +kernel
theorem dX11_passes_97 : decode cX11_passes 97 = .ok (.iadd, 1) := by decide +kernel
theorem dX11_passes_98 : decode cX11_passes 98 = .ok (.aload_n 0, 1) := by decide +kernel
theorem dX11_passes_99 : decode cX11_passes 99 = .ok (.iload 5, 2) := by decide +kernel
theorem dX11_passes_101 : decode cX11_passes 101 = .ok (.aload_n 0, 1) := by decide +kernel
theorem dX11_passes_102 : decode cX11_passes 102 = .ok (.getfield 113, 3) := by decide +kernel
theorem dX11_passes_105 : decode cX11_passes 105 = .ok (.iload_n 1, 1) := by decide +kernel
theorem dX11_passes_106 : decode cX11_passes 106 = .ok (.iconst 2, 1) := by decide +kernel
theorem dX11_passes_107 : decode cX11_passes 107 = .ok (.iadd, 1) := by decide +kernel
theorem dX11_passes_108 : decode cX11_passes 108 = .ok (.iload 5, 2) := by decide +kernel
theorem dX11_passes_110 : decode cX11_passes 110 = .ok (.iadd, 1) := by decide +kernel
theorem dX11_passes_111 : decode cX11_passes 111 = .ok (.iaload, 1) := by decide +kernel
theorem dX11_passes_112 : decode cX11_passes 112 = .ok (.iload_n 3, 1) := by decide +kernel
theorem dX11_passes_113 : decode cX11_passes 113 = .ok (.invokevirtual 340, 3) := by decide +kernel
theorem dX11_passes_116 : decode cX11_passes 116 = .ok (.iastore, 1) := by decide +kernel
theorem dX11_passes_117 : decode cX11_passes 117 = .ok (.iinc 5 1, 3) := by decide +kernel
theorem dX11_passes_120 : decode cX11_passes 120 = .ok (.goto (-51), 3) := by decide +kernel
theorem dX11_passes_123 : decode cX11_passes 123 = .ok (.aload_n 0, 1) := by decide +kernel
theorem dX11_passes_124 : decode cX11_passes 124 = .ok (.getfield 113, 3) := by decide +kernel
theorem dX11_passes_127 : decode cX11_passes 127 = .ok (.iload_n 1, 1) := by decide +kernel
theorem dX11_passes_128 : decode cX11_passes 128 = .ok (.iconst 0, 1) := by decide +kernel
theorem dX11_passes_129 : decode cX11_passes 129 = .ok (.iadd, 1) := by decide +kernel
theorem dX11_passes_130 : decode cX11_passes 130 = .ok (.dup2, 1) := by decide +kernel
theorem dX11_passes_131 : decode cX11_passes 131 = .ok (.iaload, 1) := by decide +kernel
theorem dX11_passes_132 : decode cX11_passes 132 = .ok (.iconst 1, 1) := by decide +kernel
theorem dX11_passes_133 : decode cX11_passes 133 = .ok (.iadd, 1) := by decide +kernel
theorem dX11_passes_134 : decode cX11_passes 134 = .ok (.iastore, 1) := by decide +kernel
theorem dX11_passes_135 : decode cX11_passes 135 = .ok (.iload 4, 2) := by decide +kernel
theorem dX11_passes_137 : decode cX11_passes 137 = .ok (.ireturn, 1) := by decide +kernel
theorem dX11_lawsOf_0 : decode cX11_lawsOf 0 = .ok (.iconst 0, 1) := by decide +kernel
theorem dX11_lawsOf_1 : decode cX11_lawsOf 1 = .ok (.istore_n 2, 1) := by decide +kernel
theorem dX11_lawsOf_2 : decode cX11_lawsOf 2 = .ok (.iconst 0, 1) := by decide +kernel
theorem dX11_lawsOf_3 : decode cX11_lawsOf 3 = .ok (.istore_n 3, 1) := by decide +kernel
theorem dX11_lawsOf_4 : decode cX11_lawsOf 4 = .ok (.iload_n 3, 1) := by decide +kernel
theorem dX11_lawsOf_5 : decode cX11_lawsOf 5 = .ok (.aload_n 0, 1) := by decide +kernel
theorem dX11_lawsOf_6 : decode cX11_lawsOf 6 = .ok (.invokevirtual 292, 3) := by decide +kernel
theorem dX11_lawsOf_9 : decode cX11_lawsOf 9 = .ok (.if_icmp .ge 28, 3) := by decide +kernel
theorem dX11_lawsOf_12 : decode cX11_lawsOf 12 = .ok (.iload_n 2, 1) := by decide +kernel
theorem dX11_lawsOf_13 : decode cX11_lawsOf 13 = .ok (.aload_n 0, 1) := by decide +kernel
theorem dX11_lawsOf_14 : decode cX11_lawsOf 14 = .ok (.iload_n 1, 1) := by decide +kernel
theorem dX11_lawsOf_15 : decode cX11_lawsOf 15 = .ok (.iload_n 3, 1) := by decide +kernel
theorem dX11_lawsOf_16 : decode cX11_lawsOf 16 = .ok (.invokevirtual 343, 3) := by decide +kernel
theorem dX11_lawsOf_19 : decode cX11_lawsOf 19 = .ok (.ifCond .eq 9, 3) := by decide +kernel
theorem dX11_lawsOf_22 : decode cX11_lawsOf 22 = .ok (.iconst 1, 1) := by decide +kernel
theorem dX11_lawsOf_23 : decode cX11_lawsOf 23 = .ok (.iload_n 3, 1) := by decide +kernel
theorem dX11_lawsOf_24 : decode cX11_lawsOf 24 = .ok (.ishl, 1) := by decide +kernel
theorem dX11_lawsOf_25 : decode cX11_lawsOf 25 = .ok (.goto 4, 3) := by decide +kernel
theorem dX11_lawsOf_28 : decode cX11_lawsOf 28 = .ok (.iconst 0, 1) := by decide +kernel
theorem dX11_lawsOf_29 : decode cX11_lawsOf 29 = .ok (.ior, 1) := by decide +kernel
theorem dX11_lawsOf_30 : decode cX11_lawsOf 30 = .ok (.istore_n 2, 1) := by decide +kernel
theorem dX11_lawsOf_31 : decode cX11_lawsOf 31 = .ok (.iinc 3 1, 3) := by decide +kernel
theorem dX11_lawsOf_34 : decode cX11_lawsOf 34 = .ok (.goto (-30), 3) := by decide +kernel
theorem dX11_lawsOf_37 : decode cX11_lawsOf 37 = .ok (.iload_n 2, 1) := by decide +kernel
theorem dX11_lawsOf_38 : decode cX11_lawsOf 38 = .ok (.ireturn, 1) := by decide +kernel
theorem dX11_worthOf_0 : decode cX11_worthOf 0 = .ok (.iconst 0, 1) := by decide +kernel
theorem dX11_worthOf_1 : decode cX11_worthOf 1 = .ok (.istore_n 2, 1) := by decide +kernel
theorem dX11_worthOf_2 : decode cX11_worthOf 2 = .ok (.iconst 0, 1) := by decide +kernel
theorem dX11_worthOf_3 : decode cX11_worthOf 3 = .ok (.istore_n 3, 1) := by decide +kernel
theorem dX11_worthOf_4 : decode cX11_worthOf 4 = .ok (.iload_n 3, 1) := by decide +kernel
theorem dX11_worthOf_5 : decode cX11_worthOf 5 = .ok (.aload_n 0, 1) := by decide +kernel
theorem dX11_worthOf_6 : decode cX11_worthOf 6 = .ok (.invokevirtual 292, 3) := by decide +kernel
theorem dX11_worthOf_9 : decode cX11_worthOf 9 = .ok (.if_icmp .ge 31, 3) := by decide +kernel
theorem dX11_worthOf_12 : decode cX11_worthOf 12 = .ok (.iload_n 2, 1) := by decide +kernel
theorem dX11_worthOf_13 : decode cX11_worthOf 13 = .ok (.iload_n 1, 1) := by decide +kernel
theorem dX11_worthOf_14 : decode cX11_worthOf 14 = .ok (.iload_n 3, 1) := by decide +kernel
theorem dX11_worthOf_15 : decode cX11_worthOf 15 = .ok (.ishr, 1) := by decide +kernel
theorem dX11_worthOf_16 : decode cX11_worthOf 16 = .ok (.iconst 1, 1) := by decide +kernel
theorem dX11_worthOf_17 : decode cX11_worthOf 17 = .ok (.iand, 1) := by decide +kernel
theorem dX11_worthOf_18 : decode cX11_worthOf 18 = .ok (.iconst 1, 1) := by decide +kernel
theorem dX11_worthOf_19 : decode cX11_worthOf 19 = .ok (.if_icmp .ne 12, 3) := by decide +kernel
theorem dX11_worthOf_22 : decode cX11_worthOf 22 = .ok (.aload_n 0, 1) := by decide +kernel
theorem dX11_worthOf_23 : decode cX11_worthOf 23 = .ok (.iload_n 3, 1) := by decide +kernel
theorem dX11_worthOf_24 : decode cX11_worthOf 24 = .ok (.iconst 3, 1) := by decide +kernel
theorem dX11_worthOf_25 : decode cX11_worthOf 25 = .ok (.invokevirtual 295, 3) := by decide +kernel
theorem dX11_worthOf_28 : decode cX11_worthOf 28 = .ok (.goto 4, 3) := by decide +kernel
theorem dX11_worthOf_31 : decode cX11_worthOf 31 = .ok (.iconst 0, 1) := by decide +kernel
theorem dX11_worthOf_32 : decode cX11_worthOf 32 = .ok (.iadd, 1) := by decide +kernel
theorem dX11_worthOf_33 : decode cX11_worthOf 33 = .ok (.istore_n 2, 1) := by decide +kernel
theorem dX11_worthOf_34 : decode cX11_worthOf 34 = .ok (.iinc 3 1, 3) := by decide +kernel
theorem dX11_worthOf_37 : decode cX11_worthOf 37 = .ok (.goto (-33), 3) := by decide +kernel
theorem dX11_worthOf_40 : decode cX11_worthOf 40 = .ok (.iload_n 2, 1) := by decide +kernel
theorem dX11_worthOf_41 : decode cX11_worthOf 41 = .ok (.ireturn, 1) := by decide +kernel
theorem dX11_cloth_0 : decode cX11_cloth 0 = .ok (.aload_n 0, 1) := by decide +kernel
theorem dX11_cloth_1 : decode cX11_cloth 1 = .ok (.iconst 0, 1) := by decide +kernel
theorem dX11_cloth_2 : decode cX11_cloth 2 = .ok (.putfield 1, 3) := by decide +kernel
theorem dX11_cloth_5 : decode cX11_cloth 5 = .ok (.aload_n 0, 1) := by decide +kernel
theorem dX11_cloth_6 : decode cX11_cloth 6 = .ok (.iload_n 1, 1) := by decide +kernel
theorem dX11_cloth_7 : decode cX11_cloth 7 = .ok (.invokevirtual 346, 3) := by decide +kernel
theorem dX11_cloth_10 : decode cX11_cloth 10 = .ok (.ifCond .eq 13, 3) := by decide +kernel
theorem dX11_cloth_13 : decode cX11_cloth 13 = .ok (.iload_n 2, 1) := by decide +kernel
theorem dX11_cloth_14 : decode cX11_cloth 14 = .ok (.iconst 0, 1) := by decide +kernel
theorem dX11_cloth_15 : decode cX11_cloth 15 = .ok (.bipush 7, 2) := by decide +kernel
theorem dX11_cloth_17 : decode cX11_cloth 17 = .ok (.invokestatic 349, 3) := by decide +kernel
theorem dX11_cloth_20 : decode cX11_cloth 20 = .ok (.ifCond .ne 5, 3) := by decide +kernel
theorem dX11_cloth_23 : decode cX11_cloth 23 = .ok (.iconst (-1), 1) := by decide +kernel
theorem dX11_cloth_24 : decode cX11_cloth 24 = .ok (.ireturn, 1) := by decide +kernel
theorem dX11_cloth_25 : decode cX11_cloth 25 = .ok (.iload_n 2, 1) := by decide +kernel
theorem dX11_cloth_26 : decode cX11_cloth 26 = .ok (.tableswitch 139 0 6 #[42, 49, 58, 68, 78, 93, 108], 42) := by decide +kernel
theorem dX11_cloth_68 : decode cX11_cloth 68 = .ok (.aload_n 0, 1) := by decide +kernel
theorem dX11_cloth_69 : decode cX11_cloth 69 = .ok (.iload_n 1, 1) := by decide +kernel
theorem dX11_cloth_70 : decode cX11_cloth 70 = .ok (.iconst 0, 1) := by decide +kernel
theorem dX11_cloth_71 : decode cX11_cloth 71 = .ok (.invokevirtual 295, 3) := by decide +kernel
theorem dX11_cloth_74 : decode cX11_cloth 74 = .ok (.ireturn, 1) := by decide +kernel
theorem dX11_cloth_75 : decode cX11_cloth 75 = .ok (.aload_n 0, 1) := by decide +kernel
theorem dX11_cloth_76 : decode cX11_cloth 76 = .ok (.getfield 113, 3) := by decide +kernel
theorem dX11_cloth_79 : decode cX11_cloth 79 = .ok (.iconst 2, 1) := by decide +kernel
theorem dX11_cloth_80 : decode cX11_cloth 80 = .ok (.iload_n 1, 1) := by decide +kernel
theorem dX11_cloth_81 : decode cX11_cloth 81 = .ok (.iadd, 1) := by decide +kernel
theorem dX11_cloth_82 : decode cX11_cloth 82 = .ok (.iaload, 1) := by decide +kernel
theorem dX11_cloth_83 : decode cX11_cloth 83 = .ok (.ireturn, 1) := by decide +kernel
theorem dX11_cloth_84 : decode cX11_cloth 84 = .ok (.aload_n 0, 1) := by decide +kernel
theorem dX11_cloth_85 : decode cX11_cloth 85 = .ok (.getfield 113, 3) := by decide +kernel
theorem dX11_cloth_88 : decode cX11_cloth 88 = .ok (.bipush 8, 2) := by decide +kernel
theorem dX11_cloth_90 : decode cX11_cloth 90 = .ok (.iload_n 1, 1) := by decide +kernel
theorem dX11_cloth_91 : decode cX11_cloth 91 = .ok (.iadd, 1) := by decide +kernel
theorem dX11_cloth_92 : decode cX11_cloth 92 = .ok (.iaload, 1) := by decide +kernel
theorem dX11_cloth_93 : decode cX11_cloth 93 = .ok (.ireturn, 1) := by decide +kernel
theorem dX11_cloth_94 : decode cX11_cloth 94 = .ok (.aload_n 0, 1) := by decide +kernel
theorem dX11_cloth_95 : decode cX11_cloth 95 = .ok (.getfield 113, 3) := by decide +kernel
theorem dX11_cloth_98 : decode cX11_cloth 98 = .ok (.bipush 14, 2) := by decide +kernel
theorem dX11_cloth_100 : decode cX11_cloth 100 = .ok (.iload_n 1, 1) := by decide +kernel
theorem dX11_cloth_101 : decode cX11_cloth 101 = .ok (.iadd, 1) := by decide +kernel
theorem dX11_cloth_102 : decode cX11_cloth 102 = .ok (.iaload, 1) := by decide +kernel
theorem dX11_cloth_103 : decode cX11_cloth 103 = .ok (.ireturn, 1) := by decide +kernel
theorem dX11_cloth_104 : decode cX11_cloth 104 = .ok (.aload_n 0, 1) := by decide +kernel
theorem dX11_cloth_105 : decode cX11_cloth 105 = .ok (.iconst 0, 1) := by decide +kernel
theorem dX11_cloth_106 : decode cX11_cloth 106 = .ok (.iload_n 1, 1) := by decide +kernel
theorem dX11_cloth_107 : decode cX11_cloth 107 = .ok (.invokevirtual 343, 3) := by decide +kernel
theorem dX11_cloth_110 : decode cX11_cloth 110 = .ok (.ifCond .eq 7, 3) := by decide +kernel
theorem dX11_cloth_113 : decode cX11_cloth 113 = .ok (.iconst 1, 1) := by decide +kernel
theorem dX11_cloth_114 : decode cX11_cloth 114 = .ok (.goto 4, 3) := by decide +kernel
theorem dX11_cloth_117 : decode cX11_cloth 117 = .ok (.iconst 0, 1) := by decide +kernel
theorem dX11_cloth_118 : decode cX11_cloth 118 = .ok (.ireturn, 1) := by decide +kernel
theorem dX11_cloth_119 : decode cX11_cloth 119 = .ok (.aload_n 0, 1) := by decide +kernel
theorem dX11_cloth_120 : decode cX11_cloth 120 = .ok (.iconst 0, 1) := by decide +kernel
theorem dX11_cloth_121 : decode cX11_cloth 121 = .ok (.iload_n 1, 1) := by decide +kernel
theorem dX11_cloth_122 : decode cX11_cloth 122 = .ok (.invokevirtual 352, 3) := by decide +kernel
theorem dX11_cloth_125 : decode cX11_cloth 125 = .ok (.ifCond .eq 7, 3) := by decide +kernel
theorem dX11_cloth_128 : decode cX11_cloth 128 = .ok (.iconst 1, 1) := by decide +kernel
theorem dX11_cloth_129 : decode cX11_cloth 129 = .ok (.goto 4, 3) := by decide +kernel
theorem dX11_cloth_132 : decode cX11_cloth 132 = .ok (.iconst 0, 1) := by decide +kernel
theorem dX11_cloth_133 : decode cX11_cloth 133 = .ok (.ireturn, 1) := by decide +kernel
theorem dX11_cloth_134 : decode cX11_cloth 134 = .ok (.aload_n 0, 1) := by decide +kernel
theorem dX11_cloth_135 : decode cX11_cloth 135 = .ok (.iconst 0, 1) := by decide +kernel
theorem dX11_cloth_136 : decode cX11_cloth 136 = .ok (.iload_n 1, 1) := by decide +kernel
theorem dX11_cloth_137 : decode cX11_cloth 137 = .ok (.invokevirtual 304, 3) := by decide +kernel
theorem dX11_cloth_140 : decode cX11_cloth 140 = .ok (.ifCond .eq 23, 3) := by decide +kernel
theorem dX11_cloth_143 : decode cX11_cloth 143 = .ok (.aload_n 0, 1) := by decide +kernel
theorem dX11_cloth_144 : decode cX11_cloth 144 = .ok (.iload_n 1, 1) := by decide +kernel
theorem dX11_cloth_145 : decode cX11_cloth 145 = .ok (.aload_n 0, 1) := by decide +kernel
theorem dX11_cloth_146 : decode cX11_cloth 146 = .ok (.getfield 113, 3) := by decide +kernel
theorem dX11_cloth_149 : decode cX11_cloth 149 = .ok (.bipush 14, 2) := by decide +kernel
theorem dX11_cloth_151 : decode cX11_cloth 151 = .ok (.iload_n 1, 1) := by decide +kernel
theorem dX11_cloth_152 : decode cX11_cloth 152 = .ok (.iadd, 1) := by decide +kernel
theorem dX11_cloth_153 : decode cX11_cloth 153 = .ok (.iaload, 1) := by decide +kernel
theorem dX11_cloth_154 : decode cX11_cloth 154 = .ok (.invokestatic 298, 3) := by decide +kernel
theorem dX11_cloth_157 : decode cX11_cloth 157 = .ok (.invokevirtual 308, 3) := by decide +kernel
theorem dX11_cloth_160 : decode cX11_cloth 160 = .ok (.goto 4, 3) := by decide +kernel
theorem dX11_cloth_163 : decode cX11_cloth 163 = .ok (.iconst 0, 1) := by decide +kernel
theorem dX11_cloth_164 : decode cX11_cloth 164 = .ok (.ireturn, 1) := by decide +kernel
theorem dX11_cloth_165 : decode cX11_cloth 165 = .ok (.aload_n 0, 1) := by decide +kernel
theorem dX11_cloth_166 : decode cX11_cloth 166 = .ok (.iload_n 1, 1) := by decide +kernel
theorem dX11_cloth_167 : decode cX11_cloth 167 = .ok (.aload_n 0, 1) := by decide +kernel
theorem dX11_cloth_168 : decode cX11_cloth 168 = .ok (.getfield 113, 3) := by decide +kernel
theorem dX11_cloth_171 : decode cX11_cloth 171 = .ok (.iconst 2, 1) := by decide +kernel
theorem dX11_cloth_172 : decode cX11_cloth 172 = .ok (.iload_n 1, 1) := by decide +kernel
theorem dX11_cloth_173 : decode cX11_cloth 173 = .ok (.iadd, 1) := by decide +kernel
theorem dX11_cloth_174 : decode cX11_cloth 174 = .ok (.iaload, 1) := by decide +kernel
theorem dX11_cloth_175 : decode cX11_cloth 175 = .ok (.aload_n 0, 1) := by decide +kernel
theorem dX11_cloth_176 : decode cX11_cloth 176 = .ok (.aload_n 0, 1) := by decide +kernel
theorem dX11_cloth_177 : decode cX11_cloth 177 = .ok (.getfield 113, 3) := by decide +kernel
theorem dX11_cloth_180 : decode cX11_cloth 180 = .ok (.iconst 0, 1) := by decide +kernel
theorem dX11_cloth_181 : decode cX11_cloth 181 = .ok (.iaload, 1) := by decide +kernel
theorem dX11_cloth_182 : decode cX11_cloth 182 = .ok (.iconst 0, 1) := by decide +kernel
theorem dX11_cloth_183 : decode cX11_cloth 183 = .ok (.invokevirtual 332, 3) := by decide +kernel
theorem dX11_cloth_186 : decode cX11_cloth 186 = .ok (.invokevirtual 317, 3) := by decide +kernel
theorem dX11_cloth_189 : decode cX11_cloth 189 = .ok (.ireturn, 1) := by decide +kernel
theorem dX11_heldBy_0 : decode cX11_heldBy 0 = .ok (.iconst (-1), 1) := by decide +kernel
theorem dX11_heldBy_1 : decode cX11_heldBy 1 = .ok (.istore_n 3, 1) := by decide +kernel
theorem dX11_heldBy_2 : decode cX11_heldBy 2 = .ok (.iconst 0, 1) := by decide +kernel
theorem dX11_heldBy_3 : decode cX11_heldBy 3 = .ok (.istore 4, 2) := by decide +kernel
theorem dX11_heldBy_5 : decode cX11_heldBy 5 = .ok (.iload 4, 2) := by decide +kernel
theorem dX11_heldBy_7 : decode cX11_heldBy 7 = .ok (.aload_n 0, 1) := by decide +kernel
theorem dX11_heldBy_8 : decode cX11_heldBy 8 = .ok (.invokevirtual 292, 3) := by decide +kernel
theorem dX11_heldBy_11 : decode cX11_heldBy 11 = .ok (.if_icmp .ge 36, 3) := by decide +kernel
theorem dX11_heldBy_14 : decode cX11_heldBy 14 = .ok (.aload_n 0, 1) := by decide +kernel
theorem dX11_heldBy_15 : decode cX11_heldBy 15 = .ok (.getfield 113, 3) := by decide +kernel
theorem dX11_heldBy_18 : decode cX11_heldBy 18 = .ok (.iload_n 1, 1) := by decide +kernel
theorem dX11_heldBy_19 : decode cX11_heldBy 19 = .ok (.bipush 14, 2) := by decide +kernel
theorem dX11_heldBy_21 : decode cX11_heldBy 21 = .ok (.iadd, 1) := by decide +kernel
theorem dX11_heldBy_22 : decode cX11_heldBy 22 = .ok (.iload 4, 2) := by decide +kernel
theorem dX11_heldBy_24 : decode cX11_heldBy 24 = .ok (.iadd, 1) := by decide +kernel
theorem dX11_heldBy_25 : decode cX11_heldBy 25 = .ok (.iaload, 1) := by decide +kernel
theorem dX11_heldBy_26 : decode cX11_heldBy 26 = .ok (.iload_n 2, 1) := by decide +kernel
theorem dX11_heldBy_27 : decode cX11_heldBy 27 = .ok (.ishr, 1) := by decide +kernel
theorem dX11_heldBy_28 : decode cX11_heldBy 28 = .ok (.iconst 1, 1) := by decide +kernel
theorem dX11_heldBy_29 : decode cX11_heldBy 29 = .ok (.iand, 1) := by decide +kernel
theorem dX11_heldBy_30 : decode cX11_heldBy 30 = .ok (.iconst 1, 1) := by decide +kernel
theorem dX11_heldBy_31 : decode cX11_heldBy 31 = .ok (.if_icmp .ne 8, 3) := by decide +kernel
theorem dX11_heldBy_34 : decode cX11_heldBy 34 = .ok (.iload 4, 2) := by decide +kernel
theorem dX11_heldBy_36 : decode cX11_heldBy 36 = .ok (.goto 4, 3) := by decide +kernel
theorem dX11_heldBy_39 : decode cX11_heldBy 39 = .ok (.iload_n 3, 1) := by decide +kernel
theorem dX11_heldBy_40 : decode cX11_heldBy 40 = .ok (.istore_n 3, 1) := by decide +kernel
theorem dX11_heldBy_41 : decode cX11_heldBy 41 = .ok (.iinc 4 1, 3) := by decide +kernel
theorem dX11_heldBy_44 : decode cX11_heldBy 44 = .ok (.goto (-39), 3) := by decide +kernel
theorem dX11_heldBy_47 : decode cX11_heldBy 47 = .ok (.iload_n 3, 1) := by decide +kernel
theorem dX11_heldBy_48 : decode cX11_heldBy 48 = .ok (.ireturn, 1) := by decide +kernel
theorem dX11_peg_0 : decode cX11_peg 0 = .ok (.aload_n 0, 1) := by decide +kernel
theorem dX11_peg_1 : decode cX11_peg 1 = .ok (.iconst 0, 1) := by decide +kernel
theorem dX11_peg_2 : decode cX11_peg 2 = .ok (.putfield 1, 3) := by decide +kernel
theorem dX11_peg_5 : decode cX11_peg 5 = .ok (.iload_n 1, 1) := by decide +kernel
theorem dX11_peg_6 : decode cX11_peg 6 = .ok (.ifCond .lt 22, 3) := by decide +kernel
theorem dX11_peg_9 : decode cX11_peg 9 = .ok (.iload_n 1, 1) := by decide +kernel
theorem dX11_peg_10 : decode cX11_peg 10 = .ok (.aload_n 0, 1) := by decide +kernel
theorem dX11_peg_11 : decode cX11_peg 11 = .ok (.getfield 113, 3) := by decide +kernel
theorem dX11_peg_14 : decode cX11_peg 14 = .ok (.iconst 1, 1) := by decide +kernel
theorem dX11_peg_15 : decode cX11_peg 15 = .ok (.iaload, 1) := by decide +kernel
theorem dX11_peg_16 : decode cX11_peg 16 = .ok (.if_icmp .ge 12, 3) := by decide +kernel
theorem dX11_peg_19 : decode cX11_peg 19 = .ok (.iload_n 2, 1) := by decide +kernel
theorem dX11_peg_20 : decode cX11_peg 20 = .ok (.iconst 0, 1) := by decide +kernel
theorem dX11_peg_21 : decode cX11_peg 21 = .ok (.iconst 1, 1) := by decide +kernel
theorem dX11_peg_22 : decode cX11_peg 22 = .ok (.invokestatic 349, 3) := by decide +kernel
theorem dX11_peg_25 : decode cX11_peg 25 = .ok (.ifCond .ne 6, 3) := by decide +kernel
theorem dX11_peg_28 : decode cX11_peg 28 = .ok (.bipush (-2), 2) := by decide +kernel
theorem dX11_peg_30 : decode cX11_peg 30 = .ok (.ireturn, 1) := by decide +kernel
theorem dX11_peg_31 : decode cX11_peg 31 = .ok (.iload_n 2, 1) := by decide +kernel
theorem dX11_peg_32 : decode cX11_peg 32 = .ok (.ifCond .ne 15, 3) := by decide +kernel
theorem dX11_peg_35 : decode cX11_peg 35 = .ok (.aload_n 0, 1) := by decide +kernel
theorem dX11_peg_36 : decode cX11_peg 36 = .ok (.getfield 113, 3) := by decide +kernel
theorem dX11_peg_39 : decode cX11_peg 39 = .ok (.bipush 20, 2) := by decide +kernel
theorem dX11_peg_41 : decode cX11_peg 41 = .ok (.iload_n 1, 1) := by decide +kernel
theorem dX11_peg_42 : decode cX11_peg 42 = .ok (.iadd, 1) := by decide +kernel
theorem dX11_peg_43 : decode cX11_peg 43 = .ok (.iaload, 1) := by decide +kernel
theorem dX11_peg_44 : decode cX11_peg 44 = .ok (.goto 9, 3) := by decide +kernel
theorem dX11_peg_47 : decode cX11_peg 47 = .ok (.aload_n 0, 1) := by decide +kernel
theorem dX11_peg_48 : decode cX11_peg 48 = .ok (.iconst 0, 1) := by decide +kernel
theorem dX11_peg_49 : decode cX11_peg 49 = .ok (.iload_n 1, 1) := by decide +kernel
theorem dX11_peg_50 : decode cX11_peg 50 = .ok (.invokevirtual 355, 3) := by decide +kernel
theorem dX11_peg_53 : decode cX11_peg 53 = .ok (.ireturn, 1) := by decide +kernel
theorem dX11_laws_0 : decode cX11_laws 0 = .ok (.aload_n 0, 1) := by decide +kernel
theorem dX11_laws_1 : decode cX11_laws 1 = .ok (.iconst 0, 1) := by decide +kernel
theorem dX11_laws_2 : decode cX11_laws 2 = .ok (.putfield 1, 3) := by decide +kernel
theorem dX11_laws_5 : decode cX11_laws 5 = .ok (.aload_n 0, 1) := by decide +kernel
theorem dX11_laws_6 : decode cX11_laws 6 = .ok (.iconst 0, 1) := by decide +kernel
theorem dX11_laws_7 : decode cX11_laws 7 = .ok (.invokevirtual 358, 3) := by decide +kernel
theorem dX11_laws_10 : decode cX11_laws 10 = .ok (.ireturn, 1) := by decide +kernel
theorem dX11_freePegs_0 : decode cX11_freePegs 0 = .ok (.iconst 0, 1) := by decide +kernel
theorem dX11_freePegs_1 : decode cX11_freePegs 1 = .ok (.istore_n 2, 1) := by decide +kernel
theorem dX11_freePegs_2 : decode cX11_freePegs 2 = .ok (.iconst 0, 1) := by decide +kernel
theorem dX11_freePegs_3 : decode cX11_freePegs 3 = .ok (.istore_n 3, 1) := by decide +kernel
theorem dX11_freePegs_4 : decode cX11_freePegs 4 = .ok (.iload_n 3, 1) := by decide +kernel
theorem dX11_freePegs_5 : decode cX11_freePegs 5 = .ok (.aload_n 0, 1) := by decide +kernel
theorem dX11_freePegs_6 : decode cX11_freePegs 6 = .ok (.getfield 113, 3) := by decide +kernel
theorem dX11_freePegs_9 : decode cX11_freePegs 9 = .ok (.iload_n 1, 1) := by decide +kernel
theorem dX11_freePegs_10 : decode cX11_freePegs 10 = .ok (.iconst 1, 1) := by decide +kernel
theorem dX11_freePegs_11 : decode cX11_freePegs 11 = .ok (.iadd, 1) := by decide +kernel
theorem dX11_freePegs_12 : decode cX11_freePegs 12 = .ok (.iaload, 1) := by decide +kernel
theorem dX11_freePegs_13 : decode cX11_freePegs 13 = .ok (.if_icmp .ge 42, 3) := by decide +kernel
theorem dX11_freePegs_16 : decode cX11_freePegs 16 = .ok (.iload_n 2, 1) := by decide +kernel
theorem dX11_freePegs_17 : decode cX11_freePegs 17 = .ok (.aload_n 0, 1) := by decide +kernel
theorem dX11_freePegs_18 : decode cX11_freePegs 18 = .ok (.getfield 113, 3) := by decide +kernel
theorem dX11_freePegs_21 : decode cX11_freePegs 21 = .ok (.iload_n 1, 1) := by decide +kernel
theorem dX11_freePegs_22 : decode cX11_freePegs 22 = .ok (.bipush 20, 2) := by decide +kernel
theorem dX11_freePegs_24 : decode cX11_freePegs 24 = .ok (.iadd, 1) := by decide +kernel
theorem dX11_freePegs_25 : decode cX11_freePegs 25 = .ok (.iload_n 3, 1) := by decide +kernel
theorem dX11_freePegs_26 : decode cX11_freePegs 26 = .ok (.iadd, 1) := by decide +kernel
theorem dX11_freePegs_27 : decode cX11_freePegs 27 = .ok (.iaload, 1) := by decide +kernel
theorem dX11_freePegs_28 : decode cX11_freePegs 28 = .ok (.ifCond .le 18, 3) := by decide +kernel
theorem dX11_freePegs_31 : decode cX11_freePegs 31 = .ok (.aload_n 0, 1) := by decide +kernel
theorem dX11_freePegs_32 : decode cX11_freePegs 32 = .ok (.iload_n 1, 1) := by decide +kernel
theorem dX11_freePegs_33 : decode cX11_freePegs 33 = .ok (.iload_n 3, 1) := by decide +kernel
theorem dX11_freePegs_34 : decode cX11_freePegs 34 = .ok (.invokevirtual 355, 3) := by decide +kernel
theorem dX11_freePegs_37 : decode cX11_freePegs 37 = .ok (.ifCond .ge 9, 3) := by decide +kernel
theorem dX11_freePegs_40 : decode cX11_freePegs 40 = .ok (.iconst 1, 1) := by decide +kernel
theorem dX11_freePegs_41 : decode cX11_freePegs 41 = .ok (.iload_n 3, 1) := by decide +kernel
theorem dX11_freePegs_42 : decode cX11_freePegs 42 = .ok (.ishl, 1) := by decide +kernel
theorem dX11_freePegs_43 : decode cX11_freePegs 43 = .ok (.goto 4, 3) := by decide +kernel
theorem dX11_freePegs_46 : decode cX11_freePegs 46 = .ok (.iconst 0, 1) := by decide +kernel
theorem dX11_freePegs_47 : decode cX11_freePegs 47 = .ok (.ior, 1) := by decide +kernel
theorem dX11_freePegs_48 : decode cX11_freePegs 48 = .ok (.istore_n 2, 1) := by decide +kernel
theorem dX11_freePegs_49 : decode cX11_freePegs 49 = .ok (.iinc 3 1, 3) := by decide +kernel
theorem dX11_freePegs_52 : decode cX11_freePegs 52 = .ok (.goto (-48), 3) := by decide +kernel
theorem dX11_freePegs_55 : decode cX11_freePegs 55 = .ok (.iload_n 2, 1) := by decide +kernel
theorem dX11_freePegs_56 : decode cX11_freePegs 56 = .ok (.ireturn, 1) := by decide +kernel
theorem dX11_free_0 : decode cX11_free 0 = .ok (.aload_n 0, 1) := by decide +kernel
theorem dX11_free_1 : decode cX11_free 1 = .ok (.iconst 0, 1) := by decide +kernel
theorem dX11_free_2 : decode cX11_free 2 = .ok (.putfield 1, 3) := by decide +kernel
theorem dX11_free_5 : decode cX11_free 5 = .ok (.aload_n 0, 1) := by decide +kernel
theorem dX11_free_6 : decode cX11_free 6 = .ok (.iconst 0, 1) := by decide +kernel
theorem dX11_free_7 : decode cX11_free 7 = .ok (.invokevirtual 361, 3) := by decide +kernel
theorem dX11_free_10 : decode cX11_free 10 = .ok (.ireturn, 1) := by decide +kernel
theorem dX11_mayHang_0 : decode cX11_mayHang 0 = .ok (.iload_n 3, 1) := by decide +kernel
theorem dX11_mayHang_1 : decode cX11_mayHang 1 = .ok (.invokestatic 298, 3) := by decide +kernel
theorem dX11_mayHang_4 : decode cX11_mayHang 4 = .ok (.istore 4, 2) := by decide +kernel
theorem dX11_mayHang_6 : decode cX11_mayHang 6 = .ok (.aload_n 0, 1) := by decide +kernel
theorem dX11_mayHang_7 : decode cX11_mayHang 7 = .ok (.iload_n 1, 1) := by decide +kernel
theorem dX11_mayHang_8 : decode cX11_mayHang 8 = .ok (.iload_n 2, 1) := by decide +kernel
theorem dX11_mayHang_9 : decode cX11_mayHang 9 = .ok (.invokevirtual 304, 3) := by decide +kernel
theorem dX11_mayHang_12 : decode cX11_mayHang 12 = .ok (.ifCond .ne 35, 3) := by decide +kernel
theorem dX11_mayHang_15 : decode cX11_mayHang 15 = .ok (.iload_n 3, 1) := by decide +kernel
theorem dX11_mayHang_16 : decode cX11_mayHang 16 = .ok (.aload_n 0, 1) := by decide +kernel
theorem dX11_mayHang_17 : decode cX11_mayHang 17 = .ok (.iload_n 1, 1) := by decide +kernel
theorem dX11_mayHang_18 : decode cX11_mayHang 18 = .ok (.invokevirtual 361, 3) := by decide +kernel
theorem dX11_mayHang_21 : decode cX11_mayHang 21 = .ok (.iconst (-1), 1) := by decide +kernel
theorem dX11_mayHang_22 : decode cX11_mayHang 22 = .ok (.ixor, 1) := by decide +kernel
theorem dX11_mayHang_23 : decode cX11_mayHang 23 = .ok (.iand, 1) := by decide +kernel
theorem dX11_mayHang_24 : decode cX11_mayHang 24 = .ok (.ifCond .ne 23, 3) := by decide +kernel
theorem dX11_mayHang_27 : decode cX11_mayHang 27 = .ok (.iload 4, 2) := by decide +kernel
theorem dX11_mayHang_29 : decode cX11_mayHang 29 = .ok (.aload_n 0, 1) := by decide +kernel
theorem dX11_mayHang_30 : decode cX11_mayHang 30 = .ok (.iload_n 2, 1) := by decide +kernel
theorem dX11_mayHang_31 : decode cX11_mayHang 31 = .ok (.invokevirtual 301, 3) := by decide +kernel
theorem dX11_mayHang_34 : decode cX11_mayHang 34 = .ok (.if_icmp .eq 9, 3) := by decide +kernel
theorem dX11_mayHang_37 : decode cX11_mayHang 37 = .ok (.iload 4, 2) := by decide +kernel
theorem dX11_mayHang_39 : decode cX11_mayHang 39 = .ok (.iconst 1, 1) := by decide +kernel
theorem dX11_mayHang_40 : decode cX11_mayHang 40 = .ok (.if_icmp .ne 7, 3) := by decide +kernel
theorem dX11_mayHang_43 : decode cX11_mayHang 43 = .ok (.iconst 1, 1) := by decide +kernel
theorem dX11_mayHang_44 : decode cX11_mayHang 44 = .ok (.goto 4, 3) := by decide +kernel
theorem dX11_mayHang_47 : decode cX11_mayHang 47 = .ok (.iconst 0, 1) := by decide +kernel
theorem dX11_mayHang_48 : decode cX11_mayHang 48 = .ok (.istore 5, 2) := by decide +kernel
theorem dX11_mayHang_50 : decode cX11_mayHang 50 = .ok (.iload 5, 2) := by decide +kernel
theorem dX11_mayHang_52 : decode cX11_mayHang 52 = .ok (.ifCond .eq 22, 3) := by decide +kernel
theorem dX11_mayHang_55 : decode cX11_mayHang 55 = .ok (.aload_n 0, 1) := by decide +kernel
theorem dX11_mayHang_56 : decode cX11_mayHang 56 = .ok (.iload_n 2, 1) := by decide +kernel
theorem dX11_mayHang_57 : decode cX11_mayHang 57 = .ok (.iload 4, 2) := by decide +kernel
theorem dX11_mayHang_59 : decode cX11_mayHang 59 = .ok (.invokevirtual 308, 3) := by decide +kernel
theorem dX11_mayHang_62 : decode cX11_mayHang 62 = .ok (.aload_n 0, 1) := by decide +kernel
theorem dX11_mayHang_63 : decode cX11_mayHang 63 = .ok (.iload_n 1, 1) := by decide +kernel
theorem dX11_mayHang_64 : decode cX11_mayHang 64 = .ok (.invokevirtual 364, 3) := by decide +kernel
theorem dX11_mayHang_67 : decode cX11_mayHang 67 = .ok (.if_icmp .gt 7, 3) := by decide +kernel
theorem dX11_mayHang_70 : decode cX11_mayHang 70 = .ok (.iconst 1, 1) := by decide +kernel
theorem dX11_mayHang_71 : decode cX11_mayHang 71 = .ok (.goto 4, 3) := by decide +kernel
theorem dX11_mayHang_74 : decode cX11_mayHang 74 = .ok (.iconst 0, 1) := by decide +kernel
theorem dX11_mayHang_75 : decode cX11_mayHang 75 = .ok (.ireturn, 1) := by decide +kernel
theorem dX11_hang_0 : decode cX11_hang 0 = .ok (.aload_n 0, 1) := by decide +kernel
theorem dX11_hang_1 : decode cX11_hang 1 = .ok (.iconst 0, 1) := by decide +kernel
theorem dX11_hang_2 : decode cX11_hang 2 = .ok (.putfield 1, 3) := by decide +kernel
theorem dX11_hang_5 : decode cX11_hang 5 = .ok (.aload_n 0, 1) := by decide +kernel
theorem dX11_hang_6 : decode cX11_hang 6 = .ok (.iload_n 1, 1) := by decide +kernel
theorem dX11_hang_7 : decode cX11_hang 7 = .ok (.invokevirtual 346, 3) := by decide +kernel
theorem dX11_hang_10 : decode cX11_hang 10 = .ok (.ifCond .eq 24, 3) := by decide +kernel
theorem dX11_hang_13 : decode cX11_hang 13 = .ok (.iload_n 2, 1) := by decide +kernel
theorem dX11_hang_14 : decode cX11_hang 14 = .ok (.iconst 1, 1) := by decide +kernel
theorem dX11_hang_15 : decode cX11_hang 15 = .ok (.sipush 255, 3) := by decide +kernel
theorem dX11_hang_18 : decode cX11_hang 18 = .ok (.invokestatic 349, 3) := by decide +kernel
theorem dX11_hang_21 : decode cX11_hang 21 = .ok (.ifCond .eq 13, 3) := by decide +kernel
theorem dX11_hang_24 : decode cX11_hang 24 = .ok (.aload_n 0, 1) := by decide +kernel
theorem dX11_hang_25 : decode cX11_hang 25 = .ok (.iconst 0, 1) := by decide +kernel
theorem dX11_hang_26 : decode cX11_hang 26 = .ok (.iload_n 1, 1) := by decide +kernel
theorem dX11_hang_27 : decode cX11_hang 27 = .ok (.iload_n 2, 1) := by decide +kernel
theorem dX11_hang_28 : decode cX11_hang 28 = .ok (.invokevirtual 367, 3) := by decide +kernel
theorem dX11_hang_31 : decode cX11_hang 31 = .ok (.ifCond .ne 5, 3) := by decide +kernel
theorem dX11_hang_34 : decode cX11_hang 34 = .ok (.iconst (-1), 1) := by decide +kernel
theorem dX11_hang_35 : decode cX11_hang 35 = .ok (.ireturn, 1) := by decide +kernel
theorem dX11_hang_36 : decode cX11_hang 36 = .ok (.aload_n 0, 1) := by decide +kernel
theorem dX11_hang_37 : decode cX11_hang 37 = .ok (.invokevirtual 370, 3) := by decide +kernel
theorem dX11_hang_40 : decode cX11_hang 40 = .ok (.aload_n 0, 1) := by decide +kernel
theorem dX11_hang_41 : decode cX11_hang 41 = .ok (.getfield 113, 3) := by decide +kernel
theorem dX11_hang_44 : decode cX11_hang 44 = .ok (.bipush 14, 2) := by decide +kernel
theorem dX11_hang_46 : decode cX11_hang 46 = .ok (.iload_n 1, 1) := by decide +kernel
theorem dX11_hang_47 : decode cX11_hang 47 = .ok (.iadd, 1) := by decide +kernel
theorem dX11_hang_48 : decode cX11_hang 48 = .ok (.iload_n 2, 1) := by decide +kernel
theorem dX11_hang_49 : decode cX11_hang 49 = .ok (.iastore, 1) := by decide +kernel
theorem dX11_hang_50 : decode cX11_hang 50 = .ok (.aload_n 0, 1) := by decide +kernel
theorem dX11_hang_51 : decode cX11_hang 51 = .ok (.iconst 0, 1) := by decide +kernel
theorem dX11_hang_52 : decode cX11_hang 52 = .ok (.invokevirtual 364, 3) := by decide +kernel
theorem dX11_hang_55 : decode cX11_hang 55 = .ok (.ireturn, 1) := by decide +kernel
theorem dX11_take_0 : decode cX11_take 0 = .ok (.aload_n 0, 1) := by decide +kernel
theorem dX11_take_1 : decode cX11_take 1 = .ok (.iconst 0, 1) := by decide +kernel
theorem dX11_take_2 : decode cX11_take 2 = .ok (.putfield 1, 3) := by decide +kernel
theorem dX11_take_5 : decode cX11_take 5 = .ok (.aload_n 0, 1) := by decide +kernel
theorem dX11_take_6 : decode cX11_take 6 = .ok (.iload_n 1, 1) := by decide +kernel
theorem dX11_take_7 : decode cX11_take 7 = .ok (.invokevirtual 346, 3) := by decide +kernel
theorem dX11_take_10 : decode cX11_take 10 = .ok (.ifCond .eq 12, 3) := by decide +kernel
theorem dX11_take_13 : decode cX11_take 13 = .ok (.aload_n 0, 1) := by decide +kernel
theorem dX11_take_14 : decode cX11_take 14 = .ok (.iconst 0, 1) := by decide +kernel
theorem dX11_take_15 : decode cX11_take 15 = .ok (.iload_n 1, 1) := by decide +kernel
theorem dX11_take_16 : decode cX11_take 16 = .ok (.invokevirtual 304, 3) := by decide +kernel
theorem dX11_take_19 : decode cX11_take 19 = .ok (.ifCond .ne 5, 3) := by decide +kernel
theorem dX11_take_22 : decode cX11_take 22 = .ok (.iconst 0, 1) := by decide +kernel
theorem dX11_take_23 : decode cX11_take 23 = .ok (.ireturn, 1) := by decide +kernel
theorem dX11_take_24 : decode cX11_take 24 = .ok (.aload_n 0, 1) := by decide +kernel
theorem dX11_take_25 : decode cX11_take 25 = .ok (.invokevirtual 370, 3) := by decide +kernel
theorem dX11_take_28 : decode cX11_take 28 = .ok (.aload_n 0, 1) := by decide +kernel
theorem dX11_take_29 : decode cX11_take 29 = .ok (.getfield 113, 3) := by decide +kernel
theorem dX11_take_32 : decode cX11_take 32 = .ok (.bipush 14, 2) := by decide +kernel
theorem dX11_take_34 : decode cX11_take 34 = .ok (.iload_n 1, 1) := by decide +kernel
theorem dX11_take_35 : decode cX11_take 35 = .ok (.iadd, 1) := by decide +kernel
theorem dX11_take_36 : decode cX11_take 36 = .ok (.iconst 0, 1) := by decide +kernel
theorem dX11_take_37 : decode cX11_take 37 = .ok (.iastore, 1) := by decide +kernel
theorem dX11_take_38 : decode cX11_take 38 = .ok (.iconst 1, 1) := by decide +kernel
theorem dX11_take_39 : decode cX11_take 39 = .ok (.ireturn, 1) := by decide +kernel
theorem dX11_washes_0 : decode cX11_washes 0 = .ok (.aload_n 0, 1) := by decide +kernel
theorem dX11_washes_1 : decode cX11_washes 1 = .ok (.getfield 113, 3) := by decide +kernel
theorem dX11_washes_4 : decode cX11_washes 4 = .ok (.iload_n 1, 1) := by decide +kernel
theorem dX11_washes_5 : decode cX11_washes 5 = .ok (.bipush 8, 2) := by decide +kernel
theorem dX11_washes_7 : decode cX11_washes 7 = .ok (.iadd, 1) := by decide +kernel
theorem dX11_washes_8 : decode cX11_washes 8 = .ok (.iload_n 2, 1) := by decide +kernel
theorem dX11_washes_9 : decode cX11_washes 9 = .ok (.iadd, 1) := by decide +kernel
theorem dX11_washes_10 : decode cX11_washes 10 = .ok (.iaload, 1) := by decide +kernel
theorem dX11_washes_11 : decode cX11_washes 11 = .ok (.istore_n 3, 1) := by decide +kernel
theorem dX11_washes_12 : decode cX11_washes 12 = .ok (.aload_n 0, 1) := by decide +kernel
theorem dX11_washes_13 : decode cX11_washes 13 = .ok (.getfield 113, 3) := by decide +kernel
theorem dX11_washes_16 : decode cX11_washes 16 = .ok (.iload_n 1, 1) := by decide +kernel
theorem dX11_washes_17 : decode cX11_washes 17 = .ok (.bipush 8, 2) := by decide +kernel
theorem dX11_washes_19 : decode cX11_washes 19 = .ok (.iadd, 1) := by decide +kernel
theorem dX11_washes_20 : decode cX11_washes 20 = .ok (.iload_n 2, 1) := by decide +kernel
theorem dX11_washes_21 : decode cX11_washes 21 = .ok (.iadd, 1) := by decide +kernel
theorem dX11_washes_22 : decode cX11_washes 22 = .ok (.iconst 0, 1) := by decide +kernel
theorem dX11_washes_23 : decode cX11_washes 23 = .ok (.iastore, 1) := by decide +kernel
theorem dX11_washes_24 : decode cX11_washes 24 = .ok (.aload_n 0, 1) := by decide +kernel
theorem dX11_washes_25 : decode cX11_washes 25 = .ok (.getfield 113, 3) := by decide +kernel
theorem dX11_washes_28 : decode cX11_washes 28 = .ok (.iload_n 1, 1) := by decide +kernel
theorem dX11_washes_29 : decode cX11_washes 29 = .ok (.iconst 2, 1) := by decide +kernel
theorem dX11_washes_30 : decode cX11_washes 30 = .ok (.iadd, 1) := by decide +kernel
theorem dX11_washes_31 : decode cX11_washes 31 = .ok (.iload_n 2, 1) := by decide +kernel
theorem dX11_washes_32 : decode cX11_washes 32 = .ok (.iadd, 1) := by decide +kernel
theorem dX11_washes_33 : decode cX11_washes 33 = .ok (.bipush 9, 2) := by decide +kernel
theorem dX11_washes_35 : decode cX11_washes 35 = .ok (.iastore, 1) := by decide +kernel
theorem dX11_washes_36 : decode cX11_washes 36 = .ok (.iload_n 3, 1) := by decide +kernel
theorem dX11_washes_37 : decode cX11_washes 37 = .ok (.ireturn, 1) := by decide +kernel
theorem dX11_wash_0 : decode cX11_wash 0 = .ok (.aload_n 0, 1) := by decide +kernel
theorem dX11_wash_1 : decode cX11_wash 1 = .ok (.iconst 0, 1) := by decide +kernel
theorem dX11_wash_2 : decode cX11_wash 2 = .ok (.putfield 1, 3) := by decide +kernel
theorem dX11_wash_5 : decode cX11_wash 5 = .ok (.aload_n 0, 1) := by decide +kernel
theorem dX11_wash_6 : decode cX11_wash 6 = .ok (.iload_n 1, 1) := by decide +kernel
theorem dX11_wash_7 : decode cX11_wash 7 = .ok (.invokevirtual 346, 3) := by decide +kernel
theorem dX11_wash_10 : decode cX11_wash 10 = .ok (.ifCond .eq 12, 3) := by decide +kernel
theorem dX11_wash_13 : decode cX11_wash 13 = .ok (.aload_n 0, 1) := by decide +kernel
theorem dX11_wash_14 : decode cX11_wash 14 = .ok (.iconst 0, 1) := by decide +kernel
theorem dX11_wash_15 : decode cX11_wash 15 = .ok (.iload_n 1, 1) := by decide +kernel
theorem dX11_wash_16 : decode cX11_wash 16 = .ok (.invokevirtual 304, 3) := by decide +kernel
theorem dX11_wash_19 : decode cX11_wash 19 = .ok (.ifCond .eq 5, 3) := by decide +kernel
theorem dX11_wash_22 : decode cX11_wash 22 = .ok (.iconst (-1), 1) := by decide +kernel
theorem dX11_wash_23 : decode cX11_wash 23 = .ok (.ireturn, 1) := by decide +kernel
theorem dX11_wash_24 : decode cX11_wash 24 = .ok (.aload_n 0, 1) := by decide +kernel
theorem dX11_wash_25 : decode cX11_wash 25 = .ok (.invokevirtual 370, 3) := by decide +kernel
theorem dX11_wash_28 : decode cX11_wash 28 = .ok (.aload_n 0, 1) := by decide +kernel
theorem dX11_wash_29 : decode cX11_wash 29 = .ok (.iconst 0, 1) := by decide +kernel
theorem dX11_wash_30 : decode cX11_wash 30 = .ok (.iload_n 1, 1) := by decide +kernel
theorem dX11_wash_31 : decode cX11_wash 31 = .ok (.invokevirtual 373, 3) := by decide +kernel
theorem dX11_wash_34 : decode cX11_wash 34 = .ok (.ireturn, 1) := by decide +kernel
theorem dX11_buys_0 : decode cX11_buys 0 = .ok (.aload_n 0, 1) := by decide +kernel
theorem dX11_buys_1 : decode cX11_buys 1 = .ok (.getfield 113, 3) := by decide +kernel
theorem dX11_buys_4 : decode cX11_buys 4 = .ok (.iload_n 1, 1) := by decide +kernel
theorem dX11_buys_5 : decode cX11_buys 5 = .ok (.iconst 1, 1) := by decide +kernel
theorem dX11_buys_6 : decode cX11_buys 6 = .ok (.iadd, 1) := by decide +kernel
theorem dX11_buys_7 : decode cX11_buys 7 = .ok (.iaload, 1) := by decide +kernel
theorem dX11_buys_8 : decode cX11_buys 8 = .ok (.istore_n 3, 1) := by decide +kernel
theorem dX11_buys_9 : decode cX11_buys 9 = .ok (.aload_n 0, 1) := by decide +kernel
theorem dX11_buys_10 : decode cX11_buys 10 = .ok (.getfield 113, 3) := by decide +kernel
theorem dX11_buys_13 : decode cX11_buys 13 = .ok (.iload_n 1, 1) := by decide +kernel
theorem dX11_buys_14 : decode cX11_buys 14 = .ok (.bipush 20, 2) := by decide +kernel
theorem dX11_buys_16 : decode cX11_buys 16 = .ok (.iadd, 1) := by decide +kernel
theorem dX11_buys_17 : decode cX11_buys 17 = .ok (.iload_n 3, 1) := by decide +kernel
theorem dX11_buys_18 : decode cX11_buys 18 = .ok (.iadd, 1) := by decide +kernel
theorem dX11_buys_19 : decode cX11_buys 19 = .ok (.iload_n 2, 1) := by decide +kernel
theorem dX11_buys_20 : decode cX11_buys 20 = .ok (.iastore, 1) := by decide +kernel
theorem dX11_buys_21 : decode cX11_buys 21 = .ok (.aload_n 0, 1) := by decide +kernel
theorem dX11_buys_22 : decode cX11_buys 22 = .ok (.getfield 113, 3) := by decide +kernel
theorem dX11_buys_25 : decode cX11_buys 25 = .ok (.iload_n 1, 1) := by decide +kernel
theorem dX11_buys_26 : decode cX11_buys 26 = .ok (.iconst 1, 1) := by decide +kernel
theorem dX11_buys_27 : decode cX11_buys 27 = .ok (.iadd, 1) := by decide +kernel
theorem dX11_buys_28 : decode cX11_buys 28 = .ok (.dup2, 1) := by decide +kernel
theorem dX11_buys_29 : decode cX11_buys 29 = .ok (.iaload, 1) := by decide +kernel
theorem dX11_buys_30 : decode cX11_buys 30 = .ok (.iconst 1, 1) := by decide +kernel
theorem dX11_buys_31 : decode cX11_buys 31 = .ok (.iadd, 1) := by decide +kernel
theorem dX11_buys_32 : decode cX11_buys 32 = .ok (.iastore, 1) := by decide +kernel
theorem dX11_buys_33 : decode cX11_buys 33 = .ok (.iload_n 3, 1) := by decide +kernel
theorem dX11_buys_34 : decode cX11_buys 34 = .ok (.ireturn, 1) := by decide +kernel
theorem dX11_buy_0 : decode cX11_buy 0 = .ok (.aload_n 0, 1) := by decide +kernel
theorem dX11_buy_1 : decode cX11_buy 1 = .ok (.iconst 0, 1) := by decide +kernel
theorem dX11_buy_2 : decode cX11_buy 2 = .ok (.putfield 1, 3) := by decide +kernel
theorem dX11_buy_5 : decode cX11_buy 5 = .ok (.iload_n 1, 1) := by decide +kernel
theorem dX11_buy_6 : decode cX11_buy 6 = .ok (.iconst 1, 1) := by decide +kernel
theorem dX11_buy_7 : decode cX11_buy 7 = .ok (.bipush 9, 2) := by decide +kernel
theorem dX11_buy_9 : decode cX11_buy 9 = .ok (.invokestatic 349, 3) := by decide +kernel
theorem dX11_buy_12 : decode cX11_buy 12 = .ok (.ifCond .eq 14, 3) := by decide +kernel
theorem dX11_buy_15 : decode cX11_buy 15 = .ok (.aload_n 0, 1) := by decide +kernel
theorem dX11_buy_16 : decode cX11_buy 16 = .ok (.getfield 113, 3) := by decide +kernel
theorem dX11_buy_19 : decode cX11_buy 19 = .ok (.iconst 1, 1) := by decide +kernel
theorem dX11_buy_20 : decode cX11_buy 20 = .ok (.iaload, 1) := by decide +kernel
theorem dX11_buy_21 : decode cX11_buy 21 = .ok (.bipush 8, 2) := by decide +kernel
theorem dX11_buy_23 : decode cX11_buy 23 = .ok (.if_icmp .ne 5, 3) := by decide +kernel
theorem dX11_buy_26 : decode cX11_buy 26 = .ok (.iconst (-1), 1) := by decide +kernel
theorem dX11_buy_27 : decode cX11_buy 27 = .ok (.ireturn, 1) := by decide +kernel
theorem dX11_buy_28 : decode cX11_buy 28 = .ok (.aload_n 0, 1) := by decide +kernel
theorem dX11_buy_29 : decode cX11_buy 29 = .ok (.invokevirtual 370, 3) := by decide +kernel
theorem dX11_buy_32 : decode cX11_buy 32 = .ok (.aload_n 0, 1) := by decide +kernel
theorem dX11_buy_33 : decode cX11_buy 33 = .ok (.iconst 0, 1) := by decide +kernel
theorem dX11_buy_34 : decode cX11_buy 34 = .ok (.iload_n 1, 1) := by decide +kernel
theorem dX11_buy_35 : decode cX11_buy 35 = .ok (.invokevirtual 376, 3) := by decide +kernel
theorem dX11_buy_38 : decode cX11_buy 38 = .ok (.ireturn, 1) := by decide +kernel
theorem dX11_hour_0 : decode cX11_hour 0 = .ok (.aload_n 0, 1) := by decide +kernel
theorem dX11_hour_1 : decode cX11_hour 1 = .ok (.iconst 0, 1) := by decide +kernel
theorem dX11_hour_2 : decode cX11_hour 2 = .ok (.putfield 1, 3) := by decide +kernel
theorem dX11_hour_5 : decode cX11_hour 5 = .ok (.aload_n 0, 1) := by decide +kernel
theorem dX11_hour_6 : decode cX11_hour 6 = .ok (.invokevirtual 370, 3) := by decide +kernel
theorem dX11_hour_9 : decode cX11_hour 9 = .ok (.aload_n 0, 1) := by decide +kernel
theorem dX11_hour_10 : decode cX11_hour 10 = .ok (.iconst 0, 1) := by decide +kernel
theorem dX11_hour_11 : decode cX11_hour 11 = .ok (.iconst 0, 1) := by decide +kernel
theorem dX11_hour_12 : decode cX11_hour 12 = .ok (.invokevirtual 379, 3) := by decide +kernel
theorem dX11_hour_15 : decode cX11_hour 15 = .ok (.ireturn, 1) := by decide +kernel
theorem dX11_undo_0 : decode cX11_undo 0 = .ok (.aload_n 0, 1) := by decide +kernel
theorem dX11_undo_1 : decode cX11_undo 1 = .ok (.iconst 0, 1) := by decide +kernel
theorem dX11_undo_2 : decode cX11_undo 2 = .ok (.putfield 1, 3) := by decide +kernel
theorem dX11_undo_5 : decode cX11_undo 5 = .ok (.aload_n 0, 1) := by decide +kernel
theorem dX11_undo_6 : decode cX11_undo 6 = .ok (.getfield 285, 3) := by decide +kernel
theorem dX11_undo_9 : decode cX11_undo 9 = .ok (.ifCond .ne 5, 3) := by decide +kernel
theorem dX11_undo_12 : decode cX11_undo 12 = .ok (.iconst 0, 1) := by decide +kernel
theorem dX11_undo_13 : decode cX11_undo 13 = .ok (.ireturn, 1) := by decide +kernel
theorem dX11_undo_14 : decode cX11_undo 14 = .ok (.aload_n 0, 1) := by decide +kernel
theorem dX11_undo_15 : decode cX11_undo 15 = .ok (.dup, 1) := by decide +kernel
theorem dX11_undo_16 : decode cX11_undo 16 = .ok (.getfield 285, 3) := by decide +kernel
theorem dX11_undo_19 : decode cX11_undo 19 = .ok (.iconst 1, 1) := by decide +kernel
theorem dX11_undo_20 : decode cX11_undo 20 = .ok (.isub, 1) := by decide +kernel
theorem dX11_undo_21 : decode cX11_undo 21 = .ok (.putfield 285, 3) := by decide +kernel
theorem dX11_undo_24 : decode cX11_undo 24 = .ok (.aload_n 0, 1) := by decide +kernel
theorem dX11_undo_25 : decode cX11_undo 25 = .ok (.bipush 54, 2) := by decide +kernel
theorem dX11_undo_27 : decode cX11_undo 27 = .ok (.iconst 5, 1) := by decide +kernel
theorem dX11_undo_28 : decode cX11_undo 28 = .ok (.aload_n 0, 1) := by decide +kernel
theorem dX11_undo_29 : decode cX11_undo 29 = .ok (.getfield 285, 3) := by decide +kernel
theorem dX11_undo_32 : decode cX11_undo 32 = .ok (.iadd, 1) := by decide +kernel
theorem dX11_undo_33 : decode cX11_undo 33 = .ok (.imul, 1) := by decide +kernel
theorem dX11_undo_34 : decode cX11_undo 34 = .ok (.iconst 0, 1) := by decide +kernel
theorem dX11_undo_35 : decode cX11_undo 35 = .ok (.bipush 28, 2) := by decide +kernel
theorem dX11_undo_37 : decode cX11_undo 37 = .ok (.invokevirtual 288, 3) := by decide +kernel
theorem dX11_undo_40 : decode cX11_undo 40 = .ok (.iconst 1, 1) := by decide +kernel
theorem dX11_undo_41 : decode cX11_undo 41 = .ok (.ireturn, 1) := by decide +kernel
theorem dX11_does_0 : decode cX11_does 0 = .ok (.iload_n 1, 1) := by decide +kernel
theorem dX11_does_1 : decode cX11_does 1 = .ok (.ifCond .ne 15, 3) := by decide +kernel
theorem dX11_does_4 : decode cX11_does 4 = .ok (.aload_n 0, 1) := by decide +kernel
theorem dX11_does_5 : decode cX11_does 5 = .ok (.sipush 1134, 3) := by decide +kernel
theorem dX11_does_8 : decode cX11_does 8 = .ok (.iload_n 2, 1) := by decide +kernel
theorem dX11_does_9 : decode cX11_does 9 = .ok (.iload_n 3, 1) := by decide +kernel
theorem dX11_does_10 : decode cX11_does 10 = .ok (.invokevirtual 367, 3) := by decide +kernel
theorem dX11_does_13 : decode cX11_does 13 = .ok (.goto 61, 3) := by decide +kernel
theorem dX11_does_16 : decode cX11_does 16 = .ok (.iload_n 1, 1) := by decide +kernel
theorem dX11_does_17 : decode cX11_does 17 = .ok (.iconst 1, 1) := by decide +kernel
theorem dX11_does_18 : decode cX11_does 18 = .ok (.if_icmp .ne 14, 3) := by decide +kernel
theorem dX11_does_21 : decode cX11_does 21 = .ok (.aload_n 0, 1) := by decide +kernel
theorem dX11_does_22 : decode cX11_does 22 = .ok (.sipush 1134, 3) := by decide +kernel
theorem dX11_does_25 : decode cX11_does 25 = .ok (.iload_n 2, 1) := by decide +kernel
theorem dX11_does_26 : decode cX11_does 26 = .ok (.invokevirtual 304, 3) := by decide +kernel
theorem dX11_does_29 : decode cX11_does 29 = .ok (.goto 45, 3) := by decide +kernel
theorem dX11_does_32 : decode cX11_does 32 = .ok (.iload_n 1, 1) := by decide +kernel
theorem dX11_does_33 : decode cX11_does 33 = .ok (.iconst 2, 1) := by decide +kernel
theorem dX11_does_34 : decode cX11_does 34 = .ok (.if_icmp .ne 22, 3) := by decide +kernel
theorem dX11_does_37 : decode cX11_does 37 = .ok (.aload_n 0, 1) := by decide +kernel
theorem dX11_does_38 : decode cX11_does 38 = .ok (.sipush 1134, 3) := by decide +kernel
theorem dX11_does_41 : decode cX11_does 41 = .ok (.iload_n 2, 1) := by decide +kernel
theorem dX11_does_42 : decode cX11_does 42 = .ok (.invokevirtual 304, 3) := by decide +kernel
theorem dX11_does_45 : decode cX11_does 45 = .ok (.ifCond .ne 7, 3) := by decide +kernel
theorem dX11_does_48 : decode cX11_does 48 = .ok (.iconst 1, 1) := by decide +kernel
theorem dX11_does_49 : decode cX11_does 49 = .ok (.goto 25, 3) := by decide +kernel
theorem dX11_does_52 : decode cX11_does 52 = .ok (.iconst 0, 1) := by decide +kernel
theorem dX11_does_53 : decode cX11_does 53 = .ok (.goto 21, 3) := by decide +kernel
theorem dX11_does_56 : decode cX11_does 56 = .ok (.aload_n 0, 1) := by decide +kernel
theorem dX11_does_57 : decode cX11_does 57 = .ok (.getfield 113, 3) := by decide +kernel
theorem dX11_does_60 : decode cX11_does 60 = .ok (.sipush 1135, 3) := by decide +kernel
theorem dX11_does_63 : decode cX11_does 63 = .ok (.iaload, 1) := by decide +kernel
theorem dX11_does_64 : decode cX11_does 64 = .ok (.bipush 8, 2) := by decide +kernel
theorem dX11_does_66 : decode cX11_does 66 = .ok (.if_icmp .ge 7, 3) := by decide +kernel
theorem dX11_does_69 : decode cX11_does 69 = .ok (.iconst 1, 1) := by decide +kernel
theorem dX11_does_70 : decode cX11_does 70 = .ok (.goto 4, 3) := by decide +kernel
theorem dX11_does_73 : decode cX11_does 73 = .ok (.iconst 0, 1) := by decide +kernel
theorem dX11_does_74 : decode cX11_does 74 = .ok (.istore 4, 2) := by decide +kernel
theorem dX11_does_76 : decode cX11_does 76 = .ok (.iload 4, 2) := by decide +kernel
theorem dX11_does_78 : decode cX11_does 78 = .ok (.ifCond .eq 30, 3) := by decide +kernel
theorem dX11_does_81 : decode cX11_does 81 = .ok (.iload_n 1, 1) := by decide +kernel
theorem dX11_does_82 : decode cX11_does 82 = .ok (.iconst 2, 1) := by decide +kernel
theorem dX11_does_83 : decode cX11_does 83 = .ok (.if_icmp .ge 25, 3) := by decide +kernel
theorem dX11_does_86 : decode cX11_does 86 = .ok (.aload_n 0, 1) := by decide +kernel
theorem dX11_does_87 : decode cX11_does 87 = .ok (.getfield 113, 3) := by decide +kernel
theorem dX11_does_90 : decode cX11_does 90 = .ok (.sipush 1148, 3) := by decide +kernel
theorem dX11_does_93 : decode cX11_does 93 = .ok (.iload_n 2, 1) := by decide +kernel
theorem dX11_does_94 : decode cX11_does 94 = .ok (.iadd, 1) := by decide +kernel
theorem dX11_does_95 : decode cX11_does 95 = .ok (.iload_n 1, 1) := by decide +kernel
theorem dX11_does_96 : decode cX11_does 96 = .ok (.ifCond .ne 7, 3) := by decide +kernel
theorem dX11_does_99 : decode cX11_does 99 = .ok (.iload_n 3, 1) := by decide +kernel
theorem dX11_does_100 : decode cX11_does 100 = .ok (.goto 4, 3) := by decide +kernel
theorem dX11_does_103 : decode cX11_does 103 = .ok (.iconst 0, 1) := by decide +kernel
theorem dX11_does_104 : decode cX11_does 104 = .ok (.iastore, 1) := by decide +kernel
theorem dX11_does_105 : decode cX11_does 105 = .ok (.goto 39, 3) := by decide +kernel
theorem dX11_does_108 : decode cX11_does 108 = .ok (.iload 4, 2) := by decide +kernel
theorem dX11_does_110 : decode cX11_does 110 = .ok (.ifCond .eq 20, 3) := by decide +kernel
theorem dX11_does_113 : decode cX11_does 113 = .ok (.iload_n 1, 1) := by decide +kernel
theorem dX11_does_114 : decode cX11_does 114 = .ok (.iconst 2, 1) := by decide +kernel
theorem dX11_does_115 : decode cX11_does 115 = .ok (.if_icmp .ne 15, 3) := by decide +kernel
theorem dX11_does_118 : decode cX11_does 118 = .ok (.aload_n 0, 1) := by decide +kernel
theorem dX11_does_119 : decode cX11_does 119 = .ok (.sipush 1134, 3) := by decide +kernel
theorem dX11_does_122 : decode cX11_does 122 = .ok (.iload_n 2, 1) := by decide +kernel
theorem dX11_does_123 : decode cX11_does 123 = .ok (.invokevirtual 373, 3) := by decide +kernel
theorem dX11_does_126 : decode cX11_does 126 = .ok (.pop, 1) := by decide +kernel
theorem dX11_does_127 : decode cX11_does 127 = .ok (.goto 17, 3) := by decide +kernel
theorem dX11_does_130 : decode cX11_does 130 = .ok (.iload 4, 2) := by decide +kernel
theorem dX11_does_132 : decode cX11_does 132 = .ok (.ifCond .eq 12, 3) := by decide +kernel
theorem dX11_does_135 : decode cX11_does 135 = .ok (.aload_n 0, 1) := by decide +kernel
theorem dX11_does_136 : decode cX11_does 136 = .ok (.sipush 1134, 3) := by decide +kernel
theorem dX11_does_139 : decode cX11_does 139 = .ok (.iload_n 2, 1) := by decide +kernel
theorem dX11_does_140 : decode cX11_does 140 = .ok (.invokevirtual 376, 3) := by decide +kernel
theorem dX11_does_143 : decode cX11_does 143 = .ok (.pop, 1) := by decide +kernel
theorem dX11_does_144 : decode cX11_does 144 = .ok (.iload 4, 2) := by decide +kernel
theorem dX11_does_146 : decode cX11_does 146 = .ok (.ireturn, 1) := by decide +kernel
theorem dX11_judged_0 : decode cX11_judged 0 = .ok (.aload_n 0, 1) := by decide +kernel
theorem dX11_judged_1 : decode cX11_judged 1 = .ok (.iconst 0, 1) := by decide +kernel
theorem dX11_judged_2 : decode cX11_judged 2 = .ok (.putfield 1, 3) := by decide +kernel
theorem dX11_judged_5 : decode cX11_judged 5 = .ok (.iload_n 1, 1) := by decide +kernel
theorem dX11_judged_6 : decode cX11_judged 6 = .ok (.iconst 0, 1) := by decide +kernel
theorem dX11_judged_7 : decode cX11_judged 7 = .ok (.iconst 2, 1) := by decide +kernel
theorem dX11_judged_8 : decode cX11_judged 8 = .ok (.invokestatic 349, 3) := by decide +kernel
theorem dX11_judged_11 : decode cX11_judged 11 = .ok (.ifCond .ne 6, 3) := by decide +kernel
theorem dX11_judged_14 : decode cX11_judged 14 = .ok (.bipush (-2), 2) := by decide +kernel
theorem dX11_judged_16 : decode cX11_judged 16 = .ok (.ireturn, 1) := by decide +kernel
theorem dX11_judged_17 : decode cX11_judged 17 = .ok (.aload_n 0, 1) := by decide +kernel
theorem dX11_judged_18 : decode cX11_judged 18 = .ok (.sipush 1134, 3) := by decide +kernel
theorem dX11_judged_21 : decode cX11_judged 21 = .ok (.invokevirtual 282, 3) := by decide +kernel
theorem dX11_judged_24 : decode cX11_judged 24 = .ok (.iconst (-1), 1) := by decide +kernel
theorem dX11_judged_25 : decode cX11_judged 25 = .ok (.istore_n 2, 1) := by decide +kernel
theorem dX11_judged_26 : decode cX11_judged 26 = .ok (.iconst (-1), 1) := by decide +kernel
theorem dX11_judged_27 : decode cX11_judged 27 = .ok (.istore_n 3, 1) := by decide +kernel
theorem dX11_judged_28 : decode cX11_judged 28 = .ok (.iconst 0, 1) := by decide +kernel
theorem dX11_judged_29 : decode cX11_judged 29 = .ok (.istore 4, 2) := by decide +kernel
theorem dX11_judged_31 : decode cX11_judged 31 = .ok (.iload 4, 2) := by decide +kernel
theorem dX11_judged_33 : decode cX11_judged 33 = .ok (.aload_n 0, 1) := by decide +kernel
theorem dX11_judged_34 : decode cX11_judged 34 = .ok (.getfield 104, 3) := by decide +kernel
theorem dX11_judged_37 : decode cX11_judged 37 = .ok (.iconst 0, 1) := by decide +kernel
theorem dX11_judged_38 : decode cX11_judged 38 = .ok (.iaload, 1) := by decide +kernel
theorem dX11_judged_39 : decode cX11_judged 39 = .ok (.if_icmp .ge 103, 3) := by decide +kernel
theorem dX11_judged_42 : decode cX11_judged 42 = .ok (.aload_n 0, 1) := by decide +kernel
theorem dX11_judged_43 : decode cX11_judged 43 = .ok (.getfield 104, 3) := by decide +kernel
theorem dX11_judged_46 : decode cX11_judged 46 = .ok (.iconst 1, 1) := by decide +kernel
theorem dX11_judged_47 : decode cX11_judged 47 = .ok (.iconst 3, 1) := by decide +kernel
theorem dX11_judged_48 : decode cX11_judged 48 = .ok (.iload 4, 2) := by decide +kernel
theorem dX11_judged_50 : decode cX11_judged 50 = .ok (.imul, 1) := by decide +kernel
theorem dX11_judged_51 : decode cX11_judged 51 = .ok (.iadd, 1) := by decide +kernel
theorem dX11_judged_52 : decode cX11_judged 52 = .ok (.iaload, 1) := by decide +kernel
theorem dX11_judged_53 : decode cX11_judged 53 = .ok (.istore 5, 2) := by decide +kernel
theorem dX11_judged_55 : decode cX11_judged 55 = .ok (.iload 5, 2) := by decide +kernel
theorem dX11_judged_57 : decode cX11_judged 57 = .ok (.iconst 4, 1) := by decide +kernel
theorem dX11_judged_58 : decode cX11_judged 58 = .ok (.if_icmp .ne 32, 3) := by decide +kernel
theorem dX11_judged_61 : decode cX11_judged 61 = .ok (.aload_n 0, 1) := by decide +kernel
theorem dX11_judged_62 : decode cX11_judged 62 = .ok (.sipush 1134, 3) := by decide +kernel
theorem dX11_judged_65 : decode cX11_judged 65 = .ok (.iconst 0, 1) := by decide +kernel
theorem dX11_judged_66 : decode cX11_judged 66 = .ok (.invokevirtual 379, 3) := by decide +kernel
theorem dX11_judged_69 : decode cX11_judged 69 = .ok (.istore 6, 2) := by decide +kernel
theorem dX11_judged_71 : decode cX11_judged 71 = .ok (.iload 6, 2) := by decide +kernel
theorem dX11_judged_73 : decode cX11_judged 73 = .ok (.ifCond .le 12, 3) := by decide +kernel
theorem dX11_judged_76 : decode cX11_judged 76 = .ok (.iload_n 3, 1) := by decide +kernel
theorem dX11_judged_77 : decode cX11_judged 77 = .ok (.ifCond .ge 8, 3) := by decide +kernel
theorem dX11_judged_80 : decode cX11_judged 80 = .ok (.iload 4, 2) := by decide +kernel
theorem dX11_judged_82 : decode cX11_judged 82 = .ok (.goto 4, 3) := by decide +kernel
theorem dX11_judged_85 : decode cX11_judged 85 = .ok (.iload_n 3, 1) := by decide +kernel
theorem dX11_judged_86 : decode cX11_judged 86 = .ok (.istore_n 3, 1) := by decide +kernel
theorem dX11_judged_87 : decode cX11_judged 87 = .ok (.goto 49, 3) := by decide +kernel
theorem dX11_judged_90 : decode cX11_judged 90 = .ok (.aload_n 0, 1) := by decide +kernel
theorem dX11_judged_91 : decode cX11_judged 91 = .ok (.iload 5, 2) := by decide +kernel
theorem dX11_judged_93 : decode cX11_judged 93 = .ok (.aload_n 0, 1) := by decide +kernel
theorem dX11_judged_94 : decode cX11_judged 94 = .ok (.getfield 104, 3) := by decide +kernel
theorem dX11_judged_97 : decode cX11_judged 97 = .ok (.iconst 2, 1) := by decide +kernel
theorem dX11_judged_98 : decode cX11_judged 98 = .ok (.iconst 3, 1) := by decide +kernel
theorem dX11_judged_99 : decode cX11_judged 99 = .ok (.iload 4, 2) := by decide +kernel
theorem dX11_judged_101 : decode cX11_judged 101 = .ok (.imul, 1) := by decide +kernel
theorem dX11_judged_102 : decode cX11_judged 102 = .ok (.iadd, 1) := by decide +kernel
theorem dX11_judged_103 : decode cX11_judged 103 = .ok (.iaload, 1) := by decide +kernel
theorem dX11_judged_104 : decode cX11_judged 104 = .ok (.aload_n 0, 1) := by decide +kernel
theorem dX11_judged_105 : decode cX11_judged 105 = .ok (.getfield 104, 3) := by decide +kernel
theorem dX11_judged_108 : decode cX11_judged 108 = .ok (.iconst 3, 1) := by decide +kernel
theorem dX11_judged_109 : decode cX11_judged 109 = .ok (.iconst 3, 1) := by decide +kernel
theorem dX11_judged_110 : decode cX11_judged 110 = .ok (.iload 4, 2) := by decide +kernel
theorem dX11_judged_112 : decode cX11_judged 112 = .ok (.imul, 1) := by decide +kernel
theorem dX11_judged_113 : decode cX11_judged 113 = .ok (.iadd, 1) := by decide +kernel
theorem dX11_judged_114 : decode cX11_judged 114 = .ok (.iaload, 1) := by decide +kernel
theorem dX11_judged_115 : decode cX11_judged 115 = .ok (.invokevirtual 382, 3) := by decide +kernel
theorem dX11_judged_118 : decode cX11_judged 118 = .ok (.istore 6, 2) := by decide +kernel
theorem dX11_judged_120 : decode cX11_judged 120 = .ok (.iload 6, 2) := by decide +kernel
theorem dX11_judged_122 : decode cX11_judged 122 = .ok (.ifCond .ne 12, 3) := by decide +kernel
theorem dX11_judged_125 : decode cX11_judged 125 = .ok (.iload_n 2, 1) := by decide +kernel
theorem dX11_judged_126 : decode cX11_judged 126 = .ok (.ifCond .ge 8, 3) := by decide +kernel
theorem dX11_judged_129 : decode cX11_judged 129 = .ok (.iload 4, 2) := by decide +kernel
theorem dX11_judged_131 : decode cX11_judged 131 = .ok (.goto 4, 3) := by decide +kernel
theorem dX11_judged_134 : decode cX11_judged 134 = .ok (.iload_n 2, 1) := by decide +kernel
theorem dX11_judged_135 : decode cX11_judged 135 = .ok (.istore_n 2, 1) := by decide +kernel
theorem dX11_judged_136 : decode cX11_judged 136 = .ok (.iinc 4 1, 3) := by decide +kernel
theorem dX11_judged_139 : decode cX11_judged 139 = .ok (.goto (-108), 3) := by decide +kernel
theorem dX11_judged_142 : decode cX11_judged 142 = .ok (.iload_n 1, 1) := by decide +kernel
theorem dX11_judged_143 : decode cX11_judged 143 = .ok (.ifCond .ne 7, 3) := by decide +kernel
theorem dX11_judged_146 : decode cX11_judged 146 = .ok (.iload_n 2, 1) := by decide +kernel
theorem dX11_judged_147 : decode cX11_judged 147 = .ok (.goto 23, 3) := by decide +kernel
theorem dX11_judged_150 : decode cX11_judged 150 = .ok (.iload_n 1, 1) := by decide +kernel
theorem dX11_judged_151 : decode cX11_judged 151 = .ok (.iconst 1, 1) := by decide +kernel
theorem dX11_judged_152 : decode cX11_judged 152 = .ok (.if_icmp .ne 7, 3) := by decide +kernel
theorem dX11_judged_155 : decode cX11_judged 155 = .ok (.iload_n 3, 1) := by decide +kernel
theorem dX11_judged_156 : decode cX11_judged 156 = .ok (.goto 14, 3) := by decide +kernel
theorem dX11_judged_159 : decode cX11_judged 159 = .ok (.aload_n 0, 1) := by decide +kernel
theorem dX11_judged_160 : decode cX11_judged 160 = .ok (.aload_n 0, 1) := by decide +kernel
theorem dX11_judged_161 : decode cX11_judged 161 = .ok (.sipush 1134, 3) := by decide +kernel
theorem dX11_judged_164 : decode cX11_judged 164 = .ok (.invokevirtual 358, 3) := by decide +kernel
theorem dX11_judged_167 : decode cX11_judged 167 = .ok (.invokevirtual 385, 3) := by decide +kernel
theorem dX11_judged_170 : decode cX11_judged 170 = .ok (.ireturn, 1) := by decide +kernel
theorem dX11_holds_0 : decode cX11_holds 0 = .ok (.aload_n 0, 1) := by decide +kernel
theorem dX11_holds_1 : decode cX11_holds 1 = .ok (.iconst 0, 1) := by decide +kernel
theorem dX11_holds_2 : decode cX11_holds 2 = .ok (.putfield 1, 3) := by decide +kernel
theorem dX11_holds_5 : decode cX11_holds 5 = .ok (.aload_n 0, 1) := by decide +kernel
theorem dX11_holds_6 : decode cX11_holds 6 = .ok (.iload_n 1, 1) := by decide +kernel
theorem dX11_holds_7 : decode cX11_holds 7 = .ok (.invokevirtual 346, 3) := by decide +kernel
theorem dX11_holds_10 : decode cX11_holds 10 = .ok (.ifCond .eq 12, 3) := by decide +kernel
theorem dX11_holds_13 : decode cX11_holds 13 = .ok (.aload_n 0, 1) := by decide +kernel
theorem dX11_holds_14 : decode cX11_holds 14 = .ok (.iconst 0, 1) := by decide +kernel
theorem dX11_holds_15 : decode cX11_holds 15 = .ok (.iload_n 1, 1) := by decide +kernel
theorem dX11_holds_16 : decode cX11_holds 16 = .ok (.invokevirtual 304, 3) := by decide +kernel
theorem dX11_holds_19 : decode cX11_holds 19 = .ok (.ifCond .ne 5, 3) := by decide +kernel
theorem dX11_holds_22 : decode cX11_holds 22 = .ok (.iconst (-1), 1) := by decide +kernel
theorem dX11_holds_23 : decode cX11_holds 23 = .ok (.ireturn, 1) := by decide +kernel
theorem dX11_holds_24 : decode cX11_holds 24 = .ok (.aload_n 0, 1) := by decide +kernel
theorem dX11_holds_25 : decode cX11_holds 25 = .ok (.iconst 0, 1) := by decide +kernel
theorem dX11_holds_26 : decode cX11_holds 26 = .ok (.sipush 1134, 3) := by decide +kernel
theorem dX11_holds_29 : decode cX11_holds 29 = .ok (.bipush 28, 2) := by decide +kernel
theorem dX11_holds_31 : decode cX11_holds 31 = .ok (.invokevirtual 288, 3) := by decide +kernel
theorem dX11_holds_34 : decode cX11_holds 34 = .ok (.iconst 1, 1) := by decide +kernel
theorem dX11_holds_35 : decode cX11_holds 35 = .ok (.istore_n 2, 1) := by decide +kernel
theorem dX11_holds_36 : decode cX11_holds 36 = .ok (.iload_n 2, 1) := by decide +kernel
theorem dX11_holds_37 : decode cX11_holds 37 = .ok (.bipush 40, 2) := by decide +kernel
theorem dX11_holds_39 : decode cX11_holds 39 = .ok (.if_icmp .gt 31, 3) := by decide +kernel
theorem dX11_holds_42 : decode cX11_holds 42 = .ok (.aload_n 0, 1) := by decide +kernel
theorem dX11_holds_43 : decode cX11_holds 43 = .ok (.sipush 1134, 3) := by decide +kernel
theorem dX11_holds_46 : decode cX11_holds 46 = .ok (.iconst 0, 1) := by decide +kernel
theorem dX11_holds_47 : decode cX11_holds 47 = .ok (.invokevirtual 379, 3) := by decide +kernel
theorem dX11_holds_50 : decode cX11_holds 50 = .ok (.pop, 1) := by decide +kernel
theorem dX11_holds_51 : decode cX11_holds 51 = .ok (.aload_n 0, 1) := by decide +kernel
theorem dX11_holds_52 : decode cX11_holds 52 = .ok (.sipush 1134, 3) := by decide +kernel
theorem dX11_holds_55 : decode cX11_holds 55 = .ok (.iload_n 1, 1) := by decide +kernel
theorem dX11_holds_56 : decode cX11_holds 56 = .ok (.invokevirtual 304, 3) := by decide +kernel
theorem dX11_holds_59 : decode cX11_holds 59 = .ok (.ifCond .ne 5, 3) := by decide +kernel
theorem dX11_holds_62 : decode cX11_holds 62 = .ok (.iload_n 2, 1) := by decide +kernel
theorem dX11_holds_63 : decode cX11_holds 63 = .ok (.ireturn, 1) := by decide +kernel
theorem dX11_holds_64 : decode cX11_holds 64 = .ok (.iinc 2 1, 3) := by decide +kernel
theorem dX11_holds_67 : decode cX11_holds 67 = .ok (.goto (-31), 3) := by decide +kernel
theorem dX11_holds_70 : decode cX11_holds 70 = .ok (.iconst (-1), 1) := by decide +kernel
theorem dX11_holds_71 : decode cX11_holds 71 = .ok (.ireturn, 1) := by decide +kernel
theorem dX11_clashesIn_0 : decode cX11_clashesIn 0 = .ok (.iconst 0, 1) := by decide +kernel
theorem dX11_clashesIn_1 : decode cX11_clashesIn 1 = .ok (.istore_n 2, 1) := by decide +kernel
theorem dX11_clashesIn_2 : decode cX11_clashesIn 2 = .ok (.iconst 0, 1) := by decide +kernel
theorem dX11_clashesIn_3 : decode cX11_clashesIn 3 = .ok (.istore_n 3, 1) := by decide +kernel
theorem dX11_clashesIn_4 : decode cX11_clashesIn 4 = .ok (.iload_n 3, 1) := by decide +kernel
theorem dX11_clashesIn_5 : decode cX11_clashesIn 5 = .ok (.aload_n 0, 1) := by decide +kernel
theorem dX11_clashesIn_6 : decode cX11_clashesIn 6 = .ok (.invokevirtual 292, 3) := by decide +kernel
theorem dX11_clashesIn_9 : decode cX11_clashesIn 9 = .ok (.if_icmp .ge 70, 3) := by decide +kernel
theorem dX11_clashesIn_12 : decode cX11_clashesIn 12 = .ok (.iconst 0, 1) := by decide +kernel
theorem dX11_clashesIn_13 : decode cX11_clashesIn 13 = .ok (.istore 4, 2) := by decide +kernel
theorem dX11_clashesIn_15 : decode cX11_clashesIn 15 = .ok (.iload 4, 2) := by decide +kernel
theorem dX11_clashesIn_17 : decode cX11_clashesIn 17 = .ok (.iload_n 3, 1) := by decide +kernel
theorem dX11_clashesIn_18 : decode cX11_clashesIn 18 = .ok (.if_icmp .ge 55, 3) := by decide +kernel
theorem dX11_clashesIn_21 : decode cX11_clashesIn 21 = .ok (.iload_n 2, 1) := by decide +kernel
theorem dX11_clashesIn_22 : decode cX11_clashesIn 22 = .ok (.aload_n 0, 1) := by decide +kernel
theorem dX11_clashesIn_23 : decode cX11_clashesIn 23 = .ok (.getfield 89, 3) := by decide +kernel
theorem dX11_clashesIn_26 : decode cX11_clashesIn 26 = .ok (.bipush 32, 2) := by decide +kernel
theorem dX11_clashesIn_28 : decode cX11_clashesIn 28 = .ok (.bipush 6, 2) := by decide +kernel
theorem dX11_clashesIn_30 : decode cX11_clashesIn 30 = .ok (.iload_n 3, 1) := by decide +kernel
theorem dX11_clashesIn_31 : decode cX11_clashesIn 31 = .ok (.imul, 1) := by decide +kernel
theorem dX11_clashesIn_32 : decode cX11_clashesIn 32 = .ok (.iadd, 1) := by decide +kernel
theorem dX11_clashesIn_33 : decode cX11_clashesIn 33 = .ok (.iload 4, 2) := by decide +kernel
theorem dX11_clashesIn_35 : decode cX11_clashesIn 35 = .ok (.iadd, 1) := by decide +kernel
theorem dX11_clashesIn_36 : decode cX11_clashesIn 36 = .ok (.iaload, 1) := by decide +kernel
theorem dX11_clashesIn_37 : decode cX11_clashesIn 37 = .ok (.iconst 1, 1) := by decide +kernel
theorem dX11_clashesIn_38 : decode cX11_clashesIn 38 = .ok (.if_icmp .ne 26, 3) := by decide +kernel
theorem dX11_clashesIn_41 : decode cX11_clashesIn 41 = .ok (.iload_n 1, 1) := by decide +kernel
theorem dX11_clashesIn_42 : decode cX11_clashesIn 42 = .ok (.iload_n 3, 1) := by decide +kernel
theorem dX11_clashesIn_43 : decode cX11_clashesIn 43 = .ok (.ishr, 1) := by decide +kernel
theorem dX11_clashesIn_44 : decode cX11_clashesIn 44 = .ok (.iconst 1, 1) := by decide +kernel
theorem dX11_clashesIn_45 : decode cX11_clashesIn 45 = .ok (.iand, 1) := by decide +kernel
theorem dX11_clashesIn_46 : decode cX11_clashesIn 46 = .ok (.iconst 1, 1) := by decide +kernel
theorem dX11_clashesIn_47 : decode cX11_clashesIn 47 = .ok (.if_icmp .ne 17, 3) := by decide +kernel
theorem dX11_clashesIn_50 : decode cX11_clashesIn 50 = .ok (.iload_n 1, 1) := by decide +kernel
theorem dX11_clashesIn_51 : decode cX11_clashesIn 51 = .ok (.iload 4, 2) := by decide +kernel
theorem dX11_clashesIn_53 : decode cX11_clashesIn 53 = .ok (.ishr, 1) := by decide +kernel
theorem dX11_clashesIn_54 : decode cX11_clashesIn 54 = .ok (.iconst 1, 1) := by decide +kernel
theorem dX11_clashesIn_55 : decode cX11_clashesIn 55 = .ok (.iand, 1) := by decide +kernel
theorem dX11_clashesIn_56 : decode cX11_clashesIn 56 = .ok (.iconst 1, 1) := by decide +kernel
theorem dX11_clashesIn_57 : decode cX11_clashesIn 57 = .ok (.if_icmp .ne 7, 3) := by decide +kernel
theorem dX11_clashesIn_60 : decode cX11_clashesIn 60 = .ok (.iconst 1, 1) := by decide +kernel
theorem dX11_clashesIn_61 : decode cX11_clashesIn 61 = .ok (.goto 4, 3) := by decide +kernel
theorem dX11_clashesIn_64 : decode cX11_clashesIn 64 = .ok (.iconst 0, 1) := by decide +kernel
theorem dX11_clashesIn_65 : decode cX11_clashesIn 65 = .ok (.iadd, 1) := by decide +kernel
theorem dX11_clashesIn_66 : decode cX11_clashesIn 66 = .ok (.istore_n 2, 1) := by decide +kernel
theorem dX11_clashesIn_67 : decode cX11_clashesIn 67 = .ok (.iinc 4 1, 3) := by decide +kernel
theorem dX11_clashesIn_70 : decode cX11_clashesIn 70 = .ok (.goto (-55), 3) := by decide +kernel
theorem dX11_clashesIn_73 : decode cX11_clashesIn 73 = .ok (.iinc 3 1, 3) := by decide +kernel
theorem dX11_clashesIn_76 : decode cX11_clashesIn 76 = .ok (.goto (-72), 3) := by decide +kernel
theorem dX11_clashesIn_79 : decode cX11_clashesIn 79 = .ok (.iload_n 2, 1) := by decide +kernel
theorem dX11_clashesIn_80 : decode cX11_clashesIn 80 = .ok (.ireturn, 1) := by decide +kernel
theorem dX11_clashes_0 : decode cX11_clashes 0 = .ok (.aload_n 0, 1) := by decide +kernel
theorem dX11_clashes_1 : decode cX11_clashes 1 = .ok (.iconst 0, 1) := by decide +kernel
theorem dX11_clashes_2 : decode cX11_clashes 2 = .ok (.putfield 1, 3) := by decide +kernel
theorem dX11_clashes_5 : decode cX11_clashes 5 = .ok (.aload_n 0, 1) := by decide +kernel
theorem dX11_clashes_6 : decode cX11_clashes 6 = .ok (.aload_n 0, 1) := by decide +kernel
theorem dX11_clashes_7 : decode cX11_clashes 7 = .ok (.iconst 0, 1) := by decide +kernel
theorem dX11_clashes_8 : decode cX11_clashes 8 = .ok (.invokevirtual 358, 3) := by decide +kernel
theorem dX11_clashes_11 : decode cX11_clashes 11 = .ok (.invokevirtual 388, 3) := by decide +kernel
theorem dX11_clashes_14 : decode cX11_clashes 14 = .ok (.ireturn, 1) := by decide +kernel
theorem dX11_mend_0 : decode cX11_mend 0 = .ok (.aload_n 0, 1) := by decide +kernel
theorem dX11_mend_1 : decode cX11_mend 1 = .ok (.iconst 0, 1) := by decide +kernel
theorem dX11_mend_2 : decode cX11_mend 2 = .ok (.putfield 1, 3) := by decide +kernel
theorem dX11_mend_5 : decode cX11_mend 5 = .ok (.iload_n 1, 1) := by decide +kernel
theorem dX11_mend_6 : decode cX11_mend 6 = .ok (.iconst 0, 1) := by decide +kernel
theorem dX11_mend_7 : decode cX11_mend 7 = .ok (.iconst 1, 1) := by decide +kernel
theorem dX11_mend_8 : decode cX11_mend 8 = .ok (.invokestatic 349, 3) := by decide +kernel
theorem dX11_mend_11 : decode cX11_mend 11 = .ok (.ifCond .ne 5, 3) := by decide +kernel
theorem dX11_mend_14 : decode cX11_mend 14 = .ok (.iconst (-1), 1) := by decide +kernel
theorem dX11_mend_15 : decode cX11_mend 15 = .ok (.ireturn, 1) := by decide +kernel
theorem dX11_mend_16 : decode cX11_mend 16 = .ok (.aload_n 0, 1) := by decide +kernel
theorem dX11_mend_17 : decode cX11_mend 17 = .ok (.iconst 0, 1) := by decide +kernel
theorem dX11_mend_18 : decode cX11_mend 18 = .ok (.invokevirtual 358, 3) := by decide +kernel
theorem dX11_mend_21 : decode cX11_mend 21 = .ok (.istore_n 2, 1) := by decide +kernel
theorem dX11_mend_22 : decode cX11_mend 22 = .ok (.iconst (-1), 1) := by decide +kernel
theorem dX11_mend_23 : decode cX11_mend 23 = .ok (.istore_n 3, 1) := by decide +kernel
theorem dX11_mend_24 : decode cX11_mend 24 = .ok (.iconst 0, 1) := by decide +kernel
theorem dX11_mend_25 : decode cX11_mend 25 = .ok (.istore 4, 2) := by decide +kernel
theorem dX11_mend_27 : decode cX11_mend 27 = .ok (.iload 4, 2) := by decide +kernel
theorem dX11_mend_29 : decode cX11_mend 29 = .ok (.iconst 1, 1) := by decide +kernel
theorem dX11_mend_30 : decode cX11_mend 30 = .ok (.aload_n 0, 1) := by decide +kernel
theorem dX11_mend_31 : decode cX11_mend 31 = .ok (.invokevirtual 292, 3) := by decide +kernel
theorem dX11_mend_34 : decode cX11_mend 34 = .ok (.ishl, 1) := by decide +kernel
theorem dX11_mend_35 : decode cX11_mend 35 = .ok (.if_icmp .ge 68, 3) := by decide +kernel
theorem dX11_mend_38 : decode cX11_mend 38 = .ok (.iload 4, 2) := by decide +kernel
theorem dX11_mend_40 : decode cX11_mend 40 = .ok (.iload_n 2, 1) := by decide +kernel
theorem dX11_mend_41 : decode cX11_mend 41 = .ok (.iconst (-1), 1) := by decide +kernel
theorem dX11_mend_42 : decode cX11_mend 42 = .ok (.ixor, 1) := by decide +kernel
theorem dX11_mend_43 : decode cX11_mend 43 = .ok (.iand, 1) := by decide +kernel
theorem dX11_mend_44 : decode cX11_mend 44 = .ok (.ifCond .ne 20, 3) := by decide +kernel
theorem dX11_mend_47 : decode cX11_mend 47 = .ok (.aload_n 0, 1) := by decide +kernel
theorem dX11_mend_48 : decode cX11_mend 48 = .ok (.iload_n 2, 1) := by decide +kernel
theorem dX11_mend_49 : decode cX11_mend 49 = .ok (.iload 4, 2) := by decide +kernel
theorem dX11_mend_51 : decode cX11_mend 51 = .ok (.iconst (-1), 1) := by decide +kernel
theorem dX11_mend_52 : decode cX11_mend 52 = .ok (.ixor, 1) := by decide +kernel
theorem dX11_mend_53 : decode cX11_mend 53 = .ok (.iand, 1) := by decide +kernel
theorem dX11_mend_54 : decode cX11_mend 54 = .ok (.invokevirtual 388, 3) := by decide +kernel
theorem dX11_mend_57 : decode cX11_mend 57 = .ok (.ifCond .ne 7, 3) := by decide +kernel
theorem dX11_mend_60 : decode cX11_mend 60 = .ok (.iconst 1, 1) := by decide +kernel
theorem dX11_mend_61 : decode cX11_mend 61 = .ok (.goto 4, 3) := by decide +kernel
theorem dX11_mend_64 : decode cX11_mend 64 = .ok (.iconst 0, 1) := by decide +kernel
theorem dX11_mend_65 : decode cX11_mend 65 = .ok (.istore 5, 2) := by decide +kernel
theorem dX11_mend_67 : decode cX11_mend 67 = .ok (.iload 5, 2) := by decide +kernel
theorem dX11_mend_69 : decode cX11_mend 69 = .ok (.ifCond .eq 26, 3) := by decide +kernel
theorem dX11_mend_72 : decode cX11_mend 72 = .ok (.iload_n 3, 1) := by decide +kernel
theorem dX11_mend_73 : decode cX11_mend 73 = .ok (.ifCond .lt 17, 3) := by decide +kernel
theorem dX11_mend_76 : decode cX11_mend 76 = .ok (.aload_n 0, 1) := by decide +kernel
theorem dX11_mend_77 : decode cX11_mend 77 = .ok (.iload 4, 2) := by decide +kernel
theorem dX11_mend_79 : decode cX11_mend 79 = .ok (.invokevirtual 385, 3) := by decide +kernel
theorem dX11_mend_82 : decode cX11_mend 82 = .ok (.aload_n 0, 1) := by decide +kernel
theorem dX11_mend_83 : decode cX11_mend 83 = .ok (.iload_n 3, 1) := by decide +kernel
theorem dX11_mend_84 : decode cX11_mend 84 = .ok (.invokevirtual 385, 3) := by decide +kernel
theorem dX11_mend_87 : decode cX11_mend 87 = .ok (.if_icmp .ge 8, 3) := by decide +kernel
theorem dX11_mend_90 : decode cX11_mend 90 = .ok (.iload 4, 2) := by decide +kernel
theorem dX11_mend_92 : decode cX11_mend 92 = .ok (.goto 4, 3) := by decide +kernel
theorem dX11_mend_95 : decode cX11_mend 95 = .ok (.iload_n 3, 1) := by decide +kernel
theorem dX11_mend_96 : decode cX11_mend 96 = .ok (.istore_n 3, 1) := by decide +kernel
theorem dX11_mend_97 : decode cX11_mend 97 = .ok (.iinc 4 1, 3) := by decide +kernel
theorem dX11_mend_100 : decode cX11_mend 100 = .ok (.goto (-73), 3) := by decide +kernel
theorem dX11_mend_103 : decode cX11_mend 103 = .ok (.iload_n 1, 1) := by decide +kernel
theorem dX11_mend_104 : decode cX11_mend 104 = .ok (.ifCond .ne 11, 3) := by decide +kernel
theorem dX11_mend_107 : decode cX11_mend 107 = .ok (.aload_n 0, 1) := by decide +kernel
theorem dX11_mend_108 : decode cX11_mend 108 = .ok (.iload_n 3, 1) := by decide +kernel
theorem dX11_mend_109 : decode cX11_mend 109 = .ok (.invokevirtual 385, 3) := by decide +kernel
theorem dX11_mend_112 : decode cX11_mend 112 = .ok (.goto 4, 3) := by decide +kernel
theorem dX11_mend_115 : decode cX11_mend 115 = .ok (.iload_n 3, 1) := by decide +kernel
theorem dX11_mend_116 : decode cX11_mend 116 = .ok (.ireturn, 1) := by decide +kernel
theorem dX11_findHardest_0 : decode cX11_findHardest 0 = .ok (.iconst 0, 1) := by decide +kernel
theorem dX11_findHardest_1 : decode cX11_findHardest 1 = .ok (.istore_n 2, 1) := by decide +kernel
theorem dX11_findHardest_2 : decode cX11_findHardest 2 = .ok (.iload_n 2, 1) := by decide +kernel
theorem dX11_findHardest_3 : decode cX11_findHardest 3 = .ok (.aload_n 0, 1) := by decide +kernel
theorem dX11_findHardest_4 : decode cX11_findHardest 4 = .ok (.invokevirtual 292, 3) := by decide +kernel
theorem dX11_findHardest_7 : decode cX11_findHardest 7 = .ok (.if_icmp .ge 103, 3) := by decide +kernel
theorem dX11_findHardest_10 : decode cX11_findHardest 10 = .ok (.aload_n 0, 1) := by decide +kernel
theorem dX11_findHardest_11 : decode cX11_findHardest 11 = .ok (.getfield 120, 3) := by decide +kernel
theorem dX11_findHardest_14 : decode cX11_findHardest 14 = .ok (.iload_n 2, 1) := by decide +kernel
theorem dX11_findHardest_15 : decode cX11_findHardest 15 = .ok (.iconst 0, 1) := by decide +kernel
theorem dX11_findHardest_16 : decode cX11_findHardest 16 = .ok (.iastore, 1) := by decide +kernel
theorem dX11_findHardest_17 : decode cX11_findHardest 17 = .ok (.aload_n 0, 1) := by decide +kernel
theorem dX11_findHardest_18 : decode cX11_findHardest 18 = .ok (.getfield 113, 3) := by decide +kernel
theorem dX11_findHardest_21 : decode cX11_findHardest 21 = .ok (.iconst 2, 1) := by decide +kernel
theorem dX11_findHardest_22 : decode cX11_findHardest 22 = .ok (.iload_n 2, 1) := by decide +kernel
theorem dX11_findHardest_23 : decode cX11_findHardest 23 = .ok (.iadd, 1) := by decide +kernel
theorem dX11_findHardest_24 : decode cX11_findHardest 24 = .ok (.iaload, 1) := by decide +kernel
theorem dX11_findHardest_25 : decode cX11_findHardest 25 = .ok (.istore_n 3, 1) := by decide +kernel
theorem dX11_findHardest_26 : decode cX11_findHardest 26 = .ok (.iconst 0, 1) := by decide +kernel
theorem dX11_findHardest_27 : decode cX11_findHardest 27 = .ok (.istore 4, 2) := by decide +kernel
theorem dX11_findHardest_29 : decode cX11_findHardest 29 = .ok (.iload 4, 2) := by decide +kernel
theorem dX11_findHardest_31 : decode cX11_findHardest 31 = .ok (.iload_n 1, 1) := by decide +kernel
theorem dX11_findHardest_32 : decode cX11_findHardest 32 = .ok (.if_icmp .ge 72, 3) := by decide +kernel
theorem dX11_findHardest_35 : decode cX11_findHardest 35 = .ok (.aload_n 0, 1) := by decide +kernel
theorem dX11_findHardest_36 : decode cX11_findHardest 36 = .ok (.aload_n 0, 1) := by decide +kernel
theorem dX11_findHardest_37 : decode cX11_findHardest 37 = .ok (.getfield 113, 3) := by decide +kernel
theorem dX11_findHardest_40 : decode cX11_findHardest 40 = .ok (.iconst 0, 1) := by decide +kernel
theorem dX11_findHardest_41 : decode cX11_findHardest 41 = .ok (.iaload, 1) := by decide +kernel
theorem dX11_findHardest_42 : decode cX11_findHardest 42 = .ok (.iload 4, 2) := by decide +kernel
theorem dX11_findHardest_44 : decode cX11_findHardest 44 = .ok (.iadd, 1) := by decide +kernel
theorem dX11_findHardest_45 : decode cX11_findHardest 45 = .ok (.iconst 0, 1) := by decide +kernel
theorem dX11_findHardest_46 : decode cX11_findHardest 46 = .ok (.invokevirtual 332, 3) := by decide +kernel
theorem dX11_findHardest_49 : decode cX11_findHardest 49 = .ok (.istore 5, 2) := by decide +kernel
theorem dX11_findHardest_51 : decode cX11_findHardest 51 = .ok (.aload_n 0, 1) := by decide +kernel
theorem dX11_findHardest_52 : decode cX11_findHardest 52 = .ok (.iload_n 2, 1) := by decide +kernel
theorem dX11_findHardest_53 : decode cX11_findHardest 53 = .ok (.iload_n 3, 1) := by decide +kernel
theorem dX11_findHardest_54 : decode cX11_findHardest 54 = .ok (.iload 5, 2) := by decide +kernel
theorem dX11_findHardest_56 : decode cX11_findHardest 56 = .ok (.invokevirtual 317, 3) := by decide +kernel
theorem dX11_findHardest_59 : decode cX11_findHardest 59 = .ok (.istore 6, 2) := by decide +kernel
theorem dX11_findHardest_61 : decode cX11_findHardest 61 = .ok (.aload_n 0, 1) := by decide +kernel
theorem dX11_findHardest_62 : decode cX11_findHardest 62 = .ok (.getfield 120, 3) := by decide +kernel
theorem dX11_findHardest_65 : decode cX11_findHardest 65 = .ok (.iload_n 2, 1) := by decide +kernel
theorem dX11_findHardest_66 : decode cX11_findHardest 66 = .ok (.iload 6, 2) := by decide +kernel
theorem dX11_findHardest_68 : decode cX11_findHardest 68 = .ok (.aload_n 0, 1) := by decide +kernel
theorem dX11_findHardest_69 : decode cX11_findHardest 69 = .ok (.getfield 120, 3) := by decide +kernel
theorem dX11_findHardest_72 : decode cX11_findHardest 72 = .ok (.iload_n 2, 1) := by decide +kernel
theorem dX11_findHardest_73 : decode cX11_findHardest 73 = .ok (.iaload, 1) := by decide +kernel
theorem dX11_findHardest_74 : decode cX11_findHardest 74 = .ok (.if_icmp .le 8, 3) := by decide +kernel
theorem dX11_findHardest_77 : decode cX11_findHardest 77 = .ok (.iload 6, 2) := by decide +kernel
theorem dX11_findHardest_79 : decode cX11_findHardest 79 = .ok (.goto 9, 3) := by decide +kernel
theorem dX11_findHardest_82 : decode cX11_findHardest 82 = .ok (.aload_n 0, 1) := by decide +kernel
theorem dX11_findHardest_83 : decode cX11_findHardest 83 = .ok (.getfield 120, 3) := by decide +kernel
theorem dX11_findHardest_86 : decode cX11_findHardest 86 = .ok (.iload_n 2, 1) := by decide +kernel
theorem dX11_findHardest_87 : decode cX11_findHardest 87 = .ok (.iaload, 1) := by decide +kernel
theorem dX11_findHardest_88 : decode cX11_findHardest 88 = .ok (.iastore, 1) := by decide +kernel
theorem dX11_findHardest_89 : decode cX11_findHardest 89 = .ok (.aload_n 0, 1) := by decide +kernel
theorem dX11_findHardest_90 : decode cX11_findHardest 90 = .ok (.iload_n 2, 1) := by decide +kernel
theorem dX11_findHardest_91 : decode cX11_findHardest 91 = .ok (.iload_n 3, 1) := by decide +kernel
theorem dX11_findHardest_92 : decode cX11_findHardest 92 = .ok (.iload 5, 2) := by decide +kernel
theorem dX11_findHardest_94 : decode cX11_findHardest 94 = .ok (.invokevirtual 340, 3) := by decide +kernel
theorem dX11_findHardest_97 : decode cX11_findHardest 97 = .ok (.istore_n 3, 1) := by decide +kernel
theorem dX11_findHardest_98 : decode cX11_findHardest 98 = .ok (.iinc 4 1, 3) := by decide +kernel
theorem dX11_findHardest_101 : decode cX11_findHardest 101 = .ok (.goto (-72), 3) := by decide +kernel
theorem dX11_findHardest_104 : decode cX11_findHardest 104 = .ok (.iinc 2 1, 3) := by decide +kernel
theorem dX11_findHardest_107 : decode cX11_findHardest 107 = .ok (.goto (-105), 3) := by decide +kernel
theorem dX11_findHardest_110 : decode cX11_findHardest 110 = .ok (.return_, 1) := by decide +kernel
theorem dX11_fills_0 : decode cX11_fills 0 = .ok (.iload_n 1, 1) := by decide +kernel
theorem dX11_fills_1 : decode cX11_fills 1 = .ok (.aload_n 0, 1) := by decide +kernel
theorem dX11_fills_2 : decode cX11_fills 2 = .ok (.invokevirtual 292, 3) := by decide +kernel
theorem dX11_fills_5 : decode cX11_fills 5 = .ok (.if_icmp .ne 48, 3) := by decide +kernel
theorem dX11_fills_8 : decode cX11_fills 8 = .ok (.iload 4, 2) := by decide +kernel
theorem dX11_fills_10 : decode cX11_fills 10 = .ok (.aload_n 0, 1) := by decide +kernel
theorem dX11_fills_11 : decode cX11_fills 11 = .ok (.getfield 391, 3) := by decide +kernel
theorem dX11_fills_14 : decode cX11_fills 14 = .ok (.if_icmp .le 38, 3) := by decide +kernel
theorem dX11_fills_17 : decode cX11_fills 17 = .ok (.aload_n 0, 1) := by decide +kernel
theorem dX11_fills_18 : decode cX11_fills 18 = .ok (.iload 4, 2) := by decide +kernel
theorem dX11_fills_20 : decode cX11_fills 20 = .ok (.putfield 391, 3) := by decide +kernel
theorem dX11_fills_23 : decode cX11_fills 23 = .ok (.iconst 0, 1) := by decide +kernel
theorem dX11_fills_24 : decode cX11_fills 24 = .ok (.istore 5, 2) := by decide +kernel
theorem dX11_fills_26 : decode cX11_fills 26 = .ok (.iload 5, 2) := by decide +kernel
theorem dX11_fills_28 : decode cX11_fills 28 = .ok (.iload_n 1, 1) := by decide +kernel
theorem dX11_fills_29 : decode cX11_fills 29 = .ok (.if_icmp .ge 23, 3) := by decide +kernel
theorem dX11_fills_32 : decode cX11_fills 32 = .ok (.aload_n 0, 1) := by decide +kernel
theorem dX11_fills_33 : decode cX11_fills 33 = .ok (.getfield 126, 3) := by decide +kernel
theorem dX11_fills_36 : decode cX11_fills 36 = .ok (.iload 5, 2) := by decide +kernel
theorem dX11_fills_38 : decode cX11_fills 38 = .ok (.aload_n 0, 1) := by decide +kernel
theorem dX11_fills_39 : decode cX11_fills 39 = .ok (.getfield 123, 3) := by decide +kernel
theorem dX11_fills_42 : decode cX11_fills 42 = .ok (.iload 5, 2) := by decide +kernel
theorem dX11_fills_44 : decode cX11_fills 44 = .ok (.iaload, 1) := by decide +kernel
theorem dX11_fills_45 : decode cX11_fills 45 = .ok (.iastore, 1) := by decide +kernel
theorem dX11_fills_46 : decode cX11_fills 46 = .ok (.iinc 5 1, 3) := by decide +kernel
theorem dX11_fills_49 : decode cX11_fills 49 = .ok (.goto (-23), 3) := by decide +kernel
theorem dX11_fills_52 : decode cX11_fills 52 = .ok (.return_, 1) := by decide +kernel
theorem dX11_fills_53 : decode cX11_fills 53 = .ok (.aload_n 0, 1) := by decide +kernel
theorem dX11_fills_54 : decode cX11_fills 54 = .ok (.getfield 113, 3) := by decide +kernel
theorem dX11_fills_57 : decode cX11_fills 57 = .ok (.bipush 8, 2) := by decide +kernel
theorem dX11_fills_59 : decode cX11_fills 59 = .ok (.iload_n 1, 1) := by decide +kernel
theorem dX11_fills_60 : decode cX11_fills 60 = .ok (.iadd, 1) := by decide +kernel
theorem dX11_fills_61 : decode cX11_fills 61 = .ok (.iaload, 1) := by decide +kernel
theorem dX11_fills_62 : decode cX11_fills 62 = .ok (.iconst 3, 1) := by decide +kernel
theorem dX11_fills_63 : decode cX11_fills 63 = .ok (.if_icmp .ge 29, 3) := by decide +kernel
theorem dX11_fills_66 : decode cX11_fills 66 = .ok (.aload_n 0, 1) := by decide +kernel
theorem dX11_fills_67 : decode cX11_fills 67 = .ok (.iload_n 1, 1) := by decide +kernel
theorem dX11_fills_68 : decode cX11_fills 68 = .ok (.iconst 1, 1) := by decide +kernel
theorem dX11_fills_69 : decode cX11_fills 69 = .ok (.invokevirtual 295, 3) := by decide +kernel
theorem dX11_fills_72 : decode cX11_fills 72 = .ok (.iload_n 3, 1) := by decide +kernel
theorem dX11_fills_73 : decode cX11_fills 73 = .ok (.if_icmp .gt 19, 3) := by decide +kernel
theorem dX11_fills_76 : decode cX11_fills 76 = .ok (.iload_n 2, 1) := by decide +kernel
theorem dX11_fills_77 : decode cX11_fills 77 = .ok (.invokestatic 298, 3) := by decide +kernel
theorem dX11_fills_80 : decode cX11_fills 80 = .ok (.aload_n 0, 1) := by decide +kernel
theorem dX11_fills_81 : decode cX11_fills 81 = .ok (.iload_n 1, 1) := by decide +kernel
theorem dX11_fills_82 : decode cX11_fills 82 = .ok (.invokevirtual 301, 3) := by decide +kernel
theorem dX11_fills_85 : decode cX11_fills 85 = .ok (.if_icmp .lt 7, 3) := by decide +kernel
theorem dX11_fills_88 : decode cX11_fills 88 = .ok (.iconst 1, 1) := by decide +kernel
theorem dX11_fills_89 : decode cX11_fills 89 = .ok (.goto 4, 3) := by decide +kernel
theorem dX11_fills_92 : decode cX11_fills 92 = .ok (.iconst 0, 1) := by decide +kernel
theorem dX11_fills_93 : decode cX11_fills 93 = .ok (.istore 5, 2) := by decide +kernel
theorem dX11_fills_95 : decode cX11_fills 95 = .ok (.iconst 1, 1) := by decide +kernel
theorem dX11_fills_96 : decode cX11_fills 96 = .ok (.istore 6, 2) := by decide +kernel
theorem dX11_fills_98 : decode cX11_fills 98 = .ok (.iload 6, 2) := by decide +kernel
theorem dX11_fills_100 : decode cX11_fills 100 = .ok (.aload_n 0, 1) := by decide +kernel
theorem dX11_fills_101 : decode cX11_fills 101 = .ok (.getfield 394, 3) := by decide +kernel
theorem dX11_fills_104 : decode cX11_fills 104 = .ok (.if_icmp .gt 90, 3) := by decide +kernel
theorem dX11_fills_107 : decode cX11_fills 107 = .ok (.iload 5, 2) := by decide +kernel
theorem dX11_fills_109 : decode cX11_fills 109 = .ok (.ifCond .eq 85, 3) := by decide +kernel
theorem dX11_fills_112 : decode cX11_fills 112 = .ok (.iload 6, 2) := by decide +kernel
theorem dX11_fills_114 : decode cX11_fills 114 = .ok (.iload_n 2, 1) := by decide +kernel
theorem dX11_fills_115 : decode cX11_fills 115 = .ok (.iconst (-1), 1) := by decide +kernel
theorem dX11_fills_116 : decode cX11_fills 116 = .ok (.ixor, 1) := by decide +kernel
theorem dX11_fills_117 : decode cX11_fills 117 = .ok (.iand, 1) := by decide +kernel
theorem dX11_fills_118 : decode cX11_fills 118 = .ok (.ifCond .ne 70, 3) := by decide +kernel
theorem dX11_fills_121 : decode cX11_fills 121 = .ok (.iload 6, 2) := by decide +kernel
theorem dX11_fills_123 : decode cX11_fills 123 = .ok (.invokestatic 298, 3) := by decide +kernel
theorem dX11_fills_126 : decode cX11_fills 126 = .ok (.aload_n 0, 1) := by decide +kernel
theorem dX11_fills_127 : decode cX11_fills 127 = .ok (.iload_n 1, 1) := by decide +kernel
theorem dX11_fills_128 : decode cX11_fills 128 = .ok (.invokevirtual 301, 3) := by decide +kernel
theorem dX11_fills_131 : decode cX11_fills 131 = .ok (.if_icmp .ne 57, 3) := by decide +kernel
theorem dX11_fills_134 : decode cX11_fills 134 = .ok (.aload_n 0, 1) := by decide +kernel
theorem dX11_fills_135 : decode cX11_fills 135 = .ok (.iconst 0, 1) := by decide +kernel
theorem dX11_fills_136 : decode cX11_fills 136 = .ok (.iload 6, 2) := by decide +kernel
theorem dX11_fills_138 : decode cX11_fills 138 = .ok (.invokevirtual 320, 3) := by decide +kernel
theorem dX11_fills_141 : decode cX11_fills 141 = .ok (.aload_n 0, 1) := by decide +kernel
theorem dX11_fills_142 : decode cX11_fills 142 = .ok (.getfield 120, 3) := by decide +kernel
theorem dX11_fills_145 : decode cX11_fills 145 = .ok (.iload_n 1, 1) := by decide +kernel
theorem dX11_fills_146 : decode cX11_fills 146 = .ok (.iaload, 1) := by decide +kernel
theorem dX11_fills_147 : decode cX11_fills 147 = .ok (.if_icmp .lt 41, 3) := by decide +kernel
theorem dX11_fills_150 : decode cX11_fills 150 = .ok (.aload_n 0, 1) := by decide +kernel
theorem dX11_fills_151 : decode cX11_fills 151 = .ok (.getfield 123, 3) := by decide +kernel
theorem dX11_fills_154 : decode cX11_fills 154 = .ok (.iload_n 1, 1) := by decide +kernel
theorem dX11_fills_155 : decode cX11_fills 155 = .ok (.iload 6, 2) := by decide +kernel
theorem dX11_fills_157 : decode cX11_fills 157 = .ok (.iastore, 1) := by decide +kernel
theorem dX11_fills_158 : decode cX11_fills 158 = .ok (.aload_n 0, 1) := by decide +kernel
theorem dX11_fills_159 : decode cX11_fills 159 = .ok (.iload_n 1, 1) := by decide +kernel
theorem dX11_fills_160 : decode cX11_fills 160 = .ok (.iconst 1, 1) := by decide +kernel
theorem dX11_fills_161 : decode cX11_fills 161 = .ok (.iadd, 1) := by decide +kernel
theorem dX11_fills_162 : decode cX11_fills 162 = .ok (.iload_n 2, 1) := by decide +kernel
theorem dX11_fills_163 : decode cX11_fills 163 = .ok (.iload 6, 2) := by decide +kernel
theorem dX11_fills_165 : decode cX11_fills 165 = .ok (.iconst (-1), 1) := by decide +kernel
theorem dX11_fills_166 : decode cX11_fills 166 = .ok (.ixor, 1) := by decide +kernel
theorem dX11_fills_167 : decode cX11_fills 167 = .ok (.iand, 1) := by decide +kernel
theorem dX11_fills_168 : decode cX11_fills 168 = .ok (.iload_n 3, 1) := by decide +kernel
theorem dX11_fills_169 : decode cX11_fills 169 = .ok (.aload_n 0, 1) := by decide +kernel
theorem dX11_fills_170 : decode cX11_fills 170 = .ok (.iload_n 1, 1) := by decide +kernel
theorem dX11_fills_171 : decode cX11_fills 171 = .ok (.iconst 1, 1) := by decide +kernel
theorem dX11_fills_172 : decode cX11_fills 172 = .ok (.invokevirtual 295, 3) := by decide +kernel
theorem dX11_fills_175 : decode cX11_fills 175 = .ok (.isub, 1) := by decide +kernel
theorem dX11_fills_176 : decode cX11_fills 176 = .ok (.iload 4, 2) := by decide +kernel
theorem dX11_fills_178 : decode cX11_fills 178 = .ok (.aload_n 0, 1) := by decide +kernel
theorem dX11_fills_179 : decode cX11_fills 179 = .ok (.iload_n 1, 1) := by decide +kernel
theorem dX11_fills_180 : decode cX11_fills 180 = .ok (.iconst 3, 1) := by decide +kernel
theorem dX11_fills_181 : decode cX11_fills 181 = .ok (.invokevirtual 295, 3) := by decide +kernel
theorem dX11_fills_184 : decode cX11_fills 184 = .ok (.iadd, 1) := by decide +kernel
theorem dX11_fills_185 : decode cX11_fills 185 = .ok (.invokevirtual 397, 3) := by decide +kernel
theorem dX11_fills_188 : decode cX11_fills 188 = .ok (.iinc 6 1, 3) := by decide +kernel
theorem dX11_fills_191 : decode cX11_fills 191 = .ok (.goto (-93), 3) := by decide +kernel
theorem dX11_fills_194 : decode cX11_fills 194 = .ok (.aload_n 0, 1) := by decide +kernel
theorem dX11_fills_195 : decode cX11_fills 195 = .ok (.getfield 123, 3) := by decide +kernel
theorem dX11_fills_198 : decode cX11_fills 198 = .ok (.iload_n 1, 1) := by decide +kernel
theorem dX11_fills_199 : decode cX11_fills 199 = .ok (.iconst 0, 1) := by decide +kernel
theorem dX11_fills_200 : decode cX11_fills 200 = .ok (.iastore, 1) := by decide +kernel
theorem dX11_fills_201 : decode cX11_fills 201 = .ok (.aload_n 0, 1) := by decide +kernel
theorem dX11_fills_202 : decode cX11_fills 202 = .ok (.iload_n 1, 1) := by decide +kernel
theorem dX11_fills_203 : decode cX11_fills 203 = .ok (.iconst 1, 1) := by decide +kernel
theorem dX11_fills_204 : decode cX11_fills 204 = .ok (.iadd, 1) := by decide +kernel
theorem dX11_fills_205 : decode cX11_fills 205 = .ok (.iload_n 2, 1) := by decide +kernel
theorem dX11_fills_206 : decode cX11_fills 206 = .ok (.iload_n 3, 1) := by decide +kernel
theorem dX11_fills_207 : decode cX11_fills 207 = .ok (.iload 4, 2) := by decide +kernel
theorem dX11_fills_209 : decode cX11_fills 209 = .ok (.invokevirtual 397, 3) := by decide +kernel
theorem dX11_fills_212 : decode cX11_fills 212 = .ok (.return_, 1) := by decide +kernel
theorem dX11_fill_0 : decode cX11_fill 0 = .ok (.aload_n 0, 1) := by decide +kernel
theorem dX11_fill_1 : decode cX11_fill 1 = .ok (.iconst 0, 1) := by decide +kernel
theorem dX11_fill_2 : decode cX11_fill 2 = .ok (.putfield 1, 3) := by decide +kernel
theorem dX11_fill_5 : decode cX11_fill 5 = .ok (.iload_n 1, 1) := by decide +kernel
theorem dX11_fill_6 : decode cX11_fill 6 = .ok (.iconst 1, 1) := by decide +kernel
theorem dX11_fill_7 : decode cX11_fill 7 = .ok (.bipush 6, 2) := by decide +kernel
theorem dX11_fill_9 : decode cX11_fill 9 = .ok (.invokestatic 349, 3) := by decide +kernel
theorem dX11_fill_12 : decode cX11_fill 12 = .ok (.ifCond .eq 16, 3) := by decide +kernel
theorem dX11_fill_15 : decode cX11_fill 15 = .ok (.iload_n 2, 1) := by decide +kernel
theorem dX11_fill_16 : decode cX11_fill 16 = .ok (.iconst (-1), 1) := by decide +kernel
theorem dX11_fill_17 : decode cX11_fill 17 = .ok (.if_icmp .eq 14, 3) := by decide +kernel
theorem dX11_fill_20 : decode cX11_fill 20 = .ok (.aload_n 0, 1) := by decide +kernel
theorem dX11_fill_21 : decode cX11_fill 21 = .ok (.iload_n 2, 1) := by decide +kernel
theorem dX11_fill_22 : decode cX11_fill 22 = .ok (.invokevirtual 346, 3) := by decide +kernel
theorem dX11_fill_25 : decode cX11_fill 25 = .ok (.ifCond .ne 6, 3) := by decide +kernel
theorem dX11_fill_28 : decode cX11_fill 28 = .ok (.bipush (-2), 2) := by decide +kernel
theorem dX11_fill_30 : decode cX11_fill 30 = .ok (.ireturn, 1) := by decide +kernel
theorem dX11_fill_31 : decode cX11_fill 31 = .ok (.aload_n 0, 1) := by decide +kernel
theorem dX11_fill_32 : decode cX11_fill 32 = .ok (.iload_n 1, 1) := by decide +kernel
theorem dX11_fill_33 : decode cX11_fill 33 = .ok (.invokevirtual 401, 3) := by decide +kernel
theorem dX11_fill_36 : decode cX11_fill 36 = .ok (.aload_n 0, 1) := by decide +kernel
theorem dX11_fill_37 : decode cX11_fill 37 = .ok (.iconst 1, 1) := by decide +kernel
theorem dX11_fill_38 : decode cX11_fill 38 = .ok (.aload_n 0, 1) := by decide +kernel
theorem dX11_fill_39 : decode cX11_fill 39 = .ok (.getfield 113, 3) := by decide +kernel
theorem dX11_fill_42 : decode cX11_fill 42 = .ok (.iconst 1, 1) := by decide +kernel
theorem dX11_fill_43 : decode cX11_fill 43 = .ok (.iaload, 1) := by decide +kernel
theorem dX11_fill_44 : decode cX11_fill 44 = .ok (.ishl, 1) := by decide +kernel
theorem dX11_fill_45 : decode cX11_fill 45 = .ok (.iconst 1, 1) := by decide +kernel
theorem dX11_fill_46 : decode cX11_fill 46 = .ok (.isub, 1) := by decide +kernel
theorem dX11_fill_47 : decode cX11_fill 47 = .ok (.putfield 394, 3) := by decide +kernel
theorem dX11_fill_50 : decode cX11_fill 50 = .ok (.iconst 0, 1) := by decide +kernel
theorem dX11_fill_51 : decode cX11_fill 51 = .ok (.istore_n 3, 1) := by decide +kernel
theorem dX11_fill_52 : decode cX11_fill 52 = .ok (.iconst 0, 1) := by decide +kernel
theorem dX11_fill_53 : decode cX11_fill 53 = .ok (.istore 4, 2) := by decide +kernel
theorem dX11_fill_55 : decode cX11_fill 55 = .ok (.iload 4, 2) := by decide +kernel
theorem dX11_fill_57 : decode cX11_fill 57 = .ok (.aload_n 0, 1) := by decide +kernel
theorem dX11_fill_58 : decode cX11_fill 58 = .ok (.getfield 113, 3) := by decide +kernel
theorem dX11_fill_61 : decode cX11_fill 61 = .ok (.iconst 1, 1) := by decide +kernel
theorem dX11_fill_62 : decode cX11_fill 62 = .ok (.iaload, 1) := by decide +kernel
theorem dX11_fill_63 : decode cX11_fill 63 = .ok (.if_icmp .ge 33, 3) := by decide +kernel
theorem dX11_fill_66 : decode cX11_fill 66 = .ok (.iload_n 3, 1) := by decide +kernel
theorem dX11_fill_67 : decode cX11_fill 67 = .ok (.aload_n 0, 1) := by decide +kernel
theorem dX11_fill_68 : decode cX11_fill 68 = .ok (.getfield 113, 3) := by decide +kernel
theorem dX11_fill_71 : decode cX11_fill 71 = .ok (.bipush 20, 2) := by decide +kernel
theorem dX11_fill_73 : decode cX11_fill 73 = .ok (.iload 4, 2) := by decide +kernel
theorem dX11_fill_75 : decode cX11_fill 75 = .ok (.iadd, 1) := by decide +kernel
theorem dX11_fill_76 : decode cX11_fill 76 = .ok (.iaload, 1) := by decide +kernel
theorem dX11_fill_77 : decode cX11_fill 77 = .ok (.ifCond .le 10, 3) := by decide +kernel
theorem dX11_fill_80 : decode cX11_fill 80 = .ok (.iconst 1, 1) := by decide +kernel
theorem dX11_fill_81 : decode cX11_fill 81 = .ok (.iload 4, 2) := by decide +kernel
theorem dX11_fill_83 : decode cX11_fill 83 = .ok (.ishl, 1) := by decide +kernel
theorem dX11_fill_84 : decode cX11_fill 84 = .ok (.goto 4, 3) := by decide +kernel
theorem dX11_fill_87 : decode cX11_fill 87 = .ok (.iconst 0, 1) := by decide +kernel
theorem dX11_fill_88 : decode cX11_fill 88 = .ok (.ior, 1) := by decide +kernel
theorem dX11_fill_89 : decode cX11_fill 89 = .ok (.istore_n 3, 1) := by decide +kernel
theorem dX11_fill_90 : decode cX11_fill 90 = .ok (.iinc 4 1, 3) := by decide +kernel
theorem dX11_fill_93 : decode cX11_fill 93 = .ok (.goto (-38), 3) := by decide +kernel
theorem dX11_fill_96 : decode cX11_fill 96 = .ok (.aload_n 0, 1) := by decide +kernel
theorem dX11_fill_97 : decode cX11_fill 97 = .ok (.iconst (-1), 1) := by decide +kernel
theorem dX11_fill_98 : decode cX11_fill 98 = .ok (.putfield 391, 3) := by decide +kernel
theorem dX11_fill_101 : decode cX11_fill 101 = .ok (.aload_n 0, 1) := by decide +kernel
theorem dX11_fill_102 : decode cX11_fill 102 = .ok (.iconst 0, 1) := by decide +kernel
theorem dX11_fill_103 : decode cX11_fill 103 = .ok (.iload_n 3, 1) := by decide +kernel
theorem dX11_fill_104 : decode cX11_fill 104 = .ok (.aload_n 0, 1) := by decide +kernel
theorem dX11_fill_105 : decode cX11_fill 105 = .ok (.getfield 89, 3) := by decide +kernel
theorem dX11_fill_108 : decode cX11_fill 108 = .ok (.iconst 3, 1) := by decide +kernel
theorem dX11_fill_109 : decode cX11_fill 109 = .ok (.iaload, 1) := by decide +kernel
theorem dX11_fill_110 : decode cX11_fill 110 = .ok (.iconst 0, 1) := by decide +kernel
theorem dX11_fill_111 : decode cX11_fill 111 = .ok (.invokevirtual 397, 3) := by decide +kernel
theorem dX11_fill_114 : decode cX11_fill 114 = .ok (.iload_n 2, 1) := by decide +kernel
theorem dX11_fill_115 : decode cX11_fill 115 = .ok (.ifCond .ge 10, 3) := by decide +kernel
theorem dX11_fill_118 : decode cX11_fill 118 = .ok (.aload_n 0, 1) := by decide +kernel
theorem dX11_fill_119 : decode cX11_fill 119 = .ok (.getfield 391, 3) := by decide +kernel
theorem dX11_fill_122 : decode cX11_fill 122 = .ok (.goto 9, 3) := by decide +kernel
theorem dX11_fill_125 : decode cX11_fill 125 = .ok (.aload_n 0, 1) := by decide +kernel
theorem dX11_fill_126 : decode cX11_fill 126 = .ok (.getfield 126, 3) := by decide +kernel
theorem dX11_fill_129 : decode cX11_fill 129 = .ok (.iload_n 2, 1) := by decide +kernel
theorem dX11_fill_130 : decode cX11_fill 130 = .ok (.iaload, 1) := by decide +kernel
theorem dX11_fill_131 : decode cX11_fill 131 = .ok (.ireturn, 1) := by decide +kernel
theorem dX11_hanging_0 : decode cX11_hanging 0 = .ok (.iload 4, 2) := by decide +kernel
theorem dX11_hanging_2 : decode cX11_hanging 2 = .ok (.iload 5, 2) := by decide +kernel
theorem dX11_hanging_4 : decode cX11_hanging 4 = .ok (.if_icmp .ne 5, 3) := by decide +kernel
theorem dX11_hanging_7 : decode cX11_hanging 7 = .ok (.lconst 1, 1) := by decide +kernel
theorem dX11_hanging_8 : decode cX11_hanging 8 = .ok (.lreturn, 1) := by decide +kernel
theorem dX11_hanging_9 : decode cX11_hanging 9 = .ok (.lconst 0, 1) := by decide +kernel
theorem dX11_hanging_10 : decode cX11_hanging 10 = .ok (.lstore 6, 2) := by decide +kernel
theorem dX11_hanging_12 : decode cX11_hanging 12 = .ok (.iconst 0, 1) := by decide +kernel
theorem dX11_hanging_13 : decode cX11_hanging 13 = .ok (.istore 8, 2) := by decide +kernel
theorem dX11_hanging_15 : decode cX11_hanging 15 = .ok (.iload 8, 2) := by decide +kernel
theorem dX11_hanging_17 : decode cX11_hanging 17 = .ok (.iconst 2, 1) := by decide +kernel
theorem dX11_hanging_18 : decode cX11_hanging 18 = .ok (.if_icmp .ge 303, 3) := by decide +kernel
theorem dX11_hanging_21 : decode cX11_hanging 21 = .ok (.iload 8, 2) := by decide +kernel
theorem dX11_hanging_23 : decode cX11_hanging 23 = .ok (.iconst 1, 1) := by decide +kernel
theorem dX11_hanging_24 : decode cX11_hanging 24 = .ok (.if_icmp .ne 12, 3) := by decide +kernel
theorem dX11_hanging_27 : decode cX11_hanging 27 = .ok (.aload_n 0, 1) := by decide +kernel
theorem dX11_hanging_28 : decode cX11_hanging 28 = .ok (.getfield 89, 3) := by decide +kernel
theorem dX11_hanging_31 : decode cX11_hanging 31 = .ok (.iconst 4, 1) := by decide +kernel
theorem dX11_hanging_32 : decode cX11_hanging 32 = .ok (.iaload, 1) := by decide +kernel
theorem dX11_hanging_33 : decode cX11_hanging 33 = .ok (.goto 12, 3) := by decide +kernel
theorem dX11_hanging_36 : decode cX11_hanging 36 = .ok (.bipush 10, 2) := by decide +kernel
theorem dX11_hanging_38 : decode cX11_hanging 38 = .ok (.aload_n 0, 1) := by decide +kernel
theorem dX11_hanging_39 : decode cX11_hanging 39 = .ok (.getfield 89, 3) := by decide +kernel
theorem dX11_hanging_42 : decode cX11_hanging 42 = .ok (.iconst 4, 1) := by decide +kernel
theorem dX11_hanging_43 : decode cX11_hanging 43 = .ok (.iaload, 1) := by decide +kernel
theorem dX11_hanging_44 : decode cX11_hanging 44 = .ok (.isub, 1) := by decide +kernel
theorem dX11_hanging_45 : decode cX11_hanging 45 = .ok (.istore 9, 2) := by decide +kernel
theorem dX11_hanging_47 : decode cX11_hanging 47 = .ok (.aload_n 0, 1) := by decide +kernel
theorem dX11_hanging_48 : decode cX11_hanging 48 = .ok (.aload_n 0, 1) := by decide +kernel
theorem dX11_hanging_49 : decode cX11_hanging 49 = .ok (.getfield 113, 3) := by decide +kernel
theorem dX11_hanging_52 : decode cX11_hanging 52 = .ok (.iconst 0, 1) := by decide +kernel
theorem dX11_hanging_53 : decode cX11_hanging 53 = .ok (.iaload, 1) := by decide +kernel
theorem dX11_hanging_54 : decode cX11_hanging 54 = .ok (.iload 4, 2) := by decide +kernel
theorem dX11_hanging_56 : decode cX11_hanging 56 = .ok (.iadd, 1) := by decide +kernel
theorem dX11_hanging_57 : decode cX11_hanging 57 = .ok (.iload 8, 2) := by decide +kernel
theorem dX11_hanging_59 : decode cX11_hanging 59 = .ok (.iconst 1, 1) := by decide +kernel
theorem dX11_hanging_60 : decode cX11_hanging 60 = .ok (.if_icmp .ne 7, 3) := by decide +kernel
theorem dX11_hanging_63 : decode cX11_hanging 63 = .ok (.iconst 1, 1) := by decide +kernel
theorem dX11_hanging_64 : decode cX11_hanging 64 = .ok (.goto 4, 3) := by decide +kernel
theorem dX11_hanging_67 : decode cX11_hanging 67 = .ok (.iconst 0, 1) := by decide +kernel
theorem dX11_hanging_68 : decode cX11_hanging 68 = .ok (.invokevirtual 332, 3) := by decide +kernel
theorem dX11_hanging_71 : decode cX11_hanging 71 = .ok (.istore 10, 2) := by decide +kernel
theorem dX11_hanging_73 : decode cX11_hanging 73 = .ok (.iconst 0, 1) := by decide +kernel
theorem dX11_hanging_74 : decode cX11_hanging 74 = .ok (.istore 11, 2) := by decide +kernel
theorem dX11_hanging_76 : decode cX11_hanging 76 = .ok (.iconst 0, 1) := by decide +kernel
theorem dX11_hanging_77 : decode cX11_hanging 77 = .ok (.istore 12, 2) := by decide +kernel
theorem dX11_hanging_79 : decode cX11_hanging 79 = .ok (.iload 12, 2) := by decide +kernel
theorem dX11_hanging_81 : decode cX11_hanging 81 = .ok (.bipush 8, 2) := by decide +kernel
theorem dX11_hanging_83 : decode cX11_hanging 83 = .ok (.if_icmp .ge 69, 3) := by decide +kernel
theorem dX11_hanging_86 : decode cX11_hanging 86 = .ok (.aload_n 0, 1) := by decide +kernel
theorem dX11_hanging_87 : decode cX11_hanging 87 = .ok (.getfield 129, 3) := by decide +kernel
theorem dX11_hanging_90 : decode cX11_hanging 90 = .ok (.bipush 8, 2) := by decide +kernel
theorem dX11_hanging_92 : decode cX11_hanging 92 = .ok (.iload 4, 2) := by decide +kernel
theorem dX11_hanging_94 : decode cX11_hanging 94 = .ok (.iconst 1, 1) := by decide +kernel
theorem dX11_hanging_95 : decode cX11_hanging 95 = .ok (.iadd, 1) := by decide +kernel
theorem dX11_hanging_96 : decode cX11_hanging 96 = .ok (.imul, 1) := by decide +kernel
theorem dX11_hanging_97 : decode cX11_hanging 97 = .ok (.iload 12, 2) := by decide +kernel
theorem dX11_hanging_99 : decode cX11_hanging 99 = .ok (.iadd, 1) := by decide +kernel
theorem dX11_hanging_100 : decode cX11_hanging 100 = .ok (.aload_n 0, 1) := by decide +kernel
theorem dX11_hanging_101 : decode cX11_hanging 101 = .ok (.getfield 129, 3) := by decide +kernel
theorem dX11_hanging_104 : decode cX11_hanging 104 = .ok (.bipush 8, 2) := by decide +kernel
theorem dX11_hanging_106 : decode cX11_hanging 106 = .ok (.iload 4, 2) := by decide +kernel
theorem dX11_hanging_108 : decode cX11_hanging 108 = .ok (.imul, 1) := by decide +kernel
theorem dX11_hanging_109 : decode cX11_hanging 109 = .ok (.iload 12, 2) := by decide +kernel
theorem dX11_hanging_111 : decode cX11_hanging 111 = .ok (.iadd, 1) := by decide +kernel
theorem dX11_hanging_112 : decode cX11_hanging 112 = .ok (.iaload, 1) := by decide +kernel
theorem dX11_hanging_113 : decode cX11_hanging 113 = .ok (.iastore, 1) := by decide +kernel
theorem dX11_hanging_114 : decode cX11_hanging 114 = .ok (.iload 11, 2) := by decide +kernel
theorem dX11_hanging_116 : decode cX11_hanging 116 = .ok (.iload_n 2, 1) := by decide +kernel
theorem dX11_hanging_117 : decode cX11_hanging 117 = .ok (.iload 12, 2) := by decide +kernel
theorem dX11_hanging_119 : decode cX11_hanging 119 = .ok (.ishr, 1) := by decide +kernel
theorem dX11_hanging_120 : decode cX11_hanging 120 = .ok (.iconst 1, 1) := by decide +kernel
theorem dX11_hanging_121 : decode cX11_hanging 121 = .ok (.iand, 1) := by decide +kernel
theorem dX11_hanging_122 : decode cX11_hanging 122 = .ok (.iconst 1, 1) := by decide +kernel
theorem dX11_hanging_123 : decode cX11_hanging 123 = .ok (.if_icmp .ne 19, 3) := by decide +kernel
theorem dX11_hanging_126 : decode cX11_hanging 126 = .ok (.aload_n 0, 1) := by decide +kernel
theorem dX11_hanging_127 : decode cX11_hanging 127 = .ok (.getfield 129, 3) := by decide +kernel
theorem dX11_hanging_130 : decode cX11_hanging 130 = .ok (.bipush 8, 2) := by decide +kernel
theorem dX11_hanging_132 : decode cX11_hanging 132 = .ok (.iload 4, 2) := by decide +kernel
theorem dX11_hanging_134 : decode cX11_hanging 134 = .ok (.imul, 1) := by decide +kernel
theorem dX11_hanging_135 : decode cX11_hanging 135 = .ok (.iload 12, 2) := by decide +kernel
theorem dX11_hanging_137 : decode cX11_hanging 137 = .ok (.iadd, 1) := by decide +kernel
theorem dX11_hanging_138 : decode cX11_hanging 138 = .ok (.iaload, 1) := by decide +kernel
theorem dX11_hanging_139 : decode cX11_hanging 139 = .ok (.goto 4, 3) := by decide +kernel
theorem dX11_hanging_142 : decode cX11_hanging 142 = .ok (.iconst 0, 1) := by decide +kernel
theorem dX11_hanging_143 : decode cX11_hanging 143 = .ok (.iadd, 1) := by decide +kernel
theorem dX11_hanging_144 : decode cX11_hanging 144 = .ok (.istore 11, 2) := by decide +kernel
theorem dX11_hanging_146 : decode cX11_hanging 146 = .ok (.iinc 12 1, 3) := by decide +kernel
theorem dX11_hanging_149 : decode cX11_hanging 149 = .ok (.goto (-70), 3) := by decide +kernel
theorem dX11_hanging_152 : decode cX11_hanging 152 = .ok (.aload_n 0, 1) := by decide +kernel
theorem dX11_hanging_153 : decode cX11_hanging 153 = .ok (.iload_n 1, 1) := by decide +kernel
theorem dX11_hanging_154 : decode cX11_hanging 154 = .ok (.iload_n 3, 1) := by decide +kernel
theorem dX11_hanging_155 : decode cX11_hanging 155 = .ok (.iload 10, 2) := by decide +kernel
theorem dX11_hanging_157 : decode cX11_hanging 157 = .ok (.invokevirtual 317, 3) := by decide +kernel
theorem dX11_hanging_160 : decode cX11_hanging 160 = .ok (.istore 12, 2) := by decide +kernel
theorem dX11_hanging_162 : decode cX11_hanging 162 = .ok (.iload_n 2, 1) := by decide +kernel
theorem dX11_hanging_163 : decode cX11_hanging 163 = .ok (.istore 13, 2) := by decide +kernel
theorem dX11_hanging_165 : decode cX11_hanging 165 = .ok (.iconst 0, 1) := by decide +kernel
theorem dX11_hanging_166 : decode cX11_hanging 166 = .ok (.istore 14, 2) := by decide +kernel
theorem dX11_hanging_168 : decode cX11_hanging 168 = .ok (.iload 14, 2) := by decide +kernel
theorem dX11_hanging_170 : decode cX11_hanging 170 = .ok (.bipush 8, 2) := by decide +kernel
theorem dX11_hanging_172 : decode cX11_hanging 172 = .ok (.if_icmp .ge 80, 3) := by decide +kernel
theorem dX11_hanging_175 : decode cX11_hanging 175 = .ok (.iconst 2, 1) := by decide +kernel
theorem dX11_hanging_176 : decode cX11_hanging 176 = .ok (.iload 12, 2) := by decide +kernel
theorem dX11_hanging_178 : decode cX11_hanging 178 = .ok (.imul, 1) := by decide +kernel
theorem dX11_hanging_179 : decode cX11_hanging 179 = .ok (.iload 11, 2) := by decide +kernel
theorem dX11_hanging_181 : decode cX11_hanging 181 = .ok (.if_icmp .le 71, 3) := by decide +kernel
theorem dX11_hanging_184 : decode cX11_hanging 184 = .ok (.iload_n 2, 1) := by decide +kernel
theorem dX11_hanging_185 : decode cX11_hanging 185 = .ok (.iload 14, 2) := by decide +kernel
theorem dX11_hanging_187 : decode cX11_hanging 187 = .ok (.ishr, 1) := by decide +kernel
theorem dX11_hanging_188 : decode cX11_hanging 188 = .ok (.iconst 1, 1) := by decide +kernel
theorem dX11_hanging_189 : decode cX11_hanging 189 = .ok (.iand, 1) := by decide +kernel
theorem dX11_hanging_190 : decode cX11_hanging 190 = .ok (.iconst 1, 1) := by decide +kernel
theorem dX11_hanging_191 : decode cX11_hanging 191 = .ok (.if_icmp .ne 55, 3) := by decide +kernel
theorem dX11_hanging_194 : decode cX11_hanging 194 = .ok (.aload_n 0, 1) := by decide +kernel
theorem dX11_hanging_195 : decode cX11_hanging 195 = .ok (.getfield 129, 3) := by decide +kernel
theorem dX11_hanging_198 : decode cX11_hanging 198 = .ok (.bipush 8, 2) := by decide +kernel
theorem dX11_hanging_200 : decode cX11_hanging 200 = .ok (.iload 4, 2) := by decide +kernel
theorem dX11_hanging_202 : decode cX11_hanging 202 = .ok (.iconst 1, 1) := by decide +kernel
theorem dX11_hanging_203 : decode cX11_hanging 203 = .ok (.iadd, 1) := by decide +kernel
theorem dX11_hanging_204 : decode cX11_hanging 204 = .ok (.imul, 1) := by decide +kernel
theorem dX11_hanging_205 : decode cX11_hanging 205 = .ok (.iload 14, 2) := by decide +kernel
theorem dX11_hanging_207 : decode cX11_hanging 207 = .ok (.iadd, 1) := by decide +kernel
theorem dX11_hanging_208 : decode cX11_hanging 208 = .ok (.dup2, 1) := by decide +kernel
theorem dX11_hanging_209 : decode cX11_hanging 209 = .ok (.iaload, 1) := by decide +kernel
theorem dX11_hanging_210 : decode cX11_hanging 210 = .ok (.iconst 1, 1) := by decide +kernel
theorem dX11_hanging_211 : decode cX11_hanging 211 = .ok (.isub, 1) := by decide +kernel
theorem dX11_hanging_212 : decode cX11_hanging 212 = .ok (.iastore, 1) := by decide +kernel
theorem dX11_hanging_213 : decode cX11_hanging 213 = .ok (.iload 13, 2) := by decide +kernel
theorem dX11_hanging_215 : decode cX11_hanging 215 = .ok (.aload_n 0, 1) := by decide +kernel
theorem dX11_hanging_216 : decode cX11_hanging 216 = .ok (.getfield 129, 3) := by decide +kernel
theorem dX11_hanging_219 : decode cX11_hanging 219 = .ok (.bipush 8, 2) := by decide +kernel
theorem dX11_hanging_221 : decode cX11_hanging 221 = .ok (.iload 4, 2) := by decide +kernel
theorem dX11_hanging_223 : decode cX11_hanging 223 = .ok (.iconst 1, 1) := by decide +kernel
theorem dX11_hanging_224 : decode cX11_hanging 224 = .ok (.iadd, 1) := by decide +kernel
theorem dX11_hanging_225 : decode cX11_hanging 225 = .ok (.imul, 1) := by decide +kernel
theorem dX11_hanging_226 : decode cX11_hanging 226 = .ok (.iload 14, 2) := by decide +kernel
theorem dX11_hanging_228 : decode cX11_hanging 228 = .ok (.iadd, 1) := by decide +kernel
theorem dX11_hanging_229 : decode cX11_hanging 229 = .ok (.iaload, 1) := by decide +kernel
theorem dX11_hanging_230 : decode cX11_hanging 230 = .ok (.ifCond .ne 12, 3) := by decide +kernel
theorem dX11_hanging_233 : decode cX11_hanging 233 = .ok (.iconst 1, 1) := by decide +kernel
theorem dX11_hanging_234 : decode cX11_hanging 234 = .ok (.iload 14, 2) := by decide +kernel
theorem dX11_hanging_236 : decode cX11_hanging 236 = .ok (.ishl, 1) := by decide +kernel
theorem dX11_hanging_237 : decode cX11_hanging 237 = .ok (.iconst (-1), 1) := by decide +kernel
theorem dX11_hanging_238 : decode cX11_hanging 238 = .ok (.ixor, 1) := by decide +kernel
theorem dX11_hanging_239 : decode cX11_hanging 239 = .ok (.goto 4, 3) := by decide +kernel
theorem dX11_hanging_242 : decode cX11_hanging 242 = .ok (.iconst (-1), 1) := by decide +kernel
theorem dX11_hanging_243 : decode cX11_hanging 243 = .ok (.iand, 1) := by decide +kernel
theorem dX11_hanging_244 : decode cX11_hanging 244 = .ok (.istore 13, 2) := by decide +kernel
theorem dX11_hanging_246 : decode cX11_hanging 246 = .ok (.iinc 14 1, 3) := by decide +kernel
theorem dX11_hanging_249 : decode cX11_hanging 249 = .ok (.goto (-81), 3) := by decide +kernel
theorem dX11_hanging_252 : decode cX11_hanging 252 = .ok (.iload 9, 2) := by decide +kernel
theorem dX11_hanging_254 : decode cX11_hanging 254 = .ok (.ifCond .le 19, 3) := by decide +kernel
theorem dX11_hanging_257 : decode cX11_hanging 257 = .ok (.iload 12, 2) := by decide +kernel
theorem dX11_hanging_259 : decode cX11_hanging 259 = .ok (.iload 11, 2) := by decide +kernel
theorem dX11_hanging_261 : decode cX11_hanging 261 = .ok (.if_icmp .gt 12, 3) := by decide +kernel
theorem dX11_hanging_264 : decode cX11_hanging 264 = .ok (.iload 13, 2) := by decide +kernel
theorem dX11_hanging_266 : decode cX11_hanging 266 = .ok (.ifCond .eq 7, 3) := by decide +kernel
theorem dX11_hanging_269 : decode cX11_hanging 269 = .ok (.iconst 1, 1) := by decide +kernel
theorem dX11_hanging_270 : decode cX11_hanging 270 = .ok (.goto 4, 3) := by decide +kernel
theorem dX11_hanging_273 : decode cX11_hanging 273 = .ok (.iconst 0, 1) := by decide +kernel
theorem dX11_hanging_274 : decode cX11_hanging 274 = .ok (.istore 14, 2) := by decide +kernel
theorem dX11_hanging_276 : decode cX11_hanging 276 = .ok (.lload 6, 2) := by decide +kernel
theorem dX11_hanging_278 : decode cX11_hanging 278 = .ok (.iload 14, 2) := by decide +kernel
theorem dX11_hanging_280 : decode cX11_hanging 280 = .ok (.ifCond .eq 31, 3) := by decide +kernel
theorem dX11_hanging_283 : decode cX11_hanging 283 = .ok (.iload 9, 2) := by decide +kernel
theorem dX11_hanging_285 : decode cX11_hanging 285 = .ok (.i2l, 1) := by decide +kernel
theorem dX11_hanging_286 : decode cX11_hanging 286 = .ok (.aload_n 0, 1) := by decide +kernel
theorem dX11_hanging_287 : decode cX11_hanging 287 = .ok (.iload_n 1, 1) := by decide +kernel
theorem dX11_hanging_288 : decode cX11_hanging 288 = .ok (.iload 13, 2) := by decide +kernel
theorem dX11_hanging_290 : decode cX11_hanging 290 = .ok (.aload_n 0, 1) := by decide +kernel
theorem dX11_hanging_291 : decode cX11_hanging 291 = .ok (.iload_n 1, 1) := by decide +kernel
theorem dX11_hanging_292 : decode cX11_hanging 292 = .ok (.iload_n 3, 1) := by decide +kernel
theorem dX11_hanging_293 : decode cX11_hanging 293 = .ok (.iload 10, 2) := by decide +kernel
theorem dX11_hanging_295 : decode cX11_hanging 295 = .ok (.invokevirtual 340, 3) := by decide +kernel
theorem dX11_hanging_298 : decode cX11_hanging 298 = .ok (.iload 4, 2) := by decide +kernel
theorem dX11_hanging_300 : decode cX11_hanging 300 = .ok (.iconst 1, 1) := by decide +kernel
theorem dX11_hanging_301 : decode cX11_hanging 301 = .ok (.iadd, 1) := by decide +kernel
theorem dX11_hanging_302 : decode cX11_hanging 302 = .ok (.iload 5, 2) := by decide +kernel
theorem dX11_hanging_304 : decode cX11_hanging 304 = .ok (.invokevirtual 404, 3) := by decide +kernel
theorem dX11_hanging_307 : decode cX11_hanging 307 = .ok (.lmul, 1) := by decide +kernel
theorem dX11_hanging_308 : decode cX11_hanging 308 = .ok (.goto 4, 3) := by decide +kernel
theorem dX11_hanging_311 : decode cX11_hanging 311 = .ok (.lconst 0, 1) := by decide +kernel
theorem dX11_hanging_312 : decode cX11_hanging 312 = .ok (.ladd, 1) := by decide +kernel
theorem dX11_hanging_313 : decode cX11_hanging 313 = .ok (.lstore 6, 2) := by decide +kernel
theorem dX11_hanging_315 : decode cX11_hanging 315 = .ok (.iinc 8 1, 3) := by decide +kernel
theorem dX11_hanging_318 : decode cX11_hanging 318 = .ok (.goto (-303), 3) := by decide +kernel
theorem dX11_hanging_321 : decode cX11_hanging 321 = .ok (.lload 6, 2) := by decide +kernel
theorem dX11_hanging_323 : decode cX11_hanging 323 = .ok (.lreturn, 1) := by decide +kernel
theorem dX11_odds_0 : decode cX11_odds 0 = .ok (.aload_n 0, 1) := by decide +kernel
theorem dX11_odds_1 : decode cX11_odds 1 = .ok (.iconst 0, 1) := by decide +kernel
theorem dX11_odds_2 : decode cX11_odds 2 = .ok (.putfield 1, 3) := by decide +kernel
theorem dX11_odds_5 : decode cX11_odds 5 = .ok (.aload_n 0, 1) := by decide +kernel
theorem dX11_odds_6 : decode cX11_odds 6 = .ok (.iload_n 1, 1) := by decide +kernel
theorem dX11_odds_7 : decode cX11_odds 7 = .ok (.invokevirtual 346, 3) := by decide +kernel
theorem dX11_odds_10 : decode cX11_odds 10 = .ok (.ifCond .eq 22, 3) := by decide +kernel
theorem dX11_odds_13 : decode cX11_odds 13 = .ok (.iload_n 2, 1) := by decide +kernel
theorem dX11_odds_14 : decode cX11_odds 14 = .ok (.iconst 1, 1) := by decide +kernel
theorem dX11_odds_15 : decode cX11_odds 15 = .ok (.bipush 8, 2) := by decide +kernel
theorem dX11_odds_17 : decode cX11_odds 17 = .ok (.invokestatic 349, 3) := by decide +kernel
theorem dX11_odds_20 : decode cX11_odds 20 = .ok (.ifCond .eq 12, 3) := by decide +kernel
theorem dX11_odds_23 : decode cX11_odds 23 = .ok (.aload_n 0, 1) := by decide +kernel
theorem dX11_odds_24 : decode cX11_odds 24 = .ok (.iconst 0, 1) := by decide +kernel
theorem dX11_odds_25 : decode cX11_odds 25 = .ok (.iload_n 1, 1) := by decide +kernel
theorem dX11_odds_26 : decode cX11_odds 26 = .ok (.invokevirtual 304, 3) := by decide +kernel
theorem dX11_odds_29 : decode cX11_odds 29 = .ok (.ifCond .ne 5, 3) := by decide +kernel
theorem dX11_odds_32 : decode cX11_odds 32 = .ok (.iconst (-1), 1) := by decide +kernel
theorem dX11_odds_33 : decode cX11_odds 33 = .ok (.ireturn, 1) := by decide +kernel
theorem dX11_odds_34 : decode cX11_odds 34 = .ok (.iconst 0, 1) := by decide +kernel
theorem dX11_odds_35 : decode cX11_odds 35 = .ok (.istore_n 3, 1) := by decide +kernel
theorem dX11_odds_36 : decode cX11_odds 36 = .ok (.iload_n 3, 1) := by decide +kernel
theorem dX11_odds_37 : decode cX11_odds 37 = .ok (.bipush 8, 2) := by decide +kernel
theorem dX11_odds_39 : decode cX11_odds 39 = .ok (.if_icmp .ge 24, 3) := by decide +kernel
theorem dX11_odds_42 : decode cX11_odds 42 = .ok (.aload_n 0, 1) := by decide +kernel
theorem dX11_odds_43 : decode cX11_odds 43 = .ok (.getfield 129, 3) := by decide +kernel
theorem dX11_odds_46 : decode cX11_odds 46 = .ok (.iload_n 3, 1) := by decide +kernel
theorem dX11_odds_47 : decode cX11_odds 47 = .ok (.aload_n 0, 1) := by decide +kernel
theorem dX11_odds_48 : decode cX11_odds 48 = .ok (.getfield 113, 3) := by decide +kernel
theorem dX11_odds_51 : decode cX11_odds 51 = .ok (.bipush 20, 2) := by decide +kernel
theorem dX11_odds_53 : decode cX11_odds 53 = .ok (.iload_n 3, 1) := by decide +kernel
theorem dX11_odds_54 : decode cX11_odds 54 = .ok (.iadd, 1) := by decide +kernel
theorem dX11_odds_55 : decode cX11_odds 55 = .ok (.iaload, 1) := by decide +kernel
theorem dX11_odds_56 : decode cX11_odds 56 = .ok (.iastore, 1) := by decide +kernel
theorem dX11_odds_57 : decode cX11_odds 57 = .ok (.iinc 3 1, 3) := by decide +kernel
theorem dX11_odds_60 : decode cX11_odds 60 = .ok (.goto (-24), 3) := by decide +kernel
theorem dX11_odds_63 : decode cX11_odds 63 = .ok (.lconst 1, 1) := by decide +kernel
theorem dX11_odds_64 : decode cX11_odds 64 = .ok (.lstore_n 3, 1) := by decide +kernel
theorem dX11_odds_65 : decode cX11_odds 65 = .ok (.iconst 0, 1) := by decide +kernel
theorem dX11_odds_66 : decode cX11_odds 66 = .ok (.istore 5, 2) := by decide +kernel
theorem dX11_odds_68 : decode cX11_odds 68 = .ok (.iload 5, 2) := by decide +kernel
theorem dX11_odds_70 : decode cX11_odds 70 = .ok (.iload_n 2, 1) := by decide +kernel
theorem dX11_odds_71 : decode cX11_odds 71 = .ok (.if_icmp .ge 15, 3) := by decide +kernel
theorem dX11_odds_74 : decode cX11_odds 74 = .ok (.lload_n 3, 1) := by decide +kernel
theorem dX11_odds_75 : decode cX11_odds 75 = .ok (.ldc2_w 167, 3) := by decide +kernel
theorem dX11_odds_78 : decode cX11_odds 78 = .ok (.lmul, 1) := by decide +kernel
theorem dX11_odds_79 : decode cX11_odds 79 = .ok (.lstore_n 3, 1) := by decide +kernel
theorem dX11_odds_80 : decode cX11_odds 80 = .ok (.iinc 5 1, 3) := by decide +kernel
theorem dX11_odds_83 : decode cX11_odds 83 = .ok (.goto (-15), 3) := by decide +kernel
theorem dX11_odds_86 : decode cX11_odds 86 = .ok (.aload_n 0, 1) := by decide +kernel
theorem dX11_odds_87 : decode cX11_odds 87 = .ok (.iload_n 1, 1) := by decide +kernel
theorem dX11_odds_88 : decode cX11_odds 88 = .ok (.aload_n 0, 1) := by decide +kernel
theorem dX11_odds_89 : decode cX11_odds 89 = .ok (.getfield 113, 3) := by decide +kernel
theorem dX11_odds_92 : decode cX11_odds 92 = .ok (.bipush 14, 2) := by decide +kernel
theorem dX11_odds_94 : decode cX11_odds 94 = .ok (.iload_n 1, 1) := by decide +kernel
theorem dX11_odds_95 : decode cX11_odds 95 = .ok (.iadd, 1) := by decide +kernel
theorem dX11_odds_96 : decode cX11_odds 96 = .ok (.iaload, 1) := by decide +kernel
theorem dX11_odds_97 : decode cX11_odds 97 = .ok (.aload_n 0, 1) := by decide +kernel
theorem dX11_odds_98 : decode cX11_odds 98 = .ok (.getfield 113, 3) := by decide +kernel
theorem dX11_odds_101 : decode cX11_odds 101 = .ok (.iconst 2, 1) := by decide +kernel
theorem dX11_odds_102 : decode cX11_odds 102 = .ok (.iload_n 1, 1) := by decide +kernel
theorem dX11_odds_103 : decode cX11_odds 103 = .ok (.iadd, 1) := by decide +kernel
theorem dX11_odds_104 : decode cX11_odds 104 = .ok (.iaload, 1) := by decide +kernel
theorem dX11_odds_105 : decode cX11_odds 105 = .ok (.iconst 0, 1) := by decide +kernel
theorem dX11_odds_106 : decode cX11_odds 106 = .ok (.iload_n 2, 1) := by decide +kernel
theorem dX11_odds_107 : decode cX11_odds 107 = .ok (.invokevirtual 404, 3) := by decide +kernel
theorem dX11_odds_110 : decode cX11_odds 110 = .ok (.ldc2_w 408, 3) := by decide +kernel
theorem dX11_odds_113 : decode cX11_odds 113 = .ok (.lmul, 1) := by decide +kernel
theorem dX11_odds_114 : decode cX11_odds 114 = .ok (.lload_n 3, 1) := by decide +kernel
theorem dX11_odds_115 : decode cX11_odds 115 = .ok (.ldiv, 1) := by decide +kernel
theorem dX11_odds_116 : decode cX11_odds 116 = .ok (.l2i, 1) := by decide +kernel
theorem dX11_odds_117 : decode cX11_odds 117 = .ok (.ireturn, 1) := by decide +kernel
theorem dX11_driedBehind_0 : decode cX11_driedBehind 0 = .ok (.bipush 9, 2) := by decide +kernel
theorem dX11_driedBehind_2 : decode cX11_driedBehind 2 = .ok (.istore_n 3, 1) := by decide +kernel
theorem dX11_driedBehind_3 : decode cX11_driedBehind 3 = .ok (.iload_n 2, 1) := by decide +kernel
theorem dX11_driedBehind_4 : decode cX11_driedBehind 4 = .ok (.istore 4, 2) := by decide +kernel
theorem dX11_driedBehind_6 : decode cX11_driedBehind 6 = .ok (.iload_n 3, 1) := by decide +kernel
theorem dX11_driedBehind_7 : decode cX11_driedBehind 7 = .ok (.ifCond .le 37, 3) := by decide +kernel
theorem dX11_driedBehind_10 : decode cX11_driedBehind 10 = .ok (.iload 4, 2) := by decide +kernel
theorem dX11_driedBehind_12 : decode cX11_driedBehind 12 = .ok (.bipush 100, 2) := by decide +kernel
theorem dX11_driedBehind_14 : decode cX11_driedBehind 14 = .ok (.if_icmp .ge 30, 3) := by decide +kernel
theorem dX11_driedBehind_17 : decode cX11_driedBehind 17 = .ok (.aload_n 0, 1) := by decide +kernel
theorem dX11_driedBehind_18 : decode cX11_driedBehind 18 = .ok (.iload_n 1, 1) := by decide +kernel
theorem dX11_driedBehind_19 : decode cX11_driedBehind 19 = .ok (.iload_n 3, 1) := by decide +kernel
theorem dX11_driedBehind_20 : decode cX11_driedBehind 20 = .ok (.aload_n 0, 1) := by decide +kernel
theorem dX11_driedBehind_21 : decode cX11_driedBehind 21 = .ok (.aload_n 0, 1) := by decide +kernel
theorem dX11_driedBehind_22 : decode cX11_driedBehind 22 = .ok (.getfield 113, 3) := by decide +kernel
theorem dX11_driedBehind_25 : decode cX11_driedBehind 25 = .ok (.iconst 0, 1) := by decide +kernel
theorem dX11_driedBehind_26 : decode cX11_driedBehind 26 = .ok (.iaload, 1) := by decide +kernel
theorem dX11_driedBehind_27 : decode cX11_driedBehind 27 = .ok (.iload 4, 2) := by decide +kernel
theorem dX11_driedBehind_29 : decode cX11_driedBehind 29 = .ok (.iadd, 1) := by decide +kernel
theorem dX11_driedBehind_30 : decode cX11_driedBehind 30 = .ok (.iconst 0, 1) := by decide +kernel
theorem dX11_driedBehind_31 : decode cX11_driedBehind 31 = .ok (.invokevirtual 332, 3) := by decide +kernel
theorem dX11_driedBehind_34 : decode cX11_driedBehind 34 = .ok (.invokevirtual 340, 3) := by decide +kernel
theorem dX11_driedBehind_37 : decode cX11_driedBehind 37 = .ok (.istore_n 3, 1) := by decide +kernel
theorem dX11_driedBehind_38 : decode cX11_driedBehind 38 = .ok (.iinc 4 1, 3) := by decide +kernel
theorem dX11_driedBehind_41 : decode cX11_driedBehind 41 = .ok (.goto (-35), 3) := by decide +kernel
theorem dX11_driedBehind_44 : decode cX11_driedBehind 44 = .ok (.iload_n 3, 1) := by decide +kernel
theorem dX11_driedBehind_45 : decode cX11_driedBehind 45 = .ok (.ifCond .le 8, 3) := by decide +kernel
theorem dX11_driedBehind_48 : decode cX11_driedBehind 48 = .ok (.bipush 100, 2) := by decide +kernel
theorem dX11_driedBehind_50 : decode cX11_driedBehind 50 = .ok (.goto 5, 3) := by decide +kernel
theorem dX11_driedBehind_53 : decode cX11_driedBehind 53 = .ok (.iload 4, 2) := by decide +kernel
theorem dX11_driedBehind_55 : decode cX11_driedBehind 55 = .ok (.ireturn, 1) := by decide +kernel
theorem dX11_washesFrom_0 : decode cX11_washesFrom 0 = .ok (.iload_n 2, 1) := by decide +kernel
theorem dX11_washesFrom_1 : decode cX11_washesFrom 1 = .ok (.aload_n 0, 1) := by decide +kernel
theorem dX11_washesFrom_2 : decode cX11_washesFrom 2 = .ok (.getfield 410, 3) := by decide +kernel
theorem dX11_washesFrom_5 : decode cX11_washesFrom 5 = .ok (.if_icmp .ne 46, 3) := by decide +kernel
theorem dX11_washesFrom_8 : decode cX11_washesFrom 8 = .ok (.iload_n 3, 1) := by decide +kernel
theorem dX11_washesFrom_9 : decode cX11_washesFrom 9 = .ok (.aload_n 0, 1) := by decide +kernel
theorem dX11_washesFrom_10 : decode cX11_washesFrom 10 = .ok (.getfield 413, 3) := by decide +kernel
theorem dX11_washesFrom_13 : decode cX11_washesFrom 13 = .ok (.if_icmp .ge 37, 3) := by decide +kernel
theorem dX11_washesFrom_16 : decode cX11_washesFrom 16 = .ok (.aload_n 0, 1) := by decide +kernel
theorem dX11_washesFrom_17 : decode cX11_washesFrom 17 = .ok (.iload_n 3, 1) := by decide +kernel
theorem dX11_washesFrom_18 : decode cX11_washesFrom 18 = .ok (.putfield 413, 3) := by decide +kernel
theorem dX11_washesFrom_21 : decode cX11_washesFrom 21 = .ok (.iconst 0, 1) := by decide +kernel
theorem dX11_washesFrom_22 : decode cX11_washesFrom 22 = .ok (.istore 4, 2) := by decide +kernel
theorem dX11_washesFrom_24 : decode cX11_washesFrom 24 = .ok (.iload 4, 2) := by decide +kernel
theorem dX11_washesFrom_26 : decode cX11_washesFrom 26 = .ok (.iload_n 1, 1) := by decide +kernel
theorem dX11_washesFrom_27 : decode cX11_washesFrom 27 = .ok (.if_icmp .ge 23, 3) := by decide +kernel
theorem dX11_washesFrom_30 : decode cX11_washesFrom 30 = .ok (.aload_n 0, 1) := by decide +kernel
theorem dX11_washesFrom_31 : decode cX11_washesFrom 31 = .ok (.getfield 138, 3) := by decide +kernel
theorem dX11_washesFrom_34 : decode cX11_washesFrom 34 = .ok (.iload 4, 2) := by decide +kernel
theorem dX11_washesFrom_36 : decode cX11_washesFrom 36 = .ok (.aload_n 0, 1) := by decide +kernel
theorem dX11_washesFrom_37 : decode cX11_washesFrom 37 = .ok (.getfield 135, 3) := by decide +kernel
theorem dX11_washesFrom_40 : decode cX11_washesFrom 40 = .ok (.iload 4, 2) := by decide +kernel
theorem dX11_washesFrom_42 : decode cX11_washesFrom 42 = .ok (.iaload, 1) := by decide +kernel
theorem dX11_washesFrom_43 : decode cX11_washesFrom 43 = .ok (.iastore, 1) := by decide +kernel
theorem dX11_washesFrom_44 : decode cX11_washesFrom 44 = .ok (.iinc 4 1, 3) := by decide +kernel
theorem dX11_washesFrom_47 : decode cX11_washesFrom 47 = .ok (.goto (-23), 3) := by decide +kernel
theorem dX11_washesFrom_50 : decode cX11_washesFrom 50 = .ok (.return_, 1) := by decide +kernel
theorem dX11_washesFrom_51 : decode cX11_washesFrom 51 = .ok (.iconst 0, 1) := by decide +kernel
theorem dX11_washesFrom_52 : decode cX11_washesFrom 52 = .ok (.istore 4, 2) := by decide +kernel
theorem dX11_washesFrom_54 : decode cX11_washesFrom 54 = .ok (.iload 4, 2) := by decide +kernel
theorem dX11_washesFrom_56 : decode cX11_washesFrom 56 = .ok (.aload_n 0, 1) := by decide +kernel
theorem dX11_washesFrom_57 : decode cX11_washesFrom 57 = .ok (.invokevirtual 292, 3) := by decide +kernel
theorem dX11_washesFrom_60 : decode cX11_washesFrom 60 = .ok (.if_icmp .ge 78, 3) := by decide +kernel
theorem dX11_washesFrom_63 : decode cX11_washesFrom 63 = .ok (.aload_n 0, 1) := by decide +kernel
theorem dX11_washesFrom_64 : decode cX11_washesFrom 64 = .ok (.getfield 410, 3) := by decide +kernel
theorem dX11_washesFrom_67 : decode cX11_washesFrom 67 = .ok (.iload 4, 2) := by decide +kernel
theorem dX11_washesFrom_69 : decode cX11_washesFrom 69 = .ok (.ishr, 1) := by decide +kernel
theorem dX11_washesFrom_70 : decode cX11_washesFrom 70 = .ok (.iconst 1, 1) := by decide +kernel
theorem dX11_washesFrom_71 : decode cX11_washesFrom 71 = .ok (.iand, 1) := by decide +kernel
theorem dX11_washesFrom_72 : decode cX11_washesFrom 72 = .ok (.iconst 1, 1) := by decide +kernel
theorem dX11_washesFrom_73 : decode cX11_washesFrom 73 = .ok (.if_icmp .ne 59, 3) := by decide +kernel
theorem dX11_washesFrom_76 : decode cX11_washesFrom 76 = .ok (.iload_n 2, 1) := by decide +kernel
theorem dX11_washesFrom_77 : decode cX11_washesFrom 77 = .ok (.iload 4, 2) := by decide +kernel
theorem dX11_washesFrom_79 : decode cX11_washesFrom 79 = .ok (.ishr, 1) := by decide +kernel
theorem dX11_washesFrom_80 : decode cX11_washesFrom 80 = .ok (.iconst 1, 1) := by decide +kernel
theorem dX11_washesFrom_81 : decode cX11_washesFrom 81 = .ok (.iand, 1) := by decide +kernel
theorem dX11_washesFrom_82 : decode cX11_washesFrom 82 = .ok (.ifCond .ne 50, 3) := by decide +kernel
theorem dX11_washesFrom_85 : decode cX11_washesFrom 85 = .ok (.aload_n 0, 1) := by decide +kernel
theorem dX11_washesFrom_86 : decode cX11_washesFrom 86 = .ok (.getfield 132, 3) := by decide +kernel
theorem dX11_washesFrom_89 : decode cX11_washesFrom 89 = .ok (.bipush 6, 2) := by decide +kernel
theorem dX11_washesFrom_91 : decode cX11_washesFrom 91 = .ok (.iload 4, 2) := by decide +kernel
theorem dX11_washesFrom_93 : decode cX11_washesFrom 93 = .ok (.imul, 1) := by decide +kernel
theorem dX11_washesFrom_94 : decode cX11_washesFrom 94 = .ok (.iload_n 1, 1) := by decide +kernel
theorem dX11_washesFrom_95 : decode cX11_washesFrom 95 = .ok (.iadd, 1) := by decide +kernel
theorem dX11_washesFrom_96 : decode cX11_washesFrom 96 = .ok (.iaload, 1) := by decide +kernel
theorem dX11_washesFrom_97 : decode cX11_washesFrom 97 = .ok (.istore 5, 2) := by decide +kernel
theorem dX11_washesFrom_99 : decode cX11_washesFrom 99 = .ok (.aload_n 0, 1) := by decide +kernel
theorem dX11_washesFrom_100 : decode cX11_washesFrom 100 = .ok (.getfield 135, 3) := by decide +kernel
theorem dX11_washesFrom_103 : decode cX11_washesFrom 103 = .ok (.iload_n 1, 1) := by decide +kernel
theorem dX11_washesFrom_104 : decode cX11_washesFrom 104 = .ok (.iload 4, 2) := by decide +kernel
theorem dX11_washesFrom_106 : decode cX11_washesFrom 106 = .ok (.iastore, 1) := by decide +kernel
theorem dX11_washesFrom_107 : decode cX11_washesFrom 107 = .ok (.aload_n 0, 1) := by decide +kernel
theorem dX11_washesFrom_108 : decode cX11_washesFrom 108 = .ok (.iload_n 1, 1) := by decide +kernel
theorem dX11_washesFrom_109 : decode cX11_washesFrom 109 = .ok (.iconst 1, 1) := by decide +kernel
theorem dX11_washesFrom_110 : decode cX11_washesFrom 110 = .ok (.iadd, 1) := by decide +kernel
theorem dX11_washesFrom_111 : decode cX11_washesFrom 111 = .ok (.iload_n 2, 1) := by decide +kernel
theorem dX11_washesFrom_112 : decode cX11_washesFrom 112 = .ok (.iconst 1, 1) := by decide +kernel
theorem dX11_washesFrom_113 : decode cX11_washesFrom 113 = .ok (.iload 4, 2) := by decide +kernel
theorem dX11_washesFrom_115 : decode cX11_washesFrom 115 = .ok (.ishl, 1) := by decide +kernel
theorem dX11_washesFrom_116 : decode cX11_washesFrom 116 = .ok (.ior, 1) := by decide +kernel
theorem dX11_washesFrom_117 : decode cX11_washesFrom 117 = .ok (.iload 5, 2) := by decide +kernel
theorem dX11_washesFrom_119 : decode cX11_washesFrom 119 = .ok (.iload_n 3, 1) := by decide +kernel
theorem dX11_washesFrom_120 : decode cX11_washesFrom 120 = .ok (.if_icmp .le 8, 3) := by decide +kernel
theorem dX11_washesFrom_123 : decode cX11_washesFrom 123 = .ok (.iload 5, 2) := by decide +kernel
theorem dX11_washesFrom_125 : decode cX11_washesFrom 125 = .ok (.goto 4, 3) := by decide +kernel
theorem dX11_washesFrom_128 : decode cX11_washesFrom 128 = .ok (.iload_n 3, 1) := by decide +kernel
theorem dX11_washesFrom_129 : decode cX11_washesFrom 129 = .ok (.invokevirtual 416, 3) := by decide +kernel
theorem dX11_washesFrom_132 : decode cX11_washesFrom 132 = .ok (.iinc 4 1, 3) := by decide +kernel
theorem dX11_washesFrom_135 : decode cX11_washesFrom 135 = .ok (.goto (-81), 3) := by decide +kernel
theorem dX11_washesFrom_138 : decode cX11_washesFrom 138 = .ok (.return_, 1) := by decide +kernel
theorem dX11_dry_0 : decode cX11_dry 0 = .ok (.aload_n 0, 1) := by decide +kernel
theorem dX11_dry_1 : decode cX11_dry 1 = .ok (.iconst 0, 1) := by decide +kernel
theorem dX11_dry_2 : decode cX11_dry 2 = .ok (.putfield 1, 3) := by decide +kernel
theorem dX11_dry_5 : decode cX11_dry 5 = .ok (.aload_n 0, 1) := by decide +kernel
theorem dX11_dry_6 : decode cX11_dry 6 = .ok (.iconst 0, 1) := by decide +kernel
theorem dX11_dry_7 : decode cX11_dry 7 = .ok (.putfield 410, 3) := by decide +kernel
theorem dX11_dry_10 : decode cX11_dry 10 = .ok (.iconst 0, 1) := by decide +kernel
theorem dX11_dry_11 : decode cX11_dry 11 = .ok (.istore_n 2, 1) := by decide +kernel
theorem dX11_dry_12 : decode cX11_dry 12 = .ok (.iload_n 2, 1) := by decide +kernel
theorem dX11_dry_13 : decode cX11_dry 13 = .ok (.aload_n 0, 1) := by decide +kernel
theorem dX11_dry_14 : decode cX11_dry 14 = .ok (.invokevirtual 292, 3) := by decide +kernel
theorem dX11_dry_17 : decode cX11_dry 17 = .ok (.if_icmp .ge 77, 3) := by decide +kernel
theorem dX11_dry_20 : decode cX11_dry 20 = .ok (.aload_n 0, 1) := by decide +kernel
theorem dX11_dry_21 : decode cX11_dry 21 = .ok (.dup, 1) := by decide +kernel
theorem dX11_dry_22 : decode cX11_dry 22 = .ok (.getfield 410, 3) := by decide +kernel
theorem dX11_dry_25 : decode cX11_dry 25 = .ok (.aload_n 0, 1) := by decide +kernel
theorem dX11_dry_26 : decode cX11_dry 26 = .ok (.iconst 0, 1) := by decide +kernel
theorem dX11_dry_27 : decode cX11_dry 27 = .ok (.iload_n 2, 1) := by decide +kernel
theorem dX11_dry_28 : decode cX11_dry 28 = .ok (.invokevirtual 304, 3) := by decide +kernel
theorem dX11_dry_31 : decode cX11_dry 31 = .ok (.ifCond .ne 21, 3) := by decide +kernel
theorem dX11_dry_34 : decode cX11_dry 34 = .ok (.aload_n 0, 1) := by decide +kernel
theorem dX11_dry_35 : decode cX11_dry 35 = .ok (.getfield 113, 3) := by decide +kernel
theorem dX11_dry_38 : decode cX11_dry 38 = .ok (.bipush 8, 2) := by decide +kernel
theorem dX11_dry_40 : decode cX11_dry 40 = .ok (.iload_n 2, 1) := by decide +kernel
theorem dX11_dry_41 : decode cX11_dry 41 = .ok (.iadd, 1) := by decide +kernel
theorem dX11_dry_42 : decode cX11_dry 42 = .ok (.iaload, 1) := by decide +kernel
theorem dX11_dry_43 : decode cX11_dry 43 = .ok (.ifCond .le 9, 3) := by decide +kernel
theorem dX11_dry_46 : decode cX11_dry 46 = .ok (.iconst 1, 1) := by decide +kernel
theorem dX11_dry_47 : decode cX11_dry 47 = .ok (.iload_n 2, 1) := by decide +kernel
theorem dX11_dry_48 : decode cX11_dry 48 = .ok (.ishl, 1) := by decide +kernel
theorem dX11_dry_49 : decode cX11_dry 49 = .ok (.goto 4, 3) := by decide +kernel
theorem dX11_dry_52 : decode cX11_dry 52 = .ok (.iconst 0, 1) := by decide +kernel
theorem dX11_dry_53 : decode cX11_dry 53 = .ok (.ior, 1) := by decide +kernel
theorem dX11_dry_54 : decode cX11_dry 54 = .ok (.putfield 410, 3) := by decide +kernel
theorem dX11_dry_57 : decode cX11_dry 57 = .ok (.iconst 0, 1) := by decide +kernel
theorem dX11_dry_58 : decode cX11_dry 58 = .ok (.istore_n 3, 1) := by decide +kernel
theorem dX11_dry_59 : decode cX11_dry 59 = .ok (.iload_n 3, 1) := by decide +kernel
theorem dX11_dry_60 : decode cX11_dry 60 = .ok (.bipush 6, 2) := by decide +kernel
theorem dX11_dry_62 : decode cX11_dry 62 = .ok (.if_icmp .ge 26, 3) := by decide +kernel
theorem dX11_dry_65 : decode cX11_dry 65 = .ok (.aload_n 0, 1) := by decide +kernel
theorem dX11_dry_66 : decode cX11_dry 66 = .ok (.getfield 132, 3) := by decide +kernel
theorem dX11_dry_69 : decode cX11_dry 69 = .ok (.bipush 6, 2) := by decide +kernel
theorem dX11_dry_71 : decode cX11_dry 71 = .ok (.iload_n 2, 1) := by decide +kernel
theorem dX11_dry_72 : decode cX11_dry 72 = .ok (.imul, 1) := by decide +kernel
theorem dX11_dry_73 : decode cX11_dry 73 = .ok (.iload_n 3, 1) := by decide +kernel
theorem dX11_dry_74 : decode cX11_dry 74 = .ok (.iadd, 1) := by decide +kernel
theorem dX11_dry_75 : decode cX11_dry 75 = .ok (.aload_n 0, 1) := by decide +kernel
theorem dX11_dry_76 : decode cX11_dry 76 = .ok (.iload_n 2, 1) := by decide +kernel
theorem dX11_dry_77 : decode cX11_dry 77 = .ok (.iload_n 3, 1) := by decide +kernel
theorem dX11_dry_78 : decode cX11_dry 78 = .ok (.invokevirtual 419, 3) := by decide +kernel
theorem dX11_dry_81 : decode cX11_dry 81 = .ok (.iastore, 1) := by decide +kernel
theorem dX11_dry_82 : decode cX11_dry 82 = .ok (.iinc 3 1, 3) := by decide +kernel
theorem dX11_dry_85 : decode cX11_dry 85 = .ok (.goto (-26), 3) := by decide +kernel
theorem dX11_dry_88 : decode cX11_dry 88 = .ok (.iinc 2 1, 3) := by decide +kernel
theorem dX11_dry_91 : decode cX11_dry 91 = .ok (.goto (-79), 3) := by decide +kernel
theorem dX11_dry_94 : decode cX11_dry 94 = .ok (.iload_n 1, 1) := by decide +kernel
theorem dX11_dry_95 : decode cX11_dry 95 = .ok (.iconst 0, 1) := by decide +kernel
theorem dX11_dry_96 : decode cX11_dry 96 = .ok (.aload_n 0, 1) := by decide +kernel
theorem dX11_dry_97 : decode cX11_dry 97 = .ok (.getfield 410, 3) := by decide +kernel
theorem dX11_dry_100 : decode cX11_dry 100 = .ok (.invokestatic 298, 3) := by decide +kernel
theorem dX11_dry_103 : decode cX11_dry 103 = .ok (.invokestatic 349, 3) := by decide +kernel
theorem dX11_dry_106 : decode cX11_dry 106 = .ok (.ifCond .ne 5, 3) := by decide +kernel
theorem dX11_dry_109 : decode cX11_dry 109 = .ok (.iconst (-1), 1) := by decide +kernel
theorem dX11_dry_110 : decode cX11_dry 110 = .ok (.ireturn, 1) := by decide +kernel
theorem dX11_dry_111 : decode cX11_dry 111 = .ok (.aload_n 0, 1) := by decide +kernel
theorem dX11_dry_112 : decode cX11_dry 112 = .ok (.bipush 100, 2) := by decide +kernel
theorem dX11_dry_114 : decode cX11_dry 114 = .ok (.putfield 413, 3) := by decide +kernel
theorem dX11_dry_117 : decode cX11_dry 117 = .ok (.aload_n 0, 1) := by decide +kernel
theorem dX11_dry_118 : decode cX11_dry 118 = .ok (.iconst 0, 1) := by decide +kernel
theorem dX11_dry_119 : decode cX11_dry 119 = .ok (.iconst 0, 1) := by decide +kernel
theorem dX11_dry_120 : decode cX11_dry 120 = .ok (.iconst 0, 1) := by decide +kernel
theorem dX11_dry_121 : decode cX11_dry 121 = .ok (.invokevirtual 416, 3) := by decide +kernel
theorem dX11_dry_124 : decode cX11_dry 124 = .ok (.aload_n 0, 1) := by decide +kernel
theorem dX11_dry_125 : decode cX11_dry 125 = .ok (.getfield 413, 3) := by decide +kernel
theorem dX11_dry_128 : decode cX11_dry 128 = .ok (.bipush 100, 2) := by decide +kernel
theorem dX11_dry_130 : decode cX11_dry 130 = .ok (.if_icmp .ne 7, 3) := by decide +kernel
theorem dX11_dry_133 : decode cX11_dry 133 = .ok (.iconst (-1), 1) := by decide +kernel
theorem dX11_dry_134 : decode cX11_dry 134 = .ok (.goto 22, 3) := by decide +kernel
theorem dX11_dry_137 : decode cX11_dry 137 = .ok (.iload_n 1, 1) := by decide +kernel
theorem dX11_dry_138 : decode cX11_dry 138 = .ok (.ifCond .ne 10, 3) := by decide +kernel
theorem dX11_dry_141 : decode cX11_dry 141 = .ok (.aload_n 0, 1) := by decide +kernel
theorem dX11_dry_142 : decode cX11_dry 142 = .ok (.getfield 413, 3) := by decide +kernel
theorem dX11_dry_145 : decode cX11_dry 145 = .ok (.goto 11, 3) := by decide +kernel
theorem dX11_dry_148 : decode cX11_dry 148 = .ok (.aload_n 0, 1) := by decide +kernel
theorem dX11_dry_149 : decode cX11_dry 149 = .ok (.getfield 138, 3) := by decide +kernel
theorem dX11_dry_152 : decode cX11_dry 152 = .ok (.iload_n 1, 1) := by decide +kernel
theorem dX11_dry_153 : decode cX11_dry 153 = .ok (.iconst 1, 1) := by decide +kernel
theorem dX11_dry_154 : decode cX11_dry 154 = .ok (.isub, 1) := by decide +kernel
theorem dX11_dry_155 : decode cX11_dry 155 = .ok (.iaload, 1) := by decide +kernel
theorem dX11_dry_156 : decode cX11_dry 156 = .ok (.ireturn, 1) := by decide +kernel
theorem dX11_feel_0 : decode cX11_feel 0 = .ok (.aload_n 0, 1) := by decide +kernel
theorem dX11_feel_1 : decode cX11_feel 1 = .ok (.iconst 0, 1) := by decide +kernel
theorem dX11_feel_2 : decode cX11_feel 2 = .ok (.putfield 1, 3) := by decide +kernel
theorem dX11_feel_5 : decode cX11_feel 5 = .ok (.aload_n 0, 1) := by decide +kernel
theorem dX11_feel_6 : decode cX11_feel 6 = .ok (.iload_n 1, 1) := by decide +kernel
theorem dX11_feel_7 : decode cX11_feel 7 = .ok (.invokevirtual 346, 3) := by decide +kernel
theorem dX11_feel_10 : decode cX11_feel 10 = .ok (.ifCond .eq 35, 3) := by decide +kernel
theorem dX11_feel_13 : decode cX11_feel 13 = .ok (.iload_n 2, 1) := by decide +kernel
theorem dX11_feel_14 : decode cX11_feel 14 = .ok (.iconst 0, 1) := by decide +kernel
theorem dX11_feel_15 : decode cX11_feel 15 = .ok (.bipush 12, 2) := by decide +kernel
theorem dX11_feel_17 : decode cX11_feel 17 = .ok (.invokestatic 349, 3) := by decide +kernel
theorem dX11_feel_20 : decode cX11_feel 20 = .ok (.ifCond .eq 25, 3) := by decide +kernel
theorem dX11_feel_23 : decode cX11_feel 23 = .ok (.iload_n 3, 1) := by decide +kernel
theorem dX11_feel_24 : decode cX11_feel 24 = .ok (.iconst 0, 1) := by decide +kernel
theorem dX11_feel_25 : decode cX11_feel 25 = .ok (.bipush 9, 2) := by decide +kernel
theorem dX11_feel_27 : decode cX11_feel 27 = .ok (.invokestatic 349, 3) := by decide +kernel
theorem dX11_feel_30 : decode cX11_feel 30 = .ok (.ifCond .eq 15, 3) := by decide +kernel
theorem dX11_feel_33 : decode cX11_feel 33 = .ok (.aload_n 0, 1) := by decide +kernel
theorem dX11_feel_34 : decode cX11_feel 34 = .ok (.getfield 113, 3) := by decide +kernel
theorem dX11_feel_37 : decode cX11_feel 37 = .ok (.bipush 28, 2) := by decide +kernel
theorem dX11_feel_39 : decode cX11_feel 39 = .ok (.iaload, 1) := by decide +kernel
theorem dX11_feel_40 : decode cX11_feel 40 = .ok (.bipush 8, 2) := by decide +kernel
theorem dX11_feel_42 : decode cX11_feel 42 = .ok (.if_icmp .ne 5, 3) := by decide +kernel
theorem dX11_feel_45 : decode cX11_feel 45 = .ok (.iconst 0, 1) := by decide +kernel
theorem dX11_feel_46 : decode cX11_feel 46 = .ok (.ireturn, 1) := by decide +kernel
theorem dX11_feel_47 : decode cX11_feel 47 = .ok (.bipush 29, 2) := by decide +kernel
theorem dX11_feel_49 : decode cX11_feel 49 = .ok (.iconst 3, 1) := by decide +kernel
theorem dX11_feel_50 : decode cX11_feel 50 = .ok (.aload_n 0, 1) := by decide +kernel
theorem dX11_feel_51 : decode cX11_feel 51 = .ok (.getfield 113, 3) := by decide +kernel
theorem dX11_feel_54 : decode cX11_feel 54 = .ok (.bipush 28, 2) := by decide +kernel
theorem dX11_feel_56 : decode cX11_feel 56 = .ok (.iaload, 1) := by decide +kernel
theorem dX11_feel_57 : decode cX11_feel 57 = .ok (.imul, 1) := by decide +kernel
theorem dX11_feel_58 : decode cX11_feel 58 = .ok (.iadd, 1) := by decide +kernel
theorem dX11_feel_59 : decode cX11_feel 59 = .ok (.istore 4, 2) := by decide +kernel
theorem dX11_feel_61 : decode cX11_feel 61 = .ok (.aload_n 0, 1) := by decide +kernel
theorem dX11_feel_62 : decode cX11_feel 62 = .ok (.getfield 113, 3) := by decide +kernel
theorem dX11_feel_65 : decode cX11_feel 65 = .ok (.iload 4, 2) := by decide +kernel
theorem dX11_feel_67 : decode cX11_feel 67 = .ok (.iload_n 1, 1) := by decide +kernel
theorem dX11_feel_68 : decode cX11_feel 68 = .ok (.iastore, 1) := by decide +kernel
theorem dX11_feel_69 : decode cX11_feel 69 = .ok (.aload_n 0, 1) := by decide +kernel
theorem dX11_feel_70 : decode cX11_feel 70 = .ok (.getfield 113, 3) := by decide +kernel
theorem dX11_feel_73 : decode cX11_feel 73 = .ok (.iload 4, 2) := by decide +kernel
theorem dX11_feel_75 : decode cX11_feel 75 = .ok (.iconst 1, 1) := by decide +kernel
theorem dX11_feel_76 : decode cX11_feel 76 = .ok (.iadd, 1) := by decide +kernel
theorem dX11_feel_77 : decode cX11_feel 77 = .ok (.iload_n 2, 1) := by decide +kernel
theorem dX11_feel_78 : decode cX11_feel 78 = .ok (.iastore, 1) := by decide +kernel
theorem dX11_feel_79 : decode cX11_feel 79 = .ok (.aload_n 0, 1) := by decide +kernel
theorem dX11_feel_80 : decode cX11_feel 80 = .ok (.getfield 113, 3) := by decide +kernel
theorem dX11_feel_83 : decode cX11_feel 83 = .ok (.iload 4, 2) := by decide +kernel
theorem dX11_feel_85 : decode cX11_feel 85 = .ok (.iconst 2, 1) := by decide +kernel
theorem dX11_feel_86 : decode cX11_feel 86 = .ok (.iadd, 1) := by decide +kernel
theorem dX11_feel_87 : decode cX11_feel 87 = .ok (.iload_n 3, 1) := by decide +kernel
theorem dX11_feel_88 : decode cX11_feel 88 = .ok (.iastore, 1) := by decide +kernel
theorem dX11_feel_89 : decode cX11_feel 89 = .ok (.aload_n 0, 1) := by decide +kernel
theorem dX11_feel_90 : decode cX11_feel 90 = .ok (.getfield 113, 3) := by decide +kernel
theorem dX11_feel_93 : decode cX11_feel 93 = .ok (.bipush 28, 2) := by decide +kernel
theorem dX11_feel_95 : decode cX11_feel 95 = .ok (.dup2, 1) := by decide +kernel
theorem dX11_feel_96 : decode cX11_feel 96 = .ok (.iaload, 1) := by decide +kernel
theorem dX11_feel_97 : decode cX11_feel 97 = .ok (.iconst 1, 1) := by decide +kernel
theorem dX11_feel_98 : decode cX11_feel 98 = .ok (.iadd, 1) := by decide +kernel
theorem dX11_feel_99 : decode cX11_feel 99 = .ok (.iastore, 1) := by decide +kernel
theorem dX11_feel_100 : decode cX11_feel 100 = .ok (.iconst 1, 1) := by decide +kernel
theorem dX11_feel_101 : decode cX11_feel 101 = .ok (.ireturn, 1) := by decide +kernel
theorem dX11_wetBehind_0 : decode cX11_wetBehind 0 = .ok (.bipush 9, 2) := by decide +kernel
theorem dX11_wetBehind_2 : decode cX11_wetBehind 2 = .ok (.istore 4, 2) := by decide +kernel
theorem dX11_wetBehind_4 : decode cX11_wetBehind 4 = .ok (.iconst 0, 1) := by decide +kernel
theorem dX11_wetBehind_5 : decode cX11_wetBehind 5 = .ok (.istore 5, 2) := by decide +kernel
theorem dX11_wetBehind_7 : decode cX11_wetBehind 7 = .ok (.iload 5, 2) := by decide +kernel
theorem dX11_wetBehind_9 : decode cX11_wetBehind 9 = .ok (.iload_n 3, 1) := by decide +kernel
theorem dX11_wetBehind_10 : decode cX11_wetBehind 10 = .ok (.if_icmp .ge 27, 3) := by decide +kernel
theorem dX11_wetBehind_13 : decode cX11_wetBehind 13 = .ok (.aload_n 0, 1) := by decide +kernel
theorem dX11_wetBehind_14 : decode cX11_wetBehind 14 = .ok (.iload_n 1, 1) := by decide +kernel
theorem dX11_wetBehind_15 : decode cX11_wetBehind 15 = .ok (.iload 4, 2) := by decide +kernel
theorem dX11_wetBehind_17 : decode cX11_wetBehind 17 = .ok (.aload_n 0, 1) := by decide +kernel
theorem dX11_wetBehind_18 : decode cX11_wetBehind 18 = .ok (.iload_n 2, 1) := by decide +kernel
theorem dX11_wetBehind_19 : decode cX11_wetBehind 19 = .ok (.iload 5, 2) := by decide +kernel
theorem dX11_wetBehind_21 : decode cX11_wetBehind 21 = .ok (.iadd, 1) := by decide +kernel
theorem dX11_wetBehind_22 : decode cX11_wetBehind 22 = .ok (.iconst 0, 1) := by decide +kernel
theorem dX11_wetBehind_23 : decode cX11_wetBehind 23 = .ok (.invokevirtual 332, 3) := by decide +kernel
theorem dX11_wetBehind_26 : decode cX11_wetBehind 26 = .ok (.invokevirtual 340, 3) := by decide +kernel
theorem dX11_wetBehind_29 : decode cX11_wetBehind 29 = .ok (.istore 4, 2) := by decide +kernel
theorem dX11_wetBehind_31 : decode cX11_wetBehind 31 = .ok (.iinc 5 1, 3) := by decide +kernel
theorem dX11_wetBehind_34 : decode cX11_wetBehind 34 = .ok (.goto (-27), 3) := by decide +kernel
theorem dX11_wetBehind_37 : decode cX11_wetBehind 37 = .ok (.iload 4, 2) := by decide +kernel
theorem dX11_wetBehind_39 : decode cX11_wetBehind 39 = .ok (.ireturn, 1) := by decide +kernel
theorem dX11_startsNow_0 : decode cX11_startsNow 0 = .ok (.iconst 0, 1) := by decide +kernel
theorem dX11_startsNow_1 : decode cX11_startsNow 1 = .ok (.istore_n 1, 1) := by decide +kernel
theorem dX11_startsNow_2 : decode cX11_startsNow 2 = .ok (.iconst 0, 1) := by decide +kernel
theorem dX11_startsNow_3 : decode cX11_startsNow 3 = .ok (.istore_n 2, 1) := by decide +kernel
theorem dX11_startsNow_4 : decode cX11_startsNow 4 = .ok (.iload_n 2, 1) := by decide +kernel
theorem dX11_startsNow_5 : decode cX11_startsNow 5 = .ok (.aload_n 0, 1) := by decide +kernel
theorem dX11_startsNow_6 : decode cX11_startsNow 6 = .ok (.getfield 89, 3) := by decide +kernel
theorem dX11_startsNow_9 : decode cX11_startsNow 9 = .ok (.iconst 2, 1) := by decide +kernel
theorem dX11_startsNow_10 : decode cX11_startsNow 10 = .ok (.iaload, 1) := by decide +kernel
theorem dX11_startsNow_11 : decode cX11_startsNow 11 = .ok (.if_icmp .ge 98, 3) := by decide +kernel
theorem dX11_startsNow_14 : decode cX11_startsNow 14 = .ok (.iconst 1, 1) := by decide +kernel
theorem dX11_startsNow_15 : decode cX11_startsNow 15 = .ok (.istore_n 3, 1) := by decide +kernel
theorem dX11_startsNow_16 : decode cX11_startsNow 16 = .ok (.iconst 0, 1) := by decide +kernel
theorem dX11_startsNow_17 : decode cX11_startsNow 17 = .ok (.istore 4, 2) := by decide +kernel
theorem dX11_startsNow_19 : decode cX11_startsNow 19 = .ok (.iload 4, 2) := by decide +kernel
theorem dX11_startsNow_21 : decode cX11_startsNow 21 = .ok (.aload_n 0, 1) := by decide +kernel
theorem dX11_startsNow_22 : decode cX11_startsNow 22 = .ok (.getfield 113, 3) := by decide +kernel
theorem dX11_startsNow_25 : decode cX11_startsNow 25 = .ok (.bipush 28, 2) := by decide +kernel
theorem dX11_startsNow_27 : decode cX11_startsNow 27 = .ok (.iaload, 1) := by decide +kernel
theorem dX11_startsNow_28 : decode cX11_startsNow 28 = .ok (.if_icmp .ge 61, 3) := by decide +kernel
theorem dX11_startsNow_31 : decode cX11_startsNow 31 = .ok (.bipush 29, 2) := by decide +kernel
theorem dX11_startsNow_33 : decode cX11_startsNow 33 = .ok (.iconst 3, 1) := by decide +kernel
theorem dX11_startsNow_34 : decode cX11_startsNow 34 = .ok (.iload 4, 2) := by decide +kernel
theorem dX11_startsNow_36 : decode cX11_startsNow 36 = .ok (.imul, 1) := by decide +kernel
theorem dX11_startsNow_37 : decode cX11_startsNow 37 = .ok (.iadd, 1) := by decide +kernel
theorem dX11_startsNow_38 : decode cX11_startsNow 38 = .ok (.istore 5, 2) := by decide +kernel
theorem dX11_startsNow_40 : decode cX11_startsNow 40 = .ok (.iload_n 3, 1) := by decide +kernel
theorem dX11_startsNow_41 : decode cX11_startsNow 41 = .ok (.ifCond .eq 40, 3) := by decide +kernel
theorem dX11_startsNow_44 : decode cX11_startsNow 44 = .ok (.aload_n 0, 1) := by decide +kernel
theorem dX11_startsNow_45 : decode cX11_startsNow 45 = .ok (.aload_n 0, 1) := by decide +kernel
theorem dX11_startsNow_46 : decode cX11_startsNow 46 = .ok (.getfield 113, 3) := by decide +kernel
theorem dX11_startsNow_49 : decode cX11_startsNow 49 = .ok (.iload 5, 2) := by decide +kernel
theorem dX11_startsNow_51 : decode cX11_startsNow 51 = .ok (.iaload, 1) := by decide +kernel
theorem dX11_startsNow_52 : decode cX11_startsNow 52 = .ok (.iload_n 2, 1) := by decide +kernel
theorem dX11_startsNow_53 : decode cX11_startsNow 53 = .ok (.aload_n 0, 1) := by decide +kernel
theorem dX11_startsNow_54 : decode cX11_startsNow 54 = .ok (.getfield 113, 3) := by decide +kernel
theorem dX11_startsNow_57 : decode cX11_startsNow 57 = .ok (.iload 5, 2) := by decide +kernel
theorem dX11_startsNow_59 : decode cX11_startsNow 59 = .ok (.iconst 1, 1) := by decide +kernel
theorem dX11_startsNow_60 : decode cX11_startsNow 60 = .ok (.iadd, 1) := by decide +kernel
theorem dX11_startsNow_61 : decode cX11_startsNow 61 = .ok (.iaload, 1) := by decide +kernel
theorem dX11_startsNow_62 : decode cX11_startsNow 62 = .ok (.invokevirtual 422, 3) := by decide +kernel
theorem dX11_startsNow_65 : decode cX11_startsNow 65 = .ok (.aload_n 0, 1) := by decide +kernel
theorem dX11_startsNow_66 : decode cX11_startsNow 66 = .ok (.getfield 113, 3) := by decide +kernel
theorem dX11_startsNow_69 : decode cX11_startsNow 69 = .ok (.iload 5, 2) := by decide +kernel
theorem dX11_startsNow_71 : decode cX11_startsNow 71 = .ok (.iconst 2, 1) := by decide +kernel
theorem dX11_startsNow_72 : decode cX11_startsNow 72 = .ok (.iadd, 1) := by decide +kernel
theorem dX11_startsNow_73 : decode cX11_startsNow 73 = .ok (.iaload, 1) := by decide +kernel
theorem dX11_startsNow_74 : decode cX11_startsNow 74 = .ok (.if_icmp .ne 7, 3) := by decide +kernel
theorem dX11_startsNow_77 : decode cX11_startsNow 77 = .ok (.iconst 1, 1) := by decide +kernel
theorem dX11_startsNow_78 : decode cX11_startsNow 78 = .ok (.goto 4, 3) := by decide +kernel
theorem dX11_startsNow_81 : decode cX11_startsNow 81 = .ok (.iconst 0, 1) := by decide +kernel
theorem dX11_startsNow_82 : decode cX11_startsNow 82 = .ok (.istore_n 3, 1) := by decide +kernel
theorem dX11_startsNow_83 : decode cX11_startsNow 83 = .ok (.iinc 4 1, 3) := by decide +kernel
theorem dX11_startsNow_86 : decode cX11_startsNow 86 = .ok (.goto (-67), 3) := by decide +kernel
theorem dX11_startsNow_89 : decode cX11_startsNow 89 = .ok (.iload_n 1, 1) := by decide +kernel
theorem dX11_startsNow_90 : decode cX11_startsNow 90 = .ok (.iload_n 3, 1) := by decide +kernel
theorem dX11_startsNow_91 : decode cX11_startsNow 91 = .ok (.ifCond .eq 9, 3) := by decide +kernel
theorem dX11_startsNow_94 : decode cX11_startsNow 94 = .ok (.iconst 1, 1) := by decide +kernel
theorem dX11_startsNow_95 : decode cX11_startsNow 95 = .ok (.iload_n 2, 1) := by decide +kernel
theorem dX11_startsNow_96 : decode cX11_startsNow 96 = .ok (.ishl, 1) := by decide +kernel
theorem dX11_startsNow_97 : decode cX11_startsNow 97 = .ok (.goto 4, 3) := by decide +kernel
theorem dX11_startsNow_100 : decode cX11_startsNow 100 = .ok (.iconst 0, 1) := by decide +kernel
theorem dX11_startsNow_101 : decode cX11_startsNow 101 = .ok (.ior, 1) := by decide +kernel
theorem dX11_startsNow_102 : decode cX11_startsNow 102 = .ok (.istore_n 1, 1) := by decide +kernel
theorem dX11_startsNow_103 : decode cX11_startsNow 103 = .ok (.iinc 2 1, 3) := by decide +kernel
theorem dX11_startsNow_106 : decode cX11_startsNow 106 = .ok (.goto (-102), 3) := by decide +kernel
theorem dX11_startsNow_109 : decode cX11_startsNow 109 = .ok (.iload_n 1, 1) := by decide +kernel
theorem dX11_startsNow_110 : decode cX11_startsNow 110 = .ok (.ireturn, 1) := by decide +kernel
theorem dX11_starts__0 : decode cX11_starts_ 0 = .ok (.aload_n 0, 1) := by decide +kernel
theorem dX11_starts__1 : decode cX11_starts_ 1 = .ok (.iconst 0, 1) := by decide +kernel
theorem dX11_starts__2 : decode cX11_starts_ 2 = .ok (.putfield 1, 3) := by decide +kernel
theorem dX11_starts__5 : decode cX11_starts_ 5 = .ok (.aload_n 0, 1) := by decide +kernel
theorem dX11_starts__6 : decode cX11_starts_ 6 = .ok (.invokevirtual 425, 3) := by decide +kernel
theorem dX11_starts__9 : decode cX11_starts_ 9 = .ok (.ireturn, 1) := by decide +kernel
theorem dX11_ask_0 : decode cX11_ask 0 = .ok (.aload_n 0, 1) := by decide +kernel
theorem dX11_ask_1 : decode cX11_ask 1 = .ok (.iconst 0, 1) := by decide +kernel
theorem dX11_ask_2 : decode cX11_ask 2 = .ok (.putfield 1, 3) := by decide +kernel
theorem dX11_ask_5 : decode cX11_ask 5 = .ok (.aload_n 0, 1) := by decide +kernel
theorem dX11_ask_6 : decode cX11_ask 6 = .ok (.iload_n 1, 1) := by decide +kernel
theorem dX11_ask_7 : decode cX11_ask 7 = .ok (.invokevirtual 346, 3) := by decide +kernel
theorem dX11_ask_10 : decode cX11_ask 10 = .ok (.ifCond .ne 5, 3) := by decide +kernel
theorem dX11_ask_13 : decode cX11_ask 13 = .ok (.iconst (-1), 1) := by decide +kernel
theorem dX11_ask_14 : decode cX11_ask 14 = .ok (.ireturn, 1) := by decide +kernel
theorem dX11_ask_15 : decode cX11_ask 15 = .ok (.aload_n 0, 1) := by decide +kernel
theorem dX11_ask_16 : decode cX11_ask 16 = .ok (.invokevirtual 425, 3) := by decide +kernel
theorem dX11_ask_19 : decode cX11_ask 19 = .ok (.istore_n 2, 1) := by decide +kernel
theorem dX11_ask_20 : decode cX11_ask 20 = .ok (.iconst (-1), 1) := by decide +kernel
theorem dX11_ask_21 : decode cX11_ask 21 = .ok (.istore_n 3, 1) := by decide +kernel
theorem dX11_ask_22 : decode cX11_ask 22 = .ok (.iload_n 2, 1) := by decide +kernel
theorem dX11_ask_23 : decode cX11_ask 23 = .ok (.invokestatic 298, 3) := by decide +kernel
theorem dX11_ask_26 : decode cX11_ask 26 = .ok (.istore 4, 2) := by decide +kernel
theorem dX11_ask_28 : decode cX11_ask 28 = .ok (.iconst 0, 1) := by decide +kernel
theorem dX11_ask_29 : decode cX11_ask 29 = .ok (.istore 5, 2) := by decide +kernel
theorem dX11_ask_31 : decode cX11_ask 31 = .ok (.iload 5, 2) := by decide +kernel
theorem dX11_ask_33 : decode cX11_ask 33 = .ok (.bipush 12, 2) := by decide +kernel
theorem dX11_ask_35 : decode cX11_ask 35 = .ok (.if_icmp .gt 139, 3) := by decide +kernel
theorem dX11_ask_38 : decode cX11_ask 38 = .ok (.iconst 0, 1) := by decide +kernel
theorem dX11_ask_39 : decode cX11_ask 39 = .ok (.istore 6, 2) := by decide +kernel
theorem dX11_ask_41 : decode cX11_ask 41 = .ok (.iload 6, 2) := by decide +kernel
theorem dX11_ask_43 : decode cX11_ask 43 = .ok (.bipush 10, 2) := by decide +kernel
theorem dX11_ask_45 : decode cX11_ask 45 = .ok (.if_icmp .ge 17, 3) := by decide +kernel
theorem dX11_ask_48 : decode cX11_ask 48 = .ok (.aload_n 0, 1) := by decide +kernel
theorem dX11_ask_49 : decode cX11_ask 49 = .ok (.getfield 141, 3) := by decide +kernel
theorem dX11_ask_52 : decode cX11_ask 52 = .ok (.iload 6, 2) := by decide +kernel
theorem dX11_ask_54 : decode cX11_ask 54 = .ok (.iconst 0, 1) := by decide +kernel
theorem dX11_ask_55 : decode cX11_ask 55 = .ok (.iastore, 1) := by decide +kernel
theorem dX11_ask_56 : decode cX11_ask 56 = .ok (.iinc 6 1, 3) := by decide +kernel
theorem dX11_ask_59 : decode cX11_ask 59 = .ok (.goto (-18), 3) := by decide +kernel
theorem dX11_ask_62 : decode cX11_ask 62 = .ok (.iconst 0, 1) := by decide +kernel
theorem dX11_ask_63 : decode cX11_ask 63 = .ok (.istore 6, 2) := by decide +kernel
theorem dX11_ask_65 : decode cX11_ask 65 = .ok (.iconst 0, 1) := by decide +kernel
theorem dX11_ask_66 : decode cX11_ask 66 = .ok (.istore 7, 2) := by decide +kernel
theorem dX11_ask_68 : decode cX11_ask 68 = .ok (.iload 7, 2) := by decide +kernel
theorem dX11_ask_70 : decode cX11_ask 70 = .ok (.aload_n 0, 1) := by decide +kernel
theorem dX11_ask_71 : decode cX11_ask 71 = .ok (.getfield 89, 3) := by decide +kernel
theorem dX11_ask_74 : decode cX11_ask 74 = .ok (.iconst 2, 1) := by decide +kernel
theorem dX11_ask_75 : decode cX11_ask 75 = .ok (.iaload, 1) := by decide +kernel
theorem dX11_ask_76 : decode cX11_ask 76 = .ok (.if_icmp .ge 62, 3) := by decide +kernel
theorem dX11_ask_79 : decode cX11_ask 79 = .ok (.aload_n 0, 1) := by decide +kernel
theorem dX11_ask_80 : decode cX11_ask 80 = .ok (.iload_n 1, 1) := by decide +kernel
theorem dX11_ask_81 : decode cX11_ask 81 = .ok (.iload 7, 2) := by decide +kernel
theorem dX11_ask_83 : decode cX11_ask 83 = .ok (.iload 5, 2) := by decide +kernel
theorem dX11_ask_85 : decode cX11_ask 85 = .ok (.invokevirtual 422, 3) := by decide +kernel
theorem dX11_ask_88 : decode cX11_ask 88 = .ok (.istore 8, 2) := by decide +kernel
theorem dX11_ask_90 : decode cX11_ask 90 = .ok (.aload_n 0, 1) := by decide +kernel
theorem dX11_ask_91 : decode cX11_ask 91 = .ok (.getfield 141, 3) := by decide +kernel
theorem dX11_ask_94 : decode cX11_ask 94 = .ok (.iload 8, 2) := by decide +kernel
theorem dX11_ask_96 : decode cX11_ask 96 = .ok (.dup2, 1) := by decide +kernel
theorem dX11_ask_97 : decode cX11_ask 97 = .ok (.iaload, 1) := by decide +kernel
theorem dX11_ask_98 : decode cX11_ask 98 = .ok (.iload_n 2, 1) := by decide +kernel
theorem dX11_ask_99 : decode cX11_ask 99 = .ok (.iload 7, 2) := by decide +kernel
theorem dX11_ask_101 : decode cX11_ask 101 = .ok (.ishr, 1) := by decide +kernel
theorem dX11_ask_102 : decode cX11_ask 102 = .ok (.iconst 1, 1) := by decide +kernel
theorem dX11_ask_103 : decode cX11_ask 103 = .ok (.iand, 1) := by decide +kernel
theorem dX11_ask_104 : decode cX11_ask 104 = .ok (.iadd, 1) := by decide +kernel
theorem dX11_ask_105 : decode cX11_ask 105 = .ok (.iastore, 1) := by decide +kernel
theorem dX11_ask_106 : decode cX11_ask 106 = .ok (.aload_n 0, 1) := by decide +kernel
theorem dX11_ask_107 : decode cX11_ask 107 = .ok (.getfield 141, 3) := by decide +kernel
theorem dX11_ask_110 : decode cX11_ask 110 = .ok (.iload 8, 2) := by decide +kernel
theorem dX11_ask_112 : decode cX11_ask 112 = .ok (.iaload, 1) := by decide +kernel
theorem dX11_ask_113 : decode cX11_ask 113 = .ok (.iload 6, 2) := by decide +kernel
theorem dX11_ask_115 : decode cX11_ask 115 = .ok (.if_icmp .le 13, 3) := by decide +kernel
theorem dX11_ask_118 : decode cX11_ask 118 = .ok (.aload_n 0, 1) := by decide +kernel
theorem dX11_ask_119 : decode cX11_ask 119 = .ok (.getfield 141, 3) := by decide +kernel
theorem dX11_ask_122 : decode cX11_ask 122 = .ok (.iload 8, 2) := by decide +kernel
theorem dX11_ask_124 : decode cX11_ask 124 = .ok (.iaload, 1) := by decide +kernel
theorem dX11_ask_125 : decode cX11_ask 125 = .ok (.goto 5, 3) := by decide +kernel
theorem dX11_ask_128 : decode cX11_ask 128 = .ok (.iload 6, 2) := by decide +kernel
theorem dX11_ask_130 : decode cX11_ask 130 = .ok (.istore 6, 2) := by decide +kernel
theorem dX11_ask_132 : decode cX11_ask 132 = .ok (.iinc 7 1, 3) := by decide +kernel
theorem dX11_ask_135 : decode cX11_ask 135 = .ok (.goto (-67), 3) := by decide +kernel
theorem dX11_ask_138 : decode cX11_ask 138 = .ok (.iload 6, 2) := by decide +kernel
theorem dX11_ask_140 : decode cX11_ask 140 = .ok (.iload 4, 2) := by decide +kernel
theorem dX11_ask_142 : decode cX11_ask 142 = .ok (.if_icmp .ge 8, 3) := by decide +kernel
theorem dX11_ask_145 : decode cX11_ask 145 = .ok (.iload 5, 2) := by decide +kernel
theorem dX11_ask_147 : decode cX11_ask 147 = .ok (.goto 4, 3) := by decide +kernel
theorem dX11_ask_150 : decode cX11_ask 150 = .ok (.iload_n 3, 1) := by decide +kernel
theorem dX11_ask_151 : decode cX11_ask 151 = .ok (.istore_n 3, 1) := by decide +kernel
theorem dX11_ask_152 : decode cX11_ask 152 = .ok (.iload 6, 2) := by decide +kernel
theorem dX11_ask_154 : decode cX11_ask 154 = .ok (.iload 4, 2) := by decide +kernel
theorem dX11_ask_156 : decode cX11_ask 156 = .ok (.if_icmp .ge 8, 3) := by decide +kernel
theorem dX11_ask_159 : decode cX11_ask 159 = .ok (.iload 6, 2) := by decide +kernel
theorem dX11_ask_161 : decode cX11_ask 161 = .ok (.goto 5, 3) := by decide +kernel
theorem dX11_ask_164 : decode cX11_ask 164 = .ok (.iload 4, 2) := by decide +kernel
theorem dX11_ask_166 : decode cX11_ask 166 = .ok (.istore 4, 2) := by decide +kernel
theorem dX11_ask_168 : decode cX11_ask 168 = .ok (.iinc 5 1, 3) := by decide +kernel
theorem dX11_ask_171 : decode cX11_ask 171 = .ok (.goto (-140), 3) := by decide +kernel
theorem dX11_ask_174 : decode cX11_ask 174 = .ok (.iload_n 3, 1) := by decide +kernel
theorem dX11_ask_175 : decode cX11_ask 175 = .ok (.ireturn, 1) := by decide +kernel
theorem dX11_worthBehind_0 : decode cX11_worthBehind 0 = .ok (.aload_n 0, 1) := by decide +kernel
theorem dX11_worthBehind_1 : decode cX11_worthBehind 1 = .ok (.iconst 0, 1) := by decide +kernel
theorem dX11_worthBehind_2 : decode cX11_worthBehind 2 = .ok (.sipush 1134, 3) := by decide +kernel
theorem dX11_worthBehind_5 : decode cX11_worthBehind 5 = .ok (.bipush 28, 2) := by decide +kernel
theorem dX11_worthBehind_7 : decode cX11_worthBehind 7 = .ok (.invokevirtual 288, 3) := by decide +kernel
theorem dX11_worthBehind_10 : decode cX11_worthBehind 10 = .ok (.iload_n 1, 1) := by decide +kernel
theorem dX11_worthBehind_11 : decode cX11_worthBehind 11 = .ok (.ifCond .lt 15, 3) := by decide +kernel
theorem dX11_worthBehind_14 : decode cX11_worthBehind 14 = .ok (.aload_n 0, 1) := by decide +kernel
theorem dX11_worthBehind_15 : decode cX11_worthBehind 15 = .ok (.getfield 113, 3) := by decide +kernel
theorem dX11_worthBehind_18 : decode cX11_worthBehind 18 = .ok (.sipush 1154, 3) := by decide +kernel
theorem dX11_worthBehind_21 : decode cX11_worthBehind 21 = .ok (.iload_n 1, 1) := by decide +kernel
theorem dX11_worthBehind_22 : decode cX11_worthBehind 22 = .ok (.iadd, 1) := by decide +kernel
theorem dX11_worthBehind_23 : decode cX11_worthBehind 23 = .ok (.bipush 9, 2) := by decide +kernel
theorem dX11_worthBehind_25 : decode cX11_worthBehind 25 = .ok (.iastore, 1) := by decide +kernel
theorem dX11_worthBehind_26 : decode cX11_worthBehind 26 = .ok (.iconst 0, 1) := by decide +kernel
theorem dX11_worthBehind_27 : decode cX11_worthBehind 27 = .ok (.istore_n 3, 1) := by decide +kernel
theorem dX11_worthBehind_28 : decode cX11_worthBehind 28 = .ok (.iload_n 3, 1) := by decide +kernel
theorem dX11_worthBehind_29 : decode cX11_worthBehind 29 = .ok (.iload_n 2, 1) := by decide +kernel
theorem dX11_worthBehind_30 : decode cX11_worthBehind 30 = .ok (.if_icmp .ge 18, 3) := by decide +kernel
theorem dX11_worthBehind_33 : decode cX11_worthBehind 33 = .ok (.aload_n 0, 1) := by decide +kernel
theorem dX11_worthBehind_34 : decode cX11_worthBehind 34 = .ok (.sipush 1134, 3) := by decide +kernel
theorem dX11_worthBehind_37 : decode cX11_worthBehind 37 = .ok (.iconst 0, 1) := by decide +kernel
theorem dX11_worthBehind_38 : decode cX11_worthBehind 38 = .ok (.invokevirtual 379, 3) := by decide +kernel
theorem dX11_worthBehind_41 : decode cX11_worthBehind 41 = .ok (.pop, 1) := by decide +kernel
theorem dX11_worthBehind_42 : decode cX11_worthBehind 42 = .ok (.iinc 3 1, 3) := by decide +kernel
theorem dX11_worthBehind_45 : decode cX11_worthBehind 45 = .ok (.goto (-17), 3) := by decide +kernel
theorem dX11_worthBehind_48 : decode cX11_worthBehind 48 = .ok (.aload_n 0, 1) := by decide +kernel
theorem dX11_worthBehind_49 : decode cX11_worthBehind 49 = .ok (.aload_n 0, 1) := by decide +kernel
theorem dX11_worthBehind_50 : decode cX11_worthBehind 50 = .ok (.sipush 1134, 3) := by decide +kernel
theorem dX11_worthBehind_53 : decode cX11_worthBehind 53 = .ok (.invokevirtual 358, 3) := by decide +kernel
theorem dX11_worthBehind_56 : decode cX11_worthBehind 56 = .ok (.invokevirtual 385, 3) := by decide +kernel
theorem dX11_worthBehind_59 : decode cX11_worthBehind 59 = .ok (.ireturn, 1) := by decide +kernel
theorem dX11_change_0 : decode cX11_change 0 = .ok (.aload_n 0, 1) := by decide +kernel
theorem dX11_change_1 : decode cX11_change 1 = .ok (.iconst 0, 1) := by decide +kernel
theorem dX11_change_2 : decode cX11_change 2 = .ok (.putfield 1, 3) := by decide +kernel
theorem dX11_change_5 : decode cX11_change 5 = .ok (.iload_n 1, 1) := by decide +kernel
theorem dX11_change_6 : decode cX11_change 6 = .ok (.iconst 1, 1) := by decide +kernel
theorem dX11_change_7 : decode cX11_change 7 = .ok (.bipush 20, 2) := by decide +kernel
theorem dX11_change_9 : decode cX11_change 9 = .ok (.invokestatic 349, 3) := by decide +kernel
theorem dX11_change_12 : decode cX11_change 12 = .ok (.ifCond .ne 5, 3) := by decide +kernel
theorem dX11_change_15 : decode cX11_change 15 = .ok (.iconst (-1), 1) := by decide +kernel
theorem dX11_change_16 : decode cX11_change 16 = .ok (.ireturn, 1) := by decide +kernel
theorem dX11_change_17 : decode cX11_change 17 = .ok (.iconst (-1), 1) := by decide +kernel
theorem dX11_change_18 : decode cX11_change 18 = .ok (.istore_n 2, 1) := by decide +kernel
theorem dX11_change_19 : decode cX11_change 19 = .ok (.aload_n 0, 1) := by decide +kernel
theorem dX11_change_20 : decode cX11_change 20 = .ok (.iconst (-1), 1) := by decide +kernel
theorem dX11_change_21 : decode cX11_change 21 = .ok (.iload_n 1, 1) := by decide +kernel
theorem dX11_change_22 : decode cX11_change 22 = .ok (.invokevirtual 428, 3) := by decide +kernel
theorem dX11_change_25 : decode cX11_change 25 = .ok (.istore_n 3, 1) := by decide +kernel
theorem dX11_change_26 : decode cX11_change 26 = .ok (.iconst 0, 1) := by decide +kernel
theorem dX11_change_27 : decode cX11_change 27 = .ok (.istore 4, 2) := by decide +kernel
theorem dX11_change_29 : decode cX11_change 29 = .ok (.iload 4, 2) := by decide +kernel
theorem dX11_change_31 : decode cX11_change 31 = .ok (.aload_n 0, 1) := by decide +kernel
theorem dX11_change_32 : decode cX11_change 32 = .ok (.getfield 113, 3) := by decide +kernel
theorem dX11_change_35 : decode cX11_change 35 = .ok (.iconst 1, 1) := by decide +kernel
theorem dX11_change_36 : decode cX11_change 36 = .ok (.iaload, 1) := by decide +kernel
theorem dX11_change_37 : decode cX11_change 37 = .ok (.if_icmp .ge 44, 3) := by decide +kernel
theorem dX11_change_40 : decode cX11_change 40 = .ok (.aload_n 0, 1) := by decide +kernel
theorem dX11_change_41 : decode cX11_change 41 = .ok (.iload 4, 2) := by decide +kernel
theorem dX11_change_43 : decode cX11_change 43 = .ok (.iload_n 1, 1) := by decide +kernel
theorem dX11_change_44 : decode cX11_change 44 = .ok (.invokevirtual 428, 3) := by decide +kernel
theorem dX11_change_47 : decode cX11_change 47 = .ok (.istore 5, 2) := by decide +kernel
theorem dX11_change_49 : decode cX11_change 49 = .ok (.iload 5, 2) := by decide +kernel
theorem dX11_change_51 : decode cX11_change 51 = .ok (.iload_n 3, 1) := by decide +kernel
theorem dX11_change_52 : decode cX11_change 52 = .ok (.if_icmp .le 8, 3) := by decide +kernel
theorem dX11_change_55 : decode cX11_change 55 = .ok (.iload 4, 2) := by decide +kernel
theorem dX11_change_57 : decode cX11_change 57 = .ok (.goto 4, 3) := by decide +kernel
theorem dX11_change_60 : decode cX11_change 60 = .ok (.iload_n 2, 1) := by decide +kernel
theorem dX11_change_61 : decode cX11_change 61 = .ok (.istore_n 2, 1) := by decide +kernel
theorem dX11_change_62 : decode cX11_change 62 = .ok (.iload 5, 2) := by decide +kernel
theorem dX11_change_64 : decode cX11_change 64 = .ok (.iload_n 3, 1) := by decide +kernel
theorem dX11_change_65 : decode cX11_change 65 = .ok (.if_icmp .le 8, 3) := by decide +kernel
theorem dX11_change_68 : decode cX11_change 68 = .ok (.iload 5, 2) := by decide +kernel
theorem dX11_change_70 : decode cX11_change 70 = .ok (.goto 4, 3) := by decide +kernel
theorem dX11_change_73 : decode cX11_change 73 = .ok (.iload_n 3, 1) := by decide +kernel
theorem dX11_change_74 : decode cX11_change 74 = .ok (.istore_n 3, 1) := by decide +kernel
theorem dX11_change_75 : decode cX11_change 75 = .ok (.iinc 4 1, 3) := by decide +kernel
theorem dX11_change_78 : decode cX11_change 78 = .ok (.goto (-49), 3) := by decide +kernel
theorem dX11_change_81 : decode cX11_change 81 = .ok (.iload_n 2, 1) := by decide +kernel
theorem dX11_change_82 : decode cX11_change 82 = .ok (.ireturn, 1) := by decide +kernel
theorem dX11_rests_0 : decode cX11_rests 0 = .ok (.iload_n 1, 1) := by decide +kernel
theorem dX11_rests_1 : decode cX11_rests 1 = .ok (.iconst 0, 1) := by decide +kernel
theorem dX11_rests_2 : decode cX11_rests 2 = .ok (.bipush 9, 2) := by decide +kernel
theorem dX11_rests_4 : decode cX11_rests 4 = .ok (.invokestatic 349, 3) := by decide +kernel
theorem dX11_rests_7 : decode cX11_rests 7 = .ok (.ifCond .eq 33, 3) := by decide +kernel
theorem dX11_rests_10 : decode cX11_rests 10 = .ok (.iload_n 2, 1) := by decide +kernel
theorem dX11_rests_11 : decode cX11_rests 11 = .ok (.iconst 0, 1) := by decide +kernel
theorem dX11_rests_12 : decode cX11_rests 12 = .ok (.bipush 9, 2) := by decide +kernel
theorem dX11_rests_14 : decode cX11_rests 14 = .ok (.invokestatic 349, 3) := by decide +kernel
theorem dX11_rests_17 : decode cX11_rests 17 = .ok (.ifCond .eq 23, 3) := by decide +kernel
theorem dX11_rests_20 : decode cX11_rests 20 = .ok (.iload_n 3, 1) := by decide +kernel
theorem dX11_rests_21 : decode cX11_rests 21 = .ok (.iconst 0, 1) := by decide +kernel
theorem dX11_rests_22 : decode cX11_rests 22 = .ok (.bipush 9, 2) := by decide +kernel
theorem dX11_rests_24 : decode cX11_rests 24 = .ok (.invokestatic 349, 3) := by decide +kernel
theorem dX11_rests_27 : decode cX11_rests 27 = .ok (.ifCond .eq 13, 3) := by decide +kernel
theorem dX11_rests_30 : decode cX11_rests 30 = .ok (.iload 4, 2) := by decide +kernel
theorem dX11_rests_32 : decode cX11_rests 32 = .ok (.iconst (-1), 1) := by decide +kernel
theorem dX11_rests_33 : decode cX11_rests 33 = .ok (.if_icmp .lt 7, 3) := by decide +kernel
theorem dX11_rests_36 : decode cX11_rests 36 = .ok (.iconst 1, 1) := by decide +kernel
theorem dX11_rests_37 : decode cX11_rests 37 = .ok (.goto 4, 3) := by decide +kernel
theorem dX11_rests_40 : decode cX11_rests 40 = .ok (.iconst 0, 1) := by decide +kernel
theorem dX11_rests_41 : decode cX11_rests 41 = .ok (.istore 5, 2) := by decide +kernel
theorem dX11_rests_43 : decode cX11_rests 43 = .ok (.iconst 0, 1) := by decide +kernel
theorem dX11_rests_44 : decode cX11_rests 44 = .ok (.istore 6, 2) := by decide +kernel
theorem dX11_rests_46 : decode cX11_rests 46 = .ok (.iconst (-1), 1) := by decide +kernel
theorem dX11_rests_47 : decode cX11_rests 47 = .ok (.istore 7, 2) := by decide +kernel
theorem dX11_rests_49 : decode cX11_rests 49 = .ok (.iconst 0, 1) := by decide +kernel
theorem dX11_rests_50 : decode cX11_rests 50 = .ok (.istore 8, 2) := by decide +kernel
theorem dX11_rests_52 : decode cX11_rests 52 = .ok (.iload 8, 2) := by decide +kernel
theorem dX11_rests_54 : decode cX11_rests 54 = .ok (.bipush 9, 2) := by decide +kernel
theorem dX11_rests_56 : decode cX11_rests 56 = .ok (.if_icmp .ge 174, 3) := by decide +kernel
theorem dX11_rests_59 : decode cX11_rests 59 = .ok (.iload 5, 2) := by decide +kernel
theorem dX11_rests_61 : decode cX11_rests 61 = .ok (.ifCond .eq 169, 3) := by decide +kernel
theorem dX11_rests_64 : decode cX11_rests 64 = .ok (.iload 8, 2) := by decide +kernel
theorem dX11_rests_66 : decode cX11_rests 66 = .ok (.iconst 3, 1) := by decide +kernel
theorem dX11_rests_67 : decode cX11_rests 67 = .ok (.idiv, 1) := by decide +kernel
theorem dX11_rests_68 : decode cX11_rests 68 = .ok (.istore 9, 2) := by decide +kernel
theorem dX11_rests_70 : decode cX11_rests 70 = .ok (.iload 8, 2) := by decide +kernel
theorem dX11_rests_72 : decode cX11_rests 72 = .ok (.iconst 3, 1) := by decide +kernel
theorem dX11_rests_73 : decode cX11_rests 73 = .ok (.irem, 1) := by decide +kernel
theorem dX11_rests_74 : decode cX11_rests 74 = .ok (.istore 10, 2) := by decide +kernel
theorem dX11_rests_76 : decode cX11_rests 76 = .ok (.iload 9, 2) := by decide +kernel
theorem dX11_rests_78 : decode cX11_rests 78 = .ok (.iload 10, 2) := by decide +kernel
theorem dX11_rests_80 : decode cX11_rests 80 = .ok (.if_icmp .ne 7, 3) := by decide +kernel
theorem dX11_rests_83 : decode cX11_rests 83 = .ok (.iconst 0, 1) := by decide +kernel
theorem dX11_rests_84 : decode cX11_rests 84 = .ok (.goto 23, 3) := by decide +kernel
theorem dX11_rests_87 : decode cX11_rests 87 = .ok (.iload 10, 2) := by decide +kernel
theorem dX11_rests_89 : decode cX11_rests 89 = .ok (.ifCond .ne 7, 3) := by decide +kernel
theorem dX11_rests_92 : decode cX11_rests 92 = .ok (.iload_n 1, 1) := by decide +kernel
theorem dX11_rests_93 : decode cX11_rests 93 = .ok (.goto 14, 3) := by decide +kernel
theorem dX11_rests_96 : decode cX11_rests 96 = .ok (.iload 10, 2) := by decide +kernel
theorem dX11_rests_98 : decode cX11_rests 98 = .ok (.iconst 1, 1) := by decide +kernel
theorem dX11_rests_99 : decode cX11_rests 99 = .ok (.if_icmp .ne 7, 3) := by decide +kernel
theorem dX11_rests_102 : decode cX11_rests 102 = .ok (.iload_n 2, 1) := by decide +kernel
theorem dX11_rests_103 : decode cX11_rests 103 = .ok (.goto 4, 3) := by decide +kernel
theorem dX11_rests_106 : decode cX11_rests 106 = .ok (.iload_n 3, 1) := by decide +kernel
theorem dX11_rests_107 : decode cX11_rests 107 = .ok (.istore 11, 2) := by decide +kernel
theorem dX11_rests_109 : decode cX11_rests 109 = .ok (.iload 11, 2) := by decide +kernel
theorem dX11_rests_111 : decode cX11_rests 111 = .ok (.ifCond .ne 7, 3) := by decide +kernel
theorem dX11_rests_114 : decode cX11_rests 114 = .ok (.iconst 1, 1) := by decide +kernel
theorem dX11_rests_115 : decode cX11_rests 115 = .ok (.goto 4, 3) := by decide +kernel
theorem dX11_rests_118 : decode cX11_rests 118 = .ok (.iconst 0, 1) := by decide +kernel
theorem dX11_rests_119 : decode cX11_rests 119 = .ok (.istore 12, 2) := by decide +kernel
theorem dX11_rests_121 : decode cX11_rests 121 = .ok (.iconst 0, 1) := by decide +kernel
theorem dX11_rests_122 : decode cX11_rests 122 = .ok (.istore 13, 2) := by decide +kernel
theorem dX11_rests_124 : decode cX11_rests 124 = .ok (.iload 13, 2) := by decide +kernel
theorem dX11_rests_126 : decode cX11_rests 126 = .ok (.iconst 3, 1) := by decide +kernel
theorem dX11_rests_127 : decode cX11_rests 127 = .ok (.if_icmp .ge 61, 3) := by decide +kernel
theorem dX11_rests_130 : decode cX11_rests 130 = .ok (.iload 9, 2) := by decide +kernel
theorem dX11_rests_132 : decode cX11_rests 132 = .ok (.iload 13, 2) := by decide +kernel
theorem dX11_rests_134 : decode cX11_rests 134 = .ok (.if_icmp .ne 7, 3) := by decide +kernel
theorem dX11_rests_137 : decode cX11_rests 137 = .ok (.iconst 0, 1) := by decide +kernel
theorem dX11_rests_138 : decode cX11_rests 138 = .ok (.goto 23, 3) := by decide +kernel
theorem dX11_rests_141 : decode cX11_rests 141 = .ok (.iload 13, 2) := by decide +kernel
theorem dX11_rests_143 : decode cX11_rests 143 = .ok (.ifCond .ne 7, 3) := by decide +kernel
theorem dX11_rests_146 : decode cX11_rests 146 = .ok (.iload_n 1, 1) := by decide +kernel
theorem dX11_rests_147 : decode cX11_rests 147 = .ok (.goto 14, 3) := by decide +kernel
theorem dX11_rests_150 : decode cX11_rests 150 = .ok (.iload 13, 2) := by decide +kernel
theorem dX11_rests_152 : decode cX11_rests 152 = .ok (.iconst 1, 1) := by decide +kernel
theorem dX11_rests_153 : decode cX11_rests 153 = .ok (.if_icmp .ne 7, 3) := by decide +kernel
theorem dX11_rests_156 : decode cX11_rests 156 = .ok (.iload_n 2, 1) := by decide +kernel
theorem dX11_rests_157 : decode cX11_rests 157 = .ok (.goto 4, 3) := by decide +kernel
theorem dX11_rests_160 : decode cX11_rests 160 = .ok (.iload_n 3, 1) := by decide +kernel
theorem dX11_rests_161 : decode cX11_rests 161 = .ok (.istore 14, 2) := by decide +kernel
theorem dX11_rests_163 : decode cX11_rests 163 = .ok (.iload 12, 2) := by decide +kernel
theorem dX11_rests_165 : decode cX11_rests 165 = .ok (.ifCond .eq 14, 3) := by decide +kernel
theorem dX11_rests_168 : decode cX11_rests 168 = .ok (.iload 14, 2) := by decide +kernel
theorem dX11_rests_170 : decode cX11_rests 170 = .ok (.iload 11, 2) := by decide +kernel
theorem dX11_rests_172 : decode cX11_rests 172 = .ok (.if_icmp .gt 7, 3) := by decide +kernel
theorem dX11_rests_175 : decode cX11_rests 175 = .ok (.iconst 1, 1) := by decide +kernel
theorem dX11_rests_176 : decode cX11_rests 176 = .ok (.goto 4, 3) := by decide +kernel
theorem dX11_rests_179 : decode cX11_rests 179 = .ok (.iconst 0, 1) := by decide +kernel
theorem dX11_rests_180 : decode cX11_rests 180 = .ok (.istore 12, 2) := by decide +kernel
theorem dX11_rests_182 : decode cX11_rests 182 = .ok (.iinc 13 1, 3) := by decide +kernel
theorem dX11_rests_185 : decode cX11_rests 185 = .ok (.goto (-61), 3) := by decide +kernel
theorem dX11_rests_188 : decode cX11_rests 188 = .ok (.iload 12, 2) := by decide +kernel
theorem dX11_rests_190 : decode cX11_rests 190 = .ok (.ifCond .eq 15, 3) := by decide +kernel
theorem dX11_rests_193 : decode cX11_rests 193 = .ok (.iload 6, 2) := by decide +kernel
theorem dX11_rests_195 : decode cX11_rests 195 = .ok (.iload 4, 2) := by decide +kernel
theorem dX11_rests_197 : decode cX11_rests 197 = .ok (.if_icmp .ne 8, 3) := by decide +kernel
theorem dX11_rests_200 : decode cX11_rests 200 = .ok (.iload 8, 2) := by decide +kernel
theorem dX11_rests_202 : decode cX11_rests 202 = .ok (.goto 5, 3) := by decide +kernel
theorem dX11_rests_205 : decode cX11_rests 205 = .ok (.iload 7, 2) := by decide +kernel
theorem dX11_rests_207 : decode cX11_rests 207 = .ok (.istore 7, 2) := by decide +kernel
theorem dX11_rests_209 : decode cX11_rests 209 = .ok (.iload 6, 2) := by decide +kernel
theorem dX11_rests_211 : decode cX11_rests 211 = .ok (.iload 12, 2) := by decide +kernel
theorem dX11_rests_213 : decode cX11_rests 213 = .ok (.ifCond .eq 7, 3) := by decide +kernel
theorem dX11_rests_216 : decode cX11_rests 216 = .ok (.iconst 1, 1) := by decide +kernel
theorem dX11_rests_217 : decode cX11_rests 217 = .ok (.goto 4, 3) := by decide +kernel
theorem dX11_rests_220 : decode cX11_rests 220 = .ok (.iconst 0, 1) := by decide +kernel
theorem dX11_rests_221 : decode cX11_rests 221 = .ok (.iadd, 1) := by decide +kernel
theorem dX11_rests_222 : decode cX11_rests 222 = .ok (.istore 6, 2) := by decide +kernel
theorem dX11_rests_224 : decode cX11_rests 224 = .ok (.iinc 8 1, 3) := by decide +kernel
theorem dX11_rests_227 : decode cX11_rests 227 = .ok (.goto (-175), 3) := by decide +kernel
theorem dX11_rests_230 : decode cX11_rests 230 = .ok (.aload_n 0, 1) := by decide +kernel
theorem dX11_rests_231 : decode cX11_rests 231 = .ok (.iload 5, 2) := by decide +kernel
theorem dX11_rests_233 : decode cX11_rests 233 = .ok (.ifCond .eq 17, 3) := by decide +kernel
theorem dX11_rests_236 : decode cX11_rests 236 = .ok (.iload 4, 2) := by decide +kernel
theorem dX11_rests_238 : decode cX11_rests 238 = .ok (.ifCond .lt 8, 3) := by decide +kernel
theorem dX11_rests_241 : decode cX11_rests 241 = .ok (.iload 7, 2) := by decide +kernel
theorem dX11_rests_243 : decode cX11_rests 243 = .ok (.ifCond .lt 7, 3) := by decide +kernel
theorem dX11_rests_246 : decode cX11_rests 246 = .ok (.iconst 0, 1) := by decide +kernel
theorem dX11_rests_247 : decode cX11_rests 247 = .ok (.goto 4, 3) := by decide +kernel
theorem dX11_rests_250 : decode cX11_rests 250 = .ok (.iconst 1, 1) := by decide +kernel
theorem dX11_rests_251 : decode cX11_rests 251 = .ok (.putfield 1, 3) := by decide +kernel
theorem dX11_rests_254 : decode cX11_rests 254 = .ok (.aload_n 0, 1) := by decide +kernel
theorem dX11_rests_255 : decode cX11_rests 255 = .ok (.getfield 1, 3) := by decide +kernel
theorem dX11_rests_258 : decode cX11_rests 258 = .ok (.ifCond .le 7, 3) := by decide +kernel
theorem dX11_rests_261 : decode cX11_rests 261 = .ok (.iconst 0, 1) := by decide +kernel
theorem dX11_rests_262 : decode cX11_rests 262 = .ok (.goto 15, 3) := by decide +kernel
theorem dX11_rests_265 : decode cX11_rests 265 = .ok (.iload 4, 2) := by decide +kernel
theorem dX11_rests_267 : decode cX11_rests 267 = .ok (.ifCond .ge 8, 3) := by decide +kernel
theorem dX11_rests_270 : decode cX11_rests 270 = .ok (.iload 6, 2) := by decide +kernel
theorem dX11_rests_272 : decode cX11_rests 272 = .ok (.goto 5, 3) := by decide +kernel
theorem dX11_rests_275 : decode cX11_rests 275 = .ok (.iload 7, 2) := by decide +kernel
theorem dX11_rests_277 : decode cX11_rests 277 = .ok (.ireturn, 1) := by decide +kernel
theorem dX11_draw_0 : decode cX11_draw 0 = .ok (.aload_n 0, 1) := by decide +kernel
theorem dX11_draw_1 : decode cX11_draw 1 = .ok (.aload_n 0, 1) := by decide +kernel
theorem dX11_draw_2 : decode cX11_draw 2 = .ok (.getfield 431, 3) := by decide +kernel
theorem dX11_draw_5 : decode cX11_draw 5 = .ok (.ldc2_w 435, 3) := by decide +kernel
theorem dX11_draw_8 : decode cX11_draw 8 = .ok (.lmul, 1) := by decide +kernel
theorem dX11_draw_9 : decode cX11_draw 9 = .ok (.ldc2_w 437, 3) := by decide +kernel
theorem dX11_draw_12 : decode cX11_draw 12 = .ok (.ladd, 1) := by decide +kernel
theorem dX11_draw_13 : decode cX11_draw 13 = .ok (.ldc2_w 439, 3) := by decide +kernel
theorem dX11_draw_16 : decode cX11_draw 16 = .ok (.lrem, 1) := by decide +kernel
theorem dX11_draw_17 : decode cX11_draw 17 = .ok (.putfield 431, 3) := by decide +kernel
theorem dX11_draw_20 : decode cX11_draw 20 = .ok (.aload_n 0, 1) := by decide +kernel
theorem dX11_draw_21 : decode cX11_draw 21 = .ok (.getfield 431, 3) := by decide +kernel
theorem dX11_draw_24 : decode cX11_draw 24 = .ok (.ldc2_w 441, 3) := by decide +kernel
theorem dX11_draw_27 : decode cX11_draw 27 = .ok (.ldiv, 1) := by decide +kernel
theorem dX11_draw_28 : decode cX11_draw 28 = .ok (.iload_n 1, 1) := by decide +kernel
theorem dX11_draw_29 : decode cX11_draw 29 = .ok (.i2l, 1) := by decide +kernel
theorem dX11_draw_30 : decode cX11_draw 30 = .ok (.lrem, 1) := by decide +kernel
theorem dX11_draw_31 : decode cX11_draw 31 = .ok (.l2i, 1) := by decide +kernel
theorem dX11_draw_32 : decode cX11_draw 32 = .ok (.ireturn, 1) := by decide +kernel
theorem dX11_firstFree_0 : decode cX11_firstFree 0 = .ok (.aload_n 0, 1) := by decide +kernel
theorem dX11_firstFree_1 : decode cX11_firstFree 1 = .ok (.iload_n 1, 1) := by decide +kernel
theorem dX11_firstFree_2 : decode cX11_firstFree 2 = .ok (.invokevirtual 361, 3) := by decide +kernel
theorem dX11_firstFree_5 : decode cX11_firstFree 5 = .ok (.istore_n 3, 1) := by decide +kernel
theorem dX11_firstFree_6 : decode cX11_firstFree 6 = .ok (.iconst 0, 1) := by decide +kernel
theorem dX11_firstFree_7 : decode cX11_firstFree 7 = .ok (.istore 4, 2) := by decide +kernel
theorem dX11_firstFree_9 : decode cX11_firstFree 9 = .ok (.iconst 0, 1) := by decide +kernel
theorem dX11_firstFree_10 : decode cX11_firstFree 10 = .ok (.istore 5, 2) := by decide +kernel
theorem dX11_firstFree_12 : decode cX11_firstFree 12 = .ok (.iconst 0, 1) := by decide +kernel
theorem dX11_firstFree_13 : decode cX11_firstFree 13 = .ok (.istore 6, 2) := by decide +kernel
theorem dX11_firstFree_15 : decode cX11_firstFree 15 = .ok (.iload 6, 2) := by decide +kernel
theorem dX11_firstFree_17 : decode cX11_firstFree 17 = .ok (.bipush 8, 2) := by decide +kernel
theorem dX11_firstFree_19 : decode cX11_firstFree 19 = .ok (.if_icmp .ge 65, 3) := by decide +kernel
theorem dX11_firstFree_22 : decode cX11_firstFree 22 = .ok (.iload 5, 2) := by decide +kernel
theorem dX11_firstFree_24 : decode cX11_firstFree 24 = .ok (.iload_n 2, 1) := by decide +kernel
theorem dX11_firstFree_25 : decode cX11_firstFree 25 = .ok (.if_icmp .ge 17, 3) := by decide +kernel
theorem dX11_firstFree_28 : decode cX11_firstFree 28 = .ok (.iload_n 3, 1) := by decide +kernel
theorem dX11_firstFree_29 : decode cX11_firstFree 29 = .ok (.iload 6, 2) := by decide +kernel
theorem dX11_firstFree_31 : decode cX11_firstFree 31 = .ok (.ishr, 1) := by decide +kernel
theorem dX11_firstFree_32 : decode cX11_firstFree 32 = .ok (.iconst 1, 1) := by decide +kernel
theorem dX11_firstFree_33 : decode cX11_firstFree 33 = .ok (.iand, 1) := by decide +kernel
theorem dX11_firstFree_34 : decode cX11_firstFree 34 = .ok (.iconst 1, 1) := by decide +kernel
theorem dX11_firstFree_35 : decode cX11_firstFree 35 = .ok (.if_icmp .ne 7, 3) := by decide +kernel
theorem dX11_firstFree_38 : decode cX11_firstFree 38 = .ok (.iconst 1, 1) := by decide +kernel
theorem dX11_firstFree_39 : decode cX11_firstFree 39 = .ok (.goto 4, 3) := by decide +kernel
theorem dX11_firstFree_42 : decode cX11_firstFree 42 = .ok (.iconst 0, 1) := by decide +kernel
theorem dX11_firstFree_43 : decode cX11_firstFree 43 = .ok (.istore 7, 2) := by decide +kernel
theorem dX11_firstFree_45 : decode cX11_firstFree 45 = .ok (.iload 4, 2) := by decide +kernel
theorem dX11_firstFree_47 : decode cX11_firstFree 47 = .ok (.iload 7, 2) := by decide +kernel
theorem dX11_firstFree_49 : decode cX11_firstFree 49 = .ok (.ifCond .eq 10, 3) := by decide +kernel
theorem dX11_firstFree_52 : decode cX11_firstFree 52 = .ok (.iconst 1, 1) := by decide +kernel
theorem dX11_firstFree_53 : decode cX11_firstFree 53 = .ok (.iload 6, 2) := by decide +kernel
theorem dX11_firstFree_55 : decode cX11_firstFree 55 = .ok (.ishl, 1) := by decide +kernel
theorem dX11_firstFree_56 : decode cX11_firstFree 56 = .ok (.goto 4, 3) := by decide +kernel
theorem dX11_firstFree_59 : decode cX11_firstFree 59 = .ok (.iconst 0, 1) := by decide +kernel
theorem dX11_firstFree_60 : decode cX11_firstFree 60 = .ok (.ior, 1) := by decide +kernel
theorem dX11_firstFree_61 : decode cX11_firstFree 61 = .ok (.istore 4, 2) := by decide +kernel
theorem dX11_firstFree_63 : decode cX11_firstFree 63 = .ok (.iload 5, 2) := by decide +kernel
theorem dX11_firstFree_65 : decode cX11_firstFree 65 = .ok (.iload 7, 2) := by decide +kernel
theorem dX11_firstFree_67 : decode cX11_firstFree 67 = .ok (.ifCond .eq 7, 3) := by decide +kernel
theorem dX11_firstFree_70 : decode cX11_firstFree 70 = .ok (.iconst 1, 1) := by decide +kernel
theorem dX11_firstFree_71 : decode cX11_firstFree 71 = .ok (.goto 4, 3) := by decide +kernel
theorem dX11_firstFree_74 : decode cX11_firstFree 74 = .ok (.iconst 0, 1) := by decide +kernel
theorem dX11_firstFree_75 : decode cX11_firstFree 75 = .ok (.iadd, 1) := by decide +kernel
theorem dX11_firstFree_76 : decode cX11_firstFree 76 = .ok (.istore 5, 2) := by decide +kernel
theorem dX11_firstFree_78 : decode cX11_firstFree 78 = .ok (.iinc 6 1, 3) := by decide +kernel
theorem dX11_firstFree_81 : decode cX11_firstFree 81 = .ok (.goto (-66), 3) := by decide +kernel
theorem dX11_firstFree_84 : decode cX11_firstFree 84 = .ok (.iload 4, 2) := by decide +kernel
theorem dX11_firstFree_86 : decode cX11_firstFree 86 = .ok (.ireturn, 1) := by decide +kernel
theorem dX11_drawsCloth_0 : decode cX11_drawsCloth 0 = .ok (.aload_n 0, 1) := by decide +kernel
theorem dX11_drawsCloth_1 : decode cX11_drawsCloth 1 = .ok (.aload_n 0, 1) := by decide +kernel
theorem dX11_drawsCloth_2 : decode cX11_drawsCloth 2 = .ok (.invokevirtual 292, 3) := by decide +kernel
theorem dX11_drawsCloth_5 : decode cX11_drawsCloth 5 = .ok (.invokevirtual 443, 3) := by decide +kernel
theorem dX11_drawsCloth_8 : decode cX11_drawsCloth 8 = .ok (.istore_n 1, 1) := by decide +kernel
theorem dX11_drawsCloth_9 : decode cX11_drawsCloth 9 = .ok (.aload_n 0, 1) := by decide +kernel
theorem dX11_drawsCloth_10 : decode cX11_drawsCloth 10 = .ok (.sipush 1188, 3) := by decide +kernel
theorem dX11_drawsCloth_13 : decode cX11_drawsCloth 13 = .ok (.iload_n 1, 1) := by decide +kernel
theorem dX11_drawsCloth_14 : decode cX11_drawsCloth 14 = .ok (.invokevirtual 304, 3) := by decide +kernel
theorem dX11_drawsCloth_17 : decode cX11_drawsCloth 17 = .ok (.ifCond .eq 36, 3) := by decide +kernel
theorem dX11_drawsCloth_20 : decode cX11_drawsCloth 20 = .ok (.aload_n 0, 1) := by decide +kernel
theorem dX11_drawsCloth_21 : decode cX11_drawsCloth 21 = .ok (.getfield 113, 3) := by decide +kernel
theorem dX11_drawsCloth_24 : decode cX11_drawsCloth 24 = .ok (.sipush 1202, 3) := by decide +kernel
theorem dX11_drawsCloth_27 : decode cX11_drawsCloth 27 = .ok (.iload_n 1, 1) := by decide +kernel
theorem dX11_drawsCloth_28 : decode cX11_drawsCloth 28 = .ok (.iadd, 1) := by decide +kernel
theorem dX11_drawsCloth_29 : decode cX11_drawsCloth 29 = .ok (.aload_n 0, 1) := by decide +kernel
theorem dX11_drawsCloth_30 : decode cX11_drawsCloth 30 = .ok (.iconst 4, 1) := by decide +kernel
theorem dX11_drawsCloth_31 : decode cX11_drawsCloth 31 = .ok (.invokevirtual 443, 3) := by decide +kernel
theorem dX11_drawsCloth_34 : decode cX11_drawsCloth 34 = .ok (.ifCond .ne 7, 3) := by decide +kernel
theorem dX11_drawsCloth_37 : decode cX11_drawsCloth 37 = .ok (.iconst 0, 1) := by decide +kernel
theorem dX11_drawsCloth_38 : decode cX11_drawsCloth 38 = .ok (.goto 13, 3) := by decide +kernel
theorem dX11_drawsCloth_41 : decode cX11_drawsCloth 41 = .ok (.aload_n 0, 1) := by decide +kernel
theorem dX11_drawsCloth_42 : decode cX11_drawsCloth 42 = .ok (.getfield 113, 3) := by decide +kernel
theorem dX11_drawsCloth_45 : decode cX11_drawsCloth 45 = .ok (.sipush 1202, 3) := by decide +kernel
theorem dX11_drawsCloth_48 : decode cX11_drawsCloth 48 = .ok (.iload_n 1, 1) := by decide +kernel
theorem dX11_drawsCloth_49 : decode cX11_drawsCloth 49 = .ok (.iadd, 1) := by decide +kernel
theorem dX11_drawsCloth_50 : decode cX11_drawsCloth 50 = .ok (.iaload, 1) := by decide +kernel
theorem dX11_drawsCloth_51 : decode cX11_drawsCloth 51 = .ok (.iastore, 1) := by decide +kernel
theorem dX11_drawsCloth_52 : decode cX11_drawsCloth 52 = .ok (.return_, 1) := by decide +kernel
theorem dX11_drawsCloth_53 : decode cX11_drawsCloth 53 = .ok (.aload_n 0, 1) := by decide +kernel
theorem dX11_drawsCloth_54 : decode cX11_drawsCloth 54 = .ok (.sipush 1188, 3) := by decide +kernel
theorem dX11_drawsCloth_57 : decode cX11_drawsCloth 57 = .ok (.aload_n 0, 1) := by decide +kernel
theorem dX11_drawsCloth_58 : decode cX11_drawsCloth 58 = .ok (.iload_n 1, 1) := by decide +kernel
theorem dX11_drawsCloth_59 : decode cX11_drawsCloth 59 = .ok (.invokevirtual 301, 3) := by decide +kernel
theorem dX11_drawsCloth_62 : decode cX11_drawsCloth 62 = .ok (.invokevirtual 446, 3) := by decide +kernel
theorem dX11_drawsCloth_65 : decode cX11_drawsCloth 65 = .ok (.istore_n 2, 1) := by decide +kernel
theorem dX11_drawsCloth_66 : decode cX11_drawsCloth 66 = .ok (.iload_n 2, 1) := by decide +kernel
theorem dX11_drawsCloth_67 : decode cX11_drawsCloth 67 = .ok (.invokestatic 298, 3) := by decide +kernel
theorem dX11_drawsCloth_70 : decode cX11_drawsCloth 70 = .ok (.aload_n 0, 1) := by decide +kernel
theorem dX11_drawsCloth_71 : decode cX11_drawsCloth 71 = .ok (.iload_n 1, 1) := by decide +kernel
theorem dX11_drawsCloth_72 : decode cX11_drawsCloth 72 = .ok (.invokevirtual 301, 3) := by decide +kernel
theorem dX11_drawsCloth_75 : decode cX11_drawsCloth 75 = .ok (.if_icmp .ne 26, 3) := by decide +kernel
theorem dX11_drawsCloth_78 : decode cX11_drawsCloth 78 = .ok (.aload_n 0, 1) := by decide +kernel
theorem dX11_drawsCloth_79 : decode cX11_drawsCloth 79 = .ok (.sipush 1188, 3) := by decide +kernel
theorem dX11_drawsCloth_82 : decode cX11_drawsCloth 82 = .ok (.iload_n 1, 1) := by decide +kernel
theorem dX11_drawsCloth_83 : decode cX11_drawsCloth 83 = .ok (.iload_n 2, 1) := by decide +kernel
theorem dX11_drawsCloth_84 : decode cX11_drawsCloth 84 = .ok (.invokevirtual 367, 3) := by decide +kernel
theorem dX11_drawsCloth_87 : decode cX11_drawsCloth 87 = .ok (.ifCond .eq 14, 3) := by decide +kernel
theorem dX11_drawsCloth_90 : decode cX11_drawsCloth 90 = .ok (.aload_n 0, 1) := by decide +kernel
theorem dX11_drawsCloth_91 : decode cX11_drawsCloth 91 = .ok (.getfield 113, 3) := by decide +kernel
theorem dX11_drawsCloth_94 : decode cX11_drawsCloth 94 = .ok (.sipush 1202, 3) := by decide +kernel
theorem dX11_drawsCloth_97 : decode cX11_drawsCloth 97 = .ok (.iload_n 1, 1) := by decide +kernel
theorem dX11_drawsCloth_98 : decode cX11_drawsCloth 98 = .ok (.iadd, 1) := by decide +kernel
theorem dX11_drawsCloth_99 : decode cX11_drawsCloth 99 = .ok (.iload_n 2, 1) := by decide +kernel
theorem dX11_drawsCloth_100 : decode cX11_drawsCloth 100 = .ok (.iastore, 1) := by decide +kernel
theorem dX11_drawsCloth_101 : decode cX11_drawsCloth 101 = .ok (.return_, 1) := by decide +kernel
theorem dX11_decades_0 : decode cX11_decades 0 = .ok (.aload_n 0, 1) := by decide +kernel
theorem dX11_decades_1 : decode cX11_decades 1 = .ok (.iconst 0, 1) := by decide +kernel
theorem dX11_decades_2 : decode cX11_decades 2 = .ok (.putfield 1, 3) := by decide +kernel
theorem dX11_decades_5 : decode cX11_decades 5 = .ok (.iload_n 1, 1) := by decide +kernel
theorem dX11_decades_6 : decode cX11_decades 6 = .ok (.iconst 0, 1) := by decide +kernel
theorem dX11_decades_7 : decode cX11_decades 7 = .ok (.sipush 9999, 3) := by decide +kernel
theorem dX11_decades_10 : decode cX11_decades 10 = .ok (.invokestatic 349, 3) := by decide +kernel
theorem dX11_decades_13 : decode cX11_decades 13 = .ok (.ifCond .eq 22, 3) := by decide +kernel
theorem dX11_decades_16 : decode cX11_decades 16 = .ok (.iload_n 2, 1) := by decide +kernel
theorem dX11_decades_17 : decode cX11_decades 17 = .ok (.iconst 1, 1) := by decide +kernel
theorem dX11_decades_18 : decode cX11_decades 18 = .ok (.bipush 60, 2) := by decide +kernel
theorem dX11_decades_20 : decode cX11_decades 20 = .ok (.invokestatic 349, 3) := by decide +kernel
theorem dX11_decades_23 : decode cX11_decades 23 = .ok (.ifCond .eq 12, 3) := by decide +kernel
theorem dX11_decades_26 : decode cX11_decades 26 = .ok (.iload_n 3, 1) := by decide +kernel
theorem dX11_decades_27 : decode cX11_decades 27 = .ok (.iconst 0, 1) := by decide +kernel
theorem dX11_decades_28 : decode cX11_decades 28 = .ok (.iconst 2, 1) := by decide +kernel
theorem dX11_decades_29 : decode cX11_decades 29 = .ok (.invokestatic 349, 3) := by decide +kernel
theorem dX11_decades_32 : decode cX11_decades 32 = .ok (.ifCond .ne 5, 3) := by decide +kernel
theorem dX11_decades_35 : decode cX11_decades 35 = .ok (.iconst (-1), 1) := by decide +kernel
theorem dX11_decades_36 : decode cX11_decades 36 = .ok (.ireturn, 1) := by decide +kernel
theorem dX11_decades_37 : decode cX11_decades 37 = .ok (.aload_n 0, 1) := by decide +kernel
theorem dX11_decades_38 : decode cX11_decades 38 = .ok (.iconst 0, 1) := by decide +kernel
theorem dX11_decades_39 : decode cX11_decades 39 = .ok (.sipush 1188, 3) := by decide +kernel
theorem dX11_decades_42 : decode cX11_decades 42 = .ok (.bipush 28, 2) := by decide +kernel
theorem dX11_decades_44 : decode cX11_decades 44 = .ok (.invokevirtual 288, 3) := by decide +kernel
theorem dX11_decades_47 : decode cX11_decades 47 = .ok (.aload_n 0, 1) := by decide +kernel
theorem dX11_decades_48 : decode cX11_decades 48 = .ok (.iload_n 1, 1) := by decide +kernel
theorem dX11_decades_49 : decode cX11_decades 49 = .ok (.i2l, 1) := by decide +kernel
theorem dX11_decades_50 : decode cX11_decades 50 = .ok (.putfield 431, 3) := by decide +kernel
theorem dX11_decades_53 : decode cX11_decades 53 = .ok (.iconst 0, 1) := by decide +kernel
theorem dX11_decades_54 : decode cX11_decades 54 = .ok (.istore 4, 2) := by decide +kernel
theorem dX11_decades_56 : decode cX11_decades 56 = .ok (.iconst 0, 1) := by decide +kernel
theorem dX11_decades_57 : decode cX11_decades 57 = .ok (.istore 5, 2) := by decide +kernel
theorem dX11_decades_59 : decode cX11_decades 59 = .ok (.iconst 0, 1) := by decide +kernel
theorem dX11_decades_60 : decode cX11_decades 60 = .ok (.istore 6, 2) := by decide +kernel
theorem dX11_decades_62 : decode cX11_decades 62 = .ok (.iload 6, 2) := by decide +kernel
theorem dX11_decades_64 : decode cX11_decades 64 = .ok (.iload_n 2, 1) := by decide +kernel
theorem dX11_decades_65 : decode cX11_decades 65 = .ok (.if_icmp .ge 67, 3) := by decide +kernel
theorem dX11_decades_68 : decode cX11_decades 68 = .ok (.aload_n 0, 1) := by decide +kernel
theorem dX11_decades_69 : decode cX11_decades 69 = .ok (.invokevirtual 292, 3) := by decide +kernel
theorem dX11_decades_72 : decode cX11_decades 72 = .ok (.ifCond .le 7, 3) := by decide +kernel
theorem dX11_decades_75 : decode cX11_decades 75 = .ok (.aload_n 0, 1) := by decide +kernel
theorem dX11_decades_76 : decode cX11_decades 76 = .ok (.invokevirtual 449, 3) := by decide +kernel
theorem dX11_decades_79 : decode cX11_decades 79 = .ok (.iload 5, 2) := by decide +kernel
theorem dX11_decades_81 : decode cX11_decades 81 = .ok (.aload_n 0, 1) := by decide +kernel
theorem dX11_decades_82 : decode cX11_decades 82 = .ok (.sipush 1188, 3) := by decide +kernel
theorem dX11_decades_85 : decode cX11_decades 85 = .ok (.aload_n 0, 1) := by decide +kernel
theorem dX11_decades_86 : decode cX11_decades 86 = .ok (.bipush 10, 2) := by decide +kernel
theorem dX11_decades_88 : decode cX11_decades 88 = .ok (.invokevirtual 443, 3) := by decide +kernel
theorem dX11_decades_91 : decode cX11_decades 91 = .ok (.aload_n 0, 1) := by decide +kernel
theorem dX11_decades_92 : decode cX11_decades 92 = .ok (.getfield 89, 3) := by decide +kernel
theorem dX11_decades_95 : decode cX11_decades 95 = .ok (.iconst 4, 1) := by decide +kernel
theorem dX11_decades_96 : decode cX11_decades 96 = .ok (.iaload, 1) := by decide +kernel
theorem dX11_decades_97 : decode cX11_decades 97 = .ok (.if_icmp .ge 7, 3) := by decide +kernel
theorem dX11_decades_100 : decode cX11_decades 100 = .ok (.iconst 1, 1) := by decide +kernel
theorem dX11_decades_101 : decode cX11_decades 101 = .ok (.goto 4, 3) := by decide +kernel
theorem dX11_decades_104 : decode cX11_decades 104 = .ok (.iconst 0, 1) := by decide +kernel
theorem dX11_decades_105 : decode cX11_decades 105 = .ok (.invokevirtual 379, 3) := by decide +kernel
theorem dX11_decades_108 : decode cX11_decades 108 = .ok (.iadd, 1) := by decide +kernel
theorem dX11_decades_109 : decode cX11_decades 109 = .ok (.istore 5, 2) := by decide +kernel
theorem dX11_decades_111 : decode cX11_decades 111 = .ok (.iload 4, 2) := by decide +kernel
theorem dX11_decades_113 : decode cX11_decades 113 = .ok (.aload_n 0, 1) := by decide +kernel
theorem dX11_decades_114 : decode cX11_decades 114 = .ok (.sipush 1188, 3) := by decide +kernel
theorem dX11_decades_117 : decode cX11_decades 117 = .ok (.invokevirtual 358, 3) := by decide +kernel
theorem dX11_decades_120 : decode cX11_decades 120 = .ok (.invokestatic 298, 3) := by decide +kernel
theorem dX11_decades_123 : decode cX11_decades 123 = .ok (.iadd, 1) := by decide +kernel
theorem dX11_decades_124 : decode cX11_decades 124 = .ok (.istore 4, 2) := by decide +kernel
theorem dX11_decades_126 : decode cX11_decades 126 = .ok (.iinc 6 1, 3) := by decide +kernel
theorem dX11_decades_129 : decode cX11_decades 129 = .ok (.goto (-67), 3) := by decide +kernel
theorem dX11_decades_132 : decode cX11_decades 132 = .ok (.iload_n 3, 1) := by decide +kernel
theorem dX11_decades_133 : decode cX11_decades 133 = .ok (.ifCond .ne 8, 3) := by decide +kernel
theorem dX11_decades_136 : decode cX11_decades 136 = .ok (.iload 4, 2) := by decide +kernel
theorem dX11_decades_138 : decode cX11_decades 138 = .ok (.goto 23, 3) := by decide +kernel
theorem dX11_decades_141 : decode cX11_decades 141 = .ok (.iload_n 3, 1) := by decide +kernel
theorem dX11_decades_142 : decode cX11_decades 142 = .ok (.iconst 1, 1) := by decide +kernel
theorem dX11_decades_143 : decode cX11_decades 143 = .ok (.if_icmp .ne 8, 3) := by decide +kernel
theorem dX11_decades_146 : decode cX11_decades 146 = .ok (.iload 5, 2) := by decide +kernel
theorem dX11_decades_148 : decode cX11_decades 148 = .ok (.goto 13, 3) := by decide +kernel
theorem dX11_decades_151 : decode cX11_decades 151 = .ok (.aload_n 0, 1) := by decide +kernel
theorem dX11_decades_152 : decode cX11_decades 152 = .ok (.sipush 1188, 3) := by decide +kernel
theorem dX11_decades_155 : decode cX11_decades 155 = .ok (.sipush 255, 3) := by decide +kernel
theorem dX11_decades_158 : decode cX11_decades 158 = .ok (.invokevirtual 320, 3) := by decide +kernel
theorem dX11_decades_161 : decode cX11_decades 161 = .ok (.ireturn, 1) := by decide +kernel
theorem dX11_mark_0 : decode cX11_mark 0 = .ok (.aload_n 0, 1) := by decide +kernel
theorem dX11_mark_1 : decode cX11_mark 1 = .ok (.iconst 0, 1) := by decide +kernel
theorem dX11_mark_2 : decode cX11_mark 2 = .ok (.putfield 1, 3) := by decide +kernel
theorem dX11_mark_5 : decode cX11_mark 5 = .ok (.iload_n 1, 1) := by decide +kernel
theorem dX11_mark_6 : decode cX11_mark 6 = .ok (.iconst 0, 1) := by decide +kernel
theorem dX11_mark_7 : decode cX11_mark 7 = .ok (.iconst 3, 1) := by decide +kernel
theorem dX11_mark_8 : decode cX11_mark 8 = .ok (.invokestatic 349, 3) := by decide +kernel
theorem dX11_mark_11 : decode cX11_mark 11 = .ok (.ifCond .eq 16, 3) := by decide +kernel
theorem dX11_mark_14 : decode cX11_mark 14 = .ok (.iload_n 2, 1) := by decide +kernel
theorem dX11_mark_15 : decode cX11_mark 15 = .ok (.ifCond .eq 14, 3) := by decide +kernel
theorem dX11_mark_18 : decode cX11_mark 18 = .ok (.aload_n 0, 1) := by decide +kernel
theorem dX11_mark_19 : decode cX11_mark 19 = .ok (.getfield 116, 3) := by decide +kernel
theorem dX11_mark_22 : decode cX11_mark 22 = .ok (.iload_n 1, 1) := by decide +kernel
theorem dX11_mark_23 : decode cX11_mark 23 = .ok (.baload, 1) := by decide +kernel
theorem dX11_mark_24 : decode cX11_mark 24 = .ok (.ifCond .ne 5, 3) := by decide +kernel
theorem dX11_mark_27 : decode cX11_mark 27 = .ok (.iconst 0, 1) := by decide +kernel
theorem dX11_mark_28 : decode cX11_mark 28 = .ok (.ireturn, 1) := by decide +kernel
theorem dX11_mark_29 : decode cX11_mark 29 = .ok (.aload_n 0, 1) := by decide +kernel
theorem dX11_mark_30 : decode cX11_mark 30 = .ok (.getfield 116, 3) := by decide +kernel
theorem dX11_mark_33 : decode cX11_mark 33 = .ok (.iload_n 1, 1) := by decide +kernel
theorem dX11_mark_34 : decode cX11_mark 34 = .ok (.iconst 1, 1) := by decide +kernel
theorem dX11_mark_35 : decode cX11_mark 35 = .ok (.bastore, 1) := by decide +kernel
theorem dX11_mark_36 : decode cX11_mark 36 = .ok (.aload_n 0, 1) := by decide +kernel
theorem dX11_mark_37 : decode cX11_mark 37 = .ok (.iload_n 2, 1) := by decide +kernel
theorem dX11_mark_38 : decode cX11_mark 38 = .ok (.ifCond .eq 12, 3) := by decide +kernel
theorem dX11_mark_41 : decode cX11_mark 41 = .ok (.bipush 54, 2) := by decide +kernel
theorem dX11_mark_43 : decode cX11_mark 43 = .ok (.iconst 1, 1) := by decide +kernel
theorem dX11_mark_44 : decode cX11_mark 44 = .ok (.iload_n 1, 1) := by decide +kernel
theorem dX11_mark_45 : decode cX11_mark 45 = .ok (.iadd, 1) := by decide +kernel
theorem dX11_mark_46 : decode cX11_mark 46 = .ok (.imul, 1) := by decide +kernel
theorem dX11_mark_47 : decode cX11_mark 47 = .ok (.goto 4, 3) := by decide +kernel
theorem dX11_mark_50 : decode cX11_mark 50 = .ok (.iconst 0, 1) := by decide +kernel
theorem dX11_mark_51 : decode cX11_mark 51 = .ok (.iload_n 2, 1) := by decide +kernel
theorem dX11_mark_52 : decode cX11_mark 52 = .ok (.ifCond .eq 7, 3) := by decide +kernel
theorem dX11_mark_55 : decode cX11_mark 55 = .ok (.iconst 0, 1) := by decide +kernel
theorem dX11_mark_56 : decode cX11_mark 56 = .ok (.goto 9, 3) := by decide +kernel
theorem dX11_mark_59 : decode cX11_mark 59 = .ok (.bipush 54, 2) := by decide +kernel
theorem dX11_mark_61 : decode cX11_mark 61 = .ok (.iconst 1, 1) := by decide +kernel
theorem dX11_mark_62 : decode cX11_mark 62 = .ok (.iload_n 1, 1) := by decide +kernel
theorem dX11_mark_63 : decode cX11_mark 63 = .ok (.iadd, 1) := by decide +kernel
theorem dX11_mark_64 : decode cX11_mark 64 = .ok (.imul, 1) := by decide +kernel
theorem dX11_mark_65 : decode cX11_mark 65 = .ok (.bipush 54, 2) := by decide +kernel
theorem dX11_mark_67 : decode cX11_mark 67 = .ok (.invokevirtual 288, 3) := by decide +kernel
theorem dX11_mark_70 : decode cX11_mark 70 = .ok (.aload_n 0, 1) := by decide +kernel
theorem dX11_mark_71 : decode cX11_mark 71 = .ok (.iload_n 2, 1) := by decide +kernel
theorem dX11_mark_72 : decode cX11_mark 72 = .ok (.ifCond .eq 7, 3) := by decide +kernel
theorem dX11_mark_75 : decode cX11_mark 75 = .ok (.iconst 0, 1) := by decide +kernel
theorem dX11_mark_76 : decode cX11_mark 76 = .ok (.goto 7, 3) := by decide +kernel
theorem dX11_mark_79 : decode cX11_mark 79 = .ok (.aload_n 0, 1) := by decide +kernel
theorem dX11_mark_80 : decode cX11_mark 80 = .ok (.getfield 285, 3) := by decide +kernel
theorem dX11_mark_83 : decode cX11_mark 83 = .ok (.putfield 285, 3) := by decide +kernel
theorem dX11_mark_86 : decode cX11_mark 86 = .ok (.iconst 1, 1) := by decide +kernel
theorem dX11_mark_87 : decode cX11_mark 87 = .ok (.ireturn, 1) := by decide +kernel
theorem dX11_turnedSet_0 : decode cX11_turnedSet 0 = .ok (.iconst 0, 1) := by decide +kernel
theorem dX11_turnedSet_1 : decode cX11_turnedSet 1 = .ok (.istore_n 1, 1) := by decide +kernel
theorem dX11_turnedSet_2 : decode cX11_turnedSet 2 = .ok (.iconst 0, 1) := by decide +kernel
theorem dX11_turnedSet_3 : decode cX11_turnedSet 3 = .ok (.istore_n 2, 1) := by decide +kernel
theorem dX11_turnedSet_4 : decode cX11_turnedSet 4 = .ok (.iload_n 2, 1) := by decide +kernel
theorem dX11_turnedSet_5 : decode cX11_turnedSet 5 = .ok (.aload_n 0, 1) := by decide +kernel
theorem dX11_turnedSet_6 : decode cX11_turnedSet 6 = .ok (.invokevirtual 292, 3) := by decide +kernel
theorem dX11_turnedSet_9 : decode cX11_turnedSet 9 = .ok (.if_icmp .ge 28, 3) := by decide +kernel
theorem dX11_turnedSet_12 : decode cX11_turnedSet 12 = .ok (.iload_n 1, 1) := by decide +kernel
theorem dX11_turnedSet_13 : decode cX11_turnedSet 13 = .ok (.aload_n 0, 1) := by decide +kernel
theorem dX11_turnedSet_14 : decode cX11_turnedSet 14 = .ok (.iconst 0, 1) := by decide +kernel
theorem dX11_turnedSet_15 : decode cX11_turnedSet 15 = .ok (.iload_n 2, 1) := by decide +kernel
theorem dX11_turnedSet_16 : decode cX11_turnedSet 16 = .ok (.invokevirtual 352, 3) := by decide +kernel
theorem dX11_turnedSet_19 : decode cX11_turnedSet 19 = .ok (.ifCond .eq 9, 3) := by decide +kernel
theorem dX11_turnedSet_22 : decode cX11_turnedSet 22 = .ok (.iconst 1, 1) := by decide +kernel
theorem dX11_turnedSet_23 : decode cX11_turnedSet 23 = .ok (.iload_n 2, 1) := by decide +kernel
theorem dX11_turnedSet_24 : decode cX11_turnedSet 24 = .ok (.ishl, 1) := by decide +kernel
theorem dX11_turnedSet_25 : decode cX11_turnedSet 25 = .ok (.goto 4, 3) := by decide +kernel
theorem dX11_turnedSet_28 : decode cX11_turnedSet 28 = .ok (.iconst 0, 1) := by decide +kernel
theorem dX11_turnedSet_29 : decode cX11_turnedSet 29 = .ok (.ior, 1) := by decide +kernel
theorem dX11_turnedSet_30 : decode cX11_turnedSet 30 = .ok (.istore_n 1, 1) := by decide +kernel
theorem dX11_turnedSet_31 : decode cX11_turnedSet 31 = .ok (.iinc 2 1, 3) := by decide +kernel
theorem dX11_turnedSet_34 : decode cX11_turnedSet 34 = .ok (.goto (-30), 3) := by decide +kernel
theorem dX11_turnedSet_37 : decode cX11_turnedSet 37 = .ok (.iload_n 1, 1) := by decide +kernel
theorem dX11_turnedSet_38 : decode cX11_turnedSet 38 = .ok (.ireturn, 1) := by decide +kernel
theorem dX11_count_0 : decode cX11_count 0 = .ok (.aload_n 0, 1) := by decide +kernel
theorem dX11_count_1 : decode cX11_count 1 = .ok (.iconst 0, 1) := by decide +kernel
theorem dX11_count_2 : decode cX11_count 2 = .ok (.putfield 1, 3) := by decide +kernel
theorem dX11_count_5 : decode cX11_count 5 = .ok (.iload_n 1, 1) := by decide +kernel
theorem dX11_count_6 : decode cX11_count 6 = .ok (.tableswitch 157 0 12 #[66, 71, 78, 85, 91, 98, 110, 120, 125, 132, 139, 147, 152], 66) := by decide +kernel
theorem dX11_count_72 : decode cX11_count 72 = .ok (.aload_n 0, 1) := by decide +kernel
theorem dX11_count_73 : decode cX11_count 73 = .ok (.invokevirtual 292, 3) := by decide +kernel
theorem dX11_count_76 : decode cX11_count 76 = .ok (.ireturn, 1) := by decide +kernel
theorem dX11_count_77 : decode cX11_count 77 = .ok (.aload_n 0, 1) := by decide +kernel
theorem dX11_count_78 : decode cX11_count 78 = .ok (.getfield 113, 3) := by decide +kernel
theorem dX11_count_81 : decode cX11_count 81 = .ok (.iconst 1, 1) := by decide +kernel
theorem dX11_count_82 : decode cX11_count 82 = .ok (.iaload, 1) := by decide +kernel
theorem dX11_count_83 : decode cX11_count 83 = .ok (.ireturn, 1) := by decide +kernel
theorem dX11_count_84 : decode cX11_count 84 = .ok (.aload_n 0, 1) := by decide +kernel
theorem dX11_count_85 : decode cX11_count 85 = .ok (.getfield 89, 3) := by decide +kernel
theorem dX11_count_88 : decode cX11_count 88 = .ok (.iconst 3, 1) := by decide +kernel
theorem dX11_count_89 : decode cX11_count 89 = .ok (.iaload, 1) := by decide +kernel
theorem dX11_count_90 : decode cX11_count 90 = .ok (.ireturn, 1) := by decide +kernel
theorem dX11_count_91 : decode cX11_count 91 = .ok (.aload_n 0, 1) := by decide +kernel
theorem dX11_count_92 : decode cX11_count 92 = .ok (.iconst 0, 1) := by decide +kernel
theorem dX11_count_93 : decode cX11_count 93 = .ok (.invokevirtual 364, 3) := by decide +kernel
theorem dX11_count_96 : decode cX11_count 96 = .ok (.ireturn, 1) := by decide +kernel
theorem dX11_count_97 : decode cX11_count 97 = .ok (.aload_n 0, 1) := by decide +kernel
theorem dX11_count_98 : decode cX11_count 98 = .ok (.getfield 113, 3) := by decide +kernel
theorem dX11_count_101 : decode cX11_count 101 = .ok (.iconst 0, 1) := by decide +kernel
theorem dX11_count_102 : decode cX11_count 102 = .ok (.iaload, 1) := by decide +kernel
theorem dX11_count_103 : decode cX11_count 103 = .ok (.ireturn, 1) := by decide +kernel
theorem dX11_count_104 : decode cX11_count 104 = .ok (.aload_n 0, 1) := by decide +kernel
theorem dX11_count_105 : decode cX11_count 105 = .ok (.aload_n 0, 1) := by decide +kernel
theorem dX11_count_106 : decode cX11_count 106 = .ok (.getfield 113, 3) := by decide +kernel
theorem dX11_count_109 : decode cX11_count 109 = .ok (.iconst 0, 1) := by decide +kernel
theorem dX11_count_110 : decode cX11_count 110 = .ok (.iaload, 1) := by decide +kernel
theorem dX11_count_111 : decode cX11_count 111 = .ok (.iconst 0, 1) := by decide +kernel
theorem dX11_count_112 : decode cX11_count 112 = .ok (.invokevirtual 332, 3) := by decide +kernel
theorem dX11_count_115 : decode cX11_count 115 = .ok (.ireturn, 1) := by decide +kernel
theorem dX11_count_116 : decode cX11_count 116 = .ok (.aload_n 0, 1) := by decide +kernel
theorem dX11_count_117 : decode cX11_count 117 = .ok (.aload_n 0, 1) := by decide +kernel
theorem dX11_count_118 : decode cX11_count 118 = .ok (.iconst 0, 1) := by decide +kernel
theorem dX11_count_119 : decode cX11_count 119 = .ok (.invokevirtual 358, 3) := by decide +kernel
theorem dX11_count_122 : decode cX11_count 122 = .ok (.invokevirtual 385, 3) := by decide +kernel
theorem dX11_count_125 : decode cX11_count 125 = .ok (.ireturn, 1) := by decide +kernel
theorem dX11_count_126 : decode cX11_count 126 = .ok (.aload_n 0, 1) := by decide +kernel
theorem dX11_count_127 : decode cX11_count 127 = .ok (.invokevirtual 452, 3) := by decide +kernel
theorem dX11_count_130 : decode cX11_count 130 = .ok (.ireturn, 1) := by decide +kernel
theorem dX11_count_131 : decode cX11_count 131 = .ok (.aload_n 0, 1) := by decide +kernel
theorem dX11_count_132 : decode cX11_count 132 = .ok (.getfield 89, 3) := by decide +kernel
theorem dX11_count_135 : decode cX11_count 135 = .ok (.iconst 5, 1) := by decide +kernel
theorem dX11_count_136 : decode cX11_count 136 = .ok (.iaload, 1) := by decide +kernel
theorem dX11_count_137 : decode cX11_count 137 = .ok (.ireturn, 1) := by decide +kernel
theorem dX11_count_138 : decode cX11_count 138 = .ok (.aload_n 0, 1) := by decide +kernel
theorem dX11_count_139 : decode cX11_count 139 = .ok (.getfield 104, 3) := by decide +kernel
theorem dX11_count_142 : decode cX11_count 142 = .ok (.iconst 0, 1) := by decide +kernel
theorem dX11_count_143 : decode cX11_count 143 = .ok (.iaload, 1) := by decide +kernel
theorem dX11_count_144 : decode cX11_count 144 = .ok (.ireturn, 1) := by decide +kernel
theorem dX11_count_145 : decode cX11_count 145 = .ok (.aload_n 0, 1) := by decide +kernel
theorem dX11_count_146 : decode cX11_count 146 = .ok (.getfield 113, 3) := by decide +kernel
theorem dX11_count_149 : decode cX11_count 149 = .ok (.bipush 28, 2) := by decide +kernel
theorem dX11_count_151 : decode cX11_count 151 = .ok (.iaload, 1) := by decide +kernel
theorem dX11_count_152 : decode cX11_count 152 = .ok (.ireturn, 1) := by decide +kernel
theorem dX11_count_153 : decode cX11_count 153 = .ok (.aload_n 0, 1) := by decide +kernel
theorem dX11_count_154 : decode cX11_count 154 = .ok (.getfield 285, 3) := by decide +kernel
theorem dX11_count_157 : decode cX11_count 157 = .ok (.ireturn, 1) := by decide +kernel
theorem dX11_count_158 : decode cX11_count 158 = .ok (.aload_n 0, 1) := by decide +kernel
theorem dX11_count_159 : decode cX11_count 159 = .ok (.getfield 11, 3) := by decide +kernel
theorem dX11_count_162 : decode cX11_count 162 = .ok (.ireturn, 1) := by decide +kernel
theorem dX11_count_163 : decode cX11_count 163 = .ok (.iconst (-1), 1) := by decide +kernel
theorem dX11_count_164 : decode cX11_count 164 = .ok (.ireturn, 1) := by decide +kernel
