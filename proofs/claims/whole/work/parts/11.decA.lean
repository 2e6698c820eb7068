theorem dX0_init_0 : decode cX0_init 0 = .ok (.aload_n 0, 1) := by decide +kernel
theorem dX0_init_1 : decode cX0_init 1 = .ok (.invokespecial 3, 3) := by decide +kernel
theorem dX0_init_4 : decode cX0_init 4 = .ok (.aload_n 0, 1) := by decide +kernel
theorem dX0_init_5 : decode cX0_init 5 = .ok (.bipush 100, 2) := by decide +kernel
theorem dX0_init_7 : decode cX0_init 7 = .ok (.newarray .long, 2) := by decide +kernel
theorem dX0_init_9 : decode cX0_init 9 = .ok (.putfield 11, 3) := by decide +kernel
theorem dX0_init_12 : decode cX0_init 12 = .ok (.aload_n 0, 1) := by decide +kernel
theorem dX0_init_13 : decode cX0_init 13 = .ok (.bipush 100, 2) := by decide +kernel
theorem dX0_init_15 : decode cX0_init 15 = .ok (.newarray .long, 2) := by decide +kernel
theorem dX0_init_17 : decode cX0_init 17 = .ok (.putfield 15, 3) := by decide +kernel
theorem dX0_init_20 : decode cX0_init 20 = .ok (.return_, 1) := by decide +kernel
theorem dX0_millionths_0 : decode cX0_millionths 0 = .ok (.lconst 1, 1) := by decide +kernel
theorem dX0_millionths_1 : decode cX0_millionths 1 = .ok (.lstore 5, 2) := by decide +kernel
theorem dX0_millionths_3 : decode cX0_millionths 3 = .ok (.aload_n 0, 1) := by decide +kernel
theorem dX0_millionths_4 : decode cX0_millionths 4 = .ok (.getfield 11, 3) := by decide +kernel
theorem dX0_millionths_7 : decode cX0_millionths 7 = .ok (.lconst 0, 1) := by decide +kernel
theorem dX0_millionths_8 : decode cX0_millionths 8 = .ok (.invokestatic 18, 3) := by decide +kernel
theorem dX0_millionths_11 : decode cX0_millionths 11 = .ok (.aload_n 0, 1) := by decide +kernel
theorem dX0_millionths_12 : decode cX0_millionths 12 = .ok (.getfield 11, 3) := by decide +kernel
theorem dX0_millionths_15 : decode cX0_millionths 15 = .ok (.aload_n 2, 1) := by decide +kernel
theorem dX0_millionths_16 : decode cX0_millionths 16 = .ok (.getfield 24, 3) := by decide +kernel
theorem dX0_millionths_19 : decode cX0_millionths 19 = .ok (.iload_n 3, 1) := by decide +kernel
theorem dX0_millionths_20 : decode cX0_millionths 20 = .ok (.iaload, 1) := by decide +kernel
theorem dX0_millionths_21 : decode cX0_millionths 21 = .ok (.bipush 10, 2) := by decide +kernel
theorem dX0_millionths_23 : decode cX0_millionths 23 = .ok (.imul, 1) := by decide +kernel
theorem dX0_millionths_24 : decode cX0_millionths 24 = .ok (.lconst 1, 1) := by decide +kernel
theorem dX0_millionths_25 : decode cX0_millionths 25 = .ok (.lastore, 1) := by decide +kernel
theorem dX0_millionths_26 : decode cX0_millionths 26 = .ok (.iconst 0, 1) := by decide +kernel
theorem dX0_millionths_27 : decode cX0_millionths 27 = .ok (.istore 7, 2) := by decide +kernel
theorem dX0_millionths_29 : decode cX0_millionths 29 = .ok (.iload 7, 2) := by decide +kernel
theorem dX0_millionths_31 : decode cX0_millionths 31 = .ok (.iload 4, 2) := by decide +kernel
theorem dX0_millionths_33 : decode cX0_millionths 33 = .ok (.if_icmp .ge 122, 3) := by decide +kernel
theorem dX0_millionths_36 : decode cX0_millionths 36 = .ok (.aload_n 1, 1) := by decide +kernel
theorem dX0_millionths_37 : decode cX0_millionths 37 = .ok (.aload_n 2, 1) := by decide +kernel
theorem dX0_millionths_38 : decode cX0_millionths 38 = .ok (.getfield 30, 3) := by decide +kernel
theorem dX0_millionths_41 : decode cX0_millionths 41 = .ok (.iload 7, 2) := by decide +kernel
theorem dX0_millionths_43 : decode cX0_millionths 43 = .ok (.iadd, 1) := by decide +kernel
theorem dX0_millionths_44 : decode cX0_millionths 44 = .ok (.invokevirtual 34, 3) := by decide +kernel
theorem dX0_millionths_47 : decode cX0_millionths 47 = .ok (.istore 8, 2) := by decide +kernel
theorem dX0_millionths_49 : decode cX0_millionths 49 = .ok (.aload_n 0, 1) := by decide +kernel
theorem dX0_millionths_50 : decode cX0_millionths 50 = .ok (.getfield 15, 3) := by decide +kernel
theorem dX0_millionths_53 : decode cX0_millionths 53 = .ok (.lconst 0, 1) := by decide +kernel
theorem dX0_millionths_54 : decode cX0_millionths 54 = .ok (.invokestatic 18, 3) := by decide +kernel
theorem dX0_millionths_57 : decode cX0_millionths 57 = .ok (.iconst 0, 1) := by decide +kernel
theorem dX0_millionths_58 : decode cX0_millionths 58 = .ok (.istore 9, 2) := by decide +kernel
theorem dX0_millionths_60 : decode cX0_millionths 60 = .ok (.iload 9, 2) := by decide +kernel
theorem dX0_millionths_62 : decode cX0_millionths 62 = .ok (.aload_n 0, 1) := by decide +kernel
theorem dX0_millionths_63 : decode cX0_millionths 63 = .ok (.getfield 11, 3) := by decide +kernel
theorem dX0_millionths_66 : decode cX0_millionths 66 = .ok (.arraylength, 1) := by decide +kernel
theorem dX0_millionths_67 : decode cX0_millionths 67 = .ok (.if_icmp .ge 56, 3) := by decide +kernel
theorem dX0_millionths_70 : decode cX0_millionths 70 = .ok (.aload_n 0, 1) := by decide +kernel
theorem dX0_millionths_71 : decode cX0_millionths 71 = .ok (.getfield 11, 3) := by decide +kernel
theorem dX0_millionths_74 : decode cX0_millionths 74 = .ok (.iload 9, 2) := by decide +kernel
theorem dX0_millionths_76 : decode cX0_millionths 76 = .ok (.laload, 1) := by decide +kernel
theorem dX0_millionths_77 : decode cX0_millionths 77 = .ok (.lconst 0, 1) := by decide +kernel
theorem dX0_millionths_78 : decode cX0_millionths 78 = .ok (.lcmp, 1) := by decide +kernel
theorem dX0_millionths_79 : decode cX0_millionths 79 = .ok (.ifCond .eq 38, 3) := by decide +kernel
theorem dX0_millionths_82 : decode cX0_millionths 82 = .ok (.aload_n 0, 1) := by decide +kernel
theorem dX0_millionths_83 : decode cX0_millionths 83 = .ok (.aload_n 1, 1) := by decide +kernel
theorem dX0_millionths_84 : decode cX0_millionths 84 = .ok (.aload_n 2, 1) := by decide +kernel
theorem dX0_millionths_85 : decode cX0_millionths 85 = .ok (.iload_n 3, 1) := by decide +kernel
theorem dX0_millionths_86 : decode cX0_millionths 86 = .ok (.iload 9, 2) := by decide +kernel
theorem dX0_millionths_88 : decode cX0_millionths 88 = .ok (.iload 8, 2) := by decide +kernel
theorem dX0_millionths_90 : decode cX0_millionths 90 = .ok (.bipush 10, 2) := by decide +kernel
theorem dX0_millionths_92 : decode cX0_millionths 92 = .ok (.aload_n 1, 1) := by decide +kernel
theorem dX0_millionths_93 : decode cX0_millionths 93 = .ok (.getfield 40, 3) := by decide +kernel
theorem dX0_millionths_96 : decode cX0_millionths 96 = .ok (.isub, 1) := by decide +kernel
theorem dX0_millionths_97 : decode cX0_millionths 97 = .ok (.invokevirtual 43, 3) := by decide +kernel
theorem dX0_millionths_100 : decode cX0_millionths 100 = .ok (.aload_n 0, 1) := by decide +kernel
theorem dX0_millionths_101 : decode cX0_millionths 101 = .ok (.aload_n 1, 1) := by decide +kernel
theorem dX0_millionths_102 : decode cX0_millionths 102 = .ok (.aload_n 2, 1) := by decide +kernel
theorem dX0_millionths_103 : decode cX0_millionths 103 = .ok (.iload_n 3, 1) := by decide +kernel
theorem dX0_millionths_104 : decode cX0_millionths 104 = .ok (.iload 9, 2) := by decide +kernel
theorem dX0_millionths_106 : decode cX0_millionths 106 = .ok (.iload 8, 2) := by decide +kernel
theorem dX0_millionths_108 : decode cX0_millionths 108 = .ok (.iconst 3, 1) := by decide +kernel
theorem dX0_millionths_109 : decode cX0_millionths 109 = .ok (.iadd, 1) := by decide +kernel
theorem dX0_millionths_110 : decode cX0_millionths 110 = .ok (.aload_n 1, 1) := by decide +kernel
theorem dX0_millionths_111 : decode cX0_millionths 111 = .ok (.getfield 40, 3) := by decide +kernel
theorem dX0_millionths_114 : decode cX0_millionths 114 = .ok (.invokevirtual 43, 3) := by decide +kernel
theorem dX0_millionths_117 : decode cX0_millionths 117 = .ok (.iinc 9 1, 3) := by decide +kernel
theorem dX0_millionths_120 : decode cX0_millionths 120 = .ok (.goto (-60), 3) := by decide +kernel
theorem dX0_millionths_123 : decode cX0_millionths 123 = .ok (.aload_n 0, 1) := by decide +kernel
theorem dX0_millionths_124 : decode cX0_millionths 124 = .ok (.getfield 15, 3) := by decide +kernel
theorem dX0_millionths_127 : decode cX0_millionths 127 = .ok (.iconst 0, 1) := by decide +kernel
theorem dX0_millionths_128 : decode cX0_millionths 128 = .ok (.aload_n 0, 1) := by decide +kernel
theorem dX0_millionths_129 : decode cX0_millionths 129 = .ok (.getfield 11, 3) := by decide +kernel
theorem dX0_millionths_132 : decode cX0_millionths 132 = .ok (.iconst 0, 1) := by decide +kernel
theorem dX0_millionths_133 : decode cX0_millionths 133 = .ok (.aload_n 0, 1) := by decide +kernel
theorem dX0_millionths_134 : decode cX0_millionths 134 = .ok (.getfield 11, 3) := by decide +kernel
theorem dX0_millionths_137 : decode cX0_millionths 137 = .ok (.arraylength, 1) := by decide +kernel
theorem dX0_millionths_138 : decode cX0_millionths 138 = .ok (.invokestatic 47, 3) := by decide +kernel
theorem dX0_millionths_141 : decode cX0_millionths 141 = .ok (.lload 5, 2) := by decide +kernel
theorem dX0_millionths_143 : decode cX0_millionths 143 = .ok (.ldc2_w 53, 3) := by decide +kernel
theorem dX0_millionths_146 : decode cX0_millionths 146 = .ok (.lmul, 1) := by decide +kernel
theorem dX0_millionths_147 : decode cX0_millionths 147 = .ok (.lstore 5, 2) := by decide +kernel
theorem dX0_millionths_149 : decode cX0_millionths 149 = .ok (.iinc 7 1, 3) := by decide +kernel
theorem dX0_millionths_152 : decode cX0_millionths 152 = .ok (.goto (-123), 3) := by decide +kernel
theorem dX0_millionths_155 : decode cX0_millionths 155 = .ok (.lconst 0, 1) := by decide +kernel
theorem dX0_millionths_156 : decode cX0_millionths 156 = .ok (.lstore 7, 2) := by decide +kernel
theorem dX0_millionths_158 : decode cX0_millionths 158 = .ok (.iconst 0, 1) := by decide +kernel
theorem dX0_millionths_159 : decode cX0_millionths 159 = .ok (.istore 9, 2) := by decide +kernel
theorem dX0_millionths_161 : decode cX0_millionths 161 = .ok (.iload 9, 2) := by decide +kernel
theorem dX0_millionths_163 : decode cX0_millionths 163 = .ok (.aload_n 0, 1) := by decide +kernel
theorem dX0_millionths_164 : decode cX0_millionths 164 = .ok (.getfield 11, 3) := by decide +kernel
theorem dX0_millionths_167 : decode cX0_millionths 167 = .ok (.arraylength, 1) := by decide +kernel
theorem dX0_millionths_168 : decode cX0_millionths 168 = .ok (.if_icmp .ge 21, 3) := by decide +kernel
theorem dX0_millionths_171 : decode cX0_millionths 171 = .ok (.lload 7, 2) := by decide +kernel
theorem dX0_millionths_173 : decode cX0_millionths 173 = .ok (.aload_n 0, 1) := by decide +kernel
theorem dX0_millionths_174 : decode cX0_millionths 174 = .ok (.getfield 11, 3) := by decide +kernel
theorem dX0_millionths_177 : decode cX0_millionths 177 = .ok (.iload 9, 2) := by decide +kernel
theorem dX0_millionths_179 : decode cX0_millionths 179 = .ok (.laload, 1) := by decide +kernel
theorem dX0_millionths_180 : decode cX0_millionths 180 = .ok (.ladd, 1) := by decide +kernel
theorem dX0_millionths_181 : decode cX0_millionths 181 = .ok (.lstore 7, 2) := by decide +kernel
theorem dX0_millionths_183 : decode cX0_millionths 183 = .ok (.iinc 9 1, 3) := by decide +kernel
theorem dX0_millionths_186 : decode cX0_millionths 186 = .ok (.goto (-25), 3) := by decide +kernel
theorem dX0_millionths_189 : decode cX0_millionths 189 = .ok (.lload 5, 2) := by decide +kernel
theorem dX0_millionths_191 : decode cX0_millionths 191 = .ok (.lconst 1, 1) := by decide +kernel
theorem dX0_millionths_192 : decode cX0_millionths 192 = .ok (.lcmp, 1) := by decide +kernel
theorem dX0_millionths_193 : decode cX0_millionths 193 = .ok (.ifCond .ge 7, 3) := by decide +kernel
theorem dX0_millionths_196 : decode cX0_millionths 196 = .ok (.iconst 0, 1) := by decide +kernel
theorem dX0_millionths_197 : decode cX0_millionths 197 = .ok (.goto 13, 3) := by decide +kernel
theorem dX0_millionths_200 : decode cX0_millionths 200 = .ok (.lload 7, 2) := by decide +kernel
theorem dX0_millionths_202 : decode cX0_millionths 202 = .ok (.ldc2_w 55, 3) := by decide +kernel
theorem dX0_millionths_205 : decode cX0_millionths 205 = .ok (.lmul, 1) := by decide +kernel
theorem dX0_millionths_206 : decode cX0_millionths 206 = .ok (.lload 5, 2) := by decide +kernel
theorem dX0_millionths_208 : decode cX0_millionths 208 = .ok (.ldiv, 1) := by decide +kernel
theorem dX0_millionths_209 : decode cX0_millionths 209 = .ok (.l2i, 1) := by decide +kernel
theorem dX0_millionths_210 : decode cX0_millionths 210 = .ok (.ireturn, 1) := by decide +kernel
theorem dX0_goOn_0 : decode cX0_goOn 0 = .ok (.iload 4, 2) := by decide +kernel
theorem dX0_goOn_2 : decode cX0_goOn 2 = .ok (.bipush 10, 2) := by decide +kernel
theorem dX0_goOn_4 : decode cX0_goOn 4 = .ok (.idiv, 1) := by decide +kernel
theorem dX0_goOn_5 : decode cX0_goOn 5 = .ok (.istore 7, 2) := by decide +kernel
theorem dX0_goOn_7 : decode cX0_goOn 7 = .ok (.iload 4, 2) := by decide +kernel
theorem dX0_goOn_9 : decode cX0_goOn 9 = .ok (.bipush 10, 2) := by decide +kernel
theorem dX0_goOn_11 : decode cX0_goOn 11 = .ok (.irem, 1) := by decide +kernel
theorem dX0_goOn_12 : decode cX0_goOn 12 = .ok (.istore 8, 2) := by decide +kernel
theorem dX0_goOn_14 : decode cX0_goOn 14 = .ok (.aload_n 1, 1) := by decide +kernel
theorem dX0_goOn_15 : decode cX0_goOn 15 = .ok (.iload_n 3, 1) := by decide +kernel
theorem dX0_goOn_16 : decode cX0_goOn 16 = .ok (.iload 7, 2) := by decide +kernel
theorem dX0_goOn_18 : decode cX0_goOn 18 = .ok (.iload 5, 2) := by decide +kernel
theorem dX0_goOn_20 : decode cX0_goOn 20 = .ok (.invokevirtual 57, 3) := by decide +kernel
theorem dX0_goOn_23 : decode cX0_goOn 23 = .ok (.istore 9, 2) := by decide +kernel
theorem dX0_goOn_25 : decode cX0_goOn 25 = .ok (.aload_n 2, 1) := by decide +kernel
theorem dX0_goOn_26 : decode cX0_goOn 26 = .ok (.aload_n 2, 1) := by decide +kernel
theorem dX0_goOn_27 : decode cX0_goOn 27 = .ok (.getfield 61, 3) := by decide +kernel
theorem dX0_goOn_30 : decode cX0_goOn 30 = .ok (.iload_n 3, 1) := by decide +kernel
theorem dX0_goOn_31 : decode cX0_goOn 31 = .ok (.iaload, 1) := by decide +kernel
theorem dX0_goOn_32 : decode cX0_goOn 32 = .ok (.iload 8, 2) := by decide +kernel
theorem dX0_goOn_34 : decode cX0_goOn 34 = .ok (.invokevirtual 64, 3) := by decide +kernel
theorem dX0_goOn_37 : decode cX0_goOn 37 = .ok (.istore 10, 2) := by decide +kernel
theorem dX0_goOn_39 : decode cX0_goOn 39 = .ok (.iload 9, 2) := by decide +kernel
theorem dX0_goOn_41 : decode cX0_goOn 41 = .ok (.iload 10, 2) := by decide +kernel
theorem dX0_goOn_43 : decode cX0_goOn 43 = .ok (.if_icmp .le 4, 3) := by decide +kernel
theorem dX0_goOn_46 : decode cX0_goOn 46 = .ok (.return_, 1) := by decide +kernel
theorem dX0_goOn_47 : decode cX0_goOn 47 = .ok (.iconst 2, 1) := by decide +kernel
theorem dX0_goOn_48 : decode cX0_goOn 48 = .ok (.iload 9, 2) := by decide +kernel
theorem dX0_goOn_50 : decode cX0_goOn 50 = .ok (.imul, 1) := by decide +kernel
theorem dX0_goOn_51 : decode cX0_goOn 51 = .ok (.iload 10, 2) := by decide +kernel
theorem dX0_goOn_53 : decode cX0_goOn 53 = .ok (.if_icmp .le 6, 3) := by decide +kernel
theorem dX0_goOn_56 : decode cX0_goOn 56 = .ok (.iinc 8 1, 3) := by decide +kernel
theorem dX0_goOn_59 : decode cX0_goOn 59 = .ok (.iload 8, 2) := by decide +kernel
theorem dX0_goOn_61 : decode cX0_goOn 61 = .ok (.bipush 10, 2) := by decide +kernel
theorem dX0_goOn_63 : decode cX0_goOn 63 = .ok (.if_icmp .ge 18, 3) := by decide +kernel
theorem dX0_goOn_66 : decode cX0_goOn 66 = .ok (.aload_n 2, 1) := by decide +kernel
theorem dX0_goOn_67 : decode cX0_goOn 67 = .ok (.aload_n 2, 1) := by decide +kernel
theorem dX0_goOn_68 : decode cX0_goOn 68 = .ok (.getfield 61, 3) := by decide +kernel
theorem dX0_goOn_71 : decode cX0_goOn 71 = .ok (.iload_n 3, 1) := by decide +kernel
theorem dX0_goOn_72 : decode cX0_goOn 72 = .ok (.iaload, 1) := by decide +kernel
theorem dX0_goOn_73 : decode cX0_goOn 73 = .ok (.iload 8, 2) := by decide +kernel
theorem dX0_goOn_75 : decode cX0_goOn 75 = .ok (.invokevirtual 64, 3) := by decide +kernel
theorem dX0_goOn_78 : decode cX0_goOn 78 = .ok (.ifCond .ne 4, 3) := by decide +kernel
theorem dX0_goOn_81 : decode cX0_goOn 81 = .ok (.return_, 1) := by decide +kernel
theorem dX0_goOn_82 : decode cX0_goOn 82 = .ok (.aload_n 0, 1) := by decide +kernel
theorem dX0_goOn_83 : decode cX0_goOn 83 = .ok (.getfield 15, 3) := by decide +kernel
theorem dX0_goOn_86 : decode cX0_goOn 86 = .ok (.aload_n 1, 1) := by decide +kernel
theorem dX0_goOn_87 : decode cX0_goOn 87 = .ok (.iload_n 3, 1) := by decide +kernel
theorem dX0_goOn_88 : decode cX0_goOn 88 = .ok (.iload 7, 2) := by decide +kernel
theorem dX0_goOn_90 : decode cX0_goOn 90 = .ok (.iload 5, 2) := by decide +kernel
theorem dX0_goOn_92 : decode cX0_goOn 92 = .ok (.invokevirtual 68, 3) := by decide +kernel
theorem dX0_goOn_95 : decode cX0_goOn 95 = .ok (.bipush 10, 2) := by decide +kernel
theorem dX0_goOn_97 : decode cX0_goOn 97 = .ok (.imul, 1) := by decide +kernel
theorem dX0_goOn_98 : decode cX0_goOn 98 = .ok (.iload 8, 2) := by decide +kernel
theorem dX0_goOn_100 : decode cX0_goOn 100 = .ok (.iadd, 1) := by decide +kernel
theorem dX0_goOn_101 : decode cX0_goOn 101 = .ok (.dup2, 1) := by decide +kernel
theorem dX0_goOn_102 : decode cX0_goOn 102 = .ok (.laload, 1) := by decide +kernel
theorem dX0_goOn_103 : decode cX0_goOn 103 = .ok (.aload_n 0, 1) := by decide +kernel
theorem dX0_goOn_104 : decode cX0_goOn 104 = .ok (.getfield 11, 3) := by decide +kernel
theorem dX0_goOn_107 : decode cX0_goOn 107 = .ok (.iload 4, 2) := by decide +kernel
theorem dX0_goOn_109 : decode cX0_goOn 109 = .ok (.laload, 1) := by decide +kernel
theorem dX0_goOn_110 : decode cX0_goOn 110 = .ok (.iload 6, 2) := by decide +kernel
theorem dX0_goOn_112 : decode cX0_goOn 112 = .ok (.i2l, 1) := by decide +kernel
theorem dX0_goOn_113 : decode cX0_goOn 113 = .ok (.lmul, 1) := by decide +kernel
theorem dX0_goOn_114 : decode cX0_goOn 114 = .ok (.ladd, 1) := by decide +kernel
theorem dX0_goOn_115 : decode cX0_goOn 115 = .ok (.lastore, 1) := by decide +kernel
theorem dX0_goOn_116 : decode cX0_goOn 116 = .ok (.return_, 1) := by decide +kernel
theorem dX1_init_0 : decode cX1_init 0 = .ok (.aload_n 0, 1) := by decide +kernel
theorem dX1_init_1 : decode cX1_init 1 = .ok (.invokespecial 3, 3) := by decide +kernel
theorem dX1_init_4 : decode cX1_init 4 = .ok (.aload_n 0, 1) := by decide +kernel
theorem dX1_init_5 : decode cX1_init 5 = .ok (.bipush 30, 2) := by decide +kernel
theorem dX1_init_7 : decode cX1_init 7 = .ok (.newarray .int, 2) := by decide +kernel
theorem dX1_init_9 : decode cX1_init 9 = .ok (.putfield 9, 3) := by decide +kernel
theorem dX1_init_12 : decode cX1_init 12 = .ok (.aload_n 0, 1) := by decide +kernel
theorem dX1_init_13 : decode cX1_init 13 = .ok (.bipush 30, 2) := by decide +kernel
theorem dX1_init_15 : decode cX1_init 15 = .ok (.newarray .int, 2) := by decide +kernel
theorem dX1_init_17 : decode cX1_init 17 = .ok (.putfield 15, 3) := by decide +kernel
theorem dX1_init_20 : decode cX1_init 20 = .ok (.aload_n 0, 1) := by decide +kernel
theorem dX1_init_21 : decode cX1_init 21 = .ok (.bipush 30, 2) := by decide +kernel
theorem dX1_init_23 : decode cX1_init 23 = .ok (.newarray .int, 2) := by decide +kernel
theorem dX1_init_25 : decode cX1_init 25 = .ok (.putfield 18, 3) := by decide +kernel
theorem dX1_init_28 : decode cX1_init 28 = .ok (.return_, 1) := by decide +kernel
theorem dX1_clear_0 : decode cX1_clear 0 = .ok (.aload_n 0, 1) := by decide +kernel
theorem dX1_clear_1 : decode cX1_clear 1 = .ok (.iconst 0, 1) := by decide +kernel
theorem dX1_clear_2 : decode cX1_clear 2 = .ok (.putfield 21, 3) := by decide +kernel
theorem dX1_clear_5 : decode cX1_clear 5 = .ok (.return_, 1) := by decide +kernel
theorem dX1_add_0 : decode cX1_add 0 = .ok (.aload_n 0, 1) := by decide +kernel
theorem dX1_add_1 : decode cX1_add 1 = .ok (.getfield 21, 3) := by decide +kernel
theorem dX1_add_4 : decode cX1_add 4 = .ok (.bipush 30, 2) := by decide +kernel
theorem dX1_add_6 : decode cX1_add 6 = .ok (.if_icmp .ge 43, 3) := by decide +kernel
theorem dX1_add_9 : decode cX1_add 9 = .ok (.aload_n 0, 1) := by decide +kernel
theorem dX1_add_10 : decode cX1_add 10 = .ok (.getfield 9, 3) := by decide +kernel
theorem dX1_add_13 : decode cX1_add 13 = .ok (.aload_n 0, 1) := by decide +kernel
theorem dX1_add_14 : decode cX1_add 14 = .ok (.getfield 21, 3) := by decide +kernel
theorem dX1_add_17 : decode cX1_add 17 = .ok (.iload_n 1, 1) := by decide +kernel
theorem dX1_add_18 : decode cX1_add 18 = .ok (.iastore, 1) := by decide +kernel
theorem dX1_add_19 : decode cX1_add 19 = .ok (.aload_n 0, 1) := by decide +kernel
theorem dX1_add_20 : decode cX1_add 20 = .ok (.getfield 15, 3) := by decide +kernel
theorem dX1_add_23 : decode cX1_add 23 = .ok (.aload_n 0, 1) := by decide +kernel
theorem dX1_add_24 : decode cX1_add 24 = .ok (.getfield 21, 3) := by decide +kernel
theorem dX1_add_27 : decode cX1_add 27 = .ok (.iload_n 2, 1) := by decide +kernel
theorem dX1_add_28 : decode cX1_add 28 = .ok (.iastore, 1) := by decide +kernel
theorem dX1_add_29 : decode cX1_add 29 = .ok (.aload_n 0, 1) := by decide +kernel
theorem dX1_add_30 : decode cX1_add 30 = .ok (.getfield 18, 3) := by decide +kernel
theorem dX1_add_33 : decode cX1_add 33 = .ok (.aload_n 0, 1) := by decide +kernel
theorem dX1_add_34 : decode cX1_add 34 = .ok (.getfield 21, 3) := by decide +kernel
theorem dX1_add_37 : decode cX1_add 37 = .ok (.iload_n 3, 1) := by decide +kernel
theorem dX1_add_38 : decode cX1_add 38 = .ok (.iastore, 1) := by decide +kernel
theorem dX1_add_39 : decode cX1_add 39 = .ok (.aload_n 0, 1) := by decide +kernel
theorem dX1_add_40 : decode cX1_add 40 = .ok (.dup, 1) := by decide +kernel
theorem dX1_add_41 : decode cX1_add 41 = .ok (.getfield 21, 3) := by decide +kernel
theorem dX1_add_44 : decode cX1_add 44 = .ok (.iconst 1, 1) := by decide +kernel
theorem dX1_add_45 : decode cX1_add 45 = .ok (.iadd, 1) := by decide +kernel
theorem dX1_add_46 : decode cX1_add 46 = .ok (.putfield 21, 3) := by decide +kernel
theorem dX1_add_49 : decode cX1_add 49 = .ok (.return_, 1) := by decide +kernel
theorem dX1_judge_0 : decode cX1_judge 0 = .ok (.aload_n 0, 1) := by decide +kernel
theorem dX1_judge_1 : decode cX1_judge 1 = .ok (.iconst (-1), 1) := by decide +kernel
theorem dX1_judge_2 : decode cX1_judge 2 = .ok (.putfield 25, 3) := by decide +kernel
theorem dX1_judge_5 : decode cX1_judge 5 = .ok (.aload_n 0, 1) := by decide +kernel
theorem dX1_judge_6 : decode cX1_judge 6 = .ok (.iconst (-1), 1) := by decide +kernel
theorem dX1_judge_7 : decode cX1_judge 7 = .ok (.putfield 28, 3) := by decide +kernel
theorem dX1_judge_10 : decode cX1_judge 10 = .ok (.aload_n 2, 1) := by decide +kernel
theorem dX1_judge_11 : decode cX1_judge 11 = .ok (.aload_n 1, 1) := by decide +kernel
theorem dX1_judge_12 : decode cX1_judge 12 = .ok (.invokevirtual 31, 3) := by decide +kernel
theorem dX1_judge_15 : decode cX1_judge 15 = .ok (.iconst 0, 1) := by decide +kernel
theorem dX1_judge_16 : decode cX1_judge 16 = .ok (.istore_n 3, 1) := by decide +kernel
theorem dX1_judge_17 : decode cX1_judge 17 = .ok (.iload_n 3, 1) := by decide +kernel
theorem dX1_judge_18 : decode cX1_judge 18 = .ok (.aload_n 0, 1) := by decide +kernel
theorem dX1_judge_19 : decode cX1_judge 19 = .ok (.getfield 21, 3) := by decide +kernel
theorem dX1_judge_22 : decode cX1_judge 22 = .ok (.if_icmp .ge 68, 3) := by decide +kernel
theorem dX1_judge_25 : decode cX1_judge 25 = .ok (.aload_n 0, 1) := by decide +kernel
theorem dX1_judge_26 : decode cX1_judge 26 = .ok (.getfield 9, 3) := by decide +kernel
theorem dX1_judge_29 : decode cX1_judge 29 = .ok (.iload_n 3, 1) := by decide +kernel
theorem dX1_judge_30 : decode cX1_judge 30 = .ok (.iaload, 1) := by decide +kernel
theorem dX1_judge_31 : decode cX1_judge 31 = .ok (.bipush 15, 2) := by decide +kernel
theorem dX1_judge_33 : decode cX1_judge 33 = .ok (.if_icmp .ne 28, 3) := by decide +kernel
theorem dX1_judge_36 : decode cX1_judge 36 = .ok (.aload_n 2, 1) := by decide +kernel
theorem dX1_judge_37 : decode cX1_judge 37 = .ok (.aload_n 1, 1) := by decide +kernel
theorem dX1_judge_38 : decode cX1_judge 38 = .ok (.iconst 0, 1) := by decide +kernel
theorem dX1_judge_39 : decode cX1_judge 39 = .ok (.invokevirtual 37, 3) := by decide +kernel
theorem dX1_judge_42 : decode cX1_judge 42 = .ok (.ifCond .le 42, 3) := by decide +kernel
theorem dX1_judge_45 : decode cX1_judge 45 = .ok (.aload_n 0, 1) := by decide +kernel
theorem dX1_judge_46 : decode cX1_judge 46 = .ok (.getfield 28, 3) := by decide +kernel
theorem dX1_judge_49 : decode cX1_judge 49 = .ok (.iconst (-1), 1) := by decide +kernel
theorem dX1_judge_50 : decode cX1_judge 50 = .ok (.if_icmp .ne 34, 3) := by decide +kernel
theorem dX1_judge_53 : decode cX1_judge 53 = .ok (.aload_n 0, 1) := by decide +kernel
theorem dX1_judge_54 : decode cX1_judge 54 = .ok (.iload_n 3, 1) := by decide +kernel
theorem dX1_judge_55 : decode cX1_judge 55 = .ok (.putfield 28, 3) := by decide +kernel
theorem dX1_judge_58 : decode cX1_judge 58 = .ok (.goto 26, 3) := by decide +kernel
theorem dX1_judge_61 : decode cX1_judge 61 = .ok (.aload_n 0, 1) := by decide +kernel
theorem dX1_judge_62 : decode cX1_judge 62 = .ok (.aload_n 1, 1) := by decide +kernel
theorem dX1_judge_63 : decode cX1_judge 63 = .ok (.aload_n 2, 1) := by decide +kernel
theorem dX1_judge_64 : decode cX1_judge 64 = .ok (.iload_n 3, 1) := by decide +kernel
theorem dX1_judge_65 : decode cX1_judge 65 = .ok (.invokevirtual 41, 3) := by decide +kernel
theorem dX1_judge_68 : decode cX1_judge 68 = .ok (.ifCond .ne 16, 3) := by decide +kernel
theorem dX1_judge_71 : decode cX1_judge 71 = .ok (.aload_n 0, 1) := by decide +kernel
theorem dX1_judge_72 : decode cX1_judge 72 = .ok (.getfield 25, 3) := by decide +kernel
theorem dX1_judge_75 : decode cX1_judge 75 = .ok (.iconst (-1), 1) := by decide +kernel
theorem dX1_judge_76 : decode cX1_judge 76 = .ok (.if_icmp .ne 8, 3) := by decide +kernel
theorem dX1_judge_79 : decode cX1_judge 79 = .ok (.aload_n 0, 1) := by decide +kernel
theorem dX1_judge_80 : decode cX1_judge 80 = .ok (.iload_n 3, 1) := by decide +kernel
theorem dX1_judge_81 : decode cX1_judge 81 = .ok (.putfield 25, 3) := by decide +kernel
theorem dX1_judge_84 : decode cX1_judge 84 = .ok (.iinc 3 1, 3) := by decide +kernel
theorem dX1_judge_87 : decode cX1_judge 87 = .ok (.goto (-70), 3) := by decide +kernel
theorem dX1_judge_90 : decode cX1_judge 90 = .ok (.return_, 1) := by decide +kernel
theorem dX1_canDo_0 : decode cX1_canDo 0 = .ok (.aload_n 0, 1) := by decide +kernel
theorem dX1_canDo_1 : decode cX1_canDo 1 = .ok (.getfield 9, 3) := by decide +kernel
theorem dX1_canDo_4 : decode cX1_canDo 4 = .ok (.iload_n 3, 1) := by decide +kernel
theorem dX1_canDo_5 : decode cX1_canDo 5 = .ok (.iaload, 1) := by decide +kernel
theorem dX1_canDo_6 : decode cX1_canDo 6 = .ok (.tableswitch 77 11 13 #[26, 44, 56], 26) := by decide +kernel
theorem dX1_canDo_32 : decode cX1_canDo 32 = .ok (.aload_n 2, 1) := by decide +kernel
theorem dX1_canDo_33 : decode cX1_canDo 33 = .ok (.aload_n 1, 1) := by decide +kernel
theorem dX1_canDo_34 : decode cX1_canDo 34 = .ok (.aload_n 0, 1) := by decide +kernel
theorem dX1_canDo_35 : decode cX1_canDo 35 = .ok (.getfield 15, 3) := by decide +kernel
theorem dX1_canDo_38 : decode cX1_canDo 38 = .ok (.iload_n 3, 1) := by decide +kernel
theorem dX1_canDo_39 : decode cX1_canDo 39 = .ok (.iaload, 1) := by decide +kernel
theorem dX1_canDo_40 : decode cX1_canDo 40 = .ok (.aload_n 0, 1) := by decide +kernel
theorem dX1_canDo_41 : decode cX1_canDo 41 = .ok (.getfield 18, 3) := by decide +kernel
theorem dX1_canDo_44 : decode cX1_canDo 44 = .ok (.iload_n 3, 1) := by decide +kernel
theorem dX1_canDo_45 : decode cX1_canDo 45 = .ok (.iaload, 1) := by decide +kernel
theorem dX1_canDo_46 : decode cX1_canDo 46 = .ok (.invokevirtual 45, 3) := by decide +kernel
theorem dX1_canDo_49 : decode cX1_canDo 49 = .ok (.ireturn, 1) := by decide +kernel
theorem dX1_canDo_50 : decode cX1_canDo 50 = .ok (.aload_n 2, 1) := by decide +kernel
theorem dX1_canDo_51 : decode cX1_canDo 51 = .ok (.aload_n 1, 1) := by decide +kernel
theorem dX1_canDo_52 : decode cX1_canDo 52 = .ok (.aload_n 0, 1) := by decide +kernel
theorem dX1_canDo_53 : decode cX1_canDo 53 = .ok (.getfield 15, 3) := by decide +kernel
theorem dX1_canDo_56 : decode cX1_canDo 56 = .ok (.iload_n 3, 1) := by decide +kernel
theorem dX1_canDo_57 : decode cX1_canDo 57 = .ok (.iaload, 1) := by decide +kernel
theorem dX1_canDo_58 : decode cX1_canDo 58 = .ok (.invokevirtual 49, 3) := by decide +kernel
theorem dX1_canDo_61 : decode cX1_canDo 61 = .ok (.ireturn, 1) := by decide +kernel
theorem dX1_canDo_62 : decode cX1_canDo 62 = .ok (.aload_n 2, 1) := by decide +kernel
theorem dX1_canDo_63 : decode cX1_canDo 63 = .ok (.aload_n 1, 1) := by decide +kernel
theorem dX1_canDo_64 : decode cX1_canDo 64 = .ok (.aload_n 0, 1) := by decide +kernel
theorem dX1_canDo_65 : decode cX1_canDo 65 = .ok (.getfield 15, 3) := by decide +kernel
theorem dX1_canDo_68 : decode cX1_canDo 68 = .ok (.iload_n 3, 1) := by decide +kernel
theorem dX1_canDo_69 : decode cX1_canDo 69 = .ok (.iaload, 1) := by decide +kernel
theorem dX1_canDo_70 : decode cX1_canDo 70 = .ok (.invokevirtual 53, 3) := by decide +kernel
theorem dX1_canDo_73 : decode cX1_canDo 73 = .ok (.iconst (-1), 1) := by decide +kernel
theorem dX1_canDo_74 : decode cX1_canDo 74 = .ok (.if_icmp .eq 7, 3) := by decide +kernel
theorem dX1_canDo_77 : decode cX1_canDo 77 = .ok (.iconst 1, 1) := by decide +kernel
theorem dX1_canDo_78 : decode cX1_canDo 78 = .ok (.goto 4, 3) := by decide +kernel
theorem dX1_canDo_81 : decode cX1_canDo 81 = .ok (.iconst 0, 1) := by decide +kernel
theorem dX1_canDo_82 : decode cX1_canDo 82 = .ok (.ireturn, 1) := by decide +kernel
theorem dX1_canDo_83 : decode cX1_canDo 83 = .ok (.aload_n 2, 1) := by decide +kernel
theorem dX1_canDo_84 : decode cX1_canDo 84 = .ok (.aload_n 0, 1) := by decide +kernel
theorem dX1_canDo_85 : decode cX1_canDo 85 = .ok (.getfield 18, 3) := by decide +kernel
theorem dX1_canDo_88 : decode cX1_canDo 88 = .ok (.iload_n 3, 1) := by decide +kernel
theorem dX1_canDo_89 : decode cX1_canDo 89 = .ok (.iaload, 1) := by decide +kernel
theorem dX1_canDo_90 : decode cX1_canDo 90 = .ok (.invokevirtual 56, 3) := by decide +kernel
theorem dX1_canDo_93 : decode cX1_canDo 93 = .ok (.iconst (-1), 1) := by decide +kernel
theorem dX1_canDo_94 : decode cX1_canDo 94 = .ok (.if_icmp .eq 7, 3) := by decide +kernel
theorem dX1_canDo_97 : decode cX1_canDo 97 = .ok (.iconst 1, 1) := by decide +kernel
theorem dX1_canDo_98 : decode cX1_canDo 98 = .ok (.goto 4, 3) := by decide +kernel
theorem dX1_canDo_101 : decode cX1_canDo 101 = .ok (.iconst 0, 1) := by decide +kernel
theorem dX1_canDo_102 : decode cX1_canDo 102 = .ok (.ireturn, 1) := by decide +kernel
theorem dX2_init_0 : decode cX2_init 0 = .ok (.aload_n 0, 1) := by decide +kernel
theorem dX2_init_1 : decode cX2_init 1 = .ok (.invokespecial 3, 3) := by decide +kernel
theorem dX2_init_4 : decode cX2_init 4 = .ok (.aload_n 0, 1) := by decide +kernel
theorem dX2_init_5 : decode cX2_init 5 = .ok (.bipush 8, 2) := by decide +kernel
theorem dX2_init_7 : decode cX2_init 7 = .ok (.newarray .int, 2) := by decide +kernel
theorem dX2_init_9 : decode cX2_init 9 = .ok (.putfield 9, 3) := by decide +kernel
theorem dX2_init_12 : decode cX2_init 12 = .ok (.aload_n 0, 1) := by decide +kernel
theorem dX2_init_13 : decode cX2_init 13 = .ok (.bipush 8, 2) := by decide +kernel
theorem dX2_init_15 : decode cX2_init 15 = .ok (.newarray .int, 2) := by decide +kernel
theorem dX2_init_17 : decode cX2_init 17 = .ok (.putfield 15, 3) := by decide +kernel
theorem dX2_init_20 : decode cX2_init 20 = .ok (.aload_n 0, 1) := by decide +kernel
theorem dX2_init_21 : decode cX2_init 21 = .ok (.bipush 8, 2) := by decide +kernel
theorem dX2_init_23 : decode cX2_init 23 = .ok (.newarray .int, 2) := by decide +kernel
theorem dX2_init_25 : decode cX2_init 25 = .ok (.putfield 18, 3) := by decide +kernel
theorem dX2_init_28 : decode cX2_init 28 = .ok (.aload_n 0, 1) := by decide +kernel
theorem dX2_init_29 : decode cX2_init 29 = .ok (.bipush 12, 2) := by decide +kernel
theorem dX2_init_31 : decode cX2_init 31 = .ok (.newarray .int, 2) := by decide +kernel
theorem dX2_init_33 : decode cX2_init 33 = .ok (.putfield 21, 3) := by decide +kernel
theorem dX2_init_36 : decode cX2_init 36 = .ok (.aload_n 0, 1) := by decide +kernel
theorem dX2_init_37 : decode cX2_init 37 = .ok (.bipush 10, 2) := by decide +kernel
theorem dX2_init_39 : decode cX2_init 39 = .ok (.newarray .int, 2) := by decide +kernel
theorem dX2_init_41 : decode cX2_init 41 = .ok (.putfield 24, 3) := by decide +kernel
theorem dX2_init_44 : decode cX2_init 44 = .ok (.return_, 1) := by decide +kernel
theorem dX2_clear_0 : decode cX2_clear 0 = .ok (.aload_n 0, 1) := by decide +kernel
theorem dX2_clear_1 : decode cX2_clear 1 = .ok (.iconst 0, 1) := by decide +kernel
theorem dX2_clear_2 : decode cX2_clear 2 = .ok (.putfield 27, 3) := by decide +kernel
theorem dX2_clear_5 : decode cX2_clear 5 = .ok (.return_, 1) := by decide +kernel
theorem dX2_copyFrom_0 : decode cX2_copyFrom 0 = .ok (.aload_n 1, 1) := by decide +kernel
theorem dX2_copyFrom_1 : decode cX2_copyFrom 1 = .ok (.getfield 9, 3) := by decide +kernel
theorem dX2_copyFrom_4 : decode cX2_copyFrom 4 = .ok (.iconst 0, 1) := by decide +kernel
theorem dX2_copyFrom_5 : decode cX2_copyFrom 5 = .ok (.aload_n 0, 1) := by decide +kernel
theorem dX2_copyFrom_6 : decode cX2_copyFrom 6 = .ok (.getfield 9, 3) := by decide +kernel
theorem dX2_copyFrom_9 : decode cX2_copyFrom 9 = .ok (.iconst 0, 1) := by decide +kernel
theorem dX2_copyFrom_10 : decode cX2_copyFrom 10 = .ok (.bipush 8, 2) := by decide +kernel
theorem dX2_copyFrom_12 : decode cX2_copyFrom 12 = .ok (.invokestatic 31, 3) := by decide +kernel
theorem dX2_copyFrom_15 : decode cX2_copyFrom 15 = .ok (.aload_n 1, 1) := by decide +kernel
theorem dX2_copyFrom_16 : decode cX2_copyFrom 16 = .ok (.getfield 15, 3) := by decide +kernel
theorem dX2_copyFrom_19 : decode cX2_copyFrom 19 = .ok (.iconst 0, 1) := by decide +kernel
theorem dX2_copyFrom_20 : decode cX2_copyFrom 20 = .ok (.aload_n 0, 1) := by decide +kernel
theorem dX2_copyFrom_21 : decode cX2_copyFrom 21 = .ok (.getfield 15, 3) := by decide +kernel
theorem dX2_copyFrom_24 : decode cX2_copyFrom 24 = .ok (.iconst 0, 1) := by decide +kernel
theorem dX2_copyFrom_25 : decode cX2_copyFrom 25 = .ok (.bipush 8, 2) := by decide +kernel
theorem dX2_copyFrom_27 : decode cX2_copyFrom 27 = .ok (.invokestatic 31, 3) := by decide +kernel
theorem dX2_copyFrom_30 : decode cX2_copyFrom 30 = .ok (.aload_n 1, 1) := by decide +kernel
theorem dX2_copyFrom_31 : decode cX2_copyFrom 31 = .ok (.getfield 18, 3) := by decide +kernel
theorem dX2_copyFrom_34 : decode cX2_copyFrom 34 = .ok (.iconst 0, 1) := by decide +kernel
theorem dX2_copyFrom_35 : decode cX2_copyFrom 35 = .ok (.aload_n 0, 1) := by decide +kernel
theorem dX2_copyFrom_36 : decode cX2_copyFrom 36 = .ok (.getfield 18, 3) := by decide +kernel
theorem dX2_copyFrom_39 : decode cX2_copyFrom 39 = .ok (.iconst 0, 1) := by decide +kernel
theorem dX2_copyFrom_40 : decode cX2_copyFrom 40 = .ok (.bipush 8, 2) := by decide +kernel
theorem dX2_copyFrom_42 : decode cX2_copyFrom 42 = .ok (.invokestatic 31, 3) := by decide +kernel
theorem dX2_copyFrom_45 : decode cX2_copyFrom 45 = .ok (.aload_n 0, 1) := by decide +kernel
theorem dX2_copyFrom_46 : decode cX2_copyFrom 46 = .ok (.aload_n 1, 1) := by decide +kernel
theorem dX2_copyFrom_47 : decode cX2_copyFrom 47 = .ok (.getfield 27, 3) := by decide +kernel
theorem dX2_copyFrom_50 : decode cX2_copyFrom 50 = .ok (.putfield 27, 3) := by decide +kernel
theorem dX2_copyFrom_53 : decode cX2_copyFrom 53 = .ok (.return_, 1) := by decide +kernel
theorem dX2_add_0 : decode cX2_add 0 = .ok (.aload_n 0, 1) := by decide +kernel
theorem dX2_add_1 : decode cX2_add 1 = .ok (.getfield 27, 3) := by decide +kernel
theorem dX2_add_4 : decode cX2_add 4 = .ok (.bipush 8, 2) := by decide +kernel
theorem dX2_add_6 : decode cX2_add 6 = .ok (.if_icmp .lt 5, 3) := by decide +kernel
theorem dX2_add_9 : decode cX2_add 9 = .ok (.iconst 0, 1) := by decide +kernel
theorem dX2_add_10 : decode cX2_add 10 = .ok (.ireturn, 1) := by decide +kernel
theorem dX2_add_11 : decode cX2_add 11 = .ok (.aload_n 0, 1) := by decide +kernel
theorem dX2_add_12 : decode cX2_add 12 = .ok (.getfield 9, 3) := by decide +kernel
theorem dX2_add_15 : decode cX2_add 15 = .ok (.aload_n 0, 1) := by decide +kernel
theorem dX2_add_16 : decode cX2_add 16 = .ok (.getfield 27, 3) := by decide +kernel
theorem dX2_add_19 : decode cX2_add 19 = .ok (.iload_n 1, 1) := by decide +kernel
theorem dX2_add_20 : decode cX2_add 20 = .ok (.iastore, 1) := by decide +kernel
theorem dX2_add_21 : decode cX2_add 21 = .ok (.aload_n 0, 1) := by decide +kernel
theorem dX2_add_22 : decode cX2_add 22 = .ok (.getfield 15, 3) := by decide +kernel
theorem dX2_add_25 : decode cX2_add 25 = .ok (.aload_n 0, 1) := by decide +kernel
theorem dX2_add_26 : decode cX2_add 26 = .ok (.getfield 27, 3) := by decide +kernel
theorem dX2_add_29 : decode cX2_add 29 = .ok (.iload_n 2, 1) := by decide +kernel
theorem dX2_add_30 : decode cX2_add 30 = .ok (.iastore, 1) := by decide +kernel
theorem dX2_add_31 : decode cX2_add 31 = .ok (.aload_n 0, 1) := by decide +kernel
theorem dX2_add_32 : decode cX2_add 32 = .ok (.getfield 18, 3) := by decide +kernel
theorem dX2_add_35 : decode cX2_add 35 = .ok (.aload_n 0, 1) := by decide +kernel
theorem dX2_add_36 : decode cX2_add 36 = .ok (.getfield 27, 3) := by decide +kernel
theorem dX2_add_39 : decode cX2_add 39 = .ok (.iload_n 3, 1) := by decide +kernel
theorem dX2_add_40 : decode cX2_add 40 = .ok (.iastore, 1) := by decide +kernel
theorem dX2_add_41 : decode cX2_add 41 = .ok (.aload_n 0, 1) := by decide +kernel
theorem dX2_add_42 : decode cX2_add 42 = .ok (.dup, 1) := by decide +kernel
theorem dX2_add_43 : decode cX2_add 43 = .ok (.getfield 27, 3) := by decide +kernel
theorem dX2_add_46 : decode cX2_add 46 = .ok (.iconst 1, 1) := by decide +kernel
theorem dX2_add_47 : decode cX2_add 47 = .ok (.iadd, 1) := by decide +kernel
theorem dX2_add_48 : decode cX2_add 48 = .ok (.putfield 27, 3) := by decide +kernel
theorem dX2_add_51 : decode cX2_add 51 = .ok (.iconst 1, 1) := by decide +kernel
theorem dX2_add_52 : decode cX2_add 52 = .ok (.ireturn, 1) := by decide +kernel
theorem dX2_startBits_0 : decode cX2_startBits 0 = .ok (.iconst 0, 1) := by decide +kernel
theorem dX2_startBits_1 : decode cX2_startBits 1 = .ok (.istore_n 2, 1) := by decide +kernel
theorem dX2_startBits_2 : decode cX2_startBits 2 = .ok (.iconst 0, 1) := by decide +kernel
theorem dX2_startBits_3 : decode cX2_startBits 3 = .ok (.istore_n 3, 1) := by decide +kernel
theorem dX2_startBits_4 : decode cX2_startBits 4 = .ok (.iload_n 3, 1) := by decide +kernel
theorem dX2_startBits_5 : decode cX2_startBits 5 = .ok (.aload_n 1, 1) := by decide +kernel
theorem dX2_startBits_6 : decode cX2_startBits 6 = .ok (.getfield 37, 3) := by decide +kernel
theorem dX2_startBits_9 : decode cX2_startBits 9 = .ok (.if_icmp .ge 24, 3) := by decide +kernel
theorem dX2_startBits_12 : decode cX2_startBits 12 = .ok (.aload_n 0, 1) := by decide +kernel
theorem dX2_startBits_13 : decode cX2_startBits 13 = .ok (.aload_n 1, 1) := by decide +kernel
theorem dX2_startBits_14 : decode cX2_startBits 14 = .ok (.iload_n 3, 1) := by decide +kernel
theorem dX2_startBits_15 : decode cX2_startBits 15 = .ok (.invokevirtual 42, 3) := by decide +kernel
theorem dX2_startBits_18 : decode cX2_startBits 18 = .ok (.ifCond .eq 9, 3) := by decide +kernel
theorem dX2_startBits_21 : decode cX2_startBits 21 = .ok (.iload_n 2, 1) := by decide +kernel
theorem dX2_startBits_22 : decode cX2_startBits 22 = .ok (.iconst 1, 1) := by decide +kernel
theorem dX2_startBits_23 : decode cX2_startBits 23 = .ok (.iload_n 3, 1) := by decide +kernel
theorem dX2_startBits_24 : decode cX2_startBits 24 = .ok (.ishl, 1) := by decide +kernel
theorem dX2_startBits_25 : decode cX2_startBits 25 = .ok (.ior, 1) := by decide +kernel
theorem dX2_startBits_26 : decode cX2_startBits 26 = .ok (.istore_n 2, 1) := by decide +kernel
theorem dX2_startBits_27 : decode cX2_startBits 27 = .ok (.iinc 3 1, 3) := by decide +kernel
theorem dX2_startBits_30 : decode cX2_startBits 30 = .ok (.goto (-26), 3) := by decide +kernel
theorem dX2_startBits_33 : decode cX2_startBits 33 = .ok (.iload_n 2, 1) := by decide +kernel
theorem dX2_startBits_34 : decode cX2_startBits 34 = .ok (.ireturn, 1) := by decide +kernel
theorem dX2_allSo_0 : decode cX2_allSo 0 = .ok (.iconst 0, 1) := by decide +kernel
theorem dX2_allSo_1 : decode cX2_allSo 1 = .ok (.istore_n 3, 1) := by decide +kernel
theorem dX2_allSo_2 : decode cX2_allSo 2 = .ok (.iload_n 3, 1) := by decide +kernel
theorem dX2_allSo_3 : decode cX2_allSo 3 = .ok (.aload_n 0, 1) := by decide +kernel
theorem dX2_allSo_4 : decode cX2_allSo 4 = .ok (.getfield 27, 3) := by decide +kernel
theorem dX2_allSo_7 : decode cX2_allSo 7 = .ok (.if_icmp .ge 68, 3) := by decide +kernel
theorem dX2_allSo_10 : decode cX2_allSo 10 = .ok (.bipush 9, 2) := by decide +kernel
theorem dX2_allSo_12 : decode cX2_allSo 12 = .ok (.istore 4, 2) := by decide +kernel
theorem dX2_allSo_14 : decode cX2_allSo 14 = .ok (.iconst 0, 1) := by decide +kernel
theorem dX2_allSo_15 : decode cX2_allSo 15 = .ok (.istore 5, 2) := by decide +kernel
theorem dX2_allSo_17 : decode cX2_allSo 17 = .ok (.iload 5, 2) := by decide +kernel
theorem dX2_allSo_19 : decode cX2_allSo 19 = .ok (.aload_n 0, 1) := by decide +kernel
theorem dX2_allSo_20 : decode cX2_allSo 20 = .ok (.getfield 15, 3) := by decide +kernel
theorem dX2_allSo_23 : decode cX2_allSo 23 = .ok (.iload_n 3, 1) := by decide +kernel
theorem dX2_allSo_24 : decode cX2_allSo 24 = .ok (.iaload, 1) := by decide +kernel
theorem dX2_allSo_25 : decode cX2_allSo 25 = .ok (.if_icmp .ge 31, 3) := by decide +kernel
theorem dX2_allSo_28 : decode cX2_allSo 28 = .ok (.aload_n 1, 1) := by decide +kernel
theorem dX2_allSo_29 : decode cX2_allSo 29 = .ok (.aload_n 0, 1) := by decide +kernel
theorem dX2_allSo_30 : decode cX2_allSo 30 = .ok (.getfield 9, 3) := by decide +kernel
theorem dX2_allSo_33 : decode cX2_allSo 33 = .ok (.iload_n 3, 1) := by decide +kernel
theorem dX2_allSo_34 : decode cX2_allSo 34 = .ok (.iaload, 1) := by decide +kernel
theorem dX2_allSo_35 : decode cX2_allSo 35 = .ok (.iload 4, 2) := by decide +kernel
theorem dX2_allSo_37 : decode cX2_allSo 37 = .ok (.aload_n 1, 1) := by decide +kernel
theorem dX2_allSo_38 : decode cX2_allSo 38 = .ok (.iload_n 2, 1) := by decide +kernel
theorem dX2_allSo_39 : decode cX2_allSo 39 = .ok (.iload 5, 2) := by decide +kernel
theorem dX2_allSo_41 : decode cX2_allSo 41 = .ok (.iadd, 1) := by decide +kernel
theorem dX2_allSo_42 : decode cX2_allSo 42 = .ok (.invokevirtual 46, 3) := by decide +kernel
theorem dX2_allSo_45 : decode cX2_allSo 45 = .ok (.invokevirtual 50, 3) := by decide +kernel
theorem dX2_allSo_48 : decode cX2_allSo 48 = .ok (.istore 4, 2) := by decide +kernel
theorem dX2_allSo_50 : decode cX2_allSo 50 = .ok (.iinc 5 1, 3) := by decide +kernel
theorem dX2_allSo_53 : decode cX2_allSo 53 = .ok (.goto (-36), 3) := by decide +kernel
theorem dX2_allSo_56 : decode cX2_allSo 56 = .ok (.iload 4, 2) := by decide +kernel
theorem dX2_allSo_58 : decode cX2_allSo 58 = .ok (.aload_n 0, 1) := by decide +kernel
theorem dX2_allSo_59 : decode cX2_allSo 59 = .ok (.getfield 18, 3) := by decide +kernel
theorem dX2_allSo_62 : decode cX2_allSo 62 = .ok (.iload_n 3, 1) := by decide +kernel
theorem dX2_allSo_63 : decode cX2_allSo 63 = .ok (.iaload, 1) := by decide +kernel
theorem dX2_allSo_64 : decode cX2_allSo 64 = .ok (.if_icmp .eq 5, 3) := by decide +kernel
theorem dX2_allSo_67 : decode cX2_allSo 67 = .ok (.iconst 0, 1) := by decide +kernel
theorem dX2_allSo_68 : decode cX2_allSo 68 = .ok (.ireturn, 1) := by decide +kernel
theorem dX2_allSo_69 : decode cX2_allSo 69 = .ok (.iinc 3 1, 3) := by decide +kernel
theorem dX2_allSo_72 : decode cX2_allSo 72 = .ok (.goto (-70), 3) := by decide +kernel
theorem dX2_allSo_75 : decode cX2_allSo 75 = .ok (.iconst 1, 1) := by decide +kernel
theorem dX2_allSo_76 : decode cX2_allSo 76 = .ok (.ireturn, 1) := by decide +kernel
theorem dX2_bestHours_0 : decode cX2_bestHours 0 = .ok (.aload_n 0, 1) := by decide +kernel
theorem dX2_bestHours_1 : decode cX2_bestHours 1 = .ok (.aload_n 1, 1) := by decide +kernel
theorem dX2_bestHours_2 : decode cX2_bestHours 2 = .ok (.invokevirtual 54, 3) := by decide +kernel
theorem dX2_bestHours_5 : decode cX2_bestHours 5 = .ok (.istore_n 3, 1) := by decide +kernel
theorem dX2_bestHours_6 : decode cX2_bestHours 6 = .ok (.iload_n 3, 1) := by decide +kernel
theorem dX2_bestHours_7 : decode cX2_bestHours 7 = .ok (.invokestatic 58, 3) := by decide +kernel
theorem dX2_bestHours_10 : decode cX2_bestHours 10 = .ok (.istore 4, 2) := by decide +kernel
theorem dX2_bestHours_12 : decode cX2_bestHours 12 = .ok (.iconst (-1), 1) := by decide +kernel
theorem dX2_bestHours_13 : decode cX2_bestHours 13 = .ok (.istore 5, 2) := by decide +kernel
theorem dX2_bestHours_15 : decode cX2_bestHours 15 = .ok (.aload_n 0, 1) := by decide +kernel
theorem dX2_bestHours_16 : decode cX2_bestHours 16 = .ok (.getfield 21, 3) := by decide +kernel
theorem dX2_bestHours_19 : decode cX2_bestHours 19 = .ok (.bipush 9, 2) := by decide +kernel
theorem dX2_bestHours_21 : decode cX2_bestHours 21 = .ok (.invokestatic 63, 3) := by decide +kernel
theorem dX2_bestHours_24 : decode cX2_bestHours 24 = .ok (.iconst 0, 1) := by decide +kernel
theorem dX2_bestHours_25 : decode cX2_bestHours 25 = .ok (.istore 6, 2) := by decide +kernel
theorem dX2_bestHours_27 : decode cX2_bestHours 27 = .ok (.iload 6, 2) := by decide +kernel
theorem dX2_bestHours_29 : decode cX2_bestHours 29 = .ok (.bipush 12, 2) := by decide +kernel
theorem dX2_bestHours_31 : decode cX2_bestHours 31 = .ok (.if_icmp .gt 77, 3) := by decide +kernel
theorem dX2_bestHours_34 : decode cX2_bestHours 34 = .ok (.aload_n 0, 1) := by decide +kernel
theorem dX2_bestHours_35 : decode cX2_bestHours 35 = .ok (.iload_n 3, 1) := by decide +kernel
theorem dX2_bestHours_36 : decode cX2_bestHours 36 = .ok (.invokevirtual 69, 3) := by decide +kernel
theorem dX2_bestHours_39 : decode cX2_bestHours 39 = .ok (.istore 7, 2) := by decide +kernel
theorem dX2_bestHours_41 : decode cX2_bestHours 41 = .ok (.iload 7, 2) := by decide +kernel
theorem dX2_bestHours_43 : decode cX2_bestHours 43 = .ok (.iload 4, 2) := by decide +kernel
theorem dX2_bestHours_45 : decode cX2_bestHours 45 = .ok (.if_icmp .ge 11, 3) := by decide +kernel
theorem dX2_bestHours_48 : decode cX2_bestHours 48 = .ok (.iload 7, 2) := by decide +kernel
theorem dX2_bestHours_50 : decode cX2_bestHours 50 = .ok (.istore 4, 2) := by decide +kernel
theorem dX2_bestHours_52 : decode cX2_bestHours 52 = .ok (.iload 6, 2) := by decide +kernel
theorem dX2_bestHours_54 : decode cX2_bestHours 54 = .ok (.istore 5, 2) := by decide +kernel
theorem dX2_bestHours_56 : decode cX2_bestHours 56 = .ok (.iconst 0, 1) := by decide +kernel
theorem dX2_bestHours_57 : decode cX2_bestHours 57 = .ok (.istore 8, 2) := by decide +kernel
theorem dX2_bestHours_59 : decode cX2_bestHours 59 = .ok (.iload 8, 2) := by decide +kernel
theorem dX2_bestHours_61 : decode cX2_bestHours 61 = .ok (.aload_n 1, 1) := by decide +kernel
theorem dX2_bestHours_62 : decode cX2_bestHours 62 = .ok (.getfield 37, 3) := by decide +kernel
theorem dX2_bestHours_65 : decode cX2_bestHours 65 = .ok (.if_icmp .ge 37, 3) := by decide +kernel
theorem dX2_bestHours_68 : decode cX2_bestHours 68 = .ok (.aload_n 0, 1) := by decide +kernel
theorem dX2_bestHours_69 : decode cX2_bestHours 69 = .ok (.getfield 21, 3) := by decide +kernel
theorem dX2_bestHours_72 : decode cX2_bestHours 72 = .ok (.iload 8, 2) := by decide +kernel
theorem dX2_bestHours_74 : decode cX2_bestHours 74 = .ok (.aload_n 1, 1) := by decide +kernel
theorem dX2_bestHours_75 : decode cX2_bestHours 75 = .ok (.iload_n 2, 1) := by decide +kernel
theorem dX2_bestHours_76 : decode cX2_bestHours 76 = .ok (.aload_n 0, 1) := by decide +kernel
theorem dX2_bestHours_77 : decode cX2_bestHours 77 = .ok (.getfield 21, 3) := by decide +kernel
theorem dX2_bestHours_80 : decode cX2_bestHours 80 = .ok (.iload 8, 2) := by decide +kernel
theorem dX2_bestHours_82 : decode cX2_bestHours 82 = .ok (.iaload, 1) := by decide +kernel
theorem dX2_bestHours_83 : decode cX2_bestHours 83 = .ok (.aload_n 1, 1) := by decide +kernel
theorem dX2_bestHours_84 : decode cX2_bestHours 84 = .ok (.iload 8, 2) := by decide +kernel
theorem dX2_bestHours_86 : decode cX2_bestHours 86 = .ok (.iload 6, 2) := by decide +kernel
theorem dX2_bestHours_88 : decode cX2_bestHours 88 = .ok (.iadd, 1) := by decide +kernel
theorem dX2_bestHours_89 : decode cX2_bestHours 89 = .ok (.invokevirtual 46, 3) := by decide +kernel
theorem dX2_bestHours_92 : decode cX2_bestHours 92 = .ok (.invokevirtual 50, 3) := by decide +kernel
theorem dX2_bestHours_95 : decode cX2_bestHours 95 = .ok (.iastore, 1) := by decide +kernel
theorem dX2_bestHours_96 : decode cX2_bestHours 96 = .ok (.iinc 8 1, 3) := by decide +kernel
theorem dX2_bestHours_99 : decode cX2_bestHours 99 = .ok (.goto (-40), 3) := by decide +kernel
theorem dX2_bestHours_102 : decode cX2_bestHours 102 = .ok (.iinc 6 1, 3) := by decide +kernel
theorem dX2_bestHours_105 : decode cX2_bestHours 105 = .ok (.goto (-78), 3) := by decide +kernel
theorem dX2_bestHours_108 : decode cX2_bestHours 108 = .ok (.iload 5, 2) := by decide +kernel
theorem dX2_bestHours_110 : decode cX2_bestHours 110 = .ok (.ireturn, 1) := by decide +kernel
theorem dX2_mostAlike_0 : decode cX2_mostAlike 0 = .ok (.aload_n 0, 1) := by decide +kernel
theorem dX2_mostAlike_1 : decode cX2_mostAlike 1 = .ok (.getfield 24, 3) := by decide +kernel
theorem dX2_mostAlike_4 : decode cX2_mostAlike 4 = .ok (.iconst 0, 1) := by decide +kernel
theorem dX2_mostAlike_5 : decode cX2_mostAlike 5 = .ok (.invokestatic 63, 3) := by decide +kernel
theorem dX2_mostAlike_8 : decode cX2_mostAlike 8 = .ok (.iconst 0, 1) := by decide +kernel
theorem dX2_mostAlike_9 : decode cX2_mostAlike 9 = .ok (.istore_n 2, 1) := by decide +kernel
theorem dX2_mostAlike_10 : decode cX2_mostAlike 10 = .ok (.iconst 0, 1) := by decide +kernel
theorem dX2_mostAlike_11 : decode cX2_mostAlike 11 = .ok (.istore_n 3, 1) := by decide +kernel
theorem dX2_mostAlike_12 : decode cX2_mostAlike 12 = .ok (.iload_n 3, 1) := by decide +kernel
theorem dX2_mostAlike_13 : decode cX2_mostAlike 13 = .ok (.bipush 12, 2) := by decide +kernel
theorem dX2_mostAlike_15 : decode cX2_mostAlike 15 = .ok (.if_icmp .ge 60, 3) := by decide +kernel
theorem dX2_mostAlike_18 : decode cX2_mostAlike 18 = .ok (.aload_n 0, 1) := by decide +kernel
theorem dX2_mostAlike_19 : decode cX2_mostAlike 19 = .ok (.getfield 21, 3) := by decide +kernel
theorem dX2_mostAlike_22 : decode cX2_mostAlike 22 = .ok (.iload_n 3, 1) := by decide +kernel
theorem dX2_mostAlike_23 : decode cX2_mostAlike 23 = .ok (.iaload, 1) := by decide +kernel
theorem dX2_mostAlike_24 : decode cX2_mostAlike 24 = .ok (.istore 4, 2) := by decide +kernel
theorem dX2_mostAlike_26 : decode cX2_mostAlike 26 = .ok (.iload_n 1, 1) := by decide +kernel
theorem dX2_mostAlike_27 : decode cX2_mostAlike 27 = .ok (.iload_n 3, 1) := by decide +kernel
theorem dX2_mostAlike_28 : decode cX2_mostAlike 28 = .ok (.ishr, 1) := by decide +kernel
theorem dX2_mostAlike_29 : decode cX2_mostAlike 29 = .ok (.iconst 1, 1) := by decide +kernel
theorem dX2_mostAlike_30 : decode cX2_mostAlike 30 = .ok (.iand, 1) := by decide +kernel
theorem dX2_mostAlike_31 : decode cX2_mostAlike 31 = .ok (.ifCond .eq 38, 3) := by decide +kernel
theorem dX2_mostAlike_34 : decode cX2_mostAlike 34 = .ok (.iload 4, 2) := by decide +kernel
theorem dX2_mostAlike_36 : decode cX2_mostAlike 36 = .ok (.ifCond .lt 33, 3) := by decide +kernel
theorem dX2_mostAlike_39 : decode cX2_mostAlike 39 = .ok (.iload 4, 2) := by decide +kernel
theorem dX2_mostAlike_41 : decode cX2_mostAlike 41 = .ok (.bipush 10, 2) := by decide +kernel
theorem dX2_mostAlike_43 : decode cX2_mostAlike 43 = .ok (.if_icmp .ge 26, 3) := by decide +kernel
theorem dX2_mostAlike_46 : decode cX2_mostAlike 46 = .ok (.aload_n 0, 1) := by decide +kernel
theorem dX2_mostAlike_47 : decode cX2_mostAlike 47 = .ok (.getfield 24, 3) := by decide +kernel
theorem dX2_mostAlike_50 : decode cX2_mostAlike 50 = .ok (.iload 4, 2) := by decide +kernel
theorem dX2_mostAlike_52 : decode cX2_mostAlike 52 = .ok (.dup2, 1) := by decide +kernel
theorem dX2_mostAlike_53 : decode cX2_mostAlike 53 = .ok (.iaload, 1) := by decide +kernel
theorem dX2_mostAlike_54 : decode cX2_mostAlike 54 = .ok (.iconst 1, 1) := by decide +kernel
theorem dX2_mostAlike_55 : decode cX2_mostAlike 55 = .ok (.iadd, 1) := by decide +kernel
theorem dX2_mostAlike_56 : decode cX2_mostAlike 56 = .ok (.iastore, 1) := by decide +kernel
theorem dX2_mostAlike_57 : decode cX2_mostAlike 57 = .ok (.iload_n 2, 1) := by decide +kernel
theorem dX2_mostAlike_58 : decode cX2_mostAlike 58 = .ok (.aload_n 0, 1) := by decide +kernel
theorem dX2_mostAlike_59 : decode cX2_mostAlike 59 = .ok (.getfield 24, 3) := by decide +kernel
theorem dX2_mostAlike_62 : decode cX2_mostAlike 62 = .ok (.iload 4, 2) := by decide +kernel
theorem dX2_mostAlike_64 : decode cX2_mostAlike 64 = .ok (.iaload, 1) := by decide +kernel
theorem dX2_mostAlike_65 : decode cX2_mostAlike 65 = .ok (.invokestatic 72, 3) := by decide +kernel
theorem dX2_mostAlike_68 : decode cX2_mostAlike 68 = .ok (.istore_n 2, 1) := by decide +kernel
theorem dX2_mostAlike_69 : decode cX2_mostAlike 69 = .ok (.iinc 3 1, 3) := by decide +kernel
theorem dX2_mostAlike_72 : decode cX2_mostAlike 72 = .ok (.goto (-60), 3) := by decide +kernel
theorem dX2_mostAlike_75 : decode cX2_mostAlike 75 = .ok (.iload_n 2, 1) := by decide +kernel
theorem dX2_mostAlike_76 : decode cX2_mostAlike 76 = .ok (.ireturn, 1) := by decide +kernel
theorem dX3_init_0 : decode cX3_init 0 = .ok (.aload_n 0, 1) := by decide +kernel
theorem dX3_init_1 : decode cX3_init 1 = .ok (.invokespecial 3, 3) := by decide +kernel
theorem dX3_init_4 : decode cX3_init 4 = .ok (.aload_n 0, 1) := by decide +kernel
theorem dX3_init_5 : decode cX3_init 5 = .ok (.sipush 420, 3) := by decide +kernel
theorem dX3_init_8 : decode cX3_init 8 = .ok (.newarray .int, 2) := by decide +kernel
theorem dX3_init_10 : decode cX3_init 10 = .ok (.putfield 11, 3) := by decide +kernel
theorem dX3_init_13 : decode cX3_init 13 = .ok (.aload_n 0, 1) := by decide +kernel
theorem dX3_init_14 : decode cX3_init 14 = .ok (.bipush 6, 2) := by decide +kernel
theorem dX3_init_16 : decode cX3_init 16 = .ok (.newarray .int, 2) := by decide +kernel
theorem dX3_init_18 : decode cX3_init 18 = .ok (.putfield 15, 3) := by decide +kernel
theorem dX3_init_21 : decode cX3_init 21 = .ok (.aload_n 0, 1) := by decide +kernel
theorem dX3_init_22 : decode cX3_init 22 = .ok (.bipush 64, 2) := by decide +kernel
theorem dX3_init_24 : decode cX3_init 24 = .ok (.newarray .int, 2) := by decide +kernel
theorem dX3_init_26 : decode cX3_init 26 = .ok (.putfield 18, 3) := by decide +kernel
theorem dX3_init_29 : decode cX3_init 29 = .ok (.aload_n 0, 1) := by decide +kernel
theorem dX3_init_30 : decode cX3_init 30 = .ok (.bipush 64, 2) := by decide +kernel
theorem dX3_init_32 : decode cX3_init 32 = .ok (.newarray .int, 2) := by decide +kernel
theorem dX3_init_34 : decode cX3_init 34 = .ok (.putfield 21, 3) := by decide +kernel
theorem dX3_init_37 : decode cX3_init 37 = .ok (.aload_n 0, 1) := by decide +kernel
theorem dX3_init_38 : decode cX3_init 38 = .ok (.bipush 64, 2) := by decide +kernel
theorem dX3_init_40 : decode cX3_init 40 = .ok (.newarray .boolean, 2) := by decide +kernel
theorem dX3_init_42 : decode cX3_init 42 = .ok (.putfield 24, 3) := by decide +kernel
theorem dX3_init_45 : decode cX3_init 45 = .ok (.aload_n 0, 1) := by decide +kernel
theorem dX3_init_46 : decode cX3_init 46 = .ok (.sipush 256, 3) := by decide +kernel
theorem dX3_init_49 : decode cX3_init 49 = .ok (.newarray .long, 2) := by decide +kernel
theorem dX3_init_51 : decode cX3_init 51 = .ok (.putfield 28, 3) := by decide +kernel
theorem dX3_init_54 : decode cX3_init 54 = .ok (.aload_n 0, 1) := by decide +kernel
theorem dX3_init_55 : decode cX3_init 55 = .ok (.bipush 6, 2) := by decide +kernel
theorem dX3_init_57 : decode cX3_init 57 = .ok (.newarray .int, 2) := by decide +kernel
theorem dX3_init_59 : decode cX3_init 59 = .ok (.putfield 32, 3) := by decide +kernel
theorem dX3_init_62 : decode cX3_init 62 = .ok (.return_, 1) := by decide +kernel
theorem dX3_plan_0 : decode cX3_plan 0 = .ok (.aload_n 0, 1) := by decide +kernel
theorem dX3_plan_1 : decode cX3_plan 1 = .ok (.iconst 1, 1) := by decide +kernel
theorem dX3_plan_2 : decode cX3_plan 2 = .ok (.aload_n 1, 1) := by decide +kernel
theorem dX3_plan_3 : decode cX3_plan 3 = .ok (.getfield 35, 3) := by decide +kernel
theorem dX3_plan_6 : decode cX3_plan 6 = .ok (.ishl, 1) := by decide +kernel
theorem dX3_plan_7 : decode cX3_plan 7 = .ok (.putfield 41, 3) := by decide +kernel
theorem dX3_plan_10 : decode cX3_plan 10 = .ok (.aload_n 0, 1) := by decide +kernel
theorem dX3_plan_11 : decode cX3_plan 11 = .ok (.iconst 1, 1) := by decide +kernel
theorem dX3_plan_12 : decode cX3_plan 12 = .ok (.aload_n 2, 1) := by decide +kernel
theorem dX3_plan_13 : decode cX3_plan 13 = .ok (.getfield 44, 3) := by decide +kernel
theorem dX3_plan_16 : decode cX3_plan 16 = .ok (.ishl, 1) := by decide +kernel
theorem dX3_plan_17 : decode cX3_plan 17 = .ok (.putfield 49, 3) := by decide +kernel
theorem dX3_plan_20 : decode cX3_plan 20 = .ok (.iconst 0, 1) := by decide +kernel
theorem dX3_plan_21 : decode cX3_plan 21 = .ok (.istore 4, 2) := by decide +kernel
theorem dX3_plan_23 : decode cX3_plan 23 = .ok (.iload 4, 2) := by decide +kernel
theorem dX3_plan_25 : decode cX3_plan 25 = .ok (.aload_n 1, 1) := by decide +kernel
theorem dX3_plan_26 : decode cX3_plan 26 = .ok (.getfield 35, 3) := by decide +kernel
theorem dX3_plan_29 : decode cX3_plan 29 = .ok (.if_icmp .ge 18, 3) := by decide +kernel
theorem dX3_plan_32 : decode cX3_plan 32 = .ok (.aload_n 0, 1) := by decide +kernel
theorem dX3_plan_33 : decode cX3_plan 33 = .ok (.aload_n 1, 1) := by decide +kernel
theorem dX3_plan_34 : decode cX3_plan 34 = .ok (.aload_n 2, 1) := by decide +kernel
theorem dX3_plan_35 : decode cX3_plan 35 = .ok (.iload 4, 2) := by decide +kernel
theorem dX3_plan_37 : decode cX3_plan 37 = .ok (.iload_n 3, 1) := by decide +kernel
theorem dX3_plan_38 : decode cX3_plan 38 = .ok (.invokevirtual 52, 3) := by decide +kernel
theorem dX3_plan_41 : decode cX3_plan 41 = .ok (.iinc 4 1, 3) := by decide +kernel
theorem dX3_plan_44 : decode cX3_plan 44 = .ok (.goto (-21), 3) := by decide +kernel
theorem dX3_plan_47 : decode cX3_plan 47 = .ok (.aload_n 0, 1) := by decide +kernel
theorem dX3_plan_48 : decode cX3_plan 48 = .ok (.getfield 28, 3) := by decide +kernel
theorem dX3_plan_51 : decode cX3_plan 51 = .ok (.lconst 0, 1) := by decide +kernel
theorem dX3_plan_52 : decode cX3_plan 52 = .ok (.invokestatic 56, 3) := by decide +kernel
theorem dX3_plan_55 : decode cX3_plan 55 = .ok (.aload_n 0, 1) := by decide +kernel
theorem dX3_plan_56 : decode cX3_plan 56 = .ok (.getfield 28, 3) := by decide +kernel
theorem dX3_plan_59 : decode cX3_plan 59 = .ok (.iconst 0, 1) := by decide +kernel
theorem dX3_plan_60 : decode cX3_plan 60 = .ok (.lconst 1, 1) := by decide +kernel
theorem dX3_plan_61 : decode cX3_plan 61 = .ok (.lastore, 1) := by decide +kernel
theorem dX3_plan_62 : decode cX3_plan 62 = .ok (.aload_n 0, 1) := by decide +kernel
theorem dX3_plan_63 : decode cX3_plan 63 = .ok (.getfield 24, 3) := by decide +kernel
theorem dX3_plan_66 : decode cX3_plan 66 = .ok (.iconst 0, 1) := by decide +kernel
theorem dX3_plan_67 : decode cX3_plan 67 = .ok (.iconst 1, 1) := by decide +kernel
theorem dX3_plan_68 : decode cX3_plan 68 = .ok (.bastore, 1) := by decide +kernel
theorem dX3_plan_69 : decode cX3_plan 69 = .ok (.aload_n 0, 1) := by decide +kernel
theorem dX3_plan_70 : decode cX3_plan 70 = .ok (.iconst 0, 1) := by decide +kernel
theorem dX3_plan_71 : decode cX3_plan 71 = .ok (.putfield 62, 3) := by decide +kernel
theorem dX3_plan_74 : decode cX3_plan 74 = .ok (.iconst 1, 1) := by decide +kernel
theorem dX3_plan_75 : decode cX3_plan 75 = .ok (.istore 4, 2) := by decide +kernel
theorem dX3_plan_77 : decode cX3_plan 77 = .ok (.iload 4, 2) := by decide +kernel
theorem dX3_plan_79 : decode cX3_plan 79 = .ok (.aload_n 0, 1) := by decide +kernel
theorem dX3_plan_80 : decode cX3_plan 80 = .ok (.getfield 41, 3) := by decide +kernel
theorem dX3_plan_83 : decode cX3_plan 83 = .ok (.if_icmp .ge 44, 3) := by decide +kernel
theorem dX3_plan_86 : decode cX3_plan 86 = .ok (.aload_n 0, 1) := by decide +kernel
theorem dX3_plan_87 : decode cX3_plan 87 = .ok (.aload_n 1, 1) := by decide +kernel
theorem dX3_plan_88 : decode cX3_plan 88 = .ok (.iload 4, 2) := by decide +kernel
theorem dX3_plan_90 : decode cX3_plan 90 = .ok (.invokevirtual 65, 3) := by decide +kernel
theorem dX3_plan_93 : decode cX3_plan 93 = .ok (.aload_n 0, 1) := by decide +kernel
theorem dX3_plan_94 : decode cX3_plan 94 = .ok (.getfield 24, 3) := by decide +kernel
theorem dX3_plan_97 : decode cX3_plan 97 = .ok (.iload 4, 2) := by decide +kernel
theorem dX3_plan_99 : decode cX3_plan 99 = .ok (.baload, 1) := by decide +kernel
theorem dX3_plan_100 : decode cX3_plan 100 = .ok (.ifCond .eq 21, 3) := by decide +kernel
theorem dX3_plan_103 : decode cX3_plan 103 = .ok (.aload_n 0, 1) := by decide +kernel
theorem dX3_plan_104 : decode cX3_plan 104 = .ok (.aload_n 0, 1) := by decide +kernel
theorem dX3_plan_105 : decode cX3_plan 105 = .ok (.getfield 62, 3) := by decide +kernel
theorem dX3_plan_108 : decode cX3_plan 108 = .ok (.aload_n 0, 1) := by decide +kernel
theorem dX3_plan_109 : decode cX3_plan 109 = .ok (.getfield 21, 3) := by decide +kernel
theorem dX3_plan_112 : decode cX3_plan 112 = .ok (.iload 4, 2) := by decide +kernel
theorem dX3_plan_114 : decode cX3_plan 114 = .ok (.iaload, 1) := by decide +kernel
theorem dX3_plan_115 : decode cX3_plan 115 = .ok (.invokestatic 69, 3) := by decide +kernel
theorem dX3_plan_118 : decode cX3_plan 118 = .ok (.putfield 62, 3) := by decide +kernel
theorem dX3_plan_121 : decode cX3_plan 121 = .ok (.iinc 4 1, 3) := by decide +kernel
theorem dX3_plan_124 : decode cX3_plan 124 = .ok (.goto (-47), 3) := by decide +kernel
theorem dX3_plan_127 : decode cX3_plan 127 = .ok (.aload_n 0, 1) := by decide +kernel
theorem dX3_plan_128 : decode cX3_plan 128 = .ok (.aload_n 1, 1) := by decide +kernel
theorem dX3_plan_129 : decode cX3_plan 129 = .ok (.invokevirtual 75, 3) := by decide +kernel
theorem dX3_plan_132 : decode cX3_plan 132 = .ok (.return_, 1) := by decide +kernel
theorem dX3_chooseFor_0 : decode cX3_chooseFor 0 = .ok (.aload_n 1, 1) := by decide +kernel
theorem dX3_chooseFor_1 : decode cX3_chooseFor 1 = .ok (.iload_n 3, 1) := by decide +kernel
theorem dX3_chooseFor_2 : decode cX3_chooseFor 2 = .ok (.invokevirtual 79, 3) := by decide +kernel
theorem dX3_chooseFor_5 : decode cX3_chooseFor 5 = .ok (.istore 5, 2) := by decide +kernel
theorem dX3_chooseFor_7 : decode cX3_chooseFor 7 = .ok (.aload_n 2, 1) := by decide +kernel
theorem dX3_chooseFor_8 : decode cX3_chooseFor 8 = .ok (.invokevirtual 83, 3) := by decide +kernel
theorem dX3_chooseFor_11 : decode cX3_chooseFor 11 = .ok (.iconst (-1), 1) := by decide +kernel
theorem dX3_chooseFor_12 : decode cX3_chooseFor 12 = .ok (.ixor, 1) := by decide +kernel
theorem dX3_chooseFor_13 : decode cX3_chooseFor 13 = .ok (.istore 6, 2) := by decide +kernel
theorem dX3_chooseFor_15 : decode cX3_chooseFor 15 = .ok (.aload_n 1, 1) := by decide +kernel
theorem dX3_chooseFor_16 : decode cX3_chooseFor 16 = .ok (.aload_n 2, 1) := by decide +kernel
theorem dX3_chooseFor_17 : decode cX3_chooseFor 17 = .ok (.iload_n 3, 1) := by decide +kernel
theorem dX3_chooseFor_18 : decode cX3_chooseFor 18 = .ok (.iload 4, 2) := by decide +kernel
theorem dX3_chooseFor_20 : decode cX3_chooseFor 20 = .ok (.invokestatic 87, 3) := by decide +kernel
theorem dX3_chooseFor_23 : decode cX3_chooseFor 23 = .ok (.istore 7, 2) := by decide +kernel
theorem dX3_chooseFor_25 : decode cX3_chooseFor 25 = .ok (.iconst 0, 1) := by decide +kernel
theorem dX3_chooseFor_26 : decode cX3_chooseFor 26 = .ok (.istore 8, 2) := by decide +kernel
theorem dX3_chooseFor_28 : decode cX3_chooseFor 28 = .ok (.aload_n 2, 1) := by decide +kernel
theorem dX3_chooseFor_29 : decode cX3_chooseFor 29 = .ok (.getfield 91, 3) := by decide +kernel
theorem dX3_chooseFor_32 : decode cX3_chooseFor 32 = .ok (.iload_n 3, 1) := by decide +kernel
theorem dX3_chooseFor_33 : decode cX3_chooseFor 33 = .ok (.iaload, 1) := by decide +kernel
theorem dX3_chooseFor_34 : decode cX3_chooseFor 34 = .ok (.iconst 3, 1) := by decide +kernel
theorem dX3_chooseFor_35 : decode cX3_chooseFor 35 = .ok (.if_icmp .ge 74, 3) := by decide +kernel
theorem dX3_chooseFor_38 : decode cX3_chooseFor 38 = .ok (.iconst 1, 1) := by decide +kernel
theorem dX3_chooseFor_39 : decode cX3_chooseFor 39 = .ok (.istore 9, 2) := by decide +kernel
theorem dX3_chooseFor_41 : decode cX3_chooseFor 41 = .ok (.iload 9, 2) := by decide +kernel
theorem dX3_chooseFor_43 : decode cX3_chooseFor 43 = .ok (.aload_n 0, 1) := by decide +kernel
theorem dX3_chooseFor_44 : decode cX3_chooseFor 44 = .ok (.getfield 49, 3) := by decide +kernel
theorem dX3_chooseFor_47 : decode cX3_chooseFor 47 = .ok (.if_icmp .ge 62, 3) := by decide +kernel
theorem dX3_chooseFor_50 : decode cX3_chooseFor 50 = .ok (.iload 9, 2) := by decide +kernel
theorem dX3_chooseFor_52 : decode cX3_chooseFor 52 = .ok (.invokestatic 94, 3) := by decide +kernel
theorem dX3_chooseFor_55 : decode cX3_chooseFor 55 = .ok (.iload 5, 2) := by decide +kernel
theorem dX3_chooseFor_57 : decode cX3_chooseFor 57 = .ok (.if_icmp .ne 46, 3) := by decide +kernel
theorem dX3_chooseFor_60 : decode cX3_chooseFor 60 = .ok (.iload 9, 2) := by decide +kernel
theorem dX3_chooseFor_62 : decode cX3_chooseFor 62 = .ok (.iload 6, 2) := by decide +kernel
theorem dX3_chooseFor_64 : decode cX3_chooseFor 64 = .ok (.iand, 1) := by decide +kernel
theorem dX3_chooseFor_65 : decode cX3_chooseFor 65 = .ok (.ifCond .ne 38, 3) := by decide +kernel
theorem dX3_chooseFor_68 : decode cX3_chooseFor 68 = .ok (.aload_n 2, 1) := by decide +kernel
theorem dX3_chooseFor_69 : decode cX3_chooseFor 69 = .ok (.iload 9, 2) := by decide +kernel
theorem dX3_chooseFor_71 : decode cX3_chooseFor 71 = .ok (.invokevirtual 99, 3) := by decide +kernel
theorem dX3_chooseFor_74 : decode cX3_chooseFor 74 = .ok (.iload 7, 2) := by decide +kernel
theorem dX3_chooseFor_76 : decode cX3_chooseFor 76 = .ok (.if_icmp .lt 27, 3) := by decide +kernel
theorem dX3_chooseFor_79 : decode cX3_chooseFor 79 = .ok (.iload 8, 2) := by decide +kernel
theorem dX3_chooseFor_81 : decode cX3_chooseFor 81 = .ok (.bipush 70, 2) := by decide +kernel
theorem dX3_chooseFor_83 : decode cX3_chooseFor 83 = .ok (.if_icmp .ge 20, 3) := by decide +kernel
theorem dX3_chooseFor_86 : decode cX3_chooseFor 86 = .ok (.aload_n 0, 1) := by decide +kernel
theorem dX3_chooseFor_87 : decode cX3_chooseFor 87 = .ok (.getfield 11, 3) := by decide +kernel
theorem dX3_chooseFor_90 : decode cX3_chooseFor 90 = .ok (.iload_n 3, 1) := by decide +kernel
theorem dX3_chooseFor_91 : decode cX3_chooseFor 91 = .ok (.bipush 70, 2) := by decide +kernel
theorem dX3_chooseFor_93 : decode cX3_chooseFor 93 = .ok (.imul, 1) := by decide +kernel
theorem dX3_chooseFor_94 : decode cX3_chooseFor 94 = .ok (.iload 8, 2) := by decide +kernel
theorem dX3_chooseFor_96 : decode cX3_chooseFor 96 = .ok (.iadd, 1) := by decide +kernel
theorem dX3_chooseFor_97 : decode cX3_chooseFor 97 = .ok (.iload 9, 2) := by decide +kernel
theorem dX3_chooseFor_99 : decode cX3_chooseFor 99 = .ok (.iastore, 1) := by decide +kernel
theorem dX3_chooseFor_100 : decode cX3_chooseFor 100 = .ok (.iinc 8 1, 3) := by decide +kernel
theorem dX3_chooseFor_103 : decode cX3_chooseFor 103 = .ok (.iinc 9 1, 3) := by decide +kernel
theorem dX3_chooseFor_106 : decode cX3_chooseFor 106 = .ok (.goto (-65), 3) := by decide +kernel
theorem dX3_chooseFor_109 : decode cX3_chooseFor 109 = .ok (.aload_n 0, 1) := by decide +kernel
theorem dX3_chooseFor_110 : decode cX3_chooseFor 110 = .ok (.getfield 15, 3) := by decide +kernel
theorem dX3_chooseFor_113 : decode cX3_chooseFor 113 = .ok (.iload_n 3, 1) := by decide +kernel
theorem dX3_chooseFor_114 : decode cX3_chooseFor 114 = .ok (.iload 8, 2) := by decide +kernel
theorem dX3_chooseFor_116 : decode cX3_chooseFor 116 = .ok (.iastore, 1) := by decide +kernel
theorem dX3_chooseFor_117 : decode cX3_chooseFor 117 = .ok (.return_, 1) := by decide +kernel
theorem dX3_mostPull_0 : decode cX3_mostPull 0 = .ok (.aload_n 1, 1) := by decide +kernel
theorem dX3_mostPull_1 : decode cX3_mostPull 1 = .ok (.getfield 102, 3) := by decide +kernel
theorem dX3_mostPull_4 : decode cX3_mostPull 4 = .ok (.iload_n 2, 1) := by decide +kernel
theorem dX3_mostPull_5 : decode cX3_mostPull 5 = .ok (.iaload, 1) := by decide +kernel
theorem dX3_mostPull_6 : decode cX3_mostPull 6 = .ok (.istore 4, 2) := by decide +kernel
theorem dX3_mostPull_8 : decode cX3_mostPull 8 = .ok (.iconst 0, 1) := by decide +kernel
theorem dX3_mostPull_9 : decode cX3_mostPull 9 = .ok (.istore 5, 2) := by decide +kernel
theorem dX3_mostPull_11 : decode cX3_mostPull 11 = .ok (.iconst 0, 1) := by decide +kernel
theorem dX3_mostPull_12 : decode cX3_mostPull 12 = .ok (.istore 6, 2) := by decide +kernel
theorem dX3_mostPull_14 : decode cX3_mostPull 14 = .ok (.iload 6, 2) := by decide +kernel
theorem dX3_mostPull_16 : decode cX3_mostPull 16 = .ok (.iload_n 3, 1) := by decide +kernel
theorem dX3_mostPull_17 : decode cX3_mostPull 17 = .ok (.if_icmp .ge 49, 3) := by decide +kernel
theorem dX3_mostPull_20 : decode cX3_mostPull 20 = .ok (.aload_n 0, 1) := by decide +kernel
theorem dX3_mostPull_21 : decode cX3_mostPull 21 = .ok (.aload_n 1, 1) := by decide +kernel
theorem dX3_mostPull_22 : decode cX3_mostPull 22 = .ok (.getfield 105, 3) := by decide +kernel
theorem dX3_mostPull_25 : decode cX3_mostPull 25 = .ok (.iload 6, 2) := by decide +kernel
theorem dX3_mostPull_27 : decode cX3_mostPull 27 = .ok (.iadd, 1) := by decide +kernel
theorem dX3_mostPull_28 : decode cX3_mostPull 28 = .ok (.invokevirtual 108, 3) := by decide +kernel
theorem dX3_mostPull_31 : decode cX3_mostPull 31 = .ok (.istore 7, 2) := by decide +kernel
theorem dX3_mostPull_33 : decode cX3_mostPull 33 = .ok (.iload 5, 2) := by decide +kernel
theorem dX3_mostPull_35 : decode cX3_mostPull 35 = .ok (.aload_n 0, 1) := by decide +kernel
theorem dX3_mostPull_36 : decode cX3_mostPull 36 = .ok (.iload_n 2, 1) := by decide +kernel
theorem dX3_mostPull_37 : decode cX3_mostPull 37 = .ok (.iload 4, 2) := by decide +kernel
theorem dX3_mostPull_39 : decode cX3_mostPull 39 = .ok (.iload 7, 2) := by decide +kernel
theorem dX3_mostPull_41 : decode cX3_mostPull 41 = .ok (.invokevirtual 111, 3) := by decide +kernel
theorem dX3_mostPull_44 : decode cX3_mostPull 44 = .ok (.invokestatic 69, 3) := by decide +kernel
theorem dX3_mostPull_47 : decode cX3_mostPull 47 = .ok (.istore 5, 2) := by decide +kernel
theorem dX3_mostPull_49 : decode cX3_mostPull 49 = .ok (.aload_n 0, 1) := by decide +kernel
theorem dX3_mostPull_50 : decode cX3_mostPull 50 = .ok (.iload_n 2, 1) := by decide +kernel
theorem dX3_mostPull_51 : decode cX3_mostPull 51 = .ok (.iload 4, 2) := by decide +kernel
theorem dX3_mostPull_53 : decode cX3_mostPull 53 = .ok (.iload 7, 2) := by decide +kernel
theorem dX3_mostPull_55 : decode cX3_mostPull 55 = .ok (.invokevirtual 115, 3) := by decide +kernel
theorem dX3_mostPull_58 : decode cX3_mostPull 58 = .ok (.istore 4, 2) := by decide +kernel
theorem dX3_mostPull_60 : decode cX3_mostPull 60 = .ok (.iinc 6 1, 3) := by decide +kernel
theorem dX3_mostPull_63 : decode cX3_mostPull 63 = .ok (.goto (-49), 3) := by decide +kernel
theorem dX3_mostPull_66 : decode cX3_mostPull 66 = .ok (.iload 5, 2) := by decide +kernel
theorem dX3_mostPull_68 : decode cX3_mostPull 68 = .ok (.ireturn, 1) := by decide +kernel
theorem dX3_holdSet_0 : decode cX3_holdSet 0 = .ok (.bipush 31, 2) := by decide +kernel
theorem dX3_holdSet_2 : decode cX3_holdSet 2 = .ok (.iload_n 2, 1) := by decide +kernel
theorem dX3_holdSet_3 : decode cX3_holdSet 3 = .ok (.invokestatic 118, 3) := by decide +kernel
theorem dX3_holdSet_6 : decode cX3_holdSet 6 = .ok (.isub, 1) := by decide +kernel
theorem dX3_holdSet_7 : decode cX3_holdSet 7 = .ok (.istore_n 3, 1) := by decide +kernel
theorem dX3_holdSet_8 : decode cX3_holdSet 8 = .ok (.iload_n 2, 1) := by decide +kernel
theorem dX3_holdSet_9 : decode cX3_holdSet 9 = .ok (.iconst 1, 1) := by decide +kernel
theorem dX3_holdSet_10 : decode cX3_holdSet 10 = .ok (.iload_n 3, 1) := by decide +kernel
theorem dX3_holdSet_11 : decode cX3_holdSet 11 = .ok (.ishl, 1) := by decide +kernel
theorem dX3_holdSet_12 : decode cX3_holdSet 12 = .ok (.iconst (-1), 1) := by decide +kernel
theorem dX3_holdSet_13 : decode cX3_holdSet 13 = .ok (.ixor, 1) := by decide +kernel
theorem dX3_holdSet_14 : decode cX3_holdSet 14 = .ok (.iand, 1) := by decide +kernel
theorem dX3_holdSet_15 : decode cX3_holdSet 15 = .ok (.istore 4, 2) := by decide +kernel
theorem dX3_holdSet_17 : decode cX3_holdSet 17 = .ok (.aload_n 0, 1) := by decide +kernel
theorem dX3_holdSet_18 : decode cX3_holdSet 18 = .ok (.getfield 18, 3) := by decide +kernel
theorem dX3_holdSet_21 : decode cX3_holdSet 21 = .ok (.iload_n 2, 1) := by decide +kernel
theorem dX3_holdSet_22 : decode cX3_holdSet 22 = .ok (.aload_n 0, 1) := by decide +kernel
theorem dX3_holdSet_23 : decode cX3_holdSet 23 = .ok (.getfield 18, 3) := by decide +kernel
theorem dX3_holdSet_26 : decode cX3_holdSet 26 = .ok (.iload 4, 2) := by decide +kernel
theorem dX3_holdSet_28 : decode cX3_holdSet 28 = .ok (.iaload, 1) := by decide +kernel
theorem dX3_holdSet_29 : decode cX3_holdSet 29 = .ok (.aload_n 1, 1) := by decide +kernel
theorem dX3_holdSet_30 : decode cX3_holdSet 30 = .ok (.getfield 121, 3) := by decide +kernel
theorem dX3_holdSet_33 : decode cX3_holdSet 33 = .ok (.iload_n 3, 1) := by decide +kernel
theorem dX3_holdSet_34 : decode cX3_holdSet 34 = .ok (.iaload, 1) := by decide +kernel
theorem dX3_holdSet_35 : decode cX3_holdSet 35 = .ok (.iadd, 1) := by decide +kernel
theorem dX3_holdSet_36 : decode cX3_holdSet 36 = .ok (.iastore, 1) := by decide +kernel
theorem dX3_holdSet_37 : decode cX3_holdSet 37 = .ok (.aload_n 0, 1) := by decide +kernel
theorem dX3_holdSet_38 : decode cX3_holdSet 38 = .ok (.getfield 21, 3) := by decide +kernel
theorem dX3_holdSet_41 : decode cX3_holdSet 41 = .ok (.iload_n 2, 1) := by decide +kernel
theorem dX3_holdSet_42 : decode cX3_holdSet 42 = .ok (.aload_n 0, 1) := by decide +kernel
theorem dX3_holdSet_43 : decode cX3_holdSet 43 = .ok (.getfield 21, 3) := by decide +kernel
theorem dX3_holdSet_46 : decode cX3_holdSet 46 = .ok (.iload 4, 2) := by decide +kernel
theorem dX3_holdSet_48 : decode cX3_holdSet 48 = .ok (.iaload, 1) := by decide +kernel
theorem dX3_holdSet_49 : decode cX3_holdSet 49 = .ok (.aload_n 1, 1) := by decide +kernel
theorem dX3_holdSet_50 : decode cX3_holdSet 50 = .ok (.getfield 122, 3) := by decide +kernel
theorem dX3_holdSet_53 : decode cX3_holdSet 53 = .ok (.iload_n 3, 1) := by decide +kernel
theorem dX3_holdSet_54 : decode cX3_holdSet 54 = .ok (.iaload, 1) := by decide +kernel
theorem dX3_holdSet_55 : decode cX3_holdSet 55 = .ok (.iadd, 1) := by decide +kernel
theorem dX3_holdSet_56 : decode cX3_holdSet 56 = .ok (.iastore, 1) := by decide +kernel
theorem dX3_holdSet_57 : decode cX3_holdSet 57 = .ok (.aload_n 0, 1) := by decide +kernel
theorem dX3_holdSet_58 : decode cX3_holdSet 58 = .ok (.getfield 24, 3) := by decide +kernel
theorem dX3_holdSet_61 : decode cX3_holdSet 61 = .ok (.iload_n 2, 1) := by decide +kernel
theorem dX3_holdSet_62 : decode cX3_holdSet 62 = .ok (.iconst 0, 1) := by decide +kernel
theorem dX3_holdSet_63 : decode cX3_holdSet 63 = .ok (.bastore, 1) := by decide +kernel
theorem dX3_holdSet_64 : decode cX3_holdSet 64 = .ok (.aload_n 0, 1) := by decide +kernel
theorem dX3_holdSet_65 : decode cX3_holdSet 65 = .ok (.getfield 24, 3) := by decide +kernel
theorem dX3_holdSet_68 : decode cX3_holdSet 68 = .ok (.iload 4, 2) := by decide +kernel
theorem dX3_holdSet_70 : decode cX3_holdSet 70 = .ok (.baload, 1) := by decide +kernel
theorem dX3_holdSet_71 : decode cX3_holdSet 71 = .ok (.ifCond .eq 25, 3) := by decide +kernel
theorem dX3_holdSet_74 : decode cX3_holdSet 74 = .ok (.aload_n 0, 1) := by decide +kernel
theorem dX3_holdSet_75 : decode cX3_holdSet 75 = .ok (.getfield 18, 3) := by decide +kernel
theorem dX3_holdSet_78 : decode cX3_holdSet 78 = .ok (.iload_n 2, 1) := by decide +kernel
theorem dX3_holdSet_79 : decode cX3_holdSet 79 = .ok (.iaload, 1) := by decide +kernel
theorem dX3_holdSet_80 : decode cX3_holdSet 80 = .ok (.aload_n 1, 1) := by decide +kernel
theorem dX3_holdSet_81 : decode cX3_holdSet 81 = .ok (.getfield 123, 3) := by decide +kernel
theorem dX3_holdSet_84 : decode cX3_holdSet 84 = .ok (.if_icmp .gt 12, 3) := by decide +kernel
theorem dX3_holdSet_87 : decode cX3_holdSet 87 = .ok (.aload_n 0, 1) := by decide +kernel
theorem dX3_holdSet_88 : decode cX3_holdSet 88 = .ok (.getfield 15, 3) := by decide +kernel
theorem dX3_holdSet_91 : decode cX3_holdSet 91 = .ok (.iload_n 3, 1) := by decide +kernel
theorem dX3_holdSet_92 : decode cX3_holdSet 92 = .ok (.iaload, 1) := by decide +kernel
theorem dX3_holdSet_93 : decode cX3_holdSet 93 = .ok (.ifCond .ne 4, 3) := by decide +kernel
theorem dX3_holdSet_96 : decode cX3_holdSet 96 = .ok (.return_, 1) := by decide +kernel
theorem dX3_holdSet_97 : decode cX3_holdSet 97 = .ok (.iconst 0, 1) := by decide +kernel
theorem dX3_holdSet_98 : decode cX3_holdSet 98 = .ok (.istore 5, 2) := by decide +kernel
theorem dX3_holdSet_100 : decode cX3_holdSet 100 = .ok (.iload 5, 2) := by decide +kernel
theorem dX3_holdSet_102 : decode cX3_holdSet 102 = .ok (.aload_n 0, 1) := by decide +kernel
theorem dX3_holdSet_103 : decode cX3_holdSet 103 = .ok (.getfield 49, 3) := by decide +kernel
theorem dX3_holdSet_106 : decode cX3_holdSet 106 = .ok (.if_icmp .ge 28, 3) := by decide +kernel
theorem dX3_holdSet_109 : decode cX3_holdSet 109 = .ok (.aload_n 0, 1) := by decide +kernel
theorem dX3_holdSet_110 : decode cX3_holdSet 110 = .ok (.iload 4, 2) := by decide +kernel
theorem dX3_holdSet_112 : decode cX3_holdSet 112 = .ok (.iload 5, 2) := by decide +kernel
theorem dX3_holdSet_114 : decode cX3_holdSet 114 = .ok (.invokevirtual 126, 3) := by decide +kernel
theorem dX3_holdSet_117 : decode cX3_holdSet 117 = .ok (.ifCond .eq 11, 3) := by decide +kernel
theorem dX3_holdSet_120 : decode cX3_holdSet 120 = .ok (.aload_n 0, 1) := by decide +kernel
theorem dX3_holdSet_121 : decode cX3_holdSet 121 = .ok (.iload_n 2, 1) := by decide +kernel
theorem dX3_holdSet_122 : decode cX3_holdSet 122 = .ok (.iload_n 3, 1) := by decide +kernel
theorem dX3_holdSet_123 : decode cX3_holdSet 123 = .ok (.iload 5, 2) := by decide +kernel
theorem dX3_holdSet_125 : decode cX3_holdSet 125 = .ok (.invokevirtual 130, 3) := by decide +kernel
theorem dX3_holdSet_128 : decode cX3_holdSet 128 = .ok (.iinc 5 1, 3) := by decide +kernel
theorem dX3_holdSet_131 : decode cX3_holdSet 131 = .ok (.goto (-31), 3) := by decide +kernel
theorem dX3_holdSet_134 : decode cX3_holdSet 134 = .ok (.return_, 1) := by decide +kernel
theorem dX3_holdMore_0 : decode cX3_holdMore 0 = .ok (.iload_n 2, 1) := by decide +kernel
theorem dX3_holdMore_1 : decode cX3_holdMore 1 = .ok (.bipush 70, 2) := by decide +kernel
theorem dX3_holdMore_3 : decode cX3_holdMore 3 = .ok (.imul, 1) := by decide +kernel
theorem dX3_holdMore_4 : decode cX3_holdMore 4 = .ok (.istore 4, 2) := by decide +kernel
theorem dX3_holdMore_6 : decode cX3_holdMore 6 = .ok (.iload 4, 2) := by decide +kernel
theorem dX3_holdMore_8 : decode cX3_holdMore 8 = .ok (.istore 5, 2) := by decide +kernel
theorem dX3_holdMore_10 : decode cX3_holdMore 10 = .ok (.iload 5, 2) := by decide +kernel
theorem dX3_holdMore_12 : decode cX3_holdMore 12 = .ok (.iload 4, 2) := by decide +kernel
theorem dX3_holdMore_14 : decode cX3_holdMore 14 = .ok (.aload_n 0, 1) := by decide +kernel
theorem dX3_holdMore_15 : decode cX3_holdMore 15 = .ok (.getfield 15, 3) := by decide +kernel
theorem dX3_holdMore_18 : decode cX3_holdMore 18 = .ok (.iload_n 2, 1) := by decide +kernel
theorem dX3_holdMore_19 : decode cX3_holdMore 19 = .ok (.iaload, 1) := by decide +kernel
theorem dX3_holdMore_20 : decode cX3_holdMore 20 = .ok (.iadd, 1) := by decide +kernel
theorem dX3_holdMore_21 : decode cX3_holdMore 21 = .ok (.if_icmp .ge 63, 3) := by decide +kernel
theorem dX3_holdMore_24 : decode cX3_holdMore 24 = .ok (.aload_n 0, 1) := by decide +kernel
theorem dX3_holdMore_25 : decode cX3_holdMore 25 = .ok (.getfield 11, 3) := by decide +kernel
theorem dX3_holdMore_28 : decode cX3_holdMore 28 = .ok (.iload 5, 2) := by decide +kernel
theorem dX3_holdMore_30 : decode cX3_holdMore 30 = .ok (.iaload, 1) := by decide +kernel
theorem dX3_holdMore_31 : decode cX3_holdMore 31 = .ok (.iload_n 3, 1) := by decide +kernel
theorem dX3_holdMore_32 : decode cX3_holdMore 32 = .ok (.iand, 1) := by decide +kernel
theorem dX3_holdMore_33 : decode cX3_holdMore 33 = .ok (.ifCond .ne 45, 3) := by decide +kernel
theorem dX3_holdMore_36 : decode cX3_holdMore 36 = .ok (.aload_n 0, 1) := by decide +kernel
theorem dX3_holdMore_37 : decode cX3_holdMore 37 = .ok (.getfield 11, 3) := by decide +kernel
theorem dX3_holdMore_40 : decode cX3_holdMore 40 = .ok (.iload 5, 2) := by decide +kernel
theorem dX3_holdMore_42 : decode cX3_holdMore 42 = .ok (.iaload, 1) := by decide +kernel
theorem dX3_holdMore_43 : decode cX3_holdMore 43 = .ok (.iload_n 3, 1) := by decide +kernel
theorem dX3_holdMore_44 : decode cX3_holdMore 44 = .ok (.ior, 1) := by decide +kernel
theorem dX3_holdMore_45 : decode cX3_holdMore 45 = .ok (.istore 6, 2) := by decide +kernel
theorem dX3_holdMore_47 : decode cX3_holdMore 47 = .ok (.aload_n 0, 1) := by decide +kernel
theorem dX3_holdMore_48 : decode cX3_holdMore 48 = .ok (.getfield 28, 3) := by decide +kernel
theorem dX3_holdMore_51 : decode cX3_holdMore 51 = .ok (.iload_n 1, 1) := by decide +kernel
theorem dX3_holdMore_52 : decode cX3_holdMore 52 = .ok (.iconst 4, 1) := by decide +kernel
theorem dX3_holdMore_53 : decode cX3_holdMore 53 = .ok (.imul, 1) := by decide +kernel
theorem dX3_holdMore_54 : decode cX3_holdMore 54 = .ok (.iload 6, 2) := by decide +kernel
theorem dX3_holdMore_56 : decode cX3_holdMore 56 = .ok (.bipush 6, 2) := by decide +kernel
theorem dX3_holdMore_58 : decode cX3_holdMore 58 = .ok (.ishr, 1) := by decide +kernel
theorem dX3_holdMore_59 : decode cX3_holdMore 59 = .ok (.iadd, 1) := by decide +kernel
theorem dX3_holdMore_60 : decode cX3_holdMore 60 = .ok (.dup2, 1) := by decide +kernel
theorem dX3_holdMore_61 : decode cX3_holdMore 61 = .ok (.laload, 1) := by decide +kernel
theorem dX3_holdMore_62 : decode cX3_holdMore 62 = .ok (.lconst 1, 1) := by decide +kernel
theorem dX3_holdMore_63 : decode cX3_holdMore 63 = .ok (.iload 6, 2) := by decide +kernel
theorem dX3_holdMore_65 : decode cX3_holdMore 65 = .ok (.bipush 63, 2) := by decide +kernel
theorem dX3_holdMore_67 : decode cX3_holdMore 67 = .ok (.iand, 1) := by decide +kernel
theorem dX3_holdMore_68 : decode cX3_holdMore 68 = .ok (.lshl, 1) := by decide +kernel
theorem dX3_holdMore_69 : decode cX3_holdMore 69 = .ok (.lor, 1) := by decide +kernel
theorem dX3_holdMore_70 : decode cX3_holdMore 70 = .ok (.lastore, 1) := by decide +kernel
theorem dX3_holdMore_71 : decode cX3_holdMore 71 = .ok (.aload_n 0, 1) := by decide +kernel
theorem dX3_holdMore_72 : decode cX3_holdMore 72 = .ok (.getfield 24, 3) := by decide +kernel
theorem dX3_holdMore_75 : decode cX3_holdMore 75 = .ok (.iload_n 1, 1) := by decide +kernel
theorem dX3_holdMore_76 : decode cX3_holdMore 76 = .ok (.iconst 1, 1) := by decide +kernel
theorem dX3_holdMore_77 : decode cX3_holdMore 77 = .ok (.bastore, 1) := by decide +kernel
theorem dX3_holdMore_78 : decode cX3_holdMore 78 = .ok (.iinc 5 1, 3) := by decide +kernel
theorem dX3_holdMore_81 : decode cX3_holdMore 81 = .ok (.goto (-71), 3) := by decide +kernel
theorem dX3_holdMore_84 : decode cX3_holdMore 84 = .ok (.return_, 1) := by decide +kernel
theorem dX3_holdsBy_0 : decode cX3_holdsBy 0 = .ok (.aload_n 0, 1) := by decide +kernel
theorem dX3_holdsBy_1 : decode cX3_holdsBy 1 = .ok (.getfield 28, 3) := by decide +kernel
theorem dX3_holdsBy_4 : decode cX3_holdsBy 4 = .ok (.iload_n 1, 1) := by decide +kernel
theorem dX3_holdsBy_5 : decode cX3_holdsBy 5 = .ok (.iconst 4, 1) := by decide +kernel
theorem dX3_holdsBy_6 : decode cX3_holdsBy 6 = .ok (.imul, 1) := by decide +kernel
theorem dX3_holdsBy_7 : decode cX3_holdsBy 7 = .ok (.iload_n 2, 1) := by decide +kernel
theorem dX3_holdsBy_8 : decode cX3_holdsBy 8 = .ok (.bipush 6, 2) := by decide +kernel
theorem dX3_holdsBy_10 : decode cX3_holdsBy 10 = .ok (.ishr, 1) := by decide +kernel
theorem dX3_holdsBy_11 : decode cX3_holdsBy 11 = .ok (.iadd, 1) := by decide +kernel
theorem dX3_holdsBy_12 : decode cX3_holdsBy 12 = .ok (.laload, 1) := by decide +kernel
theorem dX3_holdsBy_13 : decode cX3_holdsBy 13 = .ok (.iload_n 2, 1) := by decide +kernel
theorem dX3_holdsBy_14 : decode cX3_holdsBy 14 = .ok (.bipush 63, 2) := by decide +kernel
theorem dX3_holdsBy_16 : decode cX3_holdsBy 16 = .ok (.iand, 1) := by decide +kernel
theorem dX3_holdsBy_17 : decode cX3_holdsBy 17 = .ok (.lushr, 1) := by decide +kernel
theorem dX3_holdsBy_18 : decode cX3_holdsBy 18 = .ok (.lconst 1, 1) := by decide +kernel
theorem dX3_holdsBy_19 : decode cX3_holdsBy 19 = .ok (.land, 1) := by decide +kernel
theorem dX3_holdsBy_20 : decode cX3_holdsBy 20 = .ok (.lconst 0, 1) := by decide +kernel
theorem dX3_holdsBy_21 : decode cX3_holdsBy 21 = .ok (.lcmp, 1) := by decide +kernel
theorem dX3_holdsBy_22 : decode cX3_holdsBy 22 = .ok (.ifCond .eq 7, 3) := by decide +kernel
theorem dX3_holdsBy_25 : decode cX3_holdsBy 25 = .ok (.iconst 1, 1) := by decide +kernel
theorem dX3_holdsBy_26 : decode cX3_holdsBy 26 = .ok (.goto 4, 3) := by decide +kernel
theorem dX3_holdsBy_29 : decode cX3_holdsBy 29 = .ok (.iconst 0, 1) := by decide +kernel
theorem dX3_holdsBy_30 : decode cX3_holdsBy 30 = .ok (.ireturn, 1) := by decide +kernel
theorem dX3_layRow_0 : decode cX3_layRow 0 = .ok (.iconst 0, 1) := by decide +kernel
theorem dX3_layRow_1 : decode cX3_layRow 1 = .ok (.istore_n 2, 1) := by decide +kernel
theorem dX3_layRow_2 : decode cX3_layRow 2 = .ok (.iconst 0, 1) := by decide +kernel
theorem dX3_layRow_3 : decode cX3_layRow 3 = .ok (.istore_n 3, 1) := by decide +kernel
theorem dX3_layRow_4 : decode cX3_layRow 4 = .ok (.iconst 0, 1) := by decide +kernel
theorem dX3_layRow_5 : decode cX3_layRow 5 = .ok (.istore 4, 2) := by decide +kernel
theorem dX3_layRow_7 : decode cX3_layRow 7 = .ok (.iload 4, 2) := by decide +kernel
theorem dX3_layRow_9 : decode cX3_layRow 9 = .ok (.aload_n 1, 1) := by decide +kernel
theorem dX3_layRow_10 : decode cX3_layRow 10 = .ok (.getfield 35, 3) := by decide +kernel
theorem dX3_layRow_13 : decode cX3_layRow 13 = .ok (.if_icmp .ge 51, 3) := by decide +kernel
theorem dX3_layRow_16 : decode cX3_layRow 16 = .ok (.iload_n 2, 1) := by decide +kernel
theorem dX3_layRow_17 : decode cX3_layRow 17 = .ok (.iconst 1, 1) := by decide +kernel
theorem dX3_layRow_18 : decode cX3_layRow 18 = .ok (.iload 4, 2) := by decide +kernel
theorem dX3_layRow_20 : decode cX3_layRow 20 = .ok (.ishl, 1) := by decide +kernel
theorem dX3_layRow_21 : decode cX3_layRow 21 = .ok (.ior, 1) := by decide +kernel
theorem dX3_layRow_22 : decode cX3_layRow 22 = .ok (.istore 5, 2) := by decide +kernel
theorem dX3_layRow_24 : decode cX3_layRow 24 = .ok (.aload_n 0, 1) := by decide +kernel
theorem dX3_layRow_25 : decode cX3_layRow 25 = .ok (.aload_n 1, 1) := by decide +kernel
theorem dX3_layRow_26 : decode cX3_layRow 26 = .ok (.iload 5, 2) := by decide +kernel
theorem dX3_layRow_28 : decode cX3_layRow 28 = .ok (.iload 4, 2) := by decide +kernel
theorem dX3_layRow_30 : decode cX3_layRow 30 = .ok (.iload_n 3, 1) := by decide +kernel
theorem dX3_layRow_31 : decode cX3_layRow 31 = .ok (.invokevirtual 134, 3) := by decide +kernel
theorem dX3_layRow_34 : decode cX3_layRow 34 = .ok (.istore 6, 2) := by decide +kernel
theorem dX3_layRow_36 : decode cX3_layRow 36 = .ok (.aload_n 0, 1) := by decide +kernel
theorem dX3_layRow_37 : decode cX3_layRow 37 = .ok (.getfield 32, 3) := by decide +kernel
theorem dX3_layRow_40 : decode cX3_layRow 40 = .ok (.iload 4, 2) := by decide +kernel
theorem dX3_layRow_42 : decode cX3_layRow 42 = .ok (.iload 6, 2) := by decide +kernel
theorem dX3_layRow_44 : decode cX3_layRow 44 = .ok (.iastore, 1) := by decide +kernel
theorem dX3_layRow_45 : decode cX3_layRow 45 = .ok (.iload 6, 2) := by decide +kernel
theorem dX3_layRow_47 : decode cX3_layRow 47 = .ok (.ifCond .eq 11, 3) := by decide +kernel
theorem dX3_layRow_50 : decode cX3_layRow 50 = .ok (.iload 5, 2) := by decide +kernel
theorem dX3_layRow_52 : decode cX3_layRow 52 = .ok (.istore_n 2, 1) := by decide +kernel
theorem dX3_layRow_53 : decode cX3_layRow 53 = .ok (.iload_n 3, 1) := by decide +kernel
theorem dX3_layRow_54 : decode cX3_layRow 54 = .ok (.iload 6, 2) := by decide +kernel
theorem dX3_layRow_56 : decode cX3_layRow 56 = .ok (.ior, 1) := by decide +kernel
theorem dX3_layRow_57 : decode cX3_layRow 57 = .ok (.istore_n 3, 1) := by decide +kernel
theorem dX3_layRow_58 : decode cX3_layRow 58 = .ok (.iinc 4 1, 3) := by decide +kernel
theorem dX3_layRow_61 : decode cX3_layRow 61 = .ok (.goto (-54), 3) := by decide +kernel
theorem dX3_layRow_64 : decode cX3_layRow 64 = .ok (.return_, 1) := by decide +kernel
theorem dX3_firstChoice_0 : decode cX3_firstChoice 0 = .ok (.iload_n 3, 1) := by decide +kernel
theorem dX3_firstChoice_1 : decode cX3_firstChoice 1 = .ok (.bipush 70, 2) := by decide +kernel
theorem dX3_firstChoice_3 : decode cX3_firstChoice 3 = .ok (.imul, 1) := by decide +kernel
theorem dX3_firstChoice_4 : decode cX3_firstChoice 4 = .ok (.istore 5, 2) := by decide +kernel
theorem dX3_firstChoice_6 : decode cX3_firstChoice 6 = .ok (.iload 5, 2) := by decide +kernel
theorem dX3_firstChoice_8 : decode cX3_firstChoice 8 = .ok (.istore 6, 2) := by decide +kernel
theorem dX3_firstChoice_10 : decode cX3_firstChoice 10 = .ok (.iload 6, 2) := by decide +kernel
theorem dX3_firstChoice_12 : decode cX3_firstChoice 12 = .ok (.iload 5, 2) := by decide +kernel
theorem dX3_firstChoice_14 : decode cX3_firstChoice 14 = .ok (.aload_n 0, 1) := by decide +kernel
theorem dX3_firstChoice_15 : decode cX3_firstChoice 15 = .ok (.getfield 15, 3) := by decide +kernel
theorem dX3_firstChoice_18 : decode cX3_firstChoice 18 = .ok (.iload_n 3, 1) := by decide +kernel
theorem dX3_firstChoice_19 : decode cX3_firstChoice 19 = .ok (.iaload, 1) := by decide +kernel
theorem dX3_firstChoice_20 : decode cX3_firstChoice 20 = .ok (.iadd, 1) := by decide +kernel
theorem dX3_firstChoice_21 : decode cX3_firstChoice 21 = .ok (.if_icmp .ge 52, 3) := by decide +kernel
theorem dX3_firstChoice_24 : decode cX3_firstChoice 24 = .ok (.aload_n 0, 1) := by decide +kernel
theorem dX3_firstChoice_25 : decode cX3_firstChoice 25 = .ok (.getfield 11, 3) := by decide +kernel
theorem dX3_firstChoice_28 : decode cX3_firstChoice 28 = .ok (.iload 6, 2) := by decide +kernel
theorem dX3_firstChoice_30 : decode cX3_firstChoice 30 = .ok (.iaload, 1) := by decide +kernel
theorem dX3_firstChoice_31 : decode cX3_firstChoice 31 = .ok (.iload 4, 2) := by decide +kernel
theorem dX3_firstChoice_33 : decode cX3_firstChoice 33 = .ok (.iand, 1) := by decide +kernel
theorem dX3_firstChoice_34 : decode cX3_firstChoice 34 = .ok (.ifCond .ne 33, 3) := by decide +kernel
theorem dX3_firstChoice_37 : decode cX3_firstChoice 37 = .ok (.aload_n 0, 1) := by decide +kernel
theorem dX3_firstChoice_38 : decode cX3_firstChoice 38 = .ok (.aload_n 1, 1) := by decide +kernel
theorem dX3_firstChoice_39 : decode cX3_firstChoice 39 = .ok (.iload_n 2, 1) := by decide +kernel
theorem dX3_firstChoice_40 : decode cX3_firstChoice 40 = .ok (.iload_n 3, 1) := by decide +kernel
theorem dX3_firstChoice_41 : decode cX3_firstChoice 41 = .ok (.iconst 1, 1) := by decide +kernel
theorem dX3_firstChoice_42 : decode cX3_firstChoice 42 = .ok (.iadd, 1) := by decide +kernel
theorem dX3_firstChoice_43 : decode cX3_firstChoice 43 = .ok (.iload 4, 2) := by decide +kernel
theorem dX3_firstChoice_45 : decode cX3_firstChoice 45 = .ok (.aload_n 0, 1) := by decide +kernel
theorem dX3_firstChoice_46 : decode cX3_firstChoice 46 = .ok (.getfield 11, 3) := by decide +kernel
theorem dX3_firstChoice_49 : decode cX3_firstChoice 49 = .ok (.iload 6, 2) := by decide +kernel
theorem dX3_firstChoice_51 : decode cX3_firstChoice 51 = .ok (.iaload, 1) := by decide +kernel
theorem dX3_firstChoice_52 : decode cX3_firstChoice 52 = .ok (.ior, 1) := by decide +kernel
theorem dX3_firstChoice_53 : decode cX3_firstChoice 53 = .ok (.invokevirtual 138, 3) := by decide +kernel
theorem dX3_firstChoice_56 : decode cX3_firstChoice 56 = .ok (.ifCond .eq 11, 3) := by decide +kernel
theorem dX3_firstChoice_59 : decode cX3_firstChoice 59 = .ok (.aload_n 0, 1) := by decide +kernel
theorem dX3_firstChoice_60 : decode cX3_firstChoice 60 = .ok (.getfield 11, 3) := by decide +kernel
theorem dX3_firstChoice_63 : decode cX3_firstChoice 63 = .ok (.iload 6, 2) := by decide +kernel
theorem dX3_firstChoice_65 : decode cX3_firstChoice 65 = .ok (.iaload, 1) := by decide +kernel
theorem dX3_firstChoice_66 : decode cX3_firstChoice 66 = .ok (.ireturn, 1) := by decide +kernel
theorem dX3_firstChoice_67 : decode cX3_firstChoice 67 = .ok (.iinc 6 1, 3) := by decide +kernel
theorem dX3_firstChoice_70 : decode cX3_firstChoice 70 = .ok (.goto (-60), 3) := by decide +kernel
theorem dX3_firstChoice_73 : decode cX3_firstChoice 73 = .ok (.iconst 0, 1) := by decide +kernel
theorem dX3_firstChoice_74 : decode cX3_firstChoice 74 = .ok (.ireturn, 1) := by decide +kernel
theorem dX3_canEnd_0 : decode cX3_canEnd 0 = .ok (.iconst 1, 1) := by decide +kernel
theorem dX3_canEnd_1 : decode cX3_canEnd 1 = .ok (.iload_n 3, 1) := by decide +kernel
theorem dX3_canEnd_2 : decode cX3_canEnd 2 = .ok (.ishl, 1) := by decide +kernel
theorem dX3_canEnd_3 : decode cX3_canEnd 3 = .ok (.istore 5, 2) := by decide +kernel
theorem dX3_canEnd_5 : decode cX3_canEnd 5 = .ok (.iconst 0, 1) := by decide +kernel
theorem dX3_canEnd_6 : decode cX3_canEnd 6 = .ok (.istore 6, 2) := by decide +kernel
theorem dX3_canEnd_8 : decode cX3_canEnd 8 = .ok (.iload 6, 2) := by decide +kernel
theorem dX3_canEnd_10 : decode cX3_canEnd 10 = .ok (.aload_n 0, 1) := by decide +kernel
theorem dX3_canEnd_11 : decode cX3_canEnd 11 = .ok (.getfield 41, 3) := by decide +kernel
theorem dX3_canEnd_14 : decode cX3_canEnd 14 = .ok (.if_icmp .ge 60, 3) := by decide +kernel
theorem dX3_canEnd_17 : decode cX3_canEnd 17 = .ok (.iload_n 2, 1) := by decide +kernel
theorem dX3_canEnd_18 : decode cX3_canEnd 18 = .ok (.iload 6, 2) := by decide +kernel
theorem dX3_canEnd_20 : decode cX3_canEnd 20 = .ok (.ior, 1) := by decide +kernel
theorem dX3_canEnd_21 : decode cX3_canEnd 21 = .ok (.istore 7, 2) := by decide +kernel
theorem dX3_canEnd_23 : decode cX3_canEnd 23 = .ok (.aload_n 0, 1) := by decide +kernel
theorem dX3_canEnd_24 : decode cX3_canEnd 24 = .ok (.getfield 21, 3) := by decide +kernel
theorem dX3_canEnd_27 : decode cX3_canEnd 27 = .ok (.iload 7, 2) := by decide +kernel
theorem dX3_canEnd_29 : decode cX3_canEnd 29 = .ok (.iaload, 1) := by decide +kernel
theorem dX3_canEnd_30 : decode cX3_canEnd 30 = .ok (.aload_n 0, 1) := by decide +kernel
theorem dX3_canEnd_31 : decode cX3_canEnd 31 = .ok (.getfield 62, 3) := by decide +kernel
theorem dX3_canEnd_34 : decode cX3_canEnd 34 = .ok (.if_icmp .ne 30, 3) := by decide +kernel
theorem dX3_canEnd_37 : decode cX3_canEnd 37 = .ok (.aload_n 0, 1) := by decide +kernel
theorem dX3_canEnd_38 : decode cX3_canEnd 38 = .ok (.getfield 18, 3) := by decide +kernel
theorem dX3_canEnd_41 : decode cX3_canEnd 41 = .ok (.iload 7, 2) := by decide +kernel
theorem dX3_canEnd_43 : decode cX3_canEnd 43 = .ok (.iaload, 1) := by decide +kernel
theorem dX3_canEnd_44 : decode cX3_canEnd 44 = .ok (.aload_n 1, 1) := by decide +kernel
theorem dX3_canEnd_45 : decode cX3_canEnd 45 = .ok (.getfield 123, 3) := by decide +kernel
theorem dX3_canEnd_48 : decode cX3_canEnd 48 = .ok (.if_icmp .gt 16, 3) := by decide +kernel
theorem dX3_canEnd_51 : decode cX3_canEnd 51 = .ok (.aload_n 0, 1) := by decide +kernel
theorem dX3_canEnd_52 : decode cX3_canEnd 52 = .ok (.iload 6, 2) := by decide +kernel
theorem dX3_canEnd_54 : decode cX3_canEnd 54 = .ok (.iload 4, 2) := by decide +kernel
theorem dX3_canEnd_56 : decode cX3_canEnd 56 = .ok (.invokevirtual 142, 3) := by decide +kernel
theorem dX3_canEnd_59 : decode cX3_canEnd 59 = .ok (.ifCond .eq 5, 3) := by decide +kernel
theorem dX3_canEnd_62 : decode cX3_canEnd 62 = .ok (.iconst 1, 1) := by decide +kernel
theorem dX3_canEnd_63 : decode cX3_canEnd 63 = .ok (.ireturn, 1) := by decide +kernel
theorem dX3_canEnd_64 : decode cX3_canEnd 64 = .ok (.iload 6, 2) := by decide +kernel
theorem dX3_canEnd_66 : decode cX3_canEnd 66 = .ok (.iload 5, 2) := by decide +kernel
theorem dX3_canEnd_68 : decode cX3_canEnd 68 = .ok (.iadd, 1) := by decide +kernel
theorem dX3_canEnd_69 : decode cX3_canEnd 69 = .ok (.istore 6, 2) := by decide +kernel
theorem dX3_canEnd_71 : decode cX3_canEnd 71 = .ok (.goto (-63), 3) := by decide +kernel
theorem dX3_canEnd_74 : decode cX3_canEnd 74 = .ok (.iconst 0, 1) := by decide +kernel
theorem dX3_canEnd_75 : decode cX3_canEnd 75 = .ok (.ireturn, 1) := by decide +kernel
theorem dX3_holdsWithout_0 : decode cX3_holdsWithout 0 = .ok (.iconst 0, 1) := by decide +kernel
theorem dX3_holdsWithout_1 : decode cX3_holdsWithout 1 = .ok (.istore_n 3, 1) := by decide +kernel
theorem dX3_holdsWithout_2 : decode cX3_holdsWithout 2 = .ok (.iload_n 3, 1) := by decide +kernel
theorem dX3_holdsWithout_3 : decode cX3_holdsWithout 3 = .ok (.aload_n 0, 1) := by decide +kernel
theorem dX3_holdsWithout_4 : decode cX3_holdsWithout 4 = .ok (.getfield 49, 3) := by decide +kernel
theorem dX3_holdsWithout_7 : decode cX3_holdsWithout 7 = .ok (.if_icmp .ge 26, 3) := by decide +kernel
theorem dX3_holdsWithout_10 : decode cX3_holdsWithout 10 = .ok (.iload_n 3, 1) := by decide +kernel
theorem dX3_holdsWithout_11 : decode cX3_holdsWithout 11 = .ok (.iload_n 2, 1) := by decide +kernel
theorem dX3_holdsWithout_12 : decode cX3_holdsWithout 12 = .ok (.iand, 1) := by decide +kernel
theorem dX3_holdsWithout_13 : decode cX3_holdsWithout 13 = .ok (.ifCond .ne 14, 3) := by decide +kernel
theorem dX3_holdsWithout_16 : decode cX3_holdsWithout 16 = .ok (.aload_n 0, 1) := by decide +kernel
theorem dX3_holdsWithout_17 : decode cX3_holdsWithout 17 = .ok (.iload_n 1, 1) := by decide +kernel
theorem dX3_holdsWithout_18 : decode cX3_holdsWithout 18 = .ok (.iload_n 3, 1) := by decide +kernel
theorem dX3_holdsWithout_19 : decode cX3_holdsWithout 19 = .ok (.invokevirtual 126, 3) := by decide +kernel
theorem dX3_holdsWithout_22 : decode cX3_holdsWithout 22 = .ok (.ifCond .eq 5, 3) := by decide +kernel
theorem dX3_holdsWithout_25 : decode cX3_holdsWithout 25 = .ok (.iconst 1, 1) := by decide +kernel
theorem dX3_holdsWithout_26 : decode cX3_holdsWithout 26 = .ok (.ireturn, 1) := by decide +kernel
theorem dX3_holdsWithout_27 : decode cX3_holdsWithout 27 = .ok (.iinc 3 1, 3) := by decide +kernel
theorem dX3_holdsWithout_30 : decode cX3_holdsWithout 30 = .ok (.goto (-28), 3) := by decide +kernel
theorem dX3_holdsWithout_33 : decode cX3_holdsWithout 33 = .ok (.iconst 0, 1) := by decide +kernel
theorem dX3_holdsWithout_34 : decode cX3_holdsWithout 34 = .ok (.ireturn, 1) := by decide +kernel
theorem dX4_init_0 : decode cX4_init 0 = .ok (.aload_n 0, 1) := by decide +kernel
theorem dX4_init_1 : decode cX4_init 1 = .ok (.invokespecial 3, 3) := by decide +kernel
theorem dX4_init_4 : decode cX4_init 4 = .ok (.aload_n 0, 1) := by decide +kernel
theorem dX4_init_5 : decode cX4_init 5 = .ok (.bipush 6, 2) := by decide +kernel
theorem dX4_init_7 : decode cX4_init 7 = .ok (.newarray .int, 2) := by decide +kernel
theorem dX4_init_9 : decode cX4_init 9 = .ok (.putfield 9, 3) := by decide +kernel
theorem dX4_init_12 : decode cX4_init 12 = .ok (.aload_n 0, 1) := by decide +kernel
theorem dX4_init_13 : decode cX4_init 13 = .ok (.bipush 36, 2) := by decide +kernel
theorem dX4_init_15 : decode cX4_init 15 = .ok (.newarray .int, 2) := by decide +kernel
theorem dX4_init_17 : decode cX4_init 17 = .ok (.putfield 15, 3) := by decide +kernel
theorem dX4_init_20 : decode cX4_init 20 = .ok (.aload_n 0, 1) := by decide +kernel
theorem dX4_init_21 : decode cX4_init 21 = .ok (.bipush 64, 2) := by decide +kernel
theorem dX4_init_23 : decode cX4_init 23 = .ok (.newarray .int, 2) := by decide +kernel
theorem dX4_init_25 : decode cX4_init 25 = .ok (.putfield 18, 3) := by decide +kernel
theorem dX4_init_28 : decode cX4_init 28 = .ok (.aload_n 0, 1) := by decide +kernel
theorem dX4_init_29 : decode cX4_init 29 = .ok (.bipush 6, 2) := by decide +kernel
theorem dX4_init_31 : decode cX4_init 31 = .ok (.newarray .int, 2) := by decide +kernel
theorem dX4_init_33 : decode cX4_init 33 = .ok (.putfield 21, 3) := by decide +kernel
theorem dX4_init_36 : decode cX4_init 36 = .ok (.return_, 1) := by decide +kernel
theorem dX4_plan_0 : decode cX4_plan 0 = .ok (.aload_n 0, 1) := by decide +kernel
theorem dX4_plan_1 : decode cX4_plan 1 = .ok (.iconst 0, 1) := by decide +kernel
theorem dX4_plan_2 : decode cX4_plan 2 = .ok (.putfield 24, 3) := by decide +kernel
theorem dX4_plan_5 : decode cX4_plan 5 = .ok (.iconst 0, 1) := by decide +kernel
theorem dX4_plan_6 : decode cX4_plan 6 = .ok (.istore_n 3, 1) := by decide +kernel
theorem dX4_plan_7 : decode cX4_plan 7 = .ok (.iload_n 3, 1) := by decide +kernel
theorem dX4_plan_8 : decode cX4_plan 8 = .ok (.aload_n 1, 1) := by decide +kernel
theorem dX4_plan_9 : decode cX4_plan 9 = .ok (.getfield 28, 3) := by decide +kernel
theorem dX4_plan_12 : decode cX4_plan 12 = .ok (.if_icmp .ge 47, 3) := by decide +kernel
theorem dX4_plan_15 : decode cX4_plan 15 = .ok (.aload_n 2, 1) := by decide +kernel
theorem dX4_plan_16 : decode cX4_plan 16 = .ok (.getfield 33, 3) := by decide +kernel
theorem dX4_plan_19 : decode cX4_plan 19 = .ok (.iload_n 3, 1) := by decide +kernel
theorem dX4_plan_20 : decode cX4_plan 20 = .ok (.iaload, 1) := by decide +kernel
theorem dX4_plan_21 : decode cX4_plan 21 = .ok (.ifCond .ne 32, 3) := by decide +kernel
theorem dX4_plan_24 : decode cX4_plan 24 = .ok (.aload_n 2, 1) := by decide +kernel
theorem dX4_plan_25 : decode cX4_plan 25 = .ok (.getfield 38, 3) := by decide +kernel
theorem dX4_plan_28 : decode cX4_plan 28 = .ok (.iload_n 3, 1) := by decide +kernel
theorem dX4_plan_29 : decode cX4_plan 29 = .ok (.iaload, 1) := by decide +kernel
theorem dX4_plan_30 : decode cX4_plan 30 = .ok (.ifCond .le 23, 3) := by decide +kernel
theorem dX4_plan_33 : decode cX4_plan 33 = .ok (.aload_n 0, 1) := by decide +kernel
theorem dX4_plan_34 : decode cX4_plan 34 = .ok (.getfield 9, 3) := by decide +kernel
theorem dX4_plan_37 : decode cX4_plan 37 = .ok (.aload_n 0, 1) := by decide +kernel
theorem dX4_plan_38 : decode cX4_plan 38 = .ok (.getfield 24, 3) := by decide +kernel
theorem dX4_plan_41 : decode cX4_plan 41 = .ok (.iload_n 3, 1) := by decide +kernel
theorem dX4_plan_42 : decode cX4_plan 42 = .ok (.iastore, 1) := by decide +kernel
theorem dX4_plan_43 : decode cX4_plan 43 = .ok (.aload_n 0, 1) := by decide +kernel
theorem dX4_plan_44 : decode cX4_plan 44 = .ok (.dup, 1) := by decide +kernel
theorem dX4_plan_45 : decode cX4_plan 45 = .ok (.getfield 24, 3) := by decide +kernel
theorem dX4_plan_48 : decode cX4_plan 48 = .ok (.iconst 1, 1) := by decide +kernel
theorem dX4_plan_49 : decode cX4_plan 49 = .ok (.iadd, 1) := by decide +kernel
theorem dX4_plan_50 : decode cX4_plan 50 = .ok (.putfield 24, 3) := by decide +kernel
theorem dX4_plan_53 : decode cX4_plan 53 = .ok (.iinc 3 1, 3) := by decide +kernel
theorem dX4_plan_56 : decode cX4_plan 56 = .ok (.goto (-49), 3) := by decide +kernel
theorem dX4_plan_59 : decode cX4_plan 59 = .ok (.iconst 0, 1) := by decide +kernel
theorem dX4_plan_60 : decode cX4_plan 60 = .ok (.istore_n 3, 1) := by decide +kernel
theorem dX4_plan_61 : decode cX4_plan 61 = .ok (.iload_n 3, 1) := by decide +kernel
theorem dX4_plan_62 : decode cX4_plan 62 = .ok (.aload_n 0, 1) := by decide +kernel
theorem dX4_plan_63 : decode cX4_plan 63 = .ok (.getfield 24, 3) := by decide +kernel
theorem dX4_plan_66 : decode cX4_plan 66 = .ok (.if_icmp .ge 55, 3) := by decide +kernel
theorem dX4_plan_69 : decode cX4_plan 69 = .ok (.iconst 0, 1) := by decide +kernel
theorem dX4_plan_70 : decode cX4_plan 70 = .ok (.istore 4, 2) := by decide +kernel
theorem dX4_plan_72 : decode cX4_plan 72 = .ok (.iload 4, 2) := by decide +kernel
theorem dX4_plan_74 : decode cX4_plan 74 = .ok (.aload_n 0, 1) := by decide +kernel
theorem dX4_plan_75 : decode cX4_plan 75 = .ok (.getfield 24, 3) := by decide +kernel
theorem dX4_plan_78 : decode cX4_plan 78 = .ok (.if_icmp .ge 37, 3) := by decide +kernel
theorem dX4_plan_81 : decode cX4_plan 81 = .ok (.aload_n 0, 1) := by decide +kernel
theorem dX4_plan_82 : decode cX4_plan 82 = .ok (.getfield 15, 3) := by decide +kernel
theorem dX4_plan_85 : decode cX4_plan 85 = .ok (.iload_n 3, 1) := by decide +kernel
theorem dX4_plan_86 : decode cX4_plan 86 = .ok (.bipush 6, 2) := by decide +kernel
theorem dX4_plan_88 : decode cX4_plan 88 = .ok (.imul, 1) := by decide +kernel
theorem dX4_plan_89 : decode cX4_plan 89 = .ok (.iload 4, 2) := by decide +kernel
theorem dX4_plan_91 : decode cX4_plan 91 = .ok (.iadd, 1) := by decide +kernel
theorem dX4_plan_92 : decode cX4_plan 92 = .ok (.aload_n 1, 1) := by decide +kernel
theorem dX4_plan_93 : decode cX4_plan 93 = .ok (.aload_n 0, 1) := by decide +kernel
theorem dX4_plan_94 : decode cX4_plan 94 = .ok (.getfield 9, 3) := by decide +kernel
theorem dX4_plan_97 : decode cX4_plan 97 = .ok (.iload_n 3, 1) := by decide +kernel
theorem dX4_plan_98 : decode cX4_plan 98 = .ok (.iaload, 1) := by decide +kernel
theorem dX4_plan_99 : decode cX4_plan 99 = .ok (.aload_n 2, 1) := by decide +kernel
theorem dX4_plan_100 : decode cX4_plan 100 = .ok (.getfield 41, 3) := by decide +kernel
theorem dX4_plan_103 : decode cX4_plan 103 = .ok (.iload 4, 2) := by decide +kernel
theorem dX4_plan_105 : decode cX4_plan 105 = .ok (.invokestatic 44, 3) := by decide +kernel
theorem dX4_plan_108 : decode cX4_plan 108 = .ok (.iastore, 1) := by decide +kernel
theorem dX4_plan_109 : decode cX4_plan 109 = .ok (.iinc 4 1, 3) := by decide +kernel
theorem dX4_plan_112 : decode cX4_plan 112 = .ok (.goto (-40), 3) := by decide +kernel
theorem dX4_plan_115 : decode cX4_plan 115 = .ok (.iinc 3 1, 3) := by decide +kernel
theorem dX4_plan_118 : decode cX4_plan 118 = .ok (.goto (-57), 3) := by decide +kernel
theorem dX4_plan_121 : decode cX4_plan 121 = .ok (.aload_n 0, 1) := by decide +kernel
theorem dX4_plan_122 : decode cX4_plan 122 = .ok (.getfield 18, 3) := by decide +kernel
theorem dX4_plan_125 : decode cX4_plan 125 = .ok (.iconst 0, 1) := by decide +kernel
theorem dX4_plan_126 : decode cX4_plan 126 = .ok (.iconst 0, 1) := by decide +kernel
theorem dX4_plan_127 : decode cX4_plan 127 = .ok (.iastore, 1) := by decide +kernel
theorem dX4_plan_128 : decode cX4_plan 128 = .ok (.iconst 1, 1) := by decide +kernel
theorem dX4_plan_129 : decode cX4_plan 129 = .ok (.aload_n 0, 1) := by decide +kernel
theorem dX4_plan_130 : decode cX4_plan 130 = .ok (.getfield 24, 3) := by decide +kernel
theorem dX4_plan_133 : decode cX4_plan 133 = .ok (.ishl, 1) := by decide +kernel
theorem dX4_plan_134 : decode cX4_plan 134 = .ok (.iconst 1, 1) := by decide +kernel
theorem dX4_plan_135 : decode cX4_plan 135 = .ok (.isub, 1) := by decide +kernel
theorem dX4_plan_136 : decode cX4_plan 136 = .ok (.istore_n 3, 1) := by decide +kernel
theorem dX4_plan_137 : decode cX4_plan 137 = .ok (.iconst 1, 1) := by decide +kernel
theorem dX4_plan_138 : decode cX4_plan 138 = .ok (.istore 4, 2) := by decide +kernel
theorem dX4_plan_140 : decode cX4_plan 140 = .ok (.iload 4, 2) := by decide +kernel
theorem dX4_plan_142 : decode cX4_plan 142 = .ok (.iload_n 3, 1) := by decide +kernel
theorem dX4_plan_143 : decode cX4_plan 143 = .ok (.if_icmp .gt 22, 3) := by decide +kernel
theorem dX4_plan_146 : decode cX4_plan 146 = .ok (.aload_n 0, 1) := by decide +kernel
theorem dX4_plan_147 : decode cX4_plan 147 = .ok (.getfield 18, 3) := by decide +kernel
theorem dX4_plan_150 : decode cX4_plan 150 = .ok (.iload 4, 2) := by decide +kernel
theorem dX4_plan_152 : decode cX4_plan 152 = .ok (.aload_n 0, 1) := by decide +kernel
theorem dX4_plan_153 : decode cX4_plan 153 = .ok (.iload 4, 2) := by decide +kernel
theorem dX4_plan_155 : decode cX4_plan 155 = .ok (.invokevirtual 48, 3) := by decide +kernel
theorem dX4_plan_158 : decode cX4_plan 158 = .ok (.iastore, 1) := by decide +kernel
theorem dX4_plan_159 : decode cX4_plan 159 = .ok (.iinc 4 1, 3) := by decide +kernel
theorem dX4_plan_162 : decode cX4_plan 162 = .ok (.goto (-22), 3) := by decide +kernel
theorem dX4_plan_165 : decode cX4_plan 165 = .ok (.aload_n 0, 1) := by decide +kernel
theorem dX4_plan_166 : decode cX4_plan 166 = .ok (.aload_n 0, 1) := by decide +kernel
theorem dX4_plan_167 : decode cX4_plan 167 = .ok (.getfield 18, 3) := by decide +kernel
theorem dX4_plan_170 : decode cX4_plan 170 = .ok (.iload_n 3, 1) := by decide +kernel
theorem dX4_plan_171 : decode cX4_plan 171 = .ok (.iaload, 1) := by decide +kernel
theorem dX4_plan_172 : decode cX4_plan 172 = .ok (.bipush 99, 2) := by decide +kernel
theorem dX4_plan_174 : decode cX4_plan 174 = .ok (.if_icmp .le 7, 3) := by decide +kernel
theorem dX4_plan_177 : decode cX4_plan 177 = .ok (.iconst (-1), 1) := by decide +kernel
theorem dX4_plan_178 : decode cX4_plan 178 = .ok (.goto 9, 3) := by decide +kernel
theorem dX4_plan_181 : decode cX4_plan 181 = .ok (.aload_n 0, 1) := by decide +kernel
theorem dX4_plan_182 : decode cX4_plan 182 = .ok (.getfield 18, 3) := by decide +kernel
theorem dX4_plan_185 : decode cX4_plan 185 = .ok (.iload_n 3, 1) := by decide +kernel
theorem dX4_plan_186 : decode cX4_plan 186 = .ok (.iaload, 1) := by decide +kernel
theorem dX4_plan_187 : decode cX4_plan 187 = .ok (.putfield 52, 3) := by decide +kernel
theorem dX4_plan_190 : decode cX4_plan 190 = .ok (.aload_n 0, 1) := by decide +kernel
theorem dX4_plan_191 : decode cX4_plan 191 = .ok (.iload_n 3, 1) := by decide +kernel
theorem dX4_plan_192 : decode cX4_plan 192 = .ok (.invokevirtual 55, 3) := by decide +kernel
theorem dX4_plan_195 : decode cX4_plan 195 = .ok (.return_, 1) := by decide +kernel
theorem dX4_dryAt_0 : decode cX4_dryAt 0 = .ok (.bipush 9, 2) := by decide +kernel
theorem dX4_dryAt_2 : decode cX4_dryAt 2 = .ok (.istore 4, 2) := by decide +kernel
theorem dX4_dryAt_4 : decode cX4_dryAt 4 = .ok (.iload_n 3, 1) := by decide +kernel
theorem dX4_dryAt_5 : decode cX4_dryAt 5 = .ok (.istore 5, 2) := by decide +kernel
theorem dX4_dryAt_7 : decode cX4_dryAt 7 = .ok (.iload 5, 2) := by decide +kernel
theorem dX4_dryAt_9 : decode cX4_dryAt 9 = .ok (.bipush 99, 2) := by decide +kernel
theorem dX4_dryAt_11 : decode cX4_dryAt 11 = .ok (.if_icmp .ge 36, 3) := by decide +kernel
theorem dX4_dryAt_14 : decode cX4_dryAt 14 = .ok (.aload_n 0, 1) := by decide +kernel
theorem dX4_dryAt_15 : decode cX4_dryAt 15 = .ok (.iload_n 1, 1) := by decide +kernel
theorem dX4_dryAt_16 : decode cX4_dryAt 16 = .ok (.iload 4, 2) := by decide +kernel
theorem dX4_dryAt_18 : decode cX4_dryAt 18 = .ok (.aload_n 0, 1) := by decide +kernel
theorem dX4_dryAt_19 : decode cX4_dryAt 19 = .ok (.iload_n 2, 1) := by decide +kernel
theorem dX4_dryAt_20 : decode cX4_dryAt 20 = .ok (.iload 5, 2) := by decide +kernel
theorem dX4_dryAt_22 : decode cX4_dryAt 22 = .ok (.iadd, 1) := by decide +kernel
theorem dX4_dryAt_23 : decode cX4_dryAt 23 = .ok (.invokevirtual 59, 3) := by decide +kernel
theorem dX4_dryAt_26 : decode cX4_dryAt 26 = .ok (.invokevirtual 62, 3) := by decide +kernel
theorem dX4_dryAt_29 : decode cX4_dryAt 29 = .ok (.istore 4, 2) := by decide +kernel
theorem dX4_dryAt_31 : decode cX4_dryAt 31 = .ok (.iload 4, 2) := by decide +kernel
theorem dX4_dryAt_33 : decode cX4_dryAt 33 = .ok (.ifCond .ne 8, 3) := by decide +kernel
theorem dX4_dryAt_36 : decode cX4_dryAt 36 = .ok (.iload 5, 2) := by decide +kernel
theorem dX4_dryAt_38 : decode cX4_dryAt 38 = .ok (.iconst 1, 1) := by decide +kernel
theorem dX4_dryAt_39 : decode cX4_dryAt 39 = .ok (.iadd, 1) := by decide +kernel
theorem dX4_dryAt_40 : decode cX4_dryAt 40 = .ok (.ireturn, 1) := by decide +kernel
theorem dX4_dryAt_41 : decode cX4_dryAt 41 = .ok (.iinc 5 1, 3) := by decide +kernel
theorem dX4_dryAt_44 : decode cX4_dryAt 44 = .ok (.goto (-37), 3) := by decide +kernel
theorem dX4_dryAt_47 : decode cX4_dryAt 47 = .ok (.bipush 100, 2) := by decide +kernel
theorem dX4_dryAt_49 : decode cX4_dryAt 49 = .ok (.ireturn, 1) := by decide +kernel
theorem dX4_soonestOf_0 : decode cX4_soonestOf 0 = .ok (.bipush 100, 2) := by decide +kernel
theorem dX4_soonestOf_2 : decode cX4_soonestOf 2 = .ok (.istore_n 2, 1) := by decide +kernel
theorem dX4_soonestOf_3 : decode cX4_soonestOf 3 = .ok (.iconst 0, 1) := by decide +kernel
theorem dX4_soonestOf_4 : decode cX4_soonestOf 4 = .ok (.istore_n 3, 1) := by decide +kernel
theorem dX4_soonestOf_5 : decode cX4_soonestOf 5 = .ok (.iload_n 3, 1) := by decide +kernel
theorem dX4_soonestOf_6 : decode cX4_soonestOf 6 = .ok (.aload_n 0, 1) := by decide +kernel
theorem dX4_soonestOf_7 : decode cX4_soonestOf 7 = .ok (.getfield 24, 3) := by decide +kernel
theorem dX4_soonestOf_10 : decode cX4_soonestOf 10 = .ok (.if_icmp .ge 28, 3) := by decide +kernel
theorem dX4_soonestOf_13 : decode cX4_soonestOf 13 = .ok (.iload_n 1, 1) := by decide +kernel
theorem dX4_soonestOf_14 : decode cX4_soonestOf 14 = .ok (.iload_n 3, 1) := by decide +kernel
theorem dX4_soonestOf_15 : decode cX4_soonestOf 15 = .ok (.ishr, 1) := by decide +kernel
theorem dX4_soonestOf_16 : decode cX4_soonestOf 16 = .ok (.iconst 1, 1) := by decide +kernel
theorem dX4_soonestOf_17 : decode cX4_soonestOf 17 = .ok (.iand, 1) := by decide +kernel
theorem dX4_soonestOf_18 : decode cX4_soonestOf 18 = .ok (.ifCond .eq 14, 3) := by decide +kernel
theorem dX4_soonestOf_21 : decode cX4_soonestOf 21 = .ok (.iload_n 2, 1) := by decide +kernel
theorem dX4_soonestOf_22 : decode cX4_soonestOf 22 = .ok (.aload_n 0, 1) := by decide +kernel
theorem dX4_soonestOf_23 : decode cX4_soonestOf 23 = .ok (.iload_n 1, 1) := by decide +kernel
theorem dX4_soonestOf_24 : decode cX4_soonestOf 24 = .ok (.iload_n 3, 1) := by decide +kernel
theorem dX4_soonestOf_25 : decode cX4_soonestOf 25 = .ok (.invokevirtual 66, 3) := by decide +kernel
theorem dX4_soonestOf_28 : decode cX4_soonestOf 28 = .ok (.invokestatic 70, 3) := by decide +kernel
theorem dX4_soonestOf_31 : decode cX4_soonestOf 31 = .ok (.istore_n 2, 1) := by decide +kernel
theorem dX4_soonestOf_32 : decode cX4_soonestOf 32 = .ok (.iinc 3 1, 3) := by decide +kernel
theorem dX4_soonestOf_35 : decode cX4_soonestOf 35 = .ok (.goto (-30), 3) := by decide +kernel
theorem dX4_soonestOf_38 : decode cX4_soonestOf 38 = .ok (.iload_n 2, 1) := by decide +kernel
theorem dX4_soonestOf_39 : decode cX4_soonestOf 39 = .ok (.ireturn, 1) := by decide +kernel
theorem dX4_dryIfNext_0 : decode cX4_dryIfNext 0 = .ok (.aload_n 0, 1) := by decide +kernel
theorem dX4_dryIfNext_1 : decode cX4_dryIfNext 1 = .ok (.getfield 24, 3) := by decide +kernel
theorem dX4_dryIfNext_4 : decode cX4_dryIfNext 4 = .ok (.iload_n 1, 1) := by decide +kernel
theorem dX4_dryIfNext_5 : decode cX4_dryIfNext 5 = .ok (.invokestatic 75, 3) := by decide +kernel
theorem dX4_dryIfNext_8 : decode cX4_dryIfNext 8 = .ok (.isub, 1) := by decide +kernel
theorem dX4_dryIfNext_9 : decode cX4_dryIfNext 9 = .ok (.istore_n 3, 1) := by decide +kernel
theorem dX4_dryIfNext_10 : decode cX4_dryIfNext 10 = .ok (.aload_n 0, 1) := by decide +kernel
theorem dX4_dryIfNext_11 : decode cX4_dryIfNext 11 = .ok (.getfield 15, 3) := by decide +kernel
theorem dX4_dryIfNext_14 : decode cX4_dryIfNext 14 = .ok (.iload_n 2, 1) := by decide +kernel
theorem dX4_dryIfNext_15 : decode cX4_dryIfNext 15 = .ok (.bipush 6, 2) := by decide +kernel
theorem dX4_dryIfNext_17 : decode cX4_dryIfNext 17 = .ok (.imul, 1) := by decide +kernel
theorem dX4_dryIfNext_18 : decode cX4_dryIfNext 18 = .ok (.iload_n 3, 1) := by decide +kernel
theorem dX4_dryIfNext_19 : decode cX4_dryIfNext 19 = .ok (.iadd, 1) := by decide +kernel
theorem dX4_dryIfNext_20 : decode cX4_dryIfNext 20 = .ok (.iaload, 1) := by decide +kernel
theorem dX4_dryIfNext_21 : decode cX4_dryIfNext 21 = .ok (.aload_n 0, 1) := by decide +kernel
theorem dX4_dryIfNext_22 : decode cX4_dryIfNext 22 = .ok (.getfield 18, 3) := by decide +kernel
theorem dX4_dryIfNext_25 : decode cX4_dryIfNext 25 = .ok (.iload_n 1, 1) := by decide +kernel
theorem dX4_dryIfNext_26 : decode cX4_dryIfNext 26 = .ok (.iconst 1, 1) := by decide +kernel
theorem dX4_dryIfNext_27 : decode cX4_dryIfNext 27 = .ok (.iload_n 2, 1) := by decide +kernel
theorem dX4_dryIfNext_28 : decode cX4_dryIfNext 28 = .ok (.ishl, 1) := by decide +kernel
theorem dX4_dryIfNext_29 : decode cX4_dryIfNext 29 = .ok (.iconst (-1), 1) := by decide +kernel
theorem dX4_dryIfNext_30 : decode cX4_dryIfNext 30 = .ok (.ixor, 1) := by decide +kernel
theorem dX4_dryIfNext_31 : decode cX4_dryIfNext 31 = .ok (.iand, 1) := by decide +kernel
theorem dX4_dryIfNext_32 : decode cX4_dryIfNext 32 = .ok (.iaload, 1) := by decide +kernel
theorem dX4_dryIfNext_33 : decode cX4_dryIfNext 33 = .ok (.invokestatic 80, 3) := by decide +kernel
theorem dX4_dryIfNext_36 : decode cX4_dryIfNext 36 = .ok (.ireturn, 1) := by decide +kernel
theorem dX4_layOrder_0 : decode cX4_layOrder 0 = .ok (.iload_n 1, 1) := by decide +kernel
theorem dX4_layOrder_1 : decode cX4_layOrder 1 = .ok (.istore_n 2, 1) := by decide +kernel
theorem dX4_layOrder_2 : decode cX4_layOrder 2 = .ok (.iconst 0, 1) := by decide +kernel
theorem dX4_layOrder_3 : decode cX4_layOrder 3 = .ok (.istore_n 3, 1) := by decide +kernel
theorem dX4_layOrder_4 : decode cX4_layOrder 4 = .ok (.iload_n 3, 1) := by decide +kernel
theorem dX4_layOrder_5 : decode cX4_layOrder 5 = .ok (.aload_n 0, 1) := by decide +kernel
theorem dX4_layOrder_6 : decode cX4_layOrder 6 = .ok (.getfield 24, 3) := by decide +kernel
theorem dX4_layOrder_9 : decode cX4_layOrder 9 = .ok (.if_icmp .ge 44, 3) := by decide +kernel
theorem dX4_layOrder_12 : decode cX4_layOrder 12 = .ok (.aload_n 0, 1) := by decide +kernel
theorem dX4_layOrder_13 : decode cX4_layOrder 13 = .ok (.iload_n 2, 1) := by decide +kernel
theorem dX4_layOrder_14 : decode cX4_layOrder 14 = .ok (.aload_n 0, 1) := by decide +kernel
theorem dX4_layOrder_15 : decode cX4_layOrder 15 = .ok (.getfield 18, 3) := by decide +kernel
theorem dX4_layOrder_18 : decode cX4_layOrder 18 = .ok (.iload_n 1, 1) := by decide +kernel
theorem dX4_layOrder_19 : decode cX4_layOrder 19 = .ok (.iaload, 1) := by decide +kernel
theorem dX4_layOrder_20 : decode cX4_layOrder 20 = .ok (.invokevirtual 83, 3) := by decide +kernel
theorem dX4_layOrder_23 : decode cX4_layOrder 23 = .ok (.istore 4, 2) := by decide +kernel
theorem dX4_layOrder_25 : decode cX4_layOrder 25 = .ok (.aload_n 0, 1) := by decide +kernel
theorem dX4_layOrder_26 : decode cX4_layOrder 26 = .ok (.getfield 21, 3) := by decide +kernel
theorem dX4_layOrder_29 : decode cX4_layOrder 29 = .ok (.iload_n 3, 1) := by decide +kernel
theorem dX4_layOrder_30 : decode cX4_layOrder 30 = .ok (.aload_n 0, 1) := by decide +kernel
theorem dX4_layOrder_31 : decode cX4_layOrder 31 = .ok (.getfield 9, 3) := by decide +kernel
theorem dX4_layOrder_34 : decode cX4_layOrder 34 = .ok (.iload 4, 2) := by decide +kernel
theorem dX4_layOrder_36 : decode cX4_layOrder 36 = .ok (.iaload, 1) := by decide +kernel
theorem dX4_layOrder_37 : decode cX4_layOrder 37 = .ok (.iastore, 1) := by decide +kernel
theorem dX4_layOrder_38 : decode cX4_layOrder 38 = .ok (.iload_n 2, 1) := by decide +kernel
theorem dX4_layOrder_39 : decode cX4_layOrder 39 = .ok (.iconst 1, 1) := by decide +kernel
theorem dX4_layOrder_40 : decode cX4_layOrder 40 = .ok (.iload 4, 2) := by decide +kernel
theorem dX4_layOrder_42 : decode cX4_layOrder 42 = .ok (.ishl, 1) := by decide +kernel
theorem dX4_layOrder_43 : decode cX4_layOrder 43 = .ok (.iconst (-1), 1) := by decide +kernel
theorem dX4_layOrder_44 : decode cX4_layOrder 44 = .ok (.ixor, 1) := by decide +kernel
theorem dX4_layOrder_45 : decode cX4_layOrder 45 = .ok (.iand, 1) := by decide +kernel
theorem dX4_layOrder_46 : decode cX4_layOrder 46 = .ok (.istore_n 2, 1) := by decide +kernel
theorem dX4_layOrder_47 : decode cX4_layOrder 47 = .ok (.iinc 3 1, 3) := by decide +kernel
theorem dX4_layOrder_50 : decode cX4_layOrder 50 = .ok (.goto (-46), 3) := by decide +kernel
theorem dX4_layOrder_53 : decode cX4_layOrder 53 = .ok (.return_, 1) := by decide +kernel
theorem dX4_firstInTime_0 : decode cX4_firstInTime 0 = .ok (.iconst 0, 1) := by decide +kernel
theorem dX4_firstInTime_1 : decode cX4_firstInTime 1 = .ok (.istore_n 3, 1) := by decide +kernel
theorem dX4_firstInTime_2 : decode cX4_firstInTime 2 = .ok (.iload_n 3, 1) := by decide +kernel
theorem dX4_firstInTime_3 : decode cX4_firstInTime 3 = .ok (.aload_n 0, 1) := by decide +kernel
theorem dX4_firstInTime_4 : decode cX4_firstInTime 4 = .ok (.getfield 24, 3) := by decide +kernel
theorem dX4_firstInTime_7 : decode cX4_firstInTime 7 = .ok (.if_icmp .ge 29, 3) := by decide +kernel
theorem dX4_firstInTime_10 : decode cX4_firstInTime 10 = .ok (.iload_n 1, 1) := by decide +kernel
theorem dX4_firstInTime_11 : decode cX4_firstInTime 11 = .ok (.iload_n 3, 1) := by decide +kernel
theorem dX4_firstInTime_12 : decode cX4_firstInTime 12 = .ok (.ishr, 1) := by decide +kernel
theorem dX4_firstInTime_13 : decode cX4_firstInTime 13 = .ok (.iconst 1, 1) := by decide +kernel
theorem dX4_firstInTime_14 : decode cX4_firstInTime 14 = .ok (.iand, 1) := by decide +kernel
theorem dX4_firstInTime_15 : decode cX4_firstInTime 15 = .ok (.ifCond .eq 15, 3) := by decide +kernel
theorem dX4_firstInTime_18 : decode cX4_firstInTime 18 = .ok (.aload_n 0, 1) := by decide +kernel
theorem dX4_firstInTime_19 : decode cX4_firstInTime 19 = .ok (.iload_n 1, 1) := by decide +kernel
theorem dX4_firstInTime_20 : decode cX4_firstInTime 20 = .ok (.iload_n 3, 1) := by decide +kernel
theorem dX4_firstInTime_21 : decode cX4_firstInTime 21 = .ok (.invokevirtual 66, 3) := by decide +kernel
theorem dX4_firstInTime_24 : decode cX4_firstInTime 24 = .ok (.iload_n 2, 1) := by decide +kernel
theorem dX4_firstInTime_25 : decode cX4_firstInTime 25 = .ok (.if_icmp .gt 5, 3) := by decide +kernel
theorem dX4_firstInTime_28 : decode cX4_firstInTime 28 = .ok (.iload_n 3, 1) := by decide +kernel
theorem dX4_firstInTime_29 : decode cX4_firstInTime 29 = .ok (.ireturn, 1) := by decide +kernel
theorem dX4_firstInTime_30 : decode cX4_firstInTime 30 = .ok (.iinc 3 1, 3) := by decide +kernel
theorem dX4_firstInTime_33 : decode cX4_firstInTime 33 = .ok (.goto (-31), 3) := by decide +kernel
theorem dX4_firstInTime_36 : decode cX4_firstInTime 36 = .ok (.iconst 0, 1) := by decide +kernel
theorem dX4_firstInTime_37 : decode cX4_firstInTime 37 = .ok (.ireturn, 1) := by decide +kernel
theorem dX5_init_0 : decode cX5_init 0 = .ok (.aload_n 0, 1) := by decide +kernel
theorem dX5_init_1 : decode cX5_init 1 = .ok (.invokespecial 3, 3) := by decide +kernel
theorem dX5_init_4 : decode cX5_init 4 = .ok (.aload_n 0, 1) := by decide +kernel
theorem dX5_init_5 : decode cX5_init 5 = .ok (.bipush 6, 2) := by decide +kernel
theorem dX5_init_7 : decode cX5_init 7 = .ok (.newarray .long, 2) := by decide +kernel
theorem dX5_init_9 : decode cX5_init 9 = .ok (.putfield 9, 3) := by decide +kernel
theorem dX5_init_12 : decode cX5_init 12 = .ok (.aload_n 0, 1) := by decide +kernel
theorem dX5_init_13 : decode cX5_init 13 = .ok (.bipush 6, 2) := by decide +kernel
theorem dX5_init_15 : decode cX5_init 15 = .ok (.newarray .int, 2) := by decide +kernel
theorem dX5_init_17 : decode cX5_init 17 = .ok (.putfield 15, 3) := by decide +kernel
theorem dX5_init_20 : decode cX5_init 20 = .ok (.aload_n 0, 1) := by decide +kernel
theorem dX5_init_21 : decode cX5_init 21 = .ok (.bipush 6, 2) := by decide +kernel
theorem dX5_init_23 : decode cX5_init 23 = .ok (.newarray .int, 2) := by decide +kernel
theorem dX5_init_25 : decode cX5_init 25 = .ok (.putfield 19, 3) := by decide +kernel
theorem dX5_init_28 : decode cX5_init 28 = .ok (.aload_n 0, 1) := by decide +kernel
theorem dX5_init_29 : decode cX5_init 29 = .ok (.bipush 6, 2) := by decide +kernel
theorem dX5_init_31 : decode cX5_init 31 = .ok (.newarray .int, 2) := by decide +kernel
theorem dX5_init_33 : decode cX5_init 33 = .ok (.putfield 22, 3) := by decide +kernel
theorem dX5_init_36 : decode cX5_init 36 = .ok (.aload_n 0, 1) := by decide +kernel
theorem dX5_init_37 : decode cX5_init 37 = .ok (.bipush 6, 2) := by decide +kernel
theorem dX5_init_39 : decode cX5_init 39 = .ok (.newarray .int, 2) := by decide +kernel
theorem dX5_init_41 : decode cX5_init 41 = .ok (.putfield 25, 3) := by decide +kernel
theorem dX5_init_44 : decode cX5_init 44 = .ok (.aload_n 0, 1) := by decide +kernel
theorem dX5_init_45 : decode cX5_init 45 = .ok (.bipush 6, 2) := by decide +kernel
theorem dX5_init_47 : decode cX5_init 47 = .ok (.newarray .int, 2) := by decide +kernel
theorem dX5_init_49 : decode cX5_init 49 = .ok (.putfield 28, 3) := by decide +kernel
theorem dX5_init_52 : decode cX5_init 52 = .ok (.aload_n 0, 1) := by decide +kernel
theorem dX5_init_53 : decode cX5_init 53 = .ok (.bipush 8, 2) := by decide +kernel
theorem dX5_init_55 : decode cX5_init 55 = .ok (.newarray .int, 2) := by decide +kernel
theorem dX5_init_57 : decode cX5_init 57 = .ok (.putfield 31, 3) := by decide +kernel
theorem dX5_init_60 : decode cX5_init 60 = .ok (.aload_n 0, 1) := by decide +kernel
theorem dX5_init_61 : decode cX5_init 61 = .ok (.bipush 12, 2) := by decide +kernel
theorem dX5_init_63 : decode cX5_init 63 = .ok (.newarray .int, 2) := by decide +kernel
theorem dX5_init_65 : decode cX5_init 65 = .ok (.putfield 34, 3) := by decide +kernel
theorem dX5_init_68 : decode cX5_init 68 = .ok (.aload_n 0, 1) := by decide +kernel
theorem dX5_init_69 : decode cX5_init 69 = .ok (.new 37, 3) := by decide +kernel
theorem dX5_init_72 : decode cX5_init 72 = .ok (.dup, 1) := by decide +kernel
theorem dX5_init_73 : decode cX5_init 73 = .ok (.invokespecial 39, 3) := by decide +kernel
theorem dX5_init_76 : decode cX5_init 76 = .ok (.putfield 40, 3) := by decide +kernel
theorem dX5_init_79 : decode cX5_init 79 = .ok (.aload_n 0, 1) := by decide +kernel
theorem dX5_init_80 : decode cX5_init 80 = .ok (.new 37, 3) := by decide +kernel
theorem dX5_init_83 : decode cX5_init 83 = .ok (.dup, 1) := by decide +kernel
theorem dX5_init_84 : decode cX5_init 84 = .ok (.invokespecial 39, 3) := by decide +kernel
theorem dX5_init_87 : decode cX5_init 87 = .ok (.putfield 44, 3) := by decide +kernel
theorem dX5_init_90 : decode cX5_init 90 = .ok (.aload_n 0, 1) := by decide +kernel
theorem dX5_init_91 : decode cX5_init 91 = .ok (.invokevirtual 47, 3) := by decide +kernel
theorem dX5_init_94 : decode cX5_init 94 = .ok (.return_, 1) := by decide +kernel
theorem dX5_clear_0 : decode cX5_clear 0 = .ok (.aload_n 0, 1) := by decide +kernel
theorem dX5_clear_1 : decode cX5_clear 1 = .ok (.getfield 28, 3) := by decide +kernel
theorem dX5_clear_4 : decode cX5_clear 4 = .ok (.iconst 0, 1) := by decide +kernel
theorem dX5_clear_5 : decode cX5_clear 5 = .ok (.invokestatic 50, 3) := by decide +kernel
theorem dX5_clear_8 : decode cX5_clear 8 = .ok (.aload_n 0, 1) := by decide +kernel
theorem dX5_clear_9 : decode cX5_clear 9 = .ok (.iconst 0, 1) := by decide +kernel
theorem dX5_clear_10 : decode cX5_clear 10 = .ok (.putfield 56, 3) := by decide +kernel
theorem dX5_clear_13 : decode cX5_clear 13 = .ok (.aload_n 0, 1) := by decide +kernel
theorem dX5_clear_14 : decode cX5_clear 14 = .ok (.iconst 0, 1) := by decide +kernel
theorem dX5_clear_15 : decode cX5_clear 15 = .ok (.putfield 60, 3) := by decide +kernel
theorem dX5_clear_18 : decode cX5_clear 18 = .ok (.aload_n 0, 1) := by decide +kernel
theorem dX5_clear_19 : decode cX5_clear 19 = .ok (.getfield 34, 3) := by decide +kernel
theorem dX5_clear_22 : decode cX5_clear 22 = .ok (.iconst 0, 1) := by decide +kernel
theorem dX5_clear_23 : decode cX5_clear 23 = .ok (.iconst 3, 1) := by decide +kernel
theorem dX5_clear_24 : decode cX5_clear 24 = .ok (.iastore, 1) := by decide +kernel
theorem dX5_clear_25 : decode cX5_clear 25 = .ok (.aload_n 0, 1) := by decide +kernel
theorem dX5_clear_26 : decode cX5_clear 26 = .ok (.iconst 1, 1) := by decide +kernel
theorem dX5_clear_27 : decode cX5_clear 27 = .ok (.putfield 63, 3) := by decide +kernel
theorem dX5_clear_30 : decode cX5_clear 30 = .ok (.aload_n 0, 1) := by decide +kernel
theorem dX5_clear_31 : decode cX5_clear 31 = .ok (.bipush 20, 2) := by decide +kernel
theorem dX5_clear_33 : decode cX5_clear 33 = .ok (.putfield 66, 3) := by decide +kernel
theorem dX5_clear_36 : decode cX5_clear 36 = .ok (.aload_n 0, 1) := by decide +kernel
theorem dX5_clear_37 : decode cX5_clear 37 = .ok (.iconst 0, 1) := by decide +kernel
theorem dX5_clear_38 : decode cX5_clear 38 = .ok (.putfield 69, 3) := by decide +kernel
theorem dX5_clear_41 : decode cX5_clear 41 = .ok (.aload_n 0, 1) := by decide +kernel
theorem dX5_clear_42 : decode cX5_clear 42 = .ok (.iconst 0, 1) := by decide +kernel
theorem dX5_clear_43 : decode cX5_clear 43 = .ok (.putfield 72, 3) := by decide +kernel
theorem dX5_clear_46 : decode cX5_clear 46 = .ok (.aload_n 0, 1) := by decide +kernel
theorem dX5_clear_47 : decode cX5_clear 47 = .ok (.getfield 40, 3) := by decide +kernel
theorem dX5_clear_50 : decode cX5_clear 50 = .ok (.invokevirtual 75, 3) := by decide +kernel
theorem dX5_clear_53 : decode cX5_clear 53 = .ok (.aload_n 0, 1) := by decide +kernel
theorem dX5_clear_54 : decode cX5_clear 54 = .ok (.getfield 40, 3) := by decide +kernel
theorem dX5_clear_57 : decode cX5_clear 57 = .ok (.iconst (-1), 1) := by decide +kernel
theorem dX5_clear_58 : decode cX5_clear 58 = .ok (.invokevirtual 76, 3) := by decide +kernel
theorem dX5_clear_61 : decode cX5_clear 61 = .ok (.aload_n 0, 1) := by decide +kernel
theorem dX5_clear_62 : decode cX5_clear 62 = .ok (.getfield 40, 3) := by decide +kernel
theorem dX5_clear_65 : decode cX5_clear 65 = .ok (.bipush (-3), 2) := by decide +kernel
theorem dX5_clear_67 : decode cX5_clear 67 = .ok (.invokevirtual 76, 3) := by decide +kernel
theorem dX5_clear_70 : decode cX5_clear 70 = .ok (.aload_n 0, 1) := by decide +kernel
theorem dX5_clear_71 : decode cX5_clear 71 = .ok (.getfield 40, 3) := by decide +kernel
theorem dX5_clear_74 : decode cX5_clear 74 = .ok (.bipush (-9), 2) := by decide +kernel
theorem dX5_clear_76 : decode cX5_clear 76 = .ok (.invokevirtual 76, 3) := by decide +kernel
theorem dX5_clear_79 : decode cX5_clear 79 = .ok (.aload_n 0, 1) := by decide +kernel
theorem dX5_clear_80 : decode cX5_clear 80 = .ok (.getfield 40, 3) := by decide +kernel
theorem dX5_clear_83 : decode cX5_clear 83 = .ok (.bipush (-2), 2) := by decide +kernel
theorem dX5_clear_85 : decode cX5_clear 85 = .ok (.invokevirtual 76, 3) := by decide +kernel
theorem dX5_clear_88 : decode cX5_clear 88 = .ok (.aload_n 0, 1) := by decide +kernel
theorem dX5_clear_89 : decode cX5_clear 89 = .ok (.getfield 40, 3) := by decide +kernel
theorem dX5_clear_92 : decode cX5_clear 92 = .ok (.bipush (-10), 2) := by decide +kernel
theorem dX5_clear_94 : decode cX5_clear 94 = .ok (.invokevirtual 76, 3) := by decide +kernel
theorem dX5_clear_97 : decode cX5_clear 97 = .ok (.aload_n 0, 1) := by decide +kernel
theorem dX5_clear_98 : decode cX5_clear 98 = .ok (.getfield 44, 3) := by decide +kernel
theorem dX5_clear_101 : decode cX5_clear 101 = .ok (.invokevirtual 75, 3) := by decide +kernel
theorem dX5_clear_104 : decode cX5_clear 104 = .ok (.aload_n 0, 1) := by decide +kernel
theorem dX5_clear_105 : decode cX5_clear 105 = .ok (.getfield 44, 3) := by decide +kernel
theorem dX5_clear_108 : decode cX5_clear 108 = .ok (.iconst (-1), 1) := by decide +kernel
theorem dX5_clear_109 : decode cX5_clear 109 = .ok (.invokevirtual 76, 3) := by decide +kernel
theorem dX5_clear_112 : decode cX5_clear 112 = .ok (.return_, 1) := by decide +kernel
theorem dX5_has_0 : decode cX5_has 0 = .ok (.iload_n 1, 1) := by decide +kernel
theorem dX5_has_1 : decode cX5_has 1 = .ok (.ifCond .lt 15, 3) := by decide +kernel
theorem dX5_has_4 : decode cX5_has 4 = .ok (.iload_n 1, 1) := by decide +kernel
theorem dX5_has_5 : decode cX5_has 5 = .ok (.aload_n 0, 1) := by decide +kernel
theorem dX5_has_6 : decode cX5_has 6 = .ok (.getfield 56, 3) := by decide +kernel
theorem dX5_has_9 : decode cX5_has 9 = .ok (.if_icmp .ge 7, 3) := by decide +kernel
theorem dX5_has_12 : decode cX5_has 12 = .ok (.iconst 1, 1) := by decide +kernel
theorem dX5_has_13 : decode cX5_has 13 = .ok (.goto 4, 3) := by decide +kernel
theorem dX5_has_16 : decode cX5_has 16 = .ok (.iconst 0, 1) := by decide +kernel
theorem dX5_has_17 : decode cX5_has 17 = .ok (.ireturn, 1) := by decide +kernel
theorem dX5_clothNamed_0 : decode cX5_clothNamed 0 = .ok (.iconst 0, 1) := by decide +kernel
theorem dX5_clothNamed_1 : decode cX5_clothNamed 1 = .ok (.istore_n 3, 1) := by decide +kernel
theorem dX5_clothNamed_2 : decode cX5_clothNamed 2 = .ok (.iload_n 3, 1) := by decide +kernel
theorem dX5_clothNamed_3 : decode cX5_clothNamed 3 = .ok (.aload_n 0, 1) := by decide +kernel
theorem dX5_clothNamed_4 : decode cX5_clothNamed 4 = .ok (.getfield 56, 3) := by decide +kernel
theorem dX5_clothNamed_7 : decode cX5_clothNamed 7 = .ok (.if_icmp .ge 22, 3) := by decide +kernel
theorem dX5_clothNamed_10 : decode cX5_clothNamed 10 = .ok (.aload_n 0, 1) := by decide +kernel
theorem dX5_clothNamed_11 : decode cX5_clothNamed 11 = .ok (.getfield 9, 3) := by decide +kernel
theorem dX5_clothNamed_14 : decode cX5_clothNamed 14 = .ok (.iload_n 3, 1) := by decide +kernel
theorem dX5_clothNamed_15 : decode cX5_clothNamed 15 = .ok (.laload, 1) := by decide +kernel
theorem dX5_clothNamed_16 : decode cX5_clothNamed 16 = .ok (.lload_n 1, 1) := by decide +kernel
theorem dX5_clothNamed_17 : decode cX5_clothNamed 17 = .ok (.lcmp, 1) := by decide +kernel
theorem dX5_clothNamed_18 : decode cX5_clothNamed 18 = .ok (.ifCond .ne 5, 3) := by decide +kernel
theorem dX5_clothNamed_21 : decode cX5_clothNamed 21 = .ok (.iload_n 3, 1) := by decide +kernel
theorem dX5_clothNamed_22 : decode cX5_clothNamed 22 = .ok (.ireturn, 1) := by decide +kernel
theorem dX5_clothNamed_23 : decode cX5_clothNamed 23 = .ok (.iinc 3 1, 3) := by decide +kernel
theorem dX5_clothNamed_26 : decode cX5_clothNamed 26 = .ok (.goto (-24), 3) := by decide +kernel
theorem dX5_clothNamed_29 : decode cX5_clothNamed 29 = .ok (.iconst (-1), 1) := by decide +kernel
theorem dX5_clothNamed_30 : decode cX5_clothNamed 30 = .ok (.ireturn, 1) := by decide +kernel
theorem dX5_clashTold_0 : decode cX5_clashTold 0 = .ok (.aload_n 0, 1) := by decide +kernel
theorem dX5_clashTold_1 : decode cX5_clashTold 1 = .ok (.getfield 28, 3) := by decide +kernel
theorem dX5_clashTold_4 : decode cX5_clashTold 4 = .ok (.iload_n 1, 1) := by decide +kernel
theorem dX5_clashTold_5 : decode cX5_clashTold 5 = .ok (.iload_n 2, 1) := by decide +kernel
theorem dX5_clashTold_6 : decode cX5_clashTold 6 = .ok (.invokestatic 80, 3) := by decide +kernel
theorem dX5_clashTold_9 : decode cX5_clashTold 9 = .ok (.iaload, 1) := by decide +kernel
theorem dX5_clashTold_10 : decode cX5_clashTold 10 = .ok (.iload_n 1, 1) := by decide +kernel
theorem dX5_clashTold_11 : decode cX5_clashTold 11 = .ok (.iload_n 2, 1) := by decide +kernel
theorem dX5_clashTold_12 : decode cX5_clashTold 12 = .ok (.invokestatic 86, 3) := by decide +kernel
theorem dX5_clashTold_15 : decode cX5_clashTold 15 = .ok (.ishr, 1) := by decide +kernel
theorem dX5_clashTold_16 : decode cX5_clashTold 16 = .ok (.iconst 1, 1) := by decide +kernel
theorem dX5_clashTold_17 : decode cX5_clashTold 17 = .ok (.iand, 1) := by decide +kernel
theorem dX5_clashTold_18 : decode cX5_clashTold 18 = .ok (.ifCond .eq 7, 3) := by decide +kernel
theorem dX5_clashTold_21 : decode cX5_clashTold 21 = .ok (.iconst 1, 1) := by decide +kernel
theorem dX5_clashTold_22 : decode cX5_clashTold 22 = .ok (.goto 4, 3) := by decide +kernel
theorem dX5_clashTold_25 : decode cX5_clashTold 25 = .ok (.iconst 0, 1) := by decide +kernel
theorem dX5_clashTold_26 : decode cX5_clashTold 26 = .ok (.ireturn, 1) := by decide +kernel
theorem dX5_addClash_0 : decode cX5_addClash 0 = .ok (.aload_n 0, 1) := by decide +kernel
theorem dX5_addClash_1 : decode cX5_addClash 1 = .ok (.getfield 28, 3) := by decide +kernel
theorem dX5_addClash_4 : decode cX5_addClash 4 = .ok (.iload_n 1, 1) := by decide +kernel
theorem dX5_addClash_5 : decode cX5_addClash 5 = .ok (.iload_n 2, 1) := by decide +kernel
theorem dX5_addClash_6 : decode cX5_addClash 6 = .ok (.invokestatic 80, 3) := by decide +kernel
theorem dX5_addClash_9 : decode cX5_addClash 9 = .ok (.dup2, 1) := by decide +kernel
theorem dX5_addClash_10 : decode cX5_addClash 10 = .ok (.iaload, 1) := by decide +kernel
theorem dX5_addClash_11 : decode cX5_addClash 11 = .ok (.iconst 1, 1) := by decide +kernel
theorem dX5_addClash_12 : decode cX5_addClash 12 = .ok (.iload_n 1, 1) := by decide +kernel
theorem dX5_addClash_13 : decode cX5_addClash 13 = .ok (.iload_n 2, 1) := by decide +kernel
theorem dX5_addClash_14 : decode cX5_addClash 14 = .ok (.invokestatic 86, 3) := by decide +kernel
theorem dX5_addClash_17 : decode cX5_addClash 17 = .ok (.ishl, 1) := by decide +kernel
theorem dX5_addClash_18 : decode cX5_addClash 18 = .ok (.ior, 1) := by decide +kernel
theorem dX5_addClash_19 : decode cX5_addClash 19 = .ok (.iastore, 1) := by decide +kernel
theorem dX5_addClash_20 : decode cX5_addClash 20 = .ok (.aload_n 0, 1) := by decide +kernel
theorem dX5_addClash_21 : decode cX5_addClash 21 = .ok (.dup, 1) := by decide +kernel
theorem dX5_addClash_22 : decode cX5_addClash 22 = .ok (.getfield 72, 3) := by decide +kernel
theorem dX5_addClash_25 : decode cX5_addClash 25 = .ok (.iconst 1, 1) := by decide +kernel
theorem dX5_addClash_26 : decode cX5_addClash 26 = .ok (.iadd, 1) := by decide +kernel
theorem dX5_addClash_27 : decode cX5_addClash 27 = .ok (.putfield 72, 3) := by decide +kernel
theorem dX5_addClash_30 : decode cX5_addClash 30 = .ok (.return_, 1) := by decide +kernel
theorem dX5_clashesAmong_0 : decode cX5_clashesAmong 0 = .ok (.iconst 0, 1) := by decide +kernel
theorem dX5_clashesAmong_1 : decode cX5_clashesAmong 1 = .ok (.istore_n 2, 1) := by decide +kernel
theorem dX5_clashesAmong_2 : decode cX5_clashesAmong 2 = .ok (.iconst 0, 1) := by decide +kernel
theorem dX5_clashesAmong_3 : decode cX5_clashesAmong 3 = .ok (.istore_n 3, 1) := by decide +kernel
theorem dX5_clashesAmong_4 : decode cX5_clashesAmong 4 = .ok (.iload_n 3, 1) := by decide +kernel
theorem dX5_clashesAmong_5 : decode cX5_clashesAmong 5 = .ok (.aload_n 0, 1) := by decide +kernel
theorem dX5_clashesAmong_6 : decode cX5_clashesAmong 6 = .ok (.getfield 56, 3) := by decide +kernel
theorem dX5_clashesAmong_9 : decode cX5_clashesAmong 9 = .ok (.if_icmp .ge 31, 3) := by decide +kernel
theorem dX5_clashesAmong_12 : decode cX5_clashesAmong 12 = .ok (.iload_n 1, 1) := by decide +kernel
theorem dX5_clashesAmong_13 : decode cX5_clashesAmong 13 = .ok (.iload_n 3, 1) := by decide +kernel
theorem dX5_clashesAmong_14 : decode cX5_clashesAmong 14 = .ok (.ishr, 1) := by decide +kernel
theorem dX5_clashesAmong_15 : decode cX5_clashesAmong 15 = .ok (.iconst 1, 1) := by decide +kernel
theorem dX5_clashesAmong_16 : decode cX5_clashesAmong 16 = .ok (.iand, 1) := by decide +kernel
theorem dX5_clashesAmong_17 : decode cX5_clashesAmong 17 = .ok (.ifCond .eq 17, 3) := by decide +kernel
theorem dX5_clashesAmong_20 : decode cX5_clashesAmong 20 = .ok (.iload_n 2, 1) := by decide +kernel
theorem dX5_clashesAmong_21 : decode cX5_clashesAmong 21 = .ok (.aload_n 0, 1) := by decide +kernel
theorem dX5_clashesAmong_22 : decode cX5_clashesAmong 22 = .ok (.getfield 28, 3) := by decide +kernel
theorem dX5_clashesAmong_25 : decode cX5_clashesAmong 25 = .ok (.iload_n 3, 1) := by decide +kernel
theorem dX5_clashesAmong_26 : decode cX5_clashesAmong 26 = .ok (.iaload, 1) := by decide +kernel
theorem dX5_clashesAmong_27 : decode cX5_clashesAmong 27 = .ok (.iload_n 1, 1) := by decide +kernel
theorem dX5_clashesAmong_28 : decode cX5_clashesAmong 28 = .ok (.iand, 1) := by decide +kernel
theorem dX5_clashesAmong_29 : decode cX5_clashesAmong 29 = .ok (.invokestatic 89, 3) := by decide +kernel
theorem dX5_clashesAmong_32 : decode cX5_clashesAmong 32 = .ok (.iadd, 1) := by decide +kernel
theorem dX5_clashesAmong_33 : decode cX5_clashesAmong 33 = .ok (.istore_n 2, 1) := by decide +kernel
theorem dX5_clashesAmong_34 : decode cX5_clashesAmong 34 = .ok (.iinc 3 1, 3) := by decide +kernel
theorem dX5_clashesAmong_37 : decode cX5_clashesAmong 37 = .ok (.goto (-33), 3) := by decide +kernel
theorem dX5_clashesAmong_40 : decode cX5_clashesAmong 40 = .ok (.iload_n 2, 1) := by decide +kernel
theorem dX5_clashesAmong_41 : decode cX5_clashesAmong 41 = .ok (.ireturn, 1) := by decide +kernel
theorem dX5_worthOf_0 : decode cX5_worthOf 0 = .ok (.iconst 0, 1) := by decide +kernel
theorem dX5_worthOf_1 : decode cX5_worthOf 1 = .ok (.istore_n 2, 1) := by decide +kernel
theorem dX5_worthOf_2 : decode cX5_worthOf 2 = .ok (.iconst 0, 1) := by decide +kernel
theorem dX5_worthOf_3 : decode cX5_worthOf 3 = .ok (.istore_n 3, 1) := by decide +kernel
theorem dX5_worthOf_4 : decode cX5_worthOf 4 = .ok (.iload_n 3, 1) := by decide +kernel
theorem dX5_worthOf_5 : decode cX5_worthOf 5 = .ok (.aload_n 0, 1) := by decide +kernel
theorem dX5_worthOf_6 : decode cX5_worthOf 6 = .ok (.getfield 56, 3) := by decide +kernel
theorem dX5_worthOf_9 : decode cX5_worthOf 9 = .ok (.if_icmp .ge 26, 3) := by decide +kernel
theorem dX5_worthOf_12 : decode cX5_worthOf 12 = .ok (.iload_n 1, 1) := by decide +kernel
theorem dX5_worthOf_13 : decode cX5_worthOf 13 = .ok (.iload_n 3, 1) := by decide +kernel
theorem dX5_worthOf_14 : decode cX5_worthOf 14 = .ok (.ishr, 1) := by decide +kernel
theorem dX5_worthOf_15 : decode cX5_worthOf 15 = .ok (.iconst 1, 1) := by decide +kernel
theorem dX5_worthOf_16 : decode cX5_worthOf 16 = .ok (.iand, 1) := by decide +kernel
theorem dX5_worthOf_17 : decode cX5_worthOf 17 = .ok (.ifCond .eq 12, 3) := by decide +kernel
theorem dX5_worthOf_20 : decode cX5_worthOf 20 = .ok (.iload_n 2, 1) := by decide +kernel
theorem dX5_worthOf_21 : decode cX5_worthOf 21 = .ok (.aload_n 0, 1) := by decide +kernel
theorem dX5_worthOf_22 : decode cX5_worthOf 22 = .ok (.getfield 25, 3) := by decide +kernel
theorem dX5_worthOf_25 : decode cX5_worthOf 25 = .ok (.iload_n 3, 1) := by decide +kernel
theorem dX5_worthOf_26 : decode cX5_worthOf 26 = .ok (.iaload, 1) := by decide +kernel
theorem dX5_worthOf_27 : decode cX5_worthOf 27 = .ok (.iadd, 1) := by decide +kernel
theorem dX5_worthOf_28 : decode cX5_worthOf 28 = .ok (.istore_n 2, 1) := by decide +kernel
theorem dX5_worthOf_29 : decode cX5_worthOf 29 = .ok (.iinc 3 1, 3) := by decide +kernel
theorem dX5_worthOf_32 : decode cX5_worthOf 32 = .ok (.goto (-28), 3) := by decide +kernel
theorem dX5_worthOf_35 : decode cX5_worthOf 35 = .ok (.iload_n 2, 1) := by decide +kernel
theorem dX5_worthOf_36 : decode cX5_worthOf 36 = .ok (.ireturn, 1) := by decide +kernel
theorem dX5_pegsFor_0 : decode cX5_pegsFor 0 = .ok (.aload_n 0, 1) := by decide +kernel
theorem dX5_pegsFor_1 : decode cX5_pegsFor 1 = .ok (.getfield 15, 3) := by decide +kernel
theorem dX5_pegsFor_4 : decode cX5_pegsFor 4 = .ok (.iload_n 1, 1) := by decide +kernel
theorem dX5_pegsFor_5 : decode cX5_pegsFor 5 = .ok (.iaload, 1) := by decide +kernel
theorem dX5_pegsFor_6 : decode cX5_pegsFor 6 = .ok (.iconst 1, 1) := by decide +kernel
theorem dX5_pegsFor_7 : decode cX5_pegsFor 7 = .ok (.if_icmp .ne 7, 3) := by decide +kernel
theorem dX5_pegsFor_10 : decode cX5_pegsFor 10 = .ok (.iconst 4, 1) := by decide +kernel
theorem dX5_pegsFor_11 : decode cX5_pegsFor 11 = .ok (.goto 4, 3) := by decide +kernel
theorem dX5_pegsFor_14 : decode cX5_pegsFor 14 = .ok (.iconst 2, 1) := by decide +kernel
theorem dX5_pegsFor_15 : decode cX5_pegsFor 15 = .ok (.ireturn, 1) := by decide +kernel
theorem dX5_windAt_0 : decode cX5_windAt 0 = .ok (.aload_n 0, 1) := by decide +kernel
theorem dX5_windAt_1 : decode cX5_windAt 1 = .ok (.getfield 63, 3) := by decide +kernel
theorem dX5_windAt_4 : decode cX5_windAt 4 = .ok (.iconst 1, 1) := by decide +kernel
theorem dX5_windAt_5 : decode cX5_windAt 5 = .ok (.if_icmp .ge 7, 3) := by decide +kernel
theorem dX5_windAt_8 : decode cX5_windAt 8 = .ok (.iconst 0, 1) := by decide +kernel
theorem dX5_windAt_9 : decode cX5_windAt 9 = .ok (.goto 16, 3) := by decide +kernel
theorem dX5_windAt_12 : decode cX5_windAt 12 = .ok (.aload_n 0, 1) := by decide +kernel
theorem dX5_windAt_13 : decode cX5_windAt 13 = .ok (.getfield 34, 3) := by decide +kernel
theorem dX5_windAt_16 : decode cX5_windAt 16 = .ok (.iload_n 1, 1) := by decide +kernel
theorem dX5_windAt_17 : decode cX5_windAt 17 = .ok (.aload_n 0, 1) := by decide +kernel
theorem dX5_windAt_18 : decode cX5_windAt 18 = .ok (.getfield 63, 3) := by decide +kernel
theorem dX5_windAt_21 : decode cX5_windAt 21 = .ok (.invokestatic 95, 3) := by decide +kernel
theorem dX5_windAt_24 : decode cX5_windAt 24 = .ok (.iaload, 1) := by decide +kernel
theorem dX5_windAt_25 : decode cX5_windAt 25 = .ok (.ireturn, 1) := by decide +kernel
theorem dX5_pullOn_0 : decode cX5_pullOn 0 = .ok (.aload_n 0, 1) := by decide +kernel
theorem dX5_pullOn_1 : decode cX5_pullOn 1 = .ok (.getfield 40, 3) := by decide +kernel
theorem dX5_pullOn_4 : decode cX5_pullOn 4 = .ok (.iload_n 3, 1) := by decide +kernel
theorem dX5_pullOn_5 : decode cX5_pullOn 5 = .ok (.aload_n 0, 1) := by decide +kernel
theorem dX5_pullOn_6 : decode cX5_pullOn 6 = .ok (.iload_n 1, 1) := by decide +kernel
theorem dX5_pullOn_7 : decode cX5_pullOn 7 = .ok (.iload_n 2, 1) := by decide +kernel
theorem dX5_pullOn_8 : decode cX5_pullOn 8 = .ok (.invokevirtual 98, 3) := by decide +kernel
theorem dX5_pullOn_11 : decode cX5_pullOn 11 = .ok (.aload_n 0, 1) := by decide +kernel
theorem dX5_pullOn_12 : decode cX5_pullOn 12 = .ok (.getfield 19, 3) := by decide +kernel
theorem dX5_pullOn_15 : decode cX5_pullOn 15 = .ok (.iload_n 1, 1) := by decide +kernel
theorem dX5_pullOn_16 : decode cX5_pullOn 16 = .ok (.iaload, 1) := by decide +kernel
theorem dX5_pullOn_17 : decode cX5_pullOn 17 = .ok (.invokevirtual 101, 3) := by decide +kernel
theorem dX5_pullOn_20 : decode cX5_pullOn 20 = .ok (.istore 4, 2) := by decide +kernel
theorem dX5_pullOn_22 : decode cX5_pullOn 22 = .ok (.iconst 0, 1) := by decide +kernel
theorem dX5_pullOn_23 : decode cX5_pullOn 23 = .ok (.bipush 99, 2) := by decide +kernel
theorem dX5_pullOn_25 : decode cX5_pullOn 25 = .ok (.iload 4, 2) := by decide +kernel
theorem dX5_pullOn_27 : decode cX5_pullOn 27 = .ok (.invokestatic 80, 3) := by decide +kernel
theorem dX5_pullOn_30 : decode cX5_pullOn 30 = .ok (.invokestatic 86, 3) := by decide +kernel
theorem dX5_pullOn_33 : decode cX5_pullOn 33 = .ok (.istore 4, 2) := by decide +kernel
theorem dX5_pullOn_35 : decode cX5_pullOn 35 = .ok (.aload_n 0, 1) := by decide +kernel
theorem dX5_pullOn_36 : decode cX5_pullOn 36 = .ok (.getfield 15, 3) := by decide +kernel
theorem dX5_pullOn_39 : decode cX5_pullOn 39 = .ok (.iload_n 1, 1) := by decide +kernel
theorem dX5_pullOn_40 : decode cX5_pullOn 40 = .ok (.iaload, 1) := by decide +kernel
theorem dX5_pullOn_41 : decode cX5_pullOn 41 = .ok (.iconst 2, 1) := by decide +kernel
theorem dX5_pullOn_42 : decode cX5_pullOn 42 = .ok (.if_icmp .ne 10, 3) := by decide +kernel
theorem dX5_pullOn_45 : decode cX5_pullOn 45 = .ok (.iconst 2, 1) := by decide +kernel
theorem dX5_pullOn_46 : decode cX5_pullOn 46 = .ok (.iload 4, 2) := by decide +kernel
theorem dX5_pullOn_48 : decode cX5_pullOn 48 = .ok (.imul, 1) := by decide +kernel
theorem dX5_pullOn_49 : decode cX5_pullOn 49 = .ok (.goto 5, 3) := by decide +kernel
theorem dX5_pullOn_52 : decode cX5_pullOn 52 = .ok (.iload 4, 2) := by decide +kernel
theorem dX5_pullOn_54 : decode cX5_pullOn 54 = .ok (.ireturn, 1) := by decide +kernel
theorem dX5_wetAfter_0 : decode cX5_wetAfter 0 = .ok (.aload_n 0, 1) := by decide +kernel
theorem dX5_wetAfter_1 : decode cX5_wetAfter 1 = .ok (.getfield 44, 3) := by decide +kernel
theorem dX5_wetAfter_4 : decode cX5_wetAfter 4 = .ok (.iload_n 3, 1) := by decide +kernel
theorem dX5_wetAfter_5 : decode cX5_wetAfter 5 = .ok (.aload_n 0, 1) := by decide +kernel
theorem dX5_wetAfter_6 : decode cX5_wetAfter 6 = .ok (.iload_n 1, 1) := by decide +kernel
theorem dX5_wetAfter_7 : decode cX5_wetAfter 7 = .ok (.iload_n 2, 1) := by decide +kernel
theorem dX5_wetAfter_8 : decode cX5_wetAfter 8 = .ok (.invokevirtual 98, 3) := by decide +kernel
theorem dX5_wetAfter_11 : decode cX5_wetAfter 11 = .ok (.aload_n 0, 1) := by decide +kernel
theorem dX5_wetAfter_12 : decode cX5_wetAfter 12 = .ok (.getfield 19, 3) := by decide +kernel
theorem dX5_wetAfter_15 : decode cX5_wetAfter 15 = .ok (.iload_n 1, 1) := by decide +kernel
theorem dX5_wetAfter_16 : decode cX5_wetAfter 16 = .ok (.iaload, 1) := by decide +kernel
theorem dX5_wetAfter_17 : decode cX5_wetAfter 17 = .ok (.invokevirtual 101, 3) := by decide +kernel
theorem dX5_wetAfter_20 : decode cX5_wetAfter 20 = .ok (.istore 4, 2) := by decide +kernel
theorem dX5_wetAfter_22 : decode cX5_wetAfter 22 = .ok (.iconst 0, 1) := by decide +kernel
theorem dX5_wetAfter_23 : decode cX5_wetAfter 23 = .ok (.iload_n 2, 1) := by decide +kernel
theorem dX5_wetAfter_24 : decode cX5_wetAfter 24 = .ok (.iconst 0, 1) := by decide +kernel
theorem dX5_wetAfter_25 : decode cX5_wetAfter 25 = .ok (.bipush 9, 2) := by decide +kernel
theorem dX5_wetAfter_27 : decode cX5_wetAfter 27 = .ok (.iload 4, 2) := by decide +kernel
theorem dX5_wetAfter_29 : decode cX5_wetAfter 29 = .ok (.invokestatic 80, 3) := by decide +kernel
theorem dX5_wetAfter_32 : decode cX5_wetAfter 32 = .ok (.invokestatic 86, 3) := by decide +kernel
theorem dX5_wetAfter_35 : decode cX5_wetAfter 35 = .ok (.isub, 1) := by decide +kernel
theorem dX5_wetAfter_36 : decode cX5_wetAfter 36 = .ok (.invokestatic 86, 3) := by decide +kernel
theorem dX5_wetAfter_39 : decode cX5_wetAfter 39 = .ok (.ireturn, 1) := by decide +kernel
theorem dX5_massOf_0 : decode cX5_massOf 0 = .ok (.aload_n 0, 1) := by decide +kernel
theorem dX5_massOf_1 : decode cX5_massOf 1 = .ok (.getfield 22, 3) := by decide +kernel
theorem dX5_massOf_4 : decode cX5_massOf 4 = .ok (.iload_n 1, 1) := by decide +kernel
theorem dX5_massOf_5 : decode cX5_massOf 5 = .ok (.iaload, 1) := by decide +kernel
theorem dX5_massOf_6 : decode cX5_massOf 6 = .ok (.aload_n 0, 1) := by decide +kernel
theorem dX5_massOf_7 : decode cX5_massOf 7 = .ok (.getfield 15, 3) := by decide +kernel
theorem dX5_massOf_10 : decode cX5_massOf 10 = .ok (.iload_n 1, 1) := by decide +kernel
theorem dX5_massOf_11 : decode cX5_massOf 11 = .ok (.iaload, 1) := by decide +kernel
theorem dX5_massOf_12 : decode cX5_massOf 12 = .ok (.iconst 3, 1) := by decide +kernel
theorem dX5_massOf_13 : decode cX5_massOf 13 = .ok (.if_icmp .ne 9, 3) := by decide +kernel
theorem dX5_massOf_16 : decode cX5_massOf 16 = .ok (.iconst 2, 1) := by decide +kernel
theorem dX5_massOf_17 : decode cX5_massOf 17 = .ok (.iload_n 2, 1) := by decide +kernel
theorem dX5_massOf_18 : decode cX5_massOf 18 = .ok (.imul, 1) := by decide +kernel
theorem dX5_massOf_19 : decode cX5_massOf 19 = .ok (.goto 4, 3) := by decide +kernel
theorem dX5_massOf_22 : decode cX5_massOf 22 = .ok (.iload_n 2, 1) := by decide +kernel
theorem dX5_massOf_23 : decode cX5_massOf 23 = .ok (.iadd, 1) := by decide +kernel
theorem dX5_massOf_24 : decode cX5_massOf 24 = .ok (.ireturn, 1) := by decide +kernel
theorem dX6_init_0 : decode cX6_init 0 = .ok (.aload_n 0, 1) := by decide +kernel
theorem dX6_init_1 : decode cX6_init 1 = .ok (.invokespecial 3, 3) := by decide +kernel
theorem dX6_init_4 : decode cX6_init 4 = .ok (.aload_n 0, 1) := by decide +kernel
theorem dX6_init_5 : decode cX6_init 5 = .ok (.bipush 17, 2) := by decide +kernel
theorem dX6_init_7 : decode cX6_init 7 = .ok (.anewarray 9, 3) := by decide +kernel
theorem dX6_init_10 : decode cX6_init 10 = .ok (.putfield 11, 3) := by decide +kernel
theorem dX6_init_13 : decode cX6_init 13 = .ok (.aload_n 0, 1) := by decide +kernel
theorem dX6_init_14 : decode cX6_init 14 = .ok (.iconst 4, 1) := by decide +kernel
theorem dX6_init_15 : decode cX6_init 15 = .ok (.anewarray 9, 3) := by decide +kernel
theorem dX6_init_18 : decode cX6_init 18 = .ok (.putfield 17, 3) := by decide +kernel
theorem dX6_init_21 : decode cX6_init 21 = .ok (.aload_n 0, 1) := by decide +kernel
theorem dX6_init_22 : decode cX6_init 22 = .ok (.iconst 4, 1) := by decide +kernel
theorem dX6_init_23 : decode cX6_init 23 = .ok (.anewarray 20, 3) := by decide +kernel
theorem dX6_init_26 : decode cX6_init 26 = .ok (.putfield 22, 3) := by decide +kernel
theorem dX6_init_29 : decode cX6_init 29 = .ok (.aload_n 0, 1) := by decide +kernel
theorem dX6_init_30 : decode cX6_init 30 = .ok (.iconst 4, 1) := by decide +kernel
theorem dX6_init_31 : decode cX6_init 31 = .ok (.newarray .boolean, 2) := by decide +kernel
theorem dX6_init_33 : decode cX6_init 33 = .ok (.putfield 26, 3) := by decide +kernel
theorem dX6_init_36 : decode cX6_init 36 = .ok (.iconst 0, 1) := by decide +kernel
theorem dX6_init_37 : decode cX6_init 37 = .ok (.istore_n 1, 1) := by decide +kernel
theorem dX6_init_38 : decode cX6_init 38 = .ok (.iload_n 1, 1) := by decide +kernel
theorem dX6_init_39 : decode cX6_init 39 = .ok (.aload_n 0, 1) := by decide +kernel
theorem dX6_init_40 : decode cX6_init 40 = .ok (.getfield 11, 3) := by decide +kernel
theorem dX6_init_43 : decode cX6_init 43 = .ok (.arraylength, 1) := by decide +kernel
theorem dX6_init_44 : decode cX6_init 44 = .ok (.if_icmp .ge 22, 3) := by decide +kernel
theorem dX6_init_47 : decode cX6_init 47 = .ok (.aload_n 0, 1) := by decide +kernel
theorem dX6_init_48 : decode cX6_init 48 = .ok (.getfield 11, 3) := by decide +kernel
theorem dX6_init_51 : decode cX6_init 51 = .ok (.iload_n 1, 1) := by decide +kernel
theorem dX6_init_52 : decode cX6_init 52 = .ok (.new 9, 3) := by decide +kernel
theorem dX6_init_55 : decode cX6_init 55 = .ok (.dup, 1) := by decide +kernel
theorem dX6_init_56 : decode cX6_init 56 = .ok (.invokespecial 30, 3) := by decide +kernel
theorem dX6_init_59 : decode cX6_init 59 = .ok (.aastore, 1) := by decide +kernel
theorem dX6_init_60 : decode cX6_init 60 = .ok (.iinc 1 1, 3) := by decide +kernel
theorem dX6_init_63 : decode cX6_init 63 = .ok (.goto (-25), 3) := by decide +kernel
theorem dX6_init_66 : decode cX6_init 66 = .ok (.iconst 0, 1) := by decide +kernel
theorem dX6_init_67 : decode cX6_init 67 = .ok (.istore_n 1, 1) := by decide +kernel
theorem dX6_init_68 : decode cX6_init 68 = .ok (.iload_n 1, 1) := by decide +kernel
theorem dX6_init_69 : decode cX6_init 69 = .ok (.iconst 4, 1) := by decide +kernel
theorem dX6_init_70 : decode cX6_init 70 = .ok (.if_icmp .ge 35, 3) := by decide +kernel
theorem dX6_init_73 : decode cX6_init 73 = .ok (.aload_n 0, 1) := by decide +kernel
theorem dX6_init_74 : decode cX6_init 74 = .ok (.getfield 17, 3) := by decide +kernel
theorem dX6_init_77 : decode cX6_init 77 = .ok (.iload_n 1, 1) := by decide +kernel
theorem dX6_init_78 : decode cX6_init 78 = .ok (.new 9, 3) := by decide +kernel
theorem dX6_init_81 : decode cX6_init 81 = .ok (.dup, 1) := by decide +kernel
theorem dX6_init_82 : decode cX6_init 82 = .ok (.invokespecial 30, 3) := by decide +kernel
theorem dX6_init_85 : decode cX6_init 85 = .ok (.aastore, 1) := by decide +kernel
theorem dX6_init_86 : decode cX6_init 86 = .ok (.aload_n 0, 1) := by decide +kernel
theorem dX6_init_87 : decode cX6_init 87 = .ok (.getfield 22, 3) := by decide +kernel
theorem dX6_init_90 : decode cX6_init 90 = .ok (.iload_n 1, 1) := by decide +kernel
theorem dX6_init_91 : decode cX6_init 91 = .ok (.new 20, 3) := by decide +kernel
theorem dX6_init_94 : decode cX6_init 94 = .ok (.dup, 1) := by decide +kernel
theorem dX6_init_95 : decode cX6_init 95 = .ok (.invokespecial 31, 3) := by decide +kernel
theorem dX6_init_98 : decode cX6_init 98 = .ok (.aastore, 1) := by decide +kernel
theorem dX6_init_99 : decode cX6_init 99 = .ok (.iinc 1 1, 3) := by decide +kernel
theorem dX6_init_102 : decode cX6_init 102 = .ok (.goto (-34), 3) := by decide +kernel
theorem dX6_init_105 : decode cX6_init 105 = .ok (.return_, 1) := by decide +kernel
theorem dX6_clear_0 : decode cX6_clear 0 = .ok (.aload_n 0, 1) := by decide +kernel
theorem dX6_clear_1 : decode cX6_clear 1 = .ok (.iconst 0, 1) := by decide +kernel
theorem dX6_clear_2 : decode cX6_clear 2 = .ok (.putfield 32, 3) := by decide +kernel
theorem dX6_clear_5 : decode cX6_clear 5 = .ok (.iconst 0, 1) := by decide +kernel
theorem dX6_clear_6 : decode cX6_clear 6 = .ok (.istore_n 1, 1) := by decide +kernel
theorem dX6_clear_7 : decode cX6_clear 7 = .ok (.iload_n 1, 1) := by decide +kernel
theorem dX6_clear_8 : decode cX6_clear 8 = .ok (.iconst 4, 1) := by decide +kernel
theorem dX6_clear_9 : decode cX6_clear 9 = .ok (.if_icmp .ge 16, 3) := by decide +kernel
theorem dX6_clear_12 : decode cX6_clear 12 = .ok (.aload_n 0, 1) := by decide +kernel
theorem dX6_clear_13 : decode cX6_clear 13 = .ok (.getfield 26, 3) := by decide +kernel
theorem dX6_clear_16 : decode cX6_clear 16 = .ok (.iload_n 1, 1) := by decide +kernel
theorem dX6_clear_17 : decode cX6_clear 17 = .ok (.iconst 0, 1) := by decide +kernel
theorem dX6_clear_18 : decode cX6_clear 18 = .ok (.bastore, 1) := by decide +kernel
theorem dX6_clear_19 : decode cX6_clear 19 = .ok (.iinc 1 1, 3) := by decide +kernel
theorem dX6_clear_22 : decode cX6_clear 22 = .ok (.goto (-15), 3) := by decide +kernel
theorem dX6_clear_25 : decode cX6_clear 25 = .ok (.return_, 1) := by decide +kernel
theorem dX6_draft_0 : decode cX6_draft 0 = .ok (.aload_n 0, 1) := by decide +kernel
theorem dX6_draft_1 : decode cX6_draft 1 = .ok (.getfield 11, 3) := by decide +kernel
theorem dX6_draft_4 : decode cX6_draft 4 = .ok (.aload_n 0, 1) := by decide +kernel
theorem dX6_draft_5 : decode cX6_draft 5 = .ok (.getfield 36, 3) := by decide +kernel
theorem dX6_draft_8 : decode cX6_draft 8 = .ok (.aaload, 1) := by decide +kernel
theorem dX6_draft_9 : decode cX6_draft 9 = .ok (.aload_n 1, 1) := by decide +kernel
theorem dX6_draft_10 : decode cX6_draft 10 = .ok (.invokevirtual 39, 3) := by decide +kernel
theorem dX6_draft_13 : decode cX6_draft 13 = .ok (.return_, 1) := by decide +kernel
theorem dX6_keepDraft_0 : decode cX6_keepDraft 0 = .ok (.aload_n 0, 1) := by decide +kernel
theorem dX6_keepDraft_1 : decode cX6_keepDraft 1 = .ok (.aload_n 0, 1) := by decide +kernel
theorem dX6_keepDraft_2 : decode cX6_keepDraft 2 = .ok (.getfield 36, 3) := by decide +kernel
theorem dX6_keepDraft_5 : decode cX6_keepDraft 5 = .ok (.iconst 1, 1) := by decide +kernel
theorem dX6_keepDraft_6 : decode cX6_keepDraft 6 = .ok (.iadd, 1) := by decide +kernel
theorem dX6_keepDraft_7 : decode cX6_keepDraft 7 = .ok (.aload_n 0, 1) := by decide +kernel
theorem dX6_keepDraft_8 : decode cX6_keepDraft 8 = .ok (.getfield 11, 3) := by decide +kernel
theorem dX6_keepDraft_11 : decode cX6_keepDraft 11 = .ok (.arraylength, 1) := by decide +kernel
theorem dX6_keepDraft_12 : decode cX6_keepDraft 12 = .ok (.irem, 1) := by decide +kernel
theorem dX6_keepDraft_13 : decode cX6_keepDraft 13 = .ok (.putfield 36, 3) := by decide +kernel
theorem dX6_keepDraft_16 : decode cX6_keepDraft 16 = .ok (.aload_n 0, 1) := by decide +kernel
theorem dX6_keepDraft_17 : decode cX6_keepDraft 17 = .ok (.bipush 16, 2) := by decide +kernel
theorem dX6_keepDraft_19 : decode cX6_keepDraft 19 = .ok (.aload_n 0, 1) := by decide +kernel
theorem dX6_keepDraft_20 : decode cX6_keepDraft 20 = .ok (.getfield 32, 3) := by decide +kernel
theorem dX6_keepDraft_23 : decode cX6_keepDraft 23 = .ok (.iconst 1, 1) := by decide +kernel
theorem dX6_keepDraft_24 : decode cX6_keepDraft 24 = .ok (.iadd, 1) := by decide +kernel
theorem dX6_keepDraft_25 : decode cX6_keepDraft 25 = .ok (.invokestatic 43, 3) := by decide +kernel
theorem dX6_keepDraft_28 : decode cX6_keepDraft 28 = .ok (.putfield 32, 3) := by decide +kernel
theorem dX6_keepDraft_31 : decode cX6_keepDraft 31 = .ok (.return_, 1) := by decide +kernel
theorem dX6_stepBack_0 : decode cX6_stepBack 0 = .ok (.aload_n 0, 1) := by decide +kernel
theorem dX6_stepBack_1 : decode cX6_stepBack 1 = .ok (.getfield 32, 3) := by decide +kernel
theorem dX6_stepBack_4 : decode cX6_stepBack 4 = .ok (.ifCond .ne 5, 3) := by decide +kernel
theorem dX6_stepBack_7 : decode cX6_stepBack 7 = .ok (.iconst 0, 1) := by decide +kernel
theorem dX6_stepBack_8 : decode cX6_stepBack 8 = .ok (.ireturn, 1) := by decide +kernel
theorem dX6_stepBack_9 : decode cX6_stepBack 9 = .ok (.aload_n 0, 1) := by decide +kernel
theorem dX6_stepBack_10 : decode cX6_stepBack 10 = .ok (.dup, 1) := by decide +kernel
theorem dX6_stepBack_11 : decode cX6_stepBack 11 = .ok (.getfield 32, 3) := by decide +kernel
theorem dX6_stepBack_14 : decode cX6_stepBack 14 = .ok (.iconst 1, 1) := by decide +kernel
theorem dX6_stepBack_15 : decode cX6_stepBack 15 = .ok (.isub, 1) := by decide +kernel
theorem dX6_stepBack_16 : decode cX6_stepBack 16 = .ok (.putfield 32, 3) := by decide +kernel
theorem dX6_stepBack_19 : decode cX6_stepBack 19 = .ok (.aload_n 0, 1) := by decide +kernel
theorem dX6_stepBack_20 : decode cX6_stepBack 20 = .ok (.aload_n 0, 1) := by decide +kernel
theorem dX6_stepBack_21 : decode cX6_stepBack 21 = .ok (.getfield 36, 3) := by decide +kernel
theorem dX6_stepBack_24 : decode cX6_stepBack 24 = .ok (.aload_n 0, 1) := by decide +kernel
theorem dX6_stepBack_25 : decode cX6_stepBack 25 = .ok (.getfield 11, 3) := by decide +kernel
theorem dX6_stepBack_28 : decode cX6_stepBack 28 = .ok (.arraylength, 1) := by decide +kernel
theorem dX6_stepBack_29 : decode cX6_stepBack 29 = .ok (.iadd, 1) := by decide +kernel
theorem dX6_stepBack_30 : decode cX6_stepBack 30 = .ok (.iconst 1, 1) := by decide +kernel
theorem dX6_stepBack_31 : decode cX6_stepBack 31 = .ok (.isub, 1) := by decide +kernel
theorem dX6_stepBack_32 : decode cX6_stepBack 32 = .ok (.aload_n 0, 1) := by decide +kernel
theorem dX6_stepBack_33 : decode cX6_stepBack 33 = .ok (.getfield 11, 3) := by decide +kernel
theorem dX6_stepBack_36 : decode cX6_stepBack 36 = .ok (.arraylength, 1) := by decide +kernel
theorem dX6_stepBack_37 : decode cX6_stepBack 37 = .ok (.irem, 1) := by decide +kernel
theorem dX6_stepBack_38 : decode cX6_stepBack 38 = .ok (.putfield 36, 3) := by decide +kernel
theorem dX6_stepBack_41 : decode cX6_stepBack 41 = .ok (.aload_n 1, 1) := by decide +kernel
theorem dX6_stepBack_42 : decode cX6_stepBack 42 = .ok (.aload_n 0, 1) := by decide +kernel
theorem dX6_stepBack_43 : decode cX6_stepBack 43 = .ok (.getfield 11, 3) := by decide +kernel
theorem dX6_stepBack_46 : decode cX6_stepBack 46 = .ok (.aload_n 0, 1) := by decide +kernel
theorem dX6_stepBack_47 : decode cX6_stepBack 47 = .ok (.getfield 36, 3) := by decide +kernel
theorem dX6_stepBack_50 : decode cX6_stepBack 50 = .ok (.aaload, 1) := by decide +kernel
theorem dX6_stepBack_51 : decode cX6_stepBack 51 = .ok (.invokevirtual 39, 3) := by decide +kernel
theorem dX6_stepBack_54 : decode cX6_stepBack 54 = .ok (.iconst 1, 1) := by decide +kernel
theorem dX6_stepBack_55 : decode cX6_stepBack 55 = .ok (.ireturn, 1) := by decide +kernel
theorem dX6_lay_0 : decode cX6_lay 0 = .ok (.aload_n 0, 1) := by decide +kernel
theorem dX6_lay_1 : decode cX6_lay 1 = .ok (.getfield 17, 3) := by decide +kernel
theorem dX6_lay_4 : decode cX6_lay 4 = .ok (.iload_n 1, 1) := by decide +kernel
theorem dX6_lay_5 : decode cX6_lay 5 = .ok (.aaload, 1) := by decide +kernel
theorem dX6_lay_6 : decode cX6_lay 6 = .ok (.aload_n 2, 1) := by decide +kernel
theorem dX6_lay_7 : decode cX6_lay 7 = .ok (.invokevirtual 39, 3) := by decide +kernel
theorem dX6_lay_10 : decode cX6_lay 10 = .ok (.aload_n 0, 1) := by decide +kernel
theorem dX6_lay_11 : decode cX6_lay 11 = .ok (.getfield 22, 3) := by decide +kernel
theorem dX6_lay_14 : decode cX6_lay 14 = .ok (.iload_n 1, 1) := by decide +kernel
theorem dX6_lay_15 : decode cX6_lay 15 = .ok (.aaload, 1) := by decide +kernel
theorem dX6_lay_16 : decode cX6_lay 16 = .ok (.aload_n 3, 1) := by decide +kernel
theorem dX6_lay_17 : decode cX6_lay 17 = .ok (.invokevirtual 49, 3) := by decide +kernel
theorem dX6_lay_20 : decode cX6_lay 20 = .ok (.aload_n 0, 1) := by decide +kernel
theorem dX6_lay_21 : decode cX6_lay 21 = .ok (.getfield 26, 3) := by decide +kernel
theorem dX6_lay_24 : decode cX6_lay 24 = .ok (.iload_n 1, 1) := by decide +kernel
theorem dX6_lay_25 : decode cX6_lay 25 = .ok (.iconst 1, 1) := by decide +kernel
theorem dX6_lay_26 : decode cX6_lay 26 = .ok (.bastore, 1) := by decide +kernel
theorem dX6_lay_27 : decode cX6_lay 27 = .ok (.return_, 1) := by decide +kernel
theorem dX6_goBack_0 : decode cX6_goBack 0 = .ok (.aload_n 0, 1) := by decide +kernel
theorem dX6_goBack_1 : decode cX6_goBack 1 = .ok (.getfield 26, 3) := by decide +kernel
theorem dX6_goBack_4 : decode cX6_goBack 4 = .ok (.iload_n 1, 1) := by decide +kernel
theorem dX6_goBack_5 : decode cX6_goBack 5 = .ok (.baload, 1) := by decide +kernel
theorem dX6_goBack_6 : decode cX6_goBack 6 = .ok (.ifCond .ne 5, 3) := by decide +kernel
theorem dX6_goBack_9 : decode cX6_goBack 9 = .ok (.iconst 0, 1) := by decide +kernel
theorem dX6_goBack_10 : decode cX6_goBack 10 = .ok (.ireturn, 1) := by decide +kernel
theorem dX6_goBack_11 : decode cX6_goBack 11 = .ok (.aload_n 2, 1) := by decide +kernel
theorem dX6_goBack_12 : decode cX6_goBack 12 = .ok (.aload_n 0, 1) := by decide +kernel
theorem dX6_goBack_13 : decode cX6_goBack 13 = .ok (.getfield 17, 3) := by decide +kernel
theorem dX6_goBack_16 : decode cX6_goBack 16 = .ok (.iload_n 1, 1) := by decide +kernel
theorem dX6_goBack_17 : decode cX6_goBack 17 = .ok (.aaload, 1) := by decide +kernel
theorem dX6_goBack_18 : decode cX6_goBack 18 = .ok (.invokevirtual 39, 3) := by decide +kernel
theorem dX6_goBack_21 : decode cX6_goBack 21 = .ok (.aload_n 3, 1) := by decide +kernel
theorem dX6_goBack_22 : decode cX6_goBack 22 = .ok (.aload_n 0, 1) := by decide +kernel
theorem dX6_goBack_23 : decode cX6_goBack 23 = .ok (.getfield 22, 3) := by decide +kernel
theorem dX6_goBack_26 : decode cX6_goBack 26 = .ok (.iload_n 1, 1) := by decide +kernel
theorem dX6_goBack_27 : decode cX6_goBack 27 = .ok (.aaload, 1) := by decide +kernel
theorem dX6_goBack_28 : decode cX6_goBack 28 = .ok (.invokevirtual 49, 3) := by decide +kernel
theorem dX6_goBack_31 : decode cX6_goBack 31 = .ok (.aload_n 0, 1) := by decide +kernel
theorem dX6_goBack_32 : decode cX6_goBack 32 = .ok (.iconst 0, 1) := by decide +kernel
theorem dX6_goBack_33 : decode cX6_goBack 33 = .ok (.putfield 32, 3) := by decide +kernel
theorem dX6_goBack_36 : decode cX6_goBack 36 = .ok (.iconst 1, 1) := by decide +kernel
theorem dX6_goBack_37 : decode cX6_goBack 37 = .ok (.ireturn, 1) := by decide +kernel
