theorem dX0_init_0 : decode cX0_init 0 = .ok (.aload_n 0, 1) := by decide +kernel
theorem dX0_init_1 : decode cX0_init 1 = .ok (.invokespecial 3, 3) := by decide +kernel
theorem dX0_init_4 : decode cX0_init 4 = .ok (.aload_n 0, 1) := by decide +kernel
theorem dX0_init_5 : decode cX0_init 5 = .ok (.bipush 52, 2) := by decide +kernel
theorem dX0_init_7 : decode cX0_init 7 = .ok (.newarray .int, 2) := by decide +kernel
theorem dX0_init_9 : decode cX0_init 9 = .ok (.putfield 9, 3) := by decide +kernel
theorem dX0_init_12 : decode cX0_init 12 = .ok (.return_, 1) := by decide +kernel
theorem dX0_value_0 : decode cX0_value 0 = .ok (.iconst (-1), 1) := by decide +kernel
theorem dX0_value_1 : decode cX0_value 1 = .ok (.istore 4, 2) := by decide +kernel
theorem dX0_value_3 : decode cX0_value 3 = .ok (.aload_n 1, 1) := by decide +kernel
theorem dX0_value_4 : decode cX0_value 4 = .ok (.getfield 15, 3) := by decide +kernel
theorem dX0_value_7 : decode cX0_value 7 = .ok (.aload_n 1, 1) := by decide +kernel
theorem dX0_value_8 : decode cX0_value 8 = .ok (.getfield 21, 3) := by decide +kernel
theorem dX0_value_11 : decode cX0_value 11 = .ok (.arraylength, 1) := by decide +kernel
theorem dX0_value_12 : decode cX0_value 12 = .ok (.invokestatic 24, 3) := by decide +kernel
theorem dX0_value_15 : decode cX0_value 15 = .ok (.istore 5, 2) := by decide +kernel
theorem dX0_value_17 : decode cX0_value 17 = .ok (.iconst 0, 1) := by decide +kernel
theorem dX0_value_18 : decode cX0_value 18 = .ok (.iload_n 2, 1) := by decide +kernel
theorem dX0_value_19 : decode cX0_value 19 = .ok (.invokestatic 30, 3) := by decide +kernel
theorem dX0_value_22 : decode cX0_value 22 = .ok (.istore 6, 2) := by decide +kernel
theorem dX0_value_24 : decode cX0_value 24 = .ok (.iload 6, 2) := by decide +kernel
theorem dX0_value_26 : decode cX0_value 26 = .ok (.iload 5, 2) := by decide +kernel
theorem dX0_value_28 : decode cX0_value 28 = .ok (.if_icmp .ge 278, 3) := by decide +kernel
theorem dX0_value_31 : decode cX0_value 31 = .ok (.aload_n 1, 1) := by decide +kernel
theorem dX0_value_32 : decode cX0_value 32 = .ok (.getfield 21, 3) := by decide +kernel
theorem dX0_value_35 : decode cX0_value 35 = .ok (.iload 6, 2) := by decide +kernel
theorem dX0_value_37 : decode cX0_value 37 = .ok (.iaload, 1) := by decide +kernel
theorem dX0_value_38 : decode cX0_value 38 = .ok (.bipush 31, 2) := by decide +kernel
theorem dX0_value_40 : decode cX0_value 40 = .ok (.iand, 1) := by decide +kernel
theorem dX0_value_41 : decode cX0_value 41 = .ok (.istore 7, 2) := by decide +kernel
theorem dX0_value_43 : decode cX0_value 43 = .ok (.aload_n 1, 1) := by decide +kernel
theorem dX0_value_44 : decode cX0_value 44 = .ok (.getfield 21, 3) := by decide +kernel
theorem dX0_value_47 : decode cX0_value 47 = .ok (.iload 6, 2) := by decide +kernel
theorem dX0_value_49 : decode cX0_value 49 = .ok (.iaload, 1) := by decide +kernel
theorem dX0_value_50 : decode cX0_value 50 = .ok (.iconst 5, 1) := by decide +kernel
theorem dX0_value_51 : decode cX0_value 51 = .ok (.ishr, 1) := by decide +kernel
theorem dX0_value_52 : decode cX0_value 52 = .ok (.istore 8, 2) := by decide +kernel
theorem dX0_value_54 : decode cX0_value 54 = .ok (.iload 7, 2) := by decide +kernel
theorem dX0_value_56 : decode cX0_value 56 = .ok (.iconst 1, 1) := by decide +kernel
theorem dX0_value_57 : decode cX0_value 57 = .ok (.if_icmp .eq 9, 3) := by decide +kernel
theorem dX0_value_60 : decode cX0_value 60 = .ok (.iload 7, 2) := by decide +kernel
theorem dX0_value_62 : decode cX0_value 62 = .ok (.iconst 2, 1) := by decide +kernel
theorem dX0_value_63 : decode cX0_value 63 = .ok (.if_icmp .ne 57, 3) := by decide +kernel
theorem dX0_value_66 : decode cX0_value 66 = .ok (.iinc 4 1, 3) := by decide +kernel
theorem dX0_value_69 : decode cX0_value 69 = .ok (.iload 4, 2) := by decide +kernel
theorem dX0_value_71 : decode cX0_value 71 = .ok (.aload_n 0, 1) := by decide +kernel
theorem dX0_value_72 : decode cX0_value 72 = .ok (.getfield 9, 3) := by decide +kernel
theorem dX0_value_75 : decode cX0_value 75 = .ok (.arraylength, 1) := by decide +kernel
theorem dX0_value_76 : decode cX0_value 76 = .ok (.if_icmp .ge 16, 3) := by decide +kernel
theorem dX0_value_79 : decode cX0_value 79 = .ok (.iload 7, 2) := by decide +kernel
theorem dX0_value_81 : decode cX0_value 81 = .ok (.iconst 2, 1) := by decide +kernel
theorem dX0_value_82 : decode cX0_value 82 = .ok (.if_icmp .ne 13, 3) := by decide +kernel
theorem dX0_value_85 : decode cX0_value 85 = .ok (.iload 8, 2) := by decide +kernel
theorem dX0_value_87 : decode cX0_value 87 = .ok (.aload_n 3, 1) := by decide +kernel
theorem dX0_value_88 : decode cX0_value 88 = .ok (.arraylength, 1) := by decide +kernel
theorem dX0_value_89 : decode cX0_value 89 = .ok (.if_icmp .lt 6, 3) := by decide +kernel
theorem dX0_value_92 : decode cX0_value 92 = .ok (.ldc 33, 2) := by decide +kernel
theorem dX0_value_94 : decode cX0_value 94 = .ok (.ireturn, 1) := by decide +kernel
theorem dX0_value_95 : decode cX0_value 95 = .ok (.aload_n 0, 1) := by decide +kernel
theorem dX0_value_96 : decode cX0_value 96 = .ok (.getfield 9, 3) := by decide +kernel
theorem dX0_value_99 : decode cX0_value 99 = .ok (.iload 4, 2) := by decide +kernel
theorem dX0_value_101 : decode cX0_value 101 = .ok (.iload 7, 2) := by decide +kernel
theorem dX0_value_103 : decode cX0_value 103 = .ok (.iconst 2, 1) := by decide +kernel
theorem dX0_value_104 : decode cX0_value 104 = .ok (.if_icmp .ne 10, 3) := by decide +kernel
theorem dX0_value_107 : decode cX0_value 107 = .ok (.aload_n 3, 1) := by decide +kernel
theorem dX0_value_108 : decode cX0_value 108 = .ok (.iload 8, 2) := by decide +kernel
theorem dX0_value_110 : decode cX0_value 110 = .ok (.iaload, 1) := by decide +kernel
theorem dX0_value_111 : decode cX0_value 111 = .ok (.goto 5, 3) := by decide +kernel
theorem dX0_value_114 : decode cX0_value 114 = .ok (.iload 8, 2) := by decide +kernel
theorem dX0_value_116 : decode cX0_value 116 = .ok (.iastore, 1) := by decide +kernel
theorem dX0_value_117 : decode cX0_value 117 = .ok (.goto 183, 3) := by decide +kernel
theorem dX0_value_120 : decode cX0_value 120 = .ok (.iload 4, 2) := by decide +kernel
theorem dX0_value_122 : decode cX0_value 122 = .ok (.ifCond .lt 8, 3) := by decide +kernel
theorem dX0_value_125 : decode cX0_value 125 = .ok (.iload 7, 2) := by decide +kernel
theorem dX0_value_127 : decode cX0_value 127 = .ok (.ifCond .ne 21, 3) := by decide +kernel
theorem dX0_value_130 : decode cX0_value 130 = .ok (.iload 4, 2) := by decide +kernel
theorem dX0_value_132 : decode cX0_value 132 = .ok (.ifCond .ge 8, 3) := by decide +kernel
theorem dX0_value_135 : decode cX0_value 135 = .ok (.ldc 33, 2) := by decide +kernel
theorem dX0_value_137 : decode cX0_value 137 = .ok (.goto 10, 3) := by decide +kernel
theorem dX0_value_140 : decode cX0_value 140 = .ok (.aload_n 0, 1) := by decide +kernel
theorem dX0_value_141 : decode cX0_value 141 = .ok (.getfield 9, 3) := by decide +kernel
theorem dX0_value_144 : decode cX0_value 144 = .ok (.iload 4, 2) := by decide +kernel
theorem dX0_value_146 : decode cX0_value 146 = .ok (.iaload, 1) := by decide +kernel
theorem dX0_value_147 : decode cX0_value 147 = .ok (.ireturn, 1) := by decide +kernel
theorem dX0_value_148 : decode cX0_value 148 = .ok (.iload 7, 2) := by decide +kernel
theorem dX0_value_150 : decode cX0_value 150 = .ok (.bipush 11, 2) := by decide +kernel
theorem dX0_value_152 : decode cX0_value 152 = .ok (.if_icmp .ne 22, 3) := by decide +kernel
theorem dX0_value_155 : decode cX0_value 155 = .ok (.aload_n 0, 1) := by decide +kernel
theorem dX0_value_156 : decode cX0_value 156 = .ok (.getfield 9, 3) := by decide +kernel
theorem dX0_value_159 : decode cX0_value 159 = .ok (.iload 4, 2) := by decide +kernel
theorem dX0_value_161 : decode cX0_value 161 = .ok (.iconst 1, 1) := by decide +kernel
theorem dX0_value_162 : decode cX0_value 162 = .ok (.aload_n 0, 1) := by decide +kernel
theorem dX0_value_163 : decode cX0_value 163 = .ok (.getfield 9, 3) := by decide +kernel
theorem dX0_value_166 : decode cX0_value 166 = .ok (.iload 4, 2) := by decide +kernel
theorem dX0_value_168 : decode cX0_value 168 = .ok (.iaload, 1) := by decide +kernel
theorem dX0_value_169 : decode cX0_value 169 = .ok (.isub, 1) := by decide +kernel
theorem dX0_value_170 : decode cX0_value 170 = .ok (.iastore, 1) := by decide +kernel
theorem dX0_value_171 : decode cX0_value 171 = .ok (.goto 129, 3) := by decide +kernel
theorem dX0_value_174 : decode cX0_value 174 = .ok (.iload 7, 2) := by decide +kernel
theorem dX0_value_176 : decode cX0_value 176 = .ok (.bipush 12, 2) := by decide +kernel
theorem dX0_value_178 : decode cX0_value 178 = .ok (.if_icmp .eq 10, 3) := by decide +kernel
theorem dX0_value_181 : decode cX0_value 181 = .ok (.iload 7, 2) := by decide +kernel
theorem dX0_value_183 : decode cX0_value 183 = .ok (.bipush 13, 2) := by decide +kernel
theorem dX0_value_185 : decode cX0_value 185 = .ok (.if_icmp .ne 45, 3) := by decide +kernel
theorem dX0_value_188 : decode cX0_value 188 = .ok (.aload_n 0, 1) := by decide +kernel
theorem dX0_value_189 : decode cX0_value 189 = .ok (.getfield 9, 3) := by decide +kernel
theorem dX0_value_192 : decode cX0_value 192 = .ok (.iload 4, 2) := by decide +kernel
theorem dX0_value_194 : decode cX0_value 194 = .ok (.iaload, 1) := by decide +kernel
theorem dX0_value_195 : decode cX0_value 195 = .ok (.iload 7, 2) := by decide +kernel
theorem dX0_value_197 : decode cX0_value 197 = .ok (.bipush 13, 2) := by decide +kernel
theorem dX0_value_199 : decode cX0_value 199 = .ok (.if_icmp .ne 7, 3) := by decide +kernel
theorem dX0_value_202 : decode cX0_value 202 = .ok (.iconst 1, 1) := by decide +kernel
theorem dX0_value_203 : decode cX0_value 203 = .ok (.goto 4, 3) := by decide +kernel
theorem dX0_value_206 : decode cX0_value 206 = .ok (.iconst 0, 1) := by decide +kernel
theorem dX0_value_207 : decode cX0_value 207 = .ok (.if_icmp .ne 17, 3) := by decide +kernel
theorem dX0_value_210 : decode cX0_value 210 = .ok (.iload 6, 2) := by decide +kernel
theorem dX0_value_212 : decode cX0_value 212 = .ok (.iload 8, 2) := by decide +kernel
theorem dX0_value_214 : decode cX0_value 214 = .ok (.iconst 1, 1) := by decide +kernel
theorem dX0_value_215 : decode cX0_value 215 = .ok (.isub, 1) := by decide +kernel
theorem dX0_value_216 : decode cX0_value 216 = .ok (.invokestatic 30, 3) := by decide +kernel
theorem dX0_value_219 : decode cX0_value 219 = .ok (.istore 6, 2) := by decide +kernel
theorem dX0_value_221 : decode cX0_value 221 = .ok (.goto 79, 3) := by decide +kernel
theorem dX0_value_224 : decode cX0_value 224 = .ok (.iinc 4 (-1), 3) := by decide +kernel
theorem dX0_value_227 : decode cX0_value 227 = .ok (.goto 73, 3) := by decide +kernel
theorem dX0_value_230 : decode cX0_value 230 = .ok (.iinc 4 (-1), 3) := by decide +kernel
theorem dX0_value_233 : decode cX0_value 233 = .ok (.iload 4, 2) := by decide +kernel
theorem dX0_value_235 : decode cX0_value 235 = .ok (.ifCond .ge 9, 3) := by decide +kernel
theorem dX0_value_238 : decode cX0_value 238 = .ok (.ldc2_w 34, 3) := by decide +kernel
theorem dX0_value_241 : decode cX0_value 241 = .ok (.goto 26, 3) := by decide +kernel
theorem dX0_value_244 : decode cX0_value 244 = .ok (.iload 7, 2) := by decide +kernel
theorem dX0_value_246 : decode cX0_value 246 = .ok (.aload_n 0, 1) := by decide +kernel
theorem dX0_value_247 : decode cX0_value 247 = .ok (.getfield 9, 3) := by decide +kernel
theorem dX0_value_250 : decode cX0_value 250 = .ok (.iload 4, 2) := by decide +kernel
theorem dX0_value_252 : decode cX0_value 252 = .ok (.iaload, 1) := by decide +kernel
theorem dX0_value_253 : decode cX0_value 253 = .ok (.i2l, 1) := by decide +kernel
theorem dX0_value_254 : decode cX0_value 254 = .ok (.aload_n 0, 1) := by decide +kernel
theorem dX0_value_255 : decode cX0_value 255 = .ok (.getfield 9, 3) := by decide +kernel
theorem dX0_value_258 : decode cX0_value 258 = .ok (.iload 4, 2) := by decide +kernel
theorem dX0_value_260 : decode cX0_value 260 = .ok (.iconst 1, 1) := by decide +kernel
theorem dX0_value_261 : decode cX0_value 261 = .ok (.iadd, 1) := by decide +kernel
theorem dX0_value_262 : decode cX0_value 262 = .ok (.iaload, 1) := by decide +kernel
theorem dX0_value_263 : decode cX0_value 263 = .ok (.i2l, 1) := by decide +kernel
theorem dX0_value_264 : decode cX0_value 264 = .ok (.invokestatic 36, 3) := by decide +kernel
theorem dX0_value_267 : decode cX0_value 267 = .ok (.lstore 9, 2) := by decide +kernel
theorem dX0_value_269 : decode cX0_value 269 = .ok (.lload 9, 2) := by decide +kernel
theorem dX0_value_271 : decode cX0_value 271 = .ok (.ldc2_w 40, 3) := by decide +kernel
theorem dX0_value_274 : decode cX0_value 274 = .ok (.lcmp, 1) := by decide +kernel
theorem dX0_value_275 : decode cX0_value 275 = .ok (.ifCond .lt 12, 3) := by decide +kernel
theorem dX0_value_278 : decode cX0_value 278 = .ok (.lload 9, 2) := by decide +kernel
theorem dX0_value_280 : decode cX0_value 280 = .ok (.ldc2_w 42, 3) := by decide +kernel
theorem dX0_value_283 : decode cX0_value 283 = .ok (.lcmp, 1) := by decide +kernel
theorem dX0_value_284 : decode cX0_value 284 = .ok (.ifCond .le 6, 3) := by decide +kernel
theorem dX0_value_287 : decode cX0_value 287 = .ok (.ldc 33, 2) := by decide +kernel
theorem dX0_value_289 : decode cX0_value 289 = .ok (.ireturn, 1) := by decide +kernel
theorem dX0_value_290 : decode cX0_value 290 = .ok (.aload_n 0, 1) := by decide +kernel
theorem dX0_value_291 : decode cX0_value 291 = .ok (.getfield 9, 3) := by decide +kernel
theorem dX0_value_294 : decode cX0_value 294 = .ok (.iload 4, 2) := by decide +kernel
theorem dX0_value_296 : decode cX0_value 296 = .ok (.lload 9, 2) := by decide +kernel
theorem dX0_value_298 : decode cX0_value 298 = .ok (.l2i, 1) := by decide +kernel
theorem dX0_value_299 : decode cX0_value 299 = .ok (.iastore, 1) := by decide +kernel
theorem dX0_value_300 : decode cX0_value 300 = .ok (.iinc 6 1, 3) := by decide +kernel
theorem dX0_value_303 : decode cX0_value 303 = .ok (.goto (-279), 3) := by decide +kernel
theorem dX0_value_306 : decode cX0_value 306 = .ok (.ldc 33, 2) := by decide +kernel
theorem dX0_value_308 : decode cX0_value 308 = .ok (.ireturn, 1) := by decide +kernel
theorem dX0_joined_0 : decode cX0_joined 0 = .ok (.iload_n 0, 1) := by decide +kernel
theorem dX0_joined_1 : decode cX0_joined 1 = .ok (.tableswitch 127 3 10 #[47, 51, 55, 59, 75, 91, 103, 115], 47) := by decide +kernel
theorem dX0_joined_48 : decode cX0_joined 48 = .ok (.lload_n 1, 1) := by decide +kernel
theorem dX0_joined_49 : decode cX0_joined 49 = .ok (.lload_n 3, 1) := by decide +kernel
theorem dX0_joined_50 : decode cX0_joined 50 = .ok (.ladd, 1) := by decide +kernel
theorem dX0_joined_51 : decode cX0_joined 51 = .ok (.lreturn, 1) := by decide +kernel
theorem dX0_joined_52 : decode cX0_joined 52 = .ok (.lload_n 1, 1) := by decide +kernel
theorem dX0_joined_53 : decode cX0_joined 53 = .ok (.lload_n 3, 1) := by decide +kernel
theorem dX0_joined_54 : decode cX0_joined 54 = .ok (.lsub, 1) := by decide +kernel
theorem dX0_joined_55 : decode cX0_joined 55 = .ok (.lreturn, 1) := by decide +kernel
theorem dX0_joined_56 : decode cX0_joined 56 = .ok (.lload_n 1, 1) := by decide +kernel
theorem dX0_joined_57 : decode cX0_joined 57 = .ok (.lload_n 3, 1) := by decide +kernel
theorem dX0_joined_58 : decode cX0_joined 58 = .ok (.lmul, 1) := by decide +kernel
theorem dX0_joined_59 : decode cX0_joined 59 = .ok (.lreturn, 1) := by decide +kernel
theorem dX0_joined_60 : decode cX0_joined 60 = .ok (.lload_n 3, 1) := by decide +kernel
theorem dX0_joined_61 : decode cX0_joined 61 = .ok (.lconst 0, 1) := by decide +kernel
theorem dX0_joined_62 : decode cX0_joined 62 = .ok (.lcmp, 1) := by decide +kernel
theorem dX0_joined_63 : decode cX0_joined 63 = .ok (.ifCond .ne 9, 3) := by decide +kernel
theorem dX0_joined_66 : decode cX0_joined 66 = .ok (.ldc2_w 34, 3) := by decide +kernel
theorem dX0_joined_69 : decode cX0_joined 69 = .ok (.goto 6, 3) := by decide +kernel
theorem dX0_joined_72 : decode cX0_joined 72 = .ok (.lload_n 1, 1) := by decide +kernel
theorem dX0_joined_73 : decode cX0_joined 73 = .ok (.lload_n 3, 1) := by decide +kernel
theorem dX0_joined_74 : decode cX0_joined 74 = .ok (.ldiv, 1) := by decide +kernel
theorem dX0_joined_75 : decode cX0_joined 75 = .ok (.lreturn, 1) := by decide +kernel
theorem dX0_joined_76 : decode cX0_joined 76 = .ok (.lload_n 3, 1) := by decide +kernel
theorem dX0_joined_77 : decode cX0_joined 77 = .ok (.lconst 0, 1) := by decide +kernel
theorem dX0_joined_78 : decode cX0_joined 78 = .ok (.lcmp, 1) := by decide +kernel
theorem dX0_joined_79 : decode cX0_joined 79 = .ok (.ifCond .ne 9, 3) := by decide +kernel
theorem dX0_joined_82 : decode cX0_joined 82 = .ok (.ldc2_w 34, 3) := by decide +kernel
theorem dX0_joined_85 : decode cX0_joined 85 = .ok (.goto 6, 3) := by decide +kernel
theorem dX0_joined_88 : decode cX0_joined 88 = .ok (.lload_n 1, 1) := by decide +kernel
theorem dX0_joined_89 : decode cX0_joined 89 = .ok (.lload_n 3, 1) := by decide +kernel
theorem dX0_joined_90 : decode cX0_joined 90 = .ok (.lrem, 1) := by decide +kernel
theorem dX0_joined_91 : decode cX0_joined 91 = .ok (.lreturn, 1) := by decide +kernel
theorem dX0_joined_92 : decode cX0_joined 92 = .ok (.lload_n 1, 1) := by decide +kernel
theorem dX0_joined_93 : decode cX0_joined 93 = .ok (.lload_n 3, 1) := by decide +kernel
theorem dX0_joined_94 : decode cX0_joined 94 = .ok (.lcmp, 1) := by decide +kernel
theorem dX0_joined_95 : decode cX0_joined 95 = .ok (.ifCond .ge 7, 3) := by decide +kernel
theorem dX0_joined_98 : decode cX0_joined 98 = .ok (.lconst 1, 1) := by decide +kernel
theorem dX0_joined_99 : decode cX0_joined 99 = .ok (.goto 4, 3) := by decide +kernel
theorem dX0_joined_102 : decode cX0_joined 102 = .ok (.lconst 0, 1) := by decide +kernel
theorem dX0_joined_103 : decode cX0_joined 103 = .ok (.lreturn, 1) := by decide +kernel
theorem dX0_joined_104 : decode cX0_joined 104 = .ok (.lload_n 1, 1) := by decide +kernel
theorem dX0_joined_105 : decode cX0_joined 105 = .ok (.lload_n 3, 1) := by decide +kernel
theorem dX0_joined_106 : decode cX0_joined 106 = .ok (.lcmp, 1) := by decide +kernel
theorem dX0_joined_107 : decode cX0_joined 107 = .ok (.ifCond .le 7, 3) := by decide +kernel
theorem dX0_joined_110 : decode cX0_joined 110 = .ok (.lconst 1, 1) := by decide +kernel
theorem dX0_joined_111 : decode cX0_joined 111 = .ok (.goto 4, 3) := by decide +kernel
theorem dX0_joined_114 : decode cX0_joined 114 = .ok (.lconst 0, 1) := by decide +kernel
theorem dX0_joined_115 : decode cX0_joined 115 = .ok (.lreturn, 1) := by decide +kernel
theorem dX0_joined_116 : decode cX0_joined 116 = .ok (.lload_n 1, 1) := by decide +kernel
theorem dX0_joined_117 : decode cX0_joined 117 = .ok (.lload_n 3, 1) := by decide +kernel
theorem dX0_joined_118 : decode cX0_joined 118 = .ok (.lcmp, 1) := by decide +kernel
theorem dX0_joined_119 : decode cX0_joined 119 = .ok (.ifCond .ne 7, 3) := by decide +kernel
theorem dX0_joined_122 : decode cX0_joined 122 = .ok (.lconst 1, 1) := by decide +kernel
theorem dX0_joined_123 : decode cX0_joined 123 = .ok (.goto 4, 3) := by decide +kernel
theorem dX0_joined_126 : decode cX0_joined 126 = .ok (.lconst 0, 1) := by decide +kernel
theorem dX0_joined_127 : decode cX0_joined 127 = .ok (.lreturn, 1) := by decide +kernel
theorem dX0_joined_128 : decode cX0_joined 128 = .ok (.ldc2_w 34, 3) := by decide +kernel
theorem dX0_joined_131 : decode cX0_joined 131 = .ok (.lreturn, 1) := by decide +kernel
theorem dX1_init_0 : decode cX1_init 0 = .ok (.aload_n 0, 1) := by decide +kernel
theorem dX1_init_1 : decode cX1_init 1 = .ok (.invokespecial 3, 3) := by decide +kernel
theorem dX1_init_4 : decode cX1_init 4 = .ok (.aload_n 0, 1) := by decide +kernel
theorem dX1_init_5 : decode cX1_init 5 = .ok (.new 9, 3) := by decide +kernel
theorem dX1_init_8 : decode cX1_init 8 = .ok (.dup, 1) := by decide +kernel
theorem dX1_init_9 : decode cX1_init 9 = .ok (.invokespecial 11, 3) := by decide +kernel
theorem dX1_init_12 : decode cX1_init 12 = .ok (.putfield 12, 3) := by decide +kernel
theorem dX1_init_15 : decode cX1_init 15 = .ok (.aload_n 0, 1) := by decide +kernel
theorem dX1_init_16 : decode cX1_init 16 = .ok (.bipush 25, 2) := by decide +kernel
theorem dX1_init_18 : decode cX1_init 18 = .ok (.newarray .long, 2) := by decide +kernel
theorem dX1_init_20 : decode cX1_init 20 = .ok (.putfield 18, 3) := by decide +kernel
theorem dX1_init_23 : decode cX1_init 23 = .ok (.aload_n 0, 1) := by decide +kernel
theorem dX1_init_24 : decode cX1_init 24 = .ok (.bipush 25, 2) := by decide +kernel
theorem dX1_init_26 : decode cX1_init 26 = .ok (.newarray .long, 2) := by decide +kernel
theorem dX1_init_28 : decode cX1_init 28 = .ok (.putfield 22, 3) := by decide +kernel
theorem dX1_init_31 : decode cX1_init 31 = .ok (.aload_n 0, 1) := by decide +kernel
theorem dX1_init_32 : decode cX1_init 32 = .ok (.bipush 30, 2) := by decide +kernel
theorem dX1_init_34 : decode cX1_init 34 = .ok (.newarray .boolean, 2) := by decide +kernel
theorem dX1_init_36 : decode cX1_init 36 = .ok (.putfield 25, 3) := by decide +kernel
theorem dX1_init_39 : decode cX1_init 39 = .ok (.aload_n 0, 1) := by decide +kernel
theorem dX1_init_40 : decode cX1_init 40 = .ok (.bipush 6, 2) := by decide +kernel
theorem dX1_init_42 : decode cX1_init 42 = .ok (.newarray .int, 2) := by decide +kernel
theorem dX1_init_44 : decode cX1_init 44 = .ok (.putfield 29, 3) := by decide +kernel
theorem dX1_init_47 : decode cX1_init 47 = .ok (.aload_n 0, 1) := by decide +kernel
theorem dX1_init_48 : decode cX1_init 48 = .ok (.aload_n 1, 1) := by decide +kernel
theorem dX1_init_49 : decode cX1_init 49 = .ok (.putfield 33, 3) := by decide +kernel
theorem dX1_init_52 : decode cX1_init 52 = .ok (.return_, 1) := by decide +kernel
theorem dX1_cellLater_0 : decode cX1_cellLater 0 = .ok (.aload_n 0, 1) := by decide +kernel
theorem dX1_cellLater_1 : decode cX1_cellLater 1 = .ok (.getfield 12, 3) := by decide +kernel
theorem dX1_cellLater_4 : decode cX1_cellLater 4 = .ok (.aload_n 1, 1) := by decide +kernel
theorem dX1_cellLater_5 : decode cX1_cellLater 5 = .ok (.invokevirtual 37, 3) := by decide +kernel
theorem dX1_cellLater_8 : decode cX1_cellLater 8 = .ok (.iconst 0, 1) := by decide +kernel
theorem dX1_cellLater_9 : decode cX1_cellLater 9 = .ok (.istore 4, 2) := by decide +kernel
theorem dX1_cellLater_11 : decode cX1_cellLater 11 = .ok (.iload 4, 2) := by decide +kernel
theorem dX1_cellLater_13 : decode cX1_cellLater 13 = .ok (.iload_n 3, 1) := by decide +kernel
theorem dX1_cellLater_14 : decode cX1_cellLater 14 = .ok (.if_icmp .ge 22, 3) := by decide +kernel
theorem dX1_cellLater_17 : decode cX1_cellLater 17 = .ok (.aload_n 0, 1) := by decide +kernel
theorem dX1_cellLater_18 : decode cX1_cellLater 18 = .ok (.getfield 33, 3) := by decide +kernel
theorem dX1_cellLater_21 : decode cX1_cellLater 21 = .ok (.aload_n 0, 1) := by decide +kernel
theorem dX1_cellLater_22 : decode cX1_cellLater 22 = .ok (.getfield 12, 3) := by decide +kernel
theorem dX1_cellLater_25 : decode cX1_cellLater 25 = .ok (.iload_n 2, 1) := by decide +kernel
theorem dX1_cellLater_26 : decode cX1_cellLater 26 = .ok (.iload_n 2, 1) := by decide +kernel
theorem dX1_cellLater_27 : decode cX1_cellLater 27 = .ok (.invokevirtual 41, 3) := by decide +kernel
theorem dX1_cellLater_30 : decode cX1_cellLater 30 = .ok (.iinc 4 1, 3) := by decide +kernel
theorem dX1_cellLater_33 : decode cX1_cellLater 33 = .ok (.goto (-22), 3) := by decide +kernel
theorem dX1_cellLater_36 : decode cX1_cellLater 36 = .ok (.aload_n 0, 1) := by decide +kernel
theorem dX1_cellLater_37 : decode cX1_cellLater 37 = .ok (.getfield 12, 3) := by decide +kernel
theorem dX1_cellLater_40 : decode cX1_cellLater 40 = .ok (.getfield 47, 3) := by decide +kernel
theorem dX1_cellLater_43 : decode cX1_cellLater 43 = .ok (.iload_n 2, 1) := by decide +kernel
theorem dX1_cellLater_44 : decode cX1_cellLater 44 = .ok (.iaload, 1) := by decide +kernel
theorem dX1_cellLater_45 : decode cX1_cellLater 45 = .ok (.ireturn, 1) := by decide +kernel
theorem dX1_firstOn_0 : decode cX1_firstOn 0 = .ok (.aload_n 0, 1) := by decide +kernel
theorem dX1_firstOn_1 : decode cX1_firstOn 1 = .ok (.getfield 12, 3) := by decide +kernel
theorem dX1_firstOn_4 : decode cX1_firstOn 4 = .ok (.aload_n 1, 1) := by decide +kernel
theorem dX1_firstOn_5 : decode cX1_firstOn 5 = .ok (.invokevirtual 37, 3) := by decide +kernel
theorem dX1_firstOn_8 : decode cX1_firstOn 8 = .ok (.iconst 0, 1) := by decide +kernel
theorem dX1_firstOn_9 : decode cX1_firstOn 9 = .ok (.istore 4, 2) := by decide +kernel
theorem dX1_firstOn_11 : decode cX1_firstOn 11 = .ok (.iload 4, 2) := by decide +kernel
theorem dX1_firstOn_13 : decode cX1_firstOn 13 = .ok (.bipush 60, 2) := by decide +kernel
theorem dX1_firstOn_15 : decode cX1_firstOn 15 = .ok (.if_icmp .gt 58, 3) := by decide +kernel
theorem dX1_firstOn_18 : decode cX1_firstOn 18 = .ok (.aload_n 0, 1) := by decide +kernel
theorem dX1_firstOn_19 : decode cX1_firstOn 19 = .ok (.getfield 12, 3) := by decide +kernel
theorem dX1_firstOn_22 : decode cX1_firstOn 22 = .ok (.iload_n 2, 1) := by decide +kernel
theorem dX1_firstOn_23 : decode cX1_firstOn 23 = .ok (.invokevirtual 50, 3) := by decide +kernel
theorem dX1_firstOn_26 : decode cX1_firstOn 26 = .ok (.istore 5, 2) := by decide +kernel
theorem dX1_firstOn_28 : decode cX1_firstOn 28 = .ok (.iload 5, 2) := by decide +kernel
theorem dX1_firstOn_30 : decode cX1_firstOn 30 = .ok (.iconst (-1), 1) := by decide +kernel
theorem dX1_firstOn_31 : decode cX1_firstOn 31 = .ok (.if_icmp .eq 15, 3) := by decide +kernel
theorem dX1_firstOn_34 : decode cX1_firstOn 34 = .ok (.iload_n 3, 1) := by decide +kernel
theorem dX1_firstOn_35 : decode cX1_firstOn 35 = .ok (.ifCond .ne 8, 3) := by decide +kernel
theorem dX1_firstOn_38 : decode cX1_firstOn 38 = .ok (.iload 4, 2) := by decide +kernel
theorem dX1_firstOn_40 : decode cX1_firstOn 40 = .ok (.goto 5, 3) := by decide +kernel
theorem dX1_firstOn_43 : decode cX1_firstOn 43 = .ok (.iload 5, 2) := by decide +kernel
theorem dX1_firstOn_45 : decode cX1_firstOn 45 = .ok (.ireturn, 1) := by decide +kernel
theorem dX1_firstOn_46 : decode cX1_firstOn 46 = .ok (.aload_n 0, 1) := by decide +kernel
theorem dX1_firstOn_47 : decode cX1_firstOn 47 = .ok (.getfield 33, 3) := by decide +kernel
theorem dX1_firstOn_50 : decode cX1_firstOn 50 = .ok (.aload_n 0, 1) := by decide +kernel
theorem dX1_firstOn_51 : decode cX1_firstOn 51 = .ok (.getfield 12, 3) := by decide +kernel
theorem dX1_firstOn_54 : decode cX1_firstOn 54 = .ok (.iconst 0, 1) := by decide +kernel
theorem dX1_firstOn_55 : decode cX1_firstOn 55 = .ok (.aload_n 0, 1) := by decide +kernel
theorem dX1_firstOn_56 : decode cX1_firstOn 56 = .ok (.getfield 12, 3) := by decide +kernel
theorem dX1_firstOn_59 : decode cX1_firstOn 59 = .ok (.getfield 54, 3) := by decide +kernel
theorem dX1_firstOn_62 : decode cX1_firstOn 62 = .ok (.iconst 1, 1) := by decide +kernel
theorem dX1_firstOn_63 : decode cX1_firstOn 63 = .ok (.isub, 1) := by decide +kernel
theorem dX1_firstOn_64 : decode cX1_firstOn 64 = .ok (.invokevirtual 41, 3) := by decide +kernel
theorem dX1_firstOn_67 : decode cX1_firstOn 67 = .ok (.iinc 4 1, 3) := by decide +kernel
theorem dX1_firstOn_70 : decode cX1_firstOn 70 = .ok (.goto (-59), 3) := by decide +kernel
theorem dX1_firstOn_73 : decode cX1_firstOn 73 = .ok (.iconst (-1), 1) := by decide +kernel
theorem dX1_firstOn_74 : decode cX1_firstOn 74 = .ok (.ireturn, 1) := by decide +kernel
theorem dX1_heatLater_0 : decode cX1_heatLater 0 = .ok (.aload_n 0, 1) := by decide +kernel
theorem dX1_heatLater_1 : decode cX1_heatLater 1 = .ok (.getfield 12, 3) := by decide +kernel
theorem dX1_heatLater_4 : decode cX1_heatLater 4 = .ok (.aload_n 1, 1) := by decide +kernel
theorem dX1_heatLater_5 : decode cX1_heatLater 5 = .ok (.invokevirtual 37, 3) := by decide +kernel
theorem dX1_heatLater_8 : decode cX1_heatLater 8 = .ok (.aload_n 0, 1) := by decide +kernel
theorem dX1_heatLater_9 : decode cX1_heatLater 9 = .ok (.getfield 12, 3) := by decide +kernel
theorem dX1_heatLater_12 : decode cX1_heatLater 12 = .ok (.iload_n 2, 1) := by decide +kernel
theorem dX1_heatLater_13 : decode cX1_heatLater 13 = .ok (.putfield 58, 3) := by decide +kernel
theorem dX1_heatLater_16 : decode cX1_heatLater 16 = .ok (.iconst 0, 1) := by decide +kernel
theorem dX1_heatLater_17 : decode cX1_heatLater 17 = .ok (.istore 4, 2) := by decide +kernel
theorem dX1_heatLater_19 : decode cX1_heatLater 19 = .ok (.iload 4, 2) := by decide +kernel
theorem dX1_heatLater_21 : decode cX1_heatLater 21 = .ok (.iload_n 3, 1) := by decide +kernel
theorem dX1_heatLater_22 : decode cX1_heatLater 22 = .ok (.if_icmp .ge 30, 3) := by decide +kernel
theorem dX1_heatLater_25 : decode cX1_heatLater 25 = .ok (.aload_n 0, 1) := by decide +kernel
theorem dX1_heatLater_26 : decode cX1_heatLater 26 = .ok (.getfield 33, 3) := by decide +kernel
theorem dX1_heatLater_29 : decode cX1_heatLater 29 = .ok (.aload_n 0, 1) := by decide +kernel
theorem dX1_heatLater_30 : decode cX1_heatLater 30 = .ok (.getfield 12, 3) := by decide +kernel
theorem dX1_heatLater_33 : decode cX1_heatLater 33 = .ok (.iconst 0, 1) := by decide +kernel
theorem dX1_heatLater_34 : decode cX1_heatLater 34 = .ok (.aload_n 0, 1) := by decide +kernel
theorem dX1_heatLater_35 : decode cX1_heatLater 35 = .ok (.getfield 12, 3) := by decide +kernel
theorem dX1_heatLater_38 : decode cX1_heatLater 38 = .ok (.getfield 54, 3) := by decide +kernel
theorem dX1_heatLater_41 : decode cX1_heatLater 41 = .ok (.iconst 1, 1) := by decide +kernel
theorem dX1_heatLater_42 : decode cX1_heatLater 42 = .ok (.isub, 1) := by decide +kernel
theorem dX1_heatLater_43 : decode cX1_heatLater 43 = .ok (.invokevirtual 41, 3) := by decide +kernel
theorem dX1_heatLater_46 : decode cX1_heatLater 46 = .ok (.iinc 4 1, 3) := by decide +kernel
theorem dX1_heatLater_49 : decode cX1_heatLater 49 = .ok (.goto (-30), 3) := by decide +kernel
theorem dX1_heatLater_52 : decode cX1_heatLater 52 = .ok (.aload_n 0, 1) := by decide +kernel
theorem dX1_heatLater_53 : decode cX1_heatLater 53 = .ok (.getfield 12, 3) := by decide +kernel
theorem dX1_heatLater_56 : decode cX1_heatLater 56 = .ok (.invokevirtual 61, 3) := by decide +kernel
theorem dX1_heatLater_59 : decode cX1_heatLater 59 = .ok (.ireturn, 1) := by decide +kernel
theorem dX1_findChain_0 : decode cX1_findChain 0 = .ok (.iconst 0, 1) := by decide +kernel
theorem dX1_findChain_1 : decode cX1_findChain 1 = .ok (.istore_n 3, 1) := by decide +kernel
theorem dX1_findChain_2 : decode cX1_findChain 2 = .ok (.iload_n 3, 1) := by decide +kernel
theorem dX1_findChain_3 : decode cX1_findChain 3 = .ok (.iconst 5, 1) := by decide +kernel
theorem dX1_findChain_4 : decode cX1_findChain 4 = .ok (.if_icmp .gt 119, 3) := by decide +kernel
theorem dX1_findChain_7 : decode cX1_findChain 7 = .ok (.iload_n 3, 1) := by decide +kernel
theorem dX1_findChain_8 : decode cX1_findChain 8 = .ok (.iconst 5, 1) := by decide +kernel
theorem dX1_findChain_9 : decode cX1_findChain 9 = .ok (.if_icmp .eq 11, 3) := by decide +kernel
theorem dX1_findChain_12 : decode cX1_findChain 12 = .ok (.iload_n 3, 1) := by decide +kernel
theorem dX1_findChain_13 : decode cX1_findChain 13 = .ok (.aload_n 1, 1) := by decide +kernel
theorem dX1_findChain_14 : decode cX1_findChain 14 = .ok (.getfield 65, 3) := by decide +kernel
theorem dX1_findChain_17 : decode cX1_findChain 17 = .ok (.if_icmp .ge 7, 3) := by decide +kernel
theorem dX1_findChain_20 : decode cX1_findChain 20 = .ok (.iconst 1, 1) := by decide +kernel
theorem dX1_findChain_21 : decode cX1_findChain 21 = .ok (.goto 4, 3) := by decide +kernel
theorem dX1_findChain_24 : decode cX1_findChain 24 = .ok (.iconst 0, 1) := by decide +kernel
theorem dX1_findChain_25 : decode cX1_findChain 25 = .ok (.istore 4, 2) := by decide +kernel
theorem dX1_findChain_27 : decode cX1_findChain 27 = .ok (.iload_n 3, 1) := by decide +kernel
theorem dX1_findChain_28 : decode cX1_findChain 28 = .ok (.iconst 5, 1) := by decide +kernel
theorem dX1_findChain_29 : decode cX1_findChain 29 = .ok (.if_icmp .ne 12, 3) := by decide +kernel
theorem dX1_findChain_32 : decode cX1_findChain 32 = .ok (.aload_n 1, 1) := by decide +kernel
theorem dX1_findChain_33 : decode cX1_findChain 33 = .ok (.getfield 47, 3) := by decide +kernel
theorem dX1_findChain_36 : decode cX1_findChain 36 = .ok (.iload_n 2, 1) := by decide +kernel
theorem dX1_findChain_37 : decode cX1_findChain 37 = .ok (.iaload, 1) := by decide +kernel
theorem dX1_findChain_38 : decode cX1_findChain 38 = .ok (.goto 9, 3) := by decide +kernel
theorem dX1_findChain_41 : decode cX1_findChain 41 = .ok (.aload_n 1, 1) := by decide +kernel
theorem dX1_findChain_42 : decode cX1_findChain 42 = .ok (.getfield 68, 3) := by decide +kernel
theorem dX1_findChain_45 : decode cX1_findChain 45 = .ok (.iload_n 3, 1) := by decide +kernel
theorem dX1_findChain_46 : decode cX1_findChain 46 = .ok (.iaload, 1) := by decide +kernel
theorem dX1_findChain_47 : decode cX1_findChain 47 = .ok (.istore 5, 2) := by decide +kernel
theorem dX1_findChain_49 : decode cX1_findChain 49 = .ok (.iconst 0, 1) := by decide +kernel
theorem dX1_findChain_50 : decode cX1_findChain 50 = .ok (.istore 6, 2) := by decide +kernel
theorem dX1_findChain_52 : decode cX1_findChain 52 = .ok (.iload 6, 2) := by decide +kernel
theorem dX1_findChain_54 : decode cX1_findChain 54 = .ok (.iconst 5, 1) := by decide +kernel
theorem dX1_findChain_55 : decode cX1_findChain 55 = .ok (.if_icmp .ge 55, 3) := by decide +kernel
theorem dX1_findChain_58 : decode cX1_findChain 58 = .ok (.aload_n 0, 1) := by decide +kernel
theorem dX1_findChain_59 : decode cX1_findChain 59 = .ok (.getfield 25, 3) := by decide +kernel
theorem dX1_findChain_62 : decode cX1_findChain 62 = .ok (.iload_n 3, 1) := by decide +kernel
theorem dX1_findChain_63 : decode cX1_findChain 63 = .ok (.iconst 5, 1) := by decide +kernel
theorem dX1_findChain_64 : decode cX1_findChain 64 = .ok (.imul, 1) := by decide +kernel
theorem dX1_findChain_65 : decode cX1_findChain 65 = .ok (.iload 6, 2) := by decide +kernel
theorem dX1_findChain_67 : decode cX1_findChain 67 = .ok (.iadd, 1) := by decide +kernel
theorem dX1_findChain_68 : decode cX1_findChain 68 = .ok (.iload 4, 2) := by decide +kernel
theorem dX1_findChain_70 : decode cX1_findChain 70 = .ok (.ifCond .eq 32, 3) := by decide +kernel
theorem dX1_findChain_73 : decode cX1_findChain 73 = .ok (.iload 6, 2) := by decide +kernel
theorem dX1_findChain_75 : decode cX1_findChain 75 = .ok (.aload_n 1, 1) := by decide +kernel
theorem dX1_findChain_76 : decode cX1_findChain 76 = .ok (.getfield 65, 3) := by decide +kernel
theorem dX1_findChain_79 : decode cX1_findChain 79 = .ok (.if_icmp .ge 23, 3) := by decide +kernel
theorem dX1_findChain_82 : decode cX1_findChain 82 = .ok (.aload_n 0, 1) := by decide +kernel
theorem dX1_findChain_83 : decode cX1_findChain 83 = .ok (.getfield 33, 3) := by decide +kernel
theorem dX1_findChain_86 : decode cX1_findChain 86 = .ok (.aload_n 1, 1) := by decide +kernel
theorem dX1_findChain_87 : decode cX1_findChain 87 = .ok (.iload_n 2, 1) := by decide +kernel
theorem dX1_findChain_88 : decode cX1_findChain 88 = .ok (.iload 5, 2) := by decide +kernel
theorem dX1_findChain_90 : decode cX1_findChain 90 = .ok (.iload 6, 2) := by decide +kernel
theorem dX1_findChain_92 : decode cX1_findChain 92 = .ok (.invokevirtual 71, 3) := by decide +kernel
theorem dX1_findChain_95 : decode cX1_findChain 95 = .ok (.ifCond .eq 7, 3) := by decide +kernel
theorem dX1_findChain_98 : decode cX1_findChain 98 = .ok (.iconst 1, 1) := by decide +kernel
theorem dX1_findChain_99 : decode cX1_findChain 99 = .ok (.goto 4, 3) := by decide +kernel
theorem dX1_findChain_102 : decode cX1_findChain 102 = .ok (.iconst 0, 1) := by decide +kernel
theorem dX1_findChain_103 : decode cX1_findChain 103 = .ok (.bastore, 1) := by decide +kernel
theorem dX1_findChain_104 : decode cX1_findChain 104 = .ok (.iinc 6 1, 3) := by decide +kernel
theorem dX1_findChain_107 : decode cX1_findChain 107 = .ok (.goto (-55), 3) := by decide +kernel
theorem dX1_findChain_110 : decode cX1_findChain 110 = .ok (.aload_n 0, 1) := by decide +kernel
theorem dX1_findChain_111 : decode cX1_findChain 111 = .ok (.getfield 29, 3) := by decide +kernel
theorem dX1_findChain_114 : decode cX1_findChain 114 = .ok (.iload_n 3, 1) := by decide +kernel
theorem dX1_findChain_115 : decode cX1_findChain 115 = .ok (.iconst (-1), 1) := by decide +kernel
theorem dX1_findChain_116 : decode cX1_findChain 116 = .ok (.iastore, 1) := by decide +kernel
theorem dX1_findChain_117 : decode cX1_findChain 117 = .ok (.iinc 3 1, 3) := by decide +kernel
theorem dX1_findChain_120 : decode cX1_findChain 120 = .ok (.goto (-118), 3) := by decide +kernel
theorem dX1_findChain_123 : decode cX1_findChain 123 = .ok (.iconst 1, 1) := by decide +kernel
theorem dX1_findChain_124 : decode cX1_findChain 124 = .ok (.istore_n 3, 1) := by decide +kernel
theorem dX1_findChain_125 : decode cX1_findChain 125 = .ok (.iload_n 3, 1) := by decide +kernel
theorem dX1_findChain_126 : decode cX1_findChain 126 = .ok (.iconst 5, 1) := by decide +kernel
theorem dX1_findChain_127 : decode cX1_findChain 127 = .ok (.if_icmp .gt 55, 3) := by decide +kernel
theorem dX1_findChain_130 : decode cX1_findChain 130 = .ok (.iconst 0, 1) := by decide +kernel
theorem dX1_findChain_131 : decode cX1_findChain 131 = .ok (.istore 4, 2) := by decide +kernel
theorem dX1_findChain_133 : decode cX1_findChain 133 = .ok (.iload 4, 2) := by decide +kernel
theorem dX1_findChain_135 : decode cX1_findChain 135 = .ok (.iconst 5, 1) := by decide +kernel
theorem dX1_findChain_136 : decode cX1_findChain 136 = .ok (.if_icmp .gt 40, 3) := by decide +kernel
theorem dX1_findChain_139 : decode cX1_findChain 139 = .ok (.aload_n 0, 1) := by decide +kernel
theorem dX1_findChain_140 : decode cX1_findChain 140 = .ok (.getfield 29, 3) := by decide +kernel
theorem dX1_findChain_143 : decode cX1_findChain 143 = .ok (.iload 4, 2) := by decide +kernel
theorem dX1_findChain_145 : decode cX1_findChain 145 = .ok (.iaload, 1) := by decide +kernel
theorem dX1_findChain_146 : decode cX1_findChain 146 = .ok (.iconst (-1), 1) := by decide +kernel
theorem dX1_findChain_147 : decode cX1_findChain 147 = .ok (.if_icmp .ne 23, 3) := by decide +kernel
theorem dX1_findChain_150 : decode cX1_findChain 150 = .ok (.aload_n 0, 1) := by decide +kernel
theorem dX1_findChain_151 : decode cX1_findChain 151 = .ok (.aload_n 1, 1) := by decide +kernel
theorem dX1_findChain_152 : decode cX1_findChain 152 = .ok (.iload 4, 2) := by decide +kernel
theorem dX1_findChain_154 : decode cX1_findChain 154 = .ok (.iload_n 3, 1) := by decide +kernel
theorem dX1_findChain_155 : decode cX1_findChain 155 = .ok (.invokevirtual 75, 3) := by decide +kernel
theorem dX1_findChain_158 : decode cX1_findChain 158 = .ok (.iconst (-1), 1) := by decide +kernel
theorem dX1_findChain_159 : decode cX1_findChain 159 = .ok (.if_icmp .eq 11, 3) := by decide +kernel
theorem dX1_findChain_162 : decode cX1_findChain 162 = .ok (.aload_n 0, 1) := by decide +kernel
theorem dX1_findChain_163 : decode cX1_findChain 163 = .ok (.getfield 29, 3) := by decide +kernel
theorem dX1_findChain_166 : decode cX1_findChain 166 = .ok (.iload 4, 2) := by decide +kernel
theorem dX1_findChain_168 : decode cX1_findChain 168 = .ok (.iload_n 3, 1) := by decide +kernel
theorem dX1_findChain_169 : decode cX1_findChain 169 = .ok (.iastore, 1) := by decide +kernel
theorem dX1_findChain_170 : decode cX1_findChain 170 = .ok (.iinc 4 1, 3) := by decide +kernel
theorem dX1_findChain_173 : decode cX1_findChain 173 = .ok (.goto (-40), 3) := by decide +kernel
theorem dX1_findChain_176 : decode cX1_findChain 176 = .ok (.iinc 3 1, 3) := by decide +kernel
theorem dX1_findChain_179 : decode cX1_findChain 179 = .ok (.goto (-54), 3) := by decide +kernel
theorem dX1_findChain_182 : decode cX1_findChain 182 = .ok (.aload_n 0, 1) := by decide +kernel
theorem dX1_findChain_183 : decode cX1_findChain 183 = .ok (.getfield 29, 3) := by decide +kernel
theorem dX1_findChain_186 : decode cX1_findChain 186 = .ok (.iconst 5, 1) := by decide +kernel
theorem dX1_findChain_187 : decode cX1_findChain 187 = .ok (.iaload, 1) := by decide +kernel
theorem dX1_findChain_188 : decode cX1_findChain 188 = .ok (.ireturn, 1) := by decide +kernel
theorem dX1_callerInChain_0 : decode cX1_callerInChain 0 = .ok (.iconst 5, 1) := by decide +kernel
theorem dX1_callerInChain_1 : decode cX1_callerInChain 1 = .ok (.istore_n 3, 1) := by decide +kernel
theorem dX1_callerInChain_2 : decode cX1_callerInChain 2 = .ok (.iconst 0, 1) := by decide +kernel
theorem dX1_callerInChain_3 : decode cX1_callerInChain 3 = .ok (.istore 4, 2) := by decide +kernel
theorem dX1_callerInChain_5 : decode cX1_callerInChain 5 = .ok (.iload 4, 2) := by decide +kernel
theorem dX1_callerInChain_7 : decode cX1_callerInChain 7 = .ok (.iload_n 2, 1) := by decide +kernel
theorem dX1_callerInChain_8 : decode cX1_callerInChain 8 = .ok (.if_icmp .gt 27, 3) := by decide +kernel
theorem dX1_callerInChain_11 : decode cX1_callerInChain 11 = .ok (.iload_n 3, 1) := by decide +kernel
theorem dX1_callerInChain_12 : decode cX1_callerInChain 12 = .ok (.iconst (-1), 1) := by decide +kernel
theorem dX1_callerInChain_13 : decode cX1_callerInChain 13 = .ok (.if_icmp .eq 22, 3) := by decide +kernel
theorem dX1_callerInChain_16 : decode cX1_callerInChain 16 = .ok (.aload_n 0, 1) := by decide +kernel
theorem dX1_callerInChain_17 : decode cX1_callerInChain 17 = .ok (.aload_n 1, 1) := by decide +kernel
theorem dX1_callerInChain_18 : decode cX1_callerInChain 18 = .ok (.iload_n 3, 1) := by decide +kernel
theorem dX1_callerInChain_19 : decode cX1_callerInChain 19 = .ok (.aload_n 0, 1) := by decide +kernel
theorem dX1_callerInChain_20 : decode cX1_callerInChain 20 = .ok (.getfield 29, 3) := by decide +kernel
theorem dX1_callerInChain_23 : decode cX1_callerInChain 23 = .ok (.iload_n 3, 1) := by decide +kernel
theorem dX1_callerInChain_24 : decode cX1_callerInChain 24 = .ok (.iaload, 1) := by decide +kernel
theorem dX1_callerInChain_25 : decode cX1_callerInChain 25 = .ok (.invokevirtual 75, 3) := by decide +kernel
theorem dX1_callerInChain_28 : decode cX1_callerInChain 28 = .ok (.istore_n 3, 1) := by decide +kernel
theorem dX1_callerInChain_29 : decode cX1_callerInChain 29 = .ok (.iinc 4 1, 3) := by decide +kernel
theorem dX1_callerInChain_32 : decode cX1_callerInChain 32 = .ok (.goto (-27), 3) := by decide +kernel
theorem dX1_callerInChain_35 : decode cX1_callerInChain 35 = .ok (.iload_n 3, 1) := by decide +kernel
theorem dX1_callerInChain_36 : decode cX1_callerInChain 36 = .ok (.ireturn, 1) := by decide +kernel
theorem dX1_nextCaller_0 : decode cX1_nextCaller 0 = .ok (.iconst 0, 1) := by decide +kernel
theorem dX1_nextCaller_1 : decode cX1_nextCaller 1 = .ok (.istore 4, 2) := by decide +kernel
theorem dX1_nextCaller_3 : decode cX1_nextCaller 3 = .ok (.iload 4, 2) := by decide +kernel
theorem dX1_nextCaller_5 : decode cX1_nextCaller 5 = .ok (.aload_n 1, 1) := by decide +kernel
theorem dX1_nextCaller_6 : decode cX1_nextCaller 6 = .ok (.getfield 65, 3) := by decide +kernel
theorem dX1_nextCaller_9 : decode cX1_nextCaller 9 = .ok (.if_icmp .ge 75, 3) := by decide +kernel
theorem dX1_nextCaller_12 : decode cX1_nextCaller 12 = .ok (.aload_n 1, 1) := by decide +kernel
theorem dX1_nextCaller_13 : decode cX1_nextCaller 13 = .ok (.getfield 68, 3) := by decide +kernel
theorem dX1_nextCaller_16 : decode cX1_nextCaller 16 = .ok (.iload 4, 2) := by decide +kernel
theorem dX1_nextCaller_18 : decode cX1_nextCaller 18 = .ok (.iaload, 1) := by decide +kernel
theorem dX1_nextCaller_19 : decode cX1_nextCaller 19 = .ok (.aload_n 1, 1) := by decide +kernel
theorem dX1_nextCaller_20 : decode cX1_nextCaller 20 = .ok (.getfield 79, 3) := by decide +kernel
theorem dX1_nextCaller_23 : decode cX1_nextCaller 23 = .ok (.iconst 3, 1) := by decide +kernel
theorem dX1_nextCaller_24 : decode cX1_nextCaller 24 = .ok (.iaload, 1) := by decide +kernel
theorem dX1_nextCaller_25 : decode cX1_nextCaller 25 = .ok (.if_icmp .ne 7, 3) := by decide +kernel
theorem dX1_nextCaller_28 : decode cX1_nextCaller 28 = .ok (.iconst 1, 1) := by decide +kernel
theorem dX1_nextCaller_29 : decode cX1_nextCaller 29 = .ok (.goto 4, 3) := by decide +kernel
theorem dX1_nextCaller_32 : decode cX1_nextCaller 32 = .ok (.iconst 0, 1) := by decide +kernel
theorem dX1_nextCaller_33 : decode cX1_nextCaller 33 = .ok (.istore 5, 2) := by decide +kernel
theorem dX1_nextCaller_35 : decode cX1_nextCaller 35 = .ok (.iload 5, 2) := by decide +kernel
theorem dX1_nextCaller_37 : decode cX1_nextCaller 37 = .ok (.ifCond .eq 7, 3) := by decide +kernel
theorem dX1_nextCaller_40 : decode cX1_nextCaller 40 = .ok (.iconst 0, 1) := by decide +kernel
theorem dX1_nextCaller_41 : decode cX1_nextCaller 41 = .ok (.goto 10, 3) := by decide +kernel
theorem dX1_nextCaller_44 : decode cX1_nextCaller 44 = .ok (.aload_n 0, 1) := by decide +kernel
theorem dX1_nextCaller_45 : decode cX1_nextCaller 45 = .ok (.getfield 29, 3) := by decide +kernel
theorem dX1_nextCaller_48 : decode cX1_nextCaller 48 = .ok (.iload 4, 2) := by decide +kernel
theorem dX1_nextCaller_50 : decode cX1_nextCaller 50 = .ok (.iaload, 1) := by decide +kernel
theorem dX1_nextCaller_51 : decode cX1_nextCaller 51 = .ok (.istore 6, 2) := by decide +kernel
theorem dX1_nextCaller_53 : decode cX1_nextCaller 53 = .ok (.aload_n 0, 1) := by decide +kernel
theorem dX1_nextCaller_54 : decode cX1_nextCaller 54 = .ok (.getfield 25, 3) := by decide +kernel
theorem dX1_nextCaller_57 : decode cX1_nextCaller 57 = .ok (.iload_n 2, 1) := by decide +kernel
theorem dX1_nextCaller_58 : decode cX1_nextCaller 58 = .ok (.iconst 5, 1) := by decide +kernel
theorem dX1_nextCaller_59 : decode cX1_nextCaller 59 = .ok (.imul, 1) := by decide +kernel
theorem dX1_nextCaller_60 : decode cX1_nextCaller 60 = .ok (.iload 4, 2) := by decide +kernel
theorem dX1_nextCaller_62 : decode cX1_nextCaller 62 = .ok (.iadd, 1) := by decide +kernel
theorem dX1_nextCaller_63 : decode cX1_nextCaller 63 = .ok (.baload, 1) := by decide +kernel
theorem dX1_nextCaller_64 : decode cX1_nextCaller 64 = .ok (.ifCond .eq 14, 3) := by decide +kernel
theorem dX1_nextCaller_67 : decode cX1_nextCaller 67 = .ok (.iload 6, 2) := by decide +kernel
theorem dX1_nextCaller_69 : decode cX1_nextCaller 69 = .ok (.iload_n 3, 1) := by decide +kernel
theorem dX1_nextCaller_70 : decode cX1_nextCaller 70 = .ok (.iconst 1, 1) := by decide +kernel
theorem dX1_nextCaller_71 : decode cX1_nextCaller 71 = .ok (.isub, 1) := by decide +kernel
theorem dX1_nextCaller_72 : decode cX1_nextCaller 72 = .ok (.if_icmp .ne 6, 3) := by decide +kernel
theorem dX1_nextCaller_75 : decode cX1_nextCaller 75 = .ok (.iload 4, 2) := by decide +kernel
theorem dX1_nextCaller_77 : decode cX1_nextCaller 77 = .ok (.ireturn, 1) := by decide +kernel
theorem dX1_nextCaller_78 : decode cX1_nextCaller 78 = .ok (.iinc 4 1, 3) := by decide +kernel
theorem dX1_nextCaller_81 : decode cX1_nextCaller 81 = .ok (.goto (-78), 3) := by decide +kernel
theorem dX1_nextCaller_84 : decode cX1_nextCaller 84 = .ok (.iconst (-1), 1) := by decide +kernel
theorem dX1_nextCaller_85 : decode cX1_nextCaller 85 = .ok (.ireturn, 1) := by decide +kernel
theorem dX1_driftFor_0 : decode cX1_driftFor 0 = .ok (.aload_n 0, 1) := by decide +kernel
theorem dX1_driftFor_1 : decode cX1_driftFor 1 = .ok (.getfield 18, 3) := by decide +kernel
theorem dX1_driftFor_4 : decode cX1_driftFor 4 = .ok (.lconst 0, 1) := by decide +kernel
theorem dX1_driftFor_5 : decode cX1_driftFor 5 = .ok (.invokestatic 82, 3) := by decide +kernel
theorem dX1_driftFor_8 : decode cX1_driftFor 8 = .ok (.aload_n 1, 1) := by decide +kernel
theorem dX1_driftFor_9 : decode cX1_driftFor 9 = .ok (.getfield 47, 3) := by decide +kernel
theorem dX1_driftFor_12 : decode cX1_driftFor 12 = .ok (.iload_n 2, 1) := by decide +kernel
theorem dX1_driftFor_13 : decode cX1_driftFor 13 = .ok (.iaload, 1) := by decide +kernel
theorem dX1_driftFor_14 : decode cX1_driftFor 14 = .ok (.istore 4, 2) := by decide +kernel
theorem dX1_driftFor_16 : decode cX1_driftFor 16 = .ok (.iload 4, 2) := by decide +kernel
theorem dX1_driftFor_18 : decode cX1_driftFor 18 = .ok (.invokestatic 88, 3) := by decide +kernel
theorem dX1_driftFor_21 : decode cX1_driftFor 21 = .ok (.ifCond .eq 13, 3) := by decide +kernel
theorem dX1_driftFor_24 : decode cX1_driftFor 24 = .ok (.aload_n 0, 1) := by decide +kernel
theorem dX1_driftFor_25 : decode cX1_driftFor 25 = .ok (.getfield 18, 3) := by decide +kernel
theorem dX1_driftFor_28 : decode cX1_driftFor 28 = .ok (.iload 4, 2) := by decide +kernel
theorem dX1_driftFor_30 : decode cX1_driftFor 30 = .ok (.ldc2_w 92, 3) := by decide +kernel
theorem dX1_driftFor_33 : decode cX1_driftFor 33 = .ok (.lastore, 1) := by decide +kernel
theorem dX1_driftFor_34 : decode cX1_driftFor 34 = .ok (.iconst 0, 1) := by decide +kernel
theorem dX1_driftFor_35 : decode cX1_driftFor 35 = .ok (.istore 5, 2) := by decide +kernel
theorem dX1_driftFor_37 : decode cX1_driftFor 37 = .ok (.iload 5, 2) := by decide +kernel
theorem dX1_driftFor_39 : decode cX1_driftFor 39 = .ok (.iload_n 3, 1) := by decide +kernel
theorem dX1_driftFor_40 : decode cX1_driftFor 40 = .ok (.if_icmp .ge 14, 3) := by decide +kernel
theorem dX1_driftFor_43 : decode cX1_driftFor 43 = .ok (.aload_n 0, 1) := by decide +kernel
theorem dX1_driftFor_44 : decode cX1_driftFor 44 = .ok (.aload_n 1, 1) := by decide +kernel
theorem dX1_driftFor_45 : decode cX1_driftFor 45 = .ok (.invokevirtual 94, 3) := by decide +kernel
theorem dX1_driftFor_48 : decode cX1_driftFor 48 = .ok (.iinc 5 1, 3) := by decide +kernel
theorem dX1_driftFor_51 : decode cX1_driftFor 51 = .ok (.goto (-14), 3) := by decide +kernel
theorem dX1_driftFor_54 : decode cX1_driftFor 54 = .ok (.return_, 1) := by decide +kernel
theorem dX1_driftOnce_0 : decode cX1_driftOnce 0 = .ok (.aload_n 0, 1) := by decide +kernel
theorem dX1_driftOnce_1 : decode cX1_driftOnce 1 = .ok (.getfield 22, 3) := by decide +kernel
theorem dX1_driftOnce_4 : decode cX1_driftOnce 4 = .ok (.lconst 0, 1) := by decide +kernel
theorem dX1_driftOnce_5 : decode cX1_driftOnce 5 = .ok (.invokestatic 82, 3) := by decide +kernel
theorem dX1_driftOnce_8 : decode cX1_driftOnce 8 = .ok (.iconst 0, 1) := by decide +kernel
theorem dX1_driftOnce_9 : decode cX1_driftOnce 9 = .ok (.istore_n 2, 1) := by decide +kernel
theorem dX1_driftOnce_10 : decode cX1_driftOnce 10 = .ok (.iload_n 2, 1) := by decide +kernel
theorem dX1_driftOnce_11 : decode cX1_driftOnce 11 = .ok (.bipush 25, 2) := by decide +kernel
theorem dX1_driftOnce_13 : decode cX1_driftOnce 13 = .ok (.if_icmp .ge 106, 3) := by decide +kernel
theorem dX1_driftOnce_16 : decode cX1_driftOnce 16 = .ok (.aload_n 0, 1) := by decide +kernel
theorem dX1_driftOnce_17 : decode cX1_driftOnce 17 = .ok (.getfield 18, 3) := by decide +kernel
theorem dX1_driftOnce_20 : decode cX1_driftOnce 20 = .ok (.iload_n 2, 1) := by decide +kernel
theorem dX1_driftOnce_21 : decode cX1_driftOnce 21 = .ok (.laload, 1) := by decide +kernel
theorem dX1_driftOnce_22 : decode cX1_driftOnce 22 = .ok (.aload_n 1, 1) := by decide +kernel
theorem dX1_driftOnce_23 : decode cX1_driftOnce 23 = .ok (.getfield 79, 3) := by decide +kernel
theorem dX1_driftOnce_26 : decode cX1_driftOnce 26 = .ok (.iconst 1, 1) := by decide +kernel
theorem dX1_driftOnce_27 : decode cX1_driftOnce 27 = .ok (.iaload, 1) := by decide +kernel
theorem dX1_driftOnce_28 : decode cX1_driftOnce 28 = .ok (.i2l, 1) := by decide +kernel
theorem dX1_driftOnce_29 : decode cX1_driftOnce 29 = .ok (.lmul, 1) := by decide +kernel
theorem dX1_driftOnce_30 : decode cX1_driftOnce 30 = .ok (.ldc2_w 97, 3) := by decide +kernel
theorem dX1_driftOnce_33 : decode cX1_driftOnce 33 = .ok (.ldiv, 1) := by decide +kernel
theorem dX1_driftOnce_34 : decode cX1_driftOnce 34 = .ok (.lstore_n 3, 1) := by decide +kernel
theorem dX1_driftOnce_35 : decode cX1_driftOnce 35 = .ok (.aload_n 0, 1) := by decide +kernel
theorem dX1_driftOnce_36 : decode cX1_driftOnce 36 = .ok (.getfield 18, 3) := by decide +kernel
theorem dX1_driftOnce_39 : decode cX1_driftOnce 39 = .ok (.iload_n 2, 1) := by decide +kernel
theorem dX1_driftOnce_40 : decode cX1_driftOnce 40 = .ok (.laload, 1) := by decide +kernel
theorem dX1_driftOnce_41 : decode cX1_driftOnce 41 = .ok (.lstore 5, 2) := by decide +kernel
theorem dX1_driftOnce_43 : decode cX1_driftOnce 43 = .ok (.iconst 1, 1) := by decide +kernel
theorem dX1_driftOnce_44 : decode cX1_driftOnce 44 = .ok (.istore 7, 2) := by decide +kernel
theorem dX1_driftOnce_46 : decode cX1_driftOnce 46 = .ok (.iload 7, 2) := by decide +kernel
theorem dX1_driftOnce_48 : decode cX1_driftOnce 48 = .ok (.iconst 4, 1) := by decide +kernel
theorem dX1_driftOnce_49 : decode cX1_driftOnce 49 = .ok (.if_icmp .gt 53, 3) := by decide +kernel
theorem dX1_driftOnce_52 : decode cX1_driftOnce 52 = .ok (.iload_n 2, 1) := by decide +kernel
theorem dX1_driftOnce_53 : decode cX1_driftOnce 53 = .ok (.iload 7, 2) := by decide +kernel
theorem dX1_driftOnce_55 : decode cX1_driftOnce 55 = .ok (.invokestatic 99, 3) := by decide +kernel
theorem dX1_driftOnce_58 : decode cX1_driftOnce 58 = .ok (.istore 8, 2) := by decide +kernel
theorem dX1_driftOnce_60 : decode cX1_driftOnce 60 = .ok (.iload 8, 2) := by decide +kernel
theorem dX1_driftOnce_62 : decode cX1_driftOnce 62 = .ok (.invokestatic 88, 3) := by decide +kernel
theorem dX1_driftOnce_65 : decode cX1_driftOnce 65 = .ok (.ifCond .eq 31, 3) := by decide +kernel
theorem dX1_driftOnce_68 : decode cX1_driftOnce 68 = .ok (.aload_n 1, 1) := by decide +kernel
theorem dX1_driftOnce_69 : decode cX1_driftOnce 69 = .ok (.getfield 103, 3) := by decide +kernel
theorem dX1_driftOnce_72 : decode cX1_driftOnce 72 = .ok (.iload 8, 2) := by decide +kernel
theorem dX1_driftOnce_74 : decode cX1_driftOnce 74 = .ok (.iaload, 1) := by decide +kernel
theorem dX1_driftOnce_75 : decode cX1_driftOnce 75 = .ok (.iconst 3, 1) := by decide +kernel
theorem dX1_driftOnce_76 : decode cX1_driftOnce 76 = .ok (.if_icmp .eq 20, 3) := by decide +kernel
theorem dX1_driftOnce_79 : decode cX1_driftOnce 79 = .ok (.aload_n 0, 1) := by decide +kernel
theorem dX1_driftOnce_80 : decode cX1_driftOnce 80 = .ok (.getfield 22, 3) := by decide +kernel
theorem dX1_driftOnce_83 : decode cX1_driftOnce 83 = .ok (.iload 8, 2) := by decide +kernel
theorem dX1_driftOnce_85 : decode cX1_driftOnce 85 = .ok (.dup2, 1) := by decide +kernel
theorem dX1_driftOnce_86 : decode cX1_driftOnce 86 = .ok (.laload, 1) := by decide +kernel
theorem dX1_driftOnce_87 : decode cX1_driftOnce 87 = .ok (.lload_n 3, 1) := by decide +kernel
theorem dX1_driftOnce_88 : decode cX1_driftOnce 88 = .ok (.ladd, 1) := by decide +kernel
theorem dX1_driftOnce_89 : decode cX1_driftOnce 89 = .ok (.lastore, 1) := by decide +kernel
theorem dX1_driftOnce_90 : decode cX1_driftOnce 90 = .ok (.lload 5, 2) := by decide +kernel
theorem dX1_driftOnce_92 : decode cX1_driftOnce 92 = .ok (.lload_n 3, 1) := by decide +kernel
theorem dX1_driftOnce_93 : decode cX1_driftOnce 93 = .ok (.lsub, 1) := by decide +kernel
theorem dX1_driftOnce_94 : decode cX1_driftOnce 94 = .ok (.lstore 5, 2) := by decide +kernel
theorem dX1_driftOnce_96 : decode cX1_driftOnce 96 = .ok (.iinc 7 1, 3) := by decide +kernel
theorem dX1_driftOnce_99 : decode cX1_driftOnce 99 = .ok (.goto (-53), 3) := by decide +kernel
theorem dX1_driftOnce_102 : decode cX1_driftOnce 102 = .ok (.aload_n 0, 1) := by decide +kernel
theorem dX1_driftOnce_103 : decode cX1_driftOnce 103 = .ok (.getfield 22, 3) := by decide +kernel
theorem dX1_driftOnce_106 : decode cX1_driftOnce 106 = .ok (.iload_n 2, 1) := by decide +kernel
theorem dX1_driftOnce_107 : decode cX1_driftOnce 107 = .ok (.dup2, 1) := by decide +kernel
theorem dX1_driftOnce_108 : decode cX1_driftOnce 108 = .ok (.laload, 1) := by decide +kernel
theorem dX1_driftOnce_109 : decode cX1_driftOnce 109 = .ok (.lload 5, 2) := by decide +kernel
theorem dX1_driftOnce_111 : decode cX1_driftOnce 111 = .ok (.ladd, 1) := by decide +kernel
theorem dX1_driftOnce_112 : decode cX1_driftOnce 112 = .ok (.lastore, 1) := by decide +kernel
theorem dX1_driftOnce_113 : decode cX1_driftOnce 113 = .ok (.iinc 2 1, 3) := by decide +kernel
theorem dX1_driftOnce_116 : decode cX1_driftOnce 116 = .ok (.goto (-106), 3) := by decide +kernel
theorem dX1_driftOnce_119 : decode cX1_driftOnce 119 = .ok (.aload_n 0, 1) := by decide +kernel
theorem dX1_driftOnce_120 : decode cX1_driftOnce 120 = .ok (.getfield 18, 3) := by decide +kernel
theorem dX1_driftOnce_123 : decode cX1_driftOnce 123 = .ok (.astore_n 2, 1) := by decide +kernel
theorem dX1_driftOnce_124 : decode cX1_driftOnce 124 = .ok (.aload_n 0, 1) := by decide +kernel
theorem dX1_driftOnce_125 : decode cX1_driftOnce 125 = .ok (.aload_n 0, 1) := by decide +kernel
theorem dX1_driftOnce_126 : decode cX1_driftOnce 126 = .ok (.getfield 22, 3) := by decide +kernel
theorem dX1_driftOnce_129 : decode cX1_driftOnce 129 = .ok (.putfield 18, 3) := by decide +kernel
theorem dX1_driftOnce_132 : decode cX1_driftOnce 132 = .ok (.aload_n 0, 1) := by decide +kernel
theorem dX1_driftOnce_133 : decode cX1_driftOnce 133 = .ok (.aload_n 2, 1) := by decide +kernel
theorem dX1_driftOnce_134 : decode cX1_driftOnce 134 = .ok (.putfield 22, 3) := by decide +kernel
theorem dX1_driftOnce_137 : decode cX1_driftOnce 137 = .ok (.return_, 1) := by decide +kernel
theorem dX1_driftedTo_0 : decode cX1_driftedTo 0 = .ok (.iload_n 1, 1) := by decide +kernel
theorem dX1_driftedTo_1 : decode cX1_driftedTo 1 = .ok (.invokestatic 88, 3) := by decide +kernel
theorem dX1_driftedTo_4 : decode cX1_driftedTo 4 = .ok (.ifCond .eq 12, 3) := by decide +kernel
theorem dX1_driftedTo_7 : decode cX1_driftedTo 7 = .ok (.aload_n 0, 1) := by decide +kernel
theorem dX1_driftedTo_8 : decode cX1_driftedTo 8 = .ok (.getfield 18, 3) := by decide +kernel
theorem dX1_driftedTo_11 : decode cX1_driftedTo 11 = .ok (.iload_n 1, 1) := by decide +kernel
theorem dX1_driftedTo_12 : decode cX1_driftedTo 12 = .ok (.laload, 1) := by decide +kernel
theorem dX1_driftedTo_13 : decode cX1_driftedTo 13 = .ok (.goto 6, 3) := by decide +kernel
theorem dX1_driftedTo_16 : decode cX1_driftedTo 16 = .ok (.ldc2_w 106, 3) := by decide +kernel
theorem dX1_driftedTo_19 : decode cX1_driftedTo 19 = .ok (.lreturn, 1) := by decide +kernel
theorem dX1_likeliestCell_0 : decode cX1_likeliestCell 0 = .ok (.iconst 0, 1) := by decide +kernel
theorem dX1_likeliestCell_1 : decode cX1_likeliestCell 1 = .ok (.istore_n 1, 1) := by decide +kernel
theorem dX1_likeliestCell_2 : decode cX1_likeliestCell 2 = .ok (.iconst 1, 1) := by decide +kernel
theorem dX1_likeliestCell_3 : decode cX1_likeliestCell 3 = .ok (.istore_n 2, 1) := by decide +kernel
theorem dX1_likeliestCell_4 : decode cX1_likeliestCell 4 = .ok (.iload_n 2, 1) := by decide +kernel
theorem dX1_likeliestCell_5 : decode cX1_likeliestCell 5 = .ok (.bipush 25, 2) := by decide +kernel
theorem dX1_likeliestCell_7 : decode cX1_likeliestCell 7 = .ok (.if_icmp .ge 27, 3) := by decide +kernel
theorem dX1_likeliestCell_10 : decode cX1_likeliestCell 10 = .ok (.aload_n 0, 1) := by decide +kernel
theorem dX1_likeliestCell_11 : decode cX1_likeliestCell 11 = .ok (.getfield 18, 3) := by decide +kernel
theorem dX1_likeliestCell_14 : decode cX1_likeliestCell 14 = .ok (.iload_n 2, 1) := by decide +kernel
theorem dX1_likeliestCell_15 : decode cX1_likeliestCell 15 = .ok (.laload, 1) := by decide +kernel
theorem dX1_likeliestCell_16 : decode cX1_likeliestCell 16 = .ok (.aload_n 0, 1) := by decide +kernel
theorem dX1_likeliestCell_17 : decode cX1_likeliestCell 17 = .ok (.getfield 18, 3) := by decide +kernel
theorem dX1_likeliestCell_20 : decode cX1_likeliestCell 20 = .ok (.iload_n 1, 1) := by decide +kernel
theorem dX1_likeliestCell_21 : decode cX1_likeliestCell 21 = .ok (.laload, 1) := by decide +kernel
theorem dX1_likeliestCell_22 : decode cX1_likeliestCell 22 = .ok (.lcmp, 1) := by decide +kernel
theorem dX1_likeliestCell_23 : decode cX1_likeliestCell 23 = .ok (.ifCond .le 5, 3) := by decide +kernel
theorem dX1_likeliestCell_26 : decode cX1_likeliestCell 26 = .ok (.iload_n 2, 1) := by decide +kernel
theorem dX1_likeliestCell_27 : decode cX1_likeliestCell 27 = .ok (.istore_n 1, 1) := by decide +kernel
theorem dX1_likeliestCell_28 : decode cX1_likeliestCell 28 = .ok (.iinc 2 1, 3) := by decide +kernel
theorem dX1_likeliestCell_31 : decode cX1_likeliestCell 31 = .ok (.goto (-27), 3) := by decide +kernel
theorem dX1_likeliestCell_34 : decode cX1_likeliestCell 34 = .ok (.iload_n 1, 1) := by decide +kernel
theorem dX1_likeliestCell_35 : decode cX1_likeliestCell 35 = .ok (.ireturn, 1) := by decide +kernel
theorem dX1_playNights_0 : decode cX1_playNights 0 = .ok (.iconst 0, 1) := by decide +kernel
theorem dX1_playNights_1 : decode cX1_playNights 1 = .ok (.istore 4, 2) := by decide +kernel
theorem dX1_playNights_3 : decode cX1_playNights 3 = .ok (.aload_n 0, 1) := by decide +kernel
theorem dX1_playNights_4 : decode cX1_playNights 4 = .ok (.iload_n 2, 1) := by decide +kernel
theorem dX1_playNights_5 : decode cX1_playNights 5 = .ok (.putfield 108, 3) := by decide +kernel
theorem dX1_playNights_8 : decode cX1_playNights 8 = .ok (.iconst 0, 1) := by decide +kernel
theorem dX1_playNights_9 : decode cX1_playNights 9 = .ok (.istore 5, 2) := by decide +kernel
theorem dX1_playNights_11 : decode cX1_playNights 11 = .ok (.iload 5, 2) := by decide +kernel
theorem dX1_playNights_13 : decode cX1_playNights 13 = .ok (.iload_n 3, 1) := by decide +kernel
theorem dX1_playNights_14 : decode cX1_playNights 14 = .ok (.if_icmp .ge 108, 3) := by decide +kernel
theorem dX1_playNights_17 : decode cX1_playNights 17 = .ok (.aload_n 1, 1) := by decide +kernel
theorem dX1_playNights_18 : decode cX1_playNights 18 = .ok (.getfield 79, 3) := by decide +kernel
theorem dX1_playNights_21 : decode cX1_playNights 21 = .ok (.iconst 0, 1) := by decide +kernel
theorem dX1_playNights_22 : decode cX1_playNights 22 = .ok (.iaload, 1) := by decide +kernel
theorem dX1_playNights_23 : decode cX1_playNights 23 = .ok (.sipush 999, 3) := by decide +kernel
theorem dX1_playNights_26 : decode cX1_playNights 26 = .ok (.if_icmp .ge 96, 3) := by decide +kernel
theorem dX1_playNights_29 : decode cX1_playNights 29 = .ok (.aload_n 0, 1) := by decide +kernel
theorem dX1_playNights_30 : decode cX1_playNights 30 = .ok (.aload_n 1, 1) := by decide +kernel
theorem dX1_playNights_31 : decode cX1_playNights 31 = .ok (.getfield 54, 3) := by decide +kernel
theorem dX1_playNights_34 : decode cX1_playNights 34 = .ok (.invokevirtual 111, 3) := by decide +kernel
theorem dX1_playNights_37 : decode cX1_playNights 37 = .ok (.istore 6, 2) := by decide +kernel
theorem dX1_playNights_39 : decode cX1_playNights 39 = .ok (.aload_n 0, 1) := by decide +kernel
theorem dX1_playNights_40 : decode cX1_playNights 40 = .ok (.aload_n 1, 1) := by decide +kernel
theorem dX1_playNights_41 : decode cX1_playNights 41 = .ok (.getfield 65, 3) := by decide +kernel
theorem dX1_playNights_44 : decode cX1_playNights 44 = .ok (.invokevirtual 111, 3) := by decide +kernel
theorem dX1_playNights_47 : decode cX1_playNights 47 = .ok (.istore 7, 2) := by decide +kernel
theorem dX1_playNights_49 : decode cX1_playNights 49 = .ok (.aload_n 0, 1) := by decide +kernel
theorem dX1_playNights_50 : decode cX1_playNights 50 = .ok (.iconst 3, 1) := by decide +kernel
theorem dX1_playNights_51 : decode cX1_playNights 51 = .ok (.invokevirtual 111, 3) := by decide +kernel
theorem dX1_playNights_54 : decode cX1_playNights 54 = .ok (.istore 8, 2) := by decide +kernel
theorem dX1_playNights_56 : decode cX1_playNights 56 = .ok (.iload 8, 2) := by decide +kernel
theorem dX1_playNights_58 : decode cX1_playNights 58 = .ok (.ifCond .ne 24, 3) := by decide +kernel
theorem dX1_playNights_61 : decode cX1_playNights 61 = .ok (.aload_n 0, 1) := by decide +kernel
theorem dX1_playNights_62 : decode cX1_playNights 62 = .ok (.getfield 33, 3) := by decide +kernel
theorem dX1_playNights_65 : decode cX1_playNights 65 = .ok (.aload_n 1, 1) := by decide +kernel
theorem dX1_playNights_66 : decode cX1_playNights 66 = .ok (.iload 6, 2) := by decide +kernel
theorem dX1_playNights_68 : decode cX1_playNights 68 = .ok (.iload 7, 2) := by decide +kernel
theorem dX1_playNights_70 : decode cX1_playNights 70 = .ok (.invokevirtual 114, 3) := by decide +kernel
theorem dX1_playNights_73 : decode cX1_playNights 73 = .ok (.ifCond .lt 9, 3) := by decide +kernel
theorem dX1_playNights_76 : decode cX1_playNights 76 = .ok (.iinc 4 1, 3) := by decide +kernel
