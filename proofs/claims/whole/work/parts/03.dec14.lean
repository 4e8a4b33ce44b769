theorem dX11_readSum_34 : decode cX11_readSum 34 = .ok (.return_, 1) := by decide +kernel
theorem dX11_readOrder_0 : decode cX11_readOrder 0 = .ok (.iconst (-1), 1) := by decide +kernel
theorem dX11_readOrder_1 : decode cX11_readOrder 1 = .ok (.istore_n 1, 1) := by decide +kernel
theorem dX11_readOrder_2 : decode cX11_readOrder 2 = .ok (.iconst 0, 1) := by decide +kernel
theorem dX11_readOrder_3 : decode cX11_readOrder 3 = .ok (.istore_n 2, 1) := by decide +kernel
theorem dX11_readOrder_4 : decode cX11_readOrder 4 = .ok (.iload_n 2, 1) := by decide +kernel
theorem dX11_readOrder_5 : decode cX11_readOrder 5 = .ok (.iconst 4, 1) := by decide +kernel
theorem dX11_readOrder_6 : decode cX11_readOrder 6 = .ok (.if_icmp .ge 28, 3) := by decide +kernel
theorem dX11_readOrder_9 : decode cX11_readOrder 9 = .ok (.aload_n 0, 1) := by decide +kernel
theorem dX11_readOrder_10 : decode cX11_readOrder 10 = .ok (.aload_n 0, 1) := by decide +kernel
theorem dX11_readOrder_11 : decode cX11_readOrder 11 = .ok (.getfield 135, 3) := by decide +kernel
theorem dX11_readOrder_14 : decode cX11_readOrder 14 = .ok (.iload_n 2, 1) := by decide +kernel
theorem dX11_readOrder_15 : decode cX11_readOrder 15 = .ok (.laload, 1) := by decide +kernel
theorem dX11_readOrder_16 : decode cX11_readOrder 16 = .ok (.invokevirtual 307, 3) := by decide +kernel
theorem dX11_readOrder_19 : decode cX11_readOrder 19 = .ok (.ifCond .eq 7, 3) := by decide +kernel
theorem dX11_readOrder_22 : decode cX11_readOrder 22 = .ok (.iload_n 2, 1) := by decide +kernel
theorem dX11_readOrder_23 : decode cX11_readOrder 23 = .ok (.goto 4, 3) := by decide +kernel
theorem dX11_readOrder_26 : decode cX11_readOrder 26 = .ok (.iload_n 1, 1) := by decide +kernel
theorem dX11_readOrder_27 : decode cX11_readOrder 27 = .ok (.istore_n 1, 1) := by decide +kernel
theorem dX11_readOrder_28 : decode cX11_readOrder 28 = .ok (.iinc 2 1, 3) := by decide +kernel
theorem dX11_readOrder_31 : decode cX11_readOrder 31 = .ok (.goto (-27), 3) := by decide +kernel
theorem dX11_readOrder_34 : decode cX11_readOrder 34 = .ok (.aload_n 0, 1) := by decide +kernel
theorem dX11_readOrder_35 : decode cX11_readOrder 35 = .ok (.iload_n 1, 1) := by decide +kernel
theorem dX11_readOrder_36 : decode cX11_readOrder 36 = .ok (.iconst (-1), 1) := by decide +kernel
theorem dX11_readOrder_37 : decode cX11_readOrder 37 = .ok (.if_icmp .eq 16, 3) := by decide +kernel
theorem dX11_readOrder_40 : decode cX11_readOrder 40 = .ok (.aload_n 0, 1) := by decide +kernel
theorem dX11_readOrder_41 : decode cX11_readOrder 41 = .ok (.getfield 380, 3) := by decide +kernel
theorem dX11_readOrder_44 : decode cX11_readOrder 44 = .ok (.bipush 12, 2) := by decide +kernel
theorem dX11_readOrder_46 : decode cX11_readOrder 46 = .ok (.if_icmp .ge 7, 3) := by decide +kernel
theorem dX11_readOrder_49 : decode cX11_readOrder 49 = .ok (.iconst 1, 1) := by decide +kernel
theorem dX11_readOrder_50 : decode cX11_readOrder 50 = .ok (.goto 4, 3) := by decide +kernel
theorem dX11_readOrder_53 : decode cX11_readOrder 53 = .ok (.iconst 0, 1) := by decide +kernel
theorem dX11_readOrder_54 : decode cX11_readOrder 54 = .ok (.invokevirtual 286, 3) := by decide +kernel
theorem dX11_readOrder_57 : decode cX11_readOrder 57 = .ok (.aload_n 0, 1) := by decide +kernel
theorem dX11_readOrder_58 : decode cX11_readOrder 58 = .ok (.getfield 251, 3) := by decide +kernel
theorem dX11_readOrder_61 : decode cX11_readOrder 61 = .ok (.ifCond .eq 4, 3) := by decide +kernel
theorem dX11_readOrder_64 : decode cX11_readOrder 64 = .ok (.return_, 1) := by decide +kernel
theorem dX11_readOrder_65 : decode cX11_readOrder 65 = .ok (.bipush 8, 2) := by decide +kernel
theorem dX11_readOrder_67 : decode cX11_readOrder 67 = .ok (.aload_n 0, 1) := by decide +kernel
theorem dX11_readOrder_68 : decode cX11_readOrder 68 = .ok (.getfield 380, 3) := by decide +kernel
theorem dX11_readOrder_71 : decode cX11_readOrder 71 = .ok (.imul, 1) := by decide +kernel
theorem dX11_readOrder_72 : decode cX11_readOrder 72 = .ok (.istore_n 2, 1) := by decide +kernel
theorem dX11_readOrder_73 : decode cX11_readOrder 73 = .ok (.aload_n 0, 1) := by decide +kernel
theorem dX11_readOrder_74 : decode cX11_readOrder 74 = .ok (.dup, 1) := by decide +kernel
theorem dX11_readOrder_75 : decode cX11_readOrder 75 = .ok (.getfield 380, 3) := by decide +kernel
theorem dX11_readOrder_78 : decode cX11_readOrder 78 = .ok (.iconst 1, 1) := by decide +kernel
theorem dX11_readOrder_79 : decode cX11_readOrder 79 = .ok (.iadd, 1) := by decide +kernel
theorem dX11_readOrder_80 : decode cX11_readOrder 80 = .ok (.putfield 380, 3) := by decide +kernel
theorem dX11_readOrder_83 : decode cX11_readOrder 83 = .ok (.iconst 0, 1) := by decide +kernel
theorem dX11_readOrder_84 : decode cX11_readOrder 84 = .ok (.istore_n 3, 1) := by decide +kernel
theorem dX11_readOrder_85 : decode cX11_readOrder 85 = .ok (.iload_n 3, 1) := by decide +kernel
theorem dX11_readOrder_86 : decode cX11_readOrder 86 = .ok (.bipush 8, 2) := by decide +kernel
theorem dX11_readOrder_88 : decode cX11_readOrder 88 = .ok (.if_icmp .ge 18, 3) := by decide +kernel
theorem dX11_readOrder_91 : decode cX11_readOrder 91 = .ok (.aload_n 0, 1) := by decide +kernel
theorem dX11_readOrder_92 : decode cX11_readOrder 92 = .ok (.getfield 138, 3) := by decide +kernel
theorem dX11_readOrder_95 : decode cX11_readOrder 95 = .ok (.iload_n 2, 1) := by decide +kernel
theorem dX11_readOrder_96 : decode cX11_readOrder 96 = .ok (.iload_n 3, 1) := by decide +kernel
theorem dX11_readOrder_97 : decode cX11_readOrder 97 = .ok (.iadd, 1) := by decide +kernel
theorem dX11_readOrder_98 : decode cX11_readOrder 98 = .ok (.iconst 0, 1) := by decide +kernel
theorem dX11_readOrder_99 : decode cX11_readOrder 99 = .ok (.iastore, 1) := by decide +kernel
theorem dX11_readOrder_100 : decode cX11_readOrder 100 = .ok (.iinc 3 1, 3) := by decide +kernel
theorem dX11_readOrder_103 : decode cX11_readOrder 103 = .ok (.goto (-18), 3) := by decide +kernel
theorem dX11_readOrder_106 : decode cX11_readOrder 106 = .ok (.aload_n 0, 1) := by decide +kernel
theorem dX11_readOrder_107 : decode cX11_readOrder 107 = .ok (.getfield 138, 3) := by decide +kernel
theorem dX11_readOrder_110 : decode cX11_readOrder 110 = .ok (.iload_n 2, 1) := by decide +kernel
theorem dX11_readOrder_111 : decode cX11_readOrder 111 = .ok (.iload_n 1, 1) := by decide +kernel
theorem dX11_readOrder_112 : decode cX11_readOrder 112 = .ok (.iastore, 1) := by decide +kernel
theorem dX11_readOrder_113 : decode cX11_readOrder 113 = .ok (.iload_n 1, 1) := by decide +kernel
theorem dX11_readOrder_114 : decode cX11_readOrder 114 = .ok (.iconst 3, 1) := by decide +kernel
theorem dX11_readOrder_115 : decode cX11_readOrder 115 = .ok (.if_icmp .eq 10, 3) := by decide +kernel
theorem dX11_readOrder_118 : decode cX11_readOrder 118 = .ok (.aload_n 0, 1) := by decide +kernel
theorem dX11_readOrder_119 : decode cX11_readOrder 119 = .ok (.iload_n 2, 1) := by decide +kernel
theorem dX11_readOrder_120 : decode cX11_readOrder 120 = .ok (.iconst 1, 1) := by decide +kernel
theorem dX11_readOrder_121 : decode cX11_readOrder 121 = .ok (.iadd, 1) := by decide +kernel
theorem dX11_readOrder_122 : decode cX11_readOrder 122 = .ok (.invokevirtual 510, 3) := by decide +kernel
theorem dX11_readOrder_125 : decode cX11_readOrder 125 = .ok (.iload_n 1, 1) := by decide +kernel
theorem dX11_readOrder_126 : decode cX11_readOrder 126 = .ok (.iconst 2, 1) := by decide +kernel
theorem dX11_readOrder_127 : decode cX11_readOrder 127 = .ok (.if_icmp .ge 38, 3) := by decide +kernel
theorem dX11_readOrder_130 : decode cX11_readOrder 130 = .ok (.aload_n 0, 1) := by decide +kernel
theorem dX11_readOrder_131 : decode cX11_readOrder 131 = .ok (.getfield 251, 3) := by decide +kernel
theorem dX11_readOrder_134 : decode cX11_readOrder 134 = .ok (.ifCond .ne 24, 3) := by decide +kernel
theorem dX11_readOrder_137 : decode cX11_readOrder 137 = .ok (.aload_n 0, 1) := by decide +kernel
theorem dX11_readOrder_138 : decode cX11_readOrder 138 = .ok (.aload_n 0, 1) := by decide +kernel
theorem dX11_readOrder_139 : decode cX11_readOrder 139 = .ok (.iload_n 1, 1) := by decide +kernel
theorem dX11_readOrder_140 : decode cX11_readOrder 140 = .ok (.ifCond .ne 9, 3) := by decide +kernel
theorem dX11_readOrder_143 : decode cX11_readOrder 143 = .ok (.ldc2_w 513, 3) := by decide +kernel
theorem dX11_readOrder_146 : decode cX11_readOrder 146 = .ok (.goto 6, 3) := by decide +kernel
theorem dX11_readOrder_149 : decode cX11_readOrder 149 = .ok (.ldc2_w 515, 3) := by decide +kernel
theorem dX11_readOrder_152 : decode cX11_readOrder 152 = .ok (.invokevirtual 307, 3) := by decide +kernel
theorem dX11_readOrder_155 : decode cX11_readOrder 155 = .ok (.invokevirtual 286, 3) := by decide +kernel
theorem dX11_readOrder_158 : decode cX11_readOrder 158 = .ok (.aload_n 0, 1) := by decide +kernel
theorem dX11_readOrder_159 : decode cX11_readOrder 159 = .ok (.iload_n 2, 1) := by decide +kernel
theorem dX11_readOrder_160 : decode cX11_readOrder 160 = .ok (.iconst 3, 1) := by decide +kernel
theorem dX11_readOrder_161 : decode cX11_readOrder 161 = .ok (.iadd, 1) := by decide +kernel
theorem dX11_readOrder_162 : decode cX11_readOrder 162 = .ok (.invokevirtual 510, 3) := by decide +kernel
theorem dX11_readOrder_165 : decode cX11_readOrder 165 = .ok (.aload_n 0, 1) := by decide +kernel
theorem dX11_readOrder_166 : decode cX11_readOrder 166 = .ok (.getfield 138, 3) := by decide +kernel
theorem dX11_readOrder_169 : decode cX11_readOrder 169 = .ok (.iload_n 2, 1) := by decide +kernel
theorem dX11_readOrder_170 : decode cX11_readOrder 170 = .ok (.bipush 7, 2) := by decide +kernel
theorem dX11_readOrder_172 : decode cX11_readOrder 172 = .ok (.iadd, 1) := by decide +kernel
theorem dX11_readOrder_173 : decode cX11_readOrder 173 = .ok (.iconst 1, 1) := by decide +kernel
theorem dX11_readOrder_174 : decode cX11_readOrder 174 = .ok (.iastore, 1) := by decide +kernel
theorem dX11_readOrder_175 : decode cX11_readOrder 175 = .ok (.aload_n 0, 1) := by decide +kernel
theorem dX11_readOrder_176 : decode cX11_readOrder 176 = .ok (.getfield 251, 3) := by decide +kernel
theorem dX11_readOrder_179 : decode cX11_readOrder 179 = .ok (.ifCond .ne 34, 3) := by decide +kernel
theorem dX11_readOrder_182 : decode cX11_readOrder 182 = .ok (.aload_n 0, 1) := by decide +kernel
theorem dX11_readOrder_183 : decode cX11_readOrder 183 = .ok (.ldc2_w 517, 3) := by decide +kernel
theorem dX11_readOrder_186 : decode cX11_readOrder 186 = .ok (.invokevirtual 307, 3) := by decide +kernel
theorem dX11_readOrder_189 : decode cX11_readOrder 189 = .ok (.ifCond .eq 24, 3) := by decide +kernel
theorem dX11_readOrder_192 : decode cX11_readOrder 192 = .ok (.aload_n 0, 1) := by decide +kernel
theorem dX11_readOrder_193 : decode cX11_readOrder 193 = .ok (.invokevirtual 255, 3) := by decide +kernel
theorem dX11_readOrder_196 : decode cX11_readOrder 196 = .ok (.aload_n 0, 1) := by decide +kernel
theorem dX11_readOrder_197 : decode cX11_readOrder 197 = .ok (.getfield 138, 3) := by decide +kernel
theorem dX11_readOrder_200 : decode cX11_readOrder 200 = .ok (.iload_n 2, 1) := by decide +kernel
theorem dX11_readOrder_201 : decode cX11_readOrder 201 = .ok (.bipush 7, 2) := by decide +kernel
theorem dX11_readOrder_203 : decode cX11_readOrder 203 = .ok (.iadd, 1) := by decide +kernel
theorem dX11_readOrder_204 : decode cX11_readOrder 204 = .ok (.aload_n 0, 1) := by decide +kernel
theorem dX11_readOrder_205 : decode cX11_readOrder 205 = .ok (.lconst 1, 1) := by decide +kernel
theorem dX11_readOrder_206 : decode cX11_readOrder 206 = .ok (.ldc2_w 303, 3) := by decide +kernel
theorem dX11_readOrder_209 : decode cX11_readOrder 209 = .ok (.invokevirtual 344, 3) := by decide +kernel
theorem dX11_readOrder_212 : decode cX11_readOrder 212 = .ok (.iastore, 1) := by decide +kernel
theorem dX11_readOrder_213 : decode cX11_readOrder 213 = .ok (.aload_n 0, 1) := by decide +kernel
theorem dX11_readOrder_214 : decode cX11_readOrder 214 = .ok (.getfield 138, 3) := by decide +kernel
theorem dX11_readOrder_217 : decode cX11_readOrder 217 = .ok (.iload_n 2, 1) := by decide +kernel
theorem dX11_readOrder_218 : decode cX11_readOrder 218 = .ok (.iconst 5, 1) := by decide +kernel
theorem dX11_readOrder_219 : decode cX11_readOrder 219 = .ok (.iadd, 1) := by decide +kernel
theorem dX11_readOrder_220 : decode cX11_readOrder 220 = .ok (.aload_n 0, 1) := by decide +kernel
theorem dX11_readOrder_221 : decode cX11_readOrder 221 = .ok (.getfield 290, 3) := by decide +kernel
theorem dX11_readOrder_224 : decode cX11_readOrder 224 = .ok (.iastore, 1) := by decide +kernel
theorem dX11_readOrder_225 : decode cX11_readOrder 225 = .ok (.aload_n 0, 1) := by decide +kernel
theorem dX11_readOrder_226 : decode cX11_readOrder 226 = .ok (.getfield 251, 3) := by decide +kernel
theorem dX11_readOrder_229 : decode cX11_readOrder 229 = .ok (.ifCond .ne 22, 3) := by decide +kernel
theorem dX11_readOrder_232 : decode cX11_readOrder 232 = .ok (.aload_n 0, 1) := by decide +kernel
theorem dX11_readOrder_233 : decode cX11_readOrder 233 = .ok (.ldc2_w 386, 3) := by decide +kernel
theorem dX11_readOrder_236 : decode cX11_readOrder 236 = .ok (.invokevirtual 307, 3) := by decide +kernel
theorem dX11_readOrder_239 : decode cX11_readOrder 239 = .ok (.ifCond .eq 12, 3) := by decide +kernel
theorem dX11_readOrder_242 : decode cX11_readOrder 242 = .ok (.aload_n 0, 1) := by decide +kernel
theorem dX11_readOrder_243 : decode cX11_readOrder 243 = .ok (.invokevirtual 255, 3) := by decide +kernel
theorem dX11_readOrder_246 : decode cX11_readOrder 246 = .ok (.aload_n 0, 1) := by decide +kernel
theorem dX11_readOrder_247 : decode cX11_readOrder 247 = .ok (.iconst 1, 1) := by decide +kernel
theorem dX11_readOrder_248 : decode cX11_readOrder 248 = .ok (.invokevirtual 383, 3) := by decide +kernel
theorem dX11_readOrder_251 : decode cX11_readOrder 251 = .ok (.aload_n 0, 1) := by decide +kernel
theorem dX11_readOrder_252 : decode cX11_readOrder 252 = .ok (.getfield 138, 3) := by decide +kernel
theorem dX11_readOrder_255 : decode cX11_readOrder 255 = .ok (.iload_n 2, 1) := by decide +kernel
theorem dX11_readOrder_256 : decode cX11_readOrder 256 = .ok (.bipush 6, 2) := by decide +kernel
theorem dX11_readOrder_258 : decode cX11_readOrder 258 = .ok (.iadd, 1) := by decide +kernel
theorem dX11_readOrder_259 : decode cX11_readOrder 259 = .ok (.aload_n 0, 1) := by decide +kernel
theorem dX11_readOrder_260 : decode cX11_readOrder 260 = .ok (.getfield 290, 3) := by decide +kernel
theorem dX11_readOrder_263 : decode cX11_readOrder 263 = .ok (.iastore, 1) := by decide +kernel
theorem dX11_readOrder_264 : decode cX11_readOrder 264 = .ok (.return_, 1) := by decide +kernel
theorem dX11_sumOf_0 : decode cX11_sumOf 0 = .ok (.aload_n 0, 1) := by decide +kernel
theorem dX11_sumOf_1 : decode cX11_sumOf 1 = .ok (.getfield 519, 3) := by decide +kernel
theorem dX11_sumOf_4 : decode cX11_sumOf 4 = .ok (.ifCond .ne 20, 3) := by decide +kernel
theorem dX11_sumOf_7 : decode cX11_sumOf 7 = .ok (.aload_n 0, 1) := by decide +kernel
theorem dX11_sumOf_8 : decode cX11_sumOf 8 = .ok (.getfield 138, 3) := by decide +kernel
theorem dX11_sumOf_11 : decode cX11_sumOf 11 = .ok (.iload_n 1, 1) := by decide +kernel
theorem dX11_sumOf_12 : decode cX11_sumOf 12 = .ok (.iaload, 1) := by decide +kernel
theorem dX11_sumOf_13 : decode cX11_sumOf 13 = .ok (.aload_n 0, 1) := by decide +kernel
theorem dX11_sumOf_14 : decode cX11_sumOf 14 = .ok (.getfield 138, 3) := by decide +kernel
theorem dX11_sumOf_17 : decode cX11_sumOf 17 = .ok (.iload_n 1, 1) := by decide +kernel
theorem dX11_sumOf_18 : decode cX11_sumOf 18 = .ok (.iconst 1, 1) := by decide +kernel
theorem dX11_sumOf_19 : decode cX11_sumOf 19 = .ok (.iadd, 1) := by decide +kernel
theorem dX11_sumOf_20 : decode cX11_sumOf 20 = .ok (.iaload, 1) := by decide +kernel
theorem dX11_sumOf_21 : decode cX11_sumOf 21 = .ok (.if_icmp .ne 5, 3) := by decide +kernel
theorem dX11_sumOf_24 : decode cX11_sumOf 24 = .ok (.iconst (-1), 1) := by decide +kernel
theorem dX11_sumOf_25 : decode cX11_sumOf 25 = .ok (.ireturn, 1) := by decide +kernel
theorem dX11_sumOf_26 : decode cX11_sumOf 26 = .ok (.aload_n 0, 1) := by decide +kernel
theorem dX11_sumOf_27 : decode cX11_sumOf 27 = .ok (.iconst 1, 1) := by decide +kernel
theorem dX11_sumOf_28 : decode cX11_sumOf 28 = .ok (.putfield 326, 3) := by decide +kernel
theorem dX11_sumOf_31 : decode cX11_sumOf 31 = .ok (.aload_n 0, 1) := by decide +kernel
theorem dX11_sumOf_32 : decode cX11_sumOf 32 = .ok (.aload_n 0, 1) := by decide +kernel
theorem dX11_sumOf_33 : decode cX11_sumOf 33 = .ok (.getfield 138, 3) := by decide +kernel
theorem dX11_sumOf_36 : decode cX11_sumOf 36 = .ok (.iload_n 1, 1) := by decide +kernel
theorem dX11_sumOf_37 : decode cX11_sumOf 37 = .ok (.iaload, 1) := by decide +kernel
theorem dX11_sumOf_38 : decode cX11_sumOf 38 = .ok (.aload_n 0, 1) := by decide +kernel
theorem dX11_sumOf_39 : decode cX11_sumOf 39 = .ok (.getfield 138, 3) := by decide +kernel
theorem dX11_sumOf_42 : decode cX11_sumOf 42 = .ok (.iload_n 1, 1) := by decide +kernel
theorem dX11_sumOf_43 : decode cX11_sumOf 43 = .ok (.iconst 1, 1) := by decide +kernel
theorem dX11_sumOf_44 : decode cX11_sumOf 44 = .ok (.iadd, 1) := by decide +kernel
theorem dX11_sumOf_45 : decode cX11_sumOf 45 = .ok (.iaload, 1) := by decide +kernel
theorem dX11_sumOf_46 : decode cX11_sumOf 46 = .ok (.invokevirtual 417, 3) := by decide +kernel
theorem dX11_sumOf_49 : decode cX11_sumOf 49 = .ok (.aload_n 0, 1) := by decide +kernel
theorem dX11_sumOf_50 : decode cX11_sumOf 50 = .ok (.iconst 0, 1) := by decide +kernel
theorem dX11_sumOf_51 : decode cX11_sumOf 51 = .ok (.putfield 326, 3) := by decide +kernel
theorem dX11_sumOf_54 : decode cX11_sumOf 54 = .ok (.aload_n 0, 1) := by decide +kernel
theorem dX11_sumOf_55 : decode cX11_sumOf 55 = .ok (.aload_n 0, 1) := by decide +kernel
theorem dX11_sumOf_56 : decode cX11_sumOf 56 = .ok (.getfield 400, 3) := by decide +kernel
theorem dX11_sumOf_59 : decode cX11_sumOf 59 = .ok (.putfield 519, 3) := by decide +kernel
theorem dX11_sumOf_62 : decode cX11_sumOf 62 = .ok (.aload_n 0, 1) := by decide +kernel
theorem dX11_sumOf_63 : decode cX11_sumOf 63 = .ok (.getfield 414, 3) := by decide +kernel
theorem dX11_sumOf_66 : decode cX11_sumOf 66 = .ok (.l2i, 1) := by decide +kernel
theorem dX11_sumOf_67 : decode cX11_sumOf 67 = .ok (.ireturn, 1) := by decide +kernel
theorem dX11_act_0 : decode cX11_act 0 = .ok (.iload_n 1, 1) := by decide +kernel
theorem dX11_act_1 : decode cX11_act 1 = .ok (.tableswitch 47 0 2 #[27, 34, 41], 27) := by decide +kernel
theorem dX11_act_28 : decode cX11_act 28 = .ok (.aload_n 0, 1) := by decide +kernel
theorem dX11_act_29 : decode cX11_act 29 = .ok (.iload_n 2, 1) := by decide +kernel
theorem dX11_act_30 : decode cX11_act 30 = .ok (.iload_n 3, 1) := by decide +kernel
theorem dX11_act_31 : decode cX11_act 31 = .ok (.invokevirtual 448, 3) := by decide +kernel
theorem dX11_act_34 : decode cX11_act 34 = .ok (.ireturn, 1) := by decide +kernel
theorem dX11_act_35 : decode cX11_act 35 = .ok (.aload_n 0, 1) := by decide +kernel
theorem dX11_act_36 : decode cX11_act 36 = .ok (.iload_n 2, 1) := by decide +kernel
theorem dX11_act_37 : decode cX11_act 37 = .ok (.iload_n 3, 1) := by decide +kernel
theorem dX11_act_38 : decode cX11_act 38 = .ok (.invokevirtual 460, 3) := by decide +kernel
theorem dX11_act_41 : decode cX11_act 41 = .ok (.ireturn, 1) := by decide +kernel
theorem dX11_act_42 : decode cX11_act 42 = .ok (.aload_n 0, 1) := by decide +kernel
theorem dX11_act_43 : decode cX11_act 43 = .ok (.iload_n 2, 1) := by decide +kernel
theorem dX11_act_44 : decode cX11_act 44 = .ok (.invokevirtual 451, 3) := by decide +kernel
theorem dX11_act_47 : decode cX11_act 47 = .ok (.ireturn, 1) := by decide +kernel
theorem dX11_act_48 : decode cX11_act 48 = .ok (.aload_n 0, 1) := by decide +kernel
theorem dX11_act_49 : decode cX11_act 49 = .ok (.invokevirtual 469, 3) := by decide +kernel
theorem dX11_act_52 : decode cX11_act 52 = .ok (.ireturn, 1) := by decide +kernel
theorem dX11_run_0 : decode cX11_run 0 = .ok (.aload_n 0, 1) := by decide +kernel
theorem dX11_run_1 : decode cX11_run 1 = .ok (.getfield 106, 3) := by decide +kernel
theorem dX11_run_4 : decode cX11_run 4 = .ok (.iconst 1, 1) := by decide +kernel
theorem dX11_run_5 : decode cX11_run 5 = .ok (.aload_n 0, 1) := by decide +kernel
theorem dX11_run_6 : decode cX11_run 6 = .ok (.getfield 13, 3) := by decide +kernel
theorem dX11_run_9 : decode cX11_run 9 = .ok (.iconst 5, 1) := by decide +kernel
theorem dX11_run_10 : decode cX11_run 10 = .ok (.iaload, 1) := by decide +kernel
theorem dX11_run_11 : decode cX11_run 11 = .ok (.i2l, 1) := by decide +kernel
theorem dX11_run_12 : decode cX11_run 12 = .ok (.lastore, 1) := by decide +kernel
theorem dX11_run_13 : decode cX11_run 13 = .ok (.aload_n 0, 1) := by decide +kernel
theorem dX11_run_14 : decode cX11_run 14 = .ok (.getfield 106, 3) := by decide +kernel
theorem dX11_run_17 : decode cX11_run 17 = .ok (.iconst 2, 1) := by decide +kernel
theorem dX11_run_18 : decode cX11_run 18 = .ok (.aload_n 0, 1) := by decide +kernel
theorem dX11_run_19 : decode cX11_run 19 = .ok (.getfield 522, 3) := by decide +kernel
theorem dX11_run_22 : decode cX11_run 22 = .ok (.i2l, 1) := by decide +kernel
theorem dX11_run_23 : decode cX11_run 23 = .ok (.lastore, 1) := by decide +kernel
theorem dX11_run_24 : decode cX11_run 24 = .ok (.aload_n 0, 1) := by decide +kernel
theorem dX11_run_25 : decode cX11_run 25 = .ok (.getfield 106, 3) := by decide +kernel
theorem dX11_run_28 : decode cX11_run 28 = .ok (.iconst 3, 1) := by decide +kernel
theorem dX11_run_29 : decode cX11_run 29 = .ok (.aload_n 0, 1) := by decide +kernel
theorem dX11_run_30 : decode cX11_run 30 = .ok (.getfield 525, 3) := by decide +kernel
theorem dX11_run_33 : decode cX11_run 33 = .ok (.i2l, 1) := by decide +kernel
theorem dX11_run_34 : decode cX11_run 34 = .ok (.lastore, 1) := by decide +kernel
theorem dX11_run_35 : decode cX11_run 35 = .ok (.aload_n 0, 1) := by decide +kernel
theorem dX11_run_36 : decode cX11_run 36 = .ok (.getfield 106, 3) := by decide +kernel
theorem dX11_run_39 : decode cX11_run 39 = .ok (.iconst 4, 1) := by decide +kernel
theorem dX11_run_40 : decode cX11_run 40 = .ok (.aload_n 0, 1) := by decide +kernel
theorem dX11_run_41 : decode cX11_run 41 = .ok (.invokevirtual 528, 3) := by decide +kernel
theorem dX11_run_44 : decode cX11_run 44 = .ok (.invokestatic 493, 3) := by decide +kernel
theorem dX11_run_47 : decode cX11_run 47 = .ok (.i2l, 1) := by decide +kernel
theorem dX11_run_48 : decode cX11_run 48 = .ok (.lastore, 1) := by decide +kernel
theorem dX11_run_49 : decode cX11_run 49 = .ok (.aload_n 0, 1) := by decide +kernel
theorem dX11_run_50 : decode cX11_run 50 = .ok (.iconst 0, 1) := by decide +kernel
theorem dX11_run_51 : decode cX11_run 51 = .ok (.putfield 519, 3) := by decide +kernel
theorem dX11_run_54 : decode cX11_run 54 = .ok (.aload_n 0, 1) := by decide +kernel
theorem dX11_run_55 : decode cX11_run 55 = .ok (.getfield 138, 3) := by decide +kernel
theorem dX11_run_58 : decode cX11_run 58 = .ok (.iload_n 1, 1) := by decide +kernel
theorem dX11_run_59 : decode cX11_run 59 = .ok (.iconst 5, 1) := by decide +kernel
theorem dX11_run_60 : decode cX11_run 60 = .ok (.iadd, 1) := by decide +kernel
theorem dX11_run_61 : decode cX11_run 61 = .ok (.iaload, 1) := by decide +kernel
theorem dX11_run_62 : decode cX11_run 62 = .ok (.aload_n 0, 1) := by decide +kernel
theorem dX11_run_63 : decode cX11_run 63 = .ok (.getfield 138, 3) := by decide +kernel
theorem dX11_run_66 : decode cX11_run 66 = .ok (.iload_n 1, 1) := by decide +kernel
theorem dX11_run_67 : decode cX11_run 67 = .ok (.bipush 6, 2) := by decide +kernel
theorem dX11_run_69 : decode cX11_run 69 = .ok (.iadd, 1) := by decide +kernel
theorem dX11_run_70 : decode cX11_run 70 = .ok (.iaload, 1) := by decide +kernel
theorem dX11_run_71 : decode cX11_run 71 = .ok (.if_icmp .ge 24, 3) := by decide +kernel
theorem dX11_run_74 : decode cX11_run 74 = .ok (.aload_n 0, 1) := by decide +kernel
theorem dX11_run_75 : decode cX11_run 75 = .ok (.iload_n 1, 1) := by decide +kernel
theorem dX11_run_76 : decode cX11_run 76 = .ok (.iconst 5, 1) := by decide +kernel
theorem dX11_run_77 : decode cX11_run 77 = .ok (.iadd, 1) := by decide +kernel
theorem dX11_run_78 : decode cX11_run 78 = .ok (.invokevirtual 531, 3) := by decide +kernel
theorem dX11_run_81 : decode cX11_run 81 = .ok (.istore_n 2, 1) := by decide +kernel
theorem dX11_run_82 : decode cX11_run 82 = .ok (.aload_n 0, 1) := by decide +kernel
theorem dX11_run_83 : decode cX11_run 83 = .ok (.getfield 519, 3) := by decide +kernel
theorem dX11_run_86 : decode cX11_run 86 = .ok (.ifCond .ne 7, 3) := by decide +kernel
theorem dX11_run_89 : decode cX11_run 89 = .ok (.iload_n 2, 1) := by decide +kernel
theorem dX11_run_90 : decode cX11_run 90 = .ok (.ifCond .ne 5, 3) := by decide +kernel
theorem dX11_run_93 : decode cX11_run 93 = .ok (.iconst 0, 1) := by decide +kernel
theorem dX11_run_94 : decode cX11_run 94 = .ok (.ireturn, 1) := by decide +kernel
theorem dX11_run_95 : decode cX11_run 95 = .ok (.aload_n 0, 1) := by decide +kernel
theorem dX11_run_96 : decode cX11_run 96 = .ok (.iload_n 1, 1) := by decide +kernel
theorem dX11_run_97 : decode cX11_run 97 = .ok (.iconst 1, 1) := by decide +kernel
theorem dX11_run_98 : decode cX11_run 98 = .ok (.iadd, 1) := by decide +kernel
theorem dX11_run_99 : decode cX11_run 99 = .ok (.invokevirtual 531, 3) := by decide +kernel
theorem dX11_run_102 : decode cX11_run 102 = .ok (.istore_n 2, 1) := by decide +kernel
theorem dX11_run_103 : decode cX11_run 103 = .ok (.aload_n 0, 1) := by decide +kernel
theorem dX11_run_104 : decode cX11_run 104 = .ok (.iload_n 1, 1) := by decide +kernel
theorem dX11_run_105 : decode cX11_run 105 = .ok (.iconst 3, 1) := by decide +kernel
theorem dX11_run_106 : decode cX11_run 106 = .ok (.iadd, 1) := by decide +kernel
theorem dX11_run_107 : decode cX11_run 107 = .ok (.invokevirtual 531, 3) := by decide +kernel
theorem dX11_run_110 : decode cX11_run 110 = .ok (.istore_n 3, 1) := by decide +kernel
theorem dX11_run_111 : decode cX11_run 111 = .ok (.aload_n 0, 1) := by decide +kernel
theorem dX11_run_112 : decode cX11_run 112 = .ok (.getfield 519, 3) := by decide +kernel
theorem dX11_run_115 : decode cX11_run 115 = .ok (.ifCond .eq 6, 3) := by decide +kernel
theorem dX11_run_118 : decode cX11_run 118 = .ok (.bipush (-3), 2) := by decide +kernel
theorem dX11_run_120 : decode cX11_run 120 = .ok (.ireturn, 1) := by decide +kernel
theorem dX11_run_121 : decode cX11_run 121 = .ok (.aload_n 0, 1) := by decide +kernel
theorem dX11_run_122 : decode cX11_run 122 = .ok (.aload_n 0, 1) := by decide +kernel
theorem dX11_run_123 : decode cX11_run 123 = .ok (.getfield 138, 3) := by decide +kernel
theorem dX11_run_126 : decode cX11_run 126 = .ok (.iload_n 1, 1) := by decide +kernel
theorem dX11_run_127 : decode cX11_run 127 = .ok (.iaload, 1) := by decide +kernel
theorem dX11_run_128 : decode cX11_run 128 = .ok (.iload_n 2, 1) := by decide +kernel
theorem dX11_run_129 : decode cX11_run 129 = .ok (.iload_n 3, 1) := by decide +kernel
theorem dX11_run_130 : decode cX11_run 130 = .ok (.invokevirtual 534, 3) := by decide +kernel
theorem dX11_run_133 : decode cX11_run 133 = .ok (.istore 4, 2) := by decide +kernel
theorem dX11_run_135 : decode cX11_run 135 = .ok (.iload 4, 2) := by decide +kernel
theorem dX11_run_137 : decode cX11_run 137 = .ok (.ifCond .ge 6, 3) := by decide +kernel
theorem dX11_run_140 : decode cX11_run 140 = .ok (.bipush (-3), 2) := by decide +kernel
theorem dX11_run_142 : decode cX11_run 142 = .ok (.ireturn, 1) := by decide +kernel
theorem dX11_run_143 : decode cX11_run 143 = .ok (.aload_n 0, 1) := by decide +kernel
theorem dX11_run_144 : decode cX11_run 144 = .ok (.aload_n 0, 1) := by decide +kernel
theorem dX11_run_145 : decode cX11_run 145 = .ok (.getfield 138, 3) := by decide +kernel
theorem dX11_run_148 : decode cX11_run 148 = .ok (.iload_n 1, 1) := by decide +kernel
theorem dX11_run_149 : decode cX11_run 149 = .ok (.iaload, 1) := by decide +kernel
theorem dX11_run_150 : decode cX11_run 150 = .ok (.ifCond .ne 8, 3) := by decide +kernel
theorem dX11_run_153 : decode cX11_run 153 = .ok (.iload 4, 2) := by decide +kernel
theorem dX11_run_155 : decode cX11_run 155 = .ok (.goto 7, 3) := by decide +kernel
theorem dX11_run_158 : decode cX11_run 158 = .ok (.aload_n 0, 1) := by decide +kernel
theorem dX11_run_159 : decode cX11_run 159 = .ok (.getfield 525, 3) := by decide +kernel
theorem dX11_run_162 : decode cX11_run 162 = .ok (.putfield 525, 3) := by decide +kernel
theorem dX11_run_165 : decode cX11_run 165 = .ok (.aload_n 0, 1) := by decide +kernel
theorem dX11_run_166 : decode cX11_run 166 = .ok (.dup, 1) := by decide +kernel
theorem dX11_run_167 : decode cX11_run 167 = .ok (.getfield 522, 3) := by decide +kernel
theorem dX11_run_170 : decode cX11_run 170 = .ok (.iconst 1, 1) := by decide +kernel
theorem dX11_run_171 : decode cX11_run 171 = .ok (.iadd, 1) := by decide +kernel
theorem dX11_run_172 : decode cX11_run 172 = .ok (.putfield 522, 3) := by decide +kernel
theorem dX11_run_175 : decode cX11_run 175 = .ok (.iconst 0, 1) := by decide +kernel
theorem dX11_run_176 : decode cX11_run 176 = .ok (.ireturn, 1) := by decide +kernel
theorem dX11_orders_0 : decode cX11_orders 0 = .ok (.aload_n 0, 1) := by decide +kernel
theorem dX11_orders_1 : decode cX11_orders 1 = .ok (.iconst 0, 1) := by decide +kernel
theorem dX11_orders_2 : decode cX11_orders 2 = .ok (.putfield 153, 3) := by decide +kernel
theorem dX11_orders_5 : decode cX11_orders 5 = .ok (.aload_n 0, 1) := by decide +kernel
theorem dX11_orders_6 : decode cX11_orders 6 = .ok (.iconst (-1), 1) := by decide +kernel
theorem dX11_orders_7 : decode cX11_orders 7 = .ok (.putfield 141, 3) := by decide +kernel
theorem dX11_orders_10 : decode cX11_orders 10 = .ok (.aload_n 0, 1) := by decide +kernel
theorem dX11_orders_11 : decode cX11_orders 11 = .ok (.iconst 1, 1) := by decide +kernel
theorem dX11_orders_12 : decode cX11_orders 12 = .ok (.invokevirtual 388, 3) := by decide +kernel
theorem dX11_orders_15 : decode cX11_orders 15 = .ok (.aload_n 0, 1) := by decide +kernel
theorem dX11_orders_16 : decode cX11_orders 16 = .ok (.invokevirtual 538, 3) := by decide +kernel
theorem dX11_orders_19 : decode cX11_orders 19 = .ok (.aload_n 0, 1) := by decide +kernel
theorem dX11_orders_20 : decode cX11_orders 20 = .ok (.getfield 251, 3) := by decide +kernel
theorem dX11_orders_23 : decode cX11_orders 23 = .ok (.ifCond .ne 23, 3) := by decide +kernel
theorem dX11_orders_26 : decode cX11_orders 26 = .ok (.aload_n 0, 1) := by decide +kernel
theorem dX11_orders_27 : decode cX11_orders 27 = .ok (.bipush 59, 2) := by decide +kernel
theorem dX11_orders_29 : decode cX11_orders 29 = .ok (.invokevirtual 320, 3) := by decide +kernel
theorem dX11_orders_32 : decode cX11_orders 32 = .ok (.ifCond .eq 14, 3) := by decide +kernel
theorem dX11_orders_35 : decode cX11_orders 35 = .ok (.aload_n 0, 1) := by decide +kernel
theorem dX11_orders_36 : decode cX11_orders 36 = .ok (.invokevirtual 255, 3) := by decide +kernel
theorem dX11_orders_39 : decode cX11_orders 39 = .ok (.aload_n 0, 1) := by decide +kernel
theorem dX11_orders_40 : decode cX11_orders 40 = .ok (.invokevirtual 538, 3) := by decide +kernel
theorem dX11_orders_43 : decode cX11_orders 43 = .ok (.goto (-24), 3) := by decide +kernel
theorem dX11_orders_46 : decode cX11_orders 46 = .ok (.aload_n 0, 1) := by decide +kernel
theorem dX11_orders_47 : decode cX11_orders 47 = .ok (.invokevirtual 394, 3) := by decide +kernel
theorem dX11_orders_50 : decode cX11_orders 50 = .ok (.aload_n 0, 1) := by decide +kernel
theorem dX11_orders_51 : decode cX11_orders 51 = .ok (.getfield 251, 3) := by decide +kernel
theorem dX11_orders_54 : decode cX11_orders 54 = .ok (.ifCond .eq 10, 3) := by decide +kernel
theorem dX11_orders_57 : decode cX11_orders 57 = .ok (.aload_n 0, 1) := by decide +kernel
theorem dX11_orders_58 : decode cX11_orders 58 = .ok (.bipush (-6), 2) := by decide +kernel
theorem dX11_orders_60 : decode cX11_orders 60 = .ok (.invokevirtual 162, 3) := by decide +kernel
theorem dX11_orders_63 : decode cX11_orders 63 = .ok (.ireturn, 1) := by decide +kernel
theorem dX11_orders_64 : decode cX11_orders 64 = .ok (.aload_n 0, 1) := by decide +kernel
theorem dX11_orders_65 : decode cX11_orders 65 = .ok (.bipush 17, 2) := by decide +kernel
theorem dX11_orders_67 : decode cX11_orders 67 = .ok (.invokevirtual 166, 3) := by decide +kernel
theorem dX11_orders_70 : decode cX11_orders 70 = .ok (.aload_n 0, 1) := by decide +kernel
theorem dX11_orders_71 : decode cX11_orders 71 = .ok (.getfield 159, 3) := by decide +kernel
theorem dX11_orders_74 : decode cX11_orders 74 = .ok (.istore_n 1, 1) := by decide +kernel
theorem dX11_orders_75 : decode cX11_orders 75 = .ok (.iconst 0, 1) := by decide +kernel
theorem dX11_orders_76 : decode cX11_orders 76 = .ok (.istore_n 2, 1) := by decide +kernel
theorem dX11_orders_77 : decode cX11_orders 77 = .ok (.iload_n 2, 1) := by decide +kernel
theorem dX11_orders_78 : decode cX11_orders 78 = .ok (.sipush 736, 3) := by decide +kernel
theorem dX11_orders_81 : decode cX11_orders 81 = .ok (.if_icmp .ge 21, 3) := by decide +kernel
theorem dX11_orders_84 : decode cX11_orders 84 = .ok (.aload_n 0, 1) := by decide +kernel
theorem dX11_orders_85 : decode cX11_orders 85 = .ok (.getfield 29, 3) := by decide +kernel
theorem dX11_orders_88 : decode cX11_orders 88 = .ok (.iload_n 2, 1) := by decide +kernel
theorem dX11_orders_89 : decode cX11_orders 89 = .ok (.aload_n 0, 1) := by decide +kernel
theorem dX11_orders_90 : decode cX11_orders 90 = .ok (.getfield 23, 3) := by decide +kernel
theorem dX11_orders_93 : decode cX11_orders 93 = .ok (.iload_n 2, 1) := by decide +kernel
theorem dX11_orders_94 : decode cX11_orders 94 = .ok (.iaload, 1) := by decide +kernel
theorem dX11_orders_95 : decode cX11_orders 95 = .ok (.iastore, 1) := by decide +kernel
theorem dX11_orders_96 : decode cX11_orders 96 = .ok (.iinc 2 1, 3) := by decide +kernel
theorem dX11_orders_99 : decode cX11_orders 99 = .ok (.goto (-22), 3) := by decide +kernel
theorem dX11_orders_102 : decode cX11_orders 102 = .ok (.iconst 0, 1) := by decide +kernel
theorem dX11_orders_103 : decode cX11_orders 103 = .ok (.istore_n 2, 1) := by decide +kernel
theorem dX11_orders_104 : decode cX11_orders 104 = .ok (.iload_n 2, 1) := by decide +kernel
theorem dX11_orders_105 : decode cX11_orders 105 = .ok (.bipush 16, 2) := by decide +kernel
theorem dX11_orders_107 : decode cX11_orders 107 = .ok (.if_icmp .ge 21, 3) := by decide +kernel
theorem dX11_orders_110 : decode cX11_orders 110 = .ok (.aload_n 0, 1) := by decide +kernel
theorem dX11_orders_111 : decode cX11_orders 111 = .ok (.getfield 32, 3) := by decide +kernel
theorem dX11_orders_114 : decode cX11_orders 114 = .ok (.iload_n 2, 1) := by decide +kernel
theorem dX11_orders_115 : decode cX11_orders 115 = .ok (.aload_n 0, 1) := by decide +kernel
theorem dX11_orders_116 : decode cX11_orders 116 = .ok (.getfield 26, 3) := by decide +kernel
theorem dX11_orders_119 : decode cX11_orders 119 = .ok (.iload_n 2, 1) := by decide +kernel
theorem dX11_orders_120 : decode cX11_orders 120 = .ok (.iaload, 1) := by decide +kernel
theorem dX11_orders_121 : decode cX11_orders 121 = .ok (.iastore, 1) := by decide +kernel
theorem dX11_orders_122 : decode cX11_orders 122 = .ok (.iinc 2 1, 3) := by decide +kernel
theorem dX11_orders_125 : decode cX11_orders 125 = .ok (.goto (-21), 3) := by decide +kernel
theorem dX11_orders_128 : decode cX11_orders 128 = .ok (.aload_n 0, 1) := by decide +kernel
theorem dX11_orders_129 : decode cX11_orders 129 = .ok (.iconst 0, 1) := by decide +kernel
theorem dX11_orders_130 : decode cX11_orders 130 = .ok (.putfield 522, 3) := by decide +kernel
theorem dX11_orders_133 : decode cX11_orders 133 = .ok (.aload_n 0, 1) := by decide +kernel
theorem dX11_orders_134 : decode cX11_orders 134 = .ok (.iconst (-1), 1) := by decide +kernel
theorem dX11_orders_135 : decode cX11_orders 135 = .ok (.putfield 525, 3) := by decide +kernel
theorem dX11_orders_138 : decode cX11_orders 138 = .ok (.iconst 0, 1) := by decide +kernel
theorem dX11_orders_139 : decode cX11_orders 139 = .ok (.istore_n 2, 1) := by decide +kernel
theorem dX11_orders_140 : decode cX11_orders 140 = .ok (.iload_n 2, 1) := by decide +kernel
theorem dX11_orders_141 : decode cX11_orders 141 = .ok (.aload_n 0, 1) := by decide +kernel
theorem dX11_orders_142 : decode cX11_orders 142 = .ok (.getfield 380, 3) := by decide +kernel
theorem dX11_orders_145 : decode cX11_orders 145 = .ok (.if_icmp .ge 61, 3) := by decide +kernel
theorem dX11_orders_148 : decode cX11_orders 148 = .ok (.iconst 0, 1) := by decide +kernel
theorem dX11_orders_149 : decode cX11_orders 149 = .ok (.istore_n 3, 1) := by decide +kernel
theorem dX11_orders_150 : decode cX11_orders 150 = .ok (.iload_n 3, 1) := by decide +kernel
theorem dX11_orders_151 : decode cX11_orders 151 = .ok (.aload_n 0, 1) := by decide +kernel
theorem dX11_orders_152 : decode cX11_orders 152 = .ok (.getfield 138, 3) := by decide +kernel
theorem dX11_orders_155 : decode cX11_orders 155 = .ok (.bipush 8, 2) := by decide +kernel
theorem dX11_orders_157 : decode cX11_orders 157 = .ok (.iload_n 2, 1) := by decide +kernel
theorem dX11_orders_158 : decode cX11_orders 158 = .ok (.imul, 1) := by decide +kernel
theorem dX11_orders_159 : decode cX11_orders 159 = .ok (.bipush 7, 2) := by decide +kernel
theorem dX11_orders_161 : decode cX11_orders 161 = .ok (.iadd, 1) := by decide +kernel
theorem dX11_orders_162 : decode cX11_orders 162 = .ok (.iaload, 1) := by decide +kernel
theorem dX11_orders_163 : decode cX11_orders 163 = .ok (.if_icmp .ge 37, 3) := by decide +kernel
theorem dX11_orders_166 : decode cX11_orders 166 = .ok (.aload_n 0, 1) := by decide +kernel
theorem dX11_orders_167 : decode cX11_orders 167 = .ok (.bipush 8, 2) := by decide +kernel
theorem dX11_orders_169 : decode cX11_orders 169 = .ok (.iload_n 2, 1) := by decide +kernel
theorem dX11_orders_170 : decode cX11_orders 170 = .ok (.imul, 1) := by decide +kernel
theorem dX11_orders_171 : decode cX11_orders 171 = .ok (.invokevirtual 541, 3) := by decide +kernel
theorem dX11_orders_174 : decode cX11_orders 174 = .ok (.ifCond .ge 20, 3) := by decide +kernel
theorem dX11_orders_177 : decode cX11_orders 177 = .ok (.aload_n 0, 1) := by decide +kernel
theorem dX11_orders_178 : decode cX11_orders 178 = .ok (.iload_n 1, 1) := by decide +kernel
theorem dX11_orders_179 : decode cX11_orders 179 = .ok (.invokevirtual 544, 3) := by decide +kernel
theorem dX11_orders_182 : decode cX11_orders 182 = .ok (.aload_n 0, 1) := by decide +kernel
theorem dX11_orders_183 : decode cX11_orders 183 = .ok (.iload_n 2, 1) := by decide +kernel
theorem dX11_orders_184 : decode cX11_orders 184 = .ok (.putfield 141, 3) := by decide +kernel
theorem dX11_orders_187 : decode cX11_orders 187 = .ok (.aload_n 0, 1) := by decide +kernel
theorem dX11_orders_188 : decode cX11_orders 188 = .ok (.bipush (-3), 2) := by decide +kernel
theorem dX11_orders_190 : decode cX11_orders 190 = .ok (.invokevirtual 162, 3) := by decide +kernel
theorem dX11_orders_193 : decode cX11_orders 193 = .ok (.ireturn, 1) := by decide +kernel
theorem dX11_orders_194 : decode cX11_orders 194 = .ok (.iinc 3 1, 3) := by decide +kernel
theorem dX11_orders_197 : decode cX11_orders 197 = .ok (.goto (-47), 3) := by decide +kernel
theorem dX11_orders_200 : decode cX11_orders 200 = .ok (.iinc 2 1, 3) := by decide +kernel
theorem dX11_orders_203 : decode cX11_orders 203 = .ok (.goto (-63), 3) := by decide +kernel
theorem dX11_orders_206 : decode cX11_orders 206 = .ok (.aload_n 0, 1) := by decide +kernel
theorem dX11_orders_207 : decode cX11_orders 207 = .ok (.aload_n 0, 1) := by decide +kernel
theorem dX11_orders_208 : decode cX11_orders 208 = .ok (.getfield 522, 3) := by decide +kernel
theorem dX11_orders_211 : decode cX11_orders 211 = .ok (.invokevirtual 162, 3) := by decide +kernel
theorem dX11_orders_214 : decode cX11_orders 214 = .ok (.ireturn, 1) := by decide +kernel
theorem dX11_giveBack_0 : decode cX11_giveBack 0 = .ok (.aload_n 0, 1) := by decide +kernel
theorem dX11_giveBack_1 : decode cX11_giveBack 1 = .ok (.bipush 17, 2) := by decide +kernel
theorem dX11_giveBack_3 : decode cX11_giveBack 3 = .ok (.invokevirtual 170, 3) := by decide +kernel
theorem dX11_giveBack_6 : decode cX11_giveBack 6 = .ok (.iconst 0, 1) := by decide +kernel
theorem dX11_giveBack_7 : decode cX11_giveBack 7 = .ok (.istore_n 2, 1) := by decide +kernel
theorem dX11_giveBack_8 : decode cX11_giveBack 8 = .ok (.iload_n 2, 1) := by decide +kernel
theorem dX11_giveBack_9 : decode cX11_giveBack 9 = .ok (.sipush 736, 3) := by decide +kernel
theorem dX11_giveBack_12 : decode cX11_giveBack 12 = .ok (.if_icmp .ge 21, 3) := by decide +kernel
theorem dX11_giveBack_15 : decode cX11_giveBack 15 = .ok (.aload_n 0, 1) := by decide +kernel
theorem dX11_giveBack_16 : decode cX11_giveBack 16 = .ok (.getfield 23, 3) := by decide +kernel
theorem dX11_giveBack_19 : decode cX11_giveBack 19 = .ok (.iload_n 2, 1) := by decide +kernel
theorem dX11_giveBack_20 : decode cX11_giveBack 20 = .ok (.aload_n 0, 1) := by decide +kernel
theorem dX11_giveBack_21 : decode cX11_giveBack 21 = .ok (.getfield 29, 3) := by decide +kernel
theorem dX11_giveBack_24 : decode cX11_giveBack 24 = .ok (.iload_n 2, 1) := by decide +kernel
theorem dX11_giveBack_25 : decode cX11_giveBack 25 = .ok (.iaload, 1) := by decide +kernel
theorem dX11_giveBack_26 : decode cX11_giveBack 26 = .ok (.iastore, 1) := by decide +kernel
theorem dX11_giveBack_27 : decode cX11_giveBack 27 = .ok (.iinc 2 1, 3) := by decide +kernel
theorem dX11_giveBack_30 : decode cX11_giveBack 30 = .ok (.goto (-22), 3) := by decide +kernel
theorem dX11_giveBack_33 : decode cX11_giveBack 33 = .ok (.iconst 0, 1) := by decide +kernel
theorem dX11_giveBack_34 : decode cX11_giveBack 34 = .ok (.istore_n 2, 1) := by decide +kernel
theorem dX11_giveBack_35 : decode cX11_giveBack 35 = .ok (.iload_n 2, 1) := by decide +kernel
theorem dX11_giveBack_36 : decode cX11_giveBack 36 = .ok (.bipush 16, 2) := by decide +kernel
theorem dX11_giveBack_38 : decode cX11_giveBack 38 = .ok (.if_icmp .ge 21, 3) := by decide +kernel
theorem dX11_giveBack_41 : decode cX11_giveBack 41 = .ok (.aload_n 0, 1) := by decide +kernel
theorem dX11_giveBack_42 : decode cX11_giveBack 42 = .ok (.getfield 26, 3) := by decide +kernel
theorem dX11_giveBack_45 : decode cX11_giveBack 45 = .ok (.iload_n 2, 1) := by decide +kernel
theorem dX11_giveBack_46 : decode cX11_giveBack 46 = .ok (.aload_n 0, 1) := by decide +kernel
theorem dX11_giveBack_47 : decode cX11_giveBack 47 = .ok (.getfield 32, 3) := by decide +kernel
theorem dX11_giveBack_50 : decode cX11_giveBack 50 = .ok (.iload_n 2, 1) := by decide +kernel
theorem dX11_giveBack_51 : decode cX11_giveBack 51 = .ok (.iaload, 1) := by decide +kernel
theorem dX11_giveBack_52 : decode cX11_giveBack 52 = .ok (.iastore, 1) := by decide +kernel
theorem dX11_giveBack_53 : decode cX11_giveBack 53 = .ok (.iinc 2 1, 3) := by decide +kernel
theorem dX11_giveBack_56 : decode cX11_giveBack 56 = .ok (.goto (-21), 3) := by decide +kernel
theorem dX11_giveBack_59 : decode cX11_giveBack 59 = .ok (.aload_n 0, 1) := by decide +kernel
theorem dX11_giveBack_60 : decode cX11_giveBack 60 = .ok (.iload_n 1, 1) := by decide +kernel
theorem dX11_giveBack_61 : decode cX11_giveBack 61 = .ok (.putfield 159, 3) := by decide +kernel
theorem dX11_giveBack_64 : decode cX11_giveBack 64 = .ok (.return_, 1) := by decide +kernel
theorem dX11_stopped_0 : decode cX11_stopped 0 = .ok (.aload_n 0, 1) := by decide +kernel
theorem dX11_stopped_1 : decode cX11_stopped 1 = .ok (.iconst 0, 1) := by decide +kernel
theorem dX11_stopped_2 : decode cX11_stopped 2 = .ok (.putfield 153, 3) := by decide +kernel
theorem dX11_stopped_5 : decode cX11_stopped 5 = .ok (.aload_n 0, 1) := by decide +kernel
theorem dX11_stopped_6 : decode cX11_stopped 6 = .ok (.getfield 141, 3) := by decide +kernel
theorem dX11_stopped_9 : decode cX11_stopped 9 = .ok (.ireturn, 1) := by decide +kernel
theorem dX11_draw_0 : decode cX11_draw 0 = .ok (.aload_n 0, 1) := by decide +kernel
theorem dX11_draw_1 : decode cX11_draw 1 = .ok (.aload_n 0, 1) := by decide +kernel
theorem dX11_draw_2 : decode cX11_draw 2 = .ok (.getfield 547, 3) := by decide +kernel
theorem dX11_draw_5 : decode cX11_draw 5 = .ok (.ldc2_w 550, 3) := by decide +kernel
theorem dX11_draw_8 : decode cX11_draw 8 = .ok (.lmul, 1) := by decide +kernel
theorem dX11_draw_9 : decode cX11_draw 9 = .ok (.ldc2_w 552, 3) := by decide +kernel
theorem dX11_draw_12 : decode cX11_draw 12 = .ok (.ladd, 1) := by decide +kernel
theorem dX11_draw_13 : decode cX11_draw 13 = .ok (.ldc2_w 554, 3) := by decide +kernel
theorem dX11_draw_16 : decode cX11_draw 16 = .ok (.lrem, 1) := by decide +kernel
theorem dX11_draw_17 : decode cX11_draw 17 = .ok (.putfield 547, 3) := by decide +kernel
theorem dX11_draw_20 : decode cX11_draw 20 = .ok (.aload_n 0, 1) := by decide +kernel
theorem dX11_draw_21 : decode cX11_draw 21 = .ok (.getfield 547, 3) := by decide +kernel
theorem dX11_draw_24 : decode cX11_draw 24 = .ok (.iload_n 1, 1) := by decide +kernel
theorem dX11_draw_25 : decode cX11_draw 25 = .ok (.i2l, 1) := by decide +kernel
theorem dX11_draw_26 : decode cX11_draw 26 = .ok (.lrem, 1) := by decide +kernel
theorem dX11_draw_27 : decode cX11_draw 27 = .ok (.l2i, 1) := by decide +kernel
theorem dX11_draw_28 : decode cX11_draw 28 = .ok (.ireturn, 1) := by decide +kernel
theorem dX11_nights_0 : decode cX11_nights 0 = .ok (.aload_n 0, 1) := by decide +kernel
theorem dX11_nights_1 : decode cX11_nights 1 = .ok (.iconst 0, 1) := by decide +kernel
theorem dX11_nights_2 : decode cX11_nights 2 = .ok (.putfield 153, 3) := by decide +kernel
theorem dX11_nights_5 : decode cX11_nights 5 = .ok (.iload_n 1, 1) := by decide +kernel
theorem dX11_nights_6 : decode cX11_nights 6 = .ok (.i2l, 1) := by decide +kernel
theorem dX11_nights_7 : decode cX11_nights 7 = .ok (.lconst 0, 1) := by decide +kernel
theorem dX11_nights_8 : decode cX11_nights 8 = .ok (.ldc2_w 280, 3) := by decide +kernel
theorem dX11_nights_11 : decode cX11_nights 11 = .ok (.invokestatic 173, 3) := by decide +kernel
theorem dX11_nights_14 : decode cX11_nights 14 = .ok (.ifCond .eq 15, 3) := by decide +kernel
theorem dX11_nights_17 : decode cX11_nights 17 = .ok (.iload_n 2, 1) := by decide +kernel
theorem dX11_nights_18 : decode cX11_nights 18 = .ok (.i2l, 1) := by decide +kernel
theorem dX11_nights_19 : decode cX11_nights 19 = .ok (.lconst 1, 1) := by decide +kernel
theorem dX11_nights_20 : decode cX11_nights 20 = .ok (.ldc2_w 472, 3) := by decide +kernel
theorem dX11_nights_23 : decode cX11_nights 23 = .ok (.invokestatic 173, 3) := by decide +kernel
theorem dX11_nights_26 : decode cX11_nights 26 = .ok (.ifCond .ne 9, 3) := by decide +kernel
theorem dX11_nights_29 : decode cX11_nights 29 = .ok (.aload_n 0, 1) := by decide +kernel
theorem dX11_nights_30 : decode cX11_nights 30 = .ok (.iconst (-1), 1) := by decide +kernel
theorem dX11_nights_31 : decode cX11_nights 31 = .ok (.invokevirtual 162, 3) := by decide +kernel
theorem dX11_nights_34 : decode cX11_nights 34 = .ok (.ireturn, 1) := by decide +kernel
theorem dX11_nights_35 : decode cX11_nights 35 = .ok (.aload_n 0, 1) := by decide +kernel
theorem dX11_nights_36 : decode cX11_nights 36 = .ok (.getfield 13, 3) := by decide +kernel
theorem dX11_nights_39 : decode cX11_nights 39 = .ok (.iconst 0, 1) := by decide +kernel
theorem dX11_nights_40 : decode cX11_nights 40 = .ok (.iaload, 1) := by decide +kernel
theorem dX11_nights_41 : decode cX11_nights 41 = .ok (.ifCond .eq 12, 3) := by decide +kernel
theorem dX11_nights_44 : decode cX11_nights 44 = .ok (.aload_n 0, 1) := by decide +kernel
theorem dX11_nights_45 : decode cX11_nights 45 = .ok (.getfield 13, 3) := by decide +kernel
theorem dX11_nights_48 : decode cX11_nights 48 = .ok (.iconst 1, 1) := by decide +kernel
theorem dX11_nights_49 : decode cX11_nights 49 = .ok (.iaload, 1) := by decide +kernel
theorem dX11_nights_50 : decode cX11_nights 50 = .ok (.ifCond .ne 10, 3) := by decide +kernel
theorem dX11_nights_53 : decode cX11_nights 53 = .ok (.aload_n 0, 1) := by decide +kernel
theorem dX11_nights_54 : decode cX11_nights 54 = .ok (.bipush (-3), 2) := by decide +kernel
theorem dX11_nights_56 : decode cX11_nights 56 = .ok (.invokevirtual 162, 3) := by decide +kernel
theorem dX11_nights_59 : decode cX11_nights 59 = .ok (.ireturn, 1) := by decide +kernel
theorem dX11_nights_60 : decode cX11_nights 60 = .ok (.aload_n 0, 1) := by decide +kernel
theorem dX11_nights_61 : decode cX11_nights 61 = .ok (.bipush 16, 2) := by decide +kernel
theorem dX11_nights_63 : decode cX11_nights 63 = .ok (.invokevirtual 166, 3) := by decide +kernel
theorem dX11_nights_66 : decode cX11_nights 66 = .ok (.aload_n 0, 1) := by decide +kernel
theorem dX11_nights_67 : decode cX11_nights 67 = .ok (.iload_n 1, 1) := by decide +kernel
theorem dX11_nights_68 : decode cX11_nights 68 = .ok (.i2l, 1) := by decide +kernel
theorem dX11_nights_69 : decode cX11_nights 69 = .ok (.putfield 547, 3) := by decide +kernel
theorem dX11_nights_72 : decode cX11_nights 72 = .ok (.iconst 0, 1) := by decide +kernel
theorem dX11_nights_73 : decode cX11_nights 73 = .ok (.istore_n 3, 1) := by decide +kernel
theorem dX11_nights_74 : decode cX11_nights 74 = .ok (.iconst 0, 1) := by decide +kernel
theorem dX11_nights_75 : decode cX11_nights 75 = .ok (.istore 4, 2) := by decide +kernel
theorem dX11_nights_77 : decode cX11_nights 77 = .ok (.iload 4, 2) := by decide +kernel
theorem dX11_nights_79 : decode cX11_nights 79 = .ok (.iload_n 2, 1) := by decide +kernel
theorem dX11_nights_80 : decode cX11_nights 80 = .ok (.if_icmp .ge 133, 3) := by decide +kernel
theorem dX11_nights_83 : decode cX11_nights 83 = .ok (.aload_n 0, 1) := by decide +kernel
theorem dX11_nights_84 : decode cX11_nights 84 = .ok (.getfield 13, 3) := by decide +kernel
theorem dX11_nights_87 : decode cX11_nights 87 = .ok (.iconst 5, 1) := by decide +kernel
theorem dX11_nights_88 : decode cX11_nights 88 = .ok (.iaload, 1) := by decide +kernel
theorem dX11_nights_89 : decode cX11_nights 89 = .ok (.sipush 999, 3) := by decide +kernel
theorem dX11_nights_92 : decode cX11_nights 92 = .ok (.if_icmp .ge 121, 3) := by decide +kernel
theorem dX11_nights_95 : decode cX11_nights 95 = .ok (.aload_n 0, 1) := by decide +kernel
theorem dX11_nights_96 : decode cX11_nights 96 = .ok (.aload_n 0, 1) := by decide +kernel
theorem dX11_nights_97 : decode cX11_nights 97 = .ok (.getfield 13, 3) := by decide +kernel
theorem dX11_nights_100 : decode cX11_nights 100 = .ok (.iconst 0, 1) := by decide +kernel
theorem dX11_nights_101 : decode cX11_nights 101 = .ok (.iaload, 1) := by decide +kernel
theorem dX11_nights_102 : decode cX11_nights 102 = .ok (.invokevirtual 556, 3) := by decide +kernel
theorem dX11_nights_105 : decode cX11_nights 105 = .ok (.istore 5, 2) := by decide +kernel
theorem dX11_nights_107 : decode cX11_nights 107 = .ok (.aload_n 0, 1) := by decide +kernel
theorem dX11_nights_108 : decode cX11_nights 108 = .ok (.aload_n 0, 1) := by decide +kernel
theorem dX11_nights_109 : decode cX11_nights 109 = .ok (.getfield 13, 3) := by decide +kernel
theorem dX11_nights_112 : decode cX11_nights 112 = .ok (.iconst 1, 1) := by decide +kernel
theorem dX11_nights_113 : decode cX11_nights 113 = .ok (.iaload, 1) := by decide +kernel
theorem dX11_nights_114 : decode cX11_nights 114 = .ok (.invokevirtual 556, 3) := by decide +kernel
theorem dX11_nights_117 : decode cX11_nights 117 = .ok (.istore 6, 2) := by decide +kernel
theorem dX11_nights_119 : decode cX11_nights 119 = .ok (.aload_n 0, 1) := by decide +kernel
theorem dX11_nights_120 : decode cX11_nights 120 = .ok (.iconst 3, 1) := by decide +kernel
theorem dX11_nights_121 : decode cX11_nights 121 = .ok (.invokevirtual 556, 3) := by decide +kernel
theorem dX11_nights_124 : decode cX11_nights 124 = .ok (.istore 7, 2) := by decide +kernel
theorem dX11_nights_126 : decode cX11_nights 126 = .ok (.iload 7, 2) := by decide +kernel
theorem dX11_nights_128 : decode cX11_nights 128 = .ok (.ifCond .ne 25, 3) := by decide +kernel
theorem dX11_nights_131 : decode cX11_nights 131 = .ok (.aload_n 0, 1) := by decide +kernel
theorem dX11_nights_132 : decode cX11_nights 132 = .ok (.iload 5, 2) := by decide +kernel
theorem dX11_nights_134 : decode cX11_nights 134 = .ok (.iload 6, 2) := by decide +kernel
theorem dX11_nights_136 : decode cX11_nights 136 = .ok (.invokevirtual 439, 3) := by decide +kernel
theorem dX11_nights_139 : decode cX11_nights 139 = .ok (.ifCond .eq 14, 3) := by decide +kernel
theorem dX11_nights_142 : decode cX11_nights 142 = .ok (.aload_n 0, 1) := by decide +kernel
theorem dX11_nights_143 : decode cX11_nights 143 = .ok (.iload 5, 2) := by decide +kernel
theorem dX11_nights_145 : decode cX11_nights 145 = .ok (.iload 6, 2) := by decide +kernel
theorem dX11_nights_147 : decode cX11_nights 147 = .ok (.invokevirtual 445, 3) := by decide +kernel
theorem dX11_nights_150 : decode cX11_nights 150 = .ok (.iinc 3 1, 3) := by decide +kernel
theorem dX11_nights_153 : decode cX11_nights 153 = .ok (.iload 7, 2) := by decide +kernel
theorem dX11_nights_155 : decode cX11_nights 155 = .ok (.iconst 1, 1) := by decide +kernel
theorem dX11_nights_156 : decode cX11_nights 156 = .ok (.if_icmp .ne 47, 3) := by decide +kernel
theorem dX11_nights_159 : decode cX11_nights 159 = .ok (.aload_n 0, 1) := by decide +kernel
theorem dX11_nights_160 : decode cX11_nights 160 = .ok (.iload 6, 2) := by decide +kernel
theorem dX11_nights_162 : decode cX11_nights 162 = .ok (.iload 5, 2) := by decide +kernel
theorem dX11_nights_164 : decode cX11_nights 164 = .ok (.iconst 4, 1) := by decide +kernel
theorem dX11_nights_165 : decode cX11_nights 165 = .ok (.irem, 1) := by decide +kernel
theorem dX11_nights_166 : decode cX11_nights 166 = .ok (.iconst 1, 1) := by decide +kernel
theorem dX11_nights_167 : decode cX11_nights 167 = .ok (.iadd, 1) := by decide +kernel
theorem dX11_nights_168 : decode cX11_nights 168 = .ok (.invokevirtual 457, 3) := by decide +kernel
theorem dX11_nights_171 : decode cX11_nights 171 = .ok (.ifCond .eq 32, 3) := by decide +kernel
theorem dX11_nights_174 : decode cX11_nights 174 = .ok (.aload_n 0, 1) := by decide +kernel
theorem dX11_nights_175 : decode cX11_nights 175 = .ok (.getfield 13, 3) := by decide +kernel
theorem dX11_nights_178 : decode cX11_nights 178 = .ok (.bipush 21, 2) := by decide +kernel
theorem dX11_nights_180 : decode cX11_nights 180 = .ok (.iload 6, 2) := by decide +kernel
theorem dX11_nights_182 : decode cX11_nights 182 = .ok (.iadd, 1) := by decide +kernel
theorem dX11_nights_183 : decode cX11_nights 183 = .ok (.aload_n 0, 1) := by decide +kernel
theorem dX11_nights_184 : decode cX11_nights 184 = .ok (.getfield 13, 3) := by decide +kernel
theorem dX11_nights_187 : decode cX11_nights 187 = .ok (.bipush 21, 2) := by decide +kernel
theorem dX11_nights_189 : decode cX11_nights 189 = .ok (.iload 6, 2) := by decide +kernel
theorem dX11_nights_191 : decode cX11_nights 191 = .ok (.iadd, 1) := by decide +kernel
theorem dX11_nights_192 : decode cX11_nights 192 = .ok (.iaload, 1) := by decide +kernel
theorem dX11_nights_193 : decode cX11_nights 193 = .ok (.iload 5, 2) := by decide +kernel
theorem dX11_nights_195 : decode cX11_nights 195 = .ok (.iconst 4, 1) := by decide +kernel
theorem dX11_nights_196 : decode cX11_nights 196 = .ok (.irem, 1) := by decide +kernel
theorem dX11_nights_197 : decode cX11_nights 197 = .ok (.iconst 1, 1) := by decide +kernel
theorem dX11_nights_198 : decode cX11_nights 198 = .ok (.iadd, 1) := by decide +kernel
theorem dX11_nights_199 : decode cX11_nights 199 = .ok (.invokestatic 454, 3) := by decide +kernel
theorem dX11_nights_202 : decode cX11_nights 202 = .ok (.iastore, 1) := by decide +kernel
theorem dX11_nights_203 : decode cX11_nights 203 = .ok (.aload_n 0, 1) := by decide +kernel
theorem dX11_nights_204 : decode cX11_nights 204 = .ok (.invokevirtual 466, 3) := by decide +kernel
theorem dX11_nights_207 : decode cX11_nights 207 = .ok (.iinc 4 1, 3) := by decide +kernel
theorem dX11_nights_210 : decode cX11_nights 210 = .ok (.goto (-133), 3) := by decide +kernel
theorem dX11_nights_213 : decode cX11_nights 213 = .ok (.iconst 0, 1) := by decide +kernel
theorem dX11_nights_214 : decode cX11_nights 214 = .ok (.istore 4, 2) := by decide +kernel
theorem dX11_nights_216 : decode cX11_nights 216 = .ok (.iload 4, 2) := by decide +kernel
theorem dX11_nights_218 : decode cX11_nights 218 = .ok (.bipush 46, 2) := by decide +kernel
theorem dX11_nights_220 : decode cX11_nights 220 = .ok (.if_icmp .ge 25, 3) := by decide +kernel
theorem dX11_nights_223 : decode cX11_nights 223 = .ok (.aload_n 0, 1) := by decide +kernel
theorem dX11_nights_224 : decode cX11_nights 224 = .ok (.getfield 144, 3) := by decide +kernel
theorem dX11_nights_227 : decode cX11_nights 227 = .ok (.iload 4, 2) := by decide +kernel
theorem dX11_nights_229 : decode cX11_nights 229 = .ok (.aload_n 0, 1) := by decide +kernel
theorem dX11_nights_230 : decode cX11_nights 230 = .ok (.getfield 13, 3) := by decide +kernel
theorem dX11_nights_233 : decode cX11_nights 233 = .ok (.iconst 5, 1) := by decide +kernel
theorem dX11_nights_234 : decode cX11_nights 234 = .ok (.iload 4, 2) := by decide +kernel
theorem dX11_nights_236 : decode cX11_nights 236 = .ok (.iadd, 1) := by decide +kernel
theorem dX11_nights_237 : decode cX11_nights 237 = .ok (.iaload, 1) := by decide +kernel
theorem dX11_nights_238 : decode cX11_nights 238 = .ok (.iastore, 1) := by decide +kernel
theorem dX11_nights_239 : decode cX11_nights 239 = .ok (.iinc 4 1, 3) := by decide +kernel
theorem dX11_nights_242 : decode cX11_nights 242 = .ok (.goto (-26), 3) := by decide +kernel
theorem dX11_nights_245 : decode cX11_nights 245 = .ok (.aload_n 0, 1) := by decide +kernel
theorem dX11_nights_246 : decode cX11_nights 246 = .ok (.aload_n 0, 1) := by decide +kernel
theorem dX11_nights_247 : decode cX11_nights 247 = .ok (.getfield 13, 3) := by decide +kernel
theorem dX11_nights_250 : decode cX11_nights 250 = .ok (.iconst 0, 1) := by decide +kernel
theorem dX11_nights_251 : decode cX11_nights 251 = .ok (.iaload, 1) := by decide +kernel
theorem dX11_nights_252 : decode cX11_nights 252 = .ok (.putfield 147, 3) := by decide +kernel
theorem dX11_nights_255 : decode cX11_nights 255 = .ok (.aload_n 0, 1) := by decide +kernel
theorem dX11_nights_256 : decode cX11_nights 256 = .ok (.aload_n 0, 1) := by decide +kernel
theorem dX11_nights_257 : decode cX11_nights 257 = .ok (.getfield 13, 3) := by decide +kernel
theorem dX11_nights_260 : decode cX11_nights 260 = .ok (.iconst 1, 1) := by decide +kernel
theorem dX11_nights_261 : decode cX11_nights 261 = .ok (.iaload, 1) := by decide +kernel
theorem dX11_nights_262 : decode cX11_nights 262 = .ok (.putfield 150, 3) := by decide +kernel
theorem dX11_nights_265 : decode cX11_nights 265 = .ok (.aload_n 0, 1) := by decide +kernel
theorem dX11_nights_266 : decode cX11_nights 266 = .ok (.bipush 16, 2) := by decide +kernel
theorem dX11_nights_268 : decode cX11_nights 268 = .ok (.invokevirtual 170, 3) := by decide +kernel
theorem dX11_nights_271 : decode cX11_nights 271 = .ok (.aload_n 0, 1) := by decide +kernel
theorem dX11_nights_272 : decode cX11_nights 272 = .ok (.iload_n 3, 1) := by decide +kernel
theorem dX11_nights_273 : decode cX11_nights 273 = .ok (.invokevirtual 162, 3) := by decide +kernel
theorem dX11_nights_276 : decode cX11_nights 276 = .ok (.ireturn, 1) := by decide +kernel
theorem dX11_drawn_0 : decode cX11_drawn 0 = .ok (.aload_n 0, 1) := by decide +kernel
theorem dX11_drawn_1 : decode cX11_drawn 1 = .ok (.iconst 0, 1) := by decide +kernel
theorem dX11_drawn_2 : decode cX11_drawn 2 = .ok (.putfield 153, 3) := by decide +kernel
theorem dX11_drawn_5 : decode cX11_drawn 5 = .ok (.iload_n 2, 1) := by decide +kernel
theorem dX11_drawn_6 : decode cX11_drawn 6 = .ok (.i2l, 1) := by decide +kernel
theorem dX11_drawn_7 : decode cX11_drawn 7 = .ok (.lconst 0, 1) := by decide +kernel
theorem dX11_drawn_8 : decode cX11_drawn 8 = .ok (.ldc2_w 232, 3) := by decide +kernel
theorem dX11_drawn_11 : decode cX11_drawn 11 = .ok (.invokestatic 173, 3) := by decide +kernel
theorem dX11_drawn_14 : decode cX11_drawn 14 = .ok (.ifCond .eq 31, 3) := by decide +kernel
theorem dX11_drawn_17 : decode cX11_drawn 17 = .ok (.iload_n 1, 1) := by decide +kernel
theorem dX11_drawn_18 : decode cX11_drawn 18 = .ok (.i2l, 1) := by decide +kernel
theorem dX11_drawn_19 : decode cX11_drawn 19 = .ok (.lconst 0, 1) := by decide +kernel
theorem dX11_drawn_20 : decode cX11_drawn 20 = .ok (.iload_n 2, 1) := by decide +kernel
theorem dX11_drawn_21 : decode cX11_drawn 21 = .ok (.iconst 2, 1) := by decide +kernel
theorem dX11_drawn_22 : decode cX11_drawn 22 = .ok (.if_icmp .ge 10, 3) := by decide +kernel
theorem dX11_drawn_25 : decode cX11_drawn 25 = .ok (.aload_n 0, 1) := by decide +kernel
theorem dX11_drawn_26 : decode cX11_drawn 26 = .ok (.getfield 147, 3) := by decide +kernel
theorem dX11_drawn_29 : decode cX11_drawn 29 = .ok (.goto 7, 3) := by decide +kernel
theorem dX11_drawn_32 : decode cX11_drawn 32 = .ok (.aload_n 0, 1) := by decide +kernel
theorem dX11_drawn_33 : decode cX11_drawn 33 = .ok (.getfield 150, 3) := by decide +kernel
theorem dX11_drawn_36 : decode cX11_drawn 36 = .ok (.i2l, 1) := by decide +kernel
theorem dX11_drawn_37 : decode cX11_drawn 37 = .ok (.lconst 1, 1) := by decide +kernel
theorem dX11_drawn_38 : decode cX11_drawn 38 = .ok (.lsub, 1) := by decide +kernel
theorem dX11_drawn_39 : decode cX11_drawn 39 = .ok (.invokestatic 173, 3) := by decide +kernel
theorem dX11_drawn_42 : decode cX11_drawn 42 = .ok (.ifCond .ne 6, 3) := by decide +kernel
theorem dX11_drawn_45 : decode cX11_drawn 45 = .ok (.bipush (-100), 2) := by decide +kernel
theorem dX11_drawn_47 : decode cX11_drawn 47 = .ok (.ireturn, 1) := by decide +kernel
theorem dX11_drawn_48 : decode cX11_drawn 48 = .ok (.iload_n 2, 1) := by decide +kernel
theorem dX11_drawn_49 : decode cX11_drawn 49 = .ok (.ifCond .ne 8, 3) := by decide +kernel
theorem dX11_drawn_52 : decode cX11_drawn 52 = .ok (.bipush 9, 2) := by decide +kernel
theorem dX11_drawn_54 : decode cX11_drawn 54 = .ok (.goto 15, 3) := by decide +kernel
theorem dX11_drawn_57 : decode cX11_drawn 57 = .ok (.iload_n 2, 1) := by decide +kernel
theorem dX11_drawn_58 : decode cX11_drawn 58 = .ok (.iconst 1, 1) := by decide +kernel
theorem dX11_drawn_59 : decode cX11_drawn 59 = .ok (.if_icmp .ne 8, 3) := by decide +kernel
theorem dX11_drawn_62 : decode cX11_drawn 62 = .ok (.bipush 15, 2) := by decide +kernel
theorem dX11_drawn_64 : decode cX11_drawn 64 = .ok (.goto 5, 3) := by decide +kernel
theorem dX11_drawn_67 : decode cX11_drawn 67 = .ok (.bipush 21, 2) := by decide +kernel
theorem dX11_drawn_69 : decode cX11_drawn 69 = .ok (.istore_n 3, 1) := by decide +kernel
theorem dX11_drawn_70 : decode cX11_drawn 70 = .ok (.aload_n 0, 1) := by decide +kernel
theorem dX11_drawn_71 : decode cX11_drawn 71 = .ok (.getfield 144, 3) := by decide +kernel
theorem dX11_drawn_74 : decode cX11_drawn 74 = .ok (.iload_n 3, 1) := by decide +kernel
theorem dX11_drawn_75 : decode cX11_drawn 75 = .ok (.iconst 5, 1) := by decide +kernel
theorem dX11_drawn_76 : decode cX11_drawn 76 = .ok (.isub, 1) := by decide +kernel
theorem dX11_drawn_77 : decode cX11_drawn 77 = .ok (.iload_n 1, 1) := by decide +kernel
theorem dX11_drawn_78 : decode cX11_drawn 78 = .ok (.iadd, 1) := by decide +kernel
theorem dX11_drawn_79 : decode cX11_drawn 79 = .ok (.iaload, 1) := by decide +kernel
theorem dX11_drawn_80 : decode cX11_drawn 80 = .ok (.ireturn, 1) := by decide +kernel
theorem dX11_count_0 : decode cX11_count 0 = .ok (.aload_n 0, 1) := by decide +kernel
theorem dX11_count_1 : decode cX11_count 1 = .ok (.iconst 0, 1) := by decide +kernel
theorem dX11_count_2 : decode cX11_count 2 = .ok (.putfield 153, 3) := by decide +kernel
