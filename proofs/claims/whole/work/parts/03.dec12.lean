theorem dX11_canWalk_23 : decode cX11_canWalk 23 = .ok (.bipush 26, 2) := by decide +kernel
theorem dX11_canWalk_25 : decode cX11_canWalk 25 = .ok (.iload_n 3, 1) := by decide +kernel
theorem dX11_canWalk_26 : decode cX11_canWalk 26 = .ok (.iadd, 1) := by decide +kernel
theorem dX11_canWalk_27 : decode cX11_canWalk 27 = .ok (.iaload, 1) := by decide +kernel
theorem dX11_canWalk_28 : decode cX11_canWalk 28 = .ok (.iconst 3, 1) := by decide +kernel
theorem dX11_canWalk_29 : decode cX11_canWalk 29 = .ok (.if_icmp .eq 7, 3) := by decide +kernel
theorem dX11_canWalk_32 : decode cX11_canWalk 32 = .ok (.iconst 1, 1) := by decide +kernel
theorem dX11_canWalk_33 : decode cX11_canWalk 33 = .ok (.goto 4, 3) := by decide +kernel
theorem dX11_canWalk_36 : decode cX11_canWalk 36 = .ok (.iconst 0, 1) := by decide +kernel
theorem dX11_canWalk_37 : decode cX11_canWalk 37 = .ok (.ireturn, 1) := by decide +kernel
theorem dX11_walkNow_0 : decode cX11_walkNow 0 = .ok (.iload_n 2, 1) := by decide +kernel
theorem dX11_walkNow_1 : decode cX11_walkNow 1 = .ok (.i2l, 1) := by decide +kernel
theorem dX11_walkNow_2 : decode cX11_walkNow 2 = .ok (.lconst 1, 1) := by decide +kernel
theorem dX11_walkNow_3 : decode cX11_walkNow 3 = .ok (.ldc2_w 180, 3) := by decide +kernel
theorem dX11_walkNow_6 : decode cX11_walkNow 6 = .ok (.invokestatic 173, 3) := by decide +kernel
theorem dX11_walkNow_9 : decode cX11_walkNow 9 = .ok (.ifCond .ne 5, 3) := by decide +kernel
theorem dX11_walkNow_12 : decode cX11_walkNow 12 = .ok (.iconst (-1), 1) := by decide +kernel
theorem dX11_walkNow_13 : decode cX11_walkNow 13 = .ok (.ireturn, 1) := by decide +kernel
theorem dX11_walkNow_14 : decode cX11_walkNow 14 = .ok (.aload_n 0, 1) := by decide +kernel
theorem dX11_walkNow_15 : decode cX11_walkNow 15 = .ok (.iload_n 1, 1) := by decide +kernel
theorem dX11_walkNow_16 : decode cX11_walkNow 16 = .ok (.invokevirtual 211, 3) := by decide +kernel
theorem dX11_walkNow_19 : decode cX11_walkNow 19 = .ok (.ifCond .ne 6, 3) := by decide +kernel
theorem dX11_walkNow_22 : decode cX11_walkNow 22 = .ok (.bipush (-2), 2) := by decide +kernel
theorem dX11_walkNow_24 : decode cX11_walkNow 24 = .ok (.ireturn, 1) := by decide +kernel
theorem dX11_walkNow_25 : decode cX11_walkNow 25 = .ok (.aload_n 0, 1) := by decide +kernel
theorem dX11_walkNow_26 : decode cX11_walkNow 26 = .ok (.iload_n 1, 1) := by decide +kernel
theorem dX11_walkNow_27 : decode cX11_walkNow 27 = .ok (.iload_n 2, 1) := by decide +kernel
theorem dX11_walkNow_28 : decode cX11_walkNow 28 = .ok (.invokevirtual 457, 3) := by decide +kernel
theorem dX11_walkNow_31 : decode cX11_walkNow 31 = .ok (.ifCond .ne 6, 3) := by decide +kernel
theorem dX11_walkNow_34 : decode cX11_walkNow 34 = .ok (.bipush (-3), 2) := by decide +kernel
theorem dX11_walkNow_36 : decode cX11_walkNow 36 = .ok (.ireturn, 1) := by decide +kernel
theorem dX11_walkNow_37 : decode cX11_walkNow 37 = .ok (.aload_n 0, 1) := by decide +kernel
theorem dX11_walkNow_38 : decode cX11_walkNow 38 = .ok (.iconst 2, 1) := by decide +kernel
theorem dX11_walkNow_39 : decode cX11_walkNow 39 = .ok (.invokevirtual 442, 3) := by decide +kernel
theorem dX11_walkNow_42 : decode cX11_walkNow 42 = .ok (.aload_n 0, 1) := by decide +kernel
theorem dX11_walkNow_43 : decode cX11_walkNow 43 = .ok (.getfield 13, 3) := by decide +kernel
theorem dX11_walkNow_46 : decode cX11_walkNow 46 = .ok (.bipush 21, 2) := by decide +kernel
theorem dX11_walkNow_48 : decode cX11_walkNow 48 = .ok (.iload_n 1, 1) := by decide +kernel
theorem dX11_walkNow_49 : decode cX11_walkNow 49 = .ok (.iadd, 1) := by decide +kernel
theorem dX11_walkNow_50 : decode cX11_walkNow 50 = .ok (.aload_n 0, 1) := by decide +kernel
theorem dX11_walkNow_51 : decode cX11_walkNow 51 = .ok (.getfield 13, 3) := by decide +kernel
theorem dX11_walkNow_54 : decode cX11_walkNow 54 = .ok (.bipush 21, 2) := by decide +kernel
theorem dX11_walkNow_56 : decode cX11_walkNow 56 = .ok (.iload_n 1, 1) := by decide +kernel
theorem dX11_walkNow_57 : decode cX11_walkNow 57 = .ok (.iadd, 1) := by decide +kernel
theorem dX11_walkNow_58 : decode cX11_walkNow 58 = .ok (.iaload, 1) := by decide +kernel
theorem dX11_walkNow_59 : decode cX11_walkNow 59 = .ok (.iload_n 2, 1) := by decide +kernel
theorem dX11_walkNow_60 : decode cX11_walkNow 60 = .ok (.invokestatic 454, 3) := by decide +kernel
theorem dX11_walkNow_63 : decode cX11_walkNow 63 = .ok (.iastore, 1) := by decide +kernel
theorem dX11_walkNow_64 : decode cX11_walkNow 64 = .ok (.aload_n 0, 1) := by decide +kernel
theorem dX11_walkNow_65 : decode cX11_walkNow 65 = .ok (.getfield 13, 3) := by decide +kernel
theorem dX11_walkNow_68 : decode cX11_walkNow 68 = .ok (.bipush 21, 2) := by decide +kernel
theorem dX11_walkNow_70 : decode cX11_walkNow 70 = .ok (.iload_n 1, 1) := by decide +kernel
theorem dX11_walkNow_71 : decode cX11_walkNow 71 = .ok (.iadd, 1) := by decide +kernel
theorem dX11_walkNow_72 : decode cX11_walkNow 72 = .ok (.iaload, 1) := by decide +kernel
theorem dX11_walkNow_73 : decode cX11_walkNow 73 = .ok (.ireturn, 1) := by decide +kernel
theorem dX11_walk_0 : decode cX11_walk 0 = .ok (.aload_n 0, 1) := by decide +kernel
theorem dX11_walk_1 : decode cX11_walk 1 = .ok (.iconst 0, 1) := by decide +kernel
theorem dX11_walk_2 : decode cX11_walk 2 = .ok (.putfield 153, 3) := by decide +kernel
theorem dX11_walk_5 : decode cX11_walk 5 = .ok (.aload_n 0, 1) := by decide +kernel
theorem dX11_walk_6 : decode cX11_walk 6 = .ok (.aload_n 0, 1) := by decide +kernel
theorem dX11_walk_7 : decode cX11_walk 7 = .ok (.iload_n 1, 1) := by decide +kernel
theorem dX11_walk_8 : decode cX11_walk 8 = .ok (.iload_n 2, 1) := by decide +kernel
theorem dX11_walk_9 : decode cX11_walk 9 = .ok (.invokevirtual 460, 3) := by decide +kernel
theorem dX11_walk_12 : decode cX11_walk 12 = .ok (.invokevirtual 162, 3) := by decide +kernel
theorem dX11_walk_15 : decode cX11_walk 15 = .ok (.ireturn, 1) := by decide +kernel
theorem dX11_passIt_0 : decode cX11_passIt 0 = .ok (.iconst 0, 1) := by decide +kernel
theorem dX11_passIt_1 : decode cX11_passIt 1 = .ok (.istore_n 1, 1) := by decide +kernel
theorem dX11_passIt_2 : decode cX11_passIt 2 = .ok (.iload_n 1, 1) := by decide +kernel
theorem dX11_passIt_3 : decode cX11_passIt 3 = .ok (.aload_n 0, 1) := by decide +kernel
theorem dX11_passIt_4 : decode cX11_passIt 4 = .ok (.getfield 13, 3) := by decide +kernel
theorem dX11_passIt_7 : decode cX11_passIt 7 = .ok (.iconst 0, 1) := by decide +kernel
theorem dX11_passIt_8 : decode cX11_passIt 8 = .ok (.iaload, 1) := by decide +kernel
theorem dX11_passIt_9 : decode cX11_passIt 9 = .ok (.if_icmp .ge 75, 3) := by decide +kernel
theorem dX11_passIt_12 : decode cX11_passIt 12 = .ok (.aload_n 0, 1) := by decide +kernel
theorem dX11_passIt_13 : decode cX11_passIt 13 = .ok (.getfield 112, 3) := by decide +kernel
theorem dX11_passIt_16 : decode cX11_passIt 16 = .ok (.iload_n 1, 1) := by decide +kernel
theorem dX11_passIt_17 : decode cX11_passIt 17 = .ok (.iconst (-1), 1) := by decide +kernel
theorem dX11_passIt_18 : decode cX11_passIt 18 = .ok (.iastore, 1) := by decide +kernel
theorem dX11_passIt_19 : decode cX11_passIt 19 = .ok (.aload_n 0, 1) := by decide +kernel
theorem dX11_passIt_20 : decode cX11_passIt 20 = .ok (.iload_n 1, 1) := by decide +kernel
theorem dX11_passIt_21 : decode cX11_passIt 21 = .ok (.invokevirtual 182, 3) := by decide +kernel
theorem dX11_passIt_24 : decode cX11_passIt 24 = .ok (.ifCond .eq 54, 3) := by decide +kernel
theorem dX11_passIt_27 : decode cX11_passIt 27 = .ok (.aload_n 0, 1) := by decide +kernel
theorem dX11_passIt_28 : decode cX11_passIt 28 = .ok (.getfield 13, 3) := by decide +kernel
theorem dX11_passIt_31 : decode cX11_passIt 31 = .ok (.bipush 9, 2) := by decide +kernel
theorem dX11_passIt_33 : decode cX11_passIt 33 = .ok (.iload_n 1, 1) := by decide +kernel
theorem dX11_passIt_34 : decode cX11_passIt 34 = .ok (.iadd, 1) := by decide +kernel
theorem dX11_passIt_35 : decode cX11_passIt 35 = .ok (.iaload, 1) := by decide +kernel
theorem dX11_passIt_36 : decode cX11_passIt 36 = .ok (.aload_n 0, 1) := by decide +kernel
theorem dX11_passIt_37 : decode cX11_passIt 37 = .ok (.iload_n 1, 1) := by decide +kernel
theorem dX11_passIt_38 : decode cX11_passIt 38 = .ok (.invokevirtual 200, 3) := by decide +kernel
theorem dX11_passIt_41 : decode cX11_passIt 41 = .ok (.invokestatic 454, 3) := by decide +kernel
theorem dX11_passIt_44 : decode cX11_passIt 44 = .ok (.istore_n 2, 1) := by decide +kernel
theorem dX11_passIt_45 : decode cX11_passIt 45 = .ok (.aload_n 0, 1) := by decide +kernel
theorem dX11_passIt_46 : decode cX11_passIt 46 = .ok (.getfield 112, 3) := by decide +kernel
theorem dX11_passIt_49 : decode cX11_passIt 49 = .ok (.iload_n 1, 1) := by decide +kernel
theorem dX11_passIt_50 : decode cX11_passIt 50 = .ok (.iload_n 2, 1) := by decide +kernel
theorem dX11_passIt_51 : decode cX11_passIt 51 = .ok (.iconst (-1), 1) := by decide +kernel
theorem dX11_passIt_52 : decode cX11_passIt 52 = .ok (.if_icmp .eq 12, 3) := by decide +kernel
theorem dX11_passIt_55 : decode cX11_passIt 55 = .ok (.aload_n 0, 1) := by decide +kernel
theorem dX11_passIt_56 : decode cX11_passIt 56 = .ok (.iload_n 1, 1) := by decide +kernel
theorem dX11_passIt_57 : decode cX11_passIt 57 = .ok (.iload_n 2, 1) := by decide +kernel
theorem dX11_passIt_58 : decode cX11_passIt 58 = .ok (.invokevirtual 463, 3) := by decide +kernel
theorem dX11_passIt_61 : decode cX11_passIt 61 = .ok (.ifCond .eq 15, 3) := by decide +kernel
theorem dX11_passIt_64 : decode cX11_passIt 64 = .ok (.aload_n 0, 1) := by decide +kernel
theorem dX11_passIt_65 : decode cX11_passIt 65 = .ok (.getfield 13, 3) := by decide +kernel
theorem dX11_passIt_68 : decode cX11_passIt 68 = .ok (.bipush 9, 2) := by decide +kernel
theorem dX11_passIt_70 : decode cX11_passIt 70 = .ok (.iload_n 1, 1) := by decide +kernel
theorem dX11_passIt_71 : decode cX11_passIt 71 = .ok (.iadd, 1) := by decide +kernel
theorem dX11_passIt_72 : decode cX11_passIt 72 = .ok (.iaload, 1) := by decide +kernel
theorem dX11_passIt_73 : decode cX11_passIt 73 = .ok (.goto 4, 3) := by decide +kernel
theorem dX11_passIt_76 : decode cX11_passIt 76 = .ok (.iload_n 2, 1) := by decide +kernel
theorem dX11_passIt_77 : decode cX11_passIt 77 = .ok (.iastore, 1) := by decide +kernel
theorem dX11_passIt_78 : decode cX11_passIt 78 = .ok (.iinc 1 1, 3) := by decide +kernel
theorem dX11_passIt_81 : decode cX11_passIt 81 = .ok (.goto (-79), 3) := by decide +kernel
theorem dX11_passIt_84 : decode cX11_passIt 84 = .ok (.iconst 0, 1) := by decide +kernel
theorem dX11_passIt_85 : decode cX11_passIt 85 = .ok (.istore_n 1, 1) := by decide +kernel
theorem dX11_passIt_86 : decode cX11_passIt 86 = .ok (.iload_n 1, 1) := by decide +kernel
theorem dX11_passIt_87 : decode cX11_passIt 87 = .ok (.aload_n 0, 1) := by decide +kernel
theorem dX11_passIt_88 : decode cX11_passIt 88 = .ok (.getfield 13, 3) := by decide +kernel
theorem dX11_passIt_91 : decode cX11_passIt 91 = .ok (.iconst 0, 1) := by decide +kernel
theorem dX11_passIt_92 : decode cX11_passIt 92 = .ok (.iaload, 1) := by decide +kernel
theorem dX11_passIt_93 : decode cX11_passIt 93 = .ok (.if_icmp .ge 24, 3) := by decide +kernel
theorem dX11_passIt_96 : decode cX11_passIt 96 = .ok (.aload_n 0, 1) := by decide +kernel
theorem dX11_passIt_97 : decode cX11_passIt 97 = .ok (.getfield 13, 3) := by decide +kernel
theorem dX11_passIt_100 : decode cX11_passIt 100 = .ok (.bipush 9, 2) := by decide +kernel
theorem dX11_passIt_102 : decode cX11_passIt 102 = .ok (.iload_n 1, 1) := by decide +kernel
theorem dX11_passIt_103 : decode cX11_passIt 103 = .ok (.iadd, 1) := by decide +kernel
theorem dX11_passIt_104 : decode cX11_passIt 104 = .ok (.aload_n 0, 1) := by decide +kernel
theorem dX11_passIt_105 : decode cX11_passIt 105 = .ok (.getfield 112, 3) := by decide +kernel
theorem dX11_passIt_108 : decode cX11_passIt 108 = .ok (.iload_n 1, 1) := by decide +kernel
theorem dX11_passIt_109 : decode cX11_passIt 109 = .ok (.iaload, 1) := by decide +kernel
theorem dX11_passIt_110 : decode cX11_passIt 110 = .ok (.iastore, 1) := by decide +kernel
theorem dX11_passIt_111 : decode cX11_passIt 111 = .ok (.iinc 1 1, 3) := by decide +kernel
theorem dX11_passIt_114 : decode cX11_passIt 114 = .ok (.goto (-28), 3) := by decide +kernel
theorem dX11_passIt_117 : decode cX11_passIt 117 = .ok (.iconst 0, 1) := by decide +kernel
theorem dX11_passIt_118 : decode cX11_passIt 118 = .ok (.istore_n 1, 1) := by decide +kernel
theorem dX11_passIt_119 : decode cX11_passIt 119 = .ok (.iload_n 1, 1) := by decide +kernel
theorem dX11_passIt_120 : decode cX11_passIt 120 = .ok (.aload_n 0, 1) := by decide +kernel
theorem dX11_passIt_121 : decode cX11_passIt 121 = .ok (.getfield 13, 3) := by decide +kernel
theorem dX11_passIt_124 : decode cX11_passIt 124 = .ok (.iconst 0, 1) := by decide +kernel
theorem dX11_passIt_125 : decode cX11_passIt 125 = .ok (.iaload, 1) := by decide +kernel
theorem dX11_passIt_126 : decode cX11_passIt 126 = .ok (.if_icmp .ge 32, 3) := by decide +kernel
theorem dX11_passIt_129 : decode cX11_passIt 129 = .ok (.aload_n 0, 1) := by decide +kernel
theorem dX11_passIt_130 : decode cX11_passIt 130 = .ok (.getfield 115, 3) := by decide +kernel
theorem dX11_passIt_133 : decode cX11_passIt 133 = .ok (.iload_n 1, 1) := by decide +kernel
theorem dX11_passIt_134 : decode cX11_passIt 134 = .ok (.aload_n 0, 1) := by decide +kernel
theorem dX11_passIt_135 : decode cX11_passIt 135 = .ok (.iload_n 1, 1) := by decide +kernel
theorem dX11_passIt_136 : decode cX11_passIt 136 = .ok (.invokevirtual 182, 3) := by decide +kernel
theorem dX11_passIt_139 : decode cX11_passIt 139 = .ok (.ifCond .eq 11, 3) := by decide +kernel
theorem dX11_passIt_142 : decode cX11_passIt 142 = .ok (.aload_n 0, 1) := by decide +kernel
theorem dX11_passIt_143 : decode cX11_passIt 143 = .ok (.iload_n 1, 1) := by decide +kernel
theorem dX11_passIt_144 : decode cX11_passIt 144 = .ok (.invokevirtual 203, 3) := by decide +kernel
theorem dX11_passIt_147 : decode cX11_passIt 147 = .ok (.goto 4, 3) := by decide +kernel
theorem dX11_passIt_150 : decode cX11_passIt 150 = .ok (.iconst 0, 1) := by decide +kernel
theorem dX11_passIt_151 : decode cX11_passIt 151 = .ok (.iastore, 1) := by decide +kernel
theorem dX11_passIt_152 : decode cX11_passIt 152 = .ok (.iinc 1 1, 3) := by decide +kernel
theorem dX11_passIt_155 : decode cX11_passIt 155 = .ok (.goto (-36), 3) := by decide +kernel
theorem dX11_passIt_158 : decode cX11_passIt 158 = .ok (.iconst 0, 1) := by decide +kernel
theorem dX11_passIt_159 : decode cX11_passIt 159 = .ok (.istore_n 1, 1) := by decide +kernel
theorem dX11_passIt_160 : decode cX11_passIt 160 = .ok (.iload_n 1, 1) := by decide +kernel
theorem dX11_passIt_161 : decode cX11_passIt 161 = .ok (.aload_n 0, 1) := by decide +kernel
theorem dX11_passIt_162 : decode cX11_passIt 162 = .ok (.getfield 13, 3) := by decide +kernel
theorem dX11_passIt_165 : decode cX11_passIt 165 = .ok (.iconst 0, 1) := by decide +kernel
theorem dX11_passIt_166 : decode cX11_passIt 166 = .ok (.iaload, 1) := by decide +kernel
theorem dX11_passIt_167 : decode cX11_passIt 167 = .ok (.if_icmp .ge 58, 3) := by decide +kernel
theorem dX11_passIt_170 : decode cX11_passIt 170 = .ok (.aload_n 0, 1) := by decide +kernel
theorem dX11_passIt_171 : decode cX11_passIt 171 = .ok (.getfield 13, 3) := by decide +kernel
theorem dX11_passIt_174 : decode cX11_passIt 174 = .ok (.bipush 15, 2) := by decide +kernel
theorem dX11_passIt_176 : decode cX11_passIt 176 = .ok (.iload_n 1, 1) := by decide +kernel
theorem dX11_passIt_177 : decode cX11_passIt 177 = .ok (.iadd, 1) := by decide +kernel
theorem dX11_passIt_178 : decode cX11_passIt 178 = .ok (.aload_n 0, 1) := by decide +kernel
theorem dX11_passIt_179 : decode cX11_passIt 179 = .ok (.getfield 13, 3) := by decide +kernel
theorem dX11_passIt_182 : decode cX11_passIt 182 = .ok (.bipush 15, 2) := by decide +kernel
theorem dX11_passIt_184 : decode cX11_passIt 184 = .ok (.iload_n 1, 1) := by decide +kernel
theorem dX11_passIt_185 : decode cX11_passIt 185 = .ok (.iadd, 1) := by decide +kernel
theorem dX11_passIt_186 : decode cX11_passIt 186 = .ok (.iaload, 1) := by decide +kernel
theorem dX11_passIt_187 : decode cX11_passIt 187 = .ok (.aload_n 0, 1) := by decide +kernel
theorem dX11_passIt_188 : decode cX11_passIt 188 = .ok (.getfield 115, 3) := by decide +kernel
theorem dX11_passIt_191 : decode cX11_passIt 191 = .ok (.iload_n 1, 1) := by decide +kernel
theorem dX11_passIt_192 : decode cX11_passIt 192 = .ok (.iaload, 1) := by decide +kernel
theorem dX11_passIt_193 : decode cX11_passIt 193 = .ok (.iadd, 1) := by decide +kernel
theorem dX11_passIt_194 : decode cX11_passIt 194 = .ok (.i2l, 1) := by decide +kernel
theorem dX11_passIt_195 : decode cX11_passIt 195 = .ok (.iconst 0, 1) := by decide +kernel
theorem dX11_passIt_196 : decode cX11_passIt 196 = .ok (.bipush 9, 2) := by decide +kernel
theorem dX11_passIt_198 : decode cX11_passIt 198 = .ok (.invokestatic 430, 3) := by decide +kernel
theorem dX11_passIt_201 : decode cX11_passIt 201 = .ok (.iastore, 1) := by decide +kernel
theorem dX11_passIt_202 : decode cX11_passIt 202 = .ok (.aload_n 0, 1) := by decide +kernel
theorem dX11_passIt_203 : decode cX11_passIt 203 = .ok (.getfield 13, 3) := by decide +kernel
theorem dX11_passIt_206 : decode cX11_passIt 206 = .ok (.bipush 15, 2) := by decide +kernel
theorem dX11_passIt_208 : decode cX11_passIt 208 = .ok (.iload_n 1, 1) := by decide +kernel
theorem dX11_passIt_209 : decode cX11_passIt 209 = .ok (.iadd, 1) := by decide +kernel
theorem dX11_passIt_210 : decode cX11_passIt 210 = .ok (.iaload, 1) := by decide +kernel
theorem dX11_passIt_211 : decode cX11_passIt 211 = .ok (.ifCond .ne 8, 3) := by decide +kernel
theorem dX11_passIt_214 : decode cX11_passIt 214 = .ok (.aload_n 0, 1) := by decide +kernel
theorem dX11_passIt_215 : decode cX11_passIt 215 = .ok (.iload_n 1, 1) := by decide +kernel
theorem dX11_passIt_216 : decode cX11_passIt 216 = .ok (.invokevirtual 436, 3) := by decide +kernel
theorem dX11_passIt_219 : decode cX11_passIt 219 = .ok (.iinc 1 1, 3) := by decide +kernel
theorem dX11_passIt_222 : decode cX11_passIt 222 = .ok (.goto (-62), 3) := by decide +kernel
theorem dX11_passIt_225 : decode cX11_passIt 225 = .ok (.aload_n 0, 1) := by decide +kernel
theorem dX11_passIt_226 : decode cX11_passIt 226 = .ok (.getfield 13, 3) := by decide +kernel
theorem dX11_passIt_229 : decode cX11_passIt 229 = .ok (.iconst 5, 1) := by decide +kernel
theorem dX11_passIt_230 : decode cX11_passIt 230 = .ok (.dup2, 1) := by decide +kernel
theorem dX11_passIt_231 : decode cX11_passIt 231 = .ok (.iaload, 1) := by decide +kernel
theorem dX11_passIt_232 : decode cX11_passIt 232 = .ok (.iconst 1, 1) := by decide +kernel
theorem dX11_passIt_233 : decode cX11_passIt 233 = .ok (.iadd, 1) := by decide +kernel
theorem dX11_passIt_234 : decode cX11_passIt 234 = .ok (.iastore, 1) := by decide +kernel
theorem dX11_passIt_235 : decode cX11_passIt 235 = .ok (.return_, 1) := by decide +kernel
theorem dX11_passNow_0 : decode cX11_passNow 0 = .ok (.aload_n 0, 1) := by decide +kernel
theorem dX11_passNow_1 : decode cX11_passNow 1 = .ok (.getfield 13, 3) := by decide +kernel
theorem dX11_passNow_4 : decode cX11_passNow 4 = .ok (.iconst 5, 1) := by decide +kernel
theorem dX11_passNow_5 : decode cX11_passNow 5 = .ok (.iaload, 1) := by decide +kernel
theorem dX11_passNow_6 : decode cX11_passNow 6 = .ok (.sipush 999, 3) := by decide +kernel
theorem dX11_passNow_9 : decode cX11_passNow 9 = .ok (.if_icmp .ne 6, 3) := by decide +kernel
theorem dX11_passNow_12 : decode cX11_passNow 12 = .ok (.bipush (-3), 2) := by decide +kernel
theorem dX11_passNow_14 : decode cX11_passNow 14 = .ok (.ireturn, 1) := by decide +kernel
theorem dX11_passNow_15 : decode cX11_passNow 15 = .ok (.aload_n 0, 1) := by decide +kernel
theorem dX11_passNow_16 : decode cX11_passNow 16 = .ok (.iconst 3, 1) := by decide +kernel
theorem dX11_passNow_17 : decode cX11_passNow 17 = .ok (.invokevirtual 442, 3) := by decide +kernel
theorem dX11_passNow_20 : decode cX11_passNow 20 = .ok (.aload_n 0, 1) := by decide +kernel
theorem dX11_passNow_21 : decode cX11_passNow 21 = .ok (.invokevirtual 466, 3) := by decide +kernel
theorem dX11_passNow_24 : decode cX11_passNow 24 = .ok (.aload_n 0, 1) := by decide +kernel
theorem dX11_passNow_25 : decode cX11_passNow 25 = .ok (.getfield 13, 3) := by decide +kernel
theorem dX11_passNow_28 : decode cX11_passNow 28 = .ok (.iconst 5, 1) := by decide +kernel
theorem dX11_passNow_29 : decode cX11_passNow 29 = .ok (.iaload, 1) := by decide +kernel
theorem dX11_passNow_30 : decode cX11_passNow 30 = .ok (.ireturn, 1) := by decide +kernel
theorem dX11_pass_0 : decode cX11_pass 0 = .ok (.aload_n 0, 1) := by decide +kernel
theorem dX11_pass_1 : decode cX11_pass 1 = .ok (.iconst 0, 1) := by decide +kernel
theorem dX11_pass_2 : decode cX11_pass 2 = .ok (.putfield 153, 3) := by decide +kernel
theorem dX11_pass_5 : decode cX11_pass 5 = .ok (.aload_n 0, 1) := by decide +kernel
theorem dX11_pass_6 : decode cX11_pass 6 = .ok (.aload_n 0, 1) := by decide +kernel
theorem dX11_pass_7 : decode cX11_pass 7 = .ok (.invokevirtual 469, 3) := by decide +kernel
theorem dX11_pass_10 : decode cX11_pass 10 = .ok (.invokevirtual 162, 3) := by decide +kernel
theorem dX11_pass_13 : decode cX11_pass 13 = .ok (.ireturn, 1) := by decide +kernel
theorem dX11_where_0 : decode cX11_where 0 = .ok (.aload_n 0, 1) := by decide +kernel
theorem dX11_where_1 : decode cX11_where 1 = .ok (.iconst 0, 1) := by decide +kernel
theorem dX11_where_2 : decode cX11_where 2 = .ok (.putfield 153, 3) := by decide +kernel
theorem dX11_where_5 : decode cX11_where 5 = .ok (.aload_n 0, 1) := by decide +kernel
theorem dX11_where_6 : decode cX11_where 6 = .ok (.iload_n 1, 1) := by decide +kernel
theorem dX11_where_7 : decode cX11_where 7 = .ok (.invokevirtual 197, 3) := by decide +kernel
theorem dX11_where_10 : decode cX11_where 10 = .ok (.ifCond .eq 15, 3) := by decide +kernel
theorem dX11_where_13 : decode cX11_where 13 = .ok (.iload_n 2, 1) := by decide +kernel
theorem dX11_where_14 : decode cX11_where 14 = .ok (.i2l, 1) := by decide +kernel
theorem dX11_where_15 : decode cX11_where 15 = .ok (.lconst 0, 1) := by decide +kernel
theorem dX11_where_16 : decode cX11_where 16 = .ok (.ldc2_w 472, 3) := by decide +kernel
theorem dX11_where_19 : decode cX11_where 19 = .ok (.invokestatic 173, 3) := by decide +kernel
theorem dX11_where_22 : decode cX11_where 22 = .ok (.ifCond .ne 6, 3) := by decide +kernel
theorem dX11_where_25 : decode cX11_where 25 = .ok (.bipush (-100), 2) := by decide +kernel
theorem dX11_where_27 : decode cX11_where 27 = .ok (.ireturn, 1) := by decide +kernel
theorem dX11_where_28 : decode cX11_where 28 = .ok (.aload_n 0, 1) := by decide +kernel
theorem dX11_where_29 : decode cX11_where 29 = .ok (.bipush 16, 2) := by decide +kernel
theorem dX11_where_31 : decode cX11_where 31 = .ok (.invokevirtual 166, 3) := by decide +kernel
theorem dX11_where_34 : decode cX11_where 34 = .ok (.iconst 0, 1) := by decide +kernel
theorem dX11_where_35 : decode cX11_where 35 = .ok (.istore_n 3, 1) := by decide +kernel
theorem dX11_where_36 : decode cX11_where 36 = .ok (.iload_n 3, 1) := by decide +kernel
theorem dX11_where_37 : decode cX11_where 37 = .ok (.iload_n 2, 1) := by decide +kernel
theorem dX11_where_38 : decode cX11_where 38 = .ok (.if_icmp .ge 13, 3) := by decide +kernel
theorem dX11_where_41 : decode cX11_where 41 = .ok (.aload_n 0, 1) := by decide +kernel
theorem dX11_where_42 : decode cX11_where 42 = .ok (.invokevirtual 466, 3) := by decide +kernel
theorem dX11_where_45 : decode cX11_where 45 = .ok (.iinc 3 1, 3) := by decide +kernel
theorem dX11_where_48 : decode cX11_where 48 = .ok (.goto (-12), 3) := by decide +kernel
theorem dX11_where_51 : decode cX11_where 51 = .ok (.aload_n 0, 1) := by decide +kernel
theorem dX11_where_52 : decode cX11_where 52 = .ok (.getfield 13, 3) := by decide +kernel
theorem dX11_where_55 : decode cX11_where 55 = .ok (.bipush 9, 2) := by decide +kernel
theorem dX11_where_57 : decode cX11_where 57 = .ok (.iload_n 1, 1) := by decide +kernel
theorem dX11_where_58 : decode cX11_where 58 = .ok (.iadd, 1) := by decide +kernel
theorem dX11_where_59 : decode cX11_where 59 = .ok (.iaload, 1) := by decide +kernel
theorem dX11_where_60 : decode cX11_where 60 = .ok (.istore_n 3, 1) := by decide +kernel
theorem dX11_where_61 : decode cX11_where 61 = .ok (.aload_n 0, 1) := by decide +kernel
theorem dX11_where_62 : decode cX11_where 62 = .ok (.bipush 16, 2) := by decide +kernel
theorem dX11_where_64 : decode cX11_where 64 = .ok (.invokevirtual 170, 3) := by decide +kernel
theorem dX11_where_67 : decode cX11_where 67 = .ok (.iload_n 3, 1) := by decide +kernel
theorem dX11_where_68 : decode cX11_where 68 = .ok (.ireturn, 1) := by decide +kernel
theorem dX11_sparkAt_0 : decode cX11_sparkAt 0 = .ok (.iconst (-1), 1) := by decide +kernel
theorem dX11_sparkAt_1 : decode cX11_sparkAt 1 = .ok (.istore_n 2, 1) := by decide +kernel
theorem dX11_sparkAt_2 : decode cX11_sparkAt 2 = .ok (.aload_n 0, 1) := by decide +kernel
theorem dX11_sparkAt_3 : decode cX11_sparkAt 3 = .ok (.getfield 13, 3) := by decide +kernel
theorem dX11_sparkAt_6 : decode cX11_sparkAt 6 = .ok (.iconst 0, 1) := by decide +kernel
theorem dX11_sparkAt_7 : decode cX11_sparkAt 7 = .ok (.iaload, 1) := by decide +kernel
theorem dX11_sparkAt_8 : decode cX11_sparkAt 8 = .ok (.iconst 1, 1) := by decide +kernel
theorem dX11_sparkAt_9 : decode cX11_sparkAt 9 = .ok (.isub, 1) := by decide +kernel
theorem dX11_sparkAt_10 : decode cX11_sparkAt 10 = .ok (.istore_n 3, 1) := by decide +kernel
theorem dX11_sparkAt_11 : decode cX11_sparkAt 11 = .ok (.iload_n 3, 1) := by decide +kernel
theorem dX11_sparkAt_12 : decode cX11_sparkAt 12 = .ok (.ifCond .lt 28, 3) := by decide +kernel
theorem dX11_sparkAt_15 : decode cX11_sparkAt 15 = .ok (.aload_n 0, 1) := by decide +kernel
theorem dX11_sparkAt_16 : decode cX11_sparkAt 16 = .ok (.getfield 13, 3) := by decide +kernel
theorem dX11_sparkAt_19 : decode cX11_sparkAt 19 = .ok (.bipush 9, 2) := by decide +kernel
theorem dX11_sparkAt_21 : decode cX11_sparkAt 21 = .ok (.iload_n 3, 1) := by decide +kernel
theorem dX11_sparkAt_22 : decode cX11_sparkAt 22 = .ok (.iadd, 1) := by decide +kernel
theorem dX11_sparkAt_23 : decode cX11_sparkAt 23 = .ok (.iaload, 1) := by decide +kernel
theorem dX11_sparkAt_24 : decode cX11_sparkAt 24 = .ok (.iload_n 1, 1) := by decide +kernel
theorem dX11_sparkAt_25 : decode cX11_sparkAt 25 = .ok (.if_icmp .ne 7, 3) := by decide +kernel
theorem dX11_sparkAt_28 : decode cX11_sparkAt 28 = .ok (.iload_n 3, 1) := by decide +kernel
theorem dX11_sparkAt_29 : decode cX11_sparkAt 29 = .ok (.goto 4, 3) := by decide +kernel
theorem dX11_sparkAt_32 : decode cX11_sparkAt 32 = .ok (.iload_n 2, 1) := by decide +kernel
theorem dX11_sparkAt_33 : decode cX11_sparkAt 33 = .ok (.istore_n 2, 1) := by decide +kernel
theorem dX11_sparkAt_34 : decode cX11_sparkAt 34 = .ok (.iinc 3 (-1), 3) := by decide +kernel
theorem dX11_sparkAt_37 : decode cX11_sparkAt 37 = .ok (.goto (-26), 3) := by decide +kernel
theorem dX11_sparkAt_40 : decode cX11_sparkAt 40 = .ok (.iload_n 2, 1) := by decide +kernel
theorem dX11_sparkAt_41 : decode cX11_sparkAt 41 = .ok (.ireturn, 1) := by decide +kernel
theorem dX11_first_0 : decode cX11_first 0 = .ok (.aload_n 0, 1) := by decide +kernel
theorem dX11_first_1 : decode cX11_first 1 = .ok (.iconst 0, 1) := by decide +kernel
theorem dX11_first_2 : decode cX11_first 2 = .ok (.putfield 153, 3) := by decide +kernel
theorem dX11_first_5 : decode cX11_first 5 = .ok (.iload_n 1, 1) := by decide +kernel
theorem dX11_first_6 : decode cX11_first 6 = .ok (.invokestatic 190, 3) := by decide +kernel
theorem dX11_first_9 : decode cX11_first 9 = .ok (.ifCond .eq 13, 3) := by decide +kernel
theorem dX11_first_12 : decode cX11_first 12 = .ok (.iload_n 2, 1) := by decide +kernel
theorem dX11_first_13 : decode cX11_first 13 = .ok (.i2l, 1) := by decide +kernel
theorem dX11_first_14 : decode cX11_first 14 = .ok (.lconst 0, 1) := by decide +kernel
theorem dX11_first_15 : decode cX11_first 15 = .ok (.lconst 1, 1) := by decide +kernel
theorem dX11_first_16 : decode cX11_first 16 = .ok (.invokestatic 173, 3) := by decide +kernel
theorem dX11_first_19 : decode cX11_first 19 = .ok (.ifCond .ne 5, 3) := by decide +kernel
theorem dX11_first_22 : decode cX11_first 22 = .ok (.iconst (-1), 1) := by decide +kernel
theorem dX11_first_23 : decode cX11_first 23 = .ok (.ireturn, 1) := by decide +kernel
theorem dX11_first_24 : decode cX11_first 24 = .ok (.aload_n 0, 1) := by decide +kernel
theorem dX11_first_25 : decode cX11_first 25 = .ok (.bipush 16, 2) := by decide +kernel
theorem dX11_first_27 : decode cX11_first 27 = .ok (.invokevirtual 166, 3) := by decide +kernel
theorem dX11_first_30 : decode cX11_first 30 = .ok (.iconst 0, 1) := by decide +kernel
theorem dX11_first_31 : decode cX11_first 31 = .ok (.istore_n 3, 1) := by decide +kernel
theorem dX11_first_32 : decode cX11_first 32 = .ok (.iload_n 3, 1) := by decide +kernel
theorem dX11_first_33 : decode cX11_first 33 = .ok (.bipush 61, 2) := by decide +kernel
theorem dX11_first_35 : decode cX11_first 35 = .ok (.if_icmp .ge 22, 3) := by decide +kernel
theorem dX11_first_38 : decode cX11_first 38 = .ok (.aload_n 0, 1) := by decide +kernel
theorem dX11_first_39 : decode cX11_first 39 = .ok (.iload_n 1, 1) := by decide +kernel
theorem dX11_first_40 : decode cX11_first 40 = .ok (.invokevirtual 474, 3) := by decide +kernel
theorem dX11_first_43 : decode cX11_first 43 = .ok (.iconst (-1), 1) := by decide +kernel
theorem dX11_first_44 : decode cX11_first 44 = .ok (.if_icmp .ne 13, 3) := by decide +kernel
theorem dX11_first_47 : decode cX11_first 47 = .ok (.aload_n 0, 1) := by decide +kernel
theorem dX11_first_48 : decode cX11_first 48 = .ok (.invokevirtual 466, 3) := by decide +kernel
theorem dX11_first_51 : decode cX11_first 51 = .ok (.iinc 3 1, 3) := by decide +kernel
theorem dX11_first_54 : decode cX11_first 54 = .ok (.goto (-22), 3) := by decide +kernel
theorem dX11_first_57 : decode cX11_first 57 = .ok (.iload_n 3, 1) := by decide +kernel
theorem dX11_first_58 : decode cX11_first 58 = .ok (.bipush 60, 2) := by decide +kernel
theorem dX11_first_60 : decode cX11_first 60 = .ok (.if_icmp .le 7, 3) := by decide +kernel
theorem dX11_first_63 : decode cX11_first 63 = .ok (.iconst (-1), 1) := by decide +kernel
theorem dX11_first_64 : decode cX11_first 64 = .ok (.goto 16, 3) := by decide +kernel
theorem dX11_first_67 : decode cX11_first 67 = .ok (.iload_n 2, 1) := by decide +kernel
theorem dX11_first_68 : decode cX11_first 68 = .ok (.ifCond .ne 7, 3) := by decide +kernel
theorem dX11_first_71 : decode cX11_first 71 = .ok (.iload_n 3, 1) := by decide +kernel
theorem dX11_first_72 : decode cX11_first 72 = .ok (.goto 8, 3) := by decide +kernel
theorem dX11_first_75 : decode cX11_first 75 = .ok (.aload_n 0, 1) := by decide +kernel
theorem dX11_first_76 : decode cX11_first 76 = .ok (.iload_n 1, 1) := by decide +kernel
theorem dX11_first_77 : decode cX11_first 77 = .ok (.invokevirtual 474, 3) := by decide +kernel
theorem dX11_first_80 : decode cX11_first 80 = .ok (.istore 4, 2) := by decide +kernel
theorem dX11_first_82 : decode cX11_first 82 = .ok (.aload_n 0, 1) := by decide +kernel
theorem dX11_first_83 : decode cX11_first 83 = .ok (.bipush 16, 2) := by decide +kernel
theorem dX11_first_85 : decode cX11_first 85 = .ok (.invokevirtual 170, 3) := by decide +kernel
theorem dX11_first_88 : decode cX11_first 88 = .ok (.iload 4, 2) := by decide +kernel
theorem dX11_first_90 : decode cX11_first 90 = .ok (.ireturn, 1) := by decide +kernel
theorem dX11_cellOf_0 : decode cX11_cellOf 0 = .ok (.iload_n 2, 1) := by decide +kernel
theorem dX11_cellOf_1 : decode cX11_cellOf 1 = .ok (.iconst 5, 1) := by decide +kernel
theorem dX11_cellOf_2 : decode cX11_cellOf 2 = .ok (.if_icmp .ne 15, 3) := by decide +kernel
theorem dX11_cellOf_5 : decode cX11_cellOf 5 = .ok (.aload_n 0, 1) := by decide +kernel
theorem dX11_cellOf_6 : decode cX11_cellOf 6 = .ok (.getfield 13, 3) := by decide +kernel
theorem dX11_cellOf_9 : decode cX11_cellOf 9 = .ok (.bipush 9, 2) := by decide +kernel
theorem dX11_cellOf_11 : decode cX11_cellOf 11 = .ok (.iload_n 1, 1) := by decide +kernel
theorem dX11_cellOf_12 : decode cX11_cellOf 12 = .ok (.iadd, 1) := by decide +kernel
theorem dX11_cellOf_13 : decode cX11_cellOf 13 = .ok (.iaload, 1) := by decide +kernel
theorem dX11_cellOf_14 : decode cX11_cellOf 14 = .ok (.goto 12, 3) := by decide +kernel
theorem dX11_cellOf_17 : decode cX11_cellOf 17 = .ok (.aload_n 0, 1) := by decide +kernel
theorem dX11_cellOf_18 : decode cX11_cellOf 18 = .ok (.getfield 13, 3) := by decide +kernel
theorem dX11_cellOf_21 : decode cX11_cellOf 21 = .ok (.bipush 21, 2) := by decide +kernel
theorem dX11_cellOf_23 : decode cX11_cellOf 23 = .ok (.iload_n 2, 1) := by decide +kernel
theorem dX11_cellOf_24 : decode cX11_cellOf 24 = .ok (.iadd, 1) := by decide +kernel
theorem dX11_cellOf_25 : decode cX11_cellOf 25 = .ok (.iaload, 1) := by decide +kernel
theorem dX11_cellOf_26 : decode cX11_cellOf 26 = .ok (.ireturn, 1) := by decide +kernel
theorem dX11_leftBy_0 : decode cX11_leftBy 0 = .ok (.aload_n 0, 1) := by decide +kernel
theorem dX11_leftBy_1 : decode cX11_leftBy 1 = .ok (.getfield 13, 3) := by decide +kernel
theorem dX11_leftBy_4 : decode cX11_leftBy 4 = .ok (.bipush 21, 2) := by decide +kernel
theorem dX11_leftBy_6 : decode cX11_leftBy 6 = .ok (.iload_n 1, 1) := by decide +kernel
theorem dX11_leftBy_7 : decode cX11_leftBy 7 = .ok (.iadd, 1) := by decide +kernel
theorem dX11_leftBy_8 : decode cX11_leftBy 8 = .ok (.iaload, 1) := by decide +kernel
theorem dX11_leftBy_9 : decode cX11_leftBy 9 = .ok (.aload_n 0, 1) := by decide +kernel
theorem dX11_leftBy_10 : decode cX11_leftBy 10 = .ok (.getfield 13, 3) := by decide +kernel
theorem dX11_leftBy_13 : decode cX11_leftBy 13 = .ok (.bipush 8, 2) := by decide +kernel
theorem dX11_leftBy_15 : decode cX11_leftBy 15 = .ok (.iaload, 1) := by decide +kernel
theorem dX11_leftBy_16 : decode cX11_leftBy 16 = .ok (.if_icmp .ne 7, 3) := by decide +kernel
theorem dX11_leftBy_19 : decode cX11_leftBy 19 = .ok (.iconst 1, 1) := by decide +kernel
theorem dX11_leftBy_20 : decode cX11_leftBy 20 = .ok (.goto 11, 3) := by decide +kernel
theorem dX11_leftBy_23 : decode cX11_leftBy 23 = .ok (.aload_n 0, 1) := by decide +kernel
theorem dX11_leftBy_24 : decode cX11_leftBy 24 = .ok (.getfield 118, 3) := by decide +kernel
theorem dX11_leftBy_27 : decode cX11_leftBy 27 = .ok (.iload_n 1, 1) := by decide +kernel
theorem dX11_leftBy_28 : decode cX11_leftBy 28 = .ok (.iaload, 1) := by decide +kernel
theorem dX11_leftBy_29 : decode cX11_leftBy 29 = .ok (.iconst 1, 1) := by decide +kernel
theorem dX11_leftBy_30 : decode cX11_leftBy 30 = .ok (.iadd, 1) := by decide +kernel
theorem dX11_leftBy_31 : decode cX11_leftBy 31 = .ok (.ireturn, 1) := by decide +kernel
theorem dX11_layChain_0 : decode cX11_layChain 0 = .ok (.iconst 0, 1) := by decide +kernel
theorem dX11_layChain_1 : decode cX11_layChain 1 = .ok (.istore_n 2, 1) := by decide +kernel
theorem dX11_layChain_2 : decode cX11_layChain 2 = .ok (.iload_n 2, 1) := by decide +kernel
theorem dX11_layChain_3 : decode cX11_layChain 3 = .ok (.bipush 6, 2) := by decide +kernel
theorem dX11_layChain_5 : decode cX11_layChain 5 = .ok (.if_icmp .ge 18, 3) := by decide +kernel
theorem dX11_layChain_8 : decode cX11_layChain 8 = .ok (.aload_n 0, 1) := by decide +kernel
theorem dX11_layChain_9 : decode cX11_layChain 9 = .ok (.getfield 118, 3) := by decide +kernel
theorem dX11_layChain_12 : decode cX11_layChain 12 = .ok (.iload_n 2, 1) := by decide +kernel
theorem dX11_layChain_13 : decode cX11_layChain 13 = .ok (.ldc_w 477, 3) := by decide +kernel
theorem dX11_layChain_16 : decode cX11_layChain 16 = .ok (.iastore, 1) := by decide +kernel
theorem dX11_layChain_17 : decode cX11_layChain 17 = .ok (.iinc 2 1, 3) := by decide +kernel
theorem dX11_layChain_20 : decode cX11_layChain 20 = .ok (.goto (-18), 3) := by decide +kernel
theorem dX11_layChain_23 : decode cX11_layChain 23 = .ok (.iconst 0, 1) := by decide +kernel
theorem dX11_layChain_24 : decode cX11_layChain 24 = .ok (.istore_n 2, 1) := by decide +kernel
theorem dX11_layChain_25 : decode cX11_layChain 25 = .ok (.iload_n 2, 1) := by decide +kernel
theorem dX11_layChain_26 : decode cX11_layChain 26 = .ok (.bipush 6, 2) := by decide +kernel
theorem dX11_layChain_28 : decode cX11_layChain 28 = .ok (.if_icmp .ge 101, 3) := by decide +kernel
theorem dX11_layChain_31 : decode cX11_layChain 31 = .ok (.iconst 0, 1) := by decide +kernel
theorem dX11_layChain_32 : decode cX11_layChain 32 = .ok (.istore_n 3, 1) := by decide +kernel
theorem dX11_layChain_33 : decode cX11_layChain 33 = .ok (.iload_n 3, 1) := by decide +kernel
theorem dX11_layChain_34 : decode cX11_layChain 34 = .ok (.bipush 6, 2) := by decide +kernel
theorem dX11_layChain_36 : decode cX11_layChain 36 = .ok (.if_icmp .ge 87, 3) := by decide +kernel
theorem dX11_layChain_39 : decode cX11_layChain 39 = .ok (.iconst 0, 1) := by decide +kernel
theorem dX11_layChain_40 : decode cX11_layChain 40 = .ok (.istore 4, 2) := by decide +kernel
theorem dX11_layChain_42 : decode cX11_layChain 42 = .ok (.iload 4, 2) := by decide +kernel
theorem dX11_layChain_44 : decode cX11_layChain 44 = .ok (.aload_n 0, 1) := by decide +kernel
theorem dX11_layChain_45 : decode cX11_layChain 45 = .ok (.getfield 13, 3) := by decide +kernel
theorem dX11_layChain_48 : decode cX11_layChain 48 = .ok (.iconst 1, 1) := by decide +kernel
theorem dX11_layChain_49 : decode cX11_layChain 49 = .ok (.iaload, 1) := by decide +kernel
theorem dX11_layChain_50 : decode cX11_layChain 50 = .ok (.if_icmp .ge 67, 3) := by decide +kernel
theorem dX11_layChain_53 : decode cX11_layChain 53 = .ok (.iload_n 3, 1) := by decide +kernel
theorem dX11_layChain_54 : decode cX11_layChain 54 = .ok (.aload_n 0, 1) := by decide +kernel
theorem dX11_layChain_55 : decode cX11_layChain 55 = .ok (.getfield 13, 3) := by decide +kernel
theorem dX11_layChain_58 : decode cX11_layChain 58 = .ok (.iconst 1, 1) := by decide +kernel
theorem dX11_layChain_59 : decode cX11_layChain 59 = .ok (.iaload, 1) := by decide +kernel
theorem dX11_layChain_60 : decode cX11_layChain 60 = .ok (.if_icmp .lt 8, 3) := by decide +kernel
theorem dX11_layChain_63 : decode cX11_layChain 63 = .ok (.iload_n 3, 1) := by decide +kernel
theorem dX11_layChain_64 : decode cX11_layChain 64 = .ok (.iconst 5, 1) := by decide +kernel
theorem dX11_layChain_65 : decode cX11_layChain 65 = .ok (.if_icmp .ne 52, 3) := by decide +kernel
theorem dX11_layChain_68 : decode cX11_layChain 68 = .ok (.aload_n 0, 1) := by decide +kernel
theorem dX11_layChain_69 : decode cX11_layChain 69 = .ok (.iload_n 1, 1) := by decide +kernel
theorem dX11_layChain_70 : decode cX11_layChain 70 = .ok (.iload 4, 2) := by decide +kernel
theorem dX11_layChain_72 : decode cX11_layChain 72 = .ok (.aload_n 0, 1) := by decide +kernel
theorem dX11_layChain_73 : decode cX11_layChain 73 = .ok (.iload_n 1, 1) := by decide +kernel
theorem dX11_layChain_74 : decode cX11_layChain 74 = .ok (.iload_n 3, 1) := by decide +kernel
theorem dX11_layChain_75 : decode cX11_layChain 75 = .ok (.invokevirtual 478, 3) := by decide +kernel
theorem dX11_layChain_78 : decode cX11_layChain 78 = .ok (.invokevirtual 227, 3) := by decide +kernel
theorem dX11_layChain_81 : decode cX11_layChain 81 = .ok (.ifCond .eq 30, 3) := by decide +kernel
theorem dX11_layChain_84 : decode cX11_layChain 84 = .ok (.aload_n 0, 1) := by decide +kernel
theorem dX11_layChain_85 : decode cX11_layChain 85 = .ok (.iload 4, 2) := by decide +kernel
theorem dX11_layChain_87 : decode cX11_layChain 87 = .ok (.invokevirtual 481, 3) := by decide +kernel
theorem dX11_layChain_90 : decode cX11_layChain 90 = .ok (.aload_n 0, 1) := by decide +kernel
theorem dX11_layChain_91 : decode cX11_layChain 91 = .ok (.getfield 118, 3) := by decide +kernel
theorem dX11_layChain_94 : decode cX11_layChain 94 = .ok (.iload_n 3, 1) := by decide +kernel
theorem dX11_layChain_95 : decode cX11_layChain 95 = .ok (.iaload, 1) := by decide +kernel
theorem dX11_layChain_96 : decode cX11_layChain 96 = .ok (.if_icmp .ge 15, 3) := by decide +kernel
theorem dX11_layChain_99 : decode cX11_layChain 99 = .ok (.aload_n 0, 1) := by decide +kernel
theorem dX11_layChain_100 : decode cX11_layChain 100 = .ok (.getfield 118, 3) := by decide +kernel
theorem dX11_layChain_103 : decode cX11_layChain 103 = .ok (.iload_n 3, 1) := by decide +kernel
theorem dX11_layChain_104 : decode cX11_layChain 104 = .ok (.aload_n 0, 1) := by decide +kernel
theorem dX11_layChain_105 : decode cX11_layChain 105 = .ok (.iload 4, 2) := by decide +kernel
theorem dX11_layChain_107 : decode cX11_layChain 107 = .ok (.invokevirtual 481, 3) := by decide +kernel
theorem dX11_layChain_110 : decode cX11_layChain 110 = .ok (.iastore, 1) := by decide +kernel
theorem dX11_layChain_111 : decode cX11_layChain 111 = .ok (.iinc 4 1, 3) := by decide +kernel
theorem dX11_layChain_114 : decode cX11_layChain 114 = .ok (.goto (-72), 3) := by decide +kernel
theorem dX11_layChain_117 : decode cX11_layChain 117 = .ok (.iinc 3 1, 3) := by decide +kernel
theorem dX11_layChain_120 : decode cX11_layChain 120 = .ok (.goto (-87), 3) := by decide +kernel
theorem dX11_layChain_123 : decode cX11_layChain 123 = .ok (.iinc 2 1, 3) := by decide +kernel
theorem dX11_layChain_126 : decode cX11_layChain 126 = .ok (.goto (-101), 3) := by decide +kernel
theorem dX11_layChain_129 : decode cX11_layChain 129 = .ok (.return_, 1) := by decide +kernel
theorem dX11_nextCaller_0 : decode cX11_nextCaller 0 = .ok (.iconst 0, 1) := by decide +kernel
theorem dX11_nextCaller_1 : decode cX11_nextCaller 1 = .ok (.istore_n 3, 1) := by decide +kernel
theorem dX11_nextCaller_2 : decode cX11_nextCaller 2 = .ok (.aload_n 0, 1) := by decide +kernel
theorem dX11_nextCaller_3 : decode cX11_nextCaller 3 = .ok (.iload_n 1, 1) := by decide +kernel
theorem dX11_nextCaller_4 : decode cX11_nextCaller 4 = .ok (.iload_n 3, 1) := by decide +kernel
theorem dX11_nextCaller_5 : decode cX11_nextCaller 5 = .ok (.aload_n 0, 1) := by decide +kernel
theorem dX11_nextCaller_6 : decode cX11_nextCaller 6 = .ok (.iload_n 1, 1) := by decide +kernel
theorem dX11_nextCaller_7 : decode cX11_nextCaller 7 = .ok (.iload_n 2, 1) := by decide +kernel
theorem dX11_nextCaller_8 : decode cX11_nextCaller 8 = .ok (.invokevirtual 478, 3) := by decide +kernel
theorem dX11_nextCaller_11 : decode cX11_nextCaller 11 = .ok (.invokevirtual 227, 3) := by decide +kernel
theorem dX11_nextCaller_14 : decode cX11_nextCaller 14 = .ok (.ifCond .eq 17, 3) := by decide +kernel
theorem dX11_nextCaller_17 : decode cX11_nextCaller 17 = .ok (.aload_n 0, 1) := by decide +kernel
theorem dX11_nextCaller_18 : decode cX11_nextCaller 18 = .ok (.iload_n 3, 1) := by decide +kernel
theorem dX11_nextCaller_19 : decode cX11_nextCaller 19 = .ok (.invokevirtual 481, 3) := by decide +kernel
theorem dX11_nextCaller_22 : decode cX11_nextCaller 22 = .ok (.aload_n 0, 1) := by decide +kernel
theorem dX11_nextCaller_23 : decode cX11_nextCaller 23 = .ok (.getfield 118, 3) := by decide +kernel
theorem dX11_nextCaller_26 : decode cX11_nextCaller 26 = .ok (.iload_n 2, 1) := by decide +kernel
theorem dX11_nextCaller_27 : decode cX11_nextCaller 27 = .ok (.iaload, 1) := by decide +kernel
theorem dX11_nextCaller_28 : decode cX11_nextCaller 28 = .ok (.if_icmp .eq 9, 3) := by decide +kernel
theorem dX11_nextCaller_31 : decode cX11_nextCaller 31 = .ok (.iinc 3 1, 3) := by decide +kernel
theorem dX11_nextCaller_34 : decode cX11_nextCaller 34 = .ok (.goto (-32), 3) := by decide +kernel
theorem dX11_nextCaller_37 : decode cX11_nextCaller 37 = .ok (.iload_n 3, 1) := by decide +kernel
theorem dX11_nextCaller_38 : decode cX11_nextCaller 38 = .ok (.ireturn, 1) := by decide +kernel
theorem dX11_chain_0 : decode cX11_chain 0 = .ok (.aload_n 0, 1) := by decide +kernel
theorem dX11_chain_1 : decode cX11_chain 1 = .ok (.iconst 0, 1) := by decide +kernel
theorem dX11_chain_2 : decode cX11_chain 2 = .ok (.putfield 153, 3) := by decide +kernel
theorem dX11_chain_5 : decode cX11_chain 5 = .ok (.aload_n 0, 1) := by decide +kernel
theorem dX11_chain_6 : decode cX11_chain 6 = .ok (.iload_n 1, 1) := by decide +kernel
theorem dX11_chain_7 : decode cX11_chain 7 = .ok (.invokevirtual 197, 3) := by decide +kernel
theorem dX11_chain_10 : decode cX11_chain 10 = .ok (.ifCond .eq 16, 3) := by decide +kernel
theorem dX11_chain_13 : decode cX11_chain 13 = .ok (.iload_n 2, 1) := by decide +kernel
theorem dX11_chain_14 : decode cX11_chain 14 = .ok (.iconst (-1), 1) := by decide +kernel
theorem dX11_chain_15 : decode cX11_chain 15 = .ok (.if_icmp .lt 11, 3) := by decide +kernel
theorem dX11_chain_18 : decode cX11_chain 18 = .ok (.aload_n 0, 1) := by decide +kernel
theorem dX11_chain_19 : decode cX11_chain 19 = .ok (.iload_n 1, 1) := by decide +kernel
theorem dX11_chain_20 : decode cX11_chain 20 = .ok (.invokevirtual 182, 3) := by decide +kernel
theorem dX11_chain_23 : decode cX11_chain 23 = .ok (.ifCond .ne 5, 3) := by decide +kernel
theorem dX11_chain_26 : decode cX11_chain 26 = .ok (.iconst (-1), 1) := by decide +kernel
theorem dX11_chain_27 : decode cX11_chain 27 = .ok (.ireturn, 1) := by decide +kernel
theorem dX11_chain_28 : decode cX11_chain 28 = .ok (.aload_n 0, 1) := by decide +kernel
theorem dX11_chain_29 : decode cX11_chain 29 = .ok (.iload_n 1, 1) := by decide +kernel
theorem dX11_chain_30 : decode cX11_chain 30 = .ok (.invokevirtual 484, 3) := by decide +kernel
theorem dX11_chain_33 : decode cX11_chain 33 = .ok (.aload_n 0, 1) := by decide +kernel
theorem dX11_chain_34 : decode cX11_chain 34 = .ok (.getfield 118, 3) := by decide +kernel
theorem dX11_chain_37 : decode cX11_chain 37 = .ok (.iconst 5, 1) := by decide +kernel
theorem dX11_chain_38 : decode cX11_chain 38 = .ok (.iaload, 1) := by decide +kernel
theorem dX11_chain_39 : decode cX11_chain 39 = .ok (.istore_n 3, 1) := by decide +kernel
theorem dX11_chain_40 : decode cX11_chain 40 = .ok (.iload_n 3, 1) := by decide +kernel
theorem dX11_chain_41 : decode cX11_chain 41 = .ok (.ldc_w 477, 3) := by decide +kernel
theorem dX11_chain_44 : decode cX11_chain 44 = .ok (.if_icmp .ge 8, 3) := by decide +kernel
theorem dX11_chain_47 : decode cX11_chain 47 = .ok (.iload_n 2, 1) := by decide +kernel
theorem dX11_chain_48 : decode cX11_chain 48 = .ok (.iload_n 3, 1) := by decide +kernel
theorem dX11_chain_49 : decode cX11_chain 49 = .ok (.if_icmp .lt 5, 3) := by decide +kernel
theorem dX11_chain_52 : decode cX11_chain 52 = .ok (.iconst (-1), 1) := by decide +kernel
theorem dX11_chain_53 : decode cX11_chain 53 = .ok (.ireturn, 1) := by decide +kernel
theorem dX11_chain_54 : decode cX11_chain 54 = .ok (.iconst 5, 1) := by decide +kernel
theorem dX11_chain_55 : decode cX11_chain 55 = .ok (.istore 4, 2) := by decide +kernel
theorem dX11_chain_57 : decode cX11_chain 57 = .ok (.iconst 0, 1) := by decide +kernel
theorem dX11_chain_58 : decode cX11_chain 58 = .ok (.istore 5, 2) := by decide +kernel
theorem dX11_chain_60 : decode cX11_chain 60 = .ok (.iload 5, 2) := by decide +kernel
theorem dX11_chain_62 : decode cX11_chain 62 = .ok (.iload_n 2, 1) := by decide +kernel
theorem dX11_chain_63 : decode cX11_chain 63 = .ok (.if_icmp .gt 18, 3) := by decide +kernel
theorem dX11_chain_66 : decode cX11_chain 66 = .ok (.aload_n 0, 1) := by decide +kernel
theorem dX11_chain_67 : decode cX11_chain 67 = .ok (.iload_n 1, 1) := by decide +kernel
theorem dX11_chain_68 : decode cX11_chain 68 = .ok (.iload 4, 2) := by decide +kernel
theorem dX11_chain_70 : decode cX11_chain 70 = .ok (.invokevirtual 487, 3) := by decide +kernel
theorem dX11_chain_73 : decode cX11_chain 73 = .ok (.istore 4, 2) := by decide +kernel
theorem dX11_chain_75 : decode cX11_chain 75 = .ok (.iinc 5 1, 3) := by decide +kernel
theorem dX11_chain_78 : decode cX11_chain 78 = .ok (.goto (-18), 3) := by decide +kernel
theorem dX11_chain_81 : decode cX11_chain 81 = .ok (.iload_n 2, 1) := by decide +kernel
theorem dX11_chain_82 : decode cX11_chain 82 = .ok (.iconst (-1), 1) := by decide +kernel
theorem dX11_chain_83 : decode cX11_chain 83 = .ok (.if_icmp .ne 7, 3) := by decide +kernel
theorem dX11_chain_86 : decode cX11_chain 86 = .ok (.iload_n 3, 1) := by decide +kernel
theorem dX11_chain_87 : decode cX11_chain 87 = .ok (.goto 5, 3) := by decide +kernel
theorem dX11_chain_90 : decode cX11_chain 90 = .ok (.iload 4, 2) := by decide +kernel
theorem dX11_chain_92 : decode cX11_chain 92 = .ok (.ireturn, 1) := by decide +kernel
theorem dX11_answer_0 : decode cX11_answer 0 = .ok (.aload_n 0, 1) := by decide +kernel
theorem dX11_answer_1 : decode cX11_answer 1 = .ok (.iconst 0, 1) := by decide +kernel
theorem dX11_answer_2 : decode cX11_answer 2 = .ok (.putfield 153, 3) := by decide +kernel
theorem dX11_answer_5 : decode cX11_answer 5 = .ok (.iload_n 2, 1) := by decide +kernel
theorem dX11_answer_6 : decode cX11_answer 6 = .ok (.i2l, 1) := by decide +kernel
theorem dX11_answer_7 : decode cX11_answer 7 = .ok (.lconst 0, 1) := by decide +kernel
theorem dX11_answer_8 : decode cX11_answer 8 = .ok (.lconst 1, 1) := by decide +kernel
theorem dX11_answer_9 : decode cX11_answer 9 = .ok (.invokestatic 173, 3) := by decide +kernel
theorem dX11_answer_12 : decode cX11_answer 12 = .ok (.ifCond .ne 9, 3) := by decide +kernel
theorem dX11_answer_15 : decode cX11_answer 15 = .ok (.aload_n 0, 1) := by decide +kernel
theorem dX11_answer_16 : decode cX11_answer 16 = .ok (.iconst (-1), 1) := by decide +kernel
theorem dX11_answer_17 : decode cX11_answer 17 = .ok (.invokevirtual 162, 3) := by decide +kernel
theorem dX11_answer_20 : decode cX11_answer 20 = .ok (.ireturn, 1) := by decide +kernel
theorem dX11_answer_21 : decode cX11_answer 21 = .ok (.aload_n 0, 1) := by decide +kernel
theorem dX11_answer_22 : decode cX11_answer 22 = .ok (.iload_n 1, 1) := by decide +kernel
theorem dX11_answer_23 : decode cX11_answer 23 = .ok (.invokevirtual 211, 3) := by decide +kernel
theorem dX11_answer_26 : decode cX11_answer 26 = .ok (.ifCond .ne 10, 3) := by decide +kernel
theorem dX11_answer_29 : decode cX11_answer 29 = .ok (.aload_n 0, 1) := by decide +kernel
theorem dX11_answer_30 : decode cX11_answer 30 = .ok (.bipush (-2), 2) := by decide +kernel
theorem dX11_answer_32 : decode cX11_answer 32 = .ok (.invokevirtual 162, 3) := by decide +kernel
theorem dX11_answer_35 : decode cX11_answer 35 = .ok (.ireturn, 1) := by decide +kernel
theorem dX11_answer_36 : decode cX11_answer 36 = .ok (.aload_n 0, 1) := by decide +kernel
theorem dX11_answer_37 : decode cX11_answer 37 = .ok (.getfield 13, 3) := by decide +kernel
theorem dX11_answer_40 : decode cX11_answer 40 = .ok (.iconst 2, 1) := by decide +kernel
theorem dX11_answer_41 : decode cX11_answer 41 = .ok (.iaload, 1) := by decide +kernel
theorem dX11_answer_42 : decode cX11_answer 42 = .ok (.istore_n 3, 1) := by decide +kernel
theorem dX11_answer_43 : decode cX11_answer 43 = .ok (.iload_n 3, 1) := by decide +kernel
theorem dX11_answer_44 : decode cX11_answer 44 = .ok (.bipush 6, 2) := by decide +kernel
theorem dX11_answer_46 : decode cX11_answer 46 = .ok (.if_icmp .ne 10, 3) := by decide +kernel
theorem dX11_answer_49 : decode cX11_answer 49 = .ok (.aload_n 0, 1) := by decide +kernel
theorem dX11_answer_50 : decode cX11_answer 50 = .ok (.bipush (-5), 2) := by decide +kernel
theorem dX11_answer_52 : decode cX11_answer 52 = .ok (.invokevirtual 162, 3) := by decide +kernel
theorem dX11_answer_55 : decode cX11_answer 55 = .ok (.ireturn, 1) := by decide +kernel
theorem dX11_answer_56 : decode cX11_answer 56 = .ok (.aload_n 0, 1) := by decide +kernel
theorem dX11_answer_57 : decode cX11_answer 57 = .ok (.getfield 13, 3) := by decide +kernel
theorem dX11_answer_60 : decode cX11_answer 60 = .ok (.bipush 67, 2) := by decide +kernel
theorem dX11_answer_62 : decode cX11_answer 62 = .ok (.iconst 2, 1) := by decide +kernel
theorem dX11_answer_63 : decode cX11_answer 63 = .ok (.iload_n 3, 1) := by decide +kernel
theorem dX11_answer_64 : decode cX11_answer 64 = .ok (.imul, 1) := by decide +kernel
theorem dX11_answer_65 : decode cX11_answer 65 = .ok (.iadd, 1) := by decide +kernel
theorem dX11_answer_66 : decode cX11_answer 66 = .ok (.iload_n 1, 1) := by decide +kernel
theorem dX11_answer_67 : decode cX11_answer 67 = .ok (.iastore, 1) := by decide +kernel
theorem dX11_answer_68 : decode cX11_answer 68 = .ok (.aload_n 0, 1) := by decide +kernel
theorem dX11_answer_69 : decode cX11_answer 69 = .ok (.getfield 13, 3) := by decide +kernel
theorem dX11_answer_72 : decode cX11_answer 72 = .ok (.bipush 67, 2) := by decide +kernel
theorem dX11_answer_74 : decode cX11_answer 74 = .ok (.iconst 2, 1) := by decide +kernel
theorem dX11_answer_75 : decode cX11_answer 75 = .ok (.iload_n 3, 1) := by decide +kernel
theorem dX11_answer_76 : decode cX11_answer 76 = .ok (.imul, 1) := by decide +kernel
theorem dX11_answer_77 : decode cX11_answer 77 = .ok (.iadd, 1) := by decide +kernel
theorem dX11_answer_78 : decode cX11_answer 78 = .ok (.iconst 1, 1) := by decide +kernel
theorem dX11_answer_79 : decode cX11_answer 79 = .ok (.iadd, 1) := by decide +kernel
theorem dX11_answer_80 : decode cX11_answer 80 = .ok (.iload_n 2, 1) := by decide +kernel
theorem dX11_answer_81 : decode cX11_answer 81 = .ok (.iastore, 1) := by decide +kernel
theorem dX11_answer_82 : decode cX11_answer 82 = .ok (.aload_n 0, 1) := by decide +kernel
theorem dX11_answer_83 : decode cX11_answer 83 = .ok (.getfield 13, 3) := by decide +kernel
theorem dX11_answer_86 : decode cX11_answer 86 = .ok (.iconst 2, 1) := by decide +kernel
theorem dX11_answer_87 : decode cX11_answer 87 = .ok (.dup2, 1) := by decide +kernel
theorem dX11_answer_88 : decode cX11_answer 88 = .ok (.iaload, 1) := by decide +kernel
theorem dX11_answer_89 : decode cX11_answer 89 = .ok (.iconst 1, 1) := by decide +kernel
theorem dX11_answer_90 : decode cX11_answer 90 = .ok (.iadd, 1) := by decide +kernel
theorem dX11_answer_91 : decode cX11_answer 91 = .ok (.iastore, 1) := by decide +kernel
theorem dX11_answer_92 : decode cX11_answer 92 = .ok (.aload_n 0, 1) := by decide +kernel
theorem dX11_answer_93 : decode cX11_answer 93 = .ok (.iload_n 3, 1) := by decide +kernel
theorem dX11_answer_94 : decode cX11_answer 94 = .ok (.iconst 1, 1) := by decide +kernel
theorem dX11_answer_95 : decode cX11_answer 95 = .ok (.iadd, 1) := by decide +kernel
theorem dX11_answer_96 : decode cX11_answer 96 = .ok (.invokevirtual 162, 3) := by decide +kernel
theorem dX11_answer_99 : decode cX11_answer 99 = .ok (.ireturn, 1) := by decide +kernel
theorem dX11_forget_0 : decode cX11_forget 0 = .ok (.aload_n 0, 1) := by decide +kernel
theorem dX11_forget_1 : decode cX11_forget 1 = .ok (.iconst 0, 1) := by decide +kernel
theorem dX11_forget_2 : decode cX11_forget 2 = .ok (.putfield 153, 3) := by decide +kernel
theorem dX11_forget_5 : decode cX11_forget 5 = .ok (.aload_n 0, 1) := by decide +kernel
theorem dX11_forget_6 : decode cX11_forget 6 = .ok (.getfield 13, 3) := by decide +kernel
theorem dX11_forget_9 : decode cX11_forget 9 = .ok (.iconst 2, 1) := by decide +kernel
theorem dX11_forget_10 : decode cX11_forget 10 = .ok (.iaload, 1) := by decide +kernel
theorem dX11_forget_11 : decode cX11_forget 11 = .ok (.istore_n 1, 1) := by decide +kernel
theorem dX11_forget_12 : decode cX11_forget 12 = .ok (.aload_n 0, 1) := by decide +kernel
theorem dX11_forget_13 : decode cX11_forget 13 = .ok (.getfield 13, 3) := by decide +kernel
theorem dX11_forget_16 : decode cX11_forget 16 = .ok (.iconst 2, 1) := by decide +kernel
theorem dX11_forget_17 : decode cX11_forget 17 = .ok (.iconst 0, 1) := by decide +kernel
theorem dX11_forget_18 : decode cX11_forget 18 = .ok (.iastore, 1) := by decide +kernel
theorem dX11_forget_19 : decode cX11_forget 19 = .ok (.iload_n 1, 1) := by decide +kernel
theorem dX11_forget_20 : decode cX11_forget 20 = .ok (.ireturn, 1) := by decide +kernel
theorem dX11_whichAre_0 : decode cX11_whichAre 0 = .ok (.iconst 0, 1) := by decide +kernel
theorem dX11_whichAre_1 : decode cX11_whichAre 1 = .ok (.istore_n 1, 1) := by decide +kernel
theorem dX11_whichAre_2 : decode cX11_whichAre 2 = .ok (.iconst 0, 1) := by decide +kernel
theorem dX11_whichAre_3 : decode cX11_whichAre 3 = .ok (.istore_n 2, 1) := by decide +kernel
theorem dX11_whichAre_4 : decode cX11_whichAre 4 = .ok (.iload_n 2, 1) := by decide +kernel
theorem dX11_whichAre_5 : decode cX11_whichAre 5 = .ok (.aload_n 0, 1) := by decide +kernel
theorem dX11_whichAre_6 : decode cX11_whichAre 6 = .ok (.getfield 13, 3) := by decide +kernel
theorem dX11_whichAre_9 : decode cX11_whichAre 9 = .ok (.iconst 0, 1) := by decide +kernel
theorem dX11_whichAre_10 : decode cX11_whichAre 10 = .ok (.iaload, 1) := by decide +kernel
theorem dX11_whichAre_11 : decode cX11_whichAre 11 = .ok (.if_icmp .ge 96, 3) := by decide +kernel
theorem dX11_whichAre_14 : decode cX11_whichAre 14 = .ok (.iconst 1, 1) := by decide +kernel
theorem dX11_whichAre_15 : decode cX11_whichAre 15 = .ok (.istore_n 3, 1) := by decide +kernel
theorem dX11_whichAre_16 : decode cX11_whichAre 16 = .ok (.iconst 0, 1) := by decide +kernel
theorem dX11_whichAre_17 : decode cX11_whichAre 17 = .ok (.istore 4, 2) := by decide +kernel
theorem dX11_whichAre_19 : decode cX11_whichAre 19 = .ok (.iload 4, 2) := by decide +kernel
theorem dX11_whichAre_21 : decode cX11_whichAre 21 = .ok (.aload_n 0, 1) := by decide +kernel
theorem dX11_whichAre_22 : decode cX11_whichAre 22 = .ok (.getfield 13, 3) := by decide +kernel
theorem dX11_whichAre_25 : decode cX11_whichAre 25 = .ok (.iconst 2, 1) := by decide +kernel
theorem dX11_whichAre_26 : decode cX11_whichAre 26 = .ok (.iaload, 1) := by decide +kernel
theorem dX11_whichAre_27 : decode cX11_whichAre 27 = .ok (.if_icmp .ge 60, 3) := by decide +kernel
theorem dX11_whichAre_30 : decode cX11_whichAre 30 = .ok (.iload_n 3, 1) := by decide +kernel
theorem dX11_whichAre_31 : decode cX11_whichAre 31 = .ok (.ifCond .eq 48, 3) := by decide +kernel
theorem dX11_whichAre_34 : decode cX11_whichAre 34 = .ok (.aload_n 0, 1) := by decide +kernel
theorem dX11_whichAre_35 : decode cX11_whichAre 35 = .ok (.getfield 13, 3) := by decide +kernel
theorem dX11_whichAre_38 : decode cX11_whichAre 38 = .ok (.bipush 62, 2) := by decide +kernel
theorem dX11_whichAre_40 : decode cX11_whichAre 40 = .ok (.aload_n 0, 1) := by decide +kernel
theorem dX11_whichAre_41 : decode cX11_whichAre 41 = .ok (.getfield 13, 3) := by decide +kernel
theorem dX11_whichAre_44 : decode cX11_whichAre 44 = .ok (.bipush 67, 2) := by decide +kernel
theorem dX11_whichAre_46 : decode cX11_whichAre 46 = .ok (.iconst 2, 1) := by decide +kernel
theorem dX11_whichAre_47 : decode cX11_whichAre 47 = .ok (.iload 4, 2) := by decide +kernel
theorem dX11_whichAre_49 : decode cX11_whichAre 49 = .ok (.imul, 1) := by decide +kernel
theorem dX11_whichAre_50 : decode cX11_whichAre 50 = .ok (.iadd, 1) := by decide +kernel
theorem dX11_whichAre_51 : decode cX11_whichAre 51 = .ok (.iaload, 1) := by decide +kernel
theorem dX11_whichAre_52 : decode cX11_whichAre 52 = .ok (.iadd, 1) := by decide +kernel
theorem dX11_whichAre_53 : decode cX11_whichAre 53 = .ok (.iaload, 1) := by decide +kernel
theorem dX11_whichAre_54 : decode cX11_whichAre 54 = .ok (.iload_n 2, 1) := by decide +kernel
theorem dX11_whichAre_55 : decode cX11_whichAre 55 = .ok (.ishr, 1) := by decide +kernel
theorem dX11_whichAre_56 : decode cX11_whichAre 56 = .ok (.iconst 1, 1) := by decide +kernel
theorem dX11_whichAre_57 : decode cX11_whichAre 57 = .ok (.iand, 1) := by decide +kernel
theorem dX11_whichAre_58 : decode cX11_whichAre 58 = .ok (.aload_n 0, 1) := by decide +kernel
theorem dX11_whichAre_59 : decode cX11_whichAre 59 = .ok (.getfield 13, 3) := by decide +kernel
theorem dX11_whichAre_62 : decode cX11_whichAre 62 = .ok (.bipush 67, 2) := by decide +kernel
theorem dX11_whichAre_64 : decode cX11_whichAre 64 = .ok (.iconst 2, 1) := by decide +kernel
theorem dX11_whichAre_65 : decode cX11_whichAre 65 = .ok (.iload 4, 2) := by decide +kernel
theorem dX11_whichAre_67 : decode cX11_whichAre 67 = .ok (.imul, 1) := by decide +kernel
theorem dX11_whichAre_68 : decode cX11_whichAre 68 = .ok (.iadd, 1) := by decide +kernel
theorem dX11_whichAre_69 : decode cX11_whichAre 69 = .ok (.iconst 1, 1) := by decide +kernel
theorem dX11_whichAre_70 : decode cX11_whichAre 70 = .ok (.iadd, 1) := by decide +kernel
theorem dX11_whichAre_71 : decode cX11_whichAre 71 = .ok (.iaload, 1) := by decide +kernel
theorem dX11_whichAre_72 : decode cX11_whichAre 72 = .ok (.if_icmp .ne 7, 3) := by decide +kernel
theorem dX11_whichAre_75 : decode cX11_whichAre 75 = .ok (.iconst 1, 1) := by decide +kernel
theorem dX11_whichAre_76 : decode cX11_whichAre 76 = .ok (.goto 4, 3) := by decide +kernel
theorem dX11_whichAre_79 : decode cX11_whichAre 79 = .ok (.iconst 0, 1) := by decide +kernel
theorem dX11_whichAre_80 : decode cX11_whichAre 80 = .ok (.istore_n 3, 1) := by decide +kernel
theorem dX11_whichAre_81 : decode cX11_whichAre 81 = .ok (.iinc 4 1, 3) := by decide +kernel
theorem dX11_whichAre_84 : decode cX11_whichAre 84 = .ok (.goto (-65), 3) := by decide +kernel
theorem dX11_whichAre_87 : decode cX11_whichAre 87 = .ok (.iload_n 1, 1) := by decide +kernel
theorem dX11_whichAre_88 : decode cX11_whichAre 88 = .ok (.iload_n 3, 1) := by decide +kernel
theorem dX11_whichAre_89 : decode cX11_whichAre 89 = .ok (.ifCond .eq 9, 3) := by decide +kernel
theorem dX11_whichAre_92 : decode cX11_whichAre 92 = .ok (.iconst 1, 1) := by decide +kernel
theorem dX11_whichAre_93 : decode cX11_whichAre 93 = .ok (.iload_n 2, 1) := by decide +kernel
theorem dX11_whichAre_94 : decode cX11_whichAre 94 = .ok (.ishl, 1) := by decide +kernel
theorem dX11_whichAre_95 : decode cX11_whichAre 95 = .ok (.goto 4, 3) := by decide +kernel
theorem dX11_whichAre_98 : decode cX11_whichAre 98 = .ok (.iconst 0, 1) := by decide +kernel
theorem dX11_whichAre_99 : decode cX11_whichAre 99 = .ok (.ior, 1) := by decide +kernel
theorem dX11_whichAre_100 : decode cX11_whichAre 100 = .ok (.istore_n 1, 1) := by decide +kernel
theorem dX11_whichAre_101 : decode cX11_whichAre 101 = .ok (.iinc 2 1, 3) := by decide +kernel
theorem dX11_whichAre_104 : decode cX11_whichAre 104 = .ok (.goto (-100), 3) := by decide +kernel
theorem dX11_whichAre_107 : decode cX11_whichAre 107 = .ok (.iload_n 1, 1) := by decide +kernel
theorem dX11_whichAre_108 : decode cX11_whichAre 108 = .ok (.ireturn, 1) := by decide +kernel
theorem dX11_which_0 : decode cX11_which 0 = .ok (.aload_n 0, 1) := by decide +kernel
theorem dX11_which_1 : decode cX11_which 1 = .ok (.iconst 0, 1) := by decide +kernel
theorem dX11_which_2 : decode cX11_which 2 = .ok (.putfield 153, 3) := by decide +kernel
theorem dX11_which_5 : decode cX11_which 5 = .ok (.aload_n 0, 1) := by decide +kernel
theorem dX11_which_6 : decode cX11_which 6 = .ok (.invokevirtual 490, 3) := by decide +kernel
theorem dX11_which_9 : decode cX11_which 9 = .ok (.ireturn, 1) := by decide +kernel
theorem dX11_let_0 : decode cX11_let 0 = .ok (.aload_n 0, 1) := by decide +kernel
theorem dX11_let_1 : decode cX11_let 1 = .ok (.iconst 0, 1) := by decide +kernel
theorem dX11_let_2 : decode cX11_let 2 = .ok (.putfield 153, 3) := by decide +kernel
theorem dX11_let_5 : decode cX11_let 5 = .ok (.aload_n 0, 1) := by decide +kernel
theorem dX11_let_6 : decode cX11_let 6 = .ok (.invokevirtual 490, 3) := by decide +kernel
theorem dX11_let_9 : decode cX11_let 9 = .ok (.istore_n 2, 1) := by decide +kernel
theorem dX11_let_10 : decode cX11_let 10 = .ok (.iload_n 1, 1) := by decide +kernel
theorem dX11_let_11 : decode cX11_let 11 = .ok (.i2l, 1) := by decide +kernel
theorem dX11_let_12 : decode cX11_let 12 = .ok (.lconst 0, 1) := by decide +kernel
theorem dX11_let_13 : decode cX11_let 13 = .ok (.lconst 1, 1) := by decide +kernel
