theorem dX11_reckonAll_37 : decode cX11_reckonAll 37 = .ok (.goto 20, 3) := by decide +kernel
theorem dX11_reckonAll_40 : decode cX11_reckonAll 40 = .ok (.aload_n 0, 1) := by decide +kernel
theorem dX11_reckonAll_41 : decode cX11_reckonAll 41 = .ok (.getfield 13, 3) := by decide +kernel
theorem dX11_reckonAll_44 : decode cX11_reckonAll 44 = .ok (.aload_n 0, 1) := by decide +kernel
theorem dX11_reckonAll_45 : decode cX11_reckonAll 45 = .ok (.getfield 403, 3) := by decide +kernel
theorem dX11_reckonAll_48 : decode cX11_reckonAll 48 = .ok (.bipush 98, 2) := by decide +kernel
theorem dX11_reckonAll_50 : decode cX11_reckonAll 50 = .ok (.iadd, 1) := by decide +kernel
theorem dX11_reckonAll_51 : decode cX11_reckonAll 51 = .ok (.iconst 2, 1) := by decide +kernel
theorem dX11_reckonAll_52 : decode cX11_reckonAll 52 = .ok (.iload 4, 2) := by decide +kernel
theorem dX11_reckonAll_54 : decode cX11_reckonAll 54 = .ok (.imul, 1) := by decide +kernel
theorem dX11_reckonAll_55 : decode cX11_reckonAll 55 = .ok (.iadd, 1) := by decide +kernel
theorem dX11_reckonAll_56 : decode cX11_reckonAll 56 = .ok (.iaload, 1) := by decide +kernel
theorem dX11_reckonAll_57 : decode cX11_reckonAll 57 = .ok (.istore 5, 2) := by decide +kernel
theorem dX11_reckonAll_59 : decode cX11_reckonAll 59 = .ok (.aload_n 0, 1) := by decide +kernel
theorem dX11_reckonAll_60 : decode cX11_reckonAll 60 = .ok (.getfield 326, 3) := by decide +kernel
theorem dX11_reckonAll_63 : decode cX11_reckonAll 63 = .ok (.ifCond .eq 13, 3) := by decide +kernel
theorem dX11_reckonAll_66 : decode cX11_reckonAll 66 = .ok (.aload_n 0, 1) := by decide +kernel
theorem dX11_reckonAll_67 : decode cX11_reckonAll 67 = .ok (.getfield 48, 3) := by decide +kernel
theorem dX11_reckonAll_70 : decode cX11_reckonAll 70 = .ok (.iload 4, 2) := by decide +kernel
theorem dX11_reckonAll_72 : decode cX11_reckonAll 72 = .ok (.iaload, 1) := by decide +kernel
theorem dX11_reckonAll_73 : decode cX11_reckonAll 73 = .ok (.goto 22, 3) := by decide +kernel
theorem dX11_reckonAll_76 : decode cX11_reckonAll 76 = .ok (.aload_n 0, 1) := by decide +kernel
theorem dX11_reckonAll_77 : decode cX11_reckonAll 77 = .ok (.getfield 13, 3) := by decide +kernel
theorem dX11_reckonAll_80 : decode cX11_reckonAll 80 = .ok (.aload_n 0, 1) := by decide +kernel
theorem dX11_reckonAll_81 : decode cX11_reckonAll 81 = .ok (.getfield 403, 3) := by decide +kernel
theorem dX11_reckonAll_84 : decode cX11_reckonAll 84 = .ok (.bipush 98, 2) := by decide +kernel
theorem dX11_reckonAll_86 : decode cX11_reckonAll 86 = .ok (.iadd, 1) := by decide +kernel
theorem dX11_reckonAll_87 : decode cX11_reckonAll 87 = .ok (.iconst 2, 1) := by decide +kernel
theorem dX11_reckonAll_88 : decode cX11_reckonAll 88 = .ok (.iload 4, 2) := by decide +kernel
theorem dX11_reckonAll_90 : decode cX11_reckonAll 90 = .ok (.imul, 1) := by decide +kernel
theorem dX11_reckonAll_91 : decode cX11_reckonAll 91 = .ok (.iadd, 1) := by decide +kernel
theorem dX11_reckonAll_92 : decode cX11_reckonAll 92 = .ok (.iconst 1, 1) := by decide +kernel
theorem dX11_reckonAll_93 : decode cX11_reckonAll 93 = .ok (.iadd, 1) := by decide +kernel
theorem dX11_reckonAll_94 : decode cX11_reckonAll 94 = .ok (.iaload, 1) := by decide +kernel
theorem dX11_reckonAll_95 : decode cX11_reckonAll 95 = .ok (.istore 6, 2) := by decide +kernel
theorem dX11_reckonAll_97 : decode cX11_reckonAll 97 = .ok (.iinc 4 1, 3) := by decide +kernel
theorem dX11_reckonAll_100 : decode cX11_reckonAll 100 = .ok (.iload 5, 2) := by decide +kernel
theorem dX11_reckonAll_102 : decode cX11_reckonAll 102 = .ok (.bipush 20, 2) := by decide +kernel
theorem dX11_reckonAll_104 : decode cX11_reckonAll 104 = .ok (.if_icmp .ge 105, 3) := by decide +kernel
theorem dX11_reckonAll_107 : decode cX11_reckonAll 107 = .ok (.aload_n 0, 1) := by decide +kernel
theorem dX11_reckonAll_108 : decode cX11_reckonAll 108 = .ok (.getfield 109, 3) := by decide +kernel
theorem dX11_reckonAll_111 : decode cX11_reckonAll 111 = .ok (.iload_n 3, 1) := by decide +kernel
theorem dX11_reckonAll_112 : decode cX11_reckonAll 112 = .ok (.iload 5, 2) := by decide +kernel
theorem dX11_reckonAll_114 : decode cX11_reckonAll 114 = .ok (.ifCond .ne 9, 3) := by decide +kernel
theorem dX11_reckonAll_117 : decode cX11_reckonAll 117 = .ok (.iload 6, 2) := by decide +kernel
theorem dX11_reckonAll_119 : decode cX11_reckonAll 119 = .ok (.i2l, 1) := by decide +kernel
theorem dX11_reckonAll_120 : decode cX11_reckonAll 120 = .ok (.goto 82, 3) := by decide +kernel
theorem dX11_reckonAll_123 : decode cX11_reckonAll 123 = .ok (.aload_n 0, 1) := by decide +kernel
theorem dX11_reckonAll_124 : decode cX11_reckonAll 124 = .ok (.getfield 326, 3) := by decide +kernel
theorem dX11_reckonAll_127 : decode cX11_reckonAll 127 = .ok (.ifCond .ne 13, 3) := by decide +kernel
theorem dX11_reckonAll_130 : decode cX11_reckonAll 130 = .ok (.aload_n 0, 1) := by decide +kernel
theorem dX11_reckonAll_131 : decode cX11_reckonAll 131 = .ok (.getfield 103, 3) := by decide +kernel
theorem dX11_reckonAll_134 : decode cX11_reckonAll 134 = .ok (.iload 5, 2) := by decide +kernel
theorem dX11_reckonAll_136 : decode cX11_reckonAll 136 = .ok (.laload, 1) := by decide +kernel
theorem dX11_reckonAll_137 : decode cX11_reckonAll 137 = .ok (.goto 65, 3) := by decide +kernel
theorem dX11_reckonAll_140 : decode cX11_reckonAll 140 = .ok (.iload 5, 2) := by decide +kernel
theorem dX11_reckonAll_142 : decode cX11_reckonAll 142 = .ok (.iconst 5, 1) := by decide +kernel
theorem dX11_reckonAll_143 : decode cX11_reckonAll 143 = .ok (.if_icmp .ge 13, 3) := by decide +kernel
theorem dX11_reckonAll_146 : decode cX11_reckonAll 146 = .ok (.aload_n 0, 1) := by decide +kernel
theorem dX11_reckonAll_147 : decode cX11_reckonAll 147 = .ok (.getfield 106, 3) := by decide +kernel
theorem dX11_reckonAll_150 : decode cX11_reckonAll 150 = .ok (.iload 5, 2) := by decide +kernel
theorem dX11_reckonAll_152 : decode cX11_reckonAll 152 = .ok (.laload, 1) := by decide +kernel
theorem dX11_reckonAll_153 : decode cX11_reckonAll 153 = .ok (.goto 49, 3) := by decide +kernel
theorem dX11_reckonAll_156 : decode cX11_reckonAll 156 = .ok (.aload_n 0, 1) := by decide +kernel
theorem dX11_reckonAll_157 : decode cX11_reckonAll 157 = .ok (.iload 6, 2) := by decide +kernel
theorem dX11_reckonAll_159 : decode cX11_reckonAll 159 = .ok (.invokevirtual 197, 3) := by decide +kernel
theorem dX11_reckonAll_162 : decode cX11_reckonAll 162 = .ok (.ifCond .ne 9, 3) := by decide +kernel
theorem dX11_reckonAll_165 : decode cX11_reckonAll 165 = .ok (.ldc2_w 278, 3) := by decide +kernel
theorem dX11_reckonAll_168 : decode cX11_reckonAll 168 = .ok (.goto 34, 3) := by decide +kernel
theorem dX11_reckonAll_171 : decode cX11_reckonAll 171 = .ok (.iload 5, 2) := by decide +kernel
theorem dX11_reckonAll_173 : decode cX11_reckonAll 173 = .ok (.iconst 5, 1) := by decide +kernel
theorem dX11_reckonAll_174 : decode cX11_reckonAll 174 = .ok (.if_icmp .ne 17, 3) := by decide +kernel
theorem dX11_reckonAll_177 : decode cX11_reckonAll 177 = .ok (.aload_n 0, 1) := by decide +kernel
theorem dX11_reckonAll_178 : decode cX11_reckonAll 178 = .ok (.getfield 13, 3) := by decide +kernel
theorem dX11_reckonAll_181 : decode cX11_reckonAll 181 = .ok (.bipush 15, 2) := by decide +kernel
theorem dX11_reckonAll_183 : decode cX11_reckonAll 183 = .ok (.iload 6, 2) := by decide +kernel
theorem dX11_reckonAll_185 : decode cX11_reckonAll 185 = .ok (.iadd, 1) := by decide +kernel
theorem dX11_reckonAll_186 : decode cX11_reckonAll 186 = .ok (.iaload, 1) := by decide +kernel
theorem dX11_reckonAll_187 : decode cX11_reckonAll 187 = .ok (.i2l, 1) := by decide +kernel
theorem dX11_reckonAll_188 : decode cX11_reckonAll 188 = .ok (.goto 14, 3) := by decide +kernel
theorem dX11_reckonAll_191 : decode cX11_reckonAll 191 = .ok (.aload_n 0, 1) := by decide +kernel
theorem dX11_reckonAll_192 : decode cX11_reckonAll 192 = .ok (.getfield 13, 3) := by decide +kernel
theorem dX11_reckonAll_195 : decode cX11_reckonAll 195 = .ok (.bipush 9, 2) := by decide +kernel
theorem dX11_reckonAll_197 : decode cX11_reckonAll 197 = .ok (.iload 6, 2) := by decide +kernel
theorem dX11_reckonAll_199 : decode cX11_reckonAll 199 = .ok (.iadd, 1) := by decide +kernel
theorem dX11_reckonAll_200 : decode cX11_reckonAll 200 = .ok (.iaload, 1) := by decide +kernel
theorem dX11_reckonAll_201 : decode cX11_reckonAll 201 = .ok (.i2l, 1) := by decide +kernel
theorem dX11_reckonAll_202 : decode cX11_reckonAll 202 = .ok (.lastore, 1) := by decide +kernel
theorem dX11_reckonAll_203 : decode cX11_reckonAll 203 = .ok (.iinc 3 1, 3) := by decide +kernel
theorem dX11_reckonAll_206 : decode cX11_reckonAll 206 = .ok (.goto 142, 3) := by decide +kernel
theorem dX11_reckonAll_209 : decode cX11_reckonAll 209 = .ok (.iload 5, 2) := by decide +kernel
theorem dX11_reckonAll_211 : decode cX11_reckonAll 211 = .ok (.bipush 28, 2) := by decide +kernel
theorem dX11_reckonAll_213 : decode cX11_reckonAll 213 = .ok (.if_icmp .ge 73, 3) := by decide +kernel
theorem dX11_reckonAll_216 : decode cX11_reckonAll 216 = .ok (.iinc 3 (-1), 3) := by decide +kernel
theorem dX11_reckonAll_219 : decode cX11_reckonAll 219 = .ok (.aload_n 0, 1) := by decide +kernel
theorem dX11_reckonAll_220 : decode cX11_reckonAll 220 = .ok (.getfield 109, 3) := by decide +kernel
theorem dX11_reckonAll_223 : decode cX11_reckonAll 223 = .ok (.iload_n 3, 1) := by decide +kernel
theorem dX11_reckonAll_224 : decode cX11_reckonAll 224 = .ok (.iconst 1, 1) := by decide +kernel
theorem dX11_reckonAll_225 : decode cX11_reckonAll 225 = .ok (.isub, 1) := by decide +kernel
theorem dX11_reckonAll_226 : decode cX11_reckonAll 226 = .ok (.aload_n 0, 1) := by decide +kernel
theorem dX11_reckonAll_227 : decode cX11_reckonAll 227 = .ok (.iload 5, 2) := by decide +kernel
theorem dX11_reckonAll_229 : decode cX11_reckonAll 229 = .ok (.aload_n 0, 1) := by decide +kernel
theorem dX11_reckonAll_230 : decode cX11_reckonAll 230 = .ok (.getfield 109, 3) := by decide +kernel
theorem dX11_reckonAll_233 : decode cX11_reckonAll 233 = .ok (.iload_n 3, 1) := by decide +kernel
theorem dX11_reckonAll_234 : decode cX11_reckonAll 234 = .ok (.iconst 1, 1) := by decide +kernel
theorem dX11_reckonAll_235 : decode cX11_reckonAll 235 = .ok (.isub, 1) := by decide +kernel
theorem dX11_reckonAll_236 : decode cX11_reckonAll 236 = .ok (.laload, 1) := by decide +kernel
theorem dX11_reckonAll_237 : decode cX11_reckonAll 237 = .ok (.aload_n 0, 1) := by decide +kernel
theorem dX11_reckonAll_238 : decode cX11_reckonAll 238 = .ok (.getfield 109, 3) := by decide +kernel
theorem dX11_reckonAll_241 : decode cX11_reckonAll 241 = .ok (.iload_n 3, 1) := by decide +kernel
theorem dX11_reckonAll_242 : decode cX11_reckonAll 242 = .ok (.laload, 1) := by decide +kernel
theorem dX11_reckonAll_243 : decode cX11_reckonAll 243 = .ok (.invokevirtual 406, 3) := by decide +kernel
theorem dX11_reckonAll_246 : decode cX11_reckonAll 246 = .ok (.lastore, 1) := by decide +kernel
theorem dX11_reckonAll_247 : decode cX11_reckonAll 247 = .ok (.aload_n 0, 1) := by decide +kernel
theorem dX11_reckonAll_248 : decode cX11_reckonAll 248 = .ok (.aload_n 0, 1) := by decide +kernel
theorem dX11_reckonAll_249 : decode cX11_reckonAll 249 = .ok (.getfield 400, 3) := by decide +kernel
theorem dX11_reckonAll_252 : decode cX11_reckonAll 252 = .ok (.ifCond .ne 23, 3) := by decide +kernel
theorem dX11_reckonAll_255 : decode cX11_reckonAll 255 = .ok (.aload_n 0, 1) := by decide +kernel
theorem dX11_reckonAll_256 : decode cX11_reckonAll 256 = .ok (.getfield 109, 3) := by decide +kernel
theorem dX11_reckonAll_259 : decode cX11_reckonAll 259 = .ok (.iload_n 3, 1) := by decide +kernel
theorem dX11_reckonAll_260 : decode cX11_reckonAll 260 = .ok (.iconst 1, 1) := by decide +kernel
theorem dX11_reckonAll_261 : decode cX11_reckonAll 261 = .ok (.isub, 1) := by decide +kernel
theorem dX11_reckonAll_262 : decode cX11_reckonAll 262 = .ok (.laload, 1) := by decide +kernel
theorem dX11_reckonAll_263 : decode cX11_reckonAll 263 = .ok (.ldc2_w 410, 3) := by decide +kernel
theorem dX11_reckonAll_266 : decode cX11_reckonAll 266 = .ok (.ldc2_w 412, 3) := by decide +kernel
theorem dX11_reckonAll_269 : decode cX11_reckonAll 269 = .ok (.invokestatic 173, 3) := by decide +kernel
theorem dX11_reckonAll_272 : decode cX11_reckonAll 272 = .ok (.ifCond .ne 7, 3) := by decide +kernel
theorem dX11_reckonAll_275 : decode cX11_reckonAll 275 = .ok (.iconst 1, 1) := by decide +kernel
theorem dX11_reckonAll_276 : decode cX11_reckonAll 276 = .ok (.goto 4, 3) := by decide +kernel
theorem dX11_reckonAll_279 : decode cX11_reckonAll 279 = .ok (.iconst 0, 1) := by decide +kernel
theorem dX11_reckonAll_280 : decode cX11_reckonAll 280 = .ok (.putfield 400, 3) := by decide +kernel
theorem dX11_reckonAll_283 : decode cX11_reckonAll 283 = .ok (.goto 65, 3) := by decide +kernel
theorem dX11_reckonAll_286 : decode cX11_reckonAll 286 = .ok (.iload 5, 2) := by decide +kernel
theorem dX11_reckonAll_288 : decode cX11_reckonAll 288 = .ok (.bipush 28, 2) := by decide +kernel
theorem dX11_reckonAll_290 : decode cX11_reckonAll 290 = .ok (.if_icmp .ne 24, 3) := by decide +kernel
theorem dX11_reckonAll_293 : decode cX11_reckonAll 293 = .ok (.aload_n 0, 1) := by decide +kernel
theorem dX11_reckonAll_294 : decode cX11_reckonAll 294 = .ok (.getfield 109, 3) := by decide +kernel
theorem dX11_reckonAll_297 : decode cX11_reckonAll 297 = .ok (.iload_n 3, 1) := by decide +kernel
theorem dX11_reckonAll_298 : decode cX11_reckonAll 298 = .ok (.iconst 1, 1) := by decide +kernel
theorem dX11_reckonAll_299 : decode cX11_reckonAll 299 = .ok (.isub, 1) := by decide +kernel
theorem dX11_reckonAll_300 : decode cX11_reckonAll 300 = .ok (.lconst 1, 1) := by decide +kernel
theorem dX11_reckonAll_301 : decode cX11_reckonAll 301 = .ok (.aload_n 0, 1) := by decide +kernel
theorem dX11_reckonAll_302 : decode cX11_reckonAll 302 = .ok (.getfield 109, 3) := by decide +kernel
theorem dX11_reckonAll_305 : decode cX11_reckonAll 305 = .ok (.iload_n 3, 1) := by decide +kernel
theorem dX11_reckonAll_306 : decode cX11_reckonAll 306 = .ok (.iconst 1, 1) := by decide +kernel
theorem dX11_reckonAll_307 : decode cX11_reckonAll 307 = .ok (.isub, 1) := by decide +kernel
theorem dX11_reckonAll_308 : decode cX11_reckonAll 308 = .ok (.laload, 1) := by decide +kernel
theorem dX11_reckonAll_309 : decode cX11_reckonAll 309 = .ok (.lsub, 1) := by decide +kernel
theorem dX11_reckonAll_310 : decode cX11_reckonAll 310 = .ok (.lastore, 1) := by decide +kernel
theorem dX11_reckonAll_311 : decode cX11_reckonAll 311 = .ok (.goto 37, 3) := by decide +kernel
theorem dX11_reckonAll_314 : decode cX11_reckonAll 314 = .ok (.aload_n 0, 1) := by decide +kernel
theorem dX11_reckonAll_315 : decode cX11_reckonAll 315 = .ok (.getfield 109, 3) := by decide +kernel
theorem dX11_reckonAll_318 : decode cX11_reckonAll 318 = .ok (.iload_n 3, 1) := by decide +kernel
theorem dX11_reckonAll_319 : decode cX11_reckonAll 319 = .ok (.iconst 1, 1) := by decide +kernel
theorem dX11_reckonAll_320 : decode cX11_reckonAll 320 = .ok (.isub, 1) := by decide +kernel
theorem dX11_reckonAll_321 : decode cX11_reckonAll 321 = .ok (.laload, 1) := by decide +kernel
theorem dX11_reckonAll_322 : decode cX11_reckonAll 322 = .ok (.iload 5, 2) := by decide +kernel
theorem dX11_reckonAll_324 : decode cX11_reckonAll 324 = .ok (.bipush 29, 2) := by decide +kernel
theorem dX11_reckonAll_326 : decode cX11_reckonAll 326 = .ok (.if_icmp .ne 7, 3) := by decide +kernel
theorem dX11_reckonAll_329 : decode cX11_reckonAll 329 = .ok (.lconst 0, 1) := by decide +kernel
theorem dX11_reckonAll_330 : decode cX11_reckonAll 330 = .ok (.goto 4, 3) := by decide +kernel
theorem dX11_reckonAll_333 : decode cX11_reckonAll 333 = .ok (.lconst 1, 1) := by decide +kernel
theorem dX11_reckonAll_334 : decode cX11_reckonAll 334 = .ok (.lcmp, 1) := by decide +kernel
theorem dX11_reckonAll_335 : decode cX11_reckonAll 335 = .ok (.ifCond .ne 10, 3) := by decide +kernel
theorem dX11_reckonAll_338 : decode cX11_reckonAll 338 = .ok (.iload 6, 2) := by decide +kernel
theorem dX11_reckonAll_340 : decode cX11_reckonAll 340 = .ok (.istore 4, 2) := by decide +kernel
theorem dX11_reckonAll_342 : decode cX11_reckonAll 342 = .ok (.goto 6, 3) := by decide +kernel
theorem dX11_reckonAll_345 : decode cX11_reckonAll 345 = .ok (.iinc 3 (-1), 3) := by decide +kernel
theorem dX11_reckonAll_348 : decode cX11_reckonAll 348 = .ok (.goto (-338), 3) := by decide +kernel
theorem dX11_reckonAll_351 : decode cX11_reckonAll 351 = .ok (.aload_n 0, 1) := by decide +kernel
theorem dX11_reckonAll_352 : decode cX11_reckonAll 352 = .ok (.iload_n 3, 1) := by decide +kernel
theorem dX11_reckonAll_353 : decode cX11_reckonAll 353 = .ok (.ifCond .le 12, 3) := by decide +kernel
theorem dX11_reckonAll_356 : decode cX11_reckonAll 356 = .ok (.aload_n 0, 1) := by decide +kernel
theorem dX11_reckonAll_357 : decode cX11_reckonAll 357 = .ok (.getfield 109, 3) := by decide +kernel
theorem dX11_reckonAll_360 : decode cX11_reckonAll 360 = .ok (.iconst 0, 1) := by decide +kernel
theorem dX11_reckonAll_361 : decode cX11_reckonAll 361 = .ok (.laload, 1) := by decide +kernel
theorem dX11_reckonAll_362 : decode cX11_reckonAll 362 = .ok (.goto 4, 3) := by decide +kernel
theorem dX11_reckonAll_365 : decode cX11_reckonAll 365 = .ok (.lconst 0, 1) := by decide +kernel
theorem dX11_reckonAll_366 : decode cX11_reckonAll 366 = .ok (.putfield 414, 3) := by decide +kernel
theorem dX11_reckonAll_369 : decode cX11_reckonAll 369 = .ok (.return_, 1) := by decide +kernel
theorem dX11_isSo_0 : decode cX11_isSo 0 = .ok (.aload_n 0, 1) := by decide +kernel
theorem dX11_isSo_1 : decode cX11_isSo 1 = .ok (.getfield 13, 3) := by decide +kernel
theorem dX11_isSo_4 : decode cX11_isSo 4 = .ok (.iload_n 1, 1) := by decide +kernel
theorem dX11_isSo_5 : decode cX11_isSo 5 = .ok (.iconst 5, 1) := by decide +kernel
theorem dX11_isSo_6 : decode cX11_isSo 6 = .ok (.iadd, 1) := by decide +kernel
theorem dX11_isSo_7 : decode cX11_isSo 7 = .ok (.iaload, 1) := by decide +kernel
theorem dX11_isSo_8 : decode cX11_isSo 8 = .ok (.aload_n 0, 1) := by decide +kernel
theorem dX11_isSo_9 : decode cX11_isSo 9 = .ok (.getfield 13, 3) := by decide +kernel
theorem dX11_isSo_12 : decode cX11_isSo 12 = .ok (.iload_n 1, 1) := by decide +kernel
theorem dX11_isSo_13 : decode cX11_isSo 13 = .ok (.bipush 6, 2) := by decide +kernel
theorem dX11_isSo_15 : decode cX11_isSo 15 = .ok (.iadd, 1) := by decide +kernel
theorem dX11_isSo_16 : decode cX11_isSo 16 = .ok (.iaload, 1) := by decide +kernel
theorem dX11_isSo_17 : decode cX11_isSo 17 = .ok (.if_icmp .ge 42, 3) := by decide +kernel
theorem dX11_isSo_20 : decode cX11_isSo 20 = .ok (.aload_n 0, 1) := by decide +kernel
theorem dX11_isSo_21 : decode cX11_isSo 21 = .ok (.aload_n 0, 1) := by decide +kernel
theorem dX11_isSo_22 : decode cX11_isSo 22 = .ok (.getfield 13, 3) := by decide +kernel
theorem dX11_isSo_25 : decode cX11_isSo 25 = .ok (.iload_n 1, 1) := by decide +kernel
theorem dX11_isSo_26 : decode cX11_isSo 26 = .ok (.iconst 5, 1) := by decide +kernel
theorem dX11_isSo_27 : decode cX11_isSo 27 = .ok (.iadd, 1) := by decide +kernel
theorem dX11_isSo_28 : decode cX11_isSo 28 = .ok (.iaload, 1) := by decide +kernel
theorem dX11_isSo_29 : decode cX11_isSo 29 = .ok (.aload_n 0, 1) := by decide +kernel
theorem dX11_isSo_30 : decode cX11_isSo 30 = .ok (.getfield 13, 3) := by decide +kernel
theorem dX11_isSo_33 : decode cX11_isSo 33 = .ok (.iload_n 1, 1) := by decide +kernel
theorem dX11_isSo_34 : decode cX11_isSo 34 = .ok (.bipush 6, 2) := by decide +kernel
theorem dX11_isSo_36 : decode cX11_isSo 36 = .ok (.iadd, 1) := by decide +kernel
theorem dX11_isSo_37 : decode cX11_isSo 37 = .ok (.iaload, 1) := by decide +kernel
theorem dX11_isSo_38 : decode cX11_isSo 38 = .ok (.invokevirtual 417, 3) := by decide +kernel
theorem dX11_isSo_41 : decode cX11_isSo 41 = .ok (.aload_n 0, 1) := by decide +kernel
theorem dX11_isSo_42 : decode cX11_isSo 42 = .ok (.getfield 400, 3) := by decide +kernel
theorem dX11_isSo_45 : decode cX11_isSo 45 = .ok (.ifCond .ne 12, 3) := by decide +kernel
theorem dX11_isSo_48 : decode cX11_isSo 48 = .ok (.aload_n 0, 1) := by decide +kernel
theorem dX11_isSo_49 : decode cX11_isSo 49 = .ok (.getfield 414, 3) := by decide +kernel
theorem dX11_isSo_52 : decode cX11_isSo 52 = .ok (.lconst 0, 1) := by decide +kernel
theorem dX11_isSo_53 : decode cX11_isSo 53 = .ok (.lcmp, 1) := by decide +kernel
theorem dX11_isSo_54 : decode cX11_isSo 54 = .ok (.ifCond .ne 5, 3) := by decide +kernel
theorem dX11_isSo_57 : decode cX11_isSo 57 = .ok (.iconst 0, 1) := by decide +kernel
theorem dX11_isSo_58 : decode cX11_isSo 58 = .ok (.ireturn, 1) := by decide +kernel
theorem dX11_isSo_59 : decode cX11_isSo 59 = .ok (.aload_n 0, 1) := by decide +kernel
theorem dX11_isSo_60 : decode cX11_isSo 60 = .ok (.getfield 13, 3) := by decide +kernel
theorem dX11_isSo_63 : decode cX11_isSo 63 = .ok (.iload_n 1, 1) := by decide +kernel
theorem dX11_isSo_64 : decode cX11_isSo 64 = .ok (.iaload, 1) := by decide +kernel
theorem dX11_isSo_65 : decode cX11_isSo 65 = .ok (.iconst 2, 1) := by decide +kernel
theorem dX11_isSo_66 : decode cX11_isSo 66 = .ok (.if_icmp .ge 44, 3) := by decide +kernel
theorem dX11_isSo_69 : decode cX11_isSo 69 = .ok (.aload_n 0, 1) := by decide +kernel
theorem dX11_isSo_70 : decode cX11_isSo 70 = .ok (.aload_n 0, 1) := by decide +kernel
theorem dX11_isSo_71 : decode cX11_isSo 71 = .ok (.getfield 13, 3) := by decide +kernel
theorem dX11_isSo_74 : decode cX11_isSo 74 = .ok (.iload_n 1, 1) := by decide +kernel
theorem dX11_isSo_75 : decode cX11_isSo 75 = .ok (.iconst 3, 1) := by decide +kernel
theorem dX11_isSo_76 : decode cX11_isSo 76 = .ok (.iadd, 1) := by decide +kernel
theorem dX11_isSo_77 : decode cX11_isSo 77 = .ok (.iaload, 1) := by decide +kernel
theorem dX11_isSo_78 : decode cX11_isSo 78 = .ok (.aload_n 0, 1) := by decide +kernel
theorem dX11_isSo_79 : decode cX11_isSo 79 = .ok (.getfield 13, 3) := by decide +kernel
theorem dX11_isSo_82 : decode cX11_isSo 82 = .ok (.iload_n 1, 1) := by decide +kernel
theorem dX11_isSo_83 : decode cX11_isSo 83 = .ok (.iconst 4, 1) := by decide +kernel
theorem dX11_isSo_84 : decode cX11_isSo 84 = .ok (.iadd, 1) := by decide +kernel
theorem dX11_isSo_85 : decode cX11_isSo 85 = .ok (.iaload, 1) := by decide +kernel
theorem dX11_isSo_86 : decode cX11_isSo 86 = .ok (.invokevirtual 417, 3) := by decide +kernel
theorem dX11_isSo_89 : decode cX11_isSo 89 = .ok (.aload_n 0, 1) := by decide +kernel
theorem dX11_isSo_90 : decode cX11_isSo 90 = .ok (.aload_n 0, 1) := by decide +kernel
theorem dX11_isSo_91 : decode cX11_isSo 91 = .ok (.getfield 414, 3) := by decide +kernel
theorem dX11_isSo_94 : decode cX11_isSo 94 = .ok (.putfield 420, 3) := by decide +kernel
theorem dX11_isSo_97 : decode cX11_isSo 97 = .ok (.aload_n 0, 1) := by decide +kernel
theorem dX11_isSo_98 : decode cX11_isSo 98 = .ok (.getfield 400, 3) := by decide +kernel
theorem dX11_isSo_101 : decode cX11_isSo 101 = .ok (.ifCond .ne 7, 3) := by decide +kernel
theorem dX11_isSo_104 : decode cX11_isSo 104 = .ok (.iconst 1, 1) := by decide +kernel
theorem dX11_isSo_105 : decode cX11_isSo 105 = .ok (.goto 4, 3) := by decide +kernel
theorem dX11_isSo_108 : decode cX11_isSo 108 = .ok (.iconst 0, 1) := by decide +kernel
theorem dX11_isSo_109 : decode cX11_isSo 109 = .ok (.ireturn, 1) := by decide +kernel
theorem dX11_isSo_110 : decode cX11_isSo 110 = .ok (.iconst 1, 1) := by decide +kernel
theorem dX11_isSo_111 : decode cX11_isSo 111 = .ok (.ireturn, 1) := by decide +kernel
theorem dX11_tells_0 : decode cX11_tells 0 = .ok (.aload_n 0, 1) := by decide +kernel
theorem dX11_tells_1 : decode cX11_tells 1 = .ok (.getfield 13, 3) := by decide +kernel
theorem dX11_tells_4 : decode cX11_tells 4 = .ok (.iconst 4, 1) := by decide +kernel
theorem dX11_tells_5 : decode cX11_tells 5 = .ok (.iaload, 1) := by decide +kernel
theorem dX11_tells_6 : decode cX11_tells 6 = .ok (.iconst (-1), 1) := by decide +kernel
theorem dX11_tells_7 : decode cX11_tells 7 = .ok (.if_icmp .ne 6, 3) := by decide +kernel
theorem dX11_tells_10 : decode cX11_tells 10 = .ok (.lload 5, 2) := by decide +kernel
theorem dX11_tells_12 : decode cX11_tells 12 = .ok (.lreturn, 1) := by decide +kernel
theorem dX11_tells_13 : decode cX11_tells 13 = .ok (.aload_n 0, 1) := by decide +kernel
theorem dX11_tells_14 : decode cX11_tells 14 = .ok (.bipush 80, 2) := by decide +kernel
theorem dX11_tells_16 : decode cX11_tells 16 = .ok (.sipush 900, 3) := by decide +kernel
theorem dX11_tells_19 : decode cX11_tells 19 = .ok (.aload_n 0, 1) := by decide +kernel
theorem dX11_tells_20 : decode cX11_tells 20 = .ok (.getfield 13, 3) := by decide +kernel
theorem dX11_tells_23 : decode cX11_tells 23 = .ok (.iconst 4, 1) := by decide +kernel
theorem dX11_tells_24 : decode cX11_tells 24 = .ok (.iaload, 1) := by decide +kernel
theorem dX11_tells_25 : decode cX11_tells 25 = .ok (.imul, 1) := by decide +kernel
theorem dX11_tells_26 : decode cX11_tells 26 = .ok (.iadd, 1) := by decide +kernel
theorem dX11_tells_27 : decode cX11_tells 27 = .ok (.putfield 403, 3) := by decide +kernel
theorem dX11_tells_30 : decode cX11_tells 30 = .ok (.aload_n 0, 1) := by decide +kernel
theorem dX11_tells_31 : decode cX11_tells 31 = .ok (.getfield 103, 3) := by decide +kernel
theorem dX11_tells_34 : decode cX11_tells 34 = .ok (.iconst 1, 1) := by decide +kernel
theorem dX11_tells_35 : decode cX11_tells 35 = .ok (.iload_n 2, 1) := by decide +kernel
theorem dX11_tells_36 : decode cX11_tells 36 = .ok (.i2l, 1) := by decide +kernel
theorem dX11_tells_37 : decode cX11_tells 37 = .ok (.lastore, 1) := by decide +kernel
theorem dX11_tells_38 : decode cX11_tells 38 = .ok (.aload_n 0, 1) := by decide +kernel
theorem dX11_tells_39 : decode cX11_tells 39 = .ok (.getfield 103, 3) := by decide +kernel
theorem dX11_tells_42 : decode cX11_tells 42 = .ok (.iconst 2, 1) := by decide +kernel
theorem dX11_tells_43 : decode cX11_tells 43 = .ok (.aload_n 0, 1) := by decide +kernel
theorem dX11_tells_44 : decode cX11_tells 44 = .ok (.getfield 13, 3) := by decide +kernel
theorem dX11_tells_47 : decode cX11_tells 47 = .ok (.bipush 15, 2) := by decide +kernel
theorem dX11_tells_49 : decode cX11_tells 49 = .ok (.iload_n 2, 1) := by decide +kernel
theorem dX11_tells_50 : decode cX11_tells 50 = .ok (.iadd, 1) := by decide +kernel
theorem dX11_tells_51 : decode cX11_tells 51 = .ok (.iaload, 1) := by decide +kernel
theorem dX11_tells_52 : decode cX11_tells 52 = .ok (.i2l, 1) := by decide +kernel
theorem dX11_tells_53 : decode cX11_tells 53 = .ok (.lastore, 1) := by decide +kernel
theorem dX11_tells_54 : decode cX11_tells 54 = .ok (.aload_n 0, 1) := by decide +kernel
theorem dX11_tells_55 : decode cX11_tells 55 = .ok (.getfield 103, 3) := by decide +kernel
theorem dX11_tells_58 : decode cX11_tells 58 = .ok (.iconst 3, 1) := by decide +kernel
theorem dX11_tells_59 : decode cX11_tells 59 = .ok (.aload_n 0, 1) := by decide +kernel
theorem dX11_tells_60 : decode cX11_tells 60 = .ok (.getfield 13, 3) := by decide +kernel
theorem dX11_tells_63 : decode cX11_tells 63 = .ok (.bipush 51, 2) := by decide +kernel
theorem dX11_tells_65 : decode cX11_tells 65 = .ok (.iload_n 2, 1) := by decide +kernel
theorem dX11_tells_66 : decode cX11_tells 66 = .ok (.iadd, 1) := by decide +kernel
theorem dX11_tells_67 : decode cX11_tells 67 = .ok (.iaload, 1) := by decide +kernel
theorem dX11_tells_68 : decode cX11_tells 68 = .ok (.i2l, 1) := by decide +kernel
theorem dX11_tells_69 : decode cX11_tells 69 = .ok (.lastore, 1) := by decide +kernel
theorem dX11_tells_70 : decode cX11_tells 70 = .ok (.aload_n 0, 1) := by decide +kernel
theorem dX11_tells_71 : decode cX11_tells 71 = .ok (.getfield 103, 3) := by decide +kernel
theorem dX11_tells_74 : decode cX11_tells 74 = .ok (.iconst 4, 1) := by decide +kernel
theorem dX11_tells_75 : decode cX11_tells 75 = .ok (.iload_n 3, 1) := by decide +kernel
theorem dX11_tells_76 : decode cX11_tells 76 = .ok (.iconst 5, 1) := by decide +kernel
theorem dX11_tells_77 : decode cX11_tells 77 = .ok (.irem, 1) := by decide +kernel
theorem dX11_tells_78 : decode cX11_tells 78 = .ok (.i2l, 1) := by decide +kernel
theorem dX11_tells_79 : decode cX11_tells 79 = .ok (.lastore, 1) := by decide +kernel
theorem dX11_tells_80 : decode cX11_tells 80 = .ok (.aload_n 0, 1) := by decide +kernel
theorem dX11_tells_81 : decode cX11_tells 81 = .ok (.getfield 103, 3) := by decide +kernel
theorem dX11_tells_84 : decode cX11_tells 84 = .ok (.iconst 5, 1) := by decide +kernel
theorem dX11_tells_85 : decode cX11_tells 85 = .ok (.iload_n 3, 1) := by decide +kernel
theorem dX11_tells_86 : decode cX11_tells 86 = .ok (.iconst 5, 1) := by decide +kernel
theorem dX11_tells_87 : decode cX11_tells 87 = .ok (.idiv, 1) := by decide +kernel
theorem dX11_tells_88 : decode cX11_tells 88 = .ok (.i2l, 1) := by decide +kernel
theorem dX11_tells_89 : decode cX11_tells 89 = .ok (.lastore, 1) := by decide +kernel
theorem dX11_tells_90 : decode cX11_tells 90 = .ok (.aload_n 0, 1) := by decide +kernel
theorem dX11_tells_91 : decode cX11_tells 91 = .ok (.getfield 103, 3) := by decide +kernel
theorem dX11_tells_94 : decode cX11_tells 94 = .ok (.bipush 6, 2) := by decide +kernel
theorem dX11_tells_96 : decode cX11_tells 96 = .ok (.aload_n 0, 1) := by decide +kernel
theorem dX11_tells_97 : decode cX11_tells 97 = .ok (.getfield 13, 3) := by decide +kernel
theorem dX11_tells_100 : decode cX11_tells 100 = .ok (.bipush 26, 2) := by decide +kernel
theorem dX11_tells_102 : decode cX11_tells 102 = .ok (.iload_n 3, 1) := by decide +kernel
theorem dX11_tells_103 : decode cX11_tells 103 = .ok (.iadd, 1) := by decide +kernel
theorem dX11_tells_104 : decode cX11_tells 104 = .ok (.iaload, 1) := by decide +kernel
theorem dX11_tells_105 : decode cX11_tells 105 = .ok (.i2l, 1) := by decide +kernel
theorem dX11_tells_106 : decode cX11_tells 106 = .ok (.lastore, 1) := by decide +kernel
theorem dX11_tells_107 : decode cX11_tells 107 = .ok (.aload_n 0, 1) := by decide +kernel
theorem dX11_tells_108 : decode cX11_tells 108 = .ok (.getfield 103, 3) := by decide +kernel
theorem dX11_tells_111 : decode cX11_tells 111 = .ok (.bipush 7, 2) := by decide +kernel
theorem dX11_tells_113 : decode cX11_tells 113 = .ok (.iload_n 3, 1) := by decide +kernel
theorem dX11_tells_114 : decode cX11_tells 114 = .ok (.aload_n 0, 1) := by decide +kernel
theorem dX11_tells_115 : decode cX11_tells 115 = .ok (.getfield 13, 3) := by decide +kernel
theorem dX11_tells_118 : decode cX11_tells 118 = .ok (.bipush 8, 2) := by decide +kernel
theorem dX11_tells_120 : decode cX11_tells 120 = .ok (.iaload, 1) := by decide +kernel
theorem dX11_tells_121 : decode cX11_tells 121 = .ok (.invokestatic 220, 3) := by decide +kernel
theorem dX11_tells_124 : decode cX11_tells 124 = .ok (.i2l, 1) := by decide +kernel
theorem dX11_tells_125 : decode cX11_tells 125 = .ok (.lastore, 1) := by decide +kernel
theorem dX11_tells_126 : decode cX11_tells 126 = .ok (.aload_n 0, 1) := by decide +kernel
theorem dX11_tells_127 : decode cX11_tells 127 = .ok (.getfield 103, 3) := by decide +kernel
theorem dX11_tells_130 : decode cX11_tells 130 = .ok (.bipush 8, 2) := by decide +kernel
theorem dX11_tells_132 : decode cX11_tells 132 = .ok (.iload 4, 2) := by decide +kernel
theorem dX11_tells_134 : decode cX11_tells 134 = .ok (.i2l, 1) := by decide +kernel
theorem dX11_tells_135 : decode cX11_tells 135 = .ok (.lastore, 1) := by decide +kernel
theorem dX11_tells_136 : decode cX11_tells 136 = .ok (.aload_n 0, 1) := by decide +kernel
theorem dX11_tells_137 : decode cX11_tells 137 = .ok (.getfield 103, 3) := by decide +kernel
theorem dX11_tells_140 : decode cX11_tells 140 = .ok (.bipush 9, 2) := by decide +kernel
theorem dX11_tells_142 : decode cX11_tells 142 = .ok (.aload_n 0, 1) := by decide +kernel
theorem dX11_tells_143 : decode cX11_tells 143 = .ok (.getfield 13, 3) := by decide +kernel
theorem dX11_tells_146 : decode cX11_tells 146 = .ok (.iconst 5, 1) := by decide +kernel
theorem dX11_tells_147 : decode cX11_tells 147 = .ok (.iaload, 1) := by decide +kernel
theorem dX11_tells_148 : decode cX11_tells 148 = .ok (.i2l, 1) := by decide +kernel
theorem dX11_tells_149 : decode cX11_tells 149 = .ok (.lastore, 1) := by decide +kernel
theorem dX11_tells_150 : decode cX11_tells 150 = .ok (.aload_n 0, 1) := by decide +kernel
theorem dX11_tells_151 : decode cX11_tells 151 = .ok (.getfield 103, 3) := by decide +kernel
theorem dX11_tells_154 : decode cX11_tells 154 = .ok (.bipush 10, 2) := by decide +kernel
theorem dX11_tells_156 : decode cX11_tells 156 = .ok (.aload_n 0, 1) := by decide +kernel
theorem dX11_tells_157 : decode cX11_tells 157 = .ok (.getfield 13, 3) := by decide +kernel
theorem dX11_tells_160 : decode cX11_tells 160 = .ok (.bipush 7, 2) := by decide +kernel
theorem dX11_tells_162 : decode cX11_tells 162 = .ok (.iaload, 1) := by decide +kernel
theorem dX11_tells_163 : decode cX11_tells 163 = .ok (.i2l, 1) := by decide +kernel
theorem dX11_tells_164 : decode cX11_tells 164 = .ok (.lastore, 1) := by decide +kernel
theorem dX11_tells_165 : decode cX11_tells 165 = .ok (.lload 5, 2) := by decide +kernel
theorem dX11_tells_167 : decode cX11_tells 167 = .ok (.lstore 7, 2) := by decide +kernel
theorem dX11_tells_169 : decode cX11_tells 169 = .ok (.iconst 0, 1) := by decide +kernel
theorem dX11_tells_170 : decode cX11_tells 170 = .ok (.istore 9, 2) := by decide +kernel
theorem dX11_tells_172 : decode cX11_tells 172 = .ok (.iload 9, 2) := by decide +kernel
theorem dX11_tells_174 : decode cX11_tells 174 = .ok (.aload_n 0, 1) := by decide +kernel
theorem dX11_tells_175 : decode cX11_tells 175 = .ok (.getfield 13, 3) := by decide +kernel
theorem dX11_tells_178 : decode cX11_tells 178 = .ok (.aload_n 0, 1) := by decide +kernel
theorem dX11_tells_179 : decode cX11_tells 179 = .ok (.getfield 403, 3) := by decide +kernel
theorem dX11_tells_182 : decode cX11_tells 182 = .ok (.iconst 1, 1) := by decide +kernel
theorem dX11_tells_183 : decode cX11_tells 183 = .ok (.iadd, 1) := by decide +kernel
theorem dX11_tells_184 : decode cX11_tells 184 = .ok (.iaload, 1) := by decide +kernel
theorem dX11_tells_185 : decode cX11_tells 185 = .ok (.if_icmp .ge 58, 3) := by decide +kernel
theorem dX11_tells_188 : decode cX11_tells 188 = .ok (.aload_n 0, 1) := by decide +kernel
theorem dX11_tells_189 : decode cX11_tells 189 = .ok (.getfield 403, 3) := by decide +kernel
theorem dX11_tells_192 : decode cX11_tells 192 = .ok (.iconst 2, 1) := by decide +kernel
theorem dX11_tells_193 : decode cX11_tells 193 = .ok (.iadd, 1) := by decide +kernel
theorem dX11_tells_194 : decode cX11_tells 194 = .ok (.bipush 8, 2) := by decide +kernel
theorem dX11_tells_196 : decode cX11_tells 196 = .ok (.iload 9, 2) := by decide +kernel
theorem dX11_tells_198 : decode cX11_tells 198 = .ok (.imul, 1) := by decide +kernel
theorem dX11_tells_199 : decode cX11_tells 199 = .ok (.iadd, 1) := by decide +kernel
theorem dX11_tells_200 : decode cX11_tells 200 = .ok (.istore 10, 2) := by decide +kernel
theorem dX11_tells_202 : decode cX11_tells 202 = .ok (.aload_n 0, 1) := by decide +kernel
theorem dX11_tells_203 : decode cX11_tells 203 = .ok (.getfield 13, 3) := by decide +kernel
theorem dX11_tells_206 : decode cX11_tells 206 = .ok (.iload 10, 2) := by decide +kernel
theorem dX11_tells_208 : decode cX11_tells 208 = .ok (.iaload, 1) := by decide +kernel
theorem dX11_tells_209 : decode cX11_tells 209 = .ok (.iload_n 1, 1) := by decide +kernel
theorem dX11_tells_210 : decode cX11_tells 210 = .ok (.if_icmp .ne 27, 3) := by decide +kernel
theorem dX11_tells_213 : decode cX11_tells 213 = .ok (.aload_n 0, 1) := by decide +kernel
theorem dX11_tells_214 : decode cX11_tells 214 = .ok (.iload 10, 2) := by decide +kernel
theorem dX11_tells_216 : decode cX11_tells 216 = .ok (.invokevirtual 423, 3) := by decide +kernel
theorem dX11_tells_219 : decode cX11_tells 219 = .ok (.ifCond .eq 18, 3) := by decide +kernel
theorem dX11_tells_222 : decode cX11_tells 222 = .ok (.iload_n 1, 1) := by decide +kernel
theorem dX11_tells_223 : decode cX11_tells 223 = .ok (.iconst 2, 1) := by decide +kernel
theorem dX11_tells_224 : decode cX11_tells 224 = .ok (.if_icmp .ge 10, 3) := by decide +kernel
theorem dX11_tells_227 : decode cX11_tells 227 = .ok (.aload_n 0, 1) := by decide +kernel
theorem dX11_tells_228 : decode cX11_tells 228 = .ok (.getfield 420, 3) := by decide +kernel
theorem dX11_tells_231 : decode cX11_tells 231 = .ok (.goto 4, 3) := by decide +kernel
theorem dX11_tells_234 : decode cX11_tells 234 = .ok (.lconst 1, 1) := by decide +kernel
theorem dX11_tells_235 : decode cX11_tells 235 = .ok (.lstore 7, 2) := by decide +kernel
theorem dX11_tells_237 : decode cX11_tells 237 = .ok (.iinc 9 1, 3) := by decide +kernel
theorem dX11_tells_240 : decode cX11_tells 240 = .ok (.goto (-68), 3) := by decide +kernel
theorem dX11_tells_243 : decode cX11_tells 243 = .ok (.lload 7, 2) := by decide +kernel
theorem dX11_tells_245 : decode cX11_tells 245 = .ok (.lreturn, 1) := by decide +kernel
theorem dX11_goesOf_0 : decode cX11_goesOf 0 = .ok (.aload_n 0, 1) := by decide +kernel
theorem dX11_goesOf_1 : decode cX11_goesOf 1 = .ok (.iconst 0, 1) := by decide +kernel
theorem dX11_goesOf_2 : decode cX11_goesOf 2 = .ok (.iload_n 1, 1) := by decide +kernel
theorem dX11_goesOf_3 : decode cX11_goesOf 3 = .ok (.aload_n 0, 1) := by decide +kernel
theorem dX11_goesOf_4 : decode cX11_goesOf 4 = .ok (.getfield 13, 3) := by decide +kernel
theorem dX11_goesOf_7 : decode cX11_goesOf 7 = .ok (.bipush 9, 2) := by decide +kernel
theorem dX11_goesOf_9 : decode cX11_goesOf 9 = .ok (.iload_n 1, 1) := by decide +kernel
theorem dX11_goesOf_10 : decode cX11_goesOf 10 = .ok (.iadd, 1) := by decide +kernel
theorem dX11_goesOf_11 : decode cX11_goesOf 11 = .ok (.iaload, 1) := by decide +kernel
theorem dX11_goesOf_12 : decode cX11_goesOf 12 = .ok (.iconst (-1), 1) := by decide +kernel
theorem dX11_goesOf_13 : decode cX11_goesOf 13 = .ok (.iload_n 1, 1) := by decide +kernel
theorem dX11_goesOf_14 : decode cX11_goesOf 14 = .ok (.aload_n 0, 1) := by decide +kernel
theorem dX11_goesOf_15 : decode cX11_goesOf 15 = .ok (.getfield 13, 3) := by decide +kernel
theorem dX11_goesOf_18 : decode cX11_goesOf 18 = .ok (.iconst 5, 1) := by decide +kernel
theorem dX11_goesOf_19 : decode cX11_goesOf 19 = .ok (.iaload, 1) := by decide +kernel
theorem dX11_goesOf_20 : decode cX11_goesOf 20 = .ok (.iadd, 1) := by decide +kernel
theorem dX11_goesOf_21 : decode cX11_goesOf 21 = .ok (.iconst 5, 1) := by decide +kernel
theorem dX11_goesOf_22 : decode cX11_goesOf 22 = .ok (.irem, 1) := by decide +kernel
theorem dX11_goesOf_23 : decode cX11_goesOf 23 = .ok (.i2l, 1) := by decide +kernel
theorem dX11_goesOf_24 : decode cX11_goesOf 24 = .ok (.invokevirtual 426, 3) := by decide +kernel
theorem dX11_goesOf_27 : decode cX11_goesOf 27 = .ok (.iconst 0, 1) := by decide +kernel
theorem dX11_goesOf_28 : decode cX11_goesOf 28 = .ok (.iconst 4, 1) := by decide +kernel
theorem dX11_goesOf_29 : decode cX11_goesOf 29 = .ok (.invokestatic 430, 3) := by decide +kernel
theorem dX11_goesOf_32 : decode cX11_goesOf 32 = .ok (.ireturn, 1) := by decide +kernel
theorem dX11_burnsOf_0 : decode cX11_burnsOf 0 = .ok (.aload_n 0, 1) := by decide +kernel
theorem dX11_burnsOf_1 : decode cX11_burnsOf 1 = .ok (.getfield 13, 3) := by decide +kernel
theorem dX11_burnsOf_4 : decode cX11_burnsOf 4 = .ok (.bipush 26, 2) := by decide +kernel
theorem dX11_burnsOf_6 : decode cX11_burnsOf 6 = .ok (.aload_n 0, 1) := by decide +kernel
theorem dX11_burnsOf_7 : decode cX11_burnsOf 7 = .ok (.getfield 13, 3) := by decide +kernel
theorem dX11_burnsOf_10 : decode cX11_burnsOf 10 = .ok (.bipush 9, 2) := by decide +kernel
theorem dX11_burnsOf_12 : decode cX11_burnsOf 12 = .ok (.iload_n 1, 1) := by decide +kernel
theorem dX11_burnsOf_13 : decode cX11_burnsOf 13 = .ok (.iadd, 1) := by decide +kernel
theorem dX11_burnsOf_14 : decode cX11_burnsOf 14 = .ok (.iaload, 1) := by decide +kernel
theorem dX11_burnsOf_15 : decode cX11_burnsOf 15 = .ok (.iadd, 1) := by decide +kernel
theorem dX11_burnsOf_16 : decode cX11_burnsOf 16 = .ok (.iaload, 1) := by decide +kernel
theorem dX11_burnsOf_17 : decode cX11_burnsOf 17 = .ok (.istore_n 2, 1) := by decide +kernel
theorem dX11_burnsOf_18 : decode cX11_burnsOf 18 = .ok (.aload_n 0, 1) := by decide +kernel
theorem dX11_burnsOf_19 : decode cX11_burnsOf 19 = .ok (.iconst 1, 1) := by decide +kernel
theorem dX11_burnsOf_20 : decode cX11_burnsOf 20 = .ok (.iload_n 1, 1) := by decide +kernel
theorem dX11_burnsOf_21 : decode cX11_burnsOf 21 = .ok (.aload_n 0, 1) := by decide +kernel
theorem dX11_burnsOf_22 : decode cX11_burnsOf 22 = .ok (.getfield 13, 3) := by decide +kernel
theorem dX11_burnsOf_25 : decode cX11_burnsOf 25 = .ok (.bipush 9, 2) := by decide +kernel
theorem dX11_burnsOf_27 : decode cX11_burnsOf 27 = .ok (.iload_n 1, 1) := by decide +kernel
theorem dX11_burnsOf_28 : decode cX11_burnsOf 28 = .ok (.iadd, 1) := by decide +kernel
theorem dX11_burnsOf_29 : decode cX11_burnsOf 29 = .ok (.iaload, 1) := by decide +kernel
theorem dX11_burnsOf_30 : decode cX11_burnsOf 30 = .ok (.iconst (-1), 1) := by decide +kernel
theorem dX11_burnsOf_31 : decode cX11_burnsOf 31 = .ok (.iload_n 2, 1) := by decide +kernel
theorem dX11_burnsOf_32 : decode cX11_burnsOf 32 = .ok (.iconst 2, 1) := by decide +kernel
theorem dX11_burnsOf_33 : decode cX11_burnsOf 33 = .ok (.if_icmp .ne 7, 3) := by decide +kernel
theorem dX11_burnsOf_36 : decode cX11_burnsOf 36 = .ok (.lconst 1, 1) := by decide +kernel
theorem dX11_burnsOf_37 : decode cX11_burnsOf 37 = .ok (.goto 15, 3) := by decide +kernel
theorem dX11_burnsOf_40 : decode cX11_burnsOf 40 = .ok (.iload_n 2, 1) := by decide +kernel
theorem dX11_burnsOf_41 : decode cX11_burnsOf 41 = .ok (.iconst 1, 1) := by decide +kernel
theorem dX11_burnsOf_42 : decode cX11_burnsOf 42 = .ok (.if_icmp .ne 9, 3) := by decide +kernel
theorem dX11_burnsOf_45 : decode cX11_burnsOf 45 = .ok (.ldc2_w 434, 3) := by decide +kernel
theorem dX11_burnsOf_48 : decode cX11_burnsOf 48 = .ok (.goto 4, 3) := by decide +kernel
theorem dX11_burnsOf_51 : decode cX11_burnsOf 51 = .ok (.lconst 0, 1) := by decide +kernel
theorem dX11_burnsOf_52 : decode cX11_burnsOf 52 = .ok (.invokevirtual 426, 3) := by decide +kernel
theorem dX11_burnsOf_55 : decode cX11_burnsOf 55 = .ok (.bipush (-3), 2) := by decide +kernel
theorem dX11_burnsOf_57 : decode cX11_burnsOf 57 = .ok (.iconst 3, 1) := by decide +kernel
theorem dX11_burnsOf_58 : decode cX11_burnsOf 58 = .ok (.invokestatic 430, 3) := by decide +kernel
theorem dX11_burnsOf_61 : decode cX11_burnsOf 61 = .ok (.ireturn, 1) := by decide +kernel
theorem dX11_shuns_0 : decode cX11_shuns 0 = .ok (.aload_n 0, 1) := by decide +kernel
theorem dX11_shuns_1 : decode cX11_shuns 1 = .ok (.iconst 2, 1) := by decide +kernel
theorem dX11_shuns_2 : decode cX11_shuns 2 = .ok (.iload_n 1, 1) := by decide +kernel
theorem dX11_shuns_3 : decode cX11_shuns 3 = .ok (.iload_n 3, 1) := by decide +kernel
theorem dX11_shuns_4 : decode cX11_shuns 4 = .ok (.iload_n 2, 1) := by decide +kernel
theorem dX11_shuns_5 : decode cX11_shuns 5 = .ok (.lconst 0, 1) := by decide +kernel
theorem dX11_shuns_6 : decode cX11_shuns 6 = .ok (.invokevirtual 426, 3) := by decide +kernel
theorem dX11_shuns_9 : decode cX11_shuns 9 = .ok (.lconst 1, 1) := by decide +kernel
theorem dX11_shuns_10 : decode cX11_shuns 10 = .ok (.lcmp, 1) := by decide +kernel
theorem dX11_shuns_11 : decode cX11_shuns 11 = .ok (.ifCond .ne 7, 3) := by decide +kernel
theorem dX11_shuns_14 : decode cX11_shuns 14 = .ok (.iconst 1, 1) := by decide +kernel
theorem dX11_shuns_15 : decode cX11_shuns 15 = .ok (.goto 4, 3) := by decide +kernel
theorem dX11_shuns_18 : decode cX11_shuns 18 = .ok (.iconst 0, 1) := by decide +kernel
theorem dX11_shuns_19 : decode cX11_shuns 19 = .ok (.ireturn, 1) := by decide +kernel
theorem dX11_isBarred_0 : decode cX11_isBarred 0 = .ok (.aload_n 0, 1) := by decide +kernel
theorem dX11_isBarred_1 : decode cX11_isBarred 1 = .ok (.getfield 13, 3) := by decide +kernel
theorem dX11_isBarred_4 : decode cX11_isBarred 4 = .ok (.bipush 26, 2) := by decide +kernel
theorem dX11_isBarred_6 : decode cX11_isBarred 6 = .ok (.iload_n 2, 1) := by decide +kernel
theorem dX11_isBarred_7 : decode cX11_isBarred 7 = .ok (.iadd, 1) := by decide +kernel
theorem dX11_isBarred_8 : decode cX11_isBarred 8 = .ok (.iaload, 1) := by decide +kernel
theorem dX11_isBarred_9 : decode cX11_isBarred 9 = .ok (.iconst 3, 1) := by decide +kernel
theorem dX11_isBarred_10 : decode cX11_isBarred 10 = .ok (.if_icmp .eq 17, 3) := by decide +kernel
theorem dX11_isBarred_13 : decode cX11_isBarred 13 = .ok (.aload_n 0, 1) := by decide +kernel
theorem dX11_isBarred_14 : decode cX11_isBarred 14 = .ok (.iconst 3, 1) := by decide +kernel
theorem dX11_isBarred_15 : decode cX11_isBarred 15 = .ok (.iload_n 1, 1) := by decide +kernel
theorem dX11_isBarred_16 : decode cX11_isBarred 16 = .ok (.iload_n 2, 1) := by decide +kernel
theorem dX11_isBarred_17 : decode cX11_isBarred 17 = .ok (.iconst (-1), 1) := by decide +kernel
theorem dX11_isBarred_18 : decode cX11_isBarred 18 = .ok (.lconst 0, 1) := by decide +kernel
theorem dX11_isBarred_19 : decode cX11_isBarred 19 = .ok (.invokevirtual 426, 3) := by decide +kernel
theorem dX11_isBarred_22 : decode cX11_isBarred 22 = .ok (.lconst 1, 1) := by decide +kernel
theorem dX11_isBarred_23 : decode cX11_isBarred 23 = .ok (.lcmp, 1) := by decide +kernel
theorem dX11_isBarred_24 : decode cX11_isBarred 24 = .ok (.ifCond .ne 7, 3) := by decide +kernel
theorem dX11_isBarred_27 : decode cX11_isBarred 27 = .ok (.iconst 1, 1) := by decide +kernel
theorem dX11_isBarred_28 : decode cX11_isBarred 28 = .ok (.goto 4, 3) := by decide +kernel
theorem dX11_isBarred_31 : decode cX11_isBarred 31 = .ok (.iconst 0, 1) := by decide +kernel
theorem dX11_isBarred_32 : decode cX11_isBarred 32 = .ok (.ireturn, 1) := by decide +kernel
theorem dX11_comes_0 : decode cX11_comes 0 = .ok (.aload_n 0, 1) := by decide +kernel
theorem dX11_comes_1 : decode cX11_comes 1 = .ok (.getfield 13, 3) := by decide +kernel
theorem dX11_comes_4 : decode cX11_comes 4 = .ok (.bipush 62, 2) := by decide +kernel
theorem dX11_comes_6 : decode cX11_comes 6 = .ok (.iload_n 2, 1) := by decide +kernel
theorem dX11_comes_7 : decode cX11_comes 7 = .ok (.iadd, 1) := by decide +kernel
theorem dX11_comes_8 : decode cX11_comes 8 = .ok (.iaload, 1) := by decide +kernel
theorem dX11_comes_9 : decode cX11_comes 9 = .ok (.iload_n 1, 1) := by decide +kernel
theorem dX11_comes_10 : decode cX11_comes 10 = .ok (.invokestatic 186, 3) := by decide +kernel
theorem dX11_comes_13 : decode cX11_comes 13 = .ok (.ifCond .eq 42, 3) := by decide +kernel
theorem dX11_comes_16 : decode cX11_comes 16 = .ok (.iload_n 3, 1) := by decide +kernel
theorem dX11_comes_17 : decode cX11_comes 17 = .ok (.aload_n 0, 1) := by decide +kernel
theorem dX11_comes_18 : decode cX11_comes 18 = .ok (.getfield 13, 3) := by decide +kernel
theorem dX11_comes_21 : decode cX11_comes 21 = .ok (.bipush 21, 2) := by decide +kernel
theorem dX11_comes_23 : decode cX11_comes 23 = .ok (.iload_n 2, 1) := by decide +kernel
theorem dX11_comes_24 : decode cX11_comes 24 = .ok (.iadd, 1) := by decide +kernel
theorem dX11_comes_25 : decode cX11_comes 25 = .ok (.iaload, 1) := by decide +kernel
theorem dX11_comes_26 : decode cX11_comes 26 = .ok (.invokestatic 220, 3) := by decide +kernel
theorem dX11_comes_29 : decode cX11_comes 29 = .ok (.aload_n 0, 1) := by decide +kernel
theorem dX11_comes_30 : decode cX11_comes 30 = .ok (.getfield 13, 3) := by decide +kernel
theorem dX11_comes_33 : decode cX11_comes 33 = .ok (.bipush 57, 2) := by decide +kernel
theorem dX11_comes_35 : decode cX11_comes 35 = .ok (.iload_n 2, 1) := by decide +kernel
theorem dX11_comes_36 : decode cX11_comes 36 = .ok (.iadd, 1) := by decide +kernel
theorem dX11_comes_37 : decode cX11_comes 37 = .ok (.iaload, 1) := by decide +kernel
theorem dX11_comes_38 : decode cX11_comes 38 = .ok (.if_icmp .gt 17, 3) := by decide +kernel
theorem dX11_comes_41 : decode cX11_comes 41 = .ok (.aload_n 0, 1) := by decide +kernel
theorem dX11_comes_42 : decode cX11_comes 42 = .ok (.iload_n 1, 1) := by decide +kernel
theorem dX11_comes_43 : decode cX11_comes 43 = .ok (.iload_n 2, 1) := by decide +kernel
theorem dX11_comes_44 : decode cX11_comes 44 = .ok (.iload_n 3, 1) := by decide +kernel
theorem dX11_comes_45 : decode cX11_comes 45 = .ok (.invokevirtual 223, 3) := by decide +kernel
theorem dX11_comes_48 : decode cX11_comes 48 = .ok (.ifCond .ne 7, 3) := by decide +kernel
theorem dX11_comes_51 : decode cX11_comes 51 = .ok (.iconst 1, 1) := by decide +kernel
theorem dX11_comes_52 : decode cX11_comes 52 = .ok (.goto 4, 3) := by decide +kernel
theorem dX11_comes_55 : decode cX11_comes 55 = .ok (.iconst 0, 1) := by decide +kernel
theorem dX11_comes_56 : decode cX11_comes 56 = .ok (.ireturn, 1) := by decide +kernel
theorem dX11_endSpark_0 : decode cX11_endSpark 0 = .ok (.aload_n 0, 1) := by decide +kernel
theorem dX11_endSpark_1 : decode cX11_endSpark 1 = .ok (.getfield 13, 3) := by decide +kernel
theorem dX11_endSpark_4 : decode cX11_endSpark 4 = .ok (.bipush 9, 2) := by decide +kernel
theorem dX11_endSpark_6 : decode cX11_endSpark 6 = .ok (.iload_n 1, 1) := by decide +kernel
theorem dX11_endSpark_7 : decode cX11_endSpark 7 = .ok (.iadd, 1) := by decide +kernel
theorem dX11_endSpark_8 : decode cX11_endSpark 8 = .ok (.iconst (-1), 1) := by decide +kernel
theorem dX11_endSpark_9 : decode cX11_endSpark 9 = .ok (.iastore, 1) := by decide +kernel
theorem dX11_endSpark_10 : decode cX11_endSpark 10 = .ok (.aload_n 0, 1) := by decide +kernel
theorem dX11_endSpark_11 : decode cX11_endSpark 11 = .ok (.getfield 13, 3) := by decide +kernel
theorem dX11_endSpark_14 : decode cX11_endSpark 14 = .ok (.bipush 15, 2) := by decide +kernel
theorem dX11_endSpark_16 : decode cX11_endSpark 16 = .ok (.iload_n 1, 1) := by decide +kernel
theorem dX11_endSpark_17 : decode cX11_endSpark 17 = .ok (.iadd, 1) := by decide +kernel
theorem dX11_endSpark_18 : decode cX11_endSpark 18 = .ok (.iconst 0, 1) := by decide +kernel
theorem dX11_endSpark_19 : decode cX11_endSpark 19 = .ok (.iastore, 1) := by decide +kernel
theorem dX11_endSpark_20 : decode cX11_endSpark 20 = .ok (.return_, 1) := by decide +kernel
theorem dX11_callIt_0 : decode cX11_callIt 0 = .ok (.aload_n 0, 1) := by decide +kernel
theorem dX11_callIt_1 : decode cX11_callIt 1 = .ok (.getfield 13, 3) := by decide +kernel
theorem dX11_callIt_4 : decode cX11_callIt 4 = .ok (.bipush 9, 2) := by decide +kernel
theorem dX11_callIt_6 : decode cX11_callIt 6 = .ok (.iload_n 1, 1) := by decide +kernel
theorem dX11_callIt_7 : decode cX11_callIt 7 = .ok (.iadd, 1) := by decide +kernel
theorem dX11_callIt_8 : decode cX11_callIt 8 = .ok (.aload_n 0, 1) := by decide +kernel
theorem dX11_callIt_9 : decode cX11_callIt 9 = .ok (.getfield 13, 3) := by decide +kernel
theorem dX11_callIt_12 : decode cX11_callIt 12 = .ok (.bipush 21, 2) := by decide +kernel
theorem dX11_callIt_14 : decode cX11_callIt 14 = .ok (.iload_n 2, 1) := by decide +kernel
theorem dX11_callIt_15 : decode cX11_callIt 15 = .ok (.iadd, 1) := by decide +kernel
theorem dX11_callIt_16 : decode cX11_callIt 16 = .ok (.iaload, 1) := by decide +kernel
theorem dX11_callIt_17 : decode cX11_callIt 17 = .ok (.iastore, 1) := by decide +kernel
theorem dX11_callIt_18 : decode cX11_callIt 18 = .ok (.aload_n 0, 1) := by decide +kernel
theorem dX11_callIt_19 : decode cX11_callIt 19 = .ok (.getfield 13, 3) := by decide +kernel
theorem dX11_callIt_22 : decode cX11_callIt 22 = .ok (.bipush 21, 2) := by decide +kernel
theorem dX11_callIt_24 : decode cX11_callIt 24 = .ok (.iload_n 2, 1) := by decide +kernel
theorem dX11_callIt_25 : decode cX11_callIt 25 = .ok (.iadd, 1) := by decide +kernel
theorem dX11_callIt_26 : decode cX11_callIt 26 = .ok (.iaload, 1) := by decide +kernel
theorem dX11_callIt_27 : decode cX11_callIt 27 = .ok (.aload_n 0, 1) := by decide +kernel
theorem dX11_callIt_28 : decode cX11_callIt 28 = .ok (.getfield 13, 3) := by decide +kernel
theorem dX11_callIt_31 : decode cX11_callIt 31 = .ok (.bipush 8, 2) := by decide +kernel
theorem dX11_callIt_33 : decode cX11_callIt 33 = .ok (.iaload, 1) := by decide +kernel
theorem dX11_callIt_34 : decode cX11_callIt 34 = .ok (.if_icmp .ne 8, 3) := by decide +kernel
theorem dX11_callIt_37 : decode cX11_callIt 37 = .ok (.aload_n 0, 1) := by decide +kernel
theorem dX11_callIt_38 : decode cX11_callIt 38 = .ok (.iload_n 1, 1) := by decide +kernel
theorem dX11_callIt_39 : decode cX11_callIt 39 = .ok (.invokevirtual 436, 3) := by decide +kernel
theorem dX11_callIt_42 : decode cX11_callIt 42 = .ok (.return_, 1) := by decide +kernel
theorem dX11_canCall_0 : decode cX11_canCall 0 = .ok (.aload_n 0, 1) := by decide +kernel
theorem dX11_canCall_1 : decode cX11_canCall 1 = .ok (.iload_n 1, 1) := by decide +kernel
theorem dX11_canCall_2 : decode cX11_canCall 2 = .ok (.invokevirtual 182, 3) := by decide +kernel
theorem dX11_canCall_5 : decode cX11_canCall 5 = .ok (.ifCond .eq 25, 3) := by decide +kernel
theorem dX11_canCall_8 : decode cX11_canCall 8 = .ok (.aload_n 0, 1) := by decide +kernel
theorem dX11_canCall_9 : decode cX11_canCall 9 = .ok (.iload_n 1, 1) := by decide +kernel
theorem dX11_canCall_10 : decode cX11_canCall 10 = .ok (.iload_n 2, 1) := by decide +kernel
theorem dX11_canCall_11 : decode cX11_canCall 11 = .ok (.aload_n 0, 1) := by decide +kernel
theorem dX11_canCall_12 : decode cX11_canCall 12 = .ok (.getfield 13, 3) := by decide +kernel
theorem dX11_canCall_15 : decode cX11_canCall 15 = .ok (.bipush 9, 2) := by decide +kernel
theorem dX11_canCall_17 : decode cX11_canCall 17 = .ok (.iload_n 1, 1) := by decide +kernel
theorem dX11_canCall_18 : decode cX11_canCall 18 = .ok (.iadd, 1) := by decide +kernel
theorem dX11_canCall_19 : decode cX11_canCall 19 = .ok (.iaload, 1) := by decide +kernel
theorem dX11_canCall_20 : decode cX11_canCall 20 = .ok (.invokevirtual 227, 3) := by decide +kernel
theorem dX11_canCall_23 : decode cX11_canCall 23 = .ok (.ifCond .eq 7, 3) := by decide +kernel
theorem dX11_canCall_26 : decode cX11_canCall 26 = .ok (.iconst 1, 1) := by decide +kernel
theorem dX11_canCall_27 : decode cX11_canCall 27 = .ok (.goto 4, 3) := by decide +kernel
theorem dX11_canCall_30 : decode cX11_canCall 30 = .ok (.iconst 0, 1) := by decide +kernel
theorem dX11_canCall_31 : decode cX11_canCall 31 = .ok (.ireturn, 1) := by decide +kernel
theorem dX11_callNow_0 : decode cX11_callNow 0 = .ok (.aload_n 0, 1) := by decide +kernel
theorem dX11_callNow_1 : decode cX11_callNow 1 = .ok (.iload_n 1, 1) := by decide +kernel
theorem dX11_callNow_2 : decode cX11_callNow 2 = .ok (.invokevirtual 197, 3) := by decide +kernel
theorem dX11_callNow_5 : decode cX11_callNow 5 = .ok (.ifCond .eq 11, 3) := by decide +kernel
theorem dX11_callNow_8 : decode cX11_callNow 8 = .ok (.aload_n 0, 1) := by decide +kernel
theorem dX11_callNow_9 : decode cX11_callNow 9 = .ok (.iload_n 2, 1) := by decide +kernel
theorem dX11_callNow_10 : decode cX11_callNow 10 = .ok (.invokevirtual 211, 3) := by decide +kernel
theorem dX11_callNow_13 : decode cX11_callNow 13 = .ok (.ifCond .ne 6, 3) := by decide +kernel
theorem dX11_callNow_16 : decode cX11_callNow 16 = .ok (.bipush (-2), 2) := by decide +kernel
theorem dX11_callNow_18 : decode cX11_callNow 18 = .ok (.ireturn, 1) := by decide +kernel
theorem dX11_callNow_19 : decode cX11_callNow 19 = .ok (.aload_n 0, 1) := by decide +kernel
theorem dX11_callNow_20 : decode cX11_callNow 20 = .ok (.iload_n 1, 1) := by decide +kernel
theorem dX11_callNow_21 : decode cX11_callNow 21 = .ok (.iload_n 2, 1) := by decide +kernel
theorem dX11_callNow_22 : decode cX11_callNow 22 = .ok (.invokevirtual 439, 3) := by decide +kernel
theorem dX11_callNow_25 : decode cX11_callNow 25 = .ok (.ifCond .ne 6, 3) := by decide +kernel
theorem dX11_callNow_28 : decode cX11_callNow 28 = .ok (.bipush (-3), 2) := by decide +kernel
theorem dX11_callNow_30 : decode cX11_callNow 30 = .ok (.ireturn, 1) := by decide +kernel
theorem dX11_callNow_31 : decode cX11_callNow 31 = .ok (.aload_n 0, 1) := by decide +kernel
theorem dX11_callNow_32 : decode cX11_callNow 32 = .ok (.iconst 0, 1) := by decide +kernel
theorem dX11_callNow_33 : decode cX11_callNow 33 = .ok (.invokevirtual 442, 3) := by decide +kernel
theorem dX11_callNow_36 : decode cX11_callNow 36 = .ok (.aload_n 0, 1) := by decide +kernel
theorem dX11_callNow_37 : decode cX11_callNow 37 = .ok (.getfield 13, 3) := by decide +kernel
theorem dX11_callNow_40 : decode cX11_callNow 40 = .ok (.bipush 9, 2) := by decide +kernel
theorem dX11_callNow_42 : decode cX11_callNow 42 = .ok (.iload_n 1, 1) := by decide +kernel
theorem dX11_callNow_43 : decode cX11_callNow 43 = .ok (.iadd, 1) := by decide +kernel
theorem dX11_callNow_44 : decode cX11_callNow 44 = .ok (.iaload, 1) := by decide +kernel
theorem dX11_callNow_45 : decode cX11_callNow 45 = .ok (.aload_n 0, 1) := by decide +kernel
theorem dX11_callNow_46 : decode cX11_callNow 46 = .ok (.getfield 13, 3) := by decide +kernel
theorem dX11_callNow_49 : decode cX11_callNow 49 = .ok (.bipush 21, 2) := by decide +kernel
theorem dX11_callNow_51 : decode cX11_callNow 51 = .ok (.iload_n 2, 1) := by decide +kernel
theorem dX11_callNow_52 : decode cX11_callNow 52 = .ok (.iadd, 1) := by decide +kernel
theorem dX11_callNow_53 : decode cX11_callNow 53 = .ok (.iaload, 1) := by decide +kernel
theorem dX11_callNow_54 : decode cX11_callNow 54 = .ok (.invokestatic 220, 3) := by decide +kernel
theorem dX11_callNow_57 : decode cX11_callNow 57 = .ok (.istore_n 3, 1) := by decide +kernel
theorem dX11_callNow_58 : decode cX11_callNow 58 = .ok (.aload_n 0, 1) := by decide +kernel
theorem dX11_callNow_59 : decode cX11_callNow 59 = .ok (.iload_n 1, 1) := by decide +kernel
theorem dX11_callNow_60 : decode cX11_callNow 60 = .ok (.iload_n 2, 1) := by decide +kernel
theorem dX11_callNow_61 : decode cX11_callNow 61 = .ok (.invokevirtual 445, 3) := by decide +kernel
theorem dX11_callNow_64 : decode cX11_callNow 64 = .ok (.iload_n 3, 1) := by decide +kernel
theorem dX11_callNow_65 : decode cX11_callNow 65 = .ok (.ireturn, 1) := by decide +kernel
theorem dX11_call_0 : decode cX11_call 0 = .ok (.aload_n 0, 1) := by decide +kernel
theorem dX11_call_1 : decode cX11_call 1 = .ok (.iconst 0, 1) := by decide +kernel
theorem dX11_call_2 : decode cX11_call 2 = .ok (.putfield 153, 3) := by decide +kernel
theorem dX11_call_5 : decode cX11_call 5 = .ok (.aload_n 0, 1) := by decide +kernel
theorem dX11_call_6 : decode cX11_call 6 = .ok (.aload_n 0, 1) := by decide +kernel
theorem dX11_call_7 : decode cX11_call 7 = .ok (.iload_n 1, 1) := by decide +kernel
theorem dX11_call_8 : decode cX11_call 8 = .ok (.iload_n 2, 1) := by decide +kernel
theorem dX11_call_9 : decode cX11_call 9 = .ok (.invokevirtual 448, 3) := by decide +kernel
theorem dX11_call_12 : decode cX11_call 12 = .ok (.invokevirtual 162, 3) := by decide +kernel
theorem dX11_call_15 : decode cX11_call 15 = .ok (.ireturn, 1) := by decide +kernel
theorem dX11_wetNow_0 : decode cX11_wetNow 0 = .ok (.iload_n 1, 1) := by decide +kernel
theorem dX11_wetNow_1 : decode cX11_wetNow 1 = .ok (.invokestatic 190, 3) := by decide +kernel
theorem dX11_wetNow_4 : decode cX11_wetNow 4 = .ok (.ifCond .ne 5, 3) := by decide +kernel
theorem dX11_wetNow_7 : decode cX11_wetNow 7 = .ok (.iconst (-1), 1) := by decide +kernel
theorem dX11_wetNow_8 : decode cX11_wetNow 8 = .ok (.ireturn, 1) := by decide +kernel
theorem dX11_wetNow_9 : decode cX11_wetNow 9 = .ok (.aload_n 0, 1) := by decide +kernel
theorem dX11_wetNow_10 : decode cX11_wetNow 10 = .ok (.getfield 13, 3) := by decide +kernel
theorem dX11_wetNow_13 : decode cX11_wetNow 13 = .ok (.bipush 26, 2) := by decide +kernel
theorem dX11_wetNow_15 : decode cX11_wetNow 15 = .ok (.iload_n 1, 1) := by decide +kernel
theorem dX11_wetNow_16 : decode cX11_wetNow 16 = .ok (.iadd, 1) := by decide +kernel
theorem dX11_wetNow_17 : decode cX11_wetNow 17 = .ok (.iaload, 1) := by decide +kernel
theorem dX11_wetNow_18 : decode cX11_wetNow 18 = .ok (.istore_n 2, 1) := by decide +kernel
theorem dX11_wetNow_19 : decode cX11_wetNow 19 = .ok (.iload_n 2, 1) := by decide +kernel
theorem dX11_wetNow_20 : decode cX11_wetNow 20 = .ok (.iconst 1, 1) := by decide +kernel
theorem dX11_wetNow_21 : decode cX11_wetNow 21 = .ok (.if_icmp .eq 8, 3) := by decide +kernel
theorem dX11_wetNow_24 : decode cX11_wetNow 24 = .ok (.iload_n 2, 1) := by decide +kernel
theorem dX11_wetNow_25 : decode cX11_wetNow 25 = .ok (.iconst 3, 1) := by decide +kernel
theorem dX11_wetNow_26 : decode cX11_wetNow 26 = .ok (.if_icmp .ne 6, 3) := by decide +kernel
theorem dX11_wetNow_29 : decode cX11_wetNow 29 = .ok (.bipush (-3), 2) := by decide +kernel
theorem dX11_wetNow_31 : decode cX11_wetNow 31 = .ok (.ireturn, 1) := by decide +kernel
theorem dX11_wetNow_32 : decode cX11_wetNow 32 = .ok (.aload_n 0, 1) := by decide +kernel
theorem dX11_wetNow_33 : decode cX11_wetNow 33 = .ok (.iconst 1, 1) := by decide +kernel
theorem dX11_wetNow_34 : decode cX11_wetNow 34 = .ok (.invokevirtual 442, 3) := by decide +kernel
theorem dX11_wetNow_37 : decode cX11_wetNow 37 = .ok (.aload_n 0, 1) := by decide +kernel
theorem dX11_wetNow_38 : decode cX11_wetNow 38 = .ok (.getfield 13, 3) := by decide +kernel
theorem dX11_wetNow_41 : decode cX11_wetNow 41 = .ok (.bipush 26, 2) := by decide +kernel
theorem dX11_wetNow_43 : decode cX11_wetNow 43 = .ok (.iload_n 1, 1) := by decide +kernel
theorem dX11_wetNow_44 : decode cX11_wetNow 44 = .ok (.iadd, 1) := by decide +kernel
theorem dX11_wetNow_45 : decode cX11_wetNow 45 = .ok (.iconst 1, 1) := by decide +kernel
theorem dX11_wetNow_46 : decode cX11_wetNow 46 = .ok (.iastore, 1) := by decide +kernel
theorem dX11_wetNow_47 : decode cX11_wetNow 47 = .ok (.iload_n 2, 1) := by decide +kernel
theorem dX11_wetNow_48 : decode cX11_wetNow 48 = .ok (.ireturn, 1) := by decide +kernel
theorem dX11_wet_0 : decode cX11_wet 0 = .ok (.aload_n 0, 1) := by decide +kernel
theorem dX11_wet_1 : decode cX11_wet 1 = .ok (.iconst 0, 1) := by decide +kernel
theorem dX11_wet_2 : decode cX11_wet 2 = .ok (.putfield 153, 3) := by decide +kernel
theorem dX11_wet_5 : decode cX11_wet 5 = .ok (.aload_n 0, 1) := by decide +kernel
theorem dX11_wet_6 : decode cX11_wet 6 = .ok (.aload_n 0, 1) := by decide +kernel
theorem dX11_wet_7 : decode cX11_wet 7 = .ok (.iload_n 1, 1) := by decide +kernel
theorem dX11_wet_8 : decode cX11_wet 8 = .ok (.invokevirtual 451, 3) := by decide +kernel
theorem dX11_wet_11 : decode cX11_wet 11 = .ok (.invokevirtual 162, 3) := by decide +kernel
theorem dX11_wet_14 : decode cX11_wet 14 = .ok (.ireturn, 1) := by decide +kernel
theorem dX11_canWalk_0 : decode cX11_canWalk 0 = .ok (.aload_n 0, 1) := by decide +kernel
theorem dX11_canWalk_1 : decode cX11_canWalk 1 = .ok (.getfield 13, 3) := by decide +kernel
theorem dX11_canWalk_4 : decode cX11_canWalk 4 = .ok (.bipush 21, 2) := by decide +kernel
theorem dX11_canWalk_6 : decode cX11_canWalk 6 = .ok (.iload_n 1, 1) := by decide +kernel
theorem dX11_canWalk_7 : decode cX11_canWalk 7 = .ok (.iadd, 1) := by decide +kernel
theorem dX11_canWalk_8 : decode cX11_canWalk 8 = .ok (.iaload, 1) := by decide +kernel
theorem dX11_canWalk_9 : decode cX11_canWalk 9 = .ok (.iload_n 2, 1) := by decide +kernel
theorem dX11_canWalk_10 : decode cX11_canWalk 10 = .ok (.invokestatic 454, 3) := by decide +kernel
theorem dX11_canWalk_13 : decode cX11_canWalk 13 = .ok (.istore_n 3, 1) := by decide +kernel
theorem dX11_canWalk_14 : decode cX11_canWalk 14 = .ok (.iload_n 3, 1) := by decide +kernel
theorem dX11_canWalk_15 : decode cX11_canWalk 15 = .ok (.iconst (-1), 1) := by decide +kernel
theorem dX11_canWalk_16 : decode cX11_canWalk 16 = .ok (.if_icmp .eq 20, 3) := by decide +kernel
theorem dX11_canWalk_19 : decode cX11_canWalk 19 = .ok (.aload_n 0, 1) := by decide +kernel
theorem dX11_canWalk_20 : decode cX11_canWalk 20 = .ok (.getfield 13, 3) := by decide +kernel
