set_option maxRecDepth 100000 in
set_option maxHeartbeats 4000000 in
theorem cc_18 {g : sp_G} {Q : sp_Qt} (hQ : Q none mm_311) : sp_Mt g sp_Tr mX11_init 28 20801 [.ref 103] mm_225 Q := by
  refine sp_Mt.of [some (.ref 103)] (by decide) (by simp [sp_ent, Value.category]) rfl ?_
  refine sp_aload_n dX11_init_0 rfl rfl ?_
  refine sp_objInit dX11_init_1 tw_1192 tw_125 tw_126 (by decide) (by decide) ?_
  refine sp_aload_n dX11_init_4 rfl rfl ?_
  refine sp_bipush (v := 7) dX11_init_5 (by decide) ?_
  refine sp_newa2 (t := 0) (N := 7) (M1 := mm_226) 27 20794 (Or.inl ⟨rfl, rfl⟩) dX11_init_7 tw_143 (by decide) (by decide +kernel) (by decide) (show _ = 104 by decide +kernel) (by decide) rfl ?_
  refine sp_putP3 (M1 := mm_227) (RX11, TX11, 56) dX11_init_9 clX11 (j := 2) (by decide) tw_1217 (Or.inr ⟨rfl, rfl, rfl⟩) (Or.inr ⟨_, rfl⟩) ⟨by decide +kernel, by decide +kernel⟩ rfl ?_
  refine sp_aload_n dX11_init_12 rfl rfl ?_
  refine sp_sipush (v := 5480) dX11_init_13 (by decide) ?_
  refine sp_newa2 (t := 0) (N := 5480) (M1 := mm_228) 26 15314 (Or.inl ⟨rfl, rfl⟩) dX11_init_16 tw_143 (by decide) (by decide +kernel) (by decide) (show _ = 105 by decide +kernel) (by decide) rfl ?_
  refine sp_putP3 (M1 := mm_229) (RX11, TX11, 56) dX11_init_18 clX11 (j := 3) (by decide) tw_1218 (Or.inr ⟨rfl, rfl, rfl⟩) (Or.inr ⟨_, rfl⟩) ⟨by decide +kernel, by decide +kernel⟩ rfl ?_
  refine sp_aload_n dX11_init_21 rfl rfl ?_
  refine sp_sipush (v := 10960) dX11_init_22 (by decide) ?_
  refine sp_newa2 (t := 0) (N := 10960) (M1 := mm_230) 25 4354 (Or.inl ⟨rfl, rfl⟩) dX11_init_25 tw_143 (by decide) (by decide +kernel) (by decide) (show _ = 106 by decide +kernel) (by decide) rfl ?_
  refine sp_putP3 (M1 := mm_231) (RX11, TX11, 56) dX11_init_27 clX11 (j := 4) (by decide) tw_1219 (Or.inr ⟨rfl, rfl, rfl⟩) (Or.inr ⟨_, rfl⟩) ⟨by decide +kernel, by decide +kernel⟩ rfl ?_
  refine sp_aload_n dX11_init_30 rfl rfl ?_
  refine sp_iconst (v := 2) dX11_init_31 (by decide) ?_
  refine sp_newa2 (t := 2) (N := 2) (M1 := mm_232) 24 4352 (Or.inr (Or.inr ⟨rfl, rfl⟩)) dX11_init_32 tw_329 (by decide) (by decide +kernel) (by decide) (show _ = 107 by decide +kernel) (by decide) rfl ?_
  refine sp_putP3 (M1 := mm_233) (RX11, TX11, 56) dX11_init_34 clX11 (j := 5) (by decide) tw_1220 (Or.inr ⟨rfl, rfl, rfl⟩) (Or.inr ⟨_, rfl⟩) ⟨by decide +kernel, by decide +kernel⟩ rfl ?_
  refine sp_aload_n dX11_init_37 rfl rfl ?_
  refine sp_sipush (v := 828) dX11_init_38 (by decide) ?_
  refine sp_newa2 (t := 0) (N := 828) (M1 := mm_234) 23 3524 (Or.inl ⟨rfl, rfl⟩) dX11_init_41 tw_143 (by decide) (by decide +kernel) (by decide) (show _ = 108 by decide +kernel) (by decide) rfl ?_
  refine sp_putP3 (M1 := mm_235) (RX11, TX11, 56) dX11_init_43 clX11 (j := 6) (by decide) tw_1221 (Or.inr ⟨rfl, rfl, rfl⟩) (Or.inr ⟨_, rfl⟩) ⟨by decide +kernel, by decide +kernel⟩ rfl ?_
  refine sp_aload_n dX11_init_46 rfl rfl ?_
  refine sp_bipush (v := 16) dX11_init_47 (by decide) ?_
  refine sp_newa2 (t := 0) (N := 16) (M1 := mm_236) 22 3508 (Or.inl ⟨rfl, rfl⟩) dX11_init_49 tw_143 (by decide) (by decide +kernel) (by decide) (show _ = 109 by decide +kernel) (by decide) rfl ?_
  refine sp_putP3 (M1 := mm_237) (RX11, TX11, 56) dX11_init_51 clX11 (j := 7) (by decide) tw_1222 (Or.inr ⟨rfl, rfl, rfl⟩) (Or.inr ⟨_, rfl⟩) ⟨by decide +kernel, by decide +kernel⟩ rfl ?_
  refine sp_aload_n dX11_init_54 rfl rfl ?_
  refine sp_sipush (v := 736) dX11_init_55 (by decide) ?_
  refine sp_newa2 (t := 0) (N := 736) (M1 := mm_238) 21 2772 (Or.inl ⟨rfl, rfl⟩) dX11_init_58 tw_143 (by decide) (by decide +kernel) (by decide) (show _ = 110 by decide +kernel) (by decide) rfl ?_
  refine sp_putP3 (M1 := mm_239) (RX11, TX11, 56) dX11_init_60 clX11 (j := 9) (by decide) tw_1224 (Or.inr ⟨rfl, rfl, rfl⟩) (Or.inr ⟨_, rfl⟩) ⟨by decide +kernel, by decide +kernel⟩ rfl ?_
  refine sp_aload_n dX11_init_63 rfl rfl ?_
  refine sp_bipush (v := 16) dX11_init_64 (by decide) ?_
  refine sp_newa2 (t := 0) (N := 16) (M1 := mm_240) 20 2756 (Or.inl ⟨rfl, rfl⟩) dX11_init_66 tw_143 (by decide) (by decide +kernel) (by decide) (show _ = 111 by decide +kernel) (by decide) rfl ?_
  refine sp_putP3 (M1 := mm_241) (RX11, TX11, 56) dX11_init_68 clX11 (j := 10) (by decide) tw_1225 (Or.inr ⟨rfl, rfl, rfl⟩) (Or.inr ⟨_, rfl⟩) ⟨by decide +kernel, by decide +kernel⟩ rfl ?_
  refine sp_aload_n dX11_init_71 rfl rfl ?_
  refine sp_sipush (v := 400) dX11_init_72 (by decide) ?_
  refine sp_newa2 (t := 0) (N := 400) (M1 := mm_242) 19 2356 (Or.inl ⟨rfl, rfl⟩) dX11_init_75 tw_143 (by decide) (by decide +kernel) (by decide) (show _ = 112 by decide +kernel) (by decide) rfl ?_
  refine sp_putP3 (M1 := mm_243) (RX11, TX11, 56) dX11_init_77 clX11 (j := 12) (by decide) tw_1227 (Or.inr ⟨rfl, rfl, rfl⟩) (Or.inr ⟨_, rfl⟩) ⟨by decide +kernel, by decide +kernel⟩ rfl ?_
  refine sp_aload_n dX11_init_80 rfl rfl ?_
  refine sp_iconst (v := (-1)) dX11_init_81 (by decide) ?_
  refine sp_putI3 (M1 := mm_244) (RX11, TX11, 56) dX11_init_82 clX11 (j := 18) (by decide) tw_1233 (Or.inl rfl) rfl ⟨by decide +kernel, by decide +kernel⟩ rfl ?_
  refine sp_aload_n dX11_init_85 rfl rfl ?_
  refine sp_bipush (v := 96) dX11_init_86 (by decide) ?_
  refine sp_newa2 (t := 0) (N := 96) (M1 := mm_245) 18 2260 (Or.inl ⟨rfl, rfl⟩) dX11_init_88 tw_143 (by decide) (by decide +kernel) (by decide) (show _ = 113 by decide +kernel) (by decide) rfl ?_
  refine sp_putP3 (M1 := mm_246) (RX11, TX11, 56) dX11_init_90 clX11 (j := 22) (by decide) tw_1237 (Or.inr ⟨rfl, rfl, rfl⟩) (Or.inr ⟨_, rfl⟩) ⟨by decide +kernel, by decide +kernel⟩ rfl ?_
  refine sp_aload_n dX11_init_93 rfl rfl ?_
  refine sp_sipush (v := 400) dX11_init_94 (by decide) ?_
  refine sp_newa2 (t := 0) (N := 400) (M1 := mm_247) 17 1860 (Or.inl ⟨rfl, rfl⟩) dX11_init_97 tw_143 (by decide) (by decide +kernel) (by decide) (show _ = 114 by decide +kernel) (by decide) rfl ?_
  refine sp_putP3 (M1 := mm_248) (RX11, TX11, 56) dX11_init_99 clX11 (j := 24) (by decide) tw_1239 (Or.inr ⟨rfl, rfl, rfl⟩) (Or.inr ⟨_, rfl⟩) ⟨by decide +kernel, by decide +kernel⟩ rfl ?_
  refine sp_aload_n dX11_init_102 rfl rfl ?_
  refine sp_sipush (v := 400) dX11_init_103 (by decide) ?_
  refine sp_newa2 (t := 0) (N := 400) (M1 := mm_249) 16 1460 (Or.inl ⟨rfl, rfl⟩) dX11_init_106 tw_143 (by decide) (by decide +kernel) (by decide) (show _ = 115 by decide +kernel) (by decide) rfl ?_
  refine sp_putP3 (M1 := mm_250) (RX11, TX11, 56) dX11_init_108 clX11 (j := 25) (by decide) tw_1240 (Or.inr ⟨rfl, rfl, rfl⟩) (Or.inr ⟨_, rfl⟩) ⟨by decide +kernel, by decide +kernel⟩ rfl ?_
  refine sp_aload_n dX11_init_111 rfl rfl ?_
  refine sp_sipush (v := 400) dX11_init_112 (by decide) ?_
  refine sp_newa2 (t := 0) (N := 400) (M1 := mm_251) 15 1060 (Or.inl ⟨rfl, rfl⟩) dX11_init_115 tw_143 (by decide) (by decide +kernel) (by decide) (show _ = 116 by decide +kernel) (by decide) rfl ?_
  refine sp_putP3 (M1 := mm_252) (RX11, TX11, 56) dX11_init_117 clX11 (j := 27) (by decide) tw_1242 (Or.inr ⟨rfl, rfl, rfl⟩) (Or.inr ⟨_, rfl⟩) ⟨by decide +kernel, by decide +kernel⟩ rfl ?_
  refine sp_aload_n dX11_init_120 rfl rfl ?_
  refine sp_sipush (v := 400) dX11_init_121 (by decide) ?_
  refine sp_newa2 (t := 0) (N := 400) (M1 := mm_253) 14 660 (Or.inl ⟨rfl, rfl⟩) dX11_init_124 tw_143 (by decide) (by decide +kernel) (by decide) (show _ = 117 by decide +kernel) (by decide) rfl ?_
  refine sp_putP3 (M1 := mm_254) (RX11, TX11, 56) dX11_init_126 clX11 (j := 28) (by decide) tw_1243 (Or.inr ⟨rfl, rfl, rfl⟩) (Or.inr ⟨_, rfl⟩) ⟨by decide +kernel, by decide +kernel⟩ rfl ?_
  refine sp_aload_n dX11_init_129 rfl rfl ?_
  refine sp_bipush (v := 10) dX11_init_130 (by decide) ?_
  refine sp_newa2 (t := 1) (N := 10) (M1 := mm_255) 13 650 (Or.inr (Or.inl ⟨rfl, rfl⟩)) dX11_init_132 tw_330 (by decide) (by decide +kernel) (by decide) (show _ = 118 by decide +kernel) (by decide) rfl ?_
  refine sp_dup dX11_init_134 rfl ?_
  refine sp_iconst (v := 0) dX11_init_135 (by decide) ?_
  refine sp_ldc2 (v := 20448843) dX11_init_136 tw_1193 ?_
  refine sp_last3 (j := 0) (M1 := mm_256) dX11_init_139 ⟨by decide +kernel, by decide +kernel⟩ (by unfold vp_in; decide +kernel) (by decide +kernel) rfl ?_
  refine sp_dup dX11_init_140 rfl ?_
  refine sp_iconst (v := 1) dX11_init_141 (by decide) ?_
  refine sp_ldc2 (v := 267316) dX11_init_142 tw_1194 ?_
  refine sp_last3 (j := 1) (M1 := mm_257) dX11_init_145 ⟨by decide +kernel, by decide +kernel⟩ (by unfold vp_in; decide +kernel) (by decide +kernel) rfl ?_
  refine sp_dup dX11_init_146 rfl ?_
  refine sp_iconst (v := 2) dX11_init_147 (by decide) ?_
  refine sp_ldc2 (v := 460197) dX11_init_148 tw_1195 ?_
  refine sp_last3 (j := 2) (M1 := mm_258) dX11_init_151 ⟨by decide +kernel, by decide +kernel⟩ (by unfold vp_in; decide +kernel) (by decide +kernel) rfl ?_
  refine sp_dup dX11_init_152 rfl ?_
  refine sp_iconst (v := 3) dX11_init_153 (by decide) ?_
  refine sp_ldc2 (v := 24) dX11_init_154 tw_1196 ?_
  refine sp_last3 (j := 3) (M1 := mm_259) dX11_init_157 ⟨by decide +kernel, by decide +kernel⟩ (by unfold vp_in; decide +kernel) (by decide +kernel) rfl ?_
  refine sp_dup dX11_init_158 rfl ?_
  refine sp_iconst (v := 4) dX11_init_159 (by decide) ?_
  refine sp_ldc2 (v := 25) dX11_init_160 tw_1197 ?_
  refine sp_last3 (j := 4) (M1 := mm_260) dX11_init_163 ⟨by decide +kernel, by decide +kernel⟩ (by unfold vp_in; decide +kernel) (by decide +kernel) rfl ?_
  refine sp_dup dX11_init_164 rfl ?_
  refine sp_iconst (v := 5) dX11_init_165 (by decide) ?_
  refine sp_ldc2 (v := 370116) dX11_init_166 tw_1198 ?_
  refine sp_last3 (j := 5) (M1 := mm_261) dX11_init_169 ⟨by decide +kernel, by decide +kernel⟩ (by unfold vp_in; decide +kernel) (by decide +kernel) rfl ?_
  refine sp_dup dX11_init_170 rfl ?_
  refine sp_bipush (v := 6) dX11_init_171 (by decide) ?_
  refine sp_ldc2 (v := 6194) dX11_init_173 tw_1199 ?_
  refine sp_last3 (j := 6) (M1 := mm_262) dX11_init_176 ⟨by decide +kernel, by decide +kernel⟩ (by unfold vp_in; decide +kernel) (by decide +kernel) rfl ?_
  refine sp_dup dX11_init_177 rfl ?_
  refine sp_bipush (v := 7) dX11_init_178 (by decide) ?_
  refine sp_ldc2 (v := 542723566) dX11_init_180 tw_1200 ?_
  refine sp_last3 (j := 7) (M1 := mm_263) dX11_init_183 ⟨by decide +kernel, by decide +kernel⟩ (by unfold vp_in; decide +kernel) (by decide +kernel) rfl ?_
  refine sp_dup dX11_init_184 rfl ?_
  refine sp_bipush (v := 8) dX11_init_185 (by decide) ?_
  refine sp_ldc2 (v := 446125701) dX11_init_187 tw_1201 ?_
  refine sp_last3 (j := 8) (M1 := mm_264) dX11_init_190 ⟨by decide +kernel, by decide +kernel⟩ (by unfold vp_in; decide +kernel) (by decide +kernel) rfl ?_
  refine sp_dup dX11_init_191 rfl ?_
  refine sp_bipush (v := 9) dX11_init_192 (by decide) ?_
  refine sp_ldc2 (v := 441828) dX11_init_194 tw_1202 ?_
  refine sp_last3 (j := 9) (M1 := mm_265) dX11_init_197 ⟨by decide +kernel, by decide +kernel⟩ (by unfold vp_in; decide +kernel) (by decide +kernel) rfl ?_
  refine sp_putP3 (M1 := mm_266) (RX11, TX11, 56) dX11_init_198 clX11 (j := 31) (by decide) tw_1246 (Or.inr ⟨rfl, rfl, rfl⟩) (Or.inr ⟨_, rfl⟩) ⟨by decide +kernel, by decide +kernel⟩ rfl ?_
  refine sp_aload_n dX11_init_201 rfl rfl ?_
  refine sp_bipush (v := 6) dX11_init_202 (by decide) ?_
  refine sp_newa2 (t := 1) (N := 6) (M1 := mm_267) 12 644 (Or.inr (Or.inl ⟨rfl, rfl⟩)) dX11_init_204 tw_330 (by decide) (by decide +kernel) (by decide) (show _ = 119 by decide +kernel) (by decide) rfl ?_
  refine sp_dup dX11_init_206 rfl ?_
  refine sp_iconst (v := 0) dX11_init_207 (by decide) ?_
  refine sp_ldc2 (v := 446125701) dX11_init_208 tw_1201 ?_
  refine sp_last3 (j := 0) (M1 := mm_268) dX11_init_211 ⟨by decide +kernel, by decide +kernel⟩ (by unfold vp_in; decide +kernel) (by decide +kernel) rfl ?_
  refine sp_dup dX11_init_212 rfl ?_
  refine sp_iconst (v := 1) dX11_init_213 (by decide) ?_
  refine sp_ldc2 (v := 146885) dX11_init_214 tw_1203 ?_
  refine sp_last3 (j := 1) (M1 := mm_269) dX11_init_217 ⟨by decide +kernel, by decide +kernel⟩ (by unfold vp_in; decide +kernel) (by decide +kernel) rfl ?_
  refine sp_dup dX11_init_218 rfl ?_
  refine sp_iconst (v := 2) dX11_init_219 (by decide) ?_
  refine sp_ldc2 (v := 404362868) dX11_init_220 tw_1204 ?_
  refine sp_last3 (j := 2) (M1 := mm_270) dX11_init_223 ⟨by decide +kernel, by decide +kernel⟩ (by unfold vp_in; decide +kernel) (by decide +kernel) rfl ?_
  refine sp_dup dX11_init_224 rfl ?_
  refine sp_iconst (v := 3) dX11_init_225 (by decide) ?_
  refine sp_ldc2 (v := 13090405) dX11_init_226 tw_1205 ?_
  refine sp_last3 (j := 3) (M1 := mm_271) dX11_init_229 ⟨by decide +kernel, by decide +kernel⟩ (by unfold vp_in; decide +kernel) (by decide +kernel) rfl ?_
  refine sp_dup dX11_init_230 rfl ?_
  refine sp_iconst (v := 4) dX11_init_231 (by decide) ?_
  refine sp_ldc2 (v := 267316) dX11_init_232 tw_1194 ?_
  refine sp_last3 (j := 4) (M1 := mm_272) dX11_init_235 ⟨by decide +kernel, by decide +kernel⟩ (by unfold vp_in; decide +kernel) (by decide +kernel) rfl ?_
  refine sp_dup dX11_init_236 rfl ?_
  refine sp_iconst (v := 5) dX11_init_237 (by decide) ?_
  refine sp_ldc2 (v := 103820) dX11_init_238 tw_1206 ?_
  refine sp_last3 (j := 5) (M1 := mm_273) dX11_init_241 ⟨by decide +kernel, by decide +kernel⟩ (by unfold vp_in; decide +kernel) (by decide +kernel) rfl ?_
  refine sp_putP3 (M1 := mm_274) (RX11, TX11, 56) dX11_init_242 clX11 (j := 32) (by decide) tw_1247 (Or.inr ⟨rfl, rfl, rfl⟩) (Or.inr ⟨_, rfl⟩) ⟨by decide +kernel, by decide +kernel⟩ rfl ?_
  refine sp_aload_n dX11_init_245 rfl rfl ?_
  refine sp_iconst (v := 4) dX11_init_246 (by decide) ?_
  refine sp_newa2 (t := 1) (N := 4) (M1 := mm_275) 11 640 (Or.inr (Or.inl ⟨rfl, rfl⟩)) dX11_init_247 tw_330 (by decide) (by decide +kernel) (by decide) (show _ = 120 by decide +kernel) (by decide) rfl ?_
  refine sp_dup dX11_init_249 rfl ?_
  refine sp_iconst (v := 0) dX11_init_250 (by decide) ?_
  refine sp_ldc2 (v := 244915) dX11_init_251 tw_1207 ?_
  refine sp_last3 (j := 0) (M1 := mm_276) dX11_init_254 ⟨by decide +kernel, by decide +kernel⟩ (by unfold vp_in; decide +kernel) (by decide +kernel) rfl ?_
  refine sp_dup dX11_init_255 rfl ?_
  refine sp_iconst (v := 1) dX11_init_256 (by decide) ?_
  refine sp_ldc2 (v := 2804179) dX11_init_257 tw_1208 ?_
  refine sp_last3 (j := 1) (M1 := mm_277) dX11_init_260 ⟨by decide +kernel, by decide +kernel⟩ (by unfold vp_in; decide +kernel) (by decide +kernel) rfl ?_
  refine sp_dup dX11_init_261 rfl ?_
  refine sp_iconst (v := 2) dX11_init_262 (by decide) ?_
  refine sp_ldc2 (v := 20207059) dX11_init_263 tw_1209 ?_
  refine sp_last3 (j := 2) (M1 := mm_278) dX11_init_266 ⟨by decide +kernel, by decide +kernel⟩ (by unfold vp_in; decide +kernel) (by decide +kernel) rfl ?_
  refine sp_dup dX11_init_267 rfl ?_
  refine sp_iconst (v := 3) dX11_init_268 (by decide) ?_
  refine sp_ldc2 (v := 67155) dX11_init_269 tw_1210 ?_
  refine sp_last3 (j := 3) (M1 := mm_279) dX11_init_272 ⟨by decide +kernel, by decide +kernel⟩ (by unfold vp_in; decide +kernel) (by decide +kernel) rfl ?_
  refine sp_putP3 (M1 := mm_280) (RX11, TX11, 56) dX11_init_273 clX11 (j := 33) (by decide) tw_1248 (Or.inr ⟨rfl, rfl, rfl⟩) (Or.inr ⟨_, rfl⟩) ⟨by decide +kernel, by decide +kernel⟩ rfl ?_
  refine sp_aload_n dX11_init_276 rfl rfl ?_
  refine sp_bipush (v := 13) dX11_init_277 (by decide) ?_
  refine sp_newa2 (t := 1) (N := 13) (M1 := mm_281) 10 627 (Or.inr (Or.inl ⟨rfl, rfl⟩)) dX11_init_279 tw_330 (by decide) (by decide +kernel) (by decide) (show _ = 121 by decide +kernel) (by decide) rfl ?_
  refine sp_putP3 (M1 := mm_282) (RX11, TX11, 56) dX11_init_281 clX11 (j := 35) (by decide) tw_1250 (Or.inr ⟨rfl, rfl, rfl⟩) (Or.inr ⟨_, rfl⟩) ⟨by decide +kernel, by decide +kernel⟩ rfl ?_
  refine sp_aload_n dX11_init_284 rfl rfl ?_
  refine sp_bipush (v := 13) dX11_init_285 (by decide) ?_
  refine sp_newa2 (t := 1) (N := 13) (M1 := mm_283) 9 614 (Or.inr (Or.inl ⟨rfl, rfl⟩)) dX11_init_287 tw_330 (by decide) (by decide +kernel) (by decide) (show _ = 122 by decide +kernel) (by decide) rfl ?_
  refine sp_putP3 (M1 := mm_284) (RX11, TX11, 56) dX11_init_289 clX11 (j := 36) (by decide) tw_1251 (Or.inr ⟨rfl, rfl, rfl⟩) (Or.inr ⟨_, rfl⟩) ⟨by decide +kernel, by decide +kernel⟩ rfl ?_
  refine sp_aload_n dX11_init_292 rfl rfl ?_
  refine sp_sipush (v := 400) dX11_init_293 (by decide) ?_
  refine sp_newa2 (t := 1) (N := 400) (M1 := mm_285) 8 214 (Or.inr (Or.inl ⟨rfl, rfl⟩)) dX11_init_296 tw_330 (by decide) (by decide +kernel) (by decide) (show _ = 123 by decide +kernel) (by decide) rfl ?_
  refine sp_putP3 (M1 := mm_286) (RX11, TX11, 56) dX11_init_298 clX11 (j := 37) (by decide) tw_1252 (Or.inr ⟨rfl, rfl, rfl⟩) (Or.inr ⟨_, rfl⟩) ⟨by decide +kernel, by decide +kernel⟩ rfl ?_
  refine sp_aload_n dX11_init_301 rfl rfl ?_
  refine sp_bipush (v := 6) dX11_init_302 (by decide) ?_
  refine sp_newa2 (t := 0) (N := 6) (M1 := mm_287) 7 208 (Or.inl ⟨rfl, rfl⟩) dX11_init_304 tw_143 (by decide) (by decide +kernel) (by decide) (show _ = 124 by decide +kernel) (by decide) rfl ?_
  refine sp_putP3 (M1 := mm_288) (RX11, TX11, 56) dX11_init_306 clX11 (j := 41) (by decide) tw_1256 (Or.inr ⟨rfl, rfl, rfl⟩) (Or.inr ⟨_, rfl⟩) ⟨by decide +kernel, by decide +kernel⟩ rfl ?_
  refine sp_aload_n dX11_init_309 rfl rfl ?_
  refine sp_bipush (v := 6) dX11_init_310 (by decide) ?_
  refine sp_newa2 (t := 0) (N := 6) (M1 := mm_289) 6 202 (Or.inl ⟨rfl, rfl⟩) dX11_init_312 tw_143 (by decide) (by decide +kernel) (by decide) (show _ = 125 by decide +kernel) (by decide) rfl ?_
  refine sp_putP3 (M1 := mm_290) (RX11, TX11, 56) dX11_init_314 clX11 (j := 42) (by decide) tw_1257 (Or.inr ⟨rfl, rfl, rfl⟩) (Or.inr ⟨_, rfl⟩) ⟨by decide +kernel, by decide +kernel⟩ rfl ?_
  refine sp_aload_n dX11_init_317 rfl rfl ?_
  refine sp_bipush (v := 6) dX11_init_318 (by decide) ?_
  refine sp_newa2 (t := 0) (N := 6) (M1 := mm_291) 5 196 (Or.inl ⟨rfl, rfl⟩) dX11_init_320 tw_143 (by decide) (by decide +kernel) (by decide) (show _ = 126 by decide +kernel) (by decide) rfl ?_
  refine sp_putP3 (M1 := mm_292) (RX11, TX11, 56) dX11_init_322 clX11 (j := 43) (by decide) tw_1258 (Or.inr ⟨rfl, rfl, rfl⟩) (Or.inr ⟨_, rfl⟩) ⟨by decide +kernel, by decide +kernel⟩ rfl ?_
  refine sp_aload_n dX11_init_325 rfl rfl ?_
  refine sp_bipush (v := 25) dX11_init_326 (by decide) ?_
  refine sp_newa2 (t := 1) (N := 25) (M1 := mm_293) 4 171 (Or.inr (Or.inl ⟨rfl, rfl⟩)) dX11_init_328 tw_330 (by decide) (by decide +kernel) (by decide) (show _ = 127 by decide +kernel) (by decide) rfl ?_
  refine sp_putP3 (M1 := mm_294) (RX11, TX11, 56) dX11_init_330 clX11 (j := 44) (by decide) tw_1259 (Or.inr ⟨rfl, rfl, rfl⟩) (Or.inr ⟨_, rfl⟩) ⟨by decide +kernel, by decide +kernel⟩ rfl ?_
  refine sp_aload_n dX11_init_333 rfl rfl ?_
  refine sp_bipush (v := 25) dX11_init_334 (by decide) ?_
  refine sp_newa2 (t := 1) (N := 25) (M1 := mm_295) 3 146 (Or.inr (Or.inl ⟨rfl, rfl⟩)) dX11_init_336 tw_330 (by decide) (by decide +kernel) (by decide) (show _ = 128 by decide +kernel) (by decide) rfl ?_
  refine sp_putP3 (M1 := mm_296) (RX11, TX11, 56) dX11_init_338 clX11 (j := 45) (by decide) tw_1260 (Or.inr ⟨rfl, rfl, rfl⟩) (Or.inr ⟨_, rfl⟩) ⟨by decide +kernel, by decide +kernel⟩ rfl ?_
  refine sp_aload_n dX11_init_341 rfl rfl ?_
  refine sp_iconst (v := 4) dX11_init_342 (by decide) ?_
  refine sp_newa2 (t := 1) (N := 4) (M1 := mm_297) 2 142 (Or.inr (Or.inl ⟨rfl, rfl⟩)) dX11_init_343 tw_330 (by decide) (by decide +kernel) (by decide) (show _ = 129 by decide +kernel) (by decide) rfl ?_
  refine sp_dup dX11_init_345 rfl ?_
  refine sp_iconst (v := 0) dX11_init_346 (by decide) ?_
  refine sp_ldc2 (v := 99724) dX11_init_347 tw_1211 ?_
  refine sp_last3 (j := 0) (M1 := mm_298) dX11_init_350 ⟨by decide +kernel, by decide +kernel⟩ (by unfold vp_in; decide +kernel) (by decide +kernel) rfl ?_
  refine sp_dup dX11_init_351 rfl ?_
  refine sp_iconst (v := 1) dX11_init_352 (by decide) ?_
  refine sp_ldc2 (v := 755083) dX11_init_353 tw_1212 ?_
  refine sp_last3 (j := 1) (M1 := mm_299) dX11_init_356 ⟨by decide +kernel, by decide +kernel⟩ (by unfold vp_in; decide +kernel) (by decide +kernel) rfl ?_
  refine sp_dup dX11_init_357 rfl ?_
  refine sp_iconst (v := 2) dX11_init_358 (by decide) ?_
  refine sp_ldc2 (v := 23732) dX11_init_359 tw_1213 ?_
  refine sp_last3 (j := 2) (M1 := mm_300) dX11_init_362 ⟨by decide +kernel, by decide +kernel⟩ (by unfold vp_in; decide +kernel) (by decide +kernel) rfl ?_
  refine sp_dup dX11_init_363 rfl ?_
  refine sp_iconst (v := 3) dX11_init_364 (by decide) ?_
  refine sp_ldc2 (v := 525939) dX11_init_365 tw_1214 ?_
  refine sp_last3 (j := 3) (M1 := mm_301) dX11_init_368 ⟨by decide +kernel, by decide +kernel⟩ (by unfold vp_in; decide +kernel) (by decide +kernel) rfl ?_
  refine sp_putP3 (M1 := mm_302) (RX11, TX11, 56) dX11_init_369 clX11 (j := 46) (by decide) tw_1261 (Or.inr ⟨rfl, rfl, rfl⟩) (Or.inr ⟨_, rfl⟩) ⟨by decide +kernel, by decide +kernel⟩ rfl ?_
  refine sp_aload_n dX11_init_372 rfl rfl ?_
  refine sp_bipush (v := 96) dX11_init_373 (by decide) ?_
  refine sp_newa2 (t := 0) (N := 96) (M1 := mm_303) 1 46 (Or.inl ⟨rfl, rfl⟩) dX11_init_375 tw_143 (by decide) (by decide +kernel) (by decide) (show _ = 130 by decide +kernel) (by decide) rfl ?_
  refine sp_putP3 (M1 := mm_304) (RX11, TX11, 56) dX11_init_377 clX11 (j := 47) (by decide) tw_1262 (Or.inr ⟨rfl, rfl, rfl⟩) (Or.inr ⟨_, rfl⟩) ⟨by decide +kernel, by decide +kernel⟩ rfl ?_
  refine sp_aload_n dX11_init_380 rfl rfl ?_
  refine sp_iconst (v := (-1)) dX11_init_381 (by decide) ?_
  refine sp_putI3 (M1 := mm_305) (RX11, TX11, 56) dX11_init_382 clX11 (j := 50) (by decide) tw_1265 (Or.inl rfl) rfl ⟨by decide +kernel, by decide +kernel⟩ rfl ?_
  refine sp_aload_n dX11_init_385 rfl rfl ?_
  refine sp_bipush (v := 46) dX11_init_386 (by decide) ?_
  refine sp_newa2 (t := 0) (N := 46) (M1 := mm_306) 0 0 (Or.inl ⟨rfl, rfl⟩) dX11_init_388 tw_143 (by decide) (by decide +kernel) (by decide) (show _ = 131 by decide +kernel) (by decide) rfl ?_
  refine sp_putP3 (M1 := mm_307) (RX11, TX11, 56) dX11_init_390 clX11 (j := 53) (by decide) tw_1268 (Or.inr ⟨rfl, rfl, rfl⟩) (Or.inr ⟨_, rfl⟩) ⟨by decide +kernel, by decide +kernel⟩ rfl ?_
  refine sp_aload_n dX11_init_393 rfl rfl ?_
  refine sp_iconst (v := (-1)) dX11_init_394 (by decide) ?_
  refine sp_putI3 (M1 := mm_308) (RX11, TX11, 56) dX11_init_395 clX11 (j := 54) (by decide) tw_1269 (Or.inl rfl) rfl ⟨by decide +kernel, by decide +kernel⟩ rfl ?_
  refine sp_aload_n dX11_init_398 rfl rfl ?_
  refine sp_iconst (v := (-1)) dX11_init_399 (by decide) ?_
  refine sp_putI3 (M1 := mm_309) (RX11, TX11, 56) dX11_init_400 clX11 (j := 55) (by decide) tw_1270 (Or.inl rfl) rfl ⟨by decide +kernel, by decide +kernel⟩ rfl ?_
  refine sp_aload_n dX11_init_403 rfl rfl ?_
  refine sp_getR (RX11, TX11, 56) dX11_init_404 clX11 (j := 3) (a := 105) (by decide) tw_1218 ⟨by decide +kernel, by decide +kernel⟩ (Or.inr ⟨_, rfl⟩) (by decide +kernel) ?_
  refine sp_iconst (v := 4) dX11_init_407 (by decide) ?_
  refine sp_iconst (v := (-1)) dX11_init_408 (by decide) ?_
  refine sp_iast3 (j := 4) (M1 := mm_310) dX11_init_409 ⟨by decide +kernel, by decide +kernel⟩ (by unfold vp_in; decide +kernel) (by decide +kernel) rfl ?_
  refine sp_aload_n dX11_init_410 rfl rfl ?_
  refine sp_getR (RX11, TX11, 56) dX11_init_411 clX11 (j := 3) (a := 105) (by decide) tw_1218 ⟨by decide +kernel, by decide +kernel⟩ (Or.inr ⟨_, rfl⟩) (by decide +kernel) ?_
  refine sp_bipush (v := 6) dX11_init_414 (by decide) ?_
  refine sp_iconst (v := 1) dX11_init_416 (by decide) ?_
  refine sp_iast3 (j := 6) (M1 := mm_311) dX11_init_417 ⟨by decide +kernel, by decide +kernel⟩ (by unfold vp_in; decide +kernel) (by decide +kernel) rfl ?_
  exact sp_vret dX11_init_418 rfl (fun _ => hQ)
