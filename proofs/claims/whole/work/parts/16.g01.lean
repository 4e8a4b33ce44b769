def fX11_reckonAll_j95 (F : Nat) (kb : Int32 → Int32 → Int32 → sp_Mem → Option sp_Mem) (kx : Int32 → sp_Mem → Option sp_Mem) (a2 : Int32) (a3 : Int32) (a4 : Int32) (a5 : Int32) (s0 : Int32) (M : sp_Mem) : Option sp_Mem :=
  if 20 ≤ a5 then (if 28 ≤ a5 then (if a5 = 28 then ((sp_ix 400 (a3 - 1)).bind fun j15 => (sp_ix 400 (a3 - 1)).bind fun j16 => sp_do (sp_setL M 123 j16 (1 - (sp_L M 123 j15))) fun M17 => kb a2 a3 (a4 + 1) M17) else ((sp_ix 400 (a3 - 1)).bind fun j11 => if a5 = 29 then (if (sp_L M 123 j11) = 0 then (kb a2 a3 s0 M) else (kb a2 (a3 + (-1)) (a4 + 1) M)) else (if (sp_L M 123 j11) = 1 then (kb a2 a3 s0 M) else (kb a2 (a3 + (-1)) (a4 + 1) M)))) else ((sp_ix 400 ((a3 + (-1)) - 1)).bind fun j18 => (sp_ix 400 (a3 + (-1))).bind fun j19 => (fX11_reckon M a5 (sp_L M 123 j18) (sp_L M 123 j19)).bind fun x20 => (sp_ix 400 ((a3 + (-1)) - 1)).bind fun j21 => sp_do (sp_setL x20.2 123 j21 x20.1) fun M22 => if (sp_I M22 103 38) = 0 then ((sp_ix 400 ((a3 + (-1)) - 1)).bind fun j25 => sp_do (sp_setI M22 103 38 (if (fX11_in (sp_L M22 123 j25) (-1000000000) 1000000000) = 0 then 1 else 0)) fun M27 => kb a2 (a3 + (-1)) (a4 + 1) M27) else (sp_do (sp_setI M22 103 38 1) fun M24 => kb a2 (a3 + (-1)) (a4 + 1) M24))) else (if a5 = 0 then ((sp_ix 400 a3).bind fun j48 => sp_do (sp_setL M 123 j48 (Int32.toInt64 s0)) fun M49 => kb a2 (a3 + 1) (a4 + 1) M49) else (if (sp_I M 103 20) = 0 then ((sp_ix 13 a5).bind fun j45 => (sp_ix 400 a3).bind fun j46 => sp_do (sp_setL M 123 j46 (sp_L M 121 j45)) fun M47 => kb a2 (a3 + 1) (a4 + 1) M47) else (if 5 ≤ a5 then ((fX11_isSpark M s0).bind fun v31 => if v31 = 0 then ((sp_ix 400 a3).bind fun j40 => sp_do (sp_setL M 123 j40 (-1)) fun M41 => kb a2 (a3 + 1) (a4 + 1) M41) else (if a5 = 5 then ((sp_ix 5480 (15 + s0)).bind fun j37 => (sp_ix 400 a3).bind fun j38 => sp_do (sp_setL M 123 j38 (Int32.toInt64 (sp_I M 105 j37))) fun M39 => kb a2 (a3 + 1) (a4 + 1) M39) else ((sp_ix 5480 (9 + s0)).bind fun j34 => (sp_ix 400 a3).bind fun j35 => sp_do (sp_setL M 123 j35 (Int32.toInt64 (sp_I M 105 j34))) fun M36 => kb a2 (a3 + 1) (a4 + 1) M36))) else ((sp_ix 13 a5).bind fun j42 => (sp_ix 400 a3).bind fun j43 => sp_do (sp_setL M 123 j43 (sp_L M 122 j42)) fun M44 => kb a2 (a3 + 1) (a4 + 1) M44))))
def fX11_reckonAll_j57 (F : Nat) (kb : Int32 → Int32 → Int32 → sp_Mem → Option sp_Mem) (kx : Int32 → sp_Mem → Option sp_Mem) (a2 : Int32) (a3 : Int32) (a4 : Int32) (s0 : Int32) (M : sp_Mem) : Option sp_Mem :=
  if (sp_I M 103 20) = 0 then ((sp_ix 5480 ((((sp_I M 103 34) + 98) + (2 * a4)) + 1)).bind fun j7 => fX11_reckonAll_j95 F kb kx a2 a3 a4 s0 (sp_I M 105 j7) M) else ((sp_ix 400 a4).bind fun j50 => fX11_reckonAll_j95 F kb kx a2 a3 a4 s0 (sp_I M 115 j50) M)
def fX11_reckonAll_l10 (F : Nat) (kx : Int32 → sp_Mem → Option sp_Mem) : Nat → Int32 → Int32 → Int32 → sp_Mem → Option sp_Mem
  | 0, _, _, _, _ => none
  | n + 1, a2, a3, a4, M =>
  if a2 ≤ a4 then (kx a3 M) else (if (sp_I M 103 38) = 0 then (if (sp_I M 103 20) = 0 then ((sp_ix 5480 (((sp_I M 103 34) + 98) + (2 * a4))).bind fun j5 => fX11_reckonAll_j57 F (fX11_reckonAll_l10 F kx n) kx a2 a3 a4 (sp_I M 105 j5) M) else ((sp_ix 400 a4).bind fun j51 => fX11_reckonAll_j57 F (fX11_reckonAll_l10 F kx n) kx a2 a3 a4 (sp_I M 114 j51) M)) else (kx a3 M))
def fX11_reckonAll_j351 (F : Nat) (a3 : Int32) (M : sp_Mem) : Option sp_Mem :=
  if a3 ≤ 0 then (sp_do (sp_setL M 103 39 0) fun M55 => some M55) else (sp_do (sp_setL M 103 39 (sp_L M 123 0)) fun M56 => some M56)
def fX11_reckonAll (F : Nat) (M : sp_Mem) (a1 : Int32) (a2 : Int32) : Option sp_Mem :=
  sp_do (sp_setI M 103 38 0) fun M1 => fX11_reckonAll_l10 F (fun b53 M52 => fX11_reckonAll_j351 F b53 M52) F a2 0 a1 M1
set_option maxRecDepth 100000 in
set_option maxHeartbeats 4000000 in
theorem tX11_reckonAll_j95 {g : sp_G} {Ω : sp_Mem → Prop} {Q : sp_Qt} {F : Nat} {p : sp_Mem} (hG : sp_Ok Ω)  {kb : Int32 → Int32 → Int32 → sp_Mem → Option sp_Mem} {kx : Int32 → sp_Mem → Option sp_Mem} (hQ : Q none p) (hb : ∀ (a2 : Int32) (a3 : Int32) (a4 : Int32) (M : sp_Mem), kb a2 a3 a4 M = some p → sp_Wp g Ω mX11_reckonAll 0 0 10 [some (.ref 103), none, some (.int a2), some (.int a3), some (.int a4), none, none] [] M Q) (hx : ∀ (a3 : Int32) (M : sp_Mem), kx a3 M = some p → sp_Wp g Ω mX11_reckonAll 0 0 351 [some (.ref 103), none, none, some (.int a3), none, none, none] [] M Q) (a2 : Int32) (a3 : Int32) (a4 : Int32) (a5 : Int32) (s0 : Int32) (M : sp_Mem) (h : fX11_reckonAll_j95 F kb kx a2 a3 a4 a5 s0 M = some p) : sp_Wp g Ω mX11_reckonAll 0 0 95 [some (.ref 103), none, some (.int a2), some (.int a3), some (.int a4), some (.int a5), none] [.int s0] M Q := by
  unfold fX11_reckonAll_j95 at h
  refine sp_istore [some (.ref 103), none, some (.int a2), some (.int a3), some (.int a4), some (.int a5), some (.int s0)] dX11_reckonAll_95 (by decide) rfl ?_
  refine sp_iinc (v := (a4 + 1)) [some (.ref 103), none, some (.int a2), some (.int a3), some (.int (a4 + 1)), some (.int a5), some (.int s0)] dX11_reckonAll_97 rfl rfl (by decide) rfl ?_
  refine sp_iload dX11_reckonAll_100 rfl ?_
  refine sp_bipush (v := 20) dX11_reckonAll_102 (by decide) ?_
  refine sp_icmp_ge (tgt := 209) dX11_reckonAll_104 (by decide) (fun hc8 => ?_) (fun hc8 => ?_)
  · have h := (if_pos hc8).symm.trans h
    refine sp_iload dX11_reckonAll_209 rfl ?_
    refine sp_bipush (v := 28) dX11_reckonAll_211 (by decide) ?_
    refine sp_icmp_ge (tgt := 286) dX11_reckonAll_213 (by decide) (fun hc9 => ?_) (fun hc9 => ?_)
    · have h := (if_pos hc9).symm.trans h
      refine sp_iload dX11_reckonAll_286 rfl ?_
      refine sp_bipush (v := 28) dX11_reckonAll_288 (by decide) ?_
      refine sp_icmp_ne (tgt := 314) dX11_reckonAll_290 (by decide) (fun hc10 => ?_) (fun hc10 => ?_)
      · have h := (if_neg hc10).symm.trans h
        refine sp_aload_n dX11_reckonAll_314 rfl rfl ?_
        refine sp_use (fun ho => ?_)
        have hs := hG.1 _ ho
        refine sp_getR (RX11, TX11, 56) dX11_reckonAll_315 clX11 (j := 37) (by decide) tw_1252 (wsI_103 hs) (Or.inr ⟨_, rfl⟩) (wsP_103_37 hs) ?_
        refine sp_iload_n dX11_reckonAll_318 rfl rfl ?_
        refine sp_iconst (v := 1) dX11_reckonAll_319 (by decide) ?_
        refine sp_isub dX11_reckonAll_320 ?_
        obtain ⟨j11, hj11, h⟩ := Option.bind_eq_some_iff.mp h
        refine sp_lald2 (j := j11) dX11_reckonAll_321 (wsA_123 hs) (wsN_123 hs) hj11 ?_
        refine sp_iload dX11_reckonAll_322 rfl ?_
        refine sp_bipush (v := 29) dX11_reckonAll_324 (by decide) ?_
        refine sp_icmp_ne (tgt := 333) dX11_reckonAll_326 (by decide) (fun hc12 => ?_) (fun hc12 => ?_)
        · have h := (if_neg hc12).symm.trans h
          refine sp_lconst (v := 1) dX11_reckonAll_333 (by decide) ?_
          refine sp_lcmp dX11_reckonAll_334 ?_
          refine sp_lif_ne (tgt := 345) dX11_reckonAll_335 (by decide) (fun hc13 => ?_) (fun hc13 => ?_)
          · have h := (if_neg hc13).symm.trans h
            refine sp_iinc (v := (a3 + (-1))) [some (.ref 103), none, some (.int a2), some (.int (a3 + (-1))), some (.int (a4 + 1)), some (.int a5), some (.int s0)] dX11_reckonAll_345 rfl rfl (by decide) rfl ?_
            refine sp_goto (tgt := 10) dX11_reckonAll_348 (by decide) ?_
            refine sp_weak [true, false, true, true, true, false, false] [some (.ref 103), none, some (.int a2), some (.int (a3 + (-1))), some (.int (a4 + 1)), none, none] rfl ?_
            exact hb _ _ _ _ h
          · have h := (if_pos hc13).symm.trans h
            refine sp_iload dX11_reckonAll_338 rfl ?_
            refine sp_istore [some (.ref 103), none, some (.int a2), some (.int a3), some (.int s0), some (.int a5), some (.int s0)] dX11_reckonAll_340 (by decide) rfl ?_
            refine sp_goto (tgt := 348) dX11_reckonAll_342 (by decide) ?_
            refine sp_goto (tgt := 10) dX11_reckonAll_348 (by decide) ?_
            refine sp_weak [true, false, true, true, true, false, false] [some (.ref 103), none, some (.int a2), some (.int a3), some (.int s0), none, none] rfl ?_
            exact hb _ _ _ _ h
        · have h := (if_pos hc12).symm.trans h
          refine sp_lconst (v := 0) dX11_reckonAll_329 (by decide) ?_
          refine sp_goto (tgt := 334) dX11_reckonAll_330 (by decide) ?_
          refine sp_lcmp dX11_reckonAll_334 ?_
          refine sp_lif_ne (tgt := 345) dX11_reckonAll_335 (by decide) (fun hc14 => ?_) (fun hc14 => ?_)
          · have h := (if_neg hc14).symm.trans h
            refine sp_iinc (v := (a3 + (-1))) [some (.ref 103), none, some (.int a2), some (.int (a3 + (-1))), some (.int (a4 + 1)), some (.int a5), some (.int s0)] dX11_reckonAll_345 rfl rfl (by decide) rfl ?_
            refine sp_goto (tgt := 10) dX11_reckonAll_348 (by decide) ?_
            refine sp_weak [true, false, true, true, true, false, false] [some (.ref 103), none, some (.int a2), some (.int (a3 + (-1))), some (.int (a4 + 1)), none, none] rfl ?_
            exact hb _ _ _ _ h
          · have h := (if_pos hc14).symm.trans h
            refine sp_iload dX11_reckonAll_338 rfl ?_
            refine sp_istore [some (.ref 103), none, some (.int a2), some (.int a3), some (.int s0), some (.int a5), some (.int s0)] dX11_reckonAll_340 (by decide) rfl ?_
            refine sp_goto (tgt := 348) dX11_reckonAll_342 (by decide) ?_
            refine sp_goto (tgt := 10) dX11_reckonAll_348 (by decide) ?_
            refine sp_weak [true, false, true, true, true, false, false] [some (.ref 103), none, some (.int a2), some (.int a3), some (.int s0), none, none] rfl ?_
            exact hb _ _ _ _ h
      · have h := (if_pos hc10).symm.trans h
        refine sp_aload_n dX11_reckonAll_293 rfl rfl ?_
        refine sp_use (fun ho => ?_)
        have hs := hG.1 _ ho
        refine sp_getR (RX11, TX11, 56) dX11_reckonAll_294 clX11 (j := 37) (by decide) tw_1252 (wsI_103 hs) (Or.inr ⟨_, rfl⟩) (wsP_103_37 hs) ?_
        refine sp_iload_n dX11_reckonAll_297 rfl rfl ?_
        refine sp_iconst (v := 1) dX11_reckonAll_298 (by decide) ?_
        refine sp_isub dX11_reckonAll_299 ?_
        refine sp_lconst (v := 1) dX11_reckonAll_300 (by decide) ?_
        refine sp_aload_n dX11_reckonAll_301 rfl rfl ?_
        refine sp_getR (RX11, TX11, 56) dX11_reckonAll_302 clX11 (j := 37) (by decide) tw_1252 (wsI_103 hs) (Or.inr ⟨_, rfl⟩) (wsP_103_37 hs) ?_
        refine sp_iload_n dX11_reckonAll_305 rfl rfl ?_
        refine sp_iconst (v := 1) dX11_reckonAll_306 (by decide) ?_
        refine sp_isub dX11_reckonAll_307 ?_
        obtain ⟨j15, hj15, h⟩ := Option.bind_eq_some_iff.mp h
        refine sp_lald2 (j := j15) dX11_reckonAll_308 (wsA_123 hs) (wsN_123 hs) hj15 ?_
        refine sp_lsub dX11_reckonAll_309 ?_
        obtain ⟨j16, hj16, h⟩ := Option.bind_eq_some_iff.mp h
        obtain ⟨M17, hM17, h⟩ := sp_do_e h
        refine sp_last2 (j := j16) hG dX11_reckonAll_310 (wsA_123 hs) (wsN_123 hs) hj16 hM17 ?_
        refine sp_goto (tgt := 348) dX11_reckonAll_311 (by decide) ?_
        refine sp_goto (tgt := 10) dX11_reckonAll_348 (by decide) ?_
        refine sp_weak [true, false, true, true, true, false, false] [some (.ref 103), none, some (.int a2), some (.int a3), some (.int (a4 + 1)), none, none] rfl ?_
        exact hb _ _ _ _ h
    · have h := (if_neg hc9).symm.trans h
      refine sp_iinc (v := (a3 + (-1))) [some (.ref 103), none, some (.int a2), some (.int (a3 + (-1))), some (.int (a4 + 1)), some (.int a5), some (.int s0)] dX11_reckonAll_216 rfl rfl (by decide) rfl ?_
      refine sp_aload_n dX11_reckonAll_219 rfl rfl ?_
      refine sp_use (fun ho => ?_)
      have hs := hG.1 _ ho
      refine sp_getR (RX11, TX11, 56) dX11_reckonAll_220 clX11 (j := 37) (by decide) tw_1252 (wsI_103 hs) (Or.inr ⟨_, rfl⟩) (wsP_103_37 hs) ?_
      refine sp_iload_n dX11_reckonAll_223 rfl rfl ?_
      refine sp_iconst (v := 1) dX11_reckonAll_224 (by decide) ?_
      refine sp_isub dX11_reckonAll_225 ?_
      refine sp_aload_n dX11_reckonAll_226 rfl rfl ?_
      refine sp_iload dX11_reckonAll_227 rfl ?_
      refine sp_aload_n dX11_reckonAll_229 rfl rfl ?_
      refine sp_getR (RX11, TX11, 56) dX11_reckonAll_230 clX11 (j := 37) (by decide) tw_1252 (wsI_103 hs) (Or.inr ⟨_, rfl⟩) (wsP_103_37 hs) ?_
      refine sp_iload_n dX11_reckonAll_233 rfl rfl ?_
      refine sp_iconst (v := 1) dX11_reckonAll_234 (by decide) ?_
      refine sp_isub dX11_reckonAll_235 ?_
      obtain ⟨j18, hj18, h⟩ := Option.bind_eq_some_iff.mp h
      refine sp_lald2 (j := j18) dX11_reckonAll_236 (wsA_123 hs) (wsN_123 hs) hj18 ?_
      refine sp_aload_n dX11_reckonAll_237 rfl rfl ?_
      refine sp_getR (RX11, TX11, 56) dX11_reckonAll_238 clX11 (j := 37) (by decide) tw_1252 (wsI_103 hs) (Or.inr ⟨_, rfl⟩) (wsP_103_37 hs) ?_
      refine sp_iload_n dX11_reckonAll_241 rfl rfl ?_
      obtain ⟨j19, hj19, h⟩ := Option.bind_eq_some_iff.mp h
      refine sp_lald2 (j := j19) dX11_reckonAll_242 (wsA_123 hs) (wsN_123 hs) hj19 ?_
      obtain ⟨x20, hx20, h⟩ := Option.bind_eq_some_iff.mp h
      refine sp_cV (M1 := x20.2) (r := some (.long x20.1)) (o := 103) (st := [.int ((a3 + (-1)) - 1), .ref 123]) (c := 10) (RX11, TX11, 56) [.int a5, .long (sp_L M 123 j18), .long (sp_L M 123 j19)] [.long (sp_L M 123 j19), .long (sp_L M 123 j18), .int a5, .ref 103, .int ((a3 + (-1)) - 1), .ref 123] [.long x20.1, .int ((a3 + (-1)) - 1), .ref 123] dX11_reckonAll_243 okX11_reckon tw_1452 tw_1454 tw_36 (by decide) (by decide) rfl (Nat.le_of_ble_eq_true rfl) rfl rfl rfl rfl (wsI_103 hs) (fun Q hQ => tX11_reckon hG hx20 hQ) ?_
      refine sp_use (fun ho => ?_)
      have hs := hG.1 _ ho
      obtain ⟨j21, hj21, h⟩ := Option.bind_eq_some_iff.mp h
      obtain ⟨M22, hM22, h⟩ := sp_do_e h
      refine sp_last2 (j := j21) hG dX11_reckonAll_246 (wsA_123 hs) (wsN_123 hs) hj21 hM22 ?_
      refine sp_aload_n dX11_reckonAll_247 rfl rfl ?_
      refine sp_aload_n dX11_reckonAll_248 rfl rfl ?_
      refine sp_use (fun ho => ?_)
      have hs := hG.1 _ ho
      refine sp_getI (RX11, TX11, 56) dX11_reckonAll_249 clX11 (j := 38) (by decide) tw_1253 (wsI_103 hs) (Or.inr rfl) ?_
      refine sp_if_ne (tgt := 275) dX11_reckonAll_252 (by decide) (fun hc23 => ?_) (fun hc23 => ?_)
      · have h := (if_neg hc23).symm.trans h
        refine sp_iconst (v := 1) dX11_reckonAll_275 (by decide) ?_
        refine sp_goto (tgt := 280) dX11_reckonAll_276 (by decide) ?_
        obtain ⟨M24, hM24, h⟩ := sp_do_e h
        refine sp_putI2 (RX11, TX11, 56) hG dX11_reckonAll_280 clX11 (j := 38) (by decide) tw_1253 rfl (Or.inr ⟨rfl, (Or.inr rfl)⟩) (wsI_103 hs) hM24 ?_
        refine sp_goto (tgt := 348) dX11_reckonAll_283 (by decide) ?_
        refine sp_goto (tgt := 10) dX11_reckonAll_348 (by decide) ?_
        refine sp_weak [true, false, true, true, true, false, false] [some (.ref 103), none, some (.int a2), some (.int (a3 + (-1))), some (.int (a4 + 1)), none, none] rfl ?_
        exact hb _ _ _ _ h
      · have h := (if_pos hc23).symm.trans h
        refine sp_aload_n dX11_reckonAll_255 rfl rfl ?_
        refine sp_getR (RX11, TX11, 56) dX11_reckonAll_256 clX11 (j := 37) (by decide) tw_1252 (wsI_103 hs) (Or.inr ⟨_, rfl⟩) (wsP_103_37 hs) ?_
        refine sp_iload_n dX11_reckonAll_259 rfl rfl ?_
        refine sp_iconst (v := 1) dX11_reckonAll_260 (by decide) ?_
        refine sp_isub dX11_reckonAll_261 ?_
        obtain ⟨j25, hj25, h⟩ := Option.bind_eq_some_iff.mp h
        refine sp_lald2 (j := j25) dX11_reckonAll_262 (wsA_123 hs) (wsN_123 hs) hj25 ?_
        refine sp_ldc2 (v := (-1000000000)) dX11_reckonAll_263 tw_1456 ?_
        refine sp_ldc2 (v := 1000000000) dX11_reckonAll_266 tw_1457 ?_
        refine sp_cS (M1 := M22) (r := some (.int (fX11_in (sp_L M22 123 j25) (-1000000000) 1000000000))) (st := [.ref 103]) [.long (sp_L M22 123 j25), .long (-1000000000), .long 1000000000] [.long 1000000000, .long (-1000000000), .long (sp_L M22 123 j25), .ref 103] [.int (fX11_in (sp_L M22 123 j25) (-1000000000) 1000000000), .ref 103] dX11_reckonAll_269 okX11_in tw_1400 tw_1401 (by decide) (by decide) rfl (Nat.le_of_ble_eq_true rfl) rfl rfl (fun Q hQ => tX11_in hG rfl hQ) ?_
        suffices hj : sp_Wp g Ω mX11_reckonAll 0 0 280 [some (.ref 103), none, some (.int a2), some (.int (a3 + (-1))), some (.int (a4 + 1)), none, none] [.int (if (fX11_in (sp_L M22 123 j25) (-1000000000) 1000000000) = 0 then 1 else 0), .ref 103] M22 Q by
          refine sp_if_ne (tgt := 279) dX11_reckonAll_272 (by decide) (fun hc26 => ?_) (fun hc26 => ?_)
          · refine sp_iconst (v := 0) dX11_reckonAll_279 (by decide) ?_
            refine sp_weak [true, false, true, true, true, false, false] [some (.ref 103), none, some (.int a2), some (.int (a3 + (-1))), some (.int (a4 + 1)), none, none] rfl ?_
            simp only [if_neg hc26] at hj
            exact hj
          · refine sp_iconst (v := 1) dX11_reckonAll_275 (by decide) ?_
            refine sp_goto (tgt := 280) dX11_reckonAll_276 (by decide) ?_
            refine sp_weak [true, false, true, true, true, false, false] [some (.ref 103), none, some (.int a2), some (.int (a3 + (-1))), some (.int (a4 + 1)), none, none] rfl ?_
            simp only [if_pos hc26] at hj
            exact hj
        obtain ⟨M27, hM27, h⟩ := sp_do_e h
        refine sp_putI2 (RX11, TX11, 56) hG dX11_reckonAll_280 clX11 (j := 38) (by decide) tw_1253 rfl (Or.inr ⟨rfl, (by repeat (first | exact Or.inl rfl | exact Or.inr rfl | split))⟩) (wsI_103 hs) hM27 ?_
        refine sp_goto (tgt := 348) dX11_reckonAll_283 (by decide) ?_
        refine sp_goto (tgt := 10) dX11_reckonAll_348 (by decide) ?_
        refine sp_weak [true, false, true, true, true, false, false] [some (.ref 103), none, some (.int a2), some (.int (a3 + (-1))), some (.int (a4 + 1)), none, none] rfl ?_
        exact hb _ _ _ _ h
  · have h := (if_neg hc8).symm.trans h
    refine sp_aload_n dX11_reckonAll_107 rfl rfl ?_
    refine sp_use (fun ho => ?_)
    have hs := hG.1 _ ho
    refine sp_getR (RX11, TX11, 56) dX11_reckonAll_108 clX11 (j := 37) (by decide) tw_1252 (wsI_103 hs) (Or.inr ⟨_, rfl⟩) (wsP_103_37 hs) ?_
    refine sp_iload_n dX11_reckonAll_111 rfl rfl ?_
    refine sp_iload dX11_reckonAll_112 rfl ?_
    refine sp_if_ne (tgt := 123) dX11_reckonAll_114 (by decide) (fun hc28 => ?_) (fun hc28 => ?_)
    · have h := (if_neg hc28).symm.trans h
      refine sp_aload_n dX11_reckonAll_123 rfl rfl ?_
      refine sp_getI (RX11, TX11, 56) dX11_reckonAll_124 clX11 (j := 20) (by decide) tw_1235 (wsI_103 hs) (Or.inr rfl) ?_
      refine sp_if_ne (tgt := 140) dX11_reckonAll_127 (by decide) (fun hc29 => ?_) (fun hc29 => ?_)
      · have h := (if_neg hc29).symm.trans h
        refine sp_iload dX11_reckonAll_140 rfl ?_
        refine sp_iconst (v := 5) dX11_reckonAll_142 (by decide) ?_
        refine sp_icmp_ge (tgt := 156) dX11_reckonAll_143 (by decide) (fun hc30 => ?_) (fun hc30 => ?_)
        · have h := (if_pos hc30).symm.trans h
          refine sp_aload_n dX11_reckonAll_156 rfl rfl ?_
          refine sp_iload dX11_reckonAll_157 rfl ?_
          obtain ⟨v31, hv31, h⟩ := Option.bind_eq_some_iff.mp h
          refine sp_cV (M1 := M) (r := some (.int v31)) (o := 103) (st := [.int a3, .ref 123]) (c := 10) (RX11, TX11, 56) [.int s0] [.int s0, .ref 103, .int a3, .ref 123] [.int v31, .int a3, .ref 123] dX11_reckonAll_159 okX11_isSpark tw_1424 tw_1426 tw_30 (by decide) (by decide) rfl (Nat.le_of_ble_eq_true rfl) rfl rfl rfl rfl (wsI_103 hs) (fun Q hQ => tX11_isSpark hG hv31 hQ) ?_
          refine sp_if_ne (tgt := 171) dX11_reckonAll_162 (by decide) (fun hc32 => ?_) (fun hc32 => ?_)
          · have h := (if_neg hc32).symm.trans h
            refine sp_iload dX11_reckonAll_171 rfl ?_
            refine sp_iconst (v := 5) dX11_reckonAll_173 (by decide) ?_
            refine sp_icmp_ne (tgt := 191) dX11_reckonAll_174 (by decide) (fun hc33 => ?_) (fun hc33 => ?_)
            · have h := (if_neg hc33).symm.trans h
              refine sp_aload_n dX11_reckonAll_191 rfl rfl ?_
              refine sp_getR (RX11, TX11, 56) dX11_reckonAll_192 clX11 (j := 3) (by decide) tw_1218 (wsI_103 hs) (Or.inr ⟨_, rfl⟩) (wsP_103_3 hs) ?_
              refine sp_bipush (v := 9) dX11_reckonAll_195 (by decide) ?_
              refine sp_iload dX11_reckonAll_197 rfl ?_
              refine sp_iadd dX11_reckonAll_199 ?_
              obtain ⟨j34, hj34, h⟩ := Option.bind_eq_some_iff.mp h
              refine sp_iald2 (j := j34) dX11_reckonAll_200 (wsA_105 hs) (wsN_105 hs) hj34 ?_
              refine sp_i2l dX11_reckonAll_201 ?_
              obtain ⟨j35, hj35, h⟩ := Option.bind_eq_some_iff.mp h
              obtain ⟨M36, hM36, h⟩ := sp_do_e h
              refine sp_last2 (j := j35) hG dX11_reckonAll_202 (wsA_123 hs) (wsN_123 hs) hj35 hM36 ?_
              refine sp_iinc (v := (a3 + 1)) [some (.ref 103), none, some (.int a2), some (.int (a3 + 1)), some (.int (a4 + 1)), some (.int a5), some (.int s0)] dX11_reckonAll_203 rfl rfl (by decide) rfl ?_
              refine sp_goto (tgt := 348) dX11_reckonAll_206 (by decide) ?_
              refine sp_goto (tgt := 10) dX11_reckonAll_348 (by decide) ?_
              refine sp_weak [true, false, true, true, true, false, false] [some (.ref 103), none, some (.int a2), some (.int (a3 + 1)), some (.int (a4 + 1)), none, none] rfl ?_
              exact hb _ _ _ _ h
            · have h := (if_pos hc33).symm.trans h
              refine sp_aload_n dX11_reckonAll_177 rfl rfl ?_
              refine sp_getR (RX11, TX11, 56) dX11_reckonAll_178 clX11 (j := 3) (by decide) tw_1218 (wsI_103 hs) (Or.inr ⟨_, rfl⟩) (wsP_103_3 hs) ?_
              refine sp_bipush (v := 15) dX11_reckonAll_181 (by decide) ?_
              refine sp_iload dX11_reckonAll_183 rfl ?_
              refine sp_iadd dX11_reckonAll_185 ?_
              obtain ⟨j37, hj37, h⟩ := Option.bind_eq_some_iff.mp h
              refine sp_iald2 (j := j37) dX11_reckonAll_186 (wsA_105 hs) (wsN_105 hs) hj37 ?_
              refine sp_i2l dX11_reckonAll_187 ?_
              refine sp_goto (tgt := 202) dX11_reckonAll_188 (by decide) ?_
              obtain ⟨j38, hj38, h⟩ := Option.bind_eq_some_iff.mp h
              obtain ⟨M39, hM39, h⟩ := sp_do_e h
              refine sp_last2 (j := j38) hG dX11_reckonAll_202 (wsA_123 hs) (wsN_123 hs) hj38 hM39 ?_
              refine sp_iinc (v := (a3 + 1)) [some (.ref 103), none, some (.int a2), some (.int (a3 + 1)), some (.int (a4 + 1)), some (.int a5), some (.int s0)] dX11_reckonAll_203 rfl rfl (by decide) rfl ?_
              refine sp_goto (tgt := 348) dX11_reckonAll_206 (by decide) ?_
              refine sp_goto (tgt := 10) dX11_reckonAll_348 (by decide) ?_
              refine sp_weak [true, false, true, true, true, false, false] [some (.ref 103), none, some (.int a2), some (.int (a3 + 1)), some (.int (a4 + 1)), none, none] rfl ?_
              exact hb _ _ _ _ h
          · have h := (if_pos hc32).symm.trans h
            refine sp_ldc2 (v := (-1)) dX11_reckonAll_165 tw_1451 ?_
            refine sp_goto (tgt := 202) dX11_reckonAll_168 (by decide) ?_
            obtain ⟨j40, hj40, h⟩ := Option.bind_eq_some_iff.mp h
            obtain ⟨M41, hM41, h⟩ := sp_do_e h
            refine sp_last2 (j := j40) hG dX11_reckonAll_202 (wsA_123 hs) (wsN_123 hs) hj40 hM41 ?_
            refine sp_iinc (v := (a3 + 1)) [some (.ref 103), none, some (.int a2), some (.int (a3 + 1)), some (.int (a4 + 1)), some (.int a5), some (.int s0)] dX11_reckonAll_203 rfl rfl (by decide) rfl ?_
            refine sp_goto (tgt := 348) dX11_reckonAll_206 (by decide) ?_
            refine sp_goto (tgt := 10) dX11_reckonAll_348 (by decide) ?_
            refine sp_weak [true, false, true, true, true, false, false] [some (.ref 103), none, some (.int a2), some (.int (a3 + 1)), some (.int (a4 + 1)), none, none] rfl ?_
            exact hb _ _ _ _ h
        · have h := (if_neg hc30).symm.trans h
          refine sp_aload_n dX11_reckonAll_146 rfl rfl ?_
          refine sp_getR (RX11, TX11, 56) dX11_reckonAll_147 clX11 (j := 36) (by decide) tw_1251 (wsI_103 hs) (Or.inr ⟨_, rfl⟩) (wsP_103_36 hs) ?_
          refine sp_iload dX11_reckonAll_150 rfl ?_
          obtain ⟨j42, hj42, h⟩ := Option.bind_eq_some_iff.mp h
          refine sp_lald2 (j := j42) dX11_reckonAll_152 (wsA_122 hs) (wsN_122 hs) hj42 ?_
          refine sp_goto (tgt := 202) dX11_reckonAll_153 (by decide) ?_
          obtain ⟨j43, hj43, h⟩ := Option.bind_eq_some_iff.mp h
          obtain ⟨M44, hM44, h⟩ := sp_do_e h
          refine sp_last2 (j := j43) hG dX11_reckonAll_202 (wsA_123 hs) (wsN_123 hs) hj43 hM44 ?_
          refine sp_iinc (v := (a3 + 1)) [some (.ref 103), none, some (.int a2), some (.int (a3 + 1)), some (.int (a4 + 1)), some (.int a5), some (.int s0)] dX11_reckonAll_203 rfl rfl (by decide) rfl ?_
          refine sp_goto (tgt := 348) dX11_reckonAll_206 (by decide) ?_
          refine sp_goto (tgt := 10) dX11_reckonAll_348 (by decide) ?_
          refine sp_weak [true, false, true, true, true, false, false] [some (.ref 103), none, some (.int a2), some (.int (a3 + 1)), some (.int (a4 + 1)), none, none] rfl ?_
          exact hb _ _ _ _ h
      · have h := (if_pos hc29).symm.trans h
        refine sp_aload_n dX11_reckonAll_130 rfl rfl ?_
        refine sp_getR (RX11, TX11, 56) dX11_reckonAll_131 clX11 (j := 35) (by decide) tw_1250 (wsI_103 hs) (Or.inr ⟨_, rfl⟩) (wsP_103_35 hs) ?_
        refine sp_iload dX11_reckonAll_134 rfl ?_
        obtain ⟨j45, hj45, h⟩ := Option.bind_eq_some_iff.mp h
        refine sp_lald2 (j := j45) dX11_reckonAll_136 (wsA_121 hs) (wsN_121 hs) hj45 ?_
        refine sp_goto (tgt := 202) dX11_reckonAll_137 (by decide) ?_
        obtain ⟨j46, hj46, h⟩ := Option.bind_eq_some_iff.mp h
        obtain ⟨M47, hM47, h⟩ := sp_do_e h
        refine sp_last2 (j := j46) hG dX11_reckonAll_202 (wsA_123 hs) (wsN_123 hs) hj46 hM47 ?_
        refine sp_iinc (v := (a3 + 1)) [some (.ref 103), none, some (.int a2), some (.int (a3 + 1)), some (.int (a4 + 1)), some (.int a5), some (.int s0)] dX11_reckonAll_203 rfl rfl (by decide) rfl ?_
        refine sp_goto (tgt := 348) dX11_reckonAll_206 (by decide) ?_
        refine sp_goto (tgt := 10) dX11_reckonAll_348 (by decide) ?_
        refine sp_weak [true, false, true, true, true, false, false] [some (.ref 103), none, some (.int a2), some (.int (a3 + 1)), some (.int (a4 + 1)), none, none] rfl ?_
        exact hb _ _ _ _ h
    · have h := (if_pos hc28).symm.trans h
      refine sp_iload dX11_reckonAll_117 rfl ?_
      refine sp_i2l dX11_reckonAll_119 ?_
      refine sp_goto (tgt := 202) dX11_reckonAll_120 (by decide) ?_
      obtain ⟨j48, hj48, h⟩ := Option.bind_eq_some_iff.mp h
      obtain ⟨M49, hM49, h⟩ := sp_do_e h
      refine sp_last2 (j := j48) hG dX11_reckonAll_202 (wsA_123 hs) (wsN_123 hs) hj48 hM49 ?_
      refine sp_iinc (v := (a3 + 1)) [some (.ref 103), none, some (.int a2), some (.int (a3 + 1)), some (.int (a4 + 1)), some (.int a5), some (.int s0)] dX11_reckonAll_203 rfl rfl (by decide) rfl ?_
      refine sp_goto (tgt := 348) dX11_reckonAll_206 (by decide) ?_
      refine sp_goto (tgt := 10) dX11_reckonAll_348 (by decide) ?_
      refine sp_weak [true, false, true, true, true, false, false] [some (.ref 103), none, some (.int a2), some (.int (a3 + 1)), some (.int (a4 + 1)), none, none] rfl ?_
      exact hb _ _ _ _ h
set_option maxRecDepth 100000 in
set_option maxHeartbeats 4000000 in
theorem tX11_reckonAll_j57 {g : sp_G} {Ω : sp_Mem → Prop} {Q : sp_Qt} {F : Nat} {p : sp_Mem} (hG : sp_Ok Ω)  {kb : Int32 → Int32 → Int32 → sp_Mem → Option sp_Mem} {kx : Int32 → sp_Mem → Option sp_Mem} (hQ : Q none p) (hb : ∀ (a2 : Int32) (a3 : Int32) (a4 : Int32) (M : sp_Mem), kb a2 a3 a4 M = some p → sp_Wp g Ω mX11_reckonAll 0 0 10 [some (.ref 103), none, some (.int a2), some (.int a3), some (.int a4), none, none] [] M Q) (hx : ∀ (a3 : Int32) (M : sp_Mem), kx a3 M = some p → sp_Wp g Ω mX11_reckonAll 0 0 351 [some (.ref 103), none, none, some (.int a3), none, none, none] [] M Q) (a2 : Int32) (a3 : Int32) (a4 : Int32) (s0 : Int32) (M : sp_Mem) (h : fX11_reckonAll_j57 F kb kx a2 a3 a4 s0 M = some p) : sp_Wp g Ω mX11_reckonAll 0 0 57 [some (.ref 103), none, some (.int a2), some (.int a3), some (.int a4), none, none] [.int s0] M Q := by
  unfold fX11_reckonAll_j57 at h
  refine sp_istore [some (.ref 103), none, some (.int a2), some (.int a3), some (.int a4), some (.int s0), none] dX11_reckonAll_57 (by decide) rfl ?_
  refine sp_aload_n dX11_reckonAll_59 rfl rfl ?_
  refine sp_use (fun ho => ?_)
  have hs := hG.1 _ ho
  refine sp_getI (RX11, TX11, 56) dX11_reckonAll_60 clX11 (j := 20) (by decide) tw_1235 (wsI_103 hs) (Or.inr rfl) ?_
  refine sp_if_eq (tgt := 76) dX11_reckonAll_63 (by decide) (fun hc6 => ?_) (fun hc6 => ?_)
  · have h := (if_pos hc6).symm.trans h
    refine sp_aload_n dX11_reckonAll_76 rfl rfl ?_
    refine sp_getR (RX11, TX11, 56) dX11_reckonAll_77 clX11 (j := 3) (by decide) tw_1218 (wsI_103 hs) (Or.inr ⟨_, rfl⟩) (wsP_103_3 hs) ?_
    refine sp_aload_n dX11_reckonAll_80 rfl rfl ?_
    refine sp_getI (RX11, TX11, 56) dX11_reckonAll_81 clX11 (j := 34) (by decide) tw_1249 (wsI_103 hs) (Or.inl rfl) ?_
    refine sp_bipush (v := 98) dX11_reckonAll_84 (by decide) ?_
    refine sp_iadd dX11_reckonAll_86 ?_
    refine sp_iconst (v := 2) dX11_reckonAll_87 (by decide) ?_
    refine sp_iload dX11_reckonAll_88 rfl ?_
    refine sp_imul dX11_reckonAll_90 ?_
    refine sp_iadd dX11_reckonAll_91 ?_
    refine sp_iconst (v := 1) dX11_reckonAll_92 (by decide) ?_
    refine sp_iadd dX11_reckonAll_93 ?_
    obtain ⟨j7, hj7, h⟩ := Option.bind_eq_some_iff.mp h
    refine sp_iald2 (j := j7) dX11_reckonAll_94 (wsA_105 hs) (wsN_105 hs) hj7 ?_
    refine sp_weak [true, false, true, true, true, true, false] [some (.ref 103), none, some (.int a2), some (.int a3), some (.int a4), some (.int s0), none] rfl ?_
    exact tX11_reckonAll_j95 hG hQ hb hx _ _ _ _ _ _ h
  · have h := (if_neg hc6).symm.trans h
    refine sp_aload_n dX11_reckonAll_66 rfl rfl ?_
    refine sp_getR (RX11, TX11, 56) dX11_reckonAll_67 clX11 (j := 25) (by decide) tw_1240 (wsI_103 hs) (Or.inr ⟨_, rfl⟩) (wsP_103_25 hs) ?_
    refine sp_iload dX11_reckonAll_70 rfl ?_
    obtain ⟨j50, hj50, h⟩ := Option.bind_eq_some_iff.mp h
    refine sp_iald2 (j := j50) dX11_reckonAll_72 (wsA_115 hs) (wsN_115 hs) hj50 ?_
    refine sp_goto (tgt := 95) dX11_reckonAll_73 (by decide) ?_
    refine sp_weak [true, false, true, true, true, true, false] [some (.ref 103), none, some (.int a2), some (.int a3), some (.int a4), some (.int s0), none] rfl ?_
    exact tX11_reckonAll_j95 hG hQ hb hx _ _ _ _ _ _ h
set_option maxRecDepth 100000 in
set_option maxHeartbeats 4000000 in
theorem tX11_reckonAll_l10 {g : sp_G} {Ω : sp_Mem → Prop} {Q : sp_Qt} {F : Nat} {p : sp_Mem} (hG : sp_Ok Ω)  {kx : Int32 → sp_Mem → Option sp_Mem} (hQ : Q none p) (hx : ∀ (a3 : Int32) (M : sp_Mem), kx a3 M = some p → sp_Wp g Ω mX11_reckonAll 0 0 351 [some (.ref 103), none, none, some (.int a3), none, none, none] [] M Q) : ∀ (n : Nat) (a2 : Int32) (a3 : Int32) (a4 : Int32) (M : sp_Mem), fX11_reckonAll_l10 F kx n a2 a3 a4 M = some p → sp_Wp g Ω mX11_reckonAll 0 0 10 [some (.ref 103), none, some (.int a2), some (.int a3), some (.int a4), none, none] [] M Q := by
  intro n
  induction n with
  | zero =>
    intro a2 a3 a4 M h
    rw [fX11_reckonAll_l10] at h
    cases h
  | succ n ih =>
    intro a2 a3 a4 M h
    rw [fX11_reckonAll_l10] at h
    refine sp_iload dX11_reckonAll_10 rfl ?_
    refine sp_iload_n dX11_reckonAll_12 rfl rfl ?_
    refine sp_icmp_ge (tgt := 351) dX11_reckonAll_13 (by decide) (fun hc2 => ?_) (fun hc2 => ?_)
    · have h := (if_pos hc2).symm.trans h
      refine sp_weak [true, false, false, true, false, false, false] [some (.ref 103), none, none, some (.int a3), none, none, none] rfl ?_
      exact hx _ _ h
    · have h := (if_neg hc2).symm.trans h
      refine sp_aload_n dX11_reckonAll_16 rfl rfl ?_
      refine sp_use (fun ho => ?_)
      have hs := hG.1 _ ho
      refine sp_getI (RX11, TX11, 56) dX11_reckonAll_17 clX11 (j := 38) (by decide) tw_1253 (wsI_103 hs) (Or.inr rfl) ?_
      refine sp_if_ne (tgt := 351) dX11_reckonAll_20 (by decide) (fun hc3 => ?_) (fun hc3 => ?_)
      · have h := (if_neg hc3).symm.trans h
        refine sp_weak [true, false, false, true, false, false, false] [some (.ref 103), none, none, some (.int a3), none, none, none] rfl ?_
        exact hx _ _ h
      · have h := (if_pos hc3).symm.trans h
        refine sp_aload_n dX11_reckonAll_23 rfl rfl ?_
        refine sp_getI (RX11, TX11, 56) dX11_reckonAll_24 clX11 (j := 20) (by decide) tw_1235 (wsI_103 hs) (Or.inr rfl) ?_
        refine sp_if_eq (tgt := 40) dX11_reckonAll_27 (by decide) (fun hc4 => ?_) (fun hc4 => ?_)
        · have h := (if_pos hc4).symm.trans h
          refine sp_aload_n dX11_reckonAll_40 rfl rfl ?_
          refine sp_getR (RX11, TX11, 56) dX11_reckonAll_41 clX11 (j := 3) (by decide) tw_1218 (wsI_103 hs) (Or.inr ⟨_, rfl⟩) (wsP_103_3 hs) ?_
          refine sp_aload_n dX11_reckonAll_44 rfl rfl ?_
          refine sp_getI (RX11, TX11, 56) dX11_reckonAll_45 clX11 (j := 34) (by decide) tw_1249 (wsI_103 hs) (Or.inl rfl) ?_
          refine sp_bipush (v := 98) dX11_reckonAll_48 (by decide) ?_
          refine sp_iadd dX11_reckonAll_50 ?_
          refine sp_iconst (v := 2) dX11_reckonAll_51 (by decide) ?_
          refine sp_iload dX11_reckonAll_52 rfl ?_
          refine sp_imul dX11_reckonAll_54 ?_
          refine sp_iadd dX11_reckonAll_55 ?_
          obtain ⟨j5, hj5, h⟩ := Option.bind_eq_some_iff.mp h
          refine sp_iald2 (j := j5) dX11_reckonAll_56 (wsA_105 hs) (wsN_105 hs) hj5 ?_
          refine sp_weak [true, false, true, true, true, false, false] [some (.ref 103), none, some (.int a2), some (.int a3), some (.int a4), none, none] rfl ?_
          exact tX11_reckonAll_j57 hG hQ ih hx _ _ _ _ _ h
        · have h := (if_neg hc4).symm.trans h
          refine sp_aload_n dX11_reckonAll_30 rfl rfl ?_
          refine sp_getR (RX11, TX11, 56) dX11_reckonAll_31 clX11 (j := 24) (by decide) tw_1239 (wsI_103 hs) (Or.inr ⟨_, rfl⟩) (wsP_103_24 hs) ?_
          refine sp_iload dX11_reckonAll_34 rfl ?_
          obtain ⟨j51, hj51, h⟩ := Option.bind_eq_some_iff.mp h
          refine sp_iald2 (j := j51) dX11_reckonAll_36 (wsA_114 hs) (wsN_114 hs) hj51 ?_
          refine sp_goto (tgt := 57) dX11_reckonAll_37 (by decide) ?_
          refine sp_weak [true, false, true, true, true, false, false] [some (.ref 103), none, some (.int a2), some (.int a3), some (.int a4), none, none] rfl ?_
          exact tX11_reckonAll_j57 hG hQ ih hx _ _ _ _ _ h
set_option maxRecDepth 100000 in
set_option maxHeartbeats 4000000 in
theorem tX11_reckonAll_j351 {g : sp_G} {Ω : sp_Mem → Prop} {Q : sp_Qt} {F : Nat} {p : sp_Mem} (hG : sp_Ok Ω)  (hQ : Q none p) (a3 : Int32) (M : sp_Mem) (h : fX11_reckonAll_j351 F a3 M = some p) : sp_Wp g Ω mX11_reckonAll 0 0 351 [some (.ref 103), none, none, some (.int a3), none, none, none] [] M Q := by
  unfold fX11_reckonAll_j351 at h
  refine sp_aload_n dX11_reckonAll_351 rfl rfl ?_
  refine sp_iload_n dX11_reckonAll_352 rfl rfl ?_
  refine sp_if_le (tgt := 365) dX11_reckonAll_353 (by decide) (fun hc54 => ?_) (fun hc54 => ?_)
  · have h := (if_pos hc54).symm.trans h
    refine sp_lconst (v := 0) dX11_reckonAll_365 (by decide) ?_
    refine sp_use (fun ho => ?_)
    have hs := hG.1 _ ho
    obtain ⟨M55, hM55, h⟩ := sp_do_e h
    refine sp_putL2 (RX11, TX11, 56) hG dX11_reckonAll_366 clX11 (j := 39) (by decide) tw_1254 rfl rfl (wsI_103 hs) hM55 ?_
    cases h
    exact sp_vret dX11_reckonAll_369 rfl (fun _ => hQ)
  · have h := (if_neg hc54).symm.trans h
    refine sp_aload_n dX11_reckonAll_356 rfl rfl ?_
    refine sp_use (fun ho => ?_)
    have hs := hG.1 _ ho
    refine sp_getR (RX11, TX11, 56) dX11_reckonAll_357 clX11 (j := 37) (by decide) tw_1252 (wsI_103 hs) (Or.inr ⟨_, rfl⟩) (wsP_103_37 hs) ?_
    refine sp_iconst (v := 0) dX11_reckonAll_360 (by decide) ?_
    refine sp_lald2 (j := 0) dX11_reckonAll_361 (wsA_123 hs) (wsN_123 hs) rfl ?_
    refine sp_goto (tgt := 366) dX11_reckonAll_362 (by decide) ?_
    obtain ⟨M56, hM56, h⟩ := sp_do_e h
    refine sp_putL2 (RX11, TX11, 56) hG dX11_reckonAll_366 clX11 (j := 39) (by decide) tw_1254 rfl rfl (wsI_103 hs) hM56 ?_
    cases h
    exact sp_vret dX11_reckonAll_369 rfl (fun _ => hQ)
set_option maxRecDepth 100000 in
set_option maxHeartbeats 4000000 in
theorem tX11_reckonAll {g : sp_G} {Ω : sp_Mem → Prop} {Q : sp_Qt} {F : Nat} {p : sp_Mem} (hG : sp_Ok Ω) {M : sp_Mem} {a1 : Int32} {a2 : Int32} (h : fX11_reckonAll F M a1 a2 = some p) (hQ : Q none p) : sp_Mt g Ω mX11_reckonAll 0 0 [.ref 103, .int a1, .int a2] M Q := by
  unfold fX11_reckonAll at h
  refine sp_Mt.of [some (.ref 103), some (.int a1), some (.int a2), none, none, none, none] (by decide) (by simp [sp_ent, Value.category]) rfl ?_
  refine sp_aload_n dX11_reckonAll_0 rfl rfl ?_
  refine sp_iconst (v := 0) dX11_reckonAll_1 (by decide) ?_
  refine sp_use (fun ho => ?_)
  have hs := hG.1 _ ho
  obtain ⟨M1, hM1, h⟩ := sp_do_e h
  refine sp_putI2 (RX11, TX11, 56) hG dX11_reckonAll_2 clX11 (j := 38) (by decide) tw_1253 rfl (Or.inr ⟨rfl, (Or.inl rfl)⟩) (wsI_103 hs) hM1 ?_
  refine sp_iconst (v := 0) dX11_reckonAll_5 (by decide) ?_
  refine sp_istore_n [some (.ref 103), some (.int a1), some (.int a2), some (.int 0), none, none, none] dX11_reckonAll_6 rfl (by decide) rfl ?_
  refine sp_iload_n dX11_reckonAll_7 rfl rfl ?_
  refine sp_istore [some (.ref 103), some (.int a1), some (.int a2), some (.int 0), some (.int a1), none, none] dX11_reckonAll_8 (by decide) rfl ?_
  refine sp_weak [true, false, true, true, true, false, false] [some (.ref 103), none, some (.int a2), some (.int 0), some (.int a1), none, none] rfl ?_
  refine tX11_reckonAll_l10 hG hQ (fun b53 M52 h => ?_) F _ _ _ _ h
  refine sp_weak [true, false, false, true, false, false, false] [some (.ref 103), none, none, some (.int b53), none, none, none] rfl ?_
  exact tX11_reckonAll_j351 hG hQ _ _ h
def fX11_isSo_j59 (F : Nat) (a1 : Int32) (M : sp_Mem) : Option (Int32 × sp_Mem) :=
  (sp_ix 5480 a1).bind fun j4 => if 2 ≤ (sp_I M 105 j4) then (some (1, M)) else ((sp_ix 5480 (a1 + 3)).bind fun j6 => (sp_ix 5480 (a1 + 4)).bind fun j7 => (fX11_reckonAll F M (sp_I M 105 j6) (sp_I M 105 j7)).bind fun M8 => sp_do (sp_setL M8 103 40 (sp_L M8 103 39)) fun M9 => some ((if (sp_I M9 103 38) = 0 then 1 else 0), M9))
def fX11_isSo (F : Nat) (M : sp_Mem) (a1 : Int32) : Option (Int32 × sp_Mem) :=
  (sp_ix 5480 (a1 + 5)).bind fun j1 => (sp_ix 5480 (a1 + 6)).bind fun j2 => if (sp_I M 105 j2) ≤ (sp_I M 105 j1) then (fX11_isSo_j59 F a1 M) else ((sp_ix 5480 (a1 + 5)).bind fun j11 => (sp_ix 5480 (a1 + 6)).bind fun j12 => (fX11_reckonAll F M (sp_I M 105 j11) (sp_I M 105 j12)).bind fun M13 => if (sp_I M13 103 38) = 0 then (if (sp_L M13 103 39) = 0 then (some (0, M13)) else (fX11_isSo_j59 F a1 M13)) else (some (0, M13)))
set_option maxRecDepth 100000 in
set_option maxHeartbeats 4000000 in
theorem tX11_isSo_j59 {g : sp_G} {Ω : sp_Mem → Prop} {Q : sp_Qt} {F : Nat} {p : (Int32 × sp_Mem)} (hG : sp_Ok Ω)  (hQ : Q (some (.int p.1)) p.2) (a1 : Int32) (M : sp_Mem) (h : fX11_isSo_j59 F a1 M = some p) : sp_Wp g Ω mX11_isSo 0 0 59 [some (.ref 103), some (.int a1)] [] M Q := by
  unfold fX11_isSo_j59 at h
  refine sp_aload_n dX11_isSo_59 rfl rfl ?_
  refine sp_use (fun ho => ?_)
  have hs := hG.1 _ ho
  refine sp_getR (RX11, TX11, 56) dX11_isSo_60 clX11 (j := 3) (by decide) tw_1218 (wsI_103 hs) (Or.inr ⟨_, rfl⟩) (wsP_103_3 hs) ?_
  refine sp_iload_n dX11_isSo_63 rfl rfl ?_
  obtain ⟨j4, hj4, h⟩ := Option.bind_eq_some_iff.mp h
  refine sp_iald2 (j := j4) dX11_isSo_64 (wsA_105 hs) (wsN_105 hs) hj4 ?_
  refine sp_iconst (v := 2) dX11_isSo_65 (by decide) ?_
  refine sp_icmp_ge (tgt := 110) dX11_isSo_66 (by decide) (fun hc5 => ?_) (fun hc5 => ?_)
  · have h := (if_pos hc5).symm.trans h
    refine sp_iconst (v := 1) dX11_isSo_110 (by decide) ?_
    cases h
    exact sp_iret dX11_isSo_111 (ty := .boolean) rfl (sp_nz (Or.inr rfl)) (fun _ => hQ)
  · have h := (if_neg hc5).symm.trans h
    refine sp_aload_n dX11_isSo_69 rfl rfl ?_
    refine sp_aload_n dX11_isSo_70 rfl rfl ?_
    refine sp_getR (RX11, TX11, 56) dX11_isSo_71 clX11 (j := 3) (by decide) tw_1218 (wsI_103 hs) (Or.inr ⟨_, rfl⟩) (wsP_103_3 hs) ?_
    refine sp_iload_n dX11_isSo_74 rfl rfl ?_
    refine sp_iconst (v := 3) dX11_isSo_75 (by decide) ?_
    refine sp_iadd dX11_isSo_76 ?_
    obtain ⟨j6, hj6, h⟩ := Option.bind_eq_some_iff.mp h
    refine sp_iald2 (j := j6) dX11_isSo_77 (wsA_105 hs) (wsN_105 hs) hj6 ?_
    refine sp_aload_n dX11_isSo_78 rfl rfl ?_
    refine sp_getR (RX11, TX11, 56) dX11_isSo_79 clX11 (j := 3) (by decide) tw_1218 (wsI_103 hs) (Or.inr ⟨_, rfl⟩) (wsP_103_3 hs) ?_
    refine sp_iload_n dX11_isSo_82 rfl rfl ?_
    refine sp_iconst (v := 4) dX11_isSo_83 (by decide) ?_
    refine sp_iadd dX11_isSo_84 ?_
    obtain ⟨j7, hj7, h⟩ := Option.bind_eq_some_iff.mp h
    refine sp_iald2 (j := j7) dX11_isSo_85 (wsA_105 hs) (wsN_105 hs) hj7 ?_
    obtain ⟨M8, hM8, h⟩ := Option.bind_eq_some_iff.mp h
    refine sp_cV (M1 := M8) (r := none) (o := 103) (st := []) (c := 10) (RX11, TX11, 56) [.int (sp_I M 105 j6), .int (sp_I M 105 j7)] [.int (sp_I M 105 j7), .int (sp_I M 105 j6), .ref 103] [] dX11_isSo_86 okX11_reckonAll tw_1447 tw_1449 tw_35 (by decide) (by decide) rfl (Nat.le_of_ble_eq_true rfl) rfl rfl rfl rfl (wsI_103 hs) (fun Q hQ => tX11_reckonAll hG hM8 hQ) ?_
    refine sp_aload_n dX11_isSo_89 rfl rfl ?_
    refine sp_aload_n dX11_isSo_90 rfl rfl ?_
    refine sp_use (fun ho => ?_)
    have hs := hG.1 _ ho
    refine sp_getL (RX11, TX11, 56) dX11_isSo_91 clX11 (j := 39) (by decide) tw_1254 (wsI_103 hs) rfl ?_
    obtain ⟨M9, hM9, h⟩ := sp_do_e h
    refine sp_putL2 (RX11, TX11, 56) hG dX11_isSo_94 clX11 (j := 40) (by decide) tw_1255 rfl rfl (wsI_103 hs) hM9 ?_
    refine sp_aload_n dX11_isSo_97 rfl rfl ?_
    refine sp_use (fun ho => ?_)
    have hs := hG.1 _ ho
    refine sp_getI (RX11, TX11, 56) dX11_isSo_98 clX11 (j := 38) (by decide) tw_1253 (wsI_103 hs) (Or.inr rfl) ?_
    suffices hj : sp_Wp g Ω mX11_isSo 0 0 109 [none, none] [.int (if (sp_I M9 103 38) = 0 then 1 else 0)] M9 Q by
      refine sp_if_ne (tgt := 108) dX11_isSo_101 (by decide) (fun hc10 => ?_) (fun hc10 => ?_)
      · refine sp_iconst (v := 0) dX11_isSo_108 (by decide) ?_
        refine sp_weak [false, false] [none, none] rfl ?_
        simp only [if_neg hc10] at hj
        exact hj
      · refine sp_iconst (v := 1) dX11_isSo_104 (by decide) ?_
        refine sp_goto (tgt := 109) dX11_isSo_105 (by decide) ?_
        refine sp_weak [false, false] [none, none] rfl ?_
        simp only [if_pos hc10] at hj
        exact hj
    cases h
    exact sp_iret dX11_isSo_109 (ty := .boolean) rfl (sp_nz (by repeat (first | exact Or.inl rfl | exact Or.inr rfl | split))) (fun _ => hQ)
set_option maxRecDepth 100000 in
set_option maxHeartbeats 4000000 in
theorem tX11_isSo {g : sp_G} {Ω : sp_Mem → Prop} {Q : sp_Qt} {F : Nat} {p : (Int32 × sp_Mem)} (hG : sp_Ok Ω) {M : sp_Mem} {a1 : Int32} (h : fX11_isSo F M a1 = some p) (hQ : Q (some (.int p.1)) p.2) : sp_Mt g Ω mX11_isSo 0 0 [.ref 103, .int a1] M Q := by
  unfold fX11_isSo at h
  refine sp_Mt.of [some (.ref 103), some (.int a1)] (by decide) (by simp [sp_ent, Value.category]) rfl ?_
  refine sp_aload_n dX11_isSo_0 rfl rfl ?_
  refine sp_use (fun ho => ?_)
  have hs := hG.1 _ ho
  refine sp_getR (RX11, TX11, 56) dX11_isSo_1 clX11 (j := 3) (by decide) tw_1218 (wsI_103 hs) (Or.inr ⟨_, rfl⟩) (wsP_103_3 hs) ?_
  refine sp_iload_n dX11_isSo_4 rfl rfl ?_
  refine sp_iconst (v := 5) dX11_isSo_5 (by decide) ?_
  refine sp_iadd dX11_isSo_6 ?_
  obtain ⟨j1, hj1, h⟩ := Option.bind_eq_some_iff.mp h
  refine sp_iald2 (j := j1) dX11_isSo_7 (wsA_105 hs) (wsN_105 hs) hj1 ?_
  refine sp_aload_n dX11_isSo_8 rfl rfl ?_
  refine sp_getR (RX11, TX11, 56) dX11_isSo_9 clX11 (j := 3) (by decide) tw_1218 (wsI_103 hs) (Or.inr ⟨_, rfl⟩) (wsP_103_3 hs) ?_
  refine sp_iload_n dX11_isSo_12 rfl rfl ?_
  refine sp_bipush (v := 6) dX11_isSo_13 (by decide) ?_
  refine sp_iadd dX11_isSo_15 ?_
  obtain ⟨j2, hj2, h⟩ := Option.bind_eq_some_iff.mp h
  refine sp_iald2 (j := j2) dX11_isSo_16 (wsA_105 hs) (wsN_105 hs) hj2 ?_
  refine sp_icmp_ge (tgt := 59) dX11_isSo_17 (by decide) (fun hc3 => ?_) (fun hc3 => ?_)
  · have h := (if_pos hc3).symm.trans h
    refine sp_weak [true, true] [some (.ref 103), some (.int a1)] rfl ?_
    exact tX11_isSo_j59 hG hQ _ _ h
  · have h := (if_neg hc3).symm.trans h
    refine sp_aload_n dX11_isSo_20 rfl rfl ?_
    refine sp_aload_n dX11_isSo_21 rfl rfl ?_
    refine sp_getR (RX11, TX11, 56) dX11_isSo_22 clX11 (j := 3) (by decide) tw_1218 (wsI_103 hs) (Or.inr ⟨_, rfl⟩) (wsP_103_3 hs) ?_
    refine sp_iload_n dX11_isSo_25 rfl rfl ?_
    refine sp_iconst (v := 5) dX11_isSo_26 (by decide) ?_
    refine sp_iadd dX11_isSo_27 ?_
    obtain ⟨j11, hj11, h⟩ := Option.bind_eq_some_iff.mp h
    refine sp_iald2 (j := j11) dX11_isSo_28 (wsA_105 hs) (wsN_105 hs) hj11 ?_
    refine sp_aload_n dX11_isSo_29 rfl rfl ?_
    refine sp_getR (RX11, TX11, 56) dX11_isSo_30 clX11 (j := 3) (by decide) tw_1218 (wsI_103 hs) (Or.inr ⟨_, rfl⟩) (wsP_103_3 hs) ?_
    refine sp_iload_n dX11_isSo_33 rfl rfl ?_
    refine sp_bipush (v := 6) dX11_isSo_34 (by decide) ?_
    refine sp_iadd dX11_isSo_36 ?_
    obtain ⟨j12, hj12, h⟩ := Option.bind_eq_some_iff.mp h
    refine sp_iald2 (j := j12) dX11_isSo_37 (wsA_105 hs) (wsN_105 hs) hj12 ?_
    obtain ⟨M13, hM13, h⟩ := Option.bind_eq_some_iff.mp h
    refine sp_cV (M1 := M13) (r := none) (o := 103) (st := []) (c := 10) (RX11, TX11, 56) [.int (sp_I M 105 j11), .int (sp_I M 105 j12)] [.int (sp_I M 105 j12), .int (sp_I M 105 j11), .ref 103] [] dX11_isSo_38 okX11_reckonAll tw_1447 tw_1449 tw_35 (by decide) (by decide) rfl (Nat.le_of_ble_eq_true rfl) rfl rfl rfl rfl (wsI_103 hs) (fun Q hQ => tX11_reckonAll hG hM13 hQ) ?_
    refine sp_aload_n dX11_isSo_41 rfl rfl ?_
    refine sp_use (fun ho => ?_)
    have hs := hG.1 _ ho
    refine sp_getI (RX11, TX11, 56) dX11_isSo_42 clX11 (j := 38) (by decide) tw_1253 (wsI_103 hs) (Or.inr rfl) ?_
    refine sp_if_ne (tgt := 57) dX11_isSo_45 (by decide) (fun hc14 => ?_) (fun hc14 => ?_)
    · have h := (if_neg hc14).symm.trans h
      refine sp_iconst (v := 0) dX11_isSo_57 (by decide) ?_
      cases h
      exact sp_iret dX11_isSo_58 (ty := .boolean) rfl (sp_nz (Or.inl rfl)) (fun _ => hQ)
    · have h := (if_pos hc14).symm.trans h
      refine sp_aload_n dX11_isSo_48 rfl rfl ?_
      refine sp_getL (RX11, TX11, 56) dX11_isSo_49 clX11 (j := 39) (by decide) tw_1254 (wsI_103 hs) rfl ?_
      refine sp_lconst (v := 0) dX11_isSo_52 (by decide) ?_
      refine sp_lcmp dX11_isSo_53 ?_
      refine sp_lif_ne (tgt := 59) dX11_isSo_54 (by decide) (fun hc15 => ?_) (fun hc15 => ?_)
      · have h := (if_neg hc15).symm.trans h
        refine sp_weak [true, true] [some (.ref 103), some (.int a1)] rfl ?_
        exact tX11_isSo_j59 hG hQ _ _ h
      · have h := (if_pos hc15).symm.trans h
        refine sp_iconst (v := 0) dX11_isSo_57 (by decide) ?_
        cases h
        exact sp_iret dX11_isSo_58 (ty := .boolean) rfl (sp_nz (Or.inl rfl)) (fun _ => hQ)
def fX11_tells_l172 (F : Nat) (kx : Int64 → sp_Mem → Option (Int64 × sp_Mem)) : Nat → Int32 → Int64 → Int32 → sp_Mem → Option (Int64 × sp_Mem)
  | 0, _, _, _, _ => none
  | n + 1, a1, a7, a9, M =>
  (sp_ix 5480 ((sp_I M 103 34) + 1)).bind fun j17 => if (sp_I M 105 j17) ≤ a9 then (kx a7 M) else (sp_do ((((sp_I M 103 34) + 2) + (8 * a9))) fun u19 => (sp_ix 5480 u19).bind fun j20 => if (sp_I M 105 j20) = a1 then ((fX11_isSo F M u19).bind fun x22 => if x22.1 = 0 then ((fX11_tells_l172 F kx n) a1 a7 (a9 + 1) x22.2) else (if 2 ≤ a1 then ((fX11_tells_l172 F kx n) a1 1 (a9 + 1) x22.2) else (sp_do ((sp_L x22.2 103 40)) fun u25 => (fX11_tells_l172 F kx n) a1 u25 (a9 + 1) x22.2))) else ((fX11_tells_l172 F kx n) a1 a7 (a9 + 1) M))
def fX11_tells (F : Nat) (M : sp_Mem) (a1 : Int32) (a2 : Int32) (a3 : Int32) (a4 : Int32) (a5 : Int64) : Option (Int64 × sp_Mem) :=
  if (sp_I M 105 4) = (-1) then (some (a5, M)) else (sp_do (sp_setI M 103 34 (80 + (900 * (sp_I M 105 4)))) fun M2 => sp_do (sp_setL M2 121 1 (Int32.toInt64 a2)) fun M3 => (sp_ix 5480 (15 + a2)).bind fun j4 => sp_do (sp_setL M3 121 2 (Int32.toInt64 (sp_I M3 105 j4))) fun M5 => (sp_ix 5480 (51 + a2)).bind fun j6 => sp_do (sp_setL M5 121 3 (Int32.toInt64 (sp_I M5 105 j6))) fun M7 => sp_do (sp_setL M7 121 4 (Int32.toInt64 (a3 - a3 / 5 * 5))) fun M8 => sp_do (sp_setL M8 121 5 (Int32.toInt64 (a3 / 5))) fun M9 => (sp_ix 5480 (26 + a3)).bind fun j10 => sp_do (sp_setL M9 121 6 (Int32.toInt64 (sp_I M9 105 j10))) fun M11 => (fX11_apart a3 (sp_I M11 105 8)).bind fun v12 => sp_do (sp_setL M11 121 7 (Int32.toInt64 v12)) fun M13 => sp_do (sp_setL M13 121 8 (Int32.toInt64 a4)) fun M14 => sp_do (sp_setL M14 121 9 (Int32.toInt64 (sp_I M14 105 5))) fun M15 => sp_do (sp_setL M15 121 10 (Int32.toInt64 (sp_I M15 105 7))) fun M16 => fX11_tells_l172 F (fun b27 M26 => some (b27, M26)) F a1 a5 0 M16)
set_option maxRecDepth 100000 in
set_option maxHeartbeats 4000000 in
theorem tX11_tells_l172 {g : sp_G} {Ω : sp_Mem → Prop} {Q : sp_Qt} {F : Nat} {p : (Int64 × sp_Mem)} (hG : sp_Ok Ω)  {kx : Int64 → sp_Mem → Option (Int64 × sp_Mem)} (hQ : Q (some (.long p.1)) p.2) (hx : ∀ (a7 : Int64) (M : sp_Mem), kx a7 M = some p → sp_Wp g Ω mX11_tells 0 0 243 [none, none, none, none, none, none, none, some (.long a7), none, none, none] [] M Q) : ∀ (n : Nat) (a1 : Int32) (a7 : Int64) (a9 : Int32) (M : sp_Mem), fX11_tells_l172 F kx n a1 a7 a9 M = some p → sp_Wp g Ω mX11_tells 0 0 172 [some (.ref 103), some (.int a1), none, none, none, none, none, some (.long a7), none, some (.int a9), none] [] M Q := by
  intro n
  induction n with
  | zero =>
    intro a1 a7 a9 M h
    rw [fX11_tells_l172] at h
    cases h
  | succ n ih =>
    intro a1 a7 a9 M h
    rw [fX11_tells_l172] at h
    refine sp_iload dX11_tells_172 rfl ?_
    refine sp_aload_n dX11_tells_174 rfl rfl ?_
    refine sp_use (fun ho => ?_)
    have hs := hG.1 _ ho
    refine sp_getR (RX11, TX11, 56) dX11_tells_175 clX11 (j := 3) (by decide) tw_1218 (wsI_103 hs) (Or.inr ⟨_, rfl⟩) (wsP_103_3 hs) ?_
    refine sp_aload_n dX11_tells_178 rfl rfl ?_
    refine sp_getI (RX11, TX11, 56) dX11_tells_179 clX11 (j := 34) (by decide) tw_1249 (wsI_103 hs) (Or.inl rfl) ?_
    refine sp_iconst (v := 1) dX11_tells_182 (by decide) ?_
    refine sp_iadd dX11_tells_183 ?_
    obtain ⟨j17, hj17, h⟩ := Option.bind_eq_some_iff.mp h
    refine sp_iald2 (j := j17) dX11_tells_184 (wsA_105 hs) (wsN_105 hs) hj17 ?_
    refine sp_icmp_ge (tgt := 243) dX11_tells_185 (by decide) (fun hc18 => ?_) (fun hc18 => ?_)
    · have h := (if_pos hc18).symm.trans h
      refine sp_weak [false, false, false, false, false, false, false, true, false, false, false] [none, none, none, none, none, none, none, some (.long a7), none, none, none] rfl ?_
      exact hx _ _ h
    · have h := (if_neg hc18).symm.trans h
      refine sp_aload_n dX11_tells_188 rfl rfl ?_
      refine sp_getI (RX11, TX11, 56) dX11_tells_189 clX11 (j := 34) (by decide) tw_1249 (wsI_103 hs) (Or.inl rfl) ?_
      refine sp_iconst (v := 2) dX11_tells_192 (by decide) ?_
      refine sp_iadd dX11_tells_193 ?_
      refine sp_bipush (v := 8) dX11_tells_194 (by decide) ?_
      refine sp_iload dX11_tells_196 rfl ?_
      refine sp_imul dX11_tells_198 ?_
      refine sp_iadd dX11_tells_199 ?_
      obtain ⟨u19, hu19, h⟩ := sp_do_e h
      refine sp_topi hu19 ?_
      refine sp_istore [some (.ref 103), some (.int a1), none, none, none, none, none, some (.long a7), none, some (.int a9), some (.int u19)] dX11_tells_200 (by decide) rfl ?_
      refine sp_aload_n dX11_tells_202 rfl rfl ?_
      refine sp_getR (RX11, TX11, 56) dX11_tells_203 clX11 (j := 3) (by decide) tw_1218 (wsI_103 hs) (Or.inr ⟨_, rfl⟩) (wsP_103_3 hs) ?_
      refine sp_iload dX11_tells_206 rfl ?_
      obtain ⟨j20, hj20, h⟩ := Option.bind_eq_some_iff.mp h
      refine sp_iald2 (j := j20) dX11_tells_208 (wsA_105 hs) (wsN_105 hs) hj20 ?_
      refine sp_iload_n dX11_tells_209 rfl rfl ?_
      refine sp_icmp_ne (tgt := 237) dX11_tells_210 (by decide) (fun hc21 => ?_) (fun hc21 => ?_)
      · have h := (if_neg hc21).symm.trans h
        refine sp_iinc (v := (a9 + 1)) [some (.ref 103), some (.int a1), none, none, none, none, none, some (.long a7), none, some (.int (a9 + 1)), some (.int u19)] dX11_tells_237 rfl rfl (by decide) rfl ?_
        refine sp_goto (tgt := 172) dX11_tells_240 (by decide) ?_
        refine sp_weak [true, true, false, false, false, false, false, true, false, true, false] [some (.ref 103), some (.int a1), none, none, none, none, none, some (.long a7), none, some (.int (a9 + 1)), none] rfl ?_
        exact ih _ _ _ _ h
      · have h := (if_pos hc21).symm.trans h
        refine sp_aload_n dX11_tells_213 rfl rfl ?_
        refine sp_iload dX11_tells_214 rfl ?_
        obtain ⟨x22, hx22, h⟩ := Option.bind_eq_some_iff.mp h
        refine sp_cV (M1 := x22.2) (r := some (.int x22.1)) (o := 103) (st := []) (c := 10) (RX11, TX11, 56) [.int u19] [.int u19, .ref 103] [.int x22.1] dX11_tells_216 okX11_isSo tw_1443 tw_1445 tw_34 (by decide) (by decide) rfl (Nat.le_of_ble_eq_true rfl) rfl rfl rfl rfl (wsI_103 hs) (fun Q hQ => tX11_isSo hG hx22 hQ) ?_
        refine sp_if_eq (tgt := 237) dX11_tells_219 (by decide) (fun hc23 => ?_) (fun hc23 => ?_)
        · have h := (if_pos hc23).symm.trans h
          refine sp_iinc (v := (a9 + 1)) [some (.ref 103), some (.int a1), none, none, none, none, none, some (.long a7), none, some (.int (a9 + 1)), some (.int u19)] dX11_tells_237 rfl rfl (by decide) rfl ?_
          refine sp_goto (tgt := 172) dX11_tells_240 (by decide) ?_
          refine sp_weak [true, true, false, false, false, false, false, true, false, true, false] [some (.ref 103), some (.int a1), none, none, none, none, none, some (.long a7), none, some (.int (a9 + 1)), none] rfl ?_
          exact ih _ _ _ _ h
        · have h := (if_neg hc23).symm.trans h
          refine sp_iload_n dX11_tells_222 rfl rfl ?_
          refine sp_iconst (v := 2) dX11_tells_223 (by decide) ?_
          refine sp_icmp_ge (tgt := 234) dX11_tells_224 (by decide) (fun hc24 => ?_) (fun hc24 => ?_)
          · have h := (if_pos hc24).symm.trans h
            refine sp_lconst (v := 1) dX11_tells_234 (by decide) ?_
            refine sp_lstore [some (.ref 103), some (.int a1), none, none, none, none, none, some (.long 1), none, some (.int a9), some (.int u19)] dX11_tells_235 (by decide) rfl ?_
            refine sp_iinc (v := (a9 + 1)) [some (.ref 103), some (.int a1), none, none, none, none, none, some (.long 1), none, some (.int (a9 + 1)), some (.int u19)] dX11_tells_237 rfl rfl (by decide) rfl ?_
            refine sp_goto (tgt := 172) dX11_tells_240 (by decide) ?_
            refine sp_weak [true, true, false, false, false, false, false, true, false, true, false] [some (.ref 103), some (.int a1), none, none, none, none, none, some (.long 1), none, some (.int (a9 + 1)), none] rfl ?_
            exact ih _ _ _ _ h
          · have h := (if_neg hc24).symm.trans h
            refine sp_aload_n dX11_tells_227 rfl rfl ?_
            refine sp_use (fun ho => ?_)
            have hs := hG.1 _ ho
            refine sp_getL (RX11, TX11, 56) dX11_tells_228 clX11 (j := 40) (by decide) tw_1255 (wsI_103 hs) rfl ?_
            refine sp_goto (tgt := 235) dX11_tells_231 (by decide) ?_
            obtain ⟨u25, hu25, h⟩ := sp_do_e h
            refine sp_topl hu25 ?_
            refine sp_lstore [some (.ref 103), some (.int a1), none, none, none, none, none, some (.long u25), none, some (.int a9), some (.int u19)] dX11_tells_235 (by decide) rfl ?_
            refine sp_iinc (v := (a9 + 1)) [some (.ref 103), some (.int a1), none, none, none, none, none, some (.long u25), none, some (.int (a9 + 1)), some (.int u19)] dX11_tells_237 rfl rfl (by decide) rfl ?_
            refine sp_goto (tgt := 172) dX11_tells_240 (by decide) ?_
            refine sp_weak [true, true, false, false, false, false, false, true, false, true, false] [some (.ref 103), some (.int a1), none, none, none, none, none, some (.long u25), none, some (.int (a9 + 1)), none] rfl ?_
            exact ih _ _ _ _ h
set_option maxRecDepth 100000 in
set_option maxHeartbeats 4000000 in
theorem tX11_tells {g : sp_G} {Ω : sp_Mem → Prop} {Q : sp_Qt} {F : Nat} {p : (Int64 × sp_Mem)} (hG : sp_Ok Ω) {M : sp_Mem} {a1 : Int32} {a2 : Int32} {a3 : Int32} {a4 : Int32} {a5 : Int64} (h : fX11_tells F M a1 a2 a3 a4 a5 = some p) (hQ : Q (some (.long p.1)) p.2) : sp_Mt g Ω mX11_tells 0 0 [.ref 103, .int a1, .int a2, .int a3, .int a4, .long a5] M Q := by
  unfold fX11_tells at h
  refine sp_Mt.of [some (.ref 103), some (.int a1), some (.int a2), some (.int a3), some (.int a4), some (.long a5), none, none, none, none, none] (by decide) (by simp [sp_ent, Value.category]) rfl ?_
  refine sp_aload_n dX11_tells_0 rfl rfl ?_
  refine sp_use (fun ho => ?_)
  have hs := hG.1 _ ho
  refine sp_getR (RX11, TX11, 56) dX11_tells_1 clX11 (j := 3) (by decide) tw_1218 (wsI_103 hs) (Or.inr ⟨_, rfl⟩) (wsP_103_3 hs) ?_
  refine sp_iconst (v := 4) dX11_tells_4 (by decide) ?_
  refine sp_iald2 (j := 4) dX11_tells_5 (wsA_105 hs) (wsN_105 hs) rfl ?_
  refine sp_iconst (v := (-1)) dX11_tells_6 (by decide) ?_
  refine sp_icmp_ne (tgt := 13) dX11_tells_7 (by decide) (fun hc1 => ?_) (fun hc1 => ?_)
  · have h := (if_neg hc1).symm.trans h
    refine sp_aload_n dX11_tells_13 rfl rfl ?_
    refine sp_bipush (v := 80) dX11_tells_14 (by decide) ?_
    refine sp_sipush (v := 900) dX11_tells_16 (by decide) ?_
    refine sp_aload_n dX11_tells_19 rfl rfl ?_
    refine sp_getR (RX11, TX11, 56) dX11_tells_20 clX11 (j := 3) (by decide) tw_1218 (wsI_103 hs) (Or.inr ⟨_, rfl⟩) (wsP_103_3 hs) ?_
    refine sp_iconst (v := 4) dX11_tells_23 (by decide) ?_
    refine sp_iald2 (j := 4) dX11_tells_24 (wsA_105 hs) (wsN_105 hs) rfl ?_
    refine sp_imul dX11_tells_25 ?_
    refine sp_iadd dX11_tells_26 ?_
    obtain ⟨M2, hM2, h⟩ := sp_do_e h
    refine sp_putI2 (RX11, TX11, 56) hG dX11_tells_27 clX11 (j := 34) (by decide) tw_1249 rfl (Or.inl rfl) (wsI_103 hs) hM2 ?_
    refine sp_aload_n dX11_tells_30 rfl rfl ?_
    refine sp_use (fun ho => ?_)
    have hs := hG.1 _ ho
    refine sp_getR (RX11, TX11, 56) dX11_tells_31 clX11 (j := 35) (by decide) tw_1250 (wsI_103 hs) (Or.inr ⟨_, rfl⟩) (wsP_103_35 hs) ?_
    refine sp_iconst (v := 1) dX11_tells_34 (by decide) ?_
    refine sp_iload_n dX11_tells_35 rfl rfl ?_
    refine sp_i2l dX11_tells_36 ?_
    obtain ⟨M3, hM3, h⟩ := sp_do_e h
    refine sp_last2 (j := 1) hG dX11_tells_37 (wsA_121 hs) (wsN_121 hs) rfl hM3 ?_
    refine sp_aload_n dX11_tells_38 rfl rfl ?_
    refine sp_use (fun ho => ?_)
    have hs := hG.1 _ ho
    refine sp_getR (RX11, TX11, 56) dX11_tells_39 clX11 (j := 35) (by decide) tw_1250 (wsI_103 hs) (Or.inr ⟨_, rfl⟩) (wsP_103_35 hs) ?_
    refine sp_iconst (v := 2) dX11_tells_42 (by decide) ?_
    refine sp_aload_n dX11_tells_43 rfl rfl ?_
    refine sp_getR (RX11, TX11, 56) dX11_tells_44 clX11 (j := 3) (by decide) tw_1218 (wsI_103 hs) (Or.inr ⟨_, rfl⟩) (wsP_103_3 hs) ?_
    refine sp_bipush (v := 15) dX11_tells_47 (by decide) ?_
    refine sp_iload_n dX11_tells_49 rfl rfl ?_
    refine sp_iadd dX11_tells_50 ?_
    obtain ⟨j4, hj4, h⟩ := Option.bind_eq_some_iff.mp h
    refine sp_iald2 (j := j4) dX11_tells_51 (wsA_105 hs) (wsN_105 hs) hj4 ?_
    refine sp_i2l dX11_tells_52 ?_
    obtain ⟨M5, hM5, h⟩ := sp_do_e h
    refine sp_last2 (j := 2) hG dX11_tells_53 (wsA_121 hs) (wsN_121 hs) rfl hM5 ?_
    refine sp_aload_n dX11_tells_54 rfl rfl ?_
    refine sp_use (fun ho => ?_)
    have hs := hG.1 _ ho
    refine sp_getR (RX11, TX11, 56) dX11_tells_55 clX11 (j := 35) (by decide) tw_1250 (wsI_103 hs) (Or.inr ⟨_, rfl⟩) (wsP_103_35 hs) ?_
    refine sp_iconst (v := 3) dX11_tells_58 (by decide) ?_
    refine sp_aload_n dX11_tells_59 rfl rfl ?_
    refine sp_getR (RX11, TX11, 56) dX11_tells_60 clX11 (j := 3) (by decide) tw_1218 (wsI_103 hs) (Or.inr ⟨_, rfl⟩) (wsP_103_3 hs) ?_
    refine sp_bipush (v := 51) dX11_tells_63 (by decide) ?_
    refine sp_iload_n dX11_tells_65 rfl rfl ?_
    refine sp_iadd dX11_tells_66 ?_
    obtain ⟨j6, hj6, h⟩ := Option.bind_eq_some_iff.mp h
    refine sp_iald2 (j := j6) dX11_tells_67 (wsA_105 hs) (wsN_105 hs) hj6 ?_
    refine sp_i2l dX11_tells_68 ?_
    obtain ⟨M7, hM7, h⟩ := sp_do_e h
    refine sp_last2 (j := 3) hG dX11_tells_69 (wsA_121 hs) (wsN_121 hs) rfl hM7 ?_
    refine sp_aload_n dX11_tells_70 rfl rfl ?_
    refine sp_use (fun ho => ?_)
    have hs := hG.1 _ ho
    refine sp_getR (RX11, TX11, 56) dX11_tells_71 clX11 (j := 35) (by decide) tw_1250 (wsI_103 hs) (Or.inr ⟨_, rfl⟩) (wsP_103_35 hs) ?_
    refine sp_iconst (v := 4) dX11_tells_74 (by decide) ?_
    refine sp_iload_n dX11_tells_75 rfl rfl ?_
    refine sp_iconst (v := 5) dX11_tells_76 (by decide) ?_
    refine sp_irem dX11_tells_77 (by decide) ?_
    refine sp_i2l dX11_tells_78 ?_
    obtain ⟨M8, hM8, h⟩ := sp_do_e h
    refine sp_last2 (j := 4) hG dX11_tells_79 (wsA_121 hs) (wsN_121 hs) rfl hM8 ?_
    refine sp_aload_n dX11_tells_80 rfl rfl ?_
    refine sp_use (fun ho => ?_)
    have hs := hG.1 _ ho
    refine sp_getR (RX11, TX11, 56) dX11_tells_81 clX11 (j := 35) (by decide) tw_1250 (wsI_103 hs) (Or.inr ⟨_, rfl⟩) (wsP_103_35 hs) ?_
    refine sp_iconst (v := 5) dX11_tells_84 (by decide) ?_
    refine sp_iload_n dX11_tells_85 rfl rfl ?_
    refine sp_iconst (v := 5) dX11_tells_86 (by decide) ?_
    refine sp_idiv dX11_tells_87 (by decide) ?_
    refine sp_i2l dX11_tells_88 ?_
    obtain ⟨M9, hM9, h⟩ := sp_do_e h
    refine sp_last2 (j := 5) hG dX11_tells_89 (wsA_121 hs) (wsN_121 hs) rfl hM9 ?_
    refine sp_aload_n dX11_tells_90 rfl rfl ?_
    refine sp_use (fun ho => ?_)
    have hs := hG.1 _ ho
    refine sp_getR (RX11, TX11, 56) dX11_tells_91 clX11 (j := 35) (by decide) tw_1250 (wsI_103 hs) (Or.inr ⟨_, rfl⟩) (wsP_103_35 hs) ?_
    refine sp_bipush (v := 6) dX11_tells_94 (by decide) ?_
    refine sp_aload_n dX11_tells_96 rfl rfl ?_
    refine sp_getR (RX11, TX11, 56) dX11_tells_97 clX11 (j := 3) (by decide) tw_1218 (wsI_103 hs) (Or.inr ⟨_, rfl⟩) (wsP_103_3 hs) ?_
    refine sp_bipush (v := 26) dX11_tells_100 (by decide) ?_
    refine sp_iload_n dX11_tells_102 rfl rfl ?_
    refine sp_iadd dX11_tells_103 ?_
    obtain ⟨j10, hj10, h⟩ := Option.bind_eq_some_iff.mp h
    refine sp_iald2 (j := j10) dX11_tells_104 (wsA_105 hs) (wsN_105 hs) hj10 ?_
    refine sp_i2l dX11_tells_105 ?_
    obtain ⟨M11, hM11, h⟩ := sp_do_e h
    refine sp_last2 (j := 6) hG dX11_tells_106 (wsA_121 hs) (wsN_121 hs) rfl hM11 ?_
    refine sp_aload_n dX11_tells_107 rfl rfl ?_
    refine sp_use (fun ho => ?_)
    have hs := hG.1 _ ho
    refine sp_getR (RX11, TX11, 56) dX11_tells_108 clX11 (j := 35) (by decide) tw_1250 (wsI_103 hs) (Or.inr ⟨_, rfl⟩) (wsP_103_35 hs) ?_
    refine sp_bipush (v := 7) dX11_tells_111 (by decide) ?_
    refine sp_iload_n dX11_tells_113 rfl rfl ?_
    refine sp_aload_n dX11_tells_114 rfl rfl ?_
    refine sp_getR (RX11, TX11, 56) dX11_tells_115 clX11 (j := 3) (by decide) tw_1218 (wsI_103 hs) (Or.inr ⟨_, rfl⟩) (wsP_103_3 hs) ?_
    refine sp_bipush (v := 8) dX11_tells_118 (by decide) ?_
    refine sp_iald2 (j := 8) dX11_tells_120 (wsA_105 hs) (wsN_105 hs) rfl ?_
    obtain ⟨v12, hv12, h⟩ := Option.bind_eq_some_iff.mp h
    refine sp_cS (M1 := M11) (r := some (.int v12)) (st := [.int 7, .ref 121]) [.int a3, .int (sp_I M11 105 8)] [.int (sp_I M11 105 8), .int a3, .int 7, .ref 121] [.int v12, .int 7, .ref 121] dX11_tells_121 okX11_apart tw_1440 tw_1441 (by decide) (by decide) rfl (Nat.le_of_ble_eq_true rfl) rfl rfl (fun Q hQ => tX11_apart hG hv12 hQ) ?_
    refine sp_i2l dX11_tells_124 ?_
    obtain ⟨M13, hM13, h⟩ := sp_do_e h
    refine sp_last2 (j := 7) hG dX11_tells_125 (wsA_121 hs) (wsN_121 hs) rfl hM13 ?_
    refine sp_aload_n dX11_tells_126 rfl rfl ?_
    refine sp_use (fun ho => ?_)
    have hs := hG.1 _ ho
    refine sp_getR (RX11, TX11, 56) dX11_tells_127 clX11 (j := 35) (by decide) tw_1250 (wsI_103 hs) (Or.inr ⟨_, rfl⟩) (wsP_103_35 hs) ?_
    refine sp_bipush (v := 8) dX11_tells_130 (by decide) ?_
    refine sp_iload dX11_tells_132 rfl ?_
    refine sp_i2l dX11_tells_134 ?_
    obtain ⟨M14, hM14, h⟩ := sp_do_e h
    refine sp_last2 (j := 8) hG dX11_tells_135 (wsA_121 hs) (wsN_121 hs) rfl hM14 ?_
    refine sp_aload_n dX11_tells_136 rfl rfl ?_
    refine sp_use (fun ho => ?_)
    have hs := hG.1 _ ho
    refine sp_getR (RX11, TX11, 56) dX11_tells_137 clX11 (j := 35) (by decide) tw_1250 (wsI_103 hs) (Or.inr ⟨_, rfl⟩) (wsP_103_35 hs) ?_
    refine sp_bipush (v := 9) dX11_tells_140 (by decide) ?_
    refine sp_aload_n dX11_tells_142 rfl rfl ?_
    refine sp_getR (RX11, TX11, 56) dX11_tells_143 clX11 (j := 3) (by decide) tw_1218 (wsI_103 hs) (Or.inr ⟨_, rfl⟩) (wsP_103_3 hs) ?_
    refine sp_iconst (v := 5) dX11_tells_146 (by decide) ?_
    refine sp_iald2 (j := 5) dX11_tells_147 (wsA_105 hs) (wsN_105 hs) rfl ?_
    refine sp_i2l dX11_tells_148 ?_
    obtain ⟨M15, hM15, h⟩ := sp_do_e h
    refine sp_last2 (j := 9) hG dX11_tells_149 (wsA_121 hs) (wsN_121 hs) rfl hM15 ?_
    refine sp_aload_n dX11_tells_150 rfl rfl ?_
    refine sp_use (fun ho => ?_)
    have hs := hG.1 _ ho
    refine sp_getR (RX11, TX11, 56) dX11_tells_151 clX11 (j := 35) (by decide) tw_1250 (wsI_103 hs) (Or.inr ⟨_, rfl⟩) (wsP_103_35 hs) ?_
    refine sp_bipush (v := 10) dX11_tells_154 (by decide) ?_
    refine sp_aload_n dX11_tells_156 rfl rfl ?_
    refine sp_getR (RX11, TX11, 56) dX11_tells_157 clX11 (j := 3) (by decide) tw_1218 (wsI_103 hs) (Or.inr ⟨_, rfl⟩) (wsP_103_3 hs) ?_
    refine sp_bipush (v := 7) dX11_tells_160 (by decide) ?_
    refine sp_iald2 (j := 7) dX11_tells_162 (wsA_105 hs) (wsN_105 hs) rfl ?_
    refine sp_i2l dX11_tells_163 ?_
    obtain ⟨M16, hM16, h⟩ := sp_do_e h
    refine sp_last2 (j := 10) hG dX11_tells_164 (wsA_121 hs) (wsN_121 hs) rfl hM16 ?_
    refine sp_lload dX11_tells_165 rfl ?_
    refine sp_lstore [some (.ref 103), some (.int a1), some (.int a2), some (.int a3), some (.int a4), some (.long a5), none, some (.long a5), none, none, none] dX11_tells_167 (by decide) rfl ?_
    refine sp_iconst (v := 0) dX11_tells_169 (by decide) ?_
    refine sp_istore [some (.ref 103), some (.int a1), some (.int a2), some (.int a3), some (.int a4), some (.long a5), none, some (.long a5), none, some (.int 0), none] dX11_tells_170 (by decide) rfl ?_
    refine sp_weak [true, true, false, false, false, false, false, true, false, true, false] [some (.ref 103), some (.int a1), none, none, none, none, none, some (.long a5), none, some (.int 0), none] rfl ?_
    refine tX11_tells_l172 hG hQ (fun b27 M26 h => ?_) F _ _ _ _ h
    refine sp_lload dX11_tells_243 rfl ?_
    cases h
    exact sp_lret dX11_tells_245 rfl (fun _ => hQ)
  · have h := (if_pos hc1).symm.trans h
    refine sp_lload dX11_tells_10 rfl ?_
    cases h
    exact sp_lret dX11_tells_12 rfl (fun _ => hQ)
def fX11_goesOf (F : Nat) (M : sp_Mem) (a1 : Int32) : Option (Int32 × sp_Mem) :=
  (sp_ix 5480 (9 + a1)).bind fun j1 => (fX11_tells F M 0 a1 (sp_I M 105 j1) (-1) (Int32.toInt64 ((a1 + (sp_I M 105 5)) - (a1 + (sp_I M 105 5)) / 5 * 5))).bind fun x2 => some ((fX11_within x2.1 0 4), x2.2)
set_option maxRecDepth 100000 in
set_option maxHeartbeats 4000000 in
theorem tX11_goesOf {g : sp_G} {Ω : sp_Mem → Prop} {Q : sp_Qt} {F : Nat} {p : (Int32 × sp_Mem)} (hG : sp_Ok Ω) {M : sp_Mem} {a1 : Int32} (h : fX11_goesOf F M a1 = some p) (hQ : Q (some (.int p.1)) p.2) : sp_Mt g Ω mX11_goesOf 0 0 [.ref 103, .int a1] M Q := by
  unfold fX11_goesOf at h
  refine sp_Mt.of [some (.ref 103), some (.int a1)] (by decide) (by simp [sp_ent, Value.category]) rfl ?_
  refine sp_aload_n dX11_goesOf_0 rfl rfl ?_
  refine sp_iconst (v := 0) dX11_goesOf_1 (by decide) ?_
  refine sp_iload_n dX11_goesOf_2 rfl rfl ?_
  refine sp_aload_n dX11_goesOf_3 rfl rfl ?_
  refine sp_use (fun ho => ?_)
  have hs := hG.1 _ ho
  refine sp_getR (RX11, TX11, 56) dX11_goesOf_4 clX11 (j := 3) (by decide) tw_1218 (wsI_103 hs) (Or.inr ⟨_, rfl⟩) (wsP_103_3 hs) ?_
  refine sp_bipush (v := 9) dX11_goesOf_7 (by decide) ?_
  refine sp_iload_n dX11_goesOf_9 rfl rfl ?_
  refine sp_iadd dX11_goesOf_10 ?_
  obtain ⟨j1, hj1, h⟩ := Option.bind_eq_some_iff.mp h
  refine sp_iald2 (j := j1) dX11_goesOf_11 (wsA_105 hs) (wsN_105 hs) hj1 ?_
  refine sp_iconst (v := (-1)) dX11_goesOf_12 (by decide) ?_
  refine sp_iload_n dX11_goesOf_13 rfl rfl ?_
  refine sp_aload_n dX11_goesOf_14 rfl rfl ?_
  refine sp_getR (RX11, TX11, 56) dX11_goesOf_15 clX11 (j := 3) (by decide) tw_1218 (wsI_103 hs) (Or.inr ⟨_, rfl⟩) (wsP_103_3 hs) ?_
  refine sp_iconst (v := 5) dX11_goesOf_18 (by decide) ?_
  refine sp_iald2 (j := 5) dX11_goesOf_19 (wsA_105 hs) (wsN_105 hs) rfl ?_
  refine sp_iadd dX11_goesOf_20 ?_
  refine sp_iconst (v := 5) dX11_goesOf_21 (by decide) ?_
  refine sp_irem dX11_goesOf_22 (by decide) ?_
  refine sp_i2l dX11_goesOf_23 ?_
  obtain ⟨x2, hx2, h⟩ := Option.bind_eq_some_iff.mp h
  refine sp_cV (M1 := x2.2) (r := some (.long x2.1)) (o := 103) (st := []) (c := 10) (RX11, TX11, 56) [.int 0, .int a1, .int (sp_I M 105 j1), .int (-1), .long (Int32.toInt64 ((a1 + (sp_I M 105 5)) - (a1 + (sp_I M 105 5)) / 5 * 5))] [.long (Int32.toInt64 ((a1 + (sp_I M 105 5)) - (a1 + (sp_I M 105 5)) / 5 * 5)), .int (-1), .int (sp_I M 105 j1), .int a1, .int 0, .ref 103] [.long x2.1] dX11_goesOf_24 okX11_tells tw_1436 tw_1438 tw_33 (by decide) (by decide) rfl (Nat.le_of_ble_eq_true rfl) rfl rfl rfl rfl (wsI_103 hs) (fun Q hQ => tX11_tells hG hx2 hQ) ?_
  refine sp_iconst (v := 0) dX11_goesOf_27 (by decide) ?_
  refine sp_iconst (v := 4) dX11_goesOf_28 (by decide) ?_
  refine sp_use (fun ho => ?_)
  have hs := hG.1 _ ho
  refine sp_cS (M1 := x2.2) (r := some (.int (fX11_within x2.1 0 4))) (st := []) [.long x2.1, .int 0, .int 4] [.int 4, .int 0, .long x2.1] [.int (fX11_within x2.1 0 4)] dX11_goesOf_29 okX11_within tw_1458 tw_1459 (by decide) (by decide) rfl (Nat.le_of_ble_eq_true rfl) rfl rfl (fun Q hQ => tX11_within hG rfl hQ) ?_
  cases h
  exact sp_iret dX11_goesOf_32 (ty := .int) rfl rfl (fun _ => hQ)
def fX11_burnsOf (F : Nat) (M : sp_Mem) (a1 : Int32) : Option (Int32 × sp_Mem) :=
  (sp_ix 5480 (9 + a1)).bind fun j1 => (sp_ix 5480 (26 + (sp_I M 105 j1))).bind fun j2 => sp_do ((sp_I M 105 j2)) fun u3 => (sp_ix 5480 (9 + a1)).bind fun j4 => if u3 = 2 then ((fX11_tells F M 1 a1 (sp_I M 105 j4) (-1) 1).bind fun x9 => some ((fX11_within x9.1 (-3) 3), x9.2)) else (if u3 = 1 then ((fX11_tells F M 1 a1 (sp_I M 105 j4) (-1) (-3)).bind fun x8 => some ((fX11_within x8.1 (-3) 3), x8.2)) else ((fX11_tells F M 1 a1 (sp_I M 105 j4) (-1) 0).bind fun x7 => some ((fX11_within x7.1 (-3) 3), x7.2)))
set_option maxRecDepth 100000 in
set_option maxHeartbeats 4000000 in
theorem tX11_burnsOf {g : sp_G} {Ω : sp_Mem → Prop} {Q : sp_Qt} {F : Nat} {p : (Int32 × sp_Mem)} (hG : sp_Ok Ω) {M : sp_Mem} {a1 : Int32} (h : fX11_burnsOf F M a1 = some p) (hQ : Q (some (.int p.1)) p.2) : sp_Mt g Ω mX11_burnsOf 0 0 [.ref 103, .int a1] M Q := by
  unfold fX11_burnsOf at h
  refine sp_Mt.of [some (.ref 103), some (.int a1), none] (by decide) (by simp [sp_ent, Value.category]) rfl ?_
  refine sp_aload_n dX11_burnsOf_0 rfl rfl ?_
  refine sp_use (fun ho => ?_)
  have hs := hG.1 _ ho
  refine sp_getR (RX11, TX11, 56) dX11_burnsOf_1 clX11 (j := 3) (by decide) tw_1218 (wsI_103 hs) (Or.inr ⟨_, rfl⟩) (wsP_103_3 hs) ?_
  refine sp_bipush (v := 26) dX11_burnsOf_4 (by decide) ?_
  refine sp_aload_n dX11_burnsOf_6 rfl rfl ?_
  refine sp_getR (RX11, TX11, 56) dX11_burnsOf_7 clX11 (j := 3) (by decide) tw_1218 (wsI_103 hs) (Or.inr ⟨_, rfl⟩) (wsP_103_3 hs) ?_
  refine sp_bipush (v := 9) dX11_burnsOf_10 (by decide) ?_
  refine sp_iload_n dX11_burnsOf_12 rfl rfl ?_
  refine sp_iadd dX11_burnsOf_13 ?_
  obtain ⟨j1, hj1, h⟩ := Option.bind_eq_some_iff.mp h
  refine sp_iald2 (j := j1) dX11_burnsOf_14 (wsA_105 hs) (wsN_105 hs) hj1 ?_
  refine sp_iadd dX11_burnsOf_15 ?_
  obtain ⟨j2, hj2, h⟩ := Option.bind_eq_some_iff.mp h
  refine sp_iald2 (j := j2) dX11_burnsOf_16 (wsA_105 hs) (wsN_105 hs) hj2 ?_
  obtain ⟨u3, hu3, h⟩ := sp_do_e h
  refine sp_topi hu3 ?_
  refine sp_istore_n [some (.ref 103), some (.int a1), some (.int u3)] dX11_burnsOf_17 rfl (by decide) rfl ?_
  refine sp_aload_n dX11_burnsOf_18 rfl rfl ?_
  refine sp_iconst (v := 1) dX11_burnsOf_19 (by decide) ?_
  refine sp_iload_n dX11_burnsOf_20 rfl rfl ?_
  refine sp_aload_n dX11_burnsOf_21 rfl rfl ?_
  refine sp_getR (RX11, TX11, 56) dX11_burnsOf_22 clX11 (j := 3) (by decide) tw_1218 (wsI_103 hs) (Or.inr ⟨_, rfl⟩) (wsP_103_3 hs) ?_
  refine sp_bipush (v := 9) dX11_burnsOf_25 (by decide) ?_
  refine sp_iload_n dX11_burnsOf_27 rfl rfl ?_
  refine sp_iadd dX11_burnsOf_28 ?_
  obtain ⟨j4, hj4, h⟩ := Option.bind_eq_some_iff.mp h
  refine sp_iald2 (j := j4) dX11_burnsOf_29 (wsA_105 hs) (wsN_105 hs) hj4 ?_
  refine sp_iconst (v := (-1)) dX11_burnsOf_30 (by decide) ?_
  refine sp_iload_n dX11_burnsOf_31 rfl rfl ?_
  refine sp_iconst (v := 2) dX11_burnsOf_32 (by decide) ?_
  refine sp_icmp_ne (tgt := 40) dX11_burnsOf_33 (by decide) (fun hc5 => ?_) (fun hc5 => ?_)
  · have h := (if_neg hc5).symm.trans h
    refine sp_iload_n dX11_burnsOf_40 rfl rfl ?_
    refine sp_iconst (v := 1) dX11_burnsOf_41 (by decide) ?_
    refine sp_icmp_ne (tgt := 51) dX11_burnsOf_42 (by decide) (fun hc6 => ?_) (fun hc6 => ?_)
    · have h := (if_neg hc6).symm.trans h
      refine sp_lconst (v := 0) dX11_burnsOf_51 (by decide) ?_
      obtain ⟨x7, hx7, h⟩ := Option.bind_eq_some_iff.mp h
      refine sp_cV (M1 := x7.2) (r := some (.long x7.1)) (o := 103) (st := []) (c := 10) (RX11, TX11, 56) [.int 1, .int a1, .int (sp_I M 105 j4), .int (-1), .long 0] [.long 0, .int (-1), .int (sp_I M 105 j4), .int a1, .int 1, .ref 103] [.long x7.1] dX11_burnsOf_52 okX11_tells tw_1436 tw_1438 tw_33 (by decide) (by decide) rfl (Nat.le_of_ble_eq_true rfl) rfl rfl rfl rfl (wsI_103 hs) (fun Q hQ => tX11_tells hG hx7 hQ) ?_
      refine sp_bipush (v := (-3)) dX11_burnsOf_55 (by decide) ?_
      refine sp_iconst (v := 3) dX11_burnsOf_57 (by decide) ?_
      refine sp_use (fun ho => ?_)
      have hs := hG.1 _ ho
      refine sp_cS (M1 := x7.2) (r := some (.int (fX11_within x7.1 (-3) 3))) (st := []) [.long x7.1, .int (-3), .int 3] [.int 3, .int (-3), .long x7.1] [.int (fX11_within x7.1 (-3) 3)] dX11_burnsOf_58 okX11_within tw_1458 tw_1459 (by decide) (by decide) rfl (Nat.le_of_ble_eq_true rfl) rfl rfl (fun Q hQ => tX11_within hG rfl hQ) ?_
      cases h
      exact sp_iret dX11_burnsOf_61 (ty := .int) rfl rfl (fun _ => hQ)
    · have h := (if_pos hc6).symm.trans h
      refine sp_ldc2 (v := (-3)) dX11_burnsOf_45 tw_1465 ?_
      refine sp_goto (tgt := 52) dX11_burnsOf_48 (by decide) ?_
      obtain ⟨x8, hx8, h⟩ := Option.bind_eq_some_iff.mp h
      refine sp_cV (M1 := x8.2) (r := some (.long x8.1)) (o := 103) (st := []) (c := 10) (RX11, TX11, 56) [.int 1, .int a1, .int (sp_I M 105 j4), .int (-1), .long (-3)] [.long (-3), .int (-1), .int (sp_I M 105 j4), .int a1, .int 1, .ref 103] [.long x8.1] dX11_burnsOf_52 okX11_tells tw_1436 tw_1438 tw_33 (by decide) (by decide) rfl (Nat.le_of_ble_eq_true rfl) rfl rfl rfl rfl (wsI_103 hs) (fun Q hQ => tX11_tells hG hx8 hQ) ?_
      refine sp_bipush (v := (-3)) dX11_burnsOf_55 (by decide) ?_
      refine sp_iconst (v := 3) dX11_burnsOf_57 (by decide) ?_
      refine sp_use (fun ho => ?_)
      have hs := hG.1 _ ho
      refine sp_cS (M1 := x8.2) (r := some (.int (fX11_within x8.1 (-3) 3))) (st := []) [.long x8.1, .int (-3), .int 3] [.int 3, .int (-3), .long x8.1] [.int (fX11_within x8.1 (-3) 3)] dX11_burnsOf_58 okX11_within tw_1458 tw_1459 (by decide) (by decide) rfl (Nat.le_of_ble_eq_true rfl) rfl rfl (fun Q hQ => tX11_within hG rfl hQ) ?_
      cases h
      exact sp_iret dX11_burnsOf_61 (ty := .int) rfl rfl (fun _ => hQ)
  · have h := (if_pos hc5).symm.trans h
    refine sp_lconst (v := 1) dX11_burnsOf_36 (by decide) ?_
    refine sp_goto (tgt := 52) dX11_burnsOf_37 (by decide) ?_
    obtain ⟨x9, hx9, h⟩ := Option.bind_eq_some_iff.mp h
    refine sp_cV (M1 := x9.2) (r := some (.long x9.1)) (o := 103) (st := []) (c := 10) (RX11, TX11, 56) [.int 1, .int a1, .int (sp_I M 105 j4), .int (-1), .long 1] [.long 1, .int (-1), .int (sp_I M 105 j4), .int a1, .int 1, .ref 103] [.long x9.1] dX11_burnsOf_52 okX11_tells tw_1436 tw_1438 tw_33 (by decide) (by decide) rfl (Nat.le_of_ble_eq_true rfl) rfl rfl rfl rfl (wsI_103 hs) (fun Q hQ => tX11_tells hG hx9 hQ) ?_
    refine sp_bipush (v := (-3)) dX11_burnsOf_55 (by decide) ?_
    refine sp_iconst (v := 3) dX11_burnsOf_57 (by decide) ?_
    refine sp_use (fun ho => ?_)
    have hs := hG.1 _ ho
    refine sp_cS (M1 := x9.2) (r := some (.int (fX11_within x9.1 (-3) 3))) (st := []) [.long x9.1, .int (-3), .int 3] [.int 3, .int (-3), .long x9.1] [.int (fX11_within x9.1 (-3) 3)] dX11_burnsOf_58 okX11_within tw_1458 tw_1459 (by decide) (by decide) rfl (Nat.le_of_ble_eq_true rfl) rfl rfl (fun Q hQ => tX11_within hG rfl hQ) ?_
    cases h
    exact sp_iret dX11_burnsOf_61 (ty := .int) rfl rfl (fun _ => hQ)
def fX11_of (F : Nat) (M : sp_Mem) (a1 : Int32) (a2 : Int32) : Option (Int32 × sp_Mem) :=
  sp_do (sp_setI M 103 0 0) fun M1 => (fX11_isSpark M1 a1).bind fun v2 => if v2 = 0 then (some ((-100), M1)) else (if a2 = 0 then ((sp_ix 5480 (9 + a1)).bind fun j5 => some ((sp_I M1 105 j5), M1)) else if a2 = 1 then ((sp_ix 5480 (15 + a1)).bind fun j7 => some ((sp_I M1 105 j7), M1)) else if a2 = 2 then ((sp_ix 5480 (51 + a1)).bind fun j9 => some ((sp_I M1 105 j9), M1)) else if a2 = 3 then ((fX11_isLoose M1 a1).bind fun v11 => if v11 = 0 then (some ((-100), M1)) else ((fX11_goesOf F M1 a1).bind fun x13 => some (x13.1, x13.2))) else if a2 = 4 then ((fX11_isLoose M1 a1).bind fun v15 => if v15 = 0 then (some ((-100), M1)) else ((fX11_burnsOf F M1 a1).bind fun x17 => some (x17.1, x17.2))) else if a2 = 5 then ((fX11_knownTo F M1 a1).bind fun v19 => some (v19, M1)) else (some ((-100), M1)))
set_option maxRecDepth 100000 in
set_option maxHeartbeats 4000000 in
theorem tX11_of {g : sp_G} {Ω : sp_Mem → Prop} {Q : sp_Qt} {F : Nat} {p : (Int32 × sp_Mem)} (hG : sp_Ok Ω) {M : sp_Mem} {a1 : Int32} {a2 : Int32} (h : fX11_of F M a1 a2 = some p) (hQ : Q (some (.int p.1)) p.2) : sp_Mt g Ω mX11_of 0 0 [.ref 103, .int a1, .int a2] M Q := by
  unfold fX11_of at h
  refine sp_Mt.of [some (.ref 103), some (.int a1), some (.int a2)] (by decide) (by simp [sp_ent, Value.category]) rfl ?_
  refine sp_aload_n dX11_of_0 rfl rfl ?_
  refine sp_iconst (v := 0) dX11_of_1 (by decide) ?_
  refine sp_use (fun ho => ?_)
  have hs := hG.1 _ ho
  obtain ⟨M1, hM1, h⟩ := sp_do_e h
  refine sp_putI2 (RX11, TX11, 56) hG dX11_of_2 clX11 (j := 0) (by decide) tw_1215 rfl (Or.inl rfl) (wsI_103 hs) hM1 ?_
  refine sp_aload_n dX11_of_5 rfl rfl ?_
  refine sp_iload_n dX11_of_6 rfl rfl ?_
  refine sp_use (fun ho => ?_)
  have hs := hG.1 _ ho
  obtain ⟨v2, hv2, h⟩ := Option.bind_eq_some_iff.mp h
  refine sp_cV (M1 := M1) (r := some (.int v2)) (o := 103) (st := []) (c := 10) (RX11, TX11, 56) [.int a1] [.int a1, .ref 103] [.int v2] dX11_of_7 okX11_isSpark tw_1424 tw_1426 tw_30 (by decide) (by decide) rfl (Nat.le_of_ble_eq_true rfl) rfl rfl rfl rfl (wsI_103 hs) (fun Q hQ => tX11_isSpark hG hv2 hQ) ?_
  refine sp_if_ne (tgt := 16) dX11_of_10 (by decide) (fun hc3 => ?_) (fun hc3 => ?_)
  · have h := (if_neg hc3).symm.trans h
    refine sp_iload_n dX11_of_16 rfl rfl ?_
    by_cases hc4 : a2 = 0
    · have h := (if_pos hc4).symm.trans h
      refine sp_tswI (tgt := 56) dX11_of_17 (by rw [hc4]; decide) (by rw [hc4]; decide) (by rw [hc4]; rfl) (by decide) ?_
      refine sp_aload_n dX11_of_56 rfl rfl ?_
      refine sp_getR (RX11, TX11, 56) dX11_of_57 clX11 (j := 3) (by decide) tw_1218 (wsI_103 hs) (Or.inr ⟨_, rfl⟩) (wsP_103_3 hs) ?_
      refine sp_bipush (v := 9) dX11_of_60 (by decide) ?_
      refine sp_iload_n dX11_of_62 rfl rfl ?_
      refine sp_iadd dX11_of_63 ?_
      obtain ⟨j5, hj5, h⟩ := Option.bind_eq_some_iff.mp h
      refine sp_iald2 (j := j5) dX11_of_64 (wsA_105 hs) (wsN_105 hs) hj5 ?_
      cases h
      exact sp_iret dX11_of_65 (ty := .int) rfl rfl (fun _ => hQ)
    have h := (if_neg hc4).symm.trans h
    by_cases hc6 : a2 = 1
    · have h := (if_pos hc6).symm.trans h
      refine sp_tswI (tgt := 66) dX11_of_17 (by rw [hc6]; decide) (by rw [hc6]; decide) (by rw [hc6]; rfl) (by decide) ?_
      refine sp_aload_n dX11_of_66 rfl rfl ?_
      refine sp_getR (RX11, TX11, 56) dX11_of_67 clX11 (j := 3) (by decide) tw_1218 (wsI_103 hs) (Or.inr ⟨_, rfl⟩) (wsP_103_3 hs) ?_
      refine sp_bipush (v := 15) dX11_of_70 (by decide) ?_
      refine sp_iload_n dX11_of_72 rfl rfl ?_
      refine sp_iadd dX11_of_73 ?_
      obtain ⟨j7, hj7, h⟩ := Option.bind_eq_some_iff.mp h
      refine sp_iald2 (j := j7) dX11_of_74 (wsA_105 hs) (wsN_105 hs) hj7 ?_
      cases h
      exact sp_iret dX11_of_75 (ty := .int) rfl rfl (fun _ => hQ)
    have h := (if_neg hc6).symm.trans h
    by_cases hc8 : a2 = 2
    · have h := (if_pos hc8).symm.trans h
      refine sp_tswI (tgt := 76) dX11_of_17 (by rw [hc8]; decide) (by rw [hc8]; decide) (by rw [hc8]; rfl) (by decide) ?_
      refine sp_aload_n dX11_of_76 rfl rfl ?_
      refine sp_getR (RX11, TX11, 56) dX11_of_77 clX11 (j := 3) (by decide) tw_1218 (wsI_103 hs) (Or.inr ⟨_, rfl⟩) (wsP_103_3 hs) ?_
      refine sp_bipush (v := 51) dX11_of_80 (by decide) ?_
      refine sp_iload_n dX11_of_82 rfl rfl ?_
      refine sp_iadd dX11_of_83 ?_
      obtain ⟨j9, hj9, h⟩ := Option.bind_eq_some_iff.mp h
      refine sp_iald2 (j := j9) dX11_of_84 (wsA_105 hs) (wsN_105 hs) hj9 ?_
      cases h
      exact sp_iret dX11_of_85 (ty := .int) rfl rfl (fun _ => hQ)
    have h := (if_neg hc8).symm.trans h
    by_cases hc10 : a2 = 3
    · have h := (if_pos hc10).symm.trans h
      refine sp_tswI (tgt := 86) dX11_of_17 (by rw [hc10]; decide) (by rw [hc10]; decide) (by rw [hc10]; rfl) (by decide) ?_
      refine sp_aload_n dX11_of_86 rfl rfl ?_
      refine sp_iload_n dX11_of_87 rfl rfl ?_
      obtain ⟨v11, hv11, h⟩ := Option.bind_eq_some_iff.mp h
      refine sp_cV (M1 := M1) (r := some (.int v11)) (o := 103) (st := []) (c := 10) (RX11, TX11, 56) [.int a1] [.int a1, .ref 103] [.int v11] dX11_of_88 okX11_isLoose tw_1428 tw_1430 tw_31 (by decide) (by decide) rfl (Nat.le_of_ble_eq_true rfl) rfl rfl rfl rfl (wsI_103 hs) (fun Q hQ => tX11_isLoose hG hv11 hQ) ?_
      refine sp_if_eq (tgt := 102) dX11_of_91 (by decide) (fun hc12 => ?_) (fun hc12 => ?_)
      · have h := (if_pos hc12).symm.trans h
        refine sp_bipush (v := (-100)) dX11_of_102 (by decide) ?_
        cases h
        exact sp_iret dX11_of_104 (ty := .int) rfl rfl (fun _ => hQ)
      · have h := (if_neg hc12).symm.trans h
        refine sp_aload_n dX11_of_94 rfl rfl ?_
        refine sp_iload_n dX11_of_95 rfl rfl ?_
        obtain ⟨x13, hx13, h⟩ := Option.bind_eq_some_iff.mp h
        refine sp_cV (M1 := x13.2) (r := some (.int x13.1)) (o := 103) (st := []) (c := 10) (RX11, TX11, 56) [.int a1] [.int a1, .ref 103] [.int x13.1] dX11_of_96 okX11_goesOf tw_1432 tw_1434 tw_32 (by decide) (by decide) rfl (Nat.le_of_ble_eq_true rfl) rfl rfl rfl rfl (wsI_103 hs) (fun Q hQ => tX11_goesOf hG hx13 hQ) ?_
        refine sp_goto (tgt := 104) dX11_of_99 (by decide) ?_
        cases h
        exact sp_iret dX11_of_104 (ty := .int) rfl rfl (fun _ => hQ)
    have h := (if_neg hc10).symm.trans h
    by_cases hc14 : a2 = 4
    · have h := (if_pos hc14).symm.trans h
      refine sp_tswI (tgt := 105) dX11_of_17 (by rw [hc14]; decide) (by rw [hc14]; decide) (by rw [hc14]; rfl) (by decide) ?_
      refine sp_aload_n dX11_of_105 rfl rfl ?_
      refine sp_iload_n dX11_of_106 rfl rfl ?_
      obtain ⟨v15, hv15, h⟩ := Option.bind_eq_some_iff.mp h
      refine sp_cV (M1 := M1) (r := some (.int v15)) (o := 103) (st := []) (c := 10) (RX11, TX11, 56) [.int a1] [.int a1, .ref 103] [.int v15] dX11_of_107 okX11_isLoose tw_1428 tw_1430 tw_31 (by decide) (by decide) rfl (Nat.le_of_ble_eq_true rfl) rfl rfl rfl rfl (wsI_103 hs) (fun Q hQ => tX11_isLoose hG hv15 hQ) ?_
      refine sp_if_eq (tgt := 121) dX11_of_110 (by decide) (fun hc16 => ?_) (fun hc16 => ?_)
      · have h := (if_pos hc16).symm.trans h
        refine sp_bipush (v := (-100)) dX11_of_121 (by decide) ?_
        cases h
        exact sp_iret dX11_of_123 (ty := .int) rfl rfl (fun _ => hQ)
      · have h := (if_neg hc16).symm.trans h
        refine sp_aload_n dX11_of_113 rfl rfl ?_
        refine sp_iload_n dX11_of_114 rfl rfl ?_
        obtain ⟨x17, hx17, h⟩ := Option.bind_eq_some_iff.mp h
        refine sp_cV (M1 := x17.2) (r := some (.int x17.1)) (o := 103) (st := []) (c := 10) (RX11, TX11, 56) [.int a1] [.int a1, .ref 103] [.int x17.1] dX11_of_115 okX11_burnsOf tw_1461 tw_1463 tw_37 (by decide) (by decide) rfl (Nat.le_of_ble_eq_true rfl) rfl rfl rfl rfl (wsI_103 hs) (fun Q hQ => tX11_burnsOf hG hx17 hQ) ?_
        refine sp_goto (tgt := 123) dX11_of_118 (by decide) ?_
        cases h
        exact sp_iret dX11_of_123 (ty := .int) rfl rfl (fun _ => hQ)
    have h := (if_neg hc14).symm.trans h
    by_cases hc18 : a2 = 5
    · have h := (if_pos hc18).symm.trans h
      refine sp_tswI (tgt := 124) dX11_of_17 (by rw [hc18]; decide) (by rw [hc18]; decide) (by rw [hc18]; rfl) (by decide) ?_
      refine sp_aload_n dX11_of_124 rfl rfl ?_
      refine sp_iload_n dX11_of_125 rfl rfl ?_
      obtain ⟨v19, hv19, h⟩ := Option.bind_eq_some_iff.mp h
      refine sp_cV (M1 := M1) (r := some (.int v19)) (o := 103) (st := []) (c := 10) (RX11, TX11, 56) [.int a1] [.int a1, .ref 103] [.int v19] dX11_of_126 okX11_knownTo tw_1466 tw_1468 tw_38 (by decide) (by decide) rfl (Nat.le_of_ble_eq_true rfl) rfl rfl rfl rfl (wsI_103 hs) (fun Q hQ => tX11_knownTo hG hv19 hQ) ?_
      cases h
      exact sp_iret dX11_of_129 (ty := .int) rfl rfl (fun _ => hQ)
    have h := (if_neg hc18).symm.trans h
    have hc4 := sp_ne hc4 (show (0 : Int32).toInt = 0 by decide)
    have hc6 := sp_ne hc6 (show (1 : Int32).toInt = 1 by decide)
    have hc8 := sp_ne hc8 (show (2 : Int32).toInt = 2 by decide)
    have hc10 := sp_ne hc10 (show (3 : Int32).toInt = 3 by decide)
    have hc14 := sp_ne hc14 (show (4 : Int32).toInt = 4 by decide)
    have hc18 := sp_ne hc18 (show (5 : Int32).toInt = 5 by decide)
    refine sp_tswO (tgt := 130) dX11_of_17 (by omega) (by decide) ?_
    refine sp_bipush (v := (-100)) dX11_of_130 (by decide) ?_
    cases h
    exact sp_iret dX11_of_132 (ty := .int) rfl rfl (fun _ => hQ)
  · have h := (if_pos hc3).symm.trans h
    refine sp_bipush (v := (-100)) dX11_of_13 (by decide) ?_
    cases h
    exact sp_iret dX11_of_15 (ty := .int) rfl rfl (fun _ => hQ)
def fX11_person (M : sp_Mem) (a1 : Int32) (a2 : Int32) : Option (Int32 × sp_Mem) :=
  sp_do (sp_setI M 103 0 0) fun M1 => if (fX11_isCell a1) = 0 then ((fX11_tell M1 (-1)).bind fun x3 => some (x3.1, x3.2)) else (if (fX11_in (Int32.toInt64 a2) 0 8) = 0 then ((fX11_tell M1 (-1)).bind fun x19 => some (x19.1, x19.2)) else ((sp_ix 5480 (26 + a1)).bind fun j5 => if (sp_I M1 105 j5) = 3 then ((fX11_tell M1 (-3)).bind fun x18 => some (x18.1, x18.2)) else (sp_do ((sp_I M1 105 1)) fun u7 => if u7 = 5 then ((fX11_tell M1 (-5)).bind fun x17 => some (x17.1, x17.2)) else ((sp_ix 5480 (21 + u7)).bind fun j9 => sp_do (sp_setI M1 105 j9 a1) fun M10 => (sp_ix 5480 (57 + u7)).bind fun j11 => sp_do (sp_setI M10 105 j11 a2) fun M12 => (sp_ix 5480 (62 + u7)).bind fun j13 => sp_do (sp_setI M12 105 j13 0) fun M14 => sp_do (sp_setI M14 105 1 ((sp_I M14 105 1) + 1)) fun M15 => (fX11_settled M15 u7).bind fun x16 => some (x16.1, x16.2)))))
set_option maxRecDepth 100000 in
set_option maxHeartbeats 4000000 in
theorem tX11_person {g : sp_G} {Ω : sp_Mem → Prop} {Q : sp_Qt} {p : (Int32 × sp_Mem)} (hG : sp_Ok Ω) {M : sp_Mem} {a1 : Int32} {a2 : Int32} (h : fX11_person M a1 a2 = some p) (hQ : Q (some (.int p.1)) p.2) : sp_Mt g Ω mX11_person 0 0 [.ref 103, .int a1, .int a2] M Q := by
  unfold fX11_person at h
  refine sp_Mt.of [some (.ref 103), some (.int a1), some (.int a2), none] (by decide) (by simp [sp_ent, Value.category]) rfl ?_
  refine sp_aload_n dX11_person_0 rfl rfl ?_
  refine sp_iconst (v := 0) dX11_person_1 (by decide) ?_
  refine sp_use (fun ho => ?_)
  have hs := hG.1 _ ho
  obtain ⟨M1, hM1, h⟩ := sp_do_e h
  refine sp_putI2 (RX11, TX11, 56) hG dX11_person_2 clX11 (j := 0) (by decide) tw_1215 rfl (Or.inl rfl) (wsI_103 hs) hM1 ?_
  refine sp_iload_n dX11_person_5 rfl rfl ?_
  refine sp_use (fun ho => ?_)
  have hs := hG.1 _ ho
  refine sp_cS (M1 := M1) (r := some (.int (fX11_isCell a1))) (st := []) [.int a1] [.int a1] [.int (fX11_isCell a1)] dX11_person_6 okX11_isCell tw_1415 tw_1416 (by decide) (by decide) rfl (Nat.le_of_ble_eq_true rfl) rfl rfl (fun Q hQ => tX11_isCell hG rfl hQ) ?_
  refine sp_if_eq (tgt := 24) dX11_person_9 (by decide) (fun hc2 => ?_) (fun hc2 => ?_)
  · have h := (if_pos hc2).symm.trans h
    refine sp_aload_n dX11_person_24 rfl rfl ?_
    refine sp_iconst (v := (-1)) dX11_person_25 (by decide) ?_
    obtain ⟨x3, hx3, h⟩ := Option.bind_eq_some_iff.mp h
    refine sp_cV (M1 := x3.2) (r := some (.int x3.1)) (o := 103) (st := []) (c := 10) (RX11, TX11, 56) [.int (-1)] [.int (-1), .ref 103] [.int x3.1] dX11_person_26 okX11_tell tw_1388 tw_1390 tw_27 (by decide) (by decide) rfl (Nat.le_of_ble_eq_true rfl) rfl rfl rfl rfl (wsI_103 hs) (fun Q hQ => tX11_tell hG hx3 hQ) ?_
    cases h
    exact sp_iret dX11_person_29 (ty := .int) rfl rfl (fun _ => hQ)
  · have h := (if_neg hc2).symm.trans h
    refine sp_iload_n dX11_person_12 rfl rfl ?_
    refine sp_i2l dX11_person_13 ?_
    refine sp_lconst (v := 0) dX11_person_14 (by decide) ?_
    refine sp_ldc2 (v := 8) dX11_person_15 tw_1477 ?_
    refine sp_cS (M1 := M1) (r := some (.int (fX11_in (Int32.toInt64 a2) 0 8))) (st := []) [.long (Int32.toInt64 a2), .long 0, .long 8] [.long 8, .long 0, .long (Int32.toInt64 a2)] [.int (fX11_in (Int32.toInt64 a2) 0 8)] dX11_person_18 okX11_in tw_1400 tw_1401 (by decide) (by decide) rfl (Nat.le_of_ble_eq_true rfl) rfl rfl (fun Q hQ => tX11_in hG rfl hQ) ?_
    refine sp_if_ne (tgt := 30) dX11_person_21 (by decide) (fun hc4 => ?_) (fun hc4 => ?_)
    · have h := (if_neg hc4).symm.trans h
      refine sp_aload_n dX11_person_30 rfl rfl ?_
      refine sp_getR (RX11, TX11, 56) dX11_person_31 clX11 (j := 3) (by decide) tw_1218 (wsI_103 hs) (Or.inr ⟨_, rfl⟩) (wsP_103_3 hs) ?_
      refine sp_bipush (v := 26) dX11_person_34 (by decide) ?_
      refine sp_iload_n dX11_person_36 rfl rfl ?_
      refine sp_iadd dX11_person_37 ?_
      obtain ⟨j5, hj5, h⟩ := Option.bind_eq_some_iff.mp h
      refine sp_iald2 (j := j5) dX11_person_38 (wsA_105 hs) (wsN_105 hs) hj5 ?_
      refine sp_iconst (v := 3) dX11_person_39 (by decide) ?_
      refine sp_icmp_ne (tgt := 50) dX11_person_40 (by decide) (fun hc6 => ?_) (fun hc6 => ?_)
      · have h := (if_neg hc6).symm.trans h
        refine sp_aload_n dX11_person_50 rfl rfl ?_
        refine sp_getR (RX11, TX11, 56) dX11_person_51 clX11 (j := 3) (by decide) tw_1218 (wsI_103 hs) (Or.inr ⟨_, rfl⟩) (wsP_103_3 hs) ?_
        refine sp_iconst (v := 1) dX11_person_54 (by decide) ?_
        refine sp_iald2 (j := 1) dX11_person_55 (wsA_105 hs) (wsN_105 hs) rfl ?_
        obtain ⟨u7, hu7, h⟩ := sp_do_e h
        refine sp_topi hu7 ?_
        refine sp_istore_n [some (.ref 103), some (.int a1), some (.int a2), some (.int u7)] dX11_person_56 rfl (by decide) rfl ?_
        refine sp_iload_n dX11_person_57 rfl rfl ?_
        refine sp_iconst (v := 5) dX11_person_58 (by decide) ?_
        refine sp_icmp_ne (tgt := 69) dX11_person_59 (by decide) (fun hc8 => ?_) (fun hc8 => ?_)
        · have h := (if_neg hc8).symm.trans h
          refine sp_aload_n dX11_person_69 rfl rfl ?_
          refine sp_getR (RX11, TX11, 56) dX11_person_70 clX11 (j := 3) (by decide) tw_1218 (wsI_103 hs) (Or.inr ⟨_, rfl⟩) (wsP_103_3 hs) ?_
          refine sp_bipush (v := 21) dX11_person_73 (by decide) ?_
          refine sp_iload_n dX11_person_75 rfl rfl ?_
          refine sp_iadd dX11_person_76 ?_
          refine sp_iload_n dX11_person_77 rfl rfl ?_
          obtain ⟨j9, hj9, h⟩ := Option.bind_eq_some_iff.mp h
          obtain ⟨M10, hM10, h⟩ := sp_do_e h
          refine sp_iast2 (j := j9) hG dX11_person_78 (wsA_105 hs) (wsN_105 hs) hj9 hM10 ?_
          refine sp_aload_n dX11_person_79 rfl rfl ?_
          refine sp_use (fun ho => ?_)
          have hs := hG.1 _ ho
          refine sp_getR (RX11, TX11, 56) dX11_person_80 clX11 (j := 3) (by decide) tw_1218 (wsI_103 hs) (Or.inr ⟨_, rfl⟩) (wsP_103_3 hs) ?_
          refine sp_bipush (v := 57) dX11_person_83 (by decide) ?_
          refine sp_iload_n dX11_person_85 rfl rfl ?_
          refine sp_iadd dX11_person_86 ?_
          refine sp_iload_n dX11_person_87 rfl rfl ?_
          obtain ⟨j11, hj11, h⟩ := Option.bind_eq_some_iff.mp h
          obtain ⟨M12, hM12, h⟩ := sp_do_e h
          refine sp_iast2 (j := j11) hG dX11_person_88 (wsA_105 hs) (wsN_105 hs) hj11 hM12 ?_
          refine sp_aload_n dX11_person_89 rfl rfl ?_
          refine sp_use (fun ho => ?_)
          have hs := hG.1 _ ho
          refine sp_getR (RX11, TX11, 56) dX11_person_90 clX11 (j := 3) (by decide) tw_1218 (wsI_103 hs) (Or.inr ⟨_, rfl⟩) (wsP_103_3 hs) ?_
          refine sp_bipush (v := 62) dX11_person_93 (by decide) ?_
          refine sp_iload_n dX11_person_95 rfl rfl ?_
          refine sp_iadd dX11_person_96 ?_
          refine sp_iconst (v := 0) dX11_person_97 (by decide) ?_
          obtain ⟨j13, hj13, h⟩ := Option.bind_eq_some_iff.mp h
          obtain ⟨M14, hM14, h⟩ := sp_do_e h
          refine sp_iast2 (j := j13) hG dX11_person_98 (wsA_105 hs) (wsN_105 hs) hj13 hM14 ?_
          refine sp_aload_n dX11_person_99 rfl rfl ?_
          refine sp_use (fun ho => ?_)
          have hs := hG.1 _ ho
          refine sp_getR (RX11, TX11, 56) dX11_person_100 clX11 (j := 3) (by decide) tw_1218 (wsI_103 hs) (Or.inr ⟨_, rfl⟩) (wsP_103_3 hs) ?_
          refine sp_iconst (v := 1) dX11_person_103 (by decide) ?_
          refine sp_dup2 dX11_person_104 rfl rfl ?_
          refine sp_iald2 (j := 1) dX11_person_105 (wsA_105 hs) (wsN_105 hs) rfl ?_
          refine sp_iconst (v := 1) dX11_person_106 (by decide) ?_
          refine sp_iadd dX11_person_107 ?_
          obtain ⟨M15, hM15, h⟩ := sp_do_e h
          refine sp_iast2 (j := 1) hG dX11_person_108 (wsA_105 hs) (wsN_105 hs) rfl hM15 ?_
          refine sp_aload_n dX11_person_109 rfl rfl ?_
          refine sp_iload_n dX11_person_110 rfl rfl ?_
          refine sp_use (fun ho => ?_)
          have hs := hG.1 _ ho
          obtain ⟨x16, hx16, h⟩ := Option.bind_eq_some_iff.mp h
          refine sp_cV (M1 := x16.2) (r := some (.int x16.1)) (o := 103) (st := []) (c := 10) (RX11, TX11, 56) [.int u7] [.int u7, .ref 103] [.int x16.1] dX11_person_111 okX11_settled tw_1407 tw_1409 tw_29 (by decide) (by decide) rfl (Nat.le_of_ble_eq_true rfl) rfl rfl rfl rfl (wsI_103 hs) (fun Q hQ => tX11_settled hG hx16 hQ) ?_
          cases h
          exact sp_iret dX11_person_114 (ty := .int) rfl rfl (fun _ => hQ)
        · have h := (if_pos hc8).symm.trans h
          refine sp_aload_n dX11_person_62 rfl rfl ?_
          refine sp_bipush (v := (-5)) dX11_person_63 (by decide) ?_
          obtain ⟨x17, hx17, h⟩ := Option.bind_eq_some_iff.mp h
          refine sp_cV (M1 := x17.2) (r := some (.int x17.1)) (o := 103) (st := []) (c := 10) (RX11, TX11, 56) [.int (-5)] [.int (-5), .ref 103] [.int x17.1] dX11_person_65 okX11_tell tw_1388 tw_1390 tw_27 (by decide) (by decide) rfl (Nat.le_of_ble_eq_true rfl) rfl rfl rfl rfl (wsI_103 hs) (fun Q hQ => tX11_tell hG hx17 hQ) ?_
          cases h
          exact sp_iret dX11_person_68 (ty := .int) rfl rfl (fun _ => hQ)
      · have h := (if_pos hc6).symm.trans h
        refine sp_aload_n dX11_person_43 rfl rfl ?_
        refine sp_bipush (v := (-3)) dX11_person_44 (by decide) ?_
        obtain ⟨x18, hx18, h⟩ := Option.bind_eq_some_iff.mp h
        refine sp_cV (M1 := x18.2) (r := some (.int x18.1)) (o := 103) (st := []) (c := 10) (RX11, TX11, 56) [.int (-3)] [.int (-3), .ref 103] [.int x18.1] dX11_person_46 okX11_tell tw_1388 tw_1390 tw_27 (by decide) (by decide) rfl (Nat.le_of_ble_eq_true rfl) rfl rfl rfl rfl (wsI_103 hs) (fun Q hQ => tX11_tell hG hx18 hQ) ?_
        cases h
        exact sp_iret dX11_person_49 (ty := .int) rfl rfl (fun _ => hQ)
    · have h := (if_pos hc4).symm.trans h
      refine sp_aload_n dX11_person_24 rfl rfl ?_
      refine sp_iconst (v := (-1)) dX11_person_25 (by decide) ?_
      obtain ⟨x19, hx19, h⟩ := Option.bind_eq_some_iff.mp h
      refine sp_cV (M1 := x19.2) (r := some (.int x19.1)) (o := 103) (st := []) (c := 10) (RX11, TX11, 56) [.int (-1)] [.int (-1), .ref 103] [.int x19.1] dX11_person_26 okX11_tell tw_1388 tw_1390 tw_27 (by decide) (by decide) rfl (Nat.le_of_ble_eq_true rfl) rfl rfl rfl rfl (wsI_103 hs) (fun Q hQ => tX11_tell hG hx19 hQ) ?_
      cases h
      exact sp_iret dX11_person_29 (ty := .int) rfl rfl (fun _ => hQ)
def fX11_at (M : sp_Mem) (a1 : Int32) (a2 : Int32) : Option (Int32 × sp_Mem) :=
  sp_do (sp_setI M 103 0 0) fun M1 => (fX11_isPerson M1 a1).bind fun v2 => if v2 = 0 then (some ((-1), M1)) else (if a2 = 0 then ((sp_ix 5480 (21 + a1)).bind fun j5 => some ((sp_I M1 105 j5), M1)) else if a2 = 1 then ((sp_ix 5480 (57 + a1)).bind fun j7 => some ((sp_I M1 105 j7), M1)) else if a2 = 2 then ((sp_ix 5480 (62 + a1)).bind fun j9 => some ((sp_I M1 105 j9), M1)) else (some ((-1), M1)))
set_option maxRecDepth 100000 in
set_option maxHeartbeats 4000000 in
theorem tX11_at {g : sp_G} {Ω : sp_Mem → Prop} {Q : sp_Qt} {p : (Int32 × sp_Mem)} (hG : sp_Ok Ω) {M : sp_Mem} {a1 : Int32} {a2 : Int32} (h : fX11_at M a1 a2 = some p) (hQ : Q (some (.int p.1)) p.2) : sp_Mt g Ω mX11_at 0 0 [.ref 103, .int a1, .int a2] M Q := by
  unfold fX11_at at h
  refine sp_Mt.of [some (.ref 103), some (.int a1), some (.int a2)] (by decide) (by simp [sp_ent, Value.category]) rfl ?_
  refine sp_aload_n dX11_at_0 rfl rfl ?_
  refine sp_iconst (v := 0) dX11_at_1 (by decide) ?_
  refine sp_use (fun ho => ?_)
  have hs := hG.1 _ ho
  obtain ⟨M1, hM1, h⟩ := sp_do_e h
  refine sp_putI2 (RX11, TX11, 56) hG dX11_at_2 clX11 (j := 0) (by decide) tw_1215 rfl (Or.inl rfl) (wsI_103 hs) hM1 ?_
  refine sp_aload_n dX11_at_5 rfl rfl ?_
  refine sp_iload_n dX11_at_6 rfl rfl ?_
  refine sp_use (fun ho => ?_)
  have hs := hG.1 _ ho
  obtain ⟨v2, hv2, h⟩ := Option.bind_eq_some_iff.mp h
  refine sp_cV (M1 := M1) (r := some (.int v2)) (o := 103) (st := []) (c := 10) (RX11, TX11, 56) [.int a1] [.int a1, .ref 103] [.int v2] dX11_at_7 okX11_isPerson tw_1482 tw_1484 tw_39 (by decide) (by decide) rfl (Nat.le_of_ble_eq_true rfl) rfl rfl rfl rfl (wsI_103 hs) (fun Q hQ => tX11_isPerson hG hv2 hQ) ?_
  refine sp_if_ne (tgt := 15) dX11_at_10 (by decide) (fun hc3 => ?_) (fun hc3 => ?_)
  · have h := (if_neg hc3).symm.trans h
    refine sp_iload_n dX11_at_15 rfl rfl ?_
    by_cases hc4 : a2 = 0
    · have h := (if_pos hc4).symm.trans h
      refine sp_tswI (tgt := 44) dX11_at_16 (by rw [hc4]; decide) (by rw [hc4]; decide) (by rw [hc4]; rfl) (by decide) ?_
      refine sp_aload_n dX11_at_44 rfl rfl ?_
      refine sp_getR (RX11, TX11, 56) dX11_at_45 clX11 (j := 3) (by decide) tw_1218 (wsI_103 hs) (Or.inr ⟨_, rfl⟩) (wsP_103_3 hs) ?_
      refine sp_bipush (v := 21) dX11_at_48 (by decide) ?_
      refine sp_iload_n dX11_at_50 rfl rfl ?_
      refine sp_iadd dX11_at_51 ?_
      obtain ⟨j5, hj5, h⟩ := Option.bind_eq_some_iff.mp h
      refine sp_iald2 (j := j5) dX11_at_52 (wsA_105 hs) (wsN_105 hs) hj5 ?_
      cases h
      exact sp_iret dX11_at_53 (ty := .int) rfl rfl (fun _ => hQ)
    have h := (if_neg hc4).symm.trans h
    by_cases hc6 : a2 = 1
    · have h := (if_pos hc6).symm.trans h
      refine sp_tswI (tgt := 54) dX11_at_16 (by rw [hc6]; decide) (by rw [hc6]; decide) (by rw [hc6]; rfl) (by decide) ?_
      refine sp_aload_n dX11_at_54 rfl rfl ?_
      refine sp_getR (RX11, TX11, 56) dX11_at_55 clX11 (j := 3) (by decide) tw_1218 (wsI_103 hs) (Or.inr ⟨_, rfl⟩) (wsP_103_3 hs) ?_
      refine sp_bipush (v := 57) dX11_at_58 (by decide) ?_
      refine sp_iload_n dX11_at_60 rfl rfl ?_
      refine sp_iadd dX11_at_61 ?_
      obtain ⟨j7, hj7, h⟩ := Option.bind_eq_some_iff.mp h
      refine sp_iald2 (j := j7) dX11_at_62 (wsA_105 hs) (wsN_105 hs) hj7 ?_
      cases h
      exact sp_iret dX11_at_63 (ty := .int) rfl rfl (fun _ => hQ)
    have h := (if_neg hc6).symm.trans h
    by_cases hc8 : a2 = 2
    · have h := (if_pos hc8).symm.trans h
      refine sp_tswI (tgt := 64) dX11_at_16 (by rw [hc8]; decide) (by rw [hc8]; decide) (by rw [hc8]; rfl) (by decide) ?_
      refine sp_aload_n dX11_at_64 rfl rfl ?_
      refine sp_getR (RX11, TX11, 56) dX11_at_65 clX11 (j := 3) (by decide) tw_1218 (wsI_103 hs) (Or.inr ⟨_, rfl⟩) (wsP_103_3 hs) ?_
      refine sp_bipush (v := 62) dX11_at_68 (by decide) ?_
      refine sp_iload_n dX11_at_70 rfl rfl ?_
      refine sp_iadd dX11_at_71 ?_
      obtain ⟨j9, hj9, h⟩ := Option.bind_eq_some_iff.mp h
      refine sp_iald2 (j := j9) dX11_at_72 (wsA_105 hs) (wsN_105 hs) hj9 ?_
      cases h
      exact sp_iret dX11_at_73 (ty := .int) rfl rfl (fun _ => hQ)
    have h := (if_neg hc8).symm.trans h
    have hc4 := sp_ne hc4 (show (0 : Int32).toInt = 0 by decide)
    have hc6 := sp_ne hc6 (show (1 : Int32).toInt = 1 by decide)
    have hc8 := sp_ne hc8 (show (2 : Int32).toInt = 2 by decide)
    refine sp_tswO (tgt := 74) dX11_at_16 (by omega) (by decide) ?_
    refine sp_iconst (v := (-1)) dX11_at_74 (by decide) ?_
    cases h
    exact sp_iret dX11_at_75 (ty := .int) rfl rfl (fun _ => hQ)
  · have h := (if_pos hc3).symm.trans h
    refine sp_iconst (v := (-1)) dX11_at_13 (by decide) ?_
    cases h
    exact sp_iret dX11_at_14 (ty := .int) rfl rfl (fun _ => hQ)
def fX11_knows (M : sp_Mem) (a1 : Int32) (a2 : Int32) : Option (Int32 × sp_Mem) :=
  sp_do (sp_setI M 103 0 0) fun M1 => if (fX11_in (Int32.toInt64 a2) 0 63) = 0 then ((fX11_tell M1 (-1)).bind fun x7 => some (x7.1, x7.2)) else ((fX11_isPerson M1 a1).bind fun v3 => if v3 = 0 then ((fX11_tell M1 (-2)).bind fun x5 => some (x5.1, x5.2)) else ((fX11_change M1 (62 + a1) a2).bind fun x6 => some (x6.1, x6.2)))
set_option maxRecDepth 100000 in
set_option maxHeartbeats 4000000 in
theorem tX11_knows {g : sp_G} {Ω : sp_Mem → Prop} {Q : sp_Qt} {p : (Int32 × sp_Mem)} (hG : sp_Ok Ω) {M : sp_Mem} {a1 : Int32} {a2 : Int32} (h : fX11_knows M a1 a2 = some p) (hQ : Q (some (.int p.1)) p.2) : sp_Mt g Ω mX11_knows 0 0 [.ref 103, .int a1, .int a2] M Q := by
  unfold fX11_knows at h
  refine sp_Mt.of [some (.ref 103), some (.int a1), some (.int a2)] (by decide) (by simp [sp_ent, Value.category]) rfl ?_
  refine sp_aload_n dX11_knows_0 rfl rfl ?_
  refine sp_iconst (v := 0) dX11_knows_1 (by decide) ?_
  refine sp_use (fun ho => ?_)
  have hs := hG.1 _ ho
  obtain ⟨M1, hM1, h⟩ := sp_do_e h
  refine sp_putI2 (RX11, TX11, 56) hG dX11_knows_2 clX11 (j := 0) (by decide) tw_1215 rfl (Or.inl rfl) (wsI_103 hs) hM1 ?_
  refine sp_iload_n dX11_knows_5 rfl rfl ?_
  refine sp_i2l dX11_knows_6 ?_
  refine sp_lconst (v := 0) dX11_knows_7 (by decide) ?_
  refine sp_ldc2 (v := 63) dX11_knows_8 tw_1490 ?_
  refine sp_use (fun ho => ?_)
  have hs := hG.1 _ ho
  refine sp_cS (M1 := M1) (r := some (.int (fX11_in (Int32.toInt64 a2) 0 63))) (st := []) [.long (Int32.toInt64 a2), .long 0, .long 63] [.long 63, .long 0, .long (Int32.toInt64 a2)] [.int (fX11_in (Int32.toInt64 a2) 0 63)] dX11_knows_11 okX11_in tw_1400 tw_1401 (by decide) (by decide) rfl (Nat.le_of_ble_eq_true rfl) rfl rfl (fun Q hQ => tX11_in hG rfl hQ) ?_
  refine sp_if_ne (tgt := 23) dX11_knows_14 (by decide) (fun hc2 => ?_) (fun hc2 => ?_)
  · have h := (if_neg hc2).symm.trans h
    refine sp_aload_n dX11_knows_23 rfl rfl ?_
    refine sp_iload_n dX11_knows_24 rfl rfl ?_
    obtain ⟨v3, hv3, h⟩ := Option.bind_eq_some_iff.mp h
    refine sp_cV (M1 := M1) (r := some (.int v3)) (o := 103) (st := []) (c := 10) (RX11, TX11, 56) [.int a1] [.int a1, .ref 103] [.int v3] dX11_knows_25 okX11_isPerson tw_1482 tw_1484 tw_39 (by decide) (by decide) rfl (Nat.le_of_ble_eq_true rfl) rfl rfl rfl rfl (wsI_103 hs) (fun Q hQ => tX11_isPerson hG hv3 hQ) ?_
    refine sp_if_eq (tgt := 43) dX11_knows_28 (by decide) (fun hc4 => ?_) (fun hc4 => ?_)
    · have h := (if_pos hc4).symm.trans h
      refine sp_aload_n dX11_knows_43 rfl rfl ?_
      refine sp_bipush (v := (-2)) dX11_knows_44 (by decide) ?_
      obtain ⟨x5, hx5, h⟩ := Option.bind_eq_some_iff.mp h
      refine sp_cV (M1 := x5.2) (r := some (.int x5.1)) (o := 103) (st := []) (c := 10) (RX11, TX11, 56) [.int (-2)] [.int (-2), .ref 103] [.int x5.1] dX11_knows_46 okX11_tell tw_1388 tw_1390 tw_27 (by decide) (by decide) rfl (Nat.le_of_ble_eq_true rfl) rfl rfl rfl rfl (wsI_103 hs) (fun Q hQ => tX11_tell hG hx5 hQ) ?_
      cases h
      exact sp_iret dX11_knows_49 (ty := .int) rfl rfl (fun _ => hQ)
    · have h := (if_neg hc4).symm.trans h
      refine sp_aload_n dX11_knows_31 rfl rfl ?_
      refine sp_bipush (v := 62) dX11_knows_32 (by decide) ?_
      refine sp_iload_n dX11_knows_34 rfl rfl ?_
      refine sp_iadd dX11_knows_35 ?_
      refine sp_iload_n dX11_knows_36 rfl rfl ?_
      obtain ⟨x6, hx6, h⟩ := Option.bind_eq_some_iff.mp h
      refine sp_cV (M1 := x6.2) (r := some (.int x6.1)) (o := 103) (st := []) (c := 10) (RX11, TX11, 56) [.int (62 + a1), .int a2] [.int a2, .int (62 + a1), .ref 103] [.int x6.1] dX11_knows_37 okX11_change tw_1491 tw_1493 tw_40 (by decide) (by decide) rfl (Nat.le_of_ble_eq_true rfl) rfl rfl rfl rfl (wsI_103 hs) (fun Q hQ => tX11_change hG hx6 hQ) ?_
      refine sp_goto (tgt := 49) dX11_knows_40 (by decide) ?_
      cases h
      exact sp_iret dX11_knows_49 (ty := .int) rfl rfl (fun _ => hQ)
  · have h := (if_pos hc2).symm.trans h
    refine sp_aload_n dX11_knows_17 rfl rfl ?_
    refine sp_iconst (v := (-1)) dX11_knows_18 (by decide) ?_
    obtain ⟨x7, hx7, h⟩ := Option.bind_eq_some_iff.mp h
    refine sp_cV (M1 := x7.2) (r := some (.int x7.1)) (o := 103) (st := []) (c := 10) (RX11, TX11, 56) [.int (-1)] [.int (-1), .ref 103] [.int x7.1] dX11_knows_19 okX11_tell tw_1388 tw_1390 tw_27 (by decide) (by decide) rfl (Nat.le_of_ble_eq_true rfl) rfl rfl rfl rfl (wsI_103 hs) (fun Q hQ => tX11_tell hG hx7 hQ) ?_
    cases h
    exact sp_iret dX11_knows_22 (ty := .int) rfl rfl (fun _ => hQ)
def fX11_shuns (F : Nat) (M : sp_Mem) (a1 : Int32) (a2 : Int32) (a3 : Int32) : Option (Int32 × sp_Mem) :=
  (fX11_tells F M 2 a1 a3 a2 0).bind fun x1 => some ((if x1.1 = 1 then 1 else 0), x1.2)
set_option maxRecDepth 100000 in
set_option maxHeartbeats 4000000 in
theorem tX11_shuns {g : sp_G} {Ω : sp_Mem → Prop} {Q : sp_Qt} {F : Nat} {p : (Int32 × sp_Mem)} (hG : sp_Ok Ω) {M : sp_Mem} {a1 : Int32} {a2 : Int32} {a3 : Int32} (h : fX11_shuns F M a1 a2 a3 = some p) (hQ : Q (some (.int p.1)) p.2) : sp_Mt g Ω mX11_shuns 0 0 [.ref 103, .int a1, .int a2, .int a3] M Q := by
  unfold fX11_shuns at h
  refine sp_Mt.of [some (.ref 103), some (.int a1), some (.int a2), some (.int a3)] (by decide) (by simp [sp_ent, Value.category]) rfl ?_
  refine sp_aload_n dX11_shuns_0 rfl rfl ?_
  refine sp_iconst (v := 2) dX11_shuns_1 (by decide) ?_
  refine sp_iload_n dX11_shuns_2 rfl rfl ?_
  refine sp_iload_n dX11_shuns_3 rfl rfl ?_
  refine sp_iload_n dX11_shuns_4 rfl rfl ?_
  refine sp_lconst (v := 0) dX11_shuns_5 (by decide) ?_
  refine sp_use (fun ho => ?_)
  have hs := hG.1 _ ho
  obtain ⟨x1, hx1, h⟩ := Option.bind_eq_some_iff.mp h
  refine sp_cV (M1 := x1.2) (r := some (.long x1.1)) (o := 103) (st := []) (c := 10) (RX11, TX11, 56) [.int 2, .int a1, .int a3, .int a2, .long 0] [.long 0, .int a2, .int a3, .int a1, .int 2, .ref 103] [.long x1.1] dX11_shuns_6 okX11_tells tw_1436 tw_1438 tw_33 (by decide) (by decide) rfl (Nat.le_of_ble_eq_true rfl) rfl rfl rfl rfl (wsI_103 hs) (fun Q hQ => tX11_tells hG hx1 hQ) ?_
  refine sp_lconst (v := 1) dX11_shuns_9 (by decide) ?_
  refine sp_lcmp dX11_shuns_10 ?_
  suffices hj : sp_Wp g Ω mX11_shuns 0 0 19 [none, none, none, none] [.int (if x1.1 = 1 then 1 else 0)] x1.2 Q by
    refine sp_lif_ne (tgt := 18) dX11_shuns_11 (by decide) (fun hc2 => ?_) (fun hc2 => ?_)
    · refine sp_iconst (v := 0) dX11_shuns_18 (by decide) ?_
      refine sp_weak [false, false, false, false] [none, none, none, none] rfl ?_
      simp only [if_neg hc2] at hj
      exact hj
    · refine sp_iconst (v := 1) dX11_shuns_14 (by decide) ?_
      refine sp_goto (tgt := 19) dX11_shuns_15 (by decide) ?_
      refine sp_weak [false, false, false, false] [none, none, none, none] rfl ?_
      simp only [if_pos hc2] at hj
      exact hj
  cases h
  exact sp_iret dX11_shuns_19 (ty := .boolean) rfl (sp_nz (by repeat (first | exact Or.inl rfl | exact Or.inr rfl | split))) (fun _ => hQ)
def fX11_comes (F : Nat) (M : sp_Mem) (a1 : Int32) (a2 : Int32) (a3 : Int32) : Option (Int32 × sp_Mem) :=
  (sp_ix 5480 (62 + a2)).bind fun j1 => if (fX11_is (sp_I M 105 j1) a1) = 0 then (some (0, M)) else ((sp_ix 5480 (21 + a2)).bind fun j3 => (fX11_apart a3 (sp_I M 105 j3)).bind fun v4 => (sp_ix 5480 (57 + a2)).bind fun j5 => if (sp_I M 105 j5) < v4 then (some (0, M)) else ((fX11_shuns F M a1 a2 a3).bind fun x7 => some ((if x7.1 = 0 then 1 else 0), x7.2)))
set_option maxRecDepth 100000 in
set_option maxHeartbeats 4000000 in
theorem tX11_comes {g : sp_G} {Ω : sp_Mem → Prop} {Q : sp_Qt} {F : Nat} {p : (Int32 × sp_Mem)} (hG : sp_Ok Ω) {M : sp_Mem} {a1 : Int32} {a2 : Int32} {a3 : Int32} (h : fX11_comes F M a1 a2 a3 = some p) (hQ : Q (some (.int p.1)) p.2) : sp_Mt g Ω mX11_comes 0 0 [.ref 103, .int a1, .int a2, .int a3] M Q := by
  unfold fX11_comes at h
  refine sp_Mt.of [some (.ref 103), some (.int a1), some (.int a2), some (.int a3)] (by decide) (by simp [sp_ent, Value.category]) rfl ?_
  refine sp_aload_n dX11_comes_0 rfl rfl ?_
  refine sp_use (fun ho => ?_)
  have hs := hG.1 _ ho
  refine sp_getR (RX11, TX11, 56) dX11_comes_1 clX11 (j := 3) (by decide) tw_1218 (wsI_103 hs) (Or.inr ⟨_, rfl⟩) (wsP_103_3 hs) ?_
  refine sp_bipush (v := 62) dX11_comes_4 (by decide) ?_
  refine sp_iload_n dX11_comes_6 rfl rfl ?_
  refine sp_iadd dX11_comes_7 ?_
  obtain ⟨j1, hj1, h⟩ := Option.bind_eq_some_iff.mp h
  refine sp_iald2 (j := j1) dX11_comes_8 (wsA_105 hs) (wsN_105 hs) hj1 ?_
  refine sp_iload_n dX11_comes_9 rfl rfl ?_
  refine sp_cS (M1 := M) (r := some (.int (fX11_is (sp_I M 105 j1) a1))) (st := []) [.int (sp_I M 105 j1), .int a1] [.int a1, .int (sp_I M 105 j1)] [.int (fX11_is (sp_I M 105 j1) a1)] dX11_comes_10 okX11_is tw_1470 tw_1471 (by decide) (by decide) rfl (Nat.le_of_ble_eq_true rfl) rfl rfl (fun Q hQ => tX11_is hG rfl hQ) ?_
  refine sp_if_eq (tgt := 55) dX11_comes_13 (by decide) (fun hc2 => ?_) (fun hc2 => ?_)
  · have h := (if_pos hc2).symm.trans h
    refine sp_iconst (v := 0) dX11_comes_55 (by decide) ?_
    cases h
    exact sp_iret dX11_comes_56 (ty := .boolean) rfl (sp_nz (Or.inl rfl)) (fun _ => hQ)
  · have h := (if_neg hc2).symm.trans h
    refine sp_iload_n dX11_comes_16 rfl rfl ?_
    refine sp_aload_n dX11_comes_17 rfl rfl ?_
    refine sp_getR (RX11, TX11, 56) dX11_comes_18 clX11 (j := 3) (by decide) tw_1218 (wsI_103 hs) (Or.inr ⟨_, rfl⟩) (wsP_103_3 hs) ?_
    refine sp_bipush (v := 21) dX11_comes_21 (by decide) ?_
    refine sp_iload_n dX11_comes_23 rfl rfl ?_
    refine sp_iadd dX11_comes_24 ?_
    obtain ⟨j3, hj3, h⟩ := Option.bind_eq_some_iff.mp h
    refine sp_iald2 (j := j3) dX11_comes_25 (wsA_105 hs) (wsN_105 hs) hj3 ?_
    obtain ⟨v4, hv4, h⟩ := Option.bind_eq_some_iff.mp h
    refine sp_cS (M1 := M) (r := some (.int v4)) (st := []) [.int a3, .int (sp_I M 105 j3)] [.int (sp_I M 105 j3), .int a3] [.int v4] dX11_comes_26 okX11_apart tw_1440 tw_1441 (by decide) (by decide) rfl (Nat.le_of_ble_eq_true rfl) rfl rfl (fun Q hQ => tX11_apart hG hv4 hQ) ?_
    refine sp_aload_n dX11_comes_29 rfl rfl ?_
    refine sp_getR (RX11, TX11, 56) dX11_comes_30 clX11 (j := 3) (by decide) tw_1218 (wsI_103 hs) (Or.inr ⟨_, rfl⟩) (wsP_103_3 hs) ?_
    refine sp_bipush (v := 57) dX11_comes_33 (by decide) ?_
    refine sp_iload_n dX11_comes_35 rfl rfl ?_
    refine sp_iadd dX11_comes_36 ?_
    obtain ⟨j5, hj5, h⟩ := Option.bind_eq_some_iff.mp h
    refine sp_iald2 (j := j5) dX11_comes_37 (wsA_105 hs) (wsN_105 hs) hj5 ?_
    refine sp_icmp_gt (tgt := 55) dX11_comes_38 (by decide) (fun hc6 => ?_) (fun hc6 => ?_)
    · have h := (if_pos hc6).symm.trans h
      refine sp_iconst (v := 0) dX11_comes_55 (by decide) ?_
      cases h
      exact sp_iret dX11_comes_56 (ty := .boolean) rfl (sp_nz (Or.inl rfl)) (fun _ => hQ)
    · have h := (if_neg hc6).symm.trans h
      refine sp_aload_n dX11_comes_41 rfl rfl ?_
      refine sp_iload_n dX11_comes_42 rfl rfl ?_
      refine sp_iload_n dX11_comes_43 rfl rfl ?_
      refine sp_iload_n dX11_comes_44 rfl rfl ?_
      obtain ⟨x7, hx7, h⟩ := Option.bind_eq_some_iff.mp h
      refine sp_cV (M1 := x7.2) (r := some (.int x7.1)) (o := 103) (st := []) (c := 10) (RX11, TX11, 56) [.int a1, .int a2, .int a3] [.int a3, .int a2, .int a1, .ref 103] [.int x7.1] dX11_comes_45 okX11_shuns tw_1499 tw_1501 tw_41 (by decide) (by decide) rfl (Nat.le_of_ble_eq_true rfl) rfl rfl rfl rfl (wsI_103 hs) (fun Q hQ => tX11_shuns hG hx7 hQ) ?_
      suffices hj : sp_Wp g Ω mX11_comes 0 0 56 [none, none, none, none] [.int (if x7.1 = 0 then 1 else 0)] x7.2 Q by
        refine sp_if_ne (tgt := 55) dX11_comes_48 (by decide) (fun hc8 => ?_) (fun hc8 => ?_)
        · refine sp_iconst (v := 0) dX11_comes_55 (by decide) ?_
          refine sp_weak [false, false, false, false] [none, none, none, none] rfl ?_
          simp only [if_neg hc8] at hj
          exact hj
        · refine sp_iconst (v := 1) dX11_comes_51 (by decide) ?_
          refine sp_goto (tgt := 56) dX11_comes_52 (by decide) ?_
          refine sp_weak [false, false, false, false] [none, none, none, none] rfl ?_
          simp only [if_pos hc8] at hj
          exact hj
      cases h
      exact sp_iret dX11_comes_56 (ty := .boolean) rfl (sp_nz (by repeat (first | exact Or.inl rfl | exact Or.inr rfl | split))) (fun _ => hQ)
