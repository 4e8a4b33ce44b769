abbrev mL_law : sp_MD := (x, code, 4, ret, 14, 570)
def gL_0 (F : Nat) (M : sp_Mem) (w1 : Int32) (w2 : Int32) (w3 : Int32) : Option sp_Mem :=
  (fX10_spark M w1 w2 w3).bind fun x1 => (fX11_spark x1.2 w1 w2 w3).bind fun x2 => if x1.1 = x2.1 then some x2.2 else none
set_option maxRecDepth 100000 in
set_option maxHeartbeats 4000000 in
theorem hL_0 {g : sp_G} {Ω : sp_Mem → Prop} {Q : sp_Qt} {F mc ms : Nat} {a3 : Int32} {M p : sp_Mem} (hG : sp_Ok Ω) (h1 : vp_in (a3 + 1) (sp_sl g)) (h2 : vp_in (a3 + 2) (sp_sl g)) (h3 : vp_in (a3 + 3) (sp_sl g)) (h4 : vp_in (a3 + 4) (sp_sl g)) (h5 : vp_in (a3 + 5) (sp_sl g)) (h : gL_0 F M (sp_sx g (a3 + 1).toNatClampNeg) (sp_sx g (a3 + 2).toNatClampNeg) (sp_sx g (a3 + 3).toNatClampNeg) = some p) (k : sp_Wp g Ω mL_law mc ms 1333 [some (.ref (1000100 + 101)), some (.ref 0), some (.ref 103), some (.int a3)] [] p Q) : sp_Wp g Ω mL_law mc ms 216 [some (.ref (1000100 + 101)), some (.ref 0), some (.ref 103), some (.int a3)] [] M Q := by
  unfold gL_0 at h
  refine sp_aload_n dL_law_216 rfl rfl ?_
  refine sp_aload_n dL_law_217 rfl rfl ?_
  refine sp_iload_n dL_law_218 rfl rfl ?_
  refine sp_iconst (v := 1) dL_law_219 (by decide) ?_
  refine sp_iadd dL_law_220 ?_
  refine sp_sld dL_law_221 h1 ?_
  refine sp_aload_n dL_law_222 rfl rfl ?_
  refine sp_iload_n dL_law_223 rfl rfl ?_
  refine sp_iconst (v := 2) dL_law_224 (by decide) ?_
  refine sp_iadd dL_law_225 ?_
  refine sp_sld dL_law_226 h2 ?_
  refine sp_aload_n dL_law_227 rfl rfl ?_
  refine sp_iload_n dL_law_228 rfl rfl ?_
  refine sp_iconst (v := 3) dL_law_229 (by decide) ?_
  refine sp_iadd dL_law_230 ?_
  refine sp_sld dL_law_231 h3 ?_
  refine sp_use (fun ho => ?_)
  have hs := hG.1 _ ho
  obtain ⟨x1, hx1, h⟩ := Option.bind_eq_some_iff.mp h
  refine sp_cV (M1 := x1.2) (r := some (.int x1.1)) (o := 0) (st := []) (c := 9) (RX10, TX10, 16) [.int (sp_sx g (a3 + 1).toNatClampNeg), .int (sp_sx g (a3 + 2).toNatClampNeg), .int (sp_sx g (a3 + 3).toNatClampNeg)] [.int (sp_sx g (a3 + 3).toNatClampNeg), .int (sp_sx g (a3 + 2).toNatClampNeg), .int (sp_sx g (a3 + 1).toNatClampNeg), .ref 0] [.int x1.1] dL_law_232 okX10_spark tw_464 tw_465 tw_466 (by decide) (by decide) rfl (Nat.le_of_ble_eq_true rfl) rfl rfl rfl rfl (wsI_0 hs) (fun Q hQ => tX10_spark hG hx1 hQ) ?_
  refine sp_aload_n dL_law_235 rfl rfl ?_
  refine sp_aload_n dL_law_236 rfl rfl ?_
  refine sp_iload_n dL_law_237 rfl rfl ?_
  refine sp_iconst (v := 1) dL_law_238 (by decide) ?_
  refine sp_iadd dL_law_239 ?_
  refine sp_sld dL_law_240 h1 ?_
  refine sp_aload_n dL_law_241 rfl rfl ?_
  refine sp_iload_n dL_law_242 rfl rfl ?_
  refine sp_iconst (v := 2) dL_law_243 (by decide) ?_
  refine sp_iadd dL_law_244 ?_
  refine sp_sld dL_law_245 h2 ?_
  refine sp_aload_n dL_law_246 rfl rfl ?_
  refine sp_iload_n dL_law_247 rfl rfl ?_
  refine sp_iconst (v := 3) dL_law_248 (by decide) ?_
  refine sp_iadd dL_law_249 ?_
  refine sp_sld dL_law_250 h3 ?_
  refine sp_use (fun ho => ?_)
  have hs := hG.1 _ ho
  obtain ⟨x2, hx2, h⟩ := Option.bind_eq_some_iff.mp h
  refine sp_cV (M1 := x2.2) (r := some (.int x2.1)) (o := 103) (st := [.int x1.1]) (c := 10) (RX11, TX11, 56) [.int (sp_sx g (a3 + 1).toNatClampNeg), .int (sp_sx g (a3 + 2).toNatClampNeg), .int (sp_sx g (a3 + 3).toNatClampNeg)] [.int (sp_sx g (a3 + 3).toNatClampNeg), .int (sp_sx g (a3 + 2).toNatClampNeg), .int (sp_sx g (a3 + 1).toNatClampNeg), .ref 103, .int x1.1] [.int x2.1, .int x1.1] dL_law_251 okX11_spark tw_1411 tw_1412 tw_1413 (by decide) (by decide) rfl (Nat.le_of_ble_eq_true rfl) rfl rfl rfl rfl (wsI_103 hs) (fun Q hQ => tX11_spark hG hx2 hQ) ?_
  refine sp_icmp_eq (tgt := 1333) dL_law_254 (by decide) (fun hc3 => ?_) (fun hc3 => ?_)
  · have h := (if_pos hc3).symm.trans h
    cases h
    exact k
  · have h := (if_neg hc3).symm.trans h
    cases h
def gL_1 (F : Nat) (M : sp_Mem) (w1 : Int32) (w2 : Int32) : Option sp_Mem :=
  (fX10_of F M w1 w2).bind fun x1 => (fX11_of F x1.2 w1 w2).bind fun x2 => if x1.1 = x2.1 then some x2.2 else none
set_option maxRecDepth 100000 in
set_option maxHeartbeats 4000000 in
theorem hL_1 {g : sp_G} {Ω : sp_Mem → Prop} {Q : sp_Qt} {F mc ms : Nat} {a3 : Int32} {M p : sp_Mem} (hG : sp_Ok Ω) (h1 : vp_in (a3 + 1) (sp_sl g)) (h2 : vp_in (a3 + 2) (sp_sl g)) (h3 : vp_in (a3 + 3) (sp_sl g)) (h4 : vp_in (a3 + 4) (sp_sl g)) (h5 : vp_in (a3 + 5) (sp_sl g)) (h : gL_1 F M (sp_sx g (a3 + 1).toNatClampNeg) (sp_sx g (a3 + 2).toNatClampNeg) = some p) (k : sp_Wp g Ω mL_law mc ms 1333 [some (.ref (1000100 + 101)), some (.ref 0), some (.ref 103), some (.int a3)] [] p Q) : sp_Wp g Ω mL_law mc ms 259 [some (.ref (1000100 + 101)), some (.ref 0), some (.ref 103), some (.int a3)] [] M Q := by
  unfold gL_1 at h
  refine sp_aload_n dL_law_259 rfl rfl ?_
  refine sp_aload_n dL_law_260 rfl rfl ?_
  refine sp_iload_n dL_law_261 rfl rfl ?_
  refine sp_iconst (v := 1) dL_law_262 (by decide) ?_
  refine sp_iadd dL_law_263 ?_
  refine sp_sld dL_law_264 h1 ?_
  refine sp_aload_n dL_law_265 rfl rfl ?_
  refine sp_iload_n dL_law_266 rfl rfl ?_
  refine sp_iconst (v := 2) dL_law_267 (by decide) ?_
  refine sp_iadd dL_law_268 ?_
  refine sp_sld dL_law_269 h2 ?_
  refine sp_use (fun ho => ?_)
  have hs := hG.1 _ ho
  obtain ⟨x1, hx1, h⟩ := Option.bind_eq_some_iff.mp h
  refine sp_cV (M1 := x1.2) (r := some (.int x1.1)) (o := 0) (st := []) (c := 9) (RX10, TX10, 16) [.int (sp_sx g (a3 + 1).toNatClampNeg), .int (sp_sx g (a3 + 2).toNatClampNeg)] [.int (sp_sx g (a3 + 2).toNatClampNeg), .int (sp_sx g (a3 + 1).toNatClampNeg), .ref 0] [.int x1.1] dL_law_270 okX10_of tw_490 tw_491 tw_492 (by decide) (by decide) rfl (Nat.le_of_ble_eq_true rfl) rfl rfl rfl rfl (wsI_0 hs) (fun Q hQ => tX10_of hG hx1 hQ) ?_
  refine sp_aload_n dL_law_273 rfl rfl ?_
  refine sp_aload_n dL_law_274 rfl rfl ?_
  refine sp_iload_n dL_law_275 rfl rfl ?_
  refine sp_iconst (v := 1) dL_law_276 (by decide) ?_
  refine sp_iadd dL_law_277 ?_
  refine sp_sld dL_law_278 h1 ?_
  refine sp_aload_n dL_law_279 rfl rfl ?_
  refine sp_iload_n dL_law_280 rfl rfl ?_
  refine sp_iconst (v := 2) dL_law_281 (by decide) ?_
  refine sp_iadd dL_law_282 ?_
  refine sp_sld dL_law_283 h2 ?_
  refine sp_use (fun ho => ?_)
  have hs := hG.1 _ ho
  obtain ⟨x2, hx2, h⟩ := Option.bind_eq_some_iff.mp h
  refine sp_cV (M1 := x2.2) (r := some (.int x2.1)) (o := 103) (st := [.int x1.1]) (c := 10) (RX11, TX11, 56) [.int (sp_sx g (a3 + 1).toNatClampNeg), .int (sp_sx g (a3 + 2).toNatClampNeg)] [.int (sp_sx g (a3 + 2).toNatClampNeg), .int (sp_sx g (a3 + 1).toNatClampNeg), .ref 103, .int x1.1] [.int x2.1, .int x1.1] dL_law_284 okX11_of tw_1420 tw_1421 tw_1422 (by decide) (by decide) rfl (Nat.le_of_ble_eq_true rfl) rfl rfl rfl rfl (wsI_103 hs) (fun Q hQ => tX11_of hG hx2 hQ) ?_
  refine sp_icmp_eq (tgt := 1333) dL_law_287 (by decide) (fun hc3 => ?_) (fun hc3 => ?_)
  · have h := (if_pos hc3).symm.trans h
    cases h
    exact k
  · have h := (if_neg hc3).symm.trans h
    cases h
def gL_2 (F : Nat) (M : sp_Mem) (w1 : Int32) (w2 : Int32) : Option sp_Mem :=
  (fX10_person M w1 w2).bind fun x1 => (fX11_person x1.2 w1 w2).bind fun x2 => if x1.1 = x2.1 then some x2.2 else none
set_option maxRecDepth 100000 in
set_option maxHeartbeats 4000000 in
theorem hL_2 {g : sp_G} {Ω : sp_Mem → Prop} {Q : sp_Qt} {F mc ms : Nat} {a3 : Int32} {M p : sp_Mem} (hG : sp_Ok Ω) (h1 : vp_in (a3 + 1) (sp_sl g)) (h2 : vp_in (a3 + 2) (sp_sl g)) (h3 : vp_in (a3 + 3) (sp_sl g)) (h4 : vp_in (a3 + 4) (sp_sl g)) (h5 : vp_in (a3 + 5) (sp_sl g)) (h : gL_2 F M (sp_sx g (a3 + 1).toNatClampNeg) (sp_sx g (a3 + 2).toNatClampNeg) = some p) (k : sp_Wp g Ω mL_law mc ms 1333 [some (.ref (1000100 + 101)), some (.ref 0), some (.ref 103), some (.int a3)] [] p Q) : sp_Wp g Ω mL_law mc ms 292 [some (.ref (1000100 + 101)), some (.ref 0), some (.ref 103), some (.int a3)] [] M Q := by
  unfold gL_2 at h
  refine sp_aload_n dL_law_292 rfl rfl ?_
  refine sp_aload_n dL_law_293 rfl rfl ?_
  refine sp_iload_n dL_law_294 rfl rfl ?_
  refine sp_iconst (v := 1) dL_law_295 (by decide) ?_
  refine sp_iadd dL_law_296 ?_
  refine sp_sld dL_law_297 h1 ?_
  refine sp_aload_n dL_law_298 rfl rfl ?_
  refine sp_iload_n dL_law_299 rfl rfl ?_
  refine sp_iconst (v := 2) dL_law_300 (by decide) ?_
  refine sp_iadd dL_law_301 ?_
  refine sp_sld dL_law_302 h2 ?_
  refine sp_use (fun ho => ?_)
  have hs := hG.1 _ ho
  obtain ⟨x1, hx1, h⟩ := Option.bind_eq_some_iff.mp h
  refine sp_cV (M1 := x1.2) (r := some (.int x1.1)) (o := 0) (st := []) (c := 9) (RX10, TX10, 16) [.int (sp_sx g (a3 + 1).toNatClampNeg), .int (sp_sx g (a3 + 2).toNatClampNeg)] [.int (sp_sx g (a3 + 2).toNatClampNeg), .int (sp_sx g (a3 + 1).toNatClampNeg), .ref 0] [.int x1.1] dL_law_303 okX10_person tw_558 tw_559 tw_560 (by decide) (by decide) rfl (Nat.le_of_ble_eq_true rfl) rfl rfl rfl rfl (wsI_0 hs) (fun Q hQ => tX10_person hG hx1 hQ) ?_
  refine sp_aload_n dL_law_306 rfl rfl ?_
  refine sp_aload_n dL_law_307 rfl rfl ?_
  refine sp_iload_n dL_law_308 rfl rfl ?_
  refine sp_iconst (v := 1) dL_law_309 (by decide) ?_
  refine sp_iadd dL_law_310 ?_
  refine sp_sld dL_law_311 h1 ?_
  refine sp_aload_n dL_law_312 rfl rfl ?_
  refine sp_iload_n dL_law_313 rfl rfl ?_
  refine sp_iconst (v := 2) dL_law_314 (by decide) ?_
  refine sp_iadd dL_law_315 ?_
  refine sp_sld dL_law_316 h2 ?_
  refine sp_use (fun ho => ?_)
  have hs := hG.1 _ ho
  obtain ⟨x2, hx2, h⟩ := Option.bind_eq_some_iff.mp h
  refine sp_cV (M1 := x2.2) (r := some (.int x2.1)) (o := 103) (st := [.int x1.1]) (c := 10) (RX11, TX11, 56) [.int (sp_sx g (a3 + 1).toNatClampNeg), .int (sp_sx g (a3 + 2).toNatClampNeg)] [.int (sp_sx g (a3 + 2).toNatClampNeg), .int (sp_sx g (a3 + 1).toNatClampNeg), .ref 103, .int x1.1] [.int x2.1, .int x1.1] dL_law_317 okX11_person tw_1473 tw_1474 tw_1475 (by decide) (by decide) rfl (Nat.le_of_ble_eq_true rfl) rfl rfl rfl rfl (wsI_103 hs) (fun Q hQ => tX11_person hG hx2 hQ) ?_
  refine sp_icmp_eq (tgt := 1333) dL_law_320 (by decide) (fun hc3 => ?_) (fun hc3 => ?_)
  · have h := (if_pos hc3).symm.trans h
    cases h
    exact k
  · have h := (if_neg hc3).symm.trans h
    cases h
def gL_3 (F : Nat) (M : sp_Mem) (w1 : Int32) (w2 : Int32) : Option sp_Mem :=
  (fX10_at M w1 w2).bind fun v1 => (fX11_at M w1 w2).bind fun x2 => if v1 = x2.1 then some x2.2 else none
set_option maxRecDepth 100000 in
set_option maxHeartbeats 4000000 in
theorem hL_3 {g : sp_G} {Ω : sp_Mem → Prop} {Q : sp_Qt} {F mc ms : Nat} {a3 : Int32} {M p : sp_Mem} (hG : sp_Ok Ω) (h1 : vp_in (a3 + 1) (sp_sl g)) (h2 : vp_in (a3 + 2) (sp_sl g)) (h3 : vp_in (a3 + 3) (sp_sl g)) (h4 : vp_in (a3 + 4) (sp_sl g)) (h5 : vp_in (a3 + 5) (sp_sl g)) (h : gL_3 F M (sp_sx g (a3 + 1).toNatClampNeg) (sp_sx g (a3 + 2).toNatClampNeg) = some p) (k : sp_Wp g Ω mL_law mc ms 1333 [some (.ref (1000100 + 101)), some (.ref 0), some (.ref 103), some (.int a3)] [] p Q) : sp_Wp g Ω mL_law mc ms 325 [some (.ref (1000100 + 101)), some (.ref 0), some (.ref 103), some (.int a3)] [] M Q := by
  unfold gL_3 at h
  refine sp_aload_n dL_law_325 rfl rfl ?_
  refine sp_aload_n dL_law_326 rfl rfl ?_
  refine sp_iload_n dL_law_327 rfl rfl ?_
  refine sp_iconst (v := 1) dL_law_328 (by decide) ?_
  refine sp_iadd dL_law_329 ?_
  refine sp_sld dL_law_330 h1 ?_
  refine sp_aload_n dL_law_331 rfl rfl ?_
  refine sp_iload_n dL_law_332 rfl rfl ?_
  refine sp_iconst (v := 2) dL_law_333 (by decide) ?_
  refine sp_iadd dL_law_334 ?_
  refine sp_sld dL_law_335 h2 ?_
  refine sp_use (fun ho => ?_)
  have hs := hG.1 _ ho
  obtain ⟨v1, hv1, h⟩ := Option.bind_eq_some_iff.mp h
  refine sp_cV (M1 := M) (r := some (.int v1)) (o := 0) (st := []) (c := 9) (RX10, TX10, 16) [.int (sp_sx g (a3 + 1).toNatClampNeg), .int (sp_sx g (a3 + 2).toNatClampNeg)] [.int (sp_sx g (a3 + 2).toNatClampNeg), .int (sp_sx g (a3 + 1).toNatClampNeg), .ref 0] [.int v1] dL_law_336 okX10_at tw_566 tw_567 tw_568 (by decide) (by decide) rfl (Nat.le_of_ble_eq_true rfl) rfl rfl rfl rfl (wsI_0 hs) (fun Q hQ => tX10_at hG hv1 hQ) ?_
  refine sp_aload_n dL_law_339 rfl rfl ?_
  refine sp_aload_n dL_law_340 rfl rfl ?_
  refine sp_iload_n dL_law_341 rfl rfl ?_
  refine sp_iconst (v := 1) dL_law_342 (by decide) ?_
  refine sp_iadd dL_law_343 ?_
  refine sp_sld dL_law_344 h1 ?_
  refine sp_aload_n dL_law_345 rfl rfl ?_
  refine sp_iload_n dL_law_346 rfl rfl ?_
  refine sp_iconst (v := 2) dL_law_347 (by decide) ?_
  refine sp_iadd dL_law_348 ?_
  refine sp_sld dL_law_349 h2 ?_
  refine sp_use (fun ho => ?_)
  have hs := hG.1 _ ho
  obtain ⟨x2, hx2, h⟩ := Option.bind_eq_some_iff.mp h
  refine sp_cV (M1 := x2.2) (r := some (.int x2.1)) (o := 103) (st := [.int v1]) (c := 10) (RX11, TX11, 56) [.int (sp_sx g (a3 + 1).toNatClampNeg), .int (sp_sx g (a3 + 2).toNatClampNeg)] [.int (sp_sx g (a3 + 2).toNatClampNeg), .int (sp_sx g (a3 + 1).toNatClampNeg), .ref 103, .int v1] [.int x2.1, .int v1] dL_law_350 okX11_at tw_1478 tw_1479 tw_1480 (by decide) (by decide) rfl (Nat.le_of_ble_eq_true rfl) rfl rfl rfl rfl (wsI_103 hs) (fun Q hQ => tX11_at hG hx2 hQ) ?_
  refine sp_icmp_eq (tgt := 1333) dL_law_353 (by decide) (fun hc3 => ?_) (fun hc3 => ?_)
  · have h := (if_pos hc3).symm.trans h
    cases h
    exact k
  · have h := (if_neg hc3).symm.trans h
    cases h
def gL_4 (F : Nat) (M : sp_Mem) (w1 : Int32) (w2 : Int32) : Option sp_Mem :=
  (fX10_knows M w1 w2).bind fun x1 => (fX11_knows x1.2 w1 w2).bind fun x2 => if x1.1 = x2.1 then some x2.2 else none
set_option maxRecDepth 100000 in
set_option maxHeartbeats 4000000 in
theorem hL_4 {g : sp_G} {Ω : sp_Mem → Prop} {Q : sp_Qt} {F mc ms : Nat} {a3 : Int32} {M p : sp_Mem} (hG : sp_Ok Ω) (h1 : vp_in (a3 + 1) (sp_sl g)) (h2 : vp_in (a3 + 2) (sp_sl g)) (h3 : vp_in (a3 + 3) (sp_sl g)) (h4 : vp_in (a3 + 4) (sp_sl g)) (h5 : vp_in (a3 + 5) (sp_sl g)) (h : gL_4 F M (sp_sx g (a3 + 1).toNatClampNeg) (sp_sx g (a3 + 2).toNatClampNeg) = some p) (k : sp_Wp g Ω mL_law mc ms 1333 [some (.ref (1000100 + 101)), some (.ref 0), some (.ref 103), some (.int a3)] [] p Q) : sp_Wp g Ω mL_law mc ms 358 [some (.ref (1000100 + 101)), some (.ref 0), some (.ref 103), some (.int a3)] [] M Q := by
  unfold gL_4 at h
  refine sp_aload_n dL_law_358 rfl rfl ?_
  refine sp_aload_n dL_law_359 rfl rfl ?_
  refine sp_iload_n dL_law_360 rfl rfl ?_
  refine sp_iconst (v := 1) dL_law_361 (by decide) ?_
  refine sp_iadd dL_law_362 ?_
  refine sp_sld dL_law_363 h1 ?_
  refine sp_aload_n dL_law_364 rfl rfl ?_
  refine sp_iload_n dL_law_365 rfl rfl ?_
  refine sp_iconst (v := 2) dL_law_366 (by decide) ?_
  refine sp_iadd dL_law_367 ?_
  refine sp_sld dL_law_368 h2 ?_
  refine sp_use (fun ho => ?_)
  have hs := hG.1 _ ho
  obtain ⟨x1, hx1, h⟩ := Option.bind_eq_some_iff.mp h
  refine sp_cV (M1 := x1.2) (r := some (.int x1.1)) (o := 0) (st := []) (c := 9) (RX10, TX10, 16) [.int (sp_sx g (a3 + 1).toNatClampNeg), .int (sp_sx g (a3 + 2).toNatClampNeg)] [.int (sp_sx g (a3 + 2).toNatClampNeg), .int (sp_sx g (a3 + 1).toNatClampNeg), .ref 0] [.int x1.1] dL_law_369 okX10_knows tw_574 tw_575 tw_576 (by decide) (by decide) rfl (Nat.le_of_ble_eq_true rfl) rfl rfl rfl rfl (wsI_0 hs) (fun Q hQ => tX10_knows hG hx1 hQ) ?_
  refine sp_aload_n dL_law_372 rfl rfl ?_
  refine sp_aload_n dL_law_373 rfl rfl ?_
  refine sp_iload_n dL_law_374 rfl rfl ?_
  refine sp_iconst (v := 1) dL_law_375 (by decide) ?_
  refine sp_iadd dL_law_376 ?_
  refine sp_sld dL_law_377 h1 ?_
  refine sp_aload_n dL_law_378 rfl rfl ?_
  refine sp_iload_n dL_law_379 rfl rfl ?_
  refine sp_iconst (v := 2) dL_law_380 (by decide) ?_
  refine sp_iadd dL_law_381 ?_
  refine sp_sld dL_law_382 h2 ?_
  refine sp_use (fun ho => ?_)
  have hs := hG.1 _ ho
  obtain ⟨x2, hx2, h⟩ := Option.bind_eq_some_iff.mp h
  refine sp_cV (M1 := x2.2) (r := some (.int x2.1)) (o := 103) (st := [.int x1.1]) (c := 10) (RX11, TX11, 56) [.int (sp_sx g (a3 + 1).toNatClampNeg), .int (sp_sx g (a3 + 2).toNatClampNeg)] [.int (sp_sx g (a3 + 2).toNatClampNeg), .int (sp_sx g (a3 + 1).toNatClampNeg), .ref 103, .int x1.1] [.int x2.1, .int x1.1] dL_law_383 okX11_knows tw_1486 tw_1487 tw_1488 (by decide) (by decide) rfl (Nat.le_of_ble_eq_true rfl) rfl rfl rfl rfl (wsI_103 hs) (fun Q hQ => tX11_knows hG hx2 hQ) ?_
  refine sp_icmp_eq (tgt := 1333) dL_law_386 (by decide) (fun hc3 => ?_) (fun hc3 => ?_)
  · have h := (if_pos hc3).symm.trans h
    cases h
    exact k
  · have h := (if_neg hc3).symm.trans h
    cases h
def gL_5 (F : Nat) (M : sp_Mem) (w1 : Int32) (w2 : Int32) (w3 : Int32) : Option sp_Mem :=
  (fX10_asks F M w1 w2 w3).bind fun x1 => (fX11_asks F x1.2 w1 w2 w3).bind fun x2 => if x1.1 = x2.1 then some x2.2 else none
set_option maxRecDepth 100000 in
set_option maxHeartbeats 4000000 in
theorem hL_5 {g : sp_G} {Ω : sp_Mem → Prop} {Q : sp_Qt} {F mc ms : Nat} {a3 : Int32} {M p : sp_Mem} (hG : sp_Ok Ω) (h1 : vp_in (a3 + 1) (sp_sl g)) (h2 : vp_in (a3 + 2) (sp_sl g)) (h3 : vp_in (a3 + 3) (sp_sl g)) (h4 : vp_in (a3 + 4) (sp_sl g)) (h5 : vp_in (a3 + 5) (sp_sl g)) (h : gL_5 F M (sp_sx g (a3 + 1).toNatClampNeg) (sp_sx g (a3 + 2).toNatClampNeg) (sp_sx g (a3 + 3).toNatClampNeg) = some p) (k : sp_Wp g Ω mL_law mc ms 1333 [some (.ref (1000100 + 101)), some (.ref 0), some (.ref 103), some (.int a3)] [] p Q) : sp_Wp g Ω mL_law mc ms 391 [some (.ref (1000100 + 101)), some (.ref 0), some (.ref 103), some (.int a3)] [] M Q := by
  unfold gL_5 at h
  refine sp_aload_n dL_law_391 rfl rfl ?_
  refine sp_aload_n dL_law_392 rfl rfl ?_
  refine sp_iload_n dL_law_393 rfl rfl ?_
  refine sp_iconst (v := 1) dL_law_394 (by decide) ?_
  refine sp_iadd dL_law_395 ?_
  refine sp_sld dL_law_396 h1 ?_
  refine sp_aload_n dL_law_397 rfl rfl ?_
  refine sp_iload_n dL_law_398 rfl rfl ?_
  refine sp_iconst (v := 2) dL_law_399 (by decide) ?_
  refine sp_iadd dL_law_400 ?_
  refine sp_sld dL_law_401 h2 ?_
  refine sp_aload_n dL_law_402 rfl rfl ?_
  refine sp_iload_n dL_law_403 rfl rfl ?_
  refine sp_iconst (v := 3) dL_law_404 (by decide) ?_
  refine sp_iadd dL_law_405 ?_
  refine sp_sld dL_law_406 h3 ?_
  refine sp_use (fun ho => ?_)
  have hs := hG.1 _ ho
  obtain ⟨x1, hx1, h⟩ := Option.bind_eq_some_iff.mp h
  refine sp_cV (M1 := x1.2) (r := some (.int x1.1)) (o := 0) (st := []) (c := 9) (RX10, TX10, 16) [.int (sp_sx g (a3 + 1).toNatClampNeg), .int (sp_sx g (a3 + 2).toNatClampNeg), .int (sp_sx g (a3 + 3).toNatClampNeg)] [.int (sp_sx g (a3 + 3).toNatClampNeg), .int (sp_sx g (a3 + 2).toNatClampNeg), .int (sp_sx g (a3 + 1).toNatClampNeg), .ref 0] [.int x1.1] dL_law_407 okX10_asks tw_578 tw_579 tw_580 (by decide) (by decide) rfl (Nat.le_of_ble_eq_true rfl) rfl rfl rfl rfl (wsI_0 hs) (fun Q hQ => tX10_asks hG hx1 hQ) ?_
  refine sp_aload_n dL_law_410 rfl rfl ?_
  refine sp_aload_n dL_law_411 rfl rfl ?_
  refine sp_iload_n dL_law_412 rfl rfl ?_
  refine sp_iconst (v := 1) dL_law_413 (by decide) ?_
  refine sp_iadd dL_law_414 ?_
  refine sp_sld dL_law_415 h1 ?_
  refine sp_aload_n dL_law_416 rfl rfl ?_
  refine sp_iload_n dL_law_417 rfl rfl ?_
  refine sp_iconst (v := 2) dL_law_418 (by decide) ?_
  refine sp_iadd dL_law_419 ?_
  refine sp_sld dL_law_420 h2 ?_
  refine sp_aload_n dL_law_421 rfl rfl ?_
  refine sp_iload_n dL_law_422 rfl rfl ?_
  refine sp_iconst (v := 3) dL_law_423 (by decide) ?_
  refine sp_iadd dL_law_424 ?_
  refine sp_sld dL_law_425 h3 ?_
  refine sp_use (fun ho => ?_)
  have hs := hG.1 _ ho
  obtain ⟨x2, hx2, h⟩ := Option.bind_eq_some_iff.mp h
  refine sp_cV (M1 := x2.2) (r := some (.int x2.1)) (o := 103) (st := [.int x1.1]) (c := 10) (RX11, TX11, 56) [.int (sp_sx g (a3 + 1).toNatClampNeg), .int (sp_sx g (a3 + 2).toNatClampNeg), .int (sp_sx g (a3 + 3).toNatClampNeg)] [.int (sp_sx g (a3 + 3).toNatClampNeg), .int (sp_sx g (a3 + 2).toNatClampNeg), .int (sp_sx g (a3 + 1).toNatClampNeg), .ref 103, .int x1.1] [.int x2.1, .int x1.1] dL_law_426 okX11_asks tw_1495 tw_1496 tw_1497 (by decide) (by decide) rfl (Nat.le_of_ble_eq_true rfl) rfl rfl rfl rfl (wsI_103 hs) (fun Q hQ => tX11_asks hG hx2 hQ) ?_
  refine sp_icmp_eq (tgt := 1333) dL_law_429 (by decide) (fun hc3 => ?_) (fun hc3 => ?_)
  · have h := (if_pos hc3).symm.trans h
    cases h
    exact k
  · have h := (if_neg hc3).symm.trans h
    cases h
def gL_6 (F : Nat) (M : sp_Mem) (w1 : Int32) : Option sp_Mem :=
  (fX10_floor M w1).bind fun v1 => (fX11_floor M w1).bind fun x2 => if v1 = x2.1 then some x2.2 else none
set_option maxRecDepth 100000 in
set_option maxHeartbeats 4000000 in
theorem hL_6 {g : sp_G} {Ω : sp_Mem → Prop} {Q : sp_Qt} {F mc ms : Nat} {a3 : Int32} {M p : sp_Mem} (hG : sp_Ok Ω) (h1 : vp_in (a3 + 1) (sp_sl g)) (h2 : vp_in (a3 + 2) (sp_sl g)) (h3 : vp_in (a3 + 3) (sp_sl g)) (h4 : vp_in (a3 + 4) (sp_sl g)) (h5 : vp_in (a3 + 5) (sp_sl g)) (h : gL_6 F M (sp_sx g (a3 + 1).toNatClampNeg) = some p) (k : sp_Wp g Ω mL_law mc ms 1333 [some (.ref (1000100 + 101)), some (.ref 0), some (.ref 103), some (.int a3)] [] p Q) : sp_Wp g Ω mL_law mc ms 434 [some (.ref (1000100 + 101)), some (.ref 0), some (.ref 103), some (.int a3)] [] M Q := by
  unfold gL_6 at h
  refine sp_aload_n dL_law_434 rfl rfl ?_
  refine sp_aload_n dL_law_435 rfl rfl ?_
  refine sp_iload_n dL_law_436 rfl rfl ?_
  refine sp_iconst (v := 1) dL_law_437 (by decide) ?_
  refine sp_iadd dL_law_438 ?_
  refine sp_sld dL_law_439 h1 ?_
  refine sp_use (fun ho => ?_)
  have hs := hG.1 _ ho
  obtain ⟨v1, hv1, h⟩ := Option.bind_eq_some_iff.mp h
  refine sp_cV (M1 := M) (r := some (.int v1)) (o := 0) (st := []) (c := 9) (RX10, TX10, 16) [.int (sp_sx g (a3 + 1).toNatClampNeg)] [.int (sp_sx g (a3 + 1).toNatClampNeg), .ref 0] [.int v1] dL_law_440 okX10_floor tw_596 tw_597 tw_598 (by decide) (by decide) rfl (Nat.le_of_ble_eq_true rfl) rfl rfl rfl rfl (wsI_0 hs) (fun Q hQ => tX10_floor hG hv1 hQ) ?_
  refine sp_aload_n dL_law_443 rfl rfl ?_
  refine sp_aload_n dL_law_444 rfl rfl ?_
  refine sp_iload_n dL_law_445 rfl rfl ?_
  refine sp_iconst (v := 1) dL_law_446 (by decide) ?_
  refine sp_iadd dL_law_447 ?_
  refine sp_sld dL_law_448 h1 ?_
  refine sp_use (fun ho => ?_)
  have hs := hG.1 _ ho
  obtain ⟨x2, hx2, h⟩ := Option.bind_eq_some_iff.mp h
  refine sp_cV (M1 := x2.2) (r := some (.int x2.1)) (o := 103) (st := [.int v1]) (c := 10) (RX11, TX11, 56) [.int (sp_sx g (a3 + 1).toNatClampNeg)] [.int (sp_sx g (a3 + 1).toNatClampNeg), .ref 103, .int v1] [.int x2.1, .int v1] dL_law_449 okX11_floor tw_1507 tw_1508 tw_1509 (by decide) (by decide) rfl (Nat.le_of_ble_eq_true rfl) rfl rfl rfl rfl (wsI_103 hs) (fun Q hQ => tX11_floor hG hx2 hQ) ?_
  refine sp_icmp_eq (tgt := 1333) dL_law_452 (by decide) (fun hc3 => ?_) (fun hc3 => ?_)
  · have h := (if_pos hc3).symm.trans h
    cases h
    exact k
  · have h := (if_neg hc3).symm.trans h
    cases h
def gL_7 (F : Nat) (M : sp_Mem) (w1 : Int32) (w2 : Int32) : Option sp_Mem :=
  (fX10_terms M w1 w2).bind fun x1 => (fX11_terms x1.2 w1 w2).bind fun x2 => if x1.1 = x2.1 then some x2.2 else none
set_option maxRecDepth 100000 in
set_option maxHeartbeats 4000000 in
theorem hL_7 {g : sp_G} {Ω : sp_Mem → Prop} {Q : sp_Qt} {F mc ms : Nat} {a3 : Int32} {M p : sp_Mem} (hG : sp_Ok Ω) (h1 : vp_in (a3 + 1) (sp_sl g)) (h2 : vp_in (a3 + 2) (sp_sl g)) (h3 : vp_in (a3 + 3) (sp_sl g)) (h4 : vp_in (a3 + 4) (sp_sl g)) (h5 : vp_in (a3 + 5) (sp_sl g)) (h : gL_7 F M (sp_sx g (a3 + 1).toNatClampNeg) (sp_sx g (a3 + 2).toNatClampNeg) = some p) (k : sp_Wp g Ω mL_law mc ms 1333 [some (.ref (1000100 + 101)), some (.ref 0), some (.ref 103), some (.int a3)] [] p Q) : sp_Wp g Ω mL_law mc ms 457 [some (.ref (1000100 + 101)), some (.ref 0), some (.ref 103), some (.int a3)] [] M Q := by
  unfold gL_7 at h
  refine sp_aload_n dL_law_457 rfl rfl ?_
  refine sp_aload_n dL_law_458 rfl rfl ?_
  refine sp_iload_n dL_law_459 rfl rfl ?_
  refine sp_iconst (v := 1) dL_law_460 (by decide) ?_
  refine sp_iadd dL_law_461 ?_
  refine sp_sld dL_law_462 h1 ?_
  refine sp_aload_n dL_law_463 rfl rfl ?_
  refine sp_iload_n dL_law_464 rfl rfl ?_
  refine sp_iconst (v := 2) dL_law_465 (by decide) ?_
  refine sp_iadd dL_law_466 ?_
  refine sp_sld dL_law_467 h2 ?_
  refine sp_use (fun ho => ?_)
  have hs := hG.1 _ ho
  obtain ⟨x1, hx1, h⟩ := Option.bind_eq_some_iff.mp h
  refine sp_cV (M1 := x1.2) (r := some (.int x1.1)) (o := 0) (st := []) (c := 9) (RX10, TX10, 16) [.int (sp_sx g (a3 + 1).toNatClampNeg), .int (sp_sx g (a3 + 2).toNatClampNeg)] [.int (sp_sx g (a3 + 2).toNatClampNeg), .int (sp_sx g (a3 + 1).toNatClampNeg), .ref 0] [.int x1.1] dL_law_468 okX10_terms tw_600 tw_601 tw_602 (by decide) (by decide) rfl (Nat.le_of_ble_eq_true rfl) rfl rfl rfl rfl (wsI_0 hs) (fun Q hQ => tX10_terms hG hx1 hQ) ?_
  refine sp_aload_n dL_law_471 rfl rfl ?_
  refine sp_aload_n dL_law_472 rfl rfl ?_
  refine sp_iload_n dL_law_473 rfl rfl ?_
  refine sp_iconst (v := 1) dL_law_474 (by decide) ?_
  refine sp_iadd dL_law_475 ?_
  refine sp_sld dL_law_476 h1 ?_
  refine sp_aload_n dL_law_477 rfl rfl ?_
  refine sp_iload_n dL_law_478 rfl rfl ?_
  refine sp_iconst (v := 2) dL_law_479 (by decide) ?_
  refine sp_iadd dL_law_480 ?_
  refine sp_sld dL_law_481 h2 ?_
  refine sp_use (fun ho => ?_)
  have hs := hG.1 _ ho
  obtain ⟨x2, hx2, h⟩ := Option.bind_eq_some_iff.mp h
  refine sp_cV (M1 := x2.2) (r := some (.int x2.1)) (o := 103) (st := [.int x1.1]) (c := 10) (RX11, TX11, 56) [.int (sp_sx g (a3 + 1).toNatClampNeg), .int (sp_sx g (a3 + 2).toNatClampNeg)] [.int (sp_sx g (a3 + 2).toNatClampNeg), .int (sp_sx g (a3 + 1).toNatClampNeg), .ref 103, .int x1.1] [.int x2.1, .int x1.1] dL_law_482 okX11_terms tw_1511 tw_1512 tw_1513 (by decide) (by decide) rfl (Nat.le_of_ble_eq_true rfl) rfl rfl rfl rfl (wsI_103 hs) (fun Q hQ => tX11_terms hG hx2 hQ) ?_
  refine sp_icmp_eq (tgt := 1333) dL_law_485 (by decide) (fun hc3 => ?_) (fun hc3 => ?_)
  · have h := (if_pos hc3).symm.trans h
    cases h
    exact k
  · have h := (if_neg hc3).symm.trans h
    cases h
def gL_8 (F : Nat) (M : sp_Mem) (w1 : Int32) (w2 : Int32) (w3 : Int32) (w4 : Int32) (w5 : Int32) : Option sp_Mem :=
  (fX10_feed F M w1 w2 w3 w4 w5).bind fun x1 => (fX11_feed F x1.2 w1 w2 w3 w4 w5).bind fun x2 => if x1.1 = x2.1 then some x2.2 else none
set_option maxRecDepth 100000 in
set_option maxHeartbeats 4000000 in
theorem hL_8 {g : sp_G} {Ω : sp_Mem → Prop} {Q : sp_Qt} {F mc ms : Nat} {a3 : Int32} {M p : sp_Mem} (hG : sp_Ok Ω) (h1 : vp_in (a3 + 1) (sp_sl g)) (h2 : vp_in (a3 + 2) (sp_sl g)) (h3 : vp_in (a3 + 3) (sp_sl g)) (h4 : vp_in (a3 + 4) (sp_sl g)) (h5 : vp_in (a3 + 5) (sp_sl g)) (h : gL_8 F M (sp_sx g (a3 + 1).toNatClampNeg) (sp_sx g (a3 + 2).toNatClampNeg) (sp_sx g (a3 + 3).toNatClampNeg) (sp_sx g (a3 + 4).toNatClampNeg) (sp_sx g (a3 + 5).toNatClampNeg) = some p) (k : sp_Wp g Ω mL_law mc ms 1333 [some (.ref (1000100 + 101)), some (.ref 0), some (.ref 103), some (.int a3)] [] p Q) : sp_Wp g Ω mL_law mc ms 490 [some (.ref (1000100 + 101)), some (.ref 0), some (.ref 103), some (.int a3)] [] M Q := by
  unfold gL_8 at h
  refine sp_aload_n dL_law_490 rfl rfl ?_
  refine sp_aload_n dL_law_491 rfl rfl ?_
  refine sp_iload_n dL_law_492 rfl rfl ?_
  refine sp_iconst (v := 1) dL_law_493 (by decide) ?_
  refine sp_iadd dL_law_494 ?_
  refine sp_sld dL_law_495 h1 ?_
  refine sp_aload_n dL_law_496 rfl rfl ?_
  refine sp_iload_n dL_law_497 rfl rfl ?_
  refine sp_iconst (v := 2) dL_law_498 (by decide) ?_
  refine sp_iadd dL_law_499 ?_
  refine sp_sld dL_law_500 h2 ?_
  refine sp_aload_n dL_law_501 rfl rfl ?_
  refine sp_iload_n dL_law_502 rfl rfl ?_
  refine sp_iconst (v := 3) dL_law_503 (by decide) ?_
  refine sp_iadd dL_law_504 ?_
  refine sp_sld dL_law_505 h3 ?_
  refine sp_aload_n dL_law_506 rfl rfl ?_
  refine sp_iload_n dL_law_507 rfl rfl ?_
  refine sp_iconst (v := 4) dL_law_508 (by decide) ?_
  refine sp_iadd dL_law_509 ?_
  refine sp_sld dL_law_510 h4 ?_
  refine sp_aload_n dL_law_511 rfl rfl ?_
  refine sp_iload_n dL_law_512 rfl rfl ?_
  refine sp_iconst (v := 5) dL_law_513 (by decide) ?_
  refine sp_iadd dL_law_514 ?_
  refine sp_sld dL_law_515 h5 ?_
  refine sp_use (fun ho => ?_)
  have hs := hG.1 _ ho
  obtain ⟨x1, hx1, h⟩ := Option.bind_eq_some_iff.mp h
  refine sp_cV (M1 := x1.2) (r := some (.int x1.1)) (o := 0) (st := []) (c := 9) (RX10, TX10, 16) [.int (sp_sx g (a3 + 1).toNatClampNeg), .int (sp_sx g (a3 + 2).toNatClampNeg), .int (sp_sx g (a3 + 3).toNatClampNeg), .int (sp_sx g (a3 + 4).toNatClampNeg), .int (sp_sx g (a3 + 5).toNatClampNeg)] [.int (sp_sx g (a3 + 5).toNatClampNeg), .int (sp_sx g (a3 + 4).toNatClampNeg), .int (sp_sx g (a3 + 3).toNatClampNeg), .int (sp_sx g (a3 + 2).toNatClampNeg), .int (sp_sx g (a3 + 1).toNatClampNeg), .ref 0] [.int x1.1] dL_law_516 okX10_feed tw_607 tw_608 tw_609 (by decide) (by decide) rfl (Nat.le_of_ble_eq_true rfl) rfl rfl rfl rfl (wsI_0 hs) (fun Q hQ => tX10_feed hG hx1 hQ) ?_
  refine sp_aload_n dL_law_519 rfl rfl ?_
  refine sp_aload_n dL_law_520 rfl rfl ?_
  refine sp_iload_n dL_law_521 rfl rfl ?_
  refine sp_iconst (v := 1) dL_law_522 (by decide) ?_
  refine sp_iadd dL_law_523 ?_
  refine sp_sld dL_law_524 h1 ?_
  refine sp_aload_n dL_law_525 rfl rfl ?_
  refine sp_iload_n dL_law_526 rfl rfl ?_
  refine sp_iconst (v := 2) dL_law_527 (by decide) ?_
  refine sp_iadd dL_law_528 ?_
  refine sp_sld dL_law_529 h2 ?_
  refine sp_aload_n dL_law_530 rfl rfl ?_
  refine sp_iload_n dL_law_531 rfl rfl ?_
  refine sp_iconst (v := 3) dL_law_532 (by decide) ?_
  refine sp_iadd dL_law_533 ?_
  refine sp_sld dL_law_534 h3 ?_
  refine sp_aload_n dL_law_535 rfl rfl ?_
  refine sp_iload_n dL_law_536 rfl rfl ?_
  refine sp_iconst (v := 4) dL_law_537 (by decide) ?_
  refine sp_iadd dL_law_538 ?_
  refine sp_sld dL_law_539 h4 ?_
  refine sp_aload_n dL_law_540 rfl rfl ?_
  refine sp_iload_n dL_law_541 rfl rfl ?_
  refine sp_iconst (v := 5) dL_law_542 (by decide) ?_
  refine sp_iadd dL_law_543 ?_
  refine sp_sld dL_law_544 h5 ?_
  refine sp_use (fun ho => ?_)
  have hs := hG.1 _ ho
  obtain ⟨x2, hx2, h⟩ := Option.bind_eq_some_iff.mp h
  refine sp_cV (M1 := x2.2) (r := some (.int x2.1)) (o := 103) (st := [.int x1.1]) (c := 10) (RX11, TX11, 56) [.int (sp_sx g (a3 + 1).toNatClampNeg), .int (sp_sx g (a3 + 2).toNatClampNeg), .int (sp_sx g (a3 + 3).toNatClampNeg), .int (sp_sx g (a3 + 4).toNatClampNeg), .int (sp_sx g (a3 + 5).toNatClampNeg)] [.int (sp_sx g (a3 + 5).toNatClampNeg), .int (sp_sx g (a3 + 4).toNatClampNeg), .int (sp_sx g (a3 + 3).toNatClampNeg), .int (sp_sx g (a3 + 2).toNatClampNeg), .int (sp_sx g (a3 + 1).toNatClampNeg), .ref 103, .int x1.1] [.int x2.1, .int x1.1] dL_law_545 okX11_feed tw_1529 tw_1530 tw_1531 (by decide) (by decide) rfl (Nat.le_of_ble_eq_true rfl) rfl rfl rfl rfl (wsI_103 hs) (fun Q hQ => tX11_feed hG hx2 hQ) ?_
  refine sp_icmp_eq (tgt := 1333) dL_law_548 (by decide) (fun hc3 => ?_) (fun hc3 => ?_)
  · have h := (if_pos hc3).symm.trans h
    cases h
    exact k
  · have h := (if_neg hc3).symm.trans h
    cases h
def gL_9 (F : Nat) (M : sp_Mem) (w1 : Int32) : Option sp_Mem :=
  (fX10_end M w1).bind fun x1 => (fX11_end x1.2 w1).bind fun x2 => if x1.1 = x2.1 then some x2.2 else none
set_option maxRecDepth 100000 in
set_option maxHeartbeats 4000000 in
theorem hL_9 {g : sp_G} {Ω : sp_Mem → Prop} {Q : sp_Qt} {F mc ms : Nat} {a3 : Int32} {M p : sp_Mem} (hG : sp_Ok Ω) (h1 : vp_in (a3 + 1) (sp_sl g)) (h2 : vp_in (a3 + 2) (sp_sl g)) (h3 : vp_in (a3 + 3) (sp_sl g)) (h4 : vp_in (a3 + 4) (sp_sl g)) (h5 : vp_in (a3 + 5) (sp_sl g)) (h : gL_9 F M (sp_sx g (a3 + 1).toNatClampNeg) = some p) (k : sp_Wp g Ω mL_law mc ms 1333 [some (.ref (1000100 + 101)), some (.ref 0), some (.ref 103), some (.int a3)] [] p Q) : sp_Wp g Ω mL_law mc ms 553 [some (.ref (1000100 + 101)), some (.ref 0), some (.ref 103), some (.int a3)] [] M Q := by
  unfold gL_9 at h
  refine sp_aload_n dL_law_553 rfl rfl ?_
  refine sp_aload_n dL_law_554 rfl rfl ?_
  refine sp_iload_n dL_law_555 rfl rfl ?_
  refine sp_iconst (v := 1) dL_law_556 (by decide) ?_
  refine sp_iadd dL_law_557 ?_
  refine sp_sld dL_law_558 h1 ?_
  refine sp_use (fun ho => ?_)
  have hs := hG.1 _ ho
  obtain ⟨x1, hx1, h⟩ := Option.bind_eq_some_iff.mp h
  refine sp_cV (M1 := x1.2) (r := some (.int x1.1)) (o := 0) (st := []) (c := 9) (RX10, TX10, 16) [.int (sp_sx g (a3 + 1).toNatClampNeg)] [.int (sp_sx g (a3 + 1).toNatClampNeg), .ref 0] [.int x1.1] dL_law_559 okX10_end tw_619 tw_620 tw_621 (by decide) (by decide) rfl (Nat.le_of_ble_eq_true rfl) rfl rfl rfl rfl (wsI_0 hs) (fun Q hQ => tX10_end hG hx1 hQ) ?_
  refine sp_aload_n dL_law_562 rfl rfl ?_
  refine sp_aload_n dL_law_563 rfl rfl ?_
  refine sp_iload_n dL_law_564 rfl rfl ?_
  refine sp_iconst (v := 1) dL_law_565 (by decide) ?_
  refine sp_iadd dL_law_566 ?_
  refine sp_sld dL_law_567 h1 ?_
  refine sp_use (fun ho => ?_)
  have hs := hG.1 _ ho
  obtain ⟨x2, hx2, h⟩ := Option.bind_eq_some_iff.mp h
  refine sp_cV (M1 := x2.2) (r := some (.int x2.1)) (o := 103) (st := [.int x1.1]) (c := 10) (RX11, TX11, 56) [.int (sp_sx g (a3 + 1).toNatClampNeg)] [.int (sp_sx g (a3 + 1).toNatClampNeg), .ref 103, .int x1.1] [.int x2.1, .int x1.1] dL_law_568 okX11_end tw_1537 tw_1538 tw_1539 (by decide) (by decide) rfl (Nat.le_of_ble_eq_true rfl) rfl rfl rfl rfl (wsI_103 hs) (fun Q hQ => tX11_end hG hx2 hQ) ?_
  refine sp_icmp_eq (tgt := 1333) dL_law_571 (by decide) (fun hc3 => ?_) (fun hc3 => ?_)
  · have h := (if_pos hc3).symm.trans h
    cases h
    exact k
  · have h := (if_neg hc3).symm.trans h
    cases h
def gL_10 (F : Nat) (M : sp_Mem) : Option sp_Mem :=
  (fX10_row F M).bind fun x1 => (fX11_row F x1.2).bind fun x2 => if x1.1 = x2.1 then some x2.2 else none
set_option maxRecDepth 100000 in
set_option maxHeartbeats 4000000 in
theorem hL_10 {g : sp_G} {Ω : sp_Mem → Prop} {Q : sp_Qt} {F mc ms : Nat} {a3 : Int32} {M p : sp_Mem} (hG : sp_Ok Ω) (h1 : vp_in (a3 + 1) (sp_sl g)) (h2 : vp_in (a3 + 2) (sp_sl g)) (h3 : vp_in (a3 + 3) (sp_sl g)) (h4 : vp_in (a3 + 4) (sp_sl g)) (h5 : vp_in (a3 + 5) (sp_sl g)) (h : gL_10 F M = some p) (k : sp_Wp g Ω mL_law mc ms 1333 [some (.ref (1000100 + 101)), some (.ref 0), some (.ref 103), some (.int a3)] [] p Q) : sp_Wp g Ω mL_law mc ms 576 [some (.ref (1000100 + 101)), some (.ref 0), some (.ref 103), some (.int a3)] [] M Q := by
  unfold gL_10 at h
  refine sp_aload_n dL_law_576 rfl rfl ?_
  refine sp_use (fun ho => ?_)
  have hs := hG.1 _ ho
  obtain ⟨x1, hx1, h⟩ := Option.bind_eq_some_iff.mp h
  refine sp_cV (M1 := x1.2) (r := some (.int x1.1)) (o := 0) (st := []) (c := 9) (RX10, TX10, 16) [] [.ref 0] [.int x1.1] dL_law_577 okX10_row tw_623 tw_624 tw_625 (by decide) (by decide) rfl (Nat.le_of_ble_eq_true rfl) rfl rfl rfl rfl (wsI_0 hs) (fun Q hQ => tX10_row hG hx1 hQ) ?_
  refine sp_aload_n dL_law_580 rfl rfl ?_
  refine sp_use (fun ho => ?_)
  have hs := hG.1 _ ho
  obtain ⟨x2, hx2, h⟩ := Option.bind_eq_some_iff.mp h
  refine sp_cV (M1 := x2.2) (r := some (.int x2.1)) (o := 103) (st := [.int x1.1]) (c := 10) (RX11, TX11, 56) [] [.ref 103, .int x1.1] [.int x2.1, .int x1.1] dL_law_581 okX11_row tw_1520 tw_1521 tw_1522 (by decide) (by decide) rfl (Nat.le_of_ble_eq_true rfl) rfl rfl rfl rfl (wsI_103 hs) (fun Q hQ => tX11_row hG hx2 hQ) ?_
  refine sp_icmp_eq (tgt := 1333) dL_law_584 (by decide) (fun hc3 => ?_) (fun hc3 => ?_)
  · have h := (if_pos hc3).symm.trans h
    cases h
    exact k
  · have h := (if_neg hc3).symm.trans h
    cases h
def gL_11 (F : Nat) (M : sp_Mem) : Option sp_Mem :=
  (fX11_ash M).bind fun x1 => if (fX10_ash M) = x1.1 then some x1.2 else none
set_option maxRecDepth 100000 in
set_option maxHeartbeats 4000000 in
theorem hL_11 {g : sp_G} {Ω : sp_Mem → Prop} {Q : sp_Qt} {F mc ms : Nat} {a3 : Int32} {M p : sp_Mem} (hG : sp_Ok Ω) (h1 : vp_in (a3 + 1) (sp_sl g)) (h2 : vp_in (a3 + 2) (sp_sl g)) (h3 : vp_in (a3 + 3) (sp_sl g)) (h4 : vp_in (a3 + 4) (sp_sl g)) (h5 : vp_in (a3 + 5) (sp_sl g)) (h : gL_11 F M = some p) (k : sp_Wp g Ω mL_law mc ms 1333 [some (.ref (1000100 + 101)), some (.ref 0), some (.ref 103), some (.int a3)] [] p Q) : sp_Wp g Ω mL_law mc ms 589 [some (.ref (1000100 + 101)), some (.ref 0), some (.ref 103), some (.int a3)] [] M Q := by
  unfold gL_11 at h
  refine sp_aload_n dL_law_589 rfl rfl ?_
  refine sp_use (fun ho => ?_)
  have hs := hG.1 _ ho
  refine sp_cV (M1 := M) (r := some (.int (fX10_ash M))) (o := 0) (st := []) (c := 9) (RX10, TX10, 16) [] [.ref 0] [.int (fX10_ash M)] dL_law_590 okX10_ash tw_631 tw_632 tw_633 (by decide) (by decide) rfl (Nat.le_of_ble_eq_true rfl) rfl rfl rfl rfl (wsI_0 hs) (fun Q hQ => tX10_ash hG rfl hQ) ?_
  refine sp_aload_n dL_law_593 rfl rfl ?_
  refine sp_use (fun ho => ?_)
  have hs := hG.1 _ ho
  obtain ⟨x1, hx1, h⟩ := Option.bind_eq_some_iff.mp h
  refine sp_cV (M1 := x1.2) (r := some (.int x1.1)) (o := 103) (st := [.int (fX10_ash M)]) (c := 10) (RX11, TX11, 56) [] [.ref 103, .int (fX10_ash M)] [.int x1.1, .int (fX10_ash M)] dL_law_594 okX11_ash tw_1525 tw_1526 tw_1527 (by decide) (by decide) rfl (Nat.le_of_ble_eq_true rfl) rfl rfl rfl rfl (wsI_103 hs) (fun Q hQ => tX11_ash hG hx1 hQ) ?_
  refine sp_icmp_eq (tgt := 1333) dL_law_597 (by decide) (fun hc2 => ?_) (fun hc2 => ?_)
  · have h := (if_pos hc2).symm.trans h
    cases h
    exact k
  · have h := (if_neg hc2).symm.trans h
    cases h
def gL_13 (F : Nat) (M : sp_Mem) : Option sp_Mem :=
  (fX10_orders F M).bind fun x1 => (fX11_orders F x1.2).bind fun x2 => if x1.1 = x2.1 then some x2.2 else none
set_option maxRecDepth 100000 in
set_option maxHeartbeats 4000000 in
theorem hL_13 {g : sp_G} {Ω : sp_Mem → Prop} {Q : sp_Qt} {F mc ms : Nat} {a3 : Int32} {M p : sp_Mem} (hG : sp_Ok Ω) (h1 : vp_in (a3 + 1) (sp_sl g)) (h2 : vp_in (a3 + 2) (sp_sl g)) (h3 : vp_in (a3 + 3) (sp_sl g)) (h4 : vp_in (a3 + 4) (sp_sl g)) (h5 : vp_in (a3 + 5) (sp_sl g)) (h : gL_13 F M = some p) (k : sp_Wp g Ω mL_law mc ms 1333 [some (.ref (1000100 + 101)), some (.ref 0), some (.ref 103), some (.int a3)] [] p Q) : sp_Wp g Ω mL_law mc ms 615 [some (.ref (1000100 + 101)), some (.ref 0), some (.ref 103), some (.int a3)] [] M Q := by
  unfold gL_13 at h
  refine sp_aload_n dL_law_615 rfl rfl ?_
  refine sp_use (fun ho => ?_)
  have hs := hG.1 _ ho
  obtain ⟨x1, hx1, h⟩ := Option.bind_eq_some_iff.mp h
  refine sp_cV (M1 := x1.2) (r := some (.int x1.1)) (o := 0) (st := []) (c := 9) (RX10, TX10, 16) [] [.ref 0] [.int x1.1] dL_law_616 okX10_orders tw_843 tw_844 tw_845 (by decide) (by decide) rfl (Nat.le_of_ble_eq_true rfl) rfl rfl rfl rfl (wsI_0 hs) (fun Q hQ => tX10_orders hG hx1 hQ) ?_
  refine sp_aload_n dL_law_619 rfl rfl ?_
  refine sp_use (fun ho => ?_)
  have hs := hG.1 _ ho
  obtain ⟨x2, hx2, h⟩ := Option.bind_eq_some_iff.mp h
  refine sp_cV (M1 := x2.2) (r := some (.int x2.1)) (o := 103) (st := [.int x1.1]) (c := 10) (RX11, TX11, 56) [] [.ref 103, .int x1.1] [.int x2.1, .int x1.1] dL_law_620 okX11_orders tw_1841 tw_1842 tw_1843 (by decide) (by decide) rfl (Nat.le_of_ble_eq_true rfl) rfl rfl rfl rfl (wsI_103 hs) (fun Q hQ => tX11_orders hG hx2 hQ) ?_
  refine sp_icmp_eq (tgt := 1333) dL_law_623 (by decide) (fun hc3 => ?_) (fun hc3 => ?_)
  · have h := (if_pos hc3).symm.trans h
    cases h
    exact k
  · have h := (if_neg hc3).symm.trans h
    cases h
def gL_14 (F : Nat) (M : sp_Mem) : Option sp_Mem :=
  (fX11_fault M).bind fun x1 => if (fX10_fault M) = x1.1 then some x1.2 else none
set_option maxRecDepth 100000 in
set_option maxHeartbeats 4000000 in
theorem hL_14 {g : sp_G} {Ω : sp_Mem → Prop} {Q : sp_Qt} {F mc ms : Nat} {a3 : Int32} {M p : sp_Mem} (hG : sp_Ok Ω) (h1 : vp_in (a3 + 1) (sp_sl g)) (h2 : vp_in (a3 + 2) (sp_sl g)) (h3 : vp_in (a3 + 3) (sp_sl g)) (h4 : vp_in (a3 + 4) (sp_sl g)) (h5 : vp_in (a3 + 5) (sp_sl g)) (h : gL_14 F M = some p) (k : sp_Wp g Ω mL_law mc ms 1333 [some (.ref (1000100 + 101)), some (.ref 0), some (.ref 103), some (.int a3)] [] p Q) : sp_Wp g Ω mL_law mc ms 628 [some (.ref (1000100 + 101)), some (.ref 0), some (.ref 103), some (.int a3)] [] M Q := by
  unfold gL_14 at h
  refine sp_aload_n dL_law_628 rfl rfl ?_
  refine sp_use (fun ho => ?_)
  have hs := hG.1 _ ho
  refine sp_cV (M1 := M) (r := some (.int (fX10_fault M))) (o := 0) (st := []) (c := 9) (RX10, TX10, 16) [] [.ref 0] [.int (fX10_fault M)] dL_law_629 okX10_fault tw_940 tw_941 tw_942 (by decide) (by decide) rfl (Nat.le_of_ble_eq_true rfl) rfl rfl rfl rfl (wsI_0 hs) (fun Q hQ => tX10_fault hG rfl hQ) ?_
  refine sp_aload_n dL_law_632 rfl rfl ?_
  refine sp_use (fun ho => ?_)
  have hs := hG.1 _ ho
  obtain ⟨x1, hx1, h⟩ := Option.bind_eq_some_iff.mp h
  refine sp_cV (M1 := x1.2) (r := some (.int x1.1)) (o := 103) (st := [.int (fX10_fault M)]) (c := 10) (RX11, TX11, 56) [] [.ref 103, .int (fX10_fault M)] [.int x1.1, .int (fX10_fault M)] dL_law_633 okX11_fault tw_1541 tw_1542 tw_1543 (by decide) (by decide) rfl (Nat.le_of_ble_eq_true rfl) rfl rfl rfl rfl (wsI_103 hs) (fun Q hQ => tX11_fault hG hx1 hQ) ?_
  refine sp_icmp_eq (tgt := 1333) dL_law_636 (by decide) (fun hc2 => ?_) (fun hc2 => ?_)
  · have h := (if_pos hc2).symm.trans h
    cases h
    exact k
  · have h := (if_neg hc2).symm.trans h
    cases h
def gL_15 (F : Nat) (M : sp_Mem) : Option sp_Mem :=
  (fX11_stopped M).bind fun x1 => if (fX10_stopped M) = x1.1 then some x1.2 else none
set_option maxRecDepth 100000 in
set_option maxHeartbeats 4000000 in
theorem hL_15 {g : sp_G} {Ω : sp_Mem → Prop} {Q : sp_Qt} {F mc ms : Nat} {a3 : Int32} {M p : sp_Mem} (hG : sp_Ok Ω) (h1 : vp_in (a3 + 1) (sp_sl g)) (h2 : vp_in (a3 + 2) (sp_sl g)) (h3 : vp_in (a3 + 3) (sp_sl g)) (h4 : vp_in (a3 + 4) (sp_sl g)) (h5 : vp_in (a3 + 5) (sp_sl g)) (h : gL_15 F M = some p) (k : sp_Wp g Ω mL_law mc ms 1333 [some (.ref (1000100 + 101)), some (.ref 0), some (.ref 103), some (.int a3)] [] p Q) : sp_Wp g Ω mL_law mc ms 641 [some (.ref (1000100 + 101)), some (.ref 0), some (.ref 103), some (.int a3)] [] M Q := by
  unfold gL_15 at h
  refine sp_aload_n dL_law_641 rfl rfl ?_
  refine sp_use (fun ho => ?_)
  have hs := hG.1 _ ho
  refine sp_cV (M1 := M) (r := some (.int (fX10_stopped M))) (o := 0) (st := []) (c := 9) (RX10, TX10, 16) [] [.ref 0] [.int (fX10_stopped M)] dL_law_642 okX10_stopped tw_944 tw_945 tw_946 (by decide) (by decide) rfl (Nat.le_of_ble_eq_true rfl) rfl rfl rfl rfl (wsI_0 hs) (fun Q hQ => tX10_stopped hG rfl hQ) ?_
  refine sp_aload_n dL_law_645 rfl rfl ?_
  refine sp_use (fun ho => ?_)
  have hs := hG.1 _ ho
  obtain ⟨x1, hx1, h⟩ := Option.bind_eq_some_iff.mp h
  refine sp_cV (M1 := x1.2) (r := some (.int x1.1)) (o := 103) (st := [.int (fX10_stopped M)]) (c := 10) (RX11, TX11, 56) [] [.ref 103, .int (fX10_stopped M)] [.int x1.1, .int (fX10_stopped M)] dL_law_646 okX11_stopped tw_1876 tw_1877 tw_1878 (by decide) (by decide) rfl (Nat.le_of_ble_eq_true rfl) rfl rfl rfl rfl (wsI_103 hs) (fun Q hQ => tX11_stopped hG hx1 hQ) ?_
  refine sp_icmp_eq (tgt := 1333) dL_law_649 (by decide) (fun hc2 => ?_) (fun hc2 => ?_)
  · have h := (if_pos hc2).symm.trans h
    cases h
    exact k
  · have h := (if_neg hc2).symm.trans h
    cases h
def gL_16 (F : Nat) (M : sp_Mem) (w1 : Int32) : Option sp_Mem :=
  (fX10_force M w1).bind fun x1 => (fX11_force x1.2 w1).bind fun x2 => if x1.1 = x2.1 then some x2.2 else none
set_option maxRecDepth 100000 in
set_option maxHeartbeats 4000000 in
theorem hL_16 {g : sp_G} {Ω : sp_Mem → Prop} {Q : sp_Qt} {F mc ms : Nat} {a3 : Int32} {M p : sp_Mem} (hG : sp_Ok Ω) (h1 : vp_in (a3 + 1) (sp_sl g)) (h2 : vp_in (a3 + 2) (sp_sl g)) (h3 : vp_in (a3 + 3) (sp_sl g)) (h4 : vp_in (a3 + 4) (sp_sl g)) (h5 : vp_in (a3 + 5) (sp_sl g)) (h : gL_16 F M (sp_sx g (a3 + 1).toNatClampNeg) = some p) (k : sp_Wp g Ω mL_law mc ms 1333 [some (.ref (1000100 + 101)), some (.ref 0), some (.ref 103), some (.int a3)] [] p Q) : sp_Wp g Ω mL_law mc ms 654 [some (.ref (1000100 + 101)), some (.ref 0), some (.ref 103), some (.int a3)] [] M Q := by
  unfold gL_16 at h
  refine sp_aload_n dL_law_654 rfl rfl ?_
  refine sp_aload_n dL_law_655 rfl rfl ?_
  refine sp_iload_n dL_law_656 rfl rfl ?_
  refine sp_iconst (v := 1) dL_law_657 (by decide) ?_
  refine sp_iadd dL_law_658 ?_
  refine sp_sld dL_law_659 h1 ?_
  refine sp_use (fun ho => ?_)
  have hs := hG.1 _ ho
  obtain ⟨x1, hx1, h⟩ := Option.bind_eq_some_iff.mp h
  refine sp_cV (M1 := x1.2) (r := some (.int x1.1)) (o := 0) (st := []) (c := 9) (RX10, TX10, 16) [.int (sp_sx g (a3 + 1).toNatClampNeg)] [.int (sp_sx g (a3 + 1).toNatClampNeg), .ref 0] [.int x1.1] dL_law_660 okX10_force tw_948 tw_949 tw_950 (by decide) (by decide) rfl (Nat.le_of_ble_eq_true rfl) rfl rfl rfl rfl (wsI_0 hs) (fun Q hQ => tX10_force hG hx1 hQ) ?_
  refine sp_aload_n dL_law_663 rfl rfl ?_
  refine sp_aload_n dL_law_664 rfl rfl ?_
  refine sp_iload_n dL_law_665 rfl rfl ?_
  refine sp_iconst (v := 1) dL_law_666 (by decide) ?_
  refine sp_iadd dL_law_667 ?_
  refine sp_sld dL_law_668 h1 ?_
  refine sp_use (fun ho => ?_)
  have hs := hG.1 _ ho
  obtain ⟨x2, hx2, h⟩ := Option.bind_eq_some_iff.mp h
  refine sp_cV (M1 := x2.2) (r := some (.int x2.1)) (o := 103) (st := [.int x1.1]) (c := 10) (RX11, TX11, 56) [.int (sp_sx g (a3 + 1).toNatClampNeg)] [.int (sp_sx g (a3 + 1).toNatClampNeg), .ref 103, .int x1.1] [.int x2.1, .int x1.1] dL_law_669 okX11_force tw_1663 tw_1664 tw_1665 (by decide) (by decide) rfl (Nat.le_of_ble_eq_true rfl) rfl rfl rfl rfl (wsI_103 hs) (fun Q hQ => tX11_force hG hx2 hQ) ?_
  refine sp_icmp_eq (tgt := 1333) dL_law_672 (by decide) (fun hc3 => ?_) (fun hc3 => ?_)
  · have h := (if_pos hc3).symm.trans h
    cases h
    exact k
  · have h := (if_neg hc3).symm.trans h
    cases h
def gL_17 (F : Nat) (M : sp_Mem) (w1 : Int32) (w2 : Int32) : Option sp_Mem :=
  (fX10_call F M w1 w2).bind fun x1 => (fX11_call F x1.2 w1 w2).bind fun x2 => if x1.1 = x2.1 then some x2.2 else none
set_option maxRecDepth 100000 in
set_option maxHeartbeats 4000000 in
theorem hL_17 {g : sp_G} {Ω : sp_Mem → Prop} {Q : sp_Qt} {F mc ms : Nat} {a3 : Int32} {M p : sp_Mem} (hG : sp_Ok Ω) (h1 : vp_in (a3 + 1) (sp_sl g)) (h2 : vp_in (a3 + 2) (sp_sl g)) (h3 : vp_in (a3 + 3) (sp_sl g)) (h4 : vp_in (a3 + 4) (sp_sl g)) (h5 : vp_in (a3 + 5) (sp_sl g)) (h : gL_17 F M (sp_sx g (a3 + 1).toNatClampNeg) (sp_sx g (a3 + 2).toNatClampNeg) = some p) (k : sp_Wp g Ω mL_law mc ms 1333 [some (.ref (1000100 + 101)), some (.ref 0), some (.ref 103), some (.int a3)] [] p Q) : sp_Wp g Ω mL_law mc ms 677 [some (.ref (1000100 + 101)), some (.ref 0), some (.ref 103), some (.int a3)] [] M Q := by
  unfold gL_17 at h
  refine sp_aload_n dL_law_677 rfl rfl ?_
  refine sp_aload_n dL_law_678 rfl rfl ?_
  refine sp_iload_n dL_law_679 rfl rfl ?_
  refine sp_iconst (v := 1) dL_law_680 (by decide) ?_
  refine sp_iadd dL_law_681 ?_
  refine sp_sld dL_law_682 h1 ?_
  refine sp_aload_n dL_law_683 rfl rfl ?_
  refine sp_iload_n dL_law_684 rfl rfl ?_
  refine sp_iconst (v := 2) dL_law_685 (by decide) ?_
  refine sp_iadd dL_law_686 ?_
  refine sp_sld dL_law_687 h2 ?_
  refine sp_use (fun ho => ?_)
  have hs := hG.1 _ ho
  obtain ⟨x1, hx1, h⟩ := Option.bind_eq_some_iff.mp h
  refine sp_cV (M1 := x1.2) (r := some (.int x1.1)) (o := 0) (st := []) (c := 9) (RX10, TX10, 16) [.int (sp_sx g (a3 + 1).toNatClampNeg), .int (sp_sx g (a3 + 2).toNatClampNeg)] [.int (sp_sx g (a3 + 2).toNatClampNeg), .int (sp_sx g (a3 + 1).toNatClampNeg), .ref 0] [.int x1.1] dL_law_688 okX10_call tw_953 tw_954 tw_955 (by decide) (by decide) rfl (Nat.le_of_ble_eq_true rfl) rfl rfl rfl rfl (wsI_0 hs) (fun Q hQ => tX10_call hG hx1 hQ) ?_
  refine sp_aload_n dL_law_691 rfl rfl ?_
  refine sp_aload_n dL_law_692 rfl rfl ?_
  refine sp_iload_n dL_law_693 rfl rfl ?_
  refine sp_iconst (v := 1) dL_law_694 (by decide) ?_
  refine sp_iadd dL_law_695 ?_
  refine sp_sld dL_law_696 h1 ?_
  refine sp_aload_n dL_law_697 rfl rfl ?_
  refine sp_iload_n dL_law_698 rfl rfl ?_
  refine sp_iconst (v := 2) dL_law_699 (by decide) ?_
  refine sp_iadd dL_law_700 ?_
  refine sp_sld dL_law_701 h2 ?_
  refine sp_use (fun ho => ?_)
  have hs := hG.1 _ ho
  obtain ⟨x2, hx2, h⟩ := Option.bind_eq_some_iff.mp h
  refine sp_cV (M1 := x2.2) (r := some (.int x2.1)) (o := 103) (st := [.int x1.1]) (c := 10) (RX11, TX11, 56) [.int (sp_sx g (a3 + 1).toNatClampNeg), .int (sp_sx g (a3 + 2).toNatClampNeg)] [.int (sp_sx g (a3 + 2).toNatClampNeg), .int (sp_sx g (a3 + 1).toNatClampNeg), .ref 103, .int x1.1] [.int x2.1, .int x1.1] dL_law_702 okX11_call tw_1671 tw_1672 tw_1673 (by decide) (by decide) rfl (Nat.le_of_ble_eq_true rfl) rfl rfl rfl rfl (wsI_103 hs) (fun Q hQ => tX11_call hG hx2 hQ) ?_
  refine sp_icmp_eq (tgt := 1333) dL_law_705 (by decide) (fun hc3 => ?_) (fun hc3 => ?_)
  · have h := (if_pos hc3).symm.trans h
    cases h
    exact k
  · have h := (if_neg hc3).symm.trans h
    cases h
def gL_18 (F : Nat) (M : sp_Mem) (w1 : Int32) : Option sp_Mem :=
  (fX10_wet F M w1).bind fun x1 => (fX11_wet F x1.2 w1).bind fun x2 => if x1.1 = x2.1 then some x2.2 else none
set_option maxRecDepth 100000 in
set_option maxHeartbeats 4000000 in
theorem hL_18 {g : sp_G} {Ω : sp_Mem → Prop} {Q : sp_Qt} {F mc ms : Nat} {a3 : Int32} {M p : sp_Mem} (hG : sp_Ok Ω) (h1 : vp_in (a3 + 1) (sp_sl g)) (h2 : vp_in (a3 + 2) (sp_sl g)) (h3 : vp_in (a3 + 3) (sp_sl g)) (h4 : vp_in (a3 + 4) (sp_sl g)) (h5 : vp_in (a3 + 5) (sp_sl g)) (h : gL_18 F M (sp_sx g (a3 + 1).toNatClampNeg) = some p) (k : sp_Wp g Ω mL_law mc ms 1333 [some (.ref (1000100 + 101)), some (.ref 0), some (.ref 103), some (.int a3)] [] p Q) : sp_Wp g Ω mL_law mc ms 710 [some (.ref (1000100 + 101)), some (.ref 0), some (.ref 103), some (.int a3)] [] M Q := by
  unfold gL_18 at h
  refine sp_aload_n dL_law_710 rfl rfl ?_
  refine sp_aload_n dL_law_711 rfl rfl ?_
  refine sp_iload_n dL_law_712 rfl rfl ?_
  refine sp_iconst (v := 1) dL_law_713 (by decide) ?_
  refine sp_iadd dL_law_714 ?_
  refine sp_sld dL_law_715 h1 ?_
  refine sp_use (fun ho => ?_)
  have hs := hG.1 _ ho
  obtain ⟨x1, hx1, h⟩ := Option.bind_eq_some_iff.mp h
  refine sp_cV (M1 := x1.2) (r := some (.int x1.1)) (o := 0) (st := []) (c := 9) (RX10, TX10, 16) [.int (sp_sx g (a3 + 1).toNatClampNeg)] [.int (sp_sx g (a3 + 1).toNatClampNeg), .ref 0] [.int x1.1] dL_law_716 okX10_wet tw_962 tw_963 tw_964 (by decide) (by decide) rfl (Nat.le_of_ble_eq_true rfl) rfl rfl rfl rfl (wsI_0 hs) (fun Q hQ => tX10_wet hG hx1 hQ) ?_
  refine sp_aload_n dL_law_719 rfl rfl ?_
  refine sp_aload_n dL_law_720 rfl rfl ?_
  refine sp_iload_n dL_law_721 rfl rfl ?_
  refine sp_iconst (v := 1) dL_law_722 (by decide) ?_
  refine sp_iadd dL_law_723 ?_
  refine sp_sld dL_law_724 h1 ?_
  refine sp_use (fun ho => ?_)
  have hs := hG.1 _ ho
  obtain ⟨x2, hx2, h⟩ := Option.bind_eq_some_iff.mp h
  refine sp_cV (M1 := x2.2) (r := some (.int x2.1)) (o := 103) (st := [.int x1.1]) (c := 10) (RX11, TX11, 56) [.int (sp_sx g (a3 + 1).toNatClampNeg)] [.int (sp_sx g (a3 + 1).toNatClampNeg), .ref 103, .int x1.1] [.int x2.1, .int x1.1] dL_law_725 okX11_wet tw_1699 tw_1700 tw_1701 (by decide) (by decide) rfl (Nat.le_of_ble_eq_true rfl) rfl rfl rfl rfl (wsI_103 hs) (fun Q hQ => tX11_wet hG hx2 hQ) ?_
  refine sp_icmp_eq (tgt := 1333) dL_law_728 (by decide) (fun hc3 => ?_) (fun hc3 => ?_)
  · have h := (if_pos hc3).symm.trans h
    cases h
    exact k
  · have h := (if_neg hc3).symm.trans h
    cases h
def gL_19 (F : Nat) (M : sp_Mem) (w1 : Int32) (w2 : Int32) : Option sp_Mem :=
  (fX10_walk F M w1 w2).bind fun x1 => (fX11_walk F x1.2 w1 w2).bind fun x2 => if x1.1 = x2.1 then some x2.2 else none
set_option maxRecDepth 100000 in
set_option maxHeartbeats 4000000 in
theorem hL_19 {g : sp_G} {Ω : sp_Mem → Prop} {Q : sp_Qt} {F mc ms : Nat} {a3 : Int32} {M p : sp_Mem} (hG : sp_Ok Ω) (h1 : vp_in (a3 + 1) (sp_sl g)) (h2 : vp_in (a3 + 2) (sp_sl g)) (h3 : vp_in (a3 + 3) (sp_sl g)) (h4 : vp_in (a3 + 4) (sp_sl g)) (h5 : vp_in (a3 + 5) (sp_sl g)) (h : gL_19 F M (sp_sx g (a3 + 1).toNatClampNeg) (sp_sx g (a3 + 2).toNatClampNeg) = some p) (k : sp_Wp g Ω mL_law mc ms 1333 [some (.ref (1000100 + 101)), some (.ref 0), some (.ref 103), some (.int a3)] [] p Q) : sp_Wp g Ω mL_law mc ms 733 [some (.ref (1000100 + 101)), some (.ref 0), some (.ref 103), some (.int a3)] [] M Q := by
  unfold gL_19 at h
  refine sp_aload_n dL_law_733 rfl rfl ?_
  refine sp_aload_n dL_law_734 rfl rfl ?_
  refine sp_iload_n dL_law_735 rfl rfl ?_
  refine sp_iconst (v := 1) dL_law_736 (by decide) ?_
  refine sp_iadd dL_law_737 ?_
  refine sp_sld dL_law_738 h1 ?_
  refine sp_aload_n dL_law_739 rfl rfl ?_
  refine sp_iload_n dL_law_740 rfl rfl ?_
  refine sp_iconst (v := 2) dL_law_741 (by decide) ?_
  refine sp_iadd dL_law_742 ?_
  refine sp_sld dL_law_743 h2 ?_
  refine sp_use (fun ho => ?_)
  have hs := hG.1 _ ho
  obtain ⟨x1, hx1, h⟩ := Option.bind_eq_some_iff.mp h
  refine sp_cV (M1 := x1.2) (r := some (.int x1.1)) (o := 0) (st := []) (c := 9) (RX10, TX10, 16) [.int (sp_sx g (a3 + 1).toNatClampNeg), .int (sp_sx g (a3 + 2).toNatClampNeg)] [.int (sp_sx g (a3 + 2).toNatClampNeg), .int (sp_sx g (a3 + 1).toNatClampNeg), .ref 0] [.int x1.1] dL_law_744 okX10_walk tw_966 tw_967 tw_968 (by decide) (by decide) rfl (Nat.le_of_ble_eq_true rfl) rfl rfl rfl rfl (wsI_0 hs) (fun Q hQ => tX10_walk hG hx1 hQ) ?_
  refine sp_aload_n dL_law_747 rfl rfl ?_
  refine sp_aload_n dL_law_748 rfl rfl ?_
  refine sp_iload_n dL_law_749 rfl rfl ?_
  refine sp_iconst (v := 1) dL_law_750 (by decide) ?_
  refine sp_iadd dL_law_751 ?_
  refine sp_sld dL_law_752 h1 ?_
  refine sp_aload_n dL_law_753 rfl rfl ?_
  refine sp_iload_n dL_law_754 rfl rfl ?_
  refine sp_iconst (v := 2) dL_law_755 (by decide) ?_
  refine sp_iadd dL_law_756 ?_
  refine sp_sld dL_law_757 h2 ?_
  refine sp_use (fun ho => ?_)
  have hs := hG.1 _ ho
  obtain ⟨x2, hx2, h⟩ := Option.bind_eq_some_iff.mp h
  refine sp_cV (M1 := x2.2) (r := some (.int x2.1)) (o := 103) (st := [.int x1.1]) (c := 10) (RX11, TX11, 56) [.int (sp_sx g (a3 + 1).toNatClampNeg), .int (sp_sx g (a3 + 2).toNatClampNeg)] [.int (sp_sx g (a3 + 2).toNatClampNeg), .int (sp_sx g (a3 + 1).toNatClampNeg), .ref 103, .int x1.1] [.int x2.1, .int x1.1] dL_law_758 okX11_walk tw_1707 tw_1708 tw_1709 (by decide) (by decide) rfl (Nat.le_of_ble_eq_true rfl) rfl rfl rfl rfl (wsI_103 hs) (fun Q hQ => tX11_walk hG hx2 hQ) ?_
  refine sp_icmp_eq (tgt := 1333) dL_law_761 (by decide) (fun hc3 => ?_) (fun hc3 => ?_)
  · have h := (if_pos hc3).symm.trans h
    cases h
    exact k
  · have h := (if_neg hc3).symm.trans h
    cases h
def gL_20 (F : Nat) (M : sp_Mem) : Option sp_Mem :=
  (fX10_pass F M).bind fun x1 => (fX11_pass F x1.2).bind fun x2 => if x1.1 = x2.1 then some x2.2 else none
set_option maxRecDepth 100000 in
set_option maxHeartbeats 4000000 in
theorem hL_20 {g : sp_G} {Ω : sp_Mem → Prop} {Q : sp_Qt} {F mc ms : Nat} {a3 : Int32} {M p : sp_Mem} (hG : sp_Ok Ω) (h1 : vp_in (a3 + 1) (sp_sl g)) (h2 : vp_in (a3 + 2) (sp_sl g)) (h3 : vp_in (a3 + 3) (sp_sl g)) (h4 : vp_in (a3 + 4) (sp_sl g)) (h5 : vp_in (a3 + 5) (sp_sl g)) (h : gL_20 F M = some p) (k : sp_Wp g Ω mL_law mc ms 1333 [some (.ref (1000100 + 101)), some (.ref 0), some (.ref 103), some (.int a3)] [] p Q) : sp_Wp g Ω mL_law mc ms 766 [some (.ref (1000100 + 101)), some (.ref 0), some (.ref 103), some (.int a3)] [] M Q := by
  unfold gL_20 at h
  refine sp_aload_n dL_law_766 rfl rfl ?_
  refine sp_use (fun ho => ?_)
  have hs := hG.1 _ ho
  obtain ⟨x1, hx1, h⟩ := Option.bind_eq_some_iff.mp h
  refine sp_cV (M1 := x1.2) (r := some (.int x1.1)) (o := 0) (st := []) (c := 9) (RX10, TX10, 16) [] [.ref 0] [.int x1.1] dL_law_767 okX10_pass tw_970 tw_971 tw_972 (by decide) (by decide) rfl (Nat.le_of_ble_eq_true rfl) rfl rfl rfl rfl (wsI_0 hs) (fun Q hQ => tX10_pass hG hx1 hQ) ?_
  refine sp_aload_n dL_law_770 rfl rfl ?_
  refine sp_use (fun ho => ?_)
  have hs := hG.1 _ ho
  obtain ⟨x2, hx2, h⟩ := Option.bind_eq_some_iff.mp h
  refine sp_cV (M1 := x2.2) (r := some (.int x2.1)) (o := 103) (st := [.int x1.1]) (c := 10) (RX11, TX11, 56) [] [.ref 103, .int x1.1] [.int x2.1, .int x1.1] dL_law_771 okX11_pass tw_1723 tw_1724 tw_1725 (by decide) (by decide) rfl (Nat.le_of_ble_eq_true rfl) rfl rfl rfl rfl (wsI_103 hs) (fun Q hQ => tX11_pass hG hx2 hQ) ?_
  refine sp_icmp_eq (tgt := 1333) dL_law_774 (by decide) (fun hc3 => ?_) (fun hc3 => ?_)
  · have h := (if_pos hc3).symm.trans h
    cases h
    exact k
  · have h := (if_neg hc3).symm.trans h
    cases h
def gL_21 (F : Nat) (M : sp_Mem) : Option sp_Mem :=
  (fX10_undo M).bind fun x1 => (fX11_undo F x1.2).bind fun x2 => if x1.1 = x2.1 then some x2.2 else none
set_option maxRecDepth 100000 in
set_option maxHeartbeats 4000000 in
theorem hL_21 {g : sp_G} {Ω : sp_Mem → Prop} {Q : sp_Qt} {F mc ms : Nat} {a3 : Int32} {M p : sp_Mem} (hG : sp_Ok Ω) (h1 : vp_in (a3 + 1) (sp_sl g)) (h2 : vp_in (a3 + 2) (sp_sl g)) (h3 : vp_in (a3 + 3) (sp_sl g)) (h4 : vp_in (a3 + 4) (sp_sl g)) (h5 : vp_in (a3 + 5) (sp_sl g)) (h : gL_21 F M = some p) (k : sp_Wp g Ω mL_law mc ms 1333 [some (.ref (1000100 + 101)), some (.ref 0), some (.ref 103), some (.int a3)] [] p Q) : sp_Wp g Ω mL_law mc ms 779 [some (.ref (1000100 + 101)), some (.ref 0), some (.ref 103), some (.int a3)] [] M Q := by
  unfold gL_21 at h
  refine sp_aload_n dL_law_779 rfl rfl ?_
  refine sp_use (fun ho => ?_)
  have hs := hG.1 _ ho
  obtain ⟨x1, hx1, h⟩ := Option.bind_eq_some_iff.mp h
  refine sp_cV (M1 := x1.2) (r := some (.int x1.1)) (o := 0) (st := []) (c := 9) (RX10, TX10, 16) [] [.ref 0] [.int x1.1] dL_law_780 okX10_undo tw_974 tw_975 tw_976 (by decide) (by decide) rfl (Nat.le_of_ble_eq_true rfl) rfl rfl rfl rfl (wsI_0 hs) (fun Q hQ => tX10_undo hG hx1 hQ) ?_
  refine sp_aload_n dL_law_783 rfl rfl ?_
  refine sp_use (fun ho => ?_)
  have hs := hG.1 _ ho
  obtain ⟨x2, hx2, h⟩ := Option.bind_eq_some_iff.mp h
  refine sp_cV (M1 := x2.2) (r := some (.int x2.1)) (o := 103) (st := [.int x1.1]) (c := 10) (RX11, TX11, 56) [] [.ref 103, .int x1.1] [.int x2.1, .int x1.1] dL_law_784 okX11_undo tw_1384 tw_1385 tw_1386 (by decide) (by decide) rfl (Nat.le_of_ble_eq_true rfl) rfl rfl rfl rfl (wsI_103 hs) (fun Q hQ => tX11_undo hG hx2 hQ) ?_
  refine sp_icmp_eq (tgt := 1333) dL_law_787 (by decide) (fun hc3 => ?_) (fun hc3 => ?_)
  · have h := (if_pos hc3).symm.trans h
    cases h
    exact k
  · have h := (if_neg hc3).symm.trans h
    cases h
def gL_22 (F : Nat) (M : sp_Mem) (w1 : Int32) (w2 : Int32) : Option sp_Mem :=
  (fX10_where F M w1 w2).bind fun x1 => (fX11_where F x1.2 w1 w2).bind fun x2 => if x1.1 = x2.1 then some x2.2 else none
set_option maxRecDepth 100000 in
set_option maxHeartbeats 4000000 in
theorem hL_22 {g : sp_G} {Ω : sp_Mem → Prop} {Q : sp_Qt} {F mc ms : Nat} {a3 : Int32} {M p : sp_Mem} (hG : sp_Ok Ω) (h1 : vp_in (a3 + 1) (sp_sl g)) (h2 : vp_in (a3 + 2) (sp_sl g)) (h3 : vp_in (a3 + 3) (sp_sl g)) (h4 : vp_in (a3 + 4) (sp_sl g)) (h5 : vp_in (a3 + 5) (sp_sl g)) (h : gL_22 F M (sp_sx g (a3 + 1).toNatClampNeg) (sp_sx g (a3 + 2).toNatClampNeg) = some p) (k : sp_Wp g Ω mL_law mc ms 1333 [some (.ref (1000100 + 101)), some (.ref 0), some (.ref 103), some (.int a3)] [] p Q) : sp_Wp g Ω mL_law mc ms 792 [some (.ref (1000100 + 101)), some (.ref 0), some (.ref 103), some (.int a3)] [] M Q := by
  unfold gL_22 at h
  refine sp_aload_n dL_law_792 rfl rfl ?_
  refine sp_aload_n dL_law_793 rfl rfl ?_
  refine sp_iload_n dL_law_794 rfl rfl ?_
  refine sp_iconst (v := 1) dL_law_795 (by decide) ?_
  refine sp_iadd dL_law_796 ?_
  refine sp_sld dL_law_797 h1 ?_
  refine sp_aload_n dL_law_798 rfl rfl ?_
  refine sp_iload_n dL_law_799 rfl rfl ?_
  refine sp_iconst (v := 2) dL_law_800 (by decide) ?_
  refine sp_iadd dL_law_801 ?_
  refine sp_sld dL_law_802 h2 ?_
  refine sp_use (fun ho => ?_)
  have hs := hG.1 _ ho
  obtain ⟨x1, hx1, h⟩ := Option.bind_eq_some_iff.mp h
  refine sp_cV (M1 := x1.2) (r := some (.int x1.1)) (o := 0) (st := []) (c := 9) (RX10, TX10, 16) [.int (sp_sx g (a3 + 1).toNatClampNeg), .int (sp_sx g (a3 + 2).toNatClampNeg)] [.int (sp_sx g (a3 + 2).toNatClampNeg), .int (sp_sx g (a3 + 1).toNatClampNeg), .ref 0] [.int x1.1] dL_law_803 okX10_where tw_986 tw_987 tw_988 (by decide) (by decide) rfl (Nat.le_of_ble_eq_true rfl) rfl rfl rfl rfl (wsI_0 hs) (fun Q hQ => tX10_where hG hx1 hQ) ?_
  refine sp_aload_n dL_law_806 rfl rfl ?_
  refine sp_aload_n dL_law_807 rfl rfl ?_
  refine sp_iload_n dL_law_808 rfl rfl ?_
  refine sp_iconst (v := 1) dL_law_809 (by decide) ?_
  refine sp_iadd dL_law_810 ?_
  refine sp_sld dL_law_811 h1 ?_
  refine sp_aload_n dL_law_812 rfl rfl ?_
  refine sp_iload_n dL_law_813 rfl rfl ?_
  refine sp_iconst (v := 2) dL_law_814 (by decide) ?_
  refine sp_iadd dL_law_815 ?_
  refine sp_sld dL_law_816 h2 ?_
  refine sp_use (fun ho => ?_)
  have hs := hG.1 _ ho
  obtain ⟨x2, hx2, h⟩ := Option.bind_eq_some_iff.mp h
  refine sp_cV (M1 := x2.2) (r := some (.int x2.1)) (o := 103) (st := [.int x1.1]) (c := 10) (RX11, TX11, 56) [.int (sp_sx g (a3 + 1).toNatClampNeg), .int (sp_sx g (a3 + 2).toNatClampNeg)] [.int (sp_sx g (a3 + 2).toNatClampNeg), .int (sp_sx g (a3 + 1).toNatClampNeg), .ref 103, .int x1.1] [.int x2.1, .int x1.1] dL_law_817 okX11_where tw_1739 tw_1740 tw_1741 (by decide) (by decide) rfl (Nat.le_of_ble_eq_true rfl) rfl rfl rfl rfl (wsI_103 hs) (fun Q hQ => tX11_where hG hx2 hQ) ?_
  refine sp_icmp_eq (tgt := 1333) dL_law_820 (by decide) (fun hc3 => ?_) (fun hc3 => ?_)
  · have h := (if_pos hc3).symm.trans h
    cases h
    exact k
  · have h := (if_neg hc3).symm.trans h
    cases h
def gL_23 (F : Nat) (M : sp_Mem) (w1 : Int32) (w2 : Int32) : Option sp_Mem :=
  (fX10_first F M w1 w2).bind fun x1 => (fX11_first F x1.2 w1 w2).bind fun x2 => if x1.1 = x2.1 then some x2.2 else none
set_option maxRecDepth 100000 in
set_option maxHeartbeats 4000000 in
theorem hL_23 {g : sp_G} {Ω : sp_Mem → Prop} {Q : sp_Qt} {F mc ms : Nat} {a3 : Int32} {M p : sp_Mem} (hG : sp_Ok Ω) (h1 : vp_in (a3 + 1) (sp_sl g)) (h2 : vp_in (a3 + 2) (sp_sl g)) (h3 : vp_in (a3 + 3) (sp_sl g)) (h4 : vp_in (a3 + 4) (sp_sl g)) (h5 : vp_in (a3 + 5) (sp_sl g)) (h : gL_23 F M (sp_sx g (a3 + 1).toNatClampNeg) (sp_sx g (a3 + 2).toNatClampNeg) = some p) (k : sp_Wp g Ω mL_law mc ms 1333 [some (.ref (1000100 + 101)), some (.ref 0), some (.ref 103), some (.int a3)] [] p Q) : sp_Wp g Ω mL_law mc ms 825 [some (.ref (1000100 + 101)), some (.ref 0), some (.ref 103), some (.int a3)] [] M Q := by
  unfold gL_23 at h
  refine sp_aload_n dL_law_825 rfl rfl ?_
  refine sp_aload_n dL_law_826 rfl rfl ?_
  refine sp_iload_n dL_law_827 rfl rfl ?_
  refine sp_iconst (v := 1) dL_law_828 (by decide) ?_
  refine sp_iadd dL_law_829 ?_
  refine sp_sld dL_law_830 h1 ?_
  refine sp_aload_n dL_law_831 rfl rfl ?_
  refine sp_iload_n dL_law_832 rfl rfl ?_
  refine sp_iconst (v := 2) dL_law_833 (by decide) ?_
  refine sp_iadd dL_law_834 ?_
  refine sp_sld dL_law_835 h2 ?_
  refine sp_use (fun ho => ?_)
  have hs := hG.1 _ ho
  obtain ⟨x1, hx1, h⟩ := Option.bind_eq_some_iff.mp h
  refine sp_cV (M1 := x1.2) (r := some (.int x1.1)) (o := 0) (st := []) (c := 9) (RX10, TX10, 16) [.int (sp_sx g (a3 + 1).toNatClampNeg), .int (sp_sx g (a3 + 2).toNatClampNeg)] [.int (sp_sx g (a3 + 2).toNatClampNeg), .int (sp_sx g (a3 + 1).toNatClampNeg), .ref 0] [.int x1.1] dL_law_836 okX10_first tw_996 tw_997 tw_998 (by decide) (by decide) rfl (Nat.le_of_ble_eq_true rfl) rfl rfl rfl rfl (wsI_0 hs) (fun Q hQ => tX10_first hG hx1 hQ) ?_
  refine sp_aload_n dL_law_839 rfl rfl ?_
  refine sp_aload_n dL_law_840 rfl rfl ?_
  refine sp_iload_n dL_law_841 rfl rfl ?_
  refine sp_iconst (v := 1) dL_law_842 (by decide) ?_
  refine sp_iadd dL_law_843 ?_
  refine sp_sld dL_law_844 h1 ?_
  refine sp_aload_n dL_law_845 rfl rfl ?_
  refine sp_iload_n dL_law_846 rfl rfl ?_
  refine sp_iconst (v := 2) dL_law_847 (by decide) ?_
  refine sp_iadd dL_law_848 ?_
  refine sp_sld dL_law_849 h2 ?_
  refine sp_use (fun ho => ?_)
  have hs := hG.1 _ ho
  obtain ⟨x2, hx2, h⟩ := Option.bind_eq_some_iff.mp h
  refine sp_cV (M1 := x2.2) (r := some (.int x2.1)) (o := 103) (st := [.int x1.1]) (c := 10) (RX11, TX11, 56) [.int (sp_sx g (a3 + 1).toNatClampNeg), .int (sp_sx g (a3 + 2).toNatClampNeg)] [.int (sp_sx g (a3 + 2).toNatClampNeg), .int (sp_sx g (a3 + 1).toNatClampNeg), .ref 103, .int x1.1] [.int x2.1, .int x1.1] dL_law_850 okX11_first tw_1744 tw_1745 tw_1746 (by decide) (by decide) rfl (Nat.le_of_ble_eq_true rfl) rfl rfl rfl rfl (wsI_103 hs) (fun Q hQ => tX11_first hG hx2 hQ) ?_
  refine sp_icmp_eq (tgt := 1333) dL_law_853 (by decide) (fun hc3 => ?_) (fun hc3 => ?_)
  · have h := (if_pos hc3).symm.trans h
    cases h
    exact k
  · have h := (if_neg hc3).symm.trans h
    cases h
def gL_24 (F : Nat) (M : sp_Mem) (w1 : Int32) (w2 : Int32) : Option sp_Mem :=
  (fX10_chain F M w1 w2).bind fun x1 => (fX11_chain F x1.2 w1 w2).bind fun x2 => if x1.1 = x2.1 then some x2.2 else none
set_option maxRecDepth 100000 in
set_option maxHeartbeats 4000000 in
theorem hL_24 {g : sp_G} {Ω : sp_Mem → Prop} {Q : sp_Qt} {F mc ms : Nat} {a3 : Int32} {M p : sp_Mem} (hG : sp_Ok Ω) (h1 : vp_in (a3 + 1) (sp_sl g)) (h2 : vp_in (a3 + 2) (sp_sl g)) (h3 : vp_in (a3 + 3) (sp_sl g)) (h4 : vp_in (a3 + 4) (sp_sl g)) (h5 : vp_in (a3 + 5) (sp_sl g)) (h : gL_24 F M (sp_sx g (a3 + 1).toNatClampNeg) (sp_sx g (a3 + 2).toNatClampNeg) = some p) (k : sp_Wp g Ω mL_law mc ms 1333 [some (.ref (1000100 + 101)), some (.ref 0), some (.ref 103), some (.int a3)] [] p Q) : sp_Wp g Ω mL_law mc ms 858 [some (.ref (1000100 + 101)), some (.ref 0), some (.ref 103), some (.int a3)] [] M Q := by
  unfold gL_24 at h
  refine sp_aload_n dL_law_858 rfl rfl ?_
  refine sp_aload_n dL_law_859 rfl rfl ?_
  refine sp_iload_n dL_law_860 rfl rfl ?_
  refine sp_iconst (v := 1) dL_law_861 (by decide) ?_
  refine sp_iadd dL_law_862 ?_
  refine sp_sld dL_law_863 h1 ?_
  refine sp_aload_n dL_law_864 rfl rfl ?_
  refine sp_iload_n dL_law_865 rfl rfl ?_
  refine sp_iconst (v := 2) dL_law_866 (by decide) ?_
  refine sp_iadd dL_law_867 ?_
  refine sp_sld dL_law_868 h2 ?_
  refine sp_use (fun ho => ?_)
  have hs := hG.1 _ ho
  obtain ⟨x1, hx1, h⟩ := Option.bind_eq_some_iff.mp h
  refine sp_cV (M1 := x1.2) (r := some (.int x1.1)) (o := 0) (st := []) (c := 9) (RX10, TX10, 16) [.int (sp_sx g (a3 + 1).toNatClampNeg), .int (sp_sx g (a3 + 2).toNatClampNeg)] [.int (sp_sx g (a3 + 2).toNatClampNeg), .int (sp_sx g (a3 + 1).toNatClampNeg), .ref 0] [.int x1.1] dL_law_869 okX10_chain tw_1008 tw_1009 tw_1010 (by decide) (by decide) rfl (Nat.le_of_ble_eq_true rfl) rfl rfl rfl rfl (wsI_0 hs) (fun Q hQ => tX10_chain hG hx1 hQ) ?_
  refine sp_aload_n dL_law_872 rfl rfl ?_
  refine sp_aload_n dL_law_873 rfl rfl ?_
  refine sp_iload_n dL_law_874 rfl rfl ?_
  refine sp_iconst (v := 1) dL_law_875 (by decide) ?_
  refine sp_iadd dL_law_876 ?_
  refine sp_sld dL_law_877 h1 ?_
  refine sp_aload_n dL_law_878 rfl rfl ?_
  refine sp_iload_n dL_law_879 rfl rfl ?_
  refine sp_iconst (v := 2) dL_law_880 (by decide) ?_
  refine sp_iadd dL_law_881 ?_
  refine sp_sld dL_law_882 h2 ?_
  refine sp_use (fun ho => ?_)
  have hs := hG.1 _ ho
  obtain ⟨x2, hx2, h⟩ := Option.bind_eq_some_iff.mp h
  refine sp_cV (M1 := x2.2) (r := some (.int x2.1)) (o := 103) (st := [.int x1.1]) (c := 10) (RX11, TX11, 56) [.int (sp_sx g (a3 + 1).toNatClampNeg), .int (sp_sx g (a3 + 2).toNatClampNeg)] [.int (sp_sx g (a3 + 2).toNatClampNeg), .int (sp_sx g (a3 + 1).toNatClampNeg), .ref 103, .int x1.1] [.int x2.1, .int x1.1] dL_law_883 okX11_chain tw_1752 tw_1753 tw_1754 (by decide) (by decide) rfl (Nat.le_of_ble_eq_true rfl) rfl rfl rfl rfl (wsI_103 hs) (fun Q hQ => tX11_chain hG hx2 hQ) ?_
  refine sp_icmp_eq (tgt := 1333) dL_law_886 (by decide) (fun hc3 => ?_) (fun hc3 => ?_)
  · have h := (if_pos hc3).symm.trans h
    cases h
    exact k
  · have h := (if_neg hc3).symm.trans h
    cases h
def gL_25 (F : Nat) (M : sp_Mem) (w1 : Int32) (w2 : Int32) : Option sp_Mem :=
  (fX10_answer M w1 w2).bind fun x1 => (fX11_answer x1.2 w1 w2).bind fun x2 => if x1.1 = x2.1 then some x2.2 else none
set_option maxRecDepth 100000 in
set_option maxHeartbeats 4000000 in
theorem hL_25 {g : sp_G} {Ω : sp_Mem → Prop} {Q : sp_Qt} {F mc ms : Nat} {a3 : Int32} {M p : sp_Mem} (hG : sp_Ok Ω) (h1 : vp_in (a3 + 1) (sp_sl g)) (h2 : vp_in (a3 + 2) (sp_sl g)) (h3 : vp_in (a3 + 3) (sp_sl g)) (h4 : vp_in (a3 + 4) (sp_sl g)) (h5 : vp_in (a3 + 5) (sp_sl g)) (h : gL_25 F M (sp_sx g (a3 + 1).toNatClampNeg) (sp_sx g (a3 + 2).toNatClampNeg) = some p) (k : sp_Wp g Ω mL_law mc ms 1333 [some (.ref (1000100 + 101)), some (.ref 0), some (.ref 103), some (.int a3)] [] p Q) : sp_Wp g Ω mL_law mc ms 891 [some (.ref (1000100 + 101)), some (.ref 0), some (.ref 103), some (.int a3)] [] M Q := by
  unfold gL_25 at h
  refine sp_aload_n dL_law_891 rfl rfl ?_
  refine sp_aload_n dL_law_892 rfl rfl ?_
  refine sp_iload_n dL_law_893 rfl rfl ?_
  refine sp_iconst (v := 1) dL_law_894 (by decide) ?_
  refine sp_iadd dL_law_895 ?_
  refine sp_sld dL_law_896 h1 ?_
  refine sp_aload_n dL_law_897 rfl rfl ?_
  refine sp_iload_n dL_law_898 rfl rfl ?_
  refine sp_iconst (v := 2) dL_law_899 (by decide) ?_
  refine sp_iadd dL_law_900 ?_
  refine sp_sld dL_law_901 h2 ?_
  refine sp_use (fun ho => ?_)
  have hs := hG.1 _ ho
  obtain ⟨x1, hx1, h⟩ := Option.bind_eq_some_iff.mp h
  refine sp_cV (M1 := x1.2) (r := some (.int x1.1)) (o := 0) (st := []) (c := 9) (RX10, TX10, 16) [.int (sp_sx g (a3 + 1).toNatClampNeg), .int (sp_sx g (a3 + 2).toNatClampNeg)] [.int (sp_sx g (a3 + 2).toNatClampNeg), .int (sp_sx g (a3 + 1).toNatClampNeg), .ref 0] [.int x1.1] dL_law_902 okX10_answer tw_1025 tw_1026 tw_1027 (by decide) (by decide) rfl (Nat.le_of_ble_eq_true rfl) rfl rfl rfl rfl (wsI_0 hs) (fun Q hQ => tX10_answer hG hx1 hQ) ?_
  refine sp_aload_n dL_law_905 rfl rfl ?_
  refine sp_aload_n dL_law_906 rfl rfl ?_
  refine sp_iload_n dL_law_907 rfl rfl ?_
  refine sp_iconst (v := 1) dL_law_908 (by decide) ?_
  refine sp_iadd dL_law_909 ?_
  refine sp_sld dL_law_910 h1 ?_
  refine sp_aload_n dL_law_911 rfl rfl ?_
  refine sp_iload_n dL_law_912 rfl rfl ?_
  refine sp_iconst (v := 2) dL_law_913 (by decide) ?_
  refine sp_iadd dL_law_914 ?_
  refine sp_sld dL_law_915 h2 ?_
  refine sp_use (fun ho => ?_)
  have hs := hG.1 _ ho
  obtain ⟨x2, hx2, h⟩ := Option.bind_eq_some_iff.mp h
  refine sp_cV (M1 := x2.2) (r := some (.int x2.1)) (o := 103) (st := [.int x1.1]) (c := 10) (RX11, TX11, 56) [.int (sp_sx g (a3 + 1).toNatClampNeg), .int (sp_sx g (a3 + 2).toNatClampNeg)] [.int (sp_sx g (a3 + 2).toNatClampNeg), .int (sp_sx g (a3 + 1).toNatClampNeg), .ref 103, .int x1.1] [.int x2.1, .int x1.1] dL_law_916 okX11_answer tw_1773 tw_1774 tw_1775 (by decide) (by decide) rfl (Nat.le_of_ble_eq_true rfl) rfl rfl rfl rfl (wsI_103 hs) (fun Q hQ => tX11_answer hG hx2 hQ) ?_
  refine sp_icmp_eq (tgt := 1333) dL_law_919 (by decide) (fun hc3 => ?_) (fun hc3 => ?_)
  · have h := (if_pos hc3).symm.trans h
    cases h
    exact k
  · have h := (if_neg hc3).symm.trans h
    cases h
def gL_26 (F : Nat) (M : sp_Mem) : Option sp_Mem :=
  (fX10_forget M).bind fun x1 => (fX11_forget x1.2).bind fun x2 => if x1.1 = x2.1 then some x2.2 else none
set_option maxRecDepth 100000 in
set_option maxHeartbeats 4000000 in
theorem hL_26 {g : sp_G} {Ω : sp_Mem → Prop} {Q : sp_Qt} {F mc ms : Nat} {a3 : Int32} {M p : sp_Mem} (hG : sp_Ok Ω) (h1 : vp_in (a3 + 1) (sp_sl g)) (h2 : vp_in (a3 + 2) (sp_sl g)) (h3 : vp_in (a3 + 3) (sp_sl g)) (h4 : vp_in (a3 + 4) (sp_sl g)) (h5 : vp_in (a3 + 5) (sp_sl g)) (h : gL_26 F M = some p) (k : sp_Wp g Ω mL_law mc ms 1333 [some (.ref (1000100 + 101)), some (.ref 0), some (.ref 103), some (.int a3)] [] p Q) : sp_Wp g Ω mL_law mc ms 924 [some (.ref (1000100 + 101)), some (.ref 0), some (.ref 103), some (.int a3)] [] M Q := by
  unfold gL_26 at h
  refine sp_aload_n dL_law_924 rfl rfl ?_
  refine sp_use (fun ho => ?_)
  have hs := hG.1 _ ho
  obtain ⟨x1, hx1, h⟩ := Option.bind_eq_some_iff.mp h
  refine sp_cV (M1 := x1.2) (r := some (.int x1.1)) (o := 0) (st := []) (c := 9) (RX10, TX10, 16) [] [.ref 0] [.int x1.1] dL_law_925 okX10_forget tw_1033 tw_1034 tw_1035 (by decide) (by decide) rfl (Nat.le_of_ble_eq_true rfl) rfl rfl rfl rfl (wsI_0 hs) (fun Q hQ => tX10_forget hG hx1 hQ) ?_
  refine sp_aload_n dL_law_928 rfl rfl ?_
  refine sp_use (fun ho => ?_)
  have hs := hG.1 _ ho
  obtain ⟨x2, hx2, h⟩ := Option.bind_eq_some_iff.mp h
  refine sp_cV (M1 := x2.2) (r := some (.int x2.1)) (o := 103) (st := [.int x1.1]) (c := 10) (RX11, TX11, 56) [] [.ref 103, .int x1.1] [.int x2.1, .int x1.1] dL_law_929 okX11_forget tw_1777 tw_1778 tw_1779 (by decide) (by decide) rfl (Nat.le_of_ble_eq_true rfl) rfl rfl rfl rfl (wsI_103 hs) (fun Q hQ => tX11_forget hG hx2 hQ) ?_
  refine sp_icmp_eq (tgt := 1333) dL_law_932 (by decide) (fun hc3 => ?_) (fun hc3 => ?_)
  · have h := (if_pos hc3).symm.trans h
    cases h
    exact k
  · have h := (if_neg hc3).symm.trans h
    cases h
def gL_27 (F : Nat) (M : sp_Mem) : Option sp_Mem :=
  (fX10_which F M).bind fun v1 => (fX11_which F M).bind fun x2 => if v1 = x2.1 then some x2.2 else none
set_option maxRecDepth 100000 in
set_option maxHeartbeats 4000000 in
theorem hL_27 {g : sp_G} {Ω : sp_Mem → Prop} {Q : sp_Qt} {F mc ms : Nat} {a3 : Int32} {M p : sp_Mem} (hG : sp_Ok Ω) (h1 : vp_in (a3 + 1) (sp_sl g)) (h2 : vp_in (a3 + 2) (sp_sl g)) (h3 : vp_in (a3 + 3) (sp_sl g)) (h4 : vp_in (a3 + 4) (sp_sl g)) (h5 : vp_in (a3 + 5) (sp_sl g)) (h : gL_27 F M = some p) (k : sp_Wp g Ω mL_law mc ms 1333 [some (.ref (1000100 + 101)), some (.ref 0), some (.ref 103), some (.int a3)] [] p Q) : sp_Wp g Ω mL_law mc ms 937 [some (.ref (1000100 + 101)), some (.ref 0), some (.ref 103), some (.int a3)] [] M Q := by
  unfold gL_27 at h
  refine sp_aload_n dL_law_937 rfl rfl ?_
  refine sp_use (fun ho => ?_)
  have hs := hG.1 _ ho
  obtain ⟨v1, hv1, h⟩ := Option.bind_eq_some_iff.mp h
  refine sp_cV (M1 := M) (r := some (.int v1)) (o := 0) (st := []) (c := 9) (RX10, TX10, 16) [] [.ref 0] [.int v1] dL_law_938 okX10_which tw_1037 tw_1038 tw_1039 (by decide) (by decide) rfl (Nat.le_of_ble_eq_true rfl) rfl rfl rfl rfl (wsI_0 hs) (fun Q hQ => tX10_which hG hv1 hQ) ?_
  refine sp_aload_n dL_law_941 rfl rfl ?_
  refine sp_use (fun ho => ?_)
  have hs := hG.1 _ ho
  obtain ⟨x2, hx2, h⟩ := Option.bind_eq_some_iff.mp h
  refine sp_cV (M1 := x2.2) (r := some (.int x2.1)) (o := 103) (st := [.int v1]) (c := 10) (RX11, TX11, 56) [] [.ref 103, .int v1] [.int x2.1, .int v1] dL_law_942 okX11_which tw_1781 tw_1782 tw_1783 (by decide) (by decide) rfl (Nat.le_of_ble_eq_true rfl) rfl rfl rfl rfl (wsI_103 hs) (fun Q hQ => tX11_which hG hx2 hQ) ?_
  refine sp_icmp_eq (tgt := 1333) dL_law_945 (by decide) (fun hc3 => ?_) (fun hc3 => ?_)
  · have h := (if_pos hc3).symm.trans h
    cases h
    exact k
  · have h := (if_neg hc3).symm.trans h
    cases h
def gL_28 (F : Nat) (M : sp_Mem) (w1 : Int32) : Option sp_Mem :=
  (fX10_let F M w1).bind fun v1 => (fX11_let F M w1).bind fun x2 => if v1 = x2.1 then some x2.2 else none
set_option maxRecDepth 100000 in
set_option maxHeartbeats 4000000 in
theorem hL_28 {g : sp_G} {Ω : sp_Mem → Prop} {Q : sp_Qt} {F mc ms : Nat} {a3 : Int32} {M p : sp_Mem} (hG : sp_Ok Ω) (h1 : vp_in (a3 + 1) (sp_sl g)) (h2 : vp_in (a3 + 2) (sp_sl g)) (h3 : vp_in (a3 + 3) (sp_sl g)) (h4 : vp_in (a3 + 4) (sp_sl g)) (h5 : vp_in (a3 + 5) (sp_sl g)) (h : gL_28 F M (sp_sx g (a3 + 1).toNatClampNeg) = some p) (k : sp_Wp g Ω mL_law mc ms 1333 [some (.ref (1000100 + 101)), some (.ref 0), some (.ref 103), some (.int a3)] [] p Q) : sp_Wp g Ω mL_law mc ms 950 [some (.ref (1000100 + 101)), some (.ref 0), some (.ref 103), some (.int a3)] [] M Q := by
  unfold gL_28 at h
  refine sp_aload_n dL_law_950 rfl rfl ?_
  refine sp_aload_n dL_law_951 rfl rfl ?_
  refine sp_iload_n dL_law_952 rfl rfl ?_
  refine sp_iconst (v := 1) dL_law_953 (by decide) ?_
  refine sp_iadd dL_law_954 ?_
  refine sp_sld dL_law_955 h1 ?_
  refine sp_use (fun ho => ?_)
  have hs := hG.1 _ ho
  obtain ⟨v1, hv1, h⟩ := Option.bind_eq_some_iff.mp h
  refine sp_cV (M1 := M) (r := some (.int v1)) (o := 0) (st := []) (c := 9) (RX10, TX10, 16) [.int (sp_sx g (a3 + 1).toNatClampNeg)] [.int (sp_sx g (a3 + 1).toNatClampNeg), .ref 0] [.int v1] dL_law_956 okX10_let tw_1045 tw_1046 tw_1047 (by decide) (by decide) rfl (Nat.le_of_ble_eq_true rfl) rfl rfl rfl rfl (wsI_0 hs) (fun Q hQ => tX10_let hG hv1 hQ) ?_
  refine sp_aload_n dL_law_959 rfl rfl ?_
  refine sp_aload_n dL_law_960 rfl rfl ?_
  refine sp_iload_n dL_law_961 rfl rfl ?_
  refine sp_iconst (v := 1) dL_law_962 (by decide) ?_
  refine sp_iadd dL_law_963 ?_
  refine sp_sld dL_law_964 h1 ?_
  refine sp_use (fun ho => ?_)
  have hs := hG.1 _ ho
  obtain ⟨x2, hx2, h⟩ := Option.bind_eq_some_iff.mp h
  refine sp_cV (M1 := x2.2) (r := some (.int x2.1)) (o := 103) (st := [.int v1]) (c := 10) (RX11, TX11, 56) [.int (sp_sx g (a3 + 1).toNatClampNeg)] [.int (sp_sx g (a3 + 1).toNatClampNeg), .ref 103, .int v1] [.int x2.1, .int v1] dL_law_965 okX11_let tw_1789 tw_1790 tw_1791 (by decide) (by decide) rfl (Nat.le_of_ble_eq_true rfl) rfl rfl rfl rfl (wsI_103 hs) (fun Q hQ => tX11_let hG hx2 hQ) ?_
  refine sp_icmp_eq (tgt := 1333) dL_law_968 (by decide) (fun hc3 => ?_) (fun hc3 => ?_)
  · have h := (if_pos hc3).symm.trans h
    cases h
    exact k
  · have h := (if_neg hc3).symm.trans h
    cases h
def gL_29 (F : Nat) (M : sp_Mem) (w1 : Int32) : Option sp_Mem :=
  (fX10_alike F M w1).bind fun v1 => (fX11_alike F M w1).bind fun x2 => if v1 = x2.1 then some x2.2 else none
set_option maxRecDepth 100000 in
set_option maxHeartbeats 4000000 in
theorem hL_29 {g : sp_G} {Ω : sp_Mem → Prop} {Q : sp_Qt} {F mc ms : Nat} {a3 : Int32} {M p : sp_Mem} (hG : sp_Ok Ω) (h1 : vp_in (a3 + 1) (sp_sl g)) (h2 : vp_in (a3 + 2) (sp_sl g)) (h3 : vp_in (a3 + 3) (sp_sl g)) (h4 : vp_in (a3 + 4) (sp_sl g)) (h5 : vp_in (a3 + 5) (sp_sl g)) (h : gL_29 F M (sp_sx g (a3 + 1).toNatClampNeg) = some p) (k : sp_Wp g Ω mL_law mc ms 1333 [some (.ref (1000100 + 101)), some (.ref 0), some (.ref 103), some (.int a3)] [] p Q) : sp_Wp g Ω mL_law mc ms 973 [some (.ref (1000100 + 101)), some (.ref 0), some (.ref 103), some (.int a3)] [] M Q := by
  unfold gL_29 at h
  refine sp_aload_n dL_law_973 rfl rfl ?_
  refine sp_aload_n dL_law_974 rfl rfl ?_
  refine sp_iload_n dL_law_975 rfl rfl ?_
  refine sp_iconst (v := 1) dL_law_976 (by decide) ?_
  refine sp_iadd dL_law_977 ?_
  refine sp_sld dL_law_978 h1 ?_
  refine sp_use (fun ho => ?_)
  have hs := hG.1 _ ho
  obtain ⟨v1, hv1, h⟩ := Option.bind_eq_some_iff.mp h
  refine sp_cV (M1 := M) (r := some (.int v1)) (o := 0) (st := []) (c := 9) (RX10, TX10, 16) [.int (sp_sx g (a3 + 1).toNatClampNeg)] [.int (sp_sx g (a3 + 1).toNatClampNeg), .ref 0] [.int v1] dL_law_979 okX10_alike tw_1060 tw_1061 tw_1062 (by decide) (by decide) rfl (Nat.le_of_ble_eq_true rfl) rfl rfl rfl rfl (wsI_0 hs) (fun Q hQ => tX10_alike hG hv1 hQ) ?_
  refine sp_aload_n dL_law_982 rfl rfl ?_
  refine sp_aload_n dL_law_983 rfl rfl ?_
  refine sp_iload_n dL_law_984 rfl rfl ?_
  refine sp_iconst (v := 1) dL_law_985 (by decide) ?_
  refine sp_iadd dL_law_986 ?_
  refine sp_sld dL_law_987 h1 ?_
  refine sp_use (fun ho => ?_)
  have hs := hG.1 _ ho
  obtain ⟨x2, hx2, h⟩ := Option.bind_eq_some_iff.mp h
  refine sp_cV (M1 := x2.2) (r := some (.int x2.1)) (o := 103) (st := [.int v1]) (c := 10) (RX11, TX11, 56) [.int (sp_sx g (a3 + 1).toNatClampNeg)] [.int (sp_sx g (a3 + 1).toNatClampNeg), .ref 103, .int v1] [.int x2.1, .int v1] dL_law_988 okX11_alike tw_1796 tw_1797 tw_1798 (by decide) (by decide) rfl (Nat.le_of_ble_eq_true rfl) rfl rfl rfl rfl (wsI_103 hs) (fun Q hQ => tX11_alike hG hx2 hQ) ?_
  refine sp_icmp_eq (tgt := 1333) dL_law_991 (by decide) (fun hc3 => ?_) (fun hc3 => ?_)
  · have h := (if_pos hc3).symm.trans h
    cases h
    exact k
  · have h := (if_neg hc3).symm.trans h
    cases h
def gL_30 (F : Nat) (M : sp_Mem) (w1 : Int32) : Option sp_Mem :=
  (fX10_anew F M w1).bind fun v1 => (fX11_anew F M w1).bind fun x2 => if v1 = x2.1 then some x2.2 else none
set_option maxRecDepth 100000 in
set_option maxHeartbeats 4000000 in
theorem hL_30 {g : sp_G} {Ω : sp_Mem → Prop} {Q : sp_Qt} {F mc ms : Nat} {a3 : Int32} {M p : sp_Mem} (hG : sp_Ok Ω) (h1 : vp_in (a3 + 1) (sp_sl g)) (h2 : vp_in (a3 + 2) (sp_sl g)) (h3 : vp_in (a3 + 3) (sp_sl g)) (h4 : vp_in (a3 + 4) (sp_sl g)) (h5 : vp_in (a3 + 5) (sp_sl g)) (h : gL_30 F M (sp_sx g (a3 + 1).toNatClampNeg) = some p) (k : sp_Wp g Ω mL_law mc ms 1333 [some (.ref (1000100 + 101)), some (.ref 0), some (.ref 103), some (.int a3)] [] p Q) : sp_Wp g Ω mL_law mc ms 996 [some (.ref (1000100 + 101)), some (.ref 0), some (.ref 103), some (.int a3)] [] M Q := by
  unfold gL_30 at h
  refine sp_aload_n dL_law_996 rfl rfl ?_
  refine sp_aload_n dL_law_997 rfl rfl ?_
  refine sp_iload_n dL_law_998 rfl rfl ?_
  refine sp_iconst (v := 1) dL_law_999 (by decide) ?_
  refine sp_iadd dL_law_1000 ?_
  refine sp_sld dL_law_1001 h1 ?_
  refine sp_use (fun ho => ?_)
  have hs := hG.1 _ ho
  obtain ⟨v1, hv1, h⟩ := Option.bind_eq_some_iff.mp h
  refine sp_cV (M1 := M) (r := some (.int v1)) (o := 0) (st := []) (c := 9) (RX10, TX10, 16) [.int (sp_sx g (a3 + 1).toNatClampNeg)] [.int (sp_sx g (a3 + 1).toNatClampNeg), .ref 0] [.int v1] dL_law_1002 okX10_anew tw_1070 tw_1071 tw_1072 (by decide) (by decide) rfl (Nat.le_of_ble_eq_true rfl) rfl rfl rfl rfl (wsI_0 hs) (fun Q hQ => tX10_anew hG hv1 hQ) ?_
  refine sp_aload_n dL_law_1005 rfl rfl ?_
  refine sp_aload_n dL_law_1006 rfl rfl ?_
  refine sp_iload_n dL_law_1007 rfl rfl ?_
  refine sp_iconst (v := 1) dL_law_1008 (by decide) ?_
  refine sp_iadd dL_law_1009 ?_
  refine sp_sld dL_law_1010 h1 ?_
  refine sp_use (fun ho => ?_)
  have hs := hG.1 _ ho
  obtain ⟨x2, hx2, h⟩ := Option.bind_eq_some_iff.mp h
  refine sp_cV (M1 := x2.2) (r := some (.int x2.1)) (o := 103) (st := [.int v1]) (c := 10) (RX11, TX11, 56) [.int (sp_sx g (a3 + 1).toNatClampNeg)] [.int (sp_sx g (a3 + 1).toNatClampNeg), .ref 103, .int v1] [.int x2.1, .int v1] dL_law_1011 okX11_anew tw_1804 tw_1805 tw_1806 (by decide) (by decide) rfl (Nat.le_of_ble_eq_true rfl) rfl rfl rfl rfl (wsI_103 hs) (fun Q hQ => tX11_anew hG hx2 hQ) ?_
  refine sp_icmp_eq (tgt := 1333) dL_law_1014 (by decide) (fun hc3 => ?_) (fun hc3 => ?_)
  · have h := (if_pos hc3).symm.trans h
    cases h
    exact k
  · have h := (if_neg hc3).symm.trans h
    cases h
def gL_31 (F : Nat) (M : sp_Mem) (w1 : Int32) (w2 : Int32) : Option sp_Mem :=
  (fX10_guard F M w1 w2).bind fun v1 => (fX11_guard F M w1 w2).bind fun x2 => if v1 = x2.1 then some x2.2 else none
set_option maxRecDepth 100000 in
set_option maxHeartbeats 4000000 in
theorem hL_31 {g : sp_G} {Ω : sp_Mem → Prop} {Q : sp_Qt} {F mc ms : Nat} {a3 : Int32} {M p : sp_Mem} (hG : sp_Ok Ω) (h1 : vp_in (a3 + 1) (sp_sl g)) (h2 : vp_in (a3 + 2) (sp_sl g)) (h3 : vp_in (a3 + 3) (sp_sl g)) (h4 : vp_in (a3 + 4) (sp_sl g)) (h5 : vp_in (a3 + 5) (sp_sl g)) (h : gL_31 F M (sp_sx g (a3 + 1).toNatClampNeg) (sp_sx g (a3 + 2).toNatClampNeg) = some p) (k : sp_Wp g Ω mL_law mc ms 1333 [some (.ref (1000100 + 101)), some (.ref 0), some (.ref 103), some (.int a3)] [] p Q) : sp_Wp g Ω mL_law mc ms 1019 [some (.ref (1000100 + 101)), some (.ref 0), some (.ref 103), some (.int a3)] [] M Q := by
  unfold gL_31 at h
  refine sp_aload_n dL_law_1019 rfl rfl ?_
  refine sp_aload_n dL_law_1020 rfl rfl ?_
  refine sp_iload_n dL_law_1021 rfl rfl ?_
  refine sp_iconst (v := 1) dL_law_1022 (by decide) ?_
  refine sp_iadd dL_law_1023 ?_
  refine sp_sld dL_law_1024 h1 ?_
  refine sp_aload_n dL_law_1025 rfl rfl ?_
  refine sp_iload_n dL_law_1026 rfl rfl ?_
  refine sp_iconst (v := 2) dL_law_1027 (by decide) ?_
  refine sp_iadd dL_law_1028 ?_
  refine sp_sld dL_law_1029 h2 ?_
  refine sp_use (fun ho => ?_)
  have hs := hG.1 _ ho
  obtain ⟨v1, hv1, h⟩ := Option.bind_eq_some_iff.mp h
  refine sp_cV (M1 := M) (r := some (.int v1)) (o := 0) (st := []) (c := 9) (RX10, TX10, 16) [.int (sp_sx g (a3 + 1).toNatClampNeg), .int (sp_sx g (a3 + 2).toNatClampNeg)] [.int (sp_sx g (a3 + 2).toNatClampNeg), .int (sp_sx g (a3 + 1).toNatClampNeg), .ref 0] [.int v1] dL_law_1030 okX10_guard tw_1084 tw_1085 tw_1086 (by decide) (by decide) rfl (Nat.le_of_ble_eq_true rfl) rfl rfl rfl rfl (wsI_0 hs) (fun Q hQ => tX10_guard hG hv1 hQ) ?_
  refine sp_aload_n dL_law_1033 rfl rfl ?_
  refine sp_aload_n dL_law_1034 rfl rfl ?_
  refine sp_iload_n dL_law_1035 rfl rfl ?_
  refine sp_iconst (v := 1) dL_law_1036 (by decide) ?_
  refine sp_iadd dL_law_1037 ?_
  refine sp_sld dL_law_1038 h1 ?_
  refine sp_aload_n dL_law_1039 rfl rfl ?_
  refine sp_iload_n dL_law_1040 rfl rfl ?_
  refine sp_iconst (v := 2) dL_law_1041 (by decide) ?_
  refine sp_iadd dL_law_1042 ?_
  refine sp_sld dL_law_1043 h2 ?_
  refine sp_use (fun ho => ?_)
  have hs := hG.1 _ ho
  obtain ⟨x2, hx2, h⟩ := Option.bind_eq_some_iff.mp h
  refine sp_cV (M1 := x2.2) (r := some (.int x2.1)) (o := 103) (st := [.int v1]) (c := 10) (RX11, TX11, 56) [.int (sp_sx g (a3 + 1).toNatClampNeg), .int (sp_sx g (a3 + 2).toNatClampNeg)] [.int (sp_sx g (a3 + 2).toNatClampNeg), .int (sp_sx g (a3 + 1).toNatClampNeg), .ref 103, .int v1] [.int x2.1, .int v1] dL_law_1044 okX11_guard tw_1812 tw_1813 tw_1814 (by decide) (by decide) rfl (Nat.le_of_ble_eq_true rfl) rfl rfl rfl rfl (wsI_103 hs) (fun Q hQ => tX11_guard hG hx2 hQ) ?_
  refine sp_icmp_eq (tgt := 1333) dL_law_1047 (by decide) (fun hc3 => ?_) (fun hc3 => ?_)
  · have h := (if_pos hc3).symm.trans h
    cases h
    exact k
  · have h := (if_neg hc3).symm.trans h
    cases h
def gL_32 (F : Nat) (M : sp_Mem) (w1 : Int32) : Option sp_Mem :=
  (fX10_lessons F M w1).bind fun v1 => (fX11_lessons F M w1).bind fun x2 => if v1 = x2.1 then some x2.2 else none
set_option maxRecDepth 100000 in
set_option maxHeartbeats 4000000 in
theorem hL_32 {g : sp_G} {Ω : sp_Mem → Prop} {Q : sp_Qt} {F mc ms : Nat} {a3 : Int32} {M p : sp_Mem} (hG : sp_Ok Ω) (h1 : vp_in (a3 + 1) (sp_sl g)) (h2 : vp_in (a3 + 2) (sp_sl g)) (h3 : vp_in (a3 + 3) (sp_sl g)) (h4 : vp_in (a3 + 4) (sp_sl g)) (h5 : vp_in (a3 + 5) (sp_sl g)) (h : gL_32 F M (sp_sx g (a3 + 1).toNatClampNeg) = some p) (k : sp_Wp g Ω mL_law mc ms 1333 [some (.ref (1000100 + 101)), some (.ref 0), some (.ref 103), some (.int a3)] [] p Q) : sp_Wp g Ω mL_law mc ms 1052 [some (.ref (1000100 + 101)), some (.ref 0), some (.ref 103), some (.int a3)] [] M Q := by
  unfold gL_32 at h
  refine sp_aload_n dL_law_1052 rfl rfl ?_
  refine sp_aload_n dL_law_1053 rfl rfl ?_
  refine sp_iload_n dL_law_1054 rfl rfl ?_
  refine sp_iconst (v := 1) dL_law_1055 (by decide) ?_
  refine sp_iadd dL_law_1056 ?_
  refine sp_sld dL_law_1057 h1 ?_
  refine sp_use (fun ho => ?_)
  have hs := hG.1 _ ho
  obtain ⟨v1, hv1, h⟩ := Option.bind_eq_some_iff.mp h
  refine sp_cV (M1 := M) (r := some (.int v1)) (o := 0) (st := []) (c := 9) (RX10, TX10, 16) [.int (sp_sx g (a3 + 1).toNatClampNeg)] [.int (sp_sx g (a3 + 1).toNatClampNeg), .ref 0] [.int v1] dL_law_1058 okX10_lessons tw_1095 tw_1096 tw_1097 (by decide) (by decide) rfl (Nat.le_of_ble_eq_true rfl) rfl rfl rfl rfl (wsI_0 hs) (fun Q hQ => tX10_lessons hG hv1 hQ) ?_
  refine sp_aload_n dL_law_1061 rfl rfl ?_
  refine sp_aload_n dL_law_1062 rfl rfl ?_
  refine sp_iload_n dL_law_1063 rfl rfl ?_
  refine sp_iconst (v := 1) dL_law_1064 (by decide) ?_
  refine sp_iadd dL_law_1065 ?_
  refine sp_sld dL_law_1066 h1 ?_
  refine sp_use (fun ho => ?_)
  have hs := hG.1 _ ho
  obtain ⟨x2, hx2, h⟩ := Option.bind_eq_some_iff.mp h
  refine sp_cV (M1 := x2.2) (r := some (.int x2.1)) (o := 103) (st := [.int v1]) (c := 10) (RX11, TX11, 56) [.int (sp_sx g (a3 + 1).toNatClampNeg)] [.int (sp_sx g (a3 + 1).toNatClampNeg), .ref 103, .int v1] [.int x2.1, .int v1] dL_law_1067 okX11_lessons tw_1820 tw_1821 tw_1822 (by decide) (by decide) rfl (Nat.le_of_ble_eq_true rfl) rfl rfl rfl rfl (wsI_103 hs) (fun Q hQ => tX11_lessons hG hx2 hQ) ?_
  refine sp_icmp_eq (tgt := 1333) dL_law_1070 (by decide) (fun hc3 => ?_) (fun hc3 => ?_)
  · have h := (if_pos hc3).symm.trans h
    cases h
    exact k
  · have h := (if_neg hc3).symm.trans h
    cases h
def gL_33 (F : Nat) (M : sp_Mem) (w1 : Int32) (w2 : Int32) (w3 : Int32) : Option sp_Mem :=
  (fX10_drift F M w1 w2 w3).bind fun x1 => (fX11_drift F x1.2 w1 w2 w3).bind fun x2 => if x1.1 = x2.1 then some x2.2 else none
set_option maxRecDepth 100000 in
set_option maxHeartbeats 4000000 in
theorem hL_33 {g : sp_G} {Ω : sp_Mem → Prop} {Q : sp_Qt} {F mc ms : Nat} {a3 : Int32} {M p : sp_Mem} (hG : sp_Ok Ω) (h1 : vp_in (a3 + 1) (sp_sl g)) (h2 : vp_in (a3 + 2) (sp_sl g)) (h3 : vp_in (a3 + 3) (sp_sl g)) (h4 : vp_in (a3 + 4) (sp_sl g)) (h5 : vp_in (a3 + 5) (sp_sl g)) (h : gL_33 F M (sp_sx g (a3 + 1).toNatClampNeg) (sp_sx g (a3 + 2).toNatClampNeg) (sp_sx g (a3 + 3).toNatClampNeg) = some p) (k : sp_Wp g Ω mL_law mc ms 1333 [some (.ref (1000100 + 101)), some (.ref 0), some (.ref 103), some (.int a3)] [] p Q) : sp_Wp g Ω mL_law mc ms 1075 [some (.ref (1000100 + 101)), some (.ref 0), some (.ref 103), some (.int a3)] [] M Q := by
  unfold gL_33 at h
  refine sp_aload_n dL_law_1075 rfl rfl ?_
  refine sp_aload_n dL_law_1076 rfl rfl ?_
  refine sp_iload_n dL_law_1077 rfl rfl ?_
  refine sp_iconst (v := 1) dL_law_1078 (by decide) ?_
  refine sp_iadd dL_law_1079 ?_
  refine sp_sld dL_law_1080 h1 ?_
  refine sp_aload_n dL_law_1081 rfl rfl ?_
  refine sp_iload_n dL_law_1082 rfl rfl ?_
  refine sp_iconst (v := 2) dL_law_1083 (by decide) ?_
  refine sp_iadd dL_law_1084 ?_
  refine sp_sld dL_law_1085 h2 ?_
  refine sp_aload_n dL_law_1086 rfl rfl ?_
  refine sp_iload_n dL_law_1087 rfl rfl ?_
  refine sp_iconst (v := 3) dL_law_1088 (by decide) ?_
  refine sp_iadd dL_law_1089 ?_
  refine sp_sld dL_law_1090 h3 ?_
  refine sp_use (fun ho => ?_)
  have hs := hG.1 _ ho
  obtain ⟨x1, hx1, h⟩ := Option.bind_eq_some_iff.mp h
  refine sp_cV (M1 := x1.2) (r := some (.long x1.1)) (o := 0) (st := []) (c := 9) (RX10, TX10, 16) [.int (sp_sx g (a3 + 1).toNatClampNeg), .int (sp_sx g (a3 + 2).toNatClampNeg), .int (sp_sx g (a3 + 3).toNatClampNeg)] [.int (sp_sx g (a3 + 3).toNatClampNeg), .int (sp_sx g (a3 + 2).toNatClampNeg), .int (sp_sx g (a3 + 1).toNatClampNeg), .ref 0] [.long x1.1] dL_law_1091 okX10_drift tw_1102 tw_1103 tw_1104 (by decide) (by decide) rfl (Nat.le_of_ble_eq_true rfl) rfl rfl rfl rfl (wsI_0 hs) (fun Q hQ => tX10_drift hG hx1 hQ) ?_
  refine sp_aload_n dL_law_1094 rfl rfl ?_
  refine sp_aload_n dL_law_1095 rfl rfl ?_
  refine sp_iload_n dL_law_1096 rfl rfl ?_
  refine sp_iconst (v := 1) dL_law_1097 (by decide) ?_
  refine sp_iadd dL_law_1098 ?_
  refine sp_sld dL_law_1099 h1 ?_
  refine sp_aload_n dL_law_1100 rfl rfl ?_
  refine sp_iload_n dL_law_1101 rfl rfl ?_
  refine sp_iconst (v := 2) dL_law_1102 (by decide) ?_
  refine sp_iadd dL_law_1103 ?_
  refine sp_sld dL_law_1104 h2 ?_
  refine sp_aload_n dL_law_1105 rfl rfl ?_
  refine sp_iload_n dL_law_1106 rfl rfl ?_
  refine sp_iconst (v := 3) dL_law_1107 (by decide) ?_
  refine sp_iadd dL_law_1108 ?_
  refine sp_sld dL_law_1109 h3 ?_
  refine sp_use (fun ho => ?_)
  have hs := hG.1 _ ho
  obtain ⟨x2, hx2, h⟩ := Option.bind_eq_some_iff.mp h
  refine sp_cV (M1 := x2.2) (r := some (.long x2.1)) (o := 103) (st := [.long x1.1]) (c := 10) (RX11, TX11, 56) [.int (sp_sx g (a3 + 1).toNatClampNeg), .int (sp_sx g (a3 + 2).toNatClampNeg), .int (sp_sx g (a3 + 3).toNatClampNeg)] [.int (sp_sx g (a3 + 3).toNatClampNeg), .int (sp_sx g (a3 + 2).toNatClampNeg), .int (sp_sx g (a3 + 1).toNatClampNeg), .ref 103, .long x1.1] [.long x2.1, .long x1.1] dL_law_1110 okX11_drift tw_1824 tw_1825 tw_1826 (by decide) (by decide) rfl (Nat.le_of_ble_eq_true rfl) rfl rfl rfl rfl (wsI_103 hs) (fun Q hQ => tX11_drift hG hx2 hQ) ?_
  refine sp_lcmp dL_law_1113 ?_
  refine sp_lif_eq (tgt := 1333) dL_law_1114 (by decide) (fun hc3 => ?_) (fun hc3 => ?_)
  · have h := (if_pos hc3).symm.trans h
    cases h
    exact k
  · have h := (if_neg hc3).symm.trans h
    cases h
def gL_34 (F : Nat) (M : sp_Mem) (w1 : Int32) (w2 : Int32) : Option sp_Mem :=
  (fX10_sodden F M w1 w2).bind fun x1 => (fX11_sodden F x1.2 w1 w2).bind fun x2 => if x1.1 = x2.1 then some x2.2 else none
set_option maxRecDepth 100000 in
set_option maxHeartbeats 4000000 in
theorem hL_34 {g : sp_G} {Ω : sp_Mem → Prop} {Q : sp_Qt} {F mc ms : Nat} {a3 : Int32} {M p : sp_Mem} (hG : sp_Ok Ω) (h1 : vp_in (a3 + 1) (sp_sl g)) (h2 : vp_in (a3 + 2) (sp_sl g)) (h3 : vp_in (a3 + 3) (sp_sl g)) (h4 : vp_in (a3 + 4) (sp_sl g)) (h5 : vp_in (a3 + 5) (sp_sl g)) (h : gL_34 F M (sp_sx g (a3 + 1).toNatClampNeg) (sp_sx g (a3 + 2).toNatClampNeg) = some p) (k : sp_Wp g Ω mL_law mc ms 1333 [some (.ref (1000100 + 101)), some (.ref 0), some (.ref 103), some (.int a3)] [] p Q) : sp_Wp g Ω mL_law mc ms 1119 [some (.ref (1000100 + 101)), some (.ref 0), some (.ref 103), some (.int a3)] [] M Q := by
  unfold gL_34 at h
  refine sp_aload_n dL_law_1119 rfl rfl ?_
  refine sp_aload_n dL_law_1120 rfl rfl ?_
  refine sp_iload_n dL_law_1121 rfl rfl ?_
  refine sp_iconst (v := 1) dL_law_1122 (by decide) ?_
  refine sp_iadd dL_law_1123 ?_
  refine sp_sld dL_law_1124 h1 ?_
  refine sp_aload_n dL_law_1125 rfl rfl ?_
  refine sp_iload_n dL_law_1126 rfl rfl ?_
  refine sp_iconst (v := 2) dL_law_1127 (by decide) ?_
  refine sp_iadd dL_law_1128 ?_
  refine sp_sld dL_law_1129 h2 ?_
  refine sp_use (fun ho => ?_)
  have hs := hG.1 _ ho
  obtain ⟨x1, hx1, h⟩ := Option.bind_eq_some_iff.mp h
  refine sp_cV (M1 := x1.2) (r := some (.int x1.1)) (o := 0) (st := []) (c := 9) (RX10, TX10, 16) [.int (sp_sx g (a3 + 1).toNatClampNeg), .int (sp_sx g (a3 + 2).toNatClampNeg)] [.int (sp_sx g (a3 + 2).toNatClampNeg), .int (sp_sx g (a3 + 1).toNatClampNeg), .ref 0] [.int x1.1] dL_law_1130 okX10_sodden tw_1127 tw_1128 tw_1129 (by decide) (by decide) rfl (Nat.le_of_ble_eq_true rfl) rfl rfl rfl rfl (wsI_0 hs) (fun Q hQ => tX10_sodden hG hx1 hQ) ?_
  refine sp_aload_n dL_law_1133 rfl rfl ?_
  refine sp_aload_n dL_law_1134 rfl rfl ?_
  refine sp_iload_n dL_law_1135 rfl rfl ?_
  refine sp_iconst (v := 1) dL_law_1136 (by decide) ?_
  refine sp_iadd dL_law_1137 ?_
  refine sp_sld dL_law_1138 h1 ?_
  refine sp_aload_n dL_law_1139 rfl rfl ?_
  refine sp_iload_n dL_law_1140 rfl rfl ?_
  refine sp_iconst (v := 2) dL_law_1141 (by decide) ?_
  refine sp_iadd dL_law_1142 ?_
  refine sp_sld dL_law_1143 h2 ?_
  refine sp_use (fun ho => ?_)
  have hs := hG.1 _ ho
  obtain ⟨x2, hx2, h⟩ := Option.bind_eq_some_iff.mp h
  refine sp_cV (M1 := x2.2) (r := some (.int x2.1)) (o := 103) (st := [.int x1.1]) (c := 10) (RX11, TX11, 56) [.int (sp_sx g (a3 + 1).toNatClampNeg), .int (sp_sx g (a3 + 2).toNatClampNeg)] [.int (sp_sx g (a3 + 2).toNatClampNeg), .int (sp_sx g (a3 + 1).toNatClampNeg), .ref 103, .int x1.1] [.int x2.1, .int x1.1] dL_law_1144 okX11_sodden tw_1833 tw_1834 tw_1835 (by decide) (by decide) rfl (Nat.le_of_ble_eq_true rfl) rfl rfl rfl rfl (wsI_103 hs) (fun Q hQ => tX11_sodden hG hx2 hQ) ?_
  refine sp_icmp_eq (tgt := 1333) dL_law_1147 (by decide) (fun hc3 => ?_) (fun hc3 => ?_)
  · have h := (if_pos hc3).symm.trans h
    cases h
    exact k
  · have h := (if_neg hc3).symm.trans h
    cases h
def gL_35 (F : Nat) (M : sp_Mem) (w1 : Int32) (w2 : Int32) : Option sp_Mem :=
  (fX10_hot F M w1 w2).bind fun x1 => (fX11_hot F x1.2 w1 w2).bind fun x2 => if x1.1 = x2.1 then some x2.2 else none
set_option maxRecDepth 100000 in
set_option maxHeartbeats 4000000 in
theorem hL_35 {g : sp_G} {Ω : sp_Mem → Prop} {Q : sp_Qt} {F mc ms : Nat} {a3 : Int32} {M p : sp_Mem} (hG : sp_Ok Ω) (h1 : vp_in (a3 + 1) (sp_sl g)) (h2 : vp_in (a3 + 2) (sp_sl g)) (h3 : vp_in (a3 + 3) (sp_sl g)) (h4 : vp_in (a3 + 4) (sp_sl g)) (h5 : vp_in (a3 + 5) (sp_sl g)) (h : gL_35 F M (sp_sx g (a3 + 1).toNatClampNeg) (sp_sx g (a3 + 2).toNatClampNeg) = some p) (k : sp_Wp g Ω mL_law mc ms 1333 [some (.ref (1000100 + 101)), some (.ref 0), some (.ref 103), some (.int a3)] [] p Q) : sp_Wp g Ω mL_law mc ms 1152 [some (.ref (1000100 + 101)), some (.ref 0), some (.ref 103), some (.int a3)] [] M Q := by
  unfold gL_35 at h
  refine sp_aload_n dL_law_1152 rfl rfl ?_
  refine sp_aload_n dL_law_1153 rfl rfl ?_
  refine sp_iload_n dL_law_1154 rfl rfl ?_
  refine sp_iconst (v := 1) dL_law_1155 (by decide) ?_
  refine sp_iadd dL_law_1156 ?_
  refine sp_sld dL_law_1157 h1 ?_
  refine sp_aload_n dL_law_1158 rfl rfl ?_
  refine sp_iload_n dL_law_1159 rfl rfl ?_
  refine sp_iconst (v := 2) dL_law_1160 (by decide) ?_
  refine sp_iadd dL_law_1161 ?_
  refine sp_sld dL_law_1162 h2 ?_
  refine sp_use (fun ho => ?_)
  have hs := hG.1 _ ho
  obtain ⟨x1, hx1, h⟩ := Option.bind_eq_some_iff.mp h
  refine sp_cV (M1 := x1.2) (r := some (.int x1.1)) (o := 0) (st := []) (c := 9) (RX10, TX10, 16) [.int (sp_sx g (a3 + 1).toNatClampNeg), .int (sp_sx g (a3 + 2).toNatClampNeg)] [.int (sp_sx g (a3 + 2).toNatClampNeg), .int (sp_sx g (a3 + 1).toNatClampNeg), .ref 0] [.int x1.1] dL_law_1163 okX10_hot tw_1135 tw_1136 tw_1137 (by decide) (by decide) rfl (Nat.le_of_ble_eq_true rfl) rfl rfl rfl rfl (wsI_0 hs) (fun Q hQ => tX10_hot hG hx1 hQ) ?_
  refine sp_aload_n dL_law_1166 rfl rfl ?_
  refine sp_aload_n dL_law_1167 rfl rfl ?_
  refine sp_iload_n dL_law_1168 rfl rfl ?_
  refine sp_iconst (v := 1) dL_law_1169 (by decide) ?_
  refine sp_iadd dL_law_1170 ?_
  refine sp_sld dL_law_1171 h1 ?_
  refine sp_aload_n dL_law_1172 rfl rfl ?_
  refine sp_iload_n dL_law_1173 rfl rfl ?_
  refine sp_iconst (v := 2) dL_law_1174 (by decide) ?_
  refine sp_iadd dL_law_1175 ?_
  refine sp_sld dL_law_1176 h2 ?_
  refine sp_use (fun ho => ?_)
  have hs := hG.1 _ ho
  obtain ⟨x2, hx2, h⟩ := Option.bind_eq_some_iff.mp h
  refine sp_cV (M1 := x2.2) (r := some (.int x2.1)) (o := 103) (st := [.int x1.1]) (c := 10) (RX11, TX11, 56) [.int (sp_sx g (a3 + 1).toNatClampNeg), .int (sp_sx g (a3 + 2).toNatClampNeg)] [.int (sp_sx g (a3 + 2).toNatClampNeg), .int (sp_sx g (a3 + 1).toNatClampNeg), .ref 103, .int x1.1] [.int x2.1, .int x1.1] dL_law_1177 okX11_hot tw_1837 tw_1838 tw_1839 (by decide) (by decide) rfl (Nat.le_of_ble_eq_true rfl) rfl rfl rfl rfl (wsI_103 hs) (fun Q hQ => tX11_hot hG hx2 hQ) ?_
  refine sp_icmp_eq (tgt := 1333) dL_law_1180 (by decide) (fun hc3 => ?_) (fun hc3 => ?_)
  · have h := (if_pos hc3).symm.trans h
    cases h
    exact k
  · have h := (if_neg hc3).symm.trans h
    cases h
def gL_36 (F : Nat) (M : sp_Mem) (w1 : Int32) (w2 : Int32) : Option sp_Mem :=
  (fX10_nights F M w1 w2).bind fun x1 => (fX11_nights F x1.2 w1 w2).bind fun x2 => if x1.1 = x2.1 then some x2.2 else none
set_option maxRecDepth 100000 in
set_option maxHeartbeats 4000000 in
theorem hL_36 {g : sp_G} {Ω : sp_Mem → Prop} {Q : sp_Qt} {F mc ms : Nat} {a3 : Int32} {M p : sp_Mem} (hG : sp_Ok Ω) (h1 : vp_in (a3 + 1) (sp_sl g)) (h2 : vp_in (a3 + 2) (sp_sl g)) (h3 : vp_in (a3 + 3) (sp_sl g)) (h4 : vp_in (a3 + 4) (sp_sl g)) (h5 : vp_in (a3 + 5) (sp_sl g)) (h : gL_36 F M (sp_sx g (a3 + 1).toNatClampNeg) (sp_sx g (a3 + 2).toNatClampNeg) = some p) (k : sp_Wp g Ω mL_law mc ms 1333 [some (.ref (1000100 + 101)), some (.ref 0), some (.ref 103), some (.int a3)] [] p Q) : sp_Wp g Ω mL_law mc ms 1185 [some (.ref (1000100 + 101)), some (.ref 0), some (.ref 103), some (.int a3)] [] M Q := by
  unfold gL_36 at h
  refine sp_aload_n dL_law_1185 rfl rfl ?_
  refine sp_aload_n dL_law_1186 rfl rfl ?_
  refine sp_iload_n dL_law_1187 rfl rfl ?_
  refine sp_iconst (v := 1) dL_law_1188 (by decide) ?_
  refine sp_iadd dL_law_1189 ?_
  refine sp_sld dL_law_1190 h1 ?_
  refine sp_aload_n dL_law_1191 rfl rfl ?_
  refine sp_iload_n dL_law_1192 rfl rfl ?_
  refine sp_iconst (v := 2) dL_law_1193 (by decide) ?_
  refine sp_iadd dL_law_1194 ?_
  refine sp_sld dL_law_1195 h2 ?_
  refine sp_use (fun ho => ?_)
  have hs := hG.1 _ ho
  obtain ⟨x1, hx1, h⟩ := Option.bind_eq_some_iff.mp h
  refine sp_cV (M1 := x1.2) (r := some (.int x1.1)) (o := 0) (st := []) (c := 9) (RX10, TX10, 16) [.int (sp_sx g (a3 + 1).toNatClampNeg), .int (sp_sx g (a3 + 2).toNatClampNeg)] [.int (sp_sx g (a3 + 2).toNatClampNeg), .int (sp_sx g (a3 + 1).toNatClampNeg), .ref 0] [.int x1.1] dL_law_1196 okX10_nights tw_1147 tw_1148 tw_1149 (by decide) (by decide) rfl (Nat.le_of_ble_eq_true rfl) rfl rfl rfl rfl (wsI_0 hs) (fun Q hQ => tX10_nights hG hx1 hQ) ?_
  refine sp_aload_n dL_law_1199 rfl rfl ?_
  refine sp_aload_n dL_law_1200 rfl rfl ?_
  refine sp_iload_n dL_law_1201 rfl rfl ?_
  refine sp_iconst (v := 1) dL_law_1202 (by decide) ?_
  refine sp_iadd dL_law_1203 ?_
  refine sp_sld dL_law_1204 h1 ?_
  refine sp_aload_n dL_law_1205 rfl rfl ?_
  refine sp_iload_n dL_law_1206 rfl rfl ?_
  refine sp_iconst (v := 2) dL_law_1207 (by decide) ?_
  refine sp_iadd dL_law_1208 ?_
  refine sp_sld dL_law_1209 h2 ?_
  refine sp_use (fun ho => ?_)
  have hs := hG.1 _ ho
  obtain ⟨x2, hx2, h⟩ := Option.bind_eq_some_iff.mp h
  refine sp_cV (M1 := x2.2) (r := some (.int x2.1)) (o := 103) (st := [.int x1.1]) (c := 10) (RX11, TX11, 56) [.int (sp_sx g (a3 + 1).toNatClampNeg), .int (sp_sx g (a3 + 2).toNatClampNeg)] [.int (sp_sx g (a3 + 2).toNatClampNeg), .int (sp_sx g (a3 + 1).toNatClampNeg), .ref 103, .int x1.1] [.int x2.1, .int x1.1] dL_law_1210 okX11_nights tw_1880 tw_1881 tw_1882 (by decide) (by decide) rfl (Nat.le_of_ble_eq_true rfl) rfl rfl rfl rfl (wsI_103 hs) (fun Q hQ => tX11_nights hG hx2 hQ) ?_
  refine sp_icmp_eq (tgt := 1333) dL_law_1213 (by decide) (fun hc3 => ?_) (fun hc3 => ?_)
  · have h := (if_pos hc3).symm.trans h
    cases h
    exact k
  · have h := (if_neg hc3).symm.trans h
    cases h
def gL_37 (F : Nat) (M : sp_Mem) (w1 : Int32) (w2 : Int32) : Option sp_Mem :=
  (fX10_drawn M w1 w2).bind fun v1 => (fX11_drawn M w1 w2).bind fun x2 => if v1 = x2.1 then some x2.2 else none
set_option maxRecDepth 100000 in
set_option maxHeartbeats 4000000 in
theorem hL_37 {g : sp_G} {Ω : sp_Mem → Prop} {Q : sp_Qt} {F mc ms : Nat} {a3 : Int32} {M p : sp_Mem} (hG : sp_Ok Ω) (h1 : vp_in (a3 + 1) (sp_sl g)) (h2 : vp_in (a3 + 2) (sp_sl g)) (h3 : vp_in (a3 + 3) (sp_sl g)) (h4 : vp_in (a3 + 4) (sp_sl g)) (h5 : vp_in (a3 + 5) (sp_sl g)) (h : gL_37 F M (sp_sx g (a3 + 1).toNatClampNeg) (sp_sx g (a3 + 2).toNatClampNeg) = some p) (k : sp_Wp g Ω mL_law mc ms 1333 [some (.ref (1000100 + 101)), some (.ref 0), some (.ref 103), some (.int a3)] [] p Q) : sp_Wp g Ω mL_law mc ms 1218 [some (.ref (1000100 + 101)), some (.ref 0), some (.ref 103), some (.int a3)] [] M Q := by
  unfold gL_37 at h
  refine sp_aload_n dL_law_1218 rfl rfl ?_
  refine sp_aload_n dL_law_1219 rfl rfl ?_
  refine sp_iload_n dL_law_1220 rfl rfl ?_
  refine sp_iconst (v := 1) dL_law_1221 (by decide) ?_
  refine sp_iadd dL_law_1222 ?_
  refine sp_sld dL_law_1223 h1 ?_
  refine sp_aload_n dL_law_1224 rfl rfl ?_
  refine sp_iload_n dL_law_1225 rfl rfl ?_
  refine sp_iconst (v := 2) dL_law_1226 (by decide) ?_
  refine sp_iadd dL_law_1227 ?_
  refine sp_sld dL_law_1228 h2 ?_
  refine sp_use (fun ho => ?_)
  have hs := hG.1 _ ho
  obtain ⟨v1, hv1, h⟩ := Option.bind_eq_some_iff.mp h
  refine sp_cV (M1 := M) (r := some (.int v1)) (o := 0) (st := []) (c := 9) (RX10, TX10, 16) [.int (sp_sx g (a3 + 1).toNatClampNeg), .int (sp_sx g (a3 + 2).toNatClampNeg)] [.int (sp_sx g (a3 + 2).toNatClampNeg), .int (sp_sx g (a3 + 1).toNatClampNeg), .ref 0] [.int v1] dL_law_1229 okX10_drawn tw_1166 tw_1167 tw_1168 (by decide) (by decide) rfl (Nat.le_of_ble_eq_true rfl) rfl rfl rfl rfl (wsI_0 hs) (fun Q hQ => tX10_drawn hG hv1 hQ) ?_
  refine sp_aload_n dL_law_1232 rfl rfl ?_
  refine sp_aload_n dL_law_1233 rfl rfl ?_
  refine sp_iload_n dL_law_1234 rfl rfl ?_
  refine sp_iconst (v := 1) dL_law_1235 (by decide) ?_
  refine sp_iadd dL_law_1236 ?_
  refine sp_sld dL_law_1237 h1 ?_
  refine sp_aload_n dL_law_1238 rfl rfl ?_
  refine sp_iload_n dL_law_1239 rfl rfl ?_
  refine sp_iconst (v := 2) dL_law_1240 (by decide) ?_
  refine sp_iadd dL_law_1241 ?_
  refine sp_sld dL_law_1242 h2 ?_
  refine sp_use (fun ho => ?_)
  have hs := hG.1 _ ho
  obtain ⟨x2, hx2, h⟩ := Option.bind_eq_some_iff.mp h
  refine sp_cV (M1 := x2.2) (r := some (.int x2.1)) (o := 103) (st := [.int v1]) (c := 10) (RX11, TX11, 56) [.int (sp_sx g (a3 + 1).toNatClampNeg), .int (sp_sx g (a3 + 2).toNatClampNeg)] [.int (sp_sx g (a3 + 2).toNatClampNeg), .int (sp_sx g (a3 + 1).toNatClampNeg), .ref 103, .int v1] [.int x2.1, .int v1] dL_law_1243 okX11_drawn tw_1891 tw_1892 tw_1893 (by decide) (by decide) rfl (Nat.le_of_ble_eq_true rfl) rfl rfl rfl rfl (wsI_103 hs) (fun Q hQ => tX11_drawn hG hx2 hQ) ?_
  refine sp_icmp_eq (tgt := 1333) dL_law_1246 (by decide) (fun hc3 => ?_) (fun hc3 => ?_)
  · have h := (if_pos hc3).symm.trans h
    cases h
    exact k
  · have h := (if_neg hc3).symm.trans h
    cases h
def gL_38 (F : Nat) (M : sp_Mem) (w1 : Int32) : Option sp_Mem :=
  (fX10_image F M w1).bind fun x1 => (fX11_image F x1.2 w1).bind fun x2 => if x1.1 = x2.1 then some x2.2 else none
set_option maxRecDepth 100000 in
set_option maxHeartbeats 4000000 in
theorem hL_38 {g : sp_G} {Ω : sp_Mem → Prop} {Q : sp_Qt} {F mc ms : Nat} {a3 : Int32} {M p : sp_Mem} (hG : sp_Ok Ω) (h1 : vp_in (a3 + 1) (sp_sl g)) (h2 : vp_in (a3 + 2) (sp_sl g)) (h3 : vp_in (a3 + 3) (sp_sl g)) (h4 : vp_in (a3 + 4) (sp_sl g)) (h5 : vp_in (a3 + 5) (sp_sl g)) (h : gL_38 F M (sp_sx g (a3 + 1).toNatClampNeg) = some p) (k : sp_Wp g Ω mL_law mc ms 1333 [some (.ref (1000100 + 101)), some (.ref 0), some (.ref 103), some (.int a3)] [] p Q) : sp_Wp g Ω mL_law mc ms 1251 [some (.ref (1000100 + 101)), some (.ref 0), some (.ref 103), some (.int a3)] [] M Q := by
  unfold gL_38 at h
  refine sp_aload_n dL_law_1251 rfl rfl ?_
  refine sp_aload_n dL_law_1252 rfl rfl ?_
  refine sp_iload_n dL_law_1253 rfl rfl ?_
  refine sp_iconst (v := 1) dL_law_1254 (by decide) ?_
  refine sp_iadd dL_law_1255 ?_
  refine sp_sld dL_law_1256 h1 ?_
  refine sp_use (fun ho => ?_)
  have hs := hG.1 _ ho
  obtain ⟨x1, hx1, h⟩ := Option.bind_eq_some_iff.mp h
  refine sp_cV (M1 := x1.2) (r := some (.int x1.1)) (o := 0) (st := []) (c := 9) (RX10, TX10, 16) [.int (sp_sx g (a3 + 1).toNatClampNeg)] [.int (sp_sx g (a3 + 1).toNatClampNeg), .ref 0] [.int x1.1] dL_law_1257 okX10_image tw_1170 tw_1171 tw_1172 (by decide) (by decide) rfl (Nat.le_of_ble_eq_true rfl) rfl rfl rfl rfl (wsI_0 hs) (fun Q hQ => tX10_image hG hx1 hQ) ?_
  refine sp_aload_n dL_law_1260 rfl rfl ?_
  refine sp_aload_n dL_law_1261 rfl rfl ?_
  refine sp_iload_n dL_law_1262 rfl rfl ?_
  refine sp_iconst (v := 1) dL_law_1263 (by decide) ?_
  refine sp_iadd dL_law_1264 ?_
  refine sp_sld dL_law_1265 h1 ?_
  refine sp_use (fun ho => ?_)
  have hs := hG.1 _ ho
  obtain ⟨x2, hx2, h⟩ := Option.bind_eq_some_iff.mp h
  refine sp_cV (M1 := x2.2) (r := some (.int x2.1)) (o := 103) (st := [.int x1.1]) (c := 10) (RX11, TX11, 56) [.int (sp_sx g (a3 + 1).toNatClampNeg)] [.int (sp_sx g (a3 + 1).toNatClampNeg), .ref 103, .int x1.1] [.int x2.1, .int x1.1] dL_law_1266 okX11_image tw_1396 tw_1397 tw_1398 (by decide) (by decide) rfl (Nat.le_of_ble_eq_true rfl) rfl rfl rfl rfl (wsI_103 hs) (fun Q hQ => tX11_image hG hx2 hQ) ?_
  refine sp_icmp_eq (tgt := 1333) dL_law_1269 (by decide) (fun hc3 => ?_) (fun hc3 => ?_)
  · have h := (if_pos hc3).symm.trans h
    cases h
    exact k
  · have h := (if_neg hc3).symm.trans h
    cases h
def gL_39 (F : Nat) (M : sp_Mem) (w1 : Int32) : Option sp_Mem :=
  (fX10_back F M w1).bind fun x1 => (fX11_back F x1.2 w1).bind fun x2 => if x1.1 = x2.1 then some x2.2 else none
set_option maxRecDepth 100000 in
set_option maxHeartbeats 4000000 in
theorem hL_39 {g : sp_G} {Ω : sp_Mem → Prop} {Q : sp_Qt} {F mc ms : Nat} {a3 : Int32} {M p : sp_Mem} (hG : sp_Ok Ω) (h1 : vp_in (a3 + 1) (sp_sl g)) (h2 : vp_in (a3 + 2) (sp_sl g)) (h3 : vp_in (a3 + 3) (sp_sl g)) (h4 : vp_in (a3 + 4) (sp_sl g)) (h5 : vp_in (a3 + 5) (sp_sl g)) (h : gL_39 F M (sp_sx g (a3 + 1).toNatClampNeg) = some p) (k : sp_Wp g Ω mL_law mc ms 1333 [some (.ref (1000100 + 101)), some (.ref 0), some (.ref 103), some (.int a3)] [] p Q) : sp_Wp g Ω mL_law mc ms 1274 [some (.ref (1000100 + 101)), some (.ref 0), some (.ref 103), some (.int a3)] [] M Q := by
  unfold gL_39 at h
  refine sp_aload_n dL_law_1274 rfl rfl ?_
  refine sp_aload_n dL_law_1275 rfl rfl ?_
  refine sp_iload_n dL_law_1276 rfl rfl ?_
  refine sp_iconst (v := 1) dL_law_1277 (by decide) ?_
  refine sp_iadd dL_law_1278 ?_
  refine sp_sld dL_law_1279 h1 ?_
  refine sp_use (fun ho => ?_)
  have hs := hG.1 _ ho
  obtain ⟨x1, hx1, h⟩ := Option.bind_eq_some_iff.mp h
  refine sp_cV (M1 := x1.2) (r := some (.int x1.1)) (o := 0) (st := []) (c := 9) (RX10, TX10, 16) [.int (sp_sx g (a3 + 1).toNatClampNeg)] [.int (sp_sx g (a3 + 1).toNatClampNeg), .ref 0] [.int x1.1] dL_law_1280 okX10_back tw_1174 tw_1175 tw_1176 (by decide) (by decide) rfl (Nat.le_of_ble_eq_true rfl) rfl rfl rfl rfl (wsI_0 hs) (fun Q hQ => tX10_back hG hx1 hQ) ?_
  refine sp_aload_n dL_law_1283 rfl rfl ?_
  refine sp_aload_n dL_law_1284 rfl rfl ?_
  refine sp_iload_n dL_law_1285 rfl rfl ?_
  refine sp_iconst (v := 1) dL_law_1286 (by decide) ?_
  refine sp_iadd dL_law_1287 ?_
  refine sp_sld dL_law_1288 h1 ?_
  refine sp_use (fun ho => ?_)
  have hs := hG.1 _ ho
  obtain ⟨x2, hx2, h⟩ := Option.bind_eq_some_iff.mp h
  refine sp_cV (M1 := x2.2) (r := some (.int x2.1)) (o := 103) (st := [.int x1.1]) (c := 10) (RX11, TX11, 56) [.int (sp_sx g (a3 + 1).toNatClampNeg)] [.int (sp_sx g (a3 + 1).toNatClampNeg), .ref 103, .int x1.1] [.int x2.1, .int x1.1] dL_law_1289 okX11_back tw_1403 tw_1404 tw_1405 (by decide) (by decide) rfl (Nat.le_of_ble_eq_true rfl) rfl rfl rfl rfl (wsI_103 hs) (fun Q hQ => tX11_back hG hx2 hQ) ?_
  refine sp_icmp_eq (tgt := 1333) dL_law_1292 (by decide) (fun hc3 => ?_) (fun hc3 => ?_)
  · have h := (if_pos hc3).symm.trans h
    cases h
    exact k
  · have h := (if_neg hc3).symm.trans h
    cases h
def gL_40 (F : Nat) (M : sp_Mem) (w1 : Int32) : Option sp_Mem :=
  (fX10_count F M w1).bind fun v1 => (fX11_count F M w1).bind fun x2 => if v1 = x2.1 then some x2.2 else none
set_option maxRecDepth 100000 in
set_option maxHeartbeats 4000000 in
theorem hL_40 {g : sp_G} {Ω : sp_Mem → Prop} {Q : sp_Qt} {F mc ms : Nat} {a3 : Int32} {M p : sp_Mem} (hG : sp_Ok Ω) (h1 : vp_in (a3 + 1) (sp_sl g)) (h2 : vp_in (a3 + 2) (sp_sl g)) (h3 : vp_in (a3 + 3) (sp_sl g)) (h4 : vp_in (a3 + 4) (sp_sl g)) (h5 : vp_in (a3 + 5) (sp_sl g)) (h : gL_40 F M (sp_sx g (a3 + 1).toNatClampNeg) = some p) (k : sp_Wp g Ω mL_law mc ms 1333 [some (.ref (1000100 + 101)), some (.ref 0), some (.ref 103), some (.int a3)] [] p Q) : sp_Wp g Ω mL_law mc ms 1297 [some (.ref (1000100 + 101)), some (.ref 0), some (.ref 103), some (.int a3)] [] M Q := by
  unfold gL_40 at h
  refine sp_aload_n dL_law_1297 rfl rfl ?_
  refine sp_aload_n dL_law_1298 rfl rfl ?_
  refine sp_iload_n dL_law_1299 rfl rfl ?_
  refine sp_iconst (v := 1) dL_law_1300 (by decide) ?_
  refine sp_iadd dL_law_1301 ?_
  refine sp_sld dL_law_1302 h1 ?_
  refine sp_use (fun ho => ?_)
  have hs := hG.1 _ ho
  obtain ⟨v1, hv1, h⟩ := Option.bind_eq_some_iff.mp h
  refine sp_cV (M1 := M) (r := some (.int v1)) (o := 0) (st := []) (c := 9) (RX10, TX10, 16) [.int (sp_sx g (a3 + 1).toNatClampNeg)] [.int (sp_sx g (a3 + 1).toNatClampNeg), .ref 0] [.int v1] dL_law_1303 okX10_count tw_1178 tw_1179 tw_1180 (by decide) (by decide) rfl (Nat.le_of_ble_eq_true rfl) rfl rfl rfl rfl (wsI_0 hs) (fun Q hQ => tX10_count hG hv1 hQ) ?_
  refine sp_aload_n dL_law_1306 rfl rfl ?_
  refine sp_aload_n dL_law_1307 rfl rfl ?_
  refine sp_iload_n dL_law_1308 rfl rfl ?_
  refine sp_iconst (v := 1) dL_law_1309 (by decide) ?_
  refine sp_iadd dL_law_1310 ?_
  refine sp_sld dL_law_1311 h1 ?_
  refine sp_use (fun ho => ?_)
  have hs := hG.1 _ ho
  obtain ⟨x2, hx2, h⟩ := Option.bind_eq_some_iff.mp h
  refine sp_cV (M1 := x2.2) (r := some (.int x2.1)) (o := 103) (st := [.int v1]) (c := 10) (RX11, TX11, 56) [.int (sp_sx g (a3 + 1).toNatClampNeg)] [.int (sp_sx g (a3 + 1).toNatClampNeg), .ref 103, .int v1] [.int x2.1, .int v1] dL_law_1312 okX11_count tw_1895 tw_1896 tw_1897 (by decide) (by decide) rfl (Nat.le_of_ble_eq_true rfl) rfl rfl rfl rfl (wsI_103 hs) (fun Q hQ => tX11_count hG hx2 hQ) ?_
  refine sp_icmp_eq (tgt := 1333) dL_law_1315 (by decide) (fun hc3 => ?_) (fun hc3 => ?_)
  · have h := (if_pos hc3).symm.trans h
    cases h
    exact k
  · have h := (if_neg hc3).symm.trans h
    cases h
def gL_41 (F : Nat) (M : sp_Mem) : Option sp_Mem :=
  (fX11_status M).bind fun x1 => if (fX10_status M) = x1.1 then some x1.2 else none
set_option maxRecDepth 100000 in
set_option maxHeartbeats 4000000 in
theorem hL_41 {g : sp_G} {Ω : sp_Mem → Prop} {Q : sp_Qt} {F mc ms : Nat} {a3 : Int32} {M p : sp_Mem} (hG : sp_Ok Ω) (h1 : vp_in (a3 + 1) (sp_sl g)) (h2 : vp_in (a3 + 2) (sp_sl g)) (h3 : vp_in (a3 + 3) (sp_sl g)) (h4 : vp_in (a3 + 4) (sp_sl g)) (h5 : vp_in (a3 + 5) (sp_sl g)) (h : gL_41 F M = some p) (k : sp_Wp g Ω mL_law mc ms 1333 [some (.ref (1000100 + 101)), some (.ref 0), some (.ref 103), some (.int a3)] [] p Q) : sp_Wp g Ω mL_law mc ms 1320 [some (.ref (1000100 + 101)), some (.ref 0), some (.ref 103), some (.int a3)] [] M Q := by
  unfold gL_41 at h
  refine sp_aload_n dL_law_1320 rfl rfl ?_
  refine sp_use (fun ho => ?_)
  have hs := hG.1 _ ho
  refine sp_cV (M1 := M) (r := some (.int (fX10_status M))) (o := 0) (st := []) (c := 9) (RX10, TX10, 16) [] [.ref 0] [.int (fX10_status M)] dL_law_1321 okX10_status tw_1183 tw_1184 tw_1185 (by decide) (by decide) rfl (Nat.le_of_ble_eq_true rfl) rfl rfl rfl rfl (wsI_0 hs) (fun Q hQ => tX10_status hG rfl hQ) ?_
  refine sp_aload_n dL_law_1324 rfl rfl ?_
  refine sp_use (fun ho => ?_)
  have hs := hG.1 _ ho
  obtain ⟨x1, hx1, h⟩ := Option.bind_eq_some_iff.mp h
  refine sp_cV (M1 := x1.2) (r := some (.int x1.1)) (o := 103) (st := [.int (fX10_status M)]) (c := 10) (RX11, TX11, 56) [] [.ref 103, .int (fX10_status M)] [.int x1.1, .int (fX10_status M)] dL_law_1325 okX11_status tw_1901 tw_1902 tw_1903 (by decide) (by decide) rfl (Nat.le_of_ble_eq_true rfl) rfl rfl rfl rfl (wsI_103 hs) (fun Q hQ => tX11_status hG hx1 hQ) ?_
  refine sp_icmp_eq (tgt := 1333) dL_law_1328 (by decide) (fun hc2 => ?_) (fun hc2 => ?_)
  · have h := (if_pos hc2).symm.trans h
    cases h
    exact k
  · have h := (if_neg hc2).symm.trans h
    cases h
def gL_12 (F : Nat) (M : sp_Mem) : Option (sp_Mem × Nat × Nat) :=
  (fX10_law F M).bind fun x1 => (fX11_law F x1.1.2).bind fun x2 => if x1.1.1 = x2.1 then some (x2.2, x1.2) else none
set_option maxRecDepth 100000 in
set_option maxHeartbeats 4000000 in
theorem hL_12 {g : sp_G} {Ω : sp_Mem → Prop} {Q : sp_Qt} {F mc ms : Nat} {a3 : Int32} {M : sp_Mem} {p : sp_Mem × Nat × Nat} (hG : sp_Ok Ω) (hx : ∀ x, fX10_law F M = some x → sp_n x.1.2 = sp_n M + x.2.1) (h : gL_12 F M = some p) (k : sp_Wp g Ω mL_law mc ms 1333 [some (.ref (1000100 + 101)), some (.ref 0), some (.ref 103), some (.int a3)] [] p.1 Q) : sp_Wp g Ω mL_law (p.2.1 + mc) (p.2.2 + ms) 602 [some (.ref (1000100 + 101)), some (.ref 0), some (.ref 103), some (.int a3)] [] M Q := by
  unfold gL_12 at h
  obtain ⟨x1, hx1, h⟩ := Option.bind_eq_some_iff.mp h
  obtain ⟨x2, hx2, h⟩ := Option.bind_eq_some_iff.mp h
  by_cases he : x1.1.1 = x2.1
  · have h := (if_pos he).symm.trans h
    cases h
    refine sp_aload_n dL_law_602 rfl rfl ?_
    refine sp_use (fun ho => ?_)
    have hs := hG.1 _ ho
    refine sp_callV (μ' := mX10_law) (o := 0) (c := 9) (st := []) (Qc := fun r' M' => r' = some (.int x1.1.1) ∧ M' = x1.1.2) (RX10, TX10, 16) [] dL_law_603 okX10_law tw_635 tw_636 tw_637 (by decide) (by decide) rfl (Nat.le_of_ble_eq_true rfl) (fun _ M' hq _ _ => ?_) rfl rfl (wsI_0 hs) (tX10_law hG hx1 ⟨rfl, rfl⟩) (fun r' M' hq => ?_) [.ref 0] rfl
    · rw [hq.2]; exact hx x1 hx1
    · obtain ⟨rfl, rfl⟩ := hq
      show sp_Wp g Ω mL_law mc ms 606 [some (.ref (1000100 + 101)), some (.ref 0), some (.ref 103), some (.int a3)] [.int x1.1.1] x1.1.2 Q
      refine sp_aload_n dL_law_606 rfl rfl ?_
      refine sp_use (fun ho => ?_)
      have hs := hG.1 _ ho
      refine sp_cV (M1 := x2.2) (r := some (.int x2.1)) (o := 103) (st := [.int x1.1.1]) (c := 10) (RX11, TX11, 56) [] [.ref 103, .int x1.1.1] [.int x2.1, .int x1.1.1] dL_law_607 okX11_law tw_1545 tw_1546 tw_1547 (by decide) (by decide) rfl (Nat.le_of_ble_eq_true rfl) rfl rfl rfl rfl (wsI_103 hs) (fun Q hQ => tX11_law hG hx2 hQ) ?_
      exact sp_icmp_eq (tgt := 1333) dL_law_610 (by decide) (fun _ => k) (fun hc => absurd he hc)
  · have h := (if_neg he).symm.trans h
    cases h
