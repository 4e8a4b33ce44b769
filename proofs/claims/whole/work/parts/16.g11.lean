def fX9_setSlot (M : sp_Mem) (o0 : Nat) (a1 : Int32) (a2 : Int32) : Option sp_Mem :=
  sp_do (((((sp_I M o0 2) - 1) * 5) + a1)) fun u1 => if u1 < 0 then (some M) else (if (Int32.ofNat (sp_N M (o0 + 1))) ≤ u1 then (some M) else ((sp_ix (sp_N M (o0 + 1)) u1).bind fun j4 => sp_do (sp_setI M (o0 + 1) j4 a2) fun M5 => some M5))
set_option maxRecDepth 100000 in
set_option maxHeartbeats 4000000 in
theorem tX9_setSlot {g : sp_G} {Ω : sp_Mem → Prop} {Q : sp_Qt} {p : sp_Mem} (hG : sp_Ok Ω) {o0 : Nat} (ho0 : ∀ M, Ω M → sp_text M o0) {M : sp_Mem} {a1 : Int32} {a2 : Int32} (h : fX9_setSlot M o0 a1 a2 = some p) (hQ : Q none p) : sp_Mt g Ω mX9_setSlot 0 0 [.ref o0, .int a1, .int a2] M Q := by
  unfold fX9_setSlot at h
  refine sp_Mt.of [some (.ref o0), some (.int a1), some (.int a2), none] (by decide) (by simp [sp_ent, Value.category]) rfl ?_
  refine sp_aload_n dX9_setSlot_0 rfl rfl ?_
  refine sp_use (fun ho => ?_)
  have hs := hG.1 _ ho
  refine sp_getI (RX9, TX9, 4) dX9_setSlot_1 clX9 (j := 2) (by decide) tw_371 (ho0 _ ho).1 (Or.inl rfl) ?_
  refine sp_iconst (v := 1) dX9_setSlot_4 (by decide) ?_
  refine sp_isub dX9_setSlot_5 ?_
  refine sp_iconst (v := 5) dX9_setSlot_6 (by decide) ?_
  refine sp_imul dX9_setSlot_7 ?_
  refine sp_iload_n dX9_setSlot_8 rfl rfl ?_
  refine sp_iadd dX9_setSlot_9 ?_
  obtain ⟨u1, hu1, h⟩ := sp_do_e h
  refine sp_topi hu1 ?_
  refine sp_istore_n [some (.ref o0), some (.int a1), some (.int a2), some (.int u1)] dX9_setSlot_10 rfl (by decide) rfl ?_
  refine sp_iload_n dX9_setSlot_11 rfl rfl ?_
  refine sp_if_lt (tgt := 31) dX9_setSlot_12 (by decide) (fun hc2 => ?_) (fun hc2 => ?_)
  · have h := (if_pos hc2).symm.trans h
    cases h
    exact sp_vret dX9_setSlot_31 rfl (fun _ => hQ)
  · have h := (if_neg hc2).symm.trans h
    refine sp_iload_n dX9_setSlot_15 rfl rfl ?_
    refine sp_aload_n dX9_setSlot_16 rfl rfl ?_
    refine sp_getR (RX9, TX9, 4) dX9_setSlot_17 clX9 (j := 0) (by decide) tw_368 (ho0 _ ho).1 (Or.inr ⟨_, rfl⟩) (ho0 _ ho).2.1 ?_
    refine sp_alen 0 (by decide) dX9_setSlot_20 (ho0 _ ho).2.2.2.1 rfl ?_
    refine sp_icmp_ge (tgt := 31) dX9_setSlot_21 (by decide) (fun hc3 => ?_) (fun hc3 => ?_)
    · have h := (if_pos hc3).symm.trans h
      cases h
      exact sp_vret dX9_setSlot_31 rfl (fun _ => hQ)
    · have h := (if_neg hc3).symm.trans h
      refine sp_aload_n dX9_setSlot_24 rfl rfl ?_
      refine sp_getR (RX9, TX9, 4) dX9_setSlot_25 clX9 (j := 0) (by decide) tw_368 (ho0 _ ho).1 (Or.inr ⟨_, rfl⟩) (ho0 _ ho).2.1 ?_
      refine sp_iload_n dX9_setSlot_28 rfl rfl ?_
      refine sp_iload_n dX9_setSlot_29 rfl rfl ?_
      obtain ⟨j4, hj4, h⟩ := Option.bind_eq_some_iff.mp h
      obtain ⟨M5, hM5, h⟩ := sp_do_e h
      refine sp_iast2 (j := j4) hG dX9_setSlot_30 (ho0 _ ho).2.2.2.1 rfl hj4 hM5 ?_
      cases h
      exact sp_vret dX9_setSlot_31 rfl (fun _ => hQ)
def fX2_push (M : sp_Mem) (a1 : Int32) : Option (Int32 × sp_Mem) :=
  if (sp_I M 96 4) < 160 then ((sp_ix 160 (sp_I M 96 4)).bind fun j2 => sp_do (sp_setI M 100 j2 a1) fun M3 => sp_do (sp_setI M3 96 4 ((sp_I M3 96 4) + 1)) fun M4 => some (1, M4)) else (some (0, M))
set_option maxRecDepth 100000 in
set_option maxHeartbeats 4000000 in
theorem tX2_push {g : sp_G} {Ω : sp_Mem → Prop} {Q : sp_Qt} {p : (Int32 × sp_Mem)} (hG : sp_Ok Ω) {M : sp_Mem} {a1 : Int32} (h : fX2_push M a1 = some p) (hQ : Q (some (.int p.1)) p.2) : sp_Mt g Ω mX2_push 0 0 [.ref 96, .int a1] M Q := by
  unfold fX2_push at h
  refine sp_Mt.of [some (.ref 96), some (.int a1)] (by decide) (by simp [sp_ent, Value.category]) rfl ?_
  refine sp_aload_n dX2_push_0 rfl rfl ?_
  refine sp_use (fun ho => ?_)
  have hs := hG.1 _ ho
  refine sp_getI (RX2, TX2, 9) dX2_push_1 clX2 (j := 4) (by decide) tw_391 (wsI_96 hs) (Or.inl rfl) ?_
  refine sp_sipush (v := 160) dX2_push_4 (by decide) ?_
  refine sp_icmp_lt (tgt := 12) dX2_push_7 (by decide) (fun hc1 => ?_) (fun hc1 => ?_)
  · have h := (if_pos hc1).symm.trans h
    refine sp_aload_n dX2_push_12 rfl rfl ?_
    refine sp_getR (RX2, TX2, 9) dX2_push_13 clX2 (j := 2) (by decide) tw_389 (wsI_96 hs) (Or.inr ⟨_, rfl⟩) (wsP_96_2 hs) ?_
    refine sp_aload_n dX2_push_16 rfl rfl ?_
    refine sp_getI (RX2, TX2, 9) dX2_push_17 clX2 (j := 4) (by decide) tw_391 (wsI_96 hs) (Or.inl rfl) ?_
    refine sp_iload_n dX2_push_20 rfl rfl ?_
    obtain ⟨j2, hj2, h⟩ := Option.bind_eq_some_iff.mp h
    obtain ⟨M3, hM3, h⟩ := sp_do_e h
    refine sp_iast2 (j := j2) hG dX2_push_21 (wsA_100 hs) (wsN_100 hs) hj2 hM3 ?_
    refine sp_aload_n dX2_push_22 rfl rfl ?_
    refine sp_dup dX2_push_23 rfl ?_
    refine sp_use (fun ho => ?_)
    have hs := hG.1 _ ho
    refine sp_getI (RX2, TX2, 9) dX2_push_24 clX2 (j := 4) (by decide) tw_391 (wsI_96 hs) (Or.inl rfl) ?_
    refine sp_iconst (v := 1) dX2_push_27 (by decide) ?_
    refine sp_iadd dX2_push_28 ?_
    obtain ⟨M4, hM4, h⟩ := sp_do_e h
    refine sp_putI2 (RX2, TX2, 9) hG dX2_push_29 clX2 (j := 4) (by decide) tw_391 rfl (Or.inl rfl) (wsI_96 hs) hM4 ?_
    refine sp_iconst (v := 1) dX2_push_32 (by decide) ?_
    cases h
    exact sp_iret dX2_push_33 (ty := .boolean) rfl (sp_nz (Or.inr rfl)) (fun _ => hQ)
  · have h := (if_neg hc1).symm.trans h
    refine sp_iconst (v := 0) dX2_push_10 (by decide) ?_
    cases h
    exact sp_iret dX2_push_11 (ty := .boolean) rfl (sp_nz (Or.inl rfl)) (fun _ => hQ)
def fX8_isSign (M0 : sp_Mem) (a1 : Int32) : Option Int32 :=
  if (sp_I M0 94 2) = 3 then ((fX8_byteAt M0 (sp_I M0 94 3)).bind fun v2 => some (if v2 = a1 then 1 else 0)) else (some 0)
set_option maxRecDepth 100000 in
set_option maxHeartbeats 4000000 in
theorem tX8_isSign {g : sp_G} {Ω : sp_Mem → Prop} {Q : sp_Qt} {M0 : sp_Mem} {p : Int32} (hG : sp_Ok Ω) {a1 : Int32} (h : fX8_isSign M0 a1 = some p) (hQ : Q (some (.int p)) M0) : sp_Mt g Ω mX8_isSign 0 0 [.ref 94, .int a1] M0 Q := by
  unfold fX8_isSign at h
  refine sp_Mt.of [some (.ref 94), some (.int a1)] (by decide) (by simp [sp_ent, Value.category]) rfl ?_
  refine sp_aload_n dX8_isSign_0 rfl rfl ?_
  refine sp_use (fun ho => ?_)
  have hs := hG.1 _ ho
  refine sp_getI (RX8, TX8, 5) dX8_isSign_1 clX8 (j := 2) (by decide) tw_341 (wsI_94 hs) (Or.inl rfl) ?_
  refine sp_iconst (v := 3) dX8_isSign_4 (by decide) ?_
  refine sp_icmp_ne (tgt := 24) dX8_isSign_5 (by decide) (fun hc1 => ?_) (fun hc1 => ?_)
  · have h := (if_neg hc1).symm.trans h
    refine sp_iconst (v := 0) dX8_isSign_24 (by decide) ?_
    cases h
    exact sp_iret dX8_isSign_25 (ty := .boolean) rfl (sp_nz (Or.inl rfl)) (fun _ => hQ)
  · have h := (if_pos hc1).symm.trans h
    refine sp_aload_n dX8_isSign_8 rfl rfl ?_
    refine sp_aload_n dX8_isSign_9 rfl rfl ?_
    refine sp_getI (RX8, TX8, 5) dX8_isSign_10 clX8 (j := 3) (by decide) tw_343 (wsI_94 hs) (Or.inl rfl) ?_
    obtain ⟨v2, hv2, h⟩ := Option.bind_eq_some_iff.mp h
    refine sp_cV (M1 := M0) (r := some (.int v2)) (o := 94) (st := []) (c := 7) (RX8, TX8, 5) [.int (sp_I M0 94 3)] [.int (sp_I M0 94 3), .ref 94] [.int v2] dX8_isSign_13 okX8_byteAt tw_655 tw_628 tw_629 (by decide) (by decide) rfl (Nat.le_of_ble_eq_true rfl) rfl rfl rfl rfl (wsI_94 hs) (fun Q hQ => tX8_byteAt hG hv2 hQ) ?_
    refine sp_iload_n dX8_isSign_16 rfl rfl ?_
    suffices hj : sp_Wp g Ω mX8_isSign 0 0 25 [none, none] [.int (if v2 = a1 then 1 else 0)] M0 Q by
      refine sp_icmp_ne (tgt := 24) dX8_isSign_17 (by decide) (fun hc3 => ?_) (fun hc3 => ?_)
      · refine sp_iconst (v := 0) dX8_isSign_24 (by decide) ?_
        refine sp_weak [false, false] [none, none] rfl ?_
        simp only [if_neg hc3] at hj
        exact hj
      · refine sp_iconst (v := 1) dX8_isSign_20 (by decide) ?_
        refine sp_goto (tgt := 25) dX8_isSign_21 (by decide) ?_
        refine sp_weak [false, false] [none, none] rfl ?_
        simp only [if_pos hc3] at hj
        exact hj
    cases h
    exact sp_iret dX8_isSign_25 (ty := .boolean) rfl (sp_nz (by repeat (first | exact Or.inl rfl | exact Or.inr rfl | split))) (fun _ => hQ)
def fX2_top (M0 : sp_Mem) : Option Int32 :=
  if (sp_I M0 96 4) ≤ 0 then (some (-1)) else (if 160 < (sp_I M0 96 4) then (some (-1)) else ((sp_ix 160 ((sp_I M0 96 4) - 1)).bind fun j3 => some (sp_I M0 100 j3)))
set_option maxRecDepth 100000 in
set_option maxHeartbeats 4000000 in
theorem tX2_top {g : sp_G} {Ω : sp_Mem → Prop} {Q : sp_Qt} {M0 : sp_Mem} {p : Int32} (hG : sp_Ok Ω) (h : fX2_top M0 = some p) (hQ : Q (some (.int p)) M0) : sp_Mt g Ω mX2_top 0 0 [.ref 96] M0 Q := by
  unfold fX2_top at h
  refine sp_Mt.of [some (.ref 96)] (by decide) (by simp [sp_ent, Value.category]) rfl ?_
  refine sp_aload_n dX2_top_0 rfl rfl ?_
  refine sp_use (fun ho => ?_)
  have hs := hG.1 _ ho
  refine sp_getI (RX2, TX2, 9) dX2_top_1 clX2 (j := 4) (by decide) tw_391 (wsI_96 hs) (Or.inl rfl) ?_
  refine sp_if_le (tgt := 31) dX2_top_4 (by decide) (fun hc1 => ?_) (fun hc1 => ?_)
  · have h := (if_pos hc1).symm.trans h
    refine sp_iconst (v := (-1)) dX2_top_31 (by decide) ?_
    cases h
    exact sp_iret dX2_top_32 (ty := .int) rfl rfl (fun _ => hQ)
  · have h := (if_neg hc1).symm.trans h
    refine sp_aload_n dX2_top_7 rfl rfl ?_
    refine sp_getI (RX2, TX2, 9) dX2_top_8 clX2 (j := 4) (by decide) tw_391 (wsI_96 hs) (Or.inl rfl) ?_
    refine sp_sipush (v := 160) dX2_top_11 (by decide) ?_
    refine sp_icmp_gt (tgt := 31) dX2_top_14 (by decide) (fun hc2 => ?_) (fun hc2 => ?_)
    · have h := (if_pos hc2).symm.trans h
      refine sp_iconst (v := (-1)) dX2_top_31 (by decide) ?_
      cases h
      exact sp_iret dX2_top_32 (ty := .int) rfl rfl (fun _ => hQ)
    · have h := (if_neg hc2).symm.trans h
      refine sp_aload_n dX2_top_17 rfl rfl ?_
      refine sp_getR (RX2, TX2, 9) dX2_top_18 clX2 (j := 2) (by decide) tw_389 (wsI_96 hs) (Or.inr ⟨_, rfl⟩) (wsP_96_2 hs) ?_
      refine sp_aload_n dX2_top_21 rfl rfl ?_
      refine sp_getI (RX2, TX2, 9) dX2_top_22 clX2 (j := 4) (by decide) tw_391 (wsI_96 hs) (Or.inl rfl) ?_
      refine sp_iconst (v := 1) dX2_top_25 (by decide) ?_
      refine sp_isub dX2_top_26 ?_
      obtain ⟨j3, hj3, h⟩ := Option.bind_eq_some_iff.mp h
      refine sp_iald2 (j := j3) dX2_top_27 (wsA_100 hs) (wsN_100 hs) hj3 ?_
      refine sp_goto (tgt := 32) dX2_top_28 (by decide) ?_
      cases h
      exact sp_iret dX2_top_32 (ty := .int) rfl rfl (fun _ => hQ)
def fX2_bindingOf (a0 : Int32) : Int32 :=
  if a0 = 3 then (5) else if a0 = 4 then (5) else if a0 = 5 then (6) else if a0 = 6 then (6) else if a0 = 7 then (6) else if a0 = 8 then (4) else if a0 = 9 then (4) else if a0 = 10 then (4) else if a0 = 11 then (3) else if a0 = 12 then (2) else if a0 = 13 then (1) else (0)
set_option maxRecDepth 100000 in
set_option maxHeartbeats 4000000 in
theorem tX2_bindingOf {g : sp_G} {Ω : sp_Mem → Prop} {Q : sp_Qt} {M0 : sp_Mem} {p : Int32} (hG : sp_Ok Ω) {a0 : Int32} (h : fX2_bindingOf a0 = p) (hQ : Q (some (.int p)) M0) : sp_Mt g Ω mX2_bindingOf 0 0 [.int a0] M0 Q := by
  unfold fX2_bindingOf at h
  refine sp_Mt.of [some (.int a0)] (by decide) (by simp [sp_ent, Value.category]) rfl ?_
  refine sp_iload_n dX2_bindingOf_0 rfl rfl ?_
  by_cases hc1 : a0 = 3
  · have h := (if_pos hc1).symm.trans h
    refine sp_tswI (tgt := 68) dX2_bindingOf_1 (by rw [hc1]; decide) (by rw [hc1]; decide) (by rw [hc1]; rfl) (by decide) ?_
    refine sp_iconst (v := 5) dX2_bindingOf_68 (by decide) ?_
    cases h
    exact sp_iret dX2_bindingOf_69 (ty := .int) rfl rfl (fun _ => hQ)
  have h := (if_neg hc1).symm.trans h
  by_cases hc2 : a0 = 4
  · have h := (if_pos hc2).symm.trans h
    refine sp_tswI (tgt := 68) dX2_bindingOf_1 (by rw [hc2]; decide) (by rw [hc2]; decide) (by rw [hc2]; rfl) (by decide) ?_
    refine sp_iconst (v := 5) dX2_bindingOf_68 (by decide) ?_
    cases h
    exact sp_iret dX2_bindingOf_69 (ty := .int) rfl rfl (fun _ => hQ)
  have h := (if_neg hc2).symm.trans h
  by_cases hc3 : a0 = 5
  · have h := (if_pos hc3).symm.trans h
    refine sp_tswI (tgt := 70) dX2_bindingOf_1 (by rw [hc3]; decide) (by rw [hc3]; decide) (by rw [hc3]; rfl) (by decide) ?_
    refine sp_bipush (v := 6) dX2_bindingOf_70 (by decide) ?_
    cases h
    exact sp_iret dX2_bindingOf_72 (ty := .int) rfl rfl (fun _ => hQ)
  have h := (if_neg hc3).symm.trans h
  by_cases hc4 : a0 = 6
  · have h := (if_pos hc4).symm.trans h
    refine sp_tswI (tgt := 70) dX2_bindingOf_1 (by rw [hc4]; decide) (by rw [hc4]; decide) (by rw [hc4]; rfl) (by decide) ?_
    refine sp_bipush (v := 6) dX2_bindingOf_70 (by decide) ?_
    cases h
    exact sp_iret dX2_bindingOf_72 (ty := .int) rfl rfl (fun _ => hQ)
  have h := (if_neg hc4).symm.trans h
  by_cases hc5 : a0 = 7
  · have h := (if_pos hc5).symm.trans h
    refine sp_tswI (tgt := 70) dX2_bindingOf_1 (by rw [hc5]; decide) (by rw [hc5]; decide) (by rw [hc5]; rfl) (by decide) ?_
    refine sp_bipush (v := 6) dX2_bindingOf_70 (by decide) ?_
    cases h
    exact sp_iret dX2_bindingOf_72 (ty := .int) rfl rfl (fun _ => hQ)
  have h := (if_neg hc5).symm.trans h
  by_cases hc6 : a0 = 8
  · have h := (if_pos hc6).symm.trans h
    refine sp_tswI (tgt := 66) dX2_bindingOf_1 (by rw [hc6]; decide) (by rw [hc6]; decide) (by rw [hc6]; rfl) (by decide) ?_
    refine sp_iconst (v := 4) dX2_bindingOf_66 (by decide) ?_
    cases h
    exact sp_iret dX2_bindingOf_67 (ty := .int) rfl rfl (fun _ => hQ)
  have h := (if_neg hc6).symm.trans h
  by_cases hc7 : a0 = 9
  · have h := (if_pos hc7).symm.trans h
    refine sp_tswI (tgt := 66) dX2_bindingOf_1 (by rw [hc7]; decide) (by rw [hc7]; decide) (by rw [hc7]; rfl) (by decide) ?_
    refine sp_iconst (v := 4) dX2_bindingOf_66 (by decide) ?_
    cases h
    exact sp_iret dX2_bindingOf_67 (ty := .int) rfl rfl (fun _ => hQ)
  have h := (if_neg hc7).symm.trans h
  by_cases hc8 : a0 = 10
  · have h := (if_pos hc8).symm.trans h
    refine sp_tswI (tgt := 66) dX2_bindingOf_1 (by rw [hc8]; decide) (by rw [hc8]; decide) (by rw [hc8]; rfl) (by decide) ?_
    refine sp_iconst (v := 4) dX2_bindingOf_66 (by decide) ?_
    cases h
    exact sp_iret dX2_bindingOf_67 (ty := .int) rfl rfl (fun _ => hQ)
  have h := (if_neg hc8).symm.trans h
  by_cases hc9 : a0 = 11
  · have h := (if_pos hc9).symm.trans h
    refine sp_tswI (tgt := 64) dX2_bindingOf_1 (by rw [hc9]; decide) (by rw [hc9]; decide) (by rw [hc9]; rfl) (by decide) ?_
    refine sp_iconst (v := 3) dX2_bindingOf_64 (by decide) ?_
    cases h
    exact sp_iret dX2_bindingOf_65 (ty := .int) rfl rfl (fun _ => hQ)
  have h := (if_neg hc9).symm.trans h
  by_cases hc10 : a0 = 12
  · have h := (if_pos hc10).symm.trans h
    refine sp_tswI (tgt := 62) dX2_bindingOf_1 (by rw [hc10]; decide) (by rw [hc10]; decide) (by rw [hc10]; rfl) (by decide) ?_
    refine sp_iconst (v := 2) dX2_bindingOf_62 (by decide) ?_
    cases h
    exact sp_iret dX2_bindingOf_63 (ty := .int) rfl rfl (fun _ => hQ)
  have h := (if_neg hc10).symm.trans h
  by_cases hc11 : a0 = 13
  · have h := (if_pos hc11).symm.trans h
    refine sp_tswI (tgt := 60) dX2_bindingOf_1 (by rw [hc11]; decide) (by rw [hc11]; decide) (by rw [hc11]; rfl) (by decide) ?_
    refine sp_iconst (v := 1) dX2_bindingOf_60 (by decide) ?_
    cases h
    exact sp_iret dX2_bindingOf_61 (ty := .int) rfl rfl (fun _ => hQ)
  have h := (if_neg hc11).symm.trans h
  have hc1 := sp_ne hc1 (show (3 : Int32).toInt = 3 by decide)
  have hc2 := sp_ne hc2 (show (4 : Int32).toInt = 4 by decide)
  have hc3 := sp_ne hc3 (show (5 : Int32).toInt = 5 by decide)
  have hc4 := sp_ne hc4 (show (6 : Int32).toInt = 6 by decide)
  have hc5 := sp_ne hc5 (show (7 : Int32).toInt = 7 by decide)
  have hc6 := sp_ne hc6 (show (8 : Int32).toInt = 8 by decide)
  have hc7 := sp_ne hc7 (show (9 : Int32).toInt = 9 by decide)
  have hc8 := sp_ne hc8 (show (10 : Int32).toInt = 10 by decide)
  have hc9 := sp_ne hc9 (show (11 : Int32).toInt = 11 by decide)
  have hc10 := sp_ne hc10 (show (12 : Int32).toInt = 12 by decide)
  have hc11 := sp_ne hc11 (show (13 : Int32).toInt = 13 by decide)
  refine sp_tswO (tgt := 73) dX2_bindingOf_1 (by omega) (by decide) ?_
  refine sp_iconst (v := 0) dX2_bindingOf_73 (by decide) ?_
  cases h
  exact sp_iret dX2_bindingOf_74 (ty := .int) rfl rfl (fun _ => hQ)
def fX2_canTestBegin (M0 : sp_Mem) : Option Int32 :=
  (fX2_top M0).bind fun v1 => if v1 = 21 then (some 1) else (if v1 = 23 then (some 1) else (some (if (fX10_isWithin (fX2_bindingOf v1) 1 3) = 0 then 0 else 1)))
set_option maxRecDepth 100000 in
set_option maxHeartbeats 4000000 in
theorem tX2_canTestBegin {g : sp_G} {Ω : sp_Mem → Prop} {Q : sp_Qt} {M0 : sp_Mem} {p : Int32} (hG : sp_Ok Ω) (h : fX2_canTestBegin M0 = some p) (hQ : Q (some (.int p)) M0) : sp_Mt g Ω mX2_canTestBegin 0 0 [.ref 96] M0 Q := by
  unfold fX2_canTestBegin at h
  refine sp_Mt.of [some (.ref 96), none] (by decide) (by simp [sp_ent, Value.category]) rfl ?_
  refine sp_aload_n dX2_canTestBegin_0 rfl rfl ?_
  refine sp_use (fun ho => ?_)
  have hs := hG.1 _ ho
  obtain ⟨v1, hv1, h⟩ := Option.bind_eq_some_iff.mp h
  refine sp_cV (M1 := M0) (r := some (.int v1)) (o := 96) (st := []) (c := 2) (RX2, TX2, 9) [] [.ref 96] [.int v1] dX2_canTestBegin_1 okX2_top tw_747 tw_749 tw_9 (by decide) (by decide) rfl (Nat.le_of_ble_eq_true rfl) rfl rfl rfl rfl (wsI_96 hs) (fun Q hQ => tX2_top hG hv1 hQ) ?_
  refine sp_istore_n [some (.ref 96), some (.int v1)] dX2_canTestBegin_4 rfl (by decide) rfl ?_
  refine sp_iload_n dX2_canTestBegin_5 rfl rfl ?_
  refine sp_bipush (v := 21) dX2_canTestBegin_6 (by decide) ?_
  refine sp_icmp_eq (tgt := 29) dX2_canTestBegin_8 (by decide) (fun hc2 => ?_) (fun hc2 => ?_)
  · have h := (if_pos hc2).symm.trans h
    refine sp_iconst (v := 1) dX2_canTestBegin_29 (by decide) ?_
    refine sp_goto (tgt := 34) dX2_canTestBegin_30 (by decide) ?_
    cases h
    exact sp_iret dX2_canTestBegin_34 (ty := .boolean) rfl (sp_nz (Or.inr rfl)) (fun _ => hQ)
  · have h := (if_neg hc2).symm.trans h
    refine sp_iload_n dX2_canTestBegin_11 rfl rfl ?_
    refine sp_bipush (v := 23) dX2_canTestBegin_12 (by decide) ?_
    refine sp_icmp_eq (tgt := 29) dX2_canTestBegin_14 (by decide) (fun hc3 => ?_) (fun hc3 => ?_)
    · have h := (if_pos hc3).symm.trans h
      refine sp_iconst (v := 1) dX2_canTestBegin_29 (by decide) ?_
      refine sp_goto (tgt := 34) dX2_canTestBegin_30 (by decide) ?_
      cases h
      exact sp_iret dX2_canTestBegin_34 (ty := .boolean) rfl (sp_nz (Or.inr rfl)) (fun _ => hQ)
    · have h := (if_neg hc3).symm.trans h
      refine sp_iload_n dX2_canTestBegin_17 rfl rfl ?_
      refine sp_cS (M1 := M0) (r := some (.int (fX2_bindingOf v1))) (st := []) [.int v1] [.int v1] [.int (fX2_bindingOf v1)] dX2_canTestBegin_18 okX2_bindingOf tw_751 tw_752 (by decide) (by decide) rfl (Nat.le_of_ble_eq_true rfl) rfl rfl (fun Q hQ => tX2_bindingOf hG rfl hQ) ?_
      refine sp_iconst (v := 1) dX2_canTestBegin_21 (by decide) ?_
      refine sp_iconst (v := 3) dX2_canTestBegin_22 (by decide) ?_
      refine sp_cSN (M1 := M0) (r := some (.int (fX10_isWithin (fX2_bindingOf v1) 1 3))) (st := []) [.int (fX2_bindingOf v1), .int 1, .int 3] [.int 3, .int 1, .int (fX2_bindingOf v1)] [.int (fX10_isWithin (fX2_bindingOf v1) 1 3)] dX2_canTestBegin_23 okX10_isWithin (by decide +kernel) tw_472 (by decide) (by decide) rfl (Nat.le_of_ble_eq_true rfl) rfl rfl (fun Q hQ => tX10_isWithin hG rfl hQ) ?_
      suffices hj : sp_Wp g Ω mX2_canTestBegin 0 0 34 [none, none] [.int (if (fX10_isWithin (fX2_bindingOf v1) 1 3) = 0 then 0 else 1)] M0 Q by
        refine sp_if_eq (tgt := 33) dX2_canTestBegin_26 (by decide) (fun hc4 => ?_) (fun hc4 => ?_)
        · refine sp_iconst (v := 0) dX2_canTestBegin_33 (by decide) ?_
          refine sp_weak [false, false] [none, none] rfl ?_
          simp only [if_pos hc4] at hj
          exact hj
        · refine sp_iconst (v := 1) dX2_canTestBegin_29 (by decide) ?_
          refine sp_goto (tgt := 34) dX2_canTestBegin_30 (by decide) ?_
          refine sp_weak [false, false] [none, none] rfl ?_
          simp only [if_neg hc4] at hj
          exact hj
      cases h
      exact sp_iret dX2_canTestBegin_34 (ty := .boolean) rfl (sp_nz (by repeat (first | exact Or.inl rfl | exact Or.inr rfl | split))) (fun _ => hQ)
def fX2_opens_j136 (F : Nat) (a1 : Int32) (M : sp_Mem) : Option (Int32 × sp_Mem) :=
  sp_do (sp_setI M 96 5 ((sp_I M 96 5) + (if a1 = 0 then 1 else 0))) fun M15 => (fX8_toNext F M15).bind fun M16 => some (1, M16)
def fX2_opens_j128 (F : Nat) (a1 : Int32) (s0 : Int32) (M : sp_Mem) : Option (Int32 × sp_Mem) :=
  (fX2_push M s0).bind fun x12 => if x12.1 = 0 then (some (0, x12.2)) else (fX2_opens_j136 F a1 x12.2)
def fX2_opens_j107 (F : Nat) (a1 : Int32) (a2 : Int32) (M : sp_Mem) : Option (Int32 × sp_Mem) :=
  fX2_opens_j128 F a1 (if a1 = 0 then (if a2 = 0 then 22 else 23) else 11) M
def fX2_opens_j94 (F : Nat) (a1 : Int32) (a2 : Int32) (M : sp_Mem) : Option (Int32 × sp_Mem) :=
  if a1 = 0 then (if 8 ≤ (sp_I M 96 5) then (some (0, M)) else (fX2_opens_j107 F a1 a2 M)) else (fX2_opens_j107 F a1 a2 M)
def fX2_opens_j68 (F : Nat) (a1 : Int32) (a2 : Int32) (M : sp_Mem) : Option (Int32 × sp_Mem) :=
  if a1 = 0 then (fX2_opens_j94 F a1 a2 M) else ((fX2_top M).bind fun v18 => if v18 = 11 then (sp_do (sp_setI M 96 4 ((sp_I M 96 4) - 1)) fun M20 => fX2_opens_j136 F a1 M20) else (fX2_opens_j94 F a1 a2 M))
def fX2_opens_j59 (F : Nat) (a1 : Int32) (a2 : Int32) (M : sp_Mem) : Option (Int32 × sp_Mem) :=
  (fX2_canTestBegin M).bind fun v6 => if v6 = 0 then (some (0, M)) else (fX2_opens_j68 F a1 a2 M)
def fX2_opens_j51 (F : Nat) (a1 : Int32) (a2 : Int32) (M : sp_Mem) : Option (Int32 × sp_Mem) :=
  if a1 = 0 then (if a2 = 0 then (fX2_opens_j68 F a1 a2 M) else (fX2_opens_j59 F a1 a2 M)) else (fX2_opens_j59 F a1 a2 M)
def fX2_opens_j18 (F : Nat) (s0 : Int32) (M : sp_Mem) : Option (Int32 × sp_Mem) :=
  (fX8_isSign M 40).bind fun v3 => if s0 = 0 then (if v3 = 0 then ((fX8_isSign M 91).bind fun v23 => if v23 = 0 then (some (0, M)) else (fX2_opens_j51 F s0 v3 M)) else (fX2_opens_j51 F s0 v3 M)) else (fX2_opens_j51 F s0 v3 M)
def fX2_opens (F : Nat) (M : sp_Mem) : Option (Int32 × sp_Mem) :=
  (fX8_placeIn F M 6).bind fun v1 => fX2_opens_j18 F (if v1 = (-1) then 0 else 1) M
set_option maxRecDepth 100000 in
set_option maxHeartbeats 4000000 in
theorem tX2_opens_j136 {g : sp_G} {Ω : sp_Mem → Prop} {Q : sp_Qt} {F : Nat} {p : (Int32 × sp_Mem)} (hG : sp_Ok Ω)  (hQ : Q (some (.int p.1)) p.2) (a1 : Int32) (M : sp_Mem) (h : fX2_opens_j136 F a1 M = some p) : sp_Wp g Ω mX2_opens 0 0 136 [some (.ref 96), some (.int a1), none] [] M Q := by
  unfold fX2_opens_j136 at h
  refine sp_aload_n dX2_opens_136 rfl rfl ?_
  refine sp_dup dX2_opens_137 rfl ?_
  refine sp_use (fun ho => ?_)
  have hs := hG.1 _ ho
  refine sp_getI (RX2, TX2, 9) dX2_opens_138 clX2 (j := 5) (by decide) tw_392 (wsI_96 hs) (Or.inl rfl) ?_
  refine sp_iload_n dX2_opens_141 rfl rfl ?_
  suffices hj : sp_Wp g Ω mX2_opens 0 0 150 [some (.ref 96), none, none] [.int (if a1 = 0 then 1 else 0), .int (sp_I M 96 5), .ref 96] M Q by
    refine sp_if_eq (tgt := 149) dX2_opens_142 (by decide) (fun hc14 => ?_) (fun hc14 => ?_)
    · refine sp_iconst (v := 1) dX2_opens_149 (by decide) ?_
      refine sp_weak [true, false, false] [some (.ref 96), none, none] rfl ?_
      simp only [if_pos hc14] at hj
      exact hj
    · refine sp_iconst (v := 0) dX2_opens_145 (by decide) ?_
      refine sp_goto (tgt := 150) dX2_opens_146 (by decide) ?_
      refine sp_weak [true, false, false] [some (.ref 96), none, none] rfl ?_
      simp only [if_neg hc14] at hj
      exact hj
  refine sp_iadd dX2_opens_150 ?_
  obtain ⟨M15, hM15, h⟩ := sp_do_e h
  refine sp_putI2 (RX2, TX2, 9) hG dX2_opens_151 clX2 (j := 5) (by decide) tw_392 rfl (Or.inl rfl) (wsI_96 hs) hM15 ?_
  refine sp_aload_n dX2_opens_154 rfl rfl ?_
  refine sp_use (fun ho => ?_)
  have hs := hG.1 _ ho
  refine sp_getR (RX2, TX2, 9) dX2_opens_155 clX2 (j := 0) (by decide) tw_386 (wsI_96 hs) (Or.inl ⟨_, rfl⟩) (wsP_96_0 hs) ?_
  obtain ⟨M16, hM16, h⟩ := Option.bind_eq_some_iff.mp h
  refine sp_cV (M1 := M16) (r := none) (o := 94) (st := []) (c := 7) (RX8, TX8, 5) [] [.ref 94] [] dX2_opens_158 okX8_toNext tw_721 tw_652 tw_653 (by decide) (by decide) rfl (Nat.le_of_ble_eq_true rfl) rfl rfl rfl rfl (wsI_94 hs) (fun Q hQ => tX8_toNext hG hM16 hQ) ?_
  refine sp_iconst (v := 1) dX2_opens_161 (by decide) ?_
  cases h
  exact sp_iret dX2_opens_162 (ty := .boolean) rfl (sp_nz (Or.inr rfl)) (fun _ => hQ)
set_option maxRecDepth 100000 in
set_option maxHeartbeats 4000000 in
theorem tX2_opens_j128 {g : sp_G} {Ω : sp_Mem → Prop} {Q : sp_Qt} {F : Nat} {p : (Int32 × sp_Mem)} (hG : sp_Ok Ω)  (hQ : Q (some (.int p.1)) p.2) (a1 : Int32) (s0 : Int32) (M : sp_Mem) (h : fX2_opens_j128 F a1 s0 M = some p) : sp_Wp g Ω mX2_opens 0 0 128 [some (.ref 96), some (.int a1), none] [.int s0, .ref 96] M Q := by
  unfold fX2_opens_j128 at h
  refine sp_use (fun ho => ?_)
  have hs := hG.1 _ ho
  obtain ⟨x12, hx12, h⟩ := Option.bind_eq_some_iff.mp h
  refine sp_cV (M1 := x12.2) (r := some (.int x12.1)) (o := 96) (st := []) (c := 2) (RX2, TX2, 9) [.int s0] [.int s0, .ref 96] [.int x12.1] dX2_opens_128 okX2_push tw_730 tw_732 tw_6 (by decide) (by decide) rfl (Nat.le_of_ble_eq_true rfl) rfl rfl rfl rfl (wsI_96 hs) (fun Q hQ => tX2_push hG hx12 hQ) ?_
  refine sp_if_ne (tgt := 136) dX2_opens_131 (by decide) (fun hc13 => ?_) (fun hc13 => ?_)
  · have h := (if_neg hc13).symm.trans h
    refine sp_weak [true, true, false] [some (.ref 96), some (.int a1), none] rfl ?_
    exact tX2_opens_j136 hG hQ _ _ h
  · have h := (if_pos hc13).symm.trans h
    refine sp_iconst (v := 0) dX2_opens_134 (by decide) ?_
    cases h
    exact sp_iret dX2_opens_135 (ty := .boolean) rfl (sp_nz (Or.inl rfl)) (fun _ => hQ)
set_option maxRecDepth 100000 in
set_option maxHeartbeats 4000000 in
theorem tX2_opens_j107 {g : sp_G} {Ω : sp_Mem → Prop} {Q : sp_Qt} {F : Nat} {p : (Int32 × sp_Mem)} (hG : sp_Ok Ω)  (hQ : Q (some (.int p.1)) p.2) (a1 : Int32) (a2 : Int32) (M : sp_Mem) (h : fX2_opens_j107 F a1 a2 M = some p) : sp_Wp g Ω mX2_opens 0 0 107 [some (.ref 96), some (.int a1), some (.int a2)] [] M Q := by
  unfold fX2_opens_j107 at h
  refine sp_aload_n dX2_opens_107 rfl rfl ?_
  refine sp_iload_n dX2_opens_108 rfl rfl ?_
  suffices hj : sp_Wp g Ω mX2_opens 0 0 128 [some (.ref 96), some (.int a1), none] [.int (if a1 = 0 then (if a2 = 0 then 22 else 23) else 11), .ref 96] M Q by
    refine sp_if_eq (tgt := 117) dX2_opens_109 (by decide) (fun hc10 => ?_) (fun hc10 => ?_)
    · refine sp_iload_n dX2_opens_117 rfl rfl ?_
      refine sp_if_eq (tgt := 126) dX2_opens_118 (by decide) (fun hc11 => ?_) (fun hc11 => ?_)
      · refine sp_bipush (v := 22) dX2_opens_126 (by decide) ?_
        refine sp_weak [true, true, false] [some (.ref 96), some (.int a1), none] rfl ?_
        simp only [if_pos hc10, if_pos hc11] at hj
        exact hj
      · refine sp_bipush (v := 23) dX2_opens_121 (by decide) ?_
        refine sp_goto (tgt := 128) dX2_opens_123 (by decide) ?_
        refine sp_weak [true, true, false] [some (.ref 96), some (.int a1), none] rfl ?_
        simp only [if_pos hc10, if_neg hc11] at hj
        exact hj
    · refine sp_bipush (v := 11) dX2_opens_112 (by decide) ?_
      refine sp_goto (tgt := 128) dX2_opens_114 (by decide) ?_
      refine sp_weak [true, true, false] [some (.ref 96), some (.int a1), none] rfl ?_
      simp only [if_neg hc10] at hj
      exact hj
  refine sp_weak [true, true, false] [some (.ref 96), some (.int a1), none] rfl ?_
  exact tX2_opens_j128 hG hQ _ _ _ h
set_option maxRecDepth 100000 in
set_option maxHeartbeats 4000000 in
theorem tX2_opens_j94 {g : sp_G} {Ω : sp_Mem → Prop} {Q : sp_Qt} {F : Nat} {p : (Int32 × sp_Mem)} (hG : sp_Ok Ω)  (hQ : Q (some (.int p.1)) p.2) (a1 : Int32) (a2 : Int32) (M : sp_Mem) (h : fX2_opens_j94 F a1 a2 M = some p) : sp_Wp g Ω mX2_opens 0 0 94 [some (.ref 96), some (.int a1), some (.int a2)] [] M Q := by
  unfold fX2_opens_j94 at h
  refine sp_iload_n dX2_opens_94 rfl rfl ?_
  refine sp_if_ne (tgt := 107) dX2_opens_95 (by decide) (fun hc9 => ?_) (fun hc9 => ?_)
  · have h := (if_neg hc9).symm.trans h
    refine sp_weak [true, true, true] [some (.ref 96), some (.int a1), some (.int a2)] rfl ?_
    exact tX2_opens_j107 hG hQ _ _ _ h
  · have h := (if_pos hc9).symm.trans h
    refine sp_aload_n dX2_opens_98 rfl rfl ?_
    refine sp_use (fun ho => ?_)
    have hs := hG.1 _ ho
    refine sp_getI (RX2, TX2, 9) dX2_opens_99 clX2 (j := 5) (by decide) tw_392 (wsI_96 hs) (Or.inl rfl) ?_
    refine sp_bipush (v := 8) dX2_opens_102 (by decide) ?_
    refine sp_icmp_ge (tgt := 134) dX2_opens_104 (by decide) (fun hc17 => ?_) (fun hc17 => ?_)
    · have h := (if_pos hc17).symm.trans h
      refine sp_iconst (v := 0) dX2_opens_134 (by decide) ?_
      cases h
      exact sp_iret dX2_opens_135 (ty := .boolean) rfl (sp_nz (Or.inl rfl)) (fun _ => hQ)
    · have h := (if_neg hc17).symm.trans h
      refine sp_weak [true, true, true] [some (.ref 96), some (.int a1), some (.int a2)] rfl ?_
      exact tX2_opens_j107 hG hQ _ _ _ h
set_option maxRecDepth 100000 in
set_option maxHeartbeats 4000000 in
theorem tX2_opens_j68 {g : sp_G} {Ω : sp_Mem → Prop} {Q : sp_Qt} {F : Nat} {p : (Int32 × sp_Mem)} (hG : sp_Ok Ω)  (hQ : Q (some (.int p.1)) p.2) (a1 : Int32) (a2 : Int32) (M : sp_Mem) (h : fX2_opens_j68 F a1 a2 M = some p) : sp_Wp g Ω mX2_opens 0 0 68 [some (.ref 96), some (.int a1), some (.int a2)] [] M Q := by
  unfold fX2_opens_j68 at h
  refine sp_iload_n dX2_opens_68 rfl rfl ?_
  refine sp_if_eq (tgt := 94) dX2_opens_69 (by decide) (fun hc8 => ?_) (fun hc8 => ?_)
  · have h := (if_pos hc8).symm.trans h
    refine sp_weak [true, true, true] [some (.ref 96), some (.int a1), some (.int a2)] rfl ?_
    exact tX2_opens_j94 hG hQ _ _ _ h
  · have h := (if_neg hc8).symm.trans h
    refine sp_aload_n dX2_opens_72 rfl rfl ?_
    refine sp_use (fun ho => ?_)
    have hs := hG.1 _ ho
    obtain ⟨v18, hv18, h⟩ := Option.bind_eq_some_iff.mp h
    refine sp_cV (M1 := M) (r := some (.int v18)) (o := 96) (st := []) (c := 2) (RX2, TX2, 9) [] [.ref 96] [.int v18] dX2_opens_73 okX2_top tw_747 tw_749 tw_9 (by decide) (by decide) rfl (Nat.le_of_ble_eq_true rfl) rfl rfl rfl rfl (wsI_96 hs) (fun Q hQ => tX2_top hG hv18 hQ) ?_
    refine sp_bipush (v := 11) dX2_opens_76 (by decide) ?_
    refine sp_icmp_ne (tgt := 94) dX2_opens_78 (by decide) (fun hc19 => ?_) (fun hc19 => ?_)
    · have h := (if_neg hc19).symm.trans h
      refine sp_weak [true, true, true] [some (.ref 96), some (.int a1), some (.int a2)] rfl ?_
      exact tX2_opens_j94 hG hQ _ _ _ h
    · have h := (if_pos hc19).symm.trans h
      refine sp_aload_n dX2_opens_81 rfl rfl ?_
      refine sp_dup dX2_opens_82 rfl ?_
      refine sp_getI (RX2, TX2, 9) dX2_opens_83 clX2 (j := 4) (by decide) tw_391 (wsI_96 hs) (Or.inl rfl) ?_
      refine sp_iconst (v := 1) dX2_opens_86 (by decide) ?_
      refine sp_isub dX2_opens_87 ?_
      obtain ⟨M20, hM20, h⟩ := sp_do_e h
      refine sp_putI2 (RX2, TX2, 9) hG dX2_opens_88 clX2 (j := 4) (by decide) tw_391 rfl (Or.inl rfl) (wsI_96 hs) hM20 ?_
      refine sp_goto (tgt := 136) dX2_opens_91 (by decide) ?_
      refine sp_weak [true, true, false] [some (.ref 96), some (.int a1), none] rfl ?_
      exact tX2_opens_j136 hG hQ _ _ h
set_option maxRecDepth 100000 in
set_option maxHeartbeats 4000000 in
theorem tX2_opens_j59 {g : sp_G} {Ω : sp_Mem → Prop} {Q : sp_Qt} {F : Nat} {p : (Int32 × sp_Mem)} (hG : sp_Ok Ω)  (hQ : Q (some (.int p.1)) p.2) (a1 : Int32) (a2 : Int32) (M : sp_Mem) (h : fX2_opens_j59 F a1 a2 M = some p) : sp_Wp g Ω mX2_opens 0 0 59 [some (.ref 96), some (.int a1), some (.int a2)] [] M Q := by
  unfold fX2_opens_j59 at h
  refine sp_aload_n dX2_opens_59 rfl rfl ?_
  refine sp_use (fun ho => ?_)
  have hs := hG.1 _ ho
  obtain ⟨v6, hv6, h⟩ := Option.bind_eq_some_iff.mp h
  refine sp_cV (M1 := M) (r := some (.int v6)) (o := 96) (st := []) (c := 2) (RX2, TX2, 9) [] [.ref 96] [.int v6] dX2_opens_60 okX2_canTestBegin tw_743 tw_745 tw_8 (by decide) (by decide) rfl (Nat.le_of_ble_eq_true rfl) rfl rfl rfl rfl (wsI_96 hs) (fun Q hQ => tX2_canTestBegin hG hv6 hQ) ?_
  refine sp_if_ne (tgt := 68) dX2_opens_63 (by decide) (fun hc7 => ?_) (fun hc7 => ?_)
  · have h := (if_neg hc7).symm.trans h
    refine sp_weak [true, true, true] [some (.ref 96), some (.int a1), some (.int a2)] rfl ?_
    exact tX2_opens_j68 hG hQ _ _ _ h
  · have h := (if_pos hc7).symm.trans h
    refine sp_iconst (v := 0) dX2_opens_66 (by decide) ?_
    cases h
    exact sp_iret dX2_opens_67 (ty := .boolean) rfl (sp_nz (Or.inl rfl)) (fun _ => hQ)
set_option maxRecDepth 100000 in
set_option maxHeartbeats 4000000 in
theorem tX2_opens_j51 {g : sp_G} {Ω : sp_Mem → Prop} {Q : sp_Qt} {F : Nat} {p : (Int32 × sp_Mem)} (hG : sp_Ok Ω)  (hQ : Q (some (.int p.1)) p.2) (a1 : Int32) (a2 : Int32) (M : sp_Mem) (h : fX2_opens_j51 F a1 a2 M = some p) : sp_Wp g Ω mX2_opens 0 0 51 [some (.ref 96), some (.int a1), some (.int a2)] [] M Q := by
  unfold fX2_opens_j51 at h
  refine sp_iload_n dX2_opens_51 rfl rfl ?_
  refine sp_if_ne (tgt := 59) dX2_opens_52 (by decide) (fun hc5 => ?_) (fun hc5 => ?_)
  · have h := (if_neg hc5).symm.trans h
    refine sp_weak [true, true, true] [some (.ref 96), some (.int a1), some (.int a2)] rfl ?_
    exact tX2_opens_j59 hG hQ _ _ _ h
  · have h := (if_pos hc5).symm.trans h
    refine sp_iload_n dX2_opens_55 rfl rfl ?_
    refine sp_if_eq (tgt := 68) dX2_opens_56 (by decide) (fun hc21 => ?_) (fun hc21 => ?_)
    · have h := (if_pos hc21).symm.trans h
      refine sp_weak [true, true, true] [some (.ref 96), some (.int a1), some (.int a2)] rfl ?_
      exact tX2_opens_j68 hG hQ _ _ _ h
    · have h := (if_neg hc21).symm.trans h
      refine sp_weak [true, true, true] [some (.ref 96), some (.int a1), some (.int a2)] rfl ?_
      exact tX2_opens_j59 hG hQ _ _ _ h
set_option maxRecDepth 100000 in
set_option maxHeartbeats 4000000 in
theorem tX2_opens_j18 {g : sp_G} {Ω : sp_Mem → Prop} {Q : sp_Qt} {F : Nat} {p : (Int32 × sp_Mem)} (hG : sp_Ok Ω)  (hQ : Q (some (.int p.1)) p.2) (s0 : Int32) (M : sp_Mem) (h : fX2_opens_j18 F s0 M = some p) : sp_Wp g Ω mX2_opens 0 0 18 [some (.ref 96), none, none] [.int s0] M Q := by
  unfold fX2_opens_j18 at h
  refine sp_istore_n [some (.ref 96), some (.int s0), none] dX2_opens_18 rfl (by decide) rfl ?_
  refine sp_aload_n dX2_opens_19 rfl rfl ?_
  refine sp_use (fun ho => ?_)
  have hs := hG.1 _ ho
  refine sp_getR (RX2, TX2, 9) dX2_opens_20 clX2 (j := 0) (by decide) tw_386 (wsI_96 hs) (Or.inl ⟨_, rfl⟩) (wsP_96_0 hs) ?_
  refine sp_bipush (v := 40) dX2_opens_23 (by decide) ?_
  obtain ⟨v3, hv3, h⟩ := Option.bind_eq_some_iff.mp h
  refine sp_cV (M1 := M) (r := some (.int v3)) (o := 94) (st := []) (c := 7) (RX8, TX8, 5) [.int 40] [.int 40, .ref 94] [.int v3] dX2_opens_25 okX8_isSign tw_739 tw_740 tw_741 (by decide) (by decide) rfl (Nat.le_of_ble_eq_true rfl) rfl rfl rfl rfl (wsI_94 hs) (fun Q hQ => tX8_isSign hG hv3 hQ) ?_
  refine sp_istore_n [some (.ref 96), some (.int s0), some (.int v3)] dX2_opens_28 rfl (by decide) rfl ?_
  refine sp_iload_n dX2_opens_29 rfl rfl ?_
  refine sp_if_ne (tgt := 51) dX2_opens_30 (by decide) (fun hc4 => ?_) (fun hc4 => ?_)
  · have h := (if_neg hc4).symm.trans h
    refine sp_weak [true, true, true] [some (.ref 96), some (.int s0), some (.int v3)] rfl ?_
    exact tX2_opens_j51 hG hQ _ _ _ h
  · have h := (if_pos hc4).symm.trans h
    refine sp_iload_n dX2_opens_33 rfl rfl ?_
    refine sp_if_ne (tgt := 51) dX2_opens_34 (by decide) (fun hc22 => ?_) (fun hc22 => ?_)
    · have h := (if_neg hc22).symm.trans h
      refine sp_weak [true, true, true] [some (.ref 96), some (.int s0), some (.int v3)] rfl ?_
      exact tX2_opens_j51 hG hQ _ _ _ h
    · have h := (if_pos hc22).symm.trans h
      refine sp_aload_n dX2_opens_37 rfl rfl ?_
      refine sp_getR (RX2, TX2, 9) dX2_opens_38 clX2 (j := 0) (by decide) tw_386 (wsI_96 hs) (Or.inl ⟨_, rfl⟩) (wsP_96_0 hs) ?_
      refine sp_bipush (v := 91) dX2_opens_41 (by decide) ?_
      obtain ⟨v23, hv23, h⟩ := Option.bind_eq_some_iff.mp h
      refine sp_cV (M1 := M) (r := some (.int v23)) (o := 94) (st := []) (c := 7) (RX8, TX8, 5) [.int 91] [.int 91, .ref 94] [.int v23] dX2_opens_43 okX8_isSign tw_739 tw_740 tw_741 (by decide) (by decide) rfl (Nat.le_of_ble_eq_true rfl) rfl rfl rfl rfl (wsI_94 hs) (fun Q hQ => tX8_isSign hG hv23 hQ) ?_
      refine sp_if_ne (tgt := 51) dX2_opens_46 (by decide) (fun hc24 => ?_) (fun hc24 => ?_)
      · have h := (if_neg hc24).symm.trans h
        refine sp_weak [true, true, true] [some (.ref 96), some (.int s0), some (.int v3)] rfl ?_
        exact tX2_opens_j51 hG hQ _ _ _ h
      · have h := (if_pos hc24).symm.trans h
        refine sp_iconst (v := 0) dX2_opens_49 (by decide) ?_
        cases h
        exact sp_iret dX2_opens_50 (ty := .boolean) rfl (sp_nz (Or.inl rfl)) (fun _ => hQ)
set_option maxRecDepth 100000 in
set_option maxHeartbeats 4000000 in
theorem tX2_opens {g : sp_G} {Ω : sp_Mem → Prop} {Q : sp_Qt} {F : Nat} {p : (Int32 × sp_Mem)} (hG : sp_Ok Ω) {M : sp_Mem} (h : fX2_opens F M = some p) (hQ : Q (some (.int p.1)) p.2) : sp_Mt g Ω mX2_opens 0 0 [.ref 96] M Q := by
  unfold fX2_opens at h
  refine sp_Mt.of [some (.ref 96), none, none] (by decide) (by simp [sp_ent, Value.category]) rfl ?_
  refine sp_aload_n dX2_opens_0 rfl rfl ?_
  refine sp_use (fun ho => ?_)
  have hs := hG.1 _ ho
  refine sp_getR (RX2, TX2, 9) dX2_opens_1 clX2 (j := 0) (by decide) tw_386 (wsI_96 hs) (Or.inl ⟨_, rfl⟩) (wsP_96_0 hs) ?_
  refine sp_ldcS (j := 6) dX2_opens_4 rfl rfl ?_
  obtain ⟨v1, hv1, h⟩ := Option.bind_eq_some_iff.mp h
  refine sp_cV (M1 := M) (r := some (.int v1)) (o := 94) (st := []) (c := 7) (RX8, TX8, 5) [.ref (1000000 + 6)] [.ref (1000000 + 6), .ref 94] [.int v1] dX2_opens_6 okX8_placeIn tw_665 tw_666 tw_667 (by decide) (by decide) rfl (Nat.le_of_ble_eq_true rfl) rfl rfl rfl rfl (wsI_94 hs) (fun Q hQ => tX8_placeIn hG (by decide) hv1 hQ) ?_
  refine sp_iconst (v := (-1)) dX2_opens_9 (by decide) ?_
  suffices hj : sp_Wp g Ω mX2_opens 0 0 18 [some (.ref 96), none, none] [.int (if v1 = (-1) then 0 else 1)] M Q by
    refine sp_icmp_eq (tgt := 17) dX2_opens_10 (by decide) (fun hc2 => ?_) (fun hc2 => ?_)
    · refine sp_iconst (v := 0) dX2_opens_17 (by decide) ?_
      simp only [if_pos hc2] at hj
      exact hj
    · refine sp_iconst (v := 1) dX2_opens_13 (by decide) ?_
      refine sp_goto (tgt := 18) dX2_opens_14 (by decide) ?_
      simp only [if_neg hc2] at hj
      exact hj
  refine sp_weak [true, false, false] [some (.ref 96), none, none] rfl ?_
  exact tX2_opens_j18 hG hQ _ _ h
def fX8_numberTo_l17 (F : Nat) (M0 : sp_Mem) (kx : Int32 → Option Int32) : Nat → Int32 → Int32 → Int32 → Option Int32
  | 0, _, _, _ => none
  | n + 1, a1, a2, a3 =>
  if (sp_I M0 94 4) ≤ a3 then (kx a2) else ((fX8_byteAt M0 a3).bind fun v4 => sp_do ((sp_min (((a2 * 10) + v4) - 48) (a1 + 1))) fun u5 => (fX8_numberTo_l17 F M0 kx n) a1 u5 (a3 + 1))
def fX8_numberTo (F : Nat) (M0 : sp_Mem) (a1 : Int32) : Option Int32 :=
  if (sp_I M0 94 2) = 2 then (sp_do ((sp_I M0 94 3)) fun u2 => fX8_numberTo_l17 F M0 (fun b7 => some b7) F a1 0 u2) else (some (-1))
set_option maxRecDepth 100000 in
set_option maxHeartbeats 4000000 in
theorem tX8_numberTo_l17 {g : sp_G} {Ω : sp_Mem → Prop} {Q : sp_Qt} {F : Nat} {M0 : sp_Mem} {p : Int32} (hG : sp_Ok Ω)  {kx : Int32 → Option Int32} (hQ : Q (some (.int p)) M0) (hx : ∀ (a2 : Int32), kx a2 = some p → sp_Wp g Ω mX8_numberTo 0 0 51 [none, none, some (.int a2), none] [] M0 Q) : ∀ (n : Nat) (a1 : Int32) (a2 : Int32) (a3 : Int32), fX8_numberTo_l17 F M0 kx n a1 a2 a3 = some p → sp_Wp g Ω mX8_numberTo 0 0 17 [some (.ref 94), some (.int a1), some (.int a2), some (.int a3)] [] M0 Q := by
  intro n
  induction n with
  | zero =>
    intro a1 a2 a3 h
    rw [fX8_numberTo_l17] at h
    cases h
  | succ n ih =>
    intro a1 a2 a3 h
    rw [fX8_numberTo_l17] at h
    refine sp_iload_n dX8_numberTo_17 rfl rfl ?_
    refine sp_aload_n dX8_numberTo_18 rfl rfl ?_
    refine sp_use (fun ho => ?_)
    have hs := hG.1 _ ho
    refine sp_getI (RX8, TX8, 5) dX8_numberTo_19 clX8 (j := 4) (by decide) tw_344 (wsI_94 hs) (Or.inl rfl) ?_
    refine sp_icmp_ge (tgt := 51) dX8_numberTo_22 (by decide) (fun hc3 => ?_) (fun hc3 => ?_)
    · have h := (if_pos hc3).symm.trans h
      refine sp_weak [false, false, true, false] [none, none, some (.int a2), none] rfl ?_
      exact hx _ h
    · have h := (if_neg hc3).symm.trans h
      refine sp_iload_n dX8_numberTo_25 rfl rfl ?_
      refine sp_bipush (v := 10) dX8_numberTo_26 (by decide) ?_
      refine sp_imul dX8_numberTo_28 ?_
      refine sp_aload_n dX8_numberTo_29 rfl rfl ?_
      refine sp_iload_n dX8_numberTo_30 rfl rfl ?_
      obtain ⟨v4, hv4, h⟩ := Option.bind_eq_some_iff.mp h
      refine sp_cV (M1 := M0) (r := some (.int v4)) (o := 94) (st := [.int (a2 * 10)]) (c := 7) (RX8, TX8, 5) [.int a3] [.int a3, .ref 94, .int (a2 * 10)] [.int v4, .int (a2 * 10)] dX8_numberTo_31 okX8_byteAt tw_655 tw_628 tw_629 (by decide) (by decide) rfl (Nat.le_of_ble_eq_true rfl) rfl rfl rfl rfl (wsI_94 hs) (fun Q hQ => tX8_byteAt hG hv4 hQ) ?_
      refine sp_iadd dX8_numberTo_34 ?_
      refine sp_bipush (v := 48) dX8_numberTo_35 (by decide) ?_
      refine sp_isub dX8_numberTo_37 ?_
      refine sp_iload_n dX8_numberTo_38 rfl rfl ?_
      refine sp_iconst (v := 1) dX8_numberTo_39 (by decide) ?_
      refine sp_iadd dX8_numberTo_40 ?_
      refine sp_mmin dX8_numberTo_41 tw_659 (by decide) (Nat.le_of_ble_eq_true rfl) ?_
      obtain ⟨u5, hu5, h⟩ := sp_do_e h
      refine sp_topi hu5 ?_
      refine sp_istore_n [some (.ref 94), some (.int a1), some (.int u5), some (.int a3)] dX8_numberTo_44 rfl (by decide) rfl ?_
      refine sp_iinc (v := (a3 + 1)) [some (.ref 94), some (.int a1), some (.int u5), some (.int (a3 + 1))] dX8_numberTo_45 rfl rfl (by decide) rfl ?_
      refine sp_goto (tgt := 17) dX8_numberTo_48 (by decide) ?_
      refine sp_weak [true, true, true, true] [some (.ref 94), some (.int a1), some (.int u5), some (.int (a3 + 1))] rfl ?_
      exact ih _ _ _ h
set_option maxRecDepth 100000 in
set_option maxHeartbeats 4000000 in
theorem tX8_numberTo {g : sp_G} {Ω : sp_Mem → Prop} {Q : sp_Qt} {F : Nat} {M0 : sp_Mem} {p : Int32} (hG : sp_Ok Ω) {a1 : Int32} (h : fX8_numberTo F M0 a1 = some p) (hQ : Q (some (.int p)) M0) : sp_Mt g Ω mX8_numberTo 0 0 [.ref 94, .int a1] M0 Q := by
  unfold fX8_numberTo at h
  refine sp_Mt.of [some (.ref 94), some (.int a1), none, none] (by decide) (by simp [sp_ent, Value.category]) rfl ?_
  refine sp_aload_n dX8_numberTo_0 rfl rfl ?_
  refine sp_use (fun ho => ?_)
  have hs := hG.1 _ ho
  refine sp_getI (RX8, TX8, 5) dX8_numberTo_1 clX8 (j := 2) (by decide) tw_341 (wsI_94 hs) (Or.inl rfl) ?_
  refine sp_iconst (v := 2) dX8_numberTo_4 (by decide) ?_
  refine sp_icmp_eq (tgt := 10) dX8_numberTo_5 (by decide) (fun hc1 => ?_) (fun hc1 => ?_)
  · have h := (if_pos hc1).symm.trans h
    refine sp_iconst (v := 0) dX8_numberTo_10 (by decide) ?_
    refine sp_istore_n [some (.ref 94), some (.int a1), some (.int 0), none] dX8_numberTo_11 rfl (by decide) rfl ?_
    refine sp_aload_n dX8_numberTo_12 rfl rfl ?_
    refine sp_getI (RX8, TX8, 5) dX8_numberTo_13 clX8 (j := 3) (by decide) tw_343 (wsI_94 hs) (Or.inl rfl) ?_
    obtain ⟨u2, hu2, h⟩ := sp_do_e h
    refine sp_topi hu2 ?_
    refine sp_istore_n [some (.ref 94), some (.int a1), some (.int 0), some (.int u2)] dX8_numberTo_16 rfl (by decide) rfl ?_
    refine sp_weak [true, true, true, true] [some (.ref 94), some (.int a1), some (.int 0), some (.int u2)] rfl ?_
    refine tX8_numberTo_l17 hG hQ (fun b7 h => ?_) F _ _ _ h
    refine sp_iload_n dX8_numberTo_51 rfl rfl ?_
    cases h
    exact sp_iret dX8_numberTo_52 (ty := .int) rfl rfl (fun _ => hQ)
  · have h := (if_neg hc1).symm.trans h
    refine sp_iconst (v := (-1)) dX8_numberTo_8 (by decide) ?_
    cases h
    exact sp_iret dX8_numberTo_9 (ty := .int) rfl rfl (fun _ => hQ)
def fX9_addStep (M : sp_Mem) (o0 : Nat) (a1 : Int32) (a2 : Int32) : Option sp_Mem :=
  if (Int32.ofNat (sp_N M (o0 + 2))) ≤ (sp_I M o0 3) then (some M) else ((sp_ix (sp_N M (o0 + 2)) (sp_I M o0 3)).bind fun j2 => sp_do (sp_setI M (o0 + 2) j2 ((a2 <<< (5 &&& 31)) ||| a1)) fun M3 => sp_do (sp_setI M3 o0 3 ((sp_I M3 o0 3) + 1)) fun M4 => some M4)
set_option maxRecDepth 100000 in
set_option maxHeartbeats 4000000 in
theorem tX9_addStep {g : sp_G} {Ω : sp_Mem → Prop} {Q : sp_Qt} {p : sp_Mem} (hG : sp_Ok Ω) {o0 : Nat} (ho0 : ∀ M, Ω M → sp_text M o0) {M : sp_Mem} {a1 : Int32} {a2 : Int32} (h : fX9_addStep M o0 a1 a2 = some p) (hQ : Q none p) : sp_Mt g Ω mX9_addStep 0 0 [.ref o0, .int a1, .int a2] M Q := by
  unfold fX9_addStep at h
  refine sp_Mt.of [some (.ref o0), some (.int a1), some (.int a2)] (by decide) (by simp [sp_ent, Value.category]) rfl ?_
  refine sp_aload_n dX9_addStep_0 rfl rfl ?_
  refine sp_use (fun ho => ?_)
  have hs := hG.1 _ ho
  refine sp_getI (RX9, TX9, 4) dX9_addStep_1 clX9 (j := 3) (by decide) tw_375 (ho0 _ ho).1 (Or.inl rfl) ?_
  refine sp_aload_n dX9_addStep_4 rfl rfl ?_
  refine sp_getR (RX9, TX9, 4) dX9_addStep_5 clX9 (j := 1) (by decide) tw_369 (ho0 _ ho).1 (Or.inr ⟨_, rfl⟩) (ho0 _ ho).2.2.1 ?_
  refine sp_alen 0 (by decide) dX9_addStep_8 (ho0 _ ho).2.2.2.2 rfl ?_
  refine sp_icmp_ge (tgt := 36) dX9_addStep_9 (by decide) (fun hc1 => ?_) (fun hc1 => ?_)
  · have h := (if_pos hc1).symm.trans h
    cases h
    exact sp_vret dX9_addStep_36 rfl (fun _ => hQ)
  · have h := (if_neg hc1).symm.trans h
    refine sp_aload_n dX9_addStep_12 rfl rfl ?_
    refine sp_getR (RX9, TX9, 4) dX9_addStep_13 clX9 (j := 1) (by decide) tw_369 (ho0 _ ho).1 (Or.inr ⟨_, rfl⟩) (ho0 _ ho).2.2.1 ?_
    refine sp_aload_n dX9_addStep_16 rfl rfl ?_
    refine sp_getI (RX9, TX9, 4) dX9_addStep_17 clX9 (j := 3) (by decide) tw_375 (ho0 _ ho).1 (Or.inl rfl) ?_
    refine sp_iload_n dX9_addStep_20 rfl rfl ?_
    refine sp_iconst (v := 5) dX9_addStep_21 (by decide) ?_
    refine sp_ishl dX9_addStep_22 ?_
    refine sp_iload_n dX9_addStep_23 rfl rfl ?_
    refine sp_ior dX9_addStep_24 ?_
    obtain ⟨j2, hj2, h⟩ := Option.bind_eq_some_iff.mp h
    obtain ⟨M3, hM3, h⟩ := sp_do_e h
    refine sp_iast2 (j := j2) hG dX9_addStep_25 (ho0 _ ho).2.2.2.2 rfl hj2 hM3 ?_
    refine sp_aload_n dX9_addStep_26 rfl rfl ?_
    refine sp_dup dX9_addStep_27 rfl ?_
    refine sp_use (fun ho => ?_)
    have hs := hG.1 _ ho
    refine sp_getI (RX9, TX9, 4) dX9_addStep_28 clX9 (j := 3) (by decide) tw_375 (ho0 _ ho).1 (Or.inl rfl) ?_
    refine sp_iconst (v := 1) dX9_addStep_31 (by decide) ?_
    refine sp_iadd dX9_addStep_32 ?_
    obtain ⟨M4, hM4, h⟩ := sp_do_e h
    refine sp_putI2 (RX9, TX9, 4) hG dX9_addStep_33 clX9 (j := 3) (by decide) tw_375 rfl (Or.inl rfl) (ho0 _ ho).1 hM4 ?_
    cases h
    exact sp_vret dX9_addStep_36 rfl (fun _ => hQ)
def fX2_readPart_j136 (F : Nat) (M : sp_Mem) : Option (Int32 × sp_Mem) :=
  sp_do (sp_setI M 96 6 ((sp_I M 96 6) + 1)) fun M6 => sp_do (sp_setI M6 96 8 0) fun M7 => (fX8_toNext F M7).bind fun M8 => some (1, M8)
def fX2_readPart_j106 (F : Nat) (a2 : Int32) (M : sp_Mem) : Option (Int32 × sp_Mem) :=
  (fX9_addStep M 97 2 a2).bind fun M13 => fX2_readPart_j136 F M13
def fX2_readPart_j45 (F : Nat) (M : sp_Mem) : Option (Int32 × sp_Mem) :=
  (fX8_placeIn F M 8).bind fun v10 => if v10 = (-1) then (some (0, M)) else (if (sp_I M 96 7) = 0 then (fX2_readPart_j106 F v10 M) else (if v10 < 4 then (fX2_readPart_j106 F v10 M) else ((fX8_toNext F M).bind fun M15 => (fX8_numberTo F M15 5).bind fun v16 => if (fX10_isWithin v16 0 5) = 0 then (some (0, M15)) else (sp_do (((4 + ((v10 - 4) * 6)) + v16)) fun u18 => fX2_readPart_j106 F u18 M15))))
def fX2_readPart_j45_3 (F : Nat) (M : sp_Mem) : Option (Int32 × sp_Mem) :=
  (fX8_placeIn F M 7).bind fun v19 => if v19 = (-1) then (some (0, M)) else (if (sp_I M 96 7) = 0 then (fX2_readPart_j106 F v19 M) else (if v19 < 4 then (fX2_readPart_j106 F v19 M) else ((fX8_toNext F M).bind fun M23 => (fX8_numberTo F M23 5).bind fun v24 => if (fX10_isWithin v24 0 5) = 0 then (some (0, M23)) else (sp_do (((4 + ((v19 - 4) * 6)) + v24)) fun u26 => fX2_readPart_j106 F u26 M23))))
def fX2_readPart (F : Nat) (M : sp_Mem) : Option (Int32 × sp_Mem) :=
  if (sp_I M 96 6) < 50 then ((fX8_numberTo F M 1000).bind fun v2 => if v2 = (-1) then (if (sp_I M 96 7) = 0 then (fX2_readPart_j45 F M) else (fX2_readPart_j45_3 F M)) else (if v2 ≤ 1000 then ((fX9_addStep M 97 1 v2).bind fun M5 => fX2_readPart_j136 F M5) else (some (0, M)))) else (some (0, M))
set_option maxRecDepth 100000 in
set_option maxHeartbeats 4000000 in
theorem tX2_readPart_j136 {g : sp_G} {Ω : sp_Mem → Prop} {Q : sp_Qt} {F : Nat} {p : (Int32 × sp_Mem)} (hG : sp_Ok Ω)  (hQ : Q (some (.int p.1)) p.2) (M : sp_Mem) (h : fX2_readPart_j136 F M = some p) : sp_Wp g Ω mX2_readPart 0 0 136 [some (.ref 96), none, none, none] [] M Q := by
  unfold fX2_readPart_j136 at h
  refine sp_aload_n dX2_readPart_136 rfl rfl ?_
  refine sp_dup dX2_readPart_137 rfl ?_
  refine sp_use (fun ho => ?_)
  have hs := hG.1 _ ho
  refine sp_getI (RX2, TX2, 9) dX2_readPart_138 clX2 (j := 6) (by decide) tw_393 (wsI_96 hs) (Or.inl rfl) ?_
  refine sp_iconst (v := 1) dX2_readPart_141 (by decide) ?_
  refine sp_iadd dX2_readPart_142 ?_
  obtain ⟨M6, hM6, h⟩ := sp_do_e h
  refine sp_putI2 (RX2, TX2, 9) hG dX2_readPart_143 clX2 (j := 6) (by decide) tw_393 rfl (Or.inl rfl) (wsI_96 hs) hM6 ?_
  refine sp_aload_n dX2_readPart_146 rfl rfl ?_
  refine sp_iconst (v := 0) dX2_readPart_147 (by decide) ?_
  refine sp_use (fun ho => ?_)
  have hs := hG.1 _ ho
  obtain ⟨M7, hM7, h⟩ := sp_do_e h
  refine sp_putI2 (RX2, TX2, 9) hG dX2_readPart_148 clX2 (j := 8) (by decide) tw_395 rfl (Or.inr ⟨rfl, (Or.inl rfl)⟩) (wsI_96 hs) hM7 ?_
  refine sp_aload_n dX2_readPart_151 rfl rfl ?_
  refine sp_use (fun ho => ?_)
  have hs := hG.1 _ ho
  refine sp_getR (RX2, TX2, 9) dX2_readPart_152 clX2 (j := 0) (by decide) tw_386 (wsI_96 hs) (Or.inl ⟨_, rfl⟩) (wsP_96_0 hs) ?_
  obtain ⟨M8, hM8, h⟩ := Option.bind_eq_some_iff.mp h
  refine sp_cV (M1 := M8) (r := none) (o := 94) (st := []) (c := 7) (RX8, TX8, 5) [] [.ref 94] [] dX2_readPart_155 okX8_toNext tw_721 tw_652 tw_653 (by decide) (by decide) rfl (Nat.le_of_ble_eq_true rfl) rfl rfl rfl rfl (wsI_94 hs) (fun Q hQ => tX8_toNext hG hM8 hQ) ?_
  refine sp_iconst (v := 1) dX2_readPart_158 (by decide) ?_
  cases h
  exact sp_iret dX2_readPart_159 (ty := .boolean) rfl (sp_nz (Or.inr rfl)) (fun _ => hQ)
set_option maxRecDepth 100000 in
set_option maxHeartbeats 4000000 in
theorem tX2_readPart_j106 {g : sp_G} {Ω : sp_Mem → Prop} {Q : sp_Qt} {F : Nat} {p : (Int32 × sp_Mem)} (hG : sp_Ok Ω)  (hQ : Q (some (.int p.1)) p.2) (a2 : Int32) (M : sp_Mem) (h : fX2_readPart_j106 F a2 M = some p) : sp_Wp g Ω mX2_readPart 0 0 106 [some (.ref 96), none, some (.int a2), none] [] M Q := by
  unfold fX2_readPart_j106 at h
  refine sp_aload_n dX2_readPart_106 rfl rfl ?_
  refine sp_use (fun ho => ?_)
  have hs := hG.1 _ ho
  refine sp_getR (RX2, TX2, 9) dX2_readPart_107 clX2 (j := 1) (by decide) tw_387 (wsI_96 hs) (Or.inl ⟨_, rfl⟩) (wsP_96_1 hs) ?_
  refine sp_iconst (v := 2) dX2_readPart_110 (by decide) ?_
  refine sp_iload_n dX2_readPart_111 rfl rfl ?_
  obtain ⟨M13, hM13, h⟩ := Option.bind_eq_some_iff.mp h
  refine sp_cV (M1 := M13) (r := none) (o := 97) (st := []) (c := 8) (RX9, TX9, 4) [.int 2, .int a2] [.int a2, .int 2, .ref 97] [] dX2_readPart_112 okX9_addStep tw_765 tw_766 tw_767 (by decide) (by decide) rfl (Nat.le_of_ble_eq_true rfl) rfl rfl rfl rfl (wsI_97 hs) (fun Q hQ => tX9_addStep hG (fun M ho => text_97 (hG.1 M ho)) hM13 hQ) ?_
  refine sp_goto (tgt := 136) dX2_readPart_115 (by decide) ?_
  refine sp_weak [true, false, false, false] [some (.ref 96), none, none, none] rfl ?_
  exact tX2_readPart_j136 hG hQ _ h
set_option maxRecDepth 100000 in
set_option maxHeartbeats 4000000 in
theorem tX2_readPart_j45 {g : sp_G} {Ω : sp_Mem → Prop} {Q : sp_Qt} {F : Nat} {p : (Int32 × sp_Mem)} (hG : sp_Ok Ω)  (hQ : Q (some (.int p.1)) p.2) (M : sp_Mem) (h : fX2_readPart_j45 F M = some p) : sp_Wp g Ω mX2_readPart 0 0 45 [some (.ref 96), none, none, none] [.ref (1000000 + 8), .ref 94] M Q := by
  unfold fX2_readPart_j45 at h
  refine sp_use (fun ho => ?_)
  have hs := hG.1 _ ho
  obtain ⟨v10, hv10, h⟩ := Option.bind_eq_some_iff.mp h
  refine sp_cV (M1 := M) (r := some (.int v10)) (o := 94) (st := []) (c := 7) (RX8, TX8, 5) [.ref (1000000 + 8)] [.ref (1000000 + 8), .ref 94] [.int v10] dX2_readPart_45 okX8_placeIn tw_665 tw_666 tw_667 (by decide) (by decide) rfl (Nat.le_of_ble_eq_true rfl) rfl rfl rfl rfl (wsI_94 hs) (fun Q hQ => tX8_placeIn hG (by decide) hv10 hQ) ?_
  refine sp_istore_n [some (.ref 96), none, some (.int v10), none] dX2_readPart_48 rfl (by decide) rfl ?_
  refine sp_iload_n dX2_readPart_49 rfl rfl ?_
  refine sp_iconst (v := (-1)) dX2_readPart_50 (by decide) ?_
  refine sp_icmp_ne (tgt := 56) dX2_readPart_51 (by decide) (fun hc11 => ?_) (fun hc11 => ?_)
  · have h := (if_neg hc11).symm.trans h
    refine sp_aload_n dX2_readPart_56 rfl rfl ?_
    refine sp_getI (RX2, TX2, 9) dX2_readPart_57 clX2 (j := 7) (by decide) tw_394 (wsI_96 hs) (Or.inr rfl) ?_
    refine sp_if_eq (tgt := 106) dX2_readPart_60 (by decide) (fun hc12 => ?_) (fun hc12 => ?_)
    · have h := (if_pos hc12).symm.trans h
      refine sp_weak [true, false, true, false] [some (.ref 96), none, some (.int v10), none] rfl ?_
      exact tX2_readPart_j106 hG hQ _ _ h
    · have h := (if_neg hc12).symm.trans h
      refine sp_iload_n dX2_readPart_63 rfl rfl ?_
      refine sp_iconst (v := 4) dX2_readPart_64 (by decide) ?_
      refine sp_icmp_lt (tgt := 106) dX2_readPart_65 (by decide) (fun hc14 => ?_) (fun hc14 => ?_)
      · have h := (if_pos hc14).symm.trans h
        refine sp_weak [true, false, true, false] [some (.ref 96), none, some (.int v10), none] rfl ?_
        exact tX2_readPart_j106 hG hQ _ _ h
      · have h := (if_neg hc14).symm.trans h
        refine sp_aload_n dX2_readPart_68 rfl rfl ?_
        refine sp_getR (RX2, TX2, 9) dX2_readPart_69 clX2 (j := 0) (by decide) tw_386 (wsI_96 hs) (Or.inl ⟨_, rfl⟩) (wsP_96_0 hs) ?_
        obtain ⟨M15, hM15, h⟩ := Option.bind_eq_some_iff.mp h
        refine sp_cV (M1 := M15) (r := none) (o := 94) (st := []) (c := 7) (RX8, TX8, 5) [] [.ref 94] [] dX2_readPart_72 okX8_toNext tw_721 tw_652 tw_653 (by decide) (by decide) rfl (Nat.le_of_ble_eq_true rfl) rfl rfl rfl rfl (wsI_94 hs) (fun Q hQ => tX8_toNext hG hM15 hQ) ?_
        refine sp_aload_n dX2_readPart_75 rfl rfl ?_
        refine sp_use (fun ho => ?_)
        have hs := hG.1 _ ho
        refine sp_getR (RX2, TX2, 9) dX2_readPart_76 clX2 (j := 0) (by decide) tw_386 (wsI_96 hs) (Or.inl ⟨_, rfl⟩) (wsP_96_0 hs) ?_
        refine sp_iconst (v := 5) dX2_readPart_79 (by decide) ?_
        obtain ⟨v16, hv16, h⟩ := Option.bind_eq_some_iff.mp h
        refine sp_cV (M1 := M15) (r := some (.int v16)) (o := 94) (st := []) (c := 7) (RX8, TX8, 5) [.int 5] [.int 5, .ref 94] [.int v16] dX2_readPart_80 okX8_numberTo tw_759 tw_760 tw_761 (by decide) (by decide) rfl (Nat.le_of_ble_eq_true rfl) rfl rfl rfl rfl (wsI_94 hs) (fun Q hQ => tX8_numberTo hG hv16 hQ) ?_
        refine sp_istore_n [some (.ref 96), none, some (.int v10), some (.int v16)] dX2_readPart_83 rfl (by decide) rfl ?_
        refine sp_iload_n dX2_readPart_84 rfl rfl ?_
        refine sp_iconst (v := 0) dX2_readPart_85 (by decide) ?_
        refine sp_iconst (v := 5) dX2_readPart_86 (by decide) ?_
        refine sp_cSN (M1 := M15) (r := some (.int (fX10_isWithin v16 0 5))) (st := []) [.int v16, .int 0, .int 5] [.int 5, .int 0, .int v16] [.int (fX10_isWithin v16 0 5)] dX2_readPart_87 okX10_isWithin (by decide +kernel) tw_472 (by decide) (by decide) rfl (Nat.le_of_ble_eq_true rfl) rfl rfl (fun Q hQ => tX10_isWithin hG rfl hQ) ?_
        refine sp_if_ne (tgt := 95) dX2_readPart_90 (by decide) (fun hc17 => ?_) (fun hc17 => ?_)
        · have h := (if_neg hc17).symm.trans h
          refine sp_iconst (v := 4) dX2_readPart_95 (by decide) ?_
          refine sp_iload_n dX2_readPart_96 rfl rfl ?_
          refine sp_iconst (v := 4) dX2_readPart_97 (by decide) ?_
          refine sp_isub dX2_readPart_98 ?_
          refine sp_bipush (v := 6) dX2_readPart_99 (by decide) ?_
          refine sp_imul dX2_readPart_101 ?_
          refine sp_iadd dX2_readPart_102 ?_
          refine sp_iload_n dX2_readPart_103 rfl rfl ?_
          refine sp_iadd dX2_readPart_104 ?_
          obtain ⟨u18, hu18, h⟩ := sp_do_e h
          refine sp_topi hu18 ?_
          refine sp_istore_n [some (.ref 96), none, some (.int u18), some (.int v16)] dX2_readPart_105 rfl (by decide) rfl ?_
          refine sp_weak [true, false, true, false] [some (.ref 96), none, some (.int u18), none] rfl ?_
          exact tX2_readPart_j106 hG hQ _ _ h
        · have h := (if_pos hc17).symm.trans h
          refine sp_iconst (v := 0) dX2_readPart_93 (by decide) ?_
          cases h
          exact sp_iret dX2_readPart_94 (ty := .boolean) rfl (sp_nz (Or.inl rfl)) (fun _ => hQ)
  · have h := (if_pos hc11).symm.trans h
    refine sp_iconst (v := 0) dX2_readPart_54 (by decide) ?_
    cases h
    exact sp_iret dX2_readPart_55 (ty := .boolean) rfl (sp_nz (Or.inl rfl)) (fun _ => hQ)
set_option maxRecDepth 100000 in
set_option maxHeartbeats 4000000 in
theorem tX2_readPart_j45_3 {g : sp_G} {Ω : sp_Mem → Prop} {Q : sp_Qt} {F : Nat} {p : (Int32 × sp_Mem)} (hG : sp_Ok Ω)  (hQ : Q (some (.int p.1)) p.2) (M : sp_Mem) (h : fX2_readPart_j45_3 F M = some p) : sp_Wp g Ω mX2_readPart 0 0 45 [some (.ref 96), none, none, none] [.ref (1000000 + 7), .ref 94] M Q := by
  unfold fX2_readPart_j45_3 at h
  refine sp_use (fun ho => ?_)
  have hs := hG.1 _ ho
  obtain ⟨v19, hv19, h⟩ := Option.bind_eq_some_iff.mp h
  refine sp_cV (M1 := M) (r := some (.int v19)) (o := 94) (st := []) (c := 7) (RX8, TX8, 5) [.ref (1000000 + 7)] [.ref (1000000 + 7), .ref 94] [.int v19] dX2_readPart_45 okX8_placeIn tw_665 tw_666 tw_667 (by decide) (by decide) rfl (Nat.le_of_ble_eq_true rfl) rfl rfl rfl rfl (wsI_94 hs) (fun Q hQ => tX8_placeIn hG (by decide) hv19 hQ) ?_
  refine sp_istore_n [some (.ref 96), none, some (.int v19), none] dX2_readPart_48 rfl (by decide) rfl ?_
  refine sp_iload_n dX2_readPart_49 rfl rfl ?_
  refine sp_iconst (v := (-1)) dX2_readPart_50 (by decide) ?_
  refine sp_icmp_ne (tgt := 56) dX2_readPart_51 (by decide) (fun hc20 => ?_) (fun hc20 => ?_)
  · have h := (if_neg hc20).symm.trans h
    refine sp_aload_n dX2_readPart_56 rfl rfl ?_
    refine sp_getI (RX2, TX2, 9) dX2_readPart_57 clX2 (j := 7) (by decide) tw_394 (wsI_96 hs) (Or.inr rfl) ?_
    refine sp_if_eq (tgt := 106) dX2_readPart_60 (by decide) (fun hc21 => ?_) (fun hc21 => ?_)
    · have h := (if_pos hc21).symm.trans h
      refine sp_weak [true, false, true, false] [some (.ref 96), none, some (.int v19), none] rfl ?_
      exact tX2_readPart_j106 hG hQ _ _ h
    · have h := (if_neg hc21).symm.trans h
      refine sp_iload_n dX2_readPart_63 rfl rfl ?_
      refine sp_iconst (v := 4) dX2_readPart_64 (by decide) ?_
      refine sp_icmp_lt (tgt := 106) dX2_readPart_65 (by decide) (fun hc22 => ?_) (fun hc22 => ?_)
      · have h := (if_pos hc22).symm.trans h
        refine sp_weak [true, false, true, false] [some (.ref 96), none, some (.int v19), none] rfl ?_
        exact tX2_readPart_j106 hG hQ _ _ h
      · have h := (if_neg hc22).symm.trans h
        refine sp_aload_n dX2_readPart_68 rfl rfl ?_
        refine sp_getR (RX2, TX2, 9) dX2_readPart_69 clX2 (j := 0) (by decide) tw_386 (wsI_96 hs) (Or.inl ⟨_, rfl⟩) (wsP_96_0 hs) ?_
        obtain ⟨M23, hM23, h⟩ := Option.bind_eq_some_iff.mp h
        refine sp_cV (M1 := M23) (r := none) (o := 94) (st := []) (c := 7) (RX8, TX8, 5) [] [.ref 94] [] dX2_readPart_72 okX8_toNext tw_721 tw_652 tw_653 (by decide) (by decide) rfl (Nat.le_of_ble_eq_true rfl) rfl rfl rfl rfl (wsI_94 hs) (fun Q hQ => tX8_toNext hG hM23 hQ) ?_
        refine sp_aload_n dX2_readPart_75 rfl rfl ?_
        refine sp_use (fun ho => ?_)
        have hs := hG.1 _ ho
        refine sp_getR (RX2, TX2, 9) dX2_readPart_76 clX2 (j := 0) (by decide) tw_386 (wsI_96 hs) (Or.inl ⟨_, rfl⟩) (wsP_96_0 hs) ?_
        refine sp_iconst (v := 5) dX2_readPart_79 (by decide) ?_
        obtain ⟨v24, hv24, h⟩ := Option.bind_eq_some_iff.mp h
        refine sp_cV (M1 := M23) (r := some (.int v24)) (o := 94) (st := []) (c := 7) (RX8, TX8, 5) [.int 5] [.int 5, .ref 94] [.int v24] dX2_readPart_80 okX8_numberTo tw_759 tw_760 tw_761 (by decide) (by decide) rfl (Nat.le_of_ble_eq_true rfl) rfl rfl rfl rfl (wsI_94 hs) (fun Q hQ => tX8_numberTo hG hv24 hQ) ?_
        refine sp_istore_n [some (.ref 96), none, some (.int v19), some (.int v24)] dX2_readPart_83 rfl (by decide) rfl ?_
        refine sp_iload_n dX2_readPart_84 rfl rfl ?_
        refine sp_iconst (v := 0) dX2_readPart_85 (by decide) ?_
        refine sp_iconst (v := 5) dX2_readPart_86 (by decide) ?_
        refine sp_cSN (M1 := M23) (r := some (.int (fX10_isWithin v24 0 5))) (st := []) [.int v24, .int 0, .int 5] [.int 5, .int 0, .int v24] [.int (fX10_isWithin v24 0 5)] dX2_readPart_87 okX10_isWithin (by decide +kernel) tw_472 (by decide) (by decide) rfl (Nat.le_of_ble_eq_true rfl) rfl rfl (fun Q hQ => tX10_isWithin hG rfl hQ) ?_
        refine sp_if_ne (tgt := 95) dX2_readPart_90 (by decide) (fun hc25 => ?_) (fun hc25 => ?_)
        · have h := (if_neg hc25).symm.trans h
          refine sp_iconst (v := 4) dX2_readPart_95 (by decide) ?_
          refine sp_iload_n dX2_readPart_96 rfl rfl ?_
          refine sp_iconst (v := 4) dX2_readPart_97 (by decide) ?_
          refine sp_isub dX2_readPart_98 ?_
          refine sp_bipush (v := 6) dX2_readPart_99 (by decide) ?_
          refine sp_imul dX2_readPart_101 ?_
          refine sp_iadd dX2_readPart_102 ?_
          refine sp_iload_n dX2_readPart_103 rfl rfl ?_
          refine sp_iadd dX2_readPart_104 ?_
          obtain ⟨u26, hu26, h⟩ := sp_do_e h
          refine sp_topi hu26 ?_
          refine sp_istore_n [some (.ref 96), none, some (.int u26), some (.int v24)] dX2_readPart_105 rfl (by decide) rfl ?_
          refine sp_weak [true, false, true, false] [some (.ref 96), none, some (.int u26), none] rfl ?_
          exact tX2_readPart_j106 hG hQ _ _ h
        · have h := (if_pos hc25).symm.trans h
          refine sp_iconst (v := 0) dX2_readPart_93 (by decide) ?_
          cases h
          exact sp_iret dX2_readPart_94 (ty := .boolean) rfl (sp_nz (Or.inl rfl)) (fun _ => hQ)
  · have h := (if_pos hc20).symm.trans h
    refine sp_iconst (v := 0) dX2_readPart_54 (by decide) ?_
    cases h
    exact sp_iret dX2_readPart_55 (ty := .boolean) rfl (sp_nz (Or.inl rfl)) (fun _ => hQ)
set_option maxRecDepth 100000 in
set_option maxHeartbeats 4000000 in
theorem tX2_readPart {g : sp_G} {Ω : sp_Mem → Prop} {Q : sp_Qt} {F : Nat} {p : (Int32 × sp_Mem)} (hG : sp_Ok Ω) {M : sp_Mem} (h : fX2_readPart F M = some p) (hQ : Q (some (.int p.1)) p.2) : sp_Mt g Ω mX2_readPart 0 0 [.ref 96] M Q := by
  unfold fX2_readPart at h
  refine sp_Mt.of [some (.ref 96), none, none, none] (by decide) (by simp [sp_ent, Value.category]) rfl ?_
  refine sp_aload_n dX2_readPart_0 rfl rfl ?_
  refine sp_use (fun ho => ?_)
  have hs := hG.1 _ ho
  refine sp_getI (RX2, TX2, 9) dX2_readPart_1 clX2 (j := 6) (by decide) tw_393 (wsI_96 hs) (Or.inl rfl) ?_
  refine sp_bipush (v := 50) dX2_readPart_4 (by decide) ?_
  refine sp_icmp_lt (tgt := 11) dX2_readPart_6 (by decide) (fun hc1 => ?_) (fun hc1 => ?_)
  · have h := (if_pos hc1).symm.trans h
    refine sp_aload_n dX2_readPart_11 rfl rfl ?_
    refine sp_getR (RX2, TX2, 9) dX2_readPart_12 clX2 (j := 0) (by decide) tw_386 (wsI_96 hs) (Or.inl ⟨_, rfl⟩) (wsP_96_0 hs) ?_
    refine sp_sipush (v := 1000) dX2_readPart_15 (by decide) ?_
    obtain ⟨v2, hv2, h⟩ := Option.bind_eq_some_iff.mp h
    refine sp_cV (M1 := M) (r := some (.int v2)) (o := 94) (st := []) (c := 7) (RX8, TX8, 5) [.int 1000] [.int 1000, .ref 94] [.int v2] dX2_readPart_18 okX8_numberTo tw_759 tw_760 tw_761 (by decide) (by decide) rfl (Nat.le_of_ble_eq_true rfl) rfl rfl rfl rfl (wsI_94 hs) (fun Q hQ => tX8_numberTo hG hv2 hQ) ?_
    refine sp_istore_n [some (.ref 96), some (.int v2), none, none] dX2_readPart_21 rfl (by decide) rfl ?_
    refine sp_iload_n dX2_readPart_22 rfl rfl ?_
    refine sp_iconst (v := (-1)) dX2_readPart_23 (by decide) ?_
    refine sp_icmp_ne (tgt := 118) dX2_readPart_24 (by decide) (fun hc3 => ?_) (fun hc3 => ?_)
    · have h := (if_neg hc3).symm.trans h
      refine sp_iload_n dX2_readPart_118 rfl rfl ?_
      refine sp_sipush (v := 1000) dX2_readPart_119 (by decide) ?_
      refine sp_icmp_le (tgt := 127) dX2_readPart_122 (by decide) (fun hc4 => ?_) (fun hc4 => ?_)
      · have h := (if_pos hc4).symm.trans h
        refine sp_aload_n dX2_readPart_127 rfl rfl ?_
        refine sp_getR (RX2, TX2, 9) dX2_readPart_128 clX2 (j := 1) (by decide) tw_387 (wsI_96 hs) (Or.inl ⟨_, rfl⟩) (wsP_96_1 hs) ?_
        refine sp_iconst (v := 1) dX2_readPart_131 (by decide) ?_
        refine sp_iload_n dX2_readPart_132 rfl rfl ?_
        obtain ⟨M5, hM5, h⟩ := Option.bind_eq_some_iff.mp h
        refine sp_cV (M1 := M5) (r := none) (o := 97) (st := []) (c := 8) (RX9, TX9, 4) [.int 1, .int v2] [.int v2, .int 1, .ref 97] [] dX2_readPart_133 okX9_addStep tw_765 tw_766 tw_767 (by decide) (by decide) rfl (Nat.le_of_ble_eq_true rfl) rfl rfl rfl rfl (wsI_97 hs) (fun Q hQ => tX9_addStep hG (fun M ho => text_97 (hG.1 M ho)) hM5 hQ) ?_
        refine sp_weak [true, false, false, false] [some (.ref 96), none, none, none] rfl ?_
        exact tX2_readPart_j136 hG hQ _ h
      · have h := (if_neg hc4).symm.trans h
        refine sp_iconst (v := 0) dX2_readPart_125 (by decide) ?_
        cases h
        exact sp_iret dX2_readPart_126 (ty := .boolean) rfl (sp_nz (Or.inl rfl)) (fun _ => hQ)
    · have h := (if_pos hc3).symm.trans h
      refine sp_aload_n dX2_readPart_27 rfl rfl ?_
      refine sp_getR (RX2, TX2, 9) dX2_readPart_28 clX2 (j := 0) (by decide) tw_386 (wsI_96 hs) (Or.inl ⟨_, rfl⟩) (wsP_96_0 hs) ?_
      refine sp_aload_n dX2_readPart_31 rfl rfl ?_
      refine sp_getI (RX2, TX2, 9) dX2_readPart_32 clX2 (j := 7) (by decide) tw_394 (wsI_96 hs) (Or.inr rfl) ?_
      refine sp_if_eq (tgt := 43) dX2_readPart_35 (by decide) (fun hc9 => ?_) (fun hc9 => ?_)
      · have h := (if_pos hc9).symm.trans h
        refine sp_ldcS (j := 8) dX2_readPart_43 rfl rfl ?_
        refine sp_weak [true, false, false, false] [some (.ref 96), none, none, none] rfl ?_
        exact tX2_readPart_j45 hG hQ _ h
      · have h := (if_neg hc9).symm.trans h
        refine sp_ldcS (j := 7) dX2_readPart_38 rfl rfl ?_
        refine sp_goto (tgt := 45) dX2_readPart_40 (by decide) ?_
        refine sp_weak [true, false, false, false] [some (.ref 96), none, none, none] rfl ?_
        exact tX2_readPart_j45_3 hG hQ _ h
  · have h := (if_neg hc1).symm.trans h
    refine sp_iconst (v := 0) dX2_readPart_9 (by decide) ?_
    cases h
    exact sp_iret dX2_readPart_10 (ty := .boolean) rfl (sp_nz (Or.inl rfl)) (fun _ => hQ)
def fX2_joiningStep (F : Nat) (M0 : sp_Mem) : Option Int32 :=
  if (sp_I M0 94 2) = 1 then ((fX8_placeIn F M0 9).bind fun v29 => some (if v29 = (-1) then (-1) else (if v29 = 0 then 12 else 13))) else ((fX8_byteAt M0 (sp_I M0 94 3)).bind fun v2 => if v2 = 37 then (some 7) else if v2 = 42 then (some 5) else if v2 = 43 then (some 3) else if v2 = 45 then (some 4) else if v2 = 47 then (some 6) else if v2 = 60 then (some 8) else if v2 = 61 then (some 10) else if v2 = 62 then (some 9) else (some (-1)))
set_option maxRecDepth 100000 in
set_option maxHeartbeats 4000000 in
theorem tX2_joiningStep {g : sp_G} {Ω : sp_Mem → Prop} {Q : sp_Qt} {F : Nat} {M0 : sp_Mem} {p : Int32} (hG : sp_Ok Ω) (h : fX2_joiningStep F M0 = some p) (hQ : Q (some (.int p)) M0) : sp_Mt g Ω mX2_joiningStep 0 0 [.ref 96] M0 Q := by
  unfold fX2_joiningStep at h
  refine sp_Mt.of [some (.ref 96), none] (by decide) (by simp [sp_ent, Value.category]) rfl ?_
  refine sp_aload_n dX2_joiningStep_0 rfl rfl ?_
  refine sp_use (fun ho => ?_)
  have hs := hG.1 _ ho
  refine sp_getR (RX2, TX2, 9) dX2_joiningStep_1 clX2 (j := 0) (by decide) tw_386 (wsI_96 hs) (Or.inl ⟨_, rfl⟩) (wsP_96_0 hs) ?_
  refine sp_getI (RX8, TX8, 5) dX2_joiningStep_4 clX8 (j := 2) (by decide) tw_340 (wsI_94 hs) (Or.inl rfl) ?_
  refine sp_iconst (v := 1) dX2_joiningStep_7 (by decide) ?_
  refine sp_icmp_ne (tgt := 42) dX2_joiningStep_8 (by decide) (fun hc1 => ?_) (fun hc1 => ?_)
  · have h := (if_neg hc1).symm.trans h
    refine sp_aload_n dX2_joiningStep_42 rfl rfl ?_
    refine sp_getR (RX2, TX2, 9) dX2_joiningStep_43 clX2 (j := 0) (by decide) tw_386 (wsI_96 hs) (Or.inl ⟨_, rfl⟩) (wsP_96_0 hs) ?_
    refine sp_aload_n dX2_joiningStep_46 rfl rfl ?_
    refine sp_getR (RX2, TX2, 9) dX2_joiningStep_47 clX2 (j := 0) (by decide) tw_386 (wsI_96 hs) (Or.inl ⟨_, rfl⟩) (wsP_96_0 hs) ?_
    refine sp_getI (RX8, TX8, 5) dX2_joiningStep_50 clX8 (j := 3) (by decide) tw_342 (wsI_94 hs) (Or.inl rfl) ?_
    obtain ⟨v2, hv2, h⟩ := Option.bind_eq_some_iff.mp h
    refine sp_cV (M1 := M0) (r := some (.int v2)) (o := 94) (st := []) (c := 7) (RX8, TX8, 5) [.int (sp_I M0 94 3)] [.int (sp_I M0 94 3), .ref 94] [.int v2] dX2_joiningStep_53 okX8_byteAt tw_778 tw_628 tw_629 (by decide) (by decide) rfl (Nat.le_of_ble_eq_true rfl) rfl rfl rfl rfl (wsI_94 hs) (fun Q hQ => tX8_byteAt hG hv2 hQ) ?_
    by_cases hc3 : v2 = 37
    · have h := (if_pos hc3).symm.trans h
      refine sp_tswI (tgt := 185) dX2_joiningStep_56 (by rw [hc3]; decide) (by rw [hc3]; decide) (by rw [hc3]; rfl) (by decide) ?_
      refine sp_bipush (v := 7) dX2_joiningStep_185 (by decide) ?_
      cases h
      exact sp_iret dX2_joiningStep_187 (ty := .int) rfl rfl (fun _ => hQ)
    have h := (if_neg hc3).symm.trans h
    by_cases hc4 : v2 = 42
    · have h := (if_pos hc4).symm.trans h
      refine sp_tswI (tgt := 180) dX2_joiningStep_56 (by rw [hc4]; decide) (by rw [hc4]; decide) (by rw [hc4]; rfl) (by decide) ?_
      refine sp_iconst (v := 5) dX2_joiningStep_180 (by decide) ?_
      cases h
      exact sp_iret dX2_joiningStep_181 (ty := .int) rfl rfl (fun _ => hQ)
    have h := (if_neg hc4).symm.trans h
    by_cases hc5 : v2 = 43
    · have h := (if_pos hc5).symm.trans h
      refine sp_tswI (tgt := 176) dX2_joiningStep_56 (by rw [hc5]; decide) (by rw [hc5]; decide) (by rw [hc5]; rfl) (by decide) ?_
      refine sp_iconst (v := 3) dX2_joiningStep_176 (by decide) ?_
      cases h
      exact sp_iret dX2_joiningStep_177 (ty := .int) rfl rfl (fun _ => hQ)
    have h := (if_neg hc5).symm.trans h
    by_cases hc6 : v2 = 45
    · have h := (if_pos hc6).symm.trans h
      refine sp_tswI (tgt := 178) dX2_joiningStep_56 (by rw [hc6]; decide) (by rw [hc6]; decide) (by rw [hc6]; rfl) (by decide) ?_
      refine sp_iconst (v := 4) dX2_joiningStep_178 (by decide) ?_
      cases h
      exact sp_iret dX2_joiningStep_179 (ty := .int) rfl rfl (fun _ => hQ)
    have h := (if_neg hc6).symm.trans h
    by_cases hc7 : v2 = 47
    · have h := (if_pos hc7).symm.trans h
      refine sp_tswI (tgt := 182) dX2_joiningStep_56 (by rw [hc7]; decide) (by rw [hc7]; decide) (by rw [hc7]; rfl) (by decide) ?_
      refine sp_bipush (v := 6) dX2_joiningStep_182 (by decide) ?_
      cases h
      exact sp_iret dX2_joiningStep_184 (ty := .int) rfl rfl (fun _ => hQ)
    have h := (if_neg hc7).symm.trans h
    by_cases hc8 : v2 = 60
    · have h := (if_pos hc8).symm.trans h
      refine sp_tswI (tgt := 188) dX2_joiningStep_56 (by rw [hc8]; decide) (by rw [hc8]; decide) (by rw [hc8]; rfl) (by decide) ?_
      refine sp_bipush (v := 8) dX2_joiningStep_188 (by decide) ?_
      cases h
      exact sp_iret dX2_joiningStep_190 (ty := .int) rfl rfl (fun _ => hQ)
    have h := (if_neg hc8).symm.trans h
    by_cases hc9 : v2 = 61
    · have h := (if_pos hc9).symm.trans h
      refine sp_tswI (tgt := 194) dX2_joiningStep_56 (by rw [hc9]; decide) (by rw [hc9]; decide) (by rw [hc9]; rfl) (by decide) ?_
      refine sp_bipush (v := 10) dX2_joiningStep_194 (by decide) ?_
      cases h
      exact sp_iret dX2_joiningStep_196 (ty := .int) rfl rfl (fun _ => hQ)
    have h := (if_neg hc9).symm.trans h
    by_cases hc10 : v2 = 62
    · have h := (if_pos hc10).symm.trans h
      refine sp_tswI (tgt := 191) dX2_joiningStep_56 (by rw [hc10]; decide) (by rw [hc10]; decide) (by rw [hc10]; rfl) (by decide) ?_
      refine sp_bipush (v := 9) dX2_joiningStep_191 (by decide) ?_
      cases h
      exact sp_iret dX2_joiningStep_193 (ty := .int) rfl rfl (fun _ => hQ)
    have h := (if_neg hc10).symm.trans h
    suffices hj : sp_Wp g Ω mX2_joiningStep 0 0 197 [some (.ref 96), none] [] M0 Q by
      by_cases hc11 : v2 = 38
      · exact sp_tswI (tgt := 197) dX2_joiningStep_56 (by rw [hc11]; decide) (by rw [hc11]; decide) (by rw [hc11]; rfl) (by decide) hj
      by_cases hc12 : v2 = 39
      · exact sp_tswI (tgt := 197) dX2_joiningStep_56 (by rw [hc12]; decide) (by rw [hc12]; decide) (by rw [hc12]; rfl) (by decide) hj
      by_cases hc13 : v2 = 40
      · exact sp_tswI (tgt := 197) dX2_joiningStep_56 (by rw [hc13]; decide) (by rw [hc13]; decide) (by rw [hc13]; rfl) (by decide) hj
      by_cases hc14 : v2 = 41
      · exact sp_tswI (tgt := 197) dX2_joiningStep_56 (by rw [hc14]; decide) (by rw [hc14]; decide) (by rw [hc14]; rfl) (by decide) hj
      by_cases hc15 : v2 = 44
      · exact sp_tswI (tgt := 197) dX2_joiningStep_56 (by rw [hc15]; decide) (by rw [hc15]; decide) (by rw [hc15]; rfl) (by decide) hj
      by_cases hc16 : v2 = 46
      · exact sp_tswI (tgt := 197) dX2_joiningStep_56 (by rw [hc16]; decide) (by rw [hc16]; decide) (by rw [hc16]; rfl) (by decide) hj
      by_cases hc17 : v2 = 48
      · exact sp_tswI (tgt := 197) dX2_joiningStep_56 (by rw [hc17]; decide) (by rw [hc17]; decide) (by rw [hc17]; rfl) (by decide) hj
      by_cases hc18 : v2 = 49
      · exact sp_tswI (tgt := 197) dX2_joiningStep_56 (by rw [hc18]; decide) (by rw [hc18]; decide) (by rw [hc18]; rfl) (by decide) hj
      by_cases hc19 : v2 = 50
      · exact sp_tswI (tgt := 197) dX2_joiningStep_56 (by rw [hc19]; decide) (by rw [hc19]; decide) (by rw [hc19]; rfl) (by decide) hj
      by_cases hc20 : v2 = 51
      · exact sp_tswI (tgt := 197) dX2_joiningStep_56 (by rw [hc20]; decide) (by rw [hc20]; decide) (by rw [hc20]; rfl) (by decide) hj
      by_cases hc21 : v2 = 52
      · exact sp_tswI (tgt := 197) dX2_joiningStep_56 (by rw [hc21]; decide) (by rw [hc21]; decide) (by rw [hc21]; rfl) (by decide) hj
      by_cases hc22 : v2 = 53
      · exact sp_tswI (tgt := 197) dX2_joiningStep_56 (by rw [hc22]; decide) (by rw [hc22]; decide) (by rw [hc22]; rfl) (by decide) hj
      by_cases hc23 : v2 = 54
      · exact sp_tswI (tgt := 197) dX2_joiningStep_56 (by rw [hc23]; decide) (by rw [hc23]; decide) (by rw [hc23]; rfl) (by decide) hj
      by_cases hc24 : v2 = 55
      · exact sp_tswI (tgt := 197) dX2_joiningStep_56 (by rw [hc24]; decide) (by rw [hc24]; decide) (by rw [hc24]; rfl) (by decide) hj
      by_cases hc25 : v2 = 56
      · exact sp_tswI (tgt := 197) dX2_joiningStep_56 (by rw [hc25]; decide) (by rw [hc25]; decide) (by rw [hc25]; rfl) (by decide) hj
      by_cases hc26 : v2 = 57
      · exact sp_tswI (tgt := 197) dX2_joiningStep_56 (by rw [hc26]; decide) (by rw [hc26]; decide) (by rw [hc26]; rfl) (by decide) hj
      by_cases hc27 : v2 = 58
      · exact sp_tswI (tgt := 197) dX2_joiningStep_56 (by rw [hc27]; decide) (by rw [hc27]; decide) (by rw [hc27]; rfl) (by decide) hj
      by_cases hc28 : v2 = 59
      · exact sp_tswI (tgt := 197) dX2_joiningStep_56 (by rw [hc28]; decide) (by rw [hc28]; decide) (by rw [hc28]; rfl) (by decide) hj
      have hc3 := sp_ne hc3 (show (37 : Int32).toInt = 37 by decide)
      have hc4 := sp_ne hc4 (show (42 : Int32).toInt = 42 by decide)
      have hc5 := sp_ne hc5 (show (43 : Int32).toInt = 43 by decide)
      have hc6 := sp_ne hc6 (show (45 : Int32).toInt = 45 by decide)
      have hc7 := sp_ne hc7 (show (47 : Int32).toInt = 47 by decide)
      have hc8 := sp_ne hc8 (show (60 : Int32).toInt = 60 by decide)
      have hc9 := sp_ne hc9 (show (61 : Int32).toInt = 61 by decide)
      have hc10 := sp_ne hc10 (show (62 : Int32).toInt = 62 by decide)
      have hc11 := sp_ne hc11 (show (38 : Int32).toInt = 38 by decide)
      have hc12 := sp_ne hc12 (show (39 : Int32).toInt = 39 by decide)
      have hc13 := sp_ne hc13 (show (40 : Int32).toInt = 40 by decide)
      have hc14 := sp_ne hc14 (show (41 : Int32).toInt = 41 by decide)
      have hc15 := sp_ne hc15 (show (44 : Int32).toInt = 44 by decide)
      have hc16 := sp_ne hc16 (show (46 : Int32).toInt = 46 by decide)
      have hc17 := sp_ne hc17 (show (48 : Int32).toInt = 48 by decide)
      have hc18 := sp_ne hc18 (show (49 : Int32).toInt = 49 by decide)
      have hc19 := sp_ne hc19 (show (50 : Int32).toInt = 50 by decide)
      have hc20 := sp_ne hc20 (show (51 : Int32).toInt = 51 by decide)
      have hc21 := sp_ne hc21 (show (52 : Int32).toInt = 52 by decide)
      have hc22 := sp_ne hc22 (show (53 : Int32).toInt = 53 by decide)
      have hc23 := sp_ne hc23 (show (54 : Int32).toInt = 54 by decide)
      have hc24 := sp_ne hc24 (show (55 : Int32).toInt = 55 by decide)
      have hc25 := sp_ne hc25 (show (56 : Int32).toInt = 56 by decide)
      have hc26 := sp_ne hc26 (show (57 : Int32).toInt = 57 by decide)
      have hc27 := sp_ne hc27 (show (58 : Int32).toInt = 58 by decide)
      have hc28 := sp_ne hc28 (show (59 : Int32).toInt = 59 by decide)
      exact sp_tswO (tgt := 197) dX2_joiningStep_56 (by omega) (by decide) hj
    refine sp_iconst (v := (-1)) dX2_joiningStep_197 (by decide) ?_
    cases h
    exact sp_iret dX2_joiningStep_198 (ty := .int) rfl rfl (fun _ => hQ)
  · have h := (if_pos hc1).symm.trans h
    refine sp_aload_n dX2_joiningStep_11 rfl rfl ?_
    refine sp_getR (RX2, TX2, 9) dX2_joiningStep_12 clX2 (j := 0) (by decide) tw_386 (wsI_96 hs) (Or.inl ⟨_, rfl⟩) (wsP_96_0 hs) ?_
    refine sp_ldcS (j := 9) dX2_joiningStep_15 rfl rfl ?_
    obtain ⟨v29, hv29, h⟩ := Option.bind_eq_some_iff.mp h
    refine sp_cV (M1 := M0) (r := some (.int v29)) (o := 94) (st := []) (c := 7) (RX8, TX8, 5) [.ref (1000000 + 9)] [.ref (1000000 + 9), .ref 94] [.int v29] dX2_joiningStep_17 okX8_placeIn tw_665 tw_666 tw_667 (by decide) (by decide) rfl (Nat.le_of_ble_eq_true rfl) rfl rfl rfl rfl (wsI_94 hs) (fun Q hQ => tX8_placeIn hG (by decide) hv29 hQ) ?_
    refine sp_istore_n [some (.ref 96), some (.int v29)] dX2_joiningStep_20 rfl (by decide) rfl ?_
    refine sp_iload_n dX2_joiningStep_21 rfl rfl ?_
    refine sp_iconst (v := (-1)) dX2_joiningStep_22 (by decide) ?_
    suffices hj : sp_Wp g Ω mX2_joiningStep 0 0 41 [none, none] [.int (if v29 = (-1) then (-1) else (if v29 = 0 then 12 else 13))] M0 Q by
      refine sp_icmp_ne (tgt := 30) dX2_joiningStep_23 (by decide) (fun hc30 => ?_) (fun hc30 => ?_)
      · refine sp_iload_n dX2_joiningStep_30 rfl rfl ?_
        refine sp_if_ne (tgt := 39) dX2_joiningStep_31 (by decide) (fun hc31 => ?_) (fun hc31 => ?_)
        · refine sp_bipush (v := 13) dX2_joiningStep_39 (by decide) ?_
          refine sp_weak [false, false] [none, none] rfl ?_
          simp only [if_neg hc30, if_neg hc31] at hj
          exact hj
        · refine sp_bipush (v := 12) dX2_joiningStep_34 (by decide) ?_
          refine sp_goto (tgt := 41) dX2_joiningStep_36 (by decide) ?_
          refine sp_weak [false, false] [none, none] rfl ?_
          simp only [if_neg hc30, if_pos hc31] at hj
          exact hj
      · refine sp_iconst (v := (-1)) dX2_joiningStep_26 (by decide) ?_
        refine sp_goto (tgt := 41) dX2_joiningStep_27 (by decide) ?_
        refine sp_weak [false, false] [none, none] rfl ?_
        simp only [if_pos hc30] at hj
        exact hj
    cases h
    exact sp_iret dX2_joiningStep_41 (ty := .int) rfl rfl (fun _ => hQ)
def fX9_aimHere (M : sp_Mem) (o0 : Nat) (a1 : Int32) : Option sp_Mem :=
  if a1 < 0 then (some M) else (if (sp_I M o0 3) ≤ a1 then (some M) else ((sp_ix (sp_N M (o0 + 2)) a1).bind fun j3 => (sp_ix (sp_N M (o0 + 2)) a1).bind fun j4 => sp_do (sp_setI M (o0 + 2) j4 (((sp_I M o0 3) <<< (5 &&& 31)) ||| ((sp_I M (o0 + 2) j3) &&& 31))) fun M5 => some M5))
set_option maxRecDepth 100000 in
set_option maxHeartbeats 4000000 in
theorem tX9_aimHere {g : sp_G} {Ω : sp_Mem → Prop} {Q : sp_Qt} {p : sp_Mem} (hG : sp_Ok Ω) {o0 : Nat} (ho0 : ∀ M, Ω M → sp_text M o0) {M : sp_Mem} {a1 : Int32} (h : fX9_aimHere M o0 a1 = some p) (hQ : Q none p) : sp_Mt g Ω mX9_aimHere 0 0 [.ref o0, .int a1] M Q := by
  unfold fX9_aimHere at h
  refine sp_Mt.of [some (.ref o0), some (.int a1)] (by decide) (by simp [sp_ent, Value.category]) rfl ?_
  refine sp_iload_n dX9_aimHere_0 rfl rfl ?_
  refine sp_if_lt (tgt := 34) dX9_aimHere_1 (by decide) (fun hc1 => ?_) (fun hc1 => ?_)
  · have h := (if_pos hc1).symm.trans h
    cases h
    exact sp_vret dX9_aimHere_34 rfl (fun _ => hQ)
  · have h := (if_neg hc1).symm.trans h
    refine sp_iload_n dX9_aimHere_4 rfl rfl ?_
    refine sp_aload_n dX9_aimHere_5 rfl rfl ?_
    refine sp_use (fun ho => ?_)
    have hs := hG.1 _ ho
    refine sp_getI (RX9, TX9, 4) dX9_aimHere_6 clX9 (j := 3) (by decide) tw_375 (ho0 _ ho).1 (Or.inl rfl) ?_
    refine sp_icmp_ge (tgt := 34) dX9_aimHere_9 (by decide) (fun hc2 => ?_) (fun hc2 => ?_)
    · have h := (if_pos hc2).symm.trans h
      cases h
      exact sp_vret dX9_aimHere_34 rfl (fun _ => hQ)
    · have h := (if_neg hc2).symm.trans h
      refine sp_aload_n dX9_aimHere_12 rfl rfl ?_
      refine sp_getR (RX9, TX9, 4) dX9_aimHere_13 clX9 (j := 1) (by decide) tw_369 (ho0 _ ho).1 (Or.inr ⟨_, rfl⟩) (ho0 _ ho).2.2.1 ?_
      refine sp_iload_n dX9_aimHere_16 rfl rfl ?_
      refine sp_aload_n dX9_aimHere_17 rfl rfl ?_
      refine sp_getI (RX9, TX9, 4) dX9_aimHere_18 clX9 (j := 3) (by decide) tw_375 (ho0 _ ho).1 (Or.inl rfl) ?_
      refine sp_iconst (v := 5) dX9_aimHere_21 (by decide) ?_
      refine sp_ishl dX9_aimHere_22 ?_
      refine sp_aload_n dX9_aimHere_23 rfl rfl ?_
      refine sp_getR (RX9, TX9, 4) dX9_aimHere_24 clX9 (j := 1) (by decide) tw_369 (ho0 _ ho).1 (Or.inr ⟨_, rfl⟩) (ho0 _ ho).2.2.1 ?_
      refine sp_iload_n dX9_aimHere_27 rfl rfl ?_
      obtain ⟨j3, hj3, h⟩ := Option.bind_eq_some_iff.mp h
      refine sp_iald2 (j := j3) dX9_aimHere_28 (ho0 _ ho).2.2.2.2 rfl hj3 ?_
      refine sp_bipush (v := 31) dX9_aimHere_29 (by decide) ?_
      refine sp_iand dX9_aimHere_31 ?_
      refine sp_ior dX9_aimHere_32 ?_
      obtain ⟨j4, hj4, h⟩ := Option.bind_eq_some_iff.mp h
      obtain ⟨M5, hM5, h⟩ := sp_do_e h
      refine sp_iast2 (j := j4) hG dX9_aimHere_33 (ho0 _ ho).2.2.2.2 rfl hj4 hM5 ?_
      cases h
      exact sp_vret dX9_aimHere_34 rfl (fun _ => hQ)
def fX2_fold_j35 (F : Nat) (kb : Int32 → sp_Mem → Option sp_Mem) (kx : sp_Mem → Option sp_Mem) (a1 : Int32) (M : sp_Mem) : Option sp_Mem :=
  (sp_ix 160 ((sp_I M 96 4) - 1)).bind fun j6 => (fX9_aimHere M 97 (sp_I M 101 j6)).bind fun M7 => sp_do (sp_setI M7 96 4 ((sp_I M7 96 4) - 1)) fun M8 => kb a1 M8
def fX2_fold_l0 (F : Nat) (kx : sp_Mem → Option sp_Mem) : Nat → Int32 → sp_Mem → Option sp_Mem
  | 0, _, _ => none
  | n + 1, a1, M =>
  if (sp_I M 96 4) ≤ 0 then (kx M) else ((fX2_top M).bind fun v2 => if (fX2_bindingOf v2) < a1 then (kx M) else ((fX2_top M).bind fun v4 => if v4 = 12 then (fX2_fold_j35 F (fX2_fold_l0 F kx n) kx a1 M) else (if v4 = 13 then (fX2_fold_j35 F (fX2_fold_l0 F kx n) kx a1 M) else ((fX9_addStep M 97 v4 0).bind fun M10 => sp_do (sp_setI M10 96 4 ((sp_I M10 96 4) - 1)) fun M11 => (fX2_fold_l0 F kx n) a1 M11))))
def fX2_fold (F : Nat) (M : sp_Mem) (a1 : Int32) : Option sp_Mem :=
  fX2_fold_l0 F (fun M12 => some M12) F a1 M
set_option maxRecDepth 100000 in
set_option maxHeartbeats 4000000 in
theorem tX2_fold_j35 {g : sp_G} {Ω : sp_Mem → Prop} {Q : sp_Qt} {F : Nat} {p : sp_Mem} (hG : sp_Ok Ω)  {kb : Int32 → sp_Mem → Option sp_Mem} {kx : sp_Mem → Option sp_Mem} (hQ : Q none p) (hb : ∀ (a1 : Int32) (M : sp_Mem), kb a1 M = some p → sp_Wp g Ω mX2_fold 0 0 0 [some (.ref 96), some (.int a1), none] [] M Q) (hx : ∀  (M : sp_Mem), kx M = some p → sp_Wp g Ω mX2_fold 0 0 78 [none, none, none] [] M Q) (a1 : Int32) (M : sp_Mem) (h : fX2_fold_j35 F kb kx a1 M = some p) : sp_Wp g Ω mX2_fold 0 0 35 [some (.ref 96), some (.int a1), none] [] M Q := by
  unfold fX2_fold_j35 at h
  refine sp_aload_n dX2_fold_35 rfl rfl ?_
  refine sp_use (fun ho => ?_)
  have hs := hG.1 _ ho
  refine sp_getR (RX2, TX2, 9) dX2_fold_36 clX2 (j := 1) (by decide) tw_387 (wsI_96 hs) (Or.inl ⟨_, rfl⟩) (wsP_96_1 hs) ?_
  refine sp_aload_n dX2_fold_39 rfl rfl ?_
  refine sp_getR (RX2, TX2, 9) dX2_fold_40 clX2 (j := 3) (by decide) tw_390 (wsI_96 hs) (Or.inr ⟨_, rfl⟩) (wsP_96_3 hs) ?_
  refine sp_aload_n dX2_fold_43 rfl rfl ?_
  refine sp_getI (RX2, TX2, 9) dX2_fold_44 clX2 (j := 4) (by decide) tw_391 (wsI_96 hs) (Or.inl rfl) ?_
  refine sp_iconst (v := 1) dX2_fold_47 (by decide) ?_
  refine sp_isub dX2_fold_48 ?_
  obtain ⟨j6, hj6, h⟩ := Option.bind_eq_some_iff.mp h
  refine sp_iald2 (j := j6) dX2_fold_49 (wsA_101 hs) (wsN_101 hs) hj6 ?_
  obtain ⟨M7, hM7, h⟩ := Option.bind_eq_some_iff.mp h
  refine sp_cV (M1 := M7) (r := none) (o := 97) (st := []) (c := 8) (RX9, TX9, 4) [.int (sp_I M 101 j6)] [.int (sp_I M 101 j6), .ref 97] [] dX2_fold_50 okX9_aimHere tw_783 tw_784 tw_785 (by decide) (by decide) rfl (Nat.le_of_ble_eq_true rfl) rfl rfl rfl rfl (wsI_97 hs) (fun Q hQ => tX9_aimHere hG (fun M ho => text_97 (hG.1 M ho)) hM7 hQ) ?_
  refine sp_goto (tgt := 65) dX2_fold_53 (by decide) ?_
  refine sp_aload_n dX2_fold_65 rfl rfl ?_
  refine sp_dup dX2_fold_66 rfl ?_
  refine sp_use (fun ho => ?_)
  have hs := hG.1 _ ho
  refine sp_getI (RX2, TX2, 9) dX2_fold_67 clX2 (j := 4) (by decide) tw_391 (wsI_96 hs) (Or.inl rfl) ?_
  refine sp_iconst (v := 1) dX2_fold_70 (by decide) ?_
  refine sp_isub dX2_fold_71 ?_
  obtain ⟨M8, hM8, h⟩ := sp_do_e h
  refine sp_putI2 (RX2, TX2, 9) hG dX2_fold_72 clX2 (j := 4) (by decide) tw_391 rfl (Or.inl rfl) (wsI_96 hs) hM8 ?_
  refine sp_goto (tgt := 0) dX2_fold_75 (by decide) ?_
  refine sp_weak [true, true, false] [some (.ref 96), some (.int a1), none] rfl ?_
  exact hb _ _ h
set_option maxRecDepth 100000 in
set_option maxHeartbeats 4000000 in
theorem tX2_fold_l0 {g : sp_G} {Ω : sp_Mem → Prop} {Q : sp_Qt} {F : Nat} {p : sp_Mem} (hG : sp_Ok Ω)  {kx : sp_Mem → Option sp_Mem} (hQ : Q none p) (hx : ∀  (M : sp_Mem), kx M = some p → sp_Wp g Ω mX2_fold 0 0 78 [none, none, none] [] M Q) : ∀ (n : Nat) (a1 : Int32) (M : sp_Mem), fX2_fold_l0 F kx n a1 M = some p → sp_Wp g Ω mX2_fold 0 0 0 [some (.ref 96), some (.int a1), none] [] M Q := by
  intro n
  induction n with
  | zero =>
    intro a1 M h
    rw [fX2_fold_l0] at h
    cases h
  | succ n ih =>
    intro a1 M h
    rw [fX2_fold_l0] at h
    refine sp_aload_n dX2_fold_0 rfl rfl ?_
    refine sp_use (fun ho => ?_)
    have hs := hG.1 _ ho
    refine sp_getI (RX2, TX2, 9) dX2_fold_1 clX2 (j := 4) (by decide) tw_391 (wsI_96 hs) (Or.inl rfl) ?_
    refine sp_if_le (tgt := 78) dX2_fold_4 (by decide) (fun hc1 => ?_) (fun hc1 => ?_)
    · have h := (if_pos hc1).symm.trans h
      refine sp_weak [false, false, false] [none, none, none] rfl ?_
      exact hx _ h
    · have h := (if_neg hc1).symm.trans h
      refine sp_aload_n dX2_fold_7 rfl rfl ?_
      obtain ⟨v2, hv2, h⟩ := Option.bind_eq_some_iff.mp h
      refine sp_cV (M1 := M) (r := some (.int v2)) (o := 96) (st := []) (c := 2) (RX2, TX2, 9) [] [.ref 96] [.int v2] dX2_fold_8 okX2_top tw_747 tw_749 tw_9 (by decide) (by decide) rfl (Nat.le_of_ble_eq_true rfl) rfl rfl rfl rfl (wsI_96 hs) (fun Q hQ => tX2_top hG hv2 hQ) ?_
      refine sp_cS (M1 := M) (r := some (.int (fX2_bindingOf v2))) (st := []) [.int v2] [.int v2] [.int (fX2_bindingOf v2)] dX2_fold_11 okX2_bindingOf tw_751 tw_752 (by decide) (by decide) rfl (Nat.le_of_ble_eq_true rfl) rfl rfl (fun Q hQ => tX2_bindingOf hG rfl hQ) ?_
      refine sp_iload_n dX2_fold_14 rfl rfl ?_
      refine sp_icmp_lt (tgt := 78) dX2_fold_15 (by decide) (fun hc3 => ?_) (fun hc3 => ?_)
      · have h := (if_pos hc3).symm.trans h
        refine sp_weak [false, false, false] [none, none, none] rfl ?_
        exact hx _ h
      · have h := (if_neg hc3).symm.trans h
        refine sp_aload_n dX2_fold_18 rfl rfl ?_
        obtain ⟨v4, hv4, h⟩ := Option.bind_eq_some_iff.mp h
        refine sp_cV (M1 := M) (r := some (.int v4)) (o := 96) (st := []) (c := 2) (RX2, TX2, 9) [] [.ref 96] [.int v4] dX2_fold_19 okX2_top tw_747 tw_749 tw_9 (by decide) (by decide) rfl (Nat.le_of_ble_eq_true rfl) rfl rfl rfl rfl (wsI_96 hs) (fun Q hQ => tX2_top hG hv4 hQ) ?_
        refine sp_istore_n [some (.ref 96), some (.int a1), some (.int v4)] dX2_fold_22 rfl (by decide) rfl ?_
        refine sp_iload_n dX2_fold_23 rfl rfl ?_
        refine sp_bipush (v := 12) dX2_fold_24 (by decide) ?_
        refine sp_icmp_eq (tgt := 35) dX2_fold_26 (by decide) (fun hc5 => ?_) (fun hc5 => ?_)
        · have h := (if_pos hc5).symm.trans h
          refine sp_weak [true, true, false] [some (.ref 96), some (.int a1), none] rfl ?_
          exact tX2_fold_j35 hG hQ ih hx _ _ h
        · have h := (if_neg hc5).symm.trans h
          refine sp_iload_n dX2_fold_29 rfl rfl ?_
          refine sp_bipush (v := 13) dX2_fold_30 (by decide) ?_
          refine sp_icmp_ne (tgt := 56) dX2_fold_32 (by decide) (fun hc9 => ?_) (fun hc9 => ?_)
          · have h := (if_neg hc9).symm.trans h
            refine sp_aload_n dX2_fold_56 rfl rfl ?_
            refine sp_getR (RX2, TX2, 9) dX2_fold_57 clX2 (j := 1) (by decide) tw_387 (wsI_96 hs) (Or.inl ⟨_, rfl⟩) (wsP_96_1 hs) ?_
            refine sp_iload_n dX2_fold_60 rfl rfl ?_
            refine sp_iconst (v := 0) dX2_fold_61 (by decide) ?_
            obtain ⟨M10, hM10, h⟩ := Option.bind_eq_some_iff.mp h
            refine sp_cV (M1 := M10) (r := none) (o := 97) (st := []) (c := 8) (RX9, TX9, 4) [.int v4, .int 0] [.int 0, .int v4, .ref 97] [] dX2_fold_62 okX9_addStep tw_765 tw_766 tw_767 (by decide) (by decide) rfl (Nat.le_of_ble_eq_true rfl) rfl rfl rfl rfl (wsI_97 hs) (fun Q hQ => tX9_addStep hG (fun M ho => text_97 (hG.1 M ho)) hM10 hQ) ?_
            refine sp_aload_n dX2_fold_65 rfl rfl ?_
            refine sp_dup dX2_fold_66 rfl ?_
            refine sp_use (fun ho => ?_)
            have hs := hG.1 _ ho
            refine sp_getI (RX2, TX2, 9) dX2_fold_67 clX2 (j := 4) (by decide) tw_391 (wsI_96 hs) (Or.inl rfl) ?_
            refine sp_iconst (v := 1) dX2_fold_70 (by decide) ?_
            refine sp_isub dX2_fold_71 ?_
            obtain ⟨M11, hM11, h⟩ := sp_do_e h
            refine sp_putI2 (RX2, TX2, 9) hG dX2_fold_72 clX2 (j := 4) (by decide) tw_391 rfl (Or.inl rfl) (wsI_96 hs) hM11 ?_
            refine sp_goto (tgt := 0) dX2_fold_75 (by decide) ?_
            refine sp_weak [true, true, false] [some (.ref 96), some (.int a1), none] rfl ?_
            exact ih _ _ h
          · have h := (if_pos hc9).symm.trans h
            refine sp_weak [true, true, false] [some (.ref 96), some (.int a1), none] rfl ?_
            exact tX2_fold_j35 hG hQ ih hx _ _ h
set_option maxRecDepth 100000 in
set_option maxHeartbeats 4000000 in
theorem tX2_fold {g : sp_G} {Ω : sp_Mem → Prop} {Q : sp_Qt} {F : Nat} {p : sp_Mem} (hG : sp_Ok Ω) {M : sp_Mem} {a1 : Int32} (h : fX2_fold F M a1 = some p) (hQ : Q none p) : sp_Mt g Ω mX2_fold 0 0 [.ref 96, .int a1] M Q := by
  unfold fX2_fold at h
  refine sp_Mt.of [some (.ref 96), some (.int a1), none] (by decide) (by simp [sp_ent, Value.category]) rfl ?_
  refine sp_weak [true, true, false] [some (.ref 96), some (.int a1), none] rfl ?_
  refine tX2_fold_l0 hG hQ (fun M12 h => ?_) F _ _ h
  cases h
  exact sp_vret dX2_fold_78 rfl (fun _ => hQ)
def fX2_isTest (F : Nat) (M : sp_Mem) : Option (Int32 × sp_Mem) :=
  (fX2_fold F M 5).bind fun M1 => if (sp_I M1 96 8) = 0 then ((fX2_top M1).bind fun v3 => some ((if (fX2_bindingOf v3) = 4 then 1 else 0), M1)) else (some (1, M1))
set_option maxRecDepth 100000 in
set_option maxHeartbeats 4000000 in
theorem tX2_isTest {g : sp_G} {Ω : sp_Mem → Prop} {Q : sp_Qt} {F : Nat} {p : (Int32 × sp_Mem)} (hG : sp_Ok Ω) {M : sp_Mem} (h : fX2_isTest F M = some p) (hQ : Q (some (.int p.1)) p.2) : sp_Mt g Ω mX2_isTest 0 0 [.ref 96] M Q := by
  unfold fX2_isTest at h
  refine sp_Mt.of [some (.ref 96)] (by decide) (by simp [sp_ent, Value.category]) rfl ?_
  refine sp_aload_n dX2_isTest_0 rfl rfl ?_
  refine sp_iconst (v := 5) dX2_isTest_1 (by decide) ?_
  refine sp_use (fun ho => ?_)
  have hs := hG.1 _ ho
  obtain ⟨M1, hM1, h⟩ := Option.bind_eq_some_iff.mp h
  refine sp_cV (M1 := M1) (r := none) (o := 96) (st := []) (c := 2) (RX2, TX2, 9) [.int 5] [.int 5, .ref 96] [] dX2_isTest_2 okX2_fold tw_779 tw_781 tw_13 (by decide) (by decide) rfl (Nat.le_of_ble_eq_true rfl) rfl rfl rfl rfl (wsI_96 hs) (fun Q hQ => tX2_fold hG hM1 hQ) ?_
  refine sp_aload_n dX2_isTest_5 rfl rfl ?_
  refine sp_use (fun ho => ?_)
  have hs := hG.1 _ ho
  refine sp_getI (RX2, TX2, 9) dX2_isTest_6 clX2 (j := 8) (by decide) tw_395 (wsI_96 hs) (Or.inr rfl) ?_
  refine sp_if_ne (tgt := 23) dX2_isTest_9 (by decide) (fun hc2 => ?_) (fun hc2 => ?_)
  · have h := (if_neg hc2).symm.trans h
    refine sp_iconst (v := 1) dX2_isTest_23 (by decide) ?_
    refine sp_goto (tgt := 28) dX2_isTest_24 (by decide) ?_
    cases h
    exact sp_iret dX2_isTest_28 (ty := .boolean) rfl (sp_nz (Or.inr rfl)) (fun _ => hQ)
  · have h := (if_pos hc2).symm.trans h
    refine sp_aload_n dX2_isTest_12 rfl rfl ?_
    obtain ⟨v3, hv3, h⟩ := Option.bind_eq_some_iff.mp h
    refine sp_cV (M1 := M1) (r := some (.int v3)) (o := 96) (st := []) (c := 2) (RX2, TX2, 9) [] [.ref 96] [.int v3] dX2_isTest_13 okX2_top tw_747 tw_749 tw_9 (by decide) (by decide) rfl (Nat.le_of_ble_eq_true rfl) rfl rfl rfl rfl (wsI_96 hs) (fun Q hQ => tX2_top hG hv3 hQ) ?_
    refine sp_cS (M1 := M1) (r := some (.int (fX2_bindingOf v3))) (st := []) [.int v3] [.int v3] [.int (fX2_bindingOf v3)] dX2_isTest_16 okX2_bindingOf tw_751 tw_752 (by decide) (by decide) rfl (Nat.le_of_ble_eq_true rfl) rfl rfl (fun Q hQ => tX2_bindingOf hG rfl hQ) ?_
    refine sp_iconst (v := 4) dX2_isTest_19 (by decide) ?_
    suffices hj : sp_Wp g Ω mX2_isTest 0 0 28 [none] [.int (if (fX2_bindingOf v3) = 4 then 1 else 0)] M1 Q by
      refine sp_icmp_ne (tgt := 27) dX2_isTest_20 (by decide) (fun hc4 => ?_) (fun hc4 => ?_)
      · refine sp_iconst (v := 0) dX2_isTest_27 (by decide) ?_
        refine sp_weak [false] [none] rfl ?_
        simp only [if_neg hc4] at hj
        exact hj
      · refine sp_iconst (v := 1) dX2_isTest_23 (by decide) ?_
        refine sp_goto (tgt := 28) dX2_isTest_24 (by decide) ?_
        refine sp_weak [false] [none] rfl ?_
        simp only [if_pos hc4] at hj
        exact hj
    cases h
    exact sp_iret dX2_isTest_28 (ty := .boolean) rfl (sp_nz (by repeat (first | exact Or.inl rfl | exact Or.inr rfl | split))) (fun _ => hQ)
def fX2_joins_j103 (F : Nat) (a1 : Int32) (M : sp_Mem) : Option (Int32 × sp_Mem) :=
  (sp_ix 160 ((sp_I M 96 4) - 1)).bind fun j12 => sp_do (sp_setI M 101 j12 (sp_I M 97 3)) fun M13 => (fX9_addStep M13 97 a1 0).bind fun M14 => (fX8_toNext F M14).bind fun M15 => some (1, M15)
def fX2_joins_j83 (F : Nat) (a1 : Int32) (a2 : Int32) (M : sp_Mem) : Option (Int32 × sp_Mem) :=
  (fX2_push M a1).bind fun x9 => if x9.1 = 0 then (some (0, x9.2)) else (if a2 = 2 then (fX2_joins_j103 F a1 x9.2) else (if a2 = 1 then (fX2_joins_j103 F a1 x9.2) else ((fX8_toNext F x9.2).bind fun M17 => some (1, M17))))
def fX2_joins_j66 (F : Nat) (a1 : Int32) (a2 : Int32) (M : sp_Mem) : Option (Int32 × sp_Mem) :=
  (fX2_isTest F M).bind fun x6 => if x6.1 = 0 then (some (0, x6.2)) else ((fX2_fold F x6.2 a2).bind fun M8 => fX2_joins_j83 F a1 a2 M8)
def fX2_joins_j56 (F : Nat) (a1 : Int32) (a2 : Int32) (M : sp_Mem) : Option (Int32 × sp_Mem) :=
  if a2 = 2 then (fX2_joins_j66 F a1 a2 M) else (if a2 = 1 then (fX2_joins_j66 F a1 a2 M) else (some (0, M)))
def fX2_joins_j30 (F : Nat) (a1 : Int32) (a2 : Int32) (M : sp_Mem) : Option (Int32 × sp_Mem) :=
  if a2 = 4 then (if (sp_I M 96 8) = 0 then ((fX2_fold F M 5).bind fun M20 => (fX2_canTestBegin M20).bind fun v21 => if v21 = 0 then (some (0, M20)) else (fX2_joins_j83 F a1 a2 M20)) else (fX2_joins_j56 F a1 a2 M)) else (fX2_joins_j56 F a1 a2 M)
def fX2_joins (F : Nat) (M : sp_Mem) : Option (Int32 × sp_Mem) :=
  (fX2_joiningStep F M).bind fun v1 => sp_do ((fX2_bindingOf v1)) fun u2 => if u2 < 5 then (fX2_joins_j30 F v1 u2 M) else (if (sp_I M 96 8) = 0 then ((fX2_fold F M u2).bind fun M24 => fX2_joins_j83 F v1 u2 M24) else (fX2_joins_j30 F v1 u2 M))
set_option maxRecDepth 100000 in
set_option maxHeartbeats 4000000 in
theorem tX2_joins_j103 {g : sp_G} {Ω : sp_Mem → Prop} {Q : sp_Qt} {F : Nat} {p : (Int32 × sp_Mem)} (hG : sp_Ok Ω)  (hQ : Q (some (.int p.1)) p.2) (a1 : Int32) (M : sp_Mem) (h : fX2_joins_j103 F a1 M = some p) : sp_Wp g Ω mX2_joins 0 0 103 [some (.ref 96), some (.int a1), none] [] M Q := by
  unfold fX2_joins_j103 at h
  refine sp_aload_n dX2_joins_103 rfl rfl ?_
  refine sp_use (fun ho => ?_)
  have hs := hG.1 _ ho
  refine sp_getR (RX2, TX2, 9) dX2_joins_104 clX2 (j := 3) (by decide) tw_390 (wsI_96 hs) (Or.inr ⟨_, rfl⟩) (wsP_96_3 hs) ?_
  refine sp_aload_n dX2_joins_107 rfl rfl ?_
  refine sp_getI (RX2, TX2, 9) dX2_joins_108 clX2 (j := 4) (by decide) tw_391 (wsI_96 hs) (Or.inl rfl) ?_
  refine sp_iconst (v := 1) dX2_joins_111 (by decide) ?_
  refine sp_isub dX2_joins_112 ?_
  refine sp_aload_n dX2_joins_113 rfl rfl ?_
  refine sp_getR (RX2, TX2, 9) dX2_joins_114 clX2 (j := 1) (by decide) tw_387 (wsI_96 hs) (Or.inl ⟨_, rfl⟩) (wsP_96_1 hs) ?_
  refine sp_getI (RX9, TX9, 4) dX2_joins_117 clX9 (j := 3) (by decide) tw_376 (wsI_97 hs) (Or.inl rfl) ?_
  obtain ⟨j12, hj12, h⟩ := Option.bind_eq_some_iff.mp h
  obtain ⟨M13, hM13, h⟩ := sp_do_e h
  refine sp_iast2 (j := j12) hG dX2_joins_120 (wsA_101 hs) (wsN_101 hs) hj12 hM13 ?_
  refine sp_aload_n dX2_joins_121 rfl rfl ?_
  refine sp_use (fun ho => ?_)
  have hs := hG.1 _ ho
  refine sp_getR (RX2, TX2, 9) dX2_joins_122 clX2 (j := 1) (by decide) tw_387 (wsI_96 hs) (Or.inl ⟨_, rfl⟩) (wsP_96_1 hs) ?_
  refine sp_iload_n dX2_joins_125 rfl rfl ?_
  refine sp_iconst (v := 0) dX2_joins_126 (by decide) ?_
  obtain ⟨M14, hM14, h⟩ := Option.bind_eq_some_iff.mp h
  refine sp_cV (M1 := M14) (r := none) (o := 97) (st := []) (c := 8) (RX9, TX9, 4) [.int a1, .int 0] [.int 0, .int a1, .ref 97] [] dX2_joins_127 okX9_addStep tw_765 tw_766 tw_767 (by decide) (by decide) rfl (Nat.le_of_ble_eq_true rfl) rfl rfl rfl rfl (wsI_97 hs) (fun Q hQ => tX9_addStep hG (fun M ho => text_97 (hG.1 M ho)) hM14 hQ) ?_
  refine sp_aload_n dX2_joins_130 rfl rfl ?_
  refine sp_use (fun ho => ?_)
  have hs := hG.1 _ ho
  refine sp_getR (RX2, TX2, 9) dX2_joins_131 clX2 (j := 0) (by decide) tw_386 (wsI_96 hs) (Or.inl ⟨_, rfl⟩) (wsP_96_0 hs) ?_
  obtain ⟨M15, hM15, h⟩ := Option.bind_eq_some_iff.mp h
  refine sp_cV (M1 := M15) (r := none) (o := 94) (st := []) (c := 7) (RX8, TX8, 5) [] [.ref 94] [] dX2_joins_134 okX8_toNext tw_721 tw_652 tw_653 (by decide) (by decide) rfl (Nat.le_of_ble_eq_true rfl) rfl rfl rfl rfl (wsI_94 hs) (fun Q hQ => tX8_toNext hG hM15 hQ) ?_
  refine sp_iconst (v := 1) dX2_joins_137 (by decide) ?_
  cases h
  exact sp_iret dX2_joins_138 (ty := .boolean) rfl (sp_nz (Or.inr rfl)) (fun _ => hQ)
set_option maxRecDepth 100000 in
set_option maxHeartbeats 4000000 in
theorem tX2_joins_j83 {g : sp_G} {Ω : sp_Mem → Prop} {Q : sp_Qt} {F : Nat} {p : (Int32 × sp_Mem)} (hG : sp_Ok Ω)  (hQ : Q (some (.int p.1)) p.2) (a1 : Int32) (a2 : Int32) (M : sp_Mem) (h : fX2_joins_j83 F a1 a2 M = some p) : sp_Wp g Ω mX2_joins 0 0 83 [some (.ref 96), some (.int a1), some (.int a2)] [] M Q := by
  unfold fX2_joins_j83 at h
  refine sp_aload_n dX2_joins_83 rfl rfl ?_
  refine sp_iload_n dX2_joins_84 rfl rfl ?_
  refine sp_use (fun ho => ?_)
  have hs := hG.1 _ ho
  obtain ⟨x9, hx9, h⟩ := Option.bind_eq_some_iff.mp h
  refine sp_cV (M1 := x9.2) (r := some (.int x9.1)) (o := 96) (st := []) (c := 2) (RX2, TX2, 9) [.int a1] [.int a1, .ref 96] [.int x9.1] dX2_joins_85 okX2_push tw_730 tw_732 tw_6 (by decide) (by decide) rfl (Nat.le_of_ble_eq_true rfl) rfl rfl rfl rfl (wsI_96 hs) (fun Q hQ => tX2_push hG hx9 hQ) ?_
  refine sp_if_ne (tgt := 93) dX2_joins_88 (by decide) (fun hc10 => ?_) (fun hc10 => ?_)
  · have h := (if_neg hc10).symm.trans h
    refine sp_iload_n dX2_joins_93 rfl rfl ?_
    refine sp_iconst (v := 2) dX2_joins_94 (by decide) ?_
    refine sp_icmp_eq (tgt := 103) dX2_joins_95 (by decide) (fun hc11 => ?_) (fun hc11 => ?_)
    · have h := (if_pos hc11).symm.trans h
      refine sp_weak [true, true, false] [some (.ref 96), some (.int a1), none] rfl ?_
      exact tX2_joins_j103 hG hQ _ _ h
    · have h := (if_neg hc11).symm.trans h
      refine sp_iload_n dX2_joins_98 rfl rfl ?_
      refine sp_iconst (v := 1) dX2_joins_99 (by decide) ?_
      refine sp_icmp_ne (tgt := 130) dX2_joins_100 (by decide) (fun hc16 => ?_) (fun hc16 => ?_)
      · have h := (if_neg hc16).symm.trans h
        refine sp_aload_n dX2_joins_130 rfl rfl ?_
        refine sp_use (fun ho => ?_)
        have hs := hG.1 _ ho
        refine sp_getR (RX2, TX2, 9) dX2_joins_131 clX2 (j := 0) (by decide) tw_386 (wsI_96 hs) (Or.inl ⟨_, rfl⟩) (wsP_96_0 hs) ?_
        obtain ⟨M17, hM17, h⟩ := Option.bind_eq_some_iff.mp h
        refine sp_cV (M1 := M17) (r := none) (o := 94) (st := []) (c := 7) (RX8, TX8, 5) [] [.ref 94] [] dX2_joins_134 okX8_toNext tw_721 tw_652 tw_653 (by decide) (by decide) rfl (Nat.le_of_ble_eq_true rfl) rfl rfl rfl rfl (wsI_94 hs) (fun Q hQ => tX8_toNext hG hM17 hQ) ?_
        refine sp_iconst (v := 1) dX2_joins_137 (by decide) ?_
        cases h
        exact sp_iret dX2_joins_138 (ty := .boolean) rfl (sp_nz (Or.inr rfl)) (fun _ => hQ)
      · have h := (if_pos hc16).symm.trans h
        refine sp_weak [true, true, false] [some (.ref 96), some (.int a1), none] rfl ?_
        exact tX2_joins_j103 hG hQ _ _ h
  · have h := (if_pos hc10).symm.trans h
    refine sp_iconst (v := 0) dX2_joins_91 (by decide) ?_
    cases h
    exact sp_iret dX2_joins_92 (ty := .boolean) rfl (sp_nz (Or.inl rfl)) (fun _ => hQ)
set_option maxRecDepth 100000 in
set_option maxHeartbeats 4000000 in
theorem tX2_joins_j66 {g : sp_G} {Ω : sp_Mem → Prop} {Q : sp_Qt} {F : Nat} {p : (Int32 × sp_Mem)} (hG : sp_Ok Ω)  (hQ : Q (some (.int p.1)) p.2) (a1 : Int32) (a2 : Int32) (M : sp_Mem) (h : fX2_joins_j66 F a1 a2 M = some p) : sp_Wp g Ω mX2_joins 0 0 66 [some (.ref 96), some (.int a1), some (.int a2)] [] M Q := by
  unfold fX2_joins_j66 at h
  refine sp_aload_n dX2_joins_66 rfl rfl ?_
  refine sp_use (fun ho => ?_)
  have hs := hG.1 _ ho
  obtain ⟨x6, hx6, h⟩ := Option.bind_eq_some_iff.mp h
  refine sp_cV (M1 := x6.2) (r := some (.int x6.1)) (o := 96) (st := []) (c := 2) (RX2, TX2, 9) [] [.ref 96] [.int x6.1] dX2_joins_67 okX2_isTest tw_787 tw_789 tw_14 (by decide) (by decide) rfl (Nat.le_of_ble_eq_true rfl) rfl rfl rfl rfl (wsI_96 hs) (fun Q hQ => tX2_isTest hG hx6 hQ) ?_
  refine sp_if_eq (tgt := 81) dX2_joins_70 (by decide) (fun hc7 => ?_) (fun hc7 => ?_)
  · have h := (if_pos hc7).symm.trans h
    refine sp_iconst (v := 0) dX2_joins_81 (by decide) ?_
    cases h
    exact sp_iret dX2_joins_82 (ty := .boolean) rfl (sp_nz (Or.inl rfl)) (fun _ => hQ)
  · have h := (if_neg hc7).symm.trans h
    refine sp_aload_n dX2_joins_73 rfl rfl ?_
    refine sp_iload_n dX2_joins_74 rfl rfl ?_
    refine sp_use (fun ho => ?_)
    have hs := hG.1 _ ho
    obtain ⟨M8, hM8, h⟩ := Option.bind_eq_some_iff.mp h
    refine sp_cV (M1 := M8) (r := none) (o := 96) (st := []) (c := 2) (RX2, TX2, 9) [.int a2] [.int a2, .ref 96] [] dX2_joins_75 okX2_fold tw_779 tw_781 tw_13 (by decide) (by decide) rfl (Nat.le_of_ble_eq_true rfl) rfl rfl rfl rfl (wsI_96 hs) (fun Q hQ => tX2_fold hG hM8 hQ) ?_
    refine sp_goto (tgt := 83) dX2_joins_78 (by decide) ?_
    refine sp_weak [true, true, true] [some (.ref 96), some (.int a1), some (.int a2)] rfl ?_
    exact tX2_joins_j83 hG hQ _ _ _ h
set_option maxRecDepth 100000 in
set_option maxHeartbeats 4000000 in
theorem tX2_joins_j56 {g : sp_G} {Ω : sp_Mem → Prop} {Q : sp_Qt} {F : Nat} {p : (Int32 × sp_Mem)} (hG : sp_Ok Ω)  (hQ : Q (some (.int p.1)) p.2) (a1 : Int32) (a2 : Int32) (M : sp_Mem) (h : fX2_joins_j56 F a1 a2 M = some p) : sp_Wp g Ω mX2_joins 0 0 56 [some (.ref 96), some (.int a1), some (.int a2)] [] M Q := by
  unfold fX2_joins_j56 at h
  refine sp_iload_n dX2_joins_56 rfl rfl ?_
  refine sp_iconst (v := 2) dX2_joins_57 (by decide) ?_
  refine sp_icmp_eq (tgt := 66) dX2_joins_58 (by decide) (fun hc5 => ?_) (fun hc5 => ?_)
  · have h := (if_pos hc5).symm.trans h
    refine sp_weak [true, true, true] [some (.ref 96), some (.int a1), some (.int a2)] rfl ?_
    exact tX2_joins_j66 hG hQ _ _ _ h
  · have h := (if_neg hc5).symm.trans h
    refine sp_iload_n dX2_joins_61 rfl rfl ?_
    refine sp_iconst (v := 1) dX2_joins_62 (by decide) ?_
    refine sp_icmp_ne (tgt := 81) dX2_joins_63 (by decide) (fun hc18 => ?_) (fun hc18 => ?_)
    · have h := (if_neg hc18).symm.trans h
      refine sp_iconst (v := 0) dX2_joins_81 (by decide) ?_
      cases h
      exact sp_iret dX2_joins_82 (ty := .boolean) rfl (sp_nz (Or.inl rfl)) (fun _ => hQ)
    · have h := (if_pos hc18).symm.trans h
      refine sp_weak [true, true, true] [some (.ref 96), some (.int a1), some (.int a2)] rfl ?_
      exact tX2_joins_j66 hG hQ _ _ _ h
set_option maxRecDepth 100000 in
set_option maxHeartbeats 4000000 in
theorem tX2_joins_j30 {g : sp_G} {Ω : sp_Mem → Prop} {Q : sp_Qt} {F : Nat} {p : (Int32 × sp_Mem)} (hG : sp_Ok Ω)  (hQ : Q (some (.int p.1)) p.2) (a1 : Int32) (a2 : Int32) (M : sp_Mem) (h : fX2_joins_j30 F a1 a2 M = some p) : sp_Wp g Ω mX2_joins 0 0 30 [some (.ref 96), some (.int a1), some (.int a2)] [] M Q := by
  unfold fX2_joins_j30 at h
  refine sp_iload_n dX2_joins_30 rfl rfl ?_
  refine sp_iconst (v := 4) dX2_joins_31 (by decide) ?_
  refine sp_icmp_ne (tgt := 56) dX2_joins_32 (by decide) (fun hc4 => ?_) (fun hc4 => ?_)
  · have h := (if_neg hc4).symm.trans h
    refine sp_weak [true, true, true] [some (.ref 96), some (.int a1), some (.int a2)] rfl ?_
    exact tX2_joins_j56 hG hQ _ _ _ h
  · have h := (if_pos hc4).symm.trans h
    refine sp_aload_n dX2_joins_35 rfl rfl ?_
    refine sp_use (fun ho => ?_)
    have hs := hG.1 _ ho
    refine sp_getI (RX2, TX2, 9) dX2_joins_36 clX2 (j := 8) (by decide) tw_395 (wsI_96 hs) (Or.inr rfl) ?_
    refine sp_if_ne (tgt := 56) dX2_joins_39 (by decide) (fun hc19 => ?_) (fun hc19 => ?_)
    · have h := (if_neg hc19).symm.trans h
      refine sp_weak [true, true, true] [some (.ref 96), some (.int a1), some (.int a2)] rfl ?_
      exact tX2_joins_j56 hG hQ _ _ _ h
    · have h := (if_pos hc19).symm.trans h
      refine sp_aload_n dX2_joins_42 rfl rfl ?_
      refine sp_iconst (v := 5) dX2_joins_43 (by decide) ?_
      obtain ⟨M20, hM20, h⟩ := Option.bind_eq_some_iff.mp h
      refine sp_cV (M1 := M20) (r := none) (o := 96) (st := []) (c := 2) (RX2, TX2, 9) [.int 5] [.int 5, .ref 96] [] dX2_joins_44 okX2_fold tw_779 tw_781 tw_13 (by decide) (by decide) rfl (Nat.le_of_ble_eq_true rfl) rfl rfl rfl rfl (wsI_96 hs) (fun Q hQ => tX2_fold hG hM20 hQ) ?_
      refine sp_aload_n dX2_joins_47 rfl rfl ?_
      refine sp_use (fun ho => ?_)
      have hs := hG.1 _ ho
      obtain ⟨v21, hv21, h⟩ := Option.bind_eq_some_iff.mp h
      refine sp_cV (M1 := M20) (r := some (.int v21)) (o := 96) (st := []) (c := 2) (RX2, TX2, 9) [] [.ref 96] [.int v21] dX2_joins_48 okX2_canTestBegin tw_743 tw_745 tw_8 (by decide) (by decide) rfl (Nat.le_of_ble_eq_true rfl) rfl rfl rfl rfl (wsI_96 hs) (fun Q hQ => tX2_canTestBegin hG hv21 hQ) ?_
      refine sp_if_ne (tgt := 83) dX2_joins_51 (by decide) (fun hc22 => ?_) (fun hc22 => ?_)
      · have h := (if_neg hc22).symm.trans h
        refine sp_weak [true, true, true] [some (.ref 96), some (.int a1), some (.int a2)] rfl ?_
        exact tX2_joins_j83 hG hQ _ _ _ h
      · have h := (if_pos hc22).symm.trans h
        refine sp_iconst (v := 0) dX2_joins_54 (by decide) ?_
        cases h
        exact sp_iret dX2_joins_55 (ty := .boolean) rfl (sp_nz (Or.inl rfl)) (fun _ => hQ)
set_option maxRecDepth 100000 in
set_option maxHeartbeats 4000000 in
theorem tX2_joins {g : sp_G} {Ω : sp_Mem → Prop} {Q : sp_Qt} {F : Nat} {p : (Int32 × sp_Mem)} (hG : sp_Ok Ω) {M : sp_Mem} (h : fX2_joins F M = some p) (hQ : Q (some (.int p.1)) p.2) : sp_Mt g Ω mX2_joins 0 0 [.ref 96] M Q := by
  unfold fX2_joins at h
  refine sp_Mt.of [some (.ref 96), none, none] (by decide) (by simp [sp_ent, Value.category]) rfl ?_
  refine sp_aload_n dX2_joins_0 rfl rfl ?_
  refine sp_use (fun ho => ?_)
  have hs := hG.1 _ ho
  obtain ⟨v1, hv1, h⟩ := Option.bind_eq_some_iff.mp h
  refine sp_cV (M1 := M) (r := some (.int v1)) (o := 96) (st := []) (c := 2) (RX2, TX2, 9) [] [.ref 96] [.int v1] dX2_joins_1 okX2_joiningStep tw_773 tw_775 tw_12 (by decide) (by decide) rfl (Nat.le_of_ble_eq_true rfl) rfl rfl rfl rfl (wsI_96 hs) (fun Q hQ => tX2_joiningStep hG hv1 hQ) ?_
  refine sp_istore_n [some (.ref 96), some (.int v1), none] dX2_joins_4 rfl (by decide) rfl ?_
  refine sp_iload_n dX2_joins_5 rfl rfl ?_
  refine sp_cS (M1 := M) (r := some (.int (fX2_bindingOf v1))) (st := []) [.int v1] [.int v1] [.int (fX2_bindingOf v1)] dX2_joins_6 okX2_bindingOf tw_751 tw_752 (by decide) (by decide) rfl (Nat.le_of_ble_eq_true rfl) rfl rfl (fun Q hQ => tX2_bindingOf hG rfl hQ) ?_
  obtain ⟨u2, hu2, h⟩ := sp_do_e h
  refine sp_topi hu2 ?_
  refine sp_istore_n [some (.ref 96), some (.int v1), some (.int u2)] dX2_joins_9 rfl (by decide) rfl ?_
  refine sp_iload_n dX2_joins_10 rfl rfl ?_
  refine sp_iconst (v := 5) dX2_joins_11 (by decide) ?_
  refine sp_icmp_lt (tgt := 30) dX2_joins_12 (by decide) (fun hc3 => ?_) (fun hc3 => ?_)
  · have h := (if_pos hc3).symm.trans h
    refine sp_weak [true, true, true] [some (.ref 96), some (.int v1), some (.int u2)] rfl ?_
    exact tX2_joins_j30 hG hQ _ _ _ h
  · have h := (if_neg hc3).symm.trans h
    refine sp_aload_n dX2_joins_15 rfl rfl ?_
    refine sp_getI (RX2, TX2, 9) dX2_joins_16 clX2 (j := 8) (by decide) tw_395 (wsI_96 hs) (Or.inr rfl) ?_
    refine sp_if_ne (tgt := 30) dX2_joins_19 (by decide) (fun hc23 => ?_) (fun hc23 => ?_)
    · have h := (if_neg hc23).symm.trans h
      refine sp_weak [true, true, true] [some (.ref 96), some (.int v1), some (.int u2)] rfl ?_
      exact tX2_joins_j30 hG hQ _ _ _ h
    · have h := (if_pos hc23).symm.trans h
      refine sp_aload_n dX2_joins_22 rfl rfl ?_
      refine sp_iload_n dX2_joins_23 rfl rfl ?_
      obtain ⟨M24, hM24, h⟩ := Option.bind_eq_some_iff.mp h
      refine sp_cV (M1 := M24) (r := none) (o := 96) (st := []) (c := 2) (RX2, TX2, 9) [.int u2] [.int u2, .ref 96] [] dX2_joins_24 okX2_fold tw_779 tw_781 tw_13 (by decide) (by decide) rfl (Nat.le_of_ble_eq_true rfl) rfl rfl rfl rfl (wsI_96 hs) (fun Q hQ => tX2_fold hG hM24 hQ) ?_
      refine sp_goto (tgt := 83) dX2_joins_27 (by decide) ?_
      refine sp_weak [true, true, true] [some (.ref 96), some (.int v1), some (.int u2)] rfl ?_
      exact tX2_joins_j83 hG hQ _ _ _ h
