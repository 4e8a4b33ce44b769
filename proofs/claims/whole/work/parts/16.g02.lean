def fX11_asks (F : Nat) (M : sp_Mem) (a1 : Int32) (a2 : Int32) (a3 : Int32) : Option (Int32 × sp_Mem) :=
  sp_do (sp_setI M 103 0 0) fun M1 => (fX11_isSpark M1 a1).bind fun v2 => if v2 = 0 then (some ((-1), M1)) else ((fX11_isPerson M1 a2).bind fun v4 => if v4 = 0 then (some ((-1), M1)) else ((fX11_isLoose M1 a1).bind fun v6 => if v6 = 0 then (some ((-1), M1)) else (if a3 = 0 then ((sp_ix 5480 (9 + a1)).bind fun j9 => (sp_ix 5480 (21 + a2)).bind fun j10 => (fX11_apart (sp_I M1 105 j9) (sp_I M1 105 j10)).bind fun v11 => some (v11, M1)) else if a3 = 1 then ((sp_ix 5480 (9 + a1)).bind fun j13 => (fX11_shuns F M1 a1 a2 (sp_I M1 105 j13)).bind fun x14 => some ((if x14.1 = 0 then 0 else 1), x14.2)) else if a3 = 2 then ((sp_ix 5480 (9 + a1)).bind fun j17 => (fX11_comes F M1 a1 a2 (sp_I M1 105 j17)).bind fun x18 => some ((if x18.1 = 0 then 0 else 1), x18.2)) else (some ((-1), M1)))))
set_option maxRecDepth 100000 in
set_option maxHeartbeats 4000000 in
theorem tX11_asks {g : sp_G} {Ω : sp_Mem → Prop} {Q : sp_Qt} {F : Nat} {p : (Int32 × sp_Mem)} (hG : sp_Ok Ω) {M : sp_Mem} {a1 : Int32} {a2 : Int32} {a3 : Int32} (h : fX11_asks F M a1 a2 a3 = some p) (hQ : Q (some (.int p.1)) p.2) : sp_Mt g Ω mX11_asks 0 0 [.ref 103, .int a1, .int a2, .int a3] M Q := by
  unfold fX11_asks at h
  refine sp_Mt.of [some (.ref 103), some (.int a1), some (.int a2), some (.int a3)] (by decide) (by simp [sp_ent, Value.category]) rfl ?_
  refine sp_aload_n dX11_asks_0 rfl rfl ?_
  refine sp_iconst (v := 0) dX11_asks_1 (by decide) ?_
  refine sp_use (fun ho => ?_)
  have hs := hG.1 _ ho
  obtain ⟨M1, hM1, h⟩ := sp_do_e h
  refine sp_putI2 (RX11, TX11, 56) hG dX11_asks_2 clX11 (j := 0) (by decide) tw_1215 rfl (Or.inl rfl) (wsI_103 hs) hM1 ?_
  refine sp_aload_n dX11_asks_5 rfl rfl ?_
  refine sp_iload_n dX11_asks_6 rfl rfl ?_
  refine sp_use (fun ho => ?_)
  have hs := hG.1 _ ho
  obtain ⟨v2, hv2, h⟩ := Option.bind_eq_some_iff.mp h
  refine sp_cV (M1 := M1) (r := some (.int v2)) (o := 103) (st := []) (c := 10) (RX11, TX11, 56) [.int a1] [.int a1, .ref 103] [.int v2] dX11_asks_7 okX11_isSpark tw_1424 tw_1426 tw_30 (by decide) (by decide) rfl (Nat.le_of_ble_eq_true rfl) rfl rfl rfl rfl (wsI_103 hs) (fun Q hQ => tX11_isSpark hG hv2 hQ) ?_
  refine sp_if_eq (tgt := 29) dX11_asks_10 (by decide) (fun hc3 => ?_) (fun hc3 => ?_)
  · have h := (if_pos hc3).symm.trans h
    refine sp_iconst (v := (-1)) dX11_asks_29 (by decide) ?_
    cases h
    exact sp_iret dX11_asks_30 (ty := .int) rfl rfl (fun _ => hQ)
  · have h := (if_neg hc3).symm.trans h
    refine sp_aload_n dX11_asks_13 rfl rfl ?_
    refine sp_iload_n dX11_asks_14 rfl rfl ?_
    obtain ⟨v4, hv4, h⟩ := Option.bind_eq_some_iff.mp h
    refine sp_cV (M1 := M1) (r := some (.int v4)) (o := 103) (st := []) (c := 10) (RX11, TX11, 56) [.int a2] [.int a2, .ref 103] [.int v4] dX11_asks_15 okX11_isPerson tw_1482 tw_1484 tw_39 (by decide) (by decide) rfl (Nat.le_of_ble_eq_true rfl) rfl rfl rfl rfl (wsI_103 hs) (fun Q hQ => tX11_isPerson hG hv4 hQ) ?_
    refine sp_if_eq (tgt := 29) dX11_asks_18 (by decide) (fun hc5 => ?_) (fun hc5 => ?_)
    · have h := (if_pos hc5).symm.trans h
      refine sp_iconst (v := (-1)) dX11_asks_29 (by decide) ?_
      cases h
      exact sp_iret dX11_asks_30 (ty := .int) rfl rfl (fun _ => hQ)
    · have h := (if_neg hc5).symm.trans h
      refine sp_aload_n dX11_asks_21 rfl rfl ?_
      refine sp_iload_n dX11_asks_22 rfl rfl ?_
      obtain ⟨v6, hv6, h⟩ := Option.bind_eq_some_iff.mp h
      refine sp_cV (M1 := M1) (r := some (.int v6)) (o := 103) (st := []) (c := 10) (RX11, TX11, 56) [.int a1] [.int a1, .ref 103] [.int v6] dX11_asks_23 okX11_isLoose tw_1428 tw_1430 tw_31 (by decide) (by decide) rfl (Nat.le_of_ble_eq_true rfl) rfl rfl rfl rfl (wsI_103 hs) (fun Q hQ => tX11_isLoose hG hv6 hQ) ?_
      refine sp_if_ne (tgt := 31) dX11_asks_26 (by decide) (fun hc7 => ?_) (fun hc7 => ?_)
      · have h := (if_neg hc7).symm.trans h
        refine sp_iload_n dX11_asks_31 rfl rfl ?_
        by_cases hc8 : a3 = 0
        · have h := (if_pos hc8).symm.trans h
          refine sp_tswI (tgt := 60) dX11_asks_32 (by rw [hc8]; decide) (by rw [hc8]; decide) (by rw [hc8]; rfl) (by decide) ?_
          refine sp_aload_n dX11_asks_60 rfl rfl ?_
          refine sp_getR (RX11, TX11, 56) dX11_asks_61 clX11 (j := 3) (by decide) tw_1218 (wsI_103 hs) (Or.inr ⟨_, rfl⟩) (wsP_103_3 hs) ?_
          refine sp_bipush (v := 9) dX11_asks_64 (by decide) ?_
          refine sp_iload_n dX11_asks_66 rfl rfl ?_
          refine sp_iadd dX11_asks_67 ?_
          obtain ⟨j9, hj9, h⟩ := Option.bind_eq_some_iff.mp h
          refine sp_iald2 (j := j9) dX11_asks_68 (wsA_105 hs) (wsN_105 hs) hj9 ?_
          refine sp_aload_n dX11_asks_69 rfl rfl ?_
          refine sp_getR (RX11, TX11, 56) dX11_asks_70 clX11 (j := 3) (by decide) tw_1218 (wsI_103 hs) (Or.inr ⟨_, rfl⟩) (wsP_103_3 hs) ?_
          refine sp_bipush (v := 21) dX11_asks_73 (by decide) ?_
          refine sp_iload_n dX11_asks_75 rfl rfl ?_
          refine sp_iadd dX11_asks_76 ?_
          obtain ⟨j10, hj10, h⟩ := Option.bind_eq_some_iff.mp h
          refine sp_iald2 (j := j10) dX11_asks_77 (wsA_105 hs) (wsN_105 hs) hj10 ?_
          obtain ⟨v11, hv11, h⟩ := Option.bind_eq_some_iff.mp h
          refine sp_cS (M1 := M1) (r := some (.int v11)) (st := []) [.int (sp_I M1 105 j9), .int (sp_I M1 105 j10)] [.int (sp_I M1 105 j10), .int (sp_I M1 105 j9)] [.int v11] dX11_asks_78 okX11_apart tw_1440 tw_1441 (by decide) (by decide) rfl (Nat.le_of_ble_eq_true rfl) rfl rfl (fun Q hQ => tX11_apart hG hv11 hQ) ?_
          cases h
          exact sp_iret dX11_asks_81 (ty := .int) rfl rfl (fun _ => hQ)
        have h := (if_neg hc8).symm.trans h
        by_cases hc12 : a3 = 1
        · have h := (if_pos hc12).symm.trans h
          refine sp_tswI (tgt := 82) dX11_asks_32 (by rw [hc12]; decide) (by rw [hc12]; decide) (by rw [hc12]; rfl) (by decide) ?_
          refine sp_aload_n dX11_asks_82 rfl rfl ?_
          refine sp_iload_n dX11_asks_83 rfl rfl ?_
          refine sp_iload_n dX11_asks_84 rfl rfl ?_
          refine sp_aload_n dX11_asks_85 rfl rfl ?_
          refine sp_getR (RX11, TX11, 56) dX11_asks_86 clX11 (j := 3) (by decide) tw_1218 (wsI_103 hs) (Or.inr ⟨_, rfl⟩) (wsP_103_3 hs) ?_
          refine sp_bipush (v := 9) dX11_asks_89 (by decide) ?_
          refine sp_iload_n dX11_asks_91 rfl rfl ?_
          refine sp_iadd dX11_asks_92 ?_
          obtain ⟨j13, hj13, h⟩ := Option.bind_eq_some_iff.mp h
          refine sp_iald2 (j := j13) dX11_asks_93 (wsA_105 hs) (wsN_105 hs) hj13 ?_
          obtain ⟨x14, hx14, h⟩ := Option.bind_eq_some_iff.mp h
          refine sp_cV (M1 := x14.2) (r := some (.int x14.1)) (o := 103) (st := []) (c := 10) (RX11, TX11, 56) [.int a1, .int a2, .int (sp_I M1 105 j13)] [.int (sp_I M1 105 j13), .int a2, .int a1, .ref 103] [.int x14.1] dX11_asks_94 okX11_shuns tw_1499 tw_1501 tw_41 (by decide) (by decide) rfl (Nat.le_of_ble_eq_true rfl) rfl rfl rfl rfl (wsI_103 hs) (fun Q hQ => tX11_shuns hG hx14 hQ) ?_
          suffices hj : sp_Wp g Ω mX11_asks 0 0 105 [none, none, none, none] [.int (if x14.1 = 0 then 0 else 1)] x14.2 Q by
            refine sp_if_eq (tgt := 104) dX11_asks_97 (by decide) (fun hc15 => ?_) (fun hc15 => ?_)
            · refine sp_iconst (v := 0) dX11_asks_104 (by decide) ?_
              refine sp_weak [false, false, false, false] [none, none, none, none] rfl ?_
              simp only [if_pos hc15] at hj
              exact hj
            · refine sp_iconst (v := 1) dX11_asks_100 (by decide) ?_
              refine sp_goto (tgt := 105) dX11_asks_101 (by decide) ?_
              refine sp_weak [false, false, false, false] [none, none, none, none] rfl ?_
              simp only [if_neg hc15] at hj
              exact hj
          cases h
          exact sp_iret dX11_asks_105 (ty := .int) rfl rfl (fun _ => hQ)
        have h := (if_neg hc12).symm.trans h
        by_cases hc16 : a3 = 2
        · have h := (if_pos hc16).symm.trans h
          refine sp_tswI (tgt := 106) dX11_asks_32 (by rw [hc16]; decide) (by rw [hc16]; decide) (by rw [hc16]; rfl) (by decide) ?_
          refine sp_aload_n dX11_asks_106 rfl rfl ?_
          refine sp_iload_n dX11_asks_107 rfl rfl ?_
          refine sp_iload_n dX11_asks_108 rfl rfl ?_
          refine sp_aload_n dX11_asks_109 rfl rfl ?_
          refine sp_getR (RX11, TX11, 56) dX11_asks_110 clX11 (j := 3) (by decide) tw_1218 (wsI_103 hs) (Or.inr ⟨_, rfl⟩) (wsP_103_3 hs) ?_
          refine sp_bipush (v := 9) dX11_asks_113 (by decide) ?_
          refine sp_iload_n dX11_asks_115 rfl rfl ?_
          refine sp_iadd dX11_asks_116 ?_
          obtain ⟨j17, hj17, h⟩ := Option.bind_eq_some_iff.mp h
          refine sp_iald2 (j := j17) dX11_asks_117 (wsA_105 hs) (wsN_105 hs) hj17 ?_
          obtain ⟨x18, hx18, h⟩ := Option.bind_eq_some_iff.mp h
          refine sp_cV (M1 := x18.2) (r := some (.int x18.1)) (o := 103) (st := []) (c := 10) (RX11, TX11, 56) [.int a1, .int a2, .int (sp_I M1 105 j17)] [.int (sp_I M1 105 j17), .int a2, .int a1, .ref 103] [.int x18.1] dX11_asks_118 okX11_comes tw_1503 tw_1505 tw_42 (by decide) (by decide) rfl (Nat.le_of_ble_eq_true rfl) rfl rfl rfl rfl (wsI_103 hs) (fun Q hQ => tX11_comes hG hx18 hQ) ?_
          suffices hj : sp_Wp g Ω mX11_asks 0 0 129 [none, none, none, none] [.int (if x18.1 = 0 then 0 else 1)] x18.2 Q by
            refine sp_if_eq (tgt := 128) dX11_asks_121 (by decide) (fun hc19 => ?_) (fun hc19 => ?_)
            · refine sp_iconst (v := 0) dX11_asks_128 (by decide) ?_
              refine sp_weak [false, false, false, false] [none, none, none, none] rfl ?_
              simp only [if_pos hc19] at hj
              exact hj
            · refine sp_iconst (v := 1) dX11_asks_124 (by decide) ?_
              refine sp_goto (tgt := 129) dX11_asks_125 (by decide) ?_
              refine sp_weak [false, false, false, false] [none, none, none, none] rfl ?_
              simp only [if_neg hc19] at hj
              exact hj
          cases h
          exact sp_iret dX11_asks_129 (ty := .int) rfl rfl (fun _ => hQ)
        have h := (if_neg hc16).symm.trans h
        have hc8 := sp_ne hc8 (show (0 : Int32).toInt = 0 by decide)
        have hc12 := sp_ne hc12 (show (1 : Int32).toInt = 1 by decide)
        have hc16 := sp_ne hc16 (show (2 : Int32).toInt = 2 by decide)
        refine sp_tswO (tgt := 130) dX11_asks_32 (by omega) (by decide) ?_
        refine sp_iconst (v := (-1)) dX11_asks_130 (by decide) ?_
        cases h
        exact sp_iret dX11_asks_131 (ty := .int) rfl rfl (fun _ => hQ)
      · have h := (if_pos hc7).symm.trans h
        refine sp_iconst (v := (-1)) dX11_asks_29 (by decide) ?_
        cases h
        exact sp_iret dX11_asks_30 (ty := .int) rfl rfl (fun _ => hQ)
def fX11_floor (M : sp_Mem) (a1 : Int32) : Option (Int32 × sp_Mem) :=
  sp_do (sp_setI M 103 0 0) fun M1 => if (fX11_isCell a1) = 0 then (some ((-1), M1)) else ((sp_ix 5480 (26 + a1)).bind fun j3 => some ((sp_I M1 105 j3), M1))
set_option maxRecDepth 100000 in
set_option maxHeartbeats 4000000 in
theorem tX11_floor {g : sp_G} {Ω : sp_Mem → Prop} {Q : sp_Qt} {p : (Int32 × sp_Mem)} (hG : sp_Ok Ω) {M : sp_Mem} {a1 : Int32} (h : fX11_floor M a1 = some p) (hQ : Q (some (.int p.1)) p.2) : sp_Mt g Ω mX11_floor 0 0 [.ref 103, .int a1] M Q := by
  unfold fX11_floor at h
  refine sp_Mt.of [some (.ref 103), some (.int a1)] (by decide) (by simp [sp_ent, Value.category]) rfl ?_
  refine sp_aload_n dX11_floor_0 rfl rfl ?_
  refine sp_iconst (v := 0) dX11_floor_1 (by decide) ?_
  refine sp_use (fun ho => ?_)
  have hs := hG.1 _ ho
  obtain ⟨M1, hM1, h⟩ := sp_do_e h
  refine sp_putI2 (RX11, TX11, 56) hG dX11_floor_2 clX11 (j := 0) (by decide) tw_1215 rfl (Or.inl rfl) (wsI_103 hs) hM1 ?_
  refine sp_iload_n dX11_floor_5 rfl rfl ?_
  refine sp_use (fun ho => ?_)
  have hs := hG.1 _ ho
  refine sp_cS (M1 := M1) (r := some (.int (fX11_isCell a1))) (st := []) [.int a1] [.int a1] [.int (fX11_isCell a1)] dX11_floor_6 okX11_isCell tw_1415 tw_1416 (by decide) (by decide) rfl (Nat.le_of_ble_eq_true rfl) rfl rfl (fun Q hQ => tX11_isCell hG rfl hQ) ?_
  refine sp_if_eq (tgt := 24) dX11_floor_9 (by decide) (fun hc2 => ?_) (fun hc2 => ?_)
  · have h := (if_pos hc2).symm.trans h
    refine sp_iconst (v := (-1)) dX11_floor_24 (by decide) ?_
    cases h
    exact sp_iret dX11_floor_25 (ty := .int) rfl rfl (fun _ => hQ)
  · have h := (if_neg hc2).symm.trans h
    refine sp_aload_n dX11_floor_12 rfl rfl ?_
    refine sp_getR (RX11, TX11, 56) dX11_floor_13 clX11 (j := 3) (by decide) tw_1218 (wsI_103 hs) (Or.inr ⟨_, rfl⟩) (wsP_103_3 hs) ?_
    refine sp_bipush (v := 26) dX11_floor_16 (by decide) ?_
    refine sp_iload_n dX11_floor_18 rfl rfl ?_
    refine sp_iadd dX11_floor_19 ?_
    obtain ⟨j3, hj3, h⟩ := Option.bind_eq_some_iff.mp h
    refine sp_iald2 (j := j3) dX11_floor_20 (wsA_105 hs) (wsN_105 hs) hj3 ?_
    refine sp_goto (tgt := 25) dX11_floor_21 (by decide) ?_
    cases h
    exact sp_iret dX11_floor_25 (ty := .int) rfl rfl (fun _ => hQ)
def fX11_isTerm (a0 : Int32) (a1 : Int32) : Int32 :=
  if a0 = 0 then ((fX11_in (Int32.toInt64 a1) 0 999)) else if a0 = 1 then ((fX11_in (Int32.toInt64 a1) 0 2)) else if a0 = 2 then ((fX11_in (Int32.toInt64 a1) 0 9)) else if a0 = 3 then ((fX11_isCell a1)) else (0)
set_option maxRecDepth 100000 in
set_option maxHeartbeats 4000000 in
theorem tX11_isTerm {g : sp_G} {Ω : sp_Mem → Prop} {Q : sp_Qt} {M0 : sp_Mem} {p : Int32} (hG : sp_Ok Ω) {a0 : Int32} {a1 : Int32} (h : fX11_isTerm a0 a1 = p) (hQ : Q (some (.int p)) M0) : sp_Mt g Ω mX11_isTerm 0 0 [.int a0, .int a1] M0 Q := by
  unfold fX11_isTerm at h
  refine sp_Mt.of [some (.int a0), some (.int a1)] (by decide) (by simp [sp_ent, Value.category]) rfl ?_
  refine sp_iload_n dX11_isTerm_0 rfl rfl ?_
  by_cases hc1 : a0 = 0
  · have h := (if_pos hc1).symm.trans h
    refine sp_tswI (tgt := 32) dX11_isTerm_1 (by rw [hc1]; decide) (by rw [hc1]; decide) (by rw [hc1]; rfl) (by decide) ?_
    refine sp_iload_n dX11_isTerm_32 rfl rfl ?_
    refine sp_i2l dX11_isTerm_33 ?_
    refine sp_lconst (v := 0) dX11_isTerm_34 (by decide) ?_
    refine sp_ldc2 (v := 999) dX11_isTerm_35 tw_1518 ?_
    refine sp_use (fun ho => ?_)
    have hs := hG.1 _ ho
    refine sp_cS (M1 := M0) (r := some (.int (fX11_in (Int32.toInt64 a1) 0 999))) (st := []) [.long (Int32.toInt64 a1), .long 0, .long 999] [.long 999, .long 0, .long (Int32.toInt64 a1)] [.int (fX11_in (Int32.toInt64 a1) 0 999)] dX11_isTerm_38 okX11_in tw_1400 tw_1401 (by decide) (by decide) rfl (Nat.le_of_ble_eq_true rfl) rfl rfl (fun Q hQ => tX11_in hG rfl hQ) ?_
    cases h
    exact sp_iret dX11_isTerm_41 (ty := .boolean) rfl (sp_nz (bX11_in _ _ _)) (fun _ => hQ)
  have h := (if_neg hc1).symm.trans h
  by_cases hc2 : a0 = 1
  · have h := (if_pos hc2).symm.trans h
    refine sp_tswI (tgt := 42) dX11_isTerm_1 (by rw [hc2]; decide) (by rw [hc2]; decide) (by rw [hc2]; rfl) (by decide) ?_
    refine sp_iload_n dX11_isTerm_42 rfl rfl ?_
    refine sp_i2l dX11_isTerm_43 ?_
    refine sp_lconst (v := 0) dX11_isTerm_44 (by decide) ?_
    refine sp_ldc2 (v := 2) dX11_isTerm_45 tw_1519 ?_
    refine sp_use (fun ho => ?_)
    have hs := hG.1 _ ho
    refine sp_cS (M1 := M0) (r := some (.int (fX11_in (Int32.toInt64 a1) 0 2))) (st := []) [.long (Int32.toInt64 a1), .long 0, .long 2] [.long 2, .long 0, .long (Int32.toInt64 a1)] [.int (fX11_in (Int32.toInt64 a1) 0 2)] dX11_isTerm_48 okX11_in tw_1400 tw_1401 (by decide) (by decide) rfl (Nat.le_of_ble_eq_true rfl) rfl rfl (fun Q hQ => tX11_in hG rfl hQ) ?_
    cases h
    exact sp_iret dX11_isTerm_51 (ty := .boolean) rfl (sp_nz (bX11_in _ _ _)) (fun _ => hQ)
  have h := (if_neg hc2).symm.trans h
  by_cases hc3 : a0 = 2
  · have h := (if_pos hc3).symm.trans h
    refine sp_tswI (tgt := 52) dX11_isTerm_1 (by rw [hc3]; decide) (by rw [hc3]; decide) (by rw [hc3]; rfl) (by decide) ?_
    refine sp_iload_n dX11_isTerm_52 rfl rfl ?_
    refine sp_i2l dX11_isTerm_53 ?_
    refine sp_lconst (v := 0) dX11_isTerm_54 (by decide) ?_
    refine sp_ldc2 (v := 9) dX11_isTerm_55 tw_1418 ?_
    refine sp_use (fun ho => ?_)
    have hs := hG.1 _ ho
    refine sp_cS (M1 := M0) (r := some (.int (fX11_in (Int32.toInt64 a1) 0 9))) (st := []) [.long (Int32.toInt64 a1), .long 0, .long 9] [.long 9, .long 0, .long (Int32.toInt64 a1)] [.int (fX11_in (Int32.toInt64 a1) 0 9)] dX11_isTerm_58 okX11_in tw_1400 tw_1401 (by decide) (by decide) rfl (Nat.le_of_ble_eq_true rfl) rfl rfl (fun Q hQ => tX11_in hG rfl hQ) ?_
    cases h
    exact sp_iret dX11_isTerm_61 (ty := .boolean) rfl (sp_nz (bX11_in _ _ _)) (fun _ => hQ)
  have h := (if_neg hc3).symm.trans h
  by_cases hc4 : a0 = 3
  · have h := (if_pos hc4).symm.trans h
    refine sp_tswI (tgt := 62) dX11_isTerm_1 (by rw [hc4]; decide) (by rw [hc4]; decide) (by rw [hc4]; rfl) (by decide) ?_
    refine sp_iload_n dX11_isTerm_62 rfl rfl ?_
    refine sp_use (fun ho => ?_)
    have hs := hG.1 _ ho
    refine sp_cS (M1 := M0) (r := some (.int (fX11_isCell a1))) (st := []) [.int a1] [.int a1] [.int (fX11_isCell a1)] dX11_isTerm_63 okX11_isCell tw_1415 tw_1416 (by decide) (by decide) rfl (Nat.le_of_ble_eq_true rfl) rfl rfl (fun Q hQ => tX11_isCell hG rfl hQ) ?_
    cases h
    exact sp_iret dX11_isTerm_66 (ty := .boolean) rfl (sp_nz (bX11_isCell _)) (fun _ => hQ)
  have h := (if_neg hc4).symm.trans h
  have hc1 := sp_ne hc1 (show (0 : Int32).toInt = 0 by decide)
  have hc2 := sp_ne hc2 (show (1 : Int32).toInt = 1 by decide)
  have hc3 := sp_ne hc3 (show (2 : Int32).toInt = 2 by decide)
  have hc4 := sp_ne hc4 (show (3 : Int32).toInt = 3 by decide)
  refine sp_tswO (tgt := 67) dX11_isTerm_1 (by omega) (by decide) ?_
  refine sp_iconst (v := 0) dX11_isTerm_67 (by decide) ?_
  cases h
  exact sp_iret dX11_isTerm_68 (ty := .boolean) rfl (sp_nz (Or.inl rfl)) (fun _ => hQ)
theorem bX11_isTerm (a0 : Int32) (a1 : Int32) : fX11_isTerm a0 a1 = 0 ∨ fX11_isTerm a0 a1 = 1 := by
  unfold fX11_isTerm
  repeat (first | exact Or.inl rfl | exact Or.inr rfl | exact bX11_in _ _ _ | exact bX11_in _ _ _ | exact bX11_in _ _ _ | exact bX11_isCell _ | split)
def fX11_terms (M : sp_Mem) (a1 : Int32) (a2 : Int32) : Option (Int32 × sp_Mem) :=
  sp_do (sp_setI M 103 0 0) fun M1 => if (fX11_isTerm a1 a2) = 0 then ((fX11_tell M1 (-1)).bind fun x5 => some (x5.1, x5.2)) else (sp_do (sp_setI M1 103 8 0) fun M3 => (fX11_change M3 (5 + a1) a2).bind fun x4 => some (x4.1, x4.2))
set_option maxRecDepth 100000 in
set_option maxHeartbeats 4000000 in
theorem tX11_terms {g : sp_G} {Ω : sp_Mem → Prop} {Q : sp_Qt} {p : (Int32 × sp_Mem)} (hG : sp_Ok Ω) {M : sp_Mem} {a1 : Int32} {a2 : Int32} (h : fX11_terms M a1 a2 = some p) (hQ : Q (some (.int p.1)) p.2) : sp_Mt g Ω mX11_terms 0 0 [.ref 103, .int a1, .int a2] M Q := by
  unfold fX11_terms at h
  refine sp_Mt.of [some (.ref 103), some (.int a1), some (.int a2)] (by decide) (by simp [sp_ent, Value.category]) rfl ?_
  refine sp_aload_n dX11_terms_0 rfl rfl ?_
  refine sp_iconst (v := 0) dX11_terms_1 (by decide) ?_
  refine sp_use (fun ho => ?_)
  have hs := hG.1 _ ho
  obtain ⟨M1, hM1, h⟩ := sp_do_e h
  refine sp_putI2 (RX11, TX11, 56) hG dX11_terms_2 clX11 (j := 0) (by decide) tw_1215 rfl (Or.inl rfl) (wsI_103 hs) hM1 ?_
  refine sp_iload_n dX11_terms_5 rfl rfl ?_
  refine sp_iload_n dX11_terms_6 rfl rfl ?_
  refine sp_use (fun ho => ?_)
  have hs := hG.1 _ ho
  refine sp_cS (M1 := M1) (r := some (.int (fX11_isTerm a1 a2))) (st := []) [.int a1, .int a2] [.int a2, .int a1] [.int (fX11_isTerm a1 a2)] dX11_terms_7 okX11_isTerm tw_1515 tw_1516 (by decide) (by decide) rfl (Nat.le_of_ble_eq_true rfl) rfl rfl (fun Q hQ => tX11_isTerm hG rfl hQ) ?_
  refine sp_if_ne (tgt := 19) dX11_terms_10 (by decide) (fun hc2 => ?_) (fun hc2 => ?_)
  · have h := (if_neg hc2).symm.trans h
    refine sp_aload_n dX11_terms_19 rfl rfl ?_
    refine sp_iconst (v := 0) dX11_terms_20 (by decide) ?_
    obtain ⟨M3, hM3, h⟩ := sp_do_e h
    refine sp_putI2 (RX11, TX11, 56) hG dX11_terms_21 clX11 (j := 8) (by decide) tw_1223 rfl (Or.inl rfl) (wsI_103 hs) hM3 ?_
    refine sp_aload_n dX11_terms_24 rfl rfl ?_
    refine sp_iconst (v := 5) dX11_terms_25 (by decide) ?_
    refine sp_iload_n dX11_terms_26 rfl rfl ?_
    refine sp_iadd dX11_terms_27 ?_
    refine sp_iload_n dX11_terms_28 rfl rfl ?_
    refine sp_use (fun ho => ?_)
    have hs := hG.1 _ ho
    obtain ⟨x4, hx4, h⟩ := Option.bind_eq_some_iff.mp h
    refine sp_cV (M1 := x4.2) (r := some (.int x4.1)) (o := 103) (st := []) (c := 10) (RX11, TX11, 56) [.int (5 + a1), .int a2] [.int a2, .int (5 + a1), .ref 103] [.int x4.1] dX11_terms_29 okX11_change tw_1491 tw_1493 tw_40 (by decide) (by decide) rfl (Nat.le_of_ble_eq_true rfl) rfl rfl rfl rfl (wsI_103 hs) (fun Q hQ => tX11_change hG hx4 hQ) ?_
    cases h
    exact sp_iret dX11_terms_32 (ty := .int) rfl rfl (fun _ => hQ)
  · have h := (if_pos hc2).symm.trans h
    refine sp_aload_n dX11_terms_13 rfl rfl ?_
    refine sp_iconst (v := (-1)) dX11_terms_14 (by decide) ?_
    obtain ⟨x5, hx5, h⟩ := Option.bind_eq_some_iff.mp h
    refine sp_cV (M1 := x5.2) (r := some (.int x5.1)) (o := 103) (st := []) (c := 10) (RX11, TX11, 56) [.int (-1)] [.int (-1), .ref 103] [.int x5.1] dX11_terms_15 okX11_tell tw_1388 tw_1390 tw_27 (by decide) (by decide) rfl (Nat.le_of_ble_eq_true rfl) rfl rfl rfl rfl (wsI_103 hs) (fun Q hQ => tX11_tell hG hx5 hQ) ?_
    cases h
    exact sp_iret dX11_terms_18 (ty := .int) rfl rfl (fun _ => hQ)
def fX11_row_j106 (F : Nat) (kb : Int32 → Int32 → Int32 → sp_Mem → Option (Int32 × sp_Mem)) (kx : Int32 → sp_Mem → Option (Int32 × sp_Mem)) (a1 : Int32) (a2 : Int32) (a3 : Int32) (M : sp_Mem) : Option (Int32 × sp_Mem) :=
  sp_do (sp_setI M 103 11 ((sp_I M 103 11) + 1)) fun M8 => kb a1 a2 (a3 + 2) M8
def fX11_row_l35 (F : Nat) (kx : Int32 → sp_Mem → Option (Int32 × sp_Mem)) : Nat → Int32 → Int32 → Int32 → sp_Mem → Option (Int32 × sp_Mem)
  | 0, _, _, _, _ => none
  | n + 1, a1, a2, a3, M =>
  if a1 ≤ a3 then (kx a2 M) else (if a1 ≤ (a3 + 1) then (fX11_row_j106 F (fX11_row_l35 F kx n) kx a1 a2 a3 M) else ((sp_ix 400 a3).bind fun j9 => if (fX11_isCell (sp_I M 112 j9)) = 0 then (fX11_row_j106 F (fX11_row_l35 F kx n) kx a1 a2 a3 M) else ((sp_ix 400 (a3 + 1)).bind fun j11 => if (fX11_in (Int32.toInt64 (sp_I M 112 j11)) 0 3) = 0 then (fX11_row_j106 F (fX11_row_l35 F kx n) kx a1 a2 a3 M) else ((sp_ix 400 a3).bind fun j13 => (sp_ix 400 (a3 + 1)).bind fun j14 => (sp_ix 5480 (26 + (sp_I M 112 j13))).bind fun j15 => sp_do (sp_setI M 105 j15 (sp_I M 112 j14)) fun M16 => (fX11_row_l35 F kx n) a1 (a2 + 1) (a3 + 2) M16))))
def fX11_row (F : Nat) (M : sp_Mem) : Option (Int32 × sp_Mem) :=
  sp_do (sp_setI M 103 0 0) fun M1 => sp_do ((sp_I M1 103 13)) fun u2 => sp_do (sp_setI M1 103 13 0) fun M3 => if u2 = 0 then ((fX11_tell M3 (-6)).bind fun x20 => some (x20.1, x20.2)) else (sp_do (sp_setI M3 103 11 0) fun M5 => fX11_row_l35 F (fun b18 M17 => (fX11_settled M17 b18).bind fun x19 => some (x19.1, x19.2)) F u2 0 0 M5)
set_option maxRecDepth 100000 in
set_option maxHeartbeats 4000000 in
theorem tX11_row_j106 {g : sp_G} {Ω : sp_Mem → Prop} {Q : sp_Qt} {F : Nat} {p : (Int32 × sp_Mem)} (hG : sp_Ok Ω)  {kb : Int32 → Int32 → Int32 → sp_Mem → Option (Int32 × sp_Mem)} {kx : Int32 → sp_Mem → Option (Int32 × sp_Mem)} (hQ : Q (some (.int p.1)) p.2) (hb : ∀ (a1 : Int32) (a2 : Int32) (a3 : Int32) (M : sp_Mem), kb a1 a2 a3 M = some p → sp_Wp g Ω mX11_row 0 0 35 [some (.ref 103), some (.int a1), some (.int a2), some (.int a3)] [] M Q) (hx : ∀ (a2 : Int32) (M : sp_Mem), kx a2 M = some p → sp_Wp g Ω mX11_row 0 0 122 [some (.ref 103), none, some (.int a2), none] [] M Q) (a1 : Int32) (a2 : Int32) (a3 : Int32) (M : sp_Mem) (h : fX11_row_j106 F kb kx a1 a2 a3 M = some p) : sp_Wp g Ω mX11_row 0 0 106 [some (.ref 103), some (.int a1), some (.int a2), some (.int a3)] [] M Q := by
  unfold fX11_row_j106 at h
  refine sp_aload_n dX11_row_106 rfl rfl ?_
  refine sp_dup dX11_row_107 rfl ?_
  refine sp_use (fun ho => ?_)
  have hs := hG.1 _ ho
  refine sp_getI (RX11, TX11, 56) dX11_row_108 clX11 (j := 11) (by decide) tw_1226 (wsI_103 hs) (Or.inl rfl) ?_
  refine sp_iconst (v := 1) dX11_row_111 (by decide) ?_
  refine sp_iadd dX11_row_112 ?_
  obtain ⟨M8, hM8, h⟩ := sp_do_e h
  refine sp_putI2 (RX11, TX11, 56) hG dX11_row_113 clX11 (j := 11) (by decide) tw_1226 rfl (Or.inl rfl) (wsI_103 hs) hM8 ?_
  refine sp_iinc (v := (a3 + 2)) [some (.ref 103), some (.int a1), some (.int a2), some (.int (a3 + 2))] dX11_row_116 rfl rfl (by decide) rfl ?_
  refine sp_goto (tgt := 35) dX11_row_119 (by decide) ?_
  refine sp_weak [true, true, true, true] [some (.ref 103), some (.int a1), some (.int a2), some (.int (a3 + 2))] rfl ?_
  exact hb _ _ _ _ h
set_option maxRecDepth 100000 in
set_option maxHeartbeats 4000000 in
theorem tX11_row_l35 {g : sp_G} {Ω : sp_Mem → Prop} {Q : sp_Qt} {F : Nat} {p : (Int32 × sp_Mem)} (hG : sp_Ok Ω)  {kx : Int32 → sp_Mem → Option (Int32 × sp_Mem)} (hQ : Q (some (.int p.1)) p.2) (hx : ∀ (a2 : Int32) (M : sp_Mem), kx a2 M = some p → sp_Wp g Ω mX11_row 0 0 122 [some (.ref 103), none, some (.int a2), none] [] M Q) : ∀ (n : Nat) (a1 : Int32) (a2 : Int32) (a3 : Int32) (M : sp_Mem), fX11_row_l35 F kx n a1 a2 a3 M = some p → sp_Wp g Ω mX11_row 0 0 35 [some (.ref 103), some (.int a1), some (.int a2), some (.int a3)] [] M Q := by
  intro n
  induction n with
  | zero =>
    intro a1 a2 a3 M h
    rw [fX11_row_l35] at h
    cases h
  | succ n ih =>
    intro a1 a2 a3 M h
    rw [fX11_row_l35] at h
    refine sp_iload_n dX11_row_35 rfl rfl ?_
    refine sp_iload_n dX11_row_36 rfl rfl ?_
    refine sp_icmp_ge (tgt := 122) dX11_row_37 (by decide) (fun hc6 => ?_) (fun hc6 => ?_)
    · have h := (if_pos hc6).symm.trans h
      refine sp_weak [true, false, true, false] [some (.ref 103), none, some (.int a2), none] rfl ?_
      exact hx _ _ h
    · have h := (if_neg hc6).symm.trans h
      refine sp_iload_n dX11_row_40 rfl rfl ?_
      refine sp_iconst (v := 1) dX11_row_41 (by decide) ?_
      refine sp_iadd dX11_row_42 ?_
      refine sp_iload_n dX11_row_43 rfl rfl ?_
      refine sp_icmp_ge (tgt := 106) dX11_row_44 (by decide) (fun hc7 => ?_) (fun hc7 => ?_)
      · have h := (if_pos hc7).symm.trans h
        refine sp_weak [true, true, true, true] [some (.ref 103), some (.int a1), some (.int a2), some (.int a3)] rfl ?_
        exact tX11_row_j106 hG hQ ih hx _ _ _ _ h
      · have h := (if_neg hc7).symm.trans h
        refine sp_aload_n dX11_row_47 rfl rfl ?_
        refine sp_use (fun ho => ?_)
        have hs := hG.1 _ ho
        refine sp_getR (RX11, TX11, 56) dX11_row_48 clX11 (j := 12) (by decide) tw_1227 (wsI_103 hs) (Or.inr ⟨_, rfl⟩) (wsP_103_12 hs) ?_
        refine sp_iload_n dX11_row_51 rfl rfl ?_
        obtain ⟨j9, hj9, h⟩ := Option.bind_eq_some_iff.mp h
        refine sp_iald2 (j := j9) dX11_row_52 (wsA_112 hs) (wsN_112 hs) hj9 ?_
        refine sp_cS (M1 := M) (r := some (.int (fX11_isCell (sp_I M 112 j9)))) (st := []) [.int (sp_I M 112 j9)] [.int (sp_I M 112 j9)] [.int (fX11_isCell (sp_I M 112 j9))] dX11_row_53 okX11_isCell tw_1415 tw_1416 (by decide) (by decide) rfl (Nat.le_of_ble_eq_true rfl) rfl rfl (fun Q hQ => tX11_isCell hG rfl hQ) ?_
        refine sp_if_eq (tgt := 106) dX11_row_56 (by decide) (fun hc10 => ?_) (fun hc10 => ?_)
        · have h := (if_pos hc10).symm.trans h
          refine sp_weak [true, true, true, true] [some (.ref 103), some (.int a1), some (.int a2), some (.int a3)] rfl ?_
          exact tX11_row_j106 hG hQ ih hx _ _ _ _ h
        · have h := (if_neg hc10).symm.trans h
          refine sp_aload_n dX11_row_59 rfl rfl ?_
          refine sp_getR (RX11, TX11, 56) dX11_row_60 clX11 (j := 12) (by decide) tw_1227 (wsI_103 hs) (Or.inr ⟨_, rfl⟩) (wsP_103_12 hs) ?_
          refine sp_iload_n dX11_row_63 rfl rfl ?_
          refine sp_iconst (v := 1) dX11_row_64 (by decide) ?_
          refine sp_iadd dX11_row_65 ?_
          obtain ⟨j11, hj11, h⟩ := Option.bind_eq_some_iff.mp h
          refine sp_iald2 (j := j11) dX11_row_66 (wsA_112 hs) (wsN_112 hs) hj11 ?_
          refine sp_i2l dX11_row_67 ?_
          refine sp_lconst (v := 0) dX11_row_68 (by decide) ?_
          refine sp_ldc2 (v := 3) dX11_row_69 tw_1524 ?_
          refine sp_cS (M1 := M) (r := some (.int (fX11_in (Int32.toInt64 (sp_I M 112 j11)) 0 3))) (st := []) [.long (Int32.toInt64 (sp_I M 112 j11)), .long 0, .long 3] [.long 3, .long 0, .long (Int32.toInt64 (sp_I M 112 j11))] [.int (fX11_in (Int32.toInt64 (sp_I M 112 j11)) 0 3)] dX11_row_72 okX11_in tw_1400 tw_1401 (by decide) (by decide) rfl (Nat.le_of_ble_eq_true rfl) rfl rfl (fun Q hQ => tX11_in hG rfl hQ) ?_
          refine sp_if_eq (tgt := 106) dX11_row_75 (by decide) (fun hc12 => ?_) (fun hc12 => ?_)
          · have h := (if_pos hc12).symm.trans h
            refine sp_weak [true, true, true, true] [some (.ref 103), some (.int a1), some (.int a2), some (.int a3)] rfl ?_
            exact tX11_row_j106 hG hQ ih hx _ _ _ _ h
          · have h := (if_neg hc12).symm.trans h
            refine sp_aload_n dX11_row_78 rfl rfl ?_
            refine sp_getR (RX11, TX11, 56) dX11_row_79 clX11 (j := 3) (by decide) tw_1218 (wsI_103 hs) (Or.inr ⟨_, rfl⟩) (wsP_103_3 hs) ?_
            refine sp_bipush (v := 26) dX11_row_82 (by decide) ?_
            refine sp_aload_n dX11_row_84 rfl rfl ?_
            refine sp_getR (RX11, TX11, 56) dX11_row_85 clX11 (j := 12) (by decide) tw_1227 (wsI_103 hs) (Or.inr ⟨_, rfl⟩) (wsP_103_12 hs) ?_
            refine sp_iload_n dX11_row_88 rfl rfl ?_
            obtain ⟨j13, hj13, h⟩ := Option.bind_eq_some_iff.mp h
            refine sp_iald2 (j := j13) dX11_row_89 (wsA_112 hs) (wsN_112 hs) hj13 ?_
            refine sp_iadd dX11_row_90 ?_
            refine sp_aload_n dX11_row_91 rfl rfl ?_
            refine sp_getR (RX11, TX11, 56) dX11_row_92 clX11 (j := 12) (by decide) tw_1227 (wsI_103 hs) (Or.inr ⟨_, rfl⟩) (wsP_103_12 hs) ?_
            refine sp_iload_n dX11_row_95 rfl rfl ?_
            refine sp_iconst (v := 1) dX11_row_96 (by decide) ?_
            refine sp_iadd dX11_row_97 ?_
            obtain ⟨j14, hj14, h⟩ := Option.bind_eq_some_iff.mp h
            refine sp_iald2 (j := j14) dX11_row_98 (wsA_112 hs) (wsN_112 hs) hj14 ?_
            obtain ⟨j15, hj15, h⟩ := Option.bind_eq_some_iff.mp h
            obtain ⟨M16, hM16, h⟩ := sp_do_e h
            refine sp_iast2 (j := j15) hG dX11_row_99 (wsA_105 hs) (wsN_105 hs) hj15 hM16 ?_
            refine sp_iinc (v := (a2 + 1)) [some (.ref 103), some (.int a1), some (.int (a2 + 1)), some (.int a3)] dX11_row_100 rfl rfl (by decide) rfl ?_
            refine sp_goto (tgt := 116) dX11_row_103 (by decide) ?_
            refine sp_iinc (v := (a3 + 2)) [some (.ref 103), some (.int a1), some (.int (a2 + 1)), some (.int (a3 + 2))] dX11_row_116 rfl rfl (by decide) rfl ?_
            refine sp_goto (tgt := 35) dX11_row_119 (by decide) ?_
            refine sp_weak [true, true, true, true] [some (.ref 103), some (.int a1), some (.int (a2 + 1)), some (.int (a3 + 2))] rfl ?_
            exact ih _ _ _ _ h
set_option maxRecDepth 100000 in
set_option maxHeartbeats 4000000 in
theorem tX11_row {g : sp_G} {Ω : sp_Mem → Prop} {Q : sp_Qt} {F : Nat} {p : (Int32 × sp_Mem)} (hG : sp_Ok Ω) {M : sp_Mem} (h : fX11_row F M = some p) (hQ : Q (some (.int p.1)) p.2) : sp_Mt g Ω mX11_row 0 0 [.ref 103] M Q := by
  unfold fX11_row at h
  refine sp_Mt.of [some (.ref 103), none, none, none] (by decide) (by simp [sp_ent, Value.category]) rfl ?_
  refine sp_aload_n dX11_row_0 rfl rfl ?_
  refine sp_iconst (v := 0) dX11_row_1 (by decide) ?_
  refine sp_use (fun ho => ?_)
  have hs := hG.1 _ ho
  obtain ⟨M1, hM1, h⟩ := sp_do_e h
  refine sp_putI2 (RX11, TX11, 56) hG dX11_row_2 clX11 (j := 0) (by decide) tw_1215 rfl (Or.inl rfl) (wsI_103 hs) hM1 ?_
  refine sp_aload_n dX11_row_5 rfl rfl ?_
  refine sp_use (fun ho => ?_)
  have hs := hG.1 _ ho
  refine sp_getI (RX11, TX11, 56) dX11_row_6 clX11 (j := 13) (by decide) tw_1228 (wsI_103 hs) (Or.inl rfl) ?_
  obtain ⟨u2, hu2, h⟩ := sp_do_e h
  refine sp_topi hu2 ?_
  refine sp_istore_n [some (.ref 103), some (.int u2), none, none] dX11_row_9 rfl (by decide) rfl ?_
  refine sp_aload_n dX11_row_10 rfl rfl ?_
  refine sp_iconst (v := 0) dX11_row_11 (by decide) ?_
  obtain ⟨M3, hM3, h⟩ := sp_do_e h
  refine sp_putI2 (RX11, TX11, 56) hG dX11_row_12 clX11 (j := 13) (by decide) tw_1228 rfl (Or.inl rfl) (wsI_103 hs) hM3 ?_
  refine sp_iload_n dX11_row_15 rfl rfl ?_
  refine sp_if_ne (tgt := 26) dX11_row_16 (by decide) (fun hc4 => ?_) (fun hc4 => ?_)
  · have h := (if_neg hc4).symm.trans h
    refine sp_aload_n dX11_row_26 rfl rfl ?_
    refine sp_iconst (v := 0) dX11_row_27 (by decide) ?_
    refine sp_use (fun ho => ?_)
    have hs := hG.1 _ ho
    obtain ⟨M5, hM5, h⟩ := sp_do_e h
    refine sp_putI2 (RX11, TX11, 56) hG dX11_row_28 clX11 (j := 11) (by decide) tw_1226 rfl (Or.inl rfl) (wsI_103 hs) hM5 ?_
    refine sp_iconst (v := 0) dX11_row_31 (by decide) ?_
    refine sp_istore_n [some (.ref 103), some (.int u2), some (.int 0), none] dX11_row_32 rfl (by decide) rfl ?_
    refine sp_iconst (v := 0) dX11_row_33 (by decide) ?_
    refine sp_istore_n [some (.ref 103), some (.int u2), some (.int 0), some (.int 0)] dX11_row_34 rfl (by decide) rfl ?_
    refine sp_weak [true, true, true, true] [some (.ref 103), some (.int u2), some (.int 0), some (.int 0)] rfl ?_
    refine tX11_row_l35 hG hQ (fun b18 M17 h => ?_) F _ _ _ _ h
    refine sp_aload_n dX11_row_122 rfl rfl ?_
    refine sp_iload_n dX11_row_123 rfl rfl ?_
    refine sp_use (fun ho => ?_)
    have hs := hG.1 _ ho
    obtain ⟨x19, hx19, h⟩ := Option.bind_eq_some_iff.mp h
    refine sp_cV (M1 := x19.2) (r := some (.int x19.1)) (o := 103) (st := []) (c := 10) (RX11, TX11, 56) [.int b18] [.int b18, .ref 103] [.int x19.1] dX11_row_124 okX11_settled tw_1407 tw_1409 tw_29 (by decide) (by decide) rfl (Nat.le_of_ble_eq_true rfl) rfl rfl rfl rfl (wsI_103 hs) (fun Q hQ => tX11_settled hG hx19 hQ) ?_
    cases h
    exact sp_iret dX11_row_127 (ty := .int) rfl rfl (fun _ => hQ)
  · have h := (if_pos hc4).symm.trans h
    refine sp_aload_n dX11_row_19 rfl rfl ?_
    refine sp_bipush (v := (-6)) dX11_row_20 (by decide) ?_
    refine sp_use (fun ho => ?_)
    have hs := hG.1 _ ho
    obtain ⟨x20, hx20, h⟩ := Option.bind_eq_some_iff.mp h
    refine sp_cV (M1 := x20.2) (r := some (.int x20.1)) (o := 103) (st := []) (c := 10) (RX11, TX11, 56) [.int (-6)] [.int (-6), .ref 103] [.int x20.1] dX11_row_22 okX11_tell tw_1388 tw_1390 tw_27 (by decide) (by decide) rfl (Nat.le_of_ble_eq_true rfl) rfl rfl rfl rfl (wsI_103 hs) (fun Q hQ => tX11_tell hG hx20 hQ) ?_
    cases h
    exact sp_iret dX11_row_25 (ty := .int) rfl rfl (fun _ => hQ)
def fX11_ash (M : sp_Mem) : Option (Int32 × sp_Mem) :=
  sp_do (sp_setI M 103 0 0) fun M1 => some ((sp_I M1 103 11), M1)
set_option maxRecDepth 100000 in
set_option maxHeartbeats 4000000 in
theorem tX11_ash {g : sp_G} {Ω : sp_Mem → Prop} {Q : sp_Qt} {p : (Int32 × sp_Mem)} (hG : sp_Ok Ω) {M : sp_Mem} (h : fX11_ash M = some p) (hQ : Q (some (.int p.1)) p.2) : sp_Mt g Ω mX11_ash 0 0 [.ref 103] M Q := by
  unfold fX11_ash at h
  refine sp_Mt.of [some (.ref 103)] (by decide) (by simp [sp_ent, Value.category]) rfl ?_
  refine sp_aload_n dX11_ash_0 rfl rfl ?_
  refine sp_iconst (v := 0) dX11_ash_1 (by decide) ?_
  refine sp_use (fun ho => ?_)
  have hs := hG.1 _ ho
  obtain ⟨M1, hM1, h⟩ := sp_do_e h
  refine sp_putI2 (RX11, TX11, 56) hG dX11_ash_2 clX11 (j := 0) (by decide) tw_1215 rfl (Or.inl rfl) (wsI_103 hs) hM1 ?_
  refine sp_aload_n dX11_ash_5 rfl rfl ?_
  refine sp_use (fun ho => ?_)
  have hs := hG.1 _ ho
  refine sp_getI (RX11, TX11, 56) dX11_ash_6 clX11 (j := 11) (by decide) tw_1226 (wsI_103 hs) (Or.inl rfl) ?_
  cases h
  exact sp_iret dX11_ash_9 (ty := .int) rfl rfl (fun _ => hQ)
def fX11_four_l3 (F : Nat) (kx : sp_Mem → Option sp_Mem) : Nat → Int32 → Int32 → sp_Mem → Option sp_Mem
  | 0, _, _, _ => none
  | n + 1, a1, a2, M =>
  if a2 < 0 then (kx M) else ((sp_ix 400 (sp_I M 103 13)).bind fun j2 => sp_do (sp_setI M 112 j2 ((a1 >>> (a2 &&& 31)) &&& 255)) fun M3 => sp_do (sp_setI M3 103 13 ((sp_I M3 103 13) + 1)) fun M4 => (fX11_four_l3 F kx n) a1 (a2 + (-8)) M4)
def fX11_four (F : Nat) (M : sp_Mem) (a1 : Int32) : Option sp_Mem :=
  fX11_four_l3 F (fun M5 => some M5) F a1 24 M
set_option maxRecDepth 100000 in
set_option maxHeartbeats 4000000 in
theorem tX11_four_l3 {g : sp_G} {Ω : sp_Mem → Prop} {Q : sp_Qt} {F : Nat} {p : sp_Mem} (hG : sp_Ok Ω)  {kx : sp_Mem → Option sp_Mem} (hQ : Q none p) (hx : ∀  (M : sp_Mem), kx M = some p → sp_Wp g Ω mX11_four 0 0 39 [none, none, none] [] M Q) : ∀ (n : Nat) (a1 : Int32) (a2 : Int32) (M : sp_Mem), fX11_four_l3 F kx n a1 a2 M = some p → sp_Wp g Ω mX11_four 0 0 3 [some (.ref 103), some (.int a1), some (.int a2)] [] M Q := by
  intro n
  induction n with
  | zero =>
    intro a1 a2 M h
    rw [fX11_four_l3] at h
    cases h
  | succ n ih =>
    intro a1 a2 M h
    rw [fX11_four_l3] at h
    refine sp_iload_n dX11_four_3 rfl rfl ?_
    refine sp_if_lt (tgt := 39) dX11_four_4 (by decide) (fun hc1 => ?_) (fun hc1 => ?_)
    · have h := (if_pos hc1).symm.trans h
      refine sp_weak [false, false, false] [none, none, none] rfl ?_
      exact hx _ h
    · have h := (if_neg hc1).symm.trans h
      refine sp_aload_n dX11_four_7 rfl rfl ?_
      refine sp_use (fun ho => ?_)
      have hs := hG.1 _ ho
      refine sp_getR (RX11, TX11, 56) dX11_four_8 clX11 (j := 12) (by decide) tw_1227 (wsI_103 hs) (Or.inr ⟨_, rfl⟩) (wsP_103_12 hs) ?_
      refine sp_aload_n dX11_four_11 rfl rfl ?_
      refine sp_getI (RX11, TX11, 56) dX11_four_12 clX11 (j := 13) (by decide) tw_1228 (wsI_103 hs) (Or.inl rfl) ?_
      refine sp_iload_n dX11_four_15 rfl rfl ?_
      refine sp_iload_n dX11_four_16 rfl rfl ?_
      refine sp_ishr dX11_four_17 ?_
      refine sp_sipush (v := 255) dX11_four_18 (by decide) ?_
      refine sp_iand dX11_four_21 ?_
      obtain ⟨j2, hj2, h⟩ := Option.bind_eq_some_iff.mp h
      obtain ⟨M3, hM3, h⟩ := sp_do_e h
      refine sp_iast2 (j := j2) hG dX11_four_22 (wsA_112 hs) (wsN_112 hs) hj2 hM3 ?_
      refine sp_aload_n dX11_four_23 rfl rfl ?_
      refine sp_dup dX11_four_24 rfl ?_
      refine sp_use (fun ho => ?_)
      have hs := hG.1 _ ho
      refine sp_getI (RX11, TX11, 56) dX11_four_25 clX11 (j := 13) (by decide) tw_1228 (wsI_103 hs) (Or.inl rfl) ?_
      refine sp_iconst (v := 1) dX11_four_28 (by decide) ?_
      refine sp_iadd dX11_four_29 ?_
      obtain ⟨M4, hM4, h⟩ := sp_do_e h
      refine sp_putI2 (RX11, TX11, 56) hG dX11_four_30 clX11 (j := 13) (by decide) tw_1228 rfl (Or.inl rfl) (wsI_103 hs) hM4 ?_
      refine sp_iinc (v := (a2 + (-8))) [some (.ref 103), some (.int a1), some (.int (a2 + (-8)))] dX11_four_33 rfl rfl (by decide) rfl ?_
      refine sp_goto (tgt := 3) dX11_four_36 (by decide) ?_
      refine sp_weak [true, true, true] [some (.ref 103), some (.int a1), some (.int (a2 + (-8)))] rfl ?_
      exact ih _ _ _ h
set_option maxRecDepth 100000 in
set_option maxHeartbeats 4000000 in
theorem tX11_four {g : sp_G} {Ω : sp_Mem → Prop} {Q : sp_Qt} {F : Nat} {p : sp_Mem} (hG : sp_Ok Ω) {M : sp_Mem} {a1 : Int32} (h : fX11_four F M a1 = some p) (hQ : Q none p) : sp_Mt g Ω mX11_four 0 0 [.ref 103, .int a1] M Q := by
  unfold fX11_four at h
  refine sp_Mt.of [some (.ref 103), some (.int a1), none] (by decide) (by simp [sp_ent, Value.category]) rfl ?_
  refine sp_bipush (v := 24) dX11_four_0 (by decide) ?_
  refine sp_istore_n [some (.ref 103), some (.int a1), some (.int 24)] dX11_four_2 rfl (by decide) rfl ?_
  refine sp_weak [true, true, true] [some (.ref 103), some (.int a1), some (.int 24)] rfl ?_
  refine tX11_four_l3 hG hQ (fun M5 h => ?_) F _ _ _ h
  cases h
  exact sp_vret dX11_four_39 rfl (fun _ => hQ)
def fX11_feed (F : Nat) (M : sp_Mem) (a1 : Int32) (a2 : Int32) (a3 : Int32) (a4 : Int32) (a5 : Int32) : Option (Int32 × sp_Mem) :=
  sp_do (sp_setI M 103 0 0) fun M1 => if ((sp_I M1 103 13) + 20) ≤ 400 then ((fX11_four F M1 a1).bind fun M3 => (fX11_four F M3 a2).bind fun M4 => (fX11_four F M4 a3).bind fun M5 => (fX11_four F M5 a4).bind fun M6 => (fX11_four F M6 a5).bind fun M7 => some ((sp_I M7 103 13), M7)) else (some ((-1), M1))
set_option maxRecDepth 100000 in
set_option maxHeartbeats 4000000 in
theorem tX11_feed {g : sp_G} {Ω : sp_Mem → Prop} {Q : sp_Qt} {F : Nat} {p : (Int32 × sp_Mem)} (hG : sp_Ok Ω) {M : sp_Mem} {a1 : Int32} {a2 : Int32} {a3 : Int32} {a4 : Int32} {a5 : Int32} (h : fX11_feed F M a1 a2 a3 a4 a5 = some p) (hQ : Q (some (.int p.1)) p.2) : sp_Mt g Ω mX11_feed 0 0 [.ref 103, .int a1, .int a2, .int a3, .int a4, .int a5] M Q := by
  unfold fX11_feed at h
  refine sp_Mt.of [some (.ref 103), some (.int a1), some (.int a2), some (.int a3), some (.int a4), some (.int a5)] (by decide) (by simp [sp_ent, Value.category]) rfl ?_
  refine sp_aload_n dX11_feed_0 rfl rfl ?_
  refine sp_iconst (v := 0) dX11_feed_1 (by decide) ?_
  refine sp_use (fun ho => ?_)
  have hs := hG.1 _ ho
  obtain ⟨M1, hM1, h⟩ := sp_do_e h
  refine sp_putI2 (RX11, TX11, 56) hG dX11_feed_2 clX11 (j := 0) (by decide) tw_1215 rfl (Or.inl rfl) (wsI_103 hs) hM1 ?_
  refine sp_aload_n dX11_feed_5 rfl rfl ?_
  refine sp_use (fun ho => ?_)
  have hs := hG.1 _ ho
  refine sp_getI (RX11, TX11, 56) dX11_feed_6 clX11 (j := 13) (by decide) tw_1228 (wsI_103 hs) (Or.inl rfl) ?_
  refine sp_bipush (v := 20) dX11_feed_9 (by decide) ?_
  refine sp_iadd dX11_feed_11 ?_
  refine sp_sipush (v := 400) dX11_feed_12 (by decide) ?_
  refine sp_icmp_le (tgt := 20) dX11_feed_15 (by decide) (fun hc2 => ?_) (fun hc2 => ?_)
  · have h := (if_pos hc2).symm.trans h
    refine sp_aload_n dX11_feed_20 rfl rfl ?_
    refine sp_iload_n dX11_feed_21 rfl rfl ?_
    obtain ⟨M3, hM3, h⟩ := Option.bind_eq_some_iff.mp h
    refine sp_cV (M1 := M3) (r := none) (o := 103) (st := []) (c := 10) (RX11, TX11, 56) [.int a1] [.int a1, .ref 103] [] dX11_feed_22 okX11_four tw_1533 tw_1535 tw_43 (by decide) (by decide) rfl (Nat.le_of_ble_eq_true rfl) rfl rfl rfl rfl (wsI_103 hs) (fun Q hQ => tX11_four hG hM3 hQ) ?_
    refine sp_aload_n dX11_feed_25 rfl rfl ?_
    refine sp_iload_n dX11_feed_26 rfl rfl ?_
    refine sp_use (fun ho => ?_)
    have hs := hG.1 _ ho
    obtain ⟨M4, hM4, h⟩ := Option.bind_eq_some_iff.mp h
    refine sp_cV (M1 := M4) (r := none) (o := 103) (st := []) (c := 10) (RX11, TX11, 56) [.int a2] [.int a2, .ref 103] [] dX11_feed_27 okX11_four tw_1533 tw_1535 tw_43 (by decide) (by decide) rfl (Nat.le_of_ble_eq_true rfl) rfl rfl rfl rfl (wsI_103 hs) (fun Q hQ => tX11_four hG hM4 hQ) ?_
    refine sp_aload_n dX11_feed_30 rfl rfl ?_
    refine sp_iload_n dX11_feed_31 rfl rfl ?_
    refine sp_use (fun ho => ?_)
    have hs := hG.1 _ ho
    obtain ⟨M5, hM5, h⟩ := Option.bind_eq_some_iff.mp h
    refine sp_cV (M1 := M5) (r := none) (o := 103) (st := []) (c := 10) (RX11, TX11, 56) [.int a3] [.int a3, .ref 103] [] dX11_feed_32 okX11_four tw_1533 tw_1535 tw_43 (by decide) (by decide) rfl (Nat.le_of_ble_eq_true rfl) rfl rfl rfl rfl (wsI_103 hs) (fun Q hQ => tX11_four hG hM5 hQ) ?_
    refine sp_aload_n dX11_feed_35 rfl rfl ?_
    refine sp_iload dX11_feed_36 rfl ?_
    refine sp_use (fun ho => ?_)
    have hs := hG.1 _ ho
    obtain ⟨M6, hM6, h⟩ := Option.bind_eq_some_iff.mp h
    refine sp_cV (M1 := M6) (r := none) (o := 103) (st := []) (c := 10) (RX11, TX11, 56) [.int a4] [.int a4, .ref 103] [] dX11_feed_38 okX11_four tw_1533 tw_1535 tw_43 (by decide) (by decide) rfl (Nat.le_of_ble_eq_true rfl) rfl rfl rfl rfl (wsI_103 hs) (fun Q hQ => tX11_four hG hM6 hQ) ?_
    refine sp_aload_n dX11_feed_41 rfl rfl ?_
    refine sp_iload dX11_feed_42 rfl ?_
    refine sp_use (fun ho => ?_)
    have hs := hG.1 _ ho
    obtain ⟨M7, hM7, h⟩ := Option.bind_eq_some_iff.mp h
    refine sp_cV (M1 := M7) (r := none) (o := 103) (st := []) (c := 10) (RX11, TX11, 56) [.int a5] [.int a5, .ref 103] [] dX11_feed_44 okX11_four tw_1533 tw_1535 tw_43 (by decide) (by decide) rfl (Nat.le_of_ble_eq_true rfl) rfl rfl rfl rfl (wsI_103 hs) (fun Q hQ => tX11_four hG hM7 hQ) ?_
    refine sp_aload_n dX11_feed_47 rfl rfl ?_
    refine sp_use (fun ho => ?_)
    have hs := hG.1 _ ho
    refine sp_getI (RX11, TX11, 56) dX11_feed_48 clX11 (j := 13) (by decide) tw_1228 (wsI_103 hs) (Or.inl rfl) ?_
    cases h
    exact sp_iret dX11_feed_51 (ty := .int) rfl rfl (fun _ => hQ)
  · have h := (if_neg hc2).symm.trans h
    refine sp_iconst (v := (-1)) dX11_feed_18 (by decide) ?_
    cases h
    exact sp_iret dX11_feed_19 (ty := .int) rfl rfl (fun _ => hQ)
def fX11_end (M : sp_Mem) (a1 : Int32) : Option (Int32 × sp_Mem) :=
  sp_do (sp_setI M 103 0 0) fun M1 => if a1 < 0 then (some ((-1), M1)) else (if a1 ≤ (sp_I M1 103 13) then (sp_do (sp_setI M1 103 13 a1) fun M4 => some (a1, M4)) else (some ((-1), M1)))
set_option maxRecDepth 100000 in
set_option maxHeartbeats 4000000 in
theorem tX11_end {g : sp_G} {Ω : sp_Mem → Prop} {Q : sp_Qt} {p : (Int32 × sp_Mem)} (hG : sp_Ok Ω) {M : sp_Mem} {a1 : Int32} (h : fX11_end M a1 = some p) (hQ : Q (some (.int p.1)) p.2) : sp_Mt g Ω mX11_end 0 0 [.ref 103, .int a1] M Q := by
  unfold fX11_end at h
  refine sp_Mt.of [some (.ref 103), some (.int a1)] (by decide) (by simp [sp_ent, Value.category]) rfl ?_
  refine sp_aload_n dX11_end_0 rfl rfl ?_
  refine sp_iconst (v := 0) dX11_end_1 (by decide) ?_
  refine sp_use (fun ho => ?_)
  have hs := hG.1 _ ho
  obtain ⟨M1, hM1, h⟩ := sp_do_e h
  refine sp_putI2 (RX11, TX11, 56) hG dX11_end_2 clX11 (j := 0) (by decide) tw_1215 rfl (Or.inl rfl) (wsI_103 hs) hM1 ?_
  refine sp_iload_n dX11_end_5 rfl rfl ?_
  refine sp_if_lt (tgt := 17) dX11_end_6 (by decide) (fun hc2 => ?_) (fun hc2 => ?_)
  · have h := (if_pos hc2).symm.trans h
    refine sp_iconst (v := (-1)) dX11_end_17 (by decide) ?_
    cases h
    exact sp_iret dX11_end_18 (ty := .int) rfl rfl (fun _ => hQ)
  · have h := (if_neg hc2).symm.trans h
    refine sp_iload_n dX11_end_9 rfl rfl ?_
    refine sp_aload_n dX11_end_10 rfl rfl ?_
    refine sp_use (fun ho => ?_)
    have hs := hG.1 _ ho
    refine sp_getI (RX11, TX11, 56) dX11_end_11 clX11 (j := 13) (by decide) tw_1228 (wsI_103 hs) (Or.inl rfl) ?_
    refine sp_icmp_le (tgt := 19) dX11_end_14 (by decide) (fun hc3 => ?_) (fun hc3 => ?_)
    · have h := (if_pos hc3).symm.trans h
      refine sp_aload_n dX11_end_19 rfl rfl ?_
      refine sp_iload_n dX11_end_20 rfl rfl ?_
      obtain ⟨M4, hM4, h⟩ := sp_do_e h
      refine sp_putI2 (RX11, TX11, 56) hG dX11_end_21 clX11 (j := 13) (by decide) tw_1228 rfl (Or.inl rfl) (wsI_103 hs) hM4 ?_
      refine sp_iload_n dX11_end_24 rfl rfl ?_
      cases h
      exact sp_iret dX11_end_25 (ty := .int) rfl rfl (fun _ => hQ)
    · have h := (if_neg hc3).symm.trans h
      refine sp_iconst (v := (-1)) dX11_end_17 (by decide) ?_
      cases h
      exact sp_iret dX11_end_18 (ty := .int) rfl rfl (fun _ => hQ)
def fX11_isSmall (a0 : Int32) : Int32 :=
  (if a0 < 97 then 0 else (if 122 < a0 then 0 else 1))
set_option maxRecDepth 100000 in
set_option maxHeartbeats 4000000 in
theorem tX11_isSmall {g : sp_G} {Ω : sp_Mem → Prop} {Q : sp_Qt} {M0 : sp_Mem} {p : Int32} (hG : sp_Ok Ω) {a0 : Int32} (h : fX11_isSmall a0 = p) (hQ : Q (some (.int p)) M0) : sp_Mt g Ω mX11_isSmall 0 0 [.int a0] M0 Q := by
  unfold fX11_isSmall at h
  refine sp_Mt.of [some (.int a0)] (by decide) (by simp [sp_ent, Value.category]) rfl ?_
  refine sp_iload_n dX11_isSmall_0 rfl rfl ?_
  refine sp_bipush (v := 97) dX11_isSmall_1 (by decide) ?_
  suffices hj : sp_Wp g Ω mX11_isSmall 0 0 17 [none] [.int (if a0 < 97 then 0 else (if 122 < a0 then 0 else 1))] M0 Q by
    refine sp_icmp_lt (tgt := 16) dX11_isSmall_3 (by decide) (fun hc1 => ?_) (fun hc1 => ?_)
    · refine sp_iconst (v := 0) dX11_isSmall_16 (by decide) ?_
      refine sp_weak [false] [none] rfl ?_
      simp only [if_pos hc1] at hj
      exact hj
    · refine sp_iload_n dX11_isSmall_6 rfl rfl ?_
      refine sp_bipush (v := 122) dX11_isSmall_7 (by decide) ?_
      refine sp_icmp_gt (tgt := 16) dX11_isSmall_9 (by decide) (fun hc2 => ?_) (fun hc2 => ?_)
      · refine sp_iconst (v := 0) dX11_isSmall_16 (by decide) ?_
        refine sp_weak [false] [none] rfl ?_
        simp only [if_neg hc1, if_pos hc2] at hj
        exact hj
      · refine sp_iconst (v := 1) dX11_isSmall_12 (by decide) ?_
        refine sp_goto (tgt := 17) dX11_isSmall_13 (by decide) ?_
        refine sp_weak [false] [none] rfl ?_
        simp only [if_neg hc1, if_neg hc2] at hj
        exact hj
  cases h
  exact sp_iret dX11_isSmall_17 (ty := .boolean) rfl (sp_nz (by repeat (first | exact Or.inl rfl | exact Or.inr rfl | split))) (fun _ => hQ)
theorem bX11_isSmall (a0 : Int32) : fX11_isSmall a0 = 0 ∨ fX11_isSmall a0 = 1 := by
  unfold fX11_isSmall
  repeat (first | exact Or.inl rfl | exact Or.inr rfl | split)
def fX11_isDigit (a0 : Int32) : Int32 :=
  (if a0 < 48 then 0 else (if 57 < a0 then 0 else 1))
set_option maxRecDepth 100000 in
set_option maxHeartbeats 4000000 in
theorem tX11_isDigit {g : sp_G} {Ω : sp_Mem → Prop} {Q : sp_Qt} {M0 : sp_Mem} {p : Int32} (hG : sp_Ok Ω) {a0 : Int32} (h : fX11_isDigit a0 = p) (hQ : Q (some (.int p)) M0) : sp_Mt g Ω mX11_isDigit 0 0 [.int a0] M0 Q := by
  unfold fX11_isDigit at h
  refine sp_Mt.of [some (.int a0)] (by decide) (by simp [sp_ent, Value.category]) rfl ?_
  refine sp_iload_n dX11_isDigit_0 rfl rfl ?_
  refine sp_bipush (v := 48) dX11_isDigit_1 (by decide) ?_
  suffices hj : sp_Wp g Ω mX11_isDigit 0 0 17 [none] [.int (if a0 < 48 then 0 else (if 57 < a0 then 0 else 1))] M0 Q by
    refine sp_icmp_lt (tgt := 16) dX11_isDigit_3 (by decide) (fun hc1 => ?_) (fun hc1 => ?_)
    · refine sp_iconst (v := 0) dX11_isDigit_16 (by decide) ?_
      refine sp_weak [false] [none] rfl ?_
      simp only [if_pos hc1] at hj
      exact hj
    · refine sp_iload_n dX11_isDigit_6 rfl rfl ?_
      refine sp_bipush (v := 57) dX11_isDigit_7 (by decide) ?_
      refine sp_icmp_gt (tgt := 16) dX11_isDigit_9 (by decide) (fun hc2 => ?_) (fun hc2 => ?_)
      · refine sp_iconst (v := 0) dX11_isDigit_16 (by decide) ?_
        refine sp_weak [false] [none] rfl ?_
        simp only [if_neg hc1, if_pos hc2] at hj
        exact hj
      · refine sp_iconst (v := 1) dX11_isDigit_12 (by decide) ?_
        refine sp_goto (tgt := 17) dX11_isDigit_13 (by decide) ?_
        refine sp_weak [false] [none] rfl ?_
        simp only [if_neg hc1, if_neg hc2] at hj
        exact hj
  cases h
  exact sp_iret dX11_isDigit_17 (ty := .boolean) rfl (sp_nz (by repeat (first | exact Or.inl rfl | exact Or.inr rfl | split))) (fun _ => hQ)
theorem bX11_isDigit (a0 : Int32) : fX11_isDigit a0 = 0 ∨ fX11_isDigit a0 = 1 := by
  unfold fX11_isDigit
  repeat (first | exact Or.inl rfl | exact Or.inr rfl | split)
def fX11_next_l8 (F : Nat) (kx : sp_Mem → Option sp_Mem) : Nat → sp_Mem → Option sp_Mem
  | 0, _ => none
  | n + 1, M =>
  if (sp_I M 103 13) ≤ (sp_I M 103 14) then (kx M) else ((sp_ix 400 (sp_I M 103 14)).bind fun j3 => if (sp_I M 112 j3) = 32 then (sp_do (sp_setI M 103 14 ((sp_I M 103 14) + 1)) fun M5 => (fX11_next_l8 F kx n) M5) else (kx M))
def fX11_next_j227 (F : Nat) (kb : sp_Mem → Option sp_Mem) (kx : sp_Mem → Option sp_Mem) (s0 : Int64) (M : sp_Mem) : Option sp_Mem :=
  sp_do (sp_setL M 103 17 s0) fun M21 => sp_do (sp_setI M21 103 15 ((sp_I M21 103 15) + 1)) fun M22 => kb M22
def fX11_next_l149 (F : Nat) (kx : sp_Mem → Option sp_Mem) : Nat → sp_Mem → Option sp_Mem
  | 0, _ => none
  | n + 1, M =>
  if (sp_I M 103 16) = 1 then (if (sp_I M 103 13) ≤ (sp_I M 103 15) then (kx M) else ((sp_ix 400 (sp_I M 103 15)).bind fun j18 => if (fX11_isSmall (sp_I M 112 j18)) = 0 then (kx M) else (if 10 ≤ ((sp_I M 103 15) - (sp_I M 103 14)) then (fX11_next_j227 F (fX11_next_l149 F kx n) kx (-1) M) else ((sp_ix 400 (sp_I M 103 15)).bind fun j23 => fX11_next_j227 F (fX11_next_l149 F kx n) kx ((((sp_L M 103 17) * 32) + (Int32.toInt64 (sp_I M 112 j23))) - 96) M)))) else (kx M)
def fX11_next_j319 (F : Nat) (kb : sp_Mem → Option sp_Mem) (kx : sp_Mem → Option sp_Mem) (s0 : Int64) (M : sp_Mem) : Option sp_Mem :=
  sp_do (sp_setL M 103 17 s0) fun M31 => sp_do (sp_setI M31 103 15 ((sp_I M31 103 15) + 1)) fun M32 => kb M32
def fX11_next_l243 (F : Nat) (kx : sp_Mem → Option sp_Mem) : Nat → sp_Mem → Option sp_Mem
  | 0, _ => none
  | n + 1, M =>
  if (sp_I M 103 16) = 2 then (if (sp_I M 103 13) ≤ (sp_I M 103 15) then (kx M) else ((sp_ix 400 (sp_I M 103 15)).bind fun j27 => if (fX11_isDigit (sp_I M 112 j27)) = 0 then (kx M) else (if (sp_L M 103 17) ≤ 1000000 then ((sp_ix 400 (sp_I M 103 15)).bind fun j30 => fX11_next_j319 F (fX11_next_l243 F kx n) kx ((((sp_L M 103 17) * 10) + (Int32.toInt64 (sp_I M 112 j30))) - 48) M) else (fX11_next_j319 F (fX11_next_l243 F kx n) kx (sp_L M 103 17) M)))) else (kx M)
def fX11_next_j114 (F : Nat) (s0 : Int32) (M : sp_Mem) : Option sp_Mem :=
  sp_do (sp_setI M 103 16 s0) fun M14 => if (sp_I M14 103 16) = 3 then ((sp_ix 400 (sp_I M14 103 14)).bind fun j34 => sp_do (sp_setL M14 103 17 (Int32.toInt64 (sp_I M14 112 j34))) fun M35 => sp_do (sp_setI M35 103 15 ((sp_I M35 103 15) + 1)) fun M36 => fX11_next_l149 F (fun M37 => fX11_next_l243 F (fun M38 => some M38) F M37) F M36) else (fX11_next_l149 F (fun M24 => fX11_next_l243 F (fun M33 => some M33) F M24) F M14)
def fX11_next_j46 (F : Nat) (M : sp_Mem) : Option sp_Mem :=
  sp_do (sp_setI M 103 15 (sp_I M 103 14)) fun M7 => sp_do (sp_setL M7 103 17 0) fun M8 => if (sp_I M8 103 14) = (sp_I M8 103 13) then (fX11_next_j114 F 0 M8) else ((sp_ix 400 (sp_I M8 103 14)).bind fun j10 => if (fX11_isSmall (sp_I M8 112 j10)) = 0 then ((sp_ix 400 (sp_I M8 103 14)).bind fun j12 => fX11_next_j114 F (if (fX11_isDigit (sp_I M8 112 j12)) = 0 then 3 else 2) M8) else (fX11_next_j114 F 1 M8))
def fX11_next (F : Nat) (M : sp_Mem) : Option sp_Mem :=
  sp_do (sp_setI M 103 14 (sp_I M 103 15)) fun M1 => fX11_next_l8 F (fun M6 => fX11_next_j46 F M6) F M1
set_option maxRecDepth 100000 in
set_option maxHeartbeats 4000000 in
theorem tX11_next_l8 {g : sp_G} {Ω : sp_Mem → Prop} {Q : sp_Qt} {F : Nat} {p : sp_Mem} (hG : sp_Ok Ω)  {kx : sp_Mem → Option sp_Mem} (hQ : Q none p) (hx : ∀  (M : sp_Mem), kx M = some p → sp_Wp g Ω mX11_next 0 0 46 [some (.ref 103)] [] M Q) : ∀ (n : Nat)  (M : sp_Mem), fX11_next_l8 F kx n M = some p → sp_Wp g Ω mX11_next 0 0 8 [some (.ref 103)] [] M Q := by
  intro n
  induction n with
  | zero =>
    intro M h
    rw [fX11_next_l8] at h
    cases h
  | succ n ih =>
    intro M h
    rw [fX11_next_l8] at h
    refine sp_aload_n dX11_next_8 rfl rfl ?_
    refine sp_use (fun ho => ?_)
    have hs := hG.1 _ ho
    refine sp_getI (RX11, TX11, 56) dX11_next_9 clX11 (j := 14) (by decide) tw_1229 (wsI_103 hs) (Or.inl rfl) ?_
    refine sp_aload_n dX11_next_12 rfl rfl ?_
    refine sp_getI (RX11, TX11, 56) dX11_next_13 clX11 (j := 13) (by decide) tw_1228 (wsI_103 hs) (Or.inl rfl) ?_
    refine sp_icmp_ge (tgt := 46) dX11_next_16 (by decide) (fun hc2 => ?_) (fun hc2 => ?_)
    · have h := (if_pos hc2).symm.trans h
      refine sp_weak [true] [some (.ref 103)] rfl ?_
      exact hx _ h
    · have h := (if_neg hc2).symm.trans h
      refine sp_aload_n dX11_next_19 rfl rfl ?_
      refine sp_getR (RX11, TX11, 56) dX11_next_20 clX11 (j := 12) (by decide) tw_1227 (wsI_103 hs) (Or.inr ⟨_, rfl⟩) (wsP_103_12 hs) ?_
      refine sp_aload_n dX11_next_23 rfl rfl ?_
      refine sp_getI (RX11, TX11, 56) dX11_next_24 clX11 (j := 14) (by decide) tw_1229 (wsI_103 hs) (Or.inl rfl) ?_
      obtain ⟨j3, hj3, h⟩ := Option.bind_eq_some_iff.mp h
      refine sp_iald2 (j := j3) dX11_next_27 (wsA_112 hs) (wsN_112 hs) hj3 ?_
      refine sp_bipush (v := 32) dX11_next_28 (by decide) ?_
      refine sp_icmp_ne (tgt := 46) dX11_next_30 (by decide) (fun hc4 => ?_) (fun hc4 => ?_)
      · have h := (if_neg hc4).symm.trans h
        refine sp_weak [true] [some (.ref 103)] rfl ?_
        exact hx _ h
      · have h := (if_pos hc4).symm.trans h
        refine sp_aload_n dX11_next_33 rfl rfl ?_
        refine sp_dup dX11_next_34 rfl ?_
        refine sp_getI (RX11, TX11, 56) dX11_next_35 clX11 (j := 14) (by decide) tw_1229 (wsI_103 hs) (Or.inl rfl) ?_
        refine sp_iconst (v := 1) dX11_next_38 (by decide) ?_
        refine sp_iadd dX11_next_39 ?_
        obtain ⟨M5, hM5, h⟩ := sp_do_e h
        refine sp_putI2 (RX11, TX11, 56) hG dX11_next_40 clX11 (j := 14) (by decide) tw_1229 rfl (Or.inl rfl) (wsI_103 hs) hM5 ?_
        refine sp_goto (tgt := 8) dX11_next_43 (by decide) ?_
        refine sp_weak [true] [some (.ref 103)] rfl ?_
        exact ih _ h
set_option maxRecDepth 100000 in
set_option maxHeartbeats 4000000 in
theorem tX11_next_j227 {g : sp_G} {Ω : sp_Mem → Prop} {Q : sp_Qt} {F : Nat} {p : sp_Mem} (hG : sp_Ok Ω)  {kb : sp_Mem → Option sp_Mem} {kx : sp_Mem → Option sp_Mem} (hQ : Q none p) (hb : ∀  (M : sp_Mem), kb M = some p → sp_Wp g Ω mX11_next 0 0 149 [some (.ref 103)] [] M Q) (hx : ∀  (M : sp_Mem), kx M = some p → sp_Wp g Ω mX11_next 0 0 243 [some (.ref 103)] [] M Q) (s0 : Int64) (M : sp_Mem) (h : fX11_next_j227 F kb kx s0 M = some p) : sp_Wp g Ω mX11_next 0 0 227 [some (.ref 103)] [.long s0, .ref 103] M Q := by
  unfold fX11_next_j227 at h
  refine sp_use (fun ho => ?_)
  have hs := hG.1 _ ho
  obtain ⟨M21, hM21, h⟩ := sp_do_e h
  refine sp_putL2 (RX11, TX11, 56) hG dX11_next_227 clX11 (j := 17) (by decide) tw_1232 rfl rfl (wsI_103 hs) hM21 ?_
  refine sp_aload_n dX11_next_230 rfl rfl ?_
  refine sp_dup dX11_next_231 rfl ?_
  refine sp_use (fun ho => ?_)
  have hs := hG.1 _ ho
  refine sp_getI (RX11, TX11, 56) dX11_next_232 clX11 (j := 15) (by decide) tw_1230 (wsI_103 hs) (Or.inl rfl) ?_
  refine sp_iconst (v := 1) dX11_next_235 (by decide) ?_
  refine sp_iadd dX11_next_236 ?_
  obtain ⟨M22, hM22, h⟩ := sp_do_e h
  refine sp_putI2 (RX11, TX11, 56) hG dX11_next_237 clX11 (j := 15) (by decide) tw_1230 rfl (Or.inl rfl) (wsI_103 hs) hM22 ?_
  refine sp_goto (tgt := 149) dX11_next_240 (by decide) ?_
  refine sp_weak [true] [some (.ref 103)] rfl ?_
  exact hb _ h
set_option maxRecDepth 100000 in
set_option maxHeartbeats 4000000 in
theorem tX11_next_l149 {g : sp_G} {Ω : sp_Mem → Prop} {Q : sp_Qt} {F : Nat} {p : sp_Mem} (hG : sp_Ok Ω)  {kx : sp_Mem → Option sp_Mem} (hQ : Q none p) (hx : ∀  (M : sp_Mem), kx M = some p → sp_Wp g Ω mX11_next 0 0 243 [some (.ref 103)] [] M Q) : ∀ (n : Nat)  (M : sp_Mem), fX11_next_l149 F kx n M = some p → sp_Wp g Ω mX11_next 0 0 149 [some (.ref 103)] [] M Q := by
  intro n
  induction n with
  | zero =>
    intro M h
    rw [fX11_next_l149] at h
    cases h
  | succ n ih =>
    intro M h
    rw [fX11_next_l149] at h
    refine sp_aload_n dX11_next_149 rfl rfl ?_
    refine sp_use (fun ho => ?_)
    have hs := hG.1 _ ho
    refine sp_getI (RX11, TX11, 56) dX11_next_150 clX11 (j := 16) (by decide) tw_1231 (wsI_103 hs) (Or.inl rfl) ?_
    refine sp_iconst (v := 1) dX11_next_153 (by decide) ?_
    refine sp_icmp_ne (tgt := 243) dX11_next_154 (by decide) (fun hc16 => ?_) (fun hc16 => ?_)
    · have h := (if_neg hc16).symm.trans h
      refine sp_weak [true] [some (.ref 103)] rfl ?_
      exact hx _ h
    · have h := (if_pos hc16).symm.trans h
      refine sp_aload_n dX11_next_157 rfl rfl ?_
      refine sp_getI (RX11, TX11, 56) dX11_next_158 clX11 (j := 15) (by decide) tw_1230 (wsI_103 hs) (Or.inl rfl) ?_
      refine sp_aload_n dX11_next_161 rfl rfl ?_
      refine sp_getI (RX11, TX11, 56) dX11_next_162 clX11 (j := 13) (by decide) tw_1228 (wsI_103 hs) (Or.inl rfl) ?_
      refine sp_icmp_ge (tgt := 243) dX11_next_165 (by decide) (fun hc17 => ?_) (fun hc17 => ?_)
      · have h := (if_pos hc17).symm.trans h
        refine sp_weak [true] [some (.ref 103)] rfl ?_
        exact hx _ h
      · have h := (if_neg hc17).symm.trans h
        refine sp_aload_n dX11_next_168 rfl rfl ?_
        refine sp_getR (RX11, TX11, 56) dX11_next_169 clX11 (j := 12) (by decide) tw_1227 (wsI_103 hs) (Or.inr ⟨_, rfl⟩) (wsP_103_12 hs) ?_
        refine sp_aload_n dX11_next_172 rfl rfl ?_
        refine sp_getI (RX11, TX11, 56) dX11_next_173 clX11 (j := 15) (by decide) tw_1230 (wsI_103 hs) (Or.inl rfl) ?_
        obtain ⟨j18, hj18, h⟩ := Option.bind_eq_some_iff.mp h
        refine sp_iald2 (j := j18) dX11_next_176 (wsA_112 hs) (wsN_112 hs) hj18 ?_
        refine sp_cS (M1 := M) (r := some (.int (fX11_isSmall (sp_I M 112 j18)))) (st := []) [.int (sp_I M 112 j18)] [.int (sp_I M 112 j18)] [.int (fX11_isSmall (sp_I M 112 j18))] dX11_next_177 okX11_isSmall tw_1561 tw_1562 (by decide) (by decide) rfl (Nat.le_of_ble_eq_true rfl) rfl rfl (fun Q hQ => tX11_isSmall hG rfl hQ) ?_
        refine sp_if_eq (tgt := 243) dX11_next_180 (by decide) (fun hc19 => ?_) (fun hc19 => ?_)
        · have h := (if_pos hc19).symm.trans h
          refine sp_weak [true] [some (.ref 103)] rfl ?_
          exact hx _ h
        · have h := (if_neg hc19).symm.trans h
          refine sp_aload_n dX11_next_183 rfl rfl ?_
          refine sp_aload_n dX11_next_184 rfl rfl ?_
          refine sp_getI (RX11, TX11, 56) dX11_next_185 clX11 (j := 15) (by decide) tw_1230 (wsI_103 hs) (Or.inl rfl) ?_
          refine sp_aload_n dX11_next_188 rfl rfl ?_
          refine sp_getI (RX11, TX11, 56) dX11_next_189 clX11 (j := 14) (by decide) tw_1229 (wsI_103 hs) (Or.inl rfl) ?_
          refine sp_isub dX11_next_192 ?_
          refine sp_bipush (v := 10) dX11_next_193 (by decide) ?_
          refine sp_icmp_ge (tgt := 224) dX11_next_195 (by decide) (fun hc20 => ?_) (fun hc20 => ?_)
          · have h := (if_pos hc20).symm.trans h
            refine sp_ldc2 (v := (-1)) dX11_next_224 tw_1451 ?_
            refine sp_weak [true] [some (.ref 103)] rfl ?_
            exact tX11_next_j227 hG hQ ih hx _ _ h
          · have h := (if_neg hc20).symm.trans h
            refine sp_aload_n dX11_next_198 rfl rfl ?_
            refine sp_getL (RX11, TX11, 56) dX11_next_199 clX11 (j := 17) (by decide) tw_1232 (wsI_103 hs) rfl ?_
            refine sp_ldc2 (v := 32) dX11_next_202 tw_1567 ?_
            refine sp_lmul dX11_next_205 ?_
            refine sp_aload_n dX11_next_206 rfl rfl ?_
            refine sp_getR (RX11, TX11, 56) dX11_next_207 clX11 (j := 12) (by decide) tw_1227 (wsI_103 hs) (Or.inr ⟨_, rfl⟩) (wsP_103_12 hs) ?_
            refine sp_aload_n dX11_next_210 rfl rfl ?_
            refine sp_getI (RX11, TX11, 56) dX11_next_211 clX11 (j := 15) (by decide) tw_1230 (wsI_103 hs) (Or.inl rfl) ?_
            obtain ⟨j23, hj23, h⟩ := Option.bind_eq_some_iff.mp h
            refine sp_iald2 (j := j23) dX11_next_214 (wsA_112 hs) (wsN_112 hs) hj23 ?_
            refine sp_i2l dX11_next_215 ?_
            refine sp_ladd dX11_next_216 ?_
            refine sp_ldc2 (v := 96) dX11_next_217 tw_1568 ?_
            refine sp_lsub dX11_next_220 ?_
            refine sp_goto (tgt := 227) dX11_next_221 (by decide) ?_
            refine sp_weak [true] [some (.ref 103)] rfl ?_
            exact tX11_next_j227 hG hQ ih hx _ _ h
set_option maxRecDepth 100000 in
set_option maxHeartbeats 4000000 in
theorem tX11_next_j319 {g : sp_G} {Ω : sp_Mem → Prop} {Q : sp_Qt} {F : Nat} {p : sp_Mem} (hG : sp_Ok Ω)  {kb : sp_Mem → Option sp_Mem} {kx : sp_Mem → Option sp_Mem} (hQ : Q none p) (hb : ∀  (M : sp_Mem), kb M = some p → sp_Wp g Ω mX11_next 0 0 243 [some (.ref 103)] [] M Q) (hx : ∀  (M : sp_Mem), kx M = some p → sp_Wp g Ω mX11_next 0 0 335 [none] [] M Q) (s0 : Int64) (M : sp_Mem) (h : fX11_next_j319 F kb kx s0 M = some p) : sp_Wp g Ω mX11_next 0 0 319 [some (.ref 103)] [.long s0, .ref 103] M Q := by
  unfold fX11_next_j319 at h
  refine sp_use (fun ho => ?_)
  have hs := hG.1 _ ho
  obtain ⟨M31, hM31, h⟩ := sp_do_e h
  refine sp_putL2 (RX11, TX11, 56) hG dX11_next_319 clX11 (j := 17) (by decide) tw_1232 rfl rfl (wsI_103 hs) hM31 ?_
  refine sp_aload_n dX11_next_322 rfl rfl ?_
  refine sp_dup dX11_next_323 rfl ?_
  refine sp_use (fun ho => ?_)
  have hs := hG.1 _ ho
  refine sp_getI (RX11, TX11, 56) dX11_next_324 clX11 (j := 15) (by decide) tw_1230 (wsI_103 hs) (Or.inl rfl) ?_
  refine sp_iconst (v := 1) dX11_next_327 (by decide) ?_
  refine sp_iadd dX11_next_328 ?_
  obtain ⟨M32, hM32, h⟩ := sp_do_e h
  refine sp_putI2 (RX11, TX11, 56) hG dX11_next_329 clX11 (j := 15) (by decide) tw_1230 rfl (Or.inl rfl) (wsI_103 hs) hM32 ?_
  refine sp_goto (tgt := 243) dX11_next_332 (by decide) ?_
  refine sp_weak [true] [some (.ref 103)] rfl ?_
  exact hb _ h
set_option maxRecDepth 100000 in
set_option maxHeartbeats 4000000 in
theorem tX11_next_l243 {g : sp_G} {Ω : sp_Mem → Prop} {Q : sp_Qt} {F : Nat} {p : sp_Mem} (hG : sp_Ok Ω)  {kx : sp_Mem → Option sp_Mem} (hQ : Q none p) (hx : ∀  (M : sp_Mem), kx M = some p → sp_Wp g Ω mX11_next 0 0 335 [none] [] M Q) : ∀ (n : Nat)  (M : sp_Mem), fX11_next_l243 F kx n M = some p → sp_Wp g Ω mX11_next 0 0 243 [some (.ref 103)] [] M Q := by
  intro n
  induction n with
  | zero =>
    intro M h
    rw [fX11_next_l243] at h
    cases h
  | succ n ih =>
    intro M h
    rw [fX11_next_l243] at h
    refine sp_aload_n dX11_next_243 rfl rfl ?_
    refine sp_use (fun ho => ?_)
    have hs := hG.1 _ ho
    refine sp_getI (RX11, TX11, 56) dX11_next_244 clX11 (j := 16) (by decide) tw_1231 (wsI_103 hs) (Or.inl rfl) ?_
    refine sp_iconst (v := 2) dX11_next_247 (by decide) ?_
    refine sp_icmp_ne (tgt := 335) dX11_next_248 (by decide) (fun hc25 => ?_) (fun hc25 => ?_)
    · have h := (if_neg hc25).symm.trans h
      refine sp_weak [false] [none] rfl ?_
      exact hx _ h
    · have h := (if_pos hc25).symm.trans h
      refine sp_aload_n dX11_next_251 rfl rfl ?_
      refine sp_getI (RX11, TX11, 56) dX11_next_252 clX11 (j := 15) (by decide) tw_1230 (wsI_103 hs) (Or.inl rfl) ?_
      refine sp_aload_n dX11_next_255 rfl rfl ?_
      refine sp_getI (RX11, TX11, 56) dX11_next_256 clX11 (j := 13) (by decide) tw_1228 (wsI_103 hs) (Or.inl rfl) ?_
      refine sp_icmp_ge (tgt := 335) dX11_next_259 (by decide) (fun hc26 => ?_) (fun hc26 => ?_)
      · have h := (if_pos hc26).symm.trans h
        refine sp_weak [false] [none] rfl ?_
        exact hx _ h
      · have h := (if_neg hc26).symm.trans h
        refine sp_aload_n dX11_next_262 rfl rfl ?_
        refine sp_getR (RX11, TX11, 56) dX11_next_263 clX11 (j := 12) (by decide) tw_1227 (wsI_103 hs) (Or.inr ⟨_, rfl⟩) (wsP_103_12 hs) ?_
        refine sp_aload_n dX11_next_266 rfl rfl ?_
        refine sp_getI (RX11, TX11, 56) dX11_next_267 clX11 (j := 15) (by decide) tw_1230 (wsI_103 hs) (Or.inl rfl) ?_
        obtain ⟨j27, hj27, h⟩ := Option.bind_eq_some_iff.mp h
        refine sp_iald2 (j := j27) dX11_next_270 (wsA_112 hs) (wsN_112 hs) hj27 ?_
        refine sp_cS (M1 := M) (r := some (.int (fX11_isDigit (sp_I M 112 j27)))) (st := []) [.int (sp_I M 112 j27)] [.int (sp_I M 112 j27)] [.int (fX11_isDigit (sp_I M 112 j27))] dX11_next_271 okX11_isDigit tw_1564 tw_1565 (by decide) (by decide) rfl (Nat.le_of_ble_eq_true rfl) rfl rfl (fun Q hQ => tX11_isDigit hG rfl hQ) ?_
        refine sp_if_eq (tgt := 335) dX11_next_274 (by decide) (fun hc28 => ?_) (fun hc28 => ?_)
        · have h := (if_pos hc28).symm.trans h
          refine sp_weak [false] [none] rfl ?_
          exact hx _ h
        · have h := (if_neg hc28).symm.trans h
          refine sp_aload_n dX11_next_277 rfl rfl ?_
          refine sp_aload_n dX11_next_278 rfl rfl ?_
          refine sp_getL (RX11, TX11, 56) dX11_next_279 clX11 (j := 17) (by decide) tw_1232 (wsI_103 hs) rfl ?_
          refine sp_ldc2 (v := 1000000) dX11_next_282 tw_1569 ?_
          refine sp_lcmp dX11_next_285 ?_
          refine sp_lif_le (tgt := 296) dX11_next_286 (by decide) (fun hc29 => ?_) (fun hc29 => ?_)
          · have h := (if_pos hc29).symm.trans h
            refine sp_aload_n dX11_next_296 rfl rfl ?_
            refine sp_getL (RX11, TX11, 56) dX11_next_297 clX11 (j := 17) (by decide) tw_1232 (wsI_103 hs) rfl ?_
            refine sp_ldc2 (v := 10) dX11_next_300 tw_1570 ?_
            refine sp_lmul dX11_next_303 ?_
            refine sp_aload_n dX11_next_304 rfl rfl ?_
            refine sp_getR (RX11, TX11, 56) dX11_next_305 clX11 (j := 12) (by decide) tw_1227 (wsI_103 hs) (Or.inr ⟨_, rfl⟩) (wsP_103_12 hs) ?_
            refine sp_aload_n dX11_next_308 rfl rfl ?_
            refine sp_getI (RX11, TX11, 56) dX11_next_309 clX11 (j := 15) (by decide) tw_1230 (wsI_103 hs) (Or.inl rfl) ?_
            obtain ⟨j30, hj30, h⟩ := Option.bind_eq_some_iff.mp h
            refine sp_iald2 (j := j30) dX11_next_312 (wsA_112 hs) (wsN_112 hs) hj30 ?_
            refine sp_i2l dX11_next_313 ?_
            refine sp_ladd dX11_next_314 ?_
            refine sp_ldc2 (v := 48) dX11_next_315 tw_1571 ?_
            refine sp_lsub dX11_next_318 ?_
            refine sp_weak [true] [some (.ref 103)] rfl ?_
            exact tX11_next_j319 hG hQ ih hx _ _ h
          · have h := (if_neg hc29).symm.trans h
            refine sp_aload_n dX11_next_289 rfl rfl ?_
            refine sp_getL (RX11, TX11, 56) dX11_next_290 clX11 (j := 17) (by decide) tw_1232 (wsI_103 hs) rfl ?_
            refine sp_goto (tgt := 319) dX11_next_293 (by decide) ?_
            refine sp_weak [true] [some (.ref 103)] rfl ?_
            exact tX11_next_j319 hG hQ ih hx _ _ h
set_option maxRecDepth 100000 in
set_option maxHeartbeats 4000000 in
theorem tX11_next_j114 {g : sp_G} {Ω : sp_Mem → Prop} {Q : sp_Qt} {F : Nat} {p : sp_Mem} (hG : sp_Ok Ω)  (hQ : Q none p) (s0 : Int32) (M : sp_Mem) (h : fX11_next_j114 F s0 M = some p) : sp_Wp g Ω mX11_next 0 0 114 [some (.ref 103)] [.int s0, .ref 103] M Q := by
  unfold fX11_next_j114 at h
  refine sp_use (fun ho => ?_)
  have hs := hG.1 _ ho
  obtain ⟨M14, hM14, h⟩ := sp_do_e h
  refine sp_putI2 (RX11, TX11, 56) hG dX11_next_114 clX11 (j := 16) (by decide) tw_1231 rfl (Or.inl rfl) (wsI_103 hs) hM14 ?_
  refine sp_aload_n dX11_next_117 rfl rfl ?_
  refine sp_use (fun ho => ?_)
  have hs := hG.1 _ ho
  refine sp_getI (RX11, TX11, 56) dX11_next_118 clX11 (j := 16) (by decide) tw_1231 (wsI_103 hs) (Or.inl rfl) ?_
  refine sp_iconst (v := 3) dX11_next_121 (by decide) ?_
  refine sp_icmp_ne (tgt := 149) dX11_next_122 (by decide) (fun hc15 => ?_) (fun hc15 => ?_)
  · have h := (if_neg hc15).symm.trans h
    refine sp_weak [true] [some (.ref 103)] rfl ?_
    refine tX11_next_l149 hG hQ (fun M24 h => ?_) F _ h
    refine sp_weak [true] [some (.ref 103)] rfl ?_
    refine tX11_next_l243 hG hQ (fun M33 h => ?_) F _ h
    cases h
    exact sp_vret dX11_next_335 rfl (fun _ => hQ)
  · have h := (if_pos hc15).symm.trans h
    refine sp_aload_n dX11_next_125 rfl rfl ?_
    refine sp_aload_n dX11_next_126 rfl rfl ?_
    refine sp_getR (RX11, TX11, 56) dX11_next_127 clX11 (j := 12) (by decide) tw_1227 (wsI_103 hs) (Or.inr ⟨_, rfl⟩) (wsP_103_12 hs) ?_
    refine sp_aload_n dX11_next_130 rfl rfl ?_
    refine sp_getI (RX11, TX11, 56) dX11_next_131 clX11 (j := 14) (by decide) tw_1229 (wsI_103 hs) (Or.inl rfl) ?_
    obtain ⟨j34, hj34, h⟩ := Option.bind_eq_some_iff.mp h
    refine sp_iald2 (j := j34) dX11_next_134 (wsA_112 hs) (wsN_112 hs) hj34 ?_
    refine sp_i2l dX11_next_135 ?_
    obtain ⟨M35, hM35, h⟩ := sp_do_e h
    refine sp_putL2 (RX11, TX11, 56) hG dX11_next_136 clX11 (j := 17) (by decide) tw_1232 rfl rfl (wsI_103 hs) hM35 ?_
    refine sp_aload_n dX11_next_139 rfl rfl ?_
    refine sp_dup dX11_next_140 rfl ?_
    refine sp_use (fun ho => ?_)
    have hs := hG.1 _ ho
    refine sp_getI (RX11, TX11, 56) dX11_next_141 clX11 (j := 15) (by decide) tw_1230 (wsI_103 hs) (Or.inl rfl) ?_
    refine sp_iconst (v := 1) dX11_next_144 (by decide) ?_
    refine sp_iadd dX11_next_145 ?_
    obtain ⟨M36, hM36, h⟩ := sp_do_e h
    refine sp_putI2 (RX11, TX11, 56) hG dX11_next_146 clX11 (j := 15) (by decide) tw_1230 rfl (Or.inl rfl) (wsI_103 hs) hM36 ?_
    refine sp_weak [true] [some (.ref 103)] rfl ?_
    refine tX11_next_l149 hG hQ (fun M37 h => ?_) F _ h
    refine sp_weak [true] [some (.ref 103)] rfl ?_
    refine tX11_next_l243 hG hQ (fun M38 h => ?_) F _ h
    cases h
    exact sp_vret dX11_next_335 rfl (fun _ => hQ)
set_option maxRecDepth 100000 in
set_option maxHeartbeats 4000000 in
theorem tX11_next_j46 {g : sp_G} {Ω : sp_Mem → Prop} {Q : sp_Qt} {F : Nat} {p : sp_Mem} (hG : sp_Ok Ω)  (hQ : Q none p) (M : sp_Mem) (h : fX11_next_j46 F M = some p) : sp_Wp g Ω mX11_next 0 0 46 [some (.ref 103)] [] M Q := by
  unfold fX11_next_j46 at h
  refine sp_aload_n dX11_next_46 rfl rfl ?_
  refine sp_aload_n dX11_next_47 rfl rfl ?_
  refine sp_use (fun ho => ?_)
  have hs := hG.1 _ ho
  refine sp_getI (RX11, TX11, 56) dX11_next_48 clX11 (j := 14) (by decide) tw_1229 (wsI_103 hs) (Or.inl rfl) ?_
  obtain ⟨M7, hM7, h⟩ := sp_do_e h
  refine sp_putI2 (RX11, TX11, 56) hG dX11_next_51 clX11 (j := 15) (by decide) tw_1230 rfl (Or.inl rfl) (wsI_103 hs) hM7 ?_
  refine sp_aload_n dX11_next_54 rfl rfl ?_
  refine sp_lconst (v := 0) dX11_next_55 (by decide) ?_
  refine sp_use (fun ho => ?_)
  have hs := hG.1 _ ho
  obtain ⟨M8, hM8, h⟩ := sp_do_e h
  refine sp_putL2 (RX11, TX11, 56) hG dX11_next_56 clX11 (j := 17) (by decide) tw_1232 rfl rfl (wsI_103 hs) hM8 ?_
  refine sp_aload_n dX11_next_59 rfl rfl ?_
  refine sp_aload_n dX11_next_60 rfl rfl ?_
  refine sp_use (fun ho => ?_)
  have hs := hG.1 _ ho
  refine sp_getI (RX11, TX11, 56) dX11_next_61 clX11 (j := 14) (by decide) tw_1229 (wsI_103 hs) (Or.inl rfl) ?_
  refine sp_aload_n dX11_next_64 rfl rfl ?_
  refine sp_getI (RX11, TX11, 56) dX11_next_65 clX11 (j := 13) (by decide) tw_1228 (wsI_103 hs) (Or.inl rfl) ?_
  refine sp_icmp_ne (tgt := 75) dX11_next_68 (by decide) (fun hc9 => ?_) (fun hc9 => ?_)
  · have h := (if_neg hc9).symm.trans h
    refine sp_aload_n dX11_next_75 rfl rfl ?_
    refine sp_getR (RX11, TX11, 56) dX11_next_76 clX11 (j := 12) (by decide) tw_1227 (wsI_103 hs) (Or.inr ⟨_, rfl⟩) (wsP_103_12 hs) ?_
    refine sp_aload_n dX11_next_79 rfl rfl ?_
    refine sp_getI (RX11, TX11, 56) dX11_next_80 clX11 (j := 14) (by decide) tw_1229 (wsI_103 hs) (Or.inl rfl) ?_
    obtain ⟨j10, hj10, h⟩ := Option.bind_eq_some_iff.mp h
    refine sp_iald2 (j := j10) dX11_next_83 (wsA_112 hs) (wsN_112 hs) hj10 ?_
    refine sp_cS (M1 := M8) (r := some (.int (fX11_isSmall (sp_I M8 112 j10)))) (st := [.ref 103]) [.int (sp_I M8 112 j10)] [.int (sp_I M8 112 j10), .ref 103] [.int (fX11_isSmall (sp_I M8 112 j10)), .ref 103] dX11_next_84 okX11_isSmall tw_1561 tw_1562 (by decide) (by decide) rfl (Nat.le_of_ble_eq_true rfl) rfl rfl (fun Q hQ => tX11_isSmall hG rfl hQ) ?_
    refine sp_if_eq (tgt := 94) dX11_next_87 (by decide) (fun hc11 => ?_) (fun hc11 => ?_)
    · have h := (if_pos hc11).symm.trans h
      refine sp_aload_n dX11_next_94 rfl rfl ?_
      refine sp_getR (RX11, TX11, 56) dX11_next_95 clX11 (j := 12) (by decide) tw_1227 (wsI_103 hs) (Or.inr ⟨_, rfl⟩) (wsP_103_12 hs) ?_
      refine sp_aload_n dX11_next_98 rfl rfl ?_
      refine sp_getI (RX11, TX11, 56) dX11_next_99 clX11 (j := 14) (by decide) tw_1229 (wsI_103 hs) (Or.inl rfl) ?_
      obtain ⟨j12, hj12, h⟩ := Option.bind_eq_some_iff.mp h
      refine sp_iald2 (j := j12) dX11_next_102 (wsA_112 hs) (wsN_112 hs) hj12 ?_
      refine sp_cS (M1 := M8) (r := some (.int (fX11_isDigit (sp_I M8 112 j12)))) (st := [.ref 103]) [.int (sp_I M8 112 j12)] [.int (sp_I M8 112 j12), .ref 103] [.int (fX11_isDigit (sp_I M8 112 j12)), .ref 103] dX11_next_103 okX11_isDigit tw_1564 tw_1565 (by decide) (by decide) rfl (Nat.le_of_ble_eq_true rfl) rfl rfl (fun Q hQ => tX11_isDigit hG rfl hQ) ?_
      suffices hj : sp_Wp g Ω mX11_next 0 0 114 [some (.ref 103)] [.int (if (fX11_isDigit (sp_I M8 112 j12)) = 0 then 3 else 2), .ref 103] M8 Q by
        refine sp_if_eq (tgt := 113) dX11_next_106 (by decide) (fun hc13 => ?_) (fun hc13 => ?_)
        · refine sp_iconst (v := 3) dX11_next_113 (by decide) ?_
          simp only [if_pos hc13] at hj
          exact hj
        · refine sp_iconst (v := 2) dX11_next_109 (by decide) ?_
          refine sp_goto (tgt := 114) dX11_next_110 (by decide) ?_
          simp only [if_neg hc13] at hj
          exact hj
      refine sp_weak [true] [some (.ref 103)] rfl ?_
      exact tX11_next_j114 hG hQ _ _ h
    · have h := (if_neg hc11).symm.trans h
      refine sp_iconst (v := 1) dX11_next_90 (by decide) ?_
      refine sp_goto (tgt := 114) dX11_next_91 (by decide) ?_
      refine sp_weak [true] [some (.ref 103)] rfl ?_
      exact tX11_next_j114 hG hQ _ _ h
  · have h := (if_pos hc9).symm.trans h
    refine sp_iconst (v := 0) dX11_next_71 (by decide) ?_
    refine sp_goto (tgt := 114) dX11_next_72 (by decide) ?_
    refine sp_weak [true] [some (.ref 103)] rfl ?_
    exact tX11_next_j114 hG hQ _ _ h
set_option maxRecDepth 100000 in
set_option maxHeartbeats 4000000 in
theorem tX11_next {g : sp_G} {Ω : sp_Mem → Prop} {Q : sp_Qt} {F : Nat} {p : sp_Mem} (hG : sp_Ok Ω) {M : sp_Mem} (h : fX11_next F M = some p) (hQ : Q none p) : sp_Mt g Ω mX11_next 0 0 [.ref 103] M Q := by
  unfold fX11_next at h
  refine sp_Mt.of [some (.ref 103)] (by decide) (by simp [sp_ent, Value.category]) rfl ?_
  refine sp_aload_n dX11_next_0 rfl rfl ?_
  refine sp_aload_n dX11_next_1 rfl rfl ?_
  refine sp_use (fun ho => ?_)
  have hs := hG.1 _ ho
  refine sp_getI (RX11, TX11, 56) dX11_next_2 clX11 (j := 15) (by decide) tw_1230 (wsI_103 hs) (Or.inl rfl) ?_
  obtain ⟨M1, hM1, h⟩ := sp_do_e h
  refine sp_putI2 (RX11, TX11, 56) hG dX11_next_5 clX11 (j := 14) (by decide) tw_1229 rfl (Or.inl rfl) (wsI_103 hs) hM1 ?_
  refine sp_weak [true] [some (.ref 103)] rfl ?_
  refine tX11_next_l8 hG hQ (fun M6 h => ?_) F _ h
  refine sp_weak [true] [some (.ref 103)] rfl ?_
  exact tX11_next_j46 hG hQ _ h
def fX11_begin (F : Nat) (M : sp_Mem) : Option sp_Mem :=
  sp_do (sp_setI M 103 15 0) fun M1 => sp_do (sp_setI M1 103 19 0) fun M2 => sp_do (sp_setI M2 103 18 (-1)) fun M3 => (fX11_next F M3).bind fun M4 => some M4
set_option maxRecDepth 100000 in
set_option maxHeartbeats 4000000 in
theorem tX11_begin {g : sp_G} {Ω : sp_Mem → Prop} {Q : sp_Qt} {F : Nat} {p : sp_Mem} (hG : sp_Ok Ω) {M : sp_Mem} (h : fX11_begin F M = some p) (hQ : Q none p) : sp_Mt g Ω mX11_begin 0 0 [.ref 103] M Q := by
  unfold fX11_begin at h
  refine sp_Mt.of [some (.ref 103)] (by decide) (by simp [sp_ent, Value.category]) rfl ?_
  refine sp_aload_n dX11_begin_0 rfl rfl ?_
  refine sp_iconst (v := 0) dX11_begin_1 (by decide) ?_
  refine sp_use (fun ho => ?_)
  have hs := hG.1 _ ho
  obtain ⟨M1, hM1, h⟩ := sp_do_e h
  refine sp_putI2 (RX11, TX11, 56) hG dX11_begin_2 clX11 (j := 15) (by decide) tw_1230 rfl (Or.inl rfl) (wsI_103 hs) hM1 ?_
  refine sp_aload_n dX11_begin_5 rfl rfl ?_
  refine sp_iconst (v := 0) dX11_begin_6 (by decide) ?_
  refine sp_use (fun ho => ?_)
  have hs := hG.1 _ ho
  obtain ⟨M2, hM2, h⟩ := sp_do_e h
  refine sp_putI2 (RX11, TX11, 56) hG dX11_begin_7 clX11 (j := 19) (by decide) tw_1234 rfl (Or.inr ⟨rfl, (Or.inl rfl)⟩) (wsI_103 hs) hM2 ?_
  refine sp_aload_n dX11_begin_10 rfl rfl ?_
  refine sp_iconst (v := (-1)) dX11_begin_11 (by decide) ?_
  refine sp_use (fun ho => ?_)
  have hs := hG.1 _ ho
  obtain ⟨M3, hM3, h⟩ := sp_do_e h
  refine sp_putI2 (RX11, TX11, 56) hG dX11_begin_12 clX11 (j := 18) (by decide) tw_1233 rfl (Or.inl rfl) (wsI_103 hs) hM3 ?_
  refine sp_aload_n dX11_begin_15 rfl rfl ?_
  refine sp_use (fun ho => ?_)
  have hs := hG.1 _ ho
  obtain ⟨M4, hM4, h⟩ := Option.bind_eq_some_iff.mp h
  refine sp_cV (M1 := M4) (r := none) (o := 103) (st := []) (c := 10) (RX11, TX11, 56) [] [.ref 103] [] dX11_begin_16 okX11_next tw_1557 tw_1559 tw_46 (by decide) (by decide) rfl (Nat.le_of_ble_eq_true rfl) rfl rfl rfl rfl (wsI_103 hs) (fun Q hQ => tX11_next hG hM4 hQ) ?_
  cases h
  exact sp_vret dX11_begin_19 rfl (fun _ => hQ)
def fX11_isWord (M0 : sp_Mem) (a1 : Int64) : Int32 :=
  if (sp_I M0 103 16) = 1 then ((if (sp_L M0 103 17) = a1 then 1 else 0)) else (0)
set_option maxRecDepth 100000 in
set_option maxHeartbeats 4000000 in
theorem tX11_isWord {g : sp_G} {Ω : sp_Mem → Prop} {Q : sp_Qt} {M0 : sp_Mem} {p : Int32} (hG : sp_Ok Ω) {a1 : Int64} (h : fX11_isWord M0 a1 = p) (hQ : Q (some (.int p)) M0) : sp_Mt g Ω mX11_isWord 0 0 [.ref 103, .long a1] M0 Q := by
  unfold fX11_isWord at h
  refine sp_Mt.of [some (.ref 103), some (.long a1), none] (by decide) (by simp [sp_ent, Value.category]) rfl ?_
  refine sp_aload_n dX11_isWord_0 rfl rfl ?_
  refine sp_use (fun ho => ?_)
  have hs := hG.1 _ ho
  refine sp_getI (RX11, TX11, 56) dX11_isWord_1 clX11 (j := 16) (by decide) tw_1231 (wsI_103 hs) (Or.inl rfl) ?_
  refine sp_iconst (v := 1) dX11_isWord_4 (by decide) ?_
  refine sp_icmp_ne (tgt := 21) dX11_isWord_5 (by decide) (fun hc1 => ?_) (fun hc1 => ?_)
  · have h := (if_neg hc1).symm.trans h
    refine sp_iconst (v := 0) dX11_isWord_21 (by decide) ?_
    cases h
    exact sp_iret dX11_isWord_22 (ty := .boolean) rfl (sp_nz (Or.inl rfl)) (fun _ => hQ)
  · have h := (if_pos hc1).symm.trans h
    refine sp_aload_n dX11_isWord_8 rfl rfl ?_
    refine sp_getL (RX11, TX11, 56) dX11_isWord_9 clX11 (j := 17) (by decide) tw_1232 (wsI_103 hs) rfl ?_
    refine sp_lload_n dX11_isWord_12 rfl rfl ?_
    refine sp_lcmp dX11_isWord_13 ?_
    suffices hj : sp_Wp g Ω mX11_isWord 0 0 22 [none, none, none] [.int (if (sp_L M0 103 17) = a1 then 1 else 0)] M0 Q by
      refine sp_lif_ne (tgt := 21) dX11_isWord_14 (by decide) (fun hc2 => ?_) (fun hc2 => ?_)
      · refine sp_iconst (v := 0) dX11_isWord_21 (by decide) ?_
        refine sp_weak [false, false, false] [none, none, none] rfl ?_
        simp only [if_neg hc2] at hj
        exact hj
      · refine sp_iconst (v := 1) dX11_isWord_17 (by decide) ?_
        refine sp_goto (tgt := 22) dX11_isWord_18 (by decide) ?_
        refine sp_weak [false, false, false] [none, none, none] rfl ?_
        simp only [if_pos hc2] at hj
        exact hj
    cases h
    exact sp_iret dX11_isWord_22 (ty := .boolean) rfl (sp_nz (by repeat (first | exact Or.inl rfl | exact Or.inr rfl | split))) (fun _ => hQ)
theorem bX11_isWord (M0 : sp_Mem) (a1 : Int64) : fX11_isWord M0 a1 = 0 ∨ fX11_isWord M0 a1 = 1 := by
  unfold fX11_isWord
  repeat (first | exact Or.inl rfl | exact Or.inr rfl | split)
def fX11_isSign (M0 : sp_Mem) (a1 : Int32) : Int32 :=
  if (sp_I M0 103 16) = 3 then ((if (sp_L M0 103 17) = (Int32.toInt64 a1) then 1 else 0)) else (0)
set_option maxRecDepth 100000 in
set_option maxHeartbeats 4000000 in
theorem tX11_isSign {g : sp_G} {Ω : sp_Mem → Prop} {Q : sp_Qt} {M0 : sp_Mem} {p : Int32} (hG : sp_Ok Ω) {a1 : Int32} (h : fX11_isSign M0 a1 = p) (hQ : Q (some (.int p)) M0) : sp_Mt g Ω mX11_isSign 0 0 [.ref 103, .int a1] M0 Q := by
  unfold fX11_isSign at h
  refine sp_Mt.of [some (.ref 103), some (.int a1)] (by decide) (by simp [sp_ent, Value.category]) rfl ?_
  refine sp_aload_n dX11_isSign_0 rfl rfl ?_
  refine sp_use (fun ho => ?_)
  have hs := hG.1 _ ho
  refine sp_getI (RX11, TX11, 56) dX11_isSign_1 clX11 (j := 16) (by decide) tw_1231 (wsI_103 hs) (Or.inl rfl) ?_
  refine sp_iconst (v := 3) dX11_isSign_4 (by decide) ?_
  refine sp_icmp_ne (tgt := 22) dX11_isSign_5 (by decide) (fun hc1 => ?_) (fun hc1 => ?_)
  · have h := (if_neg hc1).symm.trans h
    refine sp_iconst (v := 0) dX11_isSign_22 (by decide) ?_
    cases h
    exact sp_iret dX11_isSign_23 (ty := .boolean) rfl (sp_nz (Or.inl rfl)) (fun _ => hQ)
  · have h := (if_pos hc1).symm.trans h
    refine sp_aload_n dX11_isSign_8 rfl rfl ?_
    refine sp_getL (RX11, TX11, 56) dX11_isSign_9 clX11 (j := 17) (by decide) tw_1232 (wsI_103 hs) rfl ?_
    refine sp_iload_n dX11_isSign_12 rfl rfl ?_
    refine sp_i2l dX11_isSign_13 ?_
    refine sp_lcmp dX11_isSign_14 ?_
    suffices hj : sp_Wp g Ω mX11_isSign 0 0 23 [none, none] [.int (if (sp_L M0 103 17) = (Int32.toInt64 a1) then 1 else 0)] M0 Q by
      refine sp_lif_ne (tgt := 22) dX11_isSign_15 (by decide) (fun hc2 => ?_) (fun hc2 => ?_)
      · refine sp_iconst (v := 0) dX11_isSign_22 (by decide) ?_
        refine sp_weak [false, false] [none, none] rfl ?_
        simp only [if_neg hc2] at hj
        exact hj
      · refine sp_iconst (v := 1) dX11_isSign_18 (by decide) ?_
        refine sp_goto (tgt := 23) dX11_isSign_19 (by decide) ?_
        refine sp_weak [false, false] [none, none] rfl ?_
        simp only [if_pos hc2] at hj
        exact hj
    cases h
    exact sp_iret dX11_isSign_23 (ty := .boolean) rfl (sp_nz (by repeat (first | exact Or.inl rfl | exact Or.inr rfl | split))) (fun _ => hQ)
theorem bX11_isSign (M0 : sp_Mem) (a1 : Int32) : fX11_isSign M0 a1 = 0 ∨ fX11_isSign M0 a1 = 1 := by
  unfold fX11_isSign
  repeat (first | exact Or.inl rfl | exact Or.inr rfl | split)
def fX11_must (F : Nat) (M : sp_Mem) (a1 : Int32) : Option sp_Mem :=
  if (sp_I M 103 19) = 0 then (if a1 = 0 then (sp_do (sp_setI M 103 19 1) fun M7 => sp_do (sp_setI M7 103 18 (sp_I M7 103 14)) fun M8 => if (sp_I M8 103 19) = 0 then ((fX11_next F M8).bind fun M10 => some M10) else (some M8)) else (if (sp_I M 103 19) = 0 then ((fX11_next F M).bind fun M6 => some M6) else (some M))) else (if (sp_I M 103 19) = 0 then ((fX11_next F M).bind fun M3 => some M3) else (some M))
set_option maxRecDepth 100000 in
set_option maxHeartbeats 4000000 in
theorem tX11_must {g : sp_G} {Ω : sp_Mem → Prop} {Q : sp_Qt} {F : Nat} {p : sp_Mem} (hG : sp_Ok Ω) {M : sp_Mem} {a1 : Int32} (h : fX11_must F M a1 = some p) (hQ : Q none p) : sp_Mt g Ω mX11_must 0 0 [.ref 103, .int a1] M Q := by
  unfold fX11_must at h
  refine sp_Mt.of [some (.ref 103), some (.int a1)] (by decide) (by simp [sp_ent, Value.category]) rfl ?_
  refine sp_aload_n dX11_must_0 rfl rfl ?_
  refine sp_use (fun ho => ?_)
  have hs := hG.1 _ ho
  refine sp_getI (RX11, TX11, 56) dX11_must_1 clX11 (j := 19) (by decide) tw_1234 (wsI_103 hs) (Or.inr rfl) ?_
  refine sp_if_ne (tgt := 24) dX11_must_4 (by decide) (fun hc1 => ?_) (fun hc1 => ?_)
  · have h := (if_neg hc1).symm.trans h
    refine sp_aload_n dX11_must_24 rfl rfl ?_
    refine sp_getI (RX11, TX11, 56) dX11_must_25 clX11 (j := 19) (by decide) tw_1234 (wsI_103 hs) (Or.inr rfl) ?_
    refine sp_if_ne (tgt := 35) dX11_must_28 (by decide) (fun hc2 => ?_) (fun hc2 => ?_)
    · have h := (if_neg hc2).symm.trans h
      cases h
      exact sp_vret dX11_must_35 rfl (fun _ => hQ)
    · have h := (if_pos hc2).symm.trans h
      refine sp_aload_n dX11_must_31 rfl rfl ?_
      obtain ⟨M3, hM3, h⟩ := Option.bind_eq_some_iff.mp h
      refine sp_cV (M1 := M3) (r := none) (o := 103) (st := []) (c := 10) (RX11, TX11, 56) [] [.ref 103] [] dX11_must_32 okX11_next tw_1557 tw_1559 tw_46 (by decide) (by decide) rfl (Nat.le_of_ble_eq_true rfl) rfl rfl rfl rfl (wsI_103 hs) (fun Q hQ => tX11_next hG hM3 hQ) ?_
      cases h
      exact sp_vret dX11_must_35 rfl (fun _ => hQ)
  · have h := (if_pos hc1).symm.trans h
    refine sp_iload_n dX11_must_7 rfl rfl ?_
    refine sp_if_ne (tgt := 24) dX11_must_8 (by decide) (fun hc4 => ?_) (fun hc4 => ?_)
    · have h := (if_neg hc4).symm.trans h
      refine sp_aload_n dX11_must_24 rfl rfl ?_
      refine sp_getI (RX11, TX11, 56) dX11_must_25 clX11 (j := 19) (by decide) tw_1234 (wsI_103 hs) (Or.inr rfl) ?_
      refine sp_if_ne (tgt := 35) dX11_must_28 (by decide) (fun hc5 => ?_) (fun hc5 => ?_)
      · have h := (if_neg hc5).symm.trans h
        cases h
        exact sp_vret dX11_must_35 rfl (fun _ => hQ)
      · have h := (if_pos hc5).symm.trans h
        refine sp_aload_n dX11_must_31 rfl rfl ?_
        obtain ⟨M6, hM6, h⟩ := Option.bind_eq_some_iff.mp h
        refine sp_cV (M1 := M6) (r := none) (o := 103) (st := []) (c := 10) (RX11, TX11, 56) [] [.ref 103] [] dX11_must_32 okX11_next tw_1557 tw_1559 tw_46 (by decide) (by decide) rfl (Nat.le_of_ble_eq_true rfl) rfl rfl rfl rfl (wsI_103 hs) (fun Q hQ => tX11_next hG hM6 hQ) ?_
        cases h
        exact sp_vret dX11_must_35 rfl (fun _ => hQ)
    · have h := (if_pos hc4).symm.trans h
      refine sp_aload_n dX11_must_11 rfl rfl ?_
      refine sp_iconst (v := 1) dX11_must_12 (by decide) ?_
      obtain ⟨M7, hM7, h⟩ := sp_do_e h
      refine sp_putI2 (RX11, TX11, 56) hG dX11_must_13 clX11 (j := 19) (by decide) tw_1234 rfl (Or.inr ⟨rfl, (Or.inr rfl)⟩) (wsI_103 hs) hM7 ?_
      refine sp_aload_n dX11_must_16 rfl rfl ?_
      refine sp_aload_n dX11_must_17 rfl rfl ?_
      refine sp_use (fun ho => ?_)
      have hs := hG.1 _ ho
      refine sp_getI (RX11, TX11, 56) dX11_must_18 clX11 (j := 14) (by decide) tw_1229 (wsI_103 hs) (Or.inl rfl) ?_
      obtain ⟨M8, hM8, h⟩ := sp_do_e h
      refine sp_putI2 (RX11, TX11, 56) hG dX11_must_21 clX11 (j := 18) (by decide) tw_1233 rfl (Or.inl rfl) (wsI_103 hs) hM8 ?_
      refine sp_aload_n dX11_must_24 rfl rfl ?_
      refine sp_use (fun ho => ?_)
      have hs := hG.1 _ ho
      refine sp_getI (RX11, TX11, 56) dX11_must_25 clX11 (j := 19) (by decide) tw_1234 (wsI_103 hs) (Or.inr rfl) ?_
      refine sp_if_ne (tgt := 35) dX11_must_28 (by decide) (fun hc9 => ?_) (fun hc9 => ?_)
      · have h := (if_neg hc9).symm.trans h
        cases h
        exact sp_vret dX11_must_35 rfl (fun _ => hQ)
      · have h := (if_pos hc9).symm.trans h
        refine sp_aload_n dX11_must_31 rfl rfl ?_
        obtain ⟨M10, hM10, h⟩ := Option.bind_eq_some_iff.mp h
        refine sp_cV (M1 := M10) (r := none) (o := 103) (st := []) (c := 10) (RX11, TX11, 56) [] [.ref 103] [] dX11_must_32 okX11_next tw_1557 tw_1559 tw_46 (by decide) (by decide) rfl (Nat.le_of_ble_eq_true rfl) rfl rfl rfl rfl (wsI_103 hs) (fun Q hQ => tX11_next hG hM10 hQ) ?_
        cases h
        exact sp_vret dX11_must_35 rfl (fun _ => hQ)
def fX11_number (F : Nat) (M : sp_Mem) (a1 : Int64) (a3 : Int64) : Option (Int32 × sp_Mem) :=
  sp_do ((Int64.toInt32 (sp_L M 103 17))) fun u1 => if (sp_I M 103 16) = 2 then ((fX11_must F M (if (fX11_in (sp_L M 103 17) a1 a3) = 0 then 0 else 1)).bind fun M5 => some (u1, M5)) else ((fX11_must F M 0).bind fun M3 => some (u1, M3))
set_option maxRecDepth 100000 in
set_option maxHeartbeats 4000000 in
theorem tX11_number {g : sp_G} {Ω : sp_Mem → Prop} {Q : sp_Qt} {F : Nat} {p : (Int32 × sp_Mem)} (hG : sp_Ok Ω) {M : sp_Mem} {a1 : Int64} {a3 : Int64} (h : fX11_number F M a1 a3 = some p) (hQ : Q (some (.int p.1)) p.2) : sp_Mt g Ω mX11_number 0 0 [.ref 103, .long a1, .long a3] M Q := by
  unfold fX11_number at h
  refine sp_Mt.of [some (.ref 103), some (.long a1), none, some (.long a3), none, none] (by decide) (by simp [sp_ent, Value.category]) rfl ?_
  refine sp_aload_n dX11_number_0 rfl rfl ?_
  refine sp_use (fun ho => ?_)
  have hs := hG.1 _ ho
  refine sp_getL (RX11, TX11, 56) dX11_number_1 clX11 (j := 17) (by decide) tw_1232 (wsI_103 hs) rfl ?_
  refine sp_l2i dX11_number_4 ?_
  obtain ⟨u1, hu1, h⟩ := sp_do_e h
  refine sp_topi hu1 ?_
  refine sp_istore [some (.ref 103), some (.long a1), none, some (.long a3), none, some (.int u1)] dX11_number_5 (by decide) rfl ?_
  refine sp_aload_n dX11_number_7 rfl rfl ?_
  refine sp_aload_n dX11_number_8 rfl rfl ?_
  refine sp_getI (RX11, TX11, 56) dX11_number_9 clX11 (j := 16) (by decide) tw_1231 (wsI_103 hs) (Or.inl rfl) ?_
  refine sp_iconst (v := 2) dX11_number_12 (by decide) ?_
  refine sp_icmp_ne (tgt := 32) dX11_number_13 (by decide) (fun hc2 => ?_) (fun hc2 => ?_)
  · have h := (if_neg hc2).symm.trans h
    refine sp_iconst (v := 0) dX11_number_32 (by decide) ?_
    obtain ⟨M3, hM3, h⟩ := Option.bind_eq_some_iff.mp h
    refine sp_cV (M1 := M3) (r := none) (o := 103) (st := []) (c := 10) (RX11, TX11, 56) [.int 0] [.int 0, .ref 103] [] dX11_number_33 okX11_must tw_1580 tw_1582 tw_49 (by decide) (by decide) rfl (Nat.le_of_ble_eq_true rfl) rfl rfl rfl rfl (wsI_103 hs) (fun Q hQ => tX11_must hG hM3 hQ) ?_
    refine sp_iload dX11_number_36 rfl ?_
    cases h
    exact sp_iret dX11_number_38 (ty := .int) rfl rfl (fun _ => hQ)
  · have h := (if_pos hc2).symm.trans h
    refine sp_aload_n dX11_number_16 rfl rfl ?_
    refine sp_getL (RX11, TX11, 56) dX11_number_17 clX11 (j := 17) (by decide) tw_1232 (wsI_103 hs) rfl ?_
    refine sp_lload_n dX11_number_20 rfl rfl ?_
    refine sp_lload_n dX11_number_21 rfl rfl ?_
    refine sp_cS (M1 := M) (r := some (.int (fX11_in (sp_L M 103 17) a1 a3))) (st := [.ref 103]) [.long (sp_L M 103 17), .long a1, .long a3] [.long a3, .long a1, .long (sp_L M 103 17), .ref 103] [.int (fX11_in (sp_L M 103 17) a1 a3), .ref 103] dX11_number_22 okX11_in tw_1400 tw_1401 (by decide) (by decide) rfl (Nat.le_of_ble_eq_true rfl) rfl rfl (fun Q hQ => tX11_in hG rfl hQ) ?_
    suffices hj : sp_Wp g Ω mX11_number 0 0 33 [none, none, none, none, none, some (.int u1)] [.int (if (fX11_in (sp_L M 103 17) a1 a3) = 0 then 0 else 1), .ref 103] M Q by
      refine sp_if_eq (tgt := 32) dX11_number_25 (by decide) (fun hc4 => ?_) (fun hc4 => ?_)
      · refine sp_iconst (v := 0) dX11_number_32 (by decide) ?_
        refine sp_weak [false, false, false, false, false, true] [none, none, none, none, none, some (.int u1)] rfl ?_
        simp only [if_pos hc4] at hj
        exact hj
      · refine sp_iconst (v := 1) dX11_number_28 (by decide) ?_
        refine sp_goto (tgt := 33) dX11_number_29 (by decide) ?_
        refine sp_weak [false, false, false, false, false, true] [none, none, none, none, none, some (.int u1)] rfl ?_
        simp only [if_neg hc4] at hj
        exact hj
    obtain ⟨M5, hM5, h⟩ := Option.bind_eq_some_iff.mp h
    refine sp_cV (M1 := M5) (r := none) (o := 103) (st := []) (c := 10) (RX11, TX11, 56) [.int (if (fX11_in (sp_L M 103 17) a1 a3) = 0 then 0 else 1)] [.int (if (fX11_in (sp_L M 103 17) a1 a3) = 0 then 0 else 1), .ref 103] [] dX11_number_33 okX11_must tw_1580 tw_1582 tw_49 (by decide) (by decide) rfl (Nat.le_of_ble_eq_true rfl) rfl rfl rfl rfl (wsI_103 hs) (fun Q hQ => tX11_must hG hM5 hQ) ?_
    refine sp_iload dX11_number_36 rfl ?_
    cases h
    exact sp_iret dX11_number_38 (ty := .int) rfl rfl (fun _ => hQ)
def fX11_fault (M : sp_Mem) : Option (Int32 × sp_Mem) :=
  sp_do (sp_setI M 103 0 0) fun M1 => some ((sp_I M1 103 18), M1)
set_option maxRecDepth 100000 in
set_option maxHeartbeats 4000000 in
theorem tX11_fault {g : sp_G} {Ω : sp_Mem → Prop} {Q : sp_Qt} {p : (Int32 × sp_Mem)} (hG : sp_Ok Ω) {M : sp_Mem} (h : fX11_fault M = some p) (hQ : Q (some (.int p.1)) p.2) : sp_Mt g Ω mX11_fault 0 0 [.ref 103] M Q := by
  unfold fX11_fault at h
  refine sp_Mt.of [some (.ref 103)] (by decide) (by simp [sp_ent, Value.category]) rfl ?_
  refine sp_aload_n dX11_fault_0 rfl rfl ?_
  refine sp_iconst (v := 0) dX11_fault_1 (by decide) ?_
  refine sp_use (fun ho => ?_)
  have hs := hG.1 _ ho
  obtain ⟨M1, hM1, h⟩ := sp_do_e h
  refine sp_putI2 (RX11, TX11, 56) hG dX11_fault_2 clX11 (j := 0) (by decide) tw_1215 rfl (Or.inl rfl) (wsI_103 hs) hM1 ?_
  refine sp_aload_n dX11_fault_5 rfl rfl ?_
  refine sp_use (fun ho => ?_)
  have hs := hG.1 _ ho
  refine sp_getI (RX11, TX11, 56) dX11_fault_6 clX11 (j := 18) (by decide) tw_1233 (wsI_103 hs) (Or.inl rfl) ?_
  cases h
  exact sp_iret dX11_fault_9 (ty := .int) rfl rfl (fun _ => hQ)
def fX11_emit (M : sp_Mem) (a1 : Int32) (a2 : Int32) : Option sp_Mem :=
  (sp_ix 400 (sp_I M 103 23)).bind fun j1 => sp_do (sp_setI M 114 j1 a1) fun M2 => (sp_ix 400 (sp_I M2 103 23)).bind fun j3 => sp_do (sp_setI M2 115 j3 a2) fun M4 => sp_do (sp_setI M4 103 23 ((sp_I M4 103 23) + 1)) fun M5 => some M5
set_option maxRecDepth 100000 in
set_option maxHeartbeats 4000000 in
theorem tX11_emit {g : sp_G} {Ω : sp_Mem → Prop} {Q : sp_Qt} {p : sp_Mem} (hG : sp_Ok Ω) {M : sp_Mem} {a1 : Int32} {a2 : Int32} (h : fX11_emit M a1 a2 = some p) (hQ : Q none p) : sp_Mt g Ω mX11_emit 0 0 [.ref 103, .int a1, .int a2] M Q := by
  unfold fX11_emit at h
  refine sp_Mt.of [some (.ref 103), some (.int a1), some (.int a2)] (by decide) (by simp [sp_ent, Value.category]) rfl ?_
  refine sp_aload_n dX11_emit_0 rfl rfl ?_
  refine sp_use (fun ho => ?_)
  have hs := hG.1 _ ho
  refine sp_getR (RX11, TX11, 56) dX11_emit_1 clX11 (j := 24) (by decide) tw_1239 (wsI_103 hs) (Or.inr ⟨_, rfl⟩) (wsP_103_24 hs) ?_
  refine sp_aload_n dX11_emit_4 rfl rfl ?_
  refine sp_getI (RX11, TX11, 56) dX11_emit_5 clX11 (j := 23) (by decide) tw_1238 (wsI_103 hs) (Or.inl rfl) ?_
  refine sp_iload_n dX11_emit_8 rfl rfl ?_
  obtain ⟨j1, hj1, h⟩ := Option.bind_eq_some_iff.mp h
  obtain ⟨M2, hM2, h⟩ := sp_do_e h
  refine sp_iast2 (j := j1) hG dX11_emit_9 (wsA_114 hs) (wsN_114 hs) hj1 hM2 ?_
  refine sp_aload_n dX11_emit_10 rfl rfl ?_
  refine sp_use (fun ho => ?_)
  have hs := hG.1 _ ho
  refine sp_getR (RX11, TX11, 56) dX11_emit_11 clX11 (j := 25) (by decide) tw_1240 (wsI_103 hs) (Or.inr ⟨_, rfl⟩) (wsP_103_25 hs) ?_
  refine sp_aload_n dX11_emit_14 rfl rfl ?_
  refine sp_getI (RX11, TX11, 56) dX11_emit_15 clX11 (j := 23) (by decide) tw_1238 (wsI_103 hs) (Or.inl rfl) ?_
  refine sp_iload_n dX11_emit_18 rfl rfl ?_
  obtain ⟨j3, hj3, h⟩ := Option.bind_eq_some_iff.mp h
  obtain ⟨M4, hM4, h⟩ := sp_do_e h
  refine sp_iast2 (j := j3) hG dX11_emit_19 (wsA_115 hs) (wsN_115 hs) hj3 hM4 ?_
  refine sp_aload_n dX11_emit_20 rfl rfl ?_
  refine sp_dup dX11_emit_21 rfl ?_
  refine sp_use (fun ho => ?_)
  have hs := hG.1 _ ho
  refine sp_getI (RX11, TX11, 56) dX11_emit_22 clX11 (j := 23) (by decide) tw_1238 (wsI_103 hs) (Or.inl rfl) ?_
  refine sp_iconst (v := 1) dX11_emit_25 (by decide) ?_
  refine sp_iadd dX11_emit_26 ?_
  obtain ⟨M5, hM5, h⟩ := sp_do_e h
  refine sp_putI2 (RX11, TX11, 56) hG dX11_emit_27 clX11 (j := 23) (by decide) tw_1238 rfl (Or.inl rfl) (wsI_103 hs) hM5 ?_
  cases h
  exact sp_vret dX11_emit_30 rfl (fun _ => hQ)
def fX11_push (M : sp_Mem) (a1 : Int32) (a2 : Int32) : Option sp_Mem :=
  (sp_ix 400 (sp_I M 103 29)).bind fun j1 => sp_do (sp_setI M 116 j1 a1) fun M2 => (sp_ix 400 (sp_I M2 103 29)).bind fun j3 => sp_do (sp_setI M2 117 j3 a2) fun M4 => sp_do (sp_setI M4 103 29 ((sp_I M4 103 29) + 1)) fun M5 => some M5
set_option maxRecDepth 100000 in
set_option maxHeartbeats 4000000 in
theorem tX11_push {g : sp_G} {Ω : sp_Mem → Prop} {Q : sp_Qt} {p : sp_Mem} (hG : sp_Ok Ω) {M : sp_Mem} {a1 : Int32} {a2 : Int32} (h : fX11_push M a1 a2 = some p) (hQ : Q none p) : sp_Mt g Ω mX11_push 0 0 [.ref 103, .int a1, .int a2] M Q := by
  unfold fX11_push at h
  refine sp_Mt.of [some (.ref 103), some (.int a1), some (.int a2)] (by decide) (by simp [sp_ent, Value.category]) rfl ?_
  refine sp_aload_n dX11_push_0 rfl rfl ?_
  refine sp_use (fun ho => ?_)
  have hs := hG.1 _ ho
  refine sp_getR (RX11, TX11, 56) dX11_push_1 clX11 (j := 27) (by decide) tw_1242 (wsI_103 hs) (Or.inr ⟨_, rfl⟩) (wsP_103_27 hs) ?_
  refine sp_aload_n dX11_push_4 rfl rfl ?_
  refine sp_getI (RX11, TX11, 56) dX11_push_5 clX11 (j := 29) (by decide) tw_1244 (wsI_103 hs) (Or.inl rfl) ?_
  refine sp_iload_n dX11_push_8 rfl rfl ?_
  obtain ⟨j1, hj1, h⟩ := Option.bind_eq_some_iff.mp h
  obtain ⟨M2, hM2, h⟩ := sp_do_e h
  refine sp_iast2 (j := j1) hG dX11_push_9 (wsA_116 hs) (wsN_116 hs) hj1 hM2 ?_
  refine sp_aload_n dX11_push_10 rfl rfl ?_
  refine sp_use (fun ho => ?_)
  have hs := hG.1 _ ho
  refine sp_getR (RX11, TX11, 56) dX11_push_11 clX11 (j := 28) (by decide) tw_1243 (wsI_103 hs) (Or.inr ⟨_, rfl⟩) (wsP_103_28 hs) ?_
  refine sp_aload_n dX11_push_14 rfl rfl ?_
  refine sp_getI (RX11, TX11, 56) dX11_push_15 clX11 (j := 29) (by decide) tw_1244 (wsI_103 hs) (Or.inl rfl) ?_
  refine sp_iload_n dX11_push_18 rfl rfl ?_
  obtain ⟨j3, hj3, h⟩ := Option.bind_eq_some_iff.mp h
  obtain ⟨M4, hM4, h⟩ := sp_do_e h
  refine sp_iast2 (j := j3) hG dX11_push_19 (wsA_117 hs) (wsN_117 hs) hj3 hM4 ?_
  refine sp_aload_n dX11_push_20 rfl rfl ?_
  refine sp_dup dX11_push_21 rfl ?_
  refine sp_use (fun ho => ?_)
  have hs := hG.1 _ ho
  refine sp_getI (RX11, TX11, 56) dX11_push_22 clX11 (j := 29) (by decide) tw_1244 (wsI_103 hs) (Or.inl rfl) ?_
  refine sp_iconst (v := 1) dX11_push_25 (by decide) ?_
  refine sp_iadd dX11_push_26 ?_
  obtain ⟨M5, hM5, h⟩ := sp_do_e h
  refine sp_putI2 (RX11, TX11, 56) hG dX11_push_27 clX11 (j := 29) (by decide) tw_1244 rfl (Or.inl rfl) (wsI_103 hs) hM5 ?_
  cases h
  exact sp_vret dX11_push_30 rfl (fun _ => hQ)
def fX11_binds (a0 : Int32) : Int32 :=
  (if a0 < 31 then (if a0 = 30 then 1 else (if a0 = 29 then 2 else (if a0 = 28 then 3 else (if a0 < 25 then (if a0 < 22 then 5 else 6) else 4)))) else 0)
set_option maxRecDepth 100000 in
set_option maxHeartbeats 4000000 in
theorem tX11_binds {g : sp_G} {Ω : sp_Mem → Prop} {Q : sp_Qt} {M0 : sp_Mem} {p : Int32} (hG : sp_Ok Ω) {a0 : Int32} (h : fX11_binds a0 = p) (hQ : Q (some (.int p)) M0) : sp_Mt g Ω mX11_binds 0 0 [.int a0] M0 Q := by
  unfold fX11_binds at h
  refine sp_Mt.of [some (.int a0)] (by decide) (by simp [sp_ent, Value.category]) rfl ?_
  refine sp_iload_n dX11_binds_0 rfl rfl ?_
  refine sp_bipush (v := 31) dX11_binds_1 (by decide) ?_
  suffices hj : sp_Wp g Ω mX11_binds 0 0 62 [none] [.int (if a0 < 31 then (if a0 = 30 then 1 else (if a0 = 29 then 2 else (if a0 = 28 then 3 else (if a0 < 25 then (if a0 < 22 then 5 else 6) else 4)))) else 0)] M0 Q by
    refine sp_icmp_lt (tgt := 10) dX11_binds_3 (by decide) (fun hc1 => ?_) (fun hc1 => ?_)
    · refine sp_iload_n dX11_binds_10 rfl rfl ?_
      refine sp_bipush (v := 30) dX11_binds_11 (by decide) ?_
      refine sp_icmp_ne (tgt := 20) dX11_binds_13 (by decide) (fun hc2 => ?_) (fun hc2 => ?_)
      · refine sp_iload_n dX11_binds_20 rfl rfl ?_
        refine sp_bipush (v := 29) dX11_binds_21 (by decide) ?_
        refine sp_icmp_ne (tgt := 30) dX11_binds_23 (by decide) (fun hc3 => ?_) (fun hc3 => ?_)
        · refine sp_iload_n dX11_binds_30 rfl rfl ?_
          refine sp_bipush (v := 28) dX11_binds_31 (by decide) ?_
          refine sp_icmp_ne (tgt := 40) dX11_binds_33 (by decide) (fun hc4 => ?_) (fun hc4 => ?_)
          · refine sp_iload_n dX11_binds_40 rfl rfl ?_
            refine sp_bipush (v := 25) dX11_binds_41 (by decide) ?_
            refine sp_icmp_lt (tgt := 50) dX11_binds_43 (by decide) (fun hc5 => ?_) (fun hc5 => ?_)
            · refine sp_iload_n dX11_binds_50 rfl rfl ?_
              refine sp_bipush (v := 22) dX11_binds_51 (by decide) ?_
              refine sp_icmp_lt (tgt := 61) dX11_binds_53 (by decide) (fun hc6 => ?_) (fun hc6 => ?_)
              · refine sp_iconst (v := 5) dX11_binds_61 (by decide) ?_
                refine sp_weak [false] [none] rfl ?_
                simp only [if_pos hc1, if_neg hc2, if_neg hc3, if_neg hc4, if_pos hc5, if_pos hc6] at hj
                exact hj
              · refine sp_bipush (v := 6) dX11_binds_56 (by decide) ?_
                refine sp_goto (tgt := 62) dX11_binds_58 (by decide) ?_
                refine sp_weak [false] [none] rfl ?_
                simp only [if_pos hc1, if_neg hc2, if_neg hc3, if_neg hc4, if_pos hc5, if_neg hc6] at hj
                exact hj
            · refine sp_iconst (v := 4) dX11_binds_46 (by decide) ?_
              refine sp_goto (tgt := 62) dX11_binds_47 (by decide) ?_
              refine sp_weak [false] [none] rfl ?_
              simp only [if_pos hc1, if_neg hc2, if_neg hc3, if_neg hc4, if_neg hc5] at hj
              exact hj
          · refine sp_iconst (v := 3) dX11_binds_36 (by decide) ?_
            refine sp_goto (tgt := 62) dX11_binds_37 (by decide) ?_
            refine sp_weak [false] [none] rfl ?_
            simp only [if_pos hc1, if_neg hc2, if_neg hc3, if_pos hc4] at hj
            exact hj
        · refine sp_iconst (v := 2) dX11_binds_26 (by decide) ?_
          refine sp_goto (tgt := 62) dX11_binds_27 (by decide) ?_
          refine sp_weak [false] [none] rfl ?_
          simp only [if_pos hc1, if_neg hc2, if_pos hc3] at hj
          exact hj
      · refine sp_iconst (v := 1) dX11_binds_16 (by decide) ?_
        refine sp_goto (tgt := 62) dX11_binds_17 (by decide) ?_
        refine sp_weak [false] [none] rfl ?_
        simp only [if_pos hc1, if_pos hc2] at hj
        exact hj
    · refine sp_iconst (v := 0) dX11_binds_6 (by decide) ?_
      refine sp_goto (tgt := 62) dX11_binds_7 (by decide) ?_
      refine sp_weak [false] [none] rfl ?_
      simp only [if_neg hc1] at hj
      exact hj
  cases h
  exact sp_iret dX11_binds_62 (ty := .int) rfl rfl (fun _ => hQ)
def fX11_settle_j63 (F : Nat) (kb : Int32 → sp_Mem → Option sp_Mem) (kx : sp_Mem → Option sp_Mem) (a1 : Int32) (M : sp_Mem) : Option sp_Mem :=
  (sp_ix 400 (sp_I M 103 29)).bind fun j7 => (sp_ix 400 (sp_I M 117 j7)).bind fun j8 => sp_do (sp_setI M 115 j8 (sp_I M 103 23)) fun M9 => kb a1 M9
def fX11_settle_l0 (F : Nat) (kx : sp_Mem → Option sp_Mem) : Nat → Int32 → sp_Mem → Option sp_Mem
  | 0, _, _ => none
  | n + 1, a1, M =>
  if (sp_I M 103 29) ≤ 0 then (kx M) else ((sp_ix 400 ((sp_I M 103 29) - 1)).bind fun j2 => if (fX11_binds (sp_I M 116 j2)) < a1 then (kx M) else (sp_do (sp_setI M 103 29 ((sp_I M 103 29) - 1)) fun M4 => (sp_ix 400 (sp_I M4 103 29)).bind fun j5 => if (sp_I M4 116 j5) = 29 then (fX11_settle_j63 F (fX11_settle_l0 F kx n) kx a1 M4) else ((sp_ix 400 (sp_I M4 103 29)).bind fun j10 => if (sp_I M4 116 j10) = 30 then (fX11_settle_j63 F (fX11_settle_l0 F kx n) kx a1 M4) else ((sp_ix 400 (sp_I M4 103 29)).bind fun j12 => (fX11_emit M4 (sp_I M4 116 j12) 0).bind fun M13 => (fX11_settle_l0 F kx n) a1 M13))))
def fX11_settle (F : Nat) (M : sp_Mem) (a1 : Int32) : Option sp_Mem :=
  fX11_settle_l0 F (fun M14 => some M14) F a1 M
set_option maxRecDepth 100000 in
set_option maxHeartbeats 4000000 in
theorem tX11_settle_j63 {g : sp_G} {Ω : sp_Mem → Prop} {Q : sp_Qt} {F : Nat} {p : sp_Mem} (hG : sp_Ok Ω)  {kb : Int32 → sp_Mem → Option sp_Mem} {kx : sp_Mem → Option sp_Mem} (hQ : Q none p) (hb : ∀ (a1 : Int32) (M : sp_Mem), kb a1 M = some p → sp_Wp g Ω mX11_settle 0 0 0 [some (.ref 103), some (.int a1)] [] M Q) (hx : ∀  (M : sp_Mem), kx M = some p → sp_Wp g Ω mX11_settle 0 0 101 [none, none] [] M Q) (a1 : Int32) (M : sp_Mem) (h : fX11_settle_j63 F kb kx a1 M = some p) : sp_Wp g Ω mX11_settle 0 0 63 [some (.ref 103), some (.int a1)] [] M Q := by
  unfold fX11_settle_j63 at h
  refine sp_aload_n dX11_settle_63 rfl rfl ?_
  refine sp_use (fun ho => ?_)
  have hs := hG.1 _ ho
  refine sp_getR (RX11, TX11, 56) dX11_settle_64 clX11 (j := 25) (by decide) tw_1240 (wsI_103 hs) (Or.inr ⟨_, rfl⟩) (wsP_103_25 hs) ?_
  refine sp_aload_n dX11_settle_67 rfl rfl ?_
  refine sp_getR (RX11, TX11, 56) dX11_settle_68 clX11 (j := 28) (by decide) tw_1243 (wsI_103 hs) (Or.inr ⟨_, rfl⟩) (wsP_103_28 hs) ?_
  refine sp_aload_n dX11_settle_71 rfl rfl ?_
  refine sp_getI (RX11, TX11, 56) dX11_settle_72 clX11 (j := 29) (by decide) tw_1244 (wsI_103 hs) (Or.inl rfl) ?_
  obtain ⟨j7, hj7, h⟩ := Option.bind_eq_some_iff.mp h
  refine sp_iald2 (j := j7) dX11_settle_75 (wsA_117 hs) (wsN_117 hs) hj7 ?_
  refine sp_aload_n dX11_settle_76 rfl rfl ?_
  refine sp_getI (RX11, TX11, 56) dX11_settle_77 clX11 (j := 23) (by decide) tw_1238 (wsI_103 hs) (Or.inl rfl) ?_
  obtain ⟨j8, hj8, h⟩ := Option.bind_eq_some_iff.mp h
  obtain ⟨M9, hM9, h⟩ := sp_do_e h
  refine sp_iast2 (j := j8) hG dX11_settle_80 (wsA_115 hs) (wsN_115 hs) hj8 hM9 ?_
  refine sp_goto (tgt := 0) dX11_settle_81 (by decide) ?_
  refine sp_weak [true, true] [some (.ref 103), some (.int a1)] rfl ?_
  exact hb _ _ h
set_option maxRecDepth 100000 in
set_option maxHeartbeats 4000000 in
theorem tX11_settle_l0 {g : sp_G} {Ω : sp_Mem → Prop} {Q : sp_Qt} {F : Nat} {p : sp_Mem} (hG : sp_Ok Ω)  {kx : sp_Mem → Option sp_Mem} (hQ : Q none p) (hx : ∀  (M : sp_Mem), kx M = some p → sp_Wp g Ω mX11_settle 0 0 101 [none, none] [] M Q) : ∀ (n : Nat) (a1 : Int32) (M : sp_Mem), fX11_settle_l0 F kx n a1 M = some p → sp_Wp g Ω mX11_settle 0 0 0 [some (.ref 103), some (.int a1)] [] M Q := by
  intro n
  induction n with
  | zero =>
    intro a1 M h
    rw [fX11_settle_l0] at h
    cases h
  | succ n ih =>
    intro a1 M h
    rw [fX11_settle_l0] at h
    refine sp_aload_n dX11_settle_0 rfl rfl ?_
    refine sp_use (fun ho => ?_)
    have hs := hG.1 _ ho
    refine sp_getI (RX11, TX11, 56) dX11_settle_1 clX11 (j := 29) (by decide) tw_1244 (wsI_103 hs) (Or.inl rfl) ?_
    refine sp_if_le (tgt := 101) dX11_settle_4 (by decide) (fun hc1 => ?_) (fun hc1 => ?_)
    · have h := (if_pos hc1).symm.trans h
      refine sp_weak [false, false] [none, none] rfl ?_
      exact hx _ h
    · have h := (if_neg hc1).symm.trans h
      refine sp_aload_n dX11_settle_7 rfl rfl ?_
      refine sp_getR (RX11, TX11, 56) dX11_settle_8 clX11 (j := 27) (by decide) tw_1242 (wsI_103 hs) (Or.inr ⟨_, rfl⟩) (wsP_103_27 hs) ?_
      refine sp_aload_n dX11_settle_11 rfl rfl ?_
      refine sp_getI (RX11, TX11, 56) dX11_settle_12 clX11 (j := 29) (by decide) tw_1244 (wsI_103 hs) (Or.inl rfl) ?_
      refine sp_iconst (v := 1) dX11_settle_15 (by decide) ?_
      refine sp_isub dX11_settle_16 ?_
      obtain ⟨j2, hj2, h⟩ := Option.bind_eq_some_iff.mp h
      refine sp_iald2 (j := j2) dX11_settle_17 (wsA_116 hs) (wsN_116 hs) hj2 ?_
      refine sp_cS (M1 := M) (r := some (.int (fX11_binds (sp_I M 116 j2)))) (st := []) [.int (sp_I M 116 j2)] [.int (sp_I M 116 j2)] [.int (fX11_binds (sp_I M 116 j2))] dX11_settle_18 okX11_binds tw_1635 tw_1636 (by decide) (by decide) rfl (Nat.le_of_ble_eq_true rfl) rfl rfl (fun Q hQ => tX11_binds hG rfl hQ) ?_
      refine sp_iload_n dX11_settle_21 rfl rfl ?_
      refine sp_icmp_lt (tgt := 101) dX11_settle_22 (by decide) (fun hc3 => ?_) (fun hc3 => ?_)
      · have h := (if_pos hc3).symm.trans h
        refine sp_weak [false, false] [none, none] rfl ?_
        exact hx _ h
      · have h := (if_neg hc3).symm.trans h
        refine sp_aload_n dX11_settle_25 rfl rfl ?_
        refine sp_dup dX11_settle_26 rfl ?_
        refine sp_getI (RX11, TX11, 56) dX11_settle_27 clX11 (j := 29) (by decide) tw_1244 (wsI_103 hs) (Or.inl rfl) ?_
        refine sp_iconst (v := 1) dX11_settle_30 (by decide) ?_
        refine sp_isub dX11_settle_31 ?_
        obtain ⟨M4, hM4, h⟩ := sp_do_e h
        refine sp_putI2 (RX11, TX11, 56) hG dX11_settle_32 clX11 (j := 29) (by decide) tw_1244 rfl (Or.inl rfl) (wsI_103 hs) hM4 ?_
        refine sp_aload_n dX11_settle_35 rfl rfl ?_
        refine sp_use (fun ho => ?_)
        have hs := hG.1 _ ho
        refine sp_getR (RX11, TX11, 56) dX11_settle_36 clX11 (j := 27) (by decide) tw_1242 (wsI_103 hs) (Or.inr ⟨_, rfl⟩) (wsP_103_27 hs) ?_
        refine sp_aload_n dX11_settle_39 rfl rfl ?_
        refine sp_getI (RX11, TX11, 56) dX11_settle_40 clX11 (j := 29) (by decide) tw_1244 (wsI_103 hs) (Or.inl rfl) ?_
        obtain ⟨j5, hj5, h⟩ := Option.bind_eq_some_iff.mp h
        refine sp_iald2 (j := j5) dX11_settle_43 (wsA_116 hs) (wsN_116 hs) hj5 ?_
        refine sp_bipush (v := 29) dX11_settle_44 (by decide) ?_
        refine sp_icmp_eq (tgt := 63) dX11_settle_46 (by decide) (fun hc6 => ?_) (fun hc6 => ?_)
        · have h := (if_pos hc6).symm.trans h
          refine sp_weak [true, true] [some (.ref 103), some (.int a1)] rfl ?_
          exact tX11_settle_j63 hG hQ ih hx _ _ h
        · have h := (if_neg hc6).symm.trans h
          refine sp_aload_n dX11_settle_49 rfl rfl ?_
          refine sp_getR (RX11, TX11, 56) dX11_settle_50 clX11 (j := 27) (by decide) tw_1242 (wsI_103 hs) (Or.inr ⟨_, rfl⟩) (wsP_103_27 hs) ?_
          refine sp_aload_n dX11_settle_53 rfl rfl ?_
          refine sp_getI (RX11, TX11, 56) dX11_settle_54 clX11 (j := 29) (by decide) tw_1244 (wsI_103 hs) (Or.inl rfl) ?_
          obtain ⟨j10, hj10, h⟩ := Option.bind_eq_some_iff.mp h
          refine sp_iald2 (j := j10) dX11_settle_57 (wsA_116 hs) (wsN_116 hs) hj10 ?_
          refine sp_bipush (v := 30) dX11_settle_58 (by decide) ?_
          refine sp_icmp_ne (tgt := 84) dX11_settle_60 (by decide) (fun hc11 => ?_) (fun hc11 => ?_)
          · have h := (if_neg hc11).symm.trans h
            refine sp_aload_n dX11_settle_84 rfl rfl ?_
            refine sp_aload_n dX11_settle_85 rfl rfl ?_
            refine sp_getR (RX11, TX11, 56) dX11_settle_86 clX11 (j := 27) (by decide) tw_1242 (wsI_103 hs) (Or.inr ⟨_, rfl⟩) (wsP_103_27 hs) ?_
            refine sp_aload_n dX11_settle_89 rfl rfl ?_
            refine sp_getI (RX11, TX11, 56) dX11_settle_90 clX11 (j := 29) (by decide) tw_1244 (wsI_103 hs) (Or.inl rfl) ?_
            obtain ⟨j12, hj12, h⟩ := Option.bind_eq_some_iff.mp h
            refine sp_iald2 (j := j12) dX11_settle_93 (wsA_116 hs) (wsN_116 hs) hj12 ?_
            refine sp_iconst (v := 0) dX11_settle_94 (by decide) ?_
            obtain ⟨M13, hM13, h⟩ := Option.bind_eq_some_iff.mp h
            refine sp_cV (M1 := M13) (r := none) (o := 103) (st := []) (c := 10) (RX11, TX11, 56) [.int (sp_I M4 116 j12), .int 0] [.int 0, .int (sp_I M4 116 j12), .ref 103] [] dX11_settle_95 okX11_emit tw_1622 tw_1624 tw_59 (by decide) (by decide) rfl (Nat.le_of_ble_eq_true rfl) rfl rfl rfl rfl (wsI_103 hs) (fun Q hQ => tX11_emit hG hM13 hQ) ?_
            refine sp_goto (tgt := 0) dX11_settle_98 (by decide) ?_
            refine sp_weak [true, true] [some (.ref 103), some (.int a1)] rfl ?_
            exact ih _ _ h
          · have h := (if_pos hc11).symm.trans h
            refine sp_weak [true, true] [some (.ref 103), some (.int a1)] rfl ?_
            exact tX11_settle_j63 hG hQ ih hx _ _ h
set_option maxRecDepth 100000 in
set_option maxHeartbeats 4000000 in
theorem tX11_settle {g : sp_G} {Ω : sp_Mem → Prop} {Q : sp_Qt} {F : Nat} {p : sp_Mem} (hG : sp_Ok Ω) {M : sp_Mem} {a1 : Int32} (h : fX11_settle F M a1 = some p) (hQ : Q none p) : sp_Mt g Ω mX11_settle 0 0 [.ref 103, .int a1] M Q := by
  unfold fX11_settle at h
  refine sp_Mt.of [some (.ref 103), some (.int a1)] (by decide) (by simp [sp_ent, Value.category]) rfl ?_
  refine sp_weak [true, true] [some (.ref 103), some (.int a1)] rfl ?_
  refine tX11_settle_l0 hG hQ (fun M14 h => ?_) F _ _ h
  cases h
  exact sp_vret dX11_settle_101 rfl (fun _ => hQ)
