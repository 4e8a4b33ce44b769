def fX11_sumOf (F : Nat) (M : sp_Mem) (a1 : Int32) : Option (Int32 × sp_Mem) :=
  if (sp_I M 103 51) = 0 then ((sp_ix 96 a1).bind fun j2 => (sp_ix 96 (a1 + 1)).bind fun j3 => if (sp_I M 130 j2) = (sp_I M 130 j3) then (some ((-1), M)) else (sp_do (sp_setI M 103 20 1) fun M5 => (sp_ix 96 a1).bind fun j6 => (sp_ix 96 (a1 + 1)).bind fun j7 => (fX11_reckonAll F M5 (sp_I M5 130 j6) (sp_I M5 130 j7)).bind fun M8 => sp_do (sp_setI M8 103 20 0) fun M9 => sp_do (sp_setI M9 103 51 (sp_I M9 103 38)) fun M10 => (sp_b01 (sp_I M9 103 38)).bind fun _ => some ((Int64.toInt32 (sp_L M10 103 39)), M10))) else (some ((-1), M))
set_option maxRecDepth 100000 in
set_option maxHeartbeats 4000000 in
theorem tX11_sumOf {g : sp_G} {Ω : sp_Mem → Prop} {Q : sp_Qt} {F : Nat} {p : (Int32 × sp_Mem)} (hG : sp_Ok Ω) {M : sp_Mem} {a1 : Int32} (h : fX11_sumOf F M a1 = some p) (hQ : Q (some (.int p.1)) p.2) : sp_Mt g Ω mX11_sumOf 0 0 [.ref 103, .int a1] M Q := by
  unfold fX11_sumOf at h
  refine sp_Mt.of [some (.ref 103), some (.int a1)] (by decide) (by simp [sp_ent, Value.category]) rfl ?_
  refine sp_aload_n dX11_sumOf_0 rfl rfl ?_
  refine sp_use (fun ho => ?_)
  have hs := hG.1 _ ho
  refine sp_getI (RX11, TX11, 56) dX11_sumOf_1 clX11 (j := 51) (by decide) tw_1266 (wsI_103 hs) (Or.inr rfl) ?_
  refine sp_if_ne (tgt := 24) dX11_sumOf_4 (by decide) (fun hc1 => ?_) (fun hc1 => ?_)
  · have h := (if_neg hc1).symm.trans h
    refine sp_iconst (v := (-1)) dX11_sumOf_24 (by decide) ?_
    cases h
    exact sp_iret dX11_sumOf_25 (ty := .int) rfl rfl (fun _ => hQ)
  · have h := (if_pos hc1).symm.trans h
    refine sp_aload_n dX11_sumOf_7 rfl rfl ?_
    refine sp_getR (RX11, TX11, 56) dX11_sumOf_8 clX11 (j := 47) (by decide) tw_1262 (wsI_103 hs) (Or.inr ⟨_, rfl⟩) (wsP_103_47 hs) ?_
    refine sp_iload_n dX11_sumOf_11 rfl rfl ?_
    obtain ⟨j2, hj2, h⟩ := Option.bind_eq_some_iff.mp h
    refine sp_iald2 (j := j2) dX11_sumOf_12 (wsA_130 hs) (wsN_130 hs) hj2 ?_
    refine sp_aload_n dX11_sumOf_13 rfl rfl ?_
    refine sp_getR (RX11, TX11, 56) dX11_sumOf_14 clX11 (j := 47) (by decide) tw_1262 (wsI_103 hs) (Or.inr ⟨_, rfl⟩) (wsP_103_47 hs) ?_
    refine sp_iload_n dX11_sumOf_17 rfl rfl ?_
    refine sp_iconst (v := 1) dX11_sumOf_18 (by decide) ?_
    refine sp_iadd dX11_sumOf_19 ?_
    obtain ⟨j3, hj3, h⟩ := Option.bind_eq_some_iff.mp h
    refine sp_iald2 (j := j3) dX11_sumOf_20 (wsA_130 hs) (wsN_130 hs) hj3 ?_
    refine sp_icmp_ne (tgt := 26) dX11_sumOf_21 (by decide) (fun hc4 => ?_) (fun hc4 => ?_)
    · have h := (if_neg hc4).symm.trans h
      refine sp_aload_n dX11_sumOf_26 rfl rfl ?_
      refine sp_iconst (v := 1) dX11_sumOf_27 (by decide) ?_
      obtain ⟨M5, hM5, h⟩ := sp_do_e h
      refine sp_putI2 (RX11, TX11, 56) hG dX11_sumOf_28 clX11 (j := 20) (by decide) tw_1235 rfl (Or.inr ⟨rfl, (Or.inr rfl)⟩) (wsI_103 hs) hM5 ?_
      refine sp_aload_n dX11_sumOf_31 rfl rfl ?_
      refine sp_aload_n dX11_sumOf_32 rfl rfl ?_
      refine sp_use (fun ho => ?_)
      have hs := hG.1 _ ho
      refine sp_getR (RX11, TX11, 56) dX11_sumOf_33 clX11 (j := 47) (by decide) tw_1262 (wsI_103 hs) (Or.inr ⟨_, rfl⟩) (wsP_103_47 hs) ?_
      refine sp_iload_n dX11_sumOf_36 rfl rfl ?_
      obtain ⟨j6, hj6, h⟩ := Option.bind_eq_some_iff.mp h
      refine sp_iald2 (j := j6) dX11_sumOf_37 (wsA_130 hs) (wsN_130 hs) hj6 ?_
      refine sp_aload_n dX11_sumOf_38 rfl rfl ?_
      refine sp_getR (RX11, TX11, 56) dX11_sumOf_39 clX11 (j := 47) (by decide) tw_1262 (wsI_103 hs) (Or.inr ⟨_, rfl⟩) (wsP_103_47 hs) ?_
      refine sp_iload_n dX11_sumOf_42 rfl rfl ?_
      refine sp_iconst (v := 1) dX11_sumOf_43 (by decide) ?_
      refine sp_iadd dX11_sumOf_44 ?_
      obtain ⟨j7, hj7, h⟩ := Option.bind_eq_some_iff.mp h
      refine sp_iald2 (j := j7) dX11_sumOf_45 (wsA_130 hs) (wsN_130 hs) hj7 ?_
      obtain ⟨M8, hM8, h⟩ := Option.bind_eq_some_iff.mp h
      refine sp_cV (M1 := M8) (r := none) (o := 103) (st := []) (c := 10) (RX11, TX11, 56) [.int (sp_I M5 130 j6), .int (sp_I M5 130 j7)] [.int (sp_I M5 130 j7), .int (sp_I M5 130 j6), .ref 103] [] dX11_sumOf_46 okX11_reckonAll tw_1447 tw_1449 tw_35 (by decide) (by decide) rfl (Nat.le_of_ble_eq_true rfl) rfl rfl rfl rfl (wsI_103 hs) (fun Q hQ => tX11_reckonAll hG hM8 hQ) ?_
      refine sp_aload_n dX11_sumOf_49 rfl rfl ?_
      refine sp_iconst (v := 0) dX11_sumOf_50 (by decide) ?_
      refine sp_use (fun ho => ?_)
      have hs := hG.1 _ ho
      obtain ⟨M9, hM9, h⟩ := sp_do_e h
      refine sp_putI2 (RX11, TX11, 56) hG dX11_sumOf_51 clX11 (j := 20) (by decide) tw_1235 rfl (Or.inr ⟨rfl, (Or.inl rfl)⟩) (wsI_103 hs) hM9 ?_
      refine sp_aload_n dX11_sumOf_54 rfl rfl ?_
      refine sp_aload_n dX11_sumOf_55 rfl rfl ?_
      refine sp_use (fun ho => ?_)
      have hs := hG.1 _ ho
      refine sp_getI (RX11, TX11, 56) dX11_sumOf_56 clX11 (j := 38) (by decide) tw_1253 (wsI_103 hs) (Or.inr rfl) ?_
      obtain ⟨M10, hM10, h⟩ := sp_do_e h
      obtain ⟨_, hz11, h⟩ := Option.bind_eq_some_iff.mp h
      refine sp_putI2 (RX11, TX11, 56) hG dX11_sumOf_59 clX11 (j := 51) (by decide) tw_1266 rfl (Or.inr ⟨rfl, (sp_b01_e hz11)⟩) (wsI_103 hs) hM10 ?_
      refine sp_aload_n dX11_sumOf_62 rfl rfl ?_
      refine sp_use (fun ho => ?_)
      have hs := hG.1 _ ho
      refine sp_getL (RX11, TX11, 56) dX11_sumOf_63 clX11 (j := 39) (by decide) tw_1254 (wsI_103 hs) rfl ?_
      refine sp_l2i dX11_sumOf_66 ?_
      cases h
      exact sp_iret dX11_sumOf_67 (ty := .int) rfl rfl (fun _ => hQ)
    · have h := (if_pos hc4).symm.trans h
      refine sp_iconst (v := (-1)) dX11_sumOf_24 (by decide) ?_
      cases h
      exact sp_iret dX11_sumOf_25 (ty := .int) rfl rfl (fun _ => hQ)
def fX11_act (F : Nat) (M : sp_Mem) (a1 : Int32) (a2 : Int32) (a3 : Int32) : Option (Int32 × sp_Mem) :=
  if a1 = 0 then ((fX11_callNow F M a2 a3).bind fun x2 => some (x2.1, x2.2)) else if a1 = 1 then ((fX11_walkNow F M a2 a3).bind fun x4 => some (x4.1, x4.2)) else if a1 = 2 then ((fX11_wetNow F M a2).bind fun x6 => some (x6.1, x6.2)) else ((fX11_passNow F M).bind fun x7 => some (x7.1, x7.2))
set_option maxRecDepth 100000 in
set_option maxHeartbeats 4000000 in
theorem tX11_act {g : sp_G} {Ω : sp_Mem → Prop} {Q : sp_Qt} {F : Nat} {p : (Int32 × sp_Mem)} (hG : sp_Ok Ω) {M : sp_Mem} {a1 : Int32} {a2 : Int32} {a3 : Int32} (h : fX11_act F M a1 a2 a3 = some p) (hQ : Q (some (.int p.1)) p.2) : sp_Mt g Ω mX11_act 0 0 [.ref 103, .int a1, .int a2, .int a3] M Q := by
  unfold fX11_act at h
  refine sp_Mt.of [some (.ref 103), some (.int a1), some (.int a2), some (.int a3)] (by decide) (by simp [sp_ent, Value.category]) rfl ?_
  refine sp_iload_n dX11_act_0 rfl rfl ?_
  by_cases hc1 : a1 = 0
  · have h := (if_pos hc1).symm.trans h
    refine sp_tswI (tgt := 28) dX11_act_1 (by rw [hc1]; decide) (by rw [hc1]; decide) (by rw [hc1]; rfl) (by decide) ?_
    refine sp_aload_n dX11_act_28 rfl rfl ?_
    refine sp_iload_n dX11_act_29 rfl rfl ?_
    refine sp_iload_n dX11_act_30 rfl rfl ?_
    refine sp_use (fun ho => ?_)
    have hs := hG.1 _ ho
    obtain ⟨x2, hx2, h⟩ := Option.bind_eq_some_iff.mp h
    refine sp_cV (M1 := x2.2) (r := some (.int x2.1)) (o := 103) (st := []) (c := 10) (RX11, TX11, 56) [.int a2, .int a3] [.int a3, .int a2, .ref 103] [.int x2.1] dX11_act_31 okX11_callNow tw_1675 tw_1677 tw_68 (by decide) (by decide) rfl (Nat.le_of_ble_eq_true rfl) rfl rfl rfl rfl (wsI_103 hs) (fun Q hQ => tX11_callNow hG hx2 hQ) ?_
    cases h
    exact sp_iret dX11_act_34 (ty := .int) rfl rfl (fun _ => hQ)
  have h := (if_neg hc1).symm.trans h
  by_cases hc3 : a1 = 1
  · have h := (if_pos hc3).symm.trans h
    refine sp_tswI (tgt := 35) dX11_act_1 (by rw [hc3]; decide) (by rw [hc3]; decide) (by rw [hc3]; rfl) (by decide) ?_
    refine sp_aload_n dX11_act_35 rfl rfl ?_
    refine sp_iload_n dX11_act_36 rfl rfl ?_
    refine sp_iload_n dX11_act_37 rfl rfl ?_
    refine sp_use (fun ho => ?_)
    have hs := hG.1 _ ho
    obtain ⟨x4, hx4, h⟩ := Option.bind_eq_some_iff.mp h
    refine sp_cV (M1 := x4.2) (r := some (.int x4.1)) (o := 103) (st := []) (c := 10) (RX11, TX11, 56) [.int a2, .int a3] [.int a3, .int a2, .ref 103] [.int x4.1] dX11_act_38 okX11_walkNow tw_1711 tw_1713 tw_75 (by decide) (by decide) rfl (Nat.le_of_ble_eq_true rfl) rfl rfl rfl rfl (wsI_103 hs) (fun Q hQ => tX11_walkNow hG hx4 hQ) ?_
    cases h
    exact sp_iret dX11_act_41 (ty := .int) rfl rfl (fun _ => hQ)
  have h := (if_neg hc3).symm.trans h
  by_cases hc5 : a1 = 2
  · have h := (if_pos hc5).symm.trans h
    refine sp_tswI (tgt := 42) dX11_act_1 (by rw [hc5]; decide) (by rw [hc5]; decide) (by rw [hc5]; rfl) (by decide) ?_
    refine sp_aload_n dX11_act_42 rfl rfl ?_
    refine sp_iload_n dX11_act_43 rfl rfl ?_
    refine sp_use (fun ho => ?_)
    have hs := hG.1 _ ho
    obtain ⟨x6, hx6, h⟩ := Option.bind_eq_some_iff.mp h
    refine sp_cV (M1 := x6.2) (r := some (.int x6.1)) (o := 103) (st := []) (c := 10) (RX11, TX11, 56) [.int a2] [.int a2, .ref 103] [.int x6.1] dX11_act_44 okX11_wetNow tw_1703 tw_1705 tw_74 (by decide) (by decide) rfl (Nat.le_of_ble_eq_true rfl) rfl rfl rfl rfl (wsI_103 hs) (fun Q hQ => tX11_wetNow hG hx6 hQ) ?_
    cases h
    exact sp_iret dX11_act_47 (ty := .int) rfl rfl (fun _ => hQ)
  have h := (if_neg hc5).symm.trans h
  have hc1 := sp_ne hc1 (show (0 : Int32).toInt = 0 by decide)
  have hc3 := sp_ne hc3 (show (1 : Int32).toInt = 1 by decide)
  have hc5 := sp_ne hc5 (show (2 : Int32).toInt = 2 by decide)
  refine sp_tswO (tgt := 48) dX11_act_1 (by omega) (by decide) ?_
  refine sp_aload_n dX11_act_48 rfl rfl ?_
  refine sp_use (fun ho => ?_)
  have hs := hG.1 _ ho
  obtain ⟨x7, hx7, h⟩ := Option.bind_eq_some_iff.mp h
  refine sp_cV (M1 := x7.2) (r := some (.int x7.1)) (o := 103) (st := []) (c := 10) (RX11, TX11, 56) [] [.ref 103] [.int x7.1] dX11_act_49 okX11_passNow tw_1727 tw_1729 tw_77 (by decide) (by decide) rfl (Nat.le_of_ble_eq_true rfl) rfl rfl rfl rfl (wsI_103 hs) (fun Q hQ => tX11_passNow hG hx7 hQ) ?_
  cases h
  exact sp_iret dX11_act_52 (ty := .int) rfl rfl (fun _ => hQ)
def fX11_run_j162 (F : Nat) (s0 : Int32) (M : sp_Mem) : Option (Int32 × sp_Mem) :=
  sp_do (sp_setI M 103 49 s0) fun M19 => sp_do (sp_setI M19 103 48 ((sp_I M19 103 48) + 1)) fun M20 => some (0, M20)
def fX11_run_j95 (F : Nat) (a1 : Int32) (M : sp_Mem) : Option (Int32 × sp_Mem) :=
  (fX11_sumOf F M (a1 + 1)).bind fun x11 => (fX11_sumOf F x11.2 (a1 + 3)).bind fun x12 => if (sp_I x12.2 103 51) = 0 then ((sp_ix 96 a1).bind fun j14 => (fX11_act F x12.2 (sp_I x12.2 130 j14) x11.1 x12.1).bind fun x15 => if 0 ≤ x15.1 then ((sp_ix 96 a1).bind fun j17 => if (sp_I x15.2 130 j17) = 0 then (fX11_run_j162 F x15.1 x15.2) else (fX11_run_j162 F (sp_I x15.2 103 49) x15.2)) else (some ((-3), x15.2))) else (some ((-3), x12.2))
def fX11_run (F : Nat) (M : sp_Mem) (a1 : Int32) : Option (Int32 × sp_Mem) :=
  sp_do (sp_setL M 122 1 (Int32.toInt64 (sp_I M 105 5))) fun M1 => sp_do (sp_setL M1 122 2 (Int32.toInt64 (sp_I M1 103 48))) fun M2 => sp_do (sp_setL M2 122 3 (Int32.toInt64 (sp_I M2 103 49))) fun M3 => (fX11_looseOnes F M3).bind fun v4 => (fX11_ones F v4).bind fun v5 => sp_do (sp_setL M3 122 4 (Int32.toInt64 v5)) fun M6 => sp_do (sp_setI M6 103 51 0) fun M7 => (sp_ix 96 (a1 + 5)).bind fun j8 => (sp_ix 96 (a1 + 6)).bind fun j9 => if (sp_I M7 130 j9) ≤ (sp_I M7 130 j8) then (fX11_run_j95 F a1 M7) else ((fX11_sumOf F M7 (a1 + 5)).bind fun x21 => if (sp_I x21.2 103 51) = 0 then (if x21.1 = 0 then (some (0, x21.2)) else (fX11_run_j95 F a1 x21.2)) else (some (0, x21.2)))
set_option maxRecDepth 100000 in
set_option maxHeartbeats 4000000 in
theorem tX11_run_j162 {g : sp_G} {Ω : sp_Mem → Prop} {Q : sp_Qt} {F : Nat} {p : (Int32 × sp_Mem)} (hG : sp_Ok Ω)  (hQ : Q (some (.int p.1)) p.2) (s0 : Int32) (M : sp_Mem) (h : fX11_run_j162 F s0 M = some p) : sp_Wp g Ω mX11_run 0 0 162 [some (.ref 103), none, none, none, none] [.int s0, .ref 103] M Q := by
  unfold fX11_run_j162 at h
  refine sp_use (fun ho => ?_)
  have hs := hG.1 _ ho
  obtain ⟨M19, hM19, h⟩ := sp_do_e h
  refine sp_putI2 (RX11, TX11, 56) hG dX11_run_162 clX11 (j := 49) (by decide) tw_1264 rfl (Or.inl rfl) (wsI_103 hs) hM19 ?_
  refine sp_aload_n dX11_run_165 rfl rfl ?_
  refine sp_dup dX11_run_166 rfl ?_
  refine sp_use (fun ho => ?_)
  have hs := hG.1 _ ho
  refine sp_getI (RX11, TX11, 56) dX11_run_167 clX11 (j := 48) (by decide) tw_1263 (wsI_103 hs) (Or.inl rfl) ?_
  refine sp_iconst (v := 1) dX11_run_170 (by decide) ?_
  refine sp_iadd dX11_run_171 ?_
  obtain ⟨M20, hM20, h⟩ := sp_do_e h
  refine sp_putI2 (RX11, TX11, 56) hG dX11_run_172 clX11 (j := 48) (by decide) tw_1263 rfl (Or.inl rfl) (wsI_103 hs) hM20 ?_
  refine sp_iconst (v := 0) dX11_run_175 (by decide) ?_
  cases h
  exact sp_iret dX11_run_176 (ty := .int) rfl rfl (fun _ => hQ)
set_option maxRecDepth 100000 in
set_option maxHeartbeats 4000000 in
theorem tX11_run_j95 {g : sp_G} {Ω : sp_Mem → Prop} {Q : sp_Qt} {F : Nat} {p : (Int32 × sp_Mem)} (hG : sp_Ok Ω)  (hQ : Q (some (.int p.1)) p.2) (a1 : Int32) (M : sp_Mem) (h : fX11_run_j95 F a1 M = some p) : sp_Wp g Ω mX11_run 0 0 95 [some (.ref 103), some (.int a1), none, none, none] [] M Q := by
  unfold fX11_run_j95 at h
  refine sp_aload_n dX11_run_95 rfl rfl ?_
  refine sp_iload_n dX11_run_96 rfl rfl ?_
  refine sp_iconst (v := 1) dX11_run_97 (by decide) ?_
  refine sp_iadd dX11_run_98 ?_
  refine sp_use (fun ho => ?_)
  have hs := hG.1 _ ho
  obtain ⟨x11, hx11, h⟩ := Option.bind_eq_some_iff.mp h
  refine sp_cV (M1 := x11.2) (r := some (.int x11.1)) (o := 103) (st := []) (c := 10) (RX11, TX11, 56) [.int (a1 + 1)] [.int (a1 + 1), .ref 103] [.int x11.1] dX11_run_99 okX11_sumOf tw_1864 tw_1866 tw_94 (by decide) (by decide) rfl (Nat.le_of_ble_eq_true rfl) rfl rfl rfl rfl (wsI_103 hs) (fun Q hQ => tX11_sumOf hG hx11 hQ) ?_
  refine sp_istore_n [some (.ref 103), some (.int a1), some (.int x11.1), none, none] dX11_run_102 rfl (by decide) rfl ?_
  refine sp_aload_n dX11_run_103 rfl rfl ?_
  refine sp_iload_n dX11_run_104 rfl rfl ?_
  refine sp_iconst (v := 3) dX11_run_105 (by decide) ?_
  refine sp_iadd dX11_run_106 ?_
  refine sp_use (fun ho => ?_)
  have hs := hG.1 _ ho
  obtain ⟨x12, hx12, h⟩ := Option.bind_eq_some_iff.mp h
  refine sp_cV (M1 := x12.2) (r := some (.int x12.1)) (o := 103) (st := []) (c := 10) (RX11, TX11, 56) [.int (a1 + 3)] [.int (a1 + 3), .ref 103] [.int x12.1] dX11_run_107 okX11_sumOf tw_1864 tw_1866 tw_94 (by decide) (by decide) rfl (Nat.le_of_ble_eq_true rfl) rfl rfl rfl rfl (wsI_103 hs) (fun Q hQ => tX11_sumOf hG hx12 hQ) ?_
  refine sp_istore_n [some (.ref 103), some (.int a1), some (.int x11.1), some (.int x12.1), none] dX11_run_110 rfl (by decide) rfl ?_
  refine sp_aload_n dX11_run_111 rfl rfl ?_
  refine sp_use (fun ho => ?_)
  have hs := hG.1 _ ho
  refine sp_getI (RX11, TX11, 56) dX11_run_112 clX11 (j := 51) (by decide) tw_1266 (wsI_103 hs) (Or.inr rfl) ?_
  refine sp_if_eq (tgt := 121) dX11_run_115 (by decide) (fun hc13 => ?_) (fun hc13 => ?_)
  · have h := (if_pos hc13).symm.trans h
    refine sp_aload_n dX11_run_121 rfl rfl ?_
    refine sp_aload_n dX11_run_122 rfl rfl ?_
    refine sp_getR (RX11, TX11, 56) dX11_run_123 clX11 (j := 47) (by decide) tw_1262 (wsI_103 hs) (Or.inr ⟨_, rfl⟩) (wsP_103_47 hs) ?_
    refine sp_iload_n dX11_run_126 rfl rfl ?_
    obtain ⟨j14, hj14, h⟩ := Option.bind_eq_some_iff.mp h
    refine sp_iald2 (j := j14) dX11_run_127 (wsA_130 hs) (wsN_130 hs) hj14 ?_
    refine sp_iload_n dX11_run_128 rfl rfl ?_
    refine sp_iload_n dX11_run_129 rfl rfl ?_
    obtain ⟨x15, hx15, h⟩ := Option.bind_eq_some_iff.mp h
    refine sp_cV (M1 := x15.2) (r := some (.int x15.1)) (o := 103) (st := []) (c := 10) (RX11, TX11, 56) [.int (sp_I x12.2 130 j14), .int x11.1, .int x12.1] [.int x12.1, .int x11.1, .int (sp_I x12.2 130 j14), .ref 103] [.int x15.1] dX11_run_130 okX11_act tw_1868 tw_1870 tw_95 (by decide) (by decide) rfl (Nat.le_of_ble_eq_true rfl) rfl rfl rfl rfl (wsI_103 hs) (fun Q hQ => tX11_act hG hx15 hQ) ?_
    refine sp_istore [some (.ref 103), some (.int a1), some (.int x11.1), some (.int x12.1), some (.int x15.1)] dX11_run_133 (by decide) rfl ?_
    refine sp_iload dX11_run_135 rfl ?_
    refine sp_if_ge (tgt := 143) dX11_run_137 (by decide) (fun hc16 => ?_) (fun hc16 => ?_)
    · have h := (if_pos hc16).symm.trans h
      refine sp_aload_n dX11_run_143 rfl rfl ?_
      refine sp_aload_n dX11_run_144 rfl rfl ?_
      refine sp_use (fun ho => ?_)
      have hs := hG.1 _ ho
      refine sp_getR (RX11, TX11, 56) dX11_run_145 clX11 (j := 47) (by decide) tw_1262 (wsI_103 hs) (Or.inr ⟨_, rfl⟩) (wsP_103_47 hs) ?_
      refine sp_iload_n dX11_run_148 rfl rfl ?_
      obtain ⟨j17, hj17, h⟩ := Option.bind_eq_some_iff.mp h
      refine sp_iald2 (j := j17) dX11_run_149 (wsA_130 hs) (wsN_130 hs) hj17 ?_
      refine sp_if_ne (tgt := 158) dX11_run_150 (by decide) (fun hc18 => ?_) (fun hc18 => ?_)
      · have h := (if_neg hc18).symm.trans h
        refine sp_aload_n dX11_run_158 rfl rfl ?_
        refine sp_getI (RX11, TX11, 56) dX11_run_159 clX11 (j := 49) (by decide) tw_1264 (wsI_103 hs) (Or.inl rfl) ?_
        refine sp_weak [true, false, false, false, false] [some (.ref 103), none, none, none, none] rfl ?_
        exact tX11_run_j162 hG hQ _ _ h
      · have h := (if_pos hc18).symm.trans h
        refine sp_iload dX11_run_153 rfl ?_
        refine sp_goto (tgt := 162) dX11_run_155 (by decide) ?_
        refine sp_weak [true, false, false, false, false] [some (.ref 103), none, none, none, none] rfl ?_
        exact tX11_run_j162 hG hQ _ _ h
    · have h := (if_neg hc16).symm.trans h
      refine sp_bipush (v := (-3)) dX11_run_140 (by decide) ?_
      cases h
      exact sp_iret dX11_run_142 (ty := .int) rfl rfl (fun _ => hQ)
  · have h := (if_neg hc13).symm.trans h
    refine sp_bipush (v := (-3)) dX11_run_118 (by decide) ?_
    cases h
    exact sp_iret dX11_run_120 (ty := .int) rfl rfl (fun _ => hQ)
set_option maxRecDepth 100000 in
set_option maxHeartbeats 4000000 in
theorem tX11_run {g : sp_G} {Ω : sp_Mem → Prop} {Q : sp_Qt} {F : Nat} {p : (Int32 × sp_Mem)} (hG : sp_Ok Ω) {M : sp_Mem} {a1 : Int32} (h : fX11_run F M a1 = some p) (hQ : Q (some (.int p.1)) p.2) : sp_Mt g Ω mX11_run 0 0 [.ref 103, .int a1] M Q := by
  unfold fX11_run at h
  refine sp_Mt.of [some (.ref 103), some (.int a1), none, none, none] (by decide) (by simp [sp_ent, Value.category]) rfl ?_
  refine sp_aload_n dX11_run_0 rfl rfl ?_
  refine sp_use (fun ho => ?_)
  have hs := hG.1 _ ho
  refine sp_getR (RX11, TX11, 56) dX11_run_1 clX11 (j := 36) (by decide) tw_1251 (wsI_103 hs) (Or.inr ⟨_, rfl⟩) (wsP_103_36 hs) ?_
  refine sp_iconst (v := 1) dX11_run_4 (by decide) ?_
  refine sp_aload_n dX11_run_5 rfl rfl ?_
  refine sp_getR (RX11, TX11, 56) dX11_run_6 clX11 (j := 3) (by decide) tw_1218 (wsI_103 hs) (Or.inr ⟨_, rfl⟩) (wsP_103_3 hs) ?_
  refine sp_iconst (v := 5) dX11_run_9 (by decide) ?_
  refine sp_iald2 (j := 5) dX11_run_10 (wsA_105 hs) (wsN_105 hs) rfl ?_
  refine sp_i2l dX11_run_11 ?_
  obtain ⟨M1, hM1, h⟩ := sp_do_e h
  refine sp_last2 (j := 1) hG dX11_run_12 (wsA_122 hs) (wsN_122 hs) rfl hM1 ?_
  refine sp_aload_n dX11_run_13 rfl rfl ?_
  refine sp_use (fun ho => ?_)
  have hs := hG.1 _ ho
  refine sp_getR (RX11, TX11, 56) dX11_run_14 clX11 (j := 36) (by decide) tw_1251 (wsI_103 hs) (Or.inr ⟨_, rfl⟩) (wsP_103_36 hs) ?_
  refine sp_iconst (v := 2) dX11_run_17 (by decide) ?_
  refine sp_aload_n dX11_run_18 rfl rfl ?_
  refine sp_getI (RX11, TX11, 56) dX11_run_19 clX11 (j := 48) (by decide) tw_1263 (wsI_103 hs) (Or.inl rfl) ?_
  refine sp_i2l dX11_run_22 ?_
  obtain ⟨M2, hM2, h⟩ := sp_do_e h
  refine sp_last2 (j := 2) hG dX11_run_23 (wsA_122 hs) (wsN_122 hs) rfl hM2 ?_
  refine sp_aload_n dX11_run_24 rfl rfl ?_
  refine sp_use (fun ho => ?_)
  have hs := hG.1 _ ho
  refine sp_getR (RX11, TX11, 56) dX11_run_25 clX11 (j := 36) (by decide) tw_1251 (wsI_103 hs) (Or.inr ⟨_, rfl⟩) (wsP_103_36 hs) ?_
  refine sp_iconst (v := 3) dX11_run_28 (by decide) ?_
  refine sp_aload_n dX11_run_29 rfl rfl ?_
  refine sp_getI (RX11, TX11, 56) dX11_run_30 clX11 (j := 49) (by decide) tw_1264 (wsI_103 hs) (Or.inl rfl) ?_
  refine sp_i2l dX11_run_33 ?_
  obtain ⟨M3, hM3, h⟩ := sp_do_e h
  refine sp_last2 (j := 3) hG dX11_run_34 (wsA_122 hs) (wsN_122 hs) rfl hM3 ?_
  refine sp_aload_n dX11_run_35 rfl rfl ?_
  refine sp_use (fun ho => ?_)
  have hs := hG.1 _ ho
  refine sp_getR (RX11, TX11, 56) dX11_run_36 clX11 (j := 36) (by decide) tw_1251 (wsI_103 hs) (Or.inr ⟨_, rfl⟩) (wsP_103_36 hs) ?_
  refine sp_iconst (v := 4) dX11_run_39 (by decide) ?_
  refine sp_aload_n dX11_run_40 rfl rfl ?_
  obtain ⟨v4, hv4, h⟩ := Option.bind_eq_some_iff.mp h
  refine sp_cV (M1 := M3) (r := some (.int v4)) (o := 103) (st := [.int 4, .ref 122]) (c := 10) (RX11, TX11, 56) [] [.ref 103, .int 4, .ref 122] [.int v4, .int 4, .ref 122] dX11_run_41 okX11_looseOnes tw_1860 tw_1862 tw_93 (by decide) (by decide) rfl (Nat.le_of_ble_eq_true rfl) rfl rfl rfl rfl (wsI_103 hs) (fun Q hQ => tX11_looseOnes hG hv4 hQ) ?_
  obtain ⟨v5, hv5, h⟩ := Option.bind_eq_some_iff.mp h
  refine sp_cS (M1 := M3) (r := some (.int v5)) (st := [.int 4, .ref 122]) [.int v4] [.int v4, .int 4, .ref 122] [.int v5, .int 4, .ref 122] dX11_run_44 okX11_ones tw_1793 tw_1794 (by decide) (by decide) rfl (Nat.le_of_ble_eq_true rfl) rfl rfl (fun Q hQ => tX11_ones hG hv5 hQ) ?_
  refine sp_i2l dX11_run_47 ?_
  obtain ⟨M6, hM6, h⟩ := sp_do_e h
  refine sp_last2 (j := 4) hG dX11_run_48 (wsA_122 hs) (wsN_122 hs) rfl hM6 ?_
  refine sp_aload_n dX11_run_49 rfl rfl ?_
  refine sp_iconst (v := 0) dX11_run_50 (by decide) ?_
  refine sp_use (fun ho => ?_)
  have hs := hG.1 _ ho
  obtain ⟨M7, hM7, h⟩ := sp_do_e h
  refine sp_putI2 (RX11, TX11, 56) hG dX11_run_51 clX11 (j := 51) (by decide) tw_1266 rfl (Or.inr ⟨rfl, (Or.inl rfl)⟩) (wsI_103 hs) hM7 ?_
  refine sp_aload_n dX11_run_54 rfl rfl ?_
  refine sp_use (fun ho => ?_)
  have hs := hG.1 _ ho
  refine sp_getR (RX11, TX11, 56) dX11_run_55 clX11 (j := 47) (by decide) tw_1262 (wsI_103 hs) (Or.inr ⟨_, rfl⟩) (wsP_103_47 hs) ?_
  refine sp_iload_n dX11_run_58 rfl rfl ?_
  refine sp_iconst (v := 5) dX11_run_59 (by decide) ?_
  refine sp_iadd dX11_run_60 ?_
  obtain ⟨j8, hj8, h⟩ := Option.bind_eq_some_iff.mp h
  refine sp_iald2 (j := j8) dX11_run_61 (wsA_130 hs) (wsN_130 hs) hj8 ?_
  refine sp_aload_n dX11_run_62 rfl rfl ?_
  refine sp_getR (RX11, TX11, 56) dX11_run_63 clX11 (j := 47) (by decide) tw_1262 (wsI_103 hs) (Or.inr ⟨_, rfl⟩) (wsP_103_47 hs) ?_
  refine sp_iload_n dX11_run_66 rfl rfl ?_
  refine sp_bipush (v := 6) dX11_run_67 (by decide) ?_
  refine sp_iadd dX11_run_69 ?_
  obtain ⟨j9, hj9, h⟩ := Option.bind_eq_some_iff.mp h
  refine sp_iald2 (j := j9) dX11_run_70 (wsA_130 hs) (wsN_130 hs) hj9 ?_
  refine sp_icmp_ge (tgt := 95) dX11_run_71 (by decide) (fun hc10 => ?_) (fun hc10 => ?_)
  · have h := (if_pos hc10).symm.trans h
    refine sp_weak [true, true, false, false, false] [some (.ref 103), some (.int a1), none, none, none] rfl ?_
    exact tX11_run_j95 hG hQ _ _ h
  · have h := (if_neg hc10).symm.trans h
    refine sp_aload_n dX11_run_74 rfl rfl ?_
    refine sp_iload_n dX11_run_75 rfl rfl ?_
    refine sp_iconst (v := 5) dX11_run_76 (by decide) ?_
    refine sp_iadd dX11_run_77 ?_
    obtain ⟨x21, hx21, h⟩ := Option.bind_eq_some_iff.mp h
    refine sp_cV (M1 := x21.2) (r := some (.int x21.1)) (o := 103) (st := []) (c := 10) (RX11, TX11, 56) [.int (a1 + 5)] [.int (a1 + 5), .ref 103] [.int x21.1] dX11_run_78 okX11_sumOf tw_1864 tw_1866 tw_94 (by decide) (by decide) rfl (Nat.le_of_ble_eq_true rfl) rfl rfl rfl rfl (wsI_103 hs) (fun Q hQ => tX11_sumOf hG hx21 hQ) ?_
    refine sp_istore_n [some (.ref 103), some (.int a1), some (.int x21.1), none, none] dX11_run_81 rfl (by decide) rfl ?_
    refine sp_aload_n dX11_run_82 rfl rfl ?_
    refine sp_use (fun ho => ?_)
    have hs := hG.1 _ ho
    refine sp_getI (RX11, TX11, 56) dX11_run_83 clX11 (j := 51) (by decide) tw_1266 (wsI_103 hs) (Or.inr rfl) ?_
    refine sp_if_ne (tgt := 93) dX11_run_86 (by decide) (fun hc22 => ?_) (fun hc22 => ?_)
    · have h := (if_neg hc22).symm.trans h
      refine sp_iconst (v := 0) dX11_run_93 (by decide) ?_
      cases h
      exact sp_iret dX11_run_94 (ty := .int) rfl rfl (fun _ => hQ)
    · have h := (if_pos hc22).symm.trans h
      refine sp_iload_n dX11_run_89 rfl rfl ?_
      refine sp_if_ne (tgt := 95) dX11_run_90 (by decide) (fun hc23 => ?_) (fun hc23 => ?_)
      · have h := (if_neg hc23).symm.trans h
        refine sp_weak [true, true, false, false, false] [some (.ref 103), some (.int a1), none, none, none] rfl ?_
        exact tX11_run_j95 hG hQ _ _ h
      · have h := (if_pos hc23).symm.trans h
        refine sp_iconst (v := 0) dX11_run_93 (by decide) ?_
        cases h
        exact sp_iret dX11_run_94 (ty := .int) rfl rfl (fun _ => hQ)
def fX11_giveBack_l8 (F : Nat) (kx : Int32 → sp_Mem → Option sp_Mem) : Nat → Int32 → Int32 → sp_Mem → Option sp_Mem
  | 0, _, _, _ => none
  | n + 1, a1, a2, M =>
  if 736 ≤ a2 then (kx a1 M) else ((sp_ix 736 a2).bind fun j3 => (sp_ix 828 a2).bind fun j4 => sp_do (sp_setI M 108 j4 (sp_I M 110 j3)) fun M5 => (fX11_giveBack_l8 F kx n) a1 (a2 + 1) M5)
def fX11_giveBack_l35 (F : Nat) (kx : Int32 → sp_Mem → Option sp_Mem) : Nat → Int32 → Int32 → sp_Mem → Option sp_Mem
  | 0, _, _, _ => none
  | n + 1, a1, a2, M =>
  if 16 ≤ a2 then (kx a1 M) else ((sp_ix 16 a2).bind fun j9 => (sp_ix 16 a2).bind fun j10 => sp_do (sp_setI M 109 j10 (sp_I M 111 j9)) fun M11 => (fX11_giveBack_l35 F kx n) a1 (a2 + 1) M11)
def fX11_giveBack (F : Nat) (M : sp_Mem) (a1 : Int32) : Option sp_Mem :=
  (fX11_putBack F M 17).bind fun M1 => fX11_giveBack_l8 F (fun b7 M6 => fX11_giveBack_l35 F (fun b13 M12 => sp_do (sp_setI M12 103 8 b13) fun M14 => some M14) F b7 0 M6) F a1 0 M1
set_option maxRecDepth 100000 in
set_option maxHeartbeats 4000000 in
theorem tX11_giveBack_l8 {g : sp_G} {Ω : sp_Mem → Prop} {Q : sp_Qt} {F : Nat} {p : sp_Mem} (hG : sp_Ok Ω)  {kx : Int32 → sp_Mem → Option sp_Mem} (hQ : Q none p) (hx : ∀ (a1 : Int32) (M : sp_Mem), kx a1 M = some p → sp_Wp g Ω mX11_giveBack 0 0 33 [some (.ref 103), some (.int a1), none] [] M Q) : ∀ (n : Nat) (a1 : Int32) (a2 : Int32) (M : sp_Mem), fX11_giveBack_l8 F kx n a1 a2 M = some p → sp_Wp g Ω mX11_giveBack 0 0 8 [some (.ref 103), some (.int a1), some (.int a2)] [] M Q := by
  intro n
  induction n with
  | zero =>
    intro a1 a2 M h
    rw [fX11_giveBack_l8] at h
    cases h
  | succ n ih =>
    intro a1 a2 M h
    rw [fX11_giveBack_l8] at h
    refine sp_iload_n dX11_giveBack_8 rfl rfl ?_
    refine sp_sipush (v := 736) dX11_giveBack_9 (by decide) ?_
    refine sp_icmp_ge (tgt := 33) dX11_giveBack_12 (by decide) (fun hc2 => ?_) (fun hc2 => ?_)
    · have h := (if_pos hc2).symm.trans h
      refine sp_weak [true, true, false] [some (.ref 103), some (.int a1), none] rfl ?_
      exact hx _ _ h
    · have h := (if_neg hc2).symm.trans h
      refine sp_aload_n dX11_giveBack_15 rfl rfl ?_
      refine sp_use (fun ho => ?_)
      have hs := hG.1 _ ho
      refine sp_getR (RX11, TX11, 56) dX11_giveBack_16 clX11 (j := 6) (by decide) tw_1221 (wsI_103 hs) (Or.inr ⟨_, rfl⟩) (wsP_103_6 hs) ?_
      refine sp_iload_n dX11_giveBack_19 rfl rfl ?_
      refine sp_aload_n dX11_giveBack_20 rfl rfl ?_
      refine sp_getR (RX11, TX11, 56) dX11_giveBack_21 clX11 (j := 9) (by decide) tw_1224 (wsI_103 hs) (Or.inr ⟨_, rfl⟩) (wsP_103_9 hs) ?_
      refine sp_iload_n dX11_giveBack_24 rfl rfl ?_
      obtain ⟨j3, hj3, h⟩ := Option.bind_eq_some_iff.mp h
      refine sp_iald2 (j := j3) dX11_giveBack_25 (wsA_110 hs) (wsN_110 hs) hj3 ?_
      obtain ⟨j4, hj4, h⟩ := Option.bind_eq_some_iff.mp h
      obtain ⟨M5, hM5, h⟩ := sp_do_e h
      refine sp_iast2 (j := j4) hG dX11_giveBack_26 (wsA_108 hs) (wsN_108 hs) hj4 hM5 ?_
      refine sp_iinc (v := (a2 + 1)) [some (.ref 103), some (.int a1), some (.int (a2 + 1))] dX11_giveBack_27 rfl rfl (by decide) rfl ?_
      refine sp_goto (tgt := 8) dX11_giveBack_30 (by decide) ?_
      refine sp_weak [true, true, true] [some (.ref 103), some (.int a1), some (.int (a2 + 1))] rfl ?_
      exact ih _ _ _ h
set_option maxRecDepth 100000 in
set_option maxHeartbeats 4000000 in
theorem tX11_giveBack_l35 {g : sp_G} {Ω : sp_Mem → Prop} {Q : sp_Qt} {F : Nat} {p : sp_Mem} (hG : sp_Ok Ω)  {kx : Int32 → sp_Mem → Option sp_Mem} (hQ : Q none p) (hx : ∀ (a1 : Int32) (M : sp_Mem), kx a1 M = some p → sp_Wp g Ω mX11_giveBack 0 0 59 [some (.ref 103), some (.int a1), none] [] M Q) : ∀ (n : Nat) (a1 : Int32) (a2 : Int32) (M : sp_Mem), fX11_giveBack_l35 F kx n a1 a2 M = some p → sp_Wp g Ω mX11_giveBack 0 0 35 [some (.ref 103), some (.int a1), some (.int a2)] [] M Q := by
  intro n
  induction n with
  | zero =>
    intro a1 a2 M h
    rw [fX11_giveBack_l35] at h
    cases h
  | succ n ih =>
    intro a1 a2 M h
    rw [fX11_giveBack_l35] at h
    refine sp_iload_n dX11_giveBack_35 rfl rfl ?_
    refine sp_bipush (v := 16) dX11_giveBack_36 (by decide) ?_
    refine sp_icmp_ge (tgt := 59) dX11_giveBack_38 (by decide) (fun hc8 => ?_) (fun hc8 => ?_)
    · have h := (if_pos hc8).symm.trans h
      refine sp_weak [true, true, false] [some (.ref 103), some (.int a1), none] rfl ?_
      exact hx _ _ h
    · have h := (if_neg hc8).symm.trans h
      refine sp_aload_n dX11_giveBack_41 rfl rfl ?_
      refine sp_use (fun ho => ?_)
      have hs := hG.1 _ ho
      refine sp_getR (RX11, TX11, 56) dX11_giveBack_42 clX11 (j := 7) (by decide) tw_1222 (wsI_103 hs) (Or.inr ⟨_, rfl⟩) (wsP_103_7 hs) ?_
      refine sp_iload_n dX11_giveBack_45 rfl rfl ?_
      refine sp_aload_n dX11_giveBack_46 rfl rfl ?_
      refine sp_getR (RX11, TX11, 56) dX11_giveBack_47 clX11 (j := 10) (by decide) tw_1225 (wsI_103 hs) (Or.inr ⟨_, rfl⟩) (wsP_103_10 hs) ?_
      refine sp_iload_n dX11_giveBack_50 rfl rfl ?_
      obtain ⟨j9, hj9, h⟩ := Option.bind_eq_some_iff.mp h
      refine sp_iald2 (j := j9) dX11_giveBack_51 (wsA_111 hs) (wsN_111 hs) hj9 ?_
      obtain ⟨j10, hj10, h⟩ := Option.bind_eq_some_iff.mp h
      obtain ⟨M11, hM11, h⟩ := sp_do_e h
      refine sp_iast2 (j := j10) hG dX11_giveBack_52 (wsA_109 hs) (wsN_109 hs) hj10 hM11 ?_
      refine sp_iinc (v := (a2 + 1)) [some (.ref 103), some (.int a1), some (.int (a2 + 1))] dX11_giveBack_53 rfl rfl (by decide) rfl ?_
      refine sp_goto (tgt := 35) dX11_giveBack_56 (by decide) ?_
      refine sp_weak [true, true, true] [some (.ref 103), some (.int a1), some (.int (a2 + 1))] rfl ?_
      exact ih _ _ _ h
set_option maxRecDepth 100000 in
set_option maxHeartbeats 4000000 in
theorem tX11_giveBack {g : sp_G} {Ω : sp_Mem → Prop} {Q : sp_Qt} {F : Nat} {p : sp_Mem} (hG : sp_Ok Ω) {M : sp_Mem} {a1 : Int32} (h : fX11_giveBack F M a1 = some p) (hQ : Q none p) : sp_Mt g Ω mX11_giveBack 0 0 [.ref 103, .int a1] M Q := by
  unfold fX11_giveBack at h
  refine sp_Mt.of [some (.ref 103), some (.int a1), none] (by decide) (by simp [sp_ent, Value.category]) rfl ?_
  refine sp_aload_n dX11_giveBack_0 rfl rfl ?_
  refine sp_bipush (v := 17) dX11_giveBack_1 (by decide) ?_
  refine sp_use (fun ho => ?_)
  have hs := hG.1 _ ho
  obtain ⟨M1, hM1, h⟩ := Option.bind_eq_some_iff.mp h
  refine sp_cV (M1 := M1) (r := none) (o := 103) (st := []) (c := 10) (RX11, TX11, 56) [.int 17] [.int 17, .ref 103] [] dX11_giveBack_3 okX11_putBack tw_1392 tw_1394 tw_28 (by decide) (by decide) rfl (Nat.le_of_ble_eq_true rfl) rfl rfl rfl rfl (wsI_103 hs) (fun Q hQ => tX11_putBack hG hM1 hQ) ?_
  refine sp_iconst (v := 0) dX11_giveBack_6 (by decide) ?_
  refine sp_istore_n [some (.ref 103), some (.int a1), some (.int 0)] dX11_giveBack_7 rfl (by decide) rfl ?_
  refine sp_weak [true, true, true] [some (.ref 103), some (.int a1), some (.int 0)] rfl ?_
  refine tX11_giveBack_l8 hG hQ (fun b7 M6 h => ?_) F _ _ _ h
  refine sp_iconst (v := 0) dX11_giveBack_33 (by decide) ?_
  refine sp_istore_n [some (.ref 103), some (.int b7), some (.int 0)] dX11_giveBack_34 rfl (by decide) rfl ?_
  refine sp_weak [true, true, true] [some (.ref 103), some (.int b7), some (.int 0)] rfl ?_
  refine tX11_giveBack_l35 hG hQ (fun b13 M12 h => ?_) F _ _ _ h
  refine sp_aload_n dX11_giveBack_59 rfl rfl ?_
  refine sp_iload_n dX11_giveBack_60 rfl rfl ?_
  refine sp_use (fun ho => ?_)
  have hs := hG.1 _ ho
  obtain ⟨M14, hM14, h⟩ := sp_do_e h
  refine sp_putI2 (RX11, TX11, 56) hG dX11_giveBack_61 clX11 (j := 8) (by decide) tw_1223 rfl (Or.inl rfl) (wsI_103 hs) hM14 ?_
  cases h
  exact sp_vret dX11_giveBack_64 rfl (fun _ => hQ)
def fX11_orders_l19 (F : Nat) (kx : sp_Mem → Option (Int32 × sp_Mem)) : Nat → sp_Mem → Option (Int32 × sp_Mem)
  | 0, _ => none
  | n + 1, M =>
  if (sp_I M 103 19) = 0 then (if (fX11_isSign M 59) = 0 then (kx M) else ((fX11_next F M).bind fun M7 => (fX11_readOrder F M7).bind fun M8 => (fX11_orders_l19 F kx n) M8)) else (kx M)
def fX11_orders_l77 (F : Nat) (kx : Int32 → sp_Mem → Option (Int32 × sp_Mem)) : Nat → Int32 → Int32 → sp_Mem → Option (Int32 × sp_Mem)
  | 0, _, _, _ => none
  | n + 1, a1, a2, M =>
  if 736 ≤ a2 then (kx a1 M) else ((sp_ix 828 a2).bind fun j15 => (sp_ix 736 a2).bind fun j16 => sp_do (sp_setI M 110 j16 (sp_I M 108 j15)) fun M17 => (fX11_orders_l77 F kx n) a1 (a2 + 1) M17)
def fX11_orders_l104 (F : Nat) (kx : Int32 → sp_Mem → Option (Int32 × sp_Mem)) : Nat → Int32 → Int32 → sp_Mem → Option (Int32 × sp_Mem)
  | 0, _, _, _ => none
  | n + 1, a1, a2, M =>
  if 16 ≤ a2 then (kx a1 M) else ((sp_ix 16 a2).bind fun j21 => (sp_ix 16 a2).bind fun j22 => sp_do (sp_setI M 111 j22 (sp_I M 109 j21)) fun M23 => (fX11_orders_l104 F kx n) a1 (a2 + 1) M23)
def fX11_orders_l150 (F : Nat) (kx : Int32 → Int32 → sp_Mem → Option (Int32 × sp_Mem)) : Nat → Int32 → Int32 → Int32 → sp_Mem → Option (Int32 × sp_Mem)
  | 0, _, _, _, _ => none
  | n + 1, a1, a2, a3, M =>
  (sp_ix 96 ((8 * a2) + 7)).bind fun j29 => if (sp_I M 130 j29) ≤ a3 then (kx a1 a2 M) else ((fX11_run F M (8 * a2)).bind fun x31 => if 0 ≤ x31.1 then ((fX11_orders_l150 F kx n) a1 a2 (a3 + 1) x31.2) else ((fX11_giveBack F x31.2 a1).bind fun M33 => sp_do (sp_setI M33 103 50 a2) fun M34 => (fX11_tell M34 (-3)).bind fun x35 => some (x35.1, x35.2)))
def fX11_orders_l140 (F : Nat) (kx : sp_Mem → Option (Int32 × sp_Mem)) : Nat → Int32 → Int32 → sp_Mem → Option (Int32 × sp_Mem)
  | 0, _, _, _ => none
  | n + 1, a1, a2, M =>
  if (sp_I M 103 21) ≤ a2 then (kx M) else (fX11_orders_l150 F (fun b37 b38 M36 => (fX11_orders_l140 F kx n) b37 (b38 + 1) M36) F a1 a2 0 M)
def fX11_orders_j46 (F : Nat) (M : sp_Mem) : Option (Int32 × sp_Mem) :=
  (fX11_endText F M).bind fun M10 => if (sp_I M10 103 19) = 0 then ((fX11_keepAll F M10 17).bind fun M12 => sp_do ((sp_I M12 103 8)) fun u13 => fX11_orders_l77 F (fun b19 M18 => fX11_orders_l104 F (fun b25 M24 => sp_do (sp_setI M24 103 48 0) fun M26 => sp_do (sp_setI M26 103 49 (-1)) fun M27 => fX11_orders_l140 F (fun M39 => (fX11_tell M39 (sp_I M39 103 48)).bind fun x40 => some (x40.1, x40.2)) F b25 0 M27) F b19 0 M18) F u13 0 M12) else ((fX11_tell M10 (-6)).bind fun x41 => some (x41.1, x41.2))
def fX11_orders (F : Nat) (M : sp_Mem) : Option (Int32 × sp_Mem) :=
  sp_do (sp_setI M 103 0 0) fun M1 => sp_do (sp_setI M1 103 50 (-1)) fun M2 => (fX11_beginText F M2 1).bind fun M3 => (fX11_readOrder F M3).bind fun M4 => fX11_orders_l19 F (fun M9 => fX11_orders_j46 F M9) F M4
set_option maxRecDepth 100000 in
set_option maxHeartbeats 4000000 in
theorem tX11_orders_l19 {g : sp_G} {Ω : sp_Mem → Prop} {Q : sp_Qt} {F : Nat} {p : (Int32 × sp_Mem)} (hG : sp_Ok Ω)  {kx : sp_Mem → Option (Int32 × sp_Mem)} (hQ : Q (some (.int p.1)) p.2) (hx : ∀  (M : sp_Mem), kx M = some p → sp_Wp g Ω mX11_orders 0 0 46 [some (.ref 103), none, none, none] [] M Q) : ∀ (n : Nat)  (M : sp_Mem), fX11_orders_l19 F kx n M = some p → sp_Wp g Ω mX11_orders 0 0 19 [some (.ref 103), none, none, none] [] M Q := by
  intro n
  induction n with
  | zero =>
    intro M h
    rw [fX11_orders_l19] at h
    cases h
  | succ n ih =>
    intro M h
    rw [fX11_orders_l19] at h
    refine sp_aload_n dX11_orders_19 rfl rfl ?_
    refine sp_use (fun ho => ?_)
    have hs := hG.1 _ ho
    refine sp_getI (RX11, TX11, 56) dX11_orders_20 clX11 (j := 19) (by decide) tw_1234 (wsI_103 hs) (Or.inr rfl) ?_
    refine sp_if_ne (tgt := 46) dX11_orders_23 (by decide) (fun hc5 => ?_) (fun hc5 => ?_)
    · have h := (if_neg hc5).symm.trans h
      refine sp_weak [true, false, false, false] [some (.ref 103), none, none, none] rfl ?_
      exact hx _ h
    · have h := (if_pos hc5).symm.trans h
      refine sp_aload_n dX11_orders_26 rfl rfl ?_
      refine sp_bipush (v := 59) dX11_orders_27 (by decide) ?_
      refine sp_cV (M1 := M) (r := some (.int (fX11_isSign M 59))) (o := 103) (st := []) (c := 10) (RX11, TX11, 56) [.int 59] [.int 59, .ref 103] [.int (fX11_isSign M 59)] dX11_orders_29 okX11_isSign tw_1597 tw_1599 tw_53 (by decide) (by decide) rfl (Nat.le_of_ble_eq_true rfl) rfl rfl rfl rfl (wsI_103 hs) (fun Q hQ => tX11_isSign hG rfl hQ) ?_
      refine sp_if_eq (tgt := 46) dX11_orders_32 (by decide) (fun hc6 => ?_) (fun hc6 => ?_)
      · have h := (if_pos hc6).symm.trans h
        refine sp_weak [true, false, false, false] [some (.ref 103), none, none, none] rfl ?_
        exact hx _ h
      · have h := (if_neg hc6).symm.trans h
        refine sp_aload_n dX11_orders_35 rfl rfl ?_
        obtain ⟨M7, hM7, h⟩ := Option.bind_eq_some_iff.mp h
        refine sp_cV (M1 := M7) (r := none) (o := 103) (st := []) (c := 10) (RX11, TX11, 56) [] [.ref 103] [] dX11_orders_36 okX11_next tw_1557 tw_1559 tw_46 (by decide) (by decide) rfl (Nat.le_of_ble_eq_true rfl) rfl rfl rfl rfl (wsI_103 hs) (fun Q hQ => tX11_next hG hM7 hQ) ?_
        refine sp_aload_n dX11_orders_39 rfl rfl ?_
        refine sp_use (fun ho => ?_)
        have hs := hG.1 _ ho
        obtain ⟨M8, hM8, h⟩ := Option.bind_eq_some_iff.mp h
        refine sp_cV (M1 := M8) (r := none) (o := 103) (st := []) (c := 10) (RX11, TX11, 56) [] [.ref 103] [] dX11_orders_40 okX11_readOrder tw_1845 tw_1847 tw_90 (by decide) (by decide) rfl (Nat.le_of_ble_eq_true rfl) rfl rfl rfl rfl (wsI_103 hs) (fun Q hQ => tX11_readOrder hG hM8 hQ) ?_
        refine sp_goto (tgt := 19) dX11_orders_43 (by decide) ?_
        refine sp_weak [true, false, false, false] [some (.ref 103), none, none, none] rfl ?_
        exact ih _ h
set_option maxRecDepth 100000 in
set_option maxHeartbeats 4000000 in
theorem tX11_orders_l77 {g : sp_G} {Ω : sp_Mem → Prop} {Q : sp_Qt} {F : Nat} {p : (Int32 × sp_Mem)} (hG : sp_Ok Ω)  {kx : Int32 → sp_Mem → Option (Int32 × sp_Mem)} (hQ : Q (some (.int p.1)) p.2) (hx : ∀ (a1 : Int32) (M : sp_Mem), kx a1 M = some p → sp_Wp g Ω mX11_orders 0 0 102 [some (.ref 103), some (.int a1), none, none] [] M Q) : ∀ (n : Nat) (a1 : Int32) (a2 : Int32) (M : sp_Mem), fX11_orders_l77 F kx n a1 a2 M = some p → sp_Wp g Ω mX11_orders 0 0 77 [some (.ref 103), some (.int a1), some (.int a2), none] [] M Q := by
  intro n
  induction n with
  | zero =>
    intro a1 a2 M h
    rw [fX11_orders_l77] at h
    cases h
  | succ n ih =>
    intro a1 a2 M h
    rw [fX11_orders_l77] at h
    refine sp_iload_n dX11_orders_77 rfl rfl ?_
    refine sp_sipush (v := 736) dX11_orders_78 (by decide) ?_
    refine sp_icmp_ge (tgt := 102) dX11_orders_81 (by decide) (fun hc14 => ?_) (fun hc14 => ?_)
    · have h := (if_pos hc14).symm.trans h
      refine sp_weak [true, true, false, false] [some (.ref 103), some (.int a1), none, none] rfl ?_
      exact hx _ _ h
    · have h := (if_neg hc14).symm.trans h
      refine sp_aload_n dX11_orders_84 rfl rfl ?_
      refine sp_use (fun ho => ?_)
      have hs := hG.1 _ ho
      refine sp_getR (RX11, TX11, 56) dX11_orders_85 clX11 (j := 9) (by decide) tw_1224 (wsI_103 hs) (Or.inr ⟨_, rfl⟩) (wsP_103_9 hs) ?_
      refine sp_iload_n dX11_orders_88 rfl rfl ?_
      refine sp_aload_n dX11_orders_89 rfl rfl ?_
      refine sp_getR (RX11, TX11, 56) dX11_orders_90 clX11 (j := 6) (by decide) tw_1221 (wsI_103 hs) (Or.inr ⟨_, rfl⟩) (wsP_103_6 hs) ?_
      refine sp_iload_n dX11_orders_93 rfl rfl ?_
      obtain ⟨j15, hj15, h⟩ := Option.bind_eq_some_iff.mp h
      refine sp_iald2 (j := j15) dX11_orders_94 (wsA_108 hs) (wsN_108 hs) hj15 ?_
      obtain ⟨j16, hj16, h⟩ := Option.bind_eq_some_iff.mp h
      obtain ⟨M17, hM17, h⟩ := sp_do_e h
      refine sp_iast2 (j := j16) hG dX11_orders_95 (wsA_110 hs) (wsN_110 hs) hj16 hM17 ?_
      refine sp_iinc (v := (a2 + 1)) [some (.ref 103), some (.int a1), some (.int (a2 + 1)), none] dX11_orders_96 rfl rfl (by decide) rfl ?_
      refine sp_goto (tgt := 77) dX11_orders_99 (by decide) ?_
      refine sp_weak [true, true, true, false] [some (.ref 103), some (.int a1), some (.int (a2 + 1)), none] rfl ?_
      exact ih _ _ _ h
set_option maxRecDepth 100000 in
set_option maxHeartbeats 4000000 in
theorem tX11_orders_l104 {g : sp_G} {Ω : sp_Mem → Prop} {Q : sp_Qt} {F : Nat} {p : (Int32 × sp_Mem)} (hG : sp_Ok Ω)  {kx : Int32 → sp_Mem → Option (Int32 × sp_Mem)} (hQ : Q (some (.int p.1)) p.2) (hx : ∀ (a1 : Int32) (M : sp_Mem), kx a1 M = some p → sp_Wp g Ω mX11_orders 0 0 128 [some (.ref 103), some (.int a1), none, none] [] M Q) : ∀ (n : Nat) (a1 : Int32) (a2 : Int32) (M : sp_Mem), fX11_orders_l104 F kx n a1 a2 M = some p → sp_Wp g Ω mX11_orders 0 0 104 [some (.ref 103), some (.int a1), some (.int a2), none] [] M Q := by
  intro n
  induction n with
  | zero =>
    intro a1 a2 M h
    rw [fX11_orders_l104] at h
    cases h
  | succ n ih =>
    intro a1 a2 M h
    rw [fX11_orders_l104] at h
    refine sp_iload_n dX11_orders_104 rfl rfl ?_
    refine sp_bipush (v := 16) dX11_orders_105 (by decide) ?_
    refine sp_icmp_ge (tgt := 128) dX11_orders_107 (by decide) (fun hc20 => ?_) (fun hc20 => ?_)
    · have h := (if_pos hc20).symm.trans h
      refine sp_weak [true, true, false, false] [some (.ref 103), some (.int a1), none, none] rfl ?_
      exact hx _ _ h
    · have h := (if_neg hc20).symm.trans h
      refine sp_aload_n dX11_orders_110 rfl rfl ?_
      refine sp_use (fun ho => ?_)
      have hs := hG.1 _ ho
      refine sp_getR (RX11, TX11, 56) dX11_orders_111 clX11 (j := 10) (by decide) tw_1225 (wsI_103 hs) (Or.inr ⟨_, rfl⟩) (wsP_103_10 hs) ?_
      refine sp_iload_n dX11_orders_114 rfl rfl ?_
      refine sp_aload_n dX11_orders_115 rfl rfl ?_
      refine sp_getR (RX11, TX11, 56) dX11_orders_116 clX11 (j := 7) (by decide) tw_1222 (wsI_103 hs) (Or.inr ⟨_, rfl⟩) (wsP_103_7 hs) ?_
      refine sp_iload_n dX11_orders_119 rfl rfl ?_
      obtain ⟨j21, hj21, h⟩ := Option.bind_eq_some_iff.mp h
      refine sp_iald2 (j := j21) dX11_orders_120 (wsA_109 hs) (wsN_109 hs) hj21 ?_
      obtain ⟨j22, hj22, h⟩ := Option.bind_eq_some_iff.mp h
      obtain ⟨M23, hM23, h⟩ := sp_do_e h
      refine sp_iast2 (j := j22) hG dX11_orders_121 (wsA_111 hs) (wsN_111 hs) hj22 hM23 ?_
      refine sp_iinc (v := (a2 + 1)) [some (.ref 103), some (.int a1), some (.int (a2 + 1)), none] dX11_orders_122 rfl rfl (by decide) rfl ?_
      refine sp_goto (tgt := 104) dX11_orders_125 (by decide) ?_
      refine sp_weak [true, true, true, false] [some (.ref 103), some (.int a1), some (.int (a2 + 1)), none] rfl ?_
      exact ih _ _ _ h
set_option maxRecDepth 100000 in
set_option maxHeartbeats 4000000 in
theorem tX11_orders_l150 {g : sp_G} {Ω : sp_Mem → Prop} {Q : sp_Qt} {F : Nat} {p : (Int32 × sp_Mem)} (hG : sp_Ok Ω)  {kx : Int32 → Int32 → sp_Mem → Option (Int32 × sp_Mem)} (hQ : Q (some (.int p.1)) p.2) (hx : ∀ (a1 : Int32) (a2 : Int32) (M : sp_Mem), kx a1 a2 M = some p → sp_Wp g Ω mX11_orders 0 0 200 [some (.ref 103), some (.int a1), some (.int a2), none] [] M Q) : ∀ (n : Nat) (a1 : Int32) (a2 : Int32) (a3 : Int32) (M : sp_Mem), fX11_orders_l150 F kx n a1 a2 a3 M = some p → sp_Wp g Ω mX11_orders 0 0 150 [some (.ref 103), some (.int a1), some (.int a2), some (.int a3)] [] M Q := by
  intro n
  induction n with
  | zero =>
    intro a1 a2 a3 M h
    rw [fX11_orders_l150] at h
    cases h
  | succ n ih =>
    intro a1 a2 a3 M h
    rw [fX11_orders_l150] at h
    refine sp_iload_n dX11_orders_150 rfl rfl ?_
    refine sp_aload_n dX11_orders_151 rfl rfl ?_
    refine sp_use (fun ho => ?_)
    have hs := hG.1 _ ho
    refine sp_getR (RX11, TX11, 56) dX11_orders_152 clX11 (j := 47) (by decide) tw_1262 (wsI_103 hs) (Or.inr ⟨_, rfl⟩) (wsP_103_47 hs) ?_
    refine sp_bipush (v := 8) dX11_orders_155 (by decide) ?_
    refine sp_iload_n dX11_orders_157 rfl rfl ?_
    refine sp_imul dX11_orders_158 ?_
    refine sp_bipush (v := 7) dX11_orders_159 (by decide) ?_
    refine sp_iadd dX11_orders_161 ?_
    obtain ⟨j29, hj29, h⟩ := Option.bind_eq_some_iff.mp h
    refine sp_iald2 (j := j29) dX11_orders_162 (wsA_130 hs) (wsN_130 hs) hj29 ?_
    refine sp_icmp_ge (tgt := 200) dX11_orders_163 (by decide) (fun hc30 => ?_) (fun hc30 => ?_)
    · have h := (if_pos hc30).symm.trans h
      refine sp_weak [true, true, true, false] [some (.ref 103), some (.int a1), some (.int a2), none] rfl ?_
      exact hx _ _ _ h
    · have h := (if_neg hc30).symm.trans h
      refine sp_aload_n dX11_orders_166 rfl rfl ?_
      refine sp_bipush (v := 8) dX11_orders_167 (by decide) ?_
      refine sp_iload_n dX11_orders_169 rfl rfl ?_
      refine sp_imul dX11_orders_170 ?_
      obtain ⟨x31, hx31, h⟩ := Option.bind_eq_some_iff.mp h
      refine sp_cV (M1 := x31.2) (r := some (.int x31.1)) (o := 103) (st := []) (c := 10) (RX11, TX11, 56) [.int (8 * a2)] [.int (8 * a2), .ref 103] [.int x31.1] dX11_orders_171 okX11_run tw_1856 tw_1858 tw_92 (by decide) (by decide) rfl (Nat.le_of_ble_eq_true rfl) rfl rfl rfl rfl (wsI_103 hs) (fun Q hQ => tX11_run hG hx31 hQ) ?_
      refine sp_if_ge (tgt := 194) dX11_orders_174 (by decide) (fun hc32 => ?_) (fun hc32 => ?_)
      · have h := (if_pos hc32).symm.trans h
        refine sp_iinc (v := (a3 + 1)) [some (.ref 103), some (.int a1), some (.int a2), some (.int (a3 + 1))] dX11_orders_194 rfl rfl (by decide) rfl ?_
        refine sp_goto (tgt := 150) dX11_orders_197 (by decide) ?_
        refine sp_weak [true, true, true, true] [some (.ref 103), some (.int a1), some (.int a2), some (.int (a3 + 1))] rfl ?_
        exact ih _ _ _ _ h
      · have h := (if_neg hc32).symm.trans h
        refine sp_aload_n dX11_orders_177 rfl rfl ?_
        refine sp_iload_n dX11_orders_178 rfl rfl ?_
        refine sp_use (fun ho => ?_)
        have hs := hG.1 _ ho
        obtain ⟨M33, hM33, h⟩ := Option.bind_eq_some_iff.mp h
        refine sp_cV (M1 := M33) (r := none) (o := 103) (st := []) (c := 10) (RX11, TX11, 56) [.int a1] [.int a1, .ref 103] [] dX11_orders_179 okX11_giveBack tw_1872 tw_1874 tw_96 (by decide) (by decide) rfl (Nat.le_of_ble_eq_true rfl) rfl rfl rfl rfl (wsI_103 hs) (fun Q hQ => tX11_giveBack hG hM33 hQ) ?_
        refine sp_aload_n dX11_orders_182 rfl rfl ?_
        refine sp_iload_n dX11_orders_183 rfl rfl ?_
        refine sp_use (fun ho => ?_)
        have hs := hG.1 _ ho
        obtain ⟨M34, hM34, h⟩ := sp_do_e h
        refine sp_putI2 (RX11, TX11, 56) hG dX11_orders_184 clX11 (j := 50) (by decide) tw_1265 rfl (Or.inl rfl) (wsI_103 hs) hM34 ?_
        refine sp_aload_n dX11_orders_187 rfl rfl ?_
        refine sp_bipush (v := (-3)) dX11_orders_188 (by decide) ?_
        refine sp_use (fun ho => ?_)
        have hs := hG.1 _ ho
        obtain ⟨x35, hx35, h⟩ := Option.bind_eq_some_iff.mp h
        refine sp_cV (M1 := x35.2) (r := some (.int x35.1)) (o := 103) (st := []) (c := 10) (RX11, TX11, 56) [.int (-3)] [.int (-3), .ref 103] [.int x35.1] dX11_orders_190 okX11_tell tw_1388 tw_1390 tw_27 (by decide) (by decide) rfl (Nat.le_of_ble_eq_true rfl) rfl rfl rfl rfl (wsI_103 hs) (fun Q hQ => tX11_tell hG hx35 hQ) ?_
        cases h
        exact sp_iret dX11_orders_193 (ty := .int) rfl rfl (fun _ => hQ)
set_option maxRecDepth 100000 in
set_option maxHeartbeats 4000000 in
theorem tX11_orders_l140 {g : sp_G} {Ω : sp_Mem → Prop} {Q : sp_Qt} {F : Nat} {p : (Int32 × sp_Mem)} (hG : sp_Ok Ω)  {kx : sp_Mem → Option (Int32 × sp_Mem)} (hQ : Q (some (.int p.1)) p.2) (hx : ∀  (M : sp_Mem), kx M = some p → sp_Wp g Ω mX11_orders 0 0 206 [some (.ref 103), none, none, none] [] M Q) : ∀ (n : Nat) (a1 : Int32) (a2 : Int32) (M : sp_Mem), fX11_orders_l140 F kx n a1 a2 M = some p → sp_Wp g Ω mX11_orders 0 0 140 [some (.ref 103), some (.int a1), some (.int a2), none] [] M Q := by
  intro n
  induction n with
  | zero =>
    intro a1 a2 M h
    rw [fX11_orders_l140] at h
    cases h
  | succ n ih =>
    intro a1 a2 M h
    rw [fX11_orders_l140] at h
    refine sp_iload_n dX11_orders_140 rfl rfl ?_
    refine sp_aload_n dX11_orders_141 rfl rfl ?_
    refine sp_use (fun ho => ?_)
    have hs := hG.1 _ ho
    refine sp_getI (RX11, TX11, 56) dX11_orders_142 clX11 (j := 21) (by decide) tw_1236 (wsI_103 hs) (Or.inl rfl) ?_
    refine sp_icmp_ge (tgt := 206) dX11_orders_145 (by decide) (fun hc28 => ?_) (fun hc28 => ?_)
    · have h := (if_pos hc28).symm.trans h
      refine sp_weak [true, false, false, false] [some (.ref 103), none, none, none] rfl ?_
      exact hx _ h
    · have h := (if_neg hc28).symm.trans h
      refine sp_iconst (v := 0) dX11_orders_148 (by decide) ?_
      refine sp_istore_n [some (.ref 103), some (.int a1), some (.int a2), some (.int 0)] dX11_orders_149 rfl (by decide) rfl ?_
      refine sp_weak [true, true, true, true] [some (.ref 103), some (.int a1), some (.int a2), some (.int 0)] rfl ?_
      refine tX11_orders_l150 hG hQ (fun b37 b38 M36 h => ?_) F _ _ _ _ h
      refine sp_iinc (v := (b38 + 1)) [some (.ref 103), some (.int b37), some (.int (b38 + 1)), none] dX11_orders_200 rfl rfl (by decide) rfl ?_
      refine sp_goto (tgt := 140) dX11_orders_203 (by decide) ?_
      refine sp_weak [true, true, true, false] [some (.ref 103), some (.int b37), some (.int (b38 + 1)), none] rfl ?_
      exact ih _ _ _ h
set_option maxRecDepth 100000 in
set_option maxHeartbeats 4000000 in
theorem tX11_orders_j46 {g : sp_G} {Ω : sp_Mem → Prop} {Q : sp_Qt} {F : Nat} {p : (Int32 × sp_Mem)} (hG : sp_Ok Ω)  (hQ : Q (some (.int p.1)) p.2) (M : sp_Mem) (h : fX11_orders_j46 F M = some p) : sp_Wp g Ω mX11_orders 0 0 46 [some (.ref 103), none, none, none] [] M Q := by
  unfold fX11_orders_j46 at h
  refine sp_aload_n dX11_orders_46 rfl rfl ?_
  refine sp_use (fun ho => ?_)
  have hs := hG.1 _ ho
  obtain ⟨M10, hM10, h⟩ := Option.bind_eq_some_iff.mp h
  refine sp_cV (M1 := M10) (r := none) (o := 103) (st := []) (c := 10) (RX11, TX11, 56) [] [.ref 103] [] dX11_orders_47 okX11_endText tw_1659 tw_1661 tw_66 (by decide) (by decide) rfl (Nat.le_of_ble_eq_true rfl) rfl rfl rfl rfl (wsI_103 hs) (fun Q hQ => tX11_endText hG hM10 hQ) ?_
  refine sp_aload_n dX11_orders_50 rfl rfl ?_
  refine sp_use (fun ho => ?_)
  have hs := hG.1 _ ho
  refine sp_getI (RX11, TX11, 56) dX11_orders_51 clX11 (j := 19) (by decide) tw_1234 (wsI_103 hs) (Or.inr rfl) ?_
  refine sp_if_eq (tgt := 64) dX11_orders_54 (by decide) (fun hc11 => ?_) (fun hc11 => ?_)
  · have h := (if_pos hc11).symm.trans h
    refine sp_aload_n dX11_orders_64 rfl rfl ?_
    refine sp_bipush (v := 17) dX11_orders_65 (by decide) ?_
    obtain ⟨M12, hM12, h⟩ := Option.bind_eq_some_iff.mp h
    refine sp_cV (M1 := M12) (r := none) (o := 103) (st := []) (c := 10) (RX11, TX11, 56) [.int 17] [.int 17, .ref 103] [] dX11_orders_67 okX11_keepAll tw_1687 tw_1689 tw_71 (by decide) (by decide) rfl (Nat.le_of_ble_eq_true rfl) rfl rfl rfl rfl (wsI_103 hs) (fun Q hQ => tX11_keepAll hG hM12 hQ) ?_
    refine sp_aload_n dX11_orders_70 rfl rfl ?_
    refine sp_use (fun ho => ?_)
    have hs := hG.1 _ ho
    refine sp_getI (RX11, TX11, 56) dX11_orders_71 clX11 (j := 8) (by decide) tw_1223 (wsI_103 hs) (Or.inl rfl) ?_
    obtain ⟨u13, hu13, h⟩ := sp_do_e h
    refine sp_topi hu13 ?_
    refine sp_istore_n [some (.ref 103), some (.int u13), none, none] dX11_orders_74 rfl (by decide) rfl ?_
    refine sp_iconst (v := 0) dX11_orders_75 (by decide) ?_
    refine sp_istore_n [some (.ref 103), some (.int u13), some (.int 0), none] dX11_orders_76 rfl (by decide) rfl ?_
    refine sp_weak [true, true, true, false] [some (.ref 103), some (.int u13), some (.int 0), none] rfl ?_
    refine tX11_orders_l77 hG hQ (fun b19 M18 h => ?_) F _ _ _ h
    refine sp_iconst (v := 0) dX11_orders_102 (by decide) ?_
    refine sp_istore_n [some (.ref 103), some (.int b19), some (.int 0), none] dX11_orders_103 rfl (by decide) rfl ?_
    refine sp_weak [true, true, true, false] [some (.ref 103), some (.int b19), some (.int 0), none] rfl ?_
    refine tX11_orders_l104 hG hQ (fun b25 M24 h => ?_) F _ _ _ h
    refine sp_aload_n dX11_orders_128 rfl rfl ?_
    refine sp_iconst (v := 0) dX11_orders_129 (by decide) ?_
    refine sp_use (fun ho => ?_)
    have hs := hG.1 _ ho
    obtain ⟨M26, hM26, h⟩ := sp_do_e h
    refine sp_putI2 (RX11, TX11, 56) hG dX11_orders_130 clX11 (j := 48) (by decide) tw_1263 rfl (Or.inl rfl) (wsI_103 hs) hM26 ?_
    refine sp_aload_n dX11_orders_133 rfl rfl ?_
    refine sp_iconst (v := (-1)) dX11_orders_134 (by decide) ?_
    refine sp_use (fun ho => ?_)
    have hs := hG.1 _ ho
    obtain ⟨M27, hM27, h⟩ := sp_do_e h
    refine sp_putI2 (RX11, TX11, 56) hG dX11_orders_135 clX11 (j := 49) (by decide) tw_1264 rfl (Or.inl rfl) (wsI_103 hs) hM27 ?_
    refine sp_iconst (v := 0) dX11_orders_138 (by decide) ?_
    refine sp_istore_n [some (.ref 103), some (.int b25), some (.int 0), none] dX11_orders_139 rfl (by decide) rfl ?_
    refine sp_weak [true, true, true, false] [some (.ref 103), some (.int b25), some (.int 0), none] rfl ?_
    refine tX11_orders_l140 hG hQ (fun M39 h => ?_) F _ _ _ h
    refine sp_aload_n dX11_orders_206 rfl rfl ?_
    refine sp_aload_n dX11_orders_207 rfl rfl ?_
    refine sp_use (fun ho => ?_)
    have hs := hG.1 _ ho
    refine sp_getI (RX11, TX11, 56) dX11_orders_208 clX11 (j := 48) (by decide) tw_1263 (wsI_103 hs) (Or.inl rfl) ?_
    obtain ⟨x40, hx40, h⟩ := Option.bind_eq_some_iff.mp h
    refine sp_cV (M1 := x40.2) (r := some (.int x40.1)) (o := 103) (st := []) (c := 10) (RX11, TX11, 56) [.int (sp_I M39 103 48)] [.int (sp_I M39 103 48), .ref 103] [.int x40.1] dX11_orders_211 okX11_tell tw_1388 tw_1390 tw_27 (by decide) (by decide) rfl (Nat.le_of_ble_eq_true rfl) rfl rfl rfl rfl (wsI_103 hs) (fun Q hQ => tX11_tell hG hx40 hQ) ?_
    cases h
    exact sp_iret dX11_orders_214 (ty := .int) rfl rfl (fun _ => hQ)
  · have h := (if_neg hc11).symm.trans h
    refine sp_aload_n dX11_orders_57 rfl rfl ?_
    refine sp_bipush (v := (-6)) dX11_orders_58 (by decide) ?_
    obtain ⟨x41, hx41, h⟩ := Option.bind_eq_some_iff.mp h
    refine sp_cV (M1 := x41.2) (r := some (.int x41.1)) (o := 103) (st := []) (c := 10) (RX11, TX11, 56) [.int (-6)] [.int (-6), .ref 103] [.int x41.1] dX11_orders_60 okX11_tell tw_1388 tw_1390 tw_27 (by decide) (by decide) rfl (Nat.le_of_ble_eq_true rfl) rfl rfl rfl rfl (wsI_103 hs) (fun Q hQ => tX11_tell hG hx41 hQ) ?_
    cases h
    exact sp_iret dX11_orders_63 (ty := .int) rfl rfl (fun _ => hQ)
set_option maxRecDepth 100000 in
set_option maxHeartbeats 4000000 in
theorem tX11_orders {g : sp_G} {Ω : sp_Mem → Prop} {Q : sp_Qt} {F : Nat} {p : (Int32 × sp_Mem)} (hG : sp_Ok Ω) {M : sp_Mem} (h : fX11_orders F M = some p) (hQ : Q (some (.int p.1)) p.2) : sp_Mt g Ω mX11_orders 0 0 [.ref 103] M Q := by
  unfold fX11_orders at h
  refine sp_Mt.of [some (.ref 103), none, none, none] (by decide) (by simp [sp_ent, Value.category]) rfl ?_
  refine sp_aload_n dX11_orders_0 rfl rfl ?_
  refine sp_iconst (v := 0) dX11_orders_1 (by decide) ?_
  refine sp_use (fun ho => ?_)
  have hs := hG.1 _ ho
  obtain ⟨M1, hM1, h⟩ := sp_do_e h
  refine sp_putI2 (RX11, TX11, 56) hG dX11_orders_2 clX11 (j := 0) (by decide) tw_1215 rfl (Or.inl rfl) (wsI_103 hs) hM1 ?_
  refine sp_aload_n dX11_orders_5 rfl rfl ?_
  refine sp_iconst (v := (-1)) dX11_orders_6 (by decide) ?_
  refine sp_use (fun ho => ?_)
  have hs := hG.1 _ ho
  obtain ⟨M2, hM2, h⟩ := sp_do_e h
  refine sp_putI2 (RX11, TX11, 56) hG dX11_orders_7 clX11 (j := 50) (by decide) tw_1265 rfl (Or.inl rfl) (wsI_103 hs) hM2 ?_
  refine sp_aload_n dX11_orders_10 rfl rfl ?_
  refine sp_iconst (v := 1) dX11_orders_11 (by decide) ?_
  refine sp_use (fun ho => ?_)
  have hs := hG.1 _ ho
  obtain ⟨M3, hM3, h⟩ := Option.bind_eq_some_iff.mp h
  refine sp_cV (M1 := M3) (r := none) (o := 103) (st := []) (c := 10) (RX11, TX11, 56) [.int 1] [.int 1, .ref 103] [] dX11_orders_12 okX11_beginText tw_1549 tw_1551 tw_44 (by decide) (by decide) rfl (Nat.le_of_ble_eq_true rfl) rfl rfl rfl rfl (wsI_103 hs) (fun Q hQ => tX11_beginText hG hM3 hQ) ?_
  refine sp_aload_n dX11_orders_15 rfl rfl ?_
  refine sp_use (fun ho => ?_)
  have hs := hG.1 _ ho
  obtain ⟨M4, hM4, h⟩ := Option.bind_eq_some_iff.mp h
  refine sp_cV (M1 := M4) (r := none) (o := 103) (st := []) (c := 10) (RX11, TX11, 56) [] [.ref 103] [] dX11_orders_16 okX11_readOrder tw_1845 tw_1847 tw_90 (by decide) (by decide) rfl (Nat.le_of_ble_eq_true rfl) rfl rfl rfl rfl (wsI_103 hs) (fun Q hQ => tX11_readOrder hG hM4 hQ) ?_
  refine sp_weak [true, false, false, false] [some (.ref 103), none, none, none] rfl ?_
  refine tX11_orders_l19 hG hQ (fun M9 h => ?_) F _ h
  refine sp_weak [true, false, false, false] [some (.ref 103), none, none, none] rfl ?_
  exact tX11_orders_j46 hG hQ _ h
def fX11_stopped (M : sp_Mem) : Option (Int32 × sp_Mem) :=
  sp_do (sp_setI M 103 0 0) fun M1 => some ((sp_I M1 103 50), M1)
set_option maxRecDepth 100000 in
set_option maxHeartbeats 4000000 in
theorem tX11_stopped {g : sp_G} {Ω : sp_Mem → Prop} {Q : sp_Qt} {p : (Int32 × sp_Mem)} (hG : sp_Ok Ω) {M : sp_Mem} (h : fX11_stopped M = some p) (hQ : Q (some (.int p.1)) p.2) : sp_Mt g Ω mX11_stopped 0 0 [.ref 103] M Q := by
  unfold fX11_stopped at h
  refine sp_Mt.of [some (.ref 103)] (by decide) (by simp [sp_ent, Value.category]) rfl ?_
  refine sp_aload_n dX11_stopped_0 rfl rfl ?_
  refine sp_iconst (v := 0) dX11_stopped_1 (by decide) ?_
  refine sp_use (fun ho => ?_)
  have hs := hG.1 _ ho
  obtain ⟨M1, hM1, h⟩ := sp_do_e h
  refine sp_putI2 (RX11, TX11, 56) hG dX11_stopped_2 clX11 (j := 0) (by decide) tw_1215 rfl (Or.inl rfl) (wsI_103 hs) hM1 ?_
  refine sp_aload_n dX11_stopped_5 rfl rfl ?_
  refine sp_use (fun ho => ?_)
  have hs := hG.1 _ ho
  refine sp_getI (RX11, TX11, 56) dX11_stopped_6 clX11 (j := 50) (by decide) tw_1265 (wsI_103 hs) (Or.inl rfl) ?_
  cases h
  exact sp_iret dX11_stopped_9 (ty := .int) rfl rfl (fun _ => hQ)
def fX11_draw (M : sp_Mem) (a1 : Int32) : Option (Int32 × sp_Mem) :=
  sp_do (sp_setL M 103 52 ((((sp_L M 103 52) * 1103) + 12345) - (((sp_L M 103 52) * 1103) + 12345) / 1000003 * 1000003)) fun M1 => if (Int32.toInt64 a1) = 0 then none else some ((Int64.toInt32 ((sp_L M1 103 52) - (sp_L M1 103 52) / (Int32.toInt64 a1) * (Int32.toInt64 a1))), M1)
set_option maxRecDepth 100000 in
set_option maxHeartbeats 4000000 in
theorem tX11_draw {g : sp_G} {Ω : sp_Mem → Prop} {Q : sp_Qt} {p : (Int32 × sp_Mem)} (hG : sp_Ok Ω) {M : sp_Mem} {a1 : Int32} (h : fX11_draw M a1 = some p) (hQ : Q (some (.int p.1)) p.2) : sp_Mt g Ω mX11_draw 0 0 [.ref 103, .int a1] M Q := by
  unfold fX11_draw at h
  refine sp_Mt.of [some (.ref 103), some (.int a1)] (by decide) (by simp [sp_ent, Value.category]) rfl ?_
  refine sp_aload_n dX11_draw_0 rfl rfl ?_
  refine sp_aload_n dX11_draw_1 rfl rfl ?_
  refine sp_use (fun ho => ?_)
  have hs := hG.1 _ ho
  refine sp_getL (RX11, TX11, 56) dX11_draw_2 clX11 (j := 52) (by decide) tw_1267 (wsI_103 hs) rfl ?_
  refine sp_ldc2 (v := 1103) dX11_draw_5 tw_1888 ?_
  refine sp_lmul dX11_draw_8 ?_
  refine sp_ldc2 (v := 12345) dX11_draw_9 tw_1889 ?_
  refine sp_ladd dX11_draw_12 ?_
  refine sp_ldc2 (v := 1000003) dX11_draw_13 tw_1890 ?_
  refine sp_lrem dX11_draw_16 (by decide) ?_
  obtain ⟨M1, hM1, h⟩ := sp_do_e h
  refine sp_putL2 (RX11, TX11, 56) hG dX11_draw_17 clX11 (j := 52) (by decide) tw_1267 rfl rfl (wsI_103 hs) hM1 ?_
  refine sp_aload_n dX11_draw_20 rfl rfl ?_
  refine sp_use (fun ho => ?_)
  have hs := hG.1 _ ho
  refine sp_getL (RX11, TX11, 56) dX11_draw_21 clX11 (j := 52) (by decide) tw_1267 (wsI_103 hs) rfl ?_
  refine sp_iload_n dX11_draw_24 rfl rfl ?_
  refine sp_i2l dX11_draw_25 ?_
  by_cases hz2 : (Int32.toInt64 a1) = 0
  · rw [if_pos hz2] at h; cases h
  have h := (if_neg hz2).symm.trans h
  refine sp_lrem dX11_draw_26 hz2 ?_
  refine sp_l2i dX11_draw_27 ?_
  cases h
  exact sp_iret dX11_draw_28 (ty := .int) rfl rfl (fun _ => hQ)
def fX11_nights_j153 (F : Nat) (kb : Int32 → Int32 → Int32 → sp_Mem → Option (Int32 × sp_Mem)) (kx : Int32 → sp_Mem → Option (Int32 × sp_Mem)) (a2 : Int32) (a3 : Int32) (a4 : Int32) (a5 : Int32) (a6 : Int32) (a7 : Int32) (M : sp_Mem) : Option (Int32 × sp_Mem) :=
  if a7 = 1 then ((fX11_canWalk M a6 ((a5 - a5 / 4 * 4) + 1)).bind fun v18 => if v18 = 0 then ((fX11_passIt F M).bind fun M20 => kb a2 a3 (a4 + 1) M20) else ((sp_ix 5480 (21 + a6)).bind fun j21 => (fX11_nextTo (sp_I M 105 j21) ((a5 - a5 / 4 * 4) + 1)).bind fun v22 => (sp_ix 5480 (21 + a6)).bind fun j23 => sp_do (sp_setI M 105 j23 v22) fun M24 => (fX11_passIt F M24).bind fun M25 => kb a2 a3 (a4 + 1) M25)) else ((fX11_passIt F M).bind fun M17 => kb a2 a3 (a4 + 1) M17)
def fX11_nights_l77 (F : Nat) (kx : Int32 → sp_Mem → Option (Int32 × sp_Mem)) : Nat → Int32 → Int32 → Int32 → sp_Mem → Option (Int32 × sp_Mem)
  | 0, _, _, _, _ => none
  | n + 1, a2, a3, a4, M =>
  if a2 ≤ a4 then (kx a3 M) else (if 999 ≤ (sp_I M 105 5) then (kx a3 M) else ((fX11_draw M (sp_I M 105 0)).bind fun x12 => (fX11_draw x12.2 (sp_I x12.2 105 1)).bind fun x13 => (fX11_draw x13.2 3).bind fun x14 => if x14.1 = 0 then ((fX11_canCall F x14.2 x12.1 x13.1).bind fun x26 => if x26.1 = 0 then (fX11_nights_j153 F (fX11_nights_l77 F kx n) kx a2 a3 a4 x12.1 x13.1 x14.1 x26.2) else ((fX11_callIt x26.2 x12.1 x13.1).bind fun M28 => fX11_nights_j153 F (fX11_nights_l77 F kx n) kx a2 (a3 + 1) a4 x12.1 x13.1 x14.1 M28)) else (fX11_nights_j153 F (fX11_nights_l77 F kx n) kx a2 a3 a4 x12.1 x13.1 x14.1 x14.2)))
def fX11_nights_l216 (F : Nat) (kx : Int32 → sp_Mem → Option (Int32 × sp_Mem)) : Nat → Int32 → Int32 → sp_Mem → Option (Int32 × sp_Mem)
  | 0, _, _, _ => none
  | n + 1, a3, a4, M =>
  if 46 ≤ a4 then (kx a3 M) else ((sp_ix 5480 (5 + a4)).bind fun j32 => (sp_ix 46 a4).bind fun j33 => sp_do (sp_setI M 131 j33 (sp_I M 105 j32)) fun M34 => (fX11_nights_l216 F kx n) a3 (a4 + 1) M34)
def fX11_nights_j213 (F : Nat) (a3 : Int32) (M : sp_Mem) : Option (Int32 × sp_Mem) :=
  fX11_nights_l216 F (fun b36 M35 => sp_do (sp_setI M35 103 54 (sp_I M35 105 0)) fun M37 => sp_do (sp_setI M37 103 55 (sp_I M37 105 1)) fun M38 => (fX11_putBack F M38 16).bind fun M39 => (fX11_tell M39 b36).bind fun x40 => some (x40.1, x40.2)) F a3 0 M
def fX11_nights (F : Nat) (M : sp_Mem) (a1 : Int32) (a2 : Int32) : Option (Int32 × sp_Mem) :=
  sp_do (sp_setI M 103 0 0) fun M1 => if (fX11_in (Int32.toInt64 a1) 0 1000000) = 0 then ((fX11_tell M1 (-1)).bind fun x3 => some (x3.1, x3.2)) else (if (fX11_in (Int32.toInt64 a2) 1 60) = 0 then ((fX11_tell M1 (-1)).bind fun x42 => some (x42.1, x42.2)) else (if (sp_I M1 105 0) = 0 then ((fX11_tell M1 (-3)).bind fun x6 => some (x6.1, x6.2)) else (if (sp_I M1 105 1) = 0 then ((fX11_tell M1 (-3)).bind fun x41 => some (x41.1, x41.2)) else ((fX11_keepAll F M1 16).bind fun M8 => sp_do (sp_setL M8 103 52 (Int32.toInt64 a1)) fun M9 => fX11_nights_l77 F (fun b30 M29 => fX11_nights_j213 F b30 M29) F a2 0 0 M9))))
set_option maxRecDepth 100000 in
set_option maxHeartbeats 4000000 in
theorem tX11_nights_j153 {g : sp_G} {Ω : sp_Mem → Prop} {Q : sp_Qt} {F : Nat} {p : (Int32 × sp_Mem)} (hG : sp_Ok Ω)  {kb : Int32 → Int32 → Int32 → sp_Mem → Option (Int32 × sp_Mem)} {kx : Int32 → sp_Mem → Option (Int32 × sp_Mem)} (hQ : Q (some (.int p.1)) p.2) (hb : ∀ (a2 : Int32) (a3 : Int32) (a4 : Int32) (M : sp_Mem), kb a2 a3 a4 M = some p → sp_Wp g Ω mX11_nights 0 0 77 [some (.ref 103), none, some (.int a2), some (.int a3), some (.int a4), none, none, none] [] M Q) (hx : ∀ (a3 : Int32) (M : sp_Mem), kx a3 M = some p → sp_Wp g Ω mX11_nights 0 0 213 [some (.ref 103), none, none, some (.int a3), none, none, none, none] [] M Q) (a2 : Int32) (a3 : Int32) (a4 : Int32) (a5 : Int32) (a6 : Int32) (a7 : Int32) (M : sp_Mem) (h : fX11_nights_j153 F kb kx a2 a3 a4 a5 a6 a7 M = some p) : sp_Wp g Ω mX11_nights 0 0 153 [some (.ref 103), none, some (.int a2), some (.int a3), some (.int a4), some (.int a5), some (.int a6), some (.int a7)] [] M Q := by
  unfold fX11_nights_j153 at h
  refine sp_iload dX11_nights_153 rfl ?_
  refine sp_iconst (v := 1) dX11_nights_155 (by decide) ?_
  refine sp_icmp_ne (tgt := 203) dX11_nights_156 (by decide) (fun hc16 => ?_) (fun hc16 => ?_)
  · have h := (if_neg hc16).symm.trans h
    refine sp_aload_n dX11_nights_203 rfl rfl ?_
    refine sp_use (fun ho => ?_)
    have hs := hG.1 _ ho
    obtain ⟨M17, hM17, h⟩ := Option.bind_eq_some_iff.mp h
    refine sp_cV (M1 := M17) (r := none) (o := 103) (st := []) (c := 10) (RX11, TX11, 56) [] [.ref 103] [] dX11_nights_204 okX11_passIt tw_1731 tw_1733 tw_78 (by decide) (by decide) rfl (Nat.le_of_ble_eq_true rfl) rfl rfl rfl rfl (wsI_103 hs) (fun Q hQ => tX11_passIt hG hM17 hQ) ?_
    refine sp_iinc (v := (a4 + 1)) [some (.ref 103), none, some (.int a2), some (.int a3), some (.int (a4 + 1)), some (.int a5), some (.int a6), some (.int a7)] dX11_nights_207 rfl rfl (by decide) rfl ?_
    refine sp_goto (tgt := 77) dX11_nights_210 (by decide) ?_
    refine sp_weak [true, false, true, true, true, false, false, false] [some (.ref 103), none, some (.int a2), some (.int a3), some (.int (a4 + 1)), none, none, none] rfl ?_
    exact hb _ _ _ _ h
  · have h := (if_pos hc16).symm.trans h
    refine sp_aload_n dX11_nights_159 rfl rfl ?_
    refine sp_iload dX11_nights_160 rfl ?_
    refine sp_iload dX11_nights_162 rfl ?_
    refine sp_iconst (v := 4) dX11_nights_164 (by decide) ?_
    refine sp_irem dX11_nights_165 (by decide) ?_
    refine sp_iconst (v := 1) dX11_nights_166 (by decide) ?_
    refine sp_iadd dX11_nights_167 ?_
    refine sp_use (fun ho => ?_)
    have hs := hG.1 _ ho
    obtain ⟨v18, hv18, h⟩ := Option.bind_eq_some_iff.mp h
    refine sp_cV (M1 := M) (r := some (.int v18)) (o := 103) (st := []) (c := 10) (RX11, TX11, 56) [.int a6, .int ((a5 - a5 / 4 * 4) + 1)] [.int ((a5 - a5 / 4 * 4) + 1), .int a6, .ref 103] [.int v18] dX11_nights_168 okX11_canWalk tw_1716 tw_1718 tw_76 (by decide) (by decide) rfl (Nat.le_of_ble_eq_true rfl) rfl rfl rfl rfl (wsI_103 hs) (fun Q hQ => tX11_canWalk hG hv18 hQ) ?_
    refine sp_if_eq (tgt := 203) dX11_nights_171 (by decide) (fun hc19 => ?_) (fun hc19 => ?_)
    · have h := (if_pos hc19).symm.trans h
      refine sp_aload_n dX11_nights_203 rfl rfl ?_
      obtain ⟨M20, hM20, h⟩ := Option.bind_eq_some_iff.mp h
      refine sp_cV (M1 := M20) (r := none) (o := 103) (st := []) (c := 10) (RX11, TX11, 56) [] [.ref 103] [] dX11_nights_204 okX11_passIt tw_1731 tw_1733 tw_78 (by decide) (by decide) rfl (Nat.le_of_ble_eq_true rfl) rfl rfl rfl rfl (wsI_103 hs) (fun Q hQ => tX11_passIt hG hM20 hQ) ?_
      refine sp_iinc (v := (a4 + 1)) [some (.ref 103), none, some (.int a2), some (.int a3), some (.int (a4 + 1)), some (.int a5), some (.int a6), some (.int a7)] dX11_nights_207 rfl rfl (by decide) rfl ?_
      refine sp_goto (tgt := 77) dX11_nights_210 (by decide) ?_
      refine sp_weak [true, false, true, true, true, false, false, false] [some (.ref 103), none, some (.int a2), some (.int a3), some (.int (a4 + 1)), none, none, none] rfl ?_
      exact hb _ _ _ _ h
    · have h := (if_neg hc19).symm.trans h
      refine sp_aload_n dX11_nights_174 rfl rfl ?_
      refine sp_getR (RX11, TX11, 56) dX11_nights_175 clX11 (j := 3) (by decide) tw_1218 (wsI_103 hs) (Or.inr ⟨_, rfl⟩) (wsP_103_3 hs) ?_
      refine sp_bipush (v := 21) dX11_nights_178 (by decide) ?_
      refine sp_iload dX11_nights_180 rfl ?_
      refine sp_iadd dX11_nights_182 ?_
      refine sp_aload_n dX11_nights_183 rfl rfl ?_
      refine sp_getR (RX11, TX11, 56) dX11_nights_184 clX11 (j := 3) (by decide) tw_1218 (wsI_103 hs) (Or.inr ⟨_, rfl⟩) (wsP_103_3 hs) ?_
      refine sp_bipush (v := 21) dX11_nights_187 (by decide) ?_
      refine sp_iload dX11_nights_189 rfl ?_
      refine sp_iadd dX11_nights_191 ?_
      obtain ⟨j21, hj21, h⟩ := Option.bind_eq_some_iff.mp h
      refine sp_iald2 (j := j21) dX11_nights_192 (wsA_105 hs) (wsN_105 hs) hj21 ?_
      refine sp_iload dX11_nights_193 rfl ?_
      refine sp_iconst (v := 4) dX11_nights_195 (by decide) ?_
      refine sp_irem dX11_nights_196 (by decide) ?_
      refine sp_iconst (v := 1) dX11_nights_197 (by decide) ?_
      refine sp_iadd dX11_nights_198 ?_
      obtain ⟨v22, hv22, h⟩ := Option.bind_eq_some_iff.mp h
      refine sp_cS (M1 := M) (r := some (.int v22)) (st := [.int (21 + a6), .ref 105]) [.int (sp_I M 105 j21), .int ((a5 - a5 / 4 * 4) + 1)] [.int ((a5 - a5 / 4 * 4) + 1), .int (sp_I M 105 j21), .int (21 + a6), .ref 105] [.int v22, .int (21 + a6), .ref 105] dX11_nights_199 okX11_nextTo tw_1720 tw_1721 (by decide) (by decide) rfl (Nat.le_of_ble_eq_true rfl) rfl rfl (fun Q hQ => tX11_nextTo hG hv22 hQ) ?_
      obtain ⟨j23, hj23, h⟩ := Option.bind_eq_some_iff.mp h
      obtain ⟨M24, hM24, h⟩ := sp_do_e h
      refine sp_iast2 (j := j23) hG dX11_nights_202 (wsA_105 hs) (wsN_105 hs) hj23 hM24 ?_
      refine sp_aload_n dX11_nights_203 rfl rfl ?_
      refine sp_use (fun ho => ?_)
      have hs := hG.1 _ ho
      obtain ⟨M25, hM25, h⟩ := Option.bind_eq_some_iff.mp h
      refine sp_cV (M1 := M25) (r := none) (o := 103) (st := []) (c := 10) (RX11, TX11, 56) [] [.ref 103] [] dX11_nights_204 okX11_passIt tw_1731 tw_1733 tw_78 (by decide) (by decide) rfl (Nat.le_of_ble_eq_true rfl) rfl rfl rfl rfl (wsI_103 hs) (fun Q hQ => tX11_passIt hG hM25 hQ) ?_
      refine sp_iinc (v := (a4 + 1)) [some (.ref 103), none, some (.int a2), some (.int a3), some (.int (a4 + 1)), some (.int a5), some (.int a6), some (.int a7)] dX11_nights_207 rfl rfl (by decide) rfl ?_
      refine sp_goto (tgt := 77) dX11_nights_210 (by decide) ?_
      refine sp_weak [true, false, true, true, true, false, false, false] [some (.ref 103), none, some (.int a2), some (.int a3), some (.int (a4 + 1)), none, none, none] rfl ?_
      exact hb _ _ _ _ h
set_option maxRecDepth 100000 in
set_option maxHeartbeats 4000000 in
theorem tX11_nights_l77 {g : sp_G} {Ω : sp_Mem → Prop} {Q : sp_Qt} {F : Nat} {p : (Int32 × sp_Mem)} (hG : sp_Ok Ω)  {kx : Int32 → sp_Mem → Option (Int32 × sp_Mem)} (hQ : Q (some (.int p.1)) p.2) (hx : ∀ (a3 : Int32) (M : sp_Mem), kx a3 M = some p → sp_Wp g Ω mX11_nights 0 0 213 [some (.ref 103), none, none, some (.int a3), none, none, none, none] [] M Q) : ∀ (n : Nat) (a2 : Int32) (a3 : Int32) (a4 : Int32) (M : sp_Mem), fX11_nights_l77 F kx n a2 a3 a4 M = some p → sp_Wp g Ω mX11_nights 0 0 77 [some (.ref 103), none, some (.int a2), some (.int a3), some (.int a4), none, none, none] [] M Q := by
  intro n
  induction n with
  | zero =>
    intro a2 a3 a4 M h
    rw [fX11_nights_l77] at h
    cases h
  | succ n ih =>
    intro a2 a3 a4 M h
    rw [fX11_nights_l77] at h
    refine sp_iload dX11_nights_77 rfl ?_
    refine sp_iload_n dX11_nights_79 rfl rfl ?_
    refine sp_icmp_ge (tgt := 213) dX11_nights_80 (by decide) (fun hc10 => ?_) (fun hc10 => ?_)
    · have h := (if_pos hc10).symm.trans h
      refine sp_weak [true, false, false, true, false, false, false, false] [some (.ref 103), none, none, some (.int a3), none, none, none, none] rfl ?_
      exact hx _ _ h
    · have h := (if_neg hc10).symm.trans h
      refine sp_aload_n dX11_nights_83 rfl rfl ?_
      refine sp_use (fun ho => ?_)
      have hs := hG.1 _ ho
      refine sp_getR (RX11, TX11, 56) dX11_nights_84 clX11 (j := 3) (by decide) tw_1218 (wsI_103 hs) (Or.inr ⟨_, rfl⟩) (wsP_103_3 hs) ?_
      refine sp_iconst (v := 5) dX11_nights_87 (by decide) ?_
      refine sp_iald2 (j := 5) dX11_nights_88 (wsA_105 hs) (wsN_105 hs) rfl ?_
      refine sp_sipush (v := 999) dX11_nights_89 (by decide) ?_
      refine sp_icmp_ge (tgt := 213) dX11_nights_92 (by decide) (fun hc11 => ?_) (fun hc11 => ?_)
      · have h := (if_pos hc11).symm.trans h
        refine sp_weak [true, false, false, true, false, false, false, false] [some (.ref 103), none, none, some (.int a3), none, none, none, none] rfl ?_
        exact hx _ _ h
      · have h := (if_neg hc11).symm.trans h
        refine sp_aload_n dX11_nights_95 rfl rfl ?_
        refine sp_aload_n dX11_nights_96 rfl rfl ?_
        refine sp_getR (RX11, TX11, 56) dX11_nights_97 clX11 (j := 3) (by decide) tw_1218 (wsI_103 hs) (Or.inr ⟨_, rfl⟩) (wsP_103_3 hs) ?_
        refine sp_iconst (v := 0) dX11_nights_100 (by decide) ?_
        refine sp_iald2 (j := 0) dX11_nights_101 (wsA_105 hs) (wsN_105 hs) rfl ?_
        obtain ⟨x12, hx12, h⟩ := Option.bind_eq_some_iff.mp h
        refine sp_cV (M1 := x12.2) (r := some (.int x12.1)) (o := 103) (st := []) (c := 10) (RX11, TX11, 56) [.int (sp_I M 105 0)] [.int (sp_I M 105 0), .ref 103] [.int x12.1] dX11_nights_102 okX11_draw tw_1884 tw_1886 tw_97 (by decide) (by decide) rfl (Nat.le_of_ble_eq_true rfl) rfl rfl rfl rfl (wsI_103 hs) (fun Q hQ => tX11_draw hG hx12 hQ) ?_
        refine sp_istore [some (.ref 103), none, some (.int a2), some (.int a3), some (.int a4), some (.int x12.1), none, none] dX11_nights_105 (by decide) rfl ?_
        refine sp_aload_n dX11_nights_107 rfl rfl ?_
        refine sp_aload_n dX11_nights_108 rfl rfl ?_
        refine sp_use (fun ho => ?_)
        have hs := hG.1 _ ho
        refine sp_getR (RX11, TX11, 56) dX11_nights_109 clX11 (j := 3) (by decide) tw_1218 (wsI_103 hs) (Or.inr ⟨_, rfl⟩) (wsP_103_3 hs) ?_
        refine sp_iconst (v := 1) dX11_nights_112 (by decide) ?_
        refine sp_iald2 (j := 1) dX11_nights_113 (wsA_105 hs) (wsN_105 hs) rfl ?_
        obtain ⟨x13, hx13, h⟩ := Option.bind_eq_some_iff.mp h
        refine sp_cV (M1 := x13.2) (r := some (.int x13.1)) (o := 103) (st := []) (c := 10) (RX11, TX11, 56) [.int (sp_I x12.2 105 1)] [.int (sp_I x12.2 105 1), .ref 103] [.int x13.1] dX11_nights_114 okX11_draw tw_1884 tw_1886 tw_97 (by decide) (by decide) rfl (Nat.le_of_ble_eq_true rfl) rfl rfl rfl rfl (wsI_103 hs) (fun Q hQ => tX11_draw hG hx13 hQ) ?_
        refine sp_istore [some (.ref 103), none, some (.int a2), some (.int a3), some (.int a4), some (.int x12.1), some (.int x13.1), none] dX11_nights_117 (by decide) rfl ?_
        refine sp_aload_n dX11_nights_119 rfl rfl ?_
        refine sp_iconst (v := 3) dX11_nights_120 (by decide) ?_
        refine sp_use (fun ho => ?_)
        have hs := hG.1 _ ho
        obtain ⟨x14, hx14, h⟩ := Option.bind_eq_some_iff.mp h
        refine sp_cV (M1 := x14.2) (r := some (.int x14.1)) (o := 103) (st := []) (c := 10) (RX11, TX11, 56) [.int 3] [.int 3, .ref 103] [.int x14.1] dX11_nights_121 okX11_draw tw_1884 tw_1886 tw_97 (by decide) (by decide) rfl (Nat.le_of_ble_eq_true rfl) rfl rfl rfl rfl (wsI_103 hs) (fun Q hQ => tX11_draw hG hx14 hQ) ?_
        refine sp_istore [some (.ref 103), none, some (.int a2), some (.int a3), some (.int a4), some (.int x12.1), some (.int x13.1), some (.int x14.1)] dX11_nights_124 (by decide) rfl ?_
        refine sp_iload dX11_nights_126 rfl ?_
        refine sp_if_ne (tgt := 153) dX11_nights_128 (by decide) (fun hc15 => ?_) (fun hc15 => ?_)
        · have h := (if_neg hc15).symm.trans h
          refine sp_weak [true, false, true, true, true, true, true, true] [some (.ref 103), none, some (.int a2), some (.int a3), some (.int a4), some (.int x12.1), some (.int x13.1), some (.int x14.1)] rfl ?_
          exact tX11_nights_j153 hG hQ ih hx _ _ _ _ _ _ _ h
        · have h := (if_pos hc15).symm.trans h
          refine sp_aload_n dX11_nights_131 rfl rfl ?_
          refine sp_iload dX11_nights_132 rfl ?_
          refine sp_iload dX11_nights_134 rfl ?_
          refine sp_use (fun ho => ?_)
          have hs := hG.1 _ ho
          obtain ⟨x26, hx26, h⟩ := Option.bind_eq_some_iff.mp h
          refine sp_cV (M1 := x26.2) (r := some (.int x26.1)) (o := 103) (st := []) (c := 10) (RX11, TX11, 56) [.int x12.1, .int x13.1] [.int x13.1, .int x12.1, .ref 103] [.int x26.1] dX11_nights_136 okX11_canCall tw_1679 tw_1681 tw_69 (by decide) (by decide) rfl (Nat.le_of_ble_eq_true rfl) rfl rfl rfl rfl (wsI_103 hs) (fun Q hQ => tX11_canCall hG hx26 hQ) ?_
          refine sp_if_eq (tgt := 153) dX11_nights_139 (by decide) (fun hc27 => ?_) (fun hc27 => ?_)
          · have h := (if_pos hc27).symm.trans h
            refine sp_weak [true, false, true, true, true, true, true, true] [some (.ref 103), none, some (.int a2), some (.int a3), some (.int a4), some (.int x12.1), some (.int x13.1), some (.int x14.1)] rfl ?_
            exact tX11_nights_j153 hG hQ ih hx _ _ _ _ _ _ _ h
          · have h := (if_neg hc27).symm.trans h
            refine sp_aload_n dX11_nights_142 rfl rfl ?_
            refine sp_iload dX11_nights_143 rfl ?_
            refine sp_iload dX11_nights_145 rfl ?_
            refine sp_use (fun ho => ?_)
            have hs := hG.1 _ ho
            obtain ⟨M28, hM28, h⟩ := Option.bind_eq_some_iff.mp h
            refine sp_cV (M1 := M28) (r := none) (o := 103) (st := []) (c := 10) (RX11, TX11, 56) [.int x12.1, .int x13.1] [.int x13.1, .int x12.1, .ref 103] [] dX11_nights_147 okX11_callIt tw_1691 tw_1693 tw_72 (by decide) (by decide) rfl (Nat.le_of_ble_eq_true rfl) rfl rfl rfl rfl (wsI_103 hs) (fun Q hQ => tX11_callIt hG hM28 hQ) ?_
            refine sp_iinc (v := (a3 + 1)) [some (.ref 103), none, some (.int a2), some (.int (a3 + 1)), some (.int a4), some (.int x12.1), some (.int x13.1), some (.int x14.1)] dX11_nights_150 rfl rfl (by decide) rfl ?_
            refine sp_weak [true, false, true, true, true, true, true, true] [some (.ref 103), none, some (.int a2), some (.int (a3 + 1)), some (.int a4), some (.int x12.1), some (.int x13.1), some (.int x14.1)] rfl ?_
            exact tX11_nights_j153 hG hQ ih hx _ _ _ _ _ _ _ h
set_option maxRecDepth 100000 in
set_option maxHeartbeats 4000000 in
theorem tX11_nights_l216 {g : sp_G} {Ω : sp_Mem → Prop} {Q : sp_Qt} {F : Nat} {p : (Int32 × sp_Mem)} (hG : sp_Ok Ω)  {kx : Int32 → sp_Mem → Option (Int32 × sp_Mem)} (hQ : Q (some (.int p.1)) p.2) (hx : ∀ (a3 : Int32) (M : sp_Mem), kx a3 M = some p → sp_Wp g Ω mX11_nights 0 0 245 [some (.ref 103), none, none, some (.int a3), none, none, none, none] [] M Q) : ∀ (n : Nat) (a3 : Int32) (a4 : Int32) (M : sp_Mem), fX11_nights_l216 F kx n a3 a4 M = some p → sp_Wp g Ω mX11_nights 0 0 216 [some (.ref 103), none, none, some (.int a3), some (.int a4), none, none, none] [] M Q := by
  intro n
  induction n with
  | zero =>
    intro a3 a4 M h
    rw [fX11_nights_l216] at h
    cases h
  | succ n ih =>
    intro a3 a4 M h
    rw [fX11_nights_l216] at h
    refine sp_iload dX11_nights_216 rfl ?_
    refine sp_bipush (v := 46) dX11_nights_218 (by decide) ?_
    refine sp_icmp_ge (tgt := 245) dX11_nights_220 (by decide) (fun hc31 => ?_) (fun hc31 => ?_)
    · have h := (if_pos hc31).symm.trans h
      refine sp_weak [true, false, false, true, false, false, false, false] [some (.ref 103), none, none, some (.int a3), none, none, none, none] rfl ?_
      exact hx _ _ h
    · have h := (if_neg hc31).symm.trans h
      refine sp_aload_n dX11_nights_223 rfl rfl ?_
      refine sp_use (fun ho => ?_)
      have hs := hG.1 _ ho
      refine sp_getR (RX11, TX11, 56) dX11_nights_224 clX11 (j := 53) (by decide) tw_1268 (wsI_103 hs) (Or.inr ⟨_, rfl⟩) (wsP_103_53 hs) ?_
      refine sp_iload dX11_nights_227 rfl ?_
      refine sp_aload_n dX11_nights_229 rfl rfl ?_
      refine sp_getR (RX11, TX11, 56) dX11_nights_230 clX11 (j := 3) (by decide) tw_1218 (wsI_103 hs) (Or.inr ⟨_, rfl⟩) (wsP_103_3 hs) ?_
      refine sp_iconst (v := 5) dX11_nights_233 (by decide) ?_
      refine sp_iload dX11_nights_234 rfl ?_
      refine sp_iadd dX11_nights_236 ?_
      obtain ⟨j32, hj32, h⟩ := Option.bind_eq_some_iff.mp h
      refine sp_iald2 (j := j32) dX11_nights_237 (wsA_105 hs) (wsN_105 hs) hj32 ?_
      obtain ⟨j33, hj33, h⟩ := Option.bind_eq_some_iff.mp h
      obtain ⟨M34, hM34, h⟩ := sp_do_e h
      refine sp_iast2 (j := j33) hG dX11_nights_238 (wsA_131 hs) (wsN_131 hs) hj33 hM34 ?_
      refine sp_iinc (v := (a4 + 1)) [some (.ref 103), none, none, some (.int a3), some (.int (a4 + 1)), none, none, none] dX11_nights_239 rfl rfl (by decide) rfl ?_
      refine sp_goto (tgt := 216) dX11_nights_242 (by decide) ?_
      refine sp_weak [true, false, false, true, true, false, false, false] [some (.ref 103), none, none, some (.int a3), some (.int (a4 + 1)), none, none, none] rfl ?_
      exact ih _ _ _ h
set_option maxRecDepth 100000 in
set_option maxHeartbeats 4000000 in
theorem tX11_nights_j213 {g : sp_G} {Ω : sp_Mem → Prop} {Q : sp_Qt} {F : Nat} {p : (Int32 × sp_Mem)} (hG : sp_Ok Ω)  (hQ : Q (some (.int p.1)) p.2) (a3 : Int32) (M : sp_Mem) (h : fX11_nights_j213 F a3 M = some p) : sp_Wp g Ω mX11_nights 0 0 213 [some (.ref 103), none, none, some (.int a3), none, none, none, none] [] M Q := by
  unfold fX11_nights_j213 at h
  refine sp_iconst (v := 0) dX11_nights_213 (by decide) ?_
  refine sp_istore [some (.ref 103), none, none, some (.int a3), some (.int 0), none, none, none] dX11_nights_214 (by decide) rfl ?_
  refine sp_weak [true, false, false, true, true, false, false, false] [some (.ref 103), none, none, some (.int a3), some (.int 0), none, none, none] rfl ?_
  refine tX11_nights_l216 hG hQ (fun b36 M35 h => ?_) F _ _ _ h
  refine sp_aload_n dX11_nights_245 rfl rfl ?_
  refine sp_aload_n dX11_nights_246 rfl rfl ?_
  refine sp_use (fun ho => ?_)
  have hs := hG.1 _ ho
  refine sp_getR (RX11, TX11, 56) dX11_nights_247 clX11 (j := 3) (by decide) tw_1218 (wsI_103 hs) (Or.inr ⟨_, rfl⟩) (wsP_103_3 hs) ?_
  refine sp_iconst (v := 0) dX11_nights_250 (by decide) ?_
  refine sp_iald2 (j := 0) dX11_nights_251 (wsA_105 hs) (wsN_105 hs) rfl ?_
  obtain ⟨M37, hM37, h⟩ := sp_do_e h
  refine sp_putI2 (RX11, TX11, 56) hG dX11_nights_252 clX11 (j := 54) (by decide) tw_1269 rfl (Or.inl rfl) (wsI_103 hs) hM37 ?_
  refine sp_aload_n dX11_nights_255 rfl rfl ?_
  refine sp_aload_n dX11_nights_256 rfl rfl ?_
  refine sp_use (fun ho => ?_)
  have hs := hG.1 _ ho
  refine sp_getR (RX11, TX11, 56) dX11_nights_257 clX11 (j := 3) (by decide) tw_1218 (wsI_103 hs) (Or.inr ⟨_, rfl⟩) (wsP_103_3 hs) ?_
  refine sp_iconst (v := 1) dX11_nights_260 (by decide) ?_
  refine sp_iald2 (j := 1) dX11_nights_261 (wsA_105 hs) (wsN_105 hs) rfl ?_
  obtain ⟨M38, hM38, h⟩ := sp_do_e h
  refine sp_putI2 (RX11, TX11, 56) hG dX11_nights_262 clX11 (j := 55) (by decide) tw_1270 rfl (Or.inl rfl) (wsI_103 hs) hM38 ?_
  refine sp_aload_n dX11_nights_265 rfl rfl ?_
  refine sp_bipush (v := 16) dX11_nights_266 (by decide) ?_
  refine sp_use (fun ho => ?_)
  have hs := hG.1 _ ho
  obtain ⟨M39, hM39, h⟩ := Option.bind_eq_some_iff.mp h
  refine sp_cV (M1 := M39) (r := none) (o := 103) (st := []) (c := 10) (RX11, TX11, 56) [.int 16] [.int 16, .ref 103] [] dX11_nights_268 okX11_putBack tw_1392 tw_1394 tw_28 (by decide) (by decide) rfl (Nat.le_of_ble_eq_true rfl) rfl rfl rfl rfl (wsI_103 hs) (fun Q hQ => tX11_putBack hG hM39 hQ) ?_
  refine sp_aload_n dX11_nights_271 rfl rfl ?_
  refine sp_iload_n dX11_nights_272 rfl rfl ?_
  refine sp_use (fun ho => ?_)
  have hs := hG.1 _ ho
  obtain ⟨x40, hx40, h⟩ := Option.bind_eq_some_iff.mp h
  refine sp_cV (M1 := x40.2) (r := some (.int x40.1)) (o := 103) (st := []) (c := 10) (RX11, TX11, 56) [.int b36] [.int b36, .ref 103] [.int x40.1] dX11_nights_273 okX11_tell tw_1388 tw_1390 tw_27 (by decide) (by decide) rfl (Nat.le_of_ble_eq_true rfl) rfl rfl rfl rfl (wsI_103 hs) (fun Q hQ => tX11_tell hG hx40 hQ) ?_
  cases h
  exact sp_iret dX11_nights_276 (ty := .int) rfl rfl (fun _ => hQ)
set_option maxRecDepth 100000 in
set_option maxHeartbeats 4000000 in
theorem tX11_nights {g : sp_G} {Ω : sp_Mem → Prop} {Q : sp_Qt} {F : Nat} {p : (Int32 × sp_Mem)} (hG : sp_Ok Ω) {M : sp_Mem} {a1 : Int32} {a2 : Int32} (h : fX11_nights F M a1 a2 = some p) (hQ : Q (some (.int p.1)) p.2) : sp_Mt g Ω mX11_nights 0 0 [.ref 103, .int a1, .int a2] M Q := by
  unfold fX11_nights at h
  refine sp_Mt.of [some (.ref 103), some (.int a1), some (.int a2), none, none, none, none, none] (by decide) (by simp [sp_ent, Value.category]) rfl ?_
  refine sp_aload_n dX11_nights_0 rfl rfl ?_
  refine sp_iconst (v := 0) dX11_nights_1 (by decide) ?_
  refine sp_use (fun ho => ?_)
  have hs := hG.1 _ ho
  obtain ⟨M1, hM1, h⟩ := sp_do_e h
  refine sp_putI2 (RX11, TX11, 56) hG dX11_nights_2 clX11 (j := 0) (by decide) tw_1215 rfl (Or.inl rfl) (wsI_103 hs) hM1 ?_
  refine sp_iload_n dX11_nights_5 rfl rfl ?_
  refine sp_i2l dX11_nights_6 ?_
  refine sp_lconst (v := 0) dX11_nights_7 (by decide) ?_
  refine sp_ldc2 (v := 1000000) dX11_nights_8 tw_1569 ?_
  refine sp_use (fun ho => ?_)
  have hs := hG.1 _ ho
  refine sp_cS (M1 := M1) (r := some (.int (fX11_in (Int32.toInt64 a1) 0 1000000))) (st := []) [.long (Int32.toInt64 a1), .long 0, .long 1000000] [.long 1000000, .long 0, .long (Int32.toInt64 a1)] [.int (fX11_in (Int32.toInt64 a1) 0 1000000)] dX11_nights_11 okX11_in tw_1400 tw_1401 (by decide) (by decide) rfl (Nat.le_of_ble_eq_true rfl) rfl rfl (fun Q hQ => tX11_in hG rfl hQ) ?_
  refine sp_if_eq (tgt := 29) dX11_nights_14 (by decide) (fun hc2 => ?_) (fun hc2 => ?_)
  · have h := (if_pos hc2).symm.trans h
    refine sp_aload_n dX11_nights_29 rfl rfl ?_
    refine sp_iconst (v := (-1)) dX11_nights_30 (by decide) ?_
    obtain ⟨x3, hx3, h⟩ := Option.bind_eq_some_iff.mp h
    refine sp_cV (M1 := x3.2) (r := some (.int x3.1)) (o := 103) (st := []) (c := 10) (RX11, TX11, 56) [.int (-1)] [.int (-1), .ref 103] [.int x3.1] dX11_nights_31 okX11_tell tw_1388 tw_1390 tw_27 (by decide) (by decide) rfl (Nat.le_of_ble_eq_true rfl) rfl rfl rfl rfl (wsI_103 hs) (fun Q hQ => tX11_tell hG hx3 hQ) ?_
    cases h
    exact sp_iret dX11_nights_34 (ty := .int) rfl rfl (fun _ => hQ)
  · have h := (if_neg hc2).symm.trans h
    refine sp_iload_n dX11_nights_17 rfl rfl ?_
    refine sp_i2l dX11_nights_18 ?_
    refine sp_lconst (v := 1) dX11_nights_19 (by decide) ?_
    refine sp_ldc2 (v := 60) dX11_nights_20 tw_1743 ?_
    refine sp_cS (M1 := M1) (r := some (.int (fX11_in (Int32.toInt64 a2) 1 60))) (st := []) [.long (Int32.toInt64 a2), .long 1, .long 60] [.long 60, .long 1, .long (Int32.toInt64 a2)] [.int (fX11_in (Int32.toInt64 a2) 1 60)] dX11_nights_23 okX11_in tw_1400 tw_1401 (by decide) (by decide) rfl (Nat.le_of_ble_eq_true rfl) rfl rfl (fun Q hQ => tX11_in hG rfl hQ) ?_
    refine sp_if_ne (tgt := 35) dX11_nights_26 (by decide) (fun hc4 => ?_) (fun hc4 => ?_)
    · have h := (if_neg hc4).symm.trans h
      refine sp_aload_n dX11_nights_35 rfl rfl ?_
      refine sp_getR (RX11, TX11, 56) dX11_nights_36 clX11 (j := 3) (by decide) tw_1218 (wsI_103 hs) (Or.inr ⟨_, rfl⟩) (wsP_103_3 hs) ?_
      refine sp_iconst (v := 0) dX11_nights_39 (by decide) ?_
      refine sp_iald2 (j := 0) dX11_nights_40 (wsA_105 hs) (wsN_105 hs) rfl ?_
      refine sp_if_eq (tgt := 53) dX11_nights_41 (by decide) (fun hc5 => ?_) (fun hc5 => ?_)
      · have h := (if_pos hc5).symm.trans h
        refine sp_aload_n dX11_nights_53 rfl rfl ?_
        refine sp_bipush (v := (-3)) dX11_nights_54 (by decide) ?_
        obtain ⟨x6, hx6, h⟩ := Option.bind_eq_some_iff.mp h
        refine sp_cV (M1 := x6.2) (r := some (.int x6.1)) (o := 103) (st := []) (c := 10) (RX11, TX11, 56) [.int (-3)] [.int (-3), .ref 103] [.int x6.1] dX11_nights_56 okX11_tell tw_1388 tw_1390 tw_27 (by decide) (by decide) rfl (Nat.le_of_ble_eq_true rfl) rfl rfl rfl rfl (wsI_103 hs) (fun Q hQ => tX11_tell hG hx6 hQ) ?_
        cases h
        exact sp_iret dX11_nights_59 (ty := .int) rfl rfl (fun _ => hQ)
      · have h := (if_neg hc5).symm.trans h
        refine sp_aload_n dX11_nights_44 rfl rfl ?_
        refine sp_getR (RX11, TX11, 56) dX11_nights_45 clX11 (j := 3) (by decide) tw_1218 (wsI_103 hs) (Or.inr ⟨_, rfl⟩) (wsP_103_3 hs) ?_
        refine sp_iconst (v := 1) dX11_nights_48 (by decide) ?_
        refine sp_iald2 (j := 1) dX11_nights_49 (wsA_105 hs) (wsN_105 hs) rfl ?_
        refine sp_if_ne (tgt := 60) dX11_nights_50 (by decide) (fun hc7 => ?_) (fun hc7 => ?_)
        · have h := (if_neg hc7).symm.trans h
          refine sp_aload_n dX11_nights_60 rfl rfl ?_
          refine sp_bipush (v := 16) dX11_nights_61 (by decide) ?_
          obtain ⟨M8, hM8, h⟩ := Option.bind_eq_some_iff.mp h
          refine sp_cV (M1 := M8) (r := none) (o := 103) (st := []) (c := 10) (RX11, TX11, 56) [.int 16] [.int 16, .ref 103] [] dX11_nights_63 okX11_keepAll tw_1687 tw_1689 tw_71 (by decide) (by decide) rfl (Nat.le_of_ble_eq_true rfl) rfl rfl rfl rfl (wsI_103 hs) (fun Q hQ => tX11_keepAll hG hM8 hQ) ?_
          refine sp_aload_n dX11_nights_66 rfl rfl ?_
          refine sp_iload_n dX11_nights_67 rfl rfl ?_
          refine sp_i2l dX11_nights_68 ?_
          refine sp_use (fun ho => ?_)
          have hs := hG.1 _ ho
          obtain ⟨M9, hM9, h⟩ := sp_do_e h
          refine sp_putL2 (RX11, TX11, 56) hG dX11_nights_69 clX11 (j := 52) (by decide) tw_1267 rfl rfl (wsI_103 hs) hM9 ?_
          refine sp_iconst (v := 0) dX11_nights_72 (by decide) ?_
          refine sp_istore_n [some (.ref 103), some (.int a1), some (.int a2), some (.int 0), none, none, none, none] dX11_nights_73 rfl (by decide) rfl ?_
          refine sp_iconst (v := 0) dX11_nights_74 (by decide) ?_
          refine sp_istore [some (.ref 103), some (.int a1), some (.int a2), some (.int 0), some (.int 0), none, none, none] dX11_nights_75 (by decide) rfl ?_
          refine sp_weak [true, false, true, true, true, false, false, false] [some (.ref 103), none, some (.int a2), some (.int 0), some (.int 0), none, none, none] rfl ?_
          refine tX11_nights_l77 hG hQ (fun b30 M29 h => ?_) F _ _ _ _ h
          refine sp_weak [true, false, false, true, false, false, false, false] [some (.ref 103), none, none, some (.int b30), none, none, none, none] rfl ?_
          exact tX11_nights_j213 hG hQ _ _ h
        · have h := (if_pos hc7).symm.trans h
          refine sp_aload_n dX11_nights_53 rfl rfl ?_
          refine sp_bipush (v := (-3)) dX11_nights_54 (by decide) ?_
          obtain ⟨x41, hx41, h⟩ := Option.bind_eq_some_iff.mp h
          refine sp_cV (M1 := x41.2) (r := some (.int x41.1)) (o := 103) (st := []) (c := 10) (RX11, TX11, 56) [.int (-3)] [.int (-3), .ref 103] [.int x41.1] dX11_nights_56 okX11_tell tw_1388 tw_1390 tw_27 (by decide) (by decide) rfl (Nat.le_of_ble_eq_true rfl) rfl rfl rfl rfl (wsI_103 hs) (fun Q hQ => tX11_tell hG hx41 hQ) ?_
          cases h
          exact sp_iret dX11_nights_59 (ty := .int) rfl rfl (fun _ => hQ)
    · have h := (if_pos hc4).symm.trans h
      refine sp_aload_n dX11_nights_29 rfl rfl ?_
      refine sp_iconst (v := (-1)) dX11_nights_30 (by decide) ?_
      obtain ⟨x42, hx42, h⟩ := Option.bind_eq_some_iff.mp h
      refine sp_cV (M1 := x42.2) (r := some (.int x42.1)) (o := 103) (st := []) (c := 10) (RX11, TX11, 56) [.int (-1)] [.int (-1), .ref 103] [.int x42.1] dX11_nights_31 okX11_tell tw_1388 tw_1390 tw_27 (by decide) (by decide) rfl (Nat.le_of_ble_eq_true rfl) rfl rfl rfl rfl (wsI_103 hs) (fun Q hQ => tX11_tell hG hx42 hQ) ?_
      cases h
      exact sp_iret dX11_nights_34 (ty := .int) rfl rfl (fun _ => hQ)
def fX11_drawn_j69 (a1 : Int32) (s0 : Int32) (M : sp_Mem) : Option (Int32 × sp_Mem) :=
  (sp_ix 46 ((s0 - 5) + a1)).bind fun j7 => some ((sp_I M 131 j7), M)
def fX11_drawn_j36 (a1 : Int32) (a2 : Int32) (s0 : Int32) (s1 : Int64) (s2 : Int64) (M : sp_Mem) : Option (Int32 × sp_Mem) :=
  if (fX11_in s2 s1 ((Int32.toInt64 s0) - 1)) = 0 then (some ((-100), M)) else (fX11_drawn_j69 a1 (if a2 = 0 then 9 else (if a2 = 1 then 15 else 21)) M)
def fX11_drawn (M : sp_Mem) (a1 : Int32) (a2 : Int32) : Option (Int32 × sp_Mem) :=
  sp_do (sp_setI M 103 0 0) fun M1 => if (fX11_in (Int32.toInt64 a2) 0 2) = 0 then (some ((-100), M1)) else (if 2 ≤ a2 then (fX11_drawn_j36 a1 a2 (sp_I M1 103 55) 0 (Int32.toInt64 a1) M1) else (fX11_drawn_j36 a1 a2 (sp_I M1 103 54) 0 (Int32.toInt64 a1) M1))
set_option maxRecDepth 100000 in
set_option maxHeartbeats 4000000 in
theorem tX11_drawn_j69 {g : sp_G} {Ω : sp_Mem → Prop} {Q : sp_Qt} {p : (Int32 × sp_Mem)} (hG : sp_Ok Ω)  (hQ : Q (some (.int p.1)) p.2) (a1 : Int32) (s0 : Int32) (M : sp_Mem) (h : fX11_drawn_j69 a1 s0 M = some p) : sp_Wp g Ω mX11_drawn 0 0 69 [some (.ref 103), some (.int a1), none, none] [.int s0] M Q := by
  unfold fX11_drawn_j69 at h
  refine sp_istore_n [some (.ref 103), some (.int a1), none, some (.int s0)] dX11_drawn_69 rfl (by decide) rfl ?_
  refine sp_aload_n dX11_drawn_70 rfl rfl ?_
  refine sp_use (fun ho => ?_)
  have hs := hG.1 _ ho
  refine sp_getR (RX11, TX11, 56) dX11_drawn_71 clX11 (j := 53) (by decide) tw_1268 (wsI_103 hs) (Or.inr ⟨_, rfl⟩) (wsP_103_53 hs) ?_
  refine sp_iload_n dX11_drawn_74 rfl rfl ?_
  refine sp_iconst (v := 5) dX11_drawn_75 (by decide) ?_
  refine sp_isub dX11_drawn_76 ?_
  refine sp_iload_n dX11_drawn_77 rfl rfl ?_
  refine sp_iadd dX11_drawn_78 ?_
  obtain ⟨j7, hj7, h⟩ := Option.bind_eq_some_iff.mp h
  refine sp_iald2 (j := j7) dX11_drawn_79 (wsA_131 hs) (wsN_131 hs) hj7 ?_
  cases h
  exact sp_iret dX11_drawn_80 (ty := .int) rfl rfl (fun _ => hQ)
set_option maxRecDepth 100000 in
set_option maxHeartbeats 4000000 in
theorem tX11_drawn_j36 {g : sp_G} {Ω : sp_Mem → Prop} {Q : sp_Qt} {p : (Int32 × sp_Mem)} (hG : sp_Ok Ω)  (hQ : Q (some (.int p.1)) p.2) (a1 : Int32) (a2 : Int32) (s0 : Int32) (s1 : Int64) (s2 : Int64) (M : sp_Mem) (h : fX11_drawn_j36 a1 a2 s0 s1 s2 M = some p) : sp_Wp g Ω mX11_drawn 0 0 36 [some (.ref 103), some (.int a1), some (.int a2), none] [.int s0, .long s1, .long s2] M Q := by
  unfold fX11_drawn_j36 at h
  refine sp_i2l dX11_drawn_36 ?_
  refine sp_lconst (v := 1) dX11_drawn_37 (by decide) ?_
  refine sp_lsub dX11_drawn_38 ?_
  refine sp_use (fun ho => ?_)
  have hs := hG.1 _ ho
  refine sp_cS (M1 := M) (r := some (.int (fX11_in s2 s1 ((Int32.toInt64 s0) - 1)))) (st := []) [.long s2, .long s1, .long ((Int32.toInt64 s0) - 1)] [.long ((Int32.toInt64 s0) - 1), .long s1, .long s2] [.int (fX11_in s2 s1 ((Int32.toInt64 s0) - 1))] dX11_drawn_39 okX11_in tw_1400 tw_1401 (by decide) (by decide) rfl (Nat.le_of_ble_eq_true rfl) rfl rfl (fun Q hQ => tX11_in hG rfl hQ) ?_
  refine sp_if_ne (tgt := 48) dX11_drawn_42 (by decide) (fun hc4 => ?_) (fun hc4 => ?_)
  · have h := (if_neg hc4).symm.trans h
    refine sp_iload_n dX11_drawn_48 rfl rfl ?_
    suffices hj : sp_Wp g Ω mX11_drawn 0 0 69 [some (.ref 103), some (.int a1), none, none] [.int (if a2 = 0 then 9 else (if a2 = 1 then 15 else 21))] M Q by
      refine sp_if_ne (tgt := 57) dX11_drawn_49 (by decide) (fun hc5 => ?_) (fun hc5 => ?_)
      · refine sp_iload_n dX11_drawn_57 rfl rfl ?_
        refine sp_iconst (v := 1) dX11_drawn_58 (by decide) ?_
        refine sp_icmp_ne (tgt := 67) dX11_drawn_59 (by decide) (fun hc6 => ?_) (fun hc6 => ?_)
        · refine sp_bipush (v := 21) dX11_drawn_67 (by decide) ?_
          refine sp_weak [true, true, false, false] [some (.ref 103), some (.int a1), none, none] rfl ?_
          simp only [if_neg hc5, if_neg hc6] at hj
          exact hj
        · refine sp_bipush (v := 15) dX11_drawn_62 (by decide) ?_
          refine sp_goto (tgt := 69) dX11_drawn_64 (by decide) ?_
          refine sp_weak [true, true, false, false] [some (.ref 103), some (.int a1), none, none] rfl ?_
          simp only [if_neg hc5, if_pos hc6] at hj
          exact hj
      · refine sp_bipush (v := 9) dX11_drawn_52 (by decide) ?_
        refine sp_goto (tgt := 69) dX11_drawn_54 (by decide) ?_
        refine sp_weak [true, true, false, false] [some (.ref 103), some (.int a1), none, none] rfl ?_
        simp only [if_pos hc5] at hj
        exact hj
    refine sp_weak [true, true, false, false] [some (.ref 103), some (.int a1), none, none] rfl ?_
    exact tX11_drawn_j69 hG hQ _ _ _ h
  · have h := (if_pos hc4).symm.trans h
    refine sp_bipush (v := (-100)) dX11_drawn_45 (by decide) ?_
    cases h
    exact sp_iret dX11_drawn_47 (ty := .int) rfl rfl (fun _ => hQ)
set_option maxRecDepth 100000 in
set_option maxHeartbeats 4000000 in
theorem tX11_drawn {g : sp_G} {Ω : sp_Mem → Prop} {Q : sp_Qt} {p : (Int32 × sp_Mem)} (hG : sp_Ok Ω) {M : sp_Mem} {a1 : Int32} {a2 : Int32} (h : fX11_drawn M a1 a2 = some p) (hQ : Q (some (.int p.1)) p.2) : sp_Mt g Ω mX11_drawn 0 0 [.ref 103, .int a1, .int a2] M Q := by
  unfold fX11_drawn at h
  refine sp_Mt.of [some (.ref 103), some (.int a1), some (.int a2), none] (by decide) (by simp [sp_ent, Value.category]) rfl ?_
  refine sp_aload_n dX11_drawn_0 rfl rfl ?_
  refine sp_iconst (v := 0) dX11_drawn_1 (by decide) ?_
  refine sp_use (fun ho => ?_)
  have hs := hG.1 _ ho
  obtain ⟨M1, hM1, h⟩ := sp_do_e h
  refine sp_putI2 (RX11, TX11, 56) hG dX11_drawn_2 clX11 (j := 0) (by decide) tw_1215 rfl (Or.inl rfl) (wsI_103 hs) hM1 ?_
  refine sp_iload_n dX11_drawn_5 rfl rfl ?_
  refine sp_i2l dX11_drawn_6 ?_
  refine sp_lconst (v := 0) dX11_drawn_7 (by decide) ?_
  refine sp_ldc2 (v := 2) dX11_drawn_8 tw_1519 ?_
  refine sp_use (fun ho => ?_)
  have hs := hG.1 _ ho
  refine sp_cS (M1 := M1) (r := some (.int (fX11_in (Int32.toInt64 a2) 0 2))) (st := []) [.long (Int32.toInt64 a2), .long 0, .long 2] [.long 2, .long 0, .long (Int32.toInt64 a2)] [.int (fX11_in (Int32.toInt64 a2) 0 2)] dX11_drawn_11 okX11_in tw_1400 tw_1401 (by decide) (by decide) rfl (Nat.le_of_ble_eq_true rfl) rfl rfl (fun Q hQ => tX11_in hG rfl hQ) ?_
  refine sp_if_eq (tgt := 45) dX11_drawn_14 (by decide) (fun hc2 => ?_) (fun hc2 => ?_)
  · have h := (if_pos hc2).symm.trans h
    refine sp_bipush (v := (-100)) dX11_drawn_45 (by decide) ?_
    cases h
    exact sp_iret dX11_drawn_47 (ty := .int) rfl rfl (fun _ => hQ)
  · have h := (if_neg hc2).symm.trans h
    refine sp_iload_n dX11_drawn_17 rfl rfl ?_
    refine sp_i2l dX11_drawn_18 ?_
    refine sp_lconst (v := 0) dX11_drawn_19 (by decide) ?_
    refine sp_iload_n dX11_drawn_20 rfl rfl ?_
    refine sp_iconst (v := 2) dX11_drawn_21 (by decide) ?_
    refine sp_icmp_ge (tgt := 32) dX11_drawn_22 (by decide) (fun hc3 => ?_) (fun hc3 => ?_)
    · have h := (if_pos hc3).symm.trans h
      refine sp_aload_n dX11_drawn_32 rfl rfl ?_
      refine sp_getI (RX11, TX11, 56) dX11_drawn_33 clX11 (j := 55) (by decide) tw_1270 (wsI_103 hs) (Or.inl rfl) ?_
      refine sp_weak [true, true, true, false] [some (.ref 103), some (.int a1), some (.int a2), none] rfl ?_
      exact tX11_drawn_j36 hG hQ _ _ _ _ _ _ h
    · have h := (if_neg hc3).symm.trans h
      refine sp_aload_n dX11_drawn_25 rfl rfl ?_
      refine sp_getI (RX11, TX11, 56) dX11_drawn_26 clX11 (j := 54) (by decide) tw_1269 (wsI_103 hs) (Or.inl rfl) ?_
      refine sp_goto (tgt := 36) dX11_drawn_29 (by decide) ?_
      refine sp_weak [true, true, true, false] [some (.ref 103), some (.int a1), some (.int a2), none] rfl ?_
      exact tX11_drawn_j36 hG hQ _ _ _ _ _ _ h
def fX11_count (F : Nat) (M : sp_Mem) (a1 : Int32) : Option (Int32 × sp_Mem) :=
  sp_do (sp_setI M 103 0 0) fun M1 => if a1 = 0 then (some ((sp_I M1 105 0), M1)) else if a1 = 1 then ((fX11_looseOnes F M1).bind fun v4 => (fX11_ones F v4).bind fun v5 => some (v5, M1)) else if a1 = 2 then (some ((sp_I M1 105 1), M1)) else if a1 = 3 then (some ((sp_I M1 105 2), M1)) else if a1 = 4 then (some ((sp_I M1 105 3), M1)) else if a1 = 5 then (some ((sp_I M1 103 8), M1)) else if a1 = 6 then (some ((sp_I M1 103 13), M1)) else if a1 = 7 then (some ((sp_I M1 104 1), M1)) else if a1 = 8 then (some ((sp_I M1 104 2), M1)) else if a1 = 9 then (some ((sp_I M1 104 3), M1)) else if a1 = 10 then (some ((sp_I M1 104 5), M1)) else if a1 = 11 then (some ((sp_I M1 104 6), M1)) else if a1 = 12 then (some ((sp_I M1 105 4), M1)) else (if (fX11_in (Int32.toInt64 a1) 13 16) = 0 then (some ((-1), M1)) else ((sp_ix 5480 ((5 + a1) - 13)).bind fun j18 => some ((sp_I M1 105 j18), M1)))
set_option maxRecDepth 100000 in
set_option maxHeartbeats 4000000 in
theorem tX11_count {g : sp_G} {Ω : sp_Mem → Prop} {Q : sp_Qt} {F : Nat} {p : (Int32 × sp_Mem)} (hG : sp_Ok Ω) {M : sp_Mem} {a1 : Int32} (h : fX11_count F M a1 = some p) (hQ : Q (some (.int p.1)) p.2) : sp_Mt g Ω mX11_count 0 0 [.ref 103, .int a1] M Q := by
  unfold fX11_count at h
  refine sp_Mt.of [some (.ref 103), some (.int a1)] (by decide) (by simp [sp_ent, Value.category]) rfl ?_
  refine sp_aload_n dX11_count_0 rfl rfl ?_
  refine sp_iconst (v := 0) dX11_count_1 (by decide) ?_
  refine sp_use (fun ho => ?_)
  have hs := hG.1 _ ho
  obtain ⟨M1, hM1, h⟩ := sp_do_e h
  refine sp_putI2 (RX11, TX11, 56) hG dX11_count_2 clX11 (j := 0) (by decide) tw_1215 rfl (Or.inl rfl) (wsI_103 hs) hM1 ?_
  refine sp_iload_n dX11_count_5 rfl rfl ?_
  by_cases hc2 : a1 = 0
  · have h := (if_pos hc2).symm.trans h
    refine sp_tswI (tgt := 72) dX11_count_6 (by rw [hc2]; decide) (by rw [hc2]; decide) (by rw [hc2]; rfl) (by decide) ?_
    refine sp_aload_n dX11_count_72 rfl rfl ?_
    refine sp_use (fun ho => ?_)
    have hs := hG.1 _ ho
    refine sp_getR (RX11, TX11, 56) dX11_count_73 clX11 (j := 3) (by decide) tw_1218 (wsI_103 hs) (Or.inr ⟨_, rfl⟩) (wsP_103_3 hs) ?_
    refine sp_iconst (v := 0) dX11_count_76 (by decide) ?_
    refine sp_iald2 (j := 0) dX11_count_77 (wsA_105 hs) (wsN_105 hs) rfl ?_
    cases h
    exact sp_iret dX11_count_78 (ty := .int) rfl rfl (fun _ => hQ)
  have h := (if_neg hc2).symm.trans h
  by_cases hc3 : a1 = 1
  · have h := (if_pos hc3).symm.trans h
    refine sp_tswI (tgt := 79) dX11_count_6 (by rw [hc3]; decide) (by rw [hc3]; decide) (by rw [hc3]; rfl) (by decide) ?_
    refine sp_aload_n dX11_count_79 rfl rfl ?_
    refine sp_use (fun ho => ?_)
    have hs := hG.1 _ ho
    obtain ⟨v4, hv4, h⟩ := Option.bind_eq_some_iff.mp h
    refine sp_cV (M1 := M1) (r := some (.int v4)) (o := 103) (st := []) (c := 10) (RX11, TX11, 56) [] [.ref 103] [.int v4] dX11_count_80 okX11_looseOnes tw_1860 tw_1862 tw_93 (by decide) (by decide) rfl (Nat.le_of_ble_eq_true rfl) rfl rfl rfl rfl (wsI_103 hs) (fun Q hQ => tX11_looseOnes hG hv4 hQ) ?_
    obtain ⟨v5, hv5, h⟩ := Option.bind_eq_some_iff.mp h
    refine sp_cS (M1 := M1) (r := some (.int v5)) (st := []) [.int v4] [.int v4] [.int v5] dX11_count_83 okX11_ones tw_1793 tw_1794 (by decide) (by decide) rfl (Nat.le_of_ble_eq_true rfl) rfl rfl (fun Q hQ => tX11_ones hG hv5 hQ) ?_
    cases h
    exact sp_iret dX11_count_86 (ty := .int) rfl rfl (fun _ => hQ)
  have h := (if_neg hc3).symm.trans h
  by_cases hc6 : a1 = 2
  · have h := (if_pos hc6).symm.trans h
    refine sp_tswI (tgt := 87) dX11_count_6 (by rw [hc6]; decide) (by rw [hc6]; decide) (by rw [hc6]; rfl) (by decide) ?_
    refine sp_aload_n dX11_count_87 rfl rfl ?_
    refine sp_use (fun ho => ?_)
    have hs := hG.1 _ ho
    refine sp_getR (RX11, TX11, 56) dX11_count_88 clX11 (j := 3) (by decide) tw_1218 (wsI_103 hs) (Or.inr ⟨_, rfl⟩) (wsP_103_3 hs) ?_
    refine sp_iconst (v := 1) dX11_count_91 (by decide) ?_
    refine sp_iald2 (j := 1) dX11_count_92 (wsA_105 hs) (wsN_105 hs) rfl ?_
    cases h
    exact sp_iret dX11_count_93 (ty := .int) rfl rfl (fun _ => hQ)
  have h := (if_neg hc6).symm.trans h
  by_cases hc7 : a1 = 3
  · have h := (if_pos hc7).symm.trans h
    refine sp_tswI (tgt := 94) dX11_count_6 (by rw [hc7]; decide) (by rw [hc7]; decide) (by rw [hc7]; rfl) (by decide) ?_
    refine sp_aload_n dX11_count_94 rfl rfl ?_
    refine sp_use (fun ho => ?_)
    have hs := hG.1 _ ho
    refine sp_getR (RX11, TX11, 56) dX11_count_95 clX11 (j := 3) (by decide) tw_1218 (wsI_103 hs) (Or.inr ⟨_, rfl⟩) (wsP_103_3 hs) ?_
    refine sp_iconst (v := 2) dX11_count_98 (by decide) ?_
    refine sp_iald2 (j := 2) dX11_count_99 (wsA_105 hs) (wsN_105 hs) rfl ?_
    cases h
    exact sp_iret dX11_count_100 (ty := .int) rfl rfl (fun _ => hQ)
  have h := (if_neg hc7).symm.trans h
  by_cases hc8 : a1 = 4
  · have h := (if_pos hc8).symm.trans h
    refine sp_tswI (tgt := 101) dX11_count_6 (by rw [hc8]; decide) (by rw [hc8]; decide) (by rw [hc8]; rfl) (by decide) ?_
    refine sp_aload_n dX11_count_101 rfl rfl ?_
    refine sp_use (fun ho => ?_)
    have hs := hG.1 _ ho
    refine sp_getR (RX11, TX11, 56) dX11_count_102 clX11 (j := 3) (by decide) tw_1218 (wsI_103 hs) (Or.inr ⟨_, rfl⟩) (wsP_103_3 hs) ?_
    refine sp_iconst (v := 3) dX11_count_105 (by decide) ?_
    refine sp_iald2 (j := 3) dX11_count_106 (wsA_105 hs) (wsN_105 hs) rfl ?_
    cases h
    exact sp_iret dX11_count_107 (ty := .int) rfl rfl (fun _ => hQ)
  have h := (if_neg hc8).symm.trans h
  by_cases hc9 : a1 = 5
  · have h := (if_pos hc9).symm.trans h
    refine sp_tswI (tgt := 108) dX11_count_6 (by rw [hc9]; decide) (by rw [hc9]; decide) (by rw [hc9]; rfl) (by decide) ?_
    refine sp_aload_n dX11_count_108 rfl rfl ?_
    refine sp_use (fun ho => ?_)
    have hs := hG.1 _ ho
    refine sp_getI (RX11, TX11, 56) dX11_count_109 clX11 (j := 8) (by decide) tw_1223 (wsI_103 hs) (Or.inl rfl) ?_
    cases h
    exact sp_iret dX11_count_112 (ty := .int) rfl rfl (fun _ => hQ)
  have h := (if_neg hc9).symm.trans h
  by_cases hc10 : a1 = 6
  · have h := (if_pos hc10).symm.trans h
    refine sp_tswI (tgt := 113) dX11_count_6 (by rw [hc10]; decide) (by rw [hc10]; decide) (by rw [hc10]; rfl) (by decide) ?_
    refine sp_aload_n dX11_count_113 rfl rfl ?_
    refine sp_use (fun ho => ?_)
    have hs := hG.1 _ ho
    refine sp_getI (RX11, TX11, 56) dX11_count_114 clX11 (j := 13) (by decide) tw_1228 (wsI_103 hs) (Or.inl rfl) ?_
    cases h
    exact sp_iret dX11_count_117 (ty := .int) rfl rfl (fun _ => hQ)
  have h := (if_neg hc10).symm.trans h
  by_cases hc11 : a1 = 7
  · have h := (if_pos hc11).symm.trans h
    refine sp_tswI (tgt := 118) dX11_count_6 (by rw [hc11]; decide) (by rw [hc11]; decide) (by rw [hc11]; rfl) (by decide) ?_
    refine sp_aload_n dX11_count_118 rfl rfl ?_
    refine sp_use (fun ho => ?_)
    have hs := hG.1 _ ho
    refine sp_getR (RX11, TX11, 56) dX11_count_119 clX11 (j := 2) (by decide) tw_1217 (wsI_103 hs) (Or.inr ⟨_, rfl⟩) (wsP_103_2 hs) ?_
    refine sp_iconst (v := 1) dX11_count_122 (by decide) ?_
    refine sp_iald2 (j := 1) dX11_count_123 (wsA_104 hs) (wsN_104 hs) rfl ?_
    cases h
    exact sp_iret dX11_count_124 (ty := .int) rfl rfl (fun _ => hQ)
  have h := (if_neg hc11).symm.trans h
  by_cases hc12 : a1 = 8
  · have h := (if_pos hc12).symm.trans h
    refine sp_tswI (tgt := 125) dX11_count_6 (by rw [hc12]; decide) (by rw [hc12]; decide) (by rw [hc12]; rfl) (by decide) ?_
    refine sp_aload_n dX11_count_125 rfl rfl ?_
    refine sp_use (fun ho => ?_)
    have hs := hG.1 _ ho
    refine sp_getR (RX11, TX11, 56) dX11_count_126 clX11 (j := 2) (by decide) tw_1217 (wsI_103 hs) (Or.inr ⟨_, rfl⟩) (wsP_103_2 hs) ?_
    refine sp_iconst (v := 2) dX11_count_129 (by decide) ?_
    refine sp_iald2 (j := 2) dX11_count_130 (wsA_104 hs) (wsN_104 hs) rfl ?_
    cases h
    exact sp_iret dX11_count_131 (ty := .int) rfl rfl (fun _ => hQ)
  have h := (if_neg hc12).symm.trans h
  by_cases hc13 : a1 = 9
  · have h := (if_pos hc13).symm.trans h
    refine sp_tswI (tgt := 132) dX11_count_6 (by rw [hc13]; decide) (by rw [hc13]; decide) (by rw [hc13]; rfl) (by decide) ?_
    refine sp_aload_n dX11_count_132 rfl rfl ?_
    refine sp_use (fun ho => ?_)
    have hs := hG.1 _ ho
    refine sp_getR (RX11, TX11, 56) dX11_count_133 clX11 (j := 2) (by decide) tw_1217 (wsI_103 hs) (Or.inr ⟨_, rfl⟩) (wsP_103_2 hs) ?_
    refine sp_iconst (v := 3) dX11_count_136 (by decide) ?_
    refine sp_iald2 (j := 3) dX11_count_137 (wsA_104 hs) (wsN_104 hs) rfl ?_
    cases h
    exact sp_iret dX11_count_138 (ty := .int) rfl rfl (fun _ => hQ)
  have h := (if_neg hc13).symm.trans h
  by_cases hc14 : a1 = 10
  · have h := (if_pos hc14).symm.trans h
    refine sp_tswI (tgt := 139) dX11_count_6 (by rw [hc14]; decide) (by rw [hc14]; decide) (by rw [hc14]; rfl) (by decide) ?_
    refine sp_aload_n dX11_count_139 rfl rfl ?_
    refine sp_use (fun ho => ?_)
    have hs := hG.1 _ ho
    refine sp_getR (RX11, TX11, 56) dX11_count_140 clX11 (j := 2) (by decide) tw_1217 (wsI_103 hs) (Or.inr ⟨_, rfl⟩) (wsP_103_2 hs) ?_
    refine sp_iconst (v := 5) dX11_count_143 (by decide) ?_
    refine sp_iald2 (j := 5) dX11_count_144 (wsA_104 hs) (wsN_104 hs) rfl ?_
    cases h
    exact sp_iret dX11_count_145 (ty := .int) rfl rfl (fun _ => hQ)
  have h := (if_neg hc14).symm.trans h
  by_cases hc15 : a1 = 11
  · have h := (if_pos hc15).symm.trans h
    refine sp_tswI (tgt := 146) dX11_count_6 (by rw [hc15]; decide) (by rw [hc15]; decide) (by rw [hc15]; rfl) (by decide) ?_
    refine sp_aload_n dX11_count_146 rfl rfl ?_
    refine sp_use (fun ho => ?_)
    have hs := hG.1 _ ho
    refine sp_getR (RX11, TX11, 56) dX11_count_147 clX11 (j := 2) (by decide) tw_1217 (wsI_103 hs) (Or.inr ⟨_, rfl⟩) (wsP_103_2 hs) ?_
    refine sp_bipush (v := 6) dX11_count_150 (by decide) ?_
    refine sp_iald2 (j := 6) dX11_count_152 (wsA_104 hs) (wsN_104 hs) rfl ?_
    cases h
    exact sp_iret dX11_count_153 (ty := .int) rfl rfl (fun _ => hQ)
  have h := (if_neg hc15).symm.trans h
  by_cases hc16 : a1 = 12
  · have h := (if_pos hc16).symm.trans h
    refine sp_tswI (tgt := 154) dX11_count_6 (by rw [hc16]; decide) (by rw [hc16]; decide) (by rw [hc16]; rfl) (by decide) ?_
    refine sp_aload_n dX11_count_154 rfl rfl ?_
    refine sp_use (fun ho => ?_)
    have hs := hG.1 _ ho
    refine sp_getR (RX11, TX11, 56) dX11_count_155 clX11 (j := 3) (by decide) tw_1218 (wsI_103 hs) (Or.inr ⟨_, rfl⟩) (wsP_103_3 hs) ?_
    refine sp_iconst (v := 4) dX11_count_158 (by decide) ?_
    refine sp_iald2 (j := 4) dX11_count_159 (wsA_105 hs) (wsN_105 hs) rfl ?_
    cases h
    exact sp_iret dX11_count_160 (ty := .int) rfl rfl (fun _ => hQ)
  have h := (if_neg hc16).symm.trans h
  have hc2 := sp_ne hc2 (show (0 : Int32).toInt = 0 by decide)
  have hc3 := sp_ne hc3 (show (1 : Int32).toInt = 1 by decide)
  have hc6 := sp_ne hc6 (show (2 : Int32).toInt = 2 by decide)
  have hc7 := sp_ne hc7 (show (3 : Int32).toInt = 3 by decide)
  have hc8 := sp_ne hc8 (show (4 : Int32).toInt = 4 by decide)
  have hc9 := sp_ne hc9 (show (5 : Int32).toInt = 5 by decide)
  have hc10 := sp_ne hc10 (show (6 : Int32).toInt = 6 by decide)
  have hc11 := sp_ne hc11 (show (7 : Int32).toInt = 7 by decide)
  have hc12 := sp_ne hc12 (show (8 : Int32).toInt = 8 by decide)
  have hc13 := sp_ne hc13 (show (9 : Int32).toInt = 9 by decide)
  have hc14 := sp_ne hc14 (show (10 : Int32).toInt = 10 by decide)
  have hc15 := sp_ne hc15 (show (11 : Int32).toInt = 11 by decide)
  have hc16 := sp_ne hc16 (show (12 : Int32).toInt = 12 by decide)
  refine sp_tswO (tgt := 161) dX11_count_6 (by omega) (by decide) ?_
  refine sp_iload_n dX11_count_161 rfl rfl ?_
  refine sp_i2l dX11_count_162 ?_
  refine sp_ldc2 (v := 13) dX11_count_163 tw_1899 ?_
  refine sp_ldc2 (v := 16) dX11_count_166 tw_1900 ?_
  refine sp_use (fun ho => ?_)
  have hs := hG.1 _ ho
  refine sp_cS (M1 := M1) (r := some (.int (fX11_in (Int32.toInt64 a1) 13 16))) (st := []) [.long (Int32.toInt64 a1), .long 13, .long 16] [.long 16, .long 13, .long (Int32.toInt64 a1)] [.int (fX11_in (Int32.toInt64 a1) 13 16)] dX11_count_169 okX11_in tw_1400 tw_1401 (by decide) (by decide) rfl (Nat.le_of_ble_eq_true rfl) rfl rfl (fun Q hQ => tX11_in hG rfl hQ) ?_
  refine sp_if_eq (tgt := 189) dX11_count_172 (by decide) (fun hc17 => ?_) (fun hc17 => ?_)
  · have h := (if_pos hc17).symm.trans h
    refine sp_iconst (v := (-1)) dX11_count_189 (by decide) ?_
    cases h
    exact sp_iret dX11_count_190 (ty := .int) rfl rfl (fun _ => hQ)
  · have h := (if_neg hc17).symm.trans h
    refine sp_aload_n dX11_count_175 rfl rfl ?_
    refine sp_getR (RX11, TX11, 56) dX11_count_176 clX11 (j := 3) (by decide) tw_1218 (wsI_103 hs) (Or.inr ⟨_, rfl⟩) (wsP_103_3 hs) ?_
    refine sp_iconst (v := 5) dX11_count_179 (by decide) ?_
    refine sp_iload_n dX11_count_180 rfl rfl ?_
    refine sp_iadd dX11_count_181 ?_
    refine sp_bipush (v := 13) dX11_count_182 (by decide) ?_
    refine sp_isub dX11_count_184 ?_
    obtain ⟨j18, hj18, h⟩ := Option.bind_eq_some_iff.mp h
    refine sp_iald2 (j := j18) dX11_count_185 (wsA_105 hs) (wsN_105 hs) hj18 ?_
    refine sp_goto (tgt := 190) dX11_count_186 (by decide) ?_
    cases h
    exact sp_iret dX11_count_190 (ty := .int) rfl rfl (fun _ => hQ)
