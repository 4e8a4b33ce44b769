def fX2_closes_j66 (F : Nat) (a1 : Int32) (s0 : Int32) (s1 : Int32) (M : sp_Mem) : Option (Int32 × sp_Mem) :=
  if s1 = s0 then (sp_do (sp_setI M 96 4 ((sp_I M 96 4) - 1)) fun M10 => sp_do (sp_setI M10 96 5 ((sp_I M10 96 5) - 1)) fun M11 => sp_do (sp_setI M11 96 8 a1) fun M12 => (sp_b01 a1).bind fun _ => (fX8_toNext F M12).bind fun M14 => some (1, M14)) else (some (0, M))
def fX2_closes_j48 (F : Nat) (a1 : Int32) (s0 : Int32) (M : sp_Mem) : Option (Int32 × sp_Mem) :=
  (fX2_fold F M s0).bind fun M6 => (fX2_top M6).bind fun v7 => fX2_closes_j66 F a1 (if a1 = 0 then 22 else 23) v7 M6
def fX2_closes_j38 (F : Nat) (a1 : Int32) (M : sp_Mem) : Option (Int32 × sp_Mem) :=
  fX2_closes_j48 F a1 (if a1 = 0 then 5 else 1) M
def fX2_closes (F : Nat) (M : sp_Mem) : Option (Int32 × sp_Mem) :=
  (fX8_isSign M 41).bind fun v1 => if v1 = 0 then ((fX8_isSign M 93).bind fun v3 => if v3 = 0 then (some (0, M)) else (fX2_closes_j38 F v1 M)) else ((fX2_isTest F M).bind fun x15 => if x15.1 = 0 then (some (0, x15.2)) else (fX2_closes_j38 F v1 x15.2))
set_option maxRecDepth 100000 in
set_option maxHeartbeats 4000000 in
theorem tX2_closes_j66 {g : sp_G} {Ω : sp_Mem → Prop} {Q : sp_Qt} {F : Nat} {p : (Int32 × sp_Mem)} (hG : sp_Ok Ω)  (hQ : Q (some (.int p.1)) p.2) (a1 : Int32) (s0 : Int32) (s1 : Int32) (M : sp_Mem) (h : fX2_closes_j66 F a1 s0 s1 M = some p) : sp_Wp g Ω mX2_closes 0 0 66 [some (.ref 96), some (.int a1)] [.int s0, .int s1] M Q := by
  unfold fX2_closes_j66 at h
  refine sp_icmp_eq (tgt := 71) dX2_closes_66 (by decide) (fun hc9 => ?_) (fun hc9 => ?_)
  · have h := (if_pos hc9).symm.trans h
    refine sp_aload_n dX2_closes_71 rfl rfl ?_
    refine sp_dup dX2_closes_72 rfl ?_
    refine sp_use (fun ho => ?_)
    have hs := hG.1 _ ho
    refine sp_getI (RX2, TX2, 9) dX2_closes_73 clX2 (j := 4) (by decide) tw_391 (wsI_96 hs) (Or.inl rfl) ?_
    refine sp_iconst (v := 1) dX2_closes_76 (by decide) ?_
    refine sp_isub dX2_closes_77 ?_
    obtain ⟨M10, hM10, h⟩ := sp_do_e h
    refine sp_putI2 (RX2, TX2, 9) hG dX2_closes_78 clX2 (j := 4) (by decide) tw_391 rfl (Or.inl rfl) (wsI_96 hs) hM10 ?_
    refine sp_aload_n dX2_closes_81 rfl rfl ?_
    refine sp_dup dX2_closes_82 rfl ?_
    refine sp_use (fun ho => ?_)
    have hs := hG.1 _ ho
    refine sp_getI (RX2, TX2, 9) dX2_closes_83 clX2 (j := 5) (by decide) tw_392 (wsI_96 hs) (Or.inl rfl) ?_
    refine sp_iconst (v := 1) dX2_closes_86 (by decide) ?_
    refine sp_isub dX2_closes_87 ?_
    obtain ⟨M11, hM11, h⟩ := sp_do_e h
    refine sp_putI2 (RX2, TX2, 9) hG dX2_closes_88 clX2 (j := 5) (by decide) tw_392 rfl (Or.inl rfl) (wsI_96 hs) hM11 ?_
    refine sp_aload_n dX2_closes_91 rfl rfl ?_
    refine sp_iload_n dX2_closes_92 rfl rfl ?_
    refine sp_use (fun ho => ?_)
    have hs := hG.1 _ ho
    obtain ⟨M12, hM12, h⟩ := sp_do_e h
    obtain ⟨_, hz13, h⟩ := Option.bind_eq_some_iff.mp h
    refine sp_putI2 (RX2, TX2, 9) hG dX2_closes_93 clX2 (j := 8) (by decide) tw_395 rfl (Or.inr ⟨rfl, (sp_b01_e hz13)⟩) (wsI_96 hs) hM12 ?_
    refine sp_aload_n dX2_closes_96 rfl rfl ?_
    refine sp_use (fun ho => ?_)
    have hs := hG.1 _ ho
    refine sp_getR (RX2, TX2, 9) dX2_closes_97 clX2 (j := 0) (by decide) tw_386 (wsI_96 hs) (Or.inl ⟨_, rfl⟩) (wsP_96_0 hs) ?_
    obtain ⟨M14, hM14, h⟩ := Option.bind_eq_some_iff.mp h
    refine sp_cV (M1 := M14) (r := none) (o := 94) (st := []) (c := 7) (RX8, TX8, 5) [] [.ref 94] [] dX2_closes_100 okX8_toNext tw_721 tw_652 tw_653 (by decide) (by decide) rfl (Nat.le_of_ble_eq_true rfl) rfl rfl rfl rfl (wsI_94 hs) (fun Q hQ => tX8_toNext hG hM14 hQ) ?_
    refine sp_iconst (v := 1) dX2_closes_103 (by decide) ?_
    cases h
    exact sp_iret dX2_closes_104 (ty := .boolean) rfl (sp_nz (Or.inr rfl)) (fun _ => hQ)
  · have h := (if_neg hc9).symm.trans h
    refine sp_iconst (v := 0) dX2_closes_69 (by decide) ?_
    cases h
    exact sp_iret dX2_closes_70 (ty := .boolean) rfl (sp_nz (Or.inl rfl)) (fun _ => hQ)
set_option maxRecDepth 100000 in
set_option maxHeartbeats 4000000 in
theorem tX2_closes_j48 {g : sp_G} {Ω : sp_Mem → Prop} {Q : sp_Qt} {F : Nat} {p : (Int32 × sp_Mem)} (hG : sp_Ok Ω)  (hQ : Q (some (.int p.1)) p.2) (a1 : Int32) (s0 : Int32) (M : sp_Mem) (h : fX2_closes_j48 F a1 s0 M = some p) : sp_Wp g Ω mX2_closes 0 0 48 [some (.ref 96), some (.int a1)] [.int s0, .ref 96] M Q := by
  unfold fX2_closes_j48 at h
  refine sp_use (fun ho => ?_)
  have hs := hG.1 _ ho
  obtain ⟨M6, hM6, h⟩ := Option.bind_eq_some_iff.mp h
  refine sp_cV (M1 := M6) (r := none) (o := 96) (st := []) (c := 2) (RX2, TX2, 9) [.int s0] [.int s0, .ref 96] [] dX2_closes_48 okX2_fold tw_779 tw_781 tw_13 (by decide) (by decide) rfl (Nat.le_of_ble_eq_true rfl) rfl rfl rfl rfl (wsI_96 hs) (fun Q hQ => tX2_fold hG hM6 hQ) ?_
  refine sp_aload_n dX2_closes_51 rfl rfl ?_
  refine sp_use (fun ho => ?_)
  have hs := hG.1 _ ho
  obtain ⟨v7, hv7, h⟩ := Option.bind_eq_some_iff.mp h
  refine sp_cV (M1 := M6) (r := some (.int v7)) (o := 96) (st := []) (c := 2) (RX2, TX2, 9) [] [.ref 96] [.int v7] dX2_closes_52 okX2_top tw_747 tw_749 tw_9 (by decide) (by decide) rfl (Nat.le_of_ble_eq_true rfl) rfl rfl rfl rfl (wsI_96 hs) (fun Q hQ => tX2_top hG hv7 hQ) ?_
  refine sp_iload_n dX2_closes_55 rfl rfl ?_
  suffices hj : sp_Wp g Ω mX2_closes 0 0 66 [some (.ref 96), some (.int a1)] [.int (if a1 = 0 then 22 else 23), .int v7] M6 Q by
    refine sp_if_eq (tgt := 64) dX2_closes_56 (by decide) (fun hc8 => ?_) (fun hc8 => ?_)
    · refine sp_bipush (v := 22) dX2_closes_64 (by decide) ?_
      simp only [if_pos hc8] at hj
      exact hj
    · refine sp_bipush (v := 23) dX2_closes_59 (by decide) ?_
      refine sp_goto (tgt := 66) dX2_closes_61 (by decide) ?_
      simp only [if_neg hc8] at hj
      exact hj
  refine sp_weak [true, true] [some (.ref 96), some (.int a1)] rfl ?_
  exact tX2_closes_j66 hG hQ _ _ _ _ h
set_option maxRecDepth 100000 in
set_option maxHeartbeats 4000000 in
theorem tX2_closes_j38 {g : sp_G} {Ω : sp_Mem → Prop} {Q : sp_Qt} {F : Nat} {p : (Int32 × sp_Mem)} (hG : sp_Ok Ω)  (hQ : Q (some (.int p.1)) p.2) (a1 : Int32) (M : sp_Mem) (h : fX2_closes_j38 F a1 M = some p) : sp_Wp g Ω mX2_closes 0 0 38 [some (.ref 96), some (.int a1)] [] M Q := by
  unfold fX2_closes_j38 at h
  refine sp_aload_n dX2_closes_38 rfl rfl ?_
  refine sp_iload_n dX2_closes_39 rfl rfl ?_
  suffices hj : sp_Wp g Ω mX2_closes 0 0 48 [some (.ref 96), some (.int a1)] [.int (if a1 = 0 then 5 else 1), .ref 96] M Q by
    refine sp_if_eq (tgt := 47) dX2_closes_40 (by decide) (fun hc5 => ?_) (fun hc5 => ?_)
    · refine sp_iconst (v := 5) dX2_closes_47 (by decide) ?_
      simp only [if_pos hc5] at hj
      exact hj
    · refine sp_iconst (v := 1) dX2_closes_43 (by decide) ?_
      refine sp_goto (tgt := 48) dX2_closes_44 (by decide) ?_
      simp only [if_neg hc5] at hj
      exact hj
  refine sp_weak [true, true] [some (.ref 96), some (.int a1)] rfl ?_
  exact tX2_closes_j48 hG hQ _ _ _ h
set_option maxRecDepth 100000 in
set_option maxHeartbeats 4000000 in
theorem tX2_closes {g : sp_G} {Ω : sp_Mem → Prop} {Q : sp_Qt} {F : Nat} {p : (Int32 × sp_Mem)} (hG : sp_Ok Ω) {M : sp_Mem} (h : fX2_closes F M = some p) (hQ : Q (some (.int p.1)) p.2) : sp_Mt g Ω mX2_closes 0 0 [.ref 96] M Q := by
  unfold fX2_closes at h
  refine sp_Mt.of [some (.ref 96), none] (by decide) (by simp [sp_ent, Value.category]) rfl ?_
  refine sp_aload_n dX2_closes_0 rfl rfl ?_
  refine sp_use (fun ho => ?_)
  have hs := hG.1 _ ho
  refine sp_getR (RX2, TX2, 9) dX2_closes_1 clX2 (j := 0) (by decide) tw_386 (wsI_96 hs) (Or.inl ⟨_, rfl⟩) (wsP_96_0 hs) ?_
  refine sp_bipush (v := 41) dX2_closes_4 (by decide) ?_
  obtain ⟨v1, hv1, h⟩ := Option.bind_eq_some_iff.mp h
  refine sp_cV (M1 := M) (r := some (.int v1)) (o := 94) (st := []) (c := 7) (RX8, TX8, 5) [.int 41] [.int 41, .ref 94] [.int v1] dX2_closes_6 okX8_isSign tw_739 tw_740 tw_741 (by decide) (by decide) rfl (Nat.le_of_ble_eq_true rfl) rfl rfl rfl rfl (wsI_94 hs) (fun Q hQ => tX8_isSign hG hv1 hQ) ?_
  refine sp_istore_n [some (.ref 96), some (.int v1)] dX2_closes_9 rfl (by decide) rfl ?_
  refine sp_iload_n dX2_closes_10 rfl rfl ?_
  refine sp_if_eq (tgt := 24) dX2_closes_11 (by decide) (fun hc2 => ?_) (fun hc2 => ?_)
  · have h := (if_pos hc2).symm.trans h
    refine sp_aload_n dX2_closes_24 rfl rfl ?_
    refine sp_getR (RX2, TX2, 9) dX2_closes_25 clX2 (j := 0) (by decide) tw_386 (wsI_96 hs) (Or.inl ⟨_, rfl⟩) (wsP_96_0 hs) ?_
    refine sp_bipush (v := 93) dX2_closes_28 (by decide) ?_
    obtain ⟨v3, hv3, h⟩ := Option.bind_eq_some_iff.mp h
    refine sp_cV (M1 := M) (r := some (.int v3)) (o := 94) (st := []) (c := 7) (RX8, TX8, 5) [.int 93] [.int 93, .ref 94] [.int v3] dX2_closes_30 okX8_isSign tw_739 tw_740 tw_741 (by decide) (by decide) rfl (Nat.le_of_ble_eq_true rfl) rfl rfl rfl rfl (wsI_94 hs) (fun Q hQ => tX8_isSign hG hv3 hQ) ?_
    refine sp_if_ne (tgt := 38) dX2_closes_33 (by decide) (fun hc4 => ?_) (fun hc4 => ?_)
    · have h := (if_neg hc4).symm.trans h
      refine sp_weak [true, true] [some (.ref 96), some (.int v1)] rfl ?_
      exact tX2_closes_j38 hG hQ _ _ h
    · have h := (if_pos hc4).symm.trans h
      refine sp_iconst (v := 0) dX2_closes_36 (by decide) ?_
      cases h
      exact sp_iret dX2_closes_37 (ty := .boolean) rfl (sp_nz (Or.inl rfl)) (fun _ => hQ)
  · have h := (if_neg hc2).symm.trans h
    refine sp_aload_n dX2_closes_14 rfl rfl ?_
    obtain ⟨x15, hx15, h⟩ := Option.bind_eq_some_iff.mp h
    refine sp_cV (M1 := x15.2) (r := some (.int x15.1)) (o := 96) (st := []) (c := 2) (RX2, TX2, 9) [] [.ref 96] [.int x15.1] dX2_closes_15 okX2_isTest tw_787 tw_789 tw_14 (by decide) (by decide) rfl (Nat.le_of_ble_eq_true rfl) rfl rfl rfl rfl (wsI_96 hs) (fun Q hQ => tX2_isTest hG hx15 hQ) ?_
    refine sp_if_ne (tgt := 38) dX2_closes_18 (by decide) (fun hc16 => ?_) (fun hc16 => ?_)
    · have h := (if_neg hc16).symm.trans h
      refine sp_weak [true, true] [some (.ref 96), some (.int v1)] rfl ?_
      exact tX2_closes_j38 hG hQ _ _ h
    · have h := (if_pos hc16).symm.trans h
      refine sp_goto (tgt := 36) dX2_closes_21 (by decide) ?_
      refine sp_iconst (v := 0) dX2_closes_36 (by decide) ?_
      cases h
      exact sp_iret dX2_closes_37 (ty := .boolean) rfl (sp_nz (Or.inl rfl)) (fun _ => hQ)
def fX2_isWhole (F : Nat) (M : sp_Mem) : Option (Int32 × sp_Mem) :=
  (fX2_fold F M 5).bind fun M1 => (fX2_top M1).bind fun v2 => if v2 = 20 then ((fX9_addStep M1 97 0 0).bind fun M4 => some (1, M4)) else ((fX2_isTest F M1).bind fun x5 => if x5.1 = 0 then (some (0, x5.2)) else ((fX2_fold F x5.2 1).bind fun M7 => (fX2_top M7).bind fun v8 => if v8 = 21 then ((fX9_addStep M7 97 0 0).bind fun M10 => some (1, M10)) else (some (0, M7))))
set_option maxRecDepth 100000 in
set_option maxHeartbeats 4000000 in
theorem tX2_isWhole {g : sp_G} {Ω : sp_Mem → Prop} {Q : sp_Qt} {F : Nat} {p : (Int32 × sp_Mem)} (hG : sp_Ok Ω) {M : sp_Mem} (h : fX2_isWhole F M = some p) (hQ : Q (some (.int p.1)) p.2) : sp_Mt g Ω mX2_isWhole 0 0 [.ref 96] M Q := by
  unfold fX2_isWhole at h
  refine sp_Mt.of [some (.ref 96)] (by decide) (by simp [sp_ent, Value.category]) rfl ?_
  refine sp_aload_n dX2_isWhole_0 rfl rfl ?_
  refine sp_iconst (v := 5) dX2_isWhole_1 (by decide) ?_
  refine sp_use (fun ho => ?_)
  have hs := hG.1 _ ho
  obtain ⟨M1, hM1, h⟩ := Option.bind_eq_some_iff.mp h
  refine sp_cV (M1 := M1) (r := none) (o := 96) (st := []) (c := 2) (RX2, TX2, 9) [.int 5] [.int 5, .ref 96] [] dX2_isWhole_2 okX2_fold tw_779 tw_781 tw_13 (by decide) (by decide) rfl (Nat.le_of_ble_eq_true rfl) rfl rfl rfl rfl (wsI_96 hs) (fun Q hQ => tX2_fold hG hM1 hQ) ?_
  refine sp_aload_n dX2_isWhole_5 rfl rfl ?_
  refine sp_use (fun ho => ?_)
  have hs := hG.1 _ ho
  obtain ⟨v2, hv2, h⟩ := Option.bind_eq_some_iff.mp h
  refine sp_cV (M1 := M1) (r := some (.int v2)) (o := 96) (st := []) (c := 2) (RX2, TX2, 9) [] [.ref 96] [.int v2] dX2_isWhole_6 okX2_top tw_747 tw_749 tw_9 (by decide) (by decide) rfl (Nat.le_of_ble_eq_true rfl) rfl rfl rfl rfl (wsI_96 hs) (fun Q hQ => tX2_top hG hv2 hQ) ?_
  refine sp_bipush (v := 20) dX2_isWhole_9 (by decide) ?_
  refine sp_icmp_eq (tgt := 39) dX2_isWhole_11 (by decide) (fun hc3 => ?_) (fun hc3 => ?_)
  · have h := (if_pos hc3).symm.trans h
    refine sp_aload_n dX2_isWhole_39 rfl rfl ?_
    refine sp_getR (RX2, TX2, 9) dX2_isWhole_40 clX2 (j := 1) (by decide) tw_387 (wsI_96 hs) (Or.inl ⟨_, rfl⟩) (wsP_96_1 hs) ?_
    refine sp_iconst (v := 0) dX2_isWhole_43 (by decide) ?_
    refine sp_iconst (v := 0) dX2_isWhole_44 (by decide) ?_
    obtain ⟨M4, hM4, h⟩ := Option.bind_eq_some_iff.mp h
    refine sp_cV (M1 := M4) (r := none) (o := 97) (st := []) (c := 8) (RX9, TX9, 4) [.int 0, .int 0] [.int 0, .int 0, .ref 97] [] dX2_isWhole_45 okX9_addStep tw_765 tw_766 tw_767 (by decide) (by decide) rfl (Nat.le_of_ble_eq_true rfl) rfl rfl rfl rfl (wsI_97 hs) (fun Q hQ => tX9_addStep hG (fun M ho => text_97 (hG.1 M ho)) hM4 hQ) ?_
    refine sp_iconst (v := 1) dX2_isWhole_48 (by decide) ?_
    cases h
    exact sp_iret dX2_isWhole_49 (ty := .boolean) rfl (sp_nz (Or.inr rfl)) (fun _ => hQ)
  · have h := (if_neg hc3).symm.trans h
    refine sp_aload_n dX2_isWhole_14 rfl rfl ?_
    obtain ⟨x5, hx5, h⟩ := Option.bind_eq_some_iff.mp h
    refine sp_cV (M1 := x5.2) (r := some (.int x5.1)) (o := 96) (st := []) (c := 2) (RX2, TX2, 9) [] [.ref 96] [.int x5.1] dX2_isWhole_15 okX2_isTest tw_787 tw_789 tw_14 (by decide) (by decide) rfl (Nat.le_of_ble_eq_true rfl) rfl rfl rfl rfl (wsI_96 hs) (fun Q hQ => tX2_isTest hG hx5 hQ) ?_
    refine sp_if_ne (tgt := 23) dX2_isWhole_18 (by decide) (fun hc6 => ?_) (fun hc6 => ?_)
    · have h := (if_neg hc6).symm.trans h
      refine sp_aload_n dX2_isWhole_23 rfl rfl ?_
      refine sp_iconst (v := 1) dX2_isWhole_24 (by decide) ?_
      refine sp_use (fun ho => ?_)
      have hs := hG.1 _ ho
      obtain ⟨M7, hM7, h⟩ := Option.bind_eq_some_iff.mp h
      refine sp_cV (M1 := M7) (r := none) (o := 96) (st := []) (c := 2) (RX2, TX2, 9) [.int 1] [.int 1, .ref 96] [] dX2_isWhole_25 okX2_fold tw_779 tw_781 tw_13 (by decide) (by decide) rfl (Nat.le_of_ble_eq_true rfl) rfl rfl rfl rfl (wsI_96 hs) (fun Q hQ => tX2_fold hG hM7 hQ) ?_
      refine sp_aload_n dX2_isWhole_28 rfl rfl ?_
      refine sp_use (fun ho => ?_)
      have hs := hG.1 _ ho
      obtain ⟨v8, hv8, h⟩ := Option.bind_eq_some_iff.mp h
      refine sp_cV (M1 := M7) (r := some (.int v8)) (o := 96) (st := []) (c := 2) (RX2, TX2, 9) [] [.ref 96] [.int v8] dX2_isWhole_29 okX2_top tw_747 tw_749 tw_9 (by decide) (by decide) rfl (Nat.le_of_ble_eq_true rfl) rfl rfl rfl rfl (wsI_96 hs) (fun Q hQ => tX2_top hG hv8 hQ) ?_
      refine sp_bipush (v := 21) dX2_isWhole_32 (by decide) ?_
      refine sp_icmp_eq (tgt := 39) dX2_isWhole_34 (by decide) (fun hc9 => ?_) (fun hc9 => ?_)
      · have h := (if_pos hc9).symm.trans h
        refine sp_aload_n dX2_isWhole_39 rfl rfl ?_
        refine sp_getR (RX2, TX2, 9) dX2_isWhole_40 clX2 (j := 1) (by decide) tw_387 (wsI_96 hs) (Or.inl ⟨_, rfl⟩) (wsP_96_1 hs) ?_
        refine sp_iconst (v := 0) dX2_isWhole_43 (by decide) ?_
        refine sp_iconst (v := 0) dX2_isWhole_44 (by decide) ?_
        obtain ⟨M10, hM10, h⟩ := Option.bind_eq_some_iff.mp h
        refine sp_cV (M1 := M10) (r := none) (o := 97) (st := []) (c := 8) (RX9, TX9, 4) [.int 0, .int 0] [.int 0, .int 0, .ref 97] [] dX2_isWhole_45 okX9_addStep tw_765 tw_766 tw_767 (by decide) (by decide) rfl (Nat.le_of_ble_eq_true rfl) rfl rfl rfl rfl (wsI_97 hs) (fun Q hQ => tX9_addStep hG (fun M ho => text_97 (hG.1 M ho)) hM10 hQ) ?_
        refine sp_iconst (v := 1) dX2_isWhole_48 (by decide) ?_
        cases h
        exact sp_iret dX2_isWhole_49 (ty := .boolean) rfl (sp_nz (Or.inr rfl)) (fun _ => hQ)
      · have h := (if_neg hc9).symm.trans h
        refine sp_iconst (v := 0) dX2_isWhole_37 (by decide) ?_
        cases h
        exact sp_iret dX2_isWhole_38 (ty := .boolean) rfl (sp_nz (Or.inl rfl)) (fun _ => hQ)
    · have h := (if_pos hc6).symm.trans h
      refine sp_iconst (v := 0) dX2_isWhole_21 (by decide) ?_
      cases h
      exact sp_iret dX2_isWhole_22 (ty := .boolean) rfl (sp_nz (Or.inl rfl)) (fun _ => hQ)
def fX2_readValue_l44 (F : Nat) (kx : sp_Mem → Option (Int32 × sp_Mem)) : Nat → Int32 → Int32 → sp_Mem → Option (Int32 × sp_Mem)
  | 0, _, _, _ => none
  | n + 1, a2, a3, M =>
  if 400 < a3 then (kx M) else (if a2 = 0 then ((fX2_joins F M).bind fun x8 => if x8.1 = 0 then ((fX2_closes F x8.2).bind fun x10 => if x10.1 = 0 then ((fX2_isWhole F x10.2).bind fun x12 => (sp_b01 x12.1).bind fun _ => some (x12.1, x12.2)) else ((fX2_readValue_l44 F kx n) a2 (a3 + 1) x10.2)) else ((fX2_readValue_l44 F kx n) 1 (a3 + 1) x8.2)) else ((fX2_opens F M).bind fun x14 => if x14.1 = 0 then ((fX2_readPart F x14.2).bind fun x16 => if x16.1 = 0 then (some (0, x16.2)) else ((fX2_readValue_l44 F kx n) 0 (a3 + 1) x16.2)) else ((fX2_readValue_l44 F kx n) a2 (a3 + 1) x14.2)))
def fX2_readValue_j38 (F : Nat) (s0 : Int32) (M : sp_Mem) : Option (Int32 × sp_Mem) :=
  (fX2_push M s0).bind fun x5 => fX2_readValue_l44 F (fun M18 => some (0, M18)) F x5.1 0 x5.2
def fX2_readValue (F : Nat) (M : sp_Mem) (a1 : Int32) : Option (Int32 × sp_Mem) :=
  (fX9_setSlot M 97 a1 (sp_I M 97 3)).bind fun M1 => sp_do (sp_setI M1 96 4 0) fun M2 => sp_do (sp_setI M2 96 5 0) fun M3 => fX2_readValue_j38 F (if a1 = 4 then 21 else 20) M3
set_option maxRecDepth 100000 in
set_option maxHeartbeats 4000000 in
theorem tX2_readValue_l44 {g : sp_G} {Ω : sp_Mem → Prop} {Q : sp_Qt} {F : Nat} {p : (Int32 × sp_Mem)} (hG : sp_Ok Ω)  {kx : sp_Mem → Option (Int32 × sp_Mem)} (hQ : Q (some (.int p.1)) p.2) (hx : ∀  (M : sp_Mem), kx M = some p → sp_Wp g Ω mX2_readValue 0 0 106 [none, none, none, none] [] M Q) : ∀ (n : Nat) (a2 : Int32) (a3 : Int32) (M : sp_Mem), fX2_readValue_l44 F kx n a2 a3 M = some p → sp_Wp g Ω mX2_readValue 0 0 44 [some (.ref 96), none, some (.int a2), some (.int a3)] [] M Q := by
  intro n
  induction n with
  | zero =>
    intro a2 a3 M h
    rw [fX2_readValue_l44] at h
    cases h
  | succ n ih =>
    intro a2 a3 M h
    rw [fX2_readValue_l44] at h
    refine sp_iload_n dX2_readValue_44 rfl rfl ?_
    refine sp_sipush (v := 400) dX2_readValue_45 (by decide) ?_
    refine sp_icmp_gt (tgt := 106) dX2_readValue_48 (by decide) (fun hc6 => ?_) (fun hc6 => ?_)
    · have h := (if_pos hc6).symm.trans h
      refine sp_weak [false, false, false, false] [none, none, none, none] rfl ?_
      exact hx _ h
    · have h := (if_neg hc6).symm.trans h
      refine sp_iload_n dX2_readValue_51 rfl rfl ?_
      refine sp_if_eq (tgt := 76) dX2_readValue_52 (by decide) (fun hc7 => ?_) (fun hc7 => ?_)
      · have h := (if_pos hc7).symm.trans h
        refine sp_aload_n dX2_readValue_76 rfl rfl ?_
        refine sp_use (fun ho => ?_)
        have hs := hG.1 _ ho
        obtain ⟨x8, hx8, h⟩ := Option.bind_eq_some_iff.mp h
        refine sp_cV (M1 := x8.2) (r := some (.int x8.1)) (o := 96) (st := []) (c := 2) (RX2, TX2, 9) [] [.ref 96] [.int x8.1] dX2_readValue_77 okX2_joins tw_769 tw_771 tw_11 (by decide) (by decide) rfl (Nat.le_of_ble_eq_true rfl) rfl rfl rfl rfl (wsI_96 hs) (fun Q hQ => tX2_joins hG hx8 hQ) ?_
        refine sp_if_eq (tgt := 88) dX2_readValue_80 (by decide) (fun hc9 => ?_) (fun hc9 => ?_)
        · have h := (if_pos hc9).symm.trans h
          refine sp_aload_n dX2_readValue_88 rfl rfl ?_
          refine sp_use (fun ho => ?_)
          have hs := hG.1 _ ho
          obtain ⟨x10, hx10, h⟩ := Option.bind_eq_some_iff.mp h
          refine sp_cV (M1 := x10.2) (r := some (.int x10.1)) (o := 96) (st := []) (c := 2) (RX2, TX2, 9) [] [.ref 96] [.int x10.1] dX2_readValue_89 okX2_closes tw_791 tw_793 tw_15 (by decide) (by decide) rfl (Nat.le_of_ble_eq_true rfl) rfl rfl rfl rfl (wsI_96 hs) (fun Q hQ => tX2_closes hG hx10 hQ) ?_
          refine sp_if_ne (tgt := 100) dX2_readValue_92 (by decide) (fun hc11 => ?_) (fun hc11 => ?_)
          · have h := (if_neg hc11).symm.trans h
            refine sp_iinc (v := (a3 + 1)) [some (.ref 96), none, some (.int a2), some (.int (a3 + 1))] dX2_readValue_100 rfl rfl (by decide) rfl ?_
            refine sp_goto (tgt := 44) dX2_readValue_103 (by decide) ?_
            refine sp_weak [true, false, true, true] [some (.ref 96), none, some (.int a2), some (.int (a3 + 1))] rfl ?_
            exact ih _ _ _ h
          · have h := (if_pos hc11).symm.trans h
            refine sp_aload_n dX2_readValue_95 rfl rfl ?_
            refine sp_use (fun ho => ?_)
            have hs := hG.1 _ ho
            obtain ⟨x12, hx12, h⟩ := Option.bind_eq_some_iff.mp h
            refine sp_cV (M1 := x12.2) (r := some (.int x12.1)) (o := 96) (st := []) (c := 2) (RX2, TX2, 9) [] [.ref 96] [.int x12.1] dX2_readValue_96 okX2_isWhole tw_795 tw_797 tw_16 (by decide) (by decide) rfl (Nat.le_of_ble_eq_true rfl) rfl rfl rfl rfl (wsI_96 hs) (fun Q hQ => tX2_isWhole hG hx12 hQ) ?_
            obtain ⟨_, hz13, h⟩ := Option.bind_eq_some_iff.mp h
            cases h
            exact sp_iret dX2_readValue_99 (ty := .boolean) rfl (sp_nz (sp_b01_e hz13)) (fun _ => hQ)
        · have h := (if_neg hc9).symm.trans h
          refine sp_iconst (v := 1) dX2_readValue_83 (by decide) ?_
          refine sp_istore_n [some (.ref 96), none, some (.int 1), some (.int a3)] dX2_readValue_84 rfl (by decide) rfl ?_
          refine sp_goto (tgt := 100) dX2_readValue_85 (by decide) ?_
          refine sp_iinc (v := (a3 + 1)) [some (.ref 96), none, some (.int 1), some (.int (a3 + 1))] dX2_readValue_100 rfl rfl (by decide) rfl ?_
          refine sp_goto (tgt := 44) dX2_readValue_103 (by decide) ?_
          refine sp_weak [true, false, true, true] [some (.ref 96), none, some (.int 1), some (.int (a3 + 1))] rfl ?_
          exact ih _ _ _ h
      · have h := (if_neg hc7).symm.trans h
        refine sp_aload_n dX2_readValue_55 rfl rfl ?_
        refine sp_use (fun ho => ?_)
        have hs := hG.1 _ ho
        obtain ⟨x14, hx14, h⟩ := Option.bind_eq_some_iff.mp h
        refine sp_cV (M1 := x14.2) (r := some (.int x14.1)) (o := 96) (st := []) (c := 2) (RX2, TX2, 9) [] [.ref 96] [.int x14.1] dX2_readValue_56 okX2_opens tw_734 tw_736 tw_7 (by decide) (by decide) rfl (Nat.le_of_ble_eq_true rfl) rfl rfl rfl rfl (wsI_96 hs) (fun Q hQ => tX2_opens hG hx14 hQ) ?_
        refine sp_if_ne (tgt := 100) dX2_readValue_59 (by decide) (fun hc15 => ?_) (fun hc15 => ?_)
        · have h := (if_neg hc15).symm.trans h
          refine sp_iinc (v := (a3 + 1)) [some (.ref 96), none, some (.int a2), some (.int (a3 + 1))] dX2_readValue_100 rfl rfl (by decide) rfl ?_
          refine sp_goto (tgt := 44) dX2_readValue_103 (by decide) ?_
          refine sp_weak [true, false, true, true] [some (.ref 96), none, some (.int a2), some (.int (a3 + 1))] rfl ?_
          exact ih _ _ _ h
        · have h := (if_pos hc15).symm.trans h
          refine sp_aload_n dX2_readValue_62 rfl rfl ?_
          refine sp_use (fun ho => ?_)
          have hs := hG.1 _ ho
          obtain ⟨x16, hx16, h⟩ := Option.bind_eq_some_iff.mp h
          refine sp_cV (M1 := x16.2) (r := some (.int x16.1)) (o := 96) (st := []) (c := 2) (RX2, TX2, 9) [] [.ref 96] [.int x16.1] dX2_readValue_63 okX2_readPart tw_755 tw_757 tw_10 (by decide) (by decide) rfl (Nat.le_of_ble_eq_true rfl) rfl rfl rfl rfl (wsI_96 hs) (fun Q hQ => tX2_readPart hG hx16 hQ) ?_
          refine sp_if_ne (tgt := 71) dX2_readValue_66 (by decide) (fun hc17 => ?_) (fun hc17 => ?_)
          · have h := (if_neg hc17).symm.trans h
            refine sp_iconst (v := 0) dX2_readValue_71 (by decide) ?_
            refine sp_istore_n [some (.ref 96), none, some (.int 0), some (.int a3)] dX2_readValue_72 rfl (by decide) rfl ?_
            refine sp_goto (tgt := 100) dX2_readValue_73 (by decide) ?_
            refine sp_iinc (v := (a3 + 1)) [some (.ref 96), none, some (.int 0), some (.int (a3 + 1))] dX2_readValue_100 rfl rfl (by decide) rfl ?_
            refine sp_goto (tgt := 44) dX2_readValue_103 (by decide) ?_
            refine sp_weak [true, false, true, true] [some (.ref 96), none, some (.int 0), some (.int (a3 + 1))] rfl ?_
            exact ih _ _ _ h
          · have h := (if_pos hc17).symm.trans h
            refine sp_iconst (v := 0) dX2_readValue_69 (by decide) ?_
            cases h
            exact sp_iret dX2_readValue_70 (ty := .boolean) rfl (sp_nz (Or.inl rfl)) (fun _ => hQ)
set_option maxRecDepth 100000 in
set_option maxHeartbeats 4000000 in
theorem tX2_readValue_j38 {g : sp_G} {Ω : sp_Mem → Prop} {Q : sp_Qt} {F : Nat} {p : (Int32 × sp_Mem)} (hG : sp_Ok Ω)  (hQ : Q (some (.int p.1)) p.2) (s0 : Int32) (M : sp_Mem) (h : fX2_readValue_j38 F s0 M = some p) : sp_Wp g Ω mX2_readValue 0 0 38 [some (.ref 96), none, none, none] [.int s0, .ref 96] M Q := by
  unfold fX2_readValue_j38 at h
  refine sp_use (fun ho => ?_)
  have hs := hG.1 _ ho
  obtain ⟨x5, hx5, h⟩ := Option.bind_eq_some_iff.mp h
  refine sp_cV (M1 := x5.2) (r := some (.int x5.1)) (o := 96) (st := []) (c := 2) (RX2, TX2, 9) [.int s0] [.int s0, .ref 96] [.int x5.1] dX2_readValue_38 okX2_push tw_730 tw_732 tw_6 (by decide) (by decide) rfl (Nat.le_of_ble_eq_true rfl) rfl rfl rfl rfl (wsI_96 hs) (fun Q hQ => tX2_push hG hx5 hQ) ?_
  refine sp_istore_n [some (.ref 96), none, some (.int x5.1), none] dX2_readValue_41 rfl (by decide) rfl ?_
  refine sp_iconst (v := 0) dX2_readValue_42 (by decide) ?_
  refine sp_istore_n [some (.ref 96), none, some (.int x5.1), some (.int 0)] dX2_readValue_43 rfl (by decide) rfl ?_
  refine sp_weak [true, false, true, true] [some (.ref 96), none, some (.int x5.1), some (.int 0)] rfl ?_
  refine tX2_readValue_l44 hG hQ (fun M18 h => ?_) F _ _ _ h
  refine sp_iconst (v := 0) dX2_readValue_106 (by decide) ?_
  cases h
  exact sp_iret dX2_readValue_107 (ty := .boolean) rfl (sp_nz (Or.inl rfl)) (fun _ => hQ)
set_option maxRecDepth 100000 in
set_option maxHeartbeats 4000000 in
theorem tX2_readValue {g : sp_G} {Ω : sp_Mem → Prop} {Q : sp_Qt} {F : Nat} {p : (Int32 × sp_Mem)} (hG : sp_Ok Ω) {M : sp_Mem} {a1 : Int32} (h : fX2_readValue F M a1 = some p) (hQ : Q (some (.int p.1)) p.2) : sp_Mt g Ω mX2_readValue 0 0 [.ref 96, .int a1] M Q := by
  unfold fX2_readValue at h
  refine sp_Mt.of [some (.ref 96), some (.int a1), none, none] (by decide) (by simp [sp_ent, Value.category]) rfl ?_
  refine sp_aload_n dX2_readValue_0 rfl rfl ?_
  refine sp_use (fun ho => ?_)
  have hs := hG.1 _ ho
  refine sp_getR (RX2, TX2, 9) dX2_readValue_1 clX2 (j := 1) (by decide) tw_387 (wsI_96 hs) (Or.inl ⟨_, rfl⟩) (wsP_96_1 hs) ?_
  refine sp_iload_n dX2_readValue_4 rfl rfl ?_
  refine sp_aload_n dX2_readValue_5 rfl rfl ?_
  refine sp_getR (RX2, TX2, 9) dX2_readValue_6 clX2 (j := 1) (by decide) tw_387 (wsI_96 hs) (Or.inl ⟨_, rfl⟩) (wsP_96_1 hs) ?_
  refine sp_getI (RX9, TX9, 4) dX2_readValue_9 clX9 (j := 3) (by decide) tw_376 (wsI_97 hs) (Or.inl rfl) ?_
  obtain ⟨M1, hM1, h⟩ := Option.bind_eq_some_iff.mp h
  refine sp_cV (M1 := M1) (r := none) (o := 97) (st := []) (c := 8) (RX9, TX9, 4) [.int a1, .int (sp_I M 97 3)] [.int (sp_I M 97 3), .int a1, .ref 97] [] dX2_readValue_12 okX9_setSlot tw_726 tw_727 tw_728 (by decide) (by decide) rfl (Nat.le_of_ble_eq_true rfl) rfl rfl rfl rfl (wsI_97 hs) (fun Q hQ => tX9_setSlot hG (fun M ho => text_97 (hG.1 M ho)) hM1 hQ) ?_
  refine sp_aload_n dX2_readValue_15 rfl rfl ?_
  refine sp_iconst (v := 0) dX2_readValue_16 (by decide) ?_
  refine sp_use (fun ho => ?_)
  have hs := hG.1 _ ho
  obtain ⟨M2, hM2, h⟩ := sp_do_e h
  refine sp_putI2 (RX2, TX2, 9) hG dX2_readValue_17 clX2 (j := 4) (by decide) tw_391 rfl (Or.inl rfl) (wsI_96 hs) hM2 ?_
  refine sp_aload_n dX2_readValue_20 rfl rfl ?_
  refine sp_iconst (v := 0) dX2_readValue_21 (by decide) ?_
  refine sp_use (fun ho => ?_)
  have hs := hG.1 _ ho
  obtain ⟨M3, hM3, h⟩ := sp_do_e h
  refine sp_putI2 (RX2, TX2, 9) hG dX2_readValue_22 clX2 (j := 5) (by decide) tw_392 rfl (Or.inl rfl) (wsI_96 hs) hM3 ?_
  refine sp_aload_n dX2_readValue_25 rfl rfl ?_
  refine sp_iload_n dX2_readValue_26 rfl rfl ?_
  refine sp_iconst (v := 4) dX2_readValue_27 (by decide) ?_
  suffices hj : sp_Wp g Ω mX2_readValue 0 0 38 [some (.ref 96), none, none, none] [.int (if a1 = 4 then 21 else 20), .ref 96] M3 Q by
    refine sp_icmp_ne (tgt := 36) dX2_readValue_28 (by decide) (fun hc4 => ?_) (fun hc4 => ?_)
    · refine sp_bipush (v := 20) dX2_readValue_36 (by decide) ?_
      refine sp_weak [true, false, false, false] [some (.ref 96), none, none, none] rfl ?_
      simp only [if_neg hc4] at hj
      exact hj
    · refine sp_bipush (v := 21) dX2_readValue_31 (by decide) ?_
      refine sp_goto (tgt := 38) dX2_readValue_33 (by decide) ?_
      refine sp_weak [true, false, false, false] [some (.ref 96), none, none, none] rfl ?_
      simp only [if_pos hc4] at hj
      exact hj
  refine sp_weak [true, false, false, false] [some (.ref 96), none, none, none] rfl ?_
  exact tX2_readValue_j38 hG hQ _ _ h
def fX2_takes_j17 (F : Nat) (o1 : Nat) (s0 : Int32) (M : sp_Mem) : Option (Int32 × sp_Mem) :=
  if s0 = 0 then ((sp_b01 s0).bind fun _ => some (s0, M)) else ((fX8_toNext F M).bind fun M5 => (sp_b01 s0).bind fun _ => some (s0, M5))
def fX2_takes (F : Nat) (M : sp_Mem) (o1 : Nat) : Option (Int32 × sp_Mem) :=
  (fX8_placeIn F M o1).bind fun v1 => fX2_takes_j17 F o1 (if v1 = (-1) then 0 else 1) M
set_option maxRecDepth 100000 in
set_option maxHeartbeats 4000000 in
theorem tX2_takes_j17 {g : sp_G} {Ω : sp_Mem → Prop} {Q : sp_Qt} {F : Nat} {p : (Int32 × sp_Mem)} (hG : sp_Ok Ω) {o1 : Nat} (ho1 : o1 < 10)  (hQ : Q (some (.int p.1)) p.2) (s0 : Int32) (M : sp_Mem) (h : fX2_takes_j17 F o1 s0 M = some p) : sp_Wp g Ω mX2_takes 0 0 17 [some (.ref 96), none, none] [.int s0] M Q := by
  unfold fX2_takes_j17 at h
  refine sp_istore_n [some (.ref 96), none, some (.int s0)] dX2_takes_17 rfl (by decide) rfl ?_
  refine sp_iload_n dX2_takes_18 rfl rfl ?_
  refine sp_if_eq (tgt := 29) dX2_takes_19 (by decide) (fun hc3 => ?_) (fun hc3 => ?_)
  · have h := (if_pos hc3).symm.trans h
    refine sp_iload_n dX2_takes_29 rfl rfl ?_
    obtain ⟨_, hz4, h⟩ := Option.bind_eq_some_iff.mp h
    cases h
    exact sp_iret dX2_takes_30 (ty := .boolean) rfl (sp_nz (sp_b01_e hz4)) (fun _ => hQ)
  · have h := (if_neg hc3).symm.trans h
    refine sp_aload_n dX2_takes_22 rfl rfl ?_
    refine sp_use (fun ho => ?_)
    have hs := hG.1 _ ho
    refine sp_getR (RX2, TX2, 9) dX2_takes_23 clX2 (j := 0) (by decide) tw_386 (wsI_96 hs) (Or.inl ⟨_, rfl⟩) (wsP_96_0 hs) ?_
    obtain ⟨M5, hM5, h⟩ := Option.bind_eq_some_iff.mp h
    refine sp_cV (M1 := M5) (r := none) (o := 94) (st := []) (c := 7) (RX8, TX8, 5) [] [.ref 94] [] dX2_takes_26 okX8_toNext tw_721 tw_652 tw_653 (by decide) (by decide) rfl (Nat.le_of_ble_eq_true rfl) rfl rfl rfl rfl (wsI_94 hs) (fun Q hQ => tX8_toNext hG hM5 hQ) ?_
    refine sp_iload_n dX2_takes_29 rfl rfl ?_
    obtain ⟨_, hz6, h⟩ := Option.bind_eq_some_iff.mp h
    cases h
    exact sp_iret dX2_takes_30 (ty := .boolean) rfl (sp_nz (sp_b01_e hz6)) (fun _ => hQ)
set_option maxRecDepth 100000 in
set_option maxHeartbeats 4000000 in
theorem tX2_takes {g : sp_G} {Ω : sp_Mem → Prop} {Q : sp_Qt} {F : Nat} {p : (Int32 × sp_Mem)} (hG : sp_Ok Ω) {o1 : Nat} (ho1 : o1 < 10) {M : sp_Mem} (h : fX2_takes F M o1 = some p) (hQ : Q (some (.int p.1)) p.2) : sp_Mt g Ω mX2_takes 0 0 [.ref 96, .ref (1000000 + o1)] M Q := by
  unfold fX2_takes at h
  refine sp_Mt.of [some (.ref 96), some (.ref (1000000 + o1)), none] (by decide) (by simp [sp_ent, Value.category]) rfl ?_
  refine sp_aload_n dX2_takes_0 rfl rfl ?_
  refine sp_use (fun ho => ?_)
  have hs := hG.1 _ ho
  refine sp_getR (RX2, TX2, 9) dX2_takes_1 clX2 (j := 0) (by decide) tw_386 (wsI_96 hs) (Or.inl ⟨_, rfl⟩) (wsP_96_0 hs) ?_
  refine sp_aload_n dX2_takes_4 rfl rfl ?_
  obtain ⟨v1, hv1, h⟩ := Option.bind_eq_some_iff.mp h
  refine sp_cV (M1 := M) (r := some (.int v1)) (o := 94) (st := []) (c := 7) (RX8, TX8, 5) [.ref (1000000 + o1)] [.ref (1000000 + o1), .ref 94] [.int v1] dX2_takes_5 okX8_placeIn tw_665 tw_666 tw_667 (by decide) (by decide) rfl (Nat.le_of_ble_eq_true rfl) rfl rfl rfl rfl (wsI_94 hs) (fun Q hQ => tX8_placeIn hG ho1 hv1 hQ) ?_
  refine sp_iconst (v := (-1)) dX2_takes_8 (by decide) ?_
  suffices hj : sp_Wp g Ω mX2_takes 0 0 17 [some (.ref 96), none, none] [.int (if v1 = (-1) then 0 else 1)] M Q by
    refine sp_icmp_eq (tgt := 16) dX2_takes_9 (by decide) (fun hc2 => ?_) (fun hc2 => ?_)
    · refine sp_iconst (v := 0) dX2_takes_16 (by decide) ?_
      refine sp_weak [true, false, false] [some (.ref 96), none, none] rfl ?_
      simp only [if_pos hc2] at hj
      exact hj
    · refine sp_iconst (v := 1) dX2_takes_12 (by decide) ?_
      refine sp_goto (tgt := 17) dX2_takes_13 (by decide) ?_
      refine sp_weak [true, false, false] [some (.ref 96), none, none] rfl ?_
      simp only [if_neg hc2] at hj
      exact hj
  refine sp_weak [true, false, false] [some (.ref 96), none, none] rfl ?_
  exact tX2_takes_j17 hG ho1 hQ _ _ h
def fX2_readTimes (F : Nat) (M : sp_Mem) : Option (Int32 × sp_Mem) :=
  (fX8_numberTo F M 20).bind fun v1 => if (fX10_isWithin v1 1 20) = 0 then (some (0, M)) else ((fX9_setSlot M 97 3 v1).bind fun M3 => (fX8_toNext F M3).bind fun M4 => some (1, M4))
set_option maxRecDepth 100000 in
set_option maxHeartbeats 4000000 in
theorem tX2_readTimes {g : sp_G} {Ω : sp_Mem → Prop} {Q : sp_Qt} {F : Nat} {p : (Int32 × sp_Mem)} (hG : sp_Ok Ω) {M : sp_Mem} (h : fX2_readTimes F M = some p) (hQ : Q (some (.int p.1)) p.2) : sp_Mt g Ω mX2_readTimes 0 0 [.ref 96] M Q := by
  unfold fX2_readTimes at h
  refine sp_Mt.of [some (.ref 96), none] (by decide) (by simp [sp_ent, Value.category]) rfl ?_
  refine sp_aload_n dX2_readTimes_0 rfl rfl ?_
  refine sp_use (fun ho => ?_)
  have hs := hG.1 _ ho
  refine sp_getR (RX2, TX2, 9) dX2_readTimes_1 clX2 (j := 0) (by decide) tw_386 (wsI_96 hs) (Or.inl ⟨_, rfl⟩) (wsP_96_0 hs) ?_
  refine sp_bipush (v := 20) dX2_readTimes_4 (by decide) ?_
  obtain ⟨v1, hv1, h⟩ := Option.bind_eq_some_iff.mp h
  refine sp_cV (M1 := M) (r := some (.int v1)) (o := 94) (st := []) (c := 7) (RX8, TX8, 5) [.int 20] [.int 20, .ref 94] [.int v1] dX2_readTimes_6 okX8_numberTo tw_759 tw_760 tw_761 (by decide) (by decide) rfl (Nat.le_of_ble_eq_true rfl) rfl rfl rfl rfl (wsI_94 hs) (fun Q hQ => tX8_numberTo hG hv1 hQ) ?_
  refine sp_istore_n [some (.ref 96), some (.int v1)] dX2_readTimes_9 rfl (by decide) rfl ?_
  refine sp_iload_n dX2_readTimes_10 rfl rfl ?_
  refine sp_iconst (v := 1) dX2_readTimes_11 (by decide) ?_
  refine sp_bipush (v := 20) dX2_readTimes_12 (by decide) ?_
  refine sp_cSN (M1 := M) (r := some (.int (fX10_isWithin v1 1 20))) (st := []) [.int v1, .int 1, .int 20] [.int 20, .int 1, .int v1] [.int (fX10_isWithin v1 1 20)] dX2_readTimes_14 okX10_isWithin (by decide +kernel) tw_472 (by decide) (by decide) rfl (Nat.le_of_ble_eq_true rfl) rfl rfl (fun Q hQ => tX10_isWithin hG rfl hQ) ?_
  refine sp_if_ne (tgt := 22) dX2_readTimes_17 (by decide) (fun hc2 => ?_) (fun hc2 => ?_)
  · have h := (if_neg hc2).symm.trans h
    refine sp_aload_n dX2_readTimes_22 rfl rfl ?_
    refine sp_getR (RX2, TX2, 9) dX2_readTimes_23 clX2 (j := 1) (by decide) tw_387 (wsI_96 hs) (Or.inl ⟨_, rfl⟩) (wsP_96_1 hs) ?_
    refine sp_iconst (v := 3) dX2_readTimes_26 (by decide) ?_
    refine sp_iload_n dX2_readTimes_27 rfl rfl ?_
    obtain ⟨M3, hM3, h⟩ := Option.bind_eq_some_iff.mp h
    refine sp_cV (M1 := M3) (r := none) (o := 97) (st := []) (c := 8) (RX9, TX9, 4) [.int 3, .int v1] [.int v1, .int 3, .ref 97] [] dX2_readTimes_28 okX9_setSlot tw_726 tw_727 tw_728 (by decide) (by decide) rfl (Nat.le_of_ble_eq_true rfl) rfl rfl rfl rfl (wsI_97 hs) (fun Q hQ => tX9_setSlot hG (fun M ho => text_97 (hG.1 M ho)) hM3 hQ) ?_
    refine sp_aload_n dX2_readTimes_31 rfl rfl ?_
    refine sp_use (fun ho => ?_)
    have hs := hG.1 _ ho
    refine sp_getR (RX2, TX2, 9) dX2_readTimes_32 clX2 (j := 0) (by decide) tw_386 (wsI_96 hs) (Or.inl ⟨_, rfl⟩) (wsP_96_0 hs) ?_
    obtain ⟨M4, hM4, h⟩ := Option.bind_eq_some_iff.mp h
    refine sp_cV (M1 := M4) (r := none) (o := 94) (st := []) (c := 7) (RX8, TX8, 5) [] [.ref 94] [] dX2_readTimes_35 okX8_toNext tw_721 tw_652 tw_653 (by decide) (by decide) rfl (Nat.le_of_ble_eq_true rfl) rfl rfl rfl rfl (wsI_94 hs) (fun Q hQ => tX8_toNext hG hM4 hQ) ?_
    refine sp_iconst (v := 1) dX2_readTimes_38 (by decide) ?_
    cases h
    exact sp_iret dX2_readTimes_39 (ty := .boolean) rfl (sp_nz (Or.inr rfl)) (fun _ => hQ)
  · have h := (if_pos hc2).symm.trans h
    refine sp_iconst (v := 0) dX2_readTimes_20 (by decide) ?_
    cases h
    exact sp_iret dX2_readTimes_21 (ty := .boolean) rfl (sp_nz (Or.inl rfl)) (fun _ => hQ)
def fX2_readOrder_j110 (F : Nat) (M : sp_Mem) : Option (Int32 × sp_Mem) :=
  (fX2_takes F M 1).bind fun x11 => if x11.1 = 0 then (some (1, x11.2)) else ((fX2_readValue F x11.2 4).bind fun x13 => some ((if x13.1 = 0 then 0 else 1), x13.2))
def fX2_readOrder_j94 (F : Nat) (M : sp_Mem) : Option (Int32 × sp_Mem) :=
  (fX2_takes F M 5).bind fun x9 => if x9.1 = 0 then (fX2_readOrder_j110 F x9.2) else ((fX2_readTimes F x9.2).bind fun x15 => if x15.1 = 0 then (some (0, x15.2)) else (fX2_readOrder_j110 F x15.2))
def fX2_readOrder_j78 (F : Nat) (M : sp_Mem) : Option (Int32 × sp_Mem) :=
  (fX2_takes F M 4).bind fun x18 => if x18.1 = 0 then (some (0, x18.2)) else ((fX2_readValue F x18.2 2).bind fun x20 => if x20.1 = 0 then (some (0, x20.2)) else (fX2_readOrder_j94 F x20.2))
def fX2_readOrder_j78_5 (F : Nat) (M : sp_Mem) : Option (Int32 × sp_Mem) :=
  (fX2_takes F M 3).bind fun x22 => if x22.1 = 0 then (some (0, x22.2)) else ((fX2_readValue F x22.2 2).bind fun x24 => if x24.1 = 0 then (some (0, x24.2)) else (fX2_readOrder_j94 F x24.2))
def fX2_readOrder_j61 (F : Nat) (a1 : Int32) (s0 : Int32) (M : sp_Mem) : Option (Int32 × sp_Mem) :=
  if s0 = 0 then (fX2_readOrder_j94 F M) else (if a1 = 0 then (fX2_readOrder_j78_5 F M) else (fX2_readOrder_j78 F M))
def fX2_readOrder_j47 (F : Nat) (a1 : Int32) (M : sp_Mem) : Option (Int32 × sp_Mem) :=
  fX2_readOrder_j61 F a1 (if a1 = 0 then 1 else (if a1 = 2 then 1 else 0)) M
def fX2_readOrder (F : Nat) (M : sp_Mem) : Option (Int32 × sp_Mem) :=
  (fX8_placeIn F M 2).bind fun v1 => if v1 = (-1) then (some (0, M)) else ((fX9_addClause M 97 v1).bind fun M3 => (fX8_toNext F M3).bind fun M4 => if v1 = 3 then (fX2_readOrder_j47 F v1 M4) else ((fX2_readValue F M4 1).bind fun x26 => if x26.1 = 0 then (some (0, x26.2)) else (fX2_readOrder_j47 F v1 x26.2)))
set_option maxRecDepth 100000 in
set_option maxHeartbeats 4000000 in
theorem tX2_readOrder_j110 {g : sp_G} {Ω : sp_Mem → Prop} {Q : sp_Qt} {F : Nat} {p : (Int32 × sp_Mem)} (hG : sp_Ok Ω)  (hQ : Q (some (.int p.1)) p.2) (M : sp_Mem) (h : fX2_readOrder_j110 F M = some p) : sp_Wp g Ω mX2_readOrder 0 0 110 [some (.ref 96), none, none] [] M Q := by
  unfold fX2_readOrder_j110 at h
  refine sp_aload_n dX2_readOrder_110 rfl rfl ?_
  refine sp_ldcS (j := 1) dX2_readOrder_111 rfl rfl ?_
  refine sp_use (fun ho => ?_)
  have hs := hG.1 _ ho
  obtain ⟨x11, hx11, h⟩ := Option.bind_eq_some_iff.mp h
  refine sp_cV (M1 := x11.2) (r := some (.int x11.1)) (o := 96) (st := []) (c := 2) (RX2, TX2, 9) [.ref (1000000 + 1)] [.ref (1000000 + 1), .ref 96] [.int x11.1] dX2_readOrder_113 okX2_takes tw_801 tw_803 tw_17 (by decide) (by decide) rfl (Nat.le_of_ble_eq_true rfl) rfl rfl rfl rfl (wsI_96 hs) (fun Q hQ => tX2_takes hG (by decide) hx11 hQ) ?_
  refine sp_if_eq (tgt := 127) dX2_readOrder_116 (by decide) (fun hc12 => ?_) (fun hc12 => ?_)
  · have h := (if_pos hc12).symm.trans h
    refine sp_iconst (v := 1) dX2_readOrder_127 (by decide) ?_
    refine sp_goto (tgt := 132) dX2_readOrder_128 (by decide) ?_
    cases h
    exact sp_iret dX2_readOrder_132 (ty := .boolean) rfl (sp_nz (Or.inr rfl)) (fun _ => hQ)
  · have h := (if_neg hc12).symm.trans h
    refine sp_aload_n dX2_readOrder_119 rfl rfl ?_
    refine sp_iconst (v := 4) dX2_readOrder_120 (by decide) ?_
    refine sp_use (fun ho => ?_)
    have hs := hG.1 _ ho
    obtain ⟨x13, hx13, h⟩ := Option.bind_eq_some_iff.mp h
    refine sp_cV (M1 := x13.2) (r := some (.int x13.1)) (o := 96) (st := []) (c := 2) (RX2, TX2, 9) [.int 4] [.int 4, .ref 96] [.int x13.1] dX2_readOrder_121 okX2_readValue tw_722 tw_724 tw_5 (by decide) (by decide) rfl (Nat.le_of_ble_eq_true rfl) rfl rfl rfl rfl (wsI_96 hs) (fun Q hQ => tX2_readValue hG hx13 hQ) ?_
    suffices hj : sp_Wp g Ω mX2_readOrder 0 0 132 [none, none, none] [.int (if x13.1 = 0 then 0 else 1)] x13.2 Q by
      refine sp_if_eq (tgt := 131) dX2_readOrder_124 (by decide) (fun hc14 => ?_) (fun hc14 => ?_)
      · refine sp_iconst (v := 0) dX2_readOrder_131 (by decide) ?_
        refine sp_weak [false, false, false] [none, none, none] rfl ?_
        simp only [if_pos hc14] at hj
        exact hj
      · refine sp_iconst (v := 1) dX2_readOrder_127 (by decide) ?_
        refine sp_goto (tgt := 132) dX2_readOrder_128 (by decide) ?_
        refine sp_weak [false, false, false] [none, none, none] rfl ?_
        simp only [if_neg hc14] at hj
        exact hj
    cases h
    exact sp_iret dX2_readOrder_132 (ty := .boolean) rfl (sp_nz (by repeat (first | exact Or.inl rfl | exact Or.inr rfl | split))) (fun _ => hQ)
set_option maxRecDepth 100000 in
set_option maxHeartbeats 4000000 in
theorem tX2_readOrder_j94 {g : sp_G} {Ω : sp_Mem → Prop} {Q : sp_Qt} {F : Nat} {p : (Int32 × sp_Mem)} (hG : sp_Ok Ω)  (hQ : Q (some (.int p.1)) p.2) (M : sp_Mem) (h : fX2_readOrder_j94 F M = some p) : sp_Wp g Ω mX2_readOrder 0 0 94 [some (.ref 96), none, none] [] M Q := by
  unfold fX2_readOrder_j94 at h
  refine sp_aload_n dX2_readOrder_94 rfl rfl ?_
  refine sp_ldcS (j := 5) dX2_readOrder_95 rfl rfl ?_
  refine sp_use (fun ho => ?_)
  have hs := hG.1 _ ho
  obtain ⟨x9, hx9, h⟩ := Option.bind_eq_some_iff.mp h
  refine sp_cV (M1 := x9.2) (r := some (.int x9.1)) (o := 96) (st := []) (c := 2) (RX2, TX2, 9) [.ref (1000000 + 5)] [.ref (1000000 + 5), .ref 96] [.int x9.1] dX2_readOrder_97 okX2_takes tw_801 tw_803 tw_17 (by decide) (by decide) rfl (Nat.le_of_ble_eq_true rfl) rfl rfl rfl rfl (wsI_96 hs) (fun Q hQ => tX2_takes hG (by decide) hx9 hQ) ?_
  refine sp_if_eq (tgt := 110) dX2_readOrder_100 (by decide) (fun hc10 => ?_) (fun hc10 => ?_)
  · have h := (if_pos hc10).symm.trans h
    refine sp_weak [true, false, false] [some (.ref 96), none, none] rfl ?_
    exact tX2_readOrder_j110 hG hQ _ h
  · have h := (if_neg hc10).symm.trans h
    refine sp_aload_n dX2_readOrder_103 rfl rfl ?_
    refine sp_use (fun ho => ?_)
    have hs := hG.1 _ ho
    obtain ⟨x15, hx15, h⟩ := Option.bind_eq_some_iff.mp h
    refine sp_cV (M1 := x15.2) (r := some (.int x15.1)) (o := 96) (st := []) (c := 2) (RX2, TX2, 9) [] [.ref 96] [.int x15.1] dX2_readOrder_104 okX2_readTimes tw_806 tw_808 tw_18 (by decide) (by decide) rfl (Nat.le_of_ble_eq_true rfl) rfl rfl rfl rfl (wsI_96 hs) (fun Q hQ => tX2_readTimes hG hx15 hQ) ?_
    refine sp_if_eq (tgt := 131) dX2_readOrder_107 (by decide) (fun hc16 => ?_) (fun hc16 => ?_)
    · have h := (if_pos hc16).symm.trans h
      refine sp_iconst (v := 0) dX2_readOrder_131 (by decide) ?_
      cases h
      exact sp_iret dX2_readOrder_132 (ty := .boolean) rfl (sp_nz (Or.inl rfl)) (fun _ => hQ)
    · have h := (if_neg hc16).symm.trans h
      refine sp_weak [true, false, false] [some (.ref 96), none, none] rfl ?_
      exact tX2_readOrder_j110 hG hQ _ h
set_option maxRecDepth 100000 in
set_option maxHeartbeats 4000000 in
theorem tX2_readOrder_j78 {g : sp_G} {Ω : sp_Mem → Prop} {Q : sp_Qt} {F : Nat} {p : (Int32 × sp_Mem)} (hG : sp_Ok Ω)  (hQ : Q (some (.int p.1)) p.2) (M : sp_Mem) (h : fX2_readOrder_j78 F M = some p) : sp_Wp g Ω mX2_readOrder 0 0 78 [some (.ref 96), none, none] [.ref (1000000 + 4), .ref 96] M Q := by
  unfold fX2_readOrder_j78 at h
  refine sp_use (fun ho => ?_)
  have hs := hG.1 _ ho
  obtain ⟨x18, hx18, h⟩ := Option.bind_eq_some_iff.mp h
  refine sp_cV (M1 := x18.2) (r := some (.int x18.1)) (o := 96) (st := []) (c := 2) (RX2, TX2, 9) [.ref (1000000 + 4)] [.ref (1000000 + 4), .ref 96] [.int x18.1] dX2_readOrder_78 okX2_takes tw_801 tw_803 tw_17 (by decide) (by decide) rfl (Nat.le_of_ble_eq_true rfl) rfl rfl rfl rfl (wsI_96 hs) (fun Q hQ => tX2_takes hG (by decide) hx18 hQ) ?_
  refine sp_if_eq (tgt := 92) dX2_readOrder_81 (by decide) (fun hc19 => ?_) (fun hc19 => ?_)
  · have h := (if_pos hc19).symm.trans h
    refine sp_iconst (v := 0) dX2_readOrder_92 (by decide) ?_
    cases h
    exact sp_iret dX2_readOrder_93 (ty := .boolean) rfl (sp_nz (Or.inl rfl)) (fun _ => hQ)
  · have h := (if_neg hc19).symm.trans h
    refine sp_aload_n dX2_readOrder_84 rfl rfl ?_
    refine sp_iconst (v := 2) dX2_readOrder_85 (by decide) ?_
    refine sp_use (fun ho => ?_)
    have hs := hG.1 _ ho
    obtain ⟨x20, hx20, h⟩ := Option.bind_eq_some_iff.mp h
    refine sp_cV (M1 := x20.2) (r := some (.int x20.1)) (o := 96) (st := []) (c := 2) (RX2, TX2, 9) [.int 2] [.int 2, .ref 96] [.int x20.1] dX2_readOrder_86 okX2_readValue tw_722 tw_724 tw_5 (by decide) (by decide) rfl (Nat.le_of_ble_eq_true rfl) rfl rfl rfl rfl (wsI_96 hs) (fun Q hQ => tX2_readValue hG hx20 hQ) ?_
    refine sp_if_ne (tgt := 94) dX2_readOrder_89 (by decide) (fun hc21 => ?_) (fun hc21 => ?_)
    · have h := (if_neg hc21).symm.trans h
      refine sp_weak [true, false, false] [some (.ref 96), none, none] rfl ?_
      exact tX2_readOrder_j94 hG hQ _ h
    · have h := (if_pos hc21).symm.trans h
      refine sp_iconst (v := 0) dX2_readOrder_92 (by decide) ?_
      cases h
      exact sp_iret dX2_readOrder_93 (ty := .boolean) rfl (sp_nz (Or.inl rfl)) (fun _ => hQ)
set_option maxRecDepth 100000 in
set_option maxHeartbeats 4000000 in
theorem tX2_readOrder_j78_5 {g : sp_G} {Ω : sp_Mem → Prop} {Q : sp_Qt} {F : Nat} {p : (Int32 × sp_Mem)} (hG : sp_Ok Ω)  (hQ : Q (some (.int p.1)) p.2) (M : sp_Mem) (h : fX2_readOrder_j78_5 F M = some p) : sp_Wp g Ω mX2_readOrder 0 0 78 [some (.ref 96), none, none] [.ref (1000000 + 3), .ref 96] M Q := by
  unfold fX2_readOrder_j78_5 at h
  refine sp_use (fun ho => ?_)
  have hs := hG.1 _ ho
  obtain ⟨x22, hx22, h⟩ := Option.bind_eq_some_iff.mp h
  refine sp_cV (M1 := x22.2) (r := some (.int x22.1)) (o := 96) (st := []) (c := 2) (RX2, TX2, 9) [.ref (1000000 + 3)] [.ref (1000000 + 3), .ref 96] [.int x22.1] dX2_readOrder_78 okX2_takes tw_801 tw_803 tw_17 (by decide) (by decide) rfl (Nat.le_of_ble_eq_true rfl) rfl rfl rfl rfl (wsI_96 hs) (fun Q hQ => tX2_takes hG (by decide) hx22 hQ) ?_
  refine sp_if_eq (tgt := 92) dX2_readOrder_81 (by decide) (fun hc23 => ?_) (fun hc23 => ?_)
  · have h := (if_pos hc23).symm.trans h
    refine sp_iconst (v := 0) dX2_readOrder_92 (by decide) ?_
    cases h
    exact sp_iret dX2_readOrder_93 (ty := .boolean) rfl (sp_nz (Or.inl rfl)) (fun _ => hQ)
  · have h := (if_neg hc23).symm.trans h
    refine sp_aload_n dX2_readOrder_84 rfl rfl ?_
    refine sp_iconst (v := 2) dX2_readOrder_85 (by decide) ?_
    refine sp_use (fun ho => ?_)
    have hs := hG.1 _ ho
    obtain ⟨x24, hx24, h⟩ := Option.bind_eq_some_iff.mp h
    refine sp_cV (M1 := x24.2) (r := some (.int x24.1)) (o := 96) (st := []) (c := 2) (RX2, TX2, 9) [.int 2] [.int 2, .ref 96] [.int x24.1] dX2_readOrder_86 okX2_readValue tw_722 tw_724 tw_5 (by decide) (by decide) rfl (Nat.le_of_ble_eq_true rfl) rfl rfl rfl rfl (wsI_96 hs) (fun Q hQ => tX2_readValue hG hx24 hQ) ?_
    refine sp_if_ne (tgt := 94) dX2_readOrder_89 (by decide) (fun hc25 => ?_) (fun hc25 => ?_)
    · have h := (if_neg hc25).symm.trans h
      refine sp_weak [true, false, false] [some (.ref 96), none, none] rfl ?_
      exact tX2_readOrder_j94 hG hQ _ h
    · have h := (if_pos hc25).symm.trans h
      refine sp_iconst (v := 0) dX2_readOrder_92 (by decide) ?_
      cases h
      exact sp_iret dX2_readOrder_93 (ty := .boolean) rfl (sp_nz (Or.inl rfl)) (fun _ => hQ)
set_option maxRecDepth 100000 in
set_option maxHeartbeats 4000000 in
theorem tX2_readOrder_j61 {g : sp_G} {Ω : sp_Mem → Prop} {Q : sp_Qt} {F : Nat} {p : (Int32 × sp_Mem)} (hG : sp_Ok Ω)  (hQ : Q (some (.int p.1)) p.2) (a1 : Int32) (s0 : Int32) (M : sp_Mem) (h : fX2_readOrder_j61 F a1 s0 M = some p) : sp_Wp g Ω mX2_readOrder 0 0 61 [some (.ref 96), some (.int a1), none] [.int s0] M Q := by
  unfold fX2_readOrder_j61 at h
  refine sp_istore_n [some (.ref 96), some (.int a1), some (.int s0)] dX2_readOrder_61 rfl (by decide) rfl ?_
  refine sp_iload_n dX2_readOrder_62 rfl rfl ?_
  refine sp_if_eq (tgt := 94) dX2_readOrder_63 (by decide) (fun hc8 => ?_) (fun hc8 => ?_)
  · have h := (if_pos hc8).symm.trans h
    refine sp_weak [true, false, false] [some (.ref 96), none, none] rfl ?_
    exact tX2_readOrder_j94 hG hQ _ h
  · have h := (if_neg hc8).symm.trans h
    refine sp_aload_n dX2_readOrder_66 rfl rfl ?_
    refine sp_iload_n dX2_readOrder_67 rfl rfl ?_
    refine sp_if_ne (tgt := 76) dX2_readOrder_68 (by decide) (fun hc17 => ?_) (fun hc17 => ?_)
    · have h := (if_neg hc17).symm.trans h
      refine sp_ldcS (j := 4) dX2_readOrder_76 rfl rfl ?_
      refine sp_weak [true, false, false] [some (.ref 96), none, none] rfl ?_
      exact tX2_readOrder_j78 hG hQ _ h
    · have h := (if_pos hc17).symm.trans h
      refine sp_ldcS (j := 3) dX2_readOrder_71 rfl rfl ?_
      refine sp_goto (tgt := 78) dX2_readOrder_73 (by decide) ?_
      refine sp_weak [true, false, false] [some (.ref 96), none, none] rfl ?_
      exact tX2_readOrder_j78_5 hG hQ _ h
set_option maxRecDepth 100000 in
set_option maxHeartbeats 4000000 in
theorem tX2_readOrder_j47 {g : sp_G} {Ω : sp_Mem → Prop} {Q : sp_Qt} {F : Nat} {p : (Int32 × sp_Mem)} (hG : sp_Ok Ω)  (hQ : Q (some (.int p.1)) p.2) (a1 : Int32) (M : sp_Mem) (h : fX2_readOrder_j47 F a1 M = some p) : sp_Wp g Ω mX2_readOrder 0 0 47 [some (.ref 96), some (.int a1), none] [] M Q := by
  unfold fX2_readOrder_j47 at h
  refine sp_iload_n dX2_readOrder_47 rfl rfl ?_
  suffices hj : sp_Wp g Ω mX2_readOrder 0 0 61 [some (.ref 96), some (.int a1), none] [.int (if a1 = 0 then 1 else (if a1 = 2 then 1 else 0))] M Q by
    refine sp_if_eq (tgt := 56) dX2_readOrder_48 (by decide) (fun hc6 => ?_) (fun hc6 => ?_)
    · refine sp_iconst (v := 1) dX2_readOrder_56 (by decide) ?_
      refine sp_goto (tgt := 61) dX2_readOrder_57 (by decide) ?_
      simp only [if_pos hc6] at hj
      exact hj
    · refine sp_iload_n dX2_readOrder_51 rfl rfl ?_
      refine sp_iconst (v := 2) dX2_readOrder_52 (by decide) ?_
      refine sp_icmp_ne (tgt := 60) dX2_readOrder_53 (by decide) (fun hc7 => ?_) (fun hc7 => ?_)
      · refine sp_iconst (v := 0) dX2_readOrder_60 (by decide) ?_
        simp only [if_neg hc6, if_neg hc7] at hj
        exact hj
      · refine sp_iconst (v := 1) dX2_readOrder_56 (by decide) ?_
        refine sp_goto (tgt := 61) dX2_readOrder_57 (by decide) ?_
        simp only [if_neg hc6, if_pos hc7] at hj
        exact hj
  refine sp_weak [true, true, false] [some (.ref 96), some (.int a1), none] rfl ?_
  exact tX2_readOrder_j61 hG hQ _ _ _ h
set_option maxRecDepth 100000 in
set_option maxHeartbeats 4000000 in
theorem tX2_readOrder {g : sp_G} {Ω : sp_Mem → Prop} {Q : sp_Qt} {F : Nat} {p : (Int32 × sp_Mem)} (hG : sp_Ok Ω) {M : sp_Mem} (h : fX2_readOrder F M = some p) (hQ : Q (some (.int p.1)) p.2) : sp_Mt g Ω mX2_readOrder 0 0 [.ref 96] M Q := by
  unfold fX2_readOrder at h
  refine sp_Mt.of [some (.ref 96), none, none] (by decide) (by simp [sp_ent, Value.category]) rfl ?_
  refine sp_aload_n dX2_readOrder_0 rfl rfl ?_
  refine sp_use (fun ho => ?_)
  have hs := hG.1 _ ho
  refine sp_getR (RX2, TX2, 9) dX2_readOrder_1 clX2 (j := 0) (by decide) tw_386 (wsI_96 hs) (Or.inl ⟨_, rfl⟩) (wsP_96_0 hs) ?_
  refine sp_ldcS (j := 2) dX2_readOrder_4 rfl rfl ?_
  obtain ⟨v1, hv1, h⟩ := Option.bind_eq_some_iff.mp h
  refine sp_cV (M1 := M) (r := some (.int v1)) (o := 94) (st := []) (c := 7) (RX8, TX8, 5) [.ref (1000000 + 2)] [.ref (1000000 + 2), .ref 94] [.int v1] dX2_readOrder_6 okX8_placeIn tw_665 tw_666 tw_667 (by decide) (by decide) rfl (Nat.le_of_ble_eq_true rfl) rfl rfl rfl rfl (wsI_94 hs) (fun Q hQ => tX8_placeIn hG (by decide) hv1 hQ) ?_
  refine sp_istore_n [some (.ref 96), some (.int v1), none] dX2_readOrder_9 rfl (by decide) rfl ?_
  refine sp_iload_n dX2_readOrder_10 rfl rfl ?_
  refine sp_iconst (v := (-1)) dX2_readOrder_11 (by decide) ?_
  refine sp_icmp_ne (tgt := 17) dX2_readOrder_12 (by decide) (fun hc2 => ?_) (fun hc2 => ?_)
  · have h := (if_neg hc2).symm.trans h
    refine sp_aload_n dX2_readOrder_17 rfl rfl ?_
    refine sp_getR (RX2, TX2, 9) dX2_readOrder_18 clX2 (j := 1) (by decide) tw_387 (wsI_96 hs) (Or.inl ⟨_, rfl⟩) (wsP_96_1 hs) ?_
    refine sp_iload_n dX2_readOrder_21 rfl rfl ?_
    obtain ⟨M3, hM3, h⟩ := Option.bind_eq_some_iff.mp h
    refine sp_cV (M1 := M3) (r := none) (o := 97) (st := []) (c := 8) (RX9, TX9, 4) [.int v1] [.int v1, .ref 97] [] dX2_readOrder_22 okX9_addClause tw_717 tw_718 tw_719 (by decide) (by decide) rfl (Nat.le_of_ble_eq_true rfl) rfl rfl rfl rfl (wsI_97 hs) (fun Q hQ => tX9_addClause hG (fun M ho => text_97 (hG.1 M ho)) hM3 hQ) ?_
    refine sp_aload_n dX2_readOrder_25 rfl rfl ?_
    refine sp_use (fun ho => ?_)
    have hs := hG.1 _ ho
    refine sp_getR (RX2, TX2, 9) dX2_readOrder_26 clX2 (j := 0) (by decide) tw_386 (wsI_96 hs) (Or.inl ⟨_, rfl⟩) (wsP_96_0 hs) ?_
    obtain ⟨M4, hM4, h⟩ := Option.bind_eq_some_iff.mp h
    refine sp_cV (M1 := M4) (r := none) (o := 94) (st := []) (c := 7) (RX8, TX8, 5) [] [.ref 94] [] dX2_readOrder_29 okX8_toNext tw_721 tw_652 tw_653 (by decide) (by decide) rfl (Nat.le_of_ble_eq_true rfl) rfl rfl rfl rfl (wsI_94 hs) (fun Q hQ => tX8_toNext hG hM4 hQ) ?_
    refine sp_iload_n dX2_readOrder_32 rfl rfl ?_
    refine sp_iconst (v := 3) dX2_readOrder_33 (by decide) ?_
    refine sp_icmp_eq (tgt := 47) dX2_readOrder_34 (by decide) (fun hc5 => ?_) (fun hc5 => ?_)
    · have h := (if_pos hc5).symm.trans h
      refine sp_weak [true, true, false] [some (.ref 96), some (.int v1), none] rfl ?_
      exact tX2_readOrder_j47 hG hQ _ _ h
    · have h := (if_neg hc5).symm.trans h
      refine sp_aload_n dX2_readOrder_37 rfl rfl ?_
      refine sp_iconst (v := 1) dX2_readOrder_38 (by decide) ?_
      refine sp_use (fun ho => ?_)
      have hs := hG.1 _ ho
      obtain ⟨x26, hx26, h⟩ := Option.bind_eq_some_iff.mp h
      refine sp_cV (M1 := x26.2) (r := some (.int x26.1)) (o := 96) (st := []) (c := 2) (RX2, TX2, 9) [.int 1] [.int 1, .ref 96] [.int x26.1] dX2_readOrder_39 okX2_readValue tw_722 tw_724 tw_5 (by decide) (by decide) rfl (Nat.le_of_ble_eq_true rfl) rfl rfl rfl rfl (wsI_96 hs) (fun Q hQ => tX2_readValue hG hx26 hQ) ?_
      refine sp_if_ne (tgt := 47) dX2_readOrder_42 (by decide) (fun hc27 => ?_) (fun hc27 => ?_)
      · have h := (if_neg hc27).symm.trans h
        refine sp_weak [true, true, false] [some (.ref 96), some (.int v1), none] rfl ?_
        exact tX2_readOrder_j47 hG hQ _ _ h
      · have h := (if_pos hc27).symm.trans h
        refine sp_iconst (v := 0) dX2_readOrder_45 (by decide) ?_
        cases h
        exact sp_iret dX2_readOrder_46 (ty := .boolean) rfl (sp_nz (Or.inl rfl)) (fun _ => hQ)
  · have h := (if_pos hc2).symm.trans h
    refine sp_iconst (v := 0) dX2_readOrder_15 (by decide) ?_
    cases h
    exact sp_iret dX2_readOrder_16 (ty := .boolean) rfl (sp_nz (Or.inl rfl)) (fun _ => hQ)
def fX2_readLaw_j59 (F : Nat) (M : sp_Mem) : Option (Int32 × sp_Mem) :=
  (fX2_takes F M 1).bind fun x8 => if x8.1 = 0 then (some (1, x8.2)) else ((fX2_readValue F x8.2 4).bind fun x10 => some ((if x10.1 = 0 then 0 else 1), x10.2))
def fX2_readLaw_j46 (F : Nat) (s0 : Int32) (M : sp_Mem) : Option (Int32 × sp_Mem) :=
  if s0 = 0 then (fX2_readLaw_j59 F M) else ((fX2_readValue F M 1).bind fun x12 => if x12.1 = 0 then (some (0, x12.2)) else (fX2_readLaw_j59 F x12.2))
def fX2_readLaw (F : Nat) (M : sp_Mem) : Option (Int32 × sp_Mem) :=
  (fX8_placeIn F M 0).bind fun v1 => if v1 = (-1) then (some (0, M)) else ((fX9_addClause M 97 v1).bind fun M3 => (fX8_toNext F M3).bind fun M4 => fX2_readLaw_j46 F (if v1 = 0 then 1 else (if v1 = 1 then 1 else 0)) M4)
set_option maxRecDepth 100000 in
set_option maxHeartbeats 4000000 in
theorem tX2_readLaw_j59 {g : sp_G} {Ω : sp_Mem → Prop} {Q : sp_Qt} {F : Nat} {p : (Int32 × sp_Mem)} (hG : sp_Ok Ω)  (hQ : Q (some (.int p.1)) p.2) (M : sp_Mem) (h : fX2_readLaw_j59 F M = some p) : sp_Wp g Ω mX2_readLaw 0 0 59 [some (.ref 96), none, none] [] M Q := by
  unfold fX2_readLaw_j59 at h
  refine sp_aload_n dX2_readLaw_59 rfl rfl ?_
  refine sp_ldcS (j := 1) dX2_readLaw_60 rfl rfl ?_
  refine sp_use (fun ho => ?_)
  have hs := hG.1 _ ho
  obtain ⟨x8, hx8, h⟩ := Option.bind_eq_some_iff.mp h
  refine sp_cV (M1 := x8.2) (r := some (.int x8.1)) (o := 96) (st := []) (c := 2) (RX2, TX2, 9) [.ref (1000000 + 1)] [.ref (1000000 + 1), .ref 96] [.int x8.1] dX2_readLaw_62 okX2_takes tw_801 tw_803 tw_17 (by decide) (by decide) rfl (Nat.le_of_ble_eq_true rfl) rfl rfl rfl rfl (wsI_96 hs) (fun Q hQ => tX2_takes hG (by decide) hx8 hQ) ?_
  refine sp_if_eq (tgt := 76) dX2_readLaw_65 (by decide) (fun hc9 => ?_) (fun hc9 => ?_)
  · have h := (if_pos hc9).symm.trans h
    refine sp_iconst (v := 1) dX2_readLaw_76 (by decide) ?_
    refine sp_goto (tgt := 81) dX2_readLaw_77 (by decide) ?_
    cases h
    exact sp_iret dX2_readLaw_81 (ty := .boolean) rfl (sp_nz (Or.inr rfl)) (fun _ => hQ)
  · have h := (if_neg hc9).symm.trans h
    refine sp_aload_n dX2_readLaw_68 rfl rfl ?_
    refine sp_iconst (v := 4) dX2_readLaw_69 (by decide) ?_
    refine sp_use (fun ho => ?_)
    have hs := hG.1 _ ho
    obtain ⟨x10, hx10, h⟩ := Option.bind_eq_some_iff.mp h
    refine sp_cV (M1 := x10.2) (r := some (.int x10.1)) (o := 96) (st := []) (c := 2) (RX2, TX2, 9) [.int 4] [.int 4, .ref 96] [.int x10.1] dX2_readLaw_70 okX2_readValue tw_722 tw_724 tw_5 (by decide) (by decide) rfl (Nat.le_of_ble_eq_true rfl) rfl rfl rfl rfl (wsI_96 hs) (fun Q hQ => tX2_readValue hG hx10 hQ) ?_
    suffices hj : sp_Wp g Ω mX2_readLaw 0 0 81 [none, none, none] [.int (if x10.1 = 0 then 0 else 1)] x10.2 Q by
      refine sp_if_eq (tgt := 80) dX2_readLaw_73 (by decide) (fun hc11 => ?_) (fun hc11 => ?_)
      · refine sp_iconst (v := 0) dX2_readLaw_80 (by decide) ?_
        refine sp_weak [false, false, false] [none, none, none] rfl ?_
        simp only [if_pos hc11] at hj
        exact hj
      · refine sp_iconst (v := 1) dX2_readLaw_76 (by decide) ?_
        refine sp_goto (tgt := 81) dX2_readLaw_77 (by decide) ?_
        refine sp_weak [false, false, false] [none, none, none] rfl ?_
        simp only [if_neg hc11] at hj
        exact hj
    cases h
    exact sp_iret dX2_readLaw_81 (ty := .boolean) rfl (sp_nz (by repeat (first | exact Or.inl rfl | exact Or.inr rfl | split))) (fun _ => hQ)
set_option maxRecDepth 100000 in
set_option maxHeartbeats 4000000 in
theorem tX2_readLaw_j46 {g : sp_G} {Ω : sp_Mem → Prop} {Q : sp_Qt} {F : Nat} {p : (Int32 × sp_Mem)} (hG : sp_Ok Ω)  (hQ : Q (some (.int p.1)) p.2) (s0 : Int32) (M : sp_Mem) (h : fX2_readLaw_j46 F s0 M = some p) : sp_Wp g Ω mX2_readLaw 0 0 46 [some (.ref 96), none, none] [.int s0] M Q := by
  unfold fX2_readLaw_j46 at h
  refine sp_istore_n [some (.ref 96), none, some (.int s0)] dX2_readLaw_46 rfl (by decide) rfl ?_
  refine sp_iload_n dX2_readLaw_47 rfl rfl ?_
  refine sp_if_eq (tgt := 59) dX2_readLaw_48 (by decide) (fun hc7 => ?_) (fun hc7 => ?_)
  · have h := (if_pos hc7).symm.trans h
    refine sp_weak [true, false, false] [some (.ref 96), none, none] rfl ?_
    exact tX2_readLaw_j59 hG hQ _ h
  · have h := (if_neg hc7).symm.trans h
    refine sp_aload_n dX2_readLaw_51 rfl rfl ?_
    refine sp_iconst (v := 1) dX2_readLaw_52 (by decide) ?_
    refine sp_use (fun ho => ?_)
    have hs := hG.1 _ ho
    obtain ⟨x12, hx12, h⟩ := Option.bind_eq_some_iff.mp h
    refine sp_cV (M1 := x12.2) (r := some (.int x12.1)) (o := 96) (st := []) (c := 2) (RX2, TX2, 9) [.int 1] [.int 1, .ref 96] [.int x12.1] dX2_readLaw_53 okX2_readValue tw_722 tw_724 tw_5 (by decide) (by decide) rfl (Nat.le_of_ble_eq_true rfl) rfl rfl rfl rfl (wsI_96 hs) (fun Q hQ => tX2_readValue hG hx12 hQ) ?_
    refine sp_if_eq (tgt := 80) dX2_readLaw_56 (by decide) (fun hc13 => ?_) (fun hc13 => ?_)
    · have h := (if_pos hc13).symm.trans h
      refine sp_iconst (v := 0) dX2_readLaw_80 (by decide) ?_
      cases h
      exact sp_iret dX2_readLaw_81 (ty := .boolean) rfl (sp_nz (Or.inl rfl)) (fun _ => hQ)
    · have h := (if_neg hc13).symm.trans h
      refine sp_weak [true, false, false] [some (.ref 96), none, none] rfl ?_
      exact tX2_readLaw_j59 hG hQ _ h
set_option maxRecDepth 100000 in
set_option maxHeartbeats 4000000 in
theorem tX2_readLaw {g : sp_G} {Ω : sp_Mem → Prop} {Q : sp_Qt} {F : Nat} {p : (Int32 × sp_Mem)} (hG : sp_Ok Ω) {M : sp_Mem} (h : fX2_readLaw F M = some p) (hQ : Q (some (.int p.1)) p.2) : sp_Mt g Ω mX2_readLaw 0 0 [.ref 96] M Q := by
  unfold fX2_readLaw at h
  refine sp_Mt.of [some (.ref 96), none, none] (by decide) (by simp [sp_ent, Value.category]) rfl ?_
  refine sp_aload_n dX2_readLaw_0 rfl rfl ?_
  refine sp_use (fun ho => ?_)
  have hs := hG.1 _ ho
  refine sp_getR (RX2, TX2, 9) dX2_readLaw_1 clX2 (j := 0) (by decide) tw_386 (wsI_96 hs) (Or.inl ⟨_, rfl⟩) (wsP_96_0 hs) ?_
  refine sp_ldcS (j := 0) dX2_readLaw_4 rfl rfl ?_
  obtain ⟨v1, hv1, h⟩ := Option.bind_eq_some_iff.mp h
  refine sp_cV (M1 := M) (r := some (.int v1)) (o := 94) (st := []) (c := 7) (RX8, TX8, 5) [.ref (1000000 + 0)] [.ref (1000000 + 0), .ref 94] [.int v1] dX2_readLaw_6 okX8_placeIn tw_665 tw_666 tw_667 (by decide) (by decide) rfl (Nat.le_of_ble_eq_true rfl) rfl rfl rfl rfl (wsI_94 hs) (fun Q hQ => tX8_placeIn hG (by decide) hv1 hQ) ?_
  refine sp_istore_n [some (.ref 96), some (.int v1), none] dX2_readLaw_9 rfl (by decide) rfl ?_
  refine sp_iload_n dX2_readLaw_10 rfl rfl ?_
  refine sp_iconst (v := (-1)) dX2_readLaw_11 (by decide) ?_
  refine sp_icmp_ne (tgt := 17) dX2_readLaw_12 (by decide) (fun hc2 => ?_) (fun hc2 => ?_)
  · have h := (if_neg hc2).symm.trans h
    refine sp_aload_n dX2_readLaw_17 rfl rfl ?_
    refine sp_getR (RX2, TX2, 9) dX2_readLaw_18 clX2 (j := 1) (by decide) tw_387 (wsI_96 hs) (Or.inl ⟨_, rfl⟩) (wsP_96_1 hs) ?_
    refine sp_iload_n dX2_readLaw_21 rfl rfl ?_
    obtain ⟨M3, hM3, h⟩ := Option.bind_eq_some_iff.mp h
    refine sp_cV (M1 := M3) (r := none) (o := 97) (st := []) (c := 8) (RX9, TX9, 4) [.int v1] [.int v1, .ref 97] [] dX2_readLaw_22 okX9_addClause tw_717 tw_718 tw_719 (by decide) (by decide) rfl (Nat.le_of_ble_eq_true rfl) rfl rfl rfl rfl (wsI_97 hs) (fun Q hQ => tX9_addClause hG (fun M ho => text_97 (hG.1 M ho)) hM3 hQ) ?_
    refine sp_aload_n dX2_readLaw_25 rfl rfl ?_
    refine sp_use (fun ho => ?_)
    have hs := hG.1 _ ho
    refine sp_getR (RX2, TX2, 9) dX2_readLaw_26 clX2 (j := 0) (by decide) tw_386 (wsI_96 hs) (Or.inl ⟨_, rfl⟩) (wsP_96_0 hs) ?_
    obtain ⟨M4, hM4, h⟩ := Option.bind_eq_some_iff.mp h
    refine sp_cV (M1 := M4) (r := none) (o := 94) (st := []) (c := 7) (RX8, TX8, 5) [] [.ref 94] [] dX2_readLaw_29 okX8_toNext tw_721 tw_652 tw_653 (by decide) (by decide) rfl (Nat.le_of_ble_eq_true rfl) rfl rfl rfl rfl (wsI_94 hs) (fun Q hQ => tX8_toNext hG hM4 hQ) ?_
    refine sp_iload_n dX2_readLaw_32 rfl rfl ?_
    suffices hj : sp_Wp g Ω mX2_readLaw 0 0 46 [some (.ref 96), none, none] [.int (if v1 = 0 then 1 else (if v1 = 1 then 1 else 0))] M4 Q by
      refine sp_if_eq (tgt := 41) dX2_readLaw_33 (by decide) (fun hc5 => ?_) (fun hc5 => ?_)
      · refine sp_iconst (v := 1) dX2_readLaw_41 (by decide) ?_
        refine sp_goto (tgt := 46) dX2_readLaw_42 (by decide) ?_
        refine sp_weak [true, false, false] [some (.ref 96), none, none] rfl ?_
        simp only [if_pos hc5] at hj
        exact hj
      · refine sp_iload_n dX2_readLaw_36 rfl rfl ?_
        refine sp_iconst (v := 1) dX2_readLaw_37 (by decide) ?_
        refine sp_icmp_ne (tgt := 45) dX2_readLaw_38 (by decide) (fun hc6 => ?_) (fun hc6 => ?_)
        · refine sp_iconst (v := 0) dX2_readLaw_45 (by decide) ?_
          refine sp_weak [true, false, false] [some (.ref 96), none, none] rfl ?_
          simp only [if_neg hc5, if_neg hc6] at hj
          exact hj
        · refine sp_iconst (v := 1) dX2_readLaw_41 (by decide) ?_
          refine sp_goto (tgt := 46) dX2_readLaw_42 (by decide) ?_
          refine sp_weak [true, false, false] [some (.ref 96), none, none] rfl ?_
          simp only [if_neg hc5, if_pos hc6] at hj
          exact hj
    refine sp_weak [true, false, false] [some (.ref 96), none, none] rfl ?_
    exact tX2_readLaw_j46 hG hQ _ _ h
  · have h := (if_pos hc2).symm.trans h
    refine sp_iconst (v := 0) dX2_readLaw_15 (by decide) ?_
    cases h
    exact sp_iret dX2_readLaw_16 (ty := .boolean) rfl (sp_nz (Or.inl rfl)) (fun _ => hQ)
def fX2_read_j64 (F : Nat) (kb : Int32 → Int32 → sp_Mem → Option (Int32 × sp_Mem)) (kx : sp_Mem → Option (Int32 × sp_Mem)) (a1 : Int32) (a2 : Int32) (a3 : Int32) (M : sp_Mem) : Option (Int32 × sp_Mem) :=
  if a3 = 0 then (some ((sp_I M 94 3), M)) else ((fX8_isSign M 59).bind fun v11 => if v11 = 0 then (some ((sp_I M 94 3), M)) else ((fX8_toNext F M).bind fun M13 => kb a1 (a2 + 1) M13))
def fX2_read_j47 (F : Nat) (kb : Int32 → Int32 → sp_Mem → Option (Int32 × sp_Mem)) (kx : sp_Mem → Option (Int32 × sp_Mem)) (a1 : Int32) (a2 : Int32) (s0 : Int32) (M : sp_Mem) : Option (Int32 × sp_Mem) :=
  if s0 = 0 then (fX2_read_j64 F kb kx a1 a2 s0 M) else (if (sp_I M 94 2) = 0 then (some ((-1), M)) else (fX2_read_j64 F kb kx a1 a2 s0 M))
def fX2_read_l26 (F : Nat) (kx : sp_Mem → Option (Int32 × sp_Mem)) : Nat → Int32 → Int32 → sp_Mem → Option (Int32 × sp_Mem)
  | 0, _, _, _ => none
  | n + 1, a1, a2, M =>
  if 12 ≤ a2 then (kx M) else (if a1 = 0 then ((fX2_readLaw F M).bind fun x8 => fX2_read_j47 F (fX2_read_l26 F kx n) kx a1 a2 x8.1 x8.2) else ((fX2_readOrder F M).bind fun x15 => fX2_read_j47 F (fX2_read_l26 F kx n) kx a1 a2 x15.1 x15.2))
def fX2_read (F : Nat) (M : sp_Mem) (a1 : Int32) : Option (Int32 × sp_Mem) :=
  sp_do (sp_setI M 96 7 a1) fun M1 => (sp_b01 a1).bind fun _ => sp_do (sp_setI M1 96 6 0) fun M3 => (fX9_clear M3 97).bind fun M4 => (fX8_toFirst F M4).bind fun M5 => fX2_read_l26 F (fun M16 => some ((sp_I M16 94 3), M16)) F a1 0 M5
set_option maxRecDepth 100000 in
set_option maxHeartbeats 4000000 in
theorem tX2_read_j64 {g : sp_G} {Ω : sp_Mem → Prop} {Q : sp_Qt} {F : Nat} {p : (Int32 × sp_Mem)} (hG : sp_Ok Ω)  {kb : Int32 → Int32 → sp_Mem → Option (Int32 × sp_Mem)} {kx : sp_Mem → Option (Int32 × sp_Mem)} (hQ : Q (some (.int p.1)) p.2) (hb : ∀ (a1 : Int32) (a2 : Int32) (M : sp_Mem), kb a1 a2 M = some p → sp_Wp g Ω mX2_read 0 0 26 [some (.ref 96), some (.int a1), some (.int a2), none] [] M Q) (hx : ∀  (M : sp_Mem), kx M = some p → sp_Wp g Ω mX2_read 0 0 101 [some (.ref 96), none, none, none] [] M Q) (a1 : Int32) (a2 : Int32) (a3 : Int32) (M : sp_Mem) (h : fX2_read_j64 F kb kx a1 a2 a3 M = some p) : sp_Wp g Ω mX2_read 0 0 64 [some (.ref 96), some (.int a1), some (.int a2), some (.int a3)] [] M Q := by
  unfold fX2_read_j64 at h
  refine sp_iload_n dX2_read_64 rfl rfl ?_
  refine sp_if_eq (tgt := 80) dX2_read_65 (by decide) (fun hc10 => ?_) (fun hc10 => ?_)
  · have h := (if_pos hc10).symm.trans h
    refine sp_aload_n dX2_read_80 rfl rfl ?_
    refine sp_use (fun ho => ?_)
    have hs := hG.1 _ ho
    refine sp_getR (RX2, TX2, 9) dX2_read_81 clX2 (j := 0) (by decide) tw_386 (wsI_96 hs) (Or.inl ⟨_, rfl⟩) (wsP_96_0 hs) ?_
    refine sp_getI (RX8, TX8, 5) dX2_read_84 clX8 (j := 3) (by decide) tw_342 (wsI_94 hs) (Or.inl rfl) ?_
    cases h
    exact sp_iret dX2_read_87 (ty := .int) rfl rfl (fun _ => hQ)
  · have h := (if_neg hc10).symm.trans h
    refine sp_aload_n dX2_read_68 rfl rfl ?_
    refine sp_use (fun ho => ?_)
    have hs := hG.1 _ ho
    refine sp_getR (RX2, TX2, 9) dX2_read_69 clX2 (j := 0) (by decide) tw_386 (wsI_96 hs) (Or.inl ⟨_, rfl⟩) (wsP_96_0 hs) ?_
    refine sp_bipush (v := 59) dX2_read_72 (by decide) ?_
    obtain ⟨v11, hv11, h⟩ := Option.bind_eq_some_iff.mp h
    refine sp_cV (M1 := M) (r := some (.int v11)) (o := 94) (st := []) (c := 7) (RX8, TX8, 5) [.int 59] [.int 59, .ref 94] [.int v11] dX2_read_74 okX8_isSign tw_739 tw_740 tw_741 (by decide) (by decide) rfl (Nat.le_of_ble_eq_true rfl) rfl rfl rfl rfl (wsI_94 hs) (fun Q hQ => tX8_isSign hG hv11 hQ) ?_
    refine sp_if_ne (tgt := 88) dX2_read_77 (by decide) (fun hc12 => ?_) (fun hc12 => ?_)
    · have h := (if_neg hc12).symm.trans h
      refine sp_aload_n dX2_read_88 rfl rfl ?_
      refine sp_getR (RX2, TX2, 9) dX2_read_89 clX2 (j := 0) (by decide) tw_386 (wsI_96 hs) (Or.inl ⟨_, rfl⟩) (wsP_96_0 hs) ?_
      obtain ⟨M13, hM13, h⟩ := Option.bind_eq_some_iff.mp h
      refine sp_cV (M1 := M13) (r := none) (o := 94) (st := []) (c := 7) (RX8, TX8, 5) [] [.ref 94] [] dX2_read_92 okX8_toNext tw_721 tw_652 tw_653 (by decide) (by decide) rfl (Nat.le_of_ble_eq_true rfl) rfl rfl rfl rfl (wsI_94 hs) (fun Q hQ => tX8_toNext hG hM13 hQ) ?_
      refine sp_iinc (v := (a2 + 1)) [some (.ref 96), some (.int a1), some (.int (a2 + 1)), some (.int a3)] dX2_read_95 rfl rfl (by decide) rfl ?_
      refine sp_goto (tgt := 26) dX2_read_98 (by decide) ?_
      refine sp_weak [true, true, true, false] [some (.ref 96), some (.int a1), some (.int (a2 + 1)), none] rfl ?_
      exact hb _ _ _ h
    · have h := (if_pos hc12).symm.trans h
      refine sp_aload_n dX2_read_80 rfl rfl ?_
      refine sp_getR (RX2, TX2, 9) dX2_read_81 clX2 (j := 0) (by decide) tw_386 (wsI_96 hs) (Or.inl ⟨_, rfl⟩) (wsP_96_0 hs) ?_
      refine sp_getI (RX8, TX8, 5) dX2_read_84 clX8 (j := 3) (by decide) tw_342 (wsI_94 hs) (Or.inl rfl) ?_
      cases h
      exact sp_iret dX2_read_87 (ty := .int) rfl rfl (fun _ => hQ)
set_option maxRecDepth 100000 in
set_option maxHeartbeats 4000000 in
theorem tX2_read_j47 {g : sp_G} {Ω : sp_Mem → Prop} {Q : sp_Qt} {F : Nat} {p : (Int32 × sp_Mem)} (hG : sp_Ok Ω)  {kb : Int32 → Int32 → sp_Mem → Option (Int32 × sp_Mem)} {kx : sp_Mem → Option (Int32 × sp_Mem)} (hQ : Q (some (.int p.1)) p.2) (hb : ∀ (a1 : Int32) (a2 : Int32) (M : sp_Mem), kb a1 a2 M = some p → sp_Wp g Ω mX2_read 0 0 26 [some (.ref 96), some (.int a1), some (.int a2), none] [] M Q) (hx : ∀  (M : sp_Mem), kx M = some p → sp_Wp g Ω mX2_read 0 0 101 [some (.ref 96), none, none, none] [] M Q) (a1 : Int32) (a2 : Int32) (s0 : Int32) (M : sp_Mem) (h : fX2_read_j47 F kb kx a1 a2 s0 M = some p) : sp_Wp g Ω mX2_read 0 0 47 [some (.ref 96), some (.int a1), some (.int a2), none] [.int s0] M Q := by
  unfold fX2_read_j47 at h
  refine sp_istore_n [some (.ref 96), some (.int a1), some (.int a2), some (.int s0)] dX2_read_47 rfl (by decide) rfl ?_
  refine sp_iload_n dX2_read_48 rfl rfl ?_
  refine sp_if_eq (tgt := 64) dX2_read_49 (by decide) (fun hc9 => ?_) (fun hc9 => ?_)
  · have h := (if_pos hc9).symm.trans h
    refine sp_weak [true, true, true, true] [some (.ref 96), some (.int a1), some (.int a2), some (.int s0)] rfl ?_
    exact tX2_read_j64 hG hQ hb hx _ _ _ _ h
  · have h := (if_neg hc9).symm.trans h
    refine sp_aload_n dX2_read_52 rfl rfl ?_
    refine sp_use (fun ho => ?_)
    have hs := hG.1 _ ho
    refine sp_getR (RX2, TX2, 9) dX2_read_53 clX2 (j := 0) (by decide) tw_386 (wsI_96 hs) (Or.inl ⟨_, rfl⟩) (wsP_96_0 hs) ?_
    refine sp_getI (RX8, TX8, 5) dX2_read_56 clX8 (j := 2) (by decide) tw_340 (wsI_94 hs) (Or.inl rfl) ?_
    refine sp_if_ne (tgt := 64) dX2_read_59 (by decide) (fun hc14 => ?_) (fun hc14 => ?_)
    · have h := (if_neg hc14).symm.trans h
      refine sp_weak [true, true, true, true] [some (.ref 96), some (.int a1), some (.int a2), some (.int s0)] rfl ?_
      exact tX2_read_j64 hG hQ hb hx _ _ _ _ h
    · have h := (if_pos hc14).symm.trans h
      refine sp_iconst (v := (-1)) dX2_read_62 (by decide) ?_
      cases h
      exact sp_iret dX2_read_63 (ty := .int) rfl rfl (fun _ => hQ)
set_option maxRecDepth 100000 in
set_option maxHeartbeats 4000000 in
theorem tX2_read_l26 {g : sp_G} {Ω : sp_Mem → Prop} {Q : sp_Qt} {F : Nat} {p : (Int32 × sp_Mem)} (hG : sp_Ok Ω)  {kx : sp_Mem → Option (Int32 × sp_Mem)} (hQ : Q (some (.int p.1)) p.2) (hx : ∀  (M : sp_Mem), kx M = some p → sp_Wp g Ω mX2_read 0 0 101 [some (.ref 96), none, none, none] [] M Q) : ∀ (n : Nat) (a1 : Int32) (a2 : Int32) (M : sp_Mem), fX2_read_l26 F kx n a1 a2 M = some p → sp_Wp g Ω mX2_read 0 0 26 [some (.ref 96), some (.int a1), some (.int a2), none] [] M Q := by
  intro n
  induction n with
  | zero =>
    intro a1 a2 M h
    rw [fX2_read_l26] at h
    cases h
  | succ n ih =>
    intro a1 a2 M h
    rw [fX2_read_l26] at h
    refine sp_iload_n dX2_read_26 rfl rfl ?_
    refine sp_bipush (v := 12) dX2_read_27 (by decide) ?_
    refine sp_icmp_ge (tgt := 101) dX2_read_29 (by decide) (fun hc6 => ?_) (fun hc6 => ?_)
    · have h := (if_pos hc6).symm.trans h
      refine sp_weak [true, false, false, false] [some (.ref 96), none, none, none] rfl ?_
      exact hx _ h
    · have h := (if_neg hc6).symm.trans h
      refine sp_iload_n dX2_read_32 rfl rfl ?_
      refine sp_if_eq (tgt := 43) dX2_read_33 (by decide) (fun hc7 => ?_) (fun hc7 => ?_)
      · have h := (if_pos hc7).symm.trans h
        refine sp_aload_n dX2_read_43 rfl rfl ?_
        refine sp_use (fun ho => ?_)
        have hs := hG.1 _ ho
        obtain ⟨x8, hx8, h⟩ := Option.bind_eq_some_iff.mp h
        refine sp_cV (M1 := x8.2) (r := some (.int x8.1)) (o := 96) (st := []) (c := 2) (RX2, TX2, 9) [] [.ref 96] [.int x8.1] dX2_read_44 okX2_readLaw tw_811 tw_813 tw_19 (by decide) (by decide) rfl (Nat.le_of_ble_eq_true rfl) rfl rfl rfl rfl (wsI_96 hs) (fun Q hQ => tX2_readLaw hG hx8 hQ) ?_
        refine sp_weak [true, true, true, false] [some (.ref 96), some (.int a1), some (.int a2), none] rfl ?_
        exact tX2_read_j47 hG hQ ih hx _ _ _ _ h
      · have h := (if_neg hc7).symm.trans h
        refine sp_aload_n dX2_read_36 rfl rfl ?_
        refine sp_use (fun ho => ?_)
        have hs := hG.1 _ ho
        obtain ⟨x15, hx15, h⟩ := Option.bind_eq_some_iff.mp h
        refine sp_cV (M1 := x15.2) (r := some (.int x15.1)) (o := 96) (st := []) (c := 2) (RX2, TX2, 9) [] [.ref 96] [.int x15.1] dX2_read_37 okX2_readOrder tw_660 tw_662 tw_4 (by decide) (by decide) rfl (Nat.le_of_ble_eq_true rfl) rfl rfl rfl rfl (wsI_96 hs) (fun Q hQ => tX2_readOrder hG hx15 hQ) ?_
        refine sp_goto (tgt := 47) dX2_read_40 (by decide) ?_
        refine sp_weak [true, true, true, false] [some (.ref 96), some (.int a1), some (.int a2), none] rfl ?_
        exact tX2_read_j47 hG hQ ih hx _ _ _ _ h
set_option maxRecDepth 100000 in
set_option maxHeartbeats 4000000 in
theorem tX2_read {g : sp_G} {Ω : sp_Mem → Prop} {Q : sp_Qt} {F : Nat} {p : (Int32 × sp_Mem)} (hG : sp_Ok Ω) {M : sp_Mem} {a1 : Int32} (h : fX2_read F M a1 = some p) (hQ : Q (some (.int p.1)) p.2) : sp_Mt g Ω mX2_read 0 0 [.ref 96, .int a1] M Q := by
  unfold fX2_read at h
  refine sp_Mt.of [some (.ref 96), some (.int a1), none, none] (by decide) (by simp [sp_ent, Value.category]) rfl ?_
  refine sp_aload_n dX2_read_0 rfl rfl ?_
  refine sp_iload_n dX2_read_1 rfl rfl ?_
  refine sp_use (fun ho => ?_)
  have hs := hG.1 _ ho
  obtain ⟨M1, hM1, h⟩ := sp_do_e h
  obtain ⟨_, hz2, h⟩ := Option.bind_eq_some_iff.mp h
  refine sp_putI2 (RX2, TX2, 9) hG dX2_read_2 clX2 (j := 7) (by decide) tw_394 rfl (Or.inr ⟨rfl, (sp_b01_e hz2)⟩) (wsI_96 hs) hM1 ?_
  refine sp_aload_n dX2_read_5 rfl rfl ?_
  refine sp_iconst (v := 0) dX2_read_6 (by decide) ?_
  refine sp_use (fun ho => ?_)
  have hs := hG.1 _ ho
  obtain ⟨M3, hM3, h⟩ := sp_do_e h
  refine sp_putI2 (RX2, TX2, 9) hG dX2_read_7 clX2 (j := 6) (by decide) tw_393 rfl (Or.inl rfl) (wsI_96 hs) hM3 ?_
  refine sp_aload_n dX2_read_10 rfl rfl ?_
  refine sp_use (fun ho => ?_)
  have hs := hG.1 _ ho
  refine sp_getR (RX2, TX2, 9) dX2_read_11 clX2 (j := 1) (by decide) tw_387 (wsI_96 hs) (Or.inl ⟨_, rfl⟩) (wsP_96_1 hs) ?_
  obtain ⟨M4, hM4, h⟩ := Option.bind_eq_some_iff.mp h
  refine sp_cV (M1 := M4) (r := none) (o := 97) (st := []) (c := 8) (RX9, TX9, 4) [] [.ref 97] [] dX2_read_14 okX9_clear tw_643 tw_644 tw_645 (by decide) (by decide) rfl (Nat.le_of_ble_eq_true rfl) rfl rfl rfl rfl (wsI_97 hs) (fun Q hQ => tX9_clear hG (fun M ho => text_97 (hG.1 M ho)) hM4 hQ) ?_
  refine sp_aload_n dX2_read_17 rfl rfl ?_
  refine sp_use (fun ho => ?_)
  have hs := hG.1 _ ho
  refine sp_getR (RX2, TX2, 9) dX2_read_18 clX2 (j := 0) (by decide) tw_386 (wsI_96 hs) (Or.inl ⟨_, rfl⟩) (wsP_96_0 hs) ?_
  obtain ⟨M5, hM5, h⟩ := Option.bind_eq_some_iff.mp h
  refine sp_cV (M1 := M5) (r := none) (o := 94) (st := []) (c := 7) (RX8, TX8, 5) [] [.ref 94] [] dX2_read_21 okX8_toFirst tw_647 tw_648 tw_649 (by decide) (by decide) rfl (Nat.le_of_ble_eq_true rfl) rfl rfl rfl rfl (wsI_94 hs) (fun Q hQ => tX8_toFirst hG hM5 hQ) ?_
  refine sp_iconst (v := 0) dX2_read_24 (by decide) ?_
  refine sp_istore_n [some (.ref 96), some (.int a1), some (.int 0), none] dX2_read_25 rfl (by decide) rfl ?_
  refine sp_weak [true, true, true, false] [some (.ref 96), some (.int a1), some (.int 0), none] rfl ?_
  refine tX2_read_l26 hG hQ (fun M16 h => ?_) F _ _ _ h
  refine sp_aload_n dX2_read_101 rfl rfl ?_
  refine sp_use (fun ho => ?_)
  have hs := hG.1 _ ho
  refine sp_getR (RX2, TX2, 9) dX2_read_102 clX2 (j := 0) (by decide) tw_386 (wsI_96 hs) (Or.inl ⟨_, rfl⟩) (wsP_96_0 hs) ?_
  refine sp_getI (RX8, TX8, 5) dX2_read_105 clX8 (j := 3) (by decide) tw_342 (wsI_94 hs) (Or.inl rfl) ?_
  cases h
  exact sp_iret dX2_read_108 (ty := .int) rfl rfl (fun _ => hQ)
def fX3_clear (M : sp_Mem) (o0 : Nat) : Option sp_Mem :=
  sp_do (sp_setI M o0 3 0) fun M1 => some M1
set_option maxRecDepth 100000 in
set_option maxHeartbeats 4000000 in
theorem tX3_clear {g : sp_G} {Ω : sp_Mem → Prop} {Q : sp_Qt} {p : sp_Mem} (hG : sp_Ok Ω) {o0 : Nat} (ho0 : sp_past o0) {M : sp_Mem} (h : fX3_clear M o0 = some p) (hQ : Q none p) : sp_Mt g Ω mX3_clear 0 0 [.ref o0] M Q := by
  unfold fX3_clear at h
  refine sp_Mt.of [some (.ref o0)] (by decide) (by simp [sp_ent, Value.category]) rfl ?_
  refine sp_aload_n dX3_clear_0 rfl rfl ?_
  refine sp_iconst (v := 0) dX3_clear_1 (by decide) ?_
  refine sp_use (fun ho => ?_)
  have hs := hG.1 _ ho
  obtain ⟨M1, hM1, h⟩ := sp_do_e h
  refine sp_putI2 (RX3, TX3, 4) hG dX3_clear_2 clX3 (j := 3) (by decide) tw_263 rfl (Or.inl rfl) (paI hs ho0) hM1 ?_
  cases h
  exact sp_vret dX3_clear_5 rfl (fun _ => hQ)
def fX3_freeRow (M0 : sp_Mem) (o0 : Nat) : Option Int32 :=
  some (((sp_I M0 o0 2) + (sp_I M0 o0 3)) - ((sp_I M0 o0 2) + (sp_I M0 o0 3)) / 17 * 17)
set_option maxRecDepth 100000 in
set_option maxHeartbeats 4000000 in
theorem tX3_freeRow {g : sp_G} {Ω : sp_Mem → Prop} {Q : sp_Qt} {M0 : sp_Mem} {p : Int32} (hG : sp_Ok Ω) {o0 : Nat} (ho0 : sp_past o0) (h : fX3_freeRow M0 o0 = some p) (hQ : Q (some (.int p)) M0) : sp_Mt g Ω mX3_freeRow 0 0 [.ref o0] M0 Q := by
  unfold fX3_freeRow at h
  refine sp_Mt.of [some (.ref o0)] (by decide) (by simp [sp_ent, Value.category]) rfl ?_
  refine sp_aload_n dX3_freeRow_0 rfl rfl ?_
  refine sp_use (fun ho => ?_)
  have hs := hG.1 _ ho
  refine sp_getI (RX3, TX3, 4) dX3_freeRow_1 clX3 (j := 2) (by decide) tw_262 (paI hs ho0) (Or.inl rfl) ?_
  refine sp_aload_n dX3_freeRow_4 rfl rfl ?_
  refine sp_getI (RX3, TX3, 4) dX3_freeRow_5 clX3 (j := 3) (by decide) tw_263 (paI hs ho0) (Or.inl rfl) ?_
  refine sp_iadd dX3_freeRow_8 ?_
  refine sp_bipush (v := 17) dX3_freeRow_9 (by decide) ?_
  refine sp_irem dX3_freeRow_11 (by decide) ?_
  cases h
  exact sp_iret dX3_freeRow_12 (ty := .int) rfl rfl (fun _ => hQ)
def fX5_saveMoves (M : sp_Mem) (o0 : Nat) (o1 : Nat) (a2 : Int32) : Option sp_Mem :=
  (sp_cix 25 731 0 a2 25).bind fun k1 => sp_do (sp_cpy M (o0 + 1) o1 k1.1 k1.2.1 k1.2.2) fun M2 => (sp_cix 6 731 0 (a2 + 25) 6).bind fun k3 => sp_do (sp_cpy M2 (o0 + 2) o1 k3.1 k3.2.1 k3.2.2) fun M4 => (sp_cix 6 731 0 ((a2 + 25) + 6) 6).bind fun k5 => sp_do (sp_cpy M4 (o0 + 3) o1 k5.1 k5.2.1 k5.2.2) fun M6 => (sp_cix 5 731 0 (((a2 + 25) + 6) + 6) 5).bind fun k7 => sp_do (sp_cpy M6 (o0 + 5) o1 k7.1 k7.2.1 k7.2.2) fun M8 => (sp_ix 731 ((((a2 + 25) + 6) + 6) + 5)).bind fun j9 => sp_do (sp_setI M8 o1 j9 (sp_I M8 (o0 + 10) 0)) fun M10 => some M10
set_option maxRecDepth 100000 in
set_option maxHeartbeats 4000000 in
theorem tX5_saveMoves {g : sp_G} {Ω : sp_Mem → Prop} {Q : sp_Qt} {p : sp_Mem} (hG : sp_Ok Ω) {o0 : Nat} (ho0 : sp_room o0) {o1 : Nat} (ho1 : sp_rows o1) {M : sp_Mem} {a2 : Int32} (h : fX5_saveMoves M o0 o1 a2 = some p) (hQ : Q none p) : sp_Mt g Ω mX5_saveMoves 0 0 [.ref o0, .ref o1, .int a2] M Q := by
  unfold fX5_saveMoves at h
  refine sp_Mt.of [some (.ref o0), some (.ref o1), some (.int a2), none] (by decide) (by simp [sp_ent, Value.category]) rfl ?_
  refine sp_iload_n dX5_saveMoves_0 rfl rfl ?_
  refine sp_istore_n [some (.ref o0), some (.ref o1), some (.int a2), some (.int a2)] dX5_saveMoves_1 rfl (by decide) rfl ?_
  refine sp_aload_n dX5_saveMoves_2 rfl rfl ?_
  refine sp_use (fun ho => ?_)
  have hs := hG.1 _ ho
  refine sp_getR (RX5, TX5, 16) dX5_saveMoves_3 clX5 (j := 0) (by decide) tw_165 (rmI hs ho0) (Or.inr ⟨_, rfl⟩) (rmP_0 hs ho0) ?_
  refine sp_iconst (v := 0) dX5_saveMoves_6 (by decide) ?_
  refine sp_aload_n dX5_saveMoves_7 rfl rfl ?_
  refine sp_iload_n dX5_saveMoves_8 rfl rfl ?_
  refine sp_bipush (v := 25) dX5_saveMoves_9 (by decide) ?_
  obtain ⟨k1, hk1, h⟩ := Option.bind_eq_some_iff.mp h
  obtain ⟨M2, hM2, h⟩ := sp_do_e h
  refine sp_copy2 dX5_saveMoves_11 tw_855 tw_837 tw_836 tw_116 hG (rmA_1 hs ho0) (rwA hs ho1) (sp_cix_1 hk1) (sp_cix_2 hk1) (sp_cix_3 hk1) (sp_cix_4 hk1) (sp_cix_5 hk1) (sp_cix_6 hk1) (by rw [(rmN_1 hs ho0)]; exact sp_cix_7 hk1) (by rw [(rwN hs ho1)]; exact sp_cix_8 hk1) (by decide) (Nat.le_of_ble_eq_true rfl) hM2 ?_
  refine sp_iinc (v := (a2 + 25)) [some (.ref o0), some (.ref o1), some (.int a2), some (.int (a2 + 25))] dX5_saveMoves_14 rfl rfl (by decide) rfl ?_
  refine sp_aload_n dX5_saveMoves_17 rfl rfl ?_
  refine sp_use (fun ho => ?_)
  have hs := hG.1 _ ho
  refine sp_getR (RX5, TX5, 16) dX5_saveMoves_18 clX5 (j := 1) (by decide) tw_169 (rmI hs ho0) (Or.inr ⟨_, rfl⟩) (rmP_1 hs ho0) ?_
  refine sp_iconst (v := 0) dX5_saveMoves_21 (by decide) ?_
  refine sp_aload_n dX5_saveMoves_22 rfl rfl ?_
  refine sp_iload_n dX5_saveMoves_23 rfl rfl ?_
  refine sp_bipush (v := 6) dX5_saveMoves_24 (by decide) ?_
  obtain ⟨k3, hk3, h⟩ := Option.bind_eq_some_iff.mp h
  obtain ⟨M4, hM4, h⟩ := sp_do_e h
  refine sp_copy2 dX5_saveMoves_26 tw_855 tw_837 tw_836 tw_116 hG (rmA_2 hs ho0) (rwA hs ho1) (sp_cix_1 hk3) (sp_cix_2 hk3) (sp_cix_3 hk3) (sp_cix_4 hk3) (sp_cix_5 hk3) (sp_cix_6 hk3) (by rw [(rmN_2 hs ho0)]; exact sp_cix_7 hk3) (by rw [(rwN hs ho1)]; exact sp_cix_8 hk3) (by decide) (Nat.le_of_ble_eq_true rfl) hM4 ?_
  refine sp_iinc (v := ((a2 + 25) + 6)) [some (.ref o0), some (.ref o1), some (.int a2), some (.int ((a2 + 25) + 6))] dX5_saveMoves_29 rfl rfl (by decide) rfl ?_
  refine sp_aload_n dX5_saveMoves_32 rfl rfl ?_
  refine sp_use (fun ho => ?_)
  have hs := hG.1 _ ho
  refine sp_getR (RX5, TX5, 16) dX5_saveMoves_33 clX5 (j := 2) (by decide) tw_175 (rmI hs ho0) (Or.inr ⟨_, rfl⟩) (rmP_2 hs ho0) ?_
  refine sp_iconst (v := 0) dX5_saveMoves_36 (by decide) ?_
  refine sp_aload_n dX5_saveMoves_37 rfl rfl ?_
  refine sp_iload_n dX5_saveMoves_38 rfl rfl ?_
  refine sp_bipush (v := 6) dX5_saveMoves_39 (by decide) ?_
  obtain ⟨k5, hk5, h⟩ := Option.bind_eq_some_iff.mp h
  obtain ⟨M6, hM6, h⟩ := sp_do_e h
  refine sp_copy2 dX5_saveMoves_41 tw_855 tw_837 tw_836 tw_116 hG (rmA_3 hs ho0) (rwA hs ho1) (sp_cix_1 hk5) (sp_cix_2 hk5) (sp_cix_3 hk5) (sp_cix_4 hk5) (sp_cix_5 hk5) (sp_cix_6 hk5) (by rw [(rmN_3 hs ho0)]; exact sp_cix_7 hk5) (by rw [(rwN hs ho1)]; exact sp_cix_8 hk5) (by decide) (Nat.le_of_ble_eq_true rfl) hM6 ?_
  refine sp_iinc (v := (((a2 + 25) + 6) + 6)) [some (.ref o0), some (.ref o1), some (.int a2), some (.int (((a2 + 25) + 6) + 6))] dX5_saveMoves_44 rfl rfl (by decide) rfl ?_
  refine sp_aload_n dX5_saveMoves_47 rfl rfl ?_
  refine sp_use (fun ho => ?_)
  have hs := hG.1 _ ho
  refine sp_getR (RX5, TX5, 16) dX5_saveMoves_48 clX5 (j := 5) (by decide) tw_188 (rmI hs ho0) (Or.inr ⟨_, rfl⟩) (rmP_5 hs ho0) ?_
  refine sp_iconst (v := 0) dX5_saveMoves_51 (by decide) ?_
  refine sp_aload_n dX5_saveMoves_52 rfl rfl ?_
  refine sp_iload_n dX5_saveMoves_53 rfl rfl ?_
  refine sp_iconst (v := 5) dX5_saveMoves_54 (by decide) ?_
  obtain ⟨k7, hk7, h⟩ := Option.bind_eq_some_iff.mp h
  obtain ⟨M8, hM8, h⟩ := sp_do_e h
  refine sp_copy2 dX5_saveMoves_55 tw_855 tw_837 tw_836 tw_116 hG (rmA_5 hs ho0) (rwA hs ho1) (sp_cix_1 hk7) (sp_cix_2 hk7) (sp_cix_3 hk7) (sp_cix_4 hk7) (sp_cix_5 hk7) (sp_cix_6 hk7) (by rw [(rmN_5 hs ho0)]; exact sp_cix_7 hk7) (by rw [(rwN hs ho1)]; exact sp_cix_8 hk7) (by decide) (Nat.le_of_ble_eq_true rfl) hM8 ?_
  refine sp_iinc (v := ((((a2 + 25) + 6) + 6) + 5)) [some (.ref o0), some (.ref o1), some (.int a2), some (.int ((((a2 + 25) + 6) + 6) + 5))] dX5_saveMoves_58 rfl rfl (by decide) rfl ?_
  refine sp_aload_n dX5_saveMoves_61 rfl rfl ?_
  refine sp_iload_n dX5_saveMoves_62 rfl rfl ?_
  refine sp_aload_n dX5_saveMoves_63 rfl rfl ?_
  refine sp_use (fun ho => ?_)
  have hs := hG.1 _ ho
  refine sp_getR (RX5, TX5, 16) dX5_saveMoves_64 clX5 (j := 12) (by decide) tw_210 (rmI hs ho0) (Or.inr ⟨_, rfl⟩) (rmP_12 hs ho0) ?_
  refine sp_iconst (v := 0) dX5_saveMoves_67 (by decide) ?_
  refine sp_iald2 (j := 0) dX5_saveMoves_68 (rmA_10 hs ho0) (rmN_10 hs ho0) rfl ?_
  obtain ⟨j9, hj9, h⟩ := Option.bind_eq_some_iff.mp h
  obtain ⟨M10, hM10, h⟩ := sp_do_e h
  refine sp_iast2 (j := j9) hG dX5_saveMoves_69 (rwA hs ho1) (rwN hs ho1) hj9 hM10 ?_
  cases h
  exact sp_vret dX5_saveMoves_70 rfl (fun _ => hQ)
def fX3_prepare (M : sp_Mem) (o0 : Nat) (o1 : Nat) : Option sp_Mem :=
  (fX3_freeRow M o0).bind fun v1 => (fX5_saveMoves M o1 (o0 + 1) (v1 * 43)).bind fun M2 => some M2
set_option maxRecDepth 100000 in
set_option maxHeartbeats 4000000 in
theorem tX3_prepare {g : sp_G} {Ω : sp_Mem → Prop} {Q : sp_Qt} {p : sp_Mem} (hG : sp_Ok Ω) {o0 : Nat} (ho0 : sp_past o0) {o1 : Nat} (ho1 : sp_room o1) {M : sp_Mem} (h : fX3_prepare M o0 o1 = some p) (hQ : Q none p) : sp_Mt g Ω mX3_prepare 0 0 [.ref o0, .ref o1] M Q := by
  unfold fX3_prepare at h
  refine sp_Mt.of [some (.ref o0), some (.ref o1)] (by decide) (by simp [sp_ent, Value.category]) rfl ?_
  refine sp_aload_n dX3_prepare_0 rfl rfl ?_
  refine sp_aload_n dX3_prepare_1 rfl rfl ?_
  refine sp_use (fun ho => ?_)
  have hs := hG.1 _ ho
  refine sp_getR (RX3, TX3, 4) dX3_prepare_2 clX3 (j := 0) (by decide) tw_260 (paI hs ho0) (Or.inr ⟨_, rfl⟩) (paP_0 hs ho0) ?_
  refine sp_aload_n dX3_prepare_5 rfl rfl ?_
  obtain ⟨v1, hv1, h⟩ := Option.bind_eq_some_iff.mp h
  refine sp_cV (M1 := M) (r := some (.int v1)) (o := o0) (st := [.ref (o0 + 1), .ref o1]) (c := 3) (RX3, TX3, 4) [] [.ref o0, .ref (o0 + 1), .ref o1] [.int v1, .ref (o0 + 1), .ref o1] dX3_prepare_6 okX3_freeRow tw_896 tw_898 tw_21 (by decide) (by decide) rfl (Nat.le_of_ble_eq_true rfl) rfl rfl rfl rfl (paI hs ho0) (fun Q hQ => tX3_freeRow hG ho0 hv1 hQ) ?_
  refine sp_bipush (v := 43) dX3_prepare_9 (by decide) ?_
  refine sp_imul dX3_prepare_11 ?_
  obtain ⟨M2, hM2, h⟩ := Option.bind_eq_some_iff.mp h
  refine sp_cV (M1 := M2) (r := none) (o := o1) (st := []) (c := 4) (RX5, TX5, 16) [.ref (o0 + 1), .int (v1 * 43)] [.int (v1 * 43), .ref (o0 + 1), .ref o1] [] dX3_prepare_12 okX5_saveMoves tw_900 tw_901 tw_902 (by decide) (by decide) rfl (Nat.le_of_ble_eq_true rfl) rfl rfl rfl rfl (rmI hs ho1) (fun Q hQ => tX5_saveMoves hG ho1 (pa_rows ho0) hM2 hQ) ?_
  cases h
  exact sp_vret dX3_prepare_15 rfl (fun _ => hQ)
def fX3_keep (M : sp_Mem) (o0 : Nat) (a1 : Int32) : Option sp_Mem :=
  (fX3_freeRow M o0).bind fun v1 => (sp_ix 17 v1).bind fun j2 => sp_do (sp_setI M (o0 + 2) j2 a1) fun M3 => if 16 ≤ (sp_I M3 o0 3) then (sp_do (sp_setI M3 o0 2 (((sp_I M3 o0 2) + 1) - ((sp_I M3 o0 2) + 1) / 17 * 17)) fun M5 => some M5) else (sp_do (sp_setI M3 o0 3 ((sp_I M3 o0 3) + 1)) fun M6 => some M6)
set_option maxRecDepth 100000 in
set_option maxHeartbeats 4000000 in
theorem tX3_keep {g : sp_G} {Ω : sp_Mem → Prop} {Q : sp_Qt} {p : sp_Mem} (hG : sp_Ok Ω) {o0 : Nat} (ho0 : sp_past o0) {M : sp_Mem} {a1 : Int32} (h : fX3_keep M o0 a1 = some p) (hQ : Q none p) : sp_Mt g Ω mX3_keep 0 0 [.ref o0, .int a1] M Q := by
  unfold fX3_keep at h
  refine sp_Mt.of [some (.ref o0), some (.int a1)] (by decide) (by simp [sp_ent, Value.category]) rfl ?_
  refine sp_aload_n dX3_keep_0 rfl rfl ?_
  refine sp_use (fun ho => ?_)
  have hs := hG.1 _ ho
  refine sp_getR (RX3, TX3, 4) dX3_keep_1 clX3 (j := 1) (by decide) tw_261 (paI hs ho0) (Or.inr ⟨_, rfl⟩) (paP_1 hs ho0) ?_
  refine sp_aload_n dX3_keep_4 rfl rfl ?_
  obtain ⟨v1, hv1, h⟩ := Option.bind_eq_some_iff.mp h
  refine sp_cV (M1 := M) (r := some (.int v1)) (o := o0) (st := [.ref (o0 + 2)]) (c := 3) (RX3, TX3, 4) [] [.ref o0, .ref (o0 + 2)] [.int v1, .ref (o0 + 2)] dX3_keep_5 okX3_freeRow tw_896 tw_898 tw_21 (by decide) (by decide) rfl (Nat.le_of_ble_eq_true rfl) rfl rfl rfl rfl (paI hs ho0) (fun Q hQ => tX3_freeRow hG ho0 hv1 hQ) ?_
  refine sp_iload_n dX3_keep_8 rfl rfl ?_
  obtain ⟨j2, hj2, h⟩ := Option.bind_eq_some_iff.mp h
  obtain ⟨M3, hM3, h⟩ := sp_do_e h
  refine sp_iast2 (j := j2) hG dX3_keep_9 (paA_2 hs ho0) (paN_2 hs ho0) hj2 hM3 ?_
  refine sp_aload_n dX3_keep_10 rfl rfl ?_
  refine sp_use (fun ho => ?_)
  have hs := hG.1 _ ho
  refine sp_getI (RX3, TX3, 4) dX3_keep_11 clX3 (j := 3) (by decide) tw_263 (paI hs ho0) (Or.inl rfl) ?_
  refine sp_bipush (v := 16) dX3_keep_14 (by decide) ?_
  refine sp_icmp_ge (tgt := 32) dX3_keep_16 (by decide) (fun hc4 => ?_) (fun hc4 => ?_)
  · have h := (if_pos hc4).symm.trans h
    refine sp_aload_n dX3_keep_32 rfl rfl ?_
    refine sp_aload_n dX3_keep_33 rfl rfl ?_
    refine sp_getI (RX3, TX3, 4) dX3_keep_34 clX3 (j := 2) (by decide) tw_262 (paI hs ho0) (Or.inl rfl) ?_
    refine sp_iconst (v := 1) dX3_keep_37 (by decide) ?_
    refine sp_iadd dX3_keep_38 ?_
    refine sp_bipush (v := 17) dX3_keep_39 (by decide) ?_
    refine sp_irem dX3_keep_41 (by decide) ?_
    obtain ⟨M5, hM5, h⟩ := sp_do_e h
    refine sp_putI2 (RX3, TX3, 4) hG dX3_keep_42 clX3 (j := 2) (by decide) tw_262 rfl (Or.inl rfl) (paI hs ho0) hM5 ?_
    cases h
    exact sp_vret dX3_keep_45 rfl (fun _ => hQ)
  · have h := (if_neg hc4).symm.trans h
    refine sp_aload_n dX3_keep_19 rfl rfl ?_
    refine sp_dup dX3_keep_20 rfl ?_
    refine sp_getI (RX3, TX3, 4) dX3_keep_21 clX3 (j := 3) (by decide) tw_263 (paI hs ho0) (Or.inl rfl) ?_
    refine sp_iconst (v := 1) dX3_keep_24 (by decide) ?_
    refine sp_iadd dX3_keep_25 ?_
    obtain ⟨M6, hM6, h⟩ := sp_do_e h
    refine sp_putI2 (RX3, TX3, 4) hG dX3_keep_26 clX3 (j := 3) (by decide) tw_263 rfl (Or.inl rfl) (paI hs ho0) hM6 ?_
    refine sp_goto (tgt := 45) dX3_keep_29 (by decide) ?_
    cases h
    exact sp_vret dX3_keep_45 rfl (fun _ => hQ)
def fX5_loadMoves (M : sp_Mem) (o0 : Nat) (o1 : Nat) (a2 : Int32) : Option sp_Mem :=
  (sp_cix 731 25 a2 0 25).bind fun k1 => sp_do (sp_cpy M o1 (o0 + 1) k1.1 k1.2.1 k1.2.2) fun M2 => (sp_cix 731 6 (a2 + 25) 0 6).bind fun k3 => sp_do (sp_cpy M2 o1 (o0 + 2) k3.1 k3.2.1 k3.2.2) fun M4 => (sp_cix 731 6 ((a2 + 25) + 6) 0 6).bind fun k5 => sp_do (sp_cpy M4 o1 (o0 + 3) k5.1 k5.2.1 k5.2.2) fun M6 => (sp_cix 731 5 (((a2 + 25) + 6) + 6) 0 5).bind fun k7 => sp_do (sp_cpy M6 o1 (o0 + 5) k7.1 k7.2.1 k7.2.2) fun M8 => (sp_ix 731 ((((a2 + 25) + 6) + 6) + 5)).bind fun j9 => sp_do (sp_setI M8 (o0 + 10) 0 (sp_I M8 o1 j9)) fun M10 => some M10
set_option maxRecDepth 100000 in
set_option maxHeartbeats 4000000 in
theorem tX5_loadMoves {g : sp_G} {Ω : sp_Mem → Prop} {Q : sp_Qt} {p : sp_Mem} (hG : sp_Ok Ω) {o0 : Nat} (ho0 : sp_room o0) {o1 : Nat} (ho1 : sp_rows o1) {M : sp_Mem} {a2 : Int32} (h : fX5_loadMoves M o0 o1 a2 = some p) (hQ : Q none p) : sp_Mt g Ω mX5_loadMoves 0 0 [.ref o0, .ref o1, .int a2] M Q := by
  unfold fX5_loadMoves at h
  refine sp_Mt.of [some (.ref o0), some (.ref o1), some (.int a2), none] (by decide) (by simp [sp_ent, Value.category]) rfl ?_
  refine sp_iload_n dX5_loadMoves_0 rfl rfl ?_
  refine sp_istore_n [some (.ref o0), some (.ref o1), some (.int a2), some (.int a2)] dX5_loadMoves_1 rfl (by decide) rfl ?_
  refine sp_aload_n dX5_loadMoves_2 rfl rfl ?_
  refine sp_iload_n dX5_loadMoves_3 rfl rfl ?_
  refine sp_aload_n dX5_loadMoves_4 rfl rfl ?_
  refine sp_use (fun ho => ?_)
  have hs := hG.1 _ ho
  refine sp_getR (RX5, TX5, 16) dX5_loadMoves_5 clX5 (j := 0) (by decide) tw_165 (rmI hs ho0) (Or.inr ⟨_, rfl⟩) (rmP_0 hs ho0) ?_
  refine sp_iconst (v := 0) dX5_loadMoves_8 (by decide) ?_
  refine sp_bipush (v := 25) dX5_loadMoves_9 (by decide) ?_
  obtain ⟨k1, hk1, h⟩ := Option.bind_eq_some_iff.mp h
  obtain ⟨M2, hM2, h⟩ := sp_do_e h
  refine sp_copy2 dX5_loadMoves_11 tw_855 tw_837 tw_836 tw_116 hG (rwA hs ho1) (rmA_1 hs ho0) (sp_cix_1 hk1) (sp_cix_2 hk1) (sp_cix_3 hk1) (sp_cix_4 hk1) (sp_cix_5 hk1) (sp_cix_6 hk1) (by rw [(rwN hs ho1)]; exact sp_cix_7 hk1) (by rw [(rmN_1 hs ho0)]; exact sp_cix_8 hk1) (by decide) (Nat.le_of_ble_eq_true rfl) hM2 ?_
  refine sp_iinc (v := (a2 + 25)) [some (.ref o0), some (.ref o1), some (.int a2), some (.int (a2 + 25))] dX5_loadMoves_14 rfl rfl (by decide) rfl ?_
  refine sp_aload_n dX5_loadMoves_17 rfl rfl ?_
  refine sp_iload_n dX5_loadMoves_18 rfl rfl ?_
  refine sp_aload_n dX5_loadMoves_19 rfl rfl ?_
  refine sp_use (fun ho => ?_)
  have hs := hG.1 _ ho
  refine sp_getR (RX5, TX5, 16) dX5_loadMoves_20 clX5 (j := 1) (by decide) tw_169 (rmI hs ho0) (Or.inr ⟨_, rfl⟩) (rmP_1 hs ho0) ?_
  refine sp_iconst (v := 0) dX5_loadMoves_23 (by decide) ?_
  refine sp_bipush (v := 6) dX5_loadMoves_24 (by decide) ?_
  obtain ⟨k3, hk3, h⟩ := Option.bind_eq_some_iff.mp h
  obtain ⟨M4, hM4, h⟩ := sp_do_e h
  refine sp_copy2 dX5_loadMoves_26 tw_855 tw_837 tw_836 tw_116 hG (rwA hs ho1) (rmA_2 hs ho0) (sp_cix_1 hk3) (sp_cix_2 hk3) (sp_cix_3 hk3) (sp_cix_4 hk3) (sp_cix_5 hk3) (sp_cix_6 hk3) (by rw [(rwN hs ho1)]; exact sp_cix_7 hk3) (by rw [(rmN_2 hs ho0)]; exact sp_cix_8 hk3) (by decide) (Nat.le_of_ble_eq_true rfl) hM4 ?_
  refine sp_iinc (v := ((a2 + 25) + 6)) [some (.ref o0), some (.ref o1), some (.int a2), some (.int ((a2 + 25) + 6))] dX5_loadMoves_29 rfl rfl (by decide) rfl ?_
  refine sp_aload_n dX5_loadMoves_32 rfl rfl ?_
  refine sp_iload_n dX5_loadMoves_33 rfl rfl ?_
  refine sp_aload_n dX5_loadMoves_34 rfl rfl ?_
  refine sp_use (fun ho => ?_)
  have hs := hG.1 _ ho
  refine sp_getR (RX5, TX5, 16) dX5_loadMoves_35 clX5 (j := 2) (by decide) tw_175 (rmI hs ho0) (Or.inr ⟨_, rfl⟩) (rmP_2 hs ho0) ?_
  refine sp_iconst (v := 0) dX5_loadMoves_38 (by decide) ?_
  refine sp_bipush (v := 6) dX5_loadMoves_39 (by decide) ?_
  obtain ⟨k5, hk5, h⟩ := Option.bind_eq_some_iff.mp h
  obtain ⟨M6, hM6, h⟩ := sp_do_e h
  refine sp_copy2 dX5_loadMoves_41 tw_855 tw_837 tw_836 tw_116 hG (rwA hs ho1) (rmA_3 hs ho0) (sp_cix_1 hk5) (sp_cix_2 hk5) (sp_cix_3 hk5) (sp_cix_4 hk5) (sp_cix_5 hk5) (sp_cix_6 hk5) (by rw [(rwN hs ho1)]; exact sp_cix_7 hk5) (by rw [(rmN_3 hs ho0)]; exact sp_cix_8 hk5) (by decide) (Nat.le_of_ble_eq_true rfl) hM6 ?_
  refine sp_iinc (v := (((a2 + 25) + 6) + 6)) [some (.ref o0), some (.ref o1), some (.int a2), some (.int (((a2 + 25) + 6) + 6))] dX5_loadMoves_44 rfl rfl (by decide) rfl ?_
  refine sp_aload_n dX5_loadMoves_47 rfl rfl ?_
  refine sp_iload_n dX5_loadMoves_48 rfl rfl ?_
  refine sp_aload_n dX5_loadMoves_49 rfl rfl ?_
  refine sp_use (fun ho => ?_)
  have hs := hG.1 _ ho
  refine sp_getR (RX5, TX5, 16) dX5_loadMoves_50 clX5 (j := 5) (by decide) tw_188 (rmI hs ho0) (Or.inr ⟨_, rfl⟩) (rmP_5 hs ho0) ?_
  refine sp_iconst (v := 0) dX5_loadMoves_53 (by decide) ?_
  refine sp_iconst (v := 5) dX5_loadMoves_54 (by decide) ?_
  obtain ⟨k7, hk7, h⟩ := Option.bind_eq_some_iff.mp h
  obtain ⟨M8, hM8, h⟩ := sp_do_e h
  refine sp_copy2 dX5_loadMoves_55 tw_855 tw_837 tw_836 tw_116 hG (rwA hs ho1) (rmA_5 hs ho0) (sp_cix_1 hk7) (sp_cix_2 hk7) (sp_cix_3 hk7) (sp_cix_4 hk7) (sp_cix_5 hk7) (sp_cix_6 hk7) (by rw [(rwN hs ho1)]; exact sp_cix_7 hk7) (by rw [(rmN_5 hs ho0)]; exact sp_cix_8 hk7) (by decide) (Nat.le_of_ble_eq_true rfl) hM8 ?_
  refine sp_iinc (v := ((((a2 + 25) + 6) + 6) + 5)) [some (.ref o0), some (.ref o1), some (.int a2), some (.int ((((a2 + 25) + 6) + 6) + 5))] dX5_loadMoves_58 rfl rfl (by decide) rfl ?_
  refine sp_aload_n dX5_loadMoves_61 rfl rfl ?_
  refine sp_use (fun ho => ?_)
  have hs := hG.1 _ ho
  refine sp_getR (RX5, TX5, 16) dX5_loadMoves_62 clX5 (j := 12) (by decide) tw_210 (rmI hs ho0) (Or.inr ⟨_, rfl⟩) (rmP_12 hs ho0) ?_
  refine sp_iconst (v := 0) dX5_loadMoves_65 (by decide) ?_
  refine sp_aload_n dX5_loadMoves_66 rfl rfl ?_
  refine sp_iload_n dX5_loadMoves_67 rfl rfl ?_
  obtain ⟨j9, hj9, h⟩ := Option.bind_eq_some_iff.mp h
  refine sp_iald2 (j := j9) dX5_loadMoves_68 (rwA hs ho1) (rwN hs ho1) hj9 ?_
  obtain ⟨M10, hM10, h⟩ := sp_do_e h
  refine sp_iast2 (j := 0) hG dX5_loadMoves_69 (rmA_10 hs ho0) (rmN_10 hs ho0) rfl hM10 ?_
  cases h
  exact sp_vret dX5_loadMoves_70 rfl (fun _ => hQ)
def fX3_takeBack (M : sp_Mem) (o0 : Nat) (o1 : Nat) : Option (Int32 × sp_Mem) :=
  if (sp_I M o0 3) = 0 then (some ((-3), M)) else (sp_do (sp_setI M o0 3 ((sp_I M o0 3) - 1)) fun M2 => (fX3_freeRow M2 o0).bind fun v3 => (fX5_loadMoves M2 o1 (o0 + 1) (v3 * 43)).bind fun M4 => (sp_ix 17 v3).bind fun j5 => some ((sp_I M4 (o0 + 2) j5), M4))
set_option maxRecDepth 100000 in
set_option maxHeartbeats 4000000 in
theorem tX3_takeBack {g : sp_G} {Ω : sp_Mem → Prop} {Q : sp_Qt} {p : (Int32 × sp_Mem)} (hG : sp_Ok Ω) {o0 : Nat} (ho0 : sp_past o0) {o1 : Nat} (ho1 : sp_room o1) {M : sp_Mem} (h : fX3_takeBack M o0 o1 = some p) (hQ : Q (some (.int p.1)) p.2) : sp_Mt g Ω mX3_takeBack 0 0 [.ref o0, .ref o1] M Q := by
  unfold fX3_takeBack at h
  refine sp_Mt.of [some (.ref o0), some (.ref o1), none] (by decide) (by simp [sp_ent, Value.category]) rfl ?_
  refine sp_aload_n dX3_takeBack_0 rfl rfl ?_
  refine sp_use (fun ho => ?_)
  have hs := hG.1 _ ho
  refine sp_getI (RX3, TX3, 4) dX3_takeBack_1 clX3 (j := 3) (by decide) tw_263 (paI hs ho0) (Or.inl rfl) ?_
  refine sp_if_ne (tgt := 10) dX3_takeBack_4 (by decide) (fun hc1 => ?_) (fun hc1 => ?_)
  · have h := (if_neg hc1).symm.trans h
    refine sp_aload_n dX3_takeBack_10 rfl rfl ?_
    refine sp_dup dX3_takeBack_11 rfl ?_
    refine sp_getI (RX3, TX3, 4) dX3_takeBack_12 clX3 (j := 3) (by decide) tw_263 (paI hs ho0) (Or.inl rfl) ?_
    refine sp_iconst (v := 1) dX3_takeBack_15 (by decide) ?_
    refine sp_isub dX3_takeBack_16 ?_
    obtain ⟨M2, hM2, h⟩ := sp_do_e h
    refine sp_putI2 (RX3, TX3, 4) hG dX3_takeBack_17 clX3 (j := 3) (by decide) tw_263 rfl (Or.inl rfl) (paI hs ho0) hM2 ?_
    refine sp_aload_n dX3_takeBack_20 rfl rfl ?_
    refine sp_use (fun ho => ?_)
    have hs := hG.1 _ ho
    obtain ⟨v3, hv3, h⟩ := Option.bind_eq_some_iff.mp h
    refine sp_cV (M1 := M2) (r := some (.int v3)) (o := o0) (st := []) (c := 3) (RX3, TX3, 4) [] [.ref o0] [.int v3] dX3_takeBack_21 okX3_freeRow tw_896 tw_898 tw_21 (by decide) (by decide) rfl (Nat.le_of_ble_eq_true rfl) rfl rfl rfl rfl (paI hs ho0) (fun Q hQ => tX3_freeRow hG ho0 hv3 hQ) ?_
    refine sp_istore_n [some (.ref o0), some (.ref o1), some (.int v3)] dX3_takeBack_24 rfl (by decide) rfl ?_
    refine sp_aload_n dX3_takeBack_25 rfl rfl ?_
    refine sp_aload_n dX3_takeBack_26 rfl rfl ?_
    refine sp_getR (RX3, TX3, 4) dX3_takeBack_27 clX3 (j := 0) (by decide) tw_260 (paI hs ho0) (Or.inr ⟨_, rfl⟩) (paP_0 hs ho0) ?_
    refine sp_iload_n dX3_takeBack_30 rfl rfl ?_
    refine sp_bipush (v := 43) dX3_takeBack_31 (by decide) ?_
    refine sp_imul dX3_takeBack_33 ?_
    obtain ⟨M4, hM4, h⟩ := Option.bind_eq_some_iff.mp h
    refine sp_cV (M1 := M4) (r := none) (o := o1) (st := []) (c := 4) (RX5, TX5, 16) [.ref (o0 + 1), .int (v3 * 43)] [.int (v3 * 43), .ref (o0 + 1), .ref o1] [] dX3_takeBack_34 okX5_loadMoves tw_982 tw_983 tw_984 (by decide) (by decide) rfl (Nat.le_of_ble_eq_true rfl) rfl rfl rfl rfl (rmI hs ho1) (fun Q hQ => tX5_loadMoves hG ho1 (pa_rows ho0) hM4 hQ) ?_
    refine sp_aload_n dX3_takeBack_37 rfl rfl ?_
    refine sp_use (fun ho => ?_)
    have hs := hG.1 _ ho
    refine sp_getR (RX3, TX3, 4) dX3_takeBack_38 clX3 (j := 1) (by decide) tw_261 (paI hs ho0) (Or.inr ⟨_, rfl⟩) (paP_1 hs ho0) ?_
    refine sp_iload_n dX3_takeBack_41 rfl rfl ?_
    obtain ⟨j5, hj5, h⟩ := Option.bind_eq_some_iff.mp h
    refine sp_iald2 (j := j5) dX3_takeBack_42 (paA_2 hs ho0) (paN_2 hs ho0) hj5 ?_
    cases h
    exact sp_iret dX3_takeBack_43 (ty := .int) rfl rfl (fun _ => hQ)
  · have h := (if_pos hc1).symm.trans h
    refine sp_bipush (v := (-3)) dX3_takeBack_7 (by decide) ?_
    cases h
    exact sp_iret dX3_takeBack_9 (ty := .int) rfl rfl (fun _ => hQ)
def fX3_copyFrom (M : sp_Mem) (o0 : Nat) (o1 : Nat) : Option sp_Mem :=
  sp_do (sp_cpy M (o1 + 1) (o0 + 1) 0 0 731) fun M1 => sp_do (sp_cpy M1 (o1 + 2) (o0 + 2) 0 0 17) fun M2 => sp_do (sp_setI M2 o0 2 (sp_I M2 o1 2)) fun M3 => sp_do (sp_setI M3 o0 3 (sp_I M3 o1 3)) fun M4 => some M4
set_option maxRecDepth 100000 in
set_option maxHeartbeats 4000000 in
theorem tX3_copyFrom {g : sp_G} {Ω : sp_Mem → Prop} {Q : sp_Qt} {p : sp_Mem} (hG : sp_Ok Ω) {o0 : Nat} (ho0 : sp_past o0) {o1 : Nat} (ho1 : sp_past o1) {M : sp_Mem} (h : fX3_copyFrom M o0 o1 = some p) (hQ : Q none p) : sp_Mt g Ω mX3_copyFrom 0 0 [.ref o0, .ref o1] M Q := by
  unfold fX3_copyFrom at h
  refine sp_Mt.of [some (.ref o0), some (.ref o1)] (by decide) (by simp [sp_ent, Value.category]) rfl ?_
  refine sp_aload_n dX3_copyFrom_0 rfl rfl ?_
  refine sp_use (fun ho => ?_)
  have hs := hG.1 _ ho
  refine sp_getR (RX3, TX3, 4) dX3_copyFrom_1 clX3 (j := 0) (by decide) tw_260 (paI hs ho1) (Or.inr ⟨_, rfl⟩) (paP_0 hs ho1) ?_
  refine sp_iconst (v := 0) dX3_copyFrom_4 (by decide) ?_
  refine sp_aload_n dX3_copyFrom_5 rfl rfl ?_
  refine sp_getR (RX3, TX3, 4) dX3_copyFrom_6 clX3 (j := 0) (by decide) tw_260 (paI hs ho0) (Or.inr ⟨_, rfl⟩) (paP_0 hs ho0) ?_
  refine sp_iconst (v := 0) dX3_copyFrom_9 (by decide) ?_
  refine sp_aload_n dX3_copyFrom_10 rfl rfl ?_
  refine sp_getR (RX3, TX3, 4) dX3_copyFrom_11 clX3 (j := 0) (by decide) tw_260 (paI hs ho0) (Or.inr ⟨_, rfl⟩) (paP_0 hs ho0) ?_
  refine sp_alen (v := 731) 0 (by decide) dX3_copyFrom_14 (paA_1 hs ho0) (by rw [(paN_1 hs ho0)]; decide) ?_
  obtain ⟨M1, hM1, h⟩ := sp_do_e h
  refine sp_copy2 dX3_copyFrom_15 tw_860 tw_837 tw_836 tw_116 hG (paA_1 hs ho1) (paA_1 hs ho0) (by decide) (by decide) (by decide) (show (0 : Int32).toNatClampNeg = 0 by decide) (show (0 : Int32).toNatClampNeg = 0 by decide) (show (731 : Int32).toNatClampNeg = 731 by decide) (by rw [(paN_1 hs ho1)]; decide) (by rw [(paN_1 hs ho0)]; decide) (by decide) (Nat.le_of_ble_eq_true rfl) hM1 ?_
  refine sp_aload_n dX3_copyFrom_18 rfl rfl ?_
  refine sp_use (fun ho => ?_)
  have hs := hG.1 _ ho
  refine sp_getR (RX3, TX3, 4) dX3_copyFrom_19 clX3 (j := 1) (by decide) tw_261 (paI hs ho1) (Or.inr ⟨_, rfl⟩) (paP_1 hs ho1) ?_
  refine sp_iconst (v := 0) dX3_copyFrom_22 (by decide) ?_
  refine sp_aload_n dX3_copyFrom_23 rfl rfl ?_
  refine sp_getR (RX3, TX3, 4) dX3_copyFrom_24 clX3 (j := 1) (by decide) tw_261 (paI hs ho0) (Or.inr ⟨_, rfl⟩) (paP_1 hs ho0) ?_
  refine sp_iconst (v := 0) dX3_copyFrom_27 (by decide) ?_
  refine sp_bipush (v := 17) dX3_copyFrom_28 (by decide) ?_
  obtain ⟨M2, hM2, h⟩ := sp_do_e h
  refine sp_copy2 dX3_copyFrom_30 tw_860 tw_837 tw_836 tw_116 hG (paA_2 hs ho1) (paA_2 hs ho0) (by decide) (by decide) (by decide) (show (0 : Int32).toNatClampNeg = 0 by decide) (show (0 : Int32).toNatClampNeg = 0 by decide) (show (17 : Int32).toNatClampNeg = 17 by decide) (by rw [(paN_2 hs ho1)]; decide) (by rw [(paN_2 hs ho0)]; decide) (by decide) (Nat.le_of_ble_eq_true rfl) hM2 ?_
  refine sp_aload_n dX3_copyFrom_33 rfl rfl ?_
  refine sp_aload_n dX3_copyFrom_34 rfl rfl ?_
  refine sp_use (fun ho => ?_)
  have hs := hG.1 _ ho
  refine sp_getI (RX3, TX3, 4) dX3_copyFrom_35 clX3 (j := 2) (by decide) tw_262 (paI hs ho1) (Or.inl rfl) ?_
  obtain ⟨M3, hM3, h⟩ := sp_do_e h
  refine sp_putI2 (RX3, TX3, 4) hG dX3_copyFrom_38 clX3 (j := 2) (by decide) tw_262 rfl (Or.inl rfl) (paI hs ho0) hM3 ?_
  refine sp_aload_n dX3_copyFrom_41 rfl rfl ?_
  refine sp_aload_n dX3_copyFrom_42 rfl rfl ?_
  refine sp_use (fun ho => ?_)
  have hs := hG.1 _ ho
  refine sp_getI (RX3, TX3, 4) dX3_copyFrom_43 clX3 (j := 3) (by decide) tw_263 (paI hs ho1) (Or.inl rfl) ?_
  obtain ⟨M4, hM4, h⟩ := sp_do_e h
  refine sp_putI2 (RX3, TX3, 4) hG dX3_copyFrom_46 clX3 (j := 3) (by decide) tw_263 rfl (Or.inl rfl) (paI hs ho0) hM4 ?_
  cases h
  exact sp_vret dX3_copyFrom_49 rfl (fun _ => hQ)
def fX4_possibleSparks_j44 (F : Nat) (M0 : sp_Mem) (o0 : Nat) (kb : Int32 → Int32 → Option Int32) (kx : Int32 → Option Int32) (a1 : Int32) (a2 : Int32) (s0 : Int32) : Option Int32 :=
  (sp_ix 6 a2).bind fun j6 => if (sp_I M0 (o0 + 9) j6) = 1 then (kb (a1 &&& s0) (a2 + 1)) else (sp_do ((a1 &&& (s0 ^^^ (-1)))) fun u8 => kb u8 (a2 + 1))
def fX4_possibleSparks_l11 (F : Nat) (M0 : sp_Mem) (o0 : Nat) (kx : Int32 → Option Int32) : Nat → Int32 → Int32 → Option Int32
  | 0, _, _ => none
  | n + 1, a1, a2 =>
  if (sp_I M0 o0 11) ≤ a2 then (kx a1) else ((sp_ix 6 a2).bind fun j3 => sp_do ((sp_I M0 (o0 + 8) j3)) fun u4 => if (fX5_hasPerson M0 o0 u4) = 0 then (fX4_possibleSparks_j44 F M0 o0 (fX4_possibleSparks_l11 F M0 o0 kx n) kx a1 a2 0) else ((sp_ix 5 u4).bind fun j9 => fX4_possibleSparks_j44 F M0 o0 (fX4_possibleSparks_l11 F M0 o0 kx n) kx a1 a2 (sp_I M0 (o0 + 7) j9)))
def fX4_possibleSparks (F : Nat) (M0 : sp_Mem) (o0 : Nat) : Option Int32 :=
  sp_do (((1 <<< ((sp_I M0 o0 4) &&& 31)) - 1)) fun u1 => fX4_possibleSparks_l11 F M0 o0 (fun b11 => some b11) F u1 0
set_option maxRecDepth 100000 in
set_option maxHeartbeats 4000000 in
theorem tX4_possibleSparks_j44 {g : sp_G} {Ω : sp_Mem → Prop} {Q : sp_Qt} {F : Nat} {M0 : sp_Mem} {p : Int32} (hG : sp_Ok Ω) {o0 : Nat} (ho0 : sp_room o0)  {kb : Int32 → Int32 → Option Int32} {kx : Int32 → Option Int32} (hQ : Q (some (.int p)) M0) (hb : ∀ (a1 : Int32) (a2 : Int32), kb a1 a2 = some p → sp_Wp g Ω mX4_possibleSparks 0 0 11 [some (.ref o0), some (.int a1), some (.int a2), none, none] [] M0 Q) (hx : ∀ (a1 : Int32), kx a1 = some p → sp_Wp g Ω mX4_possibleSparks 0 0 74 [none, some (.int a1), none, none, none] [] M0 Q) (a1 : Int32) (a2 : Int32) (s0 : Int32) (h : fX4_possibleSparks_j44 F M0 o0 kb kx a1 a2 s0 = some p) : sp_Wp g Ω mX4_possibleSparks 0 0 44 [some (.ref o0), some (.int a1), some (.int a2), none, none] [.int s0] M0 Q := by
  unfold fX4_possibleSparks_j44 at h
  refine sp_istore [some (.ref o0), some (.int a1), some (.int a2), none, some (.int s0)] dX4_possibleSparks_44 (by decide) rfl ?_
  refine sp_iload_n dX4_possibleSparks_46 rfl rfl ?_
  refine sp_aload_n dX4_possibleSparks_47 rfl rfl ?_
  refine sp_use (fun ho => ?_)
  have hs := hG.1 _ ho
  refine sp_getR (RX5, TX5, 16) dX4_possibleSparks_48 clX5 (j := 10) (by decide) tw_206 (rmI hs ho0) (Or.inr ⟨_, rfl⟩) (rmP_10 hs ho0) ?_
  refine sp_iload_n dX4_possibleSparks_51 rfl rfl ?_
  obtain ⟨j6, hj6, h⟩ := Option.bind_eq_some_iff.mp h
  refine sp_iald2 (j := j6) dX4_possibleSparks_52 (rmA_9 hs ho0) (rmN_9 hs ho0) hj6 ?_
  refine sp_iconst (v := 1) dX4_possibleSparks_53 (by decide) ?_
  refine sp_icmp_ne (tgt := 62) dX4_possibleSparks_54 (by decide) (fun hc7 => ?_) (fun hc7 => ?_)
  · have h := (if_neg hc7).symm.trans h
    refine sp_iload dX4_possibleSparks_62 rfl ?_
    refine sp_iconst (v := (-1)) dX4_possibleSparks_64 (by decide) ?_
    refine sp_ixor dX4_possibleSparks_65 ?_
    refine sp_iand dX4_possibleSparks_66 ?_
    obtain ⟨u8, hu8, h⟩ := sp_do_e h
    refine sp_topi hu8 ?_
    refine sp_istore_n [some (.ref o0), some (.int u8), some (.int a2), none, some (.int s0)] dX4_possibleSparks_67 rfl (by decide) rfl ?_
    refine sp_iinc (v := (a2 + 1)) [some (.ref o0), some (.int u8), some (.int (a2 + 1)), none, some (.int s0)] dX4_possibleSparks_68 rfl rfl (by decide) rfl ?_
    refine sp_goto (tgt := 11) dX4_possibleSparks_71 (by decide) ?_
    refine sp_weak [true, true, true, false, false] [some (.ref o0), some (.int u8), some (.int (a2 + 1)), none, none] rfl ?_
    exact hb _ _ h
  · have h := (if_pos hc7).symm.trans h
    refine sp_iload dX4_possibleSparks_57 rfl ?_
    refine sp_goto (tgt := 66) dX4_possibleSparks_59 (by decide) ?_
    refine sp_iand dX4_possibleSparks_66 ?_
    refine sp_istore_n [some (.ref o0), some (.int (a1 &&& s0)), some (.int a2), none, some (.int s0)] dX4_possibleSparks_67 rfl (by decide) rfl ?_
    refine sp_iinc (v := (a2 + 1)) [some (.ref o0), some (.int (a1 &&& s0)), some (.int (a2 + 1)), none, some (.int s0)] dX4_possibleSparks_68 rfl rfl (by decide) rfl ?_
    refine sp_goto (tgt := 11) dX4_possibleSparks_71 (by decide) ?_
    refine sp_weak [true, true, true, false, false] [some (.ref o0), some (.int (a1 &&& s0)), some (.int (a2 + 1)), none, none] rfl ?_
    exact hb _ _ h
set_option maxRecDepth 100000 in
set_option maxHeartbeats 4000000 in
theorem tX4_possibleSparks_l11 {g : sp_G} {Ω : sp_Mem → Prop} {Q : sp_Qt} {F : Nat} {M0 : sp_Mem} {p : Int32} (hG : sp_Ok Ω) {o0 : Nat} (ho0 : sp_room o0)  {kx : Int32 → Option Int32} (hQ : Q (some (.int p)) M0) (hx : ∀ (a1 : Int32), kx a1 = some p → sp_Wp g Ω mX4_possibleSparks 0 0 74 [none, some (.int a1), none, none, none] [] M0 Q) : ∀ (n : Nat) (a1 : Int32) (a2 : Int32), fX4_possibleSparks_l11 F M0 o0 kx n a1 a2 = some p → sp_Wp g Ω mX4_possibleSparks 0 0 11 [some (.ref o0), some (.int a1), some (.int a2), none, none] [] M0 Q := by
  intro n
  induction n with
  | zero =>
    intro a1 a2 h
    rw [fX4_possibleSparks_l11] at h
    cases h
  | succ n ih =>
    intro a1 a2 h
    rw [fX4_possibleSparks_l11] at h
    refine sp_iload_n dX4_possibleSparks_11 rfl rfl ?_
    refine sp_aload_n dX4_possibleSparks_12 rfl rfl ?_
    refine sp_use (fun ho => ?_)
    have hs := hG.1 _ ho
    refine sp_getI (RX5, TX5, 16) dX4_possibleSparks_13 clX5 (j := 11) (by decide) tw_207 (rmI hs ho0) (Or.inl rfl) ?_
    refine sp_icmp_ge (tgt := 74) dX4_possibleSparks_16 (by decide) (fun hc2 => ?_) (fun hc2 => ?_)
    · have h := (if_pos hc2).symm.trans h
      refine sp_weak [false, true, false, false, false] [none, some (.int a1), none, none, none] rfl ?_
      exact hx _ h
    · have h := (if_neg hc2).symm.trans h
      refine sp_aload_n dX4_possibleSparks_19 rfl rfl ?_
      refine sp_getR (RX5, TX5, 16) dX4_possibleSparks_20 clX5 (j := 9) (by decide) tw_204 (rmI hs ho0) (Or.inr ⟨_, rfl⟩) (rmP_9 hs ho0) ?_
      refine sp_iload_n dX4_possibleSparks_23 rfl rfl ?_
      obtain ⟨j3, hj3, h⟩ := Option.bind_eq_some_iff.mp h
      refine sp_iald2 (j := j3) dX4_possibleSparks_24 (rmA_8 hs ho0) (rmN_8 hs ho0) hj3 ?_
      obtain ⟨u4, hu4, h⟩ := sp_do_e h
      refine sp_topi hu4 ?_
      refine sp_istore_n [some (.ref o0), some (.int a1), some (.int a2), some (.int u4), none] dX4_possibleSparks_25 rfl (by decide) rfl ?_
      refine sp_aload_n dX4_possibleSparks_26 rfl rfl ?_
      refine sp_iload_n dX4_possibleSparks_27 rfl rfl ?_
      refine sp_cV (M1 := M0) (r := some (.int (fX5_hasPerson M0 o0 u4))) (o := o0) (st := []) (c := 4) (RX5, TX5, 16) [.int u4] [.int u4, .ref o0] [.int (fX5_hasPerson M0 o0 u4)] dX4_possibleSparks_28 okX5_hasPerson tw_1044 tw_571 tw_572 (by decide) (by decide) rfl (Nat.le_of_ble_eq_true rfl) rfl rfl rfl rfl (rmI hs ho0) (fun Q hQ => tX5_hasPerson hG ho0 rfl hQ) ?_
      refine sp_if_eq (tgt := 43) dX4_possibleSparks_31 (by decide) (fun hc5 => ?_) (fun hc5 => ?_)
      · have h := (if_pos hc5).symm.trans h
        refine sp_iconst (v := 0) dX4_possibleSparks_43 (by decide) ?_
        refine sp_weak [true, true, true, false, false] [some (.ref o0), some (.int a1), some (.int a2), none, none] rfl ?_
        exact tX4_possibleSparks_j44 hG ho0 hQ ih hx _ _ _ h
      · have h := (if_neg hc5).symm.trans h
        refine sp_aload_n dX4_possibleSparks_34 rfl rfl ?_
        refine sp_getR (RX5, TX5, 16) dX4_possibleSparks_35 clX5 (j := 7) (by decide) tw_196 (rmI hs ho0) (Or.inr ⟨_, rfl⟩) (rmP_7 hs ho0) ?_
        refine sp_iload_n dX4_possibleSparks_38 rfl rfl ?_
        obtain ⟨j9, hj9, h⟩ := Option.bind_eq_some_iff.mp h
        refine sp_iald2 (j := j9) dX4_possibleSparks_39 (rmA_7 hs ho0) (rmN_7 hs ho0) hj9 ?_
        refine sp_goto (tgt := 44) dX4_possibleSparks_40 (by decide) ?_
        refine sp_weak [true, true, true, false, false] [some (.ref o0), some (.int a1), some (.int a2), none, none] rfl ?_
        exact tX4_possibleSparks_j44 hG ho0 hQ ih hx _ _ _ h
set_option maxRecDepth 100000 in
set_option maxHeartbeats 4000000 in
theorem tX4_possibleSparks {g : sp_G} {Ω : sp_Mem → Prop} {Q : sp_Qt} {F : Nat} {M0 : sp_Mem} {p : Int32} (hG : sp_Ok Ω) {o0 : Nat} (ho0 : sp_room o0) (h : fX4_possibleSparks F M0 o0 = some p) (hQ : Q (some (.int p)) M0) : sp_Mt g Ω mX4_possibleSparks 0 0 [.ref o0] M0 Q := by
  unfold fX4_possibleSparks at h
  refine sp_Mt.of [some (.ref o0), none, none, none, none] (by decide) (by simp [sp_ent, Value.category]) rfl ?_
  refine sp_iconst (v := 1) dX4_possibleSparks_0 (by decide) ?_
  refine sp_aload_n dX4_possibleSparks_1 rfl rfl ?_
  refine sp_use (fun ho => ?_)
  have hs := hG.1 _ ho
  refine sp_getI (RX5, TX5, 16) dX4_possibleSparks_2 clX5 (j := 4) (by decide) tw_183 (rmI hs ho0) (Or.inl rfl) ?_
  refine sp_ishl dX4_possibleSparks_5 ?_
  refine sp_iconst (v := 1) dX4_possibleSparks_6 (by decide) ?_
  refine sp_isub dX4_possibleSparks_7 ?_
  obtain ⟨u1, hu1, h⟩ := sp_do_e h
  refine sp_topi hu1 ?_
  refine sp_istore_n [some (.ref o0), some (.int u1), none, none, none] dX4_possibleSparks_8 rfl (by decide) rfl ?_
  refine sp_iconst (v := 0) dX4_possibleSparks_9 (by decide) ?_
  refine sp_istore_n [some (.ref o0), some (.int u1), some (.int 0), none, none] dX4_possibleSparks_10 rfl (by decide) rfl ?_
  refine sp_weak [true, true, true, false, false] [some (.ref o0), some (.int u1), some (.int 0), none, none] rfl ?_
  refine tX4_possibleSparks_l11 hG ho0 hQ (fun b11 h => ?_) F _ _ h
  refine sp_iload_n dX4_possibleSparks_74 rfl rfl ?_
  cases h
  exact sp_iret dX4_possibleSparks_75 (ty := .int) rfl rfl (fun _ => hQ)
