def fX10_ash (M0 : sp_Mem) : Int32 :=
  (sp_I M0 0 13)
set_option maxRecDepth 100000 in
set_option maxHeartbeats 4000000 in
theorem tX10_ash {g : sp_G} {Ω : sp_Mem → Prop} {Q : sp_Qt} {M0 : sp_Mem} {p : Int32} (hG : sp_Ok Ω) (h : fX10_ash M0 = p) (hQ : Q (some (.int p)) M0) : sp_Mt g Ω mX10_ash 0 0 [.ref 0] M0 Q := by
  unfold fX10_ash at h
  refine sp_Mt.of [some (.ref 0)] (by decide) (by simp [sp_ent, Value.category]) rfl ?_
  refine sp_aload_n dX10_ash_0 rfl rfl ?_
  refine sp_use (fun ho => ?_)
  have hs := hG.1 _ ho
  refine sp_getI (RX10, TX10, 16) dX10_ash_1 clX10 (j := 13) (by decide) tw_428 (wsI_0 hs) (Or.inl rfl) ?_
  cases h
  exact sp_iret dX10_ash_4 (ty := .int) rfl rfl (fun _ => hQ)
def fX10_orders_l60 (F : Nat) (kx : sp_Mem → Option (Int32 × sp_Mem)) : Nat → Int32 → sp_Mem → Option (Int32 × sp_Mem)
  | 0, _, _ => none
  | n + 1, a1, M =>
  if (sp_I M 97 2) ≤ a1 then (kx M) else ((fX7_runClause F M 22 97 a1).bind fun x9 => if x9.1 = 0 then (sp_do (sp_setI x9.2 0 15 a1) fun M11 => (fX10_refuse M11 (-3)).bind fun x12 => some (x12.1, x12.2)) else ((fX10_orders_l60 F kx n) (a1 + 1) x9.2))
def fX10_orders (F : Nat) (M : sp_Mem) : Option (Int32 × sp_Mem) :=
  sp_do (sp_setI M 0 15 (-1)) fun M1 => (fX2_read F M1 1).bind fun x2 => sp_do (sp_setI x2.2 0 14 x2.1) fun M3 => sp_do (sp_setI M3 94 1 0) fun M4 => if (sp_I M4 0 14) = (-1) then ((fX7_copyFrom F M4 22 5).bind fun M6 => (fX7_startOrders M6 22).bind fun M7 => fX10_orders_l60 F (fun M13 => (fX7_copyFrom F M13 5 22).bind fun M14 => (fX10_grant M14 (sp_I M14 22 5)).bind fun x15 => some (x15.1, x15.2)) F 0 M7) else ((fX10_refuse M4 (-6)).bind fun x16 => some (x16.1, x16.2))
set_option maxRecDepth 100000 in
set_option maxHeartbeats 4000000 in
theorem tX10_orders_l60 {g : sp_G} {Ω : sp_Mem → Prop} {Q : sp_Qt} {F : Nat} {p : (Int32 × sp_Mem)} (hG : sp_Ok Ω)  {kx : sp_Mem → Option (Int32 × sp_Mem)} (hQ : Q (some (.int p.1)) p.2) (hx : ∀  (M : sp_Mem), kx M = some p → sp_Wp g Ω mX10_orders 0 0 110 [some (.ref 0), none] [] M Q) : ∀ (n : Nat) (a1 : Int32) (M : sp_Mem), fX10_orders_l60 F kx n a1 M = some p → sp_Wp g Ω mX10_orders 0 0 60 [some (.ref 0), some (.int a1)] [] M Q := by
  intro n
  induction n with
  | zero =>
    intro a1 M h
    rw [fX10_orders_l60] at h
    cases h
  | succ n ih =>
    intro a1 M h
    rw [fX10_orders_l60] at h
    refine sp_iload_n dX10_orders_60 rfl rfl ?_
    refine sp_aload_n dX10_orders_61 rfl rfl ?_
    refine sp_use (fun ho => ?_)
    have hs := hG.1 _ ho
    refine sp_getR (RX10, TX10, 16) dX10_orders_62 clX10 (j := 9) (by decide) tw_424 (wsI_0 hs) (Or.inl ⟨_, rfl⟩) (wsP_0_9 hs) ?_
    refine sp_getR (RX2, TX2, 9) dX10_orders_65 clX2 (j := 1) (by decide) tw_388 (wsI_96 hs) (Or.inl ⟨_, rfl⟩) (wsP_96_1 hs) ?_
    refine sp_getI (RX9, TX9, 4) dX10_orders_68 clX9 (j := 2) (by decide) tw_373 (wsI_97 hs) (Or.inl rfl) ?_
    refine sp_icmp_ge (tgt := 110) dX10_orders_71 (by decide) (fun hc8 => ?_) (fun hc8 => ?_)
    · have h := (if_pos hc8).symm.trans h
      refine sp_weak [true, false] [some (.ref 0), none] rfl ?_
      exact hx _ h
    · have h := (if_neg hc8).symm.trans h
      refine sp_aload_n dX10_orders_74 rfl rfl ?_
      refine sp_getR (RX10, TX10, 16) dX10_orders_75 clX10 (j := 2) (by decide) tw_417 (wsI_0 hs) (Or.inl ⟨_, rfl⟩) (wsP_0_2 hs) ?_
      refine sp_aload_n dX10_orders_78 rfl rfl ?_
      refine sp_getR (RX10, TX10, 16) dX10_orders_79 clX10 (j := 9) (by decide) tw_424 (wsI_0 hs) (Or.inl ⟨_, rfl⟩) (wsP_0_9 hs) ?_
      refine sp_getR (RX2, TX2, 9) dX10_orders_82 clX2 (j := 1) (by decide) tw_388 (wsI_96 hs) (Or.inl ⟨_, rfl⟩) (wsP_96_1 hs) ?_
      refine sp_iload_n dX10_orders_85 rfl rfl ?_
      obtain ⟨x9, hx9, h⟩ := Option.bind_eq_some_iff.mp h
      refine sp_cV (M1 := x9.2) (r := some (.int x9.1)) (o := 22) (st := []) (c := 6) (RX7, TX7, 6) [.ref 97, .int a1] [.int a1, .ref 97, .ref 22] [.int x9.1] dX10_orders_86 okX7_runClause tw_865 tw_866 tw_867 (by decide) (by decide) rfl (Nat.le_of_ble_eq_true rfl) rfl rfl rfl rfl (wsI_22 hs) (fun Q hQ => tX7_runClause hG stage_22 (fun M ho => text_97 (hG.1 M ho)) hx9 hQ) ?_
      refine sp_if_ne (tgt := 104) dX10_orders_89 (by decide) (fun hc10 => ?_) (fun hc10 => ?_)
      · have h := (if_neg hc10).symm.trans h
        refine sp_iinc (v := (a1 + 1)) [some (.ref 0), some (.int (a1 + 1))] dX10_orders_104 rfl rfl (by decide) rfl ?_
        refine sp_goto (tgt := 60) dX10_orders_107 (by decide) ?_
        refine sp_weak [true, true] [some (.ref 0), some (.int (a1 + 1))] rfl ?_
        exact ih _ _ h
      · have h := (if_pos hc10).symm.trans h
        refine sp_aload_n dX10_orders_92 rfl rfl ?_
        refine sp_iload_n dX10_orders_93 rfl rfl ?_
        refine sp_use (fun ho => ?_)
        have hs := hG.1 _ ho
        obtain ⟨M11, hM11, h⟩ := sp_do_e h
        refine sp_putI2 (RX10, TX10, 16) hG dX10_orders_94 clX10 (j := 15) (by decide) tw_430 rfl (Or.inl rfl) (wsI_0 hs) hM11 ?_
        refine sp_aload_n dX10_orders_97 rfl rfl ?_
        refine sp_bipush (v := (-3)) dX10_orders_98 (by decide) ?_
        refine sp_use (fun ho => ?_)
        have hs := hG.1 _ ho
        obtain ⟨x12, hx12, h⟩ := Option.bind_eq_some_iff.mp h
        refine sp_cV (M1 := x12.2) (r := some (.int x12.1)) (o := 0) (st := []) (c := 9) (RX10, TX10, 16) [.int (-3)] [.int (-3), .ref 0] [.int x12.1] dX10_orders_100 okX10_refuse tw_474 tw_476 tw_0 (by decide) (by decide) rfl (Nat.le_of_ble_eq_true rfl) rfl rfl rfl rfl (wsI_0 hs) (fun Q hQ => tX10_refuse hG hx12 hQ) ?_
        cases h
        exact sp_iret dX10_orders_103 (ty := .int) rfl rfl (fun _ => hQ)
set_option maxRecDepth 100000 in
set_option maxHeartbeats 4000000 in
theorem tX10_orders {g : sp_G} {Ω : sp_Mem → Prop} {Q : sp_Qt} {F : Nat} {p : (Int32 × sp_Mem)} (hG : sp_Ok Ω) {M : sp_Mem} (h : fX10_orders F M = some p) (hQ : Q (some (.int p.1)) p.2) : sp_Mt g Ω mX10_orders 0 0 [.ref 0] M Q := by
  unfold fX10_orders at h
  refine sp_Mt.of [some (.ref 0), none] (by decide) (by simp [sp_ent, Value.category]) rfl ?_
  refine sp_aload_n dX10_orders_0 rfl rfl ?_
  refine sp_iconst (v := (-1)) dX10_orders_1 (by decide) ?_
  refine sp_use (fun ho => ?_)
  have hs := hG.1 _ ho
  obtain ⟨M1, hM1, h⟩ := sp_do_e h
  refine sp_putI2 (RX10, TX10, 16) hG dX10_orders_2 clX10 (j := 15) (by decide) tw_430 rfl (Or.inl rfl) (wsI_0 hs) hM1 ?_
  refine sp_aload_n dX10_orders_5 rfl rfl ?_
  refine sp_aload_n dX10_orders_6 rfl rfl ?_
  refine sp_use (fun ho => ?_)
  have hs := hG.1 _ ho
  refine sp_getR (RX10, TX10, 16) dX10_orders_7 clX10 (j := 9) (by decide) tw_424 (wsI_0 hs) (Or.inl ⟨_, rfl⟩) (wsP_0_9 hs) ?_
  refine sp_iconst (v := 1) dX10_orders_10 (by decide) ?_
  obtain ⟨x2, hx2, h⟩ := Option.bind_eq_some_iff.mp h
  refine sp_cV (M1 := x2.2) (r := some (.int x2.1)) (o := 96) (st := [.ref 0]) (c := 2) (RX2, TX2, 9) [.int 1] [.int 1, .ref 96, .ref 0] [.int x2.1, .ref 0] dX10_orders_11 okX2_read tw_639 tw_640 tw_641 (by decide) (by decide) rfl (Nat.le_of_ble_eq_true rfl) rfl rfl rfl rfl (wsI_96 hs) (fun Q hQ => tX2_read hG hx2 hQ) ?_
  refine sp_use (fun ho => ?_)
  have hs := hG.1 _ ho
  obtain ⟨M3, hM3, h⟩ := sp_do_e h
  refine sp_putI2 (RX10, TX10, 16) hG dX10_orders_14 clX10 (j := 14) (by decide) tw_429 rfl (Or.inl rfl) (wsI_0 hs) hM3 ?_
  refine sp_aload_n dX10_orders_17 rfl rfl ?_
  refine sp_use (fun ho => ?_)
  have hs := hG.1 _ ho
  refine sp_getR (RX10, TX10, 16) dX10_orders_18 clX10 (j := 8) (by decide) tw_423 (wsI_0 hs) (Or.inl ⟨_, rfl⟩) (wsP_0_8 hs) ?_
  refine sp_iconst (v := 0) dX10_orders_21 (by decide) ?_
  obtain ⟨M4, hM4, h⟩ := sp_do_e h
  refine sp_putI2 (RX8, TX8, 5) hG dX10_orders_22 clX8 (j := 1) (by decide) tw_339 rfl (Or.inl rfl) (wsI_94 hs) hM4 ?_
  refine sp_aload_n dX10_orders_25 rfl rfl ?_
  refine sp_use (fun ho => ?_)
  have hs := hG.1 _ ho
  refine sp_getI (RX10, TX10, 16) dX10_orders_26 clX10 (j := 14) (by decide) tw_429 (wsI_0 hs) (Or.inl rfl) ?_
  refine sp_iconst (v := (-1)) dX10_orders_29 (by decide) ?_
  refine sp_icmp_eq (tgt := 40) dX10_orders_30 (by decide) (fun hc5 => ?_) (fun hc5 => ?_)
  · have h := (if_pos hc5).symm.trans h
    refine sp_aload_n dX10_orders_40 rfl rfl ?_
    refine sp_getR (RX10, TX10, 16) dX10_orders_41 clX10 (j := 2) (by decide) tw_417 (wsI_0 hs) (Or.inl ⟨_, rfl⟩) (wsP_0_2 hs) ?_
    refine sp_aload_n dX10_orders_44 rfl rfl ?_
    refine sp_getR (RX10, TX10, 16) dX10_orders_45 clX10 (j := 1) (by decide) tw_416 (wsI_0 hs) (Or.inl ⟨_, rfl⟩) (wsP_0_1 hs) ?_
    obtain ⟨M6, hM6, h⟩ := Option.bind_eq_some_iff.mp h
    refine sp_cV (M1 := M6) (r := none) (o := 22) (st := []) (c := 6) (RX7, TX7, 6) [.ref 5] [.ref 5, .ref 22] [] dX10_orders_48 okX7_copyFrom tw_847 tw_848 tw_849 (by decide) (by decide) rfl (Nat.le_of_ble_eq_true rfl) rfl rfl rfl rfl (wsI_22 hs) (fun Q hQ => tX7_copyFrom hG stage_22 stage_5 hM6 hQ) ?_
    refine sp_aload_n dX10_orders_51 rfl rfl ?_
    refine sp_use (fun ho => ?_)
    have hs := hG.1 _ ho
    refine sp_getR (RX10, TX10, 16) dX10_orders_52 clX10 (j := 2) (by decide) tw_417 (wsI_0 hs) (Or.inl ⟨_, rfl⟩) (wsP_0_2 hs) ?_
    obtain ⟨M7, hM7, h⟩ := Option.bind_eq_some_iff.mp h
    refine sp_cV (M1 := M7) (r := none) (o := 22) (st := []) (c := 6) (RX7, TX7, 6) [] [.ref 22] [] dX10_orders_55 okX7_startOrders tw_861 tw_862 tw_863 (by decide) (by decide) rfl (Nat.le_of_ble_eq_true rfl) rfl rfl rfl rfl (wsI_22 hs) (fun Q hQ => tX7_startOrders hG stage_22 hM7 hQ) ?_
    refine sp_iconst (v := 0) dX10_orders_58 (by decide) ?_
    refine sp_istore_n [some (.ref 0), some (.int 0)] dX10_orders_59 rfl (by decide) rfl ?_
    refine sp_weak [true, true] [some (.ref 0), some (.int 0)] rfl ?_
    refine tX10_orders_l60 hG hQ (fun M13 h => ?_) F _ _ h
    refine sp_aload_n dX10_orders_110 rfl rfl ?_
    refine sp_use (fun ho => ?_)
    have hs := hG.1 _ ho
    refine sp_getR (RX10, TX10, 16) dX10_orders_111 clX10 (j := 1) (by decide) tw_416 (wsI_0 hs) (Or.inl ⟨_, rfl⟩) (wsP_0_1 hs) ?_
    refine sp_aload_n dX10_orders_114 rfl rfl ?_
    refine sp_getR (RX10, TX10, 16) dX10_orders_115 clX10 (j := 2) (by decide) tw_417 (wsI_0 hs) (Or.inl ⟨_, rfl⟩) (wsP_0_2 hs) ?_
    obtain ⟨M14, hM14, h⟩ := Option.bind_eq_some_iff.mp h
    refine sp_cV (M1 := M14) (r := none) (o := 5) (st := []) (c := 6) (RX7, TX7, 6) [.ref 22] [.ref 22, .ref 5] [] dX10_orders_118 okX7_copyFrom tw_847 tw_848 tw_849 (by decide) (by decide) rfl (Nat.le_of_ble_eq_true rfl) rfl rfl rfl rfl (wsI_5 hs) (fun Q hQ => tX7_copyFrom hG stage_5 stage_22 hM14 hQ) ?_
    refine sp_aload_n dX10_orders_121 rfl rfl ?_
    refine sp_aload_n dX10_orders_122 rfl rfl ?_
    refine sp_use (fun ho => ?_)
    have hs := hG.1 _ ho
    refine sp_getR (RX10, TX10, 16) dX10_orders_123 clX10 (j := 2) (by decide) tw_417 (wsI_0 hs) (Or.inl ⟨_, rfl⟩) (wsP_0_2 hs) ?_
    refine sp_getI (RX7, TX7, 6) dX10_orders_126 clX7 (j := 5) (by decide) tw_282 (wsI_22 hs) (Or.inl rfl) ?_
    obtain ⟨x15, hx15, h⟩ := Option.bind_eq_some_iff.mp h
    refine sp_cV (M1 := x15.2) (r := some (.int x15.1)) (o := 0) (st := []) (c := 9) (RX10, TX10, 16) [.int (sp_I M14 22 5)] [.int (sp_I M14 22 5), .ref 0] [.int x15.1] dX10_orders_129 okX10_grant tw_486 tw_488 tw_1 (by decide) (by decide) rfl (Nat.le_of_ble_eq_true rfl) rfl rfl rfl rfl (wsI_0 hs) (fun Q hQ => tX10_grant hG hx15 hQ) ?_
    cases h
    exact sp_iret dX10_orders_132 (ty := .int) rfl rfl (fun _ => hQ)
  · have h := (if_neg hc5).symm.trans h
    refine sp_aload_n dX10_orders_33 rfl rfl ?_
    refine sp_bipush (v := (-6)) dX10_orders_34 (by decide) ?_
    obtain ⟨x16, hx16, h⟩ := Option.bind_eq_some_iff.mp h
    refine sp_cV (M1 := x16.2) (r := some (.int x16.1)) (o := 0) (st := []) (c := 9) (RX10, TX10, 16) [.int (-6)] [.int (-6), .ref 0] [.int x16.1] dX10_orders_36 okX10_refuse tw_474 tw_476 tw_0 (by decide) (by decide) rfl (Nat.le_of_ble_eq_true rfl) rfl rfl rfl rfl (wsI_0 hs) (fun Q hQ => tX10_refuse hG hx16 hQ) ?_
    cases h
    exact sp_iret dX10_orders_39 (ty := .int) rfl rfl (fun _ => hQ)
def fX10_fault (M0 : sp_Mem) : Int32 :=
  (sp_I M0 0 14)
set_option maxRecDepth 100000 in
set_option maxHeartbeats 4000000 in
theorem tX10_fault {g : sp_G} {Ω : sp_Mem → Prop} {Q : sp_Qt} {M0 : sp_Mem} {p : Int32} (hG : sp_Ok Ω) (h : fX10_fault M0 = p) (hQ : Q (some (.int p)) M0) : sp_Mt g Ω mX10_fault 0 0 [.ref 0] M0 Q := by
  unfold fX10_fault at h
  refine sp_Mt.of [some (.ref 0)] (by decide) (by simp [sp_ent, Value.category]) rfl ?_
  refine sp_aload_n dX10_fault_0 rfl rfl ?_
  refine sp_use (fun ho => ?_)
  have hs := hG.1 _ ho
  refine sp_getI (RX10, TX10, 16) dX10_fault_1 clX10 (j := 14) (by decide) tw_429 (wsI_0 hs) (Or.inl rfl) ?_
  cases h
  exact sp_iret dX10_fault_4 (ty := .int) rfl rfl (fun _ => hQ)
def fX10_stopped (M0 : sp_Mem) : Int32 :=
  (sp_I M0 0 15)
set_option maxRecDepth 100000 in
set_option maxHeartbeats 4000000 in
theorem tX10_stopped {g : sp_G} {Ω : sp_Mem → Prop} {Q : sp_Qt} {M0 : sp_Mem} {p : Int32} (hG : sp_Ok Ω) (h : fX10_stopped M0 = p) (hQ : Q (some (.int p)) M0) : sp_Mt g Ω mX10_stopped 0 0 [.ref 0] M0 Q := by
  unfold fX10_stopped at h
  refine sp_Mt.of [some (.ref 0)] (by decide) (by simp [sp_ent, Value.category]) rfl ?_
  refine sp_aload_n dX10_stopped_0 rfl rfl ?_
  refine sp_use (fun ho => ?_)
  have hs := hG.1 _ ho
  refine sp_getI (RX10, TX10, 16) dX10_stopped_1 clX10 (j := 15) (by decide) tw_430 (wsI_0 hs) (Or.inl rfl) ?_
  cases h
  exact sp_iret dX10_stopped_4 (ty := .int) rfl rfl (fun _ => hQ)
def fX10_force_j23 (a1 : Int32) (M : sp_Mem) : Option (Int32 × sp_Mem) :=
  sp_do ((sp_I M 6 15)) fun u2 => sp_do (sp_setI M 6 15 a1) fun M3 => (fX10_grant M3 u2).bind fun x4 => some (x4.1, x4.2)
def fX10_force (M : sp_Mem) (a1 : Int32) : Option (Int32 × sp_Mem) :=
  if a1 = (-1) then (fX10_force_j23 a1 M) else (if (fX5_hasLaw M 6 a1) = 0 then ((fX10_refuse M (-2)).bind fun x6 => some (x6.1, x6.2)) else (fX10_force_j23 a1 M))
set_option maxRecDepth 100000 in
set_option maxHeartbeats 4000000 in
theorem tX10_force_j23 {g : sp_G} {Ω : sp_Mem → Prop} {Q : sp_Qt} {p : (Int32 × sp_Mem)} (hG : sp_Ok Ω)  (hQ : Q (some (.int p.1)) p.2) (a1 : Int32) (M : sp_Mem) (h : fX10_force_j23 a1 M = some p) : sp_Wp g Ω mX10_force 0 0 23 [some (.ref 0), some (.int a1), none] [] M Q := by
  unfold fX10_force_j23 at h
  refine sp_aload_n dX10_force_23 rfl rfl ?_
  refine sp_use (fun ho => ?_)
  have hs := hG.1 _ ho
  refine sp_getR (RX10, TX10, 16) dX10_force_24 clX10 (j := 3) (by decide) tw_418 (wsI_0 hs) (Or.inl ⟨_, rfl⟩) (wsP_0_3 hs) ?_
  refine sp_getI (RX5, TX5, 16) dX10_force_27 clX5 (j := 15) (by decide) tw_220 (wsI_6 hs) (Or.inl rfl) ?_
  obtain ⟨u2, hu2, h⟩ := sp_do_e h
  refine sp_topi hu2 ?_
  refine sp_istore_n [some (.ref 0), some (.int a1), some (.int u2)] dX10_force_30 rfl (by decide) rfl ?_
  refine sp_aload_n dX10_force_31 rfl rfl ?_
  refine sp_getR (RX10, TX10, 16) dX10_force_32 clX10 (j := 3) (by decide) tw_418 (wsI_0 hs) (Or.inl ⟨_, rfl⟩) (wsP_0_3 hs) ?_
  refine sp_iload_n dX10_force_35 rfl rfl ?_
  obtain ⟨M3, hM3, h⟩ := sp_do_e h
  refine sp_putI2 (RX5, TX5, 16) hG dX10_force_36 clX5 (j := 15) (by decide) tw_220 rfl (Or.inl rfl) (wsI_6 hs) hM3 ?_
  refine sp_aload_n dX10_force_39 rfl rfl ?_
  refine sp_iload_n dX10_force_40 rfl rfl ?_
  refine sp_use (fun ho => ?_)
  have hs := hG.1 _ ho
  obtain ⟨x4, hx4, h⟩ := Option.bind_eq_some_iff.mp h
  refine sp_cV (M1 := x4.2) (r := some (.int x4.1)) (o := 0) (st := []) (c := 9) (RX10, TX10, 16) [.int u2] [.int u2, .ref 0] [.int x4.1] dX10_force_41 okX10_grant tw_486 tw_488 tw_1 (by decide) (by decide) rfl (Nat.le_of_ble_eq_true rfl) rfl rfl rfl rfl (wsI_0 hs) (fun Q hQ => tX10_grant hG hx4 hQ) ?_
  cases h
  exact sp_iret dX10_force_44 (ty := .int) rfl rfl (fun _ => hQ)
set_option maxRecDepth 100000 in
set_option maxHeartbeats 4000000 in
theorem tX10_force {g : sp_G} {Ω : sp_Mem → Prop} {Q : sp_Qt} {p : (Int32 × sp_Mem)} (hG : sp_Ok Ω) {M : sp_Mem} {a1 : Int32} (h : fX10_force M a1 = some p) (hQ : Q (some (.int p.1)) p.2) : sp_Mt g Ω mX10_force 0 0 [.ref 0, .int a1] M Q := by
  unfold fX10_force at h
  refine sp_Mt.of [some (.ref 0), some (.int a1), none] (by decide) (by simp [sp_ent, Value.category]) rfl ?_
  refine sp_iload_n dX10_force_0 rfl rfl ?_
  refine sp_iconst (v := (-1)) dX10_force_1 (by decide) ?_
  refine sp_icmp_eq (tgt := 23) dX10_force_2 (by decide) (fun hc1 => ?_) (fun hc1 => ?_)
  · have h := (if_pos hc1).symm.trans h
    refine sp_weak [true, true, false] [some (.ref 0), some (.int a1), none] rfl ?_
    exact tX10_force_j23 hG hQ _ _ h
  · have h := (if_neg hc1).symm.trans h
    refine sp_aload_n dX10_force_5 rfl rfl ?_
    refine sp_use (fun ho => ?_)
    have hs := hG.1 _ ho
    refine sp_getR (RX10, TX10, 16) dX10_force_6 clX10 (j := 3) (by decide) tw_418 (wsI_0 hs) (Or.inl ⟨_, rfl⟩) (wsP_0_3 hs) ?_
    refine sp_iload_n dX10_force_9 rfl rfl ?_
    refine sp_cV (M1 := M) (r := some (.int (fX5_hasLaw M 6 a1))) (o := 6) (st := []) (c := 4) (RX5, TX5, 16) [.int a1] [.int a1, .ref 6] [.int (fX5_hasLaw M 6 a1)] dX10_force_10 okX5_hasLaw tw_952 tw_511 tw_512 (by decide) (by decide) rfl (Nat.le_of_ble_eq_true rfl) rfl rfl rfl rfl (wsI_6 hs) (fun Q hQ => tX5_hasLaw hG room_6 rfl hQ) ?_
    refine sp_if_ne (tgt := 23) dX10_force_13 (by decide) (fun hc5 => ?_) (fun hc5 => ?_)
    · have h := (if_neg hc5).symm.trans h
      refine sp_weak [true, true, false] [some (.ref 0), some (.int a1), none] rfl ?_
      exact tX10_force_j23 hG hQ _ _ h
    · have h := (if_pos hc5).symm.trans h
      refine sp_aload_n dX10_force_16 rfl rfl ?_
      refine sp_bipush (v := (-2)) dX10_force_17 (by decide) ?_
      obtain ⟨x6, hx6, h⟩ := Option.bind_eq_some_iff.mp h
      refine sp_cV (M1 := x6.2) (r := some (.int x6.1)) (o := 0) (st := []) (c := 9) (RX10, TX10, 16) [.int (-2)] [.int (-2), .ref 0] [.int x6.1] dX10_force_19 okX10_refuse tw_474 tw_476 tw_0 (by decide) (by decide) rfl (Nat.le_of_ble_eq_true rfl) rfl rfl rfl rfl (wsI_0 hs) (fun Q hQ => tX10_refuse hG hx6 hQ) ?_
      cases h
      exact sp_iret dX10_force_22 (ty := .int) rfl rfl (fun _ => hQ)
def fX10_noted (M : sp_Mem) (a1 : Int32) : Option (Int32 × sp_Mem) :=
  if 0 ≤ a1 then ((fX10_grant M a1).bind fun x2 => some (x2.1, x2.2)) else ((fX10_refuse M a1).bind fun x3 => some (x3.1, x3.2))
set_option maxRecDepth 100000 in
set_option maxHeartbeats 4000000 in
theorem tX10_noted {g : sp_G} {Ω : sp_Mem → Prop} {Q : sp_Qt} {p : (Int32 × sp_Mem)} (hG : sp_Ok Ω) {M : sp_Mem} {a1 : Int32} (h : fX10_noted M a1 = some p) (hQ : Q (some (.int p.1)) p.2) : sp_Mt g Ω mX10_noted 0 0 [.ref 0, .int a1] M Q := by
  unfold fX10_noted at h
  refine sp_Mt.of [some (.ref 0), some (.int a1)] (by decide) (by simp [sp_ent, Value.category]) rfl ?_
  refine sp_iload_n dX10_noted_0 rfl rfl ?_
  refine sp_if_ge (tgt := 12) dX10_noted_1 (by decide) (fun hc1 => ?_) (fun hc1 => ?_)
  · have h := (if_pos hc1).symm.trans h
    refine sp_aload_n dX10_noted_12 rfl rfl ?_
    refine sp_iload_n dX10_noted_13 rfl rfl ?_
    refine sp_use (fun ho => ?_)
    have hs := hG.1 _ ho
    obtain ⟨x2, hx2, h⟩ := Option.bind_eq_some_iff.mp h
    refine sp_cV (M1 := x2.2) (r := some (.int x2.1)) (o := 0) (st := []) (c := 9) (RX10, TX10, 16) [.int a1] [.int a1, .ref 0] [.int x2.1] dX10_noted_14 okX10_grant tw_486 tw_488 tw_1 (by decide) (by decide) rfl (Nat.le_of_ble_eq_true rfl) rfl rfl rfl rfl (wsI_0 hs) (fun Q hQ => tX10_grant hG hx2 hQ) ?_
    cases h
    exact sp_iret dX10_noted_17 (ty := .int) rfl rfl (fun _ => hQ)
  · have h := (if_neg hc1).symm.trans h
    refine sp_aload_n dX10_noted_4 rfl rfl ?_
    refine sp_iload_n dX10_noted_5 rfl rfl ?_
    refine sp_use (fun ho => ?_)
    have hs := hG.1 _ ho
    obtain ⟨x3, hx3, h⟩ := Option.bind_eq_some_iff.mp h
    refine sp_cV (M1 := x3.2) (r := some (.int x3.1)) (o := 0) (st := []) (c := 9) (RX10, TX10, 16) [.int a1] [.int a1, .ref 0] [.int x3.1] dX10_noted_6 okX10_refuse tw_474 tw_476 tw_0 (by decide) (by decide) rfl (Nat.le_of_ble_eq_true rfl) rfl rfl rfl rfl (wsI_0 hs) (fun Q hQ => tX10_refuse hG hx3 hQ) ?_
    refine sp_goto (tgt := 17) dX10_noted_9 (by decide) ?_
    cases h
    exact sp_iret dX10_noted_17 (ty := .int) rfl rfl (fun _ => hQ)
def fX10_call (F : Nat) (M : sp_Mem) (a1 : Int32) (a2 : Int32) : Option (Int32 × sp_Mem) :=
  (fX7_perform F M 5 0 a1 a2).bind fun x1 => (fX10_noted x1.2 x1.1).bind fun x2 => some (x2.1, x2.2)
set_option maxRecDepth 100000 in
set_option maxHeartbeats 4000000 in
theorem tX10_call {g : sp_G} {Ω : sp_Mem → Prop} {Q : sp_Qt} {F : Nat} {p : (Int32 × sp_Mem)} (hG : sp_Ok Ω) {M : sp_Mem} {a1 : Int32} {a2 : Int32} (h : fX10_call F M a1 a2 = some p) (hQ : Q (some (.int p.1)) p.2) : sp_Mt g Ω mX10_call 0 0 [.ref 0, .int a1, .int a2] M Q := by
  unfold fX10_call at h
  refine sp_Mt.of [some (.ref 0), some (.int a1), some (.int a2)] (by decide) (by simp [sp_ent, Value.category]) rfl ?_
  refine sp_aload_n dX10_call_0 rfl rfl ?_
  refine sp_aload_n dX10_call_1 rfl rfl ?_
  refine sp_use (fun ho => ?_)
  have hs := hG.1 _ ho
  refine sp_getR (RX10, TX10, 16) dX10_call_2 clX10 (j := 1) (by decide) tw_416 (wsI_0 hs) (Or.inl ⟨_, rfl⟩) (wsP_0_1 hs) ?_
  refine sp_iconst (v := 0) dX10_call_5 (by decide) ?_
  refine sp_iload_n dX10_call_6 rfl rfl ?_
  refine sp_iload_n dX10_call_7 rfl rfl ?_
  obtain ⟨x1, hx1, h⟩ := Option.bind_eq_some_iff.mp h
  refine sp_cV (M1 := x1.2) (r := some (.int x1.1)) (o := 5) (st := [.ref 0]) (c := 6) (RX7, TX7, 6) [.int 0, .int a1, .int a2] [.int a2, .int a1, .int 0, .ref 5, .ref 0] [.int x1.1, .ref 0] dX10_call_8 okX7_perform tw_957 tw_889 tw_890 (by decide) (by decide) rfl (Nat.le_of_ble_eq_true rfl) rfl rfl rfl rfl (wsI_5 hs) (fun Q hQ => tX7_perform hG stage_5 hx1 hQ) ?_
  refine sp_use (fun ho => ?_)
  have hs := hG.1 _ ho
  obtain ⟨x2, hx2, h⟩ := Option.bind_eq_some_iff.mp h
  refine sp_cV (M1 := x2.2) (r := some (.int x2.1)) (o := 0) (st := []) (c := 9) (RX10, TX10, 16) [.int x1.1] [.int x1.1, .ref 0] [.int x2.1] dX10_call_11 okX10_noted tw_958 tw_960 tw_23 (by decide) (by decide) rfl (Nat.le_of_ble_eq_true rfl) rfl rfl rfl rfl (wsI_0 hs) (fun Q hQ => tX10_noted hG hx2 hQ) ?_
  cases h
  exact sp_iret dX10_call_14 (ty := .int) rfl rfl (fun _ => hQ)
def fX10_wet (F : Nat) (M : sp_Mem) (a1 : Int32) : Option (Int32 × sp_Mem) :=
  (fX7_perform F M 5 1 a1 0).bind fun x1 => (fX10_noted x1.2 x1.1).bind fun x2 => some (x2.1, x2.2)
set_option maxRecDepth 100000 in
set_option maxHeartbeats 4000000 in
theorem tX10_wet {g : sp_G} {Ω : sp_Mem → Prop} {Q : sp_Qt} {F : Nat} {p : (Int32 × sp_Mem)} (hG : sp_Ok Ω) {M : sp_Mem} {a1 : Int32} (h : fX10_wet F M a1 = some p) (hQ : Q (some (.int p.1)) p.2) : sp_Mt g Ω mX10_wet 0 0 [.ref 0, .int a1] M Q := by
  unfold fX10_wet at h
  refine sp_Mt.of [some (.ref 0), some (.int a1)] (by decide) (by simp [sp_ent, Value.category]) rfl ?_
  refine sp_aload_n dX10_wet_0 rfl rfl ?_
  refine sp_aload_n dX10_wet_1 rfl rfl ?_
  refine sp_use (fun ho => ?_)
  have hs := hG.1 _ ho
  refine sp_getR (RX10, TX10, 16) dX10_wet_2 clX10 (j := 1) (by decide) tw_416 (wsI_0 hs) (Or.inl ⟨_, rfl⟩) (wsP_0_1 hs) ?_
  refine sp_iconst (v := 1) dX10_wet_5 (by decide) ?_
  refine sp_iload_n dX10_wet_6 rfl rfl ?_
  refine sp_iconst (v := 0) dX10_wet_7 (by decide) ?_
  obtain ⟨x1, hx1, h⟩ := Option.bind_eq_some_iff.mp h
  refine sp_cV (M1 := x1.2) (r := some (.int x1.1)) (o := 5) (st := [.ref 0]) (c := 6) (RX7, TX7, 6) [.int 1, .int a1, .int 0] [.int 0, .int a1, .int 1, .ref 5, .ref 0] [.int x1.1, .ref 0] dX10_wet_8 okX7_perform tw_957 tw_889 tw_890 (by decide) (by decide) rfl (Nat.le_of_ble_eq_true rfl) rfl rfl rfl rfl (wsI_5 hs) (fun Q hQ => tX7_perform hG stage_5 hx1 hQ) ?_
  refine sp_use (fun ho => ?_)
  have hs := hG.1 _ ho
  obtain ⟨x2, hx2, h⟩ := Option.bind_eq_some_iff.mp h
  refine sp_cV (M1 := x2.2) (r := some (.int x2.1)) (o := 0) (st := []) (c := 9) (RX10, TX10, 16) [.int x1.1] [.int x1.1, .ref 0] [.int x2.1] dX10_wet_11 okX10_noted tw_958 tw_960 tw_23 (by decide) (by decide) rfl (Nat.le_of_ble_eq_true rfl) rfl rfl rfl rfl (wsI_0 hs) (fun Q hQ => tX10_noted hG hx2 hQ) ?_
  cases h
  exact sp_iret dX10_wet_14 (ty := .int) rfl rfl (fun _ => hQ)
def fX10_walk (F : Nat) (M : sp_Mem) (a1 : Int32) (a2 : Int32) : Option (Int32 × sp_Mem) :=
  (fX7_perform F M 5 2 a1 a2).bind fun x1 => (fX10_noted x1.2 x1.1).bind fun x2 => some (x2.1, x2.2)
set_option maxRecDepth 100000 in
set_option maxHeartbeats 4000000 in
theorem tX10_walk {g : sp_G} {Ω : sp_Mem → Prop} {Q : sp_Qt} {F : Nat} {p : (Int32 × sp_Mem)} (hG : sp_Ok Ω) {M : sp_Mem} {a1 : Int32} {a2 : Int32} (h : fX10_walk F M a1 a2 = some p) (hQ : Q (some (.int p.1)) p.2) : sp_Mt g Ω mX10_walk 0 0 [.ref 0, .int a1, .int a2] M Q := by
  unfold fX10_walk at h
  refine sp_Mt.of [some (.ref 0), some (.int a1), some (.int a2)] (by decide) (by simp [sp_ent, Value.category]) rfl ?_
  refine sp_aload_n dX10_walk_0 rfl rfl ?_
  refine sp_aload_n dX10_walk_1 rfl rfl ?_
  refine sp_use (fun ho => ?_)
  have hs := hG.1 _ ho
  refine sp_getR (RX10, TX10, 16) dX10_walk_2 clX10 (j := 1) (by decide) tw_416 (wsI_0 hs) (Or.inl ⟨_, rfl⟩) (wsP_0_1 hs) ?_
  refine sp_iconst (v := 2) dX10_walk_5 (by decide) ?_
  refine sp_iload_n dX10_walk_6 rfl rfl ?_
  refine sp_iload_n dX10_walk_7 rfl rfl ?_
  obtain ⟨x1, hx1, h⟩ := Option.bind_eq_some_iff.mp h
  refine sp_cV (M1 := x1.2) (r := some (.int x1.1)) (o := 5) (st := [.ref 0]) (c := 6) (RX7, TX7, 6) [.int 2, .int a1, .int a2] [.int a2, .int a1, .int 2, .ref 5, .ref 0] [.int x1.1, .ref 0] dX10_walk_8 okX7_perform tw_957 tw_889 tw_890 (by decide) (by decide) rfl (Nat.le_of_ble_eq_true rfl) rfl rfl rfl rfl (wsI_5 hs) (fun Q hQ => tX7_perform hG stage_5 hx1 hQ) ?_
  refine sp_use (fun ho => ?_)
  have hs := hG.1 _ ho
  obtain ⟨x2, hx2, h⟩ := Option.bind_eq_some_iff.mp h
  refine sp_cV (M1 := x2.2) (r := some (.int x2.1)) (o := 0) (st := []) (c := 9) (RX10, TX10, 16) [.int x1.1] [.int x1.1, .ref 0] [.int x2.1] dX10_walk_11 okX10_noted tw_958 tw_960 tw_23 (by decide) (by decide) rfl (Nat.le_of_ble_eq_true rfl) rfl rfl rfl rfl (wsI_0 hs) (fun Q hQ => tX10_noted hG hx2 hQ) ?_
  cases h
  exact sp_iret dX10_walk_14 (ty := .int) rfl rfl (fun _ => hQ)
def fX10_pass (F : Nat) (M : sp_Mem) : Option (Int32 × sp_Mem) :=
  (fX7_perform F M 5 3 0 0).bind fun x1 => (fX10_noted x1.2 x1.1).bind fun x2 => some (x2.1, x2.2)
set_option maxRecDepth 100000 in
set_option maxHeartbeats 4000000 in
theorem tX10_pass {g : sp_G} {Ω : sp_Mem → Prop} {Q : sp_Qt} {F : Nat} {p : (Int32 × sp_Mem)} (hG : sp_Ok Ω) {M : sp_Mem} (h : fX10_pass F M = some p) (hQ : Q (some (.int p.1)) p.2) : sp_Mt g Ω mX10_pass 0 0 [.ref 0] M Q := by
  unfold fX10_pass at h
  refine sp_Mt.of [some (.ref 0)] (by decide) (by simp [sp_ent, Value.category]) rfl ?_
  refine sp_aload_n dX10_pass_0 rfl rfl ?_
  refine sp_aload_n dX10_pass_1 rfl rfl ?_
  refine sp_use (fun ho => ?_)
  have hs := hG.1 _ ho
  refine sp_getR (RX10, TX10, 16) dX10_pass_2 clX10 (j := 1) (by decide) tw_416 (wsI_0 hs) (Or.inl ⟨_, rfl⟩) (wsP_0_1 hs) ?_
  refine sp_iconst (v := 3) dX10_pass_5 (by decide) ?_
  refine sp_iconst (v := 0) dX10_pass_6 (by decide) ?_
  refine sp_iconst (v := 0) dX10_pass_7 (by decide) ?_
  obtain ⟨x1, hx1, h⟩ := Option.bind_eq_some_iff.mp h
  refine sp_cV (M1 := x1.2) (r := some (.int x1.1)) (o := 5) (st := [.ref 0]) (c := 6) (RX7, TX7, 6) [.int 3, .int 0, .int 0] [.int 0, .int 0, .int 3, .ref 5, .ref 0] [.int x1.1, .ref 0] dX10_pass_8 okX7_perform tw_957 tw_889 tw_890 (by decide) (by decide) rfl (Nat.le_of_ble_eq_true rfl) rfl rfl rfl rfl (wsI_5 hs) (fun Q hQ => tX7_perform hG stage_5 hx1 hQ) ?_
  refine sp_use (fun ho => ?_)
  have hs := hG.1 _ ho
  obtain ⟨x2, hx2, h⟩ := Option.bind_eq_some_iff.mp h
  refine sp_cV (M1 := x2.2) (r := some (.int x2.1)) (o := 0) (st := []) (c := 9) (RX10, TX10, 16) [.int x1.1] [.int x1.1, .ref 0] [.int x2.1] dX10_pass_11 okX10_noted tw_958 tw_960 tw_23 (by decide) (by decide) rfl (Nat.le_of_ble_eq_true rfl) rfl rfl rfl rfl (wsI_0 hs) (fun Q hQ => tX10_noted hG hx2 hQ) ?_
  cases h
  exact sp_iret dX10_pass_14 (ty := .int) rfl rfl (fun _ => hQ)
def fX10_undo (M : sp_Mem) : Option (Int32 × sp_Mem) :=
  (fX3_takeBack M 18 6).bind fun x1 => (fX10_noted x1.2 x1.1).bind fun x2 => some (x2.1, x2.2)
set_option maxRecDepth 100000 in
set_option maxHeartbeats 4000000 in
theorem tX10_undo {g : sp_G} {Ω : sp_Mem → Prop} {Q : sp_Qt} {p : (Int32 × sp_Mem)} (hG : sp_Ok Ω) {M : sp_Mem} (h : fX10_undo M = some p) (hQ : Q (some (.int p.1)) p.2) : sp_Mt g Ω mX10_undo 0 0 [.ref 0] M Q := by
  unfold fX10_undo at h
  refine sp_Mt.of [some (.ref 0)] (by decide) (by simp [sp_ent, Value.category]) rfl ?_
  refine sp_aload_n dX10_undo_0 rfl rfl ?_
  refine sp_aload_n dX10_undo_1 rfl rfl ?_
  refine sp_use (fun ho => ?_)
  have hs := hG.1 _ ho
  refine sp_getR (RX10, TX10, 16) dX10_undo_2 clX10 (j := 1) (by decide) tw_416 (wsI_0 hs) (Or.inl ⟨_, rfl⟩) (wsP_0_1 hs) ?_
  refine sp_getR (RX7, TX7, 6) dX10_undo_5 clX7 (j := 1) (by decide) tw_277 (wsI_5 hs) (Or.inl ⟨_, rfl⟩) (wsP_5_1 hs) ?_
  refine sp_aload_n dX10_undo_8 rfl rfl ?_
  refine sp_getR (RX10, TX10, 16) dX10_undo_9 clX10 (j := 3) (by decide) tw_418 (wsI_0 hs) (Or.inl ⟨_, rfl⟩) (wsP_0_3 hs) ?_
  obtain ⟨x1, hx1, h⟩ := Option.bind_eq_some_iff.mp h
  refine sp_cV (M1 := x1.2) (r := some (.int x1.1)) (o := 18) (st := [.ref 0]) (c := 3) (RX3, TX3, 4) [.ref 6] [.ref 6, .ref 18, .ref 0] [.int x1.1, .ref 0] dX10_undo_12 okX3_takeBack tw_978 tw_979 tw_980 (by decide) (by decide) rfl (Nat.le_of_ble_eq_true rfl) rfl rfl rfl rfl (wsI_18 hs) (fun Q hQ => tX3_takeBack hG past_18 room_6 hx1 hQ) ?_
  refine sp_use (fun ho => ?_)
  have hs := hG.1 _ ho
  obtain ⟨x2, hx2, h⟩ := Option.bind_eq_some_iff.mp h
  refine sp_cV (M1 := x2.2) (r := some (.int x2.1)) (o := 0) (st := []) (c := 9) (RX10, TX10, 16) [.int x1.1] [.int x1.1, .ref 0] [.int x2.1] dX10_undo_15 okX10_noted tw_958 tw_960 tw_23 (by decide) (by decide) rfl (Nat.le_of_ble_eq_true rfl) rfl rfl rfl rfl (wsI_0 hs) (fun Q hQ => tX10_noted hG hx2 hQ) ?_
  cases h
  exact sp_iret dX10_undo_18 (ty := .int) rfl rfl (fun _ => hQ)
def fX10_where (F : Nat) (M : sp_Mem) (a1 : Int32) (a2 : Int32) : Option (Int32 × sp_Mem) :=
  if (fX5_hasSpark M 6 a1) = 0 then (some ((-100), M)) else (if (fX10_isWithin a2 0 60) = 0 then (some ((-100), M)) else ((fX1_cellLater F M 6 a1 a2).bind fun x3 => some (x3.1, x3.2)))
set_option maxRecDepth 100000 in
set_option maxHeartbeats 4000000 in
theorem tX10_where {g : sp_G} {Ω : sp_Mem → Prop} {Q : sp_Qt} {F : Nat} {p : (Int32 × sp_Mem)} (hG : sp_Ok Ω) {M : sp_Mem} {a1 : Int32} {a2 : Int32} (h : fX10_where F M a1 a2 = some p) (hQ : Q (some (.int p.1)) p.2) : sp_Mt g Ω mX10_where 0 0 [.ref 0, .int a1, .int a2] M Q := by
  unfold fX10_where at h
  refine sp_Mt.of [some (.ref 0), some (.int a1), some (.int a2)] (by decide) (by simp [sp_ent, Value.category]) rfl ?_
  refine sp_aload_n dX10_where_0 rfl rfl ?_
  refine sp_use (fun ho => ?_)
  have hs := hG.1 _ ho
  refine sp_getR (RX10, TX10, 16) dX10_where_1 clX10 (j := 3) (by decide) tw_418 (wsI_0 hs) (Or.inl ⟨_, rfl⟩) (wsP_0_3 hs) ?_
  refine sp_iload_n dX10_where_4 rfl rfl ?_
  refine sp_cV (M1 := M) (r := some (.int (fX5_hasSpark M 6 a1))) (o := 6) (st := []) (c := 4) (RX5, TX5, 16) [.int a1] [.int a1, .ref 6] [.int (fX5_hasSpark M 6 a1)] dX10_where_5 okX5_hasSpark tw_494 tw_495 tw_496 (by decide) (by decide) rfl (Nat.le_of_ble_eq_true rfl) rfl rfl rfl rfl (wsI_6 hs) (fun Q hQ => tX5_hasSpark hG room_6 rfl hQ) ?_
  refine sp_if_eq (tgt := 21) dX10_where_8 (by decide) (fun hc1 => ?_) (fun hc1 => ?_)
  · have h := (if_pos hc1).symm.trans h
    refine sp_bipush (v := (-100)) dX10_where_21 (by decide) ?_
    cases h
    exact sp_iret dX10_where_23 (ty := .int) rfl rfl (fun _ => hQ)
  · have h := (if_neg hc1).symm.trans h
    refine sp_iload_n dX10_where_11 rfl rfl ?_
    refine sp_iconst (v := 0) dX10_where_12 (by decide) ?_
    refine sp_bipush (v := 60) dX10_where_13 (by decide) ?_
    refine sp_cS (M1 := M) (r := some (.int (fX10_isWithin a2 0 60))) (st := []) [.int a2, .int 0, .int 60] [.int 60, .int 0, .int a2] [.int (fX10_isWithin a2 0 60)] dX10_where_15 okX10_isWithin tw_471 tw_472 (by decide) (by decide) rfl (Nat.le_of_ble_eq_true rfl) rfl rfl (fun Q hQ => tX10_isWithin hG rfl hQ) ?_
    refine sp_if_ne (tgt := 24) dX10_where_18 (by decide) (fun hc2 => ?_) (fun hc2 => ?_)
    · have h := (if_neg hc2).symm.trans h
      refine sp_aload_n dX10_where_24 rfl rfl ?_
      refine sp_getR (RX10, TX10, 16) dX10_where_25 clX10 (j := 7) (by decide) tw_422 (wsI_0 hs) (Or.inl ⟨_, rfl⟩) (wsP_0_7 hs) ?_
      refine sp_aload_n dX10_where_28 rfl rfl ?_
      refine sp_getR (RX10, TX10, 16) dX10_where_29 clX10 (j := 3) (by decide) tw_418 (wsI_0 hs) (Or.inl ⟨_, rfl⟩) (wsP_0_3 hs) ?_
      refine sp_iload_n dX10_where_32 rfl rfl ?_
      refine sp_iload_n dX10_where_33 rfl rfl ?_
      obtain ⟨x3, hx3, h⟩ := Option.bind_eq_some_iff.mp h
      refine sp_cV (M1 := x3.2) (r := some (.int x3.1)) (o := 77) (st := []) (c := 1) (RX1, TX1, 7) [.ref 6, .int a1, .int a2] [.int a2, .int a1, .ref 6, .ref 77] [.int x3.1] dX10_where_34 okX1_cellLater tw_990 tw_991 tw_992 (by decide) (by decide) rfl (Nat.le_of_ble_eq_true rfl) rfl rfl rfl rfl (wsI_77 hs) (fun Q hQ => tX1_cellLater hG room_6 hx3 hQ) ?_
      cases h
      exact sp_iret dX10_where_37 (ty := .int) rfl rfl (fun _ => hQ)
    · have h := (if_pos hc2).symm.trans h
      refine sp_bipush (v := (-100)) dX10_where_21 (by decide) ?_
      cases h
      exact sp_iret dX10_where_23 (ty := .int) rfl rfl (fun _ => hQ)
def fX10_first (F : Nat) (M : sp_Mem) (a1 : Int32) (a2 : Int32) : Option (Int32 × sp_Mem) :=
  if (fX10_isCell a1) = 0 then (some ((-1), M)) else (if (fX10_isWithin a2 0 1) = 0 then (some ((-1), M)) else ((fX1_firstOn F M 6 a1 a2).bind fun x3 => some (x3.1, x3.2)))
set_option maxRecDepth 100000 in
set_option maxHeartbeats 4000000 in
theorem tX10_first {g : sp_G} {Ω : sp_Mem → Prop} {Q : sp_Qt} {F : Nat} {p : (Int32 × sp_Mem)} (hG : sp_Ok Ω) {M : sp_Mem} {a1 : Int32} {a2 : Int32} (h : fX10_first F M a1 a2 = some p) (hQ : Q (some (.int p.1)) p.2) : sp_Mt g Ω mX10_first 0 0 [.ref 0, .int a1, .int a2] M Q := by
  unfold fX10_first at h
  refine sp_Mt.of [some (.ref 0), some (.int a1), some (.int a2)] (by decide) (by simp [sp_ent, Value.category]) rfl ?_
  refine sp_iload_n dX10_first_0 rfl rfl ?_
  refine sp_use (fun ho => ?_)
  have hs := hG.1 _ ho
  refine sp_cS (M1 := M) (r := some (.int (fX10_isCell a1))) (st := []) [.int a1] [.int a1] [.int (fX10_isCell a1)] dX10_first_1 okX10_isCell tw_468 tw_469 (by decide) (by decide) rfl (Nat.le_of_ble_eq_true rfl) rfl rfl (fun Q hQ => tX10_isCell hG rfl hQ) ?_
  refine sp_if_eq (tgt := 16) dX10_first_4 (by decide) (fun hc1 => ?_) (fun hc1 => ?_)
  · have h := (if_pos hc1).symm.trans h
    refine sp_iconst (v := (-1)) dX10_first_16 (by decide) ?_
    cases h
    exact sp_iret dX10_first_17 (ty := .int) rfl rfl (fun _ => hQ)
  · have h := (if_neg hc1).symm.trans h
    refine sp_iload_n dX10_first_7 rfl rfl ?_
    refine sp_iconst (v := 0) dX10_first_8 (by decide) ?_
    refine sp_iconst (v := 1) dX10_first_9 (by decide) ?_
    refine sp_cS (M1 := M) (r := some (.int (fX10_isWithin a2 0 1))) (st := []) [.int a2, .int 0, .int 1] [.int 1, .int 0, .int a2] [.int (fX10_isWithin a2 0 1)] dX10_first_10 okX10_isWithin tw_471 tw_472 (by decide) (by decide) rfl (Nat.le_of_ble_eq_true rfl) rfl rfl (fun Q hQ => tX10_isWithin hG rfl hQ) ?_
    refine sp_if_ne (tgt := 18) dX10_first_13 (by decide) (fun hc2 => ?_) (fun hc2 => ?_)
    · have h := (if_neg hc2).symm.trans h
      refine sp_aload_n dX10_first_18 rfl rfl ?_
      refine sp_getR (RX10, TX10, 16) dX10_first_19 clX10 (j := 7) (by decide) tw_422 (wsI_0 hs) (Or.inl ⟨_, rfl⟩) (wsP_0_7 hs) ?_
      refine sp_aload_n dX10_first_22 rfl rfl ?_
      refine sp_getR (RX10, TX10, 16) dX10_first_23 clX10 (j := 3) (by decide) tw_418 (wsI_0 hs) (Or.inl ⟨_, rfl⟩) (wsP_0_3 hs) ?_
      refine sp_iload_n dX10_first_26 rfl rfl ?_
      refine sp_iload_n dX10_first_27 rfl rfl ?_
      obtain ⟨x3, hx3, h⟩ := Option.bind_eq_some_iff.mp h
      refine sp_cV (M1 := x3.2) (r := some (.int x3.1)) (o := 77) (st := []) (c := 1) (RX1, TX1, 7) [.ref 6, .int a1, .int a2] [.int a2, .int a1, .ref 6, .ref 77] [.int x3.1] dX10_first_28 okX1_firstOn tw_1000 tw_1001 tw_1002 (by decide) (by decide) rfl (Nat.le_of_ble_eq_true rfl) rfl rfl rfl rfl (wsI_77 hs) (fun Q hQ => tX1_firstOn hG room_6 hx3 hQ) ?_
      cases h
      exact sp_iret dX10_first_31 (ty := .int) rfl rfl (fun _ => hQ)
    · have h := (if_pos hc2).symm.trans h
      refine sp_iconst (v := (-1)) dX10_first_16 (by decide) ?_
      cases h
      exact sp_iret dX10_first_17 (ty := .int) rfl rfl (fun _ => hQ)
def fX10_chain (F : Nat) (M : sp_Mem) (a1 : Int32) (a2 : Int32) : Option (Int32 × sp_Mem) :=
  (fX5_hasLoose M 6 a1).bind fun v1 => if v1 = 0 then (some ((-1), M)) else ((fX1_findChain F M 6 a1).bind fun x3 => if a2 = (-1) then (some (x3.1, x3.2)) else (if (fX10_isWithin a2 0 (x3.1 - 1)) = 0 then (some ((-1), x3.2)) else ((fX1_callerInChain F x3.2 6 a2).bind fun v6 => some (v6, x3.2))))
set_option maxRecDepth 100000 in
set_option maxHeartbeats 4000000 in
theorem tX10_chain {g : sp_G} {Ω : sp_Mem → Prop} {Q : sp_Qt} {F : Nat} {p : (Int32 × sp_Mem)} (hG : sp_Ok Ω) {M : sp_Mem} {a1 : Int32} {a2 : Int32} (h : fX10_chain F M a1 a2 = some p) (hQ : Q (some (.int p.1)) p.2) : sp_Mt g Ω mX10_chain 0 0 [.ref 0, .int a1, .int a2] M Q := by
  unfold fX10_chain at h
  refine sp_Mt.of [some (.ref 0), some (.int a1), some (.int a2), none] (by decide) (by simp [sp_ent, Value.category]) rfl ?_
  refine sp_aload_n dX10_chain_0 rfl rfl ?_
  refine sp_use (fun ho => ?_)
  have hs := hG.1 _ ho
  refine sp_getR (RX10, TX10, 16) dX10_chain_1 clX10 (j := 3) (by decide) tw_418 (wsI_0 hs) (Or.inl ⟨_, rfl⟩) (wsP_0_3 hs) ?_
  refine sp_iload_n dX10_chain_4 rfl rfl ?_
  obtain ⟨v1, hv1, h⟩ := Option.bind_eq_some_iff.mp h
  refine sp_cV (M1 := M) (r := some (.int v1)) (o := 6) (st := []) (c := 4) (RX5, TX5, 16) [.int a1] [.int a1, .ref 6] [.int v1] dX10_chain_5 okX5_hasLoose tw_582 tw_583 tw_584 (by decide) (by decide) rfl (Nat.le_of_ble_eq_true rfl) rfl rfl rfl rfl (wsI_6 hs) (fun Q hQ => tX5_hasLoose hG room_6 hv1 hQ) ?_
  refine sp_if_ne (tgt := 13) dX10_chain_8 (by decide) (fun hc2 => ?_) (fun hc2 => ?_)
  · have h := (if_neg hc2).symm.trans h
    refine sp_aload_n dX10_chain_13 rfl rfl ?_
    refine sp_getR (RX10, TX10, 16) dX10_chain_14 clX10 (j := 7) (by decide) tw_422 (wsI_0 hs) (Or.inl ⟨_, rfl⟩) (wsP_0_7 hs) ?_
    refine sp_aload_n dX10_chain_17 rfl rfl ?_
    refine sp_getR (RX10, TX10, 16) dX10_chain_18 clX10 (j := 3) (by decide) tw_418 (wsI_0 hs) (Or.inl ⟨_, rfl⟩) (wsP_0_3 hs) ?_
    refine sp_iload_n dX10_chain_21 rfl rfl ?_
    obtain ⟨x3, hx3, h⟩ := Option.bind_eq_some_iff.mp h
    refine sp_cV (M1 := x3.2) (r := some (.int x3.1)) (o := 77) (st := []) (c := 1) (RX1, TX1, 7) [.ref 6, .int a1] [.int a1, .ref 6, .ref 77] [.int x3.1] dX10_chain_22 okX1_findChain tw_1012 tw_1013 tw_1014 (by decide) (by decide) rfl (Nat.le_of_ble_eq_true rfl) rfl rfl rfl rfl (wsI_77 hs) (fun Q hQ => tX1_findChain hG room_6 hx3 hQ) ?_
    refine sp_istore_n [some (.ref 0), some (.int a1), some (.int a2), some (.int x3.1)] dX10_chain_25 rfl (by decide) rfl ?_
    refine sp_iload_n dX10_chain_26 rfl rfl ?_
    refine sp_iconst (v := (-1)) dX10_chain_27 (by decide) ?_
    refine sp_icmp_ne (tgt := 33) dX10_chain_28 (by decide) (fun hc4 => ?_) (fun hc4 => ?_)
    · have h := (if_neg hc4).symm.trans h
      refine sp_iload_n dX10_chain_33 rfl rfl ?_
      refine sp_iconst (v := 0) dX10_chain_34 (by decide) ?_
      refine sp_iload_n dX10_chain_35 rfl rfl ?_
      refine sp_iconst (v := 1) dX10_chain_36 (by decide) ?_
      refine sp_isub dX10_chain_37 ?_
      refine sp_use (fun ho => ?_)
      have hs := hG.1 _ ho
      refine sp_cS (M1 := x3.2) (r := some (.int (fX10_isWithin a2 0 (x3.1 - 1)))) (st := []) [.int a2, .int 0, .int (x3.1 - 1)] [.int (x3.1 - 1), .int 0, .int a2] [.int (fX10_isWithin a2 0 (x3.1 - 1))] dX10_chain_38 okX10_isWithin tw_471 tw_472 (by decide) (by decide) rfl (Nat.le_of_ble_eq_true rfl) rfl rfl (fun Q hQ => tX10_isWithin hG rfl hQ) ?_
      refine sp_if_eq (tgt := 59) dX10_chain_41 (by decide) (fun hc5 => ?_) (fun hc5 => ?_)
      · have h := (if_pos hc5).symm.trans h
        refine sp_iconst (v := (-1)) dX10_chain_59 (by decide) ?_
        cases h
        exact sp_iret dX10_chain_60 (ty := .int) rfl rfl (fun _ => hQ)
      · have h := (if_neg hc5).symm.trans h
        refine sp_aload_n dX10_chain_44 rfl rfl ?_
        refine sp_getR (RX10, TX10, 16) dX10_chain_45 clX10 (j := 7) (by decide) tw_422 (wsI_0 hs) (Or.inl ⟨_, rfl⟩) (wsP_0_7 hs) ?_
        refine sp_aload_n dX10_chain_48 rfl rfl ?_
        refine sp_getR (RX10, TX10, 16) dX10_chain_49 clX10 (j := 3) (by decide) tw_418 (wsI_0 hs) (Or.inl ⟨_, rfl⟩) (wsP_0_3 hs) ?_
        refine sp_iload_n dX10_chain_52 rfl rfl ?_
        obtain ⟨v6, hv6, h⟩ := Option.bind_eq_some_iff.mp h
        refine sp_cV (M1 := x3.2) (r := some (.int v6)) (o := 77) (st := []) (c := 1) (RX1, TX1, 7) [.ref 6, .int a2] [.int a2, .ref 6, .ref 77] [.int v6] dX10_chain_53 okX1_callerInChain tw_1021 tw_1022 tw_1023 (by decide) (by decide) rfl (Nat.le_of_ble_eq_true rfl) rfl rfl rfl rfl (wsI_77 hs) (fun Q hQ => tX1_callerInChain hG room_6 hv6 hQ) ?_
        refine sp_goto (tgt := 60) dX10_chain_56 (by decide) ?_
        cases h
        exact sp_iret dX10_chain_60 (ty := .int) rfl rfl (fun _ => hQ)
    · have h := (if_pos hc4).symm.trans h
      refine sp_iload_n dX10_chain_31 rfl rfl ?_
      cases h
      exact sp_iret dX10_chain_32 (ty := .int) rfl rfl (fun _ => hQ)
  · have h := (if_pos hc2).symm.trans h
    refine sp_iconst (v := (-1)) dX10_chain_11 (by decide) ?_
    cases h
    exact sp_iret dX10_chain_12 (ty := .int) rfl rfl (fun _ => hQ)
def fX10_answer (M : sp_Mem) (a1 : Int32) (a2 : Int32) : Option (Int32 × sp_Mem) :=
  if (fX10_isWithin a2 0 1) = 0 then ((fX10_refuse M (-1)).bind fun x8 => some (x8.1, x8.2)) else (if (fX5_hasPerson M 6 a1) = 0 then ((fX10_refuse M (-2)).bind fun x7 => some (x7.1, x7.2)) else (if (sp_I M 6 11) < 6 then ((fX5_addAnswer M 6 a1 a2).bind fun x4 => (fX10_grant x4.2 x4.1).bind fun x5 => some (x5.1, x5.2)) else ((fX10_refuse M (-5)).bind fun x6 => some (x6.1, x6.2))))
set_option maxRecDepth 100000 in
set_option maxHeartbeats 4000000 in
theorem tX10_answer {g : sp_G} {Ω : sp_Mem → Prop} {Q : sp_Qt} {p : (Int32 × sp_Mem)} (hG : sp_Ok Ω) {M : sp_Mem} {a1 : Int32} {a2 : Int32} (h : fX10_answer M a1 a2 = some p) (hQ : Q (some (.int p.1)) p.2) : sp_Mt g Ω mX10_answer 0 0 [.ref 0, .int a1, .int a2] M Q := by
  unfold fX10_answer at h
  refine sp_Mt.of [some (.ref 0), some (.int a1), some (.int a2)] (by decide) (by simp [sp_ent, Value.category]) rfl ?_
  refine sp_iload_n dX10_answer_0 rfl rfl ?_
  refine sp_iconst (v := 0) dX10_answer_1 (by decide) ?_
  refine sp_iconst (v := 1) dX10_answer_2 (by decide) ?_
  refine sp_use (fun ho => ?_)
  have hs := hG.1 _ ho
  refine sp_cS (M1 := M) (r := some (.int (fX10_isWithin a2 0 1))) (st := []) [.int a2, .int 0, .int 1] [.int 1, .int 0, .int a2] [.int (fX10_isWithin a2 0 1)] dX10_answer_3 okX10_isWithin tw_471 tw_472 (by decide) (by decide) rfl (Nat.le_of_ble_eq_true rfl) rfl rfl (fun Q hQ => tX10_isWithin hG rfl hQ) ?_
  refine sp_if_ne (tgt := 15) dX10_answer_6 (by decide) (fun hc1 => ?_) (fun hc1 => ?_)
  · have h := (if_neg hc1).symm.trans h
    refine sp_aload_n dX10_answer_15 rfl rfl ?_
    refine sp_getR (RX10, TX10, 16) dX10_answer_16 clX10 (j := 3) (by decide) tw_418 (wsI_0 hs) (Or.inl ⟨_, rfl⟩) (wsP_0_3 hs) ?_
    refine sp_iload_n dX10_answer_19 rfl rfl ?_
    refine sp_cV (M1 := M) (r := some (.int (fX5_hasPerson M 6 a1))) (o := 6) (st := []) (c := 4) (RX5, TX5, 16) [.int a1] [.int a1, .ref 6] [.int (fX5_hasPerson M 6 a1)] dX10_answer_20 okX5_hasPerson tw_570 tw_571 tw_572 (by decide) (by decide) rfl (Nat.le_of_ble_eq_true rfl) rfl rfl rfl rfl (wsI_6 hs) (fun Q hQ => tX5_hasPerson hG room_6 rfl hQ) ?_
    refine sp_if_ne (tgt := 33) dX10_answer_23 (by decide) (fun hc2 => ?_) (fun hc2 => ?_)
    · have h := (if_neg hc2).symm.trans h
      refine sp_aload_n dX10_answer_33 rfl rfl ?_
      refine sp_getR (RX10, TX10, 16) dX10_answer_34 clX10 (j := 3) (by decide) tw_418 (wsI_0 hs) (Or.inl ⟨_, rfl⟩) (wsP_0_3 hs) ?_
      refine sp_getI (RX5, TX5, 16) dX10_answer_37 clX5 (j := 11) (by decide) tw_209 (wsI_6 hs) (Or.inl rfl) ?_
      refine sp_bipush (v := 6) dX10_answer_40 (by decide) ?_
      refine sp_icmp_lt (tgt := 52) dX10_answer_42 (by decide) (fun hc3 => ?_) (fun hc3 => ?_)
      · have h := (if_pos hc3).symm.trans h
        refine sp_aload_n dX10_answer_52 rfl rfl ?_
        refine sp_aload_n dX10_answer_53 rfl rfl ?_
        refine sp_getR (RX10, TX10, 16) dX10_answer_54 clX10 (j := 3) (by decide) tw_418 (wsI_0 hs) (Or.inl ⟨_, rfl⟩) (wsP_0_3 hs) ?_
        refine sp_iload_n dX10_answer_57 rfl rfl ?_
        refine sp_iload_n dX10_answer_58 rfl rfl ?_
        obtain ⟨x4, hx4, h⟩ := Option.bind_eq_some_iff.mp h
        refine sp_cV (M1 := x4.2) (r := some (.int x4.1)) (o := 6) (st := [.ref 0]) (c := 4) (RX5, TX5, 16) [.int a1, .int a2] [.int a2, .int a1, .ref 6, .ref 0] [.int x4.1, .ref 0] dX10_answer_59 okX5_addAnswer tw_1029 tw_1030 tw_1031 (by decide) (by decide) rfl (Nat.le_of_ble_eq_true rfl) rfl rfl rfl rfl (wsI_6 hs) (fun Q hQ => tX5_addAnswer hG room_6 hx4 hQ) ?_
        refine sp_use (fun ho => ?_)
        have hs := hG.1 _ ho
        obtain ⟨x5, hx5, h⟩ := Option.bind_eq_some_iff.mp h
        refine sp_cV (M1 := x5.2) (r := some (.int x5.1)) (o := 0) (st := []) (c := 9) (RX10, TX10, 16) [.int x4.1] [.int x4.1, .ref 0] [.int x5.1] dX10_answer_62 okX10_grant tw_486 tw_488 tw_1 (by decide) (by decide) rfl (Nat.le_of_ble_eq_true rfl) rfl rfl rfl rfl (wsI_0 hs) (fun Q hQ => tX10_grant hG hx5 hQ) ?_
        cases h
        exact sp_iret dX10_answer_65 (ty := .int) rfl rfl (fun _ => hQ)
      · have h := (if_neg hc3).symm.trans h
        refine sp_aload_n dX10_answer_45 rfl rfl ?_
        refine sp_bipush (v := (-5)) dX10_answer_46 (by decide) ?_
        obtain ⟨x6, hx6, h⟩ := Option.bind_eq_some_iff.mp h
        refine sp_cV (M1 := x6.2) (r := some (.int x6.1)) (o := 0) (st := []) (c := 9) (RX10, TX10, 16) [.int (-5)] [.int (-5), .ref 0] [.int x6.1] dX10_answer_48 okX10_refuse tw_474 tw_476 tw_0 (by decide) (by decide) rfl (Nat.le_of_ble_eq_true rfl) rfl rfl rfl rfl (wsI_0 hs) (fun Q hQ => tX10_refuse hG hx6 hQ) ?_
        cases h
        exact sp_iret dX10_answer_51 (ty := .int) rfl rfl (fun _ => hQ)
    · have h := (if_pos hc2).symm.trans h
      refine sp_aload_n dX10_answer_26 rfl rfl ?_
      refine sp_bipush (v := (-2)) dX10_answer_27 (by decide) ?_
      obtain ⟨x7, hx7, h⟩ := Option.bind_eq_some_iff.mp h
      refine sp_cV (M1 := x7.2) (r := some (.int x7.1)) (o := 0) (st := []) (c := 9) (RX10, TX10, 16) [.int (-2)] [.int (-2), .ref 0] [.int x7.1] dX10_answer_29 okX10_refuse tw_474 tw_476 tw_0 (by decide) (by decide) rfl (Nat.le_of_ble_eq_true rfl) rfl rfl rfl rfl (wsI_0 hs) (fun Q hQ => tX10_refuse hG hx7 hQ) ?_
      cases h
      exact sp_iret dX10_answer_32 (ty := .int) rfl rfl (fun _ => hQ)
  · have h := (if_pos hc1).symm.trans h
    refine sp_aload_n dX10_answer_9 rfl rfl ?_
    refine sp_iconst (v := (-1)) dX10_answer_10 (by decide) ?_
    obtain ⟨x8, hx8, h⟩ := Option.bind_eq_some_iff.mp h
    refine sp_cV (M1 := x8.2) (r := some (.int x8.1)) (o := 0) (st := []) (c := 9) (RX10, TX10, 16) [.int (-1)] [.int (-1), .ref 0] [.int x8.1] dX10_answer_11 okX10_refuse tw_474 tw_476 tw_0 (by decide) (by decide) rfl (Nat.le_of_ble_eq_true rfl) rfl rfl rfl rfl (wsI_0 hs) (fun Q hQ => tX10_refuse hG hx8 hQ) ?_
    cases h
    exact sp_iret dX10_answer_14 (ty := .int) rfl rfl (fun _ => hQ)
def fX10_forget (M : sp_Mem) : Option (Int32 × sp_Mem) :=
  sp_do ((sp_I M 6 11)) fun u1 => sp_do (sp_setI M 6 11 0) fun M2 => some (u1, M2)
set_option maxRecDepth 100000 in
set_option maxHeartbeats 4000000 in
theorem tX10_forget {g : sp_G} {Ω : sp_Mem → Prop} {Q : sp_Qt} {p : (Int32 × sp_Mem)} (hG : sp_Ok Ω) {M : sp_Mem} (h : fX10_forget M = some p) (hQ : Q (some (.int p.1)) p.2) : sp_Mt g Ω mX10_forget 0 0 [.ref 0] M Q := by
  unfold fX10_forget at h
  refine sp_Mt.of [some (.ref 0), none] (by decide) (by simp [sp_ent, Value.category]) rfl ?_
  refine sp_aload_n dX10_forget_0 rfl rfl ?_
  refine sp_use (fun ho => ?_)
  have hs := hG.1 _ ho
  refine sp_getR (RX10, TX10, 16) dX10_forget_1 clX10 (j := 3) (by decide) tw_418 (wsI_0 hs) (Or.inl ⟨_, rfl⟩) (wsP_0_3 hs) ?_
  refine sp_getI (RX5, TX5, 16) dX10_forget_4 clX5 (j := 11) (by decide) tw_209 (wsI_6 hs) (Or.inl rfl) ?_
  obtain ⟨u1, hu1, h⟩ := sp_do_e h
  refine sp_topi hu1 ?_
  refine sp_istore_n [some (.ref 0), some (.int u1)] dX10_forget_7 rfl (by decide) rfl ?_
  refine sp_aload_n dX10_forget_8 rfl rfl ?_
  refine sp_getR (RX10, TX10, 16) dX10_forget_9 clX10 (j := 3) (by decide) tw_418 (wsI_0 hs) (Or.inl ⟨_, rfl⟩) (wsP_0_3 hs) ?_
  refine sp_iconst (v := 0) dX10_forget_12 (by decide) ?_
  obtain ⟨M2, hM2, h⟩ := sp_do_e h
  refine sp_putI2 (RX5, TX5, 16) hG dX10_forget_13 clX5 (j := 11) (by decide) tw_209 rfl (Or.inl rfl) (wsI_6 hs) hM2 ?_
  refine sp_iload_n dX10_forget_16 rfl rfl ?_
  cases h
  exact sp_iret dX10_forget_17 (ty := .int) rfl rfl (fun _ => hQ)
def fX10_which (F : Nat) (M0 : sp_Mem) : Option Int32 :=
  (fX4_possibleSparks F M0 6).bind fun v1 => some v1
set_option maxRecDepth 100000 in
set_option maxHeartbeats 4000000 in
theorem tX10_which {g : sp_G} {Ω : sp_Mem → Prop} {Q : sp_Qt} {F : Nat} {M0 : sp_Mem} {p : Int32} (hG : sp_Ok Ω) (h : fX10_which F M0 = some p) (hQ : Q (some (.int p)) M0) : sp_Mt g Ω mX10_which 0 0 [.ref 0] M0 Q := by
  unfold fX10_which at h
  refine sp_Mt.of [some (.ref 0)] (by decide) (by simp [sp_ent, Value.category]) rfl ?_
  refine sp_aload_n dX10_which_0 rfl rfl ?_
  refine sp_use (fun ho => ?_)
  have hs := hG.1 _ ho
  refine sp_getR (RX10, TX10, 16) dX10_which_1 clX10 (j := 3) (by decide) tw_418 (wsI_0 hs) (Or.inl ⟨_, rfl⟩) (wsP_0_3 hs) ?_
  obtain ⟨v1, hv1, h⟩ := Option.bind_eq_some_iff.mp h
  refine sp_cS (M1 := M0) (r := some (.int v1)) (st := []) [.ref 6] [.ref 6] [.int v1] dX10_which_4 okX4_possibleSparks tw_1041 tw_1042 (by decide) (by decide) rfl (Nat.le_of_ble_eq_true rfl) rfl rfl (fun Q hQ => tX4_possibleSparks hG room_6 hv1 hQ) ?_
  cases h
  exact sp_iret dX10_which_7 (ty := .int) rfl rfl (fun _ => hQ)
def fX10_let (F : Nat) (M0 : sp_Mem) (a1 : Int32) : Option Int32 :=
  if (fX10_isWithin a1 0 1) = 0 then (some (-1)) else ((fX4_nextCaller F M0 6 a1).bind fun v2 => some v2)
set_option maxRecDepth 100000 in
set_option maxHeartbeats 4000000 in
theorem tX10_let {g : sp_G} {Ω : sp_Mem → Prop} {Q : sp_Qt} {F : Nat} {M0 : sp_Mem} {p : Int32} (hG : sp_Ok Ω) {a1 : Int32} (h : fX10_let F M0 a1 = some p) (hQ : Q (some (.int p)) M0) : sp_Mt g Ω mX10_let 0 0 [.ref 0, .int a1] M0 Q := by
  unfold fX10_let at h
  refine sp_Mt.of [some (.ref 0), some (.int a1)] (by decide) (by simp [sp_ent, Value.category]) rfl ?_
  refine sp_iload_n dX10_let_0 rfl rfl ?_
  refine sp_iconst (v := 0) dX10_let_1 (by decide) ?_
  refine sp_iconst (v := 1) dX10_let_2 (by decide) ?_
  refine sp_use (fun ho => ?_)
  have hs := hG.1 _ ho
  refine sp_cS (M1 := M0) (r := some (.int (fX10_isWithin a1 0 1))) (st := []) [.int a1, .int 0, .int 1] [.int 1, .int 0, .int a1] [.int (fX10_isWithin a1 0 1)] dX10_let_3 okX10_isWithin tw_471 tw_472 (by decide) (by decide) rfl (Nat.le_of_ble_eq_true rfl) rfl rfl (fun Q hQ => tX10_isWithin hG rfl hQ) ?_
  refine sp_if_eq (tgt := 20) dX10_let_6 (by decide) (fun hc1 => ?_) (fun hc1 => ?_)
  · have h := (if_pos hc1).symm.trans h
    refine sp_iconst (v := (-1)) dX10_let_20 (by decide) ?_
    cases h
    exact sp_iret dX10_let_21 (ty := .int) rfl rfl (fun _ => hQ)
  · have h := (if_neg hc1).symm.trans h
    refine sp_aload_n dX10_let_9 rfl rfl ?_
    refine sp_getR (RX10, TX10, 16) dX10_let_10 clX10 (j := 3) (by decide) tw_418 (wsI_0 hs) (Or.inl ⟨_, rfl⟩) (wsP_0_3 hs) ?_
    refine sp_iload_n dX10_let_13 rfl rfl ?_
    obtain ⟨v2, hv2, h⟩ := Option.bind_eq_some_iff.mp h
    refine sp_cS (M1 := M0) (r := some (.int v2)) (st := []) [.ref 6, .int a1] [.int a1, .ref 6] [.int v2] dX10_let_14 okX4_nextCaller tw_1049 tw_1050 (by decide) (by decide) rfl (Nat.le_of_ble_eq_true rfl) rfl rfl (fun Q hQ => tX4_nextCaller hG room_6 hv2 hQ) ?_
    refine sp_goto (tgt := 21) dX10_let_17 (by decide) ?_
    cases h
    exact sp_iret dX10_let_21 (ty := .int) rfl rfl (fun _ => hQ)
def fX10_alike (F : Nat) (M0 : sp_Mem) (a1 : Int32) : Option Int32 :=
  if a1 < (-1) then (some (-1)) else ((fX4_alikeTwo F M0 6 a1).bind fun v2 => some v2)
set_option maxRecDepth 100000 in
set_option maxHeartbeats 4000000 in
theorem tX10_alike {g : sp_G} {Ω : sp_Mem → Prop} {Q : sp_Qt} {F : Nat} {M0 : sp_Mem} {p : Int32} (hG : sp_Ok Ω) {a1 : Int32} (h : fX10_alike F M0 a1 = some p) (hQ : Q (some (.int p)) M0) : sp_Mt g Ω mX10_alike 0 0 [.ref 0, .int a1] M0 Q := by
  unfold fX10_alike at h
  refine sp_Mt.of [some (.ref 0), some (.int a1)] (by decide) (by simp [sp_ent, Value.category]) rfl ?_
  refine sp_iload_n dX10_alike_0 rfl rfl ?_
  refine sp_iconst (v := (-1)) dX10_alike_1 (by decide) ?_
  refine sp_icmp_lt (tgt := 16) dX10_alike_2 (by decide) (fun hc1 => ?_) (fun hc1 => ?_)
  · have h := (if_pos hc1).symm.trans h
    refine sp_iconst (v := (-1)) dX10_alike_16 (by decide) ?_
    cases h
    exact sp_iret dX10_alike_17 (ty := .int) rfl rfl (fun _ => hQ)
  · have h := (if_neg hc1).symm.trans h
    refine sp_aload_n dX10_alike_5 rfl rfl ?_
    refine sp_use (fun ho => ?_)
    have hs := hG.1 _ ho
    refine sp_getR (RX10, TX10, 16) dX10_alike_6 clX10 (j := 3) (by decide) tw_418 (wsI_0 hs) (Or.inl ⟨_, rfl⟩) (wsP_0_3 hs) ?_
    refine sp_iload_n dX10_alike_9 rfl rfl ?_
    obtain ⟨v2, hv2, h⟩ := Option.bind_eq_some_iff.mp h
    refine sp_cS (M1 := M0) (r := some (.int v2)) (st := []) [.ref 6, .int a1] [.int a1, .ref 6] [.int v2] dX10_alike_10 okX4_alikeTwo tw_1064 tw_1065 (by decide) (by decide) rfl (Nat.le_of_ble_eq_true rfl) rfl rfl (fun Q hQ => tX4_alikeTwo hG room_6 hv2 hQ) ?_
    refine sp_goto (tgt := 17) dX10_alike_13 (by decide) ?_
    cases h
    exact sp_iret dX10_alike_17 (ty := .int) rfl rfl (fun _ => hQ)
def fX10_numberOrBits (a0 : Int32) (a1 : Int32) : Int32 :=
  if a1 = 0 then ((fJ6_bitCount_0f7a4 a0)) else (a0)
set_option maxRecDepth 100000 in
set_option maxHeartbeats 4000000 in
theorem tX10_numberOrBits {g : sp_G} {Ω : sp_Mem → Prop} {Q : sp_Qt} {M0 : sp_Mem} {p : Int32} (hG : sp_Ok Ω) {a0 : Int32} {a1 : Int32} (h : fX10_numberOrBits a0 a1 = p) (hQ : Q (some (.int p)) M0) : sp_Mt g Ω mX10_numberOrBits 0 0 [.int a0, .int a1] M0 Q := by
  unfold fX10_numberOrBits at h
  refine sp_Mt.of [some (.int a0), some (.int a1)] (by decide) (by simp [sp_ent, Value.category]) rfl ?_
  refine sp_iload_n dX10_numberOrBits_0 rfl rfl ?_
  refine sp_if_ne (tgt := 11) dX10_numberOrBits_1 (by decide) (fun hc1 => ?_) (fun hc1 => ?_)
  · have h := (if_neg hc1).symm.trans h
    refine sp_iload_n dX10_numberOrBits_11 rfl rfl ?_
    cases h
    exact sp_iret dX10_numberOrBits_12 (ty := .int) rfl rfl (fun _ => hQ)
  · have h := (if_pos hc1).symm.trans h
    refine sp_iload_n dX10_numberOrBits_4 rfl rfl ?_
    refine sp_use (fun ho => ?_)
    have hs := hG.1 _ ho
    refine sp_cS (M1 := M0) (r := some (.int (fJ6_bitCount_0f7a4 a0))) (st := []) [.int a0] [.int a0] [.int (fJ6_bitCount_0f7a4 a0)] dX10_numberOrBits_5 okJ6_bitCount_0f7a4 tw_1083 tw_1054 (by decide) (by decide) rfl (Nat.le_of_ble_eq_true rfl) rfl rfl (fun Q hQ => tJ6_bitCount_0f7a4 hG rfl hQ) ?_
    refine sp_goto (tgt := 12) dX10_numberOrBits_8 (by decide) ?_
    cases h
    exact sp_iret dX10_numberOrBits_12 (ty := .int) rfl rfl (fun _ => hQ)
def fX10_anew (F : Nat) (M0 : sp_Mem) (a1 : Int32) : Option Int32 :=
  if (fX10_isWithin a1 0 1) = 0 then (some (-1)) else ((fX4_namedAnew F M0 6).bind fun v2 => some (fX10_numberOrBits v2 a1))
set_option maxRecDepth 100000 in
set_option maxHeartbeats 4000000 in
theorem tX10_anew {g : sp_G} {Ω : sp_Mem → Prop} {Q : sp_Qt} {F : Nat} {M0 : sp_Mem} {p : Int32} (hG : sp_Ok Ω) {a1 : Int32} (h : fX10_anew F M0 a1 = some p) (hQ : Q (some (.int p)) M0) : sp_Mt g Ω mX10_anew 0 0 [.ref 0, .int a1] M0 Q := by
  unfold fX10_anew at h
  refine sp_Mt.of [some (.ref 0), some (.int a1)] (by decide) (by simp [sp_ent, Value.category]) rfl ?_
  refine sp_iload_n dX10_anew_0 rfl rfl ?_
  refine sp_iconst (v := 0) dX10_anew_1 (by decide) ?_
  refine sp_iconst (v := 1) dX10_anew_2 (by decide) ?_
  refine sp_use (fun ho => ?_)
  have hs := hG.1 _ ho
  refine sp_cS (M1 := M0) (r := some (.int (fX10_isWithin a1 0 1))) (st := []) [.int a1, .int 0, .int 1] [.int 1, .int 0, .int a1] [.int (fX10_isWithin a1 0 1)] dX10_anew_3 okX10_isWithin tw_471 tw_472 (by decide) (by decide) rfl (Nat.le_of_ble_eq_true rfl) rfl rfl (fun Q hQ => tX10_isWithin hG rfl hQ) ?_
  refine sp_if_eq (tgt := 23) dX10_anew_6 (by decide) (fun hc1 => ?_) (fun hc1 => ?_)
  · have h := (if_pos hc1).symm.trans h
    refine sp_iconst (v := (-1)) dX10_anew_23 (by decide) ?_
    cases h
    exact sp_iret dX10_anew_24 (ty := .int) rfl rfl (fun _ => hQ)
  · have h := (if_neg hc1).symm.trans h
    refine sp_aload_n dX10_anew_9 rfl rfl ?_
    refine sp_getR (RX10, TX10, 16) dX10_anew_10 clX10 (j := 3) (by decide) tw_418 (wsI_0 hs) (Or.inl ⟨_, rfl⟩) (wsP_0_3 hs) ?_
    obtain ⟨v2, hv2, h⟩ := Option.bind_eq_some_iff.mp h
    refine sp_cS (M1 := M0) (r := some (.int v2)) (st := []) [.ref 6] [.ref 6] [.int v2] dX10_anew_13 okX4_namedAnew tw_1074 tw_1075 (by decide) (by decide) rfl (Nat.le_of_ble_eq_true rfl) rfl rfl (fun Q hQ => tX4_namedAnew hG room_6 hv2 hQ) ?_
    refine sp_iload_n dX10_anew_16 rfl rfl ?_
    refine sp_cS (M1 := M0) (r := some (.int (fX10_numberOrBits v2 a1))) (st := []) [.int v2, .int a1] [.int a1, .int v2] [.int (fX10_numberOrBits v2 a1)] dX10_anew_17 okX10_numberOrBits tw_1080 tw_1081 (by decide) (by decide) rfl (Nat.le_of_ble_eq_true rfl) rfl rfl (fun Q hQ => tX10_numberOrBits hG rfl hQ) ?_
    refine sp_goto (tgt := 24) dX10_anew_20 (by decide) ?_
    cases h
    exact sp_iret dX10_anew_24 (ty := .int) rfl rfl (fun _ => hQ)
def fX10_guard (F : Nat) (M0 : sp_Mem) (a1 : Int32) (a2 : Int32) : Option Int32 :=
  if (fX10_isWithin a1 0 4) = 0 then (some (-1)) else (if (fX10_isWithin a2 0 1) = 0 then (some (-1)) else ((fX4_guards F M0 6 a1).bind fun v3 => if v3 = (-1) then (some (-1)) else (some (fX10_numberOrBits v3 a2))))
set_option maxRecDepth 100000 in
set_option maxHeartbeats 4000000 in
theorem tX10_guard {g : sp_G} {Ω : sp_Mem → Prop} {Q : sp_Qt} {F : Nat} {M0 : sp_Mem} {p : Int32} (hG : sp_Ok Ω) {a1 : Int32} {a2 : Int32} (h : fX10_guard F M0 a1 a2 = some p) (hQ : Q (some (.int p)) M0) : sp_Mt g Ω mX10_guard 0 0 [.ref 0, .int a1, .int a2] M0 Q := by
  unfold fX10_guard at h
  refine sp_Mt.of [some (.ref 0), some (.int a1), some (.int a2), none] (by decide) (by simp [sp_ent, Value.category]) rfl ?_
  refine sp_iload_n dX10_guard_0 rfl rfl ?_
  refine sp_iconst (v := 0) dX10_guard_1 (by decide) ?_
  refine sp_iconst (v := 4) dX10_guard_2 (by decide) ?_
  refine sp_use (fun ho => ?_)
  have hs := hG.1 _ ho
  refine sp_cS (M1 := M0) (r := some (.int (fX10_isWithin a1 0 4))) (st := []) [.int a1, .int 0, .int 4] [.int 4, .int 0, .int a1] [.int (fX10_isWithin a1 0 4)] dX10_guard_3 okX10_isWithin tw_471 tw_472 (by decide) (by decide) rfl (Nat.le_of_ble_eq_true rfl) rfl rfl (fun Q hQ => tX10_isWithin hG rfl hQ) ?_
  refine sp_if_eq (tgt := 18) dX10_guard_6 (by decide) (fun hc1 => ?_) (fun hc1 => ?_)
  · have h := (if_pos hc1).symm.trans h
    refine sp_iconst (v := (-1)) dX10_guard_18 (by decide) ?_
    cases h
    exact sp_iret dX10_guard_19 (ty := .int) rfl rfl (fun _ => hQ)
  · have h := (if_neg hc1).symm.trans h
    refine sp_iload_n dX10_guard_9 rfl rfl ?_
    refine sp_iconst (v := 0) dX10_guard_10 (by decide) ?_
    refine sp_iconst (v := 1) dX10_guard_11 (by decide) ?_
    refine sp_cS (M1 := M0) (r := some (.int (fX10_isWithin a2 0 1))) (st := []) [.int a2, .int 0, .int 1] [.int 1, .int 0, .int a2] [.int (fX10_isWithin a2 0 1)] dX10_guard_12 okX10_isWithin tw_471 tw_472 (by decide) (by decide) rfl (Nat.le_of_ble_eq_true rfl) rfl rfl (fun Q hQ => tX10_isWithin hG rfl hQ) ?_
    refine sp_if_ne (tgt := 20) dX10_guard_15 (by decide) (fun hc2 => ?_) (fun hc2 => ?_)
    · have h := (if_neg hc2).symm.trans h
      refine sp_aload_n dX10_guard_20 rfl rfl ?_
      refine sp_getR (RX10, TX10, 16) dX10_guard_21 clX10 (j := 3) (by decide) tw_418 (wsI_0 hs) (Or.inl ⟨_, rfl⟩) (wsP_0_3 hs) ?_
      refine sp_iload_n dX10_guard_24 rfl rfl ?_
      obtain ⟨v3, hv3, h⟩ := Option.bind_eq_some_iff.mp h
      refine sp_cS (M1 := M0) (r := some (.int v3)) (st := []) [.ref 6, .int a1] [.int a1, .ref 6] [.int v3] dX10_guard_25 okX4_guards tw_1088 tw_1089 (by decide) (by decide) rfl (Nat.le_of_ble_eq_true rfl) rfl rfl (fun Q hQ => tX4_guards hG room_6 hv3 hQ) ?_
      refine sp_istore_n [some (.ref 0), some (.int a1), some (.int a2), some (.int v3)] dX10_guard_28 rfl (by decide) rfl ?_
      refine sp_iload_n dX10_guard_29 rfl rfl ?_
      refine sp_iconst (v := (-1)) dX10_guard_30 (by decide) ?_
      refine sp_icmp_ne (tgt := 38) dX10_guard_31 (by decide) (fun hc4 => ?_) (fun hc4 => ?_)
      · have h := (if_neg hc4).symm.trans h
        refine sp_iload_n dX10_guard_38 rfl rfl ?_
        refine sp_iload_n dX10_guard_39 rfl rfl ?_
        refine sp_cS (M1 := M0) (r := some (.int (fX10_numberOrBits v3 a2))) (st := []) [.int v3, .int a2] [.int a2, .int v3] [.int (fX10_numberOrBits v3 a2)] dX10_guard_40 okX10_numberOrBits tw_1080 tw_1081 (by decide) (by decide) rfl (Nat.le_of_ble_eq_true rfl) rfl rfl (fun Q hQ => tX10_numberOrBits hG rfl hQ) ?_
        cases h
        exact sp_iret dX10_guard_43 (ty := .int) rfl rfl (fun _ => hQ)
      · have h := (if_pos hc4).symm.trans h
        refine sp_iconst (v := (-1)) dX10_guard_34 (by decide) ?_
        refine sp_goto (tgt := 43) dX10_guard_35 (by decide) ?_
        cases h
        exact sp_iret dX10_guard_43 (ty := .int) rfl rfl (fun _ => hQ)
    · have h := (if_pos hc2).symm.trans h
      refine sp_iconst (v := (-1)) dX10_guard_18 (by decide) ?_
      cases h
      exact sp_iret dX10_guard_19 (ty := .int) rfl rfl (fun _ => hQ)
def fX10_lessons (F : Nat) (M0 : sp_Mem) (a1 : Int32) : Option Int32 :=
  if (fX10_isWithin a1 0 (sp_I M0 6 8)) = 0 then (some (-1)) else ((fX4_lessonsNeeded F M0 6 a1).bind fun v2 => some v2)
set_option maxRecDepth 100000 in
set_option maxHeartbeats 4000000 in
theorem tX10_lessons {g : sp_G} {Ω : sp_Mem → Prop} {Q : sp_Qt} {F : Nat} {M0 : sp_Mem} {p : Int32} (hG : sp_Ok Ω) {a1 : Int32} (h : fX10_lessons F M0 a1 = some p) (hQ : Q (some (.int p)) M0) : sp_Mt g Ω mX10_lessons 0 0 [.ref 0, .int a1] M0 Q := by
  unfold fX10_lessons at h
  refine sp_Mt.of [some (.ref 0), some (.int a1)] (by decide) (by simp [sp_ent, Value.category]) rfl ?_
  refine sp_iload_n dX10_lessons_0 rfl rfl ?_
  refine sp_iconst (v := 0) dX10_lessons_1 (by decide) ?_
  refine sp_aload_n dX10_lessons_2 rfl rfl ?_
  refine sp_use (fun ho => ?_)
  have hs := hG.1 _ ho
  refine sp_getR (RX10, TX10, 16) dX10_lessons_3 clX10 (j := 3) (by decide) tw_418 (wsI_0 hs) (Or.inl ⟨_, rfl⟩) (wsP_0_3 hs) ?_
  refine sp_getI (RX5, TX5, 16) dX10_lessons_6 clX5 (j := 8) (by decide) tw_201 (wsI_6 hs) (Or.inl rfl) ?_
  refine sp_cS (M1 := M0) (r := some (.int (fX10_isWithin a1 0 (sp_I M0 6 8)))) (st := []) [.int a1, .int 0, .int (sp_I M0 6 8)] [.int (sp_I M0 6 8), .int 0, .int a1] [.int (fX10_isWithin a1 0 (sp_I M0 6 8))] dX10_lessons_9 okX10_isWithin tw_471 tw_472 (by decide) (by decide) rfl (Nat.le_of_ble_eq_true rfl) rfl rfl (fun Q hQ => tX10_isWithin hG rfl hQ) ?_
  refine sp_if_eq (tgt := 26) dX10_lessons_12 (by decide) (fun hc1 => ?_) (fun hc1 => ?_)
  · have h := (if_pos hc1).symm.trans h
    refine sp_iconst (v := (-1)) dX10_lessons_26 (by decide) ?_
    cases h
    exact sp_iret dX10_lessons_27 (ty := .int) rfl rfl (fun _ => hQ)
  · have h := (if_neg hc1).symm.trans h
    refine sp_aload_n dX10_lessons_15 rfl rfl ?_
    refine sp_getR (RX10, TX10, 16) dX10_lessons_16 clX10 (j := 3) (by decide) tw_418 (wsI_0 hs) (Or.inl ⟨_, rfl⟩) (wsP_0_3 hs) ?_
    refine sp_iload_n dX10_lessons_19 rfl rfl ?_
    obtain ⟨v2, hv2, h⟩ := Option.bind_eq_some_iff.mp h
    refine sp_cS (M1 := M0) (r := some (.int v2)) (st := []) [.ref 6, .int a1] [.int a1, .ref 6] [.int v2] dX10_lessons_20 okX4_lessonsNeeded tw_1099 tw_1100 (by decide) (by decide) rfl (Nat.le_of_ble_eq_true rfl) rfl rfl (fun Q hQ => tX4_lessonsNeeded hG room_6 hv2 hQ) ?_
    refine sp_goto (tgt := 27) dX10_lessons_23 (by decide) ?_
    cases h
    exact sp_iret dX10_lessons_27 (ty := .int) rfl rfl (fun _ => hQ)
def fX10_drift (F : Nat) (M : sp_Mem) (a1 : Int32) (a2 : Int32) (a3 : Int32) : Option (Int64 × sp_Mem) :=
  (fX5_hasLoose M 6 a1).bind fun v1 => if v1 = 0 then (some ((-1), M)) else (if (fX10_isWithin a2 0 60) = 0 then (some ((-1), M)) else (if (fX10_isCell a3) = 0 then (some ((-1), M)) else ((fX1_driftFor F M 6 a1 a2).bind fun M5 => (fX1_driftedTo M5 a3).bind fun v6 => some (v6, M5))))
set_option maxRecDepth 100000 in
set_option maxHeartbeats 4000000 in
theorem tX10_drift {g : sp_G} {Ω : sp_Mem → Prop} {Q : sp_Qt} {F : Nat} {p : (Int64 × sp_Mem)} (hG : sp_Ok Ω) {M : sp_Mem} {a1 : Int32} {a2 : Int32} {a3 : Int32} (h : fX10_drift F M a1 a2 a3 = some p) (hQ : Q (some (.long p.1)) p.2) : sp_Mt g Ω mX10_drift 0 0 [.ref 0, .int a1, .int a2, .int a3] M Q := by
  unfold fX10_drift at h
  refine sp_Mt.of [some (.ref 0), some (.int a1), some (.int a2), some (.int a3)] (by decide) (by simp [sp_ent, Value.category]) rfl ?_
  refine sp_aload_n dX10_drift_0 rfl rfl ?_
  refine sp_use (fun ho => ?_)
  have hs := hG.1 _ ho
  refine sp_getR (RX10, TX10, 16) dX10_drift_1 clX10 (j := 3) (by decide) tw_418 (wsI_0 hs) (Or.inl ⟨_, rfl⟩) (wsP_0_3 hs) ?_
  refine sp_iload_n dX10_drift_4 rfl rfl ?_
  obtain ⟨v1, hv1, h⟩ := Option.bind_eq_some_iff.mp h
  refine sp_cV (M1 := M) (r := some (.int v1)) (o := 6) (st := []) (c := 4) (RX5, TX5, 16) [.int a1] [.int a1, .ref 6] [.int v1] dX10_drift_5 okX5_hasLoose tw_582 tw_583 tw_584 (by decide) (by decide) rfl (Nat.le_of_ble_eq_true rfl) rfl rfl rfl rfl (wsI_6 hs) (fun Q hQ => tX5_hasLoose hG room_6 hv1 hQ) ?_
  refine sp_if_eq (tgt := 28) dX10_drift_8 (by decide) (fun hc2 => ?_) (fun hc2 => ?_)
  · have h := (if_pos hc2).symm.trans h
    refine sp_ldc2 (v := (-1)) dX10_drift_28 tw_1106 ?_
    cases h
    exact sp_lret dX10_drift_31 rfl (fun _ => hQ)
  · have h := (if_neg hc2).symm.trans h
    refine sp_iload_n dX10_drift_11 rfl rfl ?_
    refine sp_iconst (v := 0) dX10_drift_12 (by decide) ?_
    refine sp_bipush (v := 60) dX10_drift_13 (by decide) ?_
    refine sp_cS (M1 := M) (r := some (.int (fX10_isWithin a2 0 60))) (st := []) [.int a2, .int 0, .int 60] [.int 60, .int 0, .int a2] [.int (fX10_isWithin a2 0 60)] dX10_drift_15 okX10_isWithin tw_471 tw_472 (by decide) (by decide) rfl (Nat.le_of_ble_eq_true rfl) rfl rfl (fun Q hQ => tX10_isWithin hG rfl hQ) ?_
    refine sp_if_eq (tgt := 28) dX10_drift_18 (by decide) (fun hc3 => ?_) (fun hc3 => ?_)
    · have h := (if_pos hc3).symm.trans h
      refine sp_ldc2 (v := (-1)) dX10_drift_28 tw_1106 ?_
      cases h
      exact sp_lret dX10_drift_31 rfl (fun _ => hQ)
    · have h := (if_neg hc3).symm.trans h
      refine sp_iload_n dX10_drift_21 rfl rfl ?_
      refine sp_cS (M1 := M) (r := some (.int (fX10_isCell a3))) (st := []) [.int a3] [.int a3] [.int (fX10_isCell a3)] dX10_drift_22 okX10_isCell tw_468 tw_469 (by decide) (by decide) rfl (Nat.le_of_ble_eq_true rfl) rfl rfl (fun Q hQ => tX10_isCell hG rfl hQ) ?_
      refine sp_if_ne (tgt := 32) dX10_drift_25 (by decide) (fun hc4 => ?_) (fun hc4 => ?_)
      · have h := (if_neg hc4).symm.trans h
        refine sp_aload_n dX10_drift_32 rfl rfl ?_
        refine sp_getR (RX10, TX10, 16) dX10_drift_33 clX10 (j := 7) (by decide) tw_422 (wsI_0 hs) (Or.inl ⟨_, rfl⟩) (wsP_0_7 hs) ?_
        refine sp_aload_n dX10_drift_36 rfl rfl ?_
        refine sp_getR (RX10, TX10, 16) dX10_drift_37 clX10 (j := 3) (by decide) tw_418 (wsI_0 hs) (Or.inl ⟨_, rfl⟩) (wsP_0_3 hs) ?_
        refine sp_iload_n dX10_drift_40 rfl rfl ?_
        refine sp_iload_n dX10_drift_41 rfl rfl ?_
        obtain ⟨M5, hM5, h⟩ := Option.bind_eq_some_iff.mp h
        refine sp_cV (M1 := M5) (r := none) (o := 77) (st := []) (c := 1) (RX1, TX1, 7) [.ref 6, .int a1, .int a2] [.int a2, .int a1, .ref 6, .ref 77] [] dX10_drift_42 okX1_driftFor tw_1107 tw_1108 tw_1109 (by decide) (by decide) rfl (Nat.le_of_ble_eq_true rfl) rfl rfl rfl rfl (wsI_77 hs) (fun Q hQ => tX1_driftFor hG room_6 hM5 hQ) ?_
        refine sp_aload_n dX10_drift_45 rfl rfl ?_
        refine sp_use (fun ho => ?_)
        have hs := hG.1 _ ho
        refine sp_getR (RX10, TX10, 16) dX10_drift_46 clX10 (j := 7) (by decide) tw_422 (wsI_0 hs) (Or.inl ⟨_, rfl⟩) (wsP_0_7 hs) ?_
        refine sp_iload_n dX10_drift_49 rfl rfl ?_
        obtain ⟨v6, hv6, h⟩ := Option.bind_eq_some_iff.mp h
        refine sp_cV (M1 := M5) (r := some (.long v6)) (o := 77) (st := []) (c := 1) (RX1, TX1, 7) [.int a3] [.int a3, .ref 77] [.long v6] dX10_drift_50 okX1_driftedTo tw_1122 tw_1123 tw_1124 (by decide) (by decide) rfl (Nat.le_of_ble_eq_true rfl) rfl rfl rfl rfl (wsI_77 hs) (fun Q hQ => tX1_driftedTo hG hv6 hQ) ?_
        cases h
        exact sp_lret dX10_drift_53 rfl (fun _ => hQ)
      · have h := (if_pos hc4).symm.trans h
        refine sp_ldc2 (v := (-1)) dX10_drift_28 tw_1106 ?_
        cases h
        exact sp_lret dX10_drift_31 rfl (fun _ => hQ)
def fX10_sodden (F : Nat) (M : sp_Mem) (a1 : Int32) (a2 : Int32) : Option (Int32 × sp_Mem) :=
  (fX5_hasLoose M 6 a1).bind fun v1 => if v1 = 0 then (some ((-1), M)) else (if (fX10_isWithin a2 0 60) = 0 then (some ((-1), M)) else ((fX1_driftFor F M 6 a1 a2).bind fun M4 => (fX1_likeliestCell F M4).bind fun v5 => some (v5, M4)))
set_option maxRecDepth 100000 in
set_option maxHeartbeats 4000000 in
theorem tX10_sodden {g : sp_G} {Ω : sp_Mem → Prop} {Q : sp_Qt} {F : Nat} {p : (Int32 × sp_Mem)} (hG : sp_Ok Ω) {M : sp_Mem} {a1 : Int32} {a2 : Int32} (h : fX10_sodden F M a1 a2 = some p) (hQ : Q (some (.int p.1)) p.2) : sp_Mt g Ω mX10_sodden 0 0 [.ref 0, .int a1, .int a2] M Q := by
  unfold fX10_sodden at h
  refine sp_Mt.of [some (.ref 0), some (.int a1), some (.int a2)] (by decide) (by simp [sp_ent, Value.category]) rfl ?_
  refine sp_aload_n dX10_sodden_0 rfl rfl ?_
  refine sp_use (fun ho => ?_)
  have hs := hG.1 _ ho
  refine sp_getR (RX10, TX10, 16) dX10_sodden_1 clX10 (j := 3) (by decide) tw_418 (wsI_0 hs) (Or.inl ⟨_, rfl⟩) (wsP_0_3 hs) ?_
  refine sp_iload_n dX10_sodden_4 rfl rfl ?_
  obtain ⟨v1, hv1, h⟩ := Option.bind_eq_some_iff.mp h
  refine sp_cV (M1 := M) (r := some (.int v1)) (o := 6) (st := []) (c := 4) (RX5, TX5, 16) [.int a1] [.int a1, .ref 6] [.int v1] dX10_sodden_5 okX5_hasLoose tw_582 tw_583 tw_584 (by decide) (by decide) rfl (Nat.le_of_ble_eq_true rfl) rfl rfl rfl rfl (wsI_6 hs) (fun Q hQ => tX5_hasLoose hG room_6 hv1 hQ) ?_
  refine sp_if_eq (tgt := 21) dX10_sodden_8 (by decide) (fun hc2 => ?_) (fun hc2 => ?_)
  · have h := (if_pos hc2).symm.trans h
    refine sp_iconst (v := (-1)) dX10_sodden_21 (by decide) ?_
    cases h
    exact sp_iret dX10_sodden_22 (ty := .int) rfl rfl (fun _ => hQ)
  · have h := (if_neg hc2).symm.trans h
    refine sp_iload_n dX10_sodden_11 rfl rfl ?_
    refine sp_iconst (v := 0) dX10_sodden_12 (by decide) ?_
    refine sp_bipush (v := 60) dX10_sodden_13 (by decide) ?_
    refine sp_cS (M1 := M) (r := some (.int (fX10_isWithin a2 0 60))) (st := []) [.int a2, .int 0, .int 60] [.int 60, .int 0, .int a2] [.int (fX10_isWithin a2 0 60)] dX10_sodden_15 okX10_isWithin tw_471 tw_472 (by decide) (by decide) rfl (Nat.le_of_ble_eq_true rfl) rfl rfl (fun Q hQ => tX10_isWithin hG rfl hQ) ?_
    refine sp_if_ne (tgt := 23) dX10_sodden_18 (by decide) (fun hc3 => ?_) (fun hc3 => ?_)
    · have h := (if_neg hc3).symm.trans h
      refine sp_aload_n dX10_sodden_23 rfl rfl ?_
      refine sp_getR (RX10, TX10, 16) dX10_sodden_24 clX10 (j := 7) (by decide) tw_422 (wsI_0 hs) (Or.inl ⟨_, rfl⟩) (wsP_0_7 hs) ?_
      refine sp_aload_n dX10_sodden_27 rfl rfl ?_
      refine sp_getR (RX10, TX10, 16) dX10_sodden_28 clX10 (j := 3) (by decide) tw_418 (wsI_0 hs) (Or.inl ⟨_, rfl⟩) (wsP_0_3 hs) ?_
      refine sp_iload_n dX10_sodden_31 rfl rfl ?_
      refine sp_iload_n dX10_sodden_32 rfl rfl ?_
      obtain ⟨M4, hM4, h⟩ := Option.bind_eq_some_iff.mp h
      refine sp_cV (M1 := M4) (r := none) (o := 77) (st := []) (c := 1) (RX1, TX1, 7) [.ref 6, .int a1, .int a2] [.int a2, .int a1, .ref 6, .ref 77] [] dX10_sodden_33 okX1_driftFor tw_1107 tw_1108 tw_1109 (by decide) (by decide) rfl (Nat.le_of_ble_eq_true rfl) rfl rfl rfl rfl (wsI_77 hs) (fun Q hQ => tX1_driftFor hG room_6 hM4 hQ) ?_
      refine sp_aload_n dX10_sodden_36 rfl rfl ?_
      refine sp_use (fun ho => ?_)
      have hs := hG.1 _ ho
      refine sp_getR (RX10, TX10, 16) dX10_sodden_37 clX10 (j := 7) (by decide) tw_422 (wsI_0 hs) (Or.inl ⟨_, rfl⟩) (wsP_0_7 hs) ?_
      obtain ⟨v5, hv5, h⟩ := Option.bind_eq_some_iff.mp h
      refine sp_cV (M1 := M4) (r := some (.int v5)) (o := 77) (st := []) (c := 1) (RX1, TX1, 7) [] [.ref 77] [.int v5] dX10_sodden_40 okX1_likeliestCell tw_1131 tw_1132 tw_1133 (by decide) (by decide) rfl (Nat.le_of_ble_eq_true rfl) rfl rfl rfl rfl (wsI_77 hs) (fun Q hQ => tX1_likeliestCell hG hv5 hQ) ?_
      cases h
      exact sp_iret dX10_sodden_43 (ty := .int) rfl rfl (fun _ => hQ)
    · have h := (if_pos hc3).symm.trans h
      refine sp_iconst (v := (-1)) dX10_sodden_21 (by decide) ?_
      cases h
      exact sp_iret dX10_sodden_22 (ty := .int) rfl rfl (fun _ => hQ)
def fX10_hot_j16 (F : Nat) (a1 : Int32) (a2 : Int32) (M : sp_Mem) : Option (Int32 × sp_Mem) :=
  if (fX10_isWithin a2 0 60) = 0 then (some ((-1), M)) else ((fX1_heatLater F M 6 a1 a2).bind fun x3 => some (x3.1, x3.2))
def fX10_hot (F : Nat) (M : sp_Mem) (a1 : Int32) (a2 : Int32) : Option (Int32 × sp_Mem) :=
  if a1 = (-1) then (fX10_hot_j16 F a1 a2 M) else (if (fX5_hasLaw M 6 a1) = 0 then (some ((-1), M)) else (fX10_hot_j16 F a1 a2 M))
set_option maxRecDepth 100000 in
set_option maxHeartbeats 4000000 in
theorem tX10_hot_j16 {g : sp_G} {Ω : sp_Mem → Prop} {Q : sp_Qt} {F : Nat} {p : (Int32 × sp_Mem)} (hG : sp_Ok Ω)  (hQ : Q (some (.int p.1)) p.2) (a1 : Int32) (a2 : Int32) (M : sp_Mem) (h : fX10_hot_j16 F a1 a2 M = some p) : sp_Wp g Ω mX10_hot 0 0 16 [some (.ref 0), some (.int a1), some (.int a2)] [] M Q := by
  unfold fX10_hot_j16 at h
  refine sp_iload_n dX10_hot_16 rfl rfl ?_
  refine sp_iconst (v := 0) dX10_hot_17 (by decide) ?_
  refine sp_bipush (v := 60) dX10_hot_18 (by decide) ?_
  refine sp_use (fun ho => ?_)
  have hs := hG.1 _ ho
  refine sp_cS (M1 := M) (r := some (.int (fX10_isWithin a2 0 60))) (st := []) [.int a2, .int 0, .int 60] [.int 60, .int 0, .int a2] [.int (fX10_isWithin a2 0 60)] dX10_hot_20 okX10_isWithin tw_471 tw_472 (by decide) (by decide) rfl (Nat.le_of_ble_eq_true rfl) rfl rfl (fun Q hQ => tX10_isWithin hG rfl hQ) ?_
  refine sp_if_ne (tgt := 28) dX10_hot_23 (by decide) (fun hc2 => ?_) (fun hc2 => ?_)
  · have h := (if_neg hc2).symm.trans h
    refine sp_aload_n dX10_hot_28 rfl rfl ?_
    refine sp_getR (RX10, TX10, 16) dX10_hot_29 clX10 (j := 7) (by decide) tw_422 (wsI_0 hs) (Or.inl ⟨_, rfl⟩) (wsP_0_7 hs) ?_
    refine sp_aload_n dX10_hot_32 rfl rfl ?_
    refine sp_getR (RX10, TX10, 16) dX10_hot_33 clX10 (j := 3) (by decide) tw_418 (wsI_0 hs) (Or.inl ⟨_, rfl⟩) (wsP_0_3 hs) ?_
    refine sp_iload_n dX10_hot_36 rfl rfl ?_
    refine sp_iload_n dX10_hot_37 rfl rfl ?_
    obtain ⟨x3, hx3, h⟩ := Option.bind_eq_some_iff.mp h
    refine sp_cV (M1 := x3.2) (r := some (.int x3.1)) (o := 77) (st := []) (c := 1) (RX1, TX1, 7) [.ref 6, .int a1, .int a2] [.int a2, .int a1, .ref 6, .ref 77] [.int x3.1] dX10_hot_38 okX1_heatLater tw_1139 tw_1140 tw_1141 (by decide) (by decide) rfl (Nat.le_of_ble_eq_true rfl) rfl rfl rfl rfl (wsI_77 hs) (fun Q hQ => tX1_heatLater hG room_6 hx3 hQ) ?_
    cases h
    exact sp_iret dX10_hot_41 (ty := .int) rfl rfl (fun _ => hQ)
  · have h := (if_pos hc2).symm.trans h
    refine sp_iconst (v := (-1)) dX10_hot_26 (by decide) ?_
    cases h
    exact sp_iret dX10_hot_27 (ty := .int) rfl rfl (fun _ => hQ)
set_option maxRecDepth 100000 in
set_option maxHeartbeats 4000000 in
theorem tX10_hot {g : sp_G} {Ω : sp_Mem → Prop} {Q : sp_Qt} {F : Nat} {p : (Int32 × sp_Mem)} (hG : sp_Ok Ω) {M : sp_Mem} {a1 : Int32} {a2 : Int32} (h : fX10_hot F M a1 a2 = some p) (hQ : Q (some (.int p.1)) p.2) : sp_Mt g Ω mX10_hot 0 0 [.ref 0, .int a1, .int a2] M Q := by
  unfold fX10_hot at h
  refine sp_Mt.of [some (.ref 0), some (.int a1), some (.int a2)] (by decide) (by simp [sp_ent, Value.category]) rfl ?_
  refine sp_iload_n dX10_hot_0 rfl rfl ?_
  refine sp_iconst (v := (-1)) dX10_hot_1 (by decide) ?_
  refine sp_icmp_eq (tgt := 16) dX10_hot_2 (by decide) (fun hc1 => ?_) (fun hc1 => ?_)
  · have h := (if_pos hc1).symm.trans h
    refine sp_weak [true, true, true] [some (.ref 0), some (.int a1), some (.int a2)] rfl ?_
    exact tX10_hot_j16 hG hQ _ _ _ h
  · have h := (if_neg hc1).symm.trans h
    refine sp_aload_n dX10_hot_5 rfl rfl ?_
    refine sp_use (fun ho => ?_)
    have hs := hG.1 _ ho
    refine sp_getR (RX10, TX10, 16) dX10_hot_6 clX10 (j := 3) (by decide) tw_418 (wsI_0 hs) (Or.inl ⟨_, rfl⟩) (wsP_0_3 hs) ?_
    refine sp_iload_n dX10_hot_9 rfl rfl ?_
    refine sp_cV (M1 := M) (r := some (.int (fX5_hasLaw M 6 a1))) (o := 6) (st := []) (c := 4) (RX5, TX5, 16) [.int a1] [.int a1, .ref 6] [.int (fX5_hasLaw M 6 a1)] dX10_hot_10 okX5_hasLaw tw_952 tw_511 tw_512 (by decide) (by decide) rfl (Nat.le_of_ble_eq_true rfl) rfl rfl rfl rfl (wsI_6 hs) (fun Q hQ => tX5_hasLaw hG room_6 rfl hQ) ?_
    refine sp_if_eq (tgt := 26) dX10_hot_13 (by decide) (fun hc4 => ?_) (fun hc4 => ?_)
    · have h := (if_pos hc4).symm.trans h
      refine sp_iconst (v := (-1)) dX10_hot_26 (by decide) ?_
      cases h
      exact sp_iret dX10_hot_27 (ty := .int) rfl rfl (fun _ => hQ)
    · have h := (if_neg hc4).symm.trans h
      refine sp_weak [true, true, true] [some (.ref 0), some (.int a1), some (.int a2)] rfl ?_
      exact tX10_hot_j16 hG hQ _ _ _ h
def fX10_nights (F : Nat) (M : sp_Mem) (a1 : Int32) (a2 : Int32) : Option (Int32 × sp_Mem) :=
  if (fX10_isWithin a1 0 1000000) = 0 then ((fX10_refuse M (-1)).bind fun x2 => some (x2.1, x2.2)) else (if (fX10_isWithin a2 1 60) = 0 then ((fX10_refuse M (-1)).bind fun x12 => some (x12.1, x12.2)) else (if (sp_I M 6 4) = 0 then ((fX10_refuse M (-3)).bind fun x5 => some (x5.1, x5.2)) else (if (sp_I M 6 8) = 0 then ((fX10_refuse M (-3)).bind fun x11 => some (x11.1, x11.2)) else ((fX5_copyFrom F M 39 6).bind fun M7 => sp_do (sp_setI M7 0 11 1) fun M8 => (fX1_playNights F M8 39 a1 a2).bind fun x9 => (fX10_grant x9.2 x9.1).bind fun x10 => some (x10.1, x10.2)))))
set_option maxRecDepth 100000 in
set_option maxHeartbeats 4000000 in
theorem tX10_nights {g : sp_G} {Ω : sp_Mem → Prop} {Q : sp_Qt} {F : Nat} {p : (Int32 × sp_Mem)} (hG : sp_Ok Ω) {M : sp_Mem} {a1 : Int32} {a2 : Int32} (h : fX10_nights F M a1 a2 = some p) (hQ : Q (some (.int p.1)) p.2) : sp_Mt g Ω mX10_nights 0 0 [.ref 0, .int a1, .int a2] M Q := by
  unfold fX10_nights at h
  refine sp_Mt.of [some (.ref 0), some (.int a1), some (.int a2)] (by decide) (by simp [sp_ent, Value.category]) rfl ?_
  refine sp_iload_n dX10_nights_0 rfl rfl ?_
  refine sp_iconst (v := 0) dX10_nights_1 (by decide) ?_
  refine sp_ldcw (v := 1000000) dX10_nights_2 tw_1151 ?_
  refine sp_use (fun ho => ?_)
  have hs := hG.1 _ ho
  refine sp_cS (M1 := M) (r := some (.int (fX10_isWithin a1 0 1000000))) (st := []) [.int a1, .int 0, .int 1000000] [.int 1000000, .int 0, .int a1] [.int (fX10_isWithin a1 0 1000000)] dX10_nights_5 okX10_isWithin tw_471 tw_472 (by decide) (by decide) rfl (Nat.le_of_ble_eq_true rfl) rfl rfl (fun Q hQ => tX10_isWithin hG rfl hQ) ?_
  refine sp_if_eq (tgt := 21) dX10_nights_8 (by decide) (fun hc1 => ?_) (fun hc1 => ?_)
  · have h := (if_pos hc1).symm.trans h
    refine sp_aload_n dX10_nights_21 rfl rfl ?_
    refine sp_iconst (v := (-1)) dX10_nights_22 (by decide) ?_
    obtain ⟨x2, hx2, h⟩ := Option.bind_eq_some_iff.mp h
    refine sp_cV (M1 := x2.2) (r := some (.int x2.1)) (o := 0) (st := []) (c := 9) (RX10, TX10, 16) [.int (-1)] [.int (-1), .ref 0] [.int x2.1] dX10_nights_23 okX10_refuse tw_474 tw_476 tw_0 (by decide) (by decide) rfl (Nat.le_of_ble_eq_true rfl) rfl rfl rfl rfl (wsI_0 hs) (fun Q hQ => tX10_refuse hG hx2 hQ) ?_
    cases h
    exact sp_iret dX10_nights_26 (ty := .int) rfl rfl (fun _ => hQ)
  · have h := (if_neg hc1).symm.trans h
    refine sp_iload_n dX10_nights_11 rfl rfl ?_
    refine sp_iconst (v := 1) dX10_nights_12 (by decide) ?_
    refine sp_bipush (v := 60) dX10_nights_13 (by decide) ?_
    refine sp_cS (M1 := M) (r := some (.int (fX10_isWithin a2 1 60))) (st := []) [.int a2, .int 1, .int 60] [.int 60, .int 1, .int a2] [.int (fX10_isWithin a2 1 60)] dX10_nights_15 okX10_isWithin tw_471 tw_472 (by decide) (by decide) rfl (Nat.le_of_ble_eq_true rfl) rfl rfl (fun Q hQ => tX10_isWithin hG rfl hQ) ?_
    refine sp_if_ne (tgt := 27) dX10_nights_18 (by decide) (fun hc3 => ?_) (fun hc3 => ?_)
    · have h := (if_neg hc3).symm.trans h
      refine sp_aload_n dX10_nights_27 rfl rfl ?_
      refine sp_getR (RX10, TX10, 16) dX10_nights_28 clX10 (j := 3) (by decide) tw_418 (wsI_0 hs) (Or.inl ⟨_, rfl⟩) (wsP_0_3 hs) ?_
      refine sp_getI (RX5, TX5, 16) dX10_nights_31 clX5 (j := 4) (by decide) tw_185 (wsI_6 hs) (Or.inl rfl) ?_
      refine sp_if_eq (tgt := 47) dX10_nights_34 (by decide) (fun hc4 => ?_) (fun hc4 => ?_)
      · have h := (if_pos hc4).symm.trans h
        refine sp_aload_n dX10_nights_47 rfl rfl ?_
        refine sp_bipush (v := (-3)) dX10_nights_48 (by decide) ?_
        obtain ⟨x5, hx5, h⟩ := Option.bind_eq_some_iff.mp h
        refine sp_cV (M1 := x5.2) (r := some (.int x5.1)) (o := 0) (st := []) (c := 9) (RX10, TX10, 16) [.int (-3)] [.int (-3), .ref 0] [.int x5.1] dX10_nights_50 okX10_refuse tw_474 tw_476 tw_0 (by decide) (by decide) rfl (Nat.le_of_ble_eq_true rfl) rfl rfl rfl rfl (wsI_0 hs) (fun Q hQ => tX10_refuse hG hx5 hQ) ?_
        cases h
        exact sp_iret dX10_nights_53 (ty := .int) rfl rfl (fun _ => hQ)
      · have h := (if_neg hc4).symm.trans h
        refine sp_aload_n dX10_nights_37 rfl rfl ?_
        refine sp_getR (RX10, TX10, 16) dX10_nights_38 clX10 (j := 3) (by decide) tw_418 (wsI_0 hs) (Or.inl ⟨_, rfl⟩) (wsP_0_3 hs) ?_
        refine sp_getI (RX5, TX5, 16) dX10_nights_41 clX5 (j := 8) (by decide) tw_201 (wsI_6 hs) (Or.inl rfl) ?_
        refine sp_if_ne (tgt := 54) dX10_nights_44 (by decide) (fun hc6 => ?_) (fun hc6 => ?_)
        · have h := (if_neg hc6).symm.trans h
          refine sp_aload_n dX10_nights_54 rfl rfl ?_
          refine sp_getR (RX10, TX10, 16) dX10_nights_55 clX10 (j := 4) (by decide) tw_419 (wsI_0 hs) (Or.inl ⟨_, rfl⟩) (wsP_0_4 hs) ?_
          refine sp_aload_n dX10_nights_58 rfl rfl ?_
          refine sp_getR (RX10, TX10, 16) dX10_nights_59 clX10 (j := 3) (by decide) tw_418 (wsI_0 hs) (Or.inl ⟨_, rfl⟩) (wsP_0_3 hs) ?_
          obtain ⟨M7, hM7, h⟩ := Option.bind_eq_some_iff.mp h
          refine sp_cV (M1 := M7) (r := none) (o := 39) (st := []) (c := 4) (RX5, TX5, 16) [.ref 6] [.ref 6, .ref 39] [] dX10_nights_62 okX5_copyFrom tw_1152 tw_852 tw_853 (by decide) (by decide) rfl (Nat.le_of_ble_eq_true rfl) rfl rfl rfl rfl (wsI_39 hs) (fun Q hQ => tX5_copyFrom hG room_39 room_6 hM7 hQ) ?_
          refine sp_aload_n dX10_nights_65 rfl rfl ?_
          refine sp_iconst (v := 1) dX10_nights_66 (by decide) ?_
          refine sp_use (fun ho => ?_)
          have hs := hG.1 _ ho
          obtain ⟨M8, hM8, h⟩ := sp_do_e h
          refine sp_putI2 (RX10, TX10, 16) hG dX10_nights_67 clX10 (j := 11) (by decide) tw_426 rfl (Or.inr ⟨rfl, (Or.inr rfl)⟩) (wsI_0 hs) hM8 ?_
          refine sp_aload_n dX10_nights_70 rfl rfl ?_
          refine sp_aload_n dX10_nights_71 rfl rfl ?_
          refine sp_use (fun ho => ?_)
          have hs := hG.1 _ ho
          refine sp_getR (RX10, TX10, 16) dX10_nights_72 clX10 (j := 7) (by decide) tw_422 (wsI_0 hs) (Or.inl ⟨_, rfl⟩) (wsP_0_7 hs) ?_
          refine sp_aload_n dX10_nights_75 rfl rfl ?_
          refine sp_getR (RX10, TX10, 16) dX10_nights_76 clX10 (j := 4) (by decide) tw_419 (wsI_0 hs) (Or.inl ⟨_, rfl⟩) (wsP_0_4 hs) ?_
          refine sp_iload_n dX10_nights_79 rfl rfl ?_
          refine sp_iload_n dX10_nights_80 rfl rfl ?_
          obtain ⟨x9, hx9, h⟩ := Option.bind_eq_some_iff.mp h
          refine sp_cV (M1 := x9.2) (r := some (.int x9.1)) (o := 77) (st := [.ref 0]) (c := 1) (RX1, TX1, 7) [.ref 39, .int a1, .int a2] [.int a2, .int a1, .ref 39, .ref 77, .ref 0] [.int x9.1, .ref 0] dX10_nights_81 okX1_playNights tw_1153 tw_1154 tw_1155 (by decide) (by decide) rfl (Nat.le_of_ble_eq_true rfl) rfl rfl rfl rfl (wsI_77 hs) (fun Q hQ => tX1_playNights hG room_39 hx9 hQ) ?_
          refine sp_use (fun ho => ?_)
          have hs := hG.1 _ ho
          obtain ⟨x10, hx10, h⟩ := Option.bind_eq_some_iff.mp h
          refine sp_cV (M1 := x10.2) (r := some (.int x10.1)) (o := 0) (st := []) (c := 9) (RX10, TX10, 16) [.int x9.1] [.int x9.1, .ref 0] [.int x10.1] dX10_nights_84 okX10_grant tw_486 tw_488 tw_1 (by decide) (by decide) rfl (Nat.le_of_ble_eq_true rfl) rfl rfl rfl rfl (wsI_0 hs) (fun Q hQ => tX10_grant hG hx10 hQ) ?_
          cases h
          exact sp_iret dX10_nights_87 (ty := .int) rfl rfl (fun _ => hQ)
        · have h := (if_pos hc6).symm.trans h
          refine sp_aload_n dX10_nights_47 rfl rfl ?_
          refine sp_bipush (v := (-3)) dX10_nights_48 (by decide) ?_
          obtain ⟨x11, hx11, h⟩ := Option.bind_eq_some_iff.mp h
          refine sp_cV (M1 := x11.2) (r := some (.int x11.1)) (o := 0) (st := []) (c := 9) (RX10, TX10, 16) [.int (-3)] [.int (-3), .ref 0] [.int x11.1] dX10_nights_50 okX10_refuse tw_474 tw_476 tw_0 (by decide) (by decide) rfl (Nat.le_of_ble_eq_true rfl) rfl rfl rfl rfl (wsI_0 hs) (fun Q hQ => tX10_refuse hG hx11 hQ) ?_
          cases h
          exact sp_iret dX10_nights_53 (ty := .int) rfl rfl (fun _ => hQ)
    · have h := (if_pos hc3).symm.trans h
      refine sp_aload_n dX10_nights_21 rfl rfl ?_
      refine sp_iconst (v := (-1)) dX10_nights_22 (by decide) ?_
      obtain ⟨x12, hx12, h⟩ := Option.bind_eq_some_iff.mp h
      refine sp_cV (M1 := x12.2) (r := some (.int x12.1)) (o := 0) (st := []) (c := 9) (RX10, TX10, 16) [.int (-1)] [.int (-1), .ref 0] [.int x12.1] dX10_nights_23 okX10_refuse tw_474 tw_476 tw_0 (by decide) (by decide) rfl (Nat.le_of_ble_eq_true rfl) rfl rfl rfl rfl (wsI_0 hs) (fun Q hQ => tX10_refuse hG hx12 hQ) ?_
      cases h
      exact sp_iret dX10_nights_26 (ty := .int) rfl rfl (fun _ => hQ)
def fX10_drawn (M0 : sp_Mem) (a1 : Int32) (a2 : Int32) : Option Int32 :=
  if (sp_I M0 0 11) = 0 then (some (-100)) else (if a2 = 0 then (if (fX5_hasSpark M0 39 a1) = 0 then (some (-100)) else ((sp_ix 6 a1).bind fun j4 => some (sp_I M0 41 j4))) else if a2 = 1 then (if (fX5_hasSpark M0 39 a1) = 0 then (some (-100)) else ((sp_ix 6 a1).bind fun j7 => some (sp_I M0 42 j7))) else if a2 = 2 then (if (fX5_hasPerson M0 39 a1) = 0 then (some (-100)) else ((sp_ix 5 a1).bind fun j10 => some (sp_I M0 44 j10))) else (some (-100)))
set_option maxRecDepth 100000 in
set_option maxHeartbeats 4000000 in
theorem tX10_drawn {g : sp_G} {Ω : sp_Mem → Prop} {Q : sp_Qt} {M0 : sp_Mem} {p : Int32} (hG : sp_Ok Ω) {a1 : Int32} {a2 : Int32} (h : fX10_drawn M0 a1 a2 = some p) (hQ : Q (some (.int p)) M0) : sp_Mt g Ω mX10_drawn 0 0 [.ref 0, .int a1, .int a2] M0 Q := by
  unfold fX10_drawn at h
  refine sp_Mt.of [some (.ref 0), some (.int a1), some (.int a2)] (by decide) (by simp [sp_ent, Value.category]) rfl ?_
  refine sp_aload_n dX10_drawn_0 rfl rfl ?_
  refine sp_use (fun ho => ?_)
  have hs := hG.1 _ ho
  refine sp_getI (RX10, TX10, 16) dX10_drawn_1 clX10 (j := 11) (by decide) tw_426 (wsI_0 hs) (Or.inr rfl) ?_
  refine sp_if_ne (tgt := 10) dX10_drawn_4 (by decide) (fun hc1 => ?_) (fun hc1 => ?_)
  · have h := (if_neg hc1).symm.trans h
    refine sp_iload_n dX10_drawn_10 rfl rfl ?_
    by_cases hc2 : a2 = 0
    · have h := (if_pos hc2).symm.trans h
      refine sp_tswI (tgt := 36) dX10_drawn_11 (by rw [hc2]; decide) (by rw [hc2]; decide) (by rw [hc2]; rfl) (by decide) ?_
      refine sp_aload_n dX10_drawn_36 rfl rfl ?_
      refine sp_getR (RX10, TX10, 16) dX10_drawn_37 clX10 (j := 4) (by decide) tw_419 (wsI_0 hs) (Or.inl ⟨_, rfl⟩) (wsP_0_4 hs) ?_
      refine sp_iload_n dX10_drawn_40 rfl rfl ?_
      refine sp_cV (M1 := M0) (r := some (.int (fX5_hasSpark M0 39 a1))) (o := 39) (st := []) (c := 4) (RX5, TX5, 16) [.int a1] [.int a1, .ref 39] [.int (fX5_hasSpark M0 39 a1)] dX10_drawn_41 okX5_hasSpark tw_494 tw_495 tw_496 (by decide) (by decide) rfl (Nat.le_of_ble_eq_true rfl) rfl rfl rfl rfl (wsI_39 hs) (fun Q hQ => tX5_hasSpark hG room_39 rfl hQ) ?_
      refine sp_if_eq (tgt := 59) dX10_drawn_44 (by decide) (fun hc3 => ?_) (fun hc3 => ?_)
      · have h := (if_pos hc3).symm.trans h
        refine sp_bipush (v := (-100)) dX10_drawn_59 (by decide) ?_
        cases h
        exact sp_iret dX10_drawn_61 (ty := .int) rfl rfl (fun _ => hQ)
      · have h := (if_neg hc3).symm.trans h
        refine sp_aload_n dX10_drawn_47 rfl rfl ?_
        refine sp_getR (RX10, TX10, 16) dX10_drawn_48 clX10 (j := 4) (by decide) tw_419 (wsI_0 hs) (Or.inl ⟨_, rfl⟩) (wsP_0_4 hs) ?_
        refine sp_getR (RX5, TX5, 16) dX10_drawn_51 clX5 (j := 1) (by decide) tw_172 (wsI_39 hs) (Or.inr ⟨_, rfl⟩) (wsP_39_1 hs) ?_
        refine sp_iload_n dX10_drawn_54 rfl rfl ?_
        obtain ⟨j4, hj4, h⟩ := Option.bind_eq_some_iff.mp h
        refine sp_iald2 (j := j4) dX10_drawn_55 (wsA_41 hs) (wsN_41 hs) hj4 ?_
        refine sp_goto (tgt := 61) dX10_drawn_56 (by decide) ?_
        cases h
        exact sp_iret dX10_drawn_61 (ty := .int) rfl rfl (fun _ => hQ)
    have h := (if_neg hc2).symm.trans h
    by_cases hc5 : a2 = 1
    · have h := (if_pos hc5).symm.trans h
      refine sp_tswI (tgt := 62) dX10_drawn_11 (by rw [hc5]; decide) (by rw [hc5]; decide) (by rw [hc5]; rfl) (by decide) ?_
      refine sp_aload_n dX10_drawn_62 rfl rfl ?_
      refine sp_getR (RX10, TX10, 16) dX10_drawn_63 clX10 (j := 4) (by decide) tw_419 (wsI_0 hs) (Or.inl ⟨_, rfl⟩) (wsP_0_4 hs) ?_
      refine sp_iload_n dX10_drawn_66 rfl rfl ?_
      refine sp_cV (M1 := M0) (r := some (.int (fX5_hasSpark M0 39 a1))) (o := 39) (st := []) (c := 4) (RX5, TX5, 16) [.int a1] [.int a1, .ref 39] [.int (fX5_hasSpark M0 39 a1)] dX10_drawn_67 okX5_hasSpark tw_494 tw_495 tw_496 (by decide) (by decide) rfl (Nat.le_of_ble_eq_true rfl) rfl rfl rfl rfl (wsI_39 hs) (fun Q hQ => tX5_hasSpark hG room_39 rfl hQ) ?_
      refine sp_if_eq (tgt := 85) dX10_drawn_70 (by decide) (fun hc6 => ?_) (fun hc6 => ?_)
      · have h := (if_pos hc6).symm.trans h
        refine sp_bipush (v := (-100)) dX10_drawn_85 (by decide) ?_
        cases h
        exact sp_iret dX10_drawn_87 (ty := .int) rfl rfl (fun _ => hQ)
      · have h := (if_neg hc6).symm.trans h
        refine sp_aload_n dX10_drawn_73 rfl rfl ?_
        refine sp_getR (RX10, TX10, 16) dX10_drawn_74 clX10 (j := 4) (by decide) tw_419 (wsI_0 hs) (Or.inl ⟨_, rfl⟩) (wsP_0_4 hs) ?_
        refine sp_getR (RX5, TX5, 16) dX10_drawn_77 clX5 (j := 2) (by decide) tw_176 (wsI_39 hs) (Or.inr ⟨_, rfl⟩) (wsP_39_2 hs) ?_
        refine sp_iload_n dX10_drawn_80 rfl rfl ?_
        obtain ⟨j7, hj7, h⟩ := Option.bind_eq_some_iff.mp h
        refine sp_iald2 (j := j7) dX10_drawn_81 (wsA_42 hs) (wsN_42 hs) hj7 ?_
        refine sp_goto (tgt := 87) dX10_drawn_82 (by decide) ?_
        cases h
        exact sp_iret dX10_drawn_87 (ty := .int) rfl rfl (fun _ => hQ)
    have h := (if_neg hc5).symm.trans h
    by_cases hc8 : a2 = 2
    · have h := (if_pos hc8).symm.trans h
      refine sp_tswI (tgt := 88) dX10_drawn_11 (by rw [hc8]; decide) (by rw [hc8]; decide) (by rw [hc8]; rfl) (by decide) ?_
      refine sp_aload_n dX10_drawn_88 rfl rfl ?_
      refine sp_getR (RX10, TX10, 16) dX10_drawn_89 clX10 (j := 4) (by decide) tw_419 (wsI_0 hs) (Or.inl ⟨_, rfl⟩) (wsP_0_4 hs) ?_
      refine sp_iload_n dX10_drawn_92 rfl rfl ?_
      refine sp_cV (M1 := M0) (r := some (.int (fX5_hasPerson M0 39 a1))) (o := 39) (st := []) (c := 4) (RX5, TX5, 16) [.int a1] [.int a1, .ref 39] [.int (fX5_hasPerson M0 39 a1)] dX10_drawn_93 okX5_hasPerson tw_570 tw_571 tw_572 (by decide) (by decide) rfl (Nat.le_of_ble_eq_true rfl) rfl rfl rfl rfl (wsI_39 hs) (fun Q hQ => tX5_hasPerson hG room_39 rfl hQ) ?_
      refine sp_if_eq (tgt := 111) dX10_drawn_96 (by decide) (fun hc9 => ?_) (fun hc9 => ?_)
      · have h := (if_pos hc9).symm.trans h
        refine sp_bipush (v := (-100)) dX10_drawn_111 (by decide) ?_
        cases h
        exact sp_iret dX10_drawn_113 (ty := .int) rfl rfl (fun _ => hQ)
      · have h := (if_neg hc9).symm.trans h
        refine sp_aload_n dX10_drawn_99 rfl rfl ?_
        refine sp_getR (RX10, TX10, 16) dX10_drawn_100 clX10 (j := 4) (by decide) tw_419 (wsI_0 hs) (Or.inl ⟨_, rfl⟩) (wsP_0_4 hs) ?_
        refine sp_getR (RX5, TX5, 16) dX10_drawn_103 clX5 (j := 5) (by decide) tw_190 (wsI_39 hs) (Or.inr ⟨_, rfl⟩) (wsP_39_5 hs) ?_
        refine sp_iload_n dX10_drawn_106 rfl rfl ?_
        obtain ⟨j10, hj10, h⟩ := Option.bind_eq_some_iff.mp h
        refine sp_iald2 (j := j10) dX10_drawn_107 (wsA_44 hs) (wsN_44 hs) hj10 ?_
        refine sp_goto (tgt := 113) dX10_drawn_108 (by decide) ?_
        cases h
        exact sp_iret dX10_drawn_113 (ty := .int) rfl rfl (fun _ => hQ)
    have h := (if_neg hc8).symm.trans h
    have hc2 := sp_ne hc2 (show (0 : Int32).toInt = 0 by decide)
    have hc5 := sp_ne hc5 (show (1 : Int32).toInt = 1 by decide)
    have hc8 := sp_ne hc8 (show (2 : Int32).toInt = 2 by decide)
    refine sp_tswO (tgt := 114) dX10_drawn_11 (by omega) (by decide) ?_
    refine sp_bipush (v := (-100)) dX10_drawn_114 (by decide) ?_
    cases h
    exact sp_iret dX10_drawn_116 (ty := .int) rfl rfl (fun _ => hQ)
  · have h := (if_pos hc1).symm.trans h
    refine sp_bipush (v := (-100)) dX10_drawn_7 (by decide) ?_
    cases h
    exact sp_iret dX10_drawn_9 (ty := .int) rfl rfl (fun _ => hQ)
def fX10_image (F : Nat) (M : sp_Mem) (a1 : Int32) : Option (Int32 × sp_Mem) :=
  if (fX10_isWithin a1 0 1) = 0 then ((fX10_refuse M (-1)).bind fun x8 => some (x8.1, x8.2)) else ((sp_ix 2 a1).bind fun j2 => (sp_P M 51 j2).bind fun w3 => (fX5_copyFrom F M w3 6).bind fun M4 => (sp_ix 2 a1).bind fun j5 => sp_do (sp_setI M4 76 j5 (vp_nar .boolean 1)) fun M6 => (fX10_grant M6 0).bind fun x7 => some (x7.1, x7.2))
set_option maxRecDepth 100000 in
set_option maxHeartbeats 4000000 in
theorem tX10_image {g : sp_G} {Ω : sp_Mem → Prop} {Q : sp_Qt} {F : Nat} {p : (Int32 × sp_Mem)} (hG : sp_Ok Ω) {M : sp_Mem} {a1 : Int32} (h : fX10_image F M a1 = some p) (hQ : Q (some (.int p.1)) p.2) : sp_Mt g Ω mX10_image 0 0 [.ref 0, .int a1] M Q := by
  unfold fX10_image at h
  refine sp_Mt.of [some (.ref 0), some (.int a1)] (by decide) (by simp [sp_ent, Value.category]) rfl ?_
  refine sp_iload_n dX10_image_0 rfl rfl ?_
  refine sp_iconst (v := 0) dX10_image_1 (by decide) ?_
  refine sp_iconst (v := 1) dX10_image_2 (by decide) ?_
  refine sp_use (fun ho => ?_)
  have hs := hG.1 _ ho
  refine sp_cS (M1 := M) (r := some (.int (fX10_isWithin a1 0 1))) (st := []) [.int a1, .int 0, .int 1] [.int 1, .int 0, .int a1] [.int (fX10_isWithin a1 0 1)] dX10_image_3 okX10_isWithin tw_471 tw_472 (by decide) (by decide) rfl (Nat.le_of_ble_eq_true rfl) rfl rfl (fun Q hQ => tX10_isWithin hG rfl hQ) ?_
  refine sp_if_ne (tgt := 15) dX10_image_6 (by decide) (fun hc1 => ?_) (fun hc1 => ?_)
  · have h := (if_neg hc1).symm.trans h
    refine sp_aload_n dX10_image_15 rfl rfl ?_
    refine sp_getR (RX10, TX10, 16) dX10_image_16 clX10 (j := 5) (by decide) tw_420 (wsI_0 hs) (Or.inr ⟨_, rfl⟩) (wsP_0_5 hs) ?_
    refine sp_iload_n dX10_image_19 rfl rfl ?_
    obtain ⟨j2, hj2, h⟩ := Option.bind_eq_some_iff.mp h
    refine sp_aald2 (j := j2) 3 (by decide) dX10_image_20 (wsA_51 hs) (wsN_51 hs) hj2 ?_
    obtain ⟨w3, hw3, h⟩ := Option.bind_eq_some_iff.mp h
    have pw3 : sp_room w3 := img_room hs (sp_ix_lt hj2) hw3
    refine sp_topr hw3 ?_
    refine sp_aload_n dX10_image_21 rfl rfl ?_
    refine sp_getR (RX10, TX10, 16) dX10_image_22 clX10 (j := 3) (by decide) tw_418 (wsI_0 hs) (Or.inl ⟨_, rfl⟩) (wsP_0_3 hs) ?_
    obtain ⟨M4, hM4, h⟩ := Option.bind_eq_some_iff.mp h
    refine sp_cV (M1 := M4) (r := none) (o := w3) (st := []) (c := 4) (RX5, TX5, 16) [.ref 6] [.ref 6, .ref w3] [] dX10_image_25 okX5_copyFrom tw_1152 tw_852 tw_853 (by decide) (by decide) rfl (Nat.le_of_ble_eq_true rfl) rfl rfl rfl rfl (rmI hs pw3) (fun Q hQ => tX5_copyFrom hG pw3 room_6 hM4 hQ) ?_
    refine sp_aload_n dX10_image_28 rfl rfl ?_
    refine sp_use (fun ho => ?_)
    have hs := hG.1 _ ho
    refine sp_getR (RX10, TX10, 16) dX10_image_29 clX10 (j := 6) (by decide) tw_421 (wsI_0 hs) (Or.inr ⟨_, rfl⟩) (wsP_0_6 hs) ?_
    refine sp_iload_n dX10_image_32 rfl rfl ?_
    refine sp_iconst (v := 1) dX10_image_33 (by decide) ?_
    obtain ⟨j5, hj5, h⟩ := Option.bind_eq_some_iff.mp h
    obtain ⟨M6, hM6, h⟩ := sp_do_e h
    refine sp_zast2 (j := j5) hG dX10_image_34 (wsA_76 hs) (wsN_76 hs) hj5 hM6 ?_
    refine sp_aload_n dX10_image_35 rfl rfl ?_
    refine sp_iconst (v := 0) dX10_image_36 (by decide) ?_
    refine sp_use (fun ho => ?_)
    have hs := hG.1 _ ho
    obtain ⟨x7, hx7, h⟩ := Option.bind_eq_some_iff.mp h
    refine sp_cV (M1 := x7.2) (r := some (.int x7.1)) (o := 0) (st := []) (c := 9) (RX10, TX10, 16) [.int 0] [.int 0, .ref 0] [.int x7.1] dX10_image_37 okX10_grant tw_486 tw_488 tw_1 (by decide) (by decide) rfl (Nat.le_of_ble_eq_true rfl) rfl rfl rfl rfl (wsI_0 hs) (fun Q hQ => tX10_grant hG hx7 hQ) ?_
    cases h
    exact sp_iret dX10_image_40 (ty := .int) rfl rfl (fun _ => hQ)
  · have h := (if_pos hc1).symm.trans h
    refine sp_aload_n dX10_image_9 rfl rfl ?_
    refine sp_iconst (v := (-1)) dX10_image_10 (by decide) ?_
    obtain ⟨x8, hx8, h⟩ := Option.bind_eq_some_iff.mp h
    refine sp_cV (M1 := x8.2) (r := some (.int x8.1)) (o := 0) (st := []) (c := 9) (RX10, TX10, 16) [.int (-1)] [.int (-1), .ref 0] [.int x8.1] dX10_image_11 okX10_refuse tw_474 tw_476 tw_0 (by decide) (by decide) rfl (Nat.le_of_ble_eq_true rfl) rfl rfl rfl rfl (wsI_0 hs) (fun Q hQ => tX10_refuse hG hx8 hQ) ?_
    cases h
    exact sp_iret dX10_image_14 (ty := .int) rfl rfl (fun _ => hQ)
def fX10_back (F : Nat) (M : sp_Mem) (a1 : Int32) : Option (Int32 × sp_Mem) :=
  if (fX10_isWithin a1 0 1) = 0 then ((fX10_refuse M (-1)).bind fun x10 => some (x10.1, x10.2)) else ((sp_ix 2 a1).bind fun j2 => if (sp_I M 76 j2) = 0 then ((fX10_refuse M (-2)).bind fun x9 => some (x9.1, x9.2)) else ((sp_ix 2 a1).bind fun j4 => (sp_P M 51 j4).bind fun w5 => (fX5_copyFrom F M 6 w5).bind fun M6 => (fX3_clear M6 18).bind fun M7 => (fX10_grant M7 0).bind fun x8 => some (x8.1, x8.2)))
set_option maxRecDepth 100000 in
set_option maxHeartbeats 4000000 in
theorem tX10_back {g : sp_G} {Ω : sp_Mem → Prop} {Q : sp_Qt} {F : Nat} {p : (Int32 × sp_Mem)} (hG : sp_Ok Ω) {M : sp_Mem} {a1 : Int32} (h : fX10_back F M a1 = some p) (hQ : Q (some (.int p.1)) p.2) : sp_Mt g Ω mX10_back 0 0 [.ref 0, .int a1] M Q := by
  unfold fX10_back at h
  refine sp_Mt.of [some (.ref 0), some (.int a1)] (by decide) (by simp [sp_ent, Value.category]) rfl ?_
  refine sp_iload_n dX10_back_0 rfl rfl ?_
  refine sp_iconst (v := 0) dX10_back_1 (by decide) ?_
  refine sp_iconst (v := 1) dX10_back_2 (by decide) ?_
  refine sp_use (fun ho => ?_)
  have hs := hG.1 _ ho
  refine sp_cS (M1 := M) (r := some (.int (fX10_isWithin a1 0 1))) (st := []) [.int a1, .int 0, .int 1] [.int 1, .int 0, .int a1] [.int (fX10_isWithin a1 0 1)] dX10_back_3 okX10_isWithin tw_471 tw_472 (by decide) (by decide) rfl (Nat.le_of_ble_eq_true rfl) rfl rfl (fun Q hQ => tX10_isWithin hG rfl hQ) ?_
  refine sp_if_ne (tgt := 15) dX10_back_6 (by decide) (fun hc1 => ?_) (fun hc1 => ?_)
  · have h := (if_neg hc1).symm.trans h
    refine sp_aload_n dX10_back_15 rfl rfl ?_
    refine sp_getR (RX10, TX10, 16) dX10_back_16 clX10 (j := 6) (by decide) tw_421 (wsI_0 hs) (Or.inr ⟨_, rfl⟩) (wsP_0_6 hs) ?_
    refine sp_iload_n dX10_back_19 rfl rfl ?_
    obtain ⟨j2, hj2, h⟩ := Option.bind_eq_some_iff.mp h
    refine sp_zald2 (j := j2) dX10_back_20 (wsA_76 hs) (wsN_76 hs) hj2 ?_
    refine sp_if_ne (tgt := 31) dX10_back_21 (by decide) (fun hc3 => ?_) (fun hc3 => ?_)
    · have h := (if_neg hc3).symm.trans h
      refine sp_aload_n dX10_back_31 rfl rfl ?_
      refine sp_getR (RX10, TX10, 16) dX10_back_32 clX10 (j := 3) (by decide) tw_418 (wsI_0 hs) (Or.inl ⟨_, rfl⟩) (wsP_0_3 hs) ?_
      refine sp_aload_n dX10_back_35 rfl rfl ?_
      refine sp_getR (RX10, TX10, 16) dX10_back_36 clX10 (j := 5) (by decide) tw_420 (wsI_0 hs) (Or.inr ⟨_, rfl⟩) (wsP_0_5 hs) ?_
      refine sp_iload_n dX10_back_39 rfl rfl ?_
      obtain ⟨j4, hj4, h⟩ := Option.bind_eq_some_iff.mp h
      refine sp_aald2 (j := j4) 3 (by decide) dX10_back_40 (wsA_51 hs) (wsN_51 hs) hj4 ?_
      obtain ⟨w5, hw5, h⟩ := Option.bind_eq_some_iff.mp h
      have pw5 : sp_room w5 := img_room hs (sp_ix_lt hj4) hw5
      refine sp_topr hw5 ?_
      obtain ⟨M6, hM6, h⟩ := Option.bind_eq_some_iff.mp h
      refine sp_cV (M1 := M6) (r := none) (o := 6) (st := []) (c := 4) (RX5, TX5, 16) [.ref w5] [.ref w5, .ref 6] [] dX10_back_41 okX5_copyFrom tw_1152 tw_852 tw_853 (by decide) (by decide) rfl (Nat.le_of_ble_eq_true rfl) rfl rfl rfl rfl (wsI_6 hs) (fun Q hQ => tX5_copyFrom hG room_6 pw5 hM6 hQ) ?_
      refine sp_aload_n dX10_back_44 rfl rfl ?_
      refine sp_use (fun ho => ?_)
      have hs := hG.1 _ ho
      refine sp_getR (RX10, TX10, 16) dX10_back_45 clX10 (j := 1) (by decide) tw_416 (wsI_0 hs) (Or.inl ⟨_, rfl⟩) (wsP_0_1 hs) ?_
      refine sp_getR (RX7, TX7, 6) dX10_back_48 clX7 (j := 1) (by decide) tw_277 (wsI_5 hs) (Or.inl ⟨_, rfl⟩) (wsP_5_1 hs) ?_
      obtain ⟨M7, hM7, h⟩ := Option.bind_eq_some_iff.mp h
      refine sp_cV (M1 := M7) (r := none) (o := 18) (st := []) (c := 3) (RX3, TX3, 4) [] [.ref 18] [] dX10_back_51 okX3_clear tw_478 tw_479 tw_480 (by decide) (by decide) rfl (Nat.le_of_ble_eq_true rfl) rfl rfl rfl rfl (wsI_18 hs) (fun Q hQ => tX3_clear hG past_18 hM7 hQ) ?_
      refine sp_aload_n dX10_back_54 rfl rfl ?_
      refine sp_iconst (v := 0) dX10_back_55 (by decide) ?_
      refine sp_use (fun ho => ?_)
      have hs := hG.1 _ ho
      obtain ⟨x8, hx8, h⟩ := Option.bind_eq_some_iff.mp h
      refine sp_cV (M1 := x8.2) (r := some (.int x8.1)) (o := 0) (st := []) (c := 9) (RX10, TX10, 16) [.int 0] [.int 0, .ref 0] [.int x8.1] dX10_back_56 okX10_grant tw_486 tw_488 tw_1 (by decide) (by decide) rfl (Nat.le_of_ble_eq_true rfl) rfl rfl rfl rfl (wsI_0 hs) (fun Q hQ => tX10_grant hG hx8 hQ) ?_
      cases h
      exact sp_iret dX10_back_59 (ty := .int) rfl rfl (fun _ => hQ)
    · have h := (if_pos hc3).symm.trans h
      refine sp_aload_n dX10_back_24 rfl rfl ?_
      refine sp_bipush (v := (-2)) dX10_back_25 (by decide) ?_
      obtain ⟨x9, hx9, h⟩ := Option.bind_eq_some_iff.mp h
      refine sp_cV (M1 := x9.2) (r := some (.int x9.1)) (o := 0) (st := []) (c := 9) (RX10, TX10, 16) [.int (-2)] [.int (-2), .ref 0] [.int x9.1] dX10_back_27 okX10_refuse tw_474 tw_476 tw_0 (by decide) (by decide) rfl (Nat.le_of_ble_eq_true rfl) rfl rfl rfl rfl (wsI_0 hs) (fun Q hQ => tX10_refuse hG hx9 hQ) ?_
      cases h
      exact sp_iret dX10_back_30 (ty := .int) rfl rfl (fun _ => hQ)
  · have h := (if_pos hc1).symm.trans h
    refine sp_aload_n dX10_back_9 rfl rfl ?_
    refine sp_iconst (v := (-1)) dX10_back_10 (by decide) ?_
    obtain ⟨x10, hx10, h⟩ := Option.bind_eq_some_iff.mp h
    refine sp_cV (M1 := x10.2) (r := some (.int x10.1)) (o := 0) (st := []) (c := 9) (RX10, TX10, 16) [.int (-1)] [.int (-1), .ref 0] [.int x10.1] dX10_back_11 okX10_refuse tw_474 tw_476 tw_0 (by decide) (by decide) rfl (Nat.le_of_ble_eq_true rfl) rfl rfl rfl rfl (wsI_0 hs) (fun Q hQ => tX10_refuse hG hx10 hQ) ?_
    cases h
    exact sp_iret dX10_back_14 (ty := .int) rfl rfl (fun _ => hQ)
def fX10_count (F : Nat) (M0 : sp_Mem) (a1 : Int32) : Option Int32 :=
  if a1 = 0 then (some (sp_I M0 6 4)) else if a1 = 1 then ((fX5_looseSparks F M0 6).bind fun v3 => some v3) else if a1 = 2 then (some (sp_I M0 6 8)) else if a1 = 3 then (some (sp_I M0 6 11)) else if a1 = 4 then (some (sp_I M0 6 14)) else if a1 = 5 then (some (sp_I M0 18 3)) else if a1 = 6 then (some (sp_I M0 94 1)) else if a1 = 7 then (some (sp_I M0 102 1)) else if a1 = 8 then (some (sp_I M0 102 2)) else if a1 = 9 then (some (sp_I M0 102 3)) else if a1 = 10 then (some (sp_I M0 102 5)) else if a1 = 11 then (some (sp_I M0 102 6)) else if a1 = 12 then (some (sp_I M0 6 15)) else (if (fX10_isWithin a1 13 16) = 0 then (some (-1)) else ((sp_ix 4 (a1 - 13)).bind fun j16 => some (sp_I M0 16 j16)))
set_option maxRecDepth 100000 in
set_option maxHeartbeats 4000000 in
theorem tX10_count {g : sp_G} {Ω : sp_Mem → Prop} {Q : sp_Qt} {F : Nat} {M0 : sp_Mem} {p : Int32} (hG : sp_Ok Ω) {a1 : Int32} (h : fX10_count F M0 a1 = some p) (hQ : Q (some (.int p)) M0) : sp_Mt g Ω mX10_count 0 0 [.ref 0, .int a1] M0 Q := by
  unfold fX10_count at h
  refine sp_Mt.of [some (.ref 0), some (.int a1)] (by decide) (by simp [sp_ent, Value.category]) rfl ?_
  refine sp_iload_n dX10_count_0 rfl rfl ?_
  by_cases hc1 : a1 = 0
  · have h := (if_pos hc1).symm.trans h
    refine sp_tswI (tgt := 68) dX10_count_1 (by rw [hc1]; decide) (by rw [hc1]; decide) (by rw [hc1]; rfl) (by decide) ?_
    refine sp_aload_n dX10_count_68 rfl rfl ?_
    refine sp_use (fun ho => ?_)
    have hs := hG.1 _ ho
    refine sp_getR (RX10, TX10, 16) dX10_count_69 clX10 (j := 3) (by decide) tw_418 (wsI_0 hs) (Or.inl ⟨_, rfl⟩) (wsP_0_3 hs) ?_
    refine sp_getI (RX5, TX5, 16) dX10_count_72 clX5 (j := 4) (by decide) tw_185 (wsI_6 hs) (Or.inl rfl) ?_
    cases h
    exact sp_iret dX10_count_75 (ty := .int) rfl rfl (fun _ => hQ)
  have h := (if_neg hc1).symm.trans h
  by_cases hc2 : a1 = 1
  · have h := (if_pos hc2).symm.trans h
    refine sp_tswI (tgt := 76) dX10_count_1 (by rw [hc2]; decide) (by rw [hc2]; decide) (by rw [hc2]; rfl) (by decide) ?_
    refine sp_aload_n dX10_count_76 rfl rfl ?_
    refine sp_use (fun ho => ?_)
    have hs := hG.1 _ ho
    refine sp_getR (RX10, TX10, 16) dX10_count_77 clX10 (j := 3) (by decide) tw_418 (wsI_0 hs) (Or.inl ⟨_, rfl⟩) (wsP_0_3 hs) ?_
    obtain ⟨v3, hv3, h⟩ := Option.bind_eq_some_iff.mp h
    refine sp_cV (M1 := M0) (r := some (.int v3)) (o := 6) (st := []) (c := 4) (RX5, TX5, 16) [] [.ref 6] [.int v3] dX10_count_80 okX5_looseSparks tw_1182 tw_875 tw_876 (by decide) (by decide) rfl (Nat.le_of_ble_eq_true rfl) rfl rfl rfl rfl (wsI_6 hs) (fun Q hQ => tX5_looseSparks hG room_6 hv3 hQ) ?_
    cases h
    exact sp_iret dX10_count_83 (ty := .int) rfl rfl (fun _ => hQ)
  have h := (if_neg hc2).symm.trans h
  by_cases hc4 : a1 = 2
  · have h := (if_pos hc4).symm.trans h
    refine sp_tswI (tgt := 84) dX10_count_1 (by rw [hc4]; decide) (by rw [hc4]; decide) (by rw [hc4]; rfl) (by decide) ?_
    refine sp_aload_n dX10_count_84 rfl rfl ?_
    refine sp_use (fun ho => ?_)
    have hs := hG.1 _ ho
    refine sp_getR (RX10, TX10, 16) dX10_count_85 clX10 (j := 3) (by decide) tw_418 (wsI_0 hs) (Or.inl ⟨_, rfl⟩) (wsP_0_3 hs) ?_
    refine sp_getI (RX5, TX5, 16) dX10_count_88 clX5 (j := 8) (by decide) tw_201 (wsI_6 hs) (Or.inl rfl) ?_
    cases h
    exact sp_iret dX10_count_91 (ty := .int) rfl rfl (fun _ => hQ)
  have h := (if_neg hc4).symm.trans h
  by_cases hc5 : a1 = 3
  · have h := (if_pos hc5).symm.trans h
    refine sp_tswI (tgt := 92) dX10_count_1 (by rw [hc5]; decide) (by rw [hc5]; decide) (by rw [hc5]; rfl) (by decide) ?_
    refine sp_aload_n dX10_count_92 rfl rfl ?_
    refine sp_use (fun ho => ?_)
    have hs := hG.1 _ ho
    refine sp_getR (RX10, TX10, 16) dX10_count_93 clX10 (j := 3) (by decide) tw_418 (wsI_0 hs) (Or.inl ⟨_, rfl⟩) (wsP_0_3 hs) ?_
    refine sp_getI (RX5, TX5, 16) dX10_count_96 clX5 (j := 11) (by decide) tw_209 (wsI_6 hs) (Or.inl rfl) ?_
    cases h
    exact sp_iret dX10_count_99 (ty := .int) rfl rfl (fun _ => hQ)
  have h := (if_neg hc5).symm.trans h
  by_cases hc6 : a1 = 4
  · have h := (if_pos hc6).symm.trans h
    refine sp_tswI (tgt := 100) dX10_count_1 (by rw [hc6]; decide) (by rw [hc6]; decide) (by rw [hc6]; rfl) (by decide) ?_
    refine sp_aload_n dX10_count_100 rfl rfl ?_
    refine sp_use (fun ho => ?_)
    have hs := hG.1 _ ho
    refine sp_getR (RX10, TX10, 16) dX10_count_101 clX10 (j := 3) (by decide) tw_418 (wsI_0 hs) (Or.inl ⟨_, rfl⟩) (wsP_0_3 hs) ?_
    refine sp_getI (RX5, TX5, 16) dX10_count_104 clX5 (j := 14) (by decide) tw_217 (wsI_6 hs) (Or.inl rfl) ?_
    cases h
    exact sp_iret dX10_count_107 (ty := .int) rfl rfl (fun _ => hQ)
  have h := (if_neg hc6).symm.trans h
  by_cases hc7 : a1 = 5
  · have h := (if_pos hc7).symm.trans h
    refine sp_tswI (tgt := 108) dX10_count_1 (by rw [hc7]; decide) (by rw [hc7]; decide) (by rw [hc7]; rfl) (by decide) ?_
    refine sp_aload_n dX10_count_108 rfl rfl ?_
    refine sp_use (fun ho => ?_)
    have hs := hG.1 _ ho
    refine sp_getR (RX10, TX10, 16) dX10_count_109 clX10 (j := 1) (by decide) tw_416 (wsI_0 hs) (Or.inl ⟨_, rfl⟩) (wsP_0_1 hs) ?_
    refine sp_getR (RX7, TX7, 6) dX10_count_112 clX7 (j := 1) (by decide) tw_277 (wsI_5 hs) (Or.inl ⟨_, rfl⟩) (wsP_5_1 hs) ?_
    refine sp_getI (RX3, TX3, 4) dX10_count_115 clX3 (j := 3) (by decide) tw_264 (wsI_18 hs) (Or.inl rfl) ?_
    cases h
    exact sp_iret dX10_count_118 (ty := .int) rfl rfl (fun _ => hQ)
  have h := (if_neg hc7).symm.trans h
  by_cases hc8 : a1 = 6
  · have h := (if_pos hc8).symm.trans h
    refine sp_tswI (tgt := 119) dX10_count_1 (by rw [hc8]; decide) (by rw [hc8]; decide) (by rw [hc8]; rfl) (by decide) ?_
    refine sp_aload_n dX10_count_119 rfl rfl ?_
    refine sp_use (fun ho => ?_)
    have hs := hG.1 _ ho
    refine sp_getR (RX10, TX10, 16) dX10_count_120 clX10 (j := 8) (by decide) tw_423 (wsI_0 hs) (Or.inl ⟨_, rfl⟩) (wsP_0_8 hs) ?_
    refine sp_getI (RX8, TX8, 5) dX10_count_123 clX8 (j := 1) (by decide) tw_339 (wsI_94 hs) (Or.inl rfl) ?_
    cases h
    exact sp_iret dX10_count_126 (ty := .int) rfl rfl (fun _ => hQ)
  have h := (if_neg hc8).symm.trans h
  by_cases hc9 : a1 = 7
  · have h := (if_pos hc9).symm.trans h
    refine sp_tswI (tgt := 127) dX10_count_1 (by rw [hc9]; decide) (by rw [hc9]; decide) (by rw [hc9]; rfl) (by decide) ?_
    refine sp_aload_n dX10_count_127 rfl rfl ?_
    refine sp_use (fun ho => ?_)
    have hs := hG.1 _ ho
    refine sp_getR (RX10, TX10, 16) dX10_count_128 clX10 (j := 10) (by decide) tw_425 (wsI_0 hs) (Or.inr ⟨_, rfl⟩) (wsP_0_10 hs) ?_
    refine sp_iconst (v := 1) dX10_count_131 (by decide) ?_
    refine sp_iald2 (j := 1) dX10_count_132 (wsA_102 hs) (wsN_102 hs) rfl ?_
    cases h
    exact sp_iret dX10_count_133 (ty := .int) rfl rfl (fun _ => hQ)
  have h := (if_neg hc9).symm.trans h
  by_cases hc10 : a1 = 8
  · have h := (if_pos hc10).symm.trans h
    refine sp_tswI (tgt := 134) dX10_count_1 (by rw [hc10]; decide) (by rw [hc10]; decide) (by rw [hc10]; rfl) (by decide) ?_
    refine sp_aload_n dX10_count_134 rfl rfl ?_
    refine sp_use (fun ho => ?_)
    have hs := hG.1 _ ho
    refine sp_getR (RX10, TX10, 16) dX10_count_135 clX10 (j := 10) (by decide) tw_425 (wsI_0 hs) (Or.inr ⟨_, rfl⟩) (wsP_0_10 hs) ?_
    refine sp_iconst (v := 2) dX10_count_138 (by decide) ?_
    refine sp_iald2 (j := 2) dX10_count_139 (wsA_102 hs) (wsN_102 hs) rfl ?_
    cases h
    exact sp_iret dX10_count_140 (ty := .int) rfl rfl (fun _ => hQ)
  have h := (if_neg hc10).symm.trans h
  by_cases hc11 : a1 = 9
  · have h := (if_pos hc11).symm.trans h
    refine sp_tswI (tgt := 141) dX10_count_1 (by rw [hc11]; decide) (by rw [hc11]; decide) (by rw [hc11]; rfl) (by decide) ?_
    refine sp_aload_n dX10_count_141 rfl rfl ?_
    refine sp_use (fun ho => ?_)
    have hs := hG.1 _ ho
    refine sp_getR (RX10, TX10, 16) dX10_count_142 clX10 (j := 10) (by decide) tw_425 (wsI_0 hs) (Or.inr ⟨_, rfl⟩) (wsP_0_10 hs) ?_
    refine sp_iconst (v := 3) dX10_count_145 (by decide) ?_
    refine sp_iald2 (j := 3) dX10_count_146 (wsA_102 hs) (wsN_102 hs) rfl ?_
    cases h
    exact sp_iret dX10_count_147 (ty := .int) rfl rfl (fun _ => hQ)
  have h := (if_neg hc11).symm.trans h
  by_cases hc12 : a1 = 10
  · have h := (if_pos hc12).symm.trans h
    refine sp_tswI (tgt := 148) dX10_count_1 (by rw [hc12]; decide) (by rw [hc12]; decide) (by rw [hc12]; rfl) (by decide) ?_
    refine sp_aload_n dX10_count_148 rfl rfl ?_
    refine sp_use (fun ho => ?_)
    have hs := hG.1 _ ho
    refine sp_getR (RX10, TX10, 16) dX10_count_149 clX10 (j := 10) (by decide) tw_425 (wsI_0 hs) (Or.inr ⟨_, rfl⟩) (wsP_0_10 hs) ?_
    refine sp_iconst (v := 5) dX10_count_152 (by decide) ?_
    refine sp_iald2 (j := 5) dX10_count_153 (wsA_102 hs) (wsN_102 hs) rfl ?_
    cases h
    exact sp_iret dX10_count_154 (ty := .int) rfl rfl (fun _ => hQ)
  have h := (if_neg hc12).symm.trans h
  by_cases hc13 : a1 = 11
  · have h := (if_pos hc13).symm.trans h
    refine sp_tswI (tgt := 155) dX10_count_1 (by rw [hc13]; decide) (by rw [hc13]; decide) (by rw [hc13]; rfl) (by decide) ?_
    refine sp_aload_n dX10_count_155 rfl rfl ?_
    refine sp_use (fun ho => ?_)
    have hs := hG.1 _ ho
    refine sp_getR (RX10, TX10, 16) dX10_count_156 clX10 (j := 10) (by decide) tw_425 (wsI_0 hs) (Or.inr ⟨_, rfl⟩) (wsP_0_10 hs) ?_
    refine sp_bipush (v := 6) dX10_count_159 (by decide) ?_
    refine sp_iald2 (j := 6) dX10_count_161 (wsA_102 hs) (wsN_102 hs) rfl ?_
    cases h
    exact sp_iret dX10_count_162 (ty := .int) rfl rfl (fun _ => hQ)
  have h := (if_neg hc13).symm.trans h
  by_cases hc14 : a1 = 12
  · have h := (if_pos hc14).symm.trans h
    refine sp_tswI (tgt := 163) dX10_count_1 (by rw [hc14]; decide) (by rw [hc14]; decide) (by rw [hc14]; rfl) (by decide) ?_
    refine sp_aload_n dX10_count_163 rfl rfl ?_
    refine sp_use (fun ho => ?_)
    have hs := hG.1 _ ho
    refine sp_getR (RX10, TX10, 16) dX10_count_164 clX10 (j := 3) (by decide) tw_418 (wsI_0 hs) (Or.inl ⟨_, rfl⟩) (wsP_0_3 hs) ?_
    refine sp_getI (RX5, TX5, 16) dX10_count_167 clX5 (j := 15) (by decide) tw_220 (wsI_6 hs) (Or.inl rfl) ?_
    cases h
    exact sp_iret dX10_count_170 (ty := .int) rfl rfl (fun _ => hQ)
  have h := (if_neg hc14).symm.trans h
  have hc1 := sp_ne hc1 (show (0 : Int32).toInt = 0 by decide)
  have hc2 := sp_ne hc2 (show (1 : Int32).toInt = 1 by decide)
  have hc4 := sp_ne hc4 (show (2 : Int32).toInt = 2 by decide)
  have hc5 := sp_ne hc5 (show (3 : Int32).toInt = 3 by decide)
  have hc6 := sp_ne hc6 (show (4 : Int32).toInt = 4 by decide)
  have hc7 := sp_ne hc7 (show (5 : Int32).toInt = 5 by decide)
  have hc8 := sp_ne hc8 (show (6 : Int32).toInt = 6 by decide)
  have hc9 := sp_ne hc9 (show (7 : Int32).toInt = 7 by decide)
  have hc10 := sp_ne hc10 (show (8 : Int32).toInt = 8 by decide)
  have hc11 := sp_ne hc11 (show (9 : Int32).toInt = 9 by decide)
  have hc12 := sp_ne hc12 (show (10 : Int32).toInt = 10 by decide)
  have hc13 := sp_ne hc13 (show (11 : Int32).toInt = 11 by decide)
  have hc14 := sp_ne hc14 (show (12 : Int32).toInt = 12 by decide)
  refine sp_tswO (tgt := 171) dX10_count_1 (by omega) (by decide) ?_
  refine sp_iload_n dX10_count_171 rfl rfl ?_
  refine sp_bipush (v := 13) dX10_count_172 (by decide) ?_
  refine sp_bipush (v := 16) dX10_count_174 (by decide) ?_
  refine sp_use (fun ho => ?_)
  have hs := hG.1 _ ho
  refine sp_cS (M1 := M0) (r := some (.int (fX10_isWithin a1 13 16))) (st := []) [.int a1, .int 13, .int 16] [.int 16, .int 13, .int a1] [.int (fX10_isWithin a1 13 16)] dX10_count_176 okX10_isWithin tw_471 tw_472 (by decide) (by decide) rfl (Nat.le_of_ble_eq_true rfl) rfl rfl (fun Q hQ => tX10_isWithin hG rfl hQ) ?_
  refine sp_if_eq (tgt := 197) dX10_count_179 (by decide) (fun hc15 => ?_) (fun hc15 => ?_)
  · have h := (if_pos hc15).symm.trans h
    refine sp_iconst (v := (-1)) dX10_count_197 (by decide) ?_
    cases h
    exact sp_iret dX10_count_198 (ty := .int) rfl rfl (fun _ => hQ)
  · have h := (if_neg hc15).symm.trans h
    refine sp_aload_n dX10_count_182 rfl rfl ?_
    refine sp_getR (RX10, TX10, 16) dX10_count_183 clX10 (j := 3) (by decide) tw_418 (wsI_0 hs) (Or.inl ⟨_, rfl⟩) (wsP_0_3 hs) ?_
    refine sp_getR (RX5, TX5, 16) dX10_count_186 clX5 (j := 12) (by decide) tw_214 (wsI_6 hs) (Or.inr ⟨_, rfl⟩) (wsP_6_12 hs) ?_
    refine sp_iload_n dX10_count_189 rfl rfl ?_
    refine sp_bipush (v := 13) dX10_count_190 (by decide) ?_
    refine sp_isub dX10_count_192 ?_
    obtain ⟨j16, hj16, h⟩ := Option.bind_eq_some_iff.mp h
    refine sp_iald2 (j := j16) dX10_count_193 (wsA_16 hs) (wsN_16 hs) hj16 ?_
    refine sp_goto (tgt := 198) dX10_count_194 (by decide) ?_
    cases h
    exact sp_iret dX10_count_198 (ty := .int) rfl rfl (fun _ => hQ)
