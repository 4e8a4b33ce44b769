def fX7_startOrders (M : sp_Mem) (o0 : Nat) : Option sp_Mem :=
  sp_do (sp_setI M o0 5 0) fun M1 => sp_do (sp_setI M1 o0 4 (-1)) fun M2 => some M2
set_option maxRecDepth 100000 in
set_option maxHeartbeats 4000000 in
theorem tX7_startOrders {g : sp_G} {Ω : sp_Mem → Prop} {Q : sp_Qt} {p : sp_Mem} (hG : sp_Ok Ω) {o0 : Nat} (ho0 : sp_stage o0) {M : sp_Mem} (h : fX7_startOrders M o0 = some p) (hQ : Q none p) : sp_Mt g Ω mX7_startOrders 0 0 [.ref o0] M Q := by
  unfold fX7_startOrders at h
  refine sp_Mt.of [some (.ref o0)] (by decide) (by simp [sp_ent, Value.category]) rfl ?_
  refine sp_aload_n dX7_startOrders_0 rfl rfl ?_
  refine sp_iconst (v := 0) dX7_startOrders_1 (by decide) ?_
  refine sp_use (fun ho => ?_)
  have hs := hG.1 _ ho
  obtain ⟨M1, hM1, h⟩ := sp_do_e h
  refine sp_putI2 (RX7, TX7, 6) hG dX7_startOrders_2 clX7 (j := 5) (by decide) tw_281 rfl (Or.inl rfl) (sgI hs ho0) hM1 ?_
  refine sp_aload_n dX7_startOrders_5 rfl rfl ?_
  refine sp_iconst (v := (-1)) dX7_startOrders_6 (by decide) ?_
  refine sp_use (fun ho => ?_)
  have hs := hG.1 _ ho
  obtain ⟨M2, hM2, h⟩ := sp_do_e h
  refine sp_putI2 (RX7, TX7, 6) hG dX7_startOrders_7 clX7 (j := 4) (by decide) tw_280 rfl (Or.inl rfl) (sgI hs ho0) hM2 ?_
  cases h
  exact sp_vret dX7_startOrders_10 rfl (fun _ => hQ)
def fX7_lookAround_j89 (F : Nat) (o0 : Nat) (kb : Int32 → sp_Mem → Option sp_Mem) (kx : sp_Mem → Option sp_Mem) (a1 : Int32) (a2 : Int32) (s0 : Int32) (s1 : Int32) (M : sp_Mem) : Option sp_Mem :=
  (sp_ix 16 s1).bind fun j9 => sp_do (sp_setI M (o0 + 16) j9 s0) fun M10 => if a2 = 0 then ((sp_ix 16 (10 + a1)).bind fun j12 => sp_do (sp_setI M10 (o0 + 16) j12 (-1)) fun M13 => kb (a1 + 1) M13) else ((sp_ix 6 a1).bind fun j14 => (sp_ix 16 (10 + a1)).bind fun j15 => sp_do (sp_setI M10 (o0 + 16) j15 (sp_I M10 ((o0 + 1) + 2) j14)) fun M16 => kb (a1 + 1) M16)
def fX7_lookAround_l50 (F : Nat) (o0 : Nat) (kx : sp_Mem → Option sp_Mem) : Nat → Int32 → sp_Mem → Option sp_Mem
  | 0, _, _ => none
  | n + 1, a1, M =>
  if 6 ≤ a1 then (kx M) else (sp_do ((fX5_hasSpark M (o0 + 1) a1)) fun u7 => if u7 = 0 then (fX7_lookAround_j89 F o0 (fX7_lookAround_l50 F o0 kx n) kx a1 u7 (-1) (4 + a1) M) else ((sp_ix 6 a1).bind fun j17 => fX7_lookAround_j89 F o0 (fX7_lookAround_l50 F o0 kx n) kx a1 u7 (sp_I M ((o0 + 1) + 3) j17) (4 + a1) M))
def fX7_lookAround (F : Nat) (M : sp_Mem) (o0 : Nat) : Option sp_Mem :=
  sp_do (sp_setI M (o0 + 16) 0 (sp_I M ((o0 + 1) + 10) 0)) fun M1 => sp_do (sp_setI M1 (o0 + 16) 1 (sp_I M1 o0 5)) fun M2 => sp_do (sp_setI M2 (o0 + 16) 2 (sp_I M2 o0 4)) fun M3 => (fX5_looseSparks F M3 (o0 + 1)).bind fun v4 => sp_do (sp_setI M3 (o0 + 16) 3 v4) fun M5 => fX7_lookAround_l50 F o0 (fun M18 => some M18) F 0 M5
set_option maxRecDepth 100000 in
set_option maxHeartbeats 4000000 in
theorem tX7_lookAround_j89 {g : sp_G} {Ω : sp_Mem → Prop} {Q : sp_Qt} {F : Nat} {p : sp_Mem} (hG : sp_Ok Ω) {o0 : Nat} (ho0 : sp_stage o0)  {kb : Int32 → sp_Mem → Option sp_Mem} {kx : sp_Mem → Option sp_Mem} (hQ : Q none p) (hb : ∀ (a1 : Int32) (M : sp_Mem), kb a1 M = some p → sp_Wp g Ω mX7_lookAround 0 0 50 [some (.ref o0), some (.int a1), none] [] M Q) (hx : ∀  (M : sp_Mem), kx M = some p → sp_Wp g Ω mX7_lookAround 0 0 122 [none, none, none] [] M Q) (a1 : Int32) (a2 : Int32) (s0 : Int32) (s1 : Int32) (M : sp_Mem) (h : fX7_lookAround_j89 F o0 kb kx a1 a2 s0 s1 M = some p) : sp_Wp g Ω mX7_lookAround 0 0 89 [some (.ref o0), some (.int a1), some (.int a2)] [.int s0, .int s1, .ref (o0 + 16)] M Q := by
  unfold fX7_lookAround_j89 at h
  refine sp_use (fun ho => ?_)
  have hs := hG.1 _ ho
  obtain ⟨j9, hj9, h⟩ := Option.bind_eq_some_iff.mp h
  obtain ⟨M10, hM10, h⟩ := sp_do_e h
  refine sp_iast2 (j := j9) hG dX7_lookAround_89 (sgA_16 hs ho0) (sgN_16 hs ho0) hj9 hM10 ?_
  refine sp_aload_n dX7_lookAround_90 rfl rfl ?_
  refine sp_use (fun ho => ?_)
  have hs := hG.1 _ ho
  refine sp_getR (RX7, TX7, 6) dX7_lookAround_91 clX7 (j := 3) (by decide) tw_279 (sgI hs ho0) (Or.inr ⟨_, rfl⟩) (sgP_3 hs ho0) ?_
  refine sp_bipush (v := 10) dX7_lookAround_94 (by decide) ?_
  refine sp_iload_n dX7_lookAround_96 rfl rfl ?_
  refine sp_iadd dX7_lookAround_97 ?_
  refine sp_iload_n dX7_lookAround_98 rfl rfl ?_
  refine sp_if_eq (tgt := 114) dX7_lookAround_99 (by decide) (fun hc11 => ?_) (fun hc11 => ?_)
  · have h := (if_pos hc11).symm.trans h
    refine sp_iconst (v := (-1)) dX7_lookAround_114 (by decide) ?_
    obtain ⟨j12, hj12, h⟩ := Option.bind_eq_some_iff.mp h
    obtain ⟨M13, hM13, h⟩ := sp_do_e h
    refine sp_iast2 (j := j12) hG dX7_lookAround_115 (sgA_16 hs ho0) (sgN_16 hs ho0) hj12 hM13 ?_
    refine sp_iinc (v := (a1 + 1)) [some (.ref o0), some (.int (a1 + 1)), some (.int a2)] dX7_lookAround_116 rfl rfl (by decide) rfl ?_
    refine sp_goto (tgt := 50) dX7_lookAround_119 (by decide) ?_
    refine sp_weak [true, true, false] [some (.ref o0), some (.int (a1 + 1)), none] rfl ?_
    exact hb _ _ h
  · have h := (if_neg hc11).symm.trans h
    refine sp_aload_n dX7_lookAround_102 rfl rfl ?_
    refine sp_getR (RX7, TX7, 6) dX7_lookAround_103 clX7 (j := 0) (by decide) tw_274 (sgI hs ho0) (Or.inl ⟨_, rfl⟩) (sgP_0 hs ho0) ?_
    refine sp_getR (RX5, TX5, 16) dX7_lookAround_106 clX5 (j := 1) (by decide) tw_173 (rmI hs (sg_room ho0)) (Or.inr ⟨_, rfl⟩) (rmP_1 hs (sg_room ho0)) ?_
    refine sp_iload_n dX7_lookAround_109 rfl rfl ?_
    obtain ⟨j14, hj14, h⟩ := Option.bind_eq_some_iff.mp h
    refine sp_iald2 (j := j14) dX7_lookAround_110 (rmA_2 hs (sg_room ho0)) (rmN_2 hs (sg_room ho0)) hj14 ?_
    refine sp_goto (tgt := 115) dX7_lookAround_111 (by decide) ?_
    obtain ⟨j15, hj15, h⟩ := Option.bind_eq_some_iff.mp h
    obtain ⟨M16, hM16, h⟩ := sp_do_e h
    refine sp_iast2 (j := j15) hG dX7_lookAround_115 (sgA_16 hs ho0) (sgN_16 hs ho0) hj15 hM16 ?_
    refine sp_iinc (v := (a1 + 1)) [some (.ref o0), some (.int (a1 + 1)), some (.int a2)] dX7_lookAround_116 rfl rfl (by decide) rfl ?_
    refine sp_goto (tgt := 50) dX7_lookAround_119 (by decide) ?_
    refine sp_weak [true, true, false] [some (.ref o0), some (.int (a1 + 1)), none] rfl ?_
    exact hb _ _ h
set_option maxRecDepth 100000 in
set_option maxHeartbeats 4000000 in
theorem tX7_lookAround_l50 {g : sp_G} {Ω : sp_Mem → Prop} {Q : sp_Qt} {F : Nat} {p : sp_Mem} (hG : sp_Ok Ω) {o0 : Nat} (ho0 : sp_stage o0)  {kx : sp_Mem → Option sp_Mem} (hQ : Q none p) (hx : ∀  (M : sp_Mem), kx M = some p → sp_Wp g Ω mX7_lookAround 0 0 122 [none, none, none] [] M Q) : ∀ (n : Nat) (a1 : Int32) (M : sp_Mem), fX7_lookAround_l50 F o0 kx n a1 M = some p → sp_Wp g Ω mX7_lookAround 0 0 50 [some (.ref o0), some (.int a1), none] [] M Q := by
  intro n
  induction n with
  | zero =>
    intro a1 M h
    rw [fX7_lookAround_l50] at h
    cases h
  | succ n ih =>
    intro a1 M h
    rw [fX7_lookAround_l50] at h
    refine sp_iload_n dX7_lookAround_50 rfl rfl ?_
    refine sp_bipush (v := 6) dX7_lookAround_51 (by decide) ?_
    refine sp_icmp_ge (tgt := 122) dX7_lookAround_53 (by decide) (fun hc6 => ?_) (fun hc6 => ?_)
    · have h := (if_pos hc6).symm.trans h
      refine sp_weak [false, false, false] [none, none, none] rfl ?_
      exact hx _ h
    · have h := (if_neg hc6).symm.trans h
      refine sp_aload_n dX7_lookAround_56 rfl rfl ?_
      refine sp_use (fun ho => ?_)
      have hs := hG.1 _ ho
      refine sp_getR (RX7, TX7, 6) dX7_lookAround_57 clX7 (j := 0) (by decide) tw_274 (sgI hs ho0) (Or.inl ⟨_, rfl⟩) (sgP_0 hs ho0) ?_
      refine sp_iload_n dX7_lookAround_60 rfl rfl ?_
      refine sp_cV (M1 := M) (r := some (.int (fX5_hasSpark M (o0 + 1) a1))) (o := (o0 + 1)) (st := []) (c := 4) (RX5, TX5, 16) [.int a1] [.int a1, .ref (o0 + 1)] [.int (fX5_hasSpark M (o0 + 1) a1)] dX7_lookAround_61 okX5_hasSpark tw_878 tw_495 tw_496 (by decide) (by decide) rfl (Nat.le_of_ble_eq_true rfl) rfl rfl rfl rfl (rmI hs (sg_room ho0)) (fun Q hQ => tX5_hasSpark hG (sg_room ho0) rfl hQ) ?_
      obtain ⟨u7, hu7, h⟩ := sp_do_e h
      refine sp_topi hu7 ?_
      refine sp_istore_n [some (.ref o0), some (.int a1), some (.int u7)] dX7_lookAround_64 rfl (by decide) rfl ?_
      refine sp_aload_n dX7_lookAround_65 rfl rfl ?_
      refine sp_getR (RX7, TX7, 6) dX7_lookAround_66 clX7 (j := 3) (by decide) tw_279 (sgI hs ho0) (Or.inr ⟨_, rfl⟩) (sgP_3 hs ho0) ?_
      refine sp_iconst (v := 4) dX7_lookAround_69 (by decide) ?_
      refine sp_iload_n dX7_lookAround_70 rfl rfl ?_
      refine sp_iadd dX7_lookAround_71 ?_
      refine sp_iload_n dX7_lookAround_72 rfl rfl ?_
      refine sp_if_eq (tgt := 88) dX7_lookAround_73 (by decide) (fun hc8 => ?_) (fun hc8 => ?_)
      · have h := (if_pos hc8).symm.trans h
        refine sp_iconst (v := (-1)) dX7_lookAround_88 (by decide) ?_
        refine sp_weak [true, true, true] [some (.ref o0), some (.int a1), some (.int u7)] rfl ?_
        exact tX7_lookAround_j89 hG ho0 hQ ih hx _ _ _ _ _ h
      · have h := (if_neg hc8).symm.trans h
        refine sp_aload_n dX7_lookAround_76 rfl rfl ?_
        refine sp_getR (RX7, TX7, 6) dX7_lookAround_77 clX7 (j := 0) (by decide) tw_274 (sgI hs ho0) (Or.inl ⟨_, rfl⟩) (sgP_0 hs ho0) ?_
        refine sp_getR (RX5, TX5, 16) dX7_lookAround_80 clX5 (j := 2) (by decide) tw_177 (rmI hs (sg_room ho0)) (Or.inr ⟨_, rfl⟩) (rmP_2 hs (sg_room ho0)) ?_
        refine sp_iload_n dX7_lookAround_83 rfl rfl ?_
        obtain ⟨j17, hj17, h⟩ := Option.bind_eq_some_iff.mp h
        refine sp_iald2 (j := j17) dX7_lookAround_84 (rmA_3 hs (sg_room ho0)) (rmN_3 hs (sg_room ho0)) hj17 ?_
        refine sp_goto (tgt := 89) dX7_lookAround_85 (by decide) ?_
        refine sp_weak [true, true, true] [some (.ref o0), some (.int a1), some (.int u7)] rfl ?_
        exact tX7_lookAround_j89 hG ho0 hQ ih hx _ _ _ _ _ h
set_option maxRecDepth 100000 in
set_option maxHeartbeats 4000000 in
theorem tX7_lookAround {g : sp_G} {Ω : sp_Mem → Prop} {Q : sp_Qt} {F : Nat} {p : sp_Mem} (hG : sp_Ok Ω) {o0 : Nat} (ho0 : sp_stage o0) {M : sp_Mem} (h : fX7_lookAround F M o0 = some p) (hQ : Q none p) : sp_Mt g Ω mX7_lookAround 0 0 [.ref o0] M Q := by
  unfold fX7_lookAround at h
  refine sp_Mt.of [some (.ref o0), none, none] (by decide) (by simp [sp_ent, Value.category]) rfl ?_
  refine sp_aload_n dX7_lookAround_0 rfl rfl ?_
  refine sp_use (fun ho => ?_)
  have hs := hG.1 _ ho
  refine sp_getR (RX7, TX7, 6) dX7_lookAround_1 clX7 (j := 3) (by decide) tw_279 (sgI hs ho0) (Or.inr ⟨_, rfl⟩) (sgP_3 hs ho0) ?_
  refine sp_iconst (v := 0) dX7_lookAround_4 (by decide) ?_
  refine sp_aload_n dX7_lookAround_5 rfl rfl ?_
  refine sp_getR (RX7, TX7, 6) dX7_lookAround_6 clX7 (j := 0) (by decide) tw_274 (sgI hs ho0) (Or.inl ⟨_, rfl⟩) (sgP_0 hs ho0) ?_
  refine sp_getR (RX5, TX5, 16) dX7_lookAround_9 clX5 (j := 12) (by decide) tw_212 (rmI hs (sg_room ho0)) (Or.inr ⟨_, rfl⟩) (rmP_12 hs (sg_room ho0)) ?_
  refine sp_iconst (v := 0) dX7_lookAround_12 (by decide) ?_
  refine sp_iald2 (j := 0) dX7_lookAround_13 (rmA_10 hs (sg_room ho0)) (rmN_10 hs (sg_room ho0)) rfl ?_
  obtain ⟨M1, hM1, h⟩ := sp_do_e h
  refine sp_iast2 (j := 0) hG dX7_lookAround_14 (sgA_16 hs ho0) (sgN_16 hs ho0) rfl hM1 ?_
  refine sp_aload_n dX7_lookAround_15 rfl rfl ?_
  refine sp_use (fun ho => ?_)
  have hs := hG.1 _ ho
  refine sp_getR (RX7, TX7, 6) dX7_lookAround_16 clX7 (j := 3) (by decide) tw_279 (sgI hs ho0) (Or.inr ⟨_, rfl⟩) (sgP_3 hs ho0) ?_
  refine sp_iconst (v := 1) dX7_lookAround_19 (by decide) ?_
  refine sp_aload_n dX7_lookAround_20 rfl rfl ?_
  refine sp_getI (RX7, TX7, 6) dX7_lookAround_21 clX7 (j := 5) (by decide) tw_281 (sgI hs ho0) (Or.inl rfl) ?_
  obtain ⟨M2, hM2, h⟩ := sp_do_e h
  refine sp_iast2 (j := 1) hG dX7_lookAround_24 (sgA_16 hs ho0) (sgN_16 hs ho0) rfl hM2 ?_
  refine sp_aload_n dX7_lookAround_25 rfl rfl ?_
  refine sp_use (fun ho => ?_)
  have hs := hG.1 _ ho
  refine sp_getR (RX7, TX7, 6) dX7_lookAround_26 clX7 (j := 3) (by decide) tw_279 (sgI hs ho0) (Or.inr ⟨_, rfl⟩) (sgP_3 hs ho0) ?_
  refine sp_iconst (v := 2) dX7_lookAround_29 (by decide) ?_
  refine sp_aload_n dX7_lookAround_30 rfl rfl ?_
  refine sp_getI (RX7, TX7, 6) dX7_lookAround_31 clX7 (j := 4) (by decide) tw_280 (sgI hs ho0) (Or.inl rfl) ?_
  obtain ⟨M3, hM3, h⟩ := sp_do_e h
  refine sp_iast2 (j := 2) hG dX7_lookAround_34 (sgA_16 hs ho0) (sgN_16 hs ho0) rfl hM3 ?_
  refine sp_aload_n dX7_lookAround_35 rfl rfl ?_
  refine sp_use (fun ho => ?_)
  have hs := hG.1 _ ho
  refine sp_getR (RX7, TX7, 6) dX7_lookAround_36 clX7 (j := 3) (by decide) tw_279 (sgI hs ho0) (Or.inr ⟨_, rfl⟩) (sgP_3 hs ho0) ?_
  refine sp_iconst (v := 3) dX7_lookAround_39 (by decide) ?_
  refine sp_aload_n dX7_lookAround_40 rfl rfl ?_
  refine sp_getR (RX7, TX7, 6) dX7_lookAround_41 clX7 (j := 0) (by decide) tw_274 (sgI hs ho0) (Or.inl ⟨_, rfl⟩) (sgP_0 hs ho0) ?_
  obtain ⟨v4, hv4, h⟩ := Option.bind_eq_some_iff.mp h
  refine sp_cV (M1 := M3) (r := some (.int v4)) (o := (o0 + 1)) (st := [.int 3, .ref (o0 + 16)]) (c := 4) (RX5, TX5, 16) [] [.ref (o0 + 1), .int 3, .ref (o0 + 16)] [.int v4, .int 3, .ref (o0 + 16)] dX7_lookAround_44 okX5_looseSparks tw_874 tw_875 tw_876 (by decide) (by decide) rfl (Nat.le_of_ble_eq_true rfl) rfl rfl rfl rfl (rmI hs (sg_room ho0)) (fun Q hQ => tX5_looseSparks hG (sg_room ho0) hv4 hQ) ?_
  obtain ⟨M5, hM5, h⟩ := sp_do_e h
  refine sp_iast2 (j := 3) hG dX7_lookAround_47 (sgA_16 hs ho0) (sgN_16 hs ho0) rfl hM5 ?_
  refine sp_iconst (v := 0) dX7_lookAround_48 (by decide) ?_
  refine sp_istore_n [some (.ref o0), some (.int 0), none] dX7_lookAround_49 rfl (by decide) rfl ?_
  refine sp_weak [true, true, false] [some (.ref o0), some (.int 0), none] rfl ?_
  refine tX7_lookAround_l50 hG ho0 hQ (fun M18 h => ?_) F _ _ h
  cases h
  exact sp_vret dX7_lookAround_122 rfl (fun _ => hQ)
def fX7_runClause_j105 (F : Nat) (o0 : Nat) (o1 : Nat) (kb : Int32 → Int32 → Int32 → Int32 → sp_Mem → Option (Int32 × sp_Mem)) (kx : sp_Mem → Option (Int32 × sp_Mem)) (a2 : Int32) (a3 : Int32) (a4 : Int32) (a5 : Int32) (s0 : Int32) (M : sp_Mem) : Option (Int32 × sp_Mem) :=
  if 0 ≤ s0 then (sp_do (sp_setI M o0 5 ((sp_I M o0 5) + 1)) fun M11 => if a3 = 0 then (sp_do (sp_setI M11 o0 4 s0) fun M14 => kb a2 a3 a4 (a5 + 1) M14) else (sp_do (sp_setI M11 o0 4 (sp_I M11 o0 4)) fun M13 => kb a2 a3 a4 (a5 + 1) M13)) else (some (0, M))
def fX7_runClause_j91 (F : Nat) (o0 : Nat) (o1 : Nat) (kb : Int32 → Int32 → Int32 → Int32 → sp_Mem → Option (Int32 × sp_Mem)) (kx : sp_Mem → Option (Int32 × sp_Mem)) (a2 : Int32) (a3 : Int32) (a4 : Int32) (a5 : Int32) (M : sp_Mem) : Option (Int32 × sp_Mem) :=
  fX7_runClause_j105 F o0 o1 kb kx a2 a3 a4 a5 (-3) M
def fX7_runClause_l18 (F : Nat) (o0 : Nat) (o1 : Nat) (kx : sp_Mem → Option (Int32 × sp_Mem)) : Nat → Int32 → Int32 → Int32 → Int32 → sp_Mem → Option (Int32 × sp_Mem)
  | 0, _, _, _, _, _ => none
  | n + 1, a2, a3, a4, a5, M =>
  if a4 ≤ a5 then (kx M) else ((fX7_lookAround F M o0).bind fun M4 => (fX6_isSo F M4 o1 a2 (o0 + 16)).bind fun x5 => if x5.1 = 0 then ((fX7_runClause_l18 F o0 o1 kx n) a2 a3 a4 (a5 + 1) x5.2) else ((fX6_sumOf F x5.2 o1 a2 1 (o0 + 16)).bind fun x7 => (fX6_sumOf F x7.2 o1 a2 2 (o0 + 16)).bind fun x8 => if x7.1 = (-2000000000) then (fX7_runClause_j91 F o0 o1 (fX7_runClause_l18 F o0 o1 kx n) kx a2 a3 a4 a5 x8.2) else (if x8.1 = (-2000000000) then (fX7_runClause_j91 F o0 o1 (fX7_runClause_l18 F o0 o1 kx n) kx a2 a3 a4 a5 x8.2) else ((fX7_perform F x8.2 o0 a3 x7.1 x8.1).bind fun x16 => fX7_runClause_j105 F o0 o1 (fX7_runClause_l18 F o0 o1 kx n) kx a2 a3 a4 a5 x16.1 x16.2))))
def fX7_runClause (F : Nat) (M : sp_Mem) (o0 : Nat) (o1 : Nat) (a2 : Int32) : Option (Int32 × sp_Mem) :=
  (fX9_slot M o1 a2 0).bind fun v1 => (fX9_slot M o1 a2 3).bind fun v2 => fX7_runClause_l18 F o0 o1 (fun M17 => some (1, M17)) F a2 v1 v2 0 M
set_option maxRecDepth 100000 in
set_option maxHeartbeats 4000000 in
theorem tX7_runClause_j105 {g : sp_G} {Ω : sp_Mem → Prop} {Q : sp_Qt} {F : Nat} {p : (Int32 × sp_Mem)} (hG : sp_Ok Ω) {o0 : Nat} (ho0 : sp_stage o0) {o1 : Nat} (ho1 : ∀ M, Ω M → sp_text M o1)  {kb : Int32 → Int32 → Int32 → Int32 → sp_Mem → Option (Int32 × sp_Mem)} {kx : sp_Mem → Option (Int32 × sp_Mem)} (hQ : Q (some (.int p.1)) p.2) (hb : ∀ (a2 : Int32) (a3 : Int32) (a4 : Int32) (a5 : Int32) (M : sp_Mem), kb a2 a3 a4 a5 M = some p → sp_Wp g Ω mX7_runClause 0 0 18 [some (.ref o0), some (.ref o1), some (.int a2), some (.int a3), some (.int a4), some (.int a5), none, none, none] [] M Q) (hx : ∀  (M : sp_Mem), kx M = some p → sp_Wp g Ω mX7_runClause 0 0 147 [none, none, none, none, none, none, none, none, none] [] M Q) (a2 : Int32) (a3 : Int32) (a4 : Int32) (a5 : Int32) (s0 : Int32) (M : sp_Mem) (h : fX7_runClause_j105 F o0 o1 kb kx a2 a3 a4 a5 s0 M = some p) : sp_Wp g Ω mX7_runClause 0 0 105 [some (.ref o0), some (.ref o1), some (.int a2), some (.int a3), some (.int a4), some (.int a5), none, none, none] [.int s0] M Q := by
  unfold fX7_runClause_j105 at h
  refine sp_istore [some (.ref o0), some (.ref o1), some (.int a2), some (.int a3), some (.int a4), some (.int a5), none, none, some (.int s0)] dX7_runClause_105 (by decide) rfl ?_
  refine sp_iload dX7_runClause_107 rfl ?_
  refine sp_if_ge (tgt := 114) dX7_runClause_109 (by decide) (fun hc10 => ?_) (fun hc10 => ?_)
  · have h := (if_pos hc10).symm.trans h
    refine sp_aload_n dX7_runClause_114 rfl rfl ?_
    refine sp_dup dX7_runClause_115 rfl ?_
    refine sp_use (fun ho => ?_)
    have hs := hG.1 _ ho
    refine sp_getI (RX7, TX7, 6) dX7_runClause_116 clX7 (j := 5) (by decide) tw_281 (sgI hs ho0) (Or.inl rfl) ?_
    refine sp_iconst (v := 1) dX7_runClause_119 (by decide) ?_
    refine sp_iadd dX7_runClause_120 ?_
    obtain ⟨M11, hM11, h⟩ := sp_do_e h
    refine sp_putI2 (RX7, TX7, 6) hG dX7_runClause_121 clX7 (j := 5) (by decide) tw_281 rfl (Or.inl rfl) (sgI hs ho0) hM11 ?_
    refine sp_aload_n dX7_runClause_124 rfl rfl ?_
    refine sp_iload_n dX7_runClause_125 rfl rfl ?_
    refine sp_if_ne (tgt := 134) dX7_runClause_126 (by decide) (fun hc12 => ?_) (fun hc12 => ?_)
    · have h := (if_neg hc12).symm.trans h
      refine sp_aload_n dX7_runClause_134 rfl rfl ?_
      refine sp_use (fun ho => ?_)
      have hs := hG.1 _ ho
      refine sp_getI (RX7, TX7, 6) dX7_runClause_135 clX7 (j := 4) (by decide) tw_280 (sgI hs ho0) (Or.inl rfl) ?_
      obtain ⟨M13, hM13, h⟩ := sp_do_e h
      refine sp_putI2 (RX7, TX7, 6) hG dX7_runClause_138 clX7 (j := 4) (by decide) tw_280 rfl (Or.inl rfl) (sgI hs ho0) hM13 ?_
      refine sp_iinc (v := (a5 + 1)) [some (.ref o0), some (.ref o1), some (.int a2), some (.int a3), some (.int a4), some (.int (a5 + 1)), none, none, some (.int s0)] dX7_runClause_141 rfl rfl (by decide) rfl ?_
      refine sp_goto (tgt := 18) dX7_runClause_144 (by decide) ?_
      refine sp_weak [true, true, true, true, true, true, false, false, false] [some (.ref o0), some (.ref o1), some (.int a2), some (.int a3), some (.int a4), some (.int (a5 + 1)), none, none, none] rfl ?_
      exact hb _ _ _ _ _ h
    · have h := (if_pos hc12).symm.trans h
      refine sp_iload dX7_runClause_129 rfl ?_
      refine sp_goto (tgt := 138) dX7_runClause_131 (by decide) ?_
      refine sp_use (fun ho => ?_)
      have hs := hG.1 _ ho
      obtain ⟨M14, hM14, h⟩ := sp_do_e h
      refine sp_putI2 (RX7, TX7, 6) hG dX7_runClause_138 clX7 (j := 4) (by decide) tw_280 rfl (Or.inl rfl) (sgI hs ho0) hM14 ?_
      refine sp_iinc (v := (a5 + 1)) [some (.ref o0), some (.ref o1), some (.int a2), some (.int a3), some (.int a4), some (.int (a5 + 1)), none, none, some (.int s0)] dX7_runClause_141 rfl rfl (by decide) rfl ?_
      refine sp_goto (tgt := 18) dX7_runClause_144 (by decide) ?_
      refine sp_weak [true, true, true, true, true, true, false, false, false] [some (.ref o0), some (.ref o1), some (.int a2), some (.int a3), some (.int a4), some (.int (a5 + 1)), none, none, none] rfl ?_
      exact hb _ _ _ _ _ h
  · have h := (if_neg hc10).symm.trans h
    refine sp_iconst (v := 0) dX7_runClause_112 (by decide) ?_
    cases h
    exact sp_iret dX7_runClause_113 (ty := .boolean) rfl (sp_nz (Or.inl rfl)) (fun _ => hQ)
set_option maxRecDepth 100000 in
set_option maxHeartbeats 4000000 in
theorem tX7_runClause_j91 {g : sp_G} {Ω : sp_Mem → Prop} {Q : sp_Qt} {F : Nat} {p : (Int32 × sp_Mem)} (hG : sp_Ok Ω) {o0 : Nat} (ho0 : sp_stage o0) {o1 : Nat} (ho1 : ∀ M, Ω M → sp_text M o1)  {kb : Int32 → Int32 → Int32 → Int32 → sp_Mem → Option (Int32 × sp_Mem)} {kx : sp_Mem → Option (Int32 × sp_Mem)} (hQ : Q (some (.int p.1)) p.2) (hb : ∀ (a2 : Int32) (a3 : Int32) (a4 : Int32) (a5 : Int32) (M : sp_Mem), kb a2 a3 a4 a5 M = some p → sp_Wp g Ω mX7_runClause 0 0 18 [some (.ref o0), some (.ref o1), some (.int a2), some (.int a3), some (.int a4), some (.int a5), none, none, none] [] M Q) (hx : ∀  (M : sp_Mem), kx M = some p → sp_Wp g Ω mX7_runClause 0 0 147 [none, none, none, none, none, none, none, none, none] [] M Q) (a2 : Int32) (a3 : Int32) (a4 : Int32) (a5 : Int32) (M : sp_Mem) (h : fX7_runClause_j91 F o0 o1 kb kx a2 a3 a4 a5 M = some p) : sp_Wp g Ω mX7_runClause 0 0 91 [some (.ref o0), some (.ref o1), some (.int a2), some (.int a3), some (.int a4), some (.int a5), none, none, none] [] M Q := by
  unfold fX7_runClause_j91 at h
  refine sp_bipush (v := (-3)) dX7_runClause_91 (by decide) ?_
  refine sp_goto (tgt := 105) dX7_runClause_93 (by decide) ?_
  refine sp_weak [true, true, true, true, true, true, false, false, false] [some (.ref o0), some (.ref o1), some (.int a2), some (.int a3), some (.int a4), some (.int a5), none, none, none] rfl ?_
  exact tX7_runClause_j105 hG ho0 ho1 hQ hb hx _ _ _ _ _ _ h
set_option maxRecDepth 100000 in
set_option maxHeartbeats 4000000 in
theorem tX7_runClause_l18 {g : sp_G} {Ω : sp_Mem → Prop} {Q : sp_Qt} {F : Nat} {p : (Int32 × sp_Mem)} (hG : sp_Ok Ω) {o0 : Nat} (ho0 : sp_stage o0) {o1 : Nat} (ho1 : ∀ M, Ω M → sp_text M o1)  {kx : sp_Mem → Option (Int32 × sp_Mem)} (hQ : Q (some (.int p.1)) p.2) (hx : ∀  (M : sp_Mem), kx M = some p → sp_Wp g Ω mX7_runClause 0 0 147 [none, none, none, none, none, none, none, none, none] [] M Q) : ∀ (n : Nat) (a2 : Int32) (a3 : Int32) (a4 : Int32) (a5 : Int32) (M : sp_Mem), fX7_runClause_l18 F o0 o1 kx n a2 a3 a4 a5 M = some p → sp_Wp g Ω mX7_runClause 0 0 18 [some (.ref o0), some (.ref o1), some (.int a2), some (.int a3), some (.int a4), some (.int a5), none, none, none] [] M Q := by
  intro n
  induction n with
  | zero =>
    intro a2 a3 a4 a5 M h
    rw [fX7_runClause_l18] at h
    cases h
  | succ n ih =>
    intro a2 a3 a4 a5 M h
    rw [fX7_runClause_l18] at h
    refine sp_iload dX7_runClause_18 rfl ?_
    refine sp_iload dX7_runClause_20 rfl ?_
    refine sp_icmp_ge (tgt := 147) dX7_runClause_22 (by decide) (fun hc3 => ?_) (fun hc3 => ?_)
    · have h := (if_pos hc3).symm.trans h
      refine sp_weak [false, false, false, false, false, false, false, false, false] [none, none, none, none, none, none, none, none, none] rfl ?_
      exact hx _ h
    · have h := (if_neg hc3).symm.trans h
      refine sp_aload_n dX7_runClause_25 rfl rfl ?_
      refine sp_use (fun ho => ?_)
      have hs := hG.1 _ ho
      obtain ⟨M4, hM4, h⟩ := Option.bind_eq_some_iff.mp h
      refine sp_cV (M1 := M4) (r := none) (o := o0) (st := []) (c := 6) (RX7, TX7, 6) [] [.ref o0] [] dX7_runClause_26 okX7_lookAround tw_870 tw_872 tw_20 (by decide) (by decide) rfl (Nat.le_of_ble_eq_true rfl) rfl rfl rfl rfl (sgI hs ho0) (fun Q hQ => tX7_lookAround hG ho0 hM4 hQ) ?_
      refine sp_aload_n dX7_runClause_29 rfl rfl ?_
      refine sp_use (fun ho => ?_)
      have hs := hG.1 _ ho
      refine sp_getR (RX7, TX7, 6) dX7_runClause_30 clX7 (j := 2) (by decide) tw_278 (sgI hs ho0) (Or.inl ⟨_, rfl⟩) (sgP_2 hs ho0) ?_
      refine sp_aload_n dX7_runClause_33 rfl rfl ?_
      refine sp_iload_n dX7_runClause_34 rfl rfl ?_
      refine sp_aload_n dX7_runClause_35 rfl rfl ?_
      refine sp_getR (RX7, TX7, 6) dX7_runClause_36 clX7 (j := 3) (by decide) tw_279 (sgI hs ho0) (Or.inr ⟨_, rfl⟩) (sgP_3 hs ho0) ?_
      obtain ⟨x5, hx5, h⟩ := Option.bind_eq_some_iff.mp h
      refine sp_cV (M1 := x5.2) (r := some (.int x5.1)) (o := 1) (st := []) (c := 5) (RX6, TX6, 2) [.ref o1, .int a2, .ref (o0 + 16)] [.ref (o0 + 16), .int a2, .ref o1, .ref 1] [.int x5.1] dX7_runClause_39 okX6_isSo tw_879 tw_880 tw_881 (by decide) (by decide) rfl (Nat.le_of_ble_eq_true rfl) rfl rfl rfl rfl (wsI_1 hs) (fun Q hQ => tX6_isSo hG ho1 (sg_words ho0) hx5 hQ) ?_
      refine sp_if_eq (tgt := 141) dX7_runClause_42 (by decide) (fun hc6 => ?_) (fun hc6 => ?_)
      · have h := (if_pos hc6).symm.trans h
        refine sp_iinc (v := (a5 + 1)) [some (.ref o0), some (.ref o1), some (.int a2), some (.int a3), some (.int a4), some (.int (a5 + 1)), none, none, none] dX7_runClause_141 rfl rfl (by decide) rfl ?_
        refine sp_goto (tgt := 18) dX7_runClause_144 (by decide) ?_
        refine sp_weak [true, true, true, true, true, true, false, false, false] [some (.ref o0), some (.ref o1), some (.int a2), some (.int a3), some (.int a4), some (.int (a5 + 1)), none, none, none] rfl ?_
        exact ih _ _ _ _ _ h
      · have h := (if_neg hc6).symm.trans h
        refine sp_aload_n dX7_runClause_45 rfl rfl ?_
        refine sp_use (fun ho => ?_)
        have hs := hG.1 _ ho
        refine sp_getR (RX7, TX7, 6) dX7_runClause_46 clX7 (j := 2) (by decide) tw_278 (sgI hs ho0) (Or.inl ⟨_, rfl⟩) (sgP_2 hs ho0) ?_
        refine sp_aload_n dX7_runClause_49 rfl rfl ?_
        refine sp_iload_n dX7_runClause_50 rfl rfl ?_
        refine sp_iconst (v := 1) dX7_runClause_51 (by decide) ?_
        refine sp_aload_n dX7_runClause_52 rfl rfl ?_
        refine sp_getR (RX7, TX7, 6) dX7_runClause_53 clX7 (j := 3) (by decide) tw_279 (sgI hs ho0) (Or.inr ⟨_, rfl⟩) (sgP_3 hs ho0) ?_
        obtain ⟨x7, hx7, h⟩ := Option.bind_eq_some_iff.mp h
        refine sp_cV (M1 := x7.2) (r := some (.int x7.1)) (o := 1) (st := []) (c := 5) (RX6, TX6, 2) [.ref o1, .int a2, .int 1, .ref (o0 + 16)] [.ref (o0 + 16), .int 1, .int a2, .ref o1, .ref 1] [.int x7.1] dX7_runClause_56 okX6_sumOf tw_883 tw_884 tw_885 (by decide) (by decide) rfl (Nat.le_of_ble_eq_true rfl) rfl rfl rfl rfl (wsI_1 hs) (fun Q hQ => tX6_sumOf hG ho1 (sg_words ho0) hx7 hQ) ?_
        refine sp_istore [some (.ref o0), some (.ref o1), some (.int a2), some (.int a3), some (.int a4), some (.int a5), some (.int x7.1), none, none] dX7_runClause_59 (by decide) rfl ?_
        refine sp_aload_n dX7_runClause_61 rfl rfl ?_
        refine sp_use (fun ho => ?_)
        have hs := hG.1 _ ho
        refine sp_getR (RX7, TX7, 6) dX7_runClause_62 clX7 (j := 2) (by decide) tw_278 (sgI hs ho0) (Or.inl ⟨_, rfl⟩) (sgP_2 hs ho0) ?_
        refine sp_aload_n dX7_runClause_65 rfl rfl ?_
        refine sp_iload_n dX7_runClause_66 rfl rfl ?_
        refine sp_iconst (v := 2) dX7_runClause_67 (by decide) ?_
        refine sp_aload_n dX7_runClause_68 rfl rfl ?_
        refine sp_getR (RX7, TX7, 6) dX7_runClause_69 clX7 (j := 3) (by decide) tw_279 (sgI hs ho0) (Or.inr ⟨_, rfl⟩) (sgP_3 hs ho0) ?_
        obtain ⟨x8, hx8, h⟩ := Option.bind_eq_some_iff.mp h
        refine sp_cV (M1 := x8.2) (r := some (.int x8.1)) (o := 1) (st := []) (c := 5) (RX6, TX6, 2) [.ref o1, .int a2, .int 2, .ref (o0 + 16)] [.ref (o0 + 16), .int 2, .int a2, .ref o1, .ref 1] [.int x8.1] dX7_runClause_72 okX6_sumOf tw_883 tw_884 tw_885 (by decide) (by decide) rfl (Nat.le_of_ble_eq_true rfl) rfl rfl rfl rfl (wsI_1 hs) (fun Q hQ => tX6_sumOf hG ho1 (sg_words ho0) hx8 hQ) ?_
        refine sp_istore [some (.ref o0), some (.ref o1), some (.int a2), some (.int a3), some (.int a4), some (.int a5), some (.int x7.1), some (.int x8.1), none] dX7_runClause_75 (by decide) rfl ?_
        refine sp_iload dX7_runClause_77 rfl ?_
        refine sp_ldc (v := (-2000000000)) dX7_runClause_79 tw_887 ?_
        refine sp_icmp_eq (tgt := 91) dX7_runClause_81 (by decide) (fun hc9 => ?_) (fun hc9 => ?_)
        · have h := (if_pos hc9).symm.trans h
          refine sp_weak [true, true, true, true, true, true, false, false, false] [some (.ref o0), some (.ref o1), some (.int a2), some (.int a3), some (.int a4), some (.int a5), none, none, none] rfl ?_
          exact tX7_runClause_j91 hG ho0 ho1 hQ ih hx _ _ _ _ _ h
        · have h := (if_neg hc9).symm.trans h
          refine sp_iload dX7_runClause_84 rfl ?_
          refine sp_ldc (v := (-2000000000)) dX7_runClause_86 tw_887 ?_
          refine sp_icmp_ne (tgt := 96) dX7_runClause_88 (by decide) (fun hc15 => ?_) (fun hc15 => ?_)
          · have h := (if_neg hc15).symm.trans h
            refine sp_aload_n dX7_runClause_96 rfl rfl ?_
            refine sp_iload_n dX7_runClause_97 rfl rfl ?_
            refine sp_iload dX7_runClause_98 rfl ?_
            refine sp_iload dX7_runClause_100 rfl ?_
            refine sp_use (fun ho => ?_)
            have hs := hG.1 _ ho
            obtain ⟨x16, hx16, h⟩ := Option.bind_eq_some_iff.mp h
            refine sp_cV (M1 := x16.2) (r := some (.int x16.1)) (o := o0) (st := []) (c := 6) (RX7, TX7, 6) [.int a3, .int x7.1, .int x8.1] [.int x8.1, .int x7.1, .int a3, .ref o0] [.int x16.1] dX7_runClause_102 okX7_perform tw_888 tw_889 tw_890 (by decide) (by decide) rfl (Nat.le_of_ble_eq_true rfl) rfl rfl rfl rfl (sgI hs ho0) (fun Q hQ => tX7_perform hG ho0 hx16 hQ) ?_
            refine sp_weak [true, true, true, true, true, true, false, false, false] [some (.ref o0), some (.ref o1), some (.int a2), some (.int a3), some (.int a4), some (.int a5), none, none, none] rfl ?_
            exact tX7_runClause_j105 hG ho0 ho1 hQ ih hx _ _ _ _ _ _ h
          · have h := (if_pos hc15).symm.trans h
            refine sp_weak [true, true, true, true, true, true, false, false, false] [some (.ref o0), some (.ref o1), some (.int a2), some (.int a3), some (.int a4), some (.int a5), none, none, none] rfl ?_
            exact tX7_runClause_j91 hG ho0 ho1 hQ ih hx _ _ _ _ _ h
set_option maxRecDepth 100000 in
set_option maxHeartbeats 4000000 in
theorem tX7_runClause {g : sp_G} {Ω : sp_Mem → Prop} {Q : sp_Qt} {F : Nat} {p : (Int32 × sp_Mem)} (hG : sp_Ok Ω) {o0 : Nat} (ho0 : sp_stage o0) {o1 : Nat} (ho1 : ∀ M, Ω M → sp_text M o1) {M : sp_Mem} {a2 : Int32} (h : fX7_runClause F M o0 o1 a2 = some p) (hQ : Q (some (.int p.1)) p.2) : sp_Mt g Ω mX7_runClause 0 0 [.ref o0, .ref o1, .int a2] M Q := by
  unfold fX7_runClause at h
  refine sp_Mt.of [some (.ref o0), some (.ref o1), some (.int a2), none, none, none, none, none, none] (by decide) (by simp [sp_ent, Value.category]) rfl ?_
  refine sp_aload_n dX7_runClause_0 rfl rfl ?_
  refine sp_iload_n dX7_runClause_1 rfl rfl ?_
  refine sp_iconst (v := 0) dX7_runClause_2 (by decide) ?_
  refine sp_use (fun ho => ?_)
  have hs := hG.1 _ ho
  obtain ⟨v1, hv1, h⟩ := Option.bind_eq_some_iff.mp h
  refine sp_cV (M1 := M) (r := some (.int v1)) (o := o1) (st := []) (c := 8) (RX9, TX9, 4) [.int a2, .int 0] [.int 0, .int a2, .ref o1] [.int v1] dX7_runClause_3 okX9_slot tw_869 tw_525 tw_526 (by decide) (by decide) rfl (Nat.le_of_ble_eq_true rfl) rfl rfl rfl rfl (ho1 _ ho).1 (fun Q hQ => tX9_slot hG ho1 hv1 hQ) ?_
  refine sp_istore_n [some (.ref o0), some (.ref o1), some (.int a2), some (.int v1), none, none, none, none, none] dX7_runClause_6 rfl (by decide) rfl ?_
  refine sp_aload_n dX7_runClause_7 rfl rfl ?_
  refine sp_iload_n dX7_runClause_8 rfl rfl ?_
  refine sp_iconst (v := 3) dX7_runClause_9 (by decide) ?_
  obtain ⟨v2, hv2, h⟩ := Option.bind_eq_some_iff.mp h
  refine sp_cV (M1 := M) (r := some (.int v2)) (o := o1) (st := []) (c := 8) (RX9, TX9, 4) [.int a2, .int 3] [.int 3, .int a2, .ref o1] [.int v2] dX7_runClause_10 okX9_slot tw_869 tw_525 tw_526 (by decide) (by decide) rfl (Nat.le_of_ble_eq_true rfl) rfl rfl rfl rfl (ho1 _ ho).1 (fun Q hQ => tX9_slot hG ho1 hv2 hQ) ?_
  refine sp_istore [some (.ref o0), some (.ref o1), some (.int a2), some (.int v1), some (.int v2), none, none, none, none] dX7_runClause_13 (by decide) rfl ?_
  refine sp_iconst (v := 0) dX7_runClause_15 (by decide) ?_
  refine sp_istore [some (.ref o0), some (.ref o1), some (.int a2), some (.int v1), some (.int v2), some (.int 0), none, none, none] dX7_runClause_16 (by decide) rfl ?_
  refine sp_weak [true, true, true, true, true, true, false, false, false] [some (.ref o0), some (.ref o1), some (.int a2), some (.int v1), some (.int v2), some (.int 0), none, none, none] rfl ?_
  refine tX7_runClause_l18 hG ho0 ho1 hQ (fun M17 h => ?_) F _ _ _ _ _ h
  refine sp_iconst (v := 1) dX7_runClause_147 (by decide) ?_
  cases h
  exact sp_iret dX7_runClause_148 (ty := .boolean) rfl (sp_nz (Or.inr rfl)) (fun _ => hQ)
def fX8_hasSpace (M0 : sp_Mem) : Int32 :=
  (if 400 < ((sp_I M0 94 1) + 20) then 0 else 1)
set_option maxRecDepth 100000 in
set_option maxHeartbeats 4000000 in
theorem tX8_hasSpace {g : sp_G} {Ω : sp_Mem → Prop} {Q : sp_Qt} {M0 : sp_Mem} {p : Int32} (hG : sp_Ok Ω) (h : fX8_hasSpace M0 = p) (hQ : Q (some (.int p)) M0) : sp_Mt g Ω mX8_hasSpace 0 0 [.ref 94] M0 Q := by
  unfold fX8_hasSpace at h
  refine sp_Mt.of [some (.ref 94)] (by decide) (by simp [sp_ent, Value.category]) rfl ?_
  refine sp_aload_n dX8_hasSpace_0 rfl rfl ?_
  refine sp_use (fun ho => ?_)
  have hs := hG.1 _ ho
  refine sp_getI (RX8, TX8, 5) dX8_hasSpace_1 clX8 (j := 1) (by decide) tw_338 (wsI_94 hs) (Or.inl rfl) ?_
  refine sp_bipush (v := 20) dX8_hasSpace_4 (by decide) ?_
  refine sp_iadd dX8_hasSpace_6 ?_
  refine sp_sipush (v := 400) dX8_hasSpace_7 (by decide) ?_
  suffices hj : sp_Wp g Ω mX8_hasSpace 0 0 18 [none] [.int (if 400 < ((sp_I M0 94 1) + 20) then 0 else 1)] M0 Q by
    refine sp_icmp_gt (tgt := 17) dX8_hasSpace_10 (by decide) (fun hc1 => ?_) (fun hc1 => ?_)
    · refine sp_iconst (v := 0) dX8_hasSpace_17 (by decide) ?_
      refine sp_weak [false] [none] rfl ?_
      simp only [if_pos hc1] at hj
      exact hj
    · refine sp_iconst (v := 1) dX8_hasSpace_13 (by decide) ?_
      refine sp_goto (tgt := 18) dX8_hasSpace_14 (by decide) ?_
      refine sp_weak [false] [none] rfl ?_
      simp only [if_neg hc1] at hj
      exact hj
  cases h
  exact sp_iret dX8_hasSpace_18 (ty := .boolean) rfl (sp_nz (by repeat (first | exact Or.inl rfl | exact Or.inr rfl | split))) (fun _ => hQ)
theorem bX8_hasSpace (M0 : sp_Mem) : fX8_hasSpace M0 = 0 ∨ fX8_hasSpace M0 = 1 := by
  unfold fX8_hasSpace
  repeat (first | exact Or.inl rfl | exact Or.inr rfl | split)
def fX8_append_l3 (F : Nat) (kx : sp_Mem → Option sp_Mem) : Nat → Int32 → Int32 → sp_Mem → Option sp_Mem
  | 0, _, _, _ => none
  | n + 1, a1, a2, M =>
  if a2 < 0 then (kx M) else (if 400 ≤ (sp_I M 94 1) then (kx M) else ((sp_ix 400 (sp_I M 94 1)).bind fun j3 => sp_do (sp_setI M 95 j3 ((a1 >>> (a2 &&& 31)) &&& 255)) fun M4 => sp_do (sp_setI M4 94 1 ((sp_I M4 94 1) + 1)) fun M5 => (fX8_append_l3 F kx n) a1 (a2 + (-8)) M5))
def fX8_append (F : Nat) (M : sp_Mem) (a1 : Int32) : Option sp_Mem :=
  fX8_append_l3 F (fun M6 => some M6) F a1 24 M
set_option maxRecDepth 100000 in
set_option maxHeartbeats 4000000 in
theorem tX8_append_l3 {g : sp_G} {Ω : sp_Mem → Prop} {Q : sp_Qt} {F : Nat} {p : sp_Mem} (hG : sp_Ok Ω)  {kx : sp_Mem → Option sp_Mem} (hQ : Q none p) (hx : ∀  (M : sp_Mem), kx M = some p → sp_Wp g Ω mX8_append 0 0 49 [none, none, none] [] M Q) : ∀ (n : Nat) (a1 : Int32) (a2 : Int32) (M : sp_Mem), fX8_append_l3 F kx n a1 a2 M = some p → sp_Wp g Ω mX8_append 0 0 3 [some (.ref 94), some (.int a1), some (.int a2)] [] M Q := by
  intro n
  induction n with
  | zero =>
    intro a1 a2 M h
    rw [fX8_append_l3] at h
    cases h
  | succ n ih =>
    intro a1 a2 M h
    rw [fX8_append_l3] at h
    refine sp_iload_n dX8_append_3 rfl rfl ?_
    refine sp_if_lt (tgt := 49) dX8_append_4 (by decide) (fun hc1 => ?_) (fun hc1 => ?_)
    · have h := (if_pos hc1).symm.trans h
      refine sp_weak [false, false, false] [none, none, none] rfl ?_
      exact hx _ h
    · have h := (if_neg hc1).symm.trans h
      refine sp_aload_n dX8_append_7 rfl rfl ?_
      refine sp_use (fun ho => ?_)
      have hs := hG.1 _ ho
      refine sp_getI (RX8, TX8, 5) dX8_append_8 clX8 (j := 1) (by decide) tw_338 (wsI_94 hs) (Or.inl rfl) ?_
      refine sp_sipush (v := 400) dX8_append_11 (by decide) ?_
      refine sp_icmp_ge (tgt := 49) dX8_append_14 (by decide) (fun hc2 => ?_) (fun hc2 => ?_)
      · have h := (if_pos hc2).symm.trans h
        refine sp_weak [false, false, false] [none, none, none] rfl ?_
        exact hx _ h
      · have h := (if_neg hc2).symm.trans h
        refine sp_aload_n dX8_append_17 rfl rfl ?_
        refine sp_getR (RX8, TX8, 5) dX8_append_18 clX8 (j := 0) (by decide) tw_337 (wsI_94 hs) (Or.inr ⟨_, rfl⟩) (wsP_94_0 hs) ?_
        refine sp_aload_n dX8_append_21 rfl rfl ?_
        refine sp_getI (RX8, TX8, 5) dX8_append_22 clX8 (j := 1) (by decide) tw_338 (wsI_94 hs) (Or.inl rfl) ?_
        refine sp_iload_n dX8_append_25 rfl rfl ?_
        refine sp_iload_n dX8_append_26 rfl rfl ?_
        refine sp_ishr dX8_append_27 ?_
        refine sp_sipush (v := 255) dX8_append_28 (by decide) ?_
        refine sp_iand dX8_append_31 ?_
        obtain ⟨j3, hj3, h⟩ := Option.bind_eq_some_iff.mp h
        obtain ⟨M4, hM4, h⟩ := sp_do_e h
        refine sp_iast2 (j := j3) hG dX8_append_32 (wsA_95 hs) (wsN_95 hs) hj3 hM4 ?_
        refine sp_aload_n dX8_append_33 rfl rfl ?_
        refine sp_dup dX8_append_34 rfl ?_
        refine sp_use (fun ho => ?_)
        have hs := hG.1 _ ho
        refine sp_getI (RX8, TX8, 5) dX8_append_35 clX8 (j := 1) (by decide) tw_338 (wsI_94 hs) (Or.inl rfl) ?_
        refine sp_iconst (v := 1) dX8_append_38 (by decide) ?_
        refine sp_iadd dX8_append_39 ?_
        obtain ⟨M5, hM5, h⟩ := sp_do_e h
        refine sp_putI2 (RX8, TX8, 5) hG dX8_append_40 clX8 (j := 1) (by decide) tw_338 rfl (Or.inl rfl) (wsI_94 hs) hM5 ?_
        refine sp_iinc (v := (a2 + (-8))) [some (.ref 94), some (.int a1), some (.int (a2 + (-8)))] dX8_append_43 rfl rfl (by decide) rfl ?_
        refine sp_goto (tgt := 3) dX8_append_46 (by decide) ?_
        refine sp_weak [true, true, true] [some (.ref 94), some (.int a1), some (.int (a2 + (-8)))] rfl ?_
        exact ih _ _ _ h
set_option maxRecDepth 100000 in
set_option maxHeartbeats 4000000 in
theorem tX8_append {g : sp_G} {Ω : sp_Mem → Prop} {Q : sp_Qt} {F : Nat} {p : sp_Mem} (hG : sp_Ok Ω) {M : sp_Mem} {a1 : Int32} (h : fX8_append F M a1 = some p) (hQ : Q none p) : sp_Mt g Ω mX8_append 0 0 [.ref 94, .int a1] M Q := by
  unfold fX8_append at h
  refine sp_Mt.of [some (.ref 94), some (.int a1), none] (by decide) (by simp [sp_ent, Value.category]) rfl ?_
  refine sp_bipush (v := 24) dX8_append_0 (by decide) ?_
  refine sp_istore_n [some (.ref 94), some (.int a1), some (.int 24)] dX8_append_2 rfl (by decide) rfl ?_
  refine sp_weak [true, true, true] [some (.ref 94), some (.int a1), some (.int 24)] rfl ?_
  refine tX8_append_l3 hG hQ (fun M6 h => ?_) F _ _ _ h
  cases h
  exact sp_vret dX8_append_49 rfl (fun _ => hQ)
def fX10_refuse (M : sp_Mem) (a1 : Int32) : Option (Int32 × sp_Mem) :=
  sp_do (sp_setI M 0 12 a1) fun M1 => if (fX10_isWithin (-a1) 0 6) = 0 then (some (a1, M1)) else ((sp_ix 7 (-a1)).bind fun j3 => (sp_ix 7 (-a1)).bind fun j4 => sp_do (sp_setI M1 102 j4 ((sp_I M1 102 j3) + 1)) fun M5 => some (a1, M5))
set_option maxRecDepth 100000 in
set_option maxHeartbeats 4000000 in
theorem tX10_refuse {g : sp_G} {Ω : sp_Mem → Prop} {Q : sp_Qt} {p : (Int32 × sp_Mem)} (hG : sp_Ok Ω) {M : sp_Mem} {a1 : Int32} (h : fX10_refuse M a1 = some p) (hQ : Q (some (.int p.1)) p.2) : sp_Mt g Ω mX10_refuse 0 0 [.ref 0, .int a1] M Q := by
  unfold fX10_refuse at h
  refine sp_Mt.of [some (.ref 0), some (.int a1)] (by decide) (by simp [sp_ent, Value.category]) rfl ?_
  refine sp_aload_n dX10_refuse_0 rfl rfl ?_
  refine sp_iload_n dX10_refuse_1 rfl rfl ?_
  refine sp_use (fun ho => ?_)
  have hs := hG.1 _ ho
  obtain ⟨M1, hM1, h⟩ := sp_do_e h
  refine sp_putI2 (RX10, TX10, 16) hG dX10_refuse_2 clX10 (j := 12) (by decide) tw_427 rfl (Or.inl rfl) (wsI_0 hs) hM1 ?_
  refine sp_iload_n dX10_refuse_5 rfl rfl ?_
  refine sp_ineg dX10_refuse_6 ?_
  refine sp_iconst (v := 0) dX10_refuse_7 (by decide) ?_
  refine sp_aload_n dX10_refuse_8 rfl rfl ?_
  refine sp_use (fun ho => ?_)
  have hs := hG.1 _ ho
  refine sp_getR (RX10, TX10, 16) dX10_refuse_9 clX10 (j := 10) (by decide) tw_425 (wsI_0 hs) (Or.inr ⟨_, rfl⟩) (wsP_0_10 hs) ?_
  refine sp_alen (v := 7) 0 (by decide) dX10_refuse_12 (wsA_102 hs) (by rw [(wsN_102 hs)]; decide) ?_
  refine sp_iconst (v := 1) dX10_refuse_13 (by decide) ?_
  refine sp_isub dX10_refuse_14 ?_
  refine sp_topi (show (7 - 1 : Int32) = 6 by decide) ?_
  refine sp_cS (M1 := M1) (r := some (.int (fX10_isWithin (-a1) 0 6))) (st := []) [.int (-a1), .int 0, .int 6] [.int 6, .int 0, .int (-a1)] [.int (fX10_isWithin (-a1) 0 6)] dX10_refuse_15 okX10_isWithin tw_471 tw_472 (by decide) (by decide) rfl (Nat.le_of_ble_eq_true rfl) rfl rfl (fun Q hQ => tX10_isWithin hG rfl hQ) ?_
  refine sp_if_eq (tgt := 32) dX10_refuse_18 (by decide) (fun hc2 => ?_) (fun hc2 => ?_)
  · have h := (if_pos hc2).symm.trans h
    refine sp_iload_n dX10_refuse_32 rfl rfl ?_
    cases h
    exact sp_iret dX10_refuse_33 (ty := .int) rfl rfl (fun _ => hQ)
  · have h := (if_neg hc2).symm.trans h
    refine sp_aload_n dX10_refuse_21 rfl rfl ?_
    refine sp_getR (RX10, TX10, 16) dX10_refuse_22 clX10 (j := 10) (by decide) tw_425 (wsI_0 hs) (Or.inr ⟨_, rfl⟩) (wsP_0_10 hs) ?_
    refine sp_iload_n dX10_refuse_25 rfl rfl ?_
    refine sp_ineg dX10_refuse_26 ?_
    refine sp_dup2 dX10_refuse_27 rfl rfl ?_
    obtain ⟨j3, hj3, h⟩ := Option.bind_eq_some_iff.mp h
    refine sp_iald2 (j := j3) dX10_refuse_28 (wsA_102 hs) (wsN_102 hs) hj3 ?_
    refine sp_iconst (v := 1) dX10_refuse_29 (by decide) ?_
    refine sp_iadd dX10_refuse_30 ?_
    obtain ⟨j4, hj4, h⟩ := Option.bind_eq_some_iff.mp h
    obtain ⟨M5, hM5, h⟩ := sp_do_e h
    refine sp_iast2 (j := j4) hG dX10_refuse_31 (wsA_102 hs) (wsN_102 hs) hj4 hM5 ?_
    refine sp_iload_n dX10_refuse_32 rfl rfl ?_
    cases h
    exact sp_iret dX10_refuse_33 (ty := .int) rfl rfl (fun _ => hQ)
def fX10_grant (M : sp_Mem) (a1 : Int32) : Option (Int32 × sp_Mem) :=
  sp_do (sp_setI M 0 12 0) fun M1 => some (a1, M1)
set_option maxRecDepth 100000 in
set_option maxHeartbeats 4000000 in
theorem tX10_grant {g : sp_G} {Ω : sp_Mem → Prop} {Q : sp_Qt} {p : (Int32 × sp_Mem)} (hG : sp_Ok Ω) {M : sp_Mem} {a1 : Int32} (h : fX10_grant M a1 = some p) (hQ : Q (some (.int p.1)) p.2) : sp_Mt g Ω mX10_grant 0 0 [.ref 0, .int a1] M Q := by
  unfold fX10_grant at h
  refine sp_Mt.of [some (.ref 0), some (.int a1)] (by decide) (by simp [sp_ent, Value.category]) rfl ?_
  refine sp_aload_n dX10_grant_0 rfl rfl ?_
  refine sp_iconst (v := 0) dX10_grant_1 (by decide) ?_
  refine sp_use (fun ho => ?_)
  have hs := hG.1 _ ho
  obtain ⟨M1, hM1, h⟩ := sp_do_e h
  refine sp_putI2 (RX10, TX10, 16) hG dX10_grant_2 clX10 (j := 12) (by decide) tw_427 rfl (Or.inl rfl) (wsI_0 hs) hM1 ?_
  refine sp_iload_n dX10_grant_5 rfl rfl ?_
  cases h
  exact sp_iret dX10_grant_6 (ty := .int) rfl rfl (fun _ => hQ)
def fX10_spark (M : sp_Mem) (a1 : Int32) (a2 : Int32) (a3 : Int32) : Option (Int32 × sp_Mem) :=
  if (fX10_isCell a1) = 0 then ((fX10_refuse M (-1)).bind fun x2 => some (x2.1, x2.2)) else (if (fX10_isWithin a2 1 9) = 0 then ((fX10_refuse M (-1)).bind fun x4 => some (x4.1, x4.2)) else (if (fX10_isWithin a3 0 99) = 0 then ((fX10_refuse M (-1)).bind fun x14 => some (x14.1, x14.2)) else ((sp_ix 25 a1).bind fun j6 => if (sp_I M 7 j6) = 3 then ((fX10_refuse M (-3)).bind fun x13 => some (x13.1, x13.2)) else (if (sp_I M 6 4) < 6 then ((fX3_clear M 18).bind fun M9 => (fX5_addSpark M9 6 a1 a2 a3).bind fun x10 => (fX10_grant x10.2 x10.1).bind fun x11 => some (x11.1, x11.2)) else ((fX10_refuse M (-5)).bind fun x12 => some (x12.1, x12.2))))))
set_option maxRecDepth 100000 in
set_option maxHeartbeats 4000000 in
theorem tX10_spark {g : sp_G} {Ω : sp_Mem → Prop} {Q : sp_Qt} {p : (Int32 × sp_Mem)} (hG : sp_Ok Ω) {M : sp_Mem} {a1 : Int32} {a2 : Int32} {a3 : Int32} (h : fX10_spark M a1 a2 a3 = some p) (hQ : Q (some (.int p.1)) p.2) : sp_Mt g Ω mX10_spark 0 0 [.ref 0, .int a1, .int a2, .int a3] M Q := by
  unfold fX10_spark at h
  refine sp_Mt.of [some (.ref 0), some (.int a1), some (.int a2), some (.int a3)] (by decide) (by simp [sp_ent, Value.category]) rfl ?_
  refine sp_iload_n dX10_spark_0 rfl rfl ?_
  refine sp_use (fun ho => ?_)
  have hs := hG.1 _ ho
  refine sp_cS (M1 := M) (r := some (.int (fX10_isCell a1))) (st := []) [.int a1] [.int a1] [.int (fX10_isCell a1)] dX10_spark_1 okX10_isCell tw_468 tw_469 (by decide) (by decide) rfl (Nat.le_of_ble_eq_true rfl) rfl rfl (fun Q hQ => tX10_isCell hG rfl hQ) ?_
  refine sp_if_eq (tgt := 27) dX10_spark_4 (by decide) (fun hc1 => ?_) (fun hc1 => ?_)
  · have h := (if_pos hc1).symm.trans h
    refine sp_aload_n dX10_spark_27 rfl rfl ?_
    refine sp_iconst (v := (-1)) dX10_spark_28 (by decide) ?_
    obtain ⟨x2, hx2, h⟩ := Option.bind_eq_some_iff.mp h
    refine sp_cV (M1 := x2.2) (r := some (.int x2.1)) (o := 0) (st := []) (c := 9) (RX10, TX10, 16) [.int (-1)] [.int (-1), .ref 0] [.int x2.1] dX10_spark_29 okX10_refuse tw_474 tw_476 tw_0 (by decide) (by decide) rfl (Nat.le_of_ble_eq_true rfl) rfl rfl rfl rfl (wsI_0 hs) (fun Q hQ => tX10_refuse hG hx2 hQ) ?_
    cases h
    exact sp_iret dX10_spark_32 (ty := .int) rfl rfl (fun _ => hQ)
  · have h := (if_neg hc1).symm.trans h
    refine sp_iload_n dX10_spark_7 rfl rfl ?_
    refine sp_iconst (v := 1) dX10_spark_8 (by decide) ?_
    refine sp_bipush (v := 9) dX10_spark_9 (by decide) ?_
    refine sp_cS (M1 := M) (r := some (.int (fX10_isWithin a2 1 9))) (st := []) [.int a2, .int 1, .int 9] [.int 9, .int 1, .int a2] [.int (fX10_isWithin a2 1 9)] dX10_spark_11 okX10_isWithin tw_471 tw_472 (by decide) (by decide) rfl (Nat.le_of_ble_eq_true rfl) rfl rfl (fun Q hQ => tX10_isWithin hG rfl hQ) ?_
    refine sp_if_eq (tgt := 27) dX10_spark_14 (by decide) (fun hc3 => ?_) (fun hc3 => ?_)
    · have h := (if_pos hc3).symm.trans h
      refine sp_aload_n dX10_spark_27 rfl rfl ?_
      refine sp_iconst (v := (-1)) dX10_spark_28 (by decide) ?_
      obtain ⟨x4, hx4, h⟩ := Option.bind_eq_some_iff.mp h
      refine sp_cV (M1 := x4.2) (r := some (.int x4.1)) (o := 0) (st := []) (c := 9) (RX10, TX10, 16) [.int (-1)] [.int (-1), .ref 0] [.int x4.1] dX10_spark_29 okX10_refuse tw_474 tw_476 tw_0 (by decide) (by decide) rfl (Nat.le_of_ble_eq_true rfl) rfl rfl rfl rfl (wsI_0 hs) (fun Q hQ => tX10_refuse hG hx4 hQ) ?_
      cases h
      exact sp_iret dX10_spark_32 (ty := .int) rfl rfl (fun _ => hQ)
    · have h := (if_neg hc3).symm.trans h
      refine sp_iload_n dX10_spark_17 rfl rfl ?_
      refine sp_iconst (v := 0) dX10_spark_18 (by decide) ?_
      refine sp_bipush (v := 99) dX10_spark_19 (by decide) ?_
      refine sp_cS (M1 := M) (r := some (.int (fX10_isWithin a3 0 99))) (st := []) [.int a3, .int 0, .int 99] [.int 99, .int 0, .int a3] [.int (fX10_isWithin a3 0 99)] dX10_spark_21 okX10_isWithin tw_471 tw_472 (by decide) (by decide) rfl (Nat.le_of_ble_eq_true rfl) rfl rfl (fun Q hQ => tX10_isWithin hG rfl hQ) ?_
      refine sp_if_ne (tgt := 33) dX10_spark_24 (by decide) (fun hc5 => ?_) (fun hc5 => ?_)
      · have h := (if_neg hc5).symm.trans h
        refine sp_aload_n dX10_spark_33 rfl rfl ?_
        refine sp_getR (RX10, TX10, 16) dX10_spark_34 clX10 (j := 3) (by decide) tw_418 (wsI_0 hs) (Or.inl ⟨_, rfl⟩) (wsP_0_3 hs) ?_
        refine sp_getR (RX5, TX5, 16) dX10_spark_37 clX5 (j := 0) (by decide) tw_166 (wsI_6 hs) (Or.inr ⟨_, rfl⟩) (wsP_6_0 hs) ?_
        refine sp_iload_n dX10_spark_40 rfl rfl ?_
        obtain ⟨j6, hj6, h⟩ := Option.bind_eq_some_iff.mp h
        refine sp_iald2 (j := j6) dX10_spark_41 (wsA_7 hs) (wsN_7 hs) hj6 ?_
        refine sp_iconst (v := 3) dX10_spark_42 (by decide) ?_
        refine sp_icmp_ne (tgt := 53) dX10_spark_43 (by decide) (fun hc7 => ?_) (fun hc7 => ?_)
        · have h := (if_neg hc7).symm.trans h
          refine sp_aload_n dX10_spark_53 rfl rfl ?_
          refine sp_getR (RX10, TX10, 16) dX10_spark_54 clX10 (j := 3) (by decide) tw_418 (wsI_0 hs) (Or.inl ⟨_, rfl⟩) (wsP_0_3 hs) ?_
          refine sp_getI (RX5, TX5, 16) dX10_spark_57 clX5 (j := 4) (by decide) tw_185 (wsI_6 hs) (Or.inl rfl) ?_
          refine sp_bipush (v := 6) dX10_spark_60 (by decide) ?_
          refine sp_icmp_lt (tgt := 72) dX10_spark_62 (by decide) (fun hc8 => ?_) (fun hc8 => ?_)
          · have h := (if_pos hc8).symm.trans h
            refine sp_aload_n dX10_spark_72 rfl rfl ?_
            refine sp_getR (RX10, TX10, 16) dX10_spark_73 clX10 (j := 1) (by decide) tw_416 (wsI_0 hs) (Or.inl ⟨_, rfl⟩) (wsP_0_1 hs) ?_
            refine sp_getR (RX7, TX7, 6) dX10_spark_76 clX7 (j := 1) (by decide) tw_277 (wsI_5 hs) (Or.inl ⟨_, rfl⟩) (wsP_5_1 hs) ?_
            obtain ⟨M9, hM9, h⟩ := Option.bind_eq_some_iff.mp h
            refine sp_cV (M1 := M9) (r := none) (o := 18) (st := []) (c := 3) (RX3, TX3, 4) [] [.ref 18] [] dX10_spark_79 okX3_clear tw_478 tw_479 tw_480 (by decide) (by decide) rfl (Nat.le_of_ble_eq_true rfl) rfl rfl rfl rfl (wsI_18 hs) (fun Q hQ => tX3_clear hG past_18 hM9 hQ) ?_
            refine sp_aload_n dX10_spark_82 rfl rfl ?_
            refine sp_aload_n dX10_spark_83 rfl rfl ?_
            refine sp_use (fun ho => ?_)
            have hs := hG.1 _ ho
            refine sp_getR (RX10, TX10, 16) dX10_spark_84 clX10 (j := 3) (by decide) tw_418 (wsI_0 hs) (Or.inl ⟨_, rfl⟩) (wsP_0_3 hs) ?_
            refine sp_iload_n dX10_spark_87 rfl rfl ?_
            refine sp_iload_n dX10_spark_88 rfl rfl ?_
            refine sp_iload_n dX10_spark_89 rfl rfl ?_
            obtain ⟨x10, hx10, h⟩ := Option.bind_eq_some_iff.mp h
            refine sp_cV (M1 := x10.2) (r := some (.int x10.1)) (o := 6) (st := [.ref 0]) (c := 4) (RX5, TX5, 16) [.int a1, .int a2, .int a3] [.int a3, .int a2, .int a1, .ref 6, .ref 0] [.int x10.1, .ref 0] dX10_spark_90 okX5_addSpark tw_482 tw_483 tw_484 (by decide) (by decide) rfl (Nat.le_of_ble_eq_true rfl) rfl rfl rfl rfl (wsI_6 hs) (fun Q hQ => tX5_addSpark hG room_6 hx10 hQ) ?_
            refine sp_use (fun ho => ?_)
            have hs := hG.1 _ ho
            obtain ⟨x11, hx11, h⟩ := Option.bind_eq_some_iff.mp h
            refine sp_cV (M1 := x11.2) (r := some (.int x11.1)) (o := 0) (st := []) (c := 9) (RX10, TX10, 16) [.int x10.1] [.int x10.1, .ref 0] [.int x11.1] dX10_spark_93 okX10_grant tw_486 tw_488 tw_1 (by decide) (by decide) rfl (Nat.le_of_ble_eq_true rfl) rfl rfl rfl rfl (wsI_0 hs) (fun Q hQ => tX10_grant hG hx11 hQ) ?_
            cases h
            exact sp_iret dX10_spark_96 (ty := .int) rfl rfl (fun _ => hQ)
          · have h := (if_neg hc8).symm.trans h
            refine sp_aload_n dX10_spark_65 rfl rfl ?_
            refine sp_bipush (v := (-5)) dX10_spark_66 (by decide) ?_
            obtain ⟨x12, hx12, h⟩ := Option.bind_eq_some_iff.mp h
            refine sp_cV (M1 := x12.2) (r := some (.int x12.1)) (o := 0) (st := []) (c := 9) (RX10, TX10, 16) [.int (-5)] [.int (-5), .ref 0] [.int x12.1] dX10_spark_68 okX10_refuse tw_474 tw_476 tw_0 (by decide) (by decide) rfl (Nat.le_of_ble_eq_true rfl) rfl rfl rfl rfl (wsI_0 hs) (fun Q hQ => tX10_refuse hG hx12 hQ) ?_
            cases h
            exact sp_iret dX10_spark_71 (ty := .int) rfl rfl (fun _ => hQ)
        · have h := (if_pos hc7).symm.trans h
          refine sp_aload_n dX10_spark_46 rfl rfl ?_
          refine sp_bipush (v := (-3)) dX10_spark_47 (by decide) ?_
          obtain ⟨x13, hx13, h⟩ := Option.bind_eq_some_iff.mp h
          refine sp_cV (M1 := x13.2) (r := some (.int x13.1)) (o := 0) (st := []) (c := 9) (RX10, TX10, 16) [.int (-3)] [.int (-3), .ref 0] [.int x13.1] dX10_spark_49 okX10_refuse tw_474 tw_476 tw_0 (by decide) (by decide) rfl (Nat.le_of_ble_eq_true rfl) rfl rfl rfl rfl (wsI_0 hs) (fun Q hQ => tX10_refuse hG hx13 hQ) ?_
          cases h
          exact sp_iret dX10_spark_52 (ty := .int) rfl rfl (fun _ => hQ)
      · have h := (if_pos hc5).symm.trans h
        refine sp_aload_n dX10_spark_27 rfl rfl ?_
        refine sp_iconst (v := (-1)) dX10_spark_28 (by decide) ?_
        obtain ⟨x14, hx14, h⟩ := Option.bind_eq_some_iff.mp h
        refine sp_cV (M1 := x14.2) (r := some (.int x14.1)) (o := 0) (st := []) (c := 9) (RX10, TX10, 16) [.int (-1)] [.int (-1), .ref 0] [.int x14.1] dX10_spark_29 okX10_refuse tw_474 tw_476 tw_0 (by decide) (by decide) rfl (Nat.le_of_ble_eq_true rfl) rfl rfl rfl rfl (wsI_0 hs) (fun Q hQ => tX10_refuse hG hx14 hQ) ?_
        cases h
        exact sp_iret dX10_spark_32 (ty := .int) rfl rfl (fun _ => hQ)
def fX10_of_j32 (F : Nat) (a1 : Int32) (a2 : Int32) (s0 : Int32) (M : sp_Mem) : Option (Int32 × sp_Mem) :=
  if a2 = 0 then ((sp_ix 6 a1).bind fun j5 => some ((sp_I M 8 j5), M)) else if a2 = 1 then ((sp_ix 6 a1).bind fun j7 => some ((sp_I M 9 j7), M)) else if a2 = 2 then ((sp_ix 6 a1).bind fun j9 => some ((sp_I M 10 j9), M)) else if a2 = 3 then (if s0 = 0 then ((fX6_wayOf F M 6 a1).bind fun x12 => some (x12.1, x12.2)) else (some ((-100), M))) else if a2 = 4 then (if s0 = 0 then ((fX6_burnOf F M 6 a1).bind fun x15 => some (x15.1, x15.2)) else (some ((-100), M))) else if a2 = 5 then ((fX5_knowers F M 6 a1).bind fun v17 => some (v17, M)) else (some ((-100), M))
def fX10_of (F : Nat) (M : sp_Mem) (a1 : Int32) (a2 : Int32) : Option (Int32 × sp_Mem) :=
  if (fX5_hasSpark M 6 a1) = 0 then (some ((-100), M)) else ((sp_ix 6 a1).bind fun j2 => fX10_of_j32 F a1 a2 (if (sp_I M 8 j2) = (-1) then 1 else 0) M)
set_option maxRecDepth 100000 in
set_option maxHeartbeats 4000000 in
theorem tX10_of_j32 {g : sp_G} {Ω : sp_Mem → Prop} {Q : sp_Qt} {F : Nat} {p : (Int32 × sp_Mem)} (hG : sp_Ok Ω)  (hQ : Q (some (.int p.1)) p.2) (a1 : Int32) (a2 : Int32) (s0 : Int32) (M : sp_Mem) (h : fX10_of_j32 F a1 a2 s0 M = some p) : sp_Wp g Ω mX10_of 0 0 32 [some (.ref 0), some (.int a1), some (.int a2), none] [.int s0] M Q := by
  unfold fX10_of_j32 at h
  refine sp_istore_n [some (.ref 0), some (.int a1), some (.int a2), some (.int s0)] dX10_of_32 rfl (by decide) rfl ?_
  refine sp_iload_n dX10_of_33 rfl rfl ?_
  by_cases hc4 : a2 = 0
  · have h := (if_pos hc4).symm.trans h
    refine sp_tswI (tgt := 72) dX10_of_34 (by rw [hc4]; decide) (by rw [hc4]; decide) (by rw [hc4]; rfl) (by decide) ?_
    refine sp_aload_n dX10_of_72 rfl rfl ?_
    refine sp_use (fun ho => ?_)
    have hs := hG.1 _ ho
    refine sp_getR (RX10, TX10, 16) dX10_of_73 clX10 (j := 3) (by decide) tw_418 (wsI_0 hs) (Or.inl ⟨_, rfl⟩) (wsP_0_3 hs) ?_
    refine sp_getR (RX5, TX5, 16) dX10_of_76 clX5 (j := 1) (by decide) tw_172 (wsI_6 hs) (Or.inr ⟨_, rfl⟩) (wsP_6_1 hs) ?_
    refine sp_iload_n dX10_of_79 rfl rfl ?_
    obtain ⟨j5, hj5, h⟩ := Option.bind_eq_some_iff.mp h
    refine sp_iald2 (j := j5) dX10_of_80 (wsA_8 hs) (wsN_8 hs) hj5 ?_
    cases h
    exact sp_iret dX10_of_81 (ty := .int) rfl rfl (fun _ => hQ)
  have h := (if_neg hc4).symm.trans h
  by_cases hc6 : a2 = 1
  · have h := (if_pos hc6).symm.trans h
    refine sp_tswI (tgt := 82) dX10_of_34 (by rw [hc6]; decide) (by rw [hc6]; decide) (by rw [hc6]; rfl) (by decide) ?_
    refine sp_aload_n dX10_of_82 rfl rfl ?_
    refine sp_use (fun ho => ?_)
    have hs := hG.1 _ ho
    refine sp_getR (RX10, TX10, 16) dX10_of_83 clX10 (j := 3) (by decide) tw_418 (wsI_0 hs) (Or.inl ⟨_, rfl⟩) (wsP_0_3 hs) ?_
    refine sp_getR (RX5, TX5, 16) dX10_of_86 clX5 (j := 2) (by decide) tw_176 (wsI_6 hs) (Or.inr ⟨_, rfl⟩) (wsP_6_2 hs) ?_
    refine sp_iload_n dX10_of_89 rfl rfl ?_
    obtain ⟨j7, hj7, h⟩ := Option.bind_eq_some_iff.mp h
    refine sp_iald2 (j := j7) dX10_of_90 (wsA_9 hs) (wsN_9 hs) hj7 ?_
    cases h
    exact sp_iret dX10_of_91 (ty := .int) rfl rfl (fun _ => hQ)
  have h := (if_neg hc6).symm.trans h
  by_cases hc8 : a2 = 2
  · have h := (if_pos hc8).symm.trans h
    refine sp_tswI (tgt := 92) dX10_of_34 (by rw [hc8]; decide) (by rw [hc8]; decide) (by rw [hc8]; rfl) (by decide) ?_
    refine sp_aload_n dX10_of_92 rfl rfl ?_
    refine sp_use (fun ho => ?_)
    have hs := hG.1 _ ho
    refine sp_getR (RX10, TX10, 16) dX10_of_93 clX10 (j := 3) (by decide) tw_418 (wsI_0 hs) (Or.inl ⟨_, rfl⟩) (wsP_0_3 hs) ?_
    refine sp_getR (RX5, TX5, 16) dX10_of_96 clX5 (j := 3) (by decide) tw_180 (wsI_6 hs) (Or.inr ⟨_, rfl⟩) (wsP_6_3 hs) ?_
    refine sp_iload_n dX10_of_99 rfl rfl ?_
    obtain ⟨j9, hj9, h⟩ := Option.bind_eq_some_iff.mp h
    refine sp_iald2 (j := j9) dX10_of_100 (wsA_10 hs) (wsN_10 hs) hj9 ?_
    cases h
    exact sp_iret dX10_of_101 (ty := .int) rfl rfl (fun _ => hQ)
  have h := (if_neg hc8).symm.trans h
  by_cases hc10 : a2 = 3
  · have h := (if_pos hc10).symm.trans h
    refine sp_tswI (tgt := 102) dX10_of_34 (by rw [hc10]; decide) (by rw [hc10]; decide) (by rw [hc10]; rfl) (by decide) ?_
    refine sp_iload_n dX10_of_102 rfl rfl ?_
    refine sp_if_eq (tgt := 111) dX10_of_103 (by decide) (fun hc11 => ?_) (fun hc11 => ?_)
    · have h := (if_pos hc11).symm.trans h
      refine sp_aload_n dX10_of_111 rfl rfl ?_
      refine sp_use (fun ho => ?_)
      have hs := hG.1 _ ho
      refine sp_getR (RX10, TX10, 16) dX10_of_112 clX10 (j := 0) (by decide) tw_415 (wsI_0 hs) (Or.inl ⟨_, rfl⟩) (wsP_0_0 hs) ?_
      refine sp_aload_n dX10_of_115 rfl rfl ?_
      refine sp_getR (RX10, TX10, 16) dX10_of_116 clX10 (j := 3) (by decide) tw_418 (wsI_0 hs) (Or.inl ⟨_, rfl⟩) (wsP_0_3 hs) ?_
      refine sp_iload_n dX10_of_119 rfl rfl ?_
      obtain ⟨x12, hx12, h⟩ := Option.bind_eq_some_iff.mp h
      refine sp_cV (M1 := x12.2) (r := some (.int x12.1)) (o := 1) (st := []) (c := 5) (RX6, TX6, 2) [.ref 6, .int a1] [.int a1, .ref 6, .ref 1] [.int x12.1] dX10_of_120 okX6_wayOf tw_498 tw_499 tw_500 (by decide) (by decide) rfl (Nat.le_of_ble_eq_true rfl) rfl rfl rfl rfl (wsI_1 hs) (fun Q hQ => tX6_wayOf hG room_6 hx12 hQ) ?_
      cases h
      exact sp_iret dX10_of_123 (ty := .int) rfl rfl (fun _ => hQ)
    · have h := (if_neg hc11).symm.trans h
      refine sp_bipush (v := (-100)) dX10_of_106 (by decide) ?_
      refine sp_goto (tgt := 123) dX10_of_108 (by decide) ?_
      cases h
      exact sp_iret dX10_of_123 (ty := .int) rfl rfl (fun _ => hQ)
  have h := (if_neg hc10).symm.trans h
  by_cases hc13 : a2 = 4
  · have h := (if_pos hc13).symm.trans h
    refine sp_tswI (tgt := 124) dX10_of_34 (by rw [hc13]; decide) (by rw [hc13]; decide) (by rw [hc13]; rfl) (by decide) ?_
    refine sp_iload_n dX10_of_124 rfl rfl ?_
    refine sp_if_eq (tgt := 133) dX10_of_125 (by decide) (fun hc14 => ?_) (fun hc14 => ?_)
    · have h := (if_pos hc14).symm.trans h
      refine sp_aload_n dX10_of_133 rfl rfl ?_
      refine sp_use (fun ho => ?_)
      have hs := hG.1 _ ho
      refine sp_getR (RX10, TX10, 16) dX10_of_134 clX10 (j := 0) (by decide) tw_415 (wsI_0 hs) (Or.inl ⟨_, rfl⟩) (wsP_0_0 hs) ?_
      refine sp_aload_n dX10_of_137 rfl rfl ?_
      refine sp_getR (RX10, TX10, 16) dX10_of_138 clX10 (j := 3) (by decide) tw_418 (wsI_0 hs) (Or.inl ⟨_, rfl⟩) (wsP_0_3 hs) ?_
      refine sp_iload_n dX10_of_141 rfl rfl ?_
      obtain ⟨x15, hx15, h⟩ := Option.bind_eq_some_iff.mp h
      refine sp_cV (M1 := x15.2) (r := some (.int x15.1)) (o := 1) (st := []) (c := 5) (RX6, TX6, 2) [.ref 6, .int a1] [.int a1, .ref 6, .ref 1] [.int x15.1] dX10_of_142 okX6_burnOf tw_550 tw_551 tw_552 (by decide) (by decide) rfl (Nat.le_of_ble_eq_true rfl) rfl rfl rfl rfl (wsI_1 hs) (fun Q hQ => tX6_burnOf hG room_6 hx15 hQ) ?_
      cases h
      exact sp_iret dX10_of_145 (ty := .int) rfl rfl (fun _ => hQ)
    · have h := (if_neg hc14).symm.trans h
      refine sp_bipush (v := (-100)) dX10_of_128 (by decide) ?_
      refine sp_goto (tgt := 145) dX10_of_130 (by decide) ?_
      cases h
      exact sp_iret dX10_of_145 (ty := .int) rfl rfl (fun _ => hQ)
  have h := (if_neg hc13).symm.trans h
  by_cases hc16 : a2 = 5
  · have h := (if_pos hc16).symm.trans h
    refine sp_tswI (tgt := 146) dX10_of_34 (by rw [hc16]; decide) (by rw [hc16]; decide) (by rw [hc16]; rfl) (by decide) ?_
    refine sp_aload_n dX10_of_146 rfl rfl ?_
    refine sp_use (fun ho => ?_)
    have hs := hG.1 _ ho
    refine sp_getR (RX10, TX10, 16) dX10_of_147 clX10 (j := 3) (by decide) tw_418 (wsI_0 hs) (Or.inl ⟨_, rfl⟩) (wsP_0_3 hs) ?_
    refine sp_iload_n dX10_of_150 rfl rfl ?_
    obtain ⟨v17, hv17, h⟩ := Option.bind_eq_some_iff.mp h
    refine sp_cV (M1 := M) (r := some (.int v17)) (o := 6) (st := []) (c := 4) (RX5, TX5, 16) [.int a1] [.int a1, .ref 6] [.int v17] dX10_of_151 okX5_knowers tw_554 tw_555 tw_556 (by decide) (by decide) rfl (Nat.le_of_ble_eq_true rfl) rfl rfl rfl rfl (wsI_6 hs) (fun Q hQ => tX5_knowers hG room_6 hv17 hQ) ?_
    cases h
    exact sp_iret dX10_of_154 (ty := .int) rfl rfl (fun _ => hQ)
  have h := (if_neg hc16).symm.trans h
  have hc4 := sp_ne hc4 (show (0 : Int32).toInt = 0 by decide)
  have hc6 := sp_ne hc6 (show (1 : Int32).toInt = 1 by decide)
  have hc8 := sp_ne hc8 (show (2 : Int32).toInt = 2 by decide)
  have hc10 := sp_ne hc10 (show (3 : Int32).toInt = 3 by decide)
  have hc13 := sp_ne hc13 (show (4 : Int32).toInt = 4 by decide)
  have hc16 := sp_ne hc16 (show (5 : Int32).toInt = 5 by decide)
  refine sp_tswO (tgt := 155) dX10_of_34 (by omega) (by decide) ?_
  refine sp_bipush (v := (-100)) dX10_of_155 (by decide) ?_
  cases h
  exact sp_iret dX10_of_157 (ty := .int) rfl rfl (fun _ => hQ)
set_option maxRecDepth 100000 in
set_option maxHeartbeats 4000000 in
theorem tX10_of {g : sp_G} {Ω : sp_Mem → Prop} {Q : sp_Qt} {F : Nat} {p : (Int32 × sp_Mem)} (hG : sp_Ok Ω) {M : sp_Mem} {a1 : Int32} {a2 : Int32} (h : fX10_of F M a1 a2 = some p) (hQ : Q (some (.int p.1)) p.2) : sp_Mt g Ω mX10_of 0 0 [.ref 0, .int a1, .int a2] M Q := by
  unfold fX10_of at h
  refine sp_Mt.of [some (.ref 0), some (.int a1), some (.int a2), none] (by decide) (by simp [sp_ent, Value.category]) rfl ?_
  refine sp_aload_n dX10_of_0 rfl rfl ?_
  refine sp_use (fun ho => ?_)
  have hs := hG.1 _ ho
  refine sp_getR (RX10, TX10, 16) dX10_of_1 clX10 (j := 3) (by decide) tw_418 (wsI_0 hs) (Or.inl ⟨_, rfl⟩) (wsP_0_3 hs) ?_
  refine sp_iload_n dX10_of_4 rfl rfl ?_
  refine sp_cV (M1 := M) (r := some (.int (fX5_hasSpark M 6 a1))) (o := 6) (st := []) (c := 4) (RX5, TX5, 16) [.int a1] [.int a1, .ref 6] [.int (fX5_hasSpark M 6 a1)] dX10_of_5 okX5_hasSpark tw_494 tw_495 tw_496 (by decide) (by decide) rfl (Nat.le_of_ble_eq_true rfl) rfl rfl rfl rfl (wsI_6 hs) (fun Q hQ => tX5_hasSpark hG room_6 rfl hQ) ?_
  refine sp_if_ne (tgt := 14) dX10_of_8 (by decide) (fun hc1 => ?_) (fun hc1 => ?_)
  · have h := (if_neg hc1).symm.trans h
    refine sp_aload_n dX10_of_14 rfl rfl ?_
    refine sp_getR (RX10, TX10, 16) dX10_of_15 clX10 (j := 3) (by decide) tw_418 (wsI_0 hs) (Or.inl ⟨_, rfl⟩) (wsP_0_3 hs) ?_
    refine sp_getR (RX5, TX5, 16) dX10_of_18 clX5 (j := 1) (by decide) tw_172 (wsI_6 hs) (Or.inr ⟨_, rfl⟩) (wsP_6_1 hs) ?_
    refine sp_iload_n dX10_of_21 rfl rfl ?_
    obtain ⟨j2, hj2, h⟩ := Option.bind_eq_some_iff.mp h
    refine sp_iald2 (j := j2) dX10_of_22 (wsA_8 hs) (wsN_8 hs) hj2 ?_
    refine sp_iconst (v := (-1)) dX10_of_23 (by decide) ?_
    suffices hj : sp_Wp g Ω mX10_of 0 0 32 [some (.ref 0), some (.int a1), some (.int a2), none] [.int (if (sp_I M 8 j2) = (-1) then 1 else 0)] M Q by
      refine sp_icmp_ne (tgt := 31) dX10_of_24 (by decide) (fun hc3 => ?_) (fun hc3 => ?_)
      · refine sp_iconst (v := 0) dX10_of_31 (by decide) ?_
        simp only [if_neg hc3] at hj
        exact hj
      · refine sp_iconst (v := 1) dX10_of_27 (by decide) ?_
        refine sp_goto (tgt := 32) dX10_of_28 (by decide) ?_
        simp only [if_pos hc3] at hj
        exact hj
    refine sp_weak [true, true, true, false] [some (.ref 0), some (.int a1), some (.int a2), none] rfl ?_
    exact tX10_of_j32 hG hQ _ _ _ _ h
  · have h := (if_pos hc1).symm.trans h
    refine sp_bipush (v := (-100)) dX10_of_11 (by decide) ?_
    cases h
    exact sp_iret dX10_of_13 (ty := .int) rfl rfl (fun _ => hQ)
def fX10_person (M : sp_Mem) (a1 : Int32) (a2 : Int32) : Option (Int32 × sp_Mem) :=
  if (fX10_isCell a1) = 0 then ((fX10_refuse M (-1)).bind fun x2 => some (x2.1, x2.2)) else (if (fX10_isWithin a2 0 8) = 0 then ((fX10_refuse M (-1)).bind fun x12 => some (x12.1, x12.2)) else ((sp_ix 25 a1).bind fun j4 => if (sp_I M 7 j4) = 3 then ((fX10_refuse M (-3)).bind fun x11 => some (x11.1, x11.2)) else (if (sp_I M 6 8) < 5 then ((fX3_clear M 18).bind fun M7 => (fX5_addPerson M7 6 a1 a2).bind fun x8 => (fX10_grant x8.2 x8.1).bind fun x9 => some (x9.1, x9.2)) else ((fX10_refuse M (-5)).bind fun x10 => some (x10.1, x10.2)))))
set_option maxRecDepth 100000 in
set_option maxHeartbeats 4000000 in
theorem tX10_person {g : sp_G} {Ω : sp_Mem → Prop} {Q : sp_Qt} {p : (Int32 × sp_Mem)} (hG : sp_Ok Ω) {M : sp_Mem} {a1 : Int32} {a2 : Int32} (h : fX10_person M a1 a2 = some p) (hQ : Q (some (.int p.1)) p.2) : sp_Mt g Ω mX10_person 0 0 [.ref 0, .int a1, .int a2] M Q := by
  unfold fX10_person at h
  refine sp_Mt.of [some (.ref 0), some (.int a1), some (.int a2)] (by decide) (by simp [sp_ent, Value.category]) rfl ?_
  refine sp_iload_n dX10_person_0 rfl rfl ?_
  refine sp_use (fun ho => ?_)
  have hs := hG.1 _ ho
  refine sp_cS (M1 := M) (r := some (.int (fX10_isCell a1))) (st := []) [.int a1] [.int a1] [.int (fX10_isCell a1)] dX10_person_1 okX10_isCell tw_468 tw_469 (by decide) (by decide) rfl (Nat.le_of_ble_eq_true rfl) rfl rfl (fun Q hQ => tX10_isCell hG rfl hQ) ?_
  refine sp_if_eq (tgt := 17) dX10_person_4 (by decide) (fun hc1 => ?_) (fun hc1 => ?_)
  · have h := (if_pos hc1).symm.trans h
    refine sp_aload_n dX10_person_17 rfl rfl ?_
    refine sp_iconst (v := (-1)) dX10_person_18 (by decide) ?_
    obtain ⟨x2, hx2, h⟩ := Option.bind_eq_some_iff.mp h
    refine sp_cV (M1 := x2.2) (r := some (.int x2.1)) (o := 0) (st := []) (c := 9) (RX10, TX10, 16) [.int (-1)] [.int (-1), .ref 0] [.int x2.1] dX10_person_19 okX10_refuse tw_474 tw_476 tw_0 (by decide) (by decide) rfl (Nat.le_of_ble_eq_true rfl) rfl rfl rfl rfl (wsI_0 hs) (fun Q hQ => tX10_refuse hG hx2 hQ) ?_
    cases h
    exact sp_iret dX10_person_22 (ty := .int) rfl rfl (fun _ => hQ)
  · have h := (if_neg hc1).symm.trans h
    refine sp_iload_n dX10_person_7 rfl rfl ?_
    refine sp_iconst (v := 0) dX10_person_8 (by decide) ?_
    refine sp_bipush (v := 8) dX10_person_9 (by decide) ?_
    refine sp_cS (M1 := M) (r := some (.int (fX10_isWithin a2 0 8))) (st := []) [.int a2, .int 0, .int 8] [.int 8, .int 0, .int a2] [.int (fX10_isWithin a2 0 8)] dX10_person_11 okX10_isWithin tw_471 tw_472 (by decide) (by decide) rfl (Nat.le_of_ble_eq_true rfl) rfl rfl (fun Q hQ => tX10_isWithin hG rfl hQ) ?_
    refine sp_if_ne (tgt := 23) dX10_person_14 (by decide) (fun hc3 => ?_) (fun hc3 => ?_)
    · have h := (if_neg hc3).symm.trans h
      refine sp_aload_n dX10_person_23 rfl rfl ?_
      refine sp_getR (RX10, TX10, 16) dX10_person_24 clX10 (j := 3) (by decide) tw_418 (wsI_0 hs) (Or.inl ⟨_, rfl⟩) (wsP_0_3 hs) ?_
      refine sp_getR (RX5, TX5, 16) dX10_person_27 clX5 (j := 0) (by decide) tw_166 (wsI_6 hs) (Or.inr ⟨_, rfl⟩) (wsP_6_0 hs) ?_
      refine sp_iload_n dX10_person_30 rfl rfl ?_
      obtain ⟨j4, hj4, h⟩ := Option.bind_eq_some_iff.mp h
      refine sp_iald2 (j := j4) dX10_person_31 (wsA_7 hs) (wsN_7 hs) hj4 ?_
      refine sp_iconst (v := 3) dX10_person_32 (by decide) ?_
      refine sp_icmp_ne (tgt := 43) dX10_person_33 (by decide) (fun hc5 => ?_) (fun hc5 => ?_)
      · have h := (if_neg hc5).symm.trans h
        refine sp_aload_n dX10_person_43 rfl rfl ?_
        refine sp_getR (RX10, TX10, 16) dX10_person_44 clX10 (j := 3) (by decide) tw_418 (wsI_0 hs) (Or.inl ⟨_, rfl⟩) (wsP_0_3 hs) ?_
        refine sp_getI (RX5, TX5, 16) dX10_person_47 clX5 (j := 8) (by decide) tw_201 (wsI_6 hs) (Or.inl rfl) ?_
        refine sp_iconst (v := 5) dX10_person_50 (by decide) ?_
        refine sp_icmp_lt (tgt := 61) dX10_person_51 (by decide) (fun hc6 => ?_) (fun hc6 => ?_)
        · have h := (if_pos hc6).symm.trans h
          refine sp_aload_n dX10_person_61 rfl rfl ?_
          refine sp_getR (RX10, TX10, 16) dX10_person_62 clX10 (j := 1) (by decide) tw_416 (wsI_0 hs) (Or.inl ⟨_, rfl⟩) (wsP_0_1 hs) ?_
          refine sp_getR (RX7, TX7, 6) dX10_person_65 clX7 (j := 1) (by decide) tw_277 (wsI_5 hs) (Or.inl ⟨_, rfl⟩) (wsP_5_1 hs) ?_
          obtain ⟨M7, hM7, h⟩ := Option.bind_eq_some_iff.mp h
          refine sp_cV (M1 := M7) (r := none) (o := 18) (st := []) (c := 3) (RX3, TX3, 4) [] [.ref 18] [] dX10_person_68 okX3_clear tw_478 tw_479 tw_480 (by decide) (by decide) rfl (Nat.le_of_ble_eq_true rfl) rfl rfl rfl rfl (wsI_18 hs) (fun Q hQ => tX3_clear hG past_18 hM7 hQ) ?_
          refine sp_aload_n dX10_person_71 rfl rfl ?_
          refine sp_aload_n dX10_person_72 rfl rfl ?_
          refine sp_use (fun ho => ?_)
          have hs := hG.1 _ ho
          refine sp_getR (RX10, TX10, 16) dX10_person_73 clX10 (j := 3) (by decide) tw_418 (wsI_0 hs) (Or.inl ⟨_, rfl⟩) (wsP_0_3 hs) ?_
          refine sp_iload_n dX10_person_76 rfl rfl ?_
          refine sp_iload_n dX10_person_77 rfl rfl ?_
          obtain ⟨x8, hx8, h⟩ := Option.bind_eq_some_iff.mp h
          refine sp_cV (M1 := x8.2) (r := some (.int x8.1)) (o := 6) (st := [.ref 0]) (c := 4) (RX5, TX5, 16) [.int a1, .int a2] [.int a2, .int a1, .ref 6, .ref 0] [.int x8.1, .ref 0] dX10_person_78 okX5_addPerson tw_562 tw_563 tw_564 (by decide) (by decide) rfl (Nat.le_of_ble_eq_true rfl) rfl rfl rfl rfl (wsI_6 hs) (fun Q hQ => tX5_addPerson hG room_6 hx8 hQ) ?_
          refine sp_use (fun ho => ?_)
          have hs := hG.1 _ ho
          obtain ⟨x9, hx9, h⟩ := Option.bind_eq_some_iff.mp h
          refine sp_cV (M1 := x9.2) (r := some (.int x9.1)) (o := 0) (st := []) (c := 9) (RX10, TX10, 16) [.int x8.1] [.int x8.1, .ref 0] [.int x9.1] dX10_person_81 okX10_grant tw_486 tw_488 tw_1 (by decide) (by decide) rfl (Nat.le_of_ble_eq_true rfl) rfl rfl rfl rfl (wsI_0 hs) (fun Q hQ => tX10_grant hG hx9 hQ) ?_
          cases h
          exact sp_iret dX10_person_84 (ty := .int) rfl rfl (fun _ => hQ)
        · have h := (if_neg hc6).symm.trans h
          refine sp_aload_n dX10_person_54 rfl rfl ?_
          refine sp_bipush (v := (-5)) dX10_person_55 (by decide) ?_
          obtain ⟨x10, hx10, h⟩ := Option.bind_eq_some_iff.mp h
          refine sp_cV (M1 := x10.2) (r := some (.int x10.1)) (o := 0) (st := []) (c := 9) (RX10, TX10, 16) [.int (-5)] [.int (-5), .ref 0] [.int x10.1] dX10_person_57 okX10_refuse tw_474 tw_476 tw_0 (by decide) (by decide) rfl (Nat.le_of_ble_eq_true rfl) rfl rfl rfl rfl (wsI_0 hs) (fun Q hQ => tX10_refuse hG hx10 hQ) ?_
          cases h
          exact sp_iret dX10_person_60 (ty := .int) rfl rfl (fun _ => hQ)
      · have h := (if_pos hc5).symm.trans h
        refine sp_aload_n dX10_person_36 rfl rfl ?_
        refine sp_bipush (v := (-3)) dX10_person_37 (by decide) ?_
        obtain ⟨x11, hx11, h⟩ := Option.bind_eq_some_iff.mp h
        refine sp_cV (M1 := x11.2) (r := some (.int x11.1)) (o := 0) (st := []) (c := 9) (RX10, TX10, 16) [.int (-3)] [.int (-3), .ref 0] [.int x11.1] dX10_person_39 okX10_refuse tw_474 tw_476 tw_0 (by decide) (by decide) rfl (Nat.le_of_ble_eq_true rfl) rfl rfl rfl rfl (wsI_0 hs) (fun Q hQ => tX10_refuse hG hx11 hQ) ?_
        cases h
        exact sp_iret dX10_person_42 (ty := .int) rfl rfl (fun _ => hQ)
    · have h := (if_pos hc3).symm.trans h
      refine sp_aload_n dX10_person_17 rfl rfl ?_
      refine sp_iconst (v := (-1)) dX10_person_18 (by decide) ?_
      obtain ⟨x12, hx12, h⟩ := Option.bind_eq_some_iff.mp h
      refine sp_cV (M1 := x12.2) (r := some (.int x12.1)) (o := 0) (st := []) (c := 9) (RX10, TX10, 16) [.int (-1)] [.int (-1), .ref 0] [.int x12.1] dX10_person_19 okX10_refuse tw_474 tw_476 tw_0 (by decide) (by decide) rfl (Nat.le_of_ble_eq_true rfl) rfl rfl rfl rfl (wsI_0 hs) (fun Q hQ => tX10_refuse hG hx12 hQ) ?_
      cases h
      exact sp_iret dX10_person_22 (ty := .int) rfl rfl (fun _ => hQ)
def fX10_at (M0 : sp_Mem) (a1 : Int32) (a2 : Int32) : Option Int32 :=
  if (fX5_hasPerson M0 6 a1) = 0 then (some (-1)) else (if a2 = 0 then ((sp_ix 5 a1).bind fun j3 => some (sp_I M0 11 j3)) else if a2 = 1 then ((sp_ix 5 a1).bind fun j5 => some (sp_I M0 12 j5)) else if a2 = 2 then ((sp_ix 5 a1).bind fun j7 => some (sp_I M0 13 j7)) else (some (-1)))
set_option maxRecDepth 100000 in
set_option maxHeartbeats 4000000 in
theorem tX10_at {g : sp_G} {Ω : sp_Mem → Prop} {Q : sp_Qt} {M0 : sp_Mem} {p : Int32} (hG : sp_Ok Ω) {a1 : Int32} {a2 : Int32} (h : fX10_at M0 a1 a2 = some p) (hQ : Q (some (.int p)) M0) : sp_Mt g Ω mX10_at 0 0 [.ref 0, .int a1, .int a2] M0 Q := by
  unfold fX10_at at h
  refine sp_Mt.of [some (.ref 0), some (.int a1), some (.int a2)] (by decide) (by simp [sp_ent, Value.category]) rfl ?_
  refine sp_aload_n dX10_at_0 rfl rfl ?_
  refine sp_use (fun ho => ?_)
  have hs := hG.1 _ ho
  refine sp_getR (RX10, TX10, 16) dX10_at_1 clX10 (j := 3) (by decide) tw_418 (wsI_0 hs) (Or.inl ⟨_, rfl⟩) (wsP_0_3 hs) ?_
  refine sp_iload_n dX10_at_4 rfl rfl ?_
  refine sp_cV (M1 := M0) (r := some (.int (fX5_hasPerson M0 6 a1))) (o := 6) (st := []) (c := 4) (RX5, TX5, 16) [.int a1] [.int a1, .ref 6] [.int (fX5_hasPerson M0 6 a1)] dX10_at_5 okX5_hasPerson tw_570 tw_571 tw_572 (by decide) (by decide) rfl (Nat.le_of_ble_eq_true rfl) rfl rfl rfl rfl (wsI_6 hs) (fun Q hQ => tX5_hasPerson hG room_6 rfl hQ) ?_
  refine sp_if_ne (tgt := 13) dX10_at_8 (by decide) (fun hc1 => ?_) (fun hc1 => ?_)
  · have h := (if_neg hc1).symm.trans h
    refine sp_iload_n dX10_at_13 rfl rfl ?_
    by_cases hc2 : a2 = 0
    · have h := (if_pos hc2).symm.trans h
      refine sp_tswI (tgt := 40) dX10_at_14 (by rw [hc2]; decide) (by rw [hc2]; decide) (by rw [hc2]; rfl) (by decide) ?_
      refine sp_aload_n dX10_at_40 rfl rfl ?_
      refine sp_getR (RX10, TX10, 16) dX10_at_41 clX10 (j := 3) (by decide) tw_418 (wsI_0 hs) (Or.inl ⟨_, rfl⟩) (wsP_0_3 hs) ?_
      refine sp_getR (RX5, TX5, 16) dX10_at_44 clX5 (j := 5) (by decide) tw_190 (wsI_6 hs) (Or.inr ⟨_, rfl⟩) (wsP_6_5 hs) ?_
      refine sp_iload_n dX10_at_47 rfl rfl ?_
      obtain ⟨j3, hj3, h⟩ := Option.bind_eq_some_iff.mp h
      refine sp_iald2 (j := j3) dX10_at_48 (wsA_11 hs) (wsN_11 hs) hj3 ?_
      cases h
      exact sp_iret dX10_at_49 (ty := .int) rfl rfl (fun _ => hQ)
    have h := (if_neg hc2).symm.trans h
    by_cases hc4 : a2 = 1
    · have h := (if_pos hc4).symm.trans h
      refine sp_tswI (tgt := 50) dX10_at_14 (by rw [hc4]; decide) (by rw [hc4]; decide) (by rw [hc4]; rfl) (by decide) ?_
      refine sp_aload_n dX10_at_50 rfl rfl ?_
      refine sp_getR (RX10, TX10, 16) dX10_at_51 clX10 (j := 3) (by decide) tw_418 (wsI_0 hs) (Or.inl ⟨_, rfl⟩) (wsP_0_3 hs) ?_
      refine sp_getR (RX5, TX5, 16) dX10_at_54 clX5 (j := 6) (by decide) tw_193 (wsI_6 hs) (Or.inr ⟨_, rfl⟩) (wsP_6_6 hs) ?_
      refine sp_iload_n dX10_at_57 rfl rfl ?_
      obtain ⟨j5, hj5, h⟩ := Option.bind_eq_some_iff.mp h
      refine sp_iald2 (j := j5) dX10_at_58 (wsA_12 hs) (wsN_12 hs) hj5 ?_
      cases h
      exact sp_iret dX10_at_59 (ty := .int) rfl rfl (fun _ => hQ)
    have h := (if_neg hc4).symm.trans h
    by_cases hc6 : a2 = 2
    · have h := (if_pos hc6).symm.trans h
      refine sp_tswI (tgt := 60) dX10_at_14 (by rw [hc6]; decide) (by rw [hc6]; decide) (by rw [hc6]; rfl) (by decide) ?_
      refine sp_aload_n dX10_at_60 rfl rfl ?_
      refine sp_getR (RX10, TX10, 16) dX10_at_61 clX10 (j := 3) (by decide) tw_418 (wsI_0 hs) (Or.inl ⟨_, rfl⟩) (wsP_0_3 hs) ?_
      refine sp_getR (RX5, TX5, 16) dX10_at_64 clX5 (j := 7) (by decide) tw_197 (wsI_6 hs) (Or.inr ⟨_, rfl⟩) (wsP_6_7 hs) ?_
      refine sp_iload_n dX10_at_67 rfl rfl ?_
      obtain ⟨j7, hj7, h⟩ := Option.bind_eq_some_iff.mp h
      refine sp_iald2 (j := j7) dX10_at_68 (wsA_13 hs) (wsN_13 hs) hj7 ?_
      cases h
      exact sp_iret dX10_at_69 (ty := .int) rfl rfl (fun _ => hQ)
    have h := (if_neg hc6).symm.trans h
    have hc2 := sp_ne hc2 (show (0 : Int32).toInt = 0 by decide)
    have hc4 := sp_ne hc4 (show (1 : Int32).toInt = 1 by decide)
    have hc6 := sp_ne hc6 (show (2 : Int32).toInt = 2 by decide)
    refine sp_tswO (tgt := 70) dX10_at_14 (by omega) (by decide) ?_
    refine sp_iconst (v := (-1)) dX10_at_70 (by decide) ?_
    cases h
    exact sp_iret dX10_at_71 (ty := .int) rfl rfl (fun _ => hQ)
  · have h := (if_pos hc1).symm.trans h
    refine sp_iconst (v := (-1)) dX10_at_11 (by decide) ?_
    cases h
    exact sp_iret dX10_at_12 (ty := .int) rfl rfl (fun _ => hQ)
def fX10_knows (M : sp_Mem) (a1 : Int32) (a2 : Int32) : Option (Int32 × sp_Mem) :=
  if (fX10_isWithin a2 0 63) = 0 then ((fX10_refuse M (-1)).bind fun x9 => some (x9.1, x9.2)) else (if (fX5_hasPerson M 6 a1) = 0 then ((fX10_refuse M (-2)).bind fun x8 => some (x8.1, x8.2)) else ((sp_ix 5 a1).bind fun j3 => sp_do ((sp_I M 13 j3)) fun u4 => (sp_ix 5 a1).bind fun j5 => sp_do (sp_setI M 13 j5 a2) fun M6 => (fX10_grant M6 u4).bind fun x7 => some (x7.1, x7.2)))
set_option maxRecDepth 100000 in
set_option maxHeartbeats 4000000 in
theorem tX10_knows {g : sp_G} {Ω : sp_Mem → Prop} {Q : sp_Qt} {p : (Int32 × sp_Mem)} (hG : sp_Ok Ω) {M : sp_Mem} {a1 : Int32} {a2 : Int32} (h : fX10_knows M a1 a2 = some p) (hQ : Q (some (.int p.1)) p.2) : sp_Mt g Ω mX10_knows 0 0 [.ref 0, .int a1, .int a2] M Q := by
  unfold fX10_knows at h
  refine sp_Mt.of [some (.ref 0), some (.int a1), some (.int a2), none] (by decide) (by simp [sp_ent, Value.category]) rfl ?_
  refine sp_iload_n dX10_knows_0 rfl rfl ?_
  refine sp_iconst (v := 0) dX10_knows_1 (by decide) ?_
  refine sp_bipush (v := 63) dX10_knows_2 (by decide) ?_
  refine sp_use (fun ho => ?_)
  have hs := hG.1 _ ho
  refine sp_cS (M1 := M) (r := some (.int (fX10_isWithin a2 0 63))) (st := []) [.int a2, .int 0, .int 63] [.int 63, .int 0, .int a2] [.int (fX10_isWithin a2 0 63)] dX10_knows_4 okX10_isWithin tw_471 tw_472 (by decide) (by decide) rfl (Nat.le_of_ble_eq_true rfl) rfl rfl (fun Q hQ => tX10_isWithin hG rfl hQ) ?_
  refine sp_if_ne (tgt := 16) dX10_knows_7 (by decide) (fun hc1 => ?_) (fun hc1 => ?_)
  · have h := (if_neg hc1).symm.trans h
    refine sp_aload_n dX10_knows_16 rfl rfl ?_
    refine sp_getR (RX10, TX10, 16) dX10_knows_17 clX10 (j := 3) (by decide) tw_418 (wsI_0 hs) (Or.inl ⟨_, rfl⟩) (wsP_0_3 hs) ?_
    refine sp_iload_n dX10_knows_20 rfl rfl ?_
    refine sp_cV (M1 := M) (r := some (.int (fX5_hasPerson M 6 a1))) (o := 6) (st := []) (c := 4) (RX5, TX5, 16) [.int a1] [.int a1, .ref 6] [.int (fX5_hasPerson M 6 a1)] dX10_knows_21 okX5_hasPerson tw_570 tw_571 tw_572 (by decide) (by decide) rfl (Nat.le_of_ble_eq_true rfl) rfl rfl rfl rfl (wsI_6 hs) (fun Q hQ => tX5_hasPerson hG room_6 rfl hQ) ?_
    refine sp_if_ne (tgt := 34) dX10_knows_24 (by decide) (fun hc2 => ?_) (fun hc2 => ?_)
    · have h := (if_neg hc2).symm.trans h
      refine sp_aload_n dX10_knows_34 rfl rfl ?_
      refine sp_getR (RX10, TX10, 16) dX10_knows_35 clX10 (j := 3) (by decide) tw_418 (wsI_0 hs) (Or.inl ⟨_, rfl⟩) (wsP_0_3 hs) ?_
      refine sp_getR (RX5, TX5, 16) dX10_knows_38 clX5 (j := 7) (by decide) tw_197 (wsI_6 hs) (Or.inr ⟨_, rfl⟩) (wsP_6_7 hs) ?_
      refine sp_iload_n dX10_knows_41 rfl rfl ?_
      obtain ⟨j3, hj3, h⟩ := Option.bind_eq_some_iff.mp h
      refine sp_iald2 (j := j3) dX10_knows_42 (wsA_13 hs) (wsN_13 hs) hj3 ?_
      obtain ⟨u4, hu4, h⟩ := sp_do_e h
      refine sp_topi hu4 ?_
      refine sp_istore_n [some (.ref 0), some (.int a1), some (.int a2), some (.int u4)] dX10_knows_43 rfl (by decide) rfl ?_
      refine sp_aload_n dX10_knows_44 rfl rfl ?_
      refine sp_getR (RX10, TX10, 16) dX10_knows_45 clX10 (j := 3) (by decide) tw_418 (wsI_0 hs) (Or.inl ⟨_, rfl⟩) (wsP_0_3 hs) ?_
      refine sp_getR (RX5, TX5, 16) dX10_knows_48 clX5 (j := 7) (by decide) tw_197 (wsI_6 hs) (Or.inr ⟨_, rfl⟩) (wsP_6_7 hs) ?_
      refine sp_iload_n dX10_knows_51 rfl rfl ?_
      refine sp_iload_n dX10_knows_52 rfl rfl ?_
      obtain ⟨j5, hj5, h⟩ := Option.bind_eq_some_iff.mp h
      obtain ⟨M6, hM6, h⟩ := sp_do_e h
      refine sp_iast2 (j := j5) hG dX10_knows_53 (wsA_13 hs) (wsN_13 hs) hj5 hM6 ?_
      refine sp_aload_n dX10_knows_54 rfl rfl ?_
      refine sp_iload_n dX10_knows_55 rfl rfl ?_
      refine sp_use (fun ho => ?_)
      have hs := hG.1 _ ho
      obtain ⟨x7, hx7, h⟩ := Option.bind_eq_some_iff.mp h
      refine sp_cV (M1 := x7.2) (r := some (.int x7.1)) (o := 0) (st := []) (c := 9) (RX10, TX10, 16) [.int u4] [.int u4, .ref 0] [.int x7.1] dX10_knows_56 okX10_grant tw_486 tw_488 tw_1 (by decide) (by decide) rfl (Nat.le_of_ble_eq_true rfl) rfl rfl rfl rfl (wsI_0 hs) (fun Q hQ => tX10_grant hG hx7 hQ) ?_
      cases h
      exact sp_iret dX10_knows_59 (ty := .int) rfl rfl (fun _ => hQ)
    · have h := (if_pos hc2).symm.trans h
      refine sp_aload_n dX10_knows_27 rfl rfl ?_
      refine sp_bipush (v := (-2)) dX10_knows_28 (by decide) ?_
      obtain ⟨x8, hx8, h⟩ := Option.bind_eq_some_iff.mp h
      refine sp_cV (M1 := x8.2) (r := some (.int x8.1)) (o := 0) (st := []) (c := 9) (RX10, TX10, 16) [.int (-2)] [.int (-2), .ref 0] [.int x8.1] dX10_knows_30 okX10_refuse tw_474 tw_476 tw_0 (by decide) (by decide) rfl (Nat.le_of_ble_eq_true rfl) rfl rfl rfl rfl (wsI_0 hs) (fun Q hQ => tX10_refuse hG hx8 hQ) ?_
      cases h
      exact sp_iret dX10_knows_33 (ty := .int) rfl rfl (fun _ => hQ)
  · have h := (if_pos hc1).symm.trans h
    refine sp_aload_n dX10_knows_10 rfl rfl ?_
    refine sp_iconst (v := (-1)) dX10_knows_11 (by decide) ?_
    obtain ⟨x9, hx9, h⟩ := Option.bind_eq_some_iff.mp h
    refine sp_cV (M1 := x9.2) (r := some (.int x9.1)) (o := 0) (st := []) (c := 9) (RX10, TX10, 16) [.int (-1)] [.int (-1), .ref 0] [.int x9.1] dX10_knows_12 okX10_refuse tw_474 tw_476 tw_0 (by decide) (by decide) rfl (Nat.le_of_ble_eq_true rfl) rfl rfl rfl rfl (wsI_0 hs) (fun Q hQ => tX10_refuse hG hx9 hQ) ?_
    cases h
    exact sp_iret dX10_knows_15 (ty := .int) rfl rfl (fun _ => hQ)
def fX10_asks (F : Nat) (M : sp_Mem) (a1 : Int32) (a2 : Int32) (a3 : Int32) : Option (Int32 × sp_Mem) :=
  (fX5_hasLoose M 6 a1).bind fun v1 => if v1 = 0 then (some ((-1), M)) else (if (fX5_hasPerson M 6 a2) = 0 then (some ((-1), M)) else ((sp_ix 6 a1).bind fun j4 => sp_do ((sp_I M 8 j4)) fun u5 => if a3 = 0 then ((sp_ix 5 a2).bind fun j7 => (fX10_farApart u5 (sp_I M 11 j7)).bind fun v8 => some (v8, M)) else if a3 = 1 then ((fX6_isShunned F M 6 a1 u5 a2).bind fun x10 => some ((if x10.1 = 0 then 0 else 1), x10.2)) else if a3 = 2 then ((fX6_comes F M 6 a1 u5 a2).bind fun x13 => some ((if x13.1 = 0 then 0 else 1), x13.2)) else (some ((-1), M))))
set_option maxRecDepth 100000 in
set_option maxHeartbeats 4000000 in
theorem tX10_asks {g : sp_G} {Ω : sp_Mem → Prop} {Q : sp_Qt} {F : Nat} {p : (Int32 × sp_Mem)} (hG : sp_Ok Ω) {M : sp_Mem} {a1 : Int32} {a2 : Int32} {a3 : Int32} (h : fX10_asks F M a1 a2 a3 = some p) (hQ : Q (some (.int p.1)) p.2) : sp_Mt g Ω mX10_asks 0 0 [.ref 0, .int a1, .int a2, .int a3] M Q := by
  unfold fX10_asks at h
  refine sp_Mt.of [some (.ref 0), some (.int a1), some (.int a2), some (.int a3), none] (by decide) (by simp [sp_ent, Value.category]) rfl ?_
  refine sp_aload_n dX10_asks_0 rfl rfl ?_
  refine sp_use (fun ho => ?_)
  have hs := hG.1 _ ho
  refine sp_getR (RX10, TX10, 16) dX10_asks_1 clX10 (j := 3) (by decide) tw_418 (wsI_0 hs) (Or.inl ⟨_, rfl⟩) (wsP_0_3 hs) ?_
  refine sp_iload_n dX10_asks_4 rfl rfl ?_
  obtain ⟨v1, hv1, h⟩ := Option.bind_eq_some_iff.mp h
  refine sp_cV (M1 := M) (r := some (.int v1)) (o := 6) (st := []) (c := 4) (RX5, TX5, 16) [.int a1] [.int a1, .ref 6] [.int v1] dX10_asks_5 okX5_hasLoose tw_582 tw_583 tw_584 (by decide) (by decide) rfl (Nat.le_of_ble_eq_true rfl) rfl rfl rfl rfl (wsI_6 hs) (fun Q hQ => tX5_hasLoose hG room_6 hv1 hQ) ?_
  refine sp_if_eq (tgt := 22) dX10_asks_8 (by decide) (fun hc2 => ?_) (fun hc2 => ?_)
  · have h := (if_pos hc2).symm.trans h
    refine sp_iconst (v := (-1)) dX10_asks_22 (by decide) ?_
    cases h
    exact sp_iret dX10_asks_23 (ty := .int) rfl rfl (fun _ => hQ)
  · have h := (if_neg hc2).symm.trans h
    refine sp_aload_n dX10_asks_11 rfl rfl ?_
    refine sp_getR (RX10, TX10, 16) dX10_asks_12 clX10 (j := 3) (by decide) tw_418 (wsI_0 hs) (Or.inl ⟨_, rfl⟩) (wsP_0_3 hs) ?_
    refine sp_iload_n dX10_asks_15 rfl rfl ?_
    refine sp_cV (M1 := M) (r := some (.int (fX5_hasPerson M 6 a2))) (o := 6) (st := []) (c := 4) (RX5, TX5, 16) [.int a2] [.int a2, .ref 6] [.int (fX5_hasPerson M 6 a2)] dX10_asks_16 okX5_hasPerson tw_570 tw_571 tw_572 (by decide) (by decide) rfl (Nat.le_of_ble_eq_true rfl) rfl rfl rfl rfl (wsI_6 hs) (fun Q hQ => tX5_hasPerson hG room_6 rfl hQ) ?_
    refine sp_if_ne (tgt := 24) dX10_asks_19 (by decide) (fun hc3 => ?_) (fun hc3 => ?_)
    · have h := (if_neg hc3).symm.trans h
      refine sp_aload_n dX10_asks_24 rfl rfl ?_
      refine sp_getR (RX10, TX10, 16) dX10_asks_25 clX10 (j := 3) (by decide) tw_418 (wsI_0 hs) (Or.inl ⟨_, rfl⟩) (wsP_0_3 hs) ?_
      refine sp_getR (RX5, TX5, 16) dX10_asks_28 clX5 (j := 1) (by decide) tw_172 (wsI_6 hs) (Or.inr ⟨_, rfl⟩) (wsP_6_1 hs) ?_
      refine sp_iload_n dX10_asks_31 rfl rfl ?_
      obtain ⟨j4, hj4, h⟩ := Option.bind_eq_some_iff.mp h
      refine sp_iald2 (j := j4) dX10_asks_32 (wsA_8 hs) (wsN_8 hs) hj4 ?_
      obtain ⟨u5, hu5, h⟩ := sp_do_e h
      refine sp_topi hu5 ?_
      refine sp_istore [some (.ref 0), some (.int a1), some (.int a2), some (.int a3), some (.int u5)] dX10_asks_33 (by decide) rfl ?_
      refine sp_iload_n dX10_asks_35 rfl rfl ?_
      by_cases hc6 : a3 = 0
      · have h := (if_pos hc6).symm.trans h
        refine sp_tswI (tgt := 64) dX10_asks_36 (by rw [hc6]; decide) (by rw [hc6]; decide) (by rw [hc6]; rfl) (by decide) ?_
        refine sp_iload dX10_asks_64 rfl ?_
        refine sp_aload_n dX10_asks_66 rfl rfl ?_
        refine sp_getR (RX10, TX10, 16) dX10_asks_67 clX10 (j := 3) (by decide) tw_418 (wsI_0 hs) (Or.inl ⟨_, rfl⟩) (wsP_0_3 hs) ?_
        refine sp_getR (RX5, TX5, 16) dX10_asks_70 clX5 (j := 5) (by decide) tw_190 (wsI_6 hs) (Or.inr ⟨_, rfl⟩) (wsP_6_5 hs) ?_
        refine sp_iload_n dX10_asks_73 rfl rfl ?_
        obtain ⟨j7, hj7, h⟩ := Option.bind_eq_some_iff.mp h
        refine sp_iald2 (j := j7) dX10_asks_74 (wsA_11 hs) (wsN_11 hs) hj7 ?_
        obtain ⟨v8, hv8, h⟩ := Option.bind_eq_some_iff.mp h
        refine sp_cS (M1 := M) (r := some (.int v8)) (st := []) [.int u5, .int (sp_I M 11 j7)] [.int (sp_I M 11 j7), .int u5] [.int v8] dX10_asks_75 okX10_farApart tw_587 tw_522 (by decide) (by decide) rfl (Nat.le_of_ble_eq_true rfl) rfl rfl (fun Q hQ => tX10_farApart hG hv8 hQ) ?_
        cases h
        exact sp_iret dX10_asks_78 (ty := .int) rfl rfl (fun _ => hQ)
      have h := (if_neg hc6).symm.trans h
      by_cases hc9 : a3 = 1
      · have h := (if_pos hc9).symm.trans h
        refine sp_tswI (tgt := 79) dX10_asks_36 (by rw [hc9]; decide) (by rw [hc9]; decide) (by rw [hc9]; rfl) (by decide) ?_
        refine sp_aload_n dX10_asks_79 rfl rfl ?_
        refine sp_getR (RX10, TX10, 16) dX10_asks_80 clX10 (j := 0) (by decide) tw_415 (wsI_0 hs) (Or.inl ⟨_, rfl⟩) (wsP_0_0 hs) ?_
        refine sp_aload_n dX10_asks_83 rfl rfl ?_
        refine sp_getR (RX10, TX10, 16) dX10_asks_84 clX10 (j := 3) (by decide) tw_418 (wsI_0 hs) (Or.inl ⟨_, rfl⟩) (wsP_0_3 hs) ?_
        refine sp_iload_n dX10_asks_87 rfl rfl ?_
        refine sp_iload dX10_asks_88 rfl ?_
        refine sp_iload_n dX10_asks_90 rfl rfl ?_
        obtain ⟨x10, hx10, h⟩ := Option.bind_eq_some_iff.mp h
        refine sp_cV (M1 := x10.2) (r := some (.int x10.1)) (o := 1) (st := []) (c := 5) (RX6, TX6, 2) [.ref 6, .int a1, .int u5, .int a2] [.int a2, .int u5, .int a1, .ref 6, .ref 1] [.int x10.1] dX10_asks_91 okX6_isShunned tw_588 tw_589 tw_590 (by decide) (by decide) rfl (Nat.le_of_ble_eq_true rfl) rfl rfl rfl rfl (wsI_1 hs) (fun Q hQ => tX6_isShunned hG room_6 hx10 hQ) ?_
        suffices hj : sp_Wp g Ω mX10_asks 0 0 102 [none, none, none, none, none] [.int (if x10.1 = 0 then 0 else 1)] x10.2 Q by
          refine sp_if_eq (tgt := 101) dX10_asks_94 (by decide) (fun hc11 => ?_) (fun hc11 => ?_)
          · refine sp_iconst (v := 0) dX10_asks_101 (by decide) ?_
            refine sp_weak [false, false, false, false, false] [none, none, none, none, none] rfl ?_
            simp only [if_pos hc11] at hj
            exact hj
          · refine sp_iconst (v := 1) dX10_asks_97 (by decide) ?_
            refine sp_goto (tgt := 102) dX10_asks_98 (by decide) ?_
            refine sp_weak [false, false, false, false, false] [none, none, none, none, none] rfl ?_
            simp only [if_neg hc11] at hj
            exact hj
        cases h
        exact sp_iret dX10_asks_102 (ty := .int) rfl rfl (fun _ => hQ)
      have h := (if_neg hc9).symm.trans h
      by_cases hc12 : a3 = 2
      · have h := (if_pos hc12).symm.trans h
        refine sp_tswI (tgt := 103) dX10_asks_36 (by rw [hc12]; decide) (by rw [hc12]; decide) (by rw [hc12]; rfl) (by decide) ?_
        refine sp_aload_n dX10_asks_103 rfl rfl ?_
        refine sp_getR (RX10, TX10, 16) dX10_asks_104 clX10 (j := 0) (by decide) tw_415 (wsI_0 hs) (Or.inl ⟨_, rfl⟩) (wsP_0_0 hs) ?_
        refine sp_aload_n dX10_asks_107 rfl rfl ?_
        refine sp_getR (RX10, TX10, 16) dX10_asks_108 clX10 (j := 3) (by decide) tw_418 (wsI_0 hs) (Or.inl ⟨_, rfl⟩) (wsP_0_3 hs) ?_
        refine sp_iload_n dX10_asks_111 rfl rfl ?_
        refine sp_iload dX10_asks_112 rfl ?_
        refine sp_iload_n dX10_asks_114 rfl rfl ?_
        obtain ⟨x13, hx13, h⟩ := Option.bind_eq_some_iff.mp h
        refine sp_cV (M1 := x13.2) (r := some (.int x13.1)) (o := 1) (st := []) (c := 5) (RX6, TX6, 2) [.ref 6, .int a1, .int u5, .int a2] [.int a2, .int u5, .int a1, .ref 6, .ref 1] [.int x13.1] dX10_asks_115 okX6_comes tw_592 tw_593 tw_594 (by decide) (by decide) rfl (Nat.le_of_ble_eq_true rfl) rfl rfl rfl rfl (wsI_1 hs) (fun Q hQ => tX6_comes hG room_6 hx13 hQ) ?_
        suffices hj : sp_Wp g Ω mX10_asks 0 0 126 [none, none, none, none, none] [.int (if x13.1 = 0 then 0 else 1)] x13.2 Q by
          refine sp_if_eq (tgt := 125) dX10_asks_118 (by decide) (fun hc14 => ?_) (fun hc14 => ?_)
          · refine sp_iconst (v := 0) dX10_asks_125 (by decide) ?_
            refine sp_weak [false, false, false, false, false] [none, none, none, none, none] rfl ?_
            simp only [if_pos hc14] at hj
            exact hj
          · refine sp_iconst (v := 1) dX10_asks_121 (by decide) ?_
            refine sp_goto (tgt := 126) dX10_asks_122 (by decide) ?_
            refine sp_weak [false, false, false, false, false] [none, none, none, none, none] rfl ?_
            simp only [if_neg hc14] at hj
            exact hj
        cases h
        exact sp_iret dX10_asks_126 (ty := .int) rfl rfl (fun _ => hQ)
      have h := (if_neg hc12).symm.trans h
      have hc6 := sp_ne hc6 (show (0 : Int32).toInt = 0 by decide)
      have hc9 := sp_ne hc9 (show (1 : Int32).toInt = 1 by decide)
      have hc12 := sp_ne hc12 (show (2 : Int32).toInt = 2 by decide)
      refine sp_tswO (tgt := 127) dX10_asks_36 (by omega) (by decide) ?_
      refine sp_iconst (v := (-1)) dX10_asks_127 (by decide) ?_
      cases h
      exact sp_iret dX10_asks_128 (ty := .int) rfl rfl (fun _ => hQ)
    · have h := (if_pos hc3).symm.trans h
      refine sp_iconst (v := (-1)) dX10_asks_22 (by decide) ?_
      cases h
      exact sp_iret dX10_asks_23 (ty := .int) rfl rfl (fun _ => hQ)
def fX10_floor (M0 : sp_Mem) (a1 : Int32) : Option Int32 :=
  if (fX10_isCell a1) = 0 then (some (-1)) else ((sp_ix 25 a1).bind fun j2 => some (sp_I M0 7 j2))
set_option maxRecDepth 100000 in
set_option maxHeartbeats 4000000 in
theorem tX10_floor {g : sp_G} {Ω : sp_Mem → Prop} {Q : sp_Qt} {M0 : sp_Mem} {p : Int32} (hG : sp_Ok Ω) {a1 : Int32} (h : fX10_floor M0 a1 = some p) (hQ : Q (some (.int p)) M0) : sp_Mt g Ω mX10_floor 0 0 [.ref 0, .int a1] M0 Q := by
  unfold fX10_floor at h
  refine sp_Mt.of [some (.ref 0), some (.int a1)] (by decide) (by simp [sp_ent, Value.category]) rfl ?_
  refine sp_iload_n dX10_floor_0 rfl rfl ?_
  refine sp_use (fun ho => ?_)
  have hs := hG.1 _ ho
  refine sp_cS (M1 := M0) (r := some (.int (fX10_isCell a1))) (st := []) [.int a1] [.int a1] [.int (fX10_isCell a1)] dX10_floor_1 okX10_isCell tw_468 tw_469 (by decide) (by decide) rfl (Nat.le_of_ble_eq_true rfl) rfl rfl (fun Q hQ => tX10_isCell hG rfl hQ) ?_
  refine sp_if_eq (tgt := 19) dX10_floor_4 (by decide) (fun hc1 => ?_) (fun hc1 => ?_)
  · have h := (if_pos hc1).symm.trans h
    refine sp_iconst (v := (-1)) dX10_floor_19 (by decide) ?_
    cases h
    exact sp_iret dX10_floor_20 (ty := .int) rfl rfl (fun _ => hQ)
  · have h := (if_neg hc1).symm.trans h
    refine sp_aload_n dX10_floor_7 rfl rfl ?_
    refine sp_getR (RX10, TX10, 16) dX10_floor_8 clX10 (j := 3) (by decide) tw_418 (wsI_0 hs) (Or.inl ⟨_, rfl⟩) (wsP_0_3 hs) ?_
    refine sp_getR (RX5, TX5, 16) dX10_floor_11 clX5 (j := 0) (by decide) tw_166 (wsI_6 hs) (Or.inr ⟨_, rfl⟩) (wsP_6_0 hs) ?_
    refine sp_iload_n dX10_floor_14 rfl rfl ?_
    obtain ⟨j2, hj2, h⟩ := Option.bind_eq_some_iff.mp h
    refine sp_iald2 (j := j2) dX10_floor_15 (wsA_7 hs) (wsN_7 hs) hj2 ?_
    refine sp_goto (tgt := 20) dX10_floor_16 (by decide) ?_
    cases h
    exact sp_iret dX10_floor_20 (ty := .int) rfl rfl (fun _ => hQ)
def fX10_highestTerm (a0 : Int32) : Int32 :=
  if a0 = 0 then (999) else if a0 = 1 then (2) else if a0 = 2 then (9) else (24)
set_option maxRecDepth 100000 in
set_option maxHeartbeats 4000000 in
theorem tX10_highestTerm {g : sp_G} {Ω : sp_Mem → Prop} {Q : sp_Qt} {M0 : sp_Mem} {p : Int32} (hG : sp_Ok Ω) {a0 : Int32} (h : fX10_highestTerm a0 = p) (hQ : Q (some (.int p)) M0) : sp_Mt g Ω mX10_highestTerm 0 0 [.int a0] M0 Q := by
  unfold fX10_highestTerm at h
  refine sp_Mt.of [some (.int a0)] (by decide) (by simp [sp_ent, Value.category]) rfl ?_
  refine sp_iload_n dX10_highestTerm_0 rfl rfl ?_
  by_cases hc1 : a0 = 0
  · have h := (if_pos hc1).symm.trans h
    refine sp_tswI (tgt := 28) dX10_highestTerm_1 (by rw [hc1]; decide) (by rw [hc1]; decide) (by rw [hc1]; rfl) (by decide) ?_
    refine sp_sipush (v := 999) dX10_highestTerm_28 (by decide) ?_
    cases h
    exact sp_iret dX10_highestTerm_31 (ty := .int) rfl rfl (fun _ => hQ)
  have h := (if_neg hc1).symm.trans h
  by_cases hc2 : a0 = 1
  · have h := (if_pos hc2).symm.trans h
    refine sp_tswI (tgt := 32) dX10_highestTerm_1 (by rw [hc2]; decide) (by rw [hc2]; decide) (by rw [hc2]; rfl) (by decide) ?_
    refine sp_iconst (v := 2) dX10_highestTerm_32 (by decide) ?_
    cases h
    exact sp_iret dX10_highestTerm_33 (ty := .int) rfl rfl (fun _ => hQ)
  have h := (if_neg hc2).symm.trans h
  by_cases hc3 : a0 = 2
  · have h := (if_pos hc3).symm.trans h
    refine sp_tswI (tgt := 34) dX10_highestTerm_1 (by rw [hc3]; decide) (by rw [hc3]; decide) (by rw [hc3]; rfl) (by decide) ?_
    refine sp_bipush (v := 9) dX10_highestTerm_34 (by decide) ?_
    cases h
    exact sp_iret dX10_highestTerm_36 (ty := .int) rfl rfl (fun _ => hQ)
  have h := (if_neg hc3).symm.trans h
  have hc1 := sp_ne hc1 (show (0 : Int32).toInt = 0 by decide)
  have hc2 := sp_ne hc2 (show (1 : Int32).toInt = 1 by decide)
  have hc3 := sp_ne hc3 (show (2 : Int32).toInt = 2 by decide)
  refine sp_tswO (tgt := 37) dX10_highestTerm_1 (by omega) (by decide) ?_
  refine sp_bipush (v := 24) dX10_highestTerm_37 (by decide) ?_
  cases h
  exact sp_iret dX10_highestTerm_39 (ty := .int) rfl rfl (fun _ => hQ)
def fX10_terms (M : sp_Mem) (a1 : Int32) (a2 : Int32) : Option (Int32 × sp_Mem) :=
  if (fX10_isWithin a1 0 3) = 0 then ((fX10_refuse M (-1)).bind fun x2 => some (x2.1, x2.2)) else (if (fX10_isWithin a2 0 (fX10_highestTerm a1)) = 0 then ((fX10_refuse M (-1)).bind fun x10 => some (x10.1, x10.2)) else ((sp_ix 4 a1).bind fun j4 => sp_do ((sp_I M 16 j4)) fun u5 => (sp_ix 4 a1).bind fun j6 => sp_do (sp_setI M 16 j6 a2) fun M7 => (fX3_clear M7 18).bind fun M8 => (fX10_grant M8 u5).bind fun x9 => some (x9.1, x9.2)))
set_option maxRecDepth 100000 in
set_option maxHeartbeats 4000000 in
theorem tX10_terms {g : sp_G} {Ω : sp_Mem → Prop} {Q : sp_Qt} {p : (Int32 × sp_Mem)} (hG : sp_Ok Ω) {M : sp_Mem} {a1 : Int32} {a2 : Int32} (h : fX10_terms M a1 a2 = some p) (hQ : Q (some (.int p.1)) p.2) : sp_Mt g Ω mX10_terms 0 0 [.ref 0, .int a1, .int a2] M Q := by
  unfold fX10_terms at h
  refine sp_Mt.of [some (.ref 0), some (.int a1), some (.int a2), none] (by decide) (by simp [sp_ent, Value.category]) rfl ?_
  refine sp_iload_n dX10_terms_0 rfl rfl ?_
  refine sp_iconst (v := 0) dX10_terms_1 (by decide) ?_
  refine sp_iconst (v := 3) dX10_terms_2 (by decide) ?_
  refine sp_use (fun ho => ?_)
  have hs := hG.1 _ ho
  refine sp_cS (M1 := M) (r := some (.int (fX10_isWithin a1 0 3))) (st := []) [.int a1, .int 0, .int 3] [.int 3, .int 0, .int a1] [.int (fX10_isWithin a1 0 3)] dX10_terms_3 okX10_isWithin tw_471 tw_472 (by decide) (by decide) rfl (Nat.le_of_ble_eq_true rfl) rfl rfl (fun Q hQ => tX10_isWithin hG rfl hQ) ?_
  refine sp_if_eq (tgt := 21) dX10_terms_6 (by decide) (fun hc1 => ?_) (fun hc1 => ?_)
  · have h := (if_pos hc1).symm.trans h
    refine sp_aload_n dX10_terms_21 rfl rfl ?_
    refine sp_iconst (v := (-1)) dX10_terms_22 (by decide) ?_
    obtain ⟨x2, hx2, h⟩ := Option.bind_eq_some_iff.mp h
    refine sp_cV (M1 := x2.2) (r := some (.int x2.1)) (o := 0) (st := []) (c := 9) (RX10, TX10, 16) [.int (-1)] [.int (-1), .ref 0] [.int x2.1] dX10_terms_23 okX10_refuse tw_474 tw_476 tw_0 (by decide) (by decide) rfl (Nat.le_of_ble_eq_true rfl) rfl rfl rfl rfl (wsI_0 hs) (fun Q hQ => tX10_refuse hG hx2 hQ) ?_
    cases h
    exact sp_iret dX10_terms_26 (ty := .int) rfl rfl (fun _ => hQ)
  · have h := (if_neg hc1).symm.trans h
    refine sp_iload_n dX10_terms_9 rfl rfl ?_
    refine sp_iconst (v := 0) dX10_terms_10 (by decide) ?_
    refine sp_iload_n dX10_terms_11 rfl rfl ?_
    refine sp_cS (M1 := M) (r := some (.int (fX10_highestTerm a1))) (st := [.int 0, .int a2]) [.int a1] [.int a1, .int 0, .int a2] [.int (fX10_highestTerm a1), .int 0, .int a2] dX10_terms_12 okX10_highestTerm tw_604 tw_605 (by decide) (by decide) rfl (Nat.le_of_ble_eq_true rfl) rfl rfl (fun Q hQ => tX10_highestTerm hG rfl hQ) ?_
    refine sp_cS (M1 := M) (r := some (.int (fX10_isWithin a2 0 (fX10_highestTerm a1)))) (st := []) [.int a2, .int 0, .int (fX10_highestTerm a1)] [.int (fX10_highestTerm a1), .int 0, .int a2] [.int (fX10_isWithin a2 0 (fX10_highestTerm a1))] dX10_terms_15 okX10_isWithin tw_471 tw_472 (by decide) (by decide) rfl (Nat.le_of_ble_eq_true rfl) rfl rfl (fun Q hQ => tX10_isWithin hG rfl hQ) ?_
    refine sp_if_ne (tgt := 27) dX10_terms_18 (by decide) (fun hc3 => ?_) (fun hc3 => ?_)
    · have h := (if_neg hc3).symm.trans h
      refine sp_aload_n dX10_terms_27 rfl rfl ?_
      refine sp_getR (RX10, TX10, 16) dX10_terms_28 clX10 (j := 3) (by decide) tw_418 (wsI_0 hs) (Or.inl ⟨_, rfl⟩) (wsP_0_3 hs) ?_
      refine sp_getR (RX5, TX5, 16) dX10_terms_31 clX5 (j := 12) (by decide) tw_214 (wsI_6 hs) (Or.inr ⟨_, rfl⟩) (wsP_6_12 hs) ?_
      refine sp_iload_n dX10_terms_34 rfl rfl ?_
      obtain ⟨j4, hj4, h⟩ := Option.bind_eq_some_iff.mp h
      refine sp_iald2 (j := j4) dX10_terms_35 (wsA_16 hs) (wsN_16 hs) hj4 ?_
      obtain ⟨u5, hu5, h⟩ := sp_do_e h
      refine sp_topi hu5 ?_
      refine sp_istore_n [some (.ref 0), some (.int a1), some (.int a2), some (.int u5)] dX10_terms_36 rfl (by decide) rfl ?_
      refine sp_aload_n dX10_terms_37 rfl rfl ?_
      refine sp_getR (RX10, TX10, 16) dX10_terms_38 clX10 (j := 3) (by decide) tw_418 (wsI_0 hs) (Or.inl ⟨_, rfl⟩) (wsP_0_3 hs) ?_
      refine sp_getR (RX5, TX5, 16) dX10_terms_41 clX5 (j := 12) (by decide) tw_214 (wsI_6 hs) (Or.inr ⟨_, rfl⟩) (wsP_6_12 hs) ?_
      refine sp_iload_n dX10_terms_44 rfl rfl ?_
      refine sp_iload_n dX10_terms_45 rfl rfl ?_
      obtain ⟨j6, hj6, h⟩ := Option.bind_eq_some_iff.mp h
      obtain ⟨M7, hM7, h⟩ := sp_do_e h
      refine sp_iast2 (j := j6) hG dX10_terms_46 (wsA_16 hs) (wsN_16 hs) hj6 hM7 ?_
      refine sp_aload_n dX10_terms_47 rfl rfl ?_
      refine sp_use (fun ho => ?_)
      have hs := hG.1 _ ho
      refine sp_getR (RX10, TX10, 16) dX10_terms_48 clX10 (j := 1) (by decide) tw_416 (wsI_0 hs) (Or.inl ⟨_, rfl⟩) (wsP_0_1 hs) ?_
      refine sp_getR (RX7, TX7, 6) dX10_terms_51 clX7 (j := 1) (by decide) tw_277 (wsI_5 hs) (Or.inl ⟨_, rfl⟩) (wsP_5_1 hs) ?_
      obtain ⟨M8, hM8, h⟩ := Option.bind_eq_some_iff.mp h
      refine sp_cV (M1 := M8) (r := none) (o := 18) (st := []) (c := 3) (RX3, TX3, 4) [] [.ref 18] [] dX10_terms_54 okX3_clear tw_478 tw_479 tw_480 (by decide) (by decide) rfl (Nat.le_of_ble_eq_true rfl) rfl rfl rfl rfl (wsI_18 hs) (fun Q hQ => tX3_clear hG past_18 hM8 hQ) ?_
      refine sp_aload_n dX10_terms_57 rfl rfl ?_
      refine sp_iload_n dX10_terms_58 rfl rfl ?_
      refine sp_use (fun ho => ?_)
      have hs := hG.1 _ ho
      obtain ⟨x9, hx9, h⟩ := Option.bind_eq_some_iff.mp h
      refine sp_cV (M1 := x9.2) (r := some (.int x9.1)) (o := 0) (st := []) (c := 9) (RX10, TX10, 16) [.int u5] [.int u5, .ref 0] [.int x9.1] dX10_terms_59 okX10_grant tw_486 tw_488 tw_1 (by decide) (by decide) rfl (Nat.le_of_ble_eq_true rfl) rfl rfl rfl rfl (wsI_0 hs) (fun Q hQ => tX10_grant hG hx9 hQ) ?_
      cases h
      exact sp_iret dX10_terms_62 (ty := .int) rfl rfl (fun _ => hQ)
    · have h := (if_pos hc3).symm.trans h
      refine sp_aload_n dX10_terms_21 rfl rfl ?_
      refine sp_iconst (v := (-1)) dX10_terms_22 (by decide) ?_
      obtain ⟨x10, hx10, h⟩ := Option.bind_eq_some_iff.mp h
      refine sp_cV (M1 := x10.2) (r := some (.int x10.1)) (o := 0) (st := []) (c := 9) (RX10, TX10, 16) [.int (-1)] [.int (-1), .ref 0] [.int x10.1] dX10_terms_23 okX10_refuse tw_474 tw_476 tw_0 (by decide) (by decide) rfl (Nat.le_of_ble_eq_true rfl) rfl rfl rfl rfl (wsI_0 hs) (fun Q hQ => tX10_refuse hG hx10 hQ) ?_
      cases h
      exact sp_iret dX10_terms_26 (ty := .int) rfl rfl (fun _ => hQ)
def fX10_feed (F : Nat) (M : sp_Mem) (a1 : Int32) (a2 : Int32) (a3 : Int32) (a4 : Int32) (a5 : Int32) : Option (Int32 × sp_Mem) :=
  if (fX8_hasSpace M) = 0 then (some ((-1), M)) else ((fX8_append F M a1).bind fun M2 => (fX8_append F M2 a2).bind fun M3 => (fX8_append F M3 a3).bind fun M4 => (fX8_append F M4 a4).bind fun M5 => (fX8_append F M5 a5).bind fun M6 => some ((sp_I M6 94 1), M6))
set_option maxRecDepth 100000 in
set_option maxHeartbeats 4000000 in
theorem tX10_feed {g : sp_G} {Ω : sp_Mem → Prop} {Q : sp_Qt} {F : Nat} {p : (Int32 × sp_Mem)} (hG : sp_Ok Ω) {M : sp_Mem} {a1 : Int32} {a2 : Int32} {a3 : Int32} {a4 : Int32} {a5 : Int32} (h : fX10_feed F M a1 a2 a3 a4 a5 = some p) (hQ : Q (some (.int p.1)) p.2) : sp_Mt g Ω mX10_feed 0 0 [.ref 0, .int a1, .int a2, .int a3, .int a4, .int a5] M Q := by
  unfold fX10_feed at h
  refine sp_Mt.of [some (.ref 0), some (.int a1), some (.int a2), some (.int a3), some (.int a4), some (.int a5)] (by decide) (by simp [sp_ent, Value.category]) rfl ?_
  refine sp_aload_n dX10_feed_0 rfl rfl ?_
  refine sp_use (fun ho => ?_)
  have hs := hG.1 _ ho
  refine sp_getR (RX10, TX10, 16) dX10_feed_1 clX10 (j := 8) (by decide) tw_423 (wsI_0 hs) (Or.inl ⟨_, rfl⟩) (wsP_0_8 hs) ?_
  refine sp_cV (M1 := M) (r := some (.int (fX8_hasSpace M))) (o := 94) (st := []) (c := 7) (RX8, TX8, 5) [] [.ref 94] [.int (fX8_hasSpace M)] dX10_feed_4 okX8_hasSpace tw_611 tw_612 tw_613 (by decide) (by decide) rfl (Nat.le_of_ble_eq_true rfl) rfl rfl rfl rfl (wsI_94 hs) (fun Q hQ => tX8_hasSpace hG rfl hQ) ?_
  refine sp_if_ne (tgt := 12) dX10_feed_7 (by decide) (fun hc1 => ?_) (fun hc1 => ?_)
  · have h := (if_neg hc1).symm.trans h
    refine sp_aload_n dX10_feed_12 rfl rfl ?_
    refine sp_getR (RX10, TX10, 16) dX10_feed_13 clX10 (j := 8) (by decide) tw_423 (wsI_0 hs) (Or.inl ⟨_, rfl⟩) (wsP_0_8 hs) ?_
    refine sp_iload_n dX10_feed_16 rfl rfl ?_
    obtain ⟨M2, hM2, h⟩ := Option.bind_eq_some_iff.mp h
    refine sp_cV (M1 := M2) (r := none) (o := 94) (st := []) (c := 7) (RX8, TX8, 5) [.int a1] [.int a1, .ref 94] [] dX10_feed_17 okX8_append tw_615 tw_616 tw_617 (by decide) (by decide) rfl (Nat.le_of_ble_eq_true rfl) rfl rfl rfl rfl (wsI_94 hs) (fun Q hQ => tX8_append hG hM2 hQ) ?_
    refine sp_aload_n dX10_feed_20 rfl rfl ?_
    refine sp_use (fun ho => ?_)
    have hs := hG.1 _ ho
    refine sp_getR (RX10, TX10, 16) dX10_feed_21 clX10 (j := 8) (by decide) tw_423 (wsI_0 hs) (Or.inl ⟨_, rfl⟩) (wsP_0_8 hs) ?_
    refine sp_iload_n dX10_feed_24 rfl rfl ?_
    obtain ⟨M3, hM3, h⟩ := Option.bind_eq_some_iff.mp h
    refine sp_cV (M1 := M3) (r := none) (o := 94) (st := []) (c := 7) (RX8, TX8, 5) [.int a2] [.int a2, .ref 94] [] dX10_feed_25 okX8_append tw_615 tw_616 tw_617 (by decide) (by decide) rfl (Nat.le_of_ble_eq_true rfl) rfl rfl rfl rfl (wsI_94 hs) (fun Q hQ => tX8_append hG hM3 hQ) ?_
    refine sp_aload_n dX10_feed_28 rfl rfl ?_
    refine sp_use (fun ho => ?_)
    have hs := hG.1 _ ho
    refine sp_getR (RX10, TX10, 16) dX10_feed_29 clX10 (j := 8) (by decide) tw_423 (wsI_0 hs) (Or.inl ⟨_, rfl⟩) (wsP_0_8 hs) ?_
    refine sp_iload_n dX10_feed_32 rfl rfl ?_
    obtain ⟨M4, hM4, h⟩ := Option.bind_eq_some_iff.mp h
    refine sp_cV (M1 := M4) (r := none) (o := 94) (st := []) (c := 7) (RX8, TX8, 5) [.int a3] [.int a3, .ref 94] [] dX10_feed_33 okX8_append tw_615 tw_616 tw_617 (by decide) (by decide) rfl (Nat.le_of_ble_eq_true rfl) rfl rfl rfl rfl (wsI_94 hs) (fun Q hQ => tX8_append hG hM4 hQ) ?_
    refine sp_aload_n dX10_feed_36 rfl rfl ?_
    refine sp_use (fun ho => ?_)
    have hs := hG.1 _ ho
    refine sp_getR (RX10, TX10, 16) dX10_feed_37 clX10 (j := 8) (by decide) tw_423 (wsI_0 hs) (Or.inl ⟨_, rfl⟩) (wsP_0_8 hs) ?_
    refine sp_iload dX10_feed_40 rfl ?_
    obtain ⟨M5, hM5, h⟩ := Option.bind_eq_some_iff.mp h
    refine sp_cV (M1 := M5) (r := none) (o := 94) (st := []) (c := 7) (RX8, TX8, 5) [.int a4] [.int a4, .ref 94] [] dX10_feed_42 okX8_append tw_615 tw_616 tw_617 (by decide) (by decide) rfl (Nat.le_of_ble_eq_true rfl) rfl rfl rfl rfl (wsI_94 hs) (fun Q hQ => tX8_append hG hM5 hQ) ?_
    refine sp_aload_n dX10_feed_45 rfl rfl ?_
    refine sp_use (fun ho => ?_)
    have hs := hG.1 _ ho
    refine sp_getR (RX10, TX10, 16) dX10_feed_46 clX10 (j := 8) (by decide) tw_423 (wsI_0 hs) (Or.inl ⟨_, rfl⟩) (wsP_0_8 hs) ?_
    refine sp_iload dX10_feed_49 rfl ?_
    obtain ⟨M6, hM6, h⟩ := Option.bind_eq_some_iff.mp h
    refine sp_cV (M1 := M6) (r := none) (o := 94) (st := []) (c := 7) (RX8, TX8, 5) [.int a5] [.int a5, .ref 94] [] dX10_feed_51 okX8_append tw_615 tw_616 tw_617 (by decide) (by decide) rfl (Nat.le_of_ble_eq_true rfl) rfl rfl rfl rfl (wsI_94 hs) (fun Q hQ => tX8_append hG hM6 hQ) ?_
    refine sp_aload_n dX10_feed_54 rfl rfl ?_
    refine sp_use (fun ho => ?_)
    have hs := hG.1 _ ho
    refine sp_getR (RX10, TX10, 16) dX10_feed_55 clX10 (j := 8) (by decide) tw_423 (wsI_0 hs) (Or.inl ⟨_, rfl⟩) (wsP_0_8 hs) ?_
    refine sp_getI (RX8, TX8, 5) dX10_feed_58 clX8 (j := 1) (by decide) tw_339 (wsI_94 hs) (Or.inl rfl) ?_
    cases h
    exact sp_iret dX10_feed_61 (ty := .int) rfl rfl (fun _ => hQ)
  · have h := (if_pos hc1).symm.trans h
    refine sp_iconst (v := (-1)) dX10_feed_10 (by decide) ?_
    cases h
    exact sp_iret dX10_feed_11 (ty := .int) rfl rfl (fun _ => hQ)
def fX10_end (M : sp_Mem) (a1 : Int32) : Option (Int32 × sp_Mem) :=
  if (fX10_isWithin a1 0 (sp_I M 94 1)) = 0 then (some ((-1), M)) else (sp_do (sp_setI M 94 1 a1) fun M2 => some (a1, M2))
set_option maxRecDepth 100000 in
set_option maxHeartbeats 4000000 in
theorem tX10_end {g : sp_G} {Ω : sp_Mem → Prop} {Q : sp_Qt} {p : (Int32 × sp_Mem)} (hG : sp_Ok Ω) {M : sp_Mem} {a1 : Int32} (h : fX10_end M a1 = some p) (hQ : Q (some (.int p.1)) p.2) : sp_Mt g Ω mX10_end 0 0 [.ref 0, .int a1] M Q := by
  unfold fX10_end at h
  refine sp_Mt.of [some (.ref 0), some (.int a1)] (by decide) (by simp [sp_ent, Value.category]) rfl ?_
  refine sp_iload_n dX10_end_0 rfl rfl ?_
  refine sp_iconst (v := 0) dX10_end_1 (by decide) ?_
  refine sp_aload_n dX10_end_2 rfl rfl ?_
  refine sp_use (fun ho => ?_)
  have hs := hG.1 _ ho
  refine sp_getR (RX10, TX10, 16) dX10_end_3 clX10 (j := 8) (by decide) tw_423 (wsI_0 hs) (Or.inl ⟨_, rfl⟩) (wsP_0_8 hs) ?_
  refine sp_getI (RX8, TX8, 5) dX10_end_6 clX8 (j := 1) (by decide) tw_339 (wsI_94 hs) (Or.inl rfl) ?_
  refine sp_cS (M1 := M) (r := some (.int (fX10_isWithin a1 0 (sp_I M 94 1)))) (st := []) [.int a1, .int 0, .int (sp_I M 94 1)] [.int (sp_I M 94 1), .int 0, .int a1] [.int (fX10_isWithin a1 0 (sp_I M 94 1))] dX10_end_9 okX10_isWithin tw_471 tw_472 (by decide) (by decide) rfl (Nat.le_of_ble_eq_true rfl) rfl rfl (fun Q hQ => tX10_isWithin hG rfl hQ) ?_
  refine sp_if_ne (tgt := 17) dX10_end_12 (by decide) (fun hc1 => ?_) (fun hc1 => ?_)
  · have h := (if_neg hc1).symm.trans h
    refine sp_aload_n dX10_end_17 rfl rfl ?_
    refine sp_getR (RX10, TX10, 16) dX10_end_18 clX10 (j := 8) (by decide) tw_423 (wsI_0 hs) (Or.inl ⟨_, rfl⟩) (wsP_0_8 hs) ?_
    refine sp_iload_n dX10_end_21 rfl rfl ?_
    obtain ⟨M2, hM2, h⟩ := sp_do_e h
    refine sp_putI2 (RX8, TX8, 5) hG dX10_end_22 clX8 (j := 1) (by decide) tw_339 rfl (Or.inl rfl) (wsI_94 hs) hM2 ?_
    refine sp_iload_n dX10_end_25 rfl rfl ?_
    cases h
    exact sp_iret dX10_end_26 (ty := .int) rfl rfl (fun _ => hQ)
  · have h := (if_pos hc1).symm.trans h
    refine sp_iconst (v := (-1)) dX10_end_15 (by decide) ?_
    cases h
    exact sp_iret dX10_end_16 (ty := .int) rfl rfl (fun _ => hQ)
def fX10_row_j92 (F : Nat) (kb : Int32 → Int32 → sp_Mem → Option (Int32 × sp_Mem)) (kx : Int32 → sp_Mem → Option (Int32 × sp_Mem)) (a1 : Int32) (a2 : Int32) (M : sp_Mem) : Option (Int32 × sp_Mem) :=
  sp_do (sp_setI M 0 13 ((sp_I M 0 13) + 1)) fun M7 => kb a1 (a2 + 2) M7
def fX10_row_l26 (F : Nat) (kx : Int32 → sp_Mem → Option (Int32 × sp_Mem)) : Nat → Int32 → Int32 → sp_Mem → Option (Int32 × sp_Mem)
  | 0, _, _, _ => none
  | n + 1, a1, a2, M =>
  if (sp_I M 94 1) ≤ a2 then (kx a1 M) else ((fX8_byteAt M a2).bind fun v4 => (fX8_byteAt M (a2 + 1)).bind fun v5 => if (fX10_isCell v4) = 0 then (fX10_row_j92 F (fX10_row_l26 F kx n) kx a1 a2 M) else (if (fX10_isWithin v5 0 3) = 0 then (fX10_row_j92 F (fX10_row_l26 F kx n) kx a1 a2 M) else ((sp_ix 25 v4).bind fun j9 => sp_do (sp_setI M 7 j9 v5) fun M10 => (fX10_row_l26 F kx n) (a1 + 1) (a2 + 2) M10)))
def fX10_row (F : Nat) (M : sp_Mem) : Option (Int32 × sp_Mem) :=
  if (sp_I M 94 1) = 0 then ((fX10_refuse M (-6)).bind fun x16 => some (x16.1, x16.2)) else (sp_do (sp_setI M 0 13 0) fun M2 => fX10_row_l26 F (fun b12 M11 => sp_do (sp_setI M11 94 1 0) fun M13 => (fX3_clear M13 18).bind fun M14 => (fX10_grant M14 b12).bind fun x15 => some (x15.1, x15.2)) F 0 0 M2)
set_option maxRecDepth 100000 in
set_option maxHeartbeats 4000000 in
theorem tX10_row_j92 {g : sp_G} {Ω : sp_Mem → Prop} {Q : sp_Qt} {F : Nat} {p : (Int32 × sp_Mem)} (hG : sp_Ok Ω)  {kb : Int32 → Int32 → sp_Mem → Option (Int32 × sp_Mem)} {kx : Int32 → sp_Mem → Option (Int32 × sp_Mem)} (hQ : Q (some (.int p.1)) p.2) (hb : ∀ (a1 : Int32) (a2 : Int32) (M : sp_Mem), kb a1 a2 M = some p → sp_Wp g Ω mX10_row 0 0 26 [some (.ref 0), some (.int a1), some (.int a2), none, none] [] M Q) (hx : ∀ (a1 : Int32) (M : sp_Mem), kx a1 M = some p → sp_Wp g Ω mX10_row 0 0 108 [some (.ref 0), some (.int a1), none, none, none] [] M Q) (a1 : Int32) (a2 : Int32) (M : sp_Mem) (h : fX10_row_j92 F kb kx a1 a2 M = some p) : sp_Wp g Ω mX10_row 0 0 92 [some (.ref 0), some (.int a1), some (.int a2), none, none] [] M Q := by
  unfold fX10_row_j92 at h
  refine sp_aload_n dX10_row_92 rfl rfl ?_
  refine sp_dup dX10_row_93 rfl ?_
  refine sp_use (fun ho => ?_)
  have hs := hG.1 _ ho
  refine sp_getI (RX10, TX10, 16) dX10_row_94 clX10 (j := 13) (by decide) tw_428 (wsI_0 hs) (Or.inl rfl) ?_
  refine sp_iconst (v := 1) dX10_row_97 (by decide) ?_
  refine sp_iadd dX10_row_98 ?_
  obtain ⟨M7, hM7, h⟩ := sp_do_e h
  refine sp_putI2 (RX10, TX10, 16) hG dX10_row_99 clX10 (j := 13) (by decide) tw_428 rfl (Or.inl rfl) (wsI_0 hs) hM7 ?_
  refine sp_iinc (v := (a2 + 2)) [some (.ref 0), some (.int a1), some (.int (a2 + 2)), none, none] dX10_row_102 rfl rfl (by decide) rfl ?_
  refine sp_goto (tgt := 26) dX10_row_105 (by decide) ?_
  refine sp_weak [true, true, true, false, false] [some (.ref 0), some (.int a1), some (.int (a2 + 2)), none, none] rfl ?_
  exact hb _ _ _ h
set_option maxRecDepth 100000 in
set_option maxHeartbeats 4000000 in
theorem tX10_row_l26 {g : sp_G} {Ω : sp_Mem → Prop} {Q : sp_Qt} {F : Nat} {p : (Int32 × sp_Mem)} (hG : sp_Ok Ω)  {kx : Int32 → sp_Mem → Option (Int32 × sp_Mem)} (hQ : Q (some (.int p.1)) p.2) (hx : ∀ (a1 : Int32) (M : sp_Mem), kx a1 M = some p → sp_Wp g Ω mX10_row 0 0 108 [some (.ref 0), some (.int a1), none, none, none] [] M Q) : ∀ (n : Nat) (a1 : Int32) (a2 : Int32) (M : sp_Mem), fX10_row_l26 F kx n a1 a2 M = some p → sp_Wp g Ω mX10_row 0 0 26 [some (.ref 0), some (.int a1), some (.int a2), none, none] [] M Q := by
  intro n
  induction n with
  | zero =>
    intro a1 a2 M h
    rw [fX10_row_l26] at h
    cases h
  | succ n ih =>
    intro a1 a2 M h
    rw [fX10_row_l26] at h
    refine sp_iload_n dX10_row_26 rfl rfl ?_
    refine sp_aload_n dX10_row_27 rfl rfl ?_
    refine sp_use (fun ho => ?_)
    have hs := hG.1 _ ho
    refine sp_getR (RX10, TX10, 16) dX10_row_28 clX10 (j := 8) (by decide) tw_423 (wsI_0 hs) (Or.inl ⟨_, rfl⟩) (wsP_0_8 hs) ?_
    refine sp_getI (RX8, TX8, 5) dX10_row_31 clX8 (j := 1) (by decide) tw_339 (wsI_94 hs) (Or.inl rfl) ?_
    refine sp_icmp_ge (tgt := 108) dX10_row_34 (by decide) (fun hc3 => ?_) (fun hc3 => ?_)
    · have h := (if_pos hc3).symm.trans h
      refine sp_weak [true, true, false, false, false] [some (.ref 0), some (.int a1), none, none, none] rfl ?_
      exact hx _ _ h
    · have h := (if_neg hc3).symm.trans h
      refine sp_aload_n dX10_row_37 rfl rfl ?_
      refine sp_getR (RX10, TX10, 16) dX10_row_38 clX10 (j := 8) (by decide) tw_423 (wsI_0 hs) (Or.inl ⟨_, rfl⟩) (wsP_0_8 hs) ?_
      refine sp_iload_n dX10_row_41 rfl rfl ?_
      obtain ⟨v4, hv4, h⟩ := Option.bind_eq_some_iff.mp h
      refine sp_cV (M1 := M) (r := some (.int v4)) (o := 94) (st := []) (c := 7) (RX8, TX8, 5) [.int a2] [.int a2, .ref 94] [.int v4] dX10_row_42 okX8_byteAt tw_627 tw_628 tw_629 (by decide) (by decide) rfl (Nat.le_of_ble_eq_true rfl) rfl rfl rfl rfl (wsI_94 hs) (fun Q hQ => tX8_byteAt hG hv4 hQ) ?_
      refine sp_istore_n [some (.ref 0), some (.int a1), some (.int a2), some (.int v4), none] dX10_row_45 rfl (by decide) rfl ?_
      refine sp_aload_n dX10_row_46 rfl rfl ?_
      refine sp_getR (RX10, TX10, 16) dX10_row_47 clX10 (j := 8) (by decide) tw_423 (wsI_0 hs) (Or.inl ⟨_, rfl⟩) (wsP_0_8 hs) ?_
      refine sp_iload_n dX10_row_50 rfl rfl ?_
      refine sp_iconst (v := 1) dX10_row_51 (by decide) ?_
      refine sp_iadd dX10_row_52 ?_
      obtain ⟨v5, hv5, h⟩ := Option.bind_eq_some_iff.mp h
      refine sp_cV (M1 := M) (r := some (.int v5)) (o := 94) (st := []) (c := 7) (RX8, TX8, 5) [.int (a2 + 1)] [.int (a2 + 1), .ref 94] [.int v5] dX10_row_53 okX8_byteAt tw_627 tw_628 tw_629 (by decide) (by decide) rfl (Nat.le_of_ble_eq_true rfl) rfl rfl rfl rfl (wsI_94 hs) (fun Q hQ => tX8_byteAt hG hv5 hQ) ?_
      refine sp_istore [some (.ref 0), some (.int a1), some (.int a2), some (.int v4), some (.int v5)] dX10_row_56 (by decide) rfl ?_
      refine sp_iload_n dX10_row_58 rfl rfl ?_
      refine sp_cS (M1 := M) (r := some (.int (fX10_isCell v4))) (st := []) [.int v4] [.int v4] [.int (fX10_isCell v4)] dX10_row_59 okX10_isCell tw_468 tw_469 (by decide) (by decide) rfl (Nat.le_of_ble_eq_true rfl) rfl rfl (fun Q hQ => tX10_isCell hG rfl hQ) ?_
      refine sp_if_eq (tgt := 92) dX10_row_62 (by decide) (fun hc6 => ?_) (fun hc6 => ?_)
      · have h := (if_pos hc6).symm.trans h
        refine sp_weak [true, true, true, false, false] [some (.ref 0), some (.int a1), some (.int a2), none, none] rfl ?_
        exact tX10_row_j92 hG hQ ih hx _ _ _ h
      · have h := (if_neg hc6).symm.trans h
        refine sp_iload dX10_row_65 rfl ?_
        refine sp_iconst (v := 0) dX10_row_67 (by decide) ?_
        refine sp_iconst (v := 3) dX10_row_68 (by decide) ?_
        refine sp_cS (M1 := M) (r := some (.int (fX10_isWithin v5 0 3))) (st := []) [.int v5, .int 0, .int 3] [.int 3, .int 0, .int v5] [.int (fX10_isWithin v5 0 3)] dX10_row_69 okX10_isWithin tw_471 tw_472 (by decide) (by decide) rfl (Nat.le_of_ble_eq_true rfl) rfl rfl (fun Q hQ => tX10_isWithin hG rfl hQ) ?_
        refine sp_if_eq (tgt := 92) dX10_row_72 (by decide) (fun hc8 => ?_) (fun hc8 => ?_)
        · have h := (if_pos hc8).symm.trans h
          refine sp_weak [true, true, true, false, false] [some (.ref 0), some (.int a1), some (.int a2), none, none] rfl ?_
          exact tX10_row_j92 hG hQ ih hx _ _ _ h
        · have h := (if_neg hc8).symm.trans h
          refine sp_aload_n dX10_row_75 rfl rfl ?_
          refine sp_getR (RX10, TX10, 16) dX10_row_76 clX10 (j := 3) (by decide) tw_418 (wsI_0 hs) (Or.inl ⟨_, rfl⟩) (wsP_0_3 hs) ?_
          refine sp_getR (RX5, TX5, 16) dX10_row_79 clX5 (j := 0) (by decide) tw_166 (wsI_6 hs) (Or.inr ⟨_, rfl⟩) (wsP_6_0 hs) ?_
          refine sp_iload_n dX10_row_82 rfl rfl ?_
          refine sp_iload dX10_row_83 rfl ?_
          obtain ⟨j9, hj9, h⟩ := Option.bind_eq_some_iff.mp h
          obtain ⟨M10, hM10, h⟩ := sp_do_e h
          refine sp_iast2 (j := j9) hG dX10_row_85 (wsA_7 hs) (wsN_7 hs) hj9 hM10 ?_
          refine sp_iinc (v := (a1 + 1)) [some (.ref 0), some (.int (a1 + 1)), some (.int a2), some (.int v4), some (.int v5)] dX10_row_86 rfl rfl (by decide) rfl ?_
          refine sp_goto (tgt := 102) dX10_row_89 (by decide) ?_
          refine sp_iinc (v := (a2 + 2)) [some (.ref 0), some (.int (a1 + 1)), some (.int (a2 + 2)), some (.int v4), some (.int v5)] dX10_row_102 rfl rfl (by decide) rfl ?_
          refine sp_goto (tgt := 26) dX10_row_105 (by decide) ?_
          refine sp_weak [true, true, true, false, false] [some (.ref 0), some (.int (a1 + 1)), some (.int (a2 + 2)), none, none] rfl ?_
          exact ih _ _ _ h
set_option maxRecDepth 100000 in
set_option maxHeartbeats 4000000 in
theorem tX10_row {g : sp_G} {Ω : sp_Mem → Prop} {Q : sp_Qt} {F : Nat} {p : (Int32 × sp_Mem)} (hG : sp_Ok Ω) {M : sp_Mem} (h : fX10_row F M = some p) (hQ : Q (some (.int p.1)) p.2) : sp_Mt g Ω mX10_row 0 0 [.ref 0] M Q := by
  unfold fX10_row at h
  refine sp_Mt.of [some (.ref 0), none, none, none, none] (by decide) (by simp [sp_ent, Value.category]) rfl ?_
  refine sp_aload_n dX10_row_0 rfl rfl ?_
  refine sp_use (fun ho => ?_)
  have hs := hG.1 _ ho
  refine sp_getR (RX10, TX10, 16) dX10_row_1 clX10 (j := 8) (by decide) tw_423 (wsI_0 hs) (Or.inl ⟨_, rfl⟩) (wsP_0_8 hs) ?_
  refine sp_getI (RX8, TX8, 5) dX10_row_4 clX8 (j := 1) (by decide) tw_339 (wsI_94 hs) (Or.inl rfl) ?_
  refine sp_if_ne (tgt := 17) dX10_row_7 (by decide) (fun hc1 => ?_) (fun hc1 => ?_)
  · have h := (if_neg hc1).symm.trans h
    refine sp_iconst (v := 0) dX10_row_17 (by decide) ?_
    refine sp_istore_n [some (.ref 0), some (.int 0), none, none, none] dX10_row_18 rfl (by decide) rfl ?_
    refine sp_aload_n dX10_row_19 rfl rfl ?_
    refine sp_iconst (v := 0) dX10_row_20 (by decide) ?_
    obtain ⟨M2, hM2, h⟩ := sp_do_e h
    refine sp_putI2 (RX10, TX10, 16) hG dX10_row_21 clX10 (j := 13) (by decide) tw_428 rfl (Or.inl rfl) (wsI_0 hs) hM2 ?_
    refine sp_iconst (v := 0) dX10_row_24 (by decide) ?_
    refine sp_istore_n [some (.ref 0), some (.int 0), some (.int 0), none, none] dX10_row_25 rfl (by decide) rfl ?_
    refine sp_weak [true, true, true, false, false] [some (.ref 0), some (.int 0), some (.int 0), none, none] rfl ?_
    refine tX10_row_l26 hG hQ (fun b12 M11 h => ?_) F _ _ _ h
    refine sp_aload_n dX10_row_108 rfl rfl ?_
    refine sp_use (fun ho => ?_)
    have hs := hG.1 _ ho
    refine sp_getR (RX10, TX10, 16) dX10_row_109 clX10 (j := 8) (by decide) tw_423 (wsI_0 hs) (Or.inl ⟨_, rfl⟩) (wsP_0_8 hs) ?_
    refine sp_iconst (v := 0) dX10_row_112 (by decide) ?_
    obtain ⟨M13, hM13, h⟩ := sp_do_e h
    refine sp_putI2 (RX8, TX8, 5) hG dX10_row_113 clX8 (j := 1) (by decide) tw_339 rfl (Or.inl rfl) (wsI_94 hs) hM13 ?_
    refine sp_aload_n dX10_row_116 rfl rfl ?_
    refine sp_use (fun ho => ?_)
    have hs := hG.1 _ ho
    refine sp_getR (RX10, TX10, 16) dX10_row_117 clX10 (j := 1) (by decide) tw_416 (wsI_0 hs) (Or.inl ⟨_, rfl⟩) (wsP_0_1 hs) ?_
    refine sp_getR (RX7, TX7, 6) dX10_row_120 clX7 (j := 1) (by decide) tw_277 (wsI_5 hs) (Or.inl ⟨_, rfl⟩) (wsP_5_1 hs) ?_
    obtain ⟨M14, hM14, h⟩ := Option.bind_eq_some_iff.mp h
    refine sp_cV (M1 := M14) (r := none) (o := 18) (st := []) (c := 3) (RX3, TX3, 4) [] [.ref 18] [] dX10_row_123 okX3_clear tw_478 tw_479 tw_480 (by decide) (by decide) rfl (Nat.le_of_ble_eq_true rfl) rfl rfl rfl rfl (wsI_18 hs) (fun Q hQ => tX3_clear hG past_18 hM14 hQ) ?_
    refine sp_aload_n dX10_row_126 rfl rfl ?_
    refine sp_iload_n dX10_row_127 rfl rfl ?_
    refine sp_use (fun ho => ?_)
    have hs := hG.1 _ ho
    obtain ⟨x15, hx15, h⟩ := Option.bind_eq_some_iff.mp h
    refine sp_cV (M1 := x15.2) (r := some (.int x15.1)) (o := 0) (st := []) (c := 9) (RX10, TX10, 16) [.int b12] [.int b12, .ref 0] [.int x15.1] dX10_row_128 okX10_grant tw_486 tw_488 tw_1 (by decide) (by decide) rfl (Nat.le_of_ble_eq_true rfl) rfl rfl rfl rfl (wsI_0 hs) (fun Q hQ => tX10_grant hG hx15 hQ) ?_
    cases h
    exact sp_iret dX10_row_131 (ty := .int) rfl rfl (fun _ => hQ)
  · have h := (if_pos hc1).symm.trans h
    refine sp_aload_n dX10_row_10 rfl rfl ?_
    refine sp_bipush (v := (-6)) dX10_row_11 (by decide) ?_
    obtain ⟨x16, hx16, h⟩ := Option.bind_eq_some_iff.mp h
    refine sp_cV (M1 := x16.2) (r := some (.int x16.1)) (o := 0) (st := []) (c := 9) (RX10, TX10, 16) [.int (-6)] [.int (-6), .ref 0] [.int x16.1] dX10_row_13 okX10_refuse tw_474 tw_476 tw_0 (by decide) (by decide) rfl (Nat.le_of_ble_eq_true rfl) rfl rfl rfl rfl (wsI_0 hs) (fun Q hQ => tX10_refuse hG hx16 hQ) ?_
    cases h
    exact sp_iret dX10_row_16 (ty := .int) rfl rfl (fun _ => hQ)
