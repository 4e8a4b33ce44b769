def fX1_driftOnce_l46 (F : Nat) (o1 : Nat) (kx : Int32 → Int64 → sp_Mem → Option sp_Mem) : Nat → Int32 → Int64 → Int64 → Int32 → sp_Mem → Option sp_Mem
  | 0, _, _, _, _, _ => none
  | n + 1, a2, a3, a5, a7, M =>
  if 4 < a7 then (kx a2 a5 M) else ((fX10_stepFrom a2 a7).bind fun v11 => if (fX10_isCell v11) = 0 then ((fX1_driftOnce_l46 F o1 kx n) a2 a3 a5 (a7 + 1) M) else ((sp_ix 25 v11).bind fun j13 => if (sp_I M (o1 + 1) j13) = 3 then ((fX1_driftOnce_l46 F o1 kx n) a2 a3 a5 (a7 + 1) M) else ((sp_P M 77 3).bind fun w15 => (sp_ix 25 v11).bind fun j16 => (sp_ix 25 v11).bind fun j17 => sp_do (sp_setL M w15 j17 ((sp_L M w15 j16) + a3)) fun M18 => (fX1_driftOnce_l46 F o1 kx n) a2 a3 (a5 - a3) (a7 + 1) M18)))
def fX1_driftOnce_l10 (F : Nat) (o1 : Nat) (kx : sp_Mem → Option sp_Mem) : Nat → Int32 → sp_Mem → Option sp_Mem
  | 0, _, _ => none
  | n + 1, a2, M =>
  if 25 ≤ a2 then (kx M) else ((sp_P M 77 2).bind fun w4 => (sp_ix 25 a2).bind fun j5 => sp_do ((((sp_L M w4 j5) * (Int32.toInt64 (sp_I M (o1 + 10) 1))) / 10)) fun u6 => (sp_P M 77 2).bind fun w7 => (sp_ix 25 a2).bind fun j8 => sp_do ((sp_L M w7 j8)) fun u9 => fX1_driftOnce_l46 F o1 (fun b20 b21 M19 => (sp_P M19 77 3).bind fun w22 => (sp_ix 25 b20).bind fun j23 => (sp_ix 25 b20).bind fun j24 => sp_do (sp_setL M19 w22 j24 ((sp_L M19 w22 j23) + b21)) fun M25 => (fX1_driftOnce_l10 F o1 kx n) (b20 + 1) M25) F a2 u6 u9 1 M)
def fX1_driftOnce (F : Nat) (M : sp_Mem) (o1 : Nat) : Option sp_Mem :=
  (sp_P M 77 3).bind fun w1 => (fJ7_fill_d0a16 F M w1 0).bind fun M2 => fX1_driftOnce_l10 F o1 (fun M26 => (sp_P M26 77 2).bind fun w27 => (sp_P M26 77 3).bind fun w28 => sp_do (sp_setP M26 77 2 (some w28)) fun M29 => sp_do (sp_setP M29 77 3 (some w27)) fun M30 => some M30) F 0 M2
set_option maxRecDepth 100000 in
set_option maxHeartbeats 4000000 in
theorem tX1_driftOnce_l46 {g : sp_G} {Ω : sp_Mem → Prop} {Q : sp_Qt} {F : Nat} {p : sp_Mem} (hG : sp_Ok Ω) {o1 : Nat} (ho1 : sp_room o1)  {kx : Int32 → Int64 → sp_Mem → Option sp_Mem} (hQ : Q none p) (hx : ∀ (a2 : Int32) (a5 : Int64) (M : sp_Mem), kx a2 a5 M = some p → sp_Wp g Ω mX1_driftOnce 0 0 102 [some (.ref 77), some (.ref o1), some (.int a2), none, none, some (.long a5), none, none, none] [] M Q) : ∀ (n : Nat) (a2 : Int32) (a3 : Int64) (a5 : Int64) (a7 : Int32) (M : sp_Mem), fX1_driftOnce_l46 F o1 kx n a2 a3 a5 a7 M = some p → sp_Wp g Ω mX1_driftOnce 0 0 46 [some (.ref 77), some (.ref o1), some (.int a2), some (.long a3), none, some (.long a5), none, some (.int a7), none] [] M Q := by
  intro n
  induction n with
  | zero =>
    intro a2 a3 a5 a7 M h
    rw [fX1_driftOnce_l46] at h
    cases h
  | succ n ih =>
    intro a2 a3 a5 a7 M h
    rw [fX1_driftOnce_l46] at h
    refine sp_iload dX1_driftOnce_46 rfl ?_
    refine sp_iconst (v := 4) dX1_driftOnce_48 (by decide) ?_
    refine sp_icmp_gt (tgt := 102) dX1_driftOnce_49 (by decide) (fun hc10 => ?_) (fun hc10 => ?_)
    · have h := (if_pos hc10).symm.trans h
      refine sp_weak [true, true, true, false, false, true, false, false, false] [some (.ref 77), some (.ref o1), some (.int a2), none, none, some (.long a5), none, none, none] rfl ?_
      exact hx _ _ _ h
    · have h := (if_neg hc10).symm.trans h
      refine sp_iload_n dX1_driftOnce_52 rfl rfl ?_
      refine sp_iload dX1_driftOnce_53 rfl ?_
      refine sp_use (fun ho => ?_)
      have hs := hG.1 _ ho
      obtain ⟨v11, hv11, h⟩ := Option.bind_eq_some_iff.mp h
      refine sp_cSN (M1 := M) (r := some (.int v11)) (st := []) [.int a2, .int a7] [.int a7, .int a2] [.int v11] dX1_driftOnce_55 okX10_stepFrom (by decide +kernel) tw_922 (by decide) (by decide) rfl (Nat.le_of_ble_eq_true rfl) rfl rfl (fun Q hQ => tX10_stepFrom hG hv11 hQ) ?_
      refine sp_istore [some (.ref 77), some (.ref o1), some (.int a2), some (.long a3), none, some (.long a5), none, some (.int a7), some (.int v11)] dX1_driftOnce_58 (by decide) rfl ?_
      refine sp_iload dX1_driftOnce_60 rfl ?_
      refine sp_cSN (M1 := M) (r := some (.int (fX10_isCell v11))) (st := []) [.int v11] [.int v11] [.int (fX10_isCell v11)] dX1_driftOnce_62 okX10_isCell (by decide +kernel) tw_469 (by decide) (by decide) rfl (Nat.le_of_ble_eq_true rfl) rfl rfl (fun Q hQ => tX10_isCell hG rfl hQ) ?_
      refine sp_if_eq (tgt := 96) dX1_driftOnce_65 (by decide) (fun hc12 => ?_) (fun hc12 => ?_)
      · have h := (if_pos hc12).symm.trans h
        refine sp_iinc (v := (a7 + 1)) [some (.ref 77), some (.ref o1), some (.int a2), some (.long a3), none, some (.long a5), none, some (.int (a7 + 1)), some (.int v11)] dX1_driftOnce_96 rfl rfl (by decide) rfl ?_
        refine sp_goto (tgt := 46) dX1_driftOnce_99 (by decide) ?_
        refine sp_weak [true, true, true, true, false, true, false, true, false] [some (.ref 77), some (.ref o1), some (.int a2), some (.long a3), none, some (.long a5), none, some (.int (a7 + 1)), none] rfl ?_
        exact ih _ _ _ _ _ h
      · have h := (if_neg hc12).symm.trans h
        refine sp_aload_n dX1_driftOnce_68 rfl rfl ?_
        refine sp_getR (RX5, TX5, 16) dX1_driftOnce_69 clX5 (j := 0) (by decide) tw_168 (rmI hs ho1) (Or.inr ⟨_, rfl⟩) (rmP_0 hs ho1) ?_
        refine sp_iload dX1_driftOnce_72 rfl ?_
        obtain ⟨j13, hj13, h⟩ := Option.bind_eq_some_iff.mp h
        refine sp_iald2 (j := j13) dX1_driftOnce_74 (rmA_1 hs ho1) (rmN_1 hs ho1) hj13 ?_
        refine sp_iconst (v := 3) dX1_driftOnce_75 (by decide) ?_
        refine sp_icmp_eq (tgt := 96) dX1_driftOnce_76 (by decide) (fun hc14 => ?_) (fun hc14 => ?_)
        · have h := (if_pos hc14).symm.trans h
          refine sp_iinc (v := (a7 + 1)) [some (.ref 77), some (.ref o1), some (.int a2), some (.long a3), none, some (.long a5), none, some (.int (a7 + 1)), some (.int v11)] dX1_driftOnce_96 rfl rfl (by decide) rfl ?_
          refine sp_goto (tgt := 46) dX1_driftOnce_99 (by decide) ?_
          refine sp_weak [true, true, true, true, false, true, false, true, false] [some (.ref 77), some (.ref o1), some (.int a2), some (.long a3), none, some (.long a5), none, some (.int (a7 + 1)), none] rfl ?_
          exact ih _ _ _ _ _ h
        · have h := (if_neg hc14).symm.trans h
          refine sp_aload_n dX1_driftOnce_79 rfl rfl ?_
          obtain ⟨w15, hw15, h⟩ := Option.bind_eq_some_iff.mp h
          have pw15 : sp_half w15 := ws_half3 hs hw15
          refine sp_getR (RX1, TX1, 7) dX1_driftOnce_80 clX1 (j := 3) (by decide) tw_310 (wsI_77 hs) (Or.inr ⟨_, rfl⟩) hw15 ?_
          refine sp_iload dX1_driftOnce_83 rfl ?_
          refine sp_dup2 dX1_driftOnce_85 rfl rfl ?_
          obtain ⟨j16, hj16, h⟩ := Option.bind_eq_some_iff.mp h
          refine sp_lald2 (j := j16) dX1_driftOnce_86 (hfA hs pw15) (hfN hs pw15) hj16 ?_
          refine sp_lload_n dX1_driftOnce_87 rfl rfl ?_
          refine sp_ladd dX1_driftOnce_88 ?_
          obtain ⟨j17, hj17, h⟩ := Option.bind_eq_some_iff.mp h
          obtain ⟨M18, hM18, h⟩ := sp_do_e h
          refine sp_last2 (j := j17) hG dX1_driftOnce_89 (hfA hs pw15) (hfN hs pw15) hj17 hM18 ?_
          refine sp_lload dX1_driftOnce_90 rfl ?_
          refine sp_lload_n dX1_driftOnce_92 rfl rfl ?_
          refine sp_lsub dX1_driftOnce_93 ?_
          refine sp_lstore [some (.ref 77), some (.ref o1), some (.int a2), some (.long a3), none, some (.long (a5 - a3)), none, some (.int a7), some (.int v11)] dX1_driftOnce_94 (by decide) rfl ?_
          refine sp_iinc (v := (a7 + 1)) [some (.ref 77), some (.ref o1), some (.int a2), some (.long a3), none, some (.long (a5 - a3)), none, some (.int (a7 + 1)), some (.int v11)] dX1_driftOnce_96 rfl rfl (by decide) rfl ?_
          refine sp_goto (tgt := 46) dX1_driftOnce_99 (by decide) ?_
          refine sp_weak [true, true, true, true, false, true, false, true, false] [some (.ref 77), some (.ref o1), some (.int a2), some (.long a3), none, some (.long (a5 - a3)), none, some (.int (a7 + 1)), none] rfl ?_
          exact ih _ _ _ _ _ h
set_option maxRecDepth 100000 in
set_option maxHeartbeats 4000000 in
theorem tX1_driftOnce_l10 {g : sp_G} {Ω : sp_Mem → Prop} {Q : sp_Qt} {F : Nat} {p : sp_Mem} (hG : sp_Ok Ω) {o1 : Nat} (ho1 : sp_room o1)  {kx : sp_Mem → Option sp_Mem} (hQ : Q none p) (hx : ∀  (M : sp_Mem), kx M = some p → sp_Wp g Ω mX1_driftOnce 0 0 119 [some (.ref 77), none, none, none, none, none, none, none, none] [] M Q) : ∀ (n : Nat) (a2 : Int32) (M : sp_Mem), fX1_driftOnce_l10 F o1 kx n a2 M = some p → sp_Wp g Ω mX1_driftOnce 0 0 10 [some (.ref 77), some (.ref o1), some (.int a2), none, none, none, none, none, none] [] M Q := by
  intro n
  induction n with
  | zero =>
    intro a2 M h
    rw [fX1_driftOnce_l10] at h
    cases h
  | succ n ih =>
    intro a2 M h
    rw [fX1_driftOnce_l10] at h
    refine sp_iload_n dX1_driftOnce_10 rfl rfl ?_
    refine sp_bipush (v := 25) dX1_driftOnce_11 (by decide) ?_
    refine sp_icmp_ge (tgt := 119) dX1_driftOnce_13 (by decide) (fun hc3 => ?_) (fun hc3 => ?_)
    · have h := (if_pos hc3).symm.trans h
      refine sp_weak [true, false, false, false, false, false, false, false, false] [some (.ref 77), none, none, none, none, none, none, none, none] rfl ?_
      exact hx _ h
    · have h := (if_neg hc3).symm.trans h
      refine sp_aload_n dX1_driftOnce_16 rfl rfl ?_
      refine sp_use (fun ho => ?_)
      have hs := hG.1 _ ho
      obtain ⟨w4, hw4, h⟩ := Option.bind_eq_some_iff.mp h
      have pw4 : sp_half w4 := ws_half2 hs hw4
      refine sp_getR (RX1, TX1, 7) dX1_driftOnce_17 clX1 (j := 2) (by decide) tw_309 (wsI_77 hs) (Or.inr ⟨_, rfl⟩) hw4 ?_
      refine sp_iload_n dX1_driftOnce_20 rfl rfl ?_
      obtain ⟨j5, hj5, h⟩ := Option.bind_eq_some_iff.mp h
      refine sp_lald2 (j := j5) dX1_driftOnce_21 (hfA hs pw4) (hfN hs pw4) hj5 ?_
      refine sp_aload_n dX1_driftOnce_22 rfl rfl ?_
      refine sp_getR (RX5, TX5, 16) dX1_driftOnce_23 clX5 (j := 12) (by decide) tw_213 (rmI hs ho1) (Or.inr ⟨_, rfl⟩) (rmP_12 hs ho1) ?_
      refine sp_iconst (v := 1) dX1_driftOnce_26 (by decide) ?_
      refine sp_iald2 (j := 1) dX1_driftOnce_27 (rmA_10 hs ho1) (rmN_10 hs ho1) rfl ?_
      refine sp_i2l dX1_driftOnce_28 ?_
      refine sp_lmul dX1_driftOnce_29 ?_
      refine sp_ldc2 (v := 10) dX1_driftOnce_30 tw_1120 ?_
      refine sp_ldiv dX1_driftOnce_33 (by decide) ?_
      obtain ⟨u6, hu6, h⟩ := sp_do_e h
      refine sp_topl hu6 ?_
      refine sp_lstore_n [some (.ref 77), some (.ref o1), some (.int a2), some (.long u6), none, none, none, none, none] dX1_driftOnce_34 rfl (by decide) rfl ?_
      refine sp_aload_n dX1_driftOnce_35 rfl rfl ?_
      obtain ⟨w7, hw7, h⟩ := Option.bind_eq_some_iff.mp h
      have pw7 : sp_half w7 := ws_half2 hs hw7
      refine sp_getR (RX1, TX1, 7) dX1_driftOnce_36 clX1 (j := 2) (by decide) tw_309 (wsI_77 hs) (Or.inr ⟨_, rfl⟩) hw7 ?_
      refine sp_iload_n dX1_driftOnce_39 rfl rfl ?_
      obtain ⟨j8, hj8, h⟩ := Option.bind_eq_some_iff.mp h
      refine sp_lald2 (j := j8) dX1_driftOnce_40 (hfA hs pw7) (hfN hs pw7) hj8 ?_
      obtain ⟨u9, hu9, h⟩ := sp_do_e h
      refine sp_topl hu9 ?_
      refine sp_lstore [some (.ref 77), some (.ref o1), some (.int a2), some (.long u6), none, some (.long u9), none, none, none] dX1_driftOnce_41 (by decide) rfl ?_
      refine sp_iconst (v := 1) dX1_driftOnce_43 (by decide) ?_
      refine sp_istore [some (.ref 77), some (.ref o1), some (.int a2), some (.long u6), none, some (.long u9), none, some (.int 1), none] dX1_driftOnce_44 (by decide) rfl ?_
      refine sp_weak [true, true, true, true, false, true, false, true, false] [some (.ref 77), some (.ref o1), some (.int a2), some (.long u6), none, some (.long u9), none, some (.int 1), none] rfl ?_
      refine tX1_driftOnce_l46 hG ho1 hQ (fun b20 b21 M19 h => ?_) F _ _ _ _ _ h
      refine sp_aload_n dX1_driftOnce_102 rfl rfl ?_
      refine sp_use (fun ho => ?_)
      have hs := hG.1 _ ho
      obtain ⟨w22, hw22, h⟩ := Option.bind_eq_some_iff.mp h
      have pw22 : sp_half w22 := ws_half3 hs hw22
      refine sp_getR (RX1, TX1, 7) dX1_driftOnce_103 clX1 (j := 3) (by decide) tw_310 (wsI_77 hs) (Or.inr ⟨_, rfl⟩) hw22 ?_
      refine sp_iload_n dX1_driftOnce_106 rfl rfl ?_
      refine sp_dup2 dX1_driftOnce_107 rfl rfl ?_
      obtain ⟨j23, hj23, h⟩ := Option.bind_eq_some_iff.mp h
      refine sp_lald2 (j := j23) dX1_driftOnce_108 (hfA hs pw22) (hfN hs pw22) hj23 ?_
      refine sp_lload dX1_driftOnce_109 rfl ?_
      refine sp_ladd dX1_driftOnce_111 ?_
      obtain ⟨j24, hj24, h⟩ := Option.bind_eq_some_iff.mp h
      obtain ⟨M25, hM25, h⟩ := sp_do_e h
      refine sp_last2 (j := j24) hG dX1_driftOnce_112 (hfA hs pw22) (hfN hs pw22) hj24 hM25 ?_
      refine sp_iinc (v := (b20 + 1)) [some (.ref 77), some (.ref o1), some (.int (b20 + 1)), none, none, some (.long b21), none, none, none] dX1_driftOnce_113 rfl rfl (by decide) rfl ?_
      refine sp_goto (tgt := 10) dX1_driftOnce_116 (by decide) ?_
      refine sp_weak [true, true, true, false, false, false, false, false, false] [some (.ref 77), some (.ref o1), some (.int (b20 + 1)), none, none, none, none, none, none] rfl ?_
      exact ih _ _ h
set_option maxRecDepth 100000 in
set_option maxHeartbeats 4000000 in
theorem tX1_driftOnce {g : sp_G} {Ω : sp_Mem → Prop} {Q : sp_Qt} {F : Nat} {p : sp_Mem} (hG : sp_Ok Ω) {o1 : Nat} (ho1 : sp_room o1) {M : sp_Mem} (h : fX1_driftOnce F M o1 = some p) (hQ : Q none p) : sp_Mt g Ω mX1_driftOnce 0 0 [.ref 77, .ref o1] M Q := by
  unfold fX1_driftOnce at h
  refine sp_Mt.of [some (.ref 77), some (.ref o1), none, none, none, none, none, none, none] (by decide) (by simp [sp_ent, Value.category]) rfl ?_
  refine sp_aload_n dX1_driftOnce_0 rfl rfl ?_
  refine sp_use (fun ho => ?_)
  have hs := hG.1 _ ho
  obtain ⟨w1, hw1, h⟩ := Option.bind_eq_some_iff.mp h
  have pw1 : sp_half w1 := ws_half3 hs hw1
  refine sp_getR (RX1, TX1, 7) dX1_driftOnce_1 clX1 (j := 3) (by decide) tw_310 (wsI_77 hs) (Or.inr ⟨_, rfl⟩) hw1 ?_
  refine sp_lconst (v := 0) dX1_driftOnce_4 (by decide) ?_
  obtain ⟨M2, hM2, h⟩ := Option.bind_eq_some_iff.mp h
  refine sp_cS (M1 := M2) (r := none) (st := []) [.ref w1, .long 0] [.long 0, .ref w1] [] dX1_driftOnce_5 okJ7_fill_d0a16 tw_1111 tw_1112 (by decide) (by decide) rfl (Nat.le_of_ble_eq_true rfl) rfl rfl (fun Q hQ => tJ7_fill_d0a16 hG pw1 hM2 hQ) ?_
  refine sp_iconst (v := 0) dX1_driftOnce_8 (by decide) ?_
  refine sp_istore_n [some (.ref 77), some (.ref o1), some (.int 0), none, none, none, none, none, none] dX1_driftOnce_9 rfl (by decide) rfl ?_
  refine sp_weak [true, true, true, false, false, false, false, false, false] [some (.ref 77), some (.ref o1), some (.int 0), none, none, none, none, none, none] rfl ?_
  refine tX1_driftOnce_l10 hG ho1 hQ (fun M26 h => ?_) F _ _ h
  refine sp_aload_n dX1_driftOnce_119 rfl rfl ?_
  refine sp_use (fun ho => ?_)
  have hs := hG.1 _ ho
  obtain ⟨w27, hw27, h⟩ := Option.bind_eq_some_iff.mp h
  have pw27 : sp_half w27 := ws_half2 hs hw27
  refine sp_getR (RX1, TX1, 7) dX1_driftOnce_120 clX1 (j := 2) (by decide) tw_309 (wsI_77 hs) (Or.inr ⟨_, rfl⟩) hw27 ?_
  refine sp_astore_n [some (.ref 77), none, some (.ref w27), none, none, none, none, none, none] dX1_driftOnce_123 rfl (by decide) rfl ?_
  refine sp_aload_n dX1_driftOnce_124 rfl rfl ?_
  refine sp_aload_n dX1_driftOnce_125 rfl rfl ?_
  obtain ⟨w28, hw28, h⟩ := Option.bind_eq_some_iff.mp h
  have pw28 : sp_half w28 := ws_half3 hs hw28
  refine sp_getR (RX1, TX1, 7) dX1_driftOnce_126 clX1 (j := 3) (by decide) tw_310 (wsI_77 hs) (Or.inr ⟨_, rfl⟩) hw28 ?_
  obtain ⟨M29, hM29, h⟩ := sp_do_e h
  refine sp_putH2 (RX1, TX1, 7) hG dX1_driftOnce_129 clX1 (j := 2) (by decide) tw_309 rfl (Or.inl rfl) pw28 (wsI_77 hs) hM29 (Or.inr ⟨_, rfl⟩) ?_
  refine sp_aload_n dX1_driftOnce_132 rfl rfl ?_
  refine sp_aload_n dX1_driftOnce_133 rfl rfl ?_
  refine sp_use (fun ho => ?_)
  have hs := hG.1 _ ho
  obtain ⟨M30, hM30, h⟩ := sp_do_e h
  refine sp_putH2 (RX1, TX1, 7) hG dX1_driftOnce_134 clX1 (j := 3) (by decide) tw_310 rfl (Or.inr rfl) pw27 (wsI_77 hs) hM30 (Or.inr ⟨_, rfl⟩) ?_
  cases h
  exact sp_vret dX1_driftOnce_137 rfl (fun _ => hQ)
def fX1_driftFor_l37 (F : Nat) (o1 : Nat) (kx : sp_Mem → Option sp_Mem) : Nat → Int32 → Int32 → sp_Mem → Option sp_Mem
  | 0, _, _, _ => none
  | n + 1, a3, a5, M =>
  if a3 ≤ a5 then (kx M) else ((fX1_driftOnce F M o1).bind fun M7 => (fX1_driftFor_l37 F o1 kx n) a3 (a5 + 1) M7)
def fX1_driftFor_j34 (F : Nat) (o1 : Nat) (a3 : Int32) (M : sp_Mem) : Option sp_Mem :=
  fX1_driftFor_l37 F o1 (fun M8 => some M8) F a3 0 M
def fX1_driftFor (F : Nat) (M : sp_Mem) (o1 : Nat) (a2 : Int32) (a3 : Int32) : Option sp_Mem :=
  (sp_P M 77 2).bind fun w1 => (fJ7_fill_d0a16 F M w1 0).bind fun M2 => (sp_ix 6 a2).bind fun j3 => sp_do ((sp_I M2 (o1 + 2) j3)) fun u4 => if (fX10_isCell u4) = 0 then (fX1_driftFor_j34 F o1 a3 M2) else ((sp_P M2 77 2).bind fun w9 => (sp_ix 25 u4).bind fun j10 => sp_do (sp_setL M2 w9 j10 1000000000000) fun M11 => fX1_driftFor_j34 F o1 a3 M11)
set_option maxRecDepth 100000 in
set_option maxHeartbeats 4000000 in
theorem tX1_driftFor_l37 {g : sp_G} {Ω : sp_Mem → Prop} {Q : sp_Qt} {F : Nat} {p : sp_Mem} (hG : sp_Ok Ω) {o1 : Nat} (ho1 : sp_room o1)  {kx : sp_Mem → Option sp_Mem} (hQ : Q none p) (hx : ∀  (M : sp_Mem), kx M = some p → sp_Wp g Ω mX1_driftFor 0 0 54 [none, none, none, none, none, none] [] M Q) : ∀ (n : Nat) (a3 : Int32) (a5 : Int32) (M : sp_Mem), fX1_driftFor_l37 F o1 kx n a3 a5 M = some p → sp_Wp g Ω mX1_driftFor 0 0 37 [some (.ref 77), some (.ref o1), none, some (.int a3), none, some (.int a5)] [] M Q := by
  intro n
  induction n with
  | zero =>
    intro a3 a5 M h
    rw [fX1_driftFor_l37] at h
    cases h
  | succ n ih =>
    intro a3 a5 M h
    rw [fX1_driftFor_l37] at h
    refine sp_iload dX1_driftFor_37 rfl ?_
    refine sp_iload_n dX1_driftFor_39 rfl rfl ?_
    refine sp_icmp_ge (tgt := 54) dX1_driftFor_40 (by decide) (fun hc6 => ?_) (fun hc6 => ?_)
    · have h := (if_pos hc6).symm.trans h
      refine sp_weak [false, false, false, false, false, false] [none, none, none, none, none, none] rfl ?_
      exact hx _ h
    · have h := (if_neg hc6).symm.trans h
      refine sp_aload_n dX1_driftFor_43 rfl rfl ?_
      refine sp_aload_n dX1_driftFor_44 rfl rfl ?_
      refine sp_use (fun ho => ?_)
      have hs := hG.1 _ ho
      obtain ⟨M7, hM7, h⟩ := Option.bind_eq_some_iff.mp h
      refine sp_cV (M1 := M7) (r := none) (o := 77) (st := []) (c := 1) (RX1, TX1, 7) [.ref o1] [.ref o1, .ref 77] [] dX1_driftFor_45 okX1_driftOnce tw_1116 tw_1118 tw_25 (by decide) (by decide) rfl (Nat.le_of_ble_eq_true rfl) rfl rfl rfl rfl (wsI_77 hs) (fun Q hQ => tX1_driftOnce hG ho1 hM7 hQ) ?_
      refine sp_iinc (v := (a5 + 1)) [some (.ref 77), some (.ref o1), none, some (.int a3), none, some (.int (a5 + 1))] dX1_driftFor_48 rfl rfl (by decide) rfl ?_
      refine sp_goto (tgt := 37) dX1_driftFor_51 (by decide) ?_
      refine sp_weak [true, true, false, true, false, true] [some (.ref 77), some (.ref o1), none, some (.int a3), none, some (.int (a5 + 1))] rfl ?_
      exact ih _ _ _ h
set_option maxRecDepth 100000 in
set_option maxHeartbeats 4000000 in
theorem tX1_driftFor_j34 {g : sp_G} {Ω : sp_Mem → Prop} {Q : sp_Qt} {F : Nat} {p : sp_Mem} (hG : sp_Ok Ω) {o1 : Nat} (ho1 : sp_room o1)  (hQ : Q none p) (a3 : Int32) (M : sp_Mem) (h : fX1_driftFor_j34 F o1 a3 M = some p) : sp_Wp g Ω mX1_driftFor 0 0 34 [some (.ref 77), some (.ref o1), none, some (.int a3), none, none] [] M Q := by
  unfold fX1_driftFor_j34 at h
  refine sp_iconst (v := 0) dX1_driftFor_34 (by decide) ?_
  refine sp_istore [some (.ref 77), some (.ref o1), none, some (.int a3), none, some (.int 0)] dX1_driftFor_35 (by decide) rfl ?_
  refine sp_weak [true, true, false, true, false, true] [some (.ref 77), some (.ref o1), none, some (.int a3), none, some (.int 0)] rfl ?_
  refine tX1_driftFor_l37 hG ho1 hQ (fun M8 h => ?_) F _ _ _ h
  cases h
  exact sp_vret dX1_driftFor_54 rfl (fun _ => hQ)
set_option maxRecDepth 100000 in
set_option maxHeartbeats 4000000 in
theorem tX1_driftFor {g : sp_G} {Ω : sp_Mem → Prop} {Q : sp_Qt} {F : Nat} {p : sp_Mem} (hG : sp_Ok Ω) {o1 : Nat} (ho1 : sp_room o1) {M : sp_Mem} {a2 : Int32} {a3 : Int32} (h : fX1_driftFor F M o1 a2 a3 = some p) (hQ : Q none p) : sp_Mt g Ω mX1_driftFor 0 0 [.ref 77, .ref o1, .int a2, .int a3] M Q := by
  unfold fX1_driftFor at h
  refine sp_Mt.of [some (.ref 77), some (.ref o1), some (.int a2), some (.int a3), none, none] (by decide) (by simp [sp_ent, Value.category]) rfl ?_
  refine sp_aload_n dX1_driftFor_0 rfl rfl ?_
  refine sp_use (fun ho => ?_)
  have hs := hG.1 _ ho
  obtain ⟨w1, hw1, h⟩ := Option.bind_eq_some_iff.mp h
  have pw1 : sp_half w1 := ws_half2 hs hw1
  refine sp_getR (RX1, TX1, 7) dX1_driftFor_1 clX1 (j := 2) (by decide) tw_309 (wsI_77 hs) (Or.inr ⟨_, rfl⟩) hw1 ?_
  refine sp_lconst (v := 0) dX1_driftFor_4 (by decide) ?_
  obtain ⟨M2, hM2, h⟩ := Option.bind_eq_some_iff.mp h
  refine sp_cS (M1 := M2) (r := none) (st := []) [.ref w1, .long 0] [.long 0, .ref w1] [] dX1_driftFor_5 okJ7_fill_d0a16 tw_1111 tw_1112 (by decide) (by decide) rfl (Nat.le_of_ble_eq_true rfl) rfl rfl (fun Q hQ => tJ7_fill_d0a16 hG pw1 hM2 hQ) ?_
  refine sp_aload_n dX1_driftFor_8 rfl rfl ?_
  refine sp_use (fun ho => ?_)
  have hs := hG.1 _ ho
  refine sp_getR (RX5, TX5, 16) dX1_driftFor_9 clX5 (j := 1) (by decide) tw_171 (rmI hs ho1) (Or.inr ⟨_, rfl⟩) (rmP_1 hs ho1) ?_
  refine sp_iload_n dX1_driftFor_12 rfl rfl ?_
  obtain ⟨j3, hj3, h⟩ := Option.bind_eq_some_iff.mp h
  refine sp_iald2 (j := j3) dX1_driftFor_13 (rmA_2 hs ho1) (rmN_2 hs ho1) hj3 ?_
  obtain ⟨u4, hu4, h⟩ := sp_do_e h
  refine sp_topi hu4 ?_
  refine sp_istore [some (.ref 77), some (.ref o1), some (.int a2), some (.int a3), some (.int u4), none] dX1_driftFor_14 (by decide) rfl ?_
  refine sp_iload dX1_driftFor_16 rfl ?_
  refine sp_cSN (M1 := M2) (r := some (.int (fX10_isCell u4))) (st := []) [.int u4] [.int u4] [.int (fX10_isCell u4)] dX1_driftFor_18 okX10_isCell (by decide +kernel) tw_469 (by decide) (by decide) rfl (Nat.le_of_ble_eq_true rfl) rfl rfl (fun Q hQ => tX10_isCell hG rfl hQ) ?_
  refine sp_if_eq (tgt := 34) dX1_driftFor_21 (by decide) (fun hc5 => ?_) (fun hc5 => ?_)
  · have h := (if_pos hc5).symm.trans h
    refine sp_weak [true, true, false, true, false, false] [some (.ref 77), some (.ref o1), none, some (.int a3), none, none] rfl ?_
    exact tX1_driftFor_j34 hG ho1 hQ _ _ h
  · have h := (if_neg hc5).symm.trans h
    refine sp_aload_n dX1_driftFor_24 rfl rfl ?_
    obtain ⟨w9, hw9, h⟩ := Option.bind_eq_some_iff.mp h
    have pw9 : sp_half w9 := ws_half2 hs hw9
    refine sp_getR (RX1, TX1, 7) dX1_driftFor_25 clX1 (j := 2) (by decide) tw_309 (wsI_77 hs) (Or.inr ⟨_, rfl⟩) hw9 ?_
    refine sp_iload dX1_driftFor_28 rfl ?_
    refine sp_ldc2 (v := 1000000000000) dX1_driftFor_30 tw_1115 ?_
    obtain ⟨j10, hj10, h⟩ := Option.bind_eq_some_iff.mp h
    obtain ⟨M11, hM11, h⟩ := sp_do_e h
    refine sp_last2 (j := j10) hG dX1_driftFor_33 (hfA hs pw9) (hfN hs pw9) hj10 hM11 ?_
    refine sp_weak [true, true, false, true, false, false] [some (.ref 77), some (.ref o1), none, some (.int a3), none, none] rfl ?_
    exact tX1_driftFor_j34 hG ho1 hQ _ _ h
def fX1_driftedTo (M0 : sp_Mem) (a1 : Int32) : Option Int64 :=
  if (fX10_isCell a1) = 0 then (some (-1)) else ((sp_P M0 77 2).bind fun w2 => (sp_ix 25 a1).bind fun j3 => some (sp_L M0 w2 j3))
set_option maxRecDepth 100000 in
set_option maxHeartbeats 4000000 in
theorem tX1_driftedTo {g : sp_G} {Ω : sp_Mem → Prop} {Q : sp_Qt} {M0 : sp_Mem} {p : Int64} (hG : sp_Ok Ω) {a1 : Int32} (h : fX1_driftedTo M0 a1 = some p) (hQ : Q (some (.long p)) M0) : sp_Mt g Ω mX1_driftedTo 0 0 [.ref 77, .int a1] M0 Q := by
  unfold fX1_driftedTo at h
  refine sp_Mt.of [some (.ref 77), some (.int a1)] (by decide) (by simp [sp_ent, Value.category]) rfl ?_
  refine sp_iload_n dX1_driftedTo_0 rfl rfl ?_
  refine sp_use (fun ho => ?_)
  have hs := hG.1 _ ho
  refine sp_cSN (M1 := M0) (r := some (.int (fX10_isCell a1))) (st := []) [.int a1] [.int a1] [.int (fX10_isCell a1)] dX1_driftedTo_1 okX10_isCell (by decide +kernel) tw_469 (by decide) (by decide) rfl (Nat.le_of_ble_eq_true rfl) rfl rfl (fun Q hQ => tX10_isCell hG rfl hQ) ?_
  refine sp_if_eq (tgt := 16) dX1_driftedTo_4 (by decide) (fun hc1 => ?_) (fun hc1 => ?_)
  · have h := (if_pos hc1).symm.trans h
    refine sp_ldc2 (v := (-1)) dX1_driftedTo_16 tw_1126 ?_
    cases h
    exact sp_lret dX1_driftedTo_19 rfl (fun _ => hQ)
  · have h := (if_neg hc1).symm.trans h
    refine sp_aload_n dX1_driftedTo_7 rfl rfl ?_
    obtain ⟨w2, hw2, h⟩ := Option.bind_eq_some_iff.mp h
    have pw2 : sp_half w2 := ws_half2 hs hw2
    refine sp_getR (RX1, TX1, 7) dX1_driftedTo_8 clX1 (j := 2) (by decide) tw_309 (wsI_77 hs) (Or.inr ⟨_, rfl⟩) hw2 ?_
    refine sp_iload_n dX1_driftedTo_11 rfl rfl ?_
    obtain ⟨j3, hj3, h⟩ := Option.bind_eq_some_iff.mp h
    refine sp_lald2 (j := j3) dX1_driftedTo_12 (hfA hs pw2) (hfN hs pw2) hj3 ?_
    refine sp_goto (tgt := 19) dX1_driftedTo_13 (by decide) ?_
    cases h
    exact sp_lret dX1_driftedTo_19 rfl (fun _ => hQ)
def fX1_likeliestCell_l4 (F : Nat) (M0 : sp_Mem) (kx : Int32 → Option Int32) : Nat → Int32 → Int32 → Option Int32
  | 0, _, _ => none
  | n + 1, a1, a2 =>
  if 25 ≤ a2 then (kx a1) else ((sp_P M0 77 2).bind fun w2 => (sp_ix 25 a2).bind fun j3 => (sp_P M0 77 2).bind fun w4 => (sp_ix 25 a1).bind fun j5 => if (sp_L M0 w2 j3) ≤ (sp_L M0 w4 j5) then ((fX1_likeliestCell_l4 F M0 kx n) a1 (a2 + 1)) else ((fX1_likeliestCell_l4 F M0 kx n) a2 (a2 + 1)))
def fX1_likeliestCell (F : Nat) (M0 : sp_Mem) : Option Int32 :=
  fX1_likeliestCell_l4 F M0 (fun b8 => some b8) F 0 1
set_option maxRecDepth 100000 in
set_option maxHeartbeats 4000000 in
theorem tX1_likeliestCell_l4 {g : sp_G} {Ω : sp_Mem → Prop} {Q : sp_Qt} {F : Nat} {M0 : sp_Mem} {p : Int32} (hG : sp_Ok Ω)  {kx : Int32 → Option Int32} (hQ : Q (some (.int p)) M0) (hx : ∀ (a1 : Int32), kx a1 = some p → sp_Wp g Ω mX1_likeliestCell 0 0 34 [none, some (.int a1), none] [] M0 Q) : ∀ (n : Nat) (a1 : Int32) (a2 : Int32), fX1_likeliestCell_l4 F M0 kx n a1 a2 = some p → sp_Wp g Ω mX1_likeliestCell 0 0 4 [some (.ref 77), some (.int a1), some (.int a2)] [] M0 Q := by
  intro n
  induction n with
  | zero =>
    intro a1 a2 h
    rw [fX1_likeliestCell_l4] at h
    cases h
  | succ n ih =>
    intro a1 a2 h
    rw [fX1_likeliestCell_l4] at h
    refine sp_iload_n dX1_likeliestCell_4 rfl rfl ?_
    refine sp_bipush (v := 25) dX1_likeliestCell_5 (by decide) ?_
    refine sp_icmp_ge (tgt := 34) dX1_likeliestCell_7 (by decide) (fun hc1 => ?_) (fun hc1 => ?_)
    · have h := (if_pos hc1).symm.trans h
      refine sp_weak [false, true, false] [none, some (.int a1), none] rfl ?_
      exact hx _ h
    · have h := (if_neg hc1).symm.trans h
      refine sp_aload_n dX1_likeliestCell_10 rfl rfl ?_
      refine sp_use (fun ho => ?_)
      have hs := hG.1 _ ho
      obtain ⟨w2, hw2, h⟩ := Option.bind_eq_some_iff.mp h
      have pw2 : sp_half w2 := ws_half2 hs hw2
      refine sp_getR (RX1, TX1, 7) dX1_likeliestCell_11 clX1 (j := 2) (by decide) tw_309 (wsI_77 hs) (Or.inr ⟨_, rfl⟩) hw2 ?_
      refine sp_iload_n dX1_likeliestCell_14 rfl rfl ?_
      obtain ⟨j3, hj3, h⟩ := Option.bind_eq_some_iff.mp h
      refine sp_lald2 (j := j3) dX1_likeliestCell_15 (hfA hs pw2) (hfN hs pw2) hj3 ?_
      refine sp_aload_n dX1_likeliestCell_16 rfl rfl ?_
      obtain ⟨w4, hw4, h⟩ := Option.bind_eq_some_iff.mp h
      have pw4 : sp_half w4 := ws_half2 hs hw4
      refine sp_getR (RX1, TX1, 7) dX1_likeliestCell_17 clX1 (j := 2) (by decide) tw_309 (wsI_77 hs) (Or.inr ⟨_, rfl⟩) hw4 ?_
      refine sp_iload_n dX1_likeliestCell_20 rfl rfl ?_
      obtain ⟨j5, hj5, h⟩ := Option.bind_eq_some_iff.mp h
      refine sp_lald2 (j := j5) dX1_likeliestCell_21 (hfA hs pw4) (hfN hs pw4) hj5 ?_
      refine sp_lcmp dX1_likeliestCell_22 ?_
      refine sp_lif_le (tgt := 28) dX1_likeliestCell_23 (by decide) (fun hc6 => ?_) (fun hc6 => ?_)
      · have h := (if_pos hc6).symm.trans h
        refine sp_iinc (v := (a2 + 1)) [some (.ref 77), some (.int a1), some (.int (a2 + 1))] dX1_likeliestCell_28 rfl rfl (by decide) rfl ?_
        refine sp_goto (tgt := 4) dX1_likeliestCell_31 (by decide) ?_
        refine sp_weak [true, true, true] [some (.ref 77), some (.int a1), some (.int (a2 + 1))] rfl ?_
        exact ih _ _ h
      · have h := (if_neg hc6).symm.trans h
        refine sp_iload_n dX1_likeliestCell_26 rfl rfl ?_
        refine sp_istore_n [some (.ref 77), some (.int a2), some (.int a2)] dX1_likeliestCell_27 rfl (by decide) rfl ?_
        refine sp_iinc (v := (a2 + 1)) [some (.ref 77), some (.int a2), some (.int (a2 + 1))] dX1_likeliestCell_28 rfl rfl (by decide) rfl ?_
        refine sp_goto (tgt := 4) dX1_likeliestCell_31 (by decide) ?_
        refine sp_weak [true, true, true] [some (.ref 77), some (.int a2), some (.int (a2 + 1))] rfl ?_
        exact ih _ _ h
set_option maxRecDepth 100000 in
set_option maxHeartbeats 4000000 in
theorem tX1_likeliestCell {g : sp_G} {Ω : sp_Mem → Prop} {Q : sp_Qt} {F : Nat} {M0 : sp_Mem} {p : Int32} (hG : sp_Ok Ω) (h : fX1_likeliestCell F M0 = some p) (hQ : Q (some (.int p)) M0) : sp_Mt g Ω mX1_likeliestCell 0 0 [.ref 77] M0 Q := by
  unfold fX1_likeliestCell at h
  refine sp_Mt.of [some (.ref 77), none, none] (by decide) (by simp [sp_ent, Value.category]) rfl ?_
  refine sp_iconst (v := 0) dX1_likeliestCell_0 (by decide) ?_
  refine sp_istore_n [some (.ref 77), some (.int 0), none] dX1_likeliestCell_1 rfl (by decide) rfl ?_
  refine sp_iconst (v := 1) dX1_likeliestCell_2 (by decide) ?_
  refine sp_istore_n [some (.ref 77), some (.int 0), some (.int 1)] dX1_likeliestCell_3 rfl (by decide) rfl ?_
  refine sp_weak [true, true, true] [some (.ref 77), some (.int 0), some (.int 1)] rfl ?_
  refine tX1_likeliestCell_l4 hG hQ (fun b8 h => ?_) F _ _ h
  refine sp_iload_n dX1_likeliestCell_34 rfl rfl ?_
  cases h
  exact sp_iret dX1_likeliestCell_35 (ty := .int) rfl rfl (fun _ => hQ)
def fX1_draw (M : sp_Mem) (a1 : Int32) : Option (Int32 × sp_Mem) :=
  sp_do (sp_setI M 77 6 (Int64.toInt32 ((((Int32.toInt64 (sp_I M 77 6)) * 1103) + 12345) - (((Int32.toInt64 (sp_I M 77 6)) * 1103) + 12345) / 1000003 * 1000003))) fun M1 => if a1 ≤ 0 then (some (0, M1)) else (if a1 = 0 then none else some (((sp_I M1 77 6) - (sp_I M1 77 6) / a1 * a1), M1))
set_option maxRecDepth 100000 in
set_option maxHeartbeats 4000000 in
theorem tX1_draw {g : sp_G} {Ω : sp_Mem → Prop} {Q : sp_Qt} {p : (Int32 × sp_Mem)} (hG : sp_Ok Ω) {M : sp_Mem} {a1 : Int32} (h : fX1_draw M a1 = some p) (hQ : Q (some (.int p.1)) p.2) : sp_Mt g Ω mX1_draw 0 0 [.ref 77, .int a1] M Q := by
  unfold fX1_draw at h
  refine sp_Mt.of [some (.ref 77), some (.int a1)] (by decide) (by simp [sp_ent, Value.category]) rfl ?_
  refine sp_aload_n dX1_draw_0 rfl rfl ?_
  refine sp_aload_n dX1_draw_1 rfl rfl ?_
  refine sp_use (fun ho => ?_)
  have hs := hG.1 _ ho
  refine sp_getI (RX1, TX1, 7) dX1_draw_2 clX1 (j := 6) (by decide) tw_313 (wsI_77 hs) (Or.inl rfl) ?_
  refine sp_i2l dX1_draw_5 ?_
  refine sp_ldc2 (v := 1103) dX1_draw_6 tw_1161 ?_
  refine sp_lmul dX1_draw_9 ?_
  refine sp_ldc2 (v := 12345) dX1_draw_10 tw_1162 ?_
  refine sp_ladd dX1_draw_13 ?_
  refine sp_ldc2 (v := 1000003) dX1_draw_14 tw_1163 ?_
  refine sp_lrem dX1_draw_17 (by decide) ?_
  refine sp_l2i dX1_draw_18 ?_
  obtain ⟨M1, hM1, h⟩ := sp_do_e h
  refine sp_putI2 (RX1, TX1, 7) hG dX1_draw_19 clX1 (j := 6) (by decide) tw_313 rfl (Or.inl rfl) (wsI_77 hs) hM1 ?_
  refine sp_iload_n dX1_draw_22 rfl rfl ?_
  refine sp_if_le (tgt := 35) dX1_draw_23 (by decide) (fun hc2 => ?_) (fun hc2 => ?_)
  · have h := (if_pos hc2).symm.trans h
    refine sp_iconst (v := 0) dX1_draw_35 (by decide) ?_
    cases h
    exact sp_iret dX1_draw_36 (ty := .int) rfl rfl (fun _ => hQ)
  · have h := (if_neg hc2).symm.trans h
    refine sp_aload_n dX1_draw_26 rfl rfl ?_
    refine sp_use (fun ho => ?_)
    have hs := hG.1 _ ho
    refine sp_getI (RX1, TX1, 7) dX1_draw_27 clX1 (j := 6) (by decide) tw_313 (wsI_77 hs) (Or.inl rfl) ?_
    refine sp_iload_n dX1_draw_30 rfl rfl ?_
    by_cases hz3 : a1 = 0
    · rw [if_pos hz3] at h; cases h
    have h := (if_neg hz3).symm.trans h
    refine sp_irem dX1_draw_31 hz3 ?_
    refine sp_goto (tgt := 36) dX1_draw_32 (by decide) ?_
    cases h
    exact sp_iret dX1_draw_36 (ty := .int) rfl rfl (fun _ => hQ)
def fX5_hasPerson (M0 : sp_Mem) (o0 : Nat) (a1 : Int32) : Int32 :=
  if a1 < 0 then (0) else ((if (sp_I M0 o0 8) ≤ a1 then 0 else 1))
set_option maxRecDepth 100000 in
set_option maxHeartbeats 4000000 in
theorem tX5_hasPerson {g : sp_G} {Ω : sp_Mem → Prop} {Q : sp_Qt} {M0 : sp_Mem} {p : Int32} (hG : sp_Ok Ω) {o0 : Nat} (ho0 : sp_room o0) {a1 : Int32} (h : fX5_hasPerson M0 o0 a1 = p) (hQ : Q (some (.int p)) M0) : sp_Mt g Ω mX5_hasPerson 0 0 [.ref o0, .int a1] M0 Q := by
  unfold fX5_hasPerson at h
  refine sp_Mt.of [some (.ref o0), some (.int a1)] (by decide) (by simp [sp_ent, Value.category]) rfl ?_
  refine sp_iload_n dX5_hasPerson_0 rfl rfl ?_
  refine sp_if_lt (tgt := 16) dX5_hasPerson_1 (by decide) (fun hc1 => ?_) (fun hc1 => ?_)
  · have h := (if_pos hc1).symm.trans h
    refine sp_iconst (v := 0) dX5_hasPerson_16 (by decide) ?_
    cases h
    exact sp_iret dX5_hasPerson_17 (ty := .boolean) rfl (sp_nz (Or.inl rfl)) (fun _ => hQ)
  · have h := (if_neg hc1).symm.trans h
    refine sp_iload_n dX5_hasPerson_4 rfl rfl ?_
    refine sp_aload_n dX5_hasPerson_5 rfl rfl ?_
    refine sp_use (fun ho => ?_)
    have hs := hG.1 _ ho
    refine sp_getI (RX5, TX5, 16) dX5_hasPerson_6 clX5 (j := 8) (by decide) tw_200 (rmI hs ho0) (Or.inl rfl) ?_
    suffices hj : sp_Wp g Ω mX5_hasPerson 0 0 17 [none, none] [.int (if (sp_I M0 o0 8) ≤ a1 then 0 else 1)] M0 Q by
      refine sp_icmp_ge (tgt := 16) dX5_hasPerson_9 (by decide) (fun hc2 => ?_) (fun hc2 => ?_)
      · refine sp_iconst (v := 0) dX5_hasPerson_16 (by decide) ?_
        refine sp_weak [false, false] [none, none] rfl ?_
        simp only [if_pos hc2] at hj
        exact hj
      · refine sp_iconst (v := 1) dX5_hasPerson_12 (by decide) ?_
        refine sp_goto (tgt := 17) dX5_hasPerson_13 (by decide) ?_
        refine sp_weak [false, false] [none, none] rfl ?_
        simp only [if_neg hc2] at hj
        exact hj
    cases h
    exact sp_iret dX5_hasPerson_17 (ty := .boolean) rfl (sp_nz (by repeat (first | exact Or.inl rfl | exact Or.inr rfl | split))) (fun _ => hQ)
theorem bX5_hasPerson (M0 : sp_Mem) (o0 : Nat) (a1 : Int32) : fX5_hasPerson M0 o0 a1 = 0 ∨ fX5_hasPerson M0 o0 a1 = 1 := by
  unfold fX5_hasPerson
  repeat (first | exact Or.inl rfl | exact Or.inr rfl | split)
def fX6_callSpark_j84 (F : Nat) (o1 : Nat) (a2 : Int32) (a4 : Int32) (a5 : Int32) (a6 : Int32) (s0 : Int32) (s1 : Int32) (M : sp_Mem) : Option (Int32 × sp_Mem) :=
  (sp_ix 6 s1).bind fun j11 => sp_do (sp_setI M (o1 + 2) j11 s0) fun M12 => if a6 = 0 then ((sp_ix 6 a2).bind fun j14 => (sp_ix 6 a2).bind fun j15 => sp_do (sp_setI M12 (o1 + 3) j15 (sp_I M12 (o1 + 3) j14)) fun M16 => (fX10_farApart a4 a5).bind fun v17 => some (v17, M16)) else ((sp_ix 6 a2).bind fun j18 => sp_do (sp_setI M12 (o1 + 3) j18 0) fun M19 => (fX10_farApart a4 a5).bind fun v20 => some (v20, M19))
def fX6_callSpark_j66 (F : Nat) (o1 : Nat) (a2 : Int32) (a4 : Int32) (a5 : Int32) (s0 : Int32) (M : sp_Mem) : Option (Int32 × sp_Mem) :=
  fX6_callSpark_j84 F o1 a2 a4 a5 s0 (if s0 = 0 then a5 else (-1)) a2 M
def fX6_callSpark (F : Nat) (M : sp_Mem) (o1 : Nat) (a2 : Int32) (a3 : Int32) : Option (Int32 × sp_Mem) :=
  if (fX5_hasSpark M o1 a2) = 0 then (some ((-2), M)) else (if (fX5_hasPerson M o1 a3) = 0 then (some ((-2), M)) else ((sp_ix 6 a2).bind fun j3 => sp_do ((sp_I M (o1 + 2) j3)) fun u4 => (fX6_comes F M o1 a2 u4 a3).bind fun x5 => if x5.1 = 0 then (some ((-3), x5.2)) else ((sp_ix 5 a3).bind fun j7 => sp_do ((sp_I x5.2 (o1 + 5) j7)) fun u8 => fX6_callSpark_j66 F o1 a2 u4 u8 (if u8 = (sp_I x5.2 (o1 + 10) 3) then 1 else 0) x5.2)))
set_option maxRecDepth 100000 in
set_option maxHeartbeats 4000000 in
theorem tX6_callSpark_j84 {g : sp_G} {Ω : sp_Mem → Prop} {Q : sp_Qt} {F : Nat} {p : (Int32 × sp_Mem)} (hG : sp_Ok Ω) {o1 : Nat} (ho1 : sp_room o1)  (hQ : Q (some (.int p.1)) p.2) (a2 : Int32) (a4 : Int32) (a5 : Int32) (a6 : Int32) (s0 : Int32) (s1 : Int32) (M : sp_Mem) (h : fX6_callSpark_j84 F o1 a2 a4 a5 a6 s0 s1 M = some p) : sp_Wp g Ω mX6_callSpark 0 0 84 [none, some (.ref o1), some (.int a2), none, some (.int a4), some (.int a5), some (.int a6)] [.int s0, .int s1, .ref (o1 + 2)] M Q := by
  unfold fX6_callSpark_j84 at h
  refine sp_use (fun ho => ?_)
  have hs := hG.1 _ ho
  obtain ⟨j11, hj11, h⟩ := Option.bind_eq_some_iff.mp h
  obtain ⟨M12, hM12, h⟩ := sp_do_e h
  refine sp_iast2 (j := j11) hG dX6_callSpark_84 (rmA_2 hs ho1) (rmN_2 hs ho1) hj11 hM12 ?_
  refine sp_aload_n dX6_callSpark_85 rfl rfl ?_
  refine sp_use (fun ho => ?_)
  have hs := hG.1 _ ho
  refine sp_getR (RX5, TX5, 16) dX6_callSpark_86 clX5 (j := 2) (by decide) tw_178 (rmI hs ho1) (Or.inr ⟨_, rfl⟩) (rmP_2 hs ho1) ?_
  refine sp_iload_n dX6_callSpark_89 rfl rfl ?_
  refine sp_iload dX6_callSpark_90 rfl ?_
  refine sp_if_eq (tgt := 99) dX6_callSpark_92 (by decide) (fun hc13 => ?_) (fun hc13 => ?_)
  · have h := (if_pos hc13).symm.trans h
    refine sp_aload_n dX6_callSpark_99 rfl rfl ?_
    refine sp_getR (RX5, TX5, 16) dX6_callSpark_100 clX5 (j := 2) (by decide) tw_178 (rmI hs ho1) (Or.inr ⟨_, rfl⟩) (rmP_2 hs ho1) ?_
    refine sp_iload_n dX6_callSpark_103 rfl rfl ?_
    obtain ⟨j14, hj14, h⟩ := Option.bind_eq_some_iff.mp h
    refine sp_iald2 (j := j14) dX6_callSpark_104 (rmA_3 hs ho1) (rmN_3 hs ho1) hj14 ?_
    obtain ⟨j15, hj15, h⟩ := Option.bind_eq_some_iff.mp h
    obtain ⟨M16, hM16, h⟩ := sp_do_e h
    refine sp_iast2 (j := j15) hG dX6_callSpark_105 (rmA_3 hs ho1) (rmN_3 hs ho1) hj15 hM16 ?_
    refine sp_iload dX6_callSpark_106 rfl ?_
    refine sp_iload dX6_callSpark_108 rfl ?_
    refine sp_use (fun ho => ?_)
    have hs := hG.1 _ ho
    obtain ⟨v17, hv17, h⟩ := Option.bind_eq_some_iff.mp h
    refine sp_cSN (M1 := M16) (r := some (.int v17)) (st := []) [.int a4, .int a5] [.int a5, .int a4] [.int v17] dX6_callSpark_110 okX10_farApart (by decide +kernel) tw_522 (by decide) (by decide) rfl (Nat.le_of_ble_eq_true rfl) rfl rfl (fun Q hQ => tX10_farApart hG hv17 hQ) ?_
    cases h
    exact sp_iret dX6_callSpark_113 (ty := .int) rfl rfl (fun _ => hQ)
  · have h := (if_neg hc13).symm.trans h
    refine sp_iconst (v := 0) dX6_callSpark_95 (by decide) ?_
    refine sp_goto (tgt := 105) dX6_callSpark_96 (by decide) ?_
    obtain ⟨j18, hj18, h⟩ := Option.bind_eq_some_iff.mp h
    obtain ⟨M19, hM19, h⟩ := sp_do_e h
    refine sp_iast2 (j := j18) hG dX6_callSpark_105 (rmA_3 hs ho1) (rmN_3 hs ho1) hj18 hM19 ?_
    refine sp_iload dX6_callSpark_106 rfl ?_
    refine sp_iload dX6_callSpark_108 rfl ?_
    refine sp_use (fun ho => ?_)
    have hs := hG.1 _ ho
    obtain ⟨v20, hv20, h⟩ := Option.bind_eq_some_iff.mp h
    refine sp_cSN (M1 := M19) (r := some (.int v20)) (st := []) [.int a4, .int a5] [.int a5, .int a4] [.int v20] dX6_callSpark_110 okX10_farApart (by decide +kernel) tw_522 (by decide) (by decide) rfl (Nat.le_of_ble_eq_true rfl) rfl rfl (fun Q hQ => tX10_farApart hG hv20 hQ) ?_
    cases h
    exact sp_iret dX6_callSpark_113 (ty := .int) rfl rfl (fun _ => hQ)
set_option maxRecDepth 100000 in
set_option maxHeartbeats 4000000 in
theorem tX6_callSpark_j66 {g : sp_G} {Ω : sp_Mem → Prop} {Q : sp_Qt} {F : Nat} {p : (Int32 × sp_Mem)} (hG : sp_Ok Ω) {o1 : Nat} (ho1 : sp_room o1)  (hQ : Q (some (.int p.1)) p.2) (a2 : Int32) (a4 : Int32) (a5 : Int32) (s0 : Int32) (M : sp_Mem) (h : fX6_callSpark_j66 F o1 a2 a4 a5 s0 M = some p) : sp_Wp g Ω mX6_callSpark 0 0 66 [none, some (.ref o1), some (.int a2), none, some (.int a4), some (.int a5), none] [.int s0] M Q := by
  unfold fX6_callSpark_j66 at h
  refine sp_istore [none, some (.ref o1), some (.int a2), none, some (.int a4), some (.int a5), some (.int s0)] dX6_callSpark_66 (by decide) rfl ?_
  refine sp_aload_n dX6_callSpark_68 rfl rfl ?_
  refine sp_use (fun ho => ?_)
  have hs := hG.1 _ ho
  refine sp_getR (RX5, TX5, 16) dX6_callSpark_69 clX5 (j := 1) (by decide) tw_170 (rmI hs ho1) (Or.inr ⟨_, rfl⟩) (rmP_1 hs ho1) ?_
  refine sp_iload_n dX6_callSpark_72 rfl rfl ?_
  refine sp_iload dX6_callSpark_73 rfl ?_
  suffices hj : sp_Wp g Ω mX6_callSpark 0 0 84 [none, some (.ref o1), some (.int a2), none, some (.int a4), some (.int a5), some (.int s0)] [.int (if s0 = 0 then a5 else (-1)), .int a2, .ref (o1 + 2)] M Q by
    refine sp_if_eq (tgt := 82) dX6_callSpark_75 (by decide) (fun hc10 => ?_) (fun hc10 => ?_)
    · refine sp_iload dX6_callSpark_82 rfl ?_
      simp only [if_pos hc10] at hj
      exact hj
    · refine sp_iconst (v := (-1)) dX6_callSpark_78 (by decide) ?_
      refine sp_goto (tgt := 84) dX6_callSpark_79 (by decide) ?_
      simp only [if_neg hc10] at hj
      exact hj
  refine sp_weak [false, true, true, false, true, true, true] [none, some (.ref o1), some (.int a2), none, some (.int a4), some (.int a5), some (.int s0)] rfl ?_
  exact tX6_callSpark_j84 hG ho1 hQ _ _ _ _ _ _ _ h
set_option maxRecDepth 100000 in
set_option maxHeartbeats 4000000 in
theorem tX6_callSpark {g : sp_G} {Ω : sp_Mem → Prop} {Q : sp_Qt} {F : Nat} {p : (Int32 × sp_Mem)} (hG : sp_Ok Ω) {o1 : Nat} (ho1 : sp_room o1) {M : sp_Mem} {a2 : Int32} {a3 : Int32} (h : fX6_callSpark F M o1 a2 a3 = some p) (hQ : Q (some (.int p.1)) p.2) : sp_Mt g Ω mX6_callSpark 0 0 [.ref 1, .ref o1, .int a2, .int a3] M Q := by
  unfold fX6_callSpark at h
  refine sp_Mt.of [some (.ref 1), some (.ref o1), some (.int a2), some (.int a3), none, none, none] (by decide) (by simp [sp_ent, Value.category]) rfl ?_
  refine sp_aload_n dX6_callSpark_0 rfl rfl ?_
  refine sp_iload_n dX6_callSpark_1 rfl rfl ?_
  refine sp_use (fun ho => ?_)
  have hs := hG.1 _ ho
  refine sp_cV (M1 := M) (r := some (.int (fX5_hasSpark M o1 a2))) (o := o1) (st := []) (c := 4) (RX5, TX5, 16) [.int a2] [.int a2, .ref o1] [.int (fX5_hasSpark M o1 a2)] dX6_callSpark_2 okX5_hasSpark tw_520 tw_495 tw_496 (by decide) (by decide) rfl (Nat.le_of_ble_eq_true rfl) rfl rfl rfl rfl (rmI hs ho1) (fun Q hQ => tX5_hasSpark hG ho1 rfl hQ) ?_
  refine sp_if_eq (tgt := 16) dX6_callSpark_5 (by decide) (fun hc1 => ?_) (fun hc1 => ?_)
  · have h := (if_pos hc1).symm.trans h
    refine sp_bipush (v := (-2)) dX6_callSpark_16 (by decide) ?_
    cases h
    exact sp_iret dX6_callSpark_18 (ty := .int) rfl rfl (fun _ => hQ)
  · have h := (if_neg hc1).symm.trans h
    refine sp_aload_n dX6_callSpark_8 rfl rfl ?_
    refine sp_iload_n dX6_callSpark_9 rfl rfl ?_
    refine sp_cV (M1 := M) (r := some (.int (fX5_hasPerson M o1 a3))) (o := o1) (st := []) (c := 4) (RX5, TX5, 16) [.int a3] [.int a3, .ref o1] [.int (fX5_hasPerson M o1 a3)] dX6_callSpark_10 okX5_hasPerson tw_908 tw_571 tw_572 (by decide) (by decide) rfl (Nat.le_of_ble_eq_true rfl) rfl rfl rfl rfl (rmI hs ho1) (fun Q hQ => tX5_hasPerson hG ho1 rfl hQ) ?_
    refine sp_if_ne (tgt := 19) dX6_callSpark_13 (by decide) (fun hc2 => ?_) (fun hc2 => ?_)
    · have h := (if_neg hc2).symm.trans h
      refine sp_aload_n dX6_callSpark_19 rfl rfl ?_
      refine sp_getR (RX5, TX5, 16) dX6_callSpark_20 clX5 (j := 1) (by decide) tw_170 (rmI hs ho1) (Or.inr ⟨_, rfl⟩) (rmP_1 hs ho1) ?_
      refine sp_iload_n dX6_callSpark_23 rfl rfl ?_
      obtain ⟨j3, hj3, h⟩ := Option.bind_eq_some_iff.mp h
      refine sp_iald2 (j := j3) dX6_callSpark_24 (rmA_2 hs ho1) (rmN_2 hs ho1) hj3 ?_
      obtain ⟨u4, hu4, h⟩ := sp_do_e h
      refine sp_topi hu4 ?_
      refine sp_istore [some (.ref 1), some (.ref o1), some (.int a2), some (.int a3), some (.int u4), none, none] dX6_callSpark_25 (by decide) rfl ?_
      refine sp_aload_n dX6_callSpark_27 rfl rfl ?_
      refine sp_aload_n dX6_callSpark_28 rfl rfl ?_
      refine sp_iload_n dX6_callSpark_29 rfl rfl ?_
      refine sp_iload dX6_callSpark_30 rfl ?_
      refine sp_iload_n dX6_callSpark_32 rfl rfl ?_
      obtain ⟨x5, hx5, h⟩ := Option.bind_eq_some_iff.mp h
      refine sp_cV (M1 := x5.2) (r := some (.int x5.1)) (o := 1) (st := []) (c := 5) (RX6, TX6, 2) [.ref o1, .int a2, .int u4, .int a3] [.int a3, .int u4, .int a2, .ref o1, .ref 1] [.int x5.1] dX6_callSpark_33 okX6_comes tw_909 tw_593 tw_594 (by decide) (by decide) rfl (Nat.le_of_ble_eq_true rfl) rfl rfl rfl rfl (wsI_1 hs) (fun Q hQ => tX6_comes hG ho1 hx5 hQ) ?_
      refine sp_if_ne (tgt := 42) dX6_callSpark_36 (by decide) (fun hc6 => ?_) (fun hc6 => ?_)
      · have h := (if_neg hc6).symm.trans h
        refine sp_aload_n dX6_callSpark_42 rfl rfl ?_
        refine sp_use (fun ho => ?_)
        have hs := hG.1 _ ho
        refine sp_getR (RX5, TX5, 16) dX6_callSpark_43 clX5 (j := 5) (by decide) tw_191 (rmI hs ho1) (Or.inr ⟨_, rfl⟩) (rmP_5 hs ho1) ?_
        refine sp_iload_n dX6_callSpark_46 rfl rfl ?_
        obtain ⟨j7, hj7, h⟩ := Option.bind_eq_some_iff.mp h
        refine sp_iald2 (j := j7) dX6_callSpark_47 (rmA_5 hs ho1) (rmN_5 hs ho1) hj7 ?_
        obtain ⟨u8, hu8, h⟩ := sp_do_e h
        refine sp_topi hu8 ?_
        refine sp_istore [some (.ref 1), some (.ref o1), some (.int a2), some (.int a3), some (.int u4), some (.int u8), none] dX6_callSpark_48 (by decide) rfl ?_
        refine sp_iload dX6_callSpark_50 rfl ?_
        refine sp_aload_n dX6_callSpark_52 rfl rfl ?_
        refine sp_getR (RX5, TX5, 16) dX6_callSpark_53 clX5 (j := 12) (by decide) tw_211 (rmI hs ho1) (Or.inr ⟨_, rfl⟩) (rmP_12 hs ho1) ?_
        refine sp_iconst (v := 3) dX6_callSpark_56 (by decide) ?_
        refine sp_iald2 (j := 3) dX6_callSpark_57 (rmA_10 hs ho1) (rmN_10 hs ho1) rfl ?_
        suffices hj : sp_Wp g Ω mX6_callSpark 0 0 66 [none, some (.ref o1), some (.int a2), none, some (.int u4), some (.int u8), none] [.int (if u8 = (sp_I x5.2 (o1 + 10) 3) then 1 else 0)] x5.2 Q by
          refine sp_icmp_ne (tgt := 65) dX6_callSpark_58 (by decide) (fun hc9 => ?_) (fun hc9 => ?_)
          · refine sp_iconst (v := 0) dX6_callSpark_65 (by decide) ?_
            refine sp_weak [false, true, true, false, true, true, false] [none, some (.ref o1), some (.int a2), none, some (.int u4), some (.int u8), none] rfl ?_
            simp only [if_neg hc9] at hj
            exact hj
          · refine sp_iconst (v := 1) dX6_callSpark_61 (by decide) ?_
            refine sp_goto (tgt := 66) dX6_callSpark_62 (by decide) ?_
            refine sp_weak [false, true, true, false, true, true, false] [none, some (.ref o1), some (.int a2), none, some (.int u4), some (.int u8), none] rfl ?_
            simp only [if_pos hc9] at hj
            exact hj
        refine sp_weak [false, true, true, false, true, true, false] [none, some (.ref o1), some (.int a2), none, some (.int u4), some (.int u8), none] rfl ?_
        exact tX6_callSpark_j66 hG ho1 hQ _ _ _ _ _ h
      · have h := (if_pos hc6).symm.trans h
        refine sp_bipush (v := (-3)) dX6_callSpark_39 (by decide) ?_
        cases h
        exact sp_iret dX6_callSpark_41 (ty := .int) rfl rfl (fun _ => hQ)
    · have h := (if_pos hc2).symm.trans h
      refine sp_bipush (v := (-2)) dX6_callSpark_16 (by decide) ?_
      cases h
      exact sp_iret dX6_callSpark_18 (ty := .int) rfl rfl (fun _ => hQ)
def fX10_isWithin (a0 : Int32) (a1 : Int32) (a2 : Int32) : Int32 :=
  (if a0 < a1 then 0 else (if a2 < a0 then 0 else 1))
set_option maxRecDepth 100000 in
set_option maxHeartbeats 4000000 in
theorem tX10_isWithin {g : sp_G} {Ω : sp_Mem → Prop} {Q : sp_Qt} {M0 : sp_Mem} {p : Int32} (hG : sp_Ok Ω) {a0 : Int32} {a1 : Int32} {a2 : Int32} (h : fX10_isWithin a0 a1 a2 = p) (hQ : Q (some (.int p)) M0) : sp_Mt g Ω mX10_isWithin 0 0 [.int a0, .int a1, .int a2] M0 Q := by
  unfold fX10_isWithin at h
  refine sp_Mt.of [some (.int a0), some (.int a1), some (.int a2)] (by decide) (by simp [sp_ent, Value.category]) rfl ?_
  refine sp_iload_n dX10_isWithin_0 rfl rfl ?_
  refine sp_iload_n dX10_isWithin_1 rfl rfl ?_
  suffices hj : sp_Wp g Ω mX10_isWithin 0 0 15 [none, none, none] [.int (if a0 < a1 then 0 else (if a2 < a0 then 0 else 1))] M0 Q by
    refine sp_icmp_lt (tgt := 14) dX10_isWithin_2 (by decide) (fun hc1 => ?_) (fun hc1 => ?_)
    · refine sp_iconst (v := 0) dX10_isWithin_14 (by decide) ?_
      refine sp_weak [false, false, false] [none, none, none] rfl ?_
      simp only [if_pos hc1] at hj
      exact hj
    · refine sp_iload_n dX10_isWithin_5 rfl rfl ?_
      refine sp_iload_n dX10_isWithin_6 rfl rfl ?_
      refine sp_icmp_gt (tgt := 14) dX10_isWithin_7 (by decide) (fun hc2 => ?_) (fun hc2 => ?_)
      · refine sp_iconst (v := 0) dX10_isWithin_14 (by decide) ?_
        refine sp_weak [false, false, false] [none, none, none] rfl ?_
        simp only [if_neg hc1, if_pos hc2] at hj
        exact hj
      · refine sp_iconst (v := 1) dX10_isWithin_10 (by decide) ?_
        refine sp_goto (tgt := 15) dX10_isWithin_11 (by decide) ?_
        refine sp_weak [false, false, false] [none, none, none] rfl ?_
        simp only [if_neg hc1, if_neg hc2] at hj
        exact hj
  cases h
  exact sp_iret dX10_isWithin_15 (ty := .boolean) rfl (sp_nz (by repeat (first | exact Or.inl rfl | exact Or.inr rfl | split))) (fun _ => hQ)
theorem bX10_isWithin (a0 : Int32) (a1 : Int32) (a2 : Int32) : fX10_isWithin a0 a1 a2 = 0 ∨ fX10_isWithin a0 a1 a2 = 1 := by
  unfold fX10_isWithin
  repeat (first | exact Or.inl rfl | exact Or.inr rfl | split)
def fX5_walkPerson (M : sp_Mem) (o0 : Nat) (a1 : Int32) (a2 : Int32) : Option (Int32 × sp_Mem) :=
  if (fX10_isWithin a2 1 4) = 0 then (some ((-1), M)) else (if (fX5_hasPerson M o0 a1) = 0 then (some ((-2), M)) else ((sp_ix 5 a1).bind fun j3 => (fX10_stepFrom (sp_I M (o0 + 5) j3) a2).bind fun v4 => if (fX10_isCell v4) = 0 then (some ((-3), M)) else ((sp_ix 25 v4).bind fun j6 => if (sp_I M (o0 + 1) j6) = 3 then (some ((-3), M)) else ((sp_ix 5 a1).bind fun j8 => sp_do (sp_setI M (o0 + 5) j8 v4) fun M9 => some (v4, M9)))))
set_option maxRecDepth 100000 in
set_option maxHeartbeats 4000000 in
theorem tX5_walkPerson {g : sp_G} {Ω : sp_Mem → Prop} {Q : sp_Qt} {p : (Int32 × sp_Mem)} (hG : sp_Ok Ω) {o0 : Nat} (ho0 : sp_room o0) {M : sp_Mem} {a1 : Int32} {a2 : Int32} (h : fX5_walkPerson M o0 a1 a2 = some p) (hQ : Q (some (.int p.1)) p.2) : sp_Mt g Ω mX5_walkPerson 0 0 [.ref o0, .int a1, .int a2] M Q := by
  unfold fX5_walkPerson at h
  refine sp_Mt.of [some (.ref o0), some (.int a1), some (.int a2), none] (by decide) (by simp [sp_ent, Value.category]) rfl ?_
  refine sp_iload_n dX5_walkPerson_0 rfl rfl ?_
  refine sp_iconst (v := 1) dX5_walkPerson_1 (by decide) ?_
  refine sp_iconst (v := 4) dX5_walkPerson_2 (by decide) ?_
  refine sp_use (fun ho => ?_)
  have hs := hG.1 _ ho
  refine sp_cSN (M1 := M) (r := some (.int (fX10_isWithin a2 1 4))) (st := []) [.int a2, .int 1, .int 4] [.int 4, .int 1, .int a2] [.int (fX10_isWithin a2 1 4)] dX5_walkPerson_3 okX10_isWithin (by decide +kernel) tw_472 (by decide) (by decide) rfl (Nat.le_of_ble_eq_true rfl) rfl rfl (fun Q hQ => tX10_isWithin hG rfl hQ) ?_
  refine sp_if_ne (tgt := 11) dX5_walkPerson_6 (by decide) (fun hc1 => ?_) (fun hc1 => ?_)
  · have h := (if_neg hc1).symm.trans h
    refine sp_aload_n dX5_walkPerson_11 rfl rfl ?_
    refine sp_iload_n dX5_walkPerson_12 rfl rfl ?_
    refine sp_cV (M1 := M) (r := some (.int (fX5_hasPerson M o0 a1))) (o := o0) (st := []) (c := 4) (RX5, TX5, 16) [.int a1] [.int a1, .ref o0] [.int (fX5_hasPerson M o0 a1)] dX5_walkPerson_13 okX5_hasPerson tw_920 tw_571 tw_572 (by decide) (by decide) rfl (Nat.le_of_ble_eq_true rfl) rfl rfl rfl rfl (rmI hs ho0) (fun Q hQ => tX5_hasPerson hG ho0 rfl hQ) ?_
    refine sp_if_ne (tgt := 22) dX5_walkPerson_16 (by decide) (fun hc2 => ?_) (fun hc2 => ?_)
    · have h := (if_neg hc2).symm.trans h
      refine sp_aload_n dX5_walkPerson_22 rfl rfl ?_
      refine sp_getR (RX5, TX5, 16) dX5_walkPerson_23 clX5 (j := 5) (by decide) tw_188 (rmI hs ho0) (Or.inr ⟨_, rfl⟩) (rmP_5 hs ho0) ?_
      refine sp_iload_n dX5_walkPerson_26 rfl rfl ?_
      obtain ⟨j3, hj3, h⟩ := Option.bind_eq_some_iff.mp h
      refine sp_iald2 (j := j3) dX5_walkPerson_27 (rmA_5 hs ho0) (rmN_5 hs ho0) hj3 ?_
      refine sp_iload_n dX5_walkPerson_28 rfl rfl ?_
      obtain ⟨v4, hv4, h⟩ := Option.bind_eq_some_iff.mp h
      refine sp_cSN (M1 := M) (r := some (.int v4)) (st := []) [.int (sp_I M (o0 + 5) j3), .int a2] [.int a2, .int (sp_I M (o0 + 5) j3)] [.int v4] dX5_walkPerson_29 okX10_stepFrom (by decide +kernel) tw_922 (by decide) (by decide) rfl (Nat.le_of_ble_eq_true rfl) rfl rfl (fun Q hQ => tX10_stepFrom hG hv4 hQ) ?_
      refine sp_istore_n [some (.ref o0), some (.int a1), some (.int a2), some (.int v4)] dX5_walkPerson_32 rfl (by decide) rfl ?_
      refine sp_iload_n dX5_walkPerson_33 rfl rfl ?_
      refine sp_cSN (M1 := M) (r := some (.int (fX10_isCell v4))) (st := []) [.int v4] [.int v4] [.int (fX10_isCell v4)] dX5_walkPerson_34 okX10_isCell (by decide +kernel) tw_469 (by decide) (by decide) rfl (Nat.le_of_ble_eq_true rfl) rfl rfl (fun Q hQ => tX10_isCell hG rfl hQ) ?_
      refine sp_if_eq (tgt := 50) dX5_walkPerson_37 (by decide) (fun hc5 => ?_) (fun hc5 => ?_)
      · have h := (if_pos hc5).symm.trans h
        refine sp_bipush (v := (-3)) dX5_walkPerson_50 (by decide) ?_
        cases h
        exact sp_iret dX5_walkPerson_52 (ty := .int) rfl rfl (fun _ => hQ)
      · have h := (if_neg hc5).symm.trans h
        refine sp_aload_n dX5_walkPerson_40 rfl rfl ?_
        refine sp_getR (RX5, TX5, 16) dX5_walkPerson_41 clX5 (j := 0) (by decide) tw_165 (rmI hs ho0) (Or.inr ⟨_, rfl⟩) (rmP_0 hs ho0) ?_
        refine sp_iload_n dX5_walkPerson_44 rfl rfl ?_
        obtain ⟨j6, hj6, h⟩ := Option.bind_eq_some_iff.mp h
        refine sp_iald2 (j := j6) dX5_walkPerson_45 (rmA_1 hs ho0) (rmN_1 hs ho0) hj6 ?_
        refine sp_iconst (v := 3) dX5_walkPerson_46 (by decide) ?_
        refine sp_icmp_ne (tgt := 53) dX5_walkPerson_47 (by decide) (fun hc7 => ?_) (fun hc7 => ?_)
        · have h := (if_neg hc7).symm.trans h
          refine sp_aload_n dX5_walkPerson_53 rfl rfl ?_
          refine sp_getR (RX5, TX5, 16) dX5_walkPerson_54 clX5 (j := 5) (by decide) tw_188 (rmI hs ho0) (Or.inr ⟨_, rfl⟩) (rmP_5 hs ho0) ?_
          refine sp_iload_n dX5_walkPerson_57 rfl rfl ?_
          refine sp_iload_n dX5_walkPerson_58 rfl rfl ?_
          obtain ⟨j8, hj8, h⟩ := Option.bind_eq_some_iff.mp h
          obtain ⟨M9, hM9, h⟩ := sp_do_e h
          refine sp_iast2 (j := j8) hG dX5_walkPerson_59 (rmA_5 hs ho0) (rmN_5 hs ho0) hj8 hM9 ?_
          refine sp_iload_n dX5_walkPerson_60 rfl rfl ?_
          cases h
          exact sp_iret dX5_walkPerson_61 (ty := .int) rfl rfl (fun _ => hQ)
        · have h := (if_pos hc7).symm.trans h
          refine sp_bipush (v := (-3)) dX5_walkPerson_50 (by decide) ?_
          cases h
          exact sp_iret dX5_walkPerson_52 (ty := .int) rfl rfl (fun _ => hQ)
    · have h := (if_pos hc2).symm.trans h
      refine sp_bipush (v := (-2)) dX5_walkPerson_19 (by decide) ?_
      cases h
      exact sp_iret dX5_walkPerson_21 (ty := .int) rfl rfl (fun _ => hQ)
  · have h := (if_pos hc1).symm.trans h
    refine sp_iconst (v := (-1)) dX5_walkPerson_9 (by decide) ?_
    cases h
    exact sp_iret dX5_walkPerson_10 (ty := .int) rfl rfl (fun _ => hQ)
def fX1_playNights_j101 (F : Nat) (o1 : Nat) (kb : Int32 → Int32 → Int32 → sp_Mem → Option (Int32 × sp_Mem)) (kx : Int32 → sp_Mem → Option (Int32 × sp_Mem)) (a3 : Int32) (a4 : Int32) (a5 : Int32) (M : sp_Mem) : Option (Int32 × sp_Mem) :=
  (fX6_passMinute F M o1 0 ((sp_I M o1 4) - 1)).bind fun M9 => kb a3 a4 (a5 + 1) M9
def fX1_playNights_j82 (F : Nat) (o1 : Nat) (kb : Int32 → Int32 → Int32 → sp_Mem → Option (Int32 × sp_Mem)) (kx : Int32 → sp_Mem → Option (Int32 × sp_Mem)) (a3 : Int32) (a4 : Int32) (a5 : Int32) (a6 : Int32) (a7 : Int32) (a8 : Int32) (M : sp_Mem) : Option (Int32 × sp_Mem) :=
  if a8 = 1 then ((fX5_walkPerson M o1 a7 ((a6 - a6 / 4 * 4) + 1)).bind fun x10 => fX1_playNights_j101 F o1 kb kx a3 a4 a5 x10.2) else (fX1_playNights_j101 F o1 kb kx a3 a4 a5 M)
def fX1_playNights_l11 (F : Nat) (o1 : Nat) (kx : Int32 → sp_Mem → Option (Int32 × sp_Mem)) : Nat → Int32 → Int32 → Int32 → sp_Mem → Option (Int32 × sp_Mem)
  | 0, _, _, _, _ => none
  | n + 1, a3, a4, a5, M =>
  if a3 ≤ a5 then (kx a4 M) else (if 999 ≤ (sp_I M (o1 + 10) 0) then (kx a4 M) else ((fX1_draw M (sp_I M o1 4)).bind fun x4 => (fX1_draw x4.2 (sp_I x4.2 o1 8)).bind fun x5 => (fX1_draw x5.2 3).bind fun x6 => if x6.1 = 0 then ((fX6_callSpark F x6.2 o1 x4.1 x5.1).bind fun x11 => if x11.1 < 0 then (fX1_playNights_j82 F o1 (fX1_playNights_l11 F o1 kx n) kx a3 a4 a5 x4.1 x5.1 x6.1 x11.2) else (fX1_playNights_j101 F o1 (fX1_playNights_l11 F o1 kx n) kx a3 (a4 + 1) a5 x11.2)) else (fX1_playNights_j82 F o1 (fX1_playNights_l11 F o1 kx n) kx a3 a4 a5 x4.1 x5.1 x6.1 x6.2)))
def fX1_playNights (F : Nat) (M : sp_Mem) (o1 : Nat) (a2 : Int32) (a3 : Int32) : Option (Int32 × sp_Mem) :=
  sp_do (sp_setI M 77 6 a2) fun M1 => fX1_playNights_l11 F o1 (fun b14 M13 => some (b14, M13)) F a3 0 0 M1
set_option maxRecDepth 100000 in
set_option maxHeartbeats 4000000 in
theorem tX1_playNights_j101 {g : sp_G} {Ω : sp_Mem → Prop} {Q : sp_Qt} {F : Nat} {p : (Int32 × sp_Mem)} (hG : sp_Ok Ω) {o1 : Nat} (ho1 : sp_room o1)  {kb : Int32 → Int32 → Int32 → sp_Mem → Option (Int32 × sp_Mem)} {kx : Int32 → sp_Mem → Option (Int32 × sp_Mem)} (hQ : Q (some (.int p.1)) p.2) (hb : ∀ (a3 : Int32) (a4 : Int32) (a5 : Int32) (M : sp_Mem), kb a3 a4 a5 M = some p → sp_Wp g Ω mX1_playNights 0 0 11 [some (.ref 77), some (.ref o1), none, some (.int a3), some (.int a4), some (.int a5), none, none, none] [] M Q) (hx : ∀ (a4 : Int32) (M : sp_Mem), kx a4 M = some p → sp_Wp g Ω mX1_playNights 0 0 122 [none, none, none, none, some (.int a4), none, none, none, none] [] M Q) (a3 : Int32) (a4 : Int32) (a5 : Int32) (M : sp_Mem) (h : fX1_playNights_j101 F o1 kb kx a3 a4 a5 M = some p) : sp_Wp g Ω mX1_playNights 0 0 101 [some (.ref 77), some (.ref o1), none, some (.int a3), some (.int a4), some (.int a5), none, none, none] [] M Q := by
  unfold fX1_playNights_j101 at h
  refine sp_aload_n dX1_playNights_101 rfl rfl ?_
  refine sp_use (fun ho => ?_)
  have hs := hG.1 _ ho
  refine sp_getR (RX1, TX1, 7) dX1_playNights_102 clX1 (j := 0) (by decide) tw_307 (wsI_77 hs) (Or.inl ⟨_, rfl⟩) (wsP_77_0 hs) ?_
  refine sp_aload_n dX1_playNights_105 rfl rfl ?_
  refine sp_iconst (v := 0) dX1_playNights_106 (by decide) ?_
  refine sp_aload_n dX1_playNights_107 rfl rfl ?_
  refine sp_getI (RX5, TX5, 16) dX1_playNights_108 clX5 (j := 4) (by decide) tw_186 (rmI hs ho1) (Or.inl rfl) ?_
  refine sp_iconst (v := 1) dX1_playNights_111 (by decide) ?_
  refine sp_isub dX1_playNights_112 ?_
  obtain ⟨M9, hM9, h⟩ := Option.bind_eq_some_iff.mp h
  refine sp_cV (M1 := M9) (r := none) (o := 1) (st := []) (c := 5) (RX6, TX6, 2) [.ref o1, .int 0, .int ((sp_I M o1 4) - 1)] [.int ((sp_I M o1 4) - 1), .int 0, .ref o1, .ref 1] [] dX1_playNights_113 okX6_passMinute tw_995 tw_925 tw_926 (by decide) (by decide) rfl (Nat.le_of_ble_eq_true rfl) rfl rfl rfl rfl (wsI_1 hs) (fun Q hQ => tX6_passMinute hG ho1 hM9 hQ) ?_
  refine sp_iinc (v := (a5 + 1)) [some (.ref 77), some (.ref o1), none, some (.int a3), some (.int a4), some (.int (a5 + 1)), none, none, none] dX1_playNights_116 rfl rfl (by decide) rfl ?_
  refine sp_goto (tgt := 11) dX1_playNights_119 (by decide) ?_
  refine sp_weak [true, true, false, true, true, true, false, false, false] [some (.ref 77), some (.ref o1), none, some (.int a3), some (.int a4), some (.int (a5 + 1)), none, none, none] rfl ?_
  exact hb _ _ _ _ h
set_option maxRecDepth 100000 in
set_option maxHeartbeats 4000000 in
theorem tX1_playNights_j82 {g : sp_G} {Ω : sp_Mem → Prop} {Q : sp_Qt} {F : Nat} {p : (Int32 × sp_Mem)} (hG : sp_Ok Ω) {o1 : Nat} (ho1 : sp_room o1)  {kb : Int32 → Int32 → Int32 → sp_Mem → Option (Int32 × sp_Mem)} {kx : Int32 → sp_Mem → Option (Int32 × sp_Mem)} (hQ : Q (some (.int p.1)) p.2) (hb : ∀ (a3 : Int32) (a4 : Int32) (a5 : Int32) (M : sp_Mem), kb a3 a4 a5 M = some p → sp_Wp g Ω mX1_playNights 0 0 11 [some (.ref 77), some (.ref o1), none, some (.int a3), some (.int a4), some (.int a5), none, none, none] [] M Q) (hx : ∀ (a4 : Int32) (M : sp_Mem), kx a4 M = some p → sp_Wp g Ω mX1_playNights 0 0 122 [none, none, none, none, some (.int a4), none, none, none, none] [] M Q) (a3 : Int32) (a4 : Int32) (a5 : Int32) (a6 : Int32) (a7 : Int32) (a8 : Int32) (M : sp_Mem) (h : fX1_playNights_j82 F o1 kb kx a3 a4 a5 a6 a7 a8 M = some p) : sp_Wp g Ω mX1_playNights 0 0 82 [some (.ref 77), some (.ref o1), none, some (.int a3), some (.int a4), some (.int a5), some (.int a6), some (.int a7), some (.int a8)] [] M Q := by
  unfold fX1_playNights_j82 at h
  refine sp_iload dX1_playNights_82 rfl ?_
  refine sp_iconst (v := 1) dX1_playNights_84 (by decide) ?_
  refine sp_icmp_ne (tgt := 101) dX1_playNights_85 (by decide) (fun hc8 => ?_) (fun hc8 => ?_)
  · have h := (if_neg hc8).symm.trans h
    refine sp_weak [true, true, false, true, true, true, false, false, false] [some (.ref 77), some (.ref o1), none, some (.int a3), some (.int a4), some (.int a5), none, none, none] rfl ?_
    exact tX1_playNights_j101 hG ho1 hQ hb hx _ _ _ _ h
  · have h := (if_pos hc8).symm.trans h
    refine sp_aload_n dX1_playNights_88 rfl rfl ?_
    refine sp_iload dX1_playNights_89 rfl ?_
    refine sp_iload dX1_playNights_91 rfl ?_
    refine sp_iconst (v := 4) dX1_playNights_93 (by decide) ?_
    refine sp_irem dX1_playNights_94 (by decide) ?_
    refine sp_iconst (v := 1) dX1_playNights_95 (by decide) ?_
    refine sp_iadd dX1_playNights_96 ?_
    refine sp_use (fun ho => ?_)
    have hs := hG.1 _ ho
    obtain ⟨x10, hx10, h⟩ := Option.bind_eq_some_iff.mp h
    refine sp_cV (M1 := x10.2) (r := some (.int x10.1)) (o := o1) (st := []) (c := 4) (RX5, TX5, 16) [.int a7, .int ((a6 - a6 / 4 * 4) + 1)] [.int ((a6 - a6 / 4 * 4) + 1), .int a7, .ref o1] [.int x10.1] dX1_playNights_97 okX5_walkPerson tw_1165 tw_916 tw_917 (by decide) (by decide) rfl (Nat.le_of_ble_eq_true rfl) rfl rfl rfl rfl (rmI hs ho1) (fun Q hQ => tX5_walkPerson hG ho1 hx10 hQ) ?_
    refine sp_pop dX1_playNights_100 rfl ?_
    refine sp_weak [true, true, false, true, true, true, false, false, false] [some (.ref 77), some (.ref o1), none, some (.int a3), some (.int a4), some (.int a5), none, none, none] rfl ?_
    exact tX1_playNights_j101 hG ho1 hQ hb hx _ _ _ _ h
set_option maxRecDepth 100000 in
set_option maxHeartbeats 4000000 in
theorem tX1_playNights_l11 {g : sp_G} {Ω : sp_Mem → Prop} {Q : sp_Qt} {F : Nat} {p : (Int32 × sp_Mem)} (hG : sp_Ok Ω) {o1 : Nat} (ho1 : sp_room o1)  {kx : Int32 → sp_Mem → Option (Int32 × sp_Mem)} (hQ : Q (some (.int p.1)) p.2) (hx : ∀ (a4 : Int32) (M : sp_Mem), kx a4 M = some p → sp_Wp g Ω mX1_playNights 0 0 122 [none, none, none, none, some (.int a4), none, none, none, none] [] M Q) : ∀ (n : Nat) (a3 : Int32) (a4 : Int32) (a5 : Int32) (M : sp_Mem), fX1_playNights_l11 F o1 kx n a3 a4 a5 M = some p → sp_Wp g Ω mX1_playNights 0 0 11 [some (.ref 77), some (.ref o1), none, some (.int a3), some (.int a4), some (.int a5), none, none, none] [] M Q := by
  intro n
  induction n with
  | zero =>
    intro a3 a4 a5 M h
    rw [fX1_playNights_l11] at h
    cases h
  | succ n ih =>
    intro a3 a4 a5 M h
    rw [fX1_playNights_l11] at h
    refine sp_iload dX1_playNights_11 rfl ?_
    refine sp_iload_n dX1_playNights_13 rfl rfl ?_
    refine sp_icmp_ge (tgt := 122) dX1_playNights_14 (by decide) (fun hc2 => ?_) (fun hc2 => ?_)
    · have h := (if_pos hc2).symm.trans h
      refine sp_weak [false, false, false, false, true, false, false, false, false] [none, none, none, none, some (.int a4), none, none, none, none] rfl ?_
      exact hx _ _ h
    · have h := (if_neg hc2).symm.trans h
      refine sp_aload_n dX1_playNights_17 rfl rfl ?_
      refine sp_use (fun ho => ?_)
      have hs := hG.1 _ ho
      refine sp_getR (RX5, TX5, 16) dX1_playNights_18 clX5 (j := 12) (by decide) tw_213 (rmI hs ho1) (Or.inr ⟨_, rfl⟩) (rmP_12 hs ho1) ?_
      refine sp_iconst (v := 0) dX1_playNights_21 (by decide) ?_
      refine sp_iald2 (j := 0) dX1_playNights_22 (rmA_10 hs ho1) (rmN_10 hs ho1) rfl ?_
      refine sp_sipush (v := 999) dX1_playNights_23 (by decide) ?_
      refine sp_icmp_ge (tgt := 122) dX1_playNights_26 (by decide) (fun hc3 => ?_) (fun hc3 => ?_)
      · have h := (if_pos hc3).symm.trans h
        refine sp_weak [false, false, false, false, true, false, false, false, false] [none, none, none, none, some (.int a4), none, none, none, none] rfl ?_
        exact hx _ _ h
      · have h := (if_neg hc3).symm.trans h
        refine sp_aload_n dX1_playNights_29 rfl rfl ?_
        refine sp_aload_n dX1_playNights_30 rfl rfl ?_
        refine sp_getI (RX5, TX5, 16) dX1_playNights_31 clX5 (j := 4) (by decide) tw_186 (rmI hs ho1) (Or.inl rfl) ?_
        obtain ⟨x4, hx4, h⟩ := Option.bind_eq_some_iff.mp h
        refine sp_cV (M1 := x4.2) (r := some (.int x4.1)) (o := 77) (st := []) (c := 1) (RX1, TX1, 7) [.int (sp_I M o1 4)] [.int (sp_I M o1 4), .ref 77] [.int x4.1] dX1_playNights_34 okX1_draw tw_1157 tw_1159 tw_26 (by decide) (by decide) rfl (Nat.le_of_ble_eq_true rfl) rfl rfl rfl rfl (wsI_77 hs) (fun Q hQ => tX1_draw hG hx4 hQ) ?_
        refine sp_istore [some (.ref 77), some (.ref o1), none, some (.int a3), some (.int a4), some (.int a5), some (.int x4.1), none, none] dX1_playNights_37 (by decide) rfl ?_
        refine sp_aload_n dX1_playNights_39 rfl rfl ?_
        refine sp_aload_n dX1_playNights_40 rfl rfl ?_
        refine sp_use (fun ho => ?_)
        have hs := hG.1 _ ho
        refine sp_getI (RX5, TX5, 16) dX1_playNights_41 clX5 (j := 8) (by decide) tw_202 (rmI hs ho1) (Or.inl rfl) ?_
        obtain ⟨x5, hx5, h⟩ := Option.bind_eq_some_iff.mp h
        refine sp_cV (M1 := x5.2) (r := some (.int x5.1)) (o := 77) (st := []) (c := 1) (RX1, TX1, 7) [.int (sp_I x4.2 o1 8)] [.int (sp_I x4.2 o1 8), .ref 77] [.int x5.1] dX1_playNights_44 okX1_draw tw_1157 tw_1159 tw_26 (by decide) (by decide) rfl (Nat.le_of_ble_eq_true rfl) rfl rfl rfl rfl (wsI_77 hs) (fun Q hQ => tX1_draw hG hx5 hQ) ?_
        refine sp_istore [some (.ref 77), some (.ref o1), none, some (.int a3), some (.int a4), some (.int a5), some (.int x4.1), some (.int x5.1), none] dX1_playNights_47 (by decide) rfl ?_
        refine sp_aload_n dX1_playNights_49 rfl rfl ?_
        refine sp_iconst (v := 3) dX1_playNights_50 (by decide) ?_
        refine sp_use (fun ho => ?_)
        have hs := hG.1 _ ho
        obtain ⟨x6, hx6, h⟩ := Option.bind_eq_some_iff.mp h
        refine sp_cV (M1 := x6.2) (r := some (.int x6.1)) (o := 77) (st := []) (c := 1) (RX1, TX1, 7) [.int 3] [.int 3, .ref 77] [.int x6.1] dX1_playNights_51 okX1_draw tw_1157 tw_1159 tw_26 (by decide) (by decide) rfl (Nat.le_of_ble_eq_true rfl) rfl rfl rfl rfl (wsI_77 hs) (fun Q hQ => tX1_draw hG hx6 hQ) ?_
        refine sp_istore [some (.ref 77), some (.ref o1), none, some (.int a3), some (.int a4), some (.int a5), some (.int x4.1), some (.int x5.1), some (.int x6.1)] dX1_playNights_54 (by decide) rfl ?_
        refine sp_iload dX1_playNights_56 rfl ?_
        refine sp_if_ne (tgt := 82) dX1_playNights_58 (by decide) (fun hc7 => ?_) (fun hc7 => ?_)
        · have h := (if_neg hc7).symm.trans h
          refine sp_weak [true, true, false, true, true, true, true, true, true] [some (.ref 77), some (.ref o1), none, some (.int a3), some (.int a4), some (.int a5), some (.int x4.1), some (.int x5.1), some (.int x6.1)] rfl ?_
          exact tX1_playNights_j82 hG ho1 hQ ih hx _ _ _ _ _ _ _ h
        · have h := (if_pos hc7).symm.trans h
          refine sp_aload_n dX1_playNights_61 rfl rfl ?_
          refine sp_use (fun ho => ?_)
          have hs := hG.1 _ ho
          refine sp_getR (RX1, TX1, 7) dX1_playNights_62 clX1 (j := 0) (by decide) tw_307 (wsI_77 hs) (Or.inl ⟨_, rfl⟩) (wsP_77_0 hs) ?_
          refine sp_aload_n dX1_playNights_65 rfl rfl ?_
          refine sp_iload dX1_playNights_66 rfl ?_
          refine sp_iload dX1_playNights_68 rfl ?_
          obtain ⟨x11, hx11, h⟩ := Option.bind_eq_some_iff.mp h
          refine sp_cV (M1 := x11.2) (r := some (.int x11.1)) (o := 1) (st := []) (c := 5) (RX6, TX6, 2) [.ref o1, .int x4.1, .int x5.1] [.int x5.1, .int x4.1, .ref o1, .ref 1] [.int x11.1] dX1_playNights_70 okX6_callSpark tw_1164 tw_905 tw_906 (by decide) (by decide) rfl (Nat.le_of_ble_eq_true rfl) rfl rfl rfl rfl (wsI_1 hs) (fun Q hQ => tX6_callSpark hG ho1 hx11 hQ) ?_
          refine sp_if_lt (tgt := 82) dX1_playNights_73 (by decide) (fun hc12 => ?_) (fun hc12 => ?_)
          · have h := (if_pos hc12).symm.trans h
            refine sp_weak [true, true, false, true, true, true, true, true, true] [some (.ref 77), some (.ref o1), none, some (.int a3), some (.int a4), some (.int a5), some (.int x4.1), some (.int x5.1), some (.int x6.1)] rfl ?_
            exact tX1_playNights_j82 hG ho1 hQ ih hx _ _ _ _ _ _ _ h
          · have h := (if_neg hc12).symm.trans h
            refine sp_iinc (v := (a4 + 1)) [some (.ref 77), some (.ref o1), none, some (.int a3), some (.int (a4 + 1)), some (.int a5), some (.int x4.1), some (.int x5.1), some (.int x6.1)] dX1_playNights_76 rfl rfl (by decide) rfl ?_
            refine sp_goto (tgt := 101) dX1_playNights_79 (by decide) ?_
            refine sp_weak [true, true, false, true, true, true, false, false, false] [some (.ref 77), some (.ref o1), none, some (.int a3), some (.int (a4 + 1)), some (.int a5), none, none, none] rfl ?_
            exact tX1_playNights_j101 hG ho1 hQ ih hx _ _ _ _ h
set_option maxRecDepth 100000 in
set_option maxHeartbeats 4000000 in
theorem tX1_playNights {g : sp_G} {Ω : sp_Mem → Prop} {Q : sp_Qt} {F : Nat} {p : (Int32 × sp_Mem)} (hG : sp_Ok Ω) {o1 : Nat} (ho1 : sp_room o1) {M : sp_Mem} {a2 : Int32} {a3 : Int32} (h : fX1_playNights F M o1 a2 a3 = some p) (hQ : Q (some (.int p.1)) p.2) : sp_Mt g Ω mX1_playNights 0 0 [.ref 77, .ref o1, .int a2, .int a3] M Q := by
  unfold fX1_playNights at h
  refine sp_Mt.of [some (.ref 77), some (.ref o1), some (.int a2), some (.int a3), none, none, none, none, none] (by decide) (by simp [sp_ent, Value.category]) rfl ?_
  refine sp_iconst (v := 0) dX1_playNights_0 (by decide) ?_
  refine sp_istore [some (.ref 77), some (.ref o1), some (.int a2), some (.int a3), some (.int 0), none, none, none, none] dX1_playNights_1 (by decide) rfl ?_
  refine sp_aload_n dX1_playNights_3 rfl rfl ?_
  refine sp_iload_n dX1_playNights_4 rfl rfl ?_
  refine sp_use (fun ho => ?_)
  have hs := hG.1 _ ho
  obtain ⟨M1, hM1, h⟩ := sp_do_e h
  refine sp_putI2 (RX1, TX1, 7) hG dX1_playNights_5 clX1 (j := 6) (by decide) tw_313 rfl (Or.inl rfl) (wsI_77 hs) hM1 ?_
  refine sp_iconst (v := 0) dX1_playNights_8 (by decide) ?_
  refine sp_istore [some (.ref 77), some (.ref o1), some (.int a2), some (.int a3), some (.int 0), some (.int 0), none, none, none] dX1_playNights_9 (by decide) rfl ?_
  refine sp_weak [true, true, false, true, true, true, false, false, false] [some (.ref 77), some (.ref o1), none, some (.int a3), some (.int 0), some (.int 0), none, none, none] rfl ?_
  refine tX1_playNights_l11 hG ho1 hQ (fun b14 M13 h => ?_) F _ _ _ _ h
  refine sp_iload dX1_playNights_122 rfl ?_
  cases h
  exact sp_iret dX1_playNights_124 (ty := .int) rfl rfl (fun _ => hQ)
def fX9_clear (M : sp_Mem) (o0 : Nat) : Option sp_Mem :=
  sp_do (sp_setI M o0 2 0) fun M1 => sp_do (sp_setI M1 o0 3 0) fun M2 => some M2
set_option maxRecDepth 100000 in
set_option maxHeartbeats 4000000 in
theorem tX9_clear {g : sp_G} {Ω : sp_Mem → Prop} {Q : sp_Qt} {p : sp_Mem} (hG : sp_Ok Ω) {o0 : Nat} (ho0 : ∀ M, Ω M → sp_text M o0) {M : sp_Mem} (h : fX9_clear M o0 = some p) (hQ : Q none p) : sp_Mt g Ω mX9_clear 0 0 [.ref o0] M Q := by
  unfold fX9_clear at h
  refine sp_Mt.of [some (.ref o0)] (by decide) (by simp [sp_ent, Value.category]) rfl ?_
  refine sp_aload_n dX9_clear_0 rfl rfl ?_
  refine sp_iconst (v := 0) dX9_clear_1 (by decide) ?_
  refine sp_use (fun ho => ?_)
  have hs := hG.1 _ ho
  obtain ⟨M1, hM1, h⟩ := sp_do_e h
  refine sp_putI2 (RX9, TX9, 4) hG dX9_clear_2 clX9 (j := 2) (by decide) tw_371 rfl (Or.inl rfl) (ho0 _ ho).1 hM1 ?_
  refine sp_aload_n dX9_clear_5 rfl rfl ?_
  refine sp_iconst (v := 0) dX9_clear_6 (by decide) ?_
  refine sp_use (fun ho => ?_)
  have hs := hG.1 _ ho
  obtain ⟨M2, hM2, h⟩ := sp_do_e h
  refine sp_putI2 (RX9, TX9, 4) hG dX9_clear_7 clX9 (j := 3) (by decide) tw_375 rfl (Or.inl rfl) (ho0 _ ho).1 hM2 ?_
  cases h
  exact sp_vret dX9_clear_10 rfl (fun _ => hQ)
def fX8_byteAt (M0 : sp_Mem) (a1 : Int32) : Option Int32 :=
  if a1 < 0 then (some (-1)) else (if (sp_I M0 94 1) ≤ a1 then (some (-1)) else ((sp_ix 400 a1).bind fun j3 => some (sp_I M0 95 j3)))
set_option maxRecDepth 100000 in
set_option maxHeartbeats 4000000 in
theorem tX8_byteAt {g : sp_G} {Ω : sp_Mem → Prop} {Q : sp_Qt} {M0 : sp_Mem} {p : Int32} (hG : sp_Ok Ω) {a1 : Int32} (h : fX8_byteAt M0 a1 = some p) (hQ : Q (some (.int p)) M0) : sp_Mt g Ω mX8_byteAt 0 0 [.ref 94, .int a1] M0 Q := by
  unfold fX8_byteAt at h
  refine sp_Mt.of [some (.ref 94), some (.int a1)] (by decide) (by simp [sp_ent, Value.category]) rfl ?_
  refine sp_iload_n dX8_byteAt_0 rfl rfl ?_
  refine sp_if_lt (tgt := 21) dX8_byteAt_1 (by decide) (fun hc1 => ?_) (fun hc1 => ?_)
  · have h := (if_pos hc1).symm.trans h
    refine sp_iconst (v := (-1)) dX8_byteAt_21 (by decide) ?_
    cases h
    exact sp_iret dX8_byteAt_22 (ty := .int) rfl rfl (fun _ => hQ)
  · have h := (if_neg hc1).symm.trans h
    refine sp_iload_n dX8_byteAt_4 rfl rfl ?_
    refine sp_aload_n dX8_byteAt_5 rfl rfl ?_
    refine sp_use (fun ho => ?_)
    have hs := hG.1 _ ho
    refine sp_getI (RX8, TX8, 5) dX8_byteAt_6 clX8 (j := 1) (by decide) tw_338 (wsI_94 hs) (Or.inl rfl) ?_
    refine sp_icmp_ge (tgt := 21) dX8_byteAt_9 (by decide) (fun hc2 => ?_) (fun hc2 => ?_)
    · have h := (if_pos hc2).symm.trans h
      refine sp_iconst (v := (-1)) dX8_byteAt_21 (by decide) ?_
      cases h
      exact sp_iret dX8_byteAt_22 (ty := .int) rfl rfl (fun _ => hQ)
    · have h := (if_neg hc2).symm.trans h
      refine sp_aload_n dX8_byteAt_12 rfl rfl ?_
      refine sp_getR (RX8, TX8, 5) dX8_byteAt_13 clX8 (j := 0) (by decide) tw_337 (wsI_94 hs) (Or.inr ⟨_, rfl⟩) (wsP_94_0 hs) ?_
      refine sp_iload_n dX8_byteAt_16 rfl rfl ?_
      obtain ⟨j3, hj3, h⟩ := Option.bind_eq_some_iff.mp h
      refine sp_iald2 (j := j3) dX8_byteAt_17 (wsA_95 hs) (wsN_95 hs) hj3 ?_
      refine sp_goto (tgt := 22) dX8_byteAt_18 (by decide) ?_
      cases h
      exact sp_iret dX8_byteAt_22 (ty := .int) rfl rfl (fun _ => hQ)
def fX8_sortOf_j21 (a0 : Int32) : Int32 :=
  (if a0 < 48 then 3 else (if 57 < a0 then 3 else 2))
def fX8_sortOf (a0 : Int32) : Int32 :=
  if a0 = (-1) then (0) else (if a0 < 97 then (fX8_sortOf_j21 a0) else (if 122 < a0 then (fX8_sortOf_j21 a0) else (1)))
set_option maxRecDepth 100000 in
set_option maxHeartbeats 4000000 in
theorem tX8_sortOf_j21 {g : sp_G} {Ω : sp_Mem → Prop} {Q : sp_Qt} {M0 : sp_Mem} {p : Int32} (hG : sp_Ok Ω)  (hQ : Q (some (.int p)) M0) (a0 : Int32) (h : fX8_sortOf_j21 a0 = p) : sp_Wp g Ω mX8_sortOf 0 0 21 [some (.int a0)] [] M0 Q := by
  unfold fX8_sortOf_j21 at h
  refine sp_iload_n dX8_sortOf_21 rfl rfl ?_
  refine sp_bipush (v := 48) dX8_sortOf_22 (by decide) ?_
  suffices hj : sp_Wp g Ω mX8_sortOf 0 0 38 [none] [.int (if a0 < 48 then 3 else (if 57 < a0 then 3 else 2))] M0 Q by
    refine sp_icmp_lt (tgt := 37) dX8_sortOf_24 (by decide) (fun hc3 => ?_) (fun hc3 => ?_)
    · refine sp_iconst (v := 3) dX8_sortOf_37 (by decide) ?_
      refine sp_weak [false] [none] rfl ?_
      simp only [if_pos hc3] at hj
      exact hj
    · refine sp_iload_n dX8_sortOf_27 rfl rfl ?_
      refine sp_bipush (v := 57) dX8_sortOf_28 (by decide) ?_
      refine sp_icmp_gt (tgt := 37) dX8_sortOf_30 (by decide) (fun hc4 => ?_) (fun hc4 => ?_)
      · refine sp_iconst (v := 3) dX8_sortOf_37 (by decide) ?_
        refine sp_weak [false] [none] rfl ?_
        simp only [if_neg hc3, if_pos hc4] at hj
        exact hj
      · refine sp_iconst (v := 2) dX8_sortOf_33 (by decide) ?_
        refine sp_goto (tgt := 38) dX8_sortOf_34 (by decide) ?_
        refine sp_weak [false] [none] rfl ?_
        simp only [if_neg hc3, if_neg hc4] at hj
        exact hj
  cases h
  exact sp_iret dX8_sortOf_38 (ty := .int) rfl rfl (fun _ => hQ)
set_option maxRecDepth 100000 in
set_option maxHeartbeats 4000000 in
theorem tX8_sortOf {g : sp_G} {Ω : sp_Mem → Prop} {Q : sp_Qt} {M0 : sp_Mem} {p : Int32} (hG : sp_Ok Ω) {a0 : Int32} (h : fX8_sortOf a0 = p) (hQ : Q (some (.int p)) M0) : sp_Mt g Ω mX8_sortOf 0 0 [.int a0] M0 Q := by
  unfold fX8_sortOf at h
  refine sp_Mt.of [some (.int a0)] (by decide) (by simp [sp_ent, Value.category]) rfl ?_
  refine sp_iload_n dX8_sortOf_0 rfl rfl ?_
  refine sp_iconst (v := (-1)) dX8_sortOf_1 (by decide) ?_
  refine sp_icmp_ne (tgt := 7) dX8_sortOf_2 (by decide) (fun hc1 => ?_) (fun hc1 => ?_)
  · have h := (if_neg hc1).symm.trans h
    refine sp_iload_n dX8_sortOf_7 rfl rfl ?_
    refine sp_bipush (v := 97) dX8_sortOf_8 (by decide) ?_
    refine sp_icmp_lt (tgt := 21) dX8_sortOf_10 (by decide) (fun hc2 => ?_) (fun hc2 => ?_)
    · have h := (if_pos hc2).symm.trans h
      refine sp_weak [true] [some (.int a0)] rfl ?_
      exact tX8_sortOf_j21 hG hQ _ h
    · have h := (if_neg hc2).symm.trans h
      refine sp_iload_n dX8_sortOf_13 rfl rfl ?_
      refine sp_bipush (v := 122) dX8_sortOf_14 (by decide) ?_
      refine sp_icmp_gt (tgt := 21) dX8_sortOf_16 (by decide) (fun hc5 => ?_) (fun hc5 => ?_)
      · have h := (if_pos hc5).symm.trans h
        refine sp_weak [true] [some (.int a0)] rfl ?_
        exact tX8_sortOf_j21 hG hQ _ h
      · have h := (if_neg hc5).symm.trans h
        refine sp_iconst (v := 1) dX8_sortOf_19 (by decide) ?_
        cases h
        exact sp_iret dX8_sortOf_20 (ty := .int) rfl rfl (fun _ => hQ)
  · have h := (if_pos hc1).symm.trans h
    refine sp_iconst (v := 0) dX8_sortOf_5 (by decide) ?_
    cases h
    exact sp_iret dX8_sortOf_6 (ty := .int) rfl rfl (fun _ => hQ)
def fX8_toNext_l8 (F : Nat) (kx : sp_Mem → Option sp_Mem) : Nat → sp_Mem → Option sp_Mem
  | 0, _ => none
  | n + 1, M =>
  if (sp_I M 94 1) ≤ (sp_I M 94 3) then (kx M) else ((sp_ix 400 (sp_I M 94 3)).bind fun j3 => if (sp_I M 95 j3) = 32 then (sp_do (sp_setI M 94 3 ((sp_I M 94 3) + 1)) fun M5 => (fX8_toNext_l8 F kx n) M5) else (kx M))
def fX8_toNext_l94 (F : Nat) (kx : sp_Mem → Option sp_Mem) : Nat → sp_Mem → Option sp_Mem
  | 0, _ => none
  | n + 1, M =>
  if (sp_I M 94 1) ≤ (sp_I M 94 4) then (kx M) else ((sp_ix 400 (sp_I M 94 4)).bind fun j12 => if (fX8_sortOf (sp_I M 95 j12)) = (sp_I M 94 2) then (sp_do (sp_setI M 94 4 ((sp_I M 94 4) + 1)) fun M14 => (fX8_toNext_l94 F kx n) M14) else (kx M))
def fX8_toNext_j46 (F : Nat) (M : sp_Mem) : Option sp_Mem :=
  (fX8_byteAt M (sp_I M 94 3)).bind fun v7 => sp_do (sp_setI M 94 2 (fX8_sortOf v7)) fun M8 => sp_do (sp_setI M8 94 4 (sp_min ((sp_I M8 94 3) + 1) (sp_I M8 94 1))) fun M9 => if (sp_I M9 94 2) = 1 then (fX8_toNext_l94 F (fun M15 => some M15) F M9) else (if (sp_I M9 94 2) = 2 then (fX8_toNext_l94 F (fun M17 => some M17) F M9) else (some M9))
def fX8_toNext (F : Nat) (M : sp_Mem) : Option sp_Mem :=
  sp_do (sp_setI M 94 3 (sp_I M 94 4)) fun M1 => fX8_toNext_l8 F (fun M6 => fX8_toNext_j46 F M6) F M1
set_option maxRecDepth 100000 in
set_option maxHeartbeats 4000000 in
theorem tX8_toNext_l8 {g : sp_G} {Ω : sp_Mem → Prop} {Q : sp_Qt} {F : Nat} {p : sp_Mem} (hG : sp_Ok Ω)  {kx : sp_Mem → Option sp_Mem} (hQ : Q none p) (hx : ∀  (M : sp_Mem), kx M = some p → sp_Wp g Ω mX8_toNext 0 0 46 [some (.ref 94)] [] M Q) : ∀ (n : Nat)  (M : sp_Mem), fX8_toNext_l8 F kx n M = some p → sp_Wp g Ω mX8_toNext 0 0 8 [some (.ref 94)] [] M Q := by
  intro n
  induction n with
  | zero =>
    intro M h
    rw [fX8_toNext_l8] at h
    cases h
  | succ n ih =>
    intro M h
    rw [fX8_toNext_l8] at h
    refine sp_aload_n dX8_toNext_8 rfl rfl ?_
    refine sp_use (fun ho => ?_)
    have hs := hG.1 _ ho
    refine sp_getI (RX8, TX8, 5) dX8_toNext_9 clX8 (j := 3) (by decide) tw_343 (wsI_94 hs) (Or.inl rfl) ?_
    refine sp_aload_n dX8_toNext_12 rfl rfl ?_
    refine sp_getI (RX8, TX8, 5) dX8_toNext_13 clX8 (j := 1) (by decide) tw_338 (wsI_94 hs) (Or.inl rfl) ?_
    refine sp_icmp_ge (tgt := 46) dX8_toNext_16 (by decide) (fun hc2 => ?_) (fun hc2 => ?_)
    · have h := (if_pos hc2).symm.trans h
      refine sp_weak [true] [some (.ref 94)] rfl ?_
      exact hx _ h
    · have h := (if_neg hc2).symm.trans h
      refine sp_aload_n dX8_toNext_19 rfl rfl ?_
      refine sp_getR (RX8, TX8, 5) dX8_toNext_20 clX8 (j := 0) (by decide) tw_337 (wsI_94 hs) (Or.inr ⟨_, rfl⟩) (wsP_94_0 hs) ?_
      refine sp_aload_n dX8_toNext_23 rfl rfl ?_
      refine sp_getI (RX8, TX8, 5) dX8_toNext_24 clX8 (j := 3) (by decide) tw_343 (wsI_94 hs) (Or.inl rfl) ?_
      obtain ⟨j3, hj3, h⟩ := Option.bind_eq_some_iff.mp h
      refine sp_iald2 (j := j3) dX8_toNext_27 (wsA_95 hs) (wsN_95 hs) hj3 ?_
      refine sp_bipush (v := 32) dX8_toNext_28 (by decide) ?_
      refine sp_icmp_ne (tgt := 46) dX8_toNext_30 (by decide) (fun hc4 => ?_) (fun hc4 => ?_)
      · have h := (if_neg hc4).symm.trans h
        refine sp_weak [true] [some (.ref 94)] rfl ?_
        exact hx _ h
      · have h := (if_pos hc4).symm.trans h
        refine sp_aload_n dX8_toNext_33 rfl rfl ?_
        refine sp_dup dX8_toNext_34 rfl ?_
        refine sp_getI (RX8, TX8, 5) dX8_toNext_35 clX8 (j := 3) (by decide) tw_343 (wsI_94 hs) (Or.inl rfl) ?_
        refine sp_iconst (v := 1) dX8_toNext_38 (by decide) ?_
        refine sp_iadd dX8_toNext_39 ?_
        obtain ⟨M5, hM5, h⟩ := sp_do_e h
        refine sp_putI2 (RX8, TX8, 5) hG dX8_toNext_40 clX8 (j := 3) (by decide) tw_343 rfl (Or.inl rfl) (wsI_94 hs) hM5 ?_
        refine sp_goto (tgt := 8) dX8_toNext_43 (by decide) ?_
        refine sp_weak [true] [some (.ref 94)] rfl ?_
        exact ih _ h
set_option maxRecDepth 100000 in
set_option maxHeartbeats 4000000 in
theorem tX8_toNext_l94 {g : sp_G} {Ω : sp_Mem → Prop} {Q : sp_Qt} {F : Nat} {p : sp_Mem} (hG : sp_Ok Ω)  {kx : sp_Mem → Option sp_Mem} (hQ : Q none p) (hx : ∀  (M : sp_Mem), kx M = some p → sp_Wp g Ω mX8_toNext 0 0 137 [none] [] M Q) : ∀ (n : Nat)  (M : sp_Mem), fX8_toNext_l94 F kx n M = some p → sp_Wp g Ω mX8_toNext 0 0 94 [some (.ref 94)] [] M Q := by
  intro n
  induction n with
  | zero =>
    intro M h
    rw [fX8_toNext_l94] at h
    cases h
  | succ n ih =>
    intro M h
    rw [fX8_toNext_l94] at h
    refine sp_aload_n dX8_toNext_94 rfl rfl ?_
    refine sp_use (fun ho => ?_)
    have hs := hG.1 _ ho
    refine sp_getI (RX8, TX8, 5) dX8_toNext_95 clX8 (j := 4) (by decide) tw_344 (wsI_94 hs) (Or.inl rfl) ?_
    refine sp_aload_n dX8_toNext_98 rfl rfl ?_
    refine sp_getI (RX8, TX8, 5) dX8_toNext_99 clX8 (j := 1) (by decide) tw_338 (wsI_94 hs) (Or.inl rfl) ?_
    refine sp_icmp_ge (tgt := 137) dX8_toNext_102 (by decide) (fun hc11 => ?_) (fun hc11 => ?_)
    · have h := (if_pos hc11).symm.trans h
      refine sp_weak [false] [none] rfl ?_
      exact hx _ h
    · have h := (if_neg hc11).symm.trans h
      refine sp_aload_n dX8_toNext_105 rfl rfl ?_
      refine sp_getR (RX8, TX8, 5) dX8_toNext_106 clX8 (j := 0) (by decide) tw_337 (wsI_94 hs) (Or.inr ⟨_, rfl⟩) (wsP_94_0 hs) ?_
      refine sp_aload_n dX8_toNext_109 rfl rfl ?_
      refine sp_getI (RX8, TX8, 5) dX8_toNext_110 clX8 (j := 4) (by decide) tw_344 (wsI_94 hs) (Or.inl rfl) ?_
      obtain ⟨j12, hj12, h⟩ := Option.bind_eq_some_iff.mp h
      refine sp_iald2 (j := j12) dX8_toNext_113 (wsA_95 hs) (wsN_95 hs) hj12 ?_
      refine sp_cS (M1 := M) (r := some (.int (fX8_sortOf (sp_I M 95 j12)))) (st := []) [.int (sp_I M 95 j12)] [.int (sp_I M 95 j12)] [.int (fX8_sortOf (sp_I M 95 j12))] dX8_toNext_114 okX8_sortOf tw_656 tw_657 (by decide) (by decide) rfl (Nat.le_of_ble_eq_true rfl) rfl rfl (fun Q hQ => tX8_sortOf hG rfl hQ) ?_
      refine sp_aload_n dX8_toNext_117 rfl rfl ?_
      refine sp_getI (RX8, TX8, 5) dX8_toNext_118 clX8 (j := 2) (by decide) tw_341 (wsI_94 hs) (Or.inl rfl) ?_
      refine sp_icmp_ne (tgt := 137) dX8_toNext_121 (by decide) (fun hc13 => ?_) (fun hc13 => ?_)
      · have h := (if_neg hc13).symm.trans h
        refine sp_weak [false] [none] rfl ?_
        exact hx _ h
      · have h := (if_pos hc13).symm.trans h
        refine sp_aload_n dX8_toNext_124 rfl rfl ?_
        refine sp_dup dX8_toNext_125 rfl ?_
        refine sp_getI (RX8, TX8, 5) dX8_toNext_126 clX8 (j := 4) (by decide) tw_344 (wsI_94 hs) (Or.inl rfl) ?_
        refine sp_iconst (v := 1) dX8_toNext_129 (by decide) ?_
        refine sp_iadd dX8_toNext_130 ?_
        obtain ⟨M14, hM14, h⟩ := sp_do_e h
        refine sp_putI2 (RX8, TX8, 5) hG dX8_toNext_131 clX8 (j := 4) (by decide) tw_344 rfl (Or.inl rfl) (wsI_94 hs) hM14 ?_
        refine sp_goto (tgt := 94) dX8_toNext_134 (by decide) ?_
        refine sp_weak [true] [some (.ref 94)] rfl ?_
        exact ih _ h
set_option maxRecDepth 100000 in
set_option maxHeartbeats 4000000 in
theorem tX8_toNext_j46 {g : sp_G} {Ω : sp_Mem → Prop} {Q : sp_Qt} {F : Nat} {p : sp_Mem} (hG : sp_Ok Ω)  (hQ : Q none p) (M : sp_Mem) (h : fX8_toNext_j46 F M = some p) : sp_Wp g Ω mX8_toNext 0 0 46 [some (.ref 94)] [] M Q := by
  unfold fX8_toNext_j46 at h
  refine sp_aload_n dX8_toNext_46 rfl rfl ?_
  refine sp_aload_n dX8_toNext_47 rfl rfl ?_
  refine sp_aload_n dX8_toNext_48 rfl rfl ?_
  refine sp_use (fun ho => ?_)
  have hs := hG.1 _ ho
  refine sp_getI (RX8, TX8, 5) dX8_toNext_49 clX8 (j := 3) (by decide) tw_343 (wsI_94 hs) (Or.inl rfl) ?_
  obtain ⟨v7, hv7, h⟩ := Option.bind_eq_some_iff.mp h
  refine sp_cV (M1 := M) (r := some (.int v7)) (o := 94) (st := [.ref 94]) (c := 7) (RX8, TX8, 5) [.int (sp_I M 94 3)] [.int (sp_I M 94 3), .ref 94, .ref 94] [.int v7, .ref 94] dX8_toNext_52 okX8_byteAt tw_655 tw_628 tw_629 (by decide) (by decide) rfl (Nat.le_of_ble_eq_true rfl) rfl rfl rfl rfl (wsI_94 hs) (fun Q hQ => tX8_byteAt hG hv7 hQ) ?_
  refine sp_cS (M1 := M) (r := some (.int (fX8_sortOf v7))) (st := [.ref 94]) [.int v7] [.int v7, .ref 94] [.int (fX8_sortOf v7), .ref 94] dX8_toNext_55 okX8_sortOf tw_656 tw_657 (by decide) (by decide) rfl (Nat.le_of_ble_eq_true rfl) rfl rfl (fun Q hQ => tX8_sortOf hG rfl hQ) ?_
  obtain ⟨M8, hM8, h⟩ := sp_do_e h
  refine sp_putI2 (RX8, TX8, 5) hG dX8_toNext_58 clX8 (j := 2) (by decide) tw_341 rfl (Or.inl rfl) (wsI_94 hs) hM8 ?_
  refine sp_aload_n dX8_toNext_61 rfl rfl ?_
  refine sp_aload_n dX8_toNext_62 rfl rfl ?_
  refine sp_use (fun ho => ?_)
  have hs := hG.1 _ ho
  refine sp_getI (RX8, TX8, 5) dX8_toNext_63 clX8 (j := 3) (by decide) tw_343 (wsI_94 hs) (Or.inl rfl) ?_
  refine sp_iconst (v := 1) dX8_toNext_66 (by decide) ?_
  refine sp_iadd dX8_toNext_67 ?_
  refine sp_aload_n dX8_toNext_68 rfl rfl ?_
  refine sp_getI (RX8, TX8, 5) dX8_toNext_69 clX8 (j := 1) (by decide) tw_338 (wsI_94 hs) (Or.inl rfl) ?_
  refine sp_mmin dX8_toNext_72 tw_659 (by decide) (Nat.le_of_ble_eq_true rfl) ?_
  obtain ⟨M9, hM9, h⟩ := sp_do_e h
  refine sp_putI2 (RX8, TX8, 5) hG dX8_toNext_75 clX8 (j := 4) (by decide) tw_344 rfl (Or.inl rfl) (wsI_94 hs) hM9 ?_
  refine sp_aload_n dX8_toNext_78 rfl rfl ?_
  refine sp_use (fun ho => ?_)
  have hs := hG.1 _ ho
  refine sp_getI (RX8, TX8, 5) dX8_toNext_79 clX8 (j := 2) (by decide) tw_341 (wsI_94 hs) (Or.inl rfl) ?_
  refine sp_iconst (v := 1) dX8_toNext_82 (by decide) ?_
  refine sp_icmp_eq (tgt := 94) dX8_toNext_83 (by decide) (fun hc10 => ?_) (fun hc10 => ?_)
  · have h := (if_pos hc10).symm.trans h
    refine sp_weak [true] [some (.ref 94)] rfl ?_
    refine tX8_toNext_l94 hG hQ (fun M15 h => ?_) F _ h
    cases h
    exact sp_vret dX8_toNext_137 rfl (fun _ => hQ)
  · have h := (if_neg hc10).symm.trans h
    refine sp_aload_n dX8_toNext_86 rfl rfl ?_
    refine sp_getI (RX8, TX8, 5) dX8_toNext_87 clX8 (j := 2) (by decide) tw_341 (wsI_94 hs) (Or.inl rfl) ?_
    refine sp_iconst (v := 2) dX8_toNext_90 (by decide) ?_
    refine sp_icmp_ne (tgt := 137) dX8_toNext_91 (by decide) (fun hc16 => ?_) (fun hc16 => ?_)
    · have h := (if_neg hc16).symm.trans h
      cases h
      exact sp_vret dX8_toNext_137 rfl (fun _ => hQ)
    · have h := (if_pos hc16).symm.trans h
      refine sp_weak [true] [some (.ref 94)] rfl ?_
      refine tX8_toNext_l94 hG hQ (fun M17 h => ?_) F _ h
      cases h
      exact sp_vret dX8_toNext_137 rfl (fun _ => hQ)
set_option maxRecDepth 100000 in
set_option maxHeartbeats 4000000 in
theorem tX8_toNext {g : sp_G} {Ω : sp_Mem → Prop} {Q : sp_Qt} {F : Nat} {p : sp_Mem} (hG : sp_Ok Ω) {M : sp_Mem} (h : fX8_toNext F M = some p) (hQ : Q none p) : sp_Mt g Ω mX8_toNext 0 0 [.ref 94] M Q := by
  unfold fX8_toNext at h
  refine sp_Mt.of [some (.ref 94)] (by decide) (by simp [sp_ent, Value.category]) rfl ?_
  refine sp_aload_n dX8_toNext_0 rfl rfl ?_
  refine sp_aload_n dX8_toNext_1 rfl rfl ?_
  refine sp_use (fun ho => ?_)
  have hs := hG.1 _ ho
  refine sp_getI (RX8, TX8, 5) dX8_toNext_2 clX8 (j := 4) (by decide) tw_344 (wsI_94 hs) (Or.inl rfl) ?_
  obtain ⟨M1, hM1, h⟩ := sp_do_e h
  refine sp_putI2 (RX8, TX8, 5) hG dX8_toNext_5 clX8 (j := 3) (by decide) tw_343 rfl (Or.inl rfl) (wsI_94 hs) hM1 ?_
  refine sp_weak [true] [some (.ref 94)] rfl ?_
  refine tX8_toNext_l8 hG hQ (fun M6 h => ?_) F _ h
  refine sp_weak [true] [some (.ref 94)] rfl ?_
  exact tX8_toNext_j46 hG hQ _ h
def fX8_toFirst (F : Nat) (M : sp_Mem) : Option sp_Mem :=
  sp_do (sp_setI M 94 4 0) fun M1 => (fX8_toNext F M1).bind fun M2 => some M2
set_option maxRecDepth 100000 in
set_option maxHeartbeats 4000000 in
theorem tX8_toFirst {g : sp_G} {Ω : sp_Mem → Prop} {Q : sp_Qt} {F : Nat} {p : sp_Mem} (hG : sp_Ok Ω) {M : sp_Mem} (h : fX8_toFirst F M = some p) (hQ : Q none p) : sp_Mt g Ω mX8_toFirst 0 0 [.ref 94] M Q := by
  unfold fX8_toFirst at h
  refine sp_Mt.of [some (.ref 94)] (by decide) (by simp [sp_ent, Value.category]) rfl ?_
  refine sp_aload_n dX8_toFirst_0 rfl rfl ?_
  refine sp_iconst (v := 0) dX8_toFirst_1 (by decide) ?_
  refine sp_use (fun ho => ?_)
  have hs := hG.1 _ ho
  obtain ⟨M1, hM1, h⟩ := sp_do_e h
  refine sp_putI2 (RX8, TX8, 5) hG dX8_toFirst_2 clX8 (j := 4) (by decide) tw_344 rfl (Or.inl rfl) (wsI_94 hs) hM1 ?_
  refine sp_aload_n dX8_toFirst_5 rfl rfl ?_
  refine sp_use (fun ho => ?_)
  have hs := hG.1 _ ho
  obtain ⟨M2, hM2, h⟩ := Option.bind_eq_some_iff.mp h
  refine sp_cV (M1 := M2) (r := none) (o := 94) (st := []) (c := 7) (RX8, TX8, 5) [] [.ref 94] [] dX8_toFirst_6 okX8_toNext tw_651 tw_652 tw_653 (by decide) (by decide) rfl (Nat.le_of_ble_eq_true rfl) rfl rfl rfl rfl (wsI_94 hs) (fun Q hQ => tX8_toNext hG hM2 hQ) ?_
  cases h
  exact sp_vret dX8_toFirst_9 rfl (fun _ => hQ)
def fX8_placeIn_j96 (F : Nat) (M0 : sp_Mem) (o1 : Nat) (kb : Int32 → Int32 → Int32 → Int32 → Option Int32) (kx : Option Int32) (a2 : Int32) (a3 : Int32) (a4 : Int32) (a5 : Int32) : Option Int32 :=
  if a4 = 0 then (kb (a2 + 1) 0 1 (a5 + 1)) else (if a3 = ((sp_I M0 94 4) - (sp_I M0 94 3)) then (some a2) else (kb (a2 + 1) 0 1 (a5 + 1)))
def fX8_placeIn_l22 (F : Nat) (M0 : sp_Mem) (o1 : Nat) (kx : Option Int32) : Nat → Int32 → Int32 → Int32 → Int32 → Option Int32
  | 0, _, _, _, _ => none
  | n + 1, a2, a3, a4, a5 =>
  if (sp_slen o1) < a5 then (kx) else (if (sp_I M0 94 2) = 1 then (if (sp_slen o1) ≤ a5 then (fX8_placeIn_j96 F M0 o1 (fX8_placeIn_l22 F M0 o1 kx n) kx a2 a3 a4 a5) else ((sp_ix (sp_tlen.getD o1 0) a5).bind fun j7 => if (sp_chr o1 j7) = 32 then (fX8_placeIn_j96 F M0 o1 (fX8_placeIn_l22 F M0 o1 kx n) kx a2 a3 a4 a5) else (if a4 = 0 then ((fX8_placeIn_l22 F M0 o1 kx n) a2 (a3 + 1) 0 (a5 + 1)) else ((fX8_byteAt M0 ((sp_I M0 94 3) + a3)).bind fun v10 => (sp_ix (sp_tlen.getD o1 0) a5).bind fun j11 => sp_do ((if v10 = (sp_chr o1 j11) then 1 else 0)) fun u13 => (fX8_placeIn_l22 F M0 o1 kx n) a2 (a3 + 1) u13 (a5 + 1))))) else (kx))
def fX8_placeIn_j17 (F : Nat) (M0 : sp_Mem) (o1 : Nat) (a2 : Int32) (a3 : Int32) (s0 : Int32) : Option Int32 :=
  fX8_placeIn_l22 F M0 o1 (some (-1)) F a2 a3 s0 0
def fX8_placeIn (F : Nat) (M0 : sp_Mem) (o1 : Nat) : Option Int32 :=
  fX8_placeIn_j17 F M0 o1 0 0 (if (sp_I M0 94 2) = 1 then 1 else 0)
set_option maxRecDepth 100000 in
set_option maxHeartbeats 4000000 in
theorem tX8_placeIn_j96 {g : sp_G} {Ω : sp_Mem → Prop} {Q : sp_Qt} {F : Nat} {M0 : sp_Mem} {p : Int32} (hG : sp_Ok Ω) {o1 : Nat} (ho1 : o1 < 10)  {kb : Int32 → Int32 → Int32 → Int32 → Option Int32} {kx : Option Int32} (hQ : Q (some (.int p)) M0) (hb : ∀ (a2 : Int32) (a3 : Int32) (a4 : Int32) (a5 : Int32), kb a2 a3 a4 a5 = some p → sp_Wp g Ω mX8_placeIn 0 0 22 [some (.ref 94), some (.ref (1000000 + o1)), some (.int a2), some (.int a3), some (.int a4), some (.int a5)] [] M0 Q) (hx : kx = some p → sp_Wp g Ω mX8_placeIn 0 0 130 [none, none, none, none, none, none] [] M0 Q) (a2 : Int32) (a3 : Int32) (a4 : Int32) (a5 : Int32) (h : fX8_placeIn_j96 F M0 o1 kb kx a2 a3 a4 a5 = some p) : sp_Wp g Ω mX8_placeIn 0 0 96 [some (.ref 94), some (.ref (1000000 + o1)), some (.int a2), some (.int a3), some (.int a4), some (.int a5)] [] M0 Q := by
  unfold fX8_placeIn_j96 at h
  refine sp_iload dX8_placeIn_96 rfl ?_
  refine sp_if_eq (tgt := 116) dX8_placeIn_98 (by decide) (fun hc5 => ?_) (fun hc5 => ?_)
  · have h := (if_pos hc5).symm.trans h
    refine sp_iinc (v := (a2 + 1)) [some (.ref 94), some (.ref (1000000 + o1)), some (.int (a2 + 1)), some (.int a3), some (.int a4), some (.int a5)] dX8_placeIn_116 rfl rfl (by decide) rfl ?_
    refine sp_iconst (v := 0) dX8_placeIn_119 (by decide) ?_
    refine sp_istore_n [some (.ref 94), some (.ref (1000000 + o1)), some (.int (a2 + 1)), some (.int 0), some (.int a4), some (.int a5)] dX8_placeIn_120 rfl (by decide) rfl ?_
    refine sp_iconst (v := 1) dX8_placeIn_121 (by decide) ?_
    refine sp_istore [some (.ref 94), some (.ref (1000000 + o1)), some (.int (a2 + 1)), some (.int 0), some (.int 1), some (.int a5)] dX8_placeIn_122 (by decide) rfl ?_
    refine sp_iinc (v := (a5 + 1)) [some (.ref 94), some (.ref (1000000 + o1)), some (.int (a2 + 1)), some (.int 0), some (.int 1), some (.int (a5 + 1))] dX8_placeIn_124 rfl rfl (by decide) rfl ?_
    refine sp_goto (tgt := 22) dX8_placeIn_127 (by decide) ?_
    refine sp_weak [true, true, true, true, true, true] [some (.ref 94), some (.ref (1000000 + o1)), some (.int (a2 + 1)), some (.int 0), some (.int 1), some (.int (a5 + 1))] rfl ?_
    exact hb _ _ _ _ h
  · have h := (if_neg hc5).symm.trans h
    refine sp_iload_n dX8_placeIn_101 rfl rfl ?_
    refine sp_aload_n dX8_placeIn_102 rfl rfl ?_
    refine sp_use (fun ho => ?_)
    have hs := hG.1 _ ho
    refine sp_getI (RX8, TX8, 5) dX8_placeIn_103 clX8 (j := 4) (by decide) tw_344 (wsI_94 hs) (Or.inl rfl) ?_
    refine sp_aload_n dX8_placeIn_106 rfl rfl ?_
    refine sp_getI (RX8, TX8, 5) dX8_placeIn_107 clX8 (j := 3) (by decide) tw_343 (wsI_94 hs) (Or.inl rfl) ?_
    refine sp_isub dX8_placeIn_110 ?_
    refine sp_icmp_ne (tgt := 116) dX8_placeIn_111 (by decide) (fun hc6 => ?_) (fun hc6 => ?_)
    · have h := (if_neg hc6).symm.trans h
      refine sp_iinc (v := (a2 + 1)) [some (.ref 94), some (.ref (1000000 + o1)), some (.int (a2 + 1)), some (.int a3), some (.int a4), some (.int a5)] dX8_placeIn_116 rfl rfl (by decide) rfl ?_
      refine sp_iconst (v := 0) dX8_placeIn_119 (by decide) ?_
      refine sp_istore_n [some (.ref 94), some (.ref (1000000 + o1)), some (.int (a2 + 1)), some (.int 0), some (.int a4), some (.int a5)] dX8_placeIn_120 rfl (by decide) rfl ?_
      refine sp_iconst (v := 1) dX8_placeIn_121 (by decide) ?_
      refine sp_istore [some (.ref 94), some (.ref (1000000 + o1)), some (.int (a2 + 1)), some (.int 0), some (.int 1), some (.int a5)] dX8_placeIn_122 (by decide) rfl ?_
      refine sp_iinc (v := (a5 + 1)) [some (.ref 94), some (.ref (1000000 + o1)), some (.int (a2 + 1)), some (.int 0), some (.int 1), some (.int (a5 + 1))] dX8_placeIn_124 rfl rfl (by decide) rfl ?_
      refine sp_goto (tgt := 22) dX8_placeIn_127 (by decide) ?_
      refine sp_weak [true, true, true, true, true, true] [some (.ref 94), some (.ref (1000000 + o1)), some (.int (a2 + 1)), some (.int 0), some (.int 1), some (.int (a5 + 1))] rfl ?_
      exact hb _ _ _ _ h
    · have h := (if_pos hc6).symm.trans h
      refine sp_iload_n dX8_placeIn_114 rfl rfl ?_
      cases h
      exact sp_iret dX8_placeIn_115 (ty := .int) rfl rfl (fun _ => hQ)
set_option maxRecDepth 100000 in
set_option maxHeartbeats 4000000 in
theorem tX8_placeIn_l22 {g : sp_G} {Ω : sp_Mem → Prop} {Q : sp_Qt} {F : Nat} {M0 : sp_Mem} {p : Int32} (hG : sp_Ok Ω) {o1 : Nat} (ho1 : o1 < 10)  {kx : Option Int32} (hQ : Q (some (.int p)) M0) (hx : kx = some p → sp_Wp g Ω mX8_placeIn 0 0 130 [none, none, none, none, none, none] [] M0 Q) : ∀ (n : Nat) (a2 : Int32) (a3 : Int32) (a4 : Int32) (a5 : Int32), fX8_placeIn_l22 F M0 o1 kx n a2 a3 a4 a5 = some p → sp_Wp g Ω mX8_placeIn 0 0 22 [some (.ref 94), some (.ref (1000000 + o1)), some (.int a2), some (.int a3), some (.int a4), some (.int a5)] [] M0 Q := by
  intro n
  induction n with
  | zero =>
    intro a2 a3 a4 a5 h
    rw [fX8_placeIn_l22] at h
    cases h
  | succ n ih =>
    intro a2 a3 a4 a5 h
    rw [fX8_placeIn_l22] at h
    refine sp_iload dX8_placeIn_22 rfl ?_
    refine sp_aload_n dX8_placeIn_24 rfl rfl ?_
    refine sp_use (fun ho => ?_)
    have hs := hG.1 _ ho
    refine sp_cVS (j := o1) (M1 := M0) (r := some (.int (sp_slen o1))) (st := [.int a5]) [] [.ref (1000000 + o1), .int a5] [.int (sp_slen o1), .int a5] dX8_placeIn_25 okJ0_length_8abf5 tw_669 tw_670 tw_671 (by decide) (by decide) rfl (Nat.le_of_ble_eq_true rfl) rfl rfl ho1 rfl (fun Q hQ => tStrLen ho1 hQ) ?_
    refine sp_icmp_gt (tgt := 130) dX8_placeIn_28 (by decide) (fun hc2 => ?_) (fun hc2 => ?_)
    · have h := (if_pos hc2).symm.trans h
      refine sp_weak [false, false, false, false, false, false] [none, none, none, none, none, none] rfl ?_
      exact hx h
    · have h := (if_neg hc2).symm.trans h
      refine sp_aload_n dX8_placeIn_31 rfl rfl ?_
      refine sp_getI (RX8, TX8, 5) dX8_placeIn_32 clX8 (j := 2) (by decide) tw_341 (wsI_94 hs) (Or.inl rfl) ?_
      refine sp_iconst (v := 1) dX8_placeIn_35 (by decide) ?_
      refine sp_icmp_ne (tgt := 130) dX8_placeIn_36 (by decide) (fun hc3 => ?_) (fun hc3 => ?_)
      · have h := (if_neg hc3).symm.trans h
        refine sp_weak [false, false, false, false, false, false] [none, none, none, none, none, none] rfl ?_
        exact hx h
      · have h := (if_pos hc3).symm.trans h
        refine sp_iload dX8_placeIn_39 rfl ?_
        refine sp_aload_n dX8_placeIn_41 rfl rfl ?_
        refine sp_cVS (j := o1) (M1 := M0) (r := some (.int (sp_slen o1))) (st := [.int a5]) [] [.ref (1000000 + o1), .int a5] [.int (sp_slen o1), .int a5] dX8_placeIn_42 okJ0_length_8abf5 tw_669 tw_670 tw_671 (by decide) (by decide) rfl (Nat.le_of_ble_eq_true rfl) rfl rfl ho1 rfl (fun Q hQ => tStrLen ho1 hQ) ?_
        refine sp_icmp_ge (tgt := 96) dX8_placeIn_45 (by decide) (fun hc4 => ?_) (fun hc4 => ?_)
        · have h := (if_pos hc4).symm.trans h
          refine sp_weak [true, true, true, true, true, true] [some (.ref 94), some (.ref (1000000 + o1)), some (.int a2), some (.int a3), some (.int a4), some (.int a5)] rfl ?_
          exact tX8_placeIn_j96 hG ho1 hQ ih hx _ _ _ _ h
        · have h := (if_neg hc4).symm.trans h
          refine sp_aload_n dX8_placeIn_48 rfl rfl ?_
          refine sp_iload dX8_placeIn_49 rfl ?_
          obtain ⟨j7, hj7, h⟩ := Option.bind_eq_some_iff.mp h
          refine sp_cVS (j := o1) (M1 := M0) (r := some (.int (sp_chr o1 j7))) (st := []) [.int a5] [.int a5, .ref (1000000 + o1)] [.int (sp_chr o1 j7)] dX8_placeIn_51 okJ0_charAt_5068e tw_679 tw_680 tw_681 (by decide) (by decide) rfl (Nat.le_of_ble_eq_true rfl) rfl rfl ho1 rfl (fun Q hQ => tStrAt ho1 hj7 hQ) ?_
          refine sp_bipush (v := 32) dX8_placeIn_54 (by decide) ?_
          refine sp_icmp_eq (tgt := 96) dX8_placeIn_56 (by decide) (fun hc8 => ?_) (fun hc8 => ?_)
          · have h := (if_pos hc8).symm.trans h
            refine sp_weak [true, true, true, true, true, true] [some (.ref 94), some (.ref (1000000 + o1)), some (.int a2), some (.int a3), some (.int a4), some (.int a5)] rfl ?_
            exact tX8_placeIn_j96 hG ho1 hQ ih hx _ _ _ _ h
          · have h := (if_neg hc8).symm.trans h
            refine sp_iload dX8_placeIn_59 rfl ?_
            refine sp_if_eq (tgt := 87) dX8_placeIn_61 (by decide) (fun hc9 => ?_) (fun hc9 => ?_)
            · have h := (if_pos hc9).symm.trans h
              refine sp_iconst (v := 0) dX8_placeIn_87 (by decide) ?_
              refine sp_istore [some (.ref 94), some (.ref (1000000 + o1)), some (.int a2), some (.int a3), some (.int 0), some (.int a5)] dX8_placeIn_88 (by decide) rfl ?_
              refine sp_iinc (v := (a3 + 1)) [some (.ref 94), some (.ref (1000000 + o1)), some (.int a2), some (.int (a3 + 1)), some (.int 0), some (.int a5)] dX8_placeIn_90 rfl rfl (by decide) rfl ?_
              refine sp_goto (tgt := 124) dX8_placeIn_93 (by decide) ?_
              refine sp_iinc (v := (a5 + 1)) [some (.ref 94), some (.ref (1000000 + o1)), some (.int a2), some (.int (a3 + 1)), some (.int 0), some (.int (a5 + 1))] dX8_placeIn_124 rfl rfl (by decide) rfl ?_
              refine sp_goto (tgt := 22) dX8_placeIn_127 (by decide) ?_
              refine sp_weak [true, true, true, true, true, true] [some (.ref 94), some (.ref (1000000 + o1)), some (.int a2), some (.int (a3 + 1)), some (.int 0), some (.int (a5 + 1))] rfl ?_
              exact ih _ _ _ _ h
            · have h := (if_neg hc9).symm.trans h
              refine sp_aload_n dX8_placeIn_64 rfl rfl ?_
              refine sp_aload_n dX8_placeIn_65 rfl rfl ?_
              refine sp_getI (RX8, TX8, 5) dX8_placeIn_66 clX8 (j := 3) (by decide) tw_343 (wsI_94 hs) (Or.inl rfl) ?_
              refine sp_iload_n dX8_placeIn_69 rfl rfl ?_
              refine sp_iadd dX8_placeIn_70 ?_
              obtain ⟨v10, hv10, h⟩ := Option.bind_eq_some_iff.mp h
              refine sp_cV (M1 := M0) (r := some (.int v10)) (o := 94) (st := []) (c := 7) (RX8, TX8, 5) [.int ((sp_I M0 94 3) + a3)] [.int ((sp_I M0 94 3) + a3), .ref 94] [.int v10] dX8_placeIn_71 okX8_byteAt tw_655 tw_628 tw_629 (by decide) (by decide) rfl (Nat.le_of_ble_eq_true rfl) rfl rfl rfl rfl (wsI_94 hs) (fun Q hQ => tX8_byteAt hG hv10 hQ) ?_
              refine sp_aload_n dX8_placeIn_74 rfl rfl ?_
              refine sp_iload dX8_placeIn_75 rfl ?_
              obtain ⟨j11, hj11, h⟩ := Option.bind_eq_some_iff.mp h
              refine sp_cVS (j := o1) (M1 := M0) (r := some (.int (sp_chr o1 j11))) (st := [.int v10]) [.int a5] [.int a5, .ref (1000000 + o1), .int v10] [.int (sp_chr o1 j11), .int v10] dX8_placeIn_77 okJ0_charAt_5068e tw_679 tw_680 tw_681 (by decide) (by decide) rfl (Nat.le_of_ble_eq_true rfl) rfl rfl ho1 rfl (fun Q hQ => tStrAt ho1 hj11 hQ) ?_
              suffices hj : sp_Wp g Ω mX8_placeIn 0 0 88 [some (.ref 94), some (.ref (1000000 + o1)), some (.int a2), some (.int a3), none, some (.int a5)] [.int (if v10 = (sp_chr o1 j11) then 1 else 0)] M0 Q by
                refine sp_icmp_ne (tgt := 87) dX8_placeIn_80 (by decide) (fun hc12 => ?_) (fun hc12 => ?_)
                · refine sp_iconst (v := 0) dX8_placeIn_87 (by decide) ?_
                  refine sp_weak [true, true, true, true, false, true] [some (.ref 94), some (.ref (1000000 + o1)), some (.int a2), some (.int a3), none, some (.int a5)] rfl ?_
                  simp only [if_neg hc12] at hj
                  exact hj
                · refine sp_iconst (v := 1) dX8_placeIn_83 (by decide) ?_
                  refine sp_goto (tgt := 88) dX8_placeIn_84 (by decide) ?_
                  refine sp_weak [true, true, true, true, false, true] [some (.ref 94), some (.ref (1000000 + o1)), some (.int a2), some (.int a3), none, some (.int a5)] rfl ?_
                  simp only [if_pos hc12] at hj
                  exact hj
              obtain ⟨u13, hu13, h⟩ := sp_do_e h
              refine sp_topi hu13 ?_
              refine sp_istore [some (.ref 94), some (.ref (1000000 + o1)), some (.int a2), some (.int a3), some (.int u13), some (.int a5)] dX8_placeIn_88 (by decide) rfl ?_
              refine sp_iinc (v := (a3 + 1)) [some (.ref 94), some (.ref (1000000 + o1)), some (.int a2), some (.int (a3 + 1)), some (.int u13), some (.int a5)] dX8_placeIn_90 rfl rfl (by decide) rfl ?_
              refine sp_goto (tgt := 124) dX8_placeIn_93 (by decide) ?_
              refine sp_iinc (v := (a5 + 1)) [some (.ref 94), some (.ref (1000000 + o1)), some (.int a2), some (.int (a3 + 1)), some (.int u13), some (.int (a5 + 1))] dX8_placeIn_124 rfl rfl (by decide) rfl ?_
              refine sp_goto (tgt := 22) dX8_placeIn_127 (by decide) ?_
              refine sp_weak [true, true, true, true, true, true] [some (.ref 94), some (.ref (1000000 + o1)), some (.int a2), some (.int (a3 + 1)), some (.int u13), some (.int (a5 + 1))] rfl ?_
              exact ih _ _ _ _ h
set_option maxRecDepth 100000 in
set_option maxHeartbeats 4000000 in
theorem tX8_placeIn_j17 {g : sp_G} {Ω : sp_Mem → Prop} {Q : sp_Qt} {F : Nat} {M0 : sp_Mem} {p : Int32} (hG : sp_Ok Ω) {o1 : Nat} (ho1 : o1 < 10)  (hQ : Q (some (.int p)) M0) (a2 : Int32) (a3 : Int32) (s0 : Int32) (h : fX8_placeIn_j17 F M0 o1 a2 a3 s0 = some p) : sp_Wp g Ω mX8_placeIn 0 0 17 [some (.ref 94), some (.ref (1000000 + o1)), some (.int a2), some (.int a3), none, none] [.int s0] M0 Q := by
  unfold fX8_placeIn_j17 at h
  refine sp_istore [some (.ref 94), some (.ref (1000000 + o1)), some (.int a2), some (.int a3), some (.int s0), none] dX8_placeIn_17 (by decide) rfl ?_
  refine sp_iconst (v := 0) dX8_placeIn_19 (by decide) ?_
  refine sp_istore [some (.ref 94), some (.ref (1000000 + o1)), some (.int a2), some (.int a3), some (.int s0), some (.int 0)] dX8_placeIn_20 (by decide) rfl ?_
  refine sp_weak [true, true, true, true, true, true] [some (.ref 94), some (.ref (1000000 + o1)), some (.int a2), some (.int a3), some (.int s0), some (.int 0)] rfl ?_
  refine tX8_placeIn_l22 hG ho1 hQ (fun h => ?_) F _ _ _ _ h
  refine sp_iconst (v := (-1)) dX8_placeIn_130 (by decide) ?_
  cases h
  exact sp_iret dX8_placeIn_131 (ty := .int) rfl rfl (fun _ => hQ)
set_option maxRecDepth 100000 in
set_option maxHeartbeats 4000000 in
theorem tX8_placeIn {g : sp_G} {Ω : sp_Mem → Prop} {Q : sp_Qt} {F : Nat} {M0 : sp_Mem} {p : Int32} (hG : sp_Ok Ω) {o1 : Nat} (ho1 : o1 < 10) (h : fX8_placeIn F M0 o1 = some p) (hQ : Q (some (.int p)) M0) : sp_Mt g Ω mX8_placeIn 0 0 [.ref 94, .ref (1000000 + o1)] M0 Q := by
  unfold fX8_placeIn at h
  refine sp_Mt.of [some (.ref 94), some (.ref (1000000 + o1)), none, none, none, none] (by decide) (by simp [sp_ent, Value.category]) rfl ?_
  refine sp_iconst (v := 0) dX8_placeIn_0 (by decide) ?_
  refine sp_istore_n [some (.ref 94), some (.ref (1000000 + o1)), some (.int 0), none, none, none] dX8_placeIn_1 rfl (by decide) rfl ?_
  refine sp_iconst (v := 0) dX8_placeIn_2 (by decide) ?_
  refine sp_istore_n [some (.ref 94), some (.ref (1000000 + o1)), some (.int 0), some (.int 0), none, none] dX8_placeIn_3 rfl (by decide) rfl ?_
  refine sp_aload_n dX8_placeIn_4 rfl rfl ?_
  refine sp_use (fun ho => ?_)
  have hs := hG.1 _ ho
  refine sp_getI (RX8, TX8, 5) dX8_placeIn_5 clX8 (j := 2) (by decide) tw_341 (wsI_94 hs) (Or.inl rfl) ?_
  refine sp_iconst (v := 1) dX8_placeIn_8 (by decide) ?_
  suffices hj : sp_Wp g Ω mX8_placeIn 0 0 17 [some (.ref 94), some (.ref (1000000 + o1)), some (.int 0), some (.int 0), none, none] [.int (if (sp_I M0 94 2) = 1 then 1 else 0)] M0 Q by
    refine sp_icmp_ne (tgt := 16) dX8_placeIn_9 (by decide) (fun hc1 => ?_) (fun hc1 => ?_)
    · refine sp_iconst (v := 0) dX8_placeIn_16 (by decide) ?_
      simp only [if_neg hc1] at hj
      exact hj
    · refine sp_iconst (v := 1) dX8_placeIn_12 (by decide) ?_
      refine sp_goto (tgt := 17) dX8_placeIn_13 (by decide) ?_
      simp only [if_pos hc1] at hj
      exact hj
  refine sp_weak [true, true, true, true, false, false] [some (.ref 94), some (.ref (1000000 + o1)), some (.int 0), some (.int 0), none, none] rfl ?_
  exact tX8_placeIn_j17 hG ho1 hQ _ _ _ h
def fX9_addClause (M : sp_Mem) (o0 : Nat) (a1 : Int32) : Option sp_Mem :=
  sp_do (((sp_I M o0 2) * 5)) fun u1 => if (Int32.ofNat (sp_N M (o0 + 1))) < (u1 + 5) then (some M) else ((sp_ix (sp_N M (o0 + 1)) (u1 + 0)).bind fun j3 => sp_do (sp_setI M (o0 + 1) j3 a1) fun M4 => (sp_ix (sp_N M4 (o0 + 1)) (u1 + 1)).bind fun j5 => sp_do (sp_setI M4 (o0 + 1) j5 (-1)) fun M6 => (sp_ix (sp_N M6 (o0 + 1)) (u1 + 2)).bind fun j7 => sp_do (sp_setI M6 (o0 + 1) j7 (-1)) fun M8 => (sp_ix (sp_N M8 (o0 + 1)) (u1 + 3)).bind fun j9 => sp_do (sp_setI M8 (o0 + 1) j9 1) fun M10 => (sp_ix (sp_N M10 (o0 + 1)) (u1 + 4)).bind fun j11 => sp_do (sp_setI M10 (o0 + 1) j11 (-1)) fun M12 => sp_do (sp_setI M12 o0 2 ((sp_I M12 o0 2) + 1)) fun M13 => some M13)
set_option maxRecDepth 100000 in
set_option maxHeartbeats 4000000 in
theorem tX9_addClause {g : sp_G} {Ω : sp_Mem → Prop} {Q : sp_Qt} {p : sp_Mem} (hG : sp_Ok Ω) {o0 : Nat} (ho0 : ∀ M, Ω M → sp_text M o0) {M : sp_Mem} {a1 : Int32} (h : fX9_addClause M o0 a1 = some p) (hQ : Q none p) : sp_Mt g Ω mX9_addClause 0 0 [.ref o0, .int a1] M Q := by
  unfold fX9_addClause at h
  refine sp_Mt.of [some (.ref o0), some (.int a1), none] (by decide) (by simp [sp_ent, Value.category]) rfl ?_
  refine sp_aload_n dX9_addClause_0 rfl rfl ?_
  refine sp_use (fun ho => ?_)
  have hs := hG.1 _ ho
  refine sp_getI (RX9, TX9, 4) dX9_addClause_1 clX9 (j := 2) (by decide) tw_371 (ho0 _ ho).1 (Or.inl rfl) ?_
  refine sp_iconst (v := 5) dX9_addClause_4 (by decide) ?_
  refine sp_imul dX9_addClause_5 ?_
  obtain ⟨u1, hu1, h⟩ := sp_do_e h
  refine sp_topi hu1 ?_
  refine sp_istore_n [some (.ref o0), some (.int a1), some (.int u1)] dX9_addClause_6 rfl (by decide) rfl ?_
  refine sp_iload_n dX9_addClause_7 rfl rfl ?_
  refine sp_iconst (v := 5) dX9_addClause_8 (by decide) ?_
  refine sp_iadd dX9_addClause_9 ?_
  refine sp_aload_n dX9_addClause_10 rfl rfl ?_
  refine sp_getR (RX9, TX9, 4) dX9_addClause_11 clX9 (j := 0) (by decide) tw_368 (ho0 _ ho).1 (Or.inr ⟨_, rfl⟩) (ho0 _ ho).2.1 ?_
  refine sp_alen 0 (by decide) dX9_addClause_14 (ho0 _ ho).2.2.2.1 rfl ?_
  refine sp_icmp_gt (tgt := 73) dX9_addClause_15 (by decide) (fun hc2 => ?_) (fun hc2 => ?_)
  · have h := (if_pos hc2).symm.trans h
    cases h
    exact sp_vret dX9_addClause_73 rfl (fun _ => hQ)
  · have h := (if_neg hc2).symm.trans h
    refine sp_aload_n dX9_addClause_18 rfl rfl ?_
    refine sp_getR (RX9, TX9, 4) dX9_addClause_19 clX9 (j := 0) (by decide) tw_368 (ho0 _ ho).1 (Or.inr ⟨_, rfl⟩) (ho0 _ ho).2.1 ?_
    refine sp_iload_n dX9_addClause_22 rfl rfl ?_
    refine sp_iconst (v := 0) dX9_addClause_23 (by decide) ?_
    refine sp_iadd dX9_addClause_24 ?_
    refine sp_iload_n dX9_addClause_25 rfl rfl ?_
    obtain ⟨j3, hj3, h⟩ := Option.bind_eq_some_iff.mp h
    obtain ⟨M4, hM4, h⟩ := sp_do_e h
    refine sp_iast2 (j := j3) hG dX9_addClause_26 (ho0 _ ho).2.2.2.1 rfl hj3 hM4 ?_
    refine sp_aload_n dX9_addClause_27 rfl rfl ?_
    refine sp_use (fun ho => ?_)
    have hs := hG.1 _ ho
    refine sp_getR (RX9, TX9, 4) dX9_addClause_28 clX9 (j := 0) (by decide) tw_368 (ho0 _ ho).1 (Or.inr ⟨_, rfl⟩) (ho0 _ ho).2.1 ?_
    refine sp_iload_n dX9_addClause_31 rfl rfl ?_
    refine sp_iconst (v := 1) dX9_addClause_32 (by decide) ?_
    refine sp_iadd dX9_addClause_33 ?_
    refine sp_iconst (v := (-1)) dX9_addClause_34 (by decide) ?_
    obtain ⟨j5, hj5, h⟩ := Option.bind_eq_some_iff.mp h
    obtain ⟨M6, hM6, h⟩ := sp_do_e h
    refine sp_iast2 (j := j5) hG dX9_addClause_35 (ho0 _ ho).2.2.2.1 rfl hj5 hM6 ?_
    refine sp_aload_n dX9_addClause_36 rfl rfl ?_
    refine sp_use (fun ho => ?_)
    have hs := hG.1 _ ho
    refine sp_getR (RX9, TX9, 4) dX9_addClause_37 clX9 (j := 0) (by decide) tw_368 (ho0 _ ho).1 (Or.inr ⟨_, rfl⟩) (ho0 _ ho).2.1 ?_
    refine sp_iload_n dX9_addClause_40 rfl rfl ?_
    refine sp_iconst (v := 2) dX9_addClause_41 (by decide) ?_
    refine sp_iadd dX9_addClause_42 ?_
    refine sp_iconst (v := (-1)) dX9_addClause_43 (by decide) ?_
    obtain ⟨j7, hj7, h⟩ := Option.bind_eq_some_iff.mp h
    obtain ⟨M8, hM8, h⟩ := sp_do_e h
    refine sp_iast2 (j := j7) hG dX9_addClause_44 (ho0 _ ho).2.2.2.1 rfl hj7 hM8 ?_
    refine sp_aload_n dX9_addClause_45 rfl rfl ?_
    refine sp_use (fun ho => ?_)
    have hs := hG.1 _ ho
    refine sp_getR (RX9, TX9, 4) dX9_addClause_46 clX9 (j := 0) (by decide) tw_368 (ho0 _ ho).1 (Or.inr ⟨_, rfl⟩) (ho0 _ ho).2.1 ?_
    refine sp_iload_n dX9_addClause_49 rfl rfl ?_
    refine sp_iconst (v := 3) dX9_addClause_50 (by decide) ?_
    refine sp_iadd dX9_addClause_51 ?_
    refine sp_iconst (v := 1) dX9_addClause_52 (by decide) ?_
    obtain ⟨j9, hj9, h⟩ := Option.bind_eq_some_iff.mp h
    obtain ⟨M10, hM10, h⟩ := sp_do_e h
    refine sp_iast2 (j := j9) hG dX9_addClause_53 (ho0 _ ho).2.2.2.1 rfl hj9 hM10 ?_
    refine sp_aload_n dX9_addClause_54 rfl rfl ?_
    refine sp_use (fun ho => ?_)
    have hs := hG.1 _ ho
    refine sp_getR (RX9, TX9, 4) dX9_addClause_55 clX9 (j := 0) (by decide) tw_368 (ho0 _ ho).1 (Or.inr ⟨_, rfl⟩) (ho0 _ ho).2.1 ?_
    refine sp_iload_n dX9_addClause_58 rfl rfl ?_
    refine sp_iconst (v := 4) dX9_addClause_59 (by decide) ?_
    refine sp_iadd dX9_addClause_60 ?_
    refine sp_iconst (v := (-1)) dX9_addClause_61 (by decide) ?_
    obtain ⟨j11, hj11, h⟩ := Option.bind_eq_some_iff.mp h
    obtain ⟨M12, hM12, h⟩ := sp_do_e h
    refine sp_iast2 (j := j11) hG dX9_addClause_62 (ho0 _ ho).2.2.2.1 rfl hj11 hM12 ?_
    refine sp_aload_n dX9_addClause_63 rfl rfl ?_
    refine sp_dup dX9_addClause_64 rfl ?_
    refine sp_use (fun ho => ?_)
    have hs := hG.1 _ ho
    refine sp_getI (RX9, TX9, 4) dX9_addClause_65 clX9 (j := 2) (by decide) tw_371 (ho0 _ ho).1 (Or.inl rfl) ?_
    refine sp_iconst (v := 1) dX9_addClause_68 (by decide) ?_
    refine sp_iadd dX9_addClause_69 ?_
    obtain ⟨M13, hM13, h⟩ := sp_do_e h
    refine sp_putI2 (RX9, TX9, 4) hG dX9_addClause_70 clX9 (j := 2) (by decide) tw_371 rfl (Or.inl rfl) (ho0 _ ho).1 hM13 ?_
    cases h
    exact sp_vret dX9_addClause_73 rfl (fun _ => hQ)
