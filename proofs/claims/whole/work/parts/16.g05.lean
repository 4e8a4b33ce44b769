def fX11_cellOf (M0 : sp_Mem) (a1 : Int32) (a2 : Int32) : Option Int32 :=
  if a2 = 5 then ((sp_ix 5480 (9 + a1)).bind fun j3 => some (sp_I M0 105 j3)) else ((sp_ix 5480 (21 + a2)).bind fun j2 => some (sp_I M0 105 j2))
set_option maxRecDepth 100000 in
set_option maxHeartbeats 4000000 in
theorem tX11_cellOf {g : sp_G} {Ω : sp_Mem → Prop} {Q : sp_Qt} {M0 : sp_Mem} {p : Int32} (hG : sp_Ok Ω) {a1 : Int32} {a2 : Int32} (h : fX11_cellOf M0 a1 a2 = some p) (hQ : Q (some (.int p)) M0) : sp_Mt g Ω mX11_cellOf 0 0 [.ref 103, .int a1, .int a2] M0 Q := by
  unfold fX11_cellOf at h
  refine sp_Mt.of [some (.ref 103), some (.int a1), some (.int a2)] (by decide) (by simp [sp_ent, Value.category]) rfl ?_
  refine sp_iload_n dX11_cellOf_0 rfl rfl ?_
  refine sp_iconst (v := 5) dX11_cellOf_1 (by decide) ?_
  refine sp_icmp_ne (tgt := 17) dX11_cellOf_2 (by decide) (fun hc1 => ?_) (fun hc1 => ?_)
  · have h := (if_neg hc1).symm.trans h
    refine sp_aload_n dX11_cellOf_17 rfl rfl ?_
    refine sp_use (fun ho => ?_)
    have hs := hG.1 _ ho
    refine sp_getR (RX11, TX11, 56) dX11_cellOf_18 clX11 (j := 3) (by decide) tw_1218 (wsI_103 hs) (Or.inr ⟨_, rfl⟩) (wsP_103_3 hs) ?_
    refine sp_bipush (v := 21) dX11_cellOf_21 (by decide) ?_
    refine sp_iload_n dX11_cellOf_23 rfl rfl ?_
    refine sp_iadd dX11_cellOf_24 ?_
    obtain ⟨j2, hj2, h⟩ := Option.bind_eq_some_iff.mp h
    refine sp_iald2 (j := j2) dX11_cellOf_25 (wsA_105 hs) (wsN_105 hs) hj2 ?_
    cases h
    exact sp_iret dX11_cellOf_26 (ty := .int) rfl rfl (fun _ => hQ)
  · have h := (if_pos hc1).symm.trans h
    refine sp_aload_n dX11_cellOf_5 rfl rfl ?_
    refine sp_use (fun ho => ?_)
    have hs := hG.1 _ ho
    refine sp_getR (RX11, TX11, 56) dX11_cellOf_6 clX11 (j := 3) (by decide) tw_1218 (wsI_103 hs) (Or.inr ⟨_, rfl⟩) (wsP_103_3 hs) ?_
    refine sp_bipush (v := 9) dX11_cellOf_9 (by decide) ?_
    refine sp_iload_n dX11_cellOf_11 rfl rfl ?_
    refine sp_iadd dX11_cellOf_12 ?_
    obtain ⟨j3, hj3, h⟩ := Option.bind_eq_some_iff.mp h
    refine sp_iald2 (j := j3) dX11_cellOf_13 (wsA_105 hs) (wsN_105 hs) hj3 ?_
    refine sp_goto (tgt := 26) dX11_cellOf_14 (by decide) ?_
    cases h
    exact sp_iret dX11_cellOf_26 (ty := .int) rfl rfl (fun _ => hQ)
def fX11_leftBy (M0 : sp_Mem) (a1 : Int32) : Option Int32 :=
  (sp_ix 5480 (21 + a1)).bind fun j1 => if (sp_I M0 105 j1) = (sp_I M0 105 8) then (some 1) else ((sp_ix 6 a1).bind fun j3 => some ((sp_I M0 126 j3) + 1))
set_option maxRecDepth 100000 in
set_option maxHeartbeats 4000000 in
theorem tX11_leftBy {g : sp_G} {Ω : sp_Mem → Prop} {Q : sp_Qt} {M0 : sp_Mem} {p : Int32} (hG : sp_Ok Ω) {a1 : Int32} (h : fX11_leftBy M0 a1 = some p) (hQ : Q (some (.int p)) M0) : sp_Mt g Ω mX11_leftBy 0 0 [.ref 103, .int a1] M0 Q := by
  unfold fX11_leftBy at h
  refine sp_Mt.of [some (.ref 103), some (.int a1)] (by decide) (by simp [sp_ent, Value.category]) rfl ?_
  refine sp_aload_n dX11_leftBy_0 rfl rfl ?_
  refine sp_use (fun ho => ?_)
  have hs := hG.1 _ ho
  refine sp_getR (RX11, TX11, 56) dX11_leftBy_1 clX11 (j := 3) (by decide) tw_1218 (wsI_103 hs) (Or.inr ⟨_, rfl⟩) (wsP_103_3 hs) ?_
  refine sp_bipush (v := 21) dX11_leftBy_4 (by decide) ?_
  refine sp_iload_n dX11_leftBy_6 rfl rfl ?_
  refine sp_iadd dX11_leftBy_7 ?_
  obtain ⟨j1, hj1, h⟩ := Option.bind_eq_some_iff.mp h
  refine sp_iald2 (j := j1) dX11_leftBy_8 (wsA_105 hs) (wsN_105 hs) hj1 ?_
  refine sp_aload_n dX11_leftBy_9 rfl rfl ?_
  refine sp_getR (RX11, TX11, 56) dX11_leftBy_10 clX11 (j := 3) (by decide) tw_1218 (wsI_103 hs) (Or.inr ⟨_, rfl⟩) (wsP_103_3 hs) ?_
  refine sp_bipush (v := 8) dX11_leftBy_13 (by decide) ?_
  refine sp_iald2 (j := 8) dX11_leftBy_15 (wsA_105 hs) (wsN_105 hs) rfl ?_
  refine sp_icmp_ne (tgt := 23) dX11_leftBy_16 (by decide) (fun hc2 => ?_) (fun hc2 => ?_)
  · have h := (if_neg hc2).symm.trans h
    refine sp_aload_n dX11_leftBy_23 rfl rfl ?_
    refine sp_getR (RX11, TX11, 56) dX11_leftBy_24 clX11 (j := 43) (by decide) tw_1258 (wsI_103 hs) (Or.inr ⟨_, rfl⟩) (wsP_103_43 hs) ?_
    refine sp_iload_n dX11_leftBy_27 rfl rfl ?_
    obtain ⟨j3, hj3, h⟩ := Option.bind_eq_some_iff.mp h
    refine sp_iald2 (j := j3) dX11_leftBy_28 (wsA_126 hs) (wsN_126 hs) hj3 ?_
    refine sp_iconst (v := 1) dX11_leftBy_29 (by decide) ?_
    refine sp_iadd dX11_leftBy_30 ?_
    cases h
    exact sp_iret dX11_leftBy_31 (ty := .int) rfl rfl (fun _ => hQ)
  · have h := (if_pos hc2).symm.trans h
    refine sp_iconst (v := 1) dX11_leftBy_19 (by decide) ?_
    refine sp_goto (tgt := 31) dX11_leftBy_20 (by decide) ?_
    cases h
    exact sp_iret dX11_leftBy_31 (ty := .int) rfl rfl (fun _ => hQ)
def fX11_layChain_l2 (F : Nat) (kx : Int32 → sp_Mem → Option sp_Mem) : Nat → Int32 → Int32 → sp_Mem → Option sp_Mem
  | 0, _, _, _ => none
  | n + 1, a1, a2, M =>
  if 6 ≤ a2 then (kx a1 M) else ((sp_ix 6 a2).bind fun j2 => sp_do (sp_setI M 126 j2 100000000) fun M3 => (fX11_layChain_l2 F kx n) a1 (a2 + 1) M3)
def fX11_layChain_j68 (F : Nat) (kb : Int32 → Int32 → Int32 → Int32 → sp_Mem → Option sp_Mem) (kx : Int32 → Int32 → Int32 → sp_Mem → Option sp_Mem) (a1 : Int32) (a2 : Int32) (a3 : Int32) (a4 : Int32) (M : sp_Mem) : Option sp_Mem :=
  (fX11_cellOf M a1 a3).bind fun v10 => (fX11_comes F M a1 a4 v10).bind fun x11 => if x11.1 = 0 then (kb a1 a2 a3 (a4 + 1) x11.2) else ((fX11_leftBy x11.2 a4).bind fun v13 => (sp_ix 6 a3).bind fun j14 => if (sp_I x11.2 126 j14) ≤ v13 then (kb a1 a2 a3 (a4 + 1) x11.2) else ((fX11_leftBy x11.2 a4).bind fun v16 => (sp_ix 6 a3).bind fun j17 => sp_do (sp_setI x11.2 126 j17 v16) fun M18 => kb a1 a2 a3 (a4 + 1) M18))
def fX11_layChain_l42 (F : Nat) (kx : Int32 → Int32 → Int32 → sp_Mem → Option sp_Mem) : Nat → Int32 → Int32 → Int32 → Int32 → sp_Mem → Option sp_Mem
  | 0, _, _, _, _, _ => none
  | n + 1, a1, a2, a3, a4, M =>
  if (sp_I M 105 1) ≤ a4 then (kx a1 a2 a3 M) else (if a3 < (sp_I M 105 1) then (fX11_layChain_j68 F (fX11_layChain_l42 F kx n) kx a1 a2 a3 a4 M) else (if a3 = 5 then (fX11_layChain_j68 F (fX11_layChain_l42 F kx n) kx a1 a2 a3 a4 M) else (kx a1 a2 a3 M)))
def fX11_layChain_l33 (F : Nat) (kx : Int32 → Int32 → sp_Mem → Option sp_Mem) : Nat → Int32 → Int32 → Int32 → sp_Mem → Option sp_Mem
  | 0, _, _, _, _ => none
  | n + 1, a1, a2, a3, M =>
  if 6 ≤ a3 then (kx a1 a2 M) else (fX11_layChain_l42 F (fun b21 b22 b23 M20 => (fX11_layChain_l33 F kx n) b21 b22 (b23 + 1) M20) F a1 a2 a3 0 M)
def fX11_layChain_l25 (F : Nat) (kx : sp_Mem → Option sp_Mem) : Nat → Int32 → Int32 → sp_Mem → Option sp_Mem
  | 0, _, _, _ => none
  | n + 1, a1, a2, M =>
  if 6 ≤ a2 then (kx M) else (fX11_layChain_l33 F (fun b25 b26 M24 => (fX11_layChain_l25 F kx n) b25 (b26 + 1) M24) F a1 a2 0 M)
def fX11_layChain (F : Nat) (M : sp_Mem) (a1 : Int32) : Option sp_Mem :=
  fX11_layChain_l2 F (fun b5 M4 => fX11_layChain_l25 F (fun M27 => some M27) F b5 0 M4) F a1 0 M
set_option maxRecDepth 100000 in
set_option maxHeartbeats 4000000 in
theorem tX11_layChain_l2 {g : sp_G} {Ω : sp_Mem → Prop} {Q : sp_Qt} {F : Nat} {p : sp_Mem} (hG : sp_Ok Ω)  {kx : Int32 → sp_Mem → Option sp_Mem} (hQ : Q none p) (hx : ∀ (a1 : Int32) (M : sp_Mem), kx a1 M = some p → sp_Wp g Ω mX11_layChain 0 0 23 [some (.ref 103), some (.int a1), none, none, none] [] M Q) : ∀ (n : Nat) (a1 : Int32) (a2 : Int32) (M : sp_Mem), fX11_layChain_l2 F kx n a1 a2 M = some p → sp_Wp g Ω mX11_layChain 0 0 2 [some (.ref 103), some (.int a1), some (.int a2), none, none] [] M Q := by
  intro n
  induction n with
  | zero =>
    intro a1 a2 M h
    rw [fX11_layChain_l2] at h
    cases h
  | succ n ih =>
    intro a1 a2 M h
    rw [fX11_layChain_l2] at h
    refine sp_iload_n dX11_layChain_2 rfl rfl ?_
    refine sp_bipush (v := 6) dX11_layChain_3 (by decide) ?_
    refine sp_icmp_ge (tgt := 23) dX11_layChain_5 (by decide) (fun hc1 => ?_) (fun hc1 => ?_)
    · have h := (if_pos hc1).symm.trans h
      refine sp_weak [true, true, false, false, false] [some (.ref 103), some (.int a1), none, none, none] rfl ?_
      exact hx _ _ h
    · have h := (if_neg hc1).symm.trans h
      refine sp_aload_n dX11_layChain_8 rfl rfl ?_
      refine sp_use (fun ho => ?_)
      have hs := hG.1 _ ho
      refine sp_getR (RX11, TX11, 56) dX11_layChain_9 clX11 (j := 43) (by decide) tw_1258 (wsI_103 hs) (Or.inr ⟨_, rfl⟩) (wsP_103_43 hs) ?_
      refine sp_iload_n dX11_layChain_12 rfl rfl ?_
      refine sp_ldcw (v := 100000000) dX11_layChain_13 tw_1760 ?_
      obtain ⟨j2, hj2, h⟩ := Option.bind_eq_some_iff.mp h
      obtain ⟨M3, hM3, h⟩ := sp_do_e h
      refine sp_iast2 (j := j2) hG dX11_layChain_16 (wsA_126 hs) (wsN_126 hs) hj2 hM3 ?_
      refine sp_iinc (v := (a2 + 1)) [some (.ref 103), some (.int a1), some (.int (a2 + 1)), none, none] dX11_layChain_17 rfl rfl (by decide) rfl ?_
      refine sp_goto (tgt := 2) dX11_layChain_20 (by decide) ?_
      refine sp_weak [true, true, true, false, false] [some (.ref 103), some (.int a1), some (.int (a2 + 1)), none, none] rfl ?_
      exact ih _ _ _ h
set_option maxRecDepth 100000 in
set_option maxHeartbeats 4000000 in
theorem tX11_layChain_j68 {g : sp_G} {Ω : sp_Mem → Prop} {Q : sp_Qt} {F : Nat} {p : sp_Mem} (hG : sp_Ok Ω)  {kb : Int32 → Int32 → Int32 → Int32 → sp_Mem → Option sp_Mem} {kx : Int32 → Int32 → Int32 → sp_Mem → Option sp_Mem} (hQ : Q none p) (hb : ∀ (a1 : Int32) (a2 : Int32) (a3 : Int32) (a4 : Int32) (M : sp_Mem), kb a1 a2 a3 a4 M = some p → sp_Wp g Ω mX11_layChain 0 0 42 [some (.ref 103), some (.int a1), some (.int a2), some (.int a3), some (.int a4)] [] M Q) (hx : ∀ (a1 : Int32) (a2 : Int32) (a3 : Int32) (M : sp_Mem), kx a1 a2 a3 M = some p → sp_Wp g Ω mX11_layChain 0 0 117 [some (.ref 103), some (.int a1), some (.int a2), some (.int a3), none] [] M Q) (a1 : Int32) (a2 : Int32) (a3 : Int32) (a4 : Int32) (M : sp_Mem) (h : fX11_layChain_j68 F kb kx a1 a2 a3 a4 M = some p) : sp_Wp g Ω mX11_layChain 0 0 68 [some (.ref 103), some (.int a1), some (.int a2), some (.int a3), some (.int a4)] [] M Q := by
  unfold fX11_layChain_j68 at h
  refine sp_aload_n dX11_layChain_68 rfl rfl ?_
  refine sp_iload_n dX11_layChain_69 rfl rfl ?_
  refine sp_iload dX11_layChain_70 rfl ?_
  refine sp_aload_n dX11_layChain_72 rfl rfl ?_
  refine sp_iload_n dX11_layChain_73 rfl rfl ?_
  refine sp_iload_n dX11_layChain_74 rfl rfl ?_
  refine sp_use (fun ho => ?_)
  have hs := hG.1 _ ho
  obtain ⟨v10, hv10, h⟩ := Option.bind_eq_some_iff.mp h
  refine sp_cV (M1 := M) (r := some (.int v10)) (o := 103) (st := [.int a4, .int a1, .ref 103]) (c := 10) (RX11, TX11, 56) [.int a1, .int a3] [.int a3, .int a1, .ref 103, .int a4, .int a1, .ref 103] [.int v10, .int a4, .int a1, .ref 103] dX11_layChain_75 okX11_cellOf tw_1761 tw_1763 tw_82 (by decide) (by decide) rfl (Nat.le_of_ble_eq_true rfl) rfl rfl rfl rfl (wsI_103 hs) (fun Q hQ => tX11_cellOf hG hv10 hQ) ?_
  obtain ⟨x11, hx11, h⟩ := Option.bind_eq_some_iff.mp h
  refine sp_cV (M1 := x11.2) (r := some (.int x11.1)) (o := 103) (st := []) (c := 10) (RX11, TX11, 56) [.int a1, .int a4, .int v10] [.int v10, .int a4, .int a1, .ref 103] [.int x11.1] dX11_layChain_78 okX11_comes tw_1503 tw_1505 tw_42 (by decide) (by decide) rfl (Nat.le_of_ble_eq_true rfl) rfl rfl rfl rfl (wsI_103 hs) (fun Q hQ => tX11_comes hG hx11 hQ) ?_
  refine sp_if_eq (tgt := 111) dX11_layChain_81 (by decide) (fun hc12 => ?_) (fun hc12 => ?_)
  · have h := (if_pos hc12).symm.trans h
    refine sp_iinc (v := (a4 + 1)) [some (.ref 103), some (.int a1), some (.int a2), some (.int a3), some (.int (a4 + 1))] dX11_layChain_111 rfl rfl (by decide) rfl ?_
    refine sp_goto (tgt := 42) dX11_layChain_114 (by decide) ?_
    refine sp_weak [true, true, true, true, true] [some (.ref 103), some (.int a1), some (.int a2), some (.int a3), some (.int (a4 + 1))] rfl ?_
    exact hb _ _ _ _ _ h
  · have h := (if_neg hc12).symm.trans h
    refine sp_aload_n dX11_layChain_84 rfl rfl ?_
    refine sp_iload dX11_layChain_85 rfl ?_
    refine sp_use (fun ho => ?_)
    have hs := hG.1 _ ho
    obtain ⟨v13, hv13, h⟩ := Option.bind_eq_some_iff.mp h
    refine sp_cV (M1 := x11.2) (r := some (.int v13)) (o := 103) (st := []) (c := 10) (RX11, TX11, 56) [.int a4] [.int a4, .ref 103] [.int v13] dX11_layChain_87 okX11_leftBy tw_1765 tw_1767 tw_83 (by decide) (by decide) rfl (Nat.le_of_ble_eq_true rfl) rfl rfl rfl rfl (wsI_103 hs) (fun Q hQ => tX11_leftBy hG hv13 hQ) ?_
    refine sp_aload_n dX11_layChain_90 rfl rfl ?_
    refine sp_getR (RX11, TX11, 56) dX11_layChain_91 clX11 (j := 43) (by decide) tw_1258 (wsI_103 hs) (Or.inr ⟨_, rfl⟩) (wsP_103_43 hs) ?_
    refine sp_iload_n dX11_layChain_94 rfl rfl ?_
    obtain ⟨j14, hj14, h⟩ := Option.bind_eq_some_iff.mp h
    refine sp_iald2 (j := j14) dX11_layChain_95 (wsA_126 hs) (wsN_126 hs) hj14 ?_
    refine sp_icmp_ge (tgt := 111) dX11_layChain_96 (by decide) (fun hc15 => ?_) (fun hc15 => ?_)
    · have h := (if_pos hc15).symm.trans h
      refine sp_iinc (v := (a4 + 1)) [some (.ref 103), some (.int a1), some (.int a2), some (.int a3), some (.int (a4 + 1))] dX11_layChain_111 rfl rfl (by decide) rfl ?_
      refine sp_goto (tgt := 42) dX11_layChain_114 (by decide) ?_
      refine sp_weak [true, true, true, true, true] [some (.ref 103), some (.int a1), some (.int a2), some (.int a3), some (.int (a4 + 1))] rfl ?_
      exact hb _ _ _ _ _ h
    · have h := (if_neg hc15).symm.trans h
      refine sp_aload_n dX11_layChain_99 rfl rfl ?_
      refine sp_getR (RX11, TX11, 56) dX11_layChain_100 clX11 (j := 43) (by decide) tw_1258 (wsI_103 hs) (Or.inr ⟨_, rfl⟩) (wsP_103_43 hs) ?_
      refine sp_iload_n dX11_layChain_103 rfl rfl ?_
      refine sp_aload_n dX11_layChain_104 rfl rfl ?_
      refine sp_iload dX11_layChain_105 rfl ?_
      obtain ⟨v16, hv16, h⟩ := Option.bind_eq_some_iff.mp h
      refine sp_cV (M1 := x11.2) (r := some (.int v16)) (o := 103) (st := [.int a3, .ref 126]) (c := 10) (RX11, TX11, 56) [.int a4] [.int a4, .ref 103, .int a3, .ref 126] [.int v16, .int a3, .ref 126] dX11_layChain_107 okX11_leftBy tw_1765 tw_1767 tw_83 (by decide) (by decide) rfl (Nat.le_of_ble_eq_true rfl) rfl rfl rfl rfl (wsI_103 hs) (fun Q hQ => tX11_leftBy hG hv16 hQ) ?_
      obtain ⟨j17, hj17, h⟩ := Option.bind_eq_some_iff.mp h
      obtain ⟨M18, hM18, h⟩ := sp_do_e h
      refine sp_iast2 (j := j17) hG dX11_layChain_110 (wsA_126 hs) (wsN_126 hs) hj17 hM18 ?_
      refine sp_iinc (v := (a4 + 1)) [some (.ref 103), some (.int a1), some (.int a2), some (.int a3), some (.int (a4 + 1))] dX11_layChain_111 rfl rfl (by decide) rfl ?_
      refine sp_goto (tgt := 42) dX11_layChain_114 (by decide) ?_
      refine sp_weak [true, true, true, true, true] [some (.ref 103), some (.int a1), some (.int a2), some (.int a3), some (.int (a4 + 1))] rfl ?_
      exact hb _ _ _ _ _ h
set_option maxRecDepth 100000 in
set_option maxHeartbeats 4000000 in
theorem tX11_layChain_l42 {g : sp_G} {Ω : sp_Mem → Prop} {Q : sp_Qt} {F : Nat} {p : sp_Mem} (hG : sp_Ok Ω)  {kx : Int32 → Int32 → Int32 → sp_Mem → Option sp_Mem} (hQ : Q none p) (hx : ∀ (a1 : Int32) (a2 : Int32) (a3 : Int32) (M : sp_Mem), kx a1 a2 a3 M = some p → sp_Wp g Ω mX11_layChain 0 0 117 [some (.ref 103), some (.int a1), some (.int a2), some (.int a3), none] [] M Q) : ∀ (n : Nat) (a1 : Int32) (a2 : Int32) (a3 : Int32) (a4 : Int32) (M : sp_Mem), fX11_layChain_l42 F kx n a1 a2 a3 a4 M = some p → sp_Wp g Ω mX11_layChain 0 0 42 [some (.ref 103), some (.int a1), some (.int a2), some (.int a3), some (.int a4)] [] M Q := by
  intro n
  induction n with
  | zero =>
    intro a1 a2 a3 a4 M h
    rw [fX11_layChain_l42] at h
    cases h
  | succ n ih =>
    intro a1 a2 a3 a4 M h
    rw [fX11_layChain_l42] at h
    refine sp_iload dX11_layChain_42 rfl ?_
    refine sp_aload_n dX11_layChain_44 rfl rfl ?_
    refine sp_use (fun ho => ?_)
    have hs := hG.1 _ ho
    refine sp_getR (RX11, TX11, 56) dX11_layChain_45 clX11 (j := 3) (by decide) tw_1218 (wsI_103 hs) (Or.inr ⟨_, rfl⟩) (wsP_103_3 hs) ?_
    refine sp_iconst (v := 1) dX11_layChain_48 (by decide) ?_
    refine sp_iald2 (j := 1) dX11_layChain_49 (wsA_105 hs) (wsN_105 hs) rfl ?_
    refine sp_icmp_ge (tgt := 117) dX11_layChain_50 (by decide) (fun hc8 => ?_) (fun hc8 => ?_)
    · have h := (if_pos hc8).symm.trans h
      refine sp_weak [true, true, true, true, false] [some (.ref 103), some (.int a1), some (.int a2), some (.int a3), none] rfl ?_
      exact hx _ _ _ _ h
    · have h := (if_neg hc8).symm.trans h
      refine sp_iload_n dX11_layChain_53 rfl rfl ?_
      refine sp_aload_n dX11_layChain_54 rfl rfl ?_
      refine sp_getR (RX11, TX11, 56) dX11_layChain_55 clX11 (j := 3) (by decide) tw_1218 (wsI_103 hs) (Or.inr ⟨_, rfl⟩) (wsP_103_3 hs) ?_
      refine sp_iconst (v := 1) dX11_layChain_58 (by decide) ?_
      refine sp_iald2 (j := 1) dX11_layChain_59 (wsA_105 hs) (wsN_105 hs) rfl ?_
      refine sp_icmp_lt (tgt := 68) dX11_layChain_60 (by decide) (fun hc9 => ?_) (fun hc9 => ?_)
      · have h := (if_pos hc9).symm.trans h
        refine sp_weak [true, true, true, true, true] [some (.ref 103), some (.int a1), some (.int a2), some (.int a3), some (.int a4)] rfl ?_
        exact tX11_layChain_j68 hG hQ ih hx _ _ _ _ _ h
      · have h := (if_neg hc9).symm.trans h
        refine sp_iload_n dX11_layChain_63 rfl rfl ?_
        refine sp_iconst (v := 5) dX11_layChain_64 (by decide) ?_
        refine sp_icmp_ne (tgt := 117) dX11_layChain_65 (by decide) (fun hc19 => ?_) (fun hc19 => ?_)
        · have h := (if_neg hc19).symm.trans h
          refine sp_weak [true, true, true, true, false] [some (.ref 103), some (.int a1), some (.int a2), some (.int a3), none] rfl ?_
          exact hx _ _ _ _ h
        · have h := (if_pos hc19).symm.trans h
          refine sp_weak [true, true, true, true, true] [some (.ref 103), some (.int a1), some (.int a2), some (.int a3), some (.int a4)] rfl ?_
          exact tX11_layChain_j68 hG hQ ih hx _ _ _ _ _ h
set_option maxRecDepth 100000 in
set_option maxHeartbeats 4000000 in
theorem tX11_layChain_l33 {g : sp_G} {Ω : sp_Mem → Prop} {Q : sp_Qt} {F : Nat} {p : sp_Mem} (hG : sp_Ok Ω)  {kx : Int32 → Int32 → sp_Mem → Option sp_Mem} (hQ : Q none p) (hx : ∀ (a1 : Int32) (a2 : Int32) (M : sp_Mem), kx a1 a2 M = some p → sp_Wp g Ω mX11_layChain 0 0 123 [some (.ref 103), some (.int a1), some (.int a2), none, none] [] M Q) : ∀ (n : Nat) (a1 : Int32) (a2 : Int32) (a3 : Int32) (M : sp_Mem), fX11_layChain_l33 F kx n a1 a2 a3 M = some p → sp_Wp g Ω mX11_layChain 0 0 33 [some (.ref 103), some (.int a1), some (.int a2), some (.int a3), none] [] M Q := by
  intro n
  induction n with
  | zero =>
    intro a1 a2 a3 M h
    rw [fX11_layChain_l33] at h
    cases h
  | succ n ih =>
    intro a1 a2 a3 M h
    rw [fX11_layChain_l33] at h
    refine sp_iload_n dX11_layChain_33 rfl rfl ?_
    refine sp_bipush (v := 6) dX11_layChain_34 (by decide) ?_
    refine sp_icmp_ge (tgt := 123) dX11_layChain_36 (by decide) (fun hc7 => ?_) (fun hc7 => ?_)
    · have h := (if_pos hc7).symm.trans h
      refine sp_weak [true, true, true, false, false] [some (.ref 103), some (.int a1), some (.int a2), none, none] rfl ?_
      exact hx _ _ _ h
    · have h := (if_neg hc7).symm.trans h
      refine sp_iconst (v := 0) dX11_layChain_39 (by decide) ?_
      refine sp_istore [some (.ref 103), some (.int a1), some (.int a2), some (.int a3), some (.int 0)] dX11_layChain_40 (by decide) rfl ?_
      refine sp_weak [true, true, true, true, true] [some (.ref 103), some (.int a1), some (.int a2), some (.int a3), some (.int 0)] rfl ?_
      refine tX11_layChain_l42 hG hQ (fun b21 b22 b23 M20 h => ?_) F _ _ _ _ _ h
      refine sp_iinc (v := (b23 + 1)) [some (.ref 103), some (.int b21), some (.int b22), some (.int (b23 + 1)), none] dX11_layChain_117 rfl rfl (by decide) rfl ?_
      refine sp_goto (tgt := 33) dX11_layChain_120 (by decide) ?_
      refine sp_weak [true, true, true, true, false] [some (.ref 103), some (.int b21), some (.int b22), some (.int (b23 + 1)), none] rfl ?_
      exact ih _ _ _ _ h
set_option maxRecDepth 100000 in
set_option maxHeartbeats 4000000 in
theorem tX11_layChain_l25 {g : sp_G} {Ω : sp_Mem → Prop} {Q : sp_Qt} {F : Nat} {p : sp_Mem} (hG : sp_Ok Ω)  {kx : sp_Mem → Option sp_Mem} (hQ : Q none p) (hx : ∀  (M : sp_Mem), kx M = some p → sp_Wp g Ω mX11_layChain 0 0 129 [none, none, none, none, none] [] M Q) : ∀ (n : Nat) (a1 : Int32) (a2 : Int32) (M : sp_Mem), fX11_layChain_l25 F kx n a1 a2 M = some p → sp_Wp g Ω mX11_layChain 0 0 25 [some (.ref 103), some (.int a1), some (.int a2), none, none] [] M Q := by
  intro n
  induction n with
  | zero =>
    intro a1 a2 M h
    rw [fX11_layChain_l25] at h
    cases h
  | succ n ih =>
    intro a1 a2 M h
    rw [fX11_layChain_l25] at h
    refine sp_iload_n dX11_layChain_25 rfl rfl ?_
    refine sp_bipush (v := 6) dX11_layChain_26 (by decide) ?_
    refine sp_icmp_ge (tgt := 129) dX11_layChain_28 (by decide) (fun hc6 => ?_) (fun hc6 => ?_)
    · have h := (if_pos hc6).symm.trans h
      refine sp_weak [false, false, false, false, false] [none, none, none, none, none] rfl ?_
      exact hx _ h
    · have h := (if_neg hc6).symm.trans h
      refine sp_iconst (v := 0) dX11_layChain_31 (by decide) ?_
      refine sp_istore_n [some (.ref 103), some (.int a1), some (.int a2), some (.int 0), none] dX11_layChain_32 rfl (by decide) rfl ?_
      refine sp_weak [true, true, true, true, false] [some (.ref 103), some (.int a1), some (.int a2), some (.int 0), none] rfl ?_
      refine tX11_layChain_l33 hG hQ (fun b25 b26 M24 h => ?_) F _ _ _ _ h
      refine sp_iinc (v := (b26 + 1)) [some (.ref 103), some (.int b25), some (.int (b26 + 1)), none, none] dX11_layChain_123 rfl rfl (by decide) rfl ?_
      refine sp_goto (tgt := 25) dX11_layChain_126 (by decide) ?_
      refine sp_weak [true, true, true, false, false] [some (.ref 103), some (.int b25), some (.int (b26 + 1)), none, none] rfl ?_
      exact ih _ _ _ h
set_option maxRecDepth 100000 in
set_option maxHeartbeats 4000000 in
theorem tX11_layChain {g : sp_G} {Ω : sp_Mem → Prop} {Q : sp_Qt} {F : Nat} {p : sp_Mem} (hG : sp_Ok Ω) {M : sp_Mem} {a1 : Int32} (h : fX11_layChain F M a1 = some p) (hQ : Q none p) : sp_Mt g Ω mX11_layChain 0 0 [.ref 103, .int a1] M Q := by
  unfold fX11_layChain at h
  refine sp_Mt.of [some (.ref 103), some (.int a1), none, none, none] (by decide) (by simp [sp_ent, Value.category]) rfl ?_
  refine sp_iconst (v := 0) dX11_layChain_0 (by decide) ?_
  refine sp_istore_n [some (.ref 103), some (.int a1), some (.int 0), none, none] dX11_layChain_1 rfl (by decide) rfl ?_
  refine sp_weak [true, true, true, false, false] [some (.ref 103), some (.int a1), some (.int 0), none, none] rfl ?_
  refine tX11_layChain_l2 hG hQ (fun b5 M4 h => ?_) F _ _ _ h
  refine sp_iconst (v := 0) dX11_layChain_23 (by decide) ?_
  refine sp_istore_n [some (.ref 103), some (.int b5), some (.int 0), none, none] dX11_layChain_24 rfl (by decide) rfl ?_
  refine sp_weak [true, true, true, false, false] [some (.ref 103), some (.int b5), some (.int 0), none, none] rfl ?_
  refine tX11_layChain_l25 hG hQ (fun M27 h => ?_) F _ _ _ h
  cases h
  exact sp_vret dX11_layChain_129 rfl (fun _ => hQ)
def fX11_nextCaller_l2 (F : Nat) (kx : Int32 → sp_Mem → Option (Int32 × sp_Mem)) : Nat → Int32 → Int32 → Int32 → sp_Mem → Option (Int32 × sp_Mem)
  | 0, _, _, _, _ => none
  | n + 1, a1, a2, a3, M =>
  (fX11_cellOf M a1 a2).bind fun v1 => (fX11_comes F M a1 a3 v1).bind fun x2 => if x2.1 = 0 then ((fX11_nextCaller_l2 F kx n) a1 a2 (a3 + 1) x2.2) else ((fX11_leftBy x2.2 a3).bind fun v4 => (sp_ix 6 a2).bind fun j5 => if v4 = (sp_I x2.2 126 j5) then (kx a3 x2.2) else ((fX11_nextCaller_l2 F kx n) a1 a2 (a3 + 1) x2.2))
def fX11_nextCaller (F : Nat) (M : sp_Mem) (a1 : Int32) (a2 : Int32) : Option (Int32 × sp_Mem) :=
  fX11_nextCaller_l2 F (fun b8 M7 => some (b8, M7)) F a1 a2 0 M
set_option maxRecDepth 100000 in
set_option maxHeartbeats 4000000 in
theorem tX11_nextCaller_l2 {g : sp_G} {Ω : sp_Mem → Prop} {Q : sp_Qt} {F : Nat} {p : (Int32 × sp_Mem)} (hG : sp_Ok Ω)  {kx : Int32 → sp_Mem → Option (Int32 × sp_Mem)} (hQ : Q (some (.int p.1)) p.2) (hx : ∀ (a3 : Int32) (M : sp_Mem), kx a3 M = some p → sp_Wp g Ω mX11_nextCaller 0 0 37 [none, none, none, some (.int a3)] [] M Q) : ∀ (n : Nat) (a1 : Int32) (a2 : Int32) (a3 : Int32) (M : sp_Mem), fX11_nextCaller_l2 F kx n a1 a2 a3 M = some p → sp_Wp g Ω mX11_nextCaller 0 0 2 [some (.ref 103), some (.int a1), some (.int a2), some (.int a3)] [] M Q := by
  intro n
  induction n with
  | zero =>
    intro a1 a2 a3 M h
    rw [fX11_nextCaller_l2] at h
    cases h
  | succ n ih =>
    intro a1 a2 a3 M h
    rw [fX11_nextCaller_l2] at h
    refine sp_aload_n dX11_nextCaller_2 rfl rfl ?_
    refine sp_iload_n dX11_nextCaller_3 rfl rfl ?_
    refine sp_iload_n dX11_nextCaller_4 rfl rfl ?_
    refine sp_aload_n dX11_nextCaller_5 rfl rfl ?_
    refine sp_iload_n dX11_nextCaller_6 rfl rfl ?_
    refine sp_iload_n dX11_nextCaller_7 rfl rfl ?_
    refine sp_use (fun ho => ?_)
    have hs := hG.1 _ ho
    obtain ⟨v1, hv1, h⟩ := Option.bind_eq_some_iff.mp h
    refine sp_cV (M1 := M) (r := some (.int v1)) (o := 103) (st := [.int a3, .int a1, .ref 103]) (c := 10) (RX11, TX11, 56) [.int a1, .int a2] [.int a2, .int a1, .ref 103, .int a3, .int a1, .ref 103] [.int v1, .int a3, .int a1, .ref 103] dX11_nextCaller_8 okX11_cellOf tw_1761 tw_1763 tw_82 (by decide) (by decide) rfl (Nat.le_of_ble_eq_true rfl) rfl rfl rfl rfl (wsI_103 hs) (fun Q hQ => tX11_cellOf hG hv1 hQ) ?_
    obtain ⟨x2, hx2, h⟩ := Option.bind_eq_some_iff.mp h
    refine sp_cV (M1 := x2.2) (r := some (.int x2.1)) (o := 103) (st := []) (c := 10) (RX11, TX11, 56) [.int a1, .int a3, .int v1] [.int v1, .int a3, .int a1, .ref 103] [.int x2.1] dX11_nextCaller_11 okX11_comes tw_1503 tw_1505 tw_42 (by decide) (by decide) rfl (Nat.le_of_ble_eq_true rfl) rfl rfl rfl rfl (wsI_103 hs) (fun Q hQ => tX11_comes hG hx2 hQ) ?_
    refine sp_if_eq (tgt := 31) dX11_nextCaller_14 (by decide) (fun hc3 => ?_) (fun hc3 => ?_)
    · have h := (if_pos hc3).symm.trans h
      refine sp_iinc (v := (a3 + 1)) [some (.ref 103), some (.int a1), some (.int a2), some (.int (a3 + 1))] dX11_nextCaller_31 rfl rfl (by decide) rfl ?_
      refine sp_goto (tgt := 2) dX11_nextCaller_34 (by decide) ?_
      refine sp_weak [true, true, true, true] [some (.ref 103), some (.int a1), some (.int a2), some (.int (a3 + 1))] rfl ?_
      exact ih _ _ _ _ h
    · have h := (if_neg hc3).symm.trans h
      refine sp_aload_n dX11_nextCaller_17 rfl rfl ?_
      refine sp_iload_n dX11_nextCaller_18 rfl rfl ?_
      refine sp_use (fun ho => ?_)
      have hs := hG.1 _ ho
      obtain ⟨v4, hv4, h⟩ := Option.bind_eq_some_iff.mp h
      refine sp_cV (M1 := x2.2) (r := some (.int v4)) (o := 103) (st := []) (c := 10) (RX11, TX11, 56) [.int a3] [.int a3, .ref 103] [.int v4] dX11_nextCaller_19 okX11_leftBy tw_1765 tw_1767 tw_83 (by decide) (by decide) rfl (Nat.le_of_ble_eq_true rfl) rfl rfl rfl rfl (wsI_103 hs) (fun Q hQ => tX11_leftBy hG hv4 hQ) ?_
      refine sp_aload_n dX11_nextCaller_22 rfl rfl ?_
      refine sp_getR (RX11, TX11, 56) dX11_nextCaller_23 clX11 (j := 43) (by decide) tw_1258 (wsI_103 hs) (Or.inr ⟨_, rfl⟩) (wsP_103_43 hs) ?_
      refine sp_iload_n dX11_nextCaller_26 rfl rfl ?_
      obtain ⟨j5, hj5, h⟩ := Option.bind_eq_some_iff.mp h
      refine sp_iald2 (j := j5) dX11_nextCaller_27 (wsA_126 hs) (wsN_126 hs) hj5 ?_
      refine sp_icmp_eq (tgt := 37) dX11_nextCaller_28 (by decide) (fun hc6 => ?_) (fun hc6 => ?_)
      · have h := (if_pos hc6).symm.trans h
        refine sp_weak [false, false, false, true] [none, none, none, some (.int a3)] rfl ?_
        exact hx _ _ h
      · have h := (if_neg hc6).symm.trans h
        refine sp_iinc (v := (a3 + 1)) [some (.ref 103), some (.int a1), some (.int a2), some (.int (a3 + 1))] dX11_nextCaller_31 rfl rfl (by decide) rfl ?_
        refine sp_goto (tgt := 2) dX11_nextCaller_34 (by decide) ?_
        refine sp_weak [true, true, true, true] [some (.ref 103), some (.int a1), some (.int a2), some (.int (a3 + 1))] rfl ?_
        exact ih _ _ _ _ h
set_option maxRecDepth 100000 in
set_option maxHeartbeats 4000000 in
theorem tX11_nextCaller {g : sp_G} {Ω : sp_Mem → Prop} {Q : sp_Qt} {F : Nat} {p : (Int32 × sp_Mem)} (hG : sp_Ok Ω) {M : sp_Mem} {a1 : Int32} {a2 : Int32} (h : fX11_nextCaller F M a1 a2 = some p) (hQ : Q (some (.int p.1)) p.2) : sp_Mt g Ω mX11_nextCaller 0 0 [.ref 103, .int a1, .int a2] M Q := by
  unfold fX11_nextCaller at h
  refine sp_Mt.of [some (.ref 103), some (.int a1), some (.int a2), none] (by decide) (by simp [sp_ent, Value.category]) rfl ?_
  refine sp_iconst (v := 0) dX11_nextCaller_0 (by decide) ?_
  refine sp_istore_n [some (.ref 103), some (.int a1), some (.int a2), some (.int 0)] dX11_nextCaller_1 rfl (by decide) rfl ?_
  refine sp_weak [true, true, true, true] [some (.ref 103), some (.int a1), some (.int a2), some (.int 0)] rfl ?_
  refine tX11_nextCaller_l2 hG hQ (fun b8 M7 h => ?_) F _ _ _ _ h
  refine sp_iload_n dX11_nextCaller_37 rfl rfl ?_
  cases h
  exact sp_iret dX11_nextCaller_38 (ty := .int) rfl rfl (fun _ => hQ)
def fX11_chain_l60 (F : Nat) (kx : Int32 → Int32 → Int32 → sp_Mem → Option (Int32 × sp_Mem)) : Nat → Int32 → Int32 → Int32 → Int32 → Int32 → sp_Mem → Option (Int32 × sp_Mem)
  | 0, _, _, _, _, _, _ => none
  | n + 1, a1, a2, a3, a4, a5, M =>
  if a2 < a5 then (kx a2 a3 a4 M) else ((fX11_nextCaller F M a1 a4).bind fun x12 => (fX11_chain_l60 F kx n) a1 a2 a3 x12.1 (a5 + 1) x12.2)
def fX11_chain (F : Nat) (M : sp_Mem) (a1 : Int32) (a2 : Int32) : Option (Int32 × sp_Mem) :=
  sp_do (sp_setI M 103 0 0) fun M1 => (fX11_isSpark M1 a1).bind fun v2 => if v2 = 0 then (some ((-1), M1)) else (if a2 < (-1) then (some ((-1), M1)) else ((fX11_isLoose M1 a1).bind fun v5 => if v5 = 0 then (some ((-1), M1)) else ((fX11_layChain F M1 a1).bind fun M7 => sp_do ((sp_I M7 126 5)) fun u8 => if 100000000 ≤ u8 then (some ((-1), M7)) else (if a2 < u8 then (fX11_chain_l60 F (fun b14 b15 b16 M13 => some ((if b14 = (-1) then b15 else b16), M13)) F a1 a2 u8 5 0 M7) else (some ((-1), M7))))))
set_option maxRecDepth 100000 in
set_option maxHeartbeats 4000000 in
theorem tX11_chain_l60 {g : sp_G} {Ω : sp_Mem → Prop} {Q : sp_Qt} {F : Nat} {p : (Int32 × sp_Mem)} (hG : sp_Ok Ω)  {kx : Int32 → Int32 → Int32 → sp_Mem → Option (Int32 × sp_Mem)} (hQ : Q (some (.int p.1)) p.2) (hx : ∀ (a2 : Int32) (a3 : Int32) (a4 : Int32) (M : sp_Mem), kx a2 a3 a4 M = some p → sp_Wp g Ω mX11_chain 0 0 81 [none, none, some (.int a2), some (.int a3), some (.int a4), none] [] M Q) : ∀ (n : Nat) (a1 : Int32) (a2 : Int32) (a3 : Int32) (a4 : Int32) (a5 : Int32) (M : sp_Mem), fX11_chain_l60 F kx n a1 a2 a3 a4 a5 M = some p → sp_Wp g Ω mX11_chain 0 0 60 [some (.ref 103), some (.int a1), some (.int a2), some (.int a3), some (.int a4), some (.int a5)] [] M Q := by
  intro n
  induction n with
  | zero =>
    intro a1 a2 a3 a4 a5 M h
    rw [fX11_chain_l60] at h
    cases h
  | succ n ih =>
    intro a1 a2 a3 a4 a5 M h
    rw [fX11_chain_l60] at h
    refine sp_iload dX11_chain_60 rfl ?_
    refine sp_iload_n dX11_chain_62 rfl rfl ?_
    refine sp_icmp_gt (tgt := 81) dX11_chain_63 (by decide) (fun hc11 => ?_) (fun hc11 => ?_)
    · have h := (if_pos hc11).symm.trans h
      refine sp_weak [false, false, true, true, true, false] [none, none, some (.int a2), some (.int a3), some (.int a4), none] rfl ?_
      exact hx _ _ _ _ h
    · have h := (if_neg hc11).symm.trans h
      refine sp_aload_n dX11_chain_66 rfl rfl ?_
      refine sp_iload_n dX11_chain_67 rfl rfl ?_
      refine sp_iload dX11_chain_68 rfl ?_
      refine sp_use (fun ho => ?_)
      have hs := hG.1 _ ho
      obtain ⟨x12, hx12, h⟩ := Option.bind_eq_some_iff.mp h
      refine sp_cV (M1 := x12.2) (r := some (.int x12.1)) (o := 103) (st := []) (c := 10) (RX11, TX11, 56) [.int a1, .int a4] [.int a4, .int a1, .ref 103] [.int x12.1] dX11_chain_70 okX11_nextCaller tw_1769 tw_1771 tw_84 (by decide) (by decide) rfl (Nat.le_of_ble_eq_true rfl) rfl rfl rfl rfl (wsI_103 hs) (fun Q hQ => tX11_nextCaller hG hx12 hQ) ?_
      refine sp_istore [some (.ref 103), some (.int a1), some (.int a2), some (.int a3), some (.int x12.1), some (.int a5)] dX11_chain_73 (by decide) rfl ?_
      refine sp_iinc (v := (a5 + 1)) [some (.ref 103), some (.int a1), some (.int a2), some (.int a3), some (.int x12.1), some (.int (a5 + 1))] dX11_chain_75 rfl rfl (by decide) rfl ?_
      refine sp_goto (tgt := 60) dX11_chain_78 (by decide) ?_
      refine sp_weak [true, true, true, true, true, true] [some (.ref 103), some (.int a1), some (.int a2), some (.int a3), some (.int x12.1), some (.int (a5 + 1))] rfl ?_
      exact ih _ _ _ _ _ _ h
set_option maxRecDepth 100000 in
set_option maxHeartbeats 4000000 in
theorem tX11_chain {g : sp_G} {Ω : sp_Mem → Prop} {Q : sp_Qt} {F : Nat} {p : (Int32 × sp_Mem)} (hG : sp_Ok Ω) {M : sp_Mem} {a1 : Int32} {a2 : Int32} (h : fX11_chain F M a1 a2 = some p) (hQ : Q (some (.int p.1)) p.2) : sp_Mt g Ω mX11_chain 0 0 [.ref 103, .int a1, .int a2] M Q := by
  unfold fX11_chain at h
  refine sp_Mt.of [some (.ref 103), some (.int a1), some (.int a2), none, none, none] (by decide) (by simp [sp_ent, Value.category]) rfl ?_
  refine sp_aload_n dX11_chain_0 rfl rfl ?_
  refine sp_iconst (v := 0) dX11_chain_1 (by decide) ?_
  refine sp_use (fun ho => ?_)
  have hs := hG.1 _ ho
  obtain ⟨M1, hM1, h⟩ := sp_do_e h
  refine sp_putI2 (RX11, TX11, 56) hG dX11_chain_2 clX11 (j := 0) (by decide) tw_1215 rfl (Or.inl rfl) (wsI_103 hs) hM1 ?_
  refine sp_aload_n dX11_chain_5 rfl rfl ?_
  refine sp_iload_n dX11_chain_6 rfl rfl ?_
  refine sp_use (fun ho => ?_)
  have hs := hG.1 _ ho
  obtain ⟨v2, hv2, h⟩ := Option.bind_eq_some_iff.mp h
  refine sp_cV (M1 := M1) (r := some (.int v2)) (o := 103) (st := []) (c := 10) (RX11, TX11, 56) [.int a1] [.int a1, .ref 103] [.int v2] dX11_chain_7 okX11_isSpark tw_1424 tw_1426 tw_30 (by decide) (by decide) rfl (Nat.le_of_ble_eq_true rfl) rfl rfl rfl rfl (wsI_103 hs) (fun Q hQ => tX11_isSpark hG hv2 hQ) ?_
  refine sp_if_eq (tgt := 26) dX11_chain_10 (by decide) (fun hc3 => ?_) (fun hc3 => ?_)
  · have h := (if_pos hc3).symm.trans h
    refine sp_iconst (v := (-1)) dX11_chain_26 (by decide) ?_
    cases h
    exact sp_iret dX11_chain_27 (ty := .int) rfl rfl (fun _ => hQ)
  · have h := (if_neg hc3).symm.trans h
    refine sp_iload_n dX11_chain_13 rfl rfl ?_
    refine sp_iconst (v := (-1)) dX11_chain_14 (by decide) ?_
    refine sp_icmp_lt (tgt := 26) dX11_chain_15 (by decide) (fun hc4 => ?_) (fun hc4 => ?_)
    · have h := (if_pos hc4).symm.trans h
      refine sp_iconst (v := (-1)) dX11_chain_26 (by decide) ?_
      cases h
      exact sp_iret dX11_chain_27 (ty := .int) rfl rfl (fun _ => hQ)
    · have h := (if_neg hc4).symm.trans h
      refine sp_aload_n dX11_chain_18 rfl rfl ?_
      refine sp_iload_n dX11_chain_19 rfl rfl ?_
      obtain ⟨v5, hv5, h⟩ := Option.bind_eq_some_iff.mp h
      refine sp_cV (M1 := M1) (r := some (.int v5)) (o := 103) (st := []) (c := 10) (RX11, TX11, 56) [.int a1] [.int a1, .ref 103] [.int v5] dX11_chain_20 okX11_isLoose tw_1428 tw_1430 tw_31 (by decide) (by decide) rfl (Nat.le_of_ble_eq_true rfl) rfl rfl rfl rfl (wsI_103 hs) (fun Q hQ => tX11_isLoose hG hv5 hQ) ?_
      refine sp_if_ne (tgt := 28) dX11_chain_23 (by decide) (fun hc6 => ?_) (fun hc6 => ?_)
      · have h := (if_neg hc6).symm.trans h
        refine sp_aload_n dX11_chain_28 rfl rfl ?_
        refine sp_iload_n dX11_chain_29 rfl rfl ?_
        obtain ⟨M7, hM7, h⟩ := Option.bind_eq_some_iff.mp h
        refine sp_cV (M1 := M7) (r := none) (o := 103) (st := []) (c := 10) (RX11, TX11, 56) [.int a1] [.int a1, .ref 103] [] dX11_chain_30 okX11_layChain tw_1756 tw_1758 tw_81 (by decide) (by decide) rfl (Nat.le_of_ble_eq_true rfl) rfl rfl rfl rfl (wsI_103 hs) (fun Q hQ => tX11_layChain hG hM7 hQ) ?_
        refine sp_aload_n dX11_chain_33 rfl rfl ?_
        refine sp_use (fun ho => ?_)
        have hs := hG.1 _ ho
        refine sp_getR (RX11, TX11, 56) dX11_chain_34 clX11 (j := 43) (by decide) tw_1258 (wsI_103 hs) (Or.inr ⟨_, rfl⟩) (wsP_103_43 hs) ?_
        refine sp_iconst (v := 5) dX11_chain_37 (by decide) ?_
        refine sp_iald2 (j := 5) dX11_chain_38 (wsA_126 hs) (wsN_126 hs) rfl ?_
        obtain ⟨u8, hu8, h⟩ := sp_do_e h
        refine sp_topi hu8 ?_
        refine sp_istore_n [some (.ref 103), some (.int a1), some (.int a2), some (.int u8), none, none] dX11_chain_39 rfl (by decide) rfl ?_
        refine sp_iload_n dX11_chain_40 rfl rfl ?_
        refine sp_ldcw (v := 100000000) dX11_chain_41 tw_1760 ?_
        refine sp_icmp_ge (tgt := 52) dX11_chain_44 (by decide) (fun hc9 => ?_) (fun hc9 => ?_)
        · have h := (if_pos hc9).symm.trans h
          refine sp_iconst (v := (-1)) dX11_chain_52 (by decide) ?_
          cases h
          exact sp_iret dX11_chain_53 (ty := .int) rfl rfl (fun _ => hQ)
        · have h := (if_neg hc9).symm.trans h
          refine sp_iload_n dX11_chain_47 rfl rfl ?_
          refine sp_iload_n dX11_chain_48 rfl rfl ?_
          refine sp_icmp_lt (tgt := 54) dX11_chain_49 (by decide) (fun hc10 => ?_) (fun hc10 => ?_)
          · have h := (if_pos hc10).symm.trans h
            refine sp_iconst (v := 5) dX11_chain_54 (by decide) ?_
            refine sp_istore [some (.ref 103), some (.int a1), some (.int a2), some (.int u8), some (.int 5), none] dX11_chain_55 (by decide) rfl ?_
            refine sp_iconst (v := 0) dX11_chain_57 (by decide) ?_
            refine sp_istore [some (.ref 103), some (.int a1), some (.int a2), some (.int u8), some (.int 5), some (.int 0)] dX11_chain_58 (by decide) rfl ?_
            refine sp_weak [true, true, true, true, true, true] [some (.ref 103), some (.int a1), some (.int a2), some (.int u8), some (.int 5), some (.int 0)] rfl ?_
            refine tX11_chain_l60 hG hQ (fun b14 b15 b16 M13 h => ?_) F _ _ _ _ _ _ h
            refine sp_iload_n dX11_chain_81 rfl rfl ?_
            refine sp_iconst (v := (-1)) dX11_chain_82 (by decide) ?_
            suffices hj : sp_Wp g Ω mX11_chain 0 0 92 [none, none, none, none, none, none] [.int (if b14 = (-1) then b15 else b16)] M13 Q by
              refine sp_icmp_ne (tgt := 90) dX11_chain_83 (by decide) (fun hc17 => ?_) (fun hc17 => ?_)
              · refine sp_iload dX11_chain_90 rfl ?_
                refine sp_weak [false, false, false, false, false, false] [none, none, none, none, none, none] rfl ?_
                simp only [if_neg hc17] at hj
                exact hj
              · refine sp_iload_n dX11_chain_86 rfl rfl ?_
                refine sp_goto (tgt := 92) dX11_chain_87 (by decide) ?_
                refine sp_weak [false, false, false, false, false, false] [none, none, none, none, none, none] rfl ?_
                simp only [if_pos hc17] at hj
                exact hj
            cases h
            exact sp_iret dX11_chain_92 (ty := .int) rfl rfl (fun _ => hQ)
          · have h := (if_neg hc10).symm.trans h
            refine sp_iconst (v := (-1)) dX11_chain_52 (by decide) ?_
            cases h
            exact sp_iret dX11_chain_53 (ty := .int) rfl rfl (fun _ => hQ)
      · have h := (if_pos hc6).symm.trans h
        refine sp_iconst (v := (-1)) dX11_chain_26 (by decide) ?_
        cases h
        exact sp_iret dX11_chain_27 (ty := .int) rfl rfl (fun _ => hQ)
def fX11_answer (M : sp_Mem) (a1 : Int32) (a2 : Int32) : Option (Int32 × sp_Mem) :=
  sp_do (sp_setI M 103 0 0) fun M1 => if (fX11_in (Int32.toInt64 a2) 0 1) = 0 then ((fX11_tell M1 (-1)).bind fun x15 => some (x15.1, x15.2)) else ((fX11_isPerson M1 a1).bind fun v3 => if v3 = 0 then ((fX11_tell M1 (-2)).bind fun x14 => some (x14.1, x14.2)) else (sp_do ((sp_I M1 105 2)) fun u5 => if u5 = 6 then ((fX11_tell M1 (-5)).bind fun x13 => some (x13.1, x13.2)) else ((sp_ix 5480 (67 + (2 * u5))).bind fun j7 => sp_do (sp_setI M1 105 j7 a1) fun M8 => (sp_ix 5480 ((67 + (2 * u5)) + 1)).bind fun j9 => sp_do (sp_setI M8 105 j9 a2) fun M10 => sp_do (sp_setI M10 105 2 ((sp_I M10 105 2) + 1)) fun M11 => (fX11_tell M11 (u5 + 1)).bind fun x12 => some (x12.1, x12.2))))
set_option maxRecDepth 100000 in
set_option maxHeartbeats 4000000 in
theorem tX11_answer {g : sp_G} {Ω : sp_Mem → Prop} {Q : sp_Qt} {p : (Int32 × sp_Mem)} (hG : sp_Ok Ω) {M : sp_Mem} {a1 : Int32} {a2 : Int32} (h : fX11_answer M a1 a2 = some p) (hQ : Q (some (.int p.1)) p.2) : sp_Mt g Ω mX11_answer 0 0 [.ref 103, .int a1, .int a2] M Q := by
  unfold fX11_answer at h
  refine sp_Mt.of [some (.ref 103), some (.int a1), some (.int a2), none] (by decide) (by simp [sp_ent, Value.category]) rfl ?_
  refine sp_aload_n dX11_answer_0 rfl rfl ?_
  refine sp_iconst (v := 0) dX11_answer_1 (by decide) ?_
  refine sp_use (fun ho => ?_)
  have hs := hG.1 _ ho
  obtain ⟨M1, hM1, h⟩ := sp_do_e h
  refine sp_putI2 (RX11, TX11, 56) hG dX11_answer_2 clX11 (j := 0) (by decide) tw_1215 rfl (Or.inl rfl) (wsI_103 hs) hM1 ?_
  refine sp_iload_n dX11_answer_5 rfl rfl ?_
  refine sp_i2l dX11_answer_6 ?_
  refine sp_lconst (v := 0) dX11_answer_7 (by decide) ?_
  refine sp_lconst (v := 1) dX11_answer_8 (by decide) ?_
  refine sp_use (fun ho => ?_)
  have hs := hG.1 _ ho
  refine sp_cS (M1 := M1) (r := some (.int (fX11_in (Int32.toInt64 a2) 0 1))) (st := []) [.long (Int32.toInt64 a2), .long 0, .long 1] [.long 1, .long 0, .long (Int32.toInt64 a2)] [.int (fX11_in (Int32.toInt64 a2) 0 1)] dX11_answer_9 okX11_in tw_1400 tw_1401 (by decide) (by decide) rfl (Nat.le_of_ble_eq_true rfl) rfl rfl (fun Q hQ => tX11_in hG rfl hQ) ?_
  refine sp_if_ne (tgt := 21) dX11_answer_12 (by decide) (fun hc2 => ?_) (fun hc2 => ?_)
  · have h := (if_neg hc2).symm.trans h
    refine sp_aload_n dX11_answer_21 rfl rfl ?_
    refine sp_iload_n dX11_answer_22 rfl rfl ?_
    obtain ⟨v3, hv3, h⟩ := Option.bind_eq_some_iff.mp h
    refine sp_cV (M1 := M1) (r := some (.int v3)) (o := 103) (st := []) (c := 10) (RX11, TX11, 56) [.int a1] [.int a1, .ref 103] [.int v3] dX11_answer_23 okX11_isPerson tw_1482 tw_1484 tw_39 (by decide) (by decide) rfl (Nat.le_of_ble_eq_true rfl) rfl rfl rfl rfl (wsI_103 hs) (fun Q hQ => tX11_isPerson hG hv3 hQ) ?_
    refine sp_if_ne (tgt := 36) dX11_answer_26 (by decide) (fun hc4 => ?_) (fun hc4 => ?_)
    · have h := (if_neg hc4).symm.trans h
      refine sp_aload_n dX11_answer_36 rfl rfl ?_
      refine sp_getR (RX11, TX11, 56) dX11_answer_37 clX11 (j := 3) (by decide) tw_1218 (wsI_103 hs) (Or.inr ⟨_, rfl⟩) (wsP_103_3 hs) ?_
      refine sp_iconst (v := 2) dX11_answer_40 (by decide) ?_
      refine sp_iald2 (j := 2) dX11_answer_41 (wsA_105 hs) (wsN_105 hs) rfl ?_
      obtain ⟨u5, hu5, h⟩ := sp_do_e h
      refine sp_topi hu5 ?_
      refine sp_istore_n [some (.ref 103), some (.int a1), some (.int a2), some (.int u5)] dX11_answer_42 rfl (by decide) rfl ?_
      refine sp_iload_n dX11_answer_43 rfl rfl ?_
      refine sp_bipush (v := 6) dX11_answer_44 (by decide) ?_
      refine sp_icmp_ne (tgt := 56) dX11_answer_46 (by decide) (fun hc6 => ?_) (fun hc6 => ?_)
      · have h := (if_neg hc6).symm.trans h
        refine sp_aload_n dX11_answer_56 rfl rfl ?_
        refine sp_getR (RX11, TX11, 56) dX11_answer_57 clX11 (j := 3) (by decide) tw_1218 (wsI_103 hs) (Or.inr ⟨_, rfl⟩) (wsP_103_3 hs) ?_
        refine sp_bipush (v := 67) dX11_answer_60 (by decide) ?_
        refine sp_iconst (v := 2) dX11_answer_62 (by decide) ?_
        refine sp_iload_n dX11_answer_63 rfl rfl ?_
        refine sp_imul dX11_answer_64 ?_
        refine sp_iadd dX11_answer_65 ?_
        refine sp_iload_n dX11_answer_66 rfl rfl ?_
        obtain ⟨j7, hj7, h⟩ := Option.bind_eq_some_iff.mp h
        obtain ⟨M8, hM8, h⟩ := sp_do_e h
        refine sp_iast2 (j := j7) hG dX11_answer_67 (wsA_105 hs) (wsN_105 hs) hj7 hM8 ?_
        refine sp_aload_n dX11_answer_68 rfl rfl ?_
        refine sp_use (fun ho => ?_)
        have hs := hG.1 _ ho
        refine sp_getR (RX11, TX11, 56) dX11_answer_69 clX11 (j := 3) (by decide) tw_1218 (wsI_103 hs) (Or.inr ⟨_, rfl⟩) (wsP_103_3 hs) ?_
        refine sp_bipush (v := 67) dX11_answer_72 (by decide) ?_
        refine sp_iconst (v := 2) dX11_answer_74 (by decide) ?_
        refine sp_iload_n dX11_answer_75 rfl rfl ?_
        refine sp_imul dX11_answer_76 ?_
        refine sp_iadd dX11_answer_77 ?_
        refine sp_iconst (v := 1) dX11_answer_78 (by decide) ?_
        refine sp_iadd dX11_answer_79 ?_
        refine sp_iload_n dX11_answer_80 rfl rfl ?_
        obtain ⟨j9, hj9, h⟩ := Option.bind_eq_some_iff.mp h
        obtain ⟨M10, hM10, h⟩ := sp_do_e h
        refine sp_iast2 (j := j9) hG dX11_answer_81 (wsA_105 hs) (wsN_105 hs) hj9 hM10 ?_
        refine sp_aload_n dX11_answer_82 rfl rfl ?_
        refine sp_use (fun ho => ?_)
        have hs := hG.1 _ ho
        refine sp_getR (RX11, TX11, 56) dX11_answer_83 clX11 (j := 3) (by decide) tw_1218 (wsI_103 hs) (Or.inr ⟨_, rfl⟩) (wsP_103_3 hs) ?_
        refine sp_iconst (v := 2) dX11_answer_86 (by decide) ?_
        refine sp_dup2 dX11_answer_87 rfl rfl ?_
        refine sp_iald2 (j := 2) dX11_answer_88 (wsA_105 hs) (wsN_105 hs) rfl ?_
        refine sp_iconst (v := 1) dX11_answer_89 (by decide) ?_
        refine sp_iadd dX11_answer_90 ?_
        obtain ⟨M11, hM11, h⟩ := sp_do_e h
        refine sp_iast2 (j := 2) hG dX11_answer_91 (wsA_105 hs) (wsN_105 hs) rfl hM11 ?_
        refine sp_aload_n dX11_answer_92 rfl rfl ?_
        refine sp_iload_n dX11_answer_93 rfl rfl ?_
        refine sp_iconst (v := 1) dX11_answer_94 (by decide) ?_
        refine sp_iadd dX11_answer_95 ?_
        refine sp_use (fun ho => ?_)
        have hs := hG.1 _ ho
        obtain ⟨x12, hx12, h⟩ := Option.bind_eq_some_iff.mp h
        refine sp_cV (M1 := x12.2) (r := some (.int x12.1)) (o := 103) (st := []) (c := 10) (RX11, TX11, 56) [.int (u5 + 1)] [.int (u5 + 1), .ref 103] [.int x12.1] dX11_answer_96 okX11_tell tw_1388 tw_1390 tw_27 (by decide) (by decide) rfl (Nat.le_of_ble_eq_true rfl) rfl rfl rfl rfl (wsI_103 hs) (fun Q hQ => tX11_tell hG hx12 hQ) ?_
        cases h
        exact sp_iret dX11_answer_99 (ty := .int) rfl rfl (fun _ => hQ)
      · have h := (if_pos hc6).symm.trans h
        refine sp_aload_n dX11_answer_49 rfl rfl ?_
        refine sp_bipush (v := (-5)) dX11_answer_50 (by decide) ?_
        obtain ⟨x13, hx13, h⟩ := Option.bind_eq_some_iff.mp h
        refine sp_cV (M1 := x13.2) (r := some (.int x13.1)) (o := 103) (st := []) (c := 10) (RX11, TX11, 56) [.int (-5)] [.int (-5), .ref 103] [.int x13.1] dX11_answer_52 okX11_tell tw_1388 tw_1390 tw_27 (by decide) (by decide) rfl (Nat.le_of_ble_eq_true rfl) rfl rfl rfl rfl (wsI_103 hs) (fun Q hQ => tX11_tell hG hx13 hQ) ?_
        cases h
        exact sp_iret dX11_answer_55 (ty := .int) rfl rfl (fun _ => hQ)
    · have h := (if_pos hc4).symm.trans h
      refine sp_aload_n dX11_answer_29 rfl rfl ?_
      refine sp_bipush (v := (-2)) dX11_answer_30 (by decide) ?_
      obtain ⟨x14, hx14, h⟩ := Option.bind_eq_some_iff.mp h
      refine sp_cV (M1 := x14.2) (r := some (.int x14.1)) (o := 103) (st := []) (c := 10) (RX11, TX11, 56) [.int (-2)] [.int (-2), .ref 103] [.int x14.1] dX11_answer_32 okX11_tell tw_1388 tw_1390 tw_27 (by decide) (by decide) rfl (Nat.le_of_ble_eq_true rfl) rfl rfl rfl rfl (wsI_103 hs) (fun Q hQ => tX11_tell hG hx14 hQ) ?_
      cases h
      exact sp_iret dX11_answer_35 (ty := .int) rfl rfl (fun _ => hQ)
  · have h := (if_pos hc2).symm.trans h
    refine sp_aload_n dX11_answer_15 rfl rfl ?_
    refine sp_iconst (v := (-1)) dX11_answer_16 (by decide) ?_
    obtain ⟨x15, hx15, h⟩ := Option.bind_eq_some_iff.mp h
    refine sp_cV (M1 := x15.2) (r := some (.int x15.1)) (o := 103) (st := []) (c := 10) (RX11, TX11, 56) [.int (-1)] [.int (-1), .ref 103] [.int x15.1] dX11_answer_17 okX11_tell tw_1388 tw_1390 tw_27 (by decide) (by decide) rfl (Nat.le_of_ble_eq_true rfl) rfl rfl rfl rfl (wsI_103 hs) (fun Q hQ => tX11_tell hG hx15 hQ) ?_
    cases h
    exact sp_iret dX11_answer_20 (ty := .int) rfl rfl (fun _ => hQ)
def fX11_forget (M : sp_Mem) : Option (Int32 × sp_Mem) :=
  sp_do (sp_setI M 103 0 0) fun M1 => sp_do ((sp_I M1 105 2)) fun u2 => sp_do (sp_setI M1 105 2 0) fun M3 => some (u2, M3)
set_option maxRecDepth 100000 in
set_option maxHeartbeats 4000000 in
theorem tX11_forget {g : sp_G} {Ω : sp_Mem → Prop} {Q : sp_Qt} {p : (Int32 × sp_Mem)} (hG : sp_Ok Ω) {M : sp_Mem} (h : fX11_forget M = some p) (hQ : Q (some (.int p.1)) p.2) : sp_Mt g Ω mX11_forget 0 0 [.ref 103] M Q := by
  unfold fX11_forget at h
  refine sp_Mt.of [some (.ref 103), none] (by decide) (by simp [sp_ent, Value.category]) rfl ?_
  refine sp_aload_n dX11_forget_0 rfl rfl ?_
  refine sp_iconst (v := 0) dX11_forget_1 (by decide) ?_
  refine sp_use (fun ho => ?_)
  have hs := hG.1 _ ho
  obtain ⟨M1, hM1, h⟩ := sp_do_e h
  refine sp_putI2 (RX11, TX11, 56) hG dX11_forget_2 clX11 (j := 0) (by decide) tw_1215 rfl (Or.inl rfl) (wsI_103 hs) hM1 ?_
  refine sp_aload_n dX11_forget_5 rfl rfl ?_
  refine sp_use (fun ho => ?_)
  have hs := hG.1 _ ho
  refine sp_getR (RX11, TX11, 56) dX11_forget_6 clX11 (j := 3) (by decide) tw_1218 (wsI_103 hs) (Or.inr ⟨_, rfl⟩) (wsP_103_3 hs) ?_
  refine sp_iconst (v := 2) dX11_forget_9 (by decide) ?_
  refine sp_iald2 (j := 2) dX11_forget_10 (wsA_105 hs) (wsN_105 hs) rfl ?_
  obtain ⟨u2, hu2, h⟩ := sp_do_e h
  refine sp_topi hu2 ?_
  refine sp_istore_n [some (.ref 103), some (.int u2)] dX11_forget_11 rfl (by decide) rfl ?_
  refine sp_aload_n dX11_forget_12 rfl rfl ?_
  refine sp_getR (RX11, TX11, 56) dX11_forget_13 clX11 (j := 3) (by decide) tw_1218 (wsI_103 hs) (Or.inr ⟨_, rfl⟩) (wsP_103_3 hs) ?_
  refine sp_iconst (v := 2) dX11_forget_16 (by decide) ?_
  refine sp_iconst (v := 0) dX11_forget_17 (by decide) ?_
  obtain ⟨M3, hM3, h⟩ := sp_do_e h
  refine sp_iast2 (j := 2) hG dX11_forget_18 (wsA_105 hs) (wsN_105 hs) rfl hM3 ?_
  refine sp_iload_n dX11_forget_19 rfl rfl ?_
  cases h
  exact sp_iret dX11_forget_20 (ty := .int) rfl rfl (fun _ => hQ)
def fX11_whichAre_l19 (F : Nat) (M0 : sp_Mem) (kx : Int32 → Int32 → Int32 → Option Int32) : Nat → Int32 → Int32 → Int32 → Int32 → Option Int32
  | 0, _, _, _, _ => none
  | n + 1, a1, a2, a3, a4 =>
  if (sp_I M0 105 2) ≤ a4 then (kx a1 a2 a3) else (if a3 = 0 then ((fX11_whichAre_l19 F M0 kx n) a1 a2 0 (a4 + 1)) else ((sp_ix 5480 (67 + (2 * a4))).bind fun j4 => (sp_ix 5480 (62 + (sp_I M0 105 j4))).bind fun j5 => (sp_ix 5480 ((67 + (2 * a4)) + 1)).bind fun j6 => sp_do ((if (((sp_I M0 105 j5) >>> (a2 &&& 31)) &&& 1) = (sp_I M0 105 j6) then 1 else 0)) fun u8 => (fX11_whichAre_l19 F M0 kx n) a1 a2 u8 (a4 + 1)))
def fX11_whichAre_l4 (F : Nat) (M0 : sp_Mem) (kx : Int32 → Option Int32) : Nat → Int32 → Int32 → Option Int32
  | 0, _, _ => none
  | n + 1, a1, a2 =>
  if (sp_I M0 105 0) ≤ a2 then (kx a1) else (fX11_whichAre_l19 F M0 (fun b10 b11 b12 => if b12 = 0 then ((fX11_whichAre_l4 F M0 kx n) (b10 ||| 0) (b11 + 1)) else (sp_do ((b10 ||| (1 <<< (b11 &&& 31)))) fun u14 => (fX11_whichAre_l4 F M0 kx n) u14 (b11 + 1))) F a1 a2 1 0)
def fX11_whichAre (F : Nat) (M0 : sp_Mem) : Option Int32 :=
  fX11_whichAre_l4 F M0 (fun b16 => some b16) F 0 0
set_option maxRecDepth 100000 in
set_option maxHeartbeats 4000000 in
theorem tX11_whichAre_l19 {g : sp_G} {Ω : sp_Mem → Prop} {Q : sp_Qt} {F : Nat} {M0 : sp_Mem} {p : Int32} (hG : sp_Ok Ω)  {kx : Int32 → Int32 → Int32 → Option Int32} (hQ : Q (some (.int p)) M0) (hx : ∀ (a1 : Int32) (a2 : Int32) (a3 : Int32), kx a1 a2 a3 = some p → sp_Wp g Ω mX11_whichAre 0 0 87 [some (.ref 103), some (.int a1), some (.int a2), some (.int a3), none] [] M0 Q) : ∀ (n : Nat) (a1 : Int32) (a2 : Int32) (a3 : Int32) (a4 : Int32), fX11_whichAre_l19 F M0 kx n a1 a2 a3 a4 = some p → sp_Wp g Ω mX11_whichAre 0 0 19 [some (.ref 103), some (.int a1), some (.int a2), some (.int a3), some (.int a4)] [] M0 Q := by
  intro n
  induction n with
  | zero =>
    intro a1 a2 a3 a4 h
    rw [fX11_whichAre_l19] at h
    cases h
  | succ n ih =>
    intro a1 a2 a3 a4 h
    rw [fX11_whichAre_l19] at h
    refine sp_iload dX11_whichAre_19 rfl ?_
    refine sp_aload_n dX11_whichAre_21 rfl rfl ?_
    refine sp_use (fun ho => ?_)
    have hs := hG.1 _ ho
    refine sp_getR (RX11, TX11, 56) dX11_whichAre_22 clX11 (j := 3) (by decide) tw_1218 (wsI_103 hs) (Or.inr ⟨_, rfl⟩) (wsP_103_3 hs) ?_
    refine sp_iconst (v := 2) dX11_whichAre_25 (by decide) ?_
    refine sp_iald2 (j := 2) dX11_whichAre_26 (wsA_105 hs) (wsN_105 hs) rfl ?_
    refine sp_icmp_ge (tgt := 87) dX11_whichAre_27 (by decide) (fun hc2 => ?_) (fun hc2 => ?_)
    · have h := (if_pos hc2).symm.trans h
      refine sp_weak [true, true, true, true, false] [some (.ref 103), some (.int a1), some (.int a2), some (.int a3), none] rfl ?_
      exact hx _ _ _ h
    · have h := (if_neg hc2).symm.trans h
      refine sp_iload_n dX11_whichAre_30 rfl rfl ?_
      refine sp_if_eq (tgt := 79) dX11_whichAre_31 (by decide) (fun hc3 => ?_) (fun hc3 => ?_)
      · have h := (if_pos hc3).symm.trans h
        refine sp_iconst (v := 0) dX11_whichAre_79 (by decide) ?_
        refine sp_istore_n [some (.ref 103), some (.int a1), some (.int a2), some (.int 0), some (.int a4)] dX11_whichAre_80 rfl (by decide) rfl ?_
        refine sp_iinc (v := (a4 + 1)) [some (.ref 103), some (.int a1), some (.int a2), some (.int 0), some (.int (a4 + 1))] dX11_whichAre_81 rfl rfl (by decide) rfl ?_
        refine sp_goto (tgt := 19) dX11_whichAre_84 (by decide) ?_
        refine sp_weak [true, true, true, true, true] [some (.ref 103), some (.int a1), some (.int a2), some (.int 0), some (.int (a4 + 1))] rfl ?_
        exact ih _ _ _ _ h
      · have h := (if_neg hc3).symm.trans h
        refine sp_aload_n dX11_whichAre_34 rfl rfl ?_
        refine sp_getR (RX11, TX11, 56) dX11_whichAre_35 clX11 (j := 3) (by decide) tw_1218 (wsI_103 hs) (Or.inr ⟨_, rfl⟩) (wsP_103_3 hs) ?_
        refine sp_bipush (v := 62) dX11_whichAre_38 (by decide) ?_
        refine sp_aload_n dX11_whichAre_40 rfl rfl ?_
        refine sp_getR (RX11, TX11, 56) dX11_whichAre_41 clX11 (j := 3) (by decide) tw_1218 (wsI_103 hs) (Or.inr ⟨_, rfl⟩) (wsP_103_3 hs) ?_
        refine sp_bipush (v := 67) dX11_whichAre_44 (by decide) ?_
        refine sp_iconst (v := 2) dX11_whichAre_46 (by decide) ?_
        refine sp_iload dX11_whichAre_47 rfl ?_
        refine sp_imul dX11_whichAre_49 ?_
        refine sp_iadd dX11_whichAre_50 ?_
        obtain ⟨j4, hj4, h⟩ := Option.bind_eq_some_iff.mp h
        refine sp_iald2 (j := j4) dX11_whichAre_51 (wsA_105 hs) (wsN_105 hs) hj4 ?_
        refine sp_iadd dX11_whichAre_52 ?_
        obtain ⟨j5, hj5, h⟩ := Option.bind_eq_some_iff.mp h
        refine sp_iald2 (j := j5) dX11_whichAre_53 (wsA_105 hs) (wsN_105 hs) hj5 ?_
        refine sp_iload_n dX11_whichAre_54 rfl rfl ?_
        refine sp_ishr dX11_whichAre_55 ?_
        refine sp_iconst (v := 1) dX11_whichAre_56 (by decide) ?_
        refine sp_iand dX11_whichAre_57 ?_
        refine sp_aload_n dX11_whichAre_58 rfl rfl ?_
        refine sp_getR (RX11, TX11, 56) dX11_whichAre_59 clX11 (j := 3) (by decide) tw_1218 (wsI_103 hs) (Or.inr ⟨_, rfl⟩) (wsP_103_3 hs) ?_
        refine sp_bipush (v := 67) dX11_whichAre_62 (by decide) ?_
        refine sp_iconst (v := 2) dX11_whichAre_64 (by decide) ?_
        refine sp_iload dX11_whichAre_65 rfl ?_
        refine sp_imul dX11_whichAre_67 ?_
        refine sp_iadd dX11_whichAre_68 ?_
        refine sp_iconst (v := 1) dX11_whichAre_69 (by decide) ?_
        refine sp_iadd dX11_whichAre_70 ?_
        obtain ⟨j6, hj6, h⟩ := Option.bind_eq_some_iff.mp h
        refine sp_iald2 (j := j6) dX11_whichAre_71 (wsA_105 hs) (wsN_105 hs) hj6 ?_
        suffices hj : sp_Wp g Ω mX11_whichAre 0 0 80 [some (.ref 103), some (.int a1), some (.int a2), none, some (.int a4)] [.int (if (((sp_I M0 105 j5) >>> (a2 &&& 31)) &&& 1) = (sp_I M0 105 j6) then 1 else 0)] M0 Q by
          refine sp_icmp_ne (tgt := 79) dX11_whichAre_72 (by decide) (fun hc7 => ?_) (fun hc7 => ?_)
          · refine sp_iconst (v := 0) dX11_whichAre_79 (by decide) ?_
            refine sp_weak [true, true, true, false, true] [some (.ref 103), some (.int a1), some (.int a2), none, some (.int a4)] rfl ?_
            simp only [if_neg hc7] at hj
            exact hj
          · refine sp_iconst (v := 1) dX11_whichAre_75 (by decide) ?_
            refine sp_goto (tgt := 80) dX11_whichAre_76 (by decide) ?_
            refine sp_weak [true, true, true, false, true] [some (.ref 103), some (.int a1), some (.int a2), none, some (.int a4)] rfl ?_
            simp only [if_pos hc7] at hj
            exact hj
        obtain ⟨u8, hu8, h⟩ := sp_do_e h
        refine sp_topi hu8 ?_
        refine sp_istore_n [some (.ref 103), some (.int a1), some (.int a2), some (.int u8), some (.int a4)] dX11_whichAre_80 rfl (by decide) rfl ?_
        refine sp_iinc (v := (a4 + 1)) [some (.ref 103), some (.int a1), some (.int a2), some (.int u8), some (.int (a4 + 1))] dX11_whichAre_81 rfl rfl (by decide) rfl ?_
        refine sp_goto (tgt := 19) dX11_whichAre_84 (by decide) ?_
        refine sp_weak [true, true, true, true, true] [some (.ref 103), some (.int a1), some (.int a2), some (.int u8), some (.int (a4 + 1))] rfl ?_
        exact ih _ _ _ _ h
set_option maxRecDepth 100000 in
set_option maxHeartbeats 4000000 in
theorem tX11_whichAre_l4 {g : sp_G} {Ω : sp_Mem → Prop} {Q : sp_Qt} {F : Nat} {M0 : sp_Mem} {p : Int32} (hG : sp_Ok Ω)  {kx : Int32 → Option Int32} (hQ : Q (some (.int p)) M0) (hx : ∀ (a1 : Int32), kx a1 = some p → sp_Wp g Ω mX11_whichAre 0 0 107 [none, some (.int a1), none, none, none] [] M0 Q) : ∀ (n : Nat) (a1 : Int32) (a2 : Int32), fX11_whichAre_l4 F M0 kx n a1 a2 = some p → sp_Wp g Ω mX11_whichAre 0 0 4 [some (.ref 103), some (.int a1), some (.int a2), none, none] [] M0 Q := by
  intro n
  induction n with
  | zero =>
    intro a1 a2 h
    rw [fX11_whichAre_l4] at h
    cases h
  | succ n ih =>
    intro a1 a2 h
    rw [fX11_whichAre_l4] at h
    refine sp_iload_n dX11_whichAre_4 rfl rfl ?_
    refine sp_aload_n dX11_whichAre_5 rfl rfl ?_
    refine sp_use (fun ho => ?_)
    have hs := hG.1 _ ho
    refine sp_getR (RX11, TX11, 56) dX11_whichAre_6 clX11 (j := 3) (by decide) tw_1218 (wsI_103 hs) (Or.inr ⟨_, rfl⟩) (wsP_103_3 hs) ?_
    refine sp_iconst (v := 0) dX11_whichAre_9 (by decide) ?_
    refine sp_iald2 (j := 0) dX11_whichAre_10 (wsA_105 hs) (wsN_105 hs) rfl ?_
    refine sp_icmp_ge (tgt := 107) dX11_whichAre_11 (by decide) (fun hc1 => ?_) (fun hc1 => ?_)
    · have h := (if_pos hc1).symm.trans h
      refine sp_weak [false, true, false, false, false] [none, some (.int a1), none, none, none] rfl ?_
      exact hx _ h
    · have h := (if_neg hc1).symm.trans h
      refine sp_iconst (v := 1) dX11_whichAre_14 (by decide) ?_
      refine sp_istore_n [some (.ref 103), some (.int a1), some (.int a2), some (.int 1), none] dX11_whichAre_15 rfl (by decide) rfl ?_
      refine sp_iconst (v := 0) dX11_whichAre_16 (by decide) ?_
      refine sp_istore [some (.ref 103), some (.int a1), some (.int a2), some (.int 1), some (.int 0)] dX11_whichAre_17 (by decide) rfl ?_
      refine sp_weak [true, true, true, true, true] [some (.ref 103), some (.int a1), some (.int a2), some (.int 1), some (.int 0)] rfl ?_
      refine tX11_whichAre_l19 hG hQ (fun b10 b11 b12 h => ?_) F _ _ _ _ h
      refine sp_iload_n dX11_whichAre_87 rfl rfl ?_
      refine sp_iload_n dX11_whichAre_88 rfl rfl ?_
      refine sp_if_eq (tgt := 98) dX11_whichAre_89 (by decide) (fun hc13 => ?_) (fun hc13 => ?_)
      · have h := (if_pos hc13).symm.trans h
        refine sp_iconst (v := 0) dX11_whichAre_98 (by decide) ?_
        refine sp_ior dX11_whichAre_99 ?_
        refine sp_istore_n [some (.ref 103), some (.int (b10 ||| 0)), some (.int b11), some (.int b12), none] dX11_whichAre_100 rfl (by decide) rfl ?_
        refine sp_iinc (v := (b11 + 1)) [some (.ref 103), some (.int (b10 ||| 0)), some (.int (b11 + 1)), some (.int b12), none] dX11_whichAre_101 rfl rfl (by decide) rfl ?_
        refine sp_goto (tgt := 4) dX11_whichAre_104 (by decide) ?_
        refine sp_weak [true, true, true, false, false] [some (.ref 103), some (.int (b10 ||| 0)), some (.int (b11 + 1)), none, none] rfl ?_
        exact ih _ _ h
      · have h := (if_neg hc13).symm.trans h
        refine sp_iconst (v := 1) dX11_whichAre_92 (by decide) ?_
        refine sp_iload_n dX11_whichAre_93 rfl rfl ?_
        refine sp_ishl dX11_whichAre_94 ?_
        refine sp_goto (tgt := 99) dX11_whichAre_95 (by decide) ?_
        refine sp_ior dX11_whichAre_99 ?_
        obtain ⟨u14, hu14, h⟩ := sp_do_e h
        refine sp_topi hu14 ?_
        refine sp_istore_n [some (.ref 103), some (.int u14), some (.int b11), some (.int b12), none] dX11_whichAre_100 rfl (by decide) rfl ?_
        refine sp_iinc (v := (b11 + 1)) [some (.ref 103), some (.int u14), some (.int (b11 + 1)), some (.int b12), none] dX11_whichAre_101 rfl rfl (by decide) rfl ?_
        refine sp_goto (tgt := 4) dX11_whichAre_104 (by decide) ?_
        refine sp_weak [true, true, true, false, false] [some (.ref 103), some (.int u14), some (.int (b11 + 1)), none, none] rfl ?_
        exact ih _ _ h
set_option maxRecDepth 100000 in
set_option maxHeartbeats 4000000 in
theorem tX11_whichAre {g : sp_G} {Ω : sp_Mem → Prop} {Q : sp_Qt} {F : Nat} {M0 : sp_Mem} {p : Int32} (hG : sp_Ok Ω) (h : fX11_whichAre F M0 = some p) (hQ : Q (some (.int p)) M0) : sp_Mt g Ω mX11_whichAre 0 0 [.ref 103] M0 Q := by
  unfold fX11_whichAre at h
  refine sp_Mt.of [some (.ref 103), none, none, none, none] (by decide) (by simp [sp_ent, Value.category]) rfl ?_
  refine sp_iconst (v := 0) dX11_whichAre_0 (by decide) ?_
  refine sp_istore_n [some (.ref 103), some (.int 0), none, none, none] dX11_whichAre_1 rfl (by decide) rfl ?_
  refine sp_iconst (v := 0) dX11_whichAre_2 (by decide) ?_
  refine sp_istore_n [some (.ref 103), some (.int 0), some (.int 0), none, none] dX11_whichAre_3 rfl (by decide) rfl ?_
  refine sp_weak [true, true, true, false, false] [some (.ref 103), some (.int 0), some (.int 0), none, none] rfl ?_
  refine tX11_whichAre_l4 hG hQ (fun b16 h => ?_) F _ _ h
  refine sp_iload_n dX11_whichAre_107 rfl rfl ?_
  cases h
  exact sp_iret dX11_whichAre_108 (ty := .int) rfl rfl (fun _ => hQ)
def fX11_which (F : Nat) (M : sp_Mem) : Option (Int32 × sp_Mem) :=
  sp_do (sp_setI M 103 0 0) fun M1 => (fX11_whichAre F M1).bind fun v2 => some (v2, M1)
set_option maxRecDepth 100000 in
set_option maxHeartbeats 4000000 in
theorem tX11_which {g : sp_G} {Ω : sp_Mem → Prop} {Q : sp_Qt} {F : Nat} {p : (Int32 × sp_Mem)} (hG : sp_Ok Ω) {M : sp_Mem} (h : fX11_which F M = some p) (hQ : Q (some (.int p.1)) p.2) : sp_Mt g Ω mX11_which 0 0 [.ref 103] M Q := by
  unfold fX11_which at h
  refine sp_Mt.of [some (.ref 103)] (by decide) (by simp [sp_ent, Value.category]) rfl ?_
  refine sp_aload_n dX11_which_0 rfl rfl ?_
  refine sp_iconst (v := 0) dX11_which_1 (by decide) ?_
  refine sp_use (fun ho => ?_)
  have hs := hG.1 _ ho
  obtain ⟨M1, hM1, h⟩ := sp_do_e h
  refine sp_putI2 (RX11, TX11, 56) hG dX11_which_2 clX11 (j := 0) (by decide) tw_1215 rfl (Or.inl rfl) (wsI_103 hs) hM1 ?_
  refine sp_aload_n dX11_which_5 rfl rfl ?_
  refine sp_use (fun ho => ?_)
  have hs := hG.1 _ ho
  obtain ⟨v2, hv2, h⟩ := Option.bind_eq_some_iff.mp h
  refine sp_cV (M1 := M1) (r := some (.int v2)) (o := 103) (st := []) (c := 10) (RX11, TX11, 56) [] [.ref 103] [.int v2] dX11_which_6 okX11_whichAre tw_1785 tw_1787 tw_85 (by decide) (by decide) rfl (Nat.le_of_ble_eq_true rfl) rfl rfl rfl rfl (wsI_103 hs) (fun Q hQ => tX11_whichAre hG hv2 hQ) ?_
  cases h
  exact sp_iret dX11_which_9 (ty := .int) rfl rfl (fun _ => hQ)
def fX11_let_j103 (F : Nat) (kb : Int32 → Int32 → Int32 → Int32 → Int32 → sp_Mem → Option (Int32 × sp_Mem)) (kx : Int32 → Int32 → Int32 → sp_Mem → Option (Int32 × sp_Mem)) (a1 : Int32) (a2 : Int32) (a3 : Int32) (a5 : Int32) (a7 : Int32) (s0 : Int32) (M : sp_Mem) : Option (Int32 × sp_Mem) :=
  sp_do ((if a3 ≤ a7 then a3 else a7)) fun u13 => kb a1 a2 u13 s0 (a5 + 1) M
def fX11_let_j88 (F : Nat) (kb : Int32 → Int32 → Int32 → Int32 → Int32 → sp_Mem → Option (Int32 × sp_Mem)) (kx : Int32 → Int32 → Int32 → sp_Mem → Option (Int32 × sp_Mem)) (a1 : Int32) (a2 : Int32) (a3 : Int32) (a4 : Int32) (a5 : Int32) (s0 : Int32) (M : sp_Mem) : Option (Int32 × sp_Mem) :=
  fX11_let_j103 F kb kx a1 a2 a3 a5 s0 (if a3 ≤ s0 then a4 else a5) M
def fX11_let_l36 (F : Nat) (kx : Int32 → Int32 → Int32 → sp_Mem → Option (Int32 × sp_Mem)) : Nat → Int32 → Int32 → Int32 → Int32 → Int32 → sp_Mem → Option (Int32 × sp_Mem)
  | 0, _, _, _, _, _, _ => none
  | n + 1, a1, a2, a3, a4, a5, M =>
  if (sp_I M 105 1) ≤ a5 then (kx a1 a3 a4 M) else ((sp_ix 5480 (62 + a5)).bind fun j6 => (fX11_ones F (a2 &&& (sp_I M 105 j6))).bind fun v7 => (fX11_ones F a2).bind fun v8 => if v7 ≤ (v8 - v7) then ((fX11_ones F a2).bind fun v10 => fX11_let_j88 F (fX11_let_l36 F kx n) kx a1 a2 a3 a4 a5 (v10 - v7) M) else (fX11_let_j88 F (fX11_let_l36 F kx n) kx a1 a2 a3 a4 a5 v7 M))
def fX11_let (F : Nat) (M : sp_Mem) (a1 : Int32) : Option (Int32 × sp_Mem) :=
  sp_do (sp_setI M 103 0 0) fun M1 => (fX11_whichAre F M1).bind fun v2 => if (fX11_in (Int32.toInt64 a1) 0 1) = 0 then (some ((-1), M1)) else (if v2 = 0 then (some ((-1), M1)) else (fX11_let_l36 F (fun b15 b16 b17 M14 => some ((if b17 = (-1) then b17 else (if b15 = 0 then b17 else b16)), M14)) F a1 v2 100000000 (-1) 0 M1))
set_option maxRecDepth 100000 in
set_option maxHeartbeats 4000000 in
theorem tX11_let_j103 {g : sp_G} {Ω : sp_Mem → Prop} {Q : sp_Qt} {F : Nat} {p : (Int32 × sp_Mem)} (hG : sp_Ok Ω)  {kb : Int32 → Int32 → Int32 → Int32 → Int32 → sp_Mem → Option (Int32 × sp_Mem)} {kx : Int32 → Int32 → Int32 → sp_Mem → Option (Int32 × sp_Mem)} (hQ : Q (some (.int p.1)) p.2) (hb : ∀ (a1 : Int32) (a2 : Int32) (a3 : Int32) (a4 : Int32) (a5 : Int32) (M : sp_Mem), kb a1 a2 a3 a4 a5 M = some p → sp_Wp g Ω mX11_let 0 0 36 [some (.ref 103), some (.int a1), some (.int a2), some (.int a3), some (.int a4), some (.int a5), none, none] [] M Q) (hx : ∀ (a1 : Int32) (a3 : Int32) (a4 : Int32) (M : sp_Mem), kx a1 a3 a4 M = some p → sp_Wp g Ω mX11_let 0 0 124 [none, some (.int a1), none, some (.int a3), some (.int a4), none, none, none] [] M Q) (a1 : Int32) (a2 : Int32) (a3 : Int32) (a5 : Int32) (a7 : Int32) (s0 : Int32) (M : sp_Mem) (h : fX11_let_j103 F kb kx a1 a2 a3 a5 a7 s0 M = some p) : sp_Wp g Ω mX11_let 0 0 103 [some (.ref 103), some (.int a1), some (.int a2), some (.int a3), none, some (.int a5), none, some (.int a7)] [.int s0] M Q := by
  unfold fX11_let_j103 at h
  refine sp_istore [some (.ref 103), some (.int a1), some (.int a2), some (.int a3), some (.int s0), some (.int a5), none, some (.int a7)] dX11_let_103 (by decide) rfl ?_
  refine sp_iload dX11_let_105 rfl ?_
  refine sp_iload_n dX11_let_107 rfl rfl ?_
  suffices hj : sp_Wp g Ω mX11_let 0 0 117 [some (.ref 103), some (.int a1), some (.int a2), none, some (.int s0), some (.int a5), none, none] [.int (if a3 ≤ a7 then a3 else a7)] M Q by
    refine sp_icmp_ge (tgt := 116) dX11_let_108 (by decide) (fun hc12 => ?_) (fun hc12 => ?_)
    · refine sp_iload_n dX11_let_116 rfl rfl ?_
      refine sp_weak [true, true, true, false, true, true, false, false] [some (.ref 103), some (.int a1), some (.int a2), none, some (.int s0), some (.int a5), none, none] rfl ?_
      simp only [if_pos hc12] at hj
      exact hj
    · refine sp_iload dX11_let_111 rfl ?_
      refine sp_goto (tgt := 117) dX11_let_113 (by decide) ?_
      refine sp_weak [true, true, true, false, true, true, false, false] [some (.ref 103), some (.int a1), some (.int a2), none, some (.int s0), some (.int a5), none, none] rfl ?_
      simp only [if_neg hc12] at hj
      exact hj
  obtain ⟨u13, hu13, h⟩ := sp_do_e h
  refine sp_topi hu13 ?_
  refine sp_istore_n [some (.ref 103), some (.int a1), some (.int a2), some (.int u13), some (.int s0), some (.int a5), none, none] dX11_let_117 rfl (by decide) rfl ?_
  refine sp_iinc (v := (a5 + 1)) [some (.ref 103), some (.int a1), some (.int a2), some (.int u13), some (.int s0), some (.int (a5 + 1)), none, none] dX11_let_118 rfl rfl (by decide) rfl ?_
  refine sp_goto (tgt := 36) dX11_let_121 (by decide) ?_
  refine sp_weak [true, true, true, true, true, true, false, false] [some (.ref 103), some (.int a1), some (.int a2), some (.int u13), some (.int s0), some (.int (a5 + 1)), none, none] rfl ?_
  exact hb _ _ _ _ _ _ h
set_option maxRecDepth 100000 in
set_option maxHeartbeats 4000000 in
theorem tX11_let_j88 {g : sp_G} {Ω : sp_Mem → Prop} {Q : sp_Qt} {F : Nat} {p : (Int32 × sp_Mem)} (hG : sp_Ok Ω)  {kb : Int32 → Int32 → Int32 → Int32 → Int32 → sp_Mem → Option (Int32 × sp_Mem)} {kx : Int32 → Int32 → Int32 → sp_Mem → Option (Int32 × sp_Mem)} (hQ : Q (some (.int p.1)) p.2) (hb : ∀ (a1 : Int32) (a2 : Int32) (a3 : Int32) (a4 : Int32) (a5 : Int32) (M : sp_Mem), kb a1 a2 a3 a4 a5 M = some p → sp_Wp g Ω mX11_let 0 0 36 [some (.ref 103), some (.int a1), some (.int a2), some (.int a3), some (.int a4), some (.int a5), none, none] [] M Q) (hx : ∀ (a1 : Int32) (a3 : Int32) (a4 : Int32) (M : sp_Mem), kx a1 a3 a4 M = some p → sp_Wp g Ω mX11_let 0 0 124 [none, some (.int a1), none, some (.int a3), some (.int a4), none, none, none] [] M Q) (a1 : Int32) (a2 : Int32) (a3 : Int32) (a4 : Int32) (a5 : Int32) (s0 : Int32) (M : sp_Mem) (h : fX11_let_j88 F kb kx a1 a2 a3 a4 a5 s0 M = some p) : sp_Wp g Ω mX11_let 0 0 88 [some (.ref 103), some (.int a1), some (.int a2), some (.int a3), some (.int a4), some (.int a5), none, none] [.int s0] M Q := by
  unfold fX11_let_j88 at h
  refine sp_istore [some (.ref 103), some (.int a1), some (.int a2), some (.int a3), some (.int a4), some (.int a5), none, some (.int s0)] dX11_let_88 (by decide) rfl ?_
  refine sp_iload dX11_let_90 rfl ?_
  refine sp_iload_n dX11_let_92 rfl rfl ?_
  suffices hj : sp_Wp g Ω mX11_let 0 0 103 [some (.ref 103), some (.int a1), some (.int a2), some (.int a3), none, some (.int a5), none, some (.int s0)] [.int (if a3 ≤ s0 then a4 else a5)] M Q by
    refine sp_icmp_ge (tgt := 101) dX11_let_93 (by decide) (fun hc11 => ?_) (fun hc11 => ?_)
    · refine sp_iload dX11_let_101 rfl ?_
      refine sp_weak [true, true, true, true, false, true, false, true] [some (.ref 103), some (.int a1), some (.int a2), some (.int a3), none, some (.int a5), none, some (.int s0)] rfl ?_
      simp only [if_pos hc11] at hj
      exact hj
    · refine sp_iload dX11_let_96 rfl ?_
      refine sp_goto (tgt := 103) dX11_let_98 (by decide) ?_
      refine sp_weak [true, true, true, true, false, true, false, true] [some (.ref 103), some (.int a1), some (.int a2), some (.int a3), none, some (.int a5), none, some (.int s0)] rfl ?_
      simp only [if_neg hc11] at hj
      exact hj
  refine sp_weak [true, true, true, true, false, true, false, true] [some (.ref 103), some (.int a1), some (.int a2), some (.int a3), none, some (.int a5), none, some (.int s0)] rfl ?_
  exact tX11_let_j103 hG hQ hb hx _ _ _ _ _ _ _ h
set_option maxRecDepth 100000 in
set_option maxHeartbeats 4000000 in
theorem tX11_let_l36 {g : sp_G} {Ω : sp_Mem → Prop} {Q : sp_Qt} {F : Nat} {p : (Int32 × sp_Mem)} (hG : sp_Ok Ω)  {kx : Int32 → Int32 → Int32 → sp_Mem → Option (Int32 × sp_Mem)} (hQ : Q (some (.int p.1)) p.2) (hx : ∀ (a1 : Int32) (a3 : Int32) (a4 : Int32) (M : sp_Mem), kx a1 a3 a4 M = some p → sp_Wp g Ω mX11_let 0 0 124 [none, some (.int a1), none, some (.int a3), some (.int a4), none, none, none] [] M Q) : ∀ (n : Nat) (a1 : Int32) (a2 : Int32) (a3 : Int32) (a4 : Int32) (a5 : Int32) (M : sp_Mem), fX11_let_l36 F kx n a1 a2 a3 a4 a5 M = some p → sp_Wp g Ω mX11_let 0 0 36 [some (.ref 103), some (.int a1), some (.int a2), some (.int a3), some (.int a4), some (.int a5), none, none] [] M Q := by
  intro n
  induction n with
  | zero =>
    intro a1 a2 a3 a4 a5 M h
    rw [fX11_let_l36] at h
    cases h
  | succ n ih =>
    intro a1 a2 a3 a4 a5 M h
    rw [fX11_let_l36] at h
    refine sp_iload dX11_let_36 rfl ?_
    refine sp_aload_n dX11_let_38 rfl rfl ?_
    refine sp_use (fun ho => ?_)
    have hs := hG.1 _ ho
    refine sp_getR (RX11, TX11, 56) dX11_let_39 clX11 (j := 3) (by decide) tw_1218 (wsI_103 hs) (Or.inr ⟨_, rfl⟩) (wsP_103_3 hs) ?_
    refine sp_iconst (v := 1) dX11_let_42 (by decide) ?_
    refine sp_iald2 (j := 1) dX11_let_43 (wsA_105 hs) (wsN_105 hs) rfl ?_
    refine sp_icmp_ge (tgt := 124) dX11_let_44 (by decide) (fun hc5 => ?_) (fun hc5 => ?_)
    · have h := (if_pos hc5).symm.trans h
      refine sp_weak [false, true, false, true, true, false, false, false] [none, some (.int a1), none, some (.int a3), some (.int a4), none, none, none] rfl ?_
      exact hx _ _ _ _ h
    · have h := (if_neg hc5).symm.trans h
      refine sp_iload_n dX11_let_47 rfl rfl ?_
      refine sp_aload_n dX11_let_48 rfl rfl ?_
      refine sp_getR (RX11, TX11, 56) dX11_let_49 clX11 (j := 3) (by decide) tw_1218 (wsI_103 hs) (Or.inr ⟨_, rfl⟩) (wsP_103_3 hs) ?_
      refine sp_bipush (v := 62) dX11_let_52 (by decide) ?_
      refine sp_iload dX11_let_54 rfl ?_
      refine sp_iadd dX11_let_56 ?_
      obtain ⟨j6, hj6, h⟩ := Option.bind_eq_some_iff.mp h
      refine sp_iald2 (j := j6) dX11_let_57 (wsA_105 hs) (wsN_105 hs) hj6 ?_
      refine sp_iand dX11_let_58 ?_
      obtain ⟨v7, hv7, h⟩ := Option.bind_eq_some_iff.mp h
      refine sp_cS (M1 := M) (r := some (.int v7)) (st := []) [.int (a2 &&& (sp_I M 105 j6))] [.int (a2 &&& (sp_I M 105 j6))] [.int v7] dX11_let_59 okX11_ones tw_1793 tw_1794 (by decide) (by decide) rfl (Nat.le_of_ble_eq_true rfl) rfl rfl (fun Q hQ => tX11_ones hG hv7 hQ) ?_
      refine sp_istore [some (.ref 103), some (.int a1), some (.int a2), some (.int a3), some (.int a4), some (.int a5), some (.int v7), none] dX11_let_62 (by decide) rfl ?_
      refine sp_iload dX11_let_64 rfl ?_
      refine sp_iload_n dX11_let_66 rfl rfl ?_
      obtain ⟨v8, hv8, h⟩ := Option.bind_eq_some_iff.mp h
      refine sp_cS (M1 := M) (r := some (.int v8)) (st := [.int v7]) [.int a2] [.int a2, .int v7] [.int v8, .int v7] dX11_let_67 okX11_ones tw_1793 tw_1794 (by decide) (by decide) rfl (Nat.le_of_ble_eq_true rfl) rfl rfl (fun Q hQ => tX11_ones hG hv8 hQ) ?_
      refine sp_iload dX11_let_70 rfl ?_
      refine sp_isub dX11_let_72 ?_
      refine sp_icmp_le (tgt := 81) dX11_let_73 (by decide) (fun hc9 => ?_) (fun hc9 => ?_)
      · have h := (if_pos hc9).symm.trans h
        refine sp_iload_n dX11_let_81 rfl rfl ?_
        obtain ⟨v10, hv10, h⟩ := Option.bind_eq_some_iff.mp h
        refine sp_cS (M1 := M) (r := some (.int v10)) (st := []) [.int a2] [.int a2] [.int v10] dX11_let_82 okX11_ones tw_1793 tw_1794 (by decide) (by decide) rfl (Nat.le_of_ble_eq_true rfl) rfl rfl (fun Q hQ => tX11_ones hG hv10 hQ) ?_
        refine sp_iload dX11_let_85 rfl ?_
        refine sp_isub dX11_let_87 ?_
        refine sp_weak [true, true, true, true, true, true, false, false] [some (.ref 103), some (.int a1), some (.int a2), some (.int a3), some (.int a4), some (.int a5), none, none] rfl ?_
        exact tX11_let_j88 hG hQ ih hx _ _ _ _ _ _ _ h
      · have h := (if_neg hc9).symm.trans h
        refine sp_iload dX11_let_76 rfl ?_
        refine sp_goto (tgt := 88) dX11_let_78 (by decide) ?_
        refine sp_weak [true, true, true, true, true, true, false, false] [some (.ref 103), some (.int a1), some (.int a2), some (.int a3), some (.int a4), some (.int a5), none, none] rfl ?_
        exact tX11_let_j88 hG hQ ih hx _ _ _ _ _ _ _ h
set_option maxRecDepth 100000 in
set_option maxHeartbeats 4000000 in
theorem tX11_let {g : sp_G} {Ω : sp_Mem → Prop} {Q : sp_Qt} {F : Nat} {p : (Int32 × sp_Mem)} (hG : sp_Ok Ω) {M : sp_Mem} {a1 : Int32} (h : fX11_let F M a1 = some p) (hQ : Q (some (.int p.1)) p.2) : sp_Mt g Ω mX11_let 0 0 [.ref 103, .int a1] M Q := by
  unfold fX11_let at h
  refine sp_Mt.of [some (.ref 103), some (.int a1), none, none, none, none, none, none] (by decide) (by simp [sp_ent, Value.category]) rfl ?_
  refine sp_aload_n dX11_let_0 rfl rfl ?_
  refine sp_iconst (v := 0) dX11_let_1 (by decide) ?_
  refine sp_use (fun ho => ?_)
  have hs := hG.1 _ ho
  obtain ⟨M1, hM1, h⟩ := sp_do_e h
  refine sp_putI2 (RX11, TX11, 56) hG dX11_let_2 clX11 (j := 0) (by decide) tw_1215 rfl (Or.inl rfl) (wsI_103 hs) hM1 ?_
  refine sp_aload_n dX11_let_5 rfl rfl ?_
  refine sp_use (fun ho => ?_)
  have hs := hG.1 _ ho
  obtain ⟨v2, hv2, h⟩ := Option.bind_eq_some_iff.mp h
  refine sp_cV (M1 := M1) (r := some (.int v2)) (o := 103) (st := []) (c := 10) (RX11, TX11, 56) [] [.ref 103] [.int v2] dX11_let_6 okX11_whichAre tw_1785 tw_1787 tw_85 (by decide) (by decide) rfl (Nat.le_of_ble_eq_true rfl) rfl rfl rfl rfl (wsI_103 hs) (fun Q hQ => tX11_whichAre hG hv2 hQ) ?_
  refine sp_istore_n [some (.ref 103), some (.int a1), some (.int v2), none, none, none, none, none] dX11_let_9 rfl (by decide) rfl ?_
  refine sp_iload_n dX11_let_10 rfl rfl ?_
  refine sp_i2l dX11_let_11 ?_
  refine sp_lconst (v := 0) dX11_let_12 (by decide) ?_
  refine sp_lconst (v := 1) dX11_let_13 (by decide) ?_
  refine sp_cS (M1 := M1) (r := some (.int (fX11_in (Int32.toInt64 a1) 0 1))) (st := []) [.long (Int32.toInt64 a1), .long 0, .long 1] [.long 1, .long 0, .long (Int32.toInt64 a1)] [.int (fX11_in (Int32.toInt64 a1) 0 1)] dX11_let_14 okX11_in tw_1400 tw_1401 (by decide) (by decide) rfl (Nat.le_of_ble_eq_true rfl) rfl rfl (fun Q hQ => tX11_in hG rfl hQ) ?_
  refine sp_if_eq (tgt := 24) dX11_let_17 (by decide) (fun hc3 => ?_) (fun hc3 => ?_)
  · have h := (if_pos hc3).symm.trans h
    refine sp_iconst (v := (-1)) dX11_let_24 (by decide) ?_
    cases h
    exact sp_iret dX11_let_25 (ty := .int) rfl rfl (fun _ => hQ)
  · have h := (if_neg hc3).symm.trans h
    refine sp_iload_n dX11_let_20 rfl rfl ?_
    refine sp_if_ne (tgt := 26) dX11_let_21 (by decide) (fun hc4 => ?_) (fun hc4 => ?_)
    · have h := (if_neg hc4).symm.trans h
      refine sp_ldcw (v := 100000000) dX11_let_26 tw_1760 ?_
      refine sp_istore_n [some (.ref 103), some (.int a1), some (.int v2), some (.int 100000000), none, none, none, none] dX11_let_29 rfl (by decide) rfl ?_
      refine sp_iconst (v := (-1)) dX11_let_30 (by decide) ?_
      refine sp_istore [some (.ref 103), some (.int a1), some (.int v2), some (.int 100000000), some (.int (-1)), none, none, none] dX11_let_31 (by decide) rfl ?_
      refine sp_iconst (v := 0) dX11_let_33 (by decide) ?_
      refine sp_istore [some (.ref 103), some (.int a1), some (.int v2), some (.int 100000000), some (.int (-1)), some (.int 0), none, none] dX11_let_34 (by decide) rfl ?_
      refine sp_weak [true, true, true, true, true, true, false, false] [some (.ref 103), some (.int a1), some (.int v2), some (.int 100000000), some (.int (-1)), some (.int 0), none, none] rfl ?_
      refine tX11_let_l36 hG hQ (fun b15 b16 b17 M14 h => ?_) F _ _ _ _ _ _ h
      refine sp_iload dX11_let_124 rfl ?_
      refine sp_iconst (v := (-1)) dX11_let_126 (by decide) ?_
      suffices hj : sp_Wp g Ω mX11_let 0 0 140 [none, none, none, none, none, none, none, none] [.int (if b17 = (-1) then b17 else (if b15 = 0 then b17 else b16))] M14 Q by
        refine sp_icmp_eq (tgt := 134) dX11_let_127 (by decide) (fun hc18 => ?_) (fun hc18 => ?_)
        · refine sp_iload dX11_let_134 rfl ?_
          refine sp_goto (tgt := 140) dX11_let_136 (by decide) ?_
          refine sp_weak [false, false, false, false, false, false, false, false] [none, none, none, none, none, none, none, none] rfl ?_
          simp only [if_pos hc18] at hj
          exact hj
        · refine sp_iload_n dX11_let_130 rfl rfl ?_
          refine sp_if_ne (tgt := 139) dX11_let_131 (by decide) (fun hc19 => ?_) (fun hc19 => ?_)
          · refine sp_iload_n dX11_let_139 rfl rfl ?_
            refine sp_weak [false, false, false, false, false, false, false, false] [none, none, none, none, none, none, none, none] rfl ?_
            simp only [if_neg hc18, if_neg hc19] at hj
            exact hj
          · refine sp_iload dX11_let_134 rfl ?_
            refine sp_goto (tgt := 140) dX11_let_136 (by decide) ?_
            refine sp_weak [false, false, false, false, false, false, false, false] [none, none, none, none, none, none, none, none] rfl ?_
            simp only [if_neg hc18, if_pos hc19] at hj
            exact hj
      cases h
      exact sp_iret dX11_let_140 (ty := .int) rfl rfl (fun _ => hQ)
    · have h := (if_pos hc4).symm.trans h
      refine sp_iconst (v := (-1)) dX11_let_24 (by decide) ?_
      cases h
      exact sp_iret dX11_let_25 (ty := .int) rfl rfl (fun _ => hQ)
def fX11_areAlike (M0 : sp_Mem) (a1 : Int32) (a2 : Int32) : Option Int32 :=
  (sp_ix 5480 (51 + a1)).bind fun j1 => (sp_ix 5480 (51 + a2)).bind fun j2 => if ((sp_I M0 105 j1) / 10) = ((sp_I M0 105 j2) / 10) then (some 1) else ((sp_ix 5480 (51 + a1)).bind fun j4 => (sp_ix 5480 (51 + a2)).bind fun j5 => some (if ((sp_I M0 105 j4) - (sp_I M0 105 j4) / 10 * 10) = ((sp_I M0 105 j5) - (sp_I M0 105 j5) / 10 * 10) then 1 else 0))
set_option maxRecDepth 100000 in
set_option maxHeartbeats 4000000 in
theorem tX11_areAlike {g : sp_G} {Ω : sp_Mem → Prop} {Q : sp_Qt} {M0 : sp_Mem} {p : Int32} (hG : sp_Ok Ω) {a1 : Int32} {a2 : Int32} (h : fX11_areAlike M0 a1 a2 = some p) (hQ : Q (some (.int p)) M0) : sp_Mt g Ω mX11_areAlike 0 0 [.ref 103, .int a1, .int a2] M0 Q := by
  unfold fX11_areAlike at h
  refine sp_Mt.of [some (.ref 103), some (.int a1), some (.int a2)] (by decide) (by simp [sp_ent, Value.category]) rfl ?_
  refine sp_aload_n dX11_areAlike_0 rfl rfl ?_
  refine sp_use (fun ho => ?_)
  have hs := hG.1 _ ho
  refine sp_getR (RX11, TX11, 56) dX11_areAlike_1 clX11 (j := 3) (by decide) tw_1218 (wsI_103 hs) (Or.inr ⟨_, rfl⟩) (wsP_103_3 hs) ?_
  refine sp_bipush (v := 51) dX11_areAlike_4 (by decide) ?_
  refine sp_iload_n dX11_areAlike_6 rfl rfl ?_
  refine sp_iadd dX11_areAlike_7 ?_
  obtain ⟨j1, hj1, h⟩ := Option.bind_eq_some_iff.mp h
  refine sp_iald2 (j := j1) dX11_areAlike_8 (wsA_105 hs) (wsN_105 hs) hj1 ?_
  refine sp_bipush (v := 10) dX11_areAlike_9 (by decide) ?_
  refine sp_idiv dX11_areAlike_11 (by decide) ?_
  refine sp_aload_n dX11_areAlike_12 rfl rfl ?_
  refine sp_getR (RX11, TX11, 56) dX11_areAlike_13 clX11 (j := 3) (by decide) tw_1218 (wsI_103 hs) (Or.inr ⟨_, rfl⟩) (wsP_103_3 hs) ?_
  refine sp_bipush (v := 51) dX11_areAlike_16 (by decide) ?_
  refine sp_iload_n dX11_areAlike_18 rfl rfl ?_
  refine sp_iadd dX11_areAlike_19 ?_
  obtain ⟨j2, hj2, h⟩ := Option.bind_eq_some_iff.mp h
  refine sp_iald2 (j := j2) dX11_areAlike_20 (wsA_105 hs) (wsN_105 hs) hj2 ?_
  refine sp_bipush (v := 10) dX11_areAlike_21 (by decide) ?_
  refine sp_idiv dX11_areAlike_23 (by decide) ?_
  refine sp_icmp_eq (tgt := 54) dX11_areAlike_24 (by decide) (fun hc3 => ?_) (fun hc3 => ?_)
  · have h := (if_pos hc3).symm.trans h
    refine sp_iconst (v := 1) dX11_areAlike_54 (by decide) ?_
    refine sp_goto (tgt := 59) dX11_areAlike_55 (by decide) ?_
    cases h
    exact sp_iret dX11_areAlike_59 (ty := .boolean) rfl (sp_nz (Or.inr rfl)) (fun _ => hQ)
  · have h := (if_neg hc3).symm.trans h
    refine sp_aload_n dX11_areAlike_27 rfl rfl ?_
    refine sp_getR (RX11, TX11, 56) dX11_areAlike_28 clX11 (j := 3) (by decide) tw_1218 (wsI_103 hs) (Or.inr ⟨_, rfl⟩) (wsP_103_3 hs) ?_
    refine sp_bipush (v := 51) dX11_areAlike_31 (by decide) ?_
    refine sp_iload_n dX11_areAlike_33 rfl rfl ?_
    refine sp_iadd dX11_areAlike_34 ?_
    obtain ⟨j4, hj4, h⟩ := Option.bind_eq_some_iff.mp h
    refine sp_iald2 (j := j4) dX11_areAlike_35 (wsA_105 hs) (wsN_105 hs) hj4 ?_
    refine sp_bipush (v := 10) dX11_areAlike_36 (by decide) ?_
    refine sp_irem dX11_areAlike_38 (by decide) ?_
    refine sp_aload_n dX11_areAlike_39 rfl rfl ?_
    refine sp_getR (RX11, TX11, 56) dX11_areAlike_40 clX11 (j := 3) (by decide) tw_1218 (wsI_103 hs) (Or.inr ⟨_, rfl⟩) (wsP_103_3 hs) ?_
    refine sp_bipush (v := 51) dX11_areAlike_43 (by decide) ?_
    refine sp_iload_n dX11_areAlike_45 rfl rfl ?_
    refine sp_iadd dX11_areAlike_46 ?_
    obtain ⟨j5, hj5, h⟩ := Option.bind_eq_some_iff.mp h
    refine sp_iald2 (j := j5) dX11_areAlike_47 (wsA_105 hs) (wsN_105 hs) hj5 ?_
    refine sp_bipush (v := 10) dX11_areAlike_48 (by decide) ?_
    refine sp_irem dX11_areAlike_50 (by decide) ?_
    suffices hj : sp_Wp g Ω mX11_areAlike 0 0 59 [none, none, none] [.int (if ((sp_I M0 105 j4) - (sp_I M0 105 j4) / 10 * 10) = ((sp_I M0 105 j5) - (sp_I M0 105 j5) / 10 * 10) then 1 else 0)] M0 Q by
      refine sp_icmp_ne (tgt := 58) dX11_areAlike_51 (by decide) (fun hc6 => ?_) (fun hc6 => ?_)
      · refine sp_iconst (v := 0) dX11_areAlike_58 (by decide) ?_
        refine sp_weak [false, false, false] [none, none, none] rfl ?_
        simp only [if_neg hc6] at hj
        exact hj
      · refine sp_iconst (v := 1) dX11_areAlike_54 (by decide) ?_
        refine sp_goto (tgt := 59) dX11_areAlike_55 (by decide) ?_
        refine sp_weak [false, false, false] [none, none, none] rfl ?_
        simp only [if_pos hc6] at hj
        exact hj
    cases h
    exact sp_iret dX11_areAlike_59 (ty := .boolean) rfl (sp_nz (by repeat (first | exact Or.inl rfl | exact Or.inr rfl | split))) (fun _ => hQ)
def fX11_alike_l29 (F : Nat) (kx : Int32 → Int32 → Int32 → Int32 → sp_Mem → Option (Int32 × sp_Mem)) : Nat → Int32 → Int32 → Int32 → Int32 → Int32 → sp_Mem → Option (Int32 × sp_Mem)
  | 0, _, _, _, _, _, _ => none
  | n + 1, a1, a2, a3, a4, a5, M =>
  if (sp_I M 105 0) ≤ a5 then (kx a1 a2 a3 a4 M) else ((fX11_areAlike M a4 a5).bind fun v4 => if v4 = 0 then ((fX11_alike_l29 F kx n) a1 a2 a3 a4 (a5 + 1) M) else (if a2 = a1 then (sp_do (((10 * a4) + a5)) fun u7 => (fX11_alike_l29 F kx n) a1 (a2 + 1) u7 a4 (a5 + 1) M) else ((fX11_alike_l29 F kx n) a1 (a2 + 1) a3 a4 (a5 + 1) M)))
def fX11_alike_l12 (F : Nat) (kx : Int32 → Int32 → Int32 → sp_Mem → Option (Int32 × sp_Mem)) : Nat → Int32 → Int32 → Int32 → Int32 → sp_Mem → Option (Int32 × sp_Mem)
  | 0, _, _, _, _, _ => none
  | n + 1, a1, a2, a3, a4, M =>
  if (sp_I M 105 0) ≤ a4 then (kx a1 a2 a3 M) else (fX11_alike_l29 F (fun b9 b10 b11 b12 M8 => (fX11_alike_l12 F kx n) b9 b10 b11 (b12 + 1) M8) F a1 a2 a3 a4 (a4 + 1) M)
def fX11_alike (F : Nat) (M : sp_Mem) (a1 : Int32) : Option (Int32 × sp_Mem) :=
  sp_do (sp_setI M 103 0 0) fun M1 => fX11_alike_l12 F (fun b14 b15 b16 M13 => some ((if b14 = (-1) then b15 else b16), M13)) F a1 0 (-1) 0 M1
set_option maxRecDepth 100000 in
set_option maxHeartbeats 4000000 in
theorem tX11_alike_l29 {g : sp_G} {Ω : sp_Mem → Prop} {Q : sp_Qt} {F : Nat} {p : (Int32 × sp_Mem)} (hG : sp_Ok Ω)  {kx : Int32 → Int32 → Int32 → Int32 → sp_Mem → Option (Int32 × sp_Mem)} (hQ : Q (some (.int p.1)) p.2) (hx : ∀ (a1 : Int32) (a2 : Int32) (a3 : Int32) (a4 : Int32) (M : sp_Mem), kx a1 a2 a3 a4 M = some p → sp_Wp g Ω mX11_alike 0 0 78 [some (.ref 103), some (.int a1), some (.int a2), some (.int a3), some (.int a4), none] [] M Q) : ∀ (n : Nat) (a1 : Int32) (a2 : Int32) (a3 : Int32) (a4 : Int32) (a5 : Int32) (M : sp_Mem), fX11_alike_l29 F kx n a1 a2 a3 a4 a5 M = some p → sp_Wp g Ω mX11_alike 0 0 29 [some (.ref 103), some (.int a1), some (.int a2), some (.int a3), some (.int a4), some (.int a5)] [] M Q := by
  intro n
  induction n with
  | zero =>
    intro a1 a2 a3 a4 a5 M h
    rw [fX11_alike_l29] at h
    cases h
  | succ n ih =>
    intro a1 a2 a3 a4 a5 M h
    rw [fX11_alike_l29] at h
    refine sp_iload dX11_alike_29 rfl ?_
    refine sp_aload_n dX11_alike_31 rfl rfl ?_
    refine sp_use (fun ho => ?_)
    have hs := hG.1 _ ho
    refine sp_getR (RX11, TX11, 56) dX11_alike_32 clX11 (j := 3) (by decide) tw_1218 (wsI_103 hs) (Or.inr ⟨_, rfl⟩) (wsP_103_3 hs) ?_
    refine sp_iconst (v := 0) dX11_alike_35 (by decide) ?_
    refine sp_iald2 (j := 0) dX11_alike_36 (wsA_105 hs) (wsN_105 hs) rfl ?_
    refine sp_icmp_ge (tgt := 78) dX11_alike_37 (by decide) (fun hc3 => ?_) (fun hc3 => ?_)
    · have h := (if_pos hc3).symm.trans h
      refine sp_weak [true, true, true, true, true, false] [some (.ref 103), some (.int a1), some (.int a2), some (.int a3), some (.int a4), none] rfl ?_
      exact hx _ _ _ _ _ h
    · have h := (if_neg hc3).symm.trans h
      refine sp_aload_n dX11_alike_40 rfl rfl ?_
      refine sp_iload dX11_alike_41 rfl ?_
      refine sp_iload dX11_alike_43 rfl ?_
      obtain ⟨v4, hv4, h⟩ := Option.bind_eq_some_iff.mp h
      refine sp_cV (M1 := M) (r := some (.int v4)) (o := 103) (st := []) (c := 10) (RX11, TX11, 56) [.int a4, .int a5] [.int a5, .int a4, .ref 103] [.int v4] dX11_alike_45 okX11_areAlike tw_1800 tw_1802 tw_86 (by decide) (by decide) rfl (Nat.le_of_ble_eq_true rfl) rfl rfl rfl rfl (wsI_103 hs) (fun Q hQ => tX11_areAlike hG hv4 hQ) ?_
      refine sp_if_eq (tgt := 72) dX11_alike_48 (by decide) (fun hc5 => ?_) (fun hc5 => ?_)
      · have h := (if_pos hc5).symm.trans h
        refine sp_iinc (v := (a5 + 1)) [some (.ref 103), some (.int a1), some (.int a2), some (.int a3), some (.int a4), some (.int (a5 + 1))] dX11_alike_72 rfl rfl (by decide) rfl ?_
        refine sp_goto (tgt := 29) dX11_alike_75 (by decide) ?_
        refine sp_weak [true, true, true, true, true, true] [some (.ref 103), some (.int a1), some (.int a2), some (.int a3), some (.int a4), some (.int (a5 + 1))] rfl ?_
        exact ih _ _ _ _ _ _ h
      · have h := (if_neg hc5).symm.trans h
        refine sp_iload_n dX11_alike_51 rfl rfl ?_
        refine sp_iload_n dX11_alike_52 rfl rfl ?_
        refine sp_icmp_ne (tgt := 67) dX11_alike_53 (by decide) (fun hc6 => ?_) (fun hc6 => ?_)
        · have h := (if_neg hc6).symm.trans h
          refine sp_iload_n dX11_alike_67 rfl rfl ?_
          refine sp_istore_n [some (.ref 103), some (.int a1), some (.int a2), some (.int a3), some (.int a4), some (.int a5)] dX11_alike_68 rfl (by decide) rfl ?_
          refine sp_iinc (v := (a2 + 1)) [some (.ref 103), some (.int a1), some (.int (a2 + 1)), some (.int a3), some (.int a4), some (.int a5)] dX11_alike_69 rfl rfl (by decide) rfl ?_
          refine sp_iinc (v := (a5 + 1)) [some (.ref 103), some (.int a1), some (.int (a2 + 1)), some (.int a3), some (.int a4), some (.int (a5 + 1))] dX11_alike_72 rfl rfl (by decide) rfl ?_
          refine sp_goto (tgt := 29) dX11_alike_75 (by decide) ?_
          refine sp_weak [true, true, true, true, true, true] [some (.ref 103), some (.int a1), some (.int (a2 + 1)), some (.int a3), some (.int a4), some (.int (a5 + 1))] rfl ?_
          exact ih _ _ _ _ _ _ h
        · have h := (if_pos hc6).symm.trans h
          refine sp_bipush (v := 10) dX11_alike_56 (by decide) ?_
          refine sp_iload dX11_alike_58 rfl ?_
          refine sp_imul dX11_alike_60 ?_
          refine sp_iload dX11_alike_61 rfl ?_
          refine sp_iadd dX11_alike_63 ?_
          refine sp_goto (tgt := 68) dX11_alike_64 (by decide) ?_
          obtain ⟨u7, hu7, h⟩ := sp_do_e h
          refine sp_topi hu7 ?_
          refine sp_istore_n [some (.ref 103), some (.int a1), some (.int a2), some (.int u7), some (.int a4), some (.int a5)] dX11_alike_68 rfl (by decide) rfl ?_
          refine sp_iinc (v := (a2 + 1)) [some (.ref 103), some (.int a1), some (.int (a2 + 1)), some (.int u7), some (.int a4), some (.int a5)] dX11_alike_69 rfl rfl (by decide) rfl ?_
          refine sp_iinc (v := (a5 + 1)) [some (.ref 103), some (.int a1), some (.int (a2 + 1)), some (.int u7), some (.int a4), some (.int (a5 + 1))] dX11_alike_72 rfl rfl (by decide) rfl ?_
          refine sp_goto (tgt := 29) dX11_alike_75 (by decide) ?_
          refine sp_weak [true, true, true, true, true, true] [some (.ref 103), some (.int a1), some (.int (a2 + 1)), some (.int u7), some (.int a4), some (.int (a5 + 1))] rfl ?_
          exact ih _ _ _ _ _ _ h
set_option maxRecDepth 100000 in
set_option maxHeartbeats 4000000 in
theorem tX11_alike_l12 {g : sp_G} {Ω : sp_Mem → Prop} {Q : sp_Qt} {F : Nat} {p : (Int32 × sp_Mem)} (hG : sp_Ok Ω)  {kx : Int32 → Int32 → Int32 → sp_Mem → Option (Int32 × sp_Mem)} (hQ : Q (some (.int p.1)) p.2) (hx : ∀ (a1 : Int32) (a2 : Int32) (a3 : Int32) (M : sp_Mem), kx a1 a2 a3 M = some p → sp_Wp g Ω mX11_alike 0 0 84 [none, some (.int a1), some (.int a2), some (.int a3), none, none] [] M Q) : ∀ (n : Nat) (a1 : Int32) (a2 : Int32) (a3 : Int32) (a4 : Int32) (M : sp_Mem), fX11_alike_l12 F kx n a1 a2 a3 a4 M = some p → sp_Wp g Ω mX11_alike 0 0 12 [some (.ref 103), some (.int a1), some (.int a2), some (.int a3), some (.int a4), none] [] M Q := by
  intro n
  induction n with
  | zero =>
    intro a1 a2 a3 a4 M h
    rw [fX11_alike_l12] at h
    cases h
  | succ n ih =>
    intro a1 a2 a3 a4 M h
    rw [fX11_alike_l12] at h
    refine sp_iload dX11_alike_12 rfl ?_
    refine sp_aload_n dX11_alike_14 rfl rfl ?_
    refine sp_use (fun ho => ?_)
    have hs := hG.1 _ ho
    refine sp_getR (RX11, TX11, 56) dX11_alike_15 clX11 (j := 3) (by decide) tw_1218 (wsI_103 hs) (Or.inr ⟨_, rfl⟩) (wsP_103_3 hs) ?_
    refine sp_iconst (v := 0) dX11_alike_18 (by decide) ?_
    refine sp_iald2 (j := 0) dX11_alike_19 (wsA_105 hs) (wsN_105 hs) rfl ?_
    refine sp_icmp_ge (tgt := 84) dX11_alike_20 (by decide) (fun hc2 => ?_) (fun hc2 => ?_)
    · have h := (if_pos hc2).symm.trans h
      refine sp_weak [false, true, true, true, false, false] [none, some (.int a1), some (.int a2), some (.int a3), none, none] rfl ?_
      exact hx _ _ _ _ h
    · have h := (if_neg hc2).symm.trans h
      refine sp_iload dX11_alike_23 rfl ?_
      refine sp_iconst (v := 1) dX11_alike_25 (by decide) ?_
      refine sp_iadd dX11_alike_26 ?_
      refine sp_istore [some (.ref 103), some (.int a1), some (.int a2), some (.int a3), some (.int a4), some (.int (a4 + 1))] dX11_alike_27 (by decide) rfl ?_
      refine sp_weak [true, true, true, true, true, true] [some (.ref 103), some (.int a1), some (.int a2), some (.int a3), some (.int a4), some (.int (a4 + 1))] rfl ?_
      refine tX11_alike_l29 hG hQ (fun b9 b10 b11 b12 M8 h => ?_) F _ _ _ _ _ _ h
      refine sp_iinc (v := (b12 + 1)) [some (.ref 103), some (.int b9), some (.int b10), some (.int b11), some (.int (b12 + 1)), none] dX11_alike_78 rfl rfl (by decide) rfl ?_
      refine sp_goto (tgt := 12) dX11_alike_81 (by decide) ?_
      refine sp_weak [true, true, true, true, true, false] [some (.ref 103), some (.int b9), some (.int b10), some (.int b11), some (.int (b12 + 1)), none] rfl ?_
      exact ih _ _ _ _ _ h
set_option maxRecDepth 100000 in
set_option maxHeartbeats 4000000 in
theorem tX11_alike {g : sp_G} {Ω : sp_Mem → Prop} {Q : sp_Qt} {F : Nat} {p : (Int32 × sp_Mem)} (hG : sp_Ok Ω) {M : sp_Mem} {a1 : Int32} (h : fX11_alike F M a1 = some p) (hQ : Q (some (.int p.1)) p.2) : sp_Mt g Ω mX11_alike 0 0 [.ref 103, .int a1] M Q := by
  unfold fX11_alike at h
  refine sp_Mt.of [some (.ref 103), some (.int a1), none, none, none, none] (by decide) (by simp [sp_ent, Value.category]) rfl ?_
  refine sp_aload_n dX11_alike_0 rfl rfl ?_
  refine sp_iconst (v := 0) dX11_alike_1 (by decide) ?_
  refine sp_use (fun ho => ?_)
  have hs := hG.1 _ ho
  obtain ⟨M1, hM1, h⟩ := sp_do_e h
  refine sp_putI2 (RX11, TX11, 56) hG dX11_alike_2 clX11 (j := 0) (by decide) tw_1215 rfl (Or.inl rfl) (wsI_103 hs) hM1 ?_
  refine sp_iconst (v := 0) dX11_alike_5 (by decide) ?_
  refine sp_istore_n [some (.ref 103), some (.int a1), some (.int 0), none, none, none] dX11_alike_6 rfl (by decide) rfl ?_
  refine sp_iconst (v := (-1)) dX11_alike_7 (by decide) ?_
  refine sp_istore_n [some (.ref 103), some (.int a1), some (.int 0), some (.int (-1)), none, none] dX11_alike_8 rfl (by decide) rfl ?_
  refine sp_iconst (v := 0) dX11_alike_9 (by decide) ?_
  refine sp_istore [some (.ref 103), some (.int a1), some (.int 0), some (.int (-1)), some (.int 0), none] dX11_alike_10 (by decide) rfl ?_
  refine sp_weak [true, true, true, true, true, false] [some (.ref 103), some (.int a1), some (.int 0), some (.int (-1)), some (.int 0), none] rfl ?_
  refine tX11_alike_l12 hG hQ (fun b14 b15 b16 M13 h => ?_) F _ _ _ _ _ h
  refine sp_iload_n dX11_alike_84 rfl rfl ?_
  refine sp_iconst (v := (-1)) dX11_alike_85 (by decide) ?_
  suffices hj : sp_Wp g Ω mX11_alike 0 0 94 [none, none, none, none, none, none] [.int (if b14 = (-1) then b15 else b16)] M13 Q by
    refine sp_icmp_ne (tgt := 93) dX11_alike_86 (by decide) (fun hc17 => ?_) (fun hc17 => ?_)
    · refine sp_iload_n dX11_alike_93 rfl rfl ?_
      refine sp_weak [false, false, false, false, false, false] [none, none, none, none, none, none] rfl ?_
      simp only [if_neg hc17] at hj
      exact hj
    · refine sp_iload_n dX11_alike_89 rfl rfl ?_
      refine sp_goto (tgt := 94) dX11_alike_90 (by decide) ?_
      refine sp_weak [false, false, false, false, false, false] [none, none, none, none, none, none] rfl ?_
      simp only [if_pos hc17] at hj
      exact hj
  cases h
  exact sp_iret dX11_alike_94 (ty := .int) rfl rfl (fun _ => hQ)
def fX11_areApart_l19 (F : Nat) (M0 : sp_Mem) (kx : Int32 → Int32 → Int32 → Option Int32) : Nat → Int32 → Int32 → Int32 → Int32 → Option Int32
  | 0, _, _, _, _ => none
  | n + 1, a1, a2, a3, a4 =>
  if (sp_I M0 105 0) ≤ a4 then (kx a1 a2 a3) else (if a2 = 0 then ((fX11_areApart_l19 F M0 kx n) a1 0 a3 (a4 + 1)) else (if (fX11_is a1 a3) = 0 then (if (fX11_is a1 a4) = 0 then ((fX11_areAlike M0 a3 a4).bind fun v6 => sp_do ((if v6 = 0 then 1 else 0)) fun u8 => (fX11_areApart_l19 F M0 kx n) a1 u8 a3 (a4 + 1)) else ((fX11_areApart_l19 F M0 kx n) a1 1 a3 (a4 + 1))) else ((fX11_areApart_l19 F M0 kx n) a1 1 a3 (a4 + 1))))
def fX11_areApart_l4 (F : Nat) (M0 : sp_Mem) (kx : Int32 → Option Int32) : Nat → Int32 → Int32 → Int32 → Option Int32
  | 0, _, _, _ => none
  | n + 1, a1, a2, a3 =>
  if (sp_I M0 105 0) ≤ a3 then (kx a2) else (fX11_areApart_l19 F M0 (fun b10 b11 b12 => (fX11_areApart_l4 F M0 kx n) b10 b11 (b12 + 1)) F a1 a2 a3 (a3 + 1))
def fX11_areApart (F : Nat) (M0 : sp_Mem) (a1 : Int32) : Option Int32 :=
  fX11_areApart_l4 F M0 (fun b14 => (sp_b01 b14).bind fun _ => some b14) F a1 1 0
set_option maxRecDepth 100000 in
set_option maxHeartbeats 4000000 in
theorem tX11_areApart_l19 {g : sp_G} {Ω : sp_Mem → Prop} {Q : sp_Qt} {F : Nat} {M0 : sp_Mem} {p : Int32} (hG : sp_Ok Ω)  {kx : Int32 → Int32 → Int32 → Option Int32} (hQ : Q (some (.int p)) M0) (hx : ∀ (a1 : Int32) (a2 : Int32) (a3 : Int32), kx a1 a2 a3 = some p → sp_Wp g Ω mX11_areApart 0 0 73 [some (.ref 103), some (.int a1), some (.int a2), some (.int a3), none] [] M0 Q) : ∀ (n : Nat) (a1 : Int32) (a2 : Int32) (a3 : Int32) (a4 : Int32), fX11_areApart_l19 F M0 kx n a1 a2 a3 a4 = some p → sp_Wp g Ω mX11_areApart 0 0 19 [some (.ref 103), some (.int a1), some (.int a2), some (.int a3), some (.int a4)] [] M0 Q := by
  intro n
  induction n with
  | zero =>
    intro a1 a2 a3 a4 h
    rw [fX11_areApart_l19] at h
    cases h
  | succ n ih =>
    intro a1 a2 a3 a4 h
    rw [fX11_areApart_l19] at h
    refine sp_iload dX11_areApart_19 rfl ?_
    refine sp_aload_n dX11_areApart_21 rfl rfl ?_
    refine sp_use (fun ho => ?_)
    have hs := hG.1 _ ho
    refine sp_getR (RX11, TX11, 56) dX11_areApart_22 clX11 (j := 3) (by decide) tw_1218 (wsI_103 hs) (Or.inr ⟨_, rfl⟩) (wsP_103_3 hs) ?_
    refine sp_iconst (v := 0) dX11_areApart_25 (by decide) ?_
    refine sp_iald2 (j := 0) dX11_areApart_26 (wsA_105 hs) (wsN_105 hs) rfl ?_
    refine sp_icmp_ge (tgt := 73) dX11_areApart_27 (by decide) (fun hc2 => ?_) (fun hc2 => ?_)
    · have h := (if_pos hc2).symm.trans h
      refine sp_weak [true, true, true, true, false] [some (.ref 103), some (.int a1), some (.int a2), some (.int a3), none] rfl ?_
      exact hx _ _ _ h
    · have h := (if_neg hc2).symm.trans h
      refine sp_iload_n dX11_areApart_30 rfl rfl ?_
      refine sp_if_eq (tgt := 65) dX11_areApart_31 (by decide) (fun hc3 => ?_) (fun hc3 => ?_)
      · have h := (if_pos hc3).symm.trans h
        refine sp_iconst (v := 0) dX11_areApart_65 (by decide) ?_
        refine sp_istore_n [some (.ref 103), some (.int a1), some (.int 0), some (.int a3), some (.int a4)] dX11_areApart_66 rfl (by decide) rfl ?_
        refine sp_iinc (v := (a4 + 1)) [some (.ref 103), some (.int a1), some (.int 0), some (.int a3), some (.int (a4 + 1))] dX11_areApart_67 rfl rfl (by decide) rfl ?_
        refine sp_goto (tgt := 19) dX11_areApart_70 (by decide) ?_
        refine sp_weak [true, true, true, true, true] [some (.ref 103), some (.int a1), some (.int 0), some (.int a3), some (.int (a4 + 1))] rfl ?_
        exact ih _ _ _ _ h
      · have h := (if_neg hc3).symm.trans h
        refine sp_iload_n dX11_areApart_34 rfl rfl ?_
        refine sp_iload_n dX11_areApart_35 rfl rfl ?_
        refine sp_cS (M1 := M0) (r := some (.int (fX11_is a1 a3))) (st := []) [.int a1, .int a3] [.int a3, .int a1] [.int (fX11_is a1 a3)] dX11_areApart_36 okX11_is tw_1470 tw_1471 (by decide) (by decide) rfl (Nat.le_of_ble_eq_true rfl) rfl rfl (fun Q hQ => tX11_is hG rfl hQ) ?_
        refine sp_if_ne (tgt := 61) dX11_areApart_39 (by decide) (fun hc4 => ?_) (fun hc4 => ?_)
        · have h := (if_neg hc4).symm.trans h
          refine sp_iconst (v := 1) dX11_areApart_61 (by decide) ?_
          refine sp_goto (tgt := 66) dX11_areApart_62 (by decide) ?_
          refine sp_istore_n [some (.ref 103), some (.int a1), some (.int 1), some (.int a3), some (.int a4)] dX11_areApart_66 rfl (by decide) rfl ?_
          refine sp_iinc (v := (a4 + 1)) [some (.ref 103), some (.int a1), some (.int 1), some (.int a3), some (.int (a4 + 1))] dX11_areApart_67 rfl rfl (by decide) rfl ?_
          refine sp_goto (tgt := 19) dX11_areApart_70 (by decide) ?_
          refine sp_weak [true, true, true, true, true] [some (.ref 103), some (.int a1), some (.int 1), some (.int a3), some (.int (a4 + 1))] rfl ?_
          exact ih _ _ _ _ h
        · have h := (if_pos hc4).symm.trans h
          refine sp_iload_n dX11_areApart_42 rfl rfl ?_
          refine sp_iload dX11_areApart_43 rfl ?_
          refine sp_cS (M1 := M0) (r := some (.int (fX11_is a1 a4))) (st := []) [.int a1, .int a4] [.int a4, .int a1] [.int (fX11_is a1 a4)] dX11_areApart_45 okX11_is tw_1470 tw_1471 (by decide) (by decide) rfl (Nat.le_of_ble_eq_true rfl) rfl rfl (fun Q hQ => tX11_is hG rfl hQ) ?_
          refine sp_if_ne (tgt := 61) dX11_areApart_48 (by decide) (fun hc5 => ?_) (fun hc5 => ?_)
          · have h := (if_neg hc5).symm.trans h
            refine sp_iconst (v := 1) dX11_areApart_61 (by decide) ?_
            refine sp_goto (tgt := 66) dX11_areApart_62 (by decide) ?_
            refine sp_istore_n [some (.ref 103), some (.int a1), some (.int 1), some (.int a3), some (.int a4)] dX11_areApart_66 rfl (by decide) rfl ?_
            refine sp_iinc (v := (a4 + 1)) [some (.ref 103), some (.int a1), some (.int 1), some (.int a3), some (.int (a4 + 1))] dX11_areApart_67 rfl rfl (by decide) rfl ?_
            refine sp_goto (tgt := 19) dX11_areApart_70 (by decide) ?_
            refine sp_weak [true, true, true, true, true] [some (.ref 103), some (.int a1), some (.int 1), some (.int a3), some (.int (a4 + 1))] rfl ?_
            exact ih _ _ _ _ h
          · have h := (if_pos hc5).symm.trans h
            refine sp_aload_n dX11_areApart_51 rfl rfl ?_
            refine sp_iload_n dX11_areApart_52 rfl rfl ?_
            refine sp_iload dX11_areApart_53 rfl ?_
            obtain ⟨v6, hv6, h⟩ := Option.bind_eq_some_iff.mp h
            refine sp_cV (M1 := M0) (r := some (.int v6)) (o := 103) (st := []) (c := 10) (RX11, TX11, 56) [.int a3, .int a4] [.int a4, .int a3, .ref 103] [.int v6] dX11_areApart_55 okX11_areAlike tw_1800 tw_1802 tw_86 (by decide) (by decide) rfl (Nat.le_of_ble_eq_true rfl) rfl rfl rfl rfl (wsI_103 hs) (fun Q hQ => tX11_areAlike hG hv6 hQ) ?_
            suffices hj : sp_Wp g Ω mX11_areApart 0 0 66 [some (.ref 103), some (.int a1), none, some (.int a3), some (.int a4)] [.int (if v6 = 0 then 1 else 0)] M0 Q by
              refine sp_if_ne (tgt := 65) dX11_areApart_58 (by decide) (fun hc7 => ?_) (fun hc7 => ?_)
              · refine sp_iconst (v := 0) dX11_areApart_65 (by decide) ?_
                refine sp_weak [true, true, false, true, true] [some (.ref 103), some (.int a1), none, some (.int a3), some (.int a4)] rfl ?_
                simp only [if_neg hc7] at hj
                exact hj
              · refine sp_iconst (v := 1) dX11_areApart_61 (by decide) ?_
                refine sp_goto (tgt := 66) dX11_areApart_62 (by decide) ?_
                refine sp_weak [true, true, false, true, true] [some (.ref 103), some (.int a1), none, some (.int a3), some (.int a4)] rfl ?_
                simp only [if_pos hc7] at hj
                exact hj
            obtain ⟨u8, hu8, h⟩ := sp_do_e h
            refine sp_topi hu8 ?_
            refine sp_istore_n [some (.ref 103), some (.int a1), some (.int u8), some (.int a3), some (.int a4)] dX11_areApart_66 rfl (by decide) rfl ?_
            refine sp_iinc (v := (a4 + 1)) [some (.ref 103), some (.int a1), some (.int u8), some (.int a3), some (.int (a4 + 1))] dX11_areApart_67 rfl rfl (by decide) rfl ?_
            refine sp_goto (tgt := 19) dX11_areApart_70 (by decide) ?_
            refine sp_weak [true, true, true, true, true] [some (.ref 103), some (.int a1), some (.int u8), some (.int a3), some (.int (a4 + 1))] rfl ?_
            exact ih _ _ _ _ h
set_option maxRecDepth 100000 in
set_option maxHeartbeats 4000000 in
theorem tX11_areApart_l4 {g : sp_G} {Ω : sp_Mem → Prop} {Q : sp_Qt} {F : Nat} {M0 : sp_Mem} {p : Int32} (hG : sp_Ok Ω)  {kx : Int32 → Option Int32} (hQ : Q (some (.int p)) M0) (hx : ∀ (a2 : Int32), kx a2 = some p → sp_Wp g Ω mX11_areApart 0 0 79 [none, none, some (.int a2), none, none] [] M0 Q) : ∀ (n : Nat) (a1 : Int32) (a2 : Int32) (a3 : Int32), fX11_areApart_l4 F M0 kx n a1 a2 a3 = some p → sp_Wp g Ω mX11_areApart 0 0 4 [some (.ref 103), some (.int a1), some (.int a2), some (.int a3), none] [] M0 Q := by
  intro n
  induction n with
  | zero =>
    intro a1 a2 a3 h
    rw [fX11_areApart_l4] at h
    cases h
  | succ n ih =>
    intro a1 a2 a3 h
    rw [fX11_areApart_l4] at h
    refine sp_iload_n dX11_areApart_4 rfl rfl ?_
    refine sp_aload_n dX11_areApart_5 rfl rfl ?_
    refine sp_use (fun ho => ?_)
    have hs := hG.1 _ ho
    refine sp_getR (RX11, TX11, 56) dX11_areApart_6 clX11 (j := 3) (by decide) tw_1218 (wsI_103 hs) (Or.inr ⟨_, rfl⟩) (wsP_103_3 hs) ?_
    refine sp_iconst (v := 0) dX11_areApart_9 (by decide) ?_
    refine sp_iald2 (j := 0) dX11_areApart_10 (wsA_105 hs) (wsN_105 hs) rfl ?_
    refine sp_icmp_ge (tgt := 79) dX11_areApart_11 (by decide) (fun hc1 => ?_) (fun hc1 => ?_)
    · have h := (if_pos hc1).symm.trans h
      refine sp_weak [false, false, true, false, false] [none, none, some (.int a2), none, none] rfl ?_
      exact hx _ h
    · have h := (if_neg hc1).symm.trans h
      refine sp_iload_n dX11_areApart_14 rfl rfl ?_
      refine sp_iconst (v := 1) dX11_areApart_15 (by decide) ?_
      refine sp_iadd dX11_areApart_16 ?_
      refine sp_istore [some (.ref 103), some (.int a1), some (.int a2), some (.int a3), some (.int (a3 + 1))] dX11_areApart_17 (by decide) rfl ?_
      refine sp_weak [true, true, true, true, true] [some (.ref 103), some (.int a1), some (.int a2), some (.int a3), some (.int (a3 + 1))] rfl ?_
      refine tX11_areApart_l19 hG hQ (fun b10 b11 b12 h => ?_) F _ _ _ _ h
      refine sp_iinc (v := (b12 + 1)) [some (.ref 103), some (.int b10), some (.int b11), some (.int (b12 + 1)), none] dX11_areApart_73 rfl rfl (by decide) rfl ?_
      refine sp_goto (tgt := 4) dX11_areApart_76 (by decide) ?_
      refine sp_weak [true, true, true, true, false] [some (.ref 103), some (.int b10), some (.int b11), some (.int (b12 + 1)), none] rfl ?_
      exact ih _ _ _ h
set_option maxRecDepth 100000 in
set_option maxHeartbeats 4000000 in
theorem tX11_areApart {g : sp_G} {Ω : sp_Mem → Prop} {Q : sp_Qt} {F : Nat} {M0 : sp_Mem} {p : Int32} (hG : sp_Ok Ω) {a1 : Int32} (h : fX11_areApart F M0 a1 = some p) (hQ : Q (some (.int p)) M0) : sp_Mt g Ω mX11_areApart 0 0 [.ref 103, .int a1] M0 Q := by
  unfold fX11_areApart at h
  refine sp_Mt.of [some (.ref 103), some (.int a1), none, none, none] (by decide) (by simp [sp_ent, Value.category]) rfl ?_
  refine sp_iconst (v := 1) dX11_areApart_0 (by decide) ?_
  refine sp_istore_n [some (.ref 103), some (.int a1), some (.int 1), none, none] dX11_areApart_1 rfl (by decide) rfl ?_
  refine sp_iconst (v := 0) dX11_areApart_2 (by decide) ?_
  refine sp_istore_n [some (.ref 103), some (.int a1), some (.int 1), some (.int 0), none] dX11_areApart_3 rfl (by decide) rfl ?_
  refine sp_weak [true, true, true, true, false] [some (.ref 103), some (.int a1), some (.int 1), some (.int 0), none] rfl ?_
  refine tX11_areApart_l4 hG hQ (fun b14 h => ?_) F _ _ _ h
  refine sp_iload_n dX11_areApart_79 rfl rfl ?_
  obtain ⟨_, hz15, h⟩ := Option.bind_eq_some_iff.mp h
  cases h
  exact sp_iret dX11_areApart_80 (ty := .boolean) rfl (sp_nz (sp_b01_e hz15)) (fun _ => hQ)
def fX11_anew_j75 (F : Nat) (kb : Int32 → Int32 → Int32 → Int32 → sp_Mem → Option (Int32 × sp_Mem)) (kx : Int32 → Int32 → Int32 → sp_Mem → Option (Int32 × sp_Mem)) (a1 : Int32) (a2 : Int32) (a4 : Int32) (a5 : Int32) (s0 : Int32) (M : sp_Mem) : Option (Int32 × sp_Mem) :=
  if a5 = 0 then (kb a1 a2 s0 (a4 + 1) M) else ((fX11_ones F a4).bind fun v8 => kb a1 v8 s0 (a4 + 1) M)
def fX11_anew_j62 (F : Nat) (kb : Int32 → Int32 → Int32 → Int32 → sp_Mem → Option (Int32 × sp_Mem)) (kx : Int32 → Int32 → Int32 → sp_Mem → Option (Int32 × sp_Mem)) (a1 : Int32) (a2 : Int32) (a3 : Int32) (a4 : Int32) (s0 : Int32) (M : sp_Mem) : Option (Int32 × sp_Mem) :=
  fX11_anew_j75 F kb kx a1 a2 a4 s0 (if s0 = 0 then a3 else a4) M
def fX11_anew_j61 (F : Nat) (kb : Int32 → Int32 → Int32 → Int32 → sp_Mem → Option (Int32 × sp_Mem)) (kx : Int32 → Int32 → Int32 → sp_Mem → Option (Int32 × sp_Mem)) (a1 : Int32) (a2 : Int32) (a3 : Int32) (a4 : Int32) (M : sp_Mem) : Option (Int32 × sp_Mem) :=
  fX11_anew_j62 F kb kx a1 a2 a3 a4 0 M
def fX11_anew_l26 (F : Nat) (kx : Int32 → Int32 → Int32 → sp_Mem → Option (Int32 × sp_Mem)) : Nat → Int32 → Int32 → Int32 → Int32 → sp_Mem → Option (Int32 × sp_Mem)
  | 0, _, _, _, _, _ => none
  | n + 1, a1, a2, a3, a4, M =>
  if (1 <<< ((sp_I M 105 0) &&& 31)) ≤ a4 then (kx a1 a2 a3 M) else ((fX11_ones F a4).bind fun v4 => if a2 ≤ v4 then (fX11_anew_j61 F (fX11_anew_l26 F kx n) kx a1 a2 a3 a4 M) else ((fX11_areApart F M a4).bind fun v9 => fX11_anew_j62 F (fX11_anew_l26 F kx n) kx a1 a2 a3 a4 (if v9 = 0 then 0 else 1) M))
def fX11_anew (F : Nat) (M : sp_Mem) (a1 : Int32) : Option (Int32 × sp_Mem) :=
  sp_do (sp_setI M 103 0 0) fun M1 => if (fX11_in (Int32.toInt64 a1) 0 1) = 0 then (some ((-1), M1)) else (fX11_anew_l26 F (fun b12 b13 b14 M11 => some ((if b12 = 0 then b13 else b14), M11)) F a1 100000000 0 0 M1)
set_option maxRecDepth 100000 in
set_option maxHeartbeats 4000000 in
theorem tX11_anew_j75 {g : sp_G} {Ω : sp_Mem → Prop} {Q : sp_Qt} {F : Nat} {p : (Int32 × sp_Mem)} (hG : sp_Ok Ω)  {kb : Int32 → Int32 → Int32 → Int32 → sp_Mem → Option (Int32 × sp_Mem)} {kx : Int32 → Int32 → Int32 → sp_Mem → Option (Int32 × sp_Mem)} (hQ : Q (some (.int p.1)) p.2) (hb : ∀ (a1 : Int32) (a2 : Int32) (a3 : Int32) (a4 : Int32) (M : sp_Mem), kb a1 a2 a3 a4 M = some p → sp_Wp g Ω mX11_anew 0 0 26 [some (.ref 103), some (.int a1), some (.int a2), some (.int a3), some (.int a4), none] [] M Q) (hx : ∀ (a1 : Int32) (a2 : Int32) (a3 : Int32) (M : sp_Mem), kx a1 a2 a3 M = some p → sp_Wp g Ω mX11_anew 0 0 97 [none, some (.int a1), some (.int a2), some (.int a3), none, none] [] M Q) (a1 : Int32) (a2 : Int32) (a4 : Int32) (a5 : Int32) (s0 : Int32) (M : sp_Mem) (h : fX11_anew_j75 F kb kx a1 a2 a4 a5 s0 M = some p) : sp_Wp g Ω mX11_anew 0 0 75 [some (.ref 103), some (.int a1), some (.int a2), none, some (.int a4), some (.int a5)] [.int s0] M Q := by
  unfold fX11_anew_j75 at h
  refine sp_istore_n [some (.ref 103), some (.int a1), some (.int a2), some (.int s0), some (.int a4), some (.int a5)] dX11_anew_75 rfl (by decide) rfl ?_
  refine sp_iload dX11_anew_76 rfl ?_
  refine sp_if_eq (tgt := 89) dX11_anew_78 (by decide) (fun hc7 => ?_) (fun hc7 => ?_)
  · have h := (if_pos hc7).symm.trans h
    refine sp_iload_n dX11_anew_89 rfl rfl ?_
    refine sp_istore_n [some (.ref 103), some (.int a1), some (.int a2), some (.int s0), some (.int a4), some (.int a5)] dX11_anew_90 rfl (by decide) rfl ?_
    refine sp_iinc (v := (a4 + 1)) [some (.ref 103), some (.int a1), some (.int a2), some (.int s0), some (.int (a4 + 1)), some (.int a5)] dX11_anew_91 rfl rfl (by decide) rfl ?_
    refine sp_goto (tgt := 26) dX11_anew_94 (by decide) ?_
    refine sp_weak [true, true, true, true, true, false] [some (.ref 103), some (.int a1), some (.int a2), some (.int s0), some (.int (a4 + 1)), none] rfl ?_
    exact hb _ _ _ _ _ h
  · have h := (if_neg hc7).symm.trans h
    refine sp_iload dX11_anew_81 rfl ?_
    refine sp_use (fun ho => ?_)
    have hs := hG.1 _ ho
    obtain ⟨v8, hv8, h⟩ := Option.bind_eq_some_iff.mp h
    refine sp_cS (M1 := M) (r := some (.int v8)) (st := []) [.int a4] [.int a4] [.int v8] dX11_anew_83 okX11_ones tw_1793 tw_1794 (by decide) (by decide) rfl (Nat.le_of_ble_eq_true rfl) rfl rfl (fun Q hQ => tX11_ones hG hv8 hQ) ?_
    refine sp_goto (tgt := 90) dX11_anew_86 (by decide) ?_
    refine sp_istore_n [some (.ref 103), some (.int a1), some (.int v8), some (.int s0), some (.int a4), some (.int a5)] dX11_anew_90 rfl (by decide) rfl ?_
    refine sp_iinc (v := (a4 + 1)) [some (.ref 103), some (.int a1), some (.int v8), some (.int s0), some (.int (a4 + 1)), some (.int a5)] dX11_anew_91 rfl rfl (by decide) rfl ?_
    refine sp_goto (tgt := 26) dX11_anew_94 (by decide) ?_
    refine sp_weak [true, true, true, true, true, false] [some (.ref 103), some (.int a1), some (.int v8), some (.int s0), some (.int (a4 + 1)), none] rfl ?_
    exact hb _ _ _ _ _ h
set_option maxRecDepth 100000 in
set_option maxHeartbeats 4000000 in
theorem tX11_anew_j62 {g : sp_G} {Ω : sp_Mem → Prop} {Q : sp_Qt} {F : Nat} {p : (Int32 × sp_Mem)} (hG : sp_Ok Ω)  {kb : Int32 → Int32 → Int32 → Int32 → sp_Mem → Option (Int32 × sp_Mem)} {kx : Int32 → Int32 → Int32 → sp_Mem → Option (Int32 × sp_Mem)} (hQ : Q (some (.int p.1)) p.2) (hb : ∀ (a1 : Int32) (a2 : Int32) (a3 : Int32) (a4 : Int32) (M : sp_Mem), kb a1 a2 a3 a4 M = some p → sp_Wp g Ω mX11_anew 0 0 26 [some (.ref 103), some (.int a1), some (.int a2), some (.int a3), some (.int a4), none] [] M Q) (hx : ∀ (a1 : Int32) (a2 : Int32) (a3 : Int32) (M : sp_Mem), kx a1 a2 a3 M = some p → sp_Wp g Ω mX11_anew 0 0 97 [none, some (.int a1), some (.int a2), some (.int a3), none, none] [] M Q) (a1 : Int32) (a2 : Int32) (a3 : Int32) (a4 : Int32) (s0 : Int32) (M : sp_Mem) (h : fX11_anew_j62 F kb kx a1 a2 a3 a4 s0 M = some p) : sp_Wp g Ω mX11_anew 0 0 62 [some (.ref 103), some (.int a1), some (.int a2), some (.int a3), some (.int a4), none] [.int s0] M Q := by
  unfold fX11_anew_j62 at h
  refine sp_istore [some (.ref 103), some (.int a1), some (.int a2), some (.int a3), some (.int a4), some (.int s0)] dX11_anew_62 (by decide) rfl ?_
  refine sp_iload dX11_anew_64 rfl ?_
  suffices hj : sp_Wp g Ω mX11_anew 0 0 75 [some (.ref 103), some (.int a1), some (.int a2), none, some (.int a4), some (.int s0)] [.int (if s0 = 0 then a3 else a4)] M Q by
    refine sp_if_eq (tgt := 74) dX11_anew_66 (by decide) (fun hc6 => ?_) (fun hc6 => ?_)
    · refine sp_iload_n dX11_anew_74 rfl rfl ?_
      refine sp_weak [true, true, true, false, true, true] [some (.ref 103), some (.int a1), some (.int a2), none, some (.int a4), some (.int s0)] rfl ?_
      simp only [if_pos hc6] at hj
      exact hj
    · refine sp_iload dX11_anew_69 rfl ?_
      refine sp_goto (tgt := 75) dX11_anew_71 (by decide) ?_
      refine sp_weak [true, true, true, false, true, true] [some (.ref 103), some (.int a1), some (.int a2), none, some (.int a4), some (.int s0)] rfl ?_
      simp only [if_neg hc6] at hj
      exact hj
  refine sp_weak [true, true, true, false, true, true] [some (.ref 103), some (.int a1), some (.int a2), none, some (.int a4), some (.int s0)] rfl ?_
  exact tX11_anew_j75 hG hQ hb hx _ _ _ _ _ _ h
set_option maxRecDepth 100000 in
set_option maxHeartbeats 4000000 in
theorem tX11_anew_j61 {g : sp_G} {Ω : sp_Mem → Prop} {Q : sp_Qt} {F : Nat} {p : (Int32 × sp_Mem)} (hG : sp_Ok Ω)  {kb : Int32 → Int32 → Int32 → Int32 → sp_Mem → Option (Int32 × sp_Mem)} {kx : Int32 → Int32 → Int32 → sp_Mem → Option (Int32 × sp_Mem)} (hQ : Q (some (.int p.1)) p.2) (hb : ∀ (a1 : Int32) (a2 : Int32) (a3 : Int32) (a4 : Int32) (M : sp_Mem), kb a1 a2 a3 a4 M = some p → sp_Wp g Ω mX11_anew 0 0 26 [some (.ref 103), some (.int a1), some (.int a2), some (.int a3), some (.int a4), none] [] M Q) (hx : ∀ (a1 : Int32) (a2 : Int32) (a3 : Int32) (M : sp_Mem), kx a1 a2 a3 M = some p → sp_Wp g Ω mX11_anew 0 0 97 [none, some (.int a1), some (.int a2), some (.int a3), none, none] [] M Q) (a1 : Int32) (a2 : Int32) (a3 : Int32) (a4 : Int32) (M : sp_Mem) (h : fX11_anew_j61 F kb kx a1 a2 a3 a4 M = some p) : sp_Wp g Ω mX11_anew 0 0 61 [some (.ref 103), some (.int a1), some (.int a2), some (.int a3), some (.int a4), none] [] M Q := by
  unfold fX11_anew_j61 at h
  refine sp_iconst (v := 0) dX11_anew_61 (by decide) ?_
  refine sp_weak [true, true, true, true, true, false] [some (.ref 103), some (.int a1), some (.int a2), some (.int a3), some (.int a4), none] rfl ?_
  exact tX11_anew_j62 hG hQ hb hx _ _ _ _ _ _ h
set_option maxRecDepth 100000 in
set_option maxHeartbeats 4000000 in
theorem tX11_anew_l26 {g : sp_G} {Ω : sp_Mem → Prop} {Q : sp_Qt} {F : Nat} {p : (Int32 × sp_Mem)} (hG : sp_Ok Ω)  {kx : Int32 → Int32 → Int32 → sp_Mem → Option (Int32 × sp_Mem)} (hQ : Q (some (.int p.1)) p.2) (hx : ∀ (a1 : Int32) (a2 : Int32) (a3 : Int32) (M : sp_Mem), kx a1 a2 a3 M = some p → sp_Wp g Ω mX11_anew 0 0 97 [none, some (.int a1), some (.int a2), some (.int a3), none, none] [] M Q) : ∀ (n : Nat) (a1 : Int32) (a2 : Int32) (a3 : Int32) (a4 : Int32) (M : sp_Mem), fX11_anew_l26 F kx n a1 a2 a3 a4 M = some p → sp_Wp g Ω mX11_anew 0 0 26 [some (.ref 103), some (.int a1), some (.int a2), some (.int a3), some (.int a4), none] [] M Q := by
  intro n
  induction n with
  | zero =>
    intro a1 a2 a3 a4 M h
    rw [fX11_anew_l26] at h
    cases h
  | succ n ih =>
    intro a1 a2 a3 a4 M h
    rw [fX11_anew_l26] at h
    refine sp_iload dX11_anew_26 rfl ?_
    refine sp_iconst (v := 1) dX11_anew_28 (by decide) ?_
    refine sp_aload_n dX11_anew_29 rfl rfl ?_
    refine sp_use (fun ho => ?_)
    have hs := hG.1 _ ho
    refine sp_getR (RX11, TX11, 56) dX11_anew_30 clX11 (j := 3) (by decide) tw_1218 (wsI_103 hs) (Or.inr ⟨_, rfl⟩) (wsP_103_3 hs) ?_
    refine sp_iconst (v := 0) dX11_anew_33 (by decide) ?_
    refine sp_iald2 (j := 0) dX11_anew_34 (wsA_105 hs) (wsN_105 hs) rfl ?_
    refine sp_ishl dX11_anew_35 ?_
    refine sp_icmp_ge (tgt := 97) dX11_anew_36 (by decide) (fun hc3 => ?_) (fun hc3 => ?_)
    · have h := (if_pos hc3).symm.trans h
      refine sp_weak [false, true, true, true, false, false] [none, some (.int a1), some (.int a2), some (.int a3), none, none] rfl ?_
      exact hx _ _ _ _ h
    · have h := (if_neg hc3).symm.trans h
      refine sp_iload dX11_anew_39 rfl ?_
      obtain ⟨v4, hv4, h⟩ := Option.bind_eq_some_iff.mp h
      refine sp_cS (M1 := M) (r := some (.int v4)) (st := []) [.int a4] [.int a4] [.int v4] dX11_anew_41 okX11_ones tw_1793 tw_1794 (by decide) (by decide) rfl (Nat.le_of_ble_eq_true rfl) rfl rfl (fun Q hQ => tX11_ones hG hv4 hQ) ?_
      refine sp_iload_n dX11_anew_44 rfl rfl ?_
      refine sp_icmp_ge (tgt := 61) dX11_anew_45 (by decide) (fun hc5 => ?_) (fun hc5 => ?_)
      · have h := (if_pos hc5).symm.trans h
        refine sp_weak [true, true, true, true, true, false] [some (.ref 103), some (.int a1), some (.int a2), some (.int a3), some (.int a4), none] rfl ?_
        exact tX11_anew_j61 hG hQ ih hx _ _ _ _ _ h
      · have h := (if_neg hc5).symm.trans h
        refine sp_aload_n dX11_anew_48 rfl rfl ?_
        refine sp_iload dX11_anew_49 rfl ?_
        obtain ⟨v9, hv9, h⟩ := Option.bind_eq_some_iff.mp h
        refine sp_cV (M1 := M) (r := some (.int v9)) (o := 103) (st := []) (c := 10) (RX11, TX11, 56) [.int a4] [.int a4, .ref 103] [.int v9] dX11_anew_51 okX11_areApart tw_1808 tw_1810 tw_87 (by decide) (by decide) rfl (Nat.le_of_ble_eq_true rfl) rfl rfl rfl rfl (wsI_103 hs) (fun Q hQ => tX11_areApart hG hv9 hQ) ?_
        suffices hj : sp_Wp g Ω mX11_anew 0 0 62 [some (.ref 103), some (.int a1), some (.int a2), some (.int a3), some (.int a4), none] [.int (if v9 = 0 then 0 else 1)] M Q by
          refine sp_if_eq (tgt := 61) dX11_anew_54 (by decide) (fun hc10 => ?_) (fun hc10 => ?_)
          · refine sp_iconst (v := 0) dX11_anew_61 (by decide) ?_
            simp only [if_pos hc10] at hj
            exact hj
          · refine sp_iconst (v := 1) dX11_anew_57 (by decide) ?_
            refine sp_goto (tgt := 62) dX11_anew_58 (by decide) ?_
            simp only [if_neg hc10] at hj
            exact hj
        refine sp_weak [true, true, true, true, true, false] [some (.ref 103), some (.int a1), some (.int a2), some (.int a3), some (.int a4), none] rfl ?_
        exact tX11_anew_j62 hG hQ ih hx _ _ _ _ _ _ h
set_option maxRecDepth 100000 in
set_option maxHeartbeats 4000000 in
theorem tX11_anew {g : sp_G} {Ω : sp_Mem → Prop} {Q : sp_Qt} {F : Nat} {p : (Int32 × sp_Mem)} (hG : sp_Ok Ω) {M : sp_Mem} {a1 : Int32} (h : fX11_anew F M a1 = some p) (hQ : Q (some (.int p.1)) p.2) : sp_Mt g Ω mX11_anew 0 0 [.ref 103, .int a1] M Q := by
  unfold fX11_anew at h
  refine sp_Mt.of [some (.ref 103), some (.int a1), none, none, none, none] (by decide) (by simp [sp_ent, Value.category]) rfl ?_
  refine sp_aload_n dX11_anew_0 rfl rfl ?_
  refine sp_iconst (v := 0) dX11_anew_1 (by decide) ?_
  refine sp_use (fun ho => ?_)
  have hs := hG.1 _ ho
  obtain ⟨M1, hM1, h⟩ := sp_do_e h
  refine sp_putI2 (RX11, TX11, 56) hG dX11_anew_2 clX11 (j := 0) (by decide) tw_1215 rfl (Or.inl rfl) (wsI_103 hs) hM1 ?_
  refine sp_iload_n dX11_anew_5 rfl rfl ?_
  refine sp_i2l dX11_anew_6 ?_
  refine sp_lconst (v := 0) dX11_anew_7 (by decide) ?_
  refine sp_lconst (v := 1) dX11_anew_8 (by decide) ?_
  refine sp_use (fun ho => ?_)
  have hs := hG.1 _ ho
  refine sp_cS (M1 := M1) (r := some (.int (fX11_in (Int32.toInt64 a1) 0 1))) (st := []) [.long (Int32.toInt64 a1), .long 0, .long 1] [.long 1, .long 0, .long (Int32.toInt64 a1)] [.int (fX11_in (Int32.toInt64 a1) 0 1)] dX11_anew_9 okX11_in tw_1400 tw_1401 (by decide) (by decide) rfl (Nat.le_of_ble_eq_true rfl) rfl rfl (fun Q hQ => tX11_in hG rfl hQ) ?_
  refine sp_if_ne (tgt := 17) dX11_anew_12 (by decide) (fun hc2 => ?_) (fun hc2 => ?_)
  · have h := (if_neg hc2).symm.trans h
    refine sp_ldcw (v := 100000000) dX11_anew_17 tw_1760 ?_
    refine sp_istore_n [some (.ref 103), some (.int a1), some (.int 100000000), none, none, none] dX11_anew_20 rfl (by decide) rfl ?_
    refine sp_iconst (v := 0) dX11_anew_21 (by decide) ?_
    refine sp_istore_n [some (.ref 103), some (.int a1), some (.int 100000000), some (.int 0), none, none] dX11_anew_22 rfl (by decide) rfl ?_
    refine sp_iconst (v := 0) dX11_anew_23 (by decide) ?_
    refine sp_istore [some (.ref 103), some (.int a1), some (.int 100000000), some (.int 0), some (.int 0), none] dX11_anew_24 (by decide) rfl ?_
    refine sp_weak [true, true, true, true, true, false] [some (.ref 103), some (.int a1), some (.int 100000000), some (.int 0), some (.int 0), none] rfl ?_
    refine tX11_anew_l26 hG hQ (fun b12 b13 b14 M11 h => ?_) F _ _ _ _ _ h
    refine sp_iload_n dX11_anew_97 rfl rfl ?_
    suffices hj : sp_Wp g Ω mX11_anew 0 0 106 [none, none, none, none, none, none] [.int (if b12 = 0 then b13 else b14)] M11 Q by
      refine sp_if_ne (tgt := 105) dX11_anew_98 (by decide) (fun hc15 => ?_) (fun hc15 => ?_)
      · refine sp_iload_n dX11_anew_105 rfl rfl ?_
        refine sp_weak [false, false, false, false, false, false] [none, none, none, none, none, none] rfl ?_
        simp only [if_neg hc15] at hj
        exact hj
      · refine sp_iload_n dX11_anew_101 rfl rfl ?_
        refine sp_goto (tgt := 106) dX11_anew_102 (by decide) ?_
        refine sp_weak [false, false, false, false, false, false] [none, none, none, none, none, none] rfl ?_
        simp only [if_pos hc15] at hj
        exact hj
    cases h
    exact sp_iret dX11_anew_106 (ty := .int) rfl rfl (fun _ => hQ)
  · have h := (if_pos hc2).symm.trans h
    refine sp_iconst (v := (-1)) dX11_anew_15 (by decide) ?_
    cases h
    exact sp_iret dX11_anew_16 (ty := .int) rfl rfl (fun _ => hQ)
