theorem sp_tri_text {M : sp_Mem} {t n1 n2 : Nat} : sp_text (sp_tri (sp_new M 13 0) (sp_n M) t n1 n2) (sp_n M) := by
  have hn : sp_n (sp_tri (sp_new M 13 0) (sp_n M) t n1 n2) = sp_n M + 3 := by
    unfold sp_tri
    rw [sp_n_setI, sp_n_setI, sp_n_setP, sp_n_cpo, sp_n_setP, sp_n_cpo, sp_n_new]
  have hT : ∀ i, sp_T (sp_tri (sp_new M 13 0) (sp_n M) t n1 n2) i = if i = sp_n M + 2 then 0 else if i = sp_n M + 1 then 0 else if i = sp_n M then 13 else sp_T M i := fun i => by
    unfold sp_tri
    rw [sp_T_setI, sp_T_setI, sp_T_setP, sp_T_cpo, sp_n_setP, sp_n_cpo, sp_T_setP, sp_T_cpo, sp_n_new, sp_T_new]
  refine ⟨⟨by omega, ?_⟩, ?_, ?_, ⟨by omega, ?_⟩, ⟨by omega, ?_⟩⟩
  · rw [hT, if_neg (by omega), if_neg (by omega), if_pos rfl]
  · unfold sp_tri
    rw [sp_P_setI, sp_P_setI, sp_P_setP, if_neg (fun e => by cases e.2), sp_P_cpo, sp_n_setP, sp_n_cpo, sp_n_new, if_neg (by omega), sp_P_setP, if_pos ⟨rfl, rfl⟩]
  · unfold sp_tri
    rw [sp_P_setI, sp_P_setI, sp_P_setP, if_pos ⟨rfl, rfl⟩, sp_n_new]
  · rw [hT, if_neg (by omega), if_pos rfl]
  · rw [hT, if_pos rfl]
/-- a law that was read: a new text, kept -/
def fX10_lawOk (M : sp_Mem) : Option ((Int32 × sp_Mem) × Nat × Nat) :=
  if sp_I M 97 2 * 5 < 0 ∨ 60 < (sp_I M 97 2 * 5).toNatClampNeg ∨ sp_I M 97 3 < 0 ∨ 400 < (sp_I M 97 3).toNatClampNeg ∨ 999990 < sp_n M then none else
  (fX5_addLaw (sp_tri (sp_new M 13 0) (sp_n M) 97 (sp_I M 97 2 * 5).toNatClampNeg (sp_I M 97 3).toNatClampNeg) 6 (sp_n M)).bind fun y => (fX10_grant y.2 y.1).bind fun z => some (z, 3, (sp_I M 97 2 * 5).toNatClampNeg + (sp_I M 97 3).toNatClampNeg + 4)
/-- law(): its answer and the memory, and how many cells and slots it made -/
def fX10_law (F : Nat) (M : sp_Mem) : Option ((Int32 × sp_Mem) × Nat × Nat) :=
  if (sp_I M 6 14) < 6 then ((fX2_read F M 0).bind fun x2 => sp_do (sp_setI x2.2 0 14 x2.1) fun M3 => sp_do (sp_setI M3 94 1 0) fun M4 => if (sp_I M4 0 14) = (-1) then (fX10_lawOk M4) else ((fX10_refuse M4 (-6)).bind fun x6 => some (x6, 0, 0))) else (sp_do (sp_setI M 94 1 0) fun M7 => (fX10_refuse M7 (-5)).bind fun x8 => some (x8, 0, 0))
set_option maxRecDepth 100000 in
set_option maxHeartbeats 4000000 in
theorem tX10_law_62 {g : sp_G} {Ω : sp_Mem → Prop} {Q : sp_Qt} {p : (Int32 × sp_Mem) × Nat × Nat} (hG : sp_Ok Ω) {M : sp_Mem} (h : fX10_lawOk M = some p) (hQ : Q (some (.int p.1.1)) p.1.2) : sp_Wp g Ω mX10_law p.2.1 p.2.2 62 [some (.ref 0)] [] M Q := by
  unfold fX10_lawOk at h
  by_cases hc : sp_I M 97 2 * 5 < 0 ∨ 60 < (sp_I M 97 2 * 5).toNatClampNeg ∨ sp_I M 97 3 < 0 ∨ 400 < (sp_I M 97 3).toNatClampNeg ∨ 999990 < sp_n M
  · rw [if_pos hc] at h; cases h
  have h := (if_neg hc).symm.trans h
  have c1 : ¬ sp_I M 97 2 * 5 < 0 := fun q => hc (Or.inl q)
  have c2 : (sp_I M 97 2 * 5).toNatClampNeg ≤ 60 := Nat.not_lt.mp fun q => hc (Or.inr (Or.inl q))
  have c3 : ¬ sp_I M 97 3 < 0 := fun q => hc (Or.inr (Or.inr (Or.inl q)))
  have c4 : (sp_I M 97 3).toNatClampNeg ≤ 400 := Nat.not_lt.mp fun q => hc (Or.inr (Or.inr (Or.inr (Or.inl q))))
  have c5 : sp_n M ≤ 999990 := Nat.not_lt.mp fun q => hc (Or.inr (Or.inr (Or.inr (Or.inr q))))
  obtain ⟨y, hy, h⟩ := Option.bind_eq_some_iff.mp h
  obtain ⟨z, hz, h⟩ := Option.bind_eq_some_iff.mp h
  cases h
  refine sp_use (fun ho => ?_)
  have hs := hG.1 _ ho
  refine sp_aload_n dX10_law_62 rfl rfl ?_
  refine sp_aload_n dX10_law_63 rfl rfl ?_
  refine sp_getR (RX10, TX10, 16) dX10_law_64 clX10 (j := 3) (by decide) tw_418 (wsI_0 hs) (Or.inl ⟨_, rfl⟩) (wsP_0_3 hs) ?_
  refine sp_aload_n dX10_law_67 rfl rfl ?_
  refine sp_getR (RX10, TX10, 16) dX10_law_68 clX10 (j := 9) (by decide) tw_424 (wsI_0 hs) (Or.inl ⟨_, rfl⟩) (wsP_0_9 hs) ?_
  refine sp_getR (RX2, TX2, 9) dX10_law_71 clX2 (j := 1) (by decide) tw_388 (wsI_96 hs) (Or.inl ⟨_, rfl⟩) (wsP_96_1 hs) ?_
  generalize hM1 : sp_tri (sp_new M 13 0) (sp_n M) 97 (sp_I M 97 2 * 5).toNatClampNeg (sp_I M 97 3).toNatClampNeg = M1 at hy
  have hT : sp_text M1 (sp_n M) := by rw [← hM1]; exact sp_tri_text
  refine sp_bud (mc' := 3 + 0) (ms' := ((sp_I M 97 2 * 5).toNatClampNeg + (sp_I M 97 3).toNatClampNeg + 4) + 0) rfl rfl ?_
  refine sp_callV (μ' := mX9_trimmed) (o := 97) (c := 8) (st := [.ref 6, .ref 0]) (Qc := fun r' M' => r' = some (.ref (sp_n M)) ∧ M' = M1) (RX9, TX9, 4) [] dX10_law_74 okX9_trimmed tw_816 tw_817 tw_818 (by decide) (by decide) rfl (Nat.le_of_ble_eq_true rfl) (fun _ M' hq _ _ => ?_) rfl rfl (wsI_97 hs) (tX9_trimmed hG (text_97 hs) c1 rfl (by rw [wsN_98 hs]; exact c2) (by rw [wsN_98 hs]; decide) c3 rfl (by rw [wsN_99 hs]; exact c4) (by rw [wsN_99 hs]; decide) (by omega) hs ⟨rfl, hM1⟩) (fun r' M' hq => ?_) [.ref 97, .ref 6, .ref 0] rfl
  · rw [hq.2, ← hM1]
    unfold sp_tri
    rw [sp_n_setI, sp_n_setI, sp_n_setP, sp_n_cpo, sp_n_setP, sp_n_cpo, sp_n_new]
  · obtain ⟨rfl, rfl⟩ := hq
    show sp_Wp g Ω mX10_law 0 0 77 [some (.ref 0)] [.ref (sp_n M), .ref 6, .ref 0] M' Q
    refine sp_use (fun ho => ?_)
    refine sp_chg (Ω' := fun M2 => Ω M2 ∧ sp_text M2 (sp_n M)) (fun h => ⟨h, hT⟩) (fun _ h => h.1) ?_
    have hG2 := sp_Ok_text hG (sp_n M)
    have hs := hG.1 _ ho
    refine sp_cV (M1 := y.2) (r := some (.int y.1)) (o := 6) (st := [.ref 0]) (c := 4) (RX5, TX5, 16) [.ref (sp_n M)] [.ref (sp_n M), .ref 6, .ref 0] [.int y.1, .ref 0] dX10_law_77 okX5_addLaw tw_838 tw_839 tw_840 (by decide) (by decide) rfl (Nat.le_of_ble_eq_true rfl) rfl rfl rfl rfl (wsI_6 hs) (fun Q hQ => tX5_addLaw hG2 room_6 (fun _ h => h.2) hy hQ) ?_
    refine sp_use (fun ho => ?_)
    have hs := hG2.1 _ ho
    refine sp_cV (M1 := z.2) (r := some (.int z.1)) (o := 0) (st := []) (c := 9) (RX10, TX10, 16) [.int y.1] [.int y.1, .ref 0] [.int z.1] dX10_law_80 okX10_grant tw_486 tw_488 tw_1 (by decide) (by decide) rfl (Nat.le_of_ble_eq_true rfl) rfl rfl rfl rfl (wsI_0 hs) (fun Q hQ => tX10_grant hG2 hz hQ) ?_
    exact sp_iret dX10_law_83 (ty := .int) rfl rfl (fun _ => hQ)
set_option maxRecDepth 100000 in
set_option maxHeartbeats 4000000 in
theorem tX10_law {g : sp_G} {Ω : sp_Mem → Prop} {Q : sp_Qt} {F : Nat} {p : (Int32 × sp_Mem) × Nat × Nat} (hG : sp_Ok Ω) {M : sp_Mem} (h : fX10_law F M = some p) (hQ : Q (some (.int p.1.1)) p.1.2) : sp_Mt g Ω mX10_law p.2.1 p.2.2 [.ref 0] M Q := by
  unfold fX10_law at h
  refine sp_Mt.of [some (.ref 0)] (by decide) (by simp [sp_ent, Value.category]) rfl ?_
  refine sp_aload_n dX10_law_0 rfl rfl ?_
  refine sp_use (fun ho => ?_)
  have hs := hG.1 _ ho
  refine sp_getR (RX10, TX10, 16) dX10_law_1 clX10 (j := 3) (by decide) tw_418 (wsI_0 hs) (Or.inl ⟨_, rfl⟩) (wsP_0_3 hs) ?_
  refine sp_getI (RX5, TX5, 16) dX10_law_4 clX5 (j := 14) (by decide) tw_217 (wsI_6 hs) (Or.inl rfl) ?_
  refine sp_bipush (v := 6) dX10_law_7 (by decide) ?_
  refine sp_icmp_lt (tgt := 27) dX10_law_9 (by decide) (fun hc1 => ?_) (fun hc1 => ?_)
  · have h := (if_pos hc1).symm.trans h
    refine sp_aload_n dX10_law_27 rfl rfl ?_
    refine sp_aload_n dX10_law_28 rfl rfl ?_
    refine sp_getR (RX10, TX10, 16) dX10_law_29 clX10 (j := 9) (by decide) tw_424 (wsI_0 hs) (Or.inl ⟨_, rfl⟩) (wsP_0_9 hs) ?_
    refine sp_iconst (v := 0) dX10_law_32 (by decide) ?_
    obtain ⟨x2, hx2, h⟩ := Option.bind_eq_some_iff.mp h
    refine sp_cV (M1 := x2.2) (r := some (.int x2.1)) (o := 96) (st := [.ref 0]) (c := 2) (RX2, TX2, 9) [.int 0] [.int 0, .ref 96, .ref 0] [.int x2.1, .ref 0] dX10_law_33 okX2_read tw_639 tw_640 tw_641 (by decide) (by decide) rfl (Nat.le_of_ble_eq_true rfl) rfl rfl rfl rfl (wsI_96 hs) (fun Q hQ => tX2_read hG hx2 hQ) ?_
    refine sp_use (fun ho => ?_)
    have hs := hG.1 _ ho
    obtain ⟨M3, hM3, h⟩ := sp_do_e h
    refine sp_putI2 (RX10, TX10, 16) hG dX10_law_36 clX10 (j := 14) (by decide) tw_429 rfl (Or.inl rfl) (wsI_0 hs) hM3 ?_
    refine sp_aload_n dX10_law_39 rfl rfl ?_
    refine sp_use (fun ho => ?_)
    have hs := hG.1 _ ho
    refine sp_getR (RX10, TX10, 16) dX10_law_40 clX10 (j := 8) (by decide) tw_423 (wsI_0 hs) (Or.inl ⟨_, rfl⟩) (wsP_0_8 hs) ?_
    refine sp_iconst (v := 0) dX10_law_43 (by decide) ?_
    obtain ⟨M4, hM4, h⟩ := sp_do_e h
    refine sp_putI2 (RX8, TX8, 5) hG dX10_law_44 clX8 (j := 1) (by decide) tw_339 rfl (Or.inl rfl) (wsI_94 hs) hM4 ?_
    refine sp_aload_n dX10_law_47 rfl rfl ?_
    refine sp_use (fun ho => ?_)
    have hs := hG.1 _ ho
    refine sp_getI (RX10, TX10, 16) dX10_law_48 clX10 (j := 14) (by decide) tw_429 (wsI_0 hs) (Or.inl rfl) ?_
    refine sp_iconst (v := (-1)) dX10_law_51 (by decide) ?_
    refine sp_icmp_eq (tgt := 62) dX10_law_52 (by decide) (fun hc5 => ?_) (fun hc5 => ?_)
    · have h := (if_pos hc5).symm.trans h
      exact tX10_law_62 hG h hQ
    · have h := (if_neg hc5).symm.trans h
      refine sp_aload_n dX10_law_55 rfl rfl ?_
      refine sp_bipush (v := (-6)) dX10_law_56 (by decide) ?_
      obtain ⟨x6, hx6, h⟩ := Option.bind_eq_some_iff.mp h
      refine sp_cV (M1 := x6.2) (r := some (.int x6.1)) (o := 0) (st := []) (c := 9) (RX10, TX10, 16) [.int (-6)] [.int (-6), .ref 0] [.int x6.1] dX10_law_58 okX10_refuse tw_474 tw_476 tw_0 (by decide) (by decide) rfl (Nat.le_of_ble_eq_true rfl) rfl rfl rfl rfl (wsI_0 hs) (fun Q hQ => tX10_refuse hG hx6 hQ) ?_
      obtain rfl := Option.some.inj h
      exact sp_iret dX10_law_61 (ty := .int) rfl rfl (fun _ => hQ)
  · have h := (if_neg hc1).symm.trans h
    refine sp_aload_n dX10_law_12 rfl rfl ?_
    refine sp_getR (RX10, TX10, 16) dX10_law_13 clX10 (j := 8) (by decide) tw_423 (wsI_0 hs) (Or.inl ⟨_, rfl⟩) (wsP_0_8 hs) ?_
    refine sp_iconst (v := 0) dX10_law_16 (by decide) ?_
    obtain ⟨M7, hM7, h⟩ := sp_do_e h
    refine sp_putI2 (RX8, TX8, 5) hG dX10_law_17 clX8 (j := 1) (by decide) tw_339 rfl (Or.inl rfl) (wsI_94 hs) hM7 ?_
    refine sp_aload_n dX10_law_20 rfl rfl ?_
    refine sp_bipush (v := (-5)) dX10_law_21 (by decide) ?_
    refine sp_use (fun ho => ?_)
    have hs := hG.1 _ ho
    obtain ⟨x8, hx8, h⟩ := Option.bind_eq_some_iff.mp h
    refine sp_cV (M1 := x8.2) (r := some (.int x8.1)) (o := 0) (st := []) (c := 9) (RX10, TX10, 16) [.int (-5)] [.int (-5), .ref 0] [.int x8.1] dX10_law_23 okX10_refuse tw_474 tw_476 tw_0 (by decide) (by decide) rfl (Nat.le_of_ble_eq_true rfl) rfl rfl rfl rfl (wsI_0 hs) (fun Q hQ => tX10_refuse hG hx8 hQ) ?_
    obtain rfl := Option.some.inj h
    exact sp_iret dX10_law_26 (ty := .int) rfl rfl (fun _ => hQ)
