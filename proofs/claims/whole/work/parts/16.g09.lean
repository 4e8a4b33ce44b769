def fX10_nearest (a0 : Int32) (a1 : Int32) (a2 : Int32) : Int32 :=
  (sp_max a1 (sp_min a2 a0))
set_option maxRecDepth 100000 in
set_option maxHeartbeats 4000000 in
theorem tX10_nearest {g : sp_G} {Ω : sp_Mem → Prop} {Q : sp_Qt} {M0 : sp_Mem} {p : Int32} (hG : sp_Ok Ω) {a0 : Int32} {a1 : Int32} {a2 : Int32} (h : fX10_nearest a0 a1 a2 = p) (hQ : Q (some (.int p)) M0) : sp_Mt g Ω mX10_nearest 0 0 [.int a0, .int a1, .int a2] M0 Q := by
  unfold fX10_nearest at h
  refine sp_Mt.of [some (.int a0), some (.int a1), some (.int a2)] (by decide) (by simp [sp_ent, Value.category]) rfl ?_
  refine sp_iload_n dX10_nearest_0 rfl rfl ?_
  refine sp_iload_n dX10_nearest_1 rfl rfl ?_
  refine sp_iload_n dX10_nearest_2 rfl rfl ?_
  refine sp_mmin dX10_nearest_3 tw_548 (by decide) (Nat.le_of_ble_eq_true rfl) ?_
  refine sp_mmax dX10_nearest_6 tw_549 (by decide) (Nat.le_of_ble_eq_true rfl) ?_
  cases h
  exact sp_iret dX10_nearest_9 (ty := .int) rfl rfl (fun _ => hQ)
def fX6_wayOf (F : Nat) (M : sp_Mem) (o1 : Nat) (a2 : Int32) : Option (Int32 × sp_Mem) :=
  (sp_ix 6 a2).bind fun j1 => (fX6_toldBy F M o1 0 a2 (sp_I M (o1 + 2) j1) (-1)).bind fun x2 => if x2.1 = (-2000000000) then (some (((a2 + (sp_I x2.2 (o1 + 10) 0)) - (a2 + (sp_I x2.2 (o1 + 10) 0)) / 5 * 5), x2.2)) else (some ((fX10_nearest x2.1 0 4), x2.2))
set_option maxRecDepth 100000 in
set_option maxHeartbeats 4000000 in
theorem tX6_wayOf {g : sp_G} {Ω : sp_Mem → Prop} {Q : sp_Qt} {F : Nat} {p : (Int32 × sp_Mem)} (hG : sp_Ok Ω) {o1 : Nat} (ho1 : sp_room o1) {M : sp_Mem} {a2 : Int32} (h : fX6_wayOf F M o1 a2 = some p) (hQ : Q (some (.int p.1)) p.2) : sp_Mt g Ω mX6_wayOf 0 0 [.ref 1, .ref o1, .int a2] M Q := by
  unfold fX6_wayOf at h
  refine sp_Mt.of [some (.ref 1), some (.ref o1), some (.int a2), none] (by decide) (by simp [sp_ent, Value.category]) rfl ?_
  refine sp_aload_n dX6_wayOf_0 rfl rfl ?_
  refine sp_aload_n dX6_wayOf_1 rfl rfl ?_
  refine sp_iconst (v := 0) dX6_wayOf_2 (by decide) ?_
  refine sp_iload_n dX6_wayOf_3 rfl rfl ?_
  refine sp_aload_n dX6_wayOf_4 rfl rfl ?_
  refine sp_use (fun ho => ?_)
  have hs := hG.1 _ ho
  refine sp_getR (RX5, TX5, 16) dX6_wayOf_5 clX5 (j := 1) (by decide) tw_170 (rmI hs ho1) (Or.inr ⟨_, rfl⟩) (rmP_1 hs ho1) ?_
  refine sp_iload_n dX6_wayOf_8 rfl rfl ?_
  obtain ⟨j1, hj1, h⟩ := Option.bind_eq_some_iff.mp h
  refine sp_iald2 (j := j1) dX6_wayOf_9 (rmA_2 hs ho1) (rmN_2 hs ho1) hj1 ?_
  refine sp_iconst (v := (-1)) dX6_wayOf_10 (by decide) ?_
  obtain ⟨x2, hx2, h⟩ := Option.bind_eq_some_iff.mp h
  refine sp_cV (M1 := x2.2) (r := some (.int x2.1)) (o := 1) (st := []) (c := 5) (RX6, TX6, 2) [.ref o1, .int 0, .int a2, .int (sp_I M (o1 + 2) j1), .int (-1)] [.int (-1), .int (sp_I M (o1 + 2) j1), .int a2, .int 0, .ref o1, .ref 1] [.int x2.1] dX6_wayOf_11 okX6_toldBy tw_502 tw_504 tw_2 (by decide) (by decide) rfl (Nat.le_of_ble_eq_true rfl) rfl rfl rfl rfl (wsI_1 hs) (fun Q hQ => tX6_toldBy hG ho1 hx2 hQ) ?_
  refine sp_istore_n [some (.ref 1), some (.ref o1), some (.int a2), some (.int x2.1)] dX6_wayOf_14 rfl (by decide) rfl ?_
  refine sp_iload_n dX6_wayOf_15 rfl rfl ?_
  refine sp_ldc (v := (-2000000000)) dX6_wayOf_16 tw_515 ?_
  refine sp_icmp_ne (tgt := 34) dX6_wayOf_18 (by decide) (fun hc3 => ?_) (fun hc3 => ?_)
  · have h := (if_neg hc3).symm.trans h
    refine sp_iload_n dX6_wayOf_34 rfl rfl ?_
    refine sp_iconst (v := 0) dX6_wayOf_35 (by decide) ?_
    refine sp_iconst (v := 4) dX6_wayOf_36 (by decide) ?_
    refine sp_use (fun ho => ?_)
    have hs := hG.1 _ ho
    refine sp_cSN (M1 := x2.2) (r := some (.int (fX10_nearest x2.1 0 4))) (st := []) [.int x2.1, .int 0, .int 4] [.int 4, .int 0, .int x2.1] [.int (fX10_nearest x2.1 0 4)] dX6_wayOf_37 okX10_nearest (by decide +kernel) tw_546 (by decide) (by decide) rfl (Nat.le_of_ble_eq_true rfl) rfl rfl (fun Q hQ => tX10_nearest hG rfl hQ) ?_
    cases h
    exact sp_iret dX6_wayOf_40 (ty := .int) rfl rfl (fun _ => hQ)
  · have h := (if_pos hc3).symm.trans h
    refine sp_iload_n dX6_wayOf_21 rfl rfl ?_
    refine sp_aload_n dX6_wayOf_22 rfl rfl ?_
    refine sp_use (fun ho => ?_)
    have hs := hG.1 _ ho
    refine sp_getR (RX5, TX5, 16) dX6_wayOf_23 clX5 (j := 12) (by decide) tw_211 (rmI hs ho1) (Or.inr ⟨_, rfl⟩) (rmP_12 hs ho1) ?_
    refine sp_iconst (v := 0) dX6_wayOf_26 (by decide) ?_
    refine sp_iald2 (j := 0) dX6_wayOf_27 (rmA_10 hs ho1) (rmN_10 hs ho1) rfl ?_
    refine sp_iadd dX6_wayOf_28 ?_
    refine sp_iconst (v := 5) dX6_wayOf_29 (by decide) ?_
    refine sp_irem dX6_wayOf_30 (by decide) ?_
    refine sp_goto (tgt := 40) dX6_wayOf_31 (by decide) ?_
    cases h
    exact sp_iret dX6_wayOf_40 (ty := .int) rfl rfl (fun _ => hQ)
def fX10_stepFrom (a0 : Int32) (a1 : Int32) : Option Int32 :=
  sp_do ((a0 - a0 / 5 * 5)) fun u1 => if a1 = 1 then (some (if 4 ≤ (a0 / 5) then (-1) else (a0 + 5))) else if a1 = 2 then (some (if 4 ≤ u1 then (-1) else (a0 + 1))) else if a1 = 3 then (some (if (a0 / 5) ≤ 0 then (-1) else (a0 - 5))) else if a1 = 4 then (some (if u1 ≤ 0 then (-1) else (a0 - 1))) else (some a0)
set_option maxRecDepth 100000 in
set_option maxHeartbeats 4000000 in
theorem tX10_stepFrom {g : sp_G} {Ω : sp_Mem → Prop} {Q : sp_Qt} {M0 : sp_Mem} {p : Int32} (hG : sp_Ok Ω) {a0 : Int32} {a1 : Int32} (h : fX10_stepFrom a0 a1 = some p) (hQ : Q (some (.int p)) M0) : sp_Mt g Ω mX10_stepFrom 0 0 [.int a0, .int a1] M0 Q := by
  unfold fX10_stepFrom at h
  refine sp_Mt.of [some (.int a0), some (.int a1), none, none] (by decide) (by simp [sp_ent, Value.category]) rfl ?_
  refine sp_iload_n dX10_stepFrom_0 rfl rfl ?_
  refine sp_iconst (v := 5) dX10_stepFrom_1 (by decide) ?_
  refine sp_irem dX10_stepFrom_2 (by decide) ?_
  obtain ⟨u1, hu1, h⟩ := sp_do_e h
  refine sp_topi hu1 ?_
  refine sp_istore_n [some (.int a0), some (.int a1), some (.int u1), none] dX10_stepFrom_3 rfl (by decide) rfl ?_
  refine sp_iload_n dX10_stepFrom_4 rfl rfl ?_
  refine sp_iconst (v := 5) dX10_stepFrom_5 (by decide) ?_
  refine sp_idiv dX10_stepFrom_6 (by decide) ?_
  refine sp_istore_n [some (.int a0), some (.int a1), some (.int u1), some (.int (a0 / 5))] dX10_stepFrom_7 rfl (by decide) rfl ?_
  refine sp_iload_n dX10_stepFrom_8 rfl rfl ?_
  by_cases hc2 : a1 = 1
  · have h := (if_pos hc2).symm.trans h
    refine sp_tswI (tgt := 40) dX10_stepFrom_9 (by rw [hc2]; decide) (by rw [hc2]; decide) (by rw [hc2]; rfl) (by decide) ?_
    refine sp_iload_n dX10_stepFrom_40 rfl rfl ?_
    refine sp_iconst (v := 4) dX10_stepFrom_41 (by decide) ?_
    suffices hj : sp_Wp g Ω mX10_stepFrom 0 0 52 [none, none, none, none] [.int (if 4 ≤ (a0 / 5) then (-1) else (a0 + 5))] M0 Q by
      refine sp_icmp_ge (tgt := 51) dX10_stepFrom_42 (by decide) (fun hc3 => ?_) (fun hc3 => ?_)
      · refine sp_iconst (v := (-1)) dX10_stepFrom_51 (by decide) ?_
        refine sp_weak [false, false, false, false] [none, none, none, none] rfl ?_
        simp only [if_pos hc3] at hj
        exact hj
      · refine sp_iload_n dX10_stepFrom_45 rfl rfl ?_
        refine sp_iconst (v := 5) dX10_stepFrom_46 (by decide) ?_
        refine sp_iadd dX10_stepFrom_47 ?_
        refine sp_goto (tgt := 52) dX10_stepFrom_48 (by decide) ?_
        refine sp_weak [false, false, false, false] [none, none, none, none] rfl ?_
        simp only [if_neg hc3] at hj
        exact hj
    cases h
    exact sp_iret dX10_stepFrom_52 (ty := .int) rfl rfl (fun _ => hQ)
  have h := (if_neg hc2).symm.trans h
  by_cases hc4 : a1 = 2
  · have h := (if_pos hc4).symm.trans h
    refine sp_tswI (tgt := 53) dX10_stepFrom_9 (by rw [hc4]; decide) (by rw [hc4]; decide) (by rw [hc4]; rfl) (by decide) ?_
    refine sp_iload_n dX10_stepFrom_53 rfl rfl ?_
    refine sp_iconst (v := 4) dX10_stepFrom_54 (by decide) ?_
    suffices hj : sp_Wp g Ω mX10_stepFrom 0 0 65 [none, none, none, none] [.int (if 4 ≤ u1 then (-1) else (a0 + 1))] M0 Q by
      refine sp_icmp_ge (tgt := 64) dX10_stepFrom_55 (by decide) (fun hc5 => ?_) (fun hc5 => ?_)
      · refine sp_iconst (v := (-1)) dX10_stepFrom_64 (by decide) ?_
        refine sp_weak [false, false, false, false] [none, none, none, none] rfl ?_
        simp only [if_pos hc5] at hj
        exact hj
      · refine sp_iload_n dX10_stepFrom_58 rfl rfl ?_
        refine sp_iconst (v := 1) dX10_stepFrom_59 (by decide) ?_
        refine sp_iadd dX10_stepFrom_60 ?_
        refine sp_goto (tgt := 65) dX10_stepFrom_61 (by decide) ?_
        refine sp_weak [false, false, false, false] [none, none, none, none] rfl ?_
        simp only [if_neg hc5] at hj
        exact hj
    cases h
    exact sp_iret dX10_stepFrom_65 (ty := .int) rfl rfl (fun _ => hQ)
  have h := (if_neg hc4).symm.trans h
  by_cases hc6 : a1 = 3
  · have h := (if_pos hc6).symm.trans h
    refine sp_tswI (tgt := 66) dX10_stepFrom_9 (by rw [hc6]; decide) (by rw [hc6]; decide) (by rw [hc6]; rfl) (by decide) ?_
    refine sp_iload_n dX10_stepFrom_66 rfl rfl ?_
    suffices hj : sp_Wp g Ω mX10_stepFrom 0 0 77 [none, none, none, none] [.int (if (a0 / 5) ≤ 0 then (-1) else (a0 - 5))] M0 Q by
      refine sp_if_le (tgt := 76) dX10_stepFrom_67 (by decide) (fun hc7 => ?_) (fun hc7 => ?_)
      · refine sp_iconst (v := (-1)) dX10_stepFrom_76 (by decide) ?_
        refine sp_weak [false, false, false, false] [none, none, none, none] rfl ?_
        simp only [if_pos hc7] at hj
        exact hj
      · refine sp_iload_n dX10_stepFrom_70 rfl rfl ?_
        refine sp_iconst (v := 5) dX10_stepFrom_71 (by decide) ?_
        refine sp_isub dX10_stepFrom_72 ?_
        refine sp_goto (tgt := 77) dX10_stepFrom_73 (by decide) ?_
        refine sp_weak [false, false, false, false] [none, none, none, none] rfl ?_
        simp only [if_neg hc7] at hj
        exact hj
    cases h
    exact sp_iret dX10_stepFrom_77 (ty := .int) rfl rfl (fun _ => hQ)
  have h := (if_neg hc6).symm.trans h
  by_cases hc8 : a1 = 4
  · have h := (if_pos hc8).symm.trans h
    refine sp_tswI (tgt := 78) dX10_stepFrom_9 (by rw [hc8]; decide) (by rw [hc8]; decide) (by rw [hc8]; rfl) (by decide) ?_
    refine sp_iload_n dX10_stepFrom_78 rfl rfl ?_
    suffices hj : sp_Wp g Ω mX10_stepFrom 0 0 89 [none, none, none, none] [.int (if u1 ≤ 0 then (-1) else (a0 - 1))] M0 Q by
      refine sp_if_le (tgt := 88) dX10_stepFrom_79 (by decide) (fun hc9 => ?_) (fun hc9 => ?_)
      · refine sp_iconst (v := (-1)) dX10_stepFrom_88 (by decide) ?_
        refine sp_weak [false, false, false, false] [none, none, none, none] rfl ?_
        simp only [if_pos hc9] at hj
        exact hj
      · refine sp_iload_n dX10_stepFrom_82 rfl rfl ?_
        refine sp_iconst (v := 1) dX10_stepFrom_83 (by decide) ?_
        refine sp_isub dX10_stepFrom_84 ?_
        refine sp_goto (tgt := 89) dX10_stepFrom_85 (by decide) ?_
        refine sp_weak [false, false, false, false] [none, none, none, none] rfl ?_
        simp only [if_neg hc9] at hj
        exact hj
    cases h
    exact sp_iret dX10_stepFrom_89 (ty := .int) rfl rfl (fun _ => hQ)
  have h := (if_neg hc8).symm.trans h
  have hc2 := sp_ne hc2 (show (1 : Int32).toInt = 1 by decide)
  have hc4 := sp_ne hc4 (show (2 : Int32).toInt = 2 by decide)
  have hc6 := sp_ne hc6 (show (3 : Int32).toInt = 3 by decide)
  have hc8 := sp_ne hc8 (show (4 : Int32).toInt = 4 by decide)
  refine sp_tswO (tgt := 90) dX10_stepFrom_9 (by omega) (by decide) ?_
  refine sp_iload_n dX10_stepFrom_90 rfl rfl ?_
  cases h
  exact sp_iret dX10_stepFrom_91 (ty := .int) rfl rfl (fun _ => hQ)
def fX6_isBarred (F : Nat) (M : sp_Mem) (o1 : Nat) (a2 : Int32) (a3 : Int32) : Option (Int32 × sp_Mem) :=
  (sp_ix 25 a3).bind fun j1 => if (sp_I M (o1 + 1) j1) = 3 then (some (1, M)) else ((fX6_toldBy F M o1 3 a2 a3 (-1)).bind fun x3 => some ((if x3.1 = (-2000000000) then 0 else 1), x3.2))
set_option maxRecDepth 100000 in
set_option maxHeartbeats 4000000 in
theorem tX6_isBarred {g : sp_G} {Ω : sp_Mem → Prop} {Q : sp_Qt} {F : Nat} {p : (Int32 × sp_Mem)} (hG : sp_Ok Ω) {o1 : Nat} (ho1 : sp_room o1) {M : sp_Mem} {a2 : Int32} {a3 : Int32} (h : fX6_isBarred F M o1 a2 a3 = some p) (hQ : Q (some (.int p.1)) p.2) : sp_Mt g Ω mX6_isBarred 0 0 [.ref 1, .ref o1, .int a2, .int a3] M Q := by
  unfold fX6_isBarred at h
  refine sp_Mt.of [some (.ref 1), some (.ref o1), some (.int a2), some (.int a3)] (by decide) (by simp [sp_ent, Value.category]) rfl ?_
  refine sp_aload_n dX6_isBarred_0 rfl rfl ?_
  refine sp_use (fun ho => ?_)
  have hs := hG.1 _ ho
  refine sp_getR (RX5, TX5, 16) dX6_isBarred_1 clX5 (j := 0) (by decide) tw_167 (rmI hs ho1) (Or.inr ⟨_, rfl⟩) (rmP_0 hs ho1) ?_
  refine sp_iload_n dX6_isBarred_4 rfl rfl ?_
  obtain ⟨j1, hj1, h⟩ := Option.bind_eq_some_iff.mp h
  refine sp_iald2 (j := j1) dX6_isBarred_5 (rmA_1 hs ho1) (rmN_1 hs ho1) hj1 ?_
  refine sp_iconst (v := 3) dX6_isBarred_6 (by decide) ?_
  refine sp_icmp_eq (tgt := 24) dX6_isBarred_7 (by decide) (fun hc2 => ?_) (fun hc2 => ?_)
  · have h := (if_pos hc2).symm.trans h
    refine sp_iconst (v := 1) dX6_isBarred_24 (by decide) ?_
    refine sp_goto (tgt := 29) dX6_isBarred_25 (by decide) ?_
    cases h
    exact sp_iret dX6_isBarred_29 (ty := .boolean) rfl (sp_nz (Or.inr rfl)) (fun _ => hQ)
  · have h := (if_neg hc2).symm.trans h
    refine sp_aload_n dX6_isBarred_10 rfl rfl ?_
    refine sp_aload_n dX6_isBarred_11 rfl rfl ?_
    refine sp_iconst (v := 3) dX6_isBarred_12 (by decide) ?_
    refine sp_iload_n dX6_isBarred_13 rfl rfl ?_
    refine sp_iload_n dX6_isBarred_14 rfl rfl ?_
    refine sp_iconst (v := (-1)) dX6_isBarred_15 (by decide) ?_
    obtain ⟨x3, hx3, h⟩ := Option.bind_eq_some_iff.mp h
    refine sp_cV (M1 := x3.2) (r := some (.int x3.1)) (o := 1) (st := []) (c := 5) (RX6, TX6, 2) [.ref o1, .int 3, .int a2, .int a3, .int (-1)] [.int (-1), .int a3, .int a2, .int 3, .ref o1, .ref 1] [.int x3.1] dX6_isBarred_16 okX6_toldBy tw_502 tw_504 tw_2 (by decide) (by decide) rfl (Nat.le_of_ble_eq_true rfl) rfl rfl rfl rfl (wsI_1 hs) (fun Q hQ => tX6_toldBy hG ho1 hx3 hQ) ?_
    refine sp_ldc (v := (-2000000000)) dX6_isBarred_19 tw_515 ?_
    suffices hj : sp_Wp g Ω mX6_isBarred 0 0 29 [none, none, none, none] [.int (if x3.1 = (-2000000000) then 0 else 1)] x3.2 Q by
      refine sp_icmp_eq (tgt := 28) dX6_isBarred_21 (by decide) (fun hc4 => ?_) (fun hc4 => ?_)
      · refine sp_iconst (v := 0) dX6_isBarred_28 (by decide) ?_
        refine sp_weak [false, false, false, false] [none, none, none, none] rfl ?_
        simp only [if_pos hc4] at hj
        exact hj
      · refine sp_iconst (v := 1) dX6_isBarred_24 (by decide) ?_
        refine sp_goto (tgt := 29) dX6_isBarred_25 (by decide) ?_
        refine sp_weak [false, false, false, false] [none, none, none, none] rfl ?_
        simp only [if_neg hc4] at hj
        exact hj
    cases h
    exact sp_iret dX6_isBarred_29 (ty := .boolean) rfl (sp_nz (by repeat (first | exact Or.inl rfl | exact Or.inr rfl | split))) (fun _ => hQ)
def fX6_burnOf (F : Nat) (M : sp_Mem) (o1 : Nat) (a2 : Int32) : Option (Int32 × sp_Mem) :=
  (sp_ix 6 a2).bind fun j1 => sp_do ((sp_I M (o1 + 2) j1)) fun u2 => (fX6_toldBy F M o1 1 a2 u2 (-1)).bind fun x3 => if x3.1 = (-2000000000) then (if (fX10_isCell u2) = 0 then (some (0, x3.2)) else ((sp_ix 25 u2).bind fun j6 => if (sp_I x3.2 (o1 + 1) j6) = 2 then (some (1, x3.2)) else ((sp_ix 25 u2).bind fun j8 => some ((if (sp_I x3.2 (o1 + 1) j8) = 1 then (-3) else 0), x3.2)))) else (some ((fX10_nearest x3.1 (-3) 3), x3.2))
set_option maxRecDepth 100000 in
set_option maxHeartbeats 4000000 in
theorem tX6_burnOf {g : sp_G} {Ω : sp_Mem → Prop} {Q : sp_Qt} {F : Nat} {p : (Int32 × sp_Mem)} (hG : sp_Ok Ω) {o1 : Nat} (ho1 : sp_room o1) {M : sp_Mem} {a2 : Int32} (h : fX6_burnOf F M o1 a2 = some p) (hQ : Q (some (.int p.1)) p.2) : sp_Mt g Ω mX6_burnOf 0 0 [.ref 1, .ref o1, .int a2] M Q := by
  unfold fX6_burnOf at h
  refine sp_Mt.of [some (.ref 1), some (.ref o1), some (.int a2), none, none] (by decide) (by simp [sp_ent, Value.category]) rfl ?_
  refine sp_aload_n dX6_burnOf_0 rfl rfl ?_
  refine sp_use (fun ho => ?_)
  have hs := hG.1 _ ho
  refine sp_getR (RX5, TX5, 16) dX6_burnOf_1 clX5 (j := 1) (by decide) tw_170 (rmI hs ho1) (Or.inr ⟨_, rfl⟩) (rmP_1 hs ho1) ?_
  refine sp_iload_n dX6_burnOf_4 rfl rfl ?_
  obtain ⟨j1, hj1, h⟩ := Option.bind_eq_some_iff.mp h
  refine sp_iald2 (j := j1) dX6_burnOf_5 (rmA_2 hs ho1) (rmN_2 hs ho1) hj1 ?_
  obtain ⟨u2, hu2, h⟩ := sp_do_e h
  refine sp_topi hu2 ?_
  refine sp_istore_n [some (.ref 1), some (.ref o1), some (.int a2), some (.int u2), none] dX6_burnOf_6 rfl (by decide) rfl ?_
  refine sp_aload_n dX6_burnOf_7 rfl rfl ?_
  refine sp_aload_n dX6_burnOf_8 rfl rfl ?_
  refine sp_iconst (v := 1) dX6_burnOf_9 (by decide) ?_
  refine sp_iload_n dX6_burnOf_10 rfl rfl ?_
  refine sp_iload_n dX6_burnOf_11 rfl rfl ?_
  refine sp_iconst (v := (-1)) dX6_burnOf_12 (by decide) ?_
  obtain ⟨x3, hx3, h⟩ := Option.bind_eq_some_iff.mp h
  refine sp_cV (M1 := x3.2) (r := some (.int x3.1)) (o := 1) (st := []) (c := 5) (RX6, TX6, 2) [.ref o1, .int 1, .int a2, .int u2, .int (-1)] [.int (-1), .int u2, .int a2, .int 1, .ref o1, .ref 1] [.int x3.1] dX6_burnOf_13 okX6_toldBy tw_502 tw_504 tw_2 (by decide) (by decide) rfl (Nat.le_of_ble_eq_true rfl) rfl rfl rfl rfl (wsI_1 hs) (fun Q hQ => tX6_toldBy hG ho1 hx3 hQ) ?_
  refine sp_istore [some (.ref 1), some (.ref o1), some (.int a2), some (.int u2), some (.int x3.1)] dX6_burnOf_16 (by decide) rfl ?_
  refine sp_iload dX6_burnOf_18 rfl ?_
  refine sp_ldc (v := (-2000000000)) dX6_burnOf_20 tw_515 ?_
  refine sp_icmp_eq (tgt := 34) dX6_burnOf_22 (by decide) (fun hc4 => ?_) (fun hc4 => ?_)
  · have h := (if_pos hc4).symm.trans h
    refine sp_iload_n dX6_burnOf_34 rfl rfl ?_
    refine sp_use (fun ho => ?_)
    have hs := hG.1 _ ho
    refine sp_cSN (M1 := x3.2) (r := some (.int (fX10_isCell u2))) (st := []) [.int u2] [.int u2] [.int (fX10_isCell u2)] dX6_burnOf_35 okX10_isCell (by decide +kernel) tw_469 (by decide) (by decide) rfl (Nat.le_of_ble_eq_true rfl) rfl rfl (fun Q hQ => tX10_isCell hG rfl hQ) ?_
    refine sp_if_ne (tgt := 43) dX6_burnOf_38 (by decide) (fun hc5 => ?_) (fun hc5 => ?_)
    · have h := (if_neg hc5).symm.trans h
      refine sp_aload_n dX6_burnOf_43 rfl rfl ?_
      refine sp_getR (RX5, TX5, 16) dX6_burnOf_44 clX5 (j := 0) (by decide) tw_167 (rmI hs ho1) (Or.inr ⟨_, rfl⟩) (rmP_0 hs ho1) ?_
      refine sp_iload_n dX6_burnOf_47 rfl rfl ?_
      obtain ⟨j6, hj6, h⟩ := Option.bind_eq_some_iff.mp h
      refine sp_iald2 (j := j6) dX6_burnOf_48 (rmA_1 hs ho1) (rmN_1 hs ho1) hj6 ?_
      refine sp_iconst (v := 2) dX6_burnOf_49 (by decide) ?_
      refine sp_icmp_ne (tgt := 57) dX6_burnOf_50 (by decide) (fun hc7 => ?_) (fun hc7 => ?_)
      · have h := (if_neg hc7).symm.trans h
        refine sp_aload_n dX6_burnOf_57 rfl rfl ?_
        refine sp_getR (RX5, TX5, 16) dX6_burnOf_58 clX5 (j := 0) (by decide) tw_167 (rmI hs ho1) (Or.inr ⟨_, rfl⟩) (rmP_0 hs ho1) ?_
        refine sp_iload_n dX6_burnOf_61 rfl rfl ?_
        obtain ⟨j8, hj8, h⟩ := Option.bind_eq_some_iff.mp h
        refine sp_iald2 (j := j8) dX6_burnOf_62 (rmA_1 hs ho1) (rmN_1 hs ho1) hj8 ?_
        refine sp_iconst (v := 1) dX6_burnOf_63 (by decide) ?_
        suffices hj : sp_Wp g Ω mX6_burnOf 0 0 73 [none, none, none, none, none] [.int (if (sp_I x3.2 (o1 + 1) j8) = 1 then (-3) else 0)] x3.2 Q by
          refine sp_icmp_ne (tgt := 72) dX6_burnOf_64 (by decide) (fun hc9 => ?_) (fun hc9 => ?_)
          · refine sp_iconst (v := 0) dX6_burnOf_72 (by decide) ?_
            refine sp_weak [false, false, false, false, false] [none, none, none, none, none] rfl ?_
            simp only [if_neg hc9] at hj
            exact hj
          · refine sp_bipush (v := (-3)) dX6_burnOf_67 (by decide) ?_
            refine sp_goto (tgt := 73) dX6_burnOf_69 (by decide) ?_
            refine sp_weak [false, false, false, false, false] [none, none, none, none, none] rfl ?_
            simp only [if_pos hc9] at hj
            exact hj
        cases h
        exact sp_iret dX6_burnOf_73 (ty := .int) rfl rfl (fun _ => hQ)
      · have h := (if_pos hc7).symm.trans h
        refine sp_iconst (v := 1) dX6_burnOf_53 (by decide) ?_
        refine sp_goto (tgt := 73) dX6_burnOf_54 (by decide) ?_
        cases h
        exact sp_iret dX6_burnOf_73 (ty := .int) rfl rfl (fun _ => hQ)
    · have h := (if_pos hc5).symm.trans h
      refine sp_iconst (v := 0) dX6_burnOf_41 (by decide) ?_
      cases h
      exact sp_iret dX6_burnOf_42 (ty := .int) rfl rfl (fun _ => hQ)
  · have h := (if_neg hc4).symm.trans h
    refine sp_iload dX6_burnOf_25 rfl ?_
    refine sp_bipush (v := (-3)) dX6_burnOf_27 (by decide) ?_
    refine sp_iconst (v := 3) dX6_burnOf_29 (by decide) ?_
    refine sp_use (fun ho => ?_)
    have hs := hG.1 _ ho
    refine sp_cSN (M1 := x3.2) (r := some (.int (fX10_nearest x3.1 (-3) 3))) (st := []) [.int x3.1, .int (-3), .int 3] [.int 3, .int (-3), .int x3.1] [.int (fX10_nearest x3.1 (-3) 3)] dX6_burnOf_30 okX10_nearest (by decide +kernel) tw_546 (by decide) (by decide) rfl (Nat.le_of_ble_eq_true rfl) rfl rfl (fun Q hQ => tX10_nearest hG rfl hQ) ?_
    cases h
    exact sp_iret dX6_burnOf_33 (ty := .int) rfl rfl (fun _ => hQ)
def fX6_passMinute_j66 (F : Nat) (o1 : Nat) (kb : Int32 → Int32 → sp_Mem → Option sp_Mem) (kx : sp_Mem → Option sp_Mem) (a3 : Int32) (a4 : Int32) (M : sp_Mem) : Option sp_Mem :=
  (sp_ix 6 a4).bind fun j8 => (fX6_burnOf F M o1 a4).bind fun x9 => (sp_ix 6 a4).bind fun j10 => sp_do (sp_setI x9.2 (o1 + 3) j10 (fX10_nearest ((sp_I M (o1 + 3) j8) + x9.1) 0 9)) fun M11 => (sp_ix 6 a4).bind fun j12 => if (sp_I M11 (o1 + 3) j12) = 0 then ((sp_ix 6 a4).bind fun j17 => sp_do (sp_setI M11 (o1 + 2) j17 (-1)) fun M18 => kb a3 (a4 + 1) M18) else ((sp_ix 6 a4).bind fun j14 => (sp_ix 6 a4).bind fun j15 => sp_do (sp_setI M11 (o1 + 2) j15 (sp_I M11 (o1 + 2) j14)) fun M16 => kb a3 (a4 + 1) M16)
def fX6_passMinute_l3 (F : Nat) (o1 : Nat) (kx : sp_Mem → Option sp_Mem) : Nat → Int32 → Int32 → sp_Mem → Option sp_Mem
  | 0, _, _, _ => none
  | n + 1, a3, a4, M =>
  if a3 < a4 then (kx M) else ((fX5_hasLoose M o1 a4).bind fun v2 => if v2 = 0 then ((fX6_passMinute_l3 F o1 kx n) a3 (a4 + 1) M) else ((sp_ix 6 a4).bind fun j4 => (fX6_wayOf F M o1 a4).bind fun x5 => (fX10_stepFrom (sp_I M (o1 + 2) j4) x5.1).bind fun v6 => if (fX10_isCell v6) = 0 then (fX6_passMinute_j66 F o1 (fX6_passMinute_l3 F o1 kx n) kx a3 a4 x5.2) else ((fX6_isBarred F x5.2 o1 a4 v6).bind fun x19 => if x19.1 = 0 then ((sp_ix 6 a4).bind fun j21 => sp_do (sp_setI x19.2 (o1 + 2) j21 v6) fun M22 => fX6_passMinute_j66 F o1 (fX6_passMinute_l3 F o1 kx n) kx a3 a4 M22) else (fX6_passMinute_j66 F o1 (fX6_passMinute_l3 F o1 kx n) kx a3 a4 x19.2))))
def fX6_passMinute (F : Nat) (M : sp_Mem) (o1 : Nat) (a2 : Int32) (a3 : Int32) : Option sp_Mem :=
  fX6_passMinute_l3 F o1 (fun M23 => sp_do (sp_setI M23 (o1 + 10) 0 ((sp_I M23 (o1 + 10) 0) + 1)) fun M24 => some M24) F a3 a2 M
set_option maxRecDepth 100000 in
set_option maxHeartbeats 4000000 in
theorem tX6_passMinute_j66 {g : sp_G} {Ω : sp_Mem → Prop} {Q : sp_Qt} {F : Nat} {p : sp_Mem} (hG : sp_Ok Ω) {o1 : Nat} (ho1 : sp_room o1)  {kb : Int32 → Int32 → sp_Mem → Option sp_Mem} {kx : sp_Mem → Option sp_Mem} (hQ : Q none p) (hb : ∀ (a3 : Int32) (a4 : Int32) (M : sp_Mem), kb a3 a4 M = some p → sp_Wp g Ω mX6_passMinute 0 0 3 [some (.ref 1), some (.ref o1), none, some (.int a3), some (.int a4), none] [] M Q) (hx : ∀  (M : sp_Mem), kx M = some p → sp_Wp g Ω mX6_passMinute 0 0 128 [none, some (.ref o1), none, none, none, none] [] M Q) (a3 : Int32) (a4 : Int32) (M : sp_Mem) (h : fX6_passMinute_j66 F o1 kb kx a3 a4 M = some p) : sp_Wp g Ω mX6_passMinute 0 0 66 [some (.ref 1), some (.ref o1), none, some (.int a3), some (.int a4), none] [] M Q := by
  unfold fX6_passMinute_j66 at h
  refine sp_aload_n dX6_passMinute_66 rfl rfl ?_
  refine sp_use (fun ho => ?_)
  have hs := hG.1 _ ho
  refine sp_getR (RX5, TX5, 16) dX6_passMinute_67 clX5 (j := 2) (by decide) tw_178 (rmI hs ho1) (Or.inr ⟨_, rfl⟩) (rmP_2 hs ho1) ?_
  refine sp_iload dX6_passMinute_70 rfl ?_
  refine sp_aload_n dX6_passMinute_72 rfl rfl ?_
  refine sp_getR (RX5, TX5, 16) dX6_passMinute_73 clX5 (j := 2) (by decide) tw_178 (rmI hs ho1) (Or.inr ⟨_, rfl⟩) (rmP_2 hs ho1) ?_
  refine sp_iload dX6_passMinute_76 rfl ?_
  obtain ⟨j8, hj8, h⟩ := Option.bind_eq_some_iff.mp h
  refine sp_iald2 (j := j8) dX6_passMinute_78 (rmA_3 hs ho1) (rmN_3 hs ho1) hj8 ?_
  refine sp_aload_n dX6_passMinute_79 rfl rfl ?_
  refine sp_aload_n dX6_passMinute_80 rfl rfl ?_
  refine sp_iload dX6_passMinute_81 rfl ?_
  obtain ⟨x9, hx9, h⟩ := Option.bind_eq_some_iff.mp h
  refine sp_cV (M1 := x9.2) (r := some (.int x9.1)) (o := 1) (st := [.int (sp_I M (o1 + 3) j8), .int a4, .ref (o1 + 3)]) (c := 5) (RX6, TX6, 2) [.ref o1, .int a4] [.int a4, .ref o1, .ref 1, .int (sp_I M (o1 + 3) j8), .int a4, .ref (o1 + 3)] [.int x9.1, .int (sp_I M (o1 + 3) j8), .int a4, .ref (o1 + 3)] dX6_passMinute_83 okX6_burnOf tw_935 tw_551 tw_552 (by decide) (by decide) rfl (Nat.le_of_ble_eq_true rfl) rfl rfl rfl rfl (wsI_1 hs) (fun Q hQ => tX6_burnOf hG ho1 hx9 hQ) ?_
  refine sp_iadd dX6_passMinute_86 ?_
  refine sp_iconst (v := 0) dX6_passMinute_87 (by decide) ?_
  refine sp_bipush (v := 9) dX6_passMinute_88 (by decide) ?_
  refine sp_use (fun ho => ?_)
  have hs := hG.1 _ ho
  refine sp_cSN (M1 := x9.2) (r := some (.int (fX10_nearest ((sp_I M (o1 + 3) j8) + x9.1) 0 9))) (st := [.int a4, .ref (o1 + 3)]) [.int ((sp_I M (o1 + 3) j8) + x9.1), .int 0, .int 9] [.int 9, .int 0, .int ((sp_I M (o1 + 3) j8) + x9.1), .int a4, .ref (o1 + 3)] [.int (fX10_nearest ((sp_I M (o1 + 3) j8) + x9.1) 0 9), .int a4, .ref (o1 + 3)] dX6_passMinute_90 okX10_nearest (by decide +kernel) tw_546 (by decide) (by decide) rfl (Nat.le_of_ble_eq_true rfl) rfl rfl (fun Q hQ => tX10_nearest hG rfl hQ) ?_
  obtain ⟨j10, hj10, h⟩ := Option.bind_eq_some_iff.mp h
  obtain ⟨M11, hM11, h⟩ := sp_do_e h
  refine sp_iast2 (j := j10) hG dX6_passMinute_93 (rmA_3 hs ho1) (rmN_3 hs ho1) hj10 hM11 ?_
  refine sp_aload_n dX6_passMinute_94 rfl rfl ?_
  refine sp_use (fun ho => ?_)
  have hs := hG.1 _ ho
  refine sp_getR (RX5, TX5, 16) dX6_passMinute_95 clX5 (j := 1) (by decide) tw_170 (rmI hs ho1) (Or.inr ⟨_, rfl⟩) (rmP_1 hs ho1) ?_
  refine sp_iload dX6_passMinute_98 rfl ?_
  refine sp_aload_n dX6_passMinute_100 rfl rfl ?_
  refine sp_getR (RX5, TX5, 16) dX6_passMinute_101 clX5 (j := 2) (by decide) tw_178 (rmI hs ho1) (Or.inr ⟨_, rfl⟩) (rmP_2 hs ho1) ?_
  refine sp_iload dX6_passMinute_104 rfl ?_
  obtain ⟨j12, hj12, h⟩ := Option.bind_eq_some_iff.mp h
  refine sp_iald2 (j := j12) dX6_passMinute_106 (rmA_3 hs ho1) (rmN_3 hs ho1) hj12 ?_
  refine sp_if_ne (tgt := 114) dX6_passMinute_107 (by decide) (fun hc13 => ?_) (fun hc13 => ?_)
  · have h := (if_neg hc13).symm.trans h
    refine sp_aload_n dX6_passMinute_114 rfl rfl ?_
    refine sp_getR (RX5, TX5, 16) dX6_passMinute_115 clX5 (j := 1) (by decide) tw_170 (rmI hs ho1) (Or.inr ⟨_, rfl⟩) (rmP_1 hs ho1) ?_
    refine sp_iload dX6_passMinute_118 rfl ?_
    obtain ⟨j14, hj14, h⟩ := Option.bind_eq_some_iff.mp h
    refine sp_iald2 (j := j14) dX6_passMinute_120 (rmA_2 hs ho1) (rmN_2 hs ho1) hj14 ?_
    obtain ⟨j15, hj15, h⟩ := Option.bind_eq_some_iff.mp h
    obtain ⟨M16, hM16, h⟩ := sp_do_e h
    refine sp_iast2 (j := j15) hG dX6_passMinute_121 (rmA_2 hs ho1) (rmN_2 hs ho1) hj15 hM16 ?_
    refine sp_iinc (v := (a4 + 1)) [some (.ref 1), some (.ref o1), none, some (.int a3), some (.int (a4 + 1)), none] dX6_passMinute_122 rfl rfl (by decide) rfl ?_
    refine sp_goto (tgt := 3) dX6_passMinute_125 (by decide) ?_
    refine sp_weak [true, true, false, true, true, false] [some (.ref 1), some (.ref o1), none, some (.int a3), some (.int (a4 + 1)), none] rfl ?_
    exact hb _ _ _ h
  · have h := (if_pos hc13).symm.trans h
    refine sp_iconst (v := (-1)) dX6_passMinute_110 (by decide) ?_
    refine sp_goto (tgt := 121) dX6_passMinute_111 (by decide) ?_
    obtain ⟨j17, hj17, h⟩ := Option.bind_eq_some_iff.mp h
    obtain ⟨M18, hM18, h⟩ := sp_do_e h
    refine sp_iast2 (j := j17) hG dX6_passMinute_121 (rmA_2 hs ho1) (rmN_2 hs ho1) hj17 hM18 ?_
    refine sp_iinc (v := (a4 + 1)) [some (.ref 1), some (.ref o1), none, some (.int a3), some (.int (a4 + 1)), none] dX6_passMinute_122 rfl rfl (by decide) rfl ?_
    refine sp_goto (tgt := 3) dX6_passMinute_125 (by decide) ?_
    refine sp_weak [true, true, false, true, true, false] [some (.ref 1), some (.ref o1), none, some (.int a3), some (.int (a4 + 1)), none] rfl ?_
    exact hb _ _ _ h
set_option maxRecDepth 100000 in
set_option maxHeartbeats 4000000 in
theorem tX6_passMinute_l3 {g : sp_G} {Ω : sp_Mem → Prop} {Q : sp_Qt} {F : Nat} {p : sp_Mem} (hG : sp_Ok Ω) {o1 : Nat} (ho1 : sp_room o1)  {kx : sp_Mem → Option sp_Mem} (hQ : Q none p) (hx : ∀  (M : sp_Mem), kx M = some p → sp_Wp g Ω mX6_passMinute 0 0 128 [none, some (.ref o1), none, none, none, none] [] M Q) : ∀ (n : Nat) (a3 : Int32) (a4 : Int32) (M : sp_Mem), fX6_passMinute_l3 F o1 kx n a3 a4 M = some p → sp_Wp g Ω mX6_passMinute 0 0 3 [some (.ref 1), some (.ref o1), none, some (.int a3), some (.int a4), none] [] M Q := by
  intro n
  induction n with
  | zero =>
    intro a3 a4 M h
    rw [fX6_passMinute_l3] at h
    cases h
  | succ n ih =>
    intro a3 a4 M h
    rw [fX6_passMinute_l3] at h
    refine sp_iload dX6_passMinute_3 rfl ?_
    refine sp_iload_n dX6_passMinute_5 rfl rfl ?_
    refine sp_icmp_gt (tgt := 128) dX6_passMinute_6 (by decide) (fun hc1 => ?_) (fun hc1 => ?_)
    · have h := (if_pos hc1).symm.trans h
      refine sp_weak [false, true, false, false, false, false] [none, some (.ref o1), none, none, none, none] rfl ?_
      exact hx _ h
    · have h := (if_neg hc1).symm.trans h
      refine sp_aload_n dX6_passMinute_9 rfl rfl ?_
      refine sp_iload dX6_passMinute_10 rfl ?_
      refine sp_use (fun ho => ?_)
      have hs := hG.1 _ ho
      obtain ⟨v2, hv2, h⟩ := Option.bind_eq_some_iff.mp h
      refine sp_cV (M1 := M) (r := some (.int v2)) (o := o1) (st := []) (c := 4) (RX5, TX5, 16) [.int a4] [.int a4, .ref o1] [.int v2] dX6_passMinute_12 okX5_hasLoose tw_928 tw_583 tw_584 (by decide) (by decide) rfl (Nat.le_of_ble_eq_true rfl) rfl rfl rfl rfl (rmI hs ho1) (fun Q hQ => tX5_hasLoose hG ho1 hv2 hQ) ?_
      refine sp_if_eq (tgt := 122) dX6_passMinute_15 (by decide) (fun hc3 => ?_) (fun hc3 => ?_)
      · have h := (if_pos hc3).symm.trans h
        refine sp_iinc (v := (a4 + 1)) [some (.ref 1), some (.ref o1), none, some (.int a3), some (.int (a4 + 1)), none] dX6_passMinute_122 rfl rfl (by decide) rfl ?_
        refine sp_goto (tgt := 3) dX6_passMinute_125 (by decide) ?_
        refine sp_weak [true, true, false, true, true, false] [some (.ref 1), some (.ref o1), none, some (.int a3), some (.int (a4 + 1)), none] rfl ?_
        exact ih _ _ _ h
      · have h := (if_neg hc3).symm.trans h
        refine sp_aload_n dX6_passMinute_18 rfl rfl ?_
        refine sp_getR (RX5, TX5, 16) dX6_passMinute_19 clX5 (j := 1) (by decide) tw_170 (rmI hs ho1) (Or.inr ⟨_, rfl⟩) (rmP_1 hs ho1) ?_
        refine sp_iload dX6_passMinute_22 rfl ?_
        obtain ⟨j4, hj4, h⟩ := Option.bind_eq_some_iff.mp h
        refine sp_iald2 (j := j4) dX6_passMinute_24 (rmA_2 hs ho1) (rmN_2 hs ho1) hj4 ?_
        refine sp_aload_n dX6_passMinute_25 rfl rfl ?_
        refine sp_aload_n dX6_passMinute_26 rfl rfl ?_
        refine sp_iload dX6_passMinute_27 rfl ?_
        obtain ⟨x5, hx5, h⟩ := Option.bind_eq_some_iff.mp h
        refine sp_cV (M1 := x5.2) (r := some (.int x5.1)) (o := 1) (st := [.int (sp_I M (o1 + 2) j4)]) (c := 5) (RX6, TX6, 2) [.ref o1, .int a4] [.int a4, .ref o1, .ref 1, .int (sp_I M (o1 + 2) j4)] [.int x5.1, .int (sp_I M (o1 + 2) j4)] dX6_passMinute_29 okX6_wayOf tw_929 tw_499 tw_500 (by decide) (by decide) rfl (Nat.le_of_ble_eq_true rfl) rfl rfl rfl rfl (wsI_1 hs) (fun Q hQ => tX6_wayOf hG ho1 hx5 hQ) ?_
        refine sp_use (fun ho => ?_)
        have hs := hG.1 _ ho
        obtain ⟨v6, hv6, h⟩ := Option.bind_eq_some_iff.mp h
        refine sp_cSN (M1 := x5.2) (r := some (.int v6)) (st := []) [.int (sp_I M (o1 + 2) j4), .int x5.1] [.int x5.1, .int (sp_I M (o1 + 2) j4)] [.int v6] dX6_passMinute_32 okX10_stepFrom (by decide +kernel) tw_922 (by decide) (by decide) rfl (Nat.le_of_ble_eq_true rfl) rfl rfl (fun Q hQ => tX10_stepFrom hG hv6 hQ) ?_
        refine sp_istore [some (.ref 1), some (.ref o1), none, some (.int a3), some (.int a4), some (.int v6)] dX6_passMinute_35 (by decide) rfl ?_
        refine sp_iload dX6_passMinute_37 rfl ?_
        refine sp_cSN (M1 := x5.2) (r := some (.int (fX10_isCell v6))) (st := []) [.int v6] [.int v6] [.int (fX10_isCell v6)] dX6_passMinute_39 okX10_isCell (by decide +kernel) tw_469 (by decide) (by decide) rfl (Nat.le_of_ble_eq_true rfl) rfl rfl (fun Q hQ => tX10_isCell hG rfl hQ) ?_
        refine sp_if_eq (tgt := 66) dX6_passMinute_42 (by decide) (fun hc7 => ?_) (fun hc7 => ?_)
        · have h := (if_pos hc7).symm.trans h
          refine sp_weak [true, true, false, true, true, false] [some (.ref 1), some (.ref o1), none, some (.int a3), some (.int a4), none] rfl ?_
          exact tX6_passMinute_j66 hG ho1 hQ ih hx _ _ _ h
        · have h := (if_neg hc7).symm.trans h
          refine sp_aload_n dX6_passMinute_45 rfl rfl ?_
          refine sp_aload_n dX6_passMinute_46 rfl rfl ?_
          refine sp_iload dX6_passMinute_47 rfl ?_
          refine sp_iload dX6_passMinute_49 rfl ?_
          obtain ⟨x19, hx19, h⟩ := Option.bind_eq_some_iff.mp h
          refine sp_cV (M1 := x19.2) (r := some (.int x19.1)) (o := 1) (st := []) (c := 5) (RX6, TX6, 2) [.ref o1, .int a4, .int v6] [.int v6, .int a4, .ref o1, .ref 1] [.int x19.1] dX6_passMinute_51 okX6_isBarred tw_931 tw_933 tw_22 (by decide) (by decide) rfl (Nat.le_of_ble_eq_true rfl) rfl rfl rfl rfl (wsI_1 hs) (fun Q hQ => tX6_isBarred hG ho1 hx19 hQ) ?_
          refine sp_if_ne (tgt := 66) dX6_passMinute_54 (by decide) (fun hc20 => ?_) (fun hc20 => ?_)
          · have h := (if_neg hc20).symm.trans h
            refine sp_weak [true, true, false, true, true, false] [some (.ref 1), some (.ref o1), none, some (.int a3), some (.int a4), none] rfl ?_
            exact tX6_passMinute_j66 hG ho1 hQ ih hx _ _ _ h
          · have h := (if_pos hc20).symm.trans h
            refine sp_aload_n dX6_passMinute_57 rfl rfl ?_
            refine sp_use (fun ho => ?_)
            have hs := hG.1 _ ho
            refine sp_getR (RX5, TX5, 16) dX6_passMinute_58 clX5 (j := 1) (by decide) tw_170 (rmI hs ho1) (Or.inr ⟨_, rfl⟩) (rmP_1 hs ho1) ?_
            refine sp_iload dX6_passMinute_61 rfl ?_
            refine sp_iload dX6_passMinute_63 rfl ?_
            obtain ⟨j21, hj21, h⟩ := Option.bind_eq_some_iff.mp h
            obtain ⟨M22, hM22, h⟩ := sp_do_e h
            refine sp_iast2 (j := j21) hG dX6_passMinute_65 (rmA_2 hs ho1) (rmN_2 hs ho1) hj21 hM22 ?_
            refine sp_weak [true, true, false, true, true, false] [some (.ref 1), some (.ref o1), none, some (.int a3), some (.int a4), none] rfl ?_
            exact tX6_passMinute_j66 hG ho1 hQ ih hx _ _ _ h
set_option maxRecDepth 100000 in
set_option maxHeartbeats 4000000 in
theorem tX6_passMinute {g : sp_G} {Ω : sp_Mem → Prop} {Q : sp_Qt} {F : Nat} {p : sp_Mem} (hG : sp_Ok Ω) {o1 : Nat} (ho1 : sp_room o1) {M : sp_Mem} {a2 : Int32} {a3 : Int32} (h : fX6_passMinute F M o1 a2 a3 = some p) (hQ : Q none p) : sp_Mt g Ω mX6_passMinute 0 0 [.ref 1, .ref o1, .int a2, .int a3] M Q := by
  unfold fX6_passMinute at h
  refine sp_Mt.of [some (.ref 1), some (.ref o1), some (.int a2), some (.int a3), none, none] (by decide) (by simp [sp_ent, Value.category]) rfl ?_
  refine sp_iload_n dX6_passMinute_0 rfl rfl ?_
  refine sp_istore [some (.ref 1), some (.ref o1), some (.int a2), some (.int a3), some (.int a2), none] dX6_passMinute_1 (by decide) rfl ?_
  refine sp_weak [true, true, false, true, true, false] [some (.ref 1), some (.ref o1), none, some (.int a3), some (.int a2), none] rfl ?_
  refine tX6_passMinute_l3 hG ho1 hQ (fun M23 h => ?_) F _ _ _ h
  refine sp_aload_n dX6_passMinute_128 rfl rfl ?_
  refine sp_use (fun ho => ?_)
  have hs := hG.1 _ ho
  refine sp_getR (RX5, TX5, 16) dX6_passMinute_129 clX5 (j := 12) (by decide) tw_211 (rmI hs ho1) (Or.inr ⟨_, rfl⟩) (rmP_12 hs ho1) ?_
  refine sp_iconst (v := 0) dX6_passMinute_132 (by decide) ?_
  refine sp_dup2 dX6_passMinute_133 rfl rfl ?_
  refine sp_iald2 (j := 0) dX6_passMinute_134 (rmA_10 hs ho1) (rmN_10 hs ho1) rfl ?_
  refine sp_iconst (v := 1) dX6_passMinute_135 (by decide) ?_
  refine sp_iadd dX6_passMinute_136 ?_
  obtain ⟨M24, hM24, h⟩ := sp_do_e h
  refine sp_iast2 (j := 0) hG dX6_passMinute_137 (rmA_10 hs ho1) (rmN_10 hs ho1) rfl hM24 ?_
  cases h
  exact sp_vret dX6_passMinute_138 rfl (fun _ => hQ)
def fX1_cellLater_l11 (F : Nat) (o1 : Nat) (kx : Int32 → sp_Mem → Option (Int32 × sp_Mem)) : Nat → Int32 → Int32 → Int32 → sp_Mem → Option (Int32 × sp_Mem)
  | 0, _, _, _, _ => none
  | n + 1, a2, a3, a4, M =>
  if a3 ≤ a4 then (kx a2 M) else ((fX6_passMinute F M 78 a2 a2).bind fun M3 => (fX1_cellLater_l11 F o1 kx n) a2 a3 (a4 + 1) M3)
def fX1_cellLater (F : Nat) (M : sp_Mem) (o1 : Nat) (a2 : Int32) (a3 : Int32) : Option (Int32 × sp_Mem) :=
  (fX5_copyFrom F M 78 o1).bind fun M1 => fX1_cellLater_l11 F o1 (fun b5 M4 => (sp_ix 6 b5).bind fun j6 => some ((sp_I M4 80 j6), M4)) F a2 a3 0 M1
set_option maxRecDepth 100000 in
set_option maxHeartbeats 4000000 in
theorem tX1_cellLater_l11 {g : sp_G} {Ω : sp_Mem → Prop} {Q : sp_Qt} {F : Nat} {p : (Int32 × sp_Mem)} (hG : sp_Ok Ω) {o1 : Nat} (ho1 : sp_room o1)  {kx : Int32 → sp_Mem → Option (Int32 × sp_Mem)} (hQ : Q (some (.int p.1)) p.2) (hx : ∀ (a2 : Int32) (M : sp_Mem), kx a2 M = some p → sp_Wp g Ω mX1_cellLater 0 0 36 [some (.ref 77), none, some (.int a2), none, none] [] M Q) : ∀ (n : Nat) (a2 : Int32) (a3 : Int32) (a4 : Int32) (M : sp_Mem), fX1_cellLater_l11 F o1 kx n a2 a3 a4 M = some p → sp_Wp g Ω mX1_cellLater 0 0 11 [some (.ref 77), none, some (.int a2), some (.int a3), some (.int a4)] [] M Q := by
  intro n
  induction n with
  | zero =>
    intro a2 a3 a4 M h
    rw [fX1_cellLater_l11] at h
    cases h
  | succ n ih =>
    intro a2 a3 a4 M h
    rw [fX1_cellLater_l11] at h
    refine sp_iload dX1_cellLater_11 rfl ?_
    refine sp_iload_n dX1_cellLater_13 rfl rfl ?_
    refine sp_icmp_ge (tgt := 36) dX1_cellLater_14 (by decide) (fun hc2 => ?_) (fun hc2 => ?_)
    · have h := (if_pos hc2).symm.trans h
      refine sp_weak [true, false, true, false, false] [some (.ref 77), none, some (.int a2), none, none] rfl ?_
      exact hx _ _ h
    · have h := (if_neg hc2).symm.trans h
      refine sp_aload_n dX1_cellLater_17 rfl rfl ?_
      refine sp_use (fun ho => ?_)
      have hs := hG.1 _ ho
      refine sp_getR (RX1, TX1, 7) dX1_cellLater_18 clX1 (j := 0) (by decide) tw_307 (wsI_77 hs) (Or.inl ⟨_, rfl⟩) (wsP_77_0 hs) ?_
      refine sp_aload_n dX1_cellLater_21 rfl rfl ?_
      refine sp_getR (RX1, TX1, 7) dX1_cellLater_22 clX1 (j := 1) (by decide) tw_308 (wsI_77 hs) (Or.inl ⟨_, rfl⟩) (wsP_77_1 hs) ?_
      refine sp_iload_n dX1_cellLater_25 rfl rfl ?_
      refine sp_iload_n dX1_cellLater_26 rfl rfl ?_
      obtain ⟨M3, hM3, h⟩ := Option.bind_eq_some_iff.mp h
      refine sp_cV (M1 := M3) (r := none) (o := 1) (st := []) (c := 5) (RX6, TX6, 2) [.ref 78, .int a2, .int a2] [.int a2, .int a2, .ref 78, .ref 1] [] dX1_cellLater_27 okX6_passMinute tw_995 tw_925 tw_926 (by decide) (by decide) rfl (Nat.le_of_ble_eq_true rfl) rfl rfl rfl rfl (wsI_1 hs) (fun Q hQ => tX6_passMinute hG room_78 hM3 hQ) ?_
      refine sp_iinc (v := (a4 + 1)) [some (.ref 77), none, some (.int a2), some (.int a3), some (.int (a4 + 1))] dX1_cellLater_30 rfl rfl (by decide) rfl ?_
      refine sp_goto (tgt := 11) dX1_cellLater_33 (by decide) ?_
      refine sp_weak [true, false, true, true, true] [some (.ref 77), none, some (.int a2), some (.int a3), some (.int (a4 + 1))] rfl ?_
      exact ih _ _ _ _ h
set_option maxRecDepth 100000 in
set_option maxHeartbeats 4000000 in
theorem tX1_cellLater {g : sp_G} {Ω : sp_Mem → Prop} {Q : sp_Qt} {F : Nat} {p : (Int32 × sp_Mem)} (hG : sp_Ok Ω) {o1 : Nat} (ho1 : sp_room o1) {M : sp_Mem} {a2 : Int32} {a3 : Int32} (h : fX1_cellLater F M o1 a2 a3 = some p) (hQ : Q (some (.int p.1)) p.2) : sp_Mt g Ω mX1_cellLater 0 0 [.ref 77, .ref o1, .int a2, .int a3] M Q := by
  unfold fX1_cellLater at h
  refine sp_Mt.of [some (.ref 77), some (.ref o1), some (.int a2), some (.int a3), none] (by decide) (by simp [sp_ent, Value.category]) rfl ?_
  refine sp_aload_n dX1_cellLater_0 rfl rfl ?_
  refine sp_use (fun ho => ?_)
  have hs := hG.1 _ ho
  refine sp_getR (RX1, TX1, 7) dX1_cellLater_1 clX1 (j := 1) (by decide) tw_308 (wsI_77 hs) (Or.inl ⟨_, rfl⟩) (wsP_77_1 hs) ?_
  refine sp_aload_n dX1_cellLater_4 rfl rfl ?_
  obtain ⟨M1, hM1, h⟩ := Option.bind_eq_some_iff.mp h
  refine sp_cV (M1 := M1) (r := none) (o := 78) (st := []) (c := 4) (RX5, TX5, 16) [.ref o1] [.ref o1, .ref 78] [] dX1_cellLater_5 okX5_copyFrom tw_994 tw_852 tw_853 (by decide) (by decide) rfl (Nat.le_of_ble_eq_true rfl) rfl rfl rfl rfl (wsI_78 hs) (fun Q hQ => tX5_copyFrom hG room_78 ho1 hM1 hQ) ?_
  refine sp_iconst (v := 0) dX1_cellLater_8 (by decide) ?_
  refine sp_istore [some (.ref 77), some (.ref o1), some (.int a2), some (.int a3), some (.int 0)] dX1_cellLater_9 (by decide) rfl ?_
  refine sp_weak [true, false, true, true, true] [some (.ref 77), none, some (.int a2), some (.int a3), some (.int 0)] rfl ?_
  refine tX1_cellLater_l11 hG ho1 hQ (fun b5 M4 h => ?_) F _ _ _ _ h
  refine sp_aload_n dX1_cellLater_36 rfl rfl ?_
  refine sp_use (fun ho => ?_)
  have hs := hG.1 _ ho
  refine sp_getR (RX1, TX1, 7) dX1_cellLater_37 clX1 (j := 1) (by decide) tw_308 (wsI_77 hs) (Or.inl ⟨_, rfl⟩) (wsP_77_1 hs) ?_
  refine sp_getR (RX5, TX5, 16) dX1_cellLater_40 clX5 (j := 1) (by decide) tw_171 (wsI_78 hs) (Or.inr ⟨_, rfl⟩) (wsP_78_1 hs) ?_
  refine sp_iload_n dX1_cellLater_43 rfl rfl ?_
  obtain ⟨j6, hj6, h⟩ := Option.bind_eq_some_iff.mp h
  refine sp_iald2 (j := j6) dX1_cellLater_44 (wsA_80 hs) (wsN_80 hs) hj6 ?_
  cases h
  exact sp_iret dX1_cellLater_45 (ty := .int) rfl rfl (fun _ => hQ)
def fX5_sparkOn_l2 (F : Nat) (M0 : sp_Mem) (o0 : Nat) (kx : Option Int32) : Nat → Int32 → Int32 → Option Int32
  | 0, _, _ => none
  | n + 1, a1, a2 =>
  if (sp_I M0 o0 4) ≤ a2 then (kx) else ((sp_ix 6 a2).bind fun j2 => if (sp_I M0 (o0 + 2) j2) = a1 then (some a2) else ((fX5_sparkOn_l2 F M0 o0 kx n) a1 (a2 + 1)))
def fX5_sparkOn (F : Nat) (M0 : sp_Mem) (o0 : Nat) (a1 : Int32) : Option Int32 :=
  fX5_sparkOn_l2 F M0 o0 (some (-1)) F a1 0
set_option maxRecDepth 100000 in
set_option maxHeartbeats 4000000 in
theorem tX5_sparkOn_l2 {g : sp_G} {Ω : sp_Mem → Prop} {Q : sp_Qt} {F : Nat} {M0 : sp_Mem} {p : Int32} (hG : sp_Ok Ω) {o0 : Nat} (ho0 : sp_room o0)  {kx : Option Int32} (hQ : Q (some (.int p)) M0) (hx : kx = some p → sp_Wp g Ω mX5_sparkOn 0 0 28 [none, none, none] [] M0 Q) : ∀ (n : Nat) (a1 : Int32) (a2 : Int32), fX5_sparkOn_l2 F M0 o0 kx n a1 a2 = some p → sp_Wp g Ω mX5_sparkOn 0 0 2 [some (.ref o0), some (.int a1), some (.int a2)] [] M0 Q := by
  intro n
  induction n with
  | zero =>
    intro a1 a2 h
    rw [fX5_sparkOn_l2] at h
    cases h
  | succ n ih =>
    intro a1 a2 h
    rw [fX5_sparkOn_l2] at h
    refine sp_iload_n dX5_sparkOn_2 rfl rfl ?_
    refine sp_aload_n dX5_sparkOn_3 rfl rfl ?_
    refine sp_use (fun ho => ?_)
    have hs := hG.1 _ ho
    refine sp_getI (RX5, TX5, 16) dX5_sparkOn_4 clX5 (j := 4) (by decide) tw_184 (rmI hs ho0) (Or.inl rfl) ?_
    refine sp_icmp_ge (tgt := 28) dX5_sparkOn_7 (by decide) (fun hc1 => ?_) (fun hc1 => ?_)
    · have h := (if_pos hc1).symm.trans h
      refine sp_weak [false, false, false] [none, none, none] rfl ?_
      exact hx h
    · have h := (if_neg hc1).symm.trans h
      refine sp_aload_n dX5_sparkOn_10 rfl rfl ?_
      refine sp_getR (RX5, TX5, 16) dX5_sparkOn_11 clX5 (j := 1) (by decide) tw_169 (rmI hs ho0) (Or.inr ⟨_, rfl⟩) (rmP_1 hs ho0) ?_
      refine sp_iload_n dX5_sparkOn_14 rfl rfl ?_
      obtain ⟨j2, hj2, h⟩ := Option.bind_eq_some_iff.mp h
      refine sp_iald2 (j := j2) dX5_sparkOn_15 (rmA_2 hs ho0) (rmN_2 hs ho0) hj2 ?_
      refine sp_iload_n dX5_sparkOn_16 rfl rfl ?_
      refine sp_icmp_ne (tgt := 22) dX5_sparkOn_17 (by decide) (fun hc3 => ?_) (fun hc3 => ?_)
      · have h := (if_neg hc3).symm.trans h
        refine sp_iinc (v := (a2 + 1)) [some (.ref o0), some (.int a1), some (.int (a2 + 1))] dX5_sparkOn_22 rfl rfl (by decide) rfl ?_
        refine sp_goto (tgt := 2) dX5_sparkOn_25 (by decide) ?_
        refine sp_weak [true, true, true] [some (.ref o0), some (.int a1), some (.int (a2 + 1))] rfl ?_
        exact ih _ _ h
      · have h := (if_pos hc3).symm.trans h
        refine sp_iload_n dX5_sparkOn_20 rfl rfl ?_
        cases h
        exact sp_iret dX5_sparkOn_21 (ty := .int) rfl rfl (fun _ => hQ)
set_option maxRecDepth 100000 in
set_option maxHeartbeats 4000000 in
theorem tX5_sparkOn {g : sp_G} {Ω : sp_Mem → Prop} {Q : sp_Qt} {F : Nat} {M0 : sp_Mem} {p : Int32} (hG : sp_Ok Ω) {o0 : Nat} (ho0 : sp_room o0) {a1 : Int32} (h : fX5_sparkOn F M0 o0 a1 = some p) (hQ : Q (some (.int p)) M0) : sp_Mt g Ω mX5_sparkOn 0 0 [.ref o0, .int a1] M0 Q := by
  unfold fX5_sparkOn at h
  refine sp_Mt.of [some (.ref o0), some (.int a1), none] (by decide) (by simp [sp_ent, Value.category]) rfl ?_
  refine sp_iconst (v := 0) dX5_sparkOn_0 (by decide) ?_
  refine sp_istore_n [some (.ref o0), some (.int a1), some (.int 0)] dX5_sparkOn_1 rfl (by decide) rfl ?_
  refine sp_weak [true, true, true] [some (.ref o0), some (.int a1), some (.int 0)] rfl ?_
  refine tX5_sparkOn_l2 hG ho0 hQ (fun h => ?_) F _ _ h
  refine sp_iconst (v := (-1)) dX5_sparkOn_28 (by decide) ?_
  cases h
  exact sp_iret dX5_sparkOn_29 (ty := .int) rfl rfl (fun _ => hQ)
def fX1_firstOn_l11 (F : Nat) (o1 : Nat) (kx : sp_Mem → Option (Int32 × sp_Mem)) : Nat → Int32 → Int32 → Int32 → sp_Mem → Option (Int32 × sp_Mem)
  | 0, _, _, _, _ => none
  | n + 1, a2, a3, a4, M =>
  if 60 < a4 then (kx M) else ((fX5_sparkOn F M 78 a2).bind fun v3 => if v3 = (-1) then ((fX6_passMinute F M 78 0 ((sp_I M 78 4) - 1)).bind fun M5 => (fX1_firstOn_l11 F o1 kx n) a2 a3 (a4 + 1) M5) else (some ((if a3 = 0 then a4 else v3), M)))
def fX1_firstOn (F : Nat) (M : sp_Mem) (o1 : Nat) (a2 : Int32) (a3 : Int32) : Option (Int32 × sp_Mem) :=
  (fX5_copyFrom F M 78 o1).bind fun M1 => fX1_firstOn_l11 F o1 (fun M7 => some ((-1), M7)) F a2 a3 0 M1
set_option maxRecDepth 100000 in
set_option maxHeartbeats 4000000 in
theorem tX1_firstOn_l11 {g : sp_G} {Ω : sp_Mem → Prop} {Q : sp_Qt} {F : Nat} {p : (Int32 × sp_Mem)} (hG : sp_Ok Ω) {o1 : Nat} (ho1 : sp_room o1)  {kx : sp_Mem → Option (Int32 × sp_Mem)} (hQ : Q (some (.int p.1)) p.2) (hx : ∀  (M : sp_Mem), kx M = some p → sp_Wp g Ω mX1_firstOn 0 0 73 [none, none, none, none, none, none] [] M Q) : ∀ (n : Nat) (a2 : Int32) (a3 : Int32) (a4 : Int32) (M : sp_Mem), fX1_firstOn_l11 F o1 kx n a2 a3 a4 M = some p → sp_Wp g Ω mX1_firstOn 0 0 11 [some (.ref 77), none, some (.int a2), some (.int a3), some (.int a4), none] [] M Q := by
  intro n
  induction n with
  | zero =>
    intro a2 a3 a4 M h
    rw [fX1_firstOn_l11] at h
    cases h
  | succ n ih =>
    intro a2 a3 a4 M h
    rw [fX1_firstOn_l11] at h
    refine sp_iload dX1_firstOn_11 rfl ?_
    refine sp_bipush (v := 60) dX1_firstOn_13 (by decide) ?_
    refine sp_icmp_gt (tgt := 73) dX1_firstOn_15 (by decide) (fun hc2 => ?_) (fun hc2 => ?_)
    · have h := (if_pos hc2).symm.trans h
      refine sp_weak [false, false, false, false, false, false] [none, none, none, none, none, none] rfl ?_
      exact hx _ h
    · have h := (if_neg hc2).symm.trans h
      refine sp_aload_n dX1_firstOn_18 rfl rfl ?_
      refine sp_use (fun ho => ?_)
      have hs := hG.1 _ ho
      refine sp_getR (RX1, TX1, 7) dX1_firstOn_19 clX1 (j := 1) (by decide) tw_308 (wsI_77 hs) (Or.inl ⟨_, rfl⟩) (wsP_77_1 hs) ?_
      refine sp_iload_n dX1_firstOn_22 rfl rfl ?_
      obtain ⟨v3, hv3, h⟩ := Option.bind_eq_some_iff.mp h
      refine sp_cV (M1 := M) (r := some (.int v3)) (o := 78) (st := []) (c := 4) (RX5, TX5, 16) [.int a2] [.int a2, .ref 78] [.int v3] dX1_firstOn_23 okX5_sparkOn tw_1004 tw_1005 tw_1006 (by decide) (by decide) rfl (Nat.le_of_ble_eq_true rfl) rfl rfl rfl rfl (wsI_78 hs) (fun Q hQ => tX5_sparkOn hG room_78 hv3 hQ) ?_
      refine sp_istore [some (.ref 77), none, some (.int a2), some (.int a3), some (.int a4), some (.int v3)] dX1_firstOn_26 (by decide) rfl ?_
      refine sp_iload dX1_firstOn_28 rfl ?_
      refine sp_iconst (v := (-1)) dX1_firstOn_30 (by decide) ?_
      refine sp_icmp_eq (tgt := 46) dX1_firstOn_31 (by decide) (fun hc4 => ?_) (fun hc4 => ?_)
      · have h := (if_pos hc4).symm.trans h
        refine sp_aload_n dX1_firstOn_46 rfl rfl ?_
        refine sp_getR (RX1, TX1, 7) dX1_firstOn_47 clX1 (j := 0) (by decide) tw_307 (wsI_77 hs) (Or.inl ⟨_, rfl⟩) (wsP_77_0 hs) ?_
        refine sp_aload_n dX1_firstOn_50 rfl rfl ?_
        refine sp_getR (RX1, TX1, 7) dX1_firstOn_51 clX1 (j := 1) (by decide) tw_308 (wsI_77 hs) (Or.inl ⟨_, rfl⟩) (wsP_77_1 hs) ?_
        refine sp_iconst (v := 0) dX1_firstOn_54 (by decide) ?_
        refine sp_aload_n dX1_firstOn_55 rfl rfl ?_
        refine sp_getR (RX1, TX1, 7) dX1_firstOn_56 clX1 (j := 1) (by decide) tw_308 (wsI_77 hs) (Or.inl ⟨_, rfl⟩) (wsP_77_1 hs) ?_
        refine sp_getI (RX5, TX5, 16) dX1_firstOn_59 clX5 (j := 4) (by decide) tw_186 (wsI_78 hs) (Or.inl rfl) ?_
        refine sp_iconst (v := 1) dX1_firstOn_62 (by decide) ?_
        refine sp_isub dX1_firstOn_63 ?_
        obtain ⟨M5, hM5, h⟩ := Option.bind_eq_some_iff.mp h
        refine sp_cV (M1 := M5) (r := none) (o := 1) (st := []) (c := 5) (RX6, TX6, 2) [.ref 78, .int 0, .int ((sp_I M 78 4) - 1)] [.int ((sp_I M 78 4) - 1), .int 0, .ref 78, .ref 1] [] dX1_firstOn_64 okX6_passMinute tw_995 tw_925 tw_926 (by decide) (by decide) rfl (Nat.le_of_ble_eq_true rfl) rfl rfl rfl rfl (wsI_1 hs) (fun Q hQ => tX6_passMinute hG room_78 hM5 hQ) ?_
        refine sp_iinc (v := (a4 + 1)) [some (.ref 77), none, some (.int a2), some (.int a3), some (.int (a4 + 1)), some (.int v3)] dX1_firstOn_67 rfl rfl (by decide) rfl ?_
        refine sp_goto (tgt := 11) dX1_firstOn_70 (by decide) ?_
        refine sp_weak [true, false, true, true, true, false] [some (.ref 77), none, some (.int a2), some (.int a3), some (.int (a4 + 1)), none] rfl ?_
        exact ih _ _ _ _ h
      · have h := (if_neg hc4).symm.trans h
        refine sp_iload_n dX1_firstOn_34 rfl rfl ?_
        suffices hj : sp_Wp g Ω mX1_firstOn 0 0 45 [none, none, none, none, none, none] [.int (if a3 = 0 then a4 else v3)] M Q by
          refine sp_if_ne (tgt := 43) dX1_firstOn_35 (by decide) (fun hc6 => ?_) (fun hc6 => ?_)
          · refine sp_iload dX1_firstOn_43 rfl ?_
            refine sp_weak [false, false, false, false, false, false] [none, none, none, none, none, none] rfl ?_
            simp only [if_neg hc6] at hj
            exact hj
          · refine sp_iload dX1_firstOn_38 rfl ?_
            refine sp_goto (tgt := 45) dX1_firstOn_40 (by decide) ?_
            refine sp_weak [false, false, false, false, false, false] [none, none, none, none, none, none] rfl ?_
            simp only [if_pos hc6] at hj
            exact hj
        cases h
        exact sp_iret dX1_firstOn_45 (ty := .int) rfl rfl (fun _ => hQ)
set_option maxRecDepth 100000 in
set_option maxHeartbeats 4000000 in
theorem tX1_firstOn {g : sp_G} {Ω : sp_Mem → Prop} {Q : sp_Qt} {F : Nat} {p : (Int32 × sp_Mem)} (hG : sp_Ok Ω) {o1 : Nat} (ho1 : sp_room o1) {M : sp_Mem} {a2 : Int32} {a3 : Int32} (h : fX1_firstOn F M o1 a2 a3 = some p) (hQ : Q (some (.int p.1)) p.2) : sp_Mt g Ω mX1_firstOn 0 0 [.ref 77, .ref o1, .int a2, .int a3] M Q := by
  unfold fX1_firstOn at h
  refine sp_Mt.of [some (.ref 77), some (.ref o1), some (.int a2), some (.int a3), none, none] (by decide) (by simp [sp_ent, Value.category]) rfl ?_
  refine sp_aload_n dX1_firstOn_0 rfl rfl ?_
  refine sp_use (fun ho => ?_)
  have hs := hG.1 _ ho
  refine sp_getR (RX1, TX1, 7) dX1_firstOn_1 clX1 (j := 1) (by decide) tw_308 (wsI_77 hs) (Or.inl ⟨_, rfl⟩) (wsP_77_1 hs) ?_
  refine sp_aload_n dX1_firstOn_4 rfl rfl ?_
  obtain ⟨M1, hM1, h⟩ := Option.bind_eq_some_iff.mp h
  refine sp_cV (M1 := M1) (r := none) (o := 78) (st := []) (c := 4) (RX5, TX5, 16) [.ref o1] [.ref o1, .ref 78] [] dX1_firstOn_5 okX5_copyFrom tw_994 tw_852 tw_853 (by decide) (by decide) rfl (Nat.le_of_ble_eq_true rfl) rfl rfl rfl rfl (wsI_78 hs) (fun Q hQ => tX5_copyFrom hG room_78 ho1 hM1 hQ) ?_
  refine sp_iconst (v := 0) dX1_firstOn_8 (by decide) ?_
  refine sp_istore [some (.ref 77), some (.ref o1), some (.int a2), some (.int a3), some (.int 0), none] dX1_firstOn_9 (by decide) rfl ?_
  refine sp_weak [true, false, true, true, true, false] [some (.ref 77), none, some (.int a2), some (.int a3), some (.int 0), none] rfl ?_
  refine tX1_firstOn_l11 hG ho1 hQ (fun M7 h => ?_) F _ _ _ _ h
  refine sp_iconst (v := (-1)) dX1_firstOn_73 (by decide) ?_
  cases h
  exact sp_iret dX1_firstOn_74 (ty := .int) rfl rfl (fun _ => hQ)
def fX5_heatOfAll_l4 (F : Nat) (M0 : sp_Mem) (o0 : Nat) (kx : Int32 → Option Int32) : Nat → Int32 → Int32 → Option Int32
  | 0, _, _ => none
  | n + 1, a1, a2 =>
  if (sp_I M0 o0 4) ≤ a2 then (kx a1) else ((sp_ix 6 a2).bind fun j2 => sp_do ((a1 + (sp_I M0 (o0 + 3) j2))) fun u3 => (fX5_heatOfAll_l4 F M0 o0 kx n) u3 (a2 + 1))
def fX5_heatOfAll (F : Nat) (M0 : sp_Mem) (o0 : Nat) : Option Int32 :=
  fX5_heatOfAll_l4 F M0 o0 (fun b5 => some b5) F 0 0
set_option maxRecDepth 100000 in
set_option maxHeartbeats 4000000 in
theorem tX5_heatOfAll_l4 {g : sp_G} {Ω : sp_Mem → Prop} {Q : sp_Qt} {F : Nat} {M0 : sp_Mem} {p : Int32} (hG : sp_Ok Ω) {o0 : Nat} (ho0 : sp_room o0)  {kx : Int32 → Option Int32} (hQ : Q (some (.int p)) M0) (hx : ∀ (a1 : Int32), kx a1 = some p → sp_Wp g Ω mX5_heatOfAll 0 0 27 [none, some (.int a1), none] [] M0 Q) : ∀ (n : Nat) (a1 : Int32) (a2 : Int32), fX5_heatOfAll_l4 F M0 o0 kx n a1 a2 = some p → sp_Wp g Ω mX5_heatOfAll 0 0 4 [some (.ref o0), some (.int a1), some (.int a2)] [] M0 Q := by
  intro n
  induction n with
  | zero =>
    intro a1 a2 h
    rw [fX5_heatOfAll_l4] at h
    cases h
  | succ n ih =>
    intro a1 a2 h
    rw [fX5_heatOfAll_l4] at h
    refine sp_iload_n dX5_heatOfAll_4 rfl rfl ?_
    refine sp_aload_n dX5_heatOfAll_5 rfl rfl ?_
    refine sp_use (fun ho => ?_)
    have hs := hG.1 _ ho
    refine sp_getI (RX5, TX5, 16) dX5_heatOfAll_6 clX5 (j := 4) (by decide) tw_184 (rmI hs ho0) (Or.inl rfl) ?_
    refine sp_icmp_ge (tgt := 27) dX5_heatOfAll_9 (by decide) (fun hc1 => ?_) (fun hc1 => ?_)
    · have h := (if_pos hc1).symm.trans h
      refine sp_weak [false, true, false] [none, some (.int a1), none] rfl ?_
      exact hx _ h
    · have h := (if_neg hc1).symm.trans h
      refine sp_iload_n dX5_heatOfAll_12 rfl rfl ?_
      refine sp_aload_n dX5_heatOfAll_13 rfl rfl ?_
      refine sp_getR (RX5, TX5, 16) dX5_heatOfAll_14 clX5 (j := 2) (by decide) tw_175 (rmI hs ho0) (Or.inr ⟨_, rfl⟩) (rmP_2 hs ho0) ?_
      refine sp_iload_n dX5_heatOfAll_17 rfl rfl ?_
      obtain ⟨j2, hj2, h⟩ := Option.bind_eq_some_iff.mp h
      refine sp_iald2 (j := j2) dX5_heatOfAll_18 (rmA_3 hs ho0) (rmN_3 hs ho0) hj2 ?_
      refine sp_iadd dX5_heatOfAll_19 ?_
      obtain ⟨u3, hu3, h⟩ := sp_do_e h
      refine sp_topi hu3 ?_
      refine sp_istore_n [some (.ref o0), some (.int u3), some (.int a2)] dX5_heatOfAll_20 rfl (by decide) rfl ?_
      refine sp_iinc (v := (a2 + 1)) [some (.ref o0), some (.int u3), some (.int (a2 + 1))] dX5_heatOfAll_21 rfl rfl (by decide) rfl ?_
      refine sp_goto (tgt := 4) dX5_heatOfAll_24 (by decide) ?_
      refine sp_weak [true, true, true] [some (.ref o0), some (.int u3), some (.int (a2 + 1))] rfl ?_
      exact ih _ _ h
set_option maxRecDepth 100000 in
set_option maxHeartbeats 4000000 in
theorem tX5_heatOfAll {g : sp_G} {Ω : sp_Mem → Prop} {Q : sp_Qt} {F : Nat} {M0 : sp_Mem} {p : Int32} (hG : sp_Ok Ω) {o0 : Nat} (ho0 : sp_room o0) (h : fX5_heatOfAll F M0 o0 = some p) (hQ : Q (some (.int p)) M0) : sp_Mt g Ω mX5_heatOfAll 0 0 [.ref o0] M0 Q := by
  unfold fX5_heatOfAll at h
  refine sp_Mt.of [some (.ref o0), none, none] (by decide) (by simp [sp_ent, Value.category]) rfl ?_
  refine sp_iconst (v := 0) dX5_heatOfAll_0 (by decide) ?_
  refine sp_istore_n [some (.ref o0), some (.int 0), none] dX5_heatOfAll_1 rfl (by decide) rfl ?_
  refine sp_iconst (v := 0) dX5_heatOfAll_2 (by decide) ?_
  refine sp_istore_n [some (.ref o0), some (.int 0), some (.int 0)] dX5_heatOfAll_3 rfl (by decide) rfl ?_
  refine sp_weak [true, true, true] [some (.ref o0), some (.int 0), some (.int 0)] rfl ?_
  refine tX5_heatOfAll_l4 hG ho0 hQ (fun b5 h => ?_) F _ _ h
  refine sp_iload_n dX5_heatOfAll_27 rfl rfl ?_
  cases h
  exact sp_iret dX5_heatOfAll_28 (ty := .int) rfl rfl (fun _ => hQ)
def fX1_heatLater_l19 (F : Nat) (o1 : Nat) (kx : sp_Mem → Option (Int32 × sp_Mem)) : Nat → Int32 → Int32 → sp_Mem → Option (Int32 × sp_Mem)
  | 0, _, _, _ => none
  | n + 1, a3, a4, M =>
  if a3 ≤ a4 then (kx M) else ((fX6_passMinute F M 78 0 ((sp_I M 78 4) - 1)).bind fun M4 => (fX1_heatLater_l19 F o1 kx n) a3 (a4 + 1) M4)
def fX1_heatLater (F : Nat) (M : sp_Mem) (o1 : Nat) (a2 : Int32) (a3 : Int32) : Option (Int32 × sp_Mem) :=
  (fX5_copyFrom F M 78 o1).bind fun M1 => sp_do (sp_setI M1 78 15 a2) fun M2 => fX1_heatLater_l19 F o1 (fun M5 => (fX5_heatOfAll F M5 78).bind fun v6 => some (v6, M5)) F a3 0 M2
set_option maxRecDepth 100000 in
set_option maxHeartbeats 4000000 in
theorem tX1_heatLater_l19 {g : sp_G} {Ω : sp_Mem → Prop} {Q : sp_Qt} {F : Nat} {p : (Int32 × sp_Mem)} (hG : sp_Ok Ω) {o1 : Nat} (ho1 : sp_room o1)  {kx : sp_Mem → Option (Int32 × sp_Mem)} (hQ : Q (some (.int p.1)) p.2) (hx : ∀  (M : sp_Mem), kx M = some p → sp_Wp g Ω mX1_heatLater 0 0 52 [some (.ref 77), none, none, none, none] [] M Q) : ∀ (n : Nat) (a3 : Int32) (a4 : Int32) (M : sp_Mem), fX1_heatLater_l19 F o1 kx n a3 a4 M = some p → sp_Wp g Ω mX1_heatLater 0 0 19 [some (.ref 77), none, none, some (.int a3), some (.int a4)] [] M Q := by
  intro n
  induction n with
  | zero =>
    intro a3 a4 M h
    rw [fX1_heatLater_l19] at h
    cases h
  | succ n ih =>
    intro a3 a4 M h
    rw [fX1_heatLater_l19] at h
    refine sp_iload dX1_heatLater_19 rfl ?_
    refine sp_iload_n dX1_heatLater_21 rfl rfl ?_
    refine sp_icmp_ge (tgt := 52) dX1_heatLater_22 (by decide) (fun hc3 => ?_) (fun hc3 => ?_)
    · have h := (if_pos hc3).symm.trans h
      refine sp_weak [true, false, false, false, false] [some (.ref 77), none, none, none, none] rfl ?_
      exact hx _ h
    · have h := (if_neg hc3).symm.trans h
      refine sp_aload_n dX1_heatLater_25 rfl rfl ?_
      refine sp_use (fun ho => ?_)
      have hs := hG.1 _ ho
      refine sp_getR (RX1, TX1, 7) dX1_heatLater_26 clX1 (j := 0) (by decide) tw_307 (wsI_77 hs) (Or.inl ⟨_, rfl⟩) (wsP_77_0 hs) ?_
      refine sp_aload_n dX1_heatLater_29 rfl rfl ?_
      refine sp_getR (RX1, TX1, 7) dX1_heatLater_30 clX1 (j := 1) (by decide) tw_308 (wsI_77 hs) (Or.inl ⟨_, rfl⟩) (wsP_77_1 hs) ?_
      refine sp_iconst (v := 0) dX1_heatLater_33 (by decide) ?_
      refine sp_aload_n dX1_heatLater_34 rfl rfl ?_
      refine sp_getR (RX1, TX1, 7) dX1_heatLater_35 clX1 (j := 1) (by decide) tw_308 (wsI_77 hs) (Or.inl ⟨_, rfl⟩) (wsP_77_1 hs) ?_
      refine sp_getI (RX5, TX5, 16) dX1_heatLater_38 clX5 (j := 4) (by decide) tw_186 (wsI_78 hs) (Or.inl rfl) ?_
      refine sp_iconst (v := 1) dX1_heatLater_41 (by decide) ?_
      refine sp_isub dX1_heatLater_42 ?_
      obtain ⟨M4, hM4, h⟩ := Option.bind_eq_some_iff.mp h
      refine sp_cV (M1 := M4) (r := none) (o := 1) (st := []) (c := 5) (RX6, TX6, 2) [.ref 78, .int 0, .int ((sp_I M 78 4) - 1)] [.int ((sp_I M 78 4) - 1), .int 0, .ref 78, .ref 1] [] dX1_heatLater_43 okX6_passMinute tw_995 tw_925 tw_926 (by decide) (by decide) rfl (Nat.le_of_ble_eq_true rfl) rfl rfl rfl rfl (wsI_1 hs) (fun Q hQ => tX6_passMinute hG room_78 hM4 hQ) ?_
      refine sp_iinc (v := (a4 + 1)) [some (.ref 77), none, none, some (.int a3), some (.int (a4 + 1))] dX1_heatLater_46 rfl rfl (by decide) rfl ?_
      refine sp_goto (tgt := 19) dX1_heatLater_49 (by decide) ?_
      refine sp_weak [true, false, false, true, true] [some (.ref 77), none, none, some (.int a3), some (.int (a4 + 1))] rfl ?_
      exact ih _ _ _ h
set_option maxRecDepth 100000 in
set_option maxHeartbeats 4000000 in
theorem tX1_heatLater {g : sp_G} {Ω : sp_Mem → Prop} {Q : sp_Qt} {F : Nat} {p : (Int32 × sp_Mem)} (hG : sp_Ok Ω) {o1 : Nat} (ho1 : sp_room o1) {M : sp_Mem} {a2 : Int32} {a3 : Int32} (h : fX1_heatLater F M o1 a2 a3 = some p) (hQ : Q (some (.int p.1)) p.2) : sp_Mt g Ω mX1_heatLater 0 0 [.ref 77, .ref o1, .int a2, .int a3] M Q := by
  unfold fX1_heatLater at h
  refine sp_Mt.of [some (.ref 77), some (.ref o1), some (.int a2), some (.int a3), none] (by decide) (by simp [sp_ent, Value.category]) rfl ?_
  refine sp_aload_n dX1_heatLater_0 rfl rfl ?_
  refine sp_use (fun ho => ?_)
  have hs := hG.1 _ ho
  refine sp_getR (RX1, TX1, 7) dX1_heatLater_1 clX1 (j := 1) (by decide) tw_308 (wsI_77 hs) (Or.inl ⟨_, rfl⟩) (wsP_77_1 hs) ?_
  refine sp_aload_n dX1_heatLater_4 rfl rfl ?_
  obtain ⟨M1, hM1, h⟩ := Option.bind_eq_some_iff.mp h
  refine sp_cV (M1 := M1) (r := none) (o := 78) (st := []) (c := 4) (RX5, TX5, 16) [.ref o1] [.ref o1, .ref 78] [] dX1_heatLater_5 okX5_copyFrom tw_994 tw_852 tw_853 (by decide) (by decide) rfl (Nat.le_of_ble_eq_true rfl) rfl rfl rfl rfl (wsI_78 hs) (fun Q hQ => tX5_copyFrom hG room_78 ho1 hM1 hQ) ?_
  refine sp_aload_n dX1_heatLater_8 rfl rfl ?_
  refine sp_use (fun ho => ?_)
  have hs := hG.1 _ ho
  refine sp_getR (RX1, TX1, 7) dX1_heatLater_9 clX1 (j := 1) (by decide) tw_308 (wsI_77 hs) (Or.inl ⟨_, rfl⟩) (wsP_77_1 hs) ?_
  refine sp_iload_n dX1_heatLater_12 rfl rfl ?_
  obtain ⟨M2, hM2, h⟩ := sp_do_e h
  refine sp_putI2 (RX5, TX5, 16) hG dX1_heatLater_13 clX5 (j := 15) (by decide) tw_219 rfl (Or.inl rfl) (wsI_78 hs) hM2 ?_
  refine sp_iconst (v := 0) dX1_heatLater_16 (by decide) ?_
  refine sp_istore [some (.ref 77), some (.ref o1), some (.int a2), some (.int a3), some (.int 0)] dX1_heatLater_17 (by decide) rfl ?_
  refine sp_weak [true, false, false, true, true] [some (.ref 77), none, none, some (.int a3), some (.int 0)] rfl ?_
  refine tX1_heatLater_l19 hG ho1 hQ (fun M5 h => ?_) F _ _ _ h
  refine sp_aload_n dX1_heatLater_52 rfl rfl ?_
  refine sp_use (fun ho => ?_)
  have hs := hG.1 _ ho
  refine sp_getR (RX1, TX1, 7) dX1_heatLater_53 clX1 (j := 1) (by decide) tw_308 (wsI_77 hs) (Or.inl ⟨_, rfl⟩) (wsP_77_1 hs) ?_
  obtain ⟨v6, hv6, h⟩ := Option.bind_eq_some_iff.mp h
  refine sp_cV (M1 := M5) (r := some (.int v6)) (o := 78) (st := []) (c := 4) (RX5, TX5, 16) [] [.ref 78] [.int v6] dX1_heatLater_56 okX5_heatOfAll tw_1143 tw_1144 tw_1145 (by decide) (by decide) rfl (Nat.le_of_ble_eq_true rfl) rfl rfl rfl rfl (wsI_78 hs) (fun Q hQ => tX5_heatOfAll hG room_78 hv6 hQ) ?_
  cases h
  exact sp_iret dX1_heatLater_59 (ty := .int) rfl rfl (fun _ => hQ)
def fX6_comes (F : Nat) (M : sp_Mem) (o1 : Nat) (a2 : Int32) (a3 : Int32) (a4 : Int32) : Option (Int32 × sp_Mem) :=
  if (fX10_isCell a3) = 0 then (some (0, M)) else ((sp_ix 5 a4).bind fun j2 => if (((sp_I M (o1 + 7) j2) >>> (a2 &&& 31)) &&& 1) = 1 then ((sp_ix 5 a4).bind fun j4 => (fX10_farApart a3 (sp_I M (o1 + 5) j4)).bind fun v5 => (sp_ix 5 a4).bind fun j6 => if (sp_I M (o1 + 6) j6) < v5 then (some (0, M)) else ((fX6_toldBy F M o1 2 a2 a3 a4).bind fun x8 => some ((if x8.1 = (-2000000000) then 1 else 0), x8.2))) else (some (0, M)))
set_option maxRecDepth 100000 in
set_option maxHeartbeats 4000000 in
theorem tX6_comes {g : sp_G} {Ω : sp_Mem → Prop} {Q : sp_Qt} {F : Nat} {p : (Int32 × sp_Mem)} (hG : sp_Ok Ω) {o1 : Nat} (ho1 : sp_room o1) {M : sp_Mem} {a2 : Int32} {a3 : Int32} {a4 : Int32} (h : fX6_comes F M o1 a2 a3 a4 = some p) (hQ : Q (some (.int p.1)) p.2) : sp_Mt g Ω mX6_comes 0 0 [.ref 1, .ref o1, .int a2, .int a3, .int a4] M Q := by
  unfold fX6_comes at h
  refine sp_Mt.of [some (.ref 1), some (.ref o1), some (.int a2), some (.int a3), some (.int a4)] (by decide) (by simp [sp_ent, Value.category]) rfl ?_
  refine sp_iload_n dX6_comes_0 rfl rfl ?_
  refine sp_use (fun ho => ?_)
  have hs := hG.1 _ ho
  refine sp_cSN (M1 := M) (r := some (.int (fX10_isCell a3))) (st := []) [.int a3] [.int a3] [.int (fX10_isCell a3)] dX6_comes_1 okX10_isCell (by decide +kernel) tw_469 (by decide) (by decide) rfl (Nat.le_of_ble_eq_true rfl) rfl rfl (fun Q hQ => tX10_isCell hG rfl hQ) ?_
  refine sp_if_eq (tgt := 62) dX6_comes_4 (by decide) (fun hc1 => ?_) (fun hc1 => ?_)
  · have h := (if_pos hc1).symm.trans h
    refine sp_iconst (v := 0) dX6_comes_62 (by decide) ?_
    cases h
    exact sp_iret dX6_comes_63 (ty := .boolean) rfl (sp_nz (Or.inl rfl)) (fun _ => hQ)
  · have h := (if_neg hc1).symm.trans h
    refine sp_aload_n dX6_comes_7 rfl rfl ?_
    refine sp_getR (RX5, TX5, 16) dX6_comes_8 clX5 (j := 7) (by decide) tw_198 (rmI hs ho1) (Or.inr ⟨_, rfl⟩) (rmP_7 hs ho1) ?_
    refine sp_iload dX6_comes_11 rfl ?_
    obtain ⟨j2, hj2, h⟩ := Option.bind_eq_some_iff.mp h
    refine sp_iald2 (j := j2) dX6_comes_13 (rmA_7 hs ho1) (rmN_7 hs ho1) hj2 ?_
    refine sp_iload_n dX6_comes_14 rfl rfl ?_
    refine sp_ishr dX6_comes_15 ?_
    refine sp_iconst (v := 1) dX6_comes_16 (by decide) ?_
    refine sp_iand dX6_comes_17 ?_
    refine sp_iconst (v := 1) dX6_comes_18 (by decide) ?_
    refine sp_icmp_ne (tgt := 62) dX6_comes_19 (by decide) (fun hc3 => ?_) (fun hc3 => ?_)
    · have h := (if_neg hc3).symm.trans h
      refine sp_iconst (v := 0) dX6_comes_62 (by decide) ?_
      cases h
      exact sp_iret dX6_comes_63 (ty := .boolean) rfl (sp_nz (Or.inl rfl)) (fun _ => hQ)
    · have h := (if_pos hc3).symm.trans h
      refine sp_iload_n dX6_comes_22 rfl rfl ?_
      refine sp_aload_n dX6_comes_23 rfl rfl ?_
      refine sp_getR (RX5, TX5, 16) dX6_comes_24 clX5 (j := 5) (by decide) tw_191 (rmI hs ho1) (Or.inr ⟨_, rfl⟩) (rmP_5 hs ho1) ?_
      refine sp_iload dX6_comes_27 rfl ?_
      obtain ⟨j4, hj4, h⟩ := Option.bind_eq_some_iff.mp h
      refine sp_iald2 (j := j4) dX6_comes_29 (rmA_5 hs ho1) (rmN_5 hs ho1) hj4 ?_
      obtain ⟨v5, hv5, h⟩ := Option.bind_eq_some_iff.mp h
      refine sp_cSN (M1 := M) (r := some (.int v5)) (st := []) [.int a3, .int (sp_I M (o1 + 5) j4)] [.int (sp_I M (o1 + 5) j4), .int a3] [.int v5] dX6_comes_30 okX10_farApart (by decide +kernel) tw_522 (by decide) (by decide) rfl (Nat.le_of_ble_eq_true rfl) rfl rfl (fun Q hQ => tX10_farApart hG hv5 hQ) ?_
      refine sp_aload_n dX6_comes_33 rfl rfl ?_
      refine sp_getR (RX5, TX5, 16) dX6_comes_34 clX5 (j := 6) (by decide) tw_194 (rmI hs ho1) (Or.inr ⟨_, rfl⟩) (rmP_6 hs ho1) ?_
      refine sp_iload dX6_comes_37 rfl ?_
      obtain ⟨j6, hj6, h⟩ := Option.bind_eq_some_iff.mp h
      refine sp_iald2 (j := j6) dX6_comes_39 (rmA_6 hs ho1) (rmN_6 hs ho1) hj6 ?_
      refine sp_icmp_gt (tgt := 62) dX6_comes_40 (by decide) (fun hc7 => ?_) (fun hc7 => ?_)
      · have h := (if_pos hc7).symm.trans h
        refine sp_iconst (v := 0) dX6_comes_62 (by decide) ?_
        cases h
        exact sp_iret dX6_comes_63 (ty := .boolean) rfl (sp_nz (Or.inl rfl)) (fun _ => hQ)
      · have h := (if_neg hc7).symm.trans h
        refine sp_aload_n dX6_comes_43 rfl rfl ?_
        refine sp_aload_n dX6_comes_44 rfl rfl ?_
        refine sp_iconst (v := 2) dX6_comes_45 (by decide) ?_
        refine sp_iload_n dX6_comes_46 rfl rfl ?_
        refine sp_iload_n dX6_comes_47 rfl rfl ?_
        refine sp_iload dX6_comes_48 rfl ?_
        obtain ⟨x8, hx8, h⟩ := Option.bind_eq_some_iff.mp h
        refine sp_cV (M1 := x8.2) (r := some (.int x8.1)) (o := 1) (st := []) (c := 5) (RX6, TX6, 2) [.ref o1, .int 2, .int a2, .int a3, .int a4] [.int a4, .int a3, .int a2, .int 2, .ref o1, .ref 1] [.int x8.1] dX6_comes_50 okX6_toldBy tw_502 tw_504 tw_2 (by decide) (by decide) rfl (Nat.le_of_ble_eq_true rfl) rfl rfl rfl rfl (wsI_1 hs) (fun Q hQ => tX6_toldBy hG ho1 hx8 hQ) ?_
        refine sp_ldc (v := (-2000000000)) dX6_comes_53 tw_515 ?_
        suffices hj : sp_Wp g Ω mX6_comes 0 0 63 [none, none, none, none, none] [.int (if x8.1 = (-2000000000) then 1 else 0)] x8.2 Q by
          refine sp_icmp_ne (tgt := 62) dX6_comes_55 (by decide) (fun hc9 => ?_) (fun hc9 => ?_)
          · refine sp_iconst (v := 0) dX6_comes_62 (by decide) ?_
            refine sp_weak [false, false, false, false, false] [none, none, none, none, none] rfl ?_
            simp only [if_neg hc9] at hj
            exact hj
          · refine sp_iconst (v := 1) dX6_comes_58 (by decide) ?_
            refine sp_goto (tgt := 63) dX6_comes_59 (by decide) ?_
            refine sp_weak [false, false, false, false, false] [none, none, none, none, none] rfl ?_
            simp only [if_pos hc9] at hj
            exact hj
        cases h
        exact sp_iret dX6_comes_63 (ty := .boolean) rfl (sp_nz (by repeat (first | exact Or.inl rfl | exact Or.inr rfl | split))) (fun _ => hQ)
def fX1_nextCaller_j51 (F : Nat) (M0 : sp_Mem) (o1 : Nat) (kb : Int32 → Int32 → Int32 → Option Int32) (kx : Option Int32) (a2 : Int32) (a3 : Int32) (a4 : Int32) (s0 : Int32) : Option Int32 :=
  (sp_ix 30 ((a2 * 5) + a4)).bind fun j6 => if (sp_I M0 92 j6) = 0 then (kb a2 a3 (a4 + 1)) else (if s0 = (a3 - 1) then (some a4) else (kb a2 a3 (a4 + 1)))
def fX1_nextCaller_j33 (F : Nat) (M0 : sp_Mem) (o1 : Nat) (kb : Int32 → Int32 → Int32 → Option Int32) (kx : Option Int32) (a2 : Int32) (a3 : Int32) (a4 : Int32) (s0 : Int32) : Option Int32 :=
  if s0 = 0 then ((sp_ix 6 a4).bind fun j5 => fX1_nextCaller_j51 F M0 o1 kb kx a2 a3 a4 (sp_I M0 93 j5)) else (fX1_nextCaller_j51 F M0 o1 kb kx a2 a3 a4 0)
def fX1_nextCaller_l3 (F : Nat) (M0 : sp_Mem) (o1 : Nat) (kx : Option Int32) : Nat → Int32 → Int32 → Int32 → Option Int32
  | 0, _, _, _ => none
  | n + 1, a2, a3, a4 =>
  if (sp_I M0 o1 8) ≤ a4 then (kx) else ((sp_ix 5 a4).bind fun j2 => fX1_nextCaller_j33 F M0 o1 (fX1_nextCaller_l3 F M0 o1 kx n) kx a2 a3 a4 (if (sp_I M0 (o1 + 5) j2) = (sp_I M0 (o1 + 10) 3) then 1 else 0))
def fX1_nextCaller (F : Nat) (M0 : sp_Mem) (o1 : Nat) (a2 : Int32) (a3 : Int32) : Option Int32 :=
  fX1_nextCaller_l3 F M0 o1 (some (-1)) F a2 a3 0
set_option maxRecDepth 100000 in
set_option maxHeartbeats 4000000 in
theorem tX1_nextCaller_j51 {g : sp_G} {Ω : sp_Mem → Prop} {Q : sp_Qt} {F : Nat} {M0 : sp_Mem} {p : Int32} (hG : sp_Ok Ω) {o1 : Nat} (ho1 : sp_room o1)  {kb : Int32 → Int32 → Int32 → Option Int32} {kx : Option Int32} (hQ : Q (some (.int p)) M0) (hb : ∀ (a2 : Int32) (a3 : Int32) (a4 : Int32), kb a2 a3 a4 = some p → sp_Wp g Ω mX1_nextCaller 0 0 3 [some (.ref 77), some (.ref o1), some (.int a2), some (.int a3), some (.int a4), none, none] [] M0 Q) (hx : kx = some p → sp_Wp g Ω mX1_nextCaller 0 0 84 [none, none, none, none, none, none, none] [] M0 Q) (a2 : Int32) (a3 : Int32) (a4 : Int32) (s0 : Int32) (h : fX1_nextCaller_j51 F M0 o1 kb kx a2 a3 a4 s0 = some p) : sp_Wp g Ω mX1_nextCaller 0 0 51 [some (.ref 77), some (.ref o1), some (.int a2), some (.int a3), some (.int a4), none, none] [.int s0] M0 Q := by
  unfold fX1_nextCaller_j51 at h
  refine sp_istore [some (.ref 77), some (.ref o1), some (.int a2), some (.int a3), some (.int a4), none, some (.int s0)] dX1_nextCaller_51 (by decide) rfl ?_
  refine sp_aload_n dX1_nextCaller_53 rfl rfl ?_
  refine sp_use (fun ho => ?_)
  have hs := hG.1 _ ho
  refine sp_getR (RX1, TX1, 7) dX1_nextCaller_54 clX1 (j := 4) (by decide) tw_311 (wsI_77 hs) (Or.inr ⟨_, rfl⟩) (wsP_77_4 hs) ?_
  refine sp_iload_n dX1_nextCaller_57 rfl rfl ?_
  refine sp_iconst (v := 5) dX1_nextCaller_58 (by decide) ?_
  refine sp_imul dX1_nextCaller_59 ?_
  refine sp_iload dX1_nextCaller_60 rfl ?_
  refine sp_iadd dX1_nextCaller_62 ?_
  obtain ⟨j6, hj6, h⟩ := Option.bind_eq_some_iff.mp h
  refine sp_zald2 (j := j6) dX1_nextCaller_63 (wsA_92 hs) (wsN_92 hs) hj6 ?_
  refine sp_if_eq (tgt := 78) dX1_nextCaller_64 (by decide) (fun hc7 => ?_) (fun hc7 => ?_)
  · have h := (if_pos hc7).symm.trans h
    refine sp_iinc (v := (a4 + 1)) [some (.ref 77), some (.ref o1), some (.int a2), some (.int a3), some (.int (a4 + 1)), none, some (.int s0)] dX1_nextCaller_78 rfl rfl (by decide) rfl ?_
    refine sp_goto (tgt := 3) dX1_nextCaller_81 (by decide) ?_
    refine sp_weak [true, true, true, true, true, false, false] [some (.ref 77), some (.ref o1), some (.int a2), some (.int a3), some (.int (a4 + 1)), none, none] rfl ?_
    exact hb _ _ _ h
  · have h := (if_neg hc7).symm.trans h
    refine sp_iload dX1_nextCaller_67 rfl ?_
    refine sp_iload_n dX1_nextCaller_69 rfl rfl ?_
    refine sp_iconst (v := 1) dX1_nextCaller_70 (by decide) ?_
    refine sp_isub dX1_nextCaller_71 ?_
    refine sp_icmp_ne (tgt := 78) dX1_nextCaller_72 (by decide) (fun hc8 => ?_) (fun hc8 => ?_)
    · have h := (if_neg hc8).symm.trans h
      refine sp_iinc (v := (a4 + 1)) [some (.ref 77), some (.ref o1), some (.int a2), some (.int a3), some (.int (a4 + 1)), none, some (.int s0)] dX1_nextCaller_78 rfl rfl (by decide) rfl ?_
      refine sp_goto (tgt := 3) dX1_nextCaller_81 (by decide) ?_
      refine sp_weak [true, true, true, true, true, false, false] [some (.ref 77), some (.ref o1), some (.int a2), some (.int a3), some (.int (a4 + 1)), none, none] rfl ?_
      exact hb _ _ _ h
    · have h := (if_pos hc8).symm.trans h
      refine sp_iload dX1_nextCaller_75 rfl ?_
      cases h
      exact sp_iret dX1_nextCaller_77 (ty := .int) rfl rfl (fun _ => hQ)
set_option maxRecDepth 100000 in
set_option maxHeartbeats 4000000 in
theorem tX1_nextCaller_j33 {g : sp_G} {Ω : sp_Mem → Prop} {Q : sp_Qt} {F : Nat} {M0 : sp_Mem} {p : Int32} (hG : sp_Ok Ω) {o1 : Nat} (ho1 : sp_room o1)  {kb : Int32 → Int32 → Int32 → Option Int32} {kx : Option Int32} (hQ : Q (some (.int p)) M0) (hb : ∀ (a2 : Int32) (a3 : Int32) (a4 : Int32), kb a2 a3 a4 = some p → sp_Wp g Ω mX1_nextCaller 0 0 3 [some (.ref 77), some (.ref o1), some (.int a2), some (.int a3), some (.int a4), none, none] [] M0 Q) (hx : kx = some p → sp_Wp g Ω mX1_nextCaller 0 0 84 [none, none, none, none, none, none, none] [] M0 Q) (a2 : Int32) (a3 : Int32) (a4 : Int32) (s0 : Int32) (h : fX1_nextCaller_j33 F M0 o1 kb kx a2 a3 a4 s0 = some p) : sp_Wp g Ω mX1_nextCaller 0 0 33 [some (.ref 77), some (.ref o1), some (.int a2), some (.int a3), some (.int a4), none, none] [.int s0] M0 Q := by
  unfold fX1_nextCaller_j33 at h
  refine sp_istore [some (.ref 77), some (.ref o1), some (.int a2), some (.int a3), some (.int a4), some (.int s0), none] dX1_nextCaller_33 (by decide) rfl ?_
  refine sp_iload dX1_nextCaller_35 rfl ?_
  refine sp_if_eq (tgt := 44) dX1_nextCaller_37 (by decide) (fun hc4 => ?_) (fun hc4 => ?_)
  · have h := (if_pos hc4).symm.trans h
    refine sp_aload_n dX1_nextCaller_44 rfl rfl ?_
    refine sp_use (fun ho => ?_)
    have hs := hG.1 _ ho
    refine sp_getR (RX1, TX1, 7) dX1_nextCaller_45 clX1 (j := 5) (by decide) tw_312 (wsI_77 hs) (Or.inr ⟨_, rfl⟩) (wsP_77_5 hs) ?_
    refine sp_iload dX1_nextCaller_48 rfl ?_
    obtain ⟨j5, hj5, h⟩ := Option.bind_eq_some_iff.mp h
    refine sp_iald2 (j := j5) dX1_nextCaller_50 (wsA_93 hs) (wsN_93 hs) hj5 ?_
    refine sp_weak [true, true, true, true, true, false, false] [some (.ref 77), some (.ref o1), some (.int a2), some (.int a3), some (.int a4), none, none] rfl ?_
    exact tX1_nextCaller_j51 hG ho1 hQ hb hx _ _ _ _ h
  · have h := (if_neg hc4).symm.trans h
    refine sp_iconst (v := 0) dX1_nextCaller_40 (by decide) ?_
    refine sp_goto (tgt := 51) dX1_nextCaller_41 (by decide) ?_
    refine sp_weak [true, true, true, true, true, false, false] [some (.ref 77), some (.ref o1), some (.int a2), some (.int a3), some (.int a4), none, none] rfl ?_
    exact tX1_nextCaller_j51 hG ho1 hQ hb hx _ _ _ _ h
set_option maxRecDepth 100000 in
set_option maxHeartbeats 4000000 in
theorem tX1_nextCaller_l3 {g : sp_G} {Ω : sp_Mem → Prop} {Q : sp_Qt} {F : Nat} {M0 : sp_Mem} {p : Int32} (hG : sp_Ok Ω) {o1 : Nat} (ho1 : sp_room o1)  {kx : Option Int32} (hQ : Q (some (.int p)) M0) (hx : kx = some p → sp_Wp g Ω mX1_nextCaller 0 0 84 [none, none, none, none, none, none, none] [] M0 Q) : ∀ (n : Nat) (a2 : Int32) (a3 : Int32) (a4 : Int32), fX1_nextCaller_l3 F M0 o1 kx n a2 a3 a4 = some p → sp_Wp g Ω mX1_nextCaller 0 0 3 [some (.ref 77), some (.ref o1), some (.int a2), some (.int a3), some (.int a4), none, none] [] M0 Q := by
  intro n
  induction n with
  | zero =>
    intro a2 a3 a4 h
    rw [fX1_nextCaller_l3] at h
    cases h
  | succ n ih =>
    intro a2 a3 a4 h
    rw [fX1_nextCaller_l3] at h
    refine sp_iload dX1_nextCaller_3 rfl ?_
    refine sp_aload_n dX1_nextCaller_5 rfl rfl ?_
    refine sp_use (fun ho => ?_)
    have hs := hG.1 _ ho
    refine sp_getI (RX5, TX5, 16) dX1_nextCaller_6 clX5 (j := 8) (by decide) tw_202 (rmI hs ho1) (Or.inl rfl) ?_
    refine sp_icmp_ge (tgt := 84) dX1_nextCaller_9 (by decide) (fun hc1 => ?_) (fun hc1 => ?_)
    · have h := (if_pos hc1).symm.trans h
      refine sp_weak [false, false, false, false, false, false, false] [none, none, none, none, none, none, none] rfl ?_
      exact hx h
    · have h := (if_neg hc1).symm.trans h
      refine sp_aload_n dX1_nextCaller_12 rfl rfl ?_
      refine sp_getR (RX5, TX5, 16) dX1_nextCaller_13 clX5 (j := 5) (by decide) tw_189 (rmI hs ho1) (Or.inr ⟨_, rfl⟩) (rmP_5 hs ho1) ?_
      refine sp_iload dX1_nextCaller_16 rfl ?_
      obtain ⟨j2, hj2, h⟩ := Option.bind_eq_some_iff.mp h
      refine sp_iald2 (j := j2) dX1_nextCaller_18 (rmA_5 hs ho1) (rmN_5 hs ho1) hj2 ?_
      refine sp_aload_n dX1_nextCaller_19 rfl rfl ?_
      refine sp_getR (RX5, TX5, 16) dX1_nextCaller_20 clX5 (j := 12) (by decide) tw_213 (rmI hs ho1) (Or.inr ⟨_, rfl⟩) (rmP_12 hs ho1) ?_
      refine sp_iconst (v := 3) dX1_nextCaller_23 (by decide) ?_
      refine sp_iald2 (j := 3) dX1_nextCaller_24 (rmA_10 hs ho1) (rmN_10 hs ho1) rfl ?_
      suffices hj : sp_Wp g Ω mX1_nextCaller 0 0 33 [some (.ref 77), some (.ref o1), some (.int a2), some (.int a3), some (.int a4), none, none] [.int (if (sp_I M0 (o1 + 5) j2) = (sp_I M0 (o1 + 10) 3) then 1 else 0)] M0 Q by
        refine sp_icmp_ne (tgt := 32) dX1_nextCaller_25 (by decide) (fun hc3 => ?_) (fun hc3 => ?_)
        · refine sp_iconst (v := 0) dX1_nextCaller_32 (by decide) ?_
          simp only [if_neg hc3] at hj
          exact hj
        · refine sp_iconst (v := 1) dX1_nextCaller_28 (by decide) ?_
          refine sp_goto (tgt := 33) dX1_nextCaller_29 (by decide) ?_
          simp only [if_pos hc3] at hj
          exact hj
      refine sp_weak [true, true, true, true, true, false, false] [some (.ref 77), some (.ref o1), some (.int a2), some (.int a3), some (.int a4), none, none] rfl ?_
      exact tX1_nextCaller_j33 hG ho1 hQ ih hx _ _ _ _ h
set_option maxRecDepth 100000 in
set_option maxHeartbeats 4000000 in
theorem tX1_nextCaller {g : sp_G} {Ω : sp_Mem → Prop} {Q : sp_Qt} {F : Nat} {M0 : sp_Mem} {p : Int32} (hG : sp_Ok Ω) {o1 : Nat} (ho1 : sp_room o1) {a2 : Int32} {a3 : Int32} (h : fX1_nextCaller F M0 o1 a2 a3 = some p) (hQ : Q (some (.int p)) M0) : sp_Mt g Ω mX1_nextCaller 0 0 [.ref 77, .ref o1, .int a2, .int a3] M0 Q := by
  unfold fX1_nextCaller at h
  refine sp_Mt.of [some (.ref 77), some (.ref o1), some (.int a2), some (.int a3), none, none, none] (by decide) (by simp [sp_ent, Value.category]) rfl ?_
  refine sp_iconst (v := 0) dX1_nextCaller_0 (by decide) ?_
  refine sp_istore [some (.ref 77), some (.ref o1), some (.int a2), some (.int a3), some (.int 0), none, none] dX1_nextCaller_1 (by decide) rfl ?_
  refine sp_weak [true, true, true, true, true, false, false] [some (.ref 77), some (.ref o1), some (.int a2), some (.int a3), some (.int 0), none, none] rfl ?_
  refine tX1_nextCaller_l3 hG ho1 hQ (fun h => ?_) F _ _ _ h
  refine sp_iconst (v := (-1)) dX1_nextCaller_84 (by decide) ?_
  cases h
  exact sp_iret dX1_nextCaller_85 (ty := .int) rfl rfl (fun _ => hQ)
def fX1_findChain_l52 (F : Nat) (o1 : Nat) (kx : Int32 → Int32 → sp_Mem → Option (Int32 × sp_Mem)) : Nat → Int32 → Int32 → Int32 → Int32 → Int32 → sp_Mem → Option (Int32 × sp_Mem)
  | 0, _, _, _, _, _, _ => none
  | n + 1, a2, a3, a4, a5, a6, M =>
  if 5 ≤ a6 then (kx a2 a3 M) else (if a4 = 0 then ((sp_ix 30 ((a3 * 5) + a6)).bind fun j7 => sp_do (sp_setI M 92 j7 (vp_nar .boolean 0)) fun M8 => (fX1_findChain_l52 F o1 kx n) a2 a3 a4 a5 (a6 + 1) M8) else (if (sp_I M o1 8) ≤ a6 then ((sp_ix 30 ((a3 * 5) + a6)).bind fun j10 => sp_do (sp_setI M 92 j10 (vp_nar .boolean 0)) fun M11 => (fX1_findChain_l52 F o1 kx n) a2 a3 a4 a5 (a6 + 1) M11) else ((fX6_comes F M o1 a2 a5 a6).bind fun x12 => (sp_ix 30 ((a3 * 5) + a6)).bind fun j14 => sp_do (sp_setI x12.2 92 j14 (vp_nar .boolean (if x12.1 = 0 then 0 else 1))) fun M15 => (fX1_findChain_l52 F o1 kx n) a2 a3 a4 a5 (a6 + 1) M15)))
def fX1_findChain_j47 (F : Nat) (o1 : Nat) (kb : Int32 → Int32 → sp_Mem → Option (Int32 × sp_Mem)) (kx : sp_Mem → Option (Int32 × sp_Mem)) (a2 : Int32) (a3 : Int32) (a4 : Int32) (s0 : Int32) (M : sp_Mem) : Option (Int32 × sp_Mem) :=
  fX1_findChain_l52 F o1 (fun b17 b18 M16 => (sp_ix 6 b18).bind fun j19 => sp_do (sp_setI M16 93 j19 (-1)) fun M20 => kb b17 (b18 + 1) M20) F a2 a3 a4 s0 0 M
def fX1_findChain_j25 (F : Nat) (o1 : Nat) (kb : Int32 → Int32 → sp_Mem → Option (Int32 × sp_Mem)) (kx : sp_Mem → Option (Int32 × sp_Mem)) (a2 : Int32) (a3 : Int32) (s0 : Int32) (M : sp_Mem) : Option (Int32 × sp_Mem) :=
  if a3 = 5 then ((sp_ix 6 a2).bind fun j21 => fX1_findChain_j47 F o1 kb kx a2 a3 s0 (sp_I M (o1 + 2) j21) M) else ((sp_ix 5 a3).bind fun j4 => fX1_findChain_j47 F o1 kb kx a2 a3 s0 (sp_I M (o1 + 5) j4) M)
def fX1_findChain_j20 (F : Nat) (o1 : Nat) (kb : Int32 → Int32 → sp_Mem → Option (Int32 × sp_Mem)) (kx : sp_Mem → Option (Int32 × sp_Mem)) (a2 : Int32) (a3 : Int32) (M : sp_Mem) : Option (Int32 × sp_Mem) :=
  fX1_findChain_j25 F o1 kb kx a2 a3 1 M
def fX1_findChain_l2 (F : Nat) (o1 : Nat) (kx : sp_Mem → Option (Int32 × sp_Mem)) : Nat → Int32 → Int32 → sp_Mem → Option (Int32 × sp_Mem)
  | 0, _, _, _ => none
  | n + 1, a2, a3, M =>
  if 5 < a3 then (kx M) else (if a3 = 5 then (fX1_findChain_j20 F o1 (fX1_findChain_l2 F o1 kx n) kx a2 a3 M) else (fX1_findChain_j25 F o1 (fX1_findChain_l2 F o1 kx n) kx a2 a3 (if (sp_I M o1 8) ≤ a3 then 0 else 1) M))
def fX1_findChain_l133 (F : Nat) (o1 : Nat) (kx : Int32 → sp_Mem → Option (Int32 × sp_Mem)) : Nat → Int32 → Int32 → sp_Mem → Option (Int32 × sp_Mem)
  | 0, _, _, _ => none
  | n + 1, a3, a4, M =>
  if 5 < a4 then (kx a3 M) else ((sp_ix 6 a4).bind fun j26 => if (sp_I M 93 j26) = (-1) then ((fX1_nextCaller F M o1 a4 a3).bind fun v28 => if v28 = (-1) then ((fX1_findChain_l133 F o1 kx n) a3 (a4 + 1) M) else ((sp_ix 6 a4).bind fun j30 => sp_do (sp_setI M 93 j30 a3) fun M31 => (fX1_findChain_l133 F o1 kx n) a3 (a4 + 1) M31)) else ((fX1_findChain_l133 F o1 kx n) a3 (a4 + 1) M))
def fX1_findChain_l125 (F : Nat) (o1 : Nat) (kx : sp_Mem → Option (Int32 × sp_Mem)) : Nat → Int32 → sp_Mem → Option (Int32 × sp_Mem)
  | 0, _, _ => none
  | n + 1, a3, M =>
  if 5 < a3 then (kx M) else (fX1_findChain_l133 F o1 (fun b33 M32 => (fX1_findChain_l125 F o1 kx n) (b33 + 1) M32) F a3 0 M)
def fX1_findChain (F : Nat) (M : sp_Mem) (o1 : Nat) (a2 : Int32) : Option (Int32 × sp_Mem) :=
  fX1_findChain_l2 F o1 (fun M23 => fX1_findChain_l125 F o1 (fun M34 => some ((sp_I M34 93 5), M34)) F 1 M23) F a2 0 M
set_option maxRecDepth 100000 in
set_option maxHeartbeats 4000000 in
theorem tX1_findChain_l52 {g : sp_G} {Ω : sp_Mem → Prop} {Q : sp_Qt} {F : Nat} {p : (Int32 × sp_Mem)} (hG : sp_Ok Ω) {o1 : Nat} (ho1 : sp_room o1)  {kx : Int32 → Int32 → sp_Mem → Option (Int32 × sp_Mem)} (hQ : Q (some (.int p.1)) p.2) (hx : ∀ (a2 : Int32) (a3 : Int32) (M : sp_Mem), kx a2 a3 M = some p → sp_Wp g Ω mX1_findChain 0 0 110 [some (.ref 77), some (.ref o1), some (.int a2), some (.int a3), none, none, none] [] M Q) : ∀ (n : Nat) (a2 : Int32) (a3 : Int32) (a4 : Int32) (a5 : Int32) (a6 : Int32) (M : sp_Mem), fX1_findChain_l52 F o1 kx n a2 a3 a4 a5 a6 M = some p → sp_Wp g Ω mX1_findChain 0 0 52 [some (.ref 77), some (.ref o1), some (.int a2), some (.int a3), some (.int a4), some (.int a5), some (.int a6)] [] M Q := by
  intro n
  induction n with
  | zero =>
    intro a2 a3 a4 a5 a6 M h
    rw [fX1_findChain_l52] at h
    cases h
  | succ n ih =>
    intro a2 a3 a4 a5 a6 M h
    rw [fX1_findChain_l52] at h
    refine sp_iload dX1_findChain_52 rfl ?_
    refine sp_iconst (v := 5) dX1_findChain_54 (by decide) ?_
    refine sp_icmp_ge (tgt := 110) dX1_findChain_55 (by decide) (fun hc5 => ?_) (fun hc5 => ?_)
    · have h := (if_pos hc5).symm.trans h
      refine sp_weak [true, true, true, true, false, false, false] [some (.ref 77), some (.ref o1), some (.int a2), some (.int a3), none, none, none] rfl ?_
      exact hx _ _ _ h
    · have h := (if_neg hc5).symm.trans h
      refine sp_aload_n dX1_findChain_58 rfl rfl ?_
      refine sp_use (fun ho => ?_)
      have hs := hG.1 _ ho
      refine sp_getR (RX1, TX1, 7) dX1_findChain_59 clX1 (j := 4) (by decide) tw_311 (wsI_77 hs) (Or.inr ⟨_, rfl⟩) (wsP_77_4 hs) ?_
      refine sp_iload_n dX1_findChain_62 rfl rfl ?_
      refine sp_iconst (v := 5) dX1_findChain_63 (by decide) ?_
      refine sp_imul dX1_findChain_64 ?_
      refine sp_iload dX1_findChain_65 rfl ?_
      refine sp_iadd dX1_findChain_67 ?_
      refine sp_iload dX1_findChain_68 rfl ?_
      refine sp_if_eq (tgt := 102) dX1_findChain_70 (by decide) (fun hc6 => ?_) (fun hc6 => ?_)
      · have h := (if_pos hc6).symm.trans h
        refine sp_iconst (v := 0) dX1_findChain_102 (by decide) ?_
        obtain ⟨j7, hj7, h⟩ := Option.bind_eq_some_iff.mp h
        obtain ⟨M8, hM8, h⟩ := sp_do_e h
        refine sp_zast2 (j := j7) hG dX1_findChain_103 (wsA_92 hs) (wsN_92 hs) hj7 hM8 ?_
        refine sp_iinc (v := (a6 + 1)) [some (.ref 77), some (.ref o1), some (.int a2), some (.int a3), some (.int a4), some (.int a5), some (.int (a6 + 1))] dX1_findChain_104 rfl rfl (by decide) rfl ?_
        refine sp_goto (tgt := 52) dX1_findChain_107 (by decide) ?_
        refine sp_weak [true, true, true, true, true, true, true] [some (.ref 77), some (.ref o1), some (.int a2), some (.int a3), some (.int a4), some (.int a5), some (.int (a6 + 1))] rfl ?_
        exact ih _ _ _ _ _ _ h
      · have h := (if_neg hc6).symm.trans h
        refine sp_iload dX1_findChain_73 rfl ?_
        refine sp_aload_n dX1_findChain_75 rfl rfl ?_
        refine sp_getI (RX5, TX5, 16) dX1_findChain_76 clX5 (j := 8) (by decide) tw_202 (rmI hs ho1) (Or.inl rfl) ?_
        refine sp_icmp_ge (tgt := 102) dX1_findChain_79 (by decide) (fun hc9 => ?_) (fun hc9 => ?_)
        · have h := (if_pos hc9).symm.trans h
          refine sp_iconst (v := 0) dX1_findChain_102 (by decide) ?_
          obtain ⟨j10, hj10, h⟩ := Option.bind_eq_some_iff.mp h
          obtain ⟨M11, hM11, h⟩ := sp_do_e h
          refine sp_zast2 (j := j10) hG dX1_findChain_103 (wsA_92 hs) (wsN_92 hs) hj10 hM11 ?_
          refine sp_iinc (v := (a6 + 1)) [some (.ref 77), some (.ref o1), some (.int a2), some (.int a3), some (.int a4), some (.int a5), some (.int (a6 + 1))] dX1_findChain_104 rfl rfl (by decide) rfl ?_
          refine sp_goto (tgt := 52) dX1_findChain_107 (by decide) ?_
          refine sp_weak [true, true, true, true, true, true, true] [some (.ref 77), some (.ref o1), some (.int a2), some (.int a3), some (.int a4), some (.int a5), some (.int (a6 + 1))] rfl ?_
          exact ih _ _ _ _ _ _ h
        · have h := (if_neg hc9).symm.trans h
          refine sp_aload_n dX1_findChain_82 rfl rfl ?_
          refine sp_getR (RX1, TX1, 7) dX1_findChain_83 clX1 (j := 0) (by decide) tw_307 (wsI_77 hs) (Or.inl ⟨_, rfl⟩) (wsP_77_0 hs) ?_
          refine sp_aload_n dX1_findChain_86 rfl rfl ?_
          refine sp_iload_n dX1_findChain_87 rfl rfl ?_
          refine sp_iload dX1_findChain_88 rfl ?_
          refine sp_iload dX1_findChain_90 rfl ?_
          obtain ⟨x12, hx12, h⟩ := Option.bind_eq_some_iff.mp h
          refine sp_cV (M1 := x12.2) (r := some (.int x12.1)) (o := 1) (st := [.int ((a3 * 5) + a6), .ref 92]) (c := 5) (RX6, TX6, 2) [.ref o1, .int a2, .int a5, .int a6] [.int a6, .int a5, .int a2, .ref o1, .ref 1, .int ((a3 * 5) + a6), .ref 92] [.int x12.1, .int ((a3 * 5) + a6), .ref 92] dX1_findChain_92 okX6_comes tw_1016 tw_593 tw_594 (by decide) (by decide) rfl (Nat.le_of_ble_eq_true rfl) rfl rfl rfl rfl (wsI_1 hs) (fun Q hQ => tX6_comes hG ho1 hx12 hQ) ?_
          suffices hj : sp_Wp g Ω mX1_findChain 0 0 103 [some (.ref 77), some (.ref o1), some (.int a2), some (.int a3), some (.int a4), some (.int a5), some (.int a6)] [.int (if x12.1 = 0 then 0 else 1), .int ((a3 * 5) + a6), .ref 92] x12.2 Q by
            refine sp_if_eq (tgt := 102) dX1_findChain_95 (by decide) (fun hc13 => ?_) (fun hc13 => ?_)
            · refine sp_iconst (v := 0) dX1_findChain_102 (by decide) ?_
              simp only [if_pos hc13] at hj
              exact hj
            · refine sp_iconst (v := 1) dX1_findChain_98 (by decide) ?_
              refine sp_goto (tgt := 103) dX1_findChain_99 (by decide) ?_
              simp only [if_neg hc13] at hj
              exact hj
          refine sp_use (fun ho => ?_)
          have hs := hG.1 _ ho
          obtain ⟨j14, hj14, h⟩ := Option.bind_eq_some_iff.mp h
          obtain ⟨M15, hM15, h⟩ := sp_do_e h
          refine sp_zast2 (j := j14) hG dX1_findChain_103 (wsA_92 hs) (wsN_92 hs) hj14 hM15 ?_
          refine sp_iinc (v := (a6 + 1)) [some (.ref 77), some (.ref o1), some (.int a2), some (.int a3), some (.int a4), some (.int a5), some (.int (a6 + 1))] dX1_findChain_104 rfl rfl (by decide) rfl ?_
          refine sp_goto (tgt := 52) dX1_findChain_107 (by decide) ?_
          refine sp_weak [true, true, true, true, true, true, true] [some (.ref 77), some (.ref o1), some (.int a2), some (.int a3), some (.int a4), some (.int a5), some (.int (a6 + 1))] rfl ?_
          exact ih _ _ _ _ _ _ h
set_option maxRecDepth 100000 in
set_option maxHeartbeats 4000000 in
theorem tX1_findChain_j47 {g : sp_G} {Ω : sp_Mem → Prop} {Q : sp_Qt} {F : Nat} {p : (Int32 × sp_Mem)} (hG : sp_Ok Ω) {o1 : Nat} (ho1 : sp_room o1)  {kb : Int32 → Int32 → sp_Mem → Option (Int32 × sp_Mem)} {kx : sp_Mem → Option (Int32 × sp_Mem)} (hQ : Q (some (.int p.1)) p.2) (hb : ∀ (a2 : Int32) (a3 : Int32) (M : sp_Mem), kb a2 a3 M = some p → sp_Wp g Ω mX1_findChain 0 0 2 [some (.ref 77), some (.ref o1), some (.int a2), some (.int a3), none, none, none] [] M Q) (hx : ∀  (M : sp_Mem), kx M = some p → sp_Wp g Ω mX1_findChain 0 0 123 [some (.ref 77), some (.ref o1), none, none, none, none, none] [] M Q) (a2 : Int32) (a3 : Int32) (a4 : Int32) (s0 : Int32) (M : sp_Mem) (h : fX1_findChain_j47 F o1 kb kx a2 a3 a4 s0 M = some p) : sp_Wp g Ω mX1_findChain 0 0 47 [some (.ref 77), some (.ref o1), some (.int a2), some (.int a3), some (.int a4), none, none] [.int s0] M Q := by
  unfold fX1_findChain_j47 at h
  refine sp_istore [some (.ref 77), some (.ref o1), some (.int a2), some (.int a3), some (.int a4), some (.int s0), none] dX1_findChain_47 (by decide) rfl ?_
  refine sp_iconst (v := 0) dX1_findChain_49 (by decide) ?_
  refine sp_istore [some (.ref 77), some (.ref o1), some (.int a2), some (.int a3), some (.int a4), some (.int s0), some (.int 0)] dX1_findChain_50 (by decide) rfl ?_
  refine sp_weak [true, true, true, true, true, true, true] [some (.ref 77), some (.ref o1), some (.int a2), some (.int a3), some (.int a4), some (.int s0), some (.int 0)] rfl ?_
  refine tX1_findChain_l52 hG ho1 hQ (fun b17 b18 M16 h => ?_) F _ _ _ _ _ _ h
  refine sp_aload_n dX1_findChain_110 rfl rfl ?_
  refine sp_use (fun ho => ?_)
  have hs := hG.1 _ ho
  refine sp_getR (RX1, TX1, 7) dX1_findChain_111 clX1 (j := 5) (by decide) tw_312 (wsI_77 hs) (Or.inr ⟨_, rfl⟩) (wsP_77_5 hs) ?_
  refine sp_iload_n dX1_findChain_114 rfl rfl ?_
  refine sp_iconst (v := (-1)) dX1_findChain_115 (by decide) ?_
  obtain ⟨j19, hj19, h⟩ := Option.bind_eq_some_iff.mp h
  obtain ⟨M20, hM20, h⟩ := sp_do_e h
  refine sp_iast2 (j := j19) hG dX1_findChain_116 (wsA_93 hs) (wsN_93 hs) hj19 hM20 ?_
  refine sp_iinc (v := (b18 + 1)) [some (.ref 77), some (.ref o1), some (.int b17), some (.int (b18 + 1)), none, none, none] dX1_findChain_117 rfl rfl (by decide) rfl ?_
  refine sp_goto (tgt := 2) dX1_findChain_120 (by decide) ?_
  refine sp_weak [true, true, true, true, false, false, false] [some (.ref 77), some (.ref o1), some (.int b17), some (.int (b18 + 1)), none, none, none] rfl ?_
  exact hb _ _ _ h
set_option maxRecDepth 100000 in
set_option maxHeartbeats 4000000 in
theorem tX1_findChain_j25 {g : sp_G} {Ω : sp_Mem → Prop} {Q : sp_Qt} {F : Nat} {p : (Int32 × sp_Mem)} (hG : sp_Ok Ω) {o1 : Nat} (ho1 : sp_room o1)  {kb : Int32 → Int32 → sp_Mem → Option (Int32 × sp_Mem)} {kx : sp_Mem → Option (Int32 × sp_Mem)} (hQ : Q (some (.int p.1)) p.2) (hb : ∀ (a2 : Int32) (a3 : Int32) (M : sp_Mem), kb a2 a3 M = some p → sp_Wp g Ω mX1_findChain 0 0 2 [some (.ref 77), some (.ref o1), some (.int a2), some (.int a3), none, none, none] [] M Q) (hx : ∀  (M : sp_Mem), kx M = some p → sp_Wp g Ω mX1_findChain 0 0 123 [some (.ref 77), some (.ref o1), none, none, none, none, none] [] M Q) (a2 : Int32) (a3 : Int32) (s0 : Int32) (M : sp_Mem) (h : fX1_findChain_j25 F o1 kb kx a2 a3 s0 M = some p) : sp_Wp g Ω mX1_findChain 0 0 25 [some (.ref 77), some (.ref o1), some (.int a2), some (.int a3), none, none, none] [.int s0] M Q := by
  unfold fX1_findChain_j25 at h
  refine sp_istore [some (.ref 77), some (.ref o1), some (.int a2), some (.int a3), some (.int s0), none, none] dX1_findChain_25 (by decide) rfl ?_
  refine sp_iload_n dX1_findChain_27 rfl rfl ?_
  refine sp_iconst (v := 5) dX1_findChain_28 (by decide) ?_
  refine sp_icmp_ne (tgt := 41) dX1_findChain_29 (by decide) (fun hc3 => ?_) (fun hc3 => ?_)
  · have h := (if_neg hc3).symm.trans h
    refine sp_aload_n dX1_findChain_41 rfl rfl ?_
    refine sp_use (fun ho => ?_)
    have hs := hG.1 _ ho
    refine sp_getR (RX5, TX5, 16) dX1_findChain_42 clX5 (j := 5) (by decide) tw_189 (rmI hs ho1) (Or.inr ⟨_, rfl⟩) (rmP_5 hs ho1) ?_
    refine sp_iload_n dX1_findChain_45 rfl rfl ?_
    obtain ⟨j4, hj4, h⟩ := Option.bind_eq_some_iff.mp h
    refine sp_iald2 (j := j4) dX1_findChain_46 (rmA_5 hs ho1) (rmN_5 hs ho1) hj4 ?_
    refine sp_weak [true, true, true, true, true, false, false] [some (.ref 77), some (.ref o1), some (.int a2), some (.int a3), some (.int s0), none, none] rfl ?_
    exact tX1_findChain_j47 hG ho1 hQ hb hx _ _ _ _ _ h
  · have h := (if_pos hc3).symm.trans h
    refine sp_aload_n dX1_findChain_32 rfl rfl ?_
    refine sp_use (fun ho => ?_)
    have hs := hG.1 _ ho
    refine sp_getR (RX5, TX5, 16) dX1_findChain_33 clX5 (j := 1) (by decide) tw_171 (rmI hs ho1) (Or.inr ⟨_, rfl⟩) (rmP_1 hs ho1) ?_
    refine sp_iload_n dX1_findChain_36 rfl rfl ?_
    obtain ⟨j21, hj21, h⟩ := Option.bind_eq_some_iff.mp h
    refine sp_iald2 (j := j21) dX1_findChain_37 (rmA_2 hs ho1) (rmN_2 hs ho1) hj21 ?_
    refine sp_goto (tgt := 47) dX1_findChain_38 (by decide) ?_
    refine sp_weak [true, true, true, true, true, false, false] [some (.ref 77), some (.ref o1), some (.int a2), some (.int a3), some (.int s0), none, none] rfl ?_
    exact tX1_findChain_j47 hG ho1 hQ hb hx _ _ _ _ _ h
set_option maxRecDepth 100000 in
set_option maxHeartbeats 4000000 in
theorem tX1_findChain_j20 {g : sp_G} {Ω : sp_Mem → Prop} {Q : sp_Qt} {F : Nat} {p : (Int32 × sp_Mem)} (hG : sp_Ok Ω) {o1 : Nat} (ho1 : sp_room o1)  {kb : Int32 → Int32 → sp_Mem → Option (Int32 × sp_Mem)} {kx : sp_Mem → Option (Int32 × sp_Mem)} (hQ : Q (some (.int p.1)) p.2) (hb : ∀ (a2 : Int32) (a3 : Int32) (M : sp_Mem), kb a2 a3 M = some p → sp_Wp g Ω mX1_findChain 0 0 2 [some (.ref 77), some (.ref o1), some (.int a2), some (.int a3), none, none, none] [] M Q) (hx : ∀  (M : sp_Mem), kx M = some p → sp_Wp g Ω mX1_findChain 0 0 123 [some (.ref 77), some (.ref o1), none, none, none, none, none] [] M Q) (a2 : Int32) (a3 : Int32) (M : sp_Mem) (h : fX1_findChain_j20 F o1 kb kx a2 a3 M = some p) : sp_Wp g Ω mX1_findChain 0 0 20 [some (.ref 77), some (.ref o1), some (.int a2), some (.int a3), none, none, none] [] M Q := by
  unfold fX1_findChain_j20 at h
  refine sp_iconst (v := 1) dX1_findChain_20 (by decide) ?_
  refine sp_goto (tgt := 25) dX1_findChain_21 (by decide) ?_
  refine sp_weak [true, true, true, true, false, false, false] [some (.ref 77), some (.ref o1), some (.int a2), some (.int a3), none, none, none] rfl ?_
  exact tX1_findChain_j25 hG ho1 hQ hb hx _ _ _ _ h
set_option maxRecDepth 100000 in
set_option maxHeartbeats 4000000 in
theorem tX1_findChain_l2 {g : sp_G} {Ω : sp_Mem → Prop} {Q : sp_Qt} {F : Nat} {p : (Int32 × sp_Mem)} (hG : sp_Ok Ω) {o1 : Nat} (ho1 : sp_room o1)  {kx : sp_Mem → Option (Int32 × sp_Mem)} (hQ : Q (some (.int p.1)) p.2) (hx : ∀  (M : sp_Mem), kx M = some p → sp_Wp g Ω mX1_findChain 0 0 123 [some (.ref 77), some (.ref o1), none, none, none, none, none] [] M Q) : ∀ (n : Nat) (a2 : Int32) (a3 : Int32) (M : sp_Mem), fX1_findChain_l2 F o1 kx n a2 a3 M = some p → sp_Wp g Ω mX1_findChain 0 0 2 [some (.ref 77), some (.ref o1), some (.int a2), some (.int a3), none, none, none] [] M Q := by
  intro n
  induction n with
  | zero =>
    intro a2 a3 M h
    rw [fX1_findChain_l2] at h
    cases h
  | succ n ih =>
    intro a2 a3 M h
    rw [fX1_findChain_l2] at h
    refine sp_iload_n dX1_findChain_2 rfl rfl ?_
    refine sp_iconst (v := 5) dX1_findChain_3 (by decide) ?_
    refine sp_icmp_gt (tgt := 123) dX1_findChain_4 (by decide) (fun hc1 => ?_) (fun hc1 => ?_)
    · have h := (if_pos hc1).symm.trans h
      refine sp_weak [true, true, false, false, false, false, false] [some (.ref 77), some (.ref o1), none, none, none, none, none] rfl ?_
      exact hx _ h
    · have h := (if_neg hc1).symm.trans h
      refine sp_iload_n dX1_findChain_7 rfl rfl ?_
      refine sp_iconst (v := 5) dX1_findChain_8 (by decide) ?_
      refine sp_icmp_eq (tgt := 20) dX1_findChain_9 (by decide) (fun hc2 => ?_) (fun hc2 => ?_)
      · have h := (if_pos hc2).symm.trans h
        refine sp_weak [true, true, true, true, false, false, false] [some (.ref 77), some (.ref o1), some (.int a2), some (.int a3), none, none, none] rfl ?_
        exact tX1_findChain_j20 hG ho1 hQ ih hx _ _ _ h
      · have h := (if_neg hc2).symm.trans h
        refine sp_iload_n dX1_findChain_12 rfl rfl ?_
        refine sp_aload_n dX1_findChain_13 rfl rfl ?_
        refine sp_use (fun ho => ?_)
        have hs := hG.1 _ ho
        refine sp_getI (RX5, TX5, 16) dX1_findChain_14 clX5 (j := 8) (by decide) tw_202 (rmI hs ho1) (Or.inl rfl) ?_
        suffices hj : sp_Wp g Ω mX1_findChain 0 0 25 [some (.ref 77), some (.ref o1), some (.int a2), some (.int a3), none, none, none] [.int (if (sp_I M o1 8) ≤ a3 then 0 else 1)] M Q by
          refine sp_icmp_ge (tgt := 24) dX1_findChain_17 (by decide) (fun hc22 => ?_) (fun hc22 => ?_)
          · refine sp_iconst (v := 0) dX1_findChain_24 (by decide) ?_
            simp only [if_pos hc22] at hj
            exact hj
          · refine sp_iconst (v := 1) dX1_findChain_20 (by decide) ?_
            refine sp_goto (tgt := 25) dX1_findChain_21 (by decide) ?_
            simp only [if_neg hc22] at hj
            exact hj
        refine sp_weak [true, true, true, true, false, false, false] [some (.ref 77), some (.ref o1), some (.int a2), some (.int a3), none, none, none] rfl ?_
        exact tX1_findChain_j25 hG ho1 hQ ih hx _ _ _ _ h
set_option maxRecDepth 100000 in
set_option maxHeartbeats 4000000 in
theorem tX1_findChain_l133 {g : sp_G} {Ω : sp_Mem → Prop} {Q : sp_Qt} {F : Nat} {p : (Int32 × sp_Mem)} (hG : sp_Ok Ω) {o1 : Nat} (ho1 : sp_room o1)  {kx : Int32 → sp_Mem → Option (Int32 × sp_Mem)} (hQ : Q (some (.int p.1)) p.2) (hx : ∀ (a3 : Int32) (M : sp_Mem), kx a3 M = some p → sp_Wp g Ω mX1_findChain 0 0 176 [some (.ref 77), some (.ref o1), none, some (.int a3), none, none, none] [] M Q) : ∀ (n : Nat) (a3 : Int32) (a4 : Int32) (M : sp_Mem), fX1_findChain_l133 F o1 kx n a3 a4 M = some p → sp_Wp g Ω mX1_findChain 0 0 133 [some (.ref 77), some (.ref o1), none, some (.int a3), some (.int a4), none, none] [] M Q := by
  intro n
  induction n with
  | zero =>
    intro a3 a4 M h
    rw [fX1_findChain_l133] at h
    cases h
  | succ n ih =>
    intro a3 a4 M h
    rw [fX1_findChain_l133] at h
    refine sp_iload dX1_findChain_133 rfl ?_
    refine sp_iconst (v := 5) dX1_findChain_135 (by decide) ?_
    refine sp_icmp_gt (tgt := 176) dX1_findChain_136 (by decide) (fun hc25 => ?_) (fun hc25 => ?_)
    · have h := (if_pos hc25).symm.trans h
      refine sp_weak [true, true, false, true, false, false, false] [some (.ref 77), some (.ref o1), none, some (.int a3), none, none, none] rfl ?_
      exact hx _ _ h
    · have h := (if_neg hc25).symm.trans h
      refine sp_aload_n dX1_findChain_139 rfl rfl ?_
      refine sp_use (fun ho => ?_)
      have hs := hG.1 _ ho
      refine sp_getR (RX1, TX1, 7) dX1_findChain_140 clX1 (j := 5) (by decide) tw_312 (wsI_77 hs) (Or.inr ⟨_, rfl⟩) (wsP_77_5 hs) ?_
      refine sp_iload dX1_findChain_143 rfl ?_
      obtain ⟨j26, hj26, h⟩ := Option.bind_eq_some_iff.mp h
      refine sp_iald2 (j := j26) dX1_findChain_145 (wsA_93 hs) (wsN_93 hs) hj26 ?_
      refine sp_iconst (v := (-1)) dX1_findChain_146 (by decide) ?_
      refine sp_icmp_ne (tgt := 170) dX1_findChain_147 (by decide) (fun hc27 => ?_) (fun hc27 => ?_)
      · have h := (if_neg hc27).symm.trans h
        refine sp_iinc (v := (a4 + 1)) [some (.ref 77), some (.ref o1), none, some (.int a3), some (.int (a4 + 1)), none, none] dX1_findChain_170 rfl rfl (by decide) rfl ?_
        refine sp_goto (tgt := 133) dX1_findChain_173 (by decide) ?_
        refine sp_weak [true, true, false, true, true, false, false] [some (.ref 77), some (.ref o1), none, some (.int a3), some (.int (a4 + 1)), none, none] rfl ?_
        exact ih _ _ _ h
      · have h := (if_pos hc27).symm.trans h
        refine sp_aload_n dX1_findChain_150 rfl rfl ?_
        refine sp_aload_n dX1_findChain_151 rfl rfl ?_
        refine sp_iload dX1_findChain_152 rfl ?_
        refine sp_iload_n dX1_findChain_154 rfl rfl ?_
        obtain ⟨v28, hv28, h⟩ := Option.bind_eq_some_iff.mp h
        refine sp_cV (M1 := M) (r := some (.int v28)) (o := 77) (st := []) (c := 1) (RX1, TX1, 7) [.ref o1, .int a4, .int a3] [.int a3, .int a4, .ref o1, .ref 77] [.int v28] dX1_findChain_155 okX1_nextCaller tw_1017 tw_1019 tw_24 (by decide) (by decide) rfl (Nat.le_of_ble_eq_true rfl) rfl rfl rfl rfl (wsI_77 hs) (fun Q hQ => tX1_nextCaller hG ho1 hv28 hQ) ?_
        refine sp_iconst (v := (-1)) dX1_findChain_158 (by decide) ?_
        refine sp_icmp_eq (tgt := 170) dX1_findChain_159 (by decide) (fun hc29 => ?_) (fun hc29 => ?_)
        · have h := (if_pos hc29).symm.trans h
          refine sp_iinc (v := (a4 + 1)) [some (.ref 77), some (.ref o1), none, some (.int a3), some (.int (a4 + 1)), none, none] dX1_findChain_170 rfl rfl (by decide) rfl ?_
          refine sp_goto (tgt := 133) dX1_findChain_173 (by decide) ?_
          refine sp_weak [true, true, false, true, true, false, false] [some (.ref 77), some (.ref o1), none, some (.int a3), some (.int (a4 + 1)), none, none] rfl ?_
          exact ih _ _ _ h
        · have h := (if_neg hc29).symm.trans h
          refine sp_aload_n dX1_findChain_162 rfl rfl ?_
          refine sp_getR (RX1, TX1, 7) dX1_findChain_163 clX1 (j := 5) (by decide) tw_312 (wsI_77 hs) (Or.inr ⟨_, rfl⟩) (wsP_77_5 hs) ?_
          refine sp_iload dX1_findChain_166 rfl ?_
          refine sp_iload_n dX1_findChain_168 rfl rfl ?_
          obtain ⟨j30, hj30, h⟩ := Option.bind_eq_some_iff.mp h
          obtain ⟨M31, hM31, h⟩ := sp_do_e h
          refine sp_iast2 (j := j30) hG dX1_findChain_169 (wsA_93 hs) (wsN_93 hs) hj30 hM31 ?_
          refine sp_iinc (v := (a4 + 1)) [some (.ref 77), some (.ref o1), none, some (.int a3), some (.int (a4 + 1)), none, none] dX1_findChain_170 rfl rfl (by decide) rfl ?_
          refine sp_goto (tgt := 133) dX1_findChain_173 (by decide) ?_
          refine sp_weak [true, true, false, true, true, false, false] [some (.ref 77), some (.ref o1), none, some (.int a3), some (.int (a4 + 1)), none, none] rfl ?_
          exact ih _ _ _ h
set_option maxRecDepth 100000 in
set_option maxHeartbeats 4000000 in
theorem tX1_findChain_l125 {g : sp_G} {Ω : sp_Mem → Prop} {Q : sp_Qt} {F : Nat} {p : (Int32 × sp_Mem)} (hG : sp_Ok Ω) {o1 : Nat} (ho1 : sp_room o1)  {kx : sp_Mem → Option (Int32 × sp_Mem)} (hQ : Q (some (.int p.1)) p.2) (hx : ∀  (M : sp_Mem), kx M = some p → sp_Wp g Ω mX1_findChain 0 0 182 [some (.ref 77), none, none, none, none, none, none] [] M Q) : ∀ (n : Nat) (a3 : Int32) (M : sp_Mem), fX1_findChain_l125 F o1 kx n a3 M = some p → sp_Wp g Ω mX1_findChain 0 0 125 [some (.ref 77), some (.ref o1), none, some (.int a3), none, none, none] [] M Q := by
  intro n
  induction n with
  | zero =>
    intro a3 M h
    rw [fX1_findChain_l125] at h
    cases h
  | succ n ih =>
    intro a3 M h
    rw [fX1_findChain_l125] at h
    refine sp_iload_n dX1_findChain_125 rfl rfl ?_
    refine sp_iconst (v := 5) dX1_findChain_126 (by decide) ?_
    refine sp_icmp_gt (tgt := 182) dX1_findChain_127 (by decide) (fun hc24 => ?_) (fun hc24 => ?_)
    · have h := (if_pos hc24).symm.trans h
      refine sp_weak [true, false, false, false, false, false, false] [some (.ref 77), none, none, none, none, none, none] rfl ?_
      exact hx _ h
    · have h := (if_neg hc24).symm.trans h
      refine sp_iconst (v := 0) dX1_findChain_130 (by decide) ?_
      refine sp_istore [some (.ref 77), some (.ref o1), none, some (.int a3), some (.int 0), none, none] dX1_findChain_131 (by decide) rfl ?_
      refine sp_weak [true, true, false, true, true, false, false] [some (.ref 77), some (.ref o1), none, some (.int a3), some (.int 0), none, none] rfl ?_
      refine tX1_findChain_l133 hG ho1 hQ (fun b33 M32 h => ?_) F _ _ _ h
      refine sp_iinc (v := (b33 + 1)) [some (.ref 77), some (.ref o1), none, some (.int (b33 + 1)), none, none, none] dX1_findChain_176 rfl rfl (by decide) rfl ?_
      refine sp_goto (tgt := 125) dX1_findChain_179 (by decide) ?_
      refine sp_weak [true, true, false, true, false, false, false] [some (.ref 77), some (.ref o1), none, some (.int (b33 + 1)), none, none, none] rfl ?_
      exact ih _ _ h
set_option maxRecDepth 100000 in
set_option maxHeartbeats 4000000 in
theorem tX1_findChain {g : sp_G} {Ω : sp_Mem → Prop} {Q : sp_Qt} {F : Nat} {p : (Int32 × sp_Mem)} (hG : sp_Ok Ω) {o1 : Nat} (ho1 : sp_room o1) {M : sp_Mem} {a2 : Int32} (h : fX1_findChain F M o1 a2 = some p) (hQ : Q (some (.int p.1)) p.2) : sp_Mt g Ω mX1_findChain 0 0 [.ref 77, .ref o1, .int a2] M Q := by
  unfold fX1_findChain at h
  refine sp_Mt.of [some (.ref 77), some (.ref o1), some (.int a2), none, none, none, none] (by decide) (by simp [sp_ent, Value.category]) rfl ?_
  refine sp_iconst (v := 0) dX1_findChain_0 (by decide) ?_
  refine sp_istore_n [some (.ref 77), some (.ref o1), some (.int a2), some (.int 0), none, none, none] dX1_findChain_1 rfl (by decide) rfl ?_
  refine sp_weak [true, true, true, true, false, false, false] [some (.ref 77), some (.ref o1), some (.int a2), some (.int 0), none, none, none] rfl ?_
  refine tX1_findChain_l2 hG ho1 hQ (fun M23 h => ?_) F _ _ _ h
  refine sp_iconst (v := 1) dX1_findChain_123 (by decide) ?_
  refine sp_istore_n [some (.ref 77), some (.ref o1), none, some (.int 1), none, none, none] dX1_findChain_124 rfl (by decide) rfl ?_
  refine sp_weak [true, true, false, true, false, false, false] [some (.ref 77), some (.ref o1), none, some (.int 1), none, none, none] rfl ?_
  refine tX1_findChain_l125 hG ho1 hQ (fun M34 h => ?_) F _ _ h
  refine sp_aload_n dX1_findChain_182 rfl rfl ?_
  refine sp_use (fun ho => ?_)
  have hs := hG.1 _ ho
  refine sp_getR (RX1, TX1, 7) dX1_findChain_183 clX1 (j := 5) (by decide) tw_312 (wsI_77 hs) (Or.inr ⟨_, rfl⟩) (wsP_77_5 hs) ?_
  refine sp_iconst (v := 5) dX1_findChain_186 (by decide) ?_
  refine sp_iald2 (j := 5) dX1_findChain_187 (wsA_93 hs) (wsN_93 hs) rfl ?_
  cases h
  exact sp_iret dX1_findChain_188 (ty := .int) rfl rfl (fun _ => hQ)
def fX1_callerInChain_l5 (F : Nat) (M0 : sp_Mem) (o1 : Nat) (kx : Int32 → Option Int32) : Nat → Int32 → Int32 → Int32 → Option Int32
  | 0, _, _, _ => none
  | n + 1, a2, a3, a4 =>
  if a2 < a4 then (kx a3) else (if a3 = (-1) then (kx a3) else ((sp_ix 6 a3).bind fun j3 => (fX1_nextCaller F M0 o1 a3 (sp_I M0 93 j3)).bind fun v4 => (fX1_callerInChain_l5 F M0 o1 kx n) a2 v4 (a4 + 1)))
def fX1_callerInChain (F : Nat) (M0 : sp_Mem) (o1 : Nat) (a2 : Int32) : Option Int32 :=
  fX1_callerInChain_l5 F M0 o1 (fun b6 => some b6) F a2 5 0
set_option maxRecDepth 100000 in
set_option maxHeartbeats 4000000 in
theorem tX1_callerInChain_l5 {g : sp_G} {Ω : sp_Mem → Prop} {Q : sp_Qt} {F : Nat} {M0 : sp_Mem} {p : Int32} (hG : sp_Ok Ω) {o1 : Nat} (ho1 : sp_room o1)  {kx : Int32 → Option Int32} (hQ : Q (some (.int p)) M0) (hx : ∀ (a3 : Int32), kx a3 = some p → sp_Wp g Ω mX1_callerInChain 0 0 35 [none, none, none, some (.int a3), none] [] M0 Q) : ∀ (n : Nat) (a2 : Int32) (a3 : Int32) (a4 : Int32), fX1_callerInChain_l5 F M0 o1 kx n a2 a3 a4 = some p → sp_Wp g Ω mX1_callerInChain 0 0 5 [some (.ref 77), some (.ref o1), some (.int a2), some (.int a3), some (.int a4)] [] M0 Q := by
  intro n
  induction n with
  | zero =>
    intro a2 a3 a4 h
    rw [fX1_callerInChain_l5] at h
    cases h
  | succ n ih =>
    intro a2 a3 a4 h
    rw [fX1_callerInChain_l5] at h
    refine sp_iload dX1_callerInChain_5 rfl ?_
    refine sp_iload_n dX1_callerInChain_7 rfl rfl ?_
    refine sp_icmp_gt (tgt := 35) dX1_callerInChain_8 (by decide) (fun hc1 => ?_) (fun hc1 => ?_)
    · have h := (if_pos hc1).symm.trans h
      refine sp_weak [false, false, false, true, false] [none, none, none, some (.int a3), none] rfl ?_
      exact hx _ h
    · have h := (if_neg hc1).symm.trans h
      refine sp_iload_n dX1_callerInChain_11 rfl rfl ?_
      refine sp_iconst (v := (-1)) dX1_callerInChain_12 (by decide) ?_
      refine sp_icmp_eq (tgt := 35) dX1_callerInChain_13 (by decide) (fun hc2 => ?_) (fun hc2 => ?_)
      · have h := (if_pos hc2).symm.trans h
        refine sp_weak [false, false, false, true, false] [none, none, none, some (.int a3), none] rfl ?_
        exact hx _ h
      · have h := (if_neg hc2).symm.trans h
        refine sp_aload_n dX1_callerInChain_16 rfl rfl ?_
        refine sp_aload_n dX1_callerInChain_17 rfl rfl ?_
        refine sp_iload_n dX1_callerInChain_18 rfl rfl ?_
        refine sp_aload_n dX1_callerInChain_19 rfl rfl ?_
        refine sp_use (fun ho => ?_)
        have hs := hG.1 _ ho
        refine sp_getR (RX1, TX1, 7) dX1_callerInChain_20 clX1 (j := 5) (by decide) tw_312 (wsI_77 hs) (Or.inr ⟨_, rfl⟩) (wsP_77_5 hs) ?_
        refine sp_iload_n dX1_callerInChain_23 rfl rfl ?_
        obtain ⟨j3, hj3, h⟩ := Option.bind_eq_some_iff.mp h
        refine sp_iald2 (j := j3) dX1_callerInChain_24 (wsA_93 hs) (wsN_93 hs) hj3 ?_
        obtain ⟨v4, hv4, h⟩ := Option.bind_eq_some_iff.mp h
        refine sp_cV (M1 := M0) (r := some (.int v4)) (o := 77) (st := []) (c := 1) (RX1, TX1, 7) [.ref o1, .int a3, .int (sp_I M0 93 j3)] [.int (sp_I M0 93 j3), .int a3, .ref o1, .ref 77] [.int v4] dX1_callerInChain_25 okX1_nextCaller tw_1017 tw_1019 tw_24 (by decide) (by decide) rfl (Nat.le_of_ble_eq_true rfl) rfl rfl rfl rfl (wsI_77 hs) (fun Q hQ => tX1_nextCaller hG ho1 hv4 hQ) ?_
        refine sp_istore_n [some (.ref 77), some (.ref o1), some (.int a2), some (.int v4), some (.int a4)] dX1_callerInChain_28 rfl (by decide) rfl ?_
        refine sp_iinc (v := (a4 + 1)) [some (.ref 77), some (.ref o1), some (.int a2), some (.int v4), some (.int (a4 + 1))] dX1_callerInChain_29 rfl rfl (by decide) rfl ?_
        refine sp_goto (tgt := 5) dX1_callerInChain_32 (by decide) ?_
        refine sp_weak [true, true, true, true, true] [some (.ref 77), some (.ref o1), some (.int a2), some (.int v4), some (.int (a4 + 1))] rfl ?_
        exact ih _ _ _ h
set_option maxRecDepth 100000 in
set_option maxHeartbeats 4000000 in
theorem tX1_callerInChain {g : sp_G} {Ω : sp_Mem → Prop} {Q : sp_Qt} {F : Nat} {M0 : sp_Mem} {p : Int32} (hG : sp_Ok Ω) {o1 : Nat} (ho1 : sp_room o1) {a2 : Int32} (h : fX1_callerInChain F M0 o1 a2 = some p) (hQ : Q (some (.int p)) M0) : sp_Mt g Ω mX1_callerInChain 0 0 [.ref 77, .ref o1, .int a2] M0 Q := by
  unfold fX1_callerInChain at h
  refine sp_Mt.of [some (.ref 77), some (.ref o1), some (.int a2), none, none] (by decide) (by simp [sp_ent, Value.category]) rfl ?_
  refine sp_iconst (v := 5) dX1_callerInChain_0 (by decide) ?_
  refine sp_istore_n [some (.ref 77), some (.ref o1), some (.int a2), some (.int 5), none] dX1_callerInChain_1 rfl (by decide) rfl ?_
  refine sp_iconst (v := 0) dX1_callerInChain_2 (by decide) ?_
  refine sp_istore [some (.ref 77), some (.ref o1), some (.int a2), some (.int 5), some (.int 0)] dX1_callerInChain_3 (by decide) rfl ?_
  refine sp_weak [true, true, true, true, true] [some (.ref 77), some (.ref o1), some (.int a2), some (.int 5), some (.int 0)] rfl ?_
  refine tX1_callerInChain_l5 hG ho1 hQ (fun b6 h => ?_) F _ _ _ h
  refine sp_iload_n dX1_callerInChain_35 rfl rfl ?_
  cases h
  exact sp_iret dX1_callerInChain_36 (ty := .int) rfl rfl (fun _ => hQ)
