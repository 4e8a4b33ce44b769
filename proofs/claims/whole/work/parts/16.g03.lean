def fX11_inner_l4 (F : Nat) (M0 : sp_Mem) (kx : Int32 → Option Int32) : Nat → Int32 → Int32 → Option Int32
  | 0, _, _ => none
  | n + 1, a1, a2 =>
  if (sp_I M0 103 29) ≤ a2 then (kx a1) else ((sp_ix 400 a2).bind fun j2 => if (sp_I M0 116 j2) < 31 then ((fX11_inner_l4 F M0 kx n) a1 (a2 + 1)) else ((sp_ix 400 a2).bind fun j4 => sp_do ((sp_I M0 116 j4)) fun u5 => (fX11_inner_l4 F M0 kx n) u5 (a2 + 1)))
def fX11_inner (F : Nat) (M0 : sp_Mem) : Option Int32 :=
  fX11_inner_l4 F M0 (fun b7 => some b7) F (-1) 0
set_option maxRecDepth 100000 in
set_option maxHeartbeats 4000000 in
theorem tX11_inner_l4 {g : sp_G} {Ω : sp_Mem → Prop} {Q : sp_Qt} {F : Nat} {M0 : sp_Mem} {p : Int32} (hG : sp_Ok Ω)  {kx : Int32 → Option Int32} (hQ : Q (some (.int p)) M0) (hx : ∀ (a1 : Int32), kx a1 = some p → sp_Wp g Ω mX11_inner 0 0 40 [none, some (.int a1), none] [] M0 Q) : ∀ (n : Nat) (a1 : Int32) (a2 : Int32), fX11_inner_l4 F M0 kx n a1 a2 = some p → sp_Wp g Ω mX11_inner 0 0 4 [some (.ref 103), some (.int a1), some (.int a2)] [] M0 Q := by
  intro n
  induction n with
  | zero =>
    intro a1 a2 h
    rw [fX11_inner_l4] at h
    cases h
  | succ n ih =>
    intro a1 a2 h
    rw [fX11_inner_l4] at h
    refine sp_iload_n dX11_inner_4 rfl rfl ?_
    refine sp_aload_n dX11_inner_5 rfl rfl ?_
    refine sp_use (fun ho => ?_)
    have hs := hG.1 _ ho
    refine sp_getI (RX11, TX11, 56) dX11_inner_6 clX11 (j := 29) (by decide) tw_1244 (wsI_103 hs) (Or.inl rfl) ?_
    refine sp_icmp_ge (tgt := 40) dX11_inner_9 (by decide) (fun hc1 => ?_) (fun hc1 => ?_)
    · have h := (if_pos hc1).symm.trans h
      refine sp_weak [false, true, false] [none, some (.int a1), none] rfl ?_
      exact hx _ h
    · have h := (if_neg hc1).symm.trans h
      refine sp_aload_n dX11_inner_12 rfl rfl ?_
      refine sp_getR (RX11, TX11, 56) dX11_inner_13 clX11 (j := 27) (by decide) tw_1242 (wsI_103 hs) (Or.inr ⟨_, rfl⟩) (wsP_103_27 hs) ?_
      refine sp_iload_n dX11_inner_16 rfl rfl ?_
      obtain ⟨j2, hj2, h⟩ := Option.bind_eq_some_iff.mp h
      refine sp_iald2 (j := j2) dX11_inner_17 (wsA_116 hs) (wsN_116 hs) hj2 ?_
      refine sp_bipush (v := 31) dX11_inner_18 (by decide) ?_
      refine sp_icmp_lt (tgt := 32) dX11_inner_20 (by decide) (fun hc3 => ?_) (fun hc3 => ?_)
      · have h := (if_pos hc3).symm.trans h
        refine sp_iload_n dX11_inner_32 rfl rfl ?_
        refine sp_istore_n [some (.ref 103), some (.int a1), some (.int a2)] dX11_inner_33 rfl (by decide) rfl ?_
        refine sp_iinc (v := (a2 + 1)) [some (.ref 103), some (.int a1), some (.int (a2 + 1))] dX11_inner_34 rfl rfl (by decide) rfl ?_
        refine sp_goto (tgt := 4) dX11_inner_37 (by decide) ?_
        refine sp_weak [true, true, true] [some (.ref 103), some (.int a1), some (.int (a2 + 1))] rfl ?_
        exact ih _ _ h
      · have h := (if_neg hc3).symm.trans h
        refine sp_aload_n dX11_inner_23 rfl rfl ?_
        refine sp_getR (RX11, TX11, 56) dX11_inner_24 clX11 (j := 27) (by decide) tw_1242 (wsI_103 hs) (Or.inr ⟨_, rfl⟩) (wsP_103_27 hs) ?_
        refine sp_iload_n dX11_inner_27 rfl rfl ?_
        obtain ⟨j4, hj4, h⟩ := Option.bind_eq_some_iff.mp h
        refine sp_iald2 (j := j4) dX11_inner_28 (wsA_116 hs) (wsN_116 hs) hj4 ?_
        refine sp_goto (tgt := 33) dX11_inner_29 (by decide) ?_
        obtain ⟨u5, hu5, h⟩ := sp_do_e h
        refine sp_topi hu5 ?_
        refine sp_istore_n [some (.ref 103), some (.int u5), some (.int a2)] dX11_inner_33 rfl (by decide) rfl ?_
        refine sp_iinc (v := (a2 + 1)) [some (.ref 103), some (.int u5), some (.int (a2 + 1))] dX11_inner_34 rfl rfl (by decide) rfl ?_
        refine sp_goto (tgt := 4) dX11_inner_37 (by decide) ?_
        refine sp_weak [true, true, true] [some (.ref 103), some (.int u5), some (.int (a2 + 1))] rfl ?_
        exact ih _ _ h
set_option maxRecDepth 100000 in
set_option maxHeartbeats 4000000 in
theorem tX11_inner {g : sp_G} {Ω : sp_Mem → Prop} {Q : sp_Qt} {F : Nat} {M0 : sp_Mem} {p : Int32} (hG : sp_Ok Ω) (h : fX11_inner F M0 = some p) (hQ : Q (some (.int p)) M0) : sp_Mt g Ω mX11_inner 0 0 [.ref 103] M0 Q := by
  unfold fX11_inner at h
  refine sp_Mt.of [some (.ref 103), none, none] (by decide) (by simp [sp_ent, Value.category]) rfl ?_
  refine sp_iconst (v := (-1)) dX11_inner_0 (by decide) ?_
  refine sp_istore_n [some (.ref 103), some (.int (-1)), none] dX11_inner_1 rfl (by decide) rfl ?_
  refine sp_iconst (v := 0) dX11_inner_2 (by decide) ?_
  refine sp_istore_n [some (.ref 103), some (.int (-1)), some (.int 0)] dX11_inner_3 rfl (by decide) rfl ?_
  refine sp_weak [true, true, true] [some (.ref 103), some (.int (-1)), some (.int 0)] rfl ?_
  refine tX11_inner_l4 hG hQ (fun b7 h => ?_) F _ _ h
  refine sp_iload_n dX11_inner_40 rfl rfl ?_
  cases h
  exact sp_iret dX11_inner_41 (ty := .int) rfl rfl (fun _ => hQ)
def fX11_isCompared_l7 (F : Nat) (M0 : sp_Mem) (kx : Int32 → Option Int32) : Nat → Int32 → Option Int32
  | 0, _ => none
  | n + 1, a1 =>
  if a1 < 0 then (kx a1) else ((sp_ix 400 a1).bind fun j3 => if (fX11_in (Int32.toInt64 (sp_I M0 116 j3)) 20 24) = 0 then (kx a1) else ((fX11_isCompared_l7 F M0 kx n) (a1 + (-1))))
def fX11_isCompared_j36 (F : Nat) (M0 : sp_Mem) (a1 : Int32) : Option Int32 :=
  if a1 < 0 then (some 0) else ((sp_ix 400 a1).bind fun j8 => some (if (fX11_in (Int32.toInt64 (sp_I M0 116 j8)) 25 27) = 0 then 0 else 1))
def fX11_isCompared (F : Nat) (M0 : sp_Mem) : Option Int32 :=
  sp_do (((sp_I M0 103 29) - 1)) fun u1 => fX11_isCompared_l7 F M0 (fun b6 => fX11_isCompared_j36 F M0 b6) F u1
set_option maxRecDepth 100000 in
set_option maxHeartbeats 4000000 in
theorem tX11_isCompared_l7 {g : sp_G} {Ω : sp_Mem → Prop} {Q : sp_Qt} {F : Nat} {M0 : sp_Mem} {p : Int32} (hG : sp_Ok Ω)  {kx : Int32 → Option Int32} (hQ : Q (some (.int p)) M0) (hx : ∀ (a1 : Int32), kx a1 = some p → sp_Wp g Ω mX11_isCompared 0 0 36 [some (.ref 103), some (.int a1)] [] M0 Q) : ∀ (n : Nat) (a1 : Int32), fX11_isCompared_l7 F M0 kx n a1 = some p → sp_Wp g Ω mX11_isCompared 0 0 7 [some (.ref 103), some (.int a1)] [] M0 Q := by
  intro n
  induction n with
  | zero =>
    intro a1 h
    rw [fX11_isCompared_l7] at h
    cases h
  | succ n ih =>
    intro a1 h
    rw [fX11_isCompared_l7] at h
    refine sp_iload_n dX11_isCompared_7 rfl rfl ?_
    refine sp_if_lt (tgt := 36) dX11_isCompared_8 (by decide) (fun hc2 => ?_) (fun hc2 => ?_)
    · have h := (if_pos hc2).symm.trans h
      refine sp_weak [true, true] [some (.ref 103), some (.int a1)] rfl ?_
      exact hx _ h
    · have h := (if_neg hc2).symm.trans h
      refine sp_aload_n dX11_isCompared_11 rfl rfl ?_
      refine sp_use (fun ho => ?_)
      have hs := hG.1 _ ho
      refine sp_getR (RX11, TX11, 56) dX11_isCompared_12 clX11 (j := 27) (by decide) tw_1242 (wsI_103 hs) (Or.inr ⟨_, rfl⟩) (wsP_103_27 hs) ?_
      refine sp_iload_n dX11_isCompared_15 rfl rfl ?_
      obtain ⟨j3, hj3, h⟩ := Option.bind_eq_some_iff.mp h
      refine sp_iald2 (j := j3) dX11_isCompared_16 (wsA_116 hs) (wsN_116 hs) hj3 ?_
      refine sp_i2l dX11_isCompared_17 ?_
      refine sp_ldc2 (v := 20) dX11_isCompared_18 tw_1650 ?_
      refine sp_ldc2 (v := 24) dX11_isCompared_21 tw_1196 ?_
      refine sp_cS (M1 := M0) (r := some (.int (fX11_in (Int32.toInt64 (sp_I M0 116 j3)) 20 24))) (st := []) [.long (Int32.toInt64 (sp_I M0 116 j3)), .long 20, .long 24] [.long 24, .long 20, .long (Int32.toInt64 (sp_I M0 116 j3))] [.int (fX11_in (Int32.toInt64 (sp_I M0 116 j3)) 20 24)] dX11_isCompared_24 okX11_in tw_1400 tw_1401 (by decide) (by decide) rfl (Nat.le_of_ble_eq_true rfl) rfl rfl (fun Q hQ => tX11_in hG rfl hQ) ?_
      refine sp_if_eq (tgt := 36) dX11_isCompared_27 (by decide) (fun hc4 => ?_) (fun hc4 => ?_)
      · have h := (if_pos hc4).symm.trans h
        refine sp_weak [true, true] [some (.ref 103), some (.int a1)] rfl ?_
        exact hx _ h
      · have h := (if_neg hc4).symm.trans h
        refine sp_iinc (v := (a1 + (-1))) [some (.ref 103), some (.int (a1 + (-1)))] dX11_isCompared_30 rfl rfl (by decide) rfl ?_
        refine sp_goto (tgt := 7) dX11_isCompared_33 (by decide) ?_
        refine sp_weak [true, true] [some (.ref 103), some (.int (a1 + (-1)))] rfl ?_
        exact ih _ h
set_option maxRecDepth 100000 in
set_option maxHeartbeats 4000000 in
theorem tX11_isCompared_j36 {g : sp_G} {Ω : sp_Mem → Prop} {Q : sp_Qt} {F : Nat} {M0 : sp_Mem} {p : Int32} (hG : sp_Ok Ω)  (hQ : Q (some (.int p)) M0) (a1 : Int32) (h : fX11_isCompared_j36 F M0 a1 = some p) : sp_Wp g Ω mX11_isCompared 0 0 36 [some (.ref 103), some (.int a1)] [] M0 Q := by
  unfold fX11_isCompared_j36 at h
  refine sp_iload_n dX11_isCompared_36 rfl rfl ?_
  refine sp_if_lt (tgt := 63) dX11_isCompared_37 (by decide) (fun hc7 => ?_) (fun hc7 => ?_)
  · have h := (if_pos hc7).symm.trans h
    refine sp_iconst (v := 0) dX11_isCompared_63 (by decide) ?_
    cases h
    exact sp_iret dX11_isCompared_64 (ty := .boolean) rfl (sp_nz (Or.inl rfl)) (fun _ => hQ)
  · have h := (if_neg hc7).symm.trans h
    refine sp_aload_n dX11_isCompared_40 rfl rfl ?_
    refine sp_use (fun ho => ?_)
    have hs := hG.1 _ ho
    refine sp_getR (RX11, TX11, 56) dX11_isCompared_41 clX11 (j := 27) (by decide) tw_1242 (wsI_103 hs) (Or.inr ⟨_, rfl⟩) (wsP_103_27 hs) ?_
    refine sp_iload_n dX11_isCompared_44 rfl rfl ?_
    obtain ⟨j8, hj8, h⟩ := Option.bind_eq_some_iff.mp h
    refine sp_iald2 (j := j8) dX11_isCompared_45 (wsA_116 hs) (wsN_116 hs) hj8 ?_
    refine sp_i2l dX11_isCompared_46 ?_
    refine sp_ldc2 (v := 25) dX11_isCompared_47 tw_1197 ?_
    refine sp_ldc2 (v := 27) dX11_isCompared_50 tw_1651 ?_
    refine sp_cS (M1 := M0) (r := some (.int (fX11_in (Int32.toInt64 (sp_I M0 116 j8)) 25 27))) (st := []) [.long (Int32.toInt64 (sp_I M0 116 j8)), .long 25, .long 27] [.long 27, .long 25, .long (Int32.toInt64 (sp_I M0 116 j8))] [.int (fX11_in (Int32.toInt64 (sp_I M0 116 j8)) 25 27)] dX11_isCompared_53 okX11_in tw_1400 tw_1401 (by decide) (by decide) rfl (Nat.le_of_ble_eq_true rfl) rfl rfl (fun Q hQ => tX11_in hG rfl hQ) ?_
    suffices hj : sp_Wp g Ω mX11_isCompared 0 0 64 [none, none] [.int (if (fX11_in (Int32.toInt64 (sp_I M0 116 j8)) 25 27) = 0 then 0 else 1)] M0 Q by
      refine sp_if_eq (tgt := 63) dX11_isCompared_56 (by decide) (fun hc9 => ?_) (fun hc9 => ?_)
      · refine sp_iconst (v := 0) dX11_isCompared_63 (by decide) ?_
        refine sp_weak [false, false] [none, none] rfl ?_
        simp only [if_pos hc9] at hj
        exact hj
      · refine sp_iconst (v := 1) dX11_isCompared_59 (by decide) ?_
        refine sp_goto (tgt := 64) dX11_isCompared_60 (by decide) ?_
        refine sp_weak [false, false] [none, none] rfl ?_
        simp only [if_neg hc9] at hj
        exact hj
    cases h
    exact sp_iret dX11_isCompared_64 (ty := .boolean) rfl (sp_nz (by repeat (first | exact Or.inl rfl | exact Or.inr rfl | split))) (fun _ => hQ)
set_option maxRecDepth 100000 in
set_option maxHeartbeats 4000000 in
theorem tX11_isCompared {g : sp_G} {Ω : sp_Mem → Prop} {Q : sp_Qt} {F : Nat} {M0 : sp_Mem} {p : Int32} (hG : sp_Ok Ω) (h : fX11_isCompared F M0 = some p) (hQ : Q (some (.int p)) M0) : sp_Mt g Ω mX11_isCompared 0 0 [.ref 103] M0 Q := by
  unfold fX11_isCompared at h
  refine sp_Mt.of [some (.ref 103), none] (by decide) (by simp [sp_ent, Value.category]) rfl ?_
  refine sp_aload_n dX11_isCompared_0 rfl rfl ?_
  refine sp_use (fun ho => ?_)
  have hs := hG.1 _ ho
  refine sp_getI (RX11, TX11, 56) dX11_isCompared_1 clX11 (j := 29) (by decide) tw_1244 (wsI_103 hs) (Or.inl rfl) ?_
  refine sp_iconst (v := 1) dX11_isCompared_4 (by decide) ?_
  refine sp_isub dX11_isCompared_5 ?_
  obtain ⟨u1, hu1, h⟩ := sp_do_e h
  refine sp_topi hu1 ?_
  refine sp_istore_n [some (.ref 103), some (.int u1)] dX11_isCompared_6 rfl (by decide) rfl ?_
  refine sp_weak [true, true] [some (.ref 103), some (.int u1)] rfl ?_
  refine tX11_isCompared_l7 hG hQ (fun b6 h => ?_) F _ h
  refine sp_weak [true, true] [some (.ref 103), some (.int b6)] rfl ?_
  exact tX11_isCompared_j36 hG hQ _ h
def fX11_partAt_l4 (F : Nat) (M0 : sp_Mem) (kx : Int32 → Option Int32) : Nat → Int32 → Int32 → Option Int32
  | 0, _, _ => none
  | n + 1, a1, a2 =>
  if 10 ≤ a2 then (kx a1) else ((sp_ix 10 a2).bind fun j2 => sp_do ((if (fX11_isWord M0 (sp_L M0 118 j2)) = 0 then a1 else (a2 + 1))) fun u4 => (fX11_partAt_l4 F M0 kx n) u4 (a2 + 1))
def fX11_partAt (F : Nat) (M0 : sp_Mem) : Option Int32 :=
  fX11_partAt_l4 F M0 (fun b6 => some b6) F (-1) 0
set_option maxRecDepth 100000 in
set_option maxHeartbeats 4000000 in
theorem tX11_partAt_l4 {g : sp_G} {Ω : sp_Mem → Prop} {Q : sp_Qt} {F : Nat} {M0 : sp_Mem} {p : Int32} (hG : sp_Ok Ω)  {kx : Int32 → Option Int32} (hQ : Q (some (.int p)) M0) (hx : ∀ (a1 : Int32), kx a1 = some p → sp_Wp g Ω mX11_partAt 0 0 37 [none, some (.int a1), none] [] M0 Q) : ∀ (n : Nat) (a1 : Int32) (a2 : Int32), fX11_partAt_l4 F M0 kx n a1 a2 = some p → sp_Wp g Ω mX11_partAt 0 0 4 [some (.ref 103), some (.int a1), some (.int a2)] [] M0 Q := by
  intro n
  induction n with
  | zero =>
    intro a1 a2 h
    rw [fX11_partAt_l4] at h
    cases h
  | succ n ih =>
    intro a1 a2 h
    rw [fX11_partAt_l4] at h
    refine sp_iload_n dX11_partAt_4 rfl rfl ?_
    refine sp_bipush (v := 10) dX11_partAt_5 (by decide) ?_
    refine sp_icmp_ge (tgt := 37) dX11_partAt_7 (by decide) (fun hc1 => ?_) (fun hc1 => ?_)
    · have h := (if_pos hc1).symm.trans h
      refine sp_weak [false, true, false] [none, some (.int a1), none] rfl ?_
      exact hx _ h
    · have h := (if_neg hc1).symm.trans h
      refine sp_aload_n dX11_partAt_10 rfl rfl ?_
      refine sp_aload_n dX11_partAt_11 rfl rfl ?_
      refine sp_use (fun ho => ?_)
      have hs := hG.1 _ ho
      refine sp_getR (RX11, TX11, 56) dX11_partAt_12 clX11 (j := 31) (by decide) tw_1246 (wsI_103 hs) (Or.inr ⟨_, rfl⟩) (wsP_103_31 hs) ?_
      refine sp_iload_n dX11_partAt_15 rfl rfl ?_
      obtain ⟨j2, hj2, h⟩ := Option.bind_eq_some_iff.mp h
      refine sp_lald2 (j := j2) dX11_partAt_16 (wsA_118 hs) (wsN_118 hs) hj2 ?_
      refine sp_cV (M1 := M0) (r := some (.int (fX11_isWord M0 (sp_L M0 118 j2)))) (o := 103) (st := []) (c := 10) (RX11, TX11, 56) [.long (sp_L M0 118 j2)] [.long (sp_L M0 118 j2), .ref 103] [.int (fX11_isWord M0 (sp_L M0 118 j2))] dX11_partAt_17 okX11_isWord tw_1576 tw_1578 tw_48 (by decide) (by decide) rfl (Nat.le_of_ble_eq_true rfl) rfl rfl rfl rfl (wsI_103 hs) (fun Q hQ => tX11_isWord hG rfl hQ) ?_
      suffices hj : sp_Wp g Ω mX11_partAt 0 0 30 [some (.ref 103), none, some (.int a2)] [.int (if (fX11_isWord M0 (sp_L M0 118 j2)) = 0 then a1 else (a2 + 1))] M0 Q by
        refine sp_if_eq (tgt := 29) dX11_partAt_20 (by decide) (fun hc3 => ?_) (fun hc3 => ?_)
        · refine sp_iload_n dX11_partAt_29 rfl rfl ?_
          refine sp_weak [true, false, true] [some (.ref 103), none, some (.int a2)] rfl ?_
          simp only [if_pos hc3] at hj
          exact hj
        · refine sp_iload_n dX11_partAt_23 rfl rfl ?_
          refine sp_iconst (v := 1) dX11_partAt_24 (by decide) ?_
          refine sp_iadd dX11_partAt_25 ?_
          refine sp_goto (tgt := 30) dX11_partAt_26 (by decide) ?_
          refine sp_weak [true, false, true] [some (.ref 103), none, some (.int a2)] rfl ?_
          simp only [if_neg hc3] at hj
          exact hj
      obtain ⟨u4, hu4, h⟩ := sp_do_e h
      refine sp_topi hu4 ?_
      refine sp_istore_n [some (.ref 103), some (.int u4), some (.int a2)] dX11_partAt_30 rfl (by decide) rfl ?_
      refine sp_iinc (v := (a2 + 1)) [some (.ref 103), some (.int u4), some (.int (a2 + 1))] dX11_partAt_31 rfl rfl (by decide) rfl ?_
      refine sp_goto (tgt := 4) dX11_partAt_34 (by decide) ?_
      refine sp_weak [true, true, true] [some (.ref 103), some (.int u4), some (.int (a2 + 1))] rfl ?_
      exact ih _ _ h
set_option maxRecDepth 100000 in
set_option maxHeartbeats 4000000 in
theorem tX11_partAt {g : sp_G} {Ω : sp_Mem → Prop} {Q : sp_Qt} {F : Nat} {M0 : sp_Mem} {p : Int32} (hG : sp_Ok Ω) (h : fX11_partAt F M0 = some p) (hQ : Q (some (.int p)) M0) : sp_Mt g Ω mX11_partAt 0 0 [.ref 103] M0 Q := by
  unfold fX11_partAt at h
  refine sp_Mt.of [some (.ref 103), none, none] (by decide) (by simp [sp_ent, Value.category]) rfl ?_
  refine sp_iconst (v := (-1)) dX11_partAt_0 (by decide) ?_
  refine sp_istore_n [some (.ref 103), some (.int (-1)), none] dX11_partAt_1 rfl (by decide) rfl ?_
  refine sp_iconst (v := 0) dX11_partAt_2 (by decide) ?_
  refine sp_istore_n [some (.ref 103), some (.int (-1)), some (.int 0)] dX11_partAt_3 rfl (by decide) rfl ?_
  refine sp_weak [true, true, true] [some (.ref 103), some (.int (-1)), some (.int 0)] rfl ?_
  refine tX11_partAt_l4 hG hQ (fun b6 h => ?_) F _ _ h
  refine sp_iload_n dX11_partAt_37 rfl rfl ?_
  cases h
  exact sp_iret dX11_partAt_38 (ty := .int) rfl rfl (fun _ => hQ)
def fX11_orderPartAt_l4 (F : Nat) (M0 : sp_Mem) (kx : Int32 → Option Int32) : Nat → Int32 → Int32 → Option Int32
  | 0, _, _ => none
  | n + 1, a1, a2 =>
  if 6 ≤ a2 then (kx a1) else ((sp_ix 6 a2).bind fun j2 => sp_do ((if (fX11_isWord M0 (sp_L M0 119 j2)) = 0 then a1 else (a2 + 1))) fun u4 => (fX11_orderPartAt_l4 F M0 kx n) u4 (a2 + 1))
def fX11_orderPartAt (F : Nat) (M0 : sp_Mem) : Option Int32 :=
  fX11_orderPartAt_l4 F M0 (fun b6 => some b6) F (-1) 0
set_option maxRecDepth 100000 in
set_option maxHeartbeats 4000000 in
theorem tX11_orderPartAt_l4 {g : sp_G} {Ω : sp_Mem → Prop} {Q : sp_Qt} {F : Nat} {M0 : sp_Mem} {p : Int32} (hG : sp_Ok Ω)  {kx : Int32 → Option Int32} (hQ : Q (some (.int p)) M0) (hx : ∀ (a1 : Int32), kx a1 = some p → sp_Wp g Ω mX11_orderPartAt 0 0 37 [none, some (.int a1), none] [] M0 Q) : ∀ (n : Nat) (a1 : Int32) (a2 : Int32), fX11_orderPartAt_l4 F M0 kx n a1 a2 = some p → sp_Wp g Ω mX11_orderPartAt 0 0 4 [some (.ref 103), some (.int a1), some (.int a2)] [] M0 Q := by
  intro n
  induction n with
  | zero =>
    intro a1 a2 h
    rw [fX11_orderPartAt_l4] at h
    cases h
  | succ n ih =>
    intro a1 a2 h
    rw [fX11_orderPartAt_l4] at h
    refine sp_iload_n dX11_orderPartAt_4 rfl rfl ?_
    refine sp_bipush (v := 6) dX11_orderPartAt_5 (by decide) ?_
    refine sp_icmp_ge (tgt := 37) dX11_orderPartAt_7 (by decide) (fun hc1 => ?_) (fun hc1 => ?_)
    · have h := (if_pos hc1).symm.trans h
      refine sp_weak [false, true, false] [none, some (.int a1), none] rfl ?_
      exact hx _ h
    · have h := (if_neg hc1).symm.trans h
      refine sp_aload_n dX11_orderPartAt_10 rfl rfl ?_
      refine sp_aload_n dX11_orderPartAt_11 rfl rfl ?_
      refine sp_use (fun ho => ?_)
      have hs := hG.1 _ ho
      refine sp_getR (RX11, TX11, 56) dX11_orderPartAt_12 clX11 (j := 32) (by decide) tw_1247 (wsI_103 hs) (Or.inr ⟨_, rfl⟩) (wsP_103_32 hs) ?_
      refine sp_iload_n dX11_orderPartAt_15 rfl rfl ?_
      obtain ⟨j2, hj2, h⟩ := Option.bind_eq_some_iff.mp h
      refine sp_lald2 (j := j2) dX11_orderPartAt_16 (wsA_119 hs) (wsN_119 hs) hj2 ?_
      refine sp_cV (M1 := M0) (r := some (.int (fX11_isWord M0 (sp_L M0 119 j2)))) (o := 103) (st := []) (c := 10) (RX11, TX11, 56) [.long (sp_L M0 119 j2)] [.long (sp_L M0 119 j2), .ref 103] [.int (fX11_isWord M0 (sp_L M0 119 j2))] dX11_orderPartAt_17 okX11_isWord tw_1576 tw_1578 tw_48 (by decide) (by decide) rfl (Nat.le_of_ble_eq_true rfl) rfl rfl rfl rfl (wsI_103 hs) (fun Q hQ => tX11_isWord hG rfl hQ) ?_
      suffices hj : sp_Wp g Ω mX11_orderPartAt 0 0 30 [some (.ref 103), none, some (.int a2)] [.int (if (fX11_isWord M0 (sp_L M0 119 j2)) = 0 then a1 else (a2 + 1))] M0 Q by
        refine sp_if_eq (tgt := 29) dX11_orderPartAt_20 (by decide) (fun hc3 => ?_) (fun hc3 => ?_)
        · refine sp_iload_n dX11_orderPartAt_29 rfl rfl ?_
          refine sp_weak [true, false, true] [some (.ref 103), none, some (.int a2)] rfl ?_
          simp only [if_pos hc3] at hj
          exact hj
        · refine sp_iload_n dX11_orderPartAt_23 rfl rfl ?_
          refine sp_iconst (v := 1) dX11_orderPartAt_24 (by decide) ?_
          refine sp_iadd dX11_orderPartAt_25 ?_
          refine sp_goto (tgt := 30) dX11_orderPartAt_26 (by decide) ?_
          refine sp_weak [true, false, true] [some (.ref 103), none, some (.int a2)] rfl ?_
          simp only [if_neg hc3] at hj
          exact hj
      obtain ⟨u4, hu4, h⟩ := sp_do_e h
      refine sp_topi hu4 ?_
      refine sp_istore_n [some (.ref 103), some (.int u4), some (.int a2)] dX11_orderPartAt_30 rfl (by decide) rfl ?_
      refine sp_iinc (v := (a2 + 1)) [some (.ref 103), some (.int u4), some (.int (a2 + 1))] dX11_orderPartAt_31 rfl rfl (by decide) rfl ?_
      refine sp_goto (tgt := 4) dX11_orderPartAt_34 (by decide) ?_
      refine sp_weak [true, true, true] [some (.ref 103), some (.int u4), some (.int (a2 + 1))] rfl ?_
      exact ih _ _ h
set_option maxRecDepth 100000 in
set_option maxHeartbeats 4000000 in
theorem tX11_orderPartAt {g : sp_G} {Ω : sp_Mem → Prop} {Q : sp_Qt} {F : Nat} {M0 : sp_Mem} {p : Int32} (hG : sp_Ok Ω) (h : fX11_orderPartAt F M0 = some p) (hQ : Q (some (.int p)) M0) : sp_Mt g Ω mX11_orderPartAt 0 0 [.ref 103] M0 Q := by
  unfold fX11_orderPartAt at h
  refine sp_Mt.of [some (.ref 103), none, none] (by decide) (by simp [sp_ent, Value.category]) rfl ?_
  refine sp_iconst (v := (-1)) dX11_orderPartAt_0 (by decide) ?_
  refine sp_istore_n [some (.ref 103), some (.int (-1)), none] dX11_orderPartAt_1 rfl (by decide) rfl ?_
  refine sp_iconst (v := 0) dX11_orderPartAt_2 (by decide) ?_
  refine sp_istore_n [some (.ref 103), some (.int (-1)), some (.int 0)] dX11_orderPartAt_3 rfl (by decide) rfl ?_
  refine sp_weak [true, true, true] [some (.ref 103), some (.int (-1)), some (.int 0)] rfl ?_
  refine tX11_orderPartAt_l4 hG hQ (fun b6 h => ?_) F _ _ h
  refine sp_iload_n dX11_orderPartAt_37 rfl rfl ?_
  cases h
  exact sp_iret dX11_orderPartAt_38 (ty := .int) rfl rfl (fun _ => hQ)
def fX11_openBracket_j15 (F : Nat) (a1 : Int32) (s0 : Int32) (M : sp_Mem) : Option sp_Mem :=
  (fX11_must F M s0).bind fun M2 => if (sp_I M2 103 19) = 0 then (sp_do (sp_setI M2 103 30 ((sp_I M2 103 30) + 1)) fun M4 => (fX11_push M4 a1 0).bind fun M5 => some M5) else (some M2)
def fX11_openBracket (F : Nat) (M : sp_Mem) (a1 : Int32) : Option sp_Mem :=
  fX11_openBracket_j15 F a1 (if 8 ≤ (sp_I M 103 30) then 0 else 1) M
set_option maxRecDepth 100000 in
set_option maxHeartbeats 4000000 in
theorem tX11_openBracket_j15 {g : sp_G} {Ω : sp_Mem → Prop} {Q : sp_Qt} {F : Nat} {p : sp_Mem} (hG : sp_Ok Ω)  (hQ : Q none p) (a1 : Int32) (s0 : Int32) (M : sp_Mem) (h : fX11_openBracket_j15 F a1 s0 M = some p) : sp_Wp g Ω mX11_openBracket 0 0 15 [some (.ref 103), some (.int a1)] [.int s0, .ref 103] M Q := by
  unfold fX11_openBracket_j15 at h
  refine sp_use (fun ho => ?_)
  have hs := hG.1 _ ho
  obtain ⟨M2, hM2, h⟩ := Option.bind_eq_some_iff.mp h
  refine sp_cV (M1 := M2) (r := none) (o := 103) (st := []) (c := 10) (RX11, TX11, 56) [.int s0] [.int s0, .ref 103] [] dX11_openBracket_15 okX11_must tw_1580 tw_1582 tw_49 (by decide) (by decide) rfl (Nat.le_of_ble_eq_true rfl) rfl rfl rfl rfl (wsI_103 hs) (fun Q hQ => tX11_must hG hM2 hQ) ?_
  refine sp_aload_n dX11_openBracket_18 rfl rfl ?_
  refine sp_use (fun ho => ?_)
  have hs := hG.1 _ ho
  refine sp_getI (RX11, TX11, 56) dX11_openBracket_19 clX11 (j := 19) (by decide) tw_1234 (wsI_103 hs) (Or.inr rfl) ?_
  refine sp_if_ne (tgt := 41) dX11_openBracket_22 (by decide) (fun hc3 => ?_) (fun hc3 => ?_)
  · have h := (if_neg hc3).symm.trans h
    cases h
    exact sp_vret dX11_openBracket_41 rfl (fun _ => hQ)
  · have h := (if_pos hc3).symm.trans h
    refine sp_aload_n dX11_openBracket_25 rfl rfl ?_
    refine sp_dup dX11_openBracket_26 rfl ?_
    refine sp_getI (RX11, TX11, 56) dX11_openBracket_27 clX11 (j := 30) (by decide) tw_1245 (wsI_103 hs) (Or.inl rfl) ?_
    refine sp_iconst (v := 1) dX11_openBracket_30 (by decide) ?_
    refine sp_iadd dX11_openBracket_31 ?_
    obtain ⟨M4, hM4, h⟩ := sp_do_e h
    refine sp_putI2 (RX11, TX11, 56) hG dX11_openBracket_32 clX11 (j := 30) (by decide) tw_1245 rfl (Or.inl rfl) (wsI_103 hs) hM4 ?_
    refine sp_aload_n dX11_openBracket_35 rfl rfl ?_
    refine sp_iload_n dX11_openBracket_36 rfl rfl ?_
    refine sp_iconst (v := 0) dX11_openBracket_37 (by decide) ?_
    refine sp_use (fun ho => ?_)
    have hs := hG.1 _ ho
    obtain ⟨M5, hM5, h⟩ := Option.bind_eq_some_iff.mp h
    refine sp_cV (M1 := M5) (r := none) (o := 103) (st := []) (c := 10) (RX11, TX11, 56) [.int a1, .int 0] [.int 0, .int a1, .ref 103] [] dX11_openBracket_38 okX11_push tw_1593 tw_1595 tw_52 (by decide) (by decide) rfl (Nat.le_of_ble_eq_true rfl) rfl rfl rfl rfl (wsI_103 hs) (fun Q hQ => tX11_push hG hM5 hQ) ?_
    cases h
    exact sp_vret dX11_openBracket_41 rfl (fun _ => hQ)
set_option maxRecDepth 100000 in
set_option maxHeartbeats 4000000 in
theorem tX11_openBracket {g : sp_G} {Ω : sp_Mem → Prop} {Q : sp_Qt} {F : Nat} {p : sp_Mem} (hG : sp_Ok Ω) {M : sp_Mem} {a1 : Int32} (h : fX11_openBracket F M a1 = some p) (hQ : Q none p) : sp_Mt g Ω mX11_openBracket 0 0 [.ref 103, .int a1] M Q := by
  unfold fX11_openBracket at h
  refine sp_Mt.of [some (.ref 103), some (.int a1)] (by decide) (by simp [sp_ent, Value.category]) rfl ?_
  refine sp_aload_n dX11_openBracket_0 rfl rfl ?_
  refine sp_aload_n dX11_openBracket_1 rfl rfl ?_
  refine sp_use (fun ho => ?_)
  have hs := hG.1 _ ho
  refine sp_getI (RX11, TX11, 56) dX11_openBracket_2 clX11 (j := 30) (by decide) tw_1245 (wsI_103 hs) (Or.inl rfl) ?_
  refine sp_bipush (v := 8) dX11_openBracket_5 (by decide) ?_
  suffices hj : sp_Wp g Ω mX11_openBracket 0 0 15 [some (.ref 103), some (.int a1)] [.int (if 8 ≤ (sp_I M 103 30) then 0 else 1), .ref 103] M Q by
    refine sp_icmp_ge (tgt := 14) dX11_openBracket_7 (by decide) (fun hc1 => ?_) (fun hc1 => ?_)
    · refine sp_iconst (v := 0) dX11_openBracket_14 (by decide) ?_
      simp only [if_pos hc1] at hj
      exact hj
    · refine sp_iconst (v := 1) dX11_openBracket_10 (by decide) ?_
      refine sp_goto (tgt := 15) dX11_openBracket_11 (by decide) ?_
      simp only [if_neg hc1] at hj
      exact hj
  refine sp_weak [true, true] [some (.ref 103), some (.int a1)] rfl ?_
  exact tX11_openBracket_j15 hG hQ _ _ _ h
def fX11_leaf_j19 (F : Nat) (a2 : Int32) (a3 : Int32) (s0 : Int32) (M : sp_Mem) : Option sp_Mem :=
  (fX11_must F M s0).bind fun M2 => if (sp_I M2 103 19) = 0 then ((fX11_emit M2 a2 a3).bind fun M4 => sp_do (sp_setI M4 103 26 ((sp_I M4 103 26) + 1)) fun M5 => some M5) else (some M2)
def fX11_leaf_j18 (F : Nat) (a2 : Int32) (a3 : Int32) (M : sp_Mem) : Option sp_Mem :=
  fX11_leaf_j19 F a2 a3 0 M
def fX11_leaf (F : Nat) (M : sp_Mem) (a1 : Int32) (a2 : Int32) (a3 : Int32) : Option sp_Mem :=
  if a1 = 0 then (fX11_leaf_j18 F a2 a3 M) else (fX11_leaf_j19 F a2 a3 (if 50 ≤ (sp_I M 103 26) then 0 else 1) M)
set_option maxRecDepth 100000 in
set_option maxHeartbeats 4000000 in
theorem tX11_leaf_j19 {g : sp_G} {Ω : sp_Mem → Prop} {Q : sp_Qt} {F : Nat} {p : sp_Mem} (hG : sp_Ok Ω)  (hQ : Q none p) (a2 : Int32) (a3 : Int32) (s0 : Int32) (M : sp_Mem) (h : fX11_leaf_j19 F a2 a3 s0 M = some p) : sp_Wp g Ω mX11_leaf 0 0 19 [some (.ref 103), none, some (.int a2), some (.int a3)] [.int s0, .ref 103] M Q := by
  unfold fX11_leaf_j19 at h
  refine sp_use (fun ho => ?_)
  have hs := hG.1 _ ho
  obtain ⟨M2, hM2, h⟩ := Option.bind_eq_some_iff.mp h
  refine sp_cV (M1 := M2) (r := none) (o := 103) (st := []) (c := 10) (RX11, TX11, 56) [.int s0] [.int s0, .ref 103] [] dX11_leaf_19 okX11_must tw_1580 tw_1582 tw_49 (by decide) (by decide) rfl (Nat.le_of_ble_eq_true rfl) rfl rfl rfl rfl (wsI_103 hs) (fun Q hQ => tX11_must hG hM2 hQ) ?_
  refine sp_aload_n dX11_leaf_22 rfl rfl ?_
  refine sp_use (fun ho => ?_)
  have hs := hG.1 _ ho
  refine sp_getI (RX11, TX11, 56) dX11_leaf_23 clX11 (j := 19) (by decide) tw_1234 (wsI_103 hs) (Or.inr rfl) ?_
  refine sp_if_ne (tgt := 45) dX11_leaf_26 (by decide) (fun hc3 => ?_) (fun hc3 => ?_)
  · have h := (if_neg hc3).symm.trans h
    cases h
    exact sp_vret dX11_leaf_45 rfl (fun _ => hQ)
  · have h := (if_pos hc3).symm.trans h
    refine sp_aload_n dX11_leaf_29 rfl rfl ?_
    refine sp_iload_n dX11_leaf_30 rfl rfl ?_
    refine sp_iload_n dX11_leaf_31 rfl rfl ?_
    obtain ⟨M4, hM4, h⟩ := Option.bind_eq_some_iff.mp h
    refine sp_cV (M1 := M4) (r := none) (o := 103) (st := []) (c := 10) (RX11, TX11, 56) [.int a2, .int a3] [.int a3, .int a2, .ref 103] [] dX11_leaf_32 okX11_emit tw_1622 tw_1624 tw_59 (by decide) (by decide) rfl (Nat.le_of_ble_eq_true rfl) rfl rfl rfl rfl (wsI_103 hs) (fun Q hQ => tX11_emit hG hM4 hQ) ?_
    refine sp_aload_n dX11_leaf_35 rfl rfl ?_
    refine sp_dup dX11_leaf_36 rfl ?_
    refine sp_use (fun ho => ?_)
    have hs := hG.1 _ ho
    refine sp_getI (RX11, TX11, 56) dX11_leaf_37 clX11 (j := 26) (by decide) tw_1241 (wsI_103 hs) (Or.inl rfl) ?_
    refine sp_iconst (v := 1) dX11_leaf_40 (by decide) ?_
    refine sp_iadd dX11_leaf_41 ?_
    obtain ⟨M5, hM5, h⟩ := sp_do_e h
    refine sp_putI2 (RX11, TX11, 56) hG dX11_leaf_42 clX11 (j := 26) (by decide) tw_1241 rfl (Or.inl rfl) (wsI_103 hs) hM5 ?_
    cases h
    exact sp_vret dX11_leaf_45 rfl (fun _ => hQ)
set_option maxRecDepth 100000 in
set_option maxHeartbeats 4000000 in
theorem tX11_leaf_j18 {g : sp_G} {Ω : sp_Mem → Prop} {Q : sp_Qt} {F : Nat} {p : sp_Mem} (hG : sp_Ok Ω)  (hQ : Q none p) (a2 : Int32) (a3 : Int32) (M : sp_Mem) (h : fX11_leaf_j18 F a2 a3 M = some p) : sp_Wp g Ω mX11_leaf 0 0 18 [some (.ref 103), none, some (.int a2), some (.int a3)] [.ref 103] M Q := by
  unfold fX11_leaf_j18 at h
  refine sp_iconst (v := 0) dX11_leaf_18 (by decide) ?_
  refine sp_weak [true, false, true, true] [some (.ref 103), none, some (.int a2), some (.int a3)] rfl ?_
  exact tX11_leaf_j19 hG hQ _ _ _ _ h
set_option maxRecDepth 100000 in
set_option maxHeartbeats 4000000 in
theorem tX11_leaf {g : sp_G} {Ω : sp_Mem → Prop} {Q : sp_Qt} {F : Nat} {p : sp_Mem} (hG : sp_Ok Ω) {M : sp_Mem} {a1 : Int32} {a2 : Int32} {a3 : Int32} (h : fX11_leaf F M a1 a2 a3 = some p) (hQ : Q none p) : sp_Mt g Ω mX11_leaf 0 0 [.ref 103, .int a1, .int a2, .int a3] M Q := by
  unfold fX11_leaf at h
  refine sp_Mt.of [some (.ref 103), some (.int a1), some (.int a2), some (.int a3)] (by decide) (by simp [sp_ent, Value.category]) rfl ?_
  refine sp_aload_n dX11_leaf_0 rfl rfl ?_
  refine sp_iload_n dX11_leaf_1 rfl rfl ?_
  refine sp_if_eq (tgt := 18) dX11_leaf_2 (by decide) (fun hc1 => ?_) (fun hc1 => ?_)
  · have h := (if_pos hc1).symm.trans h
    refine sp_weak [true, false, true, true] [some (.ref 103), none, some (.int a2), some (.int a3)] rfl ?_
    exact tX11_leaf_j18 hG hQ _ _ _ h
  · have h := (if_neg hc1).symm.trans h
    refine sp_aload_n dX11_leaf_5 rfl rfl ?_
    refine sp_use (fun ho => ?_)
    have hs := hG.1 _ ho
    refine sp_getI (RX11, TX11, 56) dX11_leaf_6 clX11 (j := 26) (by decide) tw_1241 (wsI_103 hs) (Or.inl rfl) ?_
    refine sp_bipush (v := 50) dX11_leaf_9 (by decide) ?_
    suffices hj : sp_Wp g Ω mX11_leaf 0 0 19 [some (.ref 103), none, some (.int a2), some (.int a3)] [.int (if 50 ≤ (sp_I M 103 26) then 0 else 1), .ref 103] M Q by
      refine sp_icmp_ge (tgt := 18) dX11_leaf_11 (by decide) (fun hc6 => ?_) (fun hc6 => ?_)
      · refine sp_iconst (v := 0) dX11_leaf_18 (by decide) ?_
        refine sp_weak [true, false, true, true] [some (.ref 103), none, some (.int a2), some (.int a3)] rfl ?_
        simp only [if_pos hc6] at hj
        exact hj
      · refine sp_iconst (v := 1) dX11_leaf_14 (by decide) ?_
        refine sp_goto (tgt := 19) dX11_leaf_15 (by decide) ?_
        refine sp_weak [true, false, true, true] [some (.ref 103), none, some (.int a2), some (.int a3)] rfl ?_
        simp only [if_neg hc6] at hj
        exact hj
    refine sp_weak [true, false, true, true] [some (.ref 103), none, some (.int a2), some (.int a3)] rfl ?_
    exact tX11_leaf_j19 hG hQ _ _ _ _ h
def fX11_readPart_j99 (F : Nat) (a1 : Int32) (s0 : Int32) (s1 : Int32) (s2 : Int32) (M : sp_Mem) : Option (Int32 × sp_Mem) :=
  (fX11_leaf F M s2 s1 s0).bind fun M9 => if (sp_I M9 103 20) = 0 then (some (3, M9)) else (if a1 < 5 then (some (3, M9)) else (if (sp_I M9 103 19) = 0 then (sp_do (((sp_I M9 103 23) - 1)) fun u13 => (fX11_number F M9 0 5).bind fun x14 => (sp_ix 400 u13).bind fun j15 => sp_do (sp_setI x14.2 115 j15 x14.1) fun M16 => some (3, M16)) else (some (3, M9))))
def fX11_readPart_j86 (F : Nat) (a1 : Int32) (a2 : Int32) (s0 : Int32) (s1 : Int32) (M : sp_Mem) : Option (Int32 × sp_Mem) :=
  if a2 = 0 then (fX11_readPart_j99 F a1 0 s0 s1 M) else (fX11_readPart_j99 F a1 (Int64.toInt32 (sp_L M 103 17)) s0 s1 M)
def fX11_readPart_j76 (F : Nat) (a1 : Int32) (a2 : Int32) (s0 : Int32) (M : sp_Mem) : Option (Int32 × sp_Mem) :=
  fX11_readPart_j86 F a1 a2 (if a1 = (-1) then 0 else a1) s0 M
def fX11_readPart_j60 (F : Nat) (a1 : Int32) (s0 : Int32) (M : sp_Mem) : Option (Int32 × sp_Mem) :=
  fX11_readPart_j76 F a1 s0 (if a1 = (-1) then (if s0 = 0 then 0 else 1) else 1) M
def fX11_readPart_j59 (F : Nat) (a1 : Int32) (M : sp_Mem) : Option (Int32 × sp_Mem) :=
  fX11_readPart_j60 F a1 0 M
def fX11_readPart_j35 (F : Nat) (s0 : Int32) (M : sp_Mem) : Option (Int32 × sp_Mem) :=
  if (sp_I M 103 16) = 2 then (fX11_readPart_j60 F s0 (if 1000 < (sp_L M 103 17) then 0 else 1) M) else (fX11_readPart_j59 F s0 M)
def fX11_readPart (F : Nat) (M : sp_Mem) : Option (Int32 × sp_Mem) :=
  if (fX11_isSign M 91) = 0 then (if (sp_I M 103 20) = 0 then ((fX11_partAt F M).bind fun v3 => fX11_readPart_j35 F v3 M) else ((fX11_orderPartAt F M).bind fun v18 => fX11_readPart_j35 F v18 M)) else ((fX11_openBracket F M 32).bind fun M19 => some (1, M19))
set_option maxRecDepth 100000 in
set_option maxHeartbeats 4000000 in
theorem tX11_readPart_j99 {g : sp_G} {Ω : sp_Mem → Prop} {Q : sp_Qt} {F : Nat} {p : (Int32 × sp_Mem)} (hG : sp_Ok Ω)  (hQ : Q (some (.int p.1)) p.2) (a1 : Int32) (s0 : Int32) (s1 : Int32) (s2 : Int32) (M : sp_Mem) (h : fX11_readPart_j99 F a1 s0 s1 s2 M = some p) : sp_Wp g Ω mX11_readPart 0 0 99 [some (.ref 103), some (.int a1), none, none] [.int s0, .int s1, .int s2, .ref 103] M Q := by
  unfold fX11_readPart_j99 at h
  refine sp_use (fun ho => ?_)
  have hs := hG.1 _ ho
  obtain ⟨M9, hM9, h⟩ := Option.bind_eq_some_iff.mp h
  refine sp_cV (M1 := M9) (r := none) (o := 103) (st := []) (c := 10) (RX11, TX11, 56) [.int s2, .int s1, .int s0] [.int s0, .int s1, .int s2, .ref 103] [] dX11_readPart_99 okX11_leaf tw_1618 tw_1620 tw_58 (by decide) (by decide) rfl (Nat.le_of_ble_eq_true rfl) rfl rfl rfl rfl (wsI_103 hs) (fun Q hQ => tX11_leaf hG hM9 hQ) ?_
  refine sp_aload_n dX11_readPart_102 rfl rfl ?_
  refine sp_use (fun ho => ?_)
  have hs := hG.1 _ ho
  refine sp_getI (RX11, TX11, 56) dX11_readPart_103 clX11 (j := 20) (by decide) tw_1235 (wsI_103 hs) (Or.inr rfl) ?_
  refine sp_if_eq (tgt := 142) dX11_readPart_106 (by decide) (fun hc10 => ?_) (fun hc10 => ?_)
  · have h := (if_pos hc10).symm.trans h
    refine sp_iconst (v := 3) dX11_readPart_142 (by decide) ?_
    cases h
    exact sp_iret dX11_readPart_143 (ty := .int) rfl rfl (fun _ => hQ)
  · have h := (if_neg hc10).symm.trans h
    refine sp_iload_n dX11_readPart_109 rfl rfl ?_
    refine sp_iconst (v := 5) dX11_readPart_110 (by decide) ?_
    refine sp_icmp_lt (tgt := 142) dX11_readPart_111 (by decide) (fun hc11 => ?_) (fun hc11 => ?_)
    · have h := (if_pos hc11).symm.trans h
      refine sp_iconst (v := 3) dX11_readPart_142 (by decide) ?_
      cases h
      exact sp_iret dX11_readPart_143 (ty := .int) rfl rfl (fun _ => hQ)
    · have h := (if_neg hc11).symm.trans h
      refine sp_aload_n dX11_readPart_114 rfl rfl ?_
      refine sp_getI (RX11, TX11, 56) dX11_readPart_115 clX11 (j := 19) (by decide) tw_1234 (wsI_103 hs) (Or.inr rfl) ?_
      refine sp_if_ne (tgt := 142) dX11_readPart_118 (by decide) (fun hc12 => ?_) (fun hc12 => ?_)
      · have h := (if_neg hc12).symm.trans h
        refine sp_iconst (v := 3) dX11_readPart_142 (by decide) ?_
        cases h
        exact sp_iret dX11_readPart_143 (ty := .int) rfl rfl (fun _ => hQ)
      · have h := (if_pos hc12).symm.trans h
        refine sp_aload_n dX11_readPart_121 rfl rfl ?_
        refine sp_getI (RX11, TX11, 56) dX11_readPart_122 clX11 (j := 23) (by decide) tw_1238 (wsI_103 hs) (Or.inl rfl) ?_
        refine sp_iconst (v := 1) dX11_readPart_125 (by decide) ?_
        refine sp_isub dX11_readPart_126 ?_
        obtain ⟨u13, hu13, h⟩ := sp_do_e h
        refine sp_topi hu13 ?_
        refine sp_istore_n [some (.ref 103), some (.int a1), none, some (.int u13)] dX11_readPart_127 rfl (by decide) rfl ?_
        refine sp_aload_n dX11_readPart_128 rfl rfl ?_
        refine sp_getR (RX11, TX11, 56) dX11_readPart_129 clX11 (j := 25) (by decide) tw_1240 (wsI_103 hs) (Or.inr ⟨_, rfl⟩) (wsP_103_25 hs) ?_
        refine sp_iload_n dX11_readPart_132 rfl rfl ?_
        refine sp_aload_n dX11_readPart_133 rfl rfl ?_
        refine sp_lconst (v := 0) dX11_readPart_134 (by decide) ?_
        refine sp_ldc2 (v := 5) dX11_readPart_135 tw_1626 ?_
        obtain ⟨x14, hx14, h⟩ := Option.bind_eq_some_iff.mp h
        refine sp_cV (M1 := x14.2) (r := some (.int x14.1)) (o := 103) (st := [.int u13, .ref 115]) (c := 10) (RX11, TX11, 56) [.long 0, .long 5] [.long 5, .long 0, .ref 103, .int u13, .ref 115] [.int x14.1, .int u13, .ref 115] dX11_readPart_138 okX11_number tw_1627 tw_1629 tw_60 (by decide) (by decide) rfl (Nat.le_of_ble_eq_true rfl) rfl rfl rfl rfl (wsI_103 hs) (fun Q hQ => tX11_number hG hx14 hQ) ?_
        refine sp_use (fun ho => ?_)
        have hs := hG.1 _ ho
        obtain ⟨j15, hj15, h⟩ := Option.bind_eq_some_iff.mp h
        obtain ⟨M16, hM16, h⟩ := sp_do_e h
        refine sp_iast2 (j := j15) hG dX11_readPart_141 (wsA_115 hs) (wsN_115 hs) hj15 hM16 ?_
        refine sp_iconst (v := 3) dX11_readPart_142 (by decide) ?_
        cases h
        exact sp_iret dX11_readPart_143 (ty := .int) rfl rfl (fun _ => hQ)
set_option maxRecDepth 100000 in
set_option maxHeartbeats 4000000 in
theorem tX11_readPart_j86 {g : sp_G} {Ω : sp_Mem → Prop} {Q : sp_Qt} {F : Nat} {p : (Int32 × sp_Mem)} (hG : sp_Ok Ω)  (hQ : Q (some (.int p.1)) p.2) (a1 : Int32) (a2 : Int32) (s0 : Int32) (s1 : Int32) (M : sp_Mem) (h : fX11_readPart_j86 F a1 a2 s0 s1 M = some p) : sp_Wp g Ω mX11_readPart 0 0 86 [some (.ref 103), some (.int a1), some (.int a2), none] [.int s0, .int s1, .ref 103] M Q := by
  unfold fX11_readPart_j86 at h
  refine sp_iload_n dX11_readPart_86 rfl rfl ?_
  refine sp_if_eq (tgt := 98) dX11_readPart_87 (by decide) (fun hc8 => ?_) (fun hc8 => ?_)
  · have h := (if_pos hc8).symm.trans h
    refine sp_iconst (v := 0) dX11_readPart_98 (by decide) ?_
    refine sp_weak [true, true, false, false] [some (.ref 103), some (.int a1), none, none] rfl ?_
    exact tX11_readPart_j99 hG hQ _ _ _ _ _ h
  · have h := (if_neg hc8).symm.trans h
    refine sp_aload_n dX11_readPart_90 rfl rfl ?_
    refine sp_use (fun ho => ?_)
    have hs := hG.1 _ ho
    refine sp_getL (RX11, TX11, 56) dX11_readPart_91 clX11 (j := 17) (by decide) tw_1232 (wsI_103 hs) rfl ?_
    refine sp_l2i dX11_readPart_94 ?_
    refine sp_goto (tgt := 99) dX11_readPart_95 (by decide) ?_
    refine sp_weak [true, true, false, false] [some (.ref 103), some (.int a1), none, none] rfl ?_
    exact tX11_readPart_j99 hG hQ _ _ _ _ _ h
set_option maxRecDepth 100000 in
set_option maxHeartbeats 4000000 in
theorem tX11_readPart_j76 {g : sp_G} {Ω : sp_Mem → Prop} {Q : sp_Qt} {F : Nat} {p : (Int32 × sp_Mem)} (hG : sp_Ok Ω)  (hQ : Q (some (.int p.1)) p.2) (a1 : Int32) (a2 : Int32) (s0 : Int32) (M : sp_Mem) (h : fX11_readPart_j76 F a1 a2 s0 M = some p) : sp_Wp g Ω mX11_readPart 0 0 76 [some (.ref 103), some (.int a1), some (.int a2), none] [.int s0, .ref 103] M Q := by
  unfold fX11_readPart_j76 at h
  refine sp_iload_n dX11_readPart_76 rfl rfl ?_
  refine sp_iconst (v := (-1)) dX11_readPart_77 (by decide) ?_
  suffices hj : sp_Wp g Ω mX11_readPart 0 0 86 [some (.ref 103), some (.int a1), some (.int a2), none] [.int (if a1 = (-1) then 0 else a1), .int s0, .ref 103] M Q by
    refine sp_icmp_ne (tgt := 85) dX11_readPart_78 (by decide) (fun hc7 => ?_) (fun hc7 => ?_)
    · refine sp_iload_n dX11_readPart_85 rfl rfl ?_
      simp only [if_neg hc7] at hj
      exact hj
    · refine sp_iconst (v := 0) dX11_readPart_81 (by decide) ?_
      refine sp_goto (tgt := 86) dX11_readPart_82 (by decide) ?_
      simp only [if_pos hc7] at hj
      exact hj
  refine sp_weak [true, true, true, false] [some (.ref 103), some (.int a1), some (.int a2), none] rfl ?_
  exact tX11_readPart_j86 hG hQ _ _ _ _ _ h
set_option maxRecDepth 100000 in
set_option maxHeartbeats 4000000 in
theorem tX11_readPart_j60 {g : sp_G} {Ω : sp_Mem → Prop} {Q : sp_Qt} {F : Nat} {p : (Int32 × sp_Mem)} (hG : sp_Ok Ω)  (hQ : Q (some (.int p.1)) p.2) (a1 : Int32) (s0 : Int32) (M : sp_Mem) (h : fX11_readPart_j60 F a1 s0 M = some p) : sp_Wp g Ω mX11_readPart 0 0 60 [some (.ref 103), some (.int a1), none, none] [.int s0] M Q := by
  unfold fX11_readPart_j60 at h
  refine sp_istore_n [some (.ref 103), some (.int a1), some (.int s0), none] dX11_readPart_60 rfl (by decide) rfl ?_
  refine sp_aload_n dX11_readPart_61 rfl rfl ?_
  refine sp_iload_n dX11_readPart_62 rfl rfl ?_
  refine sp_iconst (v := (-1)) dX11_readPart_63 (by decide) ?_
  suffices hj : sp_Wp g Ω mX11_readPart 0 0 76 [some (.ref 103), some (.int a1), some (.int s0), none] [.int (if a1 = (-1) then (if s0 = 0 then 0 else 1) else 1), .ref 103] M Q by
    refine sp_icmp_ne (tgt := 71) dX11_readPart_64 (by decide) (fun hc5 => ?_) (fun hc5 => ?_)
    · refine sp_iconst (v := 1) dX11_readPart_71 (by decide) ?_
      refine sp_goto (tgt := 76) dX11_readPart_72 (by decide) ?_
      simp only [if_neg hc5] at hj
      exact hj
    · refine sp_iload_n dX11_readPart_67 rfl rfl ?_
      refine sp_if_eq (tgt := 75) dX11_readPart_68 (by decide) (fun hc6 => ?_) (fun hc6 => ?_)
      · refine sp_iconst (v := 0) dX11_readPart_75 (by decide) ?_
        simp only [if_pos hc5, if_pos hc6] at hj
        exact hj
      · refine sp_iconst (v := 1) dX11_readPart_71 (by decide) ?_
        refine sp_goto (tgt := 76) dX11_readPart_72 (by decide) ?_
        simp only [if_pos hc5, if_neg hc6] at hj
        exact hj
  refine sp_weak [true, true, true, false] [some (.ref 103), some (.int a1), some (.int s0), none] rfl ?_
  exact tX11_readPart_j76 hG hQ _ _ _ _ h
set_option maxRecDepth 100000 in
set_option maxHeartbeats 4000000 in
theorem tX11_readPart_j59 {g : sp_G} {Ω : sp_Mem → Prop} {Q : sp_Qt} {F : Nat} {p : (Int32 × sp_Mem)} (hG : sp_Ok Ω)  (hQ : Q (some (.int p.1)) p.2) (a1 : Int32) (M : sp_Mem) (h : fX11_readPart_j59 F a1 M = some p) : sp_Wp g Ω mX11_readPart 0 0 59 [some (.ref 103), some (.int a1), none, none] [] M Q := by
  unfold fX11_readPart_j59 at h
  refine sp_iconst (v := 0) dX11_readPart_59 (by decide) ?_
  refine sp_weak [true, true, false, false] [some (.ref 103), some (.int a1), none, none] rfl ?_
  exact tX11_readPart_j60 hG hQ _ _ _ h
set_option maxRecDepth 100000 in
set_option maxHeartbeats 4000000 in
theorem tX11_readPart_j35 {g : sp_G} {Ω : sp_Mem → Prop} {Q : sp_Qt} {F : Nat} {p : (Int32 × sp_Mem)} (hG : sp_Ok Ω)  (hQ : Q (some (.int p.1)) p.2) (s0 : Int32) (M : sp_Mem) (h : fX11_readPart_j35 F s0 M = some p) : sp_Wp g Ω mX11_readPart 0 0 35 [some (.ref 103), none, none, none] [.int s0] M Q := by
  unfold fX11_readPart_j35 at h
  refine sp_istore_n [some (.ref 103), some (.int s0), none, none] dX11_readPart_35 rfl (by decide) rfl ?_
  refine sp_aload_n dX11_readPart_36 rfl rfl ?_
  refine sp_use (fun ho => ?_)
  have hs := hG.1 _ ho
  refine sp_getI (RX11, TX11, 56) dX11_readPart_37 clX11 (j := 16) (by decide) tw_1231 (wsI_103 hs) (Or.inl rfl) ?_
  refine sp_iconst (v := 2) dX11_readPart_40 (by decide) ?_
  refine sp_icmp_ne (tgt := 59) dX11_readPart_41 (by decide) (fun hc4 => ?_) (fun hc4 => ?_)
  · have h := (if_neg hc4).symm.trans h
    refine sp_weak [true, true, false, false] [some (.ref 103), some (.int s0), none, none] rfl ?_
    exact tX11_readPart_j59 hG hQ _ _ h
  · have h := (if_pos hc4).symm.trans h
    refine sp_aload_n dX11_readPart_44 rfl rfl ?_
    refine sp_getL (RX11, TX11, 56) dX11_readPart_45 clX11 (j := 17) (by decide) tw_1232 (wsI_103 hs) rfl ?_
    refine sp_ldc2 (v := 1000) dX11_readPart_48 tw_1617 ?_
    refine sp_lcmp dX11_readPart_51 ?_
    suffices hj : sp_Wp g Ω mX11_readPart 0 0 60 [some (.ref 103), some (.int s0), none, none] [.int (if 1000 < (sp_L M 103 17) then 0 else 1)] M Q by
      refine sp_lif_gt (tgt := 59) dX11_readPart_52 (by decide) (fun hc17 => ?_) (fun hc17 => ?_)
      · refine sp_iconst (v := 0) dX11_readPart_59 (by decide) ?_
        simp only [if_pos hc17] at hj
        exact hj
      · refine sp_iconst (v := 1) dX11_readPart_55 (by decide) ?_
        refine sp_goto (tgt := 60) dX11_readPart_56 (by decide) ?_
        simp only [if_neg hc17] at hj
        exact hj
    refine sp_weak [true, true, false, false] [some (.ref 103), some (.int s0), none, none] rfl ?_
    exact tX11_readPart_j60 hG hQ _ _ _ h
set_option maxRecDepth 100000 in
set_option maxHeartbeats 4000000 in
theorem tX11_readPart {g : sp_G} {Ω : sp_Mem → Prop} {Q : sp_Qt} {F : Nat} {p : (Int32 × sp_Mem)} (hG : sp_Ok Ω) {M : sp_Mem} (h : fX11_readPart F M = some p) (hQ : Q (some (.int p.1)) p.2) : sp_Mt g Ω mX11_readPart 0 0 [.ref 103] M Q := by
  unfold fX11_readPart at h
  refine sp_Mt.of [some (.ref 103), none, none, none] (by decide) (by simp [sp_ent, Value.category]) rfl ?_
  refine sp_aload_n dX11_readPart_0 rfl rfl ?_
  refine sp_bipush (v := 91) dX11_readPart_1 (by decide) ?_
  refine sp_use (fun ho => ?_)
  have hs := hG.1 _ ho
  refine sp_cV (M1 := M) (r := some (.int (fX11_isSign M 91))) (o := 103) (st := []) (c := 10) (RX11, TX11, 56) [.int 91] [.int 91, .ref 103] [.int (fX11_isSign M 91)] dX11_readPart_3 okX11_isSign tw_1597 tw_1599 tw_53 (by decide) (by decide) rfl (Nat.le_of_ble_eq_true rfl) rfl rfl rfl rfl (wsI_103 hs) (fun Q hQ => tX11_isSign hG rfl hQ) ?_
  refine sp_if_eq (tgt := 17) dX11_readPart_6 (by decide) (fun hc1 => ?_) (fun hc1 => ?_)
  · have h := (if_pos hc1).symm.trans h
    refine sp_aload_n dX11_readPart_17 rfl rfl ?_
    refine sp_getI (RX11, TX11, 56) dX11_readPart_18 clX11 (j := 20) (by decide) tw_1235 (wsI_103 hs) (Or.inr rfl) ?_
    refine sp_if_eq (tgt := 31) dX11_readPart_21 (by decide) (fun hc2 => ?_) (fun hc2 => ?_)
    · have h := (if_pos hc2).symm.trans h
      refine sp_aload_n dX11_readPart_31 rfl rfl ?_
      obtain ⟨v3, hv3, h⟩ := Option.bind_eq_some_iff.mp h
      refine sp_cV (M1 := M) (r := some (.int v3)) (o := 103) (st := []) (c := 10) (RX11, TX11, 56) [] [.ref 103] [.int v3] dX11_readPart_32 okX11_partAt tw_1613 tw_1615 tw_57 (by decide) (by decide) rfl (Nat.le_of_ble_eq_true rfl) rfl rfl rfl rfl (wsI_103 hs) (fun Q hQ => tX11_partAt hG hv3 hQ) ?_
      refine sp_weak [true, false, false, false] [some (.ref 103), none, none, none] rfl ?_
      exact tX11_readPart_j35 hG hQ _ _ h
    · have h := (if_neg hc2).symm.trans h
      refine sp_aload_n dX11_readPart_24 rfl rfl ?_
      obtain ⟨v18, hv18, h⟩ := Option.bind_eq_some_iff.mp h
      refine sp_cV (M1 := M) (r := some (.int v18)) (o := 103) (st := []) (c := 10) (RX11, TX11, 56) [] [.ref 103] [.int v18] dX11_readPart_25 okX11_orderPartAt tw_1609 tw_1611 tw_56 (by decide) (by decide) rfl (Nat.le_of_ble_eq_true rfl) rfl rfl rfl rfl (wsI_103 hs) (fun Q hQ => tX11_orderPartAt hG hv18 hQ) ?_
      refine sp_goto (tgt := 35) dX11_readPart_28 (by decide) ?_
      refine sp_weak [true, false, false, false] [some (.ref 103), none, none, none] rfl ?_
      exact tX11_readPart_j35 hG hQ _ _ h
  · have h := (if_neg hc1).symm.trans h
    refine sp_aload_n dX11_readPart_9 rfl rfl ?_
    refine sp_bipush (v := 32) dX11_readPart_10 (by decide) ?_
    obtain ⟨M19, hM19, h⟩ := Option.bind_eq_some_iff.mp h
    refine sp_cV (M1 := M19) (r := none) (o := 103) (st := []) (c := 10) (RX11, TX11, 56) [.int 32] [.int 32, .ref 103] [] dX11_readPart_12 okX11_openBracket tw_1601 tw_1603 tw_54 (by decide) (by decide) rfl (Nat.le_of_ble_eq_true rfl) rfl rfl rfl rfl (wsI_103 hs) (fun Q hQ => tX11_openBracket hG hM19 hQ) ?_
    refine sp_iconst (v := 1) dX11_readPart_15 (by decide) ?_
    cases h
    exact sp_iret dX11_readPart_16 (ty := .int) rfl rfl (fun _ => hQ)
def fX11_readPlain (F : Nat) (M : sp_Mem) : Option (Int32 × sp_Mem) :=
  if (fX11_isWord M 14836) = 0 then (if (fX11_isSign M 40) = 0 then ((fX11_readPart F M).bind fun x3 => some (x3.1, x3.2)) else ((fX11_openBracket F M 31).bind fun M4 => some (0, M4))) else ((fX11_push M 28 0).bind fun M5 => (fX11_next F M5).bind fun M6 => some (0, M6))
set_option maxRecDepth 100000 in
set_option maxHeartbeats 4000000 in
theorem tX11_readPlain {g : sp_G} {Ω : sp_Mem → Prop} {Q : sp_Qt} {F : Nat} {p : (Int32 × sp_Mem)} (hG : sp_Ok Ω) {M : sp_Mem} (h : fX11_readPlain F M = some p) (hQ : Q (some (.int p.1)) p.2) : sp_Mt g Ω mX11_readPlain 0 0 [.ref 103] M Q := by
  unfold fX11_readPlain at h
  refine sp_Mt.of [some (.ref 103)] (by decide) (by simp [sp_ent, Value.category]) rfl ?_
  refine sp_aload_n dX11_readPlain_0 rfl rfl ?_
  refine sp_ldc2 (v := 14836) dX11_readPlain_1 tw_1592 ?_
  refine sp_use (fun ho => ?_)
  have hs := hG.1 _ ho
  refine sp_cV (M1 := M) (r := some (.int (fX11_isWord M 14836))) (o := 103) (st := []) (c := 10) (RX11, TX11, 56) [.long 14836] [.long 14836, .ref 103] [.int (fX11_isWord M 14836)] dX11_readPlain_4 okX11_isWord tw_1576 tw_1578 tw_48 (by decide) (by decide) rfl (Nat.le_of_ble_eq_true rfl) rfl rfl rfl rfl (wsI_103 hs) (fun Q hQ => tX11_isWord hG rfl hQ) ?_
  refine sp_if_eq (tgt := 23) dX11_readPlain_7 (by decide) (fun hc1 => ?_) (fun hc1 => ?_)
  · have h := (if_pos hc1).symm.trans h
    refine sp_aload_n dX11_readPlain_23 rfl rfl ?_
    refine sp_bipush (v := 40) dX11_readPlain_24 (by decide) ?_
    refine sp_cV (M1 := M) (r := some (.int (fX11_isSign M 40))) (o := 103) (st := []) (c := 10) (RX11, TX11, 56) [.int 40] [.int 40, .ref 103] [.int (fX11_isSign M 40)] dX11_readPlain_26 okX11_isSign tw_1597 tw_1599 tw_53 (by decide) (by decide) rfl (Nat.le_of_ble_eq_true rfl) rfl rfl rfl rfl (wsI_103 hs) (fun Q hQ => tX11_isSign hG rfl hQ) ?_
    refine sp_if_eq (tgt := 40) dX11_readPlain_29 (by decide) (fun hc2 => ?_) (fun hc2 => ?_)
    · have h := (if_pos hc2).symm.trans h
      refine sp_aload_n dX11_readPlain_40 rfl rfl ?_
      obtain ⟨x3, hx3, h⟩ := Option.bind_eq_some_iff.mp h
      refine sp_cV (M1 := x3.2) (r := some (.int x3.1)) (o := 103) (st := []) (c := 10) (RX11, TX11, 56) [] [.ref 103] [.int x3.1] dX11_readPlain_41 okX11_readPart tw_1605 tw_1607 tw_55 (by decide) (by decide) rfl (Nat.le_of_ble_eq_true rfl) rfl rfl rfl rfl (wsI_103 hs) (fun Q hQ => tX11_readPart hG hx3 hQ) ?_
      cases h
      exact sp_iret dX11_readPlain_44 (ty := .int) rfl rfl (fun _ => hQ)
    · have h := (if_neg hc2).symm.trans h
      refine sp_aload_n dX11_readPlain_32 rfl rfl ?_
      refine sp_bipush (v := 31) dX11_readPlain_33 (by decide) ?_
      obtain ⟨M4, hM4, h⟩ := Option.bind_eq_some_iff.mp h
      refine sp_cV (M1 := M4) (r := none) (o := 103) (st := []) (c := 10) (RX11, TX11, 56) [.int 31] [.int 31, .ref 103] [] dX11_readPlain_35 okX11_openBracket tw_1601 tw_1603 tw_54 (by decide) (by decide) rfl (Nat.le_of_ble_eq_true rfl) rfl rfl rfl rfl (wsI_103 hs) (fun Q hQ => tX11_openBracket hG hM4 hQ) ?_
      refine sp_iconst (v := 0) dX11_readPlain_38 (by decide) ?_
      cases h
      exact sp_iret dX11_readPlain_39 (ty := .int) rfl rfl (fun _ => hQ)
  · have h := (if_neg hc1).symm.trans h
    refine sp_aload_n dX11_readPlain_10 rfl rfl ?_
    refine sp_bipush (v := 28) dX11_readPlain_11 (by decide) ?_
    refine sp_iconst (v := 0) dX11_readPlain_13 (by decide) ?_
    obtain ⟨M5, hM5, h⟩ := Option.bind_eq_some_iff.mp h
    refine sp_cV (M1 := M5) (r := none) (o := 103) (st := []) (c := 10) (RX11, TX11, 56) [.int 28, .int 0] [.int 0, .int 28, .ref 103] [] dX11_readPlain_14 okX11_push tw_1593 tw_1595 tw_52 (by decide) (by decide) rfl (Nat.le_of_ble_eq_true rfl) rfl rfl rfl rfl (wsI_103 hs) (fun Q hQ => tX11_push hG hM5 hQ) ?_
    refine sp_aload_n dX11_readPlain_17 rfl rfl ?_
    refine sp_use (fun ho => ?_)
    have hs := hG.1 _ ho
    obtain ⟨M6, hM6, h⟩ := Option.bind_eq_some_iff.mp h
    refine sp_cV (M1 := M6) (r := none) (o := 103) (st := []) (c := 10) (RX11, TX11, 56) [] [.ref 103] [] dX11_readPlain_18 okX11_next tw_1557 tw_1559 tw_46 (by decide) (by decide) rfl (Nat.le_of_ble_eq_true rfl) rfl rfl rfl rfl (wsI_103 hs) (fun Q hQ => tX11_next hG hM6 hQ) ?_
    refine sp_iconst (v := 0) dX11_readPlain_21 (by decide) ?_
    cases h
    exact sp_iret dX11_readPlain_22 (ty := .int) rfl rfl (fun _ => hQ)
def fX11_behindSum_j224 (F : Nat) (a2 : Int32) (s0 : Int32) (M : sp_Mem) : Option (Int32 × sp_Mem) :=
  (fX11_must F M s0).bind fun M15 => if (sp_I M15 103 19) = 0 then ((fX11_settle F M15 5).bind fun M17 => (fX11_push M17 a2 0).bind fun M18 => some (1, M18)) else (some (1, M15))
def fX11_behindSum_j219 (F : Nat) (a2 : Int32) (M : sp_Mem) : Option (Int32 × sp_Mem) :=
  fX11_behindSum_j224 F a2 1 M
def fX11_behindSum_j202 (F : Nat) (s0 : Int32) (M : sp_Mem) : Option (Int32 × sp_Mem) :=
  if s0 = 27 then (fX11_behindSum_j224 F s0 (if (fX11_isSign M 61) = 0 then 0 else 1) M) else (fX11_behindSum_j219 F s0 M)
def fX11_behindSum_j163 (F : Nat) (M : sp_Mem) : Option (Int32 × sp_Mem) :=
  (fX11_isCompared F M).bind fun v10 => if v10 = 0 then (if (fX11_isSign M 60) = 0 then (fX11_behindSum_j202 F (if (fX11_isSign M 62) = 0 then 27 else 26) M) else (fX11_behindSum_j202 F 25 M)) else (some (2, M))
def fX11_behindSum_j71 (F : Nat) (a1 : Int32) (s0 : Int32) (M : sp_Mem) : Option (Int32 × sp_Mem) :=
  if s0 = (-1) then ((fX11_inner F M).bind fun v7 => if v7 = 32 then ((fX11_must F M (fX11_isSign M 93)).bind fun M21 => if (sp_I M21 103 19) = 0 then ((fX11_settle F M21 5).bind fun M23 => sp_do (sp_setI M23 103 29 ((sp_I M23 103 29) - 1)) fun M24 => sp_do (sp_setI M24 103 30 ((sp_I M24 103 30) - 1)) fun M25 => some (3, M25)) else (some (3, M21))) else (if v7 = (-1) then (if a1 = 0 then (some (4, M)) else (fX11_behindSum_j163 F M)) else (fX11_behindSum_j163 F M))) else ((fX11_settle F M (fX11_binds s0)).bind fun M26 => (fX11_push M26 s0 0).bind fun M27 => (fX11_next F M27).bind fun M28 => some (1, M28))
def fX11_behindSum (F : Nat) (M : sp_Mem) (a1 : Int32) : Option (Int32 × sp_Mem) :=
  if (fX11_isSign M 43) = 0 then (if (fX11_isSign M 45) = 0 then (if (fX11_isSign M 42) = 0 then (if (fX11_isSign M 47) = 0 then (fX11_behindSum_j71 F a1 (if (fX11_isSign M 37) = 0 then (-1) else 24) M) else (fX11_behindSum_j71 F a1 23 M)) else (fX11_behindSum_j71 F a1 22 M)) else (fX11_behindSum_j71 F a1 21 M)) else (fX11_behindSum_j71 F a1 20 M)
set_option maxRecDepth 100000 in
set_option maxHeartbeats 4000000 in
theorem tX11_behindSum_j224 {g : sp_G} {Ω : sp_Mem → Prop} {Q : sp_Qt} {F : Nat} {p : (Int32 × sp_Mem)} (hG : sp_Ok Ω)  (hQ : Q (some (.int p.1)) p.2) (a2 : Int32) (s0 : Int32) (M : sp_Mem) (h : fX11_behindSum_j224 F a2 s0 M = some p) : sp_Wp g Ω mX11_behindSum 0 0 224 [some (.ref 103), none, some (.int a2), none] [.int s0, .ref 103] M Q := by
  unfold fX11_behindSum_j224 at h
  refine sp_use (fun ho => ?_)
  have hs := hG.1 _ ho
  obtain ⟨M15, hM15, h⟩ := Option.bind_eq_some_iff.mp h
  refine sp_cV (M1 := M15) (r := none) (o := 103) (st := []) (c := 10) (RX11, TX11, 56) [.int s0] [.int s0, .ref 103] [] dX11_behindSum_224 okX11_must tw_1580 tw_1582 tw_49 (by decide) (by decide) rfl (Nat.le_of_ble_eq_true rfl) rfl rfl rfl rfl (wsI_103 hs) (fun Q hQ => tX11_must hG hM15 hQ) ?_
  refine sp_aload_n dX11_behindSum_227 rfl rfl ?_
  refine sp_use (fun ho => ?_)
  have hs := hG.1 _ ho
  refine sp_getI (RX11, TX11, 56) dX11_behindSum_228 clX11 (j := 19) (by decide) tw_1234 (wsI_103 hs) (Or.inr rfl) ?_
  refine sp_if_ne (tgt := 245) dX11_behindSum_231 (by decide) (fun hc16 => ?_) (fun hc16 => ?_)
  · have h := (if_neg hc16).symm.trans h
    refine sp_iconst (v := 1) dX11_behindSum_245 (by decide) ?_
    cases h
    exact sp_iret dX11_behindSum_246 (ty := .int) rfl rfl (fun _ => hQ)
  · have h := (if_pos hc16).symm.trans h
    refine sp_aload_n dX11_behindSum_234 rfl rfl ?_
    refine sp_iconst (v := 5) dX11_behindSum_235 (by decide) ?_
    obtain ⟨M17, hM17, h⟩ := Option.bind_eq_some_iff.mp h
    refine sp_cV (M1 := M17) (r := none) (o := 103) (st := []) (c := 10) (RX11, TX11, 56) [.int 5] [.int 5, .ref 103] [] dX11_behindSum_236 okX11_settle tw_1638 tw_1640 tw_62 (by decide) (by decide) rfl (Nat.le_of_ble_eq_true rfl) rfl rfl rfl rfl (wsI_103 hs) (fun Q hQ => tX11_settle hG hM17 hQ) ?_
    refine sp_aload_n dX11_behindSum_239 rfl rfl ?_
    refine sp_iload_n dX11_behindSum_240 rfl rfl ?_
    refine sp_iconst (v := 0) dX11_behindSum_241 (by decide) ?_
    refine sp_use (fun ho => ?_)
    have hs := hG.1 _ ho
    obtain ⟨M18, hM18, h⟩ := Option.bind_eq_some_iff.mp h
    refine sp_cV (M1 := M18) (r := none) (o := 103) (st := []) (c := 10) (RX11, TX11, 56) [.int a2, .int 0] [.int 0, .int a2, .ref 103] [] dX11_behindSum_242 okX11_push tw_1593 tw_1595 tw_52 (by decide) (by decide) rfl (Nat.le_of_ble_eq_true rfl) rfl rfl rfl rfl (wsI_103 hs) (fun Q hQ => tX11_push hG hM18 hQ) ?_
    refine sp_iconst (v := 1) dX11_behindSum_245 (by decide) ?_
    cases h
    exact sp_iret dX11_behindSum_246 (ty := .int) rfl rfl (fun _ => hQ)
set_option maxRecDepth 100000 in
set_option maxHeartbeats 4000000 in
theorem tX11_behindSum_j219 {g : sp_G} {Ω : sp_Mem → Prop} {Q : sp_Qt} {F : Nat} {p : (Int32 × sp_Mem)} (hG : sp_Ok Ω)  (hQ : Q (some (.int p.1)) p.2) (a2 : Int32) (M : sp_Mem) (h : fX11_behindSum_j219 F a2 M = some p) : sp_Wp g Ω mX11_behindSum 0 0 219 [some (.ref 103), none, some (.int a2), none] [.ref 103] M Q := by
  unfold fX11_behindSum_j219 at h
  refine sp_iconst (v := 1) dX11_behindSum_219 (by decide) ?_
  refine sp_goto (tgt := 224) dX11_behindSum_220 (by decide) ?_
  refine sp_weak [true, false, true, false] [some (.ref 103), none, some (.int a2), none] rfl ?_
  exact tX11_behindSum_j224 hG hQ _ _ _ h
set_option maxRecDepth 100000 in
set_option maxHeartbeats 4000000 in
theorem tX11_behindSum_j202 {g : sp_G} {Ω : sp_Mem → Prop} {Q : sp_Qt} {F : Nat} {p : (Int32 × sp_Mem)} (hG : sp_Ok Ω)  (hQ : Q (some (.int p.1)) p.2) (s0 : Int32) (M : sp_Mem) (h : fX11_behindSum_j202 F s0 M = some p) : sp_Wp g Ω mX11_behindSum 0 0 202 [some (.ref 103), none, none, none] [.int s0] M Q := by
  unfold fX11_behindSum_j202 at h
  refine sp_istore_n [some (.ref 103), none, some (.int s0), none] dX11_behindSum_202 rfl (by decide) rfl ?_
  refine sp_aload_n dX11_behindSum_203 rfl rfl ?_
  refine sp_iload_n dX11_behindSum_204 rfl rfl ?_
  refine sp_bipush (v := 27) dX11_behindSum_205 (by decide) ?_
  refine sp_icmp_ne (tgt := 219) dX11_behindSum_207 (by decide) (fun hc14 => ?_) (fun hc14 => ?_)
  · have h := (if_neg hc14).symm.trans h
    refine sp_weak [true, false, true, false] [some (.ref 103), none, some (.int s0), none] rfl ?_
    exact tX11_behindSum_j219 hG hQ _ _ h
  · have h := (if_pos hc14).symm.trans h
    refine sp_aload_n dX11_behindSum_210 rfl rfl ?_
    refine sp_bipush (v := 61) dX11_behindSum_211 (by decide) ?_
    refine sp_use (fun ho => ?_)
    have hs := hG.1 _ ho
    refine sp_cV (M1 := M) (r := some (.int (fX11_isSign M 61))) (o := 103) (st := [.ref 103]) (c := 10) (RX11, TX11, 56) [.int 61] [.int 61, .ref 103, .ref 103] [.int (fX11_isSign M 61), .ref 103] dX11_behindSum_213 okX11_isSign tw_1597 tw_1599 tw_53 (by decide) (by decide) rfl (Nat.le_of_ble_eq_true rfl) rfl rfl rfl rfl (wsI_103 hs) (fun Q hQ => tX11_isSign hG rfl hQ) ?_
    suffices hj : sp_Wp g Ω mX11_behindSum 0 0 224 [some (.ref 103), none, some (.int s0), none] [.int (if (fX11_isSign M 61) = 0 then 0 else 1), .ref 103] M Q by
      refine sp_if_eq (tgt := 223) dX11_behindSum_216 (by decide) (fun hc19 => ?_) (fun hc19 => ?_)
      · refine sp_iconst (v := 0) dX11_behindSum_223 (by decide) ?_
        simp only [if_pos hc19] at hj
        exact hj
      · refine sp_iconst (v := 1) dX11_behindSum_219 (by decide) ?_
        refine sp_goto (tgt := 224) dX11_behindSum_220 (by decide) ?_
        simp only [if_neg hc19] at hj
        exact hj
    refine sp_weak [true, false, true, false] [some (.ref 103), none, some (.int s0), none] rfl ?_
    exact tX11_behindSum_j224 hG hQ _ _ _ h
set_option maxRecDepth 100000 in
set_option maxHeartbeats 4000000 in
theorem tX11_behindSum_j163 {g : sp_G} {Ω : sp_Mem → Prop} {Q : sp_Qt} {F : Nat} {p : (Int32 × sp_Mem)} (hG : sp_Ok Ω)  (hQ : Q (some (.int p.1)) p.2) (M : sp_Mem) (h : fX11_behindSum_j163 F M = some p) : sp_Wp g Ω mX11_behindSum 0 0 163 [some (.ref 103), none, none, none] [] M Q := by
  unfold fX11_behindSum_j163 at h
  refine sp_aload_n dX11_behindSum_163 rfl rfl ?_
  refine sp_use (fun ho => ?_)
  have hs := hG.1 _ ho
  obtain ⟨v10, hv10, h⟩ := Option.bind_eq_some_iff.mp h
  refine sp_cV (M1 := M) (r := some (.int v10)) (o := 103) (st := []) (c := 10) (RX11, TX11, 56) [] [.ref 103] [.int v10] dX11_behindSum_164 okX11_isCompared tw_1646 tw_1648 tw_64 (by decide) (by decide) rfl (Nat.le_of_ble_eq_true rfl) rfl rfl rfl rfl (wsI_103 hs) (fun Q hQ => tX11_isCompared hG hv10 hQ) ?_
  refine sp_if_eq (tgt := 172) dX11_behindSum_167 (by decide) (fun hc11 => ?_) (fun hc11 => ?_)
  · have h := (if_pos hc11).symm.trans h
    refine sp_aload_n dX11_behindSum_172 rfl rfl ?_
    refine sp_bipush (v := 60) dX11_behindSum_173 (by decide) ?_
    refine sp_cV (M1 := M) (r := some (.int (fX11_isSign M 60))) (o := 103) (st := []) (c := 10) (RX11, TX11, 56) [.int 60] [.int 60, .ref 103] [.int (fX11_isSign M 60)] dX11_behindSum_175 okX11_isSign tw_1597 tw_1599 tw_53 (by decide) (by decide) rfl (Nat.le_of_ble_eq_true rfl) rfl rfl rfl rfl (wsI_103 hs) (fun Q hQ => tX11_isSign hG rfl hQ) ?_
    refine sp_if_eq (tgt := 186) dX11_behindSum_178 (by decide) (fun hc12 => ?_) (fun hc12 => ?_)
    · have h := (if_pos hc12).symm.trans h
      refine sp_aload_n dX11_behindSum_186 rfl rfl ?_
      refine sp_bipush (v := 62) dX11_behindSum_187 (by decide) ?_
      refine sp_cV (M1 := M) (r := some (.int (fX11_isSign M 62))) (o := 103) (st := []) (c := 10) (RX11, TX11, 56) [.int 62] [.int 62, .ref 103] [.int (fX11_isSign M 62)] dX11_behindSum_189 okX11_isSign tw_1597 tw_1599 tw_53 (by decide) (by decide) rfl (Nat.le_of_ble_eq_true rfl) rfl rfl rfl rfl (wsI_103 hs) (fun Q hQ => tX11_isSign hG rfl hQ) ?_
      suffices hj : sp_Wp g Ω mX11_behindSum 0 0 202 [some (.ref 103), none, none, none] [.int (if (fX11_isSign M 62) = 0 then 27 else 26)] M Q by
        refine sp_if_eq (tgt := 200) dX11_behindSum_192 (by decide) (fun hc13 => ?_) (fun hc13 => ?_)
        · refine sp_bipush (v := 27) dX11_behindSum_200 (by decide) ?_
          simp only [if_pos hc13] at hj
          exact hj
        · refine sp_bipush (v := 26) dX11_behindSum_195 (by decide) ?_
          refine sp_goto (tgt := 202) dX11_behindSum_197 (by decide) ?_
          simp only [if_neg hc13] at hj
          exact hj
      refine sp_weak [true, false, false, false] [some (.ref 103), none, none, none] rfl ?_
      exact tX11_behindSum_j202 hG hQ _ _ h
    · have h := (if_neg hc12).symm.trans h
      refine sp_bipush (v := 25) dX11_behindSum_181 (by decide) ?_
      refine sp_goto (tgt := 202) dX11_behindSum_183 (by decide) ?_
      refine sp_weak [true, false, false, false] [some (.ref 103), none, none, none] rfl ?_
      exact tX11_behindSum_j202 hG hQ _ _ h
  · have h := (if_neg hc11).symm.trans h
    refine sp_iconst (v := 2) dX11_behindSum_170 (by decide) ?_
    cases h
    exact sp_iret dX11_behindSum_171 (ty := .int) rfl rfl (fun _ => hQ)
set_option maxRecDepth 100000 in
set_option maxHeartbeats 4000000 in
theorem tX11_behindSum_j71 {g : sp_G} {Ω : sp_Mem → Prop} {Q : sp_Qt} {F : Nat} {p : (Int32 × sp_Mem)} (hG : sp_Ok Ω)  (hQ : Q (some (.int p.1)) p.2) (a1 : Int32) (s0 : Int32) (M : sp_Mem) (h : fX11_behindSum_j71 F a1 s0 M = some p) : sp_Wp g Ω mX11_behindSum 0 0 71 [some (.ref 103), some (.int a1), none, none] [.int s0] M Q := by
  unfold fX11_behindSum_j71 at h
  refine sp_istore_n [some (.ref 103), some (.int a1), some (.int s0), none] dX11_behindSum_71 rfl (by decide) rfl ?_
  refine sp_iload_n dX11_behindSum_72 rfl rfl ?_
  refine sp_iconst (v := (-1)) dX11_behindSum_73 (by decide) ?_
  refine sp_icmp_eq (tgt := 97) dX11_behindSum_74 (by decide) (fun hc6 => ?_) (fun hc6 => ?_)
  · have h := (if_pos hc6).symm.trans h
    refine sp_aload_n dX11_behindSum_97 rfl rfl ?_
    refine sp_use (fun ho => ?_)
    have hs := hG.1 _ ho
    obtain ⟨v7, hv7, h⟩ := Option.bind_eq_some_iff.mp h
    refine sp_cV (M1 := M) (r := some (.int v7)) (o := 103) (st := []) (c := 10) (RX11, TX11, 56) [] [.ref 103] [.int v7] dX11_behindSum_98 okX11_inner tw_1642 tw_1644 tw_63 (by decide) (by decide) rfl (Nat.le_of_ble_eq_true rfl) rfl rfl rfl rfl (wsI_103 hs) (fun Q hQ => tX11_inner hG hv7 hQ) ?_
    refine sp_istore_n [some (.ref 103), some (.int a1), some (.int s0), some (.int v7)] dX11_behindSum_101 rfl (by decide) rfl ?_
    refine sp_iload_n dX11_behindSum_102 rfl rfl ?_
    refine sp_bipush (v := 32) dX11_behindSum_103 (by decide) ?_
    refine sp_icmp_ne (tgt := 152) dX11_behindSum_105 (by decide) (fun hc8 => ?_) (fun hc8 => ?_)
    · have h := (if_neg hc8).symm.trans h
      refine sp_iload_n dX11_behindSum_152 rfl rfl ?_
      refine sp_iconst (v := (-1)) dX11_behindSum_153 (by decide) ?_
      refine sp_icmp_ne (tgt := 163) dX11_behindSum_154 (by decide) (fun hc9 => ?_) (fun hc9 => ?_)
      · have h := (if_neg hc9).symm.trans h
        refine sp_weak [true, false, false, false] [some (.ref 103), none, none, none] rfl ?_
        exact tX11_behindSum_j163 hG hQ _ h
      · have h := (if_pos hc9).symm.trans h
        refine sp_iload_n dX11_behindSum_157 rfl rfl ?_
        refine sp_if_ne (tgt := 163) dX11_behindSum_158 (by decide) (fun hc20 => ?_) (fun hc20 => ?_)
        · have h := (if_neg hc20).symm.trans h
          refine sp_weak [true, false, false, false] [some (.ref 103), none, none, none] rfl ?_
          exact tX11_behindSum_j163 hG hQ _ h
        · have h := (if_pos hc20).symm.trans h
          refine sp_iconst (v := 4) dX11_behindSum_161 (by decide) ?_
          cases h
          exact sp_iret dX11_behindSum_162 (ty := .int) rfl rfl (fun _ => hQ)
    · have h := (if_pos hc8).symm.trans h
      refine sp_aload_n dX11_behindSum_108 rfl rfl ?_
      refine sp_aload_n dX11_behindSum_109 rfl rfl ?_
      refine sp_bipush (v := 93) dX11_behindSum_110 (by decide) ?_
      refine sp_cV (M1 := M) (r := some (.int (fX11_isSign M 93))) (o := 103) (st := [.ref 103]) (c := 10) (RX11, TX11, 56) [.int 93] [.int 93, .ref 103, .ref 103] [.int (fX11_isSign M 93), .ref 103] dX11_behindSum_112 okX11_isSign tw_1597 tw_1599 tw_53 (by decide) (by decide) rfl (Nat.le_of_ble_eq_true rfl) rfl rfl rfl rfl (wsI_103 hs) (fun Q hQ => tX11_isSign hG rfl hQ) ?_
      obtain ⟨M21, hM21, h⟩ := Option.bind_eq_some_iff.mp h
      refine sp_cV (M1 := M21) (r := none) (o := 103) (st := []) (c := 10) (RX11, TX11, 56) [.int (fX11_isSign M 93)] [.int (fX11_isSign M 93), .ref 103] [] dX11_behindSum_115 okX11_must tw_1580 tw_1582 tw_49 (by decide) (by decide) rfl (Nat.le_of_ble_eq_true rfl) rfl rfl rfl rfl (wsI_103 hs) (fun Q hQ => tX11_must hG hM21 hQ) ?_
      refine sp_aload_n dX11_behindSum_118 rfl rfl ?_
      refine sp_use (fun ho => ?_)
      have hs := hG.1 _ ho
      refine sp_getI (RX11, TX11, 56) dX11_behindSum_119 clX11 (j := 19) (by decide) tw_1234 (wsI_103 hs) (Or.inr rfl) ?_
      refine sp_if_ne (tgt := 150) dX11_behindSum_122 (by decide) (fun hc22 => ?_) (fun hc22 => ?_)
      · have h := (if_neg hc22).symm.trans h
        refine sp_iconst (v := 3) dX11_behindSum_150 (by decide) ?_
        cases h
        exact sp_iret dX11_behindSum_151 (ty := .int) rfl rfl (fun _ => hQ)
      · have h := (if_pos hc22).symm.trans h
        refine sp_aload_n dX11_behindSum_125 rfl rfl ?_
        refine sp_iconst (v := 5) dX11_behindSum_126 (by decide) ?_
        obtain ⟨M23, hM23, h⟩ := Option.bind_eq_some_iff.mp h
        refine sp_cV (M1 := M23) (r := none) (o := 103) (st := []) (c := 10) (RX11, TX11, 56) [.int 5] [.int 5, .ref 103] [] dX11_behindSum_127 okX11_settle tw_1638 tw_1640 tw_62 (by decide) (by decide) rfl (Nat.le_of_ble_eq_true rfl) rfl rfl rfl rfl (wsI_103 hs) (fun Q hQ => tX11_settle hG hM23 hQ) ?_
        refine sp_aload_n dX11_behindSum_130 rfl rfl ?_
        refine sp_dup dX11_behindSum_131 rfl ?_
        refine sp_use (fun ho => ?_)
        have hs := hG.1 _ ho
        refine sp_getI (RX11, TX11, 56) dX11_behindSum_132 clX11 (j := 29) (by decide) tw_1244 (wsI_103 hs) (Or.inl rfl) ?_
        refine sp_iconst (v := 1) dX11_behindSum_135 (by decide) ?_
        refine sp_isub dX11_behindSum_136 ?_
        obtain ⟨M24, hM24, h⟩ := sp_do_e h
        refine sp_putI2 (RX11, TX11, 56) hG dX11_behindSum_137 clX11 (j := 29) (by decide) tw_1244 rfl (Or.inl rfl) (wsI_103 hs) hM24 ?_
        refine sp_aload_n dX11_behindSum_140 rfl rfl ?_
        refine sp_dup dX11_behindSum_141 rfl ?_
        refine sp_use (fun ho => ?_)
        have hs := hG.1 _ ho
        refine sp_getI (RX11, TX11, 56) dX11_behindSum_142 clX11 (j := 30) (by decide) tw_1245 (wsI_103 hs) (Or.inl rfl) ?_
        refine sp_iconst (v := 1) dX11_behindSum_145 (by decide) ?_
        refine sp_isub dX11_behindSum_146 ?_
        obtain ⟨M25, hM25, h⟩ := sp_do_e h
        refine sp_putI2 (RX11, TX11, 56) hG dX11_behindSum_147 clX11 (j := 30) (by decide) tw_1245 rfl (Or.inl rfl) (wsI_103 hs) hM25 ?_
        refine sp_iconst (v := 3) dX11_behindSum_150 (by decide) ?_
        cases h
        exact sp_iret dX11_behindSum_151 (ty := .int) rfl rfl (fun _ => hQ)
  · have h := (if_neg hc6).symm.trans h
    refine sp_aload_n dX11_behindSum_77 rfl rfl ?_
    refine sp_iload_n dX11_behindSum_78 rfl rfl ?_
    refine sp_use (fun ho => ?_)
    have hs := hG.1 _ ho
    refine sp_cS (M1 := M) (r := some (.int (fX11_binds s0))) (st := [.ref 103]) [.int s0] [.int s0, .ref 103] [.int (fX11_binds s0), .ref 103] dX11_behindSum_79 okX11_binds tw_1635 tw_1636 (by decide) (by decide) rfl (Nat.le_of_ble_eq_true rfl) rfl rfl (fun Q hQ => tX11_binds hG rfl hQ) ?_
    obtain ⟨M26, hM26, h⟩ := Option.bind_eq_some_iff.mp h
    refine sp_cV (M1 := M26) (r := none) (o := 103) (st := []) (c := 10) (RX11, TX11, 56) [.int (fX11_binds s0)] [.int (fX11_binds s0), .ref 103] [] dX11_behindSum_82 okX11_settle tw_1638 tw_1640 tw_62 (by decide) (by decide) rfl (Nat.le_of_ble_eq_true rfl) rfl rfl rfl rfl (wsI_103 hs) (fun Q hQ => tX11_settle hG hM26 hQ) ?_
    refine sp_aload_n dX11_behindSum_85 rfl rfl ?_
    refine sp_iload_n dX11_behindSum_86 rfl rfl ?_
    refine sp_iconst (v := 0) dX11_behindSum_87 (by decide) ?_
    refine sp_use (fun ho => ?_)
    have hs := hG.1 _ ho
    obtain ⟨M27, hM27, h⟩ := Option.bind_eq_some_iff.mp h
    refine sp_cV (M1 := M27) (r := none) (o := 103) (st := []) (c := 10) (RX11, TX11, 56) [.int s0, .int 0] [.int 0, .int s0, .ref 103] [] dX11_behindSum_88 okX11_push tw_1593 tw_1595 tw_52 (by decide) (by decide) rfl (Nat.le_of_ble_eq_true rfl) rfl rfl rfl rfl (wsI_103 hs) (fun Q hQ => tX11_push hG hM27 hQ) ?_
    refine sp_aload_n dX11_behindSum_91 rfl rfl ?_
    refine sp_use (fun ho => ?_)
    have hs := hG.1 _ ho
    obtain ⟨M28, hM28, h⟩ := Option.bind_eq_some_iff.mp h
    refine sp_cV (M1 := M28) (r := none) (o := 103) (st := []) (c := 10) (RX11, TX11, 56) [] [.ref 103] [] dX11_behindSum_92 okX11_next tw_1557 tw_1559 tw_46 (by decide) (by decide) rfl (Nat.le_of_ble_eq_true rfl) rfl rfl rfl rfl (wsI_103 hs) (fun Q hQ => tX11_next hG hM28 hQ) ?_
    refine sp_iconst (v := 1) dX11_behindSum_95 (by decide) ?_
    cases h
    exact sp_iret dX11_behindSum_96 (ty := .int) rfl rfl (fun _ => hQ)
set_option maxRecDepth 100000 in
set_option maxHeartbeats 4000000 in
theorem tX11_behindSum {g : sp_G} {Ω : sp_Mem → Prop} {Q : sp_Qt} {F : Nat} {p : (Int32 × sp_Mem)} (hG : sp_Ok Ω) {M : sp_Mem} {a1 : Int32} (h : fX11_behindSum F M a1 = some p) (hQ : Q (some (.int p.1)) p.2) : sp_Mt g Ω mX11_behindSum 0 0 [.ref 103, .int a1] M Q := by
  unfold fX11_behindSum at h
  refine sp_Mt.of [some (.ref 103), some (.int a1), none, none] (by decide) (by simp [sp_ent, Value.category]) rfl ?_
  refine sp_aload_n dX11_behindSum_0 rfl rfl ?_
  refine sp_bipush (v := 43) dX11_behindSum_1 (by decide) ?_
  refine sp_use (fun ho => ?_)
  have hs := hG.1 _ ho
  refine sp_cV (M1 := M) (r := some (.int (fX11_isSign M 43))) (o := 103) (st := []) (c := 10) (RX11, TX11, 56) [.int 43] [.int 43, .ref 103] [.int (fX11_isSign M 43)] dX11_behindSum_3 okX11_isSign tw_1597 tw_1599 tw_53 (by decide) (by decide) rfl (Nat.le_of_ble_eq_true rfl) rfl rfl rfl rfl (wsI_103 hs) (fun Q hQ => tX11_isSign hG rfl hQ) ?_
  refine sp_if_eq (tgt := 14) dX11_behindSum_6 (by decide) (fun hc1 => ?_) (fun hc1 => ?_)
  · have h := (if_pos hc1).symm.trans h
    refine sp_aload_n dX11_behindSum_14 rfl rfl ?_
    refine sp_bipush (v := 45) dX11_behindSum_15 (by decide) ?_
    refine sp_cV (M1 := M) (r := some (.int (fX11_isSign M 45))) (o := 103) (st := []) (c := 10) (RX11, TX11, 56) [.int 45] [.int 45, .ref 103] [.int (fX11_isSign M 45)] dX11_behindSum_17 okX11_isSign tw_1597 tw_1599 tw_53 (by decide) (by decide) rfl (Nat.le_of_ble_eq_true rfl) rfl rfl rfl rfl (wsI_103 hs) (fun Q hQ => tX11_isSign hG rfl hQ) ?_
    refine sp_if_eq (tgt := 28) dX11_behindSum_20 (by decide) (fun hc2 => ?_) (fun hc2 => ?_)
    · have h := (if_pos hc2).symm.trans h
      refine sp_aload_n dX11_behindSum_28 rfl rfl ?_
      refine sp_bipush (v := 42) dX11_behindSum_29 (by decide) ?_
      refine sp_cV (M1 := M) (r := some (.int (fX11_isSign M 42))) (o := 103) (st := []) (c := 10) (RX11, TX11, 56) [.int 42] [.int 42, .ref 103] [.int (fX11_isSign M 42)] dX11_behindSum_31 okX11_isSign tw_1597 tw_1599 tw_53 (by decide) (by decide) rfl (Nat.le_of_ble_eq_true rfl) rfl rfl rfl rfl (wsI_103 hs) (fun Q hQ => tX11_isSign hG rfl hQ) ?_
      refine sp_if_eq (tgt := 42) dX11_behindSum_34 (by decide) (fun hc3 => ?_) (fun hc3 => ?_)
      · have h := (if_pos hc3).symm.trans h
        refine sp_aload_n dX11_behindSum_42 rfl rfl ?_
        refine sp_bipush (v := 47) dX11_behindSum_43 (by decide) ?_
        refine sp_cV (M1 := M) (r := some (.int (fX11_isSign M 47))) (o := 103) (st := []) (c := 10) (RX11, TX11, 56) [.int 47] [.int 47, .ref 103] [.int (fX11_isSign M 47)] dX11_behindSum_45 okX11_isSign tw_1597 tw_1599 tw_53 (by decide) (by decide) rfl (Nat.le_of_ble_eq_true rfl) rfl rfl rfl rfl (wsI_103 hs) (fun Q hQ => tX11_isSign hG rfl hQ) ?_
        refine sp_if_eq (tgt := 56) dX11_behindSum_48 (by decide) (fun hc4 => ?_) (fun hc4 => ?_)
        · have h := (if_pos hc4).symm.trans h
          refine sp_aload_n dX11_behindSum_56 rfl rfl ?_
          refine sp_bipush (v := 37) dX11_behindSum_57 (by decide) ?_
          refine sp_cV (M1 := M) (r := some (.int (fX11_isSign M 37))) (o := 103) (st := []) (c := 10) (RX11, TX11, 56) [.int 37] [.int 37, .ref 103] [.int (fX11_isSign M 37)] dX11_behindSum_59 okX11_isSign tw_1597 tw_1599 tw_53 (by decide) (by decide) rfl (Nat.le_of_ble_eq_true rfl) rfl rfl rfl rfl (wsI_103 hs) (fun Q hQ => tX11_isSign hG rfl hQ) ?_
          suffices hj : sp_Wp g Ω mX11_behindSum 0 0 71 [some (.ref 103), some (.int a1), none, none] [.int (if (fX11_isSign M 37) = 0 then (-1) else 24)] M Q by
            refine sp_if_eq (tgt := 70) dX11_behindSum_62 (by decide) (fun hc5 => ?_) (fun hc5 => ?_)
            · refine sp_iconst (v := (-1)) dX11_behindSum_70 (by decide) ?_
              simp only [if_pos hc5] at hj
              exact hj
            · refine sp_bipush (v := 24) dX11_behindSum_65 (by decide) ?_
              refine sp_goto (tgt := 71) dX11_behindSum_67 (by decide) ?_
              simp only [if_neg hc5] at hj
              exact hj
          refine sp_weak [true, true, false, false] [some (.ref 103), some (.int a1), none, none] rfl ?_
          exact tX11_behindSum_j71 hG hQ _ _ _ h
        · have h := (if_neg hc4).symm.trans h
          refine sp_bipush (v := 23) dX11_behindSum_51 (by decide) ?_
          refine sp_goto (tgt := 71) dX11_behindSum_53 (by decide) ?_
          refine sp_weak [true, true, false, false] [some (.ref 103), some (.int a1), none, none] rfl ?_
          exact tX11_behindSum_j71 hG hQ _ _ _ h
      · have h := (if_neg hc3).symm.trans h
        refine sp_bipush (v := 22) dX11_behindSum_37 (by decide) ?_
        refine sp_goto (tgt := 71) dX11_behindSum_39 (by decide) ?_
        refine sp_weak [true, true, false, false] [some (.ref 103), some (.int a1), none, none] rfl ?_
        exact tX11_behindSum_j71 hG hQ _ _ _ h
    · have h := (if_neg hc2).symm.trans h
      refine sp_bipush (v := 21) dX11_behindSum_23 (by decide) ?_
      refine sp_goto (tgt := 71) dX11_behindSum_25 (by decide) ?_
      refine sp_weak [true, true, false, false] [some (.ref 103), some (.int a1), none, none] rfl ?_
      exact tX11_behindSum_j71 hG hQ _ _ _ h
  · have h := (if_neg hc1).symm.trans h
    refine sp_bipush (v := 20) dX11_behindSum_9 (by decide) ?_
    refine sp_goto (tgt := 71) dX11_behindSum_11 (by decide) ?_
    refine sp_weak [true, true, false, false] [some (.ref 103), some (.int a1), none, none] rfl ?_
    exact tX11_behindSum_j71 hG hQ _ _ _ h
def fX11_behindTest_j47 (F : Nat) (a1 : Int32) (s0 : Int32) (M : sp_Mem) : Option (Int32 × sp_Mem) :=
  (fX11_push M s0 (sp_I M 103 23)).bind fun M6 => (fX11_emit M6 (if a1 = 0 then 30 else 29) 0).bind fun M8 => (fX11_next F M8).bind fun M9 => some (0, M9)
def fX11_behindTest_j32 (F : Nat) (a1 : Int32) (s0 : Int32) (M : sp_Mem) : Option (Int32 × sp_Mem) :=
  (fX11_settle F M s0).bind fun M4 => fX11_behindTest_j47 F a1 (if a1 = 0 then 30 else 29) M4
def fX11_behindTest_j22 (F : Nat) (a1 : Int32) (M : sp_Mem) : Option (Int32 × sp_Mem) :=
  fX11_behindTest_j32 F a1 (if a1 = 0 then 1 else 2) M
def fX11_behindTest (F : Nat) (M : sp_Mem) : Option (Int32 × sp_Mem) :=
  sp_do ((fX11_isWord M 1476)) fun u1 => if u1 = 0 then (if (fX11_isWord M 498) = 0 then ((fX11_inner F M).bind fun v11 => if v11 = (-1) then (some (4, M)) else ((fX11_must F M (fX11_isSign M 41)).bind fun M13 => if (sp_I M13 103 19) = 0 then ((fX11_settle F M13 1).bind fun M15 => sp_do (sp_setI M15 103 29 ((sp_I M15 103 29) - 1)) fun M16 => sp_do (sp_setI M16 103 30 ((sp_I M16 103 30) - 1)) fun M17 => some (2, M17)) else (some (2, M13)))) else (fX11_behindTest_j22 F u1 M)) else (fX11_behindTest_j22 F u1 M)
set_option maxRecDepth 100000 in
set_option maxHeartbeats 4000000 in
theorem tX11_behindTest_j47 {g : sp_G} {Ω : sp_Mem → Prop} {Q : sp_Qt} {F : Nat} {p : (Int32 × sp_Mem)} (hG : sp_Ok Ω)  (hQ : Q (some (.int p.1)) p.2) (a1 : Int32) (s0 : Int32) (M : sp_Mem) (h : fX11_behindTest_j47 F a1 s0 M = some p) : sp_Wp g Ω mX11_behindTest 0 0 47 [some (.ref 103), some (.int a1)] [.int s0, .ref 103] M Q := by
  unfold fX11_behindTest_j47 at h
  refine sp_aload_n dX11_behindTest_47 rfl rfl ?_
  refine sp_use (fun ho => ?_)
  have hs := hG.1 _ ho
  refine sp_getI (RX11, TX11, 56) dX11_behindTest_48 clX11 (j := 23) (by decide) tw_1238 (wsI_103 hs) (Or.inl rfl) ?_
  obtain ⟨M6, hM6, h⟩ := Option.bind_eq_some_iff.mp h
  refine sp_cV (M1 := M6) (r := none) (o := 103) (st := []) (c := 10) (RX11, TX11, 56) [.int s0, .int (sp_I M 103 23)] [.int (sp_I M 103 23), .int s0, .ref 103] [] dX11_behindTest_51 okX11_push tw_1593 tw_1595 tw_52 (by decide) (by decide) rfl (Nat.le_of_ble_eq_true rfl) rfl rfl rfl rfl (wsI_103 hs) (fun Q hQ => tX11_push hG hM6 hQ) ?_
  refine sp_aload_n dX11_behindTest_54 rfl rfl ?_
  refine sp_iload_n dX11_behindTest_55 rfl rfl ?_
  suffices hj : sp_Wp g Ω mX11_behindTest 0 0 66 [some (.ref 103), none] [.int (if a1 = 0 then 30 else 29), .ref 103] M6 Q by
    refine sp_if_eq (tgt := 64) dX11_behindTest_56 (by decide) (fun hc7 => ?_) (fun hc7 => ?_)
    · refine sp_bipush (v := 30) dX11_behindTest_64 (by decide) ?_
      refine sp_weak [true, false] [some (.ref 103), none] rfl ?_
      simp only [if_pos hc7] at hj
      exact hj
    · refine sp_bipush (v := 29) dX11_behindTest_59 (by decide) ?_
      refine sp_goto (tgt := 66) dX11_behindTest_61 (by decide) ?_
      refine sp_weak [true, false] [some (.ref 103), none] rfl ?_
      simp only [if_neg hc7] at hj
      exact hj
  refine sp_iconst (v := 0) dX11_behindTest_66 (by decide) ?_
  refine sp_use (fun ho => ?_)
  have hs := hG.1 _ ho
  obtain ⟨M8, hM8, h⟩ := Option.bind_eq_some_iff.mp h
  refine sp_cV (M1 := M8) (r := none) (o := 103) (st := []) (c := 10) (RX11, TX11, 56) [.int (if a1 = 0 then 30 else 29), .int 0] [.int 0, .int (if a1 = 0 then 30 else 29), .ref 103] [] dX11_behindTest_67 okX11_emit tw_1622 tw_1624 tw_59 (by decide) (by decide) rfl (Nat.le_of_ble_eq_true rfl) rfl rfl rfl rfl (wsI_103 hs) (fun Q hQ => tX11_emit hG hM8 hQ) ?_
  refine sp_aload_n dX11_behindTest_70 rfl rfl ?_
  refine sp_use (fun ho => ?_)
  have hs := hG.1 _ ho
  obtain ⟨M9, hM9, h⟩ := Option.bind_eq_some_iff.mp h
  refine sp_cV (M1 := M9) (r := none) (o := 103) (st := []) (c := 10) (RX11, TX11, 56) [] [.ref 103] [] dX11_behindTest_71 okX11_next tw_1557 tw_1559 tw_46 (by decide) (by decide) rfl (Nat.le_of_ble_eq_true rfl) rfl rfl rfl rfl (wsI_103 hs) (fun Q hQ => tX11_next hG hM9 hQ) ?_
  refine sp_iconst (v := 0) dX11_behindTest_74 (by decide) ?_
  cases h
  exact sp_iret dX11_behindTest_75 (ty := .int) rfl rfl (fun _ => hQ)
set_option maxRecDepth 100000 in
set_option maxHeartbeats 4000000 in
theorem tX11_behindTest_j32 {g : sp_G} {Ω : sp_Mem → Prop} {Q : sp_Qt} {F : Nat} {p : (Int32 × sp_Mem)} (hG : sp_Ok Ω)  (hQ : Q (some (.int p.1)) p.2) (a1 : Int32) (s0 : Int32) (M : sp_Mem) (h : fX11_behindTest_j32 F a1 s0 M = some p) : sp_Wp g Ω mX11_behindTest 0 0 32 [some (.ref 103), some (.int a1)] [.int s0, .ref 103] M Q := by
  unfold fX11_behindTest_j32 at h
  refine sp_use (fun ho => ?_)
  have hs := hG.1 _ ho
  obtain ⟨M4, hM4, h⟩ := Option.bind_eq_some_iff.mp h
  refine sp_cV (M1 := M4) (r := none) (o := 103) (st := []) (c := 10) (RX11, TX11, 56) [.int s0] [.int s0, .ref 103] [] dX11_behindTest_32 okX11_settle tw_1638 tw_1640 tw_62 (by decide) (by decide) rfl (Nat.le_of_ble_eq_true rfl) rfl rfl rfl rfl (wsI_103 hs) (fun Q hQ => tX11_settle hG hM4 hQ) ?_
  refine sp_aload_n dX11_behindTest_35 rfl rfl ?_
  refine sp_iload_n dX11_behindTest_36 rfl rfl ?_
  suffices hj : sp_Wp g Ω mX11_behindTest 0 0 47 [some (.ref 103), some (.int a1)] [.int (if a1 = 0 then 30 else 29), .ref 103] M4 Q by
    refine sp_if_eq (tgt := 45) dX11_behindTest_37 (by decide) (fun hc5 => ?_) (fun hc5 => ?_)
    · refine sp_bipush (v := 30) dX11_behindTest_45 (by decide) ?_
      simp only [if_pos hc5] at hj
      exact hj
    · refine sp_bipush (v := 29) dX11_behindTest_40 (by decide) ?_
      refine sp_goto (tgt := 47) dX11_behindTest_42 (by decide) ?_
      simp only [if_neg hc5] at hj
      exact hj
  refine sp_weak [true, true] [some (.ref 103), some (.int a1)] rfl ?_
  exact tX11_behindTest_j47 hG hQ _ _ _ h
set_option maxRecDepth 100000 in
set_option maxHeartbeats 4000000 in
theorem tX11_behindTest_j22 {g : sp_G} {Ω : sp_Mem → Prop} {Q : sp_Qt} {F : Nat} {p : (Int32 × sp_Mem)} (hG : sp_Ok Ω)  (hQ : Q (some (.int p.1)) p.2) (a1 : Int32) (M : sp_Mem) (h : fX11_behindTest_j22 F a1 M = some p) : sp_Wp g Ω mX11_behindTest 0 0 22 [some (.ref 103), some (.int a1)] [] M Q := by
  unfold fX11_behindTest_j22 at h
  refine sp_aload_n dX11_behindTest_22 rfl rfl ?_
  refine sp_iload_n dX11_behindTest_23 rfl rfl ?_
  suffices hj : sp_Wp g Ω mX11_behindTest 0 0 32 [some (.ref 103), some (.int a1)] [.int (if a1 = 0 then 1 else 2), .ref 103] M Q by
    refine sp_if_eq (tgt := 31) dX11_behindTest_24 (by decide) (fun hc3 => ?_) (fun hc3 => ?_)
    · refine sp_iconst (v := 1) dX11_behindTest_31 (by decide) ?_
      simp only [if_pos hc3] at hj
      exact hj
    · refine sp_iconst (v := 2) dX11_behindTest_27 (by decide) ?_
      refine sp_goto (tgt := 32) dX11_behindTest_28 (by decide) ?_
      simp only [if_neg hc3] at hj
      exact hj
  refine sp_weak [true, true] [some (.ref 103), some (.int a1)] rfl ?_
  exact tX11_behindTest_j32 hG hQ _ _ _ h
set_option maxRecDepth 100000 in
set_option maxHeartbeats 4000000 in
theorem tX11_behindTest {g : sp_G} {Ω : sp_Mem → Prop} {Q : sp_Qt} {F : Nat} {p : (Int32 × sp_Mem)} (hG : sp_Ok Ω) {M : sp_Mem} (h : fX11_behindTest F M = some p) (hQ : Q (some (.int p.1)) p.2) : sp_Mt g Ω mX11_behindTest 0 0 [.ref 103] M Q := by
  unfold fX11_behindTest at h
  refine sp_Mt.of [some (.ref 103), none] (by decide) (by simp [sp_ent, Value.category]) rfl ?_
  refine sp_aload_n dX11_behindTest_0 rfl rfl ?_
  refine sp_ldc2 (v := 1476) dX11_behindTest_1 tw_1656 ?_
  refine sp_use (fun ho => ?_)
  have hs := hG.1 _ ho
  refine sp_cV (M1 := M) (r := some (.int (fX11_isWord M 1476))) (o := 103) (st := []) (c := 10) (RX11, TX11, 56) [.long 1476] [.long 1476, .ref 103] [.int (fX11_isWord M 1476)] dX11_behindTest_4 okX11_isWord tw_1576 tw_1578 tw_48 (by decide) (by decide) rfl (Nat.le_of_ble_eq_true rfl) rfl rfl rfl rfl (wsI_103 hs) (fun Q hQ => tX11_isWord hG rfl hQ) ?_
  obtain ⟨u1, hu1, h⟩ := sp_do_e h
  refine sp_topi hu1 ?_
  refine sp_istore_n [some (.ref 103), some (.int u1)] dX11_behindTest_7 rfl (by decide) rfl ?_
  refine sp_iload_n dX11_behindTest_8 rfl rfl ?_
  refine sp_if_ne (tgt := 22) dX11_behindTest_9 (by decide) (fun hc2 => ?_) (fun hc2 => ?_)
  · have h := (if_neg hc2).symm.trans h
    refine sp_weak [true, true] [some (.ref 103), some (.int u1)] rfl ?_
    exact tX11_behindTest_j22 hG hQ _ _ h
  · have h := (if_pos hc2).symm.trans h
    refine sp_aload_n dX11_behindTest_12 rfl rfl ?_
    refine sp_ldc2 (v := 498) dX11_behindTest_13 tw_1657 ?_
    refine sp_cV (M1 := M) (r := some (.int (fX11_isWord M 498))) (o := 103) (st := []) (c := 10) (RX11, TX11, 56) [.long 498] [.long 498, .ref 103] [.int (fX11_isWord M 498)] dX11_behindTest_16 okX11_isWord tw_1576 tw_1578 tw_48 (by decide) (by decide) rfl (Nat.le_of_ble_eq_true rfl) rfl rfl rfl rfl (wsI_103 hs) (fun Q hQ => tX11_isWord hG rfl hQ) ?_
    refine sp_if_eq (tgt := 76) dX11_behindTest_19 (by decide) (fun hc10 => ?_) (fun hc10 => ?_)
    · have h := (if_pos hc10).symm.trans h
      refine sp_aload_n dX11_behindTest_76 rfl rfl ?_
      obtain ⟨v11, hv11, h⟩ := Option.bind_eq_some_iff.mp h
      refine sp_cV (M1 := M) (r := some (.int v11)) (o := 103) (st := []) (c := 10) (RX11, TX11, 56) [] [.ref 103] [.int v11] dX11_behindTest_77 okX11_inner tw_1642 tw_1644 tw_63 (by decide) (by decide) rfl (Nat.le_of_ble_eq_true rfl) rfl rfl rfl rfl (wsI_103 hs) (fun Q hQ => tX11_inner hG hv11 hQ) ?_
      refine sp_iconst (v := (-1)) dX11_behindTest_80 (by decide) ?_
      refine sp_icmp_ne (tgt := 86) dX11_behindTest_81 (by decide) (fun hc12 => ?_) (fun hc12 => ?_)
      · have h := (if_neg hc12).symm.trans h
        refine sp_aload_n dX11_behindTest_86 rfl rfl ?_
        refine sp_aload_n dX11_behindTest_87 rfl rfl ?_
        refine sp_bipush (v := 41) dX11_behindTest_88 (by decide) ?_
        refine sp_cV (M1 := M) (r := some (.int (fX11_isSign M 41))) (o := 103) (st := [.ref 103]) (c := 10) (RX11, TX11, 56) [.int 41] [.int 41, .ref 103, .ref 103] [.int (fX11_isSign M 41), .ref 103] dX11_behindTest_90 okX11_isSign tw_1597 tw_1599 tw_53 (by decide) (by decide) rfl (Nat.le_of_ble_eq_true rfl) rfl rfl rfl rfl (wsI_103 hs) (fun Q hQ => tX11_isSign hG rfl hQ) ?_
        obtain ⟨M13, hM13, h⟩ := Option.bind_eq_some_iff.mp h
        refine sp_cV (M1 := M13) (r := none) (o := 103) (st := []) (c := 10) (RX11, TX11, 56) [.int (fX11_isSign M 41)] [.int (fX11_isSign M 41), .ref 103] [] dX11_behindTest_93 okX11_must tw_1580 tw_1582 tw_49 (by decide) (by decide) rfl (Nat.le_of_ble_eq_true rfl) rfl rfl rfl rfl (wsI_103 hs) (fun Q hQ => tX11_must hG hM13 hQ) ?_
        refine sp_aload_n dX11_behindTest_96 rfl rfl ?_
        refine sp_use (fun ho => ?_)
        have hs := hG.1 _ ho
        refine sp_getI (RX11, TX11, 56) dX11_behindTest_97 clX11 (j := 19) (by decide) tw_1234 (wsI_103 hs) (Or.inr rfl) ?_
        refine sp_if_ne (tgt := 128) dX11_behindTest_100 (by decide) (fun hc14 => ?_) (fun hc14 => ?_)
        · have h := (if_neg hc14).symm.trans h
          refine sp_iconst (v := 2) dX11_behindTest_128 (by decide) ?_
          cases h
          exact sp_iret dX11_behindTest_129 (ty := .int) rfl rfl (fun _ => hQ)
        · have h := (if_pos hc14).symm.trans h
          refine sp_aload_n dX11_behindTest_103 rfl rfl ?_
          refine sp_iconst (v := 1) dX11_behindTest_104 (by decide) ?_
          obtain ⟨M15, hM15, h⟩ := Option.bind_eq_some_iff.mp h
          refine sp_cV (M1 := M15) (r := none) (o := 103) (st := []) (c := 10) (RX11, TX11, 56) [.int 1] [.int 1, .ref 103] [] dX11_behindTest_105 okX11_settle tw_1638 tw_1640 tw_62 (by decide) (by decide) rfl (Nat.le_of_ble_eq_true rfl) rfl rfl rfl rfl (wsI_103 hs) (fun Q hQ => tX11_settle hG hM15 hQ) ?_
          refine sp_aload_n dX11_behindTest_108 rfl rfl ?_
          refine sp_dup dX11_behindTest_109 rfl ?_
          refine sp_use (fun ho => ?_)
          have hs := hG.1 _ ho
          refine sp_getI (RX11, TX11, 56) dX11_behindTest_110 clX11 (j := 29) (by decide) tw_1244 (wsI_103 hs) (Or.inl rfl) ?_
          refine sp_iconst (v := 1) dX11_behindTest_113 (by decide) ?_
          refine sp_isub dX11_behindTest_114 ?_
          obtain ⟨M16, hM16, h⟩ := sp_do_e h
          refine sp_putI2 (RX11, TX11, 56) hG dX11_behindTest_115 clX11 (j := 29) (by decide) tw_1244 rfl (Or.inl rfl) (wsI_103 hs) hM16 ?_
          refine sp_aload_n dX11_behindTest_118 rfl rfl ?_
          refine sp_dup dX11_behindTest_119 rfl ?_
          refine sp_use (fun ho => ?_)
          have hs := hG.1 _ ho
          refine sp_getI (RX11, TX11, 56) dX11_behindTest_120 clX11 (j := 30) (by decide) tw_1245 (wsI_103 hs) (Or.inl rfl) ?_
          refine sp_iconst (v := 1) dX11_behindTest_123 (by decide) ?_
          refine sp_isub dX11_behindTest_124 ?_
          obtain ⟨M17, hM17, h⟩ := sp_do_e h
          refine sp_putI2 (RX11, TX11, 56) hG dX11_behindTest_125 clX11 (j := 30) (by decide) tw_1245 rfl (Or.inl rfl) (wsI_103 hs) hM17 ?_
          refine sp_iconst (v := 2) dX11_behindTest_128 (by decide) ?_
          cases h
          exact sp_iret dX11_behindTest_129 (ty := .int) rfl rfl (fun _ => hQ)
      · have h := (if_pos hc12).symm.trans h
        refine sp_iconst (v := 4) dX11_behindTest_84 (by decide) ?_
        cases h
        exact sp_iret dX11_behindTest_85 (ty := .int) rfl rfl (fun _ => hQ)
    · have h := (if_neg hc10).symm.trans h
      refine sp_weak [true, true] [some (.ref 103), some (.int u1)] rfl ?_
      exact tX11_behindTest_j22 hG hQ _ _ h
def fX11_readExpression_l20 (F : Nat) (kx : sp_Mem → Option sp_Mem) : Nat → Int32 → Int32 → sp_Mem → Option sp_Mem
  | 0, _, _, _ => none
  | n + 1, a1, a2, M =>
  if (sp_I M 103 19) = 0 then (if a2 = 4 then (kx M) else (if a2 = 0 then ((fX11_readPlain F M).bind fun x12 => (fX11_readExpression_l20 F kx n) a1 x12.1 x12.2) else (if a2 = 1 then ((fX11_readPart F M).bind fun x11 => (fX11_readExpression_l20 F kx n) a1 x11.1 x11.2) else (if a2 = 3 then ((fX11_behindSum F M a1).bind fun x10 => (fX11_readExpression_l20 F kx n) a1 x10.1 x10.2) else ((fX11_behindTest F M).bind fun x9 => (fX11_readExpression_l20 F kx n) a1 x9.1 x9.2))))) else (kx M)
def fX11_readExpression_j19 (F : Nat) (a1 : Int32) (s0 : Int32) (M : sp_Mem) : Option sp_Mem :=
  fX11_readExpression_l20 F (fun M13 => (fX11_settle F M13 1).bind fun M14 => some M14) F a1 s0 M
def fX11_readExpression (F : Nat) (M : sp_Mem) (a1 : Int32) : Option sp_Mem :=
  sp_do (sp_setI M 103 29 0) fun M1 => sp_do (sp_setI M1 103 30 0) fun M2 => fX11_readExpression_j19 F a1 (if a1 = 0 then 1 else 0) M2
set_option maxRecDepth 100000 in
set_option maxHeartbeats 4000000 in
theorem tX11_readExpression_l20 {g : sp_G} {Ω : sp_Mem → Prop} {Q : sp_Qt} {F : Nat} {p : sp_Mem} (hG : sp_Ok Ω)  {kx : sp_Mem → Option sp_Mem} (hQ : Q none p) (hx : ∀  (M : sp_Mem), kx M = some p → sp_Wp g Ω mX11_readExpression 0 0 76 [some (.ref 103), none, none] [] M Q) : ∀ (n : Nat) (a1 : Int32) (a2 : Int32) (M : sp_Mem), fX11_readExpression_l20 F kx n a1 a2 M = some p → sp_Wp g Ω mX11_readExpression 0 0 20 [some (.ref 103), some (.int a1), some (.int a2)] [] M Q := by
  intro n
  induction n with
  | zero =>
    intro a1 a2 M h
    rw [fX11_readExpression_l20] at h
    cases h
  | succ n ih =>
    intro a1 a2 M h
    rw [fX11_readExpression_l20] at h
    refine sp_aload_n dX11_readExpression_20 rfl rfl ?_
    refine sp_use (fun ho => ?_)
    have hs := hG.1 _ ho
    refine sp_getI (RX11, TX11, 56) dX11_readExpression_21 clX11 (j := 19) (by decide) tw_1234 (wsI_103 hs) (Or.inr rfl) ?_
    refine sp_if_ne (tgt := 76) dX11_readExpression_24 (by decide) (fun hc4 => ?_) (fun hc4 => ?_)
    · have h := (if_neg hc4).symm.trans h
      refine sp_weak [true, false, false] [some (.ref 103), none, none] rfl ?_
      exact hx _ h
    · have h := (if_pos hc4).symm.trans h
      refine sp_iload_n dX11_readExpression_27 rfl rfl ?_
      refine sp_iconst (v := 4) dX11_readExpression_28 (by decide) ?_
      refine sp_icmp_eq (tgt := 76) dX11_readExpression_29 (by decide) (fun hc5 => ?_) (fun hc5 => ?_)
      · have h := (if_pos hc5).symm.trans h
        refine sp_weak [true, false, false] [some (.ref 103), none, none] rfl ?_
        exact hx _ h
      · have h := (if_neg hc5).symm.trans h
        refine sp_iload_n dX11_readExpression_32 rfl rfl ?_
        refine sp_if_ne (tgt := 43) dX11_readExpression_33 (by decide) (fun hc6 => ?_) (fun hc6 => ?_)
        · have h := (if_neg hc6).symm.trans h
          refine sp_iload_n dX11_readExpression_43 rfl rfl ?_
          refine sp_iconst (v := 1) dX11_readExpression_44 (by decide) ?_
          refine sp_icmp_ne (tgt := 55) dX11_readExpression_45 (by decide) (fun hc7 => ?_) (fun hc7 => ?_)
          · have h := (if_neg hc7).symm.trans h
            refine sp_iload_n dX11_readExpression_55 rfl rfl ?_
            refine sp_iconst (v := 3) dX11_readExpression_56 (by decide) ?_
            refine sp_icmp_ne (tgt := 68) dX11_readExpression_57 (by decide) (fun hc8 => ?_) (fun hc8 => ?_)
            · have h := (if_neg hc8).symm.trans h
              refine sp_aload_n dX11_readExpression_68 rfl rfl ?_
              obtain ⟨x9, hx9, h⟩ := Option.bind_eq_some_iff.mp h
              refine sp_cV (M1 := x9.2) (r := some (.int x9.1)) (o := 103) (st := []) (c := 10) (RX11, TX11, 56) [] [.ref 103] [.int x9.1] dX11_readExpression_69 okX11_behindTest tw_1652 tw_1654 tw_65 (by decide) (by decide) rfl (Nat.le_of_ble_eq_true rfl) rfl rfl rfl rfl (wsI_103 hs) (fun Q hQ => tX11_behindTest hG hx9 hQ) ?_
              refine sp_istore_n [some (.ref 103), some (.int a1), some (.int x9.1)] dX11_readExpression_72 rfl (by decide) rfl ?_
              refine sp_goto (tgt := 20) dX11_readExpression_73 (by decide) ?_
              refine sp_weak [true, true, true] [some (.ref 103), some (.int a1), some (.int x9.1)] rfl ?_
              exact ih _ _ _ h
            · have h := (if_pos hc8).symm.trans h
              refine sp_aload_n dX11_readExpression_60 rfl rfl ?_
              refine sp_iload_n dX11_readExpression_61 rfl rfl ?_
              obtain ⟨x10, hx10, h⟩ := Option.bind_eq_some_iff.mp h
              refine sp_cV (M1 := x10.2) (r := some (.int x10.1)) (o := 103) (st := []) (c := 10) (RX11, TX11, 56) [.int a1] [.int a1, .ref 103] [.int x10.1] dX11_readExpression_62 okX11_behindSum tw_1631 tw_1633 tw_61 (by decide) (by decide) rfl (Nat.le_of_ble_eq_true rfl) rfl rfl rfl rfl (wsI_103 hs) (fun Q hQ => tX11_behindSum hG hx10 hQ) ?_
              refine sp_goto (tgt := 72) dX11_readExpression_65 (by decide) ?_
              refine sp_istore_n [some (.ref 103), some (.int a1), some (.int x10.1)] dX11_readExpression_72 rfl (by decide) rfl ?_
              refine sp_goto (tgt := 20) dX11_readExpression_73 (by decide) ?_
              refine sp_weak [true, true, true] [some (.ref 103), some (.int a1), some (.int x10.1)] rfl ?_
              exact ih _ _ _ h
          · have h := (if_pos hc7).symm.trans h
            refine sp_aload_n dX11_readExpression_48 rfl rfl ?_
            obtain ⟨x11, hx11, h⟩ := Option.bind_eq_some_iff.mp h
            refine sp_cV (M1 := x11.2) (r := some (.int x11.1)) (o := 103) (st := []) (c := 10) (RX11, TX11, 56) [] [.ref 103] [.int x11.1] dX11_readExpression_49 okX11_readPart tw_1605 tw_1607 tw_55 (by decide) (by decide) rfl (Nat.le_of_ble_eq_true rfl) rfl rfl rfl rfl (wsI_103 hs) (fun Q hQ => tX11_readPart hG hx11 hQ) ?_
            refine sp_goto (tgt := 72) dX11_readExpression_52 (by decide) ?_
            refine sp_istore_n [some (.ref 103), some (.int a1), some (.int x11.1)] dX11_readExpression_72 rfl (by decide) rfl ?_
            refine sp_goto (tgt := 20) dX11_readExpression_73 (by decide) ?_
            refine sp_weak [true, true, true] [some (.ref 103), some (.int a1), some (.int x11.1)] rfl ?_
            exact ih _ _ _ h
        · have h := (if_pos hc6).symm.trans h
          refine sp_aload_n dX11_readExpression_36 rfl rfl ?_
          obtain ⟨x12, hx12, h⟩ := Option.bind_eq_some_iff.mp h
          refine sp_cV (M1 := x12.2) (r := some (.int x12.1)) (o := 103) (st := []) (c := 10) (RX11, TX11, 56) [] [.ref 103] [.int x12.1] dX11_readExpression_37 okX11_readPlain tw_1588 tw_1590 tw_51 (by decide) (by decide) rfl (Nat.le_of_ble_eq_true rfl) rfl rfl rfl rfl (wsI_103 hs) (fun Q hQ => tX11_readPlain hG hx12 hQ) ?_
          refine sp_goto (tgt := 72) dX11_readExpression_40 (by decide) ?_
          refine sp_istore_n [some (.ref 103), some (.int a1), some (.int x12.1)] dX11_readExpression_72 rfl (by decide) rfl ?_
          refine sp_goto (tgt := 20) dX11_readExpression_73 (by decide) ?_
          refine sp_weak [true, true, true] [some (.ref 103), some (.int a1), some (.int x12.1)] rfl ?_
          exact ih _ _ _ h
set_option maxRecDepth 100000 in
set_option maxHeartbeats 4000000 in
theorem tX11_readExpression_j19 {g : sp_G} {Ω : sp_Mem → Prop} {Q : sp_Qt} {F : Nat} {p : sp_Mem} (hG : sp_Ok Ω)  (hQ : Q none p) (a1 : Int32) (s0 : Int32) (M : sp_Mem) (h : fX11_readExpression_j19 F a1 s0 M = some p) : sp_Wp g Ω mX11_readExpression 0 0 19 [some (.ref 103), some (.int a1), none] [.int s0] M Q := by
  unfold fX11_readExpression_j19 at h
  refine sp_istore_n [some (.ref 103), some (.int a1), some (.int s0)] dX11_readExpression_19 rfl (by decide) rfl ?_
  refine sp_weak [true, true, true] [some (.ref 103), some (.int a1), some (.int s0)] rfl ?_
  refine tX11_readExpression_l20 hG hQ (fun M13 h => ?_) F _ _ _ h
  refine sp_aload_n dX11_readExpression_76 rfl rfl ?_
  refine sp_iconst (v := 1) dX11_readExpression_77 (by decide) ?_
  refine sp_use (fun ho => ?_)
  have hs := hG.1 _ ho
  obtain ⟨M14, hM14, h⟩ := Option.bind_eq_some_iff.mp h
  refine sp_cV (M1 := M14) (r := none) (o := 103) (st := []) (c := 10) (RX11, TX11, 56) [.int 1] [.int 1, .ref 103] [] dX11_readExpression_78 okX11_settle tw_1638 tw_1640 tw_62 (by decide) (by decide) rfl (Nat.le_of_ble_eq_true rfl) rfl rfl rfl rfl (wsI_103 hs) (fun Q hQ => tX11_settle hG hM14 hQ) ?_
  cases h
  exact sp_vret dX11_readExpression_81 rfl (fun _ => hQ)
set_option maxRecDepth 100000 in
set_option maxHeartbeats 4000000 in
theorem tX11_readExpression {g : sp_G} {Ω : sp_Mem → Prop} {Q : sp_Qt} {F : Nat} {p : sp_Mem} (hG : sp_Ok Ω) {M : sp_Mem} {a1 : Int32} (h : fX11_readExpression F M a1 = some p) (hQ : Q none p) : sp_Mt g Ω mX11_readExpression 0 0 [.ref 103, .int a1] M Q := by
  unfold fX11_readExpression at h
  refine sp_Mt.of [some (.ref 103), some (.int a1), none] (by decide) (by simp [sp_ent, Value.category]) rfl ?_
  refine sp_aload_n dX11_readExpression_0 rfl rfl ?_
  refine sp_iconst (v := 0) dX11_readExpression_1 (by decide) ?_
  refine sp_use (fun ho => ?_)
  have hs := hG.1 _ ho
  obtain ⟨M1, hM1, h⟩ := sp_do_e h
  refine sp_putI2 (RX11, TX11, 56) hG dX11_readExpression_2 clX11 (j := 29) (by decide) tw_1244 rfl (Or.inl rfl) (wsI_103 hs) hM1 ?_
  refine sp_aload_n dX11_readExpression_5 rfl rfl ?_
  refine sp_iconst (v := 0) dX11_readExpression_6 (by decide) ?_
  refine sp_use (fun ho => ?_)
  have hs := hG.1 _ ho
  obtain ⟨M2, hM2, h⟩ := sp_do_e h
  refine sp_putI2 (RX11, TX11, 56) hG dX11_readExpression_7 clX11 (j := 30) (by decide) tw_1245 rfl (Or.inl rfl) (wsI_103 hs) hM2 ?_
  refine sp_iload_n dX11_readExpression_10 rfl rfl ?_
  suffices hj : sp_Wp g Ω mX11_readExpression 0 0 19 [some (.ref 103), some (.int a1), none] [.int (if a1 = 0 then 1 else 0)] M2 Q by
    refine sp_if_eq (tgt := 18) dX11_readExpression_11 (by decide) (fun hc3 => ?_) (fun hc3 => ?_)
    · refine sp_iconst (v := 1) dX11_readExpression_18 (by decide) ?_
      simp only [if_pos hc3] at hj
      exact hj
    · refine sp_iconst (v := 0) dX11_readExpression_14 (by decide) ?_
      refine sp_goto (tgt := 19) dX11_readExpression_15 (by decide) ?_
      simp only [if_neg hc3] at hj
      exact hj
  refine sp_weak [true, true, false] [some (.ref 103), some (.int a1), none] rfl ?_
  exact tX11_readExpression_j19 hG hQ _ _ _ h
def fX11_beginText (F : Nat) (M : sp_Mem) (a1 : Int32) : Option sp_Mem :=
  sp_do (sp_setI M 103 20 a1) fun M1 => (sp_b01 a1).bind fun _ => (fX11_begin F M1).bind fun M3 => sp_do (sp_setI M3 103 21 0) fun M4 => sp_do (sp_setI M4 103 23 0) fun M5 => sp_do (sp_setI M5 103 26 0) fun M6 => some M6
set_option maxRecDepth 100000 in
set_option maxHeartbeats 4000000 in
theorem tX11_beginText {g : sp_G} {Ω : sp_Mem → Prop} {Q : sp_Qt} {F : Nat} {p : sp_Mem} (hG : sp_Ok Ω) {M : sp_Mem} {a1 : Int32} (h : fX11_beginText F M a1 = some p) (hQ : Q none p) : sp_Mt g Ω mX11_beginText 0 0 [.ref 103, .int a1] M Q := by
  unfold fX11_beginText at h
  refine sp_Mt.of [some (.ref 103), some (.int a1)] (by decide) (by simp [sp_ent, Value.category]) rfl ?_
  refine sp_aload_n dX11_beginText_0 rfl rfl ?_
  refine sp_iload_n dX11_beginText_1 rfl rfl ?_
  refine sp_use (fun ho => ?_)
  have hs := hG.1 _ ho
  obtain ⟨M1, hM1, h⟩ := sp_do_e h
  obtain ⟨_, hz2, h⟩ := Option.bind_eq_some_iff.mp h
  refine sp_putI2 (RX11, TX11, 56) hG dX11_beginText_2 clX11 (j := 20) (by decide) tw_1235 rfl (Or.inr ⟨rfl, (sp_b01_e hz2)⟩) (wsI_103 hs) hM1 ?_
  refine sp_aload_n dX11_beginText_5 rfl rfl ?_
  refine sp_use (fun ho => ?_)
  have hs := hG.1 _ ho
  obtain ⟨M3, hM3, h⟩ := Option.bind_eq_some_iff.mp h
  refine sp_cV (M1 := M3) (r := none) (o := 103) (st := []) (c := 10) (RX11, TX11, 56) [] [.ref 103] [] dX11_beginText_6 okX11_begin tw_1553 tw_1555 tw_45 (by decide) (by decide) rfl (Nat.le_of_ble_eq_true rfl) rfl rfl rfl rfl (wsI_103 hs) (fun Q hQ => tX11_begin hG hM3 hQ) ?_
  refine sp_aload_n dX11_beginText_9 rfl rfl ?_
  refine sp_iconst (v := 0) dX11_beginText_10 (by decide) ?_
  refine sp_use (fun ho => ?_)
  have hs := hG.1 _ ho
  obtain ⟨M4, hM4, h⟩ := sp_do_e h
  refine sp_putI2 (RX11, TX11, 56) hG dX11_beginText_11 clX11 (j := 21) (by decide) tw_1236 rfl (Or.inl rfl) (wsI_103 hs) hM4 ?_
  refine sp_aload_n dX11_beginText_14 rfl rfl ?_
  refine sp_iconst (v := 0) dX11_beginText_15 (by decide) ?_
  refine sp_use (fun ho => ?_)
  have hs := hG.1 _ ho
  obtain ⟨M5, hM5, h⟩ := sp_do_e h
  refine sp_putI2 (RX11, TX11, 56) hG dX11_beginText_16 clX11 (j := 23) (by decide) tw_1238 rfl (Or.inl rfl) (wsI_103 hs) hM5 ?_
  refine sp_aload_n dX11_beginText_19 rfl rfl ?_
  refine sp_iconst (v := 0) dX11_beginText_20 (by decide) ?_
  refine sp_use (fun ho => ?_)
  have hs := hG.1 _ ho
  obtain ⟨M6, hM6, h⟩ := sp_do_e h
  refine sp_putI2 (RX11, TX11, 56) hG dX11_beginText_21 clX11 (j := 26) (by decide) tw_1241 rfl (Or.inl rfl) (wsI_103 hs) hM6 ?_
  cases h
  exact sp_vret dX11_beginText_24 rfl (fun _ => hQ)
def fX11_endText (F : Nat) (M : sp_Mem) : Option sp_Mem :=
  if (sp_I M 103 19) = 0 then (if (sp_I M 103 16) = 0 then (sp_do (sp_setI M 103 20 0) fun M5 => sp_do (sp_setI M5 103 13 0) fun M6 => some M6) else ((fX11_must F M 0).bind fun M7 => sp_do (sp_setI M7 103 20 0) fun M8 => sp_do (sp_setI M8 103 13 0) fun M9 => some M9)) else (sp_do (sp_setI M 103 20 0) fun M2 => sp_do (sp_setI M2 103 13 0) fun M3 => some M3)
set_option maxRecDepth 100000 in
set_option maxHeartbeats 4000000 in
theorem tX11_endText {g : sp_G} {Ω : sp_Mem → Prop} {Q : sp_Qt} {F : Nat} {p : sp_Mem} (hG : sp_Ok Ω) {M : sp_Mem} (h : fX11_endText F M = some p) (hQ : Q none p) : sp_Mt g Ω mX11_endText 0 0 [.ref 103] M Q := by
  unfold fX11_endText at h
  refine sp_Mt.of [some (.ref 103)] (by decide) (by simp [sp_ent, Value.category]) rfl ?_
  refine sp_aload_n dX11_endText_0 rfl rfl ?_
  refine sp_use (fun ho => ?_)
  have hs := hG.1 _ ho
  refine sp_getI (RX11, TX11, 56) dX11_endText_1 clX11 (j := 19) (by decide) tw_1234 (wsI_103 hs) (Or.inr rfl) ?_
  refine sp_if_ne (tgt := 19) dX11_endText_4 (by decide) (fun hc1 => ?_) (fun hc1 => ?_)
  · have h := (if_neg hc1).symm.trans h
    refine sp_aload_n dX11_endText_19 rfl rfl ?_
    refine sp_iconst (v := 0) dX11_endText_20 (by decide) ?_
    obtain ⟨M2, hM2, h⟩ := sp_do_e h
    refine sp_putI2 (RX11, TX11, 56) hG dX11_endText_21 clX11 (j := 20) (by decide) tw_1235 rfl (Or.inr ⟨rfl, (Or.inl rfl)⟩) (wsI_103 hs) hM2 ?_
    refine sp_aload_n dX11_endText_24 rfl rfl ?_
    refine sp_iconst (v := 0) dX11_endText_25 (by decide) ?_
    refine sp_use (fun ho => ?_)
    have hs := hG.1 _ ho
    obtain ⟨M3, hM3, h⟩ := sp_do_e h
    refine sp_putI2 (RX11, TX11, 56) hG dX11_endText_26 clX11 (j := 13) (by decide) tw_1228 rfl (Or.inl rfl) (wsI_103 hs) hM3 ?_
    cases h
    exact sp_vret dX11_endText_29 rfl (fun _ => hQ)
  · have h := (if_pos hc1).symm.trans h
    refine sp_aload_n dX11_endText_7 rfl rfl ?_
    refine sp_getI (RX11, TX11, 56) dX11_endText_8 clX11 (j := 16) (by decide) tw_1231 (wsI_103 hs) (Or.inl rfl) ?_
    refine sp_if_eq (tgt := 19) dX11_endText_11 (by decide) (fun hc4 => ?_) (fun hc4 => ?_)
    · have h := (if_pos hc4).symm.trans h
      refine sp_aload_n dX11_endText_19 rfl rfl ?_
      refine sp_iconst (v := 0) dX11_endText_20 (by decide) ?_
      obtain ⟨M5, hM5, h⟩ := sp_do_e h
      refine sp_putI2 (RX11, TX11, 56) hG dX11_endText_21 clX11 (j := 20) (by decide) tw_1235 rfl (Or.inr ⟨rfl, (Or.inl rfl)⟩) (wsI_103 hs) hM5 ?_
      refine sp_aload_n dX11_endText_24 rfl rfl ?_
      refine sp_iconst (v := 0) dX11_endText_25 (by decide) ?_
      refine sp_use (fun ho => ?_)
      have hs := hG.1 _ ho
      obtain ⟨M6, hM6, h⟩ := sp_do_e h
      refine sp_putI2 (RX11, TX11, 56) hG dX11_endText_26 clX11 (j := 13) (by decide) tw_1228 rfl (Or.inl rfl) (wsI_103 hs) hM6 ?_
      cases h
      exact sp_vret dX11_endText_29 rfl (fun _ => hQ)
    · have h := (if_neg hc4).symm.trans h
      refine sp_aload_n dX11_endText_14 rfl rfl ?_
      refine sp_iconst (v := 0) dX11_endText_15 (by decide) ?_
      obtain ⟨M7, hM7, h⟩ := Option.bind_eq_some_iff.mp h
      refine sp_cV (M1 := M7) (r := none) (o := 103) (st := []) (c := 10) (RX11, TX11, 56) [.int 0] [.int 0, .ref 103] [] dX11_endText_16 okX11_must tw_1580 tw_1582 tw_49 (by decide) (by decide) rfl (Nat.le_of_ble_eq_true rfl) rfl rfl rfl rfl (wsI_103 hs) (fun Q hQ => tX11_must hG hM7 hQ) ?_
      refine sp_aload_n dX11_endText_19 rfl rfl ?_
      refine sp_iconst (v := 0) dX11_endText_20 (by decide) ?_
      refine sp_use (fun ho => ?_)
      have hs := hG.1 _ ho
      obtain ⟨M8, hM8, h⟩ := sp_do_e h
      refine sp_putI2 (RX11, TX11, 56) hG dX11_endText_21 clX11 (j := 20) (by decide) tw_1235 rfl (Or.inr ⟨rfl, (Or.inl rfl)⟩) (wsI_103 hs) hM8 ?_
      refine sp_aload_n dX11_endText_24 rfl rfl ?_
      refine sp_iconst (v := 0) dX11_endText_25 (by decide) ?_
      refine sp_use (fun ho => ?_)
      have hs := hG.1 _ ho
      obtain ⟨M9, hM9, h⟩ := sp_do_e h
      refine sp_putI2 (RX11, TX11, 56) hG dX11_endText_26 clX11 (j := 13) (by decide) tw_1228 rfl (Or.inl rfl) (wsI_103 hs) hM9 ?_
      cases h
      exact sp_vret dX11_endText_29 rfl (fun _ => hQ)
def fX11_readLaw_l4 (F : Nat) (kx : Int32 → sp_Mem → Option sp_Mem) : Nat → Int32 → Int32 → sp_Mem → Option sp_Mem
  | 0, _, _, _ => none
  | n + 1, a1, a2, M =>
  if 4 ≤ a2 then (kx a1 M) else ((sp_ix 4 a2).bind fun j2 => sp_do ((if (fX11_isWord M (sp_L M 120 j2)) = 0 then a1 else a2)) fun u4 => (fX11_readLaw_l4 F kx n) u4 (a2 + 1) M)
def fX11_readLaw_l75 (F : Nat) (kx : Int32 → Int32 → sp_Mem → Option sp_Mem) : Nat → Int32 → Int32 → Int32 → sp_Mem → Option sp_Mem
  | 0, _, _, _, _ => none
  | n + 1, a1, a2, a3, M =>
  if 8 ≤ a3 then (kx a1 a2 M) else ((sp_ix 96 (a2 + a3)).bind fun j12 => sp_do (sp_setI M 113 j12 0) fun M13 => (fX11_readLaw_l75 F kx n) a1 a2 (a3 + 1) M13)
def fX11_readLaw_j185 (F : Nat) (a2 : Int32) (M : sp_Mem) : Option sp_Mem :=
  (sp_ix 96 (a2 + 6)).bind fun j28 => sp_do (sp_setI M 113 j28 (sp_I M 103 23)) fun M29 => some M29
def fX11_readLaw_j135 (F : Nat) (a2 : Int32) (M : sp_Mem) : Option sp_Mem :=
  (sp_ix 96 (a2 + 4)).bind fun j23 => sp_do (sp_setI M 113 j23 (sp_I M 103 23)) fun M24 => (sp_ix 96 (a2 + 5)).bind fun j25 => sp_do (sp_setI M24 113 j25 (sp_I M24 103 23)) fun M26 => if (sp_I M26 103 19) = 0 then (if (fX11_isWord M26 294) = 0 then (fX11_readLaw_j185 F a2 M26) else ((fX11_next F M26).bind fun M31 => (fX11_readExpression F M31 1).bind fun M32 => fX11_readLaw_j185 F a2 M32)) else (fX11_readLaw_j185 F a2 M26)
def fX11_readLaw_j54 (F : Nat) (a1 : Int32) (s0 : Int32) (M : sp_Mem) : Option sp_Mem :=
  (fX11_must F M s0).bind fun M8 => if (sp_I M8 103 19) = 0 then (sp_do ((8 * (sp_I M8 103 21))) fun u10 => fX11_readLaw_l75 F (fun b15 b16 M14 => (sp_ix 96 b16).bind fun j17 => sp_do (sp_setI M14 113 j17 b15) fun M18 => sp_do (sp_setI M18 103 21 ((sp_I M18 103 21) + 1)) fun M19 => (sp_ix 96 (b16 + 3)).bind fun j20 => sp_do (sp_setI M19 113 j20 (sp_I M19 103 23)) fun M21 => if 2 ≤ b15 then (fX11_readLaw_j135 F b16 M21) else ((fX11_readExpression F M21 0).bind fun M33 => fX11_readLaw_j135 F b16 M33)) F a1 u10 0 M8) else (some M8)
def fX11_readLaw_j53 (F : Nat) (a1 : Int32) (M : sp_Mem) : Option sp_Mem :=
  fX11_readLaw_j54 F a1 0 M
def fX11_readLaw (F : Nat) (M : sp_Mem) : Option sp_Mem :=
  fX11_readLaw_l4 F (fun b6 M5 => if b6 = (-1) then (fX11_readLaw_j53 F b6 M5) else (fX11_readLaw_j54 F b6 (if 12 ≤ (sp_I M5 103 21) then 0 else 1) M5)) F (-1) 0 M
set_option maxRecDepth 100000 in
set_option maxHeartbeats 4000000 in
theorem tX11_readLaw_l4 {g : sp_G} {Ω : sp_Mem → Prop} {Q : sp_Qt} {F : Nat} {p : sp_Mem} (hG : sp_Ok Ω)  {kx : Int32 → sp_Mem → Option sp_Mem} (hQ : Q none p) (hx : ∀ (a1 : Int32) (M : sp_Mem), kx a1 M = some p → sp_Wp g Ω mX11_readLaw 0 0 34 [some (.ref 103), some (.int a1), none, none] [] M Q) : ∀ (n : Nat) (a1 : Int32) (a2 : Int32) (M : sp_Mem), fX11_readLaw_l4 F kx n a1 a2 M = some p → sp_Wp g Ω mX11_readLaw 0 0 4 [some (.ref 103), some (.int a1), some (.int a2), none] [] M Q := by
  intro n
  induction n with
  | zero =>
    intro a1 a2 M h
    rw [fX11_readLaw_l4] at h
    cases h
  | succ n ih =>
    intro a1 a2 M h
    rw [fX11_readLaw_l4] at h
    refine sp_iload_n dX11_readLaw_4 rfl rfl ?_
    refine sp_iconst (v := 4) dX11_readLaw_5 (by decide) ?_
    refine sp_icmp_ge (tgt := 34) dX11_readLaw_6 (by decide) (fun hc1 => ?_) (fun hc1 => ?_)
    · have h := (if_pos hc1).symm.trans h
      refine sp_weak [true, true, false, false] [some (.ref 103), some (.int a1), none, none] rfl ?_
      exact hx _ _ h
    · have h := (if_neg hc1).symm.trans h
      refine sp_aload_n dX11_readLaw_9 rfl rfl ?_
      refine sp_aload_n dX11_readLaw_10 rfl rfl ?_
      refine sp_use (fun ho => ?_)
      have hs := hG.1 _ ho
      refine sp_getR (RX11, TX11, 56) dX11_readLaw_11 clX11 (j := 33) (by decide) tw_1248 (wsI_103 hs) (Or.inr ⟨_, rfl⟩) (wsP_103_33 hs) ?_
      refine sp_iload_n dX11_readLaw_14 rfl rfl ?_
      obtain ⟨j2, hj2, h⟩ := Option.bind_eq_some_iff.mp h
      refine sp_lald2 (j := j2) dX11_readLaw_15 (wsA_120 hs) (wsN_120 hs) hj2 ?_
      refine sp_cV (M1 := M) (r := some (.int (fX11_isWord M (sp_L M 120 j2)))) (o := 103) (st := []) (c := 10) (RX11, TX11, 56) [.long (sp_L M 120 j2)] [.long (sp_L M 120 j2), .ref 103] [.int (fX11_isWord M (sp_L M 120 j2))] dX11_readLaw_16 okX11_isWord tw_1576 tw_1578 tw_48 (by decide) (by decide) rfl (Nat.le_of_ble_eq_true rfl) rfl rfl rfl rfl (wsI_103 hs) (fun Q hQ => tX11_isWord hG rfl hQ) ?_
      suffices hj : sp_Wp g Ω mX11_readLaw 0 0 27 [some (.ref 103), none, some (.int a2), none] [.int (if (fX11_isWord M (sp_L M 120 j2)) = 0 then a1 else a2)] M Q by
        refine sp_if_eq (tgt := 26) dX11_readLaw_19 (by decide) (fun hc3 => ?_) (fun hc3 => ?_)
        · refine sp_iload_n dX11_readLaw_26 rfl rfl ?_
          refine sp_weak [true, false, true, false] [some (.ref 103), none, some (.int a2), none] rfl ?_
          simp only [if_pos hc3] at hj
          exact hj
        · refine sp_iload_n dX11_readLaw_22 rfl rfl ?_
          refine sp_goto (tgt := 27) dX11_readLaw_23 (by decide) ?_
          refine sp_weak [true, false, true, false] [some (.ref 103), none, some (.int a2), none] rfl ?_
          simp only [if_neg hc3] at hj
          exact hj
      obtain ⟨u4, hu4, h⟩ := sp_do_e h
      refine sp_topi hu4 ?_
      refine sp_istore_n [some (.ref 103), some (.int u4), some (.int a2), none] dX11_readLaw_27 rfl (by decide) rfl ?_
      refine sp_iinc (v := (a2 + 1)) [some (.ref 103), some (.int u4), some (.int (a2 + 1)), none] dX11_readLaw_28 rfl rfl (by decide) rfl ?_
      refine sp_goto (tgt := 4) dX11_readLaw_31 (by decide) ?_
      refine sp_weak [true, true, true, false] [some (.ref 103), some (.int u4), some (.int (a2 + 1)), none] rfl ?_
      exact ih _ _ _ h
set_option maxRecDepth 100000 in
set_option maxHeartbeats 4000000 in
theorem tX11_readLaw_l75 {g : sp_G} {Ω : sp_Mem → Prop} {Q : sp_Qt} {F : Nat} {p : sp_Mem} (hG : sp_Ok Ω)  {kx : Int32 → Int32 → sp_Mem → Option sp_Mem} (hQ : Q none p) (hx : ∀ (a1 : Int32) (a2 : Int32) (M : sp_Mem), kx a1 a2 M = some p → sp_Wp g Ω mX11_readLaw 0 0 96 [some (.ref 103), some (.int a1), some (.int a2), none] [] M Q) : ∀ (n : Nat) (a1 : Int32) (a2 : Int32) (a3 : Int32) (M : sp_Mem), fX11_readLaw_l75 F kx n a1 a2 a3 M = some p → sp_Wp g Ω mX11_readLaw 0 0 75 [some (.ref 103), some (.int a1), some (.int a2), some (.int a3)] [] M Q := by
  intro n
  induction n with
  | zero =>
    intro a1 a2 a3 M h
    rw [fX11_readLaw_l75] at h
    cases h
  | succ n ih =>
    intro a1 a2 a3 M h
    rw [fX11_readLaw_l75] at h
    refine sp_iload_n dX11_readLaw_75 rfl rfl ?_
    refine sp_bipush (v := 8) dX11_readLaw_76 (by decide) ?_
    refine sp_icmp_ge (tgt := 96) dX11_readLaw_78 (by decide) (fun hc11 => ?_) (fun hc11 => ?_)
    · have h := (if_pos hc11).symm.trans h
      refine sp_weak [true, true, true, false] [some (.ref 103), some (.int a1), some (.int a2), none] rfl ?_
      exact hx _ _ _ h
    · have h := (if_neg hc11).symm.trans h
      refine sp_aload_n dX11_readLaw_81 rfl rfl ?_
      refine sp_use (fun ho => ?_)
      have hs := hG.1 _ ho
      refine sp_getR (RX11, TX11, 56) dX11_readLaw_82 clX11 (j := 22) (by decide) tw_1237 (wsI_103 hs) (Or.inr ⟨_, rfl⟩) (wsP_103_22 hs) ?_
      refine sp_iload_n dX11_readLaw_85 rfl rfl ?_
      refine sp_iload_n dX11_readLaw_86 rfl rfl ?_
      refine sp_iadd dX11_readLaw_87 ?_
      refine sp_iconst (v := 0) dX11_readLaw_88 (by decide) ?_
      obtain ⟨j12, hj12, h⟩ := Option.bind_eq_some_iff.mp h
      obtain ⟨M13, hM13, h⟩ := sp_do_e h
      refine sp_iast2 (j := j12) hG dX11_readLaw_89 (wsA_113 hs) (wsN_113 hs) hj12 hM13 ?_
      refine sp_iinc (v := (a3 + 1)) [some (.ref 103), some (.int a1), some (.int a2), some (.int (a3 + 1))] dX11_readLaw_90 rfl rfl (by decide) rfl ?_
      refine sp_goto (tgt := 75) dX11_readLaw_93 (by decide) ?_
      refine sp_weak [true, true, true, true] [some (.ref 103), some (.int a1), some (.int a2), some (.int (a3 + 1))] rfl ?_
      exact ih _ _ _ _ h
set_option maxRecDepth 100000 in
set_option maxHeartbeats 4000000 in
theorem tX11_readLaw_j185 {g : sp_G} {Ω : sp_Mem → Prop} {Q : sp_Qt} {F : Nat} {p : sp_Mem} (hG : sp_Ok Ω)  (hQ : Q none p) (a2 : Int32) (M : sp_Mem) (h : fX11_readLaw_j185 F a2 M = some p) : sp_Wp g Ω mX11_readLaw 0 0 185 [some (.ref 103), none, some (.int a2), none] [] M Q := by
  unfold fX11_readLaw_j185 at h
  refine sp_aload_n dX11_readLaw_185 rfl rfl ?_
  refine sp_use (fun ho => ?_)
  have hs := hG.1 _ ho
  refine sp_getR (RX11, TX11, 56) dX11_readLaw_186 clX11 (j := 22) (by decide) tw_1237 (wsI_103 hs) (Or.inr ⟨_, rfl⟩) (wsP_103_22 hs) ?_
  refine sp_iload_n dX11_readLaw_189 rfl rfl ?_
  refine sp_bipush (v := 6) dX11_readLaw_190 (by decide) ?_
  refine sp_iadd dX11_readLaw_192 ?_
  refine sp_aload_n dX11_readLaw_193 rfl rfl ?_
  refine sp_getI (RX11, TX11, 56) dX11_readLaw_194 clX11 (j := 23) (by decide) tw_1238 (wsI_103 hs) (Or.inl rfl) ?_
  obtain ⟨j28, hj28, h⟩ := Option.bind_eq_some_iff.mp h
  obtain ⟨M29, hM29, h⟩ := sp_do_e h
  refine sp_iast2 (j := j28) hG dX11_readLaw_197 (wsA_113 hs) (wsN_113 hs) hj28 hM29 ?_
  cases h
  exact sp_vret dX11_readLaw_198 rfl (fun _ => hQ)
set_option maxRecDepth 100000 in
set_option maxHeartbeats 4000000 in
theorem tX11_readLaw_j135 {g : sp_G} {Ω : sp_Mem → Prop} {Q : sp_Qt} {F : Nat} {p : sp_Mem} (hG : sp_Ok Ω)  (hQ : Q none p) (a2 : Int32) (M : sp_Mem) (h : fX11_readLaw_j135 F a2 M = some p) : sp_Wp g Ω mX11_readLaw 0 0 135 [some (.ref 103), none, some (.int a2), none] [] M Q := by
  unfold fX11_readLaw_j135 at h
  refine sp_aload_n dX11_readLaw_135 rfl rfl ?_
  refine sp_use (fun ho => ?_)
  have hs := hG.1 _ ho
  refine sp_getR (RX11, TX11, 56) dX11_readLaw_136 clX11 (j := 22) (by decide) tw_1237 (wsI_103 hs) (Or.inr ⟨_, rfl⟩) (wsP_103_22 hs) ?_
  refine sp_iload_n dX11_readLaw_139 rfl rfl ?_
  refine sp_iconst (v := 4) dX11_readLaw_140 (by decide) ?_
  refine sp_iadd dX11_readLaw_141 ?_
  refine sp_aload_n dX11_readLaw_142 rfl rfl ?_
  refine sp_getI (RX11, TX11, 56) dX11_readLaw_143 clX11 (j := 23) (by decide) tw_1238 (wsI_103 hs) (Or.inl rfl) ?_
  obtain ⟨j23, hj23, h⟩ := Option.bind_eq_some_iff.mp h
  obtain ⟨M24, hM24, h⟩ := sp_do_e h
  refine sp_iast2 (j := j23) hG dX11_readLaw_146 (wsA_113 hs) (wsN_113 hs) hj23 hM24 ?_
  refine sp_aload_n dX11_readLaw_147 rfl rfl ?_
  refine sp_use (fun ho => ?_)
  have hs := hG.1 _ ho
  refine sp_getR (RX11, TX11, 56) dX11_readLaw_148 clX11 (j := 22) (by decide) tw_1237 (wsI_103 hs) (Or.inr ⟨_, rfl⟩) (wsP_103_22 hs) ?_
  refine sp_iload_n dX11_readLaw_151 rfl rfl ?_
  refine sp_iconst (v := 5) dX11_readLaw_152 (by decide) ?_
  refine sp_iadd dX11_readLaw_153 ?_
  refine sp_aload_n dX11_readLaw_154 rfl rfl ?_
  refine sp_getI (RX11, TX11, 56) dX11_readLaw_155 clX11 (j := 23) (by decide) tw_1238 (wsI_103 hs) (Or.inl rfl) ?_
  obtain ⟨j25, hj25, h⟩ := Option.bind_eq_some_iff.mp h
  obtain ⟨M26, hM26, h⟩ := sp_do_e h
  refine sp_iast2 (j := j25) hG dX11_readLaw_158 (wsA_113 hs) (wsN_113 hs) hj25 hM26 ?_
  refine sp_aload_n dX11_readLaw_159 rfl rfl ?_
  refine sp_use (fun ho => ?_)
  have hs := hG.1 _ ho
  refine sp_getI (RX11, TX11, 56) dX11_readLaw_160 clX11 (j := 19) (by decide) tw_1234 (wsI_103 hs) (Or.inr rfl) ?_
  refine sp_if_ne (tgt := 185) dX11_readLaw_163 (by decide) (fun hc27 => ?_) (fun hc27 => ?_)
  · have h := (if_neg hc27).symm.trans h
    refine sp_weak [true, false, true, false] [some (.ref 103), none, some (.int a2), none] rfl ?_
    exact tX11_readLaw_j185 hG hQ _ _ h
  · have h := (if_pos hc27).symm.trans h
    refine sp_aload_n dX11_readLaw_166 rfl rfl ?_
    refine sp_ldc2 (v := 294) dX11_readLaw_167 tw_1658 ?_
    refine sp_cV (M1 := M26) (r := some (.int (fX11_isWord M26 294))) (o := 103) (st := []) (c := 10) (RX11, TX11, 56) [.long 294] [.long 294, .ref 103] [.int (fX11_isWord M26 294)] dX11_readLaw_170 okX11_isWord tw_1576 tw_1578 tw_48 (by decide) (by decide) rfl (Nat.le_of_ble_eq_true rfl) rfl rfl rfl rfl (wsI_103 hs) (fun Q hQ => tX11_isWord hG rfl hQ) ?_
    refine sp_if_eq (tgt := 185) dX11_readLaw_173 (by decide) (fun hc30 => ?_) (fun hc30 => ?_)
    · have h := (if_pos hc30).symm.trans h
      refine sp_weak [true, false, true, false] [some (.ref 103), none, some (.int a2), none] rfl ?_
      exact tX11_readLaw_j185 hG hQ _ _ h
    · have h := (if_neg hc30).symm.trans h
      refine sp_aload_n dX11_readLaw_176 rfl rfl ?_
      obtain ⟨M31, hM31, h⟩ := Option.bind_eq_some_iff.mp h
      refine sp_cV (M1 := M31) (r := none) (o := 103) (st := []) (c := 10) (RX11, TX11, 56) [] [.ref 103] [] dX11_readLaw_177 okX11_next tw_1557 tw_1559 tw_46 (by decide) (by decide) rfl (Nat.le_of_ble_eq_true rfl) rfl rfl rfl rfl (wsI_103 hs) (fun Q hQ => tX11_next hG hM31 hQ) ?_
      refine sp_aload_n dX11_readLaw_180 rfl rfl ?_
      refine sp_iconst (v := 1) dX11_readLaw_181 (by decide) ?_
      refine sp_use (fun ho => ?_)
      have hs := hG.1 _ ho
      obtain ⟨M32, hM32, h⟩ := Option.bind_eq_some_iff.mp h
      refine sp_cV (M1 := M32) (r := none) (o := 103) (st := []) (c := 10) (RX11, TX11, 56) [.int 1] [.int 1, .ref 103] [] dX11_readLaw_182 okX11_readExpression tw_1584 tw_1586 tw_50 (by decide) (by decide) rfl (Nat.le_of_ble_eq_true rfl) rfl rfl rfl rfl (wsI_103 hs) (fun Q hQ => tX11_readExpression hG hM32 hQ) ?_
      refine sp_weak [true, false, true, false] [some (.ref 103), none, some (.int a2), none] rfl ?_
      exact tX11_readLaw_j185 hG hQ _ _ h
set_option maxRecDepth 100000 in
set_option maxHeartbeats 4000000 in
theorem tX11_readLaw_j54 {g : sp_G} {Ω : sp_Mem → Prop} {Q : sp_Qt} {F : Nat} {p : sp_Mem} (hG : sp_Ok Ω)  (hQ : Q none p) (a1 : Int32) (s0 : Int32) (M : sp_Mem) (h : fX11_readLaw_j54 F a1 s0 M = some p) : sp_Wp g Ω mX11_readLaw 0 0 54 [some (.ref 103), some (.int a1), none, none] [.int s0, .ref 103] M Q := by
  unfold fX11_readLaw_j54 at h
  refine sp_use (fun ho => ?_)
  have hs := hG.1 _ ho
  obtain ⟨M8, hM8, h⟩ := Option.bind_eq_some_iff.mp h
  refine sp_cV (M1 := M8) (r := none) (o := 103) (st := []) (c := 10) (RX11, TX11, 56) [.int s0] [.int s0, .ref 103] [] dX11_readLaw_54 okX11_must tw_1580 tw_1582 tw_49 (by decide) (by decide) rfl (Nat.le_of_ble_eq_true rfl) rfl rfl rfl rfl (wsI_103 hs) (fun Q hQ => tX11_must hG hM8 hQ) ?_
  refine sp_aload_n dX11_readLaw_57 rfl rfl ?_
  refine sp_use (fun ho => ?_)
  have hs := hG.1 _ ho
  refine sp_getI (RX11, TX11, 56) dX11_readLaw_58 clX11 (j := 19) (by decide) tw_1234 (wsI_103 hs) (Or.inr rfl) ?_
  refine sp_if_eq (tgt := 65) dX11_readLaw_61 (by decide) (fun hc9 => ?_) (fun hc9 => ?_)
  · have h := (if_pos hc9).symm.trans h
    refine sp_bipush (v := 8) dX11_readLaw_65 (by decide) ?_
    refine sp_aload_n dX11_readLaw_67 rfl rfl ?_
    refine sp_getI (RX11, TX11, 56) dX11_readLaw_68 clX11 (j := 21) (by decide) tw_1236 (wsI_103 hs) (Or.inl rfl) ?_
    refine sp_imul dX11_readLaw_71 ?_
    obtain ⟨u10, hu10, h⟩ := sp_do_e h
    refine sp_topi hu10 ?_
    refine sp_istore_n [some (.ref 103), some (.int a1), some (.int u10), none] dX11_readLaw_72 rfl (by decide) rfl ?_
    refine sp_iconst (v := 0) dX11_readLaw_73 (by decide) ?_
    refine sp_istore_n [some (.ref 103), some (.int a1), some (.int u10), some (.int 0)] dX11_readLaw_74 rfl (by decide) rfl ?_
    refine sp_weak [true, true, true, true] [some (.ref 103), some (.int a1), some (.int u10), some (.int 0)] rfl ?_
    refine tX11_readLaw_l75 hG hQ (fun b15 b16 M14 h => ?_) F _ _ _ _ h
    refine sp_aload_n dX11_readLaw_96 rfl rfl ?_
    refine sp_use (fun ho => ?_)
    have hs := hG.1 _ ho
    refine sp_getR (RX11, TX11, 56) dX11_readLaw_97 clX11 (j := 22) (by decide) tw_1237 (wsI_103 hs) (Or.inr ⟨_, rfl⟩) (wsP_103_22 hs) ?_
    refine sp_iload_n dX11_readLaw_100 rfl rfl ?_
    refine sp_iload_n dX11_readLaw_101 rfl rfl ?_
    obtain ⟨j17, hj17, h⟩ := Option.bind_eq_some_iff.mp h
    obtain ⟨M18, hM18, h⟩ := sp_do_e h
    refine sp_iast2 (j := j17) hG dX11_readLaw_102 (wsA_113 hs) (wsN_113 hs) hj17 hM18 ?_
    refine sp_aload_n dX11_readLaw_103 rfl rfl ?_
    refine sp_dup dX11_readLaw_104 rfl ?_
    refine sp_use (fun ho => ?_)
    have hs := hG.1 _ ho
    refine sp_getI (RX11, TX11, 56) dX11_readLaw_105 clX11 (j := 21) (by decide) tw_1236 (wsI_103 hs) (Or.inl rfl) ?_
    refine sp_iconst (v := 1) dX11_readLaw_108 (by decide) ?_
    refine sp_iadd dX11_readLaw_109 ?_
    obtain ⟨M19, hM19, h⟩ := sp_do_e h
    refine sp_putI2 (RX11, TX11, 56) hG dX11_readLaw_110 clX11 (j := 21) (by decide) tw_1236 rfl (Or.inl rfl) (wsI_103 hs) hM19 ?_
    refine sp_aload_n dX11_readLaw_113 rfl rfl ?_
    refine sp_use (fun ho => ?_)
    have hs := hG.1 _ ho
    refine sp_getR (RX11, TX11, 56) dX11_readLaw_114 clX11 (j := 22) (by decide) tw_1237 (wsI_103 hs) (Or.inr ⟨_, rfl⟩) (wsP_103_22 hs) ?_
    refine sp_iload_n dX11_readLaw_117 rfl rfl ?_
    refine sp_iconst (v := 3) dX11_readLaw_118 (by decide) ?_
    refine sp_iadd dX11_readLaw_119 ?_
    refine sp_aload_n dX11_readLaw_120 rfl rfl ?_
    refine sp_getI (RX11, TX11, 56) dX11_readLaw_121 clX11 (j := 23) (by decide) tw_1238 (wsI_103 hs) (Or.inl rfl) ?_
    obtain ⟨j20, hj20, h⟩ := Option.bind_eq_some_iff.mp h
    obtain ⟨M21, hM21, h⟩ := sp_do_e h
    refine sp_iast2 (j := j20) hG dX11_readLaw_124 (wsA_113 hs) (wsN_113 hs) hj20 hM21 ?_
    refine sp_iload_n dX11_readLaw_125 rfl rfl ?_
    refine sp_iconst (v := 2) dX11_readLaw_126 (by decide) ?_
    refine sp_icmp_ge (tgt := 135) dX11_readLaw_127 (by decide) (fun hc22 => ?_) (fun hc22 => ?_)
    · have h := (if_pos hc22).symm.trans h
      refine sp_weak [true, false, true, false] [some (.ref 103), none, some (.int b16), none] rfl ?_
      exact tX11_readLaw_j135 hG hQ _ _ h
    · have h := (if_neg hc22).symm.trans h
      refine sp_aload_n dX11_readLaw_130 rfl rfl ?_
      refine sp_iconst (v := 0) dX11_readLaw_131 (by decide) ?_
      refine sp_use (fun ho => ?_)
      have hs := hG.1 _ ho
      obtain ⟨M33, hM33, h⟩ := Option.bind_eq_some_iff.mp h
      refine sp_cV (M1 := M33) (r := none) (o := 103) (st := []) (c := 10) (RX11, TX11, 56) [.int 0] [.int 0, .ref 103] [] dX11_readLaw_132 okX11_readExpression tw_1584 tw_1586 tw_50 (by decide) (by decide) rfl (Nat.le_of_ble_eq_true rfl) rfl rfl rfl rfl (wsI_103 hs) (fun Q hQ => tX11_readExpression hG hM33 hQ) ?_
      refine sp_weak [true, false, true, false] [some (.ref 103), none, some (.int b16), none] rfl ?_
      exact tX11_readLaw_j135 hG hQ _ _ h
  · have h := (if_neg hc9).symm.trans h
    cases h
    exact sp_vret dX11_readLaw_64 rfl (fun _ => hQ)
set_option maxRecDepth 100000 in
set_option maxHeartbeats 4000000 in
theorem tX11_readLaw_j53 {g : sp_G} {Ω : sp_Mem → Prop} {Q : sp_Qt} {F : Nat} {p : sp_Mem} (hG : sp_Ok Ω)  (hQ : Q none p) (a1 : Int32) (M : sp_Mem) (h : fX11_readLaw_j53 F a1 M = some p) : sp_Wp g Ω mX11_readLaw 0 0 53 [some (.ref 103), some (.int a1), none, none] [.ref 103] M Q := by
  unfold fX11_readLaw_j53 at h
  refine sp_iconst (v := 0) dX11_readLaw_53 (by decide) ?_
  refine sp_weak [true, true, false, false] [some (.ref 103), some (.int a1), none, none] rfl ?_
  exact tX11_readLaw_j54 hG hQ _ _ _ h
set_option maxRecDepth 100000 in
set_option maxHeartbeats 4000000 in
theorem tX11_readLaw {g : sp_G} {Ω : sp_Mem → Prop} {Q : sp_Qt} {F : Nat} {p : sp_Mem} (hG : sp_Ok Ω) {M : sp_Mem} (h : fX11_readLaw F M = some p) (hQ : Q none p) : sp_Mt g Ω mX11_readLaw 0 0 [.ref 103] M Q := by
  unfold fX11_readLaw at h
  refine sp_Mt.of [some (.ref 103), none, none, none] (by decide) (by simp [sp_ent, Value.category]) rfl ?_
  refine sp_iconst (v := (-1)) dX11_readLaw_0 (by decide) ?_
  refine sp_istore_n [some (.ref 103), some (.int (-1)), none, none] dX11_readLaw_1 rfl (by decide) rfl ?_
  refine sp_iconst (v := 0) dX11_readLaw_2 (by decide) ?_
  refine sp_istore_n [some (.ref 103), some (.int (-1)), some (.int 0), none] dX11_readLaw_3 rfl (by decide) rfl ?_
  refine sp_weak [true, true, true, false] [some (.ref 103), some (.int (-1)), some (.int 0), none] rfl ?_
  refine tX11_readLaw_l4 hG hQ (fun b6 M5 h => ?_) F _ _ _ h
  refine sp_aload_n dX11_readLaw_34 rfl rfl ?_
  refine sp_iload_n dX11_readLaw_35 rfl rfl ?_
  refine sp_iconst (v := (-1)) dX11_readLaw_36 (by decide) ?_
  refine sp_icmp_eq (tgt := 53) dX11_readLaw_37 (by decide) (fun hc7 => ?_) (fun hc7 => ?_)
  · have h := (if_pos hc7).symm.trans h
    refine sp_weak [true, true, false, false] [some (.ref 103), some (.int b6), none, none] rfl ?_
    exact tX11_readLaw_j53 hG hQ _ _ h
  · have h := (if_neg hc7).symm.trans h
    refine sp_aload_n dX11_readLaw_40 rfl rfl ?_
    refine sp_use (fun ho => ?_)
    have hs := hG.1 _ ho
    refine sp_getI (RX11, TX11, 56) dX11_readLaw_41 clX11 (j := 21) (by decide) tw_1236 (wsI_103 hs) (Or.inl rfl) ?_
    refine sp_bipush (v := 12) dX11_readLaw_44 (by decide) ?_
    suffices hj : sp_Wp g Ω mX11_readLaw 0 0 54 [some (.ref 103), some (.int b6), none, none] [.int (if 12 ≤ (sp_I M5 103 21) then 0 else 1), .ref 103] M5 Q by
      refine sp_icmp_ge (tgt := 53) dX11_readLaw_46 (by decide) (fun hc34 => ?_) (fun hc34 => ?_)
      · refine sp_iconst (v := 0) dX11_readLaw_53 (by decide) ?_
        simp only [if_pos hc34] at hj
        exact hj
      · refine sp_iconst (v := 1) dX11_readLaw_49 (by decide) ?_
        refine sp_goto (tgt := 54) dX11_readLaw_50 (by decide) ?_
        simp only [if_neg hc34] at hj
        exact hj
    refine sp_weak [true, true, false, false] [some (.ref 103), some (.int b6), none, none] rfl ?_
    exact tX11_readLaw_j54 hG hQ _ _ _ h
